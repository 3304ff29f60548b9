set_option maxHeartbeats 4000000 in
set_option maxRecDepth 100000 in
theorem c_X5_sprout (l : Launch) (D : va_G) (cy : Nat → ClassId) (ad : Nat → Nat) (sz : Nat) (t_places : Int32) (t_end : Int32) (t_links : Nat → Int32) (t_depths : Nat → Int32) (x1 : Int32) (x2 : Int32) {Q : Int32 → (Nat → Int32) → (Nat → Int32) → Prop} (h : wp_X5_sprout x1 x2 t_places t_links t_depths Q) : Met l yX5_sprout (wsU yX5_sprout cX5_sprout 3 none) { frames := 0, cells := 0, slots := 0, locals := 0 } (va_Pc [.ref (ad 0), .int x1, .int x2] (zB D vwCl (tyU cy) [((ad 0), .inr (4, [.ref (ad 1), .ref (ad 2), .int t_places, .int t_end])), ((ad 1), aI cy 78 t_links), ((ad 2), aI cy 13 t_depths)] sz)) ((fun A => va_Qv (fun (u : Int32 × (Nat → Int32) × (Nat → Int32)) => ∃ (z0 : Int32) (z1 : Nat → Int32) (z2 : Nat → Int32), u = (z0, z1, z2) ∧ Q z0 z1 z2) (zE D vwCl A (fun (u : Int32 × (Nat → Int32) × (Nat → Int32)) => [((ad 0), .inr (4, [.ref (ad 1), .ref (ad 2), .int (u.1), .int t_end])), ((ad 1), aI cy 78 (u.2.1)), ((ad 2), aI cy 13 (u.2.2))])) A) (va_A [((ad 0), .inr (4, [.ref (ad 1), .ref (ad 2), .int t_places, .int t_end])), ((ad 1), aI cy 78 t_links), ((ad 2), aI cy 13 t_depths)] sz)) 0 0 (va_A [((ad 0), .inr (4, [.ref (ad 1), .ref (ad 2), .int t_places, .int t_end])), ((ad 1), aI cy 78 t_links), ((ad 2), aI cy 13 t_depths)] sz) := by
  refine z_ofX (fun A => va_Qv (fun (u : Int32 × (Nat → Int32) × (Nat → Int32)) => ∃ (z0 : Int32) (z1 : Nat → Int32) (z2 : Nat → Int32), u = (z0, z1, z2) ∧ Q z0 z1 z2) (zE D vwCl A (fun (u : Int32 × (Nat → Int32) × (Nat → Int32)) => [((ad 0), .inr (4, [.ref (ad 1), .ref (ad 2), .int (u.1), .int t_end])), ((ad 1), aI cy 78 (u.2.1)), ((ad 2), aI cy 13 (u.2.2))])) A) (by decide) (Nat.le_of_ble_eq_true rfl) (fun p e s m below meth c A ls hx hb hr hml hown hts hlocks hK hPW hA hP hD hS hl => ?_)
  have hl : lv_has ls 3 [(0, .ref (ad 0)), (1, .int x1), (2, .int x2)] := hl
  have hown : s.vm.findClass RX5 = some m.cls := hown
  unfold wp_X5_sprout at h
  refine lv_aload_n hx hb dX5_sprout_0 rfl (lv_at hl 0 rfl) ?_
  refine va_get (D := D) (ci := 4) (v := .ref (ad 2)) (C := RX5) (T := TX5) (N := 4) hx hb hts iX5 hown hK hP 0 rfl rfl 1 (Nat.le_of_ble_eq_true rfl) (hts _ fl_X5_15) (fun _ h9 => h9) rfl dX5_sprout_1 ?_
  refine lv_aload_n hx hb dX5_sprout_4 rfl (lv_at hl 0 rfl) ?_
  refine va_get (D := D) (ci := 4) (v := .int t_places) (C := RX5) (T := TX5) (N := 4) hx hb hts iX5 hown hK hP 0 rfl rfl 2 (Nat.le_of_ble_eq_true rfl) (hts _ fl_X5_18) (fun _ h9 => h9) rfl dX5_sprout_5 ?_
  refine lv_aload_n hx hb dX5_sprout_8 rfl (lv_at hl 0 rfl) ?_
  refine va_get (D := D) (ci := 4) (v := .ref (ad 2)) (C := RX5) (T := TX5) (N := 4) hx hb hts iX5 hown hK hP 0 rfl rfl 1 (Nat.le_of_ble_eq_true rfl) (hts _ fl_X5_15) (fun _ h9 => h9) rfl dX5_sprout_9 ?_
  refine lv_iload_n hx hb dX5_sprout_12 rfl (lv_at hl 1 rfl) ?_
  obtain ⟨hi_5, h⟩ := h
  refine va_iald hx hb hK hP 2 0 rfl rfl hi_5 dX5_sprout_13 ?_
  refine lv_iconst (v := (1 : Int32)) hx hb dX5_sprout_14 (by decide) ?_
  refine lv_iadd hx hb dX5_sprout_15 ?_
  obtain ⟨hi_6, h⟩ := h
  refine va_iast hx hb hK hP hD hS 2 0 rfl rfl hi_6 dX5_sprout_16 (fun H locs hP hD hS => ?_)
  have hP : va_P D vwCl [((ad 0), .inr (4, [.ref (ad 1), .ref (ad 2), .int t_places, .int t_end])), ((ad 1), aI cy 78 t_links), ((ad 2), aI cy 13 (upd t_depths t_places.toNatClampNeg ((t_depths x1.toNatClampNeg) + (1 : Int32))))] H := hP
  have hD : va_D A [((ad 0), .inr (4, [.ref (ad 1), .ref (ad 2), .int t_places, .int t_end])), ((ad 1), aI cy 78 t_links), ((ad 2), aI cy 13 (upd t_depths t_places.toNatClampNeg ((t_depths x1.toNatClampNeg) + (1 : Int32))))] := hD
  refine lv_aload_n hx hb dX5_sprout_17 rfl (lv_at hl 0 rfl) ?_
  refine va_get (D := D) (ci := 4) (v := .ref (ad 1)) (C := RX5) (T := TX5) (N := 4) hx hb hts iX5 hown hK hP 0 rfl rfl 0 (Nat.le_of_ble_eq_true rfl) (hts _ fl_X5_11) (fun _ h9 => h9) rfl dX5_sprout_18 ?_
  refine lv_iload_n hx hb dX5_sprout_21 rfl (lv_at hl 1 rfl) ?_
  refine lv_bipush (v := (6 : Int32)) hx hb dX5_sprout_22 (by decide) ?_
  refine lv_imul hx hb dX5_sprout_24 ?_
  refine lv_iload_n hx hb dX5_sprout_25 rfl (lv_at hl 2 rfl) ?_
  refine lv_iadd hx hb dX5_sprout_26 ?_
  refine lv_aload_n hx hb dX5_sprout_27 rfl (lv_at hl 0 rfl) ?_
  refine va_get (D := D) (ci := 4) (v := .int t_places) (C := RX5) (T := TX5) (N := 4) hx hb hts iX5 hown hK hP 0 rfl rfl 2 (Nat.le_of_ble_eq_true rfl) (hts _ fl_X5_18) (fun _ h9 => h9) rfl dX5_sprout_28 ?_
  obtain ⟨hi_7, h⟩ := h
  refine va_iast hx hb hK hP hD hS 1 0 rfl rfl hi_7 dX5_sprout_31 (fun H locs hP hD hS => ?_)
  have hP : va_P D vwCl [((ad 0), .inr (4, [.ref (ad 1), .ref (ad 2), .int t_places, .int t_end])), ((ad 1), aI cy 78 (upd t_links ((x1 * (6 : Int32)) + x2).toNatClampNeg t_places)), ((ad 2), aI cy 13 (upd t_depths t_places.toNatClampNeg ((t_depths x1.toNatClampNeg) + (1 : Int32))))] H := hP
  have hD : va_D A [((ad 0), .inr (4, [.ref (ad 1), .ref (ad 2), .int t_places, .int t_end])), ((ad 1), aI cy 78 (upd t_links ((x1 * (6 : Int32)) + x2).toNatClampNeg t_places)), ((ad 2), aI cy 13 (upd t_depths t_places.toNatClampNeg ((t_depths x1.toNatClampNeg) + (1 : Int32))))] := hD
  refine lv_aload_n hx hb dX5_sprout_32 rfl (lv_at hl 0 rfl) ?_
  refine va_get (D := D) (ci := 4) (v := .ref (ad 1)) (C := RX5) (T := TX5) (N := 4) hx hb hts iX5 hown hK hP 0 rfl rfl 0 (Nat.le_of_ble_eq_true rfl) (hts _ fl_X5_11) (fun _ h9 => h9) rfl dX5_sprout_33 ?_
  refine lv_aload_n hx hb dX5_sprout_36 rfl (lv_at hl 0 rfl) ?_
  refine va_get (D := D) (ci := 4) (v := .int t_places) (C := RX5) (T := TX5) (N := 4) hx hb hts iX5 hown hK hP 0 rfl rfl 2 (Nat.le_of_ble_eq_true rfl) (hts _ fl_X5_18) (fun _ h9 => h9) rfl dX5_sprout_37 ?_
  refine lv_bipush (v := (6 : Int32)) hx hb dX5_sprout_40 (by decide) ?_
  refine lv_imul hx hb dX5_sprout_42 ?_
  refine lv_iload_n hx hb dX5_sprout_43 rfl (lv_at hl 2 rfl) ?_
  refine lv_iconst (v := (1 : Int32)) hx hb dX5_sprout_44 (by decide) ?_
  refine lv_ixor hx hb dX5_sprout_45 ?_
  refine lv_iadd hx hb dX5_sprout_46 ?_
  refine lv_iload_n hx hb dX5_sprout_47 rfl (lv_at hl 1 rfl) ?_
  obtain ⟨hi_8, h⟩ := h
  refine va_iast hx hb hK hP hD hS 1 0 rfl rfl hi_8 dX5_sprout_48 (fun H locs hP hD hS => ?_)
  have hP : va_P D vwCl [((ad 0), .inr (4, [.ref (ad 1), .ref (ad 2), .int t_places, .int t_end])), ((ad 1), aI cy 78 (upd (upd t_links ((x1 * (6 : Int32)) + x2).toNatClampNeg t_places) ((t_places * (6 : Int32)) + (x2 ^^^ (1 : Int32))).toNatClampNeg x1)), ((ad 2), aI cy 13 (upd t_depths t_places.toNatClampNeg ((t_depths x1.toNatClampNeg) + (1 : Int32))))] H := hP
  have hD : va_D A [((ad 0), .inr (4, [.ref (ad 1), .ref (ad 2), .int t_places, .int t_end])), ((ad 1), aI cy 78 (upd (upd t_links ((x1 * (6 : Int32)) + x2).toNatClampNeg t_places) ((t_places * (6 : Int32)) + (x2 ^^^ (1 : Int32))).toNatClampNeg x1)), ((ad 2), aI cy 13 (upd t_depths t_places.toNatClampNeg ((t_depths x1.toNatClampNeg) + (1 : Int32))))] := hD
  refine lv_aload_n hx hb dX5_sprout_49 rfl (lv_at hl 0 rfl) ?_
  refine lv_dup hx hb dX5_sprout_50 rfl ?_
  refine va_get (D := D) (ci := 4) (v := .int t_places) (C := RX5) (T := TX5) (N := 4) hx hb hts iX5 hown hK hP 0 rfl rfl 2 (Nat.le_of_ble_eq_true rfl) (hts _ fl_X5_18) (fun _ h9 => h9) rfl dX5_sprout_51 ?_
  refine lv_iconst (v := (1 : Int32)) hx hb dX5_sprout_54 (by decide) ?_
  refine lv_iadd hx hb dX5_sprout_55 ?_
  refine va_put (D := D) (ci := 4) (v := .int (t_places + (1 : Int32))) (ty := .int) (C := RX5) (T := TX5) (N := 4) hx hb hts iX5 tyX5 tyX5_ok nmX5 hown hK hP hD hS 0 rfl rfl 2 (Nat.le_of_ble_eq_true rfl) (hts _ fl_X5_18) (fun _ h9 => h9) rfl (by decide +kernel) rfl rfl (Nat.le_of_ble_eq_true rfl) dX5_sprout_56 (fun H locs hP hD hS => ?_)
  have hP : va_P D vwCl [((ad 0), .inr (4, [.ref (ad 1), .ref (ad 2), .int (t_places + (1 : Int32)), .int t_end])), ((ad 1), aI cy 78 (upd (upd t_links ((x1 * (6 : Int32)) + x2).toNatClampNeg t_places) ((t_places * (6 : Int32)) + (x2 ^^^ (1 : Int32))).toNatClampNeg x1)), ((ad 2), aI cy 13 (upd t_depths t_places.toNatClampNeg ((t_depths x1.toNatClampNeg) + (1 : Int32))))] H := hP
  have hD : va_D A [((ad 0), .inr (4, [.ref (ad 1), .ref (ad 2), .int (t_places + (1 : Int32)), .int t_end])), ((ad 1), aI cy 78 (upd (upd t_links ((x1 * (6 : Int32)) + x2).toNatClampNeg t_places) ((t_places * (6 : Int32)) + (x2 ^^^ (1 : Int32))).toNatClampNeg x1)), ((ad 2), aI cy 13 (upd t_depths t_places.toNatClampNeg ((t_depths x1.toNatClampNeg) + (1 : Int32))))] := hD
  exact z_vret ((t_places + (1 : Int32)), (upd (upd t_links ((x1 * (6 : Int32)) + x2).toNatClampNeg t_places) ((t_places * (6 : Int32)) + (x2 ^^^ (1 : Int32))).toNatClampNeg x1), (upd t_depths t_places.toNatClampNeg ((t_depths x1.toNatClampNeg) + (1 : Int32)))) hx hb hr hlocks ⟨(t_places + (1 : Int32)), (upd (upd t_links ((x1 * (6 : Int32)) + x2).toNatClampNeg t_places) ((t_places * (6 : Int32)) + (x2 ^^^ (1 : Int32))).toNatClampNeg x1), (upd t_depths t_places.toNatClampNeg ((t_depths x1.toNatClampNeg) + (1 : Int32))), rfl, h⟩ hP hD hS dX5_sprout_59
set_option maxHeartbeats 4000000 in
set_option maxRecDepth 100000 in
theorem c_X5_grow (l : Launch) (D : va_G) (cy : Nat → ClassId) (ad : Nat → Nat) (ad1 : Nat → Nat) (sz : Nat) (t_places : Int32) (t_end : Int32) (t_links : Nat → Int32) (t_depths : Nat → Int32) (p1_w_letters : Nat → Int32) (p1_w_length : Int32) {Q : Int32 → Int32 → (Nat → Int32) → (Nat → Int32) → Prop} (h : wp_X5_grow t_places t_end t_links t_depths p1_w_letters p1_w_length Q) : Met l yX5_grow (wsU yX5_grow cX5_grow 5 none) { frames := 1, cells := 0, slots := 0, locals := 23 } (va_Pc [.ref (ad 0), .ref (ad1 0)] (zB D vwCl (tyU cy) [((ad 0), .inr (4, [.ref (ad 1), .ref (ad 2), .int t_places, .int t_end])), ((ad 1), aI cy 78 t_links), ((ad 2), aI cy 13 t_depths), ((ad1 0), .inr (5, [.ref (ad1 1), .int p1_w_length])), ((ad1 1), aI cy 12 p1_w_letters)] sz)) ((fun A => va_Qv (fun (u : Int32 × Int32 × (Nat → Int32) × (Nat → Int32)) => ∃ (z0 : Int32) (z1 : Int32) (z2 : Nat → Int32) (z3 : Nat → Int32), u = (z0, z1, z2, z3) ∧ Q z0 z1 z2 z3) (zE D vwCl A (fun (u : Int32 × Int32 × (Nat → Int32) × (Nat → Int32)) => [((ad 0), .inr (4, [.ref (ad 1), .ref (ad 2), .int (u.1), .int (u.2.1)])), ((ad 1), aI cy 78 (u.2.2.1)), ((ad 2), aI cy 13 (u.2.2.2)), ((ad1 0), .inr (5, [.ref (ad1 1), .int p1_w_length])), ((ad1 1), aI cy 12 p1_w_letters)])) A) (va_A [((ad 0), .inr (4, [.ref (ad 1), .ref (ad 2), .int t_places, .int t_end])), ((ad 1), aI cy 78 t_links), ((ad 2), aI cy 13 t_depths), ((ad1 0), .inr (5, [.ref (ad1 1), .int p1_w_length])), ((ad1 1), aI cy 12 p1_w_letters)] sz)) 0 0 (va_A [((ad 0), .inr (4, [.ref (ad 1), .ref (ad 2), .int t_places, .int t_end])), ((ad 1), aI cy 78 t_links), ((ad 2), aI cy 13 t_depths), ((ad1 0), .inr (5, [.ref (ad1 1), .int p1_w_length])), ((ad1 1), aI cy 12 p1_w_letters)] sz) := by
  refine z_ofX (fun A => va_Qv (fun (u : Int32 × Int32 × (Nat → Int32) × (Nat → Int32)) => ∃ (z0 : Int32) (z1 : Int32) (z2 : Nat → Int32) (z3 : Nat → Int32), u = (z0, z1, z2, z3) ∧ Q z0 z1 z2 z3) (zE D vwCl A (fun (u : Int32 × Int32 × (Nat → Int32) × (Nat → Int32)) => [((ad 0), .inr (4, [.ref (ad 1), .ref (ad 2), .int (u.1), .int (u.2.1)])), ((ad 1), aI cy 78 (u.2.2.1)), ((ad 2), aI cy 13 (u.2.2.2)), ((ad1 0), .inr (5, [.ref (ad1 1), .int p1_w_length])), ((ad1 1), aI cy 12 p1_w_letters)])) A) (by decide) (Nat.le_of_ble_eq_true rfl) (fun p e s m below meth c A ls hx hb hr hml hown hts hlocks hK hPW hA hP hD hS hl => ?_)
  have hl : lv_has ls 5 [(0, .ref (ad 0)), (1, .ref (ad1 0))] := hl
  have hown : s.vm.findClass RX5 = some m.cls := hown
  generalize hArg : ([.ref (ad 0), .ref (ad1 0)] : List Value).toArray = args at hts ⊢
  have hJ62 : ∀ (x2 : Int32) (x3 : Int32) (x4 : Int32) (t_places : Int32) (t_end : Int32) (t_links : Nat → Int32) (t_depths : Nat → Int32) (rc24 : Int32 → Int32 → Int32 → (Nat → Int32) → (Nat → Int32) → Prop) (hrc24 : ∀ (x2 : Int32) (x3 : Int32) (t_places : Int32) (t_links : Nat → Int32) (t_depths : Nat → Int32), rc24 x2 x3 t_places t_links t_depths → ∀ (H : Heap) (locs : List Loc) (ls : Array Slot), va_P D vwCl [((ad 0), .inr (4, [.ref (ad 1), .ref (ad 2), .int t_places, .int t_end])), ((ad 1), aI cy 78 t_links), ((ad 2), aI cy 13 t_depths), ((ad1 0), .inr (5, [.ref (ad1 1), .int p1_w_length])), ((ad1 1), aI cy 12 p1_w_letters)] H → va_D A [((ad 0), .inr (4, [.ref (ad 1), .ref (ad 2), .int t_places, .int t_end])), ((ad 1), aI cy 78 t_links), ((ad 2), aI cy 13 t_depths), ((ad1 0), .inr (5, [.ref (ad1 1), .int p1_w_length])), ((ad1 1), aI cy 12 p1_w_letters)] → va_S A s.heap H locs → lv_has ls 5 [(0, .ref (ad 0)), (1, .ref (ad1 0)), (2, .int x2), (3, .int x3)] → W p l e { frames := 1, cells := 0, slots := 0, locals := 23 } s m args below meth c H locs 0 0 (MQ below ((fun A => va_Qv (fun (u : Int32 × Int32 × (Nat → Int32) × (Nat → Int32)) => ∃ (z0 : Int32) (z1 : Int32) (z2 : Nat → Int32) (z3 : Nat → Int32), u = (z0, z1, z2, z3) ∧ Q z0 z1 z2 z3) (zE D vwCl A (fun (u : Int32 × Int32 × (Nat → Int32) × (Nat → Int32)) => [((ad 0), .inr (4, [.ref (ad 1), .ref (ad 2), .int (u.1), .int (u.2.1)])), ((ad 1), aI cy 78 (u.2.2.1)), ((ad 2), aI cy 13 (u.2.2.2)), ((ad1 0), .inr (5, [.ref (ad1 1), .int p1_w_length])), ((ad1 1), aI cy 12 p1_w_letters)])) A) A) args s 0 0 A) (F0 m 24 ls [])), wp_X5_grow_62 p1_w_letters p1_w_length x2 x3 x4 t_places t_end t_links t_depths rc24 Q → ∀ (H : Heap) (locs : List Loc) (ls : Array Slot), va_P D vwCl [((ad 0), .inr (4, [.ref (ad 1), .ref (ad 2), .int t_places, .int t_end])), ((ad 1), aI cy 78 t_links), ((ad 2), aI cy 13 t_depths), ((ad1 0), .inr (5, [.ref (ad1 1), .int p1_w_length])), ((ad1 1), aI cy 12 p1_w_letters)] H → va_D A [((ad 0), .inr (4, [.ref (ad 1), .ref (ad 2), .int t_places, .int t_end])), ((ad 1), aI cy 78 t_links), ((ad 2), aI cy 13 t_depths), ((ad1 0), .inr (5, [.ref (ad1 1), .int p1_w_length])), ((ad1 1), aI cy 12 p1_w_letters)] → va_S A s.heap H locs → lv_has ls 5 [(0, .ref (ad 0)), (1, .ref (ad1 0)), (2, .int x2), (3, .int x3), (4, .int x4)] → W p l e { frames := 1, cells := 0, slots := 0, locals := 23 } s m args below meth c H locs 0 0 (MQ below ((fun A => va_Qv (fun (u : Int32 × Int32 × (Nat → Int32) × (Nat → Int32)) => ∃ (z0 : Int32) (z1 : Int32) (z2 : Nat → Int32) (z3 : Nat → Int32), u = (z0, z1, z2, z3) ∧ Q z0 z1 z2 z3) (zE D vwCl A (fun (u : Int32 × Int32 × (Nat → Int32) × (Nat → Int32)) => [((ad 0), .inr (4, [.ref (ad 1), .ref (ad 2), .int (u.1), .int (u.2.1)])), ((ad 1), aI cy 78 (u.2.2.1)), ((ad 2), aI cy 13 (u.2.2.2)), ((ad1 0), .inr (5, [.ref (ad1 1), .int p1_w_length])), ((ad1 1), aI cy 12 p1_w_letters)])) A) A) args s 0 0 A) (F0 m 62 ls []) := by
    intro x2 x3 x4 t_places t_end t_links t_depths rc24 hrc24  h H locs ls hP hD hS hl
    unfold wp_X5_grow_62 at h
    refine lv_aload_n hx hb dX5_grow_62 rfl (lv_at hl 0 rfl) ?_
    refine va_get (D := D) (ci := 4) (v := .ref (ad 1)) (C := RX5) (T := TX5) (N := 4) hx hb hts iX5 hown hK hP 0 rfl rfl 0 (Nat.le_of_ble_eq_true rfl) (hts _ fl_X5_11) (fun _ h9 => h9) rfl dX5_grow_63 ?_
    refine lv_iload_n hx hb dX5_grow_66 rfl (lv_at hl 2 rfl) ?_
    refine lv_bipush (v := (6 : Int32)) hx hb dX5_grow_67 (by decide) ?_
    refine lv_imul hx hb dX5_grow_69 ?_
    refine lv_iload hx hb dX5_grow_70 (lv_at hl 4 rfl) ?_
    refine lv_iadd hx hb dX5_grow_72 ?_
    obtain ⟨hi_12, h⟩ := h
    refine va_iald hx hb hK hP 1 0 rfl rfl hi_12 dX5_grow_73 ?_
    refine lv_topi (fun x2_13 e_x2_13 => ?_)
    have h := h x2_13 e_x2_13
    refine lv_istore_n (lv' := [(2, .int x2_13), (0, .ref (ad 0)), (1, .ref (ad1 0)), (3, .int x3), (4, .int x4)]) hx hb dX5_grow_74 rfl hl (by decide) rfl (fun ls hl => ?_)
    obtain ⟨x3_14, e_x3_14⟩ : ∃ y : Int32, y = x3 + (1 : Int32) := ⟨_, rfl⟩
    refine lv_iinc (v := x3_14) (lv' := [(3, .int x3_14), (2, .int x2_13), (0, .ref (ad 0)), (1, .ref (ad1 0)), (4, .int x4)]) hx hb dX5_grow_75 hl (k := 3) rfl (by rw [e_x3_14]; rfl) (by decide) rfl (fun ls hl => ?_)
    have h := h x3_14 e_x3_14
    refine lv_goto (tgt := 24) hx hb dX5_grow_78 (by decide) ?_
    exact hrc24 x2_13 x3_14 t_places t_links t_depths h _ _ _ hP hD hS (lv_sub hl [2, 3, 1, 0] rfl)
  have hJ24 : ∀ (x2 : Int32) (x3 : Int32) (t_places : Int32) (t_end : Int32) (t_links : Nat → Int32) (t_depths : Nat → Int32), wp_X5_grow_24 p1_w_letters p1_w_length t_end  Q x2 x3 t_places t_links t_depths → ∀ (H : Heap) (locs : List Loc) (ls : Array Slot), va_P D vwCl [((ad 0), .inr (4, [.ref (ad 1), .ref (ad 2), .int t_places, .int t_end])), ((ad 1), aI cy 78 t_links), ((ad 2), aI cy 13 t_depths), ((ad1 0), .inr (5, [.ref (ad1 1), .int p1_w_length])), ((ad1 1), aI cy 12 p1_w_letters)] H → va_D A [((ad 0), .inr (4, [.ref (ad 1), .ref (ad 2), .int t_places, .int t_end])), ((ad 1), aI cy 78 t_links), ((ad 2), aI cy 13 t_depths), ((ad1 0), .inr (5, [.ref (ad1 1), .int p1_w_length])), ((ad1 1), aI cy 12 p1_w_letters)] → va_S A s.heap H locs → lv_has ls 5 [(0, .ref (ad 0)), (1, .ref (ad1 0)), (2, .int x2), (3, .int x3)] → W p l e { frames := 1, cells := 0, slots := 0, locals := 23 } s m args below meth c H locs 0 0 (MQ below ((fun A => va_Qv (fun (u : Int32 × Int32 × (Nat → Int32) × (Nat → Int32)) => ∃ (z0 : Int32) (z1 : Int32) (z2 : Nat → Int32) (z3 : Nat → Int32), u = (z0, z1, z2, z3) ∧ Q z0 z1 z2 z3) (zE D vwCl A (fun (u : Int32 × Int32 × (Nat → Int32) × (Nat → Int32)) => [((ad 0), .inr (4, [.ref (ad 1), .ref (ad 2), .int (u.1), .int (u.2.1)])), ((ad 1), aI cy 78 (u.2.2.1)), ((ad 2), aI cy 13 (u.2.2.2)), ((ad1 0), .inr (5, [.ref (ad1 1), .int p1_w_length])), ((ad1 1), aI cy 12 p1_w_letters)])) A) A) args s 0 0 A) (F0 m 24 ls []) := by
    intro x2 x3 t_places t_end t_links t_depths   h
    obtain ⟨nn, h⟩ := h
    have key : ∀ (nn : Nat) (x2 : Int32) (x3 : Int32) (t_places : Int32) (t_links : Nat → Int32) (t_depths : Nat → Int32), lpW5 (wb_X5_grow_24 p1_w_letters p1_w_length t_end  Q) nn x2 x3 t_places t_links t_depths → ∀ (H : Heap) (locs : List Loc) (ls : Array Slot), va_P D vwCl [((ad 0), .inr (4, [.ref (ad 1), .ref (ad 2), .int t_places, .int t_end])), ((ad 1), aI cy 78 t_links), ((ad 2), aI cy 13 t_depths), ((ad1 0), .inr (5, [.ref (ad1 1), .int p1_w_length])), ((ad1 1), aI cy 12 p1_w_letters)] H → va_D A [((ad 0), .inr (4, [.ref (ad 1), .ref (ad 2), .int t_places, .int t_end])), ((ad 1), aI cy 78 t_links), ((ad 2), aI cy 13 t_depths), ((ad1 0), .inr (5, [.ref (ad1 1), .int p1_w_length])), ((ad1 1), aI cy 12 p1_w_letters)] → va_S A s.heap H locs → lv_has ls 5 [(0, .ref (ad 0)), (1, .ref (ad1 0)), (2, .int x2), (3, .int x3)] → W p l e { frames := 1, cells := 0, slots := 0, locals := 23 } s m args below meth c H locs 0 0 (MQ below ((fun A => va_Qv (fun (u : Int32 × Int32 × (Nat → Int32) × (Nat → Int32)) => ∃ (z0 : Int32) (z1 : Int32) (z2 : Nat → Int32) (z3 : Nat → Int32), u = (z0, z1, z2, z3) ∧ Q z0 z1 z2 z3) (zE D vwCl A (fun (u : Int32 × Int32 × (Nat → Int32) × (Nat → Int32)) => [((ad 0), .inr (4, [.ref (ad 1), .ref (ad 2), .int (u.1), .int (u.2.1)])), ((ad 1), aI cy 78 (u.2.2.1)), ((ad 2), aI cy 13 (u.2.2.2)), ((ad1 0), .inr (5, [.ref (ad1 1), .int p1_w_length])), ((ad1 1), aI cy 12 p1_w_letters)])) A) A) args s 0 0 A) (F0 m 24 ls []) := by
      intro nn
      induction nn with
      | zero => intro x2 x3 t_places t_links t_depths h; exact h.elim
      | succ nn hrc24 =>
        intro x2 x3 t_places t_links t_depths h H locs ls hP hD hS hl
        have h : wb_X5_grow_24 p1_w_letters p1_w_length t_end  Q (lpW5 (wb_X5_grow_24 p1_w_letters p1_w_length t_end  Q) nn) x2 x3 t_places t_links t_depths := h
        unfold wb_X5_grow_24 at h
        refine lv_iload_n hx hb dX5_grow_24 rfl (lv_at hl 3 rfl) ?_
        refine lv_aload_n hx hb dX5_grow_25 rfl (lv_at hl 1 rfl) ?_
        refine va_get (D := D) (ci := 5) (v := .int p1_w_length) (C := RX6) (T := TX6) (N := 2) hx hb hts iX6 hown hK hP 3 rfl rfl 1 (Nat.le_of_ble_eq_true rfl) (hts _ fl_X5_31) (fun _ h9 => h9) rfl dX5_grow_26 ?_
        refine lv_icmp_ge (tgt := 81) hx hb dX5_grow_29 (by decide) (fun c_15 => ?_) (fun c_15 => ?_)
        · have h := h.1 c_15
          refine lv_aload_n hx hb dX5_grow_81 rfl (lv_at hl 0 rfl) ?_
          refine lv_iload_n hx hb dX5_grow_82 rfl (lv_at hl 2 rfl) ?_
          refine va_put (D := D) (ci := 4) (v := .int x2) (ty := .int) (C := RX5) (T := TX5) (N := 4) hx hb hts iX5 tyX5 tyX5_ok nmX5 hown hK hP hD hS 0 rfl rfl 3 (Nat.le_of_ble_eq_true rfl) (hts _ fl_X5_22) (fun _ h9 => h9) rfl (by decide +kernel) rfl rfl (Nat.le_of_ble_eq_true rfl) dX5_grow_83 (fun H locs hP hD hS => ?_)
          have hP : va_P D vwCl [((ad 0), .inr (4, [.ref (ad 1), .ref (ad 2), .int t_places, .int x2])), ((ad 1), aI cy 78 t_links), ((ad 2), aI cy 13 t_depths), ((ad1 0), .inr (5, [.ref (ad1 1), .int p1_w_length])), ((ad1 1), aI cy 12 p1_w_letters)] H := hP
          have hD : va_D A [((ad 0), .inr (4, [.ref (ad 1), .ref (ad 2), .int t_places, .int x2])), ((ad 1), aI cy 78 t_links), ((ad 2), aI cy 13 t_depths), ((ad1 0), .inr (5, [.ref (ad1 1), .int p1_w_length])), ((ad1 1), aI cy 12 p1_w_letters)] := hD
          exact z_vret (t_places, x2, t_links, t_depths) hx hb hr hlocks ⟨t_places, x2, t_links, t_depths, rfl, h⟩ hP hD hS dX5_grow_86
        · have h := h.2 c_15
          refine lv_aload_n hx hb dX5_grow_32 rfl (lv_at hl 1 rfl) ?_
          refine va_get (D := D) (ci := 5) (v := .ref (ad1 1)) (C := RX6) (T := TX6) (N := 2) hx hb hts iX6 hown hK hP 3 rfl rfl 0 (Nat.le_of_ble_eq_true rfl) (hts _ fl_X5_36) (fun _ h9 => h9) rfl dX5_grow_33 ?_
          refine lv_iload_n hx hb dX5_grow_36 rfl (lv_at hl 3 rfl) ?_
          obtain ⟨hi_16, h⟩ := h
          refine va_iald hx hb hK hP 4 0 rfl rfl hi_16 dX5_grow_37 ?_
          refine lv_topi (fun x4_17 e_x4_17 => ?_)
          have h := h x4_17 e_x4_17
          refine lv_istore (lv' := [(4, .int x4_17), (0, .ref (ad 0)), (1, .ref (ad1 0)), (2, .int x2), (3, .int x3)]) hx hb dX5_grow_38 hl (by decide) rfl (fun ls hl => ?_)
          refine lv_aload_n hx hb dX5_grow_40 rfl (lv_at hl 1 rfl) ?_
          refine va_get (D := D) (ci := 4) (v := .ref (ad 1)) (C := RX5) (T := TX5) (N := 4) hx hb hts iX5 hown hK hP 0 rfl rfl 0 (Nat.le_of_ble_eq_true rfl) (hts _ fl_X5_11) (fun _ h9 => h9) rfl dX5_grow_41 ?_
          refine lv_iload_n hx hb dX5_grow_44 rfl (lv_at hl 3 rfl) ?_
          refine lv_bipush (v := (6 : Int32)) hx hb dX5_grow_45 (by decide) ?_
          refine lv_imul hx hb dX5_grow_47 ?_
          refine lv_iload hx hb dX5_grow_48 (lv_at hl 0 rfl) ?_
          refine lv_iadd hx hb dX5_grow_50 ?_
          obtain ⟨hi_18, h⟩ := h
          refine va_iald hx hb hK hP 1 0 rfl rfl hi_18 dX5_grow_51 ?_
          refine lv_if_ge (tgt := 62) hx hb dX5_grow_52 (by decide) (fun c_19 => ?_) (fun c_19 => ?_)
          · have h := h.1 c_19
            exact hJ62 x2 x3 x4_17 t_places t_end t_links t_depths _ hrc24  h _ _ _ hP hD hS (lv_sub hl [1, 2, 3, 4, 0] rfl)
          · have h := h.2 c_19
            refine lv_aload_n hx hb dX5_grow_55 rfl (lv_at hl 1 rfl) ?_
            refine lv_iload_n hx hb dX5_grow_56 rfl (lv_at hl 3 rfl) ?_
            refine lv_iload hx hb dX5_grow_57 (lv_at hl 0 rfl) ?_
            refine zc_Vv (As := [.int x2, .int x4_17]) (rest := []) (wc := [((ad 0), .inr (4, [.ref (ad 1), .ref (ad 2), .int t_places, .int t_end])), ((ad 1), aI cy 78 t_links), ((ad 2), aI cy 13 t_depths)]) (wr := [((ad1 0), .inr (5, [.ref (ad1 1), .int p1_w_length])), ((ad1 1), aI cy 12 p1_w_letters)]) hx hb hml hown hts hK hPW hA hl.1 hP hD hS ⟨Nat.zero_le _, Nat.zero_le _⟩ [0, 1, 2] [3, 4] rfl rfl (by decide) (c_X5_sprout l D cy (sz := _) (x1 := x2) (x2 := x4_17) (ad := ad) (t_places := t_places) (t_end := t_end) (t_links := t_links) (t_depths := t_depths) (h := h)) k_X5_39 ⟨rfl, rfl, (Nat.le_of_ble_eq_true rfl), (Nat.le_of_ble_eq_true rfl)⟩ rfl rfl rfl rfl (Nat.le_of_ble_eq_true rfl) dX5_grow_59 (fun u_20 H locs h hP hD hS => ?_)
            obtain ⟨t_places_20, t_links_20, t_depths_20, rfl, h⟩ := h
            have hP : va_P D vwCl [((ad1 0), .inr (5, [.ref (ad1 1), .int p1_w_length])), ((ad1 1), aI cy 12 p1_w_letters), ((ad 0), .inr (4, [.ref (ad 1), .ref (ad 2), .int t_places_20, .int t_end])), ((ad 1), aI cy 78 t_links_20), ((ad 2), aI cy 13 t_depths_20)] H := hP
            have hD : va_D A [((ad1 0), .inr (5, [.ref (ad1 1), .int p1_w_length])), ((ad1 1), aI cy 12 p1_w_letters), ((ad 0), .inr (4, [.ref (ad 1), .ref (ad 2), .int t_places_20, .int t_end])), ((ad 1), aI cy 78 t_links_20), ((ad 2), aI cy 13 t_depths_20)] := hD
            exact hJ62 x2 x3 x4_17 t_places_20 t_end t_links_20 t_depths_20 _ hrc24  h _ _ _ (hP.sub [2, 3, 4, 0, 1] rfl) (hD.sub [2, 3, 4, 0, 1] (by decide) rfl) hS (lv_sub hl [1, 2, 3, 4, 0] rfl)
    exact key nn x2 x3 t_places t_links t_depths h
  unfold wp_X5_grow at h
  refine lv_aload_n hx hb dX5_grow_0 rfl (lv_at hl 0 rfl) ?_
  refine va_get (D := D) (ci := 4) (v := .ref (ad 1)) (C := RX5) (T := TX5) (N := 4) hx hb hts iX5 hown hK hP 0 rfl rfl 0 (Nat.le_of_ble_eq_true rfl) (hts _ fl_X5_11) (fun _ h9 => h9) rfl dX5_grow_1 ?_
  refine lv_iconst (v := (-1 : Int32)) hx hb dX5_grow_4 (by decide) ?_
  refine zc_Sv (As := [.ref (ad 1), .int (-1 : Int32)]) (rest := []) (wc := [((ad 1), aI cy 78 t_links)]) (wr := [((ad 0), .inr (4, [.ref (ad 1), .ref (ad 2), .int t_places, .int t_end])), ((ad 2), aI cy 13 t_depths), ((ad1 0), .inr (5, [.ref (ad1 1), .int p1_w_length])), ((ad1 1), aI cy 12 p1_w_letters)]) hx hb hml hown hts hK hPW hA hl.1 hP hD hS ⟨Nat.zero_le _, Nat.zero_le _⟩ [1] [0, 2, 3, 4] rfl rfl (by decide) (c_J7_fill_53178 l D cy (sz := _) (x1 := (-1 : Int32)) (a0 := (ad 1)) (l0 := 78) (p0_arr := t_links) (h := h)) k_X5_25 ⟨rfl, rfl, (Nat.le_of_ble_eq_true rfl), (Nat.le_of_ble_eq_true rfl)⟩ rfl rfl (Nat.le_of_ble_eq_true rfl) dX5_grow_5 (fun p0_arr_21 H locs h hP hD hS => ?_)
  have hP : va_P D vwCl [((ad 0), .inr (4, [.ref (ad 1), .ref (ad 2), .int t_places, .int t_end])), ((ad 2), aI cy 13 t_depths), ((ad1 0), .inr (5, [.ref (ad1 1), .int p1_w_length])), ((ad1 1), aI cy 12 p1_w_letters), ((ad 1), aI cy 78 p0_arr_21)] H := hP
  have hD : va_D A [((ad 0), .inr (4, [.ref (ad 1), .ref (ad 2), .int t_places, .int t_end])), ((ad 2), aI cy 13 t_depths), ((ad1 0), .inr (5, [.ref (ad1 1), .int p1_w_length])), ((ad1 1), aI cy 12 p1_w_letters), ((ad 1), aI cy 78 p0_arr_21)] := hD
  refine lv_aload_n hx hb dX5_grow_8 rfl (lv_at hl 0 rfl) ?_
  refine lv_iconst (v := (1 : Int32)) hx hb dX5_grow_9 (by decide) ?_
  refine va_put (D := D) (ci := 4) (v := .int (1 : Int32)) (ty := .int) (C := RX5) (T := TX5) (N := 4) hx hb hts iX5 tyX5 tyX5_ok nmX5 hown hK hP hD hS 0 rfl rfl 2 (Nat.le_of_ble_eq_true rfl) (hts _ fl_X5_18) (fun _ h9 => h9) rfl (by decide +kernel) rfl rfl (Nat.le_of_ble_eq_true rfl) dX5_grow_10 (fun H locs hP hD hS => ?_)
  have hP : va_P D vwCl [((ad 0), .inr (4, [.ref (ad 1), .ref (ad 2), .int (1 : Int32), .int t_end])), ((ad 2), aI cy 13 t_depths), ((ad1 0), .inr (5, [.ref (ad1 1), .int p1_w_length])), ((ad1 1), aI cy 12 p1_w_letters), ((ad 1), aI cy 78 p0_arr_21)] H := hP
  have hD : va_D A [((ad 0), .inr (4, [.ref (ad 1), .ref (ad 2), .int (1 : Int32), .int t_end])), ((ad 2), aI cy 13 t_depths), ((ad1 0), .inr (5, [.ref (ad1 1), .int p1_w_length])), ((ad1 1), aI cy 12 p1_w_letters), ((ad 1), aI cy 78 p0_arr_21)] := hD
  refine lv_aload_n hx hb dX5_grow_13 rfl (lv_at hl 0 rfl) ?_
  refine va_get (D := D) (ci := 4) (v := .ref (ad 2)) (C := RX5) (T := TX5) (N := 4) hx hb hts iX5 hown hK hP 0 rfl rfl 1 (Nat.le_of_ble_eq_true rfl) (hts _ fl_X5_15) (fun _ h9 => h9) rfl dX5_grow_14 ?_
  refine lv_iconst (v := (0 : Int32)) hx hb dX5_grow_17 (by decide) ?_
  refine lv_iconst (v := (0 : Int32)) hx hb dX5_grow_18 (by decide) ?_
  obtain ⟨hi_22, h⟩ := h
  refine va_iast hx hb hK hP hD hS 1 0 rfl rfl hi_22 dX5_grow_19 (fun H locs hP hD hS => ?_)
  have hP : va_P D vwCl [((ad 0), .inr (4, [.ref (ad 1), .ref (ad 2), .int (1 : Int32), .int t_end])), ((ad 2), aI cy 13 (upd t_depths (0 : Int32).toNatClampNeg (0 : Int32))), ((ad1 0), .inr (5, [.ref (ad1 1), .int p1_w_length])), ((ad1 1), aI cy 12 p1_w_letters), ((ad 1), aI cy 78 p0_arr_21)] H := hP
  have hD : va_D A [((ad 0), .inr (4, [.ref (ad 1), .ref (ad 2), .int (1 : Int32), .int t_end])), ((ad 2), aI cy 13 (upd t_depths (0 : Int32).toNatClampNeg (0 : Int32))), ((ad1 0), .inr (5, [.ref (ad1 1), .int p1_w_length])), ((ad1 1), aI cy 12 p1_w_letters), ((ad 1), aI cy 78 p0_arr_21)] := hD
  refine lv_iconst (v := (0 : Int32)) hx hb dX5_grow_20 (by decide) ?_
  refine lv_istore_n (lv' := [(2, .int (0 : Int32)), (0, .ref (ad 0)), (1, .ref (ad1 0))]) hx hb dX5_grow_21 rfl hl (by decide) rfl (fun ls hl => ?_)
  refine lv_iconst (v := (0 : Int32)) hx hb dX5_grow_22 (by decide) ?_
  refine lv_istore_n (lv' := [(3, .int (0 : Int32)), (2, .int (0 : Int32)), (0, .ref (ad 0)), (1, .ref (ad1 0))]) hx hb dX5_grow_23 rfl hl (by decide) rfl (fun ls hl => ?_)
  exact hJ24 (0 : Int32) (0 : Int32) (1 : Int32) t_end p0_arr_21 (upd t_depths (0 : Int32).toNatClampNeg (0 : Int32))   h _ _ _ (hP.sub [0, 4, 1, 2, 3] rfl) (hD.sub [0, 4, 1, 2, 3] (by decide) rfl) hS (lv_sub hl [2, 3, 1, 0] rfl)
set_option maxHeartbeats 4000000 in
set_option maxRecDepth 100000 in
theorem c_X5_accepts (l : Launch) (D : va_G) (cy : Nat → ClassId) (ad : Nat → Nat) (ad1 : Nat → Nat) (sz : Nat) (t_places : Int32) (t_end : Int32) (t_links : Nat → Int32) (p1_w_letters : Nat → Int32) (p1_w_length : Int32) {Q : Int32 → Prop} (h : wp_X5_accepts t_end t_links p1_w_letters p1_w_length Q) : Met l yX5_accepts (wsU yX5_accepts cX5_accepts 2 (some .boolean)) { frames := 1, cells := 0, slots := 0, locals := 24 } (va_Pc [.ref (ad 0), .ref (ad1 0)] (zB D vwCl (tyU cy) [((ad 0), .inr (4, [.ref (ad 1), .ref (ad 2), .int t_places, .int t_end])), ((ad 1), aI cy 78 t_links), ((ad1 0), .inr (5, [.ref (ad1 1), .int p1_w_length])), ((ad1 1), aI cy 12 p1_w_letters)] sz)) ((fun A => va_Qi (fun (r : Int32) (_ : Unit) => Q r ) (zE D vwCl A (fun (_ : Unit) => [((ad 0), .inr (4, [.ref (ad 1), .ref (ad 2), .int t_places, .int t_end])), ((ad 1), aI cy 78 t_links), ((ad1 0), .inr (5, [.ref (ad1 1), .int p1_w_length])), ((ad1 1), aI cy 12 p1_w_letters)])) A) (va_A [((ad 0), .inr (4, [.ref (ad 1), .ref (ad 2), .int t_places, .int t_end])), ((ad 1), aI cy 78 t_links), ((ad1 0), .inr (5, [.ref (ad1 1), .int p1_w_length])), ((ad1 1), aI cy 12 p1_w_letters)] sz)) 0 0 (va_A [((ad 0), .inr (4, [.ref (ad 1), .ref (ad 2), .int t_places, .int t_end])), ((ad 1), aI cy 78 t_links), ((ad1 0), .inr (5, [.ref (ad1 1), .int p1_w_length])), ((ad1 1), aI cy 12 p1_w_letters)] sz) := by
  refine z_ofX (fun A => va_Qi (fun (r : Int32) (_ : Unit) => Q r ) (zE D vwCl A (fun (_ : Unit) => [((ad 0), .inr (4, [.ref (ad 1), .ref (ad 2), .int t_places, .int t_end])), ((ad 1), aI cy 78 t_links), ((ad1 0), .inr (5, [.ref (ad1 1), .int p1_w_length])), ((ad1 1), aI cy 12 p1_w_letters)])) A) (by decide) (Nat.le_of_ble_eq_true rfl) (fun p e s m below meth c A ls hx hb hr hml hown hts hlocks hK hPW hA hP hD hS hl => ?_)
  have hl : lv_has ls 2 [(0, .ref (ad 0)), (1, .ref (ad1 0))] := hl
  have hown : s.vm.findClass RX5 = some m.cls := hown
  unfold wp_X5_accepts at h
  refine lv_aload_n hx hb dX5_accepts_0 rfl (lv_at hl 1 rfl) ?_
  refine lv_aload_n hx hb dX5_accepts_1 rfl (lv_at hl 0 rfl) ?_
  refine va_get (D := D) (ci := 4) (v := .ref (ad 1)) (C := RX5) (T := TX5) (N := 4) hx hb hts iX5 hown hK hP 0 rfl rfl 0 (Nat.le_of_ble_eq_true rfl) (hts _ fl_X5_11) (fun _ h9 => h9) rfl dX5_accepts_2 ?_
  refine lv_iconst (v := (0 : Int32)) hx hb dX5_accepts_5 (by decide) ?_
  refine zc_Vi (As := [.ref (ad 1), .int (0 : Int32)]) (rest := []) (wc := [((ad1 0), .inr (5, [.ref (ad1 1), .int p1_w_length])), ((ad1 1), aI cy 12 p1_w_letters), ((ad 1), aI cy 78 t_links)]) (wr := [((ad 0), .inr (4, [.ref (ad 1), .ref (ad 2), .int t_places, .int t_end]))]) hx hb hml hown hts hK hPW hA hl.1 hP hD hS ⟨Nat.zero_le _, Nat.zero_le _⟩ [2, 3, 1] [0] rfl rfl (by decide) (c_X6_follow l D cy (sz := _) (x2 := (0 : Int32)) (ad := ad1) (a1 := (ad 1)) (l1 := 78) (w_letters := p1_w_letters) (w_length := p1_w_length) (p1_arr := t_links) (h := h)) k_X5_43 ⟨rfl, rfl, (Nat.le_of_ble_eq_true rfl), (Nat.le_of_ble_eq_true rfl)⟩ rfl rfl rfl rfl (Nat.le_of_ble_eq_true rfl) dX5_accepts_6 (fun r_3 _ H locs h hP hD hS => ?_)
  have hP : va_P D vwCl [((ad 0), .inr (4, [.ref (ad 1), .ref (ad 2), .int t_places, .int t_end])), ((ad1 0), .inr (5, [.ref (ad1 1), .int p1_w_length])), ((ad1 1), aI cy 12 p1_w_letters), ((ad 1), aI cy 78 t_links)] H := hP
  have hD : va_D A [((ad 0), .inr (4, [.ref (ad 1), .ref (ad 2), .int t_places, .int t_end])), ((ad1 0), .inr (5, [.ref (ad1 1), .int p1_w_length])), ((ad1 1), aI cy 12 p1_w_letters), ((ad 1), aI cy 78 t_links)] := hD
  refine lv_aload_n hx hb dX5_accepts_9 rfl (lv_at hl 0 rfl) ?_
  refine va_get (D := D) (ci := 4) (v := .int t_end) (C := RX5) (T := TX5) (N := 4) hx hb hts iX5 hown hK hP 0 rfl rfl 3 (Nat.le_of_ble_eq_true rfl) (hts _ fl_X5_22) (fun _ h9 => h9) rfl dX5_accepts_10 ?_
  refine lv_icmp_ne (tgt := 20) hx hb dX5_accepts_13 (by decide) (fun c_4 => ?_) (fun c_4 => ?_)
  · have h := h.1 c_4
    refine lv_iconst (v := (0 : Int32)) hx hb dX5_accepts_20 (by decide) ?_
    exact z_zret () hx hb hr hlocks rfl h (hP.sub [0, 3, 1, 2] rfl) (hD.sub [0, 3, 1, 2] (by decide) rfl) hS dX5_accepts_21
  · have h := h.2 c_4
    refine lv_iconst (v := (1 : Int32)) hx hb dX5_accepts_16 (by decide) ?_
    refine lv_goto (tgt := 21) hx hb dX5_accepts_17 (by decide) ?_
    exact z_zret () hx hb hr hlocks rfl h (hP.sub [0, 3, 1, 2] rfl) (hD.sub [0, 3, 1, 2] (by decide) rfl) hS dX5_accepts_21
set_option maxHeartbeats 4000000 in
set_option maxRecDepth 100000 in
theorem c_X5_farthest (l : Launch) (D : va_G) (cy : Nat → ClassId) (ad : Nat → Nat) (sz : Nat) (t_places : Int32) (t_end : Int32) (t_depths : Nat → Int32) {Q : Int32 → Prop} (h : wp_X5_farthest t_places t_depths Q) : Met l yX5_farthest (wsU yX5_farthest cX5_farthest 3 (some .int)) { frames := 1, cells := 0, slots := 0, locals := 32 } (va_Pc [.ref (ad 0)] (zB D vwCl (tyU cy) [((ad 0), .inr (4, [.ref (ad 1), .ref (ad 2), .int t_places, .int t_end])), ((ad 2), aI cy 13 t_depths)] sz)) ((fun A => va_Qi (fun (r : Int32) (_ : Unit) => Q r ) (zE D vwCl A (fun (_ : Unit) => [((ad 0), .inr (4, [.ref (ad 1), .ref (ad 2), .int t_places, .int t_end])), ((ad 2), aI cy 13 t_depths)])) A) (va_A [((ad 0), .inr (4, [.ref (ad 1), .ref (ad 2), .int t_places, .int t_end])), ((ad 2), aI cy 13 t_depths)] sz)) 0 0 (va_A [((ad 0), .inr (4, [.ref (ad 1), .ref (ad 2), .int t_places, .int t_end])), ((ad 2), aI cy 13 t_depths)] sz) := by
  refine z_ofX (fun A => va_Qi (fun (r : Int32) (_ : Unit) => Q r ) (zE D vwCl A (fun (_ : Unit) => [((ad 0), .inr (4, [.ref (ad 1), .ref (ad 2), .int t_places, .int t_end])), ((ad 2), aI cy 13 t_depths)])) A) (by decide) (Nat.le_of_ble_eq_true rfl) (fun p e s m below meth c A ls hx hb hr hml hown hts hlocks hK hPW hA hP hD hS hl => ?_)
  have hl : lv_has ls 3 [(0, .ref (ad 0))] := hl
  have hown : s.vm.findClass RX5 = some m.cls := hown
  generalize hArg : ([.ref (ad 0)] : List Value).toArray = args at hts ⊢
  have hJ4 : ∀ (x1 : Int32) (x2 : Int32), wp_X5_farthest_4 t_places t_depths  Q x1 x2 → ∀ (H : Heap) (locs : List Loc) (ls : Array Slot), va_P D vwCl [((ad 0), .inr (4, [.ref (ad 1), .ref (ad 2), .int t_places, .int t_end])), ((ad 2), aI cy 13 t_depths)] H → va_D A [((ad 0), .inr (4, [.ref (ad 1), .ref (ad 2), .int t_places, .int t_end])), ((ad 2), aI cy 13 t_depths)] → va_S A s.heap H locs → lv_has ls 3 [(0, .ref (ad 0)), (1, .int x1), (2, .int x2)] → W p l e { frames := 1, cells := 0, slots := 0, locals := 32 } s m args below meth c H locs 0 0 (MQ below ((fun A => va_Qi (fun (r : Int32) (_ : Unit) => Q r ) (zE D vwCl A (fun (_ : Unit) => [((ad 0), .inr (4, [.ref (ad 1), .ref (ad 2), .int t_places, .int t_end])), ((ad 2), aI cy 13 t_depths)])) A) A) args s 0 0 A) (F0 m 4 ls []) := by
    intro x1 x2   h
    obtain ⟨nn, h⟩ := h
    have key : ∀ (nn : Nat) (x1 : Int32) (x2 : Int32), lpW2 (wb_X5_farthest_4 t_places t_depths  Q) nn x1 x2 → ∀ (H : Heap) (locs : List Loc) (ls : Array Slot), va_P D vwCl [((ad 0), .inr (4, [.ref (ad 1), .ref (ad 2), .int t_places, .int t_end])), ((ad 2), aI cy 13 t_depths)] H → va_D A [((ad 0), .inr (4, [.ref (ad 1), .ref (ad 2), .int t_places, .int t_end])), ((ad 2), aI cy 13 t_depths)] → va_S A s.heap H locs → lv_has ls 3 [(0, .ref (ad 0)), (1, .int x1), (2, .int x2)] → W p l e { frames := 1, cells := 0, slots := 0, locals := 32 } s m args below meth c H locs 0 0 (MQ below ((fun A => va_Qi (fun (r : Int32) (_ : Unit) => Q r ) (zE D vwCl A (fun (_ : Unit) => [((ad 0), .inr (4, [.ref (ad 1), .ref (ad 2), .int t_places, .int t_end])), ((ad 2), aI cy 13 t_depths)])) A) A) args s 0 0 A) (F0 m 4 ls []) := by
      intro nn
      induction nn with
      | zero => intro x1 x2 h; exact h.elim
      | succ nn hrc4 =>
        intro x1 x2 h H locs ls hP hD hS hl
        have h : wb_X5_farthest_4 t_places t_depths  Q (lpW2 (wb_X5_farthest_4 t_places t_depths  Q) nn) x1 x2 := h
        unfold wb_X5_farthest_4 at h
        refine lv_iload_n hx hb dX5_farthest_4 rfl (lv_at hl 2 rfl) ?_
        refine lv_aload_n hx hb dX5_farthest_5 rfl (lv_at hl 0 rfl) ?_
        refine va_get (D := D) (ci := 4) (v := .int t_places) (C := RX5) (T := TX5) (N := 4) hx hb hts iX5 hown hK hP 0 rfl rfl 2 (Nat.le_of_ble_eq_true rfl) (hts _ fl_X5_18) (fun _ h9 => h9) rfl dX5_farthest_6 ?_
        refine lv_icmp_ge (tgt := 29) hx hb dX5_farthest_9 (by decide) (fun c_5 => ?_) (fun c_5 => ?_)
        · have h := h.1 c_5
          refine lv_iload_n hx hb dX5_farthest_29 rfl (lv_at hl 1 rfl) ?_
          exact z_iret () hx hb hr hlocks h hP hD hS dX5_farthest_30
        · have h := h.2 c_5
          refine lv_iload_n hx hb dX5_farthest_12 rfl (lv_at hl 1 rfl) ?_
          refine lv_aload_n hx hb dX5_farthest_13 rfl (lv_at hl 0 rfl) ?_
          refine va_get (D := D) (ci := 4) (v := .ref (ad 2)) (C := RX5) (T := TX5) (N := 4) hx hb hts iX5 hown hK hP 0 rfl rfl 1 (Nat.le_of_ble_eq_true rfl) (hts _ fl_X5_15) (fun _ h9 => h9) rfl dX5_farthest_14 ?_
          refine lv_iload_n hx hb dX5_farthest_17 rfl (lv_at hl 2 rfl) ?_
          obtain ⟨hi_6, h⟩ := h
          refine va_iald hx hb hK hP 1 0 rfl rfl hi_6 dX5_farthest_18 ?_
          refine va_mmax hx hb (hml.trans hl.1.symm) hown (hts _ mm_X5_47) (hts _ ms_max) (hts _ in_J9) (hts _ mc_max) (Nat.le_of_ble_eq_true rfl) (Nat.le_of_ble_eq_true rfl) (Nat.zero_le _) (Nat.zero_le _) dX5_farthest_19 ?_
          refine lv_topi (fun x1_7 e_x1_7 => ?_)
          have h := h x1_7 e_x1_7
          refine lv_istore_n (lv' := [(1, .int x1_7), (0, .ref (ad 0)), (2, .int x2)]) hx hb dX5_farthest_22 rfl hl (by decide) rfl (fun ls hl => ?_)
          obtain ⟨x2_8, e_x2_8⟩ : ∃ y : Int32, y = x2 + (1 : Int32) := ⟨_, rfl⟩
          refine lv_iinc (v := x2_8) (lv' := [(2, .int x2_8), (1, .int x1_7), (0, .ref (ad 0))]) hx hb dX5_farthest_23 hl (k := 2) rfl (by rw [e_x2_8]; rfl) (by decide) rfl (fun ls hl => ?_)
          have h := h x2_8 e_x2_8
          refine lv_goto (tgt := 4) hx hb dX5_farthest_26 (by decide) ?_
          exact hrc4 x1_7 x2_8 h _ _ _ hP hD hS (lv_sub hl [2, 1, 0] rfl)
    exact key nn x1 x2 h
  unfold wp_X5_farthest at h
  refine lv_iconst (v := (0 : Int32)) hx hb dX5_farthest_0 (by decide) ?_
  refine lv_istore_n (lv' := [(1, .int (0 : Int32)), (0, .ref (ad 0))]) hx hb dX5_farthest_1 rfl hl (by decide) rfl (fun ls hl => ?_)
  refine lv_iconst (v := (0 : Int32)) hx hb dX5_farthest_2 (by decide) ?_
  refine lv_istore_n (lv' := [(2, .int (0 : Int32)), (1, .int (0 : Int32)), (0, .ref (ad 0))]) hx hb dX5_farthest_3 rfl hl (by decide) rfl (fun ls hl => ?_)
  exact hJ4 (0 : Int32) (0 : Int32)   h _ _ _ hP hD hS (lv_sub hl [2, 1, 0] rfl)
set_option maxHeartbeats 4000000 in
set_option maxRecDepth 100000 in
theorem c_X5_leaves (l : Launch) (D : va_G) (cy : Nat → ClassId) (ad : Nat → Nat) (sz : Nat) (t_places : Int32) (t_end : Int32) (t_links : Nat → Int32) {Q : Int32 → Prop} (h : wp_X5_leaves t_places t_links Q) : Met l yX5_leaves (wsU yX5_leaves cX5_leaves 5 (some .int)) { frames := 0, cells := 0, slots := 0, locals := 0 } (va_Pc [.ref (ad 0)] (zB D vwCl (tyU cy) [((ad 0), .inr (4, [.ref (ad 1), .ref (ad 2), .int t_places, .int t_end])), ((ad 1), aI cy 78 t_links)] sz)) ((fun A => va_Qi (fun (r : Int32) (_ : Unit) => Q r ) (zE D vwCl A (fun (_ : Unit) => [((ad 0), .inr (4, [.ref (ad 1), .ref (ad 2), .int t_places, .int t_end])), ((ad 1), aI cy 78 t_links)])) A) (va_A [((ad 0), .inr (4, [.ref (ad 1), .ref (ad 2), .int t_places, .int t_end])), ((ad 1), aI cy 78 t_links)] sz)) 0 0 (va_A [((ad 0), .inr (4, [.ref (ad 1), .ref (ad 2), .int t_places, .int t_end])), ((ad 1), aI cy 78 t_links)] sz) := by
  refine z_ofX (fun A => va_Qi (fun (r : Int32) (_ : Unit) => Q r ) (zE D vwCl A (fun (_ : Unit) => [((ad 0), .inr (4, [.ref (ad 1), .ref (ad 2), .int t_places, .int t_end])), ((ad 1), aI cy 78 t_links)])) A) (by decide) (Nat.le_of_ble_eq_true rfl) (fun p e s m below meth c A ls hx hb hr hml hown hts hlocks hK hPW hA hP hD hS hl => ?_)
  have hl : lv_has ls 5 [(0, .ref (ad 0))] := hl
  have hown : s.vm.findClass RX5 = some m.cls := hown
  generalize hArg : ([.ref (ad 0)] : List Value).toArray = args at hts ⊢
  have hJ42 : ∀ (x1 : Int32) (x2 : Int32) (x3 : Int32) (x4 : Int32) (rc4 : Int32 → Int32 → Prop) (hrc4 : ∀ (x1 : Int32) (x2 : Int32), rc4 x1 x2 → ∀ (H : Heap) (locs : List Loc) (ls : Array Slot), va_P D vwCl [((ad 0), .inr (4, [.ref (ad 1), .ref (ad 2), .int t_places, .int t_end])), ((ad 1), aI cy 78 t_links)] H → va_D A [((ad 0), .inr (4, [.ref (ad 1), .ref (ad 2), .int t_places, .int t_end])), ((ad 1), aI cy 78 t_links)] → va_S A s.heap H locs → lv_has ls 5 [(0, .ref (ad 0)), (1, .int x1), (2, .int x2)] → W p l e { frames := 0, cells := 0, slots := 0, locals := 0 } s m args below meth c H locs 0 0 (MQ below ((fun A => va_Qi (fun (r : Int32) (_ : Unit) => Q r ) (zE D vwCl A (fun (_ : Unit) => [((ad 0), .inr (4, [.ref (ad 1), .ref (ad 2), .int t_places, .int t_end])), ((ad 1), aI cy 78 t_links)])) A) A) args s 0 0 A) (F0 m 4 ls [])) (rc17 : Int32 → Int32 → Prop) (hrc17 : ∀ (x3 : Int32) (x4 : Int32), rc17 x3 x4 → ∀ (H : Heap) (locs : List Loc) (ls : Array Slot), va_P D vwCl [((ad 0), .inr (4, [.ref (ad 1), .ref (ad 2), .int t_places, .int t_end])), ((ad 1), aI cy 78 t_links)] H → va_D A [((ad 0), .inr (4, [.ref (ad 1), .ref (ad 2), .int t_places, .int t_end])), ((ad 1), aI cy 78 t_links)] → va_S A s.heap H locs → lv_has ls 5 [(0, .ref (ad 0)), (1, .int x1), (2, .int x2), (3, .int x3), (4, .int x4)] → W p l e { frames := 0, cells := 0, slots := 0, locals := 0 } s m args below meth c H locs 0 0 (MQ below ((fun A => va_Qi (fun (r : Int32) (_ : Unit) => Q r ) (zE D vwCl A (fun (_ : Unit) => [((ad 0), .inr (4, [.ref (ad 1), .ref (ad 2), .int t_places, .int t_end])), ((ad 1), aI cy 78 t_links)])) A) A) args s 0 0 A) (F0 m 17 ls [])), wp_X5_leaves_42 t_places t_links x1 x2 x3 x4 rc4 rc17 Q → ∀ (H : Heap) (locs : List Loc) (ls : Array Slot), va_P D vwCl [((ad 0), .inr (4, [.ref (ad 1), .ref (ad 2), .int t_places, .int t_end])), ((ad 1), aI cy 78 t_links)] H → va_D A [((ad 0), .inr (4, [.ref (ad 1), .ref (ad 2), .int t_places, .int t_end])), ((ad 1), aI cy 78 t_links)] → va_S A s.heap H locs → lv_has ls 5 [(0, .ref (ad 0)), (1, .int x1), (2, .int x2), (3, .int x3), (4, .int x4)] → W p l e { frames := 0, cells := 0, slots := 0, locals := 0 } s m args below meth c H locs 0 0 (MQ below ((fun A => va_Qi (fun (r : Int32) (_ : Unit) => Q r ) (zE D vwCl A (fun (_ : Unit) => [((ad 0), .inr (4, [.ref (ad 1), .ref (ad 2), .int t_places, .int t_end])), ((ad 1), aI cy 78 t_links)])) A) A) args s 0 0 A) (F0 m 42 ls []) := by
    intro x1 x2 x3 x4 rc4 hrc4 rc17 hrc17  h H locs ls hP hD hS hl
    unfold wp_X5_leaves_42 at h
    obtain ⟨x4_10, e_x4_10⟩ : ∃ y : Int32, y = x4 + (1 : Int32) := ⟨_, rfl⟩
    refine lv_iinc (v := x4_10) (lv' := [(4, .int x4_10), (0, .ref (ad 0)), (1, .int x1), (2, .int x2), (3, .int x3)]) hx hb dX5_leaves_42 hl (k := 4) rfl (by rw [e_x4_10]; rfl) (by decide) rfl (fun ls hl => ?_)
    have h := h x4_10 e_x4_10
    refine lv_goto (tgt := 17) hx hb dX5_leaves_45 (by decide) ?_
    exact hrc17 x3 x4_10 h _ _ _ hP hD hS (lv_sub hl [1, 2, 3, 4, 0] rfl)
  have hJ56 : ∀ (x1 : Int32) (x2 : Int32) (rc4 : Int32 → Int32 → Prop) (hrc4 : ∀ (x1 : Int32) (x2 : Int32), rc4 x1 x2 → ∀ (H : Heap) (locs : List Loc) (ls : Array Slot), va_P D vwCl [((ad 0), .inr (4, [.ref (ad 1), .ref (ad 2), .int t_places, .int t_end])), ((ad 1), aI cy 78 t_links)] H → va_D A [((ad 0), .inr (4, [.ref (ad 1), .ref (ad 2), .int t_places, .int t_end])), ((ad 1), aI cy 78 t_links)] → va_S A s.heap H locs → lv_has ls 5 [(0, .ref (ad 0)), (1, .int x1), (2, .int x2)] → W p l e { frames := 0, cells := 0, slots := 0, locals := 0 } s m args below meth c H locs 0 0 (MQ below ((fun A => va_Qi (fun (r : Int32) (_ : Unit) => Q r ) (zE D vwCl A (fun (_ : Unit) => [((ad 0), .inr (4, [.ref (ad 1), .ref (ad 2), .int t_places, .int t_end])), ((ad 1), aI cy 78 t_links)])) A) A) args s 0 0 A) (F0 m 4 ls [])), wp_X5_leaves_56 t_places t_links x1 x2 rc4 Q → ∀ (H : Heap) (locs : List Loc) (ls : Array Slot), va_P D vwCl [((ad 0), .inr (4, [.ref (ad 1), .ref (ad 2), .int t_places, .int t_end])), ((ad 1), aI cy 78 t_links)] H → va_D A [((ad 0), .inr (4, [.ref (ad 1), .ref (ad 2), .int t_places, .int t_end])), ((ad 1), aI cy 78 t_links)] → va_S A s.heap H locs → lv_has ls 5 [(0, .ref (ad 0)), (1, .int x1), (2, .int x2)] → W p l e { frames := 0, cells := 0, slots := 0, locals := 0 } s m args below meth c H locs 0 0 (MQ below ((fun A => va_Qi (fun (r : Int32) (_ : Unit) => Q r ) (zE D vwCl A (fun (_ : Unit) => [((ad 0), .inr (4, [.ref (ad 1), .ref (ad 2), .int t_places, .int t_end])), ((ad 1), aI cy 78 t_links)])) A) A) args s 0 0 A) (F0 m 56 ls []) := by
    intro x1 x2 rc4 hrc4  h H locs ls hP hD hS hl
    unfold wp_X5_leaves_56 at h
    obtain ⟨x2_11, e_x2_11⟩ : ∃ y : Int32, y = x2 + (1 : Int32) := ⟨_, rfl⟩
    refine lv_iinc (v := x2_11) (lv' := [(2, .int x2_11), (0, .ref (ad 0)), (1, .int x1)]) hx hb dX5_leaves_56 hl (k := 2) rfl (by rw [e_x2_11]; rfl) (by decide) rfl (fun ls hl => ?_)
    have h := h x2_11 e_x2_11
    refine lv_goto (tgt := 4) hx hb dX5_leaves_59 (by decide) ?_
    exact hrc4 x1 x2_11 h _ _ _ hP hD hS (lv_sub hl [1, 2, 0] rfl)
  have hJ17 : ∀ (x1 : Int32) (x2 : Int32) (x3 : Int32) (x4 : Int32) (rc4 : Int32 → Int32 → Prop) (hrc4 : ∀ (x1 : Int32) (x2 : Int32), rc4 x1 x2 → ∀ (H : Heap) (locs : List Loc) (ls : Array Slot), va_P D vwCl [((ad 0), .inr (4, [.ref (ad 1), .ref (ad 2), .int t_places, .int t_end])), ((ad 1), aI cy 78 t_links)] H → va_D A [((ad 0), .inr (4, [.ref (ad 1), .ref (ad 2), .int t_places, .int t_end])), ((ad 1), aI cy 78 t_links)] → va_S A s.heap H locs → lv_has ls 5 [(0, .ref (ad 0)), (1, .int x1), (2, .int x2)] → W p l e { frames := 0, cells := 0, slots := 0, locals := 0 } s m args below meth c H locs 0 0 (MQ below ((fun A => va_Qi (fun (r : Int32) (_ : Unit) => Q r ) (zE D vwCl A (fun (_ : Unit) => [((ad 0), .inr (4, [.ref (ad 1), .ref (ad 2), .int t_places, .int t_end])), ((ad 1), aI cy 78 t_links)])) A) A) args s 0 0 A) (F0 m 4 ls [])), wp_X5_leaves_17 t_places t_links x1 x2 rc4 Q x3 x4 → ∀ (H : Heap) (locs : List Loc) (ls : Array Slot), va_P D vwCl [((ad 0), .inr (4, [.ref (ad 1), .ref (ad 2), .int t_places, .int t_end])), ((ad 1), aI cy 78 t_links)] H → va_D A [((ad 0), .inr (4, [.ref (ad 1), .ref (ad 2), .int t_places, .int t_end])), ((ad 1), aI cy 78 t_links)] → va_S A s.heap H locs → lv_has ls 5 [(0, .ref (ad 0)), (1, .int x1), (2, .int x2), (3, .int x3), (4, .int x4)] → W p l e { frames := 0, cells := 0, slots := 0, locals := 0 } s m args below meth c H locs 0 0 (MQ below ((fun A => va_Qi (fun (r : Int32) (_ : Unit) => Q r ) (zE D vwCl A (fun (_ : Unit) => [((ad 0), .inr (4, [.ref (ad 1), .ref (ad 2), .int t_places, .int t_end])), ((ad 1), aI cy 78 t_links)])) A) A) args s 0 0 A) (F0 m 17 ls []) := by
    intro x1 x2 x3 x4 rc4 hrc4  h
    obtain ⟨nn, h⟩ := h
    have key : ∀ (nn : Nat) (x3 : Int32) (x4 : Int32), lpW2 (wb_X5_leaves_17 t_places t_links x1 x2 rc4 Q) nn x3 x4 → ∀ (H : Heap) (locs : List Loc) (ls : Array Slot), va_P D vwCl [((ad 0), .inr (4, [.ref (ad 1), .ref (ad 2), .int t_places, .int t_end])), ((ad 1), aI cy 78 t_links)] H → va_D A [((ad 0), .inr (4, [.ref (ad 1), .ref (ad 2), .int t_places, .int t_end])), ((ad 1), aI cy 78 t_links)] → va_S A s.heap H locs → lv_has ls 5 [(0, .ref (ad 0)), (1, .int x1), (2, .int x2), (3, .int x3), (4, .int x4)] → W p l e { frames := 0, cells := 0, slots := 0, locals := 0 } s m args below meth c H locs 0 0 (MQ below ((fun A => va_Qi (fun (r : Int32) (_ : Unit) => Q r ) (zE D vwCl A (fun (_ : Unit) => [((ad 0), .inr (4, [.ref (ad 1), .ref (ad 2), .int t_places, .int t_end])), ((ad 1), aI cy 78 t_links)])) A) A) args s 0 0 A) (F0 m 17 ls []) := by
      intro nn
      induction nn with
      | zero => intro x3 x4 h; exact h.elim
      | succ nn hrc17 =>
        intro x3 x4 h H locs ls hP hD hS hl
        have h : wb_X5_leaves_17 t_places t_links x1 x2 rc4 Q (lpW2 (wb_X5_leaves_17 t_places t_links x1 x2 rc4 Q) nn) x3 x4 := h
        unfold wb_X5_leaves_17 at h
        refine lv_iload hx hb dX5_leaves_17 (lv_at hl 4 rfl) ?_
        refine lv_bipush (v := (6 : Int32)) hx hb dX5_leaves_19 (by decide) ?_
        refine lv_icmp_ge (tgt := 48) hx hb dX5_leaves_21 (by decide) (fun c_12 => ?_) (fun c_12 => ?_)
        · have h := h.1 c_12
          refine lv_iload_n hx hb dX5_leaves_48 rfl (lv_at hl 3 rfl) ?_
          refine lv_iconst (v := (1 : Int32)) hx hb dX5_leaves_49 (by decide) ?_
          refine lv_icmp_ne (tgt := 56) hx hb dX5_leaves_50 (by decide) (fun c_13 => ?_) (fun c_13 => ?_)
          · have h := h.1 c_13
            exact hJ56 x1 x2 _ hrc4  h _ _ _ hP hD hS (lv_sub hl [0, 1, 2] rfl)
          · have h := h.2 c_13
            obtain ⟨x1_14, e_x1_14⟩ : ∃ y : Int32, y = x1 + (1 : Int32) := ⟨_, rfl⟩
            refine lv_iinc (v := x1_14) (lv' := [(1, .int x1_14), (0, .ref (ad 0)), (2, .int x2), (3, .int x3), (4, .int x4)]) hx hb dX5_leaves_53 hl (k := 1) rfl (by rw [e_x1_14]; rfl) (by decide) rfl (fun ls hl => ?_)
            have h := h x1_14 e_x1_14
            exact hJ56 x1_14 x2 _ hrc4  h _ _ _ hP hD hS (lv_sub hl [1, 0, 2] rfl)
        · have h := h.2 c_12
          refine lv_aload_n hx hb dX5_leaves_24 rfl (lv_at hl 0 rfl) ?_
          refine va_get (D := D) (ci := 4) (v := .ref (ad 1)) (C := RX5) (T := TX5) (N := 4) hx hb hts iX5 hown hK hP 0 rfl rfl 0 (Nat.le_of_ble_eq_true rfl) (hts _ fl_X5_11) (fun _ h9 => h9) rfl dX5_leaves_25 ?_
          refine lv_iload_n hx hb dX5_leaves_28 rfl (lv_at hl 2 rfl) ?_
          refine lv_bipush (v := (6 : Int32)) hx hb dX5_leaves_29 (by decide) ?_
          refine lv_imul hx hb dX5_leaves_31 ?_
          refine lv_iload hx hb dX5_leaves_32 (lv_at hl 4 rfl) ?_
          refine lv_iadd hx hb dX5_leaves_34 ?_
          obtain ⟨hi_15, h⟩ := h
          refine va_iald hx hb hK hP 1 0 rfl rfl hi_15 dX5_leaves_35 ?_
          refine lv_if_lt (tgt := 42) hx hb dX5_leaves_36 (by decide) (fun c_16 => ?_) (fun c_16 => ?_)
          · have h := h.1 c_16
            exact hJ42 x1 x2 x3 x4 _ hrc4 _ hrc17  h _ _ _ hP hD hS (lv_sub hl [0, 1, 2, 3, 4] rfl)
          · have h := h.2 c_16
            obtain ⟨x3_17, e_x3_17⟩ : ∃ y : Int32, y = x3 + (1 : Int32) := ⟨_, rfl⟩
            refine lv_iinc (v := x3_17) (lv' := [(3, .int x3_17), (0, .ref (ad 0)), (1, .int x1), (2, .int x2), (4, .int x4)]) hx hb dX5_leaves_39 hl (k := 3) rfl (by rw [e_x3_17]; rfl) (by decide) rfl (fun ls hl => ?_)
            have h := h x3_17 e_x3_17
            exact hJ42 x1 x2 x3_17 x4 _ hrc4 _ hrc17  h _ _ _ hP hD hS (lv_sub hl [1, 2, 3, 0, 4] rfl)
    exact key nn x3 x4 h
  have hJ4 : ∀ (x1 : Int32) (x2 : Int32), wp_X5_leaves_4 t_places t_links  Q x1 x2 → ∀ (H : Heap) (locs : List Loc) (ls : Array Slot), va_P D vwCl [((ad 0), .inr (4, [.ref (ad 1), .ref (ad 2), .int t_places, .int t_end])), ((ad 1), aI cy 78 t_links)] H → va_D A [((ad 0), .inr (4, [.ref (ad 1), .ref (ad 2), .int t_places, .int t_end])), ((ad 1), aI cy 78 t_links)] → va_S A s.heap H locs → lv_has ls 5 [(0, .ref (ad 0)), (1, .int x1), (2, .int x2)] → W p l e { frames := 0, cells := 0, slots := 0, locals := 0 } s m args below meth c H locs 0 0 (MQ below ((fun A => va_Qi (fun (r : Int32) (_ : Unit) => Q r ) (zE D vwCl A (fun (_ : Unit) => [((ad 0), .inr (4, [.ref (ad 1), .ref (ad 2), .int t_places, .int t_end])), ((ad 1), aI cy 78 t_links)])) A) A) args s 0 0 A) (F0 m 4 ls []) := by
    intro x1 x2   h
    obtain ⟨nn, h⟩ := h
    have key : ∀ (nn : Nat) (x1 : Int32) (x2 : Int32), lpW2 (wb_X5_leaves_4 t_places t_links  Q) nn x1 x2 → ∀ (H : Heap) (locs : List Loc) (ls : Array Slot), va_P D vwCl [((ad 0), .inr (4, [.ref (ad 1), .ref (ad 2), .int t_places, .int t_end])), ((ad 1), aI cy 78 t_links)] H → va_D A [((ad 0), .inr (4, [.ref (ad 1), .ref (ad 2), .int t_places, .int t_end])), ((ad 1), aI cy 78 t_links)] → va_S A s.heap H locs → lv_has ls 5 [(0, .ref (ad 0)), (1, .int x1), (2, .int x2)] → W p l e { frames := 0, cells := 0, slots := 0, locals := 0 } s m args below meth c H locs 0 0 (MQ below ((fun A => va_Qi (fun (r : Int32) (_ : Unit) => Q r ) (zE D vwCl A (fun (_ : Unit) => [((ad 0), .inr (4, [.ref (ad 1), .ref (ad 2), .int t_places, .int t_end])), ((ad 1), aI cy 78 t_links)])) A) A) args s 0 0 A) (F0 m 4 ls []) := by
      intro nn
      induction nn with
      | zero => intro x1 x2 h; exact h.elim
      | succ nn hrc4 =>
        intro x1 x2 h H locs ls hP hD hS hl
        have h : wb_X5_leaves_4 t_places t_links  Q (lpW2 (wb_X5_leaves_4 t_places t_links  Q) nn) x1 x2 := h
        unfold wb_X5_leaves_4 at h
        refine lv_iload_n hx hb dX5_leaves_4 rfl (lv_at hl 2 rfl) ?_
        refine lv_aload_n hx hb dX5_leaves_5 rfl (lv_at hl 0 rfl) ?_
        refine va_get (D := D) (ci := 4) (v := .int t_places) (C := RX5) (T := TX5) (N := 4) hx hb hts iX5 hown hK hP 0 rfl rfl 2 (Nat.le_of_ble_eq_true rfl) (hts _ fl_X5_18) (fun _ h9 => h9) rfl dX5_leaves_6 ?_
        refine lv_icmp_ge (tgt := 62) hx hb dX5_leaves_9 (by decide) (fun c_18 => ?_) (fun c_18 => ?_)
        · have h := h.1 c_18
          refine lv_iload_n hx hb dX5_leaves_62 rfl (lv_at hl 1 rfl) ?_
          exact z_iret () hx hb hr hlocks h hP hD hS dX5_leaves_63
        · have h := h.2 c_18
          refine lv_iconst (v := (0 : Int32)) hx hb dX5_leaves_12 (by decide) ?_
          refine lv_istore_n (lv' := [(3, .int (0 : Int32)), (0, .ref (ad 0)), (1, .int x1), (2, .int x2)]) hx hb dX5_leaves_13 rfl hl (by decide) rfl (fun ls hl => ?_)
          refine lv_iconst (v := (0 : Int32)) hx hb dX5_leaves_14 (by decide) ?_
          refine lv_istore (lv' := [(4, .int (0 : Int32)), (3, .int (0 : Int32)), (0, .ref (ad 0)), (1, .int x1), (2, .int x2)]) hx hb dX5_leaves_15 hl (by decide) rfl (fun ls hl => ?_)
          exact hJ17 x1 x2 (0 : Int32) (0 : Int32) _ hrc4  h _ _ _ hP hD hS (lv_sub hl [2, 3, 4, 1, 0] rfl)
    exact key nn x1 x2 h
  unfold wp_X5_leaves at h
  refine lv_iconst (v := (0 : Int32)) hx hb dX5_leaves_0 (by decide) ?_
  refine lv_istore_n (lv' := [(1, .int (0 : Int32)), (0, .ref (ad 0))]) hx hb dX5_leaves_1 rfl hl (by decide) rfl (fun ls hl => ?_)
  refine lv_iconst (v := (0 : Int32)) hx hb dX5_leaves_2 (by decide) ?_
  refine lv_istore_n (lv' := [(2, .int (0 : Int32)), (1, .int (0 : Int32)), (0, .ref (ad 0))]) hx hb dX5_leaves_3 rfl hl (by decide) rfl (fun ls hl => ?_)
  exact hJ4 (0 : Int32) (0 : Int32)   h _ _ _ hP hD hS (lv_sub hl [2, 1, 0] rfl)
