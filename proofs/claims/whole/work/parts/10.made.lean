set_option maxHeartbeats 4000000 in
set_option maxRecDepth 100000 in
theorem c_X0_add (l : Launch) (D : va_G) (cy : Nat → ClassId) (ad : Nat → Nat) (sz : Nat) (a_letterCount : Int32) (a_size : Int32) (a_places : Nat → Int32) (a_maps : Nat → Int32) (a_from : Nat → Int32) (a_lastLetters : Nat → Int32) (a_lengths : Nat → Int32) (x1 : Int32) (x2 : Int32) (x3 : Int32) {Q : Int32 → (Nat → Int32) → (Nat → Int32) → (Nat → Int32) → (Nat → Int32) → (Nat → Int32) → Prop} (h : wp_X0_add x1 x2 x3 a_size a_places a_maps a_from a_lastLetters a_lengths Q) : Met l yX0_add (wsU yX0_add cX0_add 4 none) { frames := 0, cells := 0, slots := 0, locals := 0 } (va_Pc [.ref (ad 0), .int x1, .int x2, .int x3] (zB D vwCl (tyU cy) [((ad 0), .inr (0, [.ref (ad 1), .int a_letterCount, .ref (ad 2), .ref (ad 3), .ref (ad 4), .ref (ad 5), .ref (ad 6), .int a_size, .ref (ad 7), .ref (ad 8)])), ((ad 2), aI cy 7776 a_places), ((ad 3), aI cy 1546 a_maps), ((ad 4), aI cy 1546 a_from), ((ad 5), aI cy 1546 a_lastLetters), ((ad 6), aI cy 1546 a_lengths)] sz)) ((fun A => va_Qv (fun (u : Int32 × (Nat → Int32) × (Nat → Int32) × (Nat → Int32) × (Nat → Int32) × (Nat → Int32)) => ∃ (z0 : Int32) (z1 : Nat → Int32) (z2 : Nat → Int32) (z3 : Nat → Int32) (z4 : Nat → Int32) (z5 : Nat → Int32), u = (z0, z1, z2, z3, z4, z5) ∧ Q z0 z1 z2 z3 z4 z5) (zE D vwCl A (fun (u : Int32 × (Nat → Int32) × (Nat → Int32) × (Nat → Int32) × (Nat → Int32) × (Nat → Int32)) => [((ad 0), .inr (0, [.ref (ad 1), .int a_letterCount, .ref (ad 2), .ref (ad 3), .ref (ad 4), .ref (ad 5), .ref (ad 6), .int (u.1), .ref (ad 7), .ref (ad 8)])), ((ad 2), aI cy 7776 (u.2.1)), ((ad 3), aI cy 1546 (u.2.2.1)), ((ad 4), aI cy 1546 (u.2.2.2.1)), ((ad 5), aI cy 1546 (u.2.2.2.2.1)), ((ad 6), aI cy 1546 (u.2.2.2.2.2))])) A) (va_A [((ad 0), .inr (0, [.ref (ad 1), .int a_letterCount, .ref (ad 2), .ref (ad 3), .ref (ad 4), .ref (ad 5), .ref (ad 6), .int a_size, .ref (ad 7), .ref (ad 8)])), ((ad 2), aI cy 7776 a_places), ((ad 3), aI cy 1546 a_maps), ((ad 4), aI cy 1546 a_from), ((ad 5), aI cy 1546 a_lastLetters), ((ad 6), aI cy 1546 a_lengths)] sz)) 0 0 (va_A [((ad 0), .inr (0, [.ref (ad 1), .int a_letterCount, .ref (ad 2), .ref (ad 3), .ref (ad 4), .ref (ad 5), .ref (ad 6), .int a_size, .ref (ad 7), .ref (ad 8)])), ((ad 2), aI cy 7776 a_places), ((ad 3), aI cy 1546 a_maps), ((ad 4), aI cy 1546 a_from), ((ad 5), aI cy 1546 a_lastLetters), ((ad 6), aI cy 1546 a_lengths)] sz) := by
  refine z_ofX (fun A => va_Qv (fun (u : Int32 × (Nat → Int32) × (Nat → Int32) × (Nat → Int32) × (Nat → Int32) × (Nat → Int32)) => ∃ (z0 : Int32) (z1 : Nat → Int32) (z2 : Nat → Int32) (z3 : Nat → Int32) (z4 : Nat → Int32) (z5 : Nat → Int32), u = (z0, z1, z2, z3, z4, z5) ∧ Q z0 z1 z2 z3 z4 z5) (zE D vwCl A (fun (u : Int32 × (Nat → Int32) × (Nat → Int32) × (Nat → Int32) × (Nat → Int32) × (Nat → Int32)) => [((ad 0), .inr (0, [.ref (ad 1), .int a_letterCount, .ref (ad 2), .ref (ad 3), .ref (ad 4), .ref (ad 5), .ref (ad 6), .int (u.1), .ref (ad 7), .ref (ad 8)])), ((ad 2), aI cy 7776 (u.2.1)), ((ad 3), aI cy 1546 (u.2.2.1)), ((ad 4), aI cy 1546 (u.2.2.2.1)), ((ad 5), aI cy 1546 (u.2.2.2.2.1)), ((ad 6), aI cy 1546 (u.2.2.2.2.2))])) A) (by decide) (Nat.le_of_ble_eq_true rfl) (fun p e s m below meth c A ls hx hb hr hml hown hts hlocks hK hPW hA hP hD hS hl => ?_)
  have hl : lv_has ls 4 [(0, .ref (ad 0)), (1, .int x1), (2, .int x2), (3, .int x3)] := hl
  have hown : s.vm.findClass RX0 = some m.cls := hown
  generalize hArg : ([.ref (ad 0), .int x1, .int x2, .int x3] : List Value).toArray = args at hts ⊢
  have hJ74 : ∀ (x1 : Int32) (t1 : Int32) (t2 : Int32) (a_size : Int32) (a_places : Nat → Int32) (a_maps : Nat → Int32) (a_from : Nat → Int32) (a_lastLetters : Nat → Int32) (a_lengths : Nat → Int32), wp_X0_add_74 x1 t1 t2 a_size a_places a_maps a_from a_lastLetters a_lengths  Q → ∀ (H : Heap) (locs : List Loc) (ls : Array Slot), va_P D vwCl [((ad 0), .inr (0, [.ref (ad 1), .int a_letterCount, .ref (ad 2), .ref (ad 3), .ref (ad 4), .ref (ad 5), .ref (ad 6), .int a_size, .ref (ad 7), .ref (ad 8)])), ((ad 2), aI cy 7776 a_places), ((ad 3), aI cy 1546 a_maps), ((ad 4), aI cy 1546 a_from), ((ad 5), aI cy 1546 a_lastLetters), ((ad 6), aI cy 1546 a_lengths)] H → va_D A [((ad 0), .inr (0, [.ref (ad 1), .int a_letterCount, .ref (ad 2), .ref (ad 3), .ref (ad 4), .ref (ad 5), .ref (ad 6), .int a_size, .ref (ad 7), .ref (ad 8)])), ((ad 2), aI cy 7776 a_places), ((ad 3), aI cy 1546 a_maps), ((ad 4), aI cy 1546 a_from), ((ad 5), aI cy 1546 a_lastLetters), ((ad 6), aI cy 1546 a_lengths)] → va_S A s.heap H locs → lv_has ls 4 [(0, .ref (ad 0)), (1, .int x1)] → W p l e { frames := 0, cells := 0, slots := 0, locals := 0 } s m args below meth c H locs 0 0 (MQ below ((fun A => va_Qv (fun (u : Int32 × (Nat → Int32) × (Nat → Int32) × (Nat → Int32) × (Nat → Int32) × (Nat → Int32)) => ∃ (z0 : Int32) (z1 : Nat → Int32) (z2 : Nat → Int32) (z3 : Nat → Int32) (z4 : Nat → Int32) (z5 : Nat → Int32), u = (z0, z1, z2, z3, z4, z5) ∧ Q z0 z1 z2 z3 z4 z5) (zE D vwCl A (fun (u : Int32 × (Nat → Int32) × (Nat → Int32) × (Nat → Int32) × (Nat → Int32) × (Nat → Int32)) => [((ad 0), .inr (0, [.ref (ad 1), .int a_letterCount, .ref (ad 2), .ref (ad 3), .ref (ad 4), .ref (ad 5), .ref (ad 6), .int (u.1), .ref (ad 7), .ref (ad 8)])), ((ad 2), aI cy 7776 (u.2.1)), ((ad 3), aI cy 1546 (u.2.2.1)), ((ad 4), aI cy 1546 (u.2.2.2.1)), ((ad 5), aI cy 1546 (u.2.2.2.2.1)), ((ad 6), aI cy 1546 (u.2.2.2.2.2))])) A) A) args s 0 0 A) (F0 m 74 ls [.int t2, .int t1, .ref (ad 6)]) := by
    intro x1 t1 t2 a_size a_places a_maps a_from a_lastLetters a_lengths   h H locs ls hP hD hS hl
    unfold wp_X0_add_74 at h
    obtain ⟨hi_11, h⟩ := h
    refine va_iast hx hb hK hP hD hS 5 0 rfl rfl hi_11 dX0_add_74 (fun H locs hP hD hS => ?_)
    have hP : va_P D vwCl [((ad 0), .inr (0, [.ref (ad 1), .int a_letterCount, .ref (ad 2), .ref (ad 3), .ref (ad 4), .ref (ad 5), .ref (ad 6), .int a_size, .ref (ad 7), .ref (ad 8)])), ((ad 2), aI cy 7776 a_places), ((ad 3), aI cy 1546 a_maps), ((ad 4), aI cy 1546 a_from), ((ad 5), aI cy 1546 a_lastLetters), ((ad 6), aI cy 1546 (upd a_lengths t1.toNatClampNeg t2))] H := hP
    have hD : va_D A [((ad 0), .inr (0, [.ref (ad 1), .int a_letterCount, .ref (ad 2), .ref (ad 3), .ref (ad 4), .ref (ad 5), .ref (ad 6), .int a_size, .ref (ad 7), .ref (ad 8)])), ((ad 2), aI cy 7776 a_places), ((ad 3), aI cy 1546 a_maps), ((ad 4), aI cy 1546 a_from), ((ad 5), aI cy 1546 a_lastLetters), ((ad 6), aI cy 1546 (upd a_lengths t1.toNatClampNeg t2))] := hD
    refine lv_aload_n hx hb dX0_add_75 rfl (lv_at hl 0 rfl) ?_
    refine lv_dup hx hb dX0_add_76 rfl ?_
    refine va_get (D := D) (ci := 0) (v := .int a_size) (C := RX0) (T := TX0) (N := 10) hx hb hts iX0 hown hK hP 0 rfl rfl 7 (Nat.le_of_ble_eq_true rfl) (hts _ fl_X0_34) (fun _ h9 => h9) rfl dX0_add_77 ?_
    refine lv_iconst (v := (1 : Int32)) hx hb dX0_add_80 (by decide) ?_
    refine lv_iadd hx hb dX0_add_81 ?_
    refine va_put (D := D) (ci := 0) (v := .int (a_size + (1 : Int32))) (ty := .int) (C := RX0) (T := TX0) (N := 10) hx hb hts iX0 tyX0 tyX0_ok nmX0 hown hK hP hD hS 0 rfl rfl 7 (Nat.le_of_ble_eq_true rfl) (hts _ fl_X0_34) (fun _ h9 => h9) rfl (by decide +kernel) rfl rfl (Nat.le_of_ble_eq_true rfl) dX0_add_82 (fun H locs hP hD hS => ?_)
    have hP : va_P D vwCl [((ad 0), .inr (0, [.ref (ad 1), .int a_letterCount, .ref (ad 2), .ref (ad 3), .ref (ad 4), .ref (ad 5), .ref (ad 6), .int (a_size + (1 : Int32)), .ref (ad 7), .ref (ad 8)])), ((ad 2), aI cy 7776 a_places), ((ad 3), aI cy 1546 a_maps), ((ad 4), aI cy 1546 a_from), ((ad 5), aI cy 1546 a_lastLetters), ((ad 6), aI cy 1546 (upd a_lengths t1.toNatClampNeg t2))] H := hP
    have hD : va_D A [((ad 0), .inr (0, [.ref (ad 1), .int a_letterCount, .ref (ad 2), .ref (ad 3), .ref (ad 4), .ref (ad 5), .ref (ad 6), .int (a_size + (1 : Int32)), .ref (ad 7), .ref (ad 8)])), ((ad 2), aI cy 7776 a_places), ((ad 3), aI cy 1546 a_maps), ((ad 4), aI cy 1546 a_from), ((ad 5), aI cy 1546 a_lastLetters), ((ad 6), aI cy 1546 (upd a_lengths t1.toNatClampNeg t2))] := hD
    refine lv_aload_n hx hb dX0_add_85 rfl (lv_at hl 0 rfl) ?_
    refine va_get (D := D) (ci := 0) (v := .ref (ad 2)) (C := RX0) (T := TX0) (N := 10) hx hb hts iX0 hown hK hP 0 rfl rfl 2 (Nat.le_of_ble_eq_true rfl) (hts _ fl_X0_19) (fun _ h9 => h9) rfl dX0_add_86 ?_
    refine lv_iload_n hx hb dX0_add_89 rfl (lv_at hl 1 rfl) ?_
    refine lv_aload_n hx hb dX0_add_90 rfl (lv_at hl 0 rfl) ?_
    refine va_get (D := D) (ci := 0) (v := .int (a_size + (1 : Int32))) (C := RX0) (T := TX0) (N := 10) hx hb hts iX0 hown hK hP 0 rfl rfl 7 (Nat.le_of_ble_eq_true rfl) (hts _ fl_X0_34) (fun _ h9 => h9) rfl dX0_add_91 ?_
    obtain ⟨hi_12, h⟩ := h
    refine va_iast hx hb hK hP hD hS 1 0 rfl rfl hi_12 dX0_add_94 (fun H locs hP hD hS => ?_)
    have hP : va_P D vwCl [((ad 0), .inr (0, [.ref (ad 1), .int a_letterCount, .ref (ad 2), .ref (ad 3), .ref (ad 4), .ref (ad 5), .ref (ad 6), .int (a_size + (1 : Int32)), .ref (ad 7), .ref (ad 8)])), ((ad 2), aI cy 7776 (upd a_places x1.toNatClampNeg (a_size + (1 : Int32)))), ((ad 3), aI cy 1546 a_maps), ((ad 4), aI cy 1546 a_from), ((ad 5), aI cy 1546 a_lastLetters), ((ad 6), aI cy 1546 (upd a_lengths t1.toNatClampNeg t2))] H := hP
    have hD : va_D A [((ad 0), .inr (0, [.ref (ad 1), .int a_letterCount, .ref (ad 2), .ref (ad 3), .ref (ad 4), .ref (ad 5), .ref (ad 6), .int (a_size + (1 : Int32)), .ref (ad 7), .ref (ad 8)])), ((ad 2), aI cy 7776 (upd a_places x1.toNatClampNeg (a_size + (1 : Int32)))), ((ad 3), aI cy 1546 a_maps), ((ad 4), aI cy 1546 a_from), ((ad 5), aI cy 1546 a_lastLetters), ((ad 6), aI cy 1546 (upd a_lengths t1.toNatClampNeg t2))] := hD
    exact z_vret ((a_size + (1 : Int32)), (upd a_places x1.toNatClampNeg (a_size + (1 : Int32))), a_maps, a_from, a_lastLetters, (upd a_lengths t1.toNatClampNeg t2)) hx hb hr hlocks ⟨(a_size + (1 : Int32)), (upd a_places x1.toNatClampNeg (a_size + (1 : Int32))), a_maps, a_from, a_lastLetters, (upd a_lengths t1.toNatClampNeg t2), rfl, h⟩ hP hD hS dX0_add_95
  unfold wp_X0_add at h
  refine lv_aload_n hx hb dX0_add_0 rfl (lv_at hl 0 rfl) ?_
  refine va_get (D := D) (ci := 0) (v := .ref (ad 2)) (C := RX0) (T := TX0) (N := 10) hx hb hts iX0 hown hK hP 0 rfl rfl 2 (Nat.le_of_ble_eq_true rfl) (hts _ fl_X0_19) (fun _ h9 => h9) rfl dX0_add_1 ?_
  refine lv_iload_n hx hb dX0_add_4 rfl (lv_at hl 1 rfl) ?_
  obtain ⟨hi_13, h⟩ := h
  refine va_iald hx hb hK hP 1 0 rfl rfl hi_13 dX0_add_5 ?_
  refine lv_if_ne (tgt := 19) hx hb dX0_add_6 (by decide) (fun c_14 => ?_) (fun c_14 => ?_)
  · have h := h.1 c_14
    exact z_vret (a_size, a_places, a_maps, a_from, a_lastLetters, a_lengths) hx hb hr hlocks ⟨a_size, a_places, a_maps, a_from, a_lastLetters, a_lengths, rfl, h⟩ hP hD hS dX0_add_19
  · have h := h.2 c_14
    refine lv_aload_n hx hb dX0_add_9 rfl (lv_at hl 0 rfl) ?_
    refine va_get (D := D) (ci := 0) (v := .int a_size) (C := RX0) (T := TX0) (N := 10) hx hb hts iX0 hown hK hP 0 rfl rfl 7 (Nat.le_of_ble_eq_true rfl) (hts _ fl_X0_34) (fun _ h9 => h9) rfl dX0_add_10 ?_
    refine lv_sipush (v := (1546 : Int32)) hx hb dX0_add_13 (by decide) ?_
    refine lv_icmp_lt (tgt := 20) hx hb dX0_add_16 (by decide) (fun c_15 => ?_) (fun c_15 => ?_)
    · have h := h.1 c_15
      refine lv_aload_n hx hb dX0_add_20 rfl (lv_at hl 0 rfl) ?_
      refine va_get (D := D) (ci := 0) (v := .ref (ad 3)) (C := RX0) (T := TX0) (N := 10) hx hb hts iX0 hown hK hP 0 rfl rfl 3 (Nat.le_of_ble_eq_true rfl) (hts _ fl_X0_22) (fun _ h9 => h9) rfl dX0_add_21 ?_
      refine lv_aload_n hx hb dX0_add_24 rfl (lv_at hl 0 rfl) ?_
      refine va_get (D := D) (ci := 0) (v := .int a_size) (C := RX0) (T := TX0) (N := 10) hx hb hts iX0 hown hK hP 0 rfl rfl 7 (Nat.le_of_ble_eq_true rfl) (hts _ fl_X0_34) (fun _ h9 => h9) rfl dX0_add_25 ?_
      refine lv_iload_n hx hb dX0_add_28 rfl (lv_at hl 1 rfl) ?_
      obtain ⟨hi_16, h⟩ := h
      refine va_iast hx hb hK hP hD hS 2 0 rfl rfl hi_16 dX0_add_29 (fun H locs hP hD hS => ?_)
      have hP : va_P D vwCl [((ad 0), .inr (0, [.ref (ad 1), .int a_letterCount, .ref (ad 2), .ref (ad 3), .ref (ad 4), .ref (ad 5), .ref (ad 6), .int a_size, .ref (ad 7), .ref (ad 8)])), ((ad 2), aI cy 7776 a_places), ((ad 3), aI cy 1546 (upd a_maps a_size.toNatClampNeg x1)), ((ad 4), aI cy 1546 a_from), ((ad 5), aI cy 1546 a_lastLetters), ((ad 6), aI cy 1546 a_lengths)] H := hP
      have hD : va_D A [((ad 0), .inr (0, [.ref (ad 1), .int a_letterCount, .ref (ad 2), .ref (ad 3), .ref (ad 4), .ref (ad 5), .ref (ad 6), .int a_size, .ref (ad 7), .ref (ad 8)])), ((ad 2), aI cy 7776 a_places), ((ad 3), aI cy 1546 (upd a_maps a_size.toNatClampNeg x1)), ((ad 4), aI cy 1546 a_from), ((ad 5), aI cy 1546 a_lastLetters), ((ad 6), aI cy 1546 a_lengths)] := hD
      refine lv_aload_n hx hb dX0_add_30 rfl (lv_at hl 0 rfl) ?_
      refine va_get (D := D) (ci := 0) (v := .ref (ad 4)) (C := RX0) (T := TX0) (N := 10) hx hb hts iX0 hown hK hP 0 rfl rfl 4 (Nat.le_of_ble_eq_true rfl) (hts _ fl_X0_25) (fun _ h9 => h9) rfl dX0_add_31 ?_
      refine lv_aload_n hx hb dX0_add_34 rfl (lv_at hl 0 rfl) ?_
      refine va_get (D := D) (ci := 0) (v := .int a_size) (C := RX0) (T := TX0) (N := 10) hx hb hts iX0 hown hK hP 0 rfl rfl 7 (Nat.le_of_ble_eq_true rfl) (hts _ fl_X0_34) (fun _ h9 => h9) rfl dX0_add_35 ?_
      refine lv_iload_n hx hb dX0_add_38 rfl (lv_at hl 2 rfl) ?_
      obtain ⟨hi_17, h⟩ := h
      refine va_iast hx hb hK hP hD hS 3 0 rfl rfl hi_17 dX0_add_39 (fun H locs hP hD hS => ?_)
      have hP : va_P D vwCl [((ad 0), .inr (0, [.ref (ad 1), .int a_letterCount, .ref (ad 2), .ref (ad 3), .ref (ad 4), .ref (ad 5), .ref (ad 6), .int a_size, .ref (ad 7), .ref (ad 8)])), ((ad 2), aI cy 7776 a_places), ((ad 3), aI cy 1546 (upd a_maps a_size.toNatClampNeg x1)), ((ad 4), aI cy 1546 (upd a_from a_size.toNatClampNeg x2)), ((ad 5), aI cy 1546 a_lastLetters), ((ad 6), aI cy 1546 a_lengths)] H := hP
      have hD : va_D A [((ad 0), .inr (0, [.ref (ad 1), .int a_letterCount, .ref (ad 2), .ref (ad 3), .ref (ad 4), .ref (ad 5), .ref (ad 6), .int a_size, .ref (ad 7), .ref (ad 8)])), ((ad 2), aI cy 7776 a_places), ((ad 3), aI cy 1546 (upd a_maps a_size.toNatClampNeg x1)), ((ad 4), aI cy 1546 (upd a_from a_size.toNatClampNeg x2)), ((ad 5), aI cy 1546 a_lastLetters), ((ad 6), aI cy 1546 a_lengths)] := hD
      refine lv_aload_n hx hb dX0_add_40 rfl (lv_at hl 0 rfl) ?_
      refine va_get (D := D) (ci := 0) (v := .ref (ad 5)) (C := RX0) (T := TX0) (N := 10) hx hb hts iX0 hown hK hP 0 rfl rfl 5 (Nat.le_of_ble_eq_true rfl) (hts _ fl_X0_28) (fun _ h9 => h9) rfl dX0_add_41 ?_
      refine lv_aload_n hx hb dX0_add_44 rfl (lv_at hl 0 rfl) ?_
      refine va_get (D := D) (ci := 0) (v := .int a_size) (C := RX0) (T := TX0) (N := 10) hx hb hts iX0 hown hK hP 0 rfl rfl 7 (Nat.le_of_ble_eq_true rfl) (hts _ fl_X0_34) (fun _ h9 => h9) rfl dX0_add_45 ?_
      refine lv_iload_n hx hb dX0_add_48 rfl (lv_at hl 3 rfl) ?_
      obtain ⟨hi_18, h⟩ := h
      refine va_iast hx hb hK hP hD hS 4 0 rfl rfl hi_18 dX0_add_49 (fun H locs hP hD hS => ?_)
      have hP : va_P D vwCl [((ad 0), .inr (0, [.ref (ad 1), .int a_letterCount, .ref (ad 2), .ref (ad 3), .ref (ad 4), .ref (ad 5), .ref (ad 6), .int a_size, .ref (ad 7), .ref (ad 8)])), ((ad 2), aI cy 7776 a_places), ((ad 3), aI cy 1546 (upd a_maps a_size.toNatClampNeg x1)), ((ad 4), aI cy 1546 (upd a_from a_size.toNatClampNeg x2)), ((ad 5), aI cy 1546 (upd a_lastLetters a_size.toNatClampNeg x3)), ((ad 6), aI cy 1546 a_lengths)] H := hP
      have hD : va_D A [((ad 0), .inr (0, [.ref (ad 1), .int a_letterCount, .ref (ad 2), .ref (ad 3), .ref (ad 4), .ref (ad 5), .ref (ad 6), .int a_size, .ref (ad 7), .ref (ad 8)])), ((ad 2), aI cy 7776 a_places), ((ad 3), aI cy 1546 (upd a_maps a_size.toNatClampNeg x1)), ((ad 4), aI cy 1546 (upd a_from a_size.toNatClampNeg x2)), ((ad 5), aI cy 1546 (upd a_lastLetters a_size.toNatClampNeg x3)), ((ad 6), aI cy 1546 a_lengths)] := hD
      refine lv_aload_n hx hb dX0_add_50 rfl (lv_at hl 0 rfl) ?_
      refine va_get (D := D) (ci := 0) (v := .ref (ad 6)) (C := RX0) (T := TX0) (N := 10) hx hb hts iX0 hown hK hP 0 rfl rfl 6 (Nat.le_of_ble_eq_true rfl) (hts _ fl_X0_31) (fun _ h9 => h9) rfl dX0_add_51 ?_
      refine lv_aload_n hx hb dX0_add_54 rfl (lv_at hl 0 rfl) ?_
      refine va_get (D := D) (ci := 0) (v := .int a_size) (C := RX0) (T := TX0) (N := 10) hx hb hts iX0 hown hK hP 0 rfl rfl 7 (Nat.le_of_ble_eq_true rfl) (hts _ fl_X0_34) (fun _ h9 => h9) rfl dX0_add_55 ?_
      refine lv_iload_n hx hb dX0_add_58 rfl (lv_at hl 2 rfl) ?_
      refine lv_if_ge (tgt := 66) hx hb dX0_add_59 (by decide) (fun c_19 => ?_) (fun c_19 => ?_)
      · have h := h.1 c_19
        refine lv_aload_n hx hb dX0_add_66 rfl (lv_at hl 0 rfl) ?_
        refine va_get (D := D) (ci := 0) (v := .ref (ad 6)) (C := RX0) (T := TX0) (N := 10) hx hb hts iX0 hown hK hP 0 rfl rfl 6 (Nat.le_of_ble_eq_true rfl) (hts _ fl_X0_31) (fun _ h9 => h9) rfl dX0_add_67 ?_
        refine lv_iload_n hx hb dX0_add_70 rfl (lv_at hl 2 rfl) ?_
        obtain ⟨hi_20, h⟩ := h
        refine va_iald hx hb hK hP 5 0 rfl rfl hi_20 dX0_add_71 ?_
        refine lv_iconst (v := (1 : Int32)) hx hb dX0_add_72 (by decide) ?_
        refine lv_iadd hx hb dX0_add_73 ?_
        exact hJ74 x1 a_size ((a_lengths x2.toNatClampNeg) + (1 : Int32)) a_size a_places (upd a_maps a_size.toNatClampNeg x1) (upd a_from a_size.toNatClampNeg x2) (upd a_lastLetters a_size.toNatClampNeg x3) a_lengths   h _ _ _ hP hD hS (lv_sub hl [0, 1] rfl)
      · have h := h.2 c_19
        refine lv_iconst (v := (1 : Int32)) hx hb dX0_add_62 (by decide) ?_
        refine lv_goto (tgt := 74) hx hb dX0_add_63 (by decide) ?_
        exact hJ74 x1 a_size (1 : Int32) a_size a_places (upd a_maps a_size.toNatClampNeg x1) (upd a_from a_size.toNatClampNeg x2) (upd a_lastLetters a_size.toNatClampNeg x3) a_lengths   h _ _ _ hP hD hS (lv_sub hl [0, 1] rfl)
    · have h := h.2 c_15
      exact z_vret (a_size, a_places, a_maps, a_from, a_lastLetters, a_lengths) hx hb hr hlocks ⟨a_size, a_places, a_maps, a_from, a_lastLetters, a_lengths, rfl, h⟩ hP hD hS dX0_add_19
set_option maxHeartbeats 4000000 in
set_option maxRecDepth 100000 in
theorem c_X0_find (l : Launch) (D : va_G) (cy : Nat → ClassId) (ad : Nat → Nat) (sz : Nat) (a_letterCount : Int32) (a_size : Int32) (a_letterMaps : Nat → Int32) (a_places : Nat → Int32) (a_maps : Nat → Int32) (a_from : Nat → Int32) (a_lastLetters : Nat → Int32) (a_lengths : Nat → Int32) {Q : Int32 → (Nat → Int32) → (Nat → Int32) → (Nat → Int32) → (Nat → Int32) → (Nat → Int32) → Prop} (h : wp_X0_find a_letterCount a_size a_letterMaps a_places a_maps a_from a_lastLetters a_lengths Q) : Met l yX0_find (wsU yX0_find cX0_find 3 none) { frames := 2, cells := 0, slots := 0, locals := 45 } (va_Pc [.ref (ad 0)] (zB D vwCl (tyU cy) [((ad 0), .inr (0, [.ref (ad 1), .int a_letterCount, .ref (ad 2), .ref (ad 3), .ref (ad 4), .ref (ad 5), .ref (ad 6), .int a_size, .ref (ad 7), .ref (ad 8)])), ((ad 1), aI cy 6 a_letterMaps), ((ad 2), aI cy 7776 a_places), ((ad 3), aI cy 1546 a_maps), ((ad 4), aI cy 1546 a_from), ((ad 5), aI cy 1546 a_lastLetters), ((ad 6), aI cy 1546 a_lengths)] sz)) ((fun A => va_Qv (fun (u : Int32 × (Nat → Int32) × (Nat → Int32) × (Nat → Int32) × (Nat → Int32) × (Nat → Int32)) => ∃ (z0 : Int32) (z1 : Nat → Int32) (z2 : Nat → Int32) (z3 : Nat → Int32) (z4 : Nat → Int32) (z5 : Nat → Int32), u = (z0, z1, z2, z3, z4, z5) ∧ Q z0 z1 z2 z3 z4 z5) (zE D vwCl A (fun (u : Int32 × (Nat → Int32) × (Nat → Int32) × (Nat → Int32) × (Nat → Int32) × (Nat → Int32)) => [((ad 0), .inr (0, [.ref (ad 1), .int a_letterCount, .ref (ad 2), .ref (ad 3), .ref (ad 4), .ref (ad 5), .ref (ad 6), .int (u.1), .ref (ad 7), .ref (ad 8)])), ((ad 1), aI cy 6 a_letterMaps), ((ad 2), aI cy 7776 (u.2.1)), ((ad 3), aI cy 1546 (u.2.2.1)), ((ad 4), aI cy 1546 (u.2.2.2.1)), ((ad 5), aI cy 1546 (u.2.2.2.2.1)), ((ad 6), aI cy 1546 (u.2.2.2.2.2))])) A) (va_A [((ad 0), .inr (0, [.ref (ad 1), .int a_letterCount, .ref (ad 2), .ref (ad 3), .ref (ad 4), .ref (ad 5), .ref (ad 6), .int a_size, .ref (ad 7), .ref (ad 8)])), ((ad 1), aI cy 6 a_letterMaps), ((ad 2), aI cy 7776 a_places), ((ad 3), aI cy 1546 a_maps), ((ad 4), aI cy 1546 a_from), ((ad 5), aI cy 1546 a_lastLetters), ((ad 6), aI cy 1546 a_lengths)] sz)) 0 0 (va_A [((ad 0), .inr (0, [.ref (ad 1), .int a_letterCount, .ref (ad 2), .ref (ad 3), .ref (ad 4), .ref (ad 5), .ref (ad 6), .int a_size, .ref (ad 7), .ref (ad 8)])), ((ad 1), aI cy 6 a_letterMaps), ((ad 2), aI cy 7776 a_places), ((ad 3), aI cy 1546 a_maps), ((ad 4), aI cy 1546 a_from), ((ad 5), aI cy 1546 a_lastLetters), ((ad 6), aI cy 1546 a_lengths)] sz) := by
  refine z_ofX (fun A => va_Qv (fun (u : Int32 × (Nat → Int32) × (Nat → Int32) × (Nat → Int32) × (Nat → Int32) × (Nat → Int32)) => ∃ (z0 : Int32) (z1 : Nat → Int32) (z2 : Nat → Int32) (z3 : Nat → Int32) (z4 : Nat → Int32) (z5 : Nat → Int32), u = (z0, z1, z2, z3, z4, z5) ∧ Q z0 z1 z2 z3 z4 z5) (zE D vwCl A (fun (u : Int32 × (Nat → Int32) × (Nat → Int32) × (Nat → Int32) × (Nat → Int32) × (Nat → Int32)) => [((ad 0), .inr (0, [.ref (ad 1), .int a_letterCount, .ref (ad 2), .ref (ad 3), .ref (ad 4), .ref (ad 5), .ref (ad 6), .int (u.1), .ref (ad 7), .ref (ad 8)])), ((ad 1), aI cy 6 a_letterMaps), ((ad 2), aI cy 7776 (u.2.1)), ((ad 3), aI cy 1546 (u.2.2.1)), ((ad 4), aI cy 1546 (u.2.2.2.1)), ((ad 5), aI cy 1546 (u.2.2.2.2.1)), ((ad 6), aI cy 1546 (u.2.2.2.2.2))])) A) (by decide) (Nat.le_of_ble_eq_true rfl) (fun p e s m below meth c A ls hx hb hr hml hown hts hlocks hK hPW hA hP hD hS hl => ?_)
  have hl : lv_has ls 3 [(0, .ref (ad 0))] := hl
  have hown : s.vm.findClass RX0 = some m.cls := hown
  generalize hArg : ([.ref (ad 0)] : List Value).toArray = args at hts ⊢
  have hJ47 : ∀ (x1 : Int32) (x2 : Int32) (a_size : Int32) (a_places : Nat → Int32) (a_maps : Nat → Int32) (a_from : Nat → Int32) (a_lastLetters : Nat → Int32) (a_lengths : Nat → Int32) (rc30 : Int32 → Int32 → (Nat → Int32) → (Nat → Int32) → (Nat → Int32) → (Nat → Int32) → (Nat → Int32) → Prop) (hrc30 : ∀ (x1 : Int32) (a_size : Int32) (a_places : Nat → Int32) (a_maps : Nat → Int32) (a_from : Nat → Int32) (a_lastLetters : Nat → Int32) (a_lengths : Nat → Int32), rc30 x1 a_size a_places a_maps a_from a_lastLetters a_lengths → ∀ (H : Heap) (locs : List Loc) (ls : Array Slot), va_P D vwCl [((ad 0), .inr (0, [.ref (ad 1), .int a_letterCount, .ref (ad 2), .ref (ad 3), .ref (ad 4), .ref (ad 5), .ref (ad 6), .int a_size, .ref (ad 7), .ref (ad 8)])), ((ad 1), aI cy 6 a_letterMaps), ((ad 2), aI cy 7776 a_places), ((ad 3), aI cy 1546 a_maps), ((ad 4), aI cy 1546 a_from), ((ad 5), aI cy 1546 a_lastLetters), ((ad 6), aI cy 1546 a_lengths)] H → va_D A [((ad 0), .inr (0, [.ref (ad 1), .int a_letterCount, .ref (ad 2), .ref (ad 3), .ref (ad 4), .ref (ad 5), .ref (ad 6), .int a_size, .ref (ad 7), .ref (ad 8)])), ((ad 1), aI cy 6 a_letterMaps), ((ad 2), aI cy 7776 a_places), ((ad 3), aI cy 1546 a_maps), ((ad 4), aI cy 1546 a_from), ((ad 5), aI cy 1546 a_lastLetters), ((ad 6), aI cy 1546 a_lengths)] → va_S A s.heap H locs → lv_has ls 3 [(0, .ref (ad 0)), (1, .int x1)] → W p l e { frames := 2, cells := 0, slots := 0, locals := 45 } s m args below meth c H locs 0 0 (MQ below ((fun A => va_Qv (fun (u : Int32 × (Nat → Int32) × (Nat → Int32) × (Nat → Int32) × (Nat → Int32) × (Nat → Int32)) => ∃ (z0 : Int32) (z1 : Nat → Int32) (z2 : Nat → Int32) (z3 : Nat → Int32) (z4 : Nat → Int32) (z5 : Nat → Int32), u = (z0, z1, z2, z3, z4, z5) ∧ Q z0 z1 z2 z3 z4 z5) (zE D vwCl A (fun (u : Int32 × (Nat → Int32) × (Nat → Int32) × (Nat → Int32) × (Nat → Int32) × (Nat → Int32)) => [((ad 0), .inr (0, [.ref (ad 1), .int a_letterCount, .ref (ad 2), .ref (ad 3), .ref (ad 4), .ref (ad 5), .ref (ad 6), .int (u.1), .ref (ad 7), .ref (ad 8)])), ((ad 1), aI cy 6 a_letterMaps), ((ad 2), aI cy 7776 (u.2.1)), ((ad 3), aI cy 1546 (u.2.2.1)), ((ad 4), aI cy 1546 (u.2.2.2.1)), ((ad 5), aI cy 1546 (u.2.2.2.2.1)), ((ad 6), aI cy 1546 (u.2.2.2.2.2))])) A) A) args s 0 0 A) (F0 m 30 ls [])), wp_X0_find_47 a_letterCount a_letterMaps x1 rc30 Q x2 a_size a_places a_maps a_from a_lastLetters a_lengths → ∀ (H : Heap) (locs : List Loc) (ls : Array Slot), va_P D vwCl [((ad 0), .inr (0, [.ref (ad 1), .int a_letterCount, .ref (ad 2), .ref (ad 3), .ref (ad 4), .ref (ad 5), .ref (ad 6), .int a_size, .ref (ad 7), .ref (ad 8)])), ((ad 1), aI cy 6 a_letterMaps), ((ad 2), aI cy 7776 a_places), ((ad 3), aI cy 1546 a_maps), ((ad 4), aI cy 1546 a_from), ((ad 5), aI cy 1546 a_lastLetters), ((ad 6), aI cy 1546 a_lengths)] H → va_D A [((ad 0), .inr (0, [.ref (ad 1), .int a_letterCount, .ref (ad 2), .ref (ad 3), .ref (ad 4), .ref (ad 5), .ref (ad 6), .int a_size, .ref (ad 7), .ref (ad 8)])), ((ad 1), aI cy 6 a_letterMaps), ((ad 2), aI cy 7776 a_places), ((ad 3), aI cy 1546 a_maps), ((ad 4), aI cy 1546 a_from), ((ad 5), aI cy 1546 a_lastLetters), ((ad 6), aI cy 1546 a_lengths)] → va_S A s.heap H locs → lv_has ls 3 [(0, .ref (ad 0)), (1, .int x1), (2, .int x2)] → W p l e { frames := 2, cells := 0, slots := 0, locals := 45 } s m args below meth c H locs 0 0 (MQ below ((fun A => va_Qv (fun (u : Int32 × (Nat → Int32) × (Nat → Int32) × (Nat → Int32) × (Nat → Int32) × (Nat → Int32)) => ∃ (z0 : Int32) (z1 : Nat → Int32) (z2 : Nat → Int32) (z3 : Nat → Int32) (z4 : Nat → Int32) (z5 : Nat → Int32), u = (z0, z1, z2, z3, z4, z5) ∧ Q z0 z1 z2 z3 z4 z5) (zE D vwCl A (fun (u : Int32 × (Nat → Int32) × (Nat → Int32) × (Nat → Int32) × (Nat → Int32) × (Nat → Int32)) => [((ad 0), .inr (0, [.ref (ad 1), .int a_letterCount, .ref (ad 2), .ref (ad 3), .ref (ad 4), .ref (ad 5), .ref (ad 6), .int (u.1), .ref (ad 7), .ref (ad 8)])), ((ad 1), aI cy 6 a_letterMaps), ((ad 2), aI cy 7776 (u.2.1)), ((ad 3), aI cy 1546 (u.2.2.1)), ((ad 4), aI cy 1546 (u.2.2.2.1)), ((ad 5), aI cy 1546 (u.2.2.2.2.1)), ((ad 6), aI cy 1546 (u.2.2.2.2.2))])) A) A) args s 0 0 A) (F0 m 47 ls []) := by
    intro x1 x2 a_size a_places a_maps a_from a_lastLetters a_lengths rc30 hrc30  h
    obtain ⟨nn, h⟩ := h
    have key : ∀ (nn : Nat) (x2 : Int32) (a_size : Int32) (a_places : Nat → Int32) (a_maps : Nat → Int32) (a_from : Nat → Int32) (a_lastLetters : Nat → Int32) (a_lengths : Nat → Int32), lpW7 (wb_X0_find_47 a_letterCount a_letterMaps x1 rc30 Q) nn x2 a_size a_places a_maps a_from a_lastLetters a_lengths → ∀ (H : Heap) (locs : List Loc) (ls : Array Slot), va_P D vwCl [((ad 0), .inr (0, [.ref (ad 1), .int a_letterCount, .ref (ad 2), .ref (ad 3), .ref (ad 4), .ref (ad 5), .ref (ad 6), .int a_size, .ref (ad 7), .ref (ad 8)])), ((ad 1), aI cy 6 a_letterMaps), ((ad 2), aI cy 7776 a_places), ((ad 3), aI cy 1546 a_maps), ((ad 4), aI cy 1546 a_from), ((ad 5), aI cy 1546 a_lastLetters), ((ad 6), aI cy 1546 a_lengths)] H → va_D A [((ad 0), .inr (0, [.ref (ad 1), .int a_letterCount, .ref (ad 2), .ref (ad 3), .ref (ad 4), .ref (ad 5), .ref (ad 6), .int a_size, .ref (ad 7), .ref (ad 8)])), ((ad 1), aI cy 6 a_letterMaps), ((ad 2), aI cy 7776 a_places), ((ad 3), aI cy 1546 a_maps), ((ad 4), aI cy 1546 a_from), ((ad 5), aI cy 1546 a_lastLetters), ((ad 6), aI cy 1546 a_lengths)] → va_S A s.heap H locs → lv_has ls 3 [(0, .ref (ad 0)), (1, .int x1), (2, .int x2)] → W p l e { frames := 2, cells := 0, slots := 0, locals := 45 } s m args below meth c H locs 0 0 (MQ below ((fun A => va_Qv (fun (u : Int32 × (Nat → Int32) × (Nat → Int32) × (Nat → Int32) × (Nat → Int32) × (Nat → Int32)) => ∃ (z0 : Int32) (z1 : Nat → Int32) (z2 : Nat → Int32) (z3 : Nat → Int32) (z4 : Nat → Int32) (z5 : Nat → Int32), u = (z0, z1, z2, z3, z4, z5) ∧ Q z0 z1 z2 z3 z4 z5) (zE D vwCl A (fun (u : Int32 × (Nat → Int32) × (Nat → Int32) × (Nat → Int32) × (Nat → Int32) × (Nat → Int32)) => [((ad 0), .inr (0, [.ref (ad 1), .int a_letterCount, .ref (ad 2), .ref (ad 3), .ref (ad 4), .ref (ad 5), .ref (ad 6), .int (u.1), .ref (ad 7), .ref (ad 8)])), ((ad 1), aI cy 6 a_letterMaps), ((ad 2), aI cy 7776 (u.2.1)), ((ad 3), aI cy 1546 (u.2.2.1)), ((ad 4), aI cy 1546 (u.2.2.2.1)), ((ad 5), aI cy 1546 (u.2.2.2.2.1)), ((ad 6), aI cy 1546 (u.2.2.2.2.2))])) A) A) args s 0 0 A) (F0 m 47 ls []) := by
      intro nn
      induction nn with
      | zero => intro x2 a_size a_places a_maps a_from a_lastLetters a_lengths h; exact h.elim
      | succ nn hrc47 =>
        intro x2 a_size a_places a_maps a_from a_lastLetters a_lengths h H locs ls hP hD hS hl
        have h : wb_X0_find_47 a_letterCount a_letterMaps x1 rc30 Q (lpW7 (wb_X0_find_47 a_letterCount a_letterMaps x1 rc30 Q) nn) x2 a_size a_places a_maps a_from a_lastLetters a_lengths := h
        unfold wb_X0_find_47 at h
        refine lv_iload_n hx hb dX0_find_47 rfl (lv_at hl 2 rfl) ?_
        refine lv_aload_n hx hb dX0_find_48 rfl (lv_at hl 0 rfl) ?_
        refine va_get (D := D) (ci := 0) (v := .int a_letterCount) (C := RX0) (T := TX0) (N := 10) hx hb hts iX0 hown hK hP 0 rfl rfl 1 (Nat.le_of_ble_eq_true rfl) (hts _ fl_X0_15) (fun _ h9 => h9) rfl dX0_find_49 ?_
        refine lv_icmp_ge (tgt := 82) hx hb dX0_find_52 (by decide) (fun c_14 => ?_) (fun c_14 => ?_)
        · have h := h.1 c_14
          obtain ⟨x1_15, e_x1_15⟩ : ∃ y : Int32, y = x1 + (1 : Int32) := ⟨_, rfl⟩
          refine lv_iinc (v := x1_15) (lv' := [(1, .int x1_15), (0, .ref (ad 0)), (2, .int x2)]) hx hb dX0_find_82 hl (k := 1) rfl (by rw [e_x1_15]; rfl) (by decide) rfl (fun ls hl => ?_)
          have h := h x1_15 e_x1_15
          refine lv_goto (tgt := 30) hx hb dX0_find_85 (by decide) ?_
          exact hrc30 x1_15 a_size a_places a_maps a_from a_lastLetters a_lengths h _ _ _ hP hD hS (lv_sub hl [1, 0] rfl)
        · have h := h.2 c_14
          refine lv_aload_n hx hb dX0_find_55 rfl (lv_at hl 0 rfl) ?_
          refine lv_aload_n hx hb dX0_find_56 rfl (lv_at hl 0 rfl) ?_
          refine va_get (D := D) (ci := 0) (v := .ref (ad 3)) (C := RX0) (T := TX0) (N := 10) hx hb hts iX0 hown hK hP 0 rfl rfl 3 (Nat.le_of_ble_eq_true rfl) (hts _ fl_X0_22) (fun _ h9 => h9) rfl dX0_find_57 ?_
          refine lv_iload_n hx hb dX0_find_60 rfl (lv_at hl 1 rfl) ?_
          obtain ⟨hi_16, h⟩ := h
          refine va_iald hx hb hK hP 3 0 rfl rfl hi_16 dX0_find_61 ?_
          refine lv_aload_n hx hb dX0_find_62 rfl (lv_at hl 0 rfl) ?_
          refine va_get (D := D) (ci := 0) (v := .ref (ad 1)) (C := RX0) (T := TX0) (N := 10) hx hb hts iX0 hown hK hP 0 rfl rfl 0 (Nat.le_of_ble_eq_true rfl) (hts _ fl_X0_9) (fun _ h9 => h9) rfl dX0_find_63 ?_
          refine lv_iload_n hx hb dX0_find_66 rfl (lv_at hl 2 rfl) ?_
          obtain ⟨hi_17, h⟩ := h
          refine va_iald hx hb hK hP 1 0 rfl rfl hi_17 dX0_find_67 ?_
          refine zc_S0 (As := [.int (a_maps x1.toNatClampNeg), .int (a_letterMaps x2.toNatClampNeg)]) (rest := [.ref (ad 0)]) hx hb hml hown hts hK hPW hA hl.1 hP hS ⟨Nat.zero_le _, Nat.zero_le _⟩ (c_X1_then l D cy (sz := _) (x0 := (a_maps x1.toNatClampNeg)) (x1 := (a_letterMaps x2.toNatClampNeg)) (h := h)) k_X0_62 ⟨rfl, rfl, (Nat.le_of_ble_eq_true rfl), (Nat.le_of_ble_eq_true rfl)⟩ rfl rfl (Nat.le_of_ble_eq_true rfl) dX0_find_68 (fun r_18 H locs h hP hS => ?_)
          refine lv_iload_n hx hb dX0_find_71 rfl (lv_at hl 1 rfl) ?_
          refine lv_iload_n hx hb dX0_find_72 rfl (lv_at hl 2 rfl) ?_
          refine zc_Vv (As := [.int r_18, .int x1, .int x2]) (rest := []) (wc := [((ad 0), .inr (0, [.ref (ad 1), .int a_letterCount, .ref (ad 2), .ref (ad 3), .ref (ad 4), .ref (ad 5), .ref (ad 6), .int a_size, .ref (ad 7), .ref (ad 8)])), ((ad 2), aI cy 7776 a_places), ((ad 3), aI cy 1546 a_maps), ((ad 4), aI cy 1546 a_from), ((ad 5), aI cy 1546 a_lastLetters), ((ad 6), aI cy 1546 a_lengths)]) (wr := [((ad 1), aI cy 6 a_letterMaps)]) hx hb hml hown hts hK hPW hA hl.1 hP hD hS ⟨Nat.zero_le _, Nat.zero_le _⟩ [0, 2, 3, 4, 5, 6] [1] rfl rfl (by decide) (c_X0_add l D cy (sz := _) (x1 := r_18) (x2 := x1) (x3 := x2) (ad := ad) (a_letterCount := a_letterCount) (a_size := a_size) (a_places := a_places) (a_maps := a_maps) (a_from := a_from) (a_lastLetters := a_lastLetters) (a_lengths := a_lengths) (h := h)) k_X0_58 ⟨rfl, rfl, (Nat.le_of_ble_eq_true rfl), (Nat.le_of_ble_eq_true rfl)⟩ rfl rfl rfl rfl (Nat.le_of_ble_eq_true rfl) dX0_find_73 (fun u_19 H locs h hP hD hS => ?_)
          obtain ⟨a_size_19, a_places_19, a_maps_19, a_from_19, a_lastLetters_19, a_lengths_19, rfl, h⟩ := h
          have hP : va_P D vwCl [((ad 1), aI cy 6 a_letterMaps), ((ad 0), .inr (0, [.ref (ad 1), .int a_letterCount, .ref (ad 2), .ref (ad 3), .ref (ad 4), .ref (ad 5), .ref (ad 6), .int a_size_19, .ref (ad 7), .ref (ad 8)])), ((ad 2), aI cy 7776 a_places_19), ((ad 3), aI cy 1546 a_maps_19), ((ad 4), aI cy 1546 a_from_19), ((ad 5), aI cy 1546 a_lastLetters_19), ((ad 6), aI cy 1546 a_lengths_19)] H := hP
          have hD : va_D A [((ad 1), aI cy 6 a_letterMaps), ((ad 0), .inr (0, [.ref (ad 1), .int a_letterCount, .ref (ad 2), .ref (ad 3), .ref (ad 4), .ref (ad 5), .ref (ad 6), .int a_size_19, .ref (ad 7), .ref (ad 8)])), ((ad 2), aI cy 7776 a_places_19), ((ad 3), aI cy 1546 a_maps_19), ((ad 4), aI cy 1546 a_from_19), ((ad 5), aI cy 1546 a_lastLetters_19), ((ad 6), aI cy 1546 a_lengths_19)] := hD
          obtain ⟨x2_20, e_x2_20⟩ : ∃ y : Int32, y = x2 + (1 : Int32) := ⟨_, rfl⟩
          refine lv_iinc (v := x2_20) (lv' := [(2, .int x2_20), (0, .ref (ad 0)), (1, .int x1)]) hx hb dX0_find_76 hl (k := 2) rfl (by rw [e_x2_20]; rfl) (by decide) rfl (fun ls hl => ?_)
          have h := h x2_20 e_x2_20
          refine lv_goto (tgt := 47) hx hb dX0_find_79 (by decide) ?_
          exact hrc47 x2_20 a_size_19 a_places_19 a_maps_19 a_from_19 a_lastLetters_19 a_lengths_19 h _ _ _ (hP.sub [1, 0, 2, 3, 4, 5, 6] rfl) (hD.sub [1, 0, 2, 3, 4, 5, 6] (by decide) rfl) hS (lv_sub hl [1, 2, 0] rfl)
    exact key nn x2 a_size a_places a_maps a_from a_lastLetters a_lengths h
  have hJ30 : ∀ (x1 : Int32) (a_size : Int32) (a_places : Nat → Int32) (a_maps : Nat → Int32) (a_from : Nat → Int32) (a_lastLetters : Nat → Int32) (a_lengths : Nat → Int32), wp_X0_find_30 a_letterCount a_letterMaps  Q x1 a_size a_places a_maps a_from a_lastLetters a_lengths → ∀ (H : Heap) (locs : List Loc) (ls : Array Slot), va_P D vwCl [((ad 0), .inr (0, [.ref (ad 1), .int a_letterCount, .ref (ad 2), .ref (ad 3), .ref (ad 4), .ref (ad 5), .ref (ad 6), .int a_size, .ref (ad 7), .ref (ad 8)])), ((ad 1), aI cy 6 a_letterMaps), ((ad 2), aI cy 7776 a_places), ((ad 3), aI cy 1546 a_maps), ((ad 4), aI cy 1546 a_from), ((ad 5), aI cy 1546 a_lastLetters), ((ad 6), aI cy 1546 a_lengths)] H → va_D A [((ad 0), .inr (0, [.ref (ad 1), .int a_letterCount, .ref (ad 2), .ref (ad 3), .ref (ad 4), .ref (ad 5), .ref (ad 6), .int a_size, .ref (ad 7), .ref (ad 8)])), ((ad 1), aI cy 6 a_letterMaps), ((ad 2), aI cy 7776 a_places), ((ad 3), aI cy 1546 a_maps), ((ad 4), aI cy 1546 a_from), ((ad 5), aI cy 1546 a_lastLetters), ((ad 6), aI cy 1546 a_lengths)] → va_S A s.heap H locs → lv_has ls 3 [(0, .ref (ad 0)), (1, .int x1)] → W p l e { frames := 2, cells := 0, slots := 0, locals := 45 } s m args below meth c H locs 0 0 (MQ below ((fun A => va_Qv (fun (u : Int32 × (Nat → Int32) × (Nat → Int32) × (Nat → Int32) × (Nat → Int32) × (Nat → Int32)) => ∃ (z0 : Int32) (z1 : Nat → Int32) (z2 : Nat → Int32) (z3 : Nat → Int32) (z4 : Nat → Int32) (z5 : Nat → Int32), u = (z0, z1, z2, z3, z4, z5) ∧ Q z0 z1 z2 z3 z4 z5) (zE D vwCl A (fun (u : Int32 × (Nat → Int32) × (Nat → Int32) × (Nat → Int32) × (Nat → Int32) × (Nat → Int32)) => [((ad 0), .inr (0, [.ref (ad 1), .int a_letterCount, .ref (ad 2), .ref (ad 3), .ref (ad 4), .ref (ad 5), .ref (ad 6), .int (u.1), .ref (ad 7), .ref (ad 8)])), ((ad 1), aI cy 6 a_letterMaps), ((ad 2), aI cy 7776 (u.2.1)), ((ad 3), aI cy 1546 (u.2.2.1)), ((ad 4), aI cy 1546 (u.2.2.2.1)), ((ad 5), aI cy 1546 (u.2.2.2.2.1)), ((ad 6), aI cy 1546 (u.2.2.2.2.2))])) A) A) args s 0 0 A) (F0 m 30 ls []) := by
    intro x1 a_size a_places a_maps a_from a_lastLetters a_lengths   h
    obtain ⟨nn, h⟩ := h
    have key : ∀ (nn : Nat) (x1 : Int32) (a_size : Int32) (a_places : Nat → Int32) (a_maps : Nat → Int32) (a_from : Nat → Int32) (a_lastLetters : Nat → Int32) (a_lengths : Nat → Int32), lpW7 (wb_X0_find_30 a_letterCount a_letterMaps  Q) nn x1 a_size a_places a_maps a_from a_lastLetters a_lengths → ∀ (H : Heap) (locs : List Loc) (ls : Array Slot), va_P D vwCl [((ad 0), .inr (0, [.ref (ad 1), .int a_letterCount, .ref (ad 2), .ref (ad 3), .ref (ad 4), .ref (ad 5), .ref (ad 6), .int a_size, .ref (ad 7), .ref (ad 8)])), ((ad 1), aI cy 6 a_letterMaps), ((ad 2), aI cy 7776 a_places), ((ad 3), aI cy 1546 a_maps), ((ad 4), aI cy 1546 a_from), ((ad 5), aI cy 1546 a_lastLetters), ((ad 6), aI cy 1546 a_lengths)] H → va_D A [((ad 0), .inr (0, [.ref (ad 1), .int a_letterCount, .ref (ad 2), .ref (ad 3), .ref (ad 4), .ref (ad 5), .ref (ad 6), .int a_size, .ref (ad 7), .ref (ad 8)])), ((ad 1), aI cy 6 a_letterMaps), ((ad 2), aI cy 7776 a_places), ((ad 3), aI cy 1546 a_maps), ((ad 4), aI cy 1546 a_from), ((ad 5), aI cy 1546 a_lastLetters), ((ad 6), aI cy 1546 a_lengths)] → va_S A s.heap H locs → lv_has ls 3 [(0, .ref (ad 0)), (1, .int x1)] → W p l e { frames := 2, cells := 0, slots := 0, locals := 45 } s m args below meth c H locs 0 0 (MQ below ((fun A => va_Qv (fun (u : Int32 × (Nat → Int32) × (Nat → Int32) × (Nat → Int32) × (Nat → Int32) × (Nat → Int32)) => ∃ (z0 : Int32) (z1 : Nat → Int32) (z2 : Nat → Int32) (z3 : Nat → Int32) (z4 : Nat → Int32) (z5 : Nat → Int32), u = (z0, z1, z2, z3, z4, z5) ∧ Q z0 z1 z2 z3 z4 z5) (zE D vwCl A (fun (u : Int32 × (Nat → Int32) × (Nat → Int32) × (Nat → Int32) × (Nat → Int32) × (Nat → Int32)) => [((ad 0), .inr (0, [.ref (ad 1), .int a_letterCount, .ref (ad 2), .ref (ad 3), .ref (ad 4), .ref (ad 5), .ref (ad 6), .int (u.1), .ref (ad 7), .ref (ad 8)])), ((ad 1), aI cy 6 a_letterMaps), ((ad 2), aI cy 7776 (u.2.1)), ((ad 3), aI cy 1546 (u.2.2.1)), ((ad 4), aI cy 1546 (u.2.2.2.1)), ((ad 5), aI cy 1546 (u.2.2.2.2.1)), ((ad 6), aI cy 1546 (u.2.2.2.2.2))])) A) A) args s 0 0 A) (F0 m 30 ls []) := by
      intro nn
      induction nn with
      | zero => intro x1 a_size a_places a_maps a_from a_lastLetters a_lengths h; exact h.elim
      | succ nn hrc30 =>
        intro x1 a_size a_places a_maps a_from a_lastLetters a_lengths h H locs ls hP hD hS hl
        have h : wb_X0_find_30 a_letterCount a_letterMaps  Q (lpW7 (wb_X0_find_30 a_letterCount a_letterMaps  Q) nn) x1 a_size a_places a_maps a_from a_lastLetters a_lengths := h
        unfold wb_X0_find_30 at h
        refine lv_iload_n hx hb dX0_find_30 rfl (lv_at hl 1 rfl) ?_
        refine lv_aload_n hx hb dX0_find_31 rfl (lv_at hl 0 rfl) ?_
        refine va_get (D := D) (ci := 0) (v := .int a_size) (C := RX0) (T := TX0) (N := 10) hx hb hts iX0 hown hK hP 0 rfl rfl 7 (Nat.le_of_ble_eq_true rfl) (hts _ fl_X0_34) (fun _ h9 => h9) rfl dX0_find_32 ?_
        refine lv_icmp_ge (tgt := 88) hx hb dX0_find_35 (by decide) (fun c_21 => ?_) (fun c_21 => ?_)
        · have h := h.1 c_21
          exact z_vret (a_size, a_places, a_maps, a_from, a_lastLetters, a_lengths) hx hb hr hlocks ⟨a_size, a_places, a_maps, a_from, a_lastLetters, a_lengths, rfl, h⟩ hP hD hS dX0_find_88
        · have h := h.2 c_21
          refine lv_iload_n hx hb dX0_find_38 rfl (lv_at hl 1 rfl) ?_
          refine lv_sipush (v := (1546 : Int32)) hx hb dX0_find_39 (by decide) ?_
          refine lv_icmp_ge (tgt := 88) hx hb dX0_find_42 (by decide) (fun c_22 => ?_) (fun c_22 => ?_)
          · have h := h.1 c_22
            exact z_vret (a_size, a_places, a_maps, a_from, a_lastLetters, a_lengths) hx hb hr hlocks ⟨a_size, a_places, a_maps, a_from, a_lastLetters, a_lengths, rfl, h⟩ hP hD hS dX0_find_88
          · have h := h.2 c_22
            refine lv_iconst (v := (0 : Int32)) hx hb dX0_find_45 (by decide) ?_
            refine lv_istore_n (lv' := [(2, .int (0 : Int32)), (0, .ref (ad 0)), (1, .int x1)]) hx hb dX0_find_46 rfl hl (by decide) rfl (fun ls hl => ?_)
            exact hJ47 x1 (0 : Int32) a_size a_places a_maps a_from a_lastLetters a_lengths _ hrc30  h _ _ _ hP hD hS (lv_sub hl [1, 2, 0] rfl)
    exact key nn x1 a_size a_places a_maps a_from a_lastLetters a_lengths h
  have hJ2 : ∀ (x1 : Int32) (a_size : Int32) (a_places : Nat → Int32) (a_maps : Nat → Int32) (a_from : Nat → Int32) (a_lastLetters : Nat → Int32) (a_lengths : Nat → Int32), wp_X0_find_2 a_letterCount a_letterMaps  Q x1 a_size a_places a_maps a_from a_lastLetters a_lengths → ∀ (H : Heap) (locs : List Loc) (ls : Array Slot), va_P D vwCl [((ad 0), .inr (0, [.ref (ad 1), .int a_letterCount, .ref (ad 2), .ref (ad 3), .ref (ad 4), .ref (ad 5), .ref (ad 6), .int a_size, .ref (ad 7), .ref (ad 8)])), ((ad 1), aI cy 6 a_letterMaps), ((ad 2), aI cy 7776 a_places), ((ad 3), aI cy 1546 a_maps), ((ad 4), aI cy 1546 a_from), ((ad 5), aI cy 1546 a_lastLetters), ((ad 6), aI cy 1546 a_lengths)] H → va_D A [((ad 0), .inr (0, [.ref (ad 1), .int a_letterCount, .ref (ad 2), .ref (ad 3), .ref (ad 4), .ref (ad 5), .ref (ad 6), .int a_size, .ref (ad 7), .ref (ad 8)])), ((ad 1), aI cy 6 a_letterMaps), ((ad 2), aI cy 7776 a_places), ((ad 3), aI cy 1546 a_maps), ((ad 4), aI cy 1546 a_from), ((ad 5), aI cy 1546 a_lastLetters), ((ad 6), aI cy 1546 a_lengths)] → va_S A s.heap H locs → lv_has ls 3 [(0, .ref (ad 0)), (1, .int x1)] → W p l e { frames := 2, cells := 0, slots := 0, locals := 45 } s m args below meth c H locs 0 0 (MQ below ((fun A => va_Qv (fun (u : Int32 × (Nat → Int32) × (Nat → Int32) × (Nat → Int32) × (Nat → Int32) × (Nat → Int32)) => ∃ (z0 : Int32) (z1 : Nat → Int32) (z2 : Nat → Int32) (z3 : Nat → Int32) (z4 : Nat → Int32) (z5 : Nat → Int32), u = (z0, z1, z2, z3, z4, z5) ∧ Q z0 z1 z2 z3 z4 z5) (zE D vwCl A (fun (u : Int32 × (Nat → Int32) × (Nat → Int32) × (Nat → Int32) × (Nat → Int32) × (Nat → Int32)) => [((ad 0), .inr (0, [.ref (ad 1), .int a_letterCount, .ref (ad 2), .ref (ad 3), .ref (ad 4), .ref (ad 5), .ref (ad 6), .int (u.1), .ref (ad 7), .ref (ad 8)])), ((ad 1), aI cy 6 a_letterMaps), ((ad 2), aI cy 7776 (u.2.1)), ((ad 3), aI cy 1546 (u.2.2.1)), ((ad 4), aI cy 1546 (u.2.2.2.1)), ((ad 5), aI cy 1546 (u.2.2.2.2.1)), ((ad 6), aI cy 1546 (u.2.2.2.2.2))])) A) A) args s 0 0 A) (F0 m 2 ls []) := by
    intro x1 a_size a_places a_maps a_from a_lastLetters a_lengths   h
    obtain ⟨nn, h⟩ := h
    have key : ∀ (nn : Nat) (x1 : Int32) (a_size : Int32) (a_places : Nat → Int32) (a_maps : Nat → Int32) (a_from : Nat → Int32) (a_lastLetters : Nat → Int32) (a_lengths : Nat → Int32), lpW7 (wb_X0_find_2 a_letterCount a_letterMaps  Q) nn x1 a_size a_places a_maps a_from a_lastLetters a_lengths → ∀ (H : Heap) (locs : List Loc) (ls : Array Slot), va_P D vwCl [((ad 0), .inr (0, [.ref (ad 1), .int a_letterCount, .ref (ad 2), .ref (ad 3), .ref (ad 4), .ref (ad 5), .ref (ad 6), .int a_size, .ref (ad 7), .ref (ad 8)])), ((ad 1), aI cy 6 a_letterMaps), ((ad 2), aI cy 7776 a_places), ((ad 3), aI cy 1546 a_maps), ((ad 4), aI cy 1546 a_from), ((ad 5), aI cy 1546 a_lastLetters), ((ad 6), aI cy 1546 a_lengths)] H → va_D A [((ad 0), .inr (0, [.ref (ad 1), .int a_letterCount, .ref (ad 2), .ref (ad 3), .ref (ad 4), .ref (ad 5), .ref (ad 6), .int a_size, .ref (ad 7), .ref (ad 8)])), ((ad 1), aI cy 6 a_letterMaps), ((ad 2), aI cy 7776 a_places), ((ad 3), aI cy 1546 a_maps), ((ad 4), aI cy 1546 a_from), ((ad 5), aI cy 1546 a_lastLetters), ((ad 6), aI cy 1546 a_lengths)] → va_S A s.heap H locs → lv_has ls 3 [(0, .ref (ad 0)), (1, .int x1)] → W p l e { frames := 2, cells := 0, slots := 0, locals := 45 } s m args below meth c H locs 0 0 (MQ below ((fun A => va_Qv (fun (u : Int32 × (Nat → Int32) × (Nat → Int32) × (Nat → Int32) × (Nat → Int32) × (Nat → Int32)) => ∃ (z0 : Int32) (z1 : Nat → Int32) (z2 : Nat → Int32) (z3 : Nat → Int32) (z4 : Nat → Int32) (z5 : Nat → Int32), u = (z0, z1, z2, z3, z4, z5) ∧ Q z0 z1 z2 z3 z4 z5) (zE D vwCl A (fun (u : Int32 × (Nat → Int32) × (Nat → Int32) × (Nat → Int32) × (Nat → Int32) × (Nat → Int32)) => [((ad 0), .inr (0, [.ref (ad 1), .int a_letterCount, .ref (ad 2), .ref (ad 3), .ref (ad 4), .ref (ad 5), .ref (ad 6), .int (u.1), .ref (ad 7), .ref (ad 8)])), ((ad 1), aI cy 6 a_letterMaps), ((ad 2), aI cy 7776 (u.2.1)), ((ad 3), aI cy 1546 (u.2.2.1)), ((ad 4), aI cy 1546 (u.2.2.2.1)), ((ad 5), aI cy 1546 (u.2.2.2.2.1)), ((ad 6), aI cy 1546 (u.2.2.2.2.2))])) A) A) args s 0 0 A) (F0 m 2 ls []) := by
      intro nn
      induction nn with
      | zero => intro x1 a_size a_places a_maps a_from a_lastLetters a_lengths h; exact h.elim
      | succ nn hrc2 =>
        intro x1 a_size a_places a_maps a_from a_lastLetters a_lengths h H locs ls hP hD hS hl
        have h : wb_X0_find_2 a_letterCount a_letterMaps  Q (lpW7 (wb_X0_find_2 a_letterCount a_letterMaps  Q) nn) x1 a_size a_places a_maps a_from a_lastLetters a_lengths := h
        unfold wb_X0_find_2 at h
        refine lv_iload_n hx hb dX0_find_2 rfl (lv_at hl 1 rfl) ?_
        refine lv_aload_n hx hb dX0_find_3 rfl (lv_at hl 0 rfl) ?_
        refine va_get (D := D) (ci := 0) (v := .int a_letterCount) (C := RX0) (T := TX0) (N := 10) hx hb hts iX0 hown hK hP 0 rfl rfl 1 (Nat.le_of_ble_eq_true rfl) (hts _ fl_X0_15) (fun _ h9 => h9) rfl dX0_find_4 ?_
        refine lv_icmp_ge (tgt := 28) hx hb dX0_find_7 (by decide) (fun c_23 => ?_) (fun c_23 => ?_)
        · have h := h.1 c_23
          refine lv_iconst (v := (0 : Int32)) hx hb dX0_find_28 (by decide) ?_
          refine lv_istore_n (lv' := [(1, .int (0 : Int32)), (0, .ref (ad 0))]) hx hb dX0_find_29 rfl hl (by decide) rfl (fun ls hl => ?_)
          exact hJ30 (0 : Int32) a_size a_places a_maps a_from a_lastLetters a_lengths   h _ _ _ hP hD hS (lv_sub hl [1, 0] rfl)
        · have h := h.2 c_23
          refine lv_aload_n hx hb dX0_find_10 rfl (lv_at hl 0 rfl) ?_
          refine lv_aload_n hx hb dX0_find_11 rfl (lv_at hl 0 rfl) ?_
          refine va_get (D := D) (ci := 0) (v := .ref (ad 1)) (C := RX0) (T := TX0) (N := 10) hx hb hts iX0 hown hK hP 0 rfl rfl 0 (Nat.le_of_ble_eq_true rfl) (hts _ fl_X0_9) (fun _ h9 => h9) rfl dX0_find_12 ?_
          refine lv_iload_n hx hb dX0_find_15 rfl (lv_at hl 1 rfl) ?_
          obtain ⟨hi_24, h⟩ := h
          refine va_iald hx hb hK hP 1 0 rfl rfl hi_24 dX0_find_16 ?_
          refine lv_iconst (v := (-1 : Int32)) hx hb dX0_find_17 (by decide) ?_
          refine lv_iload_n hx hb dX0_find_18 rfl (lv_at hl 1 rfl) ?_
          refine zc_Vv (As := [.int (a_letterMaps x1.toNatClampNeg), .int (-1 : Int32), .int x1]) (rest := []) (wc := [((ad 0), .inr (0, [.ref (ad 1), .int a_letterCount, .ref (ad 2), .ref (ad 3), .ref (ad 4), .ref (ad 5), .ref (ad 6), .int a_size, .ref (ad 7), .ref (ad 8)])), ((ad 2), aI cy 7776 a_places), ((ad 3), aI cy 1546 a_maps), ((ad 4), aI cy 1546 a_from), ((ad 5), aI cy 1546 a_lastLetters), ((ad 6), aI cy 1546 a_lengths)]) (wr := [((ad 1), aI cy 6 a_letterMaps)]) hx hb hml hown hts hK hPW hA hl.1 hP hD hS ⟨Nat.zero_le _, Nat.zero_le _⟩ [0, 2, 3, 4, 5, 6] [1] rfl rfl (by decide) (c_X0_add l D cy (sz := _) (x1 := (a_letterMaps x1.toNatClampNeg)) (x2 := (-1 : Int32)) (x3 := x1) (ad := ad) (a_letterCount := a_letterCount) (a_size := a_size) (a_places := a_places) (a_maps := a_maps) (a_from := a_from) (a_lastLetters := a_lastLetters) (a_lengths := a_lengths) (h := h)) k_X0_58 ⟨rfl, rfl, (Nat.le_of_ble_eq_true rfl), (Nat.le_of_ble_eq_true rfl)⟩ rfl rfl rfl rfl (Nat.le_of_ble_eq_true rfl) dX0_find_19 (fun u_25 H locs h hP hD hS => ?_)
          obtain ⟨a_size_25, a_places_25, a_maps_25, a_from_25, a_lastLetters_25, a_lengths_25, rfl, h⟩ := h
          have hP : va_P D vwCl [((ad 1), aI cy 6 a_letterMaps), ((ad 0), .inr (0, [.ref (ad 1), .int a_letterCount, .ref (ad 2), .ref (ad 3), .ref (ad 4), .ref (ad 5), .ref (ad 6), .int a_size_25, .ref (ad 7), .ref (ad 8)])), ((ad 2), aI cy 7776 a_places_25), ((ad 3), aI cy 1546 a_maps_25), ((ad 4), aI cy 1546 a_from_25), ((ad 5), aI cy 1546 a_lastLetters_25), ((ad 6), aI cy 1546 a_lengths_25)] H := hP
          have hD : va_D A [((ad 1), aI cy 6 a_letterMaps), ((ad 0), .inr (0, [.ref (ad 1), .int a_letterCount, .ref (ad 2), .ref (ad 3), .ref (ad 4), .ref (ad 5), .ref (ad 6), .int a_size_25, .ref (ad 7), .ref (ad 8)])), ((ad 2), aI cy 7776 a_places_25), ((ad 3), aI cy 1546 a_maps_25), ((ad 4), aI cy 1546 a_from_25), ((ad 5), aI cy 1546 a_lastLetters_25), ((ad 6), aI cy 1546 a_lengths_25)] := hD
          obtain ⟨x1_26, e_x1_26⟩ : ∃ y : Int32, y = x1 + (1 : Int32) := ⟨_, rfl⟩
          refine lv_iinc (v := x1_26) (lv' := [(1, .int x1_26), (0, .ref (ad 0))]) hx hb dX0_find_22 hl (k := 1) rfl (by rw [e_x1_26]; rfl) (by decide) rfl (fun ls hl => ?_)
          have h := h x1_26 e_x1_26
          refine lv_goto (tgt := 2) hx hb dX0_find_25 (by decide) ?_
          exact hrc2 x1_26 a_size_25 a_places_25 a_maps_25 a_from_25 a_lastLetters_25 a_lengths_25 h _ _ _ (hP.sub [1, 0, 2, 3, 4, 5, 6] rfl) (hD.sub [1, 0, 2, 3, 4, 5, 6] (by decide) rfl) hS (lv_sub hl [1, 0] rfl)
    exact key nn x1 a_size a_places a_maps a_from a_lastLetters a_lengths h
  unfold wp_X0_find at h
  refine lv_iconst (v := (0 : Int32)) hx hb dX0_find_0 (by decide) ?_
  refine lv_istore_n (lv' := [(1, .int (0 : Int32)), (0, .ref (ad 0))]) hx hb dX0_find_1 rfl hl (by decide) rfl (fun ls hl => ?_)
  exact hJ2 (0 : Int32) a_size a_places a_maps a_from a_lastLetters a_lengths   h _ _ _ hP hD hS (lv_sub hl [1, 0] rfl)
set_option maxHeartbeats 4000000 in
set_option maxRecDepth 100000 in
theorem c_X0_forget (l : Launch) (D : va_G) (cy : Nat → ClassId) (ad : Nat → Nat) (sz : Nat) (a_letterCount : Int32) (a_size : Int32) (a_places : Nat → Int32) (a_maps : Nat → Int32) {Q : Int32 → (Nat → Int32) → Prop} (h : wp_X0_forget a_size a_places a_maps Q) : Met l yX0_forget (wsU yX0_forget cX0_forget 2 none) { frames := 0, cells := 0, slots := 0, locals := 0 } (va_Pc [.ref (ad 0)] (zB D vwCl (tyU cy) [((ad 0), .inr (0, [.ref (ad 1), .int a_letterCount, .ref (ad 2), .ref (ad 3), .ref (ad 4), .ref (ad 5), .ref (ad 6), .int a_size, .ref (ad 7), .ref (ad 8)])), ((ad 2), aI cy 7776 a_places), ((ad 3), aI cy 1546 a_maps)] sz)) ((fun A => va_Qv (fun (u : Int32 × (Nat → Int32)) => ∃ (z0 : Int32) (z1 : Nat → Int32), u = (z0, z1) ∧ Q z0 z1) (zE D vwCl A (fun (u : Int32 × (Nat → Int32)) => [((ad 0), .inr (0, [.ref (ad 1), .int a_letterCount, .ref (ad 2), .ref (ad 3), .ref (ad 4), .ref (ad 5), .ref (ad 6), .int (u.1), .ref (ad 7), .ref (ad 8)])), ((ad 2), aI cy 7776 (u.2)), ((ad 3), aI cy 1546 a_maps)])) A) (va_A [((ad 0), .inr (0, [.ref (ad 1), .int a_letterCount, .ref (ad 2), .ref (ad 3), .ref (ad 4), .ref (ad 5), .ref (ad 6), .int a_size, .ref (ad 7), .ref (ad 8)])), ((ad 2), aI cy 7776 a_places), ((ad 3), aI cy 1546 a_maps)] sz)) 0 0 (va_A [((ad 0), .inr (0, [.ref (ad 1), .int a_letterCount, .ref (ad 2), .ref (ad 3), .ref (ad 4), .ref (ad 5), .ref (ad 6), .int a_size, .ref (ad 7), .ref (ad 8)])), ((ad 2), aI cy 7776 a_places), ((ad 3), aI cy 1546 a_maps)] sz) := by
  refine z_ofX (fun A => va_Qv (fun (u : Int32 × (Nat → Int32)) => ∃ (z0 : Int32) (z1 : Nat → Int32), u = (z0, z1) ∧ Q z0 z1) (zE D vwCl A (fun (u : Int32 × (Nat → Int32)) => [((ad 0), .inr (0, [.ref (ad 1), .int a_letterCount, .ref (ad 2), .ref (ad 3), .ref (ad 4), .ref (ad 5), .ref (ad 6), .int (u.1), .ref (ad 7), .ref (ad 8)])), ((ad 2), aI cy 7776 (u.2)), ((ad 3), aI cy 1546 a_maps)])) A) (by decide) (Nat.le_of_ble_eq_true rfl) (fun p e s m below meth c A ls hx hb hr hml hown hts hlocks hK hPW hA hP hD hS hl => ?_)
  have hl : lv_has ls 2 [(0, .ref (ad 0))] := hl
  have hown : s.vm.findClass RX0 = some m.cls := hown
  generalize hArg : ([.ref (ad 0)] : List Value).toArray = args at hts ⊢
  have hJ2 : ∀ (x1 : Int32) (a_size : Int32) (a_places : Nat → Int32), wp_X0_forget_2 a_maps a_size  Q x1 a_places → ∀ (H : Heap) (locs : List Loc) (ls : Array Slot), va_P D vwCl [((ad 0), .inr (0, [.ref (ad 1), .int a_letterCount, .ref (ad 2), .ref (ad 3), .ref (ad 4), .ref (ad 5), .ref (ad 6), .int a_size, .ref (ad 7), .ref (ad 8)])), ((ad 2), aI cy 7776 a_places), ((ad 3), aI cy 1546 a_maps)] H → va_D A [((ad 0), .inr (0, [.ref (ad 1), .int a_letterCount, .ref (ad 2), .ref (ad 3), .ref (ad 4), .ref (ad 5), .ref (ad 6), .int a_size, .ref (ad 7), .ref (ad 8)])), ((ad 2), aI cy 7776 a_places), ((ad 3), aI cy 1546 a_maps)] → va_S A s.heap H locs → lv_has ls 2 [(0, .ref (ad 0)), (1, .int x1)] → W p l e { frames := 0, cells := 0, slots := 0, locals := 0 } s m args below meth c H locs 0 0 (MQ below ((fun A => va_Qv (fun (u : Int32 × (Nat → Int32)) => ∃ (z0 : Int32) (z1 : Nat → Int32), u = (z0, z1) ∧ Q z0 z1) (zE D vwCl A (fun (u : Int32 × (Nat → Int32)) => [((ad 0), .inr (0, [.ref (ad 1), .int a_letterCount, .ref (ad 2), .ref (ad 3), .ref (ad 4), .ref (ad 5), .ref (ad 6), .int (u.1), .ref (ad 7), .ref (ad 8)])), ((ad 2), aI cy 7776 (u.2)), ((ad 3), aI cy 1546 a_maps)])) A) A) args s 0 0 A) (F0 m 2 ls []) := by
    intro x1 a_size a_places   h
    obtain ⟨nn, h⟩ := h
    have key : ∀ (nn : Nat) (x1 : Int32) (a_places : Nat → Int32), lpW2 (wb_X0_forget_2 a_maps a_size  Q) nn x1 a_places → ∀ (H : Heap) (locs : List Loc) (ls : Array Slot), va_P D vwCl [((ad 0), .inr (0, [.ref (ad 1), .int a_letterCount, .ref (ad 2), .ref (ad 3), .ref (ad 4), .ref (ad 5), .ref (ad 6), .int a_size, .ref (ad 7), .ref (ad 8)])), ((ad 2), aI cy 7776 a_places), ((ad 3), aI cy 1546 a_maps)] H → va_D A [((ad 0), .inr (0, [.ref (ad 1), .int a_letterCount, .ref (ad 2), .ref (ad 3), .ref (ad 4), .ref (ad 5), .ref (ad 6), .int a_size, .ref (ad 7), .ref (ad 8)])), ((ad 2), aI cy 7776 a_places), ((ad 3), aI cy 1546 a_maps)] → va_S A s.heap H locs → lv_has ls 2 [(0, .ref (ad 0)), (1, .int x1)] → W p l e { frames := 0, cells := 0, slots := 0, locals := 0 } s m args below meth c H locs 0 0 (MQ below ((fun A => va_Qv (fun (u : Int32 × (Nat → Int32)) => ∃ (z0 : Int32) (z1 : Nat → Int32), u = (z0, z1) ∧ Q z0 z1) (zE D vwCl A (fun (u : Int32 × (Nat → Int32)) => [((ad 0), .inr (0, [.ref (ad 1), .int a_letterCount, .ref (ad 2), .ref (ad 3), .ref (ad 4), .ref (ad 5), .ref (ad 6), .int (u.1), .ref (ad 7), .ref (ad 8)])), ((ad 2), aI cy 7776 (u.2)), ((ad 3), aI cy 1546 a_maps)])) A) A) args s 0 0 A) (F0 m 2 ls []) := by
      intro nn
      induction nn with
      | zero => intro x1 a_places h; exact h.elim
      | succ nn hrc2 =>
        intro x1 a_places h H locs ls hP hD hS hl
        have h : wb_X0_forget_2 a_maps a_size  Q (lpW2 (wb_X0_forget_2 a_maps a_size  Q) nn) x1 a_places := h
        unfold wb_X0_forget_2 at h
        refine lv_iload_n hx hb dX0_forget_2 rfl (lv_at hl 1 rfl) ?_
        refine lv_aload_n hx hb dX0_forget_3 rfl (lv_at hl 0 rfl) ?_
        refine va_get (D := D) (ci := 0) (v := .int a_size) (C := RX0) (T := TX0) (N := 10) hx hb hts iX0 hown hK hP 0 rfl rfl 7 (Nat.le_of_ble_eq_true rfl) (hts _ fl_X0_34) (fun _ h9 => h9) rfl dX0_forget_4 ?_
        refine lv_icmp_ge (tgt := 28) hx hb dX0_forget_7 (by decide) (fun c_5 => ?_) (fun c_5 => ?_)
        · have h := h.1 c_5
          refine lv_aload_n hx hb dX0_forget_28 rfl (lv_at hl 0 rfl) ?_
          refine lv_iconst (v := (0 : Int32)) hx hb dX0_forget_29 (by decide) ?_
          refine va_put (D := D) (ci := 0) (v := .int (0 : Int32)) (ty := .int) (C := RX0) (T := TX0) (N := 10) hx hb hts iX0 tyX0 tyX0_ok nmX0 hown hK hP hD hS 0 rfl rfl 7 (Nat.le_of_ble_eq_true rfl) (hts _ fl_X0_34) (fun _ h9 => h9) rfl (by decide +kernel) rfl rfl (Nat.le_of_ble_eq_true rfl) dX0_forget_30 (fun H locs hP hD hS => ?_)
          have hP : va_P D vwCl [((ad 0), .inr (0, [.ref (ad 1), .int a_letterCount, .ref (ad 2), .ref (ad 3), .ref (ad 4), .ref (ad 5), .ref (ad 6), .int (0 : Int32), .ref (ad 7), .ref (ad 8)])), ((ad 2), aI cy 7776 a_places), ((ad 3), aI cy 1546 a_maps)] H := hP
          have hD : va_D A [((ad 0), .inr (0, [.ref (ad 1), .int a_letterCount, .ref (ad 2), .ref (ad 3), .ref (ad 4), .ref (ad 5), .ref (ad 6), .int (0 : Int32), .ref (ad 7), .ref (ad 8)])), ((ad 2), aI cy 7776 a_places), ((ad 3), aI cy 1546 a_maps)] := hD
          exact z_vret ((0 : Int32), a_places) hx hb hr hlocks ⟨(0 : Int32), a_places, rfl, h⟩ hP hD hS dX0_forget_33
        · have h := h.2 c_5
          refine lv_aload_n hx hb dX0_forget_10 rfl (lv_at hl 0 rfl) ?_
          refine va_get (D := D) (ci := 0) (v := .ref (ad 2)) (C := RX0) (T := TX0) (N := 10) hx hb hts iX0 hown hK hP 0 rfl rfl 2 (Nat.le_of_ble_eq_true rfl) (hts _ fl_X0_19) (fun _ h9 => h9) rfl dX0_forget_11 ?_
          refine lv_aload_n hx hb dX0_forget_14 rfl (lv_at hl 0 rfl) ?_
          refine va_get (D := D) (ci := 0) (v := .ref (ad 3)) (C := RX0) (T := TX0) (N := 10) hx hb hts iX0 hown hK hP 0 rfl rfl 3 (Nat.le_of_ble_eq_true rfl) (hts _ fl_X0_22) (fun _ h9 => h9) rfl dX0_forget_15 ?_
          refine lv_iload_n hx hb dX0_forget_18 rfl (lv_at hl 1 rfl) ?_
          obtain ⟨hi_6, h⟩ := h
          refine va_iald hx hb hK hP 2 0 rfl rfl hi_6 dX0_forget_19 ?_
          refine lv_iconst (v := (0 : Int32)) hx hb dX0_forget_20 (by decide) ?_
          obtain ⟨hi_7, h⟩ := h
          refine va_iast hx hb hK hP hD hS 1 0 rfl rfl hi_7 dX0_forget_21 (fun H locs hP hD hS => ?_)
          have hP : va_P D vwCl [((ad 0), .inr (0, [.ref (ad 1), .int a_letterCount, .ref (ad 2), .ref (ad 3), .ref (ad 4), .ref (ad 5), .ref (ad 6), .int a_size, .ref (ad 7), .ref (ad 8)])), ((ad 2), aI cy 7776 (upd a_places (a_maps x1.toNatClampNeg).toNatClampNeg (0 : Int32))), ((ad 3), aI cy 1546 a_maps)] H := hP
          have hD : va_D A [((ad 0), .inr (0, [.ref (ad 1), .int a_letterCount, .ref (ad 2), .ref (ad 3), .ref (ad 4), .ref (ad 5), .ref (ad 6), .int a_size, .ref (ad 7), .ref (ad 8)])), ((ad 2), aI cy 7776 (upd a_places (a_maps x1.toNatClampNeg).toNatClampNeg (0 : Int32))), ((ad 3), aI cy 1546 a_maps)] := hD
          obtain ⟨x1_8, e_x1_8⟩ : ∃ y : Int32, y = x1 + (1 : Int32) := ⟨_, rfl⟩
          refine lv_iinc (v := x1_8) (lv' := [(1, .int x1_8), (0, .ref (ad 0))]) hx hb dX0_forget_22 hl (k := 1) rfl (by rw [e_x1_8]; rfl) (by decide) rfl (fun ls hl => ?_)
          have h := h x1_8 e_x1_8
          refine lv_goto (tgt := 2) hx hb dX0_forget_25 (by decide) ?_
          exact hrc2 x1_8 (upd a_places (a_maps x1.toNatClampNeg).toNatClampNeg (0 : Int32)) h _ _ _ hP hD hS (lv_sub hl [1, 0] rfl)
    exact key nn x1 a_places h
  unfold wp_X0_forget at h
  refine lv_iconst (v := (0 : Int32)) hx hb dX0_forget_0 (by decide) ?_
  refine lv_istore_n (lv' := [(1, .int (0 : Int32)), (0, .ref (ad 0))]) hx hb dX0_forget_1 rfl hl (by decide) rfl (fun ls hl => ?_)
  exact hJ2 (0 : Int32) a_size a_places   h _ _ _ hP hD hS (lv_sub hl [1, 0] rfl)
set_option maxHeartbeats 4000000 in
set_option maxRecDepth 100000 in
theorem c_X0_makeOneKind (l : Launch) (D : va_G) (cy : Nat → ClassId) (ad : Nat → Nat) (sz : Nat) (a_letterCount : Int32) (a_size : Int32) (a_kindOf : Nat → Int32) (x1 : Int32) (x2 : Int32) {Q : (Nat → Int32) → Prop} (h : wp_X0_makeOneKind x1 x2 a_kindOf Q) : Met l yX0_makeOneKind (wsU yX0_makeOneKind cX0_makeOneKind 4 none) { frames := 0, cells := 0, slots := 0, locals := 0 } (va_Pc [.ref (ad 0), .int x1, .int x2] (zB D vwCl (tyU cy) [((ad 0), .inr (0, [.ref (ad 1), .int a_letterCount, .ref (ad 2), .ref (ad 3), .ref (ad 4), .ref (ad 5), .ref (ad 6), .int a_size, .ref (ad 7), .ref (ad 8)])), ((ad 8), aI cy 32 a_kindOf)] sz)) ((fun A => va_Qv (fun (u : (Nat → Int32)) => Q u) (zE D vwCl A (fun (u : (Nat → Int32)) => [((ad 0), .inr (0, [.ref (ad 1), .int a_letterCount, .ref (ad 2), .ref (ad 3), .ref (ad 4), .ref (ad 5), .ref (ad 6), .int a_size, .ref (ad 7), .ref (ad 8)])), ((ad 8), aI cy 32 u)])) A) (va_A [((ad 0), .inr (0, [.ref (ad 1), .int a_letterCount, .ref (ad 2), .ref (ad 3), .ref (ad 4), .ref (ad 5), .ref (ad 6), .int a_size, .ref (ad 7), .ref (ad 8)])), ((ad 8), aI cy 32 a_kindOf)] sz)) 0 0 (va_A [((ad 0), .inr (0, [.ref (ad 1), .int a_letterCount, .ref (ad 2), .ref (ad 3), .ref (ad 4), .ref (ad 5), .ref (ad 6), .int a_size, .ref (ad 7), .ref (ad 8)])), ((ad 8), aI cy 32 a_kindOf)] sz) := by
  refine z_ofX (fun A => va_Qv (fun (u : (Nat → Int32)) => Q u) (zE D vwCl A (fun (u : (Nat → Int32)) => [((ad 0), .inr (0, [.ref (ad 1), .int a_letterCount, .ref (ad 2), .ref (ad 3), .ref (ad 4), .ref (ad 5), .ref (ad 6), .int a_size, .ref (ad 7), .ref (ad 8)])), ((ad 8), aI cy 32 u)])) A) (by decide) (Nat.le_of_ble_eq_true rfl) (fun p e s m below meth c A ls hx hb hr hml hown hts hlocks hK hPW hA hP hD hS hl => ?_)
  have hl : lv_has ls 4 [(0, .ref (ad 0)), (1, .int x1), (2, .int x2)] := hl
  have hown : s.vm.findClass RX0 = some m.cls := hown
  generalize hArg : ([.ref (ad 0), .int x1, .int x2] : List Value).toArray = args at hts ⊢
  have hJ25 : ∀ (x1 : Int32) (x2 : Int32) (x3 : Int32) (a_kindOf : Nat → Int32) (rc2 : Int32 → (Nat → Int32) → Prop) (hrc2 : ∀ (x3 : Int32) (a_kindOf : Nat → Int32), rc2 x3 a_kindOf → ∀ (H : Heap) (locs : List Loc) (ls : Array Slot), va_P D vwCl [((ad 0), .inr (0, [.ref (ad 1), .int a_letterCount, .ref (ad 2), .ref (ad 3), .ref (ad 4), .ref (ad 5), .ref (ad 6), .int a_size, .ref (ad 7), .ref (ad 8)])), ((ad 8), aI cy 32 a_kindOf)] H → va_D A [((ad 0), .inr (0, [.ref (ad 1), .int a_letterCount, .ref (ad 2), .ref (ad 3), .ref (ad 4), .ref (ad 5), .ref (ad 6), .int a_size, .ref (ad 7), .ref (ad 8)])), ((ad 8), aI cy 32 a_kindOf)] → va_S A s.heap H locs → lv_has ls 4 [(0, .ref (ad 0)), (1, .int x1), (2, .int x2), (3, .int x3)] → W p l e { frames := 0, cells := 0, slots := 0, locals := 0 } s m args below meth c H locs 0 0 (MQ below ((fun A => va_Qv (fun (u : (Nat → Int32)) => Q u) (zE D vwCl A (fun (u : (Nat → Int32)) => [((ad 0), .inr (0, [.ref (ad 1), .int a_letterCount, .ref (ad 2), .ref (ad 3), .ref (ad 4), .ref (ad 5), .ref (ad 6), .int a_size, .ref (ad 7), .ref (ad 8)])), ((ad 8), aI cy 32 u)])) A) A) args s 0 0 A) (F0 m 2 ls [])), wp_X0_makeOneKind_25 x1 x2 x3 a_kindOf rc2 Q → ∀ (H : Heap) (locs : List Loc) (ls : Array Slot), va_P D vwCl [((ad 0), .inr (0, [.ref (ad 1), .int a_letterCount, .ref (ad 2), .ref (ad 3), .ref (ad 4), .ref (ad 5), .ref (ad 6), .int a_size, .ref (ad 7), .ref (ad 8)])), ((ad 8), aI cy 32 a_kindOf)] H → va_D A [((ad 0), .inr (0, [.ref (ad 1), .int a_letterCount, .ref (ad 2), .ref (ad 3), .ref (ad 4), .ref (ad 5), .ref (ad 6), .int a_size, .ref (ad 7), .ref (ad 8)])), ((ad 8), aI cy 32 a_kindOf)] → va_S A s.heap H locs → lv_has ls 4 [(0, .ref (ad 0)), (1, .int x1), (2, .int x2), (3, .int x3)] → W p l e { frames := 0, cells := 0, slots := 0, locals := 0 } s m args below meth c H locs 0 0 (MQ below ((fun A => va_Qv (fun (u : (Nat → Int32)) => Q u) (zE D vwCl A (fun (u : (Nat → Int32)) => [((ad 0), .inr (0, [.ref (ad 1), .int a_letterCount, .ref (ad 2), .ref (ad 3), .ref (ad 4), .ref (ad 5), .ref (ad 6), .int a_size, .ref (ad 7), .ref (ad 8)])), ((ad 8), aI cy 32 u)])) A) A) args s 0 0 A) (F0 m 25 ls []) := by
    intro x1 x2 x3 a_kindOf rc2 hrc2  h H locs ls hP hD hS hl
    unfold wp_X0_makeOneKind_25 at h
    obtain ⟨x3_6, e_x3_6⟩ : ∃ y : Int32, y = x3 + (1 : Int32) := ⟨_, rfl⟩
    refine lv_iinc (v := x3_6) (lv' := [(3, .int x3_6), (0, .ref (ad 0)), (1, .int x1), (2, .int x2)]) hx hb dX0_makeOneKind_25 hl (k := 3) rfl (by rw [e_x3_6]; rfl) (by decide) rfl (fun ls hl => ?_)
    have h := h x3_6 e_x3_6
    refine lv_goto (tgt := 2) hx hb dX0_makeOneKind_28 (by decide) ?_
    exact hrc2 x3_6 a_kindOf h _ _ _ hP hD hS (lv_sub hl [1, 2, 3, 0] rfl)
  have hJ2 : ∀ (x1 : Int32) (x2 : Int32) (x3 : Int32) (a_kindOf : Nat → Int32), wp_X0_makeOneKind_2 x1 x2  Q x3 a_kindOf → ∀ (H : Heap) (locs : List Loc) (ls : Array Slot), va_P D vwCl [((ad 0), .inr (0, [.ref (ad 1), .int a_letterCount, .ref (ad 2), .ref (ad 3), .ref (ad 4), .ref (ad 5), .ref (ad 6), .int a_size, .ref (ad 7), .ref (ad 8)])), ((ad 8), aI cy 32 a_kindOf)] H → va_D A [((ad 0), .inr (0, [.ref (ad 1), .int a_letterCount, .ref (ad 2), .ref (ad 3), .ref (ad 4), .ref (ad 5), .ref (ad 6), .int a_size, .ref (ad 7), .ref (ad 8)])), ((ad 8), aI cy 32 a_kindOf)] → va_S A s.heap H locs → lv_has ls 4 [(0, .ref (ad 0)), (1, .int x1), (2, .int x2), (3, .int x3)] → W p l e { frames := 0, cells := 0, slots := 0, locals := 0 } s m args below meth c H locs 0 0 (MQ below ((fun A => va_Qv (fun (u : (Nat → Int32)) => Q u) (zE D vwCl A (fun (u : (Nat → Int32)) => [((ad 0), .inr (0, [.ref (ad 1), .int a_letterCount, .ref (ad 2), .ref (ad 3), .ref (ad 4), .ref (ad 5), .ref (ad 6), .int a_size, .ref (ad 7), .ref (ad 8)])), ((ad 8), aI cy 32 u)])) A) A) args s 0 0 A) (F0 m 2 ls []) := by
    intro x1 x2 x3 a_kindOf   h
    obtain ⟨nn, h⟩ := h
    have key : ∀ (nn : Nat) (x3 : Int32) (a_kindOf : Nat → Int32), lpW2 (wb_X0_makeOneKind_2 x1 x2  Q) nn x3 a_kindOf → ∀ (H : Heap) (locs : List Loc) (ls : Array Slot), va_P D vwCl [((ad 0), .inr (0, [.ref (ad 1), .int a_letterCount, .ref (ad 2), .ref (ad 3), .ref (ad 4), .ref (ad 5), .ref (ad 6), .int a_size, .ref (ad 7), .ref (ad 8)])), ((ad 8), aI cy 32 a_kindOf)] H → va_D A [((ad 0), .inr (0, [.ref (ad 1), .int a_letterCount, .ref (ad 2), .ref (ad 3), .ref (ad 4), .ref (ad 5), .ref (ad 6), .int a_size, .ref (ad 7), .ref (ad 8)])), ((ad 8), aI cy 32 a_kindOf)] → va_S A s.heap H locs → lv_has ls 4 [(0, .ref (ad 0)), (1, .int x1), (2, .int x2), (3, .int x3)] → W p l e { frames := 0, cells := 0, slots := 0, locals := 0 } s m args below meth c H locs 0 0 (MQ below ((fun A => va_Qv (fun (u : (Nat → Int32)) => Q u) (zE D vwCl A (fun (u : (Nat → Int32)) => [((ad 0), .inr (0, [.ref (ad 1), .int a_letterCount, .ref (ad 2), .ref (ad 3), .ref (ad 4), .ref (ad 5), .ref (ad 6), .int a_size, .ref (ad 7), .ref (ad 8)])), ((ad 8), aI cy 32 u)])) A) A) args s 0 0 A) (F0 m 2 ls []) := by
      intro nn
      induction nn with
      | zero => intro x3 a_kindOf h; exact h.elim
      | succ nn hrc2 =>
        intro x3 a_kindOf h H locs ls hP hD hS hl
        have h : wb_X0_makeOneKind_2 x1 x2  Q (lpW2 (wb_X0_makeOneKind_2 x1 x2  Q) nn) x3 a_kindOf := h
        unfold wb_X0_makeOneKind_2 at h
        refine lv_iload_n hx hb dX0_makeOneKind_2 rfl (lv_at hl 3 rfl) ?_
        refine lv_bipush (v := (32 : Int32)) hx hb dX0_makeOneKind_3 (by decide) ?_
        refine lv_icmp_ge (tgt := 31) hx hb dX0_makeOneKind_5 (by decide) (fun c_7 => ?_) (fun c_7 => ?_)
        · have h := h.1 c_7
          exact z_vret a_kindOf hx hb hr hlocks h hP hD hS dX0_makeOneKind_31
        · have h := h.2 c_7
          refine lv_aload_n hx hb dX0_makeOneKind_8 rfl (lv_at hl 0 rfl) ?_
          refine va_get (D := D) (ci := 0) (v := .ref (ad 8)) (C := RX0) (T := TX0) (N := 10) hx hb hts iX0 hown hK hP 0 rfl rfl 9 (Nat.le_of_ble_eq_true rfl) (hts _ fl_X0_40) (fun _ h9 => h9) rfl dX0_makeOneKind_9 ?_
          refine lv_iload_n hx hb dX0_makeOneKind_12 rfl (lv_at hl 3 rfl) ?_
          obtain ⟨hi_8, h⟩ := h
          refine va_iald hx hb hK hP 1 0 rfl rfl hi_8 dX0_makeOneKind_13 ?_
          refine lv_iload_n hx hb dX0_makeOneKind_14 rfl (lv_at hl 2 rfl) ?_
          refine lv_icmp_ne (tgt := 25) hx hb dX0_makeOneKind_15 (by decide) (fun c_9 => ?_) (fun c_9 => ?_)
          · have h := h.1 c_9
            exact hJ25 x1 x2 x3 a_kindOf _ hrc2  h _ _ _ hP hD hS (lv_sub hl [0, 1, 2, 3] rfl)
          · have h := h.2 c_9
            refine lv_aload_n hx hb dX0_makeOneKind_18 rfl (lv_at hl 0 rfl) ?_
            refine va_get (D := D) (ci := 0) (v := .ref (ad 8)) (C := RX0) (T := TX0) (N := 10) hx hb hts iX0 hown hK hP 0 rfl rfl 9 (Nat.le_of_ble_eq_true rfl) (hts _ fl_X0_40) (fun _ h9 => h9) rfl dX0_makeOneKind_19 ?_
            refine lv_iload_n hx hb dX0_makeOneKind_22 rfl (lv_at hl 3 rfl) ?_
            refine lv_iload_n hx hb dX0_makeOneKind_23 rfl (lv_at hl 1 rfl) ?_
            obtain ⟨hi_10, h⟩ := h
            refine va_iast hx hb hK hP hD hS 1 0 rfl rfl hi_10 dX0_makeOneKind_24 (fun H locs hP hD hS => ?_)
            have hP : va_P D vwCl [((ad 0), .inr (0, [.ref (ad 1), .int a_letterCount, .ref (ad 2), .ref (ad 3), .ref (ad 4), .ref (ad 5), .ref (ad 6), .int a_size, .ref (ad 7), .ref (ad 8)])), ((ad 8), aI cy 32 (upd a_kindOf x3.toNatClampNeg x1))] H := hP
            have hD : va_D A [((ad 0), .inr (0, [.ref (ad 1), .int a_letterCount, .ref (ad 2), .ref (ad 3), .ref (ad 4), .ref (ad 5), .ref (ad 6), .int a_size, .ref (ad 7), .ref (ad 8)])), ((ad 8), aI cy 32 (upd a_kindOf x3.toNatClampNeg x1))] := hD
            exact hJ25 x1 x2 x3 (upd a_kindOf x3.toNatClampNeg x1) _ hrc2  h _ _ _ hP hD hS (lv_sub hl [0, 1, 2, 3] rfl)
    exact key nn x3 a_kindOf h
  unfold wp_X0_makeOneKind at h
  refine lv_iconst (v := (0 : Int32)) hx hb dX0_makeOneKind_0 (by decide) ?_
  refine lv_istore_n (lv' := [(3, .int (0 : Int32)), (0, .ref (ad 0)), (1, .int x1), (2, .int x2)]) hx hb dX0_makeOneKind_1 rfl hl (by decide) rfl (fun ls hl => ?_)
  exact hJ2 x1 x2 (0 : Int32) a_kindOf   h _ _ _ hP hD hS (lv_sub hl [1, 2, 3, 0] rfl)
set_option maxHeartbeats 4000000 in
set_option maxRecDepth 100000 in
theorem c_X0_survey (l : Launch) (D : va_G) (cy : Nat → ClassId) (ad : Nat → Nat) (sz : Nat) (a_letterCount : Int32) (a_size : Int32) (a_maps : Nat → Int32) (a_groups : Nat → Int32) (a_kindOf : Nat → Int32) {Q : (Nat → Int32) → (Nat → Int32) → Prop} (h : wp_X0_survey a_size a_maps a_groups a_kindOf Q) : Met l yX0_survey (wsU yX0_survey cX0_survey 4 none) { frames := 2, cells := 0, slots := 0, locals := 44 } (va_Pc [.ref (ad 0)] (zB D vwCl (tyU cy) [((ad 0), .inr (0, [.ref (ad 1), .int a_letterCount, .ref (ad 2), .ref (ad 3), .ref (ad 4), .ref (ad 5), .ref (ad 6), .int a_size, .ref (ad 7), .ref (ad 8)])), ((ad 3), aI cy 1546 a_maps), ((ad 7), aI cy 32 a_groups), ((ad 8), aI cy 32 a_kindOf)] sz)) ((fun A => va_Qv (fun (u : (Nat → Int32) × (Nat → Int32)) => ∃ (z0 : Nat → Int32) (z1 : Nat → Int32), u = (z0, z1) ∧ Q z0 z1) (zE D vwCl A (fun (u : (Nat → Int32) × (Nat → Int32)) => [((ad 0), .inr (0, [.ref (ad 1), .int a_letterCount, .ref (ad 2), .ref (ad 3), .ref (ad 4), .ref (ad 5), .ref (ad 6), .int a_size, .ref (ad 7), .ref (ad 8)])), ((ad 3), aI cy 1546 a_maps), ((ad 7), aI cy 32 (u.1)), ((ad 8), aI cy 32 (u.2))])) A) (va_A [((ad 0), .inr (0, [.ref (ad 1), .int a_letterCount, .ref (ad 2), .ref (ad 3), .ref (ad 4), .ref (ad 5), .ref (ad 6), .int a_size, .ref (ad 7), .ref (ad 8)])), ((ad 3), aI cy 1546 a_maps), ((ad 7), aI cy 32 a_groups), ((ad 8), aI cy 32 a_kindOf)] sz)) 0 0 (va_A [((ad 0), .inr (0, [.ref (ad 1), .int a_letterCount, .ref (ad 2), .ref (ad 3), .ref (ad 4), .ref (ad 5), .ref (ad 6), .int a_size, .ref (ad 7), .ref (ad 8)])), ((ad 3), aI cy 1546 a_maps), ((ad 7), aI cy 32 a_groups), ((ad 8), aI cy 32 a_kindOf)] sz) := by
  refine z_ofX (fun A => va_Qv (fun (u : (Nat → Int32) × (Nat → Int32)) => ∃ (z0 : Nat → Int32) (z1 : Nat → Int32), u = (z0, z1) ∧ Q z0 z1) (zE D vwCl A (fun (u : (Nat → Int32) × (Nat → Int32)) => [((ad 0), .inr (0, [.ref (ad 1), .int a_letterCount, .ref (ad 2), .ref (ad 3), .ref (ad 4), .ref (ad 5), .ref (ad 6), .int a_size, .ref (ad 7), .ref (ad 8)])), ((ad 3), aI cy 1546 a_maps), ((ad 7), aI cy 32 (u.1)), ((ad 8), aI cy 32 (u.2))])) A) (by decide) (Nat.le_of_ble_eq_true rfl) (fun p e s m below meth c A ls hx hb hr hml hown hts hlocks hK hPW hA hP hD hS hl => ?_)
  have hl : lv_has ls 4 [(0, .ref (ad 0))] := hl
  have hown : s.vm.findClass RX0 = some m.cls := hown
  generalize hArg : ([.ref (ad 0)] : List Value).toArray = args at hts ⊢
  have hJ92 : ∀ (x1 : Int32) (a_groups : Nat → Int32) (a_kindOf : Nat → Int32) (rc30 : Int32 → (Nat → Int32) → (Nat → Int32) → Prop) (hrc30 : ∀ (x1 : Int32) (a_groups : Nat → Int32) (a_kindOf : Nat → Int32), rc30 x1 a_groups a_kindOf → ∀ (H : Heap) (locs : List Loc) (ls : Array Slot), va_P D vwCl [((ad 0), .inr (0, [.ref (ad 1), .int a_letterCount, .ref (ad 2), .ref (ad 3), .ref (ad 4), .ref (ad 5), .ref (ad 6), .int a_size, .ref (ad 7), .ref (ad 8)])), ((ad 3), aI cy 1546 a_maps), ((ad 7), aI cy 32 a_groups), ((ad 8), aI cy 32 a_kindOf)] H → va_D A [((ad 0), .inr (0, [.ref (ad 1), .int a_letterCount, .ref (ad 2), .ref (ad 3), .ref (ad 4), .ref (ad 5), .ref (ad 6), .int a_size, .ref (ad 7), .ref (ad 8)])), ((ad 3), aI cy 1546 a_maps), ((ad 7), aI cy 32 a_groups), ((ad 8), aI cy 32 a_kindOf)] → va_S A s.heap H locs → lv_has ls 4 [(0, .ref (ad 0)), (1, .int x1)] → W p l e { frames := 2, cells := 0, slots := 0, locals := 44 } s m args below meth c H locs 0 0 (MQ below ((fun A => va_Qv (fun (u : (Nat → Int32) × (Nat → Int32)) => ∃ (z0 : Nat → Int32) (z1 : Nat → Int32), u = (z0, z1) ∧ Q z0 z1) (zE D vwCl A (fun (u : (Nat → Int32) × (Nat → Int32)) => [((ad 0), .inr (0, [.ref (ad 1), .int a_letterCount, .ref (ad 2), .ref (ad 3), .ref (ad 4), .ref (ad 5), .ref (ad 6), .int a_size, .ref (ad 7), .ref (ad 8)])), ((ad 3), aI cy 1546 a_maps), ((ad 7), aI cy 32 (u.1)), ((ad 8), aI cy 32 (u.2))])) A) A) args s 0 0 A) (F0 m 30 ls [])), wp_X0_survey_92 a_size a_maps x1 a_groups a_kindOf rc30 Q → ∀ (H : Heap) (locs : List Loc) (ls : Array Slot), va_P D vwCl [((ad 0), .inr (0, [.ref (ad 1), .int a_letterCount, .ref (ad 2), .ref (ad 3), .ref (ad 4), .ref (ad 5), .ref (ad 6), .int a_size, .ref (ad 7), .ref (ad 8)])), ((ad 3), aI cy 1546 a_maps), ((ad 7), aI cy 32 a_groups), ((ad 8), aI cy 32 a_kindOf)] H → va_D A [((ad 0), .inr (0, [.ref (ad 1), .int a_letterCount, .ref (ad 2), .ref (ad 3), .ref (ad 4), .ref (ad 5), .ref (ad 6), .int a_size, .ref (ad 7), .ref (ad 8)])), ((ad 3), aI cy 1546 a_maps), ((ad 7), aI cy 32 a_groups), ((ad 8), aI cy 32 a_kindOf)] → va_S A s.heap H locs → lv_has ls 4 [(0, .ref (ad 0)), (1, .int x1)] → W p l e { frames := 2, cells := 0, slots := 0, locals := 44 } s m args below meth c H locs 0 0 (MQ below ((fun A => va_Qv (fun (u : (Nat → Int32) × (Nat → Int32)) => ∃ (z0 : Nat → Int32) (z1 : Nat → Int32), u = (z0, z1) ∧ Q z0 z1) (zE D vwCl A (fun (u : (Nat → Int32) × (Nat → Int32)) => [((ad 0), .inr (0, [.ref (ad 1), .int a_letterCount, .ref (ad 2), .ref (ad 3), .ref (ad 4), .ref (ad 5), .ref (ad 6), .int a_size, .ref (ad 7), .ref (ad 8)])), ((ad 3), aI cy 1546 a_maps), ((ad 7), aI cy 32 (u.1)), ((ad 8), aI cy 32 (u.2))])) A) A) args s 0 0 A) (F0 m 92 ls []) := by
    intro x1 a_groups a_kindOf rc30 hrc30  h H locs ls hP hD hS hl
    unfold wp_X0_survey_92 at h
    obtain ⟨x1_17, e_x1_17⟩ : ∃ y : Int32, y = x1 + (1 : Int32) := ⟨_, rfl⟩
    refine lv_iinc (v := x1_17) (lv' := [(1, .int x1_17), (0, .ref (ad 0))]) hx hb dX0_survey_92 hl (k := 1) rfl (by rw [e_x1_17]; rfl) (by decide) rfl (fun ls hl => ?_)
    have h := h x1_17 e_x1_17
    refine lv_goto (tgt := 30) hx hb dX0_survey_95 (by decide) ?_
    exact hrc30 x1_17 a_groups a_kindOf h _ _ _ hP hD hS (lv_sub hl [1, 0] rfl)
  have hJ30 : ∀ (x1 : Int32) (a_groups : Nat → Int32) (a_kindOf : Nat → Int32), wp_X0_survey_30 a_size a_maps  Q x1 a_groups a_kindOf → ∀ (H : Heap) (locs : List Loc) (ls : Array Slot), va_P D vwCl [((ad 0), .inr (0, [.ref (ad 1), .int a_letterCount, .ref (ad 2), .ref (ad 3), .ref (ad 4), .ref (ad 5), .ref (ad 6), .int a_size, .ref (ad 7), .ref (ad 8)])), ((ad 3), aI cy 1546 a_maps), ((ad 7), aI cy 32 a_groups), ((ad 8), aI cy 32 a_kindOf)] H → va_D A [((ad 0), .inr (0, [.ref (ad 1), .int a_letterCount, .ref (ad 2), .ref (ad 3), .ref (ad 4), .ref (ad 5), .ref (ad 6), .int a_size, .ref (ad 7), .ref (ad 8)])), ((ad 3), aI cy 1546 a_maps), ((ad 7), aI cy 32 a_groups), ((ad 8), aI cy 32 a_kindOf)] → va_S A s.heap H locs → lv_has ls 4 [(0, .ref (ad 0)), (1, .int x1)] → W p l e { frames := 2, cells := 0, slots := 0, locals := 44 } s m args below meth c H locs 0 0 (MQ below ((fun A => va_Qv (fun (u : (Nat → Int32) × (Nat → Int32)) => ∃ (z0 : Nat → Int32) (z1 : Nat → Int32), u = (z0, z1) ∧ Q z0 z1) (zE D vwCl A (fun (u : (Nat → Int32) × (Nat → Int32)) => [((ad 0), .inr (0, [.ref (ad 1), .int a_letterCount, .ref (ad 2), .ref (ad 3), .ref (ad 4), .ref (ad 5), .ref (ad 6), .int a_size, .ref (ad 7), .ref (ad 8)])), ((ad 3), aI cy 1546 a_maps), ((ad 7), aI cy 32 (u.1)), ((ad 8), aI cy 32 (u.2))])) A) A) args s 0 0 A) (F0 m 30 ls []) := by
    intro x1 a_groups a_kindOf   h
    obtain ⟨nn, h⟩ := h
    have key : ∀ (nn : Nat) (x1 : Int32) (a_groups : Nat → Int32) (a_kindOf : Nat → Int32), lpW3 (wb_X0_survey_30 a_size a_maps  Q) nn x1 a_groups a_kindOf → ∀ (H : Heap) (locs : List Loc) (ls : Array Slot), va_P D vwCl [((ad 0), .inr (0, [.ref (ad 1), .int a_letterCount, .ref (ad 2), .ref (ad 3), .ref (ad 4), .ref (ad 5), .ref (ad 6), .int a_size, .ref (ad 7), .ref (ad 8)])), ((ad 3), aI cy 1546 a_maps), ((ad 7), aI cy 32 a_groups), ((ad 8), aI cy 32 a_kindOf)] H → va_D A [((ad 0), .inr (0, [.ref (ad 1), .int a_letterCount, .ref (ad 2), .ref (ad 3), .ref (ad 4), .ref (ad 5), .ref (ad 6), .int a_size, .ref (ad 7), .ref (ad 8)])), ((ad 3), aI cy 1546 a_maps), ((ad 7), aI cy 32 a_groups), ((ad 8), aI cy 32 a_kindOf)] → va_S A s.heap H locs → lv_has ls 4 [(0, .ref (ad 0)), (1, .int x1)] → W p l e { frames := 2, cells := 0, slots := 0, locals := 44 } s m args below meth c H locs 0 0 (MQ below ((fun A => va_Qv (fun (u : (Nat → Int32) × (Nat → Int32)) => ∃ (z0 : Nat → Int32) (z1 : Nat → Int32), u = (z0, z1) ∧ Q z0 z1) (zE D vwCl A (fun (u : (Nat → Int32) × (Nat → Int32)) => [((ad 0), .inr (0, [.ref (ad 1), .int a_letterCount, .ref (ad 2), .ref (ad 3), .ref (ad 4), .ref (ad 5), .ref (ad 6), .int a_size, .ref (ad 7), .ref (ad 8)])), ((ad 3), aI cy 1546 a_maps), ((ad 7), aI cy 32 (u.1)), ((ad 8), aI cy 32 (u.2))])) A) A) args s 0 0 A) (F0 m 30 ls []) := by
      intro nn
      induction nn with
      | zero => intro x1 a_groups a_kindOf h; exact h.elim
      | succ nn hrc30 =>
        intro x1 a_groups a_kindOf h H locs ls hP hD hS hl
        have h : wb_X0_survey_30 a_size a_maps  Q (lpW3 (wb_X0_survey_30 a_size a_maps  Q) nn) x1 a_groups a_kindOf := h
        unfold wb_X0_survey_30 at h
        refine lv_iload_n hx hb dX0_survey_30 rfl (lv_at hl 1 rfl) ?_
        refine lv_aload_n hx hb dX0_survey_31 rfl (lv_at hl 0 rfl) ?_
        refine va_get (D := D) (ci := 0) (v := .int a_size) (C := RX0) (T := TX0) (N := 10) hx hb hts iX0 hown hK hP 0 rfl rfl 7 (Nat.le_of_ble_eq_true rfl) (hts _ fl_X0_34) (fun _ h9 => h9) rfl dX0_survey_32 ?_
        refine lv_icmp_ge (tgt := 98) hx hb dX0_survey_35 (by decide) (fun c_18 => ?_) (fun c_18 => ?_)
        · have h := h.1 c_18
          exact z_vret (a_groups, a_kindOf) hx hb hr hlocks ⟨a_groups, a_kindOf, rfl, h⟩ hP hD hS dX0_survey_98
        · have h := h.2 c_18
          refine lv_aload_n hx hb dX0_survey_38 rfl (lv_at hl 0 rfl) ?_
          refine va_get (D := D) (ci := 0) (v := .ref (ad 3)) (C := RX0) (T := TX0) (N := 10) hx hb hts iX0 hown hK hP 0 rfl rfl 3 (Nat.le_of_ble_eq_true rfl) (hts _ fl_X0_22) (fun _ h9 => h9) rfl dX0_survey_39 ?_
          refine lv_iload_n hx hb dX0_survey_42 rfl (lv_at hl 1 rfl) ?_
          obtain ⟨hi_19, h⟩ := h
          refine va_iald hx hb hK hP 1 0 rfl rfl hi_19 dX0_survey_43 ?_
          refine zc_S0 (As := [.int (a_maps x1.toNatClampNeg)]) (rest := []) hx hb hml hown hts hK hPW hA hl.1 hP hS ⟨Nat.zero_le _, Nat.zero_le _⟩ (c_X1_domPoints l D cy (sz := _) (x0 := (a_maps x1.toNatClampNeg)) (h := h)) k_X0_66 ⟨rfl, rfl, (Nat.le_of_ble_eq_true rfl), (Nat.le_of_ble_eq_true rfl)⟩ rfl rfl (Nat.le_of_ble_eq_true rfl) dX0_survey_44 (fun r_20 H locs h hP hS => ?_)
          refine lv_istore_n (lv' := [(2, .int r_20), (0, .ref (ad 0)), (1, .int x1)]) hx hb dX0_survey_47 rfl hl (by decide) rfl (fun ls hl => ?_)
          refine lv_aload_n hx hb dX0_survey_48 rfl (lv_at hl 1 rfl) ?_
          refine va_get (D := D) (ci := 0) (v := .ref (ad 3)) (C := RX0) (T := TX0) (N := 10) hx hb hts iX0 hown hK hP 0 rfl rfl 3 (Nat.le_of_ble_eq_true rfl) (hts _ fl_X0_22) (fun _ h9 => h9) rfl dX0_survey_49 ?_
          refine lv_iload_n hx hb dX0_survey_52 rfl (lv_at hl 2 rfl) ?_
          obtain ⟨hi_21, h⟩ := h
          refine va_iald hx hb hK hP 1 0 rfl rfl hi_21 dX0_survey_53 ?_
          refine zc_S0 (As := [.int (a_maps x1.toNatClampNeg)]) (rest := []) hx hb hml hown hts hK hPW hA hl.1 hP hS ⟨Nat.zero_le _, Nat.zero_le _⟩ (c_X1_ranPoints l D cy (sz := _) (x0 := (a_maps x1.toNatClampNeg)) (h := h)) k_X0_70 ⟨rfl, rfl, (Nat.le_of_ble_eq_true rfl), (Nat.le_of_ble_eq_true rfl)⟩ rfl rfl (Nat.le_of_ble_eq_true rfl) dX0_survey_54 (fun r_22 H locs h hP hS => ?_)
          refine lv_istore_n (lv' := [(3, .int r_22), (2, .int r_20), (0, .ref (ad 0)), (1, .int x1)]) hx hb dX0_survey_57 rfl hl (by decide) rfl (fun ls hl => ?_)
          refine lv_iload_n hx hb dX0_survey_58 rfl (lv_at hl 1 rfl) ?_
          refine lv_iload_n hx hb dX0_survey_59 rfl (lv_at hl 0 rfl) ?_
          refine lv_icmp_ne (tgt := 76) hx hb dX0_survey_60 (by decide) (fun c_23 => ?_) (fun c_23 => ?_)
          · have h := h.1 c_23
            refine lv_aload_n hx hb dX0_survey_76 rfl (lv_at hl 2 rfl) ?_
            refine lv_aload_n hx hb dX0_survey_77 rfl (lv_at hl 2 rfl) ?_
            refine va_get (D := D) (ci := 0) (v := .ref (ad 8)) (C := RX0) (T := TX0) (N := 10) hx hb hts iX0 hown hK hP 0 rfl rfl 9 (Nat.le_of_ble_eq_true rfl) (hts _ fl_X0_40) (fun _ h9 => h9) rfl dX0_survey_78 ?_
            refine lv_iload_n hx hb dX0_survey_81 rfl (lv_at hl 1 rfl) ?_
            obtain ⟨hi_24, h⟩ := h
            refine va_iald hx hb hK hP 3 0 rfl rfl hi_24 dX0_survey_82 ?_
            refine lv_aload_n hx hb dX0_survey_83 rfl (lv_at hl 2 rfl) ?_
            refine va_get (D := D) (ci := 0) (v := .ref (ad 8)) (C := RX0) (T := TX0) (N := 10) hx hb hts iX0 hown hK hP 0 rfl rfl 9 (Nat.le_of_ble_eq_true rfl) (hts _ fl_X0_40) (fun _ h9 => h9) rfl dX0_survey_84 ?_
            refine lv_iload_n hx hb dX0_survey_87 rfl (lv_at hl 0 rfl) ?_
            obtain ⟨hi_25, h⟩ := h
            refine va_iald hx hb hK hP 3 0 rfl rfl hi_25 dX0_survey_88 ?_
            refine zc_Vv (As := [.int (a_kindOf r_20.toNatClampNeg), .int (a_kindOf r_22.toNatClampNeg)]) (rest := []) (wc := [((ad 0), .inr (0, [.ref (ad 1), .int a_letterCount, .ref (ad 2), .ref (ad 3), .ref (ad 4), .ref (ad 5), .ref (ad 6), .int a_size, .ref (ad 7), .ref (ad 8)])), ((ad 8), aI cy 32 a_kindOf)]) (wr := [((ad 3), aI cy 1546 a_maps), ((ad 7), aI cy 32 a_groups)]) hx hb hml hown hts hK hPW hA hl.1 hP hD hS ⟨Nat.zero_le _, Nat.zero_le _⟩ [0, 3] [1, 2] rfl rfl (by decide) (c_X0_makeOneKind l D cy (sz := _) (x1 := (a_kindOf r_20.toNatClampNeg)) (x2 := (a_kindOf r_22.toNatClampNeg)) (ad := ad) (a_letterCount := a_letterCount) (a_size := a_size) (a_kindOf := a_kindOf) (h := h)) k_X0_73 ⟨rfl, rfl, (Nat.le_of_ble_eq_true rfl), (Nat.le_of_ble_eq_true rfl)⟩ rfl rfl rfl rfl (Nat.le_of_ble_eq_true rfl) dX0_survey_89 (fun a_kindOf_26 H locs h hP hD hS => ?_)
            have hP : va_P D vwCl [((ad 3), aI cy 1546 a_maps), ((ad 7), aI cy 32 a_groups), ((ad 0), .inr (0, [.ref (ad 1), .int a_letterCount, .ref (ad 2), .ref (ad 3), .ref (ad 4), .ref (ad 5), .ref (ad 6), .int a_size, .ref (ad 7), .ref (ad 8)])), ((ad 8), aI cy 32 a_kindOf_26)] H := hP
            have hD : va_D A [((ad 3), aI cy 1546 a_maps), ((ad 7), aI cy 32 a_groups), ((ad 0), .inr (0, [.ref (ad 1), .int a_letterCount, .ref (ad 2), .ref (ad 3), .ref (ad 4), .ref (ad 5), .ref (ad 6), .int a_size, .ref (ad 7), .ref (ad 8)])), ((ad 8), aI cy 32 a_kindOf_26)] := hD
            exact hJ92 x1 a_groups a_kindOf_26 _ hrc30  h _ _ _ (hP.sub [2, 0, 1, 3] rfl) (hD.sub [2, 0, 1, 3] (by decide) rfl) hS (lv_sub hl [2, 3] rfl)
          · have h := h.2 c_23
            refine lv_aload_n hx hb dX0_survey_63 rfl (lv_at hl 2 rfl) ?_
            refine va_get (D := D) (ci := 0) (v := .ref (ad 7)) (C := RX0) (T := TX0) (N := 10) hx hb hts iX0 hown hK hP 0 rfl rfl 8 (Nat.le_of_ble_eq_true rfl) (hts _ fl_X0_37) (fun _ h9 => h9) rfl dX0_survey_64 ?_
            refine lv_iload_n hx hb dX0_survey_67 rfl (lv_at hl 1 rfl) ?_
            refine lv_dup2_11 hx hb dX0_survey_68 rfl rfl ?_
            obtain ⟨hi_27, h⟩ := h
            refine va_iald hx hb hK hP 2 0 rfl rfl hi_27 dX0_survey_69 ?_
            refine lv_iconst (v := (1 : Int32)) hx hb dX0_survey_70 (by decide) ?_
            refine lv_iadd hx hb dX0_survey_71 ?_
            obtain ⟨hi_28, h⟩ := h
            refine va_iast hx hb hK hP hD hS 2 0 rfl rfl hi_28 dX0_survey_72 (fun H locs hP hD hS => ?_)
            have hP : va_P D vwCl [((ad 0), .inr (0, [.ref (ad 1), .int a_letterCount, .ref (ad 2), .ref (ad 3), .ref (ad 4), .ref (ad 5), .ref (ad 6), .int a_size, .ref (ad 7), .ref (ad 8)])), ((ad 3), aI cy 1546 a_maps), ((ad 7), aI cy 32 (upd a_groups r_20.toNatClampNeg ((a_groups r_20.toNatClampNeg) + (1 : Int32)))), ((ad 8), aI cy 32 a_kindOf)] H := hP
            have hD : va_D A [((ad 0), .inr (0, [.ref (ad 1), .int a_letterCount, .ref (ad 2), .ref (ad 3), .ref (ad 4), .ref (ad 5), .ref (ad 6), .int a_size, .ref (ad 7), .ref (ad 8)])), ((ad 3), aI cy 1546 a_maps), ((ad 7), aI cy 32 (upd a_groups r_20.toNatClampNeg ((a_groups r_20.toNatClampNeg) + (1 : Int32)))), ((ad 8), aI cy 32 a_kindOf)] := hD
            refine lv_goto (tgt := 92) hx hb dX0_survey_73 (by decide) ?_
            exact hJ92 x1 (upd a_groups r_20.toNatClampNeg ((a_groups r_20.toNatClampNeg) + (1 : Int32))) a_kindOf _ hrc30  h _ _ _ hP hD hS (lv_sub hl [2, 3] rfl)
    exact key nn x1 a_groups a_kindOf h
  have hJ2 : ∀ (x1 : Int32) (a_groups : Nat → Int32) (a_kindOf : Nat → Int32), wp_X0_survey_2 a_size a_maps  Q x1 a_groups a_kindOf → ∀ (H : Heap) (locs : List Loc) (ls : Array Slot), va_P D vwCl [((ad 0), .inr (0, [.ref (ad 1), .int a_letterCount, .ref (ad 2), .ref (ad 3), .ref (ad 4), .ref (ad 5), .ref (ad 6), .int a_size, .ref (ad 7), .ref (ad 8)])), ((ad 3), aI cy 1546 a_maps), ((ad 7), aI cy 32 a_groups), ((ad 8), aI cy 32 a_kindOf)] H → va_D A [((ad 0), .inr (0, [.ref (ad 1), .int a_letterCount, .ref (ad 2), .ref (ad 3), .ref (ad 4), .ref (ad 5), .ref (ad 6), .int a_size, .ref (ad 7), .ref (ad 8)])), ((ad 3), aI cy 1546 a_maps), ((ad 7), aI cy 32 a_groups), ((ad 8), aI cy 32 a_kindOf)] → va_S A s.heap H locs → lv_has ls 4 [(0, .ref (ad 0)), (1, .int x1)] → W p l e { frames := 2, cells := 0, slots := 0, locals := 44 } s m args below meth c H locs 0 0 (MQ below ((fun A => va_Qv (fun (u : (Nat → Int32) × (Nat → Int32)) => ∃ (z0 : Nat → Int32) (z1 : Nat → Int32), u = (z0, z1) ∧ Q z0 z1) (zE D vwCl A (fun (u : (Nat → Int32) × (Nat → Int32)) => [((ad 0), .inr (0, [.ref (ad 1), .int a_letterCount, .ref (ad 2), .ref (ad 3), .ref (ad 4), .ref (ad 5), .ref (ad 6), .int a_size, .ref (ad 7), .ref (ad 8)])), ((ad 3), aI cy 1546 a_maps), ((ad 7), aI cy 32 (u.1)), ((ad 8), aI cy 32 (u.2))])) A) A) args s 0 0 A) (F0 m 2 ls []) := by
    intro x1 a_groups a_kindOf   h
    obtain ⟨nn, h⟩ := h
    have key : ∀ (nn : Nat) (x1 : Int32) (a_groups : Nat → Int32) (a_kindOf : Nat → Int32), lpW3 (wb_X0_survey_2 a_size a_maps  Q) nn x1 a_groups a_kindOf → ∀ (H : Heap) (locs : List Loc) (ls : Array Slot), va_P D vwCl [((ad 0), .inr (0, [.ref (ad 1), .int a_letterCount, .ref (ad 2), .ref (ad 3), .ref (ad 4), .ref (ad 5), .ref (ad 6), .int a_size, .ref (ad 7), .ref (ad 8)])), ((ad 3), aI cy 1546 a_maps), ((ad 7), aI cy 32 a_groups), ((ad 8), aI cy 32 a_kindOf)] H → va_D A [((ad 0), .inr (0, [.ref (ad 1), .int a_letterCount, .ref (ad 2), .ref (ad 3), .ref (ad 4), .ref (ad 5), .ref (ad 6), .int a_size, .ref (ad 7), .ref (ad 8)])), ((ad 3), aI cy 1546 a_maps), ((ad 7), aI cy 32 a_groups), ((ad 8), aI cy 32 a_kindOf)] → va_S A s.heap H locs → lv_has ls 4 [(0, .ref (ad 0)), (1, .int x1)] → W p l e { frames := 2, cells := 0, slots := 0, locals := 44 } s m args below meth c H locs 0 0 (MQ below ((fun A => va_Qv (fun (u : (Nat → Int32) × (Nat → Int32)) => ∃ (z0 : Nat → Int32) (z1 : Nat → Int32), u = (z0, z1) ∧ Q z0 z1) (zE D vwCl A (fun (u : (Nat → Int32) × (Nat → Int32)) => [((ad 0), .inr (0, [.ref (ad 1), .int a_letterCount, .ref (ad 2), .ref (ad 3), .ref (ad 4), .ref (ad 5), .ref (ad 6), .int a_size, .ref (ad 7), .ref (ad 8)])), ((ad 3), aI cy 1546 a_maps), ((ad 7), aI cy 32 (u.1)), ((ad 8), aI cy 32 (u.2))])) A) A) args s 0 0 A) (F0 m 2 ls []) := by
      intro nn
      induction nn with
      | zero => intro x1 a_groups a_kindOf h; exact h.elim
      | succ nn hrc2 =>
        intro x1 a_groups a_kindOf h H locs ls hP hD hS hl
        have h : wb_X0_survey_2 a_size a_maps  Q (lpW3 (wb_X0_survey_2 a_size a_maps  Q) nn) x1 a_groups a_kindOf := h
        unfold wb_X0_survey_2 at h
        refine lv_iload_n hx hb dX0_survey_2 rfl (lv_at hl 1 rfl) ?_
        refine lv_bipush (v := (32 : Int32)) hx hb dX0_survey_3 (by decide) ?_
        refine lv_icmp_ge (tgt := 28) hx hb dX0_survey_5 (by decide) (fun c_29 => ?_) (fun c_29 => ?_)
        · have h := h.1 c_29
          refine lv_iconst (v := (0 : Int32)) hx hb dX0_survey_28 (by decide) ?_
          refine lv_istore_n (lv' := [(1, .int (0 : Int32)), (0, .ref (ad 0))]) hx hb dX0_survey_29 rfl hl (by decide) rfl (fun ls hl => ?_)
          exact hJ30 (0 : Int32) a_groups a_kindOf   h _ _ _ hP hD hS (lv_sub hl [1, 0] rfl)
        · have h := h.2 c_29
          refine lv_aload_n hx hb dX0_survey_8 rfl (lv_at hl 0 rfl) ?_
          refine va_get (D := D) (ci := 0) (v := .ref (ad 7)) (C := RX0) (T := TX0) (N := 10) hx hb hts iX0 hown hK hP 0 rfl rfl 8 (Nat.le_of_ble_eq_true rfl) (hts _ fl_X0_37) (fun _ h9 => h9) rfl dX0_survey_9 ?_
          refine lv_iload_n hx hb dX0_survey_12 rfl (lv_at hl 1 rfl) ?_
          refine lv_iconst (v := (0 : Int32)) hx hb dX0_survey_13 (by decide) ?_
          obtain ⟨hi_30, h⟩ := h
          refine va_iast hx hb hK hP hD hS 2 0 rfl rfl hi_30 dX0_survey_14 (fun H locs hP hD hS => ?_)
          have hP : va_P D vwCl [((ad 0), .inr (0, [.ref (ad 1), .int a_letterCount, .ref (ad 2), .ref (ad 3), .ref (ad 4), .ref (ad 5), .ref (ad 6), .int a_size, .ref (ad 7), .ref (ad 8)])), ((ad 3), aI cy 1546 a_maps), ((ad 7), aI cy 32 (upd a_groups x1.toNatClampNeg (0 : Int32))), ((ad 8), aI cy 32 a_kindOf)] H := hP
          have hD : va_D A [((ad 0), .inr (0, [.ref (ad 1), .int a_letterCount, .ref (ad 2), .ref (ad 3), .ref (ad 4), .ref (ad 5), .ref (ad 6), .int a_size, .ref (ad 7), .ref (ad 8)])), ((ad 3), aI cy 1546 a_maps), ((ad 7), aI cy 32 (upd a_groups x1.toNatClampNeg (0 : Int32))), ((ad 8), aI cy 32 a_kindOf)] := hD
          refine lv_aload_n hx hb dX0_survey_15 rfl (lv_at hl 0 rfl) ?_
          refine va_get (D := D) (ci := 0) (v := .ref (ad 8)) (C := RX0) (T := TX0) (N := 10) hx hb hts iX0 hown hK hP 0 rfl rfl 9 (Nat.le_of_ble_eq_true rfl) (hts _ fl_X0_40) (fun _ h9 => h9) rfl dX0_survey_16 ?_
          refine lv_iload_n hx hb dX0_survey_19 rfl (lv_at hl 1 rfl) ?_
          refine lv_iload_n hx hb dX0_survey_20 rfl (lv_at hl 1 rfl) ?_
          obtain ⟨hi_31, h⟩ := h
          refine va_iast hx hb hK hP hD hS 3 0 rfl rfl hi_31 dX0_survey_21 (fun H locs hP hD hS => ?_)
          have hP : va_P D vwCl [((ad 0), .inr (0, [.ref (ad 1), .int a_letterCount, .ref (ad 2), .ref (ad 3), .ref (ad 4), .ref (ad 5), .ref (ad 6), .int a_size, .ref (ad 7), .ref (ad 8)])), ((ad 3), aI cy 1546 a_maps), ((ad 7), aI cy 32 (upd a_groups x1.toNatClampNeg (0 : Int32))), ((ad 8), aI cy 32 (upd a_kindOf x1.toNatClampNeg x1))] H := hP
          have hD : va_D A [((ad 0), .inr (0, [.ref (ad 1), .int a_letterCount, .ref (ad 2), .ref (ad 3), .ref (ad 4), .ref (ad 5), .ref (ad 6), .int a_size, .ref (ad 7), .ref (ad 8)])), ((ad 3), aI cy 1546 a_maps), ((ad 7), aI cy 32 (upd a_groups x1.toNatClampNeg (0 : Int32))), ((ad 8), aI cy 32 (upd a_kindOf x1.toNatClampNeg x1))] := hD
          obtain ⟨x1_32, e_x1_32⟩ : ∃ y : Int32, y = x1 + (1 : Int32) := ⟨_, rfl⟩
          refine lv_iinc (v := x1_32) (lv' := [(1, .int x1_32), (0, .ref (ad 0))]) hx hb dX0_survey_22 hl (k := 1) rfl (by rw [e_x1_32]; rfl) (by decide) rfl (fun ls hl => ?_)
          have h := h x1_32 e_x1_32
          refine lv_goto (tgt := 2) hx hb dX0_survey_25 (by decide) ?_
          exact hrc2 x1_32 (upd a_groups x1.toNatClampNeg (0 : Int32)) (upd a_kindOf x1.toNatClampNeg x1) h _ _ _ hP hD hS (lv_sub hl [1, 0] rfl)
    exact key nn x1 a_groups a_kindOf h
  unfold wp_X0_survey at h
  refine lv_iconst (v := (0 : Int32)) hx hb dX0_survey_0 (by decide) ?_
  refine lv_istore_n (lv' := [(1, .int (0 : Int32)), (0, .ref (ad 0))]) hx hb dX0_survey_1 rfl hl (by decide) rfl (fun ls hl => ?_)
  exact hJ2 (0 : Int32) a_groups a_kindOf   h _ _ _ hP hD hS (lv_sub hl [1, 0] rfl)
set_option maxHeartbeats 4000000 in
set_option maxRecDepth 100000 in
theorem c_X0_prepare (l : Launch) (D : va_G) (cy : Nat → ClassId) (ad : Nat → Nat) (a2 : Nat) (sz : Nat) (a_letterCount : Int32) (a_size : Int32) (a_letterMaps : Nat → Int32) (a_places : Nat → Int32) (a_maps : Nat → Int32) (a_from : Nat → Int32) (a_lastLetters : Nat → Int32) (a_lengths : Nat → Int32) (a_groups : Nat → Int32) (a_kindOf : Nat → Int32) (p2_arr : Nat → Int32) (x1 : Int32) {Q : Int32 → Int32 → (Nat → Int32) → (Nat → Int32) → (Nat → Int32) → (Nat → Int32) → (Nat → Int32) → (Nat → Int32) → (Nat → Int32) → (Nat → Int32) → Prop} (h : wp_X0_prepare x1 a_letterCount a_size a_letterMaps a_places a_maps a_from a_lastLetters a_lengths a_groups a_kindOf p2_arr Q) : Met l yX0_prepare (wsU yX0_prepare cX0_prepare 6 none) { frames := 3, cells := 0, slots := 0, locals := 67 } (va_Pc [.ref (ad 0), .int x1, .ref a2] (zB D vwCl (tyU cy) [((ad 0), .inr (0, [.ref (ad 1), .int a_letterCount, .ref (ad 2), .ref (ad 3), .ref (ad 4), .ref (ad 5), .ref (ad 6), .int a_size, .ref (ad 7), .ref (ad 8)])), ((ad 1), aI cy 6 a_letterMaps), ((ad 2), aI cy 7776 a_places), ((ad 3), aI cy 1546 a_maps), ((ad 4), aI cy 1546 a_from), ((ad 5), aI cy 1546 a_lastLetters), ((ad 6), aI cy 1546 a_lengths), ((ad 7), aI cy 32 a_groups), ((ad 8), aI cy 32 a_kindOf), (a2, aI cy 6 p2_arr)] sz)) ((fun A => va_Qv (fun (u : Int32 × Int32 × (Nat → Int32) × (Nat → Int32) × (Nat → Int32) × (Nat → Int32) × (Nat → Int32) × (Nat → Int32) × (Nat → Int32) × (Nat → Int32)) => ∃ (z0 : Int32) (z1 : Int32) (z2 : Nat → Int32) (z3 : Nat → Int32) (z4 : Nat → Int32) (z5 : Nat → Int32) (z6 : Nat → Int32) (z7 : Nat → Int32) (z8 : Nat → Int32) (z9 : Nat → Int32), u = (z0, z1, z2, z3, z4, z5, z6, z7, z8, z9) ∧ Q z0 z1 z2 z3 z4 z5 z6 z7 z8 z9) (zE D vwCl A (fun (u : Int32 × Int32 × (Nat → Int32) × (Nat → Int32) × (Nat → Int32) × (Nat → Int32) × (Nat → Int32) × (Nat → Int32) × (Nat → Int32) × (Nat → Int32)) => [((ad 0), .inr (0, [.ref (ad 1), .int (u.1), .ref (ad 2), .ref (ad 3), .ref (ad 4), .ref (ad 5), .ref (ad 6), .int (u.2.1), .ref (ad 7), .ref (ad 8)])), ((ad 1), aI cy 6 (u.2.2.1)), ((ad 2), aI cy 7776 (u.2.2.2.1)), ((ad 3), aI cy 1546 (u.2.2.2.2.1)), ((ad 4), aI cy 1546 (u.2.2.2.2.2.1)), ((ad 5), aI cy 1546 (u.2.2.2.2.2.2.1)), ((ad 6), aI cy 1546 (u.2.2.2.2.2.2.2.1)), ((ad 7), aI cy 32 (u.2.2.2.2.2.2.2.2.1)), ((ad 8), aI cy 32 (u.2.2.2.2.2.2.2.2.2)), (a2, aI cy 6 p2_arr)])) A) (va_A [((ad 0), .inr (0, [.ref (ad 1), .int a_letterCount, .ref (ad 2), .ref (ad 3), .ref (ad 4), .ref (ad 5), .ref (ad 6), .int a_size, .ref (ad 7), .ref (ad 8)])), ((ad 1), aI cy 6 a_letterMaps), ((ad 2), aI cy 7776 a_places), ((ad 3), aI cy 1546 a_maps), ((ad 4), aI cy 1546 a_from), ((ad 5), aI cy 1546 a_lastLetters), ((ad 6), aI cy 1546 a_lengths), ((ad 7), aI cy 32 a_groups), ((ad 8), aI cy 32 a_kindOf), (a2, aI cy 6 p2_arr)] sz)) 0 0 (va_A [((ad 0), .inr (0, [.ref (ad 1), .int a_letterCount, .ref (ad 2), .ref (ad 3), .ref (ad 4), .ref (ad 5), .ref (ad 6), .int a_size, .ref (ad 7), .ref (ad 8)])), ((ad 1), aI cy 6 a_letterMaps), ((ad 2), aI cy 7776 a_places), ((ad 3), aI cy 1546 a_maps), ((ad 4), aI cy 1546 a_from), ((ad 5), aI cy 1546 a_lastLetters), ((ad 6), aI cy 1546 a_lengths), ((ad 7), aI cy 32 a_groups), ((ad 8), aI cy 32 a_kindOf), (a2, aI cy 6 p2_arr)] sz) := by
  refine z_ofX (fun A => va_Qv (fun (u : Int32 × Int32 × (Nat → Int32) × (Nat → Int32) × (Nat → Int32) × (Nat → Int32) × (Nat → Int32) × (Nat → Int32) × (Nat → Int32) × (Nat → Int32)) => ∃ (z0 : Int32) (z1 : Int32) (z2 : Nat → Int32) (z3 : Nat → Int32) (z4 : Nat → Int32) (z5 : Nat → Int32) (z6 : Nat → Int32) (z7 : Nat → Int32) (z8 : Nat → Int32) (z9 : Nat → Int32), u = (z0, z1, z2, z3, z4, z5, z6, z7, z8, z9) ∧ Q z0 z1 z2 z3 z4 z5 z6 z7 z8 z9) (zE D vwCl A (fun (u : Int32 × Int32 × (Nat → Int32) × (Nat → Int32) × (Nat → Int32) × (Nat → Int32) × (Nat → Int32) × (Nat → Int32) × (Nat → Int32) × (Nat → Int32)) => [((ad 0), .inr (0, [.ref (ad 1), .int (u.1), .ref (ad 2), .ref (ad 3), .ref (ad 4), .ref (ad 5), .ref (ad 6), .int (u.2.1), .ref (ad 7), .ref (ad 8)])), ((ad 1), aI cy 6 (u.2.2.1)), ((ad 2), aI cy 7776 (u.2.2.2.1)), ((ad 3), aI cy 1546 (u.2.2.2.2.1)), ((ad 4), aI cy 1546 (u.2.2.2.2.2.1)), ((ad 5), aI cy 1546 (u.2.2.2.2.2.2.1)), ((ad 6), aI cy 1546 (u.2.2.2.2.2.2.2.1)), ((ad 7), aI cy 32 (u.2.2.2.2.2.2.2.2.1)), ((ad 8), aI cy 32 (u.2.2.2.2.2.2.2.2.2)), (a2, aI cy 6 p2_arr)])) A) (by decide) (Nat.le_of_ble_eq_true rfl) (fun p e s m below meth c A ls hx hb hr hml hown hts hlocks hK hPW hA hP hD hS hl => ?_)
  have hl : lv_has ls 6 [(0, .ref (ad 0)), (1, .int x1), (2, .ref a2)] := hl
  have hown : s.vm.findClass RX0 = some m.cls := hown
  generalize hArg : ([.ref (ad 0), .int x1, .ref a2] : List Value).toArray = args at hts ⊢
  have hJ64 : ∀ (x4 : Int32) (x5 : Int32) (t0 : Int32) (a_letterCount : Int32) (a_size : Int32) (a_letterMaps : Nat → Int32) (a_places : Nat → Int32) (a_maps : Nat → Int32) (a_from : Nat → Int32) (a_lastLetters : Nat → Int32) (a_lengths : Nat → Int32) (a_groups : Nat → Int32) (a_kindOf : Nat → Int32) (rc26 : Int32 → Int32 → (Nat → Int32) → Prop) (hrc26 : ∀ (x3 : Int32) (x4 : Int32) (a_letterMaps : Nat → Int32), rc26 x3 x4 a_letterMaps → ∀ (H : Heap) (locs : List Loc) (ls : Array Slot), va_P D vwCl [((ad 0), .inr (0, [.ref (ad 1), .int a_letterCount, .ref (ad 2), .ref (ad 3), .ref (ad 4), .ref (ad 5), .ref (ad 6), .int a_size, .ref (ad 7), .ref (ad 8)])), ((ad 1), aI cy 6 a_letterMaps), ((ad 2), aI cy 7776 a_places), ((ad 3), aI cy 1546 a_maps), ((ad 4), aI cy 1546 a_from), ((ad 5), aI cy 1546 a_lastLetters), ((ad 6), aI cy 1546 a_lengths), ((ad 7), aI cy 32 a_groups), ((ad 8), aI cy 32 a_kindOf), (a2, aI cy 6 p2_arr)] H → va_D A [((ad 0), .inr (0, [.ref (ad 1), .int a_letterCount, .ref (ad 2), .ref (ad 3), .ref (ad 4), .ref (ad 5), .ref (ad 6), .int a_size, .ref (ad 7), .ref (ad 8)])), ((ad 1), aI cy 6 a_letterMaps), ((ad 2), aI cy 7776 a_places), ((ad 3), aI cy 1546 a_maps), ((ad 4), aI cy 1546 a_from), ((ad 5), aI cy 1546 a_lastLetters), ((ad 6), aI cy 1546 a_lengths), ((ad 7), aI cy 32 a_groups), ((ad 8), aI cy 32 a_kindOf), (a2, aI cy 6 p2_arr)] → va_S A s.heap H locs → lv_has ls 6 [(0, .ref (ad 0)), (2, .ref a2), (3, .int x3), (4, .int x4)] → W p l e { frames := 3, cells := 0, slots := 0, locals := 67 } s m args below meth c H locs 0 0 (MQ below ((fun A => va_Qv (fun (u : Int32 × Int32 × (Nat → Int32) × (Nat → Int32) × (Nat → Int32) × (Nat → Int32) × (Nat → Int32) × (Nat → Int32) × (Nat → Int32) × (Nat → Int32)) => ∃ (z0 : Int32) (z1 : Int32) (z2 : Nat → Int32) (z3 : Nat → Int32) (z4 : Nat → Int32) (z5 : Nat → Int32) (z6 : Nat → Int32) (z7 : Nat → Int32) (z8 : Nat → Int32) (z9 : Nat → Int32), u = (z0, z1, z2, z3, z4, z5, z6, z7, z8, z9) ∧ Q z0 z1 z2 z3 z4 z5 z6 z7 z8 z9) (zE D vwCl A (fun (u : Int32 × Int32 × (Nat → Int32) × (Nat → Int32) × (Nat → Int32) × (Nat → Int32) × (Nat → Int32) × (Nat → Int32) × (Nat → Int32) × (Nat → Int32)) => [((ad 0), .inr (0, [.ref (ad 1), .int (u.1), .ref (ad 2), .ref (ad 3), .ref (ad 4), .ref (ad 5), .ref (ad 6), .int (u.2.1), .ref (ad 7), .ref (ad 8)])), ((ad 1), aI cy 6 (u.2.2.1)), ((ad 2), aI cy 7776 (u.2.2.2.1)), ((ad 3), aI cy 1546 (u.2.2.2.2.1)), ((ad 4), aI cy 1546 (u.2.2.2.2.2.1)), ((ad 5), aI cy 1546 (u.2.2.2.2.2.2.1)), ((ad 6), aI cy 1546 (u.2.2.2.2.2.2.2.1)), ((ad 7), aI cy 32 (u.2.2.2.2.2.2.2.2.1)), ((ad 8), aI cy 32 (u.2.2.2.2.2.2.2.2.2)), (a2, aI cy 6 p2_arr)])) A) A) args s 0 0 A) (F0 m 26 ls [])), wp_X0_prepare_64 p2_arr x4 x5 t0 a_letterCount a_size a_letterMaps a_places a_maps a_from a_lastLetters a_lengths a_groups a_kindOf rc26 Q → ∀ (H : Heap) (locs : List Loc) (ls : Array Slot), va_P D vwCl [((ad 0), .inr (0, [.ref (ad 1), .int a_letterCount, .ref (ad 2), .ref (ad 3), .ref (ad 4), .ref (ad 5), .ref (ad 6), .int a_size, .ref (ad 7), .ref (ad 8)])), ((ad 1), aI cy 6 a_letterMaps), ((ad 2), aI cy 7776 a_places), ((ad 3), aI cy 1546 a_maps), ((ad 4), aI cy 1546 a_from), ((ad 5), aI cy 1546 a_lastLetters), ((ad 6), aI cy 1546 a_lengths), ((ad 7), aI cy 32 a_groups), ((ad 8), aI cy 32 a_kindOf), (a2, aI cy 6 p2_arr)] H → va_D A [((ad 0), .inr (0, [.ref (ad 1), .int a_letterCount, .ref (ad 2), .ref (ad 3), .ref (ad 4), .ref (ad 5), .ref (ad 6), .int a_size, .ref (ad 7), .ref (ad 8)])), ((ad 1), aI cy 6 a_letterMaps), ((ad 2), aI cy 7776 a_places), ((ad 3), aI cy 1546 a_maps), ((ad 4), aI cy 1546 a_from), ((ad 5), aI cy 1546 a_lastLetters), ((ad 6), aI cy 1546 a_lengths), ((ad 7), aI cy 32 a_groups), ((ad 8), aI cy 32 a_kindOf), (a2, aI cy 6 p2_arr)] → va_S A s.heap H locs → lv_has ls 6 [(0, .ref (ad 0)), (2, .ref a2), (4, .int x4), (5, .int x5)] → W p l e { frames := 3, cells := 0, slots := 0, locals := 67 } s m args below meth c H locs 0 0 (MQ below ((fun A => va_Qv (fun (u : Int32 × Int32 × (Nat → Int32) × (Nat → Int32) × (Nat → Int32) × (Nat → Int32) × (Nat → Int32) × (Nat → Int32) × (Nat → Int32) × (Nat → Int32)) => ∃ (z0 : Int32) (z1 : Int32) (z2 : Nat → Int32) (z3 : Nat → Int32) (z4 : Nat → Int32) (z5 : Nat → Int32) (z6 : Nat → Int32) (z7 : Nat → Int32) (z8 : Nat → Int32) (z9 : Nat → Int32), u = (z0, z1, z2, z3, z4, z5, z6, z7, z8, z9) ∧ Q z0 z1 z2 z3 z4 z5 z6 z7 z8 z9) (zE D vwCl A (fun (u : Int32 × Int32 × (Nat → Int32) × (Nat → Int32) × (Nat → Int32) × (Nat → Int32) × (Nat → Int32) × (Nat → Int32) × (Nat → Int32) × (Nat → Int32)) => [((ad 0), .inr (0, [.ref (ad 1), .int (u.1), .ref (ad 2), .ref (ad 3), .ref (ad 4), .ref (ad 5), .ref (ad 6), .int (u.2.1), .ref (ad 7), .ref (ad 8)])), ((ad 1), aI cy 6 (u.2.2.1)), ((ad 2), aI cy 7776 (u.2.2.2.1)), ((ad 3), aI cy 1546 (u.2.2.2.2.1)), ((ad 4), aI cy 1546 (u.2.2.2.2.2.1)), ((ad 5), aI cy 1546 (u.2.2.2.2.2.2.1)), ((ad 6), aI cy 1546 (u.2.2.2.2.2.2.2.1)), ((ad 7), aI cy 32 (u.2.2.2.2.2.2.2.2.1)), ((ad 8), aI cy 32 (u.2.2.2.2.2.2.2.2.2)), (a2, aI cy 6 p2_arr)])) A) A) args s 0 0 A) (F0 m 64 ls [.int t0]) := by
    intro x4 x5 t0 a_letterCount a_size a_letterMaps a_places a_maps a_from a_lastLetters a_lengths a_groups a_kindOf rc26 hrc26  h H locs ls hP hD hS hl
    unfold wp_X0_prepare_64 at h
    refine lv_istore_n (lv' := [(3, .int t0), (0, .ref (ad 0)), (2, .ref a2), (4, .int x4), (5, .int x5)]) hx hb dX0_prepare_64 rfl hl (by decide) rfl (fun ls hl => ?_)
    refine lv_aload_n hx hb dX0_prepare_65 rfl (lv_at hl 1 rfl) ?_
    refine va_get (D := D) (ci := 0) (v := .ref (ad 1)) (C := RX0) (T := TX0) (N := 10) hx hb hts iX0 hown hK hP 0 rfl rfl 0 (Nat.le_of_ble_eq_true rfl) (hts _ fl_X0_9) (fun _ h9 => h9) rfl dX0_prepare_66 ?_
    refine lv_iload hx hb dX0_prepare_69 (lv_at hl 3 rfl) ?_
    refine lv_iload hx hb dX0_prepare_71 (lv_at hl 4 rfl) ?_
    obtain ⟨hi_13, h⟩ := h
    refine va_iast hx hb hK hP hD hS 1 0 rfl rfl hi_13 dX0_prepare_73 (fun H locs hP hD hS => ?_)
    have hP : va_P D vwCl [((ad 0), .inr (0, [.ref (ad 1), .int a_letterCount, .ref (ad 2), .ref (ad 3), .ref (ad 4), .ref (ad 5), .ref (ad 6), .int a_size, .ref (ad 7), .ref (ad 8)])), ((ad 1), aI cy 6 (upd a_letterMaps x4.toNatClampNeg x5)), ((ad 2), aI cy 7776 a_places), ((ad 3), aI cy 1546 a_maps), ((ad 4), aI cy 1546 a_from), ((ad 5), aI cy 1546 a_lastLetters), ((ad 6), aI cy 1546 a_lengths), ((ad 7), aI cy 32 a_groups), ((ad 8), aI cy 32 a_kindOf), (a2, aI cy 6 p2_arr)] H := hP
    have hD : va_D A [((ad 0), .inr (0, [.ref (ad 1), .int a_letterCount, .ref (ad 2), .ref (ad 3), .ref (ad 4), .ref (ad 5), .ref (ad 6), .int a_size, .ref (ad 7), .ref (ad 8)])), ((ad 1), aI cy 6 (upd a_letterMaps x4.toNatClampNeg x5)), ((ad 2), aI cy 7776 a_places), ((ad 3), aI cy 1546 a_maps), ((ad 4), aI cy 1546 a_from), ((ad 5), aI cy 1546 a_lastLetters), ((ad 6), aI cy 1546 a_lengths), ((ad 7), aI cy 32 a_groups), ((ad 8), aI cy 32 a_kindOf), (a2, aI cy 6 p2_arr)] := hD
    obtain ⟨x4_14, e_x4_14⟩ : ∃ y : Int32, y = x4 + (1 : Int32) := ⟨_, rfl⟩
    refine lv_iinc (v := x4_14) (lv' := [(4, .int x4_14), (3, .int t0), (0, .ref (ad 0)), (2, .ref a2), (5, .int x5)]) hx hb dX0_prepare_74 hl (k := 3) rfl (by rw [e_x4_14]; rfl) (by decide) rfl (fun ls hl => ?_)
    have h := h x4_14 e_x4_14
    refine lv_goto (tgt := 26) hx hb dX0_prepare_77 (by decide) ?_
    exact hrc26 t0 x4_14 (upd a_letterMaps x4.toNatClampNeg x5) h _ _ _ hP hD hS (lv_sub hl [2, 3, 1, 0] rfl)
  have hJ26 : ∀ (x3 : Int32) (x4 : Int32) (a_letterCount : Int32) (a_size : Int32) (a_letterMaps : Nat → Int32) (a_places : Nat → Int32) (a_maps : Nat → Int32) (a_from : Nat → Int32) (a_lastLetters : Nat → Int32) (a_lengths : Nat → Int32) (a_groups : Nat → Int32) (a_kindOf : Nat → Int32), wp_X0_prepare_26 p2_arr a_letterCount a_size a_places a_maps a_from a_lastLetters a_lengths a_groups a_kindOf  Q x3 x4 a_letterMaps → ∀ (H : Heap) (locs : List Loc) (ls : Array Slot), va_P D vwCl [((ad 0), .inr (0, [.ref (ad 1), .int a_letterCount, .ref (ad 2), .ref (ad 3), .ref (ad 4), .ref (ad 5), .ref (ad 6), .int a_size, .ref (ad 7), .ref (ad 8)])), ((ad 1), aI cy 6 a_letterMaps), ((ad 2), aI cy 7776 a_places), ((ad 3), aI cy 1546 a_maps), ((ad 4), aI cy 1546 a_from), ((ad 5), aI cy 1546 a_lastLetters), ((ad 6), aI cy 1546 a_lengths), ((ad 7), aI cy 32 a_groups), ((ad 8), aI cy 32 a_kindOf), (a2, aI cy 6 p2_arr)] H → va_D A [((ad 0), .inr (0, [.ref (ad 1), .int a_letterCount, .ref (ad 2), .ref (ad 3), .ref (ad 4), .ref (ad 5), .ref (ad 6), .int a_size, .ref (ad 7), .ref (ad 8)])), ((ad 1), aI cy 6 a_letterMaps), ((ad 2), aI cy 7776 a_places), ((ad 3), aI cy 1546 a_maps), ((ad 4), aI cy 1546 a_from), ((ad 5), aI cy 1546 a_lastLetters), ((ad 6), aI cy 1546 a_lengths), ((ad 7), aI cy 32 a_groups), ((ad 8), aI cy 32 a_kindOf), (a2, aI cy 6 p2_arr)] → va_S A s.heap H locs → lv_has ls 6 [(0, .ref (ad 0)), (2, .ref a2), (3, .int x3), (4, .int x4)] → W p l e { frames := 3, cells := 0, slots := 0, locals := 67 } s m args below meth c H locs 0 0 (MQ below ((fun A => va_Qv (fun (u : Int32 × Int32 × (Nat → Int32) × (Nat → Int32) × (Nat → Int32) × (Nat → Int32) × (Nat → Int32) × (Nat → Int32) × (Nat → Int32) × (Nat → Int32)) => ∃ (z0 : Int32) (z1 : Int32) (z2 : Nat → Int32) (z3 : Nat → Int32) (z4 : Nat → Int32) (z5 : Nat → Int32) (z6 : Nat → Int32) (z7 : Nat → Int32) (z8 : Nat → Int32) (z9 : Nat → Int32), u = (z0, z1, z2, z3, z4, z5, z6, z7, z8, z9) ∧ Q z0 z1 z2 z3 z4 z5 z6 z7 z8 z9) (zE D vwCl A (fun (u : Int32 × Int32 × (Nat → Int32) × (Nat → Int32) × (Nat → Int32) × (Nat → Int32) × (Nat → Int32) × (Nat → Int32) × (Nat → Int32) × (Nat → Int32)) => [((ad 0), .inr (0, [.ref (ad 1), .int (u.1), .ref (ad 2), .ref (ad 3), .ref (ad 4), .ref (ad 5), .ref (ad 6), .int (u.2.1), .ref (ad 7), .ref (ad 8)])), ((ad 1), aI cy 6 (u.2.2.1)), ((ad 2), aI cy 7776 (u.2.2.2.1)), ((ad 3), aI cy 1546 (u.2.2.2.2.1)), ((ad 4), aI cy 1546 (u.2.2.2.2.2.1)), ((ad 5), aI cy 1546 (u.2.2.2.2.2.2.1)), ((ad 6), aI cy 1546 (u.2.2.2.2.2.2.2.1)), ((ad 7), aI cy 32 (u.2.2.2.2.2.2.2.2.1)), ((ad 8), aI cy 32 (u.2.2.2.2.2.2.2.2.2)), (a2, aI cy 6 p2_arr)])) A) A) args s 0 0 A) (F0 m 26 ls []) := by
    intro x3 x4 a_letterCount a_size a_letterMaps a_places a_maps a_from a_lastLetters a_lengths a_groups a_kindOf   h
    obtain ⟨nn, h⟩ := h
    have key : ∀ (nn : Nat) (x3 : Int32) (x4 : Int32) (a_letterMaps : Nat → Int32), lpW3 (wb_X0_prepare_26 p2_arr a_letterCount a_size a_places a_maps a_from a_lastLetters a_lengths a_groups a_kindOf  Q) nn x3 x4 a_letterMaps → ∀ (H : Heap) (locs : List Loc) (ls : Array Slot), va_P D vwCl [((ad 0), .inr (0, [.ref (ad 1), .int a_letterCount, .ref (ad 2), .ref (ad 3), .ref (ad 4), .ref (ad 5), .ref (ad 6), .int a_size, .ref (ad 7), .ref (ad 8)])), ((ad 1), aI cy 6 a_letterMaps), ((ad 2), aI cy 7776 a_places), ((ad 3), aI cy 1546 a_maps), ((ad 4), aI cy 1546 a_from), ((ad 5), aI cy 1546 a_lastLetters), ((ad 6), aI cy 1546 a_lengths), ((ad 7), aI cy 32 a_groups), ((ad 8), aI cy 32 a_kindOf), (a2, aI cy 6 p2_arr)] H → va_D A [((ad 0), .inr (0, [.ref (ad 1), .int a_letterCount, .ref (ad 2), .ref (ad 3), .ref (ad 4), .ref (ad 5), .ref (ad 6), .int a_size, .ref (ad 7), .ref (ad 8)])), ((ad 1), aI cy 6 a_letterMaps), ((ad 2), aI cy 7776 a_places), ((ad 3), aI cy 1546 a_maps), ((ad 4), aI cy 1546 a_from), ((ad 5), aI cy 1546 a_lastLetters), ((ad 6), aI cy 1546 a_lengths), ((ad 7), aI cy 32 a_groups), ((ad 8), aI cy 32 a_kindOf), (a2, aI cy 6 p2_arr)] → va_S A s.heap H locs → lv_has ls 6 [(0, .ref (ad 0)), (2, .ref a2), (3, .int x3), (4, .int x4)] → W p l e { frames := 3, cells := 0, slots := 0, locals := 67 } s m args below meth c H locs 0 0 (MQ below ((fun A => va_Qv (fun (u : Int32 × Int32 × (Nat → Int32) × (Nat → Int32) × (Nat → Int32) × (Nat → Int32) × (Nat → Int32) × (Nat → Int32) × (Nat → Int32) × (Nat → Int32)) => ∃ (z0 : Int32) (z1 : Int32) (z2 : Nat → Int32) (z3 : Nat → Int32) (z4 : Nat → Int32) (z5 : Nat → Int32) (z6 : Nat → Int32) (z7 : Nat → Int32) (z8 : Nat → Int32) (z9 : Nat → Int32), u = (z0, z1, z2, z3, z4, z5, z6, z7, z8, z9) ∧ Q z0 z1 z2 z3 z4 z5 z6 z7 z8 z9) (zE D vwCl A (fun (u : Int32 × Int32 × (Nat → Int32) × (Nat → Int32) × (Nat → Int32) × (Nat → Int32) × (Nat → Int32) × (Nat → Int32) × (Nat → Int32) × (Nat → Int32)) => [((ad 0), .inr (0, [.ref (ad 1), .int (u.1), .ref (ad 2), .ref (ad 3), .ref (ad 4), .ref (ad 5), .ref (ad 6), .int (u.2.1), .ref (ad 7), .ref (ad 8)])), ((ad 1), aI cy 6 (u.2.2.1)), ((ad 2), aI cy 7776 (u.2.2.2.1)), ((ad 3), aI cy 1546 (u.2.2.2.2.1)), ((ad 4), aI cy 1546 (u.2.2.2.2.2.1)), ((ad 5), aI cy 1546 (u.2.2.2.2.2.2.1)), ((ad 6), aI cy 1546 (u.2.2.2.2.2.2.2.1)), ((ad 7), aI cy 32 (u.2.2.2.2.2.2.2.2.1)), ((ad 8), aI cy 32 (u.2.2.2.2.2.2.2.2.2)), (a2, aI cy 6 p2_arr)])) A) A) args s 0 0 A) (F0 m 26 ls []) := by
      intro nn
      induction nn with
      | zero => intro x3 x4 a_letterMaps h; exact h.elim
      | succ nn hrc26 =>
        intro x3 x4 a_letterMaps h H locs ls hP hD hS hl
        have h : wb_X0_prepare_26 p2_arr a_letterCount a_size a_places a_maps a_from a_lastLetters a_lengths a_groups a_kindOf  Q (lpW3 (wb_X0_prepare_26 p2_arr a_letterCount a_size a_places a_maps a_from a_lastLetters a_lengths a_groups a_kindOf  Q) nn) x3 x4 a_letterMaps := h
        unfold wb_X0_prepare_26 at h
        refine lv_iload hx hb dX0_prepare_26 (lv_at hl 3 rfl) ?_
        refine lv_aload_n hx hb dX0_prepare_28 rfl (lv_at hl 0 rfl) ?_
        refine va_get (D := D) (ci := 0) (v := .int a_letterCount) (C := RX0) (T := TX0) (N := 10) hx hb hts iX0 hown hK hP 0 rfl rfl 1 (Nat.le_of_ble_eq_true rfl) (hts _ fl_X0_15) (fun _ h9 => h9) rfl dX0_prepare_29 ?_
        refine lv_icmp_ge (tgt := 80) hx hb dX0_prepare_32 (by decide) (fun c_15 => ?_) (fun c_15 => ?_)
        · have h := h.1 c_15
          refine lv_iload_n hx hb dX0_prepare_80 rfl (lv_at hl 2 rfl) ?_
          refine lv_if_ne (tgt := 96) hx hb dX0_prepare_81 (by decide) (fun c_16 => ?_) (fun c_16 => ?_)
          · have h := h.1 c_16
            exact z_vret (a_letterCount, a_size, a_letterMaps, a_places, a_maps, a_from, a_lastLetters, a_lengths, a_groups, a_kindOf) hx hb hr hlocks ⟨a_letterCount, a_size, a_letterMaps, a_places, a_maps, a_from, a_lastLetters, a_lengths, a_groups, a_kindOf, rfl, h⟩ hP hD hS dX0_prepare_96
          · have h := h.2 c_16
            refine lv_aload_n hx hb dX0_prepare_84 rfl (lv_at hl 0 rfl) ?_
            refine zc_Vv (As := []) (rest := []) (wc := [((ad 0), .inr (0, [.ref (ad 1), .int a_letterCount, .ref (ad 2), .ref (ad 3), .ref (ad 4), .ref (ad 5), .ref (ad 6), .int a_size, .ref (ad 7), .ref (ad 8)])), ((ad 2), aI cy 7776 a_places), ((ad 3), aI cy 1546 a_maps)]) (wr := [((ad 1), aI cy 6 a_letterMaps), ((ad 4), aI cy 1546 a_from), ((ad 5), aI cy 1546 a_lastLetters), ((ad 6), aI cy 1546 a_lengths), ((ad 7), aI cy 32 a_groups), ((ad 8), aI cy 32 a_kindOf), (a2, aI cy 6 p2_arr)]) hx hb hml hown hts hK hPW hA hl.1 hP hD hS ⟨Nat.zero_le _, Nat.zero_le _⟩ [0, 2, 3] [1, 4, 5, 6, 7, 8, 9] rfl rfl (by decide) (c_X0_forget l D cy (sz := _) (ad := ad) (a_letterCount := a_letterCount) (a_size := a_size) (a_places := a_places) (a_maps := a_maps) (h := h)) k_X0_49 ⟨rfl, rfl, (Nat.le_of_ble_eq_true rfl), (Nat.le_of_ble_eq_true rfl)⟩ rfl rfl rfl rfl (Nat.le_of_ble_eq_true rfl) dX0_prepare_85 (fun u_17 H locs h hP hD hS => ?_)
            obtain ⟨a_size_17, a_places_17, rfl, h⟩ := h
            have hP : va_P D vwCl [((ad 1), aI cy 6 a_letterMaps), ((ad 4), aI cy 1546 a_from), ((ad 5), aI cy 1546 a_lastLetters), ((ad 6), aI cy 1546 a_lengths), ((ad 7), aI cy 32 a_groups), ((ad 8), aI cy 32 a_kindOf), (a2, aI cy 6 p2_arr), ((ad 0), .inr (0, [.ref (ad 1), .int a_letterCount, .ref (ad 2), .ref (ad 3), .ref (ad 4), .ref (ad 5), .ref (ad 6), .int a_size_17, .ref (ad 7), .ref (ad 8)])), ((ad 2), aI cy 7776 a_places_17), ((ad 3), aI cy 1546 a_maps)] H := hP
            have hD : va_D A [((ad 1), aI cy 6 a_letterMaps), ((ad 4), aI cy 1546 a_from), ((ad 5), aI cy 1546 a_lastLetters), ((ad 6), aI cy 1546 a_lengths), ((ad 7), aI cy 32 a_groups), ((ad 8), aI cy 32 a_kindOf), (a2, aI cy 6 p2_arr), ((ad 0), .inr (0, [.ref (ad 1), .int a_letterCount, .ref (ad 2), .ref (ad 3), .ref (ad 4), .ref (ad 5), .ref (ad 6), .int a_size_17, .ref (ad 7), .ref (ad 8)])), ((ad 2), aI cy 7776 a_places_17), ((ad 3), aI cy 1546 a_maps)] := hD
            refine lv_aload_n hx hb dX0_prepare_88 rfl (lv_at hl 0 rfl) ?_
            refine zc_Vv (As := []) (rest := []) (wc := [((ad 0), .inr (0, [.ref (ad 1), .int a_letterCount, .ref (ad 2), .ref (ad 3), .ref (ad 4), .ref (ad 5), .ref (ad 6), .int a_size_17, .ref (ad 7), .ref (ad 8)])), ((ad 1), aI cy 6 a_letterMaps), ((ad 2), aI cy 7776 a_places_17), ((ad 3), aI cy 1546 a_maps), ((ad 4), aI cy 1546 a_from), ((ad 5), aI cy 1546 a_lastLetters), ((ad 6), aI cy 1546 a_lengths)]) (wr := [((ad 7), aI cy 32 a_groups), ((ad 8), aI cy 32 a_kindOf), (a2, aI cy 6 p2_arr)]) hx hb hml hown hts hK hPW hA hl.1 hP hD hS ⟨Nat.zero_le _, Nat.zero_le _⟩ [7, 0, 8, 9, 1, 2, 3] [4, 5, 6] rfl rfl (by decide) (c_X0_find l D cy (sz := _) (ad := ad) (a_letterCount := a_letterCount) (a_size := a_size_17) (a_letterMaps := a_letterMaps) (a_places := a_places_17) (a_maps := a_maps) (a_from := a_from) (a_lastLetters := a_lastLetters) (a_lengths := a_lengths) (h := h)) k_X0_52 ⟨rfl, rfl, (Nat.le_of_ble_eq_true rfl), (Nat.le_of_ble_eq_true rfl)⟩ rfl rfl rfl rfl (Nat.le_of_ble_eq_true rfl) dX0_prepare_89 (fun u_18 H locs h hP hD hS => ?_)
            obtain ⟨a_size_18, a_places_18, a_maps_18, a_from_18, a_lastLetters_18, a_lengths_18, rfl, h⟩ := h
            have hP : va_P D vwCl [((ad 7), aI cy 32 a_groups), ((ad 8), aI cy 32 a_kindOf), (a2, aI cy 6 p2_arr), ((ad 0), .inr (0, [.ref (ad 1), .int a_letterCount, .ref (ad 2), .ref (ad 3), .ref (ad 4), .ref (ad 5), .ref (ad 6), .int a_size_18, .ref (ad 7), .ref (ad 8)])), ((ad 1), aI cy 6 a_letterMaps), ((ad 2), aI cy 7776 a_places_18), ((ad 3), aI cy 1546 a_maps_18), ((ad 4), aI cy 1546 a_from_18), ((ad 5), aI cy 1546 a_lastLetters_18), ((ad 6), aI cy 1546 a_lengths_18)] H := hP
            have hD : va_D A [((ad 7), aI cy 32 a_groups), ((ad 8), aI cy 32 a_kindOf), (a2, aI cy 6 p2_arr), ((ad 0), .inr (0, [.ref (ad 1), .int a_letterCount, .ref (ad 2), .ref (ad 3), .ref (ad 4), .ref (ad 5), .ref (ad 6), .int a_size_18, .ref (ad 7), .ref (ad 8)])), ((ad 1), aI cy 6 a_letterMaps), ((ad 2), aI cy 7776 a_places_18), ((ad 3), aI cy 1546 a_maps_18), ((ad 4), aI cy 1546 a_from_18), ((ad 5), aI cy 1546 a_lastLetters_18), ((ad 6), aI cy 1546 a_lengths_18)] := hD
            refine lv_aload_n hx hb dX0_prepare_92 rfl (lv_at hl 0 rfl) ?_
            refine zc_Vv (As := []) (rest := []) (wc := [((ad 0), .inr (0, [.ref (ad 1), .int a_letterCount, .ref (ad 2), .ref (ad 3), .ref (ad 4), .ref (ad 5), .ref (ad 6), .int a_size_18, .ref (ad 7), .ref (ad 8)])), ((ad 3), aI cy 1546 a_maps_18), ((ad 7), aI cy 32 a_groups), ((ad 8), aI cy 32 a_kindOf)]) (wr := [(a2, aI cy 6 p2_arr), ((ad 1), aI cy 6 a_letterMaps), ((ad 2), aI cy 7776 a_places_18), ((ad 4), aI cy 1546 a_from_18), ((ad 5), aI cy 1546 a_lastLetters_18), ((ad 6), aI cy 1546 a_lengths_18)]) hx hb hml hown hts hK hPW hA hl.1 hP hD hS ⟨Nat.zero_le _, Nat.zero_le _⟩ [3, 6, 0, 1] [2, 4, 5, 7, 8, 9] rfl rfl (by decide) (c_X0_survey l D cy (sz := _) (ad := ad) (a_letterCount := a_letterCount) (a_size := a_size_18) (a_maps := a_maps_18) (a_groups := a_groups) (a_kindOf := a_kindOf) (h := h)) k_X0_55 ⟨rfl, rfl, (Nat.le_of_ble_eq_true rfl), (Nat.le_of_ble_eq_true rfl)⟩ rfl rfl rfl rfl (Nat.le_of_ble_eq_true rfl) dX0_prepare_93 (fun u_19 H locs h hP hD hS => ?_)
            obtain ⟨a_groups_19, a_kindOf_19, rfl, h⟩ := h
            have hP : va_P D vwCl [(a2, aI cy 6 p2_arr), ((ad 1), aI cy 6 a_letterMaps), ((ad 2), aI cy 7776 a_places_18), ((ad 4), aI cy 1546 a_from_18), ((ad 5), aI cy 1546 a_lastLetters_18), ((ad 6), aI cy 1546 a_lengths_18), ((ad 0), .inr (0, [.ref (ad 1), .int a_letterCount, .ref (ad 2), .ref (ad 3), .ref (ad 4), .ref (ad 5), .ref (ad 6), .int a_size_18, .ref (ad 7), .ref (ad 8)])), ((ad 3), aI cy 1546 a_maps_18), ((ad 7), aI cy 32 a_groups_19), ((ad 8), aI cy 32 a_kindOf_19)] H := hP
            have hD : va_D A [(a2, aI cy 6 p2_arr), ((ad 1), aI cy 6 a_letterMaps), ((ad 2), aI cy 7776 a_places_18), ((ad 4), aI cy 1546 a_from_18), ((ad 5), aI cy 1546 a_lastLetters_18), ((ad 6), aI cy 1546 a_lengths_18), ((ad 0), .inr (0, [.ref (ad 1), .int a_letterCount, .ref (ad 2), .ref (ad 3), .ref (ad 4), .ref (ad 5), .ref (ad 6), .int a_size_18, .ref (ad 7), .ref (ad 8)])), ((ad 3), aI cy 1546 a_maps_18), ((ad 7), aI cy 32 a_groups_19), ((ad 8), aI cy 32 a_kindOf_19)] := hD
            exact z_vret (a_letterCount, a_size_18, a_letterMaps, a_places_18, a_maps_18, a_from_18, a_lastLetters_18, a_lengths_18, a_groups_19, a_kindOf_19) hx hb hr hlocks ⟨a_letterCount, a_size_18, a_letterMaps, a_places_18, a_maps_18, a_from_18, a_lastLetters_18, a_lengths_18, a_groups_19, a_kindOf_19, rfl, h⟩ (hP.sub [6, 1, 2, 7, 3, 4, 5, 8, 9, 0] rfl) (hD.sub [6, 1, 2, 7, 3, 4, 5, 8, 9, 0] (by decide) rfl) hS dX0_prepare_96
        · have h := h.2 c_15
          refine lv_iload hx hb dX0_prepare_35 (lv_at hl 3 rfl) ?_
          refine lv_aload_n hx hb dX0_prepare_37 rfl (lv_at hl 1 rfl) ?_
          refine zc_Si (As := [.int x4, .ref a2]) (rest := []) (wc := [(a2, aI cy 6 p2_arr)]) (wr := [((ad 0), .inr (0, [.ref (ad 1), .int a_letterCount, .ref (ad 2), .ref (ad 3), .ref (ad 4), .ref (ad 5), .ref (ad 6), .int a_size, .ref (ad 7), .ref (ad 8)])), ((ad 1), aI cy 6 a_letterMaps), ((ad 2), aI cy 7776 a_places), ((ad 3), aI cy 1546 a_maps), ((ad 4), aI cy 1546 a_from), ((ad 5), aI cy 1546 a_lastLetters), ((ad 6), aI cy 1546 a_lengths), ((ad 7), aI cy 32 a_groups), ((ad 8), aI cy 32 a_kindOf)]) hx hb hml hown hts hK hPW hA hl.1 hP hD hS ⟨Nat.zero_le _, Nat.zero_le _⟩ [9] [0, 1, 2, 3, 4, 5, 6, 7, 8] rfl rfl (by decide) (c_X1_ofLetter l D cy (sz := _) (x0 := x4) (a1 := a2) (p1_arr := p2_arr) (h := h)) k_X0_43 ⟨rfl, rfl, (Nat.le_of_ble_eq_true rfl), (Nat.le_of_ble_eq_true rfl)⟩ rfl rfl (Nat.le_of_ble_eq_true rfl) dX0_prepare_38 (fun r_20 _ H locs h hP hD hS => ?_)
          have hP : va_P D vwCl [((ad 0), .inr (0, [.ref (ad 1), .int a_letterCount, .ref (ad 2), .ref (ad 3), .ref (ad 4), .ref (ad 5), .ref (ad 6), .int a_size, .ref (ad 7), .ref (ad 8)])), ((ad 1), aI cy 6 a_letterMaps), ((ad 2), aI cy 7776 a_places), ((ad 3), aI cy 1546 a_maps), ((ad 4), aI cy 1546 a_from), ((ad 5), aI cy 1546 a_lastLetters), ((ad 6), aI cy 1546 a_lengths), ((ad 7), aI cy 32 a_groups), ((ad 8), aI cy 32 a_kindOf), (a2, aI cy 6 p2_arr)] H := hP
          have hD : va_D A [((ad 0), .inr (0, [.ref (ad 1), .int a_letterCount, .ref (ad 2), .ref (ad 3), .ref (ad 4), .ref (ad 5), .ref (ad 6), .int a_size, .ref (ad 7), .ref (ad 8)])), ((ad 1), aI cy 6 a_letterMaps), ((ad 2), aI cy 7776 a_places), ((ad 3), aI cy 1546 a_maps), ((ad 4), aI cy 1546 a_from), ((ad 5), aI cy 1546 a_lastLetters), ((ad 6), aI cy 1546 a_lengths), ((ad 7), aI cy 32 a_groups), ((ad 8), aI cy 32 a_kindOf), (a2, aI cy 6 p2_arr)] := hD
          refine lv_istore (lv' := [(5, .int r_20), (0, .ref (ad 0)), (2, .ref a2), (3, .int x3), (4, .int x4)]) hx hb dX0_prepare_41 hl (by decide) rfl (fun ls hl => ?_)
          refine lv_iload_n hx hb dX0_prepare_43 rfl (lv_at hl 3 rfl) ?_
          refine lv_if_eq (tgt := 63) hx hb dX0_prepare_44 (by decide) (fun c_21 => ?_) (fun c_21 => ?_)
          · have h := h.1 c_21
            refine lv_iconst (v := (0 : Int32)) hx hb dX0_prepare_63 (by decide) ?_
            exact hJ64 x4 r_20 (0 : Int32) a_letterCount a_size a_letterMaps a_places a_maps a_from a_lastLetters a_lengths a_groups a_kindOf _ hrc26  h _ _ _ hP hD hS (lv_sub hl [1, 2, 4, 0] rfl)
          · have h := h.2 c_21
            refine lv_aload_n hx hb dX0_prepare_47 rfl (lv_at hl 1 rfl) ?_
            refine va_get (D := D) (ci := 0) (v := .ref (ad 1)) (C := RX0) (T := TX0) (N := 10) hx hb hts iX0 hown hK hP 0 rfl rfl 0 (Nat.le_of_ble_eq_true rfl) (hts _ fl_X0_9) (fun _ h9 => h9) rfl dX0_prepare_48 ?_
            refine lv_iload hx hb dX0_prepare_51 (lv_at hl 4 rfl) ?_
            obtain ⟨hi_22, h⟩ := h
            refine va_iald hx hb hK hP 1 0 rfl rfl hi_22 dX0_prepare_53 ?_
            refine lv_iload hx hb dX0_prepare_54 (lv_at hl 0 rfl) ?_
            refine lv_icmp_ne (tgt := 63) hx hb dX0_prepare_56 (by decide) (fun c_23 => ?_) (fun c_23 => ?_)
            · have h := h.1 c_23
              refine lv_iconst (v := (0 : Int32)) hx hb dX0_prepare_63 (by decide) ?_
              exact hJ64 x4 r_20 (0 : Int32) a_letterCount a_size a_letterMaps a_places a_maps a_from a_lastLetters a_lengths a_groups a_kindOf _ hrc26  h _ _ _ hP hD hS (lv_sub hl [1, 2, 4, 0] rfl)
            · have h := h.2 c_23
              refine lv_iconst (v := (1 : Int32)) hx hb dX0_prepare_59 (by decide) ?_
              refine lv_goto (tgt := 64) hx hb dX0_prepare_60 (by decide) ?_
              exact hJ64 x4 r_20 (1 : Int32) a_letterCount a_size a_letterMaps a_places a_maps a_from a_lastLetters a_lengths a_groups a_kindOf _ hrc26  h _ _ _ hP hD hS (lv_sub hl [1, 2, 4, 0] rfl)
    exact key nn x3 x4 a_letterMaps h
  have hJ15 : ∀ (x1 : Int32) (t0 : Int32) (a_letterCount : Int32) (a_size : Int32) (a_letterMaps : Nat → Int32) (a_places : Nat → Int32) (a_maps : Nat → Int32) (a_from : Nat → Int32) (a_lastLetters : Nat → Int32) (a_lengths : Nat → Int32) (a_groups : Nat → Int32) (a_kindOf : Nat → Int32), wp_X0_prepare_15 p2_arr x1 t0 a_letterCount a_size a_letterMaps a_places a_maps a_from a_lastLetters a_lengths a_groups a_kindOf  Q → ∀ (H : Heap) (locs : List Loc) (ls : Array Slot), va_P D vwCl [((ad 0), .inr (0, [.ref (ad 1), .int a_letterCount, .ref (ad 2), .ref (ad 3), .ref (ad 4), .ref (ad 5), .ref (ad 6), .int a_size, .ref (ad 7), .ref (ad 8)])), ((ad 1), aI cy 6 a_letterMaps), ((ad 2), aI cy 7776 a_places), ((ad 3), aI cy 1546 a_maps), ((ad 4), aI cy 1546 a_from), ((ad 5), aI cy 1546 a_lastLetters), ((ad 6), aI cy 1546 a_lengths), ((ad 7), aI cy 32 a_groups), ((ad 8), aI cy 32 a_kindOf), (a2, aI cy 6 p2_arr)] H → va_D A [((ad 0), .inr (0, [.ref (ad 1), .int a_letterCount, .ref (ad 2), .ref (ad 3), .ref (ad 4), .ref (ad 5), .ref (ad 6), .int a_size, .ref (ad 7), .ref (ad 8)])), ((ad 1), aI cy 6 a_letterMaps), ((ad 2), aI cy 7776 a_places), ((ad 3), aI cy 1546 a_maps), ((ad 4), aI cy 1546 a_from), ((ad 5), aI cy 1546 a_lastLetters), ((ad 6), aI cy 1546 a_lengths), ((ad 7), aI cy 32 a_groups), ((ad 8), aI cy 32 a_kindOf), (a2, aI cy 6 p2_arr)] → va_S A s.heap H locs → lv_has ls 6 [(0, .ref (ad 0)), (1, .int x1), (2, .ref a2)] → W p l e { frames := 3, cells := 0, slots := 0, locals := 67 } s m args below meth c H locs 0 0 (MQ below ((fun A => va_Qv (fun (u : Int32 × Int32 × (Nat → Int32) × (Nat → Int32) × (Nat → Int32) × (Nat → Int32) × (Nat → Int32) × (Nat → Int32) × (Nat → Int32) × (Nat → Int32)) => ∃ (z0 : Int32) (z1 : Int32) (z2 : Nat → Int32) (z3 : Nat → Int32) (z4 : Nat → Int32) (z5 : Nat → Int32) (z6 : Nat → Int32) (z7 : Nat → Int32) (z8 : Nat → Int32) (z9 : Nat → Int32), u = (z0, z1, z2, z3, z4, z5, z6, z7, z8, z9) ∧ Q z0 z1 z2 z3 z4 z5 z6 z7 z8 z9) (zE D vwCl A (fun (u : Int32 × Int32 × (Nat → Int32) × (Nat → Int32) × (Nat → Int32) × (Nat → Int32) × (Nat → Int32) × (Nat → Int32) × (Nat → Int32) × (Nat → Int32)) => [((ad 0), .inr (0, [.ref (ad 1), .int (u.1), .ref (ad 2), .ref (ad 3), .ref (ad 4), .ref (ad 5), .ref (ad 6), .int (u.2.1), .ref (ad 7), .ref (ad 8)])), ((ad 1), aI cy 6 (u.2.2.1)), ((ad 2), aI cy 7776 (u.2.2.2.1)), ((ad 3), aI cy 1546 (u.2.2.2.2.1)), ((ad 4), aI cy 1546 (u.2.2.2.2.2.1)), ((ad 5), aI cy 1546 (u.2.2.2.2.2.2.1)), ((ad 6), aI cy 1546 (u.2.2.2.2.2.2.2.1)), ((ad 7), aI cy 32 (u.2.2.2.2.2.2.2.2.1)), ((ad 8), aI cy 32 (u.2.2.2.2.2.2.2.2.2)), (a2, aI cy 6 p2_arr)])) A) A) args s 0 0 A) (F0 m 15 ls [.int t0]) := by
    intro x1 t0 a_letterCount a_size a_letterMaps a_places a_maps a_from a_lastLetters a_lengths a_groups a_kindOf   h H locs ls hP hD hS hl
    unfold wp_X0_prepare_15 at h
    refine lv_istore_n (lv' := [(3, .int t0), (0, .ref (ad 0)), (1, .int x1), (2, .ref a2)]) hx hb dX0_prepare_15 rfl hl (by decide) rfl (fun ls hl => ?_)
    refine lv_aload_n hx hb dX0_prepare_16 rfl (lv_at hl 1 rfl) ?_
    refine lv_iconst (v := (2 : Int32)) hx hb dX0_prepare_17 (by decide) ?_
    refine lv_iload_n hx hb dX0_prepare_18 rfl (lv_at hl 2 rfl) ?_
    refine lv_imul hx hb dX0_prepare_19 ?_
    refine va_put (D := D) (ci := 0) (v := .int ((2 : Int32) * x1)) (ty := .int) (C := RX0) (T := TX0) (N := 10) hx hb hts iX0 tyX0 tyX0_ok nmX0 hown hK hP hD hS 0 rfl rfl 1 (Nat.le_of_ble_eq_true rfl) (hts _ fl_X0_15) (fun _ h9 => h9) rfl (by decide +kernel) rfl rfl (Nat.le_of_ble_eq_true rfl) dX0_prepare_20 (fun H locs hP hD hS => ?_)
    have hP : va_P D vwCl [((ad 0), .inr (0, [.ref (ad 1), .int ((2 : Int32) * x1), .ref (ad 2), .ref (ad 3), .ref (ad 4), .ref (ad 5), .ref (ad 6), .int a_size, .ref (ad 7), .ref (ad 8)])), ((ad 1), aI cy 6 a_letterMaps), ((ad 2), aI cy 7776 a_places), ((ad 3), aI cy 1546 a_maps), ((ad 4), aI cy 1546 a_from), ((ad 5), aI cy 1546 a_lastLetters), ((ad 6), aI cy 1546 a_lengths), ((ad 7), aI cy 32 a_groups), ((ad 8), aI cy 32 a_kindOf), (a2, aI cy 6 p2_arr)] H := hP
    have hD : va_D A [((ad 0), .inr (0, [.ref (ad 1), .int ((2 : Int32) * x1), .ref (ad 2), .ref (ad 3), .ref (ad 4), .ref (ad 5), .ref (ad 6), .int a_size, .ref (ad 7), .ref (ad 8)])), ((ad 1), aI cy 6 a_letterMaps), ((ad 2), aI cy 7776 a_places), ((ad 3), aI cy 1546 a_maps), ((ad 4), aI cy 1546 a_from), ((ad 5), aI cy 1546 a_lastLetters), ((ad 6), aI cy 1546 a_lengths), ((ad 7), aI cy 32 a_groups), ((ad 8), aI cy 32 a_kindOf), (a2, aI cy 6 p2_arr)] := hD
    refine lv_iconst (v := (0 : Int32)) hx hb dX0_prepare_23 (by decide) ?_
    refine lv_istore (lv' := [(4, .int (0 : Int32)), (3, .int t0), (0, .ref (ad 0)), (1, .int x1), (2, .ref a2)]) hx hb dX0_prepare_24 hl (by decide) rfl (fun ls hl => ?_)
    exact hJ26 t0 (0 : Int32) ((2 : Int32) * x1) a_size a_letterMaps a_places a_maps a_from a_lastLetters a_lengths a_groups a_kindOf   h _ _ _ hP hD hS (lv_sub hl [2, 4, 1, 0] rfl)
  unfold wp_X0_prepare at h
  refine lv_aload_n hx hb dX0_prepare_0 rfl (lv_at hl 0 rfl) ?_
  refine va_get (D := D) (ci := 0) (v := .int a_letterCount) (C := RX0) (T := TX0) (N := 10) hx hb hts iX0 hown hK hP 0 rfl rfl 1 (Nat.le_of_ble_eq_true rfl) (hts _ fl_X0_15) (fun _ h9 => h9) rfl dX0_prepare_1 ?_
  refine lv_iconst (v := (2 : Int32)) hx hb dX0_prepare_4 (by decide) ?_
  refine lv_iload_n hx hb dX0_prepare_5 rfl (lv_at hl 1 rfl) ?_
  refine lv_imul hx hb dX0_prepare_6 ?_
  refine lv_icmp_ne (tgt := 14) hx hb dX0_prepare_7 (by decide) (fun c_24 => ?_) (fun c_24 => ?_)
  · have h := h.1 c_24
    refine lv_iconst (v := (0 : Int32)) hx hb dX0_prepare_14 (by decide) ?_
    exact hJ15 x1 (0 : Int32) a_letterCount a_size a_letterMaps a_places a_maps a_from a_lastLetters a_lengths a_groups a_kindOf   h _ _ _ hP hD hS (lv_sub hl [0, 1, 2] rfl)
  · have h := h.2 c_24
    refine lv_iconst (v := (1 : Int32)) hx hb dX0_prepare_10 (by decide) ?_
    refine lv_goto (tgt := 15) hx hb dX0_prepare_11 (by decide) ?_
    exact hJ15 x1 (1 : Int32) a_letterCount a_size a_letterMaps a_places a_maps a_from a_lastLetters a_lengths a_groups a_kindOf   h _ _ _ hP hD hS (lv_sub hl [0, 1, 2] rfl)
set_option maxHeartbeats 4000000 in
set_option maxRecDepth 100000 in
theorem c_X0_rowOf (l : Launch) (D : va_G) (cy : Nat → ClassId) (ad : Nat → Nat) (sz : Nat) (a_letterCount : Int32) (a_size : Int32) (a_places : Nat → Int32) (x1 : Int32) {Q : Int32 → Prop} (h : wp_X0_rowOf x1 a_places Q) : Met l yX0_rowOf (wsU yX0_rowOf cX0_rowOf 2 (some .int)) { frames := 0, cells := 0, slots := 0, locals := 0 } (va_Pc [.ref (ad 0), .int x1] (zB D vwCl (tyU cy) [((ad 0), .inr (0, [.ref (ad 1), .int a_letterCount, .ref (ad 2), .ref (ad 3), .ref (ad 4), .ref (ad 5), .ref (ad 6), .int a_size, .ref (ad 7), .ref (ad 8)])), ((ad 2), aI cy 7776 a_places)] sz)) ((fun A => va_Qi (fun (r : Int32) (_ : Unit) => Q r ) (zE D vwCl A (fun (_ : Unit) => [((ad 0), .inr (0, [.ref (ad 1), .int a_letterCount, .ref (ad 2), .ref (ad 3), .ref (ad 4), .ref (ad 5), .ref (ad 6), .int a_size, .ref (ad 7), .ref (ad 8)])), ((ad 2), aI cy 7776 a_places)])) A) (va_A [((ad 0), .inr (0, [.ref (ad 1), .int a_letterCount, .ref (ad 2), .ref (ad 3), .ref (ad 4), .ref (ad 5), .ref (ad 6), .int a_size, .ref (ad 7), .ref (ad 8)])), ((ad 2), aI cy 7776 a_places)] sz)) 0 0 (va_A [((ad 0), .inr (0, [.ref (ad 1), .int a_letterCount, .ref (ad 2), .ref (ad 3), .ref (ad 4), .ref (ad 5), .ref (ad 6), .int a_size, .ref (ad 7), .ref (ad 8)])), ((ad 2), aI cy 7776 a_places)] sz) := by
  refine z_ofX (fun A => va_Qi (fun (r : Int32) (_ : Unit) => Q r ) (zE D vwCl A (fun (_ : Unit) => [((ad 0), .inr (0, [.ref (ad 1), .int a_letterCount, .ref (ad 2), .ref (ad 3), .ref (ad 4), .ref (ad 5), .ref (ad 6), .int a_size, .ref (ad 7), .ref (ad 8)])), ((ad 2), aI cy 7776 a_places)])) A) (by decide) (Nat.le_of_ble_eq_true rfl) (fun p e s m below meth c A ls hx hb hr hml hown hts hlocks hK hPW hA hP hD hS hl => ?_)
  have hl : lv_has ls 2 [(0, .ref (ad 0)), (1, .int x1)] := hl
  have hown : s.vm.findClass RX0 = some m.cls := hown
  unfold wp_X0_rowOf at h
  refine lv_aload_n hx hb dX0_rowOf_0 rfl (lv_at hl 0 rfl) ?_
  refine va_get (D := D) (ci := 0) (v := .ref (ad 2)) (C := RX0) (T := TX0) (N := 10) hx hb hts iX0 hown hK hP 0 rfl rfl 2 (Nat.le_of_ble_eq_true rfl) (hts _ fl_X0_19) (fun _ h9 => h9) rfl dX0_rowOf_1 ?_
  refine lv_iload_n hx hb dX0_rowOf_4 rfl (lv_at hl 1 rfl) ?_
  obtain ⟨hi_2, h⟩ := h
  refine va_iald hx hb hK hP 1 0 rfl rfl hi_2 dX0_rowOf_5 ?_
  refine lv_iconst (v := (1 : Int32)) hx hb dX0_rowOf_6 (by decide) ?_
  refine lv_isub hx hb dX0_rowOf_7 ?_
  exact z_iret () hx hb hr hlocks h hP hD hS dX0_rowOf_8
set_option maxHeartbeats 4000000 in
set_option maxRecDepth 100000 in
theorem c_X0_letterAt (l : Launch) (D : va_G) (cy : Nat → ClassId) (ad : Nat → Nat) (sz : Nat) (a_letterCount : Int32) (a_size : Int32) (a_from : Nat → Int32) (a_lastLetters : Nat → Int32) (a_lengths : Nat → Int32) (x1 : Int32) (x2 : Int32) {Q : Int32 → Prop} (h : wp_X0_letterAt x1 x2 a_from a_lastLetters a_lengths Q) : Met l yX0_letterAt (wsU yX0_letterAt cX0_letterAt 5 (some .int)) { frames := 0, cells := 0, slots := 0, locals := 0 } (va_Pc [.ref (ad 0), .int x1, .int x2] (zB D vwCl (tyU cy) [((ad 0), .inr (0, [.ref (ad 1), .int a_letterCount, .ref (ad 2), .ref (ad 3), .ref (ad 4), .ref (ad 5), .ref (ad 6), .int a_size, .ref (ad 7), .ref (ad 8)])), ((ad 4), aI cy 1546 a_from), ((ad 5), aI cy 1546 a_lastLetters), ((ad 6), aI cy 1546 a_lengths)] sz)) ((fun A => va_Qi (fun (r : Int32) (_ : Unit) => Q r ) (zE D vwCl A (fun (_ : Unit) => [((ad 0), .inr (0, [.ref (ad 1), .int a_letterCount, .ref (ad 2), .ref (ad 3), .ref (ad 4), .ref (ad 5), .ref (ad 6), .int a_size, .ref (ad 7), .ref (ad 8)])), ((ad 4), aI cy 1546 a_from), ((ad 5), aI cy 1546 a_lastLetters), ((ad 6), aI cy 1546 a_lengths)])) A) (va_A [((ad 0), .inr (0, [.ref (ad 1), .int a_letterCount, .ref (ad 2), .ref (ad 3), .ref (ad 4), .ref (ad 5), .ref (ad 6), .int a_size, .ref (ad 7), .ref (ad 8)])), ((ad 4), aI cy 1546 a_from), ((ad 5), aI cy 1546 a_lastLetters), ((ad 6), aI cy 1546 a_lengths)] sz)) 0 0 (va_A [((ad 0), .inr (0, [.ref (ad 1), .int a_letterCount, .ref (ad 2), .ref (ad 3), .ref (ad 4), .ref (ad 5), .ref (ad 6), .int a_size, .ref (ad 7), .ref (ad 8)])), ((ad 4), aI cy 1546 a_from), ((ad 5), aI cy 1546 a_lastLetters), ((ad 6), aI cy 1546 a_lengths)] sz) := by
  refine z_ofX (fun A => va_Qi (fun (r : Int32) (_ : Unit) => Q r ) (zE D vwCl A (fun (_ : Unit) => [((ad 0), .inr (0, [.ref (ad 1), .int a_letterCount, .ref (ad 2), .ref (ad 3), .ref (ad 4), .ref (ad 5), .ref (ad 6), .int a_size, .ref (ad 7), .ref (ad 8)])), ((ad 4), aI cy 1546 a_from), ((ad 5), aI cy 1546 a_lastLetters), ((ad 6), aI cy 1546 a_lengths)])) A) (by decide) (Nat.le_of_ble_eq_true rfl) (fun p e s m below meth c A ls hx hb hr hml hown hts hlocks hK hPW hA hP hD hS hl => ?_)
  have hl : lv_has ls 5 [(0, .ref (ad 0)), (1, .int x1), (2, .int x2)] := hl
  have hown : s.vm.findClass RX0 = some m.cls := hown
  generalize hArg : ([.ref (ad 0), .int x1, .int x2] : List Value).toArray = args at hts ⊢
  have hJ41 : ∀ (x3 : Int32), wp_X0_letterAt_41 a_from a_lastLetters a_lengths x3  Q → ∀ (H : Heap) (locs : List Loc) (ls : Array Slot), va_P D vwCl [((ad 0), .inr (0, [.ref (ad 1), .int a_letterCount, .ref (ad 2), .ref (ad 3), .ref (ad 4), .ref (ad 5), .ref (ad 6), .int a_size, .ref (ad 7), .ref (ad 8)])), ((ad 4), aI cy 1546 a_from), ((ad 5), aI cy 1546 a_lastLetters), ((ad 6), aI cy 1546 a_lengths)] H → va_D A [((ad 0), .inr (0, [.ref (ad 1), .int a_letterCount, .ref (ad 2), .ref (ad 3), .ref (ad 4), .ref (ad 5), .ref (ad 6), .int a_size, .ref (ad 7), .ref (ad 8)])), ((ad 4), aI cy 1546 a_from), ((ad 5), aI cy 1546 a_lastLetters), ((ad 6), aI cy 1546 a_lengths)] → va_S A s.heap H locs → lv_has ls 5 [(0, .ref (ad 0)), (3, .int x3)] → W p l e { frames := 0, cells := 0, slots := 0, locals := 0 } s m args below meth c H locs 0 0 (MQ below ((fun A => va_Qi (fun (r : Int32) (_ : Unit) => Q r ) (zE D vwCl A (fun (_ : Unit) => [((ad 0), .inr (0, [.ref (ad 1), .int a_letterCount, .ref (ad 2), .ref (ad 3), .ref (ad 4), .ref (ad 5), .ref (ad 6), .int a_size, .ref (ad 7), .ref (ad 8)])), ((ad 4), aI cy 1546 a_from), ((ad 5), aI cy 1546 a_lastLetters), ((ad 6), aI cy 1546 a_lengths)])) A) A) args s 0 0 A) (F0 m 41 ls []) := by
    intro x3   h H locs ls hP hD hS hl
    unfold wp_X0_letterAt_41 at h
    refine lv_aload_n hx hb dX0_letterAt_41 rfl (lv_at hl 0 rfl) ?_
    refine va_get (D := D) (ci := 0) (v := .ref (ad 5)) (C := RX0) (T := TX0) (N := 10) hx hb hts iX0 hown hK hP 0 rfl rfl 5 (Nat.le_of_ble_eq_true rfl) (hts _ fl_X0_28) (fun _ h9 => h9) rfl dX0_letterAt_42 ?_
    refine lv_iload_n hx hb dX0_letterAt_45 rfl (lv_at hl 1 rfl) ?_
    obtain ⟨hi_10, h⟩ := h
    refine va_iald hx hb hK hP 2 0 rfl rfl hi_10 dX0_letterAt_46 ?_
    exact z_iret () hx hb hr hlocks h hP hD hS dX0_letterAt_47
  have hJ14 : ∀ (x3 : Int32) (x4 : Int32), wp_X0_letterAt_14 a_from a_lastLetters a_lengths  Q x3 x4 → ∀ (H : Heap) (locs : List Loc) (ls : Array Slot), va_P D vwCl [((ad 0), .inr (0, [.ref (ad 1), .int a_letterCount, .ref (ad 2), .ref (ad 3), .ref (ad 4), .ref (ad 5), .ref (ad 6), .int a_size, .ref (ad 7), .ref (ad 8)])), ((ad 4), aI cy 1546 a_from), ((ad 5), aI cy 1546 a_lastLetters), ((ad 6), aI cy 1546 a_lengths)] H → va_D A [((ad 0), .inr (0, [.ref (ad 1), .int a_letterCount, .ref (ad 2), .ref (ad 3), .ref (ad 4), .ref (ad 5), .ref (ad 6), .int a_size, .ref (ad 7), .ref (ad 8)])), ((ad 4), aI cy 1546 a_from), ((ad 5), aI cy 1546 a_lastLetters), ((ad 6), aI cy 1546 a_lengths)] → va_S A s.heap H locs → lv_has ls 5 [(0, .ref (ad 0)), (3, .int x3), (4, .int x4)] → W p l e { frames := 0, cells := 0, slots := 0, locals := 0 } s m args below meth c H locs 0 0 (MQ below ((fun A => va_Qi (fun (r : Int32) (_ : Unit) => Q r ) (zE D vwCl A (fun (_ : Unit) => [((ad 0), .inr (0, [.ref (ad 1), .int a_letterCount, .ref (ad 2), .ref (ad 3), .ref (ad 4), .ref (ad 5), .ref (ad 6), .int a_size, .ref (ad 7), .ref (ad 8)])), ((ad 4), aI cy 1546 a_from), ((ad 5), aI cy 1546 a_lastLetters), ((ad 6), aI cy 1546 a_lengths)])) A) A) args s 0 0 A) (F0 m 14 ls []) := by
    intro x3 x4   h
    obtain ⟨nn, h⟩ := h
    have key : ∀ (nn : Nat) (x3 : Int32) (x4 : Int32), lpW2 (wb_X0_letterAt_14 a_from a_lastLetters a_lengths  Q) nn x3 x4 → ∀ (H : Heap) (locs : List Loc) (ls : Array Slot), va_P D vwCl [((ad 0), .inr (0, [.ref (ad 1), .int a_letterCount, .ref (ad 2), .ref (ad 3), .ref (ad 4), .ref (ad 5), .ref (ad 6), .int a_size, .ref (ad 7), .ref (ad 8)])), ((ad 4), aI cy 1546 a_from), ((ad 5), aI cy 1546 a_lastLetters), ((ad 6), aI cy 1546 a_lengths)] H → va_D A [((ad 0), .inr (0, [.ref (ad 1), .int a_letterCount, .ref (ad 2), .ref (ad 3), .ref (ad 4), .ref (ad 5), .ref (ad 6), .int a_size, .ref (ad 7), .ref (ad 8)])), ((ad 4), aI cy 1546 a_from), ((ad 5), aI cy 1546 a_lastLetters), ((ad 6), aI cy 1546 a_lengths)] → va_S A s.heap H locs → lv_has ls 5 [(0, .ref (ad 0)), (3, .int x3), (4, .int x4)] → W p l e { frames := 0, cells := 0, slots := 0, locals := 0 } s m args below meth c H locs 0 0 (MQ below ((fun A => va_Qi (fun (r : Int32) (_ : Unit) => Q r ) (zE D vwCl A (fun (_ : Unit) => [((ad 0), .inr (0, [.ref (ad 1), .int a_letterCount, .ref (ad 2), .ref (ad 3), .ref (ad 4), .ref (ad 5), .ref (ad 6), .int a_size, .ref (ad 7), .ref (ad 8)])), ((ad 4), aI cy 1546 a_from), ((ad 5), aI cy 1546 a_lastLetters), ((ad 6), aI cy 1546 a_lengths)])) A) A) args s 0 0 A) (F0 m 14 ls []) := by
      intro nn
      induction nn with
      | zero => intro x3 x4 h; exact h.elim
      | succ nn hrc14 =>
        intro x3 x4 h H locs ls hP hD hS hl
        have h : wb_X0_letterAt_14 a_from a_lastLetters a_lengths  Q (lpW2 (wb_X0_letterAt_14 a_from a_lastLetters a_lengths  Q) nn) x3 x4 := h
        unfold wb_X0_letterAt_14 at h
        refine lv_iload hx hb dX0_letterAt_14 (lv_at hl 2 rfl) ?_
        refine lv_if_le (tgt := 41) hx hb dX0_letterAt_16 (by decide) (fun c_11 => ?_) (fun c_11 => ?_)
        · have h := h.1 c_11
          exact hJ41 x3   h _ _ _ hP hD hS (lv_sub hl [0, 1] rfl)
        · have h := h.2 c_11
          refine lv_aload_n hx hb dX0_letterAt_19 rfl (lv_at hl 0 rfl) ?_
          refine va_get (D := D) (ci := 0) (v := .ref (ad 4)) (C := RX0) (T := TX0) (N := 10) hx hb hts iX0 hown hK hP 0 rfl rfl 4 (Nat.le_of_ble_eq_true rfl) (hts _ fl_X0_25) (fun _ h9 => h9) rfl dX0_letterAt_20 ?_
          refine lv_iload_n hx hb dX0_letterAt_23 rfl (lv_at hl 1 rfl) ?_
          obtain ⟨hi_12, h⟩ := h
          refine va_iald hx hb hK hP 1 0 rfl rfl hi_12 dX0_letterAt_24 ?_
          refine lv_if_lt (tgt := 41) hx hb dX0_letterAt_25 (by decide) (fun c_13 => ?_) (fun c_13 => ?_)
          · have h := h.1 c_13
            exact hJ41 x3   h _ _ _ hP hD hS (lv_sub hl [0, 1] rfl)
          · have h := h.2 c_13
            refine lv_aload_n hx hb dX0_letterAt_28 rfl (lv_at hl 0 rfl) ?_
            refine va_get (D := D) (ci := 0) (v := .ref (ad 4)) (C := RX0) (T := TX0) (N := 10) hx hb hts iX0 hown hK hP 0 rfl rfl 4 (Nat.le_of_ble_eq_true rfl) (hts _ fl_X0_25) (fun _ h9 => h9) rfl dX0_letterAt_29 ?_
            refine lv_iload_n hx hb dX0_letterAt_32 rfl (lv_at hl 1 rfl) ?_
            obtain ⟨hi_14, h⟩ := h
            refine va_iald hx hb hK hP 1 0 rfl rfl hi_14 dX0_letterAt_33 ?_
            refine lv_topi (fun x3_15 e_x3_15 => ?_)
            have h := h x3_15 e_x3_15
            refine lv_istore_n (lv' := [(3, .int x3_15), (0, .ref (ad 0)), (4, .int x4)]) hx hb dX0_letterAt_34 rfl hl (by decide) rfl (fun ls hl => ?_)
            obtain ⟨x4_16, e_x4_16⟩ : ∃ y : Int32, y = x4 + (-1 : Int32) := ⟨_, rfl⟩
            refine lv_iinc (v := x4_16) (lv' := [(4, .int x4_16), (3, .int x3_15), (0, .ref (ad 0))]) hx hb dX0_letterAt_35 hl (k := 2) rfl (by rw [e_x4_16]; rfl) (by decide) rfl (fun ls hl => ?_)
            have h := h x4_16 e_x4_16
            refine lv_goto (tgt := 14) hx hb dX0_letterAt_38 (by decide) ?_
            exact hrc14 x3_15 x4_16 h _ _ _ hP hD hS (lv_sub hl [2, 1, 0] rfl)
    exact key nn x3 x4 h
  unfold wp_X0_letterAt at h
  refine lv_iload_n hx hb dX0_letterAt_0 rfl (lv_at hl 1 rfl) ?_
  refine lv_istore_n (lv' := [(3, .int x1), (0, .ref (ad 0)), (1, .int x1), (2, .int x2)]) hx hb dX0_letterAt_1 rfl hl (by decide) rfl (fun ls hl => ?_)
  refine lv_aload_n hx hb dX0_letterAt_2 rfl (lv_at hl 1 rfl) ?_
  refine va_get (D := D) (ci := 0) (v := .ref (ad 6)) (C := RX0) (T := TX0) (N := 10) hx hb hts iX0 hown hK hP 0 rfl rfl 6 (Nat.le_of_ble_eq_true rfl) (hts _ fl_X0_31) (fun _ h9 => h9) rfl dX0_letterAt_3 ?_
  refine lv_iload_n hx hb dX0_letterAt_6 rfl (lv_at hl 2 rfl) ?_
  obtain ⟨hi_17, h⟩ := h
  refine va_iald hx hb hK hP 3 0 rfl rfl hi_17 dX0_letterAt_7 ?_
  refine lv_iconst (v := (1 : Int32)) hx hb dX0_letterAt_8 (by decide) ?_
  refine lv_isub hx hb dX0_letterAt_9 ?_
  refine lv_iload_n hx hb dX0_letterAt_10 rfl (lv_at hl 3 rfl) ?_
  refine lv_isub hx hb dX0_letterAt_11 ?_
  refine lv_topi (fun x4_18 e_x4_18 => ?_)
  have h := h x4_18 e_x4_18
  refine lv_istore (lv' := [(4, .int x4_18), (3, .int x1), (0, .ref (ad 0)), (1, .int x1), (2, .int x2)]) hx hb dX0_letterAt_12 hl (by decide) rfl (fun ls hl => ?_)
  exact hJ14 x1 x4_18   h _ _ _ hP hD hS (lv_sub hl [2, 1, 0] rfl)
set_option maxHeartbeats 4000000 in
set_option maxRecDepth 100000 in
theorem c_X0_idempotents (l : Launch) (D : va_G) (cy : Nat → ClassId) (ad : Nat → Nat) (sz : Nat) (a_letterCount : Int32) (a_size : Int32) (a_groups : Nat → Int32) {Q : Int32 → Prop} (h : wp_X0_idempotents a_groups Q) : Met l yX0_idempotents (wsU yX0_idempotents cX0_idempotents 3 (some .int)) { frames := 0, cells := 0, slots := 0, locals := 0 } (va_Pc [.ref (ad 0)] (zB D vwCl (tyU cy) [((ad 0), .inr (0, [.ref (ad 1), .int a_letterCount, .ref (ad 2), .ref (ad 3), .ref (ad 4), .ref (ad 5), .ref (ad 6), .int a_size, .ref (ad 7), .ref (ad 8)])), ((ad 7), aI cy 32 a_groups)] sz)) ((fun A => va_Qi (fun (r : Int32) (_ : Unit) => Q r ) (zE D vwCl A (fun (_ : Unit) => [((ad 0), .inr (0, [.ref (ad 1), .int a_letterCount, .ref (ad 2), .ref (ad 3), .ref (ad 4), .ref (ad 5), .ref (ad 6), .int a_size, .ref (ad 7), .ref (ad 8)])), ((ad 7), aI cy 32 a_groups)])) A) (va_A [((ad 0), .inr (0, [.ref (ad 1), .int a_letterCount, .ref (ad 2), .ref (ad 3), .ref (ad 4), .ref (ad 5), .ref (ad 6), .int a_size, .ref (ad 7), .ref (ad 8)])), ((ad 7), aI cy 32 a_groups)] sz)) 0 0 (va_A [((ad 0), .inr (0, [.ref (ad 1), .int a_letterCount, .ref (ad 2), .ref (ad 3), .ref (ad 4), .ref (ad 5), .ref (ad 6), .int a_size, .ref (ad 7), .ref (ad 8)])), ((ad 7), aI cy 32 a_groups)] sz) := by
  refine z_ofX (fun A => va_Qi (fun (r : Int32) (_ : Unit) => Q r ) (zE D vwCl A (fun (_ : Unit) => [((ad 0), .inr (0, [.ref (ad 1), .int a_letterCount, .ref (ad 2), .ref (ad 3), .ref (ad 4), .ref (ad 5), .ref (ad 6), .int a_size, .ref (ad 7), .ref (ad 8)])), ((ad 7), aI cy 32 a_groups)])) A) (by decide) (Nat.le_of_ble_eq_true rfl) (fun p e s m below meth c A ls hx hb hr hml hown hts hlocks hK hPW hA hP hD hS hl => ?_)
  have hl : lv_has ls 3 [(0, .ref (ad 0))] := hl
  have hown : s.vm.findClass RX0 = some m.cls := hown
  generalize hArg : ([.ref (ad 0)] : List Value).toArray = args at hts ⊢
  have hJ22 : ∀ (x1 : Int32) (x2 : Int32) (rc4 : Int32 → Int32 → Prop) (hrc4 : ∀ (x1 : Int32) (x2 : Int32), rc4 x1 x2 → ∀ (H : Heap) (locs : List Loc) (ls : Array Slot), va_P D vwCl [((ad 0), .inr (0, [.ref (ad 1), .int a_letterCount, .ref (ad 2), .ref (ad 3), .ref (ad 4), .ref (ad 5), .ref (ad 6), .int a_size, .ref (ad 7), .ref (ad 8)])), ((ad 7), aI cy 32 a_groups)] H → va_D A [((ad 0), .inr (0, [.ref (ad 1), .int a_letterCount, .ref (ad 2), .ref (ad 3), .ref (ad 4), .ref (ad 5), .ref (ad 6), .int a_size, .ref (ad 7), .ref (ad 8)])), ((ad 7), aI cy 32 a_groups)] → va_S A s.heap H locs → lv_has ls 3 [(0, .ref (ad 0)), (1, .int x1), (2, .int x2)] → W p l e { frames := 0, cells := 0, slots := 0, locals := 0 } s m args below meth c H locs 0 0 (MQ below ((fun A => va_Qi (fun (r : Int32) (_ : Unit) => Q r ) (zE D vwCl A (fun (_ : Unit) => [((ad 0), .inr (0, [.ref (ad 1), .int a_letterCount, .ref (ad 2), .ref (ad 3), .ref (ad 4), .ref (ad 5), .ref (ad 6), .int a_size, .ref (ad 7), .ref (ad 8)])), ((ad 7), aI cy 32 a_groups)])) A) A) args s 0 0 A) (F0 m 4 ls [])), wp_X0_idempotents_22 a_groups x1 x2 rc4 Q → ∀ (H : Heap) (locs : List Loc) (ls : Array Slot), va_P D vwCl [((ad 0), .inr (0, [.ref (ad 1), .int a_letterCount, .ref (ad 2), .ref (ad 3), .ref (ad 4), .ref (ad 5), .ref (ad 6), .int a_size, .ref (ad 7), .ref (ad 8)])), ((ad 7), aI cy 32 a_groups)] H → va_D A [((ad 0), .inr (0, [.ref (ad 1), .int a_letterCount, .ref (ad 2), .ref (ad 3), .ref (ad 4), .ref (ad 5), .ref (ad 6), .int a_size, .ref (ad 7), .ref (ad 8)])), ((ad 7), aI cy 32 a_groups)] → va_S A s.heap H locs → lv_has ls 3 [(0, .ref (ad 0)), (1, .int x1), (2, .int x2)] → W p l e { frames := 0, cells := 0, slots := 0, locals := 0 } s m args below meth c H locs 0 0 (MQ below ((fun A => va_Qi (fun (r : Int32) (_ : Unit) => Q r ) (zE D vwCl A (fun (_ : Unit) => [((ad 0), .inr (0, [.ref (ad 1), .int a_letterCount, .ref (ad 2), .ref (ad 3), .ref (ad 4), .ref (ad 5), .ref (ad 6), .int a_size, .ref (ad 7), .ref (ad 8)])), ((ad 7), aI cy 32 a_groups)])) A) A) args s 0 0 A) (F0 m 22 ls []) := by
    intro x1 x2 rc4 hrc4  h H locs ls hP hD hS hl
    unfold wp_X0_idempotents_22 at h
    obtain ⟨x2_6, e_x2_6⟩ : ∃ y : Int32, y = x2 + (1 : Int32) := ⟨_, rfl⟩
    refine lv_iinc (v := x2_6) (lv' := [(2, .int x2_6), (0, .ref (ad 0)), (1, .int x1)]) hx hb dX0_idempotents_22 hl (k := 2) rfl (by rw [e_x2_6]; rfl) (by decide) rfl (fun ls hl => ?_)
    have h := h x2_6 e_x2_6
    refine lv_goto (tgt := 4) hx hb dX0_idempotents_25 (by decide) ?_
    exact hrc4 x1 x2_6 h _ _ _ hP hD hS (lv_sub hl [1, 2, 0] rfl)
  have hJ4 : ∀ (x1 : Int32) (x2 : Int32), wp_X0_idempotents_4 a_groups  Q x1 x2 → ∀ (H : Heap) (locs : List Loc) (ls : Array Slot), va_P D vwCl [((ad 0), .inr (0, [.ref (ad 1), .int a_letterCount, .ref (ad 2), .ref (ad 3), .ref (ad 4), .ref (ad 5), .ref (ad 6), .int a_size, .ref (ad 7), .ref (ad 8)])), ((ad 7), aI cy 32 a_groups)] H → va_D A [((ad 0), .inr (0, [.ref (ad 1), .int a_letterCount, .ref (ad 2), .ref (ad 3), .ref (ad 4), .ref (ad 5), .ref (ad 6), .int a_size, .ref (ad 7), .ref (ad 8)])), ((ad 7), aI cy 32 a_groups)] → va_S A s.heap H locs → lv_has ls 3 [(0, .ref (ad 0)), (1, .int x1), (2, .int x2)] → W p l e { frames := 0, cells := 0, slots := 0, locals := 0 } s m args below meth c H locs 0 0 (MQ below ((fun A => va_Qi (fun (r : Int32) (_ : Unit) => Q r ) (zE D vwCl A (fun (_ : Unit) => [((ad 0), .inr (0, [.ref (ad 1), .int a_letterCount, .ref (ad 2), .ref (ad 3), .ref (ad 4), .ref (ad 5), .ref (ad 6), .int a_size, .ref (ad 7), .ref (ad 8)])), ((ad 7), aI cy 32 a_groups)])) A) A) args s 0 0 A) (F0 m 4 ls []) := by
    intro x1 x2   h
    obtain ⟨nn, h⟩ := h
    have key : ∀ (nn : Nat) (x1 : Int32) (x2 : Int32), lpW2 (wb_X0_idempotents_4 a_groups  Q) nn x1 x2 → ∀ (H : Heap) (locs : List Loc) (ls : Array Slot), va_P D vwCl [((ad 0), .inr (0, [.ref (ad 1), .int a_letterCount, .ref (ad 2), .ref (ad 3), .ref (ad 4), .ref (ad 5), .ref (ad 6), .int a_size, .ref (ad 7), .ref (ad 8)])), ((ad 7), aI cy 32 a_groups)] H → va_D A [((ad 0), .inr (0, [.ref (ad 1), .int a_letterCount, .ref (ad 2), .ref (ad 3), .ref (ad 4), .ref (ad 5), .ref (ad 6), .int a_size, .ref (ad 7), .ref (ad 8)])), ((ad 7), aI cy 32 a_groups)] → va_S A s.heap H locs → lv_has ls 3 [(0, .ref (ad 0)), (1, .int x1), (2, .int x2)] → W p l e { frames := 0, cells := 0, slots := 0, locals := 0 } s m args below meth c H locs 0 0 (MQ below ((fun A => va_Qi (fun (r : Int32) (_ : Unit) => Q r ) (zE D vwCl A (fun (_ : Unit) => [((ad 0), .inr (0, [.ref (ad 1), .int a_letterCount, .ref (ad 2), .ref (ad 3), .ref (ad 4), .ref (ad 5), .ref (ad 6), .int a_size, .ref (ad 7), .ref (ad 8)])), ((ad 7), aI cy 32 a_groups)])) A) A) args s 0 0 A) (F0 m 4 ls []) := by
      intro nn
      induction nn with
      | zero => intro x1 x2 h; exact h.elim
      | succ nn hrc4 =>
        intro x1 x2 h H locs ls hP hD hS hl
        have h : wb_X0_idempotents_4 a_groups  Q (lpW2 (wb_X0_idempotents_4 a_groups  Q) nn) x1 x2 := h
        unfold wb_X0_idempotents_4 at h
        refine lv_iload_n hx hb dX0_idempotents_4 rfl (lv_at hl 2 rfl) ?_
        refine lv_bipush (v := (32 : Int32)) hx hb dX0_idempotents_5 (by decide) ?_
        refine lv_icmp_ge (tgt := 28) hx hb dX0_idempotents_7 (by decide) (fun c_7 => ?_) (fun c_7 => ?_)
        · have h := h.1 c_7
          refine lv_iload_n hx hb dX0_idempotents_28 rfl (lv_at hl 1 rfl) ?_
          exact z_iret () hx hb hr hlocks h hP hD hS dX0_idempotents_29
        · have h := h.2 c_7
          refine lv_aload_n hx hb dX0_idempotents_10 rfl (lv_at hl 0 rfl) ?_
          refine va_get (D := D) (ci := 0) (v := .ref (ad 7)) (C := RX0) (T := TX0) (N := 10) hx hb hts iX0 hown hK hP 0 rfl rfl 8 (Nat.le_of_ble_eq_true rfl) (hts _ fl_X0_37) (fun _ h9 => h9) rfl dX0_idempotents_11 ?_
          refine lv_iload_n hx hb dX0_idempotents_14 rfl (lv_at hl 2 rfl) ?_
          obtain ⟨hi_8, h⟩ := h
          refine va_iald hx hb hK hP 1 0 rfl rfl hi_8 dX0_idempotents_15 ?_
          refine lv_if_le (tgt := 22) hx hb dX0_idempotents_16 (by decide) (fun c_9 => ?_) (fun c_9 => ?_)
          · have h := h.1 c_9
            exact hJ22 x1 x2 _ hrc4  h _ _ _ hP hD hS (lv_sub hl [0, 1, 2] rfl)
          · have h := h.2 c_9
            obtain ⟨x1_10, e_x1_10⟩ : ∃ y : Int32, y = x1 + (1 : Int32) := ⟨_, rfl⟩
            refine lv_iinc (v := x1_10) (lv' := [(1, .int x1_10), (0, .ref (ad 0)), (2, .int x2)]) hx hb dX0_idempotents_19 hl (k := 1) rfl (by rw [e_x1_10]; rfl) (by decide) rfl (fun ls hl => ?_)
            have h := h x1_10 e_x1_10
            exact hJ22 x1_10 x2 _ hrc4  h _ _ _ hP hD hS (lv_sub hl [1, 0, 2] rfl)
    exact key nn x1 x2 h
  unfold wp_X0_idempotents at h
  refine lv_iconst (v := (0 : Int32)) hx hb dX0_idempotents_0 (by decide) ?_
  refine lv_istore_n (lv' := [(1, .int (0 : Int32)), (0, .ref (ad 0))]) hx hb dX0_idempotents_1 rfl hl (by decide) rfl (fun ls hl => ?_)
  refine lv_iconst (v := (0 : Int32)) hx hb dX0_idempotents_2 (by decide) ?_
  refine lv_istore_n (lv' := [(2, .int (0 : Int32)), (1, .int (0 : Int32)), (0, .ref (ad 0))]) hx hb dX0_idempotents_3 rfl hl (by decide) rfl (fun ls hl => ?_)
  exact hJ4 (0 : Int32) (0 : Int32)   h _ _ _ hP hD hS (lv_sub hl [2, 1, 0] rfl)
set_option maxHeartbeats 4000000 in
set_option maxRecDepth 100000 in
theorem c_X0_kinds (l : Launch) (D : va_G) (cy : Nat → ClassId) (ad : Nat → Nat) (sz : Nat) (a_letterCount : Int32) (a_size : Int32) (a_groups : Nat → Int32) (a_kindOf : Nat → Int32) {Q : Int32 → Prop} (h : wp_X0_kinds a_groups a_kindOf Q) : Met l yX0_kinds (wsU yX0_kinds cX0_kinds 3 (some .int)) { frames := 0, cells := 0, slots := 0, locals := 0 } (va_Pc [.ref (ad 0)] (zB D vwCl (tyU cy) [((ad 0), .inr (0, [.ref (ad 1), .int a_letterCount, .ref (ad 2), .ref (ad 3), .ref (ad 4), .ref (ad 5), .ref (ad 6), .int a_size, .ref (ad 7), .ref (ad 8)])), ((ad 7), aI cy 32 a_groups), ((ad 8), aI cy 32 a_kindOf)] sz)) ((fun A => va_Qi (fun (r : Int32) (_ : Unit) => Q r ) (zE D vwCl A (fun (_ : Unit) => [((ad 0), .inr (0, [.ref (ad 1), .int a_letterCount, .ref (ad 2), .ref (ad 3), .ref (ad 4), .ref (ad 5), .ref (ad 6), .int a_size, .ref (ad 7), .ref (ad 8)])), ((ad 7), aI cy 32 a_groups), ((ad 8), aI cy 32 a_kindOf)])) A) (va_A [((ad 0), .inr (0, [.ref (ad 1), .int a_letterCount, .ref (ad 2), .ref (ad 3), .ref (ad 4), .ref (ad 5), .ref (ad 6), .int a_size, .ref (ad 7), .ref (ad 8)])), ((ad 7), aI cy 32 a_groups), ((ad 8), aI cy 32 a_kindOf)] sz)) 0 0 (va_A [((ad 0), .inr (0, [.ref (ad 1), .int a_letterCount, .ref (ad 2), .ref (ad 3), .ref (ad 4), .ref (ad 5), .ref (ad 6), .int a_size, .ref (ad 7), .ref (ad 8)])), ((ad 7), aI cy 32 a_groups), ((ad 8), aI cy 32 a_kindOf)] sz) := by
  refine z_ofX (fun A => va_Qi (fun (r : Int32) (_ : Unit) => Q r ) (zE D vwCl A (fun (_ : Unit) => [((ad 0), .inr (0, [.ref (ad 1), .int a_letterCount, .ref (ad 2), .ref (ad 3), .ref (ad 4), .ref (ad 5), .ref (ad 6), .int a_size, .ref (ad 7), .ref (ad 8)])), ((ad 7), aI cy 32 a_groups), ((ad 8), aI cy 32 a_kindOf)])) A) (by decide) (Nat.le_of_ble_eq_true rfl) (fun p e s m below meth c A ls hx hb hr hml hown hts hlocks hK hPW hA hP hD hS hl => ?_)
  have hl : lv_has ls 3 [(0, .ref (ad 0))] := hl
  have hown : s.vm.findClass RX0 = some m.cls := hown
  generalize hArg : ([.ref (ad 0)] : List Value).toArray = args at hts ⊢
  have hJ32 : ∀ (x1 : Int32) (x2 : Int32) (rc4 : Int32 → Int32 → Prop) (hrc4 : ∀ (x1 : Int32) (x2 : Int32), rc4 x1 x2 → ∀ (H : Heap) (locs : List Loc) (ls : Array Slot), va_P D vwCl [((ad 0), .inr (0, [.ref (ad 1), .int a_letterCount, .ref (ad 2), .ref (ad 3), .ref (ad 4), .ref (ad 5), .ref (ad 6), .int a_size, .ref (ad 7), .ref (ad 8)])), ((ad 7), aI cy 32 a_groups), ((ad 8), aI cy 32 a_kindOf)] H → va_D A [((ad 0), .inr (0, [.ref (ad 1), .int a_letterCount, .ref (ad 2), .ref (ad 3), .ref (ad 4), .ref (ad 5), .ref (ad 6), .int a_size, .ref (ad 7), .ref (ad 8)])), ((ad 7), aI cy 32 a_groups), ((ad 8), aI cy 32 a_kindOf)] → va_S A s.heap H locs → lv_has ls 3 [(0, .ref (ad 0)), (1, .int x1), (2, .int x2)] → W p l e { frames := 0, cells := 0, slots := 0, locals := 0 } s m args below meth c H locs 0 0 (MQ below ((fun A => va_Qi (fun (r : Int32) (_ : Unit) => Q r ) (zE D vwCl A (fun (_ : Unit) => [((ad 0), .inr (0, [.ref (ad 1), .int a_letterCount, .ref (ad 2), .ref (ad 3), .ref (ad 4), .ref (ad 5), .ref (ad 6), .int a_size, .ref (ad 7), .ref (ad 8)])), ((ad 7), aI cy 32 a_groups), ((ad 8), aI cy 32 a_kindOf)])) A) A) args s 0 0 A) (F0 m 4 ls [])), wp_X0_kinds_32 a_groups a_kindOf x1 x2 rc4 Q → ∀ (H : Heap) (locs : List Loc) (ls : Array Slot), va_P D vwCl [((ad 0), .inr (0, [.ref (ad 1), .int a_letterCount, .ref (ad 2), .ref (ad 3), .ref (ad 4), .ref (ad 5), .ref (ad 6), .int a_size, .ref (ad 7), .ref (ad 8)])), ((ad 7), aI cy 32 a_groups), ((ad 8), aI cy 32 a_kindOf)] H → va_D A [((ad 0), .inr (0, [.ref (ad 1), .int a_letterCount, .ref (ad 2), .ref (ad 3), .ref (ad 4), .ref (ad 5), .ref (ad 6), .int a_size, .ref (ad 7), .ref (ad 8)])), ((ad 7), aI cy 32 a_groups), ((ad 8), aI cy 32 a_kindOf)] → va_S A s.heap H locs → lv_has ls 3 [(0, .ref (ad 0)), (1, .int x1), (2, .int x2)] → W p l e { frames := 0, cells := 0, slots := 0, locals := 0 } s m args below meth c H locs 0 0 (MQ below ((fun A => va_Qi (fun (r : Int32) (_ : Unit) => Q r ) (zE D vwCl A (fun (_ : Unit) => [((ad 0), .inr (0, [.ref (ad 1), .int a_letterCount, .ref (ad 2), .ref (ad 3), .ref (ad 4), .ref (ad 5), .ref (ad 6), .int a_size, .ref (ad 7), .ref (ad 8)])), ((ad 7), aI cy 32 a_groups), ((ad 8), aI cy 32 a_kindOf)])) A) A) args s 0 0 A) (F0 m 32 ls []) := by
    intro x1 x2 rc4 hrc4  h H locs ls hP hD hS hl
    unfold wp_X0_kinds_32 at h
    obtain ⟨x2_8, e_x2_8⟩ : ∃ y : Int32, y = x2 + (1 : Int32) := ⟨_, rfl⟩
    refine lv_iinc (v := x2_8) (lv' := [(2, .int x2_8), (0, .ref (ad 0)), (1, .int x1)]) hx hb dX0_kinds_32 hl (k := 2) rfl (by rw [e_x2_8]; rfl) (by decide) rfl (fun ls hl => ?_)
    have h := h x2_8 e_x2_8
    refine lv_goto (tgt := 4) hx hb dX0_kinds_35 (by decide) ?_
    exact hrc4 x1 x2_8 h _ _ _ hP hD hS (lv_sub hl [1, 2, 0] rfl)
  have hJ4 : ∀ (x1 : Int32) (x2 : Int32), wp_X0_kinds_4 a_groups a_kindOf  Q x1 x2 → ∀ (H : Heap) (locs : List Loc) (ls : Array Slot), va_P D vwCl [((ad 0), .inr (0, [.ref (ad 1), .int a_letterCount, .ref (ad 2), .ref (ad 3), .ref (ad 4), .ref (ad 5), .ref (ad 6), .int a_size, .ref (ad 7), .ref (ad 8)])), ((ad 7), aI cy 32 a_groups), ((ad 8), aI cy 32 a_kindOf)] H → va_D A [((ad 0), .inr (0, [.ref (ad 1), .int a_letterCount, .ref (ad 2), .ref (ad 3), .ref (ad 4), .ref (ad 5), .ref (ad 6), .int a_size, .ref (ad 7), .ref (ad 8)])), ((ad 7), aI cy 32 a_groups), ((ad 8), aI cy 32 a_kindOf)] → va_S A s.heap H locs → lv_has ls 3 [(0, .ref (ad 0)), (1, .int x1), (2, .int x2)] → W p l e { frames := 0, cells := 0, slots := 0, locals := 0 } s m args below meth c H locs 0 0 (MQ below ((fun A => va_Qi (fun (r : Int32) (_ : Unit) => Q r ) (zE D vwCl A (fun (_ : Unit) => [((ad 0), .inr (0, [.ref (ad 1), .int a_letterCount, .ref (ad 2), .ref (ad 3), .ref (ad 4), .ref (ad 5), .ref (ad 6), .int a_size, .ref (ad 7), .ref (ad 8)])), ((ad 7), aI cy 32 a_groups), ((ad 8), aI cy 32 a_kindOf)])) A) A) args s 0 0 A) (F0 m 4 ls []) := by
    intro x1 x2   h
    obtain ⟨nn, h⟩ := h
    have key : ∀ (nn : Nat) (x1 : Int32) (x2 : Int32), lpW2 (wb_X0_kinds_4 a_groups a_kindOf  Q) nn x1 x2 → ∀ (H : Heap) (locs : List Loc) (ls : Array Slot), va_P D vwCl [((ad 0), .inr (0, [.ref (ad 1), .int a_letterCount, .ref (ad 2), .ref (ad 3), .ref (ad 4), .ref (ad 5), .ref (ad 6), .int a_size, .ref (ad 7), .ref (ad 8)])), ((ad 7), aI cy 32 a_groups), ((ad 8), aI cy 32 a_kindOf)] H → va_D A [((ad 0), .inr (0, [.ref (ad 1), .int a_letterCount, .ref (ad 2), .ref (ad 3), .ref (ad 4), .ref (ad 5), .ref (ad 6), .int a_size, .ref (ad 7), .ref (ad 8)])), ((ad 7), aI cy 32 a_groups), ((ad 8), aI cy 32 a_kindOf)] → va_S A s.heap H locs → lv_has ls 3 [(0, .ref (ad 0)), (1, .int x1), (2, .int x2)] → W p l e { frames := 0, cells := 0, slots := 0, locals := 0 } s m args below meth c H locs 0 0 (MQ below ((fun A => va_Qi (fun (r : Int32) (_ : Unit) => Q r ) (zE D vwCl A (fun (_ : Unit) => [((ad 0), .inr (0, [.ref (ad 1), .int a_letterCount, .ref (ad 2), .ref (ad 3), .ref (ad 4), .ref (ad 5), .ref (ad 6), .int a_size, .ref (ad 7), .ref (ad 8)])), ((ad 7), aI cy 32 a_groups), ((ad 8), aI cy 32 a_kindOf)])) A) A) args s 0 0 A) (F0 m 4 ls []) := by
      intro nn
      induction nn with
      | zero => intro x1 x2 h; exact h.elim
      | succ nn hrc4 =>
        intro x1 x2 h H locs ls hP hD hS hl
        have h : wb_X0_kinds_4 a_groups a_kindOf  Q (lpW2 (wb_X0_kinds_4 a_groups a_kindOf  Q) nn) x1 x2 := h
        unfold wb_X0_kinds_4 at h
        refine lv_iload_n hx hb dX0_kinds_4 rfl (lv_at hl 2 rfl) ?_
        refine lv_bipush (v := (32 : Int32)) hx hb dX0_kinds_5 (by decide) ?_
        refine lv_icmp_ge (tgt := 38) hx hb dX0_kinds_7 (by decide) (fun c_9 => ?_) (fun c_9 => ?_)
        · have h := h.1 c_9
          refine lv_iload_n hx hb dX0_kinds_38 rfl (lv_at hl 1 rfl) ?_
          exact z_iret () hx hb hr hlocks h hP hD hS dX0_kinds_39
        · have h := h.2 c_9
          refine lv_aload_n hx hb dX0_kinds_10 rfl (lv_at hl 0 rfl) ?_
          refine va_get (D := D) (ci := 0) (v := .ref (ad 7)) (C := RX0) (T := TX0) (N := 10) hx hb hts iX0 hown hK hP 0 rfl rfl 8 (Nat.le_of_ble_eq_true rfl) (hts _ fl_X0_37) (fun _ h9 => h9) rfl dX0_kinds_11 ?_
          refine lv_iload_n hx hb dX0_kinds_14 rfl (lv_at hl 2 rfl) ?_
          obtain ⟨hi_10, h⟩ := h
          refine va_iald hx hb hK hP 1 0 rfl rfl hi_10 dX0_kinds_15 ?_
          refine lv_if_le (tgt := 32) hx hb dX0_kinds_16 (by decide) (fun c_11 => ?_) (fun c_11 => ?_)
          · have h := h.1 c_11
            exact hJ32 x1 x2 _ hrc4  h _ _ _ hP hD hS (lv_sub hl [0, 1, 2] rfl)
          · have h := h.2 c_11
            refine lv_aload_n hx hb dX0_kinds_19 rfl (lv_at hl 0 rfl) ?_
            refine va_get (D := D) (ci := 0) (v := .ref (ad 8)) (C := RX0) (T := TX0) (N := 10) hx hb hts iX0 hown hK hP 0 rfl rfl 9 (Nat.le_of_ble_eq_true rfl) (hts _ fl_X0_40) (fun _ h9 => h9) rfl dX0_kinds_20 ?_
            refine lv_iload_n hx hb dX0_kinds_23 rfl (lv_at hl 2 rfl) ?_
            obtain ⟨hi_12, h⟩ := h
            refine va_iald hx hb hK hP 2 0 rfl rfl hi_12 dX0_kinds_24 ?_
            refine lv_iload_n hx hb dX0_kinds_25 rfl (lv_at hl 2 rfl) ?_
            refine lv_icmp_ne (tgt := 32) hx hb dX0_kinds_26 (by decide) (fun c_13 => ?_) (fun c_13 => ?_)
            · have h := h.1 c_13
              exact hJ32 x1 x2 _ hrc4  h _ _ _ hP hD hS (lv_sub hl [0, 1, 2] rfl)
            · have h := h.2 c_13
              obtain ⟨x1_14, e_x1_14⟩ : ∃ y : Int32, y = x1 + (1 : Int32) := ⟨_, rfl⟩
              refine lv_iinc (v := x1_14) (lv' := [(1, .int x1_14), (0, .ref (ad 0)), (2, .int x2)]) hx hb dX0_kinds_29 hl (k := 1) rfl (by rw [e_x1_14]; rfl) (by decide) rfl (fun ls hl => ?_)
              have h := h x1_14 e_x1_14
              exact hJ32 x1_14 x2 _ hrc4  h _ _ _ hP hD hS (lv_sub hl [1, 0, 2] rfl)
    exact key nn x1 x2 h
  unfold wp_X0_kinds at h
  refine lv_iconst (v := (0 : Int32)) hx hb dX0_kinds_0 (by decide) ?_
  refine lv_istore_n (lv' := [(1, .int (0 : Int32)), (0, .ref (ad 0))]) hx hb dX0_kinds_1 rfl hl (by decide) rfl (fun ls hl => ?_)
  refine lv_iconst (v := (0 : Int32)) hx hb dX0_kinds_2 (by decide) ?_
  refine lv_istore_n (lv' := [(2, .int (0 : Int32)), (1, .int (0 : Int32)), (0, .ref (ad 0))]) hx hb dX0_kinds_3 rfl hl (by decide) rfl (fun ls hl => ?_)
  exact hJ4 (0 : Int32) (0 : Int32)   h _ _ _ hP hD hS (lv_sub hl [2, 1, 0] rfl)
set_option maxHeartbeats 4000000 in
set_option maxRecDepth 100000 in
theorem c_X0_greatestGroup (l : Launch) (D : va_G) (cy : Nat → ClassId) (ad : Nat → Nat) (sz : Nat) (a_letterCount : Int32) (a_size : Int32) (a_groups : Nat → Int32) {Q : Int32 → Prop} (h : wp_X0_greatestGroup a_groups Q) : Met l yX0_greatestGroup (wsU yX0_greatestGroup cX0_greatestGroup 3 (some .int)) { frames := 1, cells := 0, slots := 0, locals := 32 } (va_Pc [.ref (ad 0)] (zB D vwCl (tyU cy) [((ad 0), .inr (0, [.ref (ad 1), .int a_letterCount, .ref (ad 2), .ref (ad 3), .ref (ad 4), .ref (ad 5), .ref (ad 6), .int a_size, .ref (ad 7), .ref (ad 8)])), ((ad 7), aI cy 32 a_groups)] sz)) ((fun A => va_Qi (fun (r : Int32) (_ : Unit) => Q r ) (zE D vwCl A (fun (_ : Unit) => [((ad 0), .inr (0, [.ref (ad 1), .int a_letterCount, .ref (ad 2), .ref (ad 3), .ref (ad 4), .ref (ad 5), .ref (ad 6), .int a_size, .ref (ad 7), .ref (ad 8)])), ((ad 7), aI cy 32 a_groups)])) A) (va_A [((ad 0), .inr (0, [.ref (ad 1), .int a_letterCount, .ref (ad 2), .ref (ad 3), .ref (ad 4), .ref (ad 5), .ref (ad 6), .int a_size, .ref (ad 7), .ref (ad 8)])), ((ad 7), aI cy 32 a_groups)] sz)) 0 0 (va_A [((ad 0), .inr (0, [.ref (ad 1), .int a_letterCount, .ref (ad 2), .ref (ad 3), .ref (ad 4), .ref (ad 5), .ref (ad 6), .int a_size, .ref (ad 7), .ref (ad 8)])), ((ad 7), aI cy 32 a_groups)] sz) := by
  refine z_ofX (fun A => va_Qi (fun (r : Int32) (_ : Unit) => Q r ) (zE D vwCl A (fun (_ : Unit) => [((ad 0), .inr (0, [.ref (ad 1), .int a_letterCount, .ref (ad 2), .ref (ad 3), .ref (ad 4), .ref (ad 5), .ref (ad 6), .int a_size, .ref (ad 7), .ref (ad 8)])), ((ad 7), aI cy 32 a_groups)])) A) (by decide) (Nat.le_of_ble_eq_true rfl) (fun p e s m below meth c A ls hx hb hr hml hown hts hlocks hK hPW hA hP hD hS hl => ?_)
  have hl : lv_has ls 3 [(0, .ref (ad 0))] := hl
  have hown : s.vm.findClass RX0 = some m.cls := hown
  generalize hArg : ([.ref (ad 0)] : List Value).toArray = args at hts ⊢
  have hJ4 : ∀ (x1 : Int32) (x2 : Int32), wp_X0_greatestGroup_4 a_groups  Q x1 x2 → ∀ (H : Heap) (locs : List Loc) (ls : Array Slot), va_P D vwCl [((ad 0), .inr (0, [.ref (ad 1), .int a_letterCount, .ref (ad 2), .ref (ad 3), .ref (ad 4), .ref (ad 5), .ref (ad 6), .int a_size, .ref (ad 7), .ref (ad 8)])), ((ad 7), aI cy 32 a_groups)] H → va_D A [((ad 0), .inr (0, [.ref (ad 1), .int a_letterCount, .ref (ad 2), .ref (ad 3), .ref (ad 4), .ref (ad 5), .ref (ad 6), .int a_size, .ref (ad 7), .ref (ad 8)])), ((ad 7), aI cy 32 a_groups)] → va_S A s.heap H locs → lv_has ls 3 [(0, .ref (ad 0)), (1, .int x1), (2, .int x2)] → W p l e { frames := 1, cells := 0, slots := 0, locals := 32 } s m args below meth c H locs 0 0 (MQ below ((fun A => va_Qi (fun (r : Int32) (_ : Unit) => Q r ) (zE D vwCl A (fun (_ : Unit) => [((ad 0), .inr (0, [.ref (ad 1), .int a_letterCount, .ref (ad 2), .ref (ad 3), .ref (ad 4), .ref (ad 5), .ref (ad 6), .int a_size, .ref (ad 7), .ref (ad 8)])), ((ad 7), aI cy 32 a_groups)])) A) A) args s 0 0 A) (F0 m 4 ls []) := by
    intro x1 x2   h
    obtain ⟨nn, h⟩ := h
    have key : ∀ (nn : Nat) (x1 : Int32) (x2 : Int32), lpW2 (wb_X0_greatestGroup_4 a_groups  Q) nn x1 x2 → ∀ (H : Heap) (locs : List Loc) (ls : Array Slot), va_P D vwCl [((ad 0), .inr (0, [.ref (ad 1), .int a_letterCount, .ref (ad 2), .ref (ad 3), .ref (ad 4), .ref (ad 5), .ref (ad 6), .int a_size, .ref (ad 7), .ref (ad 8)])), ((ad 7), aI cy 32 a_groups)] H → va_D A [((ad 0), .inr (0, [.ref (ad 1), .int a_letterCount, .ref (ad 2), .ref (ad 3), .ref (ad 4), .ref (ad 5), .ref (ad 6), .int a_size, .ref (ad 7), .ref (ad 8)])), ((ad 7), aI cy 32 a_groups)] → va_S A s.heap H locs → lv_has ls 3 [(0, .ref (ad 0)), (1, .int x1), (2, .int x2)] → W p l e { frames := 1, cells := 0, slots := 0, locals := 32 } s m args below meth c H locs 0 0 (MQ below ((fun A => va_Qi (fun (r : Int32) (_ : Unit) => Q r ) (zE D vwCl A (fun (_ : Unit) => [((ad 0), .inr (0, [.ref (ad 1), .int a_letterCount, .ref (ad 2), .ref (ad 3), .ref (ad 4), .ref (ad 5), .ref (ad 6), .int a_size, .ref (ad 7), .ref (ad 8)])), ((ad 7), aI cy 32 a_groups)])) A) A) args s 0 0 A) (F0 m 4 ls []) := by
      intro nn
      induction nn with
      | zero => intro x1 x2 h; exact h.elim
      | succ nn hrc4 =>
        intro x1 x2 h H locs ls hP hD hS hl
        have h : wb_X0_greatestGroup_4 a_groups  Q (lpW2 (wb_X0_greatestGroup_4 a_groups  Q) nn) x1 x2 := h
        unfold wb_X0_greatestGroup_4 at h
        refine lv_iload_n hx hb dX0_greatestGroup_4 rfl (lv_at hl 2 rfl) ?_
        refine lv_bipush (v := (32 : Int32)) hx hb dX0_greatestGroup_5 (by decide) ?_
        refine lv_icmp_ge (tgt := 27) hx hb dX0_greatestGroup_7 (by decide) (fun c_5 => ?_) (fun c_5 => ?_)
        · have h := h.1 c_5
          refine lv_iload_n hx hb dX0_greatestGroup_27 rfl (lv_at hl 1 rfl) ?_
          exact z_iret () hx hb hr hlocks h hP hD hS dX0_greatestGroup_28
        · have h := h.2 c_5
          refine lv_iload_n hx hb dX0_greatestGroup_10 rfl (lv_at hl 1 rfl) ?_
          refine lv_aload_n hx hb dX0_greatestGroup_11 rfl (lv_at hl 0 rfl) ?_
          refine va_get (D := D) (ci := 0) (v := .ref (ad 7)) (C := RX0) (T := TX0) (N := 10) hx hb hts iX0 hown hK hP 0 rfl rfl 8 (Nat.le_of_ble_eq_true rfl) (hts _ fl_X0_37) (fun _ h9 => h9) rfl dX0_greatestGroup_12 ?_
          refine lv_iload_n hx hb dX0_greatestGroup_15 rfl (lv_at hl 2 rfl) ?_
          obtain ⟨hi_6, h⟩ := h
          refine va_iald hx hb hK hP 1 0 rfl rfl hi_6 dX0_greatestGroup_16 ?_
          refine va_mmax hx hb (hml.trans hl.1.symm) hown (hts _ mm_X0_77) (hts _ ms_max) (hts _ in_J9) (hts _ mc_max) (Nat.le_of_ble_eq_true rfl) (Nat.le_of_ble_eq_true rfl) (Nat.zero_le _) (Nat.zero_le _) dX0_greatestGroup_17 ?_
          refine lv_topi (fun x1_7 e_x1_7 => ?_)
          have h := h x1_7 e_x1_7
          refine lv_istore_n (lv' := [(1, .int x1_7), (0, .ref (ad 0)), (2, .int x2)]) hx hb dX0_greatestGroup_20 rfl hl (by decide) rfl (fun ls hl => ?_)
          obtain ⟨x2_8, e_x2_8⟩ : ∃ y : Int32, y = x2 + (1 : Int32) := ⟨_, rfl⟩
          refine lv_iinc (v := x2_8) (lv' := [(2, .int x2_8), (1, .int x1_7), (0, .ref (ad 0))]) hx hb dX0_greatestGroup_21 hl (k := 2) rfl (by rw [e_x2_8]; rfl) (by decide) rfl (fun ls hl => ?_)
          have h := h x2_8 e_x2_8
          refine lv_goto (tgt := 4) hx hb dX0_greatestGroup_24 (by decide) ?_
          exact hrc4 x1_7 x2_8 h _ _ _ hP hD hS (lv_sub hl [2, 1, 0] rfl)
    exact key nn x1 x2 h
  unfold wp_X0_greatestGroup at h
  refine lv_iconst (v := (0 : Int32)) hx hb dX0_greatestGroup_0 (by decide) ?_
  refine lv_istore_n (lv' := [(1, .int (0 : Int32)), (0, .ref (ad 0))]) hx hb dX0_greatestGroup_1 rfl hl (by decide) rfl (fun ls hl => ?_)
  refine lv_iconst (v := (0 : Int32)) hx hb dX0_greatestGroup_2 (by decide) ?_
  refine lv_istore_n (lv' := [(2, .int (0 : Int32)), (1, .int (0 : Int32)), (0, .ref (ad 0))]) hx hb dX0_greatestGroup_3 rfl hl (by decide) rfl (fun ls hl => ?_)
  exact hJ4 (0 : Int32) (0 : Int32)   h _ _ _ hP hD hS (lv_sub hl [2, 1, 0] rfl)
set_option maxHeartbeats 4000000 in
set_option maxRecDepth 100000 in
theorem c_X0_hasIdempotentWithin (l : Launch) (D : va_G) (cy : Nat → ClassId) (ad : Nat → Nat) (sz : Nat) (a_letterCount : Int32) (a_size : Int32) (a_groups : Nat → Int32) (x1 : Int32) {Q : Int32 → Prop} (h : wp_X0_hasIdempotentWithin x1 a_groups Q) : Met l yX0_hasIdempotentWithin (wsU yX0_hasIdempotentWithin cX0_hasIdempotentWithin 3 (some .boolean)) { frames := 0, cells := 0, slots := 0, locals := 0 } (va_Pc [.ref (ad 0), .int x1] (zB D vwCl (tyU cy) [((ad 0), .inr (0, [.ref (ad 1), .int a_letterCount, .ref (ad 2), .ref (ad 3), .ref (ad 4), .ref (ad 5), .ref (ad 6), .int a_size, .ref (ad 7), .ref (ad 8)])), ((ad 7), aI cy 32 a_groups)] sz)) ((fun A => va_Qi (fun (r : Int32) (_ : Unit) => Q r ) (zE D vwCl A (fun (_ : Unit) => [((ad 0), .inr (0, [.ref (ad 1), .int a_letterCount, .ref (ad 2), .ref (ad 3), .ref (ad 4), .ref (ad 5), .ref (ad 6), .int a_size, .ref (ad 7), .ref (ad 8)])), ((ad 7), aI cy 32 a_groups)])) A) (va_A [((ad 0), .inr (0, [.ref (ad 1), .int a_letterCount, .ref (ad 2), .ref (ad 3), .ref (ad 4), .ref (ad 5), .ref (ad 6), .int a_size, .ref (ad 7), .ref (ad 8)])), ((ad 7), aI cy 32 a_groups)] sz)) 0 0 (va_A [((ad 0), .inr (0, [.ref (ad 1), .int a_letterCount, .ref (ad 2), .ref (ad 3), .ref (ad 4), .ref (ad 5), .ref (ad 6), .int a_size, .ref (ad 7), .ref (ad 8)])), ((ad 7), aI cy 32 a_groups)] sz) := by
  refine z_ofX (fun A => va_Qi (fun (r : Int32) (_ : Unit) => Q r ) (zE D vwCl A (fun (_ : Unit) => [((ad 0), .inr (0, [.ref (ad 1), .int a_letterCount, .ref (ad 2), .ref (ad 3), .ref (ad 4), .ref (ad 5), .ref (ad 6), .int a_size, .ref (ad 7), .ref (ad 8)])), ((ad 7), aI cy 32 a_groups)])) A) (by decide) (Nat.le_of_ble_eq_true rfl) (fun p e s m below meth c A ls hx hb hr hml hown hts hlocks hK hPW hA hP hD hS hl => ?_)
  have hl : lv_has ls 3 [(0, .ref (ad 0)), (1, .int x1)] := hl
  have hown : s.vm.findClass RX0 = some m.cls := hown
  generalize hArg : ([.ref (ad 0), .int x1] : List Value).toArray = args at hts ⊢
  have hJ27 : ∀ (x1 : Int32) (x2 : Int32) (rc2 : Int32 → Prop) (hrc2 : ∀ (x2 : Int32), rc2 x2 → ∀ (H : Heap) (locs : List Loc) (ls : Array Slot), va_P D vwCl [((ad 0), .inr (0, [.ref (ad 1), .int a_letterCount, .ref (ad 2), .ref (ad 3), .ref (ad 4), .ref (ad 5), .ref (ad 6), .int a_size, .ref (ad 7), .ref (ad 8)])), ((ad 7), aI cy 32 a_groups)] H → va_D A [((ad 0), .inr (0, [.ref (ad 1), .int a_letterCount, .ref (ad 2), .ref (ad 3), .ref (ad 4), .ref (ad 5), .ref (ad 6), .int a_size, .ref (ad 7), .ref (ad 8)])), ((ad 7), aI cy 32 a_groups)] → va_S A s.heap H locs → lv_has ls 3 [(0, .ref (ad 0)), (1, .int x1), (2, .int x2)] → W p l e { frames := 0, cells := 0, slots := 0, locals := 0 } s m args below meth c H locs 0 0 (MQ below ((fun A => va_Qi (fun (r : Int32) (_ : Unit) => Q r ) (zE D vwCl A (fun (_ : Unit) => [((ad 0), .inr (0, [.ref (ad 1), .int a_letterCount, .ref (ad 2), .ref (ad 3), .ref (ad 4), .ref (ad 5), .ref (ad 6), .int a_size, .ref (ad 7), .ref (ad 8)])), ((ad 7), aI cy 32 a_groups)])) A) A) args s 0 0 A) (F0 m 2 ls [])), wp_X0_hasIdempotentWithin_27 a_groups x1 x2 rc2 Q → ∀ (H : Heap) (locs : List Loc) (ls : Array Slot), va_P D vwCl [((ad 0), .inr (0, [.ref (ad 1), .int a_letterCount, .ref (ad 2), .ref (ad 3), .ref (ad 4), .ref (ad 5), .ref (ad 6), .int a_size, .ref (ad 7), .ref (ad 8)])), ((ad 7), aI cy 32 a_groups)] H → va_D A [((ad 0), .inr (0, [.ref (ad 1), .int a_letterCount, .ref (ad 2), .ref (ad 3), .ref (ad 4), .ref (ad 5), .ref (ad 6), .int a_size, .ref (ad 7), .ref (ad 8)])), ((ad 7), aI cy 32 a_groups)] → va_S A s.heap H locs → lv_has ls 3 [(0, .ref (ad 0)), (1, .int x1), (2, .int x2)] → W p l e { frames := 0, cells := 0, slots := 0, locals := 0 } s m args below meth c H locs 0 0 (MQ below ((fun A => va_Qi (fun (r : Int32) (_ : Unit) => Q r ) (zE D vwCl A (fun (_ : Unit) => [((ad 0), .inr (0, [.ref (ad 1), .int a_letterCount, .ref (ad 2), .ref (ad 3), .ref (ad 4), .ref (ad 5), .ref (ad 6), .int a_size, .ref (ad 7), .ref (ad 8)])), ((ad 7), aI cy 32 a_groups)])) A) A) args s 0 0 A) (F0 m 27 ls []) := by
    intro x1 x2 rc2 hrc2  h H locs ls hP hD hS hl
    unfold wp_X0_hasIdempotentWithin_27 at h
    obtain ⟨x2_6, e_x2_6⟩ : ∃ y : Int32, y = x2 + (1 : Int32) := ⟨_, rfl⟩
    refine lv_iinc (v := x2_6) (lv' := [(2, .int x2_6), (0, .ref (ad 0)), (1, .int x1)]) hx hb dX0_hasIdempotentWithin_27 hl (k := 2) rfl (by rw [e_x2_6]; rfl) (by decide) rfl (fun ls hl => ?_)
    have h := h x2_6 e_x2_6
    refine lv_goto (tgt := 2) hx hb dX0_hasIdempotentWithin_30 (by decide) ?_
    exact hrc2 x2_6 h _ _ _ hP hD hS (lv_sub hl [1, 2, 0] rfl)
  have hJ2 : ∀ (x1 : Int32) (x2 : Int32), wp_X0_hasIdempotentWithin_2 a_groups x1  Q x2 → ∀ (H : Heap) (locs : List Loc) (ls : Array Slot), va_P D vwCl [((ad 0), .inr (0, [.ref (ad 1), .int a_letterCount, .ref (ad 2), .ref (ad 3), .ref (ad 4), .ref (ad 5), .ref (ad 6), .int a_size, .ref (ad 7), .ref (ad 8)])), ((ad 7), aI cy 32 a_groups)] H → va_D A [((ad 0), .inr (0, [.ref (ad 1), .int a_letterCount, .ref (ad 2), .ref (ad 3), .ref (ad 4), .ref (ad 5), .ref (ad 6), .int a_size, .ref (ad 7), .ref (ad 8)])), ((ad 7), aI cy 32 a_groups)] → va_S A s.heap H locs → lv_has ls 3 [(0, .ref (ad 0)), (1, .int x1), (2, .int x2)] → W p l e { frames := 0, cells := 0, slots := 0, locals := 0 } s m args below meth c H locs 0 0 (MQ below ((fun A => va_Qi (fun (r : Int32) (_ : Unit) => Q r ) (zE D vwCl A (fun (_ : Unit) => [((ad 0), .inr (0, [.ref (ad 1), .int a_letterCount, .ref (ad 2), .ref (ad 3), .ref (ad 4), .ref (ad 5), .ref (ad 6), .int a_size, .ref (ad 7), .ref (ad 8)])), ((ad 7), aI cy 32 a_groups)])) A) A) args s 0 0 A) (F0 m 2 ls []) := by
    intro x1 x2   h
    obtain ⟨nn, h⟩ := h
    have key : ∀ (nn : Nat) (x2 : Int32), lpW1 (wb_X0_hasIdempotentWithin_2 a_groups x1  Q) nn x2 → ∀ (H : Heap) (locs : List Loc) (ls : Array Slot), va_P D vwCl [((ad 0), .inr (0, [.ref (ad 1), .int a_letterCount, .ref (ad 2), .ref (ad 3), .ref (ad 4), .ref (ad 5), .ref (ad 6), .int a_size, .ref (ad 7), .ref (ad 8)])), ((ad 7), aI cy 32 a_groups)] H → va_D A [((ad 0), .inr (0, [.ref (ad 1), .int a_letterCount, .ref (ad 2), .ref (ad 3), .ref (ad 4), .ref (ad 5), .ref (ad 6), .int a_size, .ref (ad 7), .ref (ad 8)])), ((ad 7), aI cy 32 a_groups)] → va_S A s.heap H locs → lv_has ls 3 [(0, .ref (ad 0)), (1, .int x1), (2, .int x2)] → W p l e { frames := 0, cells := 0, slots := 0, locals := 0 } s m args below meth c H locs 0 0 (MQ below ((fun A => va_Qi (fun (r : Int32) (_ : Unit) => Q r ) (zE D vwCl A (fun (_ : Unit) => [((ad 0), .inr (0, [.ref (ad 1), .int a_letterCount, .ref (ad 2), .ref (ad 3), .ref (ad 4), .ref (ad 5), .ref (ad 6), .int a_size, .ref (ad 7), .ref (ad 8)])), ((ad 7), aI cy 32 a_groups)])) A) A) args s 0 0 A) (F0 m 2 ls []) := by
      intro nn
      induction nn with
      | zero => intro x2 h; exact h.elim
      | succ nn hrc2 =>
        intro x2 h H locs ls hP hD hS hl
        have h : wb_X0_hasIdempotentWithin_2 a_groups x1  Q (lpW1 (wb_X0_hasIdempotentWithin_2 a_groups x1  Q) nn) x2 := h
        unfold wb_X0_hasIdempotentWithin_2 at h
        refine lv_iload_n hx hb dX0_hasIdempotentWithin_2 rfl (lv_at hl 2 rfl) ?_
        refine lv_bipush (v := (32 : Int32)) hx hb dX0_hasIdempotentWithin_3 (by decide) ?_
        refine lv_icmp_ge (tgt := 33) hx hb dX0_hasIdempotentWithin_5 (by decide) (fun c_7 => ?_) (fun c_7 => ?_)
        · have h := h.1 c_7
          refine lv_iconst (v := (0 : Int32)) hx hb dX0_hasIdempotentWithin_33 (by decide) ?_
          exact z_zret () hx hb hr hlocks rfl h hP hD hS dX0_hasIdempotentWithin_34
        · have h := h.2 c_7
          refine lv_aload_n hx hb dX0_hasIdempotentWithin_8 rfl (lv_at hl 0 rfl) ?_
          refine va_get (D := D) (ci := 0) (v := .ref (ad 7)) (C := RX0) (T := TX0) (N := 10) hx hb hts iX0 hown hK hP 0 rfl rfl 8 (Nat.le_of_ble_eq_true rfl) (hts _ fl_X0_37) (fun _ h9 => h9) rfl dX0_hasIdempotentWithin_9 ?_
          refine lv_iload_n hx hb dX0_hasIdempotentWithin_12 rfl (lv_at hl 2 rfl) ?_
          obtain ⟨hi_8, h⟩ := h
          refine va_iald hx hb hK hP 1 0 rfl rfl hi_8 dX0_hasIdempotentWithin_13 ?_
          refine lv_if_le (tgt := 27) hx hb dX0_hasIdempotentWithin_14 (by decide) (fun c_9 => ?_) (fun c_9 => ?_)
          · have h := h.1 c_9
            exact hJ27 x1 x2 _ hrc2  h _ _ _ hP hD hS (lv_sub hl [0, 1, 2] rfl)
          · have h := h.2 c_9
            refine lv_iload_n hx hb dX0_hasIdempotentWithin_17 rfl (lv_at hl 2 rfl) ?_
            refine lv_iload_n hx hb dX0_hasIdempotentWithin_18 rfl (lv_at hl 1 rfl) ?_
            refine lv_iconst (v := (-1 : Int32)) hx hb dX0_hasIdempotentWithin_19 (by decide) ?_
            refine lv_ixor hx hb dX0_hasIdempotentWithin_20 ?_
            refine lv_iand hx hb dX0_hasIdempotentWithin_21 ?_
            refine lv_if_ne (tgt := 27) hx hb dX0_hasIdempotentWithin_22 (by decide) (fun c_10 => ?_) (fun c_10 => ?_)
            · have h := h.1 c_10
              exact hJ27 x1 x2 _ hrc2  h _ _ _ hP hD hS (lv_sub hl [0, 1, 2] rfl)
            · have h := h.2 c_10
              refine lv_iconst (v := (1 : Int32)) hx hb dX0_hasIdempotentWithin_25 (by decide) ?_
              exact z_zret () hx hb hr hlocks rfl h hP hD hS dX0_hasIdempotentWithin_26
    exact key nn x2 h
  unfold wp_X0_hasIdempotentWithin at h
  refine lv_iconst (v := (0 : Int32)) hx hb dX0_hasIdempotentWithin_0 (by decide) ?_
  refine lv_istore_n (lv' := [(2, .int (0 : Int32)), (0, .ref (ad 0)), (1, .int x1)]) hx hb dX0_hasIdempotentWithin_1 rfl hl (by decide) rfl (fun ls hl => ?_)
  exact hJ2 x1 (0 : Int32)   h _ _ _ hP hD hS (lv_sub hl [1, 2, 0] rfl)
set_option maxHeartbeats 4000000 in
set_option maxRecDepth 100000 in
theorem c_X0_isClean (l : Launch) (D : va_G) (cy : Nat → ClassId) (ad : Nat → Nat) (sz : Nat) (a_letterCount : Int32) (a_size : Int32) (a_maps : Nat → Int32) (a_groups : Nat → Int32) {Q : Int32 → Prop} (h : wp_X0_isClean a_size a_maps a_groups Q) : Met l yX0_isClean (wsU yX0_isClean cX0_isClean 2 (some .boolean)) { frames := 3, cells := 0, slots := 0, locals := 63 } (va_Pc [.ref (ad 0)] (zB D vwCl (tyU cy) [((ad 0), .inr (0, [.ref (ad 1), .int a_letterCount, .ref (ad 2), .ref (ad 3), .ref (ad 4), .ref (ad 5), .ref (ad 6), .int a_size, .ref (ad 7), .ref (ad 8)])), ((ad 3), aI cy 1546 a_maps), ((ad 7), aI cy 32 a_groups)] sz)) ((fun A => va_Qi (fun (r : Int32) (_ : Unit) => Q r ) (zE D vwCl A (fun (_ : Unit) => [((ad 0), .inr (0, [.ref (ad 1), .int a_letterCount, .ref (ad 2), .ref (ad 3), .ref (ad 4), .ref (ad 5), .ref (ad 6), .int a_size, .ref (ad 7), .ref (ad 8)])), ((ad 3), aI cy 1546 a_maps), ((ad 7), aI cy 32 a_groups)])) A) (va_A [((ad 0), .inr (0, [.ref (ad 1), .int a_letterCount, .ref (ad 2), .ref (ad 3), .ref (ad 4), .ref (ad 5), .ref (ad 6), .int a_size, .ref (ad 7), .ref (ad 8)])), ((ad 3), aI cy 1546 a_maps), ((ad 7), aI cy 32 a_groups)] sz)) 0 0 (va_A [((ad 0), .inr (0, [.ref (ad 1), .int a_letterCount, .ref (ad 2), .ref (ad 3), .ref (ad 4), .ref (ad 5), .ref (ad 6), .int a_size, .ref (ad 7), .ref (ad 8)])), ((ad 3), aI cy 1546 a_maps), ((ad 7), aI cy 32 a_groups)] sz) := by
  refine z_ofX (fun A => va_Qi (fun (r : Int32) (_ : Unit) => Q r ) (zE D vwCl A (fun (_ : Unit) => [((ad 0), .inr (0, [.ref (ad 1), .int a_letterCount, .ref (ad 2), .ref (ad 3), .ref (ad 4), .ref (ad 5), .ref (ad 6), .int a_size, .ref (ad 7), .ref (ad 8)])), ((ad 3), aI cy 1546 a_maps), ((ad 7), aI cy 32 a_groups)])) A) (by decide) (Nat.le_of_ble_eq_true rfl) (fun p e s m below meth c A ls hx hb hr hml hown hts hlocks hK hPW hA hP hD hS hl => ?_)
  have hl : lv_has ls 2 [(0, .ref (ad 0))] := hl
  have hown : s.vm.findClass RX0 = some m.cls := hown
  generalize hArg : ([.ref (ad 0)] : List Value).toArray = args at hts ⊢
  have hJ40 : ∀ (x1 : Int32) (rc2 : Int32 → Prop) (hrc2 : ∀ (x1 : Int32), rc2 x1 → ∀ (H : Heap) (locs : List Loc) (ls : Array Slot), va_P D vwCl [((ad 0), .inr (0, [.ref (ad 1), .int a_letterCount, .ref (ad 2), .ref (ad 3), .ref (ad 4), .ref (ad 5), .ref (ad 6), .int a_size, .ref (ad 7), .ref (ad 8)])), ((ad 3), aI cy 1546 a_maps), ((ad 7), aI cy 32 a_groups)] H → va_D A [((ad 0), .inr (0, [.ref (ad 1), .int a_letterCount, .ref (ad 2), .ref (ad 3), .ref (ad 4), .ref (ad 5), .ref (ad 6), .int a_size, .ref (ad 7), .ref (ad 8)])), ((ad 3), aI cy 1546 a_maps), ((ad 7), aI cy 32 a_groups)] → va_S A s.heap H locs → lv_has ls 2 [(0, .ref (ad 0)), (1, .int x1)] → W p l e { frames := 3, cells := 0, slots := 0, locals := 63 } s m args below meth c H locs 0 0 (MQ below ((fun A => va_Qi (fun (r : Int32) (_ : Unit) => Q r ) (zE D vwCl A (fun (_ : Unit) => [((ad 0), .inr (0, [.ref (ad 1), .int a_letterCount, .ref (ad 2), .ref (ad 3), .ref (ad 4), .ref (ad 5), .ref (ad 6), .int a_size, .ref (ad 7), .ref (ad 8)])), ((ad 3), aI cy 1546 a_maps), ((ad 7), aI cy 32 a_groups)])) A) A) args s 0 0 A) (F0 m 2 ls [])), wp_X0_isClean_40 a_size a_maps a_groups x1 rc2 Q → ∀ (H : Heap) (locs : List Loc) (ls : Array Slot), va_P D vwCl [((ad 0), .inr (0, [.ref (ad 1), .int a_letterCount, .ref (ad 2), .ref (ad 3), .ref (ad 4), .ref (ad 5), .ref (ad 6), .int a_size, .ref (ad 7), .ref (ad 8)])), ((ad 3), aI cy 1546 a_maps), ((ad 7), aI cy 32 a_groups)] H → va_D A [((ad 0), .inr (0, [.ref (ad 1), .int a_letterCount, .ref (ad 2), .ref (ad 3), .ref (ad 4), .ref (ad 5), .ref (ad 6), .int a_size, .ref (ad 7), .ref (ad 8)])), ((ad 3), aI cy 1546 a_maps), ((ad 7), aI cy 32 a_groups)] → va_S A s.heap H locs → lv_has ls 2 [(0, .ref (ad 0)), (1, .int x1)] → W p l e { frames := 3, cells := 0, slots := 0, locals := 63 } s m args below meth c H locs 0 0 (MQ below ((fun A => va_Qi (fun (r : Int32) (_ : Unit) => Q r ) (zE D vwCl A (fun (_ : Unit) => [((ad 0), .inr (0, [.ref (ad 1), .int a_letterCount, .ref (ad 2), .ref (ad 3), .ref (ad 4), .ref (ad 5), .ref (ad 6), .int a_size, .ref (ad 7), .ref (ad 8)])), ((ad 3), aI cy 1546 a_maps), ((ad 7), aI cy 32 a_groups)])) A) A) args s 0 0 A) (F0 m 40 ls []) := by
    intro x1 rc2 hrc2  h H locs ls hP hD hS hl
    unfold wp_X0_isClean_40 at h
    obtain ⟨x1_10, e_x1_10⟩ : ∃ y : Int32, y = x1 + (1 : Int32) := ⟨_, rfl⟩
    refine lv_iinc (v := x1_10) (lv' := [(1, .int x1_10), (0, .ref (ad 0))]) hx hb dX0_isClean_40 hl (k := 1) rfl (by rw [e_x1_10]; rfl) (by decide) rfl (fun ls hl => ?_)
    have h := h x1_10 e_x1_10
    refine lv_goto (tgt := 2) hx hb dX0_isClean_43 (by decide) ?_
    exact hrc2 x1_10 h _ _ _ hP hD hS (lv_sub hl [1, 0] rfl)
  have hJ2 : ∀ (x1 : Int32), wp_X0_isClean_2 a_size a_maps a_groups  Q x1 → ∀ (H : Heap) (locs : List Loc) (ls : Array Slot), va_P D vwCl [((ad 0), .inr (0, [.ref (ad 1), .int a_letterCount, .ref (ad 2), .ref (ad 3), .ref (ad 4), .ref (ad 5), .ref (ad 6), .int a_size, .ref (ad 7), .ref (ad 8)])), ((ad 3), aI cy 1546 a_maps), ((ad 7), aI cy 32 a_groups)] H → va_D A [((ad 0), .inr (0, [.ref (ad 1), .int a_letterCount, .ref (ad 2), .ref (ad 3), .ref (ad 4), .ref (ad 5), .ref (ad 6), .int a_size, .ref (ad 7), .ref (ad 8)])), ((ad 3), aI cy 1546 a_maps), ((ad 7), aI cy 32 a_groups)] → va_S A s.heap H locs → lv_has ls 2 [(0, .ref (ad 0)), (1, .int x1)] → W p l e { frames := 3, cells := 0, slots := 0, locals := 63 } s m args below meth c H locs 0 0 (MQ below ((fun A => va_Qi (fun (r : Int32) (_ : Unit) => Q r ) (zE D vwCl A (fun (_ : Unit) => [((ad 0), .inr (0, [.ref (ad 1), .int a_letterCount, .ref (ad 2), .ref (ad 3), .ref (ad 4), .ref (ad 5), .ref (ad 6), .int a_size, .ref (ad 7), .ref (ad 8)])), ((ad 3), aI cy 1546 a_maps), ((ad 7), aI cy 32 a_groups)])) A) A) args s 0 0 A) (F0 m 2 ls []) := by
    intro x1   h
    obtain ⟨nn, h⟩ := h
    have key : ∀ (nn : Nat) (x1 : Int32), lpW1 (wb_X0_isClean_2 a_size a_maps a_groups  Q) nn x1 → ∀ (H : Heap) (locs : List Loc) (ls : Array Slot), va_P D vwCl [((ad 0), .inr (0, [.ref (ad 1), .int a_letterCount, .ref (ad 2), .ref (ad 3), .ref (ad 4), .ref (ad 5), .ref (ad 6), .int a_size, .ref (ad 7), .ref (ad 8)])), ((ad 3), aI cy 1546 a_maps), ((ad 7), aI cy 32 a_groups)] H → va_D A [((ad 0), .inr (0, [.ref (ad 1), .int a_letterCount, .ref (ad 2), .ref (ad 3), .ref (ad 4), .ref (ad 5), .ref (ad 6), .int a_size, .ref (ad 7), .ref (ad 8)])), ((ad 3), aI cy 1546 a_maps), ((ad 7), aI cy 32 a_groups)] → va_S A s.heap H locs → lv_has ls 2 [(0, .ref (ad 0)), (1, .int x1)] → W p l e { frames := 3, cells := 0, slots := 0, locals := 63 } s m args below meth c H locs 0 0 (MQ below ((fun A => va_Qi (fun (r : Int32) (_ : Unit) => Q r ) (zE D vwCl A (fun (_ : Unit) => [((ad 0), .inr (0, [.ref (ad 1), .int a_letterCount, .ref (ad 2), .ref (ad 3), .ref (ad 4), .ref (ad 5), .ref (ad 6), .int a_size, .ref (ad 7), .ref (ad 8)])), ((ad 3), aI cy 1546 a_maps), ((ad 7), aI cy 32 a_groups)])) A) A) args s 0 0 A) (F0 m 2 ls []) := by
      intro nn
      induction nn with
      | zero => intro x1 h; exact h.elim
      | succ nn hrc2 =>
        intro x1 h H locs ls hP hD hS hl
        have h : wb_X0_isClean_2 a_size a_maps a_groups  Q (lpW1 (wb_X0_isClean_2 a_size a_maps a_groups  Q) nn) x1 := h
        unfold wb_X0_isClean_2 at h
        refine lv_iload_n hx hb dX0_isClean_2 rfl (lv_at hl 1 rfl) ?_
        refine lv_aload_n hx hb dX0_isClean_3 rfl (lv_at hl 0 rfl) ?_
        refine va_get (D := D) (ci := 0) (v := .int a_size) (C := RX0) (T := TX0) (N := 10) hx hb hts iX0 hown hK hP 0 rfl rfl 7 (Nat.le_of_ble_eq_true rfl) (hts _ fl_X0_34) (fun _ h9 => h9) rfl dX0_isClean_4 ?_
        refine lv_icmp_ge (tgt := 46) hx hb dX0_isClean_7 (by decide) (fun c_11 => ?_) (fun c_11 => ?_)
        · have h := h.1 c_11
          refine lv_iconst (v := (1 : Int32)) hx hb dX0_isClean_46 (by decide) ?_
          exact z_zret () hx hb hr hlocks rfl h hP hD hS dX0_isClean_47
        · have h := h.2 c_11
          refine lv_aload_n hx hb dX0_isClean_10 rfl (lv_at hl 0 rfl) ?_
          refine va_get (D := D) (ci := 0) (v := .ref (ad 3)) (C := RX0) (T := TX0) (N := 10) hx hb hts iX0 hown hK hP 0 rfl rfl 3 (Nat.le_of_ble_eq_true rfl) (hts _ fl_X0_22) (fun _ h9 => h9) rfl dX0_isClean_11 ?_
          refine lv_iload_n hx hb dX0_isClean_14 rfl (lv_at hl 1 rfl) ?_
          obtain ⟨hi_12, h⟩ := h
          refine va_iald hx hb hK hP 1 0 rfl rfl hi_12 dX0_isClean_15 ?_
          refine zc_S0 (As := [.int (a_maps x1.toNatClampNeg)]) (rest := []) hx hb hml hown hts hK hPW hA hl.1 hP hS ⟨Nat.zero_le _, Nat.zero_le _⟩ (c_X1_isIdempotent l D cy (sz := _) (x0 := (a_maps x1.toNatClampNeg)) (h := h)) k_X0_82 ⟨rfl, rfl, (Nat.le_of_ble_eq_true rfl), (Nat.le_of_ble_eq_true rfl)⟩ rfl rfl (Nat.le_of_ble_eq_true rfl) dX0_isClean_16 (fun r_13 H locs h hP hS => ?_)
          refine lv_if_ne (tgt := 40) hx hb dX0_isClean_19 (by decide) (fun c_14 => ?_) (fun c_14 => ?_)
          · have h := h.1 c_14
            exact hJ40 x1 _ hrc2  h _ _ _ hP hD hS (lv_sub hl [0, 1] rfl)
          · have h := h.2 c_14
            refine lv_aload_n hx hb dX0_isClean_22 rfl (lv_at hl 0 rfl) ?_
            refine lv_aload_n hx hb dX0_isClean_23 rfl (lv_at hl 0 rfl) ?_
            refine va_get (D := D) (ci := 0) (v := .ref (ad 3)) (C := RX0) (T := TX0) (N := 10) hx hb hts iX0 hown hK hP 0 rfl rfl 3 (Nat.le_of_ble_eq_true rfl) (hts _ fl_X0_22) (fun _ h9 => h9) rfl dX0_isClean_24 ?_
            refine lv_iload_n hx hb dX0_isClean_27 rfl (lv_at hl 1 rfl) ?_
            obtain ⟨hi_15, h⟩ := h
            refine va_iald hx hb hK hP 1 0 rfl rfl hi_15 dX0_isClean_28 ?_
            refine zc_S0 (As := [.int (a_maps x1.toNatClampNeg)]) (rest := [.ref (ad 0)]) hx hb hml hown hts hK hPW hA hl.1 hP hS ⟨Nat.zero_le _, Nat.zero_le _⟩ (c_X1_fixedPoints l D cy (sz := _) (x0 := (a_maps x1.toNatClampNeg)) (h := h)) k_X0_86 ⟨rfl, rfl, (Nat.le_of_ble_eq_true rfl), (Nat.le_of_ble_eq_true rfl)⟩ rfl rfl (Nat.le_of_ble_eq_true rfl) dX0_isClean_29 (fun r_16 H locs h hP hS => ?_)
            refine zc_Vi (As := [.int r_16]) (rest := []) (wc := [((ad 0), .inr (0, [.ref (ad 1), .int a_letterCount, .ref (ad 2), .ref (ad 3), .ref (ad 4), .ref (ad 5), .ref (ad 6), .int a_size, .ref (ad 7), .ref (ad 8)])), ((ad 7), aI cy 32 a_groups)]) (wr := [((ad 3), aI cy 1546 a_maps)]) hx hb hml hown hts hK hPW hA hl.1 hP hD hS ⟨Nat.zero_le _, Nat.zero_le _⟩ [0, 2] [1] rfl rfl (by decide) (c_X0_hasIdempotentWithin l D cy (sz := _) (x1 := r_16) (ad := ad) (a_letterCount := a_letterCount) (a_size := a_size) (a_groups := a_groups) (h := h)) k_X0_89 ⟨rfl, rfl, (Nat.le_of_ble_eq_true rfl), (Nat.le_of_ble_eq_true rfl)⟩ rfl rfl rfl rfl (Nat.le_of_ble_eq_true rfl) dX0_isClean_32 (fun r_17 _ H locs h hP hD hS => ?_)
            have hP : va_P D vwCl [((ad 3), aI cy 1546 a_maps), ((ad 0), .inr (0, [.ref (ad 1), .int a_letterCount, .ref (ad 2), .ref (ad 3), .ref (ad 4), .ref (ad 5), .ref (ad 6), .int a_size, .ref (ad 7), .ref (ad 8)])), ((ad 7), aI cy 32 a_groups)] H := hP
            have hD : va_D A [((ad 3), aI cy 1546 a_maps), ((ad 0), .inr (0, [.ref (ad 1), .int a_letterCount, .ref (ad 2), .ref (ad 3), .ref (ad 4), .ref (ad 5), .ref (ad 6), .int a_size, .ref (ad 7), .ref (ad 8)])), ((ad 7), aI cy 32 a_groups)] := hD
            refine lv_if_eq (tgt := 40) hx hb dX0_isClean_35 (by decide) (fun c_18 => ?_) (fun c_18 => ?_)
            · have h := h.1 c_18
              exact hJ40 x1 _ hrc2  h _ _ _ (hP.sub [1, 0, 2] rfl) (hD.sub [1, 0, 2] (by decide) rfl) hS (lv_sub hl [0, 1] rfl)
            · have h := h.2 c_18
              refine lv_iconst (v := (0 : Int32)) hx hb dX0_isClean_38 (by decide) ?_
              exact z_zret () hx hb hr hlocks rfl h (hP.sub [1, 0, 2] rfl) (hD.sub [1, 0, 2] (by decide) rfl) hS dX0_isClean_39
    exact key nn x1 h
  unfold wp_X0_isClean at h
  refine lv_iconst (v := (0 : Int32)) hx hb dX0_isClean_0 (by decide) ?_
  refine lv_istore_n (lv' := [(1, .int (0 : Int32)), (0, .ref (ad 0))]) hx hb dX0_isClean_1 rfl hl (by decide) rfl (fun ls hl => ?_)
  exact hJ2 (0 : Int32)   h _ _ _ hP hD hS (lv_sub hl [1, 0] rfl)
set_option maxHeartbeats 4000000 in
set_option maxRecDepth 100000 in
theorem c_X0_imageGroup (l : Launch) (D : va_G) (cy : Nat → ClassId) (ad : Nat → Nat) (sz : Nat) (a_letterCount : Int32) (a_size : Int32) (a_groups : Nat → Int32) {Q : Int32 → Prop} (h : wp_X0_imageGroup a_groups Q) : Met l yX0_imageGroup (wsU yX0_imageGroup cX0_imageGroup 3 (some .int)) { frames := 0, cells := 0, slots := 0, locals := 0 } (va_Pc [.ref (ad 0)] (zB D vwCl (tyU cy) [((ad 0), .inr (0, [.ref (ad 1), .int a_letterCount, .ref (ad 2), .ref (ad 3), .ref (ad 4), .ref (ad 5), .ref (ad 6), .int a_size, .ref (ad 7), .ref (ad 8)])), ((ad 7), aI cy 32 a_groups)] sz)) ((fun A => va_Qi (fun (r : Int32) (_ : Unit) => Q r ) (zE D vwCl A (fun (_ : Unit) => [((ad 0), .inr (0, [.ref (ad 1), .int a_letterCount, .ref (ad 2), .ref (ad 3), .ref (ad 4), .ref (ad 5), .ref (ad 6), .int a_size, .ref (ad 7), .ref (ad 8)])), ((ad 7), aI cy 32 a_groups)])) A) (va_A [((ad 0), .inr (0, [.ref (ad 1), .int a_letterCount, .ref (ad 2), .ref (ad 3), .ref (ad 4), .ref (ad 5), .ref (ad 6), .int a_size, .ref (ad 7), .ref (ad 8)])), ((ad 7), aI cy 32 a_groups)] sz)) 0 0 (va_A [((ad 0), .inr (0, [.ref (ad 1), .int a_letterCount, .ref (ad 2), .ref (ad 3), .ref (ad 4), .ref (ad 5), .ref (ad 6), .int a_size, .ref (ad 7), .ref (ad 8)])), ((ad 7), aI cy 32 a_groups)] sz) := by
  refine z_ofX (fun A => va_Qi (fun (r : Int32) (_ : Unit) => Q r ) (zE D vwCl A (fun (_ : Unit) => [((ad 0), .inr (0, [.ref (ad 1), .int a_letterCount, .ref (ad 2), .ref (ad 3), .ref (ad 4), .ref (ad 5), .ref (ad 6), .int a_size, .ref (ad 7), .ref (ad 8)])), ((ad 7), aI cy 32 a_groups)])) A) (by decide) (Nat.le_of_ble_eq_true rfl) (fun p e s m below meth c A ls hx hb hr hml hown hts hlocks hK hPW hA hP hD hS hl => ?_)
  have hl : lv_has ls 3 [(0, .ref (ad 0))] := hl
  have hown : s.vm.findClass RX0 = some m.cls := hown
  generalize hArg : ([.ref (ad 0)] : List Value).toArray = args at hts ⊢
  have hJ24 : ∀ (x1 : Int32) (x2 : Int32) (rc5 : Int32 → Int32 → Prop) (hrc5 : ∀ (x1 : Int32) (x2 : Int32), rc5 x1 x2 → ∀ (H : Heap) (locs : List Loc) (ls : Array Slot), va_P D vwCl [((ad 0), .inr (0, [.ref (ad 1), .int a_letterCount, .ref (ad 2), .ref (ad 3), .ref (ad 4), .ref (ad 5), .ref (ad 6), .int a_size, .ref (ad 7), .ref (ad 8)])), ((ad 7), aI cy 32 a_groups)] H → va_D A [((ad 0), .inr (0, [.ref (ad 1), .int a_letterCount, .ref (ad 2), .ref (ad 3), .ref (ad 4), .ref (ad 5), .ref (ad 6), .int a_size, .ref (ad 7), .ref (ad 8)])), ((ad 7), aI cy 32 a_groups)] → va_S A s.heap H locs → lv_has ls 3 [(0, .ref (ad 0)), (1, .int x1), (2, .int x2)] → W p l e { frames := 0, cells := 0, slots := 0, locals := 0 } s m args below meth c H locs 0 0 (MQ below ((fun A => va_Qi (fun (r : Int32) (_ : Unit) => Q r ) (zE D vwCl A (fun (_ : Unit) => [((ad 0), .inr (0, [.ref (ad 1), .int a_letterCount, .ref (ad 2), .ref (ad 3), .ref (ad 4), .ref (ad 5), .ref (ad 6), .int a_size, .ref (ad 7), .ref (ad 8)])), ((ad 7), aI cy 32 a_groups)])) A) A) args s 0 0 A) (F0 m 5 ls [])), wp_X0_imageGroup_24 a_groups x1 x2 rc5 Q → ∀ (H : Heap) (locs : List Loc) (ls : Array Slot), va_P D vwCl [((ad 0), .inr (0, [.ref (ad 1), .int a_letterCount, .ref (ad 2), .ref (ad 3), .ref (ad 4), .ref (ad 5), .ref (ad 6), .int a_size, .ref (ad 7), .ref (ad 8)])), ((ad 7), aI cy 32 a_groups)] H → va_D A [((ad 0), .inr (0, [.ref (ad 1), .int a_letterCount, .ref (ad 2), .ref (ad 3), .ref (ad 4), .ref (ad 5), .ref (ad 6), .int a_size, .ref (ad 7), .ref (ad 8)])), ((ad 7), aI cy 32 a_groups)] → va_S A s.heap H locs → lv_has ls 3 [(0, .ref (ad 0)), (1, .int x1), (2, .int x2)] → W p l e { frames := 0, cells := 0, slots := 0, locals := 0 } s m args below meth c H locs 0 0 (MQ below ((fun A => va_Qi (fun (r : Int32) (_ : Unit) => Q r ) (zE D vwCl A (fun (_ : Unit) => [((ad 0), .inr (0, [.ref (ad 1), .int a_letterCount, .ref (ad 2), .ref (ad 3), .ref (ad 4), .ref (ad 5), .ref (ad 6), .int a_size, .ref (ad 7), .ref (ad 8)])), ((ad 7), aI cy 32 a_groups)])) A) A) args s 0 0 A) (F0 m 24 ls []) := by
    intro x1 x2 rc5 hrc5  h H locs ls hP hD hS hl
    unfold wp_X0_imageGroup_24 at h
    obtain ⟨x2_7, e_x2_7⟩ : ∃ y : Int32, y = x2 + (1 : Int32) := ⟨_, rfl⟩
    refine lv_iinc (v := x2_7) (lv' := [(2, .int x2_7), (0, .ref (ad 0)), (1, .int x1)]) hx hb dX0_imageGroup_24 hl (k := 2) rfl (by rw [e_x2_7]; rfl) (by decide) rfl (fun ls hl => ?_)
    have h := h x2_7 e_x2_7
    refine lv_goto (tgt := 5) hx hb dX0_imageGroup_27 (by decide) ?_
    exact hrc5 x1 x2_7 h _ _ _ hP hD hS (lv_sub hl [1, 2, 0] rfl)
  have hJ5 : ∀ (x1 : Int32) (x2 : Int32), wp_X0_imageGroup_5 a_groups  Q x1 x2 → ∀ (H : Heap) (locs : List Loc) (ls : Array Slot), va_P D vwCl [((ad 0), .inr (0, [.ref (ad 1), .int a_letterCount, .ref (ad 2), .ref (ad 3), .ref (ad 4), .ref (ad 5), .ref (ad 6), .int a_size, .ref (ad 7), .ref (ad 8)])), ((ad 7), aI cy 32 a_groups)] H → va_D A [((ad 0), .inr (0, [.ref (ad 1), .int a_letterCount, .ref (ad 2), .ref (ad 3), .ref (ad 4), .ref (ad 5), .ref (ad 6), .int a_size, .ref (ad 7), .ref (ad 8)])), ((ad 7), aI cy 32 a_groups)] → va_S A s.heap H locs → lv_has ls 3 [(0, .ref (ad 0)), (1, .int x1), (2, .int x2)] → W p l e { frames := 0, cells := 0, slots := 0, locals := 0 } s m args below meth c H locs 0 0 (MQ below ((fun A => va_Qi (fun (r : Int32) (_ : Unit) => Q r ) (zE D vwCl A (fun (_ : Unit) => [((ad 0), .inr (0, [.ref (ad 1), .int a_letterCount, .ref (ad 2), .ref (ad 3), .ref (ad 4), .ref (ad 5), .ref (ad 6), .int a_size, .ref (ad 7), .ref (ad 8)])), ((ad 7), aI cy 32 a_groups)])) A) A) args s 0 0 A) (F0 m 5 ls []) := by
    intro x1 x2   h
    obtain ⟨nn, h⟩ := h
    have key : ∀ (nn : Nat) (x1 : Int32) (x2 : Int32), lpW2 (wb_X0_imageGroup_5 a_groups  Q) nn x1 x2 → ∀ (H : Heap) (locs : List Loc) (ls : Array Slot), va_P D vwCl [((ad 0), .inr (0, [.ref (ad 1), .int a_letterCount, .ref (ad 2), .ref (ad 3), .ref (ad 4), .ref (ad 5), .ref (ad 6), .int a_size, .ref (ad 7), .ref (ad 8)])), ((ad 7), aI cy 32 a_groups)] H → va_D A [((ad 0), .inr (0, [.ref (ad 1), .int a_letterCount, .ref (ad 2), .ref (ad 3), .ref (ad 4), .ref (ad 5), .ref (ad 6), .int a_size, .ref (ad 7), .ref (ad 8)])), ((ad 7), aI cy 32 a_groups)] → va_S A s.heap H locs → lv_has ls 3 [(0, .ref (ad 0)), (1, .int x1), (2, .int x2)] → W p l e { frames := 0, cells := 0, slots := 0, locals := 0 } s m args below meth c H locs 0 0 (MQ below ((fun A => va_Qi (fun (r : Int32) (_ : Unit) => Q r ) (zE D vwCl A (fun (_ : Unit) => [((ad 0), .inr (0, [.ref (ad 1), .int a_letterCount, .ref (ad 2), .ref (ad 3), .ref (ad 4), .ref (ad 5), .ref (ad 6), .int a_size, .ref (ad 7), .ref (ad 8)])), ((ad 7), aI cy 32 a_groups)])) A) A) args s 0 0 A) (F0 m 5 ls []) := by
      intro nn
      induction nn with
      | zero => intro x1 x2 h; exact h.elim
      | succ nn hrc5 =>
        intro x1 x2 h H locs ls hP hD hS hl
        have h : wb_X0_imageGroup_5 a_groups  Q (lpW2 (wb_X0_imageGroup_5 a_groups  Q) nn) x1 x2 := h
        unfold wb_X0_imageGroup_5 at h
        refine lv_iload_n hx hb dX0_imageGroup_5 rfl (lv_at hl 2 rfl) ?_
        refine lv_bipush (v := (32 : Int32)) hx hb dX0_imageGroup_6 (by decide) ?_
        refine lv_icmp_ge (tgt := 30) hx hb dX0_imageGroup_8 (by decide) (fun c_8 => ?_) (fun c_8 => ?_)
        · have h := h.1 c_8
          refine lv_aload_n hx hb dX0_imageGroup_30 rfl (lv_at hl 0 rfl) ?_
          refine va_get (D := D) (ci := 0) (v := .ref (ad 7)) (C := RX0) (T := TX0) (N := 10) hx hb hts iX0 hown hK hP 0 rfl rfl 8 (Nat.le_of_ble_eq_true rfl) (hts _ fl_X0_37) (fun _ h9 => h9) rfl dX0_imageGroup_31 ?_
          refine lv_iload_n hx hb dX0_imageGroup_34 rfl (lv_at hl 1 rfl) ?_
          obtain ⟨hi_9, h⟩ := h
          refine va_iald hx hb hK hP 1 0 rfl rfl hi_9 dX0_imageGroup_35 ?_
          exact z_iret () hx hb hr hlocks h hP hD hS dX0_imageGroup_36
        · have h := h.2 c_8
          refine lv_aload_n hx hb dX0_imageGroup_11 rfl (lv_at hl 0 rfl) ?_
          refine va_get (D := D) (ci := 0) (v := .ref (ad 7)) (C := RX0) (T := TX0) (N := 10) hx hb hts iX0 hown hK hP 0 rfl rfl 8 (Nat.le_of_ble_eq_true rfl) (hts _ fl_X0_37) (fun _ h9 => h9) rfl dX0_imageGroup_12 ?_
          refine lv_iload_n hx hb dX0_imageGroup_15 rfl (lv_at hl 2 rfl) ?_
          obtain ⟨hi_10, h⟩ := h
          refine va_iald hx hb hK hP 1 0 rfl rfl hi_10 dX0_imageGroup_16 ?_
          refine lv_if_le (tgt := 24) hx hb dX0_imageGroup_17 (by decide) (fun c_11 => ?_) (fun c_11 => ?_)
          · have h := h.1 c_11
            exact hJ24 x1 x2 _ hrc5  h _ _ _ hP hD hS (lv_sub hl [0, 1, 2] rfl)
          · have h := h.2 c_11
            refine lv_iload_n hx hb dX0_imageGroup_20 rfl (lv_at hl 1 rfl) ?_
            refine lv_iload_n hx hb dX0_imageGroup_21 rfl (lv_at hl 2 rfl) ?_
            refine lv_iand hx hb dX0_imageGroup_22 ?_
            refine lv_topi (fun x1_12 e_x1_12 => ?_)
            have h := h x1_12 e_x1_12
            refine lv_istore_n (lv' := [(1, .int x1_12), (0, .ref (ad 0)), (2, .int x2)]) hx hb dX0_imageGroup_23 rfl hl (by decide) rfl (fun ls hl => ?_)
            exact hJ24 x1_12 x2 _ hrc5  h _ _ _ hP hD hS (lv_sub hl [1, 0, 2] rfl)
    exact key nn x1 x2 h
  unfold wp_X0_imageGroup at h
  refine lv_bipush (v := (31 : Int32)) hx hb dX0_imageGroup_0 (by decide) ?_
  refine lv_istore_n (lv' := [(1, .int (31 : Int32)), (0, .ref (ad 0))]) hx hb dX0_imageGroup_2 rfl hl (by decide) rfl (fun ls hl => ?_)
  refine lv_iconst (v := (0 : Int32)) hx hb dX0_imageGroup_3 (by decide) ?_
  refine lv_istore_n (lv' := [(2, .int (0 : Int32)), (1, .int (31 : Int32)), (0, .ref (ad 0))]) hx hb dX0_imageGroup_4 rfl hl (by decide) rfl (fun ls hl => ?_)
  exact hJ5 (31 : Int32) (0 : Int32)   h _ _ _ hP hD hS (lv_sub hl [2, 1, 0] rfl)
