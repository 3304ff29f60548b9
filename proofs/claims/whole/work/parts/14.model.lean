set_option maxHeartbeats 4000000 in
set_option maxRecDepth 100000 in
theorem c_X8_in (l : Launch) (D : va_G) (cy : Nat → ClassId) (sz : Nat) (x0 : Int32) (x1 : Int32) (x2 : Int32) {Q : Int32 → Prop} (h : wp_X8_in x0 x1 x2 Q) : Met l yX8_in (wsU yX8_in cX8_in 3 (some .boolean)) { frames := 0, cells := 0, slots := 0, locals := 0 } (va_Pc [.int x0, .int x1, .int x2] (zB D vwCl (tyU cy) [] sz)) ((fun A => va_Qi (fun (r : Int32) (_ : Unit) => Q r ) (zE D vwCl A (fun (_ : Unit) => [])) A) (va_A [] sz)) 0 0 (va_A [] sz) := by
  refine z_ofX (fun A => va_Qi (fun (r : Int32) (_ : Unit) => Q r ) (zE D vwCl A (fun (_ : Unit) => [])) A) (by decide) (Nat.le_of_ble_eq_true rfl) (fun p e s m below meth c A ls hx hb hr hml hown hts hlocks hK hPW hA hP hD hS hl => ?_)
  have hl : lv_has ls 3 [(0, .int x0), (1, .int x1), (2, .int x2)] := hl
  have hown : s.vm.findClass RX8 = some m.cls := hown
  unfold wp_X8_in at h
  refine lv_iload_n hx hb dX8_in_0 rfl (lv_at hl 0 rfl) ?_
  refine lv_iload_n hx hb dX8_in_1 rfl (lv_at hl 1 rfl) ?_
  refine lv_icmp_lt (tgt := 14) hx hb dX8_in_2 (by decide) (fun c_3 => ?_) (fun c_3 => ?_)
  · have h := h.1 c_3
    refine lv_iconst (v := (0 : Int32)) hx hb dX8_in_14 (by decide) ?_
    exact z_zret () hx hb hr hlocks rfl h hP hD hS dX8_in_15
  · have h := h.2 c_3
    refine lv_iload_n hx hb dX8_in_5 rfl (lv_at hl 0 rfl) ?_
    refine lv_iload_n hx hb dX8_in_6 rfl (lv_at hl 2 rfl) ?_
    refine lv_icmp_gt (tgt := 14) hx hb dX8_in_7 (by decide) (fun c_4 => ?_) (fun c_4 => ?_)
    · have h := h.1 c_4
      refine lv_iconst (v := (0 : Int32)) hx hb dX8_in_14 (by decide) ?_
      exact z_zret () hx hb hr hlocks rfl h hP hD hS dX8_in_15
    · have h := h.2 c_4
      refine lv_iconst (v := (1 : Int32)) hx hb dX8_in_10 (by decide) ?_
      refine lv_goto (tgt := 15) hx hb dX8_in_11 (by decide) ?_
      exact z_zret () hx hb hr hlocks rfl h hP hD hS dX8_in_15
set_option maxHeartbeats 4000000 in
set_option maxRecDepth 100000 in
theorem c_X8_isSlot (l : Launch) (D : va_G) (cy : Nat → ClassId) (sz : Nat) (x0 : Int32) {Q : Int32 → Prop} (h : wp_X8_isSlot x0 Q) : Met l yX8_isSlot (wsU yX8_isSlot cX8_isSlot 1 (some .boolean)) { frames := 1, cells := 0, slots := 0, locals := 22 } (va_Pc [.int x0] (zB D vwCl (tyU cy) [] sz)) ((fun A => va_Qi (fun (r : Int32) (_ : Unit) => Q r ) (zE D vwCl A (fun (_ : Unit) => [])) A) (va_A [] sz)) 0 0 (va_A [] sz) := by
  refine z_ofX (fun A => va_Qi (fun (r : Int32) (_ : Unit) => Q r ) (zE D vwCl A (fun (_ : Unit) => [])) A) (by decide) (Nat.le_of_ble_eq_true rfl) (fun p e s m below meth c A ls hx hb hr hml hown hts hlocks hK hPW hA hP hD hS hl => ?_)
  have hl : lv_has ls 1 [(0, .int x0)] := hl
  have hown : s.vm.findClass RX8 = some m.cls := hown
  unfold wp_X8_isSlot at h
  refine lv_iload_n hx hb dX8_isSlot_0 rfl (lv_at hl 0 rfl) ?_
  refine lv_iconst (v := (0 : Int32)) hx hb dX8_isSlot_1 (by decide) ?_
  refine lv_iconst (v := (5 : Int32)) hx hb dX8_isSlot_2 (by decide) ?_
  refine zc_S0 (As := [.int x0, .int (0 : Int32), .int (5 : Int32)]) (rest := []) hx hb hml hown hts hK hPW hA hl.1 hP hS ⟨Nat.zero_le _, Nat.zero_le _⟩ (c_X8_in l D cy (sz := _) (x0 := x0) (x1 := (0 : Int32)) (x2 := (5 : Int32)) (h := h)) k_X8_91 ⟨rfl, rfl, (Nat.le_of_ble_eq_true rfl), (Nat.le_of_ble_eq_true rfl)⟩ rfl rfl (Nat.le_of_ble_eq_true rfl) dX8_isSlot_3 (fun r_2 H locs h hP hS => ?_)
  obtain ⟨hz, h⟩ := h
  exact z_zret () hx hb hr hlocks (isB.n hz) h hP hD hS dX8_isSlot_6
set_option maxHeartbeats 4000000 in
set_option maxRecDepth 100000 in
theorem c_X8_isWord (l : Launch) (D : va_G) (cy : Nat → ClassId) (sz : Nat) (x0 : Int32) {Q : Int32 → Prop} (h : wp_X8_isWord x0 Q) : Met l yX8_isWord (wsU yX8_isWord cX8_isWord 1 (some .boolean)) { frames := 1, cells := 0, slots := 0, locals := 22 } (va_Pc [.int x0] (zB D vwCl (tyU cy) [] sz)) ((fun A => va_Qi (fun (r : Int32) (_ : Unit) => Q r ) (zE D vwCl A (fun (_ : Unit) => [])) A) (va_A [] sz)) 0 0 (va_A [] sz) := by
  refine z_ofX (fun A => va_Qi (fun (r : Int32) (_ : Unit) => Q r ) (zE D vwCl A (fun (_ : Unit) => [])) A) (by decide) (Nat.le_of_ble_eq_true rfl) (fun p e s m below meth c A ls hx hb hr hml hown hts hlocks hK hPW hA hP hD hS hl => ?_)
  have hl : lv_has ls 1 [(0, .int x0)] := hl
  have hown : s.vm.findClass RX8 = some m.cls := hown
  unfold wp_X8_isWord at h
  refine lv_iload_n hx hb dX8_isWord_0 rfl (lv_at hl 0 rfl) ?_
  refine lv_iconst (v := (0 : Int32)) hx hb dX8_isWord_1 (by decide) ?_
  refine lv_iconst (v := (3 : Int32)) hx hb dX8_isWord_2 (by decide) ?_
  refine zc_S0 (As := [.int x0, .int (0 : Int32), .int (3 : Int32)]) (rest := []) hx hb hml hown hts hK hPW hA hl.1 hP hS ⟨Nat.zero_le _, Nat.zero_le _⟩ (c_X8_in l D cy (sz := _) (x0 := x0) (x1 := (0 : Int32)) (x2 := (3 : Int32)) (h := h)) k_X8_91 ⟨rfl, rfl, (Nat.le_of_ble_eq_true rfl), (Nat.le_of_ble_eq_true rfl)⟩ rfl rfl (Nat.le_of_ble_eq_true rfl) dX8_isWord_3 (fun r_2 H locs h hP hS => ?_)
  obtain ⟨hz, h⟩ := h
  exact z_zret () hx hb hr hlocks (isB.n hz) h hP hD hS dX8_isWord_6
set_option maxHeartbeats 4000000 in
set_option maxRecDepth 100000 in
theorem c_X8_power (l : Launch) (D : va_G) (cy : Nat → ClassId) (sz : Nat) (x0 : Int32) {Q : Int32 → Prop} (h : wp_X8_power x0 Q) : Met l yX8_power (wsU yX8_power cX8_power 3 (some .int)) { frames := 0, cells := 0, slots := 0, locals := 0 } (va_Pc [.int x0] (zB D vwCl (tyU cy) [] sz)) ((fun A => va_Qi (fun (r : Int32) (_ : Unit) => Q r ) (zE D vwCl A (fun (_ : Unit) => [])) A) (va_A [] sz)) 0 0 (va_A [] sz) := by
  refine z_ofX (fun A => va_Qi (fun (r : Int32) (_ : Unit) => Q r ) (zE D vwCl A (fun (_ : Unit) => [])) A) (by decide) (Nat.le_of_ble_eq_true rfl) (fun p e s m below meth c A ls hx hb hr hml hown hts hlocks hK hPW hA hP hD hS hl => ?_)
  have hl : lv_has ls 3 [(0, .int x0)] := hl
  have hown : s.vm.findClass RX8 = some m.cls := hown
  generalize hArg : ([.int x0] : List Value).toArray = args at hts ⊢
  have hJ4 : ∀ (x0 : Int32) (x1 : Int32) (x2 : Int32), wp_X8_power_4 x0  Q x1 x2 → ∀ (H : Heap) (locs : List Loc) (ls : Array Slot), va_P D vwCl [] H → va_D A [] → va_S A s.heap H locs → lv_has ls 3 [(0, .int x0), (1, .int x1), (2, .int x2)] → W p l e { frames := 0, cells := 0, slots := 0, locals := 0 } s m args below meth c H locs 0 0 (MQ below ((fun A => va_Qi (fun (r : Int32) (_ : Unit) => Q r ) (zE D vwCl A (fun (_ : Unit) => [])) A) A) args s 0 0 A) (F0 m 4 ls []) := by
    intro x0 x1 x2   h
    obtain ⟨nn, h⟩ := h
    have key : ∀ (nn : Nat) (x1 : Int32) (x2 : Int32), lpW2 (wb_X8_power_4 x0  Q) nn x1 x2 → ∀ (H : Heap) (locs : List Loc) (ls : Array Slot), va_P D vwCl [] H → va_D A [] → va_S A s.heap H locs → lv_has ls 3 [(0, .int x0), (1, .int x1), (2, .int x2)] → W p l e { frames := 0, cells := 0, slots := 0, locals := 0 } s m args below meth c H locs 0 0 (MQ below ((fun A => va_Qi (fun (r : Int32) (_ : Unit) => Q r ) (zE D vwCl A (fun (_ : Unit) => [])) A) A) args s 0 0 A) (F0 m 4 ls []) := by
      intro nn
      induction nn with
      | zero => intro x1 x2 h; exact h.elim
      | succ nn hrc4 =>
        intro x1 x2 h H locs ls hP hD hS hl
        have h : wb_X8_power_4 x0  Q (lpW2 (wb_X8_power_4 x0  Q) nn) x1 x2 := h
        unfold wb_X8_power_4 at h
        refine lv_iload_n hx hb dX8_power_4 rfl (lv_at hl 2 rfl) ?_
        refine lv_iload_n hx hb dX8_power_5 rfl (lv_at hl 0 rfl) ?_
        refine lv_icmp_ge (tgt := 20) hx hb dX8_power_6 (by decide) (fun c_4 => ?_) (fun c_4 => ?_)
        · have h := h.1 c_4
          refine lv_iload_n hx hb dX8_power_20 rfl (lv_at hl 1 rfl) ?_
          exact z_iret () hx hb hr hlocks h hP hD hS dX8_power_21
        · have h := h.2 c_4
          refine lv_iload_n hx hb dX8_power_9 rfl (lv_at hl 1 rfl) ?_
          refine lv_bipush (v := (6 : Int32)) hx hb dX8_power_10 (by decide) ?_
          refine lv_imul hx hb dX8_power_12 ?_
          refine lv_topi (fun x1_5 e_x1_5 => ?_)
          have h := h x1_5 e_x1_5
          refine lv_istore_n (lv' := [(1, .int x1_5), (0, .int x0), (2, .int x2)]) hx hb dX8_power_13 rfl hl (by decide) rfl (fun ls hl => ?_)
          obtain ⟨x2_6, e_x2_6⟩ : ∃ y : Int32, y = x2 + (1 : Int32) := ⟨_, rfl⟩
          refine lv_iinc (v := x2_6) (lv' := [(2, .int x2_6), (1, .int x1_5), (0, .int x0)]) hx hb dX8_power_14 hl (k := 2) rfl (by rw [e_x2_6]; rfl) (by decide) rfl (fun ls hl => ?_)
          have h := h x2_6 e_x2_6
          refine lv_goto (tgt := 4) hx hb dX8_power_17 (by decide) ?_
          exact hrc4 x1_5 x2_6 h _ _ _ hP hD hS (lv_sub hl [2, 1, 0] rfl)
    exact key nn x1 x2 h
  unfold wp_X8_power at h
  refine lv_iconst (v := (1 : Int32)) hx hb dX8_power_0 (by decide) ?_
  refine lv_istore_n (lv' := [(1, .int (1 : Int32)), (0, .int x0)]) hx hb dX8_power_1 rfl hl (by decide) rfl (fun ls hl => ?_)
  refine lv_iconst (v := (0 : Int32)) hx hb dX8_power_2 (by decide) ?_
  refine lv_istore_n (lv' := [(2, .int (0 : Int32)), (1, .int (1 : Int32)), (0, .int x0)]) hx hb dX8_power_3 rfl hl (by decide) rfl (fun ls hl => ?_)
  exact hJ4 x0 (1 : Int32) (0 : Int32)   h _ _ _ hP hD hS (lv_sub hl [2, 1, 0] rfl)
set_option maxHeartbeats 4000000 in
set_option maxRecDepth 100000 in
theorem c_X8_to (l : Launch) (D : va_G) (cy : Nat → ClassId) (sz : Nat) (x0 : Int32) (x1 : Int32) {Q : Int32 → Prop} (h : wp_X8_to x0 x1 Q) : Met l yX8_to (wsU yX8_to cX8_to 2 (some .int)) { frames := 1, cells := 0, slots := 0, locals := 22 } (va_Pc [.int x0, .int x1] (zB D vwCl (tyU cy) [] sz)) ((fun A => va_Qi (fun (r : Int32) (_ : Unit) => Q r ) (zE D vwCl A (fun (_ : Unit) => [])) A) (va_A [] sz)) 0 0 (va_A [] sz) := by
  refine z_ofX (fun A => va_Qi (fun (r : Int32) (_ : Unit) => Q r ) (zE D vwCl A (fun (_ : Unit) => [])) A) (by decide) (Nat.le_of_ble_eq_true rfl) (fun p e s m below meth c A ls hx hb hr hml hown hts hlocks hK hPW hA hP hD hS hl => ?_)
  have hl : lv_has ls 2 [(0, .int x0), (1, .int x1)] := hl
  have hown : s.vm.findClass RX8 = some m.cls := hown
  unfold wp_X8_to at h
  refine lv_iload_n hx hb dX8_to_0 rfl (lv_at hl 0 rfl) ?_
  refine lv_iload_n hx hb dX8_to_1 rfl (lv_at hl 1 rfl) ?_
  refine zc_S0 (As := [.int x1]) (rest := [.int x0]) hx hb hml hown hts hK hPW hA hl.1 hP hS ⟨Nat.zero_le _, Nat.zero_le _⟩ (c_X8_power l D cy (sz := _) (x0 := x1) (h := h)) k_X8_95 ⟨rfl, rfl, (Nat.le_of_ble_eq_true rfl), (Nat.le_of_ble_eq_true rfl)⟩ rfl rfl (Nat.le_of_ble_eq_true rfl) dX8_to_2 (fun r_3 H locs h hP hS => ?_)
  obtain ⟨hn_4, h⟩ := h
  refine lv_idiv hx hb dX8_to_5 hn_4 ?_
  refine lv_bipush (v := (6 : Int32)) hx hb dX8_to_6 (by decide) ?_
  refine lv_irem hx hb dX8_to_8 (by decide) ?_
  refine lv_iconst (v := (1 : Int32)) hx hb dX8_to_9 (by decide) ?_
  refine lv_isub hx hb dX8_to_10 ?_
  exact z_iret () hx hb hr hlocks h hP hD hS dX8_to_11
set_option maxHeartbeats 4000000 in
set_option maxRecDepth 100000 in
theorem c_X8_put (l : Launch) (D : va_G) (cy : Nat → ClassId) (sz : Nat) (x0 : Int32) (x1 : Int32) {Q : Int32 → Prop} (h : wp_X8_put x0 x1 Q) : Met l yX8_put (wsU yX8_put cX8_put 2 (some .int)) { frames := 1, cells := 0, slots := 0, locals := 22 } (va_Pc [.int x0, .int x1] (zB D vwCl (tyU cy) [] sz)) ((fun A => va_Qi (fun (r : Int32) (_ : Unit) => Q r ) (zE D vwCl A (fun (_ : Unit) => [])) A) (va_A [] sz)) 0 0 (va_A [] sz) := by
  refine z_ofX (fun A => va_Qi (fun (r : Int32) (_ : Unit) => Q r ) (zE D vwCl A (fun (_ : Unit) => [])) A) (by decide) (Nat.le_of_ble_eq_true rfl) (fun p e s m below meth c A ls hx hb hr hml hown hts hlocks hK hPW hA hP hD hS hl => ?_)
  have hl : lv_has ls 2 [(0, .int x0), (1, .int x1)] := hl
  have hown : s.vm.findClass RX8 = some m.cls := hown
  unfold wp_X8_put at h
  refine lv_iload_n hx hb dX8_put_0 rfl (lv_at hl 0 rfl) ?_
  refine zc_S0 (As := [.int x0]) (rest := []) hx hb hml hown hts hK hPW hA hl.1 hP hS ⟨Nat.zero_le _, Nat.zero_le _⟩ (c_X8_power l D cy (sz := _) (x0 := x0) (h := h)) k_X8_95 ⟨rfl, rfl, (Nat.le_of_ble_eq_true rfl), (Nat.le_of_ble_eq_true rfl)⟩ rfl rfl (Nat.le_of_ble_eq_true rfl) dX8_put_1 (fun r_2 H locs h hP hS => ?_)
  refine lv_iload_n hx hb dX8_put_4 rfl (lv_at hl 1 rfl) ?_
  refine lv_iconst (v := (1 : Int32)) hx hb dX8_put_5 (by decide) ?_
  refine lv_iadd hx hb dX8_put_6 ?_
  refine lv_imul hx hb dX8_put_7 ?_
  exact z_iret () hx hb hr hlocks h hP hD hS dX8_put_8
set_option maxHeartbeats 4000000 in
set_option maxRecDepth 100000 in
theorem c_X8_same (l : Launch) (D : va_G) (cy : Nat → ClassId) (sz : Nat) {Q : Int32 → Prop} (h : wp_X8_same Q) : Met l yX8_same (wsU yX8_same cX8_same 2 (some .int)) { frames := 2, cells := 0, slots := 0, locals := 43 } (va_Pc [] (zB D vwCl (tyU cy) [] sz)) ((fun A => va_Qi (fun (r : Int32) (_ : Unit) => Q r ) (zE D vwCl A (fun (_ : Unit) => [])) A) (va_A [] sz)) 0 0 (va_A [] sz) := by
  refine z_ofX (fun A => va_Qi (fun (r : Int32) (_ : Unit) => Q r ) (zE D vwCl A (fun (_ : Unit) => [])) A) (by decide) (Nat.le_of_ble_eq_true rfl) (fun p e s m below meth c A ls hx hb hr hml hown hts hlocks hK hPW hA hP hD hS hl => ?_)
  have hl : lv_has ls 2 [] := hl
  have hown : s.vm.findClass RX8 = some m.cls := hown
  generalize hArg : ([] : List Value).toArray = args at hts ⊢
  have hJ4 : ∀ (x0 : Int32) (x1 : Int32), wp_X8_same_4   Q x0 x1 → ∀ (H : Heap) (locs : List Loc) (ls : Array Slot), va_P D vwCl [] H → va_D A [] → va_S A s.heap H locs → lv_has ls 2 [(0, .int x0), (1, .int x1)] → W p l e { frames := 2, cells := 0, slots := 0, locals := 43 } s m args below meth c H locs 0 0 (MQ below ((fun A => va_Qi (fun (r : Int32) (_ : Unit) => Q r ) (zE D vwCl A (fun (_ : Unit) => [])) A) A) args s 0 0 A) (F0 m 4 ls []) := by
    intro x0 x1   h
    obtain ⟨nn, h⟩ := h
    have key : ∀ (nn : Nat) (x0 : Int32) (x1 : Int32), lpW2 (wb_X8_same_4   Q) nn x0 x1 → ∀ (H : Heap) (locs : List Loc) (ls : Array Slot), va_P D vwCl [] H → va_D A [] → va_S A s.heap H locs → lv_has ls 2 [(0, .int x0), (1, .int x1)] → W p l e { frames := 2, cells := 0, slots := 0, locals := 43 } s m args below meth c H locs 0 0 (MQ below ((fun A => va_Qi (fun (r : Int32) (_ : Unit) => Q r ) (zE D vwCl A (fun (_ : Unit) => [])) A) A) args s 0 0 A) (F0 m 4 ls []) := by
      intro nn
      induction nn with
      | zero => intro x0 x1 h; exact h.elim
      | succ nn hrc4 =>
        intro x0 x1 h H locs ls hP hD hS hl
        have h : wb_X8_same_4   Q (lpW2 (wb_X8_same_4   Q) nn) x0 x1 := h
        unfold wb_X8_same_4 at h
        refine lv_iload_n hx hb dX8_same_4 rfl (lv_at hl 1 rfl) ?_
        refine lv_iconst (v := (5 : Int32)) hx hb dX8_same_5 (by decide) ?_
        refine lv_icmp_ge (tgt := 23) hx hb dX8_same_6 (by decide) (fun c_5 => ?_) (fun c_5 => ?_)
        · have h := h.1 c_5
          refine lv_iload_n hx hb dX8_same_23 rfl (lv_at hl 0 rfl) ?_
          exact z_iret () hx hb hr hlocks h hP hD hS dX8_same_24
        · have h := h.2 c_5
          refine lv_iload_n hx hb dX8_same_9 rfl (lv_at hl 0 rfl) ?_
          refine lv_iload_n hx hb dX8_same_10 rfl (lv_at hl 1 rfl) ?_
          refine lv_iload_n hx hb dX8_same_11 rfl (lv_at hl 1 rfl) ?_
          refine zc_S0 (As := [.int x1, .int x1]) (rest := [.int x0]) hx hb hml hown hts hK hPW hA hl.1 hP hS ⟨Nat.zero_le _, Nat.zero_le _⟩ (c_X8_put l D cy (sz := _) (x0 := x1) (x1 := x1) (h := h)) k_X8_99 ⟨rfl, rfl, (Nat.le_of_ble_eq_true rfl), (Nat.le_of_ble_eq_true rfl)⟩ rfl rfl (Nat.le_of_ble_eq_true rfl) dX8_same_12 (fun r_6 H locs h hP hS => ?_)
          refine lv_iadd hx hb dX8_same_15 ?_
          refine lv_topi (fun x0_7 e_x0_7 => ?_)
          have h := h x0_7 e_x0_7
          refine lv_istore_n (lv' := [(0, .int x0_7), (1, .int x1)]) hx hb dX8_same_16 rfl hl (by decide) rfl (fun ls hl => ?_)
          obtain ⟨x1_8, e_x1_8⟩ : ∃ y : Int32, y = x1 + (1 : Int32) := ⟨_, rfl⟩
          refine lv_iinc (v := x1_8) (lv' := [(1, .int x1_8), (0, .int x0_7)]) hx hb dX8_same_17 hl (k := 1) rfl (by rw [e_x1_8]; rfl) (by decide) rfl (fun ls hl => ?_)
          have h := h x1_8 e_x1_8
          refine lv_goto (tgt := 4) hx hb dX8_same_20 (by decide) ?_
          exact hrc4 x0_7 x1_8 h _ _ _ hP hD hS (lv_sub hl [1, 0] rfl)
    exact key nn x0 x1 h
  unfold wp_X8_same at h
  refine lv_iconst (v := (0 : Int32)) hx hb dX8_same_0 (by decide) ?_
  refine lv_istore_n (lv' := [(0, .int (0 : Int32))]) hx hb dX8_same_1 rfl hl (by decide) rfl (fun ls hl => ?_)
  refine lv_iconst (v := (0 : Int32)) hx hb dX8_same_2 (by decide) ?_
  refine lv_istore_n (lv' := [(1, .int (0 : Int32)), (0, .int (0 : Int32))]) hx hb dX8_same_3 rfl hl (by decide) rfl (fun ls hl => ?_)
  exact hJ4 (0 : Int32) (0 : Int32)   h _ _ _ hP hD hS (lv_sub hl [1, 0] rfl)
set_option maxHeartbeats 4000000 in
set_option maxRecDepth 100000 in
theorem c_X8_isMap (l : Launch) (D : va_G) (cy : Nat → ClassId) (sz : Nat) (x0 : Int32) {Q : Int32 → Prop} (h : wp_X8_isMap x0 Q) : Met l yX8_isMap (wsU yX8_isMap cX8_isMap 5 (some .boolean)) { frames := 2, cells := 0, slots := 0, locals := 43 } (va_Pc [.int x0] (zB D vwCl (tyU cy) [] sz)) ((fun A => va_Qi (fun (r : Int32) (_ : Unit) => Q r ) (zE D vwCl A (fun (_ : Unit) => [])) A) (va_A [] sz)) 0 0 (va_A [] sz) := by
  refine z_ofX (fun A => va_Qi (fun (r : Int32) (_ : Unit) => Q r ) (zE D vwCl A (fun (_ : Unit) => [])) A) (by decide) (Nat.le_of_ble_eq_true rfl) (fun p e s m below meth c A ls hx hb hr hml hown hts hlocks hK hPW hA hP hD hS hl => ?_)
  have hl : lv_has ls 5 [(0, .int x0)] := hl
  have hown : s.vm.findClass RX8 = some m.cls := hown
  generalize hArg : ([.int x0] : List Value).toArray = args at hts ⊢
  have hJ69 : ∀ (x0 : Int32) (x2 : Int32) (x3 : Int32) (t0 : Int32) (t1 : Int32) (rc19 : Int32 → Int32 → Int32 → Prop) (hrc19 : ∀ (x1 : Int32) (x2 : Int32) (x3 : Int32), rc19 x1 x2 x3 → ∀ (H : Heap) (locs : List Loc) (ls : Array Slot), va_P D vwCl [] H → va_D A [] → va_S A s.heap H locs → lv_has ls 5 [(0, .int x0), (1, .int x1), (2, .int x2), (3, .int x3)] → W p l e { frames := 2, cells := 0, slots := 0, locals := 43 } s m args below meth c H locs 0 0 (MQ below ((fun A => va_Qi (fun (r : Int32) (_ : Unit) => Q r ) (zE D vwCl A (fun (_ : Unit) => [])) A) A) args s 0 0 A) (F0 m 19 ls [])), wp_X8_isMap_69 x0 x2 x3 t0 t1 rc19 Q → ∀ (H : Heap) (locs : List Loc) (ls : Array Slot), va_P D vwCl [] H → va_D A [] → va_S A s.heap H locs → lv_has ls 5 [(0, .int x0), (2, .int x2), (3, .int x3)] → W p l e { frames := 2, cells := 0, slots := 0, locals := 43 } s m args below meth c H locs 0 0 (MQ below ((fun A => va_Qi (fun (r : Int32) (_ : Unit) => Q r ) (zE D vwCl A (fun (_ : Unit) => [])) A) A) args s 0 0 A) (F0 m 69 ls [.int t1, .int t0]) := by
    intro x0 x2 x3 t0 t1 rc19 hrc19  h H locs ls hP hD hS hl
    unfold wp_X8_isMap_69 at h
    refine lv_ior hx hb dX8_isMap_69 ?_
    refine lv_topi (fun x1_11 e_x1_11 => ?_)
    have h := h x1_11 e_x1_11
    refine lv_istore_n (lv' := [(1, .int x1_11), (0, .int x0), (2, .int x2), (3, .int x3)]) hx hb dX8_isMap_70 rfl hl (by decide) rfl (fun ls hl => ?_)
    obtain ⟨x3_12, e_x3_12⟩ : ∃ y : Int32, y = x3 + (1 : Int32) := ⟨_, rfl⟩
    refine lv_iinc (v := x3_12) (lv' := [(3, .int x3_12), (1, .int x1_11), (0, .int x0), (2, .int x2)]) hx hb dX8_isMap_71 hl (k := 3) rfl (by rw [e_x3_12]; rfl) (by decide) rfl (fun ls hl => ?_)
    have h := h x3_12 e_x3_12
    refine lv_goto (tgt := 19) hx hb dX8_isMap_74 (by decide) ?_
    exact hrc19 x1_11 x2 x3_12 h _ _ _ hP hD hS (lv_sub hl [2, 1, 3, 0] rfl)
  have hJ54 : ∀ (x0 : Int32) (x1 : Int32) (x3 : Int32) (x4 : Int32) (t0 : Int32) (rc19 : Int32 → Int32 → Int32 → Prop) (hrc19 : ∀ (x1 : Int32) (x2 : Int32) (x3 : Int32), rc19 x1 x2 x3 → ∀ (H : Heap) (locs : List Loc) (ls : Array Slot), va_P D vwCl [] H → va_D A [] → va_S A s.heap H locs → lv_has ls 5 [(0, .int x0), (1, .int x1), (2, .int x2), (3, .int x3)] → W p l e { frames := 2, cells := 0, slots := 0, locals := 43 } s m args below meth c H locs 0 0 (MQ below ((fun A => va_Qi (fun (r : Int32) (_ : Unit) => Q r ) (zE D vwCl A (fun (_ : Unit) => [])) A) A) args s 0 0 A) (F0 m 19 ls [])), wp_X8_isMap_54 x0 x1 x3 x4 t0 rc19 Q → ∀ (H : Heap) (locs : List Loc) (ls : Array Slot), va_P D vwCl [] H → va_D A [] → va_S A s.heap H locs → lv_has ls 5 [(0, .int x0), (1, .int x1), (3, .int x3), (4, .int x4)] → W p l e { frames := 2, cells := 0, slots := 0, locals := 43 } s m args below meth c H locs 0 0 (MQ below ((fun A => va_Qi (fun (r : Int32) (_ : Unit) => Q r ) (zE D vwCl A (fun (_ : Unit) => [])) A) A) args s 0 0 A) (F0 m 54 ls [.int t0]) := by
    intro x0 x1 x3 x4 t0 rc19 hrc19  h H locs ls hP hD hS hl
    unfold wp_X8_isMap_54 at h
    refine lv_istore_n (lv' := [(2, .int t0), (0, .int x0), (1, .int x1), (3, .int x3), (4, .int x4)]) hx hb dX8_isMap_54 rfl hl (by decide) rfl (fun ls hl => ?_)
    refine lv_iload_n hx hb dX8_isMap_55 rfl (lv_at hl 2 rfl) ?_
    refine lv_iload hx hb dX8_isMap_56 (lv_at hl 4 rfl) ?_
    refine lv_if_ge (tgt := 65) hx hb dX8_isMap_58 (by decide) (fun c_13 => ?_) (fun c_13 => ?_)
    · have h := h.1 c_13
      refine lv_iconst (v := (1 : Int32)) hx hb dX8_isMap_65 (by decide) ?_
      refine lv_iload hx hb dX8_isMap_66 (lv_at hl 4 rfl) ?_
      refine lv_ishl hx hb dX8_isMap_68 ?_
      exact hJ69 x0 t0 x3 x1 ((1 : Int32) <<< (x4 &&& 31)) _ hrc19  h _ _ _ hP hD hS (lv_sub hl [1, 0, 3] rfl)
    · have h := h.2 c_13
      refine lv_iconst (v := (0 : Int32)) hx hb dX8_isMap_61 (by decide) ?_
      refine lv_goto (tgt := 69) hx hb dX8_isMap_62 (by decide) ?_
      exact hJ69 x0 t0 x3 x1 (0 : Int32) _ hrc19  h _ _ _ hP hD hS (lv_sub hl [1, 0, 3] rfl)
  have hJ19 : ∀ (x0 : Int32) (x1 : Int32) (x2 : Int32) (x3 : Int32), wp_X8_isMap_19 x0  Q x1 x2 x3 → ∀ (H : Heap) (locs : List Loc) (ls : Array Slot), va_P D vwCl [] H → va_D A [] → va_S A s.heap H locs → lv_has ls 5 [(0, .int x0), (1, .int x1), (2, .int x2), (3, .int x3)] → W p l e { frames := 2, cells := 0, slots := 0, locals := 43 } s m args below meth c H locs 0 0 (MQ below ((fun A => va_Qi (fun (r : Int32) (_ : Unit) => Q r ) (zE D vwCl A (fun (_ : Unit) => [])) A) A) args s 0 0 A) (F0 m 19 ls []) := by
    intro x0 x1 x2 x3   h
    obtain ⟨nn, h⟩ := h
    have key : ∀ (nn : Nat) (x1 : Int32) (x2 : Int32) (x3 : Int32), lpW3 (wb_X8_isMap_19 x0  Q) nn x1 x2 x3 → ∀ (H : Heap) (locs : List Loc) (ls : Array Slot), va_P D vwCl [] H → va_D A [] → va_S A s.heap H locs → lv_has ls 5 [(0, .int x0), (1, .int x1), (2, .int x2), (3, .int x3)] → W p l e { frames := 2, cells := 0, slots := 0, locals := 43 } s m args below meth c H locs 0 0 (MQ below ((fun A => va_Qi (fun (r : Int32) (_ : Unit) => Q r ) (zE D vwCl A (fun (_ : Unit) => [])) A) A) args s 0 0 A) (F0 m 19 ls []) := by
      intro nn
      induction nn with
      | zero => intro x1 x2 x3 h; exact h.elim
      | succ nn hrc19 =>
        intro x1 x2 x3 h H locs ls hP hD hS hl
        have h : wb_X8_isMap_19 x0  Q (lpW3 (wb_X8_isMap_19 x0  Q) nn) x1 x2 x3 := h
        unfold wb_X8_isMap_19 at h
        refine lv_iload_n hx hb dX8_isMap_19 rfl (lv_at hl 3 rfl) ?_
        refine lv_iconst (v := (5 : Int32)) hx hb dX8_isMap_20 (by decide) ?_
        refine lv_icmp_ge (tgt := 77) hx hb dX8_isMap_21 (by decide) (fun c_14 => ?_) (fun c_14 => ?_)
        · have h := h.1 c_14
          refine lv_iload_n hx hb dX8_isMap_77 rfl (lv_at hl 2 rfl) ?_
          obtain ⟨hz, h⟩ := h
          exact z_zret () hx hb hr hlocks (isB.n hz) h hP hD hS dX8_isMap_78
        · have h := h.2 c_14
          refine lv_iload_n hx hb dX8_isMap_24 rfl (lv_at hl 0 rfl) ?_
          refine lv_iload_n hx hb dX8_isMap_25 rfl (lv_at hl 3 rfl) ?_
          refine zc_S0 (As := [.int x0, .int x3]) (rest := []) hx hb hml hown hts hK hPW hA hl.1 hP hS ⟨Nat.zero_le _, Nat.zero_le _⟩ (c_X8_to l D cy (sz := _) (x0 := x0) (x1 := x3) (h := h)) k_X8_103 ⟨rfl, rfl, (Nat.le_of_ble_eq_true rfl), (Nat.le_of_ble_eq_true rfl)⟩ rfl rfl (Nat.le_of_ble_eq_true rfl) dX8_isMap_26 (fun r_15 H locs h hP hS => ?_)
          refine lv_istore (lv' := [(4, .int r_15), (0, .int x0), (1, .int x1), (2, .int x2), (3, .int x3)]) hx hb dX8_isMap_29 hl (by decide) rfl (fun ls hl => ?_)
          refine lv_iload_n hx hb dX8_isMap_31 rfl (lv_at hl 3 rfl) ?_
          refine lv_if_eq (tgt := 53) hx hb dX8_isMap_32 (by decide) (fun c_16 => ?_) (fun c_16 => ?_)
          · have h := h.1 c_16
            refine lv_iconst (v := (0 : Int32)) hx hb dX8_isMap_53 (by decide) ?_
            exact hJ54 x0 x1 x3 r_15 (0 : Int32) _ hrc19  h _ _ _ hP hD hS (lv_sub hl [1, 2, 4, 0] rfl)
          · have h := h.2 c_16
            refine lv_iload hx hb dX8_isMap_35 (lv_at hl 0 rfl) ?_
            refine lv_if_lt (tgt := 49) hx hb dX8_isMap_37 (by decide) (fun c_17 => ?_) (fun c_17 => ?_)
            · have h := h.1 c_17
              refine lv_iconst (v := (1 : Int32)) hx hb dX8_isMap_49 (by decide) ?_
              refine lv_goto (tgt := 54) hx hb dX8_isMap_50 (by decide) ?_
              exact hJ54 x0 x1 x3 r_15 (1 : Int32) _ hrc19  h _ _ _ hP hD hS (lv_sub hl [1, 2, 4, 0] rfl)
            · have h := h.2 c_17
              refine lv_iload_n hx hb dX8_isMap_40 rfl (lv_at hl 2 rfl) ?_
              refine lv_iload hx hb dX8_isMap_41 (lv_at hl 0 rfl) ?_
              refine lv_ishr hx hb dX8_isMap_43 ?_
              refine lv_iconst (v := (1 : Int32)) hx hb dX8_isMap_44 (by decide) ?_
              refine lv_iand hx hb dX8_isMap_45 ?_
              refine lv_if_ne (tgt := 53) hx hb dX8_isMap_46 (by decide) (fun c_18 => ?_) (fun c_18 => ?_)
              · have h := h.1 c_18
                refine lv_iconst (v := (0 : Int32)) hx hb dX8_isMap_53 (by decide) ?_
                exact hJ54 x0 x1 x3 r_15 (0 : Int32) _ hrc19  h _ _ _ hP hD hS (lv_sub hl [1, 2, 4, 0] rfl)
              · have h := h.2 c_18
                refine lv_iconst (v := (1 : Int32)) hx hb dX8_isMap_49 (by decide) ?_
                refine lv_goto (tgt := 54) hx hb dX8_isMap_50 (by decide) ?_
                exact hJ54 x0 x1 x3 r_15 (1 : Int32) _ hrc19  h _ _ _ hP hD hS (lv_sub hl [1, 2, 4, 0] rfl)
    exact key nn x1 x2 x3 h
  unfold wp_X8_isMap at h
  refine lv_iload_n hx hb dX8_isMap_0 rfl (lv_at hl 0 rfl) ?_
  refine lv_iconst (v := (0 : Int32)) hx hb dX8_isMap_1 (by decide) ?_
  refine lv_sipush (v := (7775 : Int32)) hx hb dX8_isMap_2 (by decide) ?_
  refine zc_S0 (As := [.int x0, .int (0 : Int32), .int (7775 : Int32)]) (rest := []) hx hb hml hown hts hK hPW hA hl.1 hP hS ⟨Nat.zero_le _, Nat.zero_le _⟩ (c_X8_in l D cy (sz := _) (x0 := x0) (x1 := (0 : Int32)) (x2 := (7775 : Int32)) (h := h)) k_X8_91 ⟨rfl, rfl, (Nat.le_of_ble_eq_true rfl), (Nat.le_of_ble_eq_true rfl)⟩ rfl rfl (Nat.le_of_ble_eq_true rfl) dX8_isMap_5 (fun r_19 H locs h hP hS => ?_)
  refine lv_if_ne (tgt := 13) hx hb dX8_isMap_8 (by decide) (fun c_20 => ?_) (fun c_20 => ?_)
  · have h := h.1 c_20
    refine lv_iconst (v := (0 : Int32)) hx hb dX8_isMap_13 (by decide) ?_
    refine lv_istore_n (lv' := [(1, .int (0 : Int32)), (0, .int x0)]) hx hb dX8_isMap_14 rfl hl (by decide) rfl (fun ls hl => ?_)
    refine lv_iconst (v := (1 : Int32)) hx hb dX8_isMap_15 (by decide) ?_
    refine lv_istore_n (lv' := [(2, .int (1 : Int32)), (1, .int (0 : Int32)), (0, .int x0)]) hx hb dX8_isMap_16 rfl hl (by decide) rfl (fun ls hl => ?_)
    refine lv_iconst (v := (0 : Int32)) hx hb dX8_isMap_17 (by decide) ?_
    refine lv_istore_n (lv' := [(3, .int (0 : Int32)), (2, .int (1 : Int32)), (1, .int (0 : Int32)), (0, .int x0)]) hx hb dX8_isMap_18 rfl hl (by decide) rfl (fun ls hl => ?_)
    exact hJ19 x0 (0 : Int32) (1 : Int32) (0 : Int32)   h _ _ _ hP hD hS (lv_sub hl [3, 2, 1, 0] rfl)
  · have h := h.2 c_20
    refine lv_iconst (v := (0 : Int32)) hx hb dX8_isMap_11 (by decide) ?_
    exact z_zret () hx hb hr hlocks rfl h hP hD hS dX8_isMap_12
set_option maxHeartbeats 4000000 in
set_option maxRecDepth 100000 in
theorem c_X8_rank (l : Launch) (D : va_G) (cy : Nat → ClassId) (sz : Nat) (x0 : Int32) {Q : Int32 → Prop} (h : wp_X8_rank x0 Q) : Met l yX8_rank (wsU yX8_rank cX8_rank 3 (some .int)) { frames := 2, cells := 0, slots := 0, locals := 43 } (va_Pc [.int x0] (zB D vwCl (tyU cy) [] sz)) ((fun A => va_Qi (fun (r : Int32) (_ : Unit) => Q r ) (zE D vwCl A (fun (_ : Unit) => [])) A) (va_A [] sz)) 0 0 (va_A [] sz) := by
  refine z_ofX (fun A => va_Qi (fun (r : Int32) (_ : Unit) => Q r ) (zE D vwCl A (fun (_ : Unit) => [])) A) (by decide) (Nat.le_of_ble_eq_true rfl) (fun p e s m below meth c A ls hx hb hr hml hown hts hlocks hK hPW hA hP hD hS hl => ?_)
  have hl : lv_has ls 3 [(0, .int x0)] := hl
  have hown : s.vm.findClass RX8 = some m.cls := hown
  generalize hArg : ([.int x0] : List Value).toArray = args at hts ⊢
  have hJ23 : ∀ (x0 : Int32) (x2 : Int32) (t0 : Int32) (t1 : Int32) (rc4 : Int32 → Int32 → Prop) (hrc4 : ∀ (x1 : Int32) (x2 : Int32), rc4 x1 x2 → ∀ (H : Heap) (locs : List Loc) (ls : Array Slot), va_P D vwCl [] H → va_D A [] → va_S A s.heap H locs → lv_has ls 3 [(0, .int x0), (1, .int x1), (2, .int x2)] → W p l e { frames := 2, cells := 0, slots := 0, locals := 43 } s m args below meth c H locs 0 0 (MQ below ((fun A => va_Qi (fun (r : Int32) (_ : Unit) => Q r ) (zE D vwCl A (fun (_ : Unit) => [])) A) A) args s 0 0 A) (F0 m 4 ls [])), wp_X8_rank_23 x0 x2 t0 t1 rc4 Q → ∀ (H : Heap) (locs : List Loc) (ls : Array Slot), va_P D vwCl [] H → va_D A [] → va_S A s.heap H locs → lv_has ls 3 [(0, .int x0), (2, .int x2)] → W p l e { frames := 2, cells := 0, slots := 0, locals := 43 } s m args below meth c H locs 0 0 (MQ below ((fun A => va_Qi (fun (r : Int32) (_ : Unit) => Q r ) (zE D vwCl A (fun (_ : Unit) => [])) A) A) args s 0 0 A) (F0 m 23 ls [.int t1, .int t0]) := by
    intro x0 x2 t0 t1 rc4 hrc4  h H locs ls hP hD hS hl
    unfold wp_X8_rank_23 at h
    refine lv_iadd hx hb dX8_rank_23 ?_
    refine lv_topi (fun x1_6 e_x1_6 => ?_)
    have h := h x1_6 e_x1_6
    refine lv_istore_n (lv' := [(1, .int x1_6), (0, .int x0), (2, .int x2)]) hx hb dX8_rank_24 rfl hl (by decide) rfl (fun ls hl => ?_)
    obtain ⟨x2_7, e_x2_7⟩ : ∃ y : Int32, y = x2 + (1 : Int32) := ⟨_, rfl⟩
    refine lv_iinc (v := x2_7) (lv' := [(2, .int x2_7), (1, .int x1_6), (0, .int x0)]) hx hb dX8_rank_25 hl (k := 2) rfl (by rw [e_x2_7]; rfl) (by decide) rfl (fun ls hl => ?_)
    have h := h x2_7 e_x2_7
    refine lv_goto (tgt := 4) hx hb dX8_rank_28 (by decide) ?_
    exact hrc4 x1_6 x2_7 h _ _ _ hP hD hS (lv_sub hl [2, 1, 0] rfl)
  have hJ4 : ∀ (x0 : Int32) (x1 : Int32) (x2 : Int32), wp_X8_rank_4 x0  Q x1 x2 → ∀ (H : Heap) (locs : List Loc) (ls : Array Slot), va_P D vwCl [] H → va_D A [] → va_S A s.heap H locs → lv_has ls 3 [(0, .int x0), (1, .int x1), (2, .int x2)] → W p l e { frames := 2, cells := 0, slots := 0, locals := 43 } s m args below meth c H locs 0 0 (MQ below ((fun A => va_Qi (fun (r : Int32) (_ : Unit) => Q r ) (zE D vwCl A (fun (_ : Unit) => [])) A) A) args s 0 0 A) (F0 m 4 ls []) := by
    intro x0 x1 x2   h
    obtain ⟨nn, h⟩ := h
    have key : ∀ (nn : Nat) (x1 : Int32) (x2 : Int32), lpW2 (wb_X8_rank_4 x0  Q) nn x1 x2 → ∀ (H : Heap) (locs : List Loc) (ls : Array Slot), va_P D vwCl [] H → va_D A [] → va_S A s.heap H locs → lv_has ls 3 [(0, .int x0), (1, .int x1), (2, .int x2)] → W p l e { frames := 2, cells := 0, slots := 0, locals := 43 } s m args below meth c H locs 0 0 (MQ below ((fun A => va_Qi (fun (r : Int32) (_ : Unit) => Q r ) (zE D vwCl A (fun (_ : Unit) => [])) A) A) args s 0 0 A) (F0 m 4 ls []) := by
      intro nn
      induction nn with
      | zero => intro x1 x2 h; exact h.elim
      | succ nn hrc4 =>
        intro x1 x2 h H locs ls hP hD hS hl
        have h : wb_X8_rank_4 x0  Q (lpW2 (wb_X8_rank_4 x0  Q) nn) x1 x2 := h
        unfold wb_X8_rank_4 at h
        refine lv_iload_n hx hb dX8_rank_4 rfl (lv_at hl 2 rfl) ?_
        refine lv_iconst (v := (5 : Int32)) hx hb dX8_rank_5 (by decide) ?_
        refine lv_icmp_ge (tgt := 31) hx hb dX8_rank_6 (by decide) (fun c_8 => ?_) (fun c_8 => ?_)
        · have h := h.1 c_8
          refine lv_iload_n hx hb dX8_rank_31 rfl (lv_at hl 1 rfl) ?_
          exact z_iret () hx hb hr hlocks h hP hD hS dX8_rank_32
        · have h := h.2 c_8
          refine lv_iload_n hx hb dX8_rank_9 rfl (lv_at hl 1 rfl) ?_
          refine lv_iload_n hx hb dX8_rank_10 rfl (lv_at hl 0 rfl) ?_
          refine lv_iload_n hx hb dX8_rank_11 rfl (lv_at hl 2 rfl) ?_
          refine zc_S0 (As := [.int x0, .int x2]) (rest := [.int x1]) hx hb hml hown hts hK hPW hA hl.1 hP hS ⟨Nat.zero_le _, Nat.zero_le _⟩ (c_X8_to l D cy (sz := _) (x0 := x0) (x1 := x2) (h := h)) k_X8_103 ⟨rfl, rfl, (Nat.le_of_ble_eq_true rfl), (Nat.le_of_ble_eq_true rfl)⟩ rfl rfl (Nat.le_of_ble_eq_true rfl) dX8_rank_12 (fun r_9 H locs h hP hS => ?_)
          refine lv_if_ge (tgt := 22) hx hb dX8_rank_15 (by decide) (fun c_10 => ?_) (fun c_10 => ?_)
          · have h := h.1 c_10
            refine lv_iconst (v := (1 : Int32)) hx hb dX8_rank_22 (by decide) ?_
            exact hJ23 x0 x2 x1 (1 : Int32) _ hrc4  h _ _ _ hP hD hS (lv_sub hl [0, 2] rfl)
          · have h := h.2 c_10
            refine lv_iconst (v := (0 : Int32)) hx hb dX8_rank_18 (by decide) ?_
            refine lv_goto (tgt := 23) hx hb dX8_rank_19 (by decide) ?_
            exact hJ23 x0 x2 x1 (0 : Int32) _ hrc4  h _ _ _ hP hD hS (lv_sub hl [0, 2] rfl)
    exact key nn x1 x2 h
  unfold wp_X8_rank at h
  refine lv_iconst (v := (0 : Int32)) hx hb dX8_rank_0 (by decide) ?_
  refine lv_istore_n (lv' := [(1, .int (0 : Int32)), (0, .int x0)]) hx hb dX8_rank_1 rfl hl (by decide) rfl (fun ls hl => ?_)
  refine lv_iconst (v := (0 : Int32)) hx hb dX8_rank_2 (by decide) ?_
  refine lv_istore_n (lv' := [(2, .int (0 : Int32)), (1, .int (0 : Int32)), (0, .int x0)]) hx hb dX8_rank_3 rfl hl (by decide) rfl (fun ls hl => ?_)
  exact hJ4 x0 (0 : Int32) (0 : Int32)   h _ _ _ hP hD hS (lv_sub hl [2, 1, 0] rfl)
set_option maxHeartbeats 4000000 in
set_option maxRecDepth 100000 in
theorem c_X8_isIdempotent (l : Launch) (D : va_G) (cy : Nat → ClassId) (sz : Nat) (x0 : Int32) {Q : Int32 → Prop} (h : wp_X8_isIdempotent x0 Q) : Met l yX8_isIdempotent (wsU yX8_isIdempotent cX8_isIdempotent 3 (some .boolean)) { frames := 2, cells := 0, slots := 0, locals := 43 } (va_Pc [.int x0] (zB D vwCl (tyU cy) [] sz)) ((fun A => va_Qi (fun (r : Int32) (_ : Unit) => Q r ) (zE D vwCl A (fun (_ : Unit) => [])) A) (va_A [] sz)) 0 0 (va_A [] sz) := by
  refine z_ofX (fun A => va_Qi (fun (r : Int32) (_ : Unit) => Q r ) (zE D vwCl A (fun (_ : Unit) => [])) A) (by decide) (Nat.le_of_ble_eq_true rfl) (fun p e s m below meth c A ls hx hb hr hml hown hts hlocks hK hPW hA hP hD hS hl => ?_)
  have hl : lv_has ls 3 [(0, .int x0)] := hl
  have hown : s.vm.findClass RX8 = some m.cls := hown
  generalize hArg : ([.int x0] : List Value).toArray = args at hts ⊢
  have hJ35 : ∀ (x0 : Int32) (x2 : Int32) (t0 : Int32) (rc4 : Int32 → Int32 → Prop) (hrc4 : ∀ (x1 : Int32) (x2 : Int32), rc4 x1 x2 → ∀ (H : Heap) (locs : List Loc) (ls : Array Slot), va_P D vwCl [] H → va_D A [] → va_S A s.heap H locs → lv_has ls 3 [(0, .int x0), (1, .int x1), (2, .int x2)] → W p l e { frames := 2, cells := 0, slots := 0, locals := 43 } s m args below meth c H locs 0 0 (MQ below ((fun A => va_Qi (fun (r : Int32) (_ : Unit) => Q r ) (zE D vwCl A (fun (_ : Unit) => [])) A) A) args s 0 0 A) (F0 m 4 ls [])), wp_X8_isIdempotent_35 x0 x2 t0 rc4 Q → ∀ (H : Heap) (locs : List Loc) (ls : Array Slot), va_P D vwCl [] H → va_D A [] → va_S A s.heap H locs → lv_has ls 3 [(0, .int x0), (2, .int x2)] → W p l e { frames := 2, cells := 0, slots := 0, locals := 43 } s m args below meth c H locs 0 0 (MQ below ((fun A => va_Qi (fun (r : Int32) (_ : Unit) => Q r ) (zE D vwCl A (fun (_ : Unit) => [])) A) A) args s 0 0 A) (F0 m 35 ls [.int t0]) := by
    intro x0 x2 t0 rc4 hrc4  h H locs ls hP hD hS hl
    unfold wp_X8_isIdempotent_35 at h
    refine lv_istore_n (lv' := [(1, .int t0), (0, .int x0), (2, .int x2)]) hx hb dX8_isIdempotent_35 rfl hl (by decide) rfl (fun ls hl => ?_)
    obtain ⟨x2_8, e_x2_8⟩ : ∃ y : Int32, y = x2 + (1 : Int32) := ⟨_, rfl⟩
    refine lv_iinc (v := x2_8) (lv' := [(2, .int x2_8), (1, .int t0), (0, .int x0)]) hx hb dX8_isIdempotent_36 hl (k := 2) rfl (by rw [e_x2_8]; rfl) (by decide) rfl (fun ls hl => ?_)
    have h := h x2_8 e_x2_8
    refine lv_goto (tgt := 4) hx hb dX8_isIdempotent_39 (by decide) ?_
    exact hrc4 t0 x2_8 h _ _ _ hP hD hS (lv_sub hl [2, 1, 0] rfl)
  have hJ4 : ∀ (x0 : Int32) (x1 : Int32) (x2 : Int32), wp_X8_isIdempotent_4 x0  Q x1 x2 → ∀ (H : Heap) (locs : List Loc) (ls : Array Slot), va_P D vwCl [] H → va_D A [] → va_S A s.heap H locs → lv_has ls 3 [(0, .int x0), (1, .int x1), (2, .int x2)] → W p l e { frames := 2, cells := 0, slots := 0, locals := 43 } s m args below meth c H locs 0 0 (MQ below ((fun A => va_Qi (fun (r : Int32) (_ : Unit) => Q r ) (zE D vwCl A (fun (_ : Unit) => [])) A) A) args s 0 0 A) (F0 m 4 ls []) := by
    intro x0 x1 x2   h
    obtain ⟨nn, h⟩ := h
    have key : ∀ (nn : Nat) (x1 : Int32) (x2 : Int32), lpW2 (wb_X8_isIdempotent_4 x0  Q) nn x1 x2 → ∀ (H : Heap) (locs : List Loc) (ls : Array Slot), va_P D vwCl [] H → va_D A [] → va_S A s.heap H locs → lv_has ls 3 [(0, .int x0), (1, .int x1), (2, .int x2)] → W p l e { frames := 2, cells := 0, slots := 0, locals := 43 } s m args below meth c H locs 0 0 (MQ below ((fun A => va_Qi (fun (r : Int32) (_ : Unit) => Q r ) (zE D vwCl A (fun (_ : Unit) => [])) A) A) args s 0 0 A) (F0 m 4 ls []) := by
      intro nn
      induction nn with
      | zero => intro x1 x2 h; exact h.elim
      | succ nn hrc4 =>
        intro x1 x2 h H locs ls hP hD hS hl
        have h : wb_X8_isIdempotent_4 x0  Q (lpW2 (wb_X8_isIdempotent_4 x0  Q) nn) x1 x2 := h
        unfold wb_X8_isIdempotent_4 at h
        refine lv_iload_n hx hb dX8_isIdempotent_4 rfl (lv_at hl 2 rfl) ?_
        refine lv_iconst (v := (5 : Int32)) hx hb dX8_isIdempotent_5 (by decide) ?_
        refine lv_icmp_ge (tgt := 42) hx hb dX8_isIdempotent_6 (by decide) (fun c_9 => ?_) (fun c_9 => ?_)
        · have h := h.1 c_9
          refine lv_iload_n hx hb dX8_isIdempotent_42 rfl (lv_at hl 1 rfl) ?_
          obtain ⟨hz, h⟩ := h
          exact z_zret () hx hb hr hlocks (isB.n hz) h hP hD hS dX8_isIdempotent_43
        · have h := h.2 c_9
          refine lv_iload_n hx hb dX8_isIdempotent_9 rfl (lv_at hl 1 rfl) ?_
          refine lv_if_eq (tgt := 34) hx hb dX8_isIdempotent_10 (by decide) (fun c_10 => ?_) (fun c_10 => ?_)
          · have h := h.1 c_10
            refine lv_iconst (v := (0 : Int32)) hx hb dX8_isIdempotent_34 (by decide) ?_
            exact hJ35 x0 x2 (0 : Int32) _ hrc4  h _ _ _ hP hD hS (lv_sub hl [0, 2] rfl)
          · have h := h.2 c_10
            refine lv_iload_n hx hb dX8_isIdempotent_13 rfl (lv_at hl 0 rfl) ?_
            refine lv_iload_n hx hb dX8_isIdempotent_14 rfl (lv_at hl 2 rfl) ?_
            refine zc_S0 (As := [.int x0, .int x2]) (rest := []) hx hb hml hown hts hK hPW hA hl.1 hP hS ⟨Nat.zero_le _, Nat.zero_le _⟩ (c_X8_to l D cy (sz := _) (x0 := x0) (x1 := x2) (h := h)) k_X8_103 ⟨rfl, rfl, (Nat.le_of_ble_eq_true rfl), (Nat.le_of_ble_eq_true rfl)⟩ rfl rfl (Nat.le_of_ble_eq_true rfl) dX8_isIdempotent_15 (fun r_11 H locs h hP hS => ?_)
            refine lv_if_lt (tgt := 30) hx hb dX8_isIdempotent_18 (by decide) (fun c_12 => ?_) (fun c_12 => ?_)
            · have h := h.1 c_12
              refine lv_iconst (v := (1 : Int32)) hx hb dX8_isIdempotent_30 (by decide) ?_
              refine lv_goto (tgt := 35) hx hb dX8_isIdempotent_31 (by decide) ?_
              exact hJ35 x0 x2 (1 : Int32) _ hrc4  h _ _ _ hP hD hS (lv_sub hl [0, 2] rfl)
            · have h := h.2 c_12
              refine lv_iload_n hx hb dX8_isIdempotent_21 rfl (lv_at hl 0 rfl) ?_
              refine lv_iload_n hx hb dX8_isIdempotent_22 rfl (lv_at hl 2 rfl) ?_
              refine zc_S0 (As := [.int x0, .int x2]) (rest := []) hx hb hml hown hts hK hPW hA hl.1 hP hS ⟨Nat.zero_le _, Nat.zero_le _⟩ (c_X8_to l D cy (sz := _) (x0 := x0) (x1 := x2) (h := h)) k_X8_103 ⟨rfl, rfl, (Nat.le_of_ble_eq_true rfl), (Nat.le_of_ble_eq_true rfl)⟩ rfl rfl (Nat.le_of_ble_eq_true rfl) dX8_isIdempotent_23 (fun r_13 H locs h hP hS => ?_)
              refine lv_iload_n hx hb dX8_isIdempotent_26 rfl (lv_at hl 2 rfl) ?_
              refine lv_icmp_ne (tgt := 34) hx hb dX8_isIdempotent_27 (by decide) (fun c_14 => ?_) (fun c_14 => ?_)
              · have h := h.1 c_14
                refine lv_iconst (v := (0 : Int32)) hx hb dX8_isIdempotent_34 (by decide) ?_
                exact hJ35 x0 x2 (0 : Int32) _ hrc4  h _ _ _ hP hD hS (lv_sub hl [0, 2] rfl)
              · have h := h.2 c_14
                refine lv_iconst (v := (1 : Int32)) hx hb dX8_isIdempotent_30 (by decide) ?_
                refine lv_goto (tgt := 35) hx hb dX8_isIdempotent_31 (by decide) ?_
                exact hJ35 x0 x2 (1 : Int32) _ hrc4  h _ _ _ hP hD hS (lv_sub hl [0, 2] rfl)
    exact key nn x1 x2 h
  unfold wp_X8_isIdempotent at h
  refine lv_iconst (v := (1 : Int32)) hx hb dX8_isIdempotent_0 (by decide) ?_
  refine lv_istore_n (lv' := [(1, .int (1 : Int32)), (0, .int x0)]) hx hb dX8_isIdempotent_1 rfl hl (by decide) rfl (fun ls hl => ?_)
  refine lv_iconst (v := (0 : Int32)) hx hb dX8_isIdempotent_2 (by decide) ?_
  refine lv_istore_n (lv' := [(2, .int (0 : Int32)), (1, .int (1 : Int32)), (0, .int x0)]) hx hb dX8_isIdempotent_3 rfl hl (by decide) rfl (fun ls hl => ?_)
  exact hJ4 x0 (1 : Int32) (0 : Int32)   h _ _ _ hP hD hS (lv_sub hl [2, 1, 0] rfl)
set_option maxHeartbeats 4000000 in
set_option maxRecDepth 100000 in
theorem c_X8_then (l : Launch) (D : va_G) (cy : Nat → ClassId) (sz : Nat) (x0 : Int32) (x1 : Int32) {Q : Int32 → Prop} (h : wp_X8_then x0 x1 Q) : Met l yX8_then (wsU yX8_then cX8_then 5 (some .int)) { frames := 2, cells := 0, slots := 0, locals := 43 } (va_Pc [.int x0, .int x1] (zB D vwCl (tyU cy) [] sz)) ((fun A => va_Qi (fun (r : Int32) (_ : Unit) => Q r ) (zE D vwCl A (fun (_ : Unit) => [])) A) (va_A [] sz)) 0 0 (va_A [] sz) := by
  refine z_ofX (fun A => va_Qi (fun (r : Int32) (_ : Unit) => Q r ) (zE D vwCl A (fun (_ : Unit) => [])) A) (by decide) (Nat.le_of_ble_eq_true rfl) (fun p e s m below meth c A ls hx hb hr hml hown hts hlocks hK hPW hA hP hD hS hl => ?_)
  have hl : lv_has ls 5 [(0, .int x0), (1, .int x1)] := hl
  have hown : s.vm.findClass RX8 = some m.cls := hown
  generalize hArg : ([.int x0, .int x1] : List Value).toArray = args at hts ⊢
  have hJ43 : ∀ (x0 : Int32) (x1 : Int32) (x2 : Int32) (x3 : Int32) (rc4 : Int32 → Int32 → Prop) (hrc4 : ∀ (x2 : Int32) (x3 : Int32), rc4 x2 x3 → ∀ (H : Heap) (locs : List Loc) (ls : Array Slot), va_P D vwCl [] H → va_D A [] → va_S A s.heap H locs → lv_has ls 5 [(0, .int x0), (1, .int x1), (2, .int x2), (3, .int x3)] → W p l e { frames := 2, cells := 0, slots := 0, locals := 43 } s m args below meth c H locs 0 0 (MQ below ((fun A => va_Qi (fun (r : Int32) (_ : Unit) => Q r ) (zE D vwCl A (fun (_ : Unit) => [])) A) A) args s 0 0 A) (F0 m 4 ls [])), wp_X8_then_43 x0 x1 x2 x3 rc4 Q → ∀ (H : Heap) (locs : List Loc) (ls : Array Slot), va_P D vwCl [] H → va_D A [] → va_S A s.heap H locs → lv_has ls 5 [(0, .int x0), (1, .int x1), (2, .int x2), (3, .int x3)] → W p l e { frames := 2, cells := 0, slots := 0, locals := 43 } s m args below meth c H locs 0 0 (MQ below ((fun A => va_Qi (fun (r : Int32) (_ : Unit) => Q r ) (zE D vwCl A (fun (_ : Unit) => [])) A) A) args s 0 0 A) (F0 m 43 ls []) := by
    intro x0 x1 x2 x3 rc4 hrc4  h H locs ls hP hD hS hl
    unfold wp_X8_then_43 at h
    obtain ⟨x3_10, e_x3_10⟩ : ∃ y : Int32, y = x3 + (1 : Int32) := ⟨_, rfl⟩
    refine lv_iinc (v := x3_10) (lv' := [(3, .int x3_10), (0, .int x0), (1, .int x1), (2, .int x2)]) hx hb dX8_then_43 hl (k := 3) rfl (by rw [e_x3_10]; rfl) (by decide) rfl (fun ls hl => ?_)
    have h := h x3_10 e_x3_10
    refine lv_goto (tgt := 4) hx hb dX8_then_46 (by decide) ?_
    exact hrc4 x2 x3_10 h _ _ _ hP hD hS (lv_sub hl [1, 2, 3, 0] rfl)
  have hJ4 : ∀ (x0 : Int32) (x1 : Int32) (x2 : Int32) (x3 : Int32), wp_X8_then_4 x0 x1  Q x2 x3 → ∀ (H : Heap) (locs : List Loc) (ls : Array Slot), va_P D vwCl [] H → va_D A [] → va_S A s.heap H locs → lv_has ls 5 [(0, .int x0), (1, .int x1), (2, .int x2), (3, .int x3)] → W p l e { frames := 2, cells := 0, slots := 0, locals := 43 } s m args below meth c H locs 0 0 (MQ below ((fun A => va_Qi (fun (r : Int32) (_ : Unit) => Q r ) (zE D vwCl A (fun (_ : Unit) => [])) A) A) args s 0 0 A) (F0 m 4 ls []) := by
    intro x0 x1 x2 x3   h
    obtain ⟨nn, h⟩ := h
    have key : ∀ (nn : Nat) (x2 : Int32) (x3 : Int32), lpW2 (wb_X8_then_4 x0 x1  Q) nn x2 x3 → ∀ (H : Heap) (locs : List Loc) (ls : Array Slot), va_P D vwCl [] H → va_D A [] → va_S A s.heap H locs → lv_has ls 5 [(0, .int x0), (1, .int x1), (2, .int x2), (3, .int x3)] → W p l e { frames := 2, cells := 0, slots := 0, locals := 43 } s m args below meth c H locs 0 0 (MQ below ((fun A => va_Qi (fun (r : Int32) (_ : Unit) => Q r ) (zE D vwCl A (fun (_ : Unit) => [])) A) A) args s 0 0 A) (F0 m 4 ls []) := by
      intro nn
      induction nn with
      | zero => intro x2 x3 h; exact h.elim
      | succ nn hrc4 =>
        intro x2 x3 h H locs ls hP hD hS hl
        have h : wb_X8_then_4 x0 x1  Q (lpW2 (wb_X8_then_4 x0 x1  Q) nn) x2 x3 := h
        unfold wb_X8_then_4 at h
        refine lv_iload_n hx hb dX8_then_4 rfl (lv_at hl 3 rfl) ?_
        refine lv_iconst (v := (5 : Int32)) hx hb dX8_then_5 (by decide) ?_
        refine lv_icmp_ge (tgt := 49) hx hb dX8_then_6 (by decide) (fun c_11 => ?_) (fun c_11 => ?_)
        · have h := h.1 c_11
          refine lv_iload_n hx hb dX8_then_49 rfl (lv_at hl 2 rfl) ?_
          exact z_iret () hx hb hr hlocks h hP hD hS dX8_then_50
        · have h := h.2 c_11
          refine lv_iload_n hx hb dX8_then_9 rfl (lv_at hl 0 rfl) ?_
          refine lv_iload_n hx hb dX8_then_10 rfl (lv_at hl 3 rfl) ?_
          refine zc_S0 (As := [.int x0, .int x3]) (rest := []) hx hb hml hown hts hK hPW hA hl.1 hP hS ⟨Nat.zero_le _, Nat.zero_le _⟩ (c_X8_to l D cy (sz := _) (x0 := x0) (x1 := x3) (h := h)) k_X8_103 ⟨rfl, rfl, (Nat.le_of_ble_eq_true rfl), (Nat.le_of_ble_eq_true rfl)⟩ rfl rfl (Nat.le_of_ble_eq_true rfl) dX8_then_11 (fun r_12 H locs h hP hS => ?_)
          refine lv_istore (lv' := [(4, .int r_12), (0, .int x0), (1, .int x1), (2, .int x2), (3, .int x3)]) hx hb dX8_then_14 hl (by decide) rfl (fun ls hl => ?_)
          refine lv_iload hx hb dX8_then_16 (lv_at hl 0 rfl) ?_
          refine lv_if_lt (tgt := 43) hx hb dX8_then_18 (by decide) (fun c_13 => ?_) (fun c_13 => ?_)
          · have h := h.1 c_13
            exact hJ43 x0 x1 x2 x3 _ hrc4  h _ _ _ hP hD hS (lv_sub hl [1, 2, 3, 4] rfl)
          · have h := h.2 c_13
            refine lv_iload_n hx hb dX8_then_21 rfl (lv_at hl 2 rfl) ?_
            refine lv_iload hx hb dX8_then_22 (lv_at hl 0 rfl) ?_
            refine zc_S0 (As := [.int x1, .int r_12]) (rest := []) hx hb hml hown hts hK hPW hA hl.1 hP hS ⟨Nat.zero_le _, Nat.zero_le _⟩ (c_X8_to l D cy (sz := _) (x0 := x1) (x1 := r_12) (h := h)) k_X8_103 ⟨rfl, rfl, (Nat.le_of_ble_eq_true rfl), (Nat.le_of_ble_eq_true rfl)⟩ rfl rfl (Nat.le_of_ble_eq_true rfl) dX8_then_24 (fun r_14 H locs h hP hS => ?_)
            refine lv_if_lt (tgt := 43) hx hb dX8_then_27 (by decide) (fun c_15 => ?_) (fun c_15 => ?_)
            · have h := h.1 c_15
              exact hJ43 x0 x1 x2 x3 _ hrc4  h _ _ _ hP hD hS (lv_sub hl [1, 2, 3, 4] rfl)
            · have h := h.2 c_15
              refine lv_iload_n hx hb dX8_then_30 rfl (lv_at hl 3 rfl) ?_
              refine lv_iload_n hx hb dX8_then_31 rfl (lv_at hl 4 rfl) ?_
              refine lv_iload_n hx hb dX8_then_32 rfl (lv_at hl 2 rfl) ?_
              refine lv_iload hx hb dX8_then_33 (lv_at hl 0 rfl) ?_
              refine zc_S0 (As := [.int x1, .int r_12]) (rest := [.int x3, .int x2]) hx hb hml hown hts hK hPW hA hl.1 hP hS ⟨Nat.zero_le _, Nat.zero_le _⟩ (c_X8_to l D cy (sz := _) (x0 := x1) (x1 := r_12) (h := h)) k_X8_103 ⟨rfl, rfl, (Nat.le_of_ble_eq_true rfl), (Nat.le_of_ble_eq_true rfl)⟩ rfl rfl (Nat.le_of_ble_eq_true rfl) dX8_then_35 (fun r_16 H locs h hP hS => ?_)
              refine zc_S0 (As := [.int x3, .int r_16]) (rest := [.int x2]) hx hb hml hown hts hK hPW hA hl.1 hP hS ⟨Nat.zero_le _, Nat.zero_le _⟩ (c_X8_put l D cy (sz := _) (x0 := x3) (x1 := r_16) (h := h)) k_X8_99 ⟨rfl, rfl, (Nat.le_of_ble_eq_true rfl), (Nat.le_of_ble_eq_true rfl)⟩ rfl rfl (Nat.le_of_ble_eq_true rfl) dX8_then_38 (fun r_17 H locs h hP hS => ?_)
              refine lv_iadd hx hb dX8_then_41 ?_
              refine lv_topi (fun x2_18 e_x2_18 => ?_)
              have h := h x2_18 e_x2_18
              refine lv_istore_n (lv' := [(2, .int x2_18), (4, .int r_12), (0, .int x0), (1, .int x1), (3, .int x3)]) hx hb dX8_then_42 rfl hl (by decide) rfl (fun ls hl => ?_)
              exact hJ43 x0 x1 x2_18 x3 _ hrc4  h _ _ _ hP hD hS (lv_sub hl [2, 3, 0, 4] rfl)
    exact key nn x2 x3 h
  unfold wp_X8_then at h
  refine lv_iconst (v := (0 : Int32)) hx hb dX8_then_0 (by decide) ?_
  refine lv_istore_n (lv' := [(2, .int (0 : Int32)), (0, .int x0), (1, .int x1)]) hx hb dX8_then_1 rfl hl (by decide) rfl (fun ls hl => ?_)
  refine lv_iconst (v := (0 : Int32)) hx hb dX8_then_2 (by decide) ?_
  refine lv_istore_n (lv' := [(3, .int (0 : Int32)), (2, .int (0 : Int32)), (0, .int x0), (1, .int x1)]) hx hb dX8_then_3 rfl hl (by decide) rfl (fun ls hl => ?_)
  exact hJ4 x0 x1 (0 : Int32) (0 : Int32)   h _ _ _ hP hD hS (lv_sub hl [2, 3, 1, 0] rfl)
set_option maxHeartbeats 4000000 in
set_option maxRecDepth 100000 in
theorem c_X8_inverse (l : Launch) (D : va_G) (cy : Nat → ClassId) (sz : Nat) (x0 : Int32) {Q : Int32 → Prop} (h : wp_X8_inverse x0 Q) : Met l yX8_inverse (wsU yX8_inverse cX8_inverse 3 (some .int)) { frames := 2, cells := 0, slots := 0, locals := 43 } (va_Pc [.int x0] (zB D vwCl (tyU cy) [] sz)) ((fun A => va_Qi (fun (r : Int32) (_ : Unit) => Q r ) (zE D vwCl A (fun (_ : Unit) => [])) A) (va_A [] sz)) 0 0 (va_A [] sz) := by
  refine z_ofX (fun A => va_Qi (fun (r : Int32) (_ : Unit) => Q r ) (zE D vwCl A (fun (_ : Unit) => [])) A) (by decide) (Nat.le_of_ble_eq_true rfl) (fun p e s m below meth c A ls hx hb hr hml hown hts hlocks hK hPW hA hP hD hS hl => ?_)
  have hl : lv_has ls 3 [(0, .int x0)] := hl
  have hown : s.vm.findClass RX8 = some m.cls := hown
  generalize hArg : ([.int x0] : List Value).toArray = args at hts ⊢
  have hJ31 : ∀ (x0 : Int32) (x2 : Int32) (t0 : Int32) (t1 : Int32) (rc4 : Int32 → Int32 → Prop) (hrc4 : ∀ (x1 : Int32) (x2 : Int32), rc4 x1 x2 → ∀ (H : Heap) (locs : List Loc) (ls : Array Slot), va_P D vwCl [] H → va_D A [] → va_S A s.heap H locs → lv_has ls 3 [(0, .int x0), (1, .int x1), (2, .int x2)] → W p l e { frames := 2, cells := 0, slots := 0, locals := 43 } s m args below meth c H locs 0 0 (MQ below ((fun A => va_Qi (fun (r : Int32) (_ : Unit) => Q r ) (zE D vwCl A (fun (_ : Unit) => [])) A) A) args s 0 0 A) (F0 m 4 ls [])), wp_X8_inverse_31 x0 x2 t0 t1 rc4 Q → ∀ (H : Heap) (locs : List Loc) (ls : Array Slot), va_P D vwCl [] H → va_D A [] → va_S A s.heap H locs → lv_has ls 3 [(0, .int x0), (2, .int x2)] → W p l e { frames := 2, cells := 0, slots := 0, locals := 43 } s m args below meth c H locs 0 0 (MQ below ((fun A => va_Qi (fun (r : Int32) (_ : Unit) => Q r ) (zE D vwCl A (fun (_ : Unit) => [])) A) A) args s 0 0 A) (F0 m 31 ls [.int t1, .int t0]) := by
    intro x0 x2 t0 t1 rc4 hrc4  h H locs ls hP hD hS hl
    unfold wp_X8_inverse_31 at h
    refine lv_iadd hx hb dX8_inverse_31 ?_
    refine lv_topi (fun x1_8 e_x1_8 => ?_)
    have h := h x1_8 e_x1_8
    refine lv_istore_n (lv' := [(1, .int x1_8), (0, .int x0), (2, .int x2)]) hx hb dX8_inverse_32 rfl hl (by decide) rfl (fun ls hl => ?_)
    obtain ⟨x2_9, e_x2_9⟩ : ∃ y : Int32, y = x2 + (1 : Int32) := ⟨_, rfl⟩
    refine lv_iinc (v := x2_9) (lv' := [(2, .int x2_9), (1, .int x1_8), (0, .int x0)]) hx hb dX8_inverse_33 hl (k := 2) rfl (by rw [e_x2_9]; rfl) (by decide) rfl (fun ls hl => ?_)
    have h := h x2_9 e_x2_9
    refine lv_goto (tgt := 4) hx hb dX8_inverse_36 (by decide) ?_
    exact hrc4 x1_8 x2_9 h _ _ _ hP hD hS (lv_sub hl [2, 1, 0] rfl)
  have hJ4 : ∀ (x0 : Int32) (x1 : Int32) (x2 : Int32), wp_X8_inverse_4 x0  Q x1 x2 → ∀ (H : Heap) (locs : List Loc) (ls : Array Slot), va_P D vwCl [] H → va_D A [] → va_S A s.heap H locs → lv_has ls 3 [(0, .int x0), (1, .int x1), (2, .int x2)] → W p l e { frames := 2, cells := 0, slots := 0, locals := 43 } s m args below meth c H locs 0 0 (MQ below ((fun A => va_Qi (fun (r : Int32) (_ : Unit) => Q r ) (zE D vwCl A (fun (_ : Unit) => [])) A) A) args s 0 0 A) (F0 m 4 ls []) := by
    intro x0 x1 x2   h
    obtain ⟨nn, h⟩ := h
    have key : ∀ (nn : Nat) (x1 : Int32) (x2 : Int32), lpW2 (wb_X8_inverse_4 x0  Q) nn x1 x2 → ∀ (H : Heap) (locs : List Loc) (ls : Array Slot), va_P D vwCl [] H → va_D A [] → va_S A s.heap H locs → lv_has ls 3 [(0, .int x0), (1, .int x1), (2, .int x2)] → W p l e { frames := 2, cells := 0, slots := 0, locals := 43 } s m args below meth c H locs 0 0 (MQ below ((fun A => va_Qi (fun (r : Int32) (_ : Unit) => Q r ) (zE D vwCl A (fun (_ : Unit) => [])) A) A) args s 0 0 A) (F0 m 4 ls []) := by
      intro nn
      induction nn with
      | zero => intro x1 x2 h; exact h.elim
      | succ nn hrc4 =>
        intro x1 x2 h H locs ls hP hD hS hl
        have h : wb_X8_inverse_4 x0  Q (lpW2 (wb_X8_inverse_4 x0  Q) nn) x1 x2 := h
        unfold wb_X8_inverse_4 at h
        refine lv_iload_n hx hb dX8_inverse_4 rfl (lv_at hl 2 rfl) ?_
        refine lv_iconst (v := (5 : Int32)) hx hb dX8_inverse_5 (by decide) ?_
        refine lv_icmp_ge (tgt := 39) hx hb dX8_inverse_6 (by decide) (fun c_10 => ?_) (fun c_10 => ?_)
        · have h := h.1 c_10
          refine lv_iload_n hx hb dX8_inverse_39 rfl (lv_at hl 1 rfl) ?_
          exact z_iret () hx hb hr hlocks h hP hD hS dX8_inverse_40
        · have h := h.2 c_10
          refine lv_iload_n hx hb dX8_inverse_9 rfl (lv_at hl 1 rfl) ?_
          refine lv_iload_n hx hb dX8_inverse_10 rfl (lv_at hl 0 rfl) ?_
          refine lv_iload_n hx hb dX8_inverse_11 rfl (lv_at hl 2 rfl) ?_
          refine zc_S0 (As := [.int x0, .int x2]) (rest := [.int x1]) hx hb hml hown hts hK hPW hA hl.1 hP hS ⟨Nat.zero_le _, Nat.zero_le _⟩ (c_X8_to l D cy (sz := _) (x0 := x0) (x1 := x2) (h := h)) k_X8_103 ⟨rfl, rfl, (Nat.le_of_ble_eq_true rfl), (Nat.le_of_ble_eq_true rfl)⟩ rfl rfl (Nat.le_of_ble_eq_true rfl) dX8_inverse_12 (fun r_11 H locs h hP hS => ?_)
          refine lv_if_ge (tgt := 22) hx hb dX8_inverse_15 (by decide) (fun c_12 => ?_) (fun c_12 => ?_)
          · have h := h.1 c_12
            refine lv_iload_n hx hb dX8_inverse_22 rfl (lv_at hl 0 rfl) ?_
            refine lv_iload_n hx hb dX8_inverse_23 rfl (lv_at hl 2 rfl) ?_
            refine zc_S0 (As := [.int x0, .int x2]) (rest := [.int x1]) hx hb hml hown hts hK hPW hA hl.1 hP hS ⟨Nat.zero_le _, Nat.zero_le _⟩ (c_X8_to l D cy (sz := _) (x0 := x0) (x1 := x2) (h := h)) k_X8_103 ⟨rfl, rfl, (Nat.le_of_ble_eq_true rfl), (Nat.le_of_ble_eq_true rfl)⟩ rfl rfl (Nat.le_of_ble_eq_true rfl) dX8_inverse_24 (fun r_13 H locs h hP hS => ?_)
            refine lv_iload_n hx hb dX8_inverse_27 rfl (lv_at hl 2 rfl) ?_
            refine zc_S0 (As := [.int r_13, .int x2]) (rest := [.int x1]) hx hb hml hown hts hK hPW hA hl.1 hP hS ⟨Nat.zero_le _, Nat.zero_le _⟩ (c_X8_put l D cy (sz := _) (x0 := r_13) (x1 := x2) (h := h)) k_X8_99 ⟨rfl, rfl, (Nat.le_of_ble_eq_true rfl), (Nat.le_of_ble_eq_true rfl)⟩ rfl rfl (Nat.le_of_ble_eq_true rfl) dX8_inverse_28 (fun r_14 H locs h hP hS => ?_)
            exact hJ31 x0 x2 x1 r_14 _ hrc4  h _ _ _ hP hD hS (lv_sub hl [0, 2] rfl)
          · have h := h.2 c_12
            refine lv_iconst (v := (0 : Int32)) hx hb dX8_inverse_18 (by decide) ?_
            refine lv_goto (tgt := 31) hx hb dX8_inverse_19 (by decide) ?_
            exact hJ31 x0 x2 x1 (0 : Int32) _ hrc4  h _ _ _ hP hD hS (lv_sub hl [0, 2] rfl)
    exact key nn x1 x2 h
  unfold wp_X8_inverse at h
  refine lv_iconst (v := (0 : Int32)) hx hb dX8_inverse_0 (by decide) ?_
  refine lv_istore_n (lv' := [(1, .int (0 : Int32)), (0, .int x0)]) hx hb dX8_inverse_1 rfl hl (by decide) rfl (fun ls hl => ?_)
  refine lv_iconst (v := (0 : Int32)) hx hb dX8_inverse_2 (by decide) ?_
  refine lv_istore_n (lv' := [(2, .int (0 : Int32)), (1, .int (0 : Int32)), (0, .int x0)]) hx hb dX8_inverse_3 rfl hl (by decide) rfl (fun ls hl => ?_)
  exact hJ4 x0 (0 : Int32) (0 : Int32)   h _ _ _ hP hD hS (lv_sub hl [2, 1, 0] rfl)
set_option maxHeartbeats 4000000 in
set_option maxRecDepth 100000 in
theorem c_X8_dom (l : Launch) (D : va_G) (cy : Nat → ClassId) (sz : Nat) (x0 : Int32) {Q : Int32 → Prop} (h : wp_X8_dom x0 Q) : Met l yX8_dom (wsU yX8_dom cX8_dom 3 (some .int)) { frames := 2, cells := 0, slots := 0, locals := 43 } (va_Pc [.int x0] (zB D vwCl (tyU cy) [] sz)) ((fun A => va_Qi (fun (r : Int32) (_ : Unit) => Q r ) (zE D vwCl A (fun (_ : Unit) => [])) A) (va_A [] sz)) 0 0 (va_A [] sz) := by
  refine z_ofX (fun A => va_Qi (fun (r : Int32) (_ : Unit) => Q r ) (zE D vwCl A (fun (_ : Unit) => [])) A) (by decide) (Nat.le_of_ble_eq_true rfl) (fun p e s m below meth c A ls hx hb hr hml hown hts hlocks hK hPW hA hP hD hS hl => ?_)
  have hl : lv_has ls 3 [(0, .int x0)] := hl
  have hown : s.vm.findClass RX8 = some m.cls := hown
  generalize hArg : ([.int x0] : List Value).toArray = args at hts ⊢
  have hJ27 : ∀ (x0 : Int32) (x2 : Int32) (t0 : Int32) (t1 : Int32) (rc4 : Int32 → Int32 → Prop) (hrc4 : ∀ (x1 : Int32) (x2 : Int32), rc4 x1 x2 → ∀ (H : Heap) (locs : List Loc) (ls : Array Slot), va_P D vwCl [] H → va_D A [] → va_S A s.heap H locs → lv_has ls 3 [(0, .int x0), (1, .int x1), (2, .int x2)] → W p l e { frames := 2, cells := 0, slots := 0, locals := 43 } s m args below meth c H locs 0 0 (MQ below ((fun A => va_Qi (fun (r : Int32) (_ : Unit) => Q r ) (zE D vwCl A (fun (_ : Unit) => [])) A) A) args s 0 0 A) (F0 m 4 ls [])), wp_X8_dom_27 x0 x2 t0 t1 rc4 Q → ∀ (H : Heap) (locs : List Loc) (ls : Array Slot), va_P D vwCl [] H → va_D A [] → va_S A s.heap H locs → lv_has ls 3 [(0, .int x0), (2, .int x2)] → W p l e { frames := 2, cells := 0, slots := 0, locals := 43 } s m args below meth c H locs 0 0 (MQ below ((fun A => va_Qi (fun (r : Int32) (_ : Unit) => Q r ) (zE D vwCl A (fun (_ : Unit) => [])) A) A) args s 0 0 A) (F0 m 27 ls [.int t1, .int t0]) := by
    intro x0 x2 t0 t1 rc4 hrc4  h H locs ls hP hD hS hl
    unfold wp_X8_dom_27 at h
    refine lv_iadd hx hb dX8_dom_27 ?_
    refine lv_topi (fun x1_7 e_x1_7 => ?_)
    have h := h x1_7 e_x1_7
    refine lv_istore_n (lv' := [(1, .int x1_7), (0, .int x0), (2, .int x2)]) hx hb dX8_dom_28 rfl hl (by decide) rfl (fun ls hl => ?_)
    obtain ⟨x2_8, e_x2_8⟩ : ∃ y : Int32, y = x2 + (1 : Int32) := ⟨_, rfl⟩
    refine lv_iinc (v := x2_8) (lv' := [(2, .int x2_8), (1, .int x1_7), (0, .int x0)]) hx hb dX8_dom_29 hl (k := 2) rfl (by rw [e_x2_8]; rfl) (by decide) rfl (fun ls hl => ?_)
    have h := h x2_8 e_x2_8
    refine lv_goto (tgt := 4) hx hb dX8_dom_32 (by decide) ?_
    exact hrc4 x1_7 x2_8 h _ _ _ hP hD hS (lv_sub hl [2, 1, 0] rfl)
  have hJ4 : ∀ (x0 : Int32) (x1 : Int32) (x2 : Int32), wp_X8_dom_4 x0  Q x1 x2 → ∀ (H : Heap) (locs : List Loc) (ls : Array Slot), va_P D vwCl [] H → va_D A [] → va_S A s.heap H locs → lv_has ls 3 [(0, .int x0), (1, .int x1), (2, .int x2)] → W p l e { frames := 2, cells := 0, slots := 0, locals := 43 } s m args below meth c H locs 0 0 (MQ below ((fun A => va_Qi (fun (r : Int32) (_ : Unit) => Q r ) (zE D vwCl A (fun (_ : Unit) => [])) A) A) args s 0 0 A) (F0 m 4 ls []) := by
    intro x0 x1 x2   h
    obtain ⟨nn, h⟩ := h
    have key : ∀ (nn : Nat) (x1 : Int32) (x2 : Int32), lpW2 (wb_X8_dom_4 x0  Q) nn x1 x2 → ∀ (H : Heap) (locs : List Loc) (ls : Array Slot), va_P D vwCl [] H → va_D A [] → va_S A s.heap H locs → lv_has ls 3 [(0, .int x0), (1, .int x1), (2, .int x2)] → W p l e { frames := 2, cells := 0, slots := 0, locals := 43 } s m args below meth c H locs 0 0 (MQ below ((fun A => va_Qi (fun (r : Int32) (_ : Unit) => Q r ) (zE D vwCl A (fun (_ : Unit) => [])) A) A) args s 0 0 A) (F0 m 4 ls []) := by
      intro nn
      induction nn with
      | zero => intro x1 x2 h; exact h.elim
      | succ nn hrc4 =>
        intro x1 x2 h H locs ls hP hD hS hl
        have h : wb_X8_dom_4 x0  Q (lpW2 (wb_X8_dom_4 x0  Q) nn) x1 x2 := h
        unfold wb_X8_dom_4 at h
        refine lv_iload_n hx hb dX8_dom_4 rfl (lv_at hl 2 rfl) ?_
        refine lv_iconst (v := (5 : Int32)) hx hb dX8_dom_5 (by decide) ?_
        refine lv_icmp_ge (tgt := 35) hx hb dX8_dom_6 (by decide) (fun c_9 => ?_) (fun c_9 => ?_)
        · have h := h.1 c_9
          refine lv_iload_n hx hb dX8_dom_35 rfl (lv_at hl 1 rfl) ?_
          exact z_iret () hx hb hr hlocks h hP hD hS dX8_dom_36
        · have h := h.2 c_9
          refine lv_iload_n hx hb dX8_dom_9 rfl (lv_at hl 1 rfl) ?_
          refine lv_iload_n hx hb dX8_dom_10 rfl (lv_at hl 0 rfl) ?_
          refine lv_iload_n hx hb dX8_dom_11 rfl (lv_at hl 2 rfl) ?_
          refine zc_S0 (As := [.int x0, .int x2]) (rest := [.int x1]) hx hb hml hown hts hK hPW hA hl.1 hP hS ⟨Nat.zero_le _, Nat.zero_le _⟩ (c_X8_to l D cy (sz := _) (x0 := x0) (x1 := x2) (h := h)) k_X8_103 ⟨rfl, rfl, (Nat.le_of_ble_eq_true rfl), (Nat.le_of_ble_eq_true rfl)⟩ rfl rfl (Nat.le_of_ble_eq_true rfl) dX8_dom_12 (fun r_10 H locs h hP hS => ?_)
          refine lv_if_ge (tgt := 22) hx hb dX8_dom_15 (by decide) (fun c_11 => ?_) (fun c_11 => ?_)
          · have h := h.1 c_11
            refine lv_iload_n hx hb dX8_dom_22 rfl (lv_at hl 2 rfl) ?_
            refine lv_iload_n hx hb dX8_dom_23 rfl (lv_at hl 2 rfl) ?_
            refine zc_S0 (As := [.int x2, .int x2]) (rest := [.int x1]) hx hb hml hown hts hK hPW hA hl.1 hP hS ⟨Nat.zero_le _, Nat.zero_le _⟩ (c_X8_put l D cy (sz := _) (x0 := x2) (x1 := x2) (h := h)) k_X8_99 ⟨rfl, rfl, (Nat.le_of_ble_eq_true rfl), (Nat.le_of_ble_eq_true rfl)⟩ rfl rfl (Nat.le_of_ble_eq_true rfl) dX8_dom_24 (fun r_12 H locs h hP hS => ?_)
            exact hJ27 x0 x2 x1 r_12 _ hrc4  h _ _ _ hP hD hS (lv_sub hl [0, 2] rfl)
          · have h := h.2 c_11
            refine lv_iconst (v := (0 : Int32)) hx hb dX8_dom_18 (by decide) ?_
            refine lv_goto (tgt := 27) hx hb dX8_dom_19 (by decide) ?_
            exact hJ27 x0 x2 x1 (0 : Int32) _ hrc4  h _ _ _ hP hD hS (lv_sub hl [0, 2] rfl)
    exact key nn x1 x2 h
  unfold wp_X8_dom at h
  refine lv_iconst (v := (0 : Int32)) hx hb dX8_dom_0 (by decide) ?_
  refine lv_istore_n (lv' := [(1, .int (0 : Int32)), (0, .int x0)]) hx hb dX8_dom_1 rfl hl (by decide) rfl (fun ls hl => ?_)
  refine lv_iconst (v := (0 : Int32)) hx hb dX8_dom_2 (by decide) ?_
  refine lv_istore_n (lv' := [(2, .int (0 : Int32)), (1, .int (0 : Int32)), (0, .int x0)]) hx hb dX8_dom_3 rfl hl (by decide) rfl (fun ls hl => ?_)
  exact hJ4 x0 (0 : Int32) (0 : Int32)   h _ _ _ hP hD hS (lv_sub hl [2, 1, 0] rfl)
set_option maxHeartbeats 4000000 in
set_option maxRecDepth 100000 in
theorem c_X8_ran (l : Launch) (D : va_G) (cy : Nat → ClassId) (sz : Nat) (x0 : Int32) {Q : Int32 → Prop} (h : wp_X8_ran x0 Q) : Met l yX8_ran (wsU yX8_ran cX8_ran 1 (some .int)) { frames := 3, cells := 0, slots := 0, locals := 65 } (va_Pc [.int x0] (zB D vwCl (tyU cy) [] sz)) ((fun A => va_Qi (fun (r : Int32) (_ : Unit) => Q r ) (zE D vwCl A (fun (_ : Unit) => [])) A) (va_A [] sz)) 0 0 (va_A [] sz) := by
  refine z_ofX (fun A => va_Qi (fun (r : Int32) (_ : Unit) => Q r ) (zE D vwCl A (fun (_ : Unit) => [])) A) (by decide) (Nat.le_of_ble_eq_true rfl) (fun p e s m below meth c A ls hx hb hr hml hown hts hlocks hK hPW hA hP hD hS hl => ?_)
  have hl : lv_has ls 1 [(0, .int x0)] := hl
  have hown : s.vm.findClass RX8 = some m.cls := hown
  unfold wp_X8_ran at h
  refine lv_iload_n hx hb dX8_ran_0 rfl (lv_at hl 0 rfl) ?_
  refine zc_S0 (As := [.int x0]) (rest := []) hx hb hml hown hts hK hPW hA hl.1 hP hS ⟨Nat.zero_le _, Nat.zero_le _⟩ (c_X8_inverse l D cy (sz := _) (x0 := x0) (h := h)) k_X8_106 ⟨rfl, rfl, (Nat.le_of_ble_eq_true rfl), (Nat.le_of_ble_eq_true rfl)⟩ rfl rfl (Nat.le_of_ble_eq_true rfl) dX8_ran_1 (fun r_3 H locs h hP hS => ?_)
  refine zc_S0 (As := [.int r_3]) (rest := []) hx hb hml hown hts hK hPW hA hl.1 hP hS ⟨Nat.zero_le _, Nat.zero_le _⟩ (c_X8_dom l D cy (sz := _) (x0 := r_3) (h := h)) k_X8_109 ⟨rfl, rfl, (Nat.le_of_ble_eq_true rfl), (Nat.le_of_ble_eq_true rfl)⟩ rfl rfl (Nat.le_of_ble_eq_true rfl) dX8_ran_4 (fun r_4 H locs h hP hS => ?_)
  exact z_iret () hx hb hr hlocks h hP hD hS dX8_ran_7
set_option maxHeartbeats 4000000 in
set_option maxRecDepth 100000 in
theorem c_X8_isBelow (l : Launch) (D : va_G) (cy : Nat → ClassId) (sz : Nat) (x0 : Int32) (x1 : Int32) {Q : Int32 → Prop} (h : wp_X8_isBelow x0 x1 Q) : Met l yX8_isBelow (wsU yX8_isBelow cX8_isBelow 4 (some .boolean)) { frames := 2, cells := 0, slots := 0, locals := 43 } (va_Pc [.int x0, .int x1] (zB D vwCl (tyU cy) [] sz)) ((fun A => va_Qi (fun (r : Int32) (_ : Unit) => Q r ) (zE D vwCl A (fun (_ : Unit) => [])) A) (va_A [] sz)) 0 0 (va_A [] sz) := by
  refine z_ofX (fun A => va_Qi (fun (r : Int32) (_ : Unit) => Q r ) (zE D vwCl A (fun (_ : Unit) => [])) A) (by decide) (Nat.le_of_ble_eq_true rfl) (fun p e s m below meth c A ls hx hb hr hml hown hts hlocks hK hPW hA hP hD hS hl => ?_)
  have hl : lv_has ls 4 [(0, .int x0), (1, .int x1)] := hl
  have hown : s.vm.findClass RX8 = some m.cls := hown
  generalize hArg : ([.int x0, .int x1] : List Value).toArray = args at hts ⊢
  have hJ39 : ∀ (x0 : Int32) (x1 : Int32) (x3 : Int32) (t0 : Int32) (rc4 : Int32 → Int32 → Prop) (hrc4 : ∀ (x2 : Int32) (x3 : Int32), rc4 x2 x3 → ∀ (H : Heap) (locs : List Loc) (ls : Array Slot), va_P D vwCl [] H → va_D A [] → va_S A s.heap H locs → lv_has ls 4 [(0, .int x0), (1, .int x1), (2, .int x2), (3, .int x3)] → W p l e { frames := 2, cells := 0, slots := 0, locals := 43 } s m args below meth c H locs 0 0 (MQ below ((fun A => va_Qi (fun (r : Int32) (_ : Unit) => Q r ) (zE D vwCl A (fun (_ : Unit) => [])) A) A) args s 0 0 A) (F0 m 4 ls [])), wp_X8_isBelow_39 x0 x1 x3 t0 rc4 Q → ∀ (H : Heap) (locs : List Loc) (ls : Array Slot), va_P D vwCl [] H → va_D A [] → va_S A s.heap H locs → lv_has ls 4 [(0, .int x0), (1, .int x1), (3, .int x3)] → W p l e { frames := 2, cells := 0, slots := 0, locals := 43 } s m args below meth c H locs 0 0 (MQ below ((fun A => va_Qi (fun (r : Int32) (_ : Unit) => Q r ) (zE D vwCl A (fun (_ : Unit) => [])) A) A) args s 0 0 A) (F0 m 39 ls [.int t0]) := by
    intro x0 x1 x3 t0 rc4 hrc4  h H locs ls hP hD hS hl
    unfold wp_X8_isBelow_39 at h
    refine lv_istore_n (lv' := [(2, .int t0), (0, .int x0), (1, .int x1), (3, .int x3)]) hx hb dX8_isBelow_39 rfl hl (by decide) rfl (fun ls hl => ?_)
    obtain ⟨x3_9, e_x3_9⟩ : ∃ y : Int32, y = x3 + (1 : Int32) := ⟨_, rfl⟩
    refine lv_iinc (v := x3_9) (lv' := [(3, .int x3_9), (2, .int t0), (0, .int x0), (1, .int x1)]) hx hb dX8_isBelow_40 hl (k := 3) rfl (by rw [e_x3_9]; rfl) (by decide) rfl (fun ls hl => ?_)
    have h := h x3_9 e_x3_9
    refine lv_goto (tgt := 4) hx hb dX8_isBelow_43 (by decide) ?_
    exact hrc4 t0 x3_9 h _ _ _ hP hD hS (lv_sub hl [2, 3, 1, 0] rfl)
  have hJ4 : ∀ (x0 : Int32) (x1 : Int32) (x2 : Int32) (x3 : Int32), wp_X8_isBelow_4 x0 x1  Q x2 x3 → ∀ (H : Heap) (locs : List Loc) (ls : Array Slot), va_P D vwCl [] H → va_D A [] → va_S A s.heap H locs → lv_has ls 4 [(0, .int x0), (1, .int x1), (2, .int x2), (3, .int x3)] → W p l e { frames := 2, cells := 0, slots := 0, locals := 43 } s m args below meth c H locs 0 0 (MQ below ((fun A => va_Qi (fun (r : Int32) (_ : Unit) => Q r ) (zE D vwCl A (fun (_ : Unit) => [])) A) A) args s 0 0 A) (F0 m 4 ls []) := by
    intro x0 x1 x2 x3   h
    obtain ⟨nn, h⟩ := h
    have key : ∀ (nn : Nat) (x2 : Int32) (x3 : Int32), lpW2 (wb_X8_isBelow_4 x0 x1  Q) nn x2 x3 → ∀ (H : Heap) (locs : List Loc) (ls : Array Slot), va_P D vwCl [] H → va_D A [] → va_S A s.heap H locs → lv_has ls 4 [(0, .int x0), (1, .int x1), (2, .int x2), (3, .int x3)] → W p l e { frames := 2, cells := 0, slots := 0, locals := 43 } s m args below meth c H locs 0 0 (MQ below ((fun A => va_Qi (fun (r : Int32) (_ : Unit) => Q r ) (zE D vwCl A (fun (_ : Unit) => [])) A) A) args s 0 0 A) (F0 m 4 ls []) := by
      intro nn
      induction nn with
      | zero => intro x2 x3 h; exact h.elim
      | succ nn hrc4 =>
        intro x2 x3 h H locs ls hP hD hS hl
        have h : wb_X8_isBelow_4 x0 x1  Q (lpW2 (wb_X8_isBelow_4 x0 x1  Q) nn) x2 x3 := h
        unfold wb_X8_isBelow_4 at h
        refine lv_iload_n hx hb dX8_isBelow_4 rfl (lv_at hl 3 rfl) ?_
        refine lv_iconst (v := (5 : Int32)) hx hb dX8_isBelow_5 (by decide) ?_
        refine lv_icmp_ge (tgt := 46) hx hb dX8_isBelow_6 (by decide) (fun c_10 => ?_) (fun c_10 => ?_)
        · have h := h.1 c_10
          refine lv_iload_n hx hb dX8_isBelow_46 rfl (lv_at hl 2 rfl) ?_
          obtain ⟨hz, h⟩ := h
          exact z_zret () hx hb hr hlocks (isB.n hz) h hP hD hS dX8_isBelow_47
        · have h := h.2 c_10
          refine lv_iload_n hx hb dX8_isBelow_9 rfl (lv_at hl 2 rfl) ?_
          refine lv_if_eq (tgt := 38) hx hb dX8_isBelow_10 (by decide) (fun c_11 => ?_) (fun c_11 => ?_)
          · have h := h.1 c_11
            refine lv_iconst (v := (0 : Int32)) hx hb dX8_isBelow_38 (by decide) ?_
            exact hJ39 x0 x1 x3 (0 : Int32) _ hrc4  h _ _ _ hP hD hS (lv_sub hl [0, 1, 3] rfl)
          · have h := h.2 c_11
            refine lv_iload_n hx hb dX8_isBelow_13 rfl (lv_at hl 0 rfl) ?_
            refine lv_iload_n hx hb dX8_isBelow_14 rfl (lv_at hl 3 rfl) ?_
            refine zc_S0 (As := [.int x0, .int x3]) (rest := []) hx hb hml hown hts hK hPW hA hl.1 hP hS ⟨Nat.zero_le _, Nat.zero_le _⟩ (c_X8_to l D cy (sz := _) (x0 := x0) (x1 := x3) (h := h)) k_X8_103 ⟨rfl, rfl, (Nat.le_of_ble_eq_true rfl), (Nat.le_of_ble_eq_true rfl)⟩ rfl rfl (Nat.le_of_ble_eq_true rfl) dX8_isBelow_15 (fun r_12 H locs h hP hS => ?_)
            refine lv_if_lt (tgt := 34) hx hb dX8_isBelow_18 (by decide) (fun c_13 => ?_) (fun c_13 => ?_)
            · have h := h.1 c_13
              refine lv_iconst (v := (1 : Int32)) hx hb dX8_isBelow_34 (by decide) ?_
              refine lv_goto (tgt := 39) hx hb dX8_isBelow_35 (by decide) ?_
              exact hJ39 x0 x1 x3 (1 : Int32) _ hrc4  h _ _ _ hP hD hS (lv_sub hl [0, 1, 3] rfl)
            · have h := h.2 c_13
              refine lv_iload_n hx hb dX8_isBelow_21 rfl (lv_at hl 0 rfl) ?_
              refine lv_iload_n hx hb dX8_isBelow_22 rfl (lv_at hl 3 rfl) ?_
              refine zc_S0 (As := [.int x0, .int x3]) (rest := []) hx hb hml hown hts hK hPW hA hl.1 hP hS ⟨Nat.zero_le _, Nat.zero_le _⟩ (c_X8_to l D cy (sz := _) (x0 := x0) (x1 := x3) (h := h)) k_X8_103 ⟨rfl, rfl, (Nat.le_of_ble_eq_true rfl), (Nat.le_of_ble_eq_true rfl)⟩ rfl rfl (Nat.le_of_ble_eq_true rfl) dX8_isBelow_23 (fun r_14 H locs h hP hS => ?_)
              refine lv_iload_n hx hb dX8_isBelow_26 rfl (lv_at hl 1 rfl) ?_
              refine lv_iload_n hx hb dX8_isBelow_27 rfl (lv_at hl 3 rfl) ?_
              refine zc_S0 (As := [.int x1, .int x3]) (rest := [.int r_14]) hx hb hml hown hts hK hPW hA hl.1 hP hS ⟨Nat.zero_le _, Nat.zero_le _⟩ (c_X8_to l D cy (sz := _) (x0 := x1) (x1 := x3) (h := h)) k_X8_103 ⟨rfl, rfl, (Nat.le_of_ble_eq_true rfl), (Nat.le_of_ble_eq_true rfl)⟩ rfl rfl (Nat.le_of_ble_eq_true rfl) dX8_isBelow_28 (fun r_15 H locs h hP hS => ?_)
              refine lv_icmp_ne (tgt := 38) hx hb dX8_isBelow_31 (by decide) (fun c_16 => ?_) (fun c_16 => ?_)
              · have h := h.1 c_16
                refine lv_iconst (v := (0 : Int32)) hx hb dX8_isBelow_38 (by decide) ?_
                exact hJ39 x0 x1 x3 (0 : Int32) _ hrc4  h _ _ _ hP hD hS (lv_sub hl [0, 1, 3] rfl)
              · have h := h.2 c_16
                refine lv_iconst (v := (1 : Int32)) hx hb dX8_isBelow_34 (by decide) ?_
                refine lv_goto (tgt := 39) hx hb dX8_isBelow_35 (by decide) ?_
                exact hJ39 x0 x1 x3 (1 : Int32) _ hrc4  h _ _ _ hP hD hS (lv_sub hl [0, 1, 3] rfl)
    exact key nn x2 x3 h
  unfold wp_X8_isBelow at h
  refine lv_iconst (v := (1 : Int32)) hx hb dX8_isBelow_0 (by decide) ?_
  refine lv_istore_n (lv' := [(2, .int (1 : Int32)), (0, .int x0), (1, .int x1)]) hx hb dX8_isBelow_1 rfl hl (by decide) rfl (fun ls hl => ?_)
  refine lv_iconst (v := (0 : Int32)) hx hb dX8_isBelow_2 (by decide) ?_
  refine lv_istore_n (lv' := [(3, .int (0 : Int32)), (2, .int (1 : Int32)), (0, .int x0), (1, .int x1)]) hx hb dX8_isBelow_3 rfl hl (by decide) rfl (fun ls hl => ?_)
  exact hJ4 x0 x1 (1 : Int32) (0 : Int32)   h _ _ _ hP hD hS (lv_sub hl [2, 3, 1, 0] rfl)
set_option maxHeartbeats 4000000 in
set_option maxRecDepth 100000 in
theorem c_X8_meet (l : Launch) (D : va_G) (cy : Nat → ClassId) (sz : Nat) (x0 : Int32) (x1 : Int32) {Q : Int32 → Prop} (h : wp_X8_meet x0 x1 Q) : Met l yX8_meet (wsU yX8_meet cX8_meet 4 (some .int)) { frames := 2, cells := 0, slots := 0, locals := 43 } (va_Pc [.int x0, .int x1] (zB D vwCl (tyU cy) [] sz)) ((fun A => va_Qi (fun (r : Int32) (_ : Unit) => Q r ) (zE D vwCl A (fun (_ : Unit) => [])) A) (va_A [] sz)) 0 0 (va_A [] sz) := by
  refine z_ofX (fun A => va_Qi (fun (r : Int32) (_ : Unit) => Q r ) (zE D vwCl A (fun (_ : Unit) => [])) A) (by decide) (Nat.le_of_ble_eq_true rfl) (fun p e s m below meth c A ls hx hb hr hml hown hts hlocks hK hPW hA hP hD hS hl => ?_)
  have hl : lv_has ls 4 [(0, .int x0), (1, .int x1)] := hl
  have hown : s.vm.findClass RX8 = some m.cls := hown
  generalize hArg : ([.int x0, .int x1] : List Value).toArray = args at hts ⊢
  have hJ44 : ∀ (x0 : Int32) (x1 : Int32) (x3 : Int32) (t0 : Int32) (t1 : Int32) (rc4 : Int32 → Int32 → Prop) (hrc4 : ∀ (x2 : Int32) (x3 : Int32), rc4 x2 x3 → ∀ (H : Heap) (locs : List Loc) (ls : Array Slot), va_P D vwCl [] H → va_D A [] → va_S A s.heap H locs → lv_has ls 4 [(0, .int x0), (1, .int x1), (2, .int x2), (3, .int x3)] → W p l e { frames := 2, cells := 0, slots := 0, locals := 43 } s m args below meth c H locs 0 0 (MQ below ((fun A => va_Qi (fun (r : Int32) (_ : Unit) => Q r ) (zE D vwCl A (fun (_ : Unit) => [])) A) A) args s 0 0 A) (F0 m 4 ls [])), wp_X8_meet_44 x0 x1 x3 t0 t1 rc4 Q → ∀ (H : Heap) (locs : List Loc) (ls : Array Slot), va_P D vwCl [] H → va_D A [] → va_S A s.heap H locs → lv_has ls 4 [(0, .int x0), (1, .int x1), (3, .int x3)] → W p l e { frames := 2, cells := 0, slots := 0, locals := 43 } s m args below meth c H locs 0 0 (MQ below ((fun A => va_Qi (fun (r : Int32) (_ : Unit) => Q r ) (zE D vwCl A (fun (_ : Unit) => [])) A) A) args s 0 0 A) (F0 m 44 ls [.int t1, .int t0]) := by
    intro x0 x1 x3 t0 t1 rc4 hrc4  h H locs ls hP hD hS hl
    unfold wp_X8_meet_44 at h
    refine lv_iadd hx hb dX8_meet_44 ?_
    refine lv_topi (fun x2_11 e_x2_11 => ?_)
    have h := h x2_11 e_x2_11
    refine lv_istore_n (lv' := [(2, .int x2_11), (0, .int x0), (1, .int x1), (3, .int x3)]) hx hb dX8_meet_45 rfl hl (by decide) rfl (fun ls hl => ?_)
    obtain ⟨x3_12, e_x3_12⟩ : ∃ y : Int32, y = x3 + (1 : Int32) := ⟨_, rfl⟩
    refine lv_iinc (v := x3_12) (lv' := [(3, .int x3_12), (2, .int x2_11), (0, .int x0), (1, .int x1)]) hx hb dX8_meet_46 hl (k := 3) rfl (by rw [e_x3_12]; rfl) (by decide) rfl (fun ls hl => ?_)
    have h := h x3_12 e_x3_12
    refine lv_goto (tgt := 4) hx hb dX8_meet_49 (by decide) ?_
    exact hrc4 x2_11 x3_12 h _ _ _ hP hD hS (lv_sub hl [2, 3, 1, 0] rfl)
  have hJ4 : ∀ (x0 : Int32) (x1 : Int32) (x2 : Int32) (x3 : Int32), wp_X8_meet_4 x0 x1  Q x2 x3 → ∀ (H : Heap) (locs : List Loc) (ls : Array Slot), va_P D vwCl [] H → va_D A [] → va_S A s.heap H locs → lv_has ls 4 [(0, .int x0), (1, .int x1), (2, .int x2), (3, .int x3)] → W p l e { frames := 2, cells := 0, slots := 0, locals := 43 } s m args below meth c H locs 0 0 (MQ below ((fun A => va_Qi (fun (r : Int32) (_ : Unit) => Q r ) (zE D vwCl A (fun (_ : Unit) => [])) A) A) args s 0 0 A) (F0 m 4 ls []) := by
    intro x0 x1 x2 x3   h
    obtain ⟨nn, h⟩ := h
    have key : ∀ (nn : Nat) (x2 : Int32) (x3 : Int32), lpW2 (wb_X8_meet_4 x0 x1  Q) nn x2 x3 → ∀ (H : Heap) (locs : List Loc) (ls : Array Slot), va_P D vwCl [] H → va_D A [] → va_S A s.heap H locs → lv_has ls 4 [(0, .int x0), (1, .int x1), (2, .int x2), (3, .int x3)] → W p l e { frames := 2, cells := 0, slots := 0, locals := 43 } s m args below meth c H locs 0 0 (MQ below ((fun A => va_Qi (fun (r : Int32) (_ : Unit) => Q r ) (zE D vwCl A (fun (_ : Unit) => [])) A) A) args s 0 0 A) (F0 m 4 ls []) := by
      intro nn
      induction nn with
      | zero => intro x2 x3 h; exact h.elim
      | succ nn hrc4 =>
        intro x2 x3 h H locs ls hP hD hS hl
        have h : wb_X8_meet_4 x0 x1  Q (lpW2 (wb_X8_meet_4 x0 x1  Q) nn) x2 x3 := h
        unfold wb_X8_meet_4 at h
        refine lv_iload_n hx hb dX8_meet_4 rfl (lv_at hl 3 rfl) ?_
        refine lv_iconst (v := (5 : Int32)) hx hb dX8_meet_5 (by decide) ?_
        refine lv_icmp_ge (tgt := 52) hx hb dX8_meet_6 (by decide) (fun c_13 => ?_) (fun c_13 => ?_)
        · have h := h.1 c_13
          refine lv_iload_n hx hb dX8_meet_52 rfl (lv_at hl 2 rfl) ?_
          exact z_iret () hx hb hr hlocks h hP hD hS dX8_meet_53
        · have h := h.2 c_13
          refine lv_iload_n hx hb dX8_meet_9 rfl (lv_at hl 2 rfl) ?_
          refine lv_iload_n hx hb dX8_meet_10 rfl (lv_at hl 0 rfl) ?_
          refine lv_iload_n hx hb dX8_meet_11 rfl (lv_at hl 3 rfl) ?_
          refine zc_S0 (As := [.int x0, .int x3]) (rest := [.int x2]) hx hb hml hown hts hK hPW hA hl.1 hP hS ⟨Nat.zero_le _, Nat.zero_le _⟩ (c_X8_to l D cy (sz := _) (x0 := x0) (x1 := x3) (h := h)) k_X8_103 ⟨rfl, rfl, (Nat.le_of_ble_eq_true rfl), (Nat.le_of_ble_eq_true rfl)⟩ rfl rfl (Nat.le_of_ble_eq_true rfl) dX8_meet_12 (fun r_14 H locs h hP hS => ?_)
          refine lv_if_lt (tgt := 43) hx hb dX8_meet_15 (by decide) (fun c_15 => ?_) (fun c_15 => ?_)
          · have h := h.1 c_15
            refine lv_iconst (v := (0 : Int32)) hx hb dX8_meet_43 (by decide) ?_
            exact hJ44 x0 x1 x3 x2 (0 : Int32) _ hrc4  h _ _ _ hP hD hS (lv_sub hl [0, 1, 3] rfl)
          · have h := h.2 c_15
            refine lv_iload_n hx hb dX8_meet_18 rfl (lv_at hl 0 rfl) ?_
            refine lv_iload_n hx hb dX8_meet_19 rfl (lv_at hl 3 rfl) ?_
            refine zc_S0 (As := [.int x0, .int x3]) (rest := [.int x2]) hx hb hml hown hts hK hPW hA hl.1 hP hS ⟨Nat.zero_le _, Nat.zero_le _⟩ (c_X8_to l D cy (sz := _) (x0 := x0) (x1 := x3) (h := h)) k_X8_103 ⟨rfl, rfl, (Nat.le_of_ble_eq_true rfl), (Nat.le_of_ble_eq_true rfl)⟩ rfl rfl (Nat.le_of_ble_eq_true rfl) dX8_meet_20 (fun r_16 H locs h hP hS => ?_)
            refine lv_iload_n hx hb dX8_meet_23 rfl (lv_at hl 1 rfl) ?_
            refine lv_iload_n hx hb dX8_meet_24 rfl (lv_at hl 3 rfl) ?_
            refine zc_S0 (As := [.int x1, .int x3]) (rest := [.int r_16, .int x2]) hx hb hml hown hts hK hPW hA hl.1 hP hS ⟨Nat.zero_le _, Nat.zero_le _⟩ (c_X8_to l D cy (sz := _) (x0 := x1) (x1 := x3) (h := h)) k_X8_103 ⟨rfl, rfl, (Nat.le_of_ble_eq_true rfl), (Nat.le_of_ble_eq_true rfl)⟩ rfl rfl (Nat.le_of_ble_eq_true rfl) dX8_meet_25 (fun r_17 H locs h hP hS => ?_)
            refine lv_icmp_ne (tgt := 43) hx hb dX8_meet_28 (by decide) (fun c_18 => ?_) (fun c_18 => ?_)
            · have h := h.1 c_18
              refine lv_iconst (v := (0 : Int32)) hx hb dX8_meet_43 (by decide) ?_
              exact hJ44 x0 x1 x3 x2 (0 : Int32) _ hrc4  h _ _ _ hP hD hS (lv_sub hl [0, 1, 3] rfl)
            · have h := h.2 c_18
              refine lv_iload_n hx hb dX8_meet_31 rfl (lv_at hl 3 rfl) ?_
              refine lv_iload_n hx hb dX8_meet_32 rfl (lv_at hl 0 rfl) ?_
              refine lv_iload_n hx hb dX8_meet_33 rfl (lv_at hl 3 rfl) ?_
              refine zc_S0 (As := [.int x0, .int x3]) (rest := [.int x3, .int x2]) hx hb hml hown hts hK hPW hA hl.1 hP hS ⟨Nat.zero_le _, Nat.zero_le _⟩ (c_X8_to l D cy (sz := _) (x0 := x0) (x1 := x3) (h := h)) k_X8_103 ⟨rfl, rfl, (Nat.le_of_ble_eq_true rfl), (Nat.le_of_ble_eq_true rfl)⟩ rfl rfl (Nat.le_of_ble_eq_true rfl) dX8_meet_34 (fun r_19 H locs h hP hS => ?_)
              refine zc_S0 (As := [.int x3, .int r_19]) (rest := [.int x2]) hx hb hml hown hts hK hPW hA hl.1 hP hS ⟨Nat.zero_le _, Nat.zero_le _⟩ (c_X8_put l D cy (sz := _) (x0 := x3) (x1 := r_19) (h := h)) k_X8_99 ⟨rfl, rfl, (Nat.le_of_ble_eq_true rfl), (Nat.le_of_ble_eq_true rfl)⟩ rfl rfl (Nat.le_of_ble_eq_true rfl) dX8_meet_37 (fun r_20 H locs h hP hS => ?_)
              refine lv_goto (tgt := 44) hx hb dX8_meet_40 (by decide) ?_
              exact hJ44 x0 x1 x3 x2 r_20 _ hrc4  h _ _ _ hP hD hS (lv_sub hl [0, 1, 3] rfl)
    exact key nn x2 x3 h
  unfold wp_X8_meet at h
  refine lv_iconst (v := (0 : Int32)) hx hb dX8_meet_0 (by decide) ?_
  refine lv_istore_n (lv' := [(2, .int (0 : Int32)), (0, .int x0), (1, .int x1)]) hx hb dX8_meet_1 rfl hl (by decide) rfl (fun ls hl => ?_)
  refine lv_iconst (v := (0 : Int32)) hx hb dX8_meet_2 (by decide) ?_
  refine lv_istore_n (lv' := [(3, .int (0 : Int32)), (2, .int (0 : Int32)), (0, .int x0), (1, .int x1)]) hx hb dX8_meet_3 rfl hl (by decide) rfl (fun ls hl => ?_)
  exact hJ4 x0 x1 (0 : Int32) (0 : Int32)   h _ _ _ hP hD hS (lv_sub hl [2, 3, 1, 0] rfl)
set_option maxHeartbeats 4000000 in
set_option maxRecDepth 100000 in
theorem c_X8_joined (l : Launch) (D : va_G) (cy : Nat → ClassId) (sz : Nat) (x0 : Int32) (x1 : Int32) {Q : Int32 → Prop} (h : wp_X8_joined x0 x1 Q) : Met l yX8_joined (wsU yX8_joined cX8_joined 6 (some .int)) { frames := 3, cells := 0, slots := 0, locals := 67 } (va_Pc [.int x0, .int x1] (zB D vwCl (tyU cy) [] sz)) ((fun A => va_Qi (fun (r : Int32) (_ : Unit) => Q r ) (zE D vwCl A (fun (_ : Unit) => [])) A) (va_A [] sz)) 0 0 (va_A [] sz) := by
  refine z_ofX (fun A => va_Qi (fun (r : Int32) (_ : Unit) => Q r ) (zE D vwCl A (fun (_ : Unit) => [])) A) (by decide) (Nat.le_of_ble_eq_true rfl) (fun p e s m below meth c A ls hx hb hr hml hown hts hlocks hK hPW hA hP hD hS hl => ?_)
  have hl : lv_has ls 6 [(0, .int x0), (1, .int x1)] := hl
  have hown : s.vm.findClass RX8 = some m.cls := hown
  generalize hArg : ([.int x0, .int x1] : List Value).toArray = args at hts ⊢
  have hJ73 : ∀ (x0 : Int32) (x1 : Int32) (x3 : Int32) (t0 : Int32) (t1 : Int32) (rc4 : Int32 → Int32 → Prop) (hrc4 : ∀ (x2 : Int32) (x3 : Int32), rc4 x2 x3 → ∀ (H : Heap) (locs : List Loc) (ls : Array Slot), va_P D vwCl [] H → va_D A [] → va_S A s.heap H locs → lv_has ls 6 [(0, .int x0), (1, .int x1), (2, .int x2), (3, .int x3)] → W p l e { frames := 3, cells := 0, slots := 0, locals := 67 } s m args below meth c H locs 0 0 (MQ below ((fun A => va_Qi (fun (r : Int32) (_ : Unit) => Q r ) (zE D vwCl A (fun (_ : Unit) => [])) A) A) args s 0 0 A) (F0 m 4 ls [])), wp_X8_joined_73 x0 x1 x3 t0 t1 rc4 Q → ∀ (H : Heap) (locs : List Loc) (ls : Array Slot), va_P D vwCl [] H → va_D A [] → va_S A s.heap H locs → lv_has ls 6 [(0, .int x0), (1, .int x1), (3, .int x3)] → W p l e { frames := 3, cells := 0, slots := 0, locals := 67 } s m args below meth c H locs 0 0 (MQ below ((fun A => va_Qi (fun (r : Int32) (_ : Unit) => Q r ) (zE D vwCl A (fun (_ : Unit) => [])) A) A) args s 0 0 A) (F0 m 73 ls [.int t1, .int t0]) := by
    intro x0 x1 x3 t0 t1 rc4 hrc4  h H locs ls hP hD hS hl
    unfold wp_X8_joined_73 at h
    refine lv_iadd hx hb dX8_joined_73 ?_
    refine lv_topi (fun x2_15 e_x2_15 => ?_)
    have h := h x2_15 e_x2_15
    refine lv_istore_n (lv' := [(2, .int x2_15), (0, .int x0), (1, .int x1), (3, .int x3)]) hx hb dX8_joined_74 rfl hl (by decide) rfl (fun ls hl => ?_)
    obtain ⟨x3_16, e_x3_16⟩ : ∃ y : Int32, y = x3 + (1 : Int32) := ⟨_, rfl⟩
    refine lv_iinc (v := x3_16) (lv' := [(3, .int x3_16), (2, .int x2_15), (0, .int x0), (1, .int x1)]) hx hb dX8_joined_75 hl (k := 3) rfl (by rw [e_x3_16]; rfl) (by decide) rfl (fun ls hl => ?_)
    have h := h x3_16 e_x3_16
    refine lv_goto (tgt := 4) hx hb dX8_joined_78 (by decide) ?_
    exact hrc4 x2_15 x3_16 h _ _ _ hP hD hS (lv_sub hl [2, 3, 1, 0] rfl)
  have hJ43 : ∀ (x0 : Int32) (x1 : Int32) (x2 : Int32) (x3 : Int32) (x4 : Int32) (x5 : Int32) (rc4 : Int32 → Int32 → Prop) (hrc4 : ∀ (x2 : Int32) (x3 : Int32), rc4 x2 x3 → ∀ (H : Heap) (locs : List Loc) (ls : Array Slot), va_P D vwCl [] H → va_D A [] → va_S A s.heap H locs → lv_has ls 6 [(0, .int x0), (1, .int x1), (2, .int x2), (3, .int x3)] → W p l e { frames := 3, cells := 0, slots := 0, locals := 67 } s m args below meth c H locs 0 0 (MQ below ((fun A => va_Qi (fun (r : Int32) (_ : Unit) => Q r ) (zE D vwCl A (fun (_ : Unit) => [])) A) A) args s 0 0 A) (F0 m 4 ls [])), wp_X8_joined_43 x0 x1 x2 x3 x4 x5 rc4 Q → ∀ (H : Heap) (locs : List Loc) (ls : Array Slot), va_P D vwCl [] H → va_D A [] → va_S A s.heap H locs → lv_has ls 6 [(0, .int x0), (1, .int x1), (2, .int x2), (3, .int x3), (4, .int x4), (5, .int x5)] → W p l e { frames := 3, cells := 0, slots := 0, locals := 67 } s m args below meth c H locs 0 0 (MQ below ((fun A => va_Qi (fun (r : Int32) (_ : Unit) => Q r ) (zE D vwCl A (fun (_ : Unit) => [])) A) A) args s 0 0 A) (F0 m 43 ls []) := by
    intro x0 x1 x2 x3 x4 x5 rc4 hrc4  h H locs ls hP hD hS hl
    unfold wp_X8_joined_43 at h
    refine lv_iload_n hx hb dX8_joined_43 rfl (lv_at hl 2 rfl) ?_
    refine lv_iload hx hb dX8_joined_44 (lv_at hl 4 rfl) ?_
    refine lv_if_lt (tgt := 58) hx hb dX8_joined_46 (by decide) (fun c_17 => ?_) (fun c_17 => ?_)
    · have h := h.1 c_17
      refine lv_iload hx hb dX8_joined_58 (lv_at hl 5 rfl) ?_
      refine lv_if_lt (tgt := 72) hx hb dX8_joined_60 (by decide) (fun c_18 => ?_) (fun c_18 => ?_)
      · have h := h.1 c_18
        refine lv_iconst (v := (0 : Int32)) hx hb dX8_joined_72 (by decide) ?_
        exact hJ73 x0 x1 x3 x2 (0 : Int32) _ hrc4  h _ _ _ hP hD hS (lv_sub hl [0, 1, 3] rfl)
      · have h := h.2 c_18
        refine lv_iload_n hx hb dX8_joined_63 rfl (lv_at hl 3 rfl) ?_
        refine lv_iload hx hb dX8_joined_64 (lv_at hl 5 rfl) ?_
        refine zc_S0 (As := [.int x3, .int x5]) (rest := [.int x2]) hx hb hml hown hts hK hPW hA hl.1 hP hS ⟨Nat.zero_le _, Nat.zero_le _⟩ (c_X8_put l D cy (sz := _) (x0 := x3) (x1 := x5) (h := h)) k_X8_99 ⟨rfl, rfl, (Nat.le_of_ble_eq_true rfl), (Nat.le_of_ble_eq_true rfl)⟩ rfl rfl (Nat.le_of_ble_eq_true rfl) dX8_joined_66 (fun r_19 H locs h hP hS => ?_)
        refine lv_goto (tgt := 73) hx hb dX8_joined_69 (by decide) ?_
        exact hJ73 x0 x1 x3 x2 r_19 _ hrc4  h _ _ _ hP hD hS (lv_sub hl [0, 1, 3] rfl)
    · have h := h.2 c_17
      refine lv_iload_n hx hb dX8_joined_49 rfl (lv_at hl 3 rfl) ?_
      refine lv_iload hx hb dX8_joined_50 (lv_at hl 4 rfl) ?_
      refine zc_S0 (As := [.int x3, .int x4]) (rest := [.int x2]) hx hb hml hown hts hK hPW hA hl.1 hP hS ⟨Nat.zero_le _, Nat.zero_le _⟩ (c_X8_put l D cy (sz := _) (x0 := x3) (x1 := x4) (h := h)) k_X8_99 ⟨rfl, rfl, (Nat.le_of_ble_eq_true rfl), (Nat.le_of_ble_eq_true rfl)⟩ rfl rfl (Nat.le_of_ble_eq_true rfl) dX8_joined_52 (fun r_20 H locs h hP hS => ?_)
      refine lv_goto (tgt := 73) hx hb dX8_joined_55 (by decide) ?_
      exact hJ73 x0 x1 x3 x2 r_20 _ hrc4  h _ _ _ hP hD hS (lv_sub hl [0, 1, 3] rfl)
  have hJ4 : ∀ (x0 : Int32) (x1 : Int32) (x2 : Int32) (x3 : Int32), wp_X8_joined_4 x0 x1  Q x2 x3 → ∀ (H : Heap) (locs : List Loc) (ls : Array Slot), va_P D vwCl [] H → va_D A [] → va_S A s.heap H locs → lv_has ls 6 [(0, .int x0), (1, .int x1), (2, .int x2), (3, .int x3)] → W p l e { frames := 3, cells := 0, slots := 0, locals := 67 } s m args below meth c H locs 0 0 (MQ below ((fun A => va_Qi (fun (r : Int32) (_ : Unit) => Q r ) (zE D vwCl A (fun (_ : Unit) => [])) A) A) args s 0 0 A) (F0 m 4 ls []) := by
    intro x0 x1 x2 x3   h
    obtain ⟨nn, h⟩ := h
    have key : ∀ (nn : Nat) (x2 : Int32) (x3 : Int32), lpW2 (wb_X8_joined_4 x0 x1  Q) nn x2 x3 → ∀ (H : Heap) (locs : List Loc) (ls : Array Slot), va_P D vwCl [] H → va_D A [] → va_S A s.heap H locs → lv_has ls 6 [(0, .int x0), (1, .int x1), (2, .int x2), (3, .int x3)] → W p l e { frames := 3, cells := 0, slots := 0, locals := 67 } s m args below meth c H locs 0 0 (MQ below ((fun A => va_Qi (fun (r : Int32) (_ : Unit) => Q r ) (zE D vwCl A (fun (_ : Unit) => [])) A) A) args s 0 0 A) (F0 m 4 ls []) := by
      intro nn
      induction nn with
      | zero => intro x2 x3 h; exact h.elim
      | succ nn hrc4 =>
        intro x2 x3 h H locs ls hP hD hS hl
        have h : wb_X8_joined_4 x0 x1  Q (lpW2 (wb_X8_joined_4 x0 x1  Q) nn) x2 x3 := h
        unfold wb_X8_joined_4 at h
        refine lv_iload_n hx hb dX8_joined_4 rfl (lv_at hl 3 rfl) ?_
        refine lv_iconst (v := (5 : Int32)) hx hb dX8_joined_5 (by decide) ?_
        refine lv_icmp_ge (tgt := 81) hx hb dX8_joined_6 (by decide) (fun c_21 => ?_) (fun c_21 => ?_)
        · have h := h.1 c_21
          refine lv_iload_n hx hb dX8_joined_81 rfl (lv_at hl 2 rfl) ?_
          refine zc_S0 (As := [.int x2]) (rest := []) hx hb hml hown hts hK hPW hA hl.1 hP hS ⟨Nat.zero_le _, Nat.zero_le _⟩ (c_X8_isMap l D cy (sz := _) (x0 := x2) (h := h)) k_X8_112 ⟨rfl, rfl, (Nat.le_of_ble_eq_true rfl), (Nat.le_of_ble_eq_true rfl)⟩ rfl rfl (Nat.le_of_ble_eq_true rfl) dX8_joined_82 (fun r_22 H locs h hP hS => ?_)
          refine lv_if_eq (tgt := 92) hx hb dX8_joined_85 (by decide) (fun c_23 => ?_) (fun c_23 => ?_)
          · have h := h.1 c_23
            refine lv_bipush (v := (-6 : Int32)) hx hb dX8_joined_92 (by decide) ?_
            exact z_iret () hx hb hr hlocks h hP hD hS dX8_joined_94
          · have h := h.2 c_23
            refine lv_iload_n hx hb dX8_joined_88 rfl (lv_at hl 2 rfl) ?_
            refine lv_goto (tgt := 94) hx hb dX8_joined_89 (by decide) ?_
            exact z_iret () hx hb hr hlocks h hP hD hS dX8_joined_94
        · have h := h.2 c_21
          refine lv_iload_n hx hb dX8_joined_9 rfl (lv_at hl 0 rfl) ?_
          refine lv_iload_n hx hb dX8_joined_10 rfl (lv_at hl 3 rfl) ?_
          refine zc_S0 (As := [.int x0, .int x3]) (rest := []) hx hb hml hown hts hK hPW hA hl.1 hP hS ⟨Nat.zero_le _, Nat.zero_le _⟩ (c_X8_to l D cy (sz := _) (x0 := x0) (x1 := x3) (h := h)) k_X8_103 ⟨rfl, rfl, (Nat.le_of_ble_eq_true rfl), (Nat.le_of_ble_eq_true rfl)⟩ rfl rfl (Nat.le_of_ble_eq_true rfl) dX8_joined_11 (fun r_24 H locs h hP hS => ?_)
          refine lv_istore (lv' := [(4, .int r_24), (0, .int x0), (1, .int x1), (2, .int x2), (3, .int x3)]) hx hb dX8_joined_14 hl (by decide) rfl (fun ls hl => ?_)
          refine lv_iload_n hx hb dX8_joined_16 rfl (lv_at hl 2 rfl) ?_
          refine lv_iload_n hx hb dX8_joined_17 rfl (lv_at hl 4 rfl) ?_
          refine zc_S0 (As := [.int x1, .int x3]) (rest := []) hx hb hml hown hts hK hPW hA hl.1 hP hS ⟨Nat.zero_le _, Nat.zero_le _⟩ (c_X8_to l D cy (sz := _) (x0 := x1) (x1 := x3) (h := h)) k_X8_103 ⟨rfl, rfl, (Nat.le_of_ble_eq_true rfl), (Nat.le_of_ble_eq_true rfl)⟩ rfl rfl (Nat.le_of_ble_eq_true rfl) dX8_joined_18 (fun r_25 H locs h hP hS => ?_)
          refine lv_istore (lv' := [(5, .int r_25), (4, .int r_24), (0, .int x0), (1, .int x1), (2, .int x2), (3, .int x3)]) hx hb dX8_joined_21 hl (by decide) rfl (fun ls hl => ?_)
          refine lv_iload hx hb dX8_joined_23 (lv_at hl 1 rfl) ?_
          refine lv_if_lt (tgt := 43) hx hb dX8_joined_25 (by decide) (fun c_26 => ?_) (fun c_26 => ?_)
          · have h := h.1 c_26
            exact hJ43 x0 x1 x2 x3 r_24 r_25 _ hrc4  h _ _ _ hP hD hS (lv_sub hl [2, 3, 4, 5, 1, 0] rfl)
          · have h := h.2 c_26
            refine lv_iload hx hb dX8_joined_28 (lv_at hl 0 rfl) ?_
            refine lv_if_lt (tgt := 43) hx hb dX8_joined_30 (by decide) (fun c_27 => ?_) (fun c_27 => ?_)
            · have h := h.1 c_27
              exact hJ43 x0 x1 x2 x3 r_24 r_25 _ hrc4  h _ _ _ hP hD hS (lv_sub hl [2, 3, 4, 5, 1, 0] rfl)
            · have h := h.2 c_27
              refine lv_iload hx hb dX8_joined_33 (lv_at hl 1 rfl) ?_
              refine lv_iload hx hb dX8_joined_35 (lv_at hl 0 rfl) ?_
              refine lv_icmp_eq (tgt := 43) hx hb dX8_joined_37 (by decide) (fun c_28 => ?_) (fun c_28 => ?_)
              · have h := h.1 c_28
                exact hJ43 x0 x1 x2 x3 r_24 r_25 _ hrc4  h _ _ _ hP hD hS (lv_sub hl [2, 3, 4, 5, 1, 0] rfl)
              · have h := h.2 c_28
                refine lv_bipush (v := (-6 : Int32)) hx hb dX8_joined_40 (by decide) ?_
                exact z_iret () hx hb hr hlocks h hP hD hS dX8_joined_42
    exact key nn x2 x3 h
  unfold wp_X8_joined at h
  refine lv_iconst (v := (0 : Int32)) hx hb dX8_joined_0 (by decide) ?_
  refine lv_istore_n (lv' := [(2, .int (0 : Int32)), (0, .int x0), (1, .int x1)]) hx hb dX8_joined_1 rfl hl (by decide) rfl (fun ls hl => ?_)
  refine lv_iconst (v := (0 : Int32)) hx hb dX8_joined_2 (by decide) ?_
  refine lv_istore_n (lv' := [(3, .int (0 : Int32)), (2, .int (0 : Int32)), (0, .int x0), (1, .int x1)]) hx hb dX8_joined_3 rfl hl (by decide) rfl (fun ls hl => ?_)
  exact hJ4 x0 x1 (0 : Int32) (0 : Int32)   h _ _ _ hP hD hS (lv_sub hl [2, 3, 1, 0] rfl)
set_option maxHeartbeats 4000000 in
set_option maxRecDepth 100000 in
theorem c_X8_set (l : Launch) (D : va_G) (cy : Nat → ClassId) (ad : Nat → Nat) (sz : Nat) (m_said : Int32) (m_waved : Int32) (m_places : Int32) (m_end : Int32) (m_joints : Int32) (m_netPlaces : Int32) (m_begin : Int32) (m_finish : Int32) (m_rounds : Int32) (m_sews : Int32) (m_state : Nat → Int32) (x1 : Int32) (x2 : Int32) {Q : Int32 → (Nat → Int32) → Prop} (h : wp_X8_set x1 x2 m_state Q) : Met l yX8_set (wsU yX8_set cX8_set 4 (some .int)) { frames := 3, cells := 0, slots := 0, locals := 67 } (va_Pc [.ref (ad 0), .int x1, .int x2] (zB D vwCl (tyU cy) [((ad 0), oX8 ad m_said m_waved m_places m_end m_joints m_netPlaces m_begin m_finish m_rounds m_sews), ((ad 1), aI cy 112 m_state)] sz)) ((fun A => va_Qi (fun (r : Int32) (u : (Nat → Int32)) => Q r u) (zE D vwCl A (fun (u : (Nat → Int32)) => [((ad 0), oX8 ad m_said m_waved m_places m_end m_joints m_netPlaces m_begin m_finish m_rounds m_sews), ((ad 1), aI cy 112 u)])) A) (va_A [((ad 0), oX8 ad m_said m_waved m_places m_end m_joints m_netPlaces m_begin m_finish m_rounds m_sews), ((ad 1), aI cy 112 m_state)] sz)) 0 0 (va_A [((ad 0), oX8 ad m_said m_waved m_places m_end m_joints m_netPlaces m_begin m_finish m_rounds m_sews), ((ad 1), aI cy 112 m_state)] sz) := by
  refine z_ofX (fun A => va_Qi (fun (r : Int32) (u : (Nat → Int32)) => Q r u) (zE D vwCl A (fun (u : (Nat → Int32)) => [((ad 0), oX8 ad m_said m_waved m_places m_end m_joints m_netPlaces m_begin m_finish m_rounds m_sews), ((ad 1), aI cy 112 u)])) A) (by decide) (Nat.le_of_ble_eq_true rfl) (fun p e s m below meth c A ls hx hb hr hml hown hts hlocks hK hPW hA hP hD hS hl => ?_)
  have hl : lv_has ls 4 [(0, .ref (ad 0)), (1, .int x1), (2, .int x2)] := hl
  have hown : s.vm.findClass RX8 = some m.cls := hown
  unfold wp_X8_set at h
  refine lv_iload_n hx hb dX8_set_0 rfl (lv_at hl 1 rfl) ?_
  refine zc_S0 (As := [.int x1]) (rest := []) hx hb hml hown hts hK hPW hA hl.1 hP hS ⟨Nat.zero_le _, Nat.zero_le _⟩ (c_X8_isSlot l D cy (sz := _) (x0 := x1) (h := h)) k_X8_116 ⟨rfl, rfl, (Nat.le_of_ble_eq_true rfl), (Nat.le_of_ble_eq_true rfl)⟩ rfl rfl (Nat.le_of_ble_eq_true rfl) dX8_set_1 (fun r_8 H locs h hP hS => ?_)
  refine lv_if_ne (tgt := 9) hx hb dX8_set_4 (by decide) (fun c_9 => ?_) (fun c_9 => ?_)
  · have h := h.1 c_9
    refine lv_iload_n hx hb dX8_set_9 rfl (lv_at hl 2 rfl) ?_
    refine zc_S0 (As := [.int x2]) (rest := []) hx hb hml hown hts hK hPW hA hl.1 hP hS ⟨Nat.zero_le _, Nat.zero_le _⟩ (c_X8_isMap l D cy (sz := _) (x0 := x2) (h := h)) k_X8_112 ⟨rfl, rfl, (Nat.le_of_ble_eq_true rfl), (Nat.le_of_ble_eq_true rfl)⟩ rfl rfl (Nat.le_of_ble_eq_true rfl) dX8_set_10 (fun r_10 H locs h hP hS => ?_)
    refine lv_if_ne (tgt := 19) hx hb dX8_set_13 (by decide) (fun c_11 => ?_) (fun c_11 => ?_)
    · have h := h.1 c_11
      refine lv_aload_n hx hb dX8_set_19 rfl (lv_at hl 0 rfl) ?_
      refine va_get (D := D) (ci := 7) (v := .ref (ad 1)) (C := RX8) (T := TX8) (N := 35) hx hb hts iX8 hown hK hP 0 rfl rfl 0 (Nat.le_of_ble_eq_true rfl) (hts _ fl_X8_7) (fun _ h9 => h9) rfl dX8_set_20 ?_
      refine lv_iconst (v := (0 : Int32)) hx hb dX8_set_23 (by decide) ?_
      refine lv_iload_n hx hb dX8_set_24 rfl (lv_at hl 1 rfl) ?_
      refine lv_iadd hx hb dX8_set_25 ?_
      obtain ⟨hi_12, h⟩ := h
      refine va_iald hx hb hK hP 1 0 rfl rfl hi_12 dX8_set_26 ?_
      refine lv_topi (fun x3_13 e_x3_13 => ?_)
      have h := h x3_13 e_x3_13
      refine lv_istore_n (lv' := [(3, .int x3_13), (0, .ref (ad 0)), (1, .int x1), (2, .int x2)]) hx hb dX8_set_27 rfl hl (by decide) rfl (fun ls hl => ?_)
      refine lv_aload_n hx hb dX8_set_28 rfl (lv_at hl 1 rfl) ?_
      refine va_get (D := D) (ci := 7) (v := .ref (ad 1)) (C := RX8) (T := TX8) (N := 35) hx hb hts iX8 hown hK hP 0 rfl rfl 0 (Nat.le_of_ble_eq_true rfl) (hts _ fl_X8_7) (fun _ h9 => h9) rfl dX8_set_29 ?_
      refine lv_iconst (v := (0 : Int32)) hx hb dX8_set_32 (by decide) ?_
      refine lv_iload_n hx hb dX8_set_33 rfl (lv_at hl 2 rfl) ?_
      refine lv_iadd hx hb dX8_set_34 ?_
      refine lv_iload_n hx hb dX8_set_35 rfl (lv_at hl 3 rfl) ?_
      obtain ⟨hi_14, h⟩ := h
      refine va_iast hx hb hK hP hD hS 1 0 rfl rfl hi_14 dX8_set_36 (fun H locs hP hD hS => ?_)
      have hP : va_P D vwCl [((ad 0), oX8 ad m_said m_waved m_places m_end m_joints m_netPlaces m_begin m_finish m_rounds m_sews), ((ad 1), aI cy 112 (upd m_state ((0 : Int32) + x1).toNatClampNeg x2))] H := hP
      have hD : va_D A [((ad 0), oX8 ad m_said m_waved m_places m_end m_joints m_netPlaces m_begin m_finish m_rounds m_sews), ((ad 1), aI cy 112 (upd m_state ((0 : Int32) + x1).toNatClampNeg x2))] := hD
      refine lv_iload_n hx hb dX8_set_37 rfl (lv_at hl 0 rfl) ?_
      exact z_iret (upd m_state ((0 : Int32) + x1).toNatClampNeg x2) hx hb hr hlocks h hP hD hS dX8_set_38
    · have h := h.2 c_11
      refine lv_bipush (v := (-2 : Int32)) hx hb dX8_set_16 (by decide) ?_
      exact z_iret m_state hx hb hr hlocks h hP hD hS dX8_set_18
  · have h := h.2 c_9
    refine lv_iconst (v := (-1 : Int32)) hx hb dX8_set_7 (by decide) ?_
    exact z_iret m_state hx hb hr hlocks h hP hD hS dX8_set_8
set_option maxHeartbeats 4000000 in
set_option maxRecDepth 100000 in
theorem c_X8_turnsOf (l : Launch) (D : va_G) (cy : Nat → ClassId) (sz : Nat) (x0 : Int32) {Q : Int32 → Prop} (h : wp_X8_turnsOf x0 Q) : Met l yX8_turnsOf (wsU yX8_turnsOf cX8_turnsOf 3 (some .int)) { frames := 3, cells := 0, slots := 0, locals := 67 } (va_Pc [.int x0] (zB D vwCl (tyU cy) [] sz)) ((fun A => va_Qi (fun (r : Int32) (_ : Unit) => Q r ) (zE D vwCl A (fun (_ : Unit) => [])) A) (va_A [] sz)) 0 0 (va_A [] sz) := by
  refine z_ofX (fun A => va_Qi (fun (r : Int32) (_ : Unit) => Q r ) (zE D vwCl A (fun (_ : Unit) => [])) A) (by decide) (Nat.le_of_ble_eq_true rfl) (fun p e s m below meth c A ls hx hb hr hml hown hts hlocks hK hPW hA hP hD hS hl => ?_)
  have hl : lv_has ls 3 [(0, .int x0)] := hl
  have hown : s.vm.findClass RX8 = some m.cls := hown
  generalize hArg : ([.int x0] : List Value).toArray = args at hts ⊢
  have hJ4 : ∀ (x0 : Int32) (x1 : Int32) (x2 : Int32), wp_X8_turnsOf_4 x0  Q x1 x2 → ∀ (H : Heap) (locs : List Loc) (ls : Array Slot), va_P D vwCl [] H → va_D A [] → va_S A s.heap H locs → lv_has ls 3 [(0, .int x0), (1, .int x1), (2, .int x2)] → W p l e { frames := 3, cells := 0, slots := 0, locals := 67 } s m args below meth c H locs 0 0 (MQ below ((fun A => va_Qi (fun (r : Int32) (_ : Unit) => Q r ) (zE D vwCl A (fun (_ : Unit) => [])) A) A) args s 0 0 A) (F0 m 4 ls []) := by
    intro x0 x1 x2   h
    obtain ⟨nn, h⟩ := h
    have key : ∀ (nn : Nat) (x1 : Int32) (x2 : Int32), lpW2 (wb_X8_turnsOf_4 x0  Q) nn x1 x2 → ∀ (H : Heap) (locs : List Loc) (ls : Array Slot), va_P D vwCl [] H → va_D A [] → va_S A s.heap H locs → lv_has ls 3 [(0, .int x0), (1, .int x1), (2, .int x2)] → W p l e { frames := 3, cells := 0, slots := 0, locals := 67 } s m args below meth c H locs 0 0 (MQ below ((fun A => va_Qi (fun (r : Int32) (_ : Unit) => Q r ) (zE D vwCl A (fun (_ : Unit) => [])) A) A) args s 0 0 A) (F0 m 4 ls []) := by
      intro nn
      induction nn with
      | zero => intro x1 x2 h; exact h.elim
      | succ nn hrc4 =>
        intro x1 x2 h H locs ls hP hD hS hl
        have h : wb_X8_turnsOf_4 x0  Q (lpW2 (wb_X8_turnsOf_4 x0  Q) nn) x1 x2 := h
        unfold wb_X8_turnsOf_4 at h
        refine lv_iload_n hx hb dX8_turnsOf_4 rfl (lv_at hl 2 rfl) ?_
        refine zc_S0 (As := [.int x2]) (rest := []) hx hb hml hown hts hK hPW hA hl.1 hP hS ⟨Nat.zero_le _, Nat.zero_le _⟩ (c_X8_isIdempotent l D cy (sz := _) (x0 := x2) (h := h)) k_X8_119 ⟨rfl, rfl, (Nat.le_of_ble_eq_true rfl), (Nat.le_of_ble_eq_true rfl)⟩ rfl rfl (Nat.le_of_ble_eq_true rfl) dX8_turnsOf_5 (fun r_5 H locs h hP hS => ?_)
        refine lv_if_ne (tgt := 23) hx hb dX8_turnsOf_8 (by decide) (fun c_6 => ?_) (fun c_6 => ?_)
        · have h := h.1 c_6
          refine lv_iload_n hx hb dX8_turnsOf_23 rfl (lv_at hl 1 rfl) ?_
          exact z_iret () hx hb hr hlocks h hP hD hS dX8_turnsOf_24
        · have h := h.2 c_6
          refine lv_iload_n hx hb dX8_turnsOf_11 rfl (lv_at hl 2 rfl) ?_
          refine lv_iload_n hx hb dX8_turnsOf_12 rfl (lv_at hl 0 rfl) ?_
          refine zc_S0 (As := [.int x2, .int x0]) (rest := []) hx hb hml hown hts hK hPW hA hl.1 hP hS ⟨Nat.zero_le _, Nat.zero_le _⟩ (c_X8_then l D cy (sz := _) (x0 := x2) (x1 := x0) (h := h)) k_X8_122 ⟨rfl, rfl, (Nat.le_of_ble_eq_true rfl), (Nat.le_of_ble_eq_true rfl)⟩ rfl rfl (Nat.le_of_ble_eq_true rfl) dX8_turnsOf_13 (fun r_7 H locs h hP hS => ?_)
          refine lv_istore_n (lv' := [(2, .int r_7), (0, .int x0), (1, .int x1)]) hx hb dX8_turnsOf_16 rfl hl (by decide) rfl (fun ls hl => ?_)
          obtain ⟨x1_8, e_x1_8⟩ : ∃ y : Int32, y = x1 + (1 : Int32) := ⟨_, rfl⟩
          refine lv_iinc (v := x1_8) (lv' := [(1, .int x1_8), (2, .int r_7), (0, .int x0)]) hx hb dX8_turnsOf_17 hl (k := 2) rfl (by rw [e_x1_8]; rfl) (by decide) rfl (fun ls hl => ?_)
          have h := h x1_8 e_x1_8
          refine lv_goto (tgt := 4) hx hb dX8_turnsOf_20 (by decide) ?_
          exact hrc4 x1_8 r_7 h _ _ _ hP hD hS (lv_sub hl [2, 0, 1] rfl)
    exact key nn x1 x2 h
  unfold wp_X8_turnsOf at h
  refine lv_iconst (v := (1 : Int32)) hx hb dX8_turnsOf_0 (by decide) ?_
  refine lv_istore_n (lv' := [(1, .int (1 : Int32)), (0, .int x0)]) hx hb dX8_turnsOf_1 rfl hl (by decide) rfl (fun ls hl => ?_)
  refine lv_iload_n hx hb dX8_turnsOf_2 rfl (lv_at hl 1 rfl) ?_
  refine lv_istore_n (lv' := [(2, .int x0), (1, .int (1 : Int32)), (0, .int x0)]) hx hb dX8_turnsOf_3 rfl hl (by decide) rfl (fun ls hl => ?_)
  exact hJ4 x0 (1 : Int32) x0   h _ _ _ hP hD hS (lv_sub hl [2, 1, 0] rfl)
set_option maxHeartbeats 4000000 in
set_option maxRecDepth 100000 in
theorem c_X8_of (l : Launch) (D : va_G) (cy : Nat → ClassId) (ad : Nat → Nat) (sz : Nat) (m_said : Int32) (m_waved : Int32) (m_places : Int32) (m_end : Int32) (m_joints : Int32) (m_netPlaces : Int32) (m_begin : Int32) (m_finish : Int32) (m_rounds : Int32) (m_sews : Int32) (m_state : Nat → Int32) (x1 : Int32) (x2 : Int32) {Q : Int32 → Prop} (h : wp_X8_of x1 x2 m_state Q) : Met l yX8_of (wsU yX8_of cX8_of 4 (some .int)) { frames := 4, cells := 0, slots := 0, locals := 89 } (va_Pc [.ref (ad 0), .int x1, .int x2] (zB D vwCl (tyU cy) [((ad 0), oX8 ad m_said m_waved m_places m_end m_joints m_netPlaces m_begin m_finish m_rounds m_sews), ((ad 1), aI cy 112 m_state)] sz)) ((fun A => va_Qi (fun (r : Int32) (_ : Unit) => Q r ) (zE D vwCl A (fun (_ : Unit) => [((ad 0), oX8 ad m_said m_waved m_places m_end m_joints m_netPlaces m_begin m_finish m_rounds m_sews), ((ad 1), aI cy 112 m_state)])) A) (va_A [((ad 0), oX8 ad m_said m_waved m_places m_end m_joints m_netPlaces m_begin m_finish m_rounds m_sews), ((ad 1), aI cy 112 m_state)] sz)) 0 0 (va_A [((ad 0), oX8 ad m_said m_waved m_places m_end m_joints m_netPlaces m_begin m_finish m_rounds m_sews), ((ad 1), aI cy 112 m_state)] sz) := by
  refine z_ofX (fun A => va_Qi (fun (r : Int32) (_ : Unit) => Q r ) (zE D vwCl A (fun (_ : Unit) => [((ad 0), oX8 ad m_said m_waved m_places m_end m_joints m_netPlaces m_begin m_finish m_rounds m_sews), ((ad 1), aI cy 112 m_state)])) A) (by decide) (Nat.le_of_ble_eq_true rfl) (fun p e s m below meth c A ls hx hb hr hml hown hts hlocks hK hPW hA hP hD hS hl => ?_)
  have hl : lv_has ls 4 [(0, .ref (ad 0)), (1, .int x1), (2, .int x2)] := hl
  have hown : s.vm.findClass RX8 = some m.cls := hown
  unfold wp_X8_of at h
  refine lv_iload_n hx hb dX8_of_0 rfl (lv_at hl 1 rfl) ?_
  refine zc_S0 (As := [.int x1]) (rest := []) hx hb hml hown hts hK hPW hA hl.1 hP hS ⟨Nat.zero_le _, Nat.zero_le _⟩ (c_X8_isSlot l D cy (sz := _) (x0 := x1) (h := h)) k_X8_116 ⟨rfl, rfl, (Nat.le_of_ble_eq_true rfl), (Nat.le_of_ble_eq_true rfl)⟩ rfl rfl (Nat.le_of_ble_eq_true rfl) dX8_of_1 (fun r_10 H locs h hP hS => ?_)
  refine lv_if_ne (tgt := 9) hx hb dX8_of_4 (by decide) (fun c_11 => ?_) (fun c_11 => ?_)
  · have h := h.1 c_11
    refine lv_aload_n hx hb dX8_of_9 rfl (lv_at hl 0 rfl) ?_
    refine va_get (D := D) (ci := 7) (v := .ref (ad 1)) (C := RX8) (T := TX8) (N := 35) hx hb hts iX8 hown hK hP 0 rfl rfl 0 (Nat.le_of_ble_eq_true rfl) (hts _ fl_X8_7) (fun _ h9 => h9) rfl dX8_of_10 ?_
    refine lv_iconst (v := (0 : Int32)) hx hb dX8_of_13 (by decide) ?_
    refine lv_iload_n hx hb dX8_of_14 rfl (lv_at hl 1 rfl) ?_
    refine lv_iadd hx hb dX8_of_15 ?_
    obtain ⟨hi_12, h⟩ := h
    refine va_iald hx hb hK hP 1 0 rfl rfl hi_12 dX8_of_16 ?_
    refine lv_topi (fun x3_13 e_x3_13 => ?_)
    have h := h x3_13 e_x3_13
    refine lv_istore_n (lv' := [(3, .int x3_13), (0, .ref (ad 0)), (1, .int x1), (2, .int x2)]) hx hb dX8_of_17 rfl hl (by decide) rfl (fun ls hl => ?_)
    refine lv_iload_n hx hb dX8_of_18 rfl (lv_at hl 3 rfl) ?_
    by_cases es_14_0 : x2 = (0 : Int32)
    · refine lv_tableIn (off := 29) (tgt := 48) hx hb dX8_of_19 (by rw [es_14_0]; decide) (by rw [es_14_0]; decide) (by rw [es_14_0]; decide) (by decide) ?_
      have h := h.1 es_14_0
      refine lv_iload_n hx hb dX8_of_48 rfl (lv_at hl 0 rfl) ?_
      exact z_iret () hx hb hr hlocks h hP hD hS dX8_of_49
    by_cases es_14_1 : x2 = (1 : Int32)
    · refine lv_tableIn (off := 31) (tgt := 50) hx hb dX8_of_19 (by rw [es_14_1]; decide) (by rw [es_14_1]; decide) (by rw [es_14_1]; decide) (by decide) ?_
      have h := h.2.1 es_14_1
      refine lv_iload_n hx hb dX8_of_50 rfl (lv_at hl 0 rfl) ?_
      refine zc_S0 (As := [.int x3_13]) (rest := []) hx hb hml hown hts hK hPW hA hl.1 hP hS ⟨Nat.zero_le _, Nat.zero_le _⟩ (c_X8_rank l D cy (sz := _) (x0 := x3_13) (h := h)) k_X8_125 ⟨rfl, rfl, (Nat.le_of_ble_eq_true rfl), (Nat.le_of_ble_eq_true rfl)⟩ rfl rfl (Nat.le_of_ble_eq_true rfl) dX8_of_51 (fun r_15 H locs h hP hS => ?_)
      exact z_iret () hx hb hr hlocks h hP hD hS dX8_of_54
    by_cases es_14_2 : x2 = (2 : Int32)
    · refine lv_tableIn (off := 36) (tgt := 55) hx hb dX8_of_19 (by rw [es_14_2]; decide) (by rw [es_14_2]; decide) (by rw [es_14_2]; decide) (by decide) ?_
      have h := h.2.2.1 es_14_2
      refine lv_iload_n hx hb dX8_of_55 rfl (lv_at hl 0 rfl) ?_
      refine zc_S0 (As := [.int x3_13]) (rest := []) hx hb hml hown hts hK hPW hA hl.1 hP hS ⟨Nat.zero_le _, Nat.zero_le _⟩ (c_X8_isIdempotent l D cy (sz := _) (x0 := x3_13) (h := h)) k_X8_119 ⟨rfl, rfl, (Nat.le_of_ble_eq_true rfl), (Nat.le_of_ble_eq_true rfl)⟩ rfl rfl (Nat.le_of_ble_eq_true rfl) dX8_of_56 (fun r_16 H locs h hP hS => ?_)
      refine lv_if_eq (tgt := 66) hx hb dX8_of_59 (by decide) (fun c_17 => ?_) (fun c_17 => ?_)
      · have h := h.1 c_17
        refine lv_iconst (v := (0 : Int32)) hx hb dX8_of_66 (by decide) ?_
        exact z_iret () hx hb hr hlocks h hP hD hS dX8_of_67
      · have h := h.2 c_17
        refine lv_iconst (v := (1 : Int32)) hx hb dX8_of_62 (by decide) ?_
        refine lv_goto (tgt := 67) hx hb dX8_of_63 (by decide) ?_
        exact z_iret () hx hb hr hlocks h hP hD hS dX8_of_67
    by_cases es_14_3 : x2 = (3 : Int32)
    · refine lv_tableIn (off := 49) (tgt := 68) hx hb dX8_of_19 (by rw [es_14_3]; decide) (by rw [es_14_3]; decide) (by rw [es_14_3]; decide) (by decide) ?_
      have h := h.2.2.2.1 es_14_3
      refine lv_iload_n hx hb dX8_of_68 rfl (lv_at hl 0 rfl) ?_
      refine zc_S0 (As := [.int x3_13]) (rest := []) hx hb hml hown hts hK hPW hA hl.1 hP hS ⟨Nat.zero_le _, Nat.zero_le _⟩ (c_X8_turnsOf l D cy (sz := _) (x0 := x3_13) (h := h)) k_X8_128 ⟨rfl, rfl, (Nat.le_of_ble_eq_true rfl), (Nat.le_of_ble_eq_true rfl)⟩ rfl rfl (Nat.le_of_ble_eq_true rfl) dX8_of_69 (fun r_18 H locs h hP hS => ?_)
      exact z_iret () hx hb hr hlocks h hP hD hS dX8_of_72
    refine lv_tableOut (tgt := 73) hx hb dX8_of_19 (by have := lv_neT es_14_0 (a := 0) (by decide); have := lv_neT es_14_1 (a := 1) (by decide); have := lv_neT es_14_2 (a := 2) (by decide); have := lv_neT es_14_3 (a := 3) (by decide); omega) (by decide) ?_
    have h := h.2.2.2.2 es_14_0 es_14_1 es_14_2 es_14_3
    refine lv_bipush (v := (-2 : Int32)) hx hb dX8_of_73 (by decide) ?_
    exact z_iret () hx hb hr hlocks h hP hD hS dX8_of_75
  · have h := h.2 c_11
    refine lv_iconst (v := (-1 : Int32)) hx hb dX8_of_7 (by decide) ?_
    exact z_iret () hx hb hr hlocks h hP hD hS dX8_of_8
set_option maxHeartbeats 4000000 in
set_option maxRecDepth 100000 in
theorem c_X8_leads (l : Launch) (D : va_G) (cy : Nat → ClassId) (ad : Nat → Nat) (sz : Nat) (m_said : Int32) (m_waved : Int32) (m_places : Int32) (m_end : Int32) (m_joints : Int32) (m_netPlaces : Int32) (m_begin : Int32) (m_finish : Int32) (m_rounds : Int32) (m_sews : Int32) (m_state : Nat → Int32) (x1 : Int32) (x2 : Int32) {Q : Int32 → Prop} (h : wp_X8_leads x1 x2 m_state Q) : Met l yX8_leads (wsU yX8_leads cX8_leads 4 (some .int)) { frames := 2, cells := 0, slots := 0, locals := 43 } (va_Pc [.ref (ad 0), .int x1, .int x2] (zB D vwCl (tyU cy) [((ad 0), oX8 ad m_said m_waved m_places m_end m_joints m_netPlaces m_begin m_finish m_rounds m_sews), ((ad 1), aI cy 112 m_state)] sz)) ((fun A => va_Qi (fun (r : Int32) (_ : Unit) => Q r ) (zE D vwCl A (fun (_ : Unit) => [((ad 0), oX8 ad m_said m_waved m_places m_end m_joints m_netPlaces m_begin m_finish m_rounds m_sews), ((ad 1), aI cy 112 m_state)])) A) (va_A [((ad 0), oX8 ad m_said m_waved m_places m_end m_joints m_netPlaces m_begin m_finish m_rounds m_sews), ((ad 1), aI cy 112 m_state)] sz)) 0 0 (va_A [((ad 0), oX8 ad m_said m_waved m_places m_end m_joints m_netPlaces m_begin m_finish m_rounds m_sews), ((ad 1), aI cy 112 m_state)] sz) := by
  refine z_ofX (fun A => va_Qi (fun (r : Int32) (_ : Unit) => Q r ) (zE D vwCl A (fun (_ : Unit) => [((ad 0), oX8 ad m_said m_waved m_places m_end m_joints m_netPlaces m_begin m_finish m_rounds m_sews), ((ad 1), aI cy 112 m_state)])) A) (by decide) (Nat.le_of_ble_eq_true rfl) (fun p e s m below meth c A ls hx hb hr hml hown hts hlocks hK hPW hA hP hD hS hl => ?_)
  have hl : lv_has ls 4 [(0, .ref (ad 0)), (1, .int x1), (2, .int x2)] := hl
  have hown : s.vm.findClass RX8 = some m.cls := hown
  unfold wp_X8_leads at h
  refine lv_iload_n hx hb dX8_leads_0 rfl (lv_at hl 1 rfl) ?_
  refine zc_S0 (As := [.int x1]) (rest := []) hx hb hml hown hts hK hPW hA hl.1 hP hS ⟨Nat.zero_le _, Nat.zero_le _⟩ (c_X8_isSlot l D cy (sz := _) (x0 := x1) (h := h)) k_X8_116 ⟨rfl, rfl, (Nat.le_of_ble_eq_true rfl), (Nat.le_of_ble_eq_true rfl)⟩ rfl rfl (Nat.le_of_ble_eq_true rfl) dX8_leads_1 (fun r_8 H locs h hP hS => ?_)
  refine lv_if_eq (tgt := 16) hx hb dX8_leads_4 (by decide) (fun c_9 => ?_) (fun c_9 => ?_)
  · have h := h.1 c_9
    refine lv_iconst (v := (-1 : Int32)) hx hb dX8_leads_16 (by decide) ?_
    exact z_iret () hx hb hr hlocks h hP hD hS dX8_leads_17
  · have h := h.2 c_9
    refine lv_iload_n hx hb dX8_leads_7 rfl (lv_at hl 2 rfl) ?_
    refine lv_iconst (v := (0 : Int32)) hx hb dX8_leads_8 (by decide) ?_
    refine lv_iconst (v := (4 : Int32)) hx hb dX8_leads_9 (by decide) ?_
    refine zc_S0 (As := [.int x2, .int (0 : Int32), .int (4 : Int32)]) (rest := []) hx hb hml hown hts hK hPW hA hl.1 hP hS ⟨Nat.zero_le _, Nat.zero_le _⟩ (c_X8_in l D cy (sz := _) (x0 := x2) (x1 := (0 : Int32)) (x2 := (4 : Int32)) (h := h)) k_X8_91 ⟨rfl, rfl, (Nat.le_of_ble_eq_true rfl), (Nat.le_of_ble_eq_true rfl)⟩ rfl rfl (Nat.le_of_ble_eq_true rfl) dX8_leads_10 (fun r_10 H locs h hP hS => ?_)
    refine lv_if_ne (tgt := 18) hx hb dX8_leads_13 (by decide) (fun c_11 => ?_) (fun c_11 => ?_)
    · have h := h.1 c_11
      refine lv_aload_n hx hb dX8_leads_18 rfl (lv_at hl 0 rfl) ?_
      refine va_get (D := D) (ci := 7) (v := .ref (ad 1)) (C := RX8) (T := TX8) (N := 35) hx hb hts iX8 hown hK hP 0 rfl rfl 0 (Nat.le_of_ble_eq_true rfl) (hts _ fl_X8_7) (fun _ h9 => h9) rfl dX8_leads_19 ?_
      refine lv_iconst (v := (0 : Int32)) hx hb dX8_leads_22 (by decide) ?_
      refine lv_iload_n hx hb dX8_leads_23 rfl (lv_at hl 1 rfl) ?_
      refine lv_iadd hx hb dX8_leads_24 ?_
      obtain ⟨hi_12, h⟩ := h
      refine va_iald hx hb hK hP 1 0 rfl rfl hi_12 dX8_leads_25 ?_
      refine lv_iload_n hx hb dX8_leads_26 rfl (lv_at hl 2 rfl) ?_
      refine zc_S0 (As := [.int (m_state ((0 : Int32) + x1).toNatClampNeg), .int x2]) (rest := []) hx hb hml hown hts hK hPW hA hl.1 hP hS ⟨Nat.zero_le _, Nat.zero_le _⟩ (c_X8_to l D cy (sz := _) (x0 := (m_state ((0 : Int32) + x1).toNatClampNeg)) (x1 := x2) (h := h)) k_X8_103 ⟨rfl, rfl, (Nat.le_of_ble_eq_true rfl), (Nat.le_of_ble_eq_true rfl)⟩ rfl rfl (Nat.le_of_ble_eq_true rfl) dX8_leads_27 (fun r_13 H locs h hP hS => ?_)
      refine lv_istore_n (lv' := [(3, .int r_13), (0, .ref (ad 0)), (1, .int x1), (2, .int x2)]) hx hb dX8_leads_30 rfl hl (by decide) rfl (fun ls hl => ?_)
      refine lv_iload_n hx hb dX8_leads_31 rfl (lv_at hl 0 rfl) ?_
      refine lv_if_ge (tgt := 40) hx hb dX8_leads_32 (by decide) (fun c_14 => ?_) (fun c_14 => ?_)
      · have h := h.1 c_14
        refine lv_iload_n hx hb dX8_leads_40 rfl (lv_at hl 0 rfl) ?_
        exact z_iret () hx hb hr hlocks h hP hD hS dX8_leads_41
      · have h := h.2 c_14
        refine lv_bipush (v := (-6 : Int32)) hx hb dX8_leads_35 (by decide) ?_
        refine lv_goto (tgt := 41) hx hb dX8_leads_37 (by decide) ?_
        exact z_iret () hx hb hr hlocks h hP hD hS dX8_leads_41
    · have h := h.2 c_11
      refine lv_iconst (v := (-1 : Int32)) hx hb dX8_leads_16 (by decide) ?_
      exact z_iret () hx hb hr hlocks h hP hD hS dX8_leads_17
set_option maxHeartbeats 4000000 in
set_option maxRecDepth 100000 in
theorem c_X8_hold (l : Launch) (D : va_G) (cy : Nat → ClassId) (ad : Nat → Nat) (sz : Nat) (m_said : Int32) (m_waved : Int32) (m_places : Int32) (m_end : Int32) (m_joints : Int32) (m_netPlaces : Int32) (m_begin : Int32) (m_finish : Int32) (m_rounds : Int32) (m_sews : Int32) (m_state : Nat → Int32) (x1 : Int32) (x2 : Int32) {Q : Int32 → (Nat → Int32) → Prop} (h : wp_X8_hold x1 x2 m_state Q) : Met l yX8_hold (wsU yX8_hold cX8_hold 3 (some .int)) { frames := 3, cells := 0, slots := 0, locals := 65 } (va_Pc [.ref (ad 0), .int x1, .int x2] (zB D vwCl (tyU cy) [((ad 0), oX8 ad m_said m_waved m_places m_end m_joints m_netPlaces m_begin m_finish m_rounds m_sews), ((ad 1), aI cy 112 m_state)] sz)) ((fun A => va_Qi (fun (r : Int32) (u : (Nat → Int32)) => Q r u) (zE D vwCl A (fun (u : (Nat → Int32)) => [((ad 0), oX8 ad m_said m_waved m_places m_end m_joints m_netPlaces m_begin m_finish m_rounds m_sews), ((ad 1), aI cy 112 u)])) A) (va_A [((ad 0), oX8 ad m_said m_waved m_places m_end m_joints m_netPlaces m_begin m_finish m_rounds m_sews), ((ad 1), aI cy 112 m_state)] sz)) 0 0 (va_A [((ad 0), oX8 ad m_said m_waved m_places m_end m_joints m_netPlaces m_begin m_finish m_rounds m_sews), ((ad 1), aI cy 112 m_state)] sz) := by
  refine z_ofX (fun A => va_Qi (fun (r : Int32) (u : (Nat → Int32)) => Q r u) (zE D vwCl A (fun (u : (Nat → Int32)) => [((ad 0), oX8 ad m_said m_waved m_places m_end m_joints m_netPlaces m_begin m_finish m_rounds m_sews), ((ad 1), aI cy 112 u)])) A) (by decide) (Nat.le_of_ble_eq_true rfl) (fun p e s m below meth c A ls hx hb hr hml hown hts hlocks hK hPW hA hP hD hS hl => ?_)
  have hl : lv_has ls 3 [(0, .ref (ad 0)), (1, .int x1), (2, .int x2)] := hl
  have hown : s.vm.findClass RX8 = some m.cls := hown
  unfold wp_X8_hold at h
  refine lv_aload_n hx hb dX8_hold_0 rfl (lv_at hl 0 rfl) ?_
  refine va_get (D := D) (ci := 7) (v := .ref (ad 1)) (C := RX8) (T := TX8) (N := 35) hx hb hts iX8 hown hK hP 0 rfl rfl 0 (Nat.le_of_ble_eq_true rfl) (hts _ fl_X8_7) (fun _ h9 => h9) rfl dX8_hold_1 ?_
  refine lv_iconst (v := (0 : Int32)) hx hb dX8_hold_4 (by decide) ?_
  refine lv_iload_n hx hb dX8_hold_5 rfl (lv_at hl 1 rfl) ?_
  refine lv_iadd hx hb dX8_hold_6 ?_
  refine lv_iload_n hx hb dX8_hold_7 rfl (lv_at hl 2 rfl) ?_
  obtain ⟨hi_3, h⟩ := h
  refine va_iast hx hb hK hP hD hS 1 0 rfl rfl hi_3 dX8_hold_8 (fun H locs hP hD hS => ?_)
  have hP : va_P D vwCl [((ad 0), oX8 ad m_said m_waved m_places m_end m_joints m_netPlaces m_begin m_finish m_rounds m_sews), ((ad 1), aI cy 112 (upd m_state ((0 : Int32) + x1).toNatClampNeg x2))] H := hP
  have hD : va_D A [((ad 0), oX8 ad m_said m_waved m_places m_end m_joints m_netPlaces m_begin m_finish m_rounds m_sews), ((ad 1), aI cy 112 (upd m_state ((0 : Int32) + x1).toNatClampNeg x2))] := hD
  refine lv_iload_n hx hb dX8_hold_9 rfl (lv_at hl 2 rfl) ?_
  refine zc_S0 (As := [.int x2]) (rest := []) hx hb hml hown hts hK hPW hA hl.1 hP hS ⟨Nat.zero_le _, Nat.zero_le _⟩ (c_X8_rank l D cy (sz := _) (x0 := x2) (h := h)) k_X8_125 ⟨rfl, rfl, (Nat.le_of_ble_eq_true rfl), (Nat.le_of_ble_eq_true rfl)⟩ rfl rfl (Nat.le_of_ble_eq_true rfl) dX8_hold_10 (fun r_4 H locs h hP hS => ?_)
  exact z_iret (upd m_state ((0 : Int32) + x1).toNatClampNeg x2) hx hb hr hlocks h hP hD hS dX8_hold_13
set_option maxHeartbeats 4000000 in
set_option maxRecDepth 100000 in
theorem c_X8_both (l : Launch) (D : va_G) (cy : Nat → ClassId) (ad : Nat → Nat) (sz : Nat) (m_said : Int32) (m_waved : Int32) (m_places : Int32) (m_end : Int32) (m_joints : Int32) (m_netPlaces : Int32) (m_begin : Int32) (m_finish : Int32) (m_rounds : Int32) (m_sews : Int32) (m_state : Nat → Int32) (x1 : Int32) (x2 : Int32) (x3 : Int32) (x4 : Int32) {Q : Int32 → (Nat → Int32) → Prop} (h : wp_X8_both x1 x2 x3 x4 m_state Q) : Met l yX8_both (wsU yX8_both cX8_both 8 (some .int)) { frames := 4, cells := 0, slots := 0, locals := 92 } (va_Pc [.ref (ad 0), .int x1, .int x2, .int x3, .int x4] (zB D vwCl (tyU cy) [((ad 0), oX8 ad m_said m_waved m_places m_end m_joints m_netPlaces m_begin m_finish m_rounds m_sews), ((ad 1), aI cy 112 m_state)] sz)) ((fun A => va_Qi (fun (r : Int32) (u : (Nat → Int32)) => Q r u) (zE D vwCl A (fun (u : (Nat → Int32)) => [((ad 0), oX8 ad m_said m_waved m_places m_end m_joints m_netPlaces m_begin m_finish m_rounds m_sews), ((ad 1), aI cy 112 u)])) A) (va_A [((ad 0), oX8 ad m_said m_waved m_places m_end m_joints m_netPlaces m_begin m_finish m_rounds m_sews), ((ad 1), aI cy 112 m_state)] sz)) 0 0 (va_A [((ad 0), oX8 ad m_said m_waved m_places m_end m_joints m_netPlaces m_begin m_finish m_rounds m_sews), ((ad 1), aI cy 112 m_state)] sz) := by
  refine z_ofX (fun A => va_Qi (fun (r : Int32) (u : (Nat → Int32)) => Q r u) (zE D vwCl A (fun (u : (Nat → Int32)) => [((ad 0), oX8 ad m_said m_waved m_places m_end m_joints m_netPlaces m_begin m_finish m_rounds m_sews), ((ad 1), aI cy 112 u)])) A) (by decide) (Nat.le_of_ble_eq_true rfl) (fun p e s m below meth c A ls hx hb hr hml hown hts hlocks hK hPW hA hP hD hS hl => ?_)
  have hl : lv_has ls 8 [(0, .ref (ad 0)), (1, .int x1), (2, .int x2), (3, .int x3), (4, .int x4)] := hl
  have hown : s.vm.findClass RX8 = some m.cls := hown
  generalize hArg : ([.ref (ad 0), .int x1, .int x2, .int x3, .int x4] : List Value).toArray = args at hts ⊢
  have hJ94 : ∀ (x1 : Int32) (t0 : Int32) (m_state : Nat → Int32), wp_X8_both_94 x1 t0 m_state  Q → ∀ (H : Heap) (locs : List Loc) (ls : Array Slot), va_P D vwCl [((ad 0), oX8 ad m_said m_waved m_places m_end m_joints m_netPlaces m_begin m_finish m_rounds m_sews), ((ad 1), aI cy 112 m_state)] H → va_D A [((ad 0), oX8 ad m_said m_waved m_places m_end m_joints m_netPlaces m_begin m_finish m_rounds m_sews), ((ad 1), aI cy 112 m_state)] → va_S A s.heap H locs → lv_has ls 8 [(0, .ref (ad 0)), (1, .int x1)] → W p l e { frames := 4, cells := 0, slots := 0, locals := 92 } s m args below meth c H locs 0 0 (MQ below ((fun A => va_Qi (fun (r : Int32) (u : (Nat → Int32)) => Q r u) (zE D vwCl A (fun (u : (Nat → Int32)) => [((ad 0), oX8 ad m_said m_waved m_places m_end m_joints m_netPlaces m_begin m_finish m_rounds m_sews), ((ad 1), aI cy 112 u)])) A) A) args s 0 0 A) (F0 m 94 ls [.int t0]) := by
    intro x1 t0 m_state   h H locs ls hP hD hS hl
    unfold wp_X8_both_94 at h
    refine lv_istore (lv' := [(7, .int t0), (0, .ref (ad 0)), (1, .int x1)]) hx hb dX8_both_94 hl (by decide) rfl (fun ls hl => ?_)
    refine lv_iload hx hb dX8_both_96 (lv_at hl 0 rfl) ?_
    refine lv_if_ge (tgt := 106) hx hb dX8_both_98 (by decide) (fun c_20 => ?_) (fun c_20 => ?_)
    · have h := h.1 c_20
      refine lv_aload_n hx hb dX8_both_106 rfl (lv_at hl 1 rfl) ?_
      refine lv_iload_n hx hb dX8_both_107 rfl (lv_at hl 2 rfl) ?_
      refine lv_iload hx hb dX8_both_108 (lv_at hl 0 rfl) ?_
      refine zc_Vi (As := [.int x1, .int t0]) (rest := []) (wc := [((ad 0), oX8 ad m_said m_waved m_places m_end m_joints m_netPlaces m_begin m_finish m_rounds m_sews), ((ad 1), aI cy 112 m_state)]) (wr := []) hx hb hml hown hts hK hPW hA hl.1 hP hD hS ⟨Nat.zero_le _, Nat.zero_le _⟩ [0, 1] [] rfl rfl (by decide) (c_X8_hold l D cy (sz := _) (x1 := x1) (x2 := t0) (ad := ad) (m_said := m_said) (m_waved := m_waved) (m_places := m_places) (m_end := m_end) (m_joints := m_joints) (m_netPlaces := m_netPlaces) (m_begin := m_begin) (m_finish := m_finish) (m_rounds := m_rounds) (m_sews := m_sews) (m_state := m_state) (h := h)) k_X8_137 ⟨rfl, rfl, (Nat.le_of_ble_eq_true rfl), (Nat.le_of_ble_eq_true rfl)⟩ rfl rfl rfl rfl (Nat.le_of_ble_eq_true rfl) dX8_both_110 (fun r_21 m_state_21 H locs h hP hD hS => ?_)
      have hP : va_P D vwCl [((ad 0), oX8 ad m_said m_waved m_places m_end m_joints m_netPlaces m_begin m_finish m_rounds m_sews), ((ad 1), aI cy 112 m_state_21)] H := hP
      have hD : va_D A [((ad 0), oX8 ad m_said m_waved m_places m_end m_joints m_netPlaces m_begin m_finish m_rounds m_sews), ((ad 1), aI cy 112 m_state_21)] := hD
      exact z_iret m_state_21 hx hb hr hlocks h hP hD hS dX8_both_113
    · have h := h.2 c_20
      refine lv_bipush (v := (-3 : Int32)) hx hb dX8_both_101 (by decide) ?_
      refine lv_goto (tgt := 113) hx hb dX8_both_103 (by decide) ?_
      exact z_iret m_state hx hb hr hlocks h hP hD hS dX8_both_113
  unfold wp_X8_both at h
  refine lv_iload_n hx hb dX8_both_0 rfl (lv_at hl 1 rfl) ?_
  refine zc_S0 (As := [.int x1]) (rest := []) hx hb hml hown hts hK hPW hA hl.1 hP hS ⟨Nat.zero_le _, Nat.zero_le _⟩ (c_X8_isSlot l D cy (sz := _) (x0 := x1) (h := h)) k_X8_116 ⟨rfl, rfl, (Nat.le_of_ble_eq_true rfl), (Nat.le_of_ble_eq_true rfl)⟩ rfl rfl (Nat.le_of_ble_eq_true rfl) dX8_both_1 (fun r_22 H locs h hP hS => ?_)
  refine lv_if_eq (tgt := 21) hx hb dX8_both_4 (by decide) (fun c_23 => ?_) (fun c_23 => ?_)
  · have h := h.1 c_23
    refine lv_iconst (v := (-1 : Int32)) hx hb dX8_both_21 (by decide) ?_
    exact z_iret m_state hx hb hr hlocks h hP hD hS dX8_both_22
  · have h := h.2 c_23
    refine lv_iload_n hx hb dX8_both_7 rfl (lv_at hl 2 rfl) ?_
    refine zc_S0 (As := [.int x2]) (rest := []) hx hb hml hown hts hK hPW hA hl.1 hP hS ⟨Nat.zero_le _, Nat.zero_le _⟩ (c_X8_isSlot l D cy (sz := _) (x0 := x2) (h := h)) k_X8_116 ⟨rfl, rfl, (Nat.le_of_ble_eq_true rfl), (Nat.le_of_ble_eq_true rfl)⟩ rfl rfl (Nat.le_of_ble_eq_true rfl) dX8_both_8 (fun r_24 H locs h hP hS => ?_)
    refine lv_if_eq (tgt := 21) hx hb dX8_both_11 (by decide) (fun c_25 => ?_) (fun c_25 => ?_)
    · have h := h.1 c_25
      refine lv_iconst (v := (-1 : Int32)) hx hb dX8_both_21 (by decide) ?_
      exact z_iret m_state hx hb hr hlocks h hP hD hS dX8_both_22
    · have h := h.2 c_25
      refine lv_iload_n hx hb dX8_both_14 rfl (lv_at hl 3 rfl) ?_
      refine zc_S0 (As := [.int x3]) (rest := []) hx hb hml hown hts hK hPW hA hl.1 hP hS ⟨Nat.zero_le _, Nat.zero_le _⟩ (c_X8_isSlot l D cy (sz := _) (x0 := x3) (h := h)) k_X8_116 ⟨rfl, rfl, (Nat.le_of_ble_eq_true rfl), (Nat.le_of_ble_eq_true rfl)⟩ rfl rfl (Nat.le_of_ble_eq_true rfl) dX8_both_15 (fun r_26 H locs h hP hS => ?_)
      refine lv_if_ne (tgt := 23) hx hb dX8_both_18 (by decide) (fun c_27 => ?_) (fun c_27 => ?_)
      · have h := h.1 c_27
        refine lv_iload hx hb dX8_both_23 (lv_at hl 4 rfl) ?_
        refine lv_iconst (v := (0 : Int32)) hx hb dX8_both_25 (by decide) ?_
        refine lv_iconst (v := (2 : Int32)) hx hb dX8_both_26 (by decide) ?_
        refine zc_S0 (As := [.int x4, .int (0 : Int32), .int (2 : Int32)]) (rest := []) hx hb hml hown hts hK hPW hA hl.1 hP hS ⟨Nat.zero_le _, Nat.zero_le _⟩ (c_X8_in l D cy (sz := _) (x0 := x4) (x1 := (0 : Int32)) (x2 := (2 : Int32)) (h := h)) k_X8_91 ⟨rfl, rfl, (Nat.le_of_ble_eq_true rfl), (Nat.le_of_ble_eq_true rfl)⟩ rfl rfl (Nat.le_of_ble_eq_true rfl) dX8_both_27 (fun r_28 H locs h hP hS => ?_)
        refine lv_if_ne (tgt := 36) hx hb dX8_both_30 (by decide) (fun c_29 => ?_) (fun c_29 => ?_)
        · have h := h.1 c_29
          refine lv_aload_n hx hb dX8_both_36 rfl (lv_at hl 0 rfl) ?_
          refine va_get (D := D) (ci := 7) (v := .ref (ad 1)) (C := RX8) (T := TX8) (N := 35) hx hb hts iX8 hown hK hP 0 rfl rfl 0 (Nat.le_of_ble_eq_true rfl) (hts _ fl_X8_7) (fun _ h9 => h9) rfl dX8_both_37 ?_
          refine lv_iconst (v := (0 : Int32)) hx hb dX8_both_40 (by decide) ?_
          refine lv_iload_n hx hb dX8_both_41 rfl (lv_at hl 2 rfl) ?_
          refine lv_iadd hx hb dX8_both_42 ?_
          obtain ⟨hi_30, h⟩ := h
          refine va_iald hx hb hK hP 1 0 rfl rfl hi_30 dX8_both_43 ?_
          refine lv_topi (fun x5_31 e_x5_31 => ?_)
          have h := h x5_31 e_x5_31
          refine lv_istore (lv' := [(5, .int x5_31), (0, .ref (ad 0)), (1, .int x1), (2, .int x2), (3, .int x3), (4, .int x4)]) hx hb dX8_both_44 hl (by decide) rfl (fun ls hl => ?_)
          refine lv_aload_n hx hb dX8_both_46 rfl (lv_at hl 1 rfl) ?_
          refine va_get (D := D) (ci := 7) (v := .ref (ad 1)) (C := RX8) (T := TX8) (N := 35) hx hb hts iX8 hown hK hP 0 rfl rfl 0 (Nat.le_of_ble_eq_true rfl) (hts _ fl_X8_7) (fun _ h9 => h9) rfl dX8_both_47 ?_
          refine lv_iconst (v := (0 : Int32)) hx hb dX8_both_50 (by decide) ?_
          refine lv_iload_n hx hb dX8_both_51 rfl (lv_at hl 4 rfl) ?_
          refine lv_iadd hx hb dX8_both_52 ?_
          obtain ⟨hi_32, h⟩ := h
          refine va_iald hx hb hK hP 1 0 rfl rfl hi_32 dX8_both_53 ?_
          refine lv_topi (fun x6_33 e_x6_33 => ?_)
          have h := h x6_33 e_x6_33
          refine lv_istore (lv' := [(6, .int x6_33), (5, .int x5_31), (0, .ref (ad 0)), (1, .int x1), (2, .int x2), (3, .int x3), (4, .int x4)]) hx hb dX8_both_54 hl (by decide) rfl (fun ls hl => ?_)
          refine lv_iload hx hb dX8_both_56 (lv_at hl 6 rfl) ?_
          refine lv_if_ne (tgt := 71) hx hb dX8_both_58 (by decide) (fun c_34 => ?_) (fun c_34 => ?_)
          · have h := h.1 c_34
            refine lv_iload hx hb dX8_both_71 (lv_at hl 6 rfl) ?_
            refine lv_iconst (v := (1 : Int32)) hx hb dX8_both_73 (by decide) ?_
            refine lv_icmp_ne (tgt := 87) hx hb dX8_both_74 (by decide) (fun c_35 => ?_) (fun c_35 => ?_)
            · have h := h.1 c_35
              refine lv_iload hx hb dX8_both_87 (lv_at hl 1 rfl) ?_
              refine lv_iload hx hb dX8_both_89 (lv_at hl 0 rfl) ?_
              refine zc_S0 (As := [.int x5_31, .int x6_33]) (rest := []) hx hb hml hown hts hK hPW hA hl.1 hP hS ⟨Nat.zero_le _, Nat.zero_le _⟩ (c_X8_joined l D cy (sz := _) (x0 := x5_31) (x1 := x6_33) (h := h)) k_X8_134 ⟨rfl, rfl, (Nat.le_of_ble_eq_true rfl), (Nat.le_of_ble_eq_true rfl)⟩ rfl rfl (Nat.le_of_ble_eq_true rfl) dX8_both_91 (fun r_36 H locs h hP hS => ?_)
              exact hJ94 x1 r_36 m_state   h _ _ _ hP hD hS (lv_sub hl [2, 3] rfl)
            · have h := h.2 c_35
              refine lv_iload hx hb dX8_both_77 (lv_at hl 1 rfl) ?_
              refine lv_iload hx hb dX8_both_79 (lv_at hl 0 rfl) ?_
              refine zc_S0 (As := [.int x5_31, .int x6_33]) (rest := []) hx hb hml hown hts hK hPW hA hl.1 hP hS ⟨Nat.zero_le _, Nat.zero_le _⟩ (c_X8_meet l D cy (sz := _) (x0 := x5_31) (x1 := x6_33) (h := h)) k_X8_131 ⟨rfl, rfl, (Nat.le_of_ble_eq_true rfl), (Nat.le_of_ble_eq_true rfl)⟩ rfl rfl (Nat.le_of_ble_eq_true rfl) dX8_both_81 (fun r_37 H locs h hP hS => ?_)
              refine lv_goto (tgt := 94) hx hb dX8_both_84 (by decide) ?_
              exact hJ94 x1 r_37 m_state   h _ _ _ hP hD hS (lv_sub hl [2, 3] rfl)
          · have h := h.2 c_34
            refine lv_iload hx hb dX8_both_61 (lv_at hl 1 rfl) ?_
            refine lv_iload hx hb dX8_both_63 (lv_at hl 0 rfl) ?_
            refine zc_S0 (As := [.int x5_31, .int x6_33]) (rest := []) hx hb hml hown hts hK hPW hA hl.1 hP hS ⟨Nat.zero_le _, Nat.zero_le _⟩ (c_X8_then l D cy (sz := _) (x0 := x5_31) (x1 := x6_33) (h := h)) k_X8_122 ⟨rfl, rfl, (Nat.le_of_ble_eq_true rfl), (Nat.le_of_ble_eq_true rfl)⟩ rfl rfl (Nat.le_of_ble_eq_true rfl) dX8_both_65 (fun r_38 H locs h hP hS => ?_)
            refine lv_goto (tgt := 94) hx hb dX8_both_68 (by decide) ?_
            exact hJ94 x1 r_38 m_state   h _ _ _ hP hD hS (lv_sub hl [2, 3] rfl)
        · have h := h.2 c_29
          refine lv_bipush (v := (-2 : Int32)) hx hb dX8_both_33 (by decide) ?_
          exact z_iret m_state hx hb hr hlocks h hP hD hS dX8_both_35
      · have h := h.2 c_27
        refine lv_iconst (v := (-1 : Int32)) hx hb dX8_both_21 (by decide) ?_
        exact z_iret m_state hx hb hr hlocks h hP hD hS dX8_both_22
set_option maxHeartbeats 4000000 in
set_option maxRecDepth 100000 in
theorem c_X8_turn (l : Launch) (D : va_G) (cy : Nat → ClassId) (ad : Nat → Nat) (sz : Nat) (m_said : Int32) (m_waved : Int32) (m_places : Int32) (m_end : Int32) (m_joints : Int32) (m_netPlaces : Int32) (m_begin : Int32) (m_finish : Int32) (m_rounds : Int32) (m_sews : Int32) (m_state : Nat → Int32) (x1 : Int32) (x2 : Int32) (x3 : Int32) {Q : Int32 → (Nat → Int32) → Prop} (h : wp_X8_turn x1 x2 x3 m_state Q) : Met l yX8_turn (wsU yX8_turn cX8_turn 5 (some .int)) { frames := 4, cells := 0, slots := 0, locals := 87 } (va_Pc [.ref (ad 0), .int x1, .int x2, .int x3] (zB D vwCl (tyU cy) [((ad 0), oX8 ad m_said m_waved m_places m_end m_joints m_netPlaces m_begin m_finish m_rounds m_sews), ((ad 1), aI cy 112 m_state)] sz)) ((fun A => va_Qi (fun (r : Int32) (u : (Nat → Int32)) => Q r u) (zE D vwCl A (fun (u : (Nat → Int32)) => [((ad 0), oX8 ad m_said m_waved m_places m_end m_joints m_netPlaces m_begin m_finish m_rounds m_sews), ((ad 1), aI cy 112 u)])) A) (va_A [((ad 0), oX8 ad m_said m_waved m_places m_end m_joints m_netPlaces m_begin m_finish m_rounds m_sews), ((ad 1), aI cy 112 m_state)] sz)) 0 0 (va_A [((ad 0), oX8 ad m_said m_waved m_places m_end m_joints m_netPlaces m_begin m_finish m_rounds m_sews), ((ad 1), aI cy 112 m_state)] sz) := by
  refine z_ofX (fun A => va_Qi (fun (r : Int32) (u : (Nat → Int32)) => Q r u) (zE D vwCl A (fun (u : (Nat → Int32)) => [((ad 0), oX8 ad m_said m_waved m_places m_end m_joints m_netPlaces m_begin m_finish m_rounds m_sews), ((ad 1), aI cy 112 u)])) A) (by decide) (Nat.le_of_ble_eq_true rfl) (fun p e s m below meth c A ls hx hb hr hml hown hts hlocks hK hPW hA hP hD hS hl => ?_)
  have hl : lv_has ls 5 [(0, .ref (ad 0)), (1, .int x1), (2, .int x2), (3, .int x3)] := hl
  have hown : s.vm.findClass RX8 = some m.cls := hown
  generalize hArg : ([.ref (ad 0), .int x1, .int x2, .int x3] : List Value).toArray = args at hts ⊢
  have hJ70 : ∀ (t1 : Int32) (t2 : Int32) (m_state : Nat → Int32), wp_X8_turn_70 t1 t2 m_state  Q → ∀ (H : Heap) (locs : List Loc) (ls : Array Slot), va_P D vwCl [((ad 0), oX8 ad m_said m_waved m_places m_end m_joints m_netPlaces m_begin m_finish m_rounds m_sews), ((ad 1), aI cy 112 m_state)] H → va_D A [((ad 0), oX8 ad m_said m_waved m_places m_end m_joints m_netPlaces m_begin m_finish m_rounds m_sews), ((ad 1), aI cy 112 m_state)] → va_S A s.heap H locs → lv_has ls 5 [] → W p l e { frames := 4, cells := 0, slots := 0, locals := 87 } s m args below meth c H locs 0 0 (MQ below ((fun A => va_Qi (fun (r : Int32) (u : (Nat → Int32)) => Q r u) (zE D vwCl A (fun (u : (Nat → Int32)) => [((ad 0), oX8 ad m_said m_waved m_places m_end m_joints m_netPlaces m_begin m_finish m_rounds m_sews), ((ad 1), aI cy 112 u)])) A) A) args s 0 0 A) (F0 m 70 ls [.int t2, .int t1, .ref (ad 0)]) := by
    intro t1 t2 m_state   h H locs ls hP hD hS hl
    unfold wp_X8_turn_70 at h
    refine zc_Vi (As := [.int t1, .int t2]) (rest := []) (wc := [((ad 0), oX8 ad m_said m_waved m_places m_end m_joints m_netPlaces m_begin m_finish m_rounds m_sews), ((ad 1), aI cy 112 m_state)]) (wr := []) hx hb hml hown hts hK hPW hA hl.1 hP hD hS ⟨Nat.zero_le _, Nat.zero_le _⟩ [0, 1] [] rfl rfl (by decide) (c_X8_hold l D cy (sz := _) (x1 := t1) (x2 := t2) (ad := ad) (m_said := m_said) (m_waved := m_waved) (m_places := m_places) (m_end := m_end) (m_joints := m_joints) (m_netPlaces := m_netPlaces) (m_begin := m_begin) (m_finish := m_finish) (m_rounds := m_rounds) (m_sews := m_sews) (m_state := m_state) (h := h)) k_X8_137 ⟨rfl, rfl, (Nat.le_of_ble_eq_true rfl), (Nat.le_of_ble_eq_true rfl)⟩ rfl rfl rfl rfl (Nat.le_of_ble_eq_true rfl) dX8_turn_70 (fun r_15 m_state_15 H locs h hP hD hS => ?_)
    have hP : va_P D vwCl [((ad 0), oX8 ad m_said m_waved m_places m_end m_joints m_netPlaces m_begin m_finish m_rounds m_sews), ((ad 1), aI cy 112 m_state_15)] H := hP
    have hD : va_D A [((ad 0), oX8 ad m_said m_waved m_places m_end m_joints m_netPlaces m_begin m_finish m_rounds m_sews), ((ad 1), aI cy 112 m_state_15)] := hD
    exact z_iret m_state_15 hx hb hr hlocks h hP hD hS dX8_turn_73
  unfold wp_X8_turn at h
  refine lv_iload_n hx hb dX8_turn_0 rfl (lv_at hl 1 rfl) ?_
  refine zc_S0 (As := [.int x1]) (rest := []) hx hb hml hown hts hK hPW hA hl.1 hP hS ⟨Nat.zero_le _, Nat.zero_le _⟩ (c_X8_isSlot l D cy (sz := _) (x0 := x1) (h := h)) k_X8_116 ⟨rfl, rfl, (Nat.le_of_ble_eq_true rfl), (Nat.le_of_ble_eq_true rfl)⟩ rfl rfl (Nat.le_of_ble_eq_true rfl) dX8_turn_1 (fun r_16 H locs h hP hS => ?_)
  refine lv_if_eq (tgt := 14) hx hb dX8_turn_4 (by decide) (fun c_17 => ?_) (fun c_17 => ?_)
  · have h := h.1 c_17
    refine lv_iconst (v := (-1 : Int32)) hx hb dX8_turn_14 (by decide) ?_
    exact z_iret m_state hx hb hr hlocks h hP hD hS dX8_turn_15
  · have h := h.2 c_17
    refine lv_iload_n hx hb dX8_turn_7 rfl (lv_at hl 2 rfl) ?_
    refine zc_S0 (As := [.int x2]) (rest := []) hx hb hml hown hts hK hPW hA hl.1 hP hS ⟨Nat.zero_le _, Nat.zero_le _⟩ (c_X8_isSlot l D cy (sz := _) (x0 := x2) (h := h)) k_X8_116 ⟨rfl, rfl, (Nat.le_of_ble_eq_true rfl), (Nat.le_of_ble_eq_true rfl)⟩ rfl rfl (Nat.le_of_ble_eq_true rfl) dX8_turn_8 (fun r_18 H locs h hP hS => ?_)
    refine lv_if_ne (tgt := 16) hx hb dX8_turn_11 (by decide) (fun c_19 => ?_) (fun c_19 => ?_)
    · have h := h.1 c_19
      refine lv_iload_n hx hb dX8_turn_16 rfl (lv_at hl 3 rfl) ?_
      refine lv_iconst (v := (0 : Int32)) hx hb dX8_turn_17 (by decide) ?_
      refine lv_iconst (v := (2 : Int32)) hx hb dX8_turn_18 (by decide) ?_
      refine zc_S0 (As := [.int x3, .int (0 : Int32), .int (2 : Int32)]) (rest := []) hx hb hml hown hts hK hPW hA hl.1 hP hS ⟨Nat.zero_le _, Nat.zero_le _⟩ (c_X8_in l D cy (sz := _) (x0 := x3) (x1 := (0 : Int32)) (x2 := (2 : Int32)) (h := h)) k_X8_91 ⟨rfl, rfl, (Nat.le_of_ble_eq_true rfl), (Nat.le_of_ble_eq_true rfl)⟩ rfl rfl (Nat.le_of_ble_eq_true rfl) dX8_turn_19 (fun r_20 H locs h hP hS => ?_)
      refine lv_if_ne (tgt := 28) hx hb dX8_turn_22 (by decide) (fun c_21 => ?_) (fun c_21 => ?_)
      · have h := h.1 c_21
        refine lv_aload_n hx hb dX8_turn_28 rfl (lv_at hl 0 rfl) ?_
        refine va_get (D := D) (ci := 7) (v := .ref (ad 1)) (C := RX8) (T := TX8) (N := 35) hx hb hts iX8 hown hK hP 0 rfl rfl 0 (Nat.le_of_ble_eq_true rfl) (hts _ fl_X8_7) (fun _ h9 => h9) rfl dX8_turn_29 ?_
        refine lv_iconst (v := (0 : Int32)) hx hb dX8_turn_32 (by decide) ?_
        refine lv_iload_n hx hb dX8_turn_33 rfl (lv_at hl 2 rfl) ?_
        refine lv_iadd hx hb dX8_turn_34 ?_
        obtain ⟨hi_22, h⟩ := h
        refine va_iald hx hb hK hP 1 0 rfl rfl hi_22 dX8_turn_35 ?_
        refine lv_topi (fun x4_23 e_x4_23 => ?_)
        have h := h x4_23 e_x4_23
        refine lv_istore (lv' := [(4, .int x4_23), (0, .ref (ad 0)), (1, .int x1), (2, .int x2), (3, .int x3)]) hx hb dX8_turn_36 hl (by decide) rfl (fun ls hl => ?_)
        refine lv_aload_n hx hb dX8_turn_38 rfl (lv_at hl 1 rfl) ?_
        refine lv_iload_n hx hb dX8_turn_39 rfl (lv_at hl 2 rfl) ?_
        refine lv_iload_n hx hb dX8_turn_40 rfl (lv_at hl 4 rfl) ?_
        refine lv_if_ne (tgt := 52) hx hb dX8_turn_41 (by decide) (fun c_24 => ?_) (fun c_24 => ?_)
        · have h := h.1 c_24
          refine lv_iload_n hx hb dX8_turn_52 rfl (lv_at hl 4 rfl) ?_
          refine lv_iconst (v := (1 : Int32)) hx hb dX8_turn_53 (by decide) ?_
          refine lv_icmp_ne (tgt := 65) hx hb dX8_turn_54 (by decide) (fun c_25 => ?_) (fun c_25 => ?_)
          · have h := h.1 c_25
            refine lv_iload hx hb dX8_turn_65 (lv_at hl 0 rfl) ?_
            refine zc_S0 (As := [.int x4_23]) (rest := [.int x1, .ref (ad 0)]) hx hb hml hown hts hK hPW hA hl.1 hP hS ⟨Nat.zero_le _, Nat.zero_le _⟩ (c_X8_ran l D cy (sz := _) (x0 := x4_23) (h := h)) k_X8_140 ⟨rfl, rfl, (Nat.le_of_ble_eq_true rfl), (Nat.le_of_ble_eq_true rfl)⟩ rfl rfl (Nat.le_of_ble_eq_true rfl) dX8_turn_67 (fun r_26 H locs h hP hS => ?_)
            exact hJ70 x1 r_26 m_state   h _ _ _ hP hD hS (lv_sub hl [] rfl)
          · have h := h.2 c_25
            refine lv_iload hx hb dX8_turn_57 (lv_at hl 0 rfl) ?_
            refine zc_S0 (As := [.int x4_23]) (rest := [.int x1, .ref (ad 0)]) hx hb hml hown hts hK hPW hA hl.1 hP hS ⟨Nat.zero_le _, Nat.zero_le _⟩ (c_X8_dom l D cy (sz := _) (x0 := x4_23) (h := h)) k_X8_109 ⟨rfl, rfl, (Nat.le_of_ble_eq_true rfl), (Nat.le_of_ble_eq_true rfl)⟩ rfl rfl (Nat.le_of_ble_eq_true rfl) dX8_turn_59 (fun r_27 H locs h hP hS => ?_)
            refine lv_goto (tgt := 70) hx hb dX8_turn_62 (by decide) ?_
            exact hJ70 x1 r_27 m_state   h _ _ _ hP hD hS (lv_sub hl [] rfl)
        · have h := h.2 c_24
          refine lv_iload hx hb dX8_turn_44 (lv_at hl 0 rfl) ?_
          refine zc_S0 (As := [.int x4_23]) (rest := [.int x1, .ref (ad 0)]) hx hb hml hown hts hK hPW hA hl.1 hP hS ⟨Nat.zero_le _, Nat.zero_le _⟩ (c_X8_inverse l D cy (sz := _) (x0 := x4_23) (h := h)) k_X8_106 ⟨rfl, rfl, (Nat.le_of_ble_eq_true rfl), (Nat.le_of_ble_eq_true rfl)⟩ rfl rfl (Nat.le_of_ble_eq_true rfl) dX8_turn_46 (fun r_28 H locs h hP hS => ?_)
          refine lv_goto (tgt := 70) hx hb dX8_turn_49 (by decide) ?_
          exact hJ70 x1 r_28 m_state   h _ _ _ hP hD hS (lv_sub hl [] rfl)
      · have h := h.2 c_21
        refine lv_bipush (v := (-2 : Int32)) hx hb dX8_turn_25 (by decide) ?_
        exact z_iret m_state hx hb hr hlocks h hP hD hS dX8_turn_27
    · have h := h.2 c_19
      refine lv_iconst (v := (-1 : Int32)) hx hb dX8_turn_14 (by decide) ?_
      exact z_iret m_state hx hb hr hlocks h hP hD hS dX8_turn_15
set_option maxHeartbeats 4000000 in
set_option maxRecDepth 100000 in
theorem c_X8_below (l : Launch) (D : va_G) (cy : Nat → ClassId) (ad : Nat → Nat) (sz : Nat) (m_said : Int32) (m_waved : Int32) (m_places : Int32) (m_end : Int32) (m_joints : Int32) (m_netPlaces : Int32) (m_begin : Int32) (m_finish : Int32) (m_rounds : Int32) (m_sews : Int32) (m_state : Nat → Int32) (x1 : Int32) (x2 : Int32) {Q : Int32 → Prop} (h : wp_X8_below x1 x2 m_state Q) : Met l yX8_below (wsU yX8_below cX8_below 3 (some .int)) { frames := 3, cells := 0, slots := 0, locals := 66 } (va_Pc [.ref (ad 0), .int x1, .int x2] (zB D vwCl (tyU cy) [((ad 0), oX8 ad m_said m_waved m_places m_end m_joints m_netPlaces m_begin m_finish m_rounds m_sews), ((ad 1), aI cy 112 m_state)] sz)) ((fun A => va_Qi (fun (r : Int32) (_ : Unit) => Q r ) (zE D vwCl A (fun (_ : Unit) => [((ad 0), oX8 ad m_said m_waved m_places m_end m_joints m_netPlaces m_begin m_finish m_rounds m_sews), ((ad 1), aI cy 112 m_state)])) A) (va_A [((ad 0), oX8 ad m_said m_waved m_places m_end m_joints m_netPlaces m_begin m_finish m_rounds m_sews), ((ad 1), aI cy 112 m_state)] sz)) 0 0 (va_A [((ad 0), oX8 ad m_said m_waved m_places m_end m_joints m_netPlaces m_begin m_finish m_rounds m_sews), ((ad 1), aI cy 112 m_state)] sz) := by
  refine z_ofX (fun A => va_Qi (fun (r : Int32) (_ : Unit) => Q r ) (zE D vwCl A (fun (_ : Unit) => [((ad 0), oX8 ad m_said m_waved m_places m_end m_joints m_netPlaces m_begin m_finish m_rounds m_sews), ((ad 1), aI cy 112 m_state)])) A) (by decide) (Nat.le_of_ble_eq_true rfl) (fun p e s m below meth c A ls hx hb hr hml hown hts hlocks hK hPW hA hP hD hS hl => ?_)
  have hl : lv_has ls 3 [(0, .ref (ad 0)), (1, .int x1), (2, .int x2)] := hl
  have hown : s.vm.findClass RX8 = some m.cls := hown
  unfold wp_X8_below at h
  refine lv_iload_n hx hb dX8_below_0 rfl (lv_at hl 1 rfl) ?_
  refine zc_S0 (As := [.int x1]) (rest := []) hx hb hml hown hts hK hPW hA hl.1 hP hS ⟨Nat.zero_le _, Nat.zero_le _⟩ (c_X8_isSlot l D cy (sz := _) (x0 := x1) (h := h)) k_X8_116 ⟨rfl, rfl, (Nat.le_of_ble_eq_true rfl), (Nat.le_of_ble_eq_true rfl)⟩ rfl rfl (Nat.le_of_ble_eq_true rfl) dX8_below_1 (fun r_9 H locs h hP hS => ?_)
  refine lv_if_eq (tgt := 14) hx hb dX8_below_4 (by decide) (fun c_10 => ?_) (fun c_10 => ?_)
  · have h := h.1 c_10
    refine lv_iconst (v := (-1 : Int32)) hx hb dX8_below_14 (by decide) ?_
    exact z_iret () hx hb hr hlocks h hP hD hS dX8_below_15
  · have h := h.2 c_10
    refine lv_iload_n hx hb dX8_below_7 rfl (lv_at hl 2 rfl) ?_
    refine zc_S0 (As := [.int x2]) (rest := []) hx hb hml hown hts hK hPW hA hl.1 hP hS ⟨Nat.zero_le _, Nat.zero_le _⟩ (c_X8_isSlot l D cy (sz := _) (x0 := x2) (h := h)) k_X8_116 ⟨rfl, rfl, (Nat.le_of_ble_eq_true rfl), (Nat.le_of_ble_eq_true rfl)⟩ rfl rfl (Nat.le_of_ble_eq_true rfl) dX8_below_8 (fun r_11 H locs h hP hS => ?_)
    refine lv_if_ne (tgt := 16) hx hb dX8_below_11 (by decide) (fun c_12 => ?_) (fun c_12 => ?_)
    · have h := h.1 c_12
      refine lv_aload_n hx hb dX8_below_16 rfl (lv_at hl 0 rfl) ?_
      refine va_get (D := D) (ci := 7) (v := .ref (ad 1)) (C := RX8) (T := TX8) (N := 35) hx hb hts iX8 hown hK hP 0 rfl rfl 0 (Nat.le_of_ble_eq_true rfl) (hts _ fl_X8_7) (fun _ h9 => h9) rfl dX8_below_17 ?_
      refine lv_iconst (v := (0 : Int32)) hx hb dX8_below_20 (by decide) ?_
      refine lv_iload_n hx hb dX8_below_21 rfl (lv_at hl 1 rfl) ?_
      refine lv_iadd hx hb dX8_below_22 ?_
      obtain ⟨hi_13, h⟩ := h
      refine va_iald hx hb hK hP 1 0 rfl rfl hi_13 dX8_below_23 ?_
      refine lv_aload_n hx hb dX8_below_24 rfl (lv_at hl 0 rfl) ?_
      refine va_get (D := D) (ci := 7) (v := .ref (ad 1)) (C := RX8) (T := TX8) (N := 35) hx hb hts iX8 hown hK hP 0 rfl rfl 0 (Nat.le_of_ble_eq_true rfl) (hts _ fl_X8_7) (fun _ h9 => h9) rfl dX8_below_25 ?_
      refine lv_iconst (v := (0 : Int32)) hx hb dX8_below_28 (by decide) ?_
      refine lv_iload_n hx hb dX8_below_29 rfl (lv_at hl 2 rfl) ?_
      refine lv_iadd hx hb dX8_below_30 ?_
      obtain ⟨hi_14, h⟩ := h
      refine va_iald hx hb hK hP 1 0 rfl rfl hi_14 dX8_below_31 ?_
      refine zc_S0 (As := [.int (m_state ((0 : Int32) + x1).toNatClampNeg), .int (m_state ((0 : Int32) + x2).toNatClampNeg)]) (rest := []) hx hb hml hown hts hK hPW hA hl.1 hP hS ⟨Nat.zero_le _, Nat.zero_le _⟩ (c_X8_isBelow l D cy (sz := _) (x0 := (m_state ((0 : Int32) + x1).toNatClampNeg)) (x1 := (m_state ((0 : Int32) + x2).toNatClampNeg)) (h := h)) k_X8_143 ⟨rfl, rfl, (Nat.le_of_ble_eq_true rfl), (Nat.le_of_ble_eq_true rfl)⟩ rfl rfl (Nat.le_of_ble_eq_true rfl) dX8_below_32 (fun r_15 H locs h hP hS => ?_)
      refine lv_if_eq (tgt := 42) hx hb dX8_below_35 (by decide) (fun c_16 => ?_) (fun c_16 => ?_)
      · have h := h.1 c_16
        refine lv_iconst (v := (0 : Int32)) hx hb dX8_below_42 (by decide) ?_
        exact z_iret () hx hb hr hlocks h hP hD hS dX8_below_43
      · have h := h.2 c_16
        refine lv_iconst (v := (1 : Int32)) hx hb dX8_below_38 (by decide) ?_
        refine lv_goto (tgt := 43) hx hb dX8_below_39 (by decide) ?_
        exact z_iret () hx hb hr hlocks h hP hD hS dX8_below_43
    · have h := h.2 c_12
      refine lv_iconst (v := (-1 : Int32)) hx hb dX8_below_14 (by decide) ?_
      exact z_iret () hx hb hr hlocks h hP hD hS dX8_below_15
set_option maxHeartbeats 4000000 in
set_option maxRecDepth 100000 in
theorem c_X8_say (l : Launch) (D : va_G) (cy : Nat → ClassId) (ad : Nat → Nat) (sz : Nat) (m_said : Int32) (m_waved : Int32) (m_places : Int32) (m_end : Int32) (m_joints : Int32) (m_netPlaces : Int32) (m_begin : Int32) (m_finish : Int32) (m_rounds : Int32) (m_sews : Int32) (m_pad : Nat → Int32) (x1 : Int32) {Q : Int32 → Int32 → (Nat → Int32) → Prop} (h : wp_X8_say x1 m_said m_pad Q) : Met l yX8_say (wsU yX8_say cX8_say 2 (some .int)) { frames := 1, cells := 0, slots := 0, locals := 22 } (va_Pc [.ref (ad 0), .int x1] (zB D vwCl (tyU cy) [((ad 0), oX8 ad m_said m_waved m_places m_end m_joints m_netPlaces m_begin m_finish m_rounds m_sews), ((ad 4), aI cy 12 m_pad)] sz)) ((fun A => va_Qi (fun (r : Int32) (u : Int32 × (Nat → Int32)) => ∃ (z0 : Int32) (z1 : Nat → Int32), u = (z0, z1) ∧ Q r z0 z1) (zE D vwCl A (fun (u : Int32 × (Nat → Int32)) => [((ad 0), oX8 ad (u.1) m_waved m_places m_end m_joints m_netPlaces m_begin m_finish m_rounds m_sews), ((ad 4), aI cy 12 (u.2))])) A) (va_A [((ad 0), oX8 ad m_said m_waved m_places m_end m_joints m_netPlaces m_begin m_finish m_rounds m_sews), ((ad 4), aI cy 12 m_pad)] sz)) 0 0 (va_A [((ad 0), oX8 ad m_said m_waved m_places m_end m_joints m_netPlaces m_begin m_finish m_rounds m_sews), ((ad 4), aI cy 12 m_pad)] sz) := by
  refine z_ofX (fun A => va_Qi (fun (r : Int32) (u : Int32 × (Nat → Int32)) => ∃ (z0 : Int32) (z1 : Nat → Int32), u = (z0, z1) ∧ Q r z0 z1) (zE D vwCl A (fun (u : Int32 × (Nat → Int32)) => [((ad 0), oX8 ad (u.1) m_waved m_places m_end m_joints m_netPlaces m_begin m_finish m_rounds m_sews), ((ad 4), aI cy 12 (u.2))])) A) (by decide) (Nat.le_of_ble_eq_true rfl) (fun p e s m below meth c A ls hx hb hr hml hown hts hlocks hK hPW hA hP hD hS hl => ?_)
  have hl : lv_has ls 2 [(0, .ref (ad 0)), (1, .int x1)] := hl
  have hown : s.vm.findClass RX8 = some m.cls := hown
  unfold wp_X8_say at h
  refine lv_iload_n hx hb dX8_say_0 rfl (lv_at hl 1 rfl) ?_
  refine lv_bipush (v := (33 : Int32)) hx hb dX8_say_1 (by decide) ?_
  refine lv_bipush (v := (126 : Int32)) hx hb dX8_say_3 (by decide) ?_
  refine zc_S0 (As := [.int x1, .int (33 : Int32), .int (126 : Int32)]) (rest := []) hx hb hml hown hts hK hPW hA hl.1 hP hS ⟨Nat.zero_le _, Nat.zero_le _⟩ (c_X8_in l D cy (sz := _) (x0 := x1) (x1 := (33 : Int32)) (x2 := (126 : Int32)) (h := h)) k_X8_91 ⟨rfl, rfl, (Nat.le_of_ble_eq_true rfl), (Nat.le_of_ble_eq_true rfl)⟩ rfl rfl (Nat.le_of_ble_eq_true rfl) dX8_say_5 (fun r_5 H locs h hP hS => ?_)
  refine lv_if_ne (tgt := 14) hx hb dX8_say_8 (by decide) (fun c_6 => ?_) (fun c_6 => ?_)
  · have h := h.1 c_6
    refine lv_aload_n hx hb dX8_say_14 rfl (lv_at hl 0 rfl) ?_
    refine va_get (D := D) (ci := 7) (v := .int m_said) (C := RX8) (T := TX8) (N := 35) hx hb hts iX8 hown hK hP 0 rfl rfl 4 (Nat.le_of_ble_eq_true rfl) (hts _ fl_X8_147) (fun _ h9 => h9) rfl dX8_say_15 ?_
    refine lv_bipush (v := (12 : Int32)) hx hb dX8_say_18 (by decide) ?_
    refine lv_icmp_ne (tgt := 26) hx hb dX8_say_20 (by decide) (fun c_7 => ?_) (fun c_7 => ?_)
    · have h := h.1 c_7
      refine lv_aload_n hx hb dX8_say_26 rfl (lv_at hl 0 rfl) ?_
      refine va_get (D := D) (ci := 7) (v := .ref (ad 4)) (C := RX8) (T := TX8) (N := 35) hx hb hts iX8 hown hK hP 0 rfl rfl 3 (Nat.le_of_ble_eq_true rfl) (hts _ fl_X8_20) (fun _ h9 => h9) rfl dX8_say_27 ?_
      refine lv_aload_n hx hb dX8_say_30 rfl (lv_at hl 0 rfl) ?_
      refine va_get (D := D) (ci := 7) (v := .int m_said) (C := RX8) (T := TX8) (N := 35) hx hb hts iX8 hown hK hP 0 rfl rfl 4 (Nat.le_of_ble_eq_true rfl) (hts _ fl_X8_147) (fun _ h9 => h9) rfl dX8_say_31 ?_
      refine lv_iload_n hx hb dX8_say_34 rfl (lv_at hl 1 rfl) ?_
      obtain ⟨hi_8, h⟩ := h
      refine va_iast hx hb hK hP hD hS 1 0 rfl rfl hi_8 dX8_say_35 (fun H locs hP hD hS => ?_)
      have hP : va_P D vwCl [((ad 0), oX8 ad m_said m_waved m_places m_end m_joints m_netPlaces m_begin m_finish m_rounds m_sews), ((ad 4), aI cy 12 (upd m_pad m_said.toNatClampNeg x1))] H := hP
      have hD : va_D A [((ad 0), oX8 ad m_said m_waved m_places m_end m_joints m_netPlaces m_begin m_finish m_rounds m_sews), ((ad 4), aI cy 12 (upd m_pad m_said.toNatClampNeg x1))] := hD
      refine lv_aload_n hx hb dX8_say_36 rfl (lv_at hl 0 rfl) ?_
      refine lv_dup hx hb dX8_say_37 rfl ?_
      refine va_get (D := D) (ci := 7) (v := .int m_said) (C := RX8) (T := TX8) (N := 35) hx hb hts iX8 hown hK hP 0 rfl rfl 4 (Nat.le_of_ble_eq_true rfl) (hts _ fl_X8_147) (fun _ h9 => h9) rfl dX8_say_38 ?_
      refine lv_iconst (v := (1 : Int32)) hx hb dX8_say_41 (by decide) ?_
      refine lv_iadd hx hb dX8_say_42 ?_
      refine va_put (D := D) (ci := 7) (v := .int (m_said + (1 : Int32))) (ty := .int) (C := RX8) (T := TX8) (N := 35) hx hb hts iX8 tyX8 tyX8_ok nmX8 hown hK hP hD hS 0 rfl rfl 4 (Nat.le_of_ble_eq_true rfl) (hts _ fl_X8_147) (fun _ h9 => h9) rfl (by decide +kernel) rfl rfl (Nat.le_of_ble_eq_true rfl) dX8_say_43 (fun H locs hP hD hS => ?_)
      have hP : va_P D vwCl [((ad 0), oX8 ad (m_said + (1 : Int32)) m_waved m_places m_end m_joints m_netPlaces m_begin m_finish m_rounds m_sews), ((ad 4), aI cy 12 (upd m_pad m_said.toNatClampNeg x1))] H := hP
      have hD : va_D A [((ad 0), oX8 ad (m_said + (1 : Int32)) m_waved m_places m_end m_joints m_netPlaces m_begin m_finish m_rounds m_sews), ((ad 4), aI cy 12 (upd m_pad m_said.toNatClampNeg x1))] := hD
      refine lv_aload_n hx hb dX8_say_46 rfl (lv_at hl 0 rfl) ?_
      refine va_get (D := D) (ci := 7) (v := .int (m_said + (1 : Int32))) (C := RX8) (T := TX8) (N := 35) hx hb hts iX8 hown hK hP 0 rfl rfl 4 (Nat.le_of_ble_eq_true rfl) (hts _ fl_X8_147) (fun _ h9 => h9) rfl dX8_say_47 ?_
      exact z_iret ((m_said + (1 : Int32)), (upd m_pad m_said.toNatClampNeg x1)) hx hb hr hlocks ⟨(m_said + (1 : Int32)), (upd m_pad m_said.toNatClampNeg x1), rfl, h⟩ hP hD hS dX8_say_50
    · have h := h.2 c_7
      refine lv_bipush (v := (-4 : Int32)) hx hb dX8_say_23 (by decide) ?_
      exact z_iret (m_said, m_pad) hx hb hr hlocks ⟨m_said, m_pad, rfl, h⟩ hP hD hS dX8_say_25
  · have h := h.2 c_6
    refine lv_bipush (v := (-2 : Int32)) hx hb dX8_say_11 (by decide) ?_
    exact z_iret (m_said, m_pad) hx hb hr hlocks ⟨m_said, m_pad, rfl, h⟩ hP hD hS dX8_say_13
set_option maxHeartbeats 4000000 in
set_option maxRecDepth 100000 in
theorem c_X8_wipe (l : Launch) (D : va_G) (cy : Nat → ClassId) (ad : Nat → Nat) (sz : Nat) (m_said : Int32) (m_waved : Int32) (m_places : Int32) (m_end : Int32) (m_joints : Int32) (m_netPlaces : Int32) (m_begin : Int32) (m_finish : Int32) (m_rounds : Int32) (m_sews : Int32) {Q : Int32 → Int32 → Prop} (h : wp_X8_wipe m_said Q) : Met l yX8_wipe (wsU yX8_wipe cX8_wipe 2 (some .int)) { frames := 0, cells := 0, slots := 0, locals := 0 } (va_Pc [.ref (ad 0)] (zB D vwCl (tyU cy) [((ad 0), oX8 ad m_said m_waved m_places m_end m_joints m_netPlaces m_begin m_finish m_rounds m_sews)] sz)) ((fun A => va_Qi (fun (r : Int32) (u : Int32) => Q r u) (zE D vwCl A (fun (u : Int32) => [((ad 0), oX8 ad u m_waved m_places m_end m_joints m_netPlaces m_begin m_finish m_rounds m_sews)])) A) (va_A [((ad 0), oX8 ad m_said m_waved m_places m_end m_joints m_netPlaces m_begin m_finish m_rounds m_sews)] sz)) 0 0 (va_A [((ad 0), oX8 ad m_said m_waved m_places m_end m_joints m_netPlaces m_begin m_finish m_rounds m_sews)] sz) := by
  refine z_ofX (fun A => va_Qi (fun (r : Int32) (u : Int32) => Q r u) (zE D vwCl A (fun (u : Int32) => [((ad 0), oX8 ad u m_waved m_places m_end m_joints m_netPlaces m_begin m_finish m_rounds m_sews)])) A) (by decide) (Nat.le_of_ble_eq_true rfl) (fun p e s m below meth c A ls hx hb hr hml hown hts hlocks hK hPW hA hP hD hS hl => ?_)
  have hl : lv_has ls 2 [(0, .ref (ad 0))] := hl
  have hown : s.vm.findClass RX8 = some m.cls := hown
  unfold wp_X8_wipe at h
  refine lv_aload_n hx hb dX8_wipe_0 rfl (lv_at hl 0 rfl) ?_
  refine va_get (D := D) (ci := 7) (v := .int m_said) (C := RX8) (T := TX8) (N := 35) hx hb hts iX8 hown hK hP 0 rfl rfl 4 (Nat.le_of_ble_eq_true rfl) (hts _ fl_X8_147) (fun _ h9 => h9) rfl dX8_wipe_1 ?_
  refine lv_istore_n (lv' := [(1, .int m_said), (0, .ref (ad 0))]) hx hb dX8_wipe_4 rfl hl (by decide) rfl (fun ls hl => ?_)
  refine lv_aload_n hx hb dX8_wipe_5 rfl (lv_at hl 1 rfl) ?_
  refine lv_iconst (v := (0 : Int32)) hx hb dX8_wipe_6 (by decide) ?_
  refine va_put (D := D) (ci := 7) (v := .int (0 : Int32)) (ty := .int) (C := RX8) (T := TX8) (N := 35) hx hb hts iX8 tyX8 tyX8_ok nmX8 hown hK hP hD hS 0 rfl rfl 4 (Nat.le_of_ble_eq_true rfl) (hts _ fl_X8_147) (fun _ h9 => h9) rfl (by decide +kernel) rfl rfl (Nat.le_of_ble_eq_true rfl) dX8_wipe_7 (fun H locs hP hD hS => ?_)
  have hP : va_P D vwCl [((ad 0), oX8 ad (0 : Int32) m_waved m_places m_end m_joints m_netPlaces m_begin m_finish m_rounds m_sews)] H := hP
  have hD : va_D A [((ad 0), oX8 ad (0 : Int32) m_waved m_places m_end m_joints m_netPlaces m_begin m_finish m_rounds m_sews)] := hD
  refine lv_iload_n hx hb dX8_wipe_10 rfl (lv_at hl 0 rfl) ?_
  exact z_iret (0 : Int32) hx hb hr hlocks h hP hD hS dX8_wipe_11
set_option maxHeartbeats 4000000 in
set_option maxRecDepth 100000 in
theorem c_X8_letterOf (l : Launch) (D : va_G) (cy : Nat → ClassId) (sz : Nat) (x0 : Int32) {Q : Int32 → Prop} (h : wp_X8_letterOf x0 Q) : Met l yX8_letterOf (wsU yX8_letterOf cX8_letterOf 1 (some .int)) { frames := 1, cells := 0, slots := 0, locals := 22 } (va_Pc [.int x0] (zB D vwCl (tyU cy) [] sz)) ((fun A => va_Qi (fun (r : Int32) (_ : Unit) => Q r ) (zE D vwCl A (fun (_ : Unit) => [])) A) (va_A [] sz)) 0 0 (va_A [] sz) := by
  refine z_ofX (fun A => va_Qi (fun (r : Int32) (_ : Unit) => Q r ) (zE D vwCl A (fun (_ : Unit) => [])) A) (by decide) (Nat.le_of_ble_eq_true rfl) (fun p e s m below meth c A ls hx hb hr hml hown hts hlocks hK hPW hA hP hD hS hl => ?_)
  have hl : lv_has ls 1 [(0, .int x0)] := hl
  have hown : s.vm.findClass RX8 = some m.cls := hown
  unfold wp_X8_letterOf at h
  refine lv_iload_n hx hb dX8_letterOf_0 rfl (lv_at hl 0 rfl) ?_
  refine lv_bipush (v := (120 : Int32)) hx hb dX8_letterOf_1 (by decide) ?_
  refine lv_bipush (v := (122 : Int32)) hx hb dX8_letterOf_3 (by decide) ?_
  refine zc_S0 (As := [.int x0, .int (120 : Int32), .int (122 : Int32)]) (rest := []) hx hb hml hown hts hK hPW hA hl.1 hP hS ⟨Nat.zero_le _, Nat.zero_le _⟩ (c_X8_in l D cy (sz := _) (x0 := x0) (x1 := (120 : Int32)) (x2 := (122 : Int32)) (h := h)) k_X8_91 ⟨rfl, rfl, (Nat.le_of_ble_eq_true rfl), (Nat.le_of_ble_eq_true rfl)⟩ rfl rfl (Nat.le_of_ble_eq_true rfl) dX8_letterOf_5 (fun r_5 H locs h hP hS => ?_)
  refine lv_if_eq (tgt := 20) hx hb dX8_letterOf_8 (by decide) (fun c_6 => ?_) (fun c_6 => ?_)
  · have h := h.1 c_6
    refine lv_iload_n hx hb dX8_letterOf_20 rfl (lv_at hl 0 rfl) ?_
    refine lv_bipush (v := (88 : Int32)) hx hb dX8_letterOf_21 (by decide) ?_
    refine lv_bipush (v := (90 : Int32)) hx hb dX8_letterOf_23 (by decide) ?_
    refine zc_S0 (As := [.int x0, .int (88 : Int32), .int (90 : Int32)]) (rest := []) hx hb hml hown hts hK hPW hA hl.1 hP hS ⟨Nat.zero_le _, Nat.zero_le _⟩ (c_X8_in l D cy (sz := _) (x0 := x0) (x1 := (88 : Int32)) (x2 := (90 : Int32)) (h := h)) k_X8_91 ⟨rfl, rfl, (Nat.le_of_ble_eq_true rfl), (Nat.le_of_ble_eq_true rfl)⟩ rfl rfl (Nat.le_of_ble_eq_true rfl) dX8_letterOf_25 (fun r_7 H locs h hP hS => ?_)
    refine lv_if_eq (tgt := 42) hx hb dX8_letterOf_28 (by decide) (fun c_8 => ?_) (fun c_8 => ?_)
    · have h := h.1 c_8
      refine lv_bipush (v := (-6 : Int32)) hx hb dX8_letterOf_42 (by decide) ?_
      exact z_iret () hx hb hr hlocks h hP hD hS dX8_letterOf_44
    · have h := h.2 c_8
      refine lv_iconst (v := (2 : Int32)) hx hb dX8_letterOf_31 (by decide) ?_
      refine lv_iload_n hx hb dX8_letterOf_32 rfl (lv_at hl 0 rfl) ?_
      refine lv_bipush (v := (88 : Int32)) hx hb dX8_letterOf_33 (by decide) ?_
      refine lv_isub hx hb dX8_letterOf_35 ?_
      refine lv_imul hx hb dX8_letterOf_36 ?_
      refine lv_iconst (v := (1 : Int32)) hx hb dX8_letterOf_37 (by decide) ?_
      refine lv_iadd hx hb dX8_letterOf_38 ?_
      refine lv_goto (tgt := 44) hx hb dX8_letterOf_39 (by decide) ?_
      exact z_iret () hx hb hr hlocks h hP hD hS dX8_letterOf_44
  · have h := h.2 c_6
    refine lv_iconst (v := (2 : Int32)) hx hb dX8_letterOf_11 (by decide) ?_
    refine lv_iload_n hx hb dX8_letterOf_12 rfl (lv_at hl 0 rfl) ?_
    refine lv_bipush (v := (120 : Int32)) hx hb dX8_letterOf_13 (by decide) ?_
    refine lv_isub hx hb dX8_letterOf_15 ?_
    refine lv_imul hx hb dX8_letterOf_16 ?_
    refine lv_goto (tgt := 44) hx hb dX8_letterOf_17 (by decide) ?_
    exact z_iret () hx hb hr hlocks h hP hD hS dX8_letterOf_44
set_option maxHeartbeats 4000000 in
set_option maxRecDepth 100000 in
theorem c_X8_word (l : Launch) (D : va_G) (cy : Nat → ClassId) (ad : Nat → Nat) (sz : Nat) (m_said : Int32) (m_waved : Int32) (m_places : Int32) (m_end : Int32) (m_joints : Int32) (m_netPlaces : Int32) (m_begin : Int32) (m_finish : Int32) (m_rounds : Int32) (m_sews : Int32) (m_state : Nat → Int32) (m_pad : Nat → Int32) (x1 : Int32) {Q : Int32 → Int32 → (Nat → Int32) → Prop} (h : wp_X8_word x1 m_said m_state m_pad Q) : Met l yX8_word (wsU yX8_word cX8_word 3 (some .int)) { frames := 2, cells := 0, slots := 0, locals := 42 } (va_Pc [.ref (ad 0), .int x1] (zB D vwCl (tyU cy) [((ad 0), oX8 ad m_said m_waved m_places m_end m_joints m_netPlaces m_begin m_finish m_rounds m_sews), ((ad 1), aI cy 112 m_state), ((ad 4), aI cy 12 m_pad)] sz)) ((fun A => va_Qi (fun (r : Int32) (u : Int32 × (Nat → Int32)) => ∃ (z0 : Int32) (z1 : Nat → Int32), u = (z0, z1) ∧ Q r z0 z1) (zE D vwCl A (fun (u : Int32 × (Nat → Int32)) => [((ad 0), oX8 ad (u.1) m_waved m_places m_end m_joints m_netPlaces m_begin m_finish m_rounds m_sews), ((ad 1), aI cy 112 (u.2)), ((ad 4), aI cy 12 m_pad)])) A) (va_A [((ad 0), oX8 ad m_said m_waved m_places m_end m_joints m_netPlaces m_begin m_finish m_rounds m_sews), ((ad 1), aI cy 112 m_state), ((ad 4), aI cy 12 m_pad)] sz)) 0 0 (va_A [((ad 0), oX8 ad m_said m_waved m_places m_end m_joints m_netPlaces m_begin m_finish m_rounds m_sews), ((ad 1), aI cy 112 m_state), ((ad 4), aI cy 12 m_pad)] sz) := by
  refine z_ofX (fun A => va_Qi (fun (r : Int32) (u : Int32 × (Nat → Int32)) => ∃ (z0 : Int32) (z1 : Nat → Int32), u = (z0, z1) ∧ Q r z0 z1) (zE D vwCl A (fun (u : Int32 × (Nat → Int32)) => [((ad 0), oX8 ad (u.1) m_waved m_places m_end m_joints m_netPlaces m_begin m_finish m_rounds m_sews), ((ad 1), aI cy 112 (u.2)), ((ad 4), aI cy 12 m_pad)])) A) (by decide) (Nat.le_of_ble_eq_true rfl) (fun p e s m below meth c A ls hx hb hr hml hown hts hlocks hK hPW hA hP hD hS hl => ?_)
  have hl : lv_has ls 3 [(0, .ref (ad 0)), (1, .int x1)] := hl
  have hown : s.vm.findClass RX8 = some m.cls := hown
  generalize hArg : ([.ref (ad 0), .int x1] : List Value).toArray = args at hts ⊢
  have hJ42 : ∀ (x1 : Int32) (x2 : Int32) (m_said : Int32) (m_state : Nat → Int32), wp_X8_word_42 m_pad x1 m_said  Q x2 m_state → ∀ (H : Heap) (locs : List Loc) (ls : Array Slot), va_P D vwCl [((ad 0), oX8 ad m_said m_waved m_places m_end m_joints m_netPlaces m_begin m_finish m_rounds m_sews), ((ad 1), aI cy 112 m_state), ((ad 4), aI cy 12 m_pad)] H → va_D A [((ad 0), oX8 ad m_said m_waved m_places m_end m_joints m_netPlaces m_begin m_finish m_rounds m_sews), ((ad 1), aI cy 112 m_state), ((ad 4), aI cy 12 m_pad)] → va_S A s.heap H locs → lv_has ls 3 [(0, .ref (ad 0)), (1, .int x1), (2, .int x2)] → W p l e { frames := 2, cells := 0, slots := 0, locals := 42 } s m args below meth c H locs 0 0 (MQ below ((fun A => va_Qi (fun (r : Int32) (u : Int32 × (Nat → Int32)) => ∃ (z0 : Int32) (z1 : Nat → Int32), u = (z0, z1) ∧ Q r z0 z1) (zE D vwCl A (fun (u : Int32 × (Nat → Int32)) => [((ad 0), oX8 ad (u.1) m_waved m_places m_end m_joints m_netPlaces m_begin m_finish m_rounds m_sews), ((ad 1), aI cy 112 (u.2)), ((ad 4), aI cy 12 m_pad)])) A) A) args s 0 0 A) (F0 m 42 ls []) := by
    intro x1 x2 m_said m_state   h
    obtain ⟨nn, h⟩ := h
    have key : ∀ (nn : Nat) (x2 : Int32) (m_state : Nat → Int32), lpW2 (wb_X8_word_42 m_pad x1 m_said  Q) nn x2 m_state → ∀ (H : Heap) (locs : List Loc) (ls : Array Slot), va_P D vwCl [((ad 0), oX8 ad m_said m_waved m_places m_end m_joints m_netPlaces m_begin m_finish m_rounds m_sews), ((ad 1), aI cy 112 m_state), ((ad 4), aI cy 12 m_pad)] H → va_D A [((ad 0), oX8 ad m_said m_waved m_places m_end m_joints m_netPlaces m_begin m_finish m_rounds m_sews), ((ad 1), aI cy 112 m_state), ((ad 4), aI cy 12 m_pad)] → va_S A s.heap H locs → lv_has ls 3 [(0, .ref (ad 0)), (1, .int x1), (2, .int x2)] → W p l e { frames := 2, cells := 0, slots := 0, locals := 42 } s m args below meth c H locs 0 0 (MQ below ((fun A => va_Qi (fun (r : Int32) (u : Int32 × (Nat → Int32)) => ∃ (z0 : Int32) (z1 : Nat → Int32), u = (z0, z1) ∧ Q r z0 z1) (zE D vwCl A (fun (u : Int32 × (Nat → Int32)) => [((ad 0), oX8 ad (u.1) m_waved m_places m_end m_joints m_netPlaces m_begin m_finish m_rounds m_sews), ((ad 1), aI cy 112 (u.2)), ((ad 4), aI cy 12 m_pad)])) A) A) args s 0 0 A) (F0 m 42 ls []) := by
      intro nn
      induction nn with
      | zero => intro x2 m_state h; exact h.elim
      | succ nn hrc42 =>
        intro x2 m_state h H locs ls hP hD hS hl
        have h : wb_X8_word_42 m_pad x1 m_said  Q (lpW2 (wb_X8_word_42 m_pad x1 m_said  Q) nn) x2 m_state := h
        unfold wb_X8_word_42 at h
        refine lv_iload_n hx hb dX8_word_42 rfl (lv_at hl 2 rfl) ?_
        refine lv_aload_n hx hb dX8_word_43 rfl (lv_at hl 0 rfl) ?_
        refine va_get (D := D) (ci := 7) (v := .int m_said) (C := RX8) (T := TX8) (N := 35) hx hb hts iX8 hown hK hP 0 rfl rfl 4 (Nat.le_of_ble_eq_true rfl) (hts _ fl_X8_147) (fun _ h9 => h9) rfl dX8_word_44 ?_
        refine lv_icmp_ge (tgt := 79) hx hb dX8_word_47 (by decide) (fun c_15 => ?_) (fun c_15 => ?_)
        · have h := h.1 c_15
          refine lv_aload_n hx hb dX8_word_79 rfl (lv_at hl 0 rfl) ?_
          refine va_get (D := D) (ci := 7) (v := .ref (ad 1)) (C := RX8) (T := TX8) (N := 35) hx hb hts iX8 hown hK hP 0 rfl rfl 0 (Nat.le_of_ble_eq_true rfl) (hts _ fl_X8_7) (fun _ h9 => h9) rfl dX8_word_80 ?_
          refine lv_bipush (v := (6 : Int32)) hx hb dX8_word_83 (by decide) ?_
          refine lv_iload_n hx hb dX8_word_85 rfl (lv_at hl 1 rfl) ?_
          refine lv_iadd hx hb dX8_word_86 ?_
          refine lv_aload_n hx hb dX8_word_87 rfl (lv_at hl 0 rfl) ?_
          refine va_get (D := D) (ci := 7) (v := .int m_said) (C := RX8) (T := TX8) (N := 35) hx hb hts iX8 hown hK hP 0 rfl rfl 4 (Nat.le_of_ble_eq_true rfl) (hts _ fl_X8_147) (fun _ h9 => h9) rfl dX8_word_88 ?_
          obtain ⟨hi_16, h⟩ := h
          refine va_iast hx hb hK hP hD hS 1 0 rfl rfl hi_16 dX8_word_91 (fun H locs hP hD hS => ?_)
          have hP : va_P D vwCl [((ad 0), oX8 ad m_said m_waved m_places m_end m_joints m_netPlaces m_begin m_finish m_rounds m_sews), ((ad 1), aI cy 112 (upd m_state ((6 : Int32) + x1).toNatClampNeg m_said)), ((ad 4), aI cy 12 m_pad)] H := hP
          have hD : va_D A [((ad 0), oX8 ad m_said m_waved m_places m_end m_joints m_netPlaces m_begin m_finish m_rounds m_sews), ((ad 1), aI cy 112 (upd m_state ((6 : Int32) + x1).toNatClampNeg m_said)), ((ad 4), aI cy 12 m_pad)] := hD
          refine lv_aload_n hx hb dX8_word_92 rfl (lv_at hl 0 rfl) ?_
          refine lv_iconst (v := (0 : Int32)) hx hb dX8_word_93 (by decide) ?_
          refine va_put (D := D) (ci := 7) (v := .int (0 : Int32)) (ty := .int) (C := RX8) (T := TX8) (N := 35) hx hb hts iX8 tyX8 tyX8_ok nmX8 hown hK hP hD hS 0 rfl rfl 4 (Nat.le_of_ble_eq_true rfl) (hts _ fl_X8_147) (fun _ h9 => h9) rfl (by decide +kernel) rfl rfl (Nat.le_of_ble_eq_true rfl) dX8_word_94 (fun H locs hP hD hS => ?_)
          have hP : va_P D vwCl [((ad 0), oX8 ad (0 : Int32) m_waved m_places m_end m_joints m_netPlaces m_begin m_finish m_rounds m_sews), ((ad 1), aI cy 112 (upd m_state ((6 : Int32) + x1).toNatClampNeg m_said)), ((ad 4), aI cy 12 m_pad)] H := hP
          have hD : va_D A [((ad 0), oX8 ad (0 : Int32) m_waved m_places m_end m_joints m_netPlaces m_begin m_finish m_rounds m_sews), ((ad 1), aI cy 112 (upd m_state ((6 : Int32) + x1).toNatClampNeg m_said)), ((ad 4), aI cy 12 m_pad)] := hD
          refine lv_aload_n hx hb dX8_word_97 rfl (lv_at hl 0 rfl) ?_
          refine va_get (D := D) (ci := 7) (v := .ref (ad 1)) (C := RX8) (T := TX8) (N := 35) hx hb hts iX8 hown hK hP 0 rfl rfl 0 (Nat.le_of_ble_eq_true rfl) (hts _ fl_X8_7) (fun _ h9 => h9) rfl dX8_word_98 ?_
          refine lv_bipush (v := (6 : Int32)) hx hb dX8_word_101 (by decide) ?_
          refine lv_iload_n hx hb dX8_word_103 rfl (lv_at hl 1 rfl) ?_
          refine lv_iadd hx hb dX8_word_104 ?_
          obtain ⟨hi_17, h⟩ := h
          refine va_iald hx hb hK hP 1 0 rfl rfl hi_17 dX8_word_105 ?_
          exact z_iret ((0 : Int32), (upd m_state ((6 : Int32) + x1).toNatClampNeg m_said)) hx hb hr hlocks ⟨(0 : Int32), (upd m_state ((6 : Int32) + x1).toNatClampNeg m_said), rfl, h⟩ hP hD hS dX8_word_106
        · have h := h.2 c_15
          refine lv_aload_n hx hb dX8_word_50 rfl (lv_at hl 0 rfl) ?_
          refine va_get (D := D) (ci := 7) (v := .ref (ad 1)) (C := RX8) (T := TX8) (N := 35) hx hb hts iX8 hown hK hP 0 rfl rfl 0 (Nat.le_of_ble_eq_true rfl) (hts _ fl_X8_7) (fun _ h9 => h9) rfl dX8_word_51 ?_
          refine lv_bipush (v := (10 : Int32)) hx hb dX8_word_54 (by decide) ?_
          refine lv_bipush (v := (12 : Int32)) hx hb dX8_word_56 (by decide) ?_
          refine lv_iload_n hx hb dX8_word_58 rfl (lv_at hl 1 rfl) ?_
          refine lv_imul hx hb dX8_word_59 ?_
          refine lv_iadd hx hb dX8_word_60 ?_
          refine lv_iload_n hx hb dX8_word_61 rfl (lv_at hl 2 rfl) ?_
          refine lv_iadd hx hb dX8_word_62 ?_
          refine lv_aload_n hx hb dX8_word_63 rfl (lv_at hl 0 rfl) ?_
          refine va_get (D := D) (ci := 7) (v := .ref (ad 4)) (C := RX8) (T := TX8) (N := 35) hx hb hts iX8 hown hK hP 0 rfl rfl 3 (Nat.le_of_ble_eq_true rfl) (hts _ fl_X8_20) (fun _ h9 => h9) rfl dX8_word_64 ?_
          refine lv_iload_n hx hb dX8_word_67 rfl (lv_at hl 2 rfl) ?_
          obtain ⟨hi_18, h⟩ := h
          refine va_iald hx hb hK hP 2 0 rfl rfl hi_18 dX8_word_68 ?_
          refine zc_S0 (As := [.int (m_pad x2.toNatClampNeg)]) (rest := [.int (((10 : Int32) + ((12 : Int32) * x1)) + x2), .ref (ad 1)]) hx hb hml hown hts hK hPW hA hl.1 hP hS ⟨Nat.zero_le _, Nat.zero_le _⟩ (c_X8_letterOf l D cy (sz := _) (x0 := (m_pad x2.toNatClampNeg)) (h := h)) k_X8_154 ⟨rfl, rfl, (Nat.le_of_ble_eq_true rfl), (Nat.le_of_ble_eq_true rfl)⟩ rfl rfl (Nat.le_of_ble_eq_true rfl) dX8_word_69 (fun r_19 H locs h hP hS => ?_)
          obtain ⟨hi_20, h⟩ := h
          refine va_iast hx hb hK hP hD hS 1 0 rfl rfl hi_20 dX8_word_72 (fun H locs hP hD hS => ?_)
          have hP : va_P D vwCl [((ad 0), oX8 ad m_said m_waved m_places m_end m_joints m_netPlaces m_begin m_finish m_rounds m_sews), ((ad 1), aI cy 112 (upd m_state (((10 : Int32) + ((12 : Int32) * x1)) + x2).toNatClampNeg r_19)), ((ad 4), aI cy 12 m_pad)] H := hP
          have hD : va_D A [((ad 0), oX8 ad m_said m_waved m_places m_end m_joints m_netPlaces m_begin m_finish m_rounds m_sews), ((ad 1), aI cy 112 (upd m_state (((10 : Int32) + ((12 : Int32) * x1)) + x2).toNatClampNeg r_19)), ((ad 4), aI cy 12 m_pad)] := hD
          obtain ⟨x2_21, e_x2_21⟩ : ∃ y : Int32, y = x2 + (1 : Int32) := ⟨_, rfl⟩
          refine lv_iinc (v := x2_21) (lv' := [(2, .int x2_21), (0, .ref (ad 0)), (1, .int x1)]) hx hb dX8_word_73 hl (k := 2) rfl (by rw [e_x2_21]; rfl) (by decide) rfl (fun ls hl => ?_)
          have h := h x2_21 e_x2_21
          refine lv_goto (tgt := 42) hx hb dX8_word_76 (by decide) ?_
          exact hrc42 x2_21 (upd m_state (((10 : Int32) + ((12 : Int32) * x1)) + x2).toNatClampNeg r_19) h _ _ _ hP hD hS (lv_sub hl [1, 2, 0] rfl)
    exact key nn x2 m_state h
  have hJ11 : ∀ (x1 : Int32) (x2 : Int32) (m_said : Int32) (m_state : Nat → Int32), wp_X8_word_11 m_pad x1 m_said m_state  Q x2 → ∀ (H : Heap) (locs : List Loc) (ls : Array Slot), va_P D vwCl [((ad 0), oX8 ad m_said m_waved m_places m_end m_joints m_netPlaces m_begin m_finish m_rounds m_sews), ((ad 1), aI cy 112 m_state), ((ad 4), aI cy 12 m_pad)] H → va_D A [((ad 0), oX8 ad m_said m_waved m_places m_end m_joints m_netPlaces m_begin m_finish m_rounds m_sews), ((ad 1), aI cy 112 m_state), ((ad 4), aI cy 12 m_pad)] → va_S A s.heap H locs → lv_has ls 3 [(0, .ref (ad 0)), (1, .int x1), (2, .int x2)] → W p l e { frames := 2, cells := 0, slots := 0, locals := 42 } s m args below meth c H locs 0 0 (MQ below ((fun A => va_Qi (fun (r : Int32) (u : Int32 × (Nat → Int32)) => ∃ (z0 : Int32) (z1 : Nat → Int32), u = (z0, z1) ∧ Q r z0 z1) (zE D vwCl A (fun (u : Int32 × (Nat → Int32)) => [((ad 0), oX8 ad (u.1) m_waved m_places m_end m_joints m_netPlaces m_begin m_finish m_rounds m_sews), ((ad 1), aI cy 112 (u.2)), ((ad 4), aI cy 12 m_pad)])) A) A) args s 0 0 A) (F0 m 11 ls []) := by
    intro x1 x2 m_said m_state   h
    obtain ⟨nn, h⟩ := h
    have key : ∀ (nn : Nat) (x2 : Int32), lpW1 (wb_X8_word_11 m_pad x1 m_said m_state  Q) nn x2 → ∀ (H : Heap) (locs : List Loc) (ls : Array Slot), va_P D vwCl [((ad 0), oX8 ad m_said m_waved m_places m_end m_joints m_netPlaces m_begin m_finish m_rounds m_sews), ((ad 1), aI cy 112 m_state), ((ad 4), aI cy 12 m_pad)] H → va_D A [((ad 0), oX8 ad m_said m_waved m_places m_end m_joints m_netPlaces m_begin m_finish m_rounds m_sews), ((ad 1), aI cy 112 m_state), ((ad 4), aI cy 12 m_pad)] → va_S A s.heap H locs → lv_has ls 3 [(0, .ref (ad 0)), (1, .int x1), (2, .int x2)] → W p l e { frames := 2, cells := 0, slots := 0, locals := 42 } s m args below meth c H locs 0 0 (MQ below ((fun A => va_Qi (fun (r : Int32) (u : Int32 × (Nat → Int32)) => ∃ (z0 : Int32) (z1 : Nat → Int32), u = (z0, z1) ∧ Q r z0 z1) (zE D vwCl A (fun (u : Int32 × (Nat → Int32)) => [((ad 0), oX8 ad (u.1) m_waved m_places m_end m_joints m_netPlaces m_begin m_finish m_rounds m_sews), ((ad 1), aI cy 112 (u.2)), ((ad 4), aI cy 12 m_pad)])) A) A) args s 0 0 A) (F0 m 11 ls []) := by
      intro nn
      induction nn with
      | zero => intro x2 h; exact h.elim
      | succ nn hrc11 =>
        intro x2 h H locs ls hP hD hS hl
        have h : wb_X8_word_11 m_pad x1 m_said m_state  Q (lpW1 (wb_X8_word_11 m_pad x1 m_said m_state  Q) nn) x2 := h
        unfold wb_X8_word_11 at h
        refine lv_iload_n hx hb dX8_word_11 rfl (lv_at hl 2 rfl) ?_
        refine lv_aload_n hx hb dX8_word_12 rfl (lv_at hl 0 rfl) ?_
        refine va_get (D := D) (ci := 7) (v := .int m_said) (C := RX8) (T := TX8) (N := 35) hx hb hts iX8 hown hK hP 0 rfl rfl 4 (Nat.le_of_ble_eq_true rfl) (hts _ fl_X8_147) (fun _ h9 => h9) rfl dX8_word_13 ?_
        refine lv_icmp_ge (tgt := 40) hx hb dX8_word_16 (by decide) (fun c_22 => ?_) (fun c_22 => ?_)
        · have h := h.1 c_22
          refine lv_iconst (v := (0 : Int32)) hx hb dX8_word_40 (by decide) ?_
          refine lv_istore_n (lv' := [(2, .int (0 : Int32)), (0, .ref (ad 0)), (1, .int x1)]) hx hb dX8_word_41 rfl hl (by decide) rfl (fun ls hl => ?_)
          exact hJ42 x1 (0 : Int32) m_said m_state   h _ _ _ hP hD hS (lv_sub hl [1, 2, 0] rfl)
        · have h := h.2 c_22
          refine lv_aload_n hx hb dX8_word_19 rfl (lv_at hl 0 rfl) ?_
          refine va_get (D := D) (ci := 7) (v := .ref (ad 4)) (C := RX8) (T := TX8) (N := 35) hx hb hts iX8 hown hK hP 0 rfl rfl 3 (Nat.le_of_ble_eq_true rfl) (hts _ fl_X8_20) (fun _ h9 => h9) rfl dX8_word_20 ?_
          refine lv_iload_n hx hb dX8_word_23 rfl (lv_at hl 2 rfl) ?_
          obtain ⟨hi_23, h⟩ := h
          refine va_iald hx hb hK hP 2 0 rfl rfl hi_23 dX8_word_24 ?_
          refine zc_S0 (As := [.int (m_pad x2.toNatClampNeg)]) (rest := []) hx hb hml hown hts hK hPW hA hl.1 hP hS ⟨Nat.zero_le _, Nat.zero_le _⟩ (c_X8_letterOf l D cy (sz := _) (x0 := (m_pad x2.toNatClampNeg)) (h := h)) k_X8_154 ⟨rfl, rfl, (Nat.le_of_ble_eq_true rfl), (Nat.le_of_ble_eq_true rfl)⟩ rfl rfl (Nat.le_of_ble_eq_true rfl) dX8_word_25 (fun r_24 H locs h hP hS => ?_)
          refine lv_if_ge (tgt := 34) hx hb dX8_word_28 (by decide) (fun c_25 => ?_) (fun c_25 => ?_)
          · have h := h.1 c_25
            obtain ⟨x2_26, e_x2_26⟩ : ∃ y : Int32, y = x2 + (1 : Int32) := ⟨_, rfl⟩
            refine lv_iinc (v := x2_26) (lv' := [(2, .int x2_26), (0, .ref (ad 0)), (1, .int x1)]) hx hb dX8_word_34 hl (k := 2) rfl (by rw [e_x2_26]; rfl) (by decide) rfl (fun ls hl => ?_)
            have h := h x2_26 e_x2_26
            refine lv_goto (tgt := 11) hx hb dX8_word_37 (by decide) ?_
            exact hrc11 x2_26 h _ _ _ hP hD hS (lv_sub hl [1, 2, 0] rfl)
          · have h := h.2 c_25
            refine lv_bipush (v := (-7 : Int32)) hx hb dX8_word_31 (by decide) ?_
            exact z_iret (m_said, m_state) hx hb hr hlocks ⟨m_said, m_state, rfl, h⟩ hP hD hS dX8_word_33
    exact key nn x2 h
  unfold wp_X8_word at h
  refine lv_iload_n hx hb dX8_word_0 rfl (lv_at hl 1 rfl) ?_
  refine zc_S0 (As := [.int x1]) (rest := []) hx hb hml hown hts hK hPW hA hl.1 hP hS ⟨Nat.zero_le _, Nat.zero_le _⟩ (c_X8_isWord l D cy (sz := _) (x0 := x1) (h := h)) k_X8_151 ⟨rfl, rfl, (Nat.le_of_ble_eq_true rfl), (Nat.le_of_ble_eq_true rfl)⟩ rfl rfl (Nat.le_of_ble_eq_true rfl) dX8_word_1 (fun r_27 H locs h hP hS => ?_)
  refine lv_if_ne (tgt := 9) hx hb dX8_word_4 (by decide) (fun c_28 => ?_) (fun c_28 => ?_)
  · have h := h.1 c_28
    refine lv_iconst (v := (0 : Int32)) hx hb dX8_word_9 (by decide) ?_
    refine lv_istore_n (lv' := [(2, .int (0 : Int32)), (0, .ref (ad 0)), (1, .int x1)]) hx hb dX8_word_10 rfl hl (by decide) rfl (fun ls hl => ?_)
    exact hJ11 x1 (0 : Int32) m_said m_state   h _ _ _ hP hD hS (lv_sub hl [1, 2, 0] rfl)
  · have h := h.2 c_28
    refine lv_iconst (v := (-1 : Int32)) hx hb dX8_word_7 (by decide) ?_
    exact z_iret (m_said, m_state) hx hb hr hlocks ⟨m_said, m_state, rfl, h⟩ hP hD hS dX8_word_8
set_option maxHeartbeats 4000000 in
set_option maxRecDepth 100000 in
theorem c_X8_mapOf (l : Launch) (D : va_G) (cy : Nat → ClassId) (ad : Nat → Nat) (sz : Nat) (m_said : Int32) (m_waved : Int32) (m_places : Int32) (m_end : Int32) (m_joints : Int32) (m_netPlaces : Int32) (m_begin : Int32) (m_finish : Int32) (m_rounds : Int32) (m_sews : Int32) (m_state : Nat → Int32) (x1 : Int32) {Q : Int32 → Prop} (h : wp_X8_mapOf x1 m_state Q) : Met l yX8_mapOf (wsU yX8_mapOf cX8_mapOf 3 (some .int)) { frames := 3, cells := 0, slots := 0, locals := 65 } (va_Pc [.ref (ad 0), .int x1] (zB D vwCl (tyU cy) [((ad 0), oX8 ad m_said m_waved m_places m_end m_joints m_netPlaces m_begin m_finish m_rounds m_sews), ((ad 1), aI cy 112 m_state)] sz)) ((fun A => va_Qi (fun (r : Int32) (_ : Unit) => Q r ) (zE D vwCl A (fun (_ : Unit) => [((ad 0), oX8 ad m_said m_waved m_places m_end m_joints m_netPlaces m_begin m_finish m_rounds m_sews), ((ad 1), aI cy 112 m_state)])) A) (va_A [((ad 0), oX8 ad m_said m_waved m_places m_end m_joints m_netPlaces m_begin m_finish m_rounds m_sews), ((ad 1), aI cy 112 m_state)] sz)) 0 0 (va_A [((ad 0), oX8 ad m_said m_waved m_places m_end m_joints m_netPlaces m_begin m_finish m_rounds m_sews), ((ad 1), aI cy 112 m_state)] sz) := by
  refine z_ofX (fun A => va_Qi (fun (r : Int32) (_ : Unit) => Q r ) (zE D vwCl A (fun (_ : Unit) => [((ad 0), oX8 ad m_said m_waved m_places m_end m_joints m_netPlaces m_begin m_finish m_rounds m_sews), ((ad 1), aI cy 112 m_state)])) A) (by decide) (Nat.le_of_ble_eq_true rfl) (fun p e s m below meth c A ls hx hb hr hml hown hts hlocks hK hPW hA hP hD hS hl => ?_)
  have hl : lv_has ls 3 [(0, .ref (ad 0)), (1, .int x1)] := hl
  have hown : s.vm.findClass RX8 = some m.cls := hown
  unfold wp_X8_mapOf at h
  refine lv_aload_n hx hb dX8_mapOf_0 rfl (lv_at hl 0 rfl) ?_
  refine va_get (D := D) (ci := 7) (v := .ref (ad 1)) (C := RX8) (T := TX8) (N := 35) hx hb hts iX8 hown hK hP 0 rfl rfl 0 (Nat.le_of_ble_eq_true rfl) (hts _ fl_X8_7) (fun _ h9 => h9) rfl dX8_mapOf_1 ?_
  refine lv_iconst (v := (0 : Int32)) hx hb dX8_mapOf_4 (by decide) ?_
  refine lv_iload_n hx hb dX8_mapOf_5 rfl (lv_at hl 1 rfl) ?_
  refine lv_iconst (v := (2 : Int32)) hx hb dX8_mapOf_6 (by decide) ?_
  refine lv_idiv hx hb dX8_mapOf_7 (by decide) ?_
  refine lv_iadd hx hb dX8_mapOf_8 ?_
  obtain ⟨hi_5, h⟩ := h
  refine va_iald hx hb hK hP 1 0 rfl rfl hi_5 dX8_mapOf_9 ?_
  refine lv_topi (fun x2_6 e_x2_6 => ?_)
  have h := h x2_6 e_x2_6
  refine lv_istore_n (lv' := [(2, .int x2_6), (0, .ref (ad 0)), (1, .int x1)]) hx hb dX8_mapOf_10 rfl hl (by decide) rfl (fun ls hl => ?_)
  refine lv_iload_n hx hb dX8_mapOf_11 rfl (lv_at hl 2 rfl) ?_
  refine lv_iconst (v := (2 : Int32)) hx hb dX8_mapOf_12 (by decide) ?_
  refine lv_irem hx hb dX8_mapOf_13 (by decide) ?_
  refine lv_if_ne (tgt := 21) hx hb dX8_mapOf_14 (by decide) (fun c_7 => ?_) (fun c_7 => ?_)
  · have h := h.1 c_7
    refine lv_iload_n hx hb dX8_mapOf_21 rfl (lv_at hl 0 rfl) ?_
    refine zc_S0 (As := [.int x2_6]) (rest := []) hx hb hml hown hts hK hPW hA hl.1 hP hS ⟨Nat.zero_le _, Nat.zero_le _⟩ (c_X8_inverse l D cy (sz := _) (x0 := x2_6) (h := h)) k_X8_106 ⟨rfl, rfl, (Nat.le_of_ble_eq_true rfl), (Nat.le_of_ble_eq_true rfl)⟩ rfl rfl (Nat.le_of_ble_eq_true rfl) dX8_mapOf_22 (fun r_8 H locs h hP hS => ?_)
    exact z_iret () hx hb hr hlocks h hP hD hS dX8_mapOf_25
  · have h := h.2 c_7
    refine lv_iload_n hx hb dX8_mapOf_17 rfl (lv_at hl 0 rfl) ?_
    refine lv_goto (tgt := 25) hx hb dX8_mapOf_18 (by decide) ?_
    exact z_iret () hx hb hr hlocks h hP hD hS dX8_mapOf_25
set_option maxHeartbeats 4000000 in
set_option maxRecDepth 100000 in
theorem c_X8_value (l : Launch) (D : va_G) (cy : Nat → ClassId) (ad : Nat → Nat) (sz : Nat) (m_said : Int32) (m_waved : Int32) (m_places : Int32) (m_end : Int32) (m_joints : Int32) (m_netPlaces : Int32) (m_begin : Int32) (m_finish : Int32) (m_rounds : Int32) (m_sews : Int32) (m_state : Nat → Int32) (x1 : Int32) (x2 : Int32) {Q : Int32 → (Nat → Int32) → Prop} (h : wp_X8_value x1 x2 m_state Q) : Met l yX8_value (wsU yX8_value cX8_value 5 (some .int)) { frames := 4, cells := 0, slots := 0, locals := 87 } (va_Pc [.ref (ad 0), .int x1, .int x2] (zB D vwCl (tyU cy) [((ad 0), oX8 ad m_said m_waved m_places m_end m_joints m_netPlaces m_begin m_finish m_rounds m_sews), ((ad 1), aI cy 112 m_state)] sz)) ((fun A => va_Qi (fun (r : Int32) (u : (Nat → Int32)) => Q r u) (zE D vwCl A (fun (u : (Nat → Int32)) => [((ad 0), oX8 ad m_said m_waved m_places m_end m_joints m_netPlaces m_begin m_finish m_rounds m_sews), ((ad 1), aI cy 112 u)])) A) (va_A [((ad 0), oX8 ad m_said m_waved m_places m_end m_joints m_netPlaces m_begin m_finish m_rounds m_sews), ((ad 1), aI cy 112 m_state)] sz)) 0 0 (va_A [((ad 0), oX8 ad m_said m_waved m_places m_end m_joints m_netPlaces m_begin m_finish m_rounds m_sews), ((ad 1), aI cy 112 m_state)] sz) := by
  refine z_ofX (fun A => va_Qi (fun (r : Int32) (u : (Nat → Int32)) => Q r u) (zE D vwCl A (fun (u : (Nat → Int32)) => [((ad 0), oX8 ad m_said m_waved m_places m_end m_joints m_netPlaces m_begin m_finish m_rounds m_sews), ((ad 1), aI cy 112 u)])) A) (by decide) (Nat.le_of_ble_eq_true rfl) (fun p e s m below meth c A ls hx hb hr hml hown hts hlocks hK hPW hA hP hD hS hl => ?_)
  have hl : lv_has ls 5 [(0, .ref (ad 0)), (1, .int x1), (2, .int x2)] := hl
  have hown : s.vm.findClass RX8 = some m.cls := hown
  generalize hArg : ([.ref (ad 0), .int x1, .int x2] : List Value).toArray = args at hts ⊢
  have hJ23 : ∀ (x1 : Int32) (x2 : Int32) (x3 : Int32) (x4 : Int32) (m_state : Nat → Int32), wp_X8_value_23 x1 x2 m_state  Q x3 x4 → ∀ (H : Heap) (locs : List Loc) (ls : Array Slot), va_P D vwCl [((ad 0), oX8 ad m_said m_waved m_places m_end m_joints m_netPlaces m_begin m_finish m_rounds m_sews), ((ad 1), aI cy 112 m_state)] H → va_D A [((ad 0), oX8 ad m_said m_waved m_places m_end m_joints m_netPlaces m_begin m_finish m_rounds m_sews), ((ad 1), aI cy 112 m_state)] → va_S A s.heap H locs → lv_has ls 5 [(0, .ref (ad 0)), (1, .int x1), (2, .int x2), (3, .int x3), (4, .int x4)] → W p l e { frames := 4, cells := 0, slots := 0, locals := 87 } s m args below meth c H locs 0 0 (MQ below ((fun A => va_Qi (fun (r : Int32) (u : (Nat → Int32)) => Q r u) (zE D vwCl A (fun (u : (Nat → Int32)) => [((ad 0), oX8 ad m_said m_waved m_places m_end m_joints m_netPlaces m_begin m_finish m_rounds m_sews), ((ad 1), aI cy 112 u)])) A) A) args s 0 0 A) (F0 m 23 ls []) := by
    intro x1 x2 x3 x4 m_state   h
    obtain ⟨nn, h⟩ := h
    have key : ∀ (nn : Nat) (x3 : Int32) (x4 : Int32), lpW2 (wb_X8_value_23 x1 x2 m_state  Q) nn x3 x4 → ∀ (H : Heap) (locs : List Loc) (ls : Array Slot), va_P D vwCl [((ad 0), oX8 ad m_said m_waved m_places m_end m_joints m_netPlaces m_begin m_finish m_rounds m_sews), ((ad 1), aI cy 112 m_state)] H → va_D A [((ad 0), oX8 ad m_said m_waved m_places m_end m_joints m_netPlaces m_begin m_finish m_rounds m_sews), ((ad 1), aI cy 112 m_state)] → va_S A s.heap H locs → lv_has ls 5 [(0, .ref (ad 0)), (1, .int x1), (2, .int x2), (3, .int x3), (4, .int x4)] → W p l e { frames := 4, cells := 0, slots := 0, locals := 87 } s m args below meth c H locs 0 0 (MQ below ((fun A => va_Qi (fun (r : Int32) (u : (Nat → Int32)) => Q r u) (zE D vwCl A (fun (u : (Nat → Int32)) => [((ad 0), oX8 ad m_said m_waved m_places m_end m_joints m_netPlaces m_begin m_finish m_rounds m_sews), ((ad 1), aI cy 112 u)])) A) A) args s 0 0 A) (F0 m 23 ls []) := by
      intro nn
      induction nn with
      | zero => intro x3 x4 h; exact h.elim
      | succ nn hrc23 =>
        intro x3 x4 h H locs ls hP hD hS hl
        have h : wb_X8_value_23 x1 x2 m_state  Q (lpW2 (wb_X8_value_23 x1 x2 m_state  Q) nn) x3 x4 := h
        unfold wb_X8_value_23 at h
        refine lv_iload hx hb dX8_value_23 (lv_at hl 4 rfl) ?_
        refine lv_aload_n hx hb dX8_value_25 rfl (lv_at hl 0 rfl) ?_
        refine va_get (D := D) (ci := 7) (v := .ref (ad 1)) (C := RX8) (T := TX8) (N := 35) hx hb hts iX8 hown hK hP 0 rfl rfl 0 (Nat.le_of_ble_eq_true rfl) (hts _ fl_X8_7) (fun _ h9 => h9) rfl dX8_value_26 ?_
        refine lv_bipush (v := (6 : Int32)) hx hb dX8_value_29 (by decide) ?_
        refine lv_iload_n hx hb dX8_value_31 rfl (lv_at hl 2 rfl) ?_
        refine lv_iadd hx hb dX8_value_32 ?_
        obtain ⟨hi_13, h⟩ := h
        refine va_iald hx hb hK hP 1 0 rfl rfl hi_13 dX8_value_33 ?_
        refine lv_icmp_ge (tgt := 67) hx hb dX8_value_34 (by decide) (fun c_14 => ?_) (fun c_14 => ?_)
        · have h := h.1 c_14
          refine lv_aload_n hx hb dX8_value_67 rfl (lv_at hl 0 rfl) ?_
          refine lv_iload_n hx hb dX8_value_68 rfl (lv_at hl 1 rfl) ?_
          refine lv_iload_n hx hb dX8_value_69 rfl (lv_at hl 3 rfl) ?_
          refine zc_Vi (As := [.int x1, .int x3]) (rest := []) (wc := [((ad 0), oX8 ad m_said m_waved m_places m_end m_joints m_netPlaces m_begin m_finish m_rounds m_sews), ((ad 1), aI cy 112 m_state)]) (wr := []) hx hb hml hown hts hK hPW hA hl.1 hP hD hS ⟨Nat.zero_le _, Nat.zero_le _⟩ [0, 1] [] rfl rfl (by decide) (c_X8_hold l D cy (sz := _) (x1 := x1) (x2 := x3) (ad := ad) (m_said := m_said) (m_waved := m_waved) (m_places := m_places) (m_end := m_end) (m_joints := m_joints) (m_netPlaces := m_netPlaces) (m_begin := m_begin) (m_finish := m_finish) (m_rounds := m_rounds) (m_sews := m_sews) (m_state := m_state) (h := h)) k_X8_137 ⟨rfl, rfl, (Nat.le_of_ble_eq_true rfl), (Nat.le_of_ble_eq_true rfl)⟩ rfl rfl rfl rfl (Nat.le_of_ble_eq_true rfl) dX8_value_70 (fun r_15 m_state_15 H locs h hP hD hS => ?_)
          have hP : va_P D vwCl [((ad 0), oX8 ad m_said m_waved m_places m_end m_joints m_netPlaces m_begin m_finish m_rounds m_sews), ((ad 1), aI cy 112 m_state_15)] H := hP
          have hD : va_D A [((ad 0), oX8 ad m_said m_waved m_places m_end m_joints m_netPlaces m_begin m_finish m_rounds m_sews), ((ad 1), aI cy 112 m_state_15)] := hD
          exact z_iret m_state_15 hx hb hr hlocks h hP hD hS dX8_value_73
        · have h := h.2 c_14
          refine lv_iload_n hx hb dX8_value_37 rfl (lv_at hl 3 rfl) ?_
          refine lv_aload_n hx hb dX8_value_38 rfl (lv_at hl 0 rfl) ?_
          refine lv_aload_n hx hb dX8_value_39 rfl (lv_at hl 0 rfl) ?_
          refine va_get (D := D) (ci := 7) (v := .ref (ad 1)) (C := RX8) (T := TX8) (N := 35) hx hb hts iX8 hown hK hP 0 rfl rfl 0 (Nat.le_of_ble_eq_true rfl) (hts _ fl_X8_7) (fun _ h9 => h9) rfl dX8_value_40 ?_
          refine lv_bipush (v := (10 : Int32)) hx hb dX8_value_43 (by decide) ?_
          refine lv_bipush (v := (12 : Int32)) hx hb dX8_value_45 (by decide) ?_
          refine lv_iload_n hx hb dX8_value_47 rfl (lv_at hl 2 rfl) ?_
          refine lv_imul hx hb dX8_value_48 ?_
          refine lv_iadd hx hb dX8_value_49 ?_
          refine lv_iload hx hb dX8_value_50 (lv_at hl 4 rfl) ?_
          refine lv_iadd hx hb dX8_value_52 ?_
          obtain ⟨hi_16, h⟩ := h
          refine va_iald hx hb hK hP 1 0 rfl rfl hi_16 dX8_value_53 ?_
          refine zc_Vi (As := [.int (m_state (((10 : Int32) + ((12 : Int32) * x2)) + x4).toNatClampNeg)]) (rest := [.int x3]) (wc := [((ad 0), oX8 ad m_said m_waved m_places m_end m_joints m_netPlaces m_begin m_finish m_rounds m_sews), ((ad 1), aI cy 112 m_state)]) (wr := []) hx hb hml hown hts hK hPW hA hl.1 hP hD hS ⟨Nat.zero_le _, Nat.zero_le _⟩ [0, 1] [] rfl rfl (by decide) (c_X8_mapOf l D cy (sz := _) (x1 := (m_state (((10 : Int32) + ((12 : Int32) * x2)) + x4).toNatClampNeg)) (ad := ad) (m_said := m_said) (m_waved := m_waved) (m_places := m_places) (m_end := m_end) (m_joints := m_joints) (m_netPlaces := m_netPlaces) (m_begin := m_begin) (m_finish := m_finish) (m_rounds := m_rounds) (m_sews := m_sews) (m_state := m_state) (h := h)) k_X8_157 ⟨rfl, rfl, (Nat.le_of_ble_eq_true rfl), (Nat.le_of_ble_eq_true rfl)⟩ rfl rfl rfl rfl (Nat.le_of_ble_eq_true rfl) dX8_value_54 (fun r_17 _ H locs h hP hD hS => ?_)
          have hP : va_P D vwCl [((ad 0), oX8 ad m_said m_waved m_places m_end m_joints m_netPlaces m_begin m_finish m_rounds m_sews), ((ad 1), aI cy 112 m_state)] H := hP
          have hD : va_D A [((ad 0), oX8 ad m_said m_waved m_places m_end m_joints m_netPlaces m_begin m_finish m_rounds m_sews), ((ad 1), aI cy 112 m_state)] := hD
          refine zc_S0 (As := [.int x3, .int r_17]) (rest := []) hx hb hml hown hts hK hPW hA hl.1 hP hS ⟨Nat.zero_le _, Nat.zero_le _⟩ (c_X8_then l D cy (sz := _) (x0 := x3) (x1 := r_17) (h := h)) k_X8_122 ⟨rfl, rfl, (Nat.le_of_ble_eq_true rfl), (Nat.le_of_ble_eq_true rfl)⟩ rfl rfl (Nat.le_of_ble_eq_true rfl) dX8_value_57 (fun r_18 H locs h hP hS => ?_)
          refine lv_istore_n (lv' := [(3, .int r_18), (0, .ref (ad 0)), (1, .int x1), (2, .int x2), (4, .int x4)]) hx hb dX8_value_60 rfl hl (by decide) rfl (fun ls hl => ?_)
          obtain ⟨x4_19, e_x4_19⟩ : ∃ y : Int32, y = x4 + (1 : Int32) := ⟨_, rfl⟩
          refine lv_iinc (v := x4_19) (lv' := [(4, .int x4_19), (3, .int r_18), (0, .ref (ad 0)), (1, .int x1), (2, .int x2)]) hx hb dX8_value_61 hl (k := 4) rfl (by rw [e_x4_19]; rfl) (by decide) rfl (fun ls hl => ?_)
          have h := h x4_19 e_x4_19
          refine lv_goto (tgt := 23) hx hb dX8_value_64 (by decide) ?_
          exact hrc23 r_18 x4_19 h _ _ _ hP hD hS (lv_sub hl [2, 3, 4, 1, 0] rfl)
    exact key nn x3 x4 h
  unfold wp_X8_value at h
  refine lv_iload_n hx hb dX8_value_0 rfl (lv_at hl 1 rfl) ?_
  refine zc_S0 (As := [.int x1]) (rest := []) hx hb hml hown hts hK hPW hA hl.1 hP hS ⟨Nat.zero_le _, Nat.zero_le _⟩ (c_X8_isSlot l D cy (sz := _) (x0 := x1) (h := h)) k_X8_116 ⟨rfl, rfl, (Nat.le_of_ble_eq_true rfl), (Nat.le_of_ble_eq_true rfl)⟩ rfl rfl (Nat.le_of_ble_eq_true rfl) dX8_value_1 (fun r_20 H locs h hP hS => ?_)
  refine lv_if_eq (tgt := 14) hx hb dX8_value_4 (by decide) (fun c_21 => ?_) (fun c_21 => ?_)
  · have h := h.1 c_21
    refine lv_iconst (v := (-1 : Int32)) hx hb dX8_value_14 (by decide) ?_
    exact z_iret m_state hx hb hr hlocks h hP hD hS dX8_value_15
  · have h := h.2 c_21
    refine lv_iload_n hx hb dX8_value_7 rfl (lv_at hl 2 rfl) ?_
    refine zc_S0 (As := [.int x2]) (rest := []) hx hb hml hown hts hK hPW hA hl.1 hP hS ⟨Nat.zero_le _, Nat.zero_le _⟩ (c_X8_isWord l D cy (sz := _) (x0 := x2) (h := h)) k_X8_151 ⟨rfl, rfl, (Nat.le_of_ble_eq_true rfl), (Nat.le_of_ble_eq_true rfl)⟩ rfl rfl (Nat.le_of_ble_eq_true rfl) dX8_value_8 (fun r_22 H locs h hP hS => ?_)
    refine lv_if_ne (tgt := 16) hx hb dX8_value_11 (by decide) (fun c_23 => ?_) (fun c_23 => ?_)
    · have h := h.1 c_23
      refine zc_S0 (As := []) (rest := []) hx hb hml hown hts hK hPW hA hl.1 hP hS ⟨Nat.zero_le _, Nat.zero_le _⟩ (c_X8_same l D cy (sz := _)  (h := h)) k_X8_87 ⟨rfl, rfl, (Nat.le_of_ble_eq_true rfl), (Nat.le_of_ble_eq_true rfl)⟩ rfl rfl (Nat.le_of_ble_eq_true rfl) dX8_value_16 (fun r_24 H locs h hP hS => ?_)
      refine lv_istore_n (lv' := [(3, .int r_24), (0, .ref (ad 0)), (1, .int x1), (2, .int x2)]) hx hb dX8_value_19 rfl hl (by decide) rfl (fun ls hl => ?_)
      refine lv_iconst (v := (0 : Int32)) hx hb dX8_value_20 (by decide) ?_
      refine lv_istore (lv' := [(4, .int (0 : Int32)), (3, .int r_24), (0, .ref (ad 0)), (1, .int x1), (2, .int x2)]) hx hb dX8_value_21 hl (by decide) rfl (fun ls hl => ?_)
      exact hJ23 x1 x2 r_24 (0 : Int32) m_state   h _ _ _ hP hD hS (lv_sub hl [2, 3, 4, 1, 0] rfl)
    · have h := h.2 c_23
      refine lv_iconst (v := (-1 : Int32)) hx hb dX8_value_14 (by decide) ?_
      exact z_iret m_state hx hb hr hlocks h hP hD hS dX8_value_15
set_option maxHeartbeats 4000000 in
set_option maxRecDepth 100000 in
theorem c_X8_meetMap (l : Launch) (D : va_G) (cy : Nat → ClassId) (ad : Nat → Nat) (sz : Nat) (m_said : Int32) (m_waved : Int32) (m_places : Int32) (m_end : Int32) (m_joints : Int32) (m_netPlaces : Int32) (m_begin : Int32) (m_finish : Int32) (m_rounds : Int32) (m_sews : Int32) (m_wave : Nat → Int32) (m_isMade : Nat → Int32) (m_cameFrom : Nat → Int32) (m_cameBy : Nat → Int32) (x1 : Int32) (x2 : Int32) (x3 : Int32) {Q : Int32 → (Nat → Int32) → (Nat → Int32) → (Nat → Int32) → (Nat → Int32) → Prop} (h : wp_X8_meetMap x1 x2 x3 m_waved m_wave m_isMade m_cameFrom m_cameBy Q) : Met l yX8_meetMap (wsU yX8_meetMap cX8_meetMap 4 none) { frames := 0, cells := 0, slots := 0, locals := 0 } (va_Pc [.ref (ad 0), .int x1, .int x2, .int x3] (zB D vwCl (tyU cy) [((ad 0), oX8 ad m_said m_waved m_places m_end m_joints m_netPlaces m_begin m_finish m_rounds m_sews), ((ad 5), aI cy 7776 m_wave), ((ad 6), aZ cy 7776 m_isMade), ((ad 7), aI cy 7776 m_cameFrom), ((ad 8), aI cy 7776 m_cameBy)] sz)) ((fun A => va_Qv (fun (u : Int32 × (Nat → Int32) × (Nat → Int32) × (Nat → Int32) × (Nat → Int32)) => ∃ (z0 : Int32) (z1 : Nat → Int32) (z2 : Nat → Int32) (z3 : Nat → Int32) (z4 : Nat → Int32), u = (z0, z1, z2, z3, z4) ∧ Q z0 z1 z2 z3 z4) (zE D vwCl A (fun (u : Int32 × (Nat → Int32) × (Nat → Int32) × (Nat → Int32) × (Nat → Int32)) => [((ad 0), oX8 ad m_said (u.1) m_places m_end m_joints m_netPlaces m_begin m_finish m_rounds m_sews), ((ad 5), aI cy 7776 (u.2.1)), ((ad 6), aZ cy 7776 (u.2.2.1)), ((ad 7), aI cy 7776 (u.2.2.2.1)), ((ad 8), aI cy 7776 (u.2.2.2.2))])) A) (va_A [((ad 0), oX8 ad m_said m_waved m_places m_end m_joints m_netPlaces m_begin m_finish m_rounds m_sews), ((ad 5), aI cy 7776 m_wave), ((ad 6), aZ cy 7776 m_isMade), ((ad 7), aI cy 7776 m_cameFrom), ((ad 8), aI cy 7776 m_cameBy)] sz)) 0 0 (va_A [((ad 0), oX8 ad m_said m_waved m_places m_end m_joints m_netPlaces m_begin m_finish m_rounds m_sews), ((ad 5), aI cy 7776 m_wave), ((ad 6), aZ cy 7776 m_isMade), ((ad 7), aI cy 7776 m_cameFrom), ((ad 8), aI cy 7776 m_cameBy)] sz) := by
  refine z_ofX (fun A => va_Qv (fun (u : Int32 × (Nat → Int32) × (Nat → Int32) × (Nat → Int32) × (Nat → Int32)) => ∃ (z0 : Int32) (z1 : Nat → Int32) (z2 : Nat → Int32) (z3 : Nat → Int32) (z4 : Nat → Int32), u = (z0, z1, z2, z3, z4) ∧ Q z0 z1 z2 z3 z4) (zE D vwCl A (fun (u : Int32 × (Nat → Int32) × (Nat → Int32) × (Nat → Int32) × (Nat → Int32)) => [((ad 0), oX8 ad m_said (u.1) m_places m_end m_joints m_netPlaces m_begin m_finish m_rounds m_sews), ((ad 5), aI cy 7776 (u.2.1)), ((ad 6), aZ cy 7776 (u.2.2.1)), ((ad 7), aI cy 7776 (u.2.2.2.1)), ((ad 8), aI cy 7776 (u.2.2.2.2))])) A) (by decide) (Nat.le_of_ble_eq_true rfl) (fun p e s m below meth c A ls hx hb hr hml hown hts hlocks hK hPW hA hP hD hS hl => ?_)
  have hl : lv_has ls 4 [(0, .ref (ad 0)), (1, .int x1), (2, .int x2), (3, .int x3)] := hl
  have hown : s.vm.findClass RX8 = some m.cls := hown
  unfold wp_X8_meetMap at h
  refine lv_aload_n hx hb dX8_meetMap_0 rfl (lv_at hl 0 rfl) ?_
  refine va_get (D := D) (ci := 7) (v := .ref (ad 6)) (C := RX8) (T := TX8) (N := 35) hx hb hts iX8 hown hK hP 0 rfl rfl 7 (Nat.le_of_ble_eq_true rfl) (hts _ fl_X8_26) (fun _ h9 => h9) rfl dX8_meetMap_1 ?_
  refine lv_iload_n hx hb dX8_meetMap_4 rfl (lv_at hl 1 rfl) ?_
  obtain ⟨hi_7, h⟩ := h
  refine va_zald hx hb hK hP 2 2 rfl rfl hi_7 dX8_meetMap_5 ?_
  refine lv_if_ne (tgt := 50) hx hb dX8_meetMap_6 (by decide) (fun c_8 => ?_) (fun c_8 => ?_)
  · have h := h.1 c_8
    exact z_vret (m_waved, m_wave, m_isMade, m_cameFrom, m_cameBy) hx hb hr hlocks ⟨m_waved, m_wave, m_isMade, m_cameFrom, m_cameBy, rfl, h⟩ hP hD hS dX8_meetMap_50
  · have h := h.2 c_8
    refine lv_aload_n hx hb dX8_meetMap_9 rfl (lv_at hl 0 rfl) ?_
    refine va_get (D := D) (ci := 7) (v := .ref (ad 6)) (C := RX8) (T := TX8) (N := 35) hx hb hts iX8 hown hK hP 0 rfl rfl 7 (Nat.le_of_ble_eq_true rfl) (hts _ fl_X8_26) (fun _ h9 => h9) rfl dX8_meetMap_10 ?_
    refine lv_iload_n hx hb dX8_meetMap_13 rfl (lv_at hl 1 rfl) ?_
    refine lv_iconst (v := (1 : Int32)) hx hb dX8_meetMap_14 (by decide) ?_
    obtain ⟨hi_9, h⟩ := h
    refine va_zast hx hb hK hP hD hS 2 2 rfl rfl hi_9 dX8_meetMap_15 (fun H locs hP hD hS => ?_)
    have hP : va_P D vwCl [((ad 0), oX8 ad m_said m_waved m_places m_end m_joints m_netPlaces m_begin m_finish m_rounds m_sews), ((ad 5), aI cy 7776 m_wave), ((ad 6), aZ cy 7776 (upd m_isMade x1.toNatClampNeg (vp_nar .boolean (1 : Int32)))), ((ad 7), aI cy 7776 m_cameFrom), ((ad 8), aI cy 7776 m_cameBy)] H := hP
    have hD : va_D A [((ad 0), oX8 ad m_said m_waved m_places m_end m_joints m_netPlaces m_begin m_finish m_rounds m_sews), ((ad 5), aI cy 7776 m_wave), ((ad 6), aZ cy 7776 (upd m_isMade x1.toNatClampNeg (vp_nar .boolean (1 : Int32)))), ((ad 7), aI cy 7776 m_cameFrom), ((ad 8), aI cy 7776 m_cameBy)] := hD
    refine lv_aload_n hx hb dX8_meetMap_16 rfl (lv_at hl 0 rfl) ?_
    refine va_get (D := D) (ci := 7) (v := .ref (ad 7)) (C := RX8) (T := TX8) (N := 35) hx hb hts iX8 hown hK hP 0 rfl rfl 8 (Nat.le_of_ble_eq_true rfl) (hts _ fl_X8_29) (fun _ h9 => h9) rfl dX8_meetMap_17 ?_
    refine lv_iload_n hx hb dX8_meetMap_20 rfl (lv_at hl 1 rfl) ?_
    refine lv_iload_n hx hb dX8_meetMap_21 rfl (lv_at hl 2 rfl) ?_
    obtain ⟨hi_10, h⟩ := h
    refine va_iast hx hb hK hP hD hS 3 0 rfl rfl hi_10 dX8_meetMap_22 (fun H locs hP hD hS => ?_)
    have hP : va_P D vwCl [((ad 0), oX8 ad m_said m_waved m_places m_end m_joints m_netPlaces m_begin m_finish m_rounds m_sews), ((ad 5), aI cy 7776 m_wave), ((ad 6), aZ cy 7776 (upd m_isMade x1.toNatClampNeg (vp_nar .boolean (1 : Int32)))), ((ad 7), aI cy 7776 (upd m_cameFrom x1.toNatClampNeg x2)), ((ad 8), aI cy 7776 m_cameBy)] H := hP
    have hD : va_D A [((ad 0), oX8 ad m_said m_waved m_places m_end m_joints m_netPlaces m_begin m_finish m_rounds m_sews), ((ad 5), aI cy 7776 m_wave), ((ad 6), aZ cy 7776 (upd m_isMade x1.toNatClampNeg (vp_nar .boolean (1 : Int32)))), ((ad 7), aI cy 7776 (upd m_cameFrom x1.toNatClampNeg x2)), ((ad 8), aI cy 7776 m_cameBy)] := hD
    refine lv_aload_n hx hb dX8_meetMap_23 rfl (lv_at hl 0 rfl) ?_
    refine va_get (D := D) (ci := 7) (v := .ref (ad 8)) (C := RX8) (T := TX8) (N := 35) hx hb hts iX8 hown hK hP 0 rfl rfl 9 (Nat.le_of_ble_eq_true rfl) (hts _ fl_X8_32) (fun _ h9 => h9) rfl dX8_meetMap_24 ?_
    refine lv_iload_n hx hb dX8_meetMap_27 rfl (lv_at hl 1 rfl) ?_
    refine lv_iload_n hx hb dX8_meetMap_28 rfl (lv_at hl 3 rfl) ?_
    obtain ⟨hi_11, h⟩ := h
    refine va_iast hx hb hK hP hD hS 4 0 rfl rfl hi_11 dX8_meetMap_29 (fun H locs hP hD hS => ?_)
    have hP : va_P D vwCl [((ad 0), oX8 ad m_said m_waved m_places m_end m_joints m_netPlaces m_begin m_finish m_rounds m_sews), ((ad 5), aI cy 7776 m_wave), ((ad 6), aZ cy 7776 (upd m_isMade x1.toNatClampNeg (vp_nar .boolean (1 : Int32)))), ((ad 7), aI cy 7776 (upd m_cameFrom x1.toNatClampNeg x2)), ((ad 8), aI cy 7776 (upd m_cameBy x1.toNatClampNeg x3))] H := hP
    have hD : va_D A [((ad 0), oX8 ad m_said m_waved m_places m_end m_joints m_netPlaces m_begin m_finish m_rounds m_sews), ((ad 5), aI cy 7776 m_wave), ((ad 6), aZ cy 7776 (upd m_isMade x1.toNatClampNeg (vp_nar .boolean (1 : Int32)))), ((ad 7), aI cy 7776 (upd m_cameFrom x1.toNatClampNeg x2)), ((ad 8), aI cy 7776 (upd m_cameBy x1.toNatClampNeg x3))] := hD
    refine lv_aload_n hx hb dX8_meetMap_30 rfl (lv_at hl 0 rfl) ?_
    refine va_get (D := D) (ci := 7) (v := .ref (ad 5)) (C := RX8) (T := TX8) (N := 35) hx hb hts iX8 hown hK hP 0 rfl rfl 5 (Nat.le_of_ble_eq_true rfl) (hts _ fl_X8_23) (fun _ h9 => h9) rfl dX8_meetMap_31 ?_
    refine lv_aload_n hx hb dX8_meetMap_34 rfl (lv_at hl 0 rfl) ?_
    refine va_get (D := D) (ci := 7) (v := .int m_waved) (C := RX8) (T := TX8) (N := 35) hx hb hts iX8 hown hK hP 0 rfl rfl 6 (Nat.le_of_ble_eq_true rfl) (hts _ fl_X8_160) (fun _ h9 => h9) rfl dX8_meetMap_35 ?_
    refine lv_iload_n hx hb dX8_meetMap_38 rfl (lv_at hl 1 rfl) ?_
    obtain ⟨hi_12, h⟩ := h
    refine va_iast hx hb hK hP hD hS 1 0 rfl rfl hi_12 dX8_meetMap_39 (fun H locs hP hD hS => ?_)
    have hP : va_P D vwCl [((ad 0), oX8 ad m_said m_waved m_places m_end m_joints m_netPlaces m_begin m_finish m_rounds m_sews), ((ad 5), aI cy 7776 (upd m_wave m_waved.toNatClampNeg x1)), ((ad 6), aZ cy 7776 (upd m_isMade x1.toNatClampNeg (vp_nar .boolean (1 : Int32)))), ((ad 7), aI cy 7776 (upd m_cameFrom x1.toNatClampNeg x2)), ((ad 8), aI cy 7776 (upd m_cameBy x1.toNatClampNeg x3))] H := hP
    have hD : va_D A [((ad 0), oX8 ad m_said m_waved m_places m_end m_joints m_netPlaces m_begin m_finish m_rounds m_sews), ((ad 5), aI cy 7776 (upd m_wave m_waved.toNatClampNeg x1)), ((ad 6), aZ cy 7776 (upd m_isMade x1.toNatClampNeg (vp_nar .boolean (1 : Int32)))), ((ad 7), aI cy 7776 (upd m_cameFrom x1.toNatClampNeg x2)), ((ad 8), aI cy 7776 (upd m_cameBy x1.toNatClampNeg x3))] := hD
    refine lv_aload_n hx hb dX8_meetMap_40 rfl (lv_at hl 0 rfl) ?_
    refine lv_dup hx hb dX8_meetMap_41 rfl ?_
    refine va_get (D := D) (ci := 7) (v := .int m_waved) (C := RX8) (T := TX8) (N := 35) hx hb hts iX8 hown hK hP 0 rfl rfl 6 (Nat.le_of_ble_eq_true rfl) (hts _ fl_X8_160) (fun _ h9 => h9) rfl dX8_meetMap_42 ?_
    refine lv_iconst (v := (1 : Int32)) hx hb dX8_meetMap_45 (by decide) ?_
    refine lv_iadd hx hb dX8_meetMap_46 ?_
    refine va_put (D := D) (ci := 7) (v := .int (m_waved + (1 : Int32))) (ty := .int) (C := RX8) (T := TX8) (N := 35) hx hb hts iX8 tyX8 tyX8_ok nmX8 hown hK hP hD hS 0 rfl rfl 6 (Nat.le_of_ble_eq_true rfl) (hts _ fl_X8_160) (fun _ h9 => h9) rfl (by decide +kernel) rfl rfl (Nat.le_of_ble_eq_true rfl) dX8_meetMap_47 (fun H locs hP hD hS => ?_)
    have hP : va_P D vwCl [((ad 0), oX8 ad m_said (m_waved + (1 : Int32)) m_places m_end m_joints m_netPlaces m_begin m_finish m_rounds m_sews), ((ad 5), aI cy 7776 (upd m_wave m_waved.toNatClampNeg x1)), ((ad 6), aZ cy 7776 (upd m_isMade x1.toNatClampNeg (vp_nar .boolean (1 : Int32)))), ((ad 7), aI cy 7776 (upd m_cameFrom x1.toNatClampNeg x2)), ((ad 8), aI cy 7776 (upd m_cameBy x1.toNatClampNeg x3))] H := hP
    have hD : va_D A [((ad 0), oX8 ad m_said (m_waved + (1 : Int32)) m_places m_end m_joints m_netPlaces m_begin m_finish m_rounds m_sews), ((ad 5), aI cy 7776 (upd m_wave m_waved.toNatClampNeg x1)), ((ad 6), aZ cy 7776 (upd m_isMade x1.toNatClampNeg (vp_nar .boolean (1 : Int32)))), ((ad 7), aI cy 7776 (upd m_cameFrom x1.toNatClampNeg x2)), ((ad 8), aI cy 7776 (upd m_cameBy x1.toNatClampNeg x3))] := hD
    exact z_vret ((m_waved + (1 : Int32)), (upd m_wave m_waved.toNatClampNeg x1), (upd m_isMade x1.toNatClampNeg (vp_nar .boolean (1 : Int32))), (upd m_cameFrom x1.toNatClampNeg x2), (upd m_cameBy x1.toNatClampNeg x3)) hx hb hr hlocks ⟨(m_waved + (1 : Int32)), (upd m_wave m_waved.toNatClampNeg x1), (upd m_isMade x1.toNatClampNeg (vp_nar .boolean (1 : Int32))), (upd m_cameFrom x1.toNatClampNeg x2), (upd m_cameBy x1.toNatClampNeg x3), rfl, h⟩ hP hD hS dX8_meetMap_50
set_option maxHeartbeats 4000000 in
set_option maxRecDepth 100000 in
theorem c_X8_layEnds (l : Launch) (D : va_G) (cy : Nat → ClassId) (ad : Nat → Nat) (sz : Nat) (m_said : Int32) (m_waved : Int32) (m_places : Int32) (m_end : Int32) (m_joints : Int32) (m_netPlaces : Int32) (m_begin : Int32) (m_finish : Int32) (m_rounds : Int32) (m_sews : Int32) (m_wave : Nat → Int32) (m_domOf : Nat → Int32) (m_ranOf : Nat → Int32) {Q : (Nat → Int32) → (Nat → Int32) → Prop} (h : wp_X8_layEnds m_waved m_wave m_domOf m_ranOf Q) : Met l yX8_layEnds (wsU yX8_layEnds cX8_layEnds 2 none) { frames := 4, cells := 0, slots := 0, locals := 85 } (va_Pc [.ref (ad 0)] (zB D vwCl (tyU cy) [((ad 0), oX8 ad m_said m_waved m_places m_end m_joints m_netPlaces m_begin m_finish m_rounds m_sews), ((ad 5), aI cy 7776 m_wave), ((ad 9), aI cy 7776 m_domOf), ((ad 10), aI cy 7776 m_ranOf)] sz)) ((fun A => va_Qv (fun (u : (Nat → Int32) × (Nat → Int32)) => ∃ (z0 : Nat → Int32) (z1 : Nat → Int32), u = (z0, z1) ∧ Q z0 z1) (zE D vwCl A (fun (u : (Nat → Int32) × (Nat → Int32)) => [((ad 0), oX8 ad m_said m_waved m_places m_end m_joints m_netPlaces m_begin m_finish m_rounds m_sews), ((ad 5), aI cy 7776 m_wave), ((ad 9), aI cy 7776 (u.1)), ((ad 10), aI cy 7776 (u.2))])) A) (va_A [((ad 0), oX8 ad m_said m_waved m_places m_end m_joints m_netPlaces m_begin m_finish m_rounds m_sews), ((ad 5), aI cy 7776 m_wave), ((ad 9), aI cy 7776 m_domOf), ((ad 10), aI cy 7776 m_ranOf)] sz)) 0 0 (va_A [((ad 0), oX8 ad m_said m_waved m_places m_end m_joints m_netPlaces m_begin m_finish m_rounds m_sews), ((ad 5), aI cy 7776 m_wave), ((ad 9), aI cy 7776 m_domOf), ((ad 10), aI cy 7776 m_ranOf)] sz) := by
  refine z_ofX (fun A => va_Qv (fun (u : (Nat → Int32) × (Nat → Int32)) => ∃ (z0 : Nat → Int32) (z1 : Nat → Int32), u = (z0, z1) ∧ Q z0 z1) (zE D vwCl A (fun (u : (Nat → Int32) × (Nat → Int32)) => [((ad 0), oX8 ad m_said m_waved m_places m_end m_joints m_netPlaces m_begin m_finish m_rounds m_sews), ((ad 5), aI cy 7776 m_wave), ((ad 9), aI cy 7776 (u.1)), ((ad 10), aI cy 7776 (u.2))])) A) (by decide) (Nat.le_of_ble_eq_true rfl) (fun p e s m below meth c A ls hx hb hr hml hown hts hlocks hK hPW hA hP hD hS hl => ?_)
  have hl : lv_has ls 2 [(0, .ref (ad 0))] := hl
  have hown : s.vm.findClass RX8 = some m.cls := hown
  generalize hArg : ([.ref (ad 0)] : List Value).toArray = args at hts ⊢
  have hJ2 : ∀ (x1 : Int32) (m_domOf : Nat → Int32) (m_ranOf : Nat → Int32), wp_X8_layEnds_2 m_waved m_wave  Q x1 m_domOf m_ranOf → ∀ (H : Heap) (locs : List Loc) (ls : Array Slot), va_P D vwCl [((ad 0), oX8 ad m_said m_waved m_places m_end m_joints m_netPlaces m_begin m_finish m_rounds m_sews), ((ad 5), aI cy 7776 m_wave), ((ad 9), aI cy 7776 m_domOf), ((ad 10), aI cy 7776 m_ranOf)] H → va_D A [((ad 0), oX8 ad m_said m_waved m_places m_end m_joints m_netPlaces m_begin m_finish m_rounds m_sews), ((ad 5), aI cy 7776 m_wave), ((ad 9), aI cy 7776 m_domOf), ((ad 10), aI cy 7776 m_ranOf)] → va_S A s.heap H locs → lv_has ls 2 [(0, .ref (ad 0)), (1, .int x1)] → W p l e { frames := 4, cells := 0, slots := 0, locals := 85 } s m args below meth c H locs 0 0 (MQ below ((fun A => va_Qv (fun (u : (Nat → Int32) × (Nat → Int32)) => ∃ (z0 : Nat → Int32) (z1 : Nat → Int32), u = (z0, z1) ∧ Q z0 z1) (zE D vwCl A (fun (u : (Nat → Int32) × (Nat → Int32)) => [((ad 0), oX8 ad m_said m_waved m_places m_end m_joints m_netPlaces m_begin m_finish m_rounds m_sews), ((ad 5), aI cy 7776 m_wave), ((ad 9), aI cy 7776 (u.1)), ((ad 10), aI cy 7776 (u.2))])) A) A) args s 0 0 A) (F0 m 2 ls []) := by
    intro x1 m_domOf m_ranOf   h
    obtain ⟨nn, h⟩ := h
    have key : ∀ (nn : Nat) (x1 : Int32) (m_domOf : Nat → Int32) (m_ranOf : Nat → Int32), lpW3 (wb_X8_layEnds_2 m_waved m_wave  Q) nn x1 m_domOf m_ranOf → ∀ (H : Heap) (locs : List Loc) (ls : Array Slot), va_P D vwCl [((ad 0), oX8 ad m_said m_waved m_places m_end m_joints m_netPlaces m_begin m_finish m_rounds m_sews), ((ad 5), aI cy 7776 m_wave), ((ad 9), aI cy 7776 m_domOf), ((ad 10), aI cy 7776 m_ranOf)] H → va_D A [((ad 0), oX8 ad m_said m_waved m_places m_end m_joints m_netPlaces m_begin m_finish m_rounds m_sews), ((ad 5), aI cy 7776 m_wave), ((ad 9), aI cy 7776 m_domOf), ((ad 10), aI cy 7776 m_ranOf)] → va_S A s.heap H locs → lv_has ls 2 [(0, .ref (ad 0)), (1, .int x1)] → W p l e { frames := 4, cells := 0, slots := 0, locals := 85 } s m args below meth c H locs 0 0 (MQ below ((fun A => va_Qv (fun (u : (Nat → Int32) × (Nat → Int32)) => ∃ (z0 : Nat → Int32) (z1 : Nat → Int32), u = (z0, z1) ∧ Q z0 z1) (zE D vwCl A (fun (u : (Nat → Int32) × (Nat → Int32)) => [((ad 0), oX8 ad m_said m_waved m_places m_end m_joints m_netPlaces m_begin m_finish m_rounds m_sews), ((ad 5), aI cy 7776 m_wave), ((ad 9), aI cy 7776 (u.1)), ((ad 10), aI cy 7776 (u.2))])) A) A) args s 0 0 A) (F0 m 2 ls []) := by
      intro nn
      induction nn with
      | zero => intro x1 m_domOf m_ranOf h; exact h.elim
      | succ nn hrc2 =>
        intro x1 m_domOf m_ranOf h H locs ls hP hD hS hl
        have h : wb_X8_layEnds_2 m_waved m_wave  Q (lpW3 (wb_X8_layEnds_2 m_waved m_wave  Q) nn) x1 m_domOf m_ranOf := h
        unfold wb_X8_layEnds_2 at h
        refine lv_iload_n hx hb dX8_layEnds_2 rfl (lv_at hl 1 rfl) ?_
        refine lv_aload_n hx hb dX8_layEnds_3 rfl (lv_at hl 0 rfl) ?_
        refine va_get (D := D) (ci := 7) (v := .int m_waved) (C := RX8) (T := TX8) (N := 35) hx hb hts iX8 hown hK hP 0 rfl rfl 6 (Nat.le_of_ble_eq_true rfl) (hts _ fl_X8_160) (fun _ h9 => h9) rfl dX8_layEnds_4 ?_
        refine lv_icmp_ge (tgt := 46) hx hb dX8_layEnds_7 (by decide) (fun c_9 => ?_) (fun c_9 => ?_)
        · have h := h.1 c_9
          exact z_vret (m_domOf, m_ranOf) hx hb hr hlocks ⟨m_domOf, m_ranOf, rfl, h⟩ hP hD hS dX8_layEnds_46
        · have h := h.2 c_9
          refine lv_aload_n hx hb dX8_layEnds_10 rfl (lv_at hl 0 rfl) ?_
          refine va_get (D := D) (ci := 7) (v := .ref (ad 9)) (C := RX8) (T := TX8) (N := 35) hx hb hts iX8 hown hK hP 0 rfl rfl 10 (Nat.le_of_ble_eq_true rfl) (hts _ fl_X8_35) (fun _ h9 => h9) rfl dX8_layEnds_11 ?_
          refine lv_iload_n hx hb dX8_layEnds_14 rfl (lv_at hl 1 rfl) ?_
          refine lv_aload_n hx hb dX8_layEnds_15 rfl (lv_at hl 0 rfl) ?_
          refine va_get (D := D) (ci := 7) (v := .ref (ad 5)) (C := RX8) (T := TX8) (N := 35) hx hb hts iX8 hown hK hP 0 rfl rfl 5 (Nat.le_of_ble_eq_true rfl) (hts _ fl_X8_23) (fun _ h9 => h9) rfl dX8_layEnds_16 ?_
          refine lv_iload_n hx hb dX8_layEnds_19 rfl (lv_at hl 1 rfl) ?_
          obtain ⟨hi_10, h⟩ := h
          refine va_iald hx hb hK hP 1 0 rfl rfl hi_10 dX8_layEnds_20 ?_
          refine zc_S0 (As := [.int (m_wave x1.toNatClampNeg)]) (rest := [.int x1, .ref (ad 9)]) hx hb hml hown hts hK hPW hA hl.1 hP hS ⟨Nat.zero_le _, Nat.zero_le _⟩ (c_X8_dom l D cy (sz := _) (x0 := (m_wave x1.toNatClampNeg)) (h := h)) k_X8_109 ⟨rfl, rfl, (Nat.le_of_ble_eq_true rfl), (Nat.le_of_ble_eq_true rfl)⟩ rfl rfl (Nat.le_of_ble_eq_true rfl) dX8_layEnds_21 (fun r_11 H locs h hP hS => ?_)
          obtain ⟨hi_12, h⟩ := h
          refine va_iast hx hb hK hP hD hS 2 0 rfl rfl hi_12 dX8_layEnds_24 (fun H locs hP hD hS => ?_)
          have hP : va_P D vwCl [((ad 0), oX8 ad m_said m_waved m_places m_end m_joints m_netPlaces m_begin m_finish m_rounds m_sews), ((ad 5), aI cy 7776 m_wave), ((ad 9), aI cy 7776 (upd m_domOf x1.toNatClampNeg r_11)), ((ad 10), aI cy 7776 m_ranOf)] H := hP
          have hD : va_D A [((ad 0), oX8 ad m_said m_waved m_places m_end m_joints m_netPlaces m_begin m_finish m_rounds m_sews), ((ad 5), aI cy 7776 m_wave), ((ad 9), aI cy 7776 (upd m_domOf x1.toNatClampNeg r_11)), ((ad 10), aI cy 7776 m_ranOf)] := hD
          refine lv_aload_n hx hb dX8_layEnds_25 rfl (lv_at hl 0 rfl) ?_
          refine va_get (D := D) (ci := 7) (v := .ref (ad 10)) (C := RX8) (T := TX8) (N := 35) hx hb hts iX8 hown hK hP 0 rfl rfl 11 (Nat.le_of_ble_eq_true rfl) (hts _ fl_X8_38) (fun _ h9 => h9) rfl dX8_layEnds_26 ?_
          refine lv_iload_n hx hb dX8_layEnds_29 rfl (lv_at hl 1 rfl) ?_
          refine lv_aload_n hx hb dX8_layEnds_30 rfl (lv_at hl 0 rfl) ?_
          refine va_get (D := D) (ci := 7) (v := .ref (ad 5)) (C := RX8) (T := TX8) (N := 35) hx hb hts iX8 hown hK hP 0 rfl rfl 5 (Nat.le_of_ble_eq_true rfl) (hts _ fl_X8_23) (fun _ h9 => h9) rfl dX8_layEnds_31 ?_
          refine lv_iload_n hx hb dX8_layEnds_34 rfl (lv_at hl 1 rfl) ?_
          obtain ⟨hi_13, h⟩ := h
          refine va_iald hx hb hK hP 1 0 rfl rfl hi_13 dX8_layEnds_35 ?_
          refine zc_S0 (As := [.int (m_wave x1.toNatClampNeg)]) (rest := [.int x1, .ref (ad 10)]) hx hb hml hown hts hK hPW hA hl.1 hP hS ⟨Nat.zero_le _, Nat.zero_le _⟩ (c_X8_ran l D cy (sz := _) (x0 := (m_wave x1.toNatClampNeg)) (h := h)) k_X8_140 ⟨rfl, rfl, (Nat.le_of_ble_eq_true rfl), (Nat.le_of_ble_eq_true rfl)⟩ rfl rfl (Nat.le_of_ble_eq_true rfl) dX8_layEnds_36 (fun r_14 H locs h hP hS => ?_)
          obtain ⟨hi_15, h⟩ := h
          refine va_iast hx hb hK hP hD hS 3 0 rfl rfl hi_15 dX8_layEnds_39 (fun H locs hP hD hS => ?_)
          have hP : va_P D vwCl [((ad 0), oX8 ad m_said m_waved m_places m_end m_joints m_netPlaces m_begin m_finish m_rounds m_sews), ((ad 5), aI cy 7776 m_wave), ((ad 9), aI cy 7776 (upd m_domOf x1.toNatClampNeg r_11)), ((ad 10), aI cy 7776 (upd m_ranOf x1.toNatClampNeg r_14))] H := hP
          have hD : va_D A [((ad 0), oX8 ad m_said m_waved m_places m_end m_joints m_netPlaces m_begin m_finish m_rounds m_sews), ((ad 5), aI cy 7776 m_wave), ((ad 9), aI cy 7776 (upd m_domOf x1.toNatClampNeg r_11)), ((ad 10), aI cy 7776 (upd m_ranOf x1.toNatClampNeg r_14))] := hD
          obtain ⟨x1_16, e_x1_16⟩ : ∃ y : Int32, y = x1 + (1 : Int32) := ⟨_, rfl⟩
          refine lv_iinc (v := x1_16) (lv' := [(1, .int x1_16), (0, .ref (ad 0))]) hx hb dX8_layEnds_40 hl (k := 1) rfl (by rw [e_x1_16]; rfl) (by decide) rfl (fun ls hl => ?_)
          have h := h x1_16 e_x1_16
          refine lv_goto (tgt := 2) hx hb dX8_layEnds_43 (by decide) ?_
          exact hrc2 x1_16 (upd m_domOf x1.toNatClampNeg r_11) (upd m_ranOf x1.toNatClampNeg r_14) h _ _ _ hP hD hS (lv_sub hl [1, 0] rfl)
    exact key nn x1 m_domOf m_ranOf h
  unfold wp_X8_layEnds at h
  refine lv_iconst (v := (0 : Int32)) hx hb dX8_layEnds_0 (by decide) ?_
  refine lv_istore_n (lv' := [(1, .int (0 : Int32)), (0, .ref (ad 0))]) hx hb dX8_layEnds_1 rfl hl (by decide) rfl (fun ls hl => ?_)
  exact hJ2 (0 : Int32) m_domOf m_ranOf   h _ _ _ hP hD hS (lv_sub hl [1, 0] rfl)
set_option maxHeartbeats 4000000 in
set_option maxRecDepth 100000 in
theorem c_X8_layMade (l : Launch) (D : va_G) (cy : Nat → ClassId) (ad : Nat → Nat) (sz : Nat) (m_said : Int32) (m_waved : Int32) (m_places : Int32) (m_end : Int32) (m_joints : Int32) (m_netPlaces : Int32) (m_begin : Int32) (m_finish : Int32) (m_rounds : Int32) (m_sews : Int32) (m_state : Nat → Int32) (m_wave : Nat → Int32) (m_isMade : Nat → Int32) (m_cameFrom : Nat → Int32) (m_cameBy : Nat → Int32) (x1 : Int32) {Q : Int32 → (Nat → Int32) → (Nat → Int32) → (Nat → Int32) → (Nat → Int32) → Prop} (h : wp_X8_layMade x1 m_waved m_state m_wave m_isMade m_cameFrom m_cameBy Q) : Met l yX8_layMade (wsU yX8_layMade cX8_layMade 4 none) { frames := 4, cells := 0, slots := 0, locals := 87 } (va_Pc [.ref (ad 0), .int x1] (zB D vwCl (tyU cy) [((ad 0), oX8 ad m_said m_waved m_places m_end m_joints m_netPlaces m_begin m_finish m_rounds m_sews), ((ad 1), aI cy 112 m_state), ((ad 5), aI cy 7776 m_wave), ((ad 6), aZ cy 7776 m_isMade), ((ad 7), aI cy 7776 m_cameFrom), ((ad 8), aI cy 7776 m_cameBy)] sz)) ((fun A => va_Qv (fun (u : Int32 × (Nat → Int32) × (Nat → Int32) × (Nat → Int32) × (Nat → Int32)) => ∃ (z0 : Int32) (z1 : Nat → Int32) (z2 : Nat → Int32) (z3 : Nat → Int32) (z4 : Nat → Int32), u = (z0, z1, z2, z3, z4) ∧ Q z0 z1 z2 z3 z4) (zE D vwCl A (fun (u : Int32 × (Nat → Int32) × (Nat → Int32) × (Nat → Int32) × (Nat → Int32)) => [((ad 0), oX8 ad m_said (u.1) m_places m_end m_joints m_netPlaces m_begin m_finish m_rounds m_sews), ((ad 1), aI cy 112 m_state), ((ad 5), aI cy 7776 (u.2.1)), ((ad 6), aZ cy 7776 (u.2.2.1)), ((ad 7), aI cy 7776 (u.2.2.2.1)), ((ad 8), aI cy 7776 (u.2.2.2.2))])) A) (va_A [((ad 0), oX8 ad m_said m_waved m_places m_end m_joints m_netPlaces m_begin m_finish m_rounds m_sews), ((ad 1), aI cy 112 m_state), ((ad 5), aI cy 7776 m_wave), ((ad 6), aZ cy 7776 m_isMade), ((ad 7), aI cy 7776 m_cameFrom), ((ad 8), aI cy 7776 m_cameBy)] sz)) 0 0 (va_A [((ad 0), oX8 ad m_said m_waved m_places m_end m_joints m_netPlaces m_begin m_finish m_rounds m_sews), ((ad 1), aI cy 112 m_state), ((ad 5), aI cy 7776 m_wave), ((ad 6), aZ cy 7776 m_isMade), ((ad 7), aI cy 7776 m_cameFrom), ((ad 8), aI cy 7776 m_cameBy)] sz) := by
  refine z_ofX (fun A => va_Qv (fun (u : Int32 × (Nat → Int32) × (Nat → Int32) × (Nat → Int32) × (Nat → Int32)) => ∃ (z0 : Int32) (z1 : Nat → Int32) (z2 : Nat → Int32) (z3 : Nat → Int32) (z4 : Nat → Int32), u = (z0, z1, z2, z3, z4) ∧ Q z0 z1 z2 z3 z4) (zE D vwCl A (fun (u : Int32 × (Nat → Int32) × (Nat → Int32) × (Nat → Int32) × (Nat → Int32)) => [((ad 0), oX8 ad m_said (u.1) m_places m_end m_joints m_netPlaces m_begin m_finish m_rounds m_sews), ((ad 1), aI cy 112 m_state), ((ad 5), aI cy 7776 (u.2.1)), ((ad 6), aZ cy 7776 (u.2.2.1)), ((ad 7), aI cy 7776 (u.2.2.2.1)), ((ad 8), aI cy 7776 (u.2.2.2.2))])) A) (by decide) (Nat.le_of_ble_eq_true rfl) (fun p e s m below meth c A ls hx hb hr hml hown hts hlocks hK hPW hA hP hD hS hl => ?_)
  have hl : lv_has ls 4 [(0, .ref (ad 0)), (1, .int x1)] := hl
  have hown : s.vm.findClass RX8 = some m.cls := hown
  generalize hArg : ([.ref (ad 0), .int x1] : List Value).toArray = args at hts ⊢
  have hJ66 : ∀ (x1 : Int32) (x2 : Int32) (x3 : Int32) (m_waved : Int32) (m_wave : Nat → Int32) (m_isMade : Nat → Int32) (m_cameFrom : Nat → Int32) (m_cameBy : Nat → Int32) (rc56 : Int32 → Int32 → (Nat → Int32) → (Nat → Int32) → (Nat → Int32) → (Nat → Int32) → Prop) (hrc56 : ∀ (x2 : Int32) (m_waved : Int32) (m_wave : Nat → Int32) (m_isMade : Nat → Int32) (m_cameFrom : Nat → Int32) (m_cameBy : Nat → Int32), rc56 x2 m_waved m_wave m_isMade m_cameFrom m_cameBy → ∀ (H : Heap) (locs : List Loc) (ls : Array Slot), va_P D vwCl [((ad 0), oX8 ad m_said m_waved m_places m_end m_joints m_netPlaces m_begin m_finish m_rounds m_sews), ((ad 1), aI cy 112 m_state), ((ad 5), aI cy 7776 m_wave), ((ad 6), aZ cy 7776 m_isMade), ((ad 7), aI cy 7776 m_cameFrom), ((ad 8), aI cy 7776 m_cameBy)] H → va_D A [((ad 0), oX8 ad m_said m_waved m_places m_end m_joints m_netPlaces m_begin m_finish m_rounds m_sews), ((ad 1), aI cy 112 m_state), ((ad 5), aI cy 7776 m_wave), ((ad 6), aZ cy 7776 m_isMade), ((ad 7), aI cy 7776 m_cameFrom), ((ad 8), aI cy 7776 m_cameBy)] → va_S A s.heap H locs → lv_has ls 4 [(0, .ref (ad 0)), (1, .int x1), (2, .int x2)] → W p l e { frames := 4, cells := 0, slots := 0, locals := 87 } s m args below meth c H locs 0 0 (MQ below ((fun A => va_Qv (fun (u : Int32 × (Nat → Int32) × (Nat → Int32) × (Nat → Int32) × (Nat → Int32)) => ∃ (z0 : Int32) (z1 : Nat → Int32) (z2 : Nat → Int32) (z3 : Nat → Int32) (z4 : Nat → Int32), u = (z0, z1, z2, z3, z4) ∧ Q z0 z1 z2 z3 z4) (zE D vwCl A (fun (u : Int32 × (Nat → Int32) × (Nat → Int32) × (Nat → Int32) × (Nat → Int32)) => [((ad 0), oX8 ad m_said (u.1) m_places m_end m_joints m_netPlaces m_begin m_finish m_rounds m_sews), ((ad 1), aI cy 112 m_state), ((ad 5), aI cy 7776 (u.2.1)), ((ad 6), aZ cy 7776 (u.2.2.1)), ((ad 7), aI cy 7776 (u.2.2.2.1)), ((ad 8), aI cy 7776 (u.2.2.2.2))])) A) A) args s 0 0 A) (F0 m 56 ls [])), wp_X8_layMade_66 m_state x1 x2 rc56 Q x3 m_waved m_wave m_isMade m_cameFrom m_cameBy → ∀ (H : Heap) (locs : List Loc) (ls : Array Slot), va_P D vwCl [((ad 0), oX8 ad m_said m_waved m_places m_end m_joints m_netPlaces m_begin m_finish m_rounds m_sews), ((ad 1), aI cy 112 m_state), ((ad 5), aI cy 7776 m_wave), ((ad 6), aZ cy 7776 m_isMade), ((ad 7), aI cy 7776 m_cameFrom), ((ad 8), aI cy 7776 m_cameBy)] H → va_D A [((ad 0), oX8 ad m_said m_waved m_places m_end m_joints m_netPlaces m_begin m_finish m_rounds m_sews), ((ad 1), aI cy 112 m_state), ((ad 5), aI cy 7776 m_wave), ((ad 6), aZ cy 7776 m_isMade), ((ad 7), aI cy 7776 m_cameFrom), ((ad 8), aI cy 7776 m_cameBy)] → va_S A s.heap H locs → lv_has ls 4 [(0, .ref (ad 0)), (1, .int x1), (2, .int x2), (3, .int x3)] → W p l e { frames := 4, cells := 0, slots := 0, locals := 87 } s m args below meth c H locs 0 0 (MQ below ((fun A => va_Qv (fun (u : Int32 × (Nat → Int32) × (Nat → Int32) × (Nat → Int32) × (Nat → Int32)) => ∃ (z0 : Int32) (z1 : Nat → Int32) (z2 : Nat → Int32) (z3 : Nat → Int32) (z4 : Nat → Int32), u = (z0, z1, z2, z3, z4) ∧ Q z0 z1 z2 z3 z4) (zE D vwCl A (fun (u : Int32 × (Nat → Int32) × (Nat → Int32) × (Nat → Int32) × (Nat → Int32)) => [((ad 0), oX8 ad m_said (u.1) m_places m_end m_joints m_netPlaces m_begin m_finish m_rounds m_sews), ((ad 1), aI cy 112 m_state), ((ad 5), aI cy 7776 (u.2.1)), ((ad 6), aZ cy 7776 (u.2.2.1)), ((ad 7), aI cy 7776 (u.2.2.2.1)), ((ad 8), aI cy 7776 (u.2.2.2.2))])) A) A) args s 0 0 A) (F0 m 66 ls []) := by
    intro x1 x2 x3 m_waved m_wave m_isMade m_cameFrom m_cameBy rc56 hrc56  h
    obtain ⟨nn, h⟩ := h
    have key : ∀ (nn : Nat) (x3 : Int32) (m_waved : Int32) (m_wave : Nat → Int32) (m_isMade : Nat → Int32) (m_cameFrom : Nat → Int32) (m_cameBy : Nat → Int32), lpW6 (wb_X8_layMade_66 m_state x1 x2 rc56 Q) nn x3 m_waved m_wave m_isMade m_cameFrom m_cameBy → ∀ (H : Heap) (locs : List Loc) (ls : Array Slot), va_P D vwCl [((ad 0), oX8 ad m_said m_waved m_places m_end m_joints m_netPlaces m_begin m_finish m_rounds m_sews), ((ad 1), aI cy 112 m_state), ((ad 5), aI cy 7776 m_wave), ((ad 6), aZ cy 7776 m_isMade), ((ad 7), aI cy 7776 m_cameFrom), ((ad 8), aI cy 7776 m_cameBy)] H → va_D A [((ad 0), oX8 ad m_said m_waved m_places m_end m_joints m_netPlaces m_begin m_finish m_rounds m_sews), ((ad 1), aI cy 112 m_state), ((ad 5), aI cy 7776 m_wave), ((ad 6), aZ cy 7776 m_isMade), ((ad 7), aI cy 7776 m_cameFrom), ((ad 8), aI cy 7776 m_cameBy)] → va_S A s.heap H locs → lv_has ls 4 [(0, .ref (ad 0)), (1, .int x1), (2, .int x2), (3, .int x3)] → W p l e { frames := 4, cells := 0, slots := 0, locals := 87 } s m args below meth c H locs 0 0 (MQ below ((fun A => va_Qv (fun (u : Int32 × (Nat → Int32) × (Nat → Int32) × (Nat → Int32) × (Nat → Int32)) => ∃ (z0 : Int32) (z1 : Nat → Int32) (z2 : Nat → Int32) (z3 : Nat → Int32) (z4 : Nat → Int32), u = (z0, z1, z2, z3, z4) ∧ Q z0 z1 z2 z3 z4) (zE D vwCl A (fun (u : Int32 × (Nat → Int32) × (Nat → Int32) × (Nat → Int32) × (Nat → Int32)) => [((ad 0), oX8 ad m_said (u.1) m_places m_end m_joints m_netPlaces m_begin m_finish m_rounds m_sews), ((ad 1), aI cy 112 m_state), ((ad 5), aI cy 7776 (u.2.1)), ((ad 6), aZ cy 7776 (u.2.2.1)), ((ad 7), aI cy 7776 (u.2.2.2.1)), ((ad 8), aI cy 7776 (u.2.2.2.2))])) A) A) args s 0 0 A) (F0 m 66 ls []) := by
      intro nn
      induction nn with
      | zero => intro x3 m_waved m_wave m_isMade m_cameFrom m_cameBy h; exact h.elim
      | succ nn hrc66 =>
        intro x3 m_waved m_wave m_isMade m_cameFrom m_cameBy h H locs ls hP hD hS hl
        have h : wb_X8_layMade_66 m_state x1 x2 rc56 Q (lpW6 (wb_X8_layMade_66 m_state x1 x2 rc56 Q) nn) x3 m_waved m_wave m_isMade m_cameFrom m_cameBy := h
        unfold wb_X8_layMade_66 at h
        refine lv_iload_n hx hb dX8_layMade_66 rfl (lv_at hl 3 rfl) ?_
        refine lv_iconst (v := (2 : Int32)) hx hb dX8_layMade_67 (by decide) ?_
        refine lv_iload_n hx hb dX8_layMade_68 rfl (lv_at hl 1 rfl) ?_
        refine lv_imul hx hb dX8_layMade_69 ?_
        refine lv_icmp_ge (tgt := 104) hx hb dX8_layMade_70 (by decide) (fun c_17 => ?_) (fun c_17 => ?_)
        · have h := h.1 c_17
          obtain ⟨x2_18, e_x2_18⟩ : ∃ y : Int32, y = x2 + (1 : Int32) := ⟨_, rfl⟩
          refine lv_iinc (v := x2_18) (lv' := [(2, .int x2_18), (0, .ref (ad 0)), (1, .int x1), (3, .int x3)]) hx hb dX8_layMade_104 hl (k := 2) rfl (by rw [e_x2_18]; rfl) (by decide) rfl (fun ls hl => ?_)
          have h := h x2_18 e_x2_18
          refine lv_goto (tgt := 56) hx hb dX8_layMade_107 (by decide) ?_
          exact hrc56 x2_18 m_waved m_wave m_isMade m_cameFrom m_cameBy h _ _ _ hP hD hS (lv_sub hl [1, 2, 0] rfl)
        · have h := h.2 c_17
          refine lv_aload_n hx hb dX8_layMade_73 rfl (lv_at hl 0 rfl) ?_
          refine lv_aload_n hx hb dX8_layMade_74 rfl (lv_at hl 0 rfl) ?_
          refine va_get (D := D) (ci := 7) (v := .ref (ad 5)) (C := RX8) (T := TX8) (N := 35) hx hb hts iX8 hown hK hP 0 rfl rfl 5 (Nat.le_of_ble_eq_true rfl) (hts _ fl_X8_23) (fun _ h9 => h9) rfl dX8_layMade_75 ?_
          refine lv_iload_n hx hb dX8_layMade_78 rfl (lv_at hl 2 rfl) ?_
          obtain ⟨hi_19, h⟩ := h
          refine va_iald hx hb hK hP 2 0 rfl rfl hi_19 dX8_layMade_79 ?_
          refine lv_aload_n hx hb dX8_layMade_80 rfl (lv_at hl 0 rfl) ?_
          refine lv_iload_n hx hb dX8_layMade_81 rfl (lv_at hl 3 rfl) ?_
          refine zc_Vi (As := [.int x3]) (rest := [.int (m_wave x2.toNatClampNeg), .ref (ad 0)]) (wc := [((ad 0), oX8 ad m_said m_waved m_places m_end m_joints m_netPlaces m_begin m_finish m_rounds m_sews), ((ad 1), aI cy 112 m_state)]) (wr := [((ad 5), aI cy 7776 m_wave), ((ad 6), aZ cy 7776 m_isMade), ((ad 7), aI cy 7776 m_cameFrom), ((ad 8), aI cy 7776 m_cameBy)]) hx hb hml hown hts hK hPW hA hl.1 hP hD hS ⟨Nat.zero_le _, Nat.zero_le _⟩ [0, 1] [2, 3, 4, 5] rfl rfl (by decide) (c_X8_mapOf l D cy (sz := _) (x1 := x3) (ad := ad) (m_said := m_said) (m_waved := m_waved) (m_places := m_places) (m_end := m_end) (m_joints := m_joints) (m_netPlaces := m_netPlaces) (m_begin := m_begin) (m_finish := m_finish) (m_rounds := m_rounds) (m_sews := m_sews) (m_state := m_state) (h := h)) k_X8_157 ⟨rfl, rfl, (Nat.le_of_ble_eq_true rfl), (Nat.le_of_ble_eq_true rfl)⟩ rfl rfl rfl rfl (Nat.le_of_ble_eq_true rfl) dX8_layMade_82 (fun r_20 _ H locs h hP hD hS => ?_)
          have hP : va_P D vwCl [((ad 5), aI cy 7776 m_wave), ((ad 6), aZ cy 7776 m_isMade), ((ad 7), aI cy 7776 m_cameFrom), ((ad 8), aI cy 7776 m_cameBy), ((ad 0), oX8 ad m_said m_waved m_places m_end m_joints m_netPlaces m_begin m_finish m_rounds m_sews), ((ad 1), aI cy 112 m_state)] H := hP
          have hD : va_D A [((ad 5), aI cy 7776 m_wave), ((ad 6), aZ cy 7776 m_isMade), ((ad 7), aI cy 7776 m_cameFrom), ((ad 8), aI cy 7776 m_cameBy), ((ad 0), oX8 ad m_said m_waved m_places m_end m_joints m_netPlaces m_begin m_finish m_rounds m_sews), ((ad 1), aI cy 112 m_state)] := hD
          refine zc_S0 (As := [.int (m_wave x2.toNatClampNeg), .int r_20]) (rest := [.ref (ad 0)]) hx hb hml hown hts hK hPW hA hl.1 hP hS ⟨Nat.zero_le _, Nat.zero_le _⟩ (c_X8_then l D cy (sz := _) (x0 := (m_wave x2.toNatClampNeg)) (x1 := r_20) (h := h)) k_X8_122 ⟨rfl, rfl, (Nat.le_of_ble_eq_true rfl), (Nat.le_of_ble_eq_true rfl)⟩ rfl rfl (Nat.le_of_ble_eq_true rfl) dX8_layMade_85 (fun r_21 H locs h hP hS => ?_)
          refine lv_aload_n hx hb dX8_layMade_88 rfl (lv_at hl 0 rfl) ?_
          refine va_get (D := D) (ci := 7) (v := .ref (ad 5)) (C := RX8) (T := TX8) (N := 35) hx hb hts iX8 hown hK hP 4 rfl rfl 5 (Nat.le_of_ble_eq_true rfl) (hts _ fl_X8_23) (fun _ h9 => h9) rfl dX8_layMade_89 ?_
          refine lv_iload_n hx hb dX8_layMade_92 rfl (lv_at hl 2 rfl) ?_
          obtain ⟨hi_22, h⟩ := h
          refine va_iald hx hb hK hP 0 0 rfl rfl hi_22 dX8_layMade_93 ?_
          refine lv_iload_n hx hb dX8_layMade_94 rfl (lv_at hl 3 rfl) ?_
          refine zc_Vv (As := [.int r_21, .int (m_wave x2.toNatClampNeg), .int x3]) (rest := []) (wc := [((ad 0), oX8 ad m_said m_waved m_places m_end m_joints m_netPlaces m_begin m_finish m_rounds m_sews), ((ad 5), aI cy 7776 m_wave), ((ad 6), aZ cy 7776 m_isMade), ((ad 7), aI cy 7776 m_cameFrom), ((ad 8), aI cy 7776 m_cameBy)]) (wr := [((ad 1), aI cy 112 m_state)]) hx hb hml hown hts hK hPW hA hl.1 hP hD hS ⟨Nat.zero_le _, Nat.zero_le _⟩ [4, 0, 1, 2, 3] [5] rfl rfl (by decide) (c_X8_meetMap l D cy (sz := _) (x1 := r_21) (x2 := (m_wave x2.toNatClampNeg)) (x3 := x3) (ad := ad) (m_said := m_said) (m_waved := m_waved) (m_places := m_places) (m_end := m_end) (m_joints := m_joints) (m_netPlaces := m_netPlaces) (m_begin := m_begin) (m_finish := m_finish) (m_rounds := m_rounds) (m_sews := m_sews) (m_wave := m_wave) (m_isMade := m_isMade) (m_cameFrom := m_cameFrom) (m_cameBy := m_cameBy) (h := h)) k_X8_163 ⟨rfl, rfl, (Nat.le_of_ble_eq_true rfl), (Nat.le_of_ble_eq_true rfl)⟩ rfl rfl rfl rfl (Nat.le_of_ble_eq_true rfl) dX8_layMade_95 (fun u_23 H locs h hP hD hS => ?_)
          obtain ⟨m_waved_23, m_wave_23, m_isMade_23, m_cameFrom_23, m_cameBy_23, rfl, h⟩ := h
          have hP : va_P D vwCl [((ad 1), aI cy 112 m_state), ((ad 0), oX8 ad m_said m_waved_23 m_places m_end m_joints m_netPlaces m_begin m_finish m_rounds m_sews), ((ad 5), aI cy 7776 m_wave_23), ((ad 6), aZ cy 7776 m_isMade_23), ((ad 7), aI cy 7776 m_cameFrom_23), ((ad 8), aI cy 7776 m_cameBy_23)] H := hP
          have hD : va_D A [((ad 1), aI cy 112 m_state), ((ad 0), oX8 ad m_said m_waved_23 m_places m_end m_joints m_netPlaces m_begin m_finish m_rounds m_sews), ((ad 5), aI cy 7776 m_wave_23), ((ad 6), aZ cy 7776 m_isMade_23), ((ad 7), aI cy 7776 m_cameFrom_23), ((ad 8), aI cy 7776 m_cameBy_23)] := hD
          obtain ⟨x3_24, e_x3_24⟩ : ∃ y : Int32, y = x3 + (1 : Int32) := ⟨_, rfl⟩
          refine lv_iinc (v := x3_24) (lv' := [(3, .int x3_24), (0, .ref (ad 0)), (1, .int x1), (2, .int x2)]) hx hb dX8_layMade_98 hl (k := 3) rfl (by rw [e_x3_24]; rfl) (by decide) rfl (fun ls hl => ?_)
          have h := h x3_24 e_x3_24
          refine lv_goto (tgt := 66) hx hb dX8_layMade_101 (by decide) ?_
          exact hrc66 x3_24 m_waved_23 m_wave_23 m_isMade_23 m_cameFrom_23 m_cameBy_23 h _ _ _ (hP.sub [1, 0, 2, 3, 4, 5] rfl) (hD.sub [1, 0, 2, 3, 4, 5] (by decide) rfl) hS (lv_sub hl [1, 2, 3, 0] rfl)
    exact key nn x3 m_waved m_wave m_isMade m_cameFrom m_cameBy h
  have hJ56 : ∀ (x1 : Int32) (x2 : Int32) (m_waved : Int32) (m_wave : Nat → Int32) (m_isMade : Nat → Int32) (m_cameFrom : Nat → Int32) (m_cameBy : Nat → Int32), wp_X8_layMade_56 m_state x1  Q x2 m_waved m_wave m_isMade m_cameFrom m_cameBy → ∀ (H : Heap) (locs : List Loc) (ls : Array Slot), va_P D vwCl [((ad 0), oX8 ad m_said m_waved m_places m_end m_joints m_netPlaces m_begin m_finish m_rounds m_sews), ((ad 1), aI cy 112 m_state), ((ad 5), aI cy 7776 m_wave), ((ad 6), aZ cy 7776 m_isMade), ((ad 7), aI cy 7776 m_cameFrom), ((ad 8), aI cy 7776 m_cameBy)] H → va_D A [((ad 0), oX8 ad m_said m_waved m_places m_end m_joints m_netPlaces m_begin m_finish m_rounds m_sews), ((ad 1), aI cy 112 m_state), ((ad 5), aI cy 7776 m_wave), ((ad 6), aZ cy 7776 m_isMade), ((ad 7), aI cy 7776 m_cameFrom), ((ad 8), aI cy 7776 m_cameBy)] → va_S A s.heap H locs → lv_has ls 4 [(0, .ref (ad 0)), (1, .int x1), (2, .int x2)] → W p l e { frames := 4, cells := 0, slots := 0, locals := 87 } s m args below meth c H locs 0 0 (MQ below ((fun A => va_Qv (fun (u : Int32 × (Nat → Int32) × (Nat → Int32) × (Nat → Int32) × (Nat → Int32)) => ∃ (z0 : Int32) (z1 : Nat → Int32) (z2 : Nat → Int32) (z3 : Nat → Int32) (z4 : Nat → Int32), u = (z0, z1, z2, z3, z4) ∧ Q z0 z1 z2 z3 z4) (zE D vwCl A (fun (u : Int32 × (Nat → Int32) × (Nat → Int32) × (Nat → Int32) × (Nat → Int32)) => [((ad 0), oX8 ad m_said (u.1) m_places m_end m_joints m_netPlaces m_begin m_finish m_rounds m_sews), ((ad 1), aI cy 112 m_state), ((ad 5), aI cy 7776 (u.2.1)), ((ad 6), aZ cy 7776 (u.2.2.1)), ((ad 7), aI cy 7776 (u.2.2.2.1)), ((ad 8), aI cy 7776 (u.2.2.2.2))])) A) A) args s 0 0 A) (F0 m 56 ls []) := by
    intro x1 x2 m_waved m_wave m_isMade m_cameFrom m_cameBy   h
    obtain ⟨nn, h⟩ := h
    have key : ∀ (nn : Nat) (x2 : Int32) (m_waved : Int32) (m_wave : Nat → Int32) (m_isMade : Nat → Int32) (m_cameFrom : Nat → Int32) (m_cameBy : Nat → Int32), lpW6 (wb_X8_layMade_56 m_state x1  Q) nn x2 m_waved m_wave m_isMade m_cameFrom m_cameBy → ∀ (H : Heap) (locs : List Loc) (ls : Array Slot), va_P D vwCl [((ad 0), oX8 ad m_said m_waved m_places m_end m_joints m_netPlaces m_begin m_finish m_rounds m_sews), ((ad 1), aI cy 112 m_state), ((ad 5), aI cy 7776 m_wave), ((ad 6), aZ cy 7776 m_isMade), ((ad 7), aI cy 7776 m_cameFrom), ((ad 8), aI cy 7776 m_cameBy)] H → va_D A [((ad 0), oX8 ad m_said m_waved m_places m_end m_joints m_netPlaces m_begin m_finish m_rounds m_sews), ((ad 1), aI cy 112 m_state), ((ad 5), aI cy 7776 m_wave), ((ad 6), aZ cy 7776 m_isMade), ((ad 7), aI cy 7776 m_cameFrom), ((ad 8), aI cy 7776 m_cameBy)] → va_S A s.heap H locs → lv_has ls 4 [(0, .ref (ad 0)), (1, .int x1), (2, .int x2)] → W p l e { frames := 4, cells := 0, slots := 0, locals := 87 } s m args below meth c H locs 0 0 (MQ below ((fun A => va_Qv (fun (u : Int32 × (Nat → Int32) × (Nat → Int32) × (Nat → Int32) × (Nat → Int32)) => ∃ (z0 : Int32) (z1 : Nat → Int32) (z2 : Nat → Int32) (z3 : Nat → Int32) (z4 : Nat → Int32), u = (z0, z1, z2, z3, z4) ∧ Q z0 z1 z2 z3 z4) (zE D vwCl A (fun (u : Int32 × (Nat → Int32) × (Nat → Int32) × (Nat → Int32) × (Nat → Int32)) => [((ad 0), oX8 ad m_said (u.1) m_places m_end m_joints m_netPlaces m_begin m_finish m_rounds m_sews), ((ad 1), aI cy 112 m_state), ((ad 5), aI cy 7776 (u.2.1)), ((ad 6), aZ cy 7776 (u.2.2.1)), ((ad 7), aI cy 7776 (u.2.2.2.1)), ((ad 8), aI cy 7776 (u.2.2.2.2))])) A) A) args s 0 0 A) (F0 m 56 ls []) := by
      intro nn
      induction nn with
      | zero => intro x2 m_waved m_wave m_isMade m_cameFrom m_cameBy h; exact h.elim
      | succ nn hrc56 =>
        intro x2 m_waved m_wave m_isMade m_cameFrom m_cameBy h H locs ls hP hD hS hl
        have h : wb_X8_layMade_56 m_state x1  Q (lpW6 (wb_X8_layMade_56 m_state x1  Q) nn) x2 m_waved m_wave m_isMade m_cameFrom m_cameBy := h
        unfold wb_X8_layMade_56 at h
        refine lv_iload_n hx hb dX8_layMade_56 rfl (lv_at hl 2 rfl) ?_
        refine lv_aload_n hx hb dX8_layMade_57 rfl (lv_at hl 0 rfl) ?_
        refine va_get (D := D) (ci := 7) (v := .int m_waved) (C := RX8) (T := TX8) (N := 35) hx hb hts iX8 hown hK hP 0 rfl rfl 6 (Nat.le_of_ble_eq_true rfl) (hts _ fl_X8_160) (fun _ h9 => h9) rfl dX8_layMade_58 ?_
        refine lv_icmp_ge (tgt := 110) hx hb dX8_layMade_61 (by decide) (fun c_25 => ?_) (fun c_25 => ?_)
        · have h := h.1 c_25
          exact z_vret (m_waved, m_wave, m_isMade, m_cameFrom, m_cameBy) hx hb hr hlocks ⟨m_waved, m_wave, m_isMade, m_cameFrom, m_cameBy, rfl, h⟩ hP hD hS dX8_layMade_110
        · have h := h.2 c_25
          refine lv_iconst (v := (0 : Int32)) hx hb dX8_layMade_64 (by decide) ?_
          refine lv_istore_n (lv' := [(3, .int (0 : Int32)), (0, .ref (ad 0)), (1, .int x1), (2, .int x2)]) hx hb dX8_layMade_65 rfl hl (by decide) rfl (fun ls hl => ?_)
          exact hJ66 x1 x2 (0 : Int32) m_waved m_wave m_isMade m_cameFrom m_cameBy _ hrc56  h _ _ _ hP hD hS (lv_sub hl [1, 2, 3, 0] rfl)
    exact key nn x2 m_waved m_wave m_isMade m_cameFrom m_cameBy h
  have hJ29 : ∀ (x1 : Int32) (x2 : Int32) (m_waved : Int32) (m_wave : Nat → Int32) (m_isMade : Nat → Int32) (m_cameFrom : Nat → Int32) (m_cameBy : Nat → Int32), wp_X8_layMade_29 m_state x1  Q x2 m_waved m_wave m_isMade m_cameFrom m_cameBy → ∀ (H : Heap) (locs : List Loc) (ls : Array Slot), va_P D vwCl [((ad 0), oX8 ad m_said m_waved m_places m_end m_joints m_netPlaces m_begin m_finish m_rounds m_sews), ((ad 1), aI cy 112 m_state), ((ad 5), aI cy 7776 m_wave), ((ad 6), aZ cy 7776 m_isMade), ((ad 7), aI cy 7776 m_cameFrom), ((ad 8), aI cy 7776 m_cameBy)] H → va_D A [((ad 0), oX8 ad m_said m_waved m_places m_end m_joints m_netPlaces m_begin m_finish m_rounds m_sews), ((ad 1), aI cy 112 m_state), ((ad 5), aI cy 7776 m_wave), ((ad 6), aZ cy 7776 m_isMade), ((ad 7), aI cy 7776 m_cameFrom), ((ad 8), aI cy 7776 m_cameBy)] → va_S A s.heap H locs → lv_has ls 4 [(0, .ref (ad 0)), (1, .int x1), (2, .int x2)] → W p l e { frames := 4, cells := 0, slots := 0, locals := 87 } s m args below meth c H locs 0 0 (MQ below ((fun A => va_Qv (fun (u : Int32 × (Nat → Int32) × (Nat → Int32) × (Nat → Int32) × (Nat → Int32)) => ∃ (z0 : Int32) (z1 : Nat → Int32) (z2 : Nat → Int32) (z3 : Nat → Int32) (z4 : Nat → Int32), u = (z0, z1, z2, z3, z4) ∧ Q z0 z1 z2 z3 z4) (zE D vwCl A (fun (u : Int32 × (Nat → Int32) × (Nat → Int32) × (Nat → Int32) × (Nat → Int32)) => [((ad 0), oX8 ad m_said (u.1) m_places m_end m_joints m_netPlaces m_begin m_finish m_rounds m_sews), ((ad 1), aI cy 112 m_state), ((ad 5), aI cy 7776 (u.2.1)), ((ad 6), aZ cy 7776 (u.2.2.1)), ((ad 7), aI cy 7776 (u.2.2.2.1)), ((ad 8), aI cy 7776 (u.2.2.2.2))])) A) A) args s 0 0 A) (F0 m 29 ls []) := by
    intro x1 x2 m_waved m_wave m_isMade m_cameFrom m_cameBy   h
    obtain ⟨nn, h⟩ := h
    have key : ∀ (nn : Nat) (x2 : Int32) (m_waved : Int32) (m_wave : Nat → Int32) (m_isMade : Nat → Int32) (m_cameFrom : Nat → Int32) (m_cameBy : Nat → Int32), lpW6 (wb_X8_layMade_29 m_state x1  Q) nn x2 m_waved m_wave m_isMade m_cameFrom m_cameBy → ∀ (H : Heap) (locs : List Loc) (ls : Array Slot), va_P D vwCl [((ad 0), oX8 ad m_said m_waved m_places m_end m_joints m_netPlaces m_begin m_finish m_rounds m_sews), ((ad 1), aI cy 112 m_state), ((ad 5), aI cy 7776 m_wave), ((ad 6), aZ cy 7776 m_isMade), ((ad 7), aI cy 7776 m_cameFrom), ((ad 8), aI cy 7776 m_cameBy)] H → va_D A [((ad 0), oX8 ad m_said m_waved m_places m_end m_joints m_netPlaces m_begin m_finish m_rounds m_sews), ((ad 1), aI cy 112 m_state), ((ad 5), aI cy 7776 m_wave), ((ad 6), aZ cy 7776 m_isMade), ((ad 7), aI cy 7776 m_cameFrom), ((ad 8), aI cy 7776 m_cameBy)] → va_S A s.heap H locs → lv_has ls 4 [(0, .ref (ad 0)), (1, .int x1), (2, .int x2)] → W p l e { frames := 4, cells := 0, slots := 0, locals := 87 } s m args below meth c H locs 0 0 (MQ below ((fun A => va_Qv (fun (u : Int32 × (Nat → Int32) × (Nat → Int32) × (Nat → Int32) × (Nat → Int32)) => ∃ (z0 : Int32) (z1 : Nat → Int32) (z2 : Nat → Int32) (z3 : Nat → Int32) (z4 : Nat → Int32), u = (z0, z1, z2, z3, z4) ∧ Q z0 z1 z2 z3 z4) (zE D vwCl A (fun (u : Int32 × (Nat → Int32) × (Nat → Int32) × (Nat → Int32) × (Nat → Int32)) => [((ad 0), oX8 ad m_said (u.1) m_places m_end m_joints m_netPlaces m_begin m_finish m_rounds m_sews), ((ad 1), aI cy 112 m_state), ((ad 5), aI cy 7776 (u.2.1)), ((ad 6), aZ cy 7776 (u.2.2.1)), ((ad 7), aI cy 7776 (u.2.2.2.1)), ((ad 8), aI cy 7776 (u.2.2.2.2))])) A) A) args s 0 0 A) (F0 m 29 ls []) := by
      intro nn
      induction nn with
      | zero => intro x2 m_waved m_wave m_isMade m_cameFrom m_cameBy h; exact h.elim
      | succ nn hrc29 =>
        intro x2 m_waved m_wave m_isMade m_cameFrom m_cameBy h H locs ls hP hD hS hl
        have h : wb_X8_layMade_29 m_state x1  Q (lpW6 (wb_X8_layMade_29 m_state x1  Q) nn) x2 m_waved m_wave m_isMade m_cameFrom m_cameBy := h
        unfold wb_X8_layMade_29 at h
        refine lv_iload_n hx hb dX8_layMade_29 rfl (lv_at hl 2 rfl) ?_
        refine lv_iconst (v := (2 : Int32)) hx hb dX8_layMade_30 (by decide) ?_
        refine lv_iload_n hx hb dX8_layMade_31 rfl (lv_at hl 1 rfl) ?_
        refine lv_imul hx hb dX8_layMade_32 ?_
        refine lv_icmp_ge (tgt := 54) hx hb dX8_layMade_33 (by decide) (fun c_26 => ?_) (fun c_26 => ?_)
        · have h := h.1 c_26
          refine lv_iconst (v := (0 : Int32)) hx hb dX8_layMade_54 (by decide) ?_
          refine lv_istore_n (lv' := [(2, .int (0 : Int32)), (0, .ref (ad 0)), (1, .int x1)]) hx hb dX8_layMade_55 rfl hl (by decide) rfl (fun ls hl => ?_)
          exact hJ56 x1 (0 : Int32) m_waved m_wave m_isMade m_cameFrom m_cameBy   h _ _ _ hP hD hS (lv_sub hl [1, 2, 0] rfl)
        · have h := h.2 c_26
          refine lv_aload_n hx hb dX8_layMade_36 rfl (lv_at hl 0 rfl) ?_
          refine lv_aload_n hx hb dX8_layMade_37 rfl (lv_at hl 0 rfl) ?_
          refine lv_iload_n hx hb dX8_layMade_38 rfl (lv_at hl 2 rfl) ?_
          refine zc_Vi (As := [.int x2]) (rest := [.ref (ad 0)]) (wc := [((ad 0), oX8 ad m_said m_waved m_places m_end m_joints m_netPlaces m_begin m_finish m_rounds m_sews), ((ad 1), aI cy 112 m_state)]) (wr := [((ad 5), aI cy 7776 m_wave), ((ad 6), aZ cy 7776 m_isMade), ((ad 7), aI cy 7776 m_cameFrom), ((ad 8), aI cy 7776 m_cameBy)]) hx hb hml hown hts hK hPW hA hl.1 hP hD hS ⟨Nat.zero_le _, Nat.zero_le _⟩ [0, 1] [2, 3, 4, 5] rfl rfl (by decide) (c_X8_mapOf l D cy (sz := _) (x1 := x2) (ad := ad) (m_said := m_said) (m_waved := m_waved) (m_places := m_places) (m_end := m_end) (m_joints := m_joints) (m_netPlaces := m_netPlaces) (m_begin := m_begin) (m_finish := m_finish) (m_rounds := m_rounds) (m_sews := m_sews) (m_state := m_state) (h := h)) k_X8_157 ⟨rfl, rfl, (Nat.le_of_ble_eq_true rfl), (Nat.le_of_ble_eq_true rfl)⟩ rfl rfl rfl rfl (Nat.le_of_ble_eq_true rfl) dX8_layMade_39 (fun r_27 _ H locs h hP hD hS => ?_)
          have hP : va_P D vwCl [((ad 5), aI cy 7776 m_wave), ((ad 6), aZ cy 7776 m_isMade), ((ad 7), aI cy 7776 m_cameFrom), ((ad 8), aI cy 7776 m_cameBy), ((ad 0), oX8 ad m_said m_waved m_places m_end m_joints m_netPlaces m_begin m_finish m_rounds m_sews), ((ad 1), aI cy 112 m_state)] H := hP
          have hD : va_D A [((ad 5), aI cy 7776 m_wave), ((ad 6), aZ cy 7776 m_isMade), ((ad 7), aI cy 7776 m_cameFrom), ((ad 8), aI cy 7776 m_cameBy), ((ad 0), oX8 ad m_said m_waved m_places m_end m_joints m_netPlaces m_begin m_finish m_rounds m_sews), ((ad 1), aI cy 112 m_state)] := hD
          refine lv_bipush (v := (-6 : Int32)) hx hb dX8_layMade_42 (by decide) ?_
          refine lv_iload_n hx hb dX8_layMade_44 rfl (lv_at hl 2 rfl) ?_
          refine zc_Vv (As := [.int r_27, .int (-6 : Int32), .int x2]) (rest := []) (wc := [((ad 0), oX8 ad m_said m_waved m_places m_end m_joints m_netPlaces m_begin m_finish m_rounds m_sews), ((ad 5), aI cy 7776 m_wave), ((ad 6), aZ cy 7776 m_isMade), ((ad 7), aI cy 7776 m_cameFrom), ((ad 8), aI cy 7776 m_cameBy)]) (wr := [((ad 1), aI cy 112 m_state)]) hx hb hml hown hts hK hPW hA hl.1 hP hD hS ⟨Nat.zero_le _, Nat.zero_le _⟩ [4, 0, 1, 2, 3] [5] rfl rfl (by decide) (c_X8_meetMap l D cy (sz := _) (x1 := r_27) (x2 := (-6 : Int32)) (x3 := x2) (ad := ad) (m_said := m_said) (m_waved := m_waved) (m_places := m_places) (m_end := m_end) (m_joints := m_joints) (m_netPlaces := m_netPlaces) (m_begin := m_begin) (m_finish := m_finish) (m_rounds := m_rounds) (m_sews := m_sews) (m_wave := m_wave) (m_isMade := m_isMade) (m_cameFrom := m_cameFrom) (m_cameBy := m_cameBy) (h := h)) k_X8_163 ⟨rfl, rfl, (Nat.le_of_ble_eq_true rfl), (Nat.le_of_ble_eq_true rfl)⟩ rfl rfl rfl rfl (Nat.le_of_ble_eq_true rfl) dX8_layMade_45 (fun u_28 H locs h hP hD hS => ?_)
          obtain ⟨m_waved_28, m_wave_28, m_isMade_28, m_cameFrom_28, m_cameBy_28, rfl, h⟩ := h
          have hP : va_P D vwCl [((ad 1), aI cy 112 m_state), ((ad 0), oX8 ad m_said m_waved_28 m_places m_end m_joints m_netPlaces m_begin m_finish m_rounds m_sews), ((ad 5), aI cy 7776 m_wave_28), ((ad 6), aZ cy 7776 m_isMade_28), ((ad 7), aI cy 7776 m_cameFrom_28), ((ad 8), aI cy 7776 m_cameBy_28)] H := hP
          have hD : va_D A [((ad 1), aI cy 112 m_state), ((ad 0), oX8 ad m_said m_waved_28 m_places m_end m_joints m_netPlaces m_begin m_finish m_rounds m_sews), ((ad 5), aI cy 7776 m_wave_28), ((ad 6), aZ cy 7776 m_isMade_28), ((ad 7), aI cy 7776 m_cameFrom_28), ((ad 8), aI cy 7776 m_cameBy_28)] := hD
          obtain ⟨x2_29, e_x2_29⟩ : ∃ y : Int32, y = x2 + (1 : Int32) := ⟨_, rfl⟩
          refine lv_iinc (v := x2_29) (lv' := [(2, .int x2_29), (0, .ref (ad 0)), (1, .int x1)]) hx hb dX8_layMade_48 hl (k := 2) rfl (by rw [e_x2_29]; rfl) (by decide) rfl (fun ls hl => ?_)
          have h := h x2_29 e_x2_29
          refine lv_goto (tgt := 29) hx hb dX8_layMade_51 (by decide) ?_
          exact hrc29 x2_29 m_waved_28 m_wave_28 m_isMade_28 m_cameFrom_28 m_cameBy_28 h _ _ _ (hP.sub [1, 0, 2, 3, 4, 5] rfl) (hD.sub [1, 0, 2, 3, 4, 5] (by decide) rfl) hS (lv_sub hl [1, 2, 0] rfl)
    exact key nn x2 m_waved m_wave m_isMade m_cameFrom m_cameBy h
  have hJ7 : ∀ (x1 : Int32) (x2 : Int32) (m_waved : Int32) (m_wave : Nat → Int32) (m_isMade : Nat → Int32) (m_cameFrom : Nat → Int32) (m_cameBy : Nat → Int32), wp_X8_layMade_7 m_state x1 m_waved m_wave m_cameFrom m_cameBy  Q x2 m_isMade → ∀ (H : Heap) (locs : List Loc) (ls : Array Slot), va_P D vwCl [((ad 0), oX8 ad m_said m_waved m_places m_end m_joints m_netPlaces m_begin m_finish m_rounds m_sews), ((ad 1), aI cy 112 m_state), ((ad 5), aI cy 7776 m_wave), ((ad 6), aZ cy 7776 m_isMade), ((ad 7), aI cy 7776 m_cameFrom), ((ad 8), aI cy 7776 m_cameBy)] H → va_D A [((ad 0), oX8 ad m_said m_waved m_places m_end m_joints m_netPlaces m_begin m_finish m_rounds m_sews), ((ad 1), aI cy 112 m_state), ((ad 5), aI cy 7776 m_wave), ((ad 6), aZ cy 7776 m_isMade), ((ad 7), aI cy 7776 m_cameFrom), ((ad 8), aI cy 7776 m_cameBy)] → va_S A s.heap H locs → lv_has ls 4 [(0, .ref (ad 0)), (1, .int x1), (2, .int x2)] → W p l e { frames := 4, cells := 0, slots := 0, locals := 87 } s m args below meth c H locs 0 0 (MQ below ((fun A => va_Qv (fun (u : Int32 × (Nat → Int32) × (Nat → Int32) × (Nat → Int32) × (Nat → Int32)) => ∃ (z0 : Int32) (z1 : Nat → Int32) (z2 : Nat → Int32) (z3 : Nat → Int32) (z4 : Nat → Int32), u = (z0, z1, z2, z3, z4) ∧ Q z0 z1 z2 z3 z4) (zE D vwCl A (fun (u : Int32 × (Nat → Int32) × (Nat → Int32) × (Nat → Int32) × (Nat → Int32)) => [((ad 0), oX8 ad m_said (u.1) m_places m_end m_joints m_netPlaces m_begin m_finish m_rounds m_sews), ((ad 1), aI cy 112 m_state), ((ad 5), aI cy 7776 (u.2.1)), ((ad 6), aZ cy 7776 (u.2.2.1)), ((ad 7), aI cy 7776 (u.2.2.2.1)), ((ad 8), aI cy 7776 (u.2.2.2.2))])) A) A) args s 0 0 A) (F0 m 7 ls []) := by
    intro x1 x2 m_waved m_wave m_isMade m_cameFrom m_cameBy   h
    obtain ⟨nn, h⟩ := h
    have key : ∀ (nn : Nat) (x2 : Int32) (m_isMade : Nat → Int32), lpW2 (wb_X8_layMade_7 m_state x1 m_waved m_wave m_cameFrom m_cameBy  Q) nn x2 m_isMade → ∀ (H : Heap) (locs : List Loc) (ls : Array Slot), va_P D vwCl [((ad 0), oX8 ad m_said m_waved m_places m_end m_joints m_netPlaces m_begin m_finish m_rounds m_sews), ((ad 1), aI cy 112 m_state), ((ad 5), aI cy 7776 m_wave), ((ad 6), aZ cy 7776 m_isMade), ((ad 7), aI cy 7776 m_cameFrom), ((ad 8), aI cy 7776 m_cameBy)] H → va_D A [((ad 0), oX8 ad m_said m_waved m_places m_end m_joints m_netPlaces m_begin m_finish m_rounds m_sews), ((ad 1), aI cy 112 m_state), ((ad 5), aI cy 7776 m_wave), ((ad 6), aZ cy 7776 m_isMade), ((ad 7), aI cy 7776 m_cameFrom), ((ad 8), aI cy 7776 m_cameBy)] → va_S A s.heap H locs → lv_has ls 4 [(0, .ref (ad 0)), (1, .int x1), (2, .int x2)] → W p l e { frames := 4, cells := 0, slots := 0, locals := 87 } s m args below meth c H locs 0 0 (MQ below ((fun A => va_Qv (fun (u : Int32 × (Nat → Int32) × (Nat → Int32) × (Nat → Int32) × (Nat → Int32)) => ∃ (z0 : Int32) (z1 : Nat → Int32) (z2 : Nat → Int32) (z3 : Nat → Int32) (z4 : Nat → Int32), u = (z0, z1, z2, z3, z4) ∧ Q z0 z1 z2 z3 z4) (zE D vwCl A (fun (u : Int32 × (Nat → Int32) × (Nat → Int32) × (Nat → Int32) × (Nat → Int32)) => [((ad 0), oX8 ad m_said (u.1) m_places m_end m_joints m_netPlaces m_begin m_finish m_rounds m_sews), ((ad 1), aI cy 112 m_state), ((ad 5), aI cy 7776 (u.2.1)), ((ad 6), aZ cy 7776 (u.2.2.1)), ((ad 7), aI cy 7776 (u.2.2.2.1)), ((ad 8), aI cy 7776 (u.2.2.2.2))])) A) A) args s 0 0 A) (F0 m 7 ls []) := by
      intro nn
      induction nn with
      | zero => intro x2 m_isMade h; exact h.elim
      | succ nn hrc7 =>
        intro x2 m_isMade h H locs ls hP hD hS hl
        have h : wb_X8_layMade_7 m_state x1 m_waved m_wave m_cameFrom m_cameBy  Q (lpW2 (wb_X8_layMade_7 m_state x1 m_waved m_wave m_cameFrom m_cameBy  Q) nn) x2 m_isMade := h
        unfold wb_X8_layMade_7 at h
        refine lv_iload_n hx hb dX8_layMade_7 rfl (lv_at hl 2 rfl) ?_
        refine lv_sipush (v := (7776 : Int32)) hx hb dX8_layMade_8 (by decide) ?_
        refine lv_icmp_ge (tgt := 27) hx hb dX8_layMade_11 (by decide) (fun c_30 => ?_) (fun c_30 => ?_)
        · have h := h.1 c_30
          refine lv_iconst (v := (0 : Int32)) hx hb dX8_layMade_27 (by decide) ?_
          refine lv_istore_n (lv' := [(2, .int (0 : Int32)), (0, .ref (ad 0)), (1, .int x1)]) hx hb dX8_layMade_28 rfl hl (by decide) rfl (fun ls hl => ?_)
          exact hJ29 x1 (0 : Int32) m_waved m_wave m_isMade m_cameFrom m_cameBy   h _ _ _ hP hD hS (lv_sub hl [1, 2, 0] rfl)
        · have h := h.2 c_30
          refine lv_aload_n hx hb dX8_layMade_14 rfl (lv_at hl 0 rfl) ?_
          refine va_get (D := D) (ci := 7) (v := .ref (ad 6)) (C := RX8) (T := TX8) (N := 35) hx hb hts iX8 hown hK hP 0 rfl rfl 7 (Nat.le_of_ble_eq_true rfl) (hts _ fl_X8_26) (fun _ h9 => h9) rfl dX8_layMade_15 ?_
          refine lv_iload_n hx hb dX8_layMade_18 rfl (lv_at hl 2 rfl) ?_
          refine lv_iconst (v := (0 : Int32)) hx hb dX8_layMade_19 (by decide) ?_
          obtain ⟨hi_31, h⟩ := h
          refine va_zast hx hb hK hP hD hS 3 2 rfl rfl hi_31 dX8_layMade_20 (fun H locs hP hD hS => ?_)
          have hP : va_P D vwCl [((ad 0), oX8 ad m_said m_waved m_places m_end m_joints m_netPlaces m_begin m_finish m_rounds m_sews), ((ad 1), aI cy 112 m_state), ((ad 5), aI cy 7776 m_wave), ((ad 6), aZ cy 7776 (upd m_isMade x2.toNatClampNeg (vp_nar .boolean (0 : Int32)))), ((ad 7), aI cy 7776 m_cameFrom), ((ad 8), aI cy 7776 m_cameBy)] H := hP
          have hD : va_D A [((ad 0), oX8 ad m_said m_waved m_places m_end m_joints m_netPlaces m_begin m_finish m_rounds m_sews), ((ad 1), aI cy 112 m_state), ((ad 5), aI cy 7776 m_wave), ((ad 6), aZ cy 7776 (upd m_isMade x2.toNatClampNeg (vp_nar .boolean (0 : Int32)))), ((ad 7), aI cy 7776 m_cameFrom), ((ad 8), aI cy 7776 m_cameBy)] := hD
          obtain ⟨x2_32, e_x2_32⟩ : ∃ y : Int32, y = x2 + (1 : Int32) := ⟨_, rfl⟩
          refine lv_iinc (v := x2_32) (lv' := [(2, .int x2_32), (0, .ref (ad 0)), (1, .int x1)]) hx hb dX8_layMade_21 hl (k := 2) rfl (by rw [e_x2_32]; rfl) (by decide) rfl (fun ls hl => ?_)
          have h := h x2_32 e_x2_32
          refine lv_goto (tgt := 7) hx hb dX8_layMade_24 (by decide) ?_
          exact hrc7 x2_32 (upd m_isMade x2.toNatClampNeg (vp_nar .boolean (0 : Int32))) h _ _ _ hP hD hS (lv_sub hl [1, 2, 0] rfl)
    exact key nn x2 m_isMade h
  unfold wp_X8_layMade at h
  refine lv_aload_n hx hb dX8_layMade_0 rfl (lv_at hl 0 rfl) ?_
  refine lv_iconst (v := (0 : Int32)) hx hb dX8_layMade_1 (by decide) ?_
  refine va_put (D := D) (ci := 7) (v := .int (0 : Int32)) (ty := .int) (C := RX8) (T := TX8) (N := 35) hx hb hts iX8 tyX8 tyX8_ok nmX8 hown hK hP hD hS 0 rfl rfl 6 (Nat.le_of_ble_eq_true rfl) (hts _ fl_X8_160) (fun _ h9 => h9) rfl (by decide +kernel) rfl rfl (Nat.le_of_ble_eq_true rfl) dX8_layMade_2 (fun H locs hP hD hS => ?_)
  have hP : va_P D vwCl [((ad 0), oX8 ad m_said (0 : Int32) m_places m_end m_joints m_netPlaces m_begin m_finish m_rounds m_sews), ((ad 1), aI cy 112 m_state), ((ad 5), aI cy 7776 m_wave), ((ad 6), aZ cy 7776 m_isMade), ((ad 7), aI cy 7776 m_cameFrom), ((ad 8), aI cy 7776 m_cameBy)] H := hP
  have hD : va_D A [((ad 0), oX8 ad m_said (0 : Int32) m_places m_end m_joints m_netPlaces m_begin m_finish m_rounds m_sews), ((ad 1), aI cy 112 m_state), ((ad 5), aI cy 7776 m_wave), ((ad 6), aZ cy 7776 m_isMade), ((ad 7), aI cy 7776 m_cameFrom), ((ad 8), aI cy 7776 m_cameBy)] := hD
  refine lv_iconst (v := (0 : Int32)) hx hb dX8_layMade_5 (by decide) ?_
  refine lv_istore_n (lv' := [(2, .int (0 : Int32)), (0, .ref (ad 0)), (1, .int x1)]) hx hb dX8_layMade_6 rfl hl (by decide) rfl (fun ls hl => ?_)
  exact hJ7 x1 (0 : Int32) (0 : Int32) m_wave m_isMade m_cameFrom m_cameBy   h _ _ _ hP hD hS (lv_sub hl [1, 2, 0] rfl)
set_option maxHeartbeats 4000000 in
set_option maxRecDepth 100000 in
theorem c_X8_idempotents (l : Launch) (D : va_G) (cy : Nat → ClassId) (ad : Nat → Nat) (sz : Nat) (m_said : Int32) (m_waved : Int32) (m_places : Int32) (m_end : Int32) (m_joints : Int32) (m_netPlaces : Int32) (m_begin : Int32) (m_finish : Int32) (m_rounds : Int32) (m_sews : Int32) (m_wave : Nat → Int32) {Q : Int32 → Prop} (h : wp_X8_idempotents m_waved m_wave Q) : Met l yX8_idempotents (wsU yX8_idempotents cX8_idempotents 3 (some .int)) { frames := 3, cells := 0, slots := 0, locals := 65 } (va_Pc [.ref (ad 0)] (zB D vwCl (tyU cy) [((ad 0), oX8 ad m_said m_waved m_places m_end m_joints m_netPlaces m_begin m_finish m_rounds m_sews), ((ad 5), aI cy 7776 m_wave)] sz)) ((fun A => va_Qi (fun (r : Int32) (_ : Unit) => Q r ) (zE D vwCl A (fun (_ : Unit) => [((ad 0), oX8 ad m_said m_waved m_places m_end m_joints m_netPlaces m_begin m_finish m_rounds m_sews), ((ad 5), aI cy 7776 m_wave)])) A) (va_A [((ad 0), oX8 ad m_said m_waved m_places m_end m_joints m_netPlaces m_begin m_finish m_rounds m_sews), ((ad 5), aI cy 7776 m_wave)] sz)) 0 0 (va_A [((ad 0), oX8 ad m_said m_waved m_places m_end m_joints m_netPlaces m_begin m_finish m_rounds m_sews), ((ad 5), aI cy 7776 m_wave)] sz) := by
  refine z_ofX (fun A => va_Qi (fun (r : Int32) (_ : Unit) => Q r ) (zE D vwCl A (fun (_ : Unit) => [((ad 0), oX8 ad m_said m_waved m_places m_end m_joints m_netPlaces m_begin m_finish m_rounds m_sews), ((ad 5), aI cy 7776 m_wave)])) A) (by decide) (Nat.le_of_ble_eq_true rfl) (fun p e s m below meth c A ls hx hb hr hml hown hts hlocks hK hPW hA hP hD hS hl => ?_)
  have hl : lv_has ls 3 [(0, .ref (ad 0))] := hl
  have hown : s.vm.findClass RX8 = some m.cls := hown
  generalize hArg : ([.ref (ad 0)] : List Value).toArray = args at hts ⊢
  have hJ30 : ∀ (x2 : Int32) (t0 : Int32) (t1 : Int32) (rc4 : Int32 → Int32 → Prop) (hrc4 : ∀ (x1 : Int32) (x2 : Int32), rc4 x1 x2 → ∀ (H : Heap) (locs : List Loc) (ls : Array Slot), va_P D vwCl [((ad 0), oX8 ad m_said m_waved m_places m_end m_joints m_netPlaces m_begin m_finish m_rounds m_sews), ((ad 5), aI cy 7776 m_wave)] H → va_D A [((ad 0), oX8 ad m_said m_waved m_places m_end m_joints m_netPlaces m_begin m_finish m_rounds m_sews), ((ad 5), aI cy 7776 m_wave)] → va_S A s.heap H locs → lv_has ls 3 [(0, .ref (ad 0)), (1, .int x1), (2, .int x2)] → W p l e { frames := 3, cells := 0, slots := 0, locals := 65 } s m args below meth c H locs 0 0 (MQ below ((fun A => va_Qi (fun (r : Int32) (_ : Unit) => Q r ) (zE D vwCl A (fun (_ : Unit) => [((ad 0), oX8 ad m_said m_waved m_places m_end m_joints m_netPlaces m_begin m_finish m_rounds m_sews), ((ad 5), aI cy 7776 m_wave)])) A) A) args s 0 0 A) (F0 m 4 ls [])), wp_X8_idempotents_30 m_waved m_wave x2 t0 t1 rc4 Q → ∀ (H : Heap) (locs : List Loc) (ls : Array Slot), va_P D vwCl [((ad 0), oX8 ad m_said m_waved m_places m_end m_joints m_netPlaces m_begin m_finish m_rounds m_sews), ((ad 5), aI cy 7776 m_wave)] H → va_D A [((ad 0), oX8 ad m_said m_waved m_places m_end m_joints m_netPlaces m_begin m_finish m_rounds m_sews), ((ad 5), aI cy 7776 m_wave)] → va_S A s.heap H locs → lv_has ls 3 [(0, .ref (ad 0)), (2, .int x2)] → W p l e { frames := 3, cells := 0, slots := 0, locals := 65 } s m args below meth c H locs 0 0 (MQ below ((fun A => va_Qi (fun (r : Int32) (_ : Unit) => Q r ) (zE D vwCl A (fun (_ : Unit) => [((ad 0), oX8 ad m_said m_waved m_places m_end m_joints m_netPlaces m_begin m_finish m_rounds m_sews), ((ad 5), aI cy 7776 m_wave)])) A) A) args s 0 0 A) (F0 m 30 ls [.int t1, .int t0]) := by
    intro x2 t0 t1 rc4 hrc4  h H locs ls hP hD hS hl
    unfold wp_X8_idempotents_30 at h
    refine lv_iadd hx hb dX8_idempotents_30 ?_
    refine lv_topi (fun x1_7 e_x1_7 => ?_)
    have h := h x1_7 e_x1_7
    refine lv_istore_n (lv' := [(1, .int x1_7), (0, .ref (ad 0)), (2, .int x2)]) hx hb dX8_idempotents_31 rfl hl (by decide) rfl (fun ls hl => ?_)
    obtain ⟨x2_8, e_x2_8⟩ : ∃ y : Int32, y = x2 + (1 : Int32) := ⟨_, rfl⟩
    refine lv_iinc (v := x2_8) (lv' := [(2, .int x2_8), (1, .int x1_7), (0, .ref (ad 0))]) hx hb dX8_idempotents_32 hl (k := 2) rfl (by rw [e_x2_8]; rfl) (by decide) rfl (fun ls hl => ?_)
    have h := h x2_8 e_x2_8
    refine lv_goto (tgt := 4) hx hb dX8_idempotents_35 (by decide) ?_
    exact hrc4 x1_7 x2_8 h _ _ _ hP hD hS (lv_sub hl [2, 1, 0] rfl)
  have hJ4 : ∀ (x1 : Int32) (x2 : Int32), wp_X8_idempotents_4 m_waved m_wave  Q x1 x2 → ∀ (H : Heap) (locs : List Loc) (ls : Array Slot), va_P D vwCl [((ad 0), oX8 ad m_said m_waved m_places m_end m_joints m_netPlaces m_begin m_finish m_rounds m_sews), ((ad 5), aI cy 7776 m_wave)] H → va_D A [((ad 0), oX8 ad m_said m_waved m_places m_end m_joints m_netPlaces m_begin m_finish m_rounds m_sews), ((ad 5), aI cy 7776 m_wave)] → va_S A s.heap H locs → lv_has ls 3 [(0, .ref (ad 0)), (1, .int x1), (2, .int x2)] → W p l e { frames := 3, cells := 0, slots := 0, locals := 65 } s m args below meth c H locs 0 0 (MQ below ((fun A => va_Qi (fun (r : Int32) (_ : Unit) => Q r ) (zE D vwCl A (fun (_ : Unit) => [((ad 0), oX8 ad m_said m_waved m_places m_end m_joints m_netPlaces m_begin m_finish m_rounds m_sews), ((ad 5), aI cy 7776 m_wave)])) A) A) args s 0 0 A) (F0 m 4 ls []) := by
    intro x1 x2   h
    obtain ⟨nn, h⟩ := h
    have key : ∀ (nn : Nat) (x1 : Int32) (x2 : Int32), lpW2 (wb_X8_idempotents_4 m_waved m_wave  Q) nn x1 x2 → ∀ (H : Heap) (locs : List Loc) (ls : Array Slot), va_P D vwCl [((ad 0), oX8 ad m_said m_waved m_places m_end m_joints m_netPlaces m_begin m_finish m_rounds m_sews), ((ad 5), aI cy 7776 m_wave)] H → va_D A [((ad 0), oX8 ad m_said m_waved m_places m_end m_joints m_netPlaces m_begin m_finish m_rounds m_sews), ((ad 5), aI cy 7776 m_wave)] → va_S A s.heap H locs → lv_has ls 3 [(0, .ref (ad 0)), (1, .int x1), (2, .int x2)] → W p l e { frames := 3, cells := 0, slots := 0, locals := 65 } s m args below meth c H locs 0 0 (MQ below ((fun A => va_Qi (fun (r : Int32) (_ : Unit) => Q r ) (zE D vwCl A (fun (_ : Unit) => [((ad 0), oX8 ad m_said m_waved m_places m_end m_joints m_netPlaces m_begin m_finish m_rounds m_sews), ((ad 5), aI cy 7776 m_wave)])) A) A) args s 0 0 A) (F0 m 4 ls []) := by
      intro nn
      induction nn with
      | zero => intro x1 x2 h; exact h.elim
      | succ nn hrc4 =>
        intro x1 x2 h H locs ls hP hD hS hl
        have h : wb_X8_idempotents_4 m_waved m_wave  Q (lpW2 (wb_X8_idempotents_4 m_waved m_wave  Q) nn) x1 x2 := h
        unfold wb_X8_idempotents_4 at h
        refine lv_iload_n hx hb dX8_idempotents_4 rfl (lv_at hl 2 rfl) ?_
        refine lv_aload_n hx hb dX8_idempotents_5 rfl (lv_at hl 0 rfl) ?_
        refine va_get (D := D) (ci := 7) (v := .int m_waved) (C := RX8) (T := TX8) (N := 35) hx hb hts iX8 hown hK hP 0 rfl rfl 6 (Nat.le_of_ble_eq_true rfl) (hts _ fl_X8_160) (fun _ h9 => h9) rfl dX8_idempotents_6 ?_
        refine lv_icmp_ge (tgt := 38) hx hb dX8_idempotents_9 (by decide) (fun c_9 => ?_) (fun c_9 => ?_)
        · have h := h.1 c_9
          refine lv_iload_n hx hb dX8_idempotents_38 rfl (lv_at hl 1 rfl) ?_
          exact z_iret () hx hb hr hlocks h hP hD hS dX8_idempotents_39
        · have h := h.2 c_9
          refine lv_iload_n hx hb dX8_idempotents_12 rfl (lv_at hl 1 rfl) ?_
          refine lv_aload_n hx hb dX8_idempotents_13 rfl (lv_at hl 0 rfl) ?_
          refine va_get (D := D) (ci := 7) (v := .ref (ad 5)) (C := RX8) (T := TX8) (N := 35) hx hb hts iX8 hown hK hP 0 rfl rfl 5 (Nat.le_of_ble_eq_true rfl) (hts _ fl_X8_23) (fun _ h9 => h9) rfl dX8_idempotents_14 ?_
          refine lv_iload_n hx hb dX8_idempotents_17 rfl (lv_at hl 2 rfl) ?_
          obtain ⟨hi_10, h⟩ := h
          refine va_iald hx hb hK hP 1 0 rfl rfl hi_10 dX8_idempotents_18 ?_
          refine zc_S0 (As := [.int (m_wave x2.toNatClampNeg)]) (rest := [.int x1]) hx hb hml hown hts hK hPW hA hl.1 hP hS ⟨Nat.zero_le _, Nat.zero_le _⟩ (c_X8_isIdempotent l D cy (sz := _) (x0 := (m_wave x2.toNatClampNeg)) (h := h)) k_X8_119 ⟨rfl, rfl, (Nat.le_of_ble_eq_true rfl), (Nat.le_of_ble_eq_true rfl)⟩ rfl rfl (Nat.le_of_ble_eq_true rfl) dX8_idempotents_19 (fun r_11 H locs h hP hS => ?_)
          refine lv_if_eq (tgt := 29) hx hb dX8_idempotents_22 (by decide) (fun c_12 => ?_) (fun c_12 => ?_)
          · have h := h.1 c_12
            refine lv_iconst (v := (0 : Int32)) hx hb dX8_idempotents_29 (by decide) ?_
            exact hJ30 x2 x1 (0 : Int32) _ hrc4  h _ _ _ hP hD hS (lv_sub hl [0, 2] rfl)
          · have h := h.2 c_12
            refine lv_iconst (v := (1 : Int32)) hx hb dX8_idempotents_25 (by decide) ?_
            refine lv_goto (tgt := 30) hx hb dX8_idempotents_26 (by decide) ?_
            exact hJ30 x2 x1 (1 : Int32) _ hrc4  h _ _ _ hP hD hS (lv_sub hl [0, 2] rfl)
    exact key nn x1 x2 h
  unfold wp_X8_idempotents at h
  refine lv_iconst (v := (0 : Int32)) hx hb dX8_idempotents_0 (by decide) ?_
  refine lv_istore_n (lv' := [(1, .int (0 : Int32)), (0, .ref (ad 0))]) hx hb dX8_idempotents_1 rfl hl (by decide) rfl (fun ls hl => ?_)
  refine lv_iconst (v := (0 : Int32)) hx hb dX8_idempotents_2 (by decide) ?_
  refine lv_istore_n (lv' := [(2, .int (0 : Int32)), (1, .int (0 : Int32)), (0, .ref (ad 0))]) hx hb dX8_idempotents_3 rfl hl (by decide) rfl (fun ls hl => ?_)
  exact hJ4 (0 : Int32) (0 : Int32)   h _ _ _ hP hD hS (lv_sub hl [2, 1, 0] rfl)
set_option maxHeartbeats 4000000 in
set_option maxRecDepth 100000 in
theorem c_X8_isLeastOfKind (l : Launch) (D : va_G) (cy : Nat → ClassId) (ad : Nat → Nat) (sz : Nat) (m_said : Int32) (m_waved : Int32) (m_places : Int32) (m_end : Int32) (m_joints : Int32) (m_netPlaces : Int32) (m_begin : Int32) (m_finish : Int32) (m_rounds : Int32) (m_sews : Int32) (m_domOf : Nat → Int32) (m_ranOf : Nat → Int32) (x1 : Int32) {Q : Int32 → Prop} (h : wp_X8_isLeastOfKind x1 m_waved m_domOf m_ranOf Q) : Met l yX8_isLeastOfKind (wsU yX8_isLeastOfKind cX8_isLeastOfKind 4 (some .boolean)) { frames := 0, cells := 0, slots := 0, locals := 0 } (va_Pc [.ref (ad 0), .int x1] (zB D vwCl (tyU cy) [((ad 0), oX8 ad m_said m_waved m_places m_end m_joints m_netPlaces m_begin m_finish m_rounds m_sews), ((ad 9), aI cy 7776 m_domOf), ((ad 10), aI cy 7776 m_ranOf)] sz)) ((fun A => va_Qi (fun (r : Int32) (_ : Unit) => Q r ) (zE D vwCl A (fun (_ : Unit) => [((ad 0), oX8 ad m_said m_waved m_places m_end m_joints m_netPlaces m_begin m_finish m_rounds m_sews), ((ad 9), aI cy 7776 m_domOf), ((ad 10), aI cy 7776 m_ranOf)])) A) (va_A [((ad 0), oX8 ad m_said m_waved m_places m_end m_joints m_netPlaces m_begin m_finish m_rounds m_sews), ((ad 9), aI cy 7776 m_domOf), ((ad 10), aI cy 7776 m_ranOf)] sz)) 0 0 (va_A [((ad 0), oX8 ad m_said m_waved m_places m_end m_joints m_netPlaces m_begin m_finish m_rounds m_sews), ((ad 9), aI cy 7776 m_domOf), ((ad 10), aI cy 7776 m_ranOf)] sz) := by
  refine z_ofX (fun A => va_Qi (fun (r : Int32) (_ : Unit) => Q r ) (zE D vwCl A (fun (_ : Unit) => [((ad 0), oX8 ad m_said m_waved m_places m_end m_joints m_netPlaces m_begin m_finish m_rounds m_sews), ((ad 9), aI cy 7776 m_domOf), ((ad 10), aI cy 7776 m_ranOf)])) A) (by decide) (Nat.le_of_ble_eq_true rfl) (fun p e s m below meth c A ls hx hb hr hml hown hts hlocks hK hPW hA hP hD hS hl => ?_)
  have hl : lv_has ls 4 [(0, .ref (ad 0)), (1, .int x1)] := hl
  have hown : s.vm.findClass RX8 = some m.cls := hown
  generalize hArg : ([.ref (ad 0), .int x1] : List Value).toArray = args at hts ⊢
  have hJ41 : ∀ (x1 : Int32) (x3 : Int32) (t0 : Int32) (rc4 : Int32 → Int32 → Prop) (hrc4 : ∀ (x2 : Int32) (x3 : Int32), rc4 x2 x3 → ∀ (H : Heap) (locs : List Loc) (ls : Array Slot), va_P D vwCl [((ad 0), oX8 ad m_said m_waved m_places m_end m_joints m_netPlaces m_begin m_finish m_rounds m_sews), ((ad 9), aI cy 7776 m_domOf), ((ad 10), aI cy 7776 m_ranOf)] H → va_D A [((ad 0), oX8 ad m_said m_waved m_places m_end m_joints m_netPlaces m_begin m_finish m_rounds m_sews), ((ad 9), aI cy 7776 m_domOf), ((ad 10), aI cy 7776 m_ranOf)] → va_S A s.heap H locs → lv_has ls 4 [(0, .ref (ad 0)), (1, .int x1), (2, .int x2), (3, .int x3)] → W p l e { frames := 0, cells := 0, slots := 0, locals := 0 } s m args below meth c H locs 0 0 (MQ below ((fun A => va_Qi (fun (r : Int32) (_ : Unit) => Q r ) (zE D vwCl A (fun (_ : Unit) => [((ad 0), oX8 ad m_said m_waved m_places m_end m_joints m_netPlaces m_begin m_finish m_rounds m_sews), ((ad 9), aI cy 7776 m_domOf), ((ad 10), aI cy 7776 m_ranOf)])) A) A) args s 0 0 A) (F0 m 4 ls [])), wp_X8_isLeastOfKind_41 m_waved m_domOf m_ranOf x1 x3 t0 rc4 Q → ∀ (H : Heap) (locs : List Loc) (ls : Array Slot), va_P D vwCl [((ad 0), oX8 ad m_said m_waved m_places m_end m_joints m_netPlaces m_begin m_finish m_rounds m_sews), ((ad 9), aI cy 7776 m_domOf), ((ad 10), aI cy 7776 m_ranOf)] H → va_D A [((ad 0), oX8 ad m_said m_waved m_places m_end m_joints m_netPlaces m_begin m_finish m_rounds m_sews), ((ad 9), aI cy 7776 m_domOf), ((ad 10), aI cy 7776 m_ranOf)] → va_S A s.heap H locs → lv_has ls 4 [(0, .ref (ad 0)), (1, .int x1), (3, .int x3)] → W p l e { frames := 0, cells := 0, slots := 0, locals := 0 } s m args below meth c H locs 0 0 (MQ below ((fun A => va_Qi (fun (r : Int32) (_ : Unit) => Q r ) (zE D vwCl A (fun (_ : Unit) => [((ad 0), oX8 ad m_said m_waved m_places m_end m_joints m_netPlaces m_begin m_finish m_rounds m_sews), ((ad 9), aI cy 7776 m_domOf), ((ad 10), aI cy 7776 m_ranOf)])) A) A) args s 0 0 A) (F0 m 41 ls [.int t0]) := by
    intro x1 x3 t0 rc4 hrc4  h H locs ls hP hD hS hl
    unfold wp_X8_isLeastOfKind_41 at h
    refine lv_istore_n (lv' := [(2, .int t0), (0, .ref (ad 0)), (1, .int x1), (3, .int x3)]) hx hb dX8_isLeastOfKind_41 rfl hl (by decide) rfl (fun ls hl => ?_)
    obtain ⟨x3_8, e_x3_8⟩ : ∃ y : Int32, y = x3 + (1 : Int32) := ⟨_, rfl⟩
    refine lv_iinc (v := x3_8) (lv' := [(3, .int x3_8), (2, .int t0), (0, .ref (ad 0)), (1, .int x1)]) hx hb dX8_isLeastOfKind_42 hl (k := 3) rfl (by rw [e_x3_8]; rfl) (by decide) rfl (fun ls hl => ?_)
    have h := h x3_8 e_x3_8
    refine lv_goto (tgt := 4) hx hb dX8_isLeastOfKind_45 (by decide) ?_
    exact hrc4 t0 x3_8 h _ _ _ hP hD hS (lv_sub hl [2, 3, 1, 0] rfl)
  have hJ4 : ∀ (x1 : Int32) (x2 : Int32) (x3 : Int32), wp_X8_isLeastOfKind_4 m_waved m_domOf m_ranOf x1  Q x2 x3 → ∀ (H : Heap) (locs : List Loc) (ls : Array Slot), va_P D vwCl [((ad 0), oX8 ad m_said m_waved m_places m_end m_joints m_netPlaces m_begin m_finish m_rounds m_sews), ((ad 9), aI cy 7776 m_domOf), ((ad 10), aI cy 7776 m_ranOf)] H → va_D A [((ad 0), oX8 ad m_said m_waved m_places m_end m_joints m_netPlaces m_begin m_finish m_rounds m_sews), ((ad 9), aI cy 7776 m_domOf), ((ad 10), aI cy 7776 m_ranOf)] → va_S A s.heap H locs → lv_has ls 4 [(0, .ref (ad 0)), (1, .int x1), (2, .int x2), (3, .int x3)] → W p l e { frames := 0, cells := 0, slots := 0, locals := 0 } s m args below meth c H locs 0 0 (MQ below ((fun A => va_Qi (fun (r : Int32) (_ : Unit) => Q r ) (zE D vwCl A (fun (_ : Unit) => [((ad 0), oX8 ad m_said m_waved m_places m_end m_joints m_netPlaces m_begin m_finish m_rounds m_sews), ((ad 9), aI cy 7776 m_domOf), ((ad 10), aI cy 7776 m_ranOf)])) A) A) args s 0 0 A) (F0 m 4 ls []) := by
    intro x1 x2 x3   h
    obtain ⟨nn, h⟩ := h
    have key : ∀ (nn : Nat) (x2 : Int32) (x3 : Int32), lpW2 (wb_X8_isLeastOfKind_4 m_waved m_domOf m_ranOf x1  Q) nn x2 x3 → ∀ (H : Heap) (locs : List Loc) (ls : Array Slot), va_P D vwCl [((ad 0), oX8 ad m_said m_waved m_places m_end m_joints m_netPlaces m_begin m_finish m_rounds m_sews), ((ad 9), aI cy 7776 m_domOf), ((ad 10), aI cy 7776 m_ranOf)] H → va_D A [((ad 0), oX8 ad m_said m_waved m_places m_end m_joints m_netPlaces m_begin m_finish m_rounds m_sews), ((ad 9), aI cy 7776 m_domOf), ((ad 10), aI cy 7776 m_ranOf)] → va_S A s.heap H locs → lv_has ls 4 [(0, .ref (ad 0)), (1, .int x1), (2, .int x2), (3, .int x3)] → W p l e { frames := 0, cells := 0, slots := 0, locals := 0 } s m args below meth c H locs 0 0 (MQ below ((fun A => va_Qi (fun (r : Int32) (_ : Unit) => Q r ) (zE D vwCl A (fun (_ : Unit) => [((ad 0), oX8 ad m_said m_waved m_places m_end m_joints m_netPlaces m_begin m_finish m_rounds m_sews), ((ad 9), aI cy 7776 m_domOf), ((ad 10), aI cy 7776 m_ranOf)])) A) A) args s 0 0 A) (F0 m 4 ls []) := by
      intro nn
      induction nn with
      | zero => intro x2 x3 h; exact h.elim
      | succ nn hrc4 =>
        intro x2 x3 h H locs ls hP hD hS hl
        have h : wb_X8_isLeastOfKind_4 m_waved m_domOf m_ranOf x1  Q (lpW2 (wb_X8_isLeastOfKind_4 m_waved m_domOf m_ranOf x1  Q) nn) x2 x3 := h
        unfold wb_X8_isLeastOfKind_4 at h
        refine lv_iload_n hx hb dX8_isLeastOfKind_4 rfl (lv_at hl 3 rfl) ?_
        refine lv_aload_n hx hb dX8_isLeastOfKind_5 rfl (lv_at hl 0 rfl) ?_
        refine va_get (D := D) (ci := 7) (v := .int m_waved) (C := RX8) (T := TX8) (N := 35) hx hb hts iX8 hown hK hP 0 rfl rfl 6 (Nat.le_of_ble_eq_true rfl) (hts _ fl_X8_160) (fun _ h9 => h9) rfl dX8_isLeastOfKind_6 ?_
        refine lv_icmp_ge (tgt := 48) hx hb dX8_isLeastOfKind_9 (by decide) (fun c_9 => ?_) (fun c_9 => ?_)
        · have h := h.1 c_9
          refine lv_iload_n hx hb dX8_isLeastOfKind_48 rfl (lv_at hl 2 rfl) ?_
          obtain ⟨hz, h⟩ := h
          exact z_zret () hx hb hr hlocks (isB.n hz) h hP hD hS dX8_isLeastOfKind_49
        · have h := h.2 c_9
          refine lv_iload_n hx hb dX8_isLeastOfKind_12 rfl (lv_at hl 2 rfl) ?_
          refine lv_if_eq (tgt := 40) hx hb dX8_isLeastOfKind_13 (by decide) (fun c_10 => ?_) (fun c_10 => ?_)
          · have h := h.1 c_10
            refine lv_iconst (v := (0 : Int32)) hx hb dX8_isLeastOfKind_40 (by decide) ?_
            exact hJ41 x1 x3 (0 : Int32) _ hrc4  h _ _ _ hP hD hS (lv_sub hl [0, 1, 3] rfl)
          · have h := h.2 c_10
            refine lv_aload_n hx hb dX8_isLeastOfKind_16 rfl (lv_at hl 0 rfl) ?_
            refine va_get (D := D) (ci := 7) (v := .ref (ad 9)) (C := RX8) (T := TX8) (N := 35) hx hb hts iX8 hown hK hP 0 rfl rfl 10 (Nat.le_of_ble_eq_true rfl) (hts _ fl_X8_35) (fun _ h9 => h9) rfl dX8_isLeastOfKind_17 ?_
            refine lv_iload_n hx hb dX8_isLeastOfKind_20 rfl (lv_at hl 3 rfl) ?_
            obtain ⟨hi_11, h⟩ := h
            refine va_iald hx hb hK hP 1 0 rfl rfl hi_11 dX8_isLeastOfKind_21 ?_
            refine lv_iload_n hx hb dX8_isLeastOfKind_22 rfl (lv_at hl 1 rfl) ?_
            refine lv_icmp_ne (tgt := 36) hx hb dX8_isLeastOfKind_23 (by decide) (fun c_12 => ?_) (fun c_12 => ?_)
            · have h := h.1 c_12
              refine lv_iconst (v := (1 : Int32)) hx hb dX8_isLeastOfKind_36 (by decide) ?_
              refine lv_goto (tgt := 41) hx hb dX8_isLeastOfKind_37 (by decide) ?_
              exact hJ41 x1 x3 (1 : Int32) _ hrc4  h _ _ _ hP hD hS (lv_sub hl [0, 1, 3] rfl)
            · have h := h.2 c_12
              refine lv_aload_n hx hb dX8_isLeastOfKind_26 rfl (lv_at hl 0 rfl) ?_
              refine va_get (D := D) (ci := 7) (v := .ref (ad 10)) (C := RX8) (T := TX8) (N := 35) hx hb hts iX8 hown hK hP 0 rfl rfl 11 (Nat.le_of_ble_eq_true rfl) (hts _ fl_X8_38) (fun _ h9 => h9) rfl dX8_isLeastOfKind_27 ?_
              refine lv_iload_n hx hb dX8_isLeastOfKind_30 rfl (lv_at hl 3 rfl) ?_
              obtain ⟨hi_13, h⟩ := h
              refine va_iald hx hb hK hP 2 0 rfl rfl hi_13 dX8_isLeastOfKind_31 ?_
              refine lv_iload_n hx hb dX8_isLeastOfKind_32 rfl (lv_at hl 1 rfl) ?_
              refine lv_icmp_lt (tgt := 40) hx hb dX8_isLeastOfKind_33 (by decide) (fun c_14 => ?_) (fun c_14 => ?_)
              · have h := h.1 c_14
                refine lv_iconst (v := (0 : Int32)) hx hb dX8_isLeastOfKind_40 (by decide) ?_
                exact hJ41 x1 x3 (0 : Int32) _ hrc4  h _ _ _ hP hD hS (lv_sub hl [0, 1, 3] rfl)
              · have h := h.2 c_14
                refine lv_iconst (v := (1 : Int32)) hx hb dX8_isLeastOfKind_36 (by decide) ?_
                refine lv_goto (tgt := 41) hx hb dX8_isLeastOfKind_37 (by decide) ?_
                exact hJ41 x1 x3 (1 : Int32) _ hrc4  h _ _ _ hP hD hS (lv_sub hl [0, 1, 3] rfl)
    exact key nn x2 x3 h
  unfold wp_X8_isLeastOfKind at h
  refine lv_iconst (v := (1 : Int32)) hx hb dX8_isLeastOfKind_0 (by decide) ?_
  refine lv_istore_n (lv' := [(2, .int (1 : Int32)), (0, .ref (ad 0)), (1, .int x1)]) hx hb dX8_isLeastOfKind_1 rfl hl (by decide) rfl (fun ls hl => ?_)
  refine lv_iconst (v := (0 : Int32)) hx hb dX8_isLeastOfKind_2 (by decide) ?_
  refine lv_istore_n (lv' := [(3, .int (0 : Int32)), (2, .int (1 : Int32)), (0, .ref (ad 0)), (1, .int x1)]) hx hb dX8_isLeastOfKind_3 rfl hl (by decide) rfl (fun ls hl => ?_)
  exact hJ4 x1 (1 : Int32) (0 : Int32)   h _ _ _ hP hD hS (lv_sub hl [2, 3, 1, 0] rfl)
set_option maxHeartbeats 4000000 in
set_option maxRecDepth 100000 in
theorem c_X8_kinds (l : Launch) (D : va_G) (cy : Nat → ClassId) (ad : Nat → Nat) (sz : Nat) (m_said : Int32) (m_waved : Int32) (m_places : Int32) (m_end : Int32) (m_joints : Int32) (m_netPlaces : Int32) (m_begin : Int32) (m_finish : Int32) (m_rounds : Int32) (m_sews : Int32) (m_wave : Nat → Int32) (m_domOf : Nat → Int32) (m_ranOf : Nat → Int32) {Q : Int32 → Prop} (h : wp_X8_kinds m_waved m_wave m_domOf m_ranOf Q) : Met l yX8_kinds (wsU yX8_kinds cX8_kinds 3 (some .int)) { frames := 3, cells := 0, slots := 0, locals := 65 } (va_Pc [.ref (ad 0)] (zB D vwCl (tyU cy) [((ad 0), oX8 ad m_said m_waved m_places m_end m_joints m_netPlaces m_begin m_finish m_rounds m_sews), ((ad 5), aI cy 7776 m_wave), ((ad 9), aI cy 7776 m_domOf), ((ad 10), aI cy 7776 m_ranOf)] sz)) ((fun A => va_Qi (fun (r : Int32) (_ : Unit) => Q r ) (zE D vwCl A (fun (_ : Unit) => [((ad 0), oX8 ad m_said m_waved m_places m_end m_joints m_netPlaces m_begin m_finish m_rounds m_sews), ((ad 5), aI cy 7776 m_wave), ((ad 9), aI cy 7776 m_domOf), ((ad 10), aI cy 7776 m_ranOf)])) A) (va_A [((ad 0), oX8 ad m_said m_waved m_places m_end m_joints m_netPlaces m_begin m_finish m_rounds m_sews), ((ad 5), aI cy 7776 m_wave), ((ad 9), aI cy 7776 m_domOf), ((ad 10), aI cy 7776 m_ranOf)] sz)) 0 0 (va_A [((ad 0), oX8 ad m_said m_waved m_places m_end m_joints m_netPlaces m_begin m_finish m_rounds m_sews), ((ad 5), aI cy 7776 m_wave), ((ad 9), aI cy 7776 m_domOf), ((ad 10), aI cy 7776 m_ranOf)] sz) := by
  refine z_ofX (fun A => va_Qi (fun (r : Int32) (_ : Unit) => Q r ) (zE D vwCl A (fun (_ : Unit) => [((ad 0), oX8 ad m_said m_waved m_places m_end m_joints m_netPlaces m_begin m_finish m_rounds m_sews), ((ad 5), aI cy 7776 m_wave), ((ad 9), aI cy 7776 m_domOf), ((ad 10), aI cy 7776 m_ranOf)])) A) (by decide) (Nat.le_of_ble_eq_true rfl) (fun p e s m below meth c A ls hx hb hr hml hown hts hlocks hK hPW hA hP hD hS hl => ?_)
  have hl : lv_has ls 3 [(0, .ref (ad 0))] := hl
  have hown : s.vm.findClass RX8 = some m.cls := hown
  generalize hArg : ([.ref (ad 0)] : List Value).toArray = args at hts ⊢
  have hJ43 : ∀ (x2 : Int32) (t0 : Int32) (t1 : Int32) (rc4 : Int32 → Int32 → Prop) (hrc4 : ∀ (x1 : Int32) (x2 : Int32), rc4 x1 x2 → ∀ (H : Heap) (locs : List Loc) (ls : Array Slot), va_P D vwCl [((ad 0), oX8 ad m_said m_waved m_places m_end m_joints m_netPlaces m_begin m_finish m_rounds m_sews), ((ad 5), aI cy 7776 m_wave), ((ad 9), aI cy 7776 m_domOf), ((ad 10), aI cy 7776 m_ranOf)] H → va_D A [((ad 0), oX8 ad m_said m_waved m_places m_end m_joints m_netPlaces m_begin m_finish m_rounds m_sews), ((ad 5), aI cy 7776 m_wave), ((ad 9), aI cy 7776 m_domOf), ((ad 10), aI cy 7776 m_ranOf)] → va_S A s.heap H locs → lv_has ls 3 [(0, .ref (ad 0)), (1, .int x1), (2, .int x2)] → W p l e { frames := 3, cells := 0, slots := 0, locals := 65 } s m args below meth c H locs 0 0 (MQ below ((fun A => va_Qi (fun (r : Int32) (_ : Unit) => Q r ) (zE D vwCl A (fun (_ : Unit) => [((ad 0), oX8 ad m_said m_waved m_places m_end m_joints m_netPlaces m_begin m_finish m_rounds m_sews), ((ad 5), aI cy 7776 m_wave), ((ad 9), aI cy 7776 m_domOf), ((ad 10), aI cy 7776 m_ranOf)])) A) A) args s 0 0 A) (F0 m 4 ls [])), wp_X8_kinds_43 m_waved m_wave m_domOf m_ranOf x2 t0 t1 rc4 Q → ∀ (H : Heap) (locs : List Loc) (ls : Array Slot), va_P D vwCl [((ad 0), oX8 ad m_said m_waved m_places m_end m_joints m_netPlaces m_begin m_finish m_rounds m_sews), ((ad 5), aI cy 7776 m_wave), ((ad 9), aI cy 7776 m_domOf), ((ad 10), aI cy 7776 m_ranOf)] H → va_D A [((ad 0), oX8 ad m_said m_waved m_places m_end m_joints m_netPlaces m_begin m_finish m_rounds m_sews), ((ad 5), aI cy 7776 m_wave), ((ad 9), aI cy 7776 m_domOf), ((ad 10), aI cy 7776 m_ranOf)] → va_S A s.heap H locs → lv_has ls 3 [(0, .ref (ad 0)), (2, .int x2)] → W p l e { frames := 3, cells := 0, slots := 0, locals := 65 } s m args below meth c H locs 0 0 (MQ below ((fun A => va_Qi (fun (r : Int32) (_ : Unit) => Q r ) (zE D vwCl A (fun (_ : Unit) => [((ad 0), oX8 ad m_said m_waved m_places m_end m_joints m_netPlaces m_begin m_finish m_rounds m_sews), ((ad 5), aI cy 7776 m_wave), ((ad 9), aI cy 7776 m_domOf), ((ad 10), aI cy 7776 m_ranOf)])) A) A) args s 0 0 A) (F0 m 43 ls [.int t1, .int t0]) := by
    intro x2 t0 t1 rc4 hrc4  h H locs ls hP hD hS hl
    unfold wp_X8_kinds_43 at h
    refine lv_iadd hx hb dX8_kinds_43 ?_
    refine lv_topi (fun x1_10 e_x1_10 => ?_)
    have h := h x1_10 e_x1_10
    refine lv_istore_n (lv' := [(1, .int x1_10), (0, .ref (ad 0)), (2, .int x2)]) hx hb dX8_kinds_44 rfl hl (by decide) rfl (fun ls hl => ?_)
    obtain ⟨x2_11, e_x2_11⟩ : ∃ y : Int32, y = x2 + (1 : Int32) := ⟨_, rfl⟩
    refine lv_iinc (v := x2_11) (lv' := [(2, .int x2_11), (1, .int x1_10), (0, .ref (ad 0))]) hx hb dX8_kinds_45 hl (k := 2) rfl (by rw [e_x2_11]; rfl) (by decide) rfl (fun ls hl => ?_)
    have h := h x2_11 e_x2_11
    refine lv_goto (tgt := 4) hx hb dX8_kinds_48 (by decide) ?_
    exact hrc4 x1_10 x2_11 h _ _ _ hP hD hS (lv_sub hl [2, 1, 0] rfl)
  have hJ4 : ∀ (x1 : Int32) (x2 : Int32), wp_X8_kinds_4 m_waved m_wave m_domOf m_ranOf  Q x1 x2 → ∀ (H : Heap) (locs : List Loc) (ls : Array Slot), va_P D vwCl [((ad 0), oX8 ad m_said m_waved m_places m_end m_joints m_netPlaces m_begin m_finish m_rounds m_sews), ((ad 5), aI cy 7776 m_wave), ((ad 9), aI cy 7776 m_domOf), ((ad 10), aI cy 7776 m_ranOf)] H → va_D A [((ad 0), oX8 ad m_said m_waved m_places m_end m_joints m_netPlaces m_begin m_finish m_rounds m_sews), ((ad 5), aI cy 7776 m_wave), ((ad 9), aI cy 7776 m_domOf), ((ad 10), aI cy 7776 m_ranOf)] → va_S A s.heap H locs → lv_has ls 3 [(0, .ref (ad 0)), (1, .int x1), (2, .int x2)] → W p l e { frames := 3, cells := 0, slots := 0, locals := 65 } s m args below meth c H locs 0 0 (MQ below ((fun A => va_Qi (fun (r : Int32) (_ : Unit) => Q r ) (zE D vwCl A (fun (_ : Unit) => [((ad 0), oX8 ad m_said m_waved m_places m_end m_joints m_netPlaces m_begin m_finish m_rounds m_sews), ((ad 5), aI cy 7776 m_wave), ((ad 9), aI cy 7776 m_domOf), ((ad 10), aI cy 7776 m_ranOf)])) A) A) args s 0 0 A) (F0 m 4 ls []) := by
    intro x1 x2   h
    obtain ⟨nn, h⟩ := h
    have key : ∀ (nn : Nat) (x1 : Int32) (x2 : Int32), lpW2 (wb_X8_kinds_4 m_waved m_wave m_domOf m_ranOf  Q) nn x1 x2 → ∀ (H : Heap) (locs : List Loc) (ls : Array Slot), va_P D vwCl [((ad 0), oX8 ad m_said m_waved m_places m_end m_joints m_netPlaces m_begin m_finish m_rounds m_sews), ((ad 5), aI cy 7776 m_wave), ((ad 9), aI cy 7776 m_domOf), ((ad 10), aI cy 7776 m_ranOf)] H → va_D A [((ad 0), oX8 ad m_said m_waved m_places m_end m_joints m_netPlaces m_begin m_finish m_rounds m_sews), ((ad 5), aI cy 7776 m_wave), ((ad 9), aI cy 7776 m_domOf), ((ad 10), aI cy 7776 m_ranOf)] → va_S A s.heap H locs → lv_has ls 3 [(0, .ref (ad 0)), (1, .int x1), (2, .int x2)] → W p l e { frames := 3, cells := 0, slots := 0, locals := 65 } s m args below meth c H locs 0 0 (MQ below ((fun A => va_Qi (fun (r : Int32) (_ : Unit) => Q r ) (zE D vwCl A (fun (_ : Unit) => [((ad 0), oX8 ad m_said m_waved m_places m_end m_joints m_netPlaces m_begin m_finish m_rounds m_sews), ((ad 5), aI cy 7776 m_wave), ((ad 9), aI cy 7776 m_domOf), ((ad 10), aI cy 7776 m_ranOf)])) A) A) args s 0 0 A) (F0 m 4 ls []) := by
      intro nn
      induction nn with
      | zero => intro x1 x2 h; exact h.elim
      | succ nn hrc4 =>
        intro x1 x2 h H locs ls hP hD hS hl
        have h : wb_X8_kinds_4 m_waved m_wave m_domOf m_ranOf  Q (lpW2 (wb_X8_kinds_4 m_waved m_wave m_domOf m_ranOf  Q) nn) x1 x2 := h
        unfold wb_X8_kinds_4 at h
        refine lv_iload_n hx hb dX8_kinds_4 rfl (lv_at hl 2 rfl) ?_
        refine lv_aload_n hx hb dX8_kinds_5 rfl (lv_at hl 0 rfl) ?_
        refine va_get (D := D) (ci := 7) (v := .int m_waved) (C := RX8) (T := TX8) (N := 35) hx hb hts iX8 hown hK hP 0 rfl rfl 6 (Nat.le_of_ble_eq_true rfl) (hts _ fl_X8_160) (fun _ h9 => h9) rfl dX8_kinds_6 ?_
        refine lv_icmp_ge (tgt := 51) hx hb dX8_kinds_9 (by decide) (fun c_12 => ?_) (fun c_12 => ?_)
        · have h := h.1 c_12
          refine lv_iload_n hx hb dX8_kinds_51 rfl (lv_at hl 1 rfl) ?_
          exact z_iret () hx hb hr hlocks h hP hD hS dX8_kinds_52
        · have h := h.2 c_12
          refine lv_iload_n hx hb dX8_kinds_12 rfl (lv_at hl 1 rfl) ?_
          refine lv_aload_n hx hb dX8_kinds_13 rfl (lv_at hl 0 rfl) ?_
          refine va_get (D := D) (ci := 7) (v := .ref (ad 5)) (C := RX8) (T := TX8) (N := 35) hx hb hts iX8 hown hK hP 0 rfl rfl 5 (Nat.le_of_ble_eq_true rfl) (hts _ fl_X8_23) (fun _ h9 => h9) rfl dX8_kinds_14 ?_
          refine lv_iload_n hx hb dX8_kinds_17 rfl (lv_at hl 2 rfl) ?_
          obtain ⟨hi_13, h⟩ := h
          refine va_iald hx hb hK hP 1 0 rfl rfl hi_13 dX8_kinds_18 ?_
          refine zc_S0 (As := [.int (m_wave x2.toNatClampNeg)]) (rest := [.int x1]) hx hb hml hown hts hK hPW hA hl.1 hP hS ⟨Nat.zero_le _, Nat.zero_le _⟩ (c_X8_isIdempotent l D cy (sz := _) (x0 := (m_wave x2.toNatClampNeg)) (h := h)) k_X8_119 ⟨rfl, rfl, (Nat.le_of_ble_eq_true rfl), (Nat.le_of_ble_eq_true rfl)⟩ rfl rfl (Nat.le_of_ble_eq_true rfl) dX8_kinds_19 (fun r_14 H locs h hP hS => ?_)
          refine lv_if_eq (tgt := 42) hx hb dX8_kinds_22 (by decide) (fun c_15 => ?_) (fun c_15 => ?_)
          · have h := h.1 c_15
            refine lv_iconst (v := (0 : Int32)) hx hb dX8_kinds_42 (by decide) ?_
            exact hJ43 x2 x1 (0 : Int32) _ hrc4  h _ _ _ hP hD hS (lv_sub hl [0, 2] rfl)
          · have h := h.2 c_15
            refine lv_aload_n hx hb dX8_kinds_25 rfl (lv_at hl 0 rfl) ?_
            refine lv_aload_n hx hb dX8_kinds_26 rfl (lv_at hl 0 rfl) ?_
            refine va_get (D := D) (ci := 7) (v := .ref (ad 5)) (C := RX8) (T := TX8) (N := 35) hx hb hts iX8 hown hK hP 0 rfl rfl 5 (Nat.le_of_ble_eq_true rfl) (hts _ fl_X8_23) (fun _ h9 => h9) rfl dX8_kinds_27 ?_
            refine lv_iload_n hx hb dX8_kinds_30 rfl (lv_at hl 2 rfl) ?_
            obtain ⟨hi_16, h⟩ := h
            refine va_iald hx hb hK hP 1 0 rfl rfl hi_16 dX8_kinds_31 ?_
            refine zc_Vi (As := [.int (m_wave x2.toNatClampNeg)]) (rest := [.int x1]) (wc := [((ad 0), oX8 ad m_said m_waved m_places m_end m_joints m_netPlaces m_begin m_finish m_rounds m_sews), ((ad 9), aI cy 7776 m_domOf), ((ad 10), aI cy 7776 m_ranOf)]) (wr := [((ad 5), aI cy 7776 m_wave)]) hx hb hml hown hts hK hPW hA hl.1 hP hD hS ⟨Nat.zero_le _, Nat.zero_le _⟩ [0, 2, 3] [1] rfl rfl (by decide) (c_X8_isLeastOfKind l D cy (sz := _) (x1 := (m_wave x2.toNatClampNeg)) (ad := ad) (m_said := m_said) (m_waved := m_waved) (m_places := m_places) (m_end := m_end) (m_joints := m_joints) (m_netPlaces := m_netPlaces) (m_begin := m_begin) (m_finish := m_finish) (m_rounds := m_rounds) (m_sews := m_sews) (m_domOf := m_domOf) (m_ranOf := m_ranOf) (h := h)) k_X8_167 ⟨rfl, rfl, (Nat.le_of_ble_eq_true rfl), (Nat.le_of_ble_eq_true rfl)⟩ rfl rfl rfl rfl (Nat.le_of_ble_eq_true rfl) dX8_kinds_32 (fun r_17 _ H locs h hP hD hS => ?_)
            have hP : va_P D vwCl [((ad 5), aI cy 7776 m_wave), ((ad 0), oX8 ad m_said m_waved m_places m_end m_joints m_netPlaces m_begin m_finish m_rounds m_sews), ((ad 9), aI cy 7776 m_domOf), ((ad 10), aI cy 7776 m_ranOf)] H := hP
            have hD : va_D A [((ad 5), aI cy 7776 m_wave), ((ad 0), oX8 ad m_said m_waved m_places m_end m_joints m_netPlaces m_begin m_finish m_rounds m_sews), ((ad 9), aI cy 7776 m_domOf), ((ad 10), aI cy 7776 m_ranOf)] := hD
            refine lv_if_eq (tgt := 42) hx hb dX8_kinds_35 (by decide) (fun c_18 => ?_) (fun c_18 => ?_)
            · have h := h.1 c_18
              refine lv_iconst (v := (0 : Int32)) hx hb dX8_kinds_42 (by decide) ?_
              exact hJ43 x2 x1 (0 : Int32) _ hrc4  h _ _ _ (hP.sub [1, 0, 2, 3] rfl) (hD.sub [1, 0, 2, 3] (by decide) rfl) hS (lv_sub hl [0, 2] rfl)
            · have h := h.2 c_18
              refine lv_iconst (v := (1 : Int32)) hx hb dX8_kinds_38 (by decide) ?_
              refine lv_goto (tgt := 43) hx hb dX8_kinds_39 (by decide) ?_
              exact hJ43 x2 x1 (1 : Int32) _ hrc4  h _ _ _ (hP.sub [1, 0, 2, 3] rfl) (hD.sub [1, 0, 2, 3] (by decide) rfl) hS (lv_sub hl [0, 2] rfl)
    exact key nn x1 x2 h
  unfold wp_X8_kinds at h
  refine lv_iconst (v := (0 : Int32)) hx hb dX8_kinds_0 (by decide) ?_
  refine lv_istore_n (lv' := [(1, .int (0 : Int32)), (0, .ref (ad 0))]) hx hb dX8_kinds_1 rfl hl (by decide) rfl (fun ls hl => ?_)
  refine lv_iconst (v := (0 : Int32)) hx hb dX8_kinds_2 (by decide) ?_
  refine lv_istore_n (lv' := [(2, .int (0 : Int32)), (1, .int (0 : Int32)), (0, .ref (ad 0))]) hx hb dX8_kinds_3 rfl hl (by decide) rfl (fun ls hl => ?_)
  exact hJ4 (0 : Int32) (0 : Int32)   h _ _ _ hP hD hS (lv_sub hl [2, 1, 0] rfl)
set_option maxHeartbeats 4000000 in
set_option maxRecDepth 100000 in
theorem c_X8_groupOf (l : Launch) (D : va_G) (cy : Nat → ClassId) (ad : Nat → Nat) (sz : Nat) (m_said : Int32) (m_waved : Int32) (m_places : Int32) (m_end : Int32) (m_joints : Int32) (m_netPlaces : Int32) (m_begin : Int32) (m_finish : Int32) (m_rounds : Int32) (m_sews : Int32) (m_domOf : Nat → Int32) (m_ranOf : Nat → Int32) (x1 : Int32) {Q : Int32 → Prop} (h : wp_X8_groupOf x1 m_waved m_domOf m_ranOf Q) : Met l yX8_groupOf (wsU yX8_groupOf cX8_groupOf 4 (some .int)) { frames := 0, cells := 0, slots := 0, locals := 0 } (va_Pc [.ref (ad 0), .int x1] (zB D vwCl (tyU cy) [((ad 0), oX8 ad m_said m_waved m_places m_end m_joints m_netPlaces m_begin m_finish m_rounds m_sews), ((ad 9), aI cy 7776 m_domOf), ((ad 10), aI cy 7776 m_ranOf)] sz)) ((fun A => va_Qi (fun (r : Int32) (_ : Unit) => Q r ) (zE D vwCl A (fun (_ : Unit) => [((ad 0), oX8 ad m_said m_waved m_places m_end m_joints m_netPlaces m_begin m_finish m_rounds m_sews), ((ad 9), aI cy 7776 m_domOf), ((ad 10), aI cy 7776 m_ranOf)])) A) (va_A [((ad 0), oX8 ad m_said m_waved m_places m_end m_joints m_netPlaces m_begin m_finish m_rounds m_sews), ((ad 9), aI cy 7776 m_domOf), ((ad 10), aI cy 7776 m_ranOf)] sz)) 0 0 (va_A [((ad 0), oX8 ad m_said m_waved m_places m_end m_joints m_netPlaces m_begin m_finish m_rounds m_sews), ((ad 9), aI cy 7776 m_domOf), ((ad 10), aI cy 7776 m_ranOf)] sz) := by
  refine z_ofX (fun A => va_Qi (fun (r : Int32) (_ : Unit) => Q r ) (zE D vwCl A (fun (_ : Unit) => [((ad 0), oX8 ad m_said m_waved m_places m_end m_joints m_netPlaces m_begin m_finish m_rounds m_sews), ((ad 9), aI cy 7776 m_domOf), ((ad 10), aI cy 7776 m_ranOf)])) A) (by decide) (Nat.le_of_ble_eq_true rfl) (fun p e s m below meth c A ls hx hb hr hml hown hts hlocks hK hPW hA hP hD hS hl => ?_)
  have hl : lv_has ls 4 [(0, .ref (ad 0)), (1, .int x1)] := hl
  have hown : s.vm.findClass RX8 = some m.cls := hown
  generalize hArg : ([.ref (ad 0), .int x1] : List Value).toArray = args at hts ⊢
  have hJ38 : ∀ (x1 : Int32) (x3 : Int32) (t0 : Int32) (t1 : Int32) (rc4 : Int32 → Int32 → Prop) (hrc4 : ∀ (x2 : Int32) (x3 : Int32), rc4 x2 x3 → ∀ (H : Heap) (locs : List Loc) (ls : Array Slot), va_P D vwCl [((ad 0), oX8 ad m_said m_waved m_places m_end m_joints m_netPlaces m_begin m_finish m_rounds m_sews), ((ad 9), aI cy 7776 m_domOf), ((ad 10), aI cy 7776 m_ranOf)] H → va_D A [((ad 0), oX8 ad m_said m_waved m_places m_end m_joints m_netPlaces m_begin m_finish m_rounds m_sews), ((ad 9), aI cy 7776 m_domOf), ((ad 10), aI cy 7776 m_ranOf)] → va_S A s.heap H locs → lv_has ls 4 [(0, .ref (ad 0)), (1, .int x1), (2, .int x2), (3, .int x3)] → W p l e { frames := 0, cells := 0, slots := 0, locals := 0 } s m args below meth c H locs 0 0 (MQ below ((fun A => va_Qi (fun (r : Int32) (_ : Unit) => Q r ) (zE D vwCl A (fun (_ : Unit) => [((ad 0), oX8 ad m_said m_waved m_places m_end m_joints m_netPlaces m_begin m_finish m_rounds m_sews), ((ad 9), aI cy 7776 m_domOf), ((ad 10), aI cy 7776 m_ranOf)])) A) A) args s 0 0 A) (F0 m 4 ls [])), wp_X8_groupOf_38 m_waved m_domOf m_ranOf x1 x3 t0 t1 rc4 Q → ∀ (H : Heap) (locs : List Loc) (ls : Array Slot), va_P D vwCl [((ad 0), oX8 ad m_said m_waved m_places m_end m_joints m_netPlaces m_begin m_finish m_rounds m_sews), ((ad 9), aI cy 7776 m_domOf), ((ad 10), aI cy 7776 m_ranOf)] H → va_D A [((ad 0), oX8 ad m_said m_waved m_places m_end m_joints m_netPlaces m_begin m_finish m_rounds m_sews), ((ad 9), aI cy 7776 m_domOf), ((ad 10), aI cy 7776 m_ranOf)] → va_S A s.heap H locs → lv_has ls 4 [(0, .ref (ad 0)), (1, .int x1), (3, .int x3)] → W p l e { frames := 0, cells := 0, slots := 0, locals := 0 } s m args below meth c H locs 0 0 (MQ below ((fun A => va_Qi (fun (r : Int32) (_ : Unit) => Q r ) (zE D vwCl A (fun (_ : Unit) => [((ad 0), oX8 ad m_said m_waved m_places m_end m_joints m_netPlaces m_begin m_finish m_rounds m_sews), ((ad 9), aI cy 7776 m_domOf), ((ad 10), aI cy 7776 m_ranOf)])) A) A) args s 0 0 A) (F0 m 38 ls [.int t1, .int t0]) := by
    intro x1 x3 t0 t1 rc4 hrc4  h H locs ls hP hD hS hl
    unfold wp_X8_groupOf_38 at h
    refine lv_iadd hx hb dX8_groupOf_38 ?_
    refine lv_topi (fun x2_8 e_x2_8 => ?_)
    have h := h x2_8 e_x2_8
    refine lv_istore_n (lv' := [(2, .int x2_8), (0, .ref (ad 0)), (1, .int x1), (3, .int x3)]) hx hb dX8_groupOf_39 rfl hl (by decide) rfl (fun ls hl => ?_)
    obtain ⟨x3_9, e_x3_9⟩ : ∃ y : Int32, y = x3 + (1 : Int32) := ⟨_, rfl⟩
    refine lv_iinc (v := x3_9) (lv' := [(3, .int x3_9), (2, .int x2_8), (0, .ref (ad 0)), (1, .int x1)]) hx hb dX8_groupOf_40 hl (k := 3) rfl (by rw [e_x3_9]; rfl) (by decide) rfl (fun ls hl => ?_)
    have h := h x3_9 e_x3_9
    refine lv_goto (tgt := 4) hx hb dX8_groupOf_43 (by decide) ?_
    exact hrc4 x2_8 x3_9 h _ _ _ hP hD hS (lv_sub hl [2, 3, 1, 0] rfl)
  have hJ4 : ∀ (x1 : Int32) (x2 : Int32) (x3 : Int32), wp_X8_groupOf_4 m_waved m_domOf m_ranOf x1  Q x2 x3 → ∀ (H : Heap) (locs : List Loc) (ls : Array Slot), va_P D vwCl [((ad 0), oX8 ad m_said m_waved m_places m_end m_joints m_netPlaces m_begin m_finish m_rounds m_sews), ((ad 9), aI cy 7776 m_domOf), ((ad 10), aI cy 7776 m_ranOf)] H → va_D A [((ad 0), oX8 ad m_said m_waved m_places m_end m_joints m_netPlaces m_begin m_finish m_rounds m_sews), ((ad 9), aI cy 7776 m_domOf), ((ad 10), aI cy 7776 m_ranOf)] → va_S A s.heap H locs → lv_has ls 4 [(0, .ref (ad 0)), (1, .int x1), (2, .int x2), (3, .int x3)] → W p l e { frames := 0, cells := 0, slots := 0, locals := 0 } s m args below meth c H locs 0 0 (MQ below ((fun A => va_Qi (fun (r : Int32) (_ : Unit) => Q r ) (zE D vwCl A (fun (_ : Unit) => [((ad 0), oX8 ad m_said m_waved m_places m_end m_joints m_netPlaces m_begin m_finish m_rounds m_sews), ((ad 9), aI cy 7776 m_domOf), ((ad 10), aI cy 7776 m_ranOf)])) A) A) args s 0 0 A) (F0 m 4 ls []) := by
    intro x1 x2 x3   h
    obtain ⟨nn, h⟩ := h
    have key : ∀ (nn : Nat) (x2 : Int32) (x3 : Int32), lpW2 (wb_X8_groupOf_4 m_waved m_domOf m_ranOf x1  Q) nn x2 x3 → ∀ (H : Heap) (locs : List Loc) (ls : Array Slot), va_P D vwCl [((ad 0), oX8 ad m_said m_waved m_places m_end m_joints m_netPlaces m_begin m_finish m_rounds m_sews), ((ad 9), aI cy 7776 m_domOf), ((ad 10), aI cy 7776 m_ranOf)] H → va_D A [((ad 0), oX8 ad m_said m_waved m_places m_end m_joints m_netPlaces m_begin m_finish m_rounds m_sews), ((ad 9), aI cy 7776 m_domOf), ((ad 10), aI cy 7776 m_ranOf)] → va_S A s.heap H locs → lv_has ls 4 [(0, .ref (ad 0)), (1, .int x1), (2, .int x2), (3, .int x3)] → W p l e { frames := 0, cells := 0, slots := 0, locals := 0 } s m args below meth c H locs 0 0 (MQ below ((fun A => va_Qi (fun (r : Int32) (_ : Unit) => Q r ) (zE D vwCl A (fun (_ : Unit) => [((ad 0), oX8 ad m_said m_waved m_places m_end m_joints m_netPlaces m_begin m_finish m_rounds m_sews), ((ad 9), aI cy 7776 m_domOf), ((ad 10), aI cy 7776 m_ranOf)])) A) A) args s 0 0 A) (F0 m 4 ls []) := by
      intro nn
      induction nn with
      | zero => intro x2 x3 h; exact h.elim
      | succ nn hrc4 =>
        intro x2 x3 h H locs ls hP hD hS hl
        have h : wb_X8_groupOf_4 m_waved m_domOf m_ranOf x1  Q (lpW2 (wb_X8_groupOf_4 m_waved m_domOf m_ranOf x1  Q) nn) x2 x3 := h
        unfold wb_X8_groupOf_4 at h
        refine lv_iload_n hx hb dX8_groupOf_4 rfl (lv_at hl 3 rfl) ?_
        refine lv_aload_n hx hb dX8_groupOf_5 rfl (lv_at hl 0 rfl) ?_
        refine va_get (D := D) (ci := 7) (v := .int m_waved) (C := RX8) (T := TX8) (N := 35) hx hb hts iX8 hown hK hP 0 rfl rfl 6 (Nat.le_of_ble_eq_true rfl) (hts _ fl_X8_160) (fun _ h9 => h9) rfl dX8_groupOf_6 ?_
        refine lv_icmp_ge (tgt := 46) hx hb dX8_groupOf_9 (by decide) (fun c_10 => ?_) (fun c_10 => ?_)
        · have h := h.1 c_10
          refine lv_iload_n hx hb dX8_groupOf_46 rfl (lv_at hl 2 rfl) ?_
          exact z_iret () hx hb hr hlocks h hP hD hS dX8_groupOf_47
        · have h := h.2 c_10
          refine lv_iload_n hx hb dX8_groupOf_12 rfl (lv_at hl 2 rfl) ?_
          refine lv_aload_n hx hb dX8_groupOf_13 rfl (lv_at hl 0 rfl) ?_
          refine va_get (D := D) (ci := 7) (v := .ref (ad 9)) (C := RX8) (T := TX8) (N := 35) hx hb hts iX8 hown hK hP 0 rfl rfl 10 (Nat.le_of_ble_eq_true rfl) (hts _ fl_X8_35) (fun _ h9 => h9) rfl dX8_groupOf_14 ?_
          refine lv_iload_n hx hb dX8_groupOf_17 rfl (lv_at hl 3 rfl) ?_
          obtain ⟨hi_11, h⟩ := h
          refine va_iald hx hb hK hP 1 0 rfl rfl hi_11 dX8_groupOf_18 ?_
          refine lv_iload_n hx hb dX8_groupOf_19 rfl (lv_at hl 1 rfl) ?_
          refine lv_icmp_ne (tgt := 37) hx hb dX8_groupOf_20 (by decide) (fun c_12 => ?_) (fun c_12 => ?_)
          · have h := h.1 c_12
            refine lv_iconst (v := (0 : Int32)) hx hb dX8_groupOf_37 (by decide) ?_
            exact hJ38 x1 x3 x2 (0 : Int32) _ hrc4  h _ _ _ hP hD hS (lv_sub hl [0, 1, 3] rfl)
          · have h := h.2 c_12
            refine lv_aload_n hx hb dX8_groupOf_23 rfl (lv_at hl 0 rfl) ?_
            refine va_get (D := D) (ci := 7) (v := .ref (ad 10)) (C := RX8) (T := TX8) (N := 35) hx hb hts iX8 hown hK hP 0 rfl rfl 11 (Nat.le_of_ble_eq_true rfl) (hts _ fl_X8_38) (fun _ h9 => h9) rfl dX8_groupOf_24 ?_
            refine lv_iload_n hx hb dX8_groupOf_27 rfl (lv_at hl 3 rfl) ?_
            obtain ⟨hi_13, h⟩ := h
            refine va_iald hx hb hK hP 2 0 rfl rfl hi_13 dX8_groupOf_28 ?_
            refine lv_iload_n hx hb dX8_groupOf_29 rfl (lv_at hl 1 rfl) ?_
            refine lv_icmp_ne (tgt := 37) hx hb dX8_groupOf_30 (by decide) (fun c_14 => ?_) (fun c_14 => ?_)
            · have h := h.1 c_14
              refine lv_iconst (v := (0 : Int32)) hx hb dX8_groupOf_37 (by decide) ?_
              exact hJ38 x1 x3 x2 (0 : Int32) _ hrc4  h _ _ _ hP hD hS (lv_sub hl [0, 1, 3] rfl)
            · have h := h.2 c_14
              refine lv_iconst (v := (1 : Int32)) hx hb dX8_groupOf_33 (by decide) ?_
              refine lv_goto (tgt := 38) hx hb dX8_groupOf_34 (by decide) ?_
              exact hJ38 x1 x3 x2 (1 : Int32) _ hrc4  h _ _ _ hP hD hS (lv_sub hl [0, 1, 3] rfl)
    exact key nn x2 x3 h
  unfold wp_X8_groupOf at h
  refine lv_iconst (v := (0 : Int32)) hx hb dX8_groupOf_0 (by decide) ?_
  refine lv_istore_n (lv' := [(2, .int (0 : Int32)), (0, .ref (ad 0)), (1, .int x1)]) hx hb dX8_groupOf_1 rfl hl (by decide) rfl (fun ls hl => ?_)
  refine lv_iconst (v := (0 : Int32)) hx hb dX8_groupOf_2 (by decide) ?_
  refine lv_istore_n (lv' := [(3, .int (0 : Int32)), (2, .int (0 : Int32)), (0, .ref (ad 0)), (1, .int x1)]) hx hb dX8_groupOf_3 rfl hl (by decide) rfl (fun ls hl => ?_)
  exact hJ4 x1 (0 : Int32) (0 : Int32)   h _ _ _ hP hD hS (lv_sub hl [2, 3, 1, 0] rfl)
set_option maxHeartbeats 4000000 in
set_option maxRecDepth 100000 in
theorem c_X8_greatestGroup (l : Launch) (D : va_G) (cy : Nat → ClassId) (ad : Nat → Nat) (sz : Nat) (m_said : Int32) (m_waved : Int32) (m_places : Int32) (m_end : Int32) (m_joints : Int32) (m_netPlaces : Int32) (m_begin : Int32) (m_finish : Int32) (m_rounds : Int32) (m_sews : Int32) (m_wave : Nat → Int32) (m_domOf : Nat → Int32) (m_ranOf : Nat → Int32) {Q : Int32 → Prop} (h : wp_X8_greatestGroup m_waved m_wave m_domOf m_ranOf Q) : Met l yX8_greatestGroup (wsU yX8_greatestGroup cX8_greatestGroup 4 (some .int)) { frames := 3, cells := 0, slots := 0, locals := 65 } (va_Pc [.ref (ad 0)] (zB D vwCl (tyU cy) [((ad 0), oX8 ad m_said m_waved m_places m_end m_joints m_netPlaces m_begin m_finish m_rounds m_sews), ((ad 5), aI cy 7776 m_wave), ((ad 9), aI cy 7776 m_domOf), ((ad 10), aI cy 7776 m_ranOf)] sz)) ((fun A => va_Qi (fun (r : Int32) (_ : Unit) => Q r ) (zE D vwCl A (fun (_ : Unit) => [((ad 0), oX8 ad m_said m_waved m_places m_end m_joints m_netPlaces m_begin m_finish m_rounds m_sews), ((ad 5), aI cy 7776 m_wave), ((ad 9), aI cy 7776 m_domOf), ((ad 10), aI cy 7776 m_ranOf)])) A) (va_A [((ad 0), oX8 ad m_said m_waved m_places m_end m_joints m_netPlaces m_begin m_finish m_rounds m_sews), ((ad 5), aI cy 7776 m_wave), ((ad 9), aI cy 7776 m_domOf), ((ad 10), aI cy 7776 m_ranOf)] sz)) 0 0 (va_A [((ad 0), oX8 ad m_said m_waved m_places m_end m_joints m_netPlaces m_begin m_finish m_rounds m_sews), ((ad 5), aI cy 7776 m_wave), ((ad 9), aI cy 7776 m_domOf), ((ad 10), aI cy 7776 m_ranOf)] sz) := by
  refine z_ofX (fun A => va_Qi (fun (r : Int32) (_ : Unit) => Q r ) (zE D vwCl A (fun (_ : Unit) => [((ad 0), oX8 ad m_said m_waved m_places m_end m_joints m_netPlaces m_begin m_finish m_rounds m_sews), ((ad 5), aI cy 7776 m_wave), ((ad 9), aI cy 7776 m_domOf), ((ad 10), aI cy 7776 m_ranOf)])) A) (by decide) (Nat.le_of_ble_eq_true rfl) (fun p e s m below meth c A ls hx hb hr hml hown hts hlocks hK hPW hA hP hD hS hl => ?_)
  have hl : lv_has ls 4 [(0, .ref (ad 0))] := hl
  have hown : s.vm.findClass RX8 = some m.cls := hown
  generalize hArg : ([.ref (ad 0)] : List Value).toArray = args at hts ⊢
  have hJ49 : ∀ (x2 : Int32) (t0 : Int32) (rc4 : Int32 → Int32 → Prop) (hrc4 : ∀ (x1 : Int32) (x2 : Int32), rc4 x1 x2 → ∀ (H : Heap) (locs : List Loc) (ls : Array Slot), va_P D vwCl [((ad 0), oX8 ad m_said m_waved m_places m_end m_joints m_netPlaces m_begin m_finish m_rounds m_sews), ((ad 5), aI cy 7776 m_wave), ((ad 9), aI cy 7776 m_domOf), ((ad 10), aI cy 7776 m_ranOf)] H → va_D A [((ad 0), oX8 ad m_said m_waved m_places m_end m_joints m_netPlaces m_begin m_finish m_rounds m_sews), ((ad 5), aI cy 7776 m_wave), ((ad 9), aI cy 7776 m_domOf), ((ad 10), aI cy 7776 m_ranOf)] → va_S A s.heap H locs → lv_has ls 4 [(0, .ref (ad 0)), (1, .int x1), (2, .int x2)] → W p l e { frames := 3, cells := 0, slots := 0, locals := 65 } s m args below meth c H locs 0 0 (MQ below ((fun A => va_Qi (fun (r : Int32) (_ : Unit) => Q r ) (zE D vwCl A (fun (_ : Unit) => [((ad 0), oX8 ad m_said m_waved m_places m_end m_joints m_netPlaces m_begin m_finish m_rounds m_sews), ((ad 5), aI cy 7776 m_wave), ((ad 9), aI cy 7776 m_domOf), ((ad 10), aI cy 7776 m_ranOf)])) A) A) args s 0 0 A) (F0 m 4 ls [])), wp_X8_greatestGroup_49 m_waved m_wave m_domOf m_ranOf x2 t0 rc4 Q → ∀ (H : Heap) (locs : List Loc) (ls : Array Slot), va_P D vwCl [((ad 0), oX8 ad m_said m_waved m_places m_end m_joints m_netPlaces m_begin m_finish m_rounds m_sews), ((ad 5), aI cy 7776 m_wave), ((ad 9), aI cy 7776 m_domOf), ((ad 10), aI cy 7776 m_ranOf)] H → va_D A [((ad 0), oX8 ad m_said m_waved m_places m_end m_joints m_netPlaces m_begin m_finish m_rounds m_sews), ((ad 5), aI cy 7776 m_wave), ((ad 9), aI cy 7776 m_domOf), ((ad 10), aI cy 7776 m_ranOf)] → va_S A s.heap H locs → lv_has ls 4 [(0, .ref (ad 0)), (2, .int x2)] → W p l e { frames := 3, cells := 0, slots := 0, locals := 65 } s m args below meth c H locs 0 0 (MQ below ((fun A => va_Qi (fun (r : Int32) (_ : Unit) => Q r ) (zE D vwCl A (fun (_ : Unit) => [((ad 0), oX8 ad m_said m_waved m_places m_end m_joints m_netPlaces m_begin m_finish m_rounds m_sews), ((ad 5), aI cy 7776 m_wave), ((ad 9), aI cy 7776 m_domOf), ((ad 10), aI cy 7776 m_ranOf)])) A) A) args s 0 0 A) (F0 m 49 ls [.int t0]) := by
    intro x2 t0 rc4 hrc4  h H locs ls hP hD hS hl
    unfold wp_X8_greatestGroup_49 at h
    refine lv_istore_n (lv' := [(1, .int t0), (0, .ref (ad 0)), (2, .int x2)]) hx hb dX8_greatestGroup_49 rfl hl (by decide) rfl (fun ls hl => ?_)
    obtain ⟨x2_9, e_x2_9⟩ : ∃ y : Int32, y = x2 + (1 : Int32) := ⟨_, rfl⟩
    refine lv_iinc (v := x2_9) (lv' := [(2, .int x2_9), (1, .int t0), (0, .ref (ad 0))]) hx hb dX8_greatestGroup_50 hl (k := 2) rfl (by rw [e_x2_9]; rfl) (by decide) rfl (fun ls hl => ?_)
    have h := h x2_9 e_x2_9
    refine lv_goto (tgt := 4) hx hb dX8_greatestGroup_53 (by decide) ?_
    exact hrc4 t0 x2_9 h _ _ _ hP hD hS (lv_sub hl [2, 1, 0] rfl)
  have hJ38 : ∀ (x1 : Int32) (x2 : Int32) (t0 : Int32) (rc4 : Int32 → Int32 → Prop) (hrc4 : ∀ (x1 : Int32) (x2 : Int32), rc4 x1 x2 → ∀ (H : Heap) (locs : List Loc) (ls : Array Slot), va_P D vwCl [((ad 0), oX8 ad m_said m_waved m_places m_end m_joints m_netPlaces m_begin m_finish m_rounds m_sews), ((ad 5), aI cy 7776 m_wave), ((ad 9), aI cy 7776 m_domOf), ((ad 10), aI cy 7776 m_ranOf)] H → va_D A [((ad 0), oX8 ad m_said m_waved m_places m_end m_joints m_netPlaces m_begin m_finish m_rounds m_sews), ((ad 5), aI cy 7776 m_wave), ((ad 9), aI cy 7776 m_domOf), ((ad 10), aI cy 7776 m_ranOf)] → va_S A s.heap H locs → lv_has ls 4 [(0, .ref (ad 0)), (1, .int x1), (2, .int x2)] → W p l e { frames := 3, cells := 0, slots := 0, locals := 65 } s m args below meth c H locs 0 0 (MQ below ((fun A => va_Qi (fun (r : Int32) (_ : Unit) => Q r ) (zE D vwCl A (fun (_ : Unit) => [((ad 0), oX8 ad m_said m_waved m_places m_end m_joints m_netPlaces m_begin m_finish m_rounds m_sews), ((ad 5), aI cy 7776 m_wave), ((ad 9), aI cy 7776 m_domOf), ((ad 10), aI cy 7776 m_ranOf)])) A) A) args s 0 0 A) (F0 m 4 ls [])), wp_X8_greatestGroup_38 m_waved m_wave m_domOf m_ranOf x1 x2 t0 rc4 Q → ∀ (H : Heap) (locs : List Loc) (ls : Array Slot), va_P D vwCl [((ad 0), oX8 ad m_said m_waved m_places m_end m_joints m_netPlaces m_begin m_finish m_rounds m_sews), ((ad 5), aI cy 7776 m_wave), ((ad 9), aI cy 7776 m_domOf), ((ad 10), aI cy 7776 m_ranOf)] H → va_D A [((ad 0), oX8 ad m_said m_waved m_places m_end m_joints m_netPlaces m_begin m_finish m_rounds m_sews), ((ad 5), aI cy 7776 m_wave), ((ad 9), aI cy 7776 m_domOf), ((ad 10), aI cy 7776 m_ranOf)] → va_S A s.heap H locs → lv_has ls 4 [(0, .ref (ad 0)), (1, .int x1), (2, .int x2)] → W p l e { frames := 3, cells := 0, slots := 0, locals := 65 } s m args below meth c H locs 0 0 (MQ below ((fun A => va_Qi (fun (r : Int32) (_ : Unit) => Q r ) (zE D vwCl A (fun (_ : Unit) => [((ad 0), oX8 ad m_said m_waved m_places m_end m_joints m_netPlaces m_begin m_finish m_rounds m_sews), ((ad 5), aI cy 7776 m_wave), ((ad 9), aI cy 7776 m_domOf), ((ad 10), aI cy 7776 m_ranOf)])) A) A) args s 0 0 A) (F0 m 38 ls [.int t0]) := by
    intro x1 x2 t0 rc4 hrc4  h H locs ls hP hD hS hl
    unfold wp_X8_greatestGroup_38 at h
    refine lv_istore_n (lv' := [(3, .int t0), (0, .ref (ad 0)), (1, .int x1), (2, .int x2)]) hx hb dX8_greatestGroup_38 rfl hl (by decide) rfl (fun ls hl => ?_)
    refine lv_iload_n hx hb dX8_greatestGroup_39 rfl (lv_at hl 0 rfl) ?_
    refine lv_iload_n hx hb dX8_greatestGroup_40 rfl (lv_at hl 2 rfl) ?_
    refine lv_icmp_le (tgt := 48) hx hb dX8_greatestGroup_41 (by decide) (fun c_10 => ?_) (fun c_10 => ?_)
    · have h := h.1 c_10
      refine lv_iload_n hx hb dX8_greatestGroup_48 rfl (lv_at hl 2 rfl) ?_
      exact hJ49 x2 x1 _ hrc4  h _ _ _ hP hD hS (lv_sub hl [1, 3] rfl)
    · have h := h.2 c_10
      refine lv_iload_n hx hb dX8_greatestGroup_44 rfl (lv_at hl 0 rfl) ?_
      refine lv_goto (tgt := 49) hx hb dX8_greatestGroup_45 (by decide) ?_
      exact hJ49 x2 t0 _ hrc4  h _ _ _ hP hD hS (lv_sub hl [1, 3] rfl)
  have hJ4 : ∀ (x1 : Int32) (x2 : Int32), wp_X8_greatestGroup_4 m_waved m_wave m_domOf m_ranOf  Q x1 x2 → ∀ (H : Heap) (locs : List Loc) (ls : Array Slot), va_P D vwCl [((ad 0), oX8 ad m_said m_waved m_places m_end m_joints m_netPlaces m_begin m_finish m_rounds m_sews), ((ad 5), aI cy 7776 m_wave), ((ad 9), aI cy 7776 m_domOf), ((ad 10), aI cy 7776 m_ranOf)] H → va_D A [((ad 0), oX8 ad m_said m_waved m_places m_end m_joints m_netPlaces m_begin m_finish m_rounds m_sews), ((ad 5), aI cy 7776 m_wave), ((ad 9), aI cy 7776 m_domOf), ((ad 10), aI cy 7776 m_ranOf)] → va_S A s.heap H locs → lv_has ls 4 [(0, .ref (ad 0)), (1, .int x1), (2, .int x2)] → W p l e { frames := 3, cells := 0, slots := 0, locals := 65 } s m args below meth c H locs 0 0 (MQ below ((fun A => va_Qi (fun (r : Int32) (_ : Unit) => Q r ) (zE D vwCl A (fun (_ : Unit) => [((ad 0), oX8 ad m_said m_waved m_places m_end m_joints m_netPlaces m_begin m_finish m_rounds m_sews), ((ad 5), aI cy 7776 m_wave), ((ad 9), aI cy 7776 m_domOf), ((ad 10), aI cy 7776 m_ranOf)])) A) A) args s 0 0 A) (F0 m 4 ls []) := by
    intro x1 x2   h
    obtain ⟨nn, h⟩ := h
    have key : ∀ (nn : Nat) (x1 : Int32) (x2 : Int32), lpW2 (wb_X8_greatestGroup_4 m_waved m_wave m_domOf m_ranOf  Q) nn x1 x2 → ∀ (H : Heap) (locs : List Loc) (ls : Array Slot), va_P D vwCl [((ad 0), oX8 ad m_said m_waved m_places m_end m_joints m_netPlaces m_begin m_finish m_rounds m_sews), ((ad 5), aI cy 7776 m_wave), ((ad 9), aI cy 7776 m_domOf), ((ad 10), aI cy 7776 m_ranOf)] H → va_D A [((ad 0), oX8 ad m_said m_waved m_places m_end m_joints m_netPlaces m_begin m_finish m_rounds m_sews), ((ad 5), aI cy 7776 m_wave), ((ad 9), aI cy 7776 m_domOf), ((ad 10), aI cy 7776 m_ranOf)] → va_S A s.heap H locs → lv_has ls 4 [(0, .ref (ad 0)), (1, .int x1), (2, .int x2)] → W p l e { frames := 3, cells := 0, slots := 0, locals := 65 } s m args below meth c H locs 0 0 (MQ below ((fun A => va_Qi (fun (r : Int32) (_ : Unit) => Q r ) (zE D vwCl A (fun (_ : Unit) => [((ad 0), oX8 ad m_said m_waved m_places m_end m_joints m_netPlaces m_begin m_finish m_rounds m_sews), ((ad 5), aI cy 7776 m_wave), ((ad 9), aI cy 7776 m_domOf), ((ad 10), aI cy 7776 m_ranOf)])) A) A) args s 0 0 A) (F0 m 4 ls []) := by
      intro nn
      induction nn with
      | zero => intro x1 x2 h; exact h.elim
      | succ nn hrc4 =>
        intro x1 x2 h H locs ls hP hD hS hl
        have h : wb_X8_greatestGroup_4 m_waved m_wave m_domOf m_ranOf  Q (lpW2 (wb_X8_greatestGroup_4 m_waved m_wave m_domOf m_ranOf  Q) nn) x1 x2 := h
        unfold wb_X8_greatestGroup_4 at h
        refine lv_iload_n hx hb dX8_greatestGroup_4 rfl (lv_at hl 2 rfl) ?_
        refine lv_aload_n hx hb dX8_greatestGroup_5 rfl (lv_at hl 0 rfl) ?_
        refine va_get (D := D) (ci := 7) (v := .int m_waved) (C := RX8) (T := TX8) (N := 35) hx hb hts iX8 hown hK hP 0 rfl rfl 6 (Nat.le_of_ble_eq_true rfl) (hts _ fl_X8_160) (fun _ h9 => h9) rfl dX8_greatestGroup_6 ?_
        refine lv_icmp_ge (tgt := 56) hx hb dX8_greatestGroup_9 (by decide) (fun c_11 => ?_) (fun c_11 => ?_)
        · have h := h.1 c_11
          refine lv_iload_n hx hb dX8_greatestGroup_56 rfl (lv_at hl 1 rfl) ?_
          exact z_iret () hx hb hr hlocks h hP hD hS dX8_greatestGroup_57
        · have h := h.2 c_11
          refine lv_aload_n hx hb dX8_greatestGroup_12 rfl (lv_at hl 0 rfl) ?_
          refine va_get (D := D) (ci := 7) (v := .ref (ad 5)) (C := RX8) (T := TX8) (N := 35) hx hb hts iX8 hown hK hP 0 rfl rfl 5 (Nat.le_of_ble_eq_true rfl) (hts _ fl_X8_23) (fun _ h9 => h9) rfl dX8_greatestGroup_13 ?_
          refine lv_iload_n hx hb dX8_greatestGroup_16 rfl (lv_at hl 2 rfl) ?_
          obtain ⟨hi_12, h⟩ := h
          refine va_iald hx hb hK hP 1 0 rfl rfl hi_12 dX8_greatestGroup_17 ?_
          refine zc_S0 (As := [.int (m_wave x2.toNatClampNeg)]) (rest := []) hx hb hml hown hts hK hPW hA hl.1 hP hS ⟨Nat.zero_le _, Nat.zero_le _⟩ (c_X8_isIdempotent l D cy (sz := _) (x0 := (m_wave x2.toNatClampNeg)) (h := h)) k_X8_119 ⟨rfl, rfl, (Nat.le_of_ble_eq_true rfl), (Nat.le_of_ble_eq_true rfl)⟩ rfl rfl (Nat.le_of_ble_eq_true rfl) dX8_greatestGroup_18 (fun r_13 H locs h hP hS => ?_)
          refine lv_if_eq (tgt := 37) hx hb dX8_greatestGroup_21 (by decide) (fun c_14 => ?_) (fun c_14 => ?_)
          · have h := h.1 c_14
            refine lv_iconst (v := (0 : Int32)) hx hb dX8_greatestGroup_37 (by decide) ?_
            exact hJ38 x1 x2 (0 : Int32) _ hrc4  h _ _ _ hP hD hS (lv_sub hl [0, 1, 2] rfl)
          · have h := h.2 c_14
            refine lv_aload_n hx hb dX8_greatestGroup_24 rfl (lv_at hl 0 rfl) ?_
            refine lv_aload_n hx hb dX8_greatestGroup_25 rfl (lv_at hl 0 rfl) ?_
            refine va_get (D := D) (ci := 7) (v := .ref (ad 5)) (C := RX8) (T := TX8) (N := 35) hx hb hts iX8 hown hK hP 0 rfl rfl 5 (Nat.le_of_ble_eq_true rfl) (hts _ fl_X8_23) (fun _ h9 => h9) rfl dX8_greatestGroup_26 ?_
            refine lv_iload_n hx hb dX8_greatestGroup_29 rfl (lv_at hl 2 rfl) ?_
            obtain ⟨hi_15, h⟩ := h
            refine va_iald hx hb hK hP 1 0 rfl rfl hi_15 dX8_greatestGroup_30 ?_
            refine zc_Vi (As := [.int (m_wave x2.toNatClampNeg)]) (rest := []) (wc := [((ad 0), oX8 ad m_said m_waved m_places m_end m_joints m_netPlaces m_begin m_finish m_rounds m_sews), ((ad 9), aI cy 7776 m_domOf), ((ad 10), aI cy 7776 m_ranOf)]) (wr := [((ad 5), aI cy 7776 m_wave)]) hx hb hml hown hts hK hPW hA hl.1 hP hD hS ⟨Nat.zero_le _, Nat.zero_le _⟩ [0, 2, 3] [1] rfl rfl (by decide) (c_X8_groupOf l D cy (sz := _) (x1 := (m_wave x2.toNatClampNeg)) (ad := ad) (m_said := m_said) (m_waved := m_waved) (m_places := m_places) (m_end := m_end) (m_joints := m_joints) (m_netPlaces := m_netPlaces) (m_begin := m_begin) (m_finish := m_finish) (m_rounds := m_rounds) (m_sews := m_sews) (m_domOf := m_domOf) (m_ranOf := m_ranOf) (h := h)) k_X8_170 ⟨rfl, rfl, (Nat.le_of_ble_eq_true rfl), (Nat.le_of_ble_eq_true rfl)⟩ rfl rfl rfl rfl (Nat.le_of_ble_eq_true rfl) dX8_greatestGroup_31 (fun r_16 _ H locs h hP hD hS => ?_)
            have hP : va_P D vwCl [((ad 5), aI cy 7776 m_wave), ((ad 0), oX8 ad m_said m_waved m_places m_end m_joints m_netPlaces m_begin m_finish m_rounds m_sews), ((ad 9), aI cy 7776 m_domOf), ((ad 10), aI cy 7776 m_ranOf)] H := hP
            have hD : va_D A [((ad 5), aI cy 7776 m_wave), ((ad 0), oX8 ad m_said m_waved m_places m_end m_joints m_netPlaces m_begin m_finish m_rounds m_sews), ((ad 9), aI cy 7776 m_domOf), ((ad 10), aI cy 7776 m_ranOf)] := hD
            refine lv_goto (tgt := 38) hx hb dX8_greatestGroup_34 (by decide) ?_
            exact hJ38 x1 x2 r_16 _ hrc4  h _ _ _ (hP.sub [1, 0, 2, 3] rfl) (hD.sub [1, 0, 2, 3] (by decide) rfl) hS (lv_sub hl [0, 1, 2] rfl)
    exact key nn x1 x2 h
  unfold wp_X8_greatestGroup at h
  refine lv_iconst (v := (0 : Int32)) hx hb dX8_greatestGroup_0 (by decide) ?_
  refine lv_istore_n (lv' := [(1, .int (0 : Int32)), (0, .ref (ad 0))]) hx hb dX8_greatestGroup_1 rfl hl (by decide) rfl (fun ls hl => ?_)
  refine lv_iconst (v := (0 : Int32)) hx hb dX8_greatestGroup_2 (by decide) ?_
  refine lv_istore_n (lv' := [(2, .int (0 : Int32)), (1, .int (0 : Int32)), (0, .ref (ad 0))]) hx hb dX8_greatestGroup_3 rfl hl (by decide) rfl (fun ls hl => ?_)
  exact hJ4 (0 : Int32) (0 : Int32)   h _ _ _ hP hD hS (lv_sub hl [2, 1, 0] rfl)
set_option maxHeartbeats 4000000 in
set_option maxRecDepth 100000 in
theorem c_X8_hasBelow (l : Launch) (D : va_G) (cy : Nat → ClassId) (ad : Nat → Nat) (sz : Nat) (m_said : Int32) (m_waved : Int32) (m_places : Int32) (m_end : Int32) (m_joints : Int32) (m_netPlaces : Int32) (m_begin : Int32) (m_finish : Int32) (m_rounds : Int32) (m_sews : Int32) (m_wave : Nat → Int32) (x1 : Int32) {Q : Int32 → Prop} (h : wp_X8_hasBelow x1 m_waved m_wave Q) : Met l yX8_hasBelow (wsU yX8_hasBelow cX8_hasBelow 4 (some .boolean)) { frames := 3, cells := 0, slots := 0, locals := 66 } (va_Pc [.ref (ad 0), .int x1] (zB D vwCl (tyU cy) [((ad 0), oX8 ad m_said m_waved m_places m_end m_joints m_netPlaces m_begin m_finish m_rounds m_sews), ((ad 5), aI cy 7776 m_wave)] sz)) ((fun A => va_Qi (fun (r : Int32) (_ : Unit) => Q r ) (zE D vwCl A (fun (_ : Unit) => [((ad 0), oX8 ad m_said m_waved m_places m_end m_joints m_netPlaces m_begin m_finish m_rounds m_sews), ((ad 5), aI cy 7776 m_wave)])) A) (va_A [((ad 0), oX8 ad m_said m_waved m_places m_end m_joints m_netPlaces m_begin m_finish m_rounds m_sews), ((ad 5), aI cy 7776 m_wave)] sz)) 0 0 (va_A [((ad 0), oX8 ad m_said m_waved m_places m_end m_joints m_netPlaces m_begin m_finish m_rounds m_sews), ((ad 5), aI cy 7776 m_wave)] sz) := by
  refine z_ofX (fun A => va_Qi (fun (r : Int32) (_ : Unit) => Q r ) (zE D vwCl A (fun (_ : Unit) => [((ad 0), oX8 ad m_said m_waved m_places m_end m_joints m_netPlaces m_begin m_finish m_rounds m_sews), ((ad 5), aI cy 7776 m_wave)])) A) (by decide) (Nat.le_of_ble_eq_true rfl) (fun p e s m below meth c A ls hx hb hr hml hown hts hlocks hK hPW hA hP hD hS hl => ?_)
  have hl : lv_has ls 4 [(0, .ref (ad 0)), (1, .int x1)] := hl
  have hown : s.vm.findClass RX8 = some m.cls := hown
  generalize hArg : ([.ref (ad 0), .int x1] : List Value).toArray = args at hts ⊢
  have hJ46 : ∀ (x1 : Int32) (x3 : Int32) (t0 : Int32) (rc4 : Int32 → Int32 → Prop) (hrc4 : ∀ (x2 : Int32) (x3 : Int32), rc4 x2 x3 → ∀ (H : Heap) (locs : List Loc) (ls : Array Slot), va_P D vwCl [((ad 0), oX8 ad m_said m_waved m_places m_end m_joints m_netPlaces m_begin m_finish m_rounds m_sews), ((ad 5), aI cy 7776 m_wave)] H → va_D A [((ad 0), oX8 ad m_said m_waved m_places m_end m_joints m_netPlaces m_begin m_finish m_rounds m_sews), ((ad 5), aI cy 7776 m_wave)] → va_S A s.heap H locs → lv_has ls 4 [(0, .ref (ad 0)), (1, .int x1), (2, .int x2), (3, .int x3)] → W p l e { frames := 3, cells := 0, slots := 0, locals := 66 } s m args below meth c H locs 0 0 (MQ below ((fun A => va_Qi (fun (r : Int32) (_ : Unit) => Q r ) (zE D vwCl A (fun (_ : Unit) => [((ad 0), oX8 ad m_said m_waved m_places m_end m_joints m_netPlaces m_begin m_finish m_rounds m_sews), ((ad 5), aI cy 7776 m_wave)])) A) A) args s 0 0 A) (F0 m 4 ls [])), wp_X8_hasBelow_46 m_waved m_wave x1 x3 t0 rc4 Q → ∀ (H : Heap) (locs : List Loc) (ls : Array Slot), va_P D vwCl [((ad 0), oX8 ad m_said m_waved m_places m_end m_joints m_netPlaces m_begin m_finish m_rounds m_sews), ((ad 5), aI cy 7776 m_wave)] H → va_D A [((ad 0), oX8 ad m_said m_waved m_places m_end m_joints m_netPlaces m_begin m_finish m_rounds m_sews), ((ad 5), aI cy 7776 m_wave)] → va_S A s.heap H locs → lv_has ls 4 [(0, .ref (ad 0)), (1, .int x1), (3, .int x3)] → W p l e { frames := 3, cells := 0, slots := 0, locals := 66 } s m args below meth c H locs 0 0 (MQ below ((fun A => va_Qi (fun (r : Int32) (_ : Unit) => Q r ) (zE D vwCl A (fun (_ : Unit) => [((ad 0), oX8 ad m_said m_waved m_places m_end m_joints m_netPlaces m_begin m_finish m_rounds m_sews), ((ad 5), aI cy 7776 m_wave)])) A) A) args s 0 0 A) (F0 m 46 ls [.int t0]) := by
    intro x1 x3 t0 rc4 hrc4  h H locs ls hP hD hS hl
    unfold wp_X8_hasBelow_46 at h
    refine lv_istore_n (lv' := [(2, .int t0), (0, .ref (ad 0)), (1, .int x1), (3, .int x3)]) hx hb dX8_hasBelow_46 rfl hl (by decide) rfl (fun ls hl => ?_)
    obtain ⟨x3_10, e_x3_10⟩ : ∃ y : Int32, y = x3 + (1 : Int32) := ⟨_, rfl⟩
    refine lv_iinc (v := x3_10) (lv' := [(3, .int x3_10), (2, .int t0), (0, .ref (ad 0)), (1, .int x1)]) hx hb dX8_hasBelow_47 hl (k := 3) rfl (by rw [e_x3_10]; rfl) (by decide) rfl (fun ls hl => ?_)
    have h := h x3_10 e_x3_10
    refine lv_goto (tgt := 4) hx hb dX8_hasBelow_50 (by decide) ?_
    exact hrc4 t0 x3_10 h _ _ _ hP hD hS (lv_sub hl [2, 3, 1, 0] rfl)
  have hJ4 : ∀ (x1 : Int32) (x2 : Int32) (x3 : Int32), wp_X8_hasBelow_4 m_waved m_wave x1  Q x2 x3 → ∀ (H : Heap) (locs : List Loc) (ls : Array Slot), va_P D vwCl [((ad 0), oX8 ad m_said m_waved m_places m_end m_joints m_netPlaces m_begin m_finish m_rounds m_sews), ((ad 5), aI cy 7776 m_wave)] H → va_D A [((ad 0), oX8 ad m_said m_waved m_places m_end m_joints m_netPlaces m_begin m_finish m_rounds m_sews), ((ad 5), aI cy 7776 m_wave)] → va_S A s.heap H locs → lv_has ls 4 [(0, .ref (ad 0)), (1, .int x1), (2, .int x2), (3, .int x3)] → W p l e { frames := 3, cells := 0, slots := 0, locals := 66 } s m args below meth c H locs 0 0 (MQ below ((fun A => va_Qi (fun (r : Int32) (_ : Unit) => Q r ) (zE D vwCl A (fun (_ : Unit) => [((ad 0), oX8 ad m_said m_waved m_places m_end m_joints m_netPlaces m_begin m_finish m_rounds m_sews), ((ad 5), aI cy 7776 m_wave)])) A) A) args s 0 0 A) (F0 m 4 ls []) := by
    intro x1 x2 x3   h
    obtain ⟨nn, h⟩ := h
    have key : ∀ (nn : Nat) (x2 : Int32) (x3 : Int32), lpW2 (wb_X8_hasBelow_4 m_waved m_wave x1  Q) nn x2 x3 → ∀ (H : Heap) (locs : List Loc) (ls : Array Slot), va_P D vwCl [((ad 0), oX8 ad m_said m_waved m_places m_end m_joints m_netPlaces m_begin m_finish m_rounds m_sews), ((ad 5), aI cy 7776 m_wave)] H → va_D A [((ad 0), oX8 ad m_said m_waved m_places m_end m_joints m_netPlaces m_begin m_finish m_rounds m_sews), ((ad 5), aI cy 7776 m_wave)] → va_S A s.heap H locs → lv_has ls 4 [(0, .ref (ad 0)), (1, .int x1), (2, .int x2), (3, .int x3)] → W p l e { frames := 3, cells := 0, slots := 0, locals := 66 } s m args below meth c H locs 0 0 (MQ below ((fun A => va_Qi (fun (r : Int32) (_ : Unit) => Q r ) (zE D vwCl A (fun (_ : Unit) => [((ad 0), oX8 ad m_said m_waved m_places m_end m_joints m_netPlaces m_begin m_finish m_rounds m_sews), ((ad 5), aI cy 7776 m_wave)])) A) A) args s 0 0 A) (F0 m 4 ls []) := by
      intro nn
      induction nn with
      | zero => intro x2 x3 h; exact h.elim
      | succ nn hrc4 =>
        intro x2 x3 h H locs ls hP hD hS hl
        have h : wb_X8_hasBelow_4 m_waved m_wave x1  Q (lpW2 (wb_X8_hasBelow_4 m_waved m_wave x1  Q) nn) x2 x3 := h
        unfold wb_X8_hasBelow_4 at h
        refine lv_iload_n hx hb dX8_hasBelow_4 rfl (lv_at hl 3 rfl) ?_
        refine lv_aload_n hx hb dX8_hasBelow_5 rfl (lv_at hl 0 rfl) ?_
        refine va_get (D := D) (ci := 7) (v := .int m_waved) (C := RX8) (T := TX8) (N := 35) hx hb hts iX8 hown hK hP 0 rfl rfl 6 (Nat.le_of_ble_eq_true rfl) (hts _ fl_X8_160) (fun _ h9 => h9) rfl dX8_hasBelow_6 ?_
        refine lv_icmp_ge (tgt := 53) hx hb dX8_hasBelow_9 (by decide) (fun c_11 => ?_) (fun c_11 => ?_)
        · have h := h.1 c_11
          refine lv_iload_n hx hb dX8_hasBelow_53 rfl (lv_at hl 2 rfl) ?_
          obtain ⟨hz, h⟩ := h
          exact z_zret () hx hb hr hlocks (isB.n hz) h hP hD hS dX8_hasBelow_54
        · have h := h.2 c_11
          refine lv_iload_n hx hb dX8_hasBelow_12 rfl (lv_at hl 2 rfl) ?_
          refine lv_if_ne (tgt := 53) hx hb dX8_hasBelow_13 (by decide) (fun c_12 => ?_) (fun c_12 => ?_)
          · have h := h.1 c_12
            refine lv_iload_n hx hb dX8_hasBelow_53 rfl (lv_at hl 2 rfl) ?_
            obtain ⟨hz, h⟩ := h
            exact z_zret () hx hb hr hlocks (isB.n hz) h hP hD hS dX8_hasBelow_54
          · have h := h.2 c_12
            refine lv_aload_n hx hb dX8_hasBelow_16 rfl (lv_at hl 0 rfl) ?_
            refine va_get (D := D) (ci := 7) (v := .ref (ad 5)) (C := RX8) (T := TX8) (N := 35) hx hb hts iX8 hown hK hP 0 rfl rfl 5 (Nat.le_of_ble_eq_true rfl) (hts _ fl_X8_23) (fun _ h9 => h9) rfl dX8_hasBelow_17 ?_
            refine lv_iload_n hx hb dX8_hasBelow_20 rfl (lv_at hl 3 rfl) ?_
            obtain ⟨hi_13, h⟩ := h
            refine va_iald hx hb hK hP 1 0 rfl rfl hi_13 dX8_hasBelow_21 ?_
            refine zc_S0 (As := [.int (m_wave x3.toNatClampNeg)]) (rest := []) hx hb hml hown hts hK hPW hA hl.1 hP hS ⟨Nat.zero_le _, Nat.zero_le _⟩ (c_X8_isIdempotent l D cy (sz := _) (x0 := (m_wave x3.toNatClampNeg)) (h := h)) k_X8_119 ⟨rfl, rfl, (Nat.le_of_ble_eq_true rfl), (Nat.le_of_ble_eq_true rfl)⟩ rfl rfl (Nat.le_of_ble_eq_true rfl) dX8_hasBelow_22 (fun r_14 H locs h hP hS => ?_)
            refine lv_if_eq (tgt := 45) hx hb dX8_hasBelow_25 (by decide) (fun c_15 => ?_) (fun c_15 => ?_)
            · have h := h.1 c_15
              refine lv_iconst (v := (0 : Int32)) hx hb dX8_hasBelow_45 (by decide) ?_
              exact hJ46 x1 x3 (0 : Int32) _ hrc4  h _ _ _ hP hD hS (lv_sub hl [0, 1, 3] rfl)
            · have h := h.2 c_15
              refine lv_aload_n hx hb dX8_hasBelow_28 rfl (lv_at hl 0 rfl) ?_
              refine va_get (D := D) (ci := 7) (v := .ref (ad 5)) (C := RX8) (T := TX8) (N := 35) hx hb hts iX8 hown hK hP 0 rfl rfl 5 (Nat.le_of_ble_eq_true rfl) (hts _ fl_X8_23) (fun _ h9 => h9) rfl dX8_hasBelow_29 ?_
              refine lv_iload_n hx hb dX8_hasBelow_32 rfl (lv_at hl 3 rfl) ?_
              obtain ⟨hi_16, h⟩ := h
              refine va_iald hx hb hK hP 1 0 rfl rfl hi_16 dX8_hasBelow_33 ?_
              refine lv_iload_n hx hb dX8_hasBelow_34 rfl (lv_at hl 1 rfl) ?_
              refine zc_S0 (As := [.int (m_wave x3.toNatClampNeg), .int x1]) (rest := []) hx hb hml hown hts hK hPW hA hl.1 hP hS ⟨Nat.zero_le _, Nat.zero_le _⟩ (c_X8_isBelow l D cy (sz := _) (x0 := (m_wave x3.toNatClampNeg)) (x1 := x1) (h := h)) k_X8_143 ⟨rfl, rfl, (Nat.le_of_ble_eq_true rfl), (Nat.le_of_ble_eq_true rfl)⟩ rfl rfl (Nat.le_of_ble_eq_true rfl) dX8_hasBelow_35 (fun r_17 H locs h hP hS => ?_)
              refine lv_if_eq (tgt := 45) hx hb dX8_hasBelow_38 (by decide) (fun c_18 => ?_) (fun c_18 => ?_)
              · have h := h.1 c_18
                refine lv_iconst (v := (0 : Int32)) hx hb dX8_hasBelow_45 (by decide) ?_
                exact hJ46 x1 x3 (0 : Int32) _ hrc4  h _ _ _ hP hD hS (lv_sub hl [0, 1, 3] rfl)
              · have h := h.2 c_18
                refine lv_iconst (v := (1 : Int32)) hx hb dX8_hasBelow_41 (by decide) ?_
                refine lv_goto (tgt := 46) hx hb dX8_hasBelow_42 (by decide) ?_
                exact hJ46 x1 x3 (1 : Int32) _ hrc4  h _ _ _ hP hD hS (lv_sub hl [0, 1, 3] rfl)
    exact key nn x2 x3 h
  unfold wp_X8_hasBelow at h
  refine lv_iconst (v := (0 : Int32)) hx hb dX8_hasBelow_0 (by decide) ?_
  refine lv_istore_n (lv' := [(2, .int (0 : Int32)), (0, .ref (ad 0)), (1, .int x1)]) hx hb dX8_hasBelow_1 rfl hl (by decide) rfl (fun ls hl => ?_)
  refine lv_iconst (v := (0 : Int32)) hx hb dX8_hasBelow_2 (by decide) ?_
  refine lv_istore_n (lv' := [(3, .int (0 : Int32)), (2, .int (0 : Int32)), (0, .ref (ad 0)), (1, .int x1)]) hx hb dX8_hasBelow_3 rfl hl (by decide) rfl (fun ls hl => ?_)
  exact hJ4 x1 (0 : Int32) (0 : Int32)   h _ _ _ hP hD hS (lv_sub hl [2, 3, 1, 0] rfl)
set_option maxHeartbeats 4000000 in
set_option maxRecDepth 100000 in
theorem c_X8_isClean (l : Launch) (D : va_G) (cy : Nat → ClassId) (ad : Nat → Nat) (sz : Nat) (m_said : Int32) (m_waved : Int32) (m_places : Int32) (m_end : Int32) (m_joints : Int32) (m_netPlaces : Int32) (m_begin : Int32) (m_finish : Int32) (m_rounds : Int32) (m_sews : Int32) (m_wave : Nat → Int32) {Q : Int32 → Prop} (h : wp_X8_isClean m_waved m_wave Q) : Met l yX8_isClean (wsU yX8_isClean cX8_isClean 3 (some .boolean)) { frames := 4, cells := 0, slots := 0, locals := 89 } (va_Pc [.ref (ad 0)] (zB D vwCl (tyU cy) [((ad 0), oX8 ad m_said m_waved m_places m_end m_joints m_netPlaces m_begin m_finish m_rounds m_sews), ((ad 5), aI cy 7776 m_wave)] sz)) ((fun A => va_Qi (fun (r : Int32) (_ : Unit) => Q r ) (zE D vwCl A (fun (_ : Unit) => [((ad 0), oX8 ad m_said m_waved m_places m_end m_joints m_netPlaces m_begin m_finish m_rounds m_sews), ((ad 5), aI cy 7776 m_wave)])) A) (va_A [((ad 0), oX8 ad m_said m_waved m_places m_end m_joints m_netPlaces m_begin m_finish m_rounds m_sews), ((ad 5), aI cy 7776 m_wave)] sz)) 0 0 (va_A [((ad 0), oX8 ad m_said m_waved m_places m_end m_joints m_netPlaces m_begin m_finish m_rounds m_sews), ((ad 5), aI cy 7776 m_wave)] sz) := by
  refine z_ofX (fun A => va_Qi (fun (r : Int32) (_ : Unit) => Q r ) (zE D vwCl A (fun (_ : Unit) => [((ad 0), oX8 ad m_said m_waved m_places m_end m_joints m_netPlaces m_begin m_finish m_rounds m_sews), ((ad 5), aI cy 7776 m_wave)])) A) (by decide) (Nat.le_of_ble_eq_true rfl) (fun p e s m below meth c A ls hx hb hr hml hown hts hlocks hK hPW hA hP hD hS hl => ?_)
  have hl : lv_has ls 3 [(0, .ref (ad 0))] := hl
  have hown : s.vm.findClass RX8 = some m.cls := hown
  generalize hArg : ([.ref (ad 0)] : List Value).toArray = args at hts ⊢
  have hJ46 : ∀ (x2 : Int32) (t0 : Int32) (rc4 : Int32 → Int32 → Prop) (hrc4 : ∀ (x1 : Int32) (x2 : Int32), rc4 x1 x2 → ∀ (H : Heap) (locs : List Loc) (ls : Array Slot), va_P D vwCl [((ad 0), oX8 ad m_said m_waved m_places m_end m_joints m_netPlaces m_begin m_finish m_rounds m_sews), ((ad 5), aI cy 7776 m_wave)] H → va_D A [((ad 0), oX8 ad m_said m_waved m_places m_end m_joints m_netPlaces m_begin m_finish m_rounds m_sews), ((ad 5), aI cy 7776 m_wave)] → va_S A s.heap H locs → lv_has ls 3 [(0, .ref (ad 0)), (1, .int x1), (2, .int x2)] → W p l e { frames := 4, cells := 0, slots := 0, locals := 89 } s m args below meth c H locs 0 0 (MQ below ((fun A => va_Qi (fun (r : Int32) (_ : Unit) => Q r ) (zE D vwCl A (fun (_ : Unit) => [((ad 0), oX8 ad m_said m_waved m_places m_end m_joints m_netPlaces m_begin m_finish m_rounds m_sews), ((ad 5), aI cy 7776 m_wave)])) A) A) args s 0 0 A) (F0 m 4 ls [])), wp_X8_isClean_46 m_waved m_wave x2 t0 rc4 Q → ∀ (H : Heap) (locs : List Loc) (ls : Array Slot), va_P D vwCl [((ad 0), oX8 ad m_said m_waved m_places m_end m_joints m_netPlaces m_begin m_finish m_rounds m_sews), ((ad 5), aI cy 7776 m_wave)] H → va_D A [((ad 0), oX8 ad m_said m_waved m_places m_end m_joints m_netPlaces m_begin m_finish m_rounds m_sews), ((ad 5), aI cy 7776 m_wave)] → va_S A s.heap H locs → lv_has ls 3 [(0, .ref (ad 0)), (2, .int x2)] → W p l e { frames := 4, cells := 0, slots := 0, locals := 89 } s m args below meth c H locs 0 0 (MQ below ((fun A => va_Qi (fun (r : Int32) (_ : Unit) => Q r ) (zE D vwCl A (fun (_ : Unit) => [((ad 0), oX8 ad m_said m_waved m_places m_end m_joints m_netPlaces m_begin m_finish m_rounds m_sews), ((ad 5), aI cy 7776 m_wave)])) A) A) args s 0 0 A) (F0 m 46 ls [.int t0]) := by
    intro x2 t0 rc4 hrc4  h H locs ls hP hD hS hl
    unfold wp_X8_isClean_46 at h
    refine lv_istore_n (lv' := [(1, .int t0), (0, .ref (ad 0)), (2, .int x2)]) hx hb dX8_isClean_46 rfl hl (by decide) rfl (fun ls hl => ?_)
    obtain ⟨x2_10, e_x2_10⟩ : ∃ y : Int32, y = x2 + (1 : Int32) := ⟨_, rfl⟩
    refine lv_iinc (v := x2_10) (lv' := [(2, .int x2_10), (1, .int t0), (0, .ref (ad 0))]) hx hb dX8_isClean_47 hl (k := 2) rfl (by rw [e_x2_10]; rfl) (by decide) rfl (fun ls hl => ?_)
    have h := h x2_10 e_x2_10
    refine lv_goto (tgt := 4) hx hb dX8_isClean_50 (by decide) ?_
    exact hrc4 t0 x2_10 h _ _ _ hP hD hS (lv_sub hl [2, 1, 0] rfl)
  have hJ4 : ∀ (x1 : Int32) (x2 : Int32), wp_X8_isClean_4 m_waved m_wave  Q x1 x2 → ∀ (H : Heap) (locs : List Loc) (ls : Array Slot), va_P D vwCl [((ad 0), oX8 ad m_said m_waved m_places m_end m_joints m_netPlaces m_begin m_finish m_rounds m_sews), ((ad 5), aI cy 7776 m_wave)] H → va_D A [((ad 0), oX8 ad m_said m_waved m_places m_end m_joints m_netPlaces m_begin m_finish m_rounds m_sews), ((ad 5), aI cy 7776 m_wave)] → va_S A s.heap H locs → lv_has ls 3 [(0, .ref (ad 0)), (1, .int x1), (2, .int x2)] → W p l e { frames := 4, cells := 0, slots := 0, locals := 89 } s m args below meth c H locs 0 0 (MQ below ((fun A => va_Qi (fun (r : Int32) (_ : Unit) => Q r ) (zE D vwCl A (fun (_ : Unit) => [((ad 0), oX8 ad m_said m_waved m_places m_end m_joints m_netPlaces m_begin m_finish m_rounds m_sews), ((ad 5), aI cy 7776 m_wave)])) A) A) args s 0 0 A) (F0 m 4 ls []) := by
    intro x1 x2   h
    obtain ⟨nn, h⟩ := h
    have key : ∀ (nn : Nat) (x1 : Int32) (x2 : Int32), lpW2 (wb_X8_isClean_4 m_waved m_wave  Q) nn x1 x2 → ∀ (H : Heap) (locs : List Loc) (ls : Array Slot), va_P D vwCl [((ad 0), oX8 ad m_said m_waved m_places m_end m_joints m_netPlaces m_begin m_finish m_rounds m_sews), ((ad 5), aI cy 7776 m_wave)] H → va_D A [((ad 0), oX8 ad m_said m_waved m_places m_end m_joints m_netPlaces m_begin m_finish m_rounds m_sews), ((ad 5), aI cy 7776 m_wave)] → va_S A s.heap H locs → lv_has ls 3 [(0, .ref (ad 0)), (1, .int x1), (2, .int x2)] → W p l e { frames := 4, cells := 0, slots := 0, locals := 89 } s m args below meth c H locs 0 0 (MQ below ((fun A => va_Qi (fun (r : Int32) (_ : Unit) => Q r ) (zE D vwCl A (fun (_ : Unit) => [((ad 0), oX8 ad m_said m_waved m_places m_end m_joints m_netPlaces m_begin m_finish m_rounds m_sews), ((ad 5), aI cy 7776 m_wave)])) A) A) args s 0 0 A) (F0 m 4 ls []) := by
      intro nn
      induction nn with
      | zero => intro x1 x2 h; exact h.elim
      | succ nn hrc4 =>
        intro x1 x2 h H locs ls hP hD hS hl
        have h : wb_X8_isClean_4 m_waved m_wave  Q (lpW2 (wb_X8_isClean_4 m_waved m_wave  Q) nn) x1 x2 := h
        unfold wb_X8_isClean_4 at h
        refine lv_iload_n hx hb dX8_isClean_4 rfl (lv_at hl 2 rfl) ?_
        refine lv_aload_n hx hb dX8_isClean_5 rfl (lv_at hl 0 rfl) ?_
        refine va_get (D := D) (ci := 7) (v := .int m_waved) (C := RX8) (T := TX8) (N := 35) hx hb hts iX8 hown hK hP 0 rfl rfl 6 (Nat.le_of_ble_eq_true rfl) (hts _ fl_X8_160) (fun _ h9 => h9) rfl dX8_isClean_6 ?_
        refine lv_icmp_ge (tgt := 53) hx hb dX8_isClean_9 (by decide) (fun c_11 => ?_) (fun c_11 => ?_)
        · have h := h.1 c_11
          refine lv_iload_n hx hb dX8_isClean_53 rfl (lv_at hl 1 rfl) ?_
          obtain ⟨hz, h⟩ := h
          exact z_zret () hx hb hr hlocks (isB.n hz) h hP hD hS dX8_isClean_54
        · have h := h.2 c_11
          refine lv_iload_n hx hb dX8_isClean_12 rfl (lv_at hl 1 rfl) ?_
          refine lv_if_eq (tgt := 53) hx hb dX8_isClean_13 (by decide) (fun c_12 => ?_) (fun c_12 => ?_)
          · have h := h.1 c_12
            refine lv_iload_n hx hb dX8_isClean_53 rfl (lv_at hl 1 rfl) ?_
            obtain ⟨hz, h⟩ := h
            exact z_zret () hx hb hr hlocks (isB.n hz) h hP hD hS dX8_isClean_54
          · have h := h.2 c_12
            refine lv_aload_n hx hb dX8_isClean_16 rfl (lv_at hl 0 rfl) ?_
            refine va_get (D := D) (ci := 7) (v := .ref (ad 5)) (C := RX8) (T := TX8) (N := 35) hx hb hts iX8 hown hK hP 0 rfl rfl 5 (Nat.le_of_ble_eq_true rfl) (hts _ fl_X8_23) (fun _ h9 => h9) rfl dX8_isClean_17 ?_
            refine lv_iload_n hx hb dX8_isClean_20 rfl (lv_at hl 2 rfl) ?_
            obtain ⟨hi_13, h⟩ := h
            refine va_iald hx hb hK hP 1 0 rfl rfl hi_13 dX8_isClean_21 ?_
            refine zc_S0 (As := [.int (m_wave x2.toNatClampNeg)]) (rest := []) hx hb hml hown hts hK hPW hA hl.1 hP hS ⟨Nat.zero_le _, Nat.zero_le _⟩ (c_X8_isIdempotent l D cy (sz := _) (x0 := (m_wave x2.toNatClampNeg)) (h := h)) k_X8_119 ⟨rfl, rfl, (Nat.le_of_ble_eq_true rfl), (Nat.le_of_ble_eq_true rfl)⟩ rfl rfl (Nat.le_of_ble_eq_true rfl) dX8_isClean_22 (fun r_14 H locs h hP hS => ?_)
            refine lv_if_ne (tgt := 41) hx hb dX8_isClean_25 (by decide) (fun c_15 => ?_) (fun c_15 => ?_)
            · have h := h.1 c_15
              refine lv_iconst (v := (1 : Int32)) hx hb dX8_isClean_41 (by decide) ?_
              refine lv_goto (tgt := 46) hx hb dX8_isClean_42 (by decide) ?_
              exact hJ46 x2 (1 : Int32) _ hrc4  h _ _ _ hP hD hS (lv_sub hl [0, 2] rfl)
            · have h := h.2 c_15
              refine lv_aload_n hx hb dX8_isClean_28 rfl (lv_at hl 0 rfl) ?_
              refine lv_aload_n hx hb dX8_isClean_29 rfl (lv_at hl 0 rfl) ?_
              refine va_get (D := D) (ci := 7) (v := .ref (ad 5)) (C := RX8) (T := TX8) (N := 35) hx hb hts iX8 hown hK hP 0 rfl rfl 5 (Nat.le_of_ble_eq_true rfl) (hts _ fl_X8_23) (fun _ h9 => h9) rfl dX8_isClean_30 ?_
              refine lv_iload_n hx hb dX8_isClean_33 rfl (lv_at hl 2 rfl) ?_
              obtain ⟨hi_16, h⟩ := h
              refine va_iald hx hb hK hP 1 0 rfl rfl hi_16 dX8_isClean_34 ?_
              refine zc_Vi (As := [.int (m_wave x2.toNatClampNeg)]) (rest := []) (wc := [((ad 0), oX8 ad m_said m_waved m_places m_end m_joints m_netPlaces m_begin m_finish m_rounds m_sews), ((ad 5), aI cy 7776 m_wave)]) (wr := []) hx hb hml hown hts hK hPW hA hl.1 hP hD hS ⟨Nat.zero_le _, Nat.zero_le _⟩ [0, 1] [] rfl rfl (by decide) (c_X8_hasBelow l D cy (sz := _) (x1 := (m_wave x2.toNatClampNeg)) (ad := ad) (m_said := m_said) (m_waved := m_waved) (m_places := m_places) (m_end := m_end) (m_joints := m_joints) (m_netPlaces := m_netPlaces) (m_begin := m_begin) (m_finish := m_finish) (m_rounds := m_rounds) (m_sews := m_sews) (m_wave := m_wave) (h := h)) k_X8_173 ⟨rfl, rfl, (Nat.le_of_ble_eq_true rfl), (Nat.le_of_ble_eq_true rfl)⟩ rfl rfl rfl rfl (Nat.le_of_ble_eq_true rfl) dX8_isClean_35 (fun r_17 _ H locs h hP hD hS => ?_)
              have hP : va_P D vwCl [((ad 0), oX8 ad m_said m_waved m_places m_end m_joints m_netPlaces m_begin m_finish m_rounds m_sews), ((ad 5), aI cy 7776 m_wave)] H := hP
              have hD : va_D A [((ad 0), oX8 ad m_said m_waved m_places m_end m_joints m_netPlaces m_begin m_finish m_rounds m_sews), ((ad 5), aI cy 7776 m_wave)] := hD
              refine lv_if_ne (tgt := 45) hx hb dX8_isClean_38 (by decide) (fun c_18 => ?_) (fun c_18 => ?_)
              · have h := h.1 c_18
                refine lv_iconst (v := (0 : Int32)) hx hb dX8_isClean_45 (by decide) ?_
                exact hJ46 x2 (0 : Int32) _ hrc4  h _ _ _ hP hD hS (lv_sub hl [0, 2] rfl)
              · have h := h.2 c_18
                refine lv_iconst (v := (1 : Int32)) hx hb dX8_isClean_41 (by decide) ?_
                refine lv_goto (tgt := 46) hx hb dX8_isClean_42 (by decide) ?_
                exact hJ46 x2 (1 : Int32) _ hrc4  h _ _ _ hP hD hS (lv_sub hl [0, 2] rfl)
    exact key nn x1 x2 h
  unfold wp_X8_isClean at h
  refine lv_iconst (v := (1 : Int32)) hx hb dX8_isClean_0 (by decide) ?_
  refine lv_istore_n (lv' := [(1, .int (1 : Int32)), (0, .ref (ad 0))]) hx hb dX8_isClean_1 rfl hl (by decide) rfl (fun ls hl => ?_)
  refine lv_iconst (v := (0 : Int32)) hx hb dX8_isClean_2 (by decide) ?_
  refine lv_istore_n (lv' := [(2, .int (0 : Int32)), (1, .int (1 : Int32)), (0, .ref (ad 0))]) hx hb dX8_isClean_3 rfl hl (by decide) rfl (fun ls hl => ?_)
  exact hJ4 (1 : Int32) (0 : Int32)   h _ _ _ hP hD hS (lv_sub hl [2, 1, 0] rfl)
set_option maxHeartbeats 4000000 in
set_option maxRecDepth 100000 in
theorem c_X8_imageGroup (l : Launch) (D : va_G) (cy : Nat → ClassId) (ad : Nat → Nat) (sz : Nat) (m_said : Int32) (m_waved : Int32) (m_places : Int32) (m_end : Int32) (m_joints : Int32) (m_netPlaces : Int32) (m_begin : Int32) (m_finish : Int32) (m_rounds : Int32) (m_sews : Int32) (m_wave : Nat → Int32) (m_isCome : Nat → Int32) {Q : Int32 → (Nat → Int32) → Prop} (h : wp_X8_imageGroup m_waved m_wave m_isCome Q) : Met l yX8_imageGroup (wsU yX8_imageGroup cX8_imageGroup 5 (some .int)) { frames := 3, cells := 0, slots := 0, locals := 67 } (va_Pc [.ref (ad 0)] (zB D vwCl (tyU cy) [((ad 0), oX8 ad m_said m_waved m_places m_end m_joints m_netPlaces m_begin m_finish m_rounds m_sews), ((ad 5), aI cy 7776 m_wave), ((ad 11), aZ cy 7776 m_isCome)] sz)) ((fun A => va_Qi (fun (r : Int32) (u : (Nat → Int32)) => Q r u) (zE D vwCl A (fun (u : (Nat → Int32)) => [((ad 0), oX8 ad m_said m_waved m_places m_end m_joints m_netPlaces m_begin m_finish m_rounds m_sews), ((ad 5), aI cy 7776 m_wave), ((ad 11), aZ cy 7776 u)])) A) (va_A [((ad 0), oX8 ad m_said m_waved m_places m_end m_joints m_netPlaces m_begin m_finish m_rounds m_sews), ((ad 5), aI cy 7776 m_wave), ((ad 11), aZ cy 7776 m_isCome)] sz)) 0 0 (va_A [((ad 0), oX8 ad m_said m_waved m_places m_end m_joints m_netPlaces m_begin m_finish m_rounds m_sews), ((ad 5), aI cy 7776 m_wave), ((ad 11), aZ cy 7776 m_isCome)] sz) := by
  refine z_ofX (fun A => va_Qi (fun (r : Int32) (u : (Nat → Int32)) => Q r u) (zE D vwCl A (fun (u : (Nat → Int32)) => [((ad 0), oX8 ad m_said m_waved m_places m_end m_joints m_netPlaces m_begin m_finish m_rounds m_sews), ((ad 5), aI cy 7776 m_wave), ((ad 11), aZ cy 7776 u)])) A) (by decide) (Nat.le_of_ble_eq_true rfl) (fun p e s m below meth c A ls hx hb hr hml hown hts hlocks hK hPW hA hP hD hS hl => ?_)
  have hl : lv_has ls 5 [(0, .ref (ad 0))] := hl
  have hown : s.vm.findClass RX8 = some m.cls := hown
  generalize hArg : ([.ref (ad 0)] : List Value).toArray = args at hts ⊢
  have hJ40 : ∀ (x2 : Int32) (t0 : Int32) (m_isCome : Nat → Int32) (rc6 : Int32 → Int32 → Prop) (hrc6 : ∀ (x1 : Int32) (x2 : Int32), rc6 x1 x2 → ∀ (H : Heap) (locs : List Loc) (ls : Array Slot), va_P D vwCl [((ad 0), oX8 ad m_said m_waved m_places m_end m_joints m_netPlaces m_begin m_finish m_rounds m_sews), ((ad 5), aI cy 7776 m_wave), ((ad 11), aZ cy 7776 m_isCome)] H → va_D A [((ad 0), oX8 ad m_said m_waved m_places m_end m_joints m_netPlaces m_begin m_finish m_rounds m_sews), ((ad 5), aI cy 7776 m_wave), ((ad 11), aZ cy 7776 m_isCome)] → va_S A s.heap H locs → lv_has ls 5 [(0, .ref (ad 0)), (1, .int x1), (2, .int x2)] → W p l e { frames := 3, cells := 0, slots := 0, locals := 67 } s m args below meth c H locs 0 0 (MQ below ((fun A => va_Qi (fun (r : Int32) (u : (Nat → Int32)) => Q r u) (zE D vwCl A (fun (u : (Nat → Int32)) => [((ad 0), oX8 ad m_said m_waved m_places m_end m_joints m_netPlaces m_begin m_finish m_rounds m_sews), ((ad 5), aI cy 7776 m_wave), ((ad 11), aZ cy 7776 u)])) A) A) args s 0 0 A) (F0 m 6 ls [])), wp_X8_imageGroup_40 m_waved m_wave x2 t0 m_isCome rc6 Q → ∀ (H : Heap) (locs : List Loc) (ls : Array Slot), va_P D vwCl [((ad 0), oX8 ad m_said m_waved m_places m_end m_joints m_netPlaces m_begin m_finish m_rounds m_sews), ((ad 5), aI cy 7776 m_wave), ((ad 11), aZ cy 7776 m_isCome)] H → va_D A [((ad 0), oX8 ad m_said m_waved m_places m_end m_joints m_netPlaces m_begin m_finish m_rounds m_sews), ((ad 5), aI cy 7776 m_wave), ((ad 11), aZ cy 7776 m_isCome)] → va_S A s.heap H locs → lv_has ls 5 [(0, .ref (ad 0)), (2, .int x2)] → W p l e { frames := 3, cells := 0, slots := 0, locals := 67 } s m args below meth c H locs 0 0 (MQ below ((fun A => va_Qi (fun (r : Int32) (u : (Nat → Int32)) => Q r u) (zE D vwCl A (fun (u : (Nat → Int32)) => [((ad 0), oX8 ad m_said m_waved m_places m_end m_joints m_netPlaces m_begin m_finish m_rounds m_sews), ((ad 5), aI cy 7776 m_wave), ((ad 11), aZ cy 7776 u)])) A) A) args s 0 0 A) (F0 m 40 ls [.int t0]) := by
    intro x2 t0 m_isCome rc6 hrc6  h H locs ls hP hD hS hl
    unfold wp_X8_imageGroup_40 at h
    refine lv_istore_n (lv' := [(1, .int t0), (0, .ref (ad 0)), (2, .int x2)]) hx hb dX8_imageGroup_40 rfl hl (by decide) rfl (fun ls hl => ?_)
    obtain ⟨x2_20, e_x2_20⟩ : ∃ y : Int32, y = x2 + (1 : Int32) := ⟨_, rfl⟩
    refine lv_iinc (v := x2_20) (lv' := [(2, .int x2_20), (1, .int t0), (0, .ref (ad 0))]) hx hb dX8_imageGroup_41 hl (k := 2) rfl (by rw [e_x2_20]; rfl) (by decide) rfl (fun ls hl => ?_)
    have h := h x2_20 e_x2_20
    refine lv_goto (tgt := 6) hx hb dX8_imageGroup_44 (by decide) ?_
    exact hrc6 t0 x2_20 h _ _ _ hP hD hS (lv_sub hl [2, 1, 0] rfl)
  have hJ109 : ∀ (x1 : Int32) (x3 : Int32) (x4 : Int32) (t0 : Int32) (t1 : Int32) (m_isCome : Nat → Int32) (rc73 : Int32 → Int32 → (Nat → Int32) → Prop) (hrc73 : ∀ (x2 : Int32) (x3 : Int32) (m_isCome : Nat → Int32), rc73 x2 x3 m_isCome → ∀ (H : Heap) (locs : List Loc) (ls : Array Slot), va_P D vwCl [((ad 0), oX8 ad m_said m_waved m_places m_end m_joints m_netPlaces m_begin m_finish m_rounds m_sews), ((ad 5), aI cy 7776 m_wave), ((ad 11), aZ cy 7776 m_isCome)] H → va_D A [((ad 0), oX8 ad m_said m_waved m_places m_end m_joints m_netPlaces m_begin m_finish m_rounds m_sews), ((ad 5), aI cy 7776 m_wave), ((ad 11), aZ cy 7776 m_isCome)] → va_S A s.heap H locs → lv_has ls 5 [(0, .ref (ad 0)), (1, .int x1), (2, .int x2), (3, .int x3)] → W p l e { frames := 3, cells := 0, slots := 0, locals := 67 } s m args below meth c H locs 0 0 (MQ below ((fun A => va_Qi (fun (r : Int32) (u : (Nat → Int32)) => Q r u) (zE D vwCl A (fun (u : (Nat → Int32)) => [((ad 0), oX8 ad m_said m_waved m_places m_end m_joints m_netPlaces m_begin m_finish m_rounds m_sews), ((ad 5), aI cy 7776 m_wave), ((ad 11), aZ cy 7776 u)])) A) A) args s 0 0 A) (F0 m 73 ls [])), wp_X8_imageGroup_109 m_waved m_wave x1 x3 x4 t0 t1 m_isCome rc73 Q → ∀ (H : Heap) (locs : List Loc) (ls : Array Slot), va_P D vwCl [((ad 0), oX8 ad m_said m_waved m_places m_end m_joints m_netPlaces m_begin m_finish m_rounds m_sews), ((ad 5), aI cy 7776 m_wave), ((ad 11), aZ cy 7776 m_isCome)] H → va_D A [((ad 0), oX8 ad m_said m_waved m_places m_end m_joints m_netPlaces m_begin m_finish m_rounds m_sews), ((ad 5), aI cy 7776 m_wave), ((ad 11), aZ cy 7776 m_isCome)] → va_S A s.heap H locs → lv_has ls 5 [(0, .ref (ad 0)), (1, .int x1), (3, .int x3), (4, .int x4)] → W p l e { frames := 3, cells := 0, slots := 0, locals := 67 } s m args below meth c H locs 0 0 (MQ below ((fun A => va_Qi (fun (r : Int32) (u : (Nat → Int32)) => Q r u) (zE D vwCl A (fun (u : (Nat → Int32)) => [((ad 0), oX8 ad m_said m_waved m_places m_end m_joints m_netPlaces m_begin m_finish m_rounds m_sews), ((ad 5), aI cy 7776 m_wave), ((ad 11), aZ cy 7776 u)])) A) A) args s 0 0 A) (F0 m 109 ls [.int t1, .int t0]) := by
    intro x1 x3 x4 t0 t1 m_isCome rc73 hrc73  h H locs ls hP hD hS hl
    unfold wp_X8_imageGroup_109 at h
    refine lv_iadd hx hb dX8_imageGroup_109 ?_
    refine lv_topi (fun x2_21 e_x2_21 => ?_)
    have h := h x2_21 e_x2_21
    refine lv_istore_n (lv' := [(2, .int x2_21), (0, .ref (ad 0)), (1, .int x1), (3, .int x3), (4, .int x4)]) hx hb dX8_imageGroup_110 rfl hl (by decide) rfl (fun ls hl => ?_)
    refine lv_aload_n hx hb dX8_imageGroup_111 rfl (lv_at hl 1 rfl) ?_
    refine va_get (D := D) (ci := 7) (v := .ref (ad 11)) (C := RX8) (T := TX8) (N := 35) hx hb hts iX8 hown hK hP 0 rfl rfl 12 (Nat.le_of_ble_eq_true rfl) (hts _ fl_X8_41) (fun _ h9 => h9) rfl dX8_imageGroup_112 ?_
    refine lv_iload hx hb dX8_imageGroup_115 (lv_at hl 4 rfl) ?_
    refine lv_iconst (v := (1 : Int32)) hx hb dX8_imageGroup_117 (by decide) ?_
    obtain ⟨hi_22, h⟩ := h
    refine va_zast hx hb hK hP hD hS 2 2 rfl rfl hi_22 dX8_imageGroup_118 (fun H locs hP hD hS => ?_)
    have hP : va_P D vwCl [((ad 0), oX8 ad m_said m_waved m_places m_end m_joints m_netPlaces m_begin m_finish m_rounds m_sews), ((ad 5), aI cy 7776 m_wave), ((ad 11), aZ cy 7776 (upd m_isCome x4.toNatClampNeg (vp_nar .boolean (1 : Int32))))] H := hP
    have hD : va_D A [((ad 0), oX8 ad m_said m_waved m_places m_end m_joints m_netPlaces m_begin m_finish m_rounds m_sews), ((ad 5), aI cy 7776 m_wave), ((ad 11), aZ cy 7776 (upd m_isCome x4.toNatClampNeg (vp_nar .boolean (1 : Int32))))] := hD
    obtain ⟨x3_23, e_x3_23⟩ : ∃ y : Int32, y = x3 + (1 : Int32) := ⟨_, rfl⟩
    refine lv_iinc (v := x3_23) (lv' := [(3, .int x3_23), (2, .int x2_21), (0, .ref (ad 0)), (1, .int x1), (4, .int x4)]) hx hb dX8_imageGroup_119 hl (k := 3) rfl (by rw [e_x3_23]; rfl) (by decide) rfl (fun ls hl => ?_)
    have h := h x3_23 e_x3_23
    refine lv_goto (tgt := 73) hx hb dX8_imageGroup_122 (by decide) ?_
    exact hrc73 x2_21 x3_23 (upd m_isCome x4.toNatClampNeg (vp_nar .boolean (1 : Int32))) h _ _ _ hP hD hS (lv_sub hl [2, 3, 1, 0] rfl)
  have hJ73 : ∀ (x1 : Int32) (x2 : Int32) (x3 : Int32) (m_isCome : Nat → Int32), wp_X8_imageGroup_73 m_waved m_wave x1  Q x2 x3 m_isCome → ∀ (H : Heap) (locs : List Loc) (ls : Array Slot), va_P D vwCl [((ad 0), oX8 ad m_said m_waved m_places m_end m_joints m_netPlaces m_begin m_finish m_rounds m_sews), ((ad 5), aI cy 7776 m_wave), ((ad 11), aZ cy 7776 m_isCome)] H → va_D A [((ad 0), oX8 ad m_said m_waved m_places m_end m_joints m_netPlaces m_begin m_finish m_rounds m_sews), ((ad 5), aI cy 7776 m_wave), ((ad 11), aZ cy 7776 m_isCome)] → va_S A s.heap H locs → lv_has ls 5 [(0, .ref (ad 0)), (1, .int x1), (2, .int x2), (3, .int x3)] → W p l e { frames := 3, cells := 0, slots := 0, locals := 67 } s m args below meth c H locs 0 0 (MQ below ((fun A => va_Qi (fun (r : Int32) (u : (Nat → Int32)) => Q r u) (zE D vwCl A (fun (u : (Nat → Int32)) => [((ad 0), oX8 ad m_said m_waved m_places m_end m_joints m_netPlaces m_begin m_finish m_rounds m_sews), ((ad 5), aI cy 7776 m_wave), ((ad 11), aZ cy 7776 u)])) A) A) args s 0 0 A) (F0 m 73 ls []) := by
    intro x1 x2 x3 m_isCome   h
    obtain ⟨nn, h⟩ := h
    have key : ∀ (nn : Nat) (x2 : Int32) (x3 : Int32) (m_isCome : Nat → Int32), lpW3 (wb_X8_imageGroup_73 m_waved m_wave x1  Q) nn x2 x3 m_isCome → ∀ (H : Heap) (locs : List Loc) (ls : Array Slot), va_P D vwCl [((ad 0), oX8 ad m_said m_waved m_places m_end m_joints m_netPlaces m_begin m_finish m_rounds m_sews), ((ad 5), aI cy 7776 m_wave), ((ad 11), aZ cy 7776 m_isCome)] H → va_D A [((ad 0), oX8 ad m_said m_waved m_places m_end m_joints m_netPlaces m_begin m_finish m_rounds m_sews), ((ad 5), aI cy 7776 m_wave), ((ad 11), aZ cy 7776 m_isCome)] → va_S A s.heap H locs → lv_has ls 5 [(0, .ref (ad 0)), (1, .int x1), (2, .int x2), (3, .int x3)] → W p l e { frames := 3, cells := 0, slots := 0, locals := 67 } s m args below meth c H locs 0 0 (MQ below ((fun A => va_Qi (fun (r : Int32) (u : (Nat → Int32)) => Q r u) (zE D vwCl A (fun (u : (Nat → Int32)) => [((ad 0), oX8 ad m_said m_waved m_places m_end m_joints m_netPlaces m_begin m_finish m_rounds m_sews), ((ad 5), aI cy 7776 m_wave), ((ad 11), aZ cy 7776 u)])) A) A) args s 0 0 A) (F0 m 73 ls []) := by
      intro nn
      induction nn with
      | zero => intro x2 x3 m_isCome h; exact h.elim
      | succ nn hrc73 =>
        intro x2 x3 m_isCome h H locs ls hP hD hS hl
        have h : wb_X8_imageGroup_73 m_waved m_wave x1  Q (lpW3 (wb_X8_imageGroup_73 m_waved m_wave x1  Q) nn) x2 x3 m_isCome := h
        unfold wb_X8_imageGroup_73 at h
        refine lv_iload_n hx hb dX8_imageGroup_73 rfl (lv_at hl 3 rfl) ?_
        refine lv_aload_n hx hb dX8_imageGroup_74 rfl (lv_at hl 0 rfl) ?_
        refine va_get (D := D) (ci := 7) (v := .int m_waved) (C := RX8) (T := TX8) (N := 35) hx hb hts iX8 hown hK hP 0 rfl rfl 6 (Nat.le_of_ble_eq_true rfl) (hts _ fl_X8_160) (fun _ h9 => h9) rfl dX8_imageGroup_75 ?_
        refine lv_icmp_ge (tgt := 125) hx hb dX8_imageGroup_78 (by decide) (fun c_24 => ?_) (fun c_24 => ?_)
        · have h := h.1 c_24
          refine lv_iload_n hx hb dX8_imageGroup_125 rfl (lv_at hl 2 rfl) ?_
          exact z_iret m_isCome hx hb hr hlocks h hP hD hS dX8_imageGroup_126
        · have h := h.2 c_24
          refine lv_iload_n hx hb dX8_imageGroup_81 rfl (lv_at hl 1 rfl) ?_
          refine lv_aload_n hx hb dX8_imageGroup_82 rfl (lv_at hl 0 rfl) ?_
          refine va_get (D := D) (ci := 7) (v := .ref (ad 5)) (C := RX8) (T := TX8) (N := 35) hx hb hts iX8 hown hK hP 0 rfl rfl 5 (Nat.le_of_ble_eq_true rfl) (hts _ fl_X8_23) (fun _ h9 => h9) rfl dX8_imageGroup_83 ?_
          refine lv_iload_n hx hb dX8_imageGroup_86 rfl (lv_at hl 3 rfl) ?_
          obtain ⟨hi_25, h⟩ := h
          refine va_iald hx hb hK hP 1 0 rfl rfl hi_25 dX8_imageGroup_87 ?_
          refine zc_S0 (As := [.int x1, .int (m_wave x3.toNatClampNeg)]) (rest := []) hx hb hml hown hts hK hPW hA hl.1 hP hS ⟨Nat.zero_le _, Nat.zero_le _⟩ (c_X8_then l D cy (sz := _) (x0 := x1) (x1 := (m_wave x3.toNatClampNeg)) (h := h)) k_X8_122 ⟨rfl, rfl, (Nat.le_of_ble_eq_true rfl), (Nat.le_of_ble_eq_true rfl)⟩ rfl rfl (Nat.le_of_ble_eq_true rfl) dX8_imageGroup_88 (fun r_26 H locs h hP hS => ?_)
          refine lv_istore (lv' := [(4, .int r_26), (0, .ref (ad 0)), (1, .int x1), (2, .int x2), (3, .int x3)]) hx hb dX8_imageGroup_91 hl (by decide) rfl (fun ls hl => ?_)
          refine lv_iload_n hx hb dX8_imageGroup_93 rfl (lv_at hl 3 rfl) ?_
          refine lv_aload_n hx hb dX8_imageGroup_94 rfl (lv_at hl 1 rfl) ?_
          refine va_get (D := D) (ci := 7) (v := .ref (ad 11)) (C := RX8) (T := TX8) (N := 35) hx hb hts iX8 hown hK hP 0 rfl rfl 12 (Nat.le_of_ble_eq_true rfl) (hts _ fl_X8_41) (fun _ h9 => h9) rfl dX8_imageGroup_95 ?_
          refine lv_iload hx hb dX8_imageGroup_98 (lv_at hl 0 rfl) ?_
          obtain ⟨hi_27, h⟩ := h
          refine va_zald hx hb hK hP 2 2 rfl rfl hi_27 dX8_imageGroup_100 ?_
          refine lv_if_eq (tgt := 108) hx hb dX8_imageGroup_101 (by decide) (fun c_28 => ?_) (fun c_28 => ?_)
          · have h := h.1 c_28
            refine lv_iconst (v := (1 : Int32)) hx hb dX8_imageGroup_108 (by decide) ?_
            exact hJ109 x1 x3 r_26 x2 (1 : Int32) m_isCome _ hrc73  h _ _ _ hP hD hS (lv_sub hl [1, 2, 4, 0] rfl)
          · have h := h.2 c_28
            refine lv_iconst (v := (0 : Int32)) hx hb dX8_imageGroup_104 (by decide) ?_
            refine lv_goto (tgt := 109) hx hb dX8_imageGroup_105 (by decide) ?_
            exact hJ109 x1 x3 r_26 x2 (0 : Int32) m_isCome _ hrc73  h _ _ _ hP hD hS (lv_sub hl [1, 2, 4, 0] rfl)
    exact key nn x2 x3 m_isCome h
  have hJ49 : ∀ (x1 : Int32) (x2 : Int32) (m_isCome : Nat → Int32), wp_X8_imageGroup_49 m_waved m_wave x1  Q x2 m_isCome → ∀ (H : Heap) (locs : List Loc) (ls : Array Slot), va_P D vwCl [((ad 0), oX8 ad m_said m_waved m_places m_end m_joints m_netPlaces m_begin m_finish m_rounds m_sews), ((ad 5), aI cy 7776 m_wave), ((ad 11), aZ cy 7776 m_isCome)] H → va_D A [((ad 0), oX8 ad m_said m_waved m_places m_end m_joints m_netPlaces m_begin m_finish m_rounds m_sews), ((ad 5), aI cy 7776 m_wave), ((ad 11), aZ cy 7776 m_isCome)] → va_S A s.heap H locs → lv_has ls 5 [(0, .ref (ad 0)), (1, .int x1), (2, .int x2)] → W p l e { frames := 3, cells := 0, slots := 0, locals := 67 } s m args below meth c H locs 0 0 (MQ below ((fun A => va_Qi (fun (r : Int32) (u : (Nat → Int32)) => Q r u) (zE D vwCl A (fun (u : (Nat → Int32)) => [((ad 0), oX8 ad m_said m_waved m_places m_end m_joints m_netPlaces m_begin m_finish m_rounds m_sews), ((ad 5), aI cy 7776 m_wave), ((ad 11), aZ cy 7776 u)])) A) A) args s 0 0 A) (F0 m 49 ls []) := by
    intro x1 x2 m_isCome   h
    obtain ⟨nn, h⟩ := h
    have key : ∀ (nn : Nat) (x2 : Int32) (m_isCome : Nat → Int32), lpW2 (wb_X8_imageGroup_49 m_waved m_wave x1  Q) nn x2 m_isCome → ∀ (H : Heap) (locs : List Loc) (ls : Array Slot), va_P D vwCl [((ad 0), oX8 ad m_said m_waved m_places m_end m_joints m_netPlaces m_begin m_finish m_rounds m_sews), ((ad 5), aI cy 7776 m_wave), ((ad 11), aZ cy 7776 m_isCome)] H → va_D A [((ad 0), oX8 ad m_said m_waved m_places m_end m_joints m_netPlaces m_begin m_finish m_rounds m_sews), ((ad 5), aI cy 7776 m_wave), ((ad 11), aZ cy 7776 m_isCome)] → va_S A s.heap H locs → lv_has ls 5 [(0, .ref (ad 0)), (1, .int x1), (2, .int x2)] → W p l e { frames := 3, cells := 0, slots := 0, locals := 67 } s m args below meth c H locs 0 0 (MQ below ((fun A => va_Qi (fun (r : Int32) (u : (Nat → Int32)) => Q r u) (zE D vwCl A (fun (u : (Nat → Int32)) => [((ad 0), oX8 ad m_said m_waved m_places m_end m_joints m_netPlaces m_begin m_finish m_rounds m_sews), ((ad 5), aI cy 7776 m_wave), ((ad 11), aZ cy 7776 u)])) A) A) args s 0 0 A) (F0 m 49 ls []) := by
      intro nn
      induction nn with
      | zero => intro x2 m_isCome h; exact h.elim
      | succ nn hrc49 =>
        intro x2 m_isCome h H locs ls hP hD hS hl
        have h : wb_X8_imageGroup_49 m_waved m_wave x1  Q (lpW2 (wb_X8_imageGroup_49 m_waved m_wave x1  Q) nn) x2 m_isCome := h
        unfold wb_X8_imageGroup_49 at h
        refine lv_iload_n hx hb dX8_imageGroup_49 rfl (lv_at hl 2 rfl) ?_
        refine lv_sipush (v := (7776 : Int32)) hx hb dX8_imageGroup_50 (by decide) ?_
        refine lv_icmp_ge (tgt := 69) hx hb dX8_imageGroup_53 (by decide) (fun c_29 => ?_) (fun c_29 => ?_)
        · have h := h.1 c_29
          refine lv_iconst (v := (0 : Int32)) hx hb dX8_imageGroup_69 (by decide) ?_
          refine lv_istore_n (lv' := [(2, .int (0 : Int32)), (0, .ref (ad 0)), (1, .int x1)]) hx hb dX8_imageGroup_70 rfl hl (by decide) rfl (fun ls hl => ?_)
          refine lv_iconst (v := (0 : Int32)) hx hb dX8_imageGroup_71 (by decide) ?_
          refine lv_istore_n (lv' := [(3, .int (0 : Int32)), (2, .int (0 : Int32)), (0, .ref (ad 0)), (1, .int x1)]) hx hb dX8_imageGroup_72 rfl hl (by decide) rfl (fun ls hl => ?_)
          exact hJ73 x1 (0 : Int32) (0 : Int32) m_isCome   h _ _ _ hP hD hS (lv_sub hl [2, 3, 1, 0] rfl)
        · have h := h.2 c_29
          refine lv_aload_n hx hb dX8_imageGroup_56 rfl (lv_at hl 0 rfl) ?_
          refine va_get (D := D) (ci := 7) (v := .ref (ad 11)) (C := RX8) (T := TX8) (N := 35) hx hb hts iX8 hown hK hP 0 rfl rfl 12 (Nat.le_of_ble_eq_true rfl) (hts _ fl_X8_41) (fun _ h9 => h9) rfl dX8_imageGroup_57 ?_
          refine lv_iload_n hx hb dX8_imageGroup_60 rfl (lv_at hl 2 rfl) ?_
          refine lv_iconst (v := (0 : Int32)) hx hb dX8_imageGroup_61 (by decide) ?_
          obtain ⟨hi_30, h⟩ := h
          refine va_zast hx hb hK hP hD hS 2 2 rfl rfl hi_30 dX8_imageGroup_62 (fun H locs hP hD hS => ?_)
          have hP : va_P D vwCl [((ad 0), oX8 ad m_said m_waved m_places m_end m_joints m_netPlaces m_begin m_finish m_rounds m_sews), ((ad 5), aI cy 7776 m_wave), ((ad 11), aZ cy 7776 (upd m_isCome x2.toNatClampNeg (vp_nar .boolean (0 : Int32))))] H := hP
          have hD : va_D A [((ad 0), oX8 ad m_said m_waved m_places m_end m_joints m_netPlaces m_begin m_finish m_rounds m_sews), ((ad 5), aI cy 7776 m_wave), ((ad 11), aZ cy 7776 (upd m_isCome x2.toNatClampNeg (vp_nar .boolean (0 : Int32))))] := hD
          obtain ⟨x2_31, e_x2_31⟩ : ∃ y : Int32, y = x2 + (1 : Int32) := ⟨_, rfl⟩
          refine lv_iinc (v := x2_31) (lv' := [(2, .int x2_31), (0, .ref (ad 0)), (1, .int x1)]) hx hb dX8_imageGroup_63 hl (k := 2) rfl (by rw [e_x2_31]; rfl) (by decide) rfl (fun ls hl => ?_)
          have h := h x2_31 e_x2_31
          refine lv_goto (tgt := 49) hx hb dX8_imageGroup_66 (by decide) ?_
          exact hrc49 x2_31 (upd m_isCome x2.toNatClampNeg (vp_nar .boolean (0 : Int32))) h _ _ _ hP hD hS (lv_sub hl [1, 2, 0] rfl)
    exact key nn x2 m_isCome h
  have hJ6 : ∀ (x1 : Int32) (x2 : Int32) (m_isCome : Nat → Int32), wp_X8_imageGroup_6 m_waved m_wave m_isCome  Q x1 x2 → ∀ (H : Heap) (locs : List Loc) (ls : Array Slot), va_P D vwCl [((ad 0), oX8 ad m_said m_waved m_places m_end m_joints m_netPlaces m_begin m_finish m_rounds m_sews), ((ad 5), aI cy 7776 m_wave), ((ad 11), aZ cy 7776 m_isCome)] H → va_D A [((ad 0), oX8 ad m_said m_waved m_places m_end m_joints m_netPlaces m_begin m_finish m_rounds m_sews), ((ad 5), aI cy 7776 m_wave), ((ad 11), aZ cy 7776 m_isCome)] → va_S A s.heap H locs → lv_has ls 5 [(0, .ref (ad 0)), (1, .int x1), (2, .int x2)] → W p l e { frames := 3, cells := 0, slots := 0, locals := 67 } s m args below meth c H locs 0 0 (MQ below ((fun A => va_Qi (fun (r : Int32) (u : (Nat → Int32)) => Q r u) (zE D vwCl A (fun (u : (Nat → Int32)) => [((ad 0), oX8 ad m_said m_waved m_places m_end m_joints m_netPlaces m_begin m_finish m_rounds m_sews), ((ad 5), aI cy 7776 m_wave), ((ad 11), aZ cy 7776 u)])) A) A) args s 0 0 A) (F0 m 6 ls []) := by
    intro x1 x2 m_isCome   h
    obtain ⟨nn, h⟩ := h
    have key : ∀ (nn : Nat) (x1 : Int32) (x2 : Int32), lpW2 (wb_X8_imageGroup_6 m_waved m_wave m_isCome  Q) nn x1 x2 → ∀ (H : Heap) (locs : List Loc) (ls : Array Slot), va_P D vwCl [((ad 0), oX8 ad m_said m_waved m_places m_end m_joints m_netPlaces m_begin m_finish m_rounds m_sews), ((ad 5), aI cy 7776 m_wave), ((ad 11), aZ cy 7776 m_isCome)] H → va_D A [((ad 0), oX8 ad m_said m_waved m_places m_end m_joints m_netPlaces m_begin m_finish m_rounds m_sews), ((ad 5), aI cy 7776 m_wave), ((ad 11), aZ cy 7776 m_isCome)] → va_S A s.heap H locs → lv_has ls 5 [(0, .ref (ad 0)), (1, .int x1), (2, .int x2)] → W p l e { frames := 3, cells := 0, slots := 0, locals := 67 } s m args below meth c H locs 0 0 (MQ below ((fun A => va_Qi (fun (r : Int32) (u : (Nat → Int32)) => Q r u) (zE D vwCl A (fun (u : (Nat → Int32)) => [((ad 0), oX8 ad m_said m_waved m_places m_end m_joints m_netPlaces m_begin m_finish m_rounds m_sews), ((ad 5), aI cy 7776 m_wave), ((ad 11), aZ cy 7776 u)])) A) A) args s 0 0 A) (F0 m 6 ls []) := by
      intro nn
      induction nn with
      | zero => intro x1 x2 h; exact h.elim
      | succ nn hrc6 =>
        intro x1 x2 h H locs ls hP hD hS hl
        have h : wb_X8_imageGroup_6 m_waved m_wave m_isCome  Q (lpW2 (wb_X8_imageGroup_6 m_waved m_wave m_isCome  Q) nn) x1 x2 := h
        unfold wb_X8_imageGroup_6 at h
        refine lv_iload_n hx hb dX8_imageGroup_6 rfl (lv_at hl 2 rfl) ?_
        refine lv_aload_n hx hb dX8_imageGroup_7 rfl (lv_at hl 0 rfl) ?_
        refine va_get (D := D) (ci := 7) (v := .int m_waved) (C := RX8) (T := TX8) (N := 35) hx hb hts iX8 hown hK hP 0 rfl rfl 6 (Nat.le_of_ble_eq_true rfl) (hts _ fl_X8_160) (fun _ h9 => h9) rfl dX8_imageGroup_8 ?_
        refine lv_icmp_ge (tgt := 47) hx hb dX8_imageGroup_11 (by decide) (fun c_32 => ?_) (fun c_32 => ?_)
        · have h := h.1 c_32
          refine lv_iconst (v := (0 : Int32)) hx hb dX8_imageGroup_47 (by decide) ?_
          refine lv_istore_n (lv' := [(2, .int (0 : Int32)), (0, .ref (ad 0)), (1, .int x1)]) hx hb dX8_imageGroup_48 rfl hl (by decide) rfl (fun ls hl => ?_)
          exact hJ49 x1 (0 : Int32) m_isCome   h _ _ _ hP hD hS (lv_sub hl [1, 2, 0] rfl)
        · have h := h.2 c_32
          refine lv_aload_n hx hb dX8_imageGroup_14 rfl (lv_at hl 0 rfl) ?_
          refine va_get (D := D) (ci := 7) (v := .ref (ad 5)) (C := RX8) (T := TX8) (N := 35) hx hb hts iX8 hown hK hP 0 rfl rfl 5 (Nat.le_of_ble_eq_true rfl) (hts _ fl_X8_23) (fun _ h9 => h9) rfl dX8_imageGroup_15 ?_
          refine lv_iload_n hx hb dX8_imageGroup_18 rfl (lv_at hl 2 rfl) ?_
          obtain ⟨hi_33, h⟩ := h
          refine va_iald hx hb hK hP 1 0 rfl rfl hi_33 dX8_imageGroup_19 ?_
          refine zc_S0 (As := [.int (m_wave x2.toNatClampNeg)]) (rest := []) hx hb hml hown hts hK hPW hA hl.1 hP hS ⟨Nat.zero_le _, Nat.zero_le _⟩ (c_X8_isIdempotent l D cy (sz := _) (x0 := (m_wave x2.toNatClampNeg)) (h := h)) k_X8_119 ⟨rfl, rfl, (Nat.le_of_ble_eq_true rfl), (Nat.le_of_ble_eq_true rfl)⟩ rfl rfl (Nat.le_of_ble_eq_true rfl) dX8_imageGroup_20 (fun r_34 H locs h hP hS => ?_)
          refine lv_if_eq (tgt := 39) hx hb dX8_imageGroup_23 (by decide) (fun c_35 => ?_) (fun c_35 => ?_)
          · have h := h.1 c_35
            refine lv_iload_n hx hb dX8_imageGroup_39 rfl (lv_at hl 1 rfl) ?_
            exact hJ40 x2 x1 m_isCome _ hrc6  h _ _ _ hP hD hS (lv_sub hl [0, 2] rfl)
          · have h := h.2 c_35
            refine lv_iload_n hx hb dX8_imageGroup_26 rfl (lv_at hl 1 rfl) ?_
            refine lv_aload_n hx hb dX8_imageGroup_27 rfl (lv_at hl 0 rfl) ?_
            refine va_get (D := D) (ci := 7) (v := .ref (ad 5)) (C := RX8) (T := TX8) (N := 35) hx hb hts iX8 hown hK hP 0 rfl rfl 5 (Nat.le_of_ble_eq_true rfl) (hts _ fl_X8_23) (fun _ h9 => h9) rfl dX8_imageGroup_28 ?_
            refine lv_iload_n hx hb dX8_imageGroup_31 rfl (lv_at hl 2 rfl) ?_
            obtain ⟨hi_36, h⟩ := h
            refine va_iald hx hb hK hP 1 0 rfl rfl hi_36 dX8_imageGroup_32 ?_
            refine zc_S0 (As := [.int x1, .int (m_wave x2.toNatClampNeg)]) (rest := []) hx hb hml hown hts hK hPW hA hl.1 hP hS ⟨Nat.zero_le _, Nat.zero_le _⟩ (c_X8_then l D cy (sz := _) (x0 := x1) (x1 := (m_wave x2.toNatClampNeg)) (h := h)) k_X8_122 ⟨rfl, rfl, (Nat.le_of_ble_eq_true rfl), (Nat.le_of_ble_eq_true rfl)⟩ rfl rfl (Nat.le_of_ble_eq_true rfl) dX8_imageGroup_33 (fun r_37 H locs h hP hS => ?_)
            refine lv_goto (tgt := 40) hx hb dX8_imageGroup_36 (by decide) ?_
            exact hJ40 x2 r_37 m_isCome _ hrc6  h _ _ _ hP hD hS (lv_sub hl [0, 2] rfl)
    exact key nn x1 x2 h
  unfold wp_X8_imageGroup at h
  refine zc_S0 (As := []) (rest := []) hx hb hml hown hts hK hPW hA hl.1 hP hS ⟨Nat.zero_le _, Nat.zero_le _⟩ (c_X8_same l D cy (sz := _)  (h := h)) k_X8_87 ⟨rfl, rfl, (Nat.le_of_ble_eq_true rfl), (Nat.le_of_ble_eq_true rfl)⟩ rfl rfl (Nat.le_of_ble_eq_true rfl) dX8_imageGroup_0 (fun r_38 H locs h hP hS => ?_)
  refine lv_istore_n (lv' := [(1, .int r_38), (0, .ref (ad 0))]) hx hb dX8_imageGroup_3 rfl hl (by decide) rfl (fun ls hl => ?_)
  refine lv_iconst (v := (0 : Int32)) hx hb dX8_imageGroup_4 (by decide) ?_
  refine lv_istore_n (lv' := [(2, .int (0 : Int32)), (1, .int r_38), (0, .ref (ad 0))]) hx hb dX8_imageGroup_5 rfl hl (by decide) rfl (fun ls hl => ?_)
  exact hJ6 r_38 (0 : Int32) m_isCome   h _ _ _ hP hD hS (lv_sub hl [2, 1, 0] rfl)
set_option maxHeartbeats 4000000 in
set_option maxRecDepth 100000 in
theorem c_X8_made (l : Launch) (D : va_G) (cy : Nat → ClassId) (ad : Nat → Nat) (sz : Nat) (m_said : Int32) (m_waved : Int32) (m_places : Int32) (m_end : Int32) (m_joints : Int32) (m_netPlaces : Int32) (m_begin : Int32) (m_finish : Int32) (m_rounds : Int32) (m_sews : Int32) (m_state : Nat → Int32) (m_wave : Nat → Int32) (m_isMade : Nat → Int32) (m_cameFrom : Nat → Int32) (m_cameBy : Nat → Int32) (m_domOf : Nat → Int32) (m_ranOf : Nat → Int32) (m_isCome : Nat → Int32) (x1 : Int32) (x2 : Int32) {Q : Int32 → Int32 → (Nat → Int32) → (Nat → Int32) → (Nat → Int32) → (Nat → Int32) → (Nat → Int32) → (Nat → Int32) → (Nat → Int32) → Prop} (h : wp_X8_made x1 x2 m_waved m_state m_wave m_isMade m_cameFrom m_cameBy m_domOf m_ranOf m_isCome Q) : Met l yX8_made (wsU yX8_made cX8_made 3 (some .int)) { frames := 5, cells := 0, slots := 0, locals := 111 } (va_Pc [.ref (ad 0), .int x1, .int x2] (zB D vwCl (tyU cy) [((ad 0), oX8 ad m_said m_waved m_places m_end m_joints m_netPlaces m_begin m_finish m_rounds m_sews), ((ad 1), aI cy 112 m_state), ((ad 5), aI cy 7776 m_wave), ((ad 6), aZ cy 7776 m_isMade), ((ad 7), aI cy 7776 m_cameFrom), ((ad 8), aI cy 7776 m_cameBy), ((ad 9), aI cy 7776 m_domOf), ((ad 10), aI cy 7776 m_ranOf), ((ad 11), aZ cy 7776 m_isCome)] sz)) ((fun A => va_Qi (fun (r : Int32) (u : Int32 × (Nat → Int32) × (Nat → Int32) × (Nat → Int32) × (Nat → Int32) × (Nat → Int32) × (Nat → Int32) × (Nat → Int32)) => ∃ (z0 : Int32) (z1 : Nat → Int32) (z2 : Nat → Int32) (z3 : Nat → Int32) (z4 : Nat → Int32) (z5 : Nat → Int32) (z6 : Nat → Int32) (z7 : Nat → Int32), u = (z0, z1, z2, z3, z4, z5, z6, z7) ∧ Q r z0 z1 z2 z3 z4 z5 z6 z7) (zE D vwCl A (fun (u : Int32 × (Nat → Int32) × (Nat → Int32) × (Nat → Int32) × (Nat → Int32) × (Nat → Int32) × (Nat → Int32) × (Nat → Int32)) => [((ad 0), oX8 ad m_said (u.1) m_places m_end m_joints m_netPlaces m_begin m_finish m_rounds m_sews), ((ad 1), aI cy 112 m_state), ((ad 5), aI cy 7776 (u.2.1)), ((ad 6), aZ cy 7776 (u.2.2.1)), ((ad 7), aI cy 7776 (u.2.2.2.1)), ((ad 8), aI cy 7776 (u.2.2.2.2.1)), ((ad 9), aI cy 7776 (u.2.2.2.2.2.1)), ((ad 10), aI cy 7776 (u.2.2.2.2.2.2.1)), ((ad 11), aZ cy 7776 (u.2.2.2.2.2.2.2))])) A) (va_A [((ad 0), oX8 ad m_said m_waved m_places m_end m_joints m_netPlaces m_begin m_finish m_rounds m_sews), ((ad 1), aI cy 112 m_state), ((ad 5), aI cy 7776 m_wave), ((ad 6), aZ cy 7776 m_isMade), ((ad 7), aI cy 7776 m_cameFrom), ((ad 8), aI cy 7776 m_cameBy), ((ad 9), aI cy 7776 m_domOf), ((ad 10), aI cy 7776 m_ranOf), ((ad 11), aZ cy 7776 m_isCome)] sz)) 0 0 (va_A [((ad 0), oX8 ad m_said m_waved m_places m_end m_joints m_netPlaces m_begin m_finish m_rounds m_sews), ((ad 1), aI cy 112 m_state), ((ad 5), aI cy 7776 m_wave), ((ad 6), aZ cy 7776 m_isMade), ((ad 7), aI cy 7776 m_cameFrom), ((ad 8), aI cy 7776 m_cameBy), ((ad 9), aI cy 7776 m_domOf), ((ad 10), aI cy 7776 m_ranOf), ((ad 11), aZ cy 7776 m_isCome)] sz) := by
  refine z_ofX (fun A => va_Qi (fun (r : Int32) (u : Int32 × (Nat → Int32) × (Nat → Int32) × (Nat → Int32) × (Nat → Int32) × (Nat → Int32) × (Nat → Int32) × (Nat → Int32)) => ∃ (z0 : Int32) (z1 : Nat → Int32) (z2 : Nat → Int32) (z3 : Nat → Int32) (z4 : Nat → Int32) (z5 : Nat → Int32) (z6 : Nat → Int32) (z7 : Nat → Int32), u = (z0, z1, z2, z3, z4, z5, z6, z7) ∧ Q r z0 z1 z2 z3 z4 z5 z6 z7) (zE D vwCl A (fun (u : Int32 × (Nat → Int32) × (Nat → Int32) × (Nat → Int32) × (Nat → Int32) × (Nat → Int32) × (Nat → Int32) × (Nat → Int32)) => [((ad 0), oX8 ad m_said (u.1) m_places m_end m_joints m_netPlaces m_begin m_finish m_rounds m_sews), ((ad 1), aI cy 112 m_state), ((ad 5), aI cy 7776 (u.2.1)), ((ad 6), aZ cy 7776 (u.2.2.1)), ((ad 7), aI cy 7776 (u.2.2.2.1)), ((ad 8), aI cy 7776 (u.2.2.2.2.1)), ((ad 9), aI cy 7776 (u.2.2.2.2.2.1)), ((ad 10), aI cy 7776 (u.2.2.2.2.2.2.1)), ((ad 11), aZ cy 7776 (u.2.2.2.2.2.2.2))])) A) (by decide) (Nat.le_of_ble_eq_true rfl) (fun p e s m below meth c A ls hx hb hr hml hown hts hlocks hK hPW hA hP hD hS hl => ?_)
  have hl : lv_has ls 3 [(0, .ref (ad 0)), (1, .int x1), (2, .int x2)] := hl
  have hown : s.vm.findClass RX8 = some m.cls := hown
  unfold wp_X8_made at h
  refine lv_iload_n hx hb dX8_made_0 rfl (lv_at hl 1 rfl) ?_
  refine lv_iconst (v := (1 : Int32)) hx hb dX8_made_1 (by decide) ?_
  refine lv_iconst (v := (3 : Int32)) hx hb dX8_made_2 (by decide) ?_
  refine zc_S0 (As := [.int x1, .int (1 : Int32), .int (3 : Int32)]) (rest := []) hx hb hml hown hts hK hPW hA hl.1 hP hS ⟨Nat.zero_le _, Nat.zero_le _⟩ (c_X8_in l D cy (sz := _) (x0 := x1) (x1 := (1 : Int32)) (x2 := (3 : Int32)) (h := h)) k_X8_91 ⟨rfl, rfl, (Nat.le_of_ble_eq_true rfl), (Nat.le_of_ble_eq_true rfl)⟩ rfl rfl (Nat.le_of_ble_eq_true rfl) dX8_made_3 (fun r_14 H locs h hP hS => ?_)
  refine lv_if_eq (tgt := 18) hx hb dX8_made_6 (by decide) (fun c_15 => ?_) (fun c_15 => ?_)
  · have h := h.1 c_15
    refine lv_bipush (v := (-2 : Int32)) hx hb dX8_made_18 (by decide) ?_
    exact z_iret (m_waved, m_wave, m_isMade, m_cameFrom, m_cameBy, m_domOf, m_ranOf, m_isCome) hx hb hr hlocks ⟨m_waved, m_wave, m_isMade, m_cameFrom, m_cameBy, m_domOf, m_ranOf, m_isCome, rfl, h⟩ hP hD hS dX8_made_20
  · have h := h.2 c_15
    refine lv_iload_n hx hb dX8_made_9 rfl (lv_at hl 2 rfl) ?_
    refine lv_iconst (v := (0 : Int32)) hx hb dX8_made_10 (by decide) ?_
    refine lv_iconst (v := (5 : Int32)) hx hb dX8_made_11 (by decide) ?_
    refine zc_S0 (As := [.int x2, .int (0 : Int32), .int (5 : Int32)]) (rest := []) hx hb hml hown hts hK hPW hA hl.1 hP hS ⟨Nat.zero_le _, Nat.zero_le _⟩ (c_X8_in l D cy (sz := _) (x0 := x2) (x1 := (0 : Int32)) (x2 := (5 : Int32)) (h := h)) k_X8_91 ⟨rfl, rfl, (Nat.le_of_ble_eq_true rfl), (Nat.le_of_ble_eq_true rfl)⟩ rfl rfl (Nat.le_of_ble_eq_true rfl) dX8_made_12 (fun r_16 H locs h hP hS => ?_)
    refine lv_if_ne (tgt := 21) hx hb dX8_made_15 (by decide) (fun c_17 => ?_) (fun c_17 => ?_)
    · have h := h.1 c_17
      refine lv_aload_n hx hb dX8_made_21 rfl (lv_at hl 0 rfl) ?_
      refine lv_iload_n hx hb dX8_made_22 rfl (lv_at hl 1 rfl) ?_
      refine zc_Vv (As := [.int x1]) (rest := []) (wc := [((ad 0), oX8 ad m_said m_waved m_places m_end m_joints m_netPlaces m_begin m_finish m_rounds m_sews), ((ad 1), aI cy 112 m_state), ((ad 5), aI cy 7776 m_wave), ((ad 6), aZ cy 7776 m_isMade), ((ad 7), aI cy 7776 m_cameFrom), ((ad 8), aI cy 7776 m_cameBy)]) (wr := [((ad 9), aI cy 7776 m_domOf), ((ad 10), aI cy 7776 m_ranOf), ((ad 11), aZ cy 7776 m_isCome)]) hx hb hml hown hts hK hPW hA hl.1 hP hD hS ⟨Nat.zero_le _, Nat.zero_le _⟩ [0, 1, 2, 3, 4, 5] [6, 7, 8] rfl rfl (by decide) (c_X8_layMade l D cy (sz := _) (x1 := x1) (ad := ad) (m_said := m_said) (m_waved := m_waved) (m_places := m_places) (m_end := m_end) (m_joints := m_joints) (m_netPlaces := m_netPlaces) (m_begin := m_begin) (m_finish := m_finish) (m_rounds := m_rounds) (m_sews := m_sews) (m_state := m_state) (m_wave := m_wave) (m_isMade := m_isMade) (m_cameFrom := m_cameFrom) (m_cameBy := m_cameBy) (h := h)) k_X8_176 ⟨rfl, rfl, (Nat.le_of_ble_eq_true rfl), (Nat.le_of_ble_eq_true rfl)⟩ rfl rfl rfl rfl (Nat.le_of_ble_eq_true rfl) dX8_made_23 (fun u_18 H locs h hP hD hS => ?_)
      obtain ⟨m_waved_18, m_wave_18, m_isMade_18, m_cameFrom_18, m_cameBy_18, rfl, h⟩ := h
      have hP : va_P D vwCl [((ad 9), aI cy 7776 m_domOf), ((ad 10), aI cy 7776 m_ranOf), ((ad 11), aZ cy 7776 m_isCome), ((ad 0), oX8 ad m_said m_waved_18 m_places m_end m_joints m_netPlaces m_begin m_finish m_rounds m_sews), ((ad 1), aI cy 112 m_state), ((ad 5), aI cy 7776 m_wave_18), ((ad 6), aZ cy 7776 m_isMade_18), ((ad 7), aI cy 7776 m_cameFrom_18), ((ad 8), aI cy 7776 m_cameBy_18)] H := hP
      have hD : va_D A [((ad 9), aI cy 7776 m_domOf), ((ad 10), aI cy 7776 m_ranOf), ((ad 11), aZ cy 7776 m_isCome), ((ad 0), oX8 ad m_said m_waved_18 m_places m_end m_joints m_netPlaces m_begin m_finish m_rounds m_sews), ((ad 1), aI cy 112 m_state), ((ad 5), aI cy 7776 m_wave_18), ((ad 6), aZ cy 7776 m_isMade_18), ((ad 7), aI cy 7776 m_cameFrom_18), ((ad 8), aI cy 7776 m_cameBy_18)] := hD
      refine lv_aload_n hx hb dX8_made_26 rfl (lv_at hl 0 rfl) ?_
      refine zc_Vv (As := []) (rest := []) (wc := [((ad 0), oX8 ad m_said m_waved_18 m_places m_end m_joints m_netPlaces m_begin m_finish m_rounds m_sews), ((ad 5), aI cy 7776 m_wave_18), ((ad 9), aI cy 7776 m_domOf), ((ad 10), aI cy 7776 m_ranOf)]) (wr := [((ad 11), aZ cy 7776 m_isCome), ((ad 1), aI cy 112 m_state), ((ad 6), aZ cy 7776 m_isMade_18), ((ad 7), aI cy 7776 m_cameFrom_18), ((ad 8), aI cy 7776 m_cameBy_18)]) hx hb hml hown hts hK hPW hA hl.1 hP hD hS ⟨Nat.zero_le _, Nat.zero_le _⟩ [3, 5, 0, 1] [2, 4, 6, 7, 8] rfl rfl (by decide) (c_X8_layEnds l D cy (sz := _) (ad := ad) (m_said := m_said) (m_waved := m_waved_18) (m_places := m_places) (m_end := m_end) (m_joints := m_joints) (m_netPlaces := m_netPlaces) (m_begin := m_begin) (m_finish := m_finish) (m_rounds := m_rounds) (m_sews := m_sews) (m_wave := m_wave_18) (m_domOf := m_domOf) (m_ranOf := m_ranOf) (h := h)) k_X8_180 ⟨rfl, rfl, (Nat.le_of_ble_eq_true rfl), (Nat.le_of_ble_eq_true rfl)⟩ rfl rfl rfl rfl (Nat.le_of_ble_eq_true rfl) dX8_made_27 (fun u_19 H locs h hP hD hS => ?_)
      obtain ⟨m_domOf_19, m_ranOf_19, rfl, h⟩ := h
      have hP : va_P D vwCl [((ad 11), aZ cy 7776 m_isCome), ((ad 1), aI cy 112 m_state), ((ad 6), aZ cy 7776 m_isMade_18), ((ad 7), aI cy 7776 m_cameFrom_18), ((ad 8), aI cy 7776 m_cameBy_18), ((ad 0), oX8 ad m_said m_waved_18 m_places m_end m_joints m_netPlaces m_begin m_finish m_rounds m_sews), ((ad 5), aI cy 7776 m_wave_18), ((ad 9), aI cy 7776 m_domOf_19), ((ad 10), aI cy 7776 m_ranOf_19)] H := hP
      have hD : va_D A [((ad 11), aZ cy 7776 m_isCome), ((ad 1), aI cy 112 m_state), ((ad 6), aZ cy 7776 m_isMade_18), ((ad 7), aI cy 7776 m_cameFrom_18), ((ad 8), aI cy 7776 m_cameBy_18), ((ad 0), oX8 ad m_said m_waved_18 m_places m_end m_joints m_netPlaces m_begin m_finish m_rounds m_sews), ((ad 5), aI cy 7776 m_wave_18), ((ad 9), aI cy 7776 m_domOf_19), ((ad 10), aI cy 7776 m_ranOf_19)] := hD
      refine lv_iload_n hx hb dX8_made_30 rfl (lv_at hl 2 rfl) ?_
      by_cases es_20_0 : x2 = (0 : Int32)
      · refine lv_tableIn (off := 33) (tgt := 64) hx hb dX8_made_31 (by rw [es_20_0]; decide) (by rw [es_20_0]; decide) (by rw [es_20_0]; decide) (by decide) ?_
        have h := h.1 es_20_0
        refine lv_aload_n hx hb dX8_made_64 rfl (lv_at hl 0 rfl) ?_
        refine va_get (D := D) (ci := 7) (v := .int m_waved_18) (C := RX8) (T := TX8) (N := 35) hx hb hts iX8 hown hK hP 5 rfl rfl 6 (Nat.le_of_ble_eq_true rfl) (hts _ fl_X8_160) (fun _ h9 => h9) rfl dX8_made_65 ?_
        exact z_iret (m_waved_18, m_wave_18, m_isMade_18, m_cameFrom_18, m_cameBy_18, m_domOf_19, m_ranOf_19, m_isCome) hx hb hr hlocks ⟨m_waved_18, m_wave_18, m_isMade_18, m_cameFrom_18, m_cameBy_18, m_domOf_19, m_ranOf_19, m_isCome, rfl, h⟩ (hP.sub [5, 1, 6, 2, 3, 4, 7, 8, 0] rfl) (hD.sub [5, 1, 6, 2, 3, 4, 7, 8, 0] (by decide) rfl) hS dX8_made_68
      by_cases es_20_1 : x2 = (1 : Int32)
      · refine lv_tableIn (off := 38) (tgt := 69) hx hb dX8_made_31 (by rw [es_20_1]; decide) (by rw [es_20_1]; decide) (by rw [es_20_1]; decide) (by decide) ?_
        have h := h.2.1 es_20_1
        refine lv_aload_n hx hb dX8_made_69 rfl (lv_at hl 0 rfl) ?_
        refine zc_Vi (As := []) (rest := []) (wc := [((ad 0), oX8 ad m_said m_waved_18 m_places m_end m_joints m_netPlaces m_begin m_finish m_rounds m_sews), ((ad 5), aI cy 7776 m_wave_18)]) (wr := [((ad 11), aZ cy 7776 m_isCome), ((ad 1), aI cy 112 m_state), ((ad 6), aZ cy 7776 m_isMade_18), ((ad 7), aI cy 7776 m_cameFrom_18), ((ad 8), aI cy 7776 m_cameBy_18), ((ad 9), aI cy 7776 m_domOf_19), ((ad 10), aI cy 7776 m_ranOf_19)]) hx hb hml hown hts hK hPW hA hl.1 hP hD hS ⟨Nat.zero_le _, Nat.zero_le _⟩ [5, 6] [0, 1, 2, 3, 4, 7, 8] rfl rfl (by decide) (c_X8_idempotents l D cy (sz := _) (ad := ad) (m_said := m_said) (m_waved := m_waved_18) (m_places := m_places) (m_end := m_end) (m_joints := m_joints) (m_netPlaces := m_netPlaces) (m_begin := m_begin) (m_finish := m_finish) (m_rounds := m_rounds) (m_sews := m_sews) (m_wave := m_wave_18) (h := h)) k_X8_183 ⟨rfl, rfl, (Nat.le_of_ble_eq_true rfl), (Nat.le_of_ble_eq_true rfl)⟩ rfl rfl rfl rfl (Nat.le_of_ble_eq_true rfl) dX8_made_70 (fun r_21 _ H locs h hP hD hS => ?_)
        have hP : va_P D vwCl [((ad 11), aZ cy 7776 m_isCome), ((ad 1), aI cy 112 m_state), ((ad 6), aZ cy 7776 m_isMade_18), ((ad 7), aI cy 7776 m_cameFrom_18), ((ad 8), aI cy 7776 m_cameBy_18), ((ad 9), aI cy 7776 m_domOf_19), ((ad 10), aI cy 7776 m_ranOf_19), ((ad 0), oX8 ad m_said m_waved_18 m_places m_end m_joints m_netPlaces m_begin m_finish m_rounds m_sews), ((ad 5), aI cy 7776 m_wave_18)] H := hP
        have hD : va_D A [((ad 11), aZ cy 7776 m_isCome), ((ad 1), aI cy 112 m_state), ((ad 6), aZ cy 7776 m_isMade_18), ((ad 7), aI cy 7776 m_cameFrom_18), ((ad 8), aI cy 7776 m_cameBy_18), ((ad 9), aI cy 7776 m_domOf_19), ((ad 10), aI cy 7776 m_ranOf_19), ((ad 0), oX8 ad m_said m_waved_18 m_places m_end m_joints m_netPlaces m_begin m_finish m_rounds m_sews), ((ad 5), aI cy 7776 m_wave_18)] := hD
        exact z_iret (m_waved_18, m_wave_18, m_isMade_18, m_cameFrom_18, m_cameBy_18, m_domOf_19, m_ranOf_19, m_isCome) hx hb hr hlocks ⟨m_waved_18, m_wave_18, m_isMade_18, m_cameFrom_18, m_cameBy_18, m_domOf_19, m_ranOf_19, m_isCome, rfl, h⟩ (hP.sub [7, 1, 8, 2, 3, 4, 5, 6, 0] rfl) (hD.sub [7, 1, 8, 2, 3, 4, 5, 6, 0] (by decide) rfl) hS dX8_made_73
      by_cases es_20_2 : x2 = (2 : Int32)
      · refine lv_tableIn (off := 43) (tgt := 74) hx hb dX8_made_31 (by rw [es_20_2]; decide) (by rw [es_20_2]; decide) (by rw [es_20_2]; decide) (by decide) ?_
        have h := h.2.2.1 es_20_2
        refine lv_aload_n hx hb dX8_made_74 rfl (lv_at hl 0 rfl) ?_
        refine zc_Vi (As := []) (rest := []) (wc := [((ad 0), oX8 ad m_said m_waved_18 m_places m_end m_joints m_netPlaces m_begin m_finish m_rounds m_sews), ((ad 5), aI cy 7776 m_wave_18), ((ad 9), aI cy 7776 m_domOf_19), ((ad 10), aI cy 7776 m_ranOf_19)]) (wr := [((ad 11), aZ cy 7776 m_isCome), ((ad 1), aI cy 112 m_state), ((ad 6), aZ cy 7776 m_isMade_18), ((ad 7), aI cy 7776 m_cameFrom_18), ((ad 8), aI cy 7776 m_cameBy_18)]) hx hb hml hown hts hK hPW hA hl.1 hP hD hS ⟨Nat.zero_le _, Nat.zero_le _⟩ [5, 6, 7, 8] [0, 1, 2, 3, 4] rfl rfl (by decide) (c_X8_kinds l D cy (sz := _) (ad := ad) (m_said := m_said) (m_waved := m_waved_18) (m_places := m_places) (m_end := m_end) (m_joints := m_joints) (m_netPlaces := m_netPlaces) (m_begin := m_begin) (m_finish := m_finish) (m_rounds := m_rounds) (m_sews := m_sews) (m_wave := m_wave_18) (m_domOf := m_domOf_19) (m_ranOf := m_ranOf_19) (h := h)) k_X8_186 ⟨rfl, rfl, (Nat.le_of_ble_eq_true rfl), (Nat.le_of_ble_eq_true rfl)⟩ rfl rfl rfl rfl (Nat.le_of_ble_eq_true rfl) dX8_made_75 (fun r_22 _ H locs h hP hD hS => ?_)
        have hP : va_P D vwCl [((ad 11), aZ cy 7776 m_isCome), ((ad 1), aI cy 112 m_state), ((ad 6), aZ cy 7776 m_isMade_18), ((ad 7), aI cy 7776 m_cameFrom_18), ((ad 8), aI cy 7776 m_cameBy_18), ((ad 0), oX8 ad m_said m_waved_18 m_places m_end m_joints m_netPlaces m_begin m_finish m_rounds m_sews), ((ad 5), aI cy 7776 m_wave_18), ((ad 9), aI cy 7776 m_domOf_19), ((ad 10), aI cy 7776 m_ranOf_19)] H := hP
        have hD : va_D A [((ad 11), aZ cy 7776 m_isCome), ((ad 1), aI cy 112 m_state), ((ad 6), aZ cy 7776 m_isMade_18), ((ad 7), aI cy 7776 m_cameFrom_18), ((ad 8), aI cy 7776 m_cameBy_18), ((ad 0), oX8 ad m_said m_waved_18 m_places m_end m_joints m_netPlaces m_begin m_finish m_rounds m_sews), ((ad 5), aI cy 7776 m_wave_18), ((ad 9), aI cy 7776 m_domOf_19), ((ad 10), aI cy 7776 m_ranOf_19)] := hD
        exact z_iret (m_waved_18, m_wave_18, m_isMade_18, m_cameFrom_18, m_cameBy_18, m_domOf_19, m_ranOf_19, m_isCome) hx hb hr hlocks ⟨m_waved_18, m_wave_18, m_isMade_18, m_cameFrom_18, m_cameBy_18, m_domOf_19, m_ranOf_19, m_isCome, rfl, h⟩ (hP.sub [5, 1, 6, 2, 3, 4, 7, 8, 0] rfl) (hD.sub [5, 1, 6, 2, 3, 4, 7, 8, 0] (by decide) rfl) hS dX8_made_78
      by_cases es_20_3 : x2 = (3 : Int32)
      · refine lv_tableIn (off := 48) (tgt := 79) hx hb dX8_made_31 (by rw [es_20_3]; decide) (by rw [es_20_3]; decide) (by rw [es_20_3]; decide) (by decide) ?_
        have h := h.2.2.2.1 es_20_3
        refine lv_aload_n hx hb dX8_made_79 rfl (lv_at hl 0 rfl) ?_
        refine zc_Vi (As := []) (rest := []) (wc := [((ad 0), oX8 ad m_said m_waved_18 m_places m_end m_joints m_netPlaces m_begin m_finish m_rounds m_sews), ((ad 5), aI cy 7776 m_wave_18), ((ad 9), aI cy 7776 m_domOf_19), ((ad 10), aI cy 7776 m_ranOf_19)]) (wr := [((ad 11), aZ cy 7776 m_isCome), ((ad 1), aI cy 112 m_state), ((ad 6), aZ cy 7776 m_isMade_18), ((ad 7), aI cy 7776 m_cameFrom_18), ((ad 8), aI cy 7776 m_cameBy_18)]) hx hb hml hown hts hK hPW hA hl.1 hP hD hS ⟨Nat.zero_le _, Nat.zero_le _⟩ [5, 6, 7, 8] [0, 1, 2, 3, 4] rfl rfl (by decide) (c_X8_greatestGroup l D cy (sz := _) (ad := ad) (m_said := m_said) (m_waved := m_waved_18) (m_places := m_places) (m_end := m_end) (m_joints := m_joints) (m_netPlaces := m_netPlaces) (m_begin := m_begin) (m_finish := m_finish) (m_rounds := m_rounds) (m_sews := m_sews) (m_wave := m_wave_18) (m_domOf := m_domOf_19) (m_ranOf := m_ranOf_19) (h := h)) k_X8_189 ⟨rfl, rfl, (Nat.le_of_ble_eq_true rfl), (Nat.le_of_ble_eq_true rfl)⟩ rfl rfl rfl rfl (Nat.le_of_ble_eq_true rfl) dX8_made_80 (fun r_23 _ H locs h hP hD hS => ?_)
        have hP : va_P D vwCl [((ad 11), aZ cy 7776 m_isCome), ((ad 1), aI cy 112 m_state), ((ad 6), aZ cy 7776 m_isMade_18), ((ad 7), aI cy 7776 m_cameFrom_18), ((ad 8), aI cy 7776 m_cameBy_18), ((ad 0), oX8 ad m_said m_waved_18 m_places m_end m_joints m_netPlaces m_begin m_finish m_rounds m_sews), ((ad 5), aI cy 7776 m_wave_18), ((ad 9), aI cy 7776 m_domOf_19), ((ad 10), aI cy 7776 m_ranOf_19)] H := hP
        have hD : va_D A [((ad 11), aZ cy 7776 m_isCome), ((ad 1), aI cy 112 m_state), ((ad 6), aZ cy 7776 m_isMade_18), ((ad 7), aI cy 7776 m_cameFrom_18), ((ad 8), aI cy 7776 m_cameBy_18), ((ad 0), oX8 ad m_said m_waved_18 m_places m_end m_joints m_netPlaces m_begin m_finish m_rounds m_sews), ((ad 5), aI cy 7776 m_wave_18), ((ad 9), aI cy 7776 m_domOf_19), ((ad 10), aI cy 7776 m_ranOf_19)] := hD
        exact z_iret (m_waved_18, m_wave_18, m_isMade_18, m_cameFrom_18, m_cameBy_18, m_domOf_19, m_ranOf_19, m_isCome) hx hb hr hlocks ⟨m_waved_18, m_wave_18, m_isMade_18, m_cameFrom_18, m_cameBy_18, m_domOf_19, m_ranOf_19, m_isCome, rfl, h⟩ (hP.sub [5, 1, 6, 2, 3, 4, 7, 8, 0] rfl) (hD.sub [5, 1, 6, 2, 3, 4, 7, 8, 0] (by decide) rfl) hS dX8_made_83
      by_cases es_20_4 : x2 = (4 : Int32)
      · refine lv_tableIn (off := 53) (tgt := 84) hx hb dX8_made_31 (by rw [es_20_4]; decide) (by rw [es_20_4]; decide) (by rw [es_20_4]; decide) (by decide) ?_
        have h := h.2.2.2.2.1 es_20_4
        refine lv_aload_n hx hb dX8_made_84 rfl (lv_at hl 0 rfl) ?_
        refine zc_Vi (As := []) (rest := []) (wc := [((ad 0), oX8 ad m_said m_waved_18 m_places m_end m_joints m_netPlaces m_begin m_finish m_rounds m_sews), ((ad 5), aI cy 7776 m_wave_18)]) (wr := [((ad 11), aZ cy 7776 m_isCome), ((ad 1), aI cy 112 m_state), ((ad 6), aZ cy 7776 m_isMade_18), ((ad 7), aI cy 7776 m_cameFrom_18), ((ad 8), aI cy 7776 m_cameBy_18), ((ad 9), aI cy 7776 m_domOf_19), ((ad 10), aI cy 7776 m_ranOf_19)]) hx hb hml hown hts hK hPW hA hl.1 hP hD hS ⟨Nat.zero_le _, Nat.zero_le _⟩ [5, 6] [0, 1, 2, 3, 4, 7, 8] rfl rfl (by decide) (c_X8_isClean l D cy (sz := _) (ad := ad) (m_said := m_said) (m_waved := m_waved_18) (m_places := m_places) (m_end := m_end) (m_joints := m_joints) (m_netPlaces := m_netPlaces) (m_begin := m_begin) (m_finish := m_finish) (m_rounds := m_rounds) (m_sews := m_sews) (m_wave := m_wave_18) (h := h)) k_X8_192 ⟨rfl, rfl, (Nat.le_of_ble_eq_true rfl), (Nat.le_of_ble_eq_true rfl)⟩ rfl rfl rfl rfl (Nat.le_of_ble_eq_true rfl) dX8_made_85 (fun r_24 _ H locs h hP hD hS => ?_)
        have hP : va_P D vwCl [((ad 11), aZ cy 7776 m_isCome), ((ad 1), aI cy 112 m_state), ((ad 6), aZ cy 7776 m_isMade_18), ((ad 7), aI cy 7776 m_cameFrom_18), ((ad 8), aI cy 7776 m_cameBy_18), ((ad 9), aI cy 7776 m_domOf_19), ((ad 10), aI cy 7776 m_ranOf_19), ((ad 0), oX8 ad m_said m_waved_18 m_places m_end m_joints m_netPlaces m_begin m_finish m_rounds m_sews), ((ad 5), aI cy 7776 m_wave_18)] H := hP
        have hD : va_D A [((ad 11), aZ cy 7776 m_isCome), ((ad 1), aI cy 112 m_state), ((ad 6), aZ cy 7776 m_isMade_18), ((ad 7), aI cy 7776 m_cameFrom_18), ((ad 8), aI cy 7776 m_cameBy_18), ((ad 9), aI cy 7776 m_domOf_19), ((ad 10), aI cy 7776 m_ranOf_19), ((ad 0), oX8 ad m_said m_waved_18 m_places m_end m_joints m_netPlaces m_begin m_finish m_rounds m_sews), ((ad 5), aI cy 7776 m_wave_18)] := hD
        refine lv_if_eq (tgt := 95) hx hb dX8_made_88 (by decide) (fun c_25 => ?_) (fun c_25 => ?_)
        · have h := h.1 c_25
          refine lv_iconst (v := (0 : Int32)) hx hb dX8_made_95 (by decide) ?_
          exact z_iret (m_waved_18, m_wave_18, m_isMade_18, m_cameFrom_18, m_cameBy_18, m_domOf_19, m_ranOf_19, m_isCome) hx hb hr hlocks ⟨m_waved_18, m_wave_18, m_isMade_18, m_cameFrom_18, m_cameBy_18, m_domOf_19, m_ranOf_19, m_isCome, rfl, h⟩ (hP.sub [7, 1, 8, 2, 3, 4, 5, 6, 0] rfl) (hD.sub [7, 1, 8, 2, 3, 4, 5, 6, 0] (by decide) rfl) hS dX8_made_96
        · have h := h.2 c_25
          refine lv_iconst (v := (1 : Int32)) hx hb dX8_made_91 (by decide) ?_
          refine lv_goto (tgt := 96) hx hb dX8_made_92 (by decide) ?_
          exact z_iret (m_waved_18, m_wave_18, m_isMade_18, m_cameFrom_18, m_cameBy_18, m_domOf_19, m_ranOf_19, m_isCome) hx hb hr hlocks ⟨m_waved_18, m_wave_18, m_isMade_18, m_cameFrom_18, m_cameBy_18, m_domOf_19, m_ranOf_19, m_isCome, rfl, h⟩ (hP.sub [7, 1, 8, 2, 3, 4, 5, 6, 0] rfl) (hD.sub [7, 1, 8, 2, 3, 4, 5, 6, 0] (by decide) rfl) hS dX8_made_96
      refine lv_tableOut (tgt := 97) hx hb dX8_made_31 (by have := lv_neT es_20_0 (a := 0) (by decide); have := lv_neT es_20_1 (a := 1) (by decide); have := lv_neT es_20_2 (a := 2) (by decide); have := lv_neT es_20_3 (a := 3) (by decide); have := lv_neT es_20_4 (a := 4) (by decide); omega) (by decide) ?_
      have h := h.2.2.2.2.2 es_20_0 es_20_1 es_20_2 es_20_3 es_20_4
      refine lv_aload_n hx hb dX8_made_97 rfl (lv_at hl 0 rfl) ?_
      refine zc_Vi (As := []) (rest := []) (wc := [((ad 0), oX8 ad m_said m_waved_18 m_places m_end m_joints m_netPlaces m_begin m_finish m_rounds m_sews), ((ad 5), aI cy 7776 m_wave_18), ((ad 11), aZ cy 7776 m_isCome)]) (wr := [((ad 1), aI cy 112 m_state), ((ad 6), aZ cy 7776 m_isMade_18), ((ad 7), aI cy 7776 m_cameFrom_18), ((ad 8), aI cy 7776 m_cameBy_18), ((ad 9), aI cy 7776 m_domOf_19), ((ad 10), aI cy 7776 m_ranOf_19)]) hx hb hml hown hts hK hPW hA hl.1 hP hD hS ⟨Nat.zero_le _, Nat.zero_le _⟩ [5, 6, 0] [1, 2, 3, 4, 7, 8] rfl rfl (by decide) (c_X8_imageGroup l D cy (sz := _) (ad := ad) (m_said := m_said) (m_waved := m_waved_18) (m_places := m_places) (m_end := m_end) (m_joints := m_joints) (m_netPlaces := m_netPlaces) (m_begin := m_begin) (m_finish := m_finish) (m_rounds := m_rounds) (m_sews := m_sews) (m_wave := m_wave_18) (m_isCome := m_isCome) (h := h)) k_X8_196 ⟨rfl, rfl, (Nat.le_of_ble_eq_true rfl), (Nat.le_of_ble_eq_true rfl)⟩ rfl rfl rfl rfl (Nat.le_of_ble_eq_true rfl) dX8_made_98 (fun r_26 m_isCome_26 H locs h hP hD hS => ?_)
      have hP : va_P D vwCl [((ad 1), aI cy 112 m_state), ((ad 6), aZ cy 7776 m_isMade_18), ((ad 7), aI cy 7776 m_cameFrom_18), ((ad 8), aI cy 7776 m_cameBy_18), ((ad 9), aI cy 7776 m_domOf_19), ((ad 10), aI cy 7776 m_ranOf_19), ((ad 0), oX8 ad m_said m_waved_18 m_places m_end m_joints m_netPlaces m_begin m_finish m_rounds m_sews), ((ad 5), aI cy 7776 m_wave_18), ((ad 11), aZ cy 7776 m_isCome_26)] H := hP
      have hD : va_D A [((ad 1), aI cy 112 m_state), ((ad 6), aZ cy 7776 m_isMade_18), ((ad 7), aI cy 7776 m_cameFrom_18), ((ad 8), aI cy 7776 m_cameBy_18), ((ad 9), aI cy 7776 m_domOf_19), ((ad 10), aI cy 7776 m_ranOf_19), ((ad 0), oX8 ad m_said m_waved_18 m_places m_end m_joints m_netPlaces m_begin m_finish m_rounds m_sews), ((ad 5), aI cy 7776 m_wave_18), ((ad 11), aZ cy 7776 m_isCome_26)] := hD
      exact z_iret (m_waved_18, m_wave_18, m_isMade_18, m_cameFrom_18, m_cameBy_18, m_domOf_19, m_ranOf_19, m_isCome_26) hx hb hr hlocks ⟨m_waved_18, m_wave_18, m_isMade_18, m_cameFrom_18, m_cameBy_18, m_domOf_19, m_ranOf_19, m_isCome_26, rfl, h⟩ (hP.sub [6, 0, 7, 1, 2, 3, 4, 5, 8] rfl) (hD.sub [6, 0, 7, 1, 2, 3, 4, 5, 8] (by decide) rfl) hS dX8_made_101
    · have h := h.2 c_17
      refine lv_bipush (v := (-2 : Int32)) hx hb dX8_made_18 (by decide) ?_
      exact z_iret (m_waved, m_wave, m_isMade, m_cameFrom, m_cameBy, m_domOf, m_ranOf, m_isCome) hx hb hr hlocks ⟨m_waved, m_wave, m_isMade, m_cameFrom, m_cameBy, m_domOf, m_ranOf, m_isCome, rfl, h⟩ hP hD hS dX8_made_20
set_option maxHeartbeats 4000000 in
set_option maxRecDepth 100000 in
theorem c_X8_way (l : Launch) (D : va_G) (cy : Nat → ClassId) (ad : Nat → Nat) (sz : Nat) (m_said : Int32) (m_waved : Int32) (m_places : Int32) (m_end : Int32) (m_joints : Int32) (m_netPlaces : Int32) (m_begin : Int32) (m_finish : Int32) (m_rounds : Int32) (m_sews : Int32) (m_state : Nat → Int32) (m_wave : Nat → Int32) (m_isMade : Nat → Int32) (m_cameFrom : Nat → Int32) (m_cameBy : Nat → Int32) (x1 : Int32) (x2 : Int32) (x3 : Int32) {Q : Int32 → Int32 → (Nat → Int32) → (Nat → Int32) → (Nat → Int32) → (Nat → Int32) → Prop} (h : wp_X8_way x1 x2 x3 m_waved m_state m_wave m_isMade m_cameFrom m_cameBy Q) : Met l yX8_way (wsU yX8_way cX8_way 8 (some .int)) { frames := 5, cells := 0, slots := 0, locals := 110 } (va_Pc [.ref (ad 0), .int x1, .int x2, .int x3] (zB D vwCl (tyU cy) [((ad 0), oX8 ad m_said m_waved m_places m_end m_joints m_netPlaces m_begin m_finish m_rounds m_sews), ((ad 1), aI cy 112 m_state), ((ad 5), aI cy 7776 m_wave), ((ad 6), aZ cy 7776 m_isMade), ((ad 7), aI cy 7776 m_cameFrom), ((ad 8), aI cy 7776 m_cameBy)] sz)) ((fun A => va_Qi (fun (r : Int32) (u : Int32 × (Nat → Int32) × (Nat → Int32) × (Nat → Int32) × (Nat → Int32)) => ∃ (z0 : Int32) (z1 : Nat → Int32) (z2 : Nat → Int32) (z3 : Nat → Int32) (z4 : Nat → Int32), u = (z0, z1, z2, z3, z4) ∧ Q r z0 z1 z2 z3 z4) (zE D vwCl A (fun (u : Int32 × (Nat → Int32) × (Nat → Int32) × (Nat → Int32) × (Nat → Int32)) => [((ad 0), oX8 ad m_said (u.1) m_places m_end m_joints m_netPlaces m_begin m_finish m_rounds m_sews), ((ad 1), aI cy 112 m_state), ((ad 5), aI cy 7776 (u.2.1)), ((ad 6), aZ cy 7776 (u.2.2.1)), ((ad 7), aI cy 7776 (u.2.2.2.1)), ((ad 8), aI cy 7776 (u.2.2.2.2))])) A) (va_A [((ad 0), oX8 ad m_said m_waved m_places m_end m_joints m_netPlaces m_begin m_finish m_rounds m_sews), ((ad 1), aI cy 112 m_state), ((ad 5), aI cy 7776 m_wave), ((ad 6), aZ cy 7776 m_isMade), ((ad 7), aI cy 7776 m_cameFrom), ((ad 8), aI cy 7776 m_cameBy)] sz)) 0 0 (va_A [((ad 0), oX8 ad m_said m_waved m_places m_end m_joints m_netPlaces m_begin m_finish m_rounds m_sews), ((ad 1), aI cy 112 m_state), ((ad 5), aI cy 7776 m_wave), ((ad 6), aZ cy 7776 m_isMade), ((ad 7), aI cy 7776 m_cameFrom), ((ad 8), aI cy 7776 m_cameBy)] sz) := by
  refine z_ofX (fun A => va_Qi (fun (r : Int32) (u : Int32 × (Nat → Int32) × (Nat → Int32) × (Nat → Int32) × (Nat → Int32)) => ∃ (z0 : Int32) (z1 : Nat → Int32) (z2 : Nat → Int32) (z3 : Nat → Int32) (z4 : Nat → Int32), u = (z0, z1, z2, z3, z4) ∧ Q r z0 z1 z2 z3 z4) (zE D vwCl A (fun (u : Int32 × (Nat → Int32) × (Nat → Int32) × (Nat → Int32) × (Nat → Int32)) => [((ad 0), oX8 ad m_said (u.1) m_places m_end m_joints m_netPlaces m_begin m_finish m_rounds m_sews), ((ad 1), aI cy 112 m_state), ((ad 5), aI cy 7776 (u.2.1)), ((ad 6), aZ cy 7776 (u.2.2.1)), ((ad 7), aI cy 7776 (u.2.2.2.1)), ((ad 8), aI cy 7776 (u.2.2.2.2))])) A) (by decide) (Nat.le_of_ble_eq_true rfl) (fun p e s m below meth c A ls hx hb hr hml hown hts hlocks hK hPW hA hP hD hS hl => ?_)
  have hl : lv_has ls 8 [(0, .ref (ad 0)), (1, .int x1), (2, .int x2), (3, .int x3)] := hl
  have hown : s.vm.findClass RX8 = some m.cls := hown
  generalize hArg : ([.ref (ad 0), .int x1, .int x2, .int x3] : List Value).toArray = args at hts ⊢
  have hJ109 : ∀ (x3 : Int32) (x6 : Int32) (x7 : Int32) (m_waved : Int32) (m_wave : Nat → Int32) (m_isMade : Nat → Int32) (m_cameFrom : Nat → Int32) (m_cameBy : Nat → Int32), wp_X8_way_109 m_state x3 m_waved m_wave m_isMade m_cameFrom m_cameBy  Q x6 x7 → ∀ (H : Heap) (locs : List Loc) (ls : Array Slot), va_P D vwCl [((ad 0), oX8 ad m_said m_waved m_places m_end m_joints m_netPlaces m_begin m_finish m_rounds m_sews), ((ad 1), aI cy 112 m_state), ((ad 5), aI cy 7776 m_wave), ((ad 6), aZ cy 7776 m_isMade), ((ad 7), aI cy 7776 m_cameFrom), ((ad 8), aI cy 7776 m_cameBy)] H → va_D A [((ad 0), oX8 ad m_said m_waved m_places m_end m_joints m_netPlaces m_begin m_finish m_rounds m_sews), ((ad 1), aI cy 112 m_state), ((ad 5), aI cy 7776 m_wave), ((ad 6), aZ cy 7776 m_isMade), ((ad 7), aI cy 7776 m_cameFrom), ((ad 8), aI cy 7776 m_cameBy)] → va_S A s.heap H locs → lv_has ls 8 [(0, .ref (ad 0)), (3, .int x3), (6, .int x6), (7, .int x7)] → W p l e { frames := 5, cells := 0, slots := 0, locals := 110 } s m args below meth c H locs 0 0 (MQ below ((fun A => va_Qi (fun (r : Int32) (u : Int32 × (Nat → Int32) × (Nat → Int32) × (Nat → Int32) × (Nat → Int32)) => ∃ (z0 : Int32) (z1 : Nat → Int32) (z2 : Nat → Int32) (z3 : Nat → Int32) (z4 : Nat → Int32), u = (z0, z1, z2, z3, z4) ∧ Q r z0 z1 z2 z3 z4) (zE D vwCl A (fun (u : Int32 × (Nat → Int32) × (Nat → Int32) × (Nat → Int32) × (Nat → Int32)) => [((ad 0), oX8 ad m_said (u.1) m_places m_end m_joints m_netPlaces m_begin m_finish m_rounds m_sews), ((ad 1), aI cy 112 m_state), ((ad 5), aI cy 7776 (u.2.1)), ((ad 6), aZ cy 7776 (u.2.2.1)), ((ad 7), aI cy 7776 (u.2.2.2.1)), ((ad 8), aI cy 7776 (u.2.2.2.2))])) A) A) args s 0 0 A) (F0 m 109 ls []) := by
    intro x3 x6 x7 m_waved m_wave m_isMade m_cameFrom m_cameBy   h
    obtain ⟨nn, h⟩ := h
    have key : ∀ (nn : Nat) (x6 : Int32) (x7 : Int32), lpW2 (wb_X8_way_109 m_state x3 m_waved m_wave m_isMade m_cameFrom m_cameBy  Q) nn x6 x7 → ∀ (H : Heap) (locs : List Loc) (ls : Array Slot), va_P D vwCl [((ad 0), oX8 ad m_said m_waved m_places m_end m_joints m_netPlaces m_begin m_finish m_rounds m_sews), ((ad 1), aI cy 112 m_state), ((ad 5), aI cy 7776 m_wave), ((ad 6), aZ cy 7776 m_isMade), ((ad 7), aI cy 7776 m_cameFrom), ((ad 8), aI cy 7776 m_cameBy)] H → va_D A [((ad 0), oX8 ad m_said m_waved m_places m_end m_joints m_netPlaces m_begin m_finish m_rounds m_sews), ((ad 1), aI cy 112 m_state), ((ad 5), aI cy 7776 m_wave), ((ad 6), aZ cy 7776 m_isMade), ((ad 7), aI cy 7776 m_cameFrom), ((ad 8), aI cy 7776 m_cameBy)] → va_S A s.heap H locs → lv_has ls 8 [(0, .ref (ad 0)), (3, .int x3), (6, .int x6), (7, .int x7)] → W p l e { frames := 5, cells := 0, slots := 0, locals := 110 } s m args below meth c H locs 0 0 (MQ below ((fun A => va_Qi (fun (r : Int32) (u : Int32 × (Nat → Int32) × (Nat → Int32) × (Nat → Int32) × (Nat → Int32)) => ∃ (z0 : Int32) (z1 : Nat → Int32) (z2 : Nat → Int32) (z3 : Nat → Int32) (z4 : Nat → Int32), u = (z0, z1, z2, z3, z4) ∧ Q r z0 z1 z2 z3 z4) (zE D vwCl A (fun (u : Int32 × (Nat → Int32) × (Nat → Int32) × (Nat → Int32) × (Nat → Int32)) => [((ad 0), oX8 ad m_said (u.1) m_places m_end m_joints m_netPlaces m_begin m_finish m_rounds m_sews), ((ad 1), aI cy 112 m_state), ((ad 5), aI cy 7776 (u.2.1)), ((ad 6), aZ cy 7776 (u.2.2.1)), ((ad 7), aI cy 7776 (u.2.2.2.1)), ((ad 8), aI cy 7776 (u.2.2.2.2))])) A) A) args s 0 0 A) (F0 m 109 ls []) := by
      intro nn
      induction nn with
      | zero => intro x6 x7 h; exact h.elim
      | succ nn hrc109 =>
        intro x6 x7 h H locs ls hP hD hS hl
        have h : wb_X8_way_109 m_state x3 m_waved m_wave m_isMade m_cameFrom m_cameBy  Q (lpW2 (wb_X8_way_109 m_state x3 m_waved m_wave m_isMade m_cameFrom m_cameBy  Q) nn) x6 x7 := h
        unfold wb_X8_way_109 at h
        refine lv_iload hx hb dX8_way_109 (lv_at hl 3 rfl) ?_
        refine lv_iload_n hx hb dX8_way_111 rfl (lv_at hl 1 rfl) ?_
        refine lv_icmp_le (tgt := 130) hx hb dX8_way_112 (by decide) (fun c_23 => ?_) (fun c_23 => ?_)
        · have h := h.1 c_23
          refine lv_aload_n hx hb dX8_way_130 rfl (lv_at hl 0 rfl) ?_
          refine va_get (D := D) (ci := 7) (v := .ref (ad 8)) (C := RX8) (T := TX8) (N := 35) hx hb hts iX8 hown hK hP 0 rfl rfl 9 (Nat.le_of_ble_eq_true rfl) (hts _ fl_X8_32) (fun _ h9 => h9) rfl dX8_way_131 ?_
          refine lv_iload hx hb dX8_way_134 (lv_at hl 2 rfl) ?_
          obtain ⟨hi_24, h⟩ := h
          refine va_iald hx hb hK hP 5 0 rfl rfl hi_24 dX8_way_136 ?_
          exact z_iret (m_waved, m_wave, m_isMade, m_cameFrom, m_cameBy) hx hb hr hlocks ⟨m_waved, m_wave, m_isMade, m_cameFrom, m_cameBy, rfl, h⟩ hP hD hS dX8_way_137
        · have h := h.2 c_23
          refine lv_aload_n hx hb dX8_way_115 rfl (lv_at hl 0 rfl) ?_
          refine va_get (D := D) (ci := 7) (v := .ref (ad 7)) (C := RX8) (T := TX8) (N := 35) hx hb hts iX8 hown hK hP 0 rfl rfl 8 (Nat.le_of_ble_eq_true rfl) (hts _ fl_X8_29) (fun _ h9 => h9) rfl dX8_way_116 ?_
          refine lv_iload hx hb dX8_way_119 (lv_at hl 2 rfl) ?_
          obtain ⟨hi_25, h⟩ := h
          refine va_iald hx hb hK hP 4 0 rfl rfl hi_25 dX8_way_121 ?_
          refine lv_topi (fun x6_26 e_x6_26 => ?_)
          have h := h x6_26 e_x6_26
          refine lv_istore (lv' := [(6, .int x6_26), (0, .ref (ad 0)), (3, .int x3), (7, .int x7)]) hx hb dX8_way_122 hl (by decide) rfl (fun ls hl => ?_)
          obtain ⟨x7_27, e_x7_27⟩ : ∃ y : Int32, y = x7 + (-1 : Int32) := ⟨_, rfl⟩
          refine lv_iinc (v := x7_27) (lv' := [(7, .int x7_27), (6, .int x6_26), (0, .ref (ad 0)), (3, .int x3)]) hx hb dX8_way_124 hl (k := 3) rfl (by rw [e_x7_27]; rfl) (by decide) rfl (fun ls hl => ?_)
          have h := h x7_27 e_x7_27
          refine lv_goto (tgt := 109) hx hb dX8_way_127 (by decide) ?_
          exact hrc109 x6_26 x7_27 h _ _ _ hP hD hS (lv_sub hl [2, 3, 1, 0] rfl)
    exact key nn x6 x7 h
  have hJ56 : ∀ (x3 : Int32) (x4 : Int32) (x5 : Int32) (x6 : Int32) (m_waved : Int32) (m_wave : Nat → Int32) (m_isMade : Nat → Int32) (m_cameFrom : Nat → Int32) (m_cameBy : Nat → Int32), wp_X8_way_56 m_state x3 x4 m_waved m_wave m_isMade m_cameFrom m_cameBy  Q x5 x6 → ∀ (H : Heap) (locs : List Loc) (ls : Array Slot), va_P D vwCl [((ad 0), oX8 ad m_said m_waved m_places m_end m_joints m_netPlaces m_begin m_finish m_rounds m_sews), ((ad 1), aI cy 112 m_state), ((ad 5), aI cy 7776 m_wave), ((ad 6), aZ cy 7776 m_isMade), ((ad 7), aI cy 7776 m_cameFrom), ((ad 8), aI cy 7776 m_cameBy)] H → va_D A [((ad 0), oX8 ad m_said m_waved m_places m_end m_joints m_netPlaces m_begin m_finish m_rounds m_sews), ((ad 1), aI cy 112 m_state), ((ad 5), aI cy 7776 m_wave), ((ad 6), aZ cy 7776 m_isMade), ((ad 7), aI cy 7776 m_cameFrom), ((ad 8), aI cy 7776 m_cameBy)] → va_S A s.heap H locs → lv_has ls 8 [(0, .ref (ad 0)), (3, .int x3), (4, .int x4), (5, .int x5), (6, .int x6)] → W p l e { frames := 5, cells := 0, slots := 0, locals := 110 } s m args below meth c H locs 0 0 (MQ below ((fun A => va_Qi (fun (r : Int32) (u : Int32 × (Nat → Int32) × (Nat → Int32) × (Nat → Int32) × (Nat → Int32)) => ∃ (z0 : Int32) (z1 : Nat → Int32) (z2 : Nat → Int32) (z3 : Nat → Int32) (z4 : Nat → Int32), u = (z0, z1, z2, z3, z4) ∧ Q r z0 z1 z2 z3 z4) (zE D vwCl A (fun (u : Int32 × (Nat → Int32) × (Nat → Int32) × (Nat → Int32) × (Nat → Int32)) => [((ad 0), oX8 ad m_said (u.1) m_places m_end m_joints m_netPlaces m_begin m_finish m_rounds m_sews), ((ad 1), aI cy 112 m_state), ((ad 5), aI cy 7776 (u.2.1)), ((ad 6), aZ cy 7776 (u.2.2.1)), ((ad 7), aI cy 7776 (u.2.2.2.1)), ((ad 8), aI cy 7776 (u.2.2.2.2))])) A) A) args s 0 0 A) (F0 m 56 ls []) := by
    intro x3 x4 x5 x6 m_waved m_wave m_isMade m_cameFrom m_cameBy   h
    obtain ⟨nn, h⟩ := h
    have key : ∀ (nn : Nat) (x5 : Int32) (x6 : Int32), lpW2 (wb_X8_way_56 m_state x3 x4 m_waved m_wave m_isMade m_cameFrom m_cameBy  Q) nn x5 x6 → ∀ (H : Heap) (locs : List Loc) (ls : Array Slot), va_P D vwCl [((ad 0), oX8 ad m_said m_waved m_places m_end m_joints m_netPlaces m_begin m_finish m_rounds m_sews), ((ad 1), aI cy 112 m_state), ((ad 5), aI cy 7776 m_wave), ((ad 6), aZ cy 7776 m_isMade), ((ad 7), aI cy 7776 m_cameFrom), ((ad 8), aI cy 7776 m_cameBy)] H → va_D A [((ad 0), oX8 ad m_said m_waved m_places m_end m_joints m_netPlaces m_begin m_finish m_rounds m_sews), ((ad 1), aI cy 112 m_state), ((ad 5), aI cy 7776 m_wave), ((ad 6), aZ cy 7776 m_isMade), ((ad 7), aI cy 7776 m_cameFrom), ((ad 8), aI cy 7776 m_cameBy)] → va_S A s.heap H locs → lv_has ls 8 [(0, .ref (ad 0)), (3, .int x3), (4, .int x4), (5, .int x5), (6, .int x6)] → W p l e { frames := 5, cells := 0, slots := 0, locals := 110 } s m args below meth c H locs 0 0 (MQ below ((fun A => va_Qi (fun (r : Int32) (u : Int32 × (Nat → Int32) × (Nat → Int32) × (Nat → Int32) × (Nat → Int32)) => ∃ (z0 : Int32) (z1 : Nat → Int32) (z2 : Nat → Int32) (z3 : Nat → Int32) (z4 : Nat → Int32), u = (z0, z1, z2, z3, z4) ∧ Q r z0 z1 z2 z3 z4) (zE D vwCl A (fun (u : Int32 × (Nat → Int32) × (Nat → Int32) × (Nat → Int32) × (Nat → Int32)) => [((ad 0), oX8 ad m_said (u.1) m_places m_end m_joints m_netPlaces m_begin m_finish m_rounds m_sews), ((ad 1), aI cy 112 m_state), ((ad 5), aI cy 7776 (u.2.1)), ((ad 6), aZ cy 7776 (u.2.2.1)), ((ad 7), aI cy 7776 (u.2.2.2.1)), ((ad 8), aI cy 7776 (u.2.2.2.2))])) A) A) args s 0 0 A) (F0 m 56 ls []) := by
      intro nn
      induction nn with
      | zero => intro x5 x6 h; exact h.elim
      | succ nn hrc56 =>
        intro x5 x6 h H locs ls hP hD hS hl
        have h : wb_X8_way_56 m_state x3 x4 m_waved m_wave m_isMade m_cameFrom m_cameBy  Q (lpW2 (wb_X8_way_56 m_state x3 x4 m_waved m_wave m_isMade m_cameFrom m_cameBy  Q) nn) x5 x6 := h
        unfold wb_X8_way_56 at h
        refine lv_iload hx hb dX8_way_56 (lv_at hl 4 rfl) ?_
        refine lv_if_lt (tgt := 76) hx hb dX8_way_58 (by decide) (fun c_28 => ?_) (fun c_28 => ?_)
        · have h := h.1 c_28
          refine lv_iload_n hx hb dX8_way_76 rfl (lv_at hl 1 rfl) ?_
          refine lv_iconst (v := (-1 : Int32)) hx hb dX8_way_77 (by decide) ?_
          refine lv_icmp_ne (tgt := 84) hx hb dX8_way_78 (by decide) (fun c_29 => ?_) (fun c_29 => ?_)
          · have h := h.1 c_29
            refine lv_iload_n hx hb dX8_way_84 rfl (lv_at hl 1 rfl) ?_
            refine lv_iconst (v := (0 : Int32)) hx hb dX8_way_85 (by decide) ?_
            refine lv_iload hx hb dX8_way_86 (lv_at hl 3 rfl) ?_
            refine lv_iconst (v := (1 : Int32)) hx hb dX8_way_88 (by decide) ?_
            refine lv_isub hx hb dX8_way_89 ?_
            refine zc_S0 (As := [.int x3, .int (0 : Int32), .int (x5 - (1 : Int32))]) (rest := []) hx hb hml hown hts hK hPW hA hl.1 hP hS ⟨Nat.zero_le _, Nat.zero_le _⟩ (c_X8_in l D cy (sz := _) (x0 := x3) (x1 := (0 : Int32)) (x2 := (x5 - (1 : Int32))) (h := h)) k_X8_91 ⟨rfl, rfl, (Nat.le_of_ble_eq_true rfl), (Nat.le_of_ble_eq_true rfl)⟩ rfl rfl (Nat.le_of_ble_eq_true rfl) dX8_way_90 (fun r_30 H locs h hP hS => ?_)
            refine lv_if_ne (tgt := 99) hx hb dX8_way_93 (by decide) (fun c_31 => ?_) (fun c_31 => ?_)
            · have h := h.1 c_31
              refine lv_iload hx hb dX8_way_99 (lv_at hl 2 rfl) ?_
              refine lv_istore (lv' := [(6, .int x4), (0, .ref (ad 0)), (3, .int x3), (4, .int x4), (5, .int x5)]) hx hb dX8_way_101 hl (by decide) rfl (fun ls hl => ?_)
              refine lv_iload hx hb dX8_way_103 (lv_at hl 4 rfl) ?_
              refine lv_iconst (v := (1 : Int32)) hx hb dX8_way_105 (by decide) ?_
              refine lv_isub hx hb dX8_way_106 ?_
              refine lv_topi (fun x7_32 e_x7_32 => ?_)
              have h := h x7_32 e_x7_32
              refine lv_istore (lv' := [(7, .int x7_32), (6, .int x4), (0, .ref (ad 0)), (3, .int x3), (4, .int x4), (5, .int x5)]) hx hb dX8_way_107 hl (by decide) rfl (fun ls hl => ?_)
              exact hJ109 x3 x4 x7_32 m_waved m_wave m_isMade m_cameFrom m_cameBy   h _ _ _ hP hD hS (lv_sub hl [2, 3, 1, 0] rfl)
            · have h := h.2 c_31
              refine lv_bipush (v := (-6 : Int32)) hx hb dX8_way_96 (by decide) ?_
              exact z_iret (m_waved, m_wave, m_isMade, m_cameFrom, m_cameBy) hx hb hr hlocks ⟨m_waved, m_wave, m_isMade, m_cameFrom, m_cameBy, rfl, h⟩ hP hD hS dX8_way_98
          · have h := h.2 c_29
            refine lv_iload hx hb dX8_way_81 (lv_at hl 3 rfl) ?_
            exact z_iret (m_waved, m_wave, m_isMade, m_cameFrom, m_cameBy) hx hb hr hlocks ⟨m_waved, m_wave, m_isMade, m_cameFrom, m_cameBy, rfl, h⟩ hP hD hS dX8_way_83
        · have h := h.2 c_28
          obtain ⟨x5_33, e_x5_33⟩ : ∃ y : Int32, y = x5 + (1 : Int32) := ⟨_, rfl⟩
          refine lv_iinc (v := x5_33) (lv' := [(5, .int x5_33), (0, .ref (ad 0)), (3, .int x3), (4, .int x4), (6, .int x6)]) hx hb dX8_way_61 hl (k := 3) rfl (by rw [e_x5_33]; rfl) (by decide) rfl (fun ls hl => ?_)
          have h := h x5_33 e_x5_33
          refine lv_aload_n hx hb dX8_way_64 rfl (lv_at hl 1 rfl) ?_
          refine va_get (D := D) (ci := 7) (v := .ref (ad 7)) (C := RX8) (T := TX8) (N := 35) hx hb hts iX8 hown hK hP 0 rfl rfl 8 (Nat.le_of_ble_eq_true rfl) (hts _ fl_X8_29) (fun _ h9 => h9) rfl dX8_way_65 ?_
          refine lv_iload hx hb dX8_way_68 (lv_at hl 4 rfl) ?_
          obtain ⟨hi_34, h⟩ := h
          refine va_iald hx hb hK hP 4 0 rfl rfl hi_34 dX8_way_70 ?_
          refine lv_topi (fun x6_35 e_x6_35 => ?_)
          have h := h x6_35 e_x6_35
          refine lv_istore (lv' := [(6, .int x6_35), (5, .int x5_33), (0, .ref (ad 0)), (3, .int x3), (4, .int x4)]) hx hb dX8_way_71 hl (by decide) rfl (fun ls hl => ?_)
          refine lv_goto (tgt := 56) hx hb dX8_way_73 (by decide) ?_
          exact hrc56 x5_33 x6_35 h _ _ _ hP hD hS (lv_sub hl [2, 3, 4, 1, 0] rfl)
    exact key nn x5 x6 h
  unfold wp_X8_way at h
  refine lv_iload_n hx hb dX8_way_0 rfl (lv_at hl 1 rfl) ?_
  refine lv_iconst (v := (1 : Int32)) hx hb dX8_way_1 (by decide) ?_
  refine lv_iconst (v := (3 : Int32)) hx hb dX8_way_2 (by decide) ?_
  refine zc_S0 (As := [.int x1, .int (1 : Int32), .int (3 : Int32)]) (rest := []) hx hb hml hown hts hK hPW hA hl.1 hP hS ⟨Nat.zero_le _, Nat.zero_le _⟩ (c_X8_in l D cy (sz := _) (x0 := x1) (x1 := (1 : Int32)) (x2 := (3 : Int32)) (h := h)) k_X8_91 ⟨rfl, rfl, (Nat.le_of_ble_eq_true rfl), (Nat.le_of_ble_eq_true rfl)⟩ rfl rfl (Nat.le_of_ble_eq_true rfl) dX8_way_3 (fun r_36 H locs h hP hS => ?_)
  refine lv_if_ne (tgt := 12) hx hb dX8_way_6 (by decide) (fun c_37 => ?_) (fun c_37 => ?_)
  · have h := h.1 c_37
    refine lv_iload_n hx hb dX8_way_12 rfl (lv_at hl 2 rfl) ?_
    refine zc_S0 (As := [.int x2]) (rest := []) hx hb hml hown hts hK hPW hA hl.1 hP hS ⟨Nat.zero_le _, Nat.zero_le _⟩ (c_X8_isSlot l D cy (sz := _) (x0 := x2) (h := h)) k_X8_116 ⟨rfl, rfl, (Nat.le_of_ble_eq_true rfl), (Nat.le_of_ble_eq_true rfl)⟩ rfl rfl (Nat.le_of_ble_eq_true rfl) dX8_way_13 (fun r_38 H locs h hP hS => ?_)
    refine lv_if_ne (tgt := 21) hx hb dX8_way_16 (by decide) (fun c_39 => ?_) (fun c_39 => ?_)
    · have h := h.1 c_39
      refine lv_aload_n hx hb dX8_way_21 rfl (lv_at hl 0 rfl) ?_
      refine lv_iload_n hx hb dX8_way_22 rfl (lv_at hl 1 rfl) ?_
      refine zc_Vv (As := [.int x1]) (rest := []) (wc := [((ad 0), oX8 ad m_said m_waved m_places m_end m_joints m_netPlaces m_begin m_finish m_rounds m_sews), ((ad 1), aI cy 112 m_state), ((ad 5), aI cy 7776 m_wave), ((ad 6), aZ cy 7776 m_isMade), ((ad 7), aI cy 7776 m_cameFrom), ((ad 8), aI cy 7776 m_cameBy)]) (wr := []) hx hb hml hown hts hK hPW hA hl.1 hP hD hS ⟨Nat.zero_le _, Nat.zero_le _⟩ [0, 1, 2, 3, 4, 5] [] rfl rfl (by decide) (c_X8_layMade l D cy (sz := _) (x1 := x1) (ad := ad) (m_said := m_said) (m_waved := m_waved) (m_places := m_places) (m_end := m_end) (m_joints := m_joints) (m_netPlaces := m_netPlaces) (m_begin := m_begin) (m_finish := m_finish) (m_rounds := m_rounds) (m_sews := m_sews) (m_state := m_state) (m_wave := m_wave) (m_isMade := m_isMade) (m_cameFrom := m_cameFrom) (m_cameBy := m_cameBy) (h := h)) k_X8_176 ⟨rfl, rfl, (Nat.le_of_ble_eq_true rfl), (Nat.le_of_ble_eq_true rfl)⟩ rfl rfl rfl rfl (Nat.le_of_ble_eq_true rfl) dX8_way_23 (fun u_40 H locs h hP hD hS => ?_)
      obtain ⟨m_waved_40, m_wave_40, m_isMade_40, m_cameFrom_40, m_cameBy_40, rfl, h⟩ := h
      have hP : va_P D vwCl [((ad 0), oX8 ad m_said m_waved_40 m_places m_end m_joints m_netPlaces m_begin m_finish m_rounds m_sews), ((ad 1), aI cy 112 m_state), ((ad 5), aI cy 7776 m_wave_40), ((ad 6), aZ cy 7776 m_isMade_40), ((ad 7), aI cy 7776 m_cameFrom_40), ((ad 8), aI cy 7776 m_cameBy_40)] H := hP
      have hD : va_D A [((ad 0), oX8 ad m_said m_waved_40 m_places m_end m_joints m_netPlaces m_begin m_finish m_rounds m_sews), ((ad 1), aI cy 112 m_state), ((ad 5), aI cy 7776 m_wave_40), ((ad 6), aZ cy 7776 m_isMade_40), ((ad 7), aI cy 7776 m_cameFrom_40), ((ad 8), aI cy 7776 m_cameBy_40)] := hD
      refine lv_aload_n hx hb dX8_way_26 rfl (lv_at hl 0 rfl) ?_
      refine va_get (D := D) (ci := 7) (v := .ref (ad 1)) (C := RX8) (T := TX8) (N := 35) hx hb hts iX8 hown hK hP 0 rfl rfl 0 (Nat.le_of_ble_eq_true rfl) (hts _ fl_X8_7) (fun _ h9 => h9) rfl dX8_way_27 ?_
      refine lv_iconst (v := (0 : Int32)) hx hb dX8_way_30 (by decide) ?_
      refine lv_iload_n hx hb dX8_way_31 rfl (lv_at hl 2 rfl) ?_
      refine lv_iadd hx hb dX8_way_32 ?_
      obtain ⟨hi_41, h⟩ := h
      refine va_iald hx hb hK hP 1 0 rfl rfl hi_41 dX8_way_33 ?_
      refine lv_topi (fun x4_42 e_x4_42 => ?_)
      have h := h x4_42 e_x4_42
      refine lv_istore (lv' := [(4, .int x4_42), (0, .ref (ad 0)), (1, .int x1), (2, .int x2), (3, .int x3)]) hx hb dX8_way_34 hl (by decide) rfl (fun ls hl => ?_)
      refine lv_aload_n hx hb dX8_way_36 rfl (lv_at hl 1 rfl) ?_
      refine va_get (D := D) (ci := 7) (v := .ref (ad 6)) (C := RX8) (T := TX8) (N := 35) hx hb hts iX8 hown hK hP 0 rfl rfl 7 (Nat.le_of_ble_eq_true rfl) (hts _ fl_X8_26) (fun _ h9 => h9) rfl dX8_way_37 ?_
      refine lv_iload hx hb dX8_way_40 (lv_at hl 0 rfl) ?_
      obtain ⟨hi_43, h⟩ := h
      refine va_zald hx hb hK hP 3 2 rfl rfl hi_43 dX8_way_42 ?_
      refine lv_if_ne (tgt := 49) hx hb dX8_way_43 (by decide) (fun c_44 => ?_) (fun c_44 => ?_)
      · have h := h.1 c_44
        refine lv_iconst (v := (0 : Int32)) hx hb dX8_way_49 (by decide) ?_
        refine lv_istore (lv' := [(5, .int (0 : Int32)), (4, .int x4_42), (0, .ref (ad 0)), (1, .int x1), (2, .int x2), (3, .int x3)]) hx hb dX8_way_50 hl (by decide) rfl (fun ls hl => ?_)
        refine lv_iload hx hb dX8_way_52 (lv_at hl 1 rfl) ?_
        refine lv_istore (lv' := [(6, .int x4_42), (5, .int (0 : Int32)), (4, .int x4_42), (0, .ref (ad 0)), (1, .int x1), (2, .int x2), (3, .int x3)]) hx hb dX8_way_54 hl (by decide) rfl (fun ls hl => ?_)
        exact hJ56 x3 x4_42 (0 : Int32) x4_42 m_waved_40 m_wave_40 m_isMade_40 m_cameFrom_40 m_cameBy_40   h _ _ _ hP hD hS (lv_sub hl [3, 6, 2, 1, 0] rfl)
      · have h := h.2 c_44
        refine lv_bipush (v := (-6 : Int32)) hx hb dX8_way_46 (by decide) ?_
        exact z_iret (m_waved_40, m_wave_40, m_isMade_40, m_cameFrom_40, m_cameBy_40) hx hb hr hlocks ⟨m_waved_40, m_wave_40, m_isMade_40, m_cameFrom_40, m_cameBy_40, rfl, h⟩ hP hD hS dX8_way_48
    · have h := h.2 c_39
      refine lv_iconst (v := (-1 : Int32)) hx hb dX8_way_19 (by decide) ?_
      exact z_iret (m_waved, m_wave, m_isMade, m_cameFrom, m_cameBy) hx hb hr hlocks ⟨m_waved, m_wave, m_isMade, m_cameFrom, m_cameBy, rfl, h⟩ hP hD hS dX8_way_20
  · have h := h.2 c_37
    refine lv_bipush (v := (-2 : Int32)) hx hb dX8_way_9 (by decide) ?_
    exact z_iret (m_waved, m_wave, m_isMade, m_cameFrom, m_cameBy) hx hb hr hlocks ⟨m_waved, m_wave, m_isMade, m_cameFrom, m_cameBy, rfl, h⟩ hP hD hS dX8_way_11
set_option maxHeartbeats 4000000 in
set_option maxRecDepth 100000 in
theorem c_X8_childOf (l : Launch) (D : va_G) (cy : Nat → ClassId) (ad : Nat → Nat) (sz : Nat) (m_said : Int32) (m_waved : Int32) (m_places : Int32) (m_end : Int32) (m_joints : Int32) (m_netPlaces : Int32) (m_begin : Int32) (m_finish : Int32) (m_rounds : Int32) (m_sews : Int32) (m_parent : Nat → Int32) (m_letter : Nat → Int32) (m_deep : Nat → Int32) (m_row : Nat → Int64) (x1 : Int32) (x2 : Int32) {Q : Int32 → Int32 → (Nat → Int32) → (Nat → Int32) → (Nat → Int32) → (Nat → Int64) → Prop} (h : wp_X8_childOf x1 x2 m_places m_parent m_letter m_deep m_row Q) : Met l yX8_childOf (wsU yX8_childOf cX8_childOf 4 (some .int)) { frames := 0, cells := 0, slots := 0, locals := 0 } (va_Pc [.ref (ad 0), .int x1, .int x2] (zB D vwCl (tyU cy) [((ad 0), oX8 ad m_said m_waved m_places m_end m_joints m_netPlaces m_begin m_finish m_rounds m_sews), ((ad 12), aI cy 13 m_parent), ((ad 13), aI cy 13 m_letter), ((ad 14), aI cy 13 m_deep), ((ad 15), aJ cy 13 m_row)] sz)) ((fun A => va_Qi (fun (r : Int32) (u : Int32 × (Nat → Int32) × (Nat → Int32) × (Nat → Int32) × (Nat → Int64)) => ∃ (z0 : Int32) (z1 : Nat → Int32) (z2 : Nat → Int32) (z3 : Nat → Int32) (z4 : Nat → Int64), u = (z0, z1, z2, z3, z4) ∧ Q r z0 z1 z2 z3 z4) (zE D vwCl A (fun (u : Int32 × (Nat → Int32) × (Nat → Int32) × (Nat → Int32) × (Nat → Int64)) => [((ad 0), oX8 ad m_said m_waved (u.1) m_end m_joints m_netPlaces m_begin m_finish m_rounds m_sews), ((ad 12), aI cy 13 (u.2.1)), ((ad 13), aI cy 13 (u.2.2.1)), ((ad 14), aI cy 13 (u.2.2.2.1)), ((ad 15), aJ cy 13 (u.2.2.2.2))])) A) (va_A [((ad 0), oX8 ad m_said m_waved m_places m_end m_joints m_netPlaces m_begin m_finish m_rounds m_sews), ((ad 12), aI cy 13 m_parent), ((ad 13), aI cy 13 m_letter), ((ad 14), aI cy 13 m_deep), ((ad 15), aJ cy 13 m_row)] sz)) 0 0 (va_A [((ad 0), oX8 ad m_said m_waved m_places m_end m_joints m_netPlaces m_begin m_finish m_rounds m_sews), ((ad 12), aI cy 13 m_parent), ((ad 13), aI cy 13 m_letter), ((ad 14), aI cy 13 m_deep), ((ad 15), aJ cy 13 m_row)] sz) := by
  refine z_ofX (fun A => va_Qi (fun (r : Int32) (u : Int32 × (Nat → Int32) × (Nat → Int32) × (Nat → Int32) × (Nat → Int64)) => ∃ (z0 : Int32) (z1 : Nat → Int32) (z2 : Nat → Int32) (z3 : Nat → Int32) (z4 : Nat → Int64), u = (z0, z1, z2, z3, z4) ∧ Q r z0 z1 z2 z3 z4) (zE D vwCl A (fun (u : Int32 × (Nat → Int32) × (Nat → Int32) × (Nat → Int32) × (Nat → Int64)) => [((ad 0), oX8 ad m_said m_waved (u.1) m_end m_joints m_netPlaces m_begin m_finish m_rounds m_sews), ((ad 12), aI cy 13 (u.2.1)), ((ad 13), aI cy 13 (u.2.2.1)), ((ad 14), aI cy 13 (u.2.2.2.1)), ((ad 15), aJ cy 13 (u.2.2.2.2))])) A) (by decide) (Nat.le_of_ble_eq_true rfl) (fun p e s m below meth c A ls hx hb hr hml hown hts hlocks hK hPW hA hP hD hS hl => ?_)
  have hl : lv_has ls 4 [(0, .ref (ad 0)), (1, .int x1), (2, .int x2)] := hl
  have hown : s.vm.findClass RX8 = some m.cls := hown
  generalize hArg : ([.ref (ad 0), .int x1, .int x2] : List Value).toArray = args at hts ⊢
  have hJ32 : ∀ (x1 : Int32) (x2 : Int32) (x3 : Int32) (m_places : Int32) (m_parent : Nat → Int32) (m_letter : Nat → Int32) (m_deep : Nat → Int32) (m_row : Nat → Int64) (rc2 : Int32 → Prop) (hrc2 : ∀ (x3 : Int32), rc2 x3 → ∀ (H : Heap) (locs : List Loc) (ls : Array Slot), va_P D vwCl [((ad 0), oX8 ad m_said m_waved m_places m_end m_joints m_netPlaces m_begin m_finish m_rounds m_sews), ((ad 12), aI cy 13 m_parent), ((ad 13), aI cy 13 m_letter), ((ad 14), aI cy 13 m_deep), ((ad 15), aJ cy 13 m_row)] H → va_D A [((ad 0), oX8 ad m_said m_waved m_places m_end m_joints m_netPlaces m_begin m_finish m_rounds m_sews), ((ad 12), aI cy 13 m_parent), ((ad 13), aI cy 13 m_letter), ((ad 14), aI cy 13 m_deep), ((ad 15), aJ cy 13 m_row)] → va_S A s.heap H locs → lv_has ls 4 [(0, .ref (ad 0)), (1, .int x1), (2, .int x2), (3, .int x3)] → W p l e { frames := 0, cells := 0, slots := 0, locals := 0 } s m args below meth c H locs 0 0 (MQ below ((fun A => va_Qi (fun (r : Int32) (u : Int32 × (Nat → Int32) × (Nat → Int32) × (Nat → Int32) × (Nat → Int64)) => ∃ (z0 : Int32) (z1 : Nat → Int32) (z2 : Nat → Int32) (z3 : Nat → Int32) (z4 : Nat → Int64), u = (z0, z1, z2, z3, z4) ∧ Q r z0 z1 z2 z3 z4) (zE D vwCl A (fun (u : Int32 × (Nat → Int32) × (Nat → Int32) × (Nat → Int32) × (Nat → Int64)) => [((ad 0), oX8 ad m_said m_waved (u.1) m_end m_joints m_netPlaces m_begin m_finish m_rounds m_sews), ((ad 12), aI cy 13 (u.2.1)), ((ad 13), aI cy 13 (u.2.2.1)), ((ad 14), aI cy 13 (u.2.2.2.1)), ((ad 15), aJ cy 13 (u.2.2.2.2))])) A) A) args s 0 0 A) (F0 m 2 ls [])), wp_X8_childOf_32 x1 x2 x3 m_places m_parent m_letter m_deep m_row rc2 Q → ∀ (H : Heap) (locs : List Loc) (ls : Array Slot), va_P D vwCl [((ad 0), oX8 ad m_said m_waved m_places m_end m_joints m_netPlaces m_begin m_finish m_rounds m_sews), ((ad 12), aI cy 13 m_parent), ((ad 13), aI cy 13 m_letter), ((ad 14), aI cy 13 m_deep), ((ad 15), aJ cy 13 m_row)] H → va_D A [((ad 0), oX8 ad m_said m_waved m_places m_end m_joints m_netPlaces m_begin m_finish m_rounds m_sews), ((ad 12), aI cy 13 m_parent), ((ad 13), aI cy 13 m_letter), ((ad 14), aI cy 13 m_deep), ((ad 15), aJ cy 13 m_row)] → va_S A s.heap H locs → lv_has ls 4 [(0, .ref (ad 0)), (1, .int x1), (2, .int x2), (3, .int x3)] → W p l e { frames := 0, cells := 0, slots := 0, locals := 0 } s m args below meth c H locs 0 0 (MQ below ((fun A => va_Qi (fun (r : Int32) (u : Int32 × (Nat → Int32) × (Nat → Int32) × (Nat → Int32) × (Nat → Int64)) => ∃ (z0 : Int32) (z1 : Nat → Int32) (z2 : Nat → Int32) (z3 : Nat → Int32) (z4 : Nat → Int64), u = (z0, z1, z2, z3, z4) ∧ Q r z0 z1 z2 z3 z4) (zE D vwCl A (fun (u : Int32 × (Nat → Int32) × (Nat → Int32) × (Nat → Int32) × (Nat → Int64)) => [((ad 0), oX8 ad m_said m_waved (u.1) m_end m_joints m_netPlaces m_begin m_finish m_rounds m_sews), ((ad 12), aI cy 13 (u.2.1)), ((ad 13), aI cy 13 (u.2.2.1)), ((ad 14), aI cy 13 (u.2.2.2.1)), ((ad 15), aJ cy 13 (u.2.2.2.2))])) A) A) args s 0 0 A) (F0 m 32 ls []) := by
    intro x1 x2 x3 m_places m_parent m_letter m_deep m_row rc2 hrc2  h H locs ls hP hD hS hl
    unfold wp_X8_childOf_32 at h
    obtain ⟨x3_13, e_x3_13⟩ : ∃ y : Int32, y = x3 + (1 : Int32) := ⟨_, rfl⟩
    refine lv_iinc (v := x3_13) (lv' := [(3, .int x3_13), (0, .ref (ad 0)), (1, .int x1), (2, .int x2)]) hx hb dX8_childOf_32 hl (k := 3) rfl (by rw [e_x3_13]; rfl) (by decide) rfl (fun ls hl => ?_)
    have h := h x3_13 e_x3_13
    refine lv_goto (tgt := 2) hx hb dX8_childOf_35 (by decide) ?_
    exact hrc2 x3_13 h _ _ _ hP hD hS (lv_sub hl [1, 2, 3, 0] rfl)
  have hJ2 : ∀ (x1 : Int32) (x2 : Int32) (x3 : Int32) (m_places : Int32) (m_parent : Nat → Int32) (m_letter : Nat → Int32) (m_deep : Nat → Int32) (m_row : Nat → Int64), wp_X8_childOf_2 x1 x2 m_places m_parent m_letter m_deep m_row  Q x3 → ∀ (H : Heap) (locs : List Loc) (ls : Array Slot), va_P D vwCl [((ad 0), oX8 ad m_said m_waved m_places m_end m_joints m_netPlaces m_begin m_finish m_rounds m_sews), ((ad 12), aI cy 13 m_parent), ((ad 13), aI cy 13 m_letter), ((ad 14), aI cy 13 m_deep), ((ad 15), aJ cy 13 m_row)] H → va_D A [((ad 0), oX8 ad m_said m_waved m_places m_end m_joints m_netPlaces m_begin m_finish m_rounds m_sews), ((ad 12), aI cy 13 m_parent), ((ad 13), aI cy 13 m_letter), ((ad 14), aI cy 13 m_deep), ((ad 15), aJ cy 13 m_row)] → va_S A s.heap H locs → lv_has ls 4 [(0, .ref (ad 0)), (1, .int x1), (2, .int x2), (3, .int x3)] → W p l e { frames := 0, cells := 0, slots := 0, locals := 0 } s m args below meth c H locs 0 0 (MQ below ((fun A => va_Qi (fun (r : Int32) (u : Int32 × (Nat → Int32) × (Nat → Int32) × (Nat → Int32) × (Nat → Int64)) => ∃ (z0 : Int32) (z1 : Nat → Int32) (z2 : Nat → Int32) (z3 : Nat → Int32) (z4 : Nat → Int64), u = (z0, z1, z2, z3, z4) ∧ Q r z0 z1 z2 z3 z4) (zE D vwCl A (fun (u : Int32 × (Nat → Int32) × (Nat → Int32) × (Nat → Int32) × (Nat → Int64)) => [((ad 0), oX8 ad m_said m_waved (u.1) m_end m_joints m_netPlaces m_begin m_finish m_rounds m_sews), ((ad 12), aI cy 13 (u.2.1)), ((ad 13), aI cy 13 (u.2.2.1)), ((ad 14), aI cy 13 (u.2.2.2.1)), ((ad 15), aJ cy 13 (u.2.2.2.2))])) A) A) args s 0 0 A) (F0 m 2 ls []) := by
    intro x1 x2 x3 m_places m_parent m_letter m_deep m_row   h
    obtain ⟨nn, h⟩ := h
    have key : ∀ (nn : Nat) (x3 : Int32), lpW1 (wb_X8_childOf_2 x1 x2 m_places m_parent m_letter m_deep m_row  Q) nn x3 → ∀ (H : Heap) (locs : List Loc) (ls : Array Slot), va_P D vwCl [((ad 0), oX8 ad m_said m_waved m_places m_end m_joints m_netPlaces m_begin m_finish m_rounds m_sews), ((ad 12), aI cy 13 m_parent), ((ad 13), aI cy 13 m_letter), ((ad 14), aI cy 13 m_deep), ((ad 15), aJ cy 13 m_row)] H → va_D A [((ad 0), oX8 ad m_said m_waved m_places m_end m_joints m_netPlaces m_begin m_finish m_rounds m_sews), ((ad 12), aI cy 13 m_parent), ((ad 13), aI cy 13 m_letter), ((ad 14), aI cy 13 m_deep), ((ad 15), aJ cy 13 m_row)] → va_S A s.heap H locs → lv_has ls 4 [(0, .ref (ad 0)), (1, .int x1), (2, .int x2), (3, .int x3)] → W p l e { frames := 0, cells := 0, slots := 0, locals := 0 } s m args below meth c H locs 0 0 (MQ below ((fun A => va_Qi (fun (r : Int32) (u : Int32 × (Nat → Int32) × (Nat → Int32) × (Nat → Int32) × (Nat → Int64)) => ∃ (z0 : Int32) (z1 : Nat → Int32) (z2 : Nat → Int32) (z3 : Nat → Int32) (z4 : Nat → Int64), u = (z0, z1, z2, z3, z4) ∧ Q r z0 z1 z2 z3 z4) (zE D vwCl A (fun (u : Int32 × (Nat → Int32) × (Nat → Int32) × (Nat → Int32) × (Nat → Int64)) => [((ad 0), oX8 ad m_said m_waved (u.1) m_end m_joints m_netPlaces m_begin m_finish m_rounds m_sews), ((ad 12), aI cy 13 (u.2.1)), ((ad 13), aI cy 13 (u.2.2.1)), ((ad 14), aI cy 13 (u.2.2.2.1)), ((ad 15), aJ cy 13 (u.2.2.2.2))])) A) A) args s 0 0 A) (F0 m 2 ls []) := by
      intro nn
      induction nn with
      | zero => intro x3 h; exact h.elim
      | succ nn hrc2 =>
        intro x3 h H locs ls hP hD hS hl
        have h : wb_X8_childOf_2 x1 x2 m_places m_parent m_letter m_deep m_row  Q (lpW1 (wb_X8_childOf_2 x1 x2 m_places m_parent m_letter m_deep m_row  Q) nn) x3 := h
        unfold wb_X8_childOf_2 at h
        refine lv_iload_n hx hb dX8_childOf_2 rfl (lv_at hl 3 rfl) ?_
        refine lv_aload_n hx hb dX8_childOf_3 rfl (lv_at hl 0 rfl) ?_
        refine va_get (D := D) (ci := 7) (v := .int m_places) (C := RX8) (T := TX8) (N := 35) hx hb hts iX8 hown hK hP 0 rfl rfl 17 (Nat.le_of_ble_eq_true rfl) (hts _ fl_X8_199) (fun _ h9 => h9) rfl dX8_childOf_4 ?_
        refine lv_icmp_ge (tgt := 38) hx hb dX8_childOf_7 (by decide) (fun c_14 => ?_) (fun c_14 => ?_)
        · have h := h.1 c_14
          refine lv_aload_n hx hb dX8_childOf_38 rfl (lv_at hl 0 rfl) ?_
          refine va_get (D := D) (ci := 7) (v := .ref (ad 12)) (C := RX8) (T := TX8) (N := 35) hx hb hts iX8 hown hK hP 0 rfl rfl 13 (Nat.le_of_ble_eq_true rfl) (hts _ fl_X8_44) (fun _ h9 => h9) rfl dX8_childOf_39 ?_
          refine lv_aload_n hx hb dX8_childOf_42 rfl (lv_at hl 0 rfl) ?_
          refine va_get (D := D) (ci := 7) (v := .int m_places) (C := RX8) (T := TX8) (N := 35) hx hb hts iX8 hown hK hP 0 rfl rfl 17 (Nat.le_of_ble_eq_true rfl) (hts _ fl_X8_199) (fun _ h9 => h9) rfl dX8_childOf_43 ?_
          refine lv_iload_n hx hb dX8_childOf_46 rfl (lv_at hl 1 rfl) ?_
          obtain ⟨hi_15, h⟩ := h
          refine va_iast hx hb hK hP hD hS 1 0 rfl rfl hi_15 dX8_childOf_47 (fun H locs hP hD hS => ?_)
          have hP : va_P D vwCl [((ad 0), oX8 ad m_said m_waved m_places m_end m_joints m_netPlaces m_begin m_finish m_rounds m_sews), ((ad 12), aI cy 13 (upd m_parent m_places.toNatClampNeg x1)), ((ad 13), aI cy 13 m_letter), ((ad 14), aI cy 13 m_deep), ((ad 15), aJ cy 13 m_row)] H := hP
          have hD : va_D A [((ad 0), oX8 ad m_said m_waved m_places m_end m_joints m_netPlaces m_begin m_finish m_rounds m_sews), ((ad 12), aI cy 13 (upd m_parent m_places.toNatClampNeg x1)), ((ad 13), aI cy 13 m_letter), ((ad 14), aI cy 13 m_deep), ((ad 15), aJ cy 13 m_row)] := hD
          refine lv_aload_n hx hb dX8_childOf_48 rfl (lv_at hl 0 rfl) ?_
          refine va_get (D := D) (ci := 7) (v := .ref (ad 13)) (C := RX8) (T := TX8) (N := 35) hx hb hts iX8 hown hK hP 0 rfl rfl 14 (Nat.le_of_ble_eq_true rfl) (hts _ fl_X8_47) (fun _ h9 => h9) rfl dX8_childOf_49 ?_
          refine lv_aload_n hx hb dX8_childOf_52 rfl (lv_at hl 0 rfl) ?_
          refine va_get (D := D) (ci := 7) (v := .int m_places) (C := RX8) (T := TX8) (N := 35) hx hb hts iX8 hown hK hP 0 rfl rfl 17 (Nat.le_of_ble_eq_true rfl) (hts _ fl_X8_199) (fun _ h9 => h9) rfl dX8_childOf_53 ?_
          refine lv_iload_n hx hb dX8_childOf_56 rfl (lv_at hl 2 rfl) ?_
          obtain ⟨hi_16, h⟩ := h
          refine va_iast hx hb hK hP hD hS 2 0 rfl rfl hi_16 dX8_childOf_57 (fun H locs hP hD hS => ?_)
          have hP : va_P D vwCl [((ad 0), oX8 ad m_said m_waved m_places m_end m_joints m_netPlaces m_begin m_finish m_rounds m_sews), ((ad 12), aI cy 13 (upd m_parent m_places.toNatClampNeg x1)), ((ad 13), aI cy 13 (upd m_letter m_places.toNatClampNeg x2)), ((ad 14), aI cy 13 m_deep), ((ad 15), aJ cy 13 m_row)] H := hP
          have hD : va_D A [((ad 0), oX8 ad m_said m_waved m_places m_end m_joints m_netPlaces m_begin m_finish m_rounds m_sews), ((ad 12), aI cy 13 (upd m_parent m_places.toNatClampNeg x1)), ((ad 13), aI cy 13 (upd m_letter m_places.toNatClampNeg x2)), ((ad 14), aI cy 13 m_deep), ((ad 15), aJ cy 13 m_row)] := hD
          refine lv_aload_n hx hb dX8_childOf_58 rfl (lv_at hl 0 rfl) ?_
          refine va_get (D := D) (ci := 7) (v := .ref (ad 14)) (C := RX8) (T := TX8) (N := 35) hx hb hts iX8 hown hK hP 0 rfl rfl 15 (Nat.le_of_ble_eq_true rfl) (hts _ fl_X8_50) (fun _ h9 => h9) rfl dX8_childOf_59 ?_
          refine lv_aload_n hx hb dX8_childOf_62 rfl (lv_at hl 0 rfl) ?_
          refine va_get (D := D) (ci := 7) (v := .int m_places) (C := RX8) (T := TX8) (N := 35) hx hb hts iX8 hown hK hP 0 rfl rfl 17 (Nat.le_of_ble_eq_true rfl) (hts _ fl_X8_199) (fun _ h9 => h9) rfl dX8_childOf_63 ?_
          refine lv_aload_n hx hb dX8_childOf_66 rfl (lv_at hl 0 rfl) ?_
          refine va_get (D := D) (ci := 7) (v := .ref (ad 14)) (C := RX8) (T := TX8) (N := 35) hx hb hts iX8 hown hK hP 0 rfl rfl 15 (Nat.le_of_ble_eq_true rfl) (hts _ fl_X8_50) (fun _ h9 => h9) rfl dX8_childOf_67 ?_
          refine lv_iload_n hx hb dX8_childOf_70 rfl (lv_at hl 1 rfl) ?_
          obtain ⟨hi_17, h⟩ := h
          refine va_iald hx hb hK hP 3 0 rfl rfl hi_17 dX8_childOf_71 ?_
          refine lv_iconst (v := (1 : Int32)) hx hb dX8_childOf_72 (by decide) ?_
          refine lv_iadd hx hb dX8_childOf_73 ?_
          obtain ⟨hi_18, h⟩ := h
          refine va_iast hx hb hK hP hD hS 3 0 rfl rfl hi_18 dX8_childOf_74 (fun H locs hP hD hS => ?_)
          have hP : va_P D vwCl [((ad 0), oX8 ad m_said m_waved m_places m_end m_joints m_netPlaces m_begin m_finish m_rounds m_sews), ((ad 12), aI cy 13 (upd m_parent m_places.toNatClampNeg x1)), ((ad 13), aI cy 13 (upd m_letter m_places.toNatClampNeg x2)), ((ad 14), aI cy 13 (upd m_deep m_places.toNatClampNeg ((m_deep x1.toNatClampNeg) + (1 : Int32)))), ((ad 15), aJ cy 13 m_row)] H := hP
          have hD : va_D A [((ad 0), oX8 ad m_said m_waved m_places m_end m_joints m_netPlaces m_begin m_finish m_rounds m_sews), ((ad 12), aI cy 13 (upd m_parent m_places.toNatClampNeg x1)), ((ad 13), aI cy 13 (upd m_letter m_places.toNatClampNeg x2)), ((ad 14), aI cy 13 (upd m_deep m_places.toNatClampNeg ((m_deep x1.toNatClampNeg) + (1 : Int32)))), ((ad 15), aJ cy 13 m_row)] := hD
          refine lv_aload_n hx hb dX8_childOf_75 rfl (lv_at hl 0 rfl) ?_
          refine va_get (D := D) (ci := 7) (v := .ref (ad 15)) (C := RX8) (T := TX8) (N := 35) hx hb hts iX8 hown hK hP 0 rfl rfl 16 (Nat.le_of_ble_eq_true rfl) (hts _ fl_X8_53) (fun _ h9 => h9) rfl dX8_childOf_76 ?_
          refine lv_aload_n hx hb dX8_childOf_79 rfl (lv_at hl 0 rfl) ?_
          refine va_get (D := D) (ci := 7) (v := .int m_places) (C := RX8) (T := TX8) (N := 35) hx hb hts iX8 hown hK hP 0 rfl rfl 17 (Nat.le_of_ble_eq_true rfl) (hts _ fl_X8_199) (fun _ h9 => h9) rfl dX8_childOf_80 ?_
          refine lv_ldc2 (v := (7 : Int64)) hx hb hown (hts _ cn_X8_202) dX8_childOf_83 ?_
          refine lv_aload_n hx hb dX8_childOf_86 rfl (lv_at hl 0 rfl) ?_
          refine va_get (D := D) (ci := 7) (v := .ref (ad 15)) (C := RX8) (T := TX8) (N := 35) hx hb hts iX8 hown hK hP 0 rfl rfl 16 (Nat.le_of_ble_eq_true rfl) (hts _ fl_X8_53) (fun _ h9 => h9) rfl dX8_childOf_87 ?_
          refine lv_iload_n hx hb dX8_childOf_90 rfl (lv_at hl 1 rfl) ?_
          obtain ⟨hi_19, h⟩ := h
          refine va_lald hx hb hK hP 4 1 rfl rfl hi_19 dX8_childOf_91 ?_
          refine lv_lmul hx hb dX8_childOf_92 ?_
          refine lv_iload_n hx hb dX8_childOf_93 rfl (lv_at hl 2 rfl) ?_
          refine lv_i2l (v := x2.toInt64) hx hb dX8_childOf_94 rfl ?_
          refine lv_ladd hx hb dX8_childOf_95 ?_
          refine lv_lconst (v := (1 : Int64)) hx hb dX8_childOf_96 (by decide) ?_
          refine lv_ladd hx hb dX8_childOf_97 ?_
          obtain ⟨hi_20, h⟩ := h
          refine va_last hx hb hK hP hD hS 4 1 rfl rfl hi_20 dX8_childOf_98 (fun H locs hP hD hS => ?_)
          have hP : va_P D vwCl [((ad 0), oX8 ad m_said m_waved m_places m_end m_joints m_netPlaces m_begin m_finish m_rounds m_sews), ((ad 12), aI cy 13 (upd m_parent m_places.toNatClampNeg x1)), ((ad 13), aI cy 13 (upd m_letter m_places.toNatClampNeg x2)), ((ad 14), aI cy 13 (upd m_deep m_places.toNatClampNeg ((m_deep x1.toNatClampNeg) + (1 : Int32)))), ((ad 15), aJ cy 13 (vp_updL m_row m_places.toNatClampNeg ((((7 : Int64) * (m_row x1.toNatClampNeg)) + x2.toInt64) + (1 : Int64))))] H := hP
          have hD : va_D A [((ad 0), oX8 ad m_said m_waved m_places m_end m_joints m_netPlaces m_begin m_finish m_rounds m_sews), ((ad 12), aI cy 13 (upd m_parent m_places.toNatClampNeg x1)), ((ad 13), aI cy 13 (upd m_letter m_places.toNatClampNeg x2)), ((ad 14), aI cy 13 (upd m_deep m_places.toNatClampNeg ((m_deep x1.toNatClampNeg) + (1 : Int32)))), ((ad 15), aJ cy 13 (vp_updL m_row m_places.toNatClampNeg ((((7 : Int64) * (m_row x1.toNatClampNeg)) + x2.toInt64) + (1 : Int64))))] := hD
          refine lv_aload_n hx hb dX8_childOf_99 rfl (lv_at hl 0 rfl) ?_
          refine lv_dup hx hb dX8_childOf_100 rfl ?_
          refine va_get (D := D) (ci := 7) (v := .int m_places) (C := RX8) (T := TX8) (N := 35) hx hb hts iX8 hown hK hP 0 rfl rfl 17 (Nat.le_of_ble_eq_true rfl) (hts _ fl_X8_199) (fun _ h9 => h9) rfl dX8_childOf_101 ?_
          refine lv_iconst (v := (1 : Int32)) hx hb dX8_childOf_104 (by decide) ?_
          refine lv_iadd hx hb dX8_childOf_105 ?_
          refine va_put (D := D) (ci := 7) (v := .int (m_places + (1 : Int32))) (ty := .int) (C := RX8) (T := TX8) (N := 35) hx hb hts iX8 tyX8 tyX8_ok nmX8 hown hK hP hD hS 0 rfl rfl 17 (Nat.le_of_ble_eq_true rfl) (hts _ fl_X8_199) (fun _ h9 => h9) rfl (by decide +kernel) rfl rfl (Nat.le_of_ble_eq_true rfl) dX8_childOf_106 (fun H locs hP hD hS => ?_)
          have hP : va_P D vwCl [((ad 0), oX8 ad m_said m_waved (m_places + (1 : Int32)) m_end m_joints m_netPlaces m_begin m_finish m_rounds m_sews), ((ad 12), aI cy 13 (upd m_parent m_places.toNatClampNeg x1)), ((ad 13), aI cy 13 (upd m_letter m_places.toNatClampNeg x2)), ((ad 14), aI cy 13 (upd m_deep m_places.toNatClampNeg ((m_deep x1.toNatClampNeg) + (1 : Int32)))), ((ad 15), aJ cy 13 (vp_updL m_row m_places.toNatClampNeg ((((7 : Int64) * (m_row x1.toNatClampNeg)) + x2.toInt64) + (1 : Int64))))] H := hP
          have hD : va_D A [((ad 0), oX8 ad m_said m_waved (m_places + (1 : Int32)) m_end m_joints m_netPlaces m_begin m_finish m_rounds m_sews), ((ad 12), aI cy 13 (upd m_parent m_places.toNatClampNeg x1)), ((ad 13), aI cy 13 (upd m_letter m_places.toNatClampNeg x2)), ((ad 14), aI cy 13 (upd m_deep m_places.toNatClampNeg ((m_deep x1.toNatClampNeg) + (1 : Int32)))), ((ad 15), aJ cy 13 (vp_updL m_row m_places.toNatClampNeg ((((7 : Int64) * (m_row x1.toNatClampNeg)) + x2.toInt64) + (1 : Int64))))] := hD
          refine lv_aload_n hx hb dX8_childOf_109 rfl (lv_at hl 0 rfl) ?_
          refine va_get (D := D) (ci := 7) (v := .int (m_places + (1 : Int32))) (C := RX8) (T := TX8) (N := 35) hx hb hts iX8 hown hK hP 0 rfl rfl 17 (Nat.le_of_ble_eq_true rfl) (hts _ fl_X8_199) (fun _ h9 => h9) rfl dX8_childOf_110 ?_
          refine lv_iconst (v := (1 : Int32)) hx hb dX8_childOf_113 (by decide) ?_
          refine lv_isub hx hb dX8_childOf_114 ?_
          exact z_iret ((m_places + (1 : Int32)), (upd m_parent m_places.toNatClampNeg x1), (upd m_letter m_places.toNatClampNeg x2), (upd m_deep m_places.toNatClampNeg ((m_deep x1.toNatClampNeg) + (1 : Int32))), (vp_updL m_row m_places.toNatClampNeg ((((7 : Int64) * (m_row x1.toNatClampNeg)) + x2.toInt64) + (1 : Int64)))) hx hb hr hlocks ⟨(m_places + (1 : Int32)), (upd m_parent m_places.toNatClampNeg x1), (upd m_letter m_places.toNatClampNeg x2), (upd m_deep m_places.toNatClampNeg ((m_deep x1.toNatClampNeg) + (1 : Int32))), (vp_updL m_row m_places.toNatClampNeg ((((7 : Int64) * (m_row x1.toNatClampNeg)) + x2.toInt64) + (1 : Int64))), rfl, h⟩ hP hD hS dX8_childOf_115
        · have h := h.2 c_14
          refine lv_aload_n hx hb dX8_childOf_10 rfl (lv_at hl 0 rfl) ?_
          refine va_get (D := D) (ci := 7) (v := .ref (ad 12)) (C := RX8) (T := TX8) (N := 35) hx hb hts iX8 hown hK hP 0 rfl rfl 13 (Nat.le_of_ble_eq_true rfl) (hts _ fl_X8_44) (fun _ h9 => h9) rfl dX8_childOf_11 ?_
          refine lv_iload_n hx hb dX8_childOf_14 rfl (lv_at hl 3 rfl) ?_
          obtain ⟨hi_21, h⟩ := h
          refine va_iald hx hb hK hP 1 0 rfl rfl hi_21 dX8_childOf_15 ?_
          refine lv_iload_n hx hb dX8_childOf_16 rfl (lv_at hl 1 rfl) ?_
          refine lv_icmp_ne (tgt := 32) hx hb dX8_childOf_17 (by decide) (fun c_22 => ?_) (fun c_22 => ?_)
          · have h := h.1 c_22
            exact hJ32 x1 x2 x3 m_places m_parent m_letter m_deep m_row _ hrc2  h _ _ _ hP hD hS (lv_sub hl [0, 1, 2, 3] rfl)
          · have h := h.2 c_22
            refine lv_aload_n hx hb dX8_childOf_20 rfl (lv_at hl 0 rfl) ?_
            refine va_get (D := D) (ci := 7) (v := .ref (ad 13)) (C := RX8) (T := TX8) (N := 35) hx hb hts iX8 hown hK hP 0 rfl rfl 14 (Nat.le_of_ble_eq_true rfl) (hts _ fl_X8_47) (fun _ h9 => h9) rfl dX8_childOf_21 ?_
            refine lv_iload_n hx hb dX8_childOf_24 rfl (lv_at hl 3 rfl) ?_
            obtain ⟨hi_23, h⟩ := h
            refine va_iald hx hb hK hP 2 0 rfl rfl hi_23 dX8_childOf_25 ?_
            refine lv_iload_n hx hb dX8_childOf_26 rfl (lv_at hl 2 rfl) ?_
            refine lv_icmp_ne (tgt := 32) hx hb dX8_childOf_27 (by decide) (fun c_24 => ?_) (fun c_24 => ?_)
            · have h := h.1 c_24
              exact hJ32 x1 x2 x3 m_places m_parent m_letter m_deep m_row _ hrc2  h _ _ _ hP hD hS (lv_sub hl [0, 1, 2, 3] rfl)
            · have h := h.2 c_24
              refine lv_iload_n hx hb dX8_childOf_30 rfl (lv_at hl 3 rfl) ?_
              exact z_iret (m_places, m_parent, m_letter, m_deep, m_row) hx hb hr hlocks ⟨m_places, m_parent, m_letter, m_deep, m_row, rfl, h⟩ hP hD hS dX8_childOf_31
    exact key nn x3 h
  unfold wp_X8_childOf at h
  refine lv_iconst (v := (1 : Int32)) hx hb dX8_childOf_0 (by decide) ?_
  refine lv_istore_n (lv' := [(3, .int (1 : Int32)), (0, .ref (ad 0)), (1, .int x1), (2, .int x2)]) hx hb dX8_childOf_1 rfl hl (by decide) rfl (fun ls hl => ?_)
  exact hJ2 x1 x2 (1 : Int32) m_places m_parent m_letter m_deep m_row   h _ _ _ hP hD hS (lv_sub hl [1, 2, 3, 0] rfl)
set_option maxHeartbeats 4000000 in
set_option maxRecDepth 100000 in
theorem c_X8_undone (l : Launch) (D : va_G) (cy : Nat → ClassId) (sz : Nat) (x0 : Int32) {Q : Int32 → Prop} (h : wp_X8_undone x0 Q) : Met l yX8_undone (wsU yX8_undone cX8_undone 1 (some .int)) { frames := 0, cells := 0, slots := 0, locals := 0 } (va_Pc [.int x0] (zB D vwCl (tyU cy) [] sz)) ((fun A => va_Qi (fun (r : Int32) (_ : Unit) => Q r ) (zE D vwCl A (fun (_ : Unit) => [])) A) (va_A [] sz)) 0 0 (va_A [] sz) := by
  refine z_ofX (fun A => va_Qi (fun (r : Int32) (_ : Unit) => Q r ) (zE D vwCl A (fun (_ : Unit) => [])) A) (by decide) (Nat.le_of_ble_eq_true rfl) (fun p e s m below meth c A ls hx hb hr hml hown hts hlocks hK hPW hA hP hD hS hl => ?_)
  have hl : lv_has ls 1 [(0, .int x0)] := hl
  have hown : s.vm.findClass RX8 = some m.cls := hown
  unfold wp_X8_undone at h
  refine lv_iload_n hx hb dX8_undone_0 rfl (lv_at hl 0 rfl) ?_
  refine lv_iconst (v := (2 : Int32)) hx hb dX8_undone_1 (by decide) ?_
  refine lv_irem hx hb dX8_undone_2 (by decide) ?_
  refine lv_if_ne (tgt := 12) hx hb dX8_undone_3 (by decide) (fun c_2 => ?_) (fun c_2 => ?_)
  · have h := h.1 c_2
    refine lv_iload_n hx hb dX8_undone_12 rfl (lv_at hl 0 rfl) ?_
    refine lv_iconst (v := (1 : Int32)) hx hb dX8_undone_13 (by decide) ?_
    refine lv_isub hx hb dX8_undone_14 ?_
    exact z_iret () hx hb hr hlocks h hP hD hS dX8_undone_15
  · have h := h.2 c_2
    refine lv_iload_n hx hb dX8_undone_6 rfl (lv_at hl 0 rfl) ?_
    refine lv_iconst (v := (1 : Int32)) hx hb dX8_undone_7 (by decide) ?_
    refine lv_iadd hx hb dX8_undone_8 ?_
    refine lv_goto (tgt := 15) hx hb dX8_undone_9 (by decide) ?_
    exact z_iret () hx hb hr hlocks h hP hD hS dX8_undone_15
set_option maxHeartbeats 4000000 in
set_option maxRecDepth 100000 in
theorem c_X8_layTree (l : Launch) (D : va_G) (cy : Nat → ClassId) (ad : Nat → Nat) (sz : Nat) (m_said : Int32) (m_waved : Int32) (m_places : Int32) (m_end : Int32) (m_joints : Int32) (m_netPlaces : Int32) (m_begin : Int32) (m_finish : Int32) (m_rounds : Int32) (m_sews : Int32) (m_state : Nat → Int32) (m_parent : Nat → Int32) (m_letter : Nat → Int32) (m_deep : Nat → Int32) (m_row : Nat → Int64) (x1 : Int32) {Q : Int32 → Int32 → (Nat → Int32) → (Nat → Int32) → (Nat → Int32) → (Nat → Int64) → Prop} (h : wp_X8_layTree x1 m_places m_end m_state m_parent m_letter m_deep m_row Q) : Met l yX8_layTree (wsU yX8_layTree cX8_layTree 4 none) { frames := 1, cells := 0, slots := 0, locals := 23 } (va_Pc [.ref (ad 0), .int x1] (zB D vwCl (tyU cy) [((ad 0), oX8 ad m_said m_waved m_places m_end m_joints m_netPlaces m_begin m_finish m_rounds m_sews), ((ad 1), aI cy 112 m_state), ((ad 12), aI cy 13 m_parent), ((ad 13), aI cy 13 m_letter), ((ad 14), aI cy 13 m_deep), ((ad 15), aJ cy 13 m_row)] sz)) ((fun A => va_Qv (fun (u : Int32 × Int32 × (Nat → Int32) × (Nat → Int32) × (Nat → Int32) × (Nat → Int64)) => ∃ (z0 : Int32) (z1 : Int32) (z2 : Nat → Int32) (z3 : Nat → Int32) (z4 : Nat → Int32) (z5 : Nat → Int64), u = (z0, z1, z2, z3, z4, z5) ∧ Q z0 z1 z2 z3 z4 z5) (zE D vwCl A (fun (u : Int32 × Int32 × (Nat → Int32) × (Nat → Int32) × (Nat → Int32) × (Nat → Int64)) => [((ad 0), oX8 ad m_said m_waved (u.1) (u.2.1) m_joints m_netPlaces m_begin m_finish m_rounds m_sews), ((ad 1), aI cy 112 m_state), ((ad 12), aI cy 13 (u.2.2.1)), ((ad 13), aI cy 13 (u.2.2.2.1)), ((ad 14), aI cy 13 (u.2.2.2.2.1)), ((ad 15), aJ cy 13 (u.2.2.2.2.2))])) A) (va_A [((ad 0), oX8 ad m_said m_waved m_places m_end m_joints m_netPlaces m_begin m_finish m_rounds m_sews), ((ad 1), aI cy 112 m_state), ((ad 12), aI cy 13 m_parent), ((ad 13), aI cy 13 m_letter), ((ad 14), aI cy 13 m_deep), ((ad 15), aJ cy 13 m_row)] sz)) 0 0 (va_A [((ad 0), oX8 ad m_said m_waved m_places m_end m_joints m_netPlaces m_begin m_finish m_rounds m_sews), ((ad 1), aI cy 112 m_state), ((ad 12), aI cy 13 m_parent), ((ad 13), aI cy 13 m_letter), ((ad 14), aI cy 13 m_deep), ((ad 15), aJ cy 13 m_row)] sz) := by
  refine z_ofX (fun A => va_Qv (fun (u : Int32 × Int32 × (Nat → Int32) × (Nat → Int32) × (Nat → Int32) × (Nat → Int64)) => ∃ (z0 : Int32) (z1 : Int32) (z2 : Nat → Int32) (z3 : Nat → Int32) (z4 : Nat → Int32) (z5 : Nat → Int64), u = (z0, z1, z2, z3, z4, z5) ∧ Q z0 z1 z2 z3 z4 z5) (zE D vwCl A (fun (u : Int32 × Int32 × (Nat → Int32) × (Nat → Int32) × (Nat → Int32) × (Nat → Int64)) => [((ad 0), oX8 ad m_said m_waved (u.1) (u.2.1) m_joints m_netPlaces m_begin m_finish m_rounds m_sews), ((ad 1), aI cy 112 m_state), ((ad 12), aI cy 13 (u.2.2.1)), ((ad 13), aI cy 13 (u.2.2.2.1)), ((ad 14), aI cy 13 (u.2.2.2.2.1)), ((ad 15), aJ cy 13 (u.2.2.2.2.2))])) A) (by decide) (Nat.le_of_ble_eq_true rfl) (fun p e s m below meth c A ls hx hb hr hml hown hts hlocks hK hPW hA hP hD hS hl => ?_)
  have hl : lv_has ls 4 [(0, .ref (ad 0)), (1, .int x1)] := hl
  have hown : s.vm.findClass RX8 = some m.cls := hown
  generalize hArg : ([.ref (ad 0), .int x1] : List Value).toArray = args at hts ⊢
  have hJ115 : ∀ (x1 : Int32) (x2 : Int32) (t1 : Int32) (m_places : Int32) (m_end : Int32) (m_parent : Nat → Int32) (m_letter : Nat → Int32) (m_deep : Nat → Int32) (m_row : Nat → Int64) (rc42 : Int32 → Int32 → Int32 → (Nat → Int32) → (Nat → Int32) → (Nat → Int32) → (Nat → Int64) → Prop) (hrc42 : ∀ (x2 : Int32) (m_places : Int32) (m_end : Int32) (m_parent : Nat → Int32) (m_letter : Nat → Int32) (m_deep : Nat → Int32) (m_row : Nat → Int64), rc42 x2 m_places m_end m_parent m_letter m_deep m_row → ∀ (H : Heap) (locs : List Loc) (ls : Array Slot), va_P D vwCl [((ad 0), oX8 ad m_said m_waved m_places m_end m_joints m_netPlaces m_begin m_finish m_rounds m_sews), ((ad 1), aI cy 112 m_state), ((ad 12), aI cy 13 m_parent), ((ad 13), aI cy 13 m_letter), ((ad 14), aI cy 13 m_deep), ((ad 15), aJ cy 13 m_row)] H → va_D A [((ad 0), oX8 ad m_said m_waved m_places m_end m_joints m_netPlaces m_begin m_finish m_rounds m_sews), ((ad 1), aI cy 112 m_state), ((ad 12), aI cy 13 m_parent), ((ad 13), aI cy 13 m_letter), ((ad 14), aI cy 13 m_deep), ((ad 15), aJ cy 13 m_row)] → va_S A s.heap H locs → lv_has ls 4 [(0, .ref (ad 0)), (1, .int x1), (2, .int x2)] → W p l e { frames := 1, cells := 0, slots := 0, locals := 23 } s m args below meth c H locs 0 0 (MQ below ((fun A => va_Qv (fun (u : Int32 × Int32 × (Nat → Int32) × (Nat → Int32) × (Nat → Int32) × (Nat → Int64)) => ∃ (z0 : Int32) (z1 : Int32) (z2 : Nat → Int32) (z3 : Nat → Int32) (z4 : Nat → Int32) (z5 : Nat → Int64), u = (z0, z1, z2, z3, z4, z5) ∧ Q z0 z1 z2 z3 z4 z5) (zE D vwCl A (fun (u : Int32 × Int32 × (Nat → Int32) × (Nat → Int32) × (Nat → Int32) × (Nat → Int64)) => [((ad 0), oX8 ad m_said m_waved (u.1) (u.2.1) m_joints m_netPlaces m_begin m_finish m_rounds m_sews), ((ad 1), aI cy 112 m_state), ((ad 12), aI cy 13 (u.2.2.1)), ((ad 13), aI cy 13 (u.2.2.2.1)), ((ad 14), aI cy 13 (u.2.2.2.2.1)), ((ad 15), aJ cy 13 (u.2.2.2.2.2))])) A) A) args s 0 0 A) (F0 m 42 ls [])), wp_X8_layTree_115 m_state x1 x2 t1 m_places m_end m_parent m_letter m_deep m_row rc42 Q → ∀ (H : Heap) (locs : List Loc) (ls : Array Slot), va_P D vwCl [((ad 0), oX8 ad m_said m_waved m_places m_end m_joints m_netPlaces m_begin m_finish m_rounds m_sews), ((ad 1), aI cy 112 m_state), ((ad 12), aI cy 13 m_parent), ((ad 13), aI cy 13 m_letter), ((ad 14), aI cy 13 m_deep), ((ad 15), aJ cy 13 m_row)] H → va_D A [((ad 0), oX8 ad m_said m_waved m_places m_end m_joints m_netPlaces m_begin m_finish m_rounds m_sews), ((ad 1), aI cy 112 m_state), ((ad 12), aI cy 13 m_parent), ((ad 13), aI cy 13 m_letter), ((ad 14), aI cy 13 m_deep), ((ad 15), aJ cy 13 m_row)] → va_S A s.heap H locs → lv_has ls 4 [(0, .ref (ad 0)), (1, .int x1), (2, .int x2)] → W p l e { frames := 1, cells := 0, slots := 0, locals := 23 } s m args below meth c H locs 0 0 (MQ below ((fun A => va_Qv (fun (u : Int32 × Int32 × (Nat → Int32) × (Nat → Int32) × (Nat → Int32) × (Nat → Int64)) => ∃ (z0 : Int32) (z1 : Int32) (z2 : Nat → Int32) (z3 : Nat → Int32) (z4 : Nat → Int32) (z5 : Nat → Int64), u = (z0, z1, z2, z3, z4, z5) ∧ Q z0 z1 z2 z3 z4 z5) (zE D vwCl A (fun (u : Int32 × Int32 × (Nat → Int32) × (Nat → Int32) × (Nat → Int32) × (Nat → Int64)) => [((ad 0), oX8 ad m_said m_waved (u.1) (u.2.1) m_joints m_netPlaces m_begin m_finish m_rounds m_sews), ((ad 1), aI cy 112 m_state), ((ad 12), aI cy 13 (u.2.2.1)), ((ad 13), aI cy 13 (u.2.2.2.1)), ((ad 14), aI cy 13 (u.2.2.2.2.1)), ((ad 15), aJ cy 13 (u.2.2.2.2.2))])) A) A) args s 0 0 A) (F0 m 115 ls [.int t1, .ref (ad 0)]) := by
    intro x1 x2 t1 m_places m_end m_parent m_letter m_deep m_row rc42 hrc42  h H locs ls hP hD hS hl
    unfold wp_X8_layTree_115 at h
    refine va_put (D := D) (ci := 7) (v := .int t1) (ty := .int) (C := RX8) (T := TX8) (N := 35) hx hb hts iX8 tyX8 tyX8_ok nmX8 hown hK hP hD hS 0 rfl rfl 18 (Nat.le_of_ble_eq_true rfl) (hts _ fl_X8_204) (fun _ h9 => h9) rfl (by decide +kernel) rfl rfl (Nat.le_of_ble_eq_true rfl) dX8_layTree_115 (fun H locs hP hD hS => ?_)
    have hP : va_P D vwCl [((ad 0), oX8 ad m_said m_waved m_places t1 m_joints m_netPlaces m_begin m_finish m_rounds m_sews), ((ad 1), aI cy 112 m_state), ((ad 12), aI cy 13 m_parent), ((ad 13), aI cy 13 m_letter), ((ad 14), aI cy 13 m_deep), ((ad 15), aJ cy 13 m_row)] H := hP
    have hD : va_D A [((ad 0), oX8 ad m_said m_waved m_places t1 m_joints m_netPlaces m_begin m_finish m_rounds m_sews), ((ad 1), aI cy 112 m_state), ((ad 12), aI cy 13 m_parent), ((ad 13), aI cy 13 m_letter), ((ad 14), aI cy 13 m_deep), ((ad 15), aJ cy 13 m_row)] := hD
    obtain ⟨x2_16, e_x2_16⟩ : ∃ y : Int32, y = x2 + (1 : Int32) := ⟨_, rfl⟩
    refine lv_iinc (v := x2_16) (lv' := [(2, .int x2_16), (0, .ref (ad 0)), (1, .int x1)]) hx hb dX8_layTree_118 hl (k := 2) rfl (by rw [e_x2_16]; rfl) (by decide) rfl (fun ls hl => ?_)
    have h := h x2_16 e_x2_16
    refine lv_goto (tgt := 42) hx hb dX8_layTree_121 (by decide) ?_
    exact hrc42 x2_16 m_places t1 m_parent m_letter m_deep m_row h _ _ _ hP hD hS (lv_sub hl [1, 2, 0] rfl)
  have hJ106 : ∀ (x1 : Int32) (x2 : Int32) (x3 : Int32) (m_places : Int32) (m_end : Int32) (m_parent : Nat → Int32) (m_letter : Nat → Int32) (m_deep : Nat → Int32) (m_row : Nat → Int64) (rc42 : Int32 → Int32 → Int32 → (Nat → Int32) → (Nat → Int32) → (Nat → Int32) → (Nat → Int64) → Prop) (hrc42 : ∀ (x2 : Int32) (m_places : Int32) (m_end : Int32) (m_parent : Nat → Int32) (m_letter : Nat → Int32) (m_deep : Nat → Int32) (m_row : Nat → Int64), rc42 x2 m_places m_end m_parent m_letter m_deep m_row → ∀ (H : Heap) (locs : List Loc) (ls : Array Slot), va_P D vwCl [((ad 0), oX8 ad m_said m_waved m_places m_end m_joints m_netPlaces m_begin m_finish m_rounds m_sews), ((ad 1), aI cy 112 m_state), ((ad 12), aI cy 13 m_parent), ((ad 13), aI cy 13 m_letter), ((ad 14), aI cy 13 m_deep), ((ad 15), aJ cy 13 m_row)] H → va_D A [((ad 0), oX8 ad m_said m_waved m_places m_end m_joints m_netPlaces m_begin m_finish m_rounds m_sews), ((ad 1), aI cy 112 m_state), ((ad 12), aI cy 13 m_parent), ((ad 13), aI cy 13 m_letter), ((ad 14), aI cy 13 m_deep), ((ad 15), aJ cy 13 m_row)] → va_S A s.heap H locs → lv_has ls 4 [(0, .ref (ad 0)), (1, .int x1), (2, .int x2)] → W p l e { frames := 1, cells := 0, slots := 0, locals := 23 } s m args below meth c H locs 0 0 (MQ below ((fun A => va_Qv (fun (u : Int32 × Int32 × (Nat → Int32) × (Nat → Int32) × (Nat → Int32) × (Nat → Int64)) => ∃ (z0 : Int32) (z1 : Int32) (z2 : Nat → Int32) (z3 : Nat → Int32) (z4 : Nat → Int32) (z5 : Nat → Int64), u = (z0, z1, z2, z3, z4, z5) ∧ Q z0 z1 z2 z3 z4 z5) (zE D vwCl A (fun (u : Int32 × Int32 × (Nat → Int32) × (Nat → Int32) × (Nat → Int32) × (Nat → Int64)) => [((ad 0), oX8 ad m_said m_waved (u.1) (u.2.1) m_joints m_netPlaces m_begin m_finish m_rounds m_sews), ((ad 1), aI cy 112 m_state), ((ad 12), aI cy 13 (u.2.2.1)), ((ad 13), aI cy 13 (u.2.2.2.1)), ((ad 14), aI cy 13 (u.2.2.2.2.1)), ((ad 15), aJ cy 13 (u.2.2.2.2.2))])) A) A) args s 0 0 A) (F0 m 42 ls [])), wp_X8_layTree_106 m_state x1 x2 x3 m_places m_end m_parent m_letter m_deep m_row rc42 Q → ∀ (H : Heap) (locs : List Loc) (ls : Array Slot), va_P D vwCl [((ad 0), oX8 ad m_said m_waved m_places m_end m_joints m_netPlaces m_begin m_finish m_rounds m_sews), ((ad 1), aI cy 112 m_state), ((ad 12), aI cy 13 m_parent), ((ad 13), aI cy 13 m_letter), ((ad 14), aI cy 13 m_deep), ((ad 15), aJ cy 13 m_row)] H → va_D A [((ad 0), oX8 ad m_said m_waved m_places m_end m_joints m_netPlaces m_begin m_finish m_rounds m_sews), ((ad 1), aI cy 112 m_state), ((ad 12), aI cy 13 m_parent), ((ad 13), aI cy 13 m_letter), ((ad 14), aI cy 13 m_deep), ((ad 15), aJ cy 13 m_row)] → va_S A s.heap H locs → lv_has ls 4 [(0, .ref (ad 0)), (1, .int x1), (2, .int x2), (3, .int x3)] → W p l e { frames := 1, cells := 0, slots := 0, locals := 23 } s m args below meth c H locs 0 0 (MQ below ((fun A => va_Qv (fun (u : Int32 × Int32 × (Nat → Int32) × (Nat → Int32) × (Nat → Int32) × (Nat → Int64)) => ∃ (z0 : Int32) (z1 : Int32) (z2 : Nat → Int32) (z3 : Nat → Int32) (z4 : Nat → Int32) (z5 : Nat → Int64), u = (z0, z1, z2, z3, z4, z5) ∧ Q z0 z1 z2 z3 z4 z5) (zE D vwCl A (fun (u : Int32 × Int32 × (Nat → Int32) × (Nat → Int32) × (Nat → Int32) × (Nat → Int64)) => [((ad 0), oX8 ad m_said m_waved (u.1) (u.2.1) m_joints m_netPlaces m_begin m_finish m_rounds m_sews), ((ad 1), aI cy 112 m_state), ((ad 12), aI cy 13 (u.2.2.1)), ((ad 13), aI cy 13 (u.2.2.2.1)), ((ad 14), aI cy 13 (u.2.2.2.2.1)), ((ad 15), aJ cy 13 (u.2.2.2.2.2))])) A) A) args s 0 0 A) (F0 m 106 ls [.ref (ad 0)]) := by
    intro x1 x2 x3 m_places m_end m_parent m_letter m_deep m_row rc42 hrc42  h H locs ls hP hD hS hl
    unfold wp_X8_layTree_106 at h
    refine lv_aload_n hx hb dX8_layTree_106 rfl (lv_at hl 0 rfl) ?_
    refine lv_aload_n hx hb dX8_layTree_107 rfl (lv_at hl 0 rfl) ?_
    refine va_get (D := D) (ci := 7) (v := .int m_end) (C := RX8) (T := TX8) (N := 35) hx hb hts iX8 hown hK hP 0 rfl rfl 18 (Nat.le_of_ble_eq_true rfl) (hts _ fl_X8_204) (fun _ h9 => h9) rfl dX8_layTree_108 ?_
    refine lv_iload_n hx hb dX8_layTree_111 rfl (lv_at hl 3 rfl) ?_
    refine zc_Vi (As := [.int m_end, .int x3]) (rest := [.ref (ad 0)]) (wc := [((ad 0), oX8 ad m_said m_waved m_places m_end m_joints m_netPlaces m_begin m_finish m_rounds m_sews), ((ad 12), aI cy 13 m_parent), ((ad 13), aI cy 13 m_letter), ((ad 14), aI cy 13 m_deep), ((ad 15), aJ cy 13 m_row)]) (wr := [((ad 1), aI cy 112 m_state)]) hx hb hml hown hts hK hPW hA hl.1 hP hD hS ⟨Nat.zero_le _, Nat.zero_le _⟩ [0, 2, 3, 4, 5] [1] rfl rfl (by decide) (c_X8_childOf l D cy (sz := _) (x1 := m_end) (x2 := x3) (ad := ad) (m_said := m_said) (m_waved := m_waved) (m_places := m_places) (m_end := m_end) (m_joints := m_joints) (m_netPlaces := m_netPlaces) (m_begin := m_begin) (m_finish := m_finish) (m_rounds := m_rounds) (m_sews := m_sews) (m_parent := m_parent) (m_letter := m_letter) (m_deep := m_deep) (m_row := m_row) (h := h)) k_X8_210 ⟨rfl, rfl, (Nat.le_of_ble_eq_true rfl), (Nat.le_of_ble_eq_true rfl)⟩ rfl rfl rfl rfl (Nat.le_of_ble_eq_true rfl) dX8_layTree_112 (fun r_17 u_17 H locs h hP hD hS => ?_)
    obtain ⟨m_places_17, m_parent_17, m_letter_17, m_deep_17, m_row_17, rfl, h⟩ := h
    have hP : va_P D vwCl [((ad 1), aI cy 112 m_state), ((ad 0), oX8 ad m_said m_waved m_places_17 m_end m_joints m_netPlaces m_begin m_finish m_rounds m_sews), ((ad 12), aI cy 13 m_parent_17), ((ad 13), aI cy 13 m_letter_17), ((ad 14), aI cy 13 m_deep_17), ((ad 15), aJ cy 13 m_row_17)] H := hP
    have hD : va_D A [((ad 1), aI cy 112 m_state), ((ad 0), oX8 ad m_said m_waved m_places_17 m_end m_joints m_netPlaces m_begin m_finish m_rounds m_sews), ((ad 12), aI cy 13 m_parent_17), ((ad 13), aI cy 13 m_letter_17), ((ad 14), aI cy 13 m_deep_17), ((ad 15), aJ cy 13 m_row_17)] := hD
    exact hJ115 x1 x2 r_17 m_places_17 m_end m_parent_17 m_letter_17 m_deep_17 m_row_17 _ hrc42  h _ _ _ (hP.sub [1, 0, 2, 3, 4, 5] rfl) (hD.sub [1, 0, 2, 3, 4, 5] (by decide) rfl) hS (lv_sub hl [0, 1, 2] rfl)
  have hJ42 : ∀ (x1 : Int32) (x2 : Int32) (m_places : Int32) (m_end : Int32) (m_parent : Nat → Int32) (m_letter : Nat → Int32) (m_deep : Nat → Int32) (m_row : Nat → Int64), wp_X8_layTree_42 m_state x1  Q x2 m_places m_end m_parent m_letter m_deep m_row → ∀ (H : Heap) (locs : List Loc) (ls : Array Slot), va_P D vwCl [((ad 0), oX8 ad m_said m_waved m_places m_end m_joints m_netPlaces m_begin m_finish m_rounds m_sews), ((ad 1), aI cy 112 m_state), ((ad 12), aI cy 13 m_parent), ((ad 13), aI cy 13 m_letter), ((ad 14), aI cy 13 m_deep), ((ad 15), aJ cy 13 m_row)] H → va_D A [((ad 0), oX8 ad m_said m_waved m_places m_end m_joints m_netPlaces m_begin m_finish m_rounds m_sews), ((ad 1), aI cy 112 m_state), ((ad 12), aI cy 13 m_parent), ((ad 13), aI cy 13 m_letter), ((ad 14), aI cy 13 m_deep), ((ad 15), aJ cy 13 m_row)] → va_S A s.heap H locs → lv_has ls 4 [(0, .ref (ad 0)), (1, .int x1), (2, .int x2)] → W p l e { frames := 1, cells := 0, slots := 0, locals := 23 } s m args below meth c H locs 0 0 (MQ below ((fun A => va_Qv (fun (u : Int32 × Int32 × (Nat → Int32) × (Nat → Int32) × (Nat → Int32) × (Nat → Int64)) => ∃ (z0 : Int32) (z1 : Int32) (z2 : Nat → Int32) (z3 : Nat → Int32) (z4 : Nat → Int32) (z5 : Nat → Int64), u = (z0, z1, z2, z3, z4, z5) ∧ Q z0 z1 z2 z3 z4 z5) (zE D vwCl A (fun (u : Int32 × Int32 × (Nat → Int32) × (Nat → Int32) × (Nat → Int32) × (Nat → Int64)) => [((ad 0), oX8 ad m_said m_waved (u.1) (u.2.1) m_joints m_netPlaces m_begin m_finish m_rounds m_sews), ((ad 1), aI cy 112 m_state), ((ad 12), aI cy 13 (u.2.2.1)), ((ad 13), aI cy 13 (u.2.2.2.1)), ((ad 14), aI cy 13 (u.2.2.2.2.1)), ((ad 15), aJ cy 13 (u.2.2.2.2.2))])) A) A) args s 0 0 A) (F0 m 42 ls []) := by
    intro x1 x2 m_places m_end m_parent m_letter m_deep m_row   h
    obtain ⟨nn, h⟩ := h
    have key : ∀ (nn : Nat) (x2 : Int32) (m_places : Int32) (m_end : Int32) (m_parent : Nat → Int32) (m_letter : Nat → Int32) (m_deep : Nat → Int32) (m_row : Nat → Int64), lpW7 (wb_X8_layTree_42 m_state x1  Q) nn x2 m_places m_end m_parent m_letter m_deep m_row → ∀ (H : Heap) (locs : List Loc) (ls : Array Slot), va_P D vwCl [((ad 0), oX8 ad m_said m_waved m_places m_end m_joints m_netPlaces m_begin m_finish m_rounds m_sews), ((ad 1), aI cy 112 m_state), ((ad 12), aI cy 13 m_parent), ((ad 13), aI cy 13 m_letter), ((ad 14), aI cy 13 m_deep), ((ad 15), aJ cy 13 m_row)] H → va_D A [((ad 0), oX8 ad m_said m_waved m_places m_end m_joints m_netPlaces m_begin m_finish m_rounds m_sews), ((ad 1), aI cy 112 m_state), ((ad 12), aI cy 13 m_parent), ((ad 13), aI cy 13 m_letter), ((ad 14), aI cy 13 m_deep), ((ad 15), aJ cy 13 m_row)] → va_S A s.heap H locs → lv_has ls 4 [(0, .ref (ad 0)), (1, .int x1), (2, .int x2)] → W p l e { frames := 1, cells := 0, slots := 0, locals := 23 } s m args below meth c H locs 0 0 (MQ below ((fun A => va_Qv (fun (u : Int32 × Int32 × (Nat → Int32) × (Nat → Int32) × (Nat → Int32) × (Nat → Int64)) => ∃ (z0 : Int32) (z1 : Int32) (z2 : Nat → Int32) (z3 : Nat → Int32) (z4 : Nat → Int32) (z5 : Nat → Int64), u = (z0, z1, z2, z3, z4, z5) ∧ Q z0 z1 z2 z3 z4 z5) (zE D vwCl A (fun (u : Int32 × Int32 × (Nat → Int32) × (Nat → Int32) × (Nat → Int32) × (Nat → Int64)) => [((ad 0), oX8 ad m_said m_waved (u.1) (u.2.1) m_joints m_netPlaces m_begin m_finish m_rounds m_sews), ((ad 1), aI cy 112 m_state), ((ad 12), aI cy 13 (u.2.2.1)), ((ad 13), aI cy 13 (u.2.2.2.1)), ((ad 14), aI cy 13 (u.2.2.2.2.1)), ((ad 15), aJ cy 13 (u.2.2.2.2.2))])) A) A) args s 0 0 A) (F0 m 42 ls []) := by
      intro nn
      induction nn with
      | zero => intro x2 m_places m_end m_parent m_letter m_deep m_row h; exact h.elim
      | succ nn hrc42 =>
        intro x2 m_places m_end m_parent m_letter m_deep m_row h H locs ls hP hD hS hl
        have h : wb_X8_layTree_42 m_state x1  Q (lpW7 (wb_X8_layTree_42 m_state x1  Q) nn) x2 m_places m_end m_parent m_letter m_deep m_row := h
        unfold wb_X8_layTree_42 at h
        refine lv_iload_n hx hb dX8_layTree_42 rfl (lv_at hl 2 rfl) ?_
        refine lv_aload_n hx hb dX8_layTree_43 rfl (lv_at hl 0 rfl) ?_
        refine va_get (D := D) (ci := 7) (v := .ref (ad 1)) (C := RX8) (T := TX8) (N := 35) hx hb hts iX8 hown hK hP 0 rfl rfl 0 (Nat.le_of_ble_eq_true rfl) (hts _ fl_X8_7) (fun _ h9 => h9) rfl dX8_layTree_44 ?_
        refine lv_bipush (v := (6 : Int32)) hx hb dX8_layTree_47 (by decide) ?_
        refine lv_iload_n hx hb dX8_layTree_49 rfl (lv_at hl 1 rfl) ?_
        refine lv_iadd hx hb dX8_layTree_50 ?_
        obtain ⟨hi_18, h⟩ := h
        refine va_iald hx hb hK hP 1 0 rfl rfl hi_18 dX8_layTree_51 ?_
        refine lv_icmp_ge (tgt := 124) hx hb dX8_layTree_52 (by decide) (fun c_19 => ?_) (fun c_19 => ?_)
        · have h := h.1 c_19
          exact z_vret (m_places, m_end, m_parent, m_letter, m_deep, m_row) hx hb hr hlocks ⟨m_places, m_end, m_parent, m_letter, m_deep, m_row, rfl, h⟩ hP hD hS dX8_layTree_124
        · have h := h.2 c_19
          refine lv_aload_n hx hb dX8_layTree_55 rfl (lv_at hl 0 rfl) ?_
          refine va_get (D := D) (ci := 7) (v := .ref (ad 1)) (C := RX8) (T := TX8) (N := 35) hx hb hts iX8 hown hK hP 0 rfl rfl 0 (Nat.le_of_ble_eq_true rfl) (hts _ fl_X8_7) (fun _ h9 => h9) rfl dX8_layTree_56 ?_
          refine lv_bipush (v := (10 : Int32)) hx hb dX8_layTree_59 (by decide) ?_
          refine lv_bipush (v := (12 : Int32)) hx hb dX8_layTree_61 (by decide) ?_
          refine lv_iload_n hx hb dX8_layTree_63 rfl (lv_at hl 1 rfl) ?_
          refine lv_imul hx hb dX8_layTree_64 ?_
          refine lv_iadd hx hb dX8_layTree_65 ?_
          refine lv_iload_n hx hb dX8_layTree_66 rfl (lv_at hl 2 rfl) ?_
          refine lv_iadd hx hb dX8_layTree_67 ?_
          obtain ⟨hi_20, h⟩ := h
          refine va_iald hx hb hK hP 1 0 rfl rfl hi_20 dX8_layTree_68 ?_
          refine lv_topi (fun x3_21 e_x3_21 => ?_)
          have h := h x3_21 e_x3_21
          refine lv_istore_n (lv' := [(3, .int x3_21), (0, .ref (ad 0)), (1, .int x1), (2, .int x2)]) hx hb dX8_layTree_69 rfl hl (by decide) rfl (fun ls hl => ?_)
          refine lv_aload_n hx hb dX8_layTree_70 rfl (lv_at hl 1 rfl) ?_
          refine lv_aload_n hx hb dX8_layTree_71 rfl (lv_at hl 1 rfl) ?_
          refine va_get (D := D) (ci := 7) (v := .int m_end) (C := RX8) (T := TX8) (N := 35) hx hb hts iX8 hown hK hP 0 rfl rfl 18 (Nat.le_of_ble_eq_true rfl) (hts _ fl_X8_204) (fun _ h9 => h9) rfl dX8_layTree_72 ?_
          refine lv_if_le (tgt := 106) hx hb dX8_layTree_75 (by decide) (fun c_22 => ?_) (fun c_22 => ?_)
          · have h := h.1 c_22
            exact hJ106 x1 x2 x3_21 m_places m_end m_parent m_letter m_deep m_row _ hrc42  h _ _ _ hP hD hS (lv_sub hl [1, 2, 3, 0] rfl)
          · have h := h.2 c_22
            refine lv_aload_n hx hb dX8_layTree_78 rfl (lv_at hl 1 rfl) ?_
            refine va_get (D := D) (ci := 7) (v := .ref (ad 13)) (C := RX8) (T := TX8) (N := 35) hx hb hts iX8 hown hK hP 0 rfl rfl 14 (Nat.le_of_ble_eq_true rfl) (hts _ fl_X8_47) (fun _ h9 => h9) rfl dX8_layTree_79 ?_
            refine lv_aload_n hx hb dX8_layTree_82 rfl (lv_at hl 1 rfl) ?_
            refine va_get (D := D) (ci := 7) (v := .int m_end) (C := RX8) (T := TX8) (N := 35) hx hb hts iX8 hown hK hP 0 rfl rfl 18 (Nat.le_of_ble_eq_true rfl) (hts _ fl_X8_204) (fun _ h9 => h9) rfl dX8_layTree_83 ?_
            obtain ⟨hi_23, h⟩ := h
            refine va_iald hx hb hK hP 3 0 rfl rfl hi_23 dX8_layTree_86 ?_
            refine lv_iload_n hx hb dX8_layTree_87 rfl (lv_at hl 0 rfl) ?_
            refine zc_S0 (As := [.int x3_21]) (rest := [.int (m_letter m_end.toNatClampNeg), .ref (ad 0)]) hx hb hml hown hts hK hPW hA hl.1 hP hS ⟨Nat.zero_le _, Nat.zero_le _⟩ (c_X8_undone l D cy (sz := _) (x0 := x3_21) (h := h)) k_X8_207 ⟨rfl, rfl, (Nat.le_of_ble_eq_true rfl), (Nat.le_of_ble_eq_true rfl)⟩ rfl rfl (Nat.le_of_ble_eq_true rfl) dX8_layTree_88 (fun r_24 H locs h hP hS => ?_)
            refine lv_icmp_ne (tgt := 106) hx hb dX8_layTree_91 (by decide) (fun c_25 => ?_) (fun c_25 => ?_)
            · have h := h.1 c_25
              exact hJ106 x1 x2 x3_21 m_places m_end m_parent m_letter m_deep m_row _ hrc42  h _ _ _ hP hD hS (lv_sub hl [1, 2, 3, 0] rfl)
            · have h := h.2 c_25
              refine lv_aload_n hx hb dX8_layTree_94 rfl (lv_at hl 1 rfl) ?_
              refine va_get (D := D) (ci := 7) (v := .ref (ad 12)) (C := RX8) (T := TX8) (N := 35) hx hb hts iX8 hown hK hP 0 rfl rfl 13 (Nat.le_of_ble_eq_true rfl) (hts _ fl_X8_44) (fun _ h9 => h9) rfl dX8_layTree_95 ?_
              refine lv_aload_n hx hb dX8_layTree_98 rfl (lv_at hl 1 rfl) ?_
              refine va_get (D := D) (ci := 7) (v := .int m_end) (C := RX8) (T := TX8) (N := 35) hx hb hts iX8 hown hK hP 0 rfl rfl 18 (Nat.le_of_ble_eq_true rfl) (hts _ fl_X8_204) (fun _ h9 => h9) rfl dX8_layTree_99 ?_
              obtain ⟨hi_26, h⟩ := h
              refine va_iald hx hb hK hP 2 0 rfl rfl hi_26 dX8_layTree_102 ?_
              refine lv_goto (tgt := 115) hx hb dX8_layTree_103 (by decide) ?_
              exact hJ115 x1 x2 (m_parent m_end.toNatClampNeg) m_places m_end m_parent m_letter m_deep m_row _ hrc42  h _ _ _ hP hD hS (lv_sub hl [1, 2, 3] rfl)
    exact key nn x2 m_places m_end m_parent m_letter m_deep m_row h
  unfold wp_X8_layTree at h
  refine lv_aload_n hx hb dX8_layTree_0 rfl (lv_at hl 0 rfl) ?_
  refine lv_iconst (v := (1 : Int32)) hx hb dX8_layTree_1 (by decide) ?_
  refine va_put (D := D) (ci := 7) (v := .int (1 : Int32)) (ty := .int) (C := RX8) (T := TX8) (N := 35) hx hb hts iX8 tyX8 tyX8_ok nmX8 hown hK hP hD hS 0 rfl rfl 17 (Nat.le_of_ble_eq_true rfl) (hts _ fl_X8_199) (fun _ h9 => h9) rfl (by decide +kernel) rfl rfl (Nat.le_of_ble_eq_true rfl) dX8_layTree_2 (fun H locs hP hD hS => ?_)
  have hP : va_P D vwCl [((ad 0), oX8 ad m_said m_waved (1 : Int32) m_end m_joints m_netPlaces m_begin m_finish m_rounds m_sews), ((ad 1), aI cy 112 m_state), ((ad 12), aI cy 13 m_parent), ((ad 13), aI cy 13 m_letter), ((ad 14), aI cy 13 m_deep), ((ad 15), aJ cy 13 m_row)] H := hP
  have hD : va_D A [((ad 0), oX8 ad m_said m_waved (1 : Int32) m_end m_joints m_netPlaces m_begin m_finish m_rounds m_sews), ((ad 1), aI cy 112 m_state), ((ad 12), aI cy 13 m_parent), ((ad 13), aI cy 13 m_letter), ((ad 14), aI cy 13 m_deep), ((ad 15), aJ cy 13 m_row)] := hD
  refine lv_aload_n hx hb dX8_layTree_5 rfl (lv_at hl 0 rfl) ?_
  refine va_get (D := D) (ci := 7) (v := .ref (ad 12)) (C := RX8) (T := TX8) (N := 35) hx hb hts iX8 hown hK hP 0 rfl rfl 13 (Nat.le_of_ble_eq_true rfl) (hts _ fl_X8_44) (fun _ h9 => h9) rfl dX8_layTree_6 ?_
  refine lv_iconst (v := (0 : Int32)) hx hb dX8_layTree_9 (by decide) ?_
  refine lv_bipush (v := (-6 : Int32)) hx hb dX8_layTree_10 (by decide) ?_
  obtain ⟨hi_27, h⟩ := h
  refine va_iast hx hb hK hP hD hS 2 0 rfl rfl hi_27 dX8_layTree_12 (fun H locs hP hD hS => ?_)
  have hP : va_P D vwCl [((ad 0), oX8 ad m_said m_waved (1 : Int32) m_end m_joints m_netPlaces m_begin m_finish m_rounds m_sews), ((ad 1), aI cy 112 m_state), ((ad 12), aI cy 13 (upd m_parent (0 : Int32).toNatClampNeg (-6 : Int32))), ((ad 13), aI cy 13 m_letter), ((ad 14), aI cy 13 m_deep), ((ad 15), aJ cy 13 m_row)] H := hP
  have hD : va_D A [((ad 0), oX8 ad m_said m_waved (1 : Int32) m_end m_joints m_netPlaces m_begin m_finish m_rounds m_sews), ((ad 1), aI cy 112 m_state), ((ad 12), aI cy 13 (upd m_parent (0 : Int32).toNatClampNeg (-6 : Int32))), ((ad 13), aI cy 13 m_letter), ((ad 14), aI cy 13 m_deep), ((ad 15), aJ cy 13 m_row)] := hD
  refine lv_aload_n hx hb dX8_layTree_13 rfl (lv_at hl 0 rfl) ?_
  refine va_get (D := D) (ci := 7) (v := .ref (ad 13)) (C := RX8) (T := TX8) (N := 35) hx hb hts iX8 hown hK hP 0 rfl rfl 14 (Nat.le_of_ble_eq_true rfl) (hts _ fl_X8_47) (fun _ h9 => h9) rfl dX8_layTree_14 ?_
  refine lv_iconst (v := (0 : Int32)) hx hb dX8_layTree_17 (by decide) ?_
  refine lv_bipush (v := (-6 : Int32)) hx hb dX8_layTree_18 (by decide) ?_
  obtain ⟨hi_28, h⟩ := h
  refine va_iast hx hb hK hP hD hS 3 0 rfl rfl hi_28 dX8_layTree_20 (fun H locs hP hD hS => ?_)
  have hP : va_P D vwCl [((ad 0), oX8 ad m_said m_waved (1 : Int32) m_end m_joints m_netPlaces m_begin m_finish m_rounds m_sews), ((ad 1), aI cy 112 m_state), ((ad 12), aI cy 13 (upd m_parent (0 : Int32).toNatClampNeg (-6 : Int32))), ((ad 13), aI cy 13 (upd m_letter (0 : Int32).toNatClampNeg (-6 : Int32))), ((ad 14), aI cy 13 m_deep), ((ad 15), aJ cy 13 m_row)] H := hP
  have hD : va_D A [((ad 0), oX8 ad m_said m_waved (1 : Int32) m_end m_joints m_netPlaces m_begin m_finish m_rounds m_sews), ((ad 1), aI cy 112 m_state), ((ad 12), aI cy 13 (upd m_parent (0 : Int32).toNatClampNeg (-6 : Int32))), ((ad 13), aI cy 13 (upd m_letter (0 : Int32).toNatClampNeg (-6 : Int32))), ((ad 14), aI cy 13 m_deep), ((ad 15), aJ cy 13 m_row)] := hD
  refine lv_aload_n hx hb dX8_layTree_21 rfl (lv_at hl 0 rfl) ?_
  refine va_get (D := D) (ci := 7) (v := .ref (ad 14)) (C := RX8) (T := TX8) (N := 35) hx hb hts iX8 hown hK hP 0 rfl rfl 15 (Nat.le_of_ble_eq_true rfl) (hts _ fl_X8_50) (fun _ h9 => h9) rfl dX8_layTree_22 ?_
  refine lv_iconst (v := (0 : Int32)) hx hb dX8_layTree_25 (by decide) ?_
  refine lv_iconst (v := (0 : Int32)) hx hb dX8_layTree_26 (by decide) ?_
  obtain ⟨hi_29, h⟩ := h
  refine va_iast hx hb hK hP hD hS 4 0 rfl rfl hi_29 dX8_layTree_27 (fun H locs hP hD hS => ?_)
  have hP : va_P D vwCl [((ad 0), oX8 ad m_said m_waved (1 : Int32) m_end m_joints m_netPlaces m_begin m_finish m_rounds m_sews), ((ad 1), aI cy 112 m_state), ((ad 12), aI cy 13 (upd m_parent (0 : Int32).toNatClampNeg (-6 : Int32))), ((ad 13), aI cy 13 (upd m_letter (0 : Int32).toNatClampNeg (-6 : Int32))), ((ad 14), aI cy 13 (upd m_deep (0 : Int32).toNatClampNeg (0 : Int32))), ((ad 15), aJ cy 13 m_row)] H := hP
  have hD : va_D A [((ad 0), oX8 ad m_said m_waved (1 : Int32) m_end m_joints m_netPlaces m_begin m_finish m_rounds m_sews), ((ad 1), aI cy 112 m_state), ((ad 12), aI cy 13 (upd m_parent (0 : Int32).toNatClampNeg (-6 : Int32))), ((ad 13), aI cy 13 (upd m_letter (0 : Int32).toNatClampNeg (-6 : Int32))), ((ad 14), aI cy 13 (upd m_deep (0 : Int32).toNatClampNeg (0 : Int32))), ((ad 15), aJ cy 13 m_row)] := hD
  refine lv_aload_n hx hb dX8_layTree_28 rfl (lv_at hl 0 rfl) ?_
  refine va_get (D := D) (ci := 7) (v := .ref (ad 15)) (C := RX8) (T := TX8) (N := 35) hx hb hts iX8 hown hK hP 0 rfl rfl 16 (Nat.le_of_ble_eq_true rfl) (hts _ fl_X8_53) (fun _ h9 => h9) rfl dX8_layTree_29 ?_
  refine lv_iconst (v := (0 : Int32)) hx hb dX8_layTree_32 (by decide) ?_
  refine lv_lconst (v := (0 : Int64)) hx hb dX8_layTree_33 (by decide) ?_
  obtain ⟨hi_30, h⟩ := h
  refine va_last hx hb hK hP hD hS 5 1 rfl rfl hi_30 dX8_layTree_34 (fun H locs hP hD hS => ?_)
  have hP : va_P D vwCl [((ad 0), oX8 ad m_said m_waved (1 : Int32) m_end m_joints m_netPlaces m_begin m_finish m_rounds m_sews), ((ad 1), aI cy 112 m_state), ((ad 12), aI cy 13 (upd m_parent (0 : Int32).toNatClampNeg (-6 : Int32))), ((ad 13), aI cy 13 (upd m_letter (0 : Int32).toNatClampNeg (-6 : Int32))), ((ad 14), aI cy 13 (upd m_deep (0 : Int32).toNatClampNeg (0 : Int32))), ((ad 15), aJ cy 13 (vp_updL m_row (0 : Int32).toNatClampNeg (0 : Int64)))] H := hP
  have hD : va_D A [((ad 0), oX8 ad m_said m_waved (1 : Int32) m_end m_joints m_netPlaces m_begin m_finish m_rounds m_sews), ((ad 1), aI cy 112 m_state), ((ad 12), aI cy 13 (upd m_parent (0 : Int32).toNatClampNeg (-6 : Int32))), ((ad 13), aI cy 13 (upd m_letter (0 : Int32).toNatClampNeg (-6 : Int32))), ((ad 14), aI cy 13 (upd m_deep (0 : Int32).toNatClampNeg (0 : Int32))), ((ad 15), aJ cy 13 (vp_updL m_row (0 : Int32).toNatClampNeg (0 : Int64)))] := hD
  refine lv_aload_n hx hb dX8_layTree_35 rfl (lv_at hl 0 rfl) ?_
  refine lv_iconst (v := (0 : Int32)) hx hb dX8_layTree_36 (by decide) ?_
  refine va_put (D := D) (ci := 7) (v := .int (0 : Int32)) (ty := .int) (C := RX8) (T := TX8) (N := 35) hx hb hts iX8 tyX8 tyX8_ok nmX8 hown hK hP hD hS 0 rfl rfl 18 (Nat.le_of_ble_eq_true rfl) (hts _ fl_X8_204) (fun _ h9 => h9) rfl (by decide +kernel) rfl rfl (Nat.le_of_ble_eq_true rfl) dX8_layTree_37 (fun H locs hP hD hS => ?_)
  have hP : va_P D vwCl [((ad 0), oX8 ad m_said m_waved (1 : Int32) (0 : Int32) m_joints m_netPlaces m_begin m_finish m_rounds m_sews), ((ad 1), aI cy 112 m_state), ((ad 12), aI cy 13 (upd m_parent (0 : Int32).toNatClampNeg (-6 : Int32))), ((ad 13), aI cy 13 (upd m_letter (0 : Int32).toNatClampNeg (-6 : Int32))), ((ad 14), aI cy 13 (upd m_deep (0 : Int32).toNatClampNeg (0 : Int32))), ((ad 15), aJ cy 13 (vp_updL m_row (0 : Int32).toNatClampNeg (0 : Int64)))] H := hP
  have hD : va_D A [((ad 0), oX8 ad m_said m_waved (1 : Int32) (0 : Int32) m_joints m_netPlaces m_begin m_finish m_rounds m_sews), ((ad 1), aI cy 112 m_state), ((ad 12), aI cy 13 (upd m_parent (0 : Int32).toNatClampNeg (-6 : Int32))), ((ad 13), aI cy 13 (upd m_letter (0 : Int32).toNatClampNeg (-6 : Int32))), ((ad 14), aI cy 13 (upd m_deep (0 : Int32).toNatClampNeg (0 : Int32))), ((ad 15), aJ cy 13 (vp_updL m_row (0 : Int32).toNatClampNeg (0 : Int64)))] := hD
  refine lv_iconst (v := (0 : Int32)) hx hb dX8_layTree_40 (by decide) ?_
  refine lv_istore_n (lv' := [(2, .int (0 : Int32)), (0, .ref (ad 0)), (1, .int x1)]) hx hb dX8_layTree_41 rfl hl (by decide) rfl (fun ls hl => ?_)
  exact hJ42 x1 (0 : Int32) (1 : Int32) (0 : Int32) (upd m_parent (0 : Int32).toNatClampNeg (-6 : Int32)) (upd m_letter (0 : Int32).toNatClampNeg (-6 : Int32)) (upd m_deep (0 : Int32).toNatClampNeg (0 : Int32)) (vp_updL m_row (0 : Int32).toNatClampNeg (0 : Int64))   h _ _ _ hP hD hS (lv_sub hl [1, 2, 0] rfl)
set_option maxHeartbeats 4000000 in
set_option maxRecDepth 100000 in
theorem c_X8_joinedTo (l : Launch) (D : va_G) (cy : Nat → ClassId) (ad : Nat → Nat) (sz : Nat) (m_said : Int32) (m_waved : Int32) (m_places : Int32) (m_end : Int32) (m_joints : Int32) (m_netPlaces : Int32) (m_begin : Int32) (m_finish : Int32) (m_rounds : Int32) (m_sews : Int32) (m_parent : Nat → Int32) (x1 : Int32) {Q : Int32 → Prop} (h : wp_X8_joinedTo x1 m_places m_parent Q) : Met l yX8_joinedTo (wsU yX8_joinedTo cX8_joinedTo 4 (some .int)) { frames := 0, cells := 0, slots := 0, locals := 0 } (va_Pc [.ref (ad 0), .int x1] (zB D vwCl (tyU cy) [((ad 0), oX8 ad m_said m_waved m_places m_end m_joints m_netPlaces m_begin m_finish m_rounds m_sews), ((ad 12), aI cy 13 m_parent)] sz)) ((fun A => va_Qi (fun (r : Int32) (_ : Unit) => Q r ) (zE D vwCl A (fun (_ : Unit) => [((ad 0), oX8 ad m_said m_waved m_places m_end m_joints m_netPlaces m_begin m_finish m_rounds m_sews), ((ad 12), aI cy 13 m_parent)])) A) (va_A [((ad 0), oX8 ad m_said m_waved m_places m_end m_joints m_netPlaces m_begin m_finish m_rounds m_sews), ((ad 12), aI cy 13 m_parent)] sz)) 0 0 (va_A [((ad 0), oX8 ad m_said m_waved m_places m_end m_joints m_netPlaces m_begin m_finish m_rounds m_sews), ((ad 12), aI cy 13 m_parent)] sz) := by
  refine z_ofX (fun A => va_Qi (fun (r : Int32) (_ : Unit) => Q r ) (zE D vwCl A (fun (_ : Unit) => [((ad 0), oX8 ad m_said m_waved m_places m_end m_joints m_netPlaces m_begin m_finish m_rounds m_sews), ((ad 12), aI cy 13 m_parent)])) A) (by decide) (Nat.le_of_ble_eq_true rfl) (fun p e s m below meth c A ls hx hb hr hml hown hts hlocks hK hPW hA hP hD hS hl => ?_)
  have hl : lv_has ls 4 [(0, .ref (ad 0)), (1, .int x1)] := hl
  have hown : s.vm.findClass RX8 = some m.cls := hown
  generalize hArg : ([.ref (ad 0), .int x1] : List Value).toArray = args at hts ⊢
  have hJ36 : ∀ (x1 : Int32) (x3 : Int32) (t0 : Int32) (t1 : Int32) (rc12 : Int32 → Int32 → Prop) (hrc12 : ∀ (x2 : Int32) (x3 : Int32), rc12 x2 x3 → ∀ (H : Heap) (locs : List Loc) (ls : Array Slot), va_P D vwCl [((ad 0), oX8 ad m_said m_waved m_places m_end m_joints m_netPlaces m_begin m_finish m_rounds m_sews), ((ad 12), aI cy 13 m_parent)] H → va_D A [((ad 0), oX8 ad m_said m_waved m_places m_end m_joints m_netPlaces m_begin m_finish m_rounds m_sews), ((ad 12), aI cy 13 m_parent)] → va_S A s.heap H locs → lv_has ls 4 [(0, .ref (ad 0)), (1, .int x1), (2, .int x2), (3, .int x3)] → W p l e { frames := 0, cells := 0, slots := 0, locals := 0 } s m args below meth c H locs 0 0 (MQ below ((fun A => va_Qi (fun (r : Int32) (_ : Unit) => Q r ) (zE D vwCl A (fun (_ : Unit) => [((ad 0), oX8 ad m_said m_waved m_places m_end m_joints m_netPlaces m_begin m_finish m_rounds m_sews), ((ad 12), aI cy 13 m_parent)])) A) A) args s 0 0 A) (F0 m 12 ls [])), wp_X8_joinedTo_36 m_places m_parent x1 x3 t0 t1 rc12 Q → ∀ (H : Heap) (locs : List Loc) (ls : Array Slot), va_P D vwCl [((ad 0), oX8 ad m_said m_waved m_places m_end m_joints m_netPlaces m_begin m_finish m_rounds m_sews), ((ad 12), aI cy 13 m_parent)] H → va_D A [((ad 0), oX8 ad m_said m_waved m_places m_end m_joints m_netPlaces m_begin m_finish m_rounds m_sews), ((ad 12), aI cy 13 m_parent)] → va_S A s.heap H locs → lv_has ls 4 [(0, .ref (ad 0)), (1, .int x1), (3, .int x3)] → W p l e { frames := 0, cells := 0, slots := 0, locals := 0 } s m args below meth c H locs 0 0 (MQ below ((fun A => va_Qi (fun (r : Int32) (_ : Unit) => Q r ) (zE D vwCl A (fun (_ : Unit) => [((ad 0), oX8 ad m_said m_waved m_places m_end m_joints m_netPlaces m_begin m_finish m_rounds m_sews), ((ad 12), aI cy 13 m_parent)])) A) A) args s 0 0 A) (F0 m 36 ls [.int t1, .int t0]) := by
    intro x1 x3 t0 t1 rc12 hrc12  h H locs ls hP hD hS hl
    unfold wp_X8_joinedTo_36 at h
    refine lv_iadd hx hb dX8_joinedTo_36 ?_
    refine lv_topi (fun x2_7 e_x2_7 => ?_)
    have h := h x2_7 e_x2_7
    refine lv_istore_n (lv' := [(2, .int x2_7), (0, .ref (ad 0)), (1, .int x1), (3, .int x3)]) hx hb dX8_joinedTo_37 rfl hl (by decide) rfl (fun ls hl => ?_)
    obtain ⟨x3_8, e_x3_8⟩ : ∃ y : Int32, y = x3 + (1 : Int32) := ⟨_, rfl⟩
    refine lv_iinc (v := x3_8) (lv' := [(3, .int x3_8), (2, .int x2_7), (0, .ref (ad 0)), (1, .int x1)]) hx hb dX8_joinedTo_38 hl (k := 3) rfl (by rw [e_x3_8]; rfl) (by decide) rfl (fun ls hl => ?_)
    have h := h x3_8 e_x3_8
    refine lv_goto (tgt := 12) hx hb dX8_joinedTo_41 (by decide) ?_
    exact hrc12 x2_7 x3_8 h _ _ _ hP hD hS (lv_sub hl [2, 3, 1, 0] rfl)
  have hJ12 : ∀ (x1 : Int32) (x2 : Int32) (x3 : Int32), wp_X8_joinedTo_12 m_places m_parent x1  Q x2 x3 → ∀ (H : Heap) (locs : List Loc) (ls : Array Slot), va_P D vwCl [((ad 0), oX8 ad m_said m_waved m_places m_end m_joints m_netPlaces m_begin m_finish m_rounds m_sews), ((ad 12), aI cy 13 m_parent)] H → va_D A [((ad 0), oX8 ad m_said m_waved m_places m_end m_joints m_netPlaces m_begin m_finish m_rounds m_sews), ((ad 12), aI cy 13 m_parent)] → va_S A s.heap H locs → lv_has ls 4 [(0, .ref (ad 0)), (1, .int x1), (2, .int x2), (3, .int x3)] → W p l e { frames := 0, cells := 0, slots := 0, locals := 0 } s m args below meth c H locs 0 0 (MQ below ((fun A => va_Qi (fun (r : Int32) (_ : Unit) => Q r ) (zE D vwCl A (fun (_ : Unit) => [((ad 0), oX8 ad m_said m_waved m_places m_end m_joints m_netPlaces m_begin m_finish m_rounds m_sews), ((ad 12), aI cy 13 m_parent)])) A) A) args s 0 0 A) (F0 m 12 ls []) := by
    intro x1 x2 x3   h
    obtain ⟨nn, h⟩ := h
    have key : ∀ (nn : Nat) (x2 : Int32) (x3 : Int32), lpW2 (wb_X8_joinedTo_12 m_places m_parent x1  Q) nn x2 x3 → ∀ (H : Heap) (locs : List Loc) (ls : Array Slot), va_P D vwCl [((ad 0), oX8 ad m_said m_waved m_places m_end m_joints m_netPlaces m_begin m_finish m_rounds m_sews), ((ad 12), aI cy 13 m_parent)] H → va_D A [((ad 0), oX8 ad m_said m_waved m_places m_end m_joints m_netPlaces m_begin m_finish m_rounds m_sews), ((ad 12), aI cy 13 m_parent)] → va_S A s.heap H locs → lv_has ls 4 [(0, .ref (ad 0)), (1, .int x1), (2, .int x2), (3, .int x3)] → W p l e { frames := 0, cells := 0, slots := 0, locals := 0 } s m args below meth c H locs 0 0 (MQ below ((fun A => va_Qi (fun (r : Int32) (_ : Unit) => Q r ) (zE D vwCl A (fun (_ : Unit) => [((ad 0), oX8 ad m_said m_waved m_places m_end m_joints m_netPlaces m_begin m_finish m_rounds m_sews), ((ad 12), aI cy 13 m_parent)])) A) A) args s 0 0 A) (F0 m 12 ls []) := by
      intro nn
      induction nn with
      | zero => intro x2 x3 h; exact h.elim
      | succ nn hrc12 =>
        intro x2 x3 h H locs ls hP hD hS hl
        have h : wb_X8_joinedTo_12 m_places m_parent x1  Q (lpW2 (wb_X8_joinedTo_12 m_places m_parent x1  Q) nn) x2 x3 := h
        unfold wb_X8_joinedTo_12 at h
        refine lv_iload_n hx hb dX8_joinedTo_12 rfl (lv_at hl 3 rfl) ?_
        refine lv_aload_n hx hb dX8_joinedTo_13 rfl (lv_at hl 0 rfl) ?_
        refine va_get (D := D) (ci := 7) (v := .int m_places) (C := RX8) (T := TX8) (N := 35) hx hb hts iX8 hown hK hP 0 rfl rfl 17 (Nat.le_of_ble_eq_true rfl) (hts _ fl_X8_199) (fun _ h9 => h9) rfl dX8_joinedTo_14 ?_
        refine lv_icmp_ge (tgt := 44) hx hb dX8_joinedTo_17 (by decide) (fun c_9 => ?_) (fun c_9 => ?_)
        · have h := h.1 c_9
          refine lv_iload_n hx hb dX8_joinedTo_44 rfl (lv_at hl 2 rfl) ?_
          exact z_iret () hx hb hr hlocks h hP hD hS dX8_joinedTo_45
        · have h := h.2 c_9
          refine lv_iload_n hx hb dX8_joinedTo_20 rfl (lv_at hl 2 rfl) ?_
          refine lv_aload_n hx hb dX8_joinedTo_21 rfl (lv_at hl 0 rfl) ?_
          refine va_get (D := D) (ci := 7) (v := .ref (ad 12)) (C := RX8) (T := TX8) (N := 35) hx hb hts iX8 hown hK hP 0 rfl rfl 13 (Nat.le_of_ble_eq_true rfl) (hts _ fl_X8_44) (fun _ h9 => h9) rfl dX8_joinedTo_22 ?_
          refine lv_iload_n hx hb dX8_joinedTo_25 rfl (lv_at hl 3 rfl) ?_
          obtain ⟨hi_10, h⟩ := h
          refine va_iald hx hb hK hP 1 0 rfl rfl hi_10 dX8_joinedTo_26 ?_
          refine lv_iload_n hx hb dX8_joinedTo_27 rfl (lv_at hl 1 rfl) ?_
          refine lv_icmp_ne (tgt := 35) hx hb dX8_joinedTo_28 (by decide) (fun c_11 => ?_) (fun c_11 => ?_)
          · have h := h.1 c_11
            refine lv_iconst (v := (0 : Int32)) hx hb dX8_joinedTo_35 (by decide) ?_
            exact hJ36 x1 x3 x2 (0 : Int32) _ hrc12  h _ _ _ hP hD hS (lv_sub hl [0, 1, 3] rfl)
          · have h := h.2 c_11
            refine lv_iconst (v := (1 : Int32)) hx hb dX8_joinedTo_31 (by decide) ?_
            refine lv_goto (tgt := 36) hx hb dX8_joinedTo_32 (by decide) ?_
            exact hJ36 x1 x3 x2 (1 : Int32) _ hrc12  h _ _ _ hP hD hS (lv_sub hl [0, 1, 3] rfl)
    exact key nn x2 x3 h
  have hJ9 : ∀ (x1 : Int32) (t0 : Int32), wp_X8_joinedTo_9 m_places m_parent x1 t0  Q → ∀ (H : Heap) (locs : List Loc) (ls : Array Slot), va_P D vwCl [((ad 0), oX8 ad m_said m_waved m_places m_end m_joints m_netPlaces m_begin m_finish m_rounds m_sews), ((ad 12), aI cy 13 m_parent)] H → va_D A [((ad 0), oX8 ad m_said m_waved m_places m_end m_joints m_netPlaces m_begin m_finish m_rounds m_sews), ((ad 12), aI cy 13 m_parent)] → va_S A s.heap H locs → lv_has ls 4 [(0, .ref (ad 0)), (1, .int x1)] → W p l e { frames := 0, cells := 0, slots := 0, locals := 0 } s m args below meth c H locs 0 0 (MQ below ((fun A => va_Qi (fun (r : Int32) (_ : Unit) => Q r ) (zE D vwCl A (fun (_ : Unit) => [((ad 0), oX8 ad m_said m_waved m_places m_end m_joints m_netPlaces m_begin m_finish m_rounds m_sews), ((ad 12), aI cy 13 m_parent)])) A) A) args s 0 0 A) (F0 m 9 ls [.int t0]) := by
    intro x1 t0   h H locs ls hP hD hS hl
    unfold wp_X8_joinedTo_9 at h
    refine lv_istore_n (lv' := [(2, .int t0), (0, .ref (ad 0)), (1, .int x1)]) hx hb dX8_joinedTo_9 rfl hl (by decide) rfl (fun ls hl => ?_)
    refine lv_iconst (v := (1 : Int32)) hx hb dX8_joinedTo_10 (by decide) ?_
    refine lv_istore_n (lv' := [(3, .int (1 : Int32)), (2, .int t0), (0, .ref (ad 0)), (1, .int x1)]) hx hb dX8_joinedTo_11 rfl hl (by decide) rfl (fun ls hl => ?_)
    exact hJ12 x1 t0 (1 : Int32)   h _ _ _ hP hD hS (lv_sub hl [2, 3, 1, 0] rfl)
  unfold wp_X8_joinedTo at h
  refine lv_iload_n hx hb dX8_joinedTo_0 rfl (lv_at hl 1 rfl) ?_
  refine lv_if_le (tgt := 8) hx hb dX8_joinedTo_1 (by decide) (fun c_12 => ?_) (fun c_12 => ?_)
  · have h := h.1 c_12
    refine lv_iconst (v := (0 : Int32)) hx hb dX8_joinedTo_8 (by decide) ?_
    exact hJ9 x1 (0 : Int32)   h _ _ _ hP hD hS (lv_sub hl [0, 1] rfl)
  · have h := h.2 c_12
    refine lv_iconst (v := (1 : Int32)) hx hb dX8_joinedTo_4 (by decide) ?_
    refine lv_goto (tgt := 9) hx hb dX8_joinedTo_5 (by decide) ?_
    exact hJ9 x1 (1 : Int32)   h _ _ _ hP hD hS (lv_sub hl [0, 1] rfl)
set_option maxHeartbeats 4000000 in
set_option maxRecDepth 100000 in
theorem c_X8_toldOfTree (l : Launch) (D : va_G) (cy : Nat → ClassId) (ad : Nat → Nat) (sz : Nat) (m_said : Int32) (m_waved : Int32) (m_places : Int32) (m_end : Int32) (m_joints : Int32) (m_netPlaces : Int32) (m_begin : Int32) (m_finish : Int32) (m_rounds : Int32) (m_sews : Int32) (m_parent : Nat → Int32) (m_deep : Nat → Int32) (x1 : Int32) {Q : Int32 → Prop} (h : wp_X8_toldOfTree x1 m_places m_end m_parent m_deep Q) : Met l yX8_toldOfTree (wsU yX8_toldOfTree cX8_toldOfTree 5 (some .int)) { frames := 1, cells := 0, slots := 0, locals := 23 } (va_Pc [.ref (ad 0), .int x1] (zB D vwCl (tyU cy) [((ad 0), oX8 ad m_said m_waved m_places m_end m_joints m_netPlaces m_begin m_finish m_rounds m_sews), ((ad 12), aI cy 13 m_parent), ((ad 14), aI cy 13 m_deep)] sz)) ((fun A => va_Qi (fun (r : Int32) (_ : Unit) => Q r ) (zE D vwCl A (fun (_ : Unit) => [((ad 0), oX8 ad m_said m_waved m_places m_end m_joints m_netPlaces m_begin m_finish m_rounds m_sews), ((ad 12), aI cy 13 m_parent), ((ad 14), aI cy 13 m_deep)])) A) (va_A [((ad 0), oX8 ad m_said m_waved m_places m_end m_joints m_netPlaces m_begin m_finish m_rounds m_sews), ((ad 12), aI cy 13 m_parent), ((ad 14), aI cy 13 m_deep)] sz)) 0 0 (va_A [((ad 0), oX8 ad m_said m_waved m_places m_end m_joints m_netPlaces m_begin m_finish m_rounds m_sews), ((ad 12), aI cy 13 m_parent), ((ad 14), aI cy 13 m_deep)] sz) := by
  refine z_ofX (fun A => va_Qi (fun (r : Int32) (_ : Unit) => Q r ) (zE D vwCl A (fun (_ : Unit) => [((ad 0), oX8 ad m_said m_waved m_places m_end m_joints m_netPlaces m_begin m_finish m_rounds m_sews), ((ad 12), aI cy 13 m_parent), ((ad 14), aI cy 13 m_deep)])) A) (by decide) (Nat.le_of_ble_eq_true rfl) (fun p e s m below meth c A ls hx hb hr hml hown hts hlocks hK hPW hA hP hD hS hl => ?_)
  have hl : lv_has ls 5 [(0, .ref (ad 0)), (1, .int x1)] := hl
  have hown : s.vm.findClass RX8 = some m.cls := hown
  generalize hArg : ([.ref (ad 0), .int x1] : List Value).toArray = args at hts ⊢
  have hJ55 : ∀ (x1 : Int32) (x2 : Int32) (x4 : Int32) (t0 : Int32) (t1 : Int32) (rc7 : Int32 → Int32 → Int32 → Prop) (hrc7 : ∀ (x2 : Int32) (x3 : Int32) (x4 : Int32), rc7 x2 x3 x4 → ∀ (H : Heap) (locs : List Loc) (ls : Array Slot), va_P D vwCl [((ad 0), oX8 ad m_said m_waved m_places m_end m_joints m_netPlaces m_begin m_finish m_rounds m_sews), ((ad 12), aI cy 13 m_parent), ((ad 14), aI cy 13 m_deep)] H → va_D A [((ad 0), oX8 ad m_said m_waved m_places m_end m_joints m_netPlaces m_begin m_finish m_rounds m_sews), ((ad 12), aI cy 13 m_parent), ((ad 14), aI cy 13 m_deep)] → va_S A s.heap H locs → lv_has ls 5 [(0, .ref (ad 0)), (1, .int x1), (2, .int x2), (3, .int x3), (4, .int x4)] → W p l e { frames := 1, cells := 0, slots := 0, locals := 23 } s m args below meth c H locs 0 0 (MQ below ((fun A => va_Qi (fun (r : Int32) (_ : Unit) => Q r ) (zE D vwCl A (fun (_ : Unit) => [((ad 0), oX8 ad m_said m_waved m_places m_end m_joints m_netPlaces m_begin m_finish m_rounds m_sews), ((ad 12), aI cy 13 m_parent), ((ad 14), aI cy 13 m_deep)])) A) A) args s 0 0 A) (F0 m 7 ls [])), wp_X8_toldOfTree_55 m_places m_end m_parent m_deep x1 x2 x4 t0 t1 rc7 Q → ∀ (H : Heap) (locs : List Loc) (ls : Array Slot), va_P D vwCl [((ad 0), oX8 ad m_said m_waved m_places m_end m_joints m_netPlaces m_begin m_finish m_rounds m_sews), ((ad 12), aI cy 13 m_parent), ((ad 14), aI cy 13 m_deep)] H → va_D A [((ad 0), oX8 ad m_said m_waved m_places m_end m_joints m_netPlaces m_begin m_finish m_rounds m_sews), ((ad 12), aI cy 13 m_parent), ((ad 14), aI cy 13 m_deep)] → va_S A s.heap H locs → lv_has ls 5 [(0, .ref (ad 0)), (1, .int x1), (2, .int x2), (4, .int x4)] → W p l e { frames := 1, cells := 0, slots := 0, locals := 23 } s m args below meth c H locs 0 0 (MQ below ((fun A => va_Qi (fun (r : Int32) (_ : Unit) => Q r ) (zE D vwCl A (fun (_ : Unit) => [((ad 0), oX8 ad m_said m_waved m_places m_end m_joints m_netPlaces m_begin m_finish m_rounds m_sews), ((ad 12), aI cy 13 m_parent), ((ad 14), aI cy 13 m_deep)])) A) A) args s 0 0 A) (F0 m 55 ls [.int t1, .int t0]) := by
    intro x1 x2 x4 t0 t1 rc7 hrc7  h H locs ls hP hD hS hl
    unfold wp_X8_toldOfTree_55 at h
    refine lv_iadd hx hb dX8_toldOfTree_55 ?_
    refine lv_topi (fun x3_13 e_x3_13 => ?_)
    have h := h x3_13 e_x3_13
    refine lv_istore_n (lv' := [(3, .int x3_13), (0, .ref (ad 0)), (1, .int x1), (2, .int x2), (4, .int x4)]) hx hb dX8_toldOfTree_56 rfl hl (by decide) rfl (fun ls hl => ?_)
    obtain ⟨x4_14, e_x4_14⟩ : ∃ y : Int32, y = x4 + (1 : Int32) := ⟨_, rfl⟩
    refine lv_iinc (v := x4_14) (lv' := [(4, .int x4_14), (3, .int x3_13), (0, .ref (ad 0)), (1, .int x1), (2, .int x2)]) hx hb dX8_toldOfTree_57 hl (k := 4) rfl (by rw [e_x4_14]; rfl) (by decide) rfl (fun ls hl => ?_)
    have h := h x4_14 e_x4_14
    refine lv_goto (tgt := 7) hx hb dX8_toldOfTree_60 (by decide) ?_
    exact hrc7 x2 x3_13 x4_14 h _ _ _ hP hD hS (lv_sub hl [2, 3, 4, 1, 0] rfl)
  have hJ38 : ∀ (x1 : Int32) (x3 : Int32) (x4 : Int32) (t0 : Int32) (rc7 : Int32 → Int32 → Int32 → Prop) (hrc7 : ∀ (x2 : Int32) (x3 : Int32) (x4 : Int32), rc7 x2 x3 x4 → ∀ (H : Heap) (locs : List Loc) (ls : Array Slot), va_P D vwCl [((ad 0), oX8 ad m_said m_waved m_places m_end m_joints m_netPlaces m_begin m_finish m_rounds m_sews), ((ad 12), aI cy 13 m_parent), ((ad 14), aI cy 13 m_deep)] H → va_D A [((ad 0), oX8 ad m_said m_waved m_places m_end m_joints m_netPlaces m_begin m_finish m_rounds m_sews), ((ad 12), aI cy 13 m_parent), ((ad 14), aI cy 13 m_deep)] → va_S A s.heap H locs → lv_has ls 5 [(0, .ref (ad 0)), (1, .int x1), (2, .int x2), (3, .int x3), (4, .int x4)] → W p l e { frames := 1, cells := 0, slots := 0, locals := 23 } s m args below meth c H locs 0 0 (MQ below ((fun A => va_Qi (fun (r : Int32) (_ : Unit) => Q r ) (zE D vwCl A (fun (_ : Unit) => [((ad 0), oX8 ad m_said m_waved m_places m_end m_joints m_netPlaces m_begin m_finish m_rounds m_sews), ((ad 12), aI cy 13 m_parent), ((ad 14), aI cy 13 m_deep)])) A) A) args s 0 0 A) (F0 m 7 ls [])), wp_X8_toldOfTree_38 m_places m_end m_parent m_deep x1 x3 x4 t0 rc7 Q → ∀ (H : Heap) (locs : List Loc) (ls : Array Slot), va_P D vwCl [((ad 0), oX8 ad m_said m_waved m_places m_end m_joints m_netPlaces m_begin m_finish m_rounds m_sews), ((ad 12), aI cy 13 m_parent), ((ad 14), aI cy 13 m_deep)] H → va_D A [((ad 0), oX8 ad m_said m_waved m_places m_end m_joints m_netPlaces m_begin m_finish m_rounds m_sews), ((ad 12), aI cy 13 m_parent), ((ad 14), aI cy 13 m_deep)] → va_S A s.heap H locs → lv_has ls 5 [(0, .ref (ad 0)), (1, .int x1), (3, .int x3), (4, .int x4)] → W p l e { frames := 1, cells := 0, slots := 0, locals := 23 } s m args below meth c H locs 0 0 (MQ below ((fun A => va_Qi (fun (r : Int32) (_ : Unit) => Q r ) (zE D vwCl A (fun (_ : Unit) => [((ad 0), oX8 ad m_said m_waved m_places m_end m_joints m_netPlaces m_begin m_finish m_rounds m_sews), ((ad 12), aI cy 13 m_parent), ((ad 14), aI cy 13 m_deep)])) A) A) args s 0 0 A) (F0 m 38 ls [.int t0]) := by
    intro x1 x3 x4 t0 rc7 hrc7  h H locs ls hP hD hS hl
    unfold wp_X8_toldOfTree_38 at h
    refine lv_istore_n (lv' := [(2, .int t0), (0, .ref (ad 0)), (1, .int x1), (3, .int x3), (4, .int x4)]) hx hb dX8_toldOfTree_38 rfl hl (by decide) rfl (fun ls hl => ?_)
    refine lv_iload_n hx hb dX8_toldOfTree_39 rfl (lv_at hl 3 rfl) ?_
    refine lv_aload_n hx hb dX8_toldOfTree_40 rfl (lv_at hl 1 rfl) ?_
    refine lv_iload hx hb dX8_toldOfTree_41 (lv_at hl 4 rfl) ?_
    refine zc_Vi (As := [.int x4]) (rest := [.int x3]) (wc := [((ad 0), oX8 ad m_said m_waved m_places m_end m_joints m_netPlaces m_begin m_finish m_rounds m_sews), ((ad 12), aI cy 13 m_parent)]) (wr := [((ad 14), aI cy 13 m_deep)]) hx hb hml hown hts hK hPW hA hl.1 hP hD hS ⟨Nat.zero_le _, Nat.zero_le _⟩ [0, 1] [2] rfl rfl (by decide) (c_X8_joinedTo l D cy (sz := _) (x1 := x4) (ad := ad) (m_said := m_said) (m_waved := m_waved) (m_places := m_places) (m_end := m_end) (m_joints := m_joints) (m_netPlaces := m_netPlaces) (m_begin := m_begin) (m_finish := m_finish) (m_rounds := m_rounds) (m_sews := m_sews) (m_parent := m_parent) (h := h)) k_X8_213 ⟨rfl, rfl, (Nat.le_of_ble_eq_true rfl), (Nat.le_of_ble_eq_true rfl)⟩ rfl rfl rfl rfl (Nat.le_of_ble_eq_true rfl) dX8_toldOfTree_43 (fun r_15 _ H locs h hP hD hS => ?_)
    have hP : va_P D vwCl [((ad 14), aI cy 13 m_deep), ((ad 0), oX8 ad m_said m_waved m_places m_end m_joints m_netPlaces m_begin m_finish m_rounds m_sews), ((ad 12), aI cy 13 m_parent)] H := hP
    have hD : va_D A [((ad 14), aI cy 13 m_deep), ((ad 0), oX8 ad m_said m_waved m_places m_end m_joints m_netPlaces m_begin m_finish m_rounds m_sews), ((ad 12), aI cy 13 m_parent)] := hD
    refine lv_iconst (v := (1 : Int32)) hx hb dX8_toldOfTree_46 (by decide) ?_
    refine lv_icmp_ne (tgt := 54) hx hb dX8_toldOfTree_47 (by decide) (fun c_16 => ?_) (fun c_16 => ?_)
    · have h := h.1 c_16
      refine lv_iconst (v := (0 : Int32)) hx hb dX8_toldOfTree_54 (by decide) ?_
      exact hJ55 x1 t0 x4 x3 (0 : Int32) _ hrc7  h _ _ _ (hP.sub [1, 2, 0] rfl) (hD.sub [1, 2, 0] (by decide) rfl) hS (lv_sub hl [1, 2, 0, 4] rfl)
    · have h := h.2 c_16
      refine lv_iconst (v := (1 : Int32)) hx hb dX8_toldOfTree_50 (by decide) ?_
      refine lv_goto (tgt := 55) hx hb dX8_toldOfTree_51 (by decide) ?_
      exact hJ55 x1 t0 x4 x3 (1 : Int32) _ hrc7  h _ _ _ (hP.sub [1, 2, 0] rfl) (hD.sub [1, 2, 0] (by decide) rfl) hS (lv_sub hl [1, 2, 0, 4] rfl)
  have hJ7 : ∀ (x1 : Int32) (x2 : Int32) (x3 : Int32) (x4 : Int32), wp_X8_toldOfTree_7 m_places m_end m_parent m_deep x1  Q x2 x3 x4 → ∀ (H : Heap) (locs : List Loc) (ls : Array Slot), va_P D vwCl [((ad 0), oX8 ad m_said m_waved m_places m_end m_joints m_netPlaces m_begin m_finish m_rounds m_sews), ((ad 12), aI cy 13 m_parent), ((ad 14), aI cy 13 m_deep)] H → va_D A [((ad 0), oX8 ad m_said m_waved m_places m_end m_joints m_netPlaces m_begin m_finish m_rounds m_sews), ((ad 12), aI cy 13 m_parent), ((ad 14), aI cy 13 m_deep)] → va_S A s.heap H locs → lv_has ls 5 [(0, .ref (ad 0)), (1, .int x1), (2, .int x2), (3, .int x3), (4, .int x4)] → W p l e { frames := 1, cells := 0, slots := 0, locals := 23 } s m args below meth c H locs 0 0 (MQ below ((fun A => va_Qi (fun (r : Int32) (_ : Unit) => Q r ) (zE D vwCl A (fun (_ : Unit) => [((ad 0), oX8 ad m_said m_waved m_places m_end m_joints m_netPlaces m_begin m_finish m_rounds m_sews), ((ad 12), aI cy 13 m_parent), ((ad 14), aI cy 13 m_deep)])) A) A) args s 0 0 A) (F0 m 7 ls []) := by
    intro x1 x2 x3 x4   h
    obtain ⟨nn, h⟩ := h
    have key : ∀ (nn : Nat) (x2 : Int32) (x3 : Int32) (x4 : Int32), lpW3 (wb_X8_toldOfTree_7 m_places m_end m_parent m_deep x1  Q) nn x2 x3 x4 → ∀ (H : Heap) (locs : List Loc) (ls : Array Slot), va_P D vwCl [((ad 0), oX8 ad m_said m_waved m_places m_end m_joints m_netPlaces m_begin m_finish m_rounds m_sews), ((ad 12), aI cy 13 m_parent), ((ad 14), aI cy 13 m_deep)] H → va_D A [((ad 0), oX8 ad m_said m_waved m_places m_end m_joints m_netPlaces m_begin m_finish m_rounds m_sews), ((ad 12), aI cy 13 m_parent), ((ad 14), aI cy 13 m_deep)] → va_S A s.heap H locs → lv_has ls 5 [(0, .ref (ad 0)), (1, .int x1), (2, .int x2), (3, .int x3), (4, .int x4)] → W p l e { frames := 1, cells := 0, slots := 0, locals := 23 } s m args below meth c H locs 0 0 (MQ below ((fun A => va_Qi (fun (r : Int32) (_ : Unit) => Q r ) (zE D vwCl A (fun (_ : Unit) => [((ad 0), oX8 ad m_said m_waved m_places m_end m_joints m_netPlaces m_begin m_finish m_rounds m_sews), ((ad 12), aI cy 13 m_parent), ((ad 14), aI cy 13 m_deep)])) A) A) args s 0 0 A) (F0 m 7 ls []) := by
      intro nn
      induction nn with
      | zero => intro x2 x3 x4 h; exact h.elim
      | succ nn hrc7 =>
        intro x2 x3 x4 h H locs ls hP hD hS hl
        have h : wb_X8_toldOfTree_7 m_places m_end m_parent m_deep x1  Q (lpW3 (wb_X8_toldOfTree_7 m_places m_end m_parent m_deep x1  Q) nn) x2 x3 x4 := h
        unfold wb_X8_toldOfTree_7 at h
        refine lv_iload hx hb dX8_toldOfTree_7 (lv_at hl 4 rfl) ?_
        refine lv_aload_n hx hb dX8_toldOfTree_9 rfl (lv_at hl 0 rfl) ?_
        refine va_get (D := D) (ci := 7) (v := .int m_places) (C := RX8) (T := TX8) (N := 35) hx hb hts iX8 hown hK hP 0 rfl rfl 17 (Nat.le_of_ble_eq_true rfl) (hts _ fl_X8_199) (fun _ h9 => h9) rfl dX8_toldOfTree_10 ?_
        refine lv_icmp_ge (tgt := 63) hx hb dX8_toldOfTree_13 (by decide) (fun c_17 => ?_) (fun c_17 => ?_)
        · have h := h.1 c_17
          refine lv_iload_n hx hb dX8_toldOfTree_63 rfl (lv_at hl 1 rfl) ?_
          refine lv_if_ne (tgt := 74) hx hb dX8_toldOfTree_64 (by decide) (fun c_18 => ?_) (fun c_18 => ?_)
          · have h := h.1 c_18
            refine lv_iload_n hx hb dX8_toldOfTree_74 rfl (lv_at hl 1 rfl) ?_
            refine lv_iconst (v := (1 : Int32)) hx hb dX8_toldOfTree_75 (by decide) ?_
            refine lv_icmp_ne (tgt := 91) hx hb dX8_toldOfTree_76 (by decide) (fun c_19 => ?_) (fun c_19 => ?_)
            · have h := h.1 c_19
              refine lv_iload_n hx hb dX8_toldOfTree_91 rfl (lv_at hl 1 rfl) ?_
              refine lv_iconst (v := (2 : Int32)) hx hb dX8_toldOfTree_92 (by decide) ?_
              refine lv_icmp_ne (tgt := 100) hx hb dX8_toldOfTree_93 (by decide) (fun c_20 => ?_) (fun c_20 => ?_)
              · have h := h.1 c_20
                refine lv_iload_n hx hb dX8_toldOfTree_100 rfl (lv_at hl 3 rfl) ?_
                exact z_iret () hx hb hr hlocks h hP hD hS dX8_toldOfTree_101
              · have h := h.2 c_20
                refine lv_iload_n hx hb dX8_toldOfTree_96 rfl (lv_at hl 2 rfl) ?_
                refine lv_goto (tgt := 101) hx hb dX8_toldOfTree_97 (by decide) ?_
                exact z_iret () hx hb hr hlocks h hP hD hS dX8_toldOfTree_101
            · have h := h.2 c_19
              refine lv_aload_n hx hb dX8_toldOfTree_79 rfl (lv_at hl 0 rfl) ?_
              refine va_get (D := D) (ci := 7) (v := .ref (ad 14)) (C := RX8) (T := TX8) (N := 35) hx hb hts iX8 hown hK hP 0 rfl rfl 15 (Nat.le_of_ble_eq_true rfl) (hts _ fl_X8_50) (fun _ h9 => h9) rfl dX8_toldOfTree_80 ?_
              refine lv_aload_n hx hb dX8_toldOfTree_83 rfl (lv_at hl 0 rfl) ?_
              refine va_get (D := D) (ci := 7) (v := .int m_end) (C := RX8) (T := TX8) (N := 35) hx hb hts iX8 hown hK hP 0 rfl rfl 18 (Nat.le_of_ble_eq_true rfl) (hts _ fl_X8_204) (fun _ h9 => h9) rfl dX8_toldOfTree_84 ?_
              obtain ⟨hi_21, h⟩ := h
              refine va_iald hx hb hK hP 2 0 rfl rfl hi_21 dX8_toldOfTree_87 ?_
              refine lv_goto (tgt := 101) hx hb dX8_toldOfTree_88 (by decide) ?_
              exact z_iret () hx hb hr hlocks h hP hD hS dX8_toldOfTree_101
          · have h := h.2 c_18
            refine lv_aload_n hx hb dX8_toldOfTree_67 rfl (lv_at hl 0 rfl) ?_
            refine va_get (D := D) (ci := 7) (v := .int m_places) (C := RX8) (T := TX8) (N := 35) hx hb hts iX8 hown hK hP 0 rfl rfl 17 (Nat.le_of_ble_eq_true rfl) (hts _ fl_X8_199) (fun _ h9 => h9) rfl dX8_toldOfTree_68 ?_
            refine lv_goto (tgt := 101) hx hb dX8_toldOfTree_71 (by decide) ?_
            exact z_iret () hx hb hr hlocks h hP hD hS dX8_toldOfTree_101
        · have h := h.2 c_17
          refine lv_aload_n hx hb dX8_toldOfTree_16 rfl (lv_at hl 0 rfl) ?_
          refine va_get (D := D) (ci := 7) (v := .ref (ad 14)) (C := RX8) (T := TX8) (N := 35) hx hb hts iX8 hown hK hP 0 rfl rfl 15 (Nat.le_of_ble_eq_true rfl) (hts _ fl_X8_50) (fun _ h9 => h9) rfl dX8_toldOfTree_17 ?_
          refine lv_iload hx hb dX8_toldOfTree_20 (lv_at hl 4 rfl) ?_
          obtain ⟨hi_22, h⟩ := h
          refine va_iald hx hb hK hP 2 0 rfl rfl hi_22 dX8_toldOfTree_22 ?_
          refine lv_iload_n hx hb dX8_toldOfTree_23 rfl (lv_at hl 2 rfl) ?_
          refine lv_icmp_le (tgt := 37) hx hb dX8_toldOfTree_24 (by decide) (fun c_23 => ?_) (fun c_23 => ?_)
          · have h := h.1 c_23
            refine lv_iload_n hx hb dX8_toldOfTree_37 rfl (lv_at hl 2 rfl) ?_
            exact hJ38 x1 x3 x4 x2 _ hrc7  h _ _ _ hP hD hS (lv_sub hl [0, 1, 3, 4] rfl)
          · have h := h.2 c_23
            refine lv_aload_n hx hb dX8_toldOfTree_27 rfl (lv_at hl 0 rfl) ?_
            refine va_get (D := D) (ci := 7) (v := .ref (ad 14)) (C := RX8) (T := TX8) (N := 35) hx hb hts iX8 hown hK hP 0 rfl rfl 15 (Nat.le_of_ble_eq_true rfl) (hts _ fl_X8_50) (fun _ h9 => h9) rfl dX8_toldOfTree_28 ?_
            refine lv_iload hx hb dX8_toldOfTree_31 (lv_at hl 4 rfl) ?_
            obtain ⟨hi_24, h⟩ := h
            refine va_iald hx hb hK hP 2 0 rfl rfl hi_24 dX8_toldOfTree_33 ?_
            refine lv_goto (tgt := 38) hx hb dX8_toldOfTree_34 (by decide) ?_
            exact hJ38 x1 x3 x4 (m_deep x4.toNatClampNeg) _ hrc7  h _ _ _ hP hD hS (lv_sub hl [0, 1, 3, 4] rfl)
    exact key nn x2 x3 x4 h
  unfold wp_X8_toldOfTree at h
  refine lv_iconst (v := (0 : Int32)) hx hb dX8_toldOfTree_0 (by decide) ?_
  refine lv_istore_n (lv' := [(2, .int (0 : Int32)), (0, .ref (ad 0)), (1, .int x1)]) hx hb dX8_toldOfTree_1 rfl hl (by decide) rfl (fun ls hl => ?_)
  refine lv_iconst (v := (0 : Int32)) hx hb dX8_toldOfTree_2 (by decide) ?_
  refine lv_istore_n (lv' := [(3, .int (0 : Int32)), (2, .int (0 : Int32)), (0, .ref (ad 0)), (1, .int x1)]) hx hb dX8_toldOfTree_3 rfl hl (by decide) rfl (fun ls hl => ?_)
  refine lv_iconst (v := (0 : Int32)) hx hb dX8_toldOfTree_4 (by decide) ?_
  refine lv_istore (lv' := [(4, .int (0 : Int32)), (3, .int (0 : Int32)), (2, .int (0 : Int32)), (0, .ref (ad 0)), (1, .int x1)]) hx hb dX8_toldOfTree_5 hl (by decide) rfl (fun ls hl => ?_)
  exact hJ7 x1 (0 : Int32) (0 : Int32) (0 : Int32)   h _ _ _ hP hD hS (lv_sub hl [3, 4, 2, 1, 0] rfl)
set_option maxHeartbeats 4000000 in
set_option maxRecDepth 100000 in
theorem c_X8_tree (l : Launch) (D : va_G) (cy : Nat → ClassId) (ad : Nat → Nat) (sz : Nat) (m_said : Int32) (m_waved : Int32) (m_places : Int32) (m_end : Int32) (m_joints : Int32) (m_netPlaces : Int32) (m_begin : Int32) (m_finish : Int32) (m_rounds : Int32) (m_sews : Int32) (m_state : Nat → Int32) (m_parent : Nat → Int32) (m_letter : Nat → Int32) (m_deep : Nat → Int32) (m_row : Nat → Int64) (x1 : Int32) (x2 : Int32) {Q : Int32 → Int32 → Int32 → (Nat → Int32) → (Nat → Int32) → (Nat → Int32) → (Nat → Int64) → Prop} (h : wp_X8_tree x1 x2 m_places m_end m_state m_parent m_letter m_deep m_row Q) : Met l yX8_tree (wsU yX8_tree cX8_tree 3 (some .int)) { frames := 2, cells := 0, slots := 0, locals := 47 } (va_Pc [.ref (ad 0), .int x1, .int x2] (zB D vwCl (tyU cy) [((ad 0), oX8 ad m_said m_waved m_places m_end m_joints m_netPlaces m_begin m_finish m_rounds m_sews), ((ad 1), aI cy 112 m_state), ((ad 12), aI cy 13 m_parent), ((ad 13), aI cy 13 m_letter), ((ad 14), aI cy 13 m_deep), ((ad 15), aJ cy 13 m_row)] sz)) ((fun A => va_Qi (fun (r : Int32) (u : Int32 × Int32 × (Nat → Int32) × (Nat → Int32) × (Nat → Int32) × (Nat → Int64)) => ∃ (z0 : Int32) (z1 : Int32) (z2 : Nat → Int32) (z3 : Nat → Int32) (z4 : Nat → Int32) (z5 : Nat → Int64), u = (z0, z1, z2, z3, z4, z5) ∧ Q r z0 z1 z2 z3 z4 z5) (zE D vwCl A (fun (u : Int32 × Int32 × (Nat → Int32) × (Nat → Int32) × (Nat → Int32) × (Nat → Int64)) => [((ad 0), oX8 ad m_said m_waved (u.1) (u.2.1) m_joints m_netPlaces m_begin m_finish m_rounds m_sews), ((ad 1), aI cy 112 m_state), ((ad 12), aI cy 13 (u.2.2.1)), ((ad 13), aI cy 13 (u.2.2.2.1)), ((ad 14), aI cy 13 (u.2.2.2.2.1)), ((ad 15), aJ cy 13 (u.2.2.2.2.2))])) A) (va_A [((ad 0), oX8 ad m_said m_waved m_places m_end m_joints m_netPlaces m_begin m_finish m_rounds m_sews), ((ad 1), aI cy 112 m_state), ((ad 12), aI cy 13 m_parent), ((ad 13), aI cy 13 m_letter), ((ad 14), aI cy 13 m_deep), ((ad 15), aJ cy 13 m_row)] sz)) 0 0 (va_A [((ad 0), oX8 ad m_said m_waved m_places m_end m_joints m_netPlaces m_begin m_finish m_rounds m_sews), ((ad 1), aI cy 112 m_state), ((ad 12), aI cy 13 m_parent), ((ad 13), aI cy 13 m_letter), ((ad 14), aI cy 13 m_deep), ((ad 15), aJ cy 13 m_row)] sz) := by
  refine z_ofX (fun A => va_Qi (fun (r : Int32) (u : Int32 × Int32 × (Nat → Int32) × (Nat → Int32) × (Nat → Int32) × (Nat → Int64)) => ∃ (z0 : Int32) (z1 : Int32) (z2 : Nat → Int32) (z3 : Nat → Int32) (z4 : Nat → Int32) (z5 : Nat → Int64), u = (z0, z1, z2, z3, z4, z5) ∧ Q r z0 z1 z2 z3 z4 z5) (zE D vwCl A (fun (u : Int32 × Int32 × (Nat → Int32) × (Nat → Int32) × (Nat → Int32) × (Nat → Int64)) => [((ad 0), oX8 ad m_said m_waved (u.1) (u.2.1) m_joints m_netPlaces m_begin m_finish m_rounds m_sews), ((ad 1), aI cy 112 m_state), ((ad 12), aI cy 13 (u.2.2.1)), ((ad 13), aI cy 13 (u.2.2.2.1)), ((ad 14), aI cy 13 (u.2.2.2.2.1)), ((ad 15), aJ cy 13 (u.2.2.2.2.2))])) A) (by decide) (Nat.le_of_ble_eq_true rfl) (fun p e s m below meth c A ls hx hb hr hml hown hts hlocks hK hPW hA hP hD hS hl => ?_)
  have hl : lv_has ls 3 [(0, .ref (ad 0)), (1, .int x1), (2, .int x2)] := hl
  have hown : s.vm.findClass RX8 = some m.cls := hown
  unfold wp_X8_tree at h
  refine lv_iload_n hx hb dX8_tree_0 rfl (lv_at hl 1 rfl) ?_
  refine zc_S0 (As := [.int x1]) (rest := []) hx hb hml hown hts hK hPW hA hl.1 hP hS ⟨Nat.zero_le _, Nat.zero_le _⟩ (c_X8_isWord l D cy (sz := _) (x0 := x1) (h := h)) k_X8_151 ⟨rfl, rfl, (Nat.le_of_ble_eq_true rfl), (Nat.le_of_ble_eq_true rfl)⟩ rfl rfl (Nat.le_of_ble_eq_true rfl) dX8_tree_1 (fun r_7 H locs h hP hS => ?_)
  refine lv_if_ne (tgt := 9) hx hb dX8_tree_4 (by decide) (fun c_8 => ?_) (fun c_8 => ?_)
  · have h := h.1 c_8
    refine lv_iload_n hx hb dX8_tree_9 rfl (lv_at hl 2 rfl) ?_
    refine lv_iconst (v := (0 : Int32)) hx hb dX8_tree_10 (by decide) ?_
    refine lv_iconst (v := (3 : Int32)) hx hb dX8_tree_11 (by decide) ?_
    refine zc_S0 (As := [.int x2, .int (0 : Int32), .int (3 : Int32)]) (rest := []) hx hb hml hown hts hK hPW hA hl.1 hP hS ⟨Nat.zero_le _, Nat.zero_le _⟩ (c_X8_in l D cy (sz := _) (x0 := x2) (x1 := (0 : Int32)) (x2 := (3 : Int32)) (h := h)) k_X8_91 ⟨rfl, rfl, (Nat.le_of_ble_eq_true rfl), (Nat.le_of_ble_eq_true rfl)⟩ rfl rfl (Nat.le_of_ble_eq_true rfl) dX8_tree_12 (fun r_9 H locs h hP hS => ?_)
    refine lv_if_ne (tgt := 21) hx hb dX8_tree_15 (by decide) (fun c_10 => ?_) (fun c_10 => ?_)
    · have h := h.1 c_10
      refine lv_aload_n hx hb dX8_tree_21 rfl (lv_at hl 0 rfl) ?_
      refine lv_iload_n hx hb dX8_tree_22 rfl (lv_at hl 1 rfl) ?_
      refine zc_Vv (As := [.int x1]) (rest := []) (wc := [((ad 0), oX8 ad m_said m_waved m_places m_end m_joints m_netPlaces m_begin m_finish m_rounds m_sews), ((ad 1), aI cy 112 m_state), ((ad 12), aI cy 13 m_parent), ((ad 13), aI cy 13 m_letter), ((ad 14), aI cy 13 m_deep), ((ad 15), aJ cy 13 m_row)]) (wr := []) hx hb hml hown hts hK hPW hA hl.1 hP hD hS ⟨Nat.zero_le _, Nat.zero_le _⟩ [0, 1, 2, 3, 4, 5] [] rfl rfl (by decide) (c_X8_layTree l D cy (sz := _) (x1 := x1) (ad := ad) (m_said := m_said) (m_waved := m_waved) (m_places := m_places) (m_end := m_end) (m_joints := m_joints) (m_netPlaces := m_netPlaces) (m_begin := m_begin) (m_finish := m_finish) (m_rounds := m_rounds) (m_sews := m_sews) (m_state := m_state) (m_parent := m_parent) (m_letter := m_letter) (m_deep := m_deep) (m_row := m_row) (h := h)) k_X8_216 ⟨rfl, rfl, (Nat.le_of_ble_eq_true rfl), (Nat.le_of_ble_eq_true rfl)⟩ rfl rfl rfl rfl (Nat.le_of_ble_eq_true rfl) dX8_tree_23 (fun u_11 H locs h hP hD hS => ?_)
      obtain ⟨m_places_11, m_end_11, m_parent_11, m_letter_11, m_deep_11, m_row_11, rfl, h⟩ := h
      have hP : va_P D vwCl [((ad 0), oX8 ad m_said m_waved m_places_11 m_end_11 m_joints m_netPlaces m_begin m_finish m_rounds m_sews), ((ad 1), aI cy 112 m_state), ((ad 12), aI cy 13 m_parent_11), ((ad 13), aI cy 13 m_letter_11), ((ad 14), aI cy 13 m_deep_11), ((ad 15), aJ cy 13 m_row_11)] H := hP
      have hD : va_D A [((ad 0), oX8 ad m_said m_waved m_places_11 m_end_11 m_joints m_netPlaces m_begin m_finish m_rounds m_sews), ((ad 1), aI cy 112 m_state), ((ad 12), aI cy 13 m_parent_11), ((ad 13), aI cy 13 m_letter_11), ((ad 14), aI cy 13 m_deep_11), ((ad 15), aJ cy 13 m_row_11)] := hD
      refine lv_aload_n hx hb dX8_tree_26 rfl (lv_at hl 0 rfl) ?_
      refine lv_iload_n hx hb dX8_tree_27 rfl (lv_at hl 2 rfl) ?_
      refine zc_Vi (As := [.int x2]) (rest := []) (wc := [((ad 0), oX8 ad m_said m_waved m_places_11 m_end_11 m_joints m_netPlaces m_begin m_finish m_rounds m_sews), ((ad 12), aI cy 13 m_parent_11), ((ad 14), aI cy 13 m_deep_11)]) (wr := [((ad 1), aI cy 112 m_state), ((ad 13), aI cy 13 m_letter_11), ((ad 15), aJ cy 13 m_row_11)]) hx hb hml hown hts hK hPW hA hl.1 hP hD hS ⟨Nat.zero_le _, Nat.zero_le _⟩ [0, 2, 4] [1, 3, 5] rfl rfl (by decide) (c_X8_toldOfTree l D cy (sz := _) (x1 := x2) (ad := ad) (m_said := m_said) (m_waved := m_waved) (m_places := m_places_11) (m_end := m_end_11) (m_joints := m_joints) (m_netPlaces := m_netPlaces) (m_begin := m_begin) (m_finish := m_finish) (m_rounds := m_rounds) (m_sews := m_sews) (m_parent := m_parent_11) (m_deep := m_deep_11) (h := h)) k_X8_219 ⟨rfl, rfl, (Nat.le_of_ble_eq_true rfl), (Nat.le_of_ble_eq_true rfl)⟩ rfl rfl rfl rfl (Nat.le_of_ble_eq_true rfl) dX8_tree_28 (fun r_12 _ H locs h hP hD hS => ?_)
      have hP : va_P D vwCl [((ad 1), aI cy 112 m_state), ((ad 13), aI cy 13 m_letter_11), ((ad 15), aJ cy 13 m_row_11), ((ad 0), oX8 ad m_said m_waved m_places_11 m_end_11 m_joints m_netPlaces m_begin m_finish m_rounds m_sews), ((ad 12), aI cy 13 m_parent_11), ((ad 14), aI cy 13 m_deep_11)] H := hP
      have hD : va_D A [((ad 1), aI cy 112 m_state), ((ad 13), aI cy 13 m_letter_11), ((ad 15), aJ cy 13 m_row_11), ((ad 0), oX8 ad m_said m_waved m_places_11 m_end_11 m_joints m_netPlaces m_begin m_finish m_rounds m_sews), ((ad 12), aI cy 13 m_parent_11), ((ad 14), aI cy 13 m_deep_11)] := hD
      exact z_iret (m_places_11, m_end_11, m_parent_11, m_letter_11, m_deep_11, m_row_11) hx hb hr hlocks ⟨m_places_11, m_end_11, m_parent_11, m_letter_11, m_deep_11, m_row_11, rfl, h⟩ (hP.sub [3, 0, 4, 1, 5, 2] rfl) (hD.sub [3, 0, 4, 1, 5, 2] (by decide) rfl) hS dX8_tree_31
    · have h := h.2 c_10
      refine lv_bipush (v := (-2 : Int32)) hx hb dX8_tree_18 (by decide) ?_
      exact z_iret (m_places, m_end, m_parent, m_letter, m_deep, m_row) hx hb hr hlocks ⟨m_places, m_end, m_parent, m_letter, m_deep, m_row, rfl, h⟩ hP hD hS dX8_tree_20
  · have h := h.2 c_8
    refine lv_iconst (v := (-1 : Int32)) hx hb dX8_tree_7 (by decide) ?_
    exact z_iret (m_places, m_end, m_parent, m_letter, m_deep, m_row) hx hb hr hlocks ⟨m_places, m_end, m_parent, m_letter, m_deep, m_row, rfl, h⟩ hP hD hS dX8_tree_8
set_option maxHeartbeats 4000000 in
set_option maxRecDepth 100000 in
theorem c_X8_isKeptRow (l : Launch) (D : va_G) (cy : Nat → ClassId) (ad : Nat → Nat) (sz : Nat) (m_said : Int32) (m_waved : Int32) (m_places : Int32) (m_end : Int32) (m_joints : Int32) (m_netPlaces : Int32) (m_begin : Int32) (m_finish : Int32) (m_rounds : Int32) (m_sews : Int32) (m_kept : Nat → Int64) (x1 : Int64) (x3 : Int32) {Q : Int32 → Prop} (h : wp_X8_isKeptRow x1 x3 m_kept Q) : Met l yX8_isKeptRow (wsU yX8_isKeptRow cX8_isKeptRow 6 (some .boolean)) { frames := 0, cells := 0, slots := 0, locals := 0 } (va_Pc [.ref (ad 0), .long x1, .int x3] (zB D vwCl (tyU cy) [((ad 0), oX8 ad m_said m_waved m_places m_end m_joints m_netPlaces m_begin m_finish m_rounds m_sews), ((ad 16), aJ cy 13 m_kept)] sz)) ((fun A => va_Qi (fun (r : Int32) (_ : Unit) => Q r ) (zE D vwCl A (fun (_ : Unit) => [((ad 0), oX8 ad m_said m_waved m_places m_end m_joints m_netPlaces m_begin m_finish m_rounds m_sews), ((ad 16), aJ cy 13 m_kept)])) A) (va_A [((ad 0), oX8 ad m_said m_waved m_places m_end m_joints m_netPlaces m_begin m_finish m_rounds m_sews), ((ad 16), aJ cy 13 m_kept)] sz)) 0 0 (va_A [((ad 0), oX8 ad m_said m_waved m_places m_end m_joints m_netPlaces m_begin m_finish m_rounds m_sews), ((ad 16), aJ cy 13 m_kept)] sz) := by
  refine z_ofX (fun A => va_Qi (fun (r : Int32) (_ : Unit) => Q r ) (zE D vwCl A (fun (_ : Unit) => [((ad 0), oX8 ad m_said m_waved m_places m_end m_joints m_netPlaces m_begin m_finish m_rounds m_sews), ((ad 16), aJ cy 13 m_kept)])) A) (by decide) (Nat.le_of_ble_eq_true rfl) (fun p e s m below meth c A ls hx hb hr hml hown hts hlocks hK hPW hA hP hD hS hl => ?_)
  have hl : lv_has ls 6 [(0, .ref (ad 0)), (1, .long x1), (3, .int x3)] := hl
  have hown : s.vm.findClass RX8 = some m.cls := hown
  generalize hArg : ([.ref (ad 0), .long x1, .int x3] : List Value).toArray = args at hts ⊢
  have hJ34 : ∀ (x1 : Int64) (x3 : Int32) (x5 : Int32) (t0 : Int32) (rc6 : Int32 → Int32 → Prop) (hrc6 : ∀ (x4 : Int32) (x5 : Int32), rc6 x4 x5 → ∀ (H : Heap) (locs : List Loc) (ls : Array Slot), va_P D vwCl [((ad 0), oX8 ad m_said m_waved m_places m_end m_joints m_netPlaces m_begin m_finish m_rounds m_sews), ((ad 16), aJ cy 13 m_kept)] H → va_D A [((ad 0), oX8 ad m_said m_waved m_places m_end m_joints m_netPlaces m_begin m_finish m_rounds m_sews), ((ad 16), aJ cy 13 m_kept)] → va_S A s.heap H locs → lv_has ls 6 [(0, .ref (ad 0)), (1, .long x1), (3, .int x3), (4, .int x4), (5, .int x5)] → W p l e { frames := 0, cells := 0, slots := 0, locals := 0 } s m args below meth c H locs 0 0 (MQ below ((fun A => va_Qi (fun (r : Int32) (_ : Unit) => Q r ) (zE D vwCl A (fun (_ : Unit) => [((ad 0), oX8 ad m_said m_waved m_places m_end m_joints m_netPlaces m_begin m_finish m_rounds m_sews), ((ad 16), aJ cy 13 m_kept)])) A) A) args s 0 0 A) (F0 m 6 ls [])), wp_X8_isKeptRow_34 m_kept x1 x3 x5 t0 rc6 Q → ∀ (H : Heap) (locs : List Loc) (ls : Array Slot), va_P D vwCl [((ad 0), oX8 ad m_said m_waved m_places m_end m_joints m_netPlaces m_begin m_finish m_rounds m_sews), ((ad 16), aJ cy 13 m_kept)] H → va_D A [((ad 0), oX8 ad m_said m_waved m_places m_end m_joints m_netPlaces m_begin m_finish m_rounds m_sews), ((ad 16), aJ cy 13 m_kept)] → va_S A s.heap H locs → lv_has ls 6 [(0, .ref (ad 0)), (1, .long x1), (3, .int x3), (5, .int x5)] → W p l e { frames := 0, cells := 0, slots := 0, locals := 0 } s m args below meth c H locs 0 0 (MQ below ((fun A => va_Qi (fun (r : Int32) (_ : Unit) => Q r ) (zE D vwCl A (fun (_ : Unit) => [((ad 0), oX8 ad m_said m_waved m_places m_end m_joints m_netPlaces m_begin m_finish m_rounds m_sews), ((ad 16), aJ cy 13 m_kept)])) A) A) args s 0 0 A) (F0 m 34 ls [.int t0]) := by
    intro x1 x3 x5 t0 rc6 hrc6  h H locs ls hP hD hS hl
    unfold wp_X8_isKeptRow_34 at h
    refine lv_istore (lv' := [(4, .int t0), (0, .ref (ad 0)), (1, .long x1), (3, .int x3), (5, .int x5)]) hx hb dX8_isKeptRow_34 hl (by decide) rfl (fun ls hl => ?_)
    obtain ⟨x5_6, e_x5_6⟩ : ∃ y : Int32, y = x5 + (1 : Int32) := ⟨_, rfl⟩
    refine lv_iinc (v := x5_6) (lv' := [(5, .int x5_6), (4, .int t0), (0, .ref (ad 0)), (1, .long x1), (3, .int x3)]) hx hb dX8_isKeptRow_36 hl (k := 4) rfl (by rw [e_x5_6]; rfl) (by decide) rfl (fun ls hl => ?_)
    have h := h x5_6 e_x5_6
    refine lv_goto (tgt := 6) hx hb dX8_isKeptRow_39 (by decide) ?_
    exact hrc6 t0 x5_6 h _ _ _ hP hD hS (lv_sub hl [2, 3, 4, 1, 0] rfl)
  have hJ6 : ∀ (x1 : Int64) (x3 : Int32) (x4 : Int32) (x5 : Int32), wp_X8_isKeptRow_6 m_kept x1 x3  Q x4 x5 → ∀ (H : Heap) (locs : List Loc) (ls : Array Slot), va_P D vwCl [((ad 0), oX8 ad m_said m_waved m_places m_end m_joints m_netPlaces m_begin m_finish m_rounds m_sews), ((ad 16), aJ cy 13 m_kept)] H → va_D A [((ad 0), oX8 ad m_said m_waved m_places m_end m_joints m_netPlaces m_begin m_finish m_rounds m_sews), ((ad 16), aJ cy 13 m_kept)] → va_S A s.heap H locs → lv_has ls 6 [(0, .ref (ad 0)), (1, .long x1), (3, .int x3), (4, .int x4), (5, .int x5)] → W p l e { frames := 0, cells := 0, slots := 0, locals := 0 } s m args below meth c H locs 0 0 (MQ below ((fun A => va_Qi (fun (r : Int32) (_ : Unit) => Q r ) (zE D vwCl A (fun (_ : Unit) => [((ad 0), oX8 ad m_said m_waved m_places m_end m_joints m_netPlaces m_begin m_finish m_rounds m_sews), ((ad 16), aJ cy 13 m_kept)])) A) A) args s 0 0 A) (F0 m 6 ls []) := by
    intro x1 x3 x4 x5   h
    obtain ⟨nn, h⟩ := h
    have key : ∀ (nn : Nat) (x4 : Int32) (x5 : Int32), lpW2 (wb_X8_isKeptRow_6 m_kept x1 x3  Q) nn x4 x5 → ∀ (H : Heap) (locs : List Loc) (ls : Array Slot), va_P D vwCl [((ad 0), oX8 ad m_said m_waved m_places m_end m_joints m_netPlaces m_begin m_finish m_rounds m_sews), ((ad 16), aJ cy 13 m_kept)] H → va_D A [((ad 0), oX8 ad m_said m_waved m_places m_end m_joints m_netPlaces m_begin m_finish m_rounds m_sews), ((ad 16), aJ cy 13 m_kept)] → va_S A s.heap H locs → lv_has ls 6 [(0, .ref (ad 0)), (1, .long x1), (3, .int x3), (4, .int x4), (5, .int x5)] → W p l e { frames := 0, cells := 0, slots := 0, locals := 0 } s m args below meth c H locs 0 0 (MQ below ((fun A => va_Qi (fun (r : Int32) (_ : Unit) => Q r ) (zE D vwCl A (fun (_ : Unit) => [((ad 0), oX8 ad m_said m_waved m_places m_end m_joints m_netPlaces m_begin m_finish m_rounds m_sews), ((ad 16), aJ cy 13 m_kept)])) A) A) args s 0 0 A) (F0 m 6 ls []) := by
      intro nn
      induction nn with
      | zero => intro x4 x5 h; exact h.elim
      | succ nn hrc6 =>
        intro x4 x5 h H locs ls hP hD hS hl
        have h : wb_X8_isKeptRow_6 m_kept x1 x3  Q (lpW2 (wb_X8_isKeptRow_6 m_kept x1 x3  Q) nn) x4 x5 := h
        unfold wb_X8_isKeptRow_6 at h
        refine lv_iload hx hb dX8_isKeptRow_6 (lv_at hl 4 rfl) ?_
        refine lv_iload_n hx hb dX8_isKeptRow_8 rfl (lv_at hl 2 rfl) ?_
        refine lv_icmp_ge (tgt := 42) hx hb dX8_isKeptRow_9 (by decide) (fun c_7 => ?_) (fun c_7 => ?_)
        · have h := h.1 c_7
          refine lv_iload hx hb dX8_isKeptRow_42 (lv_at hl 3 rfl) ?_
          obtain ⟨hz, h⟩ := h
          exact z_zret () hx hb hr hlocks (isB.n hz) h hP hD hS dX8_isKeptRow_44
        · have h := h.2 c_7
          refine lv_iload hx hb dX8_isKeptRow_12 (lv_at hl 3 rfl) ?_
          refine lv_if_ne (tgt := 29) hx hb dX8_isKeptRow_14 (by decide) (fun c_8 => ?_) (fun c_8 => ?_)
          · have h := h.1 c_8
            refine lv_iconst (v := (1 : Int32)) hx hb dX8_isKeptRow_29 (by decide) ?_
            refine lv_goto (tgt := 34) hx hb dX8_isKeptRow_30 (by decide) ?_
            exact hJ34 x1 x3 x5 (1 : Int32) _ hrc6  h _ _ _ hP hD hS (lv_sub hl [0, 1, 2, 4] rfl)
          · have h := h.2 c_8
            refine lv_aload_n hx hb dX8_isKeptRow_17 rfl (lv_at hl 0 rfl) ?_
            refine va_get (D := D) (ci := 7) (v := .ref (ad 16)) (C := RX8) (T := TX8) (N := 35) hx hb hts iX8 hown hK hP 0 rfl rfl 19 (Nat.le_of_ble_eq_true rfl) (hts _ fl_X8_57) (fun _ h9 => h9) rfl dX8_isKeptRow_18 ?_
            refine lv_iload hx hb dX8_isKeptRow_21 (lv_at hl 4 rfl) ?_
            obtain ⟨hi_9, h⟩ := h
            refine va_lald hx hb hK hP 1 1 rfl rfl hi_9 dX8_isKeptRow_23 ?_
            refine lv_lload_n hx hb dX8_isKeptRow_24 rfl (lv_at hl 1 rfl) ?_
            refine W.lcmp hx hb dX8_isKeptRow_25 ?_
            refine lv_if_ne (tgt := 33) hx hb dX8_isKeptRow_26 (by decide) (fun c_10 => ?_) (fun c_10 => ?_)
            · have h := h.1 c_10
              refine lv_iconst (v := (0 : Int32)) hx hb dX8_isKeptRow_33 (by decide) ?_
              exact hJ34 x1 x3 x5 (0 : Int32) _ hrc6  h _ _ _ hP hD hS (lv_sub hl [0, 1, 2, 4] rfl)
            · have h := h.2 c_10
              refine lv_iconst (v := (1 : Int32)) hx hb dX8_isKeptRow_29 (by decide) ?_
              refine lv_goto (tgt := 34) hx hb dX8_isKeptRow_30 (by decide) ?_
              exact hJ34 x1 x3 x5 (1 : Int32) _ hrc6  h _ _ _ hP hD hS (lv_sub hl [0, 1, 2, 4] rfl)
    exact key nn x4 x5 h
  unfold wp_X8_isKeptRow at h
  refine lv_iconst (v := (0 : Int32)) hx hb dX8_isKeptRow_0 (by decide) ?_
  refine lv_istore (lv' := [(4, .int (0 : Int32)), (0, .ref (ad 0)), (1, .long x1), (3, .int x3)]) hx hb dX8_isKeptRow_1 hl (by decide) rfl (fun ls hl => ?_)
  refine lv_iconst (v := (0 : Int32)) hx hb dX8_isKeptRow_3 (by decide) ?_
  refine lv_istore (lv' := [(5, .int (0 : Int32)), (4, .int (0 : Int32)), (0, .ref (ad 0)), (1, .long x1), (3, .int x3)]) hx hb dX8_isKeptRow_4 hl (by decide) rfl (fun ls hl => ?_)
  exact hJ6 x1 x3 (0 : Int32) (0 : Int32)   h _ _ _ hP hD hS (lv_sub hl [2, 3, 4, 1, 0] rfl)
set_option maxHeartbeats 4000000 in
set_option maxRecDepth 100000 in
theorem c_X8_compare (l : Launch) (D : va_G) (cy : Nat → ClassId) (ad : Nat → Nat) (sz : Nat) (m_said : Int32) (m_waved : Int32) (m_places : Int32) (m_end : Int32) (m_joints : Int32) (m_netPlaces : Int32) (m_begin : Int32) (m_finish : Int32) (m_rounds : Int32) (m_sews : Int32) (m_state : Nat → Int32) (m_parent : Nat → Int32) (m_letter : Nat → Int32) (m_deep : Nat → Int32) (m_row : Nat → Int64) (m_kept : Nat → Int64) (x1 : Int32) (x2 : Int32) {Q : Int32 → Int32 → Int32 → (Nat → Int32) → (Nat → Int32) → (Nat → Int32) → (Nat → Int64) → (Nat → Int64) → Prop} (h : wp_X8_compare x1 x2 m_places m_end m_state m_parent m_letter m_deep m_row m_kept Q) : Met l yX8_compare (wsU yX8_compare cX8_compare 8 (some .int)) { frames := 2, cells := 0, slots := 0, locals := 46 } (va_Pc [.ref (ad 0), .int x1, .int x2] (zB D vwCl (tyU cy) [((ad 0), oX8 ad m_said m_waved m_places m_end m_joints m_netPlaces m_begin m_finish m_rounds m_sews), ((ad 1), aI cy 112 m_state), ((ad 12), aI cy 13 m_parent), ((ad 13), aI cy 13 m_letter), ((ad 14), aI cy 13 m_deep), ((ad 15), aJ cy 13 m_row), ((ad 16), aJ cy 13 m_kept)] sz)) ((fun A => va_Qi (fun (r : Int32) (u : Int32 × Int32 × (Nat → Int32) × (Nat → Int32) × (Nat → Int32) × (Nat → Int64) × (Nat → Int64)) => ∃ (z0 : Int32) (z1 : Int32) (z2 : Nat → Int32) (z3 : Nat → Int32) (z4 : Nat → Int32) (z5 : Nat → Int64) (z6 : Nat → Int64), u = (z0, z1, z2, z3, z4, z5, z6) ∧ Q r z0 z1 z2 z3 z4 z5 z6) (zE D vwCl A (fun (u : Int32 × Int32 × (Nat → Int32) × (Nat → Int32) × (Nat → Int32) × (Nat → Int64) × (Nat → Int64)) => [((ad 0), oX8 ad m_said m_waved (u.1) (u.2.1) m_joints m_netPlaces m_begin m_finish m_rounds m_sews), ((ad 1), aI cy 112 m_state), ((ad 12), aI cy 13 (u.2.2.1)), ((ad 13), aI cy 13 (u.2.2.2.1)), ((ad 14), aI cy 13 (u.2.2.2.2.1)), ((ad 15), aJ cy 13 (u.2.2.2.2.2.1)), ((ad 16), aJ cy 13 (u.2.2.2.2.2.2))])) A) (va_A [((ad 0), oX8 ad m_said m_waved m_places m_end m_joints m_netPlaces m_begin m_finish m_rounds m_sews), ((ad 1), aI cy 112 m_state), ((ad 12), aI cy 13 m_parent), ((ad 13), aI cy 13 m_letter), ((ad 14), aI cy 13 m_deep), ((ad 15), aJ cy 13 m_row), ((ad 16), aJ cy 13 m_kept)] sz)) 0 0 (va_A [((ad 0), oX8 ad m_said m_waved m_places m_end m_joints m_netPlaces m_begin m_finish m_rounds m_sews), ((ad 1), aI cy 112 m_state), ((ad 12), aI cy 13 m_parent), ((ad 13), aI cy 13 m_letter), ((ad 14), aI cy 13 m_deep), ((ad 15), aJ cy 13 m_row), ((ad 16), aJ cy 13 m_kept)] sz) := by
  refine z_ofX (fun A => va_Qi (fun (r : Int32) (u : Int32 × Int32 × (Nat → Int32) × (Nat → Int32) × (Nat → Int32) × (Nat → Int64) × (Nat → Int64)) => ∃ (z0 : Int32) (z1 : Int32) (z2 : Nat → Int32) (z3 : Nat → Int32) (z4 : Nat → Int32) (z5 : Nat → Int64) (z6 : Nat → Int64), u = (z0, z1, z2, z3, z4, z5, z6) ∧ Q r z0 z1 z2 z3 z4 z5 z6) (zE D vwCl A (fun (u : Int32 × Int32 × (Nat → Int32) × (Nat → Int32) × (Nat → Int32) × (Nat → Int64) × (Nat → Int64)) => [((ad 0), oX8 ad m_said m_waved (u.1) (u.2.1) m_joints m_netPlaces m_begin m_finish m_rounds m_sews), ((ad 1), aI cy 112 m_state), ((ad 12), aI cy 13 (u.2.2.1)), ((ad 13), aI cy 13 (u.2.2.2.1)), ((ad 14), aI cy 13 (u.2.2.2.2.1)), ((ad 15), aJ cy 13 (u.2.2.2.2.2.1)), ((ad 16), aJ cy 13 (u.2.2.2.2.2.2))])) A) (by decide) (Nat.le_of_ble_eq_true rfl) (fun p e s m below meth c A ls hx hb hr hml hown hts hlocks hK hPW hA hP hD hS hl => ?_)
  have hl : lv_has ls 8 [(0, .ref (ad 0)), (1, .int x1), (2, .int x2)] := hl
  have hown : s.vm.findClass RX8 = some m.cls := hown
  generalize hArg : ([.ref (ad 0), .int x1, .int x2] : List Value).toArray = args at hts ⊢
  have hJ108 : ∀ (x3 : Int32) (x4 : Int64) (x7 : Int32) (t0 : Int32) (t1 : Int32) (m_places : Int32) (m_end : Int32) (m_parent : Nat → Int32) (m_letter : Nat → Int32) (m_deep : Nat → Int32) (m_row : Nat → Int64) (m_kept : Nat → Int64) (rc77 : Int32 → Int32 → Prop) (hrc77 : ∀ (x6 : Int32) (x7 : Int32), rc77 x6 x7 → ∀ (H : Heap) (locs : List Loc) (ls : Array Slot), va_P D vwCl [((ad 0), oX8 ad m_said m_waved m_places m_end m_joints m_netPlaces m_begin m_finish m_rounds m_sews), ((ad 1), aI cy 112 m_state), ((ad 12), aI cy 13 m_parent), ((ad 13), aI cy 13 m_letter), ((ad 14), aI cy 13 m_deep), ((ad 15), aJ cy 13 m_row), ((ad 16), aJ cy 13 m_kept)] H → va_D A [((ad 0), oX8 ad m_said m_waved m_places m_end m_joints m_netPlaces m_begin m_finish m_rounds m_sews), ((ad 1), aI cy 112 m_state), ((ad 12), aI cy 13 m_parent), ((ad 13), aI cy 13 m_letter), ((ad 14), aI cy 13 m_deep), ((ad 15), aJ cy 13 m_row), ((ad 16), aJ cy 13 m_kept)] → va_S A s.heap H locs → lv_has ls 8 [(0, .ref (ad 0)), (3, .int x3), (4, .long x4), (6, .int x6), (7, .int x7)] → W p l e { frames := 2, cells := 0, slots := 0, locals := 46 } s m args below meth c H locs 0 0 (MQ below ((fun A => va_Qi (fun (r : Int32) (u : Int32 × Int32 × (Nat → Int32) × (Nat → Int32) × (Nat → Int32) × (Nat → Int64) × (Nat → Int64)) => ∃ (z0 : Int32) (z1 : Int32) (z2 : Nat → Int32) (z3 : Nat → Int32) (z4 : Nat → Int32) (z5 : Nat → Int64) (z6 : Nat → Int64), u = (z0, z1, z2, z3, z4, z5, z6) ∧ Q r z0 z1 z2 z3 z4 z5 z6) (zE D vwCl A (fun (u : Int32 × Int32 × (Nat → Int32) × (Nat → Int32) × (Nat → Int32) × (Nat → Int64) × (Nat → Int64)) => [((ad 0), oX8 ad m_said m_waved (u.1) (u.2.1) m_joints m_netPlaces m_begin m_finish m_rounds m_sews), ((ad 1), aI cy 112 m_state), ((ad 12), aI cy 13 (u.2.2.1)), ((ad 13), aI cy 13 (u.2.2.2.1)), ((ad 14), aI cy 13 (u.2.2.2.2.1)), ((ad 15), aJ cy 13 (u.2.2.2.2.2.1)), ((ad 16), aJ cy 13 (u.2.2.2.2.2.2))])) A) A) args s 0 0 A) (F0 m 77 ls [])), wp_X8_compare_108 m_state x3 x4 x7 t0 t1 m_places m_end m_parent m_letter m_deep m_row m_kept rc77 Q → ∀ (H : Heap) (locs : List Loc) (ls : Array Slot), va_P D vwCl [((ad 0), oX8 ad m_said m_waved m_places m_end m_joints m_netPlaces m_begin m_finish m_rounds m_sews), ((ad 1), aI cy 112 m_state), ((ad 12), aI cy 13 m_parent), ((ad 13), aI cy 13 m_letter), ((ad 14), aI cy 13 m_deep), ((ad 15), aJ cy 13 m_row), ((ad 16), aJ cy 13 m_kept)] H → va_D A [((ad 0), oX8 ad m_said m_waved m_places m_end m_joints m_netPlaces m_begin m_finish m_rounds m_sews), ((ad 1), aI cy 112 m_state), ((ad 12), aI cy 13 m_parent), ((ad 13), aI cy 13 m_letter), ((ad 14), aI cy 13 m_deep), ((ad 15), aJ cy 13 m_row), ((ad 16), aJ cy 13 m_kept)] → va_S A s.heap H locs → lv_has ls 8 [(0, .ref (ad 0)), (3, .int x3), (4, .long x4), (7, .int x7)] → W p l e { frames := 2, cells := 0, slots := 0, locals := 46 } s m args below meth c H locs 0 0 (MQ below ((fun A => va_Qi (fun (r : Int32) (u : Int32 × Int32 × (Nat → Int32) × (Nat → Int32) × (Nat → Int32) × (Nat → Int64) × (Nat → Int64)) => ∃ (z0 : Int32) (z1 : Int32) (z2 : Nat → Int32) (z3 : Nat → Int32) (z4 : Nat → Int32) (z5 : Nat → Int64) (z6 : Nat → Int64), u = (z0, z1, z2, z3, z4, z5, z6) ∧ Q r z0 z1 z2 z3 z4 z5 z6) (zE D vwCl A (fun (u : Int32 × Int32 × (Nat → Int32) × (Nat → Int32) × (Nat → Int32) × (Nat → Int64) × (Nat → Int64)) => [((ad 0), oX8 ad m_said m_waved (u.1) (u.2.1) m_joints m_netPlaces m_begin m_finish m_rounds m_sews), ((ad 1), aI cy 112 m_state), ((ad 12), aI cy 13 (u.2.2.1)), ((ad 13), aI cy 13 (u.2.2.2.1)), ((ad 14), aI cy 13 (u.2.2.2.2.1)), ((ad 15), aJ cy 13 (u.2.2.2.2.2.1)), ((ad 16), aJ cy 13 (u.2.2.2.2.2.2))])) A) A) args s 0 0 A) (F0 m 108 ls [.int t1, .int t0]) := by
    intro x3 x4 x7 t0 t1 m_places m_end m_parent m_letter m_deep m_row m_kept rc77 hrc77  h H locs ls hP hD hS hl
    unfold wp_X8_compare_108 at h
    refine lv_iadd hx hb dX8_compare_108 ?_
    refine lv_topi (fun x6_26 e_x6_26 => ?_)
    have h := h x6_26 e_x6_26
    refine lv_istore (lv' := [(6, .int x6_26), (0, .ref (ad 0)), (3, .int x3), (4, .long x4), (7, .int x7)]) hx hb dX8_compare_109 hl (by decide) rfl (fun ls hl => ?_)
    obtain ⟨x7_27, e_x7_27⟩ : ∃ y : Int32, y = x7 + (1 : Int32) := ⟨_, rfl⟩
    refine lv_iinc (v := x7_27) (lv' := [(7, .int x7_27), (6, .int x6_26), (0, .ref (ad 0)), (3, .int x3), (4, .long x4)]) hx hb dX8_compare_111 hl (k := 4) rfl (by rw [e_x7_27]; rfl) (by decide) rfl (fun ls hl => ?_)
    have h := h x7_27 e_x7_27
    refine lv_goto (tgt := 77) hx hb dX8_compare_114 (by decide) ?_
    exact hrc77 x6_26 x7_27 h _ _ _ hP hD hS (lv_sub hl [2, 3, 4, 1, 0] rfl)
  have hJ168 : ∀ (x6 : Int32) (m_places : Int32) (m_end : Int32) (m_parent : Nat → Int32) (m_letter : Nat → Int32) (m_deep : Nat → Int32) (m_row : Nat → Int64) (m_kept : Nat → Int64), wp_X8_compare_168 m_state x6 m_places m_end m_parent m_letter m_deep m_row m_kept  Q → ∀ (H : Heap) (locs : List Loc) (ls : Array Slot), va_P D vwCl [((ad 0), oX8 ad m_said m_waved m_places m_end m_joints m_netPlaces m_begin m_finish m_rounds m_sews), ((ad 1), aI cy 112 m_state), ((ad 12), aI cy 13 m_parent), ((ad 13), aI cy 13 m_letter), ((ad 14), aI cy 13 m_deep), ((ad 15), aJ cy 13 m_row), ((ad 16), aJ cy 13 m_kept)] H → va_D A [((ad 0), oX8 ad m_said m_waved m_places m_end m_joints m_netPlaces m_begin m_finish m_rounds m_sews), ((ad 1), aI cy 112 m_state), ((ad 12), aI cy 13 m_parent), ((ad 13), aI cy 13 m_letter), ((ad 14), aI cy 13 m_deep), ((ad 15), aJ cy 13 m_row), ((ad 16), aJ cy 13 m_kept)] → va_S A s.heap H locs → lv_has ls 8 [(0, .ref (ad 0)), (6, .int x6)] → W p l e { frames := 2, cells := 0, slots := 0, locals := 46 } s m args below meth c H locs 0 0 (MQ below ((fun A => va_Qi (fun (r : Int32) (u : Int32 × Int32 × (Nat → Int32) × (Nat → Int32) × (Nat → Int32) × (Nat → Int64) × (Nat → Int64)) => ∃ (z0 : Int32) (z1 : Int32) (z2 : Nat → Int32) (z3 : Nat → Int32) (z4 : Nat → Int32) (z5 : Nat → Int64) (z6 : Nat → Int64), u = (z0, z1, z2, z3, z4, z5, z6) ∧ Q r z0 z1 z2 z3 z4 z5 z6) (zE D vwCl A (fun (u : Int32 × Int32 × (Nat → Int32) × (Nat → Int32) × (Nat → Int32) × (Nat → Int64) × (Nat → Int64)) => [((ad 0), oX8 ad m_said m_waved (u.1) (u.2.1) m_joints m_netPlaces m_begin m_finish m_rounds m_sews), ((ad 1), aI cy 112 m_state), ((ad 12), aI cy 13 (u.2.2.1)), ((ad 13), aI cy 13 (u.2.2.2.1)), ((ad 14), aI cy 13 (u.2.2.2.2.1)), ((ad 15), aJ cy 13 (u.2.2.2.2.2.1)), ((ad 16), aJ cy 13 (u.2.2.2.2.2.2))])) A) A) args s 0 0 A) (F0 m 168 ls []) := by
    intro x6 m_places m_end m_parent m_letter m_deep m_row m_kept   h H locs ls hP hD hS hl
    unfold wp_X8_compare_168 at h
    refine lv_iload hx hb dX8_compare_168 (lv_at hl 1 rfl) ?_
    refine lv_aload_n hx hb dX8_compare_170 rfl (lv_at hl 0 rfl) ?_
    refine va_get (D := D) (ci := 7) (v := .int m_places) (C := RX8) (T := TX8) (N := 35) hx hb hts iX8 hown hK hP 0 rfl rfl 17 (Nat.le_of_ble_eq_true rfl) (hts _ fl_X8_199) (fun _ h9 => h9) rfl dX8_compare_171 ?_
    refine lv_icmp_ne (tgt := 181) hx hb dX8_compare_174 (by decide) (fun c_28 => ?_) (fun c_28 => ?_)
    · have h := h.1 c_28
      refine lv_iconst (v := (3 : Int32)) hx hb dX8_compare_181 (by decide) ?_
      exact z_iret (m_places, m_end, m_parent, m_letter, m_deep, m_row, m_kept) hx hb hr hlocks ⟨m_places, m_end, m_parent, m_letter, m_deep, m_row, m_kept, rfl, h⟩ hP hD hS dX8_compare_182
    · have h := h.2 c_28
      refine lv_iconst (v := (2 : Int32)) hx hb dX8_compare_177 (by decide) ?_
      refine lv_goto (tgt := 182) hx hb dX8_compare_178 (by decide) ?_
      exact z_iret (m_places, m_end, m_parent, m_letter, m_deep, m_row, m_kept) hx hb hr hlocks ⟨m_places, m_end, m_parent, m_letter, m_deep, m_row, m_kept, rfl, h⟩ hP hD hS dX8_compare_182
  have hJ149 : ∀ (x3 : Int32) (x6 : Int32) (m_places : Int32) (m_end : Int32) (m_parent : Nat → Int32) (m_letter : Nat → Int32) (m_deep : Nat → Int32) (m_row : Nat → Int64) (m_kept : Nat → Int64), wp_X8_compare_149 m_state x3 x6 m_places m_end m_parent m_letter m_deep m_row m_kept  Q → ∀ (H : Heap) (locs : List Loc) (ls : Array Slot), va_P D vwCl [((ad 0), oX8 ad m_said m_waved m_places m_end m_joints m_netPlaces m_begin m_finish m_rounds m_sews), ((ad 1), aI cy 112 m_state), ((ad 12), aI cy 13 m_parent), ((ad 13), aI cy 13 m_letter), ((ad 14), aI cy 13 m_deep), ((ad 15), aJ cy 13 m_row), ((ad 16), aJ cy 13 m_kept)] H → va_D A [((ad 0), oX8 ad m_said m_waved m_places m_end m_joints m_netPlaces m_begin m_finish m_rounds m_sews), ((ad 1), aI cy 112 m_state), ((ad 12), aI cy 13 m_parent), ((ad 13), aI cy 13 m_letter), ((ad 14), aI cy 13 m_deep), ((ad 15), aJ cy 13 m_row), ((ad 16), aJ cy 13 m_kept)] → va_S A s.heap H locs → lv_has ls 8 [(0, .ref (ad 0)), (3, .int x3), (6, .int x6)] → W p l e { frames := 2, cells := 0, slots := 0, locals := 46 } s m args below meth c H locs 0 0 (MQ below ((fun A => va_Qi (fun (r : Int32) (u : Int32 × Int32 × (Nat → Int32) × (Nat → Int32) × (Nat → Int32) × (Nat → Int64) × (Nat → Int64)) => ∃ (z0 : Int32) (z1 : Int32) (z2 : Nat → Int32) (z3 : Nat → Int32) (z4 : Nat → Int32) (z5 : Nat → Int64) (z6 : Nat → Int64), u = (z0, z1, z2, z3, z4, z5, z6) ∧ Q r z0 z1 z2 z3 z4 z5 z6) (zE D vwCl A (fun (u : Int32 × Int32 × (Nat → Int32) × (Nat → Int32) × (Nat → Int32) × (Nat → Int64) × (Nat → Int64)) => [((ad 0), oX8 ad m_said m_waved (u.1) (u.2.1) m_joints m_netPlaces m_begin m_finish m_rounds m_sews), ((ad 1), aI cy 112 m_state), ((ad 12), aI cy 13 (u.2.2.1)), ((ad 13), aI cy 13 (u.2.2.2.1)), ((ad 14), aI cy 13 (u.2.2.2.2.1)), ((ad 15), aJ cy 13 (u.2.2.2.2.2.1)), ((ad 16), aJ cy 13 (u.2.2.2.2.2.2))])) A) A) args s 0 0 A) (F0 m 149 ls []) := by
    intro x3 x6 m_places m_end m_parent m_letter m_deep m_row m_kept   h H locs ls hP hD hS hl
    unfold wp_X8_compare_149 at h
    refine lv_iload hx hb dX8_compare_149 (lv_at hl 2 rfl) ?_
    refine lv_aload_n hx hb dX8_compare_151 rfl (lv_at hl 0 rfl) ?_
    refine va_get (D := D) (ci := 7) (v := .int m_places) (C := RX8) (T := TX8) (N := 35) hx hb hts iX8 hown hK hP 0 rfl rfl 17 (Nat.le_of_ble_eq_true rfl) (hts _ fl_X8_199) (fun _ h9 => h9) rfl dX8_compare_152 ?_
    refine lv_icmp_ne (tgt := 168) hx hb dX8_compare_155 (by decide) (fun c_29 => ?_) (fun c_29 => ?_)
    · have h := h.1 c_29
      exact hJ168 x6 m_places m_end m_parent m_letter m_deep m_row m_kept   h _ _ _ hP hD hS (lv_sub hl [0, 2] rfl)
    · have h := h.2 c_29
      refine lv_iload hx hb dX8_compare_158 (lv_at hl 2 rfl) ?_
      refine lv_iload_n hx hb dX8_compare_160 rfl (lv_at hl 1 rfl) ?_
      refine lv_icmp_ne (tgt := 168) hx hb dX8_compare_161 (by decide) (fun c_30 => ?_) (fun c_30 => ?_)
      · have h := h.1 c_30
        exact hJ168 x6 m_places m_end m_parent m_letter m_deep m_row m_kept   h _ _ _ hP hD hS (lv_sub hl [0, 2] rfl)
      · have h := h.2 c_30
        refine lv_iconst (v := (1 : Int32)) hx hb dX8_compare_164 (by decide) ?_
        refine lv_goto (tgt := 182) hx hb dX8_compare_165 (by decide) ?_
        exact z_iret (m_places, m_end, m_parent, m_letter, m_deep, m_row, m_kept) hx hb hr hlocks ⟨m_places, m_end, m_parent, m_letter, m_deep, m_row, m_kept, rfl, h⟩ hP hD hS dX8_compare_182
  have hJ77 : ∀ (x3 : Int32) (x4 : Int64) (x6 : Int32) (x7 : Int32) (m_places : Int32) (m_end : Int32) (m_parent : Nat → Int32) (m_letter : Nat → Int32) (m_deep : Nat → Int32) (m_row : Nat → Int64) (m_kept : Nat → Int64), wp_X8_compare_77 m_state x3 x4 m_places m_end m_parent m_letter m_deep m_row m_kept  Q x6 x7 → ∀ (H : Heap) (locs : List Loc) (ls : Array Slot), va_P D vwCl [((ad 0), oX8 ad m_said m_waved m_places m_end m_joints m_netPlaces m_begin m_finish m_rounds m_sews), ((ad 1), aI cy 112 m_state), ((ad 12), aI cy 13 m_parent), ((ad 13), aI cy 13 m_letter), ((ad 14), aI cy 13 m_deep), ((ad 15), aJ cy 13 m_row), ((ad 16), aJ cy 13 m_kept)] H → va_D A [((ad 0), oX8 ad m_said m_waved m_places m_end m_joints m_netPlaces m_begin m_finish m_rounds m_sews), ((ad 1), aI cy 112 m_state), ((ad 12), aI cy 13 m_parent), ((ad 13), aI cy 13 m_letter), ((ad 14), aI cy 13 m_deep), ((ad 15), aJ cy 13 m_row), ((ad 16), aJ cy 13 m_kept)] → va_S A s.heap H locs → lv_has ls 8 [(0, .ref (ad 0)), (3, .int x3), (4, .long x4), (6, .int x6), (7, .int x7)] → W p l e { frames := 2, cells := 0, slots := 0, locals := 46 } s m args below meth c H locs 0 0 (MQ below ((fun A => va_Qi (fun (r : Int32) (u : Int32 × Int32 × (Nat → Int32) × (Nat → Int32) × (Nat → Int32) × (Nat → Int64) × (Nat → Int64)) => ∃ (z0 : Int32) (z1 : Int32) (z2 : Nat → Int32) (z3 : Nat → Int32) (z4 : Nat → Int32) (z5 : Nat → Int64) (z6 : Nat → Int64), u = (z0, z1, z2, z3, z4, z5, z6) ∧ Q r z0 z1 z2 z3 z4 z5 z6) (zE D vwCl A (fun (u : Int32 × Int32 × (Nat → Int32) × (Nat → Int32) × (Nat → Int32) × (Nat → Int64) × (Nat → Int64)) => [((ad 0), oX8 ad m_said m_waved (u.1) (u.2.1) m_joints m_netPlaces m_begin m_finish m_rounds m_sews), ((ad 1), aI cy 112 m_state), ((ad 12), aI cy 13 (u.2.2.1)), ((ad 13), aI cy 13 (u.2.2.2.1)), ((ad 14), aI cy 13 (u.2.2.2.2.1)), ((ad 15), aJ cy 13 (u.2.2.2.2.2.1)), ((ad 16), aJ cy 13 (u.2.2.2.2.2.2))])) A) A) args s 0 0 A) (F0 m 77 ls []) := by
    intro x3 x4 x6 x7 m_places m_end m_parent m_letter m_deep m_row m_kept   h
    obtain ⟨nn, h⟩ := h
    have key : ∀ (nn : Nat) (x6 : Int32) (x7 : Int32), lpW2 (wb_X8_compare_77 m_state x3 x4 m_places m_end m_parent m_letter m_deep m_row m_kept  Q) nn x6 x7 → ∀ (H : Heap) (locs : List Loc) (ls : Array Slot), va_P D vwCl [((ad 0), oX8 ad m_said m_waved m_places m_end m_joints m_netPlaces m_begin m_finish m_rounds m_sews), ((ad 1), aI cy 112 m_state), ((ad 12), aI cy 13 m_parent), ((ad 13), aI cy 13 m_letter), ((ad 14), aI cy 13 m_deep), ((ad 15), aJ cy 13 m_row), ((ad 16), aJ cy 13 m_kept)] H → va_D A [((ad 0), oX8 ad m_said m_waved m_places m_end m_joints m_netPlaces m_begin m_finish m_rounds m_sews), ((ad 1), aI cy 112 m_state), ((ad 12), aI cy 13 m_parent), ((ad 13), aI cy 13 m_letter), ((ad 14), aI cy 13 m_deep), ((ad 15), aJ cy 13 m_row), ((ad 16), aJ cy 13 m_kept)] → va_S A s.heap H locs → lv_has ls 8 [(0, .ref (ad 0)), (3, .int x3), (4, .long x4), (6, .int x6), (7, .int x7)] → W p l e { frames := 2, cells := 0, slots := 0, locals := 46 } s m args below meth c H locs 0 0 (MQ below ((fun A => va_Qi (fun (r : Int32) (u : Int32 × Int32 × (Nat → Int32) × (Nat → Int32) × (Nat → Int32) × (Nat → Int64) × (Nat → Int64)) => ∃ (z0 : Int32) (z1 : Int32) (z2 : Nat → Int32) (z3 : Nat → Int32) (z4 : Nat → Int32) (z5 : Nat → Int64) (z6 : Nat → Int64), u = (z0, z1, z2, z3, z4, z5, z6) ∧ Q r z0 z1 z2 z3 z4 z5 z6) (zE D vwCl A (fun (u : Int32 × Int32 × (Nat → Int32) × (Nat → Int32) × (Nat → Int32) × (Nat → Int64) × (Nat → Int64)) => [((ad 0), oX8 ad m_said m_waved (u.1) (u.2.1) m_joints m_netPlaces m_begin m_finish m_rounds m_sews), ((ad 1), aI cy 112 m_state), ((ad 12), aI cy 13 (u.2.2.1)), ((ad 13), aI cy 13 (u.2.2.2.1)), ((ad 14), aI cy 13 (u.2.2.2.2.1)), ((ad 15), aJ cy 13 (u.2.2.2.2.2.1)), ((ad 16), aJ cy 13 (u.2.2.2.2.2.2))])) A) A) args s 0 0 A) (F0 m 77 ls []) := by
      intro nn
      induction nn with
      | zero => intro x6 x7 h; exact h.elim
      | succ nn hrc77 =>
        intro x6 x7 h H locs ls hP hD hS hl
        have h : wb_X8_compare_77 m_state x3 x4 m_places m_end m_parent m_letter m_deep m_row m_kept  Q (lpW2 (wb_X8_compare_77 m_state x3 x4 m_places m_end m_parent m_letter m_deep m_row m_kept  Q) nn) x6 x7 := h
        unfold wb_X8_compare_77 at h
        refine lv_iload hx hb dX8_compare_77 (lv_at hl 4 rfl) ?_
        refine lv_aload_n hx hb dX8_compare_79 rfl (lv_at hl 0 rfl) ?_
        refine va_get (D := D) (ci := 7) (v := .int m_places) (C := RX8) (T := TX8) (N := 35) hx hb hts iX8 hown hK hP 0 rfl rfl 17 (Nat.le_of_ble_eq_true rfl) (hts _ fl_X8_199) (fun _ h9 => h9) rfl dX8_compare_80 ?_
        refine lv_icmp_ge (tgt := 117) hx hb dX8_compare_83 (by decide) (fun c_31 => ?_) (fun c_31 => ?_)
        · have h := h.1 c_31
          refine lv_aload_n hx hb dX8_compare_117 rfl (lv_at hl 0 rfl) ?_
          refine va_get (D := D) (ci := 7) (v := .ref (ad 15)) (C := RX8) (T := TX8) (N := 35) hx hb hts iX8 hown hK hP 0 rfl rfl 16 (Nat.le_of_ble_eq_true rfl) (hts _ fl_X8_53) (fun _ h9 => h9) rfl dX8_compare_118 ?_
          refine lv_aload_n hx hb dX8_compare_121 rfl (lv_at hl 0 rfl) ?_
          refine va_get (D := D) (ci := 7) (v := .int m_end) (C := RX8) (T := TX8) (N := 35) hx hb hts iX8 hown hK hP 0 rfl rfl 18 (Nat.le_of_ble_eq_true rfl) (hts _ fl_X8_204) (fun _ h9 => h9) rfl dX8_compare_122 ?_
          obtain ⟨hi_32, h⟩ := h
          refine va_lald hx hb hK hP 5 1 rfl rfl hi_32 dX8_compare_125 ?_
          refine lv_lload hx hb dX8_compare_126 (lv_at hl 2 rfl) ?_
          refine W.lcmp hx hb dX8_compare_128 ?_
          refine lv_if_ne (tgt := 147) hx hb dX8_compare_129 (by decide) (fun c_33 => ?_) (fun c_33 => ?_)
          · have h := h.1 c_33
            refine lv_iconst (v := (0 : Int32)) hx hb dX8_compare_147 (by decide) ?_
            exact z_iret (m_places, m_end, m_parent, m_letter, m_deep, m_row, m_kept) hx hb hr hlocks ⟨m_places, m_end, m_parent, m_letter, m_deep, m_row, m_kept, rfl, h⟩ hP hD hS dX8_compare_148
          · have h := h.2 c_33
            refine lv_iload hx hb dX8_compare_132 (lv_at hl 3 rfl) ?_
            refine lv_aload_n hx hb dX8_compare_134 rfl (lv_at hl 0 rfl) ?_
            refine va_get (D := D) (ci := 7) (v := .int m_places) (C := RX8) (T := TX8) (N := 35) hx hb hts iX8 hown hK hP 0 rfl rfl 17 (Nat.le_of_ble_eq_true rfl) (hts _ fl_X8_199) (fun _ h9 => h9) rfl dX8_compare_135 ?_
            refine lv_icmp_ge (tgt := 149) hx hb dX8_compare_138 (by decide) (fun c_34 => ?_) (fun c_34 => ?_)
            · have h := h.1 c_34
              exact hJ149 x3 x6 m_places m_end m_parent m_letter m_deep m_row m_kept   h _ _ _ hP hD hS (lv_sub hl [0, 1, 3] rfl)
            · have h := h.2 c_34
              refine lv_iload hx hb dX8_compare_141 (lv_at hl 3 rfl) ?_
              refine lv_iload_n hx hb dX8_compare_143 rfl (lv_at hl 1 rfl) ?_
              refine lv_icmp_ge (tgt := 149) hx hb dX8_compare_144 (by decide) (fun c_35 => ?_) (fun c_35 => ?_)
              · have h := h.1 c_35
                exact hJ149 x3 x6 m_places m_end m_parent m_letter m_deep m_row m_kept   h _ _ _ hP hD hS (lv_sub hl [0, 1, 3] rfl)
              · have h := h.2 c_35
                refine lv_iconst (v := (0 : Int32)) hx hb dX8_compare_147 (by decide) ?_
                exact z_iret (m_places, m_end, m_parent, m_letter, m_deep, m_row, m_kept) hx hb hr hlocks ⟨m_places, m_end, m_parent, m_letter, m_deep, m_row, m_kept, rfl, h⟩ hP hD hS dX8_compare_148
        · have h := h.2 c_31
          refine lv_iload hx hb dX8_compare_86 (lv_at hl 3 rfl) ?_
          refine lv_aload_n hx hb dX8_compare_88 rfl (lv_at hl 0 rfl) ?_
          refine lv_aload_n hx hb dX8_compare_89 rfl (lv_at hl 0 rfl) ?_
          refine va_get (D := D) (ci := 7) (v := .ref (ad 15)) (C := RX8) (T := TX8) (N := 35) hx hb hts iX8 hown hK hP 0 rfl rfl 16 (Nat.le_of_ble_eq_true rfl) (hts _ fl_X8_53) (fun _ h9 => h9) rfl dX8_compare_90 ?_
          refine lv_iload hx hb dX8_compare_93 (lv_at hl 4 rfl) ?_
          obtain ⟨hi_36, h⟩ := h
          refine va_lald hx hb hK hP 5 1 rfl rfl hi_36 dX8_compare_95 ?_
          refine lv_iload_n hx hb dX8_compare_96 rfl (lv_at hl 1 rfl) ?_
          refine zc_Vi (As := [.long (m_row x7.toNatClampNeg), .int x3]) (rest := [.int x6]) (wc := [((ad 0), oX8 ad m_said m_waved m_places m_end m_joints m_netPlaces m_begin m_finish m_rounds m_sews), ((ad 16), aJ cy 13 m_kept)]) (wr := [((ad 1), aI cy 112 m_state), ((ad 12), aI cy 13 m_parent), ((ad 13), aI cy 13 m_letter), ((ad 14), aI cy 13 m_deep), ((ad 15), aJ cy 13 m_row)]) hx hb hml hown hts hK hPW hA hl.1 hP hD hS ⟨Nat.zero_le _, Nat.zero_le _⟩ [0, 6] [1, 2, 3, 4, 5] rfl rfl (by decide) (c_X8_isKeptRow l D cy (sz := _) (x1 := (m_row x7.toNatClampNeg)) (x3 := x3) (ad := ad) (m_said := m_said) (m_waved := m_waved) (m_places := m_places) (m_end := m_end) (m_joints := m_joints) (m_netPlaces := m_netPlaces) (m_begin := m_begin) (m_finish := m_finish) (m_rounds := m_rounds) (m_sews := m_sews) (m_kept := m_kept) (h := h)) k_X8_222 ⟨rfl, rfl, (Nat.le_of_ble_eq_true rfl), (Nat.le_of_ble_eq_true rfl)⟩ rfl rfl rfl rfl (Nat.le_of_ble_eq_true rfl) dX8_compare_97 (fun r_37 _ H locs h hP hD hS => ?_)
          have hP : va_P D vwCl [((ad 1), aI cy 112 m_state), ((ad 12), aI cy 13 m_parent), ((ad 13), aI cy 13 m_letter), ((ad 14), aI cy 13 m_deep), ((ad 15), aJ cy 13 m_row), ((ad 0), oX8 ad m_said m_waved m_places m_end m_joints m_netPlaces m_begin m_finish m_rounds m_sews), ((ad 16), aJ cy 13 m_kept)] H := hP
          have hD : va_D A [((ad 1), aI cy 112 m_state), ((ad 12), aI cy 13 m_parent), ((ad 13), aI cy 13 m_letter), ((ad 14), aI cy 13 m_deep), ((ad 15), aJ cy 13 m_row), ((ad 0), oX8 ad m_said m_waved m_places m_end m_joints m_netPlaces m_begin m_finish m_rounds m_sews), ((ad 16), aJ cy 13 m_kept)] := hD
          refine lv_if_eq (tgt := 107) hx hb dX8_compare_100 (by decide) (fun c_38 => ?_) (fun c_38 => ?_)
          · have h := h.1 c_38
            refine lv_iconst (v := (0 : Int32)) hx hb dX8_compare_107 (by decide) ?_
            exact hJ108 x3 x4 x7 x6 (0 : Int32) m_places m_end m_parent m_letter m_deep m_row m_kept _ hrc77  h _ _ _ (hP.sub [5, 0, 1, 2, 3, 4, 6] rfl) (hD.sub [5, 0, 1, 2, 3, 4, 6] (by decide) rfl) hS (lv_sub hl [0, 1, 2, 4] rfl)
          · have h := h.2 c_38
            refine lv_iconst (v := (1 : Int32)) hx hb dX8_compare_103 (by decide) ?_
            refine lv_goto (tgt := 108) hx hb dX8_compare_104 (by decide) ?_
            exact hJ108 x3 x4 x7 x6 (1 : Int32) m_places m_end m_parent m_letter m_deep m_row m_kept _ hrc77  h _ _ _ (hP.sub [5, 0, 1, 2, 3, 4, 6] rfl) (hD.sub [5, 0, 1, 2, 3, 4, 6] (by decide) rfl) hS (lv_sub hl [0, 1, 2, 4] rfl)
    exact key nn x6 x7 h
  have hJ40 : ∀ (x2 : Int32) (x3 : Int32) (x4 : Int64) (x6 : Int32) (m_places : Int32) (m_end : Int32) (m_parent : Nat → Int32) (m_letter : Nat → Int32) (m_deep : Nat → Int32) (m_row : Nat → Int64) (m_kept : Nat → Int64), wp_X8_compare_40 m_state x2 x3 x4 m_places m_end m_parent m_letter m_deep m_row  Q x6 m_kept → ∀ (H : Heap) (locs : List Loc) (ls : Array Slot), va_P D vwCl [((ad 0), oX8 ad m_said m_waved m_places m_end m_joints m_netPlaces m_begin m_finish m_rounds m_sews), ((ad 1), aI cy 112 m_state), ((ad 12), aI cy 13 m_parent), ((ad 13), aI cy 13 m_letter), ((ad 14), aI cy 13 m_deep), ((ad 15), aJ cy 13 m_row), ((ad 16), aJ cy 13 m_kept)] H → va_D A [((ad 0), oX8 ad m_said m_waved m_places m_end m_joints m_netPlaces m_begin m_finish m_rounds m_sews), ((ad 1), aI cy 112 m_state), ((ad 12), aI cy 13 m_parent), ((ad 13), aI cy 13 m_letter), ((ad 14), aI cy 13 m_deep), ((ad 15), aJ cy 13 m_row), ((ad 16), aJ cy 13 m_kept)] → va_S A s.heap H locs → lv_has ls 8 [(0, .ref (ad 0)), (2, .int x2), (3, .int x3), (4, .long x4), (6, .int x6)] → W p l e { frames := 2, cells := 0, slots := 0, locals := 46 } s m args below meth c H locs 0 0 (MQ below ((fun A => va_Qi (fun (r : Int32) (u : Int32 × Int32 × (Nat → Int32) × (Nat → Int32) × (Nat → Int32) × (Nat → Int64) × (Nat → Int64)) => ∃ (z0 : Int32) (z1 : Int32) (z2 : Nat → Int32) (z3 : Nat → Int32) (z4 : Nat → Int32) (z5 : Nat → Int64) (z6 : Nat → Int64), u = (z0, z1, z2, z3, z4, z5, z6) ∧ Q r z0 z1 z2 z3 z4 z5 z6) (zE D vwCl A (fun (u : Int32 × Int32 × (Nat → Int32) × (Nat → Int32) × (Nat → Int32) × (Nat → Int64) × (Nat → Int64)) => [((ad 0), oX8 ad m_said m_waved (u.1) (u.2.1) m_joints m_netPlaces m_begin m_finish m_rounds m_sews), ((ad 1), aI cy 112 m_state), ((ad 12), aI cy 13 (u.2.2.1)), ((ad 13), aI cy 13 (u.2.2.2.1)), ((ad 14), aI cy 13 (u.2.2.2.2.1)), ((ad 15), aJ cy 13 (u.2.2.2.2.2.1)), ((ad 16), aJ cy 13 (u.2.2.2.2.2.2))])) A) A) args s 0 0 A) (F0 m 40 ls []) := by
    intro x2 x3 x4 x6 m_places m_end m_parent m_letter m_deep m_row m_kept   h
    obtain ⟨nn, h⟩ := h
    have key : ∀ (nn : Nat) (x6 : Int32) (m_kept : Nat → Int64), lpW2 (wb_X8_compare_40 m_state x2 x3 x4 m_places m_end m_parent m_letter m_deep m_row  Q) nn x6 m_kept → ∀ (H : Heap) (locs : List Loc) (ls : Array Slot), va_P D vwCl [((ad 0), oX8 ad m_said m_waved m_places m_end m_joints m_netPlaces m_begin m_finish m_rounds m_sews), ((ad 1), aI cy 112 m_state), ((ad 12), aI cy 13 m_parent), ((ad 13), aI cy 13 m_letter), ((ad 14), aI cy 13 m_deep), ((ad 15), aJ cy 13 m_row), ((ad 16), aJ cy 13 m_kept)] H → va_D A [((ad 0), oX8 ad m_said m_waved m_places m_end m_joints m_netPlaces m_begin m_finish m_rounds m_sews), ((ad 1), aI cy 112 m_state), ((ad 12), aI cy 13 m_parent), ((ad 13), aI cy 13 m_letter), ((ad 14), aI cy 13 m_deep), ((ad 15), aJ cy 13 m_row), ((ad 16), aJ cy 13 m_kept)] → va_S A s.heap H locs → lv_has ls 8 [(0, .ref (ad 0)), (2, .int x2), (3, .int x3), (4, .long x4), (6, .int x6)] → W p l e { frames := 2, cells := 0, slots := 0, locals := 46 } s m args below meth c H locs 0 0 (MQ below ((fun A => va_Qi (fun (r : Int32) (u : Int32 × Int32 × (Nat → Int32) × (Nat → Int32) × (Nat → Int32) × (Nat → Int64) × (Nat → Int64)) => ∃ (z0 : Int32) (z1 : Int32) (z2 : Nat → Int32) (z3 : Nat → Int32) (z4 : Nat → Int32) (z5 : Nat → Int64) (z6 : Nat → Int64), u = (z0, z1, z2, z3, z4, z5, z6) ∧ Q r z0 z1 z2 z3 z4 z5 z6) (zE D vwCl A (fun (u : Int32 × Int32 × (Nat → Int32) × (Nat → Int32) × (Nat → Int32) × (Nat → Int64) × (Nat → Int64)) => [((ad 0), oX8 ad m_said m_waved (u.1) (u.2.1) m_joints m_netPlaces m_begin m_finish m_rounds m_sews), ((ad 1), aI cy 112 m_state), ((ad 12), aI cy 13 (u.2.2.1)), ((ad 13), aI cy 13 (u.2.2.2.1)), ((ad 14), aI cy 13 (u.2.2.2.2.1)), ((ad 15), aJ cy 13 (u.2.2.2.2.2.1)), ((ad 16), aJ cy 13 (u.2.2.2.2.2.2))])) A) A) args s 0 0 A) (F0 m 40 ls []) := by
      intro nn
      induction nn with
      | zero => intro x6 m_kept h; exact h.elim
      | succ nn hrc40 =>
        intro x6 m_kept h H locs ls hP hD hS hl
        have h : wb_X8_compare_40 m_state x2 x3 x4 m_places m_end m_parent m_letter m_deep m_row  Q (lpW2 (wb_X8_compare_40 m_state x2 x3 x4 m_places m_end m_parent m_letter m_deep m_row  Q) nn) x6 m_kept := h
        unfold wb_X8_compare_40 at h
        refine lv_iload hx hb dX8_compare_40 (lv_at hl 4 rfl) ?_
        refine lv_iload_n hx hb dX8_compare_42 rfl (lv_at hl 2 rfl) ?_
        refine lv_icmp_ge (tgt := 66) hx hb dX8_compare_43 (by decide) (fun c_39 => ?_) (fun c_39 => ?_)
        · have h := h.1 c_39
          refine lv_aload_n hx hb dX8_compare_66 rfl (lv_at hl 0 rfl) ?_
          refine lv_iload_n hx hb dX8_compare_67 rfl (lv_at hl 1 rfl) ?_
          refine zc_Vv (As := [.int x2]) (rest := []) (wc := [((ad 0), oX8 ad m_said m_waved m_places m_end m_joints m_netPlaces m_begin m_finish m_rounds m_sews), ((ad 1), aI cy 112 m_state), ((ad 12), aI cy 13 m_parent), ((ad 13), aI cy 13 m_letter), ((ad 14), aI cy 13 m_deep), ((ad 15), aJ cy 13 m_row)]) (wr := [((ad 16), aJ cy 13 m_kept)]) hx hb hml hown hts hK hPW hA hl.1 hP hD hS ⟨Nat.zero_le _, Nat.zero_le _⟩ [0, 1, 2, 3, 4, 5] [6] rfl rfl (by decide) (c_X8_layTree l D cy (sz := _) (x1 := x2) (ad := ad) (m_said := m_said) (m_waved := m_waved) (m_places := m_places) (m_end := m_end) (m_joints := m_joints) (m_netPlaces := m_netPlaces) (m_begin := m_begin) (m_finish := m_finish) (m_rounds := m_rounds) (m_sews := m_sews) (m_state := m_state) (m_parent := m_parent) (m_letter := m_letter) (m_deep := m_deep) (m_row := m_row) (h := h)) k_X8_216 ⟨rfl, rfl, (Nat.le_of_ble_eq_true rfl), (Nat.le_of_ble_eq_true rfl)⟩ rfl rfl rfl rfl (Nat.le_of_ble_eq_true rfl) dX8_compare_68 (fun u_40 H locs h hP hD hS => ?_)
          obtain ⟨m_places_40, m_end_40, m_parent_40, m_letter_40, m_deep_40, m_row_40, rfl, h⟩ := h
          have hP : va_P D vwCl [((ad 16), aJ cy 13 m_kept), ((ad 0), oX8 ad m_said m_waved m_places_40 m_end_40 m_joints m_netPlaces m_begin m_finish m_rounds m_sews), ((ad 1), aI cy 112 m_state), ((ad 12), aI cy 13 m_parent_40), ((ad 13), aI cy 13 m_letter_40), ((ad 14), aI cy 13 m_deep_40), ((ad 15), aJ cy 13 m_row_40)] H := hP
          have hD : va_D A [((ad 16), aJ cy 13 m_kept), ((ad 0), oX8 ad m_said m_waved m_places_40 m_end_40 m_joints m_netPlaces m_begin m_finish m_rounds m_sews), ((ad 1), aI cy 112 m_state), ((ad 12), aI cy 13 m_parent_40), ((ad 13), aI cy 13 m_letter_40), ((ad 14), aI cy 13 m_deep_40), ((ad 15), aJ cy 13 m_row_40)] := hD
          refine lv_iconst (v := (0 : Int32)) hx hb dX8_compare_71 (by decide) ?_
          refine lv_istore (lv' := [(6, .int (0 : Int32)), (0, .ref (ad 0)), (2, .int x2), (3, .int x3), (4, .long x4)]) hx hb dX8_compare_72 hl (by decide) rfl (fun ls hl => ?_)
          refine lv_iconst (v := (0 : Int32)) hx hb dX8_compare_74 (by decide) ?_
          refine lv_istore (lv' := [(7, .int (0 : Int32)), (6, .int (0 : Int32)), (0, .ref (ad 0)), (2, .int x2), (3, .int x3), (4, .long x4)]) hx hb dX8_compare_75 hl (by decide) rfl (fun ls hl => ?_)
          exact hJ77 x3 x4 (0 : Int32) (0 : Int32) m_places_40 m_end_40 m_parent_40 m_letter_40 m_deep_40 m_row_40 m_kept   h _ _ _ (hP.sub [1, 2, 3, 4, 5, 6, 0] rfl) (hD.sub [1, 2, 3, 4, 5, 6, 0] (by decide) rfl) hS (lv_sub hl [2, 4, 5, 1, 0] rfl)
        · have h := h.2 c_39
          refine lv_aload_n hx hb dX8_compare_46 rfl (lv_at hl 0 rfl) ?_
          refine va_get (D := D) (ci := 7) (v := .ref (ad 16)) (C := RX8) (T := TX8) (N := 35) hx hb hts iX8 hown hK hP 0 rfl rfl 19 (Nat.le_of_ble_eq_true rfl) (hts _ fl_X8_57) (fun _ h9 => h9) rfl dX8_compare_47 ?_
          refine lv_iload hx hb dX8_compare_50 (lv_at hl 4 rfl) ?_
          refine lv_aload_n hx hb dX8_compare_52 rfl (lv_at hl 0 rfl) ?_
          refine va_get (D := D) (ci := 7) (v := .ref (ad 15)) (C := RX8) (T := TX8) (N := 35) hx hb hts iX8 hown hK hP 0 rfl rfl 16 (Nat.le_of_ble_eq_true rfl) (hts _ fl_X8_53) (fun _ h9 => h9) rfl dX8_compare_53 ?_
          refine lv_iload hx hb dX8_compare_56 (lv_at hl 4 rfl) ?_
          obtain ⟨hi_41, h⟩ := h
          refine va_lald hx hb hK hP 5 1 rfl rfl hi_41 dX8_compare_58 ?_
          obtain ⟨hi_42, h⟩ := h
          refine va_last hx hb hK hP hD hS 6 1 rfl rfl hi_42 dX8_compare_59 (fun H locs hP hD hS => ?_)
          have hP : va_P D vwCl [((ad 0), oX8 ad m_said m_waved m_places m_end m_joints m_netPlaces m_begin m_finish m_rounds m_sews), ((ad 1), aI cy 112 m_state), ((ad 12), aI cy 13 m_parent), ((ad 13), aI cy 13 m_letter), ((ad 14), aI cy 13 m_deep), ((ad 15), aJ cy 13 m_row), ((ad 16), aJ cy 13 (vp_updL m_kept x6.toNatClampNeg (m_row x6.toNatClampNeg)))] H := hP
          have hD : va_D A [((ad 0), oX8 ad m_said m_waved m_places m_end m_joints m_netPlaces m_begin m_finish m_rounds m_sews), ((ad 1), aI cy 112 m_state), ((ad 12), aI cy 13 m_parent), ((ad 13), aI cy 13 m_letter), ((ad 14), aI cy 13 m_deep), ((ad 15), aJ cy 13 m_row), ((ad 16), aJ cy 13 (vp_updL m_kept x6.toNatClampNeg (m_row x6.toNatClampNeg)))] := hD
          obtain ⟨x6_43, e_x6_43⟩ : ∃ y : Int32, y = x6 + (1 : Int32) := ⟨_, rfl⟩
          refine lv_iinc (v := x6_43) (lv' := [(6, .int x6_43), (0, .ref (ad 0)), (2, .int x2), (3, .int x3), (4, .long x4)]) hx hb dX8_compare_60 hl (k := 4) rfl (by rw [e_x6_43]; rfl) (by decide) rfl (fun ls hl => ?_)
          have h := h x6_43 e_x6_43
          refine lv_goto (tgt := 40) hx hb dX8_compare_63 (by decide) ?_
          exact hrc40 x6_43 (vp_updL m_kept x6.toNatClampNeg (m_row x6.toNatClampNeg)) h _ _ _ hP hD hS (lv_sub hl [1, 2, 3, 4, 0] rfl)
    exact key nn x6 m_kept h
  unfold wp_X8_compare at h
  refine lv_iload_n hx hb dX8_compare_0 rfl (lv_at hl 1 rfl) ?_
  refine zc_S0 (As := [.int x1]) (rest := []) hx hb hml hown hts hK hPW hA hl.1 hP hS ⟨Nat.zero_le _, Nat.zero_le _⟩ (c_X8_isWord l D cy (sz := _) (x0 := x1) (h := h)) k_X8_151 ⟨rfl, rfl, (Nat.le_of_ble_eq_true rfl), (Nat.le_of_ble_eq_true rfl)⟩ rfl rfl (Nat.le_of_ble_eq_true rfl) dX8_compare_1 (fun r_44 H locs h hP hS => ?_)
  refine lv_if_eq (tgt := 14) hx hb dX8_compare_4 (by decide) (fun c_45 => ?_) (fun c_45 => ?_)
  · have h := h.1 c_45
    refine lv_iconst (v := (-1 : Int32)) hx hb dX8_compare_14 (by decide) ?_
    exact z_iret (m_places, m_end, m_parent, m_letter, m_deep, m_row, m_kept) hx hb hr hlocks ⟨m_places, m_end, m_parent, m_letter, m_deep, m_row, m_kept, rfl, h⟩ hP hD hS dX8_compare_15
  · have h := h.2 c_45
    refine lv_iload_n hx hb dX8_compare_7 rfl (lv_at hl 2 rfl) ?_
    refine zc_S0 (As := [.int x2]) (rest := []) hx hb hml hown hts hK hPW hA hl.1 hP hS ⟨Nat.zero_le _, Nat.zero_le _⟩ (c_X8_isWord l D cy (sz := _) (x0 := x2) (h := h)) k_X8_151 ⟨rfl, rfl, (Nat.le_of_ble_eq_true rfl), (Nat.le_of_ble_eq_true rfl)⟩ rfl rfl (Nat.le_of_ble_eq_true rfl) dX8_compare_8 (fun r_46 H locs h hP hS => ?_)
    refine lv_if_ne (tgt := 16) hx hb dX8_compare_11 (by decide) (fun c_47 => ?_) (fun c_47 => ?_)
    · have h := h.1 c_47
      refine lv_aload_n hx hb dX8_compare_16 rfl (lv_at hl 0 rfl) ?_
      refine lv_iload_n hx hb dX8_compare_17 rfl (lv_at hl 1 rfl) ?_
      refine zc_Vv (As := [.int x1]) (rest := []) (wc := [((ad 0), oX8 ad m_said m_waved m_places m_end m_joints m_netPlaces m_begin m_finish m_rounds m_sews), ((ad 1), aI cy 112 m_state), ((ad 12), aI cy 13 m_parent), ((ad 13), aI cy 13 m_letter), ((ad 14), aI cy 13 m_deep), ((ad 15), aJ cy 13 m_row)]) (wr := [((ad 16), aJ cy 13 m_kept)]) hx hb hml hown hts hK hPW hA hl.1 hP hD hS ⟨Nat.zero_le _, Nat.zero_le _⟩ [0, 1, 2, 3, 4, 5] [6] rfl rfl (by decide) (c_X8_layTree l D cy (sz := _) (x1 := x1) (ad := ad) (m_said := m_said) (m_waved := m_waved) (m_places := m_places) (m_end := m_end) (m_joints := m_joints) (m_netPlaces := m_netPlaces) (m_begin := m_begin) (m_finish := m_finish) (m_rounds := m_rounds) (m_sews := m_sews) (m_state := m_state) (m_parent := m_parent) (m_letter := m_letter) (m_deep := m_deep) (m_row := m_row) (h := h)) k_X8_216 ⟨rfl, rfl, (Nat.le_of_ble_eq_true rfl), (Nat.le_of_ble_eq_true rfl)⟩ rfl rfl rfl rfl (Nat.le_of_ble_eq_true rfl) dX8_compare_18 (fun u_48 H locs h hP hD hS => ?_)
      obtain ⟨m_places_48, m_end_48, m_parent_48, m_letter_48, m_deep_48, m_row_48, rfl, h⟩ := h
      have hP : va_P D vwCl [((ad 16), aJ cy 13 m_kept), ((ad 0), oX8 ad m_said m_waved m_places_48 m_end_48 m_joints m_netPlaces m_begin m_finish m_rounds m_sews), ((ad 1), aI cy 112 m_state), ((ad 12), aI cy 13 m_parent_48), ((ad 13), aI cy 13 m_letter_48), ((ad 14), aI cy 13 m_deep_48), ((ad 15), aJ cy 13 m_row_48)] H := hP
      have hD : va_D A [((ad 16), aJ cy 13 m_kept), ((ad 0), oX8 ad m_said m_waved m_places_48 m_end_48 m_joints m_netPlaces m_begin m_finish m_rounds m_sews), ((ad 1), aI cy 112 m_state), ((ad 12), aI cy 13 m_parent_48), ((ad 13), aI cy 13 m_letter_48), ((ad 14), aI cy 13 m_deep_48), ((ad 15), aJ cy 13 m_row_48)] := hD
      refine lv_aload_n hx hb dX8_compare_21 rfl (lv_at hl 0 rfl) ?_
      refine va_get (D := D) (ci := 7) (v := .int m_places_48) (C := RX8) (T := TX8) (N := 35) hx hb hts iX8 hown hK hP 1 rfl rfl 17 (Nat.le_of_ble_eq_true rfl) (hts _ fl_X8_199) (fun _ h9 => h9) rfl dX8_compare_22 ?_
      refine lv_istore_n (lv' := [(3, .int m_places_48), (0, .ref (ad 0)), (1, .int x1), (2, .int x2)]) hx hb dX8_compare_25 rfl hl (by decide) rfl (fun ls hl => ?_)
      refine lv_aload_n hx hb dX8_compare_26 rfl (lv_at hl 1 rfl) ?_
      refine va_get (D := D) (ci := 7) (v := .ref (ad 15)) (C := RX8) (T := TX8) (N := 35) hx hb hts iX8 hown hK hP 1 rfl rfl 16 (Nat.le_of_ble_eq_true rfl) (hts _ fl_X8_53) (fun _ h9 => h9) rfl dX8_compare_27 ?_
      refine lv_aload_n hx hb dX8_compare_30 rfl (lv_at hl 1 rfl) ?_
      refine va_get (D := D) (ci := 7) (v := .int m_end_48) (C := RX8) (T := TX8) (N := 35) hx hb hts iX8 hown hK hP 1 rfl rfl 18 (Nat.le_of_ble_eq_true rfl) (hts _ fl_X8_204) (fun _ h9 => h9) rfl dX8_compare_31 ?_
      obtain ⟨hi_49, h⟩ := h
      refine va_lald hx hb hK hP 6 1 rfl rfl hi_49 dX8_compare_34 ?_
      refine lv_topl (fun x4_50 e_x4_50 => ?_)
      have h := h x4_50 e_x4_50
      refine lv_lstore (lv' := [(4, .long x4_50), (3, .int m_places_48), (0, .ref (ad 0)), (1, .int x1), (2, .int x2)]) hx hb dX8_compare_35 hl (by decide) rfl (fun ls hl => ?_)
      refine lv_iconst (v := (0 : Int32)) hx hb dX8_compare_37 (by decide) ?_
      refine lv_istore (lv' := [(6, .int (0 : Int32)), (4, .long x4_50), (3, .int m_places_48), (0, .ref (ad 0)), (1, .int x1), (2, .int x2)]) hx hb dX8_compare_38 hl (by decide) rfl (fun ls hl => ?_)
      exact hJ40 x2 m_places_48 x4_50 (0 : Int32) m_places_48 m_end_48 m_parent_48 m_letter_48 m_deep_48 m_row_48 m_kept   h _ _ _ (hP.sub [1, 2, 3, 4, 5, 6, 0] rfl) (hD.sub [1, 2, 3, 4, 5, 6, 0] (by decide) rfl) hS (lv_sub hl [3, 5, 2, 1, 0] rfl)
    · have h := h.2 c_47
      refine lv_iconst (v := (-1 : Int32)) hx hb dX8_compare_14 (by decide) ?_
      exact z_iret (m_places, m_end, m_parent, m_letter, m_deep, m_row, m_kept) hx hb hr hlocks ⟨m_places, m_end, m_parent, m_letter, m_deep, m_row, m_kept, rfl, h⟩ hP hD hS dX8_compare_15
set_option maxHeartbeats 4000000 in
set_option maxRecDepth 100000 in
theorem c_X8_rule (l : Launch) (D : va_G) (cy : Nat → ClassId) (ad : Nat → Nat) (sz : Nat) (m_said : Int32) (m_waved : Int32) (m_places : Int32) (m_end : Int32) (m_joints : Int32) (m_netPlaces : Int32) (m_begin : Int32) (m_finish : Int32) (m_rounds : Int32) (m_sews : Int32) (m_state : Nat → Int32) (x1 : Int32) (x2 : Int32) (x3 : Int32) (x4 : Int32) {Q : Int32 → (Nat → Int32) → Prop} (h : wp_X8_rule x1 x2 x3 x4 m_state Q) : Met l yX8_rule (wsU yX8_rule cX8_rule 9 (some .int)) { frames := 2, cells := 0, slots := 0, locals := 42 } (va_Pc [.ref (ad 0), .int x1, .int x2, .int x3, .int x4] (zB D vwCl (tyU cy) [((ad 0), oX8 ad m_said m_waved m_places m_end m_joints m_netPlaces m_begin m_finish m_rounds m_sews), ((ad 1), aI cy 112 m_state)] sz)) ((fun A => va_Qi (fun (r : Int32) (u : (Nat → Int32)) => Q r u) (zE D vwCl A (fun (u : (Nat → Int32)) => [((ad 0), oX8 ad m_said m_waved m_places m_end m_joints m_netPlaces m_begin m_finish m_rounds m_sews), ((ad 1), aI cy 112 u)])) A) (va_A [((ad 0), oX8 ad m_said m_waved m_places m_end m_joints m_netPlaces m_begin m_finish m_rounds m_sews), ((ad 1), aI cy 112 m_state)] sz)) 0 0 (va_A [((ad 0), oX8 ad m_said m_waved m_places m_end m_joints m_netPlaces m_begin m_finish m_rounds m_sews), ((ad 1), aI cy 112 m_state)] sz) := by
  refine z_ofX (fun A => va_Qi (fun (r : Int32) (u : (Nat → Int32)) => Q r u) (zE D vwCl A (fun (u : (Nat → Int32)) => [((ad 0), oX8 ad m_said m_waved m_places m_end m_joints m_netPlaces m_begin m_finish m_rounds m_sews), ((ad 1), aI cy 112 u)])) A) (by decide) (Nat.le_of_ble_eq_true rfl) (fun p e s m below meth c A ls hx hb hr hml hown hts hlocks hK hPW hA hP hD hS hl => ?_)
  have hl : lv_has ls 9 [(0, .ref (ad 0)), (1, .int x1), (2, .int x2), (3, .int x3), (4, .int x4)] := hl
  have hown : s.vm.findClass RX8 = some m.cls := hown
  generalize hArg : ([.ref (ad 0), .int x1, .int x2, .int x3, .int x4] : List Value).toArray = args at hts ⊢
  have hJ111 : ∀ (x1 : Int32) (x2 : Int32) (x3 : Int32) (x4 : Int32) (x5 : Int32) (x6 : Int32) (x7 : Int32) (x8 : Int32) (m_state : Nat → Int32) (rc56 : Int32 → (Nat → Int32) → Prop) (hrc56 : ∀ (x5 : Int32) (m_state : Nat → Int32), rc56 x5 m_state → ∀ (H : Heap) (locs : List Loc) (ls : Array Slot), va_P D vwCl [((ad 0), oX8 ad m_said m_waved m_places m_end m_joints m_netPlaces m_begin m_finish m_rounds m_sews), ((ad 1), aI cy 112 m_state)] H → va_D A [((ad 0), oX8 ad m_said m_waved m_places m_end m_joints m_netPlaces m_begin m_finish m_rounds m_sews), ((ad 1), aI cy 112 m_state)] → va_S A s.heap H locs → lv_has ls 9 [(0, .ref (ad 0)), (1, .int x1), (2, .int x2), (3, .int x3), (4, .int x4), (5, .int x5)] → W p l e { frames := 2, cells := 0, slots := 0, locals := 42 } s m args below meth c H locs 0 0 (MQ below ((fun A => va_Qi (fun (r : Int32) (u : (Nat → Int32)) => Q r u) (zE D vwCl A (fun (u : (Nat → Int32)) => [((ad 0), oX8 ad m_said m_waved m_places m_end m_joints m_netPlaces m_begin m_finish m_rounds m_sews), ((ad 1), aI cy 112 u)])) A) A) args s 0 0 A) (F0 m 56 ls [])), wp_X8_rule_111 x1 x2 x3 x4 x5 x6 x7 rc56 Q x8 m_state → ∀ (H : Heap) (locs : List Loc) (ls : Array Slot), va_P D vwCl [((ad 0), oX8 ad m_said m_waved m_places m_end m_joints m_netPlaces m_begin m_finish m_rounds m_sews), ((ad 1), aI cy 112 m_state)] H → va_D A [((ad 0), oX8 ad m_said m_waved m_places m_end m_joints m_netPlaces m_begin m_finish m_rounds m_sews), ((ad 1), aI cy 112 m_state)] → va_S A s.heap H locs → lv_has ls 9 [(0, .ref (ad 0)), (1, .int x1), (2, .int x2), (3, .int x3), (4, .int x4), (5, .int x5), (6, .int x6), (7, .int x7), (8, .int x8)] → W p l e { frames := 2, cells := 0, slots := 0, locals := 42 } s m args below meth c H locs 0 0 (MQ below ((fun A => va_Qi (fun (r : Int32) (u : (Nat → Int32)) => Q r u) (zE D vwCl A (fun (u : (Nat → Int32)) => [((ad 0), oX8 ad m_said m_waved m_places m_end m_joints m_netPlaces m_begin m_finish m_rounds m_sews), ((ad 1), aI cy 112 u)])) A) A) args s 0 0 A) (F0 m 111 ls []) := by
    intro x1 x2 x3 x4 x5 x6 x7 x8 m_state rc56 hrc56  h
    obtain ⟨nn, h⟩ := h
    have key : ∀ (nn : Nat) (x8 : Int32) (m_state : Nat → Int32), lpW2 (wb_X8_rule_111 x1 x2 x3 x4 x5 x6 x7 rc56 Q) nn x8 m_state → ∀ (H : Heap) (locs : List Loc) (ls : Array Slot), va_P D vwCl [((ad 0), oX8 ad m_said m_waved m_places m_end m_joints m_netPlaces m_begin m_finish m_rounds m_sews), ((ad 1), aI cy 112 m_state)] H → va_D A [((ad 0), oX8 ad m_said m_waved m_places m_end m_joints m_netPlaces m_begin m_finish m_rounds m_sews), ((ad 1), aI cy 112 m_state)] → va_S A s.heap H locs → lv_has ls 9 [(0, .ref (ad 0)), (1, .int x1), (2, .int x2), (3, .int x3), (4, .int x4), (5, .int x5), (6, .int x6), (7, .int x7), (8, .int x8)] → W p l e { frames := 2, cells := 0, slots := 0, locals := 42 } s m args below meth c H locs 0 0 (MQ below ((fun A => va_Qi (fun (r : Int32) (u : (Nat → Int32)) => Q r u) (zE D vwCl A (fun (u : (Nat → Int32)) => [((ad 0), oX8 ad m_said m_waved m_places m_end m_joints m_netPlaces m_begin m_finish m_rounds m_sews), ((ad 1), aI cy 112 u)])) A) A) args s 0 0 A) (F0 m 111 ls []) := by
      intro nn
      induction nn with
      | zero => intro x8 m_state h; exact h.elim
      | succ nn hrc111 =>
        intro x8 m_state h H locs ls hP hD hS hl
        have h : wb_X8_rule_111 x1 x2 x3 x4 x5 x6 x7 rc56 Q (lpW2 (wb_X8_rule_111 x1 x2 x3 x4 x5 x6 x7 rc56 Q) nn) x8 m_state := h
        unfold wb_X8_rule_111 at h
        refine lv_iload hx hb dX8_rule_111 (lv_at hl 8 rfl) ?_
        refine lv_bipush (v := (12 : Int32)) hx hb dX8_rule_113 (by decide) ?_
        refine lv_icmp_ge (tgt := 156) hx hb dX8_rule_115 (by decide) (fun c_24 => ?_) (fun c_24 => ?_)
        · have h := h.1 c_24
          obtain ⟨x5_25, e_x5_25⟩ : ∃ y : Int32, y = x5 + (1 : Int32) := ⟨_, rfl⟩
          refine lv_iinc (v := x5_25) (lv' := [(5, .int x5_25), (0, .ref (ad 0)), (1, .int x1), (2, .int x2), (3, .int x3), (4, .int x4), (6, .int x6), (7, .int x7), (8, .int x8)]) hx hb dX8_rule_156 hl (k := 5) rfl (by rw [e_x5_25]; rfl) (by decide) rfl (fun ls hl => ?_)
          have h := h x5_25 e_x5_25
          refine lv_goto (tgt := 56) hx hb dX8_rule_159 (by decide) ?_
          exact hrc56 x5_25 m_state h _ _ _ hP hD hS (lv_sub hl [1, 2, 3, 4, 5, 0] rfl)
        · have h := h.2 c_24
          refine lv_aload_n hx hb dX8_rule_118 rfl (lv_at hl 0 rfl) ?_
          refine va_get (D := D) (ci := 7) (v := .ref (ad 1)) (C := RX8) (T := TX8) (N := 35) hx hb hts iX8 hown hK hP 0 rfl rfl 0 (Nat.le_of_ble_eq_true rfl) (hts _ fl_X8_7) (fun _ h9 => h9) rfl dX8_rule_119 ?_
          refine lv_bipush (v := (64 : Int32)) hx hb dX8_rule_122 (by decide) ?_
          refine lv_bipush (v := (12 : Int32)) hx hb dX8_rule_124 (by decide) ?_
          refine lv_iload hx hb dX8_rule_126 (lv_at hl 7 rfl) ?_
          refine lv_imul hx hb dX8_rule_128 ?_
          refine lv_iadd hx hb dX8_rule_129 ?_
          refine lv_iload hx hb dX8_rule_130 (lv_at hl 8 rfl) ?_
          refine lv_iadd hx hb dX8_rule_132 ?_
          refine lv_aload_n hx hb dX8_rule_133 rfl (lv_at hl 0 rfl) ?_
          refine va_get (D := D) (ci := 7) (v := .ref (ad 1)) (C := RX8) (T := TX8) (N := 35) hx hb hts iX8 hown hK hP 0 rfl rfl 0 (Nat.le_of_ble_eq_true rfl) (hts _ fl_X8_7) (fun _ h9 => h9) rfl dX8_rule_134 ?_
          refine lv_bipush (v := (10 : Int32)) hx hb dX8_rule_137 (by decide) ?_
          refine lv_bipush (v := (12 : Int32)) hx hb dX8_rule_139 (by decide) ?_
          refine lv_iload hx hb dX8_rule_141 (lv_at hl 6 rfl) ?_
          refine lv_imul hx hb dX8_rule_143 ?_
          refine lv_iadd hx hb dX8_rule_144 ?_
          refine lv_iload hx hb dX8_rule_145 (lv_at hl 8 rfl) ?_
          refine lv_iadd hx hb dX8_rule_147 ?_
          obtain ⟨hi_26, h⟩ := h
          refine va_iald hx hb hK hP 1 0 rfl rfl hi_26 dX8_rule_148 ?_
          obtain ⟨hi_27, h⟩ := h
          refine va_iast hx hb hK hP hD hS 1 0 rfl rfl hi_27 dX8_rule_149 (fun H locs hP hD hS => ?_)
          have hP : va_P D vwCl [((ad 0), oX8 ad m_said m_waved m_places m_end m_joints m_netPlaces m_begin m_finish m_rounds m_sews), ((ad 1), aI cy 112 (upd m_state (((64 : Int32) + ((12 : Int32) * x7)) + x8).toNatClampNeg (m_state (((10 : Int32) + ((12 : Int32) * x6)) + x8).toNatClampNeg)))] H := hP
          have hD : va_D A [((ad 0), oX8 ad m_said m_waved m_places m_end m_joints m_netPlaces m_begin m_finish m_rounds m_sews), ((ad 1), aI cy 112 (upd m_state (((64 : Int32) + ((12 : Int32) * x7)) + x8).toNatClampNeg (m_state (((10 : Int32) + ((12 : Int32) * x6)) + x8).toNatClampNeg)))] := hD
          obtain ⟨x8_28, e_x8_28⟩ : ∃ y : Int32, y = x8 + (1 : Int32) := ⟨_, rfl⟩
          refine lv_iinc (v := x8_28) (lv' := [(8, .int x8_28), (0, .ref (ad 0)), (1, .int x1), (2, .int x2), (3, .int x3), (4, .int x4), (5, .int x5), (6, .int x6), (7, .int x7)]) hx hb dX8_rule_150 hl (k := 8) rfl (by rw [e_x8_28]; rfl) (by decide) rfl (fun ls hl => ?_)
          have h := h x8_28 e_x8_28
          refine lv_goto (tgt := 111) hx hb dX8_rule_153 (by decide) ?_
          exact hrc111 x8_28 (upd m_state (((64 : Int32) + ((12 : Int32) * x7)) + x8).toNatClampNeg (m_state (((10 : Int32) + ((12 : Int32) * x6)) + x8).toNatClampNeg)) h _ _ _ hP hD hS (lv_sub hl [1, 2, 3, 4, 5, 6, 7, 8, 0] rfl)
    exact key nn x8 m_state h
  have hJ78 : ∀ (x1 : Int32) (x2 : Int32) (x3 : Int32) (x4 : Int32) (x5 : Int32) (t0 : Int32) (m_state : Nat → Int32) (rc56 : Int32 → (Nat → Int32) → Prop) (hrc56 : ∀ (x5 : Int32) (m_state : Nat → Int32), rc56 x5 m_state → ∀ (H : Heap) (locs : List Loc) (ls : Array Slot), va_P D vwCl [((ad 0), oX8 ad m_said m_waved m_places m_end m_joints m_netPlaces m_begin m_finish m_rounds m_sews), ((ad 1), aI cy 112 m_state)] H → va_D A [((ad 0), oX8 ad m_said m_waved m_places m_end m_joints m_netPlaces m_begin m_finish m_rounds m_sews), ((ad 1), aI cy 112 m_state)] → va_S A s.heap H locs → lv_has ls 9 [(0, .ref (ad 0)), (1, .int x1), (2, .int x2), (3, .int x3), (4, .int x4), (5, .int x5)] → W p l e { frames := 2, cells := 0, slots := 0, locals := 42 } s m args below meth c H locs 0 0 (MQ below ((fun A => va_Qi (fun (r : Int32) (u : (Nat → Int32)) => Q r u) (zE D vwCl A (fun (u : (Nat → Int32)) => [((ad 0), oX8 ad m_said m_waved m_places m_end m_joints m_netPlaces m_begin m_finish m_rounds m_sews), ((ad 1), aI cy 112 u)])) A) A) args s 0 0 A) (F0 m 56 ls [])), wp_X8_rule_78 x1 x2 x3 x4 x5 t0 m_state rc56 Q → ∀ (H : Heap) (locs : List Loc) (ls : Array Slot), va_P D vwCl [((ad 0), oX8 ad m_said m_waved m_places m_end m_joints m_netPlaces m_begin m_finish m_rounds m_sews), ((ad 1), aI cy 112 m_state)] H → va_D A [((ad 0), oX8 ad m_said m_waved m_places m_end m_joints m_netPlaces m_begin m_finish m_rounds m_sews), ((ad 1), aI cy 112 m_state)] → va_S A s.heap H locs → lv_has ls 9 [(0, .ref (ad 0)), (1, .int x1), (2, .int x2), (3, .int x3), (4, .int x4), (5, .int x5)] → W p l e { frames := 2, cells := 0, slots := 0, locals := 42 } s m args below meth c H locs 0 0 (MQ below ((fun A => va_Qi (fun (r : Int32) (u : (Nat → Int32)) => Q r u) (zE D vwCl A (fun (u : (Nat → Int32)) => [((ad 0), oX8 ad m_said m_waved m_places m_end m_joints m_netPlaces m_begin m_finish m_rounds m_sews), ((ad 1), aI cy 112 u)])) A) A) args s 0 0 A) (F0 m 78 ls [.int t0]) := by
    intro x1 x2 x3 x4 x5 t0 m_state rc56 hrc56  h H locs ls hP hD hS hl
    unfold wp_X8_rule_78 at h
    refine lv_istore (lv' := [(6, .int t0), (0, .ref (ad 0)), (1, .int x1), (2, .int x2), (3, .int x3), (4, .int x4), (5, .int x5)]) hx hb dX8_rule_78 hl (by decide) rfl (fun ls hl => ?_)
    refine lv_iconst (v := (2 : Int32)) hx hb dX8_rule_80 (by decide) ?_
    refine lv_iload_n hx hb dX8_rule_81 rfl (lv_at hl 2 rfl) ?_
    refine lv_imul hx hb dX8_rule_82 ?_
    refine lv_iload hx hb dX8_rule_83 (lv_at hl 6 rfl) ?_
    refine lv_iadd hx hb dX8_rule_85 ?_
    refine lv_topi (fun x7_29 e_x7_29 => ?_)
    have h := h x7_29 e_x7_29
    refine lv_istore (lv' := [(7, .int x7_29), (6, .int t0), (0, .ref (ad 0)), (1, .int x1), (2, .int x2), (3, .int x3), (4, .int x4), (5, .int x5)]) hx hb dX8_rule_86 hl (by decide) rfl (fun ls hl => ?_)
    refine lv_aload_n hx hb dX8_rule_88 rfl (lv_at hl 2 rfl) ?_
    refine va_get (D := D) (ci := 7) (v := .ref (ad 1)) (C := RX8) (T := TX8) (N := 35) hx hb hts iX8 hown hK hP 0 rfl rfl 0 (Nat.le_of_ble_eq_true rfl) (hts _ fl_X8_7) (fun _ h9 => h9) rfl dX8_rule_89 ?_
    refine lv_bipush (v := (60 : Int32)) hx hb dX8_rule_92 (by decide) ?_
    refine lv_iload hx hb dX8_rule_94 (lv_at hl 0 rfl) ?_
    refine lv_iadd hx hb dX8_rule_96 ?_
    refine lv_aload_n hx hb dX8_rule_97 rfl (lv_at hl 2 rfl) ?_
    refine va_get (D := D) (ci := 7) (v := .ref (ad 1)) (C := RX8) (T := TX8) (N := 35) hx hb hts iX8 hown hK hP 0 rfl rfl 0 (Nat.le_of_ble_eq_true rfl) (hts _ fl_X8_7) (fun _ h9 => h9) rfl dX8_rule_98 ?_
    refine lv_bipush (v := (6 : Int32)) hx hb dX8_rule_101 (by decide) ?_
    refine lv_iload hx hb dX8_rule_103 (lv_at hl 1 rfl) ?_
    refine lv_iadd hx hb dX8_rule_105 ?_
    obtain ⟨hi_30, h⟩ := h
    refine va_iald hx hb hK hP 1 0 rfl rfl hi_30 dX8_rule_106 ?_
    obtain ⟨hi_31, h⟩ := h
    refine va_iast hx hb hK hP hD hS 1 0 rfl rfl hi_31 dX8_rule_107 (fun H locs hP hD hS => ?_)
    have hP : va_P D vwCl [((ad 0), oX8 ad m_said m_waved m_places m_end m_joints m_netPlaces m_begin m_finish m_rounds m_sews), ((ad 1), aI cy 112 (upd m_state ((60 : Int32) + x7_29).toNatClampNeg (m_state ((6 : Int32) + t0).toNatClampNeg)))] H := hP
    have hD : va_D A [((ad 0), oX8 ad m_said m_waved m_places m_end m_joints m_netPlaces m_begin m_finish m_rounds m_sews), ((ad 1), aI cy 112 (upd m_state ((60 : Int32) + x7_29).toNatClampNeg (m_state ((6 : Int32) + t0).toNatClampNeg)))] := hD
    refine lv_iconst (v := (0 : Int32)) hx hb dX8_rule_108 (by decide) ?_
    refine lv_istore (lv' := [(8, .int (0 : Int32)), (7, .int x7_29), (6, .int t0), (0, .ref (ad 0)), (1, .int x1), (2, .int x2), (3, .int x3), (4, .int x4), (5, .int x5)]) hx hb dX8_rule_109 hl (by decide) rfl (fun ls hl => ?_)
    exact hJ111 x1 x2 x3 x4 x5 t0 x7_29 (0 : Int32) (upd m_state ((60 : Int32) + x7_29).toNatClampNeg (m_state ((6 : Int32) + t0).toNatClampNeg)) _ hrc56  h _ _ _ hP hD hS (lv_sub hl [3, 4, 5, 6, 7, 8, 2, 1, 0] rfl)
  have hJ162 : ∀ (m_state : Nat → Int32), wp_X8_rule_162 m_state  Q → ∀ (H : Heap) (locs : List Loc) (ls : Array Slot), va_P D vwCl [((ad 0), oX8 ad m_said m_waved m_places m_end m_joints m_netPlaces m_begin m_finish m_rounds m_sews), ((ad 1), aI cy 112 m_state)] H → va_D A [((ad 0), oX8 ad m_said m_waved m_places m_end m_joints m_netPlaces m_begin m_finish m_rounds m_sews), ((ad 1), aI cy 112 m_state)] → va_S A s.heap H locs → lv_has ls 9 [(0, .ref (ad 0))] → W p l e { frames := 2, cells := 0, slots := 0, locals := 42 } s m args below meth c H locs 0 0 (MQ below ((fun A => va_Qi (fun (r : Int32) (u : (Nat → Int32)) => Q r u) (zE D vwCl A (fun (u : (Nat → Int32)) => [((ad 0), oX8 ad m_said m_waved m_places m_end m_joints m_netPlaces m_begin m_finish m_rounds m_sews), ((ad 1), aI cy 112 u)])) A) A) args s 0 0 A) (F0 m 162 ls []) := by
    intro m_state   h H locs ls hP hD hS hl
    unfold wp_X8_rule_162 at h
    refine lv_aload_n hx hb dX8_rule_162 rfl (lv_at hl 0 rfl) ?_
    refine va_get (D := D) (ci := 7) (v := .ref (ad 1)) (C := RX8) (T := TX8) (N := 35) hx hb hts iX8 hown hK hP 0 rfl rfl 0 (Nat.le_of_ble_eq_true rfl) (hts _ fl_X8_7) (fun _ h9 => h9) rfl dX8_rule_163 ?_
    refine lv_bipush (v := (58 : Int32)) hx hb dX8_rule_166 (by decide) ?_
    obtain ⟨hi_32, h⟩ := h
    refine va_iald hx hb hK hP 1 0 rfl rfl hi_32 dX8_rule_168 ?_
    refine lv_aload_n hx hb dX8_rule_169 rfl (lv_at hl 0 rfl) ?_
    refine va_get (D := D) (ci := 7) (v := .ref (ad 1)) (C := RX8) (T := TX8) (N := 35) hx hb hts iX8 hown hK hP 0 rfl rfl 0 (Nat.le_of_ble_eq_true rfl) (hts _ fl_X8_7) (fun _ h9 => h9) rfl dX8_rule_170 ?_
    refine lv_bipush (v := (59 : Int32)) hx hb dX8_rule_173 (by decide) ?_
    obtain ⟨hi_33, h⟩ := h
    refine va_iald hx hb hK hP 1 0 rfl rfl hi_33 dX8_rule_175 ?_
    refine lv_iadd hx hb dX8_rule_176 ?_
    exact z_iret m_state hx hb hr hlocks h hP hD hS dX8_rule_177
  have hJ56 : ∀ (x1 : Int32) (x2 : Int32) (x3 : Int32) (x4 : Int32) (x5 : Int32) (m_state : Nat → Int32), wp_X8_rule_56 x1 x2 x3 x4  Q x5 m_state → ∀ (H : Heap) (locs : List Loc) (ls : Array Slot), va_P D vwCl [((ad 0), oX8 ad m_said m_waved m_places m_end m_joints m_netPlaces m_begin m_finish m_rounds m_sews), ((ad 1), aI cy 112 m_state)] H → va_D A [((ad 0), oX8 ad m_said m_waved m_places m_end m_joints m_netPlaces m_begin m_finish m_rounds m_sews), ((ad 1), aI cy 112 m_state)] → va_S A s.heap H locs → lv_has ls 9 [(0, .ref (ad 0)), (1, .int x1), (2, .int x2), (3, .int x3), (4, .int x4), (5, .int x5)] → W p l e { frames := 2, cells := 0, slots := 0, locals := 42 } s m args below meth c H locs 0 0 (MQ below ((fun A => va_Qi (fun (r : Int32) (u : (Nat → Int32)) => Q r u) (zE D vwCl A (fun (u : (Nat → Int32)) => [((ad 0), oX8 ad m_said m_waved m_places m_end m_joints m_netPlaces m_begin m_finish m_rounds m_sews), ((ad 1), aI cy 112 u)])) A) A) args s 0 0 A) (F0 m 56 ls []) := by
    intro x1 x2 x3 x4 x5 m_state   h
    obtain ⟨nn, h⟩ := h
    have key : ∀ (nn : Nat) (x5 : Int32) (m_state : Nat → Int32), lpW2 (wb_X8_rule_56 x1 x2 x3 x4  Q) nn x5 m_state → ∀ (H : Heap) (locs : List Loc) (ls : Array Slot), va_P D vwCl [((ad 0), oX8 ad m_said m_waved m_places m_end m_joints m_netPlaces m_begin m_finish m_rounds m_sews), ((ad 1), aI cy 112 m_state)] H → va_D A [((ad 0), oX8 ad m_said m_waved m_places m_end m_joints m_netPlaces m_begin m_finish m_rounds m_sews), ((ad 1), aI cy 112 m_state)] → va_S A s.heap H locs → lv_has ls 9 [(0, .ref (ad 0)), (1, .int x1), (2, .int x2), (3, .int x3), (4, .int x4), (5, .int x5)] → W p l e { frames := 2, cells := 0, slots := 0, locals := 42 } s m args below meth c H locs 0 0 (MQ below ((fun A => va_Qi (fun (r : Int32) (u : (Nat → Int32)) => Q r u) (zE D vwCl A (fun (u : (Nat → Int32)) => [((ad 0), oX8 ad m_said m_waved m_places m_end m_joints m_netPlaces m_begin m_finish m_rounds m_sews), ((ad 1), aI cy 112 u)])) A) A) args s 0 0 A) (F0 m 56 ls []) := by
      intro nn
      induction nn with
      | zero => intro x5 m_state h; exact h.elim
      | succ nn hrc56 =>
        intro x5 m_state h H locs ls hP hD hS hl
        have h : wb_X8_rule_56 x1 x2 x3 x4  Q (lpW2 (wb_X8_rule_56 x1 x2 x3 x4  Q) nn) x5 m_state := h
        unfold wb_X8_rule_56 at h
        refine lv_iload hx hb dX8_rule_56 (lv_at hl 5 rfl) ?_
        refine lv_iconst (v := (2 : Int32)) hx hb dX8_rule_58 (by decide) ?_
        refine lv_icmp_ge (tgt := 162) hx hb dX8_rule_59 (by decide) (fun c_34 => ?_) (fun c_34 => ?_)
        · have h := h.1 c_34
          exact hJ162 m_state   h _ _ _ hP hD hS (lv_sub hl [0] rfl)
        · have h := h.2 c_34
          refine lv_iload_n hx hb dX8_rule_62 rfl (lv_at hl 2 rfl) ?_
          refine lv_iconst (v := (1 : Int32)) hx hb dX8_rule_63 (by decide) ?_
          refine lv_icmp_ne (tgt := 162) hx hb dX8_rule_64 (by decide) (fun c_35 => ?_) (fun c_35 => ?_)
          · have h := h.1 c_35
            exact hJ162 m_state   h _ _ _ hP hD hS (lv_sub hl [0] rfl)
          · have h := h.2 c_35
            refine lv_iload hx hb dX8_rule_67 (lv_at hl 5 rfl) ?_
            refine lv_if_ne (tgt := 76) hx hb dX8_rule_69 (by decide) (fun c_36 => ?_) (fun c_36 => ?_)
            · have h := h.1 c_36
              refine lv_iload hx hb dX8_rule_76 (lv_at hl 4 rfl) ?_
              exact hJ78 x1 x2 x3 x4 x5 x4 m_state _ hrc56  h _ _ _ hP hD hS (lv_sub hl [0, 1, 2, 3, 4, 5] rfl)
            · have h := h.2 c_36
              refine lv_iload_n hx hb dX8_rule_72 rfl (lv_at hl 3 rfl) ?_
              refine lv_goto (tgt := 78) hx hb dX8_rule_73 (by decide) ?_
              exact hJ78 x1 x2 x3 x4 x5 x3 m_state _ hrc56  h _ _ _ hP hD hS (lv_sub hl [0, 1, 2, 3, 4, 5] rfl)
    exact key nn x5 m_state h
  have hJ43 : ∀ (x1 : Int32) (x2 : Int32) (x3 : Int32) (x4 : Int32) (m_state : Nat → Int32), wp_X8_rule_43 x1 x2 x3 x4 m_state  Q → ∀ (H : Heap) (locs : List Loc) (ls : Array Slot), va_P D vwCl [((ad 0), oX8 ad m_said m_waved m_places m_end m_joints m_netPlaces m_begin m_finish m_rounds m_sews), ((ad 1), aI cy 112 m_state)] H → va_D A [((ad 0), oX8 ad m_said m_waved m_places m_end m_joints m_netPlaces m_begin m_finish m_rounds m_sews), ((ad 1), aI cy 112 m_state)] → va_S A s.heap H locs → lv_has ls 9 [(0, .ref (ad 0)), (1, .int x1), (2, .int x2), (3, .int x3), (4, .int x4)] → W p l e { frames := 2, cells := 0, slots := 0, locals := 42 } s m args below meth c H locs 0 0 (MQ below ((fun A => va_Qi (fun (r : Int32) (u : (Nat → Int32)) => Q r u) (zE D vwCl A (fun (u : (Nat → Int32)) => [((ad 0), oX8 ad m_said m_waved m_places m_end m_joints m_netPlaces m_begin m_finish m_rounds m_sews), ((ad 1), aI cy 112 u)])) A) A) args s 0 0 A) (F0 m 43 ls []) := by
    intro x1 x2 x3 x4 m_state   h H locs ls hP hD hS hl
    unfold wp_X8_rule_43 at h
    refine lv_aload_n hx hb dX8_rule_43 rfl (lv_at hl 0 rfl) ?_
    refine va_get (D := D) (ci := 7) (v := .ref (ad 1)) (C := RX8) (T := TX8) (N := 35) hx hb hts iX8 hown hK hP 0 rfl rfl 0 (Nat.le_of_ble_eq_true rfl) (hts _ fl_X8_7) (fun _ h9 => h9) rfl dX8_rule_44 ?_
    refine lv_bipush (v := (58 : Int32)) hx hb dX8_rule_47 (by decide) ?_
    refine lv_iload_n hx hb dX8_rule_49 rfl (lv_at hl 1 rfl) ?_
    refine lv_iadd hx hb dX8_rule_50 ?_
    refine lv_iload_n hx hb dX8_rule_51 rfl (lv_at hl 2 rfl) ?_
    obtain ⟨hi_37, h⟩ := h
    refine va_iast hx hb hK hP hD hS 1 0 rfl rfl hi_37 dX8_rule_52 (fun H locs hP hD hS => ?_)
    have hP : va_P D vwCl [((ad 0), oX8 ad m_said m_waved m_places m_end m_joints m_netPlaces m_begin m_finish m_rounds m_sews), ((ad 1), aI cy 112 (upd m_state ((58 : Int32) + x1).toNatClampNeg x2))] H := hP
    have hD : va_D A [((ad 0), oX8 ad m_said m_waved m_places m_end m_joints m_netPlaces m_begin m_finish m_rounds m_sews), ((ad 1), aI cy 112 (upd m_state ((58 : Int32) + x1).toNatClampNeg x2))] := hD
    refine lv_iconst (v := (0 : Int32)) hx hb dX8_rule_53 (by decide) ?_
    refine lv_istore (lv' := [(5, .int (0 : Int32)), (0, .ref (ad 0)), (1, .int x1), (2, .int x2), (3, .int x3), (4, .int x4)]) hx hb dX8_rule_54 hl (by decide) rfl (fun ls hl => ?_)
    exact hJ56 x1 x2 x3 x4 (0 : Int32) (upd m_state ((58 : Int32) + x1).toNatClampNeg x2)   h _ _ _ hP hD hS (lv_sub hl [1, 2, 3, 4, 5, 0] rfl)
  unfold wp_X8_rule at h
  refine lv_iload_n hx hb dX8_rule_0 rfl (lv_at hl 1 rfl) ?_
  refine lv_iconst (v := (0 : Int32)) hx hb dX8_rule_1 (by decide) ?_
  refine lv_iconst (v := (1 : Int32)) hx hb dX8_rule_2 (by decide) ?_
  refine zc_S0 (As := [.int x1, .int (0 : Int32), .int (1 : Int32)]) (rest := []) hx hb hml hown hts hK hPW hA hl.1 hP hS ⟨Nat.zero_le _, Nat.zero_le _⟩ (c_X8_in l D cy (sz := _) (x0 := x1) (x1 := (0 : Int32)) (x2 := (1 : Int32)) (h := h)) k_X8_91 ⟨rfl, rfl, (Nat.le_of_ble_eq_true rfl), (Nat.le_of_ble_eq_true rfl)⟩ rfl rfl (Nat.le_of_ble_eq_true rfl) dX8_rule_3 (fun r_38 H locs h hP hS => ?_)
  refine lv_if_eq (tgt := 18) hx hb dX8_rule_6 (by decide) (fun c_39 => ?_) (fun c_39 => ?_)
  · have h := h.1 c_39
    refine lv_bipush (v := (-2 : Int32)) hx hb dX8_rule_18 (by decide) ?_
    exact z_iret m_state hx hb hr hlocks h hP hD hS dX8_rule_20
  · have h := h.2 c_39
    refine lv_iload_n hx hb dX8_rule_9 rfl (lv_at hl 2 rfl) ?_
    refine lv_iconst (v := (0 : Int32)) hx hb dX8_rule_10 (by decide) ?_
    refine lv_iconst (v := (1 : Int32)) hx hb dX8_rule_11 (by decide) ?_
    refine zc_S0 (As := [.int x2, .int (0 : Int32), .int (1 : Int32)]) (rest := []) hx hb hml hown hts hK hPW hA hl.1 hP hS ⟨Nat.zero_le _, Nat.zero_le _⟩ (c_X8_in l D cy (sz := _) (x0 := x2) (x1 := (0 : Int32)) (x2 := (1 : Int32)) (h := h)) k_X8_91 ⟨rfl, rfl, (Nat.le_of_ble_eq_true rfl), (Nat.le_of_ble_eq_true rfl)⟩ rfl rfl (Nat.le_of_ble_eq_true rfl) dX8_rule_12 (fun r_40 H locs h hP hS => ?_)
    refine lv_if_ne (tgt := 21) hx hb dX8_rule_15 (by decide) (fun c_41 => ?_) (fun c_41 => ?_)
    · have h := h.1 c_41
      refine lv_iload_n hx hb dX8_rule_21 rfl (lv_at hl 2 rfl) ?_
      refine lv_iconst (v := (1 : Int32)) hx hb dX8_rule_22 (by decide) ?_
      refine lv_icmp_ne (tgt := 43) hx hb dX8_rule_23 (by decide) (fun c_42 => ?_) (fun c_42 => ?_)
      · have h := h.1 c_42
        exact hJ43 x1 x2 x3 x4 m_state   h _ _ _ hP hD hS (lv_sub hl [0, 1, 2, 3, 4] rfl)
      · have h := h.2 c_42
        refine lv_iload_n hx hb dX8_rule_26 rfl (lv_at hl 3 rfl) ?_
        refine zc_S0 (As := [.int x3]) (rest := []) hx hb hml hown hts hK hPW hA hl.1 hP hS ⟨Nat.zero_le _, Nat.zero_le _⟩ (c_X8_isWord l D cy (sz := _) (x0 := x3) (h := h)) k_X8_151 ⟨rfl, rfl, (Nat.le_of_ble_eq_true rfl), (Nat.le_of_ble_eq_true rfl)⟩ rfl rfl (Nat.le_of_ble_eq_true rfl) dX8_rule_27 (fun r_43 H locs h hP hS => ?_)
        refine lv_if_eq (tgt := 41) hx hb dX8_rule_30 (by decide) (fun c_44 => ?_) (fun c_44 => ?_)
        · have h := h.1 c_44
          refine lv_iconst (v := (-1 : Int32)) hx hb dX8_rule_41 (by decide) ?_
          exact z_iret m_state hx hb hr hlocks h hP hD hS dX8_rule_42
        · have h := h.2 c_44
          refine lv_iload hx hb dX8_rule_33 (lv_at hl 4 rfl) ?_
          refine zc_S0 (As := [.int x4]) (rest := []) hx hb hml hown hts hK hPW hA hl.1 hP hS ⟨Nat.zero_le _, Nat.zero_le _⟩ (c_X8_isWord l D cy (sz := _) (x0 := x4) (h := h)) k_X8_151 ⟨rfl, rfl, (Nat.le_of_ble_eq_true rfl), (Nat.le_of_ble_eq_true rfl)⟩ rfl rfl (Nat.le_of_ble_eq_true rfl) dX8_rule_35 (fun r_45 H locs h hP hS => ?_)
          refine lv_if_ne (tgt := 43) hx hb dX8_rule_38 (by decide) (fun c_46 => ?_) (fun c_46 => ?_)
          · have h := h.1 c_46
            exact hJ43 x1 x2 x3 x4 m_state   h _ _ _ hP hD hS (lv_sub hl [0, 1, 2, 3, 4] rfl)
          · have h := h.2 c_46
            refine lv_iconst (v := (-1 : Int32)) hx hb dX8_rule_41 (by decide) ?_
            exact z_iret m_state hx hb hr hlocks h hP hD hS dX8_rule_42
    · have h := h.2 c_41
      refine lv_bipush (v := (-2 : Int32)) hx hb dX8_rule_18 (by decide) ?_
      exact z_iret m_state hx hb hr hlocks h hP hD hS dX8_rule_20
set_option maxHeartbeats 4000000 in
set_option maxRecDepth 100000 in
theorem c_X8_oneOf (l : Launch) (D : va_G) (cy : Nat → ClassId) (ad : Nat → Nat) (sz : Nat) (m_said : Int32) (m_waved : Int32) (m_places : Int32) (m_end : Int32) (m_joints : Int32) (m_netPlaces : Int32) (m_begin : Int32) (m_finish : Int32) (m_rounds : Int32) (m_sews : Int32) (m_one : Nat → Int32) (x1 : Int32) {Q : Int32 → (Nat → Int32) → Prop} (h : wp_X8_oneOf x1 m_one Q) : Met l yX8_oneOf (wsU yX8_oneOf cX8_oneOf 3 (some .int)) { frames := 0, cells := 0, slots := 0, locals := 0 } (va_Pc [.ref (ad 0), .int x1] (zB D vwCl (tyU cy) [((ad 0), oX8 ad m_said m_waved m_places m_end m_joints m_netPlaces m_begin m_finish m_rounds m_sews), ((ad 20), aI cy 1400 m_one)] sz)) ((fun A => va_Qi (fun (r : Int32) (u : (Nat → Int32)) => Q r u) (zE D vwCl A (fun (u : (Nat → Int32)) => [((ad 0), oX8 ad m_said m_waved m_places m_end m_joints m_netPlaces m_begin m_finish m_rounds m_sews), ((ad 20), aI cy 1400 u)])) A) (va_A [((ad 0), oX8 ad m_said m_waved m_places m_end m_joints m_netPlaces m_begin m_finish m_rounds m_sews), ((ad 20), aI cy 1400 m_one)] sz)) 0 0 (va_A [((ad 0), oX8 ad m_said m_waved m_places m_end m_joints m_netPlaces m_begin m_finish m_rounds m_sews), ((ad 20), aI cy 1400 m_one)] sz) := by
  refine z_ofX (fun A => va_Qi (fun (r : Int32) (u : (Nat → Int32)) => Q r u) (zE D vwCl A (fun (u : (Nat → Int32)) => [((ad 0), oX8 ad m_said m_waved m_places m_end m_joints m_netPlaces m_begin m_finish m_rounds m_sews), ((ad 20), aI cy 1400 u)])) A) (by decide) (Nat.le_of_ble_eq_true rfl) (fun p e s m below meth c A ls hx hb hr hml hown hts hlocks hK hPW hA hP hD hS hl => ?_)
  have hl : lv_has ls 3 [(0, .ref (ad 0)), (1, .int x1)] := hl
  have hown : s.vm.findClass RX8 = some m.cls := hown
  generalize hArg : ([.ref (ad 0), .int x1] : List Value).toArray = args at hts ⊢
  have hJ2 : ∀ (x2 : Int32) (m_one : Nat → Int32), wp_X8_oneOf_2   Q x2 m_one → ∀ (H : Heap) (locs : List Loc) (ls : Array Slot), va_P D vwCl [((ad 0), oX8 ad m_said m_waved m_places m_end m_joints m_netPlaces m_begin m_finish m_rounds m_sews), ((ad 20), aI cy 1400 m_one)] H → va_D A [((ad 0), oX8 ad m_said m_waved m_places m_end m_joints m_netPlaces m_begin m_finish m_rounds m_sews), ((ad 20), aI cy 1400 m_one)] → va_S A s.heap H locs → lv_has ls 3 [(0, .ref (ad 0)), (2, .int x2)] → W p l e { frames := 0, cells := 0, slots := 0, locals := 0 } s m args below meth c H locs 0 0 (MQ below ((fun A => va_Qi (fun (r : Int32) (u : (Nat → Int32)) => Q r u) (zE D vwCl A (fun (u : (Nat → Int32)) => [((ad 0), oX8 ad m_said m_waved m_places m_end m_joints m_netPlaces m_begin m_finish m_rounds m_sews), ((ad 20), aI cy 1400 u)])) A) A) args s 0 0 A) (F0 m 2 ls []) := by
    intro x2 m_one   h
    obtain ⟨nn, h⟩ := h
    have key : ∀ (nn : Nat) (x2 : Int32) (m_one : Nat → Int32), lpW2 (wb_X8_oneOf_2   Q) nn x2 m_one → ∀ (H : Heap) (locs : List Loc) (ls : Array Slot), va_P D vwCl [((ad 0), oX8 ad m_said m_waved m_places m_end m_joints m_netPlaces m_begin m_finish m_rounds m_sews), ((ad 20), aI cy 1400 m_one)] H → va_D A [((ad 0), oX8 ad m_said m_waved m_places m_end m_joints m_netPlaces m_begin m_finish m_rounds m_sews), ((ad 20), aI cy 1400 m_one)] → va_S A s.heap H locs → lv_has ls 3 [(0, .ref (ad 0)), (2, .int x2)] → W p l e { frames := 0, cells := 0, slots := 0, locals := 0 } s m args below meth c H locs 0 0 (MQ below ((fun A => va_Qi (fun (r : Int32) (u : (Nat → Int32)) => Q r u) (zE D vwCl A (fun (u : (Nat → Int32)) => [((ad 0), oX8 ad m_said m_waved m_places m_end m_joints m_netPlaces m_begin m_finish m_rounds m_sews), ((ad 20), aI cy 1400 u)])) A) A) args s 0 0 A) (F0 m 2 ls []) := by
      intro nn
      induction nn with
      | zero => intro x2 m_one h; exact h.elim
      | succ nn hrc2 =>
        intro x2 m_one h H locs ls hP hD hS hl
        have h : wb_X8_oneOf_2   Q (lpW2 (wb_X8_oneOf_2   Q) nn) x2 m_one := h
        unfold wb_X8_oneOf_2 at h
        refine lv_aload_n hx hb dX8_oneOf_2 rfl (lv_at hl 0 rfl) ?_
        refine va_get (D := D) (ci := 7) (v := .ref (ad 20)) (C := RX8) (T := TX8) (N := 35) hx hb hts iX8 hown hK hP 0 rfl rfl 28 (Nat.le_of_ble_eq_true rfl) (hts _ fl_X8_69) (fun _ h9 => h9) rfl dX8_oneOf_3 ?_
        refine lv_iload_n hx hb dX8_oneOf_6 rfl (lv_at hl 1 rfl) ?_
        obtain ⟨hi_8, h⟩ := h
        refine va_iald hx hb hK hP 1 0 rfl rfl hi_8 dX8_oneOf_7 ?_
        refine lv_iload_n hx hb dX8_oneOf_8 rfl (lv_at hl 1 rfl) ?_
        refine lv_icmp_eq (tgt := 39) hx hb dX8_oneOf_9 (by decide) (fun c_9 => ?_) (fun c_9 => ?_)
        · have h := h.1 c_9
          refine lv_iload_n hx hb dX8_oneOf_39 rfl (lv_at hl 1 rfl) ?_
          exact z_iret m_one hx hb hr hlocks h hP hD hS dX8_oneOf_40
        · have h := h.2 c_9
          refine lv_aload_n hx hb dX8_oneOf_12 rfl (lv_at hl 0 rfl) ?_
          refine va_get (D := D) (ci := 7) (v := .ref (ad 20)) (C := RX8) (T := TX8) (N := 35) hx hb hts iX8 hown hK hP 0 rfl rfl 28 (Nat.le_of_ble_eq_true rfl) (hts _ fl_X8_69) (fun _ h9 => h9) rfl dX8_oneOf_13 ?_
          refine lv_iload_n hx hb dX8_oneOf_16 rfl (lv_at hl 1 rfl) ?_
          refine lv_aload_n hx hb dX8_oneOf_17 rfl (lv_at hl 0 rfl) ?_
          refine va_get (D := D) (ci := 7) (v := .ref (ad 20)) (C := RX8) (T := TX8) (N := 35) hx hb hts iX8 hown hK hP 0 rfl rfl 28 (Nat.le_of_ble_eq_true rfl) (hts _ fl_X8_69) (fun _ h9 => h9) rfl dX8_oneOf_18 ?_
          refine lv_aload_n hx hb dX8_oneOf_21 rfl (lv_at hl 0 rfl) ?_
          refine va_get (D := D) (ci := 7) (v := .ref (ad 20)) (C := RX8) (T := TX8) (N := 35) hx hb hts iX8 hown hK hP 0 rfl rfl 28 (Nat.le_of_ble_eq_true rfl) (hts _ fl_X8_69) (fun _ h9 => h9) rfl dX8_oneOf_22 ?_
          refine lv_iload_n hx hb dX8_oneOf_25 rfl (lv_at hl 1 rfl) ?_
          obtain ⟨hi_10, h⟩ := h
          refine va_iald hx hb hK hP 1 0 rfl rfl hi_10 dX8_oneOf_26 ?_
          obtain ⟨hi_11, h⟩ := h
          refine va_iald hx hb hK hP 1 0 rfl rfl hi_11 dX8_oneOf_27 ?_
          obtain ⟨hi_12, h⟩ := h
          refine va_iast hx hb hK hP hD hS 1 0 rfl rfl hi_12 dX8_oneOf_28 (fun H locs hP hD hS => ?_)
          have hP : va_P D vwCl [((ad 0), oX8 ad m_said m_waved m_places m_end m_joints m_netPlaces m_begin m_finish m_rounds m_sews), ((ad 20), aI cy 1400 (upd m_one x2.toNatClampNeg (m_one (m_one x2.toNatClampNeg).toNatClampNeg)))] H := hP
          have hD : va_D A [((ad 0), oX8 ad m_said m_waved m_places m_end m_joints m_netPlaces m_begin m_finish m_rounds m_sews), ((ad 20), aI cy 1400 (upd m_one x2.toNatClampNeg (m_one (m_one x2.toNatClampNeg).toNatClampNeg)))] := hD
          refine lv_aload_n hx hb dX8_oneOf_29 rfl (lv_at hl 0 rfl) ?_
          refine va_get (D := D) (ci := 7) (v := .ref (ad 20)) (C := RX8) (T := TX8) (N := 35) hx hb hts iX8 hown hK hP 0 rfl rfl 28 (Nat.le_of_ble_eq_true rfl) (hts _ fl_X8_69) (fun _ h9 => h9) rfl dX8_oneOf_30 ?_
          refine lv_iload_n hx hb dX8_oneOf_33 rfl (lv_at hl 1 rfl) ?_
          obtain ⟨hi_13, h⟩ := h
          refine va_iald hx hb hK hP 1 0 rfl rfl hi_13 dX8_oneOf_34 ?_
          refine lv_topi (fun x2_14 e_x2_14 => ?_)
          have h := h x2_14 e_x2_14
          refine lv_istore_n (lv' := [(2, .int x2_14), (0, .ref (ad 0))]) hx hb dX8_oneOf_35 rfl hl (by decide) rfl (fun ls hl => ?_)
          refine lv_goto (tgt := 2) hx hb dX8_oneOf_36 (by decide) ?_
          exact hrc2 x2_14 (upd m_one x2.toNatClampNeg (m_one (m_one x2.toNatClampNeg).toNatClampNeg)) h _ _ _ hP hD hS (lv_sub hl [1, 0] rfl)
    exact key nn x2 m_one h
  unfold wp_X8_oneOf at h
  refine lv_iload_n hx hb dX8_oneOf_0 rfl (lv_at hl 1 rfl) ?_
  refine lv_istore_n (lv' := [(2, .int x1), (0, .ref (ad 0)), (1, .int x1)]) hx hb dX8_oneOf_1 rfl hl (by decide) rfl (fun ls hl => ?_)
  exact hJ2 x1 m_one   h _ _ _ hP hD hS (lv_sub hl [1, 0] rfl)
set_option maxHeartbeats 4000000 in
set_option maxRecDepth 100000 in
theorem c_X8_newPlace (l : Launch) (D : va_G) (cy : Nat → ClassId) (ad : Nat → Nat) (sz : Nat) (m_said : Int32) (m_waved : Int32) (m_places : Int32) (m_end : Int32) (m_joints : Int32) (m_netPlaces : Int32) (m_begin : Int32) (m_finish : Int32) (m_rounds : Int32) (m_sews : Int32) (m_one : Nat → Int32) {Q : Int32 → Int32 → (Nat → Int32) → Prop} (h : wp_X8_newPlace m_netPlaces m_one Q) : Met l yX8_newPlace (wsU yX8_newPlace cX8_newPlace 1 (some .int)) { frames := 0, cells := 0, slots := 0, locals := 0 } (va_Pc [.ref (ad 0)] (zB D vwCl (tyU cy) [((ad 0), oX8 ad m_said m_waved m_places m_end m_joints m_netPlaces m_begin m_finish m_rounds m_sews), ((ad 20), aI cy 1400 m_one)] sz)) ((fun A => va_Qi (fun (r : Int32) (u : Int32 × (Nat → Int32)) => ∃ (z0 : Int32) (z1 : Nat → Int32), u = (z0, z1) ∧ Q r z0 z1) (zE D vwCl A (fun (u : Int32 × (Nat → Int32)) => [((ad 0), oX8 ad m_said m_waved m_places m_end m_joints (u.1) m_begin m_finish m_rounds m_sews), ((ad 20), aI cy 1400 (u.2))])) A) (va_A [((ad 0), oX8 ad m_said m_waved m_places m_end m_joints m_netPlaces m_begin m_finish m_rounds m_sews), ((ad 20), aI cy 1400 m_one)] sz)) 0 0 (va_A [((ad 0), oX8 ad m_said m_waved m_places m_end m_joints m_netPlaces m_begin m_finish m_rounds m_sews), ((ad 20), aI cy 1400 m_one)] sz) := by
  refine z_ofX (fun A => va_Qi (fun (r : Int32) (u : Int32 × (Nat → Int32)) => ∃ (z0 : Int32) (z1 : Nat → Int32), u = (z0, z1) ∧ Q r z0 z1) (zE D vwCl A (fun (u : Int32 × (Nat → Int32)) => [((ad 0), oX8 ad m_said m_waved m_places m_end m_joints (u.1) m_begin m_finish m_rounds m_sews), ((ad 20), aI cy 1400 (u.2))])) A) (by decide) (Nat.le_of_ble_eq_true rfl) (fun p e s m below meth c A ls hx hb hr hml hown hts hlocks hK hPW hA hP hD hS hl => ?_)
  have hl : lv_has ls 1 [(0, .ref (ad 0))] := hl
  have hown : s.vm.findClass RX8 = some m.cls := hown
  unfold wp_X8_newPlace at h
  refine lv_aload_n hx hb dX8_newPlace_0 rfl (lv_at hl 0 rfl) ?_
  refine va_get (D := D) (ci := 7) (v := .ref (ad 20)) (C := RX8) (T := TX8) (N := 35) hx hb hts iX8 hown hK hP 0 rfl rfl 28 (Nat.le_of_ble_eq_true rfl) (hts _ fl_X8_69) (fun _ h9 => h9) rfl dX8_newPlace_1 ?_
  refine lv_aload_n hx hb dX8_newPlace_4 rfl (lv_at hl 0 rfl) ?_
  refine va_get (D := D) (ci := 7) (v := .int m_netPlaces) (C := RX8) (T := TX8) (N := 35) hx hb hts iX8 hown hK hP 0 rfl rfl 24 (Nat.le_of_ble_eq_true rfl) (hts _ fl_X8_226) (fun _ h9 => h9) rfl dX8_newPlace_5 ?_
  refine lv_aload_n hx hb dX8_newPlace_8 rfl (lv_at hl 0 rfl) ?_
  refine va_get (D := D) (ci := 7) (v := .int m_netPlaces) (C := RX8) (T := TX8) (N := 35) hx hb hts iX8 hown hK hP 0 rfl rfl 24 (Nat.le_of_ble_eq_true rfl) (hts _ fl_X8_226) (fun _ h9 => h9) rfl dX8_newPlace_9 ?_
  obtain ⟨hi_2, h⟩ := h
  refine va_iast hx hb hK hP hD hS 1 0 rfl rfl hi_2 dX8_newPlace_12 (fun H locs hP hD hS => ?_)
  have hP : va_P D vwCl [((ad 0), oX8 ad m_said m_waved m_places m_end m_joints m_netPlaces m_begin m_finish m_rounds m_sews), ((ad 20), aI cy 1400 (upd m_one m_netPlaces.toNatClampNeg m_netPlaces))] H := hP
  have hD : va_D A [((ad 0), oX8 ad m_said m_waved m_places m_end m_joints m_netPlaces m_begin m_finish m_rounds m_sews), ((ad 20), aI cy 1400 (upd m_one m_netPlaces.toNatClampNeg m_netPlaces))] := hD
  refine lv_aload_n hx hb dX8_newPlace_13 rfl (lv_at hl 0 rfl) ?_
  refine lv_dup hx hb dX8_newPlace_14 rfl ?_
  refine va_get (D := D) (ci := 7) (v := .int m_netPlaces) (C := RX8) (T := TX8) (N := 35) hx hb hts iX8 hown hK hP 0 rfl rfl 24 (Nat.le_of_ble_eq_true rfl) (hts _ fl_X8_226) (fun _ h9 => h9) rfl dX8_newPlace_15 ?_
  refine lv_iconst (v := (1 : Int32)) hx hb dX8_newPlace_18 (by decide) ?_
  refine lv_iadd hx hb dX8_newPlace_19 ?_
  refine va_put (D := D) (ci := 7) (v := .int (m_netPlaces + (1 : Int32))) (ty := .int) (C := RX8) (T := TX8) (N := 35) hx hb hts iX8 tyX8 tyX8_ok nmX8 hown hK hP hD hS 0 rfl rfl 24 (Nat.le_of_ble_eq_true rfl) (hts _ fl_X8_226) (fun _ h9 => h9) rfl (by decide +kernel) rfl rfl (Nat.le_of_ble_eq_true rfl) dX8_newPlace_20 (fun H locs hP hD hS => ?_)
  have hP : va_P D vwCl [((ad 0), oX8 ad m_said m_waved m_places m_end m_joints (m_netPlaces + (1 : Int32)) m_begin m_finish m_rounds m_sews), ((ad 20), aI cy 1400 (upd m_one m_netPlaces.toNatClampNeg m_netPlaces))] H := hP
  have hD : va_D A [((ad 0), oX8 ad m_said m_waved m_places m_end m_joints (m_netPlaces + (1 : Int32)) m_begin m_finish m_rounds m_sews), ((ad 20), aI cy 1400 (upd m_one m_netPlaces.toNatClampNeg m_netPlaces))] := hD
  refine lv_aload_n hx hb dX8_newPlace_23 rfl (lv_at hl 0 rfl) ?_
  refine va_get (D := D) (ci := 7) (v := .int (m_netPlaces + (1 : Int32))) (C := RX8) (T := TX8) (N := 35) hx hb hts iX8 hown hK hP 0 rfl rfl 24 (Nat.le_of_ble_eq_true rfl) (hts _ fl_X8_226) (fun _ h9 => h9) rfl dX8_newPlace_24 ?_
  refine lv_iconst (v := (1 : Int32)) hx hb dX8_newPlace_27 (by decide) ?_
  refine lv_isub hx hb dX8_newPlace_28 ?_
  exact z_iret ((m_netPlaces + (1 : Int32)), (upd m_one m_netPlaces.toNatClampNeg m_netPlaces)) hx hb hr hlocks ⟨(m_netPlaces + (1 : Int32)), (upd m_one m_netPlaces.toNatClampNeg m_netPlaces), rfl, h⟩ hP hD hS dX8_newPlace_29
set_option maxHeartbeats 4000000 in
set_option maxRecDepth 100000 in
theorem c_X8_addJoint (l : Launch) (D : va_G) (cy : Nat → ClassId) (ad : Nat → Nat) (sz : Nat) (m_said : Int32) (m_waved : Int32) (m_places : Int32) (m_end : Int32) (m_joints : Int32) (m_netPlaces : Int32) (m_begin : Int32) (m_finish : Int32) (m_rounds : Int32) (m_sews : Int32) (m_from : Nat → Int32) (m_by : Nat → Int32) (m_toward : Nat → Int32) (x1 : Int32) (x2 : Int32) (x3 : Int32) {Q : Int32 → (Nat → Int32) → (Nat → Int32) → (Nat → Int32) → Prop} (h : wp_X8_addJoint x1 x2 x3 m_joints m_from m_by m_toward Q) : Met l yX8_addJoint (wsU yX8_addJoint cX8_addJoint 4 none) { frames := 0, cells := 0, slots := 0, locals := 0 } (va_Pc [.ref (ad 0), .int x1, .int x2, .int x3] (zB D vwCl (tyU cy) [((ad 0), oX8 ad m_said m_waved m_places m_end m_joints m_netPlaces m_begin m_finish m_rounds m_sews), ((ad 17), aI cy 1400 m_from), ((ad 18), aI cy 1400 m_by), ((ad 19), aI cy 1400 m_toward)] sz)) ((fun A => va_Qv (fun (u : Int32 × (Nat → Int32) × (Nat → Int32) × (Nat → Int32)) => ∃ (z0 : Int32) (z1 : Nat → Int32) (z2 : Nat → Int32) (z3 : Nat → Int32), u = (z0, z1, z2, z3) ∧ Q z0 z1 z2 z3) (zE D vwCl A (fun (u : Int32 × (Nat → Int32) × (Nat → Int32) × (Nat → Int32)) => [((ad 0), oX8 ad m_said m_waved m_places m_end (u.1) m_netPlaces m_begin m_finish m_rounds m_sews), ((ad 17), aI cy 1400 (u.2.1)), ((ad 18), aI cy 1400 (u.2.2.1)), ((ad 19), aI cy 1400 (u.2.2.2))])) A) (va_A [((ad 0), oX8 ad m_said m_waved m_places m_end m_joints m_netPlaces m_begin m_finish m_rounds m_sews), ((ad 17), aI cy 1400 m_from), ((ad 18), aI cy 1400 m_by), ((ad 19), aI cy 1400 m_toward)] sz)) 0 0 (va_A [((ad 0), oX8 ad m_said m_waved m_places m_end m_joints m_netPlaces m_begin m_finish m_rounds m_sews), ((ad 17), aI cy 1400 m_from), ((ad 18), aI cy 1400 m_by), ((ad 19), aI cy 1400 m_toward)] sz) := by
  refine z_ofX (fun A => va_Qv (fun (u : Int32 × (Nat → Int32) × (Nat → Int32) × (Nat → Int32)) => ∃ (z0 : Int32) (z1 : Nat → Int32) (z2 : Nat → Int32) (z3 : Nat → Int32), u = (z0, z1, z2, z3) ∧ Q z0 z1 z2 z3) (zE D vwCl A (fun (u : Int32 × (Nat → Int32) × (Nat → Int32) × (Nat → Int32)) => [((ad 0), oX8 ad m_said m_waved m_places m_end (u.1) m_netPlaces m_begin m_finish m_rounds m_sews), ((ad 17), aI cy 1400 (u.2.1)), ((ad 18), aI cy 1400 (u.2.2.1)), ((ad 19), aI cy 1400 (u.2.2.2))])) A) (by decide) (Nat.le_of_ble_eq_true rfl) (fun p e s m below meth c A ls hx hb hr hml hown hts hlocks hK hPW hA hP hD hS hl => ?_)
  have hl : lv_has ls 4 [(0, .ref (ad 0)), (1, .int x1), (2, .int x2), (3, .int x3)] := hl
  have hown : s.vm.findClass RX8 = some m.cls := hown
  generalize hArg : ([.ref (ad 0), .int x1, .int x2, .int x3] : List Value).toArray = args at hts ⊢
  have hJ51 : ∀ (t1 : Int32) (t2 : Int32) (m_joints : Int32) (m_from : Nat → Int32) (m_by : Nat → Int32) (m_toward : Nat → Int32), wp_X8_addJoint_51 t1 t2 m_joints m_from m_by m_toward  Q → ∀ (H : Heap) (locs : List Loc) (ls : Array Slot), va_P D vwCl [((ad 0), oX8 ad m_said m_waved m_places m_end m_joints m_netPlaces m_begin m_finish m_rounds m_sews), ((ad 17), aI cy 1400 m_from), ((ad 18), aI cy 1400 m_by), ((ad 19), aI cy 1400 m_toward)] H → va_D A [((ad 0), oX8 ad m_said m_waved m_places m_end m_joints m_netPlaces m_begin m_finish m_rounds m_sews), ((ad 17), aI cy 1400 m_from), ((ad 18), aI cy 1400 m_by), ((ad 19), aI cy 1400 m_toward)] → va_S A s.heap H locs → lv_has ls 4 [(0, .ref (ad 0))] → W p l e { frames := 0, cells := 0, slots := 0, locals := 0 } s m args below meth c H locs 0 0 (MQ below ((fun A => va_Qv (fun (u : Int32 × (Nat → Int32) × (Nat → Int32) × (Nat → Int32)) => ∃ (z0 : Int32) (z1 : Nat → Int32) (z2 : Nat → Int32) (z3 : Nat → Int32), u = (z0, z1, z2, z3) ∧ Q z0 z1 z2 z3) (zE D vwCl A (fun (u : Int32 × (Nat → Int32) × (Nat → Int32) × (Nat → Int32)) => [((ad 0), oX8 ad m_said m_waved m_places m_end (u.1) m_netPlaces m_begin m_finish m_rounds m_sews), ((ad 17), aI cy 1400 (u.2.1)), ((ad 18), aI cy 1400 (u.2.2.1)), ((ad 19), aI cy 1400 (u.2.2.2))])) A) A) args s 0 0 A) (F0 m 51 ls [.int t2, .int t1, .ref (ad 19)]) := by
    intro t1 t2 m_joints m_from m_by m_toward   h H locs ls hP hD hS hl
    unfold wp_X8_addJoint_51 at h
    obtain ⟨hi_6, h⟩ := h
    refine va_iast hx hb hK hP hD hS 3 0 rfl rfl hi_6 dX8_addJoint_51 (fun H locs hP hD hS => ?_)
    have hP : va_P D vwCl [((ad 0), oX8 ad m_said m_waved m_places m_end m_joints m_netPlaces m_begin m_finish m_rounds m_sews), ((ad 17), aI cy 1400 m_from), ((ad 18), aI cy 1400 m_by), ((ad 19), aI cy 1400 (upd m_toward t1.toNatClampNeg t2))] H := hP
    have hD : va_D A [((ad 0), oX8 ad m_said m_waved m_places m_end m_joints m_netPlaces m_begin m_finish m_rounds m_sews), ((ad 17), aI cy 1400 m_from), ((ad 18), aI cy 1400 m_by), ((ad 19), aI cy 1400 (upd m_toward t1.toNatClampNeg t2))] := hD
    refine lv_aload_n hx hb dX8_addJoint_52 rfl (lv_at hl 0 rfl) ?_
    refine lv_dup hx hb dX8_addJoint_53 rfl ?_
    refine va_get (D := D) (ci := 7) (v := .int m_joints) (C := RX8) (T := TX8) (N := 35) hx hb hts iX8 hown hK hP 0 rfl rfl 23 (Nat.le_of_ble_eq_true rfl) (hts _ fl_X8_229) (fun _ h9 => h9) rfl dX8_addJoint_54 ?_
    refine lv_iconst (v := (1 : Int32)) hx hb dX8_addJoint_57 (by decide) ?_
    refine lv_iadd hx hb dX8_addJoint_58 ?_
    refine va_put (D := D) (ci := 7) (v := .int (m_joints + (1 : Int32))) (ty := .int) (C := RX8) (T := TX8) (N := 35) hx hb hts iX8 tyX8 tyX8_ok nmX8 hown hK hP hD hS 0 rfl rfl 23 (Nat.le_of_ble_eq_true rfl) (hts _ fl_X8_229) (fun _ h9 => h9) rfl (by decide +kernel) rfl rfl (Nat.le_of_ble_eq_true rfl) dX8_addJoint_59 (fun H locs hP hD hS => ?_)
    have hP : va_P D vwCl [((ad 0), oX8 ad m_said m_waved m_places m_end (m_joints + (1 : Int32)) m_netPlaces m_begin m_finish m_rounds m_sews), ((ad 17), aI cy 1400 m_from), ((ad 18), aI cy 1400 m_by), ((ad 19), aI cy 1400 (upd m_toward t1.toNatClampNeg t2))] H := hP
    have hD : va_D A [((ad 0), oX8 ad m_said m_waved m_places m_end (m_joints + (1 : Int32)) m_netPlaces m_begin m_finish m_rounds m_sews), ((ad 17), aI cy 1400 m_from), ((ad 18), aI cy 1400 m_by), ((ad 19), aI cy 1400 (upd m_toward t1.toNatClampNeg t2))] := hD
    exact z_vret ((m_joints + (1 : Int32)), m_from, m_by, (upd m_toward t1.toNatClampNeg t2)) hx hb hr hlocks ⟨(m_joints + (1 : Int32)), m_from, m_by, (upd m_toward t1.toNatClampNeg t2), rfl, h⟩ hP hD hS dX8_addJoint_62
  have hJ19 : ∀ (x1 : Int32) (x2 : Int32) (x3 : Int32) (t1 : Int32) (t2 : Int32) (m_joints : Int32) (m_from : Nat → Int32) (m_by : Nat → Int32) (m_toward : Nat → Int32), wp_X8_addJoint_19 x1 x2 x3 t1 t2 m_joints m_from m_by m_toward  Q → ∀ (H : Heap) (locs : List Loc) (ls : Array Slot), va_P D vwCl [((ad 0), oX8 ad m_said m_waved m_places m_end m_joints m_netPlaces m_begin m_finish m_rounds m_sews), ((ad 17), aI cy 1400 m_from), ((ad 18), aI cy 1400 m_by), ((ad 19), aI cy 1400 m_toward)] H → va_D A [((ad 0), oX8 ad m_said m_waved m_places m_end m_joints m_netPlaces m_begin m_finish m_rounds m_sews), ((ad 17), aI cy 1400 m_from), ((ad 18), aI cy 1400 m_by), ((ad 19), aI cy 1400 m_toward)] → va_S A s.heap H locs → lv_has ls 4 [(0, .ref (ad 0)), (1, .int x1), (2, .int x2), (3, .int x3)] → W p l e { frames := 0, cells := 0, slots := 0, locals := 0 } s m args below meth c H locs 0 0 (MQ below ((fun A => va_Qv (fun (u : Int32 × (Nat → Int32) × (Nat → Int32) × (Nat → Int32)) => ∃ (z0 : Int32) (z1 : Nat → Int32) (z2 : Nat → Int32) (z3 : Nat → Int32), u = (z0, z1, z2, z3) ∧ Q z0 z1 z2 z3) (zE D vwCl A (fun (u : Int32 × (Nat → Int32) × (Nat → Int32) × (Nat → Int32)) => [((ad 0), oX8 ad m_said m_waved m_places m_end (u.1) m_netPlaces m_begin m_finish m_rounds m_sews), ((ad 17), aI cy 1400 (u.2.1)), ((ad 18), aI cy 1400 (u.2.2.1)), ((ad 19), aI cy 1400 (u.2.2.2))])) A) A) args s 0 0 A) (F0 m 19 ls [.int t2, .int t1, .ref (ad 17)]) := by
    intro x1 x2 x3 t1 t2 m_joints m_from m_by m_toward   h H locs ls hP hD hS hl
    unfold wp_X8_addJoint_19 at h
    obtain ⟨hi_7, h⟩ := h
    refine va_iast hx hb hK hP hD hS 1 0 rfl rfl hi_7 dX8_addJoint_19 (fun H locs hP hD hS => ?_)
    have hP : va_P D vwCl [((ad 0), oX8 ad m_said m_waved m_places m_end m_joints m_netPlaces m_begin m_finish m_rounds m_sews), ((ad 17), aI cy 1400 (upd m_from t1.toNatClampNeg t2)), ((ad 18), aI cy 1400 m_by), ((ad 19), aI cy 1400 m_toward)] H := hP
    have hD : va_D A [((ad 0), oX8 ad m_said m_waved m_places m_end m_joints m_netPlaces m_begin m_finish m_rounds m_sews), ((ad 17), aI cy 1400 (upd m_from t1.toNatClampNeg t2)), ((ad 18), aI cy 1400 m_by), ((ad 19), aI cy 1400 m_toward)] := hD
    refine lv_aload_n hx hb dX8_addJoint_20 rfl (lv_at hl 0 rfl) ?_
    refine va_get (D := D) (ci := 7) (v := .ref (ad 18)) (C := RX8) (T := TX8) (N := 35) hx hb hts iX8 hown hK hP 0 rfl rfl 21 (Nat.le_of_ble_eq_true rfl) (hts _ fl_X8_63) (fun _ h9 => h9) rfl dX8_addJoint_21 ?_
    refine lv_aload_n hx hb dX8_addJoint_24 rfl (lv_at hl 0 rfl) ?_
    refine va_get (D := D) (ci := 7) (v := .int m_joints) (C := RX8) (T := TX8) (N := 35) hx hb hts iX8 hown hK hP 0 rfl rfl 23 (Nat.le_of_ble_eq_true rfl) (hts _ fl_X8_229) (fun _ h9 => h9) rfl dX8_addJoint_25 ?_
    refine lv_iload_n hx hb dX8_addJoint_28 rfl (lv_at hl 2 rfl) ?_
    refine lv_iconst (v := (2 : Int32)) hx hb dX8_addJoint_29 (by decide) ?_
    refine lv_idiv hx hb dX8_addJoint_30 (by decide) ?_
    obtain ⟨hi_8, h⟩ := h
    refine va_iast hx hb hK hP hD hS 2 0 rfl rfl hi_8 dX8_addJoint_31 (fun H locs hP hD hS => ?_)
    have hP : va_P D vwCl [((ad 0), oX8 ad m_said m_waved m_places m_end m_joints m_netPlaces m_begin m_finish m_rounds m_sews), ((ad 17), aI cy 1400 (upd m_from t1.toNatClampNeg t2)), ((ad 18), aI cy 1400 (upd m_by m_joints.toNatClampNeg (x2 / (2 : Int32)))), ((ad 19), aI cy 1400 m_toward)] H := hP
    have hD : va_D A [((ad 0), oX8 ad m_said m_waved m_places m_end m_joints m_netPlaces m_begin m_finish m_rounds m_sews), ((ad 17), aI cy 1400 (upd m_from t1.toNatClampNeg t2)), ((ad 18), aI cy 1400 (upd m_by m_joints.toNatClampNeg (x2 / (2 : Int32)))), ((ad 19), aI cy 1400 m_toward)] := hD
    refine lv_aload_n hx hb dX8_addJoint_32 rfl (lv_at hl 0 rfl) ?_
    refine va_get (D := D) (ci := 7) (v := .ref (ad 19)) (C := RX8) (T := TX8) (N := 35) hx hb hts iX8 hown hK hP 0 rfl rfl 22 (Nat.le_of_ble_eq_true rfl) (hts _ fl_X8_66) (fun _ h9 => h9) rfl dX8_addJoint_33 ?_
    refine lv_aload_n hx hb dX8_addJoint_36 rfl (lv_at hl 0 rfl) ?_
    refine va_get (D := D) (ci := 7) (v := .int m_joints) (C := RX8) (T := TX8) (N := 35) hx hb hts iX8 hown hK hP 0 rfl rfl 23 (Nat.le_of_ble_eq_true rfl) (hts _ fl_X8_229) (fun _ h9 => h9) rfl dX8_addJoint_37 ?_
    refine lv_iload_n hx hb dX8_addJoint_40 rfl (lv_at hl 2 rfl) ?_
    refine lv_iconst (v := (2 : Int32)) hx hb dX8_addJoint_41 (by decide) ?_
    refine lv_irem hx hb dX8_addJoint_42 (by decide) ?_
    refine lv_if_ne (tgt := 50) hx hb dX8_addJoint_43 (by decide) (fun c_9 => ?_) (fun c_9 => ?_)
    · have h := h.1 c_9
      refine lv_iload_n hx hb dX8_addJoint_50 rfl (lv_at hl 1 rfl) ?_
      exact hJ51 m_joints x1 m_joints (upd m_from t1.toNatClampNeg t2) (upd m_by m_joints.toNatClampNeg (x2 / (2 : Int32))) m_toward   h _ _ _ hP hD hS (lv_sub hl [0] rfl)
    · have h := h.2 c_9
      refine lv_iload_n hx hb dX8_addJoint_46 rfl (lv_at hl 3 rfl) ?_
      refine lv_goto (tgt := 51) hx hb dX8_addJoint_47 (by decide) ?_
      exact hJ51 m_joints x3 m_joints (upd m_from t1.toNatClampNeg t2) (upd m_by m_joints.toNatClampNeg (x2 / (2 : Int32))) m_toward   h _ _ _ hP hD hS (lv_sub hl [0] rfl)
  unfold wp_X8_addJoint at h
  refine lv_aload_n hx hb dX8_addJoint_0 rfl (lv_at hl 0 rfl) ?_
  refine va_get (D := D) (ci := 7) (v := .ref (ad 17)) (C := RX8) (T := TX8) (N := 35) hx hb hts iX8 hown hK hP 0 rfl rfl 20 (Nat.le_of_ble_eq_true rfl) (hts _ fl_X8_60) (fun _ h9 => h9) rfl dX8_addJoint_1 ?_
  refine lv_aload_n hx hb dX8_addJoint_4 rfl (lv_at hl 0 rfl) ?_
  refine va_get (D := D) (ci := 7) (v := .int m_joints) (C := RX8) (T := TX8) (N := 35) hx hb hts iX8 hown hK hP 0 rfl rfl 23 (Nat.le_of_ble_eq_true rfl) (hts _ fl_X8_229) (fun _ h9 => h9) rfl dX8_addJoint_5 ?_
  refine lv_iload_n hx hb dX8_addJoint_8 rfl (lv_at hl 2 rfl) ?_
  refine lv_iconst (v := (2 : Int32)) hx hb dX8_addJoint_9 (by decide) ?_
  refine lv_irem hx hb dX8_addJoint_10 (by decide) ?_
  refine lv_if_ne (tgt := 18) hx hb dX8_addJoint_11 (by decide) (fun c_10 => ?_) (fun c_10 => ?_)
  · have h := h.1 c_10
    refine lv_iload_n hx hb dX8_addJoint_18 rfl (lv_at hl 3 rfl) ?_
    exact hJ19 x1 x2 x3 m_joints x3 m_joints m_from m_by m_toward   h _ _ _ hP hD hS (lv_sub hl [0, 1, 2, 3] rfl)
  · have h := h.2 c_10
    refine lv_iload_n hx hb dX8_addJoint_14 rfl (lv_at hl 1 rfl) ?_
    refine lv_goto (tgt := 19) hx hb dX8_addJoint_15 (by decide) ?_
    exact hJ19 x1 x2 x3 m_joints x1 m_joints m_from m_by m_toward   h _ _ _ hP hD hS (lv_sub hl [0, 1, 2, 3] rfl)
set_option maxHeartbeats 4000000 in
set_option maxRecDepth 100000 in
theorem c_X8_fold (l : Launch) (D : va_G) (cy : Nat → ClassId) (ad : Nat → Nat) (sz : Nat) (m_said : Int32) (m_waved : Int32) (m_places : Int32) (m_end : Int32) (m_joints : Int32) (m_netPlaces : Int32) (m_begin : Int32) (m_finish : Int32) (m_rounds : Int32) (m_sews : Int32) (m_one : Nat → Int32) (m_next : Nat → Int32) (x1 : Int32) (x2 : Int32) (x3 : Int32) {Q : Int32 → (Nat → Int32) → (Nat → Int32) → Prop} (h : wp_X8_fold x1 x2 x3 m_one m_next Q) : Met l yX8_fold (wsU yX8_fold cX8_fold 7 (some .boolean)) { frames := 1, cells := 0, slots := 0, locals := 22 } (va_Pc [.ref (ad 0), .int x1, .int x2, .int x3] (zB D vwCl (tyU cy) [((ad 0), oX8 ad m_said m_waved m_places m_end m_joints m_netPlaces m_begin m_finish m_rounds m_sews), ((ad 20), aI cy 1400 m_one), ((ad 22), aI cy 8400 m_next)] sz)) ((fun A => va_Qi (fun (r : Int32) (u : (Nat → Int32) × (Nat → Int32)) => ∃ (z0 : Nat → Int32) (z1 : Nat → Int32), u = (z0, z1) ∧ Q r z0 z1) (zE D vwCl A (fun (u : (Nat → Int32) × (Nat → Int32)) => [((ad 0), oX8 ad m_said m_waved m_places m_end m_joints m_netPlaces m_begin m_finish m_rounds m_sews), ((ad 20), aI cy 1400 (u.1)), ((ad 22), aI cy 8400 (u.2))])) A) (va_A [((ad 0), oX8 ad m_said m_waved m_places m_end m_joints m_netPlaces m_begin m_finish m_rounds m_sews), ((ad 20), aI cy 1400 m_one), ((ad 22), aI cy 8400 m_next)] sz)) 0 0 (va_A [((ad 0), oX8 ad m_said m_waved m_places m_end m_joints m_netPlaces m_begin m_finish m_rounds m_sews), ((ad 20), aI cy 1400 m_one), ((ad 22), aI cy 8400 m_next)] sz) := by
  refine z_ofX (fun A => va_Qi (fun (r : Int32) (u : (Nat → Int32) × (Nat → Int32)) => ∃ (z0 : Nat → Int32) (z1 : Nat → Int32), u = (z0, z1) ∧ Q r z0 z1) (zE D vwCl A (fun (u : (Nat → Int32) × (Nat → Int32)) => [((ad 0), oX8 ad m_said m_waved m_places m_end m_joints m_netPlaces m_begin m_finish m_rounds m_sews), ((ad 20), aI cy 1400 (u.1)), ((ad 22), aI cy 8400 (u.2))])) A) (by decide) (Nat.le_of_ble_eq_true rfl) (fun p e s m below meth c A ls hx hb hr hml hown hts hlocks hK hPW hA hP hD hS hl => ?_)
  have hl : lv_has ls 7 [(0, .ref (ad 0)), (1, .int x1), (2, .int x2), (3, .int x3)] := hl
  have hown : s.vm.findClass RX8 = some m.cls := hown
  unfold wp_X8_fold at h
  refine lv_aload_n hx hb dX8_fold_0 rfl (lv_at hl 0 rfl) ?_
  refine va_get (D := D) (ci := 7) (v := .ref (ad 22)) (C := RX8) (T := TX8) (N := 35) hx hb hts iX8 hown hK hP 0 rfl rfl 30 (Nat.le_of_ble_eq_true rfl) (hts _ fl_X8_75) (fun _ h9 => h9) rfl dX8_fold_1 ?_
  refine lv_bipush (v := (6 : Int32)) hx hb dX8_fold_4 (by decide) ?_
  refine lv_iload_n hx hb dX8_fold_6 rfl (lv_at hl 1 rfl) ?_
  refine lv_imul hx hb dX8_fold_7 ?_
  refine lv_iload_n hx hb dX8_fold_8 rfl (lv_at hl 2 rfl) ?_
  refine lv_iadd hx hb dX8_fold_9 ?_
  obtain ⟨hi_9, h⟩ := h
  refine va_iald hx hb hK hP 2 0 rfl rfl hi_9 dX8_fold_10 ?_
  refine lv_topi (fun x4_10 e_x4_10 => ?_)
  have h := h x4_10 e_x4_10
  refine lv_istore (lv' := [(4, .int x4_10), (0, .ref (ad 0)), (1, .int x1), (2, .int x2), (3, .int x3)]) hx hb dX8_fold_11 hl (by decide) rfl (fun ls hl => ?_)
  refine lv_iload hx hb dX8_fold_13 (lv_at hl 0 rfl) ?_
  refine lv_if_ge (tgt := 32) hx hb dX8_fold_15 (by decide) (fun c_11 => ?_) (fun c_11 => ?_)
  · have h := h.1 c_11
    refine lv_aload_n hx hb dX8_fold_32 rfl (lv_at hl 1 rfl) ?_
    refine lv_iload hx hb dX8_fold_33 (lv_at hl 0 rfl) ?_
    refine zc_Vi (As := [.int x4_10]) (rest := []) (wc := [((ad 0), oX8 ad m_said m_waved m_places m_end m_joints m_netPlaces m_begin m_finish m_rounds m_sews), ((ad 20), aI cy 1400 m_one)]) (wr := [((ad 22), aI cy 8400 m_next)]) hx hb hml hown hts hK hPW hA hl.1 hP hD hS ⟨Nat.zero_le _, Nat.zero_le _⟩ [0, 1] [2] rfl rfl (by decide) (c_X8_oneOf l D cy (sz := _) (x1 := x4_10) (ad := ad) (m_said := m_said) (m_waved := m_waved) (m_places := m_places) (m_end := m_end) (m_joints := m_joints) (m_netPlaces := m_netPlaces) (m_begin := m_begin) (m_finish := m_finish) (m_rounds := m_rounds) (m_sews := m_sews) (m_one := m_one) (h := h)) k_X8_232 ⟨rfl, rfl, (Nat.le_of_ble_eq_true rfl), (Nat.le_of_ble_eq_true rfl)⟩ rfl rfl rfl rfl (Nat.le_of_ble_eq_true rfl) dX8_fold_35 (fun r_12 m_one_12 H locs h hP hD hS => ?_)
    have hP : va_P D vwCl [((ad 22), aI cy 8400 m_next), ((ad 0), oX8 ad m_said m_waved m_places m_end m_joints m_netPlaces m_begin m_finish m_rounds m_sews), ((ad 20), aI cy 1400 m_one_12)] H := hP
    have hD : va_D A [((ad 22), aI cy 8400 m_next), ((ad 0), oX8 ad m_said m_waved m_places m_end m_joints m_netPlaces m_begin m_finish m_rounds m_sews), ((ad 20), aI cy 1400 m_one_12)] := hD
    refine lv_istore (lv' := [(5, .int r_12), (4, .int x4_10), (0, .ref (ad 0)), (1, .int x1), (2, .int x2), (3, .int x3)]) hx hb dX8_fold_38 hl (by decide) rfl (fun ls hl => ?_)
    refine lv_aload_n hx hb dX8_fold_40 rfl (lv_at hl 2 rfl) ?_
    refine lv_iload_n hx hb dX8_fold_41 rfl (lv_at hl 5 rfl) ?_
    refine zc_Vi (As := [.int x3]) (rest := []) (wc := [((ad 0), oX8 ad m_said m_waved m_places m_end m_joints m_netPlaces m_begin m_finish m_rounds m_sews), ((ad 20), aI cy 1400 m_one_12)]) (wr := [((ad 22), aI cy 8400 m_next)]) hx hb hml hown hts hK hPW hA hl.1 hP hD hS ⟨Nat.zero_le _, Nat.zero_le _⟩ [1, 2] [0] rfl rfl (by decide) (c_X8_oneOf l D cy (sz := _) (x1 := x3) (ad := ad) (m_said := m_said) (m_waved := m_waved) (m_places := m_places) (m_end := m_end) (m_joints := m_joints) (m_netPlaces := m_netPlaces) (m_begin := m_begin) (m_finish := m_finish) (m_rounds := m_rounds) (m_sews := m_sews) (m_one := m_one_12) (h := h)) k_X8_232 ⟨rfl, rfl, (Nat.le_of_ble_eq_true rfl), (Nat.le_of_ble_eq_true rfl)⟩ rfl rfl rfl rfl (Nat.le_of_ble_eq_true rfl) dX8_fold_42 (fun r_13 m_one_13 H locs h hP hD hS => ?_)
    have hP : va_P D vwCl [((ad 22), aI cy 8400 m_next), ((ad 0), oX8 ad m_said m_waved m_places m_end m_joints m_netPlaces m_begin m_finish m_rounds m_sews), ((ad 20), aI cy 1400 m_one_13)] H := hP
    have hD : va_D A [((ad 22), aI cy 8400 m_next), ((ad 0), oX8 ad m_said m_waved m_places m_end m_joints m_netPlaces m_begin m_finish m_rounds m_sews), ((ad 20), aI cy 1400 m_one_13)] := hD
    refine lv_istore (lv' := [(6, .int r_13), (5, .int r_12), (4, .int x4_10), (0, .ref (ad 0)), (1, .int x1), (2, .int x2), (3, .int x3)]) hx hb dX8_fold_45 hl (by decide) rfl (fun ls hl => ?_)
    refine lv_aload_n hx hb dX8_fold_47 rfl (lv_at hl 3 rfl) ?_
    refine va_get (D := D) (ci := 7) (v := .ref (ad 20)) (C := RX8) (T := TX8) (N := 35) hx hb hts iX8 hown hK hP 1 rfl rfl 28 (Nat.le_of_ble_eq_true rfl) (hts _ fl_X8_69) (fun _ h9 => h9) rfl dX8_fold_48 ?_
    refine lv_iload hx hb dX8_fold_51 (lv_at hl 0 rfl) ?_
    refine lv_iload hx hb dX8_fold_53 (lv_at hl 1 rfl) ?_
    obtain ⟨hi_14, h⟩ := h
    refine va_iast hx hb hK hP hD hS 2 0 rfl rfl hi_14 dX8_fold_55 (fun H locs hP hD hS => ?_)
    have hP : va_P D vwCl [((ad 22), aI cy 8400 m_next), ((ad 0), oX8 ad m_said m_waved m_places m_end m_joints m_netPlaces m_begin m_finish m_rounds m_sews), ((ad 20), aI cy 1400 (upd m_one_13 r_13.toNatClampNeg r_12))] H := hP
    have hD : va_D A [((ad 22), aI cy 8400 m_next), ((ad 0), oX8 ad m_said m_waved m_places m_end m_joints m_netPlaces m_begin m_finish m_rounds m_sews), ((ad 20), aI cy 1400 (upd m_one_13 r_13.toNatClampNeg r_12))] := hD
    refine lv_iload hx hb dX8_fold_56 (lv_at hl 1 rfl) ?_
    refine lv_iload hx hb dX8_fold_58 (lv_at hl 0 rfl) ?_
    refine lv_icmp_eq (tgt := 67) hx hb dX8_fold_60 (by decide) (fun c_15 => ?_) (fun c_15 => ?_)
    · have h := h.1 c_15
      refine lv_iconst (v := (0 : Int32)) hx hb dX8_fold_67 (by decide) ?_
      exact z_zret ((upd m_one_13 r_13.toNatClampNeg r_12), m_next) hx hb hr hlocks rfl ⟨(upd m_one_13 r_13.toNatClampNeg r_12), m_next, rfl, h⟩ (hP.sub [1, 2, 0] rfl) (hD.sub [1, 2, 0] (by decide) rfl) hS dX8_fold_68
    · have h := h.2 c_15
      refine lv_iconst (v := (1 : Int32)) hx hb dX8_fold_63 (by decide) ?_
      refine lv_goto (tgt := 68) hx hb dX8_fold_64 (by decide) ?_
      exact z_zret ((upd m_one_13 r_13.toNatClampNeg r_12), m_next) hx hb hr hlocks rfl ⟨(upd m_one_13 r_13.toNatClampNeg r_12), m_next, rfl, h⟩ (hP.sub [1, 2, 0] rfl) (hD.sub [1, 2, 0] (by decide) rfl) hS dX8_fold_68
  · have h := h.2 c_11
    refine lv_aload_n hx hb dX8_fold_18 rfl (lv_at hl 1 rfl) ?_
    refine va_get (D := D) (ci := 7) (v := .ref (ad 22)) (C := RX8) (T := TX8) (N := 35) hx hb hts iX8 hown hK hP 0 rfl rfl 30 (Nat.le_of_ble_eq_true rfl) (hts _ fl_X8_75) (fun _ h9 => h9) rfl dX8_fold_19 ?_
    refine lv_bipush (v := (6 : Int32)) hx hb dX8_fold_22 (by decide) ?_
    refine lv_iload_n hx hb dX8_fold_24 rfl (lv_at hl 2 rfl) ?_
    refine lv_imul hx hb dX8_fold_25 ?_
    refine lv_iload_n hx hb dX8_fold_26 rfl (lv_at hl 3 rfl) ?_
    refine lv_iadd hx hb dX8_fold_27 ?_
    refine lv_iload_n hx hb dX8_fold_28 rfl (lv_at hl 4 rfl) ?_
    obtain ⟨hi_16, h⟩ := h
    refine va_iast hx hb hK hP hD hS 2 0 rfl rfl hi_16 dX8_fold_29 (fun H locs hP hD hS => ?_)
    have hP : va_P D vwCl [((ad 0), oX8 ad m_said m_waved m_places m_end m_joints m_netPlaces m_begin m_finish m_rounds m_sews), ((ad 20), aI cy 1400 m_one), ((ad 22), aI cy 8400 (upd m_next (((6 : Int32) * x1) + x2).toNatClampNeg x3))] H := hP
    have hD : va_D A [((ad 0), oX8 ad m_said m_waved m_places m_end m_joints m_netPlaces m_begin m_finish m_rounds m_sews), ((ad 20), aI cy 1400 m_one), ((ad 22), aI cy 8400 (upd m_next (((6 : Int32) * x1) + x2).toNatClampNeg x3))] := hD
    refine lv_iconst (v := (0 : Int32)) hx hb dX8_fold_30 (by decide) ?_
    exact z_zret (m_one, (upd m_next (((6 : Int32) * x1) + x2).toNatClampNeg x3)) hx hb hr hlocks rfl ⟨m_one, (upd m_next (((6 : Int32) * x1) + x2).toNatClampNeg x3), rfl, h⟩ hP hD hS dX8_fold_31
set_option maxHeartbeats 4000000 in
set_option maxRecDepth 100000 in
theorem c_X8_foldAll (l : Launch) (D : va_G) (cy : Nat → ClassId) (ad : Nat → Nat) (sz : Nat) (m_said : Int32) (m_waved : Int32) (m_places : Int32) (m_end : Int32) (m_joints : Int32) (m_netPlaces : Int32) (m_begin : Int32) (m_finish : Int32) (m_rounds : Int32) (m_sews : Int32) (m_from : Nat → Int32) (m_by : Nat → Int32) (m_toward : Nat → Int32) (m_one : Nat → Int32) (m_next : Nat → Int32) {Q : Int32 → (Nat → Int32) → (Nat → Int32) → Prop} (h : wp_X8_foldAll m_joints m_netPlaces m_from m_by m_toward m_one m_next Q) : Met l yX8_foldAll (wsU yX8_foldAll cX8_foldAll 3 (some .boolean)) { frames := 2, cells := 0, slots := 0, locals := 48 } (va_Pc [.ref (ad 0)] (zB D vwCl (tyU cy) [((ad 0), oX8 ad m_said m_waved m_places m_end m_joints m_netPlaces m_begin m_finish m_rounds m_sews), ((ad 17), aI cy 1400 m_from), ((ad 18), aI cy 1400 m_by), ((ad 19), aI cy 1400 m_toward), ((ad 20), aI cy 1400 m_one), ((ad 22), aI cy 8400 m_next)] sz)) ((fun A => va_Qi (fun (r : Int32) (u : (Nat → Int32) × (Nat → Int32)) => ∃ (z0 : Nat → Int32) (z1 : Nat → Int32), u = (z0, z1) ∧ Q r z0 z1) (zE D vwCl A (fun (u : (Nat → Int32) × (Nat → Int32)) => [((ad 0), oX8 ad m_said m_waved m_places m_end m_joints m_netPlaces m_begin m_finish m_rounds m_sews), ((ad 17), aI cy 1400 m_from), ((ad 18), aI cy 1400 m_by), ((ad 19), aI cy 1400 m_toward), ((ad 20), aI cy 1400 (u.1)), ((ad 22), aI cy 8400 (u.2))])) A) (va_A [((ad 0), oX8 ad m_said m_waved m_places m_end m_joints m_netPlaces m_begin m_finish m_rounds m_sews), ((ad 17), aI cy 1400 m_from), ((ad 18), aI cy 1400 m_by), ((ad 19), aI cy 1400 m_toward), ((ad 20), aI cy 1400 m_one), ((ad 22), aI cy 8400 m_next)] sz)) 0 0 (va_A [((ad 0), oX8 ad m_said m_waved m_places m_end m_joints m_netPlaces m_begin m_finish m_rounds m_sews), ((ad 17), aI cy 1400 m_from), ((ad 18), aI cy 1400 m_by), ((ad 19), aI cy 1400 m_toward), ((ad 20), aI cy 1400 m_one), ((ad 22), aI cy 8400 m_next)] sz) := by
  refine z_ofX (fun A => va_Qi (fun (r : Int32) (u : (Nat → Int32) × (Nat → Int32)) => ∃ (z0 : Nat → Int32) (z1 : Nat → Int32), u = (z0, z1) ∧ Q r z0 z1) (zE D vwCl A (fun (u : (Nat → Int32) × (Nat → Int32)) => [((ad 0), oX8 ad m_said m_waved m_places m_end m_joints m_netPlaces m_begin m_finish m_rounds m_sews), ((ad 17), aI cy 1400 m_from), ((ad 18), aI cy 1400 m_by), ((ad 19), aI cy 1400 m_toward), ((ad 20), aI cy 1400 (u.1)), ((ad 22), aI cy 8400 (u.2))])) A) (by decide) (Nat.le_of_ble_eq_true rfl) (fun p e s m below meth c A ls hx hb hr hml hown hts hlocks hK hPW hA hP hD hS hl => ?_)
  have hl : lv_has ls 3 [(0, .ref (ad 0))] := hl
  have hown : s.vm.findClass RX8 = some m.cls := hown
  generalize hArg : ([.ref (ad 0)] : List Value).toArray = args at hts ⊢
  have hJ130 : ∀ (x2 : Int32) (t0 : Int32) (m_one : Nat → Int32) (m_next : Nat → Int32) (rc31 : Int32 → Int32 → (Nat → Int32) → (Nat → Int32) → Prop) (hrc31 : ∀ (x1 : Int32) (x2 : Int32) (m_one : Nat → Int32) (m_next : Nat → Int32), rc31 x1 x2 m_one m_next → ∀ (H : Heap) (locs : List Loc) (ls : Array Slot), va_P D vwCl [((ad 0), oX8 ad m_said m_waved m_places m_end m_joints m_netPlaces m_begin m_finish m_rounds m_sews), ((ad 17), aI cy 1400 m_from), ((ad 18), aI cy 1400 m_by), ((ad 19), aI cy 1400 m_toward), ((ad 20), aI cy 1400 m_one), ((ad 22), aI cy 8400 m_next)] H → va_D A [((ad 0), oX8 ad m_said m_waved m_places m_end m_joints m_netPlaces m_begin m_finish m_rounds m_sews), ((ad 17), aI cy 1400 m_from), ((ad 18), aI cy 1400 m_by), ((ad 19), aI cy 1400 m_toward), ((ad 20), aI cy 1400 m_one), ((ad 22), aI cy 8400 m_next)] → va_S A s.heap H locs → lv_has ls 3 [(0, .ref (ad 0)), (1, .int x1), (2, .int x2)] → W p l e { frames := 2, cells := 0, slots := 0, locals := 48 } s m args below meth c H locs 0 0 (MQ below ((fun A => va_Qi (fun (r : Int32) (u : (Nat → Int32) × (Nat → Int32)) => ∃ (z0 : Nat → Int32) (z1 : Nat → Int32), u = (z0, z1) ∧ Q r z0 z1) (zE D vwCl A (fun (u : (Nat → Int32) × (Nat → Int32)) => [((ad 0), oX8 ad m_said m_waved m_places m_end m_joints m_netPlaces m_begin m_finish m_rounds m_sews), ((ad 17), aI cy 1400 m_from), ((ad 18), aI cy 1400 m_by), ((ad 19), aI cy 1400 m_toward), ((ad 20), aI cy 1400 (u.1)), ((ad 22), aI cy 8400 (u.2))])) A) A) args s 0 0 A) (F0 m 31 ls [])), wp_X8_foldAll_130 m_joints m_netPlaces m_from m_by m_toward x2 t0 m_one m_next rc31 Q → ∀ (H : Heap) (locs : List Loc) (ls : Array Slot), va_P D vwCl [((ad 0), oX8 ad m_said m_waved m_places m_end m_joints m_netPlaces m_begin m_finish m_rounds m_sews), ((ad 17), aI cy 1400 m_from), ((ad 18), aI cy 1400 m_by), ((ad 19), aI cy 1400 m_toward), ((ad 20), aI cy 1400 m_one), ((ad 22), aI cy 8400 m_next)] H → va_D A [((ad 0), oX8 ad m_said m_waved m_places m_end m_joints m_netPlaces m_begin m_finish m_rounds m_sews), ((ad 17), aI cy 1400 m_from), ((ad 18), aI cy 1400 m_by), ((ad 19), aI cy 1400 m_toward), ((ad 20), aI cy 1400 m_one), ((ad 22), aI cy 8400 m_next)] → va_S A s.heap H locs → lv_has ls 3 [(0, .ref (ad 0)), (2, .int x2)] → W p l e { frames := 2, cells := 0, slots := 0, locals := 48 } s m args below meth c H locs 0 0 (MQ below ((fun A => va_Qi (fun (r : Int32) (u : (Nat → Int32) × (Nat → Int32)) => ∃ (z0 : Nat → Int32) (z1 : Nat → Int32), u = (z0, z1) ∧ Q r z0 z1) (zE D vwCl A (fun (u : (Nat → Int32) × (Nat → Int32)) => [((ad 0), oX8 ad m_said m_waved m_places m_end m_joints m_netPlaces m_begin m_finish m_rounds m_sews), ((ad 17), aI cy 1400 m_from), ((ad 18), aI cy 1400 m_by), ((ad 19), aI cy 1400 m_toward), ((ad 20), aI cy 1400 (u.1)), ((ad 22), aI cy 8400 (u.2))])) A) A) args s 0 0 A) (F0 m 130 ls [.int t0]) := by
    intro x2 t0 m_one m_next rc31 hrc31  h H locs ls hP hD hS hl
    unfold wp_X8_foldAll_130 at h
    refine lv_istore_n (lv' := [(1, .int t0), (0, .ref (ad 0)), (2, .int x2)]) hx hb dX8_foldAll_130 rfl hl (by decide) rfl (fun ls hl => ?_)
    obtain ⟨x2_22, e_x2_22⟩ : ∃ y : Int32, y = x2 + (1 : Int32) := ⟨_, rfl⟩
    refine lv_iinc (v := x2_22) (lv' := [(2, .int x2_22), (1, .int t0), (0, .ref (ad 0))]) hx hb dX8_foldAll_131 hl (k := 2) rfl (by rw [e_x2_22]; rfl) (by decide) rfl (fun ls hl => ?_)
    have h := h x2_22 e_x2_22
    refine lv_goto (tgt := 31) hx hb dX8_foldAll_134 (by decide) ?_
    exact hrc31 t0 x2_22 m_one m_next h _ _ _ hP hD hS (lv_sub hl [2, 1, 0] rfl)
  have hJ83 : ∀ (x2 : Int32) (t0 : Int32) (m_one : Nat → Int32) (m_next : Nat → Int32) (rc31 : Int32 → Int32 → (Nat → Int32) → (Nat → Int32) → Prop) (hrc31 : ∀ (x1 : Int32) (x2 : Int32) (m_one : Nat → Int32) (m_next : Nat → Int32), rc31 x1 x2 m_one m_next → ∀ (H : Heap) (locs : List Loc) (ls : Array Slot), va_P D vwCl [((ad 0), oX8 ad m_said m_waved m_places m_end m_joints m_netPlaces m_begin m_finish m_rounds m_sews), ((ad 17), aI cy 1400 m_from), ((ad 18), aI cy 1400 m_by), ((ad 19), aI cy 1400 m_toward), ((ad 20), aI cy 1400 m_one), ((ad 22), aI cy 8400 m_next)] H → va_D A [((ad 0), oX8 ad m_said m_waved m_places m_end m_joints m_netPlaces m_begin m_finish m_rounds m_sews), ((ad 17), aI cy 1400 m_from), ((ad 18), aI cy 1400 m_by), ((ad 19), aI cy 1400 m_toward), ((ad 20), aI cy 1400 m_one), ((ad 22), aI cy 8400 m_next)] → va_S A s.heap H locs → lv_has ls 3 [(0, .ref (ad 0)), (1, .int x1), (2, .int x2)] → W p l e { frames := 2, cells := 0, slots := 0, locals := 48 } s m args below meth c H locs 0 0 (MQ below ((fun A => va_Qi (fun (r : Int32) (u : (Nat → Int32) × (Nat → Int32)) => ∃ (z0 : Nat → Int32) (z1 : Nat → Int32), u = (z0, z1) ∧ Q r z0 z1) (zE D vwCl A (fun (u : (Nat → Int32) × (Nat → Int32)) => [((ad 0), oX8 ad m_said m_waved m_places m_end m_joints m_netPlaces m_begin m_finish m_rounds m_sews), ((ad 17), aI cy 1400 m_from), ((ad 18), aI cy 1400 m_by), ((ad 19), aI cy 1400 m_toward), ((ad 20), aI cy 1400 (u.1)), ((ad 22), aI cy 8400 (u.2))])) A) A) args s 0 0 A) (F0 m 31 ls [])), wp_X8_foldAll_83 m_joints m_netPlaces m_from m_by m_toward x2 t0 m_one m_next rc31 Q → ∀ (H : Heap) (locs : List Loc) (ls : Array Slot), va_P D vwCl [((ad 0), oX8 ad m_said m_waved m_places m_end m_joints m_netPlaces m_begin m_finish m_rounds m_sews), ((ad 17), aI cy 1400 m_from), ((ad 18), aI cy 1400 m_by), ((ad 19), aI cy 1400 m_toward), ((ad 20), aI cy 1400 m_one), ((ad 22), aI cy 8400 m_next)] H → va_D A [((ad 0), oX8 ad m_said m_waved m_places m_end m_joints m_netPlaces m_begin m_finish m_rounds m_sews), ((ad 17), aI cy 1400 m_from), ((ad 18), aI cy 1400 m_by), ((ad 19), aI cy 1400 m_toward), ((ad 20), aI cy 1400 m_one), ((ad 22), aI cy 8400 m_next)] → va_S A s.heap H locs → lv_has ls 3 [(0, .ref (ad 0)), (2, .int x2)] → W p l e { frames := 2, cells := 0, slots := 0, locals := 48 } s m args below meth c H locs 0 0 (MQ below ((fun A => va_Qi (fun (r : Int32) (u : (Nat → Int32) × (Nat → Int32)) => ∃ (z0 : Nat → Int32) (z1 : Nat → Int32), u = (z0, z1) ∧ Q r z0 z1) (zE D vwCl A (fun (u : (Nat → Int32) × (Nat → Int32)) => [((ad 0), oX8 ad m_said m_waved m_places m_end m_joints m_netPlaces m_begin m_finish m_rounds m_sews), ((ad 17), aI cy 1400 m_from), ((ad 18), aI cy 1400 m_by), ((ad 19), aI cy 1400 m_toward), ((ad 20), aI cy 1400 (u.1)), ((ad 22), aI cy 8400 (u.2))])) A) A) args s 0 0 A) (F0 m 83 ls [.int t0]) := by
    intro x2 t0 m_one m_next rc31 hrc31  h H locs ls hP hD hS hl
    unfold wp_X8_foldAll_83 at h
    refine lv_istore_n (lv' := [(1, .int t0), (0, .ref (ad 0)), (2, .int x2)]) hx hb dX8_foldAll_83 rfl hl (by decide) rfl (fun ls hl => ?_)
    refine lv_aload_n hx hb dX8_foldAll_84 rfl (lv_at hl 1 rfl) ?_
    refine lv_aload_n hx hb dX8_foldAll_85 rfl (lv_at hl 1 rfl) ?_
    refine lv_aload_n hx hb dX8_foldAll_86 rfl (lv_at hl 1 rfl) ?_
    refine va_get (D := D) (ci := 7) (v := .ref (ad 19)) (C := RX8) (T := TX8) (N := 35) hx hb hts iX8 hown hK hP 0 rfl rfl 22 (Nat.le_of_ble_eq_true rfl) (hts _ fl_X8_66) (fun _ h9 => h9) rfl dX8_foldAll_87 ?_
    refine lv_iload_n hx hb dX8_foldAll_90 rfl (lv_at hl 2 rfl) ?_
    obtain ⟨hi_23, h⟩ := h
    refine va_iald hx hb hK hP 3 0 rfl rfl hi_23 dX8_foldAll_91 ?_
    refine zc_Vi (As := [.int (m_toward x2.toNatClampNeg)]) (rest := [.ref (ad 0)]) (wc := [((ad 0), oX8 ad m_said m_waved m_places m_end m_joints m_netPlaces m_begin m_finish m_rounds m_sews), ((ad 20), aI cy 1400 m_one)]) (wr := [((ad 17), aI cy 1400 m_from), ((ad 18), aI cy 1400 m_by), ((ad 19), aI cy 1400 m_toward), ((ad 22), aI cy 8400 m_next)]) hx hb hml hown hts hK hPW hA hl.1 hP hD hS ⟨Nat.zero_le _, Nat.zero_le _⟩ [0, 4] [1, 2, 3, 5] rfl rfl (by decide) (c_X8_oneOf l D cy (sz := _) (x1 := (m_toward x2.toNatClampNeg)) (ad := ad) (m_said := m_said) (m_waved := m_waved) (m_places := m_places) (m_end := m_end) (m_joints := m_joints) (m_netPlaces := m_netPlaces) (m_begin := m_begin) (m_finish := m_finish) (m_rounds := m_rounds) (m_sews := m_sews) (m_one := m_one) (h := h)) k_X8_232 ⟨rfl, rfl, (Nat.le_of_ble_eq_true rfl), (Nat.le_of_ble_eq_true rfl)⟩ rfl rfl rfl rfl (Nat.le_of_ble_eq_true rfl) dX8_foldAll_92 (fun r_24 m_one_24 H locs h hP hD hS => ?_)
    have hP : va_P D vwCl [((ad 17), aI cy 1400 m_from), ((ad 18), aI cy 1400 m_by), ((ad 19), aI cy 1400 m_toward), ((ad 22), aI cy 8400 m_next), ((ad 0), oX8 ad m_said m_waved m_places m_end m_joints m_netPlaces m_begin m_finish m_rounds m_sews), ((ad 20), aI cy 1400 m_one_24)] H := hP
    have hD : va_D A [((ad 17), aI cy 1400 m_from), ((ad 18), aI cy 1400 m_by), ((ad 19), aI cy 1400 m_toward), ((ad 22), aI cy 8400 m_next), ((ad 0), oX8 ad m_said m_waved m_places m_end m_joints m_netPlaces m_begin m_finish m_rounds m_sews), ((ad 20), aI cy 1400 m_one_24)] := hD
    refine lv_iconst (v := (2 : Int32)) hx hb dX8_foldAll_95 (by decide) ?_
    refine lv_aload_n hx hb dX8_foldAll_96 rfl (lv_at hl 1 rfl) ?_
    refine va_get (D := D) (ci := 7) (v := .ref (ad 18)) (C := RX8) (T := TX8) (N := 35) hx hb hts iX8 hown hK hP 4 rfl rfl 21 (Nat.le_of_ble_eq_true rfl) (hts _ fl_X8_63) (fun _ h9 => h9) rfl dX8_foldAll_97 ?_
    refine lv_iload_n hx hb dX8_foldAll_100 rfl (lv_at hl 2 rfl) ?_
    obtain ⟨hi_25, h⟩ := h
    refine va_iald hx hb hK hP 1 0 rfl rfl hi_25 dX8_foldAll_101 ?_
    refine lv_imul hx hb dX8_foldAll_102 ?_
    refine lv_iconst (v := (1 : Int32)) hx hb dX8_foldAll_103 (by decide) ?_
    refine lv_iadd hx hb dX8_foldAll_104 ?_
    refine lv_aload_n hx hb dX8_foldAll_105 rfl (lv_at hl 1 rfl) ?_
    refine lv_aload_n hx hb dX8_foldAll_106 rfl (lv_at hl 1 rfl) ?_
    refine va_get (D := D) (ci := 7) (v := .ref (ad 17)) (C := RX8) (T := TX8) (N := 35) hx hb hts iX8 hown hK hP 4 rfl rfl 20 (Nat.le_of_ble_eq_true rfl) (hts _ fl_X8_60) (fun _ h9 => h9) rfl dX8_foldAll_107 ?_
    refine lv_iload_n hx hb dX8_foldAll_110 rfl (lv_at hl 2 rfl) ?_
    obtain ⟨hi_26, h⟩ := h
    refine va_iald hx hb hK hP 0 0 rfl rfl hi_26 dX8_foldAll_111 ?_
    refine zc_Vi (As := [.int (m_from x2.toNatClampNeg)]) (rest := [.int (((2 : Int32) * (m_by x2.toNatClampNeg)) + (1 : Int32)), .int r_24, .ref (ad 0)]) (wc := [((ad 0), oX8 ad m_said m_waved m_places m_end m_joints m_netPlaces m_begin m_finish m_rounds m_sews), ((ad 20), aI cy 1400 m_one_24)]) (wr := [((ad 17), aI cy 1400 m_from), ((ad 18), aI cy 1400 m_by), ((ad 19), aI cy 1400 m_toward), ((ad 22), aI cy 8400 m_next)]) hx hb hml hown hts hK hPW hA hl.1 hP hD hS ⟨Nat.zero_le _, Nat.zero_le _⟩ [4, 5] [0, 1, 2, 3] rfl rfl (by decide) (c_X8_oneOf l D cy (sz := _) (x1 := (m_from x2.toNatClampNeg)) (ad := ad) (m_said := m_said) (m_waved := m_waved) (m_places := m_places) (m_end := m_end) (m_joints := m_joints) (m_netPlaces := m_netPlaces) (m_begin := m_begin) (m_finish := m_finish) (m_rounds := m_rounds) (m_sews := m_sews) (m_one := m_one_24) (h := h)) k_X8_232 ⟨rfl, rfl, (Nat.le_of_ble_eq_true rfl), (Nat.le_of_ble_eq_true rfl)⟩ rfl rfl rfl rfl (Nat.le_of_ble_eq_true rfl) dX8_foldAll_112 (fun r_27 m_one_27 H locs h hP hD hS => ?_)
    have hP : va_P D vwCl [((ad 17), aI cy 1400 m_from), ((ad 18), aI cy 1400 m_by), ((ad 19), aI cy 1400 m_toward), ((ad 22), aI cy 8400 m_next), ((ad 0), oX8 ad m_said m_waved m_places m_end m_joints m_netPlaces m_begin m_finish m_rounds m_sews), ((ad 20), aI cy 1400 m_one_27)] H := hP
    have hD : va_D A [((ad 17), aI cy 1400 m_from), ((ad 18), aI cy 1400 m_by), ((ad 19), aI cy 1400 m_toward), ((ad 22), aI cy 8400 m_next), ((ad 0), oX8 ad m_said m_waved m_places m_end m_joints m_netPlaces m_begin m_finish m_rounds m_sews), ((ad 20), aI cy 1400 m_one_27)] := hD
    refine zc_Vi (As := [.int r_24, .int (((2 : Int32) * (m_by x2.toNatClampNeg)) + (1 : Int32)), .int r_27]) (rest := []) (wc := [((ad 0), oX8 ad m_said m_waved m_places m_end m_joints m_netPlaces m_begin m_finish m_rounds m_sews), ((ad 20), aI cy 1400 m_one_27), ((ad 22), aI cy 8400 m_next)]) (wr := [((ad 17), aI cy 1400 m_from), ((ad 18), aI cy 1400 m_by), ((ad 19), aI cy 1400 m_toward)]) hx hb hml hown hts hK hPW hA hl.1 hP hD hS ⟨Nat.zero_le _, Nat.zero_le _⟩ [4, 5, 3] [0, 1, 2] rfl rfl (by decide) (c_X8_fold l D cy (sz := _) (x1 := r_24) (x2 := (((2 : Int32) * (m_by x2.toNatClampNeg)) + (1 : Int32))) (x3 := r_27) (ad := ad) (m_said := m_said) (m_waved := m_waved) (m_places := m_places) (m_end := m_end) (m_joints := m_joints) (m_netPlaces := m_netPlaces) (m_begin := m_begin) (m_finish := m_finish) (m_rounds := m_rounds) (m_sews := m_sews) (m_one := m_one_27) (m_next := m_next) (h := h)) k_X8_235 ⟨rfl, rfl, (Nat.le_of_ble_eq_true rfl), (Nat.le_of_ble_eq_true rfl)⟩ rfl rfl rfl rfl (Nat.le_of_ble_eq_true rfl) dX8_foldAll_115 (fun r_28 u_28 H locs h hP hD hS => ?_)
    obtain ⟨m_one_28, m_next_28, rfl, h⟩ := h
    have hP : va_P D vwCl [((ad 17), aI cy 1400 m_from), ((ad 18), aI cy 1400 m_by), ((ad 19), aI cy 1400 m_toward), ((ad 0), oX8 ad m_said m_waved m_places m_end m_joints m_netPlaces m_begin m_finish m_rounds m_sews), ((ad 20), aI cy 1400 m_one_28), ((ad 22), aI cy 8400 m_next_28)] H := hP
    have hD : va_D A [((ad 17), aI cy 1400 m_from), ((ad 18), aI cy 1400 m_by), ((ad 19), aI cy 1400 m_toward), ((ad 0), oX8 ad m_said m_waved m_places m_end m_joints m_netPlaces m_begin m_finish m_rounds m_sews), ((ad 20), aI cy 1400 m_one_28), ((ad 22), aI cy 8400 m_next_28)] := hD
    refine lv_if_ne (tgt := 125) hx hb dX8_foldAll_118 (by decide) (fun c_29 => ?_) (fun c_29 => ?_)
    · have h := h.1 c_29
      refine lv_iconst (v := (1 : Int32)) hx hb dX8_foldAll_125 (by decide) ?_
      refine lv_goto (tgt := 130) hx hb dX8_foldAll_126 (by decide) ?_
      exact hJ130 x2 (1 : Int32) m_one_28 m_next_28 _ hrc31  h _ _ _ (hP.sub [3, 0, 1, 2, 4, 5] rfl) (hD.sub [3, 0, 1, 2, 4, 5] (by decide) rfl) hS (lv_sub hl [1, 2] rfl)
    · have h := h.2 c_29
      refine lv_iload_n hx hb dX8_foldAll_121 rfl (lv_at hl 0 rfl) ?_
      refine lv_if_eq (tgt := 129) hx hb dX8_foldAll_122 (by decide) (fun c_30 => ?_) (fun c_30 => ?_)
      · have h := h.1 c_30
        refine lv_iconst (v := (0 : Int32)) hx hb dX8_foldAll_129 (by decide) ?_
        exact hJ130 x2 (0 : Int32) m_one_28 m_next_28 _ hrc31  h _ _ _ (hP.sub [3, 0, 1, 2, 4, 5] rfl) (hD.sub [3, 0, 1, 2, 4, 5] (by decide) rfl) hS (lv_sub hl [1, 2] rfl)
      · have h := h.2 c_30
        refine lv_iconst (v := (1 : Int32)) hx hb dX8_foldAll_125 (by decide) ?_
        refine lv_goto (tgt := 130) hx hb dX8_foldAll_126 (by decide) ?_
        exact hJ130 x2 (1 : Int32) m_one_28 m_next_28 _ hrc31  h _ _ _ (hP.sub [3, 0, 1, 2, 4, 5] rfl) (hD.sub [3, 0, 1, 2, 4, 5] (by decide) rfl) hS (lv_sub hl [1, 2] rfl)
  have hJ31 : ∀ (x1 : Int32) (x2 : Int32) (m_one : Nat → Int32) (m_next : Nat → Int32), wp_X8_foldAll_31 m_joints m_netPlaces m_from m_by m_toward  Q x1 x2 m_one m_next → ∀ (H : Heap) (locs : List Loc) (ls : Array Slot), va_P D vwCl [((ad 0), oX8 ad m_said m_waved m_places m_end m_joints m_netPlaces m_begin m_finish m_rounds m_sews), ((ad 17), aI cy 1400 m_from), ((ad 18), aI cy 1400 m_by), ((ad 19), aI cy 1400 m_toward), ((ad 20), aI cy 1400 m_one), ((ad 22), aI cy 8400 m_next)] H → va_D A [((ad 0), oX8 ad m_said m_waved m_places m_end m_joints m_netPlaces m_begin m_finish m_rounds m_sews), ((ad 17), aI cy 1400 m_from), ((ad 18), aI cy 1400 m_by), ((ad 19), aI cy 1400 m_toward), ((ad 20), aI cy 1400 m_one), ((ad 22), aI cy 8400 m_next)] → va_S A s.heap H locs → lv_has ls 3 [(0, .ref (ad 0)), (1, .int x1), (2, .int x2)] → W p l e { frames := 2, cells := 0, slots := 0, locals := 48 } s m args below meth c H locs 0 0 (MQ below ((fun A => va_Qi (fun (r : Int32) (u : (Nat → Int32) × (Nat → Int32)) => ∃ (z0 : Nat → Int32) (z1 : Nat → Int32), u = (z0, z1) ∧ Q r z0 z1) (zE D vwCl A (fun (u : (Nat → Int32) × (Nat → Int32)) => [((ad 0), oX8 ad m_said m_waved m_places m_end m_joints m_netPlaces m_begin m_finish m_rounds m_sews), ((ad 17), aI cy 1400 m_from), ((ad 18), aI cy 1400 m_by), ((ad 19), aI cy 1400 m_toward), ((ad 20), aI cy 1400 (u.1)), ((ad 22), aI cy 8400 (u.2))])) A) A) args s 0 0 A) (F0 m 31 ls []) := by
    intro x1 x2 m_one m_next   h
    obtain ⟨nn, h⟩ := h
    have key : ∀ (nn : Nat) (x1 : Int32) (x2 : Int32) (m_one : Nat → Int32) (m_next : Nat → Int32), lpW4 (wb_X8_foldAll_31 m_joints m_netPlaces m_from m_by m_toward  Q) nn x1 x2 m_one m_next → ∀ (H : Heap) (locs : List Loc) (ls : Array Slot), va_P D vwCl [((ad 0), oX8 ad m_said m_waved m_places m_end m_joints m_netPlaces m_begin m_finish m_rounds m_sews), ((ad 17), aI cy 1400 m_from), ((ad 18), aI cy 1400 m_by), ((ad 19), aI cy 1400 m_toward), ((ad 20), aI cy 1400 m_one), ((ad 22), aI cy 8400 m_next)] H → va_D A [((ad 0), oX8 ad m_said m_waved m_places m_end m_joints m_netPlaces m_begin m_finish m_rounds m_sews), ((ad 17), aI cy 1400 m_from), ((ad 18), aI cy 1400 m_by), ((ad 19), aI cy 1400 m_toward), ((ad 20), aI cy 1400 m_one), ((ad 22), aI cy 8400 m_next)] → va_S A s.heap H locs → lv_has ls 3 [(0, .ref (ad 0)), (1, .int x1), (2, .int x2)] → W p l e { frames := 2, cells := 0, slots := 0, locals := 48 } s m args below meth c H locs 0 0 (MQ below ((fun A => va_Qi (fun (r : Int32) (u : (Nat → Int32) × (Nat → Int32)) => ∃ (z0 : Nat → Int32) (z1 : Nat → Int32), u = (z0, z1) ∧ Q r z0 z1) (zE D vwCl A (fun (u : (Nat → Int32) × (Nat → Int32)) => [((ad 0), oX8 ad m_said m_waved m_places m_end m_joints m_netPlaces m_begin m_finish m_rounds m_sews), ((ad 17), aI cy 1400 m_from), ((ad 18), aI cy 1400 m_by), ((ad 19), aI cy 1400 m_toward), ((ad 20), aI cy 1400 (u.1)), ((ad 22), aI cy 8400 (u.2))])) A) A) args s 0 0 A) (F0 m 31 ls []) := by
      intro nn
      induction nn with
      | zero => intro x1 x2 m_one m_next h; exact h.elim
      | succ nn hrc31 =>
        intro x1 x2 m_one m_next h H locs ls hP hD hS hl
        have h : wb_X8_foldAll_31 m_joints m_netPlaces m_from m_by m_toward  Q (lpW4 (wb_X8_foldAll_31 m_joints m_netPlaces m_from m_by m_toward  Q) nn) x1 x2 m_one m_next := h
        unfold wb_X8_foldAll_31 at h
        refine lv_iload_n hx hb dX8_foldAll_31 rfl (lv_at hl 2 rfl) ?_
        refine lv_aload_n hx hb dX8_foldAll_32 rfl (lv_at hl 0 rfl) ?_
        refine va_get (D := D) (ci := 7) (v := .int m_joints) (C := RX8) (T := TX8) (N := 35) hx hb hts iX8 hown hK hP 0 rfl rfl 23 (Nat.le_of_ble_eq_true rfl) (hts _ fl_X8_229) (fun _ h9 => h9) rfl dX8_foldAll_33 ?_
        refine lv_icmp_ge (tgt := 137) hx hb dX8_foldAll_36 (by decide) (fun c_31 => ?_) (fun c_31 => ?_)
        · have h := h.1 c_31
          refine lv_iload_n hx hb dX8_foldAll_137 rfl (lv_at hl 1 rfl) ?_
          obtain ⟨hz, h⟩ := h
          exact z_zret (m_one, m_next) hx hb hr hlocks (isB.n hz) ⟨m_one, m_next, rfl, h⟩ hP hD hS dX8_foldAll_138
        · have h := h.2 c_31
          refine lv_aload_n hx hb dX8_foldAll_39 rfl (lv_at hl 0 rfl) ?_
          refine lv_aload_n hx hb dX8_foldAll_40 rfl (lv_at hl 0 rfl) ?_
          refine lv_aload_n hx hb dX8_foldAll_41 rfl (lv_at hl 0 rfl) ?_
          refine va_get (D := D) (ci := 7) (v := .ref (ad 17)) (C := RX8) (T := TX8) (N := 35) hx hb hts iX8 hown hK hP 0 rfl rfl 20 (Nat.le_of_ble_eq_true rfl) (hts _ fl_X8_60) (fun _ h9 => h9) rfl dX8_foldAll_42 ?_
          refine lv_iload_n hx hb dX8_foldAll_45 rfl (lv_at hl 2 rfl) ?_
          obtain ⟨hi_32, h⟩ := h
          refine va_iald hx hb hK hP 1 0 rfl rfl hi_32 dX8_foldAll_46 ?_
          refine zc_Vi (As := [.int (m_from x2.toNatClampNeg)]) (rest := [.ref (ad 0)]) (wc := [((ad 0), oX8 ad m_said m_waved m_places m_end m_joints m_netPlaces m_begin m_finish m_rounds m_sews), ((ad 20), aI cy 1400 m_one)]) (wr := [((ad 17), aI cy 1400 m_from), ((ad 18), aI cy 1400 m_by), ((ad 19), aI cy 1400 m_toward), ((ad 22), aI cy 8400 m_next)]) hx hb hml hown hts hK hPW hA hl.1 hP hD hS ⟨Nat.zero_le _, Nat.zero_le _⟩ [0, 4] [1, 2, 3, 5] rfl rfl (by decide) (c_X8_oneOf l D cy (sz := _) (x1 := (m_from x2.toNatClampNeg)) (ad := ad) (m_said := m_said) (m_waved := m_waved) (m_places := m_places) (m_end := m_end) (m_joints := m_joints) (m_netPlaces := m_netPlaces) (m_begin := m_begin) (m_finish := m_finish) (m_rounds := m_rounds) (m_sews := m_sews) (m_one := m_one) (h := h)) k_X8_232 ⟨rfl, rfl, (Nat.le_of_ble_eq_true rfl), (Nat.le_of_ble_eq_true rfl)⟩ rfl rfl rfl rfl (Nat.le_of_ble_eq_true rfl) dX8_foldAll_47 (fun r_33 m_one_33 H locs h hP hD hS => ?_)
          have hP : va_P D vwCl [((ad 17), aI cy 1400 m_from), ((ad 18), aI cy 1400 m_by), ((ad 19), aI cy 1400 m_toward), ((ad 22), aI cy 8400 m_next), ((ad 0), oX8 ad m_said m_waved m_places m_end m_joints m_netPlaces m_begin m_finish m_rounds m_sews), ((ad 20), aI cy 1400 m_one_33)] H := hP
          have hD : va_D A [((ad 17), aI cy 1400 m_from), ((ad 18), aI cy 1400 m_by), ((ad 19), aI cy 1400 m_toward), ((ad 22), aI cy 8400 m_next), ((ad 0), oX8 ad m_said m_waved m_places m_end m_joints m_netPlaces m_begin m_finish m_rounds m_sews), ((ad 20), aI cy 1400 m_one_33)] := hD
          refine lv_iconst (v := (2 : Int32)) hx hb dX8_foldAll_50 (by decide) ?_
          refine lv_aload_n hx hb dX8_foldAll_51 rfl (lv_at hl 0 rfl) ?_
          refine va_get (D := D) (ci := 7) (v := .ref (ad 18)) (C := RX8) (T := TX8) (N := 35) hx hb hts iX8 hown hK hP 4 rfl rfl 21 (Nat.le_of_ble_eq_true rfl) (hts _ fl_X8_63) (fun _ h9 => h9) rfl dX8_foldAll_52 ?_
          refine lv_iload_n hx hb dX8_foldAll_55 rfl (lv_at hl 2 rfl) ?_
          obtain ⟨hi_34, h⟩ := h
          refine va_iald hx hb hK hP 1 0 rfl rfl hi_34 dX8_foldAll_56 ?_
          refine lv_imul hx hb dX8_foldAll_57 ?_
          refine lv_aload_n hx hb dX8_foldAll_58 rfl (lv_at hl 0 rfl) ?_
          refine lv_aload_n hx hb dX8_foldAll_59 rfl (lv_at hl 0 rfl) ?_
          refine va_get (D := D) (ci := 7) (v := .ref (ad 19)) (C := RX8) (T := TX8) (N := 35) hx hb hts iX8 hown hK hP 4 rfl rfl 22 (Nat.le_of_ble_eq_true rfl) (hts _ fl_X8_66) (fun _ h9 => h9) rfl dX8_foldAll_60 ?_
          refine lv_iload_n hx hb dX8_foldAll_63 rfl (lv_at hl 2 rfl) ?_
          obtain ⟨hi_35, h⟩ := h
          refine va_iald hx hb hK hP 2 0 rfl rfl hi_35 dX8_foldAll_64 ?_
          refine zc_Vi (As := [.int (m_toward x2.toNatClampNeg)]) (rest := [.int ((2 : Int32) * (m_by x2.toNatClampNeg)), .int r_33, .ref (ad 0)]) (wc := [((ad 0), oX8 ad m_said m_waved m_places m_end m_joints m_netPlaces m_begin m_finish m_rounds m_sews), ((ad 20), aI cy 1400 m_one_33)]) (wr := [((ad 17), aI cy 1400 m_from), ((ad 18), aI cy 1400 m_by), ((ad 19), aI cy 1400 m_toward), ((ad 22), aI cy 8400 m_next)]) hx hb hml hown hts hK hPW hA hl.1 hP hD hS ⟨Nat.zero_le _, Nat.zero_le _⟩ [4, 5] [0, 1, 2, 3] rfl rfl (by decide) (c_X8_oneOf l D cy (sz := _) (x1 := (m_toward x2.toNatClampNeg)) (ad := ad) (m_said := m_said) (m_waved := m_waved) (m_places := m_places) (m_end := m_end) (m_joints := m_joints) (m_netPlaces := m_netPlaces) (m_begin := m_begin) (m_finish := m_finish) (m_rounds := m_rounds) (m_sews := m_sews) (m_one := m_one_33) (h := h)) k_X8_232 ⟨rfl, rfl, (Nat.le_of_ble_eq_true rfl), (Nat.le_of_ble_eq_true rfl)⟩ rfl rfl rfl rfl (Nat.le_of_ble_eq_true rfl) dX8_foldAll_65 (fun r_36 m_one_36 H locs h hP hD hS => ?_)
          have hP : va_P D vwCl [((ad 17), aI cy 1400 m_from), ((ad 18), aI cy 1400 m_by), ((ad 19), aI cy 1400 m_toward), ((ad 22), aI cy 8400 m_next), ((ad 0), oX8 ad m_said m_waved m_places m_end m_joints m_netPlaces m_begin m_finish m_rounds m_sews), ((ad 20), aI cy 1400 m_one_36)] H := hP
          have hD : va_D A [((ad 17), aI cy 1400 m_from), ((ad 18), aI cy 1400 m_by), ((ad 19), aI cy 1400 m_toward), ((ad 22), aI cy 8400 m_next), ((ad 0), oX8 ad m_said m_waved m_places m_end m_joints m_netPlaces m_begin m_finish m_rounds m_sews), ((ad 20), aI cy 1400 m_one_36)] := hD
          refine zc_Vi (As := [.int r_33, .int ((2 : Int32) * (m_by x2.toNatClampNeg)), .int r_36]) (rest := []) (wc := [((ad 0), oX8 ad m_said m_waved m_places m_end m_joints m_netPlaces m_begin m_finish m_rounds m_sews), ((ad 20), aI cy 1400 m_one_36), ((ad 22), aI cy 8400 m_next)]) (wr := [((ad 17), aI cy 1400 m_from), ((ad 18), aI cy 1400 m_by), ((ad 19), aI cy 1400 m_toward)]) hx hb hml hown hts hK hPW hA hl.1 hP hD hS ⟨Nat.zero_le _, Nat.zero_le _⟩ [4, 5, 3] [0, 1, 2] rfl rfl (by decide) (c_X8_fold l D cy (sz := _) (x1 := r_33) (x2 := ((2 : Int32) * (m_by x2.toNatClampNeg))) (x3 := r_36) (ad := ad) (m_said := m_said) (m_waved := m_waved) (m_places := m_places) (m_end := m_end) (m_joints := m_joints) (m_netPlaces := m_netPlaces) (m_begin := m_begin) (m_finish := m_finish) (m_rounds := m_rounds) (m_sews := m_sews) (m_one := m_one_36) (m_next := m_next) (h := h)) k_X8_235 ⟨rfl, rfl, (Nat.le_of_ble_eq_true rfl), (Nat.le_of_ble_eq_true rfl)⟩ rfl rfl rfl rfl (Nat.le_of_ble_eq_true rfl) dX8_foldAll_68 (fun r_37 u_37 H locs h hP hD hS => ?_)
          obtain ⟨m_one_37, m_next_37, rfl, h⟩ := h
          have hP : va_P D vwCl [((ad 17), aI cy 1400 m_from), ((ad 18), aI cy 1400 m_by), ((ad 19), aI cy 1400 m_toward), ((ad 0), oX8 ad m_said m_waved m_places m_end m_joints m_netPlaces m_begin m_finish m_rounds m_sews), ((ad 20), aI cy 1400 m_one_37), ((ad 22), aI cy 8400 m_next_37)] H := hP
          have hD : va_D A [((ad 17), aI cy 1400 m_from), ((ad 18), aI cy 1400 m_by), ((ad 19), aI cy 1400 m_toward), ((ad 0), oX8 ad m_said m_waved m_places m_end m_joints m_netPlaces m_begin m_finish m_rounds m_sews), ((ad 20), aI cy 1400 m_one_37), ((ad 22), aI cy 8400 m_next_37)] := hD
          refine lv_if_ne (tgt := 78) hx hb dX8_foldAll_71 (by decide) (fun c_38 => ?_) (fun c_38 => ?_)
          · have h := h.1 c_38
            refine lv_iconst (v := (1 : Int32)) hx hb dX8_foldAll_78 (by decide) ?_
            refine lv_goto (tgt := 83) hx hb dX8_foldAll_79 (by decide) ?_
            exact hJ83 x2 (1 : Int32) m_one_37 m_next_37 _ hrc31  h _ _ _ (hP.sub [3, 0, 1, 2, 4, 5] rfl) (hD.sub [3, 0, 1, 2, 4, 5] (by decide) rfl) hS (lv_sub hl [0, 2] rfl)
          · have h := h.2 c_38
            refine lv_iload_n hx hb dX8_foldAll_74 rfl (lv_at hl 1 rfl) ?_
            refine lv_if_eq (tgt := 82) hx hb dX8_foldAll_75 (by decide) (fun c_39 => ?_) (fun c_39 => ?_)
            · have h := h.1 c_39
              refine lv_iconst (v := (0 : Int32)) hx hb dX8_foldAll_82 (by decide) ?_
              exact hJ83 x2 (0 : Int32) m_one_37 m_next_37 _ hrc31  h _ _ _ (hP.sub [3, 0, 1, 2, 4, 5] rfl) (hD.sub [3, 0, 1, 2, 4, 5] (by decide) rfl) hS (lv_sub hl [0, 2] rfl)
            · have h := h.2 c_39
              refine lv_iconst (v := (1 : Int32)) hx hb dX8_foldAll_78 (by decide) ?_
              refine lv_goto (tgt := 83) hx hb dX8_foldAll_79 (by decide) ?_
              exact hJ83 x2 (1 : Int32) m_one_37 m_next_37 _ hrc31  h _ _ _ (hP.sub [3, 0, 1, 2, 4, 5] rfl) (hD.sub [3, 0, 1, 2, 4, 5] (by decide) rfl) hS (lv_sub hl [0, 2] rfl)
    exact key nn x1 x2 m_one m_next h
  have hJ2 : ∀ (x1 : Int32) (m_one : Nat → Int32) (m_next : Nat → Int32), wp_X8_foldAll_2 m_joints m_netPlaces m_from m_by m_toward m_one  Q x1 m_next → ∀ (H : Heap) (locs : List Loc) (ls : Array Slot), va_P D vwCl [((ad 0), oX8 ad m_said m_waved m_places m_end m_joints m_netPlaces m_begin m_finish m_rounds m_sews), ((ad 17), aI cy 1400 m_from), ((ad 18), aI cy 1400 m_by), ((ad 19), aI cy 1400 m_toward), ((ad 20), aI cy 1400 m_one), ((ad 22), aI cy 8400 m_next)] H → va_D A [((ad 0), oX8 ad m_said m_waved m_places m_end m_joints m_netPlaces m_begin m_finish m_rounds m_sews), ((ad 17), aI cy 1400 m_from), ((ad 18), aI cy 1400 m_by), ((ad 19), aI cy 1400 m_toward), ((ad 20), aI cy 1400 m_one), ((ad 22), aI cy 8400 m_next)] → va_S A s.heap H locs → lv_has ls 3 [(0, .ref (ad 0)), (1, .int x1)] → W p l e { frames := 2, cells := 0, slots := 0, locals := 48 } s m args below meth c H locs 0 0 (MQ below ((fun A => va_Qi (fun (r : Int32) (u : (Nat → Int32) × (Nat → Int32)) => ∃ (z0 : Nat → Int32) (z1 : Nat → Int32), u = (z0, z1) ∧ Q r z0 z1) (zE D vwCl A (fun (u : (Nat → Int32) × (Nat → Int32)) => [((ad 0), oX8 ad m_said m_waved m_places m_end m_joints m_netPlaces m_begin m_finish m_rounds m_sews), ((ad 17), aI cy 1400 m_from), ((ad 18), aI cy 1400 m_by), ((ad 19), aI cy 1400 m_toward), ((ad 20), aI cy 1400 (u.1)), ((ad 22), aI cy 8400 (u.2))])) A) A) args s 0 0 A) (F0 m 2 ls []) := by
    intro x1 m_one m_next   h
    obtain ⟨nn, h⟩ := h
    have key : ∀ (nn : Nat) (x1 : Int32) (m_next : Nat → Int32), lpW2 (wb_X8_foldAll_2 m_joints m_netPlaces m_from m_by m_toward m_one  Q) nn x1 m_next → ∀ (H : Heap) (locs : List Loc) (ls : Array Slot), va_P D vwCl [((ad 0), oX8 ad m_said m_waved m_places m_end m_joints m_netPlaces m_begin m_finish m_rounds m_sews), ((ad 17), aI cy 1400 m_from), ((ad 18), aI cy 1400 m_by), ((ad 19), aI cy 1400 m_toward), ((ad 20), aI cy 1400 m_one), ((ad 22), aI cy 8400 m_next)] H → va_D A [((ad 0), oX8 ad m_said m_waved m_places m_end m_joints m_netPlaces m_begin m_finish m_rounds m_sews), ((ad 17), aI cy 1400 m_from), ((ad 18), aI cy 1400 m_by), ((ad 19), aI cy 1400 m_toward), ((ad 20), aI cy 1400 m_one), ((ad 22), aI cy 8400 m_next)] → va_S A s.heap H locs → lv_has ls 3 [(0, .ref (ad 0)), (1, .int x1)] → W p l e { frames := 2, cells := 0, slots := 0, locals := 48 } s m args below meth c H locs 0 0 (MQ below ((fun A => va_Qi (fun (r : Int32) (u : (Nat → Int32) × (Nat → Int32)) => ∃ (z0 : Nat → Int32) (z1 : Nat → Int32), u = (z0, z1) ∧ Q r z0 z1) (zE D vwCl A (fun (u : (Nat → Int32) × (Nat → Int32)) => [((ad 0), oX8 ad m_said m_waved m_places m_end m_joints m_netPlaces m_begin m_finish m_rounds m_sews), ((ad 17), aI cy 1400 m_from), ((ad 18), aI cy 1400 m_by), ((ad 19), aI cy 1400 m_toward), ((ad 20), aI cy 1400 (u.1)), ((ad 22), aI cy 8400 (u.2))])) A) A) args s 0 0 A) (F0 m 2 ls []) := by
      intro nn
      induction nn with
      | zero => intro x1 m_next h; exact h.elim
      | succ nn hrc2 =>
        intro x1 m_next h H locs ls hP hD hS hl
        have h : wb_X8_foldAll_2 m_joints m_netPlaces m_from m_by m_toward m_one  Q (lpW2 (wb_X8_foldAll_2 m_joints m_netPlaces m_from m_by m_toward m_one  Q) nn) x1 m_next := h
        unfold wb_X8_foldAll_2 at h
        refine lv_iload_n hx hb dX8_foldAll_2 rfl (lv_at hl 1 rfl) ?_
        refine lv_bipush (v := (6 : Int32)) hx hb dX8_foldAll_3 (by decide) ?_
        refine lv_aload_n hx hb dX8_foldAll_5 rfl (lv_at hl 0 rfl) ?_
        refine va_get (D := D) (ci := 7) (v := .int m_netPlaces) (C := RX8) (T := TX8) (N := 35) hx hb hts iX8 hown hK hP 0 rfl rfl 24 (Nat.le_of_ble_eq_true rfl) (hts _ fl_X8_226) (fun _ h9 => h9) rfl dX8_foldAll_6 ?_
        refine lv_imul hx hb dX8_foldAll_9 ?_
        refine lv_icmp_ge (tgt := 27) hx hb dX8_foldAll_10 (by decide) (fun c_40 => ?_) (fun c_40 => ?_)
        · have h := h.1 c_40
          refine lv_iconst (v := (0 : Int32)) hx hb dX8_foldAll_27 (by decide) ?_
          refine lv_istore_n (lv' := [(1, .int (0 : Int32)), (0, .ref (ad 0))]) hx hb dX8_foldAll_28 rfl hl (by decide) rfl (fun ls hl => ?_)
          refine lv_iconst (v := (0 : Int32)) hx hb dX8_foldAll_29 (by decide) ?_
          refine lv_istore_n (lv' := [(2, .int (0 : Int32)), (1, .int (0 : Int32)), (0, .ref (ad 0))]) hx hb dX8_foldAll_30 rfl hl (by decide) rfl (fun ls hl => ?_)
          exact hJ31 (0 : Int32) (0 : Int32) m_one m_next   h _ _ _ hP hD hS (lv_sub hl [2, 1, 0] rfl)
        · have h := h.2 c_40
          refine lv_aload_n hx hb dX8_foldAll_13 rfl (lv_at hl 0 rfl) ?_
          refine va_get (D := D) (ci := 7) (v := .ref (ad 22)) (C := RX8) (T := TX8) (N := 35) hx hb hts iX8 hown hK hP 0 rfl rfl 30 (Nat.le_of_ble_eq_true rfl) (hts _ fl_X8_75) (fun _ h9 => h9) rfl dX8_foldAll_14 ?_
          refine lv_iload_n hx hb dX8_foldAll_17 rfl (lv_at hl 1 rfl) ?_
          refine lv_bipush (v := (-6 : Int32)) hx hb dX8_foldAll_18 (by decide) ?_
          obtain ⟨hi_41, h⟩ := h
          refine va_iast hx hb hK hP hD hS 5 0 rfl rfl hi_41 dX8_foldAll_20 (fun H locs hP hD hS => ?_)
          have hP : va_P D vwCl [((ad 0), oX8 ad m_said m_waved m_places m_end m_joints m_netPlaces m_begin m_finish m_rounds m_sews), ((ad 17), aI cy 1400 m_from), ((ad 18), aI cy 1400 m_by), ((ad 19), aI cy 1400 m_toward), ((ad 20), aI cy 1400 m_one), ((ad 22), aI cy 8400 (upd m_next x1.toNatClampNeg (-6 : Int32)))] H := hP
          have hD : va_D A [((ad 0), oX8 ad m_said m_waved m_places m_end m_joints m_netPlaces m_begin m_finish m_rounds m_sews), ((ad 17), aI cy 1400 m_from), ((ad 18), aI cy 1400 m_by), ((ad 19), aI cy 1400 m_toward), ((ad 20), aI cy 1400 m_one), ((ad 22), aI cy 8400 (upd m_next x1.toNatClampNeg (-6 : Int32)))] := hD
          obtain ⟨x1_42, e_x1_42⟩ : ∃ y : Int32, y = x1 + (1 : Int32) := ⟨_, rfl⟩
          refine lv_iinc (v := x1_42) (lv' := [(1, .int x1_42), (0, .ref (ad 0))]) hx hb dX8_foldAll_21 hl (k := 1) rfl (by rw [e_x1_42]; rfl) (by decide) rfl (fun ls hl => ?_)
          have h := h x1_42 e_x1_42
          refine lv_goto (tgt := 2) hx hb dX8_foldAll_24 (by decide) ?_
          exact hrc2 x1_42 (upd m_next x1.toNatClampNeg (-6 : Int32)) h _ _ _ hP hD hS (lv_sub hl [1, 0] rfl)
    exact key nn x1 m_next h
  unfold wp_X8_foldAll at h
  refine lv_iconst (v := (0 : Int32)) hx hb dX8_foldAll_0 (by decide) ?_
  refine lv_istore_n (lv' := [(1, .int (0 : Int32)), (0, .ref (ad 0))]) hx hb dX8_foldAll_1 rfl hl (by decide) rfl (fun ls hl => ?_)
  exact hJ2 (0 : Int32) m_one m_next   h _ _ _ hP hD hS (lv_sub hl [1, 0] rfl)
set_option maxHeartbeats 4000000 in
set_option maxRecDepth 100000 in
theorem c_X8_tidy (l : Launch) (D : va_G) (cy : Nat → ClassId) (ad : Nat → Nat) (sz : Nat) (m_said : Int32) (m_waved : Int32) (m_places : Int32) (m_end : Int32) (m_joints : Int32) (m_netPlaces : Int32) (m_begin : Int32) (m_finish : Int32) (m_rounds : Int32) (m_sews : Int32) (m_from : Nat → Int32) (m_by : Nat → Int32) (m_toward : Nat → Int32) (m_one : Nat → Int32) (m_number : Nat → Int32) (m_next : Nat → Int32) {Q : Int32 → Int32 → Int32 → Int32 → (Nat → Int32) → (Nat → Int32) → (Nat → Int32) → (Nat → Int32) → (Nat → Int32) → Prop} (h : wp_X8_tidy m_joints m_netPlaces m_begin m_finish m_from m_by m_toward m_one m_number m_next Q) : Met l yX8_tidy (wsU yX8_tidy cX8_tidy 4 none) { frames := 1, cells := 0, slots := 0, locals := 23 } (va_Pc [.ref (ad 0)] (zB D vwCl (tyU cy) [((ad 0), oX8 ad m_said m_waved m_places m_end m_joints m_netPlaces m_begin m_finish m_rounds m_sews), ((ad 17), aI cy 1400 m_from), ((ad 18), aI cy 1400 m_by), ((ad 19), aI cy 1400 m_toward), ((ad 20), aI cy 1400 m_one), ((ad 21), aI cy 1400 m_number), ((ad 22), aI cy 8400 m_next)] sz)) ((fun A => va_Qv (fun (u : Int32 × Int32 × Int32 × Int32 × (Nat → Int32) × (Nat → Int32) × (Nat → Int32) × (Nat → Int32) × (Nat → Int32)) => ∃ (z0 : Int32) (z1 : Int32) (z2 : Int32) (z3 : Int32) (z4 : Nat → Int32) (z5 : Nat → Int32) (z6 : Nat → Int32) (z7 : Nat → Int32) (z8 : Nat → Int32), u = (z0, z1, z2, z3, z4, z5, z6, z7, z8) ∧ Q z0 z1 z2 z3 z4 z5 z6 z7 z8) (zE D vwCl A (fun (u : Int32 × Int32 × Int32 × Int32 × (Nat → Int32) × (Nat → Int32) × (Nat → Int32) × (Nat → Int32) × (Nat → Int32)) => [((ad 0), oX8 ad m_said m_waved m_places m_end (u.1) (u.2.1) (u.2.2.1) (u.2.2.2.1) m_rounds m_sews), ((ad 17), aI cy 1400 (u.2.2.2.2.1)), ((ad 18), aI cy 1400 (u.2.2.2.2.2.1)), ((ad 19), aI cy 1400 (u.2.2.2.2.2.2.1)), ((ad 20), aI cy 1400 (u.2.2.2.2.2.2.2.1)), ((ad 21), aI cy 1400 (u.2.2.2.2.2.2.2.2)), ((ad 22), aI cy 8400 m_next)])) A) (va_A [((ad 0), oX8 ad m_said m_waved m_places m_end m_joints m_netPlaces m_begin m_finish m_rounds m_sews), ((ad 17), aI cy 1400 m_from), ((ad 18), aI cy 1400 m_by), ((ad 19), aI cy 1400 m_toward), ((ad 20), aI cy 1400 m_one), ((ad 21), aI cy 1400 m_number), ((ad 22), aI cy 8400 m_next)] sz)) 0 0 (va_A [((ad 0), oX8 ad m_said m_waved m_places m_end m_joints m_netPlaces m_begin m_finish m_rounds m_sews), ((ad 17), aI cy 1400 m_from), ((ad 18), aI cy 1400 m_by), ((ad 19), aI cy 1400 m_toward), ((ad 20), aI cy 1400 m_one), ((ad 21), aI cy 1400 m_number), ((ad 22), aI cy 8400 m_next)] sz) := by
  refine z_ofX (fun A => va_Qv (fun (u : Int32 × Int32 × Int32 × Int32 × (Nat → Int32) × (Nat → Int32) × (Nat → Int32) × (Nat → Int32) × (Nat → Int32)) => ∃ (z0 : Int32) (z1 : Int32) (z2 : Int32) (z3 : Int32) (z4 : Nat → Int32) (z5 : Nat → Int32) (z6 : Nat → Int32) (z7 : Nat → Int32) (z8 : Nat → Int32), u = (z0, z1, z2, z3, z4, z5, z6, z7, z8) ∧ Q z0 z1 z2 z3 z4 z5 z6 z7 z8) (zE D vwCl A (fun (u : Int32 × Int32 × Int32 × Int32 × (Nat → Int32) × (Nat → Int32) × (Nat → Int32) × (Nat → Int32) × (Nat → Int32)) => [((ad 0), oX8 ad m_said m_waved m_places m_end (u.1) (u.2.1) (u.2.2.1) (u.2.2.2.1) m_rounds m_sews), ((ad 17), aI cy 1400 (u.2.2.2.2.1)), ((ad 18), aI cy 1400 (u.2.2.2.2.2.1)), ((ad 19), aI cy 1400 (u.2.2.2.2.2.2.1)), ((ad 20), aI cy 1400 (u.2.2.2.2.2.2.2.1)), ((ad 21), aI cy 1400 (u.2.2.2.2.2.2.2.2)), ((ad 22), aI cy 8400 m_next)])) A) (by decide) (Nat.le_of_ble_eq_true rfl) (fun p e s m below meth c A ls hx hb hr hml hown hts hlocks hK hPW hA hP hD hS hl => ?_)
  have hl : lv_has ls 4 [(0, .ref (ad 0))] := hl
  have hown : s.vm.findClass RX8 = some m.cls := hown
  generalize hArg : ([.ref (ad 0)] : List Value).toArray = args at hts ⊢
  have hJ40 : ∀ (x1 : Int32) (x2 : Int32) (m_joints : Int32) (m_netPlaces : Int32) (m_begin : Int32) (m_finish : Int32) (m_from : Nat → Int32) (m_by : Nat → Int32) (m_toward : Nat → Int32) (m_one : Nat → Int32) (m_number : Nat → Int32) (rc4 : Int32 → Int32 → (Nat → Int32) → Prop) (hrc4 : ∀ (x1 : Int32) (x2 : Int32) (m_number : Nat → Int32), rc4 x1 x2 m_number → ∀ (H : Heap) (locs : List Loc) (ls : Array Slot), va_P D vwCl [((ad 0), oX8 ad m_said m_waved m_places m_end m_joints m_netPlaces m_begin m_finish m_rounds m_sews), ((ad 17), aI cy 1400 m_from), ((ad 18), aI cy 1400 m_by), ((ad 19), aI cy 1400 m_toward), ((ad 20), aI cy 1400 m_one), ((ad 21), aI cy 1400 m_number), ((ad 22), aI cy 8400 m_next)] H → va_D A [((ad 0), oX8 ad m_said m_waved m_places m_end m_joints m_netPlaces m_begin m_finish m_rounds m_sews), ((ad 17), aI cy 1400 m_from), ((ad 18), aI cy 1400 m_by), ((ad 19), aI cy 1400 m_toward), ((ad 20), aI cy 1400 m_one), ((ad 21), aI cy 1400 m_number), ((ad 22), aI cy 8400 m_next)] → va_S A s.heap H locs → lv_has ls 4 [(0, .ref (ad 0)), (1, .int x1), (2, .int x2)] → W p l e { frames := 1, cells := 0, slots := 0, locals := 23 } s m args below meth c H locs 0 0 (MQ below ((fun A => va_Qv (fun (u : Int32 × Int32 × Int32 × Int32 × (Nat → Int32) × (Nat → Int32) × (Nat → Int32) × (Nat → Int32) × (Nat → Int32)) => ∃ (z0 : Int32) (z1 : Int32) (z2 : Int32) (z3 : Int32) (z4 : Nat → Int32) (z5 : Nat → Int32) (z6 : Nat → Int32) (z7 : Nat → Int32) (z8 : Nat → Int32), u = (z0, z1, z2, z3, z4, z5, z6, z7, z8) ∧ Q z0 z1 z2 z3 z4 z5 z6 z7 z8) (zE D vwCl A (fun (u : Int32 × Int32 × Int32 × Int32 × (Nat → Int32) × (Nat → Int32) × (Nat → Int32) × (Nat → Int32) × (Nat → Int32)) => [((ad 0), oX8 ad m_said m_waved m_places m_end (u.1) (u.2.1) (u.2.2.1) (u.2.2.2.1) m_rounds m_sews), ((ad 17), aI cy 1400 (u.2.2.2.2.1)), ((ad 18), aI cy 1400 (u.2.2.2.2.2.1)), ((ad 19), aI cy 1400 (u.2.2.2.2.2.2.1)), ((ad 20), aI cy 1400 (u.2.2.2.2.2.2.2.1)), ((ad 21), aI cy 1400 (u.2.2.2.2.2.2.2.2)), ((ad 22), aI cy 8400 m_next)])) A) A) args s 0 0 A) (F0 m 4 ls [])), wp_X8_tidy_40 m_next x1 x2 m_joints m_netPlaces m_begin m_finish m_from m_by m_toward m_one m_number rc4 Q → ∀ (H : Heap) (locs : List Loc) (ls : Array Slot), va_P D vwCl [((ad 0), oX8 ad m_said m_waved m_places m_end m_joints m_netPlaces m_begin m_finish m_rounds m_sews), ((ad 17), aI cy 1400 m_from), ((ad 18), aI cy 1400 m_by), ((ad 19), aI cy 1400 m_toward), ((ad 20), aI cy 1400 m_one), ((ad 21), aI cy 1400 m_number), ((ad 22), aI cy 8400 m_next)] H → va_D A [((ad 0), oX8 ad m_said m_waved m_places m_end m_joints m_netPlaces m_begin m_finish m_rounds m_sews), ((ad 17), aI cy 1400 m_from), ((ad 18), aI cy 1400 m_by), ((ad 19), aI cy 1400 m_toward), ((ad 20), aI cy 1400 m_one), ((ad 21), aI cy 1400 m_number), ((ad 22), aI cy 8400 m_next)] → va_S A s.heap H locs → lv_has ls 4 [(0, .ref (ad 0)), (1, .int x1), (2, .int x2)] → W p l e { frames := 1, cells := 0, slots := 0, locals := 23 } s m args below meth c H locs 0 0 (MQ below ((fun A => va_Qv (fun (u : Int32 × Int32 × Int32 × Int32 × (Nat → Int32) × (Nat → Int32) × (Nat → Int32) × (Nat → Int32) × (Nat → Int32)) => ∃ (z0 : Int32) (z1 : Int32) (z2 : Int32) (z3 : Int32) (z4 : Nat → Int32) (z5 : Nat → Int32) (z6 : Nat → Int32) (z7 : Nat → Int32) (z8 : Nat → Int32), u = (z0, z1, z2, z3, z4, z5, z6, z7, z8) ∧ Q z0 z1 z2 z3 z4 z5 z6 z7 z8) (zE D vwCl A (fun (u : Int32 × Int32 × Int32 × Int32 × (Nat → Int32) × (Nat → Int32) × (Nat → Int32) × (Nat → Int32) × (Nat → Int32)) => [((ad 0), oX8 ad m_said m_waved m_places m_end (u.1) (u.2.1) (u.2.2.1) (u.2.2.2.1) m_rounds m_sews), ((ad 17), aI cy 1400 (u.2.2.2.2.1)), ((ad 18), aI cy 1400 (u.2.2.2.2.2.1)), ((ad 19), aI cy 1400 (u.2.2.2.2.2.2.1)), ((ad 20), aI cy 1400 (u.2.2.2.2.2.2.2.1)), ((ad 21), aI cy 1400 (u.2.2.2.2.2.2.2.2)), ((ad 22), aI cy 8400 m_next)])) A) A) args s 0 0 A) (F0 m 40 ls []) := by
    intro x1 x2 m_joints m_netPlaces m_begin m_finish m_from m_by m_toward m_one m_number rc4 hrc4  h H locs ls hP hD hS hl
    unfold wp_X8_tidy_40 at h
    obtain ⟨x2_28, e_x2_28⟩ : ∃ y : Int32, y = x2 + (1 : Int32) := ⟨_, rfl⟩
    refine lv_iinc (v := x2_28) (lv' := [(2, .int x2_28), (0, .ref (ad 0)), (1, .int x1)]) hx hb dX8_tidy_40 hl (k := 2) rfl (by rw [e_x2_28]; rfl) (by decide) rfl (fun ls hl => ?_)
    have h := h x2_28 e_x2_28
    refine lv_goto (tgt := 4) hx hb dX8_tidy_43 (by decide) ?_
    exact hrc4 x1 x2_28 m_number h _ _ _ hP hD hS (lv_sub hl [1, 2, 0] rfl)
  have hJ158 : ∀ (x1 : Int32) (x2 : Int32) (x3 : Int32) (m_joints : Int32) (m_netPlaces : Int32) (m_begin : Int32) (m_finish : Int32) (m_from : Nat → Int32) (m_by : Nat → Int32) (m_toward : Nat → Int32) (m_one : Nat → Int32) (m_number : Nat → Int32) (rc87 : Int32 → Int32 → (Nat → Int32) → (Nat → Int32) → (Nat → Int32) → (Nat → Int32) → Prop) (hrc87 : ∀ (x2 : Int32) (m_joints : Int32) (m_from : Nat → Int32) (m_by : Nat → Int32) (m_toward : Nat → Int32) (m_one : Nat → Int32), rc87 x2 m_joints m_from m_by m_toward m_one → ∀ (H : Heap) (locs : List Loc) (ls : Array Slot), va_P D vwCl [((ad 0), oX8 ad m_said m_waved m_places m_end m_joints m_netPlaces m_begin m_finish m_rounds m_sews), ((ad 17), aI cy 1400 m_from), ((ad 18), aI cy 1400 m_by), ((ad 19), aI cy 1400 m_toward), ((ad 20), aI cy 1400 m_one), ((ad 21), aI cy 1400 m_number), ((ad 22), aI cy 8400 m_next)] H → va_D A [((ad 0), oX8 ad m_said m_waved m_places m_end m_joints m_netPlaces m_begin m_finish m_rounds m_sews), ((ad 17), aI cy 1400 m_from), ((ad 18), aI cy 1400 m_by), ((ad 19), aI cy 1400 m_toward), ((ad 20), aI cy 1400 m_one), ((ad 21), aI cy 1400 m_number), ((ad 22), aI cy 8400 m_next)] → va_S A s.heap H locs → lv_has ls 4 [(0, .ref (ad 0)), (1, .int x1), (2, .int x2)] → W p l e { frames := 1, cells := 0, slots := 0, locals := 23 } s m args below meth c H locs 0 0 (MQ below ((fun A => va_Qv (fun (u : Int32 × Int32 × Int32 × Int32 × (Nat → Int32) × (Nat → Int32) × (Nat → Int32) × (Nat → Int32) × (Nat → Int32)) => ∃ (z0 : Int32) (z1 : Int32) (z2 : Int32) (z3 : Int32) (z4 : Nat → Int32) (z5 : Nat → Int32) (z6 : Nat → Int32) (z7 : Nat → Int32) (z8 : Nat → Int32), u = (z0, z1, z2, z3, z4, z5, z6, z7, z8) ∧ Q z0 z1 z2 z3 z4 z5 z6 z7 z8) (zE D vwCl A (fun (u : Int32 × Int32 × Int32 × Int32 × (Nat → Int32) × (Nat → Int32) × (Nat → Int32) × (Nat → Int32) × (Nat → Int32)) => [((ad 0), oX8 ad m_said m_waved m_places m_end (u.1) (u.2.1) (u.2.2.1) (u.2.2.2.1) m_rounds m_sews), ((ad 17), aI cy 1400 (u.2.2.2.2.1)), ((ad 18), aI cy 1400 (u.2.2.2.2.2.1)), ((ad 19), aI cy 1400 (u.2.2.2.2.2.2.1)), ((ad 20), aI cy 1400 (u.2.2.2.2.2.2.2.1)), ((ad 21), aI cy 1400 (u.2.2.2.2.2.2.2.2)), ((ad 22), aI cy 8400 m_next)])) A) A) args s 0 0 A) (F0 m 87 ls [])) (rc97 : Int32 → Int32 → (Nat → Int32) → (Nat → Int32) → (Nat → Int32) → (Nat → Int32) → Prop) (hrc97 : ∀ (x3 : Int32) (m_joints : Int32) (m_from : Nat → Int32) (m_by : Nat → Int32) (m_toward : Nat → Int32) (m_one : Nat → Int32), rc97 x3 m_joints m_from m_by m_toward m_one → ∀ (H : Heap) (locs : List Loc) (ls : Array Slot), va_P D vwCl [((ad 0), oX8 ad m_said m_waved m_places m_end m_joints m_netPlaces m_begin m_finish m_rounds m_sews), ((ad 17), aI cy 1400 m_from), ((ad 18), aI cy 1400 m_by), ((ad 19), aI cy 1400 m_toward), ((ad 20), aI cy 1400 m_one), ((ad 21), aI cy 1400 m_number), ((ad 22), aI cy 8400 m_next)] H → va_D A [((ad 0), oX8 ad m_said m_waved m_places m_end m_joints m_netPlaces m_begin m_finish m_rounds m_sews), ((ad 17), aI cy 1400 m_from), ((ad 18), aI cy 1400 m_by), ((ad 19), aI cy 1400 m_toward), ((ad 20), aI cy 1400 m_one), ((ad 21), aI cy 1400 m_number), ((ad 22), aI cy 8400 m_next)] → va_S A s.heap H locs → lv_has ls 4 [(0, .ref (ad 0)), (1, .int x1), (2, .int x2), (3, .int x3)] → W p l e { frames := 1, cells := 0, slots := 0, locals := 23 } s m args below meth c H locs 0 0 (MQ below ((fun A => va_Qv (fun (u : Int32 × Int32 × Int32 × Int32 × (Nat → Int32) × (Nat → Int32) × (Nat → Int32) × (Nat → Int32) × (Nat → Int32)) => ∃ (z0 : Int32) (z1 : Int32) (z2 : Int32) (z3 : Int32) (z4 : Nat → Int32) (z5 : Nat → Int32) (z6 : Nat → Int32) (z7 : Nat → Int32) (z8 : Nat → Int32), u = (z0, z1, z2, z3, z4, z5, z6, z7, z8) ∧ Q z0 z1 z2 z3 z4 z5 z6 z7 z8) (zE D vwCl A (fun (u : Int32 × Int32 × Int32 × Int32 × (Nat → Int32) × (Nat → Int32) × (Nat → Int32) × (Nat → Int32) × (Nat → Int32)) => [((ad 0), oX8 ad m_said m_waved m_places m_end (u.1) (u.2.1) (u.2.2.1) (u.2.2.2.1) m_rounds m_sews), ((ad 17), aI cy 1400 (u.2.2.2.2.1)), ((ad 18), aI cy 1400 (u.2.2.2.2.2.1)), ((ad 19), aI cy 1400 (u.2.2.2.2.2.2.1)), ((ad 20), aI cy 1400 (u.2.2.2.2.2.2.2.1)), ((ad 21), aI cy 1400 (u.2.2.2.2.2.2.2.2)), ((ad 22), aI cy 8400 m_next)])) A) A) args s 0 0 A) (F0 m 97 ls [])), wp_X8_tidy_158 m_next x1 x2 x3 m_joints m_netPlaces m_begin m_finish m_from m_by m_toward m_one m_number rc87 rc97 Q → ∀ (H : Heap) (locs : List Loc) (ls : Array Slot), va_P D vwCl [((ad 0), oX8 ad m_said m_waved m_places m_end m_joints m_netPlaces m_begin m_finish m_rounds m_sews), ((ad 17), aI cy 1400 m_from), ((ad 18), aI cy 1400 m_by), ((ad 19), aI cy 1400 m_toward), ((ad 20), aI cy 1400 m_one), ((ad 21), aI cy 1400 m_number), ((ad 22), aI cy 8400 m_next)] H → va_D A [((ad 0), oX8 ad m_said m_waved m_places m_end m_joints m_netPlaces m_begin m_finish m_rounds m_sews), ((ad 17), aI cy 1400 m_from), ((ad 18), aI cy 1400 m_by), ((ad 19), aI cy 1400 m_toward), ((ad 20), aI cy 1400 m_one), ((ad 21), aI cy 1400 m_number), ((ad 22), aI cy 8400 m_next)] → va_S A s.heap H locs → lv_has ls 4 [(0, .ref (ad 0)), (1, .int x1), (2, .int x2), (3, .int x3)] → W p l e { frames := 1, cells := 0, slots := 0, locals := 23 } s m args below meth c H locs 0 0 (MQ below ((fun A => va_Qv (fun (u : Int32 × Int32 × Int32 × Int32 × (Nat → Int32) × (Nat → Int32) × (Nat → Int32) × (Nat → Int32) × (Nat → Int32)) => ∃ (z0 : Int32) (z1 : Int32) (z2 : Int32) (z3 : Int32) (z4 : Nat → Int32) (z5 : Nat → Int32) (z6 : Nat → Int32) (z7 : Nat → Int32) (z8 : Nat → Int32), u = (z0, z1, z2, z3, z4, z5, z6, z7, z8) ∧ Q z0 z1 z2 z3 z4 z5 z6 z7 z8) (zE D vwCl A (fun (u : Int32 × Int32 × Int32 × Int32 × (Nat → Int32) × (Nat → Int32) × (Nat → Int32) × (Nat → Int32) × (Nat → Int32)) => [((ad 0), oX8 ad m_said m_waved m_places m_end (u.1) (u.2.1) (u.2.2.1) (u.2.2.2.1) m_rounds m_sews), ((ad 17), aI cy 1400 (u.2.2.2.2.1)), ((ad 18), aI cy 1400 (u.2.2.2.2.2.1)), ((ad 19), aI cy 1400 (u.2.2.2.2.2.2.1)), ((ad 20), aI cy 1400 (u.2.2.2.2.2.2.2.1)), ((ad 21), aI cy 1400 (u.2.2.2.2.2.2.2.2)), ((ad 22), aI cy 8400 m_next)])) A) A) args s 0 0 A) (F0 m 158 ls []) := by
    intro x1 x2 x3 m_joints m_netPlaces m_begin m_finish m_from m_by m_toward m_one m_number rc87 hrc87 rc97 hrc97  h H locs ls hP hD hS hl
    unfold wp_X8_tidy_158 at h
    obtain ⟨x3_29, e_x3_29⟩ : ∃ y : Int32, y = x3 + (2 : Int32) := ⟨_, rfl⟩
    refine lv_iinc (v := x3_29) (lv' := [(3, .int x3_29), (0, .ref (ad 0)), (1, .int x1), (2, .int x2)]) hx hb dX8_tidy_158 hl (k := 3) rfl (by rw [e_x3_29]; rfl) (by decide) rfl (fun ls hl => ?_)
    have h := h x3_29 e_x3_29
    refine lv_goto (tgt := 97) hx hb dX8_tidy_161 (by decide) ?_
    exact hrc97 x3_29 m_joints m_from m_by m_toward m_one h _ _ _ hP hD hS (lv_sub hl [1, 2, 3, 0] rfl)
  have hJ164 : ∀ (x1 : Int32) (x2 : Int32) (m_joints : Int32) (m_netPlaces : Int32) (m_begin : Int32) (m_finish : Int32) (m_from : Nat → Int32) (m_by : Nat → Int32) (m_toward : Nat → Int32) (m_one : Nat → Int32) (m_number : Nat → Int32) (rc87 : Int32 → Int32 → (Nat → Int32) → (Nat → Int32) → (Nat → Int32) → (Nat → Int32) → Prop) (hrc87 : ∀ (x2 : Int32) (m_joints : Int32) (m_from : Nat → Int32) (m_by : Nat → Int32) (m_toward : Nat → Int32) (m_one : Nat → Int32), rc87 x2 m_joints m_from m_by m_toward m_one → ∀ (H : Heap) (locs : List Loc) (ls : Array Slot), va_P D vwCl [((ad 0), oX8 ad m_said m_waved m_places m_end m_joints m_netPlaces m_begin m_finish m_rounds m_sews), ((ad 17), aI cy 1400 m_from), ((ad 18), aI cy 1400 m_by), ((ad 19), aI cy 1400 m_toward), ((ad 20), aI cy 1400 m_one), ((ad 21), aI cy 1400 m_number), ((ad 22), aI cy 8400 m_next)] H → va_D A [((ad 0), oX8 ad m_said m_waved m_places m_end m_joints m_netPlaces m_begin m_finish m_rounds m_sews), ((ad 17), aI cy 1400 m_from), ((ad 18), aI cy 1400 m_by), ((ad 19), aI cy 1400 m_toward), ((ad 20), aI cy 1400 m_one), ((ad 21), aI cy 1400 m_number), ((ad 22), aI cy 8400 m_next)] → va_S A s.heap H locs → lv_has ls 4 [(0, .ref (ad 0)), (1, .int x1), (2, .int x2)] → W p l e { frames := 1, cells := 0, slots := 0, locals := 23 } s m args below meth c H locs 0 0 (MQ below ((fun A => va_Qv (fun (u : Int32 × Int32 × Int32 × Int32 × (Nat → Int32) × (Nat → Int32) × (Nat → Int32) × (Nat → Int32) × (Nat → Int32)) => ∃ (z0 : Int32) (z1 : Int32) (z2 : Int32) (z3 : Int32) (z4 : Nat → Int32) (z5 : Nat → Int32) (z6 : Nat → Int32) (z7 : Nat → Int32) (z8 : Nat → Int32), u = (z0, z1, z2, z3, z4, z5, z6, z7, z8) ∧ Q z0 z1 z2 z3 z4 z5 z6 z7 z8) (zE D vwCl A (fun (u : Int32 × Int32 × Int32 × Int32 × (Nat → Int32) × (Nat → Int32) × (Nat → Int32) × (Nat → Int32) × (Nat → Int32)) => [((ad 0), oX8 ad m_said m_waved m_places m_end (u.1) (u.2.1) (u.2.2.1) (u.2.2.2.1) m_rounds m_sews), ((ad 17), aI cy 1400 (u.2.2.2.2.1)), ((ad 18), aI cy 1400 (u.2.2.2.2.2.1)), ((ad 19), aI cy 1400 (u.2.2.2.2.2.2.1)), ((ad 20), aI cy 1400 (u.2.2.2.2.2.2.2.1)), ((ad 21), aI cy 1400 (u.2.2.2.2.2.2.2.2)), ((ad 22), aI cy 8400 m_next)])) A) A) args s 0 0 A) (F0 m 87 ls [])), wp_X8_tidy_164 m_next x1 x2 m_joints m_netPlaces m_begin m_finish m_from m_by m_toward m_one m_number rc87 Q → ∀ (H : Heap) (locs : List Loc) (ls : Array Slot), va_P D vwCl [((ad 0), oX8 ad m_said m_waved m_places m_end m_joints m_netPlaces m_begin m_finish m_rounds m_sews), ((ad 17), aI cy 1400 m_from), ((ad 18), aI cy 1400 m_by), ((ad 19), aI cy 1400 m_toward), ((ad 20), aI cy 1400 m_one), ((ad 21), aI cy 1400 m_number), ((ad 22), aI cy 8400 m_next)] H → va_D A [((ad 0), oX8 ad m_said m_waved m_places m_end m_joints m_netPlaces m_begin m_finish m_rounds m_sews), ((ad 17), aI cy 1400 m_from), ((ad 18), aI cy 1400 m_by), ((ad 19), aI cy 1400 m_toward), ((ad 20), aI cy 1400 m_one), ((ad 21), aI cy 1400 m_number), ((ad 22), aI cy 8400 m_next)] → va_S A s.heap H locs → lv_has ls 4 [(0, .ref (ad 0)), (1, .int x1), (2, .int x2)] → W p l e { frames := 1, cells := 0, slots := 0, locals := 23 } s m args below meth c H locs 0 0 (MQ below ((fun A => va_Qv (fun (u : Int32 × Int32 × Int32 × Int32 × (Nat → Int32) × (Nat → Int32) × (Nat → Int32) × (Nat → Int32) × (Nat → Int32)) => ∃ (z0 : Int32) (z1 : Int32) (z2 : Int32) (z3 : Int32) (z4 : Nat → Int32) (z5 : Nat → Int32) (z6 : Nat → Int32) (z7 : Nat → Int32) (z8 : Nat → Int32), u = (z0, z1, z2, z3, z4, z5, z6, z7, z8) ∧ Q z0 z1 z2 z3 z4 z5 z6 z7 z8) (zE D vwCl A (fun (u : Int32 × Int32 × Int32 × Int32 × (Nat → Int32) × (Nat → Int32) × (Nat → Int32) × (Nat → Int32) × (Nat → Int32)) => [((ad 0), oX8 ad m_said m_waved m_places m_end (u.1) (u.2.1) (u.2.2.1) (u.2.2.2.1) m_rounds m_sews), ((ad 17), aI cy 1400 (u.2.2.2.2.1)), ((ad 18), aI cy 1400 (u.2.2.2.2.2.1)), ((ad 19), aI cy 1400 (u.2.2.2.2.2.2.1)), ((ad 20), aI cy 1400 (u.2.2.2.2.2.2.2.1)), ((ad 21), aI cy 1400 (u.2.2.2.2.2.2.2.2)), ((ad 22), aI cy 8400 m_next)])) A) A) args s 0 0 A) (F0 m 164 ls []) := by
    intro x1 x2 m_joints m_netPlaces m_begin m_finish m_from m_by m_toward m_one m_number rc87 hrc87  h H locs ls hP hD hS hl
    unfold wp_X8_tidy_164 at h
    obtain ⟨x2_30, e_x2_30⟩ : ∃ y : Int32, y = x2 + (1 : Int32) := ⟨_, rfl⟩
    refine lv_iinc (v := x2_30) (lv' := [(2, .int x2_30), (0, .ref (ad 0)), (1, .int x1)]) hx hb dX8_tidy_164 hl (k := 2) rfl (by rw [e_x2_30]; rfl) (by decide) rfl (fun ls hl => ?_)
    have h := h x2_30 e_x2_30
    refine lv_goto (tgt := 87) hx hb dX8_tidy_167 (by decide) ?_
    exact hrc87 x2_30 m_joints m_from m_by m_toward m_one h _ _ _ hP hD hS (lv_sub hl [1, 2, 0] rfl)
  have hJ97 : ∀ (x1 : Int32) (x2 : Int32) (x3 : Int32) (m_joints : Int32) (m_netPlaces : Int32) (m_begin : Int32) (m_finish : Int32) (m_from : Nat → Int32) (m_by : Nat → Int32) (m_toward : Nat → Int32) (m_one : Nat → Int32) (m_number : Nat → Int32) (rc87 : Int32 → Int32 → (Nat → Int32) → (Nat → Int32) → (Nat → Int32) → (Nat → Int32) → Prop) (hrc87 : ∀ (x2 : Int32) (m_joints : Int32) (m_from : Nat → Int32) (m_by : Nat → Int32) (m_toward : Nat → Int32) (m_one : Nat → Int32), rc87 x2 m_joints m_from m_by m_toward m_one → ∀ (H : Heap) (locs : List Loc) (ls : Array Slot), va_P D vwCl [((ad 0), oX8 ad m_said m_waved m_places m_end m_joints m_netPlaces m_begin m_finish m_rounds m_sews), ((ad 17), aI cy 1400 m_from), ((ad 18), aI cy 1400 m_by), ((ad 19), aI cy 1400 m_toward), ((ad 20), aI cy 1400 m_one), ((ad 21), aI cy 1400 m_number), ((ad 22), aI cy 8400 m_next)] H → va_D A [((ad 0), oX8 ad m_said m_waved m_places m_end m_joints m_netPlaces m_begin m_finish m_rounds m_sews), ((ad 17), aI cy 1400 m_from), ((ad 18), aI cy 1400 m_by), ((ad 19), aI cy 1400 m_toward), ((ad 20), aI cy 1400 m_one), ((ad 21), aI cy 1400 m_number), ((ad 22), aI cy 8400 m_next)] → va_S A s.heap H locs → lv_has ls 4 [(0, .ref (ad 0)), (1, .int x1), (2, .int x2)] → W p l e { frames := 1, cells := 0, slots := 0, locals := 23 } s m args below meth c H locs 0 0 (MQ below ((fun A => va_Qv (fun (u : Int32 × Int32 × Int32 × Int32 × (Nat → Int32) × (Nat → Int32) × (Nat → Int32) × (Nat → Int32) × (Nat → Int32)) => ∃ (z0 : Int32) (z1 : Int32) (z2 : Int32) (z3 : Int32) (z4 : Nat → Int32) (z5 : Nat → Int32) (z6 : Nat → Int32) (z7 : Nat → Int32) (z8 : Nat → Int32), u = (z0, z1, z2, z3, z4, z5, z6, z7, z8) ∧ Q z0 z1 z2 z3 z4 z5 z6 z7 z8) (zE D vwCl A (fun (u : Int32 × Int32 × Int32 × Int32 × (Nat → Int32) × (Nat → Int32) × (Nat → Int32) × (Nat → Int32) × (Nat → Int32)) => [((ad 0), oX8 ad m_said m_waved m_places m_end (u.1) (u.2.1) (u.2.2.1) (u.2.2.2.1) m_rounds m_sews), ((ad 17), aI cy 1400 (u.2.2.2.2.1)), ((ad 18), aI cy 1400 (u.2.2.2.2.2.1)), ((ad 19), aI cy 1400 (u.2.2.2.2.2.2.1)), ((ad 20), aI cy 1400 (u.2.2.2.2.2.2.2.1)), ((ad 21), aI cy 1400 (u.2.2.2.2.2.2.2.2)), ((ad 22), aI cy 8400 m_next)])) A) A) args s 0 0 A) (F0 m 87 ls [])), wp_X8_tidy_97 m_next x1 x2 m_netPlaces m_begin m_finish m_number rc87 Q x3 m_joints m_from m_by m_toward m_one → ∀ (H : Heap) (locs : List Loc) (ls : Array Slot), va_P D vwCl [((ad 0), oX8 ad m_said m_waved m_places m_end m_joints m_netPlaces m_begin m_finish m_rounds m_sews), ((ad 17), aI cy 1400 m_from), ((ad 18), aI cy 1400 m_by), ((ad 19), aI cy 1400 m_toward), ((ad 20), aI cy 1400 m_one), ((ad 21), aI cy 1400 m_number), ((ad 22), aI cy 8400 m_next)] H → va_D A [((ad 0), oX8 ad m_said m_waved m_places m_end m_joints m_netPlaces m_begin m_finish m_rounds m_sews), ((ad 17), aI cy 1400 m_from), ((ad 18), aI cy 1400 m_by), ((ad 19), aI cy 1400 m_toward), ((ad 20), aI cy 1400 m_one), ((ad 21), aI cy 1400 m_number), ((ad 22), aI cy 8400 m_next)] → va_S A s.heap H locs → lv_has ls 4 [(0, .ref (ad 0)), (1, .int x1), (2, .int x2), (3, .int x3)] → W p l e { frames := 1, cells := 0, slots := 0, locals := 23 } s m args below meth c H locs 0 0 (MQ below ((fun A => va_Qv (fun (u : Int32 × Int32 × Int32 × Int32 × (Nat → Int32) × (Nat → Int32) × (Nat → Int32) × (Nat → Int32) × (Nat → Int32)) => ∃ (z0 : Int32) (z1 : Int32) (z2 : Int32) (z3 : Int32) (z4 : Nat → Int32) (z5 : Nat → Int32) (z6 : Nat → Int32) (z7 : Nat → Int32) (z8 : Nat → Int32), u = (z0, z1, z2, z3, z4, z5, z6, z7, z8) ∧ Q z0 z1 z2 z3 z4 z5 z6 z7 z8) (zE D vwCl A (fun (u : Int32 × Int32 × Int32 × Int32 × (Nat → Int32) × (Nat → Int32) × (Nat → Int32) × (Nat → Int32) × (Nat → Int32)) => [((ad 0), oX8 ad m_said m_waved m_places m_end (u.1) (u.2.1) (u.2.2.1) (u.2.2.2.1) m_rounds m_sews), ((ad 17), aI cy 1400 (u.2.2.2.2.1)), ((ad 18), aI cy 1400 (u.2.2.2.2.2.1)), ((ad 19), aI cy 1400 (u.2.2.2.2.2.2.1)), ((ad 20), aI cy 1400 (u.2.2.2.2.2.2.2.1)), ((ad 21), aI cy 1400 (u.2.2.2.2.2.2.2.2)), ((ad 22), aI cy 8400 m_next)])) A) A) args s 0 0 A) (F0 m 97 ls []) := by
    intro x1 x2 x3 m_joints m_netPlaces m_begin m_finish m_from m_by m_toward m_one m_number rc87 hrc87  h
    obtain ⟨nn, h⟩ := h
    have key : ∀ (nn : Nat) (x3 : Int32) (m_joints : Int32) (m_from : Nat → Int32) (m_by : Nat → Int32) (m_toward : Nat → Int32) (m_one : Nat → Int32), lpW6 (wb_X8_tidy_97 m_next x1 x2 m_netPlaces m_begin m_finish m_number rc87 Q) nn x3 m_joints m_from m_by m_toward m_one → ∀ (H : Heap) (locs : List Loc) (ls : Array Slot), va_P D vwCl [((ad 0), oX8 ad m_said m_waved m_places m_end m_joints m_netPlaces m_begin m_finish m_rounds m_sews), ((ad 17), aI cy 1400 m_from), ((ad 18), aI cy 1400 m_by), ((ad 19), aI cy 1400 m_toward), ((ad 20), aI cy 1400 m_one), ((ad 21), aI cy 1400 m_number), ((ad 22), aI cy 8400 m_next)] H → va_D A [((ad 0), oX8 ad m_said m_waved m_places m_end m_joints m_netPlaces m_begin m_finish m_rounds m_sews), ((ad 17), aI cy 1400 m_from), ((ad 18), aI cy 1400 m_by), ((ad 19), aI cy 1400 m_toward), ((ad 20), aI cy 1400 m_one), ((ad 21), aI cy 1400 m_number), ((ad 22), aI cy 8400 m_next)] → va_S A s.heap H locs → lv_has ls 4 [(0, .ref (ad 0)), (1, .int x1), (2, .int x2), (3, .int x3)] → W p l e { frames := 1, cells := 0, slots := 0, locals := 23 } s m args below meth c H locs 0 0 (MQ below ((fun A => va_Qv (fun (u : Int32 × Int32 × Int32 × Int32 × (Nat → Int32) × (Nat → Int32) × (Nat → Int32) × (Nat → Int32) × (Nat → Int32)) => ∃ (z0 : Int32) (z1 : Int32) (z2 : Int32) (z3 : Int32) (z4 : Nat → Int32) (z5 : Nat → Int32) (z6 : Nat → Int32) (z7 : Nat → Int32) (z8 : Nat → Int32), u = (z0, z1, z2, z3, z4, z5, z6, z7, z8) ∧ Q z0 z1 z2 z3 z4 z5 z6 z7 z8) (zE D vwCl A (fun (u : Int32 × Int32 × Int32 × Int32 × (Nat → Int32) × (Nat → Int32) × (Nat → Int32) × (Nat → Int32) × (Nat → Int32)) => [((ad 0), oX8 ad m_said m_waved m_places m_end (u.1) (u.2.1) (u.2.2.1) (u.2.2.2.1) m_rounds m_sews), ((ad 17), aI cy 1400 (u.2.2.2.2.1)), ((ad 18), aI cy 1400 (u.2.2.2.2.2.1)), ((ad 19), aI cy 1400 (u.2.2.2.2.2.2.1)), ((ad 20), aI cy 1400 (u.2.2.2.2.2.2.2.1)), ((ad 21), aI cy 1400 (u.2.2.2.2.2.2.2.2)), ((ad 22), aI cy 8400 m_next)])) A) A) args s 0 0 A) (F0 m 97 ls []) := by
      intro nn
      induction nn with
      | zero => intro x3 m_joints m_from m_by m_toward m_one h; exact h.elim
      | succ nn hrc97 =>
        intro x3 m_joints m_from m_by m_toward m_one h H locs ls hP hD hS hl
        have h : wb_X8_tidy_97 m_next x1 x2 m_netPlaces m_begin m_finish m_number rc87 Q (lpW6 (wb_X8_tidy_97 m_next x1 x2 m_netPlaces m_begin m_finish m_number rc87 Q) nn) x3 m_joints m_from m_by m_toward m_one := h
        unfold wb_X8_tidy_97 at h
        refine lv_iload_n hx hb dX8_tidy_97 rfl (lv_at hl 3 rfl) ?_
        refine lv_bipush (v := (6 : Int32)) hx hb dX8_tidy_98 (by decide) ?_
        refine lv_icmp_ge (tgt := 164) hx hb dX8_tidy_100 (by decide) (fun c_31 => ?_) (fun c_31 => ?_)
        · have h := h.1 c_31
          exact hJ164 x1 x2 m_joints m_netPlaces m_begin m_finish m_from m_by m_toward m_one m_number _ hrc87  h _ _ _ hP hD hS (lv_sub hl [0, 1, 2] rfl)
        · have h := h.2 c_31
          refine lv_aload_n hx hb dX8_tidy_103 rfl (lv_at hl 0 rfl) ?_
          refine va_get (D := D) (ci := 7) (v := .ref (ad 20)) (C := RX8) (T := TX8) (N := 35) hx hb hts iX8 hown hK hP 0 rfl rfl 28 (Nat.le_of_ble_eq_true rfl) (hts _ fl_X8_69) (fun _ h9 => h9) rfl dX8_tidy_104 ?_
          refine lv_iload_n hx hb dX8_tidy_107 rfl (lv_at hl 2 rfl) ?_
          obtain ⟨hi_32, h⟩ := h
          refine va_iald hx hb hK hP 4 0 rfl rfl hi_32 dX8_tidy_108 ?_
          refine lv_iload_n hx hb dX8_tidy_109 rfl (lv_at hl 2 rfl) ?_
          refine lv_icmp_ne (tgt := 164) hx hb dX8_tidy_110 (by decide) (fun c_33 => ?_) (fun c_33 => ?_)
          · have h := h.1 c_33
            exact hJ164 x1 x2 m_joints m_netPlaces m_begin m_finish m_from m_by m_toward m_one m_number _ hrc87  h _ _ _ hP hD hS (lv_sub hl [0, 1, 2] rfl)
          · have h := h.2 c_33
            refine lv_aload_n hx hb dX8_tidy_113 rfl (lv_at hl 0 rfl) ?_
            refine va_get (D := D) (ci := 7) (v := .ref (ad 22)) (C := RX8) (T := TX8) (N := 35) hx hb hts iX8 hown hK hP 0 rfl rfl 30 (Nat.le_of_ble_eq_true rfl) (hts _ fl_X8_75) (fun _ h9 => h9) rfl dX8_tidy_114 ?_
            refine lv_bipush (v := (6 : Int32)) hx hb dX8_tidy_117 (by decide) ?_
            refine lv_iload_n hx hb dX8_tidy_119 rfl (lv_at hl 2 rfl) ?_
            refine lv_imul hx hb dX8_tidy_120 ?_
            refine lv_iload_n hx hb dX8_tidy_121 rfl (lv_at hl 3 rfl) ?_
            refine lv_iadd hx hb dX8_tidy_122 ?_
            obtain ⟨hi_34, h⟩ := h
            refine va_iald hx hb hK hP 6 0 rfl rfl hi_34 dX8_tidy_123 ?_
            refine lv_if_lt (tgt := 158) hx hb dX8_tidy_124 (by decide) (fun c_35 => ?_) (fun c_35 => ?_)
            · have h := h.1 c_35
              exact hJ158 x1 x2 x3 m_joints m_netPlaces m_begin m_finish m_from m_by m_toward m_one m_number _ hrc87 _ hrc97  h _ _ _ hP hD hS (lv_sub hl [0, 1, 2, 3] rfl)
            · have h := h.2 c_35
              refine lv_aload_n hx hb dX8_tidy_127 rfl (lv_at hl 0 rfl) ?_
              refine lv_aload_n hx hb dX8_tidy_128 rfl (lv_at hl 0 rfl) ?_
              refine va_get (D := D) (ci := 7) (v := .ref (ad 21)) (C := RX8) (T := TX8) (N := 35) hx hb hts iX8 hown hK hP 0 rfl rfl 29 (Nat.le_of_ble_eq_true rfl) (hts _ fl_X8_72) (fun _ h9 => h9) rfl dX8_tidy_129 ?_
              refine lv_iload_n hx hb dX8_tidy_132 rfl (lv_at hl 2 rfl) ?_
              obtain ⟨hi_36, h⟩ := h
              refine va_iald hx hb hK hP 5 0 rfl rfl hi_36 dX8_tidy_133 ?_
              refine lv_iload_n hx hb dX8_tidy_134 rfl (lv_at hl 3 rfl) ?_
              refine lv_aload_n hx hb dX8_tidy_135 rfl (lv_at hl 0 rfl) ?_
              refine va_get (D := D) (ci := 7) (v := .ref (ad 21)) (C := RX8) (T := TX8) (N := 35) hx hb hts iX8 hown hK hP 0 rfl rfl 29 (Nat.le_of_ble_eq_true rfl) (hts _ fl_X8_72) (fun _ h9 => h9) rfl dX8_tidy_136 ?_
              refine lv_aload_n hx hb dX8_tidy_139 rfl (lv_at hl 0 rfl) ?_
              refine lv_aload_n hx hb dX8_tidy_140 rfl (lv_at hl 0 rfl) ?_
              refine va_get (D := D) (ci := 7) (v := .ref (ad 22)) (C := RX8) (T := TX8) (N := 35) hx hb hts iX8 hown hK hP 0 rfl rfl 30 (Nat.le_of_ble_eq_true rfl) (hts _ fl_X8_75) (fun _ h9 => h9) rfl dX8_tidy_141 ?_
              refine lv_bipush (v := (6 : Int32)) hx hb dX8_tidy_144 (by decide) ?_
              refine lv_iload_n hx hb dX8_tidy_146 rfl (lv_at hl 2 rfl) ?_
              refine lv_imul hx hb dX8_tidy_147 ?_
              refine lv_iload_n hx hb dX8_tidy_148 rfl (lv_at hl 3 rfl) ?_
              refine lv_iadd hx hb dX8_tidy_149 ?_
              obtain ⟨hi_37, h⟩ := h
              refine va_iald hx hb hK hP 6 0 rfl rfl hi_37 dX8_tidy_150 ?_
              refine zc_Vi (As := [.int (m_next (((6 : Int32) * x2) + x3).toNatClampNeg)]) (rest := [.ref (ad 21), .int x3, .int (m_number x2.toNatClampNeg), .ref (ad 0)]) (wc := [((ad 0), oX8 ad m_said m_waved m_places m_end m_joints m_netPlaces m_begin m_finish m_rounds m_sews), ((ad 20), aI cy 1400 m_one)]) (wr := [((ad 17), aI cy 1400 m_from), ((ad 18), aI cy 1400 m_by), ((ad 19), aI cy 1400 m_toward), ((ad 21), aI cy 1400 m_number), ((ad 22), aI cy 8400 m_next)]) hx hb hml hown hts hK hPW hA hl.1 hP hD hS ⟨Nat.zero_le _, Nat.zero_le _⟩ [0, 4] [1, 2, 3, 5, 6] rfl rfl (by decide) (c_X8_oneOf l D cy (sz := _) (x1 := (m_next (((6 : Int32) * x2) + x3).toNatClampNeg)) (ad := ad) (m_said := m_said) (m_waved := m_waved) (m_places := m_places) (m_end := m_end) (m_joints := m_joints) (m_netPlaces := m_netPlaces) (m_begin := m_begin) (m_finish := m_finish) (m_rounds := m_rounds) (m_sews := m_sews) (m_one := m_one) (h := h)) k_X8_232 ⟨rfl, rfl, (Nat.le_of_ble_eq_true rfl), (Nat.le_of_ble_eq_true rfl)⟩ rfl rfl rfl rfl (Nat.le_of_ble_eq_true rfl) dX8_tidy_151 (fun r_38 m_one_38 H locs h hP hD hS => ?_)
              have hP : va_P D vwCl [((ad 17), aI cy 1400 m_from), ((ad 18), aI cy 1400 m_by), ((ad 19), aI cy 1400 m_toward), ((ad 21), aI cy 1400 m_number), ((ad 22), aI cy 8400 m_next), ((ad 0), oX8 ad m_said m_waved m_places m_end m_joints m_netPlaces m_begin m_finish m_rounds m_sews), ((ad 20), aI cy 1400 m_one_38)] H := hP
              have hD : va_D A [((ad 17), aI cy 1400 m_from), ((ad 18), aI cy 1400 m_by), ((ad 19), aI cy 1400 m_toward), ((ad 21), aI cy 1400 m_number), ((ad 22), aI cy 8400 m_next), ((ad 0), oX8 ad m_said m_waved m_places m_end m_joints m_netPlaces m_begin m_finish m_rounds m_sews), ((ad 20), aI cy 1400 m_one_38)] := hD
              obtain ⟨hi_39, h⟩ := h
              refine va_iald hx hb hK hP 3 0 rfl rfl hi_39 dX8_tidy_154 ?_
              refine zc_Vv (As := [.int (m_number x2.toNatClampNeg), .int x3, .int (m_number r_38.toNatClampNeg)]) (rest := []) (wc := [((ad 0), oX8 ad m_said m_waved m_places m_end m_joints m_netPlaces m_begin m_finish m_rounds m_sews), ((ad 17), aI cy 1400 m_from), ((ad 18), aI cy 1400 m_by), ((ad 19), aI cy 1400 m_toward)]) (wr := [((ad 21), aI cy 1400 m_number), ((ad 22), aI cy 8400 m_next), ((ad 20), aI cy 1400 m_one_38)]) hx hb hml hown hts hK hPW hA hl.1 hP hD hS ⟨Nat.zero_le _, Nat.zero_le _⟩ [5, 0, 1, 2] [3, 4, 6] rfl rfl (by decide) (c_X8_addJoint l D cy (sz := _) (x1 := (m_number x2.toNatClampNeg)) (x2 := x3) (x3 := (m_number r_38.toNatClampNeg)) (ad := ad) (m_said := m_said) (m_waved := m_waved) (m_places := m_places) (m_end := m_end) (m_joints := m_joints) (m_netPlaces := m_netPlaces) (m_begin := m_begin) (m_finish := m_finish) (m_rounds := m_rounds) (m_sews := m_sews) (m_from := m_from) (m_by := m_by) (m_toward := m_toward) (h := h)) k_X8_244 ⟨rfl, rfl, (Nat.le_of_ble_eq_true rfl), (Nat.le_of_ble_eq_true rfl)⟩ rfl rfl rfl rfl (Nat.le_of_ble_eq_true rfl) dX8_tidy_155 (fun u_40 H locs h hP hD hS => ?_)
              obtain ⟨m_joints_40, m_from_40, m_by_40, m_toward_40, rfl, h⟩ := h
              have hP : va_P D vwCl [((ad 21), aI cy 1400 m_number), ((ad 22), aI cy 8400 m_next), ((ad 20), aI cy 1400 m_one_38), ((ad 0), oX8 ad m_said m_waved m_places m_end m_joints_40 m_netPlaces m_begin m_finish m_rounds m_sews), ((ad 17), aI cy 1400 m_from_40), ((ad 18), aI cy 1400 m_by_40), ((ad 19), aI cy 1400 m_toward_40)] H := hP
              have hD : va_D A [((ad 21), aI cy 1400 m_number), ((ad 22), aI cy 8400 m_next), ((ad 20), aI cy 1400 m_one_38), ((ad 0), oX8 ad m_said m_waved m_places m_end m_joints_40 m_netPlaces m_begin m_finish m_rounds m_sews), ((ad 17), aI cy 1400 m_from_40), ((ad 18), aI cy 1400 m_by_40), ((ad 19), aI cy 1400 m_toward_40)] := hD
              exact hJ158 x1 x2 x3 m_joints_40 m_netPlaces m_begin m_finish m_from_40 m_by_40 m_toward_40 m_one_38 m_number _ hrc87 _ hrc97  h _ _ _ (hP.sub [3, 4, 5, 6, 2, 0, 1] rfl) (hD.sub [3, 4, 5, 6, 2, 0, 1] (by decide) rfl) hS (lv_sub hl [0, 1, 2, 3] rfl)
    exact key nn x3 m_joints m_from m_by m_toward m_one h
  have hJ177 : ∀ (x1 : Int32) (x2 : Int32) (m_joints : Int32) (m_netPlaces : Int32) (m_begin : Int32) (m_finish : Int32) (m_from : Nat → Int32) (m_by : Nat → Int32) (m_toward : Nat → Int32) (m_one : Nat → Int32) (m_number : Nat → Int32), wp_X8_tidy_177 m_next x1 m_joints m_netPlaces m_begin m_finish m_from m_by m_toward m_number  Q x2 m_one → ∀ (H : Heap) (locs : List Loc) (ls : Array Slot), va_P D vwCl [((ad 0), oX8 ad m_said m_waved m_places m_end m_joints m_netPlaces m_begin m_finish m_rounds m_sews), ((ad 17), aI cy 1400 m_from), ((ad 18), aI cy 1400 m_by), ((ad 19), aI cy 1400 m_toward), ((ad 20), aI cy 1400 m_one), ((ad 21), aI cy 1400 m_number), ((ad 22), aI cy 8400 m_next)] H → va_D A [((ad 0), oX8 ad m_said m_waved m_places m_end m_joints m_netPlaces m_begin m_finish m_rounds m_sews), ((ad 17), aI cy 1400 m_from), ((ad 18), aI cy 1400 m_by), ((ad 19), aI cy 1400 m_toward), ((ad 20), aI cy 1400 m_one), ((ad 21), aI cy 1400 m_number), ((ad 22), aI cy 8400 m_next)] → va_S A s.heap H locs → lv_has ls 4 [(0, .ref (ad 0)), (1, .int x1), (2, .int x2)] → W p l e { frames := 1, cells := 0, slots := 0, locals := 23 } s m args below meth c H locs 0 0 (MQ below ((fun A => va_Qv (fun (u : Int32 × Int32 × Int32 × Int32 × (Nat → Int32) × (Nat → Int32) × (Nat → Int32) × (Nat → Int32) × (Nat → Int32)) => ∃ (z0 : Int32) (z1 : Int32) (z2 : Int32) (z3 : Int32) (z4 : Nat → Int32) (z5 : Nat → Int32) (z6 : Nat → Int32) (z7 : Nat → Int32) (z8 : Nat → Int32), u = (z0, z1, z2, z3, z4, z5, z6, z7, z8) ∧ Q z0 z1 z2 z3 z4 z5 z6 z7 z8) (zE D vwCl A (fun (u : Int32 × Int32 × Int32 × Int32 × (Nat → Int32) × (Nat → Int32) × (Nat → Int32) × (Nat → Int32) × (Nat → Int32)) => [((ad 0), oX8 ad m_said m_waved m_places m_end (u.1) (u.2.1) (u.2.2.1) (u.2.2.2.1) m_rounds m_sews), ((ad 17), aI cy 1400 (u.2.2.2.2.1)), ((ad 18), aI cy 1400 (u.2.2.2.2.2.1)), ((ad 19), aI cy 1400 (u.2.2.2.2.2.2.1)), ((ad 20), aI cy 1400 (u.2.2.2.2.2.2.2.1)), ((ad 21), aI cy 1400 (u.2.2.2.2.2.2.2.2)), ((ad 22), aI cy 8400 m_next)])) A) A) args s 0 0 A) (F0 m 177 ls []) := by
    intro x1 x2 m_joints m_netPlaces m_begin m_finish m_from m_by m_toward m_one m_number   h
    obtain ⟨nn, h⟩ := h
    have key : ∀ (nn : Nat) (x2 : Int32) (m_one : Nat → Int32), lpW2 (wb_X8_tidy_177 m_next x1 m_joints m_netPlaces m_begin m_finish m_from m_by m_toward m_number  Q) nn x2 m_one → ∀ (H : Heap) (locs : List Loc) (ls : Array Slot), va_P D vwCl [((ad 0), oX8 ad m_said m_waved m_places m_end m_joints m_netPlaces m_begin m_finish m_rounds m_sews), ((ad 17), aI cy 1400 m_from), ((ad 18), aI cy 1400 m_by), ((ad 19), aI cy 1400 m_toward), ((ad 20), aI cy 1400 m_one), ((ad 21), aI cy 1400 m_number), ((ad 22), aI cy 8400 m_next)] H → va_D A [((ad 0), oX8 ad m_said m_waved m_places m_end m_joints m_netPlaces m_begin m_finish m_rounds m_sews), ((ad 17), aI cy 1400 m_from), ((ad 18), aI cy 1400 m_by), ((ad 19), aI cy 1400 m_toward), ((ad 20), aI cy 1400 m_one), ((ad 21), aI cy 1400 m_number), ((ad 22), aI cy 8400 m_next)] → va_S A s.heap H locs → lv_has ls 4 [(0, .ref (ad 0)), (1, .int x1), (2, .int x2)] → W p l e { frames := 1, cells := 0, slots := 0, locals := 23 } s m args below meth c H locs 0 0 (MQ below ((fun A => va_Qv (fun (u : Int32 × Int32 × Int32 × Int32 × (Nat → Int32) × (Nat → Int32) × (Nat → Int32) × (Nat → Int32) × (Nat → Int32)) => ∃ (z0 : Int32) (z1 : Int32) (z2 : Int32) (z3 : Int32) (z4 : Nat → Int32) (z5 : Nat → Int32) (z6 : Nat → Int32) (z7 : Nat → Int32) (z8 : Nat → Int32), u = (z0, z1, z2, z3, z4, z5, z6, z7, z8) ∧ Q z0 z1 z2 z3 z4 z5 z6 z7 z8) (zE D vwCl A (fun (u : Int32 × Int32 × Int32 × Int32 × (Nat → Int32) × (Nat → Int32) × (Nat → Int32) × (Nat → Int32) × (Nat → Int32)) => [((ad 0), oX8 ad m_said m_waved m_places m_end (u.1) (u.2.1) (u.2.2.1) (u.2.2.2.1) m_rounds m_sews), ((ad 17), aI cy 1400 (u.2.2.2.2.1)), ((ad 18), aI cy 1400 (u.2.2.2.2.2.1)), ((ad 19), aI cy 1400 (u.2.2.2.2.2.2.1)), ((ad 20), aI cy 1400 (u.2.2.2.2.2.2.2.1)), ((ad 21), aI cy 1400 (u.2.2.2.2.2.2.2.2)), ((ad 22), aI cy 8400 m_next)])) A) A) args s 0 0 A) (F0 m 177 ls []) := by
      intro nn
      induction nn with
      | zero => intro x2 m_one h; exact h.elim
      | succ nn hrc177 =>
        intro x2 m_one h H locs ls hP hD hS hl
        have h : wb_X8_tidy_177 m_next x1 m_joints m_netPlaces m_begin m_finish m_from m_by m_toward m_number  Q (lpW2 (wb_X8_tidy_177 m_next x1 m_joints m_netPlaces m_begin m_finish m_from m_by m_toward m_number  Q) nn) x2 m_one := h
        unfold wb_X8_tidy_177 at h
        refine lv_iload_n hx hb dX8_tidy_177 rfl (lv_at hl 2 rfl) ?_
        refine lv_iload_n hx hb dX8_tidy_178 rfl (lv_at hl 1 rfl) ?_
        refine lv_icmp_ge (tgt := 195) hx hb dX8_tidy_179 (by decide) (fun c_41 => ?_) (fun c_41 => ?_)
        · have h := h.1 c_41
          exact z_vret (m_joints, m_netPlaces, m_begin, m_finish, m_from, m_by, m_toward, m_one, m_number) hx hb hr hlocks ⟨m_joints, m_netPlaces, m_begin, m_finish, m_from, m_by, m_toward, m_one, m_number, rfl, h⟩ hP hD hS dX8_tidy_195
        · have h := h.2 c_41
          refine lv_aload_n hx hb dX8_tidy_182 rfl (lv_at hl 0 rfl) ?_
          refine va_get (D := D) (ci := 7) (v := .ref (ad 20)) (C := RX8) (T := TX8) (N := 35) hx hb hts iX8 hown hK hP 0 rfl rfl 28 (Nat.le_of_ble_eq_true rfl) (hts _ fl_X8_69) (fun _ h9 => h9) rfl dX8_tidy_183 ?_
          refine lv_iload_n hx hb dX8_tidy_186 rfl (lv_at hl 2 rfl) ?_
          refine lv_iload_n hx hb dX8_tidy_187 rfl (lv_at hl 2 rfl) ?_
          obtain ⟨hi_42, h⟩ := h
          refine va_iast hx hb hK hP hD hS 4 0 rfl rfl hi_42 dX8_tidy_188 (fun H locs hP hD hS => ?_)
          have hP : va_P D vwCl [((ad 0), oX8 ad m_said m_waved m_places m_end m_joints m_netPlaces m_begin m_finish m_rounds m_sews), ((ad 17), aI cy 1400 m_from), ((ad 18), aI cy 1400 m_by), ((ad 19), aI cy 1400 m_toward), ((ad 20), aI cy 1400 (upd m_one x2.toNatClampNeg x2)), ((ad 21), aI cy 1400 m_number), ((ad 22), aI cy 8400 m_next)] H := hP
          have hD : va_D A [((ad 0), oX8 ad m_said m_waved m_places m_end m_joints m_netPlaces m_begin m_finish m_rounds m_sews), ((ad 17), aI cy 1400 m_from), ((ad 18), aI cy 1400 m_by), ((ad 19), aI cy 1400 m_toward), ((ad 20), aI cy 1400 (upd m_one x2.toNatClampNeg x2)), ((ad 21), aI cy 1400 m_number), ((ad 22), aI cy 8400 m_next)] := hD
          obtain ⟨x2_43, e_x2_43⟩ : ∃ y : Int32, y = x2 + (1 : Int32) := ⟨_, rfl⟩
          refine lv_iinc (v := x2_43) (lv' := [(2, .int x2_43), (0, .ref (ad 0)), (1, .int x1)]) hx hb dX8_tidy_189 hl (k := 2) rfl (by rw [e_x2_43]; rfl) (by decide) rfl (fun ls hl => ?_)
          have h := h x2_43 e_x2_43
          refine lv_goto (tgt := 177) hx hb dX8_tidy_192 (by decide) ?_
          exact hrc177 x2_43 (upd m_one x2.toNatClampNeg x2) h _ _ _ hP hD hS (lv_sub hl [1, 2, 0] rfl)
    exact key nn x2 m_one h
  have hJ87 : ∀ (x1 : Int32) (x2 : Int32) (m_joints : Int32) (m_netPlaces : Int32) (m_begin : Int32) (m_finish : Int32) (m_from : Nat → Int32) (m_by : Nat → Int32) (m_toward : Nat → Int32) (m_one : Nat → Int32) (m_number : Nat → Int32), wp_X8_tidy_87 m_next x1 m_netPlaces m_begin m_finish m_number  Q x2 m_joints m_from m_by m_toward m_one → ∀ (H : Heap) (locs : List Loc) (ls : Array Slot), va_P D vwCl [((ad 0), oX8 ad m_said m_waved m_places m_end m_joints m_netPlaces m_begin m_finish m_rounds m_sews), ((ad 17), aI cy 1400 m_from), ((ad 18), aI cy 1400 m_by), ((ad 19), aI cy 1400 m_toward), ((ad 20), aI cy 1400 m_one), ((ad 21), aI cy 1400 m_number), ((ad 22), aI cy 8400 m_next)] H → va_D A [((ad 0), oX8 ad m_said m_waved m_places m_end m_joints m_netPlaces m_begin m_finish m_rounds m_sews), ((ad 17), aI cy 1400 m_from), ((ad 18), aI cy 1400 m_by), ((ad 19), aI cy 1400 m_toward), ((ad 20), aI cy 1400 m_one), ((ad 21), aI cy 1400 m_number), ((ad 22), aI cy 8400 m_next)] → va_S A s.heap H locs → lv_has ls 4 [(0, .ref (ad 0)), (1, .int x1), (2, .int x2)] → W p l e { frames := 1, cells := 0, slots := 0, locals := 23 } s m args below meth c H locs 0 0 (MQ below ((fun A => va_Qv (fun (u : Int32 × Int32 × Int32 × Int32 × (Nat → Int32) × (Nat → Int32) × (Nat → Int32) × (Nat → Int32) × (Nat → Int32)) => ∃ (z0 : Int32) (z1 : Int32) (z2 : Int32) (z3 : Int32) (z4 : Nat → Int32) (z5 : Nat → Int32) (z6 : Nat → Int32) (z7 : Nat → Int32) (z8 : Nat → Int32), u = (z0, z1, z2, z3, z4, z5, z6, z7, z8) ∧ Q z0 z1 z2 z3 z4 z5 z6 z7 z8) (zE D vwCl A (fun (u : Int32 × Int32 × Int32 × Int32 × (Nat → Int32) × (Nat → Int32) × (Nat → Int32) × (Nat → Int32) × (Nat → Int32)) => [((ad 0), oX8 ad m_said m_waved m_places m_end (u.1) (u.2.1) (u.2.2.1) (u.2.2.2.1) m_rounds m_sews), ((ad 17), aI cy 1400 (u.2.2.2.2.1)), ((ad 18), aI cy 1400 (u.2.2.2.2.2.1)), ((ad 19), aI cy 1400 (u.2.2.2.2.2.2.1)), ((ad 20), aI cy 1400 (u.2.2.2.2.2.2.2.1)), ((ad 21), aI cy 1400 (u.2.2.2.2.2.2.2.2)), ((ad 22), aI cy 8400 m_next)])) A) A) args s 0 0 A) (F0 m 87 ls []) := by
    intro x1 x2 m_joints m_netPlaces m_begin m_finish m_from m_by m_toward m_one m_number   h
    obtain ⟨nn, h⟩ := h
    have key : ∀ (nn : Nat) (x2 : Int32) (m_joints : Int32) (m_from : Nat → Int32) (m_by : Nat → Int32) (m_toward : Nat → Int32) (m_one : Nat → Int32), lpW6 (wb_X8_tidy_87 m_next x1 m_netPlaces m_begin m_finish m_number  Q) nn x2 m_joints m_from m_by m_toward m_one → ∀ (H : Heap) (locs : List Loc) (ls : Array Slot), va_P D vwCl [((ad 0), oX8 ad m_said m_waved m_places m_end m_joints m_netPlaces m_begin m_finish m_rounds m_sews), ((ad 17), aI cy 1400 m_from), ((ad 18), aI cy 1400 m_by), ((ad 19), aI cy 1400 m_toward), ((ad 20), aI cy 1400 m_one), ((ad 21), aI cy 1400 m_number), ((ad 22), aI cy 8400 m_next)] H → va_D A [((ad 0), oX8 ad m_said m_waved m_places m_end m_joints m_netPlaces m_begin m_finish m_rounds m_sews), ((ad 17), aI cy 1400 m_from), ((ad 18), aI cy 1400 m_by), ((ad 19), aI cy 1400 m_toward), ((ad 20), aI cy 1400 m_one), ((ad 21), aI cy 1400 m_number), ((ad 22), aI cy 8400 m_next)] → va_S A s.heap H locs → lv_has ls 4 [(0, .ref (ad 0)), (1, .int x1), (2, .int x2)] → W p l e { frames := 1, cells := 0, slots := 0, locals := 23 } s m args below meth c H locs 0 0 (MQ below ((fun A => va_Qv (fun (u : Int32 × Int32 × Int32 × Int32 × (Nat → Int32) × (Nat → Int32) × (Nat → Int32) × (Nat → Int32) × (Nat → Int32)) => ∃ (z0 : Int32) (z1 : Int32) (z2 : Int32) (z3 : Int32) (z4 : Nat → Int32) (z5 : Nat → Int32) (z6 : Nat → Int32) (z7 : Nat → Int32) (z8 : Nat → Int32), u = (z0, z1, z2, z3, z4, z5, z6, z7, z8) ∧ Q z0 z1 z2 z3 z4 z5 z6 z7 z8) (zE D vwCl A (fun (u : Int32 × Int32 × Int32 × Int32 × (Nat → Int32) × (Nat → Int32) × (Nat → Int32) × (Nat → Int32) × (Nat → Int32)) => [((ad 0), oX8 ad m_said m_waved m_places m_end (u.1) (u.2.1) (u.2.2.1) (u.2.2.2.1) m_rounds m_sews), ((ad 17), aI cy 1400 (u.2.2.2.2.1)), ((ad 18), aI cy 1400 (u.2.2.2.2.2.1)), ((ad 19), aI cy 1400 (u.2.2.2.2.2.2.1)), ((ad 20), aI cy 1400 (u.2.2.2.2.2.2.2.1)), ((ad 21), aI cy 1400 (u.2.2.2.2.2.2.2.2)), ((ad 22), aI cy 8400 m_next)])) A) A) args s 0 0 A) (F0 m 87 ls []) := by
      intro nn
      induction nn with
      | zero => intro x2 m_joints m_from m_by m_toward m_one h; exact h.elim
      | succ nn hrc87 =>
        intro x2 m_joints m_from m_by m_toward m_one h H locs ls hP hD hS hl
        have h : wb_X8_tidy_87 m_next x1 m_netPlaces m_begin m_finish m_number  Q (lpW6 (wb_X8_tidy_87 m_next x1 m_netPlaces m_begin m_finish m_number  Q) nn) x2 m_joints m_from m_by m_toward m_one := h
        unfold wb_X8_tidy_87 at h
        refine lv_iload_n hx hb dX8_tidy_87 rfl (lv_at hl 2 rfl) ?_
        refine lv_aload_n hx hb dX8_tidy_88 rfl (lv_at hl 0 rfl) ?_
        refine va_get (D := D) (ci := 7) (v := .int m_netPlaces) (C := RX8) (T := TX8) (N := 35) hx hb hts iX8 hown hK hP 0 rfl rfl 24 (Nat.le_of_ble_eq_true rfl) (hts _ fl_X8_226) (fun _ h9 => h9) rfl dX8_tidy_89 ?_
        refine lv_icmp_ge (tgt := 170) hx hb dX8_tidy_92 (by decide) (fun c_44 => ?_) (fun c_44 => ?_)
        · have h := h.1 c_44
          refine lv_aload_n hx hb dX8_tidy_170 rfl (lv_at hl 0 rfl) ?_
          refine lv_iload_n hx hb dX8_tidy_171 rfl (lv_at hl 1 rfl) ?_
          refine va_put (D := D) (ci := 7) (v := .int x1) (ty := .int) (C := RX8) (T := TX8) (N := 35) hx hb hts iX8 tyX8 tyX8_ok nmX8 hown hK hP hD hS 0 rfl rfl 24 (Nat.le_of_ble_eq_true rfl) (hts _ fl_X8_226) (fun _ h9 => h9) rfl (by decide +kernel) rfl rfl (Nat.le_of_ble_eq_true rfl) dX8_tidy_172 (fun H locs hP hD hS => ?_)
          have hP : va_P D vwCl [((ad 0), oX8 ad m_said m_waved m_places m_end m_joints x1 m_begin m_finish m_rounds m_sews), ((ad 17), aI cy 1400 m_from), ((ad 18), aI cy 1400 m_by), ((ad 19), aI cy 1400 m_toward), ((ad 20), aI cy 1400 m_one), ((ad 21), aI cy 1400 m_number), ((ad 22), aI cy 8400 m_next)] H := hP
          have hD : va_D A [((ad 0), oX8 ad m_said m_waved m_places m_end m_joints x1 m_begin m_finish m_rounds m_sews), ((ad 17), aI cy 1400 m_from), ((ad 18), aI cy 1400 m_by), ((ad 19), aI cy 1400 m_toward), ((ad 20), aI cy 1400 m_one), ((ad 21), aI cy 1400 m_number), ((ad 22), aI cy 8400 m_next)] := hD
          refine lv_iconst (v := (0 : Int32)) hx hb dX8_tidy_175 (by decide) ?_
          refine lv_istore_n (lv' := [(2, .int (0 : Int32)), (0, .ref (ad 0)), (1, .int x1)]) hx hb dX8_tidy_176 rfl hl (by decide) rfl (fun ls hl => ?_)
          exact hJ177 x1 (0 : Int32) m_joints x1 m_begin m_finish m_from m_by m_toward m_one m_number   h _ _ _ hP hD hS (lv_sub hl [1, 2, 0] rfl)
        · have h := h.2 c_44
          refine lv_iconst (v := (0 : Int32)) hx hb dX8_tidy_95 (by decide) ?_
          refine lv_istore_n (lv' := [(3, .int (0 : Int32)), (0, .ref (ad 0)), (1, .int x1), (2, .int x2)]) hx hb dX8_tidy_96 rfl hl (by decide) rfl (fun ls hl => ?_)
          exact hJ97 x1 x2 (0 : Int32) m_joints m_netPlaces m_begin m_finish m_from m_by m_toward m_one m_number _ hrc87  h _ _ _ hP hD hS (lv_sub hl [1, 2, 3, 0] rfl)
    exact key nn x2 m_joints m_from m_by m_toward m_one h
  have hJ4 : ∀ (x1 : Int32) (x2 : Int32) (m_joints : Int32) (m_netPlaces : Int32) (m_begin : Int32) (m_finish : Int32) (m_from : Nat → Int32) (m_by : Nat → Int32) (m_toward : Nat → Int32) (m_one : Nat → Int32) (m_number : Nat → Int32), wp_X8_tidy_4 m_next m_joints m_netPlaces m_begin m_finish m_from m_by m_toward m_one  Q x1 x2 m_number → ∀ (H : Heap) (locs : List Loc) (ls : Array Slot), va_P D vwCl [((ad 0), oX8 ad m_said m_waved m_places m_end m_joints m_netPlaces m_begin m_finish m_rounds m_sews), ((ad 17), aI cy 1400 m_from), ((ad 18), aI cy 1400 m_by), ((ad 19), aI cy 1400 m_toward), ((ad 20), aI cy 1400 m_one), ((ad 21), aI cy 1400 m_number), ((ad 22), aI cy 8400 m_next)] H → va_D A [((ad 0), oX8 ad m_said m_waved m_places m_end m_joints m_netPlaces m_begin m_finish m_rounds m_sews), ((ad 17), aI cy 1400 m_from), ((ad 18), aI cy 1400 m_by), ((ad 19), aI cy 1400 m_toward), ((ad 20), aI cy 1400 m_one), ((ad 21), aI cy 1400 m_number), ((ad 22), aI cy 8400 m_next)] → va_S A s.heap H locs → lv_has ls 4 [(0, .ref (ad 0)), (1, .int x1), (2, .int x2)] → W p l e { frames := 1, cells := 0, slots := 0, locals := 23 } s m args below meth c H locs 0 0 (MQ below ((fun A => va_Qv (fun (u : Int32 × Int32 × Int32 × Int32 × (Nat → Int32) × (Nat → Int32) × (Nat → Int32) × (Nat → Int32) × (Nat → Int32)) => ∃ (z0 : Int32) (z1 : Int32) (z2 : Int32) (z3 : Int32) (z4 : Nat → Int32) (z5 : Nat → Int32) (z6 : Nat → Int32) (z7 : Nat → Int32) (z8 : Nat → Int32), u = (z0, z1, z2, z3, z4, z5, z6, z7, z8) ∧ Q z0 z1 z2 z3 z4 z5 z6 z7 z8) (zE D vwCl A (fun (u : Int32 × Int32 × Int32 × Int32 × (Nat → Int32) × (Nat → Int32) × (Nat → Int32) × (Nat → Int32) × (Nat → Int32)) => [((ad 0), oX8 ad m_said m_waved m_places m_end (u.1) (u.2.1) (u.2.2.1) (u.2.2.2.1) m_rounds m_sews), ((ad 17), aI cy 1400 (u.2.2.2.2.1)), ((ad 18), aI cy 1400 (u.2.2.2.2.2.1)), ((ad 19), aI cy 1400 (u.2.2.2.2.2.2.1)), ((ad 20), aI cy 1400 (u.2.2.2.2.2.2.2.1)), ((ad 21), aI cy 1400 (u.2.2.2.2.2.2.2.2)), ((ad 22), aI cy 8400 m_next)])) A) A) args s 0 0 A) (F0 m 4 ls []) := by
    intro x1 x2 m_joints m_netPlaces m_begin m_finish m_from m_by m_toward m_one m_number   h
    obtain ⟨nn, h⟩ := h
    have key : ∀ (nn : Nat) (x1 : Int32) (x2 : Int32) (m_number : Nat → Int32), lpW3 (wb_X8_tidy_4 m_next m_joints m_netPlaces m_begin m_finish m_from m_by m_toward m_one  Q) nn x1 x2 m_number → ∀ (H : Heap) (locs : List Loc) (ls : Array Slot), va_P D vwCl [((ad 0), oX8 ad m_said m_waved m_places m_end m_joints m_netPlaces m_begin m_finish m_rounds m_sews), ((ad 17), aI cy 1400 m_from), ((ad 18), aI cy 1400 m_by), ((ad 19), aI cy 1400 m_toward), ((ad 20), aI cy 1400 m_one), ((ad 21), aI cy 1400 m_number), ((ad 22), aI cy 8400 m_next)] H → va_D A [((ad 0), oX8 ad m_said m_waved m_places m_end m_joints m_netPlaces m_begin m_finish m_rounds m_sews), ((ad 17), aI cy 1400 m_from), ((ad 18), aI cy 1400 m_by), ((ad 19), aI cy 1400 m_toward), ((ad 20), aI cy 1400 m_one), ((ad 21), aI cy 1400 m_number), ((ad 22), aI cy 8400 m_next)] → va_S A s.heap H locs → lv_has ls 4 [(0, .ref (ad 0)), (1, .int x1), (2, .int x2)] → W p l e { frames := 1, cells := 0, slots := 0, locals := 23 } s m args below meth c H locs 0 0 (MQ below ((fun A => va_Qv (fun (u : Int32 × Int32 × Int32 × Int32 × (Nat → Int32) × (Nat → Int32) × (Nat → Int32) × (Nat → Int32) × (Nat → Int32)) => ∃ (z0 : Int32) (z1 : Int32) (z2 : Int32) (z3 : Int32) (z4 : Nat → Int32) (z5 : Nat → Int32) (z6 : Nat → Int32) (z7 : Nat → Int32) (z8 : Nat → Int32), u = (z0, z1, z2, z3, z4, z5, z6, z7, z8) ∧ Q z0 z1 z2 z3 z4 z5 z6 z7 z8) (zE D vwCl A (fun (u : Int32 × Int32 × Int32 × Int32 × (Nat → Int32) × (Nat → Int32) × (Nat → Int32) × (Nat → Int32) × (Nat → Int32)) => [((ad 0), oX8 ad m_said m_waved m_places m_end (u.1) (u.2.1) (u.2.2.1) (u.2.2.2.1) m_rounds m_sews), ((ad 17), aI cy 1400 (u.2.2.2.2.1)), ((ad 18), aI cy 1400 (u.2.2.2.2.2.1)), ((ad 19), aI cy 1400 (u.2.2.2.2.2.2.1)), ((ad 20), aI cy 1400 (u.2.2.2.2.2.2.2.1)), ((ad 21), aI cy 1400 (u.2.2.2.2.2.2.2.2)), ((ad 22), aI cy 8400 m_next)])) A) A) args s 0 0 A) (F0 m 4 ls []) := by
      intro nn
      induction nn with
      | zero => intro x1 x2 m_number h; exact h.elim
      | succ nn hrc4 =>
        intro x1 x2 m_number h H locs ls hP hD hS hl
        have h : wb_X8_tidy_4 m_next m_joints m_netPlaces m_begin m_finish m_from m_by m_toward m_one  Q (lpW3 (wb_X8_tidy_4 m_next m_joints m_netPlaces m_begin m_finish m_from m_by m_toward m_one  Q) nn) x1 x2 m_number := h
        unfold wb_X8_tidy_4 at h
        refine lv_iload_n hx hb dX8_tidy_4 rfl (lv_at hl 2 rfl) ?_
        refine lv_aload_n hx hb dX8_tidy_5 rfl (lv_at hl 0 rfl) ?_
        refine va_get (D := D) (ci := 7) (v := .int m_netPlaces) (C := RX8) (T := TX8) (N := 35) hx hb hts iX8 hown hK hP 0 rfl rfl 24 (Nat.le_of_ble_eq_true rfl) (hts _ fl_X8_226) (fun _ h9 => h9) rfl dX8_tidy_6 ?_
        refine lv_icmp_ge (tgt := 46) hx hb dX8_tidy_9 (by decide) (fun c_45 => ?_) (fun c_45 => ?_)
        · have h := h.1 c_45
          refine lv_aload_n hx hb dX8_tidy_46 rfl (lv_at hl 0 rfl) ?_
          refine lv_aload_n hx hb dX8_tidy_47 rfl (lv_at hl 0 rfl) ?_
          refine va_get (D := D) (ci := 7) (v := .ref (ad 21)) (C := RX8) (T := TX8) (N := 35) hx hb hts iX8 hown hK hP 0 rfl rfl 29 (Nat.le_of_ble_eq_true rfl) (hts _ fl_X8_72) (fun _ h9 => h9) rfl dX8_tidy_48 ?_
          refine lv_aload_n hx hb dX8_tidy_51 rfl (lv_at hl 0 rfl) ?_
          refine lv_aload_n hx hb dX8_tidy_52 rfl (lv_at hl 0 rfl) ?_
          refine va_get (D := D) (ci := 7) (v := .int m_begin) (C := RX8) (T := TX8) (N := 35) hx hb hts iX8 hown hK hP 0 rfl rfl 25 (Nat.le_of_ble_eq_true rfl) (hts _ fl_X8_238) (fun _ h9 => h9) rfl dX8_tidy_53 ?_
          refine zc_Vi (As := [.int m_begin]) (rest := [.ref (ad 21), .ref (ad 0)]) (wc := [((ad 0), oX8 ad m_said m_waved m_places m_end m_joints m_netPlaces m_begin m_finish m_rounds m_sews), ((ad 20), aI cy 1400 m_one)]) (wr := [((ad 17), aI cy 1400 m_from), ((ad 18), aI cy 1400 m_by), ((ad 19), aI cy 1400 m_toward), ((ad 21), aI cy 1400 m_number), ((ad 22), aI cy 8400 m_next)]) hx hb hml hown hts hK hPW hA hl.1 hP hD hS ⟨Nat.zero_le _, Nat.zero_le _⟩ [0, 4] [1, 2, 3, 5, 6] rfl rfl (by decide) (c_X8_oneOf l D cy (sz := _) (x1 := m_begin) (ad := ad) (m_said := m_said) (m_waved := m_waved) (m_places := m_places) (m_end := m_end) (m_joints := m_joints) (m_netPlaces := m_netPlaces) (m_begin := m_begin) (m_finish := m_finish) (m_rounds := m_rounds) (m_sews := m_sews) (m_one := m_one) (h := h)) k_X8_232 ⟨rfl, rfl, (Nat.le_of_ble_eq_true rfl), (Nat.le_of_ble_eq_true rfl)⟩ rfl rfl rfl rfl (Nat.le_of_ble_eq_true rfl) dX8_tidy_56 (fun r_46 m_one_46 H locs h hP hD hS => ?_)
          have hP : va_P D vwCl [((ad 17), aI cy 1400 m_from), ((ad 18), aI cy 1400 m_by), ((ad 19), aI cy 1400 m_toward), ((ad 21), aI cy 1400 m_number), ((ad 22), aI cy 8400 m_next), ((ad 0), oX8 ad m_said m_waved m_places m_end m_joints m_netPlaces m_begin m_finish m_rounds m_sews), ((ad 20), aI cy 1400 m_one_46)] H := hP
          have hD : va_D A [((ad 17), aI cy 1400 m_from), ((ad 18), aI cy 1400 m_by), ((ad 19), aI cy 1400 m_toward), ((ad 21), aI cy 1400 m_number), ((ad 22), aI cy 8400 m_next), ((ad 0), oX8 ad m_said m_waved m_places m_end m_joints m_netPlaces m_begin m_finish m_rounds m_sews), ((ad 20), aI cy 1400 m_one_46)] := hD
          obtain ⟨hi_47, h⟩ := h
          refine va_iald hx hb hK hP 3 0 rfl rfl hi_47 dX8_tidy_59 ?_
          refine va_put (D := D) (ci := 7) (v := .int (m_number r_46.toNatClampNeg)) (ty := .int) (C := RX8) (T := TX8) (N := 35) hx hb hts iX8 tyX8 tyX8_ok nmX8 hown hK hP hD hS 5 rfl rfl 25 (Nat.le_of_ble_eq_true rfl) (hts _ fl_X8_238) (fun _ h9 => h9) rfl (by decide +kernel) rfl rfl (Nat.le_of_ble_eq_true rfl) dX8_tidy_60 (fun H locs hP hD hS => ?_)
          have hP : va_P D vwCl [((ad 17), aI cy 1400 m_from), ((ad 18), aI cy 1400 m_by), ((ad 19), aI cy 1400 m_toward), ((ad 21), aI cy 1400 m_number), ((ad 22), aI cy 8400 m_next), ((ad 0), oX8 ad m_said m_waved m_places m_end m_joints m_netPlaces (m_number r_46.toNatClampNeg) m_finish m_rounds m_sews), ((ad 20), aI cy 1400 m_one_46)] H := hP
          have hD : va_D A [((ad 17), aI cy 1400 m_from), ((ad 18), aI cy 1400 m_by), ((ad 19), aI cy 1400 m_toward), ((ad 21), aI cy 1400 m_number), ((ad 22), aI cy 8400 m_next), ((ad 0), oX8 ad m_said m_waved m_places m_end m_joints m_netPlaces (m_number r_46.toNatClampNeg) m_finish m_rounds m_sews), ((ad 20), aI cy 1400 m_one_46)] := hD
          refine lv_aload_n hx hb dX8_tidy_63 rfl (lv_at hl 0 rfl) ?_
          refine lv_aload_n hx hb dX8_tidy_64 rfl (lv_at hl 0 rfl) ?_
          refine va_get (D := D) (ci := 7) (v := .ref (ad 21)) (C := RX8) (T := TX8) (N := 35) hx hb hts iX8 hown hK hP 5 rfl rfl 29 (Nat.le_of_ble_eq_true rfl) (hts _ fl_X8_72) (fun _ h9 => h9) rfl dX8_tidy_65 ?_
          refine lv_aload_n hx hb dX8_tidy_68 rfl (lv_at hl 0 rfl) ?_
          refine lv_aload_n hx hb dX8_tidy_69 rfl (lv_at hl 0 rfl) ?_
          refine va_get (D := D) (ci := 7) (v := .int m_finish) (C := RX8) (T := TX8) (N := 35) hx hb hts iX8 hown hK hP 5 rfl rfl 26 (Nat.le_of_ble_eq_true rfl) (hts _ fl_X8_241) (fun _ h9 => h9) rfl dX8_tidy_70 ?_
          refine zc_Vi (As := [.int m_finish]) (rest := [.ref (ad 21), .ref (ad 0)]) (wc := [((ad 0), oX8 ad m_said m_waved m_places m_end m_joints m_netPlaces (m_number r_46.toNatClampNeg) m_finish m_rounds m_sews), ((ad 20), aI cy 1400 m_one_46)]) (wr := [((ad 17), aI cy 1400 m_from), ((ad 18), aI cy 1400 m_by), ((ad 19), aI cy 1400 m_toward), ((ad 21), aI cy 1400 m_number), ((ad 22), aI cy 8400 m_next)]) hx hb hml hown hts hK hPW hA hl.1 hP hD hS ⟨Nat.zero_le _, Nat.zero_le _⟩ [5, 6] [0, 1, 2, 3, 4] rfl rfl (by decide) (c_X8_oneOf l D cy (sz := _) (x1 := m_finish) (ad := ad) (m_said := m_said) (m_waved := m_waved) (m_places := m_places) (m_end := m_end) (m_joints := m_joints) (m_netPlaces := m_netPlaces) (m_begin := (m_number r_46.toNatClampNeg)) (m_finish := m_finish) (m_rounds := m_rounds) (m_sews := m_sews) (m_one := m_one_46) (h := h)) k_X8_232 ⟨rfl, rfl, (Nat.le_of_ble_eq_true rfl), (Nat.le_of_ble_eq_true rfl)⟩ rfl rfl rfl rfl (Nat.le_of_ble_eq_true rfl) dX8_tidy_73 (fun r_48 m_one_48 H locs h hP hD hS => ?_)
          have hP : va_P D vwCl [((ad 17), aI cy 1400 m_from), ((ad 18), aI cy 1400 m_by), ((ad 19), aI cy 1400 m_toward), ((ad 21), aI cy 1400 m_number), ((ad 22), aI cy 8400 m_next), ((ad 0), oX8 ad m_said m_waved m_places m_end m_joints m_netPlaces (m_number r_46.toNatClampNeg) m_finish m_rounds m_sews), ((ad 20), aI cy 1400 m_one_48)] H := hP
          have hD : va_D A [((ad 17), aI cy 1400 m_from), ((ad 18), aI cy 1400 m_by), ((ad 19), aI cy 1400 m_toward), ((ad 21), aI cy 1400 m_number), ((ad 22), aI cy 8400 m_next), ((ad 0), oX8 ad m_said m_waved m_places m_end m_joints m_netPlaces (m_number r_46.toNatClampNeg) m_finish m_rounds m_sews), ((ad 20), aI cy 1400 m_one_48)] := hD
          obtain ⟨hi_49, h⟩ := h
          refine va_iald hx hb hK hP 3 0 rfl rfl hi_49 dX8_tidy_76 ?_
          refine va_put (D := D) (ci := 7) (v := .int (m_number r_48.toNatClampNeg)) (ty := .int) (C := RX8) (T := TX8) (N := 35) hx hb hts iX8 tyX8 tyX8_ok nmX8 hown hK hP hD hS 5 rfl rfl 26 (Nat.le_of_ble_eq_true rfl) (hts _ fl_X8_241) (fun _ h9 => h9) rfl (by decide +kernel) rfl rfl (Nat.le_of_ble_eq_true rfl) dX8_tidy_77 (fun H locs hP hD hS => ?_)
          have hP : va_P D vwCl [((ad 17), aI cy 1400 m_from), ((ad 18), aI cy 1400 m_by), ((ad 19), aI cy 1400 m_toward), ((ad 21), aI cy 1400 m_number), ((ad 22), aI cy 8400 m_next), ((ad 0), oX8 ad m_said m_waved m_places m_end m_joints m_netPlaces (m_number r_46.toNatClampNeg) (m_number r_48.toNatClampNeg) m_rounds m_sews), ((ad 20), aI cy 1400 m_one_48)] H := hP
          have hD : va_D A [((ad 17), aI cy 1400 m_from), ((ad 18), aI cy 1400 m_by), ((ad 19), aI cy 1400 m_toward), ((ad 21), aI cy 1400 m_number), ((ad 22), aI cy 8400 m_next), ((ad 0), oX8 ad m_said m_waved m_places m_end m_joints m_netPlaces (m_number r_46.toNatClampNeg) (m_number r_48.toNatClampNeg) m_rounds m_sews), ((ad 20), aI cy 1400 m_one_48)] := hD
          refine lv_aload_n hx hb dX8_tidy_80 rfl (lv_at hl 0 rfl) ?_
          refine lv_iconst (v := (0 : Int32)) hx hb dX8_tidy_81 (by decide) ?_
          refine va_put (D := D) (ci := 7) (v := .int (0 : Int32)) (ty := .int) (C := RX8) (T := TX8) (N := 35) hx hb hts iX8 tyX8 tyX8_ok nmX8 hown hK hP hD hS 5 rfl rfl 23 (Nat.le_of_ble_eq_true rfl) (hts _ fl_X8_229) (fun _ h9 => h9) rfl (by decide +kernel) rfl rfl (Nat.le_of_ble_eq_true rfl) dX8_tidy_82 (fun H locs hP hD hS => ?_)
          have hP : va_P D vwCl [((ad 17), aI cy 1400 m_from), ((ad 18), aI cy 1400 m_by), ((ad 19), aI cy 1400 m_toward), ((ad 21), aI cy 1400 m_number), ((ad 22), aI cy 8400 m_next), ((ad 0), oX8 ad m_said m_waved m_places m_end (0 : Int32) m_netPlaces (m_number r_46.toNatClampNeg) (m_number r_48.toNatClampNeg) m_rounds m_sews), ((ad 20), aI cy 1400 m_one_48)] H := hP
          have hD : va_D A [((ad 17), aI cy 1400 m_from), ((ad 18), aI cy 1400 m_by), ((ad 19), aI cy 1400 m_toward), ((ad 21), aI cy 1400 m_number), ((ad 22), aI cy 8400 m_next), ((ad 0), oX8 ad m_said m_waved m_places m_end (0 : Int32) m_netPlaces (m_number r_46.toNatClampNeg) (m_number r_48.toNatClampNeg) m_rounds m_sews), ((ad 20), aI cy 1400 m_one_48)] := hD
          refine lv_iconst (v := (0 : Int32)) hx hb dX8_tidy_85 (by decide) ?_
          refine lv_istore_n (lv' := [(2, .int (0 : Int32)), (0, .ref (ad 0)), (1, .int x1)]) hx hb dX8_tidy_86 rfl hl (by decide) rfl (fun ls hl => ?_)
          exact hJ87 x1 (0 : Int32) (0 : Int32) m_netPlaces (m_number r_46.toNatClampNeg) (m_number r_48.toNatClampNeg) m_from m_by m_toward m_one_48 m_number   h _ _ _ (hP.sub [5, 0, 1, 2, 6, 3, 4] rfl) (hD.sub [5, 0, 1, 2, 6, 3, 4] (by decide) rfl) hS (lv_sub hl [1, 2, 0] rfl)
        · have h := h.2 c_45
          refine lv_aload_n hx hb dX8_tidy_12 rfl (lv_at hl 0 rfl) ?_
          refine va_get (D := D) (ci := 7) (v := .ref (ad 21)) (C := RX8) (T := TX8) (N := 35) hx hb hts iX8 hown hK hP 0 rfl rfl 29 (Nat.le_of_ble_eq_true rfl) (hts _ fl_X8_72) (fun _ h9 => h9) rfl dX8_tidy_13 ?_
          refine lv_iload_n hx hb dX8_tidy_16 rfl (lv_at hl 2 rfl) ?_
          refine lv_bipush (v := (-6 : Int32)) hx hb dX8_tidy_17 (by decide) ?_
          obtain ⟨hi_50, h⟩ := h
          refine va_iast hx hb hK hP hD hS 5 0 rfl rfl hi_50 dX8_tidy_19 (fun H locs hP hD hS => ?_)
          have hP : va_P D vwCl [((ad 0), oX8 ad m_said m_waved m_places m_end m_joints m_netPlaces m_begin m_finish m_rounds m_sews), ((ad 17), aI cy 1400 m_from), ((ad 18), aI cy 1400 m_by), ((ad 19), aI cy 1400 m_toward), ((ad 20), aI cy 1400 m_one), ((ad 21), aI cy 1400 (upd m_number x2.toNatClampNeg (-6 : Int32))), ((ad 22), aI cy 8400 m_next)] H := hP
          have hD : va_D A [((ad 0), oX8 ad m_said m_waved m_places m_end m_joints m_netPlaces m_begin m_finish m_rounds m_sews), ((ad 17), aI cy 1400 m_from), ((ad 18), aI cy 1400 m_by), ((ad 19), aI cy 1400 m_toward), ((ad 20), aI cy 1400 m_one), ((ad 21), aI cy 1400 (upd m_number x2.toNatClampNeg (-6 : Int32))), ((ad 22), aI cy 8400 m_next)] := hD
          refine lv_aload_n hx hb dX8_tidy_20 rfl (lv_at hl 0 rfl) ?_
          refine va_get (D := D) (ci := 7) (v := .ref (ad 20)) (C := RX8) (T := TX8) (N := 35) hx hb hts iX8 hown hK hP 0 rfl rfl 28 (Nat.le_of_ble_eq_true rfl) (hts _ fl_X8_69) (fun _ h9 => h9) rfl dX8_tidy_21 ?_
          refine lv_iload_n hx hb dX8_tidy_24 rfl (lv_at hl 2 rfl) ?_
          obtain ⟨hi_51, h⟩ := h
          refine va_iald hx hb hK hP 4 0 rfl rfl hi_51 dX8_tidy_25 ?_
          refine lv_iload_n hx hb dX8_tidy_26 rfl (lv_at hl 2 rfl) ?_
          refine lv_icmp_ne (tgt := 40) hx hb dX8_tidy_27 (by decide) (fun c_52 => ?_) (fun c_52 => ?_)
          · have h := h.1 c_52
            exact hJ40 x1 x2 m_joints m_netPlaces m_begin m_finish m_from m_by m_toward m_one (upd m_number x2.toNatClampNeg (-6 : Int32)) _ hrc4  h _ _ _ hP hD hS (lv_sub hl [0, 1, 2] rfl)
          · have h := h.2 c_52
            refine lv_aload_n hx hb dX8_tidy_30 rfl (lv_at hl 0 rfl) ?_
            refine va_get (D := D) (ci := 7) (v := .ref (ad 21)) (C := RX8) (T := TX8) (N := 35) hx hb hts iX8 hown hK hP 0 rfl rfl 29 (Nat.le_of_ble_eq_true rfl) (hts _ fl_X8_72) (fun _ h9 => h9) rfl dX8_tidy_31 ?_
            refine lv_iload_n hx hb dX8_tidy_34 rfl (lv_at hl 2 rfl) ?_
            refine lv_iload_n hx hb dX8_tidy_35 rfl (lv_at hl 1 rfl) ?_
            obtain ⟨hi_53, h⟩ := h
            refine va_iast hx hb hK hP hD hS 5 0 rfl rfl hi_53 dX8_tidy_36 (fun H locs hP hD hS => ?_)
            have hP : va_P D vwCl [((ad 0), oX8 ad m_said m_waved m_places m_end m_joints m_netPlaces m_begin m_finish m_rounds m_sews), ((ad 17), aI cy 1400 m_from), ((ad 18), aI cy 1400 m_by), ((ad 19), aI cy 1400 m_toward), ((ad 20), aI cy 1400 m_one), ((ad 21), aI cy 1400 (upd (upd m_number x2.toNatClampNeg (-6 : Int32)) x2.toNatClampNeg x1)), ((ad 22), aI cy 8400 m_next)] H := hP
            have hD : va_D A [((ad 0), oX8 ad m_said m_waved m_places m_end m_joints m_netPlaces m_begin m_finish m_rounds m_sews), ((ad 17), aI cy 1400 m_from), ((ad 18), aI cy 1400 m_by), ((ad 19), aI cy 1400 m_toward), ((ad 20), aI cy 1400 m_one), ((ad 21), aI cy 1400 (upd (upd m_number x2.toNatClampNeg (-6 : Int32)) x2.toNatClampNeg x1)), ((ad 22), aI cy 8400 m_next)] := hD
            obtain ⟨x1_54, e_x1_54⟩ : ∃ y : Int32, y = x1 + (1 : Int32) := ⟨_, rfl⟩
            refine lv_iinc (v := x1_54) (lv' := [(1, .int x1_54), (0, .ref (ad 0)), (2, .int x2)]) hx hb dX8_tidy_37 hl (k := 1) rfl (by rw [e_x1_54]; rfl) (by decide) rfl (fun ls hl => ?_)
            have h := h x1_54 e_x1_54
            exact hJ40 x1_54 x2 m_joints m_netPlaces m_begin m_finish m_from m_by m_toward m_one (upd (upd m_number x2.toNatClampNeg (-6 : Int32)) x2.toNatClampNeg x1) _ hrc4  h _ _ _ hP hD hS (lv_sub hl [1, 0, 2] rfl)
    exact key nn x1 x2 m_number h
  unfold wp_X8_tidy at h
  refine lv_iconst (v := (0 : Int32)) hx hb dX8_tidy_0 (by decide) ?_
  refine lv_istore_n (lv' := [(1, .int (0 : Int32)), (0, .ref (ad 0))]) hx hb dX8_tidy_1 rfl hl (by decide) rfl (fun ls hl => ?_)
  refine lv_iconst (v := (0 : Int32)) hx hb dX8_tidy_2 (by decide) ?_
  refine lv_istore_n (lv' := [(2, .int (0 : Int32)), (1, .int (0 : Int32)), (0, .ref (ad 0))]) hx hb dX8_tidy_3 rfl hl (by decide) rfl (fun ls hl => ?_)
  exact hJ4 (0 : Int32) (0 : Int32) m_joints m_netPlaces m_begin m_finish m_from m_by m_toward m_one m_number   h _ _ _ hP hD hS (lv_sub hl [2, 1, 0] rfl)
set_option maxHeartbeats 4000000 in
set_option maxRecDepth 100000 in
theorem c_X8_foldNet (l : Launch) (D : va_G) (cy : Nat → ClassId) (ad : Nat → Nat) (sz : Nat) (m_said : Int32) (m_waved : Int32) (m_places : Int32) (m_end : Int32) (m_joints : Int32) (m_netPlaces : Int32) (m_begin : Int32) (m_finish : Int32) (m_rounds : Int32) (m_sews : Int32) (m_from : Nat → Int32) (m_by : Nat → Int32) (m_toward : Nat → Int32) (m_one : Nat → Int32) (m_number : Nat → Int32) (m_next : Nat → Int32) {Q : Int32 → Int32 → Int32 → Int32 → (Nat → Int32) → (Nat → Int32) → (Nat → Int32) → (Nat → Int32) → (Nat → Int32) → (Nat → Int32) → Prop} (h : wp_X8_foldNet m_joints m_netPlaces m_begin m_finish m_from m_by m_toward m_one m_number m_next Q) : Met l yX8_foldNet (wsU yX8_foldNet cX8_foldNet 2 none) { frames := 3, cells := 0, slots := 0, locals := 70 } (va_Pc [.ref (ad 0)] (zB D vwCl (tyU cy) [((ad 0), oX8 ad m_said m_waved m_places m_end m_joints m_netPlaces m_begin m_finish m_rounds m_sews), ((ad 17), aI cy 1400 m_from), ((ad 18), aI cy 1400 m_by), ((ad 19), aI cy 1400 m_toward), ((ad 20), aI cy 1400 m_one), ((ad 21), aI cy 1400 m_number), ((ad 22), aI cy 8400 m_next)] sz)) ((fun A => va_Qv (fun (u : Int32 × Int32 × Int32 × Int32 × (Nat → Int32) × (Nat → Int32) × (Nat → Int32) × (Nat → Int32) × (Nat → Int32) × (Nat → Int32)) => ∃ (z0 : Int32) (z1 : Int32) (z2 : Int32) (z3 : Int32) (z4 : Nat → Int32) (z5 : Nat → Int32) (z6 : Nat → Int32) (z7 : Nat → Int32) (z8 : Nat → Int32) (z9 : Nat → Int32), u = (z0, z1, z2, z3, z4, z5, z6, z7, z8, z9) ∧ Q z0 z1 z2 z3 z4 z5 z6 z7 z8 z9) (zE D vwCl A (fun (u : Int32 × Int32 × Int32 × Int32 × (Nat → Int32) × (Nat → Int32) × (Nat → Int32) × (Nat → Int32) × (Nat → Int32) × (Nat → Int32)) => [((ad 0), oX8 ad m_said m_waved m_places m_end (u.1) (u.2.1) (u.2.2.1) (u.2.2.2.1) m_rounds m_sews), ((ad 17), aI cy 1400 (u.2.2.2.2.1)), ((ad 18), aI cy 1400 (u.2.2.2.2.2.1)), ((ad 19), aI cy 1400 (u.2.2.2.2.2.2.1)), ((ad 20), aI cy 1400 (u.2.2.2.2.2.2.2.1)), ((ad 21), aI cy 1400 (u.2.2.2.2.2.2.2.2.1)), ((ad 22), aI cy 8400 (u.2.2.2.2.2.2.2.2.2))])) A) (va_A [((ad 0), oX8 ad m_said m_waved m_places m_end m_joints m_netPlaces m_begin m_finish m_rounds m_sews), ((ad 17), aI cy 1400 m_from), ((ad 18), aI cy 1400 m_by), ((ad 19), aI cy 1400 m_toward), ((ad 20), aI cy 1400 m_one), ((ad 21), aI cy 1400 m_number), ((ad 22), aI cy 8400 m_next)] sz)) 0 0 (va_A [((ad 0), oX8 ad m_said m_waved m_places m_end m_joints m_netPlaces m_begin m_finish m_rounds m_sews), ((ad 17), aI cy 1400 m_from), ((ad 18), aI cy 1400 m_by), ((ad 19), aI cy 1400 m_toward), ((ad 20), aI cy 1400 m_one), ((ad 21), aI cy 1400 m_number), ((ad 22), aI cy 8400 m_next)] sz) := by
  refine z_ofX (fun A => va_Qv (fun (u : Int32 × Int32 × Int32 × Int32 × (Nat → Int32) × (Nat → Int32) × (Nat → Int32) × (Nat → Int32) × (Nat → Int32) × (Nat → Int32)) => ∃ (z0 : Int32) (z1 : Int32) (z2 : Int32) (z3 : Int32) (z4 : Nat → Int32) (z5 : Nat → Int32) (z6 : Nat → Int32) (z7 : Nat → Int32) (z8 : Nat → Int32) (z9 : Nat → Int32), u = (z0, z1, z2, z3, z4, z5, z6, z7, z8, z9) ∧ Q z0 z1 z2 z3 z4 z5 z6 z7 z8 z9) (zE D vwCl A (fun (u : Int32 × Int32 × Int32 × Int32 × (Nat → Int32) × (Nat → Int32) × (Nat → Int32) × (Nat → Int32) × (Nat → Int32) × (Nat → Int32)) => [((ad 0), oX8 ad m_said m_waved m_places m_end (u.1) (u.2.1) (u.2.2.1) (u.2.2.2.1) m_rounds m_sews), ((ad 17), aI cy 1400 (u.2.2.2.2.1)), ((ad 18), aI cy 1400 (u.2.2.2.2.2.1)), ((ad 19), aI cy 1400 (u.2.2.2.2.2.2.1)), ((ad 20), aI cy 1400 (u.2.2.2.2.2.2.2.1)), ((ad 21), aI cy 1400 (u.2.2.2.2.2.2.2.2.1)), ((ad 22), aI cy 8400 (u.2.2.2.2.2.2.2.2.2))])) A) (by decide) (Nat.le_of_ble_eq_true rfl) (fun p e s m below meth c A ls hx hb hr hml hown hts hlocks hK hPW hA hP hD hS hl => ?_)
  have hl : lv_has ls 2 [(0, .ref (ad 0))] := hl
  have hown : s.vm.findClass RX8 = some m.cls := hown
  generalize hArg : ([.ref (ad 0)] : List Value).toArray = args at hts ⊢
  have hJ5 : ∀ (x1 : Int32) (m_joints : Int32) (m_netPlaces : Int32) (m_begin : Int32) (m_finish : Int32) (m_from : Nat → Int32) (m_by : Nat → Int32) (m_toward : Nat → Int32) (m_one : Nat → Int32) (m_number : Nat → Int32) (m_next : Nat → Int32), wp_X8_foldNet_5 m_joints m_netPlaces m_begin m_finish m_from m_by m_toward m_number  Q x1 m_one m_next → ∀ (H : Heap) (locs : List Loc) (ls : Array Slot), va_P D vwCl [((ad 0), oX8 ad m_said m_waved m_places m_end m_joints m_netPlaces m_begin m_finish m_rounds m_sews), ((ad 17), aI cy 1400 m_from), ((ad 18), aI cy 1400 m_by), ((ad 19), aI cy 1400 m_toward), ((ad 20), aI cy 1400 m_one), ((ad 21), aI cy 1400 m_number), ((ad 22), aI cy 8400 m_next)] H → va_D A [((ad 0), oX8 ad m_said m_waved m_places m_end m_joints m_netPlaces m_begin m_finish m_rounds m_sews), ((ad 17), aI cy 1400 m_from), ((ad 18), aI cy 1400 m_by), ((ad 19), aI cy 1400 m_toward), ((ad 20), aI cy 1400 m_one), ((ad 21), aI cy 1400 m_number), ((ad 22), aI cy 8400 m_next)] → va_S A s.heap H locs → lv_has ls 2 [(0, .ref (ad 0)), (1, .int x1)] → W p l e { frames := 3, cells := 0, slots := 0, locals := 70 } s m args below meth c H locs 0 0 (MQ below ((fun A => va_Qv (fun (u : Int32 × Int32 × Int32 × Int32 × (Nat → Int32) × (Nat → Int32) × (Nat → Int32) × (Nat → Int32) × (Nat → Int32) × (Nat → Int32)) => ∃ (z0 : Int32) (z1 : Int32) (z2 : Int32) (z3 : Int32) (z4 : Nat → Int32) (z5 : Nat → Int32) (z6 : Nat → Int32) (z7 : Nat → Int32) (z8 : Nat → Int32) (z9 : Nat → Int32), u = (z0, z1, z2, z3, z4, z5, z6, z7, z8, z9) ∧ Q z0 z1 z2 z3 z4 z5 z6 z7 z8 z9) (zE D vwCl A (fun (u : Int32 × Int32 × Int32 × Int32 × (Nat → Int32) × (Nat → Int32) × (Nat → Int32) × (Nat → Int32) × (Nat → Int32) × (Nat → Int32)) => [((ad 0), oX8 ad m_said m_waved m_places m_end (u.1) (u.2.1) (u.2.2.1) (u.2.2.2.1) m_rounds m_sews), ((ad 17), aI cy 1400 (u.2.2.2.2.1)), ((ad 18), aI cy 1400 (u.2.2.2.2.2.1)), ((ad 19), aI cy 1400 (u.2.2.2.2.2.2.1)), ((ad 20), aI cy 1400 (u.2.2.2.2.2.2.2.1)), ((ad 21), aI cy 1400 (u.2.2.2.2.2.2.2.2.1)), ((ad 22), aI cy 8400 (u.2.2.2.2.2.2.2.2.2))])) A) A) args s 0 0 A) (F0 m 5 ls []) := by
    intro x1 m_joints m_netPlaces m_begin m_finish m_from m_by m_toward m_one m_number m_next   h
    obtain ⟨nn, h⟩ := h
    have key : ∀ (nn : Nat) (x1 : Int32) (m_one : Nat → Int32) (m_next : Nat → Int32), lpW3 (wb_X8_foldNet_5 m_joints m_netPlaces m_begin m_finish m_from m_by m_toward m_number  Q) nn x1 m_one m_next → ∀ (H : Heap) (locs : List Loc) (ls : Array Slot), va_P D vwCl [((ad 0), oX8 ad m_said m_waved m_places m_end m_joints m_netPlaces m_begin m_finish m_rounds m_sews), ((ad 17), aI cy 1400 m_from), ((ad 18), aI cy 1400 m_by), ((ad 19), aI cy 1400 m_toward), ((ad 20), aI cy 1400 m_one), ((ad 21), aI cy 1400 m_number), ((ad 22), aI cy 8400 m_next)] H → va_D A [((ad 0), oX8 ad m_said m_waved m_places m_end m_joints m_netPlaces m_begin m_finish m_rounds m_sews), ((ad 17), aI cy 1400 m_from), ((ad 18), aI cy 1400 m_by), ((ad 19), aI cy 1400 m_toward), ((ad 20), aI cy 1400 m_one), ((ad 21), aI cy 1400 m_number), ((ad 22), aI cy 8400 m_next)] → va_S A s.heap H locs → lv_has ls 2 [(0, .ref (ad 0)), (1, .int x1)] → W p l e { frames := 3, cells := 0, slots := 0, locals := 70 } s m args below meth c H locs 0 0 (MQ below ((fun A => va_Qv (fun (u : Int32 × Int32 × Int32 × Int32 × (Nat → Int32) × (Nat → Int32) × (Nat → Int32) × (Nat → Int32) × (Nat → Int32) × (Nat → Int32)) => ∃ (z0 : Int32) (z1 : Int32) (z2 : Int32) (z3 : Int32) (z4 : Nat → Int32) (z5 : Nat → Int32) (z6 : Nat → Int32) (z7 : Nat → Int32) (z8 : Nat → Int32) (z9 : Nat → Int32), u = (z0, z1, z2, z3, z4, z5, z6, z7, z8, z9) ∧ Q z0 z1 z2 z3 z4 z5 z6 z7 z8 z9) (zE D vwCl A (fun (u : Int32 × Int32 × Int32 × Int32 × (Nat → Int32) × (Nat → Int32) × (Nat → Int32) × (Nat → Int32) × (Nat → Int32) × (Nat → Int32)) => [((ad 0), oX8 ad m_said m_waved m_places m_end (u.1) (u.2.1) (u.2.2.1) (u.2.2.2.1) m_rounds m_sews), ((ad 17), aI cy 1400 (u.2.2.2.2.1)), ((ad 18), aI cy 1400 (u.2.2.2.2.2.1)), ((ad 19), aI cy 1400 (u.2.2.2.2.2.2.1)), ((ad 20), aI cy 1400 (u.2.2.2.2.2.2.2.1)), ((ad 21), aI cy 1400 (u.2.2.2.2.2.2.2.2.1)), ((ad 22), aI cy 8400 (u.2.2.2.2.2.2.2.2.2))])) A) A) args s 0 0 A) (F0 m 5 ls []) := by
      intro nn
      induction nn with
      | zero => intro x1 m_one m_next h; exact h.elim
      | succ nn hrc5 =>
        intro x1 m_one m_next h H locs ls hP hD hS hl
        have h : wb_X8_foldNet_5 m_joints m_netPlaces m_begin m_finish m_from m_by m_toward m_number  Q (lpW3 (wb_X8_foldNet_5 m_joints m_netPlaces m_begin m_finish m_from m_by m_toward m_number  Q) nn) x1 m_one m_next := h
        unfold wb_X8_foldNet_5 at h
        refine lv_iload_n hx hb dX8_foldNet_5 rfl (lv_at hl 1 rfl) ?_
        refine lv_if_eq (tgt := 17) hx hb dX8_foldNet_6 (by decide) (fun c_6 => ?_) (fun c_6 => ?_)
        · have h := h.1 c_6
          refine lv_aload_n hx hb dX8_foldNet_17 rfl (lv_at hl 0 rfl) ?_
          refine zc_Vv (As := []) (rest := []) (wc := [((ad 0), oX8 ad m_said m_waved m_places m_end m_joints m_netPlaces m_begin m_finish m_rounds m_sews), ((ad 17), aI cy 1400 m_from), ((ad 18), aI cy 1400 m_by), ((ad 19), aI cy 1400 m_toward), ((ad 20), aI cy 1400 m_one), ((ad 21), aI cy 1400 m_number), ((ad 22), aI cy 8400 m_next)]) (wr := []) hx hb hml hown hts hK hPW hA hl.1 hP hD hS ⟨Nat.zero_le _, Nat.zero_le _⟩ [0, 1, 2, 3, 4, 5, 6] [] rfl rfl (by decide) (c_X8_tidy l D cy (sz := _) (ad := ad) (m_said := m_said) (m_waved := m_waved) (m_places := m_places) (m_end := m_end) (m_joints := m_joints) (m_netPlaces := m_netPlaces) (m_begin := m_begin) (m_finish := m_finish) (m_rounds := m_rounds) (m_sews := m_sews) (m_from := m_from) (m_by := m_by) (m_toward := m_toward) (m_one := m_one) (m_number := m_number) (m_next := m_next) (h := h)) k_X8_250 ⟨rfl, rfl, (Nat.le_of_ble_eq_true rfl), (Nat.le_of_ble_eq_true rfl)⟩ rfl rfl rfl rfl (Nat.le_of_ble_eq_true rfl) dX8_foldNet_18 (fun u_7 H locs h hP hD hS => ?_)
          obtain ⟨m_joints_7, m_netPlaces_7, m_begin_7, m_finish_7, m_from_7, m_by_7, m_toward_7, m_one_7, m_number_7, rfl, h⟩ := h
          have hP : va_P D vwCl [((ad 0), oX8 ad m_said m_waved m_places m_end m_joints_7 m_netPlaces_7 m_begin_7 m_finish_7 m_rounds m_sews), ((ad 17), aI cy 1400 m_from_7), ((ad 18), aI cy 1400 m_by_7), ((ad 19), aI cy 1400 m_toward_7), ((ad 20), aI cy 1400 m_one_7), ((ad 21), aI cy 1400 m_number_7), ((ad 22), aI cy 8400 m_next)] H := hP
          have hD : va_D A [((ad 0), oX8 ad m_said m_waved m_places m_end m_joints_7 m_netPlaces_7 m_begin_7 m_finish_7 m_rounds m_sews), ((ad 17), aI cy 1400 m_from_7), ((ad 18), aI cy 1400 m_by_7), ((ad 19), aI cy 1400 m_toward_7), ((ad 20), aI cy 1400 m_one_7), ((ad 21), aI cy 1400 m_number_7), ((ad 22), aI cy 8400 m_next)] := hD
          refine lv_aload_n hx hb dX8_foldNet_21 rfl (lv_at hl 0 rfl) ?_
          refine zc_Vi (As := []) (rest := []) (wc := [((ad 0), oX8 ad m_said m_waved m_places m_end m_joints_7 m_netPlaces_7 m_begin_7 m_finish_7 m_rounds m_sews), ((ad 17), aI cy 1400 m_from_7), ((ad 18), aI cy 1400 m_by_7), ((ad 19), aI cy 1400 m_toward_7), ((ad 20), aI cy 1400 m_one_7), ((ad 22), aI cy 8400 m_next)]) (wr := [((ad 21), aI cy 1400 m_number_7)]) hx hb hml hown hts hK hPW hA hl.1 hP hD hS ⟨Nat.zero_le _, Nat.zero_le _⟩ [0, 1, 2, 3, 4, 6] [5] rfl rfl (by decide) (c_X8_foldAll l D cy (sz := _) (ad := ad) (m_said := m_said) (m_waved := m_waved) (m_places := m_places) (m_end := m_end) (m_joints := m_joints_7) (m_netPlaces := m_netPlaces_7) (m_begin := m_begin_7) (m_finish := m_finish_7) (m_rounds := m_rounds) (m_sews := m_sews) (m_from := m_from_7) (m_by := m_by_7) (m_toward := m_toward_7) (m_one := m_one_7) (m_next := m_next) (h := h)) k_X8_247 ⟨rfl, rfl, (Nat.le_of_ble_eq_true rfl), (Nat.le_of_ble_eq_true rfl)⟩ rfl rfl rfl rfl (Nat.le_of_ble_eq_true rfl) dX8_foldNet_22 (fun r_8 u_8 H locs h hP hD hS => ?_)
          obtain ⟨m_one_8, m_next_8, rfl, h⟩ := h
          have hP : va_P D vwCl [((ad 21), aI cy 1400 m_number_7), ((ad 0), oX8 ad m_said m_waved m_places m_end m_joints_7 m_netPlaces_7 m_begin_7 m_finish_7 m_rounds m_sews), ((ad 17), aI cy 1400 m_from_7), ((ad 18), aI cy 1400 m_by_7), ((ad 19), aI cy 1400 m_toward_7), ((ad 20), aI cy 1400 m_one_8), ((ad 22), aI cy 8400 m_next_8)] H := hP
          have hD : va_D A [((ad 21), aI cy 1400 m_number_7), ((ad 0), oX8 ad m_said m_waved m_places m_end m_joints_7 m_netPlaces_7 m_begin_7 m_finish_7 m_rounds m_sews), ((ad 17), aI cy 1400 m_from_7), ((ad 18), aI cy 1400 m_by_7), ((ad 19), aI cy 1400 m_toward_7), ((ad 20), aI cy 1400 m_one_8), ((ad 22), aI cy 8400 m_next_8)] := hD
          refine lv_pop hx hb dX8_foldNet_25 rfl ?_
          exact z_vret (m_joints_7, m_netPlaces_7, m_begin_7, m_finish_7, m_from_7, m_by_7, m_toward_7, m_one_8, m_number_7, m_next_8) hx hb hr hlocks ⟨m_joints_7, m_netPlaces_7, m_begin_7, m_finish_7, m_from_7, m_by_7, m_toward_7, m_one_8, m_number_7, m_next_8, rfl, h⟩ (hP.sub [1, 2, 3, 4, 5, 0, 6] rfl) (hD.sub [1, 2, 3, 4, 5, 0, 6] (by decide) rfl) hS dX8_foldNet_26
        · have h := h.2 c_6
          refine lv_aload_n hx hb dX8_foldNet_9 rfl (lv_at hl 0 rfl) ?_
          refine zc_Vi (As := []) (rest := []) (wc := [((ad 0), oX8 ad m_said m_waved m_places m_end m_joints m_netPlaces m_begin m_finish m_rounds m_sews), ((ad 17), aI cy 1400 m_from), ((ad 18), aI cy 1400 m_by), ((ad 19), aI cy 1400 m_toward), ((ad 20), aI cy 1400 m_one), ((ad 22), aI cy 8400 m_next)]) (wr := [((ad 21), aI cy 1400 m_number)]) hx hb hml hown hts hK hPW hA hl.1 hP hD hS ⟨Nat.zero_le _, Nat.zero_le _⟩ [0, 1, 2, 3, 4, 6] [5] rfl rfl (by decide) (c_X8_foldAll l D cy (sz := _) (ad := ad) (m_said := m_said) (m_waved := m_waved) (m_places := m_places) (m_end := m_end) (m_joints := m_joints) (m_netPlaces := m_netPlaces) (m_begin := m_begin) (m_finish := m_finish) (m_rounds := m_rounds) (m_sews := m_sews) (m_from := m_from) (m_by := m_by) (m_toward := m_toward) (m_one := m_one) (m_next := m_next) (h := h)) k_X8_247 ⟨rfl, rfl, (Nat.le_of_ble_eq_true rfl), (Nat.le_of_ble_eq_true rfl)⟩ rfl rfl rfl rfl (Nat.le_of_ble_eq_true rfl) dX8_foldNet_10 (fun r_9 u_9 H locs h hP hD hS => ?_)
          obtain ⟨m_one_9, m_next_9, rfl, h⟩ := h
          have hP : va_P D vwCl [((ad 21), aI cy 1400 m_number), ((ad 0), oX8 ad m_said m_waved m_places m_end m_joints m_netPlaces m_begin m_finish m_rounds m_sews), ((ad 17), aI cy 1400 m_from), ((ad 18), aI cy 1400 m_by), ((ad 19), aI cy 1400 m_toward), ((ad 20), aI cy 1400 m_one_9), ((ad 22), aI cy 8400 m_next_9)] H := hP
          have hD : va_D A [((ad 21), aI cy 1400 m_number), ((ad 0), oX8 ad m_said m_waved m_places m_end m_joints m_netPlaces m_begin m_finish m_rounds m_sews), ((ad 17), aI cy 1400 m_from), ((ad 18), aI cy 1400 m_by), ((ad 19), aI cy 1400 m_toward), ((ad 20), aI cy 1400 m_one_9), ((ad 22), aI cy 8400 m_next_9)] := hD
          refine lv_istore_n (lv' := [(1, .int r_9), (0, .ref (ad 0))]) hx hb dX8_foldNet_13 rfl hl (by decide) rfl (fun ls hl => ?_)
          refine lv_goto (tgt := 5) hx hb dX8_foldNet_14 (by decide) ?_
          exact hrc5 r_9 m_one_9 m_next_9 h _ _ _ (hP.sub [1, 2, 3, 4, 5, 0, 6] rfl) (hD.sub [1, 2, 3, 4, 5, 0, 6] (by decide) rfl) hS (lv_sub hl [1, 0] rfl)
    exact key nn x1 m_one m_next h
  unfold wp_X8_foldNet at h
  refine lv_aload_n hx hb dX8_foldNet_0 rfl (lv_at hl 0 rfl) ?_
  refine zc_Vi (As := []) (rest := []) (wc := [((ad 0), oX8 ad m_said m_waved m_places m_end m_joints m_netPlaces m_begin m_finish m_rounds m_sews), ((ad 17), aI cy 1400 m_from), ((ad 18), aI cy 1400 m_by), ((ad 19), aI cy 1400 m_toward), ((ad 20), aI cy 1400 m_one), ((ad 22), aI cy 8400 m_next)]) (wr := [((ad 21), aI cy 1400 m_number)]) hx hb hml hown hts hK hPW hA hl.1 hP hD hS ⟨Nat.zero_le _, Nat.zero_le _⟩ [0, 1, 2, 3, 4, 6] [5] rfl rfl (by decide) (c_X8_foldAll l D cy (sz := _) (ad := ad) (m_said := m_said) (m_waved := m_waved) (m_places := m_places) (m_end := m_end) (m_joints := m_joints) (m_netPlaces := m_netPlaces) (m_begin := m_begin) (m_finish := m_finish) (m_rounds := m_rounds) (m_sews := m_sews) (m_from := m_from) (m_by := m_by) (m_toward := m_toward) (m_one := m_one) (m_next := m_next) (h := h)) k_X8_247 ⟨rfl, rfl, (Nat.le_of_ble_eq_true rfl), (Nat.le_of_ble_eq_true rfl)⟩ rfl rfl rfl rfl (Nat.le_of_ble_eq_true rfl) dX8_foldNet_1 (fun r_10 u_10 H locs h hP hD hS => ?_)
  obtain ⟨m_one_10, m_next_10, rfl, h⟩ := h
  have hP : va_P D vwCl [((ad 21), aI cy 1400 m_number), ((ad 0), oX8 ad m_said m_waved m_places m_end m_joints m_netPlaces m_begin m_finish m_rounds m_sews), ((ad 17), aI cy 1400 m_from), ((ad 18), aI cy 1400 m_by), ((ad 19), aI cy 1400 m_toward), ((ad 20), aI cy 1400 m_one_10), ((ad 22), aI cy 8400 m_next_10)] H := hP
  have hD : va_D A [((ad 21), aI cy 1400 m_number), ((ad 0), oX8 ad m_said m_waved m_places m_end m_joints m_netPlaces m_begin m_finish m_rounds m_sews), ((ad 17), aI cy 1400 m_from), ((ad 18), aI cy 1400 m_by), ((ad 19), aI cy 1400 m_toward), ((ad 20), aI cy 1400 m_one_10), ((ad 22), aI cy 8400 m_next_10)] := hD
  refine lv_istore_n (lv' := [(1, .int r_10), (0, .ref (ad 0))]) hx hb dX8_foldNet_4 rfl hl (by decide) rfl (fun ls hl => ?_)
  exact hJ5 r_10 m_joints m_netPlaces m_begin m_finish m_from m_by m_toward m_one_10 m_number m_next_10   h _ _ _ (hP.sub [1, 2, 3, 4, 5, 0, 6] rfl) (hD.sub [1, 2, 3, 4, 5, 0, 6] (by decide) rfl) hS (lv_sub hl [1, 0] rfl)
set_option maxHeartbeats 4000000 in
set_option maxRecDepth 100000 in
theorem c_X8_ruleLetter (l : Launch) (D : va_G) (cy : Nat → ClassId) (ad : Nat → Nat) (sz : Nat) (m_said : Int32) (m_waved : Int32) (m_places : Int32) (m_end : Int32) (m_joints : Int32) (m_netPlaces : Int32) (m_begin : Int32) (m_finish : Int32) (m_rounds : Int32) (m_sews : Int32) (m_state : Nat → Int32) (x1 : Int32) (x2 : Int32) {Q : Int32 → Prop} (h : wp_X8_ruleLetter x1 x2 m_state Q) : Met l yX8_ruleLetter (wsU yX8_ruleLetter cX8_ruleLetter 3 (some .int)) { frames := 0, cells := 0, slots := 0, locals := 0 } (va_Pc [.ref (ad 0), .int x1, .int x2] (zB D vwCl (tyU cy) [((ad 0), oX8 ad m_said m_waved m_places m_end m_joints m_netPlaces m_begin m_finish m_rounds m_sews), ((ad 1), aI cy 112 m_state)] sz)) ((fun A => va_Qi (fun (r : Int32) (_ : Unit) => Q r ) (zE D vwCl A (fun (_ : Unit) => [((ad 0), oX8 ad m_said m_waved m_places m_end m_joints m_netPlaces m_begin m_finish m_rounds m_sews), ((ad 1), aI cy 112 m_state)])) A) (va_A [((ad 0), oX8 ad m_said m_waved m_places m_end m_joints m_netPlaces m_begin m_finish m_rounds m_sews), ((ad 1), aI cy 112 m_state)] sz)) 0 0 (va_A [((ad 0), oX8 ad m_said m_waved m_places m_end m_joints m_netPlaces m_begin m_finish m_rounds m_sews), ((ad 1), aI cy 112 m_state)] sz) := by
  refine z_ofX (fun A => va_Qi (fun (r : Int32) (_ : Unit) => Q r ) (zE D vwCl A (fun (_ : Unit) => [((ad 0), oX8 ad m_said m_waved m_places m_end m_joints m_netPlaces m_begin m_finish m_rounds m_sews), ((ad 1), aI cy 112 m_state)])) A) (by decide) (Nat.le_of_ble_eq_true rfl) (fun p e s m below meth c A ls hx hb hr hml hown hts hlocks hK hPW hA hP hD hS hl => ?_)
  have hl : lv_has ls 3 [(0, .ref (ad 0)), (1, .int x1), (2, .int x2)] := hl
  have hown : s.vm.findClass RX8 = some m.cls := hown
  unfold wp_X8_ruleLetter at h
  refine lv_aload_n hx hb dX8_ruleLetter_0 rfl (lv_at hl 0 rfl) ?_
  refine va_get (D := D) (ci := 7) (v := .ref (ad 1)) (C := RX8) (T := TX8) (N := 35) hx hb hts iX8 hown hK hP 0 rfl rfl 0 (Nat.le_of_ble_eq_true rfl) (hts _ fl_X8_7) (fun _ h9 => h9) rfl dX8_ruleLetter_1 ?_
  refine lv_bipush (v := (64 : Int32)) hx hb dX8_ruleLetter_4 (by decide) ?_
  refine lv_bipush (v := (12 : Int32)) hx hb dX8_ruleLetter_6 (by decide) ?_
  refine lv_iload_n hx hb dX8_ruleLetter_8 rfl (lv_at hl 1 rfl) ?_
  refine lv_imul hx hb dX8_ruleLetter_9 ?_
  refine lv_iadd hx hb dX8_ruleLetter_10 ?_
  refine lv_iload_n hx hb dX8_ruleLetter_11 rfl (lv_at hl 2 rfl) ?_
  refine lv_iadd hx hb dX8_ruleLetter_12 ?_
  obtain ⟨hi_2, h⟩ := h
  refine va_iald hx hb hK hP 1 0 rfl rfl hi_2 dX8_ruleLetter_13 ?_
  exact z_iret () hx hb hr hlocks h hP hD hS dX8_ruleLetter_14
set_option maxHeartbeats 4000000 in
set_option maxRecDepth 100000 in
theorem c_X8_readRule (l : Launch) (D : va_G) (cy : Nat → ClassId) (ad : Nat → Nat) (sz : Nat) (m_said : Int32) (m_waved : Int32) (m_places : Int32) (m_end : Int32) (m_joints : Int32) (m_netPlaces : Int32) (m_begin : Int32) (m_finish : Int32) (m_rounds : Int32) (m_sews : Int32) (m_state : Nat → Int32) (m_next : Nat → Int32) (x1 : Int32) (x2 : Int32) {Q : Int32 → Prop} (h : wp_X8_readRule x1 x2 m_state m_next Q) : Met l yX8_readRule (wsU yX8_readRule cX8_readRule 5 (some .int)) { frames := 1, cells := 0, slots := 0, locals := 22 } (va_Pc [.ref (ad 0), .int x1, .int x2] (zB D vwCl (tyU cy) [((ad 0), oX8 ad m_said m_waved m_places m_end m_joints m_netPlaces m_begin m_finish m_rounds m_sews), ((ad 1), aI cy 112 m_state), ((ad 22), aI cy 8400 m_next)] sz)) ((fun A => va_Qi (fun (r : Int32) (_ : Unit) => Q r ) (zE D vwCl A (fun (_ : Unit) => [((ad 0), oX8 ad m_said m_waved m_places m_end m_joints m_netPlaces m_begin m_finish m_rounds m_sews), ((ad 1), aI cy 112 m_state), ((ad 22), aI cy 8400 m_next)])) A) (va_A [((ad 0), oX8 ad m_said m_waved m_places m_end m_joints m_netPlaces m_begin m_finish m_rounds m_sews), ((ad 1), aI cy 112 m_state), ((ad 22), aI cy 8400 m_next)] sz)) 0 0 (va_A [((ad 0), oX8 ad m_said m_waved m_places m_end m_joints m_netPlaces m_begin m_finish m_rounds m_sews), ((ad 1), aI cy 112 m_state), ((ad 22), aI cy 8400 m_next)] sz) := by
  refine z_ofX (fun A => va_Qi (fun (r : Int32) (_ : Unit) => Q r ) (zE D vwCl A (fun (_ : Unit) => [((ad 0), oX8 ad m_said m_waved m_places m_end m_joints m_netPlaces m_begin m_finish m_rounds m_sews), ((ad 1), aI cy 112 m_state), ((ad 22), aI cy 8400 m_next)])) A) (by decide) (Nat.le_of_ble_eq_true rfl) (fun p e s m below meth c A ls hx hb hr hml hown hts hlocks hK hPW hA hP hD hS hl => ?_)
  have hl : lv_has ls 5 [(0, .ref (ad 0)), (1, .int x1), (2, .int x2)] := hl
  have hown : s.vm.findClass RX8 = some m.cls := hown
  generalize hArg : ([.ref (ad 0), .int x1, .int x2] : List Value).toArray = args at hts ⊢
  have hJ5 : ∀ (x1 : Int32) (x3 : Int32) (x4 : Int32), wp_X8_readRule_5 m_state m_next x1  Q x3 x4 → ∀ (H : Heap) (locs : List Loc) (ls : Array Slot), va_P D vwCl [((ad 0), oX8 ad m_said m_waved m_places m_end m_joints m_netPlaces m_begin m_finish m_rounds m_sews), ((ad 1), aI cy 112 m_state), ((ad 22), aI cy 8400 m_next)] H → va_D A [((ad 0), oX8 ad m_said m_waved m_places m_end m_joints m_netPlaces m_begin m_finish m_rounds m_sews), ((ad 1), aI cy 112 m_state), ((ad 22), aI cy 8400 m_next)] → va_S A s.heap H locs → lv_has ls 5 [(0, .ref (ad 0)), (1, .int x1), (3, .int x3), (4, .int x4)] → W p l e { frames := 1, cells := 0, slots := 0, locals := 22 } s m args below meth c H locs 0 0 (MQ below ((fun A => va_Qi (fun (r : Int32) (_ : Unit) => Q r ) (zE D vwCl A (fun (_ : Unit) => [((ad 0), oX8 ad m_said m_waved m_places m_end m_joints m_netPlaces m_begin m_finish m_rounds m_sews), ((ad 1), aI cy 112 m_state), ((ad 22), aI cy 8400 m_next)])) A) A) args s 0 0 A) (F0 m 5 ls []) := by
    intro x1 x3 x4   h
    obtain ⟨nn, h⟩ := h
    have key : ∀ (nn : Nat) (x3 : Int32) (x4 : Int32), lpW2 (wb_X8_readRule_5 m_state m_next x1  Q) nn x3 x4 → ∀ (H : Heap) (locs : List Loc) (ls : Array Slot), va_P D vwCl [((ad 0), oX8 ad m_said m_waved m_places m_end m_joints m_netPlaces m_begin m_finish m_rounds m_sews), ((ad 1), aI cy 112 m_state), ((ad 22), aI cy 8400 m_next)] H → va_D A [((ad 0), oX8 ad m_said m_waved m_places m_end m_joints m_netPlaces m_begin m_finish m_rounds m_sews), ((ad 1), aI cy 112 m_state), ((ad 22), aI cy 8400 m_next)] → va_S A s.heap H locs → lv_has ls 5 [(0, .ref (ad 0)), (1, .int x1), (3, .int x3), (4, .int x4)] → W p l e { frames := 1, cells := 0, slots := 0, locals := 22 } s m args below meth c H locs 0 0 (MQ below ((fun A => va_Qi (fun (r : Int32) (_ : Unit) => Q r ) (zE D vwCl A (fun (_ : Unit) => [((ad 0), oX8 ad m_said m_waved m_places m_end m_joints m_netPlaces m_begin m_finish m_rounds m_sews), ((ad 1), aI cy 112 m_state), ((ad 22), aI cy 8400 m_next)])) A) A) args s 0 0 A) (F0 m 5 ls []) := by
      intro nn
      induction nn with
      | zero => intro x3 x4 h; exact h.elim
      | succ nn hrc5 =>
        intro x3 x4 h H locs ls hP hD hS hl
        have h : wb_X8_readRule_5 m_state m_next x1  Q (lpW2 (wb_X8_readRule_5 m_state m_next x1  Q) nn) x3 x4 := h
        unfold wb_X8_readRule_5 at h
        refine lv_iload hx hb dX8_readRule_5 (lv_at hl 3 rfl) ?_
        refine lv_aload_n hx hb dX8_readRule_7 rfl (lv_at hl 0 rfl) ?_
        refine va_get (D := D) (ci := 7) (v := .ref (ad 1)) (C := RX8) (T := TX8) (N := 35) hx hb hts iX8 hown hK hP 0 rfl rfl 0 (Nat.le_of_ble_eq_true rfl) (hts _ fl_X8_7) (fun _ h9 => h9) rfl dX8_readRule_8 ?_
        refine lv_bipush (v := (60 : Int32)) hx hb dX8_readRule_11 (by decide) ?_
        refine lv_iload_n hx hb dX8_readRule_13 rfl (lv_at hl 1 rfl) ?_
        refine lv_iadd hx hb dX8_readRule_14 ?_
        obtain ⟨hi_8, h⟩ := h
        refine va_iald hx hb hK hP 1 0 rfl rfl hi_8 dX8_readRule_15 ?_
        refine lv_icmp_ge (tgt := 47) hx hb dX8_readRule_16 (by decide) (fun c_9 => ?_) (fun c_9 => ?_)
        · have h := h.1 c_9
          refine lv_iload_n hx hb dX8_readRule_47 rfl (lv_at hl 2 rfl) ?_
          exact z_iret () hx hb hr hlocks h hP hD hS dX8_readRule_48
        · have h := h.2 c_9
          refine lv_iload_n hx hb dX8_readRule_19 rfl (lv_at hl 2 rfl) ?_
          refine lv_if_lt (tgt := 47) hx hb dX8_readRule_20 (by decide) (fun c_10 => ?_) (fun c_10 => ?_)
          · have h := h.1 c_10
            refine lv_iload_n hx hb dX8_readRule_47 rfl (lv_at hl 2 rfl) ?_
            exact z_iret () hx hb hr hlocks h hP hD hS dX8_readRule_48
          · have h := h.2 c_10
            refine lv_aload_n hx hb dX8_readRule_23 rfl (lv_at hl 0 rfl) ?_
            refine va_get (D := D) (ci := 7) (v := .ref (ad 22)) (C := RX8) (T := TX8) (N := 35) hx hb hts iX8 hown hK hP 0 rfl rfl 30 (Nat.le_of_ble_eq_true rfl) (hts _ fl_X8_75) (fun _ h9 => h9) rfl dX8_readRule_24 ?_
            refine lv_bipush (v := (6 : Int32)) hx hb dX8_readRule_27 (by decide) ?_
            refine lv_iload_n hx hb dX8_readRule_29 rfl (lv_at hl 2 rfl) ?_
            refine lv_imul hx hb dX8_readRule_30 ?_
            refine lv_aload_n hx hb dX8_readRule_31 rfl (lv_at hl 0 rfl) ?_
            refine lv_iload_n hx hb dX8_readRule_32 rfl (lv_at hl 1 rfl) ?_
            refine lv_iload hx hb dX8_readRule_33 (lv_at hl 3 rfl) ?_
            refine zc_Vi (As := [.int x1, .int x4]) (rest := [.int ((6 : Int32) * x3), .ref (ad 22)]) (wc := [((ad 0), oX8 ad m_said m_waved m_places m_end m_joints m_netPlaces m_begin m_finish m_rounds m_sews), ((ad 1), aI cy 112 m_state)]) (wr := [((ad 22), aI cy 8400 m_next)]) hx hb hml hown hts hK hPW hA hl.1 hP hD hS ⟨Nat.zero_le _, Nat.zero_le _⟩ [0, 1] [2] rfl rfl (by decide) (c_X8_ruleLetter l D cy (sz := _) (x1 := x1) (x2 := x4) (ad := ad) (m_said := m_said) (m_waved := m_waved) (m_places := m_places) (m_end := m_end) (m_joints := m_joints) (m_netPlaces := m_netPlaces) (m_begin := m_begin) (m_finish := m_finish) (m_rounds := m_rounds) (m_sews := m_sews) (m_state := m_state) (h := h)) k_X8_253 ⟨rfl, rfl, (Nat.le_of_ble_eq_true rfl), (Nat.le_of_ble_eq_true rfl)⟩ rfl rfl rfl rfl (Nat.le_of_ble_eq_true rfl) dX8_readRule_35 (fun r_11 _ H locs h hP hD hS => ?_)
            have hP : va_P D vwCl [((ad 22), aI cy 8400 m_next), ((ad 0), oX8 ad m_said m_waved m_places m_end m_joints m_netPlaces m_begin m_finish m_rounds m_sews), ((ad 1), aI cy 112 m_state)] H := hP
            have hD : va_D A [((ad 22), aI cy 8400 m_next), ((ad 0), oX8 ad m_said m_waved m_places m_end m_joints m_netPlaces m_begin m_finish m_rounds m_sews), ((ad 1), aI cy 112 m_state)] := hD
            refine lv_iadd hx hb dX8_readRule_38 ?_
            obtain ⟨hi_12, h⟩ := h
            refine va_iald hx hb hK hP 0 0 rfl rfl hi_12 dX8_readRule_39 ?_
            refine lv_topi (fun x3_13 e_x3_13 => ?_)
            have h := h x3_13 e_x3_13
            refine lv_istore_n (lv' := [(3, .int x3_13), (0, .ref (ad 0)), (1, .int x1), (4, .int x4)]) hx hb dX8_readRule_40 rfl hl (by decide) rfl (fun ls hl => ?_)
            obtain ⟨x4_14, e_x4_14⟩ : ∃ y : Int32, y = x4 + (1 : Int32) := ⟨_, rfl⟩
            refine lv_iinc (v := x4_14) (lv' := [(4, .int x4_14), (3, .int x3_13), (0, .ref (ad 0)), (1, .int x1)]) hx hb dX8_readRule_41 hl (k := 3) rfl (by rw [e_x4_14]; rfl) (by decide) rfl (fun ls hl => ?_)
            have h := h x4_14 e_x4_14
            refine lv_goto (tgt := 5) hx hb dX8_readRule_44 (by decide) ?_
            exact hrc5 x3_13 x4_14 h _ _ _ (hP.sub [1, 2, 0] rfl) (hD.sub [1, 2, 0] (by decide) rfl) hS (lv_sub hl [2, 3, 1, 0] rfl)
    exact key nn x3 x4 h
  unfold wp_X8_readRule at h
  refine lv_iload_n hx hb dX8_readRule_0 rfl (lv_at hl 2 rfl) ?_
  refine lv_istore_n (lv' := [(3, .int x2), (0, .ref (ad 0)), (1, .int x1), (2, .int x2)]) hx hb dX8_readRule_1 rfl hl (by decide) rfl (fun ls hl => ?_)
  refine lv_iconst (v := (0 : Int32)) hx hb dX8_readRule_2 (by decide) ?_
  refine lv_istore (lv' := [(4, .int (0 : Int32)), (3, .int x2), (0, .ref (ad 0)), (1, .int x1), (2, .int x2)]) hx hb dX8_readRule_3 hl (by decide) rfl (fun ls hl => ?_)
  exact hJ5 x1 x2 (0 : Int32)   h _ _ _ hP hD hS (lv_sub hl [2, 3, 1, 0] rfl)
set_option maxHeartbeats 4000000 in
set_option maxRecDepth 100000 in
theorem c_X8_readWord (l : Launch) (D : va_G) (cy : Nat → ClassId) (ad : Nat → Nat) (sz : Nat) (m_said : Int32) (m_waved : Int32) (m_places : Int32) (m_end : Int32) (m_joints : Int32) (m_netPlaces : Int32) (m_begin : Int32) (m_finish : Int32) (m_rounds : Int32) (m_sews : Int32) (m_state : Nat → Int32) (m_next : Nat → Int32) (x1 : Int32) (x2 : Int32) {Q : Int32 → Prop} (h : wp_X8_readWord x1 x2 m_state m_next Q) : Met l yX8_readWord (wsU yX8_readWord cX8_readWord 5 (some .int)) { frames := 0, cells := 0, slots := 0, locals := 0 } (va_Pc [.ref (ad 0), .int x1, .int x2] (zB D vwCl (tyU cy) [((ad 0), oX8 ad m_said m_waved m_places m_end m_joints m_netPlaces m_begin m_finish m_rounds m_sews), ((ad 1), aI cy 112 m_state), ((ad 22), aI cy 8400 m_next)] sz)) ((fun A => va_Qi (fun (r : Int32) (_ : Unit) => Q r ) (zE D vwCl A (fun (_ : Unit) => [((ad 0), oX8 ad m_said m_waved m_places m_end m_joints m_netPlaces m_begin m_finish m_rounds m_sews), ((ad 1), aI cy 112 m_state), ((ad 22), aI cy 8400 m_next)])) A) (va_A [((ad 0), oX8 ad m_said m_waved m_places m_end m_joints m_netPlaces m_begin m_finish m_rounds m_sews), ((ad 1), aI cy 112 m_state), ((ad 22), aI cy 8400 m_next)] sz)) 0 0 (va_A [((ad 0), oX8 ad m_said m_waved m_places m_end m_joints m_netPlaces m_begin m_finish m_rounds m_sews), ((ad 1), aI cy 112 m_state), ((ad 22), aI cy 8400 m_next)] sz) := by
  refine z_ofX (fun A => va_Qi (fun (r : Int32) (_ : Unit) => Q r ) (zE D vwCl A (fun (_ : Unit) => [((ad 0), oX8 ad m_said m_waved m_places m_end m_joints m_netPlaces m_begin m_finish m_rounds m_sews), ((ad 1), aI cy 112 m_state), ((ad 22), aI cy 8400 m_next)])) A) (by decide) (Nat.le_of_ble_eq_true rfl) (fun p e s m below meth c A ls hx hb hr hml hown hts hlocks hK hPW hA hP hD hS hl => ?_)
  have hl : lv_has ls 5 [(0, .ref (ad 0)), (1, .int x1), (2, .int x2)] := hl
  have hown : s.vm.findClass RX8 = some m.cls := hown
  generalize hArg : ([.ref (ad 0), .int x1, .int x2] : List Value).toArray = args at hts ⊢
  have hJ5 : ∀ (x1 : Int32) (x3 : Int32) (x4 : Int32), wp_X8_readWord_5 m_state m_next x1  Q x3 x4 → ∀ (H : Heap) (locs : List Loc) (ls : Array Slot), va_P D vwCl [((ad 0), oX8 ad m_said m_waved m_places m_end m_joints m_netPlaces m_begin m_finish m_rounds m_sews), ((ad 1), aI cy 112 m_state), ((ad 22), aI cy 8400 m_next)] H → va_D A [((ad 0), oX8 ad m_said m_waved m_places m_end m_joints m_netPlaces m_begin m_finish m_rounds m_sews), ((ad 1), aI cy 112 m_state), ((ad 22), aI cy 8400 m_next)] → va_S A s.heap H locs → lv_has ls 5 [(0, .ref (ad 0)), (1, .int x1), (3, .int x3), (4, .int x4)] → W p l e { frames := 0, cells := 0, slots := 0, locals := 0 } s m args below meth c H locs 0 0 (MQ below ((fun A => va_Qi (fun (r : Int32) (_ : Unit) => Q r ) (zE D vwCl A (fun (_ : Unit) => [((ad 0), oX8 ad m_said m_waved m_places m_end m_joints m_netPlaces m_begin m_finish m_rounds m_sews), ((ad 1), aI cy 112 m_state), ((ad 22), aI cy 8400 m_next)])) A) A) args s 0 0 A) (F0 m 5 ls []) := by
    intro x1 x3 x4   h
    obtain ⟨nn, h⟩ := h
    have key : ∀ (nn : Nat) (x3 : Int32) (x4 : Int32), lpW2 (wb_X8_readWord_5 m_state m_next x1  Q) nn x3 x4 → ∀ (H : Heap) (locs : List Loc) (ls : Array Slot), va_P D vwCl [((ad 0), oX8 ad m_said m_waved m_places m_end m_joints m_netPlaces m_begin m_finish m_rounds m_sews), ((ad 1), aI cy 112 m_state), ((ad 22), aI cy 8400 m_next)] H → va_D A [((ad 0), oX8 ad m_said m_waved m_places m_end m_joints m_netPlaces m_begin m_finish m_rounds m_sews), ((ad 1), aI cy 112 m_state), ((ad 22), aI cy 8400 m_next)] → va_S A s.heap H locs → lv_has ls 5 [(0, .ref (ad 0)), (1, .int x1), (3, .int x3), (4, .int x4)] → W p l e { frames := 0, cells := 0, slots := 0, locals := 0 } s m args below meth c H locs 0 0 (MQ below ((fun A => va_Qi (fun (r : Int32) (_ : Unit) => Q r ) (zE D vwCl A (fun (_ : Unit) => [((ad 0), oX8 ad m_said m_waved m_places m_end m_joints m_netPlaces m_begin m_finish m_rounds m_sews), ((ad 1), aI cy 112 m_state), ((ad 22), aI cy 8400 m_next)])) A) A) args s 0 0 A) (F0 m 5 ls []) := by
      intro nn
      induction nn with
      | zero => intro x3 x4 h; exact h.elim
      | succ nn hrc5 =>
        intro x3 x4 h H locs ls hP hD hS hl
        have h : wb_X8_readWord_5 m_state m_next x1  Q (lpW2 (wb_X8_readWord_5 m_state m_next x1  Q) nn) x3 x4 := h
        unfold wb_X8_readWord_5 at h
        refine lv_iload hx hb dX8_readWord_5 (lv_at hl 3 rfl) ?_
        refine lv_aload_n hx hb dX8_readWord_7 rfl (lv_at hl 0 rfl) ?_
        refine va_get (D := D) (ci := 7) (v := .ref (ad 1)) (C := RX8) (T := TX8) (N := 35) hx hb hts iX8 hown hK hP 0 rfl rfl 0 (Nat.le_of_ble_eq_true rfl) (hts _ fl_X8_7) (fun _ h9 => h9) rfl dX8_readWord_8 ?_
        refine lv_bipush (v := (6 : Int32)) hx hb dX8_readWord_11 (by decide) ?_
        refine lv_iload_n hx hb dX8_readWord_13 rfl (lv_at hl 1 rfl) ?_
        refine lv_iadd hx hb dX8_readWord_14 ?_
        obtain ⟨hi_8, h⟩ := h
        refine va_iald hx hb hK hP 1 0 rfl rfl hi_8 dX8_readWord_15 ?_
        refine lv_icmp_ge (tgt := 55) hx hb dX8_readWord_16 (by decide) (fun c_9 => ?_) (fun c_9 => ?_)
        · have h := h.1 c_9
          refine lv_iload_n hx hb dX8_readWord_55 rfl (lv_at hl 2 rfl) ?_
          exact z_iret () hx hb hr hlocks h hP hD hS dX8_readWord_56
        · have h := h.2 c_9
          refine lv_iload_n hx hb dX8_readWord_19 rfl (lv_at hl 2 rfl) ?_
          refine lv_if_lt (tgt := 55) hx hb dX8_readWord_20 (by decide) (fun c_10 => ?_) (fun c_10 => ?_)
          · have h := h.1 c_10
            refine lv_iload_n hx hb dX8_readWord_55 rfl (lv_at hl 2 rfl) ?_
            exact z_iret () hx hb hr hlocks h hP hD hS dX8_readWord_56
          · have h := h.2 c_10
            refine lv_aload_n hx hb dX8_readWord_23 rfl (lv_at hl 0 rfl) ?_
            refine va_get (D := D) (ci := 7) (v := .ref (ad 22)) (C := RX8) (T := TX8) (N := 35) hx hb hts iX8 hown hK hP 0 rfl rfl 30 (Nat.le_of_ble_eq_true rfl) (hts _ fl_X8_75) (fun _ h9 => h9) rfl dX8_readWord_24 ?_
            refine lv_bipush (v := (6 : Int32)) hx hb dX8_readWord_27 (by decide) ?_
            refine lv_iload_n hx hb dX8_readWord_29 rfl (lv_at hl 2 rfl) ?_
            refine lv_imul hx hb dX8_readWord_30 ?_
            refine lv_aload_n hx hb dX8_readWord_31 rfl (lv_at hl 0 rfl) ?_
            refine va_get (D := D) (ci := 7) (v := .ref (ad 1)) (C := RX8) (T := TX8) (N := 35) hx hb hts iX8 hown hK hP 0 rfl rfl 0 (Nat.le_of_ble_eq_true rfl) (hts _ fl_X8_7) (fun _ h9 => h9) rfl dX8_readWord_32 ?_
            refine lv_bipush (v := (10 : Int32)) hx hb dX8_readWord_35 (by decide) ?_
            refine lv_bipush (v := (12 : Int32)) hx hb dX8_readWord_37 (by decide) ?_
            refine lv_iload_n hx hb dX8_readWord_39 rfl (lv_at hl 1 rfl) ?_
            refine lv_imul hx hb dX8_readWord_40 ?_
            refine lv_iadd hx hb dX8_readWord_41 ?_
            refine lv_iload hx hb dX8_readWord_42 (lv_at hl 3 rfl) ?_
            refine lv_iadd hx hb dX8_readWord_44 ?_
            obtain ⟨hi_11, h⟩ := h
            refine va_iald hx hb hK hP 1 0 rfl rfl hi_11 dX8_readWord_45 ?_
            refine lv_iadd hx hb dX8_readWord_46 ?_
            obtain ⟨hi_12, h⟩ := h
            refine va_iald hx hb hK hP 2 0 rfl rfl hi_12 dX8_readWord_47 ?_
            refine lv_topi (fun x3_13 e_x3_13 => ?_)
            have h := h x3_13 e_x3_13
            refine lv_istore_n (lv' := [(3, .int x3_13), (0, .ref (ad 0)), (1, .int x1), (4, .int x4)]) hx hb dX8_readWord_48 rfl hl (by decide) rfl (fun ls hl => ?_)
            obtain ⟨x4_14, e_x4_14⟩ : ∃ y : Int32, y = x4 + (1 : Int32) := ⟨_, rfl⟩
            refine lv_iinc (v := x4_14) (lv' := [(4, .int x4_14), (3, .int x3_13), (0, .ref (ad 0)), (1, .int x1)]) hx hb dX8_readWord_49 hl (k := 3) rfl (by rw [e_x4_14]; rfl) (by decide) rfl (fun ls hl => ?_)
            have h := h x4_14 e_x4_14
            refine lv_goto (tgt := 5) hx hb dX8_readWord_52 (by decide) ?_
            exact hrc5 x3_13 x4_14 h _ _ _ hP hD hS (lv_sub hl [2, 3, 1, 0] rfl)
    exact key nn x3 x4 h
  unfold wp_X8_readWord at h
  refine lv_iload_n hx hb dX8_readWord_0 rfl (lv_at hl 2 rfl) ?_
  refine lv_istore_n (lv' := [(3, .int x2), (0, .ref (ad 0)), (1, .int x1), (2, .int x2)]) hx hb dX8_readWord_1 rfl hl (by decide) rfl (fun ls hl => ?_)
  refine lv_iconst (v := (0 : Int32)) hx hb dX8_readWord_2 (by decide) ?_
  refine lv_istore (lv' := [(4, .int (0 : Int32)), (3, .int x2), (0, .ref (ad 0)), (1, .int x1), (2, .int x2)]) hx hb dX8_readWord_3 hl (by decide) rfl (fun ls hl => ?_)
  exact hJ5 x1 x2 (0 : Int32)   h _ _ _ hP hD hS (lv_sub hl [2, 3, 1, 0] rfl)
set_option maxHeartbeats 4000000 in
set_option maxRecDepth 100000 in
theorem c_X8_laySews (l : Launch) (D : va_G) (cy : Nat → ClassId) (ad : Nat → Nat) (sz : Nat) (m_said : Int32) (m_waved : Int32) (m_places : Int32) (m_end : Int32) (m_joints : Int32) (m_netPlaces : Int32) (m_begin : Int32) (m_finish : Int32) (m_rounds : Int32) (m_sews : Int32) (m_state : Nat → Int32) (m_next : Nat → Int32) (m_sewSide : Nat → Int32) (m_sewFrom : Nat → Int32) (m_sewTo : Nat → Int32) {Q : Int32 → (Nat → Int32) → (Nat → Int32) → (Nat → Int32) → Prop} (h : wp_X8_laySews m_netPlaces m_sews m_state m_next m_sewSide m_sewFrom m_sewTo Q) : Met l yX8_laySews (wsU yX8_laySews cX8_laySews 4 none) { frames := 2, cells := 0, slots := 0, locals := 46 } (va_Pc [.ref (ad 0)] (zB D vwCl (tyU cy) [((ad 0), oX8 ad m_said m_waved m_places m_end m_joints m_netPlaces m_begin m_finish m_rounds m_sews), ((ad 1), aI cy 112 m_state), ((ad 22), aI cy 8400 m_next), ((ad 23), aI cy 96 m_sewSide), ((ad 24), aI cy 96 m_sewFrom), ((ad 25), aI cy 96 m_sewTo)] sz)) ((fun A => va_Qv (fun (u : Int32 × (Nat → Int32) × (Nat → Int32) × (Nat → Int32)) => ∃ (z0 : Int32) (z1 : Nat → Int32) (z2 : Nat → Int32) (z3 : Nat → Int32), u = (z0, z1, z2, z3) ∧ Q z0 z1 z2 z3) (zE D vwCl A (fun (u : Int32 × (Nat → Int32) × (Nat → Int32) × (Nat → Int32)) => [((ad 0), oX8 ad m_said m_waved m_places m_end m_joints m_netPlaces m_begin m_finish m_rounds (u.1)), ((ad 1), aI cy 112 m_state), ((ad 22), aI cy 8400 m_next), ((ad 23), aI cy 96 (u.2.1)), ((ad 24), aI cy 96 (u.2.2.1)), ((ad 25), aI cy 96 (u.2.2.2))])) A) (va_A [((ad 0), oX8 ad m_said m_waved m_places m_end m_joints m_netPlaces m_begin m_finish m_rounds m_sews), ((ad 1), aI cy 112 m_state), ((ad 22), aI cy 8400 m_next), ((ad 23), aI cy 96 m_sewSide), ((ad 24), aI cy 96 m_sewFrom), ((ad 25), aI cy 96 m_sewTo)] sz)) 0 0 (va_A [((ad 0), oX8 ad m_said m_waved m_places m_end m_joints m_netPlaces m_begin m_finish m_rounds m_sews), ((ad 1), aI cy 112 m_state), ((ad 22), aI cy 8400 m_next), ((ad 23), aI cy 96 m_sewSide), ((ad 24), aI cy 96 m_sewFrom), ((ad 25), aI cy 96 m_sewTo)] sz) := by
  refine z_ofX (fun A => va_Qv (fun (u : Int32 × (Nat → Int32) × (Nat → Int32) × (Nat → Int32)) => ∃ (z0 : Int32) (z1 : Nat → Int32) (z2 : Nat → Int32) (z3 : Nat → Int32), u = (z0, z1, z2, z3) ∧ Q z0 z1 z2 z3) (zE D vwCl A (fun (u : Int32 × (Nat → Int32) × (Nat → Int32) × (Nat → Int32)) => [((ad 0), oX8 ad m_said m_waved m_places m_end m_joints m_netPlaces m_begin m_finish m_rounds (u.1)), ((ad 1), aI cy 112 m_state), ((ad 22), aI cy 8400 m_next), ((ad 23), aI cy 96 (u.2.1)), ((ad 24), aI cy 96 (u.2.2.1)), ((ad 25), aI cy 96 (u.2.2.2))])) A) (by decide) (Nat.le_of_ble_eq_true rfl) (fun p e s m below meth c A ls hx hb hr hml hown hts hlocks hK hPW hA hP hD hS hl => ?_)
  have hl : lv_has ls 4 [(0, .ref (ad 0))] := hl
  have hown : s.vm.findClass RX8 = some m.cls := hown
  generalize hArg : ([.ref (ad 0)] : List Value).toArray = args at hts ⊢
  have hJ106 : ∀ (x1 : Int32) (x2 : Int32) (m_sews : Int32) (m_sewSide : Nat → Int32) (m_sewFrom : Nat → Int32) (m_sewTo : Nat → Int32) (rc7 : Int32 → Int32 → (Nat → Int32) → (Nat → Int32) → (Nat → Int32) → Prop) (hrc7 : ∀ (x1 : Int32) (m_sews : Int32) (m_sewSide : Nat → Int32) (m_sewFrom : Nat → Int32) (m_sewTo : Nat → Int32), rc7 x1 m_sews m_sewSide m_sewFrom m_sewTo → ∀ (H : Heap) (locs : List Loc) (ls : Array Slot), va_P D vwCl [((ad 0), oX8 ad m_said m_waved m_places m_end m_joints m_netPlaces m_begin m_finish m_rounds m_sews), ((ad 1), aI cy 112 m_state), ((ad 22), aI cy 8400 m_next), ((ad 23), aI cy 96 m_sewSide), ((ad 24), aI cy 96 m_sewFrom), ((ad 25), aI cy 96 m_sewTo)] H → va_D A [((ad 0), oX8 ad m_said m_waved m_places m_end m_joints m_netPlaces m_begin m_finish m_rounds m_sews), ((ad 1), aI cy 112 m_state), ((ad 22), aI cy 8400 m_next), ((ad 23), aI cy 96 m_sewSide), ((ad 24), aI cy 96 m_sewFrom), ((ad 25), aI cy 96 m_sewTo)] → va_S A s.heap H locs → lv_has ls 4 [(0, .ref (ad 0)), (1, .int x1)] → W p l e { frames := 2, cells := 0, slots := 0, locals := 46 } s m args below meth c H locs 0 0 (MQ below ((fun A => va_Qv (fun (u : Int32 × (Nat → Int32) × (Nat → Int32) × (Nat → Int32)) => ∃ (z0 : Int32) (z1 : Nat → Int32) (z2 : Nat → Int32) (z3 : Nat → Int32), u = (z0, z1, z2, z3) ∧ Q z0 z1 z2 z3) (zE D vwCl A (fun (u : Int32 × (Nat → Int32) × (Nat → Int32) × (Nat → Int32)) => [((ad 0), oX8 ad m_said m_waved m_places m_end m_joints m_netPlaces m_begin m_finish m_rounds (u.1)), ((ad 1), aI cy 112 m_state), ((ad 22), aI cy 8400 m_next), ((ad 23), aI cy 96 (u.2.1)), ((ad 24), aI cy 96 (u.2.2.1)), ((ad 25), aI cy 96 (u.2.2.2))])) A) A) args s 0 0 A) (F0 m 7 ls [])) (rc17 : Int32 → Int32 → (Nat → Int32) → (Nat → Int32) → (Nat → Int32) → Prop) (hrc17 : ∀ (x2 : Int32) (m_sews : Int32) (m_sewSide : Nat → Int32) (m_sewFrom : Nat → Int32) (m_sewTo : Nat → Int32), rc17 x2 m_sews m_sewSide m_sewFrom m_sewTo → ∀ (H : Heap) (locs : List Loc) (ls : Array Slot), va_P D vwCl [((ad 0), oX8 ad m_said m_waved m_places m_end m_joints m_netPlaces m_begin m_finish m_rounds m_sews), ((ad 1), aI cy 112 m_state), ((ad 22), aI cy 8400 m_next), ((ad 23), aI cy 96 m_sewSide), ((ad 24), aI cy 96 m_sewFrom), ((ad 25), aI cy 96 m_sewTo)] H → va_D A [((ad 0), oX8 ad m_said m_waved m_places m_end m_joints m_netPlaces m_begin m_finish m_rounds m_sews), ((ad 1), aI cy 112 m_state), ((ad 22), aI cy 8400 m_next), ((ad 23), aI cy 96 m_sewSide), ((ad 24), aI cy 96 m_sewFrom), ((ad 25), aI cy 96 m_sewTo)] → va_S A s.heap H locs → lv_has ls 4 [(0, .ref (ad 0)), (1, .int x1), (2, .int x2)] → W p l e { frames := 2, cells := 0, slots := 0, locals := 46 } s m args below meth c H locs 0 0 (MQ below ((fun A => va_Qv (fun (u : Int32 × (Nat → Int32) × (Nat → Int32) × (Nat → Int32)) => ∃ (z0 : Int32) (z1 : Nat → Int32) (z2 : Nat → Int32) (z3 : Nat → Int32), u = (z0, z1, z2, z3) ∧ Q z0 z1 z2 z3) (zE D vwCl A (fun (u : Int32 × (Nat → Int32) × (Nat → Int32) × (Nat → Int32)) => [((ad 0), oX8 ad m_said m_waved m_places m_end m_joints m_netPlaces m_begin m_finish m_rounds (u.1)), ((ad 1), aI cy 112 m_state), ((ad 22), aI cy 8400 m_next), ((ad 23), aI cy 96 (u.2.1)), ((ad 24), aI cy 96 (u.2.2.1)), ((ad 25), aI cy 96 (u.2.2.2))])) A) A) args s 0 0 A) (F0 m 17 ls [])), wp_X8_laySews_106 m_netPlaces m_state m_next x1 x2 m_sews m_sewSide m_sewFrom m_sewTo rc7 rc17 Q → ∀ (H : Heap) (locs : List Loc) (ls : Array Slot), va_P D vwCl [((ad 0), oX8 ad m_said m_waved m_places m_end m_joints m_netPlaces m_begin m_finish m_rounds m_sews), ((ad 1), aI cy 112 m_state), ((ad 22), aI cy 8400 m_next), ((ad 23), aI cy 96 m_sewSide), ((ad 24), aI cy 96 m_sewFrom), ((ad 25), aI cy 96 m_sewTo)] H → va_D A [((ad 0), oX8 ad m_said m_waved m_places m_end m_joints m_netPlaces m_begin m_finish m_rounds m_sews), ((ad 1), aI cy 112 m_state), ((ad 22), aI cy 8400 m_next), ((ad 23), aI cy 96 m_sewSide), ((ad 24), aI cy 96 m_sewFrom), ((ad 25), aI cy 96 m_sewTo)] → va_S A s.heap H locs → lv_has ls 4 [(0, .ref (ad 0)), (1, .int x1), (2, .int x2)] → W p l e { frames := 2, cells := 0, slots := 0, locals := 46 } s m args below meth c H locs 0 0 (MQ below ((fun A => va_Qv (fun (u : Int32 × (Nat → Int32) × (Nat → Int32) × (Nat → Int32)) => ∃ (z0 : Int32) (z1 : Nat → Int32) (z2 : Nat → Int32) (z3 : Nat → Int32), u = (z0, z1, z2, z3) ∧ Q z0 z1 z2 z3) (zE D vwCl A (fun (u : Int32 × (Nat → Int32) × (Nat → Int32) × (Nat → Int32)) => [((ad 0), oX8 ad m_said m_waved m_places m_end m_joints m_netPlaces m_begin m_finish m_rounds (u.1)), ((ad 1), aI cy 112 m_state), ((ad 22), aI cy 8400 m_next), ((ad 23), aI cy 96 (u.2.1)), ((ad 24), aI cy 96 (u.2.2.1)), ((ad 25), aI cy 96 (u.2.2.2))])) A) A) args s 0 0 A) (F0 m 106 ls []) := by
    intro x1 x2 m_sews m_sewSide m_sewFrom m_sewTo rc7 hrc7 rc17 hrc17  h H locs ls hP hD hS hl
    unfold wp_X8_laySews_106 at h
    obtain ⟨x2_15, e_x2_15⟩ : ∃ y : Int32, y = x2 + (1 : Int32) := ⟨_, rfl⟩
    refine lv_iinc (v := x2_15) (lv' := [(2, .int x2_15), (0, .ref (ad 0)), (1, .int x1)]) hx hb dX8_laySews_106 hl (k := 2) rfl (by rw [e_x2_15]; rfl) (by decide) rfl (fun ls hl => ?_)
    have h := h x2_15 e_x2_15
    refine lv_goto (tgt := 17) hx hb dX8_laySews_109 (by decide) ?_
    exact hrc17 x2_15 m_sews m_sewSide m_sewFrom m_sewTo h _ _ _ hP hD hS (lv_sub hl [1, 2, 0] rfl)
  have hJ51 : ∀ (x1 : Int32) (x2 : Int32) (t0 : Int32) (m_sews : Int32) (m_sewSide : Nat → Int32) (m_sewFrom : Nat → Int32) (m_sewTo : Nat → Int32) (rc7 : Int32 → Int32 → (Nat → Int32) → (Nat → Int32) → (Nat → Int32) → Prop) (hrc7 : ∀ (x1 : Int32) (m_sews : Int32) (m_sewSide : Nat → Int32) (m_sewFrom : Nat → Int32) (m_sewTo : Nat → Int32), rc7 x1 m_sews m_sewSide m_sewFrom m_sewTo → ∀ (H : Heap) (locs : List Loc) (ls : Array Slot), va_P D vwCl [((ad 0), oX8 ad m_said m_waved m_places m_end m_joints m_netPlaces m_begin m_finish m_rounds m_sews), ((ad 1), aI cy 112 m_state), ((ad 22), aI cy 8400 m_next), ((ad 23), aI cy 96 m_sewSide), ((ad 24), aI cy 96 m_sewFrom), ((ad 25), aI cy 96 m_sewTo)] H → va_D A [((ad 0), oX8 ad m_said m_waved m_places m_end m_joints m_netPlaces m_begin m_finish m_rounds m_sews), ((ad 1), aI cy 112 m_state), ((ad 22), aI cy 8400 m_next), ((ad 23), aI cy 96 m_sewSide), ((ad 24), aI cy 96 m_sewFrom), ((ad 25), aI cy 96 m_sewTo)] → va_S A s.heap H locs → lv_has ls 4 [(0, .ref (ad 0)), (1, .int x1)] → W p l e { frames := 2, cells := 0, slots := 0, locals := 46 } s m args below meth c H locs 0 0 (MQ below ((fun A => va_Qv (fun (u : Int32 × (Nat → Int32) × (Nat → Int32) × (Nat → Int32)) => ∃ (z0 : Int32) (z1 : Nat → Int32) (z2 : Nat → Int32) (z3 : Nat → Int32), u = (z0, z1, z2, z3) ∧ Q z0 z1 z2 z3) (zE D vwCl A (fun (u : Int32 × (Nat → Int32) × (Nat → Int32) × (Nat → Int32)) => [((ad 0), oX8 ad m_said m_waved m_places m_end m_joints m_netPlaces m_begin m_finish m_rounds (u.1)), ((ad 1), aI cy 112 m_state), ((ad 22), aI cy 8400 m_next), ((ad 23), aI cy 96 (u.2.1)), ((ad 24), aI cy 96 (u.2.2.1)), ((ad 25), aI cy 96 (u.2.2.2))])) A) A) args s 0 0 A) (F0 m 7 ls [])) (rc17 : Int32 → Int32 → (Nat → Int32) → (Nat → Int32) → (Nat → Int32) → Prop) (hrc17 : ∀ (x2 : Int32) (m_sews : Int32) (m_sewSide : Nat → Int32) (m_sewFrom : Nat → Int32) (m_sewTo : Nat → Int32), rc17 x2 m_sews m_sewSide m_sewFrom m_sewTo → ∀ (H : Heap) (locs : List Loc) (ls : Array Slot), va_P D vwCl [((ad 0), oX8 ad m_said m_waved m_places m_end m_joints m_netPlaces m_begin m_finish m_rounds m_sews), ((ad 1), aI cy 112 m_state), ((ad 22), aI cy 8400 m_next), ((ad 23), aI cy 96 m_sewSide), ((ad 24), aI cy 96 m_sewFrom), ((ad 25), aI cy 96 m_sewTo)] H → va_D A [((ad 0), oX8 ad m_said m_waved m_places m_end m_joints m_netPlaces m_begin m_finish m_rounds m_sews), ((ad 1), aI cy 112 m_state), ((ad 22), aI cy 8400 m_next), ((ad 23), aI cy 96 m_sewSide), ((ad 24), aI cy 96 m_sewFrom), ((ad 25), aI cy 96 m_sewTo)] → va_S A s.heap H locs → lv_has ls 4 [(0, .ref (ad 0)), (1, .int x1), (2, .int x2)] → W p l e { frames := 2, cells := 0, slots := 0, locals := 46 } s m args below meth c H locs 0 0 (MQ below ((fun A => va_Qv (fun (u : Int32 × (Nat → Int32) × (Nat → Int32) × (Nat → Int32)) => ∃ (z0 : Int32) (z1 : Nat → Int32) (z2 : Nat → Int32) (z3 : Nat → Int32), u = (z0, z1, z2, z3) ∧ Q z0 z1 z2 z3) (zE D vwCl A (fun (u : Int32 × (Nat → Int32) × (Nat → Int32) × (Nat → Int32)) => [((ad 0), oX8 ad m_said m_waved m_places m_end m_joints m_netPlaces m_begin m_finish m_rounds (u.1)), ((ad 1), aI cy 112 m_state), ((ad 22), aI cy 8400 m_next), ((ad 23), aI cy 96 (u.2.1)), ((ad 24), aI cy 96 (u.2.2.1)), ((ad 25), aI cy 96 (u.2.2.2))])) A) A) args s 0 0 A) (F0 m 17 ls [])), wp_X8_laySews_51 m_netPlaces m_state m_next x1 x2 t0 m_sews m_sewSide m_sewFrom m_sewTo rc7 rc17 Q → ∀ (H : Heap) (locs : List Loc) (ls : Array Slot), va_P D vwCl [((ad 0), oX8 ad m_said m_waved m_places m_end m_joints m_netPlaces m_begin m_finish m_rounds m_sews), ((ad 1), aI cy 112 m_state), ((ad 22), aI cy 8400 m_next), ((ad 23), aI cy 96 m_sewSide), ((ad 24), aI cy 96 m_sewFrom), ((ad 25), aI cy 96 m_sewTo)] H → va_D A [((ad 0), oX8 ad m_said m_waved m_places m_end m_joints m_netPlaces m_begin m_finish m_rounds m_sews), ((ad 1), aI cy 112 m_state), ((ad 22), aI cy 8400 m_next), ((ad 23), aI cy 96 m_sewSide), ((ad 24), aI cy 96 m_sewFrom), ((ad 25), aI cy 96 m_sewTo)] → va_S A s.heap H locs → lv_has ls 4 [(0, .ref (ad 0)), (1, .int x1), (2, .int x2)] → W p l e { frames := 2, cells := 0, slots := 0, locals := 46 } s m args below meth c H locs 0 0 (MQ below ((fun A => va_Qv (fun (u : Int32 × (Nat → Int32) × (Nat → Int32) × (Nat → Int32)) => ∃ (z0 : Int32) (z1 : Nat → Int32) (z2 : Nat → Int32) (z3 : Nat → Int32), u = (z0, z1, z2, z3) ∧ Q z0 z1 z2 z3) (zE D vwCl A (fun (u : Int32 × (Nat → Int32) × (Nat → Int32) × (Nat → Int32)) => [((ad 0), oX8 ad m_said m_waved m_places m_end m_joints m_netPlaces m_begin m_finish m_rounds (u.1)), ((ad 1), aI cy 112 m_state), ((ad 22), aI cy 8400 m_next), ((ad 23), aI cy 96 (u.2.1)), ((ad 24), aI cy 96 (u.2.2.1)), ((ad 25), aI cy 96 (u.2.2.2))])) A) A) args s 0 0 A) (F0 m 51 ls [.int t0]) := by
    intro x1 x2 t0 m_sews m_sewSide m_sewFrom m_sewTo rc7 hrc7 rc17 hrc17  h H locs ls hP hD hS hl
    unfold wp_X8_laySews_51 at h
    refine lv_istore_n (lv' := [(3, .int t0), (0, .ref (ad 0)), (1, .int x1), (2, .int x2)]) hx hb dX8_laySews_51 rfl hl (by decide) rfl (fun ls hl => ?_)
    refine lv_iload_n hx hb dX8_laySews_52 rfl (lv_at hl 0 rfl) ?_
    refine lv_if_lt (tgt := 106) hx hb dX8_laySews_53 (by decide) (fun c_16 => ?_) (fun c_16 => ?_)
    · have h := h.1 c_16
      exact hJ106 x1 x2 m_sews m_sewSide m_sewFrom m_sewTo _ hrc7 _ hrc17  h _ _ _ hP hD hS (lv_sub hl [1, 2, 3] rfl)
    · have h := h.2 c_16
      refine lv_aload_n hx hb dX8_laySews_56 rfl (lv_at hl 1 rfl) ?_
      refine lv_iload_n hx hb dX8_laySews_57 rfl (lv_at hl 3 rfl) ?_
      refine lv_iload_n hx hb dX8_laySews_58 rfl (lv_at hl 2 rfl) ?_
      refine zc_Vi (As := [.int x2, .int x1]) (rest := []) (wc := [((ad 0), oX8 ad m_said m_waved m_places m_end m_joints m_netPlaces m_begin m_finish m_rounds m_sews), ((ad 1), aI cy 112 m_state), ((ad 22), aI cy 8400 m_next)]) (wr := [((ad 23), aI cy 96 m_sewSide), ((ad 24), aI cy 96 m_sewFrom), ((ad 25), aI cy 96 m_sewTo)]) hx hb hml hown hts hK hPW hA hl.1 hP hD hS ⟨Nat.zero_le _, Nat.zero_le _⟩ [0, 1, 2] [3, 4, 5] rfl rfl (by decide) (c_X8_readRule l D cy (sz := _) (x1 := x2) (x2 := x1) (ad := ad) (m_said := m_said) (m_waved := m_waved) (m_places := m_places) (m_end := m_end) (m_joints := m_joints) (m_netPlaces := m_netPlaces) (m_begin := m_begin) (m_finish := m_finish) (m_rounds := m_rounds) (m_sews := m_sews) (m_state := m_state) (m_next := m_next) (h := h)) k_X8_259 ⟨rfl, rfl, (Nat.le_of_ble_eq_true rfl), (Nat.le_of_ble_eq_true rfl)⟩ rfl rfl rfl rfl (Nat.le_of_ble_eq_true rfl) dX8_laySews_59 (fun r_17 _ H locs h hP hD hS => ?_)
      have hP : va_P D vwCl [((ad 23), aI cy 96 m_sewSide), ((ad 24), aI cy 96 m_sewFrom), ((ad 25), aI cy 96 m_sewTo), ((ad 0), oX8 ad m_said m_waved m_places m_end m_joints m_netPlaces m_begin m_finish m_rounds m_sews), ((ad 1), aI cy 112 m_state), ((ad 22), aI cy 8400 m_next)] H := hP
      have hD : va_D A [((ad 23), aI cy 96 m_sewSide), ((ad 24), aI cy 96 m_sewFrom), ((ad 25), aI cy 96 m_sewTo), ((ad 0), oX8 ad m_said m_waved m_places m_end m_joints m_netPlaces m_begin m_finish m_rounds m_sews), ((ad 1), aI cy 112 m_state), ((ad 22), aI cy 8400 m_next)] := hD
      refine lv_iload_n hx hb dX8_laySews_62 rfl (lv_at hl 0 rfl) ?_
      refine lv_icmp_eq (tgt := 106) hx hb dX8_laySews_63 (by decide) (fun c_18 => ?_) (fun c_18 => ?_)
      · have h := h.1 c_18
        exact hJ106 x1 x2 m_sews m_sewSide m_sewFrom m_sewTo _ hrc7 _ hrc17  h _ _ _ (hP.sub [3, 4, 5, 0, 1, 2] rfl) (hD.sub [3, 4, 5, 0, 1, 2] (by decide) rfl) hS (lv_sub hl [1, 2, 3] rfl)
      · have h := h.2 c_18
        refine lv_aload_n hx hb dX8_laySews_66 rfl (lv_at hl 1 rfl) ?_
        refine va_get (D := D) (ci := 7) (v := .ref (ad 23)) (C := RX8) (T := TX8) (N := 35) hx hb hts iX8 hown hK hP 3 rfl rfl 31 (Nat.le_of_ble_eq_true rfl) (hts _ fl_X8_78) (fun _ h9 => h9) rfl dX8_laySews_67 ?_
        refine lv_aload_n hx hb dX8_laySews_70 rfl (lv_at hl 1 rfl) ?_
        refine va_get (D := D) (ci := 7) (v := .int m_sews) (C := RX8) (T := TX8) (N := 35) hx hb hts iX8 hown hK hP 3 rfl rfl 34 (Nat.le_of_ble_eq_true rfl) (hts _ fl_X8_256) (fun _ h9 => h9) rfl dX8_laySews_71 ?_
        refine lv_iload_n hx hb dX8_laySews_74 rfl (lv_at hl 3 rfl) ?_
        obtain ⟨hi_19, h⟩ := h
        refine va_iast hx hb hK hP hD hS 0 0 rfl rfl hi_19 dX8_laySews_75 (fun H locs hP hD hS => ?_)
        have hP : va_P D vwCl [((ad 23), aI cy 96 (upd m_sewSide m_sews.toNatClampNeg x2)), ((ad 24), aI cy 96 m_sewFrom), ((ad 25), aI cy 96 m_sewTo), ((ad 0), oX8 ad m_said m_waved m_places m_end m_joints m_netPlaces m_begin m_finish m_rounds m_sews), ((ad 1), aI cy 112 m_state), ((ad 22), aI cy 8400 m_next)] H := hP
        have hD : va_D A [((ad 23), aI cy 96 (upd m_sewSide m_sews.toNatClampNeg x2)), ((ad 24), aI cy 96 m_sewFrom), ((ad 25), aI cy 96 m_sewTo), ((ad 0), oX8 ad m_said m_waved m_places m_end m_joints m_netPlaces m_begin m_finish m_rounds m_sews), ((ad 1), aI cy 112 m_state), ((ad 22), aI cy 8400 m_next)] := hD
        refine lv_aload_n hx hb dX8_laySews_76 rfl (lv_at hl 1 rfl) ?_
        refine va_get (D := D) (ci := 7) (v := .ref (ad 24)) (C := RX8) (T := TX8) (N := 35) hx hb hts iX8 hown hK hP 3 rfl rfl 32 (Nat.le_of_ble_eq_true rfl) (hts _ fl_X8_81) (fun _ h9 => h9) rfl dX8_laySews_77 ?_
        refine lv_aload_n hx hb dX8_laySews_80 rfl (lv_at hl 1 rfl) ?_
        refine va_get (D := D) (ci := 7) (v := .int m_sews) (C := RX8) (T := TX8) (N := 35) hx hb hts iX8 hown hK hP 3 rfl rfl 34 (Nat.le_of_ble_eq_true rfl) (hts _ fl_X8_256) (fun _ h9 => h9) rfl dX8_laySews_81 ?_
        refine lv_iload_n hx hb dX8_laySews_84 rfl (lv_at hl 2 rfl) ?_
        obtain ⟨hi_20, h⟩ := h
        refine va_iast hx hb hK hP hD hS 1 0 rfl rfl hi_20 dX8_laySews_85 (fun H locs hP hD hS => ?_)
        have hP : va_P D vwCl [((ad 23), aI cy 96 (upd m_sewSide m_sews.toNatClampNeg x2)), ((ad 24), aI cy 96 (upd m_sewFrom m_sews.toNatClampNeg x1)), ((ad 25), aI cy 96 m_sewTo), ((ad 0), oX8 ad m_said m_waved m_places m_end m_joints m_netPlaces m_begin m_finish m_rounds m_sews), ((ad 1), aI cy 112 m_state), ((ad 22), aI cy 8400 m_next)] H := hP
        have hD : va_D A [((ad 23), aI cy 96 (upd m_sewSide m_sews.toNatClampNeg x2)), ((ad 24), aI cy 96 (upd m_sewFrom m_sews.toNatClampNeg x1)), ((ad 25), aI cy 96 m_sewTo), ((ad 0), oX8 ad m_said m_waved m_places m_end m_joints m_netPlaces m_begin m_finish m_rounds m_sews), ((ad 1), aI cy 112 m_state), ((ad 22), aI cy 8400 m_next)] := hD
        refine lv_aload_n hx hb dX8_laySews_86 rfl (lv_at hl 1 rfl) ?_
        refine va_get (D := D) (ci := 7) (v := .ref (ad 25)) (C := RX8) (T := TX8) (N := 35) hx hb hts iX8 hown hK hP 3 rfl rfl 33 (Nat.le_of_ble_eq_true rfl) (hts _ fl_X8_84) (fun _ h9 => h9) rfl dX8_laySews_87 ?_
        refine lv_aload_n hx hb dX8_laySews_90 rfl (lv_at hl 1 rfl) ?_
        refine va_get (D := D) (ci := 7) (v := .int m_sews) (C := RX8) (T := TX8) (N := 35) hx hb hts iX8 hown hK hP 3 rfl rfl 34 (Nat.le_of_ble_eq_true rfl) (hts _ fl_X8_256) (fun _ h9 => h9) rfl dX8_laySews_91 ?_
        refine lv_iload_n hx hb dX8_laySews_94 rfl (lv_at hl 0 rfl) ?_
        obtain ⟨hi_21, h⟩ := h
        refine va_iast hx hb hK hP hD hS 2 0 rfl rfl hi_21 dX8_laySews_95 (fun H locs hP hD hS => ?_)
        have hP : va_P D vwCl [((ad 23), aI cy 96 (upd m_sewSide m_sews.toNatClampNeg x2)), ((ad 24), aI cy 96 (upd m_sewFrom m_sews.toNatClampNeg x1)), ((ad 25), aI cy 96 (upd m_sewTo m_sews.toNatClampNeg t0)), ((ad 0), oX8 ad m_said m_waved m_places m_end m_joints m_netPlaces m_begin m_finish m_rounds m_sews), ((ad 1), aI cy 112 m_state), ((ad 22), aI cy 8400 m_next)] H := hP
        have hD : va_D A [((ad 23), aI cy 96 (upd m_sewSide m_sews.toNatClampNeg x2)), ((ad 24), aI cy 96 (upd m_sewFrom m_sews.toNatClampNeg x1)), ((ad 25), aI cy 96 (upd m_sewTo m_sews.toNatClampNeg t0)), ((ad 0), oX8 ad m_said m_waved m_places m_end m_joints m_netPlaces m_begin m_finish m_rounds m_sews), ((ad 1), aI cy 112 m_state), ((ad 22), aI cy 8400 m_next)] := hD
        refine lv_aload_n hx hb dX8_laySews_96 rfl (lv_at hl 1 rfl) ?_
        refine lv_dup hx hb dX8_laySews_97 rfl ?_
        refine va_get (D := D) (ci := 7) (v := .int m_sews) (C := RX8) (T := TX8) (N := 35) hx hb hts iX8 hown hK hP 3 rfl rfl 34 (Nat.le_of_ble_eq_true rfl) (hts _ fl_X8_256) (fun _ h9 => h9) rfl dX8_laySews_98 ?_
        refine lv_iconst (v := (1 : Int32)) hx hb dX8_laySews_101 (by decide) ?_
        refine lv_iadd hx hb dX8_laySews_102 ?_
        refine va_put (D := D) (ci := 7) (v := .int (m_sews + (1 : Int32))) (ty := .int) (C := RX8) (T := TX8) (N := 35) hx hb hts iX8 tyX8 tyX8_ok nmX8 hown hK hP hD hS 3 rfl rfl 34 (Nat.le_of_ble_eq_true rfl) (hts _ fl_X8_256) (fun _ h9 => h9) rfl (by decide +kernel) rfl rfl (Nat.le_of_ble_eq_true rfl) dX8_laySews_103 (fun H locs hP hD hS => ?_)
        have hP : va_P D vwCl [((ad 23), aI cy 96 (upd m_sewSide m_sews.toNatClampNeg x2)), ((ad 24), aI cy 96 (upd m_sewFrom m_sews.toNatClampNeg x1)), ((ad 25), aI cy 96 (upd m_sewTo m_sews.toNatClampNeg t0)), ((ad 0), oX8 ad m_said m_waved m_places m_end m_joints m_netPlaces m_begin m_finish m_rounds (m_sews + (1 : Int32))), ((ad 1), aI cy 112 m_state), ((ad 22), aI cy 8400 m_next)] H := hP
        have hD : va_D A [((ad 23), aI cy 96 (upd m_sewSide m_sews.toNatClampNeg x2)), ((ad 24), aI cy 96 (upd m_sewFrom m_sews.toNatClampNeg x1)), ((ad 25), aI cy 96 (upd m_sewTo m_sews.toNatClampNeg t0)), ((ad 0), oX8 ad m_said m_waved m_places m_end m_joints m_netPlaces m_begin m_finish m_rounds (m_sews + (1 : Int32))), ((ad 1), aI cy 112 m_state), ((ad 22), aI cy 8400 m_next)] := hD
        exact hJ106 x1 x2 (m_sews + (1 : Int32)) (upd m_sewSide m_sews.toNatClampNeg x2) (upd m_sewFrom m_sews.toNatClampNeg x1) (upd m_sewTo m_sews.toNatClampNeg t0) _ hrc7 _ hrc17  h _ _ _ (hP.sub [3, 4, 5, 0, 1, 2] rfl) (hD.sub [3, 4, 5, 0, 1, 2] (by decide) rfl) hS (lv_sub hl [1, 2, 3] rfl)
  have hJ17 : ∀ (x1 : Int32) (x2 : Int32) (m_sews : Int32) (m_sewSide : Nat → Int32) (m_sewFrom : Nat → Int32) (m_sewTo : Nat → Int32) (rc7 : Int32 → Int32 → (Nat → Int32) → (Nat → Int32) → (Nat → Int32) → Prop) (hrc7 : ∀ (x1 : Int32) (m_sews : Int32) (m_sewSide : Nat → Int32) (m_sewFrom : Nat → Int32) (m_sewTo : Nat → Int32), rc7 x1 m_sews m_sewSide m_sewFrom m_sewTo → ∀ (H : Heap) (locs : List Loc) (ls : Array Slot), va_P D vwCl [((ad 0), oX8 ad m_said m_waved m_places m_end m_joints m_netPlaces m_begin m_finish m_rounds m_sews), ((ad 1), aI cy 112 m_state), ((ad 22), aI cy 8400 m_next), ((ad 23), aI cy 96 m_sewSide), ((ad 24), aI cy 96 m_sewFrom), ((ad 25), aI cy 96 m_sewTo)] H → va_D A [((ad 0), oX8 ad m_said m_waved m_places m_end m_joints m_netPlaces m_begin m_finish m_rounds m_sews), ((ad 1), aI cy 112 m_state), ((ad 22), aI cy 8400 m_next), ((ad 23), aI cy 96 m_sewSide), ((ad 24), aI cy 96 m_sewFrom), ((ad 25), aI cy 96 m_sewTo)] → va_S A s.heap H locs → lv_has ls 4 [(0, .ref (ad 0)), (1, .int x1)] → W p l e { frames := 2, cells := 0, slots := 0, locals := 46 } s m args below meth c H locs 0 0 (MQ below ((fun A => va_Qv (fun (u : Int32 × (Nat → Int32) × (Nat → Int32) × (Nat → Int32)) => ∃ (z0 : Int32) (z1 : Nat → Int32) (z2 : Nat → Int32) (z3 : Nat → Int32), u = (z0, z1, z2, z3) ∧ Q z0 z1 z2 z3) (zE D vwCl A (fun (u : Int32 × (Nat → Int32) × (Nat → Int32) × (Nat → Int32)) => [((ad 0), oX8 ad m_said m_waved m_places m_end m_joints m_netPlaces m_begin m_finish m_rounds (u.1)), ((ad 1), aI cy 112 m_state), ((ad 22), aI cy 8400 m_next), ((ad 23), aI cy 96 (u.2.1)), ((ad 24), aI cy 96 (u.2.2.1)), ((ad 25), aI cy 96 (u.2.2.2))])) A) A) args s 0 0 A) (F0 m 7 ls [])), wp_X8_laySews_17 m_netPlaces m_state m_next x1 rc7 Q x2 m_sews m_sewSide m_sewFrom m_sewTo → ∀ (H : Heap) (locs : List Loc) (ls : Array Slot), va_P D vwCl [((ad 0), oX8 ad m_said m_waved m_places m_end m_joints m_netPlaces m_begin m_finish m_rounds m_sews), ((ad 1), aI cy 112 m_state), ((ad 22), aI cy 8400 m_next), ((ad 23), aI cy 96 m_sewSide), ((ad 24), aI cy 96 m_sewFrom), ((ad 25), aI cy 96 m_sewTo)] H → va_D A [((ad 0), oX8 ad m_said m_waved m_places m_end m_joints m_netPlaces m_begin m_finish m_rounds m_sews), ((ad 1), aI cy 112 m_state), ((ad 22), aI cy 8400 m_next), ((ad 23), aI cy 96 m_sewSide), ((ad 24), aI cy 96 m_sewFrom), ((ad 25), aI cy 96 m_sewTo)] → va_S A s.heap H locs → lv_has ls 4 [(0, .ref (ad 0)), (1, .int x1), (2, .int x2)] → W p l e { frames := 2, cells := 0, slots := 0, locals := 46 } s m args below meth c H locs 0 0 (MQ below ((fun A => va_Qv (fun (u : Int32 × (Nat → Int32) × (Nat → Int32) × (Nat → Int32)) => ∃ (z0 : Int32) (z1 : Nat → Int32) (z2 : Nat → Int32) (z3 : Nat → Int32), u = (z0, z1, z2, z3) ∧ Q z0 z1 z2 z3) (zE D vwCl A (fun (u : Int32 × (Nat → Int32) × (Nat → Int32) × (Nat → Int32)) => [((ad 0), oX8 ad m_said m_waved m_places m_end m_joints m_netPlaces m_begin m_finish m_rounds (u.1)), ((ad 1), aI cy 112 m_state), ((ad 22), aI cy 8400 m_next), ((ad 23), aI cy 96 (u.2.1)), ((ad 24), aI cy 96 (u.2.2.1)), ((ad 25), aI cy 96 (u.2.2.2))])) A) A) args s 0 0 A) (F0 m 17 ls []) := by
    intro x1 x2 m_sews m_sewSide m_sewFrom m_sewTo rc7 hrc7  h
    obtain ⟨nn, h⟩ := h
    have key : ∀ (nn : Nat) (x2 : Int32) (m_sews : Int32) (m_sewSide : Nat → Int32) (m_sewFrom : Nat → Int32) (m_sewTo : Nat → Int32), lpW5 (wb_X8_laySews_17 m_netPlaces m_state m_next x1 rc7 Q) nn x2 m_sews m_sewSide m_sewFrom m_sewTo → ∀ (H : Heap) (locs : List Loc) (ls : Array Slot), va_P D vwCl [((ad 0), oX8 ad m_said m_waved m_places m_end m_joints m_netPlaces m_begin m_finish m_rounds m_sews), ((ad 1), aI cy 112 m_state), ((ad 22), aI cy 8400 m_next), ((ad 23), aI cy 96 m_sewSide), ((ad 24), aI cy 96 m_sewFrom), ((ad 25), aI cy 96 m_sewTo)] H → va_D A [((ad 0), oX8 ad m_said m_waved m_places m_end m_joints m_netPlaces m_begin m_finish m_rounds m_sews), ((ad 1), aI cy 112 m_state), ((ad 22), aI cy 8400 m_next), ((ad 23), aI cy 96 m_sewSide), ((ad 24), aI cy 96 m_sewFrom), ((ad 25), aI cy 96 m_sewTo)] → va_S A s.heap H locs → lv_has ls 4 [(0, .ref (ad 0)), (1, .int x1), (2, .int x2)] → W p l e { frames := 2, cells := 0, slots := 0, locals := 46 } s m args below meth c H locs 0 0 (MQ below ((fun A => va_Qv (fun (u : Int32 × (Nat → Int32) × (Nat → Int32) × (Nat → Int32)) => ∃ (z0 : Int32) (z1 : Nat → Int32) (z2 : Nat → Int32) (z3 : Nat → Int32), u = (z0, z1, z2, z3) ∧ Q z0 z1 z2 z3) (zE D vwCl A (fun (u : Int32 × (Nat → Int32) × (Nat → Int32) × (Nat → Int32)) => [((ad 0), oX8 ad m_said m_waved m_places m_end m_joints m_netPlaces m_begin m_finish m_rounds (u.1)), ((ad 1), aI cy 112 m_state), ((ad 22), aI cy 8400 m_next), ((ad 23), aI cy 96 (u.2.1)), ((ad 24), aI cy 96 (u.2.2.1)), ((ad 25), aI cy 96 (u.2.2.2))])) A) A) args s 0 0 A) (F0 m 17 ls []) := by
      intro nn
      induction nn with
      | zero => intro x2 m_sews m_sewSide m_sewFrom m_sewTo h; exact h.elim
      | succ nn hrc17 =>
        intro x2 m_sews m_sewSide m_sewFrom m_sewTo h H locs ls hP hD hS hl
        have h : wb_X8_laySews_17 m_netPlaces m_state m_next x1 rc7 Q (lpW5 (wb_X8_laySews_17 m_netPlaces m_state m_next x1 rc7 Q) nn) x2 m_sews m_sewSide m_sewFrom m_sewTo := h
        unfold wb_X8_laySews_17 at h
        refine lv_iload_n hx hb dX8_laySews_17 rfl (lv_at hl 2 rfl) ?_
        refine lv_iconst (v := (4 : Int32)) hx hb dX8_laySews_18 (by decide) ?_
        refine lv_icmp_ge (tgt := 112) hx hb dX8_laySews_19 (by decide) (fun c_22 => ?_) (fun c_22 => ?_)
        · have h := h.1 c_22
          obtain ⟨x1_23, e_x1_23⟩ : ∃ y : Int32, y = x1 + (1 : Int32) := ⟨_, rfl⟩
          refine lv_iinc (v := x1_23) (lv' := [(1, .int x1_23), (0, .ref (ad 0)), (2, .int x2)]) hx hb dX8_laySews_112 hl (k := 1) rfl (by rw [e_x1_23]; rfl) (by decide) rfl (fun ls hl => ?_)
          have h := h x1_23 e_x1_23
          refine lv_goto (tgt := 7) hx hb dX8_laySews_115 (by decide) ?_
          exact hrc7 x1_23 m_sews m_sewSide m_sewFrom m_sewTo h _ _ _ hP hD hS (lv_sub hl [1, 0] rfl)
        · have h := h.2 c_22
          refine lv_aload_n hx hb dX8_laySews_22 rfl (lv_at hl 0 rfl) ?_
          refine va_get (D := D) (ci := 7) (v := .ref (ad 1)) (C := RX8) (T := TX8) (N := 35) hx hb hts iX8 hown hK hP 0 rfl rfl 0 (Nat.le_of_ble_eq_true rfl) (hts _ fl_X8_7) (fun _ h9 => h9) rfl dX8_laySews_23 ?_
          refine lv_bipush (v := (58 : Int32)) hx hb dX8_laySews_26 (by decide) ?_
          refine lv_iload_n hx hb dX8_laySews_28 rfl (lv_at hl 2 rfl) ?_
          refine lv_iconst (v := (2 : Int32)) hx hb dX8_laySews_29 (by decide) ?_
          refine lv_idiv hx hb dX8_laySews_30 (by decide) ?_
          refine lv_iadd hx hb dX8_laySews_31 ?_
          obtain ⟨hi_24, h⟩ := h
          refine va_iald hx hb hK hP 1 0 rfl rfl hi_24 dX8_laySews_32 ?_
          refine lv_iconst (v := (1 : Int32)) hx hb dX8_laySews_33 (by decide) ?_
          refine lv_icmp_ne (tgt := 49) hx hb dX8_laySews_34 (by decide) (fun c_25 => ?_) (fun c_25 => ?_)
          · have h := h.1 c_25
            refine lv_bipush (v := (-6 : Int32)) hx hb dX8_laySews_49 (by decide) ?_
            exact hJ51 x1 x2 (-6 : Int32) m_sews m_sewSide m_sewFrom m_sewTo _ hrc7 _ hrc17  h _ _ _ hP hD hS (lv_sub hl [0, 1, 2] rfl)
          · have h := h.2 c_25
            refine lv_aload_n hx hb dX8_laySews_37 rfl (lv_at hl 0 rfl) ?_
            refine lv_iload_n hx hb dX8_laySews_38 rfl (lv_at hl 2 rfl) ?_
            refine zc_S0 (As := [.int x2]) (rest := [.ref (ad 0)]) hx hb hml hown hts hK hPW hA hl.1 hP hS ⟨Nat.zero_le _, Nat.zero_le _⟩ (c_X8_undone l D cy (sz := _) (x0 := x2) (h := h)) k_X8_207 ⟨rfl, rfl, (Nat.le_of_ble_eq_true rfl), (Nat.le_of_ble_eq_true rfl)⟩ rfl rfl (Nat.le_of_ble_eq_true rfl) dX8_laySews_39 (fun r_26 H locs h hP hS => ?_)
            refine lv_iload_n hx hb dX8_laySews_42 rfl (lv_at hl 1 rfl) ?_
            refine zc_Vi (As := [.int r_26, .int x1]) (rest := []) (wc := [((ad 0), oX8 ad m_said m_waved m_places m_end m_joints m_netPlaces m_begin m_finish m_rounds m_sews), ((ad 1), aI cy 112 m_state), ((ad 22), aI cy 8400 m_next)]) (wr := [((ad 23), aI cy 96 m_sewSide), ((ad 24), aI cy 96 m_sewFrom), ((ad 25), aI cy 96 m_sewTo)]) hx hb hml hown hts hK hPW hA hl.1 hP hD hS ⟨Nat.zero_le _, Nat.zero_le _⟩ [0, 1, 2] [3, 4, 5] rfl rfl (by decide) (c_X8_readRule l D cy (sz := _) (x1 := r_26) (x2 := x1) (ad := ad) (m_said := m_said) (m_waved := m_waved) (m_places := m_places) (m_end := m_end) (m_joints := m_joints) (m_netPlaces := m_netPlaces) (m_begin := m_begin) (m_finish := m_finish) (m_rounds := m_rounds) (m_sews := m_sews) (m_state := m_state) (m_next := m_next) (h := h)) k_X8_259 ⟨rfl, rfl, (Nat.le_of_ble_eq_true rfl), (Nat.le_of_ble_eq_true rfl)⟩ rfl rfl rfl rfl (Nat.le_of_ble_eq_true rfl) dX8_laySews_43 (fun r_27 _ H locs h hP hD hS => ?_)
            have hP : va_P D vwCl [((ad 23), aI cy 96 m_sewSide), ((ad 24), aI cy 96 m_sewFrom), ((ad 25), aI cy 96 m_sewTo), ((ad 0), oX8 ad m_said m_waved m_places m_end m_joints m_netPlaces m_begin m_finish m_rounds m_sews), ((ad 1), aI cy 112 m_state), ((ad 22), aI cy 8400 m_next)] H := hP
            have hD : va_D A [((ad 23), aI cy 96 m_sewSide), ((ad 24), aI cy 96 m_sewFrom), ((ad 25), aI cy 96 m_sewTo), ((ad 0), oX8 ad m_said m_waved m_places m_end m_joints m_netPlaces m_begin m_finish m_rounds m_sews), ((ad 1), aI cy 112 m_state), ((ad 22), aI cy 8400 m_next)] := hD
            refine lv_goto (tgt := 51) hx hb dX8_laySews_46 (by decide) ?_
            exact hJ51 x1 x2 r_27 m_sews m_sewSide m_sewFrom m_sewTo _ hrc7 _ hrc17  h _ _ _ (hP.sub [3, 4, 5, 0, 1, 2] rfl) (hD.sub [3, 4, 5, 0, 1, 2] (by decide) rfl) hS (lv_sub hl [0, 1, 2] rfl)
    exact key nn x2 m_sews m_sewSide m_sewFrom m_sewTo h
  have hJ7 : ∀ (x1 : Int32) (m_sews : Int32) (m_sewSide : Nat → Int32) (m_sewFrom : Nat → Int32) (m_sewTo : Nat → Int32), wp_X8_laySews_7 m_netPlaces m_state m_next  Q x1 m_sews m_sewSide m_sewFrom m_sewTo → ∀ (H : Heap) (locs : List Loc) (ls : Array Slot), va_P D vwCl [((ad 0), oX8 ad m_said m_waved m_places m_end m_joints m_netPlaces m_begin m_finish m_rounds m_sews), ((ad 1), aI cy 112 m_state), ((ad 22), aI cy 8400 m_next), ((ad 23), aI cy 96 m_sewSide), ((ad 24), aI cy 96 m_sewFrom), ((ad 25), aI cy 96 m_sewTo)] H → va_D A [((ad 0), oX8 ad m_said m_waved m_places m_end m_joints m_netPlaces m_begin m_finish m_rounds m_sews), ((ad 1), aI cy 112 m_state), ((ad 22), aI cy 8400 m_next), ((ad 23), aI cy 96 m_sewSide), ((ad 24), aI cy 96 m_sewFrom), ((ad 25), aI cy 96 m_sewTo)] → va_S A s.heap H locs → lv_has ls 4 [(0, .ref (ad 0)), (1, .int x1)] → W p l e { frames := 2, cells := 0, slots := 0, locals := 46 } s m args below meth c H locs 0 0 (MQ below ((fun A => va_Qv (fun (u : Int32 × (Nat → Int32) × (Nat → Int32) × (Nat → Int32)) => ∃ (z0 : Int32) (z1 : Nat → Int32) (z2 : Nat → Int32) (z3 : Nat → Int32), u = (z0, z1, z2, z3) ∧ Q z0 z1 z2 z3) (zE D vwCl A (fun (u : Int32 × (Nat → Int32) × (Nat → Int32) × (Nat → Int32)) => [((ad 0), oX8 ad m_said m_waved m_places m_end m_joints m_netPlaces m_begin m_finish m_rounds (u.1)), ((ad 1), aI cy 112 m_state), ((ad 22), aI cy 8400 m_next), ((ad 23), aI cy 96 (u.2.1)), ((ad 24), aI cy 96 (u.2.2.1)), ((ad 25), aI cy 96 (u.2.2.2))])) A) A) args s 0 0 A) (F0 m 7 ls []) := by
    intro x1 m_sews m_sewSide m_sewFrom m_sewTo   h
    obtain ⟨nn, h⟩ := h
    have key : ∀ (nn : Nat) (x1 : Int32) (m_sews : Int32) (m_sewSide : Nat → Int32) (m_sewFrom : Nat → Int32) (m_sewTo : Nat → Int32), lpW5 (wb_X8_laySews_7 m_netPlaces m_state m_next  Q) nn x1 m_sews m_sewSide m_sewFrom m_sewTo → ∀ (H : Heap) (locs : List Loc) (ls : Array Slot), va_P D vwCl [((ad 0), oX8 ad m_said m_waved m_places m_end m_joints m_netPlaces m_begin m_finish m_rounds m_sews), ((ad 1), aI cy 112 m_state), ((ad 22), aI cy 8400 m_next), ((ad 23), aI cy 96 m_sewSide), ((ad 24), aI cy 96 m_sewFrom), ((ad 25), aI cy 96 m_sewTo)] H → va_D A [((ad 0), oX8 ad m_said m_waved m_places m_end m_joints m_netPlaces m_begin m_finish m_rounds m_sews), ((ad 1), aI cy 112 m_state), ((ad 22), aI cy 8400 m_next), ((ad 23), aI cy 96 m_sewSide), ((ad 24), aI cy 96 m_sewFrom), ((ad 25), aI cy 96 m_sewTo)] → va_S A s.heap H locs → lv_has ls 4 [(0, .ref (ad 0)), (1, .int x1)] → W p l e { frames := 2, cells := 0, slots := 0, locals := 46 } s m args below meth c H locs 0 0 (MQ below ((fun A => va_Qv (fun (u : Int32 × (Nat → Int32) × (Nat → Int32) × (Nat → Int32)) => ∃ (z0 : Int32) (z1 : Nat → Int32) (z2 : Nat → Int32) (z3 : Nat → Int32), u = (z0, z1, z2, z3) ∧ Q z0 z1 z2 z3) (zE D vwCl A (fun (u : Int32 × (Nat → Int32) × (Nat → Int32) × (Nat → Int32)) => [((ad 0), oX8 ad m_said m_waved m_places m_end m_joints m_netPlaces m_begin m_finish m_rounds (u.1)), ((ad 1), aI cy 112 m_state), ((ad 22), aI cy 8400 m_next), ((ad 23), aI cy 96 (u.2.1)), ((ad 24), aI cy 96 (u.2.2.1)), ((ad 25), aI cy 96 (u.2.2.2))])) A) A) args s 0 0 A) (F0 m 7 ls []) := by
      intro nn
      induction nn with
      | zero => intro x1 m_sews m_sewSide m_sewFrom m_sewTo h; exact h.elim
      | succ nn hrc7 =>
        intro x1 m_sews m_sewSide m_sewFrom m_sewTo h H locs ls hP hD hS hl
        have h : wb_X8_laySews_7 m_netPlaces m_state m_next  Q (lpW5 (wb_X8_laySews_7 m_netPlaces m_state m_next  Q) nn) x1 m_sews m_sewSide m_sewFrom m_sewTo := h
        unfold wb_X8_laySews_7 at h
        refine lv_iload_n hx hb dX8_laySews_7 rfl (lv_at hl 1 rfl) ?_
        refine lv_aload_n hx hb dX8_laySews_8 rfl (lv_at hl 0 rfl) ?_
        refine va_get (D := D) (ci := 7) (v := .int m_netPlaces) (C := RX8) (T := TX8) (N := 35) hx hb hts iX8 hown hK hP 0 rfl rfl 24 (Nat.le_of_ble_eq_true rfl) (hts _ fl_X8_226) (fun _ h9 => h9) rfl dX8_laySews_9 ?_
        refine lv_icmp_ge (tgt := 118) hx hb dX8_laySews_12 (by decide) (fun c_28 => ?_) (fun c_28 => ?_)
        · have h := h.1 c_28
          exact z_vret (m_sews, m_sewSide, m_sewFrom, m_sewTo) hx hb hr hlocks ⟨m_sews, m_sewSide, m_sewFrom, m_sewTo, rfl, h⟩ hP hD hS dX8_laySews_118
        · have h := h.2 c_28
          refine lv_iconst (v := (0 : Int32)) hx hb dX8_laySews_15 (by decide) ?_
          refine lv_istore_n (lv' := [(2, .int (0 : Int32)), (0, .ref (ad 0)), (1, .int x1)]) hx hb dX8_laySews_16 rfl hl (by decide) rfl (fun ls hl => ?_)
          exact hJ17 x1 (0 : Int32) m_sews m_sewSide m_sewFrom m_sewTo _ hrc7  h _ _ _ hP hD hS (lv_sub hl [1, 2, 0] rfl)
    exact key nn x1 m_sews m_sewSide m_sewFrom m_sewTo h
  unfold wp_X8_laySews at h
  refine lv_aload_n hx hb dX8_laySews_0 rfl (lv_at hl 0 rfl) ?_
  refine lv_iconst (v := (0 : Int32)) hx hb dX8_laySews_1 (by decide) ?_
  refine va_put (D := D) (ci := 7) (v := .int (0 : Int32)) (ty := .int) (C := RX8) (T := TX8) (N := 35) hx hb hts iX8 tyX8 tyX8_ok nmX8 hown hK hP hD hS 0 rfl rfl 34 (Nat.le_of_ble_eq_true rfl) (hts _ fl_X8_256) (fun _ h9 => h9) rfl (by decide +kernel) rfl rfl (Nat.le_of_ble_eq_true rfl) dX8_laySews_2 (fun H locs hP hD hS => ?_)
  have hP : va_P D vwCl [((ad 0), oX8 ad m_said m_waved m_places m_end m_joints m_netPlaces m_begin m_finish m_rounds (0 : Int32)), ((ad 1), aI cy 112 m_state), ((ad 22), aI cy 8400 m_next), ((ad 23), aI cy 96 m_sewSide), ((ad 24), aI cy 96 m_sewFrom), ((ad 25), aI cy 96 m_sewTo)] H := hP
  have hD : va_D A [((ad 0), oX8 ad m_said m_waved m_places m_end m_joints m_netPlaces m_begin m_finish m_rounds (0 : Int32)), ((ad 1), aI cy 112 m_state), ((ad 22), aI cy 8400 m_next), ((ad 23), aI cy 96 m_sewSide), ((ad 24), aI cy 96 m_sewFrom), ((ad 25), aI cy 96 m_sewTo)] := hD
  refine lv_iconst (v := (0 : Int32)) hx hb dX8_laySews_5 (by decide) ?_
  refine lv_istore_n (lv' := [(1, .int (0 : Int32)), (0, .ref (ad 0))]) hx hb dX8_laySews_6 rfl hl (by decide) rfl (fun ls hl => ?_)
  exact hJ7 (0 : Int32) (0 : Int32) m_sewSide m_sewFrom m_sewTo   h _ _ _ hP hD hS (lv_sub hl [1, 0] rfl)
set_option maxHeartbeats 4000000 in
set_option maxRecDepth 100000 in
theorem c_X8_sew (l : Launch) (D : va_G) (cy : Nat → ClassId) (ad : Nat → Nat) (sz : Nat) (m_said : Int32) (m_waved : Int32) (m_places : Int32) (m_end : Int32) (m_joints : Int32) (m_netPlaces : Int32) (m_begin : Int32) (m_finish : Int32) (m_rounds : Int32) (m_sews : Int32) (m_state : Nat → Int32) (m_from : Nat → Int32) (m_by : Nat → Int32) (m_toward : Nat → Int32) (m_one : Nat → Int32) (x1 : Int32) (x2 : Int32) (x3 : Int32) {Q : Int32 → Int32 → (Nat → Int32) → (Nat → Int32) → (Nat → Int32) → (Nat → Int32) → Prop} (h : wp_X8_sew x1 x2 x3 m_joints m_netPlaces m_state m_from m_by m_toward m_one Q) : Met l yX8_sew (wsU yX8_sew cX8_sew 8 none) { frames := 1, cells := 0, slots := 0, locals := 23 } (va_Pc [.ref (ad 0), .int x1, .int x2, .int x3] (zB D vwCl (tyU cy) [((ad 0), oX8 ad m_said m_waved m_places m_end m_joints m_netPlaces m_begin m_finish m_rounds m_sews), ((ad 1), aI cy 112 m_state), ((ad 17), aI cy 1400 m_from), ((ad 18), aI cy 1400 m_by), ((ad 19), aI cy 1400 m_toward), ((ad 20), aI cy 1400 m_one)] sz)) ((fun A => va_Qv (fun (u : Int32 × Int32 × (Nat → Int32) × (Nat → Int32) × (Nat → Int32) × (Nat → Int32)) => ∃ (z0 : Int32) (z1 : Int32) (z2 : Nat → Int32) (z3 : Nat → Int32) (z4 : Nat → Int32) (z5 : Nat → Int32), u = (z0, z1, z2, z3, z4, z5) ∧ Q z0 z1 z2 z3 z4 z5) (zE D vwCl A (fun (u : Int32 × Int32 × (Nat → Int32) × (Nat → Int32) × (Nat → Int32) × (Nat → Int32)) => [((ad 0), oX8 ad m_said m_waved m_places m_end (u.1) (u.2.1) m_begin m_finish m_rounds m_sews), ((ad 1), aI cy 112 m_state), ((ad 17), aI cy 1400 (u.2.2.1)), ((ad 18), aI cy 1400 (u.2.2.2.1)), ((ad 19), aI cy 1400 (u.2.2.2.2.1)), ((ad 20), aI cy 1400 (u.2.2.2.2.2))])) A) (va_A [((ad 0), oX8 ad m_said m_waved m_places m_end m_joints m_netPlaces m_begin m_finish m_rounds m_sews), ((ad 1), aI cy 112 m_state), ((ad 17), aI cy 1400 m_from), ((ad 18), aI cy 1400 m_by), ((ad 19), aI cy 1400 m_toward), ((ad 20), aI cy 1400 m_one)] sz)) 0 0 (va_A [((ad 0), oX8 ad m_said m_waved m_places m_end m_joints m_netPlaces m_begin m_finish m_rounds m_sews), ((ad 1), aI cy 112 m_state), ((ad 17), aI cy 1400 m_from), ((ad 18), aI cy 1400 m_by), ((ad 19), aI cy 1400 m_toward), ((ad 20), aI cy 1400 m_one)] sz) := by
  refine z_ofX (fun A => va_Qv (fun (u : Int32 × Int32 × (Nat → Int32) × (Nat → Int32) × (Nat → Int32) × (Nat → Int32)) => ∃ (z0 : Int32) (z1 : Int32) (z2 : Nat → Int32) (z3 : Nat → Int32) (z4 : Nat → Int32) (z5 : Nat → Int32), u = (z0, z1, z2, z3, z4, z5) ∧ Q z0 z1 z2 z3 z4 z5) (zE D vwCl A (fun (u : Int32 × Int32 × (Nat → Int32) × (Nat → Int32) × (Nat → Int32) × (Nat → Int32)) => [((ad 0), oX8 ad m_said m_waved m_places m_end (u.1) (u.2.1) m_begin m_finish m_rounds m_sews), ((ad 1), aI cy 112 m_state), ((ad 17), aI cy 1400 (u.2.2.1)), ((ad 18), aI cy 1400 (u.2.2.2.1)), ((ad 19), aI cy 1400 (u.2.2.2.2.1)), ((ad 20), aI cy 1400 (u.2.2.2.2.2))])) A) (by decide) (Nat.le_of_ble_eq_true rfl) (fun p e s m below meth c A ls hx hb hr hml hown hts hlocks hK hPW hA hP hD hS hl => ?_)
  have hl : lv_has ls 8 [(0, .ref (ad 0)), (1, .int x1), (2, .int x2), (3, .int x3)] := hl
  have hown : s.vm.findClass RX8 = some m.cls := hown
  generalize hArg : ([.ref (ad 0), .int x1, .int x2, .int x3] : List Value).toArray = args at hts ⊢
  have hJ62 : ∀ (x1 : Int32) (x3 : Int32) (x4 : Int32) (x5 : Int32) (x6 : Int32) (t0 : Int32) (m_joints : Int32) (m_netPlaces : Int32) (m_from : Nat → Int32) (m_by : Nat → Int32) (m_toward : Nat → Int32) (m_one : Nat → Int32) (rc38 : Int32 → Int32 → Int32 → Int32 → (Nat → Int32) → (Nat → Int32) → (Nat → Int32) → (Nat → Int32) → Prop) (hrc38 : ∀ (x5 : Int32) (x6 : Int32) (m_joints : Int32) (m_netPlaces : Int32) (m_from : Nat → Int32) (m_by : Nat → Int32) (m_toward : Nat → Int32) (m_one : Nat → Int32), rc38 x5 x6 m_joints m_netPlaces m_from m_by m_toward m_one → ∀ (H : Heap) (locs : List Loc) (ls : Array Slot), va_P D vwCl [((ad 0), oX8 ad m_said m_waved m_places m_end m_joints m_netPlaces m_begin m_finish m_rounds m_sews), ((ad 1), aI cy 112 m_state), ((ad 17), aI cy 1400 m_from), ((ad 18), aI cy 1400 m_by), ((ad 19), aI cy 1400 m_toward), ((ad 20), aI cy 1400 m_one)] H → va_D A [((ad 0), oX8 ad m_said m_waved m_places m_end m_joints m_netPlaces m_begin m_finish m_rounds m_sews), ((ad 1), aI cy 112 m_state), ((ad 17), aI cy 1400 m_from), ((ad 18), aI cy 1400 m_by), ((ad 19), aI cy 1400 m_toward), ((ad 20), aI cy 1400 m_one)] → va_S A s.heap H locs → lv_has ls 8 [(0, .ref (ad 0)), (1, .int x1), (3, .int x3), (4, .int x4), (5, .int x5), (6, .int x6)] → W p l e { frames := 1, cells := 0, slots := 0, locals := 23 } s m args below meth c H locs 0 0 (MQ below ((fun A => va_Qv (fun (u : Int32 × Int32 × (Nat → Int32) × (Nat → Int32) × (Nat → Int32) × (Nat → Int32)) => ∃ (z0 : Int32) (z1 : Int32) (z2 : Nat → Int32) (z3 : Nat → Int32) (z4 : Nat → Int32) (z5 : Nat → Int32), u = (z0, z1, z2, z3, z4, z5) ∧ Q z0 z1 z2 z3 z4 z5) (zE D vwCl A (fun (u : Int32 × Int32 × (Nat → Int32) × (Nat → Int32) × (Nat → Int32) × (Nat → Int32)) => [((ad 0), oX8 ad m_said m_waved m_places m_end (u.1) (u.2.1) m_begin m_finish m_rounds m_sews), ((ad 1), aI cy 112 m_state), ((ad 17), aI cy 1400 (u.2.2.1)), ((ad 18), aI cy 1400 (u.2.2.2.1)), ((ad 19), aI cy 1400 (u.2.2.2.2.1)), ((ad 20), aI cy 1400 (u.2.2.2.2.2))])) A) A) args s 0 0 A) (F0 m 38 ls [])), wp_X8_sew_62 m_state x1 x3 x4 x5 x6 t0 m_joints m_netPlaces m_from m_by m_toward m_one rc38 Q → ∀ (H : Heap) (locs : List Loc) (ls : Array Slot), va_P D vwCl [((ad 0), oX8 ad m_said m_waved m_places m_end m_joints m_netPlaces m_begin m_finish m_rounds m_sews), ((ad 1), aI cy 112 m_state), ((ad 17), aI cy 1400 m_from), ((ad 18), aI cy 1400 m_by), ((ad 19), aI cy 1400 m_toward), ((ad 20), aI cy 1400 m_one)] H → va_D A [((ad 0), oX8 ad m_said m_waved m_places m_end m_joints m_netPlaces m_begin m_finish m_rounds m_sews), ((ad 1), aI cy 112 m_state), ((ad 17), aI cy 1400 m_from), ((ad 18), aI cy 1400 m_by), ((ad 19), aI cy 1400 m_toward), ((ad 20), aI cy 1400 m_one)] → va_S A s.heap H locs → lv_has ls 8 [(0, .ref (ad 0)), (1, .int x1), (3, .int x3), (4, .int x4), (5, .int x5), (6, .int x6)] → W p l e { frames := 1, cells := 0, slots := 0, locals := 23 } s m args below meth c H locs 0 0 (MQ below ((fun A => va_Qv (fun (u : Int32 × Int32 × (Nat → Int32) × (Nat → Int32) × (Nat → Int32) × (Nat → Int32)) => ∃ (z0 : Int32) (z1 : Int32) (z2 : Nat → Int32) (z3 : Nat → Int32) (z4 : Nat → Int32) (z5 : Nat → Int32), u = (z0, z1, z2, z3, z4, z5) ∧ Q z0 z1 z2 z3 z4 z5) (zE D vwCl A (fun (u : Int32 × Int32 × (Nat → Int32) × (Nat → Int32) × (Nat → Int32) × (Nat → Int32)) => [((ad 0), oX8 ad m_said m_waved m_places m_end (u.1) (u.2.1) m_begin m_finish m_rounds m_sews), ((ad 1), aI cy 112 m_state), ((ad 17), aI cy 1400 (u.2.2.1)), ((ad 18), aI cy 1400 (u.2.2.2.1)), ((ad 19), aI cy 1400 (u.2.2.2.2.1)), ((ad 20), aI cy 1400 (u.2.2.2.2.2))])) A) A) args s 0 0 A) (F0 m 62 ls [.int t0]) := by
    intro x1 x3 x4 x5 x6 t0 m_joints m_netPlaces m_from m_by m_toward m_one rc38 hrc38  h H locs ls hP hD hS hl
    unfold wp_X8_sew_62 at h
    refine lv_istore (lv' := [(7, .int t0), (0, .ref (ad 0)), (1, .int x1), (3, .int x3), (4, .int x4), (5, .int x5), (6, .int x6)]) hx hb dX8_sew_62 hl (by decide) rfl (fun ls hl => ?_)
    refine lv_aload_n hx hb dX8_sew_64 rfl (lv_at hl 1 rfl) ?_
    refine lv_iload hx hb dX8_sew_65 (lv_at hl 5 rfl) ?_
    refine lv_aload_n hx hb dX8_sew_67 rfl (lv_at hl 1 rfl) ?_
    refine lv_iload_n hx hb dX8_sew_68 rfl (lv_at hl 2 rfl) ?_
    refine lv_iload hx hb dX8_sew_69 (lv_at hl 6 rfl) ?_
    refine zc_Vi (As := [.int x1, .int x6]) (rest := [.int x5, .ref (ad 0)]) (wc := [((ad 0), oX8 ad m_said m_waved m_places m_end m_joints m_netPlaces m_begin m_finish m_rounds m_sews), ((ad 1), aI cy 112 m_state)]) (wr := [((ad 17), aI cy 1400 m_from), ((ad 18), aI cy 1400 m_by), ((ad 19), aI cy 1400 m_toward), ((ad 20), aI cy 1400 m_one)]) hx hb hml hown hts hK hPW hA hl.1 hP hD hS ⟨Nat.zero_le _, Nat.zero_le _⟩ [0, 1] [2, 3, 4, 5] rfl rfl (by decide) (c_X8_ruleLetter l D cy (sz := _) (x1 := x1) (x2 := x6) (ad := ad) (m_said := m_said) (m_waved := m_waved) (m_places := m_places) (m_end := m_end) (m_joints := m_joints) (m_netPlaces := m_netPlaces) (m_begin := m_begin) (m_finish := m_finish) (m_rounds := m_rounds) (m_sews := m_sews) (m_state := m_state) (h := h)) k_X8_253 ⟨rfl, rfl, (Nat.le_of_ble_eq_true rfl), (Nat.le_of_ble_eq_true rfl)⟩ rfl rfl rfl rfl (Nat.le_of_ble_eq_true rfl) dX8_sew_71 (fun r_13 _ H locs h hP hD hS => ?_)
    have hP : va_P D vwCl [((ad 17), aI cy 1400 m_from), ((ad 18), aI cy 1400 m_by), ((ad 19), aI cy 1400 m_toward), ((ad 20), aI cy 1400 m_one), ((ad 0), oX8 ad m_said m_waved m_places m_end m_joints m_netPlaces m_begin m_finish m_rounds m_sews), ((ad 1), aI cy 112 m_state)] H := hP
    have hD : va_D A [((ad 17), aI cy 1400 m_from), ((ad 18), aI cy 1400 m_by), ((ad 19), aI cy 1400 m_toward), ((ad 20), aI cy 1400 m_one), ((ad 0), oX8 ad m_said m_waved m_places m_end m_joints m_netPlaces m_begin m_finish m_rounds m_sews), ((ad 1), aI cy 112 m_state)] := hD
    refine lv_iload hx hb dX8_sew_74 (lv_at hl 0 rfl) ?_
    refine zc_Vv (As := [.int x5, .int r_13, .int t0]) (rest := []) (wc := [((ad 0), oX8 ad m_said m_waved m_places m_end m_joints m_netPlaces m_begin m_finish m_rounds m_sews), ((ad 17), aI cy 1400 m_from), ((ad 18), aI cy 1400 m_by), ((ad 19), aI cy 1400 m_toward)]) (wr := [((ad 20), aI cy 1400 m_one), ((ad 1), aI cy 112 m_state)]) hx hb hml hown hts hK hPW hA hl.1 hP hD hS ⟨Nat.zero_le _, Nat.zero_le _⟩ [4, 0, 1, 2] [3, 5] rfl rfl (by decide) (c_X8_addJoint l D cy (sz := _) (x1 := x5) (x2 := r_13) (x3 := t0) (ad := ad) (m_said := m_said) (m_waved := m_waved) (m_places := m_places) (m_end := m_end) (m_joints := m_joints) (m_netPlaces := m_netPlaces) (m_begin := m_begin) (m_finish := m_finish) (m_rounds := m_rounds) (m_sews := m_sews) (m_from := m_from) (m_by := m_by) (m_toward := m_toward) (h := h)) k_X8_244 ⟨rfl, rfl, (Nat.le_of_ble_eq_true rfl), (Nat.le_of_ble_eq_true rfl)⟩ rfl rfl rfl rfl (Nat.le_of_ble_eq_true rfl) dX8_sew_76 (fun u_14 H locs h hP hD hS => ?_)
    obtain ⟨m_joints_14, m_from_14, m_by_14, m_toward_14, rfl, h⟩ := h
    have hP : va_P D vwCl [((ad 20), aI cy 1400 m_one), ((ad 1), aI cy 112 m_state), ((ad 0), oX8 ad m_said m_waved m_places m_end m_joints_14 m_netPlaces m_begin m_finish m_rounds m_sews), ((ad 17), aI cy 1400 m_from_14), ((ad 18), aI cy 1400 m_by_14), ((ad 19), aI cy 1400 m_toward_14)] H := hP
    have hD : va_D A [((ad 20), aI cy 1400 m_one), ((ad 1), aI cy 112 m_state), ((ad 0), oX8 ad m_said m_waved m_places m_end m_joints_14 m_netPlaces m_begin m_finish m_rounds m_sews), ((ad 17), aI cy 1400 m_from_14), ((ad 18), aI cy 1400 m_by_14), ((ad 19), aI cy 1400 m_toward_14)] := hD
    refine lv_iload hx hb dX8_sew_79 (lv_at hl 0 rfl) ?_
    refine lv_istore (lv' := [(5, .int t0), (7, .int t0), (0, .ref (ad 0)), (1, .int x1), (3, .int x3), (4, .int x4), (6, .int x6)]) hx hb dX8_sew_81 hl (by decide) rfl (fun ls hl => ?_)
    obtain ⟨x6_15, e_x6_15⟩ : ∃ y : Int32, y = x6 + (1 : Int32) := ⟨_, rfl⟩
    refine lv_iinc (v := x6_15) (lv' := [(6, .int x6_15), (5, .int t0), (7, .int t0), (0, .ref (ad 0)), (1, .int x1), (3, .int x3), (4, .int x4)]) hx hb dX8_sew_83 hl (k := 6) rfl (by rw [e_x6_15]; rfl) (by decide) rfl (fun ls hl => ?_)
    have h := h x6_15 e_x6_15
    refine lv_goto (tgt := 38) hx hb dX8_sew_86 (by decide) ?_
    exact hrc38 t0 x6_15 m_joints_14 m_netPlaces m_from_14 m_by_14 m_toward_14 m_one h _ _ _ (hP.sub [2, 1, 3, 4, 5, 0] rfl) (hD.sub [2, 1, 3, 4, 5, 0] (by decide) rfl) hS (lv_sub hl [3, 4, 5, 6, 1, 0] rfl)
  have hJ38 : ∀ (x1 : Int32) (x3 : Int32) (x4 : Int32) (x5 : Int32) (x6 : Int32) (m_joints : Int32) (m_netPlaces : Int32) (m_from : Nat → Int32) (m_by : Nat → Int32) (m_toward : Nat → Int32) (m_one : Nat → Int32), wp_X8_sew_38 m_state x1 x3 x4  Q x5 x6 m_joints m_netPlaces m_from m_by m_toward m_one → ∀ (H : Heap) (locs : List Loc) (ls : Array Slot), va_P D vwCl [((ad 0), oX8 ad m_said m_waved m_places m_end m_joints m_netPlaces m_begin m_finish m_rounds m_sews), ((ad 1), aI cy 112 m_state), ((ad 17), aI cy 1400 m_from), ((ad 18), aI cy 1400 m_by), ((ad 19), aI cy 1400 m_toward), ((ad 20), aI cy 1400 m_one)] H → va_D A [((ad 0), oX8 ad m_said m_waved m_places m_end m_joints m_netPlaces m_begin m_finish m_rounds m_sews), ((ad 1), aI cy 112 m_state), ((ad 17), aI cy 1400 m_from), ((ad 18), aI cy 1400 m_by), ((ad 19), aI cy 1400 m_toward), ((ad 20), aI cy 1400 m_one)] → va_S A s.heap H locs → lv_has ls 8 [(0, .ref (ad 0)), (1, .int x1), (3, .int x3), (4, .int x4), (5, .int x5), (6, .int x6)] → W p l e { frames := 1, cells := 0, slots := 0, locals := 23 } s m args below meth c H locs 0 0 (MQ below ((fun A => va_Qv (fun (u : Int32 × Int32 × (Nat → Int32) × (Nat → Int32) × (Nat → Int32) × (Nat → Int32)) => ∃ (z0 : Int32) (z1 : Int32) (z2 : Nat → Int32) (z3 : Nat → Int32) (z4 : Nat → Int32) (z5 : Nat → Int32), u = (z0, z1, z2, z3, z4, z5) ∧ Q z0 z1 z2 z3 z4 z5) (zE D vwCl A (fun (u : Int32 × Int32 × (Nat → Int32) × (Nat → Int32) × (Nat → Int32) × (Nat → Int32)) => [((ad 0), oX8 ad m_said m_waved m_places m_end (u.1) (u.2.1) m_begin m_finish m_rounds m_sews), ((ad 1), aI cy 112 m_state), ((ad 17), aI cy 1400 (u.2.2.1)), ((ad 18), aI cy 1400 (u.2.2.2.1)), ((ad 19), aI cy 1400 (u.2.2.2.2.1)), ((ad 20), aI cy 1400 (u.2.2.2.2.2))])) A) A) args s 0 0 A) (F0 m 38 ls []) := by
    intro x1 x3 x4 x5 x6 m_joints m_netPlaces m_from m_by m_toward m_one   h
    obtain ⟨nn, h⟩ := h
    have key : ∀ (nn : Nat) (x5 : Int32) (x6 : Int32) (m_joints : Int32) (m_netPlaces : Int32) (m_from : Nat → Int32) (m_by : Nat → Int32) (m_toward : Nat → Int32) (m_one : Nat → Int32), lpW8 (wb_X8_sew_38 m_state x1 x3 x4  Q) nn x5 x6 m_joints m_netPlaces m_from m_by m_toward m_one → ∀ (H : Heap) (locs : List Loc) (ls : Array Slot), va_P D vwCl [((ad 0), oX8 ad m_said m_waved m_places m_end m_joints m_netPlaces m_begin m_finish m_rounds m_sews), ((ad 1), aI cy 112 m_state), ((ad 17), aI cy 1400 m_from), ((ad 18), aI cy 1400 m_by), ((ad 19), aI cy 1400 m_toward), ((ad 20), aI cy 1400 m_one)] H → va_D A [((ad 0), oX8 ad m_said m_waved m_places m_end m_joints m_netPlaces m_begin m_finish m_rounds m_sews), ((ad 1), aI cy 112 m_state), ((ad 17), aI cy 1400 m_from), ((ad 18), aI cy 1400 m_by), ((ad 19), aI cy 1400 m_toward), ((ad 20), aI cy 1400 m_one)] → va_S A s.heap H locs → lv_has ls 8 [(0, .ref (ad 0)), (1, .int x1), (3, .int x3), (4, .int x4), (5, .int x5), (6, .int x6)] → W p l e { frames := 1, cells := 0, slots := 0, locals := 23 } s m args below meth c H locs 0 0 (MQ below ((fun A => va_Qv (fun (u : Int32 × Int32 × (Nat → Int32) × (Nat → Int32) × (Nat → Int32) × (Nat → Int32)) => ∃ (z0 : Int32) (z1 : Int32) (z2 : Nat → Int32) (z3 : Nat → Int32) (z4 : Nat → Int32) (z5 : Nat → Int32), u = (z0, z1, z2, z3, z4, z5) ∧ Q z0 z1 z2 z3 z4 z5) (zE D vwCl A (fun (u : Int32 × Int32 × (Nat → Int32) × (Nat → Int32) × (Nat → Int32) × (Nat → Int32)) => [((ad 0), oX8 ad m_said m_waved m_places m_end (u.1) (u.2.1) m_begin m_finish m_rounds m_sews), ((ad 1), aI cy 112 m_state), ((ad 17), aI cy 1400 (u.2.2.1)), ((ad 18), aI cy 1400 (u.2.2.2.1)), ((ad 19), aI cy 1400 (u.2.2.2.2.1)), ((ad 20), aI cy 1400 (u.2.2.2.2.2))])) A) A) args s 0 0 A) (F0 m 38 ls []) := by
      intro nn
      induction nn with
      | zero => intro x5 x6 m_joints m_netPlaces m_from m_by m_toward m_one h; exact h.elim
      | succ nn hrc38 =>
        intro x5 x6 m_joints m_netPlaces m_from m_by m_toward m_one h H locs ls hP hD hS hl
        have h : wb_X8_sew_38 m_state x1 x3 x4  Q (lpW8 (wb_X8_sew_38 m_state x1 x3 x4  Q) nn) x5 x6 m_joints m_netPlaces m_from m_by m_toward m_one := h
        unfold wb_X8_sew_38 at h
        refine lv_iload hx hb dX8_sew_38 (lv_at hl 5 rfl) ?_
        refine lv_iload hx hb dX8_sew_40 (lv_at hl 3 rfl) ?_
        refine lv_icmp_ge (tgt := 89) hx hb dX8_sew_42 (by decide) (fun c_16 => ?_) (fun c_16 => ?_)
        · have h := h.1 c_16
          exact z_vret (m_joints, m_netPlaces, m_from, m_by, m_toward, m_one) hx hb hr hlocks ⟨m_joints, m_netPlaces, m_from, m_by, m_toward, m_one, rfl, h⟩ hP hD hS dX8_sew_89
        · have h := h.2 c_16
          refine lv_iload hx hb dX8_sew_45 (lv_at hl 5 rfl) ?_
          refine lv_iload hx hb dX8_sew_47 (lv_at hl 3 rfl) ?_
          refine lv_iconst (v := (1 : Int32)) hx hb dX8_sew_49 (by decide) ?_
          refine lv_isub hx hb dX8_sew_50 ?_
          refine lv_icmp_ne (tgt := 58) hx hb dX8_sew_51 (by decide) (fun c_17 => ?_) (fun c_17 => ?_)
          · have h := h.1 c_17
            refine lv_aload_n hx hb dX8_sew_58 rfl (lv_at hl 0 rfl) ?_
            refine zc_Vi (As := []) (rest := []) (wc := [((ad 0), oX8 ad m_said m_waved m_places m_end m_joints m_netPlaces m_begin m_finish m_rounds m_sews), ((ad 20), aI cy 1400 m_one)]) (wr := [((ad 1), aI cy 112 m_state), ((ad 17), aI cy 1400 m_from), ((ad 18), aI cy 1400 m_by), ((ad 19), aI cy 1400 m_toward)]) hx hb hml hown hts hK hPW hA hl.1 hP hD hS ⟨Nat.zero_le _, Nat.zero_le _⟩ [0, 5] [1, 2, 3, 4] rfl rfl (by decide) (c_X8_newPlace l D cy (sz := _) (ad := ad) (m_said := m_said) (m_waved := m_waved) (m_places := m_places) (m_end := m_end) (m_joints := m_joints) (m_netPlaces := m_netPlaces) (m_begin := m_begin) (m_finish := m_finish) (m_rounds := m_rounds) (m_sews := m_sews) (m_one := m_one) (h := h)) k_X8_262 ⟨rfl, rfl, (Nat.le_of_ble_eq_true rfl), (Nat.le_of_ble_eq_true rfl)⟩ rfl rfl rfl rfl (Nat.le_of_ble_eq_true rfl) dX8_sew_59 (fun r_18 u_18 H locs h hP hD hS => ?_)
            obtain ⟨m_netPlaces_18, m_one_18, rfl, h⟩ := h
            have hP : va_P D vwCl [((ad 1), aI cy 112 m_state), ((ad 17), aI cy 1400 m_from), ((ad 18), aI cy 1400 m_by), ((ad 19), aI cy 1400 m_toward), ((ad 0), oX8 ad m_said m_waved m_places m_end m_joints m_netPlaces_18 m_begin m_finish m_rounds m_sews), ((ad 20), aI cy 1400 m_one_18)] H := hP
            have hD : va_D A [((ad 1), aI cy 112 m_state), ((ad 17), aI cy 1400 m_from), ((ad 18), aI cy 1400 m_by), ((ad 19), aI cy 1400 m_toward), ((ad 0), oX8 ad m_said m_waved m_places m_end m_joints m_netPlaces_18 m_begin m_finish m_rounds m_sews), ((ad 20), aI cy 1400 m_one_18)] := hD
            exact hJ62 x1 x3 x4 x5 x6 r_18 m_joints m_netPlaces_18 m_from m_by m_toward m_one_18 _ hrc38  h _ _ _ (hP.sub [4, 0, 1, 2, 3, 5] rfl) (hD.sub [4, 0, 1, 2, 3, 5] (by decide) rfl) hS (lv_sub hl [0, 1, 2, 3, 4, 5] rfl)
          · have h := h.2 c_17
            refine lv_iload_n hx hb dX8_sew_54 rfl (lv_at hl 2 rfl) ?_
            refine lv_goto (tgt := 62) hx hb dX8_sew_55 (by decide) ?_
            exact hJ62 x1 x3 x4 x5 x6 x3 m_joints m_netPlaces m_from m_by m_toward m_one _ hrc38  h _ _ _ hP hD hS (lv_sub hl [0, 1, 2, 3, 4, 5] rfl)
    exact key nn x5 x6 m_joints m_netPlaces m_from m_by m_toward m_one h
  unfold wp_X8_sew at h
  refine lv_aload_n hx hb dX8_sew_0 rfl (lv_at hl 0 rfl) ?_
  refine va_get (D := D) (ci := 7) (v := .ref (ad 1)) (C := RX8) (T := TX8) (N := 35) hx hb hts iX8 hown hK hP 0 rfl rfl 0 (Nat.le_of_ble_eq_true rfl) (hts _ fl_X8_7) (fun _ h9 => h9) rfl dX8_sew_1 ?_
  refine lv_bipush (v := (60 : Int32)) hx hb dX8_sew_4 (by decide) ?_
  refine lv_iload_n hx hb dX8_sew_6 rfl (lv_at hl 1 rfl) ?_
  refine lv_iadd hx hb dX8_sew_7 ?_
  obtain ⟨hi_19, h⟩ := h
  refine va_iald hx hb hK hP 1 0 rfl rfl hi_19 dX8_sew_8 ?_
  refine lv_topi (fun x4_20 e_x4_20 => ?_)
  have h := h x4_20 e_x4_20
  refine lv_istore (lv' := [(4, .int x4_20), (0, .ref (ad 0)), (1, .int x1), (2, .int x2), (3, .int x3)]) hx hb dX8_sew_9 hl (by decide) rfl (fun ls hl => ?_)
  refine lv_iload hx hb dX8_sew_11 (lv_at hl 0 rfl) ?_
  refine lv_if_ne (tgt := 32) hx hb dX8_sew_13 (by decide) (fun c_21 => ?_) (fun c_21 => ?_)
  · have h := h.1 c_21
    refine lv_iload_n hx hb dX8_sew_32 rfl (lv_at hl 3 rfl) ?_
    refine lv_istore (lv' := [(5, .int x2), (4, .int x4_20), (0, .ref (ad 0)), (1, .int x1), (2, .int x2), (3, .int x3)]) hx hb dX8_sew_33 hl (by decide) rfl (fun ls hl => ?_)
    refine lv_iconst (v := (0 : Int32)) hx hb dX8_sew_35 (by decide) ?_
    refine lv_istore (lv' := [(6, .int (0 : Int32)), (5, .int x2), (4, .int x4_20), (0, .ref (ad 0)), (1, .int x1), (2, .int x2), (3, .int x3)]) hx hb dX8_sew_36 hl (by decide) rfl (fun ls hl => ?_)
    exact hJ38 x1 x3 x4_20 x2 (0 : Int32) m_joints m_netPlaces m_from m_by m_toward m_one   h _ _ _ hP hD hS (lv_sub hl [3, 4, 6, 2, 1, 0] rfl)
  · have h := h.2 c_21
    refine lv_aload_n hx hb dX8_sew_16 rfl (lv_at hl 1 rfl) ?_
    refine va_get (D := D) (ci := 7) (v := .ref (ad 20)) (C := RX8) (T := TX8) (N := 35) hx hb hts iX8 hown hK hP 0 rfl rfl 28 (Nat.le_of_ble_eq_true rfl) (hts _ fl_X8_69) (fun _ h9 => h9) rfl dX8_sew_17 ?_
    refine lv_aload_n hx hb dX8_sew_20 rfl (lv_at hl 1 rfl) ?_
    refine lv_iload_n hx hb dX8_sew_21 rfl (lv_at hl 4 rfl) ?_
    refine zc_Vi (As := [.int x3]) (rest := [.ref (ad 20)]) (wc := [((ad 0), oX8 ad m_said m_waved m_places m_end m_joints m_netPlaces m_begin m_finish m_rounds m_sews), ((ad 20), aI cy 1400 m_one)]) (wr := [((ad 1), aI cy 112 m_state), ((ad 17), aI cy 1400 m_from), ((ad 18), aI cy 1400 m_by), ((ad 19), aI cy 1400 m_toward)]) hx hb hml hown hts hK hPW hA hl.1 hP hD hS ⟨Nat.zero_le _, Nat.zero_le _⟩ [0, 5] [1, 2, 3, 4] rfl rfl (by decide) (c_X8_oneOf l D cy (sz := _) (x1 := x3) (ad := ad) (m_said := m_said) (m_waved := m_waved) (m_places := m_places) (m_end := m_end) (m_joints := m_joints) (m_netPlaces := m_netPlaces) (m_begin := m_begin) (m_finish := m_finish) (m_rounds := m_rounds) (m_sews := m_sews) (m_one := m_one) (h := h)) k_X8_232 ⟨rfl, rfl, (Nat.le_of_ble_eq_true rfl), (Nat.le_of_ble_eq_true rfl)⟩ rfl rfl rfl rfl (Nat.le_of_ble_eq_true rfl) dX8_sew_22 (fun r_22 m_one_22 H locs h hP hD hS => ?_)
    have hP : va_P D vwCl [((ad 1), aI cy 112 m_state), ((ad 17), aI cy 1400 m_from), ((ad 18), aI cy 1400 m_by), ((ad 19), aI cy 1400 m_toward), ((ad 0), oX8 ad m_said m_waved m_places m_end m_joints m_netPlaces m_begin m_finish m_rounds m_sews), ((ad 20), aI cy 1400 m_one_22)] H := hP
    have hD : va_D A [((ad 1), aI cy 112 m_state), ((ad 17), aI cy 1400 m_from), ((ad 18), aI cy 1400 m_by), ((ad 19), aI cy 1400 m_toward), ((ad 0), oX8 ad m_said m_waved m_places m_end m_joints m_netPlaces m_begin m_finish m_rounds m_sews), ((ad 20), aI cy 1400 m_one_22)] := hD
    refine lv_aload_n hx hb dX8_sew_25 rfl (lv_at hl 1 rfl) ?_
    refine lv_iload_n hx hb dX8_sew_26 rfl (lv_at hl 3 rfl) ?_
    refine zc_Vi (As := [.int x2]) (rest := [.int r_22, .ref (ad 20)]) (wc := [((ad 0), oX8 ad m_said m_waved m_places m_end m_joints m_netPlaces m_begin m_finish m_rounds m_sews), ((ad 20), aI cy 1400 m_one_22)]) (wr := [((ad 1), aI cy 112 m_state), ((ad 17), aI cy 1400 m_from), ((ad 18), aI cy 1400 m_by), ((ad 19), aI cy 1400 m_toward)]) hx hb hml hown hts hK hPW hA hl.1 hP hD hS ⟨Nat.zero_le _, Nat.zero_le _⟩ [4, 5] [0, 1, 2, 3] rfl rfl (by decide) (c_X8_oneOf l D cy (sz := _) (x1 := x2) (ad := ad) (m_said := m_said) (m_waved := m_waved) (m_places := m_places) (m_end := m_end) (m_joints := m_joints) (m_netPlaces := m_netPlaces) (m_begin := m_begin) (m_finish := m_finish) (m_rounds := m_rounds) (m_sews := m_sews) (m_one := m_one_22) (h := h)) k_X8_232 ⟨rfl, rfl, (Nat.le_of_ble_eq_true rfl), (Nat.le_of_ble_eq_true rfl)⟩ rfl rfl rfl rfl (Nat.le_of_ble_eq_true rfl) dX8_sew_27 (fun r_23 m_one_23 H locs h hP hD hS => ?_)
    have hP : va_P D vwCl [((ad 1), aI cy 112 m_state), ((ad 17), aI cy 1400 m_from), ((ad 18), aI cy 1400 m_by), ((ad 19), aI cy 1400 m_toward), ((ad 0), oX8 ad m_said m_waved m_places m_end m_joints m_netPlaces m_begin m_finish m_rounds m_sews), ((ad 20), aI cy 1400 m_one_23)] H := hP
    have hD : va_D A [((ad 1), aI cy 112 m_state), ((ad 17), aI cy 1400 m_from), ((ad 18), aI cy 1400 m_by), ((ad 19), aI cy 1400 m_toward), ((ad 0), oX8 ad m_said m_waved m_places m_end m_joints m_netPlaces m_begin m_finish m_rounds m_sews), ((ad 20), aI cy 1400 m_one_23)] := hD
    obtain ⟨hi_24, h⟩ := h
    refine va_iast hx hb hK hP hD hS 5 0 rfl rfl hi_24 dX8_sew_30 (fun H locs hP hD hS => ?_)
    have hP : va_P D vwCl [((ad 1), aI cy 112 m_state), ((ad 17), aI cy 1400 m_from), ((ad 18), aI cy 1400 m_by), ((ad 19), aI cy 1400 m_toward), ((ad 0), oX8 ad m_said m_waved m_places m_end m_joints m_netPlaces m_begin m_finish m_rounds m_sews), ((ad 20), aI cy 1400 (upd m_one_23 r_22.toNatClampNeg r_23))] H := hP
    have hD : va_D A [((ad 1), aI cy 112 m_state), ((ad 17), aI cy 1400 m_from), ((ad 18), aI cy 1400 m_by), ((ad 19), aI cy 1400 m_toward), ((ad 0), oX8 ad m_said m_waved m_places m_end m_joints m_netPlaces m_begin m_finish m_rounds m_sews), ((ad 20), aI cy 1400 (upd m_one_23 r_22.toNatClampNeg r_23))] := hD
    exact z_vret (m_joints, m_netPlaces, m_from, m_by, m_toward, (upd m_one_23 r_22.toNatClampNeg r_23)) hx hb hr hlocks ⟨m_joints, m_netPlaces, m_from, m_by, m_toward, (upd m_one_23 r_22.toNatClampNeg r_23), rfl, h⟩ (hP.sub [4, 0, 1, 2, 3, 5] rfl) (hD.sub [4, 0, 1, 2, 3, 5] (by decide) rfl) hS dX8_sew_31
set_option maxHeartbeats 4000000 in
set_option maxRecDepth 100000 in
theorem c_X8_layRow (l : Launch) (D : va_G) (cy : Nat → ClassId) (ad : Nat → Nat) (sz : Nat) (m_said : Int32) (m_waved : Int32) (m_places : Int32) (m_end : Int32) (m_joints : Int32) (m_netPlaces : Int32) (m_begin : Int32) (m_finish : Int32) (m_rounds : Int32) (m_sews : Int32) (m_state : Nat → Int32) (m_from : Nat → Int32) (m_by : Nat → Int32) (m_toward : Nat → Int32) (m_one : Nat → Int32) (m_number : Nat → Int32) (m_next : Nat → Int32) (x1 : Int32) {Q : Int32 → Int32 → Int32 → Int32 → (Nat → Int32) → (Nat → Int32) → (Nat → Int32) → (Nat → Int32) → (Nat → Int32) → (Nat → Int32) → Prop} (h : wp_X8_layRow x1 m_joints m_netPlaces m_begin m_finish m_state m_from m_by m_toward m_one m_number m_next Q) : Met l yX8_layRow (wsU yX8_layRow cX8_layRow 4 none) { frames := 4, cells := 0, slots := 0, locals := 91 } (va_Pc [.ref (ad 0), .int x1] (zB D vwCl (tyU cy) [((ad 0), oX8 ad m_said m_waved m_places m_end m_joints m_netPlaces m_begin m_finish m_rounds m_sews), ((ad 1), aI cy 112 m_state), ((ad 17), aI cy 1400 m_from), ((ad 18), aI cy 1400 m_by), ((ad 19), aI cy 1400 m_toward), ((ad 20), aI cy 1400 m_one), ((ad 21), aI cy 1400 m_number), ((ad 22), aI cy 8400 m_next)] sz)) ((fun A => va_Qv (fun (u : Int32 × Int32 × Int32 × Int32 × (Nat → Int32) × (Nat → Int32) × (Nat → Int32) × (Nat → Int32) × (Nat → Int32) × (Nat → Int32)) => ∃ (z0 : Int32) (z1 : Int32) (z2 : Int32) (z3 : Int32) (z4 : Nat → Int32) (z5 : Nat → Int32) (z6 : Nat → Int32) (z7 : Nat → Int32) (z8 : Nat → Int32) (z9 : Nat → Int32), u = (z0, z1, z2, z3, z4, z5, z6, z7, z8, z9) ∧ Q z0 z1 z2 z3 z4 z5 z6 z7 z8 z9) (zE D vwCl A (fun (u : Int32 × Int32 × Int32 × Int32 × (Nat → Int32) × (Nat → Int32) × (Nat → Int32) × (Nat → Int32) × (Nat → Int32) × (Nat → Int32)) => [((ad 0), oX8 ad m_said m_waved m_places m_end (u.1) (u.2.1) (u.2.2.1) (u.2.2.2.1) m_rounds m_sews), ((ad 1), aI cy 112 m_state), ((ad 17), aI cy 1400 (u.2.2.2.2.1)), ((ad 18), aI cy 1400 (u.2.2.2.2.2.1)), ((ad 19), aI cy 1400 (u.2.2.2.2.2.2.1)), ((ad 20), aI cy 1400 (u.2.2.2.2.2.2.2.1)), ((ad 21), aI cy 1400 (u.2.2.2.2.2.2.2.2.1)), ((ad 22), aI cy 8400 (u.2.2.2.2.2.2.2.2.2))])) A) (va_A [((ad 0), oX8 ad m_said m_waved m_places m_end m_joints m_netPlaces m_begin m_finish m_rounds m_sews), ((ad 1), aI cy 112 m_state), ((ad 17), aI cy 1400 m_from), ((ad 18), aI cy 1400 m_by), ((ad 19), aI cy 1400 m_toward), ((ad 20), aI cy 1400 m_one), ((ad 21), aI cy 1400 m_number), ((ad 22), aI cy 8400 m_next)] sz)) 0 0 (va_A [((ad 0), oX8 ad m_said m_waved m_places m_end m_joints m_netPlaces m_begin m_finish m_rounds m_sews), ((ad 1), aI cy 112 m_state), ((ad 17), aI cy 1400 m_from), ((ad 18), aI cy 1400 m_by), ((ad 19), aI cy 1400 m_toward), ((ad 20), aI cy 1400 m_one), ((ad 21), aI cy 1400 m_number), ((ad 22), aI cy 8400 m_next)] sz) := by
  refine z_ofX (fun A => va_Qv (fun (u : Int32 × Int32 × Int32 × Int32 × (Nat → Int32) × (Nat → Int32) × (Nat → Int32) × (Nat → Int32) × (Nat → Int32) × (Nat → Int32)) => ∃ (z0 : Int32) (z1 : Int32) (z2 : Int32) (z3 : Int32) (z4 : Nat → Int32) (z5 : Nat → Int32) (z6 : Nat → Int32) (z7 : Nat → Int32) (z8 : Nat → Int32) (z9 : Nat → Int32), u = (z0, z1, z2, z3, z4, z5, z6, z7, z8, z9) ∧ Q z0 z1 z2 z3 z4 z5 z6 z7 z8 z9) (zE D vwCl A (fun (u : Int32 × Int32 × Int32 × Int32 × (Nat → Int32) × (Nat → Int32) × (Nat → Int32) × (Nat → Int32) × (Nat → Int32) × (Nat → Int32)) => [((ad 0), oX8 ad m_said m_waved m_places m_end (u.1) (u.2.1) (u.2.2.1) (u.2.2.2.1) m_rounds m_sews), ((ad 1), aI cy 112 m_state), ((ad 17), aI cy 1400 (u.2.2.2.2.1)), ((ad 18), aI cy 1400 (u.2.2.2.2.2.1)), ((ad 19), aI cy 1400 (u.2.2.2.2.2.2.1)), ((ad 20), aI cy 1400 (u.2.2.2.2.2.2.2.1)), ((ad 21), aI cy 1400 (u.2.2.2.2.2.2.2.2.1)), ((ad 22), aI cy 8400 (u.2.2.2.2.2.2.2.2.2))])) A) (by decide) (Nat.le_of_ble_eq_true rfl) (fun p e s m below meth c A ls hx hb hr hml hown hts hlocks hK hPW hA hP hD hS hl => ?_)
  have hl : lv_has ls 4 [(0, .ref (ad 0)), (1, .int x1)] := hl
  have hown : s.vm.findClass RX8 = some m.cls := hown
  generalize hArg : ([.ref (ad 0), .int x1] : List Value).toArray = args at hts ⊢
  have hJ28 : ∀ (x1 : Int32) (x2 : Int32) (m_joints : Int32) (m_netPlaces : Int32) (m_begin : Int32) (m_finish : Int32) (m_from : Nat → Int32) (m_by : Nat → Int32) (m_toward : Nat → Int32) (m_one : Nat → Int32) (m_number : Nat → Int32) (m_next : Nat → Int32), wp_X8_layRow_28 m_state x1 m_begin m_number m_next  Q x2 m_joints m_netPlaces m_finish m_from m_by m_toward m_one → ∀ (H : Heap) (locs : List Loc) (ls : Array Slot), va_P D vwCl [((ad 0), oX8 ad m_said m_waved m_places m_end m_joints m_netPlaces m_begin m_finish m_rounds m_sews), ((ad 1), aI cy 112 m_state), ((ad 17), aI cy 1400 m_from), ((ad 18), aI cy 1400 m_by), ((ad 19), aI cy 1400 m_toward), ((ad 20), aI cy 1400 m_one), ((ad 21), aI cy 1400 m_number), ((ad 22), aI cy 8400 m_next)] H → va_D A [((ad 0), oX8 ad m_said m_waved m_places m_end m_joints m_netPlaces m_begin m_finish m_rounds m_sews), ((ad 1), aI cy 112 m_state), ((ad 17), aI cy 1400 m_from), ((ad 18), aI cy 1400 m_by), ((ad 19), aI cy 1400 m_toward), ((ad 20), aI cy 1400 m_one), ((ad 21), aI cy 1400 m_number), ((ad 22), aI cy 8400 m_next)] → va_S A s.heap H locs → lv_has ls 4 [(0, .ref (ad 0)), (1, .int x1), (2, .int x2)] → W p l e { frames := 4, cells := 0, slots := 0, locals := 91 } s m args below meth c H locs 0 0 (MQ below ((fun A => va_Qv (fun (u : Int32 × Int32 × Int32 × Int32 × (Nat → Int32) × (Nat → Int32) × (Nat → Int32) × (Nat → Int32) × (Nat → Int32) × (Nat → Int32)) => ∃ (z0 : Int32) (z1 : Int32) (z2 : Int32) (z3 : Int32) (z4 : Nat → Int32) (z5 : Nat → Int32) (z6 : Nat → Int32) (z7 : Nat → Int32) (z8 : Nat → Int32) (z9 : Nat → Int32), u = (z0, z1, z2, z3, z4, z5, z6, z7, z8, z9) ∧ Q z0 z1 z2 z3 z4 z5 z6 z7 z8 z9) (zE D vwCl A (fun (u : Int32 × Int32 × Int32 × Int32 × (Nat → Int32) × (Nat → Int32) × (Nat → Int32) × (Nat → Int32) × (Nat → Int32) × (Nat → Int32)) => [((ad 0), oX8 ad m_said m_waved m_places m_end (u.1) (u.2.1) (u.2.2.1) (u.2.2.2.1) m_rounds m_sews), ((ad 1), aI cy 112 m_state), ((ad 17), aI cy 1400 (u.2.2.2.2.1)), ((ad 18), aI cy 1400 (u.2.2.2.2.2.1)), ((ad 19), aI cy 1400 (u.2.2.2.2.2.2.1)), ((ad 20), aI cy 1400 (u.2.2.2.2.2.2.2.1)), ((ad 21), aI cy 1400 (u.2.2.2.2.2.2.2.2.1)), ((ad 22), aI cy 8400 (u.2.2.2.2.2.2.2.2.2))])) A) A) args s 0 0 A) (F0 m 28 ls []) := by
    intro x1 x2 m_joints m_netPlaces m_begin m_finish m_from m_by m_toward m_one m_number m_next   h
    obtain ⟨nn, h⟩ := h
    have key : ∀ (nn : Nat) (x2 : Int32) (m_joints : Int32) (m_netPlaces : Int32) (m_finish : Int32) (m_from : Nat → Int32) (m_by : Nat → Int32) (m_toward : Nat → Int32) (m_one : Nat → Int32), lpW8 (wb_X8_layRow_28 m_state x1 m_begin m_number m_next  Q) nn x2 m_joints m_netPlaces m_finish m_from m_by m_toward m_one → ∀ (H : Heap) (locs : List Loc) (ls : Array Slot), va_P D vwCl [((ad 0), oX8 ad m_said m_waved m_places m_end m_joints m_netPlaces m_begin m_finish m_rounds m_sews), ((ad 1), aI cy 112 m_state), ((ad 17), aI cy 1400 m_from), ((ad 18), aI cy 1400 m_by), ((ad 19), aI cy 1400 m_toward), ((ad 20), aI cy 1400 m_one), ((ad 21), aI cy 1400 m_number), ((ad 22), aI cy 8400 m_next)] H → va_D A [((ad 0), oX8 ad m_said m_waved m_places m_end m_joints m_netPlaces m_begin m_finish m_rounds m_sews), ((ad 1), aI cy 112 m_state), ((ad 17), aI cy 1400 m_from), ((ad 18), aI cy 1400 m_by), ((ad 19), aI cy 1400 m_toward), ((ad 20), aI cy 1400 m_one), ((ad 21), aI cy 1400 m_number), ((ad 22), aI cy 8400 m_next)] → va_S A s.heap H locs → lv_has ls 4 [(0, .ref (ad 0)), (1, .int x1), (2, .int x2)] → W p l e { frames := 4, cells := 0, slots := 0, locals := 91 } s m args below meth c H locs 0 0 (MQ below ((fun A => va_Qv (fun (u : Int32 × Int32 × Int32 × Int32 × (Nat → Int32) × (Nat → Int32) × (Nat → Int32) × (Nat → Int32) × (Nat → Int32) × (Nat → Int32)) => ∃ (z0 : Int32) (z1 : Int32) (z2 : Int32) (z3 : Int32) (z4 : Nat → Int32) (z5 : Nat → Int32) (z6 : Nat → Int32) (z7 : Nat → Int32) (z8 : Nat → Int32) (z9 : Nat → Int32), u = (z0, z1, z2, z3, z4, z5, z6, z7, z8, z9) ∧ Q z0 z1 z2 z3 z4 z5 z6 z7 z8 z9) (zE D vwCl A (fun (u : Int32 × Int32 × Int32 × Int32 × (Nat → Int32) × (Nat → Int32) × (Nat → Int32) × (Nat → Int32) × (Nat → Int32) × (Nat → Int32)) => [((ad 0), oX8 ad m_said m_waved m_places m_end (u.1) (u.2.1) (u.2.2.1) (u.2.2.2.1) m_rounds m_sews), ((ad 1), aI cy 112 m_state), ((ad 17), aI cy 1400 (u.2.2.2.2.1)), ((ad 18), aI cy 1400 (u.2.2.2.2.2.1)), ((ad 19), aI cy 1400 (u.2.2.2.2.2.2.1)), ((ad 20), aI cy 1400 (u.2.2.2.2.2.2.2.1)), ((ad 21), aI cy 1400 (u.2.2.2.2.2.2.2.2.1)), ((ad 22), aI cy 8400 (u.2.2.2.2.2.2.2.2.2))])) A) A) args s 0 0 A) (F0 m 28 ls []) := by
      intro nn
      induction nn with
      | zero => intro x2 m_joints m_netPlaces m_finish m_from m_by m_toward m_one h; exact h.elim
      | succ nn hrc28 =>
        intro x2 m_joints m_netPlaces m_finish m_from m_by m_toward m_one h H locs ls hP hD hS hl
        have h : wb_X8_layRow_28 m_state x1 m_begin m_number m_next  Q (lpW8 (wb_X8_layRow_28 m_state x1 m_begin m_number m_next  Q) nn) x2 m_joints m_netPlaces m_finish m_from m_by m_toward m_one := h
        unfold wb_X8_layRow_28 at h
        refine lv_iload_n hx hb dX8_layRow_28 rfl (lv_at hl 2 rfl) ?_
        refine lv_aload_n hx hb dX8_layRow_29 rfl (lv_at hl 0 rfl) ?_
        refine va_get (D := D) (ci := 7) (v := .ref (ad 1)) (C := RX8) (T := TX8) (N := 35) hx hb hts iX8 hown hK hP 0 rfl rfl 0 (Nat.le_of_ble_eq_true rfl) (hts _ fl_X8_7) (fun _ h9 => h9) rfl dX8_layRow_30 ?_
        refine lv_bipush (v := (6 : Int32)) hx hb dX8_layRow_33 (by decide) ?_
        refine lv_iload_n hx hb dX8_layRow_35 rfl (lv_at hl 1 rfl) ?_
        refine lv_iadd hx hb dX8_layRow_36 ?_
        obtain ⟨hi_9, h⟩ := h
        refine va_iald hx hb hK hP 1 0 rfl rfl hi_9 dX8_layRow_37 ?_
        refine lv_icmp_ge (tgt := 80) hx hb dX8_layRow_38 (by decide) (fun c_10 => ?_) (fun c_10 => ?_)
        · have h := h.1 c_10
          refine lv_aload_n hx hb dX8_layRow_80 rfl (lv_at hl 0 rfl) ?_
          refine zc_Vv (As := []) (rest := []) (wc := [((ad 0), oX8 ad m_said m_waved m_places m_end m_joints m_netPlaces m_begin m_finish m_rounds m_sews), ((ad 17), aI cy 1400 m_from), ((ad 18), aI cy 1400 m_by), ((ad 19), aI cy 1400 m_toward), ((ad 20), aI cy 1400 m_one), ((ad 21), aI cy 1400 m_number), ((ad 22), aI cy 8400 m_next)]) (wr := [((ad 1), aI cy 112 m_state)]) hx hb hml hown hts hK hPW hA hl.1 hP hD hS ⟨Nat.zero_le _, Nat.zero_le _⟩ [0, 2, 3, 4, 5, 6, 7] [1] rfl rfl (by decide) (c_X8_foldNet l D cy (sz := _) (ad := ad) (m_said := m_said) (m_waved := m_waved) (m_places := m_places) (m_end := m_end) (m_joints := m_joints) (m_netPlaces := m_netPlaces) (m_begin := m_begin) (m_finish := m_finish) (m_rounds := m_rounds) (m_sews := m_sews) (m_from := m_from) (m_by := m_by) (m_toward := m_toward) (m_one := m_one) (m_number := m_number) (m_next := m_next) (h := h)) k_X8_265 ⟨rfl, rfl, (Nat.le_of_ble_eq_true rfl), (Nat.le_of_ble_eq_true rfl)⟩ rfl rfl rfl rfl (Nat.le_of_ble_eq_true rfl) dX8_layRow_81 (fun u_11 H locs h hP hD hS => ?_)
          obtain ⟨m_joints_11, m_netPlaces_11, m_begin_11, m_finish_11, m_from_11, m_by_11, m_toward_11, m_one_11, m_number_11, m_next_11, rfl, h⟩ := h
          have hP : va_P D vwCl [((ad 1), aI cy 112 m_state), ((ad 0), oX8 ad m_said m_waved m_places m_end m_joints_11 m_netPlaces_11 m_begin_11 m_finish_11 m_rounds m_sews), ((ad 17), aI cy 1400 m_from_11), ((ad 18), aI cy 1400 m_by_11), ((ad 19), aI cy 1400 m_toward_11), ((ad 20), aI cy 1400 m_one_11), ((ad 21), aI cy 1400 m_number_11), ((ad 22), aI cy 8400 m_next_11)] H := hP
          have hD : va_D A [((ad 1), aI cy 112 m_state), ((ad 0), oX8 ad m_said m_waved m_places m_end m_joints_11 m_netPlaces_11 m_begin_11 m_finish_11 m_rounds m_sews), ((ad 17), aI cy 1400 m_from_11), ((ad 18), aI cy 1400 m_by_11), ((ad 19), aI cy 1400 m_toward_11), ((ad 20), aI cy 1400 m_one_11), ((ad 21), aI cy 1400 m_number_11), ((ad 22), aI cy 8400 m_next_11)] := hD
          exact z_vret (m_joints_11, m_netPlaces_11, m_begin_11, m_finish_11, m_from_11, m_by_11, m_toward_11, m_one_11, m_number_11, m_next_11) hx hb hr hlocks ⟨m_joints_11, m_netPlaces_11, m_begin_11, m_finish_11, m_from_11, m_by_11, m_toward_11, m_one_11, m_number_11, m_next_11, rfl, h⟩ (hP.sub [1, 0, 2, 3, 4, 5, 6, 7] rfl) (hD.sub [1, 0, 2, 3, 4, 5, 6, 7] (by decide) rfl) hS dX8_layRow_84
        · have h := h.2 c_10
          refine lv_aload_n hx hb dX8_layRow_41 rfl (lv_at hl 0 rfl) ?_
          refine zc_Vi (As := []) (rest := []) (wc := [((ad 0), oX8 ad m_said m_waved m_places m_end m_joints m_netPlaces m_begin m_finish m_rounds m_sews), ((ad 20), aI cy 1400 m_one)]) (wr := [((ad 1), aI cy 112 m_state), ((ad 17), aI cy 1400 m_from), ((ad 18), aI cy 1400 m_by), ((ad 19), aI cy 1400 m_toward), ((ad 21), aI cy 1400 m_number), ((ad 22), aI cy 8400 m_next)]) hx hb hml hown hts hK hPW hA hl.1 hP hD hS ⟨Nat.zero_le _, Nat.zero_le _⟩ [0, 5] [1, 2, 3, 4, 6, 7] rfl rfl (by decide) (c_X8_newPlace l D cy (sz := _) (ad := ad) (m_said := m_said) (m_waved := m_waved) (m_places := m_places) (m_end := m_end) (m_joints := m_joints) (m_netPlaces := m_netPlaces) (m_begin := m_begin) (m_finish := m_finish) (m_rounds := m_rounds) (m_sews := m_sews) (m_one := m_one) (h := h)) k_X8_262 ⟨rfl, rfl, (Nat.le_of_ble_eq_true rfl), (Nat.le_of_ble_eq_true rfl)⟩ rfl rfl rfl rfl (Nat.le_of_ble_eq_true rfl) dX8_layRow_42 (fun r_12 u_12 H locs h hP hD hS => ?_)
          obtain ⟨m_netPlaces_12, m_one_12, rfl, h⟩ := h
          have hP : va_P D vwCl [((ad 1), aI cy 112 m_state), ((ad 17), aI cy 1400 m_from), ((ad 18), aI cy 1400 m_by), ((ad 19), aI cy 1400 m_toward), ((ad 21), aI cy 1400 m_number), ((ad 22), aI cy 8400 m_next), ((ad 0), oX8 ad m_said m_waved m_places m_end m_joints m_netPlaces_12 m_begin m_finish m_rounds m_sews), ((ad 20), aI cy 1400 m_one_12)] H := hP
          have hD : va_D A [((ad 1), aI cy 112 m_state), ((ad 17), aI cy 1400 m_from), ((ad 18), aI cy 1400 m_by), ((ad 19), aI cy 1400 m_toward), ((ad 21), aI cy 1400 m_number), ((ad 22), aI cy 8400 m_next), ((ad 0), oX8 ad m_said m_waved m_places m_end m_joints m_netPlaces_12 m_begin m_finish m_rounds m_sews), ((ad 20), aI cy 1400 m_one_12)] := hD
          refine lv_istore_n (lv' := [(3, .int r_12), (0, .ref (ad 0)), (1, .int x1), (2, .int x2)]) hx hb dX8_layRow_45 rfl hl (by decide) rfl (fun ls hl => ?_)
          refine lv_aload_n hx hb dX8_layRow_46 rfl (lv_at hl 1 rfl) ?_
          refine lv_aload_n hx hb dX8_layRow_47 rfl (lv_at hl 1 rfl) ?_
          refine va_get (D := D) (ci := 7) (v := .int m_finish) (C := RX8) (T := TX8) (N := 35) hx hb hts iX8 hown hK hP 6 rfl rfl 26 (Nat.le_of_ble_eq_true rfl) (hts _ fl_X8_241) (fun _ h9 => h9) rfl dX8_layRow_48 ?_
          refine lv_aload_n hx hb dX8_layRow_51 rfl (lv_at hl 1 rfl) ?_
          refine va_get (D := D) (ci := 7) (v := .ref (ad 1)) (C := RX8) (T := TX8) (N := 35) hx hb hts iX8 hown hK hP 6 rfl rfl 0 (Nat.le_of_ble_eq_true rfl) (hts _ fl_X8_7) (fun _ h9 => h9) rfl dX8_layRow_52 ?_
          refine lv_bipush (v := (10 : Int32)) hx hb dX8_layRow_55 (by decide) ?_
          refine lv_bipush (v := (12 : Int32)) hx hb dX8_layRow_57 (by decide) ?_
          refine lv_iload_n hx hb dX8_layRow_59 rfl (lv_at hl 2 rfl) ?_
          refine lv_imul hx hb dX8_layRow_60 ?_
          refine lv_iadd hx hb dX8_layRow_61 ?_
          refine lv_iload_n hx hb dX8_layRow_62 rfl (lv_at hl 3 rfl) ?_
          refine lv_iadd hx hb dX8_layRow_63 ?_
          obtain ⟨hi_13, h⟩ := h
          refine va_iald hx hb hK hP 0 0 rfl rfl hi_13 dX8_layRow_64 ?_
          refine lv_iload_n hx hb dX8_layRow_65 rfl (lv_at hl 0 rfl) ?_
          refine zc_Vv (As := [.int m_finish, .int (m_state (((10 : Int32) + ((12 : Int32) * x1)) + x2).toNatClampNeg), .int r_12]) (rest := []) (wc := [((ad 0), oX8 ad m_said m_waved m_places m_end m_joints m_netPlaces_12 m_begin m_finish m_rounds m_sews), ((ad 17), aI cy 1400 m_from), ((ad 18), aI cy 1400 m_by), ((ad 19), aI cy 1400 m_toward)]) (wr := [((ad 1), aI cy 112 m_state), ((ad 21), aI cy 1400 m_number), ((ad 22), aI cy 8400 m_next), ((ad 20), aI cy 1400 m_one_12)]) hx hb hml hown hts hK hPW hA hl.1 hP hD hS ⟨Nat.zero_le _, Nat.zero_le _⟩ [6, 1, 2, 3] [0, 4, 5, 7] rfl rfl (by decide) (c_X8_addJoint l D cy (sz := _) (x1 := m_finish) (x2 := (m_state (((10 : Int32) + ((12 : Int32) * x1)) + x2).toNatClampNeg)) (x3 := r_12) (ad := ad) (m_said := m_said) (m_waved := m_waved) (m_places := m_places) (m_end := m_end) (m_joints := m_joints) (m_netPlaces := m_netPlaces_12) (m_begin := m_begin) (m_finish := m_finish) (m_rounds := m_rounds) (m_sews := m_sews) (m_from := m_from) (m_by := m_by) (m_toward := m_toward) (h := h)) k_X8_244 ⟨rfl, rfl, (Nat.le_of_ble_eq_true rfl), (Nat.le_of_ble_eq_true rfl)⟩ rfl rfl rfl rfl (Nat.le_of_ble_eq_true rfl) dX8_layRow_66 (fun u_14 H locs h hP hD hS => ?_)
          obtain ⟨m_joints_14, m_from_14, m_by_14, m_toward_14, rfl, h⟩ := h
          have hP : va_P D vwCl [((ad 1), aI cy 112 m_state), ((ad 21), aI cy 1400 m_number), ((ad 22), aI cy 8400 m_next), ((ad 20), aI cy 1400 m_one_12), ((ad 0), oX8 ad m_said m_waved m_places m_end m_joints_14 m_netPlaces_12 m_begin m_finish m_rounds m_sews), ((ad 17), aI cy 1400 m_from_14), ((ad 18), aI cy 1400 m_by_14), ((ad 19), aI cy 1400 m_toward_14)] H := hP
          have hD : va_D A [((ad 1), aI cy 112 m_state), ((ad 21), aI cy 1400 m_number), ((ad 22), aI cy 8400 m_next), ((ad 20), aI cy 1400 m_one_12), ((ad 0), oX8 ad m_said m_waved m_places m_end m_joints_14 m_netPlaces_12 m_begin m_finish m_rounds m_sews), ((ad 17), aI cy 1400 m_from_14), ((ad 18), aI cy 1400 m_by_14), ((ad 19), aI cy 1400 m_toward_14)] := hD
          refine lv_aload_n hx hb dX8_layRow_69 rfl (lv_at hl 1 rfl) ?_
          refine lv_iload_n hx hb dX8_layRow_70 rfl (lv_at hl 0 rfl) ?_
          refine va_put (D := D) (ci := 7) (v := .int r_12) (ty := .int) (C := RX8) (T := TX8) (N := 35) hx hb hts iX8 tyX8 tyX8_ok nmX8 hown hK hP hD hS 4 rfl rfl 26 (Nat.le_of_ble_eq_true rfl) (hts _ fl_X8_241) (fun _ h9 => h9) rfl (by decide +kernel) rfl rfl (Nat.le_of_ble_eq_true rfl) dX8_layRow_71 (fun H locs hP hD hS => ?_)
          have hP : va_P D vwCl [((ad 1), aI cy 112 m_state), ((ad 21), aI cy 1400 m_number), ((ad 22), aI cy 8400 m_next), ((ad 20), aI cy 1400 m_one_12), ((ad 0), oX8 ad m_said m_waved m_places m_end m_joints_14 m_netPlaces_12 m_begin r_12 m_rounds m_sews), ((ad 17), aI cy 1400 m_from_14), ((ad 18), aI cy 1400 m_by_14), ((ad 19), aI cy 1400 m_toward_14)] H := hP
          have hD : va_D A [((ad 1), aI cy 112 m_state), ((ad 21), aI cy 1400 m_number), ((ad 22), aI cy 8400 m_next), ((ad 20), aI cy 1400 m_one_12), ((ad 0), oX8 ad m_said m_waved m_places m_end m_joints_14 m_netPlaces_12 m_begin r_12 m_rounds m_sews), ((ad 17), aI cy 1400 m_from_14), ((ad 18), aI cy 1400 m_by_14), ((ad 19), aI cy 1400 m_toward_14)] := hD
          obtain ⟨x2_15, e_x2_15⟩ : ∃ y : Int32, y = x2 + (1 : Int32) := ⟨_, rfl⟩
          refine lv_iinc (v := x2_15) (lv' := [(2, .int x2_15), (3, .int r_12), (0, .ref (ad 0)), (1, .int x1)]) hx hb dX8_layRow_74 hl (k := 3) rfl (by rw [e_x2_15]; rfl) (by decide) rfl (fun ls hl => ?_)
          have h := h x2_15 e_x2_15
          refine lv_goto (tgt := 28) hx hb dX8_layRow_77 (by decide) ?_
          exact hrc28 x2_15 m_joints_14 m_netPlaces_12 r_12 m_from_14 m_by_14 m_toward_14 m_one_12 h _ _ _ (hP.sub [4, 0, 5, 6, 7, 3, 1, 2] rfl) (hD.sub [4, 0, 5, 6, 7, 3, 1, 2] (by decide) rfl) hS (lv_sub hl [2, 3, 0] rfl)
    exact key nn x2 m_joints m_netPlaces m_finish m_from m_by m_toward m_one h
  unfold wp_X8_layRow at h
  refine lv_aload_n hx hb dX8_layRow_0 rfl (lv_at hl 0 rfl) ?_
  refine lv_iconst (v := (0 : Int32)) hx hb dX8_layRow_1 (by decide) ?_
  refine va_put (D := D) (ci := 7) (v := .int (0 : Int32)) (ty := .int) (C := RX8) (T := TX8) (N := 35) hx hb hts iX8 tyX8 tyX8_ok nmX8 hown hK hP hD hS 0 rfl rfl 23 (Nat.le_of_ble_eq_true rfl) (hts _ fl_X8_229) (fun _ h9 => h9) rfl (by decide +kernel) rfl rfl (Nat.le_of_ble_eq_true rfl) dX8_layRow_2 (fun H locs hP hD hS => ?_)
  have hP : va_P D vwCl [((ad 0), oX8 ad m_said m_waved m_places m_end (0 : Int32) m_netPlaces m_begin m_finish m_rounds m_sews), ((ad 1), aI cy 112 m_state), ((ad 17), aI cy 1400 m_from), ((ad 18), aI cy 1400 m_by), ((ad 19), aI cy 1400 m_toward), ((ad 20), aI cy 1400 m_one), ((ad 21), aI cy 1400 m_number), ((ad 22), aI cy 8400 m_next)] H := hP
  have hD : va_D A [((ad 0), oX8 ad m_said m_waved m_places m_end (0 : Int32) m_netPlaces m_begin m_finish m_rounds m_sews), ((ad 1), aI cy 112 m_state), ((ad 17), aI cy 1400 m_from), ((ad 18), aI cy 1400 m_by), ((ad 19), aI cy 1400 m_toward), ((ad 20), aI cy 1400 m_one), ((ad 21), aI cy 1400 m_number), ((ad 22), aI cy 8400 m_next)] := hD
  refine lv_aload_n hx hb dX8_layRow_5 rfl (lv_at hl 0 rfl) ?_
  refine lv_iconst (v := (0 : Int32)) hx hb dX8_layRow_6 (by decide) ?_
  refine va_put (D := D) (ci := 7) (v := .int (0 : Int32)) (ty := .int) (C := RX8) (T := TX8) (N := 35) hx hb hts iX8 tyX8 tyX8_ok nmX8 hown hK hP hD hS 0 rfl rfl 24 (Nat.le_of_ble_eq_true rfl) (hts _ fl_X8_226) (fun _ h9 => h9) rfl (by decide +kernel) rfl rfl (Nat.le_of_ble_eq_true rfl) dX8_layRow_7 (fun H locs hP hD hS => ?_)
  have hP : va_P D vwCl [((ad 0), oX8 ad m_said m_waved m_places m_end (0 : Int32) (0 : Int32) m_begin m_finish m_rounds m_sews), ((ad 1), aI cy 112 m_state), ((ad 17), aI cy 1400 m_from), ((ad 18), aI cy 1400 m_by), ((ad 19), aI cy 1400 m_toward), ((ad 20), aI cy 1400 m_one), ((ad 21), aI cy 1400 m_number), ((ad 22), aI cy 8400 m_next)] H := hP
  have hD : va_D A [((ad 0), oX8 ad m_said m_waved m_places m_end (0 : Int32) (0 : Int32) m_begin m_finish m_rounds m_sews), ((ad 1), aI cy 112 m_state), ((ad 17), aI cy 1400 m_from), ((ad 18), aI cy 1400 m_by), ((ad 19), aI cy 1400 m_toward), ((ad 20), aI cy 1400 m_one), ((ad 21), aI cy 1400 m_number), ((ad 22), aI cy 8400 m_next)] := hD
  refine lv_aload_n hx hb dX8_layRow_10 rfl (lv_at hl 0 rfl) ?_
  refine lv_aload_n hx hb dX8_layRow_11 rfl (lv_at hl 0 rfl) ?_
  refine zc_Vi (As := []) (rest := [.ref (ad 0)]) (wc := [((ad 0), oX8 ad m_said m_waved m_places m_end (0 : Int32) (0 : Int32) m_begin m_finish m_rounds m_sews), ((ad 20), aI cy 1400 m_one)]) (wr := [((ad 1), aI cy 112 m_state), ((ad 17), aI cy 1400 m_from), ((ad 18), aI cy 1400 m_by), ((ad 19), aI cy 1400 m_toward), ((ad 21), aI cy 1400 m_number), ((ad 22), aI cy 8400 m_next)]) hx hb hml hown hts hK hPW hA hl.1 hP hD hS ⟨Nat.zero_le _, Nat.zero_le _⟩ [0, 5] [1, 2, 3, 4, 6, 7] rfl rfl (by decide) (c_X8_newPlace l D cy (sz := _) (ad := ad) (m_said := m_said) (m_waved := m_waved) (m_places := m_places) (m_end := m_end) (m_joints := (0 : Int32)) (m_netPlaces := (0 : Int32)) (m_begin := m_begin) (m_finish := m_finish) (m_rounds := m_rounds) (m_sews := m_sews) (m_one := m_one) (h := h)) k_X8_262 ⟨rfl, rfl, (Nat.le_of_ble_eq_true rfl), (Nat.le_of_ble_eq_true rfl)⟩ rfl rfl rfl rfl (Nat.le_of_ble_eq_true rfl) dX8_layRow_12 (fun r_16 u_16 H locs h hP hD hS => ?_)
  obtain ⟨m_netPlaces_16, m_one_16, rfl, h⟩ := h
  have hP : va_P D vwCl [((ad 1), aI cy 112 m_state), ((ad 17), aI cy 1400 m_from), ((ad 18), aI cy 1400 m_by), ((ad 19), aI cy 1400 m_toward), ((ad 21), aI cy 1400 m_number), ((ad 22), aI cy 8400 m_next), ((ad 0), oX8 ad m_said m_waved m_places m_end (0 : Int32) m_netPlaces_16 m_begin m_finish m_rounds m_sews), ((ad 20), aI cy 1400 m_one_16)] H := hP
  have hD : va_D A [((ad 1), aI cy 112 m_state), ((ad 17), aI cy 1400 m_from), ((ad 18), aI cy 1400 m_by), ((ad 19), aI cy 1400 m_toward), ((ad 21), aI cy 1400 m_number), ((ad 22), aI cy 8400 m_next), ((ad 0), oX8 ad m_said m_waved m_places m_end (0 : Int32) m_netPlaces_16 m_begin m_finish m_rounds m_sews), ((ad 20), aI cy 1400 m_one_16)] := hD
  refine va_put (D := D) (ci := 7) (v := .int r_16) (ty := .int) (C := RX8) (T := TX8) (N := 35) hx hb hts iX8 tyX8 tyX8_ok nmX8 hown hK hP hD hS 6 rfl rfl 25 (Nat.le_of_ble_eq_true rfl) (hts _ fl_X8_238) (fun _ h9 => h9) rfl (by decide +kernel) rfl rfl (Nat.le_of_ble_eq_true rfl) dX8_layRow_15 (fun H locs hP hD hS => ?_)
  have hP : va_P D vwCl [((ad 1), aI cy 112 m_state), ((ad 17), aI cy 1400 m_from), ((ad 18), aI cy 1400 m_by), ((ad 19), aI cy 1400 m_toward), ((ad 21), aI cy 1400 m_number), ((ad 22), aI cy 8400 m_next), ((ad 0), oX8 ad m_said m_waved m_places m_end (0 : Int32) m_netPlaces_16 r_16 m_finish m_rounds m_sews), ((ad 20), aI cy 1400 m_one_16)] H := hP
  have hD : va_D A [((ad 1), aI cy 112 m_state), ((ad 17), aI cy 1400 m_from), ((ad 18), aI cy 1400 m_by), ((ad 19), aI cy 1400 m_toward), ((ad 21), aI cy 1400 m_number), ((ad 22), aI cy 8400 m_next), ((ad 0), oX8 ad m_said m_waved m_places m_end (0 : Int32) m_netPlaces_16 r_16 m_finish m_rounds m_sews), ((ad 20), aI cy 1400 m_one_16)] := hD
  refine lv_aload_n hx hb dX8_layRow_18 rfl (lv_at hl 0 rfl) ?_
  refine lv_aload_n hx hb dX8_layRow_19 rfl (lv_at hl 0 rfl) ?_
  refine va_get (D := D) (ci := 7) (v := .int r_16) (C := RX8) (T := TX8) (N := 35) hx hb hts iX8 hown hK hP 6 rfl rfl 25 (Nat.le_of_ble_eq_true rfl) (hts _ fl_X8_238) (fun _ h9 => h9) rfl dX8_layRow_20 ?_
  refine va_put (D := D) (ci := 7) (v := .int r_16) (ty := .int) (C := RX8) (T := TX8) (N := 35) hx hb hts iX8 tyX8 tyX8_ok nmX8 hown hK hP hD hS 6 rfl rfl 26 (Nat.le_of_ble_eq_true rfl) (hts _ fl_X8_241) (fun _ h9 => h9) rfl (by decide +kernel) rfl rfl (Nat.le_of_ble_eq_true rfl) dX8_layRow_23 (fun H locs hP hD hS => ?_)
  have hP : va_P D vwCl [((ad 1), aI cy 112 m_state), ((ad 17), aI cy 1400 m_from), ((ad 18), aI cy 1400 m_by), ((ad 19), aI cy 1400 m_toward), ((ad 21), aI cy 1400 m_number), ((ad 22), aI cy 8400 m_next), ((ad 0), oX8 ad m_said m_waved m_places m_end (0 : Int32) m_netPlaces_16 r_16 r_16 m_rounds m_sews), ((ad 20), aI cy 1400 m_one_16)] H := hP
  have hD : va_D A [((ad 1), aI cy 112 m_state), ((ad 17), aI cy 1400 m_from), ((ad 18), aI cy 1400 m_by), ((ad 19), aI cy 1400 m_toward), ((ad 21), aI cy 1400 m_number), ((ad 22), aI cy 8400 m_next), ((ad 0), oX8 ad m_said m_waved m_places m_end (0 : Int32) m_netPlaces_16 r_16 r_16 m_rounds m_sews), ((ad 20), aI cy 1400 m_one_16)] := hD
  refine lv_iconst (v := (0 : Int32)) hx hb dX8_layRow_26 (by decide) ?_
  refine lv_istore_n (lv' := [(2, .int (0 : Int32)), (0, .ref (ad 0)), (1, .int x1)]) hx hb dX8_layRow_27 rfl hl (by decide) rfl (fun ls hl => ?_)
  exact hJ28 x1 (0 : Int32) (0 : Int32) m_netPlaces_16 r_16 r_16 m_from m_by m_toward m_one_16 m_number m_next   h _ _ _ (hP.sub [6, 0, 1, 2, 3, 7, 4, 5] rfl) (hD.sub [6, 0, 1, 2, 3, 7, 4, 5] (by decide) rfl) hS (lv_sub hl [1, 2, 0] rfl)
set_option maxHeartbeats 4000000 in
set_option maxRecDepth 100000 in
theorem c_X8_layNet (l : Launch) (D : va_G) (cy : Nat → ClassId) (ad : Nat → Nat) (sz : Nat) (m_said : Int32) (m_waved : Int32) (m_places : Int32) (m_end : Int32) (m_joints : Int32) (m_netPlaces : Int32) (m_begin : Int32) (m_finish : Int32) (m_rounds : Int32) (m_sews : Int32) (m_state : Nat → Int32) (m_from : Nat → Int32) (m_by : Nat → Int32) (m_toward : Nat → Int32) (m_one : Nat → Int32) (m_number : Nat → Int32) (m_next : Nat → Int32) (m_sewSide : Nat → Int32) (m_sewFrom : Nat → Int32) (m_sewTo : Nat → Int32) (x1 : Int32) {Q : Int32 → Int32 → Int32 → Int32 → Int32 → Int32 → Int32 → (Nat → Int32) → (Nat → Int32) → (Nat → Int32) → (Nat → Int32) → (Nat → Int32) → (Nat → Int32) → (Nat → Int32) → (Nat → Int32) → (Nat → Int32) → Prop} (h : wp_X8_layNet x1 m_joints m_netPlaces m_begin m_finish m_rounds m_sews m_state m_from m_by m_toward m_one m_number m_next m_sewSide m_sewFrom m_sewTo Q) : Met l yX8_layNet (wsU yX8_layNet cX8_layNet 3 (some .boolean)) { frames := 5, cells := 0, slots := 0, locals := 114 } (va_Pc [.ref (ad 0), .int x1] (zB D vwCl (tyU cy) [((ad 0), oX8 ad m_said m_waved m_places m_end m_joints m_netPlaces m_begin m_finish m_rounds m_sews), ((ad 1), aI cy 112 m_state), ((ad 17), aI cy 1400 m_from), ((ad 18), aI cy 1400 m_by), ((ad 19), aI cy 1400 m_toward), ((ad 20), aI cy 1400 m_one), ((ad 21), aI cy 1400 m_number), ((ad 22), aI cy 8400 m_next), ((ad 23), aI cy 96 m_sewSide), ((ad 24), aI cy 96 m_sewFrom), ((ad 25), aI cy 96 m_sewTo)] sz)) ((fun A => va_Qi (fun (r : Int32) (u : Int32 × Int32 × Int32 × Int32 × Int32 × Int32 × (Nat → Int32) × (Nat → Int32) × (Nat → Int32) × (Nat → Int32) × (Nat → Int32) × (Nat → Int32) × (Nat → Int32) × (Nat → Int32) × (Nat → Int32)) => ∃ (z0 : Int32) (z1 : Int32) (z2 : Int32) (z3 : Int32) (z4 : Int32) (z5 : Int32) (z6 : Nat → Int32) (z7 : Nat → Int32) (z8 : Nat → Int32) (z9 : Nat → Int32) (z10 : Nat → Int32) (z11 : Nat → Int32) (z12 : Nat → Int32) (z13 : Nat → Int32) (z14 : Nat → Int32), u = (z0, z1, z2, z3, z4, z5, z6, z7, z8, z9, z10, z11, z12, z13, z14) ∧ Q r z0 z1 z2 z3 z4 z5 z6 z7 z8 z9 z10 z11 z12 z13 z14) (zE D vwCl A (fun (u : Int32 × Int32 × Int32 × Int32 × Int32 × Int32 × (Nat → Int32) × (Nat → Int32) × (Nat → Int32) × (Nat → Int32) × (Nat → Int32) × (Nat → Int32) × (Nat → Int32) × (Nat → Int32) × (Nat → Int32)) => [((ad 0), oX8 ad m_said m_waved m_places m_end (u.1) (u.2.1) (u.2.2.1) (u.2.2.2.1) (u.2.2.2.2.1) (u.2.2.2.2.2.1)), ((ad 1), aI cy 112 m_state), ((ad 17), aI cy 1400 (u.2.2.2.2.2.2.1)), ((ad 18), aI cy 1400 (u.2.2.2.2.2.2.2.1)), ((ad 19), aI cy 1400 (u.2.2.2.2.2.2.2.2.1)), ((ad 20), aI cy 1400 (u.2.2.2.2.2.2.2.2.2.1)), ((ad 21), aI cy 1400 (u.2.2.2.2.2.2.2.2.2.2.1)), ((ad 22), aI cy 8400 (u.2.2.2.2.2.2.2.2.2.2.2.1)), ((ad 23), aI cy 96 (u.2.2.2.2.2.2.2.2.2.2.2.2.1)), ((ad 24), aI cy 96 (u.2.2.2.2.2.2.2.2.2.2.2.2.2.1)), ((ad 25), aI cy 96 (u.2.2.2.2.2.2.2.2.2.2.2.2.2.2))])) A) (va_A [((ad 0), oX8 ad m_said m_waved m_places m_end m_joints m_netPlaces m_begin m_finish m_rounds m_sews), ((ad 1), aI cy 112 m_state), ((ad 17), aI cy 1400 m_from), ((ad 18), aI cy 1400 m_by), ((ad 19), aI cy 1400 m_toward), ((ad 20), aI cy 1400 m_one), ((ad 21), aI cy 1400 m_number), ((ad 22), aI cy 8400 m_next), ((ad 23), aI cy 96 m_sewSide), ((ad 24), aI cy 96 m_sewFrom), ((ad 25), aI cy 96 m_sewTo)] sz)) 0 0 (va_A [((ad 0), oX8 ad m_said m_waved m_places m_end m_joints m_netPlaces m_begin m_finish m_rounds m_sews), ((ad 1), aI cy 112 m_state), ((ad 17), aI cy 1400 m_from), ((ad 18), aI cy 1400 m_by), ((ad 19), aI cy 1400 m_toward), ((ad 20), aI cy 1400 m_one), ((ad 21), aI cy 1400 m_number), ((ad 22), aI cy 8400 m_next), ((ad 23), aI cy 96 m_sewSide), ((ad 24), aI cy 96 m_sewFrom), ((ad 25), aI cy 96 m_sewTo)] sz) := by
  refine z_ofX (fun A => va_Qi (fun (r : Int32) (u : Int32 × Int32 × Int32 × Int32 × Int32 × Int32 × (Nat → Int32) × (Nat → Int32) × (Nat → Int32) × (Nat → Int32) × (Nat → Int32) × (Nat → Int32) × (Nat → Int32) × (Nat → Int32) × (Nat → Int32)) => ∃ (z0 : Int32) (z1 : Int32) (z2 : Int32) (z3 : Int32) (z4 : Int32) (z5 : Int32) (z6 : Nat → Int32) (z7 : Nat → Int32) (z8 : Nat → Int32) (z9 : Nat → Int32) (z10 : Nat → Int32) (z11 : Nat → Int32) (z12 : Nat → Int32) (z13 : Nat → Int32) (z14 : Nat → Int32), u = (z0, z1, z2, z3, z4, z5, z6, z7, z8, z9, z10, z11, z12, z13, z14) ∧ Q r z0 z1 z2 z3 z4 z5 z6 z7 z8 z9 z10 z11 z12 z13 z14) (zE D vwCl A (fun (u : Int32 × Int32 × Int32 × Int32 × Int32 × Int32 × (Nat → Int32) × (Nat → Int32) × (Nat → Int32) × (Nat → Int32) × (Nat → Int32) × (Nat → Int32) × (Nat → Int32) × (Nat → Int32) × (Nat → Int32)) => [((ad 0), oX8 ad m_said m_waved m_places m_end (u.1) (u.2.1) (u.2.2.1) (u.2.2.2.1) (u.2.2.2.2.1) (u.2.2.2.2.2.1)), ((ad 1), aI cy 112 m_state), ((ad 17), aI cy 1400 (u.2.2.2.2.2.2.1)), ((ad 18), aI cy 1400 (u.2.2.2.2.2.2.2.1)), ((ad 19), aI cy 1400 (u.2.2.2.2.2.2.2.2.1)), ((ad 20), aI cy 1400 (u.2.2.2.2.2.2.2.2.2.1)), ((ad 21), aI cy 1400 (u.2.2.2.2.2.2.2.2.2.2.1)), ((ad 22), aI cy 8400 (u.2.2.2.2.2.2.2.2.2.2.2.1)), ((ad 23), aI cy 96 (u.2.2.2.2.2.2.2.2.2.2.2.2.1)), ((ad 24), aI cy 96 (u.2.2.2.2.2.2.2.2.2.2.2.2.2.1)), ((ad 25), aI cy 96 (u.2.2.2.2.2.2.2.2.2.2.2.2.2.2))])) A) (by decide) (Nat.le_of_ble_eq_true rfl) (fun p e s m below meth c A ls hx hb hr hml hown hts hlocks hK hPW hA hP hD hS hl => ?_)
  have hl : lv_has ls 3 [(0, .ref (ad 0)), (1, .int x1)] := hl
  have hown : s.vm.findClass RX8 = some m.cls := hown
  generalize hArg : ([.ref (ad 0), .int x1] : List Value).toArray = args at hts ⊢
  have hJ34 : ∀ (x2 : Int32) (m_joints : Int32) (m_netPlaces : Int32) (m_begin : Int32) (m_finish : Int32) (m_rounds : Int32) (m_sews : Int32) (m_from : Nat → Int32) (m_by : Nat → Int32) (m_toward : Nat → Int32) (m_one : Nat → Int32) (m_number : Nat → Int32) (m_next : Nat → Int32) (m_sewSide : Nat → Int32) (m_sewFrom : Nat → Int32) (m_sewTo : Nat → Int32) (rc14 : Int32 → Int32 → Int32 → Int32 → Int32 → Int32 → (Nat → Int32) → (Nat → Int32) → (Nat → Int32) → (Nat → Int32) → (Nat → Int32) → (Nat → Int32) → (Nat → Int32) → (Nat → Int32) → (Nat → Int32) → Prop) (hrc14 : ∀ (m_joints : Int32) (m_netPlaces : Int32) (m_begin : Int32) (m_finish : Int32) (m_rounds : Int32) (m_sews : Int32) (m_from : Nat → Int32) (m_by : Nat → Int32) (m_toward : Nat → Int32) (m_one : Nat → Int32) (m_number : Nat → Int32) (m_next : Nat → Int32) (m_sewSide : Nat → Int32) (m_sewFrom : Nat → Int32) (m_sewTo : Nat → Int32), rc14 m_joints m_netPlaces m_begin m_finish m_rounds m_sews m_from m_by m_toward m_one m_number m_next m_sewSide m_sewFrom m_sewTo → ∀ (H : Heap) (locs : List Loc) (ls : Array Slot), va_P D vwCl [((ad 0), oX8 ad m_said m_waved m_places m_end m_joints m_netPlaces m_begin m_finish m_rounds m_sews), ((ad 1), aI cy 112 m_state), ((ad 17), aI cy 1400 m_from), ((ad 18), aI cy 1400 m_by), ((ad 19), aI cy 1400 m_toward), ((ad 20), aI cy 1400 m_one), ((ad 21), aI cy 1400 m_number), ((ad 22), aI cy 8400 m_next), ((ad 23), aI cy 96 m_sewSide), ((ad 24), aI cy 96 m_sewFrom), ((ad 25), aI cy 96 m_sewTo)] H → va_D A [((ad 0), oX8 ad m_said m_waved m_places m_end m_joints m_netPlaces m_begin m_finish m_rounds m_sews), ((ad 1), aI cy 112 m_state), ((ad 17), aI cy 1400 m_from), ((ad 18), aI cy 1400 m_by), ((ad 19), aI cy 1400 m_toward), ((ad 20), aI cy 1400 m_one), ((ad 21), aI cy 1400 m_number), ((ad 22), aI cy 8400 m_next), ((ad 23), aI cy 96 m_sewSide), ((ad 24), aI cy 96 m_sewFrom), ((ad 25), aI cy 96 m_sewTo)] → va_S A s.heap H locs → lv_has ls 3 [(0, .ref (ad 0))] → W p l e { frames := 5, cells := 0, slots := 0, locals := 114 } s m args below meth c H locs 0 0 (MQ below ((fun A => va_Qi (fun (r : Int32) (u : Int32 × Int32 × Int32 × Int32 × Int32 × Int32 × (Nat → Int32) × (Nat → Int32) × (Nat → Int32) × (Nat → Int32) × (Nat → Int32) × (Nat → Int32) × (Nat → Int32) × (Nat → Int32) × (Nat → Int32)) => ∃ (z0 : Int32) (z1 : Int32) (z2 : Int32) (z3 : Int32) (z4 : Int32) (z5 : Int32) (z6 : Nat → Int32) (z7 : Nat → Int32) (z8 : Nat → Int32) (z9 : Nat → Int32) (z10 : Nat → Int32) (z11 : Nat → Int32) (z12 : Nat → Int32) (z13 : Nat → Int32) (z14 : Nat → Int32), u = (z0, z1, z2, z3, z4, z5, z6, z7, z8, z9, z10, z11, z12, z13, z14) ∧ Q r z0 z1 z2 z3 z4 z5 z6 z7 z8 z9 z10 z11 z12 z13 z14) (zE D vwCl A (fun (u : Int32 × Int32 × Int32 × Int32 × Int32 × Int32 × (Nat → Int32) × (Nat → Int32) × (Nat → Int32) × (Nat → Int32) × (Nat → Int32) × (Nat → Int32) × (Nat → Int32) × (Nat → Int32) × (Nat → Int32)) => [((ad 0), oX8 ad m_said m_waved m_places m_end (u.1) (u.2.1) (u.2.2.1) (u.2.2.2.1) (u.2.2.2.2.1) (u.2.2.2.2.2.1)), ((ad 1), aI cy 112 m_state), ((ad 17), aI cy 1400 (u.2.2.2.2.2.2.1)), ((ad 18), aI cy 1400 (u.2.2.2.2.2.2.2.1)), ((ad 19), aI cy 1400 (u.2.2.2.2.2.2.2.2.1)), ((ad 20), aI cy 1400 (u.2.2.2.2.2.2.2.2.2.1)), ((ad 21), aI cy 1400 (u.2.2.2.2.2.2.2.2.2.2.1)), ((ad 22), aI cy 8400 (u.2.2.2.2.2.2.2.2.2.2.2.1)), ((ad 23), aI cy 96 (u.2.2.2.2.2.2.2.2.2.2.2.2.1)), ((ad 24), aI cy 96 (u.2.2.2.2.2.2.2.2.2.2.2.2.2.1)), ((ad 25), aI cy 96 (u.2.2.2.2.2.2.2.2.2.2.2.2.2.2))])) A) A) args s 0 0 A) (F0 m 14 ls [])), wp_X8_layNet_34 m_state m_begin m_finish m_rounds m_sews m_number m_next m_sewSide m_sewFrom m_sewTo rc14 Q x2 m_joints m_netPlaces m_from m_by m_toward m_one → ∀ (H : Heap) (locs : List Loc) (ls : Array Slot), va_P D vwCl [((ad 0), oX8 ad m_said m_waved m_places m_end m_joints m_netPlaces m_begin m_finish m_rounds m_sews), ((ad 1), aI cy 112 m_state), ((ad 17), aI cy 1400 m_from), ((ad 18), aI cy 1400 m_by), ((ad 19), aI cy 1400 m_toward), ((ad 20), aI cy 1400 m_one), ((ad 21), aI cy 1400 m_number), ((ad 22), aI cy 8400 m_next), ((ad 23), aI cy 96 m_sewSide), ((ad 24), aI cy 96 m_sewFrom), ((ad 25), aI cy 96 m_sewTo)] H → va_D A [((ad 0), oX8 ad m_said m_waved m_places m_end m_joints m_netPlaces m_begin m_finish m_rounds m_sews), ((ad 1), aI cy 112 m_state), ((ad 17), aI cy 1400 m_from), ((ad 18), aI cy 1400 m_by), ((ad 19), aI cy 1400 m_toward), ((ad 20), aI cy 1400 m_one), ((ad 21), aI cy 1400 m_number), ((ad 22), aI cy 8400 m_next), ((ad 23), aI cy 96 m_sewSide), ((ad 24), aI cy 96 m_sewFrom), ((ad 25), aI cy 96 m_sewTo)] → va_S A s.heap H locs → lv_has ls 3 [(0, .ref (ad 0)), (2, .int x2)] → W p l e { frames := 5, cells := 0, slots := 0, locals := 114 } s m args below meth c H locs 0 0 (MQ below ((fun A => va_Qi (fun (r : Int32) (u : Int32 × Int32 × Int32 × Int32 × Int32 × Int32 × (Nat → Int32) × (Nat → Int32) × (Nat → Int32) × (Nat → Int32) × (Nat → Int32) × (Nat → Int32) × (Nat → Int32) × (Nat → Int32) × (Nat → Int32)) => ∃ (z0 : Int32) (z1 : Int32) (z2 : Int32) (z3 : Int32) (z4 : Int32) (z5 : Int32) (z6 : Nat → Int32) (z7 : Nat → Int32) (z8 : Nat → Int32) (z9 : Nat → Int32) (z10 : Nat → Int32) (z11 : Nat → Int32) (z12 : Nat → Int32) (z13 : Nat → Int32) (z14 : Nat → Int32), u = (z0, z1, z2, z3, z4, z5, z6, z7, z8, z9, z10, z11, z12, z13, z14) ∧ Q r z0 z1 z2 z3 z4 z5 z6 z7 z8 z9 z10 z11 z12 z13 z14) (zE D vwCl A (fun (u : Int32 × Int32 × Int32 × Int32 × Int32 × Int32 × (Nat → Int32) × (Nat → Int32) × (Nat → Int32) × (Nat → Int32) × (Nat → Int32) × (Nat → Int32) × (Nat → Int32) × (Nat → Int32) × (Nat → Int32)) => [((ad 0), oX8 ad m_said m_waved m_places m_end (u.1) (u.2.1) (u.2.2.1) (u.2.2.2.1) (u.2.2.2.2.1) (u.2.2.2.2.2.1)), ((ad 1), aI cy 112 m_state), ((ad 17), aI cy 1400 (u.2.2.2.2.2.2.1)), ((ad 18), aI cy 1400 (u.2.2.2.2.2.2.2.1)), ((ad 19), aI cy 1400 (u.2.2.2.2.2.2.2.2.1)), ((ad 20), aI cy 1400 (u.2.2.2.2.2.2.2.2.2.1)), ((ad 21), aI cy 1400 (u.2.2.2.2.2.2.2.2.2.2.1)), ((ad 22), aI cy 8400 (u.2.2.2.2.2.2.2.2.2.2.2.1)), ((ad 23), aI cy 96 (u.2.2.2.2.2.2.2.2.2.2.2.2.1)), ((ad 24), aI cy 96 (u.2.2.2.2.2.2.2.2.2.2.2.2.2.1)), ((ad 25), aI cy 96 (u.2.2.2.2.2.2.2.2.2.2.2.2.2.2))])) A) A) args s 0 0 A) (F0 m 34 ls []) := by
    intro x2 m_joints m_netPlaces m_begin m_finish m_rounds m_sews m_from m_by m_toward m_one m_number m_next m_sewSide m_sewFrom m_sewTo rc14 hrc14  h
    obtain ⟨nn, h⟩ := h
    have key : ∀ (nn : Nat) (x2 : Int32) (m_joints : Int32) (m_netPlaces : Int32) (m_from : Nat → Int32) (m_by : Nat → Int32) (m_toward : Nat → Int32) (m_one : Nat → Int32), lpW7 (wb_X8_layNet_34 m_state m_begin m_finish m_rounds m_sews m_number m_next m_sewSide m_sewFrom m_sewTo rc14 Q) nn x2 m_joints m_netPlaces m_from m_by m_toward m_one → ∀ (H : Heap) (locs : List Loc) (ls : Array Slot), va_P D vwCl [((ad 0), oX8 ad m_said m_waved m_places m_end m_joints m_netPlaces m_begin m_finish m_rounds m_sews), ((ad 1), aI cy 112 m_state), ((ad 17), aI cy 1400 m_from), ((ad 18), aI cy 1400 m_by), ((ad 19), aI cy 1400 m_toward), ((ad 20), aI cy 1400 m_one), ((ad 21), aI cy 1400 m_number), ((ad 22), aI cy 8400 m_next), ((ad 23), aI cy 96 m_sewSide), ((ad 24), aI cy 96 m_sewFrom), ((ad 25), aI cy 96 m_sewTo)] H → va_D A [((ad 0), oX8 ad m_said m_waved m_places m_end m_joints m_netPlaces m_begin m_finish m_rounds m_sews), ((ad 1), aI cy 112 m_state), ((ad 17), aI cy 1400 m_from), ((ad 18), aI cy 1400 m_by), ((ad 19), aI cy 1400 m_toward), ((ad 20), aI cy 1400 m_one), ((ad 21), aI cy 1400 m_number), ((ad 22), aI cy 8400 m_next), ((ad 23), aI cy 96 m_sewSide), ((ad 24), aI cy 96 m_sewFrom), ((ad 25), aI cy 96 m_sewTo)] → va_S A s.heap H locs → lv_has ls 3 [(0, .ref (ad 0)), (2, .int x2)] → W p l e { frames := 5, cells := 0, slots := 0, locals := 114 } s m args below meth c H locs 0 0 (MQ below ((fun A => va_Qi (fun (r : Int32) (u : Int32 × Int32 × Int32 × Int32 × Int32 × Int32 × (Nat → Int32) × (Nat → Int32) × (Nat → Int32) × (Nat → Int32) × (Nat → Int32) × (Nat → Int32) × (Nat → Int32) × (Nat → Int32) × (Nat → Int32)) => ∃ (z0 : Int32) (z1 : Int32) (z2 : Int32) (z3 : Int32) (z4 : Int32) (z5 : Int32) (z6 : Nat → Int32) (z7 : Nat → Int32) (z8 : Nat → Int32) (z9 : Nat → Int32) (z10 : Nat → Int32) (z11 : Nat → Int32) (z12 : Nat → Int32) (z13 : Nat → Int32) (z14 : Nat → Int32), u = (z0, z1, z2, z3, z4, z5, z6, z7, z8, z9, z10, z11, z12, z13, z14) ∧ Q r z0 z1 z2 z3 z4 z5 z6 z7 z8 z9 z10 z11 z12 z13 z14) (zE D vwCl A (fun (u : Int32 × Int32 × Int32 × Int32 × Int32 × Int32 × (Nat → Int32) × (Nat → Int32) × (Nat → Int32) × (Nat → Int32) × (Nat → Int32) × (Nat → Int32) × (Nat → Int32) × (Nat → Int32) × (Nat → Int32)) => [((ad 0), oX8 ad m_said m_waved m_places m_end (u.1) (u.2.1) (u.2.2.1) (u.2.2.2.1) (u.2.2.2.2.1) (u.2.2.2.2.2.1)), ((ad 1), aI cy 112 m_state), ((ad 17), aI cy 1400 (u.2.2.2.2.2.2.1)), ((ad 18), aI cy 1400 (u.2.2.2.2.2.2.2.1)), ((ad 19), aI cy 1400 (u.2.2.2.2.2.2.2.2.1)), ((ad 20), aI cy 1400 (u.2.2.2.2.2.2.2.2.2.1)), ((ad 21), aI cy 1400 (u.2.2.2.2.2.2.2.2.2.2.1)), ((ad 22), aI cy 8400 (u.2.2.2.2.2.2.2.2.2.2.2.1)), ((ad 23), aI cy 96 (u.2.2.2.2.2.2.2.2.2.2.2.2.1)), ((ad 24), aI cy 96 (u.2.2.2.2.2.2.2.2.2.2.2.2.2.1)), ((ad 25), aI cy 96 (u.2.2.2.2.2.2.2.2.2.2.2.2.2.2))])) A) A) args s 0 0 A) (F0 m 34 ls []) := by
      intro nn
      induction nn with
      | zero => intro x2 m_joints m_netPlaces m_from m_by m_toward m_one h; exact h.elim
      | succ nn hrc34 =>
        intro x2 m_joints m_netPlaces m_from m_by m_toward m_one h H locs ls hP hD hS hl
        have h : wb_X8_layNet_34 m_state m_begin m_finish m_rounds m_sews m_number m_next m_sewSide m_sewFrom m_sewTo rc14 Q (lpW7 (wb_X8_layNet_34 m_state m_begin m_finish m_rounds m_sews m_number m_next m_sewSide m_sewFrom m_sewTo rc14 Q) nn) x2 m_joints m_netPlaces m_from m_by m_toward m_one := h
        unfold wb_X8_layNet_34 at h
        refine lv_iload_n hx hb dX8_layNet_34 rfl (lv_at hl 1 rfl) ?_
        refine lv_aload_n hx hb dX8_layNet_35 rfl (lv_at hl 0 rfl) ?_
        refine va_get (D := D) (ci := 7) (v := .int m_sews) (C := RX8) (T := TX8) (N := 35) hx hb hts iX8 hown hK hP 0 rfl rfl 34 (Nat.le_of_ble_eq_true rfl) (hts _ fl_X8_256) (fun _ h9 => h9) rfl dX8_layNet_36 ?_
        refine lv_icmp_ge (tgt := 70) hx hb dX8_layNet_39 (by decide) (fun c_14 => ?_) (fun c_14 => ?_)
        · have h := h.1 c_14
          refine lv_aload_n hx hb dX8_layNet_70 rfl (lv_at hl 0 rfl) ?_
          refine zc_Vv (As := []) (rest := []) (wc := [((ad 0), oX8 ad m_said m_waved m_places m_end m_joints m_netPlaces m_begin m_finish m_rounds m_sews), ((ad 17), aI cy 1400 m_from), ((ad 18), aI cy 1400 m_by), ((ad 19), aI cy 1400 m_toward), ((ad 20), aI cy 1400 m_one), ((ad 21), aI cy 1400 m_number), ((ad 22), aI cy 8400 m_next)]) (wr := [((ad 1), aI cy 112 m_state), ((ad 23), aI cy 96 m_sewSide), ((ad 24), aI cy 96 m_sewFrom), ((ad 25), aI cy 96 m_sewTo)]) hx hb hml hown hts hK hPW hA hl.1 hP hD hS ⟨Nat.zero_le _, Nat.zero_le _⟩ [0, 2, 3, 4, 5, 6, 7] [1, 8, 9, 10] rfl rfl (by decide) (c_X8_foldNet l D cy (sz := _) (ad := ad) (m_said := m_said) (m_waved := m_waved) (m_places := m_places) (m_end := m_end) (m_joints := m_joints) (m_netPlaces := m_netPlaces) (m_begin := m_begin) (m_finish := m_finish) (m_rounds := m_rounds) (m_sews := m_sews) (m_from := m_from) (m_by := m_by) (m_toward := m_toward) (m_one := m_one) (m_number := m_number) (m_next := m_next) (h := h)) k_X8_265 ⟨rfl, rfl, (Nat.le_of_ble_eq_true rfl), (Nat.le_of_ble_eq_true rfl)⟩ rfl rfl rfl rfl (Nat.le_of_ble_eq_true rfl) dX8_layNet_71 (fun u_15 H locs h hP hD hS => ?_)
          obtain ⟨m_joints_15, m_netPlaces_15, m_begin_15, m_finish_15, m_from_15, m_by_15, m_toward_15, m_one_15, m_number_15, m_next_15, rfl, h⟩ := h
          have hP : va_P D vwCl [((ad 1), aI cy 112 m_state), ((ad 23), aI cy 96 m_sewSide), ((ad 24), aI cy 96 m_sewFrom), ((ad 25), aI cy 96 m_sewTo), ((ad 0), oX8 ad m_said m_waved m_places m_end m_joints_15 m_netPlaces_15 m_begin_15 m_finish_15 m_rounds m_sews), ((ad 17), aI cy 1400 m_from_15), ((ad 18), aI cy 1400 m_by_15), ((ad 19), aI cy 1400 m_toward_15), ((ad 20), aI cy 1400 m_one_15), ((ad 21), aI cy 1400 m_number_15), ((ad 22), aI cy 8400 m_next_15)] H := hP
          have hD : va_D A [((ad 1), aI cy 112 m_state), ((ad 23), aI cy 96 m_sewSide), ((ad 24), aI cy 96 m_sewFrom), ((ad 25), aI cy 96 m_sewTo), ((ad 0), oX8 ad m_said m_waved m_places m_end m_joints_15 m_netPlaces_15 m_begin_15 m_finish_15 m_rounds m_sews), ((ad 17), aI cy 1400 m_from_15), ((ad 18), aI cy 1400 m_by_15), ((ad 19), aI cy 1400 m_toward_15), ((ad 20), aI cy 1400 m_one_15), ((ad 21), aI cy 1400 m_number_15), ((ad 22), aI cy 8400 m_next_15)] := hD
          refine lv_aload_n hx hb dX8_layNet_74 rfl (lv_at hl 0 rfl) ?_
          refine lv_dup hx hb dX8_layNet_75 rfl ?_
          refine va_get (D := D) (ci := 7) (v := .int m_rounds) (C := RX8) (T := TX8) (N := 35) hx hb hts iX8 hown hK hP 4 rfl rfl 27 (Nat.le_of_ble_eq_true rfl) (hts _ fl_X8_271) (fun _ h9 => h9) rfl dX8_layNet_76 ?_
          refine lv_iconst (v := (1 : Int32)) hx hb dX8_layNet_79 (by decide) ?_
          refine lv_iadd hx hb dX8_layNet_80 ?_
          refine va_put (D := D) (ci := 7) (v := .int (m_rounds + (1 : Int32))) (ty := .int) (C := RX8) (T := TX8) (N := 35) hx hb hts iX8 tyX8 tyX8_ok nmX8 hown hK hP hD hS 4 rfl rfl 27 (Nat.le_of_ble_eq_true rfl) (hts _ fl_X8_271) (fun _ h9 => h9) rfl (by decide +kernel) rfl rfl (Nat.le_of_ble_eq_true rfl) dX8_layNet_81 (fun H locs hP hD hS => ?_)
          have hP : va_P D vwCl [((ad 1), aI cy 112 m_state), ((ad 23), aI cy 96 m_sewSide), ((ad 24), aI cy 96 m_sewFrom), ((ad 25), aI cy 96 m_sewTo), ((ad 0), oX8 ad m_said m_waved m_places m_end m_joints_15 m_netPlaces_15 m_begin_15 m_finish_15 (m_rounds + (1 : Int32)) m_sews), ((ad 17), aI cy 1400 m_from_15), ((ad 18), aI cy 1400 m_by_15), ((ad 19), aI cy 1400 m_toward_15), ((ad 20), aI cy 1400 m_one_15), ((ad 21), aI cy 1400 m_number_15), ((ad 22), aI cy 8400 m_next_15)] H := hP
          have hD : va_D A [((ad 1), aI cy 112 m_state), ((ad 23), aI cy 96 m_sewSide), ((ad 24), aI cy 96 m_sewFrom), ((ad 25), aI cy 96 m_sewTo), ((ad 0), oX8 ad m_said m_waved m_places m_end m_joints_15 m_netPlaces_15 m_begin_15 m_finish_15 (m_rounds + (1 : Int32)) m_sews), ((ad 17), aI cy 1400 m_from_15), ((ad 18), aI cy 1400 m_by_15), ((ad 19), aI cy 1400 m_toward_15), ((ad 20), aI cy 1400 m_one_15), ((ad 21), aI cy 1400 m_number_15), ((ad 22), aI cy 8400 m_next_15)] := hD
          refine lv_aload_n hx hb dX8_layNet_84 rfl (lv_at hl 0 rfl) ?_
          refine va_get (D := D) (ci := 7) (v := .int m_netPlaces_15) (C := RX8) (T := TX8) (N := 35) hx hb hts iX8 hown hK hP 4 rfl rfl 24 (Nat.le_of_ble_eq_true rfl) (hts _ fl_X8_226) (fun _ h9 => h9) rfl dX8_layNet_85 ?_
          refine lv_bipush (v := (24 : Int32)) hx hb dX8_layNet_88 (by decide) ?_
          refine lv_icmp_le (tgt := 95) hx hb dX8_layNet_90 (by decide) (fun c_16 => ?_) (fun c_16 => ?_)
          · have h := h.1 c_16
            refine lv_aload_n hx hb dX8_layNet_95 rfl (lv_at hl 0 rfl) ?_
            refine zc_Vv (As := []) (rest := []) (wc := [((ad 0), oX8 ad m_said m_waved m_places m_end m_joints_15 m_netPlaces_15 m_begin_15 m_finish_15 (m_rounds + (1 : Int32)) m_sews), ((ad 1), aI cy 112 m_state), ((ad 22), aI cy 8400 m_next_15), ((ad 23), aI cy 96 m_sewSide), ((ad 24), aI cy 96 m_sewFrom), ((ad 25), aI cy 96 m_sewTo)]) (wr := [((ad 17), aI cy 1400 m_from_15), ((ad 18), aI cy 1400 m_by_15), ((ad 19), aI cy 1400 m_toward_15), ((ad 20), aI cy 1400 m_one_15), ((ad 21), aI cy 1400 m_number_15)]) hx hb hml hown hts hK hPW hA hl.1 hP hD hS ⟨Nat.zero_le _, Nat.zero_le _⟩ [4, 0, 10, 1, 2, 3] [5, 6, 7, 8, 9] rfl rfl (by decide) (c_X8_laySews l D cy (sz := _) (ad := ad) (m_said := m_said) (m_waved := m_waved) (m_places := m_places) (m_end := m_end) (m_joints := m_joints_15) (m_netPlaces := m_netPlaces_15) (m_begin := m_begin_15) (m_finish := m_finish_15) (m_rounds := (m_rounds + (1 : Int32))) (m_sews := m_sews) (m_state := m_state) (m_next := m_next_15) (m_sewSide := m_sewSide) (m_sewFrom := m_sewFrom) (m_sewTo := m_sewTo) (h := h)) k_X8_274 ⟨rfl, rfl, (Nat.le_of_ble_eq_true rfl), (Nat.le_of_ble_eq_true rfl)⟩ rfl rfl rfl rfl (Nat.le_of_ble_eq_true rfl) dX8_layNet_96 (fun u_17 H locs h hP hD hS => ?_)
            obtain ⟨m_sews_17, m_sewSide_17, m_sewFrom_17, m_sewTo_17, rfl, h⟩ := h
            have hP : va_P D vwCl [((ad 17), aI cy 1400 m_from_15), ((ad 18), aI cy 1400 m_by_15), ((ad 19), aI cy 1400 m_toward_15), ((ad 20), aI cy 1400 m_one_15), ((ad 21), aI cy 1400 m_number_15), ((ad 0), oX8 ad m_said m_waved m_places m_end m_joints_15 m_netPlaces_15 m_begin_15 m_finish_15 (m_rounds + (1 : Int32)) m_sews_17), ((ad 1), aI cy 112 m_state), ((ad 22), aI cy 8400 m_next_15), ((ad 23), aI cy 96 m_sewSide_17), ((ad 24), aI cy 96 m_sewFrom_17), ((ad 25), aI cy 96 m_sewTo_17)] H := hP
            have hD : va_D A [((ad 17), aI cy 1400 m_from_15), ((ad 18), aI cy 1400 m_by_15), ((ad 19), aI cy 1400 m_toward_15), ((ad 20), aI cy 1400 m_one_15), ((ad 21), aI cy 1400 m_number_15), ((ad 0), oX8 ad m_said m_waved m_places m_end m_joints_15 m_netPlaces_15 m_begin_15 m_finish_15 (m_rounds + (1 : Int32)) m_sews_17), ((ad 1), aI cy 112 m_state), ((ad 22), aI cy 8400 m_next_15), ((ad 23), aI cy 96 m_sewSide_17), ((ad 24), aI cy 96 m_sewFrom_17), ((ad 25), aI cy 96 m_sewTo_17)] := hD
            refine lv_goto (tgt := 14) hx hb dX8_layNet_99 (by decide) ?_
            exact hrc14 m_joints_15 m_netPlaces_15 m_begin_15 m_finish_15 (m_rounds + (1 : Int32)) m_sews_17 m_from_15 m_by_15 m_toward_15 m_one_15 m_number_15 m_next_15 m_sewSide_17 m_sewFrom_17 m_sewTo_17 h _ _ _ (hP.sub [5, 6, 0, 1, 2, 3, 4, 7, 8, 9, 10] rfl) (hD.sub [5, 6, 0, 1, 2, 3, 4, 7, 8, 9, 10] (by decide) rfl) hS (lv_sub hl [0] rfl)
          · have h := h.2 c_16
            refine lv_iconst (v := (0 : Int32)) hx hb dX8_layNet_93 (by decide) ?_
            exact z_zret (m_joints_15, m_netPlaces_15, m_begin_15, m_finish_15, (m_rounds + (1 : Int32)), m_sews, m_from_15, m_by_15, m_toward_15, m_one_15, m_number_15, m_next_15, m_sewSide, m_sewFrom, m_sewTo) hx hb hr hlocks rfl ⟨m_joints_15, m_netPlaces_15, m_begin_15, m_finish_15, (m_rounds + (1 : Int32)), m_sews, m_from_15, m_by_15, m_toward_15, m_one_15, m_number_15, m_next_15, m_sewSide, m_sewFrom, m_sewTo, rfl, h⟩ (hP.sub [4, 0, 5, 6, 7, 8, 9, 10, 1, 2, 3] rfl) (hD.sub [4, 0, 5, 6, 7, 8, 9, 10, 1, 2, 3] (by decide) rfl) hS dX8_layNet_94
        · have h := h.2 c_14
          refine lv_aload_n hx hb dX8_layNet_42 rfl (lv_at hl 0 rfl) ?_
          refine lv_aload_n hx hb dX8_layNet_43 rfl (lv_at hl 0 rfl) ?_
          refine va_get (D := D) (ci := 7) (v := .ref (ad 23)) (C := RX8) (T := TX8) (N := 35) hx hb hts iX8 hown hK hP 0 rfl rfl 31 (Nat.le_of_ble_eq_true rfl) (hts _ fl_X8_78) (fun _ h9 => h9) rfl dX8_layNet_44 ?_
          refine lv_iload_n hx hb dX8_layNet_47 rfl (lv_at hl 1 rfl) ?_
          obtain ⟨hi_18, h⟩ := h
          refine va_iald hx hb hK hP 8 0 rfl rfl hi_18 dX8_layNet_48 ?_
          refine lv_aload_n hx hb dX8_layNet_49 rfl (lv_at hl 0 rfl) ?_
          refine va_get (D := D) (ci := 7) (v := .ref (ad 24)) (C := RX8) (T := TX8) (N := 35) hx hb hts iX8 hown hK hP 0 rfl rfl 32 (Nat.le_of_ble_eq_true rfl) (hts _ fl_X8_81) (fun _ h9 => h9) rfl dX8_layNet_50 ?_
          refine lv_iload_n hx hb dX8_layNet_53 rfl (lv_at hl 1 rfl) ?_
          obtain ⟨hi_19, h⟩ := h
          refine va_iald hx hb hK hP 9 0 rfl rfl hi_19 dX8_layNet_54 ?_
          refine lv_aload_n hx hb dX8_layNet_55 rfl (lv_at hl 0 rfl) ?_
          refine va_get (D := D) (ci := 7) (v := .ref (ad 25)) (C := RX8) (T := TX8) (N := 35) hx hb hts iX8 hown hK hP 0 rfl rfl 33 (Nat.le_of_ble_eq_true rfl) (hts _ fl_X8_84) (fun _ h9 => h9) rfl dX8_layNet_56 ?_
          refine lv_iload_n hx hb dX8_layNet_59 rfl (lv_at hl 1 rfl) ?_
          obtain ⟨hi_20, h⟩ := h
          refine va_iald hx hb hK hP 10 0 rfl rfl hi_20 dX8_layNet_60 ?_
          refine zc_Vv (As := [.int (m_sewSide x2.toNatClampNeg), .int (m_sewFrom x2.toNatClampNeg), .int (m_sewTo x2.toNatClampNeg)]) (rest := []) (wc := [((ad 0), oX8 ad m_said m_waved m_places m_end m_joints m_netPlaces m_begin m_finish m_rounds m_sews), ((ad 1), aI cy 112 m_state), ((ad 17), aI cy 1400 m_from), ((ad 18), aI cy 1400 m_by), ((ad 19), aI cy 1400 m_toward), ((ad 20), aI cy 1400 m_one)]) (wr := [((ad 21), aI cy 1400 m_number), ((ad 22), aI cy 8400 m_next), ((ad 23), aI cy 96 m_sewSide), ((ad 24), aI cy 96 m_sewFrom), ((ad 25), aI cy 96 m_sewTo)]) hx hb hml hown hts hK hPW hA hl.1 hP hD hS ⟨Nat.zero_le _, Nat.zero_le _⟩ [0, 1, 2, 3, 4, 5] [6, 7, 8, 9, 10] rfl rfl (by decide) (c_X8_sew l D cy (sz := _) (x1 := (m_sewSide x2.toNatClampNeg)) (x2 := (m_sewFrom x2.toNatClampNeg)) (x3 := (m_sewTo x2.toNatClampNeg)) (ad := ad) (m_said := m_said) (m_waved := m_waved) (m_places := m_places) (m_end := m_end) (m_joints := m_joints) (m_netPlaces := m_netPlaces) (m_begin := m_begin) (m_finish := m_finish) (m_rounds := m_rounds) (m_sews := m_sews) (m_state := m_state) (m_from := m_from) (m_by := m_by) (m_toward := m_toward) (m_one := m_one) (h := h)) k_X8_277 ⟨rfl, rfl, (Nat.le_of_ble_eq_true rfl), (Nat.le_of_ble_eq_true rfl)⟩ rfl rfl rfl rfl (Nat.le_of_ble_eq_true rfl) dX8_layNet_61 (fun u_21 H locs h hP hD hS => ?_)
          obtain ⟨m_joints_21, m_netPlaces_21, m_from_21, m_by_21, m_toward_21, m_one_21, rfl, h⟩ := h
          have hP : va_P D vwCl [((ad 21), aI cy 1400 m_number), ((ad 22), aI cy 8400 m_next), ((ad 23), aI cy 96 m_sewSide), ((ad 24), aI cy 96 m_sewFrom), ((ad 25), aI cy 96 m_sewTo), ((ad 0), oX8 ad m_said m_waved m_places m_end m_joints_21 m_netPlaces_21 m_begin m_finish m_rounds m_sews), ((ad 1), aI cy 112 m_state), ((ad 17), aI cy 1400 m_from_21), ((ad 18), aI cy 1400 m_by_21), ((ad 19), aI cy 1400 m_toward_21), ((ad 20), aI cy 1400 m_one_21)] H := hP
          have hD : va_D A [((ad 21), aI cy 1400 m_number), ((ad 22), aI cy 8400 m_next), ((ad 23), aI cy 96 m_sewSide), ((ad 24), aI cy 96 m_sewFrom), ((ad 25), aI cy 96 m_sewTo), ((ad 0), oX8 ad m_said m_waved m_places m_end m_joints_21 m_netPlaces_21 m_begin m_finish m_rounds m_sews), ((ad 1), aI cy 112 m_state), ((ad 17), aI cy 1400 m_from_21), ((ad 18), aI cy 1400 m_by_21), ((ad 19), aI cy 1400 m_toward_21), ((ad 20), aI cy 1400 m_one_21)] := hD
          obtain ⟨x2_22, e_x2_22⟩ : ∃ y : Int32, y = x2 + (1 : Int32) := ⟨_, rfl⟩
          refine lv_iinc (v := x2_22) (lv' := [(2, .int x2_22), (0, .ref (ad 0))]) hx hb dX8_layNet_64 hl (k := 1) rfl (by rw [e_x2_22]; rfl) (by decide) rfl (fun ls hl => ?_)
          have h := h x2_22 e_x2_22
          refine lv_goto (tgt := 34) hx hb dX8_layNet_67 (by decide) ?_
          exact hrc34 x2_22 m_joints_21 m_netPlaces_21 m_from_21 m_by_21 m_toward_21 m_one_21 h _ _ _ (hP.sub [5, 6, 7, 8, 9, 10, 0, 1, 2, 3, 4] rfl) (hD.sub [5, 6, 7, 8, 9, 10, 0, 1, 2, 3, 4] (by decide) rfl) hS (lv_sub hl [1, 0] rfl)
    exact key nn x2 m_joints m_netPlaces m_from m_by m_toward m_one h
  have hJ14 : ∀ (m_joints : Int32) (m_netPlaces : Int32) (m_begin : Int32) (m_finish : Int32) (m_rounds : Int32) (m_sews : Int32) (m_from : Nat → Int32) (m_by : Nat → Int32) (m_toward : Nat → Int32) (m_one : Nat → Int32) (m_number : Nat → Int32) (m_next : Nat → Int32) (m_sewSide : Nat → Int32) (m_sewFrom : Nat → Int32) (m_sewTo : Nat → Int32), wp_X8_layNet_14 m_state  Q m_joints m_netPlaces m_begin m_finish m_rounds m_sews m_from m_by m_toward m_one m_number m_next m_sewSide m_sewFrom m_sewTo → ∀ (H : Heap) (locs : List Loc) (ls : Array Slot), va_P D vwCl [((ad 0), oX8 ad m_said m_waved m_places m_end m_joints m_netPlaces m_begin m_finish m_rounds m_sews), ((ad 1), aI cy 112 m_state), ((ad 17), aI cy 1400 m_from), ((ad 18), aI cy 1400 m_by), ((ad 19), aI cy 1400 m_toward), ((ad 20), aI cy 1400 m_one), ((ad 21), aI cy 1400 m_number), ((ad 22), aI cy 8400 m_next), ((ad 23), aI cy 96 m_sewSide), ((ad 24), aI cy 96 m_sewFrom), ((ad 25), aI cy 96 m_sewTo)] H → va_D A [((ad 0), oX8 ad m_said m_waved m_places m_end m_joints m_netPlaces m_begin m_finish m_rounds m_sews), ((ad 1), aI cy 112 m_state), ((ad 17), aI cy 1400 m_from), ((ad 18), aI cy 1400 m_by), ((ad 19), aI cy 1400 m_toward), ((ad 20), aI cy 1400 m_one), ((ad 21), aI cy 1400 m_number), ((ad 22), aI cy 8400 m_next), ((ad 23), aI cy 96 m_sewSide), ((ad 24), aI cy 96 m_sewFrom), ((ad 25), aI cy 96 m_sewTo)] → va_S A s.heap H locs → lv_has ls 3 [(0, .ref (ad 0))] → W p l e { frames := 5, cells := 0, slots := 0, locals := 114 } s m args below meth c H locs 0 0 (MQ below ((fun A => va_Qi (fun (r : Int32) (u : Int32 × Int32 × Int32 × Int32 × Int32 × Int32 × (Nat → Int32) × (Nat → Int32) × (Nat → Int32) × (Nat → Int32) × (Nat → Int32) × (Nat → Int32) × (Nat → Int32) × (Nat → Int32) × (Nat → Int32)) => ∃ (z0 : Int32) (z1 : Int32) (z2 : Int32) (z3 : Int32) (z4 : Int32) (z5 : Int32) (z6 : Nat → Int32) (z7 : Nat → Int32) (z8 : Nat → Int32) (z9 : Nat → Int32) (z10 : Nat → Int32) (z11 : Nat → Int32) (z12 : Nat → Int32) (z13 : Nat → Int32) (z14 : Nat → Int32), u = (z0, z1, z2, z3, z4, z5, z6, z7, z8, z9, z10, z11, z12, z13, z14) ∧ Q r z0 z1 z2 z3 z4 z5 z6 z7 z8 z9 z10 z11 z12 z13 z14) (zE D vwCl A (fun (u : Int32 × Int32 × Int32 × Int32 × Int32 × Int32 × (Nat → Int32) × (Nat → Int32) × (Nat → Int32) × (Nat → Int32) × (Nat → Int32) × (Nat → Int32) × (Nat → Int32) × (Nat → Int32) × (Nat → Int32)) => [((ad 0), oX8 ad m_said m_waved m_places m_end (u.1) (u.2.1) (u.2.2.1) (u.2.2.2.1) (u.2.2.2.2.1) (u.2.2.2.2.2.1)), ((ad 1), aI cy 112 m_state), ((ad 17), aI cy 1400 (u.2.2.2.2.2.2.1)), ((ad 18), aI cy 1400 (u.2.2.2.2.2.2.2.1)), ((ad 19), aI cy 1400 (u.2.2.2.2.2.2.2.2.1)), ((ad 20), aI cy 1400 (u.2.2.2.2.2.2.2.2.2.1)), ((ad 21), aI cy 1400 (u.2.2.2.2.2.2.2.2.2.2.1)), ((ad 22), aI cy 8400 (u.2.2.2.2.2.2.2.2.2.2.2.1)), ((ad 23), aI cy 96 (u.2.2.2.2.2.2.2.2.2.2.2.2.1)), ((ad 24), aI cy 96 (u.2.2.2.2.2.2.2.2.2.2.2.2.2.1)), ((ad 25), aI cy 96 (u.2.2.2.2.2.2.2.2.2.2.2.2.2.2))])) A) A) args s 0 0 A) (F0 m 14 ls []) := by
    intro m_joints m_netPlaces m_begin m_finish m_rounds m_sews m_from m_by m_toward m_one m_number m_next m_sewSide m_sewFrom m_sewTo   h
    obtain ⟨nn, h⟩ := h
    have key : ∀ (nn : Nat) (m_joints : Int32) (m_netPlaces : Int32) (m_begin : Int32) (m_finish : Int32) (m_rounds : Int32) (m_sews : Int32) (m_from : Nat → Int32) (m_by : Nat → Int32) (m_toward : Nat → Int32) (m_one : Nat → Int32) (m_number : Nat → Int32) (m_next : Nat → Int32) (m_sewSide : Nat → Int32) (m_sewFrom : Nat → Int32) (m_sewTo : Nat → Int32), lpW15 (wb_X8_layNet_14 m_state  Q) nn m_joints m_netPlaces m_begin m_finish m_rounds m_sews m_from m_by m_toward m_one m_number m_next m_sewSide m_sewFrom m_sewTo → ∀ (H : Heap) (locs : List Loc) (ls : Array Slot), va_P D vwCl [((ad 0), oX8 ad m_said m_waved m_places m_end m_joints m_netPlaces m_begin m_finish m_rounds m_sews), ((ad 1), aI cy 112 m_state), ((ad 17), aI cy 1400 m_from), ((ad 18), aI cy 1400 m_by), ((ad 19), aI cy 1400 m_toward), ((ad 20), aI cy 1400 m_one), ((ad 21), aI cy 1400 m_number), ((ad 22), aI cy 8400 m_next), ((ad 23), aI cy 96 m_sewSide), ((ad 24), aI cy 96 m_sewFrom), ((ad 25), aI cy 96 m_sewTo)] H → va_D A [((ad 0), oX8 ad m_said m_waved m_places m_end m_joints m_netPlaces m_begin m_finish m_rounds m_sews), ((ad 1), aI cy 112 m_state), ((ad 17), aI cy 1400 m_from), ((ad 18), aI cy 1400 m_by), ((ad 19), aI cy 1400 m_toward), ((ad 20), aI cy 1400 m_one), ((ad 21), aI cy 1400 m_number), ((ad 22), aI cy 8400 m_next), ((ad 23), aI cy 96 m_sewSide), ((ad 24), aI cy 96 m_sewFrom), ((ad 25), aI cy 96 m_sewTo)] → va_S A s.heap H locs → lv_has ls 3 [(0, .ref (ad 0))] → W p l e { frames := 5, cells := 0, slots := 0, locals := 114 } s m args below meth c H locs 0 0 (MQ below ((fun A => va_Qi (fun (r : Int32) (u : Int32 × Int32 × Int32 × Int32 × Int32 × Int32 × (Nat → Int32) × (Nat → Int32) × (Nat → Int32) × (Nat → Int32) × (Nat → Int32) × (Nat → Int32) × (Nat → Int32) × (Nat → Int32) × (Nat → Int32)) => ∃ (z0 : Int32) (z1 : Int32) (z2 : Int32) (z3 : Int32) (z4 : Int32) (z5 : Int32) (z6 : Nat → Int32) (z7 : Nat → Int32) (z8 : Nat → Int32) (z9 : Nat → Int32) (z10 : Nat → Int32) (z11 : Nat → Int32) (z12 : Nat → Int32) (z13 : Nat → Int32) (z14 : Nat → Int32), u = (z0, z1, z2, z3, z4, z5, z6, z7, z8, z9, z10, z11, z12, z13, z14) ∧ Q r z0 z1 z2 z3 z4 z5 z6 z7 z8 z9 z10 z11 z12 z13 z14) (zE D vwCl A (fun (u : Int32 × Int32 × Int32 × Int32 × Int32 × Int32 × (Nat → Int32) × (Nat → Int32) × (Nat → Int32) × (Nat → Int32) × (Nat → Int32) × (Nat → Int32) × (Nat → Int32) × (Nat → Int32) × (Nat → Int32)) => [((ad 0), oX8 ad m_said m_waved m_places m_end (u.1) (u.2.1) (u.2.2.1) (u.2.2.2.1) (u.2.2.2.2.1) (u.2.2.2.2.2.1)), ((ad 1), aI cy 112 m_state), ((ad 17), aI cy 1400 (u.2.2.2.2.2.2.1)), ((ad 18), aI cy 1400 (u.2.2.2.2.2.2.2.1)), ((ad 19), aI cy 1400 (u.2.2.2.2.2.2.2.2.1)), ((ad 20), aI cy 1400 (u.2.2.2.2.2.2.2.2.2.1)), ((ad 21), aI cy 1400 (u.2.2.2.2.2.2.2.2.2.2.1)), ((ad 22), aI cy 8400 (u.2.2.2.2.2.2.2.2.2.2.2.1)), ((ad 23), aI cy 96 (u.2.2.2.2.2.2.2.2.2.2.2.2.1)), ((ad 24), aI cy 96 (u.2.2.2.2.2.2.2.2.2.2.2.2.2.1)), ((ad 25), aI cy 96 (u.2.2.2.2.2.2.2.2.2.2.2.2.2.2))])) A) A) args s 0 0 A) (F0 m 14 ls []) := by
      intro nn
      induction nn with
      | zero => intro m_joints m_netPlaces m_begin m_finish m_rounds m_sews m_from m_by m_toward m_one m_number m_next m_sewSide m_sewFrom m_sewTo h; exact h.elim
      | succ nn hrc14 =>
        intro m_joints m_netPlaces m_begin m_finish m_rounds m_sews m_from m_by m_toward m_one m_number m_next m_sewSide m_sewFrom m_sewTo h H locs ls hP hD hS hl
        have h : wb_X8_layNet_14 m_state  Q (lpW15 (wb_X8_layNet_14 m_state  Q) nn) m_joints m_netPlaces m_begin m_finish m_rounds m_sews m_from m_by m_toward m_one m_number m_next m_sewSide m_sewFrom m_sewTo := h
        unfold wb_X8_layNet_14 at h
        refine lv_aload_n hx hb dX8_layNet_14 rfl (lv_at hl 0 rfl) ?_
        refine va_get (D := D) (ci := 7) (v := .int m_sews) (C := RX8) (T := TX8) (N := 35) hx hb hts iX8 hown hK hP 0 rfl rfl 34 (Nat.le_of_ble_eq_true rfl) (hts _ fl_X8_256) (fun _ h9 => h9) rfl dX8_layNet_15 ?_
        refine lv_if_le (tgt := 102) hx hb dX8_layNet_18 (by decide) (fun c_23 => ?_) (fun c_23 => ?_)
        · have h := h.1 c_23
          refine lv_iconst (v := (1 : Int32)) hx hb dX8_layNet_102 (by decide) ?_
          exact z_zret (m_joints, m_netPlaces, m_begin, m_finish, m_rounds, m_sews, m_from, m_by, m_toward, m_one, m_number, m_next, m_sewSide, m_sewFrom, m_sewTo) hx hb hr hlocks rfl ⟨m_joints, m_netPlaces, m_begin, m_finish, m_rounds, m_sews, m_from, m_by, m_toward, m_one, m_number, m_next, m_sewSide, m_sewFrom, m_sewTo, rfl, h⟩ hP hD hS dX8_layNet_103
        · have h := h.2 c_23
          refine lv_aload_n hx hb dX8_layNet_21 rfl (lv_at hl 0 rfl) ?_
          refine va_get (D := D) (ci := 7) (v := .int m_rounds) (C := RX8) (T := TX8) (N := 35) hx hb hts iX8 hown hK hP 0 rfl rfl 27 (Nat.le_of_ble_eq_true rfl) (hts _ fl_X8_271) (fun _ h9 => h9) rfl dX8_layNet_22 ?_
          refine lv_bipush (v := (20 : Int32)) hx hb dX8_layNet_25 (by decide) ?_
          refine lv_icmp_ne (tgt := 32) hx hb dX8_layNet_27 (by decide) (fun c_24 => ?_) (fun c_24 => ?_)
          · have h := h.1 c_24
            refine lv_iconst (v := (0 : Int32)) hx hb dX8_layNet_32 (by decide) ?_
            refine lv_istore_n (lv' := [(2, .int (0 : Int32)), (0, .ref (ad 0))]) hx hb dX8_layNet_33 rfl hl (by decide) rfl (fun ls hl => ?_)
            exact hJ34 (0 : Int32) m_joints m_netPlaces m_begin m_finish m_rounds m_sews m_from m_by m_toward m_one m_number m_next m_sewSide m_sewFrom m_sewTo _ hrc14  h _ _ _ hP hD hS (lv_sub hl [1, 0] rfl)
          · have h := h.2 c_24
            refine lv_iconst (v := (0 : Int32)) hx hb dX8_layNet_30 (by decide) ?_
            exact z_zret (m_joints, m_netPlaces, m_begin, m_finish, m_rounds, m_sews, m_from, m_by, m_toward, m_one, m_number, m_next, m_sewSide, m_sewFrom, m_sewTo) hx hb hr hlocks rfl ⟨m_joints, m_netPlaces, m_begin, m_finish, m_rounds, m_sews, m_from, m_by, m_toward, m_one, m_number, m_next, m_sewSide, m_sewFrom, m_sewTo, rfl, h⟩ hP hD hS dX8_layNet_31
    exact key nn m_joints m_netPlaces m_begin m_finish m_rounds m_sews m_from m_by m_toward m_one m_number m_next m_sewSide m_sewFrom m_sewTo h
  unfold wp_X8_layNet at h
  refine lv_aload_n hx hb dX8_layNet_0 rfl (lv_at hl 0 rfl) ?_
  refine lv_iload_n hx hb dX8_layNet_1 rfl (lv_at hl 1 rfl) ?_
  refine zc_Vv (As := [.int x1]) (rest := []) (wc := [((ad 0), oX8 ad m_said m_waved m_places m_end m_joints m_netPlaces m_begin m_finish m_rounds m_sews), ((ad 1), aI cy 112 m_state), ((ad 17), aI cy 1400 m_from), ((ad 18), aI cy 1400 m_by), ((ad 19), aI cy 1400 m_toward), ((ad 20), aI cy 1400 m_one), ((ad 21), aI cy 1400 m_number), ((ad 22), aI cy 8400 m_next)]) (wr := [((ad 23), aI cy 96 m_sewSide), ((ad 24), aI cy 96 m_sewFrom), ((ad 25), aI cy 96 m_sewTo)]) hx hb hml hown hts hK hPW hA hl.1 hP hD hS ⟨Nat.zero_le _, Nat.zero_le _⟩ [0, 1, 2, 3, 4, 5, 6, 7] [8, 9, 10] rfl rfl (by decide) (c_X8_layRow l D cy (sz := _) (x1 := x1) (ad := ad) (m_said := m_said) (m_waved := m_waved) (m_places := m_places) (m_end := m_end) (m_joints := m_joints) (m_netPlaces := m_netPlaces) (m_begin := m_begin) (m_finish := m_finish) (m_rounds := m_rounds) (m_sews := m_sews) (m_state := m_state) (m_from := m_from) (m_by := m_by) (m_toward := m_toward) (m_one := m_one) (m_number := m_number) (m_next := m_next) (h := h)) k_X8_268 ⟨rfl, rfl, (Nat.le_of_ble_eq_true rfl), (Nat.le_of_ble_eq_true rfl)⟩ rfl rfl rfl rfl (Nat.le_of_ble_eq_true rfl) dX8_layNet_2 (fun u_25 H locs h hP hD hS => ?_)
  obtain ⟨m_joints_25, m_netPlaces_25, m_begin_25, m_finish_25, m_from_25, m_by_25, m_toward_25, m_one_25, m_number_25, m_next_25, rfl, h⟩ := h
  have hP : va_P D vwCl [((ad 23), aI cy 96 m_sewSide), ((ad 24), aI cy 96 m_sewFrom), ((ad 25), aI cy 96 m_sewTo), ((ad 0), oX8 ad m_said m_waved m_places m_end m_joints_25 m_netPlaces_25 m_begin_25 m_finish_25 m_rounds m_sews), ((ad 1), aI cy 112 m_state), ((ad 17), aI cy 1400 m_from_25), ((ad 18), aI cy 1400 m_by_25), ((ad 19), aI cy 1400 m_toward_25), ((ad 20), aI cy 1400 m_one_25), ((ad 21), aI cy 1400 m_number_25), ((ad 22), aI cy 8400 m_next_25)] H := hP
  have hD : va_D A [((ad 23), aI cy 96 m_sewSide), ((ad 24), aI cy 96 m_sewFrom), ((ad 25), aI cy 96 m_sewTo), ((ad 0), oX8 ad m_said m_waved m_places m_end m_joints_25 m_netPlaces_25 m_begin_25 m_finish_25 m_rounds m_sews), ((ad 1), aI cy 112 m_state), ((ad 17), aI cy 1400 m_from_25), ((ad 18), aI cy 1400 m_by_25), ((ad 19), aI cy 1400 m_toward_25), ((ad 20), aI cy 1400 m_one_25), ((ad 21), aI cy 1400 m_number_25), ((ad 22), aI cy 8400 m_next_25)] := hD
  refine lv_aload_n hx hb dX8_layNet_5 rfl (lv_at hl 0 rfl) ?_
  refine lv_iconst (v := (0 : Int32)) hx hb dX8_layNet_6 (by decide) ?_
  refine va_put (D := D) (ci := 7) (v := .int (0 : Int32)) (ty := .int) (C := RX8) (T := TX8) (N := 35) hx hb hts iX8 tyX8 tyX8_ok nmX8 hown hK hP hD hS 3 rfl rfl 27 (Nat.le_of_ble_eq_true rfl) (hts _ fl_X8_271) (fun _ h9 => h9) rfl (by decide +kernel) rfl rfl (Nat.le_of_ble_eq_true rfl) dX8_layNet_7 (fun H locs hP hD hS => ?_)
  have hP : va_P D vwCl [((ad 23), aI cy 96 m_sewSide), ((ad 24), aI cy 96 m_sewFrom), ((ad 25), aI cy 96 m_sewTo), ((ad 0), oX8 ad m_said m_waved m_places m_end m_joints_25 m_netPlaces_25 m_begin_25 m_finish_25 (0 : Int32) m_sews), ((ad 1), aI cy 112 m_state), ((ad 17), aI cy 1400 m_from_25), ((ad 18), aI cy 1400 m_by_25), ((ad 19), aI cy 1400 m_toward_25), ((ad 20), aI cy 1400 m_one_25), ((ad 21), aI cy 1400 m_number_25), ((ad 22), aI cy 8400 m_next_25)] H := hP
  have hD : va_D A [((ad 23), aI cy 96 m_sewSide), ((ad 24), aI cy 96 m_sewFrom), ((ad 25), aI cy 96 m_sewTo), ((ad 0), oX8 ad m_said m_waved m_places m_end m_joints_25 m_netPlaces_25 m_begin_25 m_finish_25 (0 : Int32) m_sews), ((ad 1), aI cy 112 m_state), ((ad 17), aI cy 1400 m_from_25), ((ad 18), aI cy 1400 m_by_25), ((ad 19), aI cy 1400 m_toward_25), ((ad 20), aI cy 1400 m_one_25), ((ad 21), aI cy 1400 m_number_25), ((ad 22), aI cy 8400 m_next_25)] := hD
  refine lv_aload_n hx hb dX8_layNet_10 rfl (lv_at hl 0 rfl) ?_
  refine zc_Vv (As := []) (rest := []) (wc := [((ad 0), oX8 ad m_said m_waved m_places m_end m_joints_25 m_netPlaces_25 m_begin_25 m_finish_25 (0 : Int32) m_sews), ((ad 1), aI cy 112 m_state), ((ad 22), aI cy 8400 m_next_25), ((ad 23), aI cy 96 m_sewSide), ((ad 24), aI cy 96 m_sewFrom), ((ad 25), aI cy 96 m_sewTo)]) (wr := [((ad 17), aI cy 1400 m_from_25), ((ad 18), aI cy 1400 m_by_25), ((ad 19), aI cy 1400 m_toward_25), ((ad 20), aI cy 1400 m_one_25), ((ad 21), aI cy 1400 m_number_25)]) hx hb hml hown hts hK hPW hA hl.1 hP hD hS ⟨Nat.zero_le _, Nat.zero_le _⟩ [3, 4, 10, 0, 1, 2] [5, 6, 7, 8, 9] rfl rfl (by decide) (c_X8_laySews l D cy (sz := _) (ad := ad) (m_said := m_said) (m_waved := m_waved) (m_places := m_places) (m_end := m_end) (m_joints := m_joints_25) (m_netPlaces := m_netPlaces_25) (m_begin := m_begin_25) (m_finish := m_finish_25) (m_rounds := (0 : Int32)) (m_sews := m_sews) (m_state := m_state) (m_next := m_next_25) (m_sewSide := m_sewSide) (m_sewFrom := m_sewFrom) (m_sewTo := m_sewTo) (h := h)) k_X8_274 ⟨rfl, rfl, (Nat.le_of_ble_eq_true rfl), (Nat.le_of_ble_eq_true rfl)⟩ rfl rfl rfl rfl (Nat.le_of_ble_eq_true rfl) dX8_layNet_11 (fun u_26 H locs h hP hD hS => ?_)
  obtain ⟨m_sews_26, m_sewSide_26, m_sewFrom_26, m_sewTo_26, rfl, h⟩ := h
  have hP : va_P D vwCl [((ad 17), aI cy 1400 m_from_25), ((ad 18), aI cy 1400 m_by_25), ((ad 19), aI cy 1400 m_toward_25), ((ad 20), aI cy 1400 m_one_25), ((ad 21), aI cy 1400 m_number_25), ((ad 0), oX8 ad m_said m_waved m_places m_end m_joints_25 m_netPlaces_25 m_begin_25 m_finish_25 (0 : Int32) m_sews_26), ((ad 1), aI cy 112 m_state), ((ad 22), aI cy 8400 m_next_25), ((ad 23), aI cy 96 m_sewSide_26), ((ad 24), aI cy 96 m_sewFrom_26), ((ad 25), aI cy 96 m_sewTo_26)] H := hP
  have hD : va_D A [((ad 17), aI cy 1400 m_from_25), ((ad 18), aI cy 1400 m_by_25), ((ad 19), aI cy 1400 m_toward_25), ((ad 20), aI cy 1400 m_one_25), ((ad 21), aI cy 1400 m_number_25), ((ad 0), oX8 ad m_said m_waved m_places m_end m_joints_25 m_netPlaces_25 m_begin_25 m_finish_25 (0 : Int32) m_sews_26), ((ad 1), aI cy 112 m_state), ((ad 22), aI cy 8400 m_next_25), ((ad 23), aI cy 96 m_sewSide_26), ((ad 24), aI cy 96 m_sewFrom_26), ((ad 25), aI cy 96 m_sewTo_26)] := hD
  exact hJ14 m_joints_25 m_netPlaces_25 m_begin_25 m_finish_25 (0 : Int32) m_sews_26 m_from_25 m_by_25 m_toward_25 m_one_25 m_number_25 m_next_25 m_sewSide_26 m_sewFrom_26 m_sewTo_26   h _ _ _ (hP.sub [5, 6, 0, 1, 2, 3, 4, 7, 8, 9, 10] rfl) (hD.sub [5, 6, 0, 1, 2, 3, 4, 7, 8, 9, 10] (by decide) rfl) hS (lv_sub hl [0] rfl)
set_option maxHeartbeats 4000000 in
set_option maxRecDepth 100000 in
theorem c_X8_net (l : Launch) (D : va_G) (cy : Nat → ClassId) (ad : Nat → Nat) (sz : Nat) (m_said : Int32) (m_waved : Int32) (m_places : Int32) (m_end : Int32) (m_joints : Int32) (m_netPlaces : Int32) (m_begin : Int32) (m_finish : Int32) (m_rounds : Int32) (m_sews : Int32) (m_state : Nat → Int32) (m_from : Nat → Int32) (m_by : Nat → Int32) (m_toward : Nat → Int32) (m_one : Nat → Int32) (m_number : Nat → Int32) (m_next : Nat → Int32) (m_sewSide : Nat → Int32) (m_sewFrom : Nat → Int32) (m_sewTo : Nat → Int32) (x1 : Int32) (x2 : Int32) {Q : Int32 → Int32 → Int32 → Int32 → Int32 → Int32 → Int32 → (Nat → Int32) → (Nat → Int32) → (Nat → Int32) → (Nat → Int32) → (Nat → Int32) → (Nat → Int32) → (Nat → Int32) → (Nat → Int32) → (Nat → Int32) → Prop} (h : wp_X8_net x1 x2 m_joints m_netPlaces m_begin m_finish m_rounds m_sews m_state m_from m_by m_toward m_one m_number m_next m_sewSide m_sewFrom m_sewTo Q) : Met l yX8_net (wsU yX8_net cX8_net 3 (some .int)) { frames := 6, cells := 0, slots := 0, locals := 136 } (va_Pc [.ref (ad 0), .int x1, .int x2] (zB D vwCl (tyU cy) [((ad 0), oX8 ad m_said m_waved m_places m_end m_joints m_netPlaces m_begin m_finish m_rounds m_sews), ((ad 1), aI cy 112 m_state), ((ad 17), aI cy 1400 m_from), ((ad 18), aI cy 1400 m_by), ((ad 19), aI cy 1400 m_toward), ((ad 20), aI cy 1400 m_one), ((ad 21), aI cy 1400 m_number), ((ad 22), aI cy 8400 m_next), ((ad 23), aI cy 96 m_sewSide), ((ad 24), aI cy 96 m_sewFrom), ((ad 25), aI cy 96 m_sewTo)] sz)) ((fun A => va_Qi (fun (r : Int32) (u : Int32 × Int32 × Int32 × Int32 × Int32 × Int32 × (Nat → Int32) × (Nat → Int32) × (Nat → Int32) × (Nat → Int32) × (Nat → Int32) × (Nat → Int32) × (Nat → Int32) × (Nat → Int32) × (Nat → Int32)) => ∃ (z0 : Int32) (z1 : Int32) (z2 : Int32) (z3 : Int32) (z4 : Int32) (z5 : Int32) (z6 : Nat → Int32) (z7 : Nat → Int32) (z8 : Nat → Int32) (z9 : Nat → Int32) (z10 : Nat → Int32) (z11 : Nat → Int32) (z12 : Nat → Int32) (z13 : Nat → Int32) (z14 : Nat → Int32), u = (z0, z1, z2, z3, z4, z5, z6, z7, z8, z9, z10, z11, z12, z13, z14) ∧ Q r z0 z1 z2 z3 z4 z5 z6 z7 z8 z9 z10 z11 z12 z13 z14) (zE D vwCl A (fun (u : Int32 × Int32 × Int32 × Int32 × Int32 × Int32 × (Nat → Int32) × (Nat → Int32) × (Nat → Int32) × (Nat → Int32) × (Nat → Int32) × (Nat → Int32) × (Nat → Int32) × (Nat → Int32) × (Nat → Int32)) => [((ad 0), oX8 ad m_said m_waved m_places m_end (u.1) (u.2.1) (u.2.2.1) (u.2.2.2.1) (u.2.2.2.2.1) (u.2.2.2.2.2.1)), ((ad 1), aI cy 112 m_state), ((ad 17), aI cy 1400 (u.2.2.2.2.2.2.1)), ((ad 18), aI cy 1400 (u.2.2.2.2.2.2.2.1)), ((ad 19), aI cy 1400 (u.2.2.2.2.2.2.2.2.1)), ((ad 20), aI cy 1400 (u.2.2.2.2.2.2.2.2.2.1)), ((ad 21), aI cy 1400 (u.2.2.2.2.2.2.2.2.2.2.1)), ((ad 22), aI cy 8400 (u.2.2.2.2.2.2.2.2.2.2.2.1)), ((ad 23), aI cy 96 (u.2.2.2.2.2.2.2.2.2.2.2.2.1)), ((ad 24), aI cy 96 (u.2.2.2.2.2.2.2.2.2.2.2.2.2.1)), ((ad 25), aI cy 96 (u.2.2.2.2.2.2.2.2.2.2.2.2.2.2))])) A) (va_A [((ad 0), oX8 ad m_said m_waved m_places m_end m_joints m_netPlaces m_begin m_finish m_rounds m_sews), ((ad 1), aI cy 112 m_state), ((ad 17), aI cy 1400 m_from), ((ad 18), aI cy 1400 m_by), ((ad 19), aI cy 1400 m_toward), ((ad 20), aI cy 1400 m_one), ((ad 21), aI cy 1400 m_number), ((ad 22), aI cy 8400 m_next), ((ad 23), aI cy 96 m_sewSide), ((ad 24), aI cy 96 m_sewFrom), ((ad 25), aI cy 96 m_sewTo)] sz)) 0 0 (va_A [((ad 0), oX8 ad m_said m_waved m_places m_end m_joints m_netPlaces m_begin m_finish m_rounds m_sews), ((ad 1), aI cy 112 m_state), ((ad 17), aI cy 1400 m_from), ((ad 18), aI cy 1400 m_by), ((ad 19), aI cy 1400 m_toward), ((ad 20), aI cy 1400 m_one), ((ad 21), aI cy 1400 m_number), ((ad 22), aI cy 8400 m_next), ((ad 23), aI cy 96 m_sewSide), ((ad 24), aI cy 96 m_sewFrom), ((ad 25), aI cy 96 m_sewTo)] sz) := by
  refine z_ofX (fun A => va_Qi (fun (r : Int32) (u : Int32 × Int32 × Int32 × Int32 × Int32 × Int32 × (Nat → Int32) × (Nat → Int32) × (Nat → Int32) × (Nat → Int32) × (Nat → Int32) × (Nat → Int32) × (Nat → Int32) × (Nat → Int32) × (Nat → Int32)) => ∃ (z0 : Int32) (z1 : Int32) (z2 : Int32) (z3 : Int32) (z4 : Int32) (z5 : Int32) (z6 : Nat → Int32) (z7 : Nat → Int32) (z8 : Nat → Int32) (z9 : Nat → Int32) (z10 : Nat → Int32) (z11 : Nat → Int32) (z12 : Nat → Int32) (z13 : Nat → Int32) (z14 : Nat → Int32), u = (z0, z1, z2, z3, z4, z5, z6, z7, z8, z9, z10, z11, z12, z13, z14) ∧ Q r z0 z1 z2 z3 z4 z5 z6 z7 z8 z9 z10 z11 z12 z13 z14) (zE D vwCl A (fun (u : Int32 × Int32 × Int32 × Int32 × Int32 × Int32 × (Nat → Int32) × (Nat → Int32) × (Nat → Int32) × (Nat → Int32) × (Nat → Int32) × (Nat → Int32) × (Nat → Int32) × (Nat → Int32) × (Nat → Int32)) => [((ad 0), oX8 ad m_said m_waved m_places m_end (u.1) (u.2.1) (u.2.2.1) (u.2.2.2.1) (u.2.2.2.2.1) (u.2.2.2.2.2.1)), ((ad 1), aI cy 112 m_state), ((ad 17), aI cy 1400 (u.2.2.2.2.2.2.1)), ((ad 18), aI cy 1400 (u.2.2.2.2.2.2.2.1)), ((ad 19), aI cy 1400 (u.2.2.2.2.2.2.2.2.1)), ((ad 20), aI cy 1400 (u.2.2.2.2.2.2.2.2.2.1)), ((ad 21), aI cy 1400 (u.2.2.2.2.2.2.2.2.2.2.1)), ((ad 22), aI cy 8400 (u.2.2.2.2.2.2.2.2.2.2.2.1)), ((ad 23), aI cy 96 (u.2.2.2.2.2.2.2.2.2.2.2.2.1)), ((ad 24), aI cy 96 (u.2.2.2.2.2.2.2.2.2.2.2.2.2.1)), ((ad 25), aI cy 96 (u.2.2.2.2.2.2.2.2.2.2.2.2.2.2))])) A) (by decide) (Nat.le_of_ble_eq_true rfl) (fun p e s m below meth c A ls hx hb hr hml hown hts hlocks hK hPW hA hP hD hS hl => ?_)
  have hl : lv_has ls 3 [(0, .ref (ad 0)), (1, .int x1), (2, .int x2)] := hl
  have hown : s.vm.findClass RX8 = some m.cls := hown
  unfold wp_X8_net at h
  refine lv_iload_n hx hb dX8_net_0 rfl (lv_at hl 1 rfl) ?_
  refine zc_S0 (As := [.int x1]) (rest := []) hx hb hml hown hts hK hPW hA hl.1 hP hS ⟨Nat.zero_le _, Nat.zero_le _⟩ (c_X8_isWord l D cy (sz := _) (x0 := x1) (h := h)) k_X8_151 ⟨rfl, rfl, (Nat.le_of_ble_eq_true rfl), (Nat.le_of_ble_eq_true rfl)⟩ rfl rfl (Nat.le_of_ble_eq_true rfl) dX8_net_1 (fun r_9 H locs h hP hS => ?_)
  refine lv_if_ne (tgt := 9) hx hb dX8_net_4 (by decide) (fun c_10 => ?_) (fun c_10 => ?_)
  · have h := h.1 c_10
    refine lv_iload_n hx hb dX8_net_9 rfl (lv_at hl 2 rfl) ?_
    refine lv_iconst (v := (0 : Int32)) hx hb dX8_net_10 (by decide) ?_
    refine lv_iconst (v := (2 : Int32)) hx hb dX8_net_11 (by decide) ?_
    refine zc_S0 (As := [.int x2, .int (0 : Int32), .int (2 : Int32)]) (rest := []) hx hb hml hown hts hK hPW hA hl.1 hP hS ⟨Nat.zero_le _, Nat.zero_le _⟩ (c_X8_in l D cy (sz := _) (x0 := x2) (x1 := (0 : Int32)) (x2 := (2 : Int32)) (h := h)) k_X8_91 ⟨rfl, rfl, (Nat.le_of_ble_eq_true rfl), (Nat.le_of_ble_eq_true rfl)⟩ rfl rfl (Nat.le_of_ble_eq_true rfl) dX8_net_12 (fun r_11 H locs h hP hS => ?_)
    refine lv_if_ne (tgt := 21) hx hb dX8_net_15 (by decide) (fun c_12 => ?_) (fun c_12 => ?_)
    · have h := h.1 c_12
      refine lv_aload_n hx hb dX8_net_21 rfl (lv_at hl 0 rfl) ?_
      refine lv_iload_n hx hb dX8_net_22 rfl (lv_at hl 1 rfl) ?_
      refine zc_Vi (As := [.int x1]) (rest := []) (wc := [((ad 0), oX8 ad m_said m_waved m_places m_end m_joints m_netPlaces m_begin m_finish m_rounds m_sews), ((ad 1), aI cy 112 m_state), ((ad 17), aI cy 1400 m_from), ((ad 18), aI cy 1400 m_by), ((ad 19), aI cy 1400 m_toward), ((ad 20), aI cy 1400 m_one), ((ad 21), aI cy 1400 m_number), ((ad 22), aI cy 8400 m_next), ((ad 23), aI cy 96 m_sewSide), ((ad 24), aI cy 96 m_sewFrom), ((ad 25), aI cy 96 m_sewTo)]) (wr := []) hx hb hml hown hts hK hPW hA hl.1 hP hD hS ⟨Nat.zero_le _, Nat.zero_le _⟩ [0, 1, 2, 3, 4, 5, 6, 7, 8, 9, 10] [] rfl rfl (by decide) (c_X8_layNet l D cy (sz := _) (x1 := x1) (ad := ad) (m_said := m_said) (m_waved := m_waved) (m_places := m_places) (m_end := m_end) (m_joints := m_joints) (m_netPlaces := m_netPlaces) (m_begin := m_begin) (m_finish := m_finish) (m_rounds := m_rounds) (m_sews := m_sews) (m_state := m_state) (m_from := m_from) (m_by := m_by) (m_toward := m_toward) (m_one := m_one) (m_number := m_number) (m_next := m_next) (m_sewSide := m_sewSide) (m_sewFrom := m_sewFrom) (m_sewTo := m_sewTo) (h := h)) k_X8_280 ⟨rfl, rfl, (Nat.le_of_ble_eq_true rfl), (Nat.le_of_ble_eq_true rfl)⟩ rfl rfl rfl rfl (Nat.le_of_ble_eq_true rfl) dX8_net_23 (fun r_13 u_13 H locs h hP hD hS => ?_)
      obtain ⟨m_joints_13, m_netPlaces_13, m_begin_13, m_finish_13, m_rounds_13, m_sews_13, m_from_13, m_by_13, m_toward_13, m_one_13, m_number_13, m_next_13, m_sewSide_13, m_sewFrom_13, m_sewTo_13, rfl, h⟩ := h
      have hP : va_P D vwCl [((ad 0), oX8 ad m_said m_waved m_places m_end m_joints_13 m_netPlaces_13 m_begin_13 m_finish_13 m_rounds_13 m_sews_13), ((ad 1), aI cy 112 m_state), ((ad 17), aI cy 1400 m_from_13), ((ad 18), aI cy 1400 m_by_13), ((ad 19), aI cy 1400 m_toward_13), ((ad 20), aI cy 1400 m_one_13), ((ad 21), aI cy 1400 m_number_13), ((ad 22), aI cy 8400 m_next_13), ((ad 23), aI cy 96 m_sewSide_13), ((ad 24), aI cy 96 m_sewFrom_13), ((ad 25), aI cy 96 m_sewTo_13)] H := hP
      have hD : va_D A [((ad 0), oX8 ad m_said m_waved m_places m_end m_joints_13 m_netPlaces_13 m_begin_13 m_finish_13 m_rounds_13 m_sews_13), ((ad 1), aI cy 112 m_state), ((ad 17), aI cy 1400 m_from_13), ((ad 18), aI cy 1400 m_by_13), ((ad 19), aI cy 1400 m_toward_13), ((ad 20), aI cy 1400 m_one_13), ((ad 21), aI cy 1400 m_number_13), ((ad 22), aI cy 8400 m_next_13), ((ad 23), aI cy 96 m_sewSide_13), ((ad 24), aI cy 96 m_sewFrom_13), ((ad 25), aI cy 96 m_sewTo_13)] := hD
      refine lv_if_ne (tgt := 32) hx hb dX8_net_26 (by decide) (fun c_14 => ?_) (fun c_14 => ?_)
      · have h := h.1 c_14
        refine lv_iload_n hx hb dX8_net_32 rfl (lv_at hl 2 rfl) ?_
        refine lv_if_ne (tgt := 43) hx hb dX8_net_33 (by decide) (fun c_15 => ?_) (fun c_15 => ?_)
        · have h := h.1 c_15
          refine lv_iload_n hx hb dX8_net_43 rfl (lv_at hl 2 rfl) ?_
          refine lv_iconst (v := (1 : Int32)) hx hb dX8_net_44 (by decide) ?_
          refine lv_icmp_ne (tgt := 55) hx hb dX8_net_45 (by decide) (fun c_16 => ?_) (fun c_16 => ?_)
          · have h := h.1 c_16
            refine lv_aload_n hx hb dX8_net_55 rfl (lv_at hl 0 rfl) ?_
            refine va_get (D := D) (ci := 7) (v := .int m_rounds_13) (C := RX8) (T := TX8) (N := 35) hx hb hts iX8 hown hK hP 0 rfl rfl 27 (Nat.le_of_ble_eq_true rfl) (hts _ fl_X8_271) (fun _ h9 => h9) rfl dX8_net_56 ?_
            exact z_iret (m_joints_13, m_netPlaces_13, m_begin_13, m_finish_13, m_rounds_13, m_sews_13, m_from_13, m_by_13, m_toward_13, m_one_13, m_number_13, m_next_13, m_sewSide_13, m_sewFrom_13, m_sewTo_13) hx hb hr hlocks ⟨m_joints_13, m_netPlaces_13, m_begin_13, m_finish_13, m_rounds_13, m_sews_13, m_from_13, m_by_13, m_toward_13, m_one_13, m_number_13, m_next_13, m_sewSide_13, m_sewFrom_13, m_sewTo_13, rfl, h⟩ hP hD hS dX8_net_59
          · have h := h.2 c_16
            refine lv_aload_n hx hb dX8_net_48 rfl (lv_at hl 0 rfl) ?_
            refine va_get (D := D) (ci := 7) (v := .int m_joints_13) (C := RX8) (T := TX8) (N := 35) hx hb hts iX8 hown hK hP 0 rfl rfl 23 (Nat.le_of_ble_eq_true rfl) (hts _ fl_X8_229) (fun _ h9 => h9) rfl dX8_net_49 ?_
            refine lv_goto (tgt := 59) hx hb dX8_net_52 (by decide) ?_
            exact z_iret (m_joints_13, m_netPlaces_13, m_begin_13, m_finish_13, m_rounds_13, m_sews_13, m_from_13, m_by_13, m_toward_13, m_one_13, m_number_13, m_next_13, m_sewSide_13, m_sewFrom_13, m_sewTo_13) hx hb hr hlocks ⟨m_joints_13, m_netPlaces_13, m_begin_13, m_finish_13, m_rounds_13, m_sews_13, m_from_13, m_by_13, m_toward_13, m_one_13, m_number_13, m_next_13, m_sewSide_13, m_sewFrom_13, m_sewTo_13, rfl, h⟩ hP hD hS dX8_net_59
        · have h := h.2 c_15
          refine lv_aload_n hx hb dX8_net_36 rfl (lv_at hl 0 rfl) ?_
          refine va_get (D := D) (ci := 7) (v := .int m_netPlaces_13) (C := RX8) (T := TX8) (N := 35) hx hb hts iX8 hown hK hP 0 rfl rfl 24 (Nat.le_of_ble_eq_true rfl) (hts _ fl_X8_226) (fun _ h9 => h9) rfl dX8_net_37 ?_
          refine lv_goto (tgt := 59) hx hb dX8_net_40 (by decide) ?_
          exact z_iret (m_joints_13, m_netPlaces_13, m_begin_13, m_finish_13, m_rounds_13, m_sews_13, m_from_13, m_by_13, m_toward_13, m_one_13, m_number_13, m_next_13, m_sewSide_13, m_sewFrom_13, m_sewTo_13) hx hb hr hlocks ⟨m_joints_13, m_netPlaces_13, m_begin_13, m_finish_13, m_rounds_13, m_sews_13, m_from_13, m_by_13, m_toward_13, m_one_13, m_number_13, m_next_13, m_sewSide_13, m_sewFrom_13, m_sewTo_13, rfl, h⟩ hP hD hS dX8_net_59
      · have h := h.2 c_14
        refine lv_bipush (v := (-6 : Int32)) hx hb dX8_net_29 (by decide) ?_
        exact z_iret (m_joints_13, m_netPlaces_13, m_begin_13, m_finish_13, m_rounds_13, m_sews_13, m_from_13, m_by_13, m_toward_13, m_one_13, m_number_13, m_next_13, m_sewSide_13, m_sewFrom_13, m_sewTo_13) hx hb hr hlocks ⟨m_joints_13, m_netPlaces_13, m_begin_13, m_finish_13, m_rounds_13, m_sews_13, m_from_13, m_by_13, m_toward_13, m_one_13, m_number_13, m_next_13, m_sewSide_13, m_sewFrom_13, m_sewTo_13, rfl, h⟩ hP hD hS dX8_net_31
    · have h := h.2 c_12
      refine lv_bipush (v := (-2 : Int32)) hx hb dX8_net_18 (by decide) ?_
      exact z_iret (m_joints, m_netPlaces, m_begin, m_finish, m_rounds, m_sews, m_from, m_by, m_toward, m_one, m_number, m_next, m_sewSide, m_sewFrom, m_sewTo) hx hb hr hlocks ⟨m_joints, m_netPlaces, m_begin, m_finish, m_rounds, m_sews, m_from, m_by, m_toward, m_one, m_number, m_next, m_sewSide, m_sewFrom, m_sewTo, rfl, h⟩ hP hD hS dX8_net_20
  · have h := h.2 c_10
    refine lv_iconst (v := (-1 : Int32)) hx hb dX8_net_7 (by decide) ?_
    exact z_iret (m_joints, m_netPlaces, m_begin, m_finish, m_rounds, m_sews, m_from, m_by, m_toward, m_one, m_number, m_next, m_sewSide, m_sewFrom, m_sewTo) hx hb hr hlocks ⟨m_joints, m_netPlaces, m_begin, m_finish, m_rounds, m_sews, m_from, m_by, m_toward, m_one, m_number, m_next, m_sewSide, m_sewFrom, m_sewTo, rfl, h⟩ hP hD hS dX8_net_8
set_option maxHeartbeats 4000000 in
set_option maxRecDepth 100000 in
theorem c_X8_reads (l : Launch) (D : va_G) (cy : Nat → ClassId) (ad : Nat → Nat) (sz : Nat) (m_said : Int32) (m_waved : Int32) (m_places : Int32) (m_end : Int32) (m_joints : Int32) (m_netPlaces : Int32) (m_begin : Int32) (m_finish : Int32) (m_rounds : Int32) (m_sews : Int32) (m_state : Nat → Int32) (m_from : Nat → Int32) (m_by : Nat → Int32) (m_toward : Nat → Int32) (m_one : Nat → Int32) (m_number : Nat → Int32) (m_next : Nat → Int32) (m_sewSide : Nat → Int32) (m_sewFrom : Nat → Int32) (m_sewTo : Nat → Int32) (x1 : Int32) (x2 : Int32) {Q : Int32 → Int32 → Int32 → Int32 → Int32 → Int32 → Int32 → (Nat → Int32) → (Nat → Int32) → (Nat → Int32) → (Nat → Int32) → (Nat → Int32) → (Nat → Int32) → (Nat → Int32) → (Nat → Int32) → (Nat → Int32) → Prop} (h : wp_X8_reads x1 x2 m_joints m_netPlaces m_begin m_finish m_rounds m_sews m_state m_from m_by m_toward m_one m_number m_next m_sewSide m_sewFrom m_sewTo Q) : Met l yX8_reads (wsU yX8_reads cX8_reads 3 (some .int)) { frames := 6, cells := 0, slots := 0, locals := 136 } (va_Pc [.ref (ad 0), .int x1, .int x2] (zB D vwCl (tyU cy) [((ad 0), oX8 ad m_said m_waved m_places m_end m_joints m_netPlaces m_begin m_finish m_rounds m_sews), ((ad 1), aI cy 112 m_state), ((ad 17), aI cy 1400 m_from), ((ad 18), aI cy 1400 m_by), ((ad 19), aI cy 1400 m_toward), ((ad 20), aI cy 1400 m_one), ((ad 21), aI cy 1400 m_number), ((ad 22), aI cy 8400 m_next), ((ad 23), aI cy 96 m_sewSide), ((ad 24), aI cy 96 m_sewFrom), ((ad 25), aI cy 96 m_sewTo)] sz)) ((fun A => va_Qi (fun (r : Int32) (u : Int32 × Int32 × Int32 × Int32 × Int32 × Int32 × (Nat → Int32) × (Nat → Int32) × (Nat → Int32) × (Nat → Int32) × (Nat → Int32) × (Nat → Int32) × (Nat → Int32) × (Nat → Int32) × (Nat → Int32)) => ∃ (z0 : Int32) (z1 : Int32) (z2 : Int32) (z3 : Int32) (z4 : Int32) (z5 : Int32) (z6 : Nat → Int32) (z7 : Nat → Int32) (z8 : Nat → Int32) (z9 : Nat → Int32) (z10 : Nat → Int32) (z11 : Nat → Int32) (z12 : Nat → Int32) (z13 : Nat → Int32) (z14 : Nat → Int32), u = (z0, z1, z2, z3, z4, z5, z6, z7, z8, z9, z10, z11, z12, z13, z14) ∧ Q r z0 z1 z2 z3 z4 z5 z6 z7 z8 z9 z10 z11 z12 z13 z14) (zE D vwCl A (fun (u : Int32 × Int32 × Int32 × Int32 × Int32 × Int32 × (Nat → Int32) × (Nat → Int32) × (Nat → Int32) × (Nat → Int32) × (Nat → Int32) × (Nat → Int32) × (Nat → Int32) × (Nat → Int32) × (Nat → Int32)) => [((ad 0), oX8 ad m_said m_waved m_places m_end (u.1) (u.2.1) (u.2.2.1) (u.2.2.2.1) (u.2.2.2.2.1) (u.2.2.2.2.2.1)), ((ad 1), aI cy 112 m_state), ((ad 17), aI cy 1400 (u.2.2.2.2.2.2.1)), ((ad 18), aI cy 1400 (u.2.2.2.2.2.2.2.1)), ((ad 19), aI cy 1400 (u.2.2.2.2.2.2.2.2.1)), ((ad 20), aI cy 1400 (u.2.2.2.2.2.2.2.2.2.1)), ((ad 21), aI cy 1400 (u.2.2.2.2.2.2.2.2.2.2.1)), ((ad 22), aI cy 8400 (u.2.2.2.2.2.2.2.2.2.2.2.1)), ((ad 23), aI cy 96 (u.2.2.2.2.2.2.2.2.2.2.2.2.1)), ((ad 24), aI cy 96 (u.2.2.2.2.2.2.2.2.2.2.2.2.2.1)), ((ad 25), aI cy 96 (u.2.2.2.2.2.2.2.2.2.2.2.2.2.2))])) A) (va_A [((ad 0), oX8 ad m_said m_waved m_places m_end m_joints m_netPlaces m_begin m_finish m_rounds m_sews), ((ad 1), aI cy 112 m_state), ((ad 17), aI cy 1400 m_from), ((ad 18), aI cy 1400 m_by), ((ad 19), aI cy 1400 m_toward), ((ad 20), aI cy 1400 m_one), ((ad 21), aI cy 1400 m_number), ((ad 22), aI cy 8400 m_next), ((ad 23), aI cy 96 m_sewSide), ((ad 24), aI cy 96 m_sewFrom), ((ad 25), aI cy 96 m_sewTo)] sz)) 0 0 (va_A [((ad 0), oX8 ad m_said m_waved m_places m_end m_joints m_netPlaces m_begin m_finish m_rounds m_sews), ((ad 1), aI cy 112 m_state), ((ad 17), aI cy 1400 m_from), ((ad 18), aI cy 1400 m_by), ((ad 19), aI cy 1400 m_toward), ((ad 20), aI cy 1400 m_one), ((ad 21), aI cy 1400 m_number), ((ad 22), aI cy 8400 m_next), ((ad 23), aI cy 96 m_sewSide), ((ad 24), aI cy 96 m_sewFrom), ((ad 25), aI cy 96 m_sewTo)] sz) := by
  refine z_ofX (fun A => va_Qi (fun (r : Int32) (u : Int32 × Int32 × Int32 × Int32 × Int32 × Int32 × (Nat → Int32) × (Nat → Int32) × (Nat → Int32) × (Nat → Int32) × (Nat → Int32) × (Nat → Int32) × (Nat → Int32) × (Nat → Int32) × (Nat → Int32)) => ∃ (z0 : Int32) (z1 : Int32) (z2 : Int32) (z3 : Int32) (z4 : Int32) (z5 : Int32) (z6 : Nat → Int32) (z7 : Nat → Int32) (z8 : Nat → Int32) (z9 : Nat → Int32) (z10 : Nat → Int32) (z11 : Nat → Int32) (z12 : Nat → Int32) (z13 : Nat → Int32) (z14 : Nat → Int32), u = (z0, z1, z2, z3, z4, z5, z6, z7, z8, z9, z10, z11, z12, z13, z14) ∧ Q r z0 z1 z2 z3 z4 z5 z6 z7 z8 z9 z10 z11 z12 z13 z14) (zE D vwCl A (fun (u : Int32 × Int32 × Int32 × Int32 × Int32 × Int32 × (Nat → Int32) × (Nat → Int32) × (Nat → Int32) × (Nat → Int32) × (Nat → Int32) × (Nat → Int32) × (Nat → Int32) × (Nat → Int32) × (Nat → Int32)) => [((ad 0), oX8 ad m_said m_waved m_places m_end (u.1) (u.2.1) (u.2.2.1) (u.2.2.2.1) (u.2.2.2.2.1) (u.2.2.2.2.2.1)), ((ad 1), aI cy 112 m_state), ((ad 17), aI cy 1400 (u.2.2.2.2.2.2.1)), ((ad 18), aI cy 1400 (u.2.2.2.2.2.2.2.1)), ((ad 19), aI cy 1400 (u.2.2.2.2.2.2.2.2.1)), ((ad 20), aI cy 1400 (u.2.2.2.2.2.2.2.2.2.1)), ((ad 21), aI cy 1400 (u.2.2.2.2.2.2.2.2.2.2.1)), ((ad 22), aI cy 8400 (u.2.2.2.2.2.2.2.2.2.2.2.1)), ((ad 23), aI cy 96 (u.2.2.2.2.2.2.2.2.2.2.2.2.1)), ((ad 24), aI cy 96 (u.2.2.2.2.2.2.2.2.2.2.2.2.2.1)), ((ad 25), aI cy 96 (u.2.2.2.2.2.2.2.2.2.2.2.2.2.2))])) A) (by decide) (Nat.le_of_ble_eq_true rfl) (fun p e s m below meth c A ls hx hb hr hml hown hts hlocks hK hPW hA hP hD hS hl => ?_)
  have hl : lv_has ls 3 [(0, .ref (ad 0)), (1, .int x1), (2, .int x2)] := hl
  have hown : s.vm.findClass RX8 = some m.cls := hown
  unfold wp_X8_reads at h
  refine lv_iload_n hx hb dX8_reads_0 rfl (lv_at hl 1 rfl) ?_
  refine zc_S0 (As := [.int x1]) (rest := []) hx hb hml hown hts hK hPW hA hl.1 hP hS ⟨Nat.zero_le _, Nat.zero_le _⟩ (c_X8_isWord l D cy (sz := _) (x0 := x1) (h := h)) k_X8_151 ⟨rfl, rfl, (Nat.le_of_ble_eq_true rfl), (Nat.le_of_ble_eq_true rfl)⟩ rfl rfl (Nat.le_of_ble_eq_true rfl) dX8_reads_1 (fun r_9 H locs h hP hS => ?_)
  refine lv_if_eq (tgt := 14) hx hb dX8_reads_4 (by decide) (fun c_10 => ?_) (fun c_10 => ?_)
  · have h := h.1 c_10
    refine lv_iconst (v := (-1 : Int32)) hx hb dX8_reads_14 (by decide) ?_
    exact z_iret (m_joints, m_netPlaces, m_begin, m_finish, m_rounds, m_sews, m_from, m_by, m_toward, m_one, m_number, m_next, m_sewSide, m_sewFrom, m_sewTo) hx hb hr hlocks ⟨m_joints, m_netPlaces, m_begin, m_finish, m_rounds, m_sews, m_from, m_by, m_toward, m_one, m_number, m_next, m_sewSide, m_sewFrom, m_sewTo, rfl, h⟩ hP hD hS dX8_reads_15
  · have h := h.2 c_10
    refine lv_iload_n hx hb dX8_reads_7 rfl (lv_at hl 2 rfl) ?_
    refine zc_S0 (As := [.int x2]) (rest := []) hx hb hml hown hts hK hPW hA hl.1 hP hS ⟨Nat.zero_le _, Nat.zero_le _⟩ (c_X8_isWord l D cy (sz := _) (x0 := x2) (h := h)) k_X8_151 ⟨rfl, rfl, (Nat.le_of_ble_eq_true rfl), (Nat.le_of_ble_eq_true rfl)⟩ rfl rfl (Nat.le_of_ble_eq_true rfl) dX8_reads_8 (fun r_11 H locs h hP hS => ?_)
    refine lv_if_ne (tgt := 16) hx hb dX8_reads_11 (by decide) (fun c_12 => ?_) (fun c_12 => ?_)
    · have h := h.1 c_12
      refine lv_aload_n hx hb dX8_reads_16 rfl (lv_at hl 0 rfl) ?_
      refine lv_iload_n hx hb dX8_reads_17 rfl (lv_at hl 1 rfl) ?_
      refine zc_Vi (As := [.int x1]) (rest := []) (wc := [((ad 0), oX8 ad m_said m_waved m_places m_end m_joints m_netPlaces m_begin m_finish m_rounds m_sews), ((ad 1), aI cy 112 m_state), ((ad 17), aI cy 1400 m_from), ((ad 18), aI cy 1400 m_by), ((ad 19), aI cy 1400 m_toward), ((ad 20), aI cy 1400 m_one), ((ad 21), aI cy 1400 m_number), ((ad 22), aI cy 8400 m_next), ((ad 23), aI cy 96 m_sewSide), ((ad 24), aI cy 96 m_sewFrom), ((ad 25), aI cy 96 m_sewTo)]) (wr := []) hx hb hml hown hts hK hPW hA hl.1 hP hD hS ⟨Nat.zero_le _, Nat.zero_le _⟩ [0, 1, 2, 3, 4, 5, 6, 7, 8, 9, 10] [] rfl rfl (by decide) (c_X8_layNet l D cy (sz := _) (x1 := x1) (ad := ad) (m_said := m_said) (m_waved := m_waved) (m_places := m_places) (m_end := m_end) (m_joints := m_joints) (m_netPlaces := m_netPlaces) (m_begin := m_begin) (m_finish := m_finish) (m_rounds := m_rounds) (m_sews := m_sews) (m_state := m_state) (m_from := m_from) (m_by := m_by) (m_toward := m_toward) (m_one := m_one) (m_number := m_number) (m_next := m_next) (m_sewSide := m_sewSide) (m_sewFrom := m_sewFrom) (m_sewTo := m_sewTo) (h := h)) k_X8_280 ⟨rfl, rfl, (Nat.le_of_ble_eq_true rfl), (Nat.le_of_ble_eq_true rfl)⟩ rfl rfl rfl rfl (Nat.le_of_ble_eq_true rfl) dX8_reads_18 (fun r_13 u_13 H locs h hP hD hS => ?_)
      obtain ⟨m_joints_13, m_netPlaces_13, m_begin_13, m_finish_13, m_rounds_13, m_sews_13, m_from_13, m_by_13, m_toward_13, m_one_13, m_number_13, m_next_13, m_sewSide_13, m_sewFrom_13, m_sewTo_13, rfl, h⟩ := h
      have hP : va_P D vwCl [((ad 0), oX8 ad m_said m_waved m_places m_end m_joints_13 m_netPlaces_13 m_begin_13 m_finish_13 m_rounds_13 m_sews_13), ((ad 1), aI cy 112 m_state), ((ad 17), aI cy 1400 m_from_13), ((ad 18), aI cy 1400 m_by_13), ((ad 19), aI cy 1400 m_toward_13), ((ad 20), aI cy 1400 m_one_13), ((ad 21), aI cy 1400 m_number_13), ((ad 22), aI cy 8400 m_next_13), ((ad 23), aI cy 96 m_sewSide_13), ((ad 24), aI cy 96 m_sewFrom_13), ((ad 25), aI cy 96 m_sewTo_13)] H := hP
      have hD : va_D A [((ad 0), oX8 ad m_said m_waved m_places m_end m_joints_13 m_netPlaces_13 m_begin_13 m_finish_13 m_rounds_13 m_sews_13), ((ad 1), aI cy 112 m_state), ((ad 17), aI cy 1400 m_from_13), ((ad 18), aI cy 1400 m_by_13), ((ad 19), aI cy 1400 m_toward_13), ((ad 20), aI cy 1400 m_one_13), ((ad 21), aI cy 1400 m_number_13), ((ad 22), aI cy 8400 m_next_13), ((ad 23), aI cy 96 m_sewSide_13), ((ad 24), aI cy 96 m_sewFrom_13), ((ad 25), aI cy 96 m_sewTo_13)] := hD
      refine lv_if_ne (tgt := 27) hx hb dX8_reads_21 (by decide) (fun c_14 => ?_) (fun c_14 => ?_)
      · have h := h.1 c_14
        refine lv_aload_n hx hb dX8_reads_27 rfl (lv_at hl 0 rfl) ?_
        refine lv_iload_n hx hb dX8_reads_28 rfl (lv_at hl 2 rfl) ?_
        refine lv_aload_n hx hb dX8_reads_29 rfl (lv_at hl 0 rfl) ?_
        refine va_get (D := D) (ci := 7) (v := .int m_begin_13) (C := RX8) (T := TX8) (N := 35) hx hb hts iX8 hown hK hP 0 rfl rfl 25 (Nat.le_of_ble_eq_true rfl) (hts _ fl_X8_238) (fun _ h9 => h9) rfl dX8_reads_30 ?_
        refine zc_Vi (As := [.int x2, .int m_begin_13]) (rest := []) (wc := [((ad 0), oX8 ad m_said m_waved m_places m_end m_joints_13 m_netPlaces_13 m_begin_13 m_finish_13 m_rounds_13 m_sews_13), ((ad 1), aI cy 112 m_state), ((ad 22), aI cy 8400 m_next_13)]) (wr := [((ad 17), aI cy 1400 m_from_13), ((ad 18), aI cy 1400 m_by_13), ((ad 19), aI cy 1400 m_toward_13), ((ad 20), aI cy 1400 m_one_13), ((ad 21), aI cy 1400 m_number_13), ((ad 23), aI cy 96 m_sewSide_13), ((ad 24), aI cy 96 m_sewFrom_13), ((ad 25), aI cy 96 m_sewTo_13)]) hx hb hml hown hts hK hPW hA hl.1 hP hD hS ⟨Nat.zero_le _, Nat.zero_le _⟩ [0, 1, 7] [2, 3, 4, 5, 6, 8, 9, 10] rfl rfl (by decide) (c_X8_readWord l D cy (sz := _) (x1 := x2) (x2 := m_begin_13) (ad := ad) (m_said := m_said) (m_waved := m_waved) (m_places := m_places) (m_end := m_end) (m_joints := m_joints_13) (m_netPlaces := m_netPlaces_13) (m_begin := m_begin_13) (m_finish := m_finish_13) (m_rounds := m_rounds_13) (m_sews := m_sews_13) (m_state := m_state) (m_next := m_next_13) (h := h)) k_X8_283 ⟨rfl, rfl, (Nat.le_of_ble_eq_true rfl), (Nat.le_of_ble_eq_true rfl)⟩ rfl rfl rfl rfl (Nat.le_of_ble_eq_true rfl) dX8_reads_33 (fun r_15 _ H locs h hP hD hS => ?_)
        have hP : va_P D vwCl [((ad 17), aI cy 1400 m_from_13), ((ad 18), aI cy 1400 m_by_13), ((ad 19), aI cy 1400 m_toward_13), ((ad 20), aI cy 1400 m_one_13), ((ad 21), aI cy 1400 m_number_13), ((ad 23), aI cy 96 m_sewSide_13), ((ad 24), aI cy 96 m_sewFrom_13), ((ad 25), aI cy 96 m_sewTo_13), ((ad 0), oX8 ad m_said m_waved m_places m_end m_joints_13 m_netPlaces_13 m_begin_13 m_finish_13 m_rounds_13 m_sews_13), ((ad 1), aI cy 112 m_state), ((ad 22), aI cy 8400 m_next_13)] H := hP
        have hD : va_D A [((ad 17), aI cy 1400 m_from_13), ((ad 18), aI cy 1400 m_by_13), ((ad 19), aI cy 1400 m_toward_13), ((ad 20), aI cy 1400 m_one_13), ((ad 21), aI cy 1400 m_number_13), ((ad 23), aI cy 96 m_sewSide_13), ((ad 24), aI cy 96 m_sewFrom_13), ((ad 25), aI cy 96 m_sewTo_13), ((ad 0), oX8 ad m_said m_waved m_places m_end m_joints_13 m_netPlaces_13 m_begin_13 m_finish_13 m_rounds_13 m_sews_13), ((ad 1), aI cy 112 m_state), ((ad 22), aI cy 8400 m_next_13)] := hD
        refine lv_aload_n hx hb dX8_reads_36 rfl (lv_at hl 0 rfl) ?_
        refine va_get (D := D) (ci := 7) (v := .int m_finish_13) (C := RX8) (T := TX8) (N := 35) hx hb hts iX8 hown hK hP 8 rfl rfl 26 (Nat.le_of_ble_eq_true rfl) (hts _ fl_X8_241) (fun _ h9 => h9) rfl dX8_reads_37 ?_
        refine lv_icmp_ne (tgt := 47) hx hb dX8_reads_40 (by decide) (fun c_16 => ?_) (fun c_16 => ?_)
        · have h := h.1 c_16
          refine lv_iconst (v := (0 : Int32)) hx hb dX8_reads_47 (by decide) ?_
          exact z_iret (m_joints_13, m_netPlaces_13, m_begin_13, m_finish_13, m_rounds_13, m_sews_13, m_from_13, m_by_13, m_toward_13, m_one_13, m_number_13, m_next_13, m_sewSide_13, m_sewFrom_13, m_sewTo_13) hx hb hr hlocks ⟨m_joints_13, m_netPlaces_13, m_begin_13, m_finish_13, m_rounds_13, m_sews_13, m_from_13, m_by_13, m_toward_13, m_one_13, m_number_13, m_next_13, m_sewSide_13, m_sewFrom_13, m_sewTo_13, rfl, h⟩ (hP.sub [8, 9, 0, 1, 2, 3, 4, 10, 5, 6, 7] rfl) (hD.sub [8, 9, 0, 1, 2, 3, 4, 10, 5, 6, 7] (by decide) rfl) hS dX8_reads_48
        · have h := h.2 c_16
          refine lv_iconst (v := (1 : Int32)) hx hb dX8_reads_43 (by decide) ?_
          refine lv_goto (tgt := 48) hx hb dX8_reads_44 (by decide) ?_
          exact z_iret (m_joints_13, m_netPlaces_13, m_begin_13, m_finish_13, m_rounds_13, m_sews_13, m_from_13, m_by_13, m_toward_13, m_one_13, m_number_13, m_next_13, m_sewSide_13, m_sewFrom_13, m_sewTo_13) hx hb hr hlocks ⟨m_joints_13, m_netPlaces_13, m_begin_13, m_finish_13, m_rounds_13, m_sews_13, m_from_13, m_by_13, m_toward_13, m_one_13, m_number_13, m_next_13, m_sewSide_13, m_sewFrom_13, m_sewTo_13, rfl, h⟩ (hP.sub [8, 9, 0, 1, 2, 3, 4, 10, 5, 6, 7] rfl) (hD.sub [8, 9, 0, 1, 2, 3, 4, 10, 5, 6, 7] (by decide) rfl) hS dX8_reads_48
      · have h := h.2 c_14
        refine lv_bipush (v := (-6 : Int32)) hx hb dX8_reads_24 (by decide) ?_
        exact z_iret (m_joints_13, m_netPlaces_13, m_begin_13, m_finish_13, m_rounds_13, m_sews_13, m_from_13, m_by_13, m_toward_13, m_one_13, m_number_13, m_next_13, m_sewSide_13, m_sewFrom_13, m_sewTo_13) hx hb hr hlocks ⟨m_joints_13, m_netPlaces_13, m_begin_13, m_finish_13, m_rounds_13, m_sews_13, m_from_13, m_by_13, m_toward_13, m_one_13, m_number_13, m_next_13, m_sewSide_13, m_sewFrom_13, m_sewTo_13, rfl, h⟩ hP hD hS dX8_reads_26
    · have h := h.2 c_12
      refine lv_iconst (v := (-1 : Int32)) hx hb dX8_reads_14 (by decide) ?_
      exact z_iret (m_joints, m_netPlaces, m_begin, m_finish, m_rounds, m_sews, m_from, m_by, m_toward, m_one, m_number, m_next, m_sewSide, m_sewFrom, m_sewTo) hx hb hr hlocks ⟨m_joints, m_netPlaces, m_begin, m_finish, m_rounds, m_sews, m_from, m_by, m_toward, m_one, m_number, m_next, m_sewSide, m_sewFrom, m_sewTo, rfl, h⟩ hP hD hS dX8_reads_15
set_option maxHeartbeats 4000000 in
set_option maxRecDepth 100000 in
theorem c_X8_image (l : Launch) (D : va_G) (cy : Nat → ClassId) (ad : Nat → Nat) (sz : Nat) (m_said : Int32) (m_waved : Int32) (m_places : Int32) (m_end : Int32) (m_joints : Int32) (m_netPlaces : Int32) (m_begin : Int32) (m_finish : Int32) (m_rounds : Int32) (m_sews : Int32) (m_state : Nat → Int32) (m_images : Nat → Int32) (m_isKept : Nat → Int32) (x1 : Int32) {Q : Int32 → (Nat → Int32) → (Nat → Int32) → Prop} (h : wp_X8_image x1 m_state m_images m_isKept Q) : Met l yX8_image (wsU yX8_image cX8_image 3 (some .int)) { frames := 1, cells := 0, slots := 0, locals := 22 } (va_Pc [.ref (ad 0), .int x1] (zB D vwCl (tyU cy) [((ad 0), oX8 ad m_said m_waved m_places m_end m_joints m_netPlaces m_begin m_finish m_rounds m_sews), ((ad 1), aI cy 112 m_state), ((ad 2), aI cy 224 m_images), ((ad 3), aZ cy 2 m_isKept)] sz)) ((fun A => va_Qi (fun (r : Int32) (u : (Nat → Int32) × (Nat → Int32)) => ∃ (z0 : Nat → Int32) (z1 : Nat → Int32), u = (z0, z1) ∧ Q r z0 z1) (zE D vwCl A (fun (u : (Nat → Int32) × (Nat → Int32)) => [((ad 0), oX8 ad m_said m_waved m_places m_end m_joints m_netPlaces m_begin m_finish m_rounds m_sews), ((ad 1), aI cy 112 m_state), ((ad 2), aI cy 224 (u.1)), ((ad 3), aZ cy 2 (u.2))])) A) (va_A [((ad 0), oX8 ad m_said m_waved m_places m_end m_joints m_netPlaces m_begin m_finish m_rounds m_sews), ((ad 1), aI cy 112 m_state), ((ad 2), aI cy 224 m_images), ((ad 3), aZ cy 2 m_isKept)] sz)) 0 0 (va_A [((ad 0), oX8 ad m_said m_waved m_places m_end m_joints m_netPlaces m_begin m_finish m_rounds m_sews), ((ad 1), aI cy 112 m_state), ((ad 2), aI cy 224 m_images), ((ad 3), aZ cy 2 m_isKept)] sz) := by
  refine z_ofX (fun A => va_Qi (fun (r : Int32) (u : (Nat → Int32) × (Nat → Int32)) => ∃ (z0 : Nat → Int32) (z1 : Nat → Int32), u = (z0, z1) ∧ Q r z0 z1) (zE D vwCl A (fun (u : (Nat → Int32) × (Nat → Int32)) => [((ad 0), oX8 ad m_said m_waved m_places m_end m_joints m_netPlaces m_begin m_finish m_rounds m_sews), ((ad 1), aI cy 112 m_state), ((ad 2), aI cy 224 (u.1)), ((ad 3), aZ cy 2 (u.2))])) A) (by decide) (Nat.le_of_ble_eq_true rfl) (fun p e s m below meth c A ls hx hb hr hml hown hts hlocks hK hPW hA hP hD hS hl => ?_)
  have hl : lv_has ls 3 [(0, .ref (ad 0)), (1, .int x1)] := hl
  have hown : s.vm.findClass RX8 = some m.cls := hown
  generalize hArg : ([.ref (ad 0), .int x1] : List Value).toArray = args at hts ⊢
  have hJ14 : ∀ (x1 : Int32) (x2 : Int32) (m_images : Nat → Int32) (m_isKept : Nat → Int32), wp_X8_image_14 m_state x1 m_isKept  Q x2 m_images → ∀ (H : Heap) (locs : List Loc) (ls : Array Slot), va_P D vwCl [((ad 0), oX8 ad m_said m_waved m_places m_end m_joints m_netPlaces m_begin m_finish m_rounds m_sews), ((ad 1), aI cy 112 m_state), ((ad 2), aI cy 224 m_images), ((ad 3), aZ cy 2 m_isKept)] H → va_D A [((ad 0), oX8 ad m_said m_waved m_places m_end m_joints m_netPlaces m_begin m_finish m_rounds m_sews), ((ad 1), aI cy 112 m_state), ((ad 2), aI cy 224 m_images), ((ad 3), aZ cy 2 m_isKept)] → va_S A s.heap H locs → lv_has ls 3 [(0, .ref (ad 0)), (1, .int x1), (2, .int x2)] → W p l e { frames := 1, cells := 0, slots := 0, locals := 22 } s m args below meth c H locs 0 0 (MQ below ((fun A => va_Qi (fun (r : Int32) (u : (Nat → Int32) × (Nat → Int32)) => ∃ (z0 : Nat → Int32) (z1 : Nat → Int32), u = (z0, z1) ∧ Q r z0 z1) (zE D vwCl A (fun (u : (Nat → Int32) × (Nat → Int32)) => [((ad 0), oX8 ad m_said m_waved m_places m_end m_joints m_netPlaces m_begin m_finish m_rounds m_sews), ((ad 1), aI cy 112 m_state), ((ad 2), aI cy 224 (u.1)), ((ad 3), aZ cy 2 (u.2))])) A) A) args s 0 0 A) (F0 m 14 ls []) := by
    intro x1 x2 m_images m_isKept   h
    obtain ⟨nn, h⟩ := h
    have key : ∀ (nn : Nat) (x2 : Int32) (m_images : Nat → Int32), lpW2 (wb_X8_image_14 m_state x1 m_isKept  Q) nn x2 m_images → ∀ (H : Heap) (locs : List Loc) (ls : Array Slot), va_P D vwCl [((ad 0), oX8 ad m_said m_waved m_places m_end m_joints m_netPlaces m_begin m_finish m_rounds m_sews), ((ad 1), aI cy 112 m_state), ((ad 2), aI cy 224 m_images), ((ad 3), aZ cy 2 m_isKept)] H → va_D A [((ad 0), oX8 ad m_said m_waved m_places m_end m_joints m_netPlaces m_begin m_finish m_rounds m_sews), ((ad 1), aI cy 112 m_state), ((ad 2), aI cy 224 m_images), ((ad 3), aZ cy 2 m_isKept)] → va_S A s.heap H locs → lv_has ls 3 [(0, .ref (ad 0)), (1, .int x1), (2, .int x2)] → W p l e { frames := 1, cells := 0, slots := 0, locals := 22 } s m args below meth c H locs 0 0 (MQ below ((fun A => va_Qi (fun (r : Int32) (u : (Nat → Int32) × (Nat → Int32)) => ∃ (z0 : Nat → Int32) (z1 : Nat → Int32), u = (z0, z1) ∧ Q r z0 z1) (zE D vwCl A (fun (u : (Nat → Int32) × (Nat → Int32)) => [((ad 0), oX8 ad m_said m_waved m_places m_end m_joints m_netPlaces m_begin m_finish m_rounds m_sews), ((ad 1), aI cy 112 m_state), ((ad 2), aI cy 224 (u.1)), ((ad 3), aZ cy 2 (u.2))])) A) A) args s 0 0 A) (F0 m 14 ls []) := by
      intro nn
      induction nn with
      | zero => intro x2 m_images h; exact h.elim
      | succ nn hrc14 =>
        intro x2 m_images h H locs ls hP hD hS hl
        have h : wb_X8_image_14 m_state x1 m_isKept  Q (lpW2 (wb_X8_image_14 m_state x1 m_isKept  Q) nn) x2 m_images := h
        unfold wb_X8_image_14 at h
        refine lv_iload_n hx hb dX8_image_14 rfl (lv_at hl 2 rfl) ?_
        refine lv_bipush (v := (112 : Int32)) hx hb dX8_image_15 (by decide) ?_
        refine lv_icmp_ge (tgt := 43) hx hb dX8_image_17 (by decide) (fun c_8 => ?_) (fun c_8 => ?_)
        · have h := h.1 c_8
          refine lv_aload_n hx hb dX8_image_43 rfl (lv_at hl 0 rfl) ?_
          refine va_get (D := D) (ci := 7) (v := .ref (ad 3)) (C := RX8) (T := TX8) (N := 35) hx hb hts iX8 hown hK hP 0 rfl rfl 2 (Nat.le_of_ble_eq_true rfl) (hts _ fl_X8_16) (fun _ h9 => h9) rfl dX8_image_44 ?_
          refine lv_iload_n hx hb dX8_image_47 rfl (lv_at hl 1 rfl) ?_
          refine lv_iconst (v := (1 : Int32)) hx hb dX8_image_48 (by decide) ?_
          obtain ⟨hi_9, h⟩ := h
          refine va_zast hx hb hK hP hD hS 3 2 rfl rfl hi_9 dX8_image_49 (fun H locs hP hD hS => ?_)
          have hP : va_P D vwCl [((ad 0), oX8 ad m_said m_waved m_places m_end m_joints m_netPlaces m_begin m_finish m_rounds m_sews), ((ad 1), aI cy 112 m_state), ((ad 2), aI cy 224 m_images), ((ad 3), aZ cy 2 (upd m_isKept x1.toNatClampNeg (vp_nar .boolean (1 : Int32))))] H := hP
          have hD : va_D A [((ad 0), oX8 ad m_said m_waved m_places m_end m_joints m_netPlaces m_begin m_finish m_rounds m_sews), ((ad 1), aI cy 112 m_state), ((ad 2), aI cy 224 m_images), ((ad 3), aZ cy 2 (upd m_isKept x1.toNatClampNeg (vp_nar .boolean (1 : Int32))))] := hD
          refine lv_iconst (v := (1 : Int32)) hx hb dX8_image_50 (by decide) ?_
          exact z_iret (m_images, (upd m_isKept x1.toNatClampNeg (vp_nar .boolean (1 : Int32)))) hx hb hr hlocks ⟨m_images, (upd m_isKept x1.toNatClampNeg (vp_nar .boolean (1 : Int32))), rfl, h⟩ hP hD hS dX8_image_51
        · have h := h.2 c_8
          refine lv_aload_n hx hb dX8_image_20 rfl (lv_at hl 0 rfl) ?_
          refine va_get (D := D) (ci := 7) (v := .ref (ad 2)) (C := RX8) (T := TX8) (N := 35) hx hb hts iX8 hown hK hP 0 rfl rfl 1 (Nat.le_of_ble_eq_true rfl) (hts _ fl_X8_13) (fun _ h9 => h9) rfl dX8_image_21 ?_
          refine lv_bipush (v := (112 : Int32)) hx hb dX8_image_24 (by decide) ?_
          refine lv_iload_n hx hb dX8_image_26 rfl (lv_at hl 1 rfl) ?_
          refine lv_imul hx hb dX8_image_27 ?_
          refine lv_iload_n hx hb dX8_image_28 rfl (lv_at hl 2 rfl) ?_
          refine lv_iadd hx hb dX8_image_29 ?_
          refine lv_aload_n hx hb dX8_image_30 rfl (lv_at hl 0 rfl) ?_
          refine va_get (D := D) (ci := 7) (v := .ref (ad 1)) (C := RX8) (T := TX8) (N := 35) hx hb hts iX8 hown hK hP 0 rfl rfl 0 (Nat.le_of_ble_eq_true rfl) (hts _ fl_X8_7) (fun _ h9 => h9) rfl dX8_image_31 ?_
          refine lv_iload_n hx hb dX8_image_34 rfl (lv_at hl 2 rfl) ?_
          obtain ⟨hi_10, h⟩ := h
          refine va_iald hx hb hK hP 1 0 rfl rfl hi_10 dX8_image_35 ?_
          obtain ⟨hi_11, h⟩ := h
          refine va_iast hx hb hK hP hD hS 2 0 rfl rfl hi_11 dX8_image_36 (fun H locs hP hD hS => ?_)
          have hP : va_P D vwCl [((ad 0), oX8 ad m_said m_waved m_places m_end m_joints m_netPlaces m_begin m_finish m_rounds m_sews), ((ad 1), aI cy 112 m_state), ((ad 2), aI cy 224 (upd m_images (((112 : Int32) * x1) + x2).toNatClampNeg (m_state x2.toNatClampNeg))), ((ad 3), aZ cy 2 m_isKept)] H := hP
          have hD : va_D A [((ad 0), oX8 ad m_said m_waved m_places m_end m_joints m_netPlaces m_begin m_finish m_rounds m_sews), ((ad 1), aI cy 112 m_state), ((ad 2), aI cy 224 (upd m_images (((112 : Int32) * x1) + x2).toNatClampNeg (m_state x2.toNatClampNeg))), ((ad 3), aZ cy 2 m_isKept)] := hD
          obtain ⟨x2_12, e_x2_12⟩ : ∃ y : Int32, y = x2 + (1 : Int32) := ⟨_, rfl⟩
          refine lv_iinc (v := x2_12) (lv' := [(2, .int x2_12), (0, .ref (ad 0)), (1, .int x1)]) hx hb dX8_image_37 hl (k := 2) rfl (by rw [e_x2_12]; rfl) (by decide) rfl (fun ls hl => ?_)
          have h := h x2_12 e_x2_12
          refine lv_goto (tgt := 14) hx hb dX8_image_40 (by decide) ?_
          exact hrc14 x2_12 (upd m_images (((112 : Int32) * x1) + x2).toNatClampNeg (m_state x2.toNatClampNeg)) h _ _ _ hP hD hS (lv_sub hl [1, 2, 0] rfl)
    exact key nn x2 m_images h
  unfold wp_X8_image at h
  refine lv_iload_n hx hb dX8_image_0 rfl (lv_at hl 1 rfl) ?_
  refine lv_iconst (v := (0 : Int32)) hx hb dX8_image_1 (by decide) ?_
  refine lv_iconst (v := (1 : Int32)) hx hb dX8_image_2 (by decide) ?_
  refine zc_S0 (As := [.int x1, .int (0 : Int32), .int (1 : Int32)]) (rest := []) hx hb hml hown hts hK hPW hA hl.1 hP hS ⟨Nat.zero_le _, Nat.zero_le _⟩ (c_X8_in l D cy (sz := _) (x0 := x1) (x1 := (0 : Int32)) (x2 := (1 : Int32)) (h := h)) k_X8_91 ⟨rfl, rfl, (Nat.le_of_ble_eq_true rfl), (Nat.le_of_ble_eq_true rfl)⟩ rfl rfl (Nat.le_of_ble_eq_true rfl) dX8_image_3 (fun r_13 H locs h hP hS => ?_)
  refine lv_if_ne (tgt := 12) hx hb dX8_image_6 (by decide) (fun c_14 => ?_) (fun c_14 => ?_)
  · have h := h.1 c_14
    refine lv_iconst (v := (0 : Int32)) hx hb dX8_image_12 (by decide) ?_
    refine lv_istore_n (lv' := [(2, .int (0 : Int32)), (0, .ref (ad 0)), (1, .int x1)]) hx hb dX8_image_13 rfl hl (by decide) rfl (fun ls hl => ?_)
    exact hJ14 x1 (0 : Int32) m_images m_isKept   h _ _ _ hP hD hS (lv_sub hl [1, 2, 0] rfl)
  · have h := h.2 c_14
    refine lv_bipush (v := (-2 : Int32)) hx hb dX8_image_9 (by decide) ?_
    exact z_iret (m_images, m_isKept) hx hb hr hlocks ⟨m_images, m_isKept, rfl, h⟩ hP hD hS dX8_image_11
set_option maxHeartbeats 4000000 in
set_option maxRecDepth 100000 in
theorem c_X8_restore (l : Launch) (D : va_G) (cy : Nat → ClassId) (ad : Nat → Nat) (sz : Nat) (m_said : Int32) (m_waved : Int32) (m_places : Int32) (m_end : Int32) (m_joints : Int32) (m_netPlaces : Int32) (m_begin : Int32) (m_finish : Int32) (m_rounds : Int32) (m_sews : Int32) (m_state : Nat → Int32) (m_images : Nat → Int32) (m_isKept : Nat → Int32) (x1 : Int32) {Q : Int32 → (Nat → Int32) → Prop} (h : wp_X8_restore x1 m_state m_images m_isKept Q) : Met l yX8_restore (wsU yX8_restore cX8_restore 3 (some .int)) { frames := 1, cells := 0, slots := 0, locals := 22 } (va_Pc [.ref (ad 0), .int x1] (zB D vwCl (tyU cy) [((ad 0), oX8 ad m_said m_waved m_places m_end m_joints m_netPlaces m_begin m_finish m_rounds m_sews), ((ad 1), aI cy 112 m_state), ((ad 2), aI cy 224 m_images), ((ad 3), aZ cy 2 m_isKept)] sz)) ((fun A => va_Qi (fun (r : Int32) (u : (Nat → Int32)) => Q r u) (zE D vwCl A (fun (u : (Nat → Int32)) => [((ad 0), oX8 ad m_said m_waved m_places m_end m_joints m_netPlaces m_begin m_finish m_rounds m_sews), ((ad 1), aI cy 112 u), ((ad 2), aI cy 224 m_images), ((ad 3), aZ cy 2 m_isKept)])) A) (va_A [((ad 0), oX8 ad m_said m_waved m_places m_end m_joints m_netPlaces m_begin m_finish m_rounds m_sews), ((ad 1), aI cy 112 m_state), ((ad 2), aI cy 224 m_images), ((ad 3), aZ cy 2 m_isKept)] sz)) 0 0 (va_A [((ad 0), oX8 ad m_said m_waved m_places m_end m_joints m_netPlaces m_begin m_finish m_rounds m_sews), ((ad 1), aI cy 112 m_state), ((ad 2), aI cy 224 m_images), ((ad 3), aZ cy 2 m_isKept)] sz) := by
  refine z_ofX (fun A => va_Qi (fun (r : Int32) (u : (Nat → Int32)) => Q r u) (zE D vwCl A (fun (u : (Nat → Int32)) => [((ad 0), oX8 ad m_said m_waved m_places m_end m_joints m_netPlaces m_begin m_finish m_rounds m_sews), ((ad 1), aI cy 112 u), ((ad 2), aI cy 224 m_images), ((ad 3), aZ cy 2 m_isKept)])) A) (by decide) (Nat.le_of_ble_eq_true rfl) (fun p e s m below meth c A ls hx hb hr hml hown hts hlocks hK hPW hA hP hD hS hl => ?_)
  have hl : lv_has ls 3 [(0, .ref (ad 0)), (1, .int x1)] := hl
  have hown : s.vm.findClass RX8 = some m.cls := hown
  generalize hArg : ([.ref (ad 0), .int x1] : List Value).toArray = args at hts ⊢
  have hJ26 : ∀ (x1 : Int32) (x2 : Int32) (m_state : Nat → Int32), wp_X8_restore_26 m_images m_isKept x1  Q x2 m_state → ∀ (H : Heap) (locs : List Loc) (ls : Array Slot), va_P D vwCl [((ad 0), oX8 ad m_said m_waved m_places m_end m_joints m_netPlaces m_begin m_finish m_rounds m_sews), ((ad 1), aI cy 112 m_state), ((ad 2), aI cy 224 m_images), ((ad 3), aZ cy 2 m_isKept)] H → va_D A [((ad 0), oX8 ad m_said m_waved m_places m_end m_joints m_netPlaces m_begin m_finish m_rounds m_sews), ((ad 1), aI cy 112 m_state), ((ad 2), aI cy 224 m_images), ((ad 3), aZ cy 2 m_isKept)] → va_S A s.heap H locs → lv_has ls 3 [(0, .ref (ad 0)), (1, .int x1), (2, .int x2)] → W p l e { frames := 1, cells := 0, slots := 0, locals := 22 } s m args below meth c H locs 0 0 (MQ below ((fun A => va_Qi (fun (r : Int32) (u : (Nat → Int32)) => Q r u) (zE D vwCl A (fun (u : (Nat → Int32)) => [((ad 0), oX8 ad m_said m_waved m_places m_end m_joints m_netPlaces m_begin m_finish m_rounds m_sews), ((ad 1), aI cy 112 u), ((ad 2), aI cy 224 m_images), ((ad 3), aZ cy 2 m_isKept)])) A) A) args s 0 0 A) (F0 m 26 ls []) := by
    intro x1 x2 m_state   h
    obtain ⟨nn, h⟩ := h
    have key : ∀ (nn : Nat) (x2 : Int32) (m_state : Nat → Int32), lpW2 (wb_X8_restore_26 m_images m_isKept x1  Q) nn x2 m_state → ∀ (H : Heap) (locs : List Loc) (ls : Array Slot), va_P D vwCl [((ad 0), oX8 ad m_said m_waved m_places m_end m_joints m_netPlaces m_begin m_finish m_rounds m_sews), ((ad 1), aI cy 112 m_state), ((ad 2), aI cy 224 m_images), ((ad 3), aZ cy 2 m_isKept)] H → va_D A [((ad 0), oX8 ad m_said m_waved m_places m_end m_joints m_netPlaces m_begin m_finish m_rounds m_sews), ((ad 1), aI cy 112 m_state), ((ad 2), aI cy 224 m_images), ((ad 3), aZ cy 2 m_isKept)] → va_S A s.heap H locs → lv_has ls 3 [(0, .ref (ad 0)), (1, .int x1), (2, .int x2)] → W p l e { frames := 1, cells := 0, slots := 0, locals := 22 } s m args below meth c H locs 0 0 (MQ below ((fun A => va_Qi (fun (r : Int32) (u : (Nat → Int32)) => Q r u) (zE D vwCl A (fun (u : (Nat → Int32)) => [((ad 0), oX8 ad m_said m_waved m_places m_end m_joints m_netPlaces m_begin m_finish m_rounds m_sews), ((ad 1), aI cy 112 u), ((ad 2), aI cy 224 m_images), ((ad 3), aZ cy 2 m_isKept)])) A) A) args s 0 0 A) (F0 m 26 ls []) := by
      intro nn
      induction nn with
      | zero => intro x2 m_state h; exact h.elim
      | succ nn hrc26 =>
        intro x2 m_state h H locs ls hP hD hS hl
        have h : wb_X8_restore_26 m_images m_isKept x1  Q (lpW2 (wb_X8_restore_26 m_images m_isKept x1  Q) nn) x2 m_state := h
        unfold wb_X8_restore_26 at h
        refine lv_iload_n hx hb dX8_restore_26 rfl (lv_at hl 2 rfl) ?_
        refine lv_bipush (v := (112 : Int32)) hx hb dX8_restore_27 (by decide) ?_
        refine lv_icmp_ge (tgt := 55) hx hb dX8_restore_29 (by decide) (fun c_9 => ?_) (fun c_9 => ?_)
        · have h := h.1 c_9
          refine lv_iconst (v := (1 : Int32)) hx hb dX8_restore_55 (by decide) ?_
          exact z_iret m_state hx hb hr hlocks h hP hD hS dX8_restore_56
        · have h := h.2 c_9
          refine lv_aload_n hx hb dX8_restore_32 rfl (lv_at hl 0 rfl) ?_
          refine va_get (D := D) (ci := 7) (v := .ref (ad 1)) (C := RX8) (T := TX8) (N := 35) hx hb hts iX8 hown hK hP 0 rfl rfl 0 (Nat.le_of_ble_eq_true rfl) (hts _ fl_X8_7) (fun _ h9 => h9) rfl dX8_restore_33 ?_
          refine lv_iload_n hx hb dX8_restore_36 rfl (lv_at hl 2 rfl) ?_
          refine lv_aload_n hx hb dX8_restore_37 rfl (lv_at hl 0 rfl) ?_
          refine va_get (D := D) (ci := 7) (v := .ref (ad 2)) (C := RX8) (T := TX8) (N := 35) hx hb hts iX8 hown hK hP 0 rfl rfl 1 (Nat.le_of_ble_eq_true rfl) (hts _ fl_X8_13) (fun _ h9 => h9) rfl dX8_restore_38 ?_
          refine lv_bipush (v := (112 : Int32)) hx hb dX8_restore_41 (by decide) ?_
          refine lv_iload_n hx hb dX8_restore_43 rfl (lv_at hl 1 rfl) ?_
          refine lv_imul hx hb dX8_restore_44 ?_
          refine lv_iload_n hx hb dX8_restore_45 rfl (lv_at hl 2 rfl) ?_
          refine lv_iadd hx hb dX8_restore_46 ?_
          obtain ⟨hi_10, h⟩ := h
          refine va_iald hx hb hK hP 2 0 rfl rfl hi_10 dX8_restore_47 ?_
          obtain ⟨hi_11, h⟩ := h
          refine va_iast hx hb hK hP hD hS 1 0 rfl rfl hi_11 dX8_restore_48 (fun H locs hP hD hS => ?_)
          have hP : va_P D vwCl [((ad 0), oX8 ad m_said m_waved m_places m_end m_joints m_netPlaces m_begin m_finish m_rounds m_sews), ((ad 1), aI cy 112 (upd m_state x2.toNatClampNeg (m_images (((112 : Int32) * x1) + x2).toNatClampNeg))), ((ad 2), aI cy 224 m_images), ((ad 3), aZ cy 2 m_isKept)] H := hP
          have hD : va_D A [((ad 0), oX8 ad m_said m_waved m_places m_end m_joints m_netPlaces m_begin m_finish m_rounds m_sews), ((ad 1), aI cy 112 (upd m_state x2.toNatClampNeg (m_images (((112 : Int32) * x1) + x2).toNatClampNeg))), ((ad 2), aI cy 224 m_images), ((ad 3), aZ cy 2 m_isKept)] := hD
          obtain ⟨x2_12, e_x2_12⟩ : ∃ y : Int32, y = x2 + (1 : Int32) := ⟨_, rfl⟩
          refine lv_iinc (v := x2_12) (lv' := [(2, .int x2_12), (0, .ref (ad 0)), (1, .int x1)]) hx hb dX8_restore_49 hl (k := 2) rfl (by rw [e_x2_12]; rfl) (by decide) rfl (fun ls hl => ?_)
          have h := h x2_12 e_x2_12
          refine lv_goto (tgt := 26) hx hb dX8_restore_52 (by decide) ?_
          exact hrc26 x2_12 (upd m_state x2.toNatClampNeg (m_images (((112 : Int32) * x1) + x2).toNatClampNeg)) h _ _ _ hP hD hS (lv_sub hl [1, 2, 0] rfl)
    exact key nn x2 m_state h
  unfold wp_X8_restore at h
  refine lv_iload_n hx hb dX8_restore_0 rfl (lv_at hl 1 rfl) ?_
  refine lv_iconst (v := (0 : Int32)) hx hb dX8_restore_1 (by decide) ?_
  refine lv_iconst (v := (1 : Int32)) hx hb dX8_restore_2 (by decide) ?_
  refine zc_S0 (As := [.int x1, .int (0 : Int32), .int (1 : Int32)]) (rest := []) hx hb hml hown hts hK hPW hA hl.1 hP hS ⟨Nat.zero_le _, Nat.zero_le _⟩ (c_X8_in l D cy (sz := _) (x0 := x1) (x1 := (0 : Int32)) (x2 := (1 : Int32)) (h := h)) k_X8_91 ⟨rfl, rfl, (Nat.le_of_ble_eq_true rfl), (Nat.le_of_ble_eq_true rfl)⟩ rfl rfl (Nat.le_of_ble_eq_true rfl) dX8_restore_3 (fun r_13 H locs h hP hS => ?_)
  refine lv_if_ne (tgt := 12) hx hb dX8_restore_6 (by decide) (fun c_14 => ?_) (fun c_14 => ?_)
  · have h := h.1 c_14
    refine lv_aload_n hx hb dX8_restore_12 rfl (lv_at hl 0 rfl) ?_
    refine va_get (D := D) (ci := 7) (v := .ref (ad 3)) (C := RX8) (T := TX8) (N := 35) hx hb hts iX8 hown hK hP 0 rfl rfl 2 (Nat.le_of_ble_eq_true rfl) (hts _ fl_X8_16) (fun _ h9 => h9) rfl dX8_restore_13 ?_
    refine lv_iload_n hx hb dX8_restore_16 rfl (lv_at hl 1 rfl) ?_
    obtain ⟨hi_15, h⟩ := h
    refine va_zald hx hb hK hP 3 2 rfl rfl hi_15 dX8_restore_17 ?_
    refine lv_if_ne (tgt := 24) hx hb dX8_restore_18 (by decide) (fun c_16 => ?_) (fun c_16 => ?_)
    · have h := h.1 c_16
      refine lv_iconst (v := (0 : Int32)) hx hb dX8_restore_24 (by decide) ?_
      refine lv_istore_n (lv' := [(2, .int (0 : Int32)), (0, .ref (ad 0)), (1, .int x1)]) hx hb dX8_restore_25 rfl hl (by decide) rfl (fun ls hl => ?_)
      exact hJ26 x1 (0 : Int32) m_state   h _ _ _ hP hD hS (lv_sub hl [1, 2, 0] rfl)
    · have h := h.2 c_16
      refine lv_bipush (v := (-3 : Int32)) hx hb dX8_restore_21 (by decide) ?_
      exact z_iret m_state hx hb hr hlocks h hP hD hS dX8_restore_23
  · have h := h.2 c_14
    refine lv_bipush (v := (-2 : Int32)) hx hb dX8_restore_9 (by decide) ?_
    exact z_iret m_state hx hb hr hlocks h hP hD hS dX8_restore_11
set_option maxHeartbeats 4000000 in
set_option maxRecDepth 100000 in
theorem c_X8_unlike (l : Launch) (D : va_G) (cy : Nat → ClassId) (ad : Nat → Nat) (sz : Nat) (m_said : Int32) (m_waved : Int32) (m_places : Int32) (m_end : Int32) (m_joints : Int32) (m_netPlaces : Int32) (m_begin : Int32) (m_finish : Int32) (m_rounds : Int32) (m_sews : Int32) (m_state : Nat → Int32) {Q : Int32 → Prop} (h : wp_X8_unlike m_state Q) : Met l yX8_unlike (wsU yX8_unlike cX8_unlike 5 (some .int)) { frames := 0, cells := 0, slots := 0, locals := 0 } (va_Pc [.ref (ad 0)] (zB D vwCl (tyU cy) [((ad 0), oX8 ad m_said m_waved m_places m_end m_joints m_netPlaces m_begin m_finish m_rounds m_sews), ((ad 1), aI cy 112 m_state)] sz)) ((fun A => va_Qi (fun (r : Int32) (_ : Unit) => Q r ) (zE D vwCl A (fun (_ : Unit) => [((ad 0), oX8 ad m_said m_waved m_places m_end m_joints m_netPlaces m_begin m_finish m_rounds m_sews), ((ad 1), aI cy 112 m_state)])) A) (va_A [((ad 0), oX8 ad m_said m_waved m_places m_end m_joints m_netPlaces m_begin m_finish m_rounds m_sews), ((ad 1), aI cy 112 m_state)] sz)) 0 0 (va_A [((ad 0), oX8 ad m_said m_waved m_places m_end m_joints m_netPlaces m_begin m_finish m_rounds m_sews), ((ad 1), aI cy 112 m_state)] sz) := by
  refine z_ofX (fun A => va_Qi (fun (r : Int32) (_ : Unit) => Q r ) (zE D vwCl A (fun (_ : Unit) => [((ad 0), oX8 ad m_said m_waved m_places m_end m_joints m_netPlaces m_begin m_finish m_rounds m_sews), ((ad 1), aI cy 112 m_state)])) A) (by decide) (Nat.le_of_ble_eq_true rfl) (fun p e s m below meth c A ls hx hb hr hml hown hts hlocks hK hPW hA hP hD hS hl => ?_)
  have hl : lv_has ls 5 [(0, .ref (ad 0))] := hl
  have hown : s.vm.findClass RX8 = some m.cls := hown
  generalize hArg : ([.ref (ad 0)] : List Value).toArray = args at hts ⊢
  have hJ50 : ∀ (x1 : Int32) (x2 : Int32) (x4 : Int32) (t0 : Int32) (rc4 : Int32 → Int32 → Prop) (hrc4 : ∀ (x1 : Int32) (x2 : Int32), rc4 x1 x2 → ∀ (H : Heap) (locs : List Loc) (ls : Array Slot), va_P D vwCl [((ad 0), oX8 ad m_said m_waved m_places m_end m_joints m_netPlaces m_begin m_finish m_rounds m_sews), ((ad 1), aI cy 112 m_state)] H → va_D A [((ad 0), oX8 ad m_said m_waved m_places m_end m_joints m_netPlaces m_begin m_finish m_rounds m_sews), ((ad 1), aI cy 112 m_state)] → va_S A s.heap H locs → lv_has ls 5 [(0, .ref (ad 0)), (1, .int x1), (2, .int x2)] → W p l e { frames := 0, cells := 0, slots := 0, locals := 0 } s m args below meth c H locs 0 0 (MQ below ((fun A => va_Qi (fun (r : Int32) (_ : Unit) => Q r ) (zE D vwCl A (fun (_ : Unit) => [((ad 0), oX8 ad m_said m_waved m_places m_end m_joints m_netPlaces m_begin m_finish m_rounds m_sews), ((ad 1), aI cy 112 m_state)])) A) A) args s 0 0 A) (F0 m 4 ls [])) (rc15 : Int32 → Int32 → Prop) (hrc15 : ∀ (x3 : Int32) (x4 : Int32), rc15 x3 x4 → ∀ (H : Heap) (locs : List Loc) (ls : Array Slot), va_P D vwCl [((ad 0), oX8 ad m_said m_waved m_places m_end m_joints m_netPlaces m_begin m_finish m_rounds m_sews), ((ad 1), aI cy 112 m_state)] H → va_D A [((ad 0), oX8 ad m_said m_waved m_places m_end m_joints m_netPlaces m_begin m_finish m_rounds m_sews), ((ad 1), aI cy 112 m_state)] → va_S A s.heap H locs → lv_has ls 5 [(0, .ref (ad 0)), (1, .int x1), (2, .int x2), (3, .int x3), (4, .int x4)] → W p l e { frames := 0, cells := 0, slots := 0, locals := 0 } s m args below meth c H locs 0 0 (MQ below ((fun A => va_Qi (fun (r : Int32) (_ : Unit) => Q r ) (zE D vwCl A (fun (_ : Unit) => [((ad 0), oX8 ad m_said m_waved m_places m_end m_joints m_netPlaces m_begin m_finish m_rounds m_sews), ((ad 1), aI cy 112 m_state)])) A) A) args s 0 0 A) (F0 m 15 ls [])), wp_X8_unlike_50 m_state x1 x2 x4 t0 rc4 rc15 Q → ∀ (H : Heap) (locs : List Loc) (ls : Array Slot), va_P D vwCl [((ad 0), oX8 ad m_said m_waved m_places m_end m_joints m_netPlaces m_begin m_finish m_rounds m_sews), ((ad 1), aI cy 112 m_state)] H → va_D A [((ad 0), oX8 ad m_said m_waved m_places m_end m_joints m_netPlaces m_begin m_finish m_rounds m_sews), ((ad 1), aI cy 112 m_state)] → va_S A s.heap H locs → lv_has ls 5 [(0, .ref (ad 0)), (1, .int x1), (2, .int x2), (4, .int x4)] → W p l e { frames := 0, cells := 0, slots := 0, locals := 0 } s m args below meth c H locs 0 0 (MQ below ((fun A => va_Qi (fun (r : Int32) (_ : Unit) => Q r ) (zE D vwCl A (fun (_ : Unit) => [((ad 0), oX8 ad m_said m_waved m_places m_end m_joints m_netPlaces m_begin m_finish m_rounds m_sews), ((ad 1), aI cy 112 m_state)])) A) A) args s 0 0 A) (F0 m 50 ls [.int t0]) := by
    intro x1 x2 x4 t0 rc4 hrc4 rc15 hrc15  h H locs ls hP hD hS hl
    unfold wp_X8_unlike_50 at h
    refine lv_istore_n (lv' := [(3, .int t0), (0, .ref (ad 0)), (1, .int x1), (2, .int x2), (4, .int x4)]) hx hb dX8_unlike_50 rfl hl (by decide) rfl (fun ls hl => ?_)
    obtain ⟨x4_11, e_x4_11⟩ : ∃ y : Int32, y = x4 + (1 : Int32) := ⟨_, rfl⟩
    refine lv_iinc (v := x4_11) (lv' := [(4, .int x4_11), (3, .int t0), (0, .ref (ad 0)), (1, .int x1), (2, .int x2)]) hx hb dX8_unlike_51 hl (k := 4) rfl (by rw [e_x4_11]; rfl) (by decide) rfl (fun ls hl => ?_)
    have h := h x4_11 e_x4_11
    refine lv_goto (tgt := 15) hx hb dX8_unlike_54 (by decide) ?_
    exact hrc15 t0 x4_11 h _ _ _ hP hD hS (lv_sub hl [2, 3, 4, 1, 0] rfl)
  have hJ67 : ∀ (x2 : Int32) (t0 : Int32) (t1 : Int32) (rc4 : Int32 → Int32 → Prop) (hrc4 : ∀ (x1 : Int32) (x2 : Int32), rc4 x1 x2 → ∀ (H : Heap) (locs : List Loc) (ls : Array Slot), va_P D vwCl [((ad 0), oX8 ad m_said m_waved m_places m_end m_joints m_netPlaces m_begin m_finish m_rounds m_sews), ((ad 1), aI cy 112 m_state)] H → va_D A [((ad 0), oX8 ad m_said m_waved m_places m_end m_joints m_netPlaces m_begin m_finish m_rounds m_sews), ((ad 1), aI cy 112 m_state)] → va_S A s.heap H locs → lv_has ls 5 [(0, .ref (ad 0)), (1, .int x1), (2, .int x2)] → W p l e { frames := 0, cells := 0, slots := 0, locals := 0 } s m args below meth c H locs 0 0 (MQ below ((fun A => va_Qi (fun (r : Int32) (_ : Unit) => Q r ) (zE D vwCl A (fun (_ : Unit) => [((ad 0), oX8 ad m_said m_waved m_places m_end m_joints m_netPlaces m_begin m_finish m_rounds m_sews), ((ad 1), aI cy 112 m_state)])) A) A) args s 0 0 A) (F0 m 4 ls [])), wp_X8_unlike_67 m_state x2 t0 t1 rc4 Q → ∀ (H : Heap) (locs : List Loc) (ls : Array Slot), va_P D vwCl [((ad 0), oX8 ad m_said m_waved m_places m_end m_joints m_netPlaces m_begin m_finish m_rounds m_sews), ((ad 1), aI cy 112 m_state)] H → va_D A [((ad 0), oX8 ad m_said m_waved m_places m_end m_joints m_netPlaces m_begin m_finish m_rounds m_sews), ((ad 1), aI cy 112 m_state)] → va_S A s.heap H locs → lv_has ls 5 [(0, .ref (ad 0)), (2, .int x2)] → W p l e { frames := 0, cells := 0, slots := 0, locals := 0 } s m args below meth c H locs 0 0 (MQ below ((fun A => va_Qi (fun (r : Int32) (_ : Unit) => Q r ) (zE D vwCl A (fun (_ : Unit) => [((ad 0), oX8 ad m_said m_waved m_places m_end m_joints m_netPlaces m_begin m_finish m_rounds m_sews), ((ad 1), aI cy 112 m_state)])) A) A) args s 0 0 A) (F0 m 67 ls [.int t1, .int t0]) := by
    intro x2 t0 t1 rc4 hrc4  h H locs ls hP hD hS hl
    unfold wp_X8_unlike_67 at h
    refine lv_iadd hx hb dX8_unlike_67 ?_
    refine lv_topi (fun x1_12 e_x1_12 => ?_)
    have h := h x1_12 e_x1_12
    refine lv_istore_n (lv' := [(1, .int x1_12), (0, .ref (ad 0)), (2, .int x2)]) hx hb dX8_unlike_68 rfl hl (by decide) rfl (fun ls hl => ?_)
    obtain ⟨x2_13, e_x2_13⟩ : ∃ y : Int32, y = x2 + (1 : Int32) := ⟨_, rfl⟩
    refine lv_iinc (v := x2_13) (lv' := [(2, .int x2_13), (1, .int x1_12), (0, .ref (ad 0))]) hx hb dX8_unlike_69 hl (k := 2) rfl (by rw [e_x2_13]; rfl) (by decide) rfl (fun ls hl => ?_)
    have h := h x2_13 e_x2_13
    refine lv_goto (tgt := 4) hx hb dX8_unlike_72 (by decide) ?_
    exact hrc4 x1_12 x2_13 h _ _ _ hP hD hS (lv_sub hl [2, 1, 0] rfl)
  have hJ15 : ∀ (x1 : Int32) (x2 : Int32) (x3 : Int32) (x4 : Int32) (rc4 : Int32 → Int32 → Prop) (hrc4 : ∀ (x1 : Int32) (x2 : Int32), rc4 x1 x2 → ∀ (H : Heap) (locs : List Loc) (ls : Array Slot), va_P D vwCl [((ad 0), oX8 ad m_said m_waved m_places m_end m_joints m_netPlaces m_begin m_finish m_rounds m_sews), ((ad 1), aI cy 112 m_state)] H → va_D A [((ad 0), oX8 ad m_said m_waved m_places m_end m_joints m_netPlaces m_begin m_finish m_rounds m_sews), ((ad 1), aI cy 112 m_state)] → va_S A s.heap H locs → lv_has ls 5 [(0, .ref (ad 0)), (1, .int x1), (2, .int x2)] → W p l e { frames := 0, cells := 0, slots := 0, locals := 0 } s m args below meth c H locs 0 0 (MQ below ((fun A => va_Qi (fun (r : Int32) (_ : Unit) => Q r ) (zE D vwCl A (fun (_ : Unit) => [((ad 0), oX8 ad m_said m_waved m_places m_end m_joints m_netPlaces m_begin m_finish m_rounds m_sews), ((ad 1), aI cy 112 m_state)])) A) A) args s 0 0 A) (F0 m 4 ls [])), wp_X8_unlike_15 m_state x1 x2 rc4 Q x3 x4 → ∀ (H : Heap) (locs : List Loc) (ls : Array Slot), va_P D vwCl [((ad 0), oX8 ad m_said m_waved m_places m_end m_joints m_netPlaces m_begin m_finish m_rounds m_sews), ((ad 1), aI cy 112 m_state)] H → va_D A [((ad 0), oX8 ad m_said m_waved m_places m_end m_joints m_netPlaces m_begin m_finish m_rounds m_sews), ((ad 1), aI cy 112 m_state)] → va_S A s.heap H locs → lv_has ls 5 [(0, .ref (ad 0)), (1, .int x1), (2, .int x2), (3, .int x3), (4, .int x4)] → W p l e { frames := 0, cells := 0, slots := 0, locals := 0 } s m args below meth c H locs 0 0 (MQ below ((fun A => va_Qi (fun (r : Int32) (_ : Unit) => Q r ) (zE D vwCl A (fun (_ : Unit) => [((ad 0), oX8 ad m_said m_waved m_places m_end m_joints m_netPlaces m_begin m_finish m_rounds m_sews), ((ad 1), aI cy 112 m_state)])) A) A) args s 0 0 A) (F0 m 15 ls []) := by
    intro x1 x2 x3 x4 rc4 hrc4  h
    obtain ⟨nn, h⟩ := h
    have key : ∀ (nn : Nat) (x3 : Int32) (x4 : Int32), lpW2 (wb_X8_unlike_15 m_state x1 x2 rc4 Q) nn x3 x4 → ∀ (H : Heap) (locs : List Loc) (ls : Array Slot), va_P D vwCl [((ad 0), oX8 ad m_said m_waved m_places m_end m_joints m_netPlaces m_begin m_finish m_rounds m_sews), ((ad 1), aI cy 112 m_state)] H → va_D A [((ad 0), oX8 ad m_said m_waved m_places m_end m_joints m_netPlaces m_begin m_finish m_rounds m_sews), ((ad 1), aI cy 112 m_state)] → va_S A s.heap H locs → lv_has ls 5 [(0, .ref (ad 0)), (1, .int x1), (2, .int x2), (3, .int x3), (4, .int x4)] → W p l e { frames := 0, cells := 0, slots := 0, locals := 0 } s m args below meth c H locs 0 0 (MQ below ((fun A => va_Qi (fun (r : Int32) (_ : Unit) => Q r ) (zE D vwCl A (fun (_ : Unit) => [((ad 0), oX8 ad m_said m_waved m_places m_end m_joints m_netPlaces m_begin m_finish m_rounds m_sews), ((ad 1), aI cy 112 m_state)])) A) A) args s 0 0 A) (F0 m 15 ls []) := by
      intro nn
      induction nn with
      | zero => intro x3 x4 h; exact h.elim
      | succ nn hrc15 =>
        intro x3 x4 h H locs ls hP hD hS hl
        have h : wb_X8_unlike_15 m_state x1 x2 rc4 Q (lpW2 (wb_X8_unlike_15 m_state x1 x2 rc4 Q) nn) x3 x4 := h
        unfold wb_X8_unlike_15 at h
        refine lv_iload hx hb dX8_unlike_15 (lv_at hl 4 rfl) ?_
        refine lv_iload_n hx hb dX8_unlike_17 rfl (lv_at hl 2 rfl) ?_
        refine lv_icmp_ge (tgt := 57) hx hb dX8_unlike_18 (by decide) (fun c_14 => ?_) (fun c_14 => ?_)
        · have h := h.1 c_14
          refine lv_iload_n hx hb dX8_unlike_57 rfl (lv_at hl 1 rfl) ?_
          refine lv_iload_n hx hb dX8_unlike_58 rfl (lv_at hl 3 rfl) ?_
          refine lv_if_eq (tgt := 66) hx hb dX8_unlike_59 (by decide) (fun c_15 => ?_) (fun c_15 => ?_)
          · have h := h.1 c_15
            refine lv_iconst (v := (0 : Int32)) hx hb dX8_unlike_66 (by decide) ?_
            exact hJ67 x2 x1 (0 : Int32) _ hrc4  h _ _ _ hP hD hS (lv_sub hl [0, 2] rfl)
          · have h := h.2 c_15
            refine lv_iconst (v := (1 : Int32)) hx hb dX8_unlike_62 (by decide) ?_
            refine lv_goto (tgt := 67) hx hb dX8_unlike_63 (by decide) ?_
            exact hJ67 x2 x1 (1 : Int32) _ hrc4  h _ _ _ hP hD hS (lv_sub hl [0, 2] rfl)
        · have h := h.2 c_14
          refine lv_iload_n hx hb dX8_unlike_21 rfl (lv_at hl 3 rfl) ?_
          refine lv_if_eq (tgt := 49) hx hb dX8_unlike_22 (by decide) (fun c_16 => ?_) (fun c_16 => ?_)
          · have h := h.1 c_16
            refine lv_iconst (v := (0 : Int32)) hx hb dX8_unlike_49 (by decide) ?_
            exact hJ50 x1 x2 x4 (0 : Int32) _ hrc4 _ hrc15  h _ _ _ hP hD hS (lv_sub hl [0, 1, 2, 4] rfl)
          · have h := h.2 c_16
            refine lv_aload_n hx hb dX8_unlike_25 rfl (lv_at hl 0 rfl) ?_
            refine va_get (D := D) (ci := 7) (v := .ref (ad 1)) (C := RX8) (T := TX8) (N := 35) hx hb hts iX8 hown hK hP 0 rfl rfl 0 (Nat.le_of_ble_eq_true rfl) (hts _ fl_X8_7) (fun _ h9 => h9) rfl dX8_unlike_26 ?_
            refine lv_iconst (v := (0 : Int32)) hx hb dX8_unlike_29 (by decide) ?_
            refine lv_iload hx hb dX8_unlike_30 (lv_at hl 4 rfl) ?_
            refine lv_iadd hx hb dX8_unlike_32 ?_
            obtain ⟨hi_17, h⟩ := h
            refine va_iald hx hb hK hP 1 0 rfl rfl hi_17 dX8_unlike_33 ?_
            refine lv_aload_n hx hb dX8_unlike_34 rfl (lv_at hl 0 rfl) ?_
            refine va_get (D := D) (ci := 7) (v := .ref (ad 1)) (C := RX8) (T := TX8) (N := 35) hx hb hts iX8 hown hK hP 0 rfl rfl 0 (Nat.le_of_ble_eq_true rfl) (hts _ fl_X8_7) (fun _ h9 => h9) rfl dX8_unlike_35 ?_
            refine lv_iconst (v := (0 : Int32)) hx hb dX8_unlike_38 (by decide) ?_
            refine lv_iload_n hx hb dX8_unlike_39 rfl (lv_at hl 2 rfl) ?_
            refine lv_iadd hx hb dX8_unlike_40 ?_
            obtain ⟨hi_18, h⟩ := h
            refine va_iald hx hb hK hP 1 0 rfl rfl hi_18 dX8_unlike_41 ?_
            refine lv_icmp_eq (tgt := 49) hx hb dX8_unlike_42 (by decide) (fun c_19 => ?_) (fun c_19 => ?_)
            · have h := h.1 c_19
              refine lv_iconst (v := (0 : Int32)) hx hb dX8_unlike_49 (by decide) ?_
              exact hJ50 x1 x2 x4 (0 : Int32) _ hrc4 _ hrc15  h _ _ _ hP hD hS (lv_sub hl [0, 1, 2, 4] rfl)
            · have h := h.2 c_19
              refine lv_iconst (v := (1 : Int32)) hx hb dX8_unlike_45 (by decide) ?_
              refine lv_goto (tgt := 50) hx hb dX8_unlike_46 (by decide) ?_
              exact hJ50 x1 x2 x4 (1 : Int32) _ hrc4 _ hrc15  h _ _ _ hP hD hS (lv_sub hl [0, 1, 2, 4] rfl)
    exact key nn x3 x4 h
  have hJ4 : ∀ (x1 : Int32) (x2 : Int32), wp_X8_unlike_4 m_state  Q x1 x2 → ∀ (H : Heap) (locs : List Loc) (ls : Array Slot), va_P D vwCl [((ad 0), oX8 ad m_said m_waved m_places m_end m_joints m_netPlaces m_begin m_finish m_rounds m_sews), ((ad 1), aI cy 112 m_state)] H → va_D A [((ad 0), oX8 ad m_said m_waved m_places m_end m_joints m_netPlaces m_begin m_finish m_rounds m_sews), ((ad 1), aI cy 112 m_state)] → va_S A s.heap H locs → lv_has ls 5 [(0, .ref (ad 0)), (1, .int x1), (2, .int x2)] → W p l e { frames := 0, cells := 0, slots := 0, locals := 0 } s m args below meth c H locs 0 0 (MQ below ((fun A => va_Qi (fun (r : Int32) (_ : Unit) => Q r ) (zE D vwCl A (fun (_ : Unit) => [((ad 0), oX8 ad m_said m_waved m_places m_end m_joints m_netPlaces m_begin m_finish m_rounds m_sews), ((ad 1), aI cy 112 m_state)])) A) A) args s 0 0 A) (F0 m 4 ls []) := by
    intro x1 x2   h
    obtain ⟨nn, h⟩ := h
    have key : ∀ (nn : Nat) (x1 : Int32) (x2 : Int32), lpW2 (wb_X8_unlike_4 m_state  Q) nn x1 x2 → ∀ (H : Heap) (locs : List Loc) (ls : Array Slot), va_P D vwCl [((ad 0), oX8 ad m_said m_waved m_places m_end m_joints m_netPlaces m_begin m_finish m_rounds m_sews), ((ad 1), aI cy 112 m_state)] H → va_D A [((ad 0), oX8 ad m_said m_waved m_places m_end m_joints m_netPlaces m_begin m_finish m_rounds m_sews), ((ad 1), aI cy 112 m_state)] → va_S A s.heap H locs → lv_has ls 5 [(0, .ref (ad 0)), (1, .int x1), (2, .int x2)] → W p l e { frames := 0, cells := 0, slots := 0, locals := 0 } s m args below meth c H locs 0 0 (MQ below ((fun A => va_Qi (fun (r : Int32) (_ : Unit) => Q r ) (zE D vwCl A (fun (_ : Unit) => [((ad 0), oX8 ad m_said m_waved m_places m_end m_joints m_netPlaces m_begin m_finish m_rounds m_sews), ((ad 1), aI cy 112 m_state)])) A) A) args s 0 0 A) (F0 m 4 ls []) := by
      intro nn
      induction nn with
      | zero => intro x1 x2 h; exact h.elim
      | succ nn hrc4 =>
        intro x1 x2 h H locs ls hP hD hS hl
        have h : wb_X8_unlike_4 m_state  Q (lpW2 (wb_X8_unlike_4 m_state  Q) nn) x1 x2 := h
        unfold wb_X8_unlike_4 at h
        refine lv_iload_n hx hb dX8_unlike_4 rfl (lv_at hl 2 rfl) ?_
        refine lv_bipush (v := (6 : Int32)) hx hb dX8_unlike_5 (by decide) ?_
        refine lv_icmp_ge (tgt := 75) hx hb dX8_unlike_7 (by decide) (fun c_20 => ?_) (fun c_20 => ?_)
        · have h := h.1 c_20
          refine lv_iload_n hx hb dX8_unlike_75 rfl (lv_at hl 1 rfl) ?_
          exact z_iret () hx hb hr hlocks h hP hD hS dX8_unlike_76
        · have h := h.2 c_20
          refine lv_iconst (v := (1 : Int32)) hx hb dX8_unlike_10 (by decide) ?_
          refine lv_istore_n (lv' := [(3, .int (1 : Int32)), (0, .ref (ad 0)), (1, .int x1), (2, .int x2)]) hx hb dX8_unlike_11 rfl hl (by decide) rfl (fun ls hl => ?_)
          refine lv_iconst (v := (0 : Int32)) hx hb dX8_unlike_12 (by decide) ?_
          refine lv_istore (lv' := [(4, .int (0 : Int32)), (3, .int (1 : Int32)), (0, .ref (ad 0)), (1, .int x1), (2, .int x2)]) hx hb dX8_unlike_13 hl (by decide) rfl (fun ls hl => ?_)
          exact hJ15 x1 x2 (1 : Int32) (0 : Int32) _ hrc4  h _ _ _ hP hD hS (lv_sub hl [2, 3, 4, 1, 0] rfl)
    exact key nn x1 x2 h
  unfold wp_X8_unlike at h
  refine lv_iconst (v := (0 : Int32)) hx hb dX8_unlike_0 (by decide) ?_
  refine lv_istore_n (lv' := [(1, .int (0 : Int32)), (0, .ref (ad 0))]) hx hb dX8_unlike_1 rfl hl (by decide) rfl (fun ls hl => ?_)
  refine lv_iconst (v := (0 : Int32)) hx hb dX8_unlike_2 (by decide) ?_
  refine lv_istore_n (lv' := [(2, .int (0 : Int32)), (1, .int (0 : Int32)), (0, .ref (ad 0))]) hx hb dX8_unlike_3 rfl hl (by decide) rfl (fun ls hl => ?_)
  exact hJ4 (0 : Int32) (0 : Int32)   h _ _ _ hP hD hS (lv_sub hl [2, 1, 0] rfl)
set_option maxHeartbeats 4000000 in
set_option maxRecDepth 100000 in
theorem c_X8_ranks (l : Launch) (D : va_G) (cy : Nat → ClassId) (ad : Nat → Nat) (sz : Nat) (m_said : Int32) (m_waved : Int32) (m_places : Int32) (m_end : Int32) (m_joints : Int32) (m_netPlaces : Int32) (m_begin : Int32) (m_finish : Int32) (m_rounds : Int32) (m_sews : Int32) (m_state : Nat → Int32) {Q : Int32 → Prop} (h : wp_X8_ranks m_state Q) : Met l yX8_ranks (wsU yX8_ranks cX8_ranks 3 (some .int)) { frames := 3, cells := 0, slots := 0, locals := 65 } (va_Pc [.ref (ad 0)] (zB D vwCl (tyU cy) [((ad 0), oX8 ad m_said m_waved m_places m_end m_joints m_netPlaces m_begin m_finish m_rounds m_sews), ((ad 1), aI cy 112 m_state)] sz)) ((fun A => va_Qi (fun (r : Int32) (_ : Unit) => Q r ) (zE D vwCl A (fun (_ : Unit) => [((ad 0), oX8 ad m_said m_waved m_places m_end m_joints m_netPlaces m_begin m_finish m_rounds m_sews), ((ad 1), aI cy 112 m_state)])) A) (va_A [((ad 0), oX8 ad m_said m_waved m_places m_end m_joints m_netPlaces m_begin m_finish m_rounds m_sews), ((ad 1), aI cy 112 m_state)] sz)) 0 0 (va_A [((ad 0), oX8 ad m_said m_waved m_places m_end m_joints m_netPlaces m_begin m_finish m_rounds m_sews), ((ad 1), aI cy 112 m_state)] sz) := by
  refine z_ofX (fun A => va_Qi (fun (r : Int32) (_ : Unit) => Q r ) (zE D vwCl A (fun (_ : Unit) => [((ad 0), oX8 ad m_said m_waved m_places m_end m_joints m_netPlaces m_begin m_finish m_rounds m_sews), ((ad 1), aI cy 112 m_state)])) A) (by decide) (Nat.le_of_ble_eq_true rfl) (fun p e s m below meth c A ls hx hb hr hml hown hts hlocks hK hPW hA hP hD hS hl => ?_)
  have hl : lv_has ls 3 [(0, .ref (ad 0))] := hl
  have hown : s.vm.findClass RX8 = some m.cls := hown
  generalize hArg : ([.ref (ad 0)] : List Value).toArray = args at hts ⊢
  have hJ4 : ∀ (x1 : Int32) (x2 : Int32), wp_X8_ranks_4 m_state  Q x1 x2 → ∀ (H : Heap) (locs : List Loc) (ls : Array Slot), va_P D vwCl [((ad 0), oX8 ad m_said m_waved m_places m_end m_joints m_netPlaces m_begin m_finish m_rounds m_sews), ((ad 1), aI cy 112 m_state)] H → va_D A [((ad 0), oX8 ad m_said m_waved m_places m_end m_joints m_netPlaces m_begin m_finish m_rounds m_sews), ((ad 1), aI cy 112 m_state)] → va_S A s.heap H locs → lv_has ls 3 [(0, .ref (ad 0)), (1, .int x1), (2, .int x2)] → W p l e { frames := 3, cells := 0, slots := 0, locals := 65 } s m args below meth c H locs 0 0 (MQ below ((fun A => va_Qi (fun (r : Int32) (_ : Unit) => Q r ) (zE D vwCl A (fun (_ : Unit) => [((ad 0), oX8 ad m_said m_waved m_places m_end m_joints m_netPlaces m_begin m_finish m_rounds m_sews), ((ad 1), aI cy 112 m_state)])) A) A) args s 0 0 A) (F0 m 4 ls []) := by
    intro x1 x2   h
    obtain ⟨nn, h⟩ := h
    have key : ∀ (nn : Nat) (x1 : Int32) (x2 : Int32), lpW2 (wb_X8_ranks_4 m_state  Q) nn x1 x2 → ∀ (H : Heap) (locs : List Loc) (ls : Array Slot), va_P D vwCl [((ad 0), oX8 ad m_said m_waved m_places m_end m_joints m_netPlaces m_begin m_finish m_rounds m_sews), ((ad 1), aI cy 112 m_state)] H → va_D A [((ad 0), oX8 ad m_said m_waved m_places m_end m_joints m_netPlaces m_begin m_finish m_rounds m_sews), ((ad 1), aI cy 112 m_state)] → va_S A s.heap H locs → lv_has ls 3 [(0, .ref (ad 0)), (1, .int x1), (2, .int x2)] → W p l e { frames := 3, cells := 0, slots := 0, locals := 65 } s m args below meth c H locs 0 0 (MQ below ((fun A => va_Qi (fun (r : Int32) (_ : Unit) => Q r ) (zE D vwCl A (fun (_ : Unit) => [((ad 0), oX8 ad m_said m_waved m_places m_end m_joints m_netPlaces m_begin m_finish m_rounds m_sews), ((ad 1), aI cy 112 m_state)])) A) A) args s 0 0 A) (F0 m 4 ls []) := by
      intro nn
      induction nn with
      | zero => intro x1 x2 h; exact h.elim
      | succ nn hrc4 =>
        intro x1 x2 h H locs ls hP hD hS hl
        have h : wb_X8_ranks_4 m_state  Q (lpW2 (wb_X8_ranks_4 m_state  Q) nn) x1 x2 := h
        unfold wb_X8_ranks_4 at h
        refine lv_iload_n hx hb dX8_ranks_4 rfl (lv_at hl 2 rfl) ?_
        refine lv_bipush (v := (6 : Int32)) hx hb dX8_ranks_5 (by decide) ?_
        refine lv_icmp_ge (tgt := 30) hx hb dX8_ranks_7 (by decide) (fun c_6 => ?_) (fun c_6 => ?_)
        · have h := h.1 c_6
          refine lv_iload_n hx hb dX8_ranks_30 rfl (lv_at hl 1 rfl) ?_
          exact z_iret () hx hb hr hlocks h hP hD hS dX8_ranks_31
        · have h := h.2 c_6
          refine lv_iload_n hx hb dX8_ranks_10 rfl (lv_at hl 1 rfl) ?_
          refine lv_aload_n hx hb dX8_ranks_11 rfl (lv_at hl 0 rfl) ?_
          refine va_get (D := D) (ci := 7) (v := .ref (ad 1)) (C := RX8) (T := TX8) (N := 35) hx hb hts iX8 hown hK hP 0 rfl rfl 0 (Nat.le_of_ble_eq_true rfl) (hts _ fl_X8_7) (fun _ h9 => h9) rfl dX8_ranks_12 ?_
          refine lv_iconst (v := (0 : Int32)) hx hb dX8_ranks_15 (by decide) ?_
          refine lv_iload_n hx hb dX8_ranks_16 rfl (lv_at hl 2 rfl) ?_
          refine lv_iadd hx hb dX8_ranks_17 ?_
          obtain ⟨hi_7, h⟩ := h
          refine va_iald hx hb hK hP 1 0 rfl rfl hi_7 dX8_ranks_18 ?_
          refine zc_S0 (As := [.int (m_state ((0 : Int32) + x2).toNatClampNeg)]) (rest := [.int x1]) hx hb hml hown hts hK hPW hA hl.1 hP hS ⟨Nat.zero_le _, Nat.zero_le _⟩ (c_X8_rank l D cy (sz := _) (x0 := (m_state ((0 : Int32) + x2).toNatClampNeg)) (h := h)) k_X8_125 ⟨rfl, rfl, (Nat.le_of_ble_eq_true rfl), (Nat.le_of_ble_eq_true rfl)⟩ rfl rfl (Nat.le_of_ble_eq_true rfl) dX8_ranks_19 (fun r_8 H locs h hP hS => ?_)
          refine lv_iadd hx hb dX8_ranks_22 ?_
          refine lv_topi (fun x1_9 e_x1_9 => ?_)
          have h := h x1_9 e_x1_9
          refine lv_istore_n (lv' := [(1, .int x1_9), (0, .ref (ad 0)), (2, .int x2)]) hx hb dX8_ranks_23 rfl hl (by decide) rfl (fun ls hl => ?_)
          obtain ⟨x2_10, e_x2_10⟩ : ∃ y : Int32, y = x2 + (1 : Int32) := ⟨_, rfl⟩
          refine lv_iinc (v := x2_10) (lv' := [(2, .int x2_10), (1, .int x1_9), (0, .ref (ad 0))]) hx hb dX8_ranks_24 hl (k := 2) rfl (by rw [e_x2_10]; rfl) (by decide) rfl (fun ls hl => ?_)
          have h := h x2_10 e_x2_10
          refine lv_goto (tgt := 4) hx hb dX8_ranks_27 (by decide) ?_
          exact hrc4 x1_9 x2_10 h _ _ _ hP hD hS (lv_sub hl [2, 1, 0] rfl)
    exact key nn x1 x2 h
  unfold wp_X8_ranks at h
  refine lv_iconst (v := (0 : Int32)) hx hb dX8_ranks_0 (by decide) ?_
  refine lv_istore_n (lv' := [(1, .int (0 : Int32)), (0, .ref (ad 0))]) hx hb dX8_ranks_1 rfl hl (by decide) rfl (fun ls hl => ?_)
  refine lv_iconst (v := (0 : Int32)) hx hb dX8_ranks_2 (by decide) ?_
  refine lv_istore_n (lv' := [(2, .int (0 : Int32)), (1, .int (0 : Int32)), (0, .ref (ad 0))]) hx hb dX8_ranks_3 rfl hl (by decide) rfl (fun ls hl => ?_)
  exact hJ4 (0 : Int32) (0 : Int32)   h _ _ _ hP hD hS (lv_sub hl [2, 1, 0] rfl)
set_option maxHeartbeats 4000000 in
set_option maxRecDepth 100000 in
theorem c_X8_count (l : Launch) (D : va_G) (cy : Nat → ClassId) (ad : Nat → Nat) (sz : Nat) (m_said : Int32) (m_waved : Int32) (m_places : Int32) (m_end : Int32) (m_joints : Int32) (m_netPlaces : Int32) (m_begin : Int32) (m_finish : Int32) (m_rounds : Int32) (m_sews : Int32) (m_state : Nat → Int32) (m_isKept : Nat → Int32) (x1 : Int32) {Q : Int32 → Prop} (h : wp_X8_count x1 m_said m_state m_isKept Q) : Met l yX8_count (wsU yX8_count cX8_count 2 (some .int)) { frames := 4, cells := 0, slots := 0, locals := 87 } (va_Pc [.ref (ad 0), .int x1] (zB D vwCl (tyU cy) [((ad 0), oX8 ad m_said m_waved m_places m_end m_joints m_netPlaces m_begin m_finish m_rounds m_sews), ((ad 1), aI cy 112 m_state), ((ad 3), aZ cy 2 m_isKept)] sz)) ((fun A => va_Qi (fun (r : Int32) (_ : Unit) => Q r ) (zE D vwCl A (fun (_ : Unit) => [((ad 0), oX8 ad m_said m_waved m_places m_end m_joints m_netPlaces m_begin m_finish m_rounds m_sews), ((ad 1), aI cy 112 m_state), ((ad 3), aZ cy 2 m_isKept)])) A) (va_A [((ad 0), oX8 ad m_said m_waved m_places m_end m_joints m_netPlaces m_begin m_finish m_rounds m_sews), ((ad 1), aI cy 112 m_state), ((ad 3), aZ cy 2 m_isKept)] sz)) 0 0 (va_A [((ad 0), oX8 ad m_said m_waved m_places m_end m_joints m_netPlaces m_begin m_finish m_rounds m_sews), ((ad 1), aI cy 112 m_state), ((ad 3), aZ cy 2 m_isKept)] sz) := by
  refine z_ofX (fun A => va_Qi (fun (r : Int32) (_ : Unit) => Q r ) (zE D vwCl A (fun (_ : Unit) => [((ad 0), oX8 ad m_said m_waved m_places m_end m_joints m_netPlaces m_begin m_finish m_rounds m_sews), ((ad 1), aI cy 112 m_state), ((ad 3), aZ cy 2 m_isKept)])) A) (by decide) (Nat.le_of_ble_eq_true rfl) (fun p e s m below meth c A ls hx hb hr hml hown hts hlocks hK hPW hA hP hD hS hl => ?_)
  have hl : lv_has ls 2 [(0, .ref (ad 0)), (1, .int x1)] := hl
  have hown : s.vm.findClass RX8 = some m.cls := hown
  generalize hArg : ([.ref (ad 0), .int x1] : List Value).toArray = args at hts ⊢
  have hJ131 : ∀ (t0 : Int32) (t1 : Int32), wp_X8_count_131 m_said m_state m_isKept t0 t1  Q → ∀ (H : Heap) (locs : List Loc) (ls : Array Slot), va_P D vwCl [((ad 0), oX8 ad m_said m_waved m_places m_end m_joints m_netPlaces m_begin m_finish m_rounds m_sews), ((ad 1), aI cy 112 m_state), ((ad 3), aZ cy 2 m_isKept)] H → va_D A [((ad 0), oX8 ad m_said m_waved m_places m_end m_joints m_netPlaces m_begin m_finish m_rounds m_sews), ((ad 1), aI cy 112 m_state), ((ad 3), aZ cy 2 m_isKept)] → va_S A s.heap H locs → lv_has ls 2 [] → W p l e { frames := 4, cells := 0, slots := 0, locals := 87 } s m args below meth c H locs 0 0 (MQ below ((fun A => va_Qi (fun (r : Int32) (_ : Unit) => Q r ) (zE D vwCl A (fun (_ : Unit) => [((ad 0), oX8 ad m_said m_waved m_places m_end m_joints m_netPlaces m_begin m_finish m_rounds m_sews), ((ad 1), aI cy 112 m_state), ((ad 3), aZ cy 2 m_isKept)])) A) A) args s 0 0 A) (F0 m 131 ls [.int t1, .int t0]) := by
    intro t0 t1   h H locs ls hP hD hS hl
    unfold wp_X8_count_131 at h
    refine lv_iadd hx hb dX8_count_131 ?_
    exact z_iret () hx hb hr hlocks h hP hD hS dX8_count_132
  have hJ117 : ∀ (t0 : Int32), wp_X8_count_117 m_said m_state m_isKept t0  Q → ∀ (H : Heap) (locs : List Loc) (ls : Array Slot), va_P D vwCl [((ad 0), oX8 ad m_said m_waved m_places m_end m_joints m_netPlaces m_begin m_finish m_rounds m_sews), ((ad 1), aI cy 112 m_state), ((ad 3), aZ cy 2 m_isKept)] H → va_D A [((ad 0), oX8 ad m_said m_waved m_places m_end m_joints m_netPlaces m_begin m_finish m_rounds m_sews), ((ad 1), aI cy 112 m_state), ((ad 3), aZ cy 2 m_isKept)] → va_S A s.heap H locs → lv_has ls 2 [(0, .ref (ad 0))] → W p l e { frames := 4, cells := 0, slots := 0, locals := 87 } s m args below meth c H locs 0 0 (MQ below ((fun A => va_Qi (fun (r : Int32) (_ : Unit) => Q r ) (zE D vwCl A (fun (_ : Unit) => [((ad 0), oX8 ad m_said m_waved m_places m_end m_joints m_netPlaces m_begin m_finish m_rounds m_sews), ((ad 1), aI cy 112 m_state), ((ad 3), aZ cy 2 m_isKept)])) A) A) args s 0 0 A) (F0 m 117 ls [.int t0]) := by
    intro t0   h H locs ls hP hD hS hl
    unfold wp_X8_count_117 at h
    refine lv_aload_n hx hb dX8_count_117 rfl (lv_at hl 0 rfl) ?_
    refine va_get (D := D) (ci := 7) (v := .ref (ad 3)) (C := RX8) (T := TX8) (N := 35) hx hb hts iX8 hown hK hP 0 rfl rfl 2 (Nat.le_of_ble_eq_true rfl) (hts _ fl_X8_16) (fun _ h9 => h9) rfl dX8_count_118 ?_
    refine lv_iconst (v := (1 : Int32)) hx hb dX8_count_121 (by decide) ?_
    obtain ⟨hi_13, h⟩ := h
    refine va_zald hx hb hK hP 2 2 rfl rfl hi_13 dX8_count_122 ?_
    refine lv_if_eq (tgt := 130) hx hb dX8_count_123 (by decide) (fun c_14 => ?_) (fun c_14 => ?_)
    · have h := h.1 c_14
      refine lv_iconst (v := (0 : Int32)) hx hb dX8_count_130 (by decide) ?_
      exact hJ131 t0 (0 : Int32)   h _ _ _ hP hD hS (lv_sub hl [] rfl)
    · have h := h.2 c_14
      refine lv_iconst (v := (2 : Int32)) hx hb dX8_count_126 (by decide) ?_
      refine lv_goto (tgt := 131) hx hb dX8_count_127 (by decide) ?_
      exact hJ131 t0 (2 : Int32)   h _ _ _ hP hD hS (lv_sub hl [] rfl)
  unfold wp_X8_count at h
  refine lv_iload_n hx hb dX8_count_0 rfl (lv_at hl 1 rfl) ?_
  refine lv_iconst (v := (2 : Int32)) hx hb dX8_count_1 (by decide) ?_
  refine lv_iconst (v := (5 : Int32)) hx hb dX8_count_2 (by decide) ?_
  refine zc_S0 (As := [.int x1, .int (2 : Int32), .int (5 : Int32)]) (rest := []) hx hb hml hown hts hK hPW hA hl.1 hP hS ⟨Nat.zero_le _, Nat.zero_le _⟩ (c_X8_in l D cy (sz := _) (x0 := x1) (x1 := (2 : Int32)) (x2 := (5 : Int32)) (h := h)) k_X8_91 ⟨rfl, rfl, (Nat.le_of_ble_eq_true rfl), (Nat.le_of_ble_eq_true rfl)⟩ rfl rfl (Nat.le_of_ble_eq_true rfl) dX8_count_3 (fun r_15 H locs h hP hS => ?_)
  refine lv_if_eq (tgt := 21) hx hb dX8_count_6 (by decide) (fun c_16 => ?_) (fun c_16 => ?_)
  · have h := h.1 c_16
    refine lv_iload_n hx hb dX8_count_21 rfl (lv_at hl 1 rfl) ?_
    by_cases es_17_0 : x1 = (0 : Int32)
    · refine lv_tableIn (off := 50) (tgt := 72) hx hb dX8_count_22 (by rw [es_17_0]; decide) (by rw [es_17_0]; decide) (by rw [es_17_0]; decide) (by decide) ?_
      have h := h.1 es_17_0
      refine lv_aload_n hx hb dX8_count_72 rfl (lv_at hl 0 rfl) ?_
      refine zc_Vi (As := []) (rest := []) (wc := [((ad 0), oX8 ad m_said m_waved m_places m_end m_joints m_netPlaces m_begin m_finish m_rounds m_sews), ((ad 1), aI cy 112 m_state)]) (wr := [((ad 3), aZ cy 2 m_isKept)]) hx hb hml hown hts hK hPW hA hl.1 hP hD hS ⟨Nat.zero_le _, Nat.zero_le _⟩ [0, 1] [2] rfl rfl (by decide) (c_X8_unlike l D cy (sz := _) (ad := ad) (m_said := m_said) (m_waved := m_waved) (m_places := m_places) (m_end := m_end) (m_joints := m_joints) (m_netPlaces := m_netPlaces) (m_begin := m_begin) (m_finish := m_finish) (m_rounds := m_rounds) (m_sews := m_sews) (m_state := m_state) (h := h)) k_X8_286 ⟨rfl, rfl, (Nat.le_of_ble_eq_true rfl), (Nat.le_of_ble_eq_true rfl)⟩ rfl rfl rfl rfl (Nat.le_of_ble_eq_true rfl) dX8_count_73 (fun r_18 _ H locs h hP hD hS => ?_)
      have hP : va_P D vwCl [((ad 3), aZ cy 2 m_isKept), ((ad 0), oX8 ad m_said m_waved m_places m_end m_joints m_netPlaces m_begin m_finish m_rounds m_sews), ((ad 1), aI cy 112 m_state)] H := hP
      have hD : va_D A [((ad 3), aZ cy 2 m_isKept), ((ad 0), oX8 ad m_said m_waved m_places m_end m_joints m_netPlaces m_begin m_finish m_rounds m_sews), ((ad 1), aI cy 112 m_state)] := hD
      exact z_iret () hx hb hr hlocks h (hP.sub [1, 2, 0] rfl) (hD.sub [1, 2, 0] (by decide) rfl) hS dX8_count_76
    by_cases es_17_1 : x1 = (1 : Int32)
    · refine lv_tableIn (off := 55) (tgt := 77) hx hb dX8_count_22 (by rw [es_17_1]; decide) (by rw [es_17_1]; decide) (by rw [es_17_1]; decide) (by decide) ?_
      have h := h.2.1 es_17_1
      refine lv_aload_n hx hb dX8_count_77 rfl (lv_at hl 0 rfl) ?_
      refine zc_Vi (As := []) (rest := []) (wc := [((ad 0), oX8 ad m_said m_waved m_places m_end m_joints m_netPlaces m_begin m_finish m_rounds m_sews), ((ad 1), aI cy 112 m_state)]) (wr := [((ad 3), aZ cy 2 m_isKept)]) hx hb hml hown hts hK hPW hA hl.1 hP hD hS ⟨Nat.zero_le _, Nat.zero_le _⟩ [0, 1] [2] rfl rfl (by decide) (c_X8_ranks l D cy (sz := _) (ad := ad) (m_said := m_said) (m_waved := m_waved) (m_places := m_places) (m_end := m_end) (m_joints := m_joints) (m_netPlaces := m_netPlaces) (m_begin := m_begin) (m_finish := m_finish) (m_rounds := m_rounds) (m_sews := m_sews) (m_state := m_state) (h := h)) k_X8_289 ⟨rfl, rfl, (Nat.le_of_ble_eq_true rfl), (Nat.le_of_ble_eq_true rfl)⟩ rfl rfl rfl rfl (Nat.le_of_ble_eq_true rfl) dX8_count_78 (fun r_19 _ H locs h hP hD hS => ?_)
      have hP : va_P D vwCl [((ad 3), aZ cy 2 m_isKept), ((ad 0), oX8 ad m_said m_waved m_places m_end m_joints m_netPlaces m_begin m_finish m_rounds m_sews), ((ad 1), aI cy 112 m_state)] H := hP
      have hD : va_D A [((ad 3), aZ cy 2 m_isKept), ((ad 0), oX8 ad m_said m_waved m_places m_end m_joints m_netPlaces m_begin m_finish m_rounds m_sews), ((ad 1), aI cy 112 m_state)] := hD
      exact z_iret () hx hb hr hlocks h (hP.sub [1, 2, 0] rfl) (hD.sub [1, 2, 0] (by decide) rfl) hS dX8_count_81
    by_cases es_17_2 : x1 = (2 : Int32)
    · refine lv_tableIn (off := 111) (tgt := 133) hx hb dX8_count_22 (by rw [es_17_2]; decide) (by rw [es_17_2]; decide) (by rw [es_17_2]; decide) (by decide) ?_
      have h := h.2.2.1 es_17_2
      refine lv_bipush (v := (-2 : Int32)) hx hb dX8_count_133 (by decide) ?_
      exact z_iret () hx hb hr hlocks h hP hD hS dX8_count_135
    by_cases es_17_3 : x1 = (3 : Int32)
    · refine lv_tableIn (off := 111) (tgt := 133) hx hb dX8_count_22 (by rw [es_17_3]; decide) (by rw [es_17_3]; decide) (by rw [es_17_3]; decide) (by decide) ?_
      have h := h.2.2.2.1 es_17_3
      refine lv_bipush (v := (-2 : Int32)) hx hb dX8_count_133 (by decide) ?_
      exact z_iret () hx hb hr hlocks h hP hD hS dX8_count_135
    by_cases es_17_4 : x1 = (4 : Int32)
    · refine lv_tableIn (off := 111) (tgt := 133) hx hb dX8_count_22 (by rw [es_17_4]; decide) (by rw [es_17_4]; decide) (by rw [es_17_4]; decide) (by decide) ?_
      have h := h.2.2.2.2.1 es_17_4
      refine lv_bipush (v := (-2 : Int32)) hx hb dX8_count_133 (by decide) ?_
      exact z_iret () hx hb hr hlocks h hP hD hS dX8_count_135
    by_cases es_17_5 : x1 = (5 : Int32)
    · refine lv_tableIn (off := 111) (tgt := 133) hx hb dX8_count_22 (by rw [es_17_5]; decide) (by rw [es_17_5]; decide) (by rw [es_17_5]; decide) (by decide) ?_
      have h := h.2.2.2.2.2.1 es_17_5
      refine lv_bipush (v := (-2 : Int32)) hx hb dX8_count_133 (by decide) ?_
      exact z_iret () hx hb hr hlocks h hP hD hS dX8_count_135
    by_cases es_17_6 : x1 = (6 : Int32)
    · refine lv_tableIn (off := 60) (tgt := 82) hx hb dX8_count_22 (by rw [es_17_6]; decide) (by rw [es_17_6]; decide) (by rw [es_17_6]; decide) (by decide) ?_
      have h := h.2.2.2.2.2.2.1 es_17_6
      refine lv_aload_n hx hb dX8_count_82 rfl (lv_at hl 0 rfl) ?_
      refine va_get (D := D) (ci := 7) (v := .int m_said) (C := RX8) (T := TX8) (N := 35) hx hb hts iX8 hown hK hP 0 rfl rfl 4 (Nat.le_of_ble_eq_true rfl) (hts _ fl_X8_147) (fun _ h9 => h9) rfl dX8_count_83 ?_
      exact z_iret () hx hb hr hlocks h hP hD hS dX8_count_86
    by_cases es_17_7 : x1 = (7 : Int32)
    · refine lv_tableIn (off := 65) (tgt := 87) hx hb dX8_count_22 (by rw [es_17_7]; decide) (by rw [es_17_7]; decide) (by rw [es_17_7]; decide) (by decide) ?_
      have h := h.2.2.2.2.2.2.2.1 es_17_7
      refine lv_aload_n hx hb dX8_count_87 rfl (lv_at hl 0 rfl) ?_
      refine va_get (D := D) (ci := 7) (v := .ref (ad 1)) (C := RX8) (T := TX8) (N := 35) hx hb hts iX8 hown hK hP 0 rfl rfl 0 (Nat.le_of_ble_eq_true rfl) (hts _ fl_X8_7) (fun _ h9 => h9) rfl dX8_count_88 ?_
      refine lv_bipush (v := (58 : Int32)) hx hb dX8_count_91 (by decide) ?_
      obtain ⟨hi_20, h⟩ := h
      refine va_iald hx hb hK hP 1 0 rfl rfl hi_20 dX8_count_93 ?_
      refine lv_aload_n hx hb dX8_count_94 rfl (lv_at hl 0 rfl) ?_
      refine va_get (D := D) (ci := 7) (v := .ref (ad 1)) (C := RX8) (T := TX8) (N := 35) hx hb hts iX8 hown hK hP 0 rfl rfl 0 (Nat.le_of_ble_eq_true rfl) (hts _ fl_X8_7) (fun _ h9 => h9) rfl dX8_count_95 ?_
      refine lv_bipush (v := (59 : Int32)) hx hb dX8_count_98 (by decide) ?_
      obtain ⟨hi_21, h⟩ := h
      refine va_iald hx hb hK hP 1 0 rfl rfl hi_21 dX8_count_100 ?_
      refine lv_iadd hx hb dX8_count_101 ?_
      exact z_iret () hx hb hr hlocks h hP hD hS dX8_count_102
    by_cases es_17_8 : x1 = (8 : Int32)
    · refine lv_tableIn (off := 81) (tgt := 103) hx hb dX8_count_22 (by rw [es_17_8]; decide) (by rw [es_17_8]; decide) (by rw [es_17_8]; decide) (by decide) ?_
      have h := h.2.2.2.2.2.2.2.2.1 es_17_8
      refine lv_aload_n hx hb dX8_count_103 rfl (lv_at hl 0 rfl) ?_
      refine va_get (D := D) (ci := 7) (v := .ref (ad 3)) (C := RX8) (T := TX8) (N := 35) hx hb hts iX8 hown hK hP 0 rfl rfl 2 (Nat.le_of_ble_eq_true rfl) (hts _ fl_X8_16) (fun _ h9 => h9) rfl dX8_count_104 ?_
      refine lv_iconst (v := (0 : Int32)) hx hb dX8_count_107 (by decide) ?_
      obtain ⟨hi_22, h⟩ := h
      refine va_zald hx hb hK hP 2 2 rfl rfl hi_22 dX8_count_108 ?_
      refine lv_if_eq (tgt := 116) hx hb dX8_count_109 (by decide) (fun c_23 => ?_) (fun c_23 => ?_)
      · have h := h.1 c_23
        refine lv_iconst (v := (0 : Int32)) hx hb dX8_count_116 (by decide) ?_
        exact hJ117 (0 : Int32)   h _ _ _ hP hD hS (lv_sub hl [0] rfl)
      · have h := h.2 c_23
        refine lv_iconst (v := (1 : Int32)) hx hb dX8_count_112 (by decide) ?_
        refine lv_goto (tgt := 117) hx hb dX8_count_113 (by decide) ?_
        exact hJ117 (1 : Int32)   h _ _ _ hP hD hS (lv_sub hl [0] rfl)
    refine lv_tableOut (tgt := 133) hx hb dX8_count_22 (by have := lv_neT es_17_0 (a := 0) (by decide); have := lv_neT es_17_1 (a := 1) (by decide); have := lv_neT es_17_2 (a := 2) (by decide); have := lv_neT es_17_3 (a := 3) (by decide); have := lv_neT es_17_4 (a := 4) (by decide); have := lv_neT es_17_5 (a := 5) (by decide); have := lv_neT es_17_6 (a := 6) (by decide); have := lv_neT es_17_7 (a := 7) (by decide); have := lv_neT es_17_8 (a := 8) (by decide); omega) (by decide) ?_
    have h := h.2.2.2.2.2.2.2.2.2 es_17_0 es_17_1 es_17_2 es_17_3 es_17_4 es_17_5 es_17_6 es_17_7 es_17_8
    refine lv_bipush (v := (-2 : Int32)) hx hb dX8_count_133 (by decide) ?_
    exact z_iret () hx hb hr hlocks h hP hD hS dX8_count_135
  · have h := h.2 c_16
    refine lv_aload_n hx hb dX8_count_9 rfl (lv_at hl 0 rfl) ?_
    refine va_get (D := D) (ci := 7) (v := .ref (ad 1)) (C := RX8) (T := TX8) (N := 35) hx hb hts iX8 hown hK hP 0 rfl rfl 0 (Nat.le_of_ble_eq_true rfl) (hts _ fl_X8_7) (fun _ h9 => h9) rfl dX8_count_10 ?_
    refine lv_bipush (v := (6 : Int32)) hx hb dX8_count_13 (by decide) ?_
    refine lv_iload_n hx hb dX8_count_15 rfl (lv_at hl 1 rfl) ?_
    refine lv_iadd hx hb dX8_count_16 ?_
    refine lv_iconst (v := (2 : Int32)) hx hb dX8_count_17 (by decide) ?_
    refine lv_isub hx hb dX8_count_18 ?_
    obtain ⟨hi_24, h⟩ := h
    refine va_iald hx hb hK hP 1 0 rfl rfl hi_24 dX8_count_19 ?_
    exact z_iret () hx hb hr hlocks h hP hD hS dX8_count_20
