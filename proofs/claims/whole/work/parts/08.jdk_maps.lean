set_option maxHeartbeats 4000000 in
set_option maxRecDepth 100000 in
theorem c_X1_digit (l : Launch) (D : va_G) (cy : Nat → ClassId) (sz : Nat) (x0 : Int32) (x1 : Int32) {Q : Int32 → Prop} (h : wp_X1_digit x0 x1 Q) : Met l yX1_digit (wsU yX1_digit cX1_digit 2 (some .int)) { frames := 0, cells := 0, slots := 0, locals := 0 } (va_Pc [.int x0, .int x1] (zB D vwCl (tyU cy) [] sz)) ((fun A => va_Qi (fun (r : Int32) (_ : Unit) => Q r ) (zE D vwCl A (fun (_ : Unit) => [])) A) (va_A [] sz)) 0 0 (va_A [] sz) := by
  refine z_ofX (fun A => va_Qi (fun (r : Int32) (_ : Unit) => Q r ) (zE D vwCl A (fun (_ : Unit) => [])) A) (by decide) (Nat.le_of_ble_eq_true rfl) (fun p e s m below meth c A ls hx hb hr hml hown hts hlocks hK hPW hA hP hD hS hl => ?_)
  have hl : lv_has ls 2 [(0, .int x0), (1, .int x1)] := hl
  have hown : s.vm.findClass RX1 = some m.cls := hown
  unfold wp_X1_digit at h
  refine lv_iload_n hx hb dX1_digit_0 rfl (lv_at hl 0 rfl) ?_
  refine z_pw hx hb hown rfl hPW hS dX1_digit_1 (fun pt_4 hT_4 => ?_)
  refine lv_iload_n hx hb dX1_digit_4 rfl (lv_at hl 1 rfl) ?_
  obtain ⟨hi_5, h⟩ := h
  refine va_ti hx hb hT_4 hS hi_5 rfl dX1_digit_5 ?_
  obtain ⟨hn_6, h⟩ := h
  refine lv_idiv hx hb dX1_digit_6 hn_6 ?_
  refine lv_bipush (v := (6 : Int32)) hx hb dX1_digit_7 (by decide) ?_
  refine lv_irem hx hb dX1_digit_9 (by decide) ?_
  exact z_iret () hx hb hr hlocks h hP hD hS dX1_digit_10
set_option maxHeartbeats 4000000 in
set_option maxRecDepth 100000 in
theorem c_X1_then (l : Launch) (D : va_G) (cy : Nat → ClassId) (sz : Nat) (x0 : Int32) (x1 : Int32) {Q : Int32 → Prop} (h : wp_X1_then x0 x1 Q) : Met l yX1_then (wsU yX1_then cX1_then 5 (some .int)) { frames := 1, cells := 0, slots := 0, locals := 21 } (va_Pc [.int x0, .int x1] (zB D vwCl (tyU cy) [] sz)) ((fun A => va_Qi (fun (r : Int32) (_ : Unit) => Q r ) (zE D vwCl A (fun (_ : Unit) => [])) A) (va_A [] sz)) 0 0 (va_A [] sz) := by
  refine z_ofX (fun A => va_Qi (fun (r : Int32) (_ : Unit) => Q r ) (zE D vwCl A (fun (_ : Unit) => [])) A) (by decide) (Nat.le_of_ble_eq_true rfl) (fun p e s m below meth c A ls hx hb hr hml hown hts hlocks hK hPW hA hP hD hS hl => ?_)
  have hl : lv_has ls 5 [(0, .int x0), (1, .int x1)] := hl
  have hown : s.vm.findClass RX1 = some m.cls := hown
  generalize hArg : ([.int x0, .int x1] : List Value).toArray = args at hts ⊢
  have hJ38 : ∀ (x0 : Int32) (x1 : Int32) (x2 : Int32) (x3 : Int32) (rc4 : Int32 → Int32 → Prop) (hrc4 : ∀ (x2 : Int32) (x3 : Int32), rc4 x2 x3 → ∀ (H : Heap) (locs : List Loc) (ls : Array Slot), va_P D vwCl [] H → va_D A [] → va_S A s.heap H locs → lv_has ls 5 [(0, .int x0), (1, .int x1), (2, .int x2), (3, .int x3)] → W p l e { frames := 1, cells := 0, slots := 0, locals := 21 } s m args below meth c H locs 0 0 (MQ below ((fun A => va_Qi (fun (r : Int32) (_ : Unit) => Q r ) (zE D vwCl A (fun (_ : Unit) => [])) A) A) args s 0 0 A) (F0 m 4 ls [])), wp_X1_then_38 x0 x1 x2 x3 rc4 Q → ∀ (H : Heap) (locs : List Loc) (ls : Array Slot), va_P D vwCl [] H → va_D A [] → va_S A s.heap H locs → lv_has ls 5 [(0, .int x0), (1, .int x1), (2, .int x2), (3, .int x3)] → W p l e { frames := 1, cells := 0, slots := 0, locals := 21 } s m args below meth c H locs 0 0 (MQ below ((fun A => va_Qi (fun (r : Int32) (_ : Unit) => Q r ) (zE D vwCl A (fun (_ : Unit) => [])) A) A) args s 0 0 A) (F0 m 38 ls []) := by
    intro x0 x1 x2 x3 rc4 hrc4  h H locs ls hP hD hS hl
    unfold wp_X1_then_38 at h
    obtain ⟨x3_9, e_x3_9⟩ : ∃ y : Int32, y = x3 + (1 : Int32) := ⟨_, rfl⟩
    refine lv_iinc (v := x3_9) (lv' := [(3, .int x3_9), (0, .int x0), (1, .int x1), (2, .int x2)]) hx hb dX1_then_38 hl (k := 3) rfl (by rw [e_x3_9]; rfl) (by decide) rfl (fun ls hl => ?_)
    have h := h x3_9 e_x3_9
    refine lv_goto (tgt := 4) hx hb dX1_then_41 (by decide) ?_
    exact hrc4 x2 x3_9 h _ _ _ hP hD hS (lv_sub hl [1, 2, 3, 0] rfl)
  have hJ4 : ∀ (x0 : Int32) (x1 : Int32) (x2 : Int32) (x3 : Int32), wp_X1_then_4 x0 x1  Q x2 x3 → ∀ (H : Heap) (locs : List Loc) (ls : Array Slot), va_P D vwCl [] H → va_D A [] → va_S A s.heap H locs → lv_has ls 5 [(0, .int x0), (1, .int x1), (2, .int x2), (3, .int x3)] → W p l e { frames := 1, cells := 0, slots := 0, locals := 21 } s m args below meth c H locs 0 0 (MQ below ((fun A => va_Qi (fun (r : Int32) (_ : Unit) => Q r ) (zE D vwCl A (fun (_ : Unit) => [])) A) A) args s 0 0 A) (F0 m 4 ls []) := by
    intro x0 x1 x2 x3   h
    obtain ⟨nn, h⟩ := h
    have key : ∀ (nn : Nat) (x2 : Int32) (x3 : Int32), lpW2 (wb_X1_then_4 x0 x1  Q) nn x2 x3 → ∀ (H : Heap) (locs : List Loc) (ls : Array Slot), va_P D vwCl [] H → va_D A [] → va_S A s.heap H locs → lv_has ls 5 [(0, .int x0), (1, .int x1), (2, .int x2), (3, .int x3)] → W p l e { frames := 1, cells := 0, slots := 0, locals := 21 } s m args below meth c H locs 0 0 (MQ below ((fun A => va_Qi (fun (r : Int32) (_ : Unit) => Q r ) (zE D vwCl A (fun (_ : Unit) => [])) A) A) args s 0 0 A) (F0 m 4 ls []) := by
      intro nn
      induction nn with
      | zero => intro x2 x3 h; exact h.elim
      | succ nn hrc4 =>
        intro x2 x3 h H locs ls hP hD hS hl
        have h : wb_X1_then_4 x0 x1  Q (lpW2 (wb_X1_then_4 x0 x1  Q) nn) x2 x3 := h
        unfold wb_X1_then_4 at h
        refine lv_iload_n hx hb dX1_then_4 rfl (lv_at hl 3 rfl) ?_
        refine lv_iconst (v := (5 : Int32)) hx hb dX1_then_5 (by decide) ?_
        refine lv_icmp_ge (tgt := 44) hx hb dX1_then_6 (by decide) (fun c_10 => ?_) (fun c_10 => ?_)
        · have h := h.1 c_10
          refine lv_iload_n hx hb dX1_then_44 rfl (lv_at hl 2 rfl) ?_
          exact z_iret () hx hb hr hlocks h hP hD hS dX1_then_45
        · have h := h.2 c_10
          refine lv_iload_n hx hb dX1_then_9 rfl (lv_at hl 0 rfl) ?_
          refine lv_iload_n hx hb dX1_then_10 rfl (lv_at hl 3 rfl) ?_
          refine zc_S0 (As := [.int x0, .int x3]) (rest := []) hx hb hml hown hts hK hPW hA hl.1 hP hS ⟨Nat.zero_le _, Nat.zero_le _⟩ (c_X1_digit l D cy (sz := _) (x0 := x0) (x1 := x3) (h := h)) k_X1_19 ⟨rfl, rfl, (Nat.le_of_ble_eq_true rfl), (Nat.le_of_ble_eq_true rfl)⟩ rfl rfl (Nat.le_of_ble_eq_true rfl) dX1_then_11 (fun r_11 H locs h hP hS => ?_)
          refine lv_istore (lv' := [(4, .int r_11), (0, .int x0), (1, .int x1), (2, .int x2), (3, .int x3)]) hx hb dX1_then_14 hl (by decide) rfl (fun ls hl => ?_)
          refine lv_iload hx hb dX1_then_16 (lv_at hl 0 rfl) ?_
          refine lv_if_le (tgt := 38) hx hb dX1_then_18 (by decide) (fun c_12 => ?_) (fun c_12 => ?_)
          · have h := h.1 c_12
            exact hJ38 x0 x1 x2 x3 _ hrc4  h _ _ _ hP hD hS (lv_sub hl [1, 2, 3, 4] rfl)
          · have h := h.2 c_12
            refine lv_iload_n hx hb dX1_then_21 rfl (lv_at hl 3 rfl) ?_
            refine lv_iload_n hx hb dX1_then_22 rfl (lv_at hl 2 rfl) ?_
            refine lv_iload hx hb dX1_then_23 (lv_at hl 0 rfl) ?_
            refine lv_iconst (v := (1 : Int32)) hx hb dX1_then_25 (by decide) ?_
            refine lv_isub hx hb dX1_then_26 ?_
            refine zc_S0 (As := [.int x1, .int (r_11 - (1 : Int32))]) (rest := [.int x2]) hx hb hml hown hts hK hPW hA hl.1 hP hS ⟨Nat.zero_le _, Nat.zero_le _⟩ (c_X1_digit l D cy (sz := _) (x0 := x1) (x1 := (r_11 - (1 : Int32))) (h := h)) k_X1_19 ⟨rfl, rfl, (Nat.le_of_ble_eq_true rfl), (Nat.le_of_ble_eq_true rfl)⟩ rfl rfl (Nat.le_of_ble_eq_true rfl) dX1_then_27 (fun r_13 H locs h hP hS => ?_)
            refine z_pw hx hb hown rfl hPW hS dX1_then_30 (fun pt_14 hT_14 => ?_)
            refine lv_iload_n hx hb dX1_then_33 rfl (lv_at hl 4 rfl) ?_
            obtain ⟨hi_15, h⟩ := h
            refine va_ti hx hb hT_14 hS hi_15 rfl dX1_then_34 ?_
            refine lv_imul hx hb dX1_then_35 ?_
            refine lv_iadd hx hb dX1_then_36 ?_
            refine lv_topi (fun x2_16 e_x2_16 => ?_)
            have h := h x2_16 e_x2_16
            refine lv_istore_n (lv' := [(2, .int x2_16), (4, .int r_11), (0, .int x0), (1, .int x1), (3, .int x3)]) hx hb dX1_then_37 rfl hl (by decide) rfl (fun ls hl => ?_)
            exact hJ38 x0 x1 x2_16 x3 _ hrc4  h _ _ _ hP hD hS (lv_sub hl [2, 3, 0, 4] rfl)
    exact key nn x2 x3 h
  unfold wp_X1_then at h
  refine lv_iconst (v := (0 : Int32)) hx hb dX1_then_0 (by decide) ?_
  refine lv_istore_n (lv' := [(2, .int (0 : Int32)), (0, .int x0), (1, .int x1)]) hx hb dX1_then_1 rfl hl (by decide) rfl (fun ls hl => ?_)
  refine lv_iconst (v := (0 : Int32)) hx hb dX1_then_2 (by decide) ?_
  refine lv_istore_n (lv' := [(3, .int (0 : Int32)), (2, .int (0 : Int32)), (0, .int x0), (1, .int x1)]) hx hb dX1_then_3 rfl hl (by decide) rfl (fun ls hl => ?_)
  exact hJ4 x0 x1 (0 : Int32) (0 : Int32)   h _ _ _ hP hD hS (lv_sub hl [2, 3, 1, 0] rfl)
set_option maxHeartbeats 4000000 in
set_option maxRecDepth 100000 in
theorem c_X1_domPoints (l : Launch) (D : va_G) (cy : Nat → ClassId) (sz : Nat) (x0 : Int32) {Q : Int32 → Prop} (h : wp_X1_domPoints x0 Q) : Met l yX1_domPoints (wsU yX1_domPoints cX1_domPoints 3 (some .int)) { frames := 1, cells := 0, slots := 0, locals := 21 } (va_Pc [.int x0] (zB D vwCl (tyU cy) [] sz)) ((fun A => va_Qi (fun (r : Int32) (_ : Unit) => Q r ) (zE D vwCl A (fun (_ : Unit) => [])) A) (va_A [] sz)) 0 0 (va_A [] sz) := by
  refine z_ofX (fun A => va_Qi (fun (r : Int32) (_ : Unit) => Q r ) (zE D vwCl A (fun (_ : Unit) => [])) A) (by decide) (Nat.le_of_ble_eq_true rfl) (fun p e s m below meth c A ls hx hb hr hml hown hts hlocks hK hPW hA hP hD hS hl => ?_)
  have hl : lv_has ls 3 [(0, .int x0)] := hl
  have hown : s.vm.findClass RX1 = some m.cls := hown
  generalize hArg : ([.int x0] : List Value).toArray = args at hts ⊢
  have hJ23 : ∀ (x0 : Int32) (x1 : Int32) (x2 : Int32) (rc4 : Int32 → Int32 → Prop) (hrc4 : ∀ (x1 : Int32) (x2 : Int32), rc4 x1 x2 → ∀ (H : Heap) (locs : List Loc) (ls : Array Slot), va_P D vwCl [] H → va_D A [] → va_S A s.heap H locs → lv_has ls 3 [(0, .int x0), (1, .int x1), (2, .int x2)] → W p l e { frames := 1, cells := 0, slots := 0, locals := 21 } s m args below meth c H locs 0 0 (MQ below ((fun A => va_Qi (fun (r : Int32) (_ : Unit) => Q r ) (zE D vwCl A (fun (_ : Unit) => [])) A) A) args s 0 0 A) (F0 m 4 ls [])), wp_X1_domPoints_23 x0 x1 x2 rc4 Q → ∀ (H : Heap) (locs : List Loc) (ls : Array Slot), va_P D vwCl [] H → va_D A [] → va_S A s.heap H locs → lv_has ls 3 [(0, .int x0), (1, .int x1), (2, .int x2)] → W p l e { frames := 1, cells := 0, slots := 0, locals := 21 } s m args below meth c H locs 0 0 (MQ below ((fun A => va_Qi (fun (r : Int32) (_ : Unit) => Q r ) (zE D vwCl A (fun (_ : Unit) => [])) A) A) args s 0 0 A) (F0 m 23 ls []) := by
    intro x0 x1 x2 rc4 hrc4  h H locs ls hP hD hS hl
    unfold wp_X1_domPoints_23 at h
    obtain ⟨x2_6, e_x2_6⟩ : ∃ y : Int32, y = x2 + (1 : Int32) := ⟨_, rfl⟩
    refine lv_iinc (v := x2_6) (lv' := [(2, .int x2_6), (0, .int x0), (1, .int x1)]) hx hb dX1_domPoints_23 hl (k := 2) rfl (by rw [e_x2_6]; rfl) (by decide) rfl (fun ls hl => ?_)
    have h := h x2_6 e_x2_6
    refine lv_goto (tgt := 4) hx hb dX1_domPoints_26 (by decide) ?_
    exact hrc4 x1 x2_6 h _ _ _ hP hD hS (lv_sub hl [1, 2, 0] rfl)
  have hJ4 : ∀ (x0 : Int32) (x1 : Int32) (x2 : Int32), wp_X1_domPoints_4 x0  Q x1 x2 → ∀ (H : Heap) (locs : List Loc) (ls : Array Slot), va_P D vwCl [] H → va_D A [] → va_S A s.heap H locs → lv_has ls 3 [(0, .int x0), (1, .int x1), (2, .int x2)] → W p l e { frames := 1, cells := 0, slots := 0, locals := 21 } s m args below meth c H locs 0 0 (MQ below ((fun A => va_Qi (fun (r : Int32) (_ : Unit) => Q r ) (zE D vwCl A (fun (_ : Unit) => [])) A) A) args s 0 0 A) (F0 m 4 ls []) := by
    intro x0 x1 x2   h
    obtain ⟨nn, h⟩ := h
    have key : ∀ (nn : Nat) (x1 : Int32) (x2 : Int32), lpW2 (wb_X1_domPoints_4 x0  Q) nn x1 x2 → ∀ (H : Heap) (locs : List Loc) (ls : Array Slot), va_P D vwCl [] H → va_D A [] → va_S A s.heap H locs → lv_has ls 3 [(0, .int x0), (1, .int x1), (2, .int x2)] → W p l e { frames := 1, cells := 0, slots := 0, locals := 21 } s m args below meth c H locs 0 0 (MQ below ((fun A => va_Qi (fun (r : Int32) (_ : Unit) => Q r ) (zE D vwCl A (fun (_ : Unit) => [])) A) A) args s 0 0 A) (F0 m 4 ls []) := by
      intro nn
      induction nn with
      | zero => intro x1 x2 h; exact h.elim
      | succ nn hrc4 =>
        intro x1 x2 h H locs ls hP hD hS hl
        have h : wb_X1_domPoints_4 x0  Q (lpW2 (wb_X1_domPoints_4 x0  Q) nn) x1 x2 := h
        unfold wb_X1_domPoints_4 at h
        refine lv_iload_n hx hb dX1_domPoints_4 rfl (lv_at hl 2 rfl) ?_
        refine lv_iconst (v := (5 : Int32)) hx hb dX1_domPoints_5 (by decide) ?_
        refine lv_icmp_ge (tgt := 29) hx hb dX1_domPoints_6 (by decide) (fun c_7 => ?_) (fun c_7 => ?_)
        · have h := h.1 c_7
          refine lv_iload_n hx hb dX1_domPoints_29 rfl (lv_at hl 1 rfl) ?_
          exact z_iret () hx hb hr hlocks h hP hD hS dX1_domPoints_30
        · have h := h.2 c_7
          refine lv_iload_n hx hb dX1_domPoints_9 rfl (lv_at hl 0 rfl) ?_
          refine lv_iload_n hx hb dX1_domPoints_10 rfl (lv_at hl 2 rfl) ?_
          refine zc_S0 (As := [.int x0, .int x2]) (rest := []) hx hb hml hown hts hK hPW hA hl.1 hP hS ⟨Nat.zero_le _, Nat.zero_le _⟩ (c_X1_digit l D cy (sz := _) (x0 := x0) (x1 := x2) (h := h)) k_X1_19 ⟨rfl, rfl, (Nat.le_of_ble_eq_true rfl), (Nat.le_of_ble_eq_true rfl)⟩ rfl rfl (Nat.le_of_ble_eq_true rfl) dX1_domPoints_11 (fun r_8 H locs h hP hS => ?_)
          refine lv_if_le (tgt := 23) hx hb dX1_domPoints_14 (by decide) (fun c_9 => ?_) (fun c_9 => ?_)
          · have h := h.1 c_9
            exact hJ23 x0 x1 x2 _ hrc4  h _ _ _ hP hD hS (lv_sub hl [0, 1, 2] rfl)
          · have h := h.2 c_9
            refine lv_iload_n hx hb dX1_domPoints_17 rfl (lv_at hl 1 rfl) ?_
            refine lv_iconst (v := (1 : Int32)) hx hb dX1_domPoints_18 (by decide) ?_
            refine lv_iload_n hx hb dX1_domPoints_19 rfl (lv_at hl 2 rfl) ?_
            refine lv_ishl hx hb dX1_domPoints_20 ?_
            refine lv_ior hx hb dX1_domPoints_21 ?_
            refine lv_topi (fun x1_10 e_x1_10 => ?_)
            have h := h x1_10 e_x1_10
            refine lv_istore_n (lv' := [(1, .int x1_10), (0, .int x0), (2, .int x2)]) hx hb dX1_domPoints_22 rfl hl (by decide) rfl (fun ls hl => ?_)
            exact hJ23 x0 x1_10 x2 _ hrc4  h _ _ _ hP hD hS (lv_sub hl [1, 0, 2] rfl)
    exact key nn x1 x2 h
  unfold wp_X1_domPoints at h
  refine lv_iconst (v := (0 : Int32)) hx hb dX1_domPoints_0 (by decide) ?_
  refine lv_istore_n (lv' := [(1, .int (0 : Int32)), (0, .int x0)]) hx hb dX1_domPoints_1 rfl hl (by decide) rfl (fun ls hl => ?_)
  refine lv_iconst (v := (0 : Int32)) hx hb dX1_domPoints_2 (by decide) ?_
  refine lv_istore_n (lv' := [(2, .int (0 : Int32)), (1, .int (0 : Int32)), (0, .int x0)]) hx hb dX1_domPoints_3 rfl hl (by decide) rfl (fun ls hl => ?_)
  exact hJ4 x0 (0 : Int32) (0 : Int32)   h _ _ _ hP hD hS (lv_sub hl [2, 1, 0] rfl)
set_option maxHeartbeats 4000000 in
set_option maxRecDepth 100000 in
theorem c_X1_ranPoints (l : Launch) (D : va_G) (cy : Nat → ClassId) (sz : Nat) (x0 : Int32) {Q : Int32 → Prop} (h : wp_X1_ranPoints x0 Q) : Met l yX1_ranPoints (wsU yX1_ranPoints cX1_ranPoints 4 (some .int)) { frames := 1, cells := 0, slots := 0, locals := 21 } (va_Pc [.int x0] (zB D vwCl (tyU cy) [] sz)) ((fun A => va_Qi (fun (r : Int32) (_ : Unit) => Q r ) (zE D vwCl A (fun (_ : Unit) => [])) A) (va_A [] sz)) 0 0 (va_A [] sz) := by
  refine z_ofX (fun A => va_Qi (fun (r : Int32) (_ : Unit) => Q r ) (zE D vwCl A (fun (_ : Unit) => [])) A) (by decide) (Nat.le_of_ble_eq_true rfl) (fun p e s m below meth c A ls hx hb hr hml hown hts hlocks hK hPW hA hP hD hS hl => ?_)
  have hl : lv_has ls 4 [(0, .int x0)] := hl
  have hown : s.vm.findClass RX1 = some m.cls := hown
  generalize hArg : ([.int x0] : List Value).toArray = args at hts ⊢
  have hJ27 : ∀ (x0 : Int32) (x1 : Int32) (x2 : Int32) (rc4 : Int32 → Int32 → Prop) (hrc4 : ∀ (x1 : Int32) (x2 : Int32), rc4 x1 x2 → ∀ (H : Heap) (locs : List Loc) (ls : Array Slot), va_P D vwCl [] H → va_D A [] → va_S A s.heap H locs → lv_has ls 4 [(0, .int x0), (1, .int x1), (2, .int x2)] → W p l e { frames := 1, cells := 0, slots := 0, locals := 21 } s m args below meth c H locs 0 0 (MQ below ((fun A => va_Qi (fun (r : Int32) (_ : Unit) => Q r ) (zE D vwCl A (fun (_ : Unit) => [])) A) A) args s 0 0 A) (F0 m 4 ls [])), wp_X1_ranPoints_27 x0 x1 x2 rc4 Q → ∀ (H : Heap) (locs : List Loc) (ls : Array Slot), va_P D vwCl [] H → va_D A [] → va_S A s.heap H locs → lv_has ls 4 [(0, .int x0), (1, .int x1), (2, .int x2)] → W p l e { frames := 1, cells := 0, slots := 0, locals := 21 } s m args below meth c H locs 0 0 (MQ below ((fun A => va_Qi (fun (r : Int32) (_ : Unit) => Q r ) (zE D vwCl A (fun (_ : Unit) => [])) A) A) args s 0 0 A) (F0 m 27 ls []) := by
    intro x0 x1 x2 rc4 hrc4  h H locs ls hP hD hS hl
    unfold wp_X1_ranPoints_27 at h
    obtain ⟨x2_6, e_x2_6⟩ : ∃ y : Int32, y = x2 + (1 : Int32) := ⟨_, rfl⟩
    refine lv_iinc (v := x2_6) (lv' := [(2, .int x2_6), (0, .int x0), (1, .int x1)]) hx hb dX1_ranPoints_27 hl (k := 2) rfl (by rw [e_x2_6]; rfl) (by decide) rfl (fun ls hl => ?_)
    have h := h x2_6 e_x2_6
    refine lv_goto (tgt := 4) hx hb dX1_ranPoints_30 (by decide) ?_
    exact hrc4 x1 x2_6 h _ _ _ hP hD hS (lv_sub hl [1, 2, 0] rfl)
  have hJ4 : ∀ (x0 : Int32) (x1 : Int32) (x2 : Int32), wp_X1_ranPoints_4 x0  Q x1 x2 → ∀ (H : Heap) (locs : List Loc) (ls : Array Slot), va_P D vwCl [] H → va_D A [] → va_S A s.heap H locs → lv_has ls 4 [(0, .int x0), (1, .int x1), (2, .int x2)] → W p l e { frames := 1, cells := 0, slots := 0, locals := 21 } s m args below meth c H locs 0 0 (MQ below ((fun A => va_Qi (fun (r : Int32) (_ : Unit) => Q r ) (zE D vwCl A (fun (_ : Unit) => [])) A) A) args s 0 0 A) (F0 m 4 ls []) := by
    intro x0 x1 x2   h
    obtain ⟨nn, h⟩ := h
    have key : ∀ (nn : Nat) (x1 : Int32) (x2 : Int32), lpW2 (wb_X1_ranPoints_4 x0  Q) nn x1 x2 → ∀ (H : Heap) (locs : List Loc) (ls : Array Slot), va_P D vwCl [] H → va_D A [] → va_S A s.heap H locs → lv_has ls 4 [(0, .int x0), (1, .int x1), (2, .int x2)] → W p l e { frames := 1, cells := 0, slots := 0, locals := 21 } s m args below meth c H locs 0 0 (MQ below ((fun A => va_Qi (fun (r : Int32) (_ : Unit) => Q r ) (zE D vwCl A (fun (_ : Unit) => [])) A) A) args s 0 0 A) (F0 m 4 ls []) := by
      intro nn
      induction nn with
      | zero => intro x1 x2 h; exact h.elim
      | succ nn hrc4 =>
        intro x1 x2 h H locs ls hP hD hS hl
        have h : wb_X1_ranPoints_4 x0  Q (lpW2 (wb_X1_ranPoints_4 x0  Q) nn) x1 x2 := h
        unfold wb_X1_ranPoints_4 at h
        refine lv_iload_n hx hb dX1_ranPoints_4 rfl (lv_at hl 2 rfl) ?_
        refine lv_iconst (v := (5 : Int32)) hx hb dX1_ranPoints_5 (by decide) ?_
        refine lv_icmp_ge (tgt := 33) hx hb dX1_ranPoints_6 (by decide) (fun c_7 => ?_) (fun c_7 => ?_)
        · have h := h.1 c_7
          refine lv_iload_n hx hb dX1_ranPoints_33 rfl (lv_at hl 1 rfl) ?_
          exact z_iret () hx hb hr hlocks h hP hD hS dX1_ranPoints_34
        · have h := h.2 c_7
          refine lv_iload_n hx hb dX1_ranPoints_9 rfl (lv_at hl 0 rfl) ?_
          refine lv_iload_n hx hb dX1_ranPoints_10 rfl (lv_at hl 2 rfl) ?_
          refine zc_S0 (As := [.int x0, .int x2]) (rest := []) hx hb hml hown hts hK hPW hA hl.1 hP hS ⟨Nat.zero_le _, Nat.zero_le _⟩ (c_X1_digit l D cy (sz := _) (x0 := x0) (x1 := x2) (h := h)) k_X1_19 ⟨rfl, rfl, (Nat.le_of_ble_eq_true rfl), (Nat.le_of_ble_eq_true rfl)⟩ rfl rfl (Nat.le_of_ble_eq_true rfl) dX1_ranPoints_11 (fun r_8 H locs h hP hS => ?_)
          refine lv_istore_n (lv' := [(3, .int r_8), (0, .int x0), (1, .int x1), (2, .int x2)]) hx hb dX1_ranPoints_14 rfl hl (by decide) rfl (fun ls hl => ?_)
          refine lv_iload_n hx hb dX1_ranPoints_15 rfl (lv_at hl 0 rfl) ?_
          refine lv_if_le (tgt := 27) hx hb dX1_ranPoints_16 (by decide) (fun c_9 => ?_) (fun c_9 => ?_)
          · have h := h.1 c_9
            exact hJ27 x0 x1 x2 _ hrc4  h _ _ _ hP hD hS (lv_sub hl [1, 2, 3] rfl)
          · have h := h.2 c_9
            refine lv_iload_n hx hb dX1_ranPoints_19 rfl (lv_at hl 2 rfl) ?_
            refine lv_iconst (v := (1 : Int32)) hx hb dX1_ranPoints_20 (by decide) ?_
            refine lv_iload_n hx hb dX1_ranPoints_21 rfl (lv_at hl 0 rfl) ?_
            refine lv_iconst (v := (1 : Int32)) hx hb dX1_ranPoints_22 (by decide) ?_
            refine lv_isub hx hb dX1_ranPoints_23 ?_
            refine lv_ishl hx hb dX1_ranPoints_24 ?_
            refine lv_ior hx hb dX1_ranPoints_25 ?_
            refine lv_topi (fun x1_10 e_x1_10 => ?_)
            have h := h x1_10 e_x1_10
            refine lv_istore_n (lv' := [(1, .int x1_10), (3, .int r_8), (0, .int x0), (2, .int x2)]) hx hb dX1_ranPoints_26 rfl hl (by decide) rfl (fun ls hl => ?_)
            exact hJ27 x0 x1_10 x2 _ hrc4  h _ _ _ hP hD hS (lv_sub hl [2, 0, 3] rfl)
    exact key nn x1 x2 h
  unfold wp_X1_ranPoints at h
  refine lv_iconst (v := (0 : Int32)) hx hb dX1_ranPoints_0 (by decide) ?_
  refine lv_istore_n (lv' := [(1, .int (0 : Int32)), (0, .int x0)]) hx hb dX1_ranPoints_1 rfl hl (by decide) rfl (fun ls hl => ?_)
  refine lv_iconst (v := (0 : Int32)) hx hb dX1_ranPoints_2 (by decide) ?_
  refine lv_istore_n (lv' := [(2, .int (0 : Int32)), (1, .int (0 : Int32)), (0, .int x0)]) hx hb dX1_ranPoints_3 rfl hl (by decide) rfl (fun ls hl => ?_)
  exact hJ4 x0 (0 : Int32) (0 : Int32)   h _ _ _ hP hD hS (lv_sub hl [2, 1, 0] rfl)
set_option maxHeartbeats 4000000 in
set_option maxRecDepth 100000 in
theorem c_X1_inverse (l : Launch) (D : va_G) (cy : Nat → ClassId) (sz : Nat) (x0 : Int32) {Q : Int32 → Prop} (h : wp_X1_inverse x0 Q) : Met l yX1_inverse (wsU yX1_inverse cX1_inverse 4 (some .int)) { frames := 1, cells := 0, slots := 0, locals := 21 } (va_Pc [.int x0] (zB D vwCl (tyU cy) [] sz)) ((fun A => va_Qi (fun (r : Int32) (_ : Unit) => Q r ) (zE D vwCl A (fun (_ : Unit) => [])) A) (va_A [] sz)) 0 0 (va_A [] sz) := by
  refine z_ofX (fun A => va_Qi (fun (r : Int32) (_ : Unit) => Q r ) (zE D vwCl A (fun (_ : Unit) => [])) A) (by decide) (Nat.le_of_ble_eq_true rfl) (fun p e s m below meth c A ls hx hb hr hml hown hts hlocks hK hPW hA hP hD hS hl => ?_)
  have hl : lv_has ls 4 [(0, .int x0)] := hl
  have hown : s.vm.findClass RX1 = some m.cls := hown
  generalize hArg : ([.int x0] : List Value).toArray = args at hts ⊢
  have hJ33 : ∀ (x0 : Int32) (x1 : Int32) (x2 : Int32) (rc4 : Int32 → Int32 → Prop) (hrc4 : ∀ (x1 : Int32) (x2 : Int32), rc4 x1 x2 → ∀ (H : Heap) (locs : List Loc) (ls : Array Slot), va_P D vwCl [] H → va_D A [] → va_S A s.heap H locs → lv_has ls 4 [(0, .int x0), (1, .int x1), (2, .int x2)] → W p l e { frames := 1, cells := 0, slots := 0, locals := 21 } s m args below meth c H locs 0 0 (MQ below ((fun A => va_Qi (fun (r : Int32) (_ : Unit) => Q r ) (zE D vwCl A (fun (_ : Unit) => [])) A) A) args s 0 0 A) (F0 m 4 ls [])), wp_X1_inverse_33 x0 x1 x2 rc4 Q → ∀ (H : Heap) (locs : List Loc) (ls : Array Slot), va_P D vwCl [] H → va_D A [] → va_S A s.heap H locs → lv_has ls 4 [(0, .int x0), (1, .int x1), (2, .int x2)] → W p l e { frames := 1, cells := 0, slots := 0, locals := 21 } s m args below meth c H locs 0 0 (MQ below ((fun A => va_Qi (fun (r : Int32) (_ : Unit) => Q r ) (zE D vwCl A (fun (_ : Unit) => [])) A) A) args s 0 0 A) (F0 m 33 ls []) := by
    intro x0 x1 x2 rc4 hrc4  h H locs ls hP hD hS hl
    unfold wp_X1_inverse_33 at h
    obtain ⟨x2_8, e_x2_8⟩ : ∃ y : Int32, y = x2 + (1 : Int32) := ⟨_, rfl⟩
    refine lv_iinc (v := x2_8) (lv' := [(2, .int x2_8), (0, .int x0), (1, .int x1)]) hx hb dX1_inverse_33 hl (k := 2) rfl (by rw [e_x2_8]; rfl) (by decide) rfl (fun ls hl => ?_)
    have h := h x2_8 e_x2_8
    refine lv_goto (tgt := 4) hx hb dX1_inverse_36 (by decide) ?_
    exact hrc4 x1 x2_8 h _ _ _ hP hD hS (lv_sub hl [1, 2, 0] rfl)
  have hJ4 : ∀ (x0 : Int32) (x1 : Int32) (x2 : Int32), wp_X1_inverse_4 x0  Q x1 x2 → ∀ (H : Heap) (locs : List Loc) (ls : Array Slot), va_P D vwCl [] H → va_D A [] → va_S A s.heap H locs → lv_has ls 4 [(0, .int x0), (1, .int x1), (2, .int x2)] → W p l e { frames := 1, cells := 0, slots := 0, locals := 21 } s m args below meth c H locs 0 0 (MQ below ((fun A => va_Qi (fun (r : Int32) (_ : Unit) => Q r ) (zE D vwCl A (fun (_ : Unit) => [])) A) A) args s 0 0 A) (F0 m 4 ls []) := by
    intro x0 x1 x2   h
    obtain ⟨nn, h⟩ := h
    have key : ∀ (nn : Nat) (x1 : Int32) (x2 : Int32), lpW2 (wb_X1_inverse_4 x0  Q) nn x1 x2 → ∀ (H : Heap) (locs : List Loc) (ls : Array Slot), va_P D vwCl [] H → va_D A [] → va_S A s.heap H locs → lv_has ls 4 [(0, .int x0), (1, .int x1), (2, .int x2)] → W p l e { frames := 1, cells := 0, slots := 0, locals := 21 } s m args below meth c H locs 0 0 (MQ below ((fun A => va_Qi (fun (r : Int32) (_ : Unit) => Q r ) (zE D vwCl A (fun (_ : Unit) => [])) A) A) args s 0 0 A) (F0 m 4 ls []) := by
      intro nn
      induction nn with
      | zero => intro x1 x2 h; exact h.elim
      | succ nn hrc4 =>
        intro x1 x2 h H locs ls hP hD hS hl
        have h : wb_X1_inverse_4 x0  Q (lpW2 (wb_X1_inverse_4 x0  Q) nn) x1 x2 := h
        unfold wb_X1_inverse_4 at h
        refine lv_iload_n hx hb dX1_inverse_4 rfl (lv_at hl 2 rfl) ?_
        refine lv_iconst (v := (5 : Int32)) hx hb dX1_inverse_5 (by decide) ?_
        refine lv_icmp_ge (tgt := 39) hx hb dX1_inverse_6 (by decide) (fun c_9 => ?_) (fun c_9 => ?_)
        · have h := h.1 c_9
          refine lv_iload_n hx hb dX1_inverse_39 rfl (lv_at hl 1 rfl) ?_
          exact z_iret () hx hb hr hlocks h hP hD hS dX1_inverse_40
        · have h := h.2 c_9
          refine lv_iload_n hx hb dX1_inverse_9 rfl (lv_at hl 0 rfl) ?_
          refine lv_iload_n hx hb dX1_inverse_10 rfl (lv_at hl 2 rfl) ?_
          refine zc_S0 (As := [.int x0, .int x2]) (rest := []) hx hb hml hown hts hK hPW hA hl.1 hP hS ⟨Nat.zero_le _, Nat.zero_le _⟩ (c_X1_digit l D cy (sz := _) (x0 := x0) (x1 := x2) (h := h)) k_X1_19 ⟨rfl, rfl, (Nat.le_of_ble_eq_true rfl), (Nat.le_of_ble_eq_true rfl)⟩ rfl rfl (Nat.le_of_ble_eq_true rfl) dX1_inverse_11 (fun r_10 H locs h hP hS => ?_)
          refine lv_istore_n (lv' := [(3, .int r_10), (0, .int x0), (1, .int x1), (2, .int x2)]) hx hb dX1_inverse_14 rfl hl (by decide) rfl (fun ls hl => ?_)
          refine lv_iload_n hx hb dX1_inverse_15 rfl (lv_at hl 0 rfl) ?_
          refine lv_if_le (tgt := 33) hx hb dX1_inverse_16 (by decide) (fun c_11 => ?_) (fun c_11 => ?_)
          · have h := h.1 c_11
            exact hJ33 x0 x1 x2 _ hrc4  h _ _ _ hP hD hS (lv_sub hl [1, 2, 3] rfl)
          · have h := h.2 c_11
            refine lv_iload_n hx hb dX1_inverse_19 rfl (lv_at hl 2 rfl) ?_
            refine lv_iload_n hx hb dX1_inverse_20 rfl (lv_at hl 3 rfl) ?_
            refine lv_iconst (v := (1 : Int32)) hx hb dX1_inverse_21 (by decide) ?_
            refine lv_iadd hx hb dX1_inverse_22 ?_
            refine z_pw hx hb hown rfl hPW hS dX1_inverse_23 (fun pt_12 hT_12 => ?_)
            refine lv_iload_n hx hb dX1_inverse_26 rfl (lv_at hl 0 rfl) ?_
            refine lv_iconst (v := (1 : Int32)) hx hb dX1_inverse_27 (by decide) ?_
            refine lv_isub hx hb dX1_inverse_28 ?_
            obtain ⟨hi_13, h⟩ := h
            refine va_ti hx hb hT_12 hS hi_13 rfl dX1_inverse_29 ?_
            refine lv_imul hx hb dX1_inverse_30 ?_
            refine lv_iadd hx hb dX1_inverse_31 ?_
            refine lv_topi (fun x1_14 e_x1_14 => ?_)
            have h := h x1_14 e_x1_14
            refine lv_istore_n (lv' := [(1, .int x1_14), (3, .int r_10), (0, .int x0), (2, .int x2)]) hx hb dX1_inverse_32 rfl hl (by decide) rfl (fun ls hl => ?_)
            exact hJ33 x0 x1_14 x2 _ hrc4  h _ _ _ hP hD hS (lv_sub hl [2, 0, 3] rfl)
    exact key nn x1 x2 h
  unfold wp_X1_inverse at h
  refine lv_iconst (v := (0 : Int32)) hx hb dX1_inverse_0 (by decide) ?_
  refine lv_istore_n (lv' := [(1, .int (0 : Int32)), (0, .int x0)]) hx hb dX1_inverse_1 rfl hl (by decide) rfl (fun ls hl => ?_)
  refine lv_iconst (v := (0 : Int32)) hx hb dX1_inverse_2 (by decide) ?_
  refine lv_istore_n (lv' := [(2, .int (0 : Int32)), (1, .int (0 : Int32)), (0, .int x0)]) hx hb dX1_inverse_3 rfl hl (by decide) rfl (fun ls hl => ?_)
  exact hJ4 x0 (0 : Int32) (0 : Int32)   h _ _ _ hP hD hS (lv_sub hl [2, 1, 0] rfl)
set_option maxHeartbeats 4000000 in
set_option maxRecDepth 100000 in
theorem c_X1_ofLetter (l : Launch) (D : va_G) (cy : Nat → ClassId) (a1 : Nat) (sz : Nat) (p1_arr : Nat → Int32) (x0 : Int32) {Q : Int32 → Prop} (h : wp_X1_ofLetter x0 p1_arr Q) : Met l yX1_ofLetter (wsU yX1_ofLetter cX1_ofLetter 3 (some .int)) { frames := 2, cells := 0, slots := 0, locals := 44 } (va_Pc [.int x0, .ref a1] (zB D vwCl (tyU cy) [(a1, aI cy 6 p1_arr)] sz)) ((fun A => va_Qi (fun (r : Int32) (_ : Unit) => Q r ) (zE D vwCl A (fun (_ : Unit) => [(a1, aI cy 6 p1_arr)])) A) (va_A [(a1, aI cy 6 p1_arr)] sz)) 0 0 (va_A [(a1, aI cy 6 p1_arr)] sz) := by
  refine z_ofX (fun A => va_Qi (fun (r : Int32) (_ : Unit) => Q r ) (zE D vwCl A (fun (_ : Unit) => [(a1, aI cy 6 p1_arr)])) A) (by decide) (Nat.le_of_ble_eq_true rfl) (fun p e s m below meth c A ls hx hb hr hml hown hts hlocks hK hPW hA hP hD hS hl => ?_)
  have hl : lv_has ls 3 [(0, .int x0), (1, .ref a1)] := hl
  have hown : s.vm.findClass RX1 = some m.cls := hown
  unfold wp_X1_ofLetter at h
  refine lv_aload_n hx hb dX1_ofLetter_0 rfl (lv_at hl 1 rfl) ?_
  refine lv_iload_n hx hb dX1_ofLetter_1 rfl (lv_at hl 0 rfl) ?_
  refine lv_iconst (v := (1 : Int32)) hx hb dX1_ofLetter_2 (by decide) ?_
  refine lv_ishr hx hb dX1_ofLetter_3 ?_
  obtain ⟨hi_5, h⟩ := h
  refine va_iald hx hb hK hP 0 0 rfl rfl hi_5 dX1_ofLetter_4 ?_
  refine lv_topi (fun x2_6 e_x2_6 => ?_)
  have h := h x2_6 e_x2_6
  refine lv_istore_n (lv' := [(2, .int x2_6), (0, .int x0), (1, .ref a1)]) hx hb dX1_ofLetter_5 rfl hl (by decide) rfl (fun ls hl => ?_)
  refine lv_iload_n hx hb dX1_ofLetter_6 rfl (lv_at hl 1 rfl) ?_
  refine lv_iconst (v := (1 : Int32)) hx hb dX1_ofLetter_7 (by decide) ?_
  refine lv_iand hx hb dX1_ofLetter_8 ?_
  refine lv_if_ne (tgt := 16) hx hb dX1_ofLetter_9 (by decide) (fun c_7 => ?_) (fun c_7 => ?_)
  · have h := h.1 c_7
    refine lv_iload_n hx hb dX1_ofLetter_16 rfl (lv_at hl 0 rfl) ?_
    refine zc_S0 (As := [.int x2_6]) (rest := []) hx hb hml hown hts hK hPW hA hl.1 hP hS ⟨Nat.zero_le _, Nat.zero_le _⟩ (c_X1_inverse l D cy (sz := _) (x0 := x2_6) (h := h)) k_X1_46 ⟨rfl, rfl, (Nat.le_of_ble_eq_true rfl), (Nat.le_of_ble_eq_true rfl)⟩ rfl rfl (Nat.le_of_ble_eq_true rfl) dX1_ofLetter_17 (fun r_8 H locs h hP hS => ?_)
    exact z_iret () hx hb hr hlocks h hP hD hS dX1_ofLetter_20
  · have h := h.2 c_7
    refine lv_iload_n hx hb dX1_ofLetter_12 rfl (lv_at hl 0 rfl) ?_
    refine lv_goto (tgt := 20) hx hb dX1_ofLetter_13 (by decide) ?_
    exact z_iret () hx hb hr hlocks h hP hD hS dX1_ofLetter_20
set_option maxHeartbeats 4000000 in
set_option maxRecDepth 100000 in
theorem c_X1_fixedPoints (l : Launch) (D : va_G) (cy : Nat → ClassId) (sz : Nat) (x0 : Int32) {Q : Int32 → Prop} (h : wp_X1_fixedPoints x0 Q) : Met l yX1_fixedPoints (wsU yX1_fixedPoints cX1_fixedPoints 3 (some .int)) { frames := 1, cells := 0, slots := 0, locals := 21 } (va_Pc [.int x0] (zB D vwCl (tyU cy) [] sz)) ((fun A => va_Qi (fun (r : Int32) (_ : Unit) => Q r ) (zE D vwCl A (fun (_ : Unit) => [])) A) (va_A [] sz)) 0 0 (va_A [] sz) := by
  refine z_ofX (fun A => va_Qi (fun (r : Int32) (_ : Unit) => Q r ) (zE D vwCl A (fun (_ : Unit) => [])) A) (by decide) (Nat.le_of_ble_eq_true rfl) (fun p e s m below meth c A ls hx hb hr hml hown hts hlocks hK hPW hA hP hD hS hl => ?_)
  have hl : lv_has ls 3 [(0, .int x0)] := hl
  have hown : s.vm.findClass RX1 = some m.cls := hown
  generalize hArg : ([.int x0] : List Value).toArray = args at hts ⊢
  have hJ26 : ∀ (x0 : Int32) (x1 : Int32) (x2 : Int32) (rc4 : Int32 → Int32 → Prop) (hrc4 : ∀ (x1 : Int32) (x2 : Int32), rc4 x1 x2 → ∀ (H : Heap) (locs : List Loc) (ls : Array Slot), va_P D vwCl [] H → va_D A [] → va_S A s.heap H locs → lv_has ls 3 [(0, .int x0), (1, .int x1), (2, .int x2)] → W p l e { frames := 1, cells := 0, slots := 0, locals := 21 } s m args below meth c H locs 0 0 (MQ below ((fun A => va_Qi (fun (r : Int32) (_ : Unit) => Q r ) (zE D vwCl A (fun (_ : Unit) => [])) A) A) args s 0 0 A) (F0 m 4 ls [])), wp_X1_fixedPoints_26 x0 x1 x2 rc4 Q → ∀ (H : Heap) (locs : List Loc) (ls : Array Slot), va_P D vwCl [] H → va_D A [] → va_S A s.heap H locs → lv_has ls 3 [(0, .int x0), (1, .int x1), (2, .int x2)] → W p l e { frames := 1, cells := 0, slots := 0, locals := 21 } s m args below meth c H locs 0 0 (MQ below ((fun A => va_Qi (fun (r : Int32) (_ : Unit) => Q r ) (zE D vwCl A (fun (_ : Unit) => [])) A) A) args s 0 0 A) (F0 m 26 ls []) := by
    intro x0 x1 x2 rc4 hrc4  h H locs ls hP hD hS hl
    unfold wp_X1_fixedPoints_26 at h
    obtain ⟨x2_6, e_x2_6⟩ : ∃ y : Int32, y = x2 + (1 : Int32) := ⟨_, rfl⟩
    refine lv_iinc (v := x2_6) (lv' := [(2, .int x2_6), (0, .int x0), (1, .int x1)]) hx hb dX1_fixedPoints_26 hl (k := 2) rfl (by rw [e_x2_6]; rfl) (by decide) rfl (fun ls hl => ?_)
    have h := h x2_6 e_x2_6
    refine lv_goto (tgt := 4) hx hb dX1_fixedPoints_29 (by decide) ?_
    exact hrc4 x1 x2_6 h _ _ _ hP hD hS (lv_sub hl [1, 2, 0] rfl)
  have hJ4 : ∀ (x0 : Int32) (x1 : Int32) (x2 : Int32), wp_X1_fixedPoints_4 x0  Q x1 x2 → ∀ (H : Heap) (locs : List Loc) (ls : Array Slot), va_P D vwCl [] H → va_D A [] → va_S A s.heap H locs → lv_has ls 3 [(0, .int x0), (1, .int x1), (2, .int x2)] → W p l e { frames := 1, cells := 0, slots := 0, locals := 21 } s m args below meth c H locs 0 0 (MQ below ((fun A => va_Qi (fun (r : Int32) (_ : Unit) => Q r ) (zE D vwCl A (fun (_ : Unit) => [])) A) A) args s 0 0 A) (F0 m 4 ls []) := by
    intro x0 x1 x2   h
    obtain ⟨nn, h⟩ := h
    have key : ∀ (nn : Nat) (x1 : Int32) (x2 : Int32), lpW2 (wb_X1_fixedPoints_4 x0  Q) nn x1 x2 → ∀ (H : Heap) (locs : List Loc) (ls : Array Slot), va_P D vwCl [] H → va_D A [] → va_S A s.heap H locs → lv_has ls 3 [(0, .int x0), (1, .int x1), (2, .int x2)] → W p l e { frames := 1, cells := 0, slots := 0, locals := 21 } s m args below meth c H locs 0 0 (MQ below ((fun A => va_Qi (fun (r : Int32) (_ : Unit) => Q r ) (zE D vwCl A (fun (_ : Unit) => [])) A) A) args s 0 0 A) (F0 m 4 ls []) := by
      intro nn
      induction nn with
      | zero => intro x1 x2 h; exact h.elim
      | succ nn hrc4 =>
        intro x1 x2 h H locs ls hP hD hS hl
        have h : wb_X1_fixedPoints_4 x0  Q (lpW2 (wb_X1_fixedPoints_4 x0  Q) nn) x1 x2 := h
        unfold wb_X1_fixedPoints_4 at h
        refine lv_iload_n hx hb dX1_fixedPoints_4 rfl (lv_at hl 2 rfl) ?_
        refine lv_iconst (v := (5 : Int32)) hx hb dX1_fixedPoints_5 (by decide) ?_
        refine lv_icmp_ge (tgt := 32) hx hb dX1_fixedPoints_6 (by decide) (fun c_7 => ?_) (fun c_7 => ?_)
        · have h := h.1 c_7
          refine lv_iload_n hx hb dX1_fixedPoints_32 rfl (lv_at hl 1 rfl) ?_
          exact z_iret () hx hb hr hlocks h hP hD hS dX1_fixedPoints_33
        · have h := h.2 c_7
          refine lv_iload_n hx hb dX1_fixedPoints_9 rfl (lv_at hl 0 rfl) ?_
          refine lv_iload_n hx hb dX1_fixedPoints_10 rfl (lv_at hl 2 rfl) ?_
          refine zc_S0 (As := [.int x0, .int x2]) (rest := []) hx hb hml hown hts hK hPW hA hl.1 hP hS ⟨Nat.zero_le _, Nat.zero_le _⟩ (c_X1_digit l D cy (sz := _) (x0 := x0) (x1 := x2) (h := h)) k_X1_19 ⟨rfl, rfl, (Nat.le_of_ble_eq_true rfl), (Nat.le_of_ble_eq_true rfl)⟩ rfl rfl (Nat.le_of_ble_eq_true rfl) dX1_fixedPoints_11 (fun r_8 H locs h hP hS => ?_)
          refine lv_iload_n hx hb dX1_fixedPoints_14 rfl (lv_at hl 2 rfl) ?_
          refine lv_iconst (v := (1 : Int32)) hx hb dX1_fixedPoints_15 (by decide) ?_
          refine lv_iadd hx hb dX1_fixedPoints_16 ?_
          refine lv_icmp_ne (tgt := 26) hx hb dX1_fixedPoints_17 (by decide) (fun c_9 => ?_) (fun c_9 => ?_)
          · have h := h.1 c_9
            exact hJ26 x0 x1 x2 _ hrc4  h _ _ _ hP hD hS (lv_sub hl [0, 1, 2] rfl)
          · have h := h.2 c_9
            refine lv_iload_n hx hb dX1_fixedPoints_20 rfl (lv_at hl 1 rfl) ?_
            refine lv_iconst (v := (1 : Int32)) hx hb dX1_fixedPoints_21 (by decide) ?_
            refine lv_iload_n hx hb dX1_fixedPoints_22 rfl (lv_at hl 2 rfl) ?_
            refine lv_ishl hx hb dX1_fixedPoints_23 ?_
            refine lv_ior hx hb dX1_fixedPoints_24 ?_
            refine lv_topi (fun x1_10 e_x1_10 => ?_)
            have h := h x1_10 e_x1_10
            refine lv_istore_n (lv' := [(1, .int x1_10), (0, .int x0), (2, .int x2)]) hx hb dX1_fixedPoints_25 rfl hl (by decide) rfl (fun ls hl => ?_)
            exact hJ26 x0 x1_10 x2 _ hrc4  h _ _ _ hP hD hS (lv_sub hl [1, 0, 2] rfl)
    exact key nn x1 x2 h
  unfold wp_X1_fixedPoints at h
  refine lv_iconst (v := (0 : Int32)) hx hb dX1_fixedPoints_0 (by decide) ?_
  refine lv_istore_n (lv' := [(1, .int (0 : Int32)), (0, .int x0)]) hx hb dX1_fixedPoints_1 rfl hl (by decide) rfl (fun ls hl => ?_)
  refine lv_iconst (v := (0 : Int32)) hx hb dX1_fixedPoints_2 (by decide) ?_
  refine lv_istore_n (lv' := [(2, .int (0 : Int32)), (1, .int (0 : Int32)), (0, .int x0)]) hx hb dX1_fixedPoints_3 rfl hl (by decide) rfl (fun ls hl => ?_)
  exact hJ4 x0 (0 : Int32) (0 : Int32)   h _ _ _ hP hD hS (lv_sub hl [2, 1, 0] rfl)
set_option maxHeartbeats 4000000 in
set_option maxRecDepth 100000 in
theorem c_X1_isIdempotent (l : Launch) (D : va_G) (cy : Nat → ClassId) (sz : Nat) (x0 : Int32) {Q : Int32 → Prop} (h : wp_X1_isIdempotent x0 Q) : Met l yX1_isIdempotent (wsU yX1_isIdempotent cX1_isIdempotent 1 (some .boolean)) { frames := 2, cells := 0, slots := 0, locals := 43 } (va_Pc [.int x0] (zB D vwCl (tyU cy) [] sz)) ((fun A => va_Qi (fun (r : Int32) (_ : Unit) => Q r ) (zE D vwCl A (fun (_ : Unit) => [])) A) (va_A [] sz)) 0 0 (va_A [] sz) := by
  refine z_ofX (fun A => va_Qi (fun (r : Int32) (_ : Unit) => Q r ) (zE D vwCl A (fun (_ : Unit) => [])) A) (by decide) (Nat.le_of_ble_eq_true rfl) (fun p e s m below meth c A ls hx hb hr hml hown hts hlocks hK hPW hA hP hD hS hl => ?_)
  have hl : lv_has ls 1 [(0, .int x0)] := hl
  have hown : s.vm.findClass RX1 = some m.cls := hown
  unfold wp_X1_isIdempotent at h
  refine lv_iload_n hx hb dX1_isIdempotent_0 rfl (lv_at hl 0 rfl) ?_
  refine zc_S0 (As := [.int x0]) (rest := []) hx hb hml hown hts hK hPW hA hl.1 hP hS ⟨Nat.zero_le _, Nat.zero_le _⟩ (c_X1_fixedPoints l D cy (sz := _) (x0 := x0) (h := h)) k_X1_32 ⟨rfl, rfl, (Nat.le_of_ble_eq_true rfl), (Nat.le_of_ble_eq_true rfl)⟩ rfl rfl (Nat.le_of_ble_eq_true rfl) dX1_isIdempotent_1 (fun r_4 H locs h hP hS => ?_)
  refine lv_iload_n hx hb dX1_isIdempotent_4 rfl (lv_at hl 0 rfl) ?_
  refine zc_S0 (As := [.int x0]) (rest := [.int r_4]) hx hb hml hown hts hK hPW hA hl.1 hP hS ⟨Nat.zero_le _, Nat.zero_le _⟩ (c_X1_domPoints l D cy (sz := _) (x0 := x0) (h := h)) k_X1_23 ⟨rfl, rfl, (Nat.le_of_ble_eq_true rfl), (Nat.le_of_ble_eq_true rfl)⟩ rfl rfl (Nat.le_of_ble_eq_true rfl) dX1_isIdempotent_5 (fun r_5 H locs h hP hS => ?_)
  refine lv_icmp_ne (tgt := 15) hx hb dX1_isIdempotent_8 (by decide) (fun c_6 => ?_) (fun c_6 => ?_)
  · have h := h.1 c_6
    refine lv_iconst (v := (0 : Int32)) hx hb dX1_isIdempotent_15 (by decide) ?_
    exact z_zret () hx hb hr hlocks rfl h hP hD hS dX1_isIdempotent_16
  · have h := h.2 c_6
    refine lv_iconst (v := (1 : Int32)) hx hb dX1_isIdempotent_11 (by decide) ?_
    refine lv_goto (tgt := 16) hx hb dX1_isIdempotent_12 (by decide) ?_
    exact z_zret () hx hb hr hlocks rfl h hP hD hS dX1_isIdempotent_16
set_option maxHeartbeats 4000000 in
set_option maxRecDepth 100000 in
theorem c_X1_isInjective (l : Launch) (D : va_G) (cy : Nat → ClassId) (sz : Nat) (x0 : Int32) {Q : Int32 → Prop} (h : wp_X1_isInjective x0 Q) : Met l yX1_isInjective (wsU yX1_isInjective cX1_isInjective 4 (some .boolean)) { frames := 1, cells := 0, slots := 0, locals := 21 } (va_Pc [.int x0] (zB D vwCl (tyU cy) [] sz)) ((fun A => va_Qi (fun (r : Int32) (_ : Unit) => Q r ) (zE D vwCl A (fun (_ : Unit) => [])) A) (va_A [] sz)) 0 0 (va_A [] sz) := by
  refine z_ofX (fun A => va_Qi (fun (r : Int32) (_ : Unit) => Q r ) (zE D vwCl A (fun (_ : Unit) => [])) A) (by decide) (Nat.le_of_ble_eq_true rfl) (fun p e s m below meth c A ls hx hb hr hml hown hts hlocks hK hPW hA hP hD hS hl => ?_)
  have hl : lv_has ls 4 [(0, .int x0)] := hl
  have hown : s.vm.findClass RX1 = some m.cls := hown
  generalize hArg : ([.int x0] : List Value).toArray = args at hts ⊢
  have hJ30 : ∀ (x0 : Int32) (x1 : Int32) (x2 : Int32) (x3 : Int32) (rc4 : Int32 → Int32 → Prop) (hrc4 : ∀ (x1 : Int32) (x2 : Int32), rc4 x1 x2 → ∀ (H : Heap) (locs : List Loc) (ls : Array Slot), va_P D vwCl [] H → va_D A [] → va_S A s.heap H locs → lv_has ls 4 [(0, .int x0), (1, .int x1), (2, .int x2)] → W p l e { frames := 1, cells := 0, slots := 0, locals := 21 } s m args below meth c H locs 0 0 (MQ below ((fun A => va_Qi (fun (r : Int32) (_ : Unit) => Q r ) (zE D vwCl A (fun (_ : Unit) => [])) A) A) args s 0 0 A) (F0 m 4 ls [])), wp_X1_isInjective_30 x0 x1 x2 x3 rc4 Q → ∀ (H : Heap) (locs : List Loc) (ls : Array Slot), va_P D vwCl [] H → va_D A [] → va_S A s.heap H locs → lv_has ls 4 [(0, .int x0), (1, .int x1), (2, .int x2), (3, .int x3)] → W p l e { frames := 1, cells := 0, slots := 0, locals := 21 } s m args below meth c H locs 0 0 (MQ below ((fun A => va_Qi (fun (r : Int32) (_ : Unit) => Q r ) (zE D vwCl A (fun (_ : Unit) => [])) A) A) args s 0 0 A) (F0 m 30 ls []) := by
    intro x0 x1 x2 x3 rc4 hrc4  h H locs ls hP hD hS hl
    unfold wp_X1_isInjective_30 at h
    refine lv_iload_n hx hb dX1_isInjective_30 rfl (lv_at hl 1 rfl) ?_
    refine lv_iconst (v := (1 : Int32)) hx hb dX1_isInjective_31 (by decide) ?_
    refine lv_iload_n hx hb dX1_isInjective_32 rfl (lv_at hl 3 rfl) ?_
    refine lv_ishl hx hb dX1_isInjective_33 ?_
    refine lv_ior hx hb dX1_isInjective_34 ?_
    refine lv_topi (fun x1_7 e_x1_7 => ?_)
    have h := h x1_7 e_x1_7
    refine lv_istore_n (lv' := [(1, .int x1_7), (0, .int x0), (2, .int x2), (3, .int x3)]) hx hb dX1_isInjective_35 rfl hl (by decide) rfl (fun ls hl => ?_)
    obtain ⟨x2_8, e_x2_8⟩ : ∃ y : Int32, y = x2 + (1 : Int32) := ⟨_, rfl⟩
    refine lv_iinc (v := x2_8) (lv' := [(2, .int x2_8), (1, .int x1_7), (0, .int x0), (3, .int x3)]) hx hb dX1_isInjective_36 hl (k := 2) rfl (by rw [e_x2_8]; rfl) (by decide) rfl (fun ls hl => ?_)
    have h := h x2_8 e_x2_8
    refine lv_goto (tgt := 4) hx hb dX1_isInjective_39 (by decide) ?_
    exact hrc4 x1_7 x2_8 h _ _ _ hP hD hS (lv_sub hl [2, 1, 0] rfl)
  have hJ4 : ∀ (x0 : Int32) (x1 : Int32) (x2 : Int32), wp_X1_isInjective_4 x0  Q x1 x2 → ∀ (H : Heap) (locs : List Loc) (ls : Array Slot), va_P D vwCl [] H → va_D A [] → va_S A s.heap H locs → lv_has ls 4 [(0, .int x0), (1, .int x1), (2, .int x2)] → W p l e { frames := 1, cells := 0, slots := 0, locals := 21 } s m args below meth c H locs 0 0 (MQ below ((fun A => va_Qi (fun (r : Int32) (_ : Unit) => Q r ) (zE D vwCl A (fun (_ : Unit) => [])) A) A) args s 0 0 A) (F0 m 4 ls []) := by
    intro x0 x1 x2   h
    obtain ⟨nn, h⟩ := h
    have key : ∀ (nn : Nat) (x1 : Int32) (x2 : Int32), lpW2 (wb_X1_isInjective_4 x0  Q) nn x1 x2 → ∀ (H : Heap) (locs : List Loc) (ls : Array Slot), va_P D vwCl [] H → va_D A [] → va_S A s.heap H locs → lv_has ls 4 [(0, .int x0), (1, .int x1), (2, .int x2)] → W p l e { frames := 1, cells := 0, slots := 0, locals := 21 } s m args below meth c H locs 0 0 (MQ below ((fun A => va_Qi (fun (r : Int32) (_ : Unit) => Q r ) (zE D vwCl A (fun (_ : Unit) => [])) A) A) args s 0 0 A) (F0 m 4 ls []) := by
      intro nn
      induction nn with
      | zero => intro x1 x2 h; exact h.elim
      | succ nn hrc4 =>
        intro x1 x2 h H locs ls hP hD hS hl
        have h : wb_X1_isInjective_4 x0  Q (lpW2 (wb_X1_isInjective_4 x0  Q) nn) x1 x2 := h
        unfold wb_X1_isInjective_4 at h
        refine lv_iload_n hx hb dX1_isInjective_4 rfl (lv_at hl 2 rfl) ?_
        refine lv_iconst (v := (5 : Int32)) hx hb dX1_isInjective_5 (by decide) ?_
        refine lv_icmp_ge (tgt := 42) hx hb dX1_isInjective_6 (by decide) (fun c_9 => ?_) (fun c_9 => ?_)
        · have h := h.1 c_9
          refine lv_iconst (v := (1 : Int32)) hx hb dX1_isInjective_42 (by decide) ?_
          exact z_zret () hx hb hr hlocks rfl h hP hD hS dX1_isInjective_43
        · have h := h.2 c_9
          refine lv_iload_n hx hb dX1_isInjective_9 rfl (lv_at hl 0 rfl) ?_
          refine lv_iload_n hx hb dX1_isInjective_10 rfl (lv_at hl 2 rfl) ?_
          refine zc_S0 (As := [.int x0, .int x2]) (rest := []) hx hb hml hown hts hK hPW hA hl.1 hP hS ⟨Nat.zero_le _, Nat.zero_le _⟩ (c_X1_digit l D cy (sz := _) (x0 := x0) (x1 := x2) (h := h)) k_X1_19 ⟨rfl, rfl, (Nat.le_of_ble_eq_true rfl), (Nat.le_of_ble_eq_true rfl)⟩ rfl rfl (Nat.le_of_ble_eq_true rfl) dX1_isInjective_11 (fun r_10 H locs h hP hS => ?_)
          refine lv_istore_n (lv' := [(3, .int r_10), (0, .int x0), (1, .int x1), (2, .int x2)]) hx hb dX1_isInjective_14 rfl hl (by decide) rfl (fun ls hl => ?_)
          refine lv_iload_n hx hb dX1_isInjective_15 rfl (lv_at hl 0 rfl) ?_
          refine lv_if_le (tgt := 30) hx hb dX1_isInjective_16 (by decide) (fun c_11 => ?_) (fun c_11 => ?_)
          · have h := h.1 c_11
            exact hJ30 x0 x1 x2 r_10 _ hrc4  h _ _ _ hP hD hS (lv_sub hl [1, 2, 3, 0] rfl)
          · have h := h.2 c_11
            refine lv_iload_n hx hb dX1_isInjective_19 rfl (lv_at hl 2 rfl) ?_
            refine lv_iload_n hx hb dX1_isInjective_20 rfl (lv_at hl 0 rfl) ?_
            refine lv_ishr hx hb dX1_isInjective_21 ?_
            refine lv_iconst (v := (1 : Int32)) hx hb dX1_isInjective_22 (by decide) ?_
            refine lv_iand hx hb dX1_isInjective_23 ?_
            refine lv_iconst (v := (1 : Int32)) hx hb dX1_isInjective_24 (by decide) ?_
            refine lv_icmp_ne (tgt := 30) hx hb dX1_isInjective_25 (by decide) (fun c_12 => ?_) (fun c_12 => ?_)
            · have h := h.1 c_12
              exact hJ30 x0 x1 x2 r_10 _ hrc4  h _ _ _ hP hD hS (lv_sub hl [1, 2, 3, 0] rfl)
            · have h := h.2 c_12
              refine lv_iconst (v := (0 : Int32)) hx hb dX1_isInjective_28 (by decide) ?_
              exact z_zret () hx hb hr hlocks rfl h hP hD hS dX1_isInjective_29
    exact key nn x1 x2 h
  unfold wp_X1_isInjective at h
  refine lv_iconst (v := (0 : Int32)) hx hb dX1_isInjective_0 (by decide) ?_
  refine lv_istore_n (lv' := [(1, .int (0 : Int32)), (0, .int x0)]) hx hb dX1_isInjective_1 rfl hl (by decide) rfl (fun ls hl => ?_)
  refine lv_iconst (v := (0 : Int32)) hx hb dX1_isInjective_2 (by decide) ?_
  refine lv_istore_n (lv' := [(2, .int (0 : Int32)), (1, .int (0 : Int32)), (0, .int x0)]) hx hb dX1_isInjective_3 rfl hl (by decide) rfl (fun ls hl => ?_)
  exact hJ4 x0 (0 : Int32) (0 : Int32)   h _ _ _ hP hD hS (lv_sub hl [2, 1, 0] rfl)
set_option maxHeartbeats 4000000 in
set_option maxRecDepth 100000 in
theorem c_X1_isMap (l : Launch) (D : va_G) (cy : Nat → ClassId) (sz : Nat) (x0 : Int32) {Q : Int32 → Prop} (h : wp_X1_isMap x0 Q) : Met l yX1_isMap (wsU yX1_isMap cX1_isMap 1 (some .boolean)) { frames := 2, cells := 0, slots := 0, locals := 44 } (va_Pc [.int x0] (zB D vwCl (tyU cy) [] sz)) ((fun A => va_Qi (fun (r : Int32) (_ : Unit) => Q r ) (zE D vwCl A (fun (_ : Unit) => [])) A) (va_A [] sz)) 0 0 (va_A [] sz) := by
  refine z_ofX (fun A => va_Qi (fun (r : Int32) (_ : Unit) => Q r ) (zE D vwCl A (fun (_ : Unit) => [])) A) (by decide) (Nat.le_of_ble_eq_true rfl) (fun p e s m below meth c A ls hx hb hr hml hown hts hlocks hK hPW hA hP hD hS hl => ?_)
  have hl : lv_has ls 1 [(0, .int x0)] := hl
  have hown : s.vm.findClass RX1 = some m.cls := hown
  unfold wp_X1_isMap at h
  refine lv_iload_n hx hb dX1_isMap_0 rfl (lv_at hl 0 rfl) ?_
  refine lv_if_lt (tgt := 22) hx hb dX1_isMap_1 (by decide) (fun c_5 => ?_) (fun c_5 => ?_)
  · have h := h.1 c_5
    refine lv_iconst (v := (0 : Int32)) hx hb dX1_isMap_22 (by decide) ?_
    exact z_zret () hx hb hr hlocks rfl h hP hD hS dX1_isMap_23
  · have h := h.2 c_5
    refine lv_iload_n hx hb dX1_isMap_4 rfl (lv_at hl 0 rfl) ?_
    refine lv_sipush (v := (7776 : Int32)) hx hb dX1_isMap_5 (by decide) ?_
    refine lv_icmp_ge (tgt := 22) hx hb dX1_isMap_8 (by decide) (fun c_6 => ?_) (fun c_6 => ?_)
    · have h := h.1 c_6
      refine lv_iconst (v := (0 : Int32)) hx hb dX1_isMap_22 (by decide) ?_
      exact z_zret () hx hb hr hlocks rfl h hP hD hS dX1_isMap_23
    · have h := h.2 c_6
      refine lv_iload_n hx hb dX1_isMap_11 rfl (lv_at hl 0 rfl) ?_
      refine zc_S0 (As := [.int x0]) (rest := []) hx hb hml hown hts hK hPW hA hl.1 hP hS ⟨Nat.zero_le _, Nat.zero_le _⟩ (c_X1_isInjective l D cy (sz := _) (x0 := x0) (h := h)) k_X1_13 ⟨rfl, rfl, (Nat.le_of_ble_eq_true rfl), (Nat.le_of_ble_eq_true rfl)⟩ rfl rfl (Nat.le_of_ble_eq_true rfl) dX1_isMap_12 (fun r_7 H locs h hP hS => ?_)
      refine lv_if_eq (tgt := 22) hx hb dX1_isMap_15 (by decide) (fun c_8 => ?_) (fun c_8 => ?_)
      · have h := h.1 c_8
        refine lv_iconst (v := (0 : Int32)) hx hb dX1_isMap_22 (by decide) ?_
        exact z_zret () hx hb hr hlocks rfl h hP hD hS dX1_isMap_23
      · have h := h.2 c_8
        refine lv_iconst (v := (1 : Int32)) hx hb dX1_isMap_18 (by decide) ?_
        refine lv_goto (tgt := 23) hx hb dX1_isMap_19 (by decide) ?_
        exact z_zret () hx hb hr hlocks rfl h hP hD hS dX1_isMap_23
set_option maxHeartbeats 4000000 in
set_option maxRecDepth 100000 in
theorem c_J6_bitCount_0f7a4 (l : Launch) (D : va_G) (cy : Nat → ClassId) (sz : Nat) (x0 : Int32) {Q : Int32 → Prop} (h : wp_J6_bitCount_0f7a4 x0 Q) : Met l yJ6_bitCount_0f7a4 (wsU yJ6_bitCount_0f7a4 cJ6_bitCount_0f7a4 1 (some .int)) { frames := 0, cells := 0, slots := 0, locals := 0 } (va_Pc [.int x0] (zB D vwCl (tyU cy) [] sz)) ((fun A => va_Qi (fun (r : Int32) (_ : Unit) => Q r ) (zE D vwCl A (fun (_ : Unit) => [])) A) (va_A [] sz)) 0 0 (va_A [] sz) := by
  refine z_ofX (fun A => va_Qi (fun (r : Int32) (_ : Unit) => Q r ) (zE D vwCl A (fun (_ : Unit) => [])) A) (by decide) (Nat.le_of_ble_eq_true rfl) (fun p e s m below meth c A ls hx hb hr hml hown hts hlocks hK hPW hA hP hD hS hl => ?_)
  have hl : lv_has ls 1 [(0, .int x0)] := hl
  have hown : s.vm.findClass RJ6 = some m.cls := hown
  unfold wp_J6_bitCount_0f7a4 at h
  refine lv_iload_n hx hb dJ6_bitCount_0f7a4_0 rfl (lv_at hl 0 rfl) ?_
  refine lv_iload_n hx hb dJ6_bitCount_0f7a4_1 rfl (lv_at hl 0 rfl) ?_
  refine lv_iconst (v := (1 : Int32)) hx hb dJ6_bitCount_0f7a4_2 (by decide) ?_
  refine lv_iushr hx hb dJ6_bitCount_0f7a4_3 rfl ?_
  refine lv_ldcw (v := (1431655765 : Int32)) hx hb hown (hts _ cn_J6_265) dJ6_bitCount_0f7a4_4 ?_
  refine lv_iand hx hb dJ6_bitCount_0f7a4_7 ?_
  refine lv_isub hx hb dJ6_bitCount_0f7a4_8 ?_
  refine lv_topi (fun x0_6 e_x0_6 => ?_)
  have h := h x0_6 e_x0_6
  refine lv_istore_n (lv' := [(0, .int x0_6)]) hx hb dJ6_bitCount_0f7a4_9 rfl hl (by decide) rfl (fun ls hl => ?_)
  refine lv_iload_n hx hb dJ6_bitCount_0f7a4_10 rfl (lv_at hl 0 rfl) ?_
  refine lv_ldcw (v := (858993459 : Int32)) hx hb hown (hts _ cn_J6_266) dJ6_bitCount_0f7a4_11 ?_
  refine lv_iand hx hb dJ6_bitCount_0f7a4_14 ?_
  refine lv_iload_n hx hb dJ6_bitCount_0f7a4_15 rfl (lv_at hl 0 rfl) ?_
  refine lv_iconst (v := (2 : Int32)) hx hb dJ6_bitCount_0f7a4_16 (by decide) ?_
  refine lv_iushr hx hb dJ6_bitCount_0f7a4_17 rfl ?_
  refine lv_ldcw (v := (858993459 : Int32)) hx hb hown (hts _ cn_J6_266) dJ6_bitCount_0f7a4_18 ?_
  refine lv_iand hx hb dJ6_bitCount_0f7a4_21 ?_
  refine lv_iadd hx hb dJ6_bitCount_0f7a4_22 ?_
  refine lv_topi (fun x0_7 e_x0_7 => ?_)
  have h := h x0_7 e_x0_7
  refine lv_istore_n (lv' := [(0, .int x0_7)]) hx hb dJ6_bitCount_0f7a4_23 rfl hl (by decide) rfl (fun ls hl => ?_)
  refine lv_iload_n hx hb dJ6_bitCount_0f7a4_24 rfl (lv_at hl 0 rfl) ?_
  refine lv_iload_n hx hb dJ6_bitCount_0f7a4_25 rfl (lv_at hl 0 rfl) ?_
  refine lv_iconst (v := (4 : Int32)) hx hb dJ6_bitCount_0f7a4_26 (by decide) ?_
  refine lv_iushr hx hb dJ6_bitCount_0f7a4_27 rfl ?_
  refine lv_iadd hx hb dJ6_bitCount_0f7a4_28 ?_
  refine lv_ldcw (v := (252645135 : Int32)) hx hb hown (hts _ cn_J6_267) dJ6_bitCount_0f7a4_29 ?_
  refine lv_iand hx hb dJ6_bitCount_0f7a4_32 ?_
  refine lv_topi (fun x0_8 e_x0_8 => ?_)
  have h := h x0_8 e_x0_8
  refine lv_istore_n (lv' := [(0, .int x0_8)]) hx hb dJ6_bitCount_0f7a4_33 rfl hl (by decide) rfl (fun ls hl => ?_)
  refine lv_iload_n hx hb dJ6_bitCount_0f7a4_34 rfl (lv_at hl 0 rfl) ?_
  refine lv_iload_n hx hb dJ6_bitCount_0f7a4_35 rfl (lv_at hl 0 rfl) ?_
  refine lv_bipush (v := (8 : Int32)) hx hb dJ6_bitCount_0f7a4_36 (by decide) ?_
  refine lv_iushr hx hb dJ6_bitCount_0f7a4_38 rfl ?_
  refine lv_iadd hx hb dJ6_bitCount_0f7a4_39 ?_
  refine lv_topi (fun x0_9 e_x0_9 => ?_)
  have h := h x0_9 e_x0_9
  refine lv_istore_n (lv' := [(0, .int x0_9)]) hx hb dJ6_bitCount_0f7a4_40 rfl hl (by decide) rfl (fun ls hl => ?_)
  refine lv_iload_n hx hb dJ6_bitCount_0f7a4_41 rfl (lv_at hl 0 rfl) ?_
  refine lv_iload_n hx hb dJ6_bitCount_0f7a4_42 rfl (lv_at hl 0 rfl) ?_
  refine lv_bipush (v := (16 : Int32)) hx hb dJ6_bitCount_0f7a4_43 (by decide) ?_
  refine lv_iushr hx hb dJ6_bitCount_0f7a4_45 rfl ?_
  refine lv_iadd hx hb dJ6_bitCount_0f7a4_46 ?_
  refine lv_topi (fun x0_10 e_x0_10 => ?_)
  have h := h x0_10 e_x0_10
  refine lv_istore_n (lv' := [(0, .int x0_10)]) hx hb dJ6_bitCount_0f7a4_47 rfl hl (by decide) rfl (fun ls hl => ?_)
  refine lv_iload_n hx hb dJ6_bitCount_0f7a4_48 rfl (lv_at hl 0 rfl) ?_
  refine lv_bipush (v := (63 : Int32)) hx hb dJ6_bitCount_0f7a4_49 (by decide) ?_
  refine lv_iand hx hb dJ6_bitCount_0f7a4_51 ?_
  exact z_iret () hx hb hr hlocks h hP hD hS dJ6_bitCount_0f7a4_52
set_option maxHeartbeats 4000000 in
set_option maxRecDepth 100000 in
theorem c_X1_rank (l : Launch) (D : va_G) (cy : Nat → ClassId) (sz : Nat) (x0 : Int32) {Q : Int32 → Prop} (h : wp_X1_rank x0 Q) : Met l yX1_rank (wsU yX1_rank cX1_rank 1 (some .int)) { frames := 2, cells := 0, slots := 0, locals := 43 } (va_Pc [.int x0] (zB D vwCl (tyU cy) [] sz)) ((fun A => va_Qi (fun (r : Int32) (_ : Unit) => Q r ) (zE D vwCl A (fun (_ : Unit) => [])) A) (va_A [] sz)) 0 0 (va_A [] sz) := by
  refine z_ofX (fun A => va_Qi (fun (r : Int32) (_ : Unit) => Q r ) (zE D vwCl A (fun (_ : Unit) => [])) A) (by decide) (Nat.le_of_ble_eq_true rfl) (fun p e s m below meth c A ls hx hb hr hml hown hts hlocks hK hPW hA hP hD hS hl => ?_)
  have hl : lv_has ls 1 [(0, .int x0)] := hl
  have hown : s.vm.findClass RX1 = some m.cls := hown
  unfold wp_X1_rank at h
  refine lv_iload_n hx hb dX1_rank_0 rfl (lv_at hl 0 rfl) ?_
  refine zc_S0 (As := [.int x0]) (rest := []) hx hb hml hown hts hK hPW hA hl.1 hP hS ⟨Nat.zero_le _, Nat.zero_le _⟩ (c_X1_domPoints l D cy (sz := _) (x0 := x0) (h := h)) k_X1_23 ⟨rfl, rfl, (Nat.le_of_ble_eq_true rfl), (Nat.le_of_ble_eq_true rfl)⟩ rfl rfl (Nat.le_of_ble_eq_true rfl) dX1_rank_1 (fun r_3 H locs h hP hS => ?_)
  refine zc_S0 (As := [.int r_3]) (rest := []) hx hb hml hown hts hK hPW hA hl.1 hP hS ⟨Nat.zero_le _, Nat.zero_le _⟩ (c_J6_bitCount_0f7a4 l D cy (sz := _) (x0 := r_3) (h := h)) k_X1_27 ⟨rfl, rfl, (Nat.le_of_ble_eq_true rfl), (Nat.le_of_ble_eq_true rfl)⟩ rfl rfl (Nat.le_of_ble_eq_true rfl) dX1_rank_4 (fun r_4 H locs h hP hS => ?_)
  exact z_iret () hx hb hr hlocks h hP hD hS dX1_rank_7
set_option maxHeartbeats 4000000 in
set_option maxRecDepth 100000 in
theorem c_X1_idempotentPower (l : Launch) (D : va_G) (cy : Nat → ClassId) (sz : Nat) (x0 : Int32) {Q : Int32 → Prop} (h : wp_X1_idempotentPower x0 Q) : Met l yX1_idempotentPower (wsU yX1_idempotentPower cX1_idempotentPower 3 (some .int)) { frames := 3, cells := 0, slots := 0, locals := 63 } (va_Pc [.int x0] (zB D vwCl (tyU cy) [] sz)) ((fun A => va_Qi (fun (r : Int32) (_ : Unit) => Q r ) (zE D vwCl A (fun (_ : Unit) => [])) A) (va_A [] sz)) 0 0 (va_A [] sz) := by
  refine z_ofX (fun A => va_Qi (fun (r : Int32) (_ : Unit) => Q r ) (zE D vwCl A (fun (_ : Unit) => [])) A) (by decide) (Nat.le_of_ble_eq_true rfl) (fun p e s m below meth c A ls hx hb hr hml hown hts hlocks hK hPW hA hP hD hS hl => ?_)
  have hl : lv_has ls 3 [(0, .int x0)] := hl
  have hown : s.vm.findClass RX1 = some m.cls := hown
  generalize hArg : ([.int x0] : List Value).toArray = args at hts ⊢
  have hJ4 : ∀ (x0 : Int32) (x1 : Int32) (x2 : Int32), wp_X1_idempotentPower_4 x0  Q x1 x2 → ∀ (H : Heap) (locs : List Loc) (ls : Array Slot), va_P D vwCl [] H → va_D A [] → va_S A s.heap H locs → lv_has ls 3 [(0, .int x0), (1, .int x1), (2, .int x2)] → W p l e { frames := 3, cells := 0, slots := 0, locals := 63 } s m args below meth c H locs 0 0 (MQ below ((fun A => va_Qi (fun (r : Int32) (_ : Unit) => Q r ) (zE D vwCl A (fun (_ : Unit) => [])) A) A) args s 0 0 A) (F0 m 4 ls []) := by
    intro x0 x1 x2   h
    obtain ⟨nn, h⟩ := h
    have key : ∀ (nn : Nat) (x1 : Int32) (x2 : Int32), lpW2 (wb_X1_idempotentPower_4 x0  Q) nn x1 x2 → ∀ (H : Heap) (locs : List Loc) (ls : Array Slot), va_P D vwCl [] H → va_D A [] → va_S A s.heap H locs → lv_has ls 3 [(0, .int x0), (1, .int x1), (2, .int x2)] → W p l e { frames := 3, cells := 0, slots := 0, locals := 63 } s m args below meth c H locs 0 0 (MQ below ((fun A => va_Qi (fun (r : Int32) (_ : Unit) => Q r ) (zE D vwCl A (fun (_ : Unit) => [])) A) A) args s 0 0 A) (F0 m 4 ls []) := by
      intro nn
      induction nn with
      | zero => intro x1 x2 h; exact h.elim
      | succ nn hrc4 =>
        intro x1 x2 h H locs ls hP hD hS hl
        have h : wb_X1_idempotentPower_4 x0  Q (lpW2 (wb_X1_idempotentPower_4 x0  Q) nn) x1 x2 := h
        unfold wb_X1_idempotentPower_4 at h
        refine lv_iload_n hx hb dX1_idempotentPower_4 rfl (lv_at hl 2 rfl) ?_
        refine lv_sipush (v := (1000 : Int32)) hx hb dX1_idempotentPower_5 (by decide) ?_
        refine lv_icmp_ge (tgt := 30) hx hb dX1_idempotentPower_8 (by decide) (fun c_6 => ?_) (fun c_6 => ?_)
        · have h := h.1 c_6
          refine lv_iload_n hx hb dX1_idempotentPower_30 rfl (lv_at hl 2 rfl) ?_
          exact z_iret () hx hb hr hlocks h hP hD hS dX1_idempotentPower_31
        · have h := h.2 c_6
          refine lv_iload_n hx hb dX1_idempotentPower_11 rfl (lv_at hl 1 rfl) ?_
          refine zc_S0 (As := [.int x1]) (rest := []) hx hb hml hown hts hK hPW hA hl.1 hP hS ⟨Nat.zero_le _, Nat.zero_le _⟩ (c_X1_isIdempotent l D cy (sz := _) (x0 := x1) (h := h)) k_X1_35 ⟨rfl, rfl, (Nat.le_of_ble_eq_true rfl), (Nat.le_of_ble_eq_true rfl)⟩ rfl rfl (Nat.le_of_ble_eq_true rfl) dX1_idempotentPower_12 (fun r_7 H locs h hP hS => ?_)
          refine lv_if_ne (tgt := 30) hx hb dX1_idempotentPower_15 (by decide) (fun c_8 => ?_) (fun c_8 => ?_)
          · have h := h.1 c_8
            refine lv_iload_n hx hb dX1_idempotentPower_30 rfl (lv_at hl 2 rfl) ?_
            exact z_iret () hx hb hr hlocks h hP hD hS dX1_idempotentPower_31
          · have h := h.2 c_8
            refine lv_iload_n hx hb dX1_idempotentPower_18 rfl (lv_at hl 1 rfl) ?_
            refine lv_iload_n hx hb dX1_idempotentPower_19 rfl (lv_at hl 0 rfl) ?_
            refine zc_S0 (As := [.int x1, .int x0]) (rest := []) hx hb hml hown hts hK hPW hA hl.1 hP hS ⟨Nat.zero_le _, Nat.zero_le _⟩ (c_X1_then l D cy (sz := _) (x0 := x1) (x1 := x0) (h := h)) k_X1_38 ⟨rfl, rfl, (Nat.le_of_ble_eq_true rfl), (Nat.le_of_ble_eq_true rfl)⟩ rfl rfl (Nat.le_of_ble_eq_true rfl) dX1_idempotentPower_20 (fun r_9 H locs h hP hS => ?_)
            refine lv_istore_n (lv' := [(1, .int r_9), (0, .int x0), (2, .int x2)]) hx hb dX1_idempotentPower_23 rfl hl (by decide) rfl (fun ls hl => ?_)
            obtain ⟨x2_10, e_x2_10⟩ : ∃ y : Int32, y = x2 + (1 : Int32) := ⟨_, rfl⟩
            refine lv_iinc (v := x2_10) (lv' := [(2, .int x2_10), (1, .int r_9), (0, .int x0)]) hx hb dX1_idempotentPower_24 hl (k := 2) rfl (by rw [e_x2_10]; rfl) (by decide) rfl (fun ls hl => ?_)
            have h := h x2_10 e_x2_10
            refine lv_goto (tgt := 4) hx hb dX1_idempotentPower_27 (by decide) ?_
            exact hrc4 r_9 x2_10 h _ _ _ hP hD hS (lv_sub hl [2, 1, 0] rfl)
    exact key nn x1 x2 h
  unfold wp_X1_idempotentPower at h
  refine lv_iload_n hx hb dX1_idempotentPower_0 rfl (lv_at hl 0 rfl) ?_
  refine lv_istore_n (lv' := [(1, .int x0), (0, .int x0)]) hx hb dX1_idempotentPower_1 rfl hl (by decide) rfl (fun ls hl => ?_)
  refine lv_iconst (v := (1 : Int32)) hx hb dX1_idempotentPower_2 (by decide) ?_
  refine lv_istore_n (lv' := [(2, .int (1 : Int32)), (1, .int x0), (0, .int x0)]) hx hb dX1_idempotentPower_3 rfl hl (by decide) rfl (fun ls hl => ?_)
  exact hJ4 x0 x0 (1 : Int32)   h _ _ _ hP hD hS (lv_sub hl [2, 1, 0] rfl)
set_option maxHeartbeats 4000000 in
set_option maxRecDepth 100000 in
theorem c_X1_meet (l : Launch) (D : va_G) (cy : Nat → ClassId) (sz : Nat) (x0 : Int32) (x1 : Int32) {Q : Int32 → Prop} (h : wp_X1_meet x0 x1 Q) : Met l yX1_meet (wsU yX1_meet cX1_meet 5 (some .int)) { frames := 1, cells := 0, slots := 0, locals := 21 } (va_Pc [.int x0, .int x1] (zB D vwCl (tyU cy) [] sz)) ((fun A => va_Qi (fun (r : Int32) (_ : Unit) => Q r ) (zE D vwCl A (fun (_ : Unit) => [])) A) (va_A [] sz)) 0 0 (va_A [] sz) := by
  refine z_ofX (fun A => va_Qi (fun (r : Int32) (_ : Unit) => Q r ) (zE D vwCl A (fun (_ : Unit) => [])) A) (by decide) (Nat.le_of_ble_eq_true rfl) (fun p e s m below meth c A ls hx hb hr hml hown hts hlocks hK hPW hA hP hD hS hl => ?_)
  have hl : lv_has ls 5 [(0, .int x0), (1, .int x1)] := hl
  have hown : s.vm.findClass RX1 = some m.cls := hown
  generalize hArg : ([.int x0, .int x1] : List Value).toArray = args at hts ⊢
  have hJ37 : ∀ (x0 : Int32) (x1 : Int32) (x2 : Int32) (x3 : Int32) (rc4 : Int32 → Int32 → Prop) (hrc4 : ∀ (x2 : Int32) (x3 : Int32), rc4 x2 x3 → ∀ (H : Heap) (locs : List Loc) (ls : Array Slot), va_P D vwCl [] H → va_D A [] → va_S A s.heap H locs → lv_has ls 5 [(0, .int x0), (1, .int x1), (2, .int x2), (3, .int x3)] → W p l e { frames := 1, cells := 0, slots := 0, locals := 21 } s m args below meth c H locs 0 0 (MQ below ((fun A => va_Qi (fun (r : Int32) (_ : Unit) => Q r ) (zE D vwCl A (fun (_ : Unit) => [])) A) A) args s 0 0 A) (F0 m 4 ls [])), wp_X1_meet_37 x0 x1 x2 x3 rc4 Q → ∀ (H : Heap) (locs : List Loc) (ls : Array Slot), va_P D vwCl [] H → va_D A [] → va_S A s.heap H locs → lv_has ls 5 [(0, .int x0), (1, .int x1), (2, .int x2), (3, .int x3)] → W p l e { frames := 1, cells := 0, slots := 0, locals := 21 } s m args below meth c H locs 0 0 (MQ below ((fun A => va_Qi (fun (r : Int32) (_ : Unit) => Q r ) (zE D vwCl A (fun (_ : Unit) => [])) A) A) args s 0 0 A) (F0 m 37 ls []) := by
    intro x0 x1 x2 x3 rc4 hrc4  h H locs ls hP hD hS hl
    unfold wp_X1_meet_37 at h
    obtain ⟨x3_9, e_x3_9⟩ : ∃ y : Int32, y = x3 + (1 : Int32) := ⟨_, rfl⟩
    refine lv_iinc (v := x3_9) (lv' := [(3, .int x3_9), (0, .int x0), (1, .int x1), (2, .int x2)]) hx hb dX1_meet_37 hl (k := 3) rfl (by rw [e_x3_9]; rfl) (by decide) rfl (fun ls hl => ?_)
    have h := h x3_9 e_x3_9
    refine lv_goto (tgt := 4) hx hb dX1_meet_40 (by decide) ?_
    exact hrc4 x2 x3_9 h _ _ _ hP hD hS (lv_sub hl [1, 2, 3, 0] rfl)
  have hJ4 : ∀ (x0 : Int32) (x1 : Int32) (x2 : Int32) (x3 : Int32), wp_X1_meet_4 x0 x1  Q x2 x3 → ∀ (H : Heap) (locs : List Loc) (ls : Array Slot), va_P D vwCl [] H → va_D A [] → va_S A s.heap H locs → lv_has ls 5 [(0, .int x0), (1, .int x1), (2, .int x2), (3, .int x3)] → W p l e { frames := 1, cells := 0, slots := 0, locals := 21 } s m args below meth c H locs 0 0 (MQ below ((fun A => va_Qi (fun (r : Int32) (_ : Unit) => Q r ) (zE D vwCl A (fun (_ : Unit) => [])) A) A) args s 0 0 A) (F0 m 4 ls []) := by
    intro x0 x1 x2 x3   h
    obtain ⟨nn, h⟩ := h
    have key : ∀ (nn : Nat) (x2 : Int32) (x3 : Int32), lpW2 (wb_X1_meet_4 x0 x1  Q) nn x2 x3 → ∀ (H : Heap) (locs : List Loc) (ls : Array Slot), va_P D vwCl [] H → va_D A [] → va_S A s.heap H locs → lv_has ls 5 [(0, .int x0), (1, .int x1), (2, .int x2), (3, .int x3)] → W p l e { frames := 1, cells := 0, slots := 0, locals := 21 } s m args below meth c H locs 0 0 (MQ below ((fun A => va_Qi (fun (r : Int32) (_ : Unit) => Q r ) (zE D vwCl A (fun (_ : Unit) => [])) A) A) args s 0 0 A) (F0 m 4 ls []) := by
      intro nn
      induction nn with
      | zero => intro x2 x3 h; exact h.elim
      | succ nn hrc4 =>
        intro x2 x3 h H locs ls hP hD hS hl
        have h : wb_X1_meet_4 x0 x1  Q (lpW2 (wb_X1_meet_4 x0 x1  Q) nn) x2 x3 := h
        unfold wb_X1_meet_4 at h
        refine lv_iload_n hx hb dX1_meet_4 rfl (lv_at hl 3 rfl) ?_
        refine lv_iconst (v := (5 : Int32)) hx hb dX1_meet_5 (by decide) ?_
        refine lv_icmp_ge (tgt := 43) hx hb dX1_meet_6 (by decide) (fun c_10 => ?_) (fun c_10 => ?_)
        · have h := h.1 c_10
          refine lv_iload_n hx hb dX1_meet_43 rfl (lv_at hl 2 rfl) ?_
          exact z_iret () hx hb hr hlocks h hP hD hS dX1_meet_44
        · have h := h.2 c_10
          refine lv_iload_n hx hb dX1_meet_9 rfl (lv_at hl 0 rfl) ?_
          refine lv_iload_n hx hb dX1_meet_10 rfl (lv_at hl 3 rfl) ?_
          refine zc_S0 (As := [.int x0, .int x3]) (rest := []) hx hb hml hown hts hK hPW hA hl.1 hP hS ⟨Nat.zero_le _, Nat.zero_le _⟩ (c_X1_digit l D cy (sz := _) (x0 := x0) (x1 := x3) (h := h)) k_X1_19 ⟨rfl, rfl, (Nat.le_of_ble_eq_true rfl), (Nat.le_of_ble_eq_true rfl)⟩ rfl rfl (Nat.le_of_ble_eq_true rfl) dX1_meet_11 (fun r_11 H locs h hP hS => ?_)
          refine lv_istore (lv' := [(4, .int r_11), (0, .int x0), (1, .int x1), (2, .int x2), (3, .int x3)]) hx hb dX1_meet_14 hl (by decide) rfl (fun ls hl => ?_)
          refine lv_iload hx hb dX1_meet_16 (lv_at hl 0 rfl) ?_
          refine lv_iload_n hx hb dX1_meet_18 rfl (lv_at hl 2 rfl) ?_
          refine lv_iload_n hx hb dX1_meet_19 rfl (lv_at hl 4 rfl) ?_
          refine zc_S0 (As := [.int x1, .int x3]) (rest := [.int r_11]) hx hb hml hown hts hK hPW hA hl.1 hP hS ⟨Nat.zero_le _, Nat.zero_le _⟩ (c_X1_digit l D cy (sz := _) (x0 := x1) (x1 := x3) (h := h)) k_X1_19 ⟨rfl, rfl, (Nat.le_of_ble_eq_true rfl), (Nat.le_of_ble_eq_true rfl)⟩ rfl rfl (Nat.le_of_ble_eq_true rfl) dX1_meet_20 (fun r_12 H locs h hP hS => ?_)
          refine lv_icmp_ne (tgt := 37) hx hb dX1_meet_23 (by decide) (fun c_13 => ?_) (fun c_13 => ?_)
          · have h := h.1 c_13
            exact hJ37 x0 x1 x2 x3 _ hrc4  h _ _ _ hP hD hS (lv_sub hl [1, 2, 3, 4] rfl)
          · have h := h.2 c_13
            refine lv_iload_n hx hb dX1_meet_26 rfl (lv_at hl 3 rfl) ?_
            refine lv_iload hx hb dX1_meet_27 (lv_at hl 0 rfl) ?_
            refine z_pw hx hb hown rfl hPW hS dX1_meet_29 (fun pt_14 hT_14 => ?_)
            refine lv_iload_n hx hb dX1_meet_32 rfl (lv_at hl 4 rfl) ?_
            obtain ⟨hi_15, h⟩ := h
            refine va_ti hx hb hT_14 hS hi_15 rfl dX1_meet_33 ?_
            refine lv_imul hx hb dX1_meet_34 ?_
            refine lv_iadd hx hb dX1_meet_35 ?_
            refine lv_topi (fun x2_16 e_x2_16 => ?_)
            have h := h x2_16 e_x2_16
            refine lv_istore_n (lv' := [(2, .int x2_16), (4, .int r_11), (0, .int x0), (1, .int x1), (3, .int x3)]) hx hb dX1_meet_36 rfl hl (by decide) rfl (fun ls hl => ?_)
            exact hJ37 x0 x1 x2_16 x3 _ hrc4  h _ _ _ hP hD hS (lv_sub hl [2, 3, 0, 4] rfl)
    exact key nn x2 x3 h
  unfold wp_X1_meet at h
  refine lv_iconst (v := (0 : Int32)) hx hb dX1_meet_0 (by decide) ?_
  refine lv_istore_n (lv' := [(2, .int (0 : Int32)), (0, .int x0), (1, .int x1)]) hx hb dX1_meet_1 rfl hl (by decide) rfl (fun ls hl => ?_)
  refine lv_iconst (v := (0 : Int32)) hx hb dX1_meet_2 (by decide) ?_
  refine lv_istore_n (lv' := [(3, .int (0 : Int32)), (2, .int (0 : Int32)), (0, .int x0), (1, .int x1)]) hx hb dX1_meet_3 rfl hl (by decide) rfl (fun ls hl => ?_)
  exact hJ4 x0 x1 (0 : Int32) (0 : Int32)   h _ _ _ hP hD hS (lv_sub hl [2, 3, 1, 0] rfl)
set_option maxHeartbeats 4000000 in
set_option maxRecDepth 100000 in
theorem c_X1_join (l : Launch) (D : va_G) (cy : Nat → ClassId) (sz : Nat) (x0 : Int32) (x1 : Int32) {Q : Int32 → Prop} (h : wp_X1_join x0 x1 Q) : Met l yX1_join (wsU yX1_join cX1_join 6 (some .int)) { frames := 2, cells := 0, slots := 0, locals := 44 } (va_Pc [.int x0, .int x1] (zB D vwCl (tyU cy) [] sz)) ((fun A => va_Qi (fun (r : Int32) (_ : Unit) => Q r ) (zE D vwCl A (fun (_ : Unit) => [])) A) (va_A [] sz)) 0 0 (va_A [] sz) := by
  refine z_ofX (fun A => va_Qi (fun (r : Int32) (_ : Unit) => Q r ) (zE D vwCl A (fun (_ : Unit) => [])) A) (by decide) (Nat.le_of_ble_eq_true rfl) (fun p e s m below meth c A ls hx hb hr hml hown hts hlocks hK hPW hA hP hD hS hl => ?_)
  have hl : lv_has ls 6 [(0, .int x0), (1, .int x1)] := hl
  have hown : s.vm.findClass RX1 = some m.cls := hown
  generalize hArg : ([.int x0, .int x1] : List Value).toArray = args at hts ⊢
  have hJ42 : ∀ (x0 : Int32) (x1 : Int32) (x2 : Int32) (x3 : Int32) (x4 : Int32) (x5 : Int32) (rc4 : Int32 → Int32 → Prop) (hrc4 : ∀ (x2 : Int32) (x3 : Int32), rc4 x2 x3 → ∀ (H : Heap) (locs : List Loc) (ls : Array Slot), va_P D vwCl [] H → va_D A [] → va_S A s.heap H locs → lv_has ls 6 [(0, .int x0), (1, .int x1), (2, .int x2), (3, .int x3)] → W p l e { frames := 2, cells := 0, slots := 0, locals := 44 } s m args below meth c H locs 0 0 (MQ below ((fun A => va_Qi (fun (r : Int32) (_ : Unit) => Q r ) (zE D vwCl A (fun (_ : Unit) => [])) A) A) args s 0 0 A) (F0 m 4 ls [])), wp_X1_join_42 x0 x1 x2 x3 x4 x5 rc4 Q → ∀ (H : Heap) (locs : List Loc) (ls : Array Slot), va_P D vwCl [] H → va_D A [] → va_S A s.heap H locs → lv_has ls 6 [(0, .int x0), (1, .int x1), (2, .int x2), (3, .int x3), (4, .int x4), (5, .int x5)] → W p l e { frames := 2, cells := 0, slots := 0, locals := 44 } s m args below meth c H locs 0 0 (MQ below ((fun A => va_Qi (fun (r : Int32) (_ : Unit) => Q r ) (zE D vwCl A (fun (_ : Unit) => [])) A) A) args s 0 0 A) (F0 m 42 ls []) := by
    intro x0 x1 x2 x3 x4 x5 rc4 hrc4  h H locs ls hP hD hS hl
    unfold wp_X1_join_42 at h
    refine lv_iload_n hx hb dX1_join_42 rfl (lv_at hl 2 rfl) ?_
    refine lv_iload hx hb dX1_join_43 (lv_at hl 4 rfl) ?_
    refine lv_iload hx hb dX1_join_45 (lv_at hl 5 rfl) ?_
    refine va_mmax hx hb (hml.trans hl.1.symm) hown (hts _ mm_X1_41) (hts _ ms_max) (hts _ in_J9) (hts _ mc_max) (Nat.le_of_ble_eq_true rfl) (Nat.le_of_ble_eq_true rfl) (Nat.zero_le _) (Nat.zero_le _) dX1_join_47 ?_
    refine z_pw hx hb hown rfl hPW hS dX1_join_50 (fun pt_13 hT_13 => ?_)
    refine lv_iload_n hx hb dX1_join_53 rfl (lv_at hl 3 rfl) ?_
    obtain ⟨hi_14, h⟩ := h
    refine va_ti hx hb hT_13 hS hi_14 rfl dX1_join_54 ?_
    refine lv_imul hx hb dX1_join_55 ?_
    refine lv_iadd hx hb dX1_join_56 ?_
    refine lv_topi (fun x2_15 e_x2_15 => ?_)
    have h := h x2_15 e_x2_15
    refine lv_istore_n (lv' := [(2, .int x2_15), (0, .int x0), (1, .int x1), (3, .int x3), (4, .int x4), (5, .int x5)]) hx hb dX1_join_57 rfl hl (by decide) rfl (fun ls hl => ?_)
    obtain ⟨x3_16, e_x3_16⟩ : ∃ y : Int32, y = x3 + (1 : Int32) := ⟨_, rfl⟩
    refine lv_iinc (v := x3_16) (lv' := [(3, .int x3_16), (2, .int x2_15), (0, .int x0), (1, .int x1), (4, .int x4), (5, .int x5)]) hx hb dX1_join_58 hl (k := 3) rfl (by rw [e_x3_16]; rfl) (by decide) rfl (fun ls hl => ?_)
    have h := h x3_16 e_x3_16
    refine lv_goto (tgt := 4) hx hb dX1_join_61 (by decide) ?_
    exact hrc4 x2_15 x3_16 h _ _ _ hP hD hS (lv_sub hl [2, 3, 1, 0] rfl)
  have hJ4 : ∀ (x0 : Int32) (x1 : Int32) (x2 : Int32) (x3 : Int32), wp_X1_join_4 x0 x1  Q x2 x3 → ∀ (H : Heap) (locs : List Loc) (ls : Array Slot), va_P D vwCl [] H → va_D A [] → va_S A s.heap H locs → lv_has ls 6 [(0, .int x0), (1, .int x1), (2, .int x2), (3, .int x3)] → W p l e { frames := 2, cells := 0, slots := 0, locals := 44 } s m args below meth c H locs 0 0 (MQ below ((fun A => va_Qi (fun (r : Int32) (_ : Unit) => Q r ) (zE D vwCl A (fun (_ : Unit) => [])) A) A) args s 0 0 A) (F0 m 4 ls []) := by
    intro x0 x1 x2 x3   h
    obtain ⟨nn, h⟩ := h
    have key : ∀ (nn : Nat) (x2 : Int32) (x3 : Int32), lpW2 (wb_X1_join_4 x0 x1  Q) nn x2 x3 → ∀ (H : Heap) (locs : List Loc) (ls : Array Slot), va_P D vwCl [] H → va_D A [] → va_S A s.heap H locs → lv_has ls 6 [(0, .int x0), (1, .int x1), (2, .int x2), (3, .int x3)] → W p l e { frames := 2, cells := 0, slots := 0, locals := 44 } s m args below meth c H locs 0 0 (MQ below ((fun A => va_Qi (fun (r : Int32) (_ : Unit) => Q r ) (zE D vwCl A (fun (_ : Unit) => [])) A) A) args s 0 0 A) (F0 m 4 ls []) := by
      intro nn
      induction nn with
      | zero => intro x2 x3 h; exact h.elim
      | succ nn hrc4 =>
        intro x2 x3 h H locs ls hP hD hS hl
        have h : wb_X1_join_4 x0 x1  Q (lpW2 (wb_X1_join_4 x0 x1  Q) nn) x2 x3 := h
        unfold wb_X1_join_4 at h
        refine lv_iload_n hx hb dX1_join_4 rfl (lv_at hl 3 rfl) ?_
        refine lv_iconst (v := (5 : Int32)) hx hb dX1_join_5 (by decide) ?_
        refine lv_icmp_ge (tgt := 64) hx hb dX1_join_6 (by decide) (fun c_17 => ?_) (fun c_17 => ?_)
        · have h := h.1 c_17
          refine lv_iload_n hx hb dX1_join_64 rfl (lv_at hl 2 rfl) ?_
          refine zc_S0 (As := [.int x2]) (rest := []) hx hb hml hown hts hK hPW hA hl.1 hP hS ⟨Nat.zero_le _, Nat.zero_le _⟩ (c_X1_isInjective l D cy (sz := _) (x0 := x2) (h := h)) k_X1_13 ⟨rfl, rfl, (Nat.le_of_ble_eq_true rfl), (Nat.le_of_ble_eq_true rfl)⟩ rfl rfl (Nat.le_of_ble_eq_true rfl) dX1_join_65 (fun r_18 H locs h hP hS => ?_)
          refine lv_if_eq (tgt := 75) hx hb dX1_join_68 (by decide) (fun c_19 => ?_) (fun c_19 => ?_)
          · have h := h.1 c_19
            refine lv_iconst (v := (-1 : Int32)) hx hb dX1_join_75 (by decide) ?_
            exact z_iret () hx hb hr hlocks h hP hD hS dX1_join_76
          · have h := h.2 c_19
            refine lv_iload_n hx hb dX1_join_71 rfl (lv_at hl 2 rfl) ?_
            refine lv_goto (tgt := 76) hx hb dX1_join_72 (by decide) ?_
            exact z_iret () hx hb hr hlocks h hP hD hS dX1_join_76
        · have h := h.2 c_17
          refine lv_iload_n hx hb dX1_join_9 rfl (lv_at hl 0 rfl) ?_
          refine lv_iload_n hx hb dX1_join_10 rfl (lv_at hl 3 rfl) ?_
          refine zc_S0 (As := [.int x0, .int x3]) (rest := []) hx hb hml hown hts hK hPW hA hl.1 hP hS ⟨Nat.zero_le _, Nat.zero_le _⟩ (c_X1_digit l D cy (sz := _) (x0 := x0) (x1 := x3) (h := h)) k_X1_19 ⟨rfl, rfl, (Nat.le_of_ble_eq_true rfl), (Nat.le_of_ble_eq_true rfl)⟩ rfl rfl (Nat.le_of_ble_eq_true rfl) dX1_join_11 (fun r_20 H locs h hP hS => ?_)
          refine lv_istore (lv' := [(4, .int r_20), (0, .int x0), (1, .int x1), (2, .int x2), (3, .int x3)]) hx hb dX1_join_14 hl (by decide) rfl (fun ls hl => ?_)
          refine lv_iload_n hx hb dX1_join_16 rfl (lv_at hl 2 rfl) ?_
          refine lv_iload_n hx hb dX1_join_17 rfl (lv_at hl 4 rfl) ?_
          refine zc_S0 (As := [.int x1, .int x3]) (rest := []) hx hb hml hown hts hK hPW hA hl.1 hP hS ⟨Nat.zero_le _, Nat.zero_le _⟩ (c_X1_digit l D cy (sz := _) (x0 := x1) (x1 := x3) (h := h)) k_X1_19 ⟨rfl, rfl, (Nat.le_of_ble_eq_true rfl), (Nat.le_of_ble_eq_true rfl)⟩ rfl rfl (Nat.le_of_ble_eq_true rfl) dX1_join_18 (fun r_21 H locs h hP hS => ?_)
          refine lv_istore (lv' := [(5, .int r_21), (4, .int r_20), (0, .int x0), (1, .int x1), (2, .int x2), (3, .int x3)]) hx hb dX1_join_21 hl (by decide) rfl (fun ls hl => ?_)
          refine lv_iload hx hb dX1_join_23 (lv_at hl 1 rfl) ?_
          refine lv_if_le (tgt := 42) hx hb dX1_join_25 (by decide) (fun c_22 => ?_) (fun c_22 => ?_)
          · have h := h.1 c_22
            exact hJ42 x0 x1 x2 x3 r_20 r_21 _ hrc4  h _ _ _ hP hD hS (lv_sub hl [2, 3, 4, 5, 1, 0] rfl)
          · have h := h.2 c_22
            refine lv_iload hx hb dX1_join_28 (lv_at hl 0 rfl) ?_
            refine lv_if_le (tgt := 42) hx hb dX1_join_30 (by decide) (fun c_23 => ?_) (fun c_23 => ?_)
            · have h := h.1 c_23
              exact hJ42 x0 x1 x2 x3 r_20 r_21 _ hrc4  h _ _ _ hP hD hS (lv_sub hl [2, 3, 4, 5, 1, 0] rfl)
            · have h := h.2 c_23
              refine lv_iload hx hb dX1_join_33 (lv_at hl 1 rfl) ?_
              refine lv_iload hx hb dX1_join_35 (lv_at hl 0 rfl) ?_
              refine lv_icmp_eq (tgt := 42) hx hb dX1_join_37 (by decide) (fun c_24 => ?_) (fun c_24 => ?_)
              · have h := h.1 c_24
                exact hJ42 x0 x1 x2 x3 r_20 r_21 _ hrc4  h _ _ _ hP hD hS (lv_sub hl [2, 3, 4, 5, 1, 0] rfl)
              · have h := h.2 c_24
                refine lv_iconst (v := (-1 : Int32)) hx hb dX1_join_40 (by decide) ?_
                exact z_iret () hx hb hr hlocks h hP hD hS dX1_join_41
    exact key nn x2 x3 h
  unfold wp_X1_join at h
  refine lv_iconst (v := (0 : Int32)) hx hb dX1_join_0 (by decide) ?_
  refine lv_istore_n (lv' := [(2, .int (0 : Int32)), (0, .int x0), (1, .int x1)]) hx hb dX1_join_1 rfl hl (by decide) rfl (fun ls hl => ?_)
  refine lv_iconst (v := (0 : Int32)) hx hb dX1_join_2 (by decide) ?_
  refine lv_istore_n (lv' := [(3, .int (0 : Int32)), (2, .int (0 : Int32)), (0, .int x0), (1, .int x1)]) hx hb dX1_join_3 rfl hl (by decide) rfl (fun ls hl => ?_)
  exact hJ4 x0 x1 (0 : Int32) (0 : Int32)   h _ _ _ hP hD hS (lv_sub hl [2, 3, 1, 0] rfl)
set_option maxHeartbeats 4000000 in
set_option maxRecDepth 100000 in
theorem c_X1_dom (l : Launch) (D : va_G) (cy : Nat → ClassId) (sz : Nat) (x0 : Int32) {Q : Int32 → Prop} (h : wp_X1_dom x0 Q) : Met l yX1_dom (wsU yX1_dom cX1_dom 3 (some .int)) { frames := 1, cells := 0, slots := 0, locals := 21 } (va_Pc [.int x0] (zB D vwCl (tyU cy) [] sz)) ((fun A => va_Qi (fun (r : Int32) (_ : Unit) => Q r ) (zE D vwCl A (fun (_ : Unit) => [])) A) (va_A [] sz)) 0 0 (va_A [] sz) := by
  refine z_ofX (fun A => va_Qi (fun (r : Int32) (_ : Unit) => Q r ) (zE D vwCl A (fun (_ : Unit) => [])) A) (by decide) (Nat.le_of_ble_eq_true rfl) (fun p e s m below meth c A ls hx hb hr hml hown hts hlocks hK hPW hA hP hD hS hl => ?_)
  have hl : lv_has ls 3 [(0, .int x0)] := hl
  have hown : s.vm.findClass RX1 = some m.cls := hown
  generalize hArg : ([.int x0] : List Value).toArray = args at hts ⊢
  have hJ29 : ∀ (x0 : Int32) (x1 : Int32) (x2 : Int32) (rc4 : Int32 → Int32 → Prop) (hrc4 : ∀ (x1 : Int32) (x2 : Int32), rc4 x1 x2 → ∀ (H : Heap) (locs : List Loc) (ls : Array Slot), va_P D vwCl [] H → va_D A [] → va_S A s.heap H locs → lv_has ls 3 [(0, .int x0), (1, .int x1), (2, .int x2)] → W p l e { frames := 1, cells := 0, slots := 0, locals := 21 } s m args below meth c H locs 0 0 (MQ below ((fun A => va_Qi (fun (r : Int32) (_ : Unit) => Q r ) (zE D vwCl A (fun (_ : Unit) => [])) A) A) args s 0 0 A) (F0 m 4 ls [])), wp_X1_dom_29 x0 x1 x2 rc4 Q → ∀ (H : Heap) (locs : List Loc) (ls : Array Slot), va_P D vwCl [] H → va_D A [] → va_S A s.heap H locs → lv_has ls 3 [(0, .int x0), (1, .int x1), (2, .int x2)] → W p l e { frames := 1, cells := 0, slots := 0, locals := 21 } s m args below meth c H locs 0 0 (MQ below ((fun A => va_Qi (fun (r : Int32) (_ : Unit) => Q r ) (zE D vwCl A (fun (_ : Unit) => [])) A) A) args s 0 0 A) (F0 m 29 ls []) := by
    intro x0 x1 x2 rc4 hrc4  h H locs ls hP hD hS hl
    unfold wp_X1_dom_29 at h
    obtain ⟨x2_8, e_x2_8⟩ : ∃ y : Int32, y = x2 + (1 : Int32) := ⟨_, rfl⟩
    refine lv_iinc (v := x2_8) (lv' := [(2, .int x2_8), (0, .int x0), (1, .int x1)]) hx hb dX1_dom_29 hl (k := 2) rfl (by rw [e_x2_8]; rfl) (by decide) rfl (fun ls hl => ?_)
    have h := h x2_8 e_x2_8
    refine lv_goto (tgt := 4) hx hb dX1_dom_32 (by decide) ?_
    exact hrc4 x1 x2_8 h _ _ _ hP hD hS (lv_sub hl [1, 2, 0] rfl)
  have hJ4 : ∀ (x0 : Int32) (x1 : Int32) (x2 : Int32), wp_X1_dom_4 x0  Q x1 x2 → ∀ (H : Heap) (locs : List Loc) (ls : Array Slot), va_P D vwCl [] H → va_D A [] → va_S A s.heap H locs → lv_has ls 3 [(0, .int x0), (1, .int x1), (2, .int x2)] → W p l e { frames := 1, cells := 0, slots := 0, locals := 21 } s m args below meth c H locs 0 0 (MQ below ((fun A => va_Qi (fun (r : Int32) (_ : Unit) => Q r ) (zE D vwCl A (fun (_ : Unit) => [])) A) A) args s 0 0 A) (F0 m 4 ls []) := by
    intro x0 x1 x2   h
    obtain ⟨nn, h⟩ := h
    have key : ∀ (nn : Nat) (x1 : Int32) (x2 : Int32), lpW2 (wb_X1_dom_4 x0  Q) nn x1 x2 → ∀ (H : Heap) (locs : List Loc) (ls : Array Slot), va_P D vwCl [] H → va_D A [] → va_S A s.heap H locs → lv_has ls 3 [(0, .int x0), (1, .int x1), (2, .int x2)] → W p l e { frames := 1, cells := 0, slots := 0, locals := 21 } s m args below meth c H locs 0 0 (MQ below ((fun A => va_Qi (fun (r : Int32) (_ : Unit) => Q r ) (zE D vwCl A (fun (_ : Unit) => [])) A) A) args s 0 0 A) (F0 m 4 ls []) := by
      intro nn
      induction nn with
      | zero => intro x1 x2 h; exact h.elim
      | succ nn hrc4 =>
        intro x1 x2 h H locs ls hP hD hS hl
        have h : wb_X1_dom_4 x0  Q (lpW2 (wb_X1_dom_4 x0  Q) nn) x1 x2 := h
        unfold wb_X1_dom_4 at h
        refine lv_iload_n hx hb dX1_dom_4 rfl (lv_at hl 2 rfl) ?_
        refine lv_iconst (v := (5 : Int32)) hx hb dX1_dom_5 (by decide) ?_
        refine lv_icmp_ge (tgt := 35) hx hb dX1_dom_6 (by decide) (fun c_9 => ?_) (fun c_9 => ?_)
        · have h := h.1 c_9
          refine lv_iload_n hx hb dX1_dom_35 rfl (lv_at hl 1 rfl) ?_
          exact z_iret () hx hb hr hlocks h hP hD hS dX1_dom_36
        · have h := h.2 c_9
          refine lv_iload_n hx hb dX1_dom_9 rfl (lv_at hl 0 rfl) ?_
          refine lv_iload_n hx hb dX1_dom_10 rfl (lv_at hl 2 rfl) ?_
          refine zc_S0 (As := [.int x0, .int x2]) (rest := []) hx hb hml hown hts hK hPW hA hl.1 hP hS ⟨Nat.zero_le _, Nat.zero_le _⟩ (c_X1_digit l D cy (sz := _) (x0 := x0) (x1 := x2) (h := h)) k_X1_19 ⟨rfl, rfl, (Nat.le_of_ble_eq_true rfl), (Nat.le_of_ble_eq_true rfl)⟩ rfl rfl (Nat.le_of_ble_eq_true rfl) dX1_dom_11 (fun r_10 H locs h hP hS => ?_)
          refine lv_if_le (tgt := 29) hx hb dX1_dom_14 (by decide) (fun c_11 => ?_) (fun c_11 => ?_)
          · have h := h.1 c_11
            exact hJ29 x0 x1 x2 _ hrc4  h _ _ _ hP hD hS (lv_sub hl [0, 1, 2] rfl)
          · have h := h.2 c_11
            refine lv_iload_n hx hb dX1_dom_17 rfl (lv_at hl 1 rfl) ?_
            refine lv_iload_n hx hb dX1_dom_18 rfl (lv_at hl 2 rfl) ?_
            refine lv_iconst (v := (1 : Int32)) hx hb dX1_dom_19 (by decide) ?_
            refine lv_iadd hx hb dX1_dom_20 ?_
            refine z_pw hx hb hown rfl hPW hS dX1_dom_21 (fun pt_12 hT_12 => ?_)
            refine lv_iload_n hx hb dX1_dom_24 rfl (lv_at hl 2 rfl) ?_
            obtain ⟨hi_13, h⟩ := h
            refine va_ti hx hb hT_12 hS hi_13 rfl dX1_dom_25 ?_
            refine lv_imul hx hb dX1_dom_26 ?_
            refine lv_iadd hx hb dX1_dom_27 ?_
            refine lv_topi (fun x1_14 e_x1_14 => ?_)
            have h := h x1_14 e_x1_14
            refine lv_istore_n (lv' := [(1, .int x1_14), (0, .int x0), (2, .int x2)]) hx hb dX1_dom_28 rfl hl (by decide) rfl (fun ls hl => ?_)
            exact hJ29 x0 x1_14 x2 _ hrc4  h _ _ _ hP hD hS (lv_sub hl [1, 0, 2] rfl)
    exact key nn x1 x2 h
  unfold wp_X1_dom at h
  refine lv_iconst (v := (0 : Int32)) hx hb dX1_dom_0 (by decide) ?_
  refine lv_istore_n (lv' := [(1, .int (0 : Int32)), (0, .int x0)]) hx hb dX1_dom_1 rfl hl (by decide) rfl (fun ls hl => ?_)
  refine lv_iconst (v := (0 : Int32)) hx hb dX1_dom_2 (by decide) ?_
  refine lv_istore_n (lv' := [(2, .int (0 : Int32)), (1, .int (0 : Int32)), (0, .int x0)]) hx hb dX1_dom_3 rfl hl (by decide) rfl (fun ls hl => ?_)
  exact hJ4 x0 (0 : Int32) (0 : Int32)   h _ _ _ hP hD hS (lv_sub hl [2, 1, 0] rfl)
set_option maxHeartbeats 4000000 in
set_option maxRecDepth 100000 in
theorem c_J7_fill_53178 (l : Launch) (D : va_G) (cy : Nat → ClassId) (a0 : Nat) (l0 : Nat) (sz : Nat) (p0_arr : Nat → Int32) (x1 : Int32) {Q : (Nat → Int32) → Prop} (h : wp_J7_fill_53178 x1 l0 p0_arr Q) : Met l yJ7_fill_53178 (wsU yJ7_fill_53178 cJ7_fill_53178 4 none) { frames := 0, cells := 0, slots := 0, locals := 0 } (va_Pc [.ref a0, .int x1] (zB D vwCl (tyU cy) [(a0, aI cy l0 p0_arr)] sz)) ((fun A => va_Qv (fun (u : (Nat → Int32)) => Q u) (zE D vwCl A (fun (u : (Nat → Int32)) => [(a0, aI cy l0 u)])) A) (va_A [(a0, aI cy l0 p0_arr)] sz)) 0 0 (va_A [(a0, aI cy l0 p0_arr)] sz) := by
  refine z_ofX (fun A => va_Qv (fun (u : (Nat → Int32)) => Q u) (zE D vwCl A (fun (u : (Nat → Int32)) => [(a0, aI cy l0 u)])) A) (by decide) (Nat.le_of_ble_eq_true rfl) (fun p e s m below meth c A ls hx hb hr hml hown hts hlocks hK hPW hA hP hD hS hl => ?_)
  have hl : lv_has ls 4 [(0, .ref a0), (1, .int x1)] := hl
  have hown : s.vm.findClass RJ7 = some m.cls := hown
  generalize hArg : ([.ref a0, .int x1] : List Value).toArray = args at hts ⊢
  have hJ5 : ∀ (x1 : Int32) (x2 : Int32) (x3 : Int32) (p0_arr : Nat → Int32), wp_J7_fill_53178_5 l0 x1 x3  Q x2 p0_arr → ∀ (H : Heap) (locs : List Loc) (ls : Array Slot), va_P D vwCl [(a0, aI cy l0 p0_arr)] H → va_D A [(a0, aI cy l0 p0_arr)] → va_S A s.heap H locs → lv_has ls 4 [(0, .ref a0), (1, .int x1), (2, .int x2), (3, .int x3)] → W p l e { frames := 0, cells := 0, slots := 0, locals := 0 } s m args below meth c H locs 0 0 (MQ below ((fun A => va_Qv (fun (u : (Nat → Int32)) => Q u) (zE D vwCl A (fun (u : (Nat → Int32)) => [(a0, aI cy l0 u)])) A) A) args s 0 0 A) (F0 m 5 ls []) := by
    intro x1 x2 x3 p0_arr   h
    obtain ⟨nn, h⟩ := h
    have key : ∀ (nn : Nat) (x2 : Int32) (p0_arr : Nat → Int32), lpW2 (wb_J7_fill_53178_5 l0 x1 x3  Q) nn x2 p0_arr → ∀ (H : Heap) (locs : List Loc) (ls : Array Slot), va_P D vwCl [(a0, aI cy l0 p0_arr)] H → va_D A [(a0, aI cy l0 p0_arr)] → va_S A s.heap H locs → lv_has ls 4 [(0, .ref a0), (1, .int x1), (2, .int x2), (3, .int x3)] → W p l e { frames := 0, cells := 0, slots := 0, locals := 0 } s m args below meth c H locs 0 0 (MQ below ((fun A => va_Qv (fun (u : (Nat → Int32)) => Q u) (zE D vwCl A (fun (u : (Nat → Int32)) => [(a0, aI cy l0 u)])) A) A) args s 0 0 A) (F0 m 5 ls []) := by
      intro nn
      induction nn with
      | zero => intro x2 p0_arr h; exact h.elim
      | succ nn hrc5 =>
        intro x2 p0_arr h H locs ls hP hD hS hl
        have h : wb_J7_fill_53178_5 l0 x1 x3  Q (lpW2 (wb_J7_fill_53178_5 l0 x1 x3  Q) nn) x2 p0_arr := h
        unfold wb_J7_fill_53178_5 at h
        refine lv_iload_n hx hb dJ7_fill_53178_5 rfl (lv_at hl 2 rfl) ?_
        refine lv_iload_n hx hb dJ7_fill_53178_6 rfl (lv_at hl 3 rfl) ?_
        refine lv_icmp_ge (tgt := 20) hx hb dJ7_fill_53178_7 (by decide) (fun c_5 => ?_) (fun c_5 => ?_)
        · have h := h.1 c_5
          exact z_vret p0_arr hx hb hr hlocks h hP hD hS dJ7_fill_53178_20
        · have h := h.2 c_5
          refine lv_aload_n hx hb dJ7_fill_53178_10 rfl (lv_at hl 0 rfl) ?_
          refine lv_iload_n hx hb dJ7_fill_53178_11 rfl (lv_at hl 2 rfl) ?_
          refine lv_iload_n hx hb dJ7_fill_53178_12 rfl (lv_at hl 1 rfl) ?_
          obtain ⟨hi_6, h⟩ := h
          refine va_iast hx hb hK hP hD hS 0 0 rfl rfl hi_6 dJ7_fill_53178_13 (fun H locs hP hD hS => ?_)
          have hP : va_P D vwCl [(a0, aI cy l0 (upd p0_arr x2.toNatClampNeg x1))] H := hP
          have hD : va_D A [(a0, aI cy l0 (upd p0_arr x2.toNatClampNeg x1))] := hD
          obtain ⟨x2_7, e_x2_7⟩ : ∃ y : Int32, y = x2 + (1 : Int32) := ⟨_, rfl⟩
          refine lv_iinc (v := x2_7) (lv' := [(2, .int x2_7), (0, .ref a0), (1, .int x1), (3, .int x3)]) hx hb dJ7_fill_53178_14 hl (k := 2) rfl (by rw [e_x2_7]; rfl) (by decide) rfl (fun ls hl => ?_)
          have h := h x2_7 e_x2_7
          refine lv_goto (tgt := 5) hx hb dJ7_fill_53178_17 (by decide) ?_
          exact hrc5 x2_7 (upd p0_arr x2.toNatClampNeg x1) h _ _ _ hP hD hS (lv_sub hl [1, 2, 0, 3] rfl)
    exact key nn x2 p0_arr h
  unfold wp_J7_fill_53178 at h
  refine lv_iconst (v := (0 : Int32)) hx hb dJ7_fill_53178_0 (by decide) ?_
  refine lv_istore_n (lv' := [(2, .int (0 : Int32)), (0, .ref a0), (1, .int x1)]) hx hb dJ7_fill_53178_1 rfl hl (by decide) rfl (fun ls hl => ?_)
  refine lv_aload_n hx hb dJ7_fill_53178_2 rfl (lv_at hl 1 rfl) ?_
  refine va_alen (v := (nI l0)) hx hb hK hP 0 0 rfl rfl rfl dJ7_fill_53178_3 ?_
  refine lv_topi (fun x3_8 e_x3_8 => ?_)
  have h := h x3_8 e_x3_8
  refine lv_istore_n (lv' := [(3, .int x3_8), (2, .int (0 : Int32)), (0, .ref a0), (1, .int x1)]) hx hb dJ7_fill_53178_4 rfl hl (by decide) rfl (fun ls hl => ?_)
  exact hJ5 x1 (0 : Int32) x3_8 p0_arr   h _ _ _ hP hD hS (lv_sub hl [2, 3, 1, 0] rfl)
