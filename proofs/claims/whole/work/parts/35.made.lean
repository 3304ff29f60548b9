/-! PURE 16: what is told of what is made, by the class -/
theorem br_le0 {n : Nat} (hn : n < 2 ^ 31) {A B : Prop} (h0 : n = 0 → A) (h1 : 0 < n → B) : (nI n ≤ 0 → A) ∧ (¬ nI n ≤ 0 → B) := by
  by_cases e : n = 0
  · subst e
    exact ⟨fun _ => h0 rfl, fun c => absurd (show nI 0 ≤ 0 by decide) c⟩
  · exact ⟨fun c => absurd c (nI_nle (by omega) hn), fun _ => h1 (by omega)⟩
theorem mx_I {a b : Nat} (ha : a < 2 ^ 31) (hb : b < 2 ^ 31) : (if nI a < nI b then nI b else nI a) = nI (max a b) := by
  by_cases c : a < b
  · rw [if_pos (nI_lt c hb), Nat.max_eq_right (by omega)]
  · rw [if_neg (nI_nlt (by omega) ha), Nat.max_eq_left (by omega)]
theorem cl1x {body : (Int32 → Prop) → Int32 → Prop} (N : Nat) (B : Nat → Bool) (hs : ∀ k, k < N → B k = true → ∀ rc : Int32 → Prop, rc (nI k + 1) → body rc (nI k)) (hb : ∀ k, k < N → B k = false → ∀ rc : Int32 → Prop, body rc (nI k)) (he : (∀ k, k < N → B k = true) → ∀ rc, body rc (nI N)) : ∃ n, lpW1 body n (nI 0) := by
  have key : ∀ j k, k + j = N → (∀ i, i < k → B i = true) → lpW1 body (j + 1) (nI k) := by
    intro j
    induction j with
    | zero => intro k hk hB; obtain rfl : k = N := by omega
              exact he hB _
    | succ j ih =>
      intro k hk hB
      cases e : B k
      · exact hb k (by omega) e _
      · refine hs k (by omega) e _ ?_
        rw [nI_1]
        refine ih (k + 1) (by omega) (fun i hi => ?_)
        by_cases c : i = k
        · rw [c]; exact e
        · exact hB i (by omega)
  exact ⟨N + 1, key N 0 (by omega) (fun i hi => by omega)⟩
theorem idems1 {g : AR} {G : Nat → Nat} (hg : ∀ s, s < 32 → g s = nI (G s)) (hG : ∀ s, G s ≤ 1546) {Q : Int32 → Prop} (h : Q (nI (cn (fun s => decide (0 < G s)) 32))) : wp_X0_idempotents g Q := by
  refine cl2 (body := wb_X0_idempotents_4 g Q) 32 (fun k => nI (cn (fun s => decide (0 < G s)) k)) ?_ ?_
  · intro k hk rc hrc
    refine br_ge (N := 32) hk (by decide) ⟨vp_in_nI hk (by decide), ?_⟩
    rw [cl_nI (by omega), hg k hk]
    have := hG k
    refine br_le0 (by omega) (fun e x hx => ?_) (fun e x hx y hy => ?_)
    · subst hx
      simp only [cn, e, decide_eq_true_eq, Nat.lt_irrefl, if_false, Nat.add_zero] at hrc
      exact hrc
    · subst hx hy
      simp only [cn, decide_eq_true_eq, e, if_true] at hrc
      rw [nI_1]
      exact hrc
  · intro rc
    exact br_end (N := 32) (Nat.le_refl _) (by decide) h
theorem kinds1 {g k : AR} {G kd : Nat → Nat} (hg : ∀ s, s < 32 → g s = nI (G s)) (hG : ∀ s, G s ≤ 1546) (hk : ∀ s, s < 32 → k s = nI (kd s) ∧ kd s < 32) {Q : Int32 → Prop} (h : Q (nI (cn (fun s => decide (0 < G s) && kd s == s) 32))) : wp_X0_kinds g k Q := by
  refine cl2 (body := wb_X0_kinds_4 g k Q) 32 (fun k => nI (cn (fun s => decide (0 < G s) && kd s == s) k)) ?_ ?_
  · intro j hj rc hrc
    refine br_ge (N := 32) hj (by decide) ⟨vp_in_nI hj (by decide), ?_⟩
    rw [cl_nI (by omega), hg j hj]
    have := hG j
    have hkj := (hk j hj).2
    refine br_le0 (by omega) (fun e x hx => ?_) (fun e => ⟨vp_in_nI hj (by decide), fun c x hx => ?_, fun c x hx y hy => ?_⟩)
    · subst hx
      simp only [cn, e, Nat.lt_irrefl, decide_false, Bool.false_and, Bool.false_eq_true, if_false, Nat.add_zero] at hrc
      exact hrc
    · subst hx
      rw [(hk j hj).1] at c
      have c' : kd j ≠ j := fun e => c (by rw [e])
      rw [cn, if_neg (by rw [beq_eq_false_iff_ne.mpr c', Bool.and_false]; decide), Nat.add_zero] at hrc
      exact hrc
    · subst hx hy
      rw [(hk j hj).1] at c
      have c' : kd j = j := (nI_eq (by omega) (by omega)).mp c
      rw [cn, if_pos (by rw [c', beq_self_eq_true, decide_eq_true e]; rfl)] at hrc
      rw [nI_1]
      exact hrc
  · intro rc
    exact br_end (N := 32) (Nat.le_refl _) (by decide) h
theorem great1 {g : AR} {G : Nat → Nat} (hg : ∀ s, s < 32 → g s = nI (G s)) (hG : ∀ s, G s ≤ 1546) {Q : Int32 → Prop} (h : Q (nI (mxN G 32))) : wp_X0_greatestGroup g Q := by
  refine cl2 (body := wb_X0_greatestGroup_4 g Q) 32 (fun k => nI (mxN G k)) ?_ ?_
  · intro j hj rc hrc
    refine br_ge (N := 32) hj (by decide) ⟨vp_in_nI hj (by decide), fun x hx y hy => ?_⟩
    have h1 := hG j
    have h2 := mxN_le (g := G) (B := 1546) j (fun i _ => hG i)
    rw [cl_nI (by omega), hg j hj, mx_I (by omega) (by omega)] at hx
    subst hx hy
    exact hrc
  · intro rc
    exact br_end (N := 32) (Nat.le_refl _) (by decide) h
theorem within1 {N : Nat} {f : Nat → Nat} (hN : N ≤ 1546) {g : AR} (hg : ∀ s, s < 32 → g s = nI (gN N f s)) {t : Nat} (ht : t < 32) {Q : Int32 → Prop} (h : Q (bI (hwB N f t))) : wp_X0_hasIdempotentWithin (nI t) g Q := by
  refine cl1x (body := wb_X0_hasIdempotentWithin_2 g (nI t) Q) 32 (fun s => !(decide (0 < gN N f s) && subB s t)) ?_ ?_ ?_
  · intro s hs hB rc hrc
    refine br_ge (N := 32) hs (by decide) ⟨vp_in_nI hs (by decide), ?_⟩
    rw [cl_nI (by omega), hg s hs]
    have := gN_le N f s
    refine br_le0 (by omega) (fun e x hx => by subst hx; exact hrc) (fun e => ⟨fun c x hx => by subst hx; exact hrc, fun c => ?_⟩)
    rw [decide_eq_true e, (sub_I hs ht).mp c] at hB
    cases hB
  · intro s hs hB rc
    refine br_ge (N := 32) hs (by decide) ⟨vp_in_nI hs (by decide), ?_⟩
    rw [cl_nI (by omega), hg s hs]
    have := gN_le N f s
    rw [Bool.not_eq_false', Bool.and_eq_true, decide_eq_true_eq] at hB
    refine br_le0 (by omega) (fun e x hx => by omega) (fun e => ⟨fun c => absurd ((sub_I hs ht).mpr hB.2) c, fun c => ?_⟩)
    have : hwB N f t = true := List.any_eq_true.mpr ⟨s, List.mem_range.mpr hs, by rw [Bool.and_eq_true, decide_eq_true_eq]; exact hB⟩
    rw [this] at h
    exact h
  · intro hB rc
    refine br_end (N := 32) (Nat.le_refl _) (by decide) ?_
    have : hwB N f t = false := List.any_eq_false.mpr (fun s hs => by
      have := hB s (List.mem_range.mp hs)
      rw [Bool.not_eq_true'] at this
      rw [this]; decide)
    rw [this] at h
    exact h
def clB (N : Nat) (f : Nat → Nat) (i : Nat) : Bool := idemN (f i) || !hbS f (f i) N
def clS (N : Nat) (f : Nat → Nat) : Nat → Bool
  | 0 => true
  | k + 1 => clS N f k && clB N f k
theorem clS_t {N : Nat} {f : Nat → Nat} : ∀ k, (∀ i, i < k → clB N f i = true) → clS N f k = true
  | 0, _ => rfl
  | k + 1, h => by rw [clS, clS_t k (fun i hi => h i (by omega)), h k (by omega)]; rfl
theorem clS_f {N : Nat} {f : Nat → Nat} {i : Nat} (h : clB N f i = false) : ∀ k, i < k → clS N f k = false
  | k + 1, hk => by
    rw [clS]
    by_cases e : i = k
    · subst e; rw [h, Bool.and_false]
    · rw [clS_f h k (by omega), Bool.false_and]
theorem clean1 {N : Nat} {f : Nat → Nat} (hw : Wv N f) {mp g : AR} (hm : ∀ i, i < N → mp i = nI (f i)) (hg : ∀ s, s < 32 → g s = nI (gN N f s)) {Q : Int32 → Prop} (h : Q (bI (clS N f N))) : wp_X0_isClean (nI N) mp g Q := by
  have hN := hw.2.1
  refine cl1x (body := wb_X0_isClean_2 (nI N) mp g Q) N (clB N f) ?_ ?_ ?_
  · intro i hi hB rc hrc
    have hv := hw.2.2.1 i hi
    refine br_ge hi (by omega) ⟨vp_in_nI (by omega) (by decide), ?_⟩
    rw [cl_nI (by omega), hm i hi]
    refine idem1 hv.1 (brb (fun e x hx => by subst hx; exact hrc) (fun e => ⟨vp_in_nI (by omega) (by decide), fpts1 hv.1 (within1 hN hg (fp_lt _) (brb' (fun _ x hx => by subst hx; exact hrc) (fun e2 => ?_)))⟩))
    rw [same_below hw hi] at e2
    rw [clB, e, e2] at hB
    cases hB
  · intro i hi hB rc
    have hv := hw.2.2.1 i hi
    refine br_ge hi (by omega) ⟨vp_in_nI (by omega) (by decide), ?_⟩
    rw [cl_nI (by omega), hm i hi]
    have hf := clS_f hB N hi
    rw [hf] at h
    rw [clB, Bool.or_eq_false_iff] at hB
    refine idem1 hv.1 (brb (fun e => by rw [hB.1] at e; cases e) (fun e => ⟨vp_in_nI (by omega) (by decide), fpts1 hv.1 (within1 hN hg (fp_lt _) (brb' (fun e2 => ?_) (fun _ => h)))⟩))
    rw [same_below hw hi] at e2
    rw [e2] at hB
    cases hB.2
  · intro hB rc
    rw [clS_t N hB] at h
    exact br_end (Nat.le_refl N) (by omega) h
theorem image1c {g : AR} {G : Nat → Nat} (hg : ∀ s, s < 32 → g s = nI (G s)) (hG : ∀ s, G s ≤ 1546) {Q : Int32 → Prop} (h : Q (nI (G (c1N G 32)))) : wp_X0_imageGroup g Q := by
  refine cl2 (body := wb_X0_imageGroup_5 g Q) 32 (fun k => nI (c1N G k)) ?_ ?_
  · intro j hj rc hrc
    refine br_ge (N := 32) hj (by decide) ⟨vp_in_nI hj (by decide), ?_⟩
    rw [cl_nI (by omega), hg j hj]
    have := hG j
    refine br_le0 (by omega) (fun e x hx => ?_) (fun e x hx y hy => ?_)
    · subst hx
      rw [c1N, if_neg (by omega)] at hrc
      exact hrc
    · subst hx hy
      rw [c1N, if_pos e] at hrc
      rw [and_I (c1N_lt _ _) hj]
      exact hrc
  · intro rc
    have hc := c1N_lt G 32
    refine br_end (N := 32) (Nat.le_refl _) (by decide) ⟨vp_in_nI hc (by decide), ?_⟩
    rw [cl_nI (by omega), hg _ hc]
    exact h
/-! the same, by the reference -/
theorem ends8 {N : Nat} {f : Nat → Nat} (hw : Wv N f) {wv dof rof : AR} (hm : ∀ i, i < N → wv i = nI (f i)) {Q : AR → AR → Prop} (h : ∀ d r : AR, (∀ i, i < N → d i = nI (domN (f i)) ∧ r i = nI (domN (invN (f i)))) → Q d r) : wp_X8_layEnds (nI N) wv dof rof Q := by
  have hN := hw.2.1
  refine cl3r (body := wb_X8_layEnds_2 (nI N) wv Q) N (fun j d r => ∀ i, i < j → d i = nI (domN (f i)) ∧ r i = nI (domN (invN (f i)))) ?_ ?_ (fun i hi => by omega)
  · intro j hj d r hI rc hrc
    have hv := hw.2.2.1 j hj
    refine br_ge hj (by omega) ⟨vp_in_nI (by omega) (by decide), ?_⟩
    rw [cl_nI (by omega), hm j hj]
    refine dom8 hv.1 ⟨vp_in_nI (by omega) (by decide), vp_in_nI (by omega) (by decide), ran8 hv ⟨vp_in_nI (by omega) (by decide), fun x hx => ?_⟩⟩
    subst hx
    refine hrc _ _ (fun i hi => ?_)
    by_cases e : i = j
    · subst e; rw [upd_s, upd_s]; exact ⟨rfl, rfl⟩
    · rw [upd_n e, upd_n e]; exact hI i (by omega)
  · intro d r hI rc
    exact br_end (Nat.le_refl N) (by omega) (h d r hI)
theorem cn_step {P : Nat → Bool} {k : Nat} {b : Bool} (h : P k = b) : nI (cn P k) + bI b = nI (cn P (k + 1)) := by
  rw [cn, h]
  cases b
  · exact nI_add _ 0
  · exact nI_add _ 1
theorem idems8 {N : Nat} {f : Nat → Nat} (hw : Wv N f) {wv : AR} (hm : ∀ i, i < N → wv i = nI (f i)) {Q : Int32 → Prop} (h : Q (nI (cn (fun k => idemN (f k)) N))) : wp_X8_idempotents (nI N) wv Q := by
  have hN := hw.2.1
  refine cl2 (body := wb_X8_idempotents_4 (nI N) wv Q) N (fun k => nI (cn (fun k => idemN (f k)) k)) ?_ ?_
  · intro j hj rc hrc
    have hv := hw.2.2.1 j hj
    refine br_ge hj (by omega) ⟨vp_in_nI (by omega) (by decide), ?_⟩
    rw [cl_nI (by omega), hm j hj]
    refine idem8 hv.1 (brb' (fun e x hx y hy => ?_) (fun e x hx y hy => ?_))
    · subst hx hy; rw [show (0 : Int32) = bI false from rfl, cn_step (P := fun k => idemN (f k)) e]; exact hrc
    · subst hx hy; rw [show nI (cn (fun k => idemN (f k)) j) + 1 = nI (cn (fun k => idemN (f k)) j) + bI true from rfl, cn_step (P := fun k => idemN (f k)) e]; exact hrc
  · intro rc
    exact br_end (Nat.le_refl N) (by omega) h
theorem least8 {N : Nat} {f : Nat → Nat} (hw : Wv N f) {dof rof : AR} (hd : ∀ i, i < N → dof i = nI (domN (f i)) ∧ rof i = nI (domN (invN (f i)))) {e : Nat} (he : e < 7776) {Q : Int32 → Prop} (h : Q (bI (lsB N f e N))) : wp_X8_isLeastOfKind (nI e) (nI N) dof rof Q := by
  have hN := hw.2.1
  refine cl2 (body := wb_X8_isLeastOfKind_4 (nI N) dof rof (nI e) Q) N (fun k => bI (lsB N f e k)) ?_ ?_
  · intro j hj rc hrc
    have hv := hw.2.2.1 j hj
    have d1 := domN_lt (f j)
    have d2 := domN_lt (invN (f j))
    refine br_ge hj (by omega) (brb' (fun e1 x hx => ?_) (fun e1 => ⟨vp_in_nI (by omega) (by decide), ?_⟩))
    · subst hx
      rw [lsB, e1, Bool.false_and] at hrc
      exact hrc
    · rw [cl_nI (by omega), (hd j hj).1, (hd j hj).2]
      rw [lsB, e1, Bool.true_and] at hrc
      refine ⟨fun c x hx => ?_, fun c => ⟨vp_in_nI (by omega) (by decide), fun c2 x hx => ?_, fun c2 x hx => ?_⟩⟩
      · subst hx
        rw [beq_eq_false_iff_ne.mpr (fun e3 => c (by rw [e3]))] at hrc
        exact hrc
      · subst hx
        have c2' := (nI_ltI (by omega) (by omega)).mp c2
        rw [(nI_eq (by omega) (by omega)).mp c, beq_self_eq_true, decide_eq_false (by omega)] at hrc
        exact hrc
      · subst hx
        have c2' : ¬ _ := fun c3 => c2 ((nI_ltI (by omega) (by omega)).mpr c3)
        rw [decide_eq_true (by omega), Bool.or_true] at hrc
        exact hrc
  · intro rc
    exact br_end (Nat.le_refl N) (by omega) ⟨bI_B _, h⟩
theorem kinds8 {N : Nat} {f : Nat → Nat} (hw : Wv N f) {wv dof rof : AR} (hm : ∀ i, i < N → wv i = nI (f i)) (hd : ∀ i, i < N → dof i = nI (domN (f i)) ∧ rof i = nI (domN (invN (f i)))) {Q : Int32 → Prop} (h : Q (nI (cn (fun k => idemN (f k) && lsB N f (f k) N) N))) : wp_X8_kinds (nI N) wv dof rof Q := by
  have hN := hw.2.1
  refine cl2 (body := wb_X8_kinds_4 (nI N) wv dof rof Q) N (fun k => nI (cn (fun k => idemN (f k) && lsB N f (f k) N) k)) ?_ ?_
  · intro j hj rc hrc
    have hv := hw.2.2.1 j hj
    refine br_ge hj (by omega) ⟨vp_in_nI (by omega) (by decide), ?_⟩
    rw [cl_nI (by omega), hm j hj]
    have go : ∀ b : Bool, (idemN (f j) && lsB N f (f j) N) = b → ∀ x : Int32, x = nI (cn (fun k => idemN (f k) && lsB N f (f k) N) j) + bI b → ∀ y : Int32, y = nI j + 1 → rc x y := by
      intro b e x hx y hy
      subst hx hy
      rw [cn_step (P := fun k => idemN (f k) && lsB N f (f k) N) e]; exact hrc
    refine idem8 hv.1 (brb' (fun e => go false (by rw [e]; rfl)) (fun e => ⟨vp_in_nI (by omega) (by decide), least8 hw hd hv.1 (brb' (fun e2 => go false (by rw [e, e2]; rfl)) (fun e2 => go true (by rw [e, e2]; rfl)))⟩))
  · intro rc
    exact br_end (Nat.le_refl N) (by omega) h
theorem group8 {N : Nat} {f : Nat → Nat} (hw : Wv N f) {dof rof : AR} (hd : ∀ i, i < N → dof i = nI (domN (f i)) ∧ rof i = nI (domN (invN (f i)))) {e : Nat} (he : e < 7776) {Q : Int32 → Prop} (h : Q (nI (grp N f e))) : wp_X8_groupOf (nI e) (nI N) dof rof Q := by
  have hN := hw.2.1
  refine cl2 (body := wb_X8_groupOf_4 (nI N) dof rof (nI e) Q) N (fun k => nI (cn (fun j => domN (f j) == e && domN (invN (f j)) == e) k)) ?_ ?_
  · intro j hj rc hrc
    have d1 := domN_lt (f j)
    have d2 := domN_lt (invN (f j))
    have go : ∀ b : Bool, (domN (f j) == e && domN (invN (f j)) == e) = b → ∀ x : Int32, x = nI (cn (fun j => domN (f j) == e && domN (invN (f j)) == e) j) + bI b → ∀ y : Int32, y = nI j + 1 → rc x y := by
      intro b e1 x hx y hy
      subst hx hy
      rw [cn_step (P := fun j => domN (f j) == e && domN (invN (f j)) == e) e1]; exact hrc
    refine br_ge hj (by omega) ⟨vp_in_nI (by omega) (by decide), ?_⟩
    rw [cl_nI (by omega), (hd j hj).1, (hd j hj).2]
    refine ⟨fun c => go false ?_, fun c => ⟨vp_in_nI (by omega) (by decide), fun c2 => go false ?_, fun c2 => go true ?_⟩⟩
    · rw [beq_eq_false_iff_ne.mpr (fun e3 => c (by rw [e3]))]; rfl
    · rw [show (domN (invN (f j)) == e) = false from beq_eq_false_iff_ne.mpr (fun e3 => c2 (by rw [e3])), Bool.and_false]
    · rw [(nI_eq (by omega) (by omega)).mp c, (nI_eq (by omega) (by omega)).mp c2, beq_self_eq_true]; rfl
  · intro rc
    exact br_end (Nat.le_refl N) (by omega) h
theorem great8 {N : Nat} {f : Nat → Nat} (hw : Wv N f) {wv dof rof : AR} (hm : ∀ i, i < N → wv i = nI (f i)) (hd : ∀ i, i < N → dof i = nI (domN (f i)) ∧ rof i = nI (domN (invN (f i)))) {Q : Int32 → Prop} (h : Q (nI (mxN (fun k => if idemN (f k) = true then grp N f (f k) else 0) N))) : wp_X8_greatestGroup (nI N) wv dof rof Q := by
  have hN := hw.2.1
  have hg : ∀ k, (if idemN (f k) = true then grp N f (f k) else 0) ≤ 1546 := by
    intro k
    have : grp N f (f k) ≤ N := cn_le _ N
    split <;> omega
  refine cl2 (body := wb_X8_greatestGroup_4 (nI N) wv dof rof Q) N (fun k => nI (mxN (fun k => if idemN (f k) = true then grp N f (f k) else 0) k)) ?_ ?_
  · intro j hj rc hrc
    have hv := hw.2.2.1 j hj
    refine br_ge hj (by omega) ⟨vp_in_nI (by omega) (by decide), ?_⟩
    rw [cl_nI (by omega), hm j hj]
    have h2 := mxN_le (g := fun k => if idemN (f k) = true then grp N f (f k) else 0) (B := 1546) j (fun i _ => hg i)
    have go : ∀ t, t = (if idemN (f j) = true then grp N f (f j) else 0) → wp_X8_greatestGroup_38 (nI N) wv dof rof (nI (mxN (fun k => if idemN (f k) = true then grp N f (f k) else 0) j)) (nI j) (nI t) rc Q := by
      intro t ht
      have h3 := hg j
      rw [← ht] at h3
      rw [mxN, ← ht] at hrc
      refine ⟨fun c x hx => ?_, fun c x hx => ?_⟩
      · subst hx
        rw [Nat.max_eq_left ((nI_leI (by omega) (by omega)).mp c)] at hrc
        exact hrc
      · subst hx
        have : ¬ t ≤ _ := fun c2 => c ((nI_leI (by omega) (by omega)).mpr c2)
        rw [Nat.max_eq_right (by omega)] at hrc
        exact hrc
    refine idem8 hv.1 (brb' (fun e => go 0 (by rw [e]; rfl)) (fun e => ⟨vp_in_nI (by omega) (by decide), group8 hw hd hv.1 (go _ (by rw [if_pos e]))⟩))
  · intro rc
    exact br_end (Nat.le_refl N) (by omega) h
theorem hbS_mono {f : Nat → Nat} {m k : Nat} (h : hbS f m k = true) {N : Nat} (hN : k ≤ N) : hbS f m N = true := by
  obtain ⟨i, hi, e⟩ := (hbS_iff k).mp h
  exact (hbS_iff N).mpr ⟨i, by omega, e⟩
theorem below8h {N : Nat} {f : Nat → Nat} (hw : Wv N f) {wv : AR} (hm : ∀ i, i < N → wv i = nI (f i)) {m : Nat} (hM : m < 7776) {Q : Int32 → Prop} (h : Q (bI (hbS f m N))) : wp_X8_hasBelow (nI m) (nI N) wv Q := by
  have hN := hw.2.1
  refine cl2 (body := wb_X8_hasBelow_4 (nI N) wv (nI m) Q) N (fun k => bI (hbS f m k)) ?_ ?_
  · intro j hj rc hrc
    have hv := hw.2.2.1 j hj
    refine br_ge hj (by omega) (brb (fun e => ⟨bI_B _, ?_⟩) (fun e => ⟨vp_in_nI (by omega) (by decide), ?_⟩))
    · rw [hbS_mono e (by omega : j ≤ N)] at h
      rw [e]; exact h
    · rw [cl_nI (by omega), hm j hj]
      have go : ∀ b : Bool, (idemN (f j) && belN (f j) m) = b → ∀ y : Int32, y = nI j + 1 → rc (bI b) y := by
        intro b e1 y hy
        subst hy
        rw [hbS, e, e1, Bool.false_or] at hrc
        exact hrc
      refine idem8 hv.1 (brb' (fun e1 => go false (by rw [e1]; rfl)) (fun e1 => ⟨vp_in_nI (by omega) (by decide), below8 hv.1 hM (brb' (fun e2 => go false (by rw [e1, e2]; rfl)) (fun e2 => go true (by rw [e1, e2]; rfl)))⟩))
  · intro rc
    exact br_end (Nat.le_refl N) (by omega) ⟨bI_B _, h⟩
theorem clS_stop {N : Nat} {f : Nat → Nat} : ∀ {k : Nat}, clS N f k = false → ∀ {M : Nat}, k ≤ M → clS N f M = false := by
  intro k h M hM
  induction M with
  | zero => obtain rfl : k = 0 := by omega
            exact h
  | succ M ih =>
    by_cases e : k = M + 1
    · rw [← e]; exact h
    · rw [clS, ih (by omega), Bool.false_and]
theorem clean8 {N : Nat} {f : Nat → Nat} (hw : Wv N f) {wv : AR} (hm : ∀ i, i < N → wv i = nI (f i)) {Q : Int32 → Prop} (h : Q (bI (clS N f N))) : wp_X8_isClean (nI N) wv Q := by
  have hN := hw.2.1
  refine cl2 (body := wb_X8_isClean_4 (nI N) wv Q) N (fun k => bI (clS N f k)) ?_ ?_
  · intro j hj rc hrc
    have hv := hw.2.2.1 j hj
    refine br_ge hj (by omega) (brb' (fun e => ⟨bI_B _, ?_⟩) (fun e => ⟨vp_in_nI (by omega) (by decide), ?_⟩))
    · rw [clS_stop e (by omega : j ≤ N)] at h
      rw [e]; exact h
    · rw [cl_nI (by omega), hm j hj]
      have go : ∀ b : Bool, clB N f j = b → ∀ y : Int32, y = nI j + 1 → rc (bI b) y := by
        intro b e1 y hy
        subst hy
        rw [clS, e, e1, Bool.true_and] at hrc
        exact hrc
      refine idem8 hv.1 (brb (fun e1 => go true (by rw [clB, e1]; rfl)) (fun e1 => ⟨vp_in_nI (by omega) (by decide), below8h hw hm hv.1 (brb (fun e2 => go false (by rw [clB, e1, e2]; rfl)) (fun e2 => go true (by rw [clB, e1, e2]; rfl)))⟩))
  · intro rc
    exact br_end (Nat.le_refl N) (by omega) ⟨bI_B _, h⟩
def icF (im : AR) (g : Nat → Nat) : Nat → AR
  | 0 => im
  | k + 1 => upd (icF im g k) (g k) 1
theorem icF_1 {im : AR} {g : Nat → Nat} {i : Nat} : ∀ k, i < k → icF im g k (g i) = 1
  | k + 1, h => by
    rw [icF]
    by_cases c : g i = g k
    · rw [c]; exact upd_s
    · rw [upd_n c]
      exact icF_1 k (by by_cases e : i = k; exact absurd (by rw [e]) c; omega)
theorem icF_0 {im : AR} {g : Nat → Nat} {m : Nat} : ∀ k, (∀ i, i < k → g i ≠ m) → icF im g k m = im m
  | 0, _ => rfl
  | k + 1, h => by rw [icF, upd_n (fun c => h k (by omega) c.symm)]; exact icF_0 k (fun i hi => h i (by omega))
theorem same8 {Q : Int32 → Prop} (h : Q (nI 7465)) : wp_X8_same Q := by
  exact same_wp h
theorem image8g {N : Nat} {f : Nat → Nat} (hw : Wv N f) {wv isc : AR} (hm : ∀ i, i < N → wv i = nI (f i)) {Q : Int32 → AR → Prop} (h : ∀ isc', Q (nI (cn (fsB fun i => thenN (isA (c8N f N)) (f i)) N)) isc') : wp_X8_imageGroup (nI N) wv isc Q := by
  have hN := hw.2.1
  refine same8 ?_
  rw [show 7465 = isA 31 by decide]
  refine cl2 (body := wb_X8_imageGroup_6 (nI N) wv isc Q) N (fun k => nI (isA (c8N f k))) ?_ ?_
  · intro j hj rc hrc
    have hv := hw.2.2.1 j hj
    refine br_ge hj (by omega) ⟨vp_in_nI (by omega) (by decide), ?_⟩
    rw [cl_nI (by omega), hm j hj]
    refine idem8 hv.1 (brb' (fun e x hx => ?_) (fun e => ⟨vp_in_nI (by omega) (by decide), ?_⟩))
    · subst hx
      rw [c8N, e, if_neg (by decide)] at hrc
      exact hrc
    · refine then8 (isA_lt _) hv.1 (fun x hx => ?_)
      subst hx
      rw [c8N, if_pos e, ← isA_then (c8N_lt _ _) (dp_lt _), ← isA_idem hv.1 e] at hrc
      exact hrc
  · intro rc
    refine br_end (Nat.le_refl N) (by omega) ?_
    refine cl2' (body := wb_X8_imageGroup_49 (nI N) wv (nI (isA (c8N f N))) Q) 7776 (zF isc) ?_ ?_
    · intro j hj rc hrc
      refine br_ge (N := 7776) hj (by decide) ⟨vp_in_nI hj (by decide), fun x hx => ?_⟩
      subst hx
      rw [cl_nI (by omega), nar0]
      exact hrc
    · intro rc
      refine br_end (N := 7776) (Nat.le_refl _) (by decide) ?_
      have hz : ∀ m, m < 7776 → zF isc 7776 m = 0 := fun m hm => zF_0 hm
      generalize zF isc 7776 = ic at hz ⊢
      refine cl3m (body := wb_X8_imageGroup_73 (nI N) wv (nI (isA (c8N f N))) Q) N (fun k => nI (cn (fsB fun i => thenN (isA (c8N f N)) (f i)) k)) (icF ic fun i => thenN (isA (c8N f N)) (f i)) ?_ ?_
      · intro j hj rc hrc
        have hv := hw.2.2.1 j hj
        refine br_ge hj (by omega) ⟨vp_in_nI (by omega) (by decide), ?_⟩
        rw [cl_nI (by omega), hm j hj]
        refine then8 (isA_lt _) hv.1 ?_
        have hl := thenN_lt (isA (c8N f N)) (f j)
        have go : ∀ b : Bool, fsB (fun i => thenN (isA (c8N f N)) (f i)) j = b → wp_X8_imageGroup_109 (nI N) wv (nI (isA (c8N f N))) (nI j) (nI (thenN (isA (c8N f N)) (f j))) (nI (cn (fsB fun i => thenN (isA (c8N f N)) (f i)) j)) (bI b) (icF ic (fun i => thenN (isA (c8N f N)) (f i)) j) rc Q := by
          intro b e x hx
          refine ⟨vp_in_nI hl (by decide), fun y hy => ?_⟩
          subst hx hy
          rw [cn_step e, cl_nI (by omega), nar1]
          exact hrc
        refine ⟨vp_in_nI hl (by decide), fun c => ?_, fun c => ?_⟩
        · rw [cl_nI (by omega)] at c
          refine go true (fsB_iff.mpr fun i hi e => ?_)
          have := icF_1 (im := ic) (g := fun i => thenN (isA (c8N f N)) (f i)) j hi
          have e' : thenN (isA (c8N f N)) (f i) = thenN (isA (c8N f N)) (f j) := e
          rw [e', c] at this
          exact absurd this (by decide)
        · rw [cl_nI (by omega)] at c
          refine go false ?_
          cases e : fsB (fun i => thenN (isA (c8N f N)) (f i)) j
          · rfl
          · exact absurd (by rw [icF_0 j (fsB_iff.mp e)]; exact hz _ hl) c
      · intro rc
        exact br_end (Nat.le_refl N) (by omega) (h _)
