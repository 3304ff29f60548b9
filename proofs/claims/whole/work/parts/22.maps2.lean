/-! PURE 3: maps, the rest -/
theorem bI_0 (b : Bool) : bI b = 0 ↔ b = false := by cases b <;> decide
theorem bI_n0 (b : Bool) : ¬ bI b = 0 ↔ b = true := by cases b <;> decide
theorem bI_1 (b : Bool) : bI b = 1 ↔ b = true := by cases b <;> decide
theorem first_bad {s : Nat → Bool} : ∀ n, s 0 = true → s n = false → ∃ k, k < n ∧ (∀ j, j ≤ k → s j = true) ∧ s (k + 1) = false
  | 0, h0, h => by rw [h0] at h; cases h
  | n + 1, h0, h => by
    cases hn : s n with
    | false =>
      obtain ⟨k, h1, h2, h3⟩ := first_bad n h0 hn
      exact ⟨k, by omega, h2, h3⟩
    | true =>
      by_cases ha : ∀ j, j ≤ n → s j = true
      · exact ⟨n, by omega, ha, h⟩
      · -- some earlier one is bad
        have : ∃ j, j < n ∧ s j = false := by
          refine Classical.byContradiction fun hc => ha fun j hj => ?_
          rcases Nat.lt_or_ge j n with hl | hl
          · cases hs : s j with
            | true => rfl
            | false => exact absurd ⟨j, hl, hs⟩ hc
          · have : j = n := by omega
            rw [this]; exact hn
        obtain ⟨j, hj, hs⟩ := this
        obtain ⟨k, h1, h2, h3⟩ := first_bad j h0 hs
        exact ⟨k, by omega, h2, h3⟩
theorem idem8 {a : Nat} (ha : a < 7776) {Q : Int32 → Prop} (h : Q (bI (idemN a))) : wp_X8_isIdempotent (nI a) Q := by
  unfold wp_X8_isIdempotent
  refine cl2 5 (fun k => bI (idS a k)) (fun k hk rc hrc => ?_) (fun rc => br_end (Nat.le_refl 5) (by decide) ⟨bI_B _, h⟩)
  refine br_ge hk (by decide) ?_
  have hd := dg_lt a k
  refine ⟨fun c => ?_, fun c => ?_⟩
  · have h0 := (bI_0 _).mp c
    intro y e
    subst e
    have : idS a (k + 1) = false := by simp [idS, h0]
    rw [this] at hrc
    exact hrc
  · have h0 := (bI_n0 _).mp c
    refine to_wp ha hk ⟨fun c2 => ?_, fun c2 => ?_⟩
    · have h2 := (dm_neg _ hd).mp c2
      intro y e
      subst e
      have : idS a (k + 1) = true := by simp [idS, h0, h2]
      rw [this] at hrc
      exact hrc
    · have h2 : dg a k ≠ 0 := fun z => c2 ((dm_neg _ hd).mpr z)
      refine to_wp ha hk ⟨fun c3 => ?_, fun c3 => ?_⟩
      · have h3 : dg a k ≠ k + 1 := fun z => c3 ((dm_eqp _ hd _ (by omega)).mpr z)
        intro y e
        subst e
        have : idS a (k + 1) = false := by simp [idS, h2, h3]
        rw [this] at hrc
        exact hrc
      · have h3 := (dm_eqp _ hd _ (by omega)).mp c3
        intro y e
        subst e
        have : idS a (k + 1) = true := by simp [idS, h0, h3]
        rw [this] at hrc
        exact hrc
theorem below8 {a b : Nat} (ha : a < 7776) (hb : b < 7776) {Q : Int32 → Prop} (h : Q (bI (belN a b))) : wp_X8_isBelow (nI a) (nI b) Q := by
  unfold wp_X8_isBelow
  refine cl2 5 (fun k => bI (blS a b k)) (fun k hk rc hrc => ?_) (fun rc => br_end (Nat.le_refl 5) (by decide) ⟨bI_B _, h⟩)
  refine br_ge hk (by decide) ?_
  have hd := dg_lt a k
  have hd2 := dg_lt b k
  refine ⟨fun c => ?_, fun c => ?_⟩
  · have h0 := (bI_0 _).mp c
    intro y e
    subst e
    have : blS a b (k + 1) = false := by simp [blS, h0]
    rw [this] at hrc
    exact hrc
  · have h0 := (bI_n0 _).mp c
    refine to_wp ha hk ⟨fun c2 => ?_, fun c2 => ?_⟩
    · have h2 := (dm_neg _ hd).mp c2
      intro y e
      subst e
      have : blS a b (k + 1) = true := by simp [blS, h0, h2]
      rw [this] at hrc
      exact hrc
    · have h2 : dg a k ≠ 0 := fun z => c2 ((dm_neg _ hd).mpr z)
      refine to_wp ha hk (to_wp hb hk ⟨fun c3 => ?_, fun c3 => ?_⟩)
      · have h3 : dg a k ≠ dg b k := fun z => c3 ((dm_eq _ hd _ hd2).mpr z)
        intro y e
        subst e
        have : blS a b (k + 1) = false := by simp [blS, h2, h3]
        rw [this] at hrc
        exact hrc
      · have h3 := (dm_eq _ hd _ hd2).mp c3
        intro y e
        subst e
        have : blS a b (k + 1) = true := by simp [blS, h0, h3]
        rw [this] at hrc
        exact hrc
/-- in(v, low, high) -/
theorem in_wp {x lo hi : Int32} {Q : Int32 → Prop} (h : Q (bI (decide (¬ x < lo ∧ ¬ hi < x)))) : wp_X8_in x lo hi Q := by
  unfold wp_X8_in
  refine ⟨fun c => ?_, fun c => ⟨fun c2 => ?_, fun c2 => ?_⟩⟩
  · have : decide (¬ x < lo ∧ ¬ hi < x) = false := by simp [c]
    rw [this] at h; exact h
  · have : decide (¬ x < lo ∧ ¬ hi < x) = false := by simp [c2]
    rw [this] at h; exact h
  · have : decide (¬ x < lo ∧ ¬ hi < x) = true := by simp [c, c2]
    rw [this] at h; exact h
/-- an int is within 0 .. n, or not -/
def inN (x : Int32) (n : Nat) : Bool := decide (¬ x < 0 ∧ ¬ nI n < x)
theorem inN_t {x : Int32} {n : Nat} (h : inN x n = true) (hn : n < 2 ^ 31) : ∃ k, k ≤ n ∧ x = nI k := by
  simp only [inN, decide_eq_true_eq] at h
  obtain ⟨h1, h2⟩ := h
  obtain ⟨j, hj, rfl⟩ := nI_of h1
  exact ⟨j, Nat.le_of_not_lt fun c => h2 (nI_lt c hj), rfl⟩
theorem inN_nI {k n : Nat} (h : k ≤ n) (hn : n < 2 ^ 31) : inN (nI k) n = true := by
  simp only [inN, decide_eq_true_eq]
  exact ⟨nI_pos (by omega), nI_nlt h hn⟩
theorem inN_f {x : Int32} {n : Nat} (h : inN x n = false) (hn : n < 2 ^ 31) (k : Nat) (hk : k ≤ n) : x ≠ nI k := fun e => by
  rw [e, inN_nI hk hn] at h
  cases h
theorem slot8 {x : Int32} {Q : Int32 → Prop} (h : Q (bI (inN x 5))) : wp_X8_isSlot x Q := in_wp (hi := 5) ⟨bI_B _, h⟩
theorem word8 {x : Int32} {Q : Int32 → Prop} (h : Q (bI (inN x 3))) : wp_X8_isWord x Q := in_wp (hi := 3) ⟨bI_B _, h⟩
/-- is it a map's number -/
def isMapI (x : Int32) : Bool := inN x 7775 && isMapN x.toNatClampNeg
theorem nI01 (s : Nat) : nI (s % 2) = 0 ↔ (s % 2 == 0) = true := by
  rcases (show s % 2 = 0 ∨ s % 2 = 1 by omega) with h | h <;> rw [h] <;> decide
theorem nI11 (s : Nat) : nI (s % 2) = 1 ↔ (s % 2 == 1) = true := by
  rcases (show s % 2 = 0 ∨ s % 2 = 1 by omega) with h | h <;> rw [h] <;> decide
theorem isMap8n {a : Nat} (ha : a < 7776) {Q : Int32 → Prop} (h : Q (bI (isMapN a))) : wp_X8_isMap_19 (nI a) Q 0 1 0 := by
  refine cl3 5 (fun k => nI (imS a k).1) (fun k => bI (imS a k).2) (fun k hk rc hrc => ?_) (fun rc => br_end (Nat.le_refl 5) (by decide) ⟨bI_B _, h⟩)
  refine br_ge hk (by decide) (to_wp ha hk ?_)
  have hd := dg_lt a k
  have hm := imS_lt a k (by omega)
  -- the tail: the mask grows, the counter too
  have tail : ∀ t : Int32, t = bI (imS a (k + 1)).2 → wp_X8_isMap_54 (nI a) (nI (imS a k).1) (nI k) (nI (dg a k) - 1) t rc Q := by
    intro t et
    subst et
    refine ⟨fun c => ?_, fun c => ?_⟩
    · have h0 := (dm_nn _ hd).mp c
      rw [pdm _ 0 hd h0]
      intro x e y e2
      subst e e2
      have : nI (imS a k).1 ||| (1 : Int32) <<< (nI (dg a k - 1) &&& 31) = nI (imS a (k + 1)).1 := by
        rw [or5 _ hm _ (by omega)]
        simp only [imS, if_neg h0]
      rw [this]
      exact hrc
    · have h0 : dg a k = 0 := Classical.byContradiction fun z => c ((dm_nn _ hd).mpr z)
      intro x e y e2
      subst e e2
      have : nI (imS a k).1 ||| 0 = nI (imS a (k + 1)).1 := by
        simp only [imS, if_pos h0]
        exact Int32.or_zero
      rw [this]
      exact hrc
  refine ⟨fun c => tail 0 ?_, fun c => ⟨fun c2 => tail 1 ?_, fun c2 => ?_⟩⟩
  · have h0 := (bI_0 _).mp c
    simp [imS, h0, bI]
  · have h0 := (bI_n0 _).mp c
    have h2 := (dm_neg _ hd).mp c2
    simp [imS, h0, h2, bI]
  · have h0 := (bI_n0 _).mp c
    have h2 : dg a k ≠ 0 := fun z => c2 ((dm_neg _ hd).mpr z)
    rw [show (nI (dg a k) - 1 : Int32) = nI (dg a k - 1) from pdm _ 0 hd h2, bit5 _ hm _ (by omega)]
    rw [show (nI (dg a k - 1) : Int32) = nI (dg a k) - 1 from (pdm _ 0 hd h2).symm]
    refine ⟨fun c3 => tail 0 ?_, fun c3 => tail 1 ?_⟩
    · rw [nI01] at c3
      simp only [imS, h0, bI]
      simp at c3
      simp [h2, c3]
    · rw [nI01] at c3
      simp only [imS, h0, bI]
      simp at c3
      simp [c3]
theorem isMap8 {x : Int32} {Q : Int32 → Prop} (h : Q (bI (isMapI x))) : wp_X8_isMap x Q := by
  refine in_wp (hi := 7775) ?_
  show (¬ bI (inN x 7775) = 0 → _) ∧ (bI (inN x 7775) = 0 → _)
  refine ⟨fun c => ?_, fun c => ?_⟩
  · have h0 := (bI_n0 _).mp c
    obtain ⟨k, hk, rfl⟩ := inN_t h0 (by decide)
    refine isMap8n (by omega) ?_
    rw [isMapI, h0, cl_nI (by omega)] at h
    exact h
  · have h0 := (bI_0 _).mp c
    rw [isMapI, h0] at h
    exact h
/-! the class's -/
theorem dpts1 {a : Nat} (ha : a < 7776) {Q : Int32 → Prop} (h : Q (nI (dpN a))) : wp_X1_domPoints (nI a) Q := by
  unfold wp_X1_domPoints
  refine cl2 5 (fun k => nI (dpS a k)) (fun k hk rc hrc => ?_) (fun rc => br_end (Nat.le_refl 5) (by decide) h)
  refine br_ge hk (by decide) (digit_wp ha hk ?_)
  have hd := dg_lt a k
  have hm := dpS_lt a k (by omega)
  refine ⟨fun c => ?_, fun c => ?_⟩
  · have h0 := (d_le0 _ hd).mp c
    intro y e2
    subst e2
    have : dpS a (k + 1) = dpS a k := by simp [dpS, h0]
    rw [this] at hrc
    exact hrc
  · have h0 : dg a k ≠ 0 := fun z => c ((d_le0 _ hd).mpr z)
    intro x e y e2
    subst e e2
    rw [or5 _ hm _ hk]
    simp only [dpS, if_neg h0] at hrc
    exact hrc
theorem fpts1 {a : Nat} (ha : a < 7776) {Q : Int32 → Prop} (h : Q (nI (fpN a))) : wp_X1_fixedPoints (nI a) Q := by
  unfold wp_X1_fixedPoints
  refine cl2 5 (fun k => nI (fpS a k)) (fun k hk rc hrc => ?_) (fun rc => br_end (Nat.le_refl 5) (by decide) h)
  refine br_ge hk (by decide) (digit_wp ha hk ?_)
  have hd := dg_lt a k
  have hm := fpS_lt a k (by omega)
  rw [nI_1]
  refine ⟨fun c => ?_, fun c => ?_⟩
  · have h0 : dg a k ≠ k + 1 := fun z => c (by rw [z])
    intro y e2
    subst e2
    have : fpS a (k + 1) = fpS a k := by simp [fpS, h0]
    rw [this] at hrc
    exact hrc
  · have h0 : dg a k = k + 1 := (d_eq _ hd _ (by omega)).mp c
    intro x e y e2
    subst e e2
    rw [or5 _ hm _ hk]
    simp only [fpS, if_pos h0] at hrc
    exact hrc
theorem rpts1 {a : Nat} (ha : a < 7776) {Q : Int32 → Prop} (h : Q (nI (rpN a))) : wp_X1_ranPoints (nI a) Q := by
  unfold wp_X1_ranPoints
  refine cl2 5 (fun k => nI (rpS a k)) (fun k hk rc hrc => ?_) (fun rc => br_end (Nat.le_refl 5) (by decide) h)
  refine br_ge hk (by decide) (digit_wp ha hk ?_)
  have hd := dg_lt a k
  have hm := rpS_lt a k (by omega)
  refine ⟨fun c => ?_, fun c => ?_⟩
  · have h0 := (d_le0 _ hd).mp c
    intro y e2
    subst e2
    have : rpS a (k + 1) = rpS a k := by simp [rpS, h0]
    rw [this] at hrc
    exact hrc
  · have h0 : dg a k ≠ 0 := fun z => c ((d_le0 _ hd).mpr z)
    intro x e y e2
    subst e e2
    rw [pdm _ 0 hd h0, or5 _ hm _ (by omega)]
    simp only [rpS, if_neg h0] at hrc
    exact hrc
def pcN (s : Nat) : Nat := s % 2 + s / 2 % 2 + s / 4 % 2 + s / 8 % 2 + s / 16 % 2
def bcI (x0 : Int32) : Int32 :=
  let x1 := x0 - ((x0.toUInt32 >>> ((1 : Int32).toUInt32 &&& Int32.toUInt32 31)).toInt32 &&& 1431655765)
  let x2 := (x1 &&& 858993459) + ((x1.toUInt32 >>> ((2 : Int32).toUInt32 &&& Int32.toUInt32 31)).toInt32 &&& 858993459)
  let x3 := (x2 + (x2.toUInt32 >>> ((4 : Int32).toUInt32 &&& Int32.toUInt32 31)).toInt32) &&& 252645135
  let x4 := x3 + (x3.toUInt32 >>> ((8 : Int32).toUInt32 &&& Int32.toUInt32 31)).toInt32
  let x5 := x4 + (x4.toUInt32 >>> ((16 : Int32).toUInt32 &&& Int32.toUInt32 31)).toInt32
  x5 &&& 63
theorem bc_all : ∀ s, s < 32 → bcI (nI s) = nI (pcN s) := by decide +kernel
theorem bits1 {s : Nat} (hs : s < 32) {Q : Int32 → Prop} (h : Q (nI (pcN s))) : wp_J6_bitCount_0f7a4 (nI s) Q := by
  rw [← bc_all s hs] at h
  unfold wp_J6_bitCount_0f7a4
  intro x1 e1 x2 e2 x3 e3 x4 e4 x5 e5
  subst e1 e2 e3 e4 e5
  exact h
theorem rank_pc : ∀ a, a < 7776 → rankN a = pcN (dpN a) := by
  have h : (List.range 7776).all (fun a => rankN a == pcN (dpN a)) = true := by decide +kernel
  intro a ha
  exact of_decide_eq_true (List.all_eq_true.mp h a (List.mem_range.mpr ha))
theorem rank1 {a : Nat} (ha : a < 7776) {Q : Int32 → Prop} (h : Q (nI (rankN a))) : wp_X1_rank (nI a) Q := by
  rw [rank_pc a ha] at h
  exact dpts1 ha (bits1 (dpS_lt a 5 (Nat.le_refl 5)) h)
theorem idem_pts : ∀ a, a < 7776 → idemN a = (fpN a == dpN a) := by
  have h : (List.range 7776).all (fun a => idemN a == (fpN a == dpN a)) = true := by decide +kernel
  intro a ha
  exact eq_of_beq (List.all_eq_true.mp h a (List.mem_range.mpr ha))
theorem idem1 {a : Nat} (ha : a < 7776) {Q : Int32 → Prop} (h : Q (bI (idemN a))) : wp_X1_isIdempotent (nI a) Q := by
  rw [idem_pts a ha] at h
  refine fpts1 ha (dpts1 ha ?_)
  have h1 := fpS_lt a 5 (Nat.le_refl 5)
  have h2 := dpS_lt a 5 (Nat.le_refl 5)
  refine ⟨fun c => ?_, fun c => ?_⟩
  · have : (fpN a == dpN a) = false := by
      simp only [beq_eq_false_iff_ne, ne_eq]
      intro e
      exact c (by rw [e])
    rw [this] at h
    exact h
  · have : fpN a = dpN a := (nI_eq (by unfold fpN; omega) (by unfold dpN; omega)).mp c
    rw [this, beq_self_eq_true] at h
    exact h
theorem inj_same : ∀ a, a < 7776 → (ijS a 5).2 = isMapN a := by
  have h : (List.range 7776).all (fun a => (ijS a 5).2 == isMapN a) = true := by decide +kernel
  intro a ha
  exact eq_of_beq (List.all_eq_true.mp h a (List.mem_range.mpr ha))
theorem inj1 {a : Nat} (ha : a < 7776) {Q : Int32 → Prop} (h : Q (bI (isMapN a))) : wp_X1_isInjective (nI a) Q := by
  rw [← inj_same a ha] at h
  unfold wp_X1_isInjective
  -- one turn
  have step : ∀ k, k < 5 → ∀ rc : Int32 → Int32 → Prop, (if (ijS a (k + 1)).2 = true ∨ (ijS a k).2 = false then rc (nI (ijS a (k + 1)).1) (nI k + 1) else Q 0) → (ijS a k).2 = true → wb_X1_isInjective_4 (nI a) Q rc (nI (ijS a k).1) (nI k) := by
    intro k hk rc hrc ht
    have hd := dg_lt a k
    have hm := ijS_lt a k (by omega)
    refine br_ge hk (by decide) (digit_wp ha hk ?_)
    have tail : (ijS a (k + 1)).2 = true → wp_X1_isInjective_30 (nI a) (nI (ijS a k).1) (nI k) (nI (dg a k)) rc Q := by
      intro hk1 x e y e2
      subst e e2
      rw [or6 _ hm _ hd]
      rw [if_pos (Or.inl hk1)] at hrc
      exact hrc
    refine ⟨fun c => tail ?_, fun c => ?_⟩
    · have h0 := (d_le0 _ hd).mp c
      simp [ijS, ht, h0]
    · have h0 : dg a k ≠ 0 := fun z => c ((d_le0 _ hd).mpr z)
      rw [bit6 _ hm _ hd]
      refine ⟨fun c2 => tail ?_, fun c2 => ?_⟩
      · rw [nI11] at c2
        simp only [ijS, ht]
        simp at c2
        simp [c2]
      · rw [nI11] at c2
        have : (ijS a (k + 1)).2 = false := by
          simp only [ijS, ht]
          simp at c2
          simp [h0, c2]
        rw [if_neg (by simp [this, ht])] at hrc
        exact hrc
  cases hb : (ijS a 5).2 with
  | true =>
    rw [hb] at h
    have all : ∀ k, k ≤ 5 → (ijS a k).2 = true := by
      intro k hk
      refine Classical.byContradiction fun hc => ?_
      have hc : (ijS a k).2 = false := by cases hh : (ijS a k).2; rfl; exact absurd hh hc
      have mono : ∀ j, (ijS a (k + j)).2 = false := by
        intro j
        induction j with
        | zero => exact hc
        | succ j ih => rw [show k + (j + 1) = (k + j) + 1 from rfl]; simp [ijS, ih]
      have := mono (5 - k)
      rw [show k + (5 - k) = 5 by omega, hb] at this
      cases this
    refine cl2 5 (fun k => nI (ijS a k).1) (fun k hk rc hrc => ?_) (fun rc => br_end (Nat.le_refl 5) (by decide) h)
    exact step k hk rc (by rw [if_pos (Or.inl (all (k + 1) (by omega)))]; exact hrc) (all k (by omega))
  | false =>
    rw [hb] at h
    obtain ⟨k0, hk0, hall, hbad⟩ := first_bad (s := fun k => (ijS a k).2) 5 rfl hb
    refine cl2 k0 (fun k => nI (ijS a k).1) (fun k hk rc hrc => ?_) (fun rc => ?_)
    · exact step k (by omega) rc (by rw [if_pos (Or.inl (hall (k + 1) (by omega)))]; exact hrc) (hall k (by omega))
    · exact step k0 hk0 rc (by rw [if_neg (by simp [hbad, hall k0 (Nat.le_refl _)])]; exact h) (hall k0 (Nat.le_refl _))
theorem isMap1 {x : Int32} {Q : Int32 → Prop} (h : Q (bI (isMapI x))) : wp_X1_isMap x Q := by
  refine ⟨fun c => ?_, fun c => ⟨fun c2 => ?_, fun c2 => ?_⟩⟩
  · have : isMapI x = false := by simp [isMapI, inN, c]
    rw [this] at h; exact h
  · have : isMapI x = false := by
      have : nI 7775 < x := Int32.lt_of_lt_of_le (by decide) c2
      simp [isMapI, inN, this]
    rw [this] at h; exact h
  · obtain ⟨k, hk, rfl⟩ := nI_of c
    have hlt : k < 7776 := by
      refine Nat.lt_of_not_le fun hc => c2 ?_
      exact nI_le (a := 7776) hc hk
    refine inj1 hlt ?_
    have e : isMapI (nI k) = isMapN k := by
      rw [isMapI, inN_nI (by omega) (by decide), cl_nI hk]
      rfl
    rw [e] at h
    refine ⟨fun c => ?_, fun c => ?_⟩
    · rw [(bI_0 _).mp c] at h; exact h
    · rw [(bI_n0 _).mp c] at h; exact h
