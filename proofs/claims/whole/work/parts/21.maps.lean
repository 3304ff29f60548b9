/-! PURE 2: the functions over maps, of the class and of the reference, as functions of numbers -/
def bI (b : Bool) : Int32 := if b then 1 else 0
theorem bI_B (b : Bool) : isB (bI b) := by cases b; exact Or.inl rfl; exact Or.inr rfl
def thF (a b p : Nat) : Nat := if dg a p = 0 then 0 else dg b (dg a p - 1)
def thenN (a b : Nat) : Nat := mk5 (thF a b)
def meF (a b p : Nat) : Nat := if dg a p = dg b p then dg a p else 0
def meetN (a b : Nat) : Nat := mk5 (meF a b)
def doF (a p : Nat) : Nat := if dg a p = 0 then 0 else p + 1
def domN (a : Nat) : Nat := mk5 (doF a)
def joF (a b p : Nat) : Nat := if dg a p = 0 then dg b p else dg a p
def joinN (a b : Nat) : Nat := mk5 (joF a b)
def ivS (a : Nat) : Nat → Nat
  | 0 => 0
  | k + 1 => ivS a k + (if dg a k = 0 then 0 else (k + 1) * 6 ^ (dg a k - 1))
def invN (a : Nat) : Nat := ivS a 5
def rkS (a : Nat) : Nat → Nat
  | 0 => 0
  | k + 1 => rkS a k + (if dg a k = 0 then 0 else 1)
def rankN (a : Nat) : Nat := rkS a 5
def idS (a : Nat) : Nat → Bool
  | 0 => true
  | k + 1 => idS a k && (dg a k == 0 || dg a k == k + 1)
def idemN (a : Nat) : Bool := idS a 5
def blS (a b : Nat) : Nat → Bool
  | 0 => true
  | k + 1 => blS a b k && (dg a k == 0 || dg a k == dg b k)
def belN (a b : Nat) : Bool := blS a b 5
/-- sets of points as masks -/
def dpS (a : Nat) : Nat → Nat
  | 0 => 0
  | k + 1 => if dg a k = 0 then dpS a k else dpS a k ||| 2 ^ k
def dpN (a : Nat) : Nat := dpS a 5
def rpS (a : Nat) : Nat → Nat
  | 0 => 0
  | k + 1 => if dg a k = 0 then rpS a k else rpS a k ||| 2 ^ (dg a k - 1)
def rpN (a : Nat) : Nat := rpS a 5
def fpS (a : Nat) : Nat → Nat
  | 0 => 0
  | k + 1 => if dg a k = k + 1 then fpS a k ||| 2 ^ k else fpS a k
def fpN (a : Nat) : Nat := fpS a 5
/-- the reference's look at a number: the mask so far, and whether all went well -/
def imS (a : Nat) : Nat → Nat × Bool
  | 0 => (0, true)
  | k + 1 => (if dg a k = 0 then (imS a k).1 else (imS a k).1 ||| 2 ^ (dg a k - 1), (imS a k).2 && (dg a k == 0 || ((imS a k).1 / 2 ^ (dg a k - 1)) % 2 == 0))
def isMapN (a : Nat) : Bool := (imS a 5).2
/-- the class's look: the mask of digits so far, or out -/
def ijS (a : Nat) : Nat → Nat × Bool
  | 0 => (0, true)
  | k + 1 => ((ijS a k).1 ||| 2 ^ dg a k, (ijS a k).2 && (dg a k == 0 || !((ijS a k).1 / 2 ^ dg a k % 2 == 1)))
/-! bounds -/
theorem thF_lt (a b p : Nat) : thF a b p < 6 := by unfold thF; split; omega; exact dg_lt _ _
theorem meF_lt (a b p : Nat) : meF a b p < 6 := by unfold meF; split; exact dg_lt _ _; omega
theorem doF_lt (a p : Nat) (hp : p < 5) : doF a p < 6 := by unfold doF; split <;> omega
theorem joF_lt (a b p : Nat) : joF a b p < 6 := by unfold joF; split <;> exact dg_lt _ _
theorem thenN_lt (a b : Nat) : thenN a b < 7776 := mk5_lt (fun p _ => thF_lt a b p)
theorem meetN_lt (a b : Nat) : meetN a b < 7776 := mk5_lt (fun p _ => meF_lt a b p)
theorem domN_lt (a : Nat) : domN a < 7776 := mk5_lt (fun p hp => doF_lt a p hp)
theorem joinN_lt (a b : Nat) : joinN a b < 7776 := mk5_lt (fun p _ => joF_lt a b p)
theorem mask_lt {s t : Nat} (h : s < 32) (h2 : t < 5) : s ||| 2 ^ t < 32 := Nat.or_lt_two_pow (n := 5) h (Nat.pow_lt_pow_right (by decide) h2)
theorem dpS_lt (a : Nat) : ∀ k, k ≤ 5 → dpS a k < 32
  | 0, _ => by simp [dpS]
  | k + 1, h => by
    have ih := dpS_lt a k (by omega)
    unfold dpS
    split
    · exact ih
    · exact mask_lt ih (by omega)
theorem fpS_lt (a : Nat) : ∀ k, k ≤ 5 → fpS a k < 32
  | 0, _ => by simp [fpS]
  | k + 1, h => by
    have ih := fpS_lt a k (by omega)
    unfold fpS
    split
    · exact mask_lt ih (by omega)
    · exact ih
theorem rpS_lt (a : Nat) : ∀ k, k ≤ 5 → rpS a k < 32
  | 0, _ => by simp [rpS]
  | k + 1, h => by
    have ih := rpS_lt a k (by omega)
    have := dg_lt a k
    unfold rpS
    split
    · exact ih
    · exact mask_lt ih (by omega)
theorem imS_lt (a : Nat) : ∀ k, k ≤ 5 → (imS a k).1 < 32
  | 0, _ => by simp [imS]
  | k + 1, h => by
    have ih := imS_lt a k (by omega)
    have := dg_lt a k
    simp only [imS]
    split
    · exact ih
    · exact mask_lt ih (by omega)
theorem ijS_lt (a : Nat) : ∀ k, k ≤ 5 → (ijS a k).1 < 64
  | 0, _ => by simp [ijS]
  | k + 1, h => by
    have ih := ijS_lt a k (by omega)
    have := dg_lt a k
    simp only [ijS]
    exact Nat.or_lt_two_pow (n := 6) ih (Nat.pow_lt_pow_right (by decide) this)
theorem p6le {d : Nat} (h : d < 5) : 6 ^ d ≤ 1296 := lt5 (P := fun d => 6 ^ d ≤ 1296) (by decide) (by decide) (by decide) (by decide) (by decide) d h
set_option maxRecDepth 100000 in
theorem ivS_lt (a : Nat) : ∀ k, k ≤ 5 → ivS a k ≤ k * 6480
  | 0, _ => by simp [ivS]
  | k + 1, h => by
    have ih := ivS_lt a k (by omega)
    have hd := dg_lt a k
    unfold ivS
    split
    · omega
    · have h6 := p6le (d := dg a k - 1) (by omega)
      have : (k + 1) * 6 ^ (dg a k - 1) ≤ 5 * 1296 := Nat.mul_le_mul (by omega) h6
      omega
/-! small facts of machine numbers, by looking at all -/
theorem or5 : ∀ s, s < 32 → ∀ p, p < 5 → nI s ||| ((1 : Int32) <<< (nI p &&& 31)) = nI (s ||| 2 ^ p) := by decide +kernel
theorem or6 : ∀ s, s < 64 → ∀ p, p < 6 → nI s ||| ((1 : Int32) <<< (nI p &&& 31)) = nI (s ||| 2 ^ p) := by decide +kernel
theorem bit5 : ∀ s, s < 32 → ∀ p, p < 5 → (nI s >>> (nI p &&& 31) &&& 1) = nI (s / 2 ^ p % 2) := by decide +kernel
theorem bit6 : ∀ s, s < 64 → ∀ p, p < 6 → (nI s >>> (nI p &&& 31) &&& 1) = nI (s / 2 ^ p % 2) := by decide +kernel
theorem pdm (d p : Nat) (hd : d < 6) (h : d ≠ 0) : nI d - 1 = nI (d - 1) := dm_pos d hd h
/-! the reference -/
theorem then8 {a b : Nat} (ha : a < 7776) (hb : b < 7776) {Q : Int32 → Prop} (h : Q (nI (thenN a b))) : wp_X8_then (nI a) (nI b) Q := by
  unfold wp_X8_then
  refine cl2 5 (fun k => nI (ps (thF a b) k)) (fun k hk rc hrc => ?_) (fun rc => ?_)
  · refine br_ge hk (by decide) (to_wp ha hk ?_)
    have hd := dg_lt a k
    refine ⟨fun c => ?_, fun c => ?_⟩
    · have h0 := (dm_neg _ hd).mp c
      intro x e
      subst e
      have : ps (thF a b) (k + 1) = ps (thF a b) k := by simp [ps, thF, h0]
      rw [this] at hrc
      exact hrc
    · have h0 : dg a k ≠ 0 := fun z => c ((dm_neg _ hd).mpr z)
      rw [pdm _ 0 hd h0]
      refine to_wp hb (by omega) ?_
      have hd2 := dg_lt b (dg a k - 1)
      refine ⟨fun c2 => ?_, fun c2 => ?_⟩
      · have h2 := (dm_neg _ hd2).mp c2
        intro x e
        subst e
        have : ps (thF a b) (k + 1) = ps (thF a b) k := by simp [ps, thF, h0, h2]
        rw [this] at hrc
        exact hrc
      · have h2 : dg b (dg a k - 1) ≠ 0 := fun z => c2 ((dm_neg _ hd2).mpr z)
        refine to_wp hb (by omega) ?_
        rw [pdm _ 0 hd2 h2]
        refine put_wp hk ?_
        intro x e y e2
        subst e e2
        have : nI (ps (thF a b) k) + pw k * (nI (dg b (dg a k - 1) - 1) + 1) = nI (ps (thF a b) (k + 1)) := by
          rw [pw_nI hk, nI_1, pk_mul, nI_add]
          simp only [ps, thF, if_neg h0]
          rw [Nat.sub_add_cancel (by omega), Nat.mul_comm]
        rw [this]
        exact hrc
  · refine br_end (Nat.le_refl 5) (by decide) ?_
    rw [ps5]
    exact h
theorem then1 {a b : Nat} (ha : a < 7776) (hb : b < 7776) {Q : Int32 → Prop} (h : Q (nI (thenN a b))) : wp_X1_then (nI a) (nI b) Q := by
  unfold wp_X1_then
  refine cl2 5 (fun k => nI (ps (thF a b) k)) (fun k hk rc hrc => ?_) (fun rc => ?_)
  · refine br_ge hk (by decide) (digit_wp ha hk ?_)
    have hd := dg_lt a k
    refine ⟨fun c => ?_, fun c => ?_⟩
    · have h0 := (d_le0 _ hd).mp c
      intro x e
      subst e
      have : ps (thF a b) (k + 1) = ps (thF a b) k := by simp [ps, thF, h0]
      rw [this] at hrc
      exact hrc
    · have h0 : dg a k ≠ 0 := fun z => c ((d_le0 _ hd).mpr z)
      rw [pdm _ 0 hd h0]
      refine digit_wp hb (by omega) ?_
      refine ⟨vp_in_nI hk (by decide), ?_⟩
      rw [cl_nI (by omega)]
      intro x e y e2
      subst e e2
      have : nI (ps (thF a b) k) + nI (dg b (dg a k - 1)) * pw k = nI (ps (thF a b) (k + 1)) := by
        rw [pw_nI hk, pk_mul, nI_add]
        simp only [ps, thF, if_neg h0]
      rw [this]
      exact hrc
  · refine br_end (Nat.le_refl 5) (by decide) ?_
    rw [ps5]
    exact h
theorem rank8 {a : Nat} (ha : a < 7776) {Q : Int32 → Prop} (h : Q (nI (rankN a))) : wp_X8_rank (nI a) Q := by
  unfold wp_X8_rank
  refine cl2 5 (fun k => nI (rkS a k)) (fun k hk rc hrc => ?_) (fun rc => br_end (Nat.le_refl 5) (by decide) h)
  refine br_ge hk (by decide) (to_wp ha hk ?_)
  have hd := dg_lt a k
  refine ⟨fun c => ?_, fun c => ?_⟩
  · have h0 := (dm_nn _ hd).mp c
    intro x e y e2
    subst e e2
    have : nI (rkS a k) + 1 = nI (rkS a (k + 1)) := by rw [nI_1]; simp [rkS, h0]
    rw [this]
    exact hrc
  · have h0 : dg a k = 0 := Classical.byContradiction fun z => c ((dm_nn _ hd).mpr z)
    intro x e y e2
    subst e e2
    have : nI (rkS a k) + 0 = nI (rkS a (k + 1)) := by rw [i0, nI_add]; simp [rkS, h0]
    rw [this]
    exact hrc
theorem inv8 {a : Nat} (ha : a < 7776) {Q : Int32 → Prop} (h : Q (nI (invN a))) : wp_X8_inverse (nI a) Q := by
  unfold wp_X8_inverse
  refine cl2 5 (fun k => nI (ivS a k)) (fun k hk rc hrc => ?_) (fun rc => br_end (Nat.le_refl 5) (by decide) h)
  refine br_ge hk (by decide) (to_wp ha hk ?_)
  have hd := dg_lt a k
  refine ⟨fun c => ?_, fun c => ?_⟩
  · have h0 := (dm_nn _ hd).mp c
    refine to_wp ha hk ?_
    rw [pdm _ 0 hd h0]
    refine put_wp (by omega) ?_
    intro x e y e2
    subst e e2
    have : nI (ivS a k) + pw (dg a k - 1) * (nI k + 1) = nI (ivS a (k + 1)) := by
      rw [pw_nI (by omega), nI_1, pk_mul, nI_add]
      simp only [ivS, if_neg h0]
      rw [Nat.mul_comm]
    rw [this]
    exact hrc
  · have h0 : dg a k = 0 := Classical.byContradiction fun z => c ((dm_nn _ hd).mpr z)
    intro x e y e2
    subst e e2
    have : nI (ivS a k) + 0 = nI (ivS a (k + 1)) := by rw [i0, nI_add]; simp [ivS, h0]
    rw [this]
    exact hrc
theorem inv1 {a : Nat} (ha : a < 7776) {Q : Int32 → Prop} (h : Q (nI (invN a))) : wp_X1_inverse (nI a) Q := by
  unfold wp_X1_inverse
  refine cl2 5 (fun k => nI (ivS a k)) (fun k hk rc hrc => ?_) (fun rc => br_end (Nat.le_refl 5) (by decide) h)
  refine br_ge hk (by decide) (digit_wp ha hk ?_)
  have hd := dg_lt a k
  refine ⟨fun c => ?_, fun c => ?_⟩
  · have h0 := (d_le0 _ hd).mp c
    intro y e2
    subst e2
    have : nI (ivS a k) = nI (ivS a (k + 1)) := by simp [ivS, h0]
    rw [this]
    exact hrc
  · have h0 : dg a k ≠ 0 := fun z => c ((d_le0 _ hd).mpr z)
    rw [pdm _ 0 hd h0]
    refine ⟨vp_in_nI (by omega) (by decide), ?_⟩
    rw [cl_nI (by omega)]
    intro x e y e2
    subst e e2
    have : nI (ivS a k) + (nI k + 1) * pw (dg a k - 1) = nI (ivS a (k + 1)) := by
      rw [pw_nI (by omega), nI_1, pk_mul, nI_add]
      simp only [ivS, if_neg h0]
    rw [this]
    exact hrc
theorem dom8 {a : Nat} (ha : a < 7776) {Q : Int32 → Prop} (h : Q (nI (domN a))) : wp_X8_dom (nI a) Q := by
  unfold wp_X8_dom
  refine cl2 5 (fun k => nI (ps (doF a) k)) (fun k hk rc hrc => ?_) (fun rc => br_end (Nat.le_refl 5) (by decide) (by rw [ps5]; exact h))
  refine br_ge hk (by decide) (to_wp ha hk ?_)
  have hd := dg_lt a k
  refine ⟨fun c => ?_, fun c => ?_⟩
  · have h0 := (dm_nn _ hd).mp c
    refine put_wp hk ?_
    intro x e y e2
    subst e e2
    have : nI (ps (doF a) k) + pw k * (nI k + 1) = nI (ps (doF a) (k + 1)) := by
      rw [pw_nI hk, nI_1, pk_mul, nI_add]
      simp only [ps, doF, if_neg h0]
      rw [Nat.mul_comm]
    rw [this]
    exact hrc
  · have h0 : dg a k = 0 := Classical.byContradiction fun z => c ((dm_nn _ hd).mpr z)
    intro x e y e2
    subst e e2
    have : nI (ps (doF a) k) + 0 = nI (ps (doF a) (k + 1)) := by rw [i0, nI_add]; simp [ps, doF, h0]
    rw [this]
    exact hrc
theorem dom1 {a : Nat} (ha : a < 7776) {Q : Int32 → Prop} (h : Q (nI (domN a))) : wp_X1_dom (nI a) Q := by
  unfold wp_X1_dom
  refine cl2 5 (fun k => nI (ps (doF a) k)) (fun k hk rc hrc => ?_) (fun rc => br_end (Nat.le_refl 5) (by decide) (by rw [ps5]; exact h))
  refine br_ge hk (by decide) (digit_wp ha hk ?_)
  have hd := dg_lt a k
  refine ⟨fun c => ?_, fun c => ?_⟩
  · have h0 := (d_le0 _ hd).mp c
    intro y e2
    subst e2
    have : nI (ps (doF a) k) = nI (ps (doF a) (k + 1)) := by simp [ps, doF, h0]
    rw [this]
    exact hrc
  · have h0 : dg a k ≠ 0 := fun z => c ((d_le0 _ hd).mpr z)
    refine ⟨vp_in_nI (by omega) (by decide), ?_⟩
    rw [cl_nI (by omega)]
    intro x e y e2
    subst e e2
    have : nI (ps (doF a) k) + (nI k + 1) * pw k = nI (ps (doF a) (k + 1)) := by
      rw [pw_nI (by omega), nI_1, pk_mul, nI_add]
      simp only [ps, doF, if_neg h0]
    rw [this]
    exact hrc
theorem meet8 {a b : Nat} (ha : a < 7776) (hb : b < 7776) {Q : Int32 → Prop} (h : Q (nI (meetN a b))) : wp_X8_meet (nI a) (nI b) Q := by
  unfold wp_X8_meet
  refine cl2 5 (fun k => nI (ps (meF a b) k)) (fun k hk rc hrc => ?_) (fun rc => br_end (Nat.le_refl 5) (by decide) (by rw [ps5]; exact h))
  refine br_ge hk (by decide) (to_wp ha hk ?_)
  have hd := dg_lt a k
  have hd2 := dg_lt b k
  have zero : meF a b k = 0 → ∀ x y : Int32, x = nI (ps (meF a b) k) + 0 → y = nI k + 1 → rc x y := by
    intro z x y e e2
    subst e e2
    have : nI (ps (meF a b) k) + 0 = nI (ps (meF a b) (k + 1)) := by rw [i0, nI_add]; simp [ps, z]
    rw [this]
    exact hrc
  refine ⟨fun c => ?_, fun c => ?_⟩
  · have h0 := (dm_neg _ hd).mp c
    exact fun x e y e2 => zero (by unfold meF; split <;> omega) x y e e2
  · have h0 : dg a k ≠ 0 := fun z => c ((dm_neg _ hd).mpr z)
    refine to_wp ha hk (to_wp hb hk ⟨fun c2 => ?_, fun c2 => ?_⟩)
    · have h2 : dg a k ≠ dg b k := fun z => c2 ((dm_eq _ hd _ hd2).mpr z)
      exact fun x e y e2 => zero (by unfold meF; rw [if_neg h2]) x y e e2
    · have h2 := (dm_eq _ hd _ hd2).mp c2
      refine to_wp ha hk ?_
      rw [pdm _ 0 hd h0]
      refine put_wp hk ?_
      intro x e y e2
      subst e e2
      have : nI (ps (meF a b) k) + pw k * (nI (dg a k - 1) + 1) = nI (ps (meF a b) (k + 1)) := by
        rw [pw_nI hk, nI_1, pk_mul, nI_add]
        simp only [ps, meF, if_pos h2]
        rw [Nat.sub_add_cancel (by omega), Nat.mul_comm]
      rw [this]
      exact hrc
theorem meet1 {a b : Nat} (ha : a < 7776) (hb : b < 7776) {Q : Int32 → Prop} (h : Q (nI (meetN a b))) : wp_X1_meet (nI a) (nI b) Q := by
  unfold wp_X1_meet
  refine cl2 5 (fun k => nI (ps (meF a b) k)) (fun k hk rc hrc => ?_) (fun rc => br_end (Nat.le_refl 5) (by decide) (by rw [ps5]; exact h))
  refine br_ge hk (by decide) (digit_wp ha hk (digit_wp hb hk ?_))
  have hd := dg_lt a k
  have hd2 := dg_lt b k
  refine ⟨fun c => ?_, fun c => ?_⟩
  · have h2 : dg a k ≠ dg b k := fun z => c ((d_eq _ hd _ hd2).mpr z)
    intro y e2
    subst e2
    have : nI (ps (meF a b) k) = nI (ps (meF a b) (k + 1)) := by simp [ps, meF, h2]
    rw [this]
    exact hrc
  · have h2 := (d_eq _ hd _ hd2).mp c
    refine ⟨vp_in_nI (by omega) (by decide), ?_⟩
    rw [cl_nI (by omega)]
    intro x e y e2
    subst e e2
    have : nI (ps (meF a b) k) + nI (dg a k) * pw k = nI (ps (meF a b) (k + 1)) := by
      rw [pw_nI (by omega), pk_mul, nI_add]
      simp only [ps, meF, if_pos h2]
    rw [this]
    exact hrc
