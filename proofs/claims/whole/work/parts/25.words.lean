/-! PURE 6: word, value, rule, images, count -/
def ltr (x : Int32) : Option Nat := if x = 88 then some 1 else if x = 89 then some 3 else if x = 90 then some 5 else if x = 120 then some 0 else if x = 121 then some 2 else if x = 122 then some 4 else none
def ltI (o : Option Nat) (d : Int32) : Int32 := match o with
  | some l => nI l
  | none => d
theorem ltr_lt {x : Int32} {l : Nat} (h : ltr x = some l) : l < 6 := by
  unfold ltr at h
  repeat' split at h
  all_goals first | cases h; decide | cases h
theorem letter7 {x : Int32} {Q : Int32 → Prop} (h : Q (ltI (ltr x) (-1))) : wp_X7_letterOf x Q := by
  refine ⟨fun c => ?_, fun c => ?_, fun c => ?_, fun c => ?_, fun c => ?_, fun c => ?_, fun c0 c1 c2 c3 c4 c5 => ?_⟩
  · subst c; exact h
  · subst c; exact h
  · subst c; exact h
  · subst c; exact h
  · subst c; exact h
  · subst c; exact h
  · have : ltr x = none := by unfold ltr; rw [if_neg c0, if_neg c1, if_neg c2, if_neg c3, if_neg c4, if_neg c5]
    rw [this] at h
    exact h
theorem in3 {x : Int32} {a : Nat} (ha : a < 2 ^ 30) (h1 : ¬ x < nI a) (h2 : ¬ nI (a + 2) < x) : x = nI a ∨ x = nI (a + 1) ∨ x = nI (a + 2) := by
  have h0 : ¬ x < 0 := fun c => h1 (Int32.lt_of_lt_of_le c (nn_nI (by omega)))
  obtain ⟨k, hk, rfl⟩ := nI_of h0
  have l1 : a ≤ k := Nat.le_of_not_lt fun c => h1 (nI_lt c (by omega))
  have l2 : k ≤ a + 2 := Nat.le_of_not_lt fun c => h2 (nI_lt c hk)
  rcases (show k = a ∨ k = a + 1 ∨ k = a + 2 by omega) with rfl | rfl | rfl
  · exact Or.inl rfl
  · exact Or.inr (Or.inl rfl)
  · exact Or.inr (Or.inr rfl)
theorem letter8 {x : Int32} {Q : Int32 → Prop} (h : Q (ltI (ltr x) (-6))) : wp_X8_letterOf x Q := by
  refine in_wp (brb' (fun e => in_wp (brb' (fun e2 => ?_) (fun e2 => ?_))) (fun e => ?_))
  · have : ltr x = none := by
      unfold ltr
      split
      · rename_i c; subst c; exact absurd e2 (by decide)
      split
      · rename_i c; subst c; exact absurd e2 (by decide)
      split
      · rename_i c; subst c; exact absurd e2 (by decide)
      split
      · rename_i c; subst c; exact absurd e (by decide)
      split
      · rename_i c; subst c; exact absurd e (by decide)
      split
      · rename_i c; subst c; exact absurd e (by decide)
      · rfl
    rw [this] at h
    exact h
  · simp only [decide_eq_true_eq] at e2
    rcases in3 (a := 88) (by decide) e2.1 e2.2 with rfl | rfl | rfl
    · exact h
    · exact h
    · exact h
  · simp only [decide_eq_true_eq] at e
    rcases in3 (a := 120) (by decide) e.1 e.2 with rfl | rfl | rfl
    · exact h
    · exact h
    · exact h
theorem vaup_s {α : Type} {f : Nat → α} {k : Nat} {v : α} : va_up f k v k = v := va_up_self f k v
theorem vaup_n {α : Type} {f : Nat → α} {k j : Nat} {v : α} (h : j ≠ k) : va_up f k v j = f j := va_up_ne f v h
section WORDOP
variable {sl : AR} {wl : Nat → AR} {wn rt : AR} {rl : Nat → AR} {rn st : AR}
/-- the class's letters as they are written -/
def wlF (wl : Nat → AR) (j : Nat) (lt : Nat → Nat) : Nat → Nat → AR
  | 0 => wl
  | k + 1 => va_up (wlF wl j lt k) j (upd (wlF wl j lt k j) k (nI (lt k)))
theorem wlF_n {wl : Nat → AR} {j : Nat} {lt : Nat → Nat} {w : Nat} (h : w ≠ j) : ∀ k, wlF wl j lt k w = wl w
  | 0 => rfl
  | k + 1 => by rw [wlF, vaup_n h]; exact wlF_n h k
theorem wlF_s {wl : Nat → AR} {j : Nat} {lt : Nat → Nat} : ∀ k i, i < k → wlF wl j lt k j i = nI (lt i)
  | 0, i, h => absurd h (Nat.not_lt_zero i)
  | k + 1, i, h => by
    rw [wlF, vaup_s]
    by_cases e : i = k
    · subst e; exact upd_s
    · rw [upd_n e]; exact wlF_s k i (by omega)
def stF (st : AR) (b : Nat) (lt : Nat → Nat) : Nat → AR
  | 0 => st
  | k + 1 => upd (stF st b lt k) (b + k) (nI (lt k))
theorem stF_n {st : AR} {b : Nat} {lt : Nat → Nat} {i : Nat} : ∀ k, (i < b ∨ b + k ≤ i) → stF st b lt k i = st i
  | 0, _ => rfl
  | k + 1, h => by rw [stF, upd_n (by omega)]; exact stF_n k (by omega)
theorem stF_s {st : AR} {b : Nat} {lt : Nat → Nat} : ∀ k i, i < k → stF st b lt k (b + i) = nI (lt i)
  | 0, i, h => absurd h (Nat.not_lt_zero i)
  | k + 1, i, h => by
    rw [stF]
    by_cases e : i = k
    · subst e; exact upd_s
    · rw [upd_n (by omega)]; exact stF_s k i (by omega)
theorem RSt.word (h : RSt sl wl wn rt rl rn st) {j n : Nat} (hj : j < 4) (hn : n ≤ 12) {lt : Nat → Nat} (hl : ∀ k, k < n → lt k < 6) : RSt sl (wlF wl j lt n) (va_up wn j (nI n)) rt rl rn (upd (stF st (10 + 12 * j) lt n) (6 + j) (nI n)) := by
  obtain ⟨h1, h2, h3, h4⟩ := h
  refine ⟨fun i hi => ?_, fun w hw => ?_, fun r hr => ?_, fun d hd => ?_⟩
  · rw [upd_n (by omega), stF_n n (by omega)]
    exact h1 i hi
  · by_cases e : w = j
    · subst e
      refine ⟨n, hn, vaup_s, upd_s, fun k hk => ⟨lt k, hl k hk, wlF_s n k hk, ?_⟩⟩
      exact (upd_n (by omega)).trans (stF_s n k hk)
    · rw [wlF_n e, vaup_n e]
      exact (h2 w hw).congr (fun _ _ => rfl) (fun k hk => by rw [upd_n (by omega), stF_n n (by omega)]) rfl (by rw [upd_n (by omega), stF_n n (by omega)])
  · rw [upd_n (by omega), stF_n n (by omega)]
    exact h3 r hr
  · exact (h4 d hd).congr (fun _ _ => rfl) (fun k hk => by rw [upd_n (by omega), stF_n n (by omega)]) rfl (by rw [upd_n (by omega), stF_n n (by omega)])
theorem word_ok (h : RSt sl wl wn rt rl rn st) {sg sd : Int32} {hp mp : AR} (hpad : RPad sg hp sd mp) (y0 : Int32) {R : Int32 → (Nat → AR) → AR → Int32 → AR → Prop} (hR : ∀ sg' wl' wn' sd' st', RSt sl wl' wn' rt rl rn st' → RPad sg' hp sd' mp → R sg' wl' wn' sd' st') : wp_X7_word y0 sg wl wn hp (fun r1 sg' wl' wn' => wp_X8_word y0 sd st mp (fun r2 sd' st' => r1 = r2 ∧ R sg' wl' wn' sd' st')) := by
  obtain ⟨n, hn, rfl, rfl, hk⟩ := hpad
  have hpad : RPad (nI n) hp (nI n) mp := ⟨n, hn, rfl, rfl, hk⟩
  refine word7 (brb (fun e => ?_) (fun e => word8 (brb (fun e3 => by rw [e] at e3; cases e3) (fun _ => ⟨rfl, hR _ _ _ _ _ h hpad⟩))))
  obtain ⟨j, hj, rfl⟩ := inN_t e (by decide)
  by_cases hg : ∀ k, k < n → (ltr (hp k)).isSome = true
  · -- every sign is a letter
    obtain ⟨lt, hlt⟩ : ∃ lt : Nat → Nat, ∀ k, k < n → ltr (hp k) = some (lt k) := ⟨fun k => (ltr (hp k)).getD 0, fun k hk1 => by
      obtain ⟨l, hl⟩ := Option.isSome_iff_exists.mp (hg k hk1)
      simp only [hl, Option.getD_some]⟩
    have hl6 : ∀ k, k < n → lt k < 6 := fun k hk1 => ltr_lt (hlt k hk1)
    have into : wp_X8_word (nI j) (nI n) st mp (fun r2 sd' st' => nI n = r2 ∧ R 0 (wlF wl j lt n) (va_up wn j (nI n)) sd' st') := by
      refine word8 (brb (fun _ => ?_) (fun e3 => by rw [e] at e3; cases e3))
      refine cl1 n (fun k hk1 rc hrc => ?_) (fun rc => ?_)
      · refine br_ge hk1 (by omega) ⟨vp_in_nI (by omega) (by decide), ?_⟩
        rw [cl_nI (by omega), ← hk k hk1]
        refine letter8 ?_
        rw [hlt k hk1]
        refine ⟨fun _ x ex => by subst ex; exact hrc, fun c => absurd (nn_nI (by have := hl6 k hk1; omega)) c⟩
      · refine br_end (Nat.le_refl n) (by omega) ?_
        refine cl2' n (fun k => stF st (10 + 12 * j) lt k) (fun k hk1 rc hrc => ?_) (fun rc => ?_)
        · refine br_ge hk1 (by omega) ⟨vp_in_nI (by omega) (by decide), ?_⟩
          rw [cl_nI (by omega), ← hk k hk1]
          refine letter8 ?_
          rw [hlt k hk1]
          have ei : ((10 : Int32) + (12 : Int32) * nI j) + nI k = nI (10 + 12 * j + k) := by
            rw [show (12 : Int32) = nI 12 from rfl, show (10 : Int32) = nI 10 from rfl, pk_mul, nI_add, nI_add]
          rw [ei, cl_nI (by omega)]
          refine ⟨vp_in_nI (by omega) (by decide), fun x ex => ?_⟩
          subst ex
          exact hrc
        · refine br_end (Nat.le_refl n) (by omega) ?_
          rw [i6, nI_add, cl_nI (by omega)]
          refine ⟨vp_in_nI (by omega) (by decide), vp_in_nI (by omega) (by decide), upd_s.symm, hR _ _ _ _ _ (h.word (by omega) hn hl6) ⟨0, by omega, rfl, rfl, fun k hk1 => absurd hk1 (Nat.not_lt_zero k)⟩⟩
    refine cl1 n (fun k hk1 rc hrc => ?_) (fun rc => ?_)
    · refine br_ge hk1 (by omega) ⟨vp_in_nI (by omega) (by decide), ?_⟩
      rw [cl_nI (by omega)]
      refine letter7 ?_
      rw [hlt k hk1]
      refine ⟨fun _ x ex => by subst ex; exact hrc, fun c => absurd (nn_nI (by have := hl6 k hk1; omega)) c⟩
    · refine br_end (Nat.le_refl n) (by omega) ⟨vp_in_nI (by omega) (by decide), fun jj hjj ejj => ?_⟩
      obtain rfl : jj = j := ((nI_eq (by omega) (by omega)).mp ejj).symm
      refine cl2' n (fun k => wlF wl jj lt k) (fun k hk1 rc hrc => ?_) (fun rc => br_end (Nat.le_refl n) (by omega) into)
      refine br_ge hk1 (by omega) ⟨vp_in_nI (by omega) (by decide), ?_⟩
      rw [cl_nI (by omega)]
      refine letter7 ?_
      rw [hlt k hk1]
      refine ⟨vp_in_nI (by omega) (by decide), fun x ex => ?_⟩
      subst ex
      exact hrc
  · -- the first sign that is none
    have hbad : ∃ k, k < n ∧ (ltr (hp k)).isSome = false := by
      refine Classical.byContradiction fun hc => hg fun k hk1 => ?_
      cases hh : (ltr (hp k)).isSome with
      | true => rfl
      | false => exact absurd ⟨k, hk1, hh⟩ hc
    obtain ⟨k0, ⟨hk0, hb0⟩, hl0⟩ := pk_least (fun k => k < n ∧ (ltr (hp k)).isSome = false) hbad
    have hgood : ∀ k, k < k0 → ∃ l, ltr (hp k) = some l := fun k hk1 => by
      refine Option.isSome_iff_exists.mp ?_
      cases hh : (ltr (hp k)).isSome with
      | true => rfl
      | false => exact absurd ⟨by omega, hh⟩ (hl0 k hk1)
    have hnone : ltr (hp k0) = none := by
      cases hh : ltr (hp k0) with
      | none => rfl
      | some l => rw [hh] at hb0; cases hb0
    have into : wp_X8_word (nI j) (nI n) st mp (fun r2 sd' st' => (-7) = r2 ∧ R (nI n) wl wn sd' st') := by
      refine word8 (brb (fun _ => ?_) (fun e3 => by rw [e] at e3; cases e3))
      refine cl1 k0 (fun k hk1 rc hrc => ?_) (fun rc => ?_)
      · refine br_ge (N := n) (by omega) (by omega) ⟨vp_in_nI (by omega) (by decide), ?_⟩
        rw [cl_nI (by omega), ← hk k (by omega)]
        obtain ⟨l, hl⟩ := hgood k hk1
        refine letter8 ?_
        rw [hl]
        exact ⟨fun _ x ex => by subst ex; exact hrc, fun c => absurd (nn_nI (by have := ltr_lt hl; omega)) c⟩
      · refine br_ge (N := n) (by omega) (by omega) ⟨vp_in_nI (by omega) (by decide), ?_⟩
        rw [cl_nI (by omega), ← hk k0 (by omega)]
        refine letter8 ?_
        rw [hnone]
        exact ⟨fun c => absurd c (by decide), fun _ => ⟨rfl, hR _ _ _ _ _ h hpad⟩⟩
    refine cl1 k0 (fun k hk1 rc hrc => ?_) (fun rc => ?_)
    · refine br_ge (N := n) (by omega) (by omega) ⟨vp_in_nI (by omega) (by decide), ?_⟩
      rw [cl_nI (by omega)]
      obtain ⟨l, hl⟩ := hgood k hk1
      refine letter7 ?_
      rw [hl]
      exact ⟨fun _ x ex => by subst ex; exact hrc, fun c => absurd (nn_nI (by have := ltr_lt hl; omega)) c⟩
    · refine br_ge (N := n) (by omega) (by omega) ⟨vp_in_nI (by omega) (by decide), ?_⟩
      rw [cl_nI (by omega)]
      refine letter7 ?_
      rw [hnone]
      exact ⟨fun c => absurd c (by decide), fun _ => into⟩
/-! letters as maps -/
/-- the numbers that slots hold -/
theorem RSt.nums (h : RSt sl wl wn rt rl rn st) : ∃ A : Nat → Nat, ∀ i, i < 6 → VM (A i) ∧ sl i = nI (A i) ∧ st i = nI (A i) := by
  refine ⟨fun i => (sl i).toNatClampNeg, fun i hi => ?_⟩
  obtain ⟨a, va, h1, h2⟩ := h.1 i hi
  show VM (sl i).toNatClampNeg ∧ sl i = nI (sl i).toNatClampNeg ∧ st i = nI (sl i).toNatClampNeg
  rw [h1, cl_nI (by have := va.1; omega)]
  exact ⟨va, rfl, h2⟩
def lm (A : Nat → Nat) (l : Nat) : Nat := if l % 2 = 0 then A (l / 2) else invN (A (l / 2))
theorem lm_VM {A : Nat → Nat} (hA : ∀ i, i < 6 → VM (A i)) {l : Nat} (hl : l < 12) : VM (lm A l) := by
  unfold lm
  split
  · exact hA _ (by omega)
  · exact (hA _ (by omega)).inv
theorem sh1 : ∀ l, l < 6 → nI l >>> ((1 : Int32) &&& 31) = nI (l / 2) := by decide
theorem an1 : ∀ l, l < 6 → nI l &&& 1 = nI (l % 2) := by decide
theorem dv2 : ∀ l, l < 6 → nI l / 2 = nI (l / 2) := by decide
theorem rm2 : ∀ l, l < 6 → nI l - nI l / 2 * 2 = nI (l % 2) := by decide
theorem ofLetter1 {A : Nat → Nat} {f : AR} (hA : ∀ i, i < 6 → VM (A i) ∧ f i = nI (A i)) {l : Nat} (hl : l < 6) {Q : Int32 → Prop} (h : Q (nI (lm A l))) : wp_X1_ofLetter (nI l) f Q := by
  unfold wp_X1_ofLetter
  rw [sh1 l hl, an1 l hl, cl_nI (by omega)]
  obtain ⟨va, e⟩ := hA (l / 2) (by omega)
  refine ⟨vp_in_nI (by omega) (by decide), fun x ex => ?_⟩
  rw [e] at ex
  subst ex
  refine ⟨fun c => inv1 va.1 ?_, fun c => ?_⟩
  · have : ¬ l % 2 = 0 := fun z => c (by rw [z]; rfl)
    rw [lm, if_neg this] at h
    exact h
  · have : l % 2 = 0 := (nI_eq (by omega) (by decide)).mp c
    rw [lm, if_pos this] at h
    exact h
theorem mapOf8 {A : Nat → Nat} {f : AR} (hA : ∀ i, i < 6 → VM (A i) ∧ f i = nI (A i)) {l : Nat} (hl : l < 6) {Q : Int32 → Prop} (h : Q (nI (lm A l))) : wp_X8_mapOf (nI l) f Q := by
  unfold wp_X8_mapOf
  rw [rm2 l hl, dv2 l hl, z0, cl_nI (by omega)]
  obtain ⟨va, e⟩ := hA (l / 2) (by omega)
  refine ⟨vp_in_nI (by omega) (by decide), fun x ex => ?_⟩
  rw [e] at ex
  subst ex
  refine ⟨fun c => inv8 va.1 ?_, fun c => ?_⟩
  · have : ¬ l % 2 = 0 := fun z => c (by rw [z]; rfl)
    rw [lm, if_neg this] at h
    exact h
  · have : l % 2 = 0 := (nI_eq (by omega) (by decide)).mp c
    rw [lm, if_pos this] at h
    exact h
def vS (A : Nat → Nat) (w : Nat → Nat) : Nat → Nat
  | 0 => 7465
  | k + 1 => thenN (vS A w k) (lm A (w k))
theorem vS_VM {A w : Nat → Nat} (hA : ∀ i, i < 6 → VM (A i)) : ∀ k, (∀ i, i < k → w i < 6) → VM (vS A w k)
  | 0, _ => VM.id
  | k + 1, h => (vS_VM hA k (fun i hi => h i (by omega))).then (lm_VM hA (by have := h k (by omega); omega))
/-- a word's letters as numbers -/
theorem WR.nums {f g : AR} {c d : Int32} (h : WR f c g d) : ∃ (n : Nat) (w : Nat → Nat), n ≤ 12 ∧ c = nI n ∧ d = nI n ∧ ∀ k, k < n → w k < 6 ∧ f k = nI (w k) ∧ g k = nI (w k) := by
  obtain ⟨n, h1, h2, h3, h4⟩ := h
  refine ⟨n, fun k => (f k).toNatClampNeg, h1, h2, h3, fun k hk => ?_⟩
  obtain ⟨l, e1, e2, e3⟩ := h4 k hk
  show (f k).toNatClampNeg < 6 ∧ f k = nI (f k).toNatClampNeg ∧ g k = nI (f k).toNatClampNeg
  rw [e2, cl_nI (by omega)]
  exact ⟨e1, rfl, e3⟩
theorem value_ok (h : RSt sl wl wn rt rl rn st) (y0 y1 : Int32) {R : AR → AR → Prop} (hR : ∀ sl' st', RSt sl' wl wn rt rl rn st' → R sl' st') : wp_X7_value y0 y1 sl wl wn (fun r1 sl' => wp_X8_value y0 y1 st (fun r2 st' => r1 = r2 ∧ R sl' st')) := by
  refine slot7 (brb' (fun e0 => ?_) (fun e0 => word7 (brb (fun e1 => ?_) (fun e1 => ?_))))
  · exact slot8 (brb' (fun _ => ⟨rfl, hR _ _ h⟩) (fun e3 => by rw [e0] at e3; cases e3))
  · obtain ⟨k0, hk0, rfl⟩ := inN_t e0 (by decide)
    obtain ⟨j, hj, rfl⟩ := inN_t e1 (by decide)
    obtain ⟨A, hA⟩ := h.nums
    obtain ⟨n, w, hn, en, en2, hw⟩ := (h.2.1 j (by omega)).nums
    have v := vS_VM (A := A) (w := w) (fun i hi => (hA i hi).1)
    have into : wp_X8_value (nI k0) (nI j) st (fun r2 st' => nI (rankN (vS A w n)) = r2 ∧ R (upd sl k0 (nI (vS A w n))) st') := by
      refine slot8 (brb' (fun e3 => by rw [e0] at e3; cases e3) (fun _ => word8 (brb (fun _ => same_wp ?_) (fun e3 => by rw [e1] at e3; cases e3))))
      refine cl2 n (fun k => nI (vS A w k)) (fun k hk1 rc hrc => ?_) (fun rc => ?_)
      · have ei : ((10 : Int32) + (12 : Int32) * nI j) + nI k = nI (10 + 12 * j + k) := by
          rw [show (12 : Int32) = nI 12 from rfl, show (10 : Int32) = nI 10 from rfl, pk_mul, nI_add, nI_add]
        unfold wb_X8_value_23
        rw [i6, nI_add, cl_nI (by omega), en2, ei, cl_nI (by omega), (hw k hk1).2.2]
        refine ⟨vp_in_nI (by omega) (by decide), br_ge hk1 (by omega) ⟨vp_in_nI (by omega) (by decide), mapOf8 (fun i hi => ⟨(hA i hi).1, (hA i hi).2.2⟩) (hw k hk1).1 (then8 (v k (fun i hi => (hw i (by omega)).1)).1 (lm_VM (fun i hi => (hA i hi).1) (by have := (hw k hk1).1; omega)).1 (fun x ex => ?_))⟩⟩
        subst ex
        exact hrc
      · unfold wb_X8_value_23
        rw [i6, nI_add, cl_nI (by omega), en2]
        exact ⟨vp_in_nI (by omega) (by decide), br_end (Nat.le_refl n) (by omega) (hold8 (by omega) (v n (fun i hi => (hw i hi).1)).1 ⟨rfl, hR _ _ (h.slot (by omega) (v n (fun i hi => (hw i hi).1)))⟩)⟩
    refine ⟨vp_in_nI (by omega) (by decide), fun jj hjj ejj => ?_⟩
    obtain rfl : jj = j := ((nI_eq (by omega) (by omega)).mp ejj).symm
    refine cl2 n (fun k => nI (vS A w k)) (fun k hk1 rc hrc => ?_) (fun rc => ?_)
    · unfold wb_X7_value_34
      rw [en, cl_nI (by omega), (hw k hk1).2.1]
      refine br_ge hk1 (by omega) ⟨vp_in_nI (by omega) (by decide), ofLetter1 (fun i hi => ⟨(hA i hi).1, (hA i hi).2.1⟩) (hw k hk1).1 (then1 (v k (fun i hi => (hw i (by omega)).1)).1 (lm_VM (fun i hi => (hA i hi).1) (by have := (hw k hk1).1; omega)).1 (fun x ex => ?_))⟩
      subst ex
      exact hrc
    · unfold wb_X7_value_34
      rw [en]
      exact br_end (Nat.le_refl n) (by omega) (hold7 (by omega) (v n (fun i hi => (hw i hi).1)).1 into)
  · exact slot8 (brb' (fun e3 => by rw [e0] at e3; cases e3) (fun _ => word8 (brb (fun e3 => by rw [e1] at e3; cases e3) (fun _ => ⟨rfl, hR _ _ h⟩))))
end WORDOP
