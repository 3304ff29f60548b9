/-! PURE 8: images, count -/
theorem RSt.copy {sl sl2 : AR} {wl wl2 : Nat → AR} {wn rt wn2 rt2 : AR} {rl rl2 : Nat → AR} {rn st rn2 st2 : AR} (h : RSt sl wl wn rt rl rn st) (e1 : ∀ i, i < 6 → sl2 i = sl i) (e2 : ∀ w, w < 4 → ∀ k, k < 12 → wl2 w k = wl w k) (e3 : ∀ w, w < 4 → wn2 w = wn w) (e4 : ∀ r, r < 2 → rt2 r = rt r) (e5 : ∀ d, d < 4 → ∀ k, k < 12 → rl2 d k = rl d k) (e6 : ∀ d, d < 4 → rn2 d = rn d) (e7 : ∀ i, i < 112 → st2 i = st i) : RSt sl2 wl2 wn2 rt2 rl2 rn2 st2 := by
  obtain ⟨h1, h2, h3, h4⟩ := h
  refine ⟨fun i hi => ?_, fun w hw => ?_, fun r hr => ?_, fun d hd => ?_⟩
  · rw [e1 i hi, e7 i (by omega)]
    exact h1 i hi
  · exact (h2 w hw).congr (e2 w hw) (fun k hk => e7 _ (by omega)) (e3 w hw) (e7 _ (by omega))
  · rw [e4 r hr, e7 _ (by omega)]
    exact h3 r hr
  · exact (h4 d hd).congr (e5 d hd) (fun k hk => e7 _ (by omega)) (e6 d hd) (e7 _ (by omega))
/-- what copying a state leaves -/
def CpQ (psl : AR) (pwl : Nat → AR) (pwn prt : AR) (prl : Nat → AR) (prn : AR) (sl : AR) (wl : Nat → AR) (wn rt : AR) (rl : Nat → AR) (rn : AR) : Prop :=
  (∀ i, i < 6 → sl i = psl i) ∧ (∀ w, w < 4 → ∀ k, k < 12 → wl w k = pwl w k) ∧ (∀ w, w < 4 → wn w = pwn w) ∧ (∀ r, r < 2 → rt r = prt r) ∧ (∀ d, d < 4 → ∀ k, k < 12 → rl d k = prl d k) ∧ (∀ d, d < 4 → rn d = prn d)
def cwl (wl pwl : Nat → AR) : Nat → Nat → AR
  | 0 => wl
  | k + 1 => va_up (cwl wl pwl k) k (va_cpy (pwl k) (cwl wl pwl k k) 0 0 12)
def cwn (wn pwn : AR) : Nat → AR
  | 0 => wn
  | k + 1 => va_up (cwn wn pwn k) k (pwn k)
theorem cwl_s {wl pwl : Nat → AR} : ∀ k w, w < k → ∀ i, i < 12 → cwl wl pwl k w i = pwl w i
  | 0, w, h, _, _ => absurd h (Nat.not_lt_zero w)
  | k + 1, w, h, i, hi => by
    rw [cwl]
    by_cases e : w = k
    · subst e; rw [vaup_s]; exact cpy_in hi
    · rw [vaup_n e]; exact cwl_s k w (by omega) i hi
theorem cwn_s {wn pwn : AR} : ∀ k w, w < k → cwn wn pwn k w = pwn w
  | 0, w, h => absurd h (Nat.not_lt_zero w)
  | k + 1, w, h => by
    rw [cwn]
    by_cases e : w = k
    · subst e; exact vaup_s
    · rw [vaup_n e]; exact cwn_s k w (by omega)
theorem copy7 {sl psl : AR} {wl pwl : Nat → AR} {wn rt pwn prt : AR} {rl prl : Nat → AR} {rn prn : AR} (hb : ∀ r, r < 2 → isB (prt r)) {Q : AR → (Nat → AR) → AR → AR → (Nat → AR) → AR → Prop} (h : ∀ sl' wl' wn' rt' rl' rn', CpQ psl pwl pwn prt prl prn sl' wl' wn' rt' rl' rn' → Q sl' wl' wn' rt' rl' rn') : wp_X4_copyFrom sl wl wn rt rl rn psl pwl pwn prt prl prn Q := by
  unfold wp_X4_copyFrom
  rw [k0c, k6c]
  refine cl3' 4 (fun k => cwl wl pwl k) (fun k => cwn wn pwn k) (fun k hk rc hrc => ?_) (fun rc => br_end (Nat.le_refl 4) (by decide) ?_)
  · refine br_ge hk (by decide) ⟨vp_in_nI hk (by decide), fun jj hj ej => ?_⟩
    obtain rfl : jj = k := ((nI_eq (by omega) (by omega)).mp ej).symm
    intro x ex
    subst ex
    exact hrc
  · -- the two rules, one after the other
    refine ⟨3, ?_⟩
    refine ⟨fun z => absurd z (by decide), fun _ => ⟨vp_in_nI (n := 0) (by decide) (by decide), fun jj hj ej => ?_⟩⟩
    obtain rfl : jj = 0 := ((nI_eq (a := 0) (by omega) (by omega)).mp ej).symm
    refine ⟨hb 0 (by decide), ?_⟩
    intro x ex
    subst ex
    refine ⟨fun z => absurd z (by decide), fun _ => ⟨vp_in_nI (n := 1) (by decide) (by decide), fun jj hj ej => ?_⟩⟩
    obtain rfl : jj = 1 := ((nI_eq (a := 1) (by omega) (by omega)).mp ej).symm
    refine ⟨hb 1 (by decide), ?_⟩
    intro x ex
    subst ex
    refine ⟨fun _ => h _ _ _ _ _ _ ⟨fun i hi => cpy_in hi, fun w hw i hi => cwl_s 4 w hw i hi, fun w hw => cwn_s 4 w hw, fun r hr => ?_, fun d hd i hi => ?_, fun d hd => ?_⟩, fun z => absurd (by decide) z⟩
    · rcases (show r = 0 ∨ r = 1 by omega) with rfl | rfl <;> rfl
    · rcases (show d = 0 ∨ d = 1 ∨ d = 2 ∨ d = 3 by omega) with rfl | rfl | rfl | rfl <;> exact cpy_in hi
    · rcases (show d = 0 ∨ d = 1 ∨ d = 2 ∨ d = 3 by omega) with rfl | rfl | rfl | rfl <;> rfl
def RIm (isl : Nat → AR) (iwl : Nat → Nat → AR) (iwn irt : Nat → AR) (irl : Nat → Nat → AR) (irn : Nat → AR) (kp mi mk : AR) : Prop :=
  ∀ k, k < 2 → isB (kp k) ∧ mk k = kp k ∧ (kp k = 1 → RSt (isl k) (iwl k) (iwn k) (irt k) (irl k) (irn k) (fun i => mi (112 * k + i)))
/-- the reference's copying -/
def miF (mi : AR) (b : Nat) (st : AR) : Nat → AR
  | 0 => mi
  | k + 1 => upd (miF mi b st k) (b + k) (st k)
theorem miF_n {mi : AR} {b : Nat} {st : AR} {i : Nat} : ∀ k, (i < b ∨ b + k ≤ i) → miF mi b st k i = mi i
  | 0, _ => rfl
  | k + 1, h => by rw [miF, upd_n (by omega)]; exact miF_n k (by omega)
theorem miF_s {mi : AR} {b : Nat} {st : AR} : ∀ k i, i < k → miF mi b st k (b + i) = st i
  | 0, i, h => absurd h (Nat.not_lt_zero i)
  | k + 1, i, h => by
    rw [miF]
    by_cases e : i = k
    · subst e; exact upd_s
    · rw [upd_n (by omega)]; exact miF_s k i (by omega)
theorem nar1 : vp_nar .boolean 1 = 1 := by decide
theorem nar0 : vp_nar .boolean 0 = 0 := by decide
section IMG
variable {sl : AR} {wl : Nat → AR} {wn rt : AR} {rl : Nat → AR} {rn st : AR} {isl : Nat → AR} {iwl : Nat → Nat → AR} {iwn irt : Nat → AR} {irl : Nat → Nat → AR} {irn : Nat → AR} {kp mi mk : AR}
theorem image_ok (h : RSt sl wl wn rt rl rn st) (hi : RIm isl iwl iwn irt irl irn kp mi mk) (y0 : Int32) {R : (Nat → AR) → (Nat → Nat → AR) → (Nat → AR) → (Nat → AR) → (Nat → Nat → AR) → (Nat → AR) → AR → AR → AR → Prop} (hR : ∀ a b c d e f g mi' mk', RIm a b c d e f g mi' mk' → R a b c d e f g mi' mk') : wp_X7_image y0 sl wl wn rt rl rn isl iwl iwn irt irl irn kp (fun r1 a b c d e f g => wp_X8_image y0 st mi mk (fun r2 mi' mk' => r1 = r2 ∧ R a b c d e f g mi' mk')) := by
  have out : inN y0 1 = false → wp_X8_image y0 st mi mk (fun r2 mi' mk' => (-2) = r2 ∧ R isl iwl iwn irt irl irn kp mi' mk') := fun e => in_wp (hi := 1) (brb (b := inN y0 1) (fun e2 => by rw [e] at e2; cases e2) (fun _ => ⟨rfl, hR _ _ _ _ _ _ _ _ _ hi⟩))
  refine ⟨fun c => out (by simp [inN, c]), fun c => ⟨fun c2 => ?_, fun c2 => out ?_⟩⟩
  · obtain ⟨k, hk, rfl⟩ := nI_of c
    have hk2 : k < 2 := (nI_ltI hk (by decide)).mp c2
    refine ⟨vp_in_nI hk2 (by decide), fun jj hj ej => copy7 (fun r hr => (h.2.2.1 r hr).1) (fun sl' wl' wn' rt' rl' rn' hc => ⟨vp_in_nI hk2 (by decide), ?_⟩)⟩
    obtain rfl : jj = k := ((nI_eq (by omega) (by omega)).mp ej).symm
    rw [cl_nI (by omega), nar1]
    refine in_wp (hi := 1) (brb (b := inN (nI jj) 1) (fun _ => ?_) (fun e => by rw [inN_nI (by omega) (by decide)] at e; cases e))
    refine cl2' 112 (fun k => miF mi (112 * jj) st k) (fun k hk1 rc hrc => ?_) (fun rc => br_end (Nat.le_refl 112) (by decide) ⟨vp_in_nI hk2 (by decide), rfl, ?_⟩)
    · have ei : (112 : Int32) * nI jj + nI k = nI (112 * jj + k) := by rw [show (112 : Int32) = nI 112 from rfl, pk_mul, nI_add]
      unfold wb_X8_image_14
      rw [ei, cl_nI (n := 112 * jj + k) (by omega), cl_nI (n := k) (by omega)]
      refine br_ge hk1 (by decide) ⟨vp_in_nI (by omega) (by decide), vp_in_nI (by omega) (by decide), fun x ex => ?_⟩
      subst ex
      exact hrc
    · rw [cl_nI (by omega), nar1]
      refine hR _ _ _ _ _ _ _ _ _ (fun k hk1 => ?_)
      by_cases e : k = jj
      · subst e
        rw [upd_s, upd_s]
        refine ⟨Or.inr rfl, rfl, fun _ => ?_⟩
        simp only [vaup_s]
        obtain ⟨c1, c2, c3, c4, c5, c6⟩ := hc
        exact h.copy c1 c2 c3 c4 c5 c6 (fun i hi => miF_s 112 i hi)
      · rw [upd_n e, upd_n e]
        refine ⟨(hi k hk1).1, (hi k hk1).2.1, fun e2 => ?_⟩
        simp only [vaup_n e]
        exact ((hi k hk1).2.2 e2).copy (fun _ _ => rfl) (fun _ _ _ _ => rfl) (fun _ _ => rfl) (fun _ _ => rfl) (fun _ _ _ _ => rfl) (fun _ _ => rfl) (fun i hi => miF_n 112 (by omega))
  · have : nI 1 < y0 := Int32.lt_of_lt_of_le (by decide) (Int32.not_lt.mp c2)
    simp [inN, this]
theorem restore_ok (h : RSt sl wl wn rt rl rn st) (hi : RIm isl iwl iwn irt irl irn kp mi mk) (y0 : Int32) {R : AR → (Nat → AR) → AR → AR → (Nat → AR) → AR → AR → Prop} (hR : ∀ a b c d e f st', RSt a b c d e f st' → R a b c d e f st') : wp_X7_restore y0 sl wl wn rt rl rn isl iwl iwn irt irl irn kp (fun r1 a b c d e f => wp_X8_restore y0 st mi mk (fun r2 st' => r1 = r2 ∧ R a b c d e f st')) := by
  have out : inN y0 1 = false → wp_X8_restore y0 st mi mk (fun r2 st' => (-2) = r2 ∧ R sl wl wn rt rl rn st') := fun e => in_wp (hi := 1) (brb (b := inN y0 1) (fun e2 => by rw [e] at e2; cases e2) (fun _ => ⟨rfl, hR _ _ _ _ _ _ _ h⟩))
  refine ⟨fun c => out (by simp [inN, c]), fun c => ⟨fun c2 => ?_, fun c2 => out ?_⟩⟩
  · obtain ⟨k, hk, rfl⟩ := nI_of c
    have hk2 : k < 2 := (nI_ltI hk (by decide)).mp c2
    have ek := inN_nI (k := k) (n := 1) (by omega) (by decide)
    rw [cl_nI (by omega)]
    refine ⟨vp_in_nI hk2 (by decide), fun c3 => ⟨vp_in_nI hk2 (by decide), fun jj hj ej => ?_⟩, fun c3 => ?_⟩
    · obtain rfl : jj = k := ((nI_eq (by omega) (by omega)).mp ej).symm
      have e1 : kp jj = 1 := by
        rcases (hi jj hj).1 with e | e
        · exact absurd e c3
        · exact e
      have hs := (hi jj hj).2.2 e1
      refine copy7 (fun r hr => (hs.2.2.1 r hr).1) (fun sl' wl' wn' rt' rl' rn' hc => ?_)
      refine in_wp (hi := 1) (brb (b := inN (nI jj) 1) (fun _ => ?_) (fun e => by rw [ek] at e; cases e))
      rw [cl_nI (by omega), (hi jj hj).2.1]
      refine ⟨vp_in_nI hk2 (by decide), fun _ => ?_, fun z => absurd z c3⟩
      refine cl2' 112 (fun k => miF st 0 (fun i => mi (112 * jj + i)) k) (fun k hk1 rc hrc => ?_) (fun rc => br_end (Nat.le_refl 112) (by decide) ⟨rfl, ?_⟩)
      · have ei : (112 : Int32) * nI jj + nI k = nI (112 * jj + k) := by rw [show (112 : Int32) = nI 112 from rfl, pk_mul, nI_add]
        unfold wb_X8_restore_26
        rw [ei, cl_nI (n := 112 * jj + k) (by omega), cl_nI (n := k) (by omega)]
        refine br_ge hk1 (by decide) ⟨vp_in_nI (by omega) (by decide), vp_in_nI (by omega) (by decide), fun x ex => ?_⟩
        subst ex
        rw [miF, Nat.zero_add] at hrc
        exact hrc
      · obtain ⟨c1, c2, c3, c4, c5, c6⟩ := hc
        refine hR _ _ _ _ _ _ _ (hs.copy c1 c2 c3 c4 c5 c6 (fun i hi => ?_))
        have := miF_s (mi := st) (b := 0) (st := fun i => mi (112 * jj + i)) 112 i hi
        rw [Nat.zero_add] at this
        exact this
    · refine in_wp (hi := 1) (brb (b := inN (nI k) 1) (fun _ => ?_) (fun e => by rw [ek] at e; cases e))
      rw [cl_nI (by omega), (hi k hk2).2.1]
      exact ⟨vp_in_nI hk2 (by decide), fun z => absurd c3 z, fun _ => ⟨rfl, hR _ _ _ _ _ _ _ h⟩⟩
  · have : nI 1 < y0 := Int32.lt_of_lt_of_le (by decide) (Int32.not_lt.mp c2)
    simp [inN, this]
/-! count -/
def nwS (f : AR) (s : Nat) : Nat → Bool
  | 0 => true
  | t + 1 => nwS f s t && !decide (f t = f s)
def dfS (f : AR) : Nat → Nat
  | 0 => 0
  | s + 1 => dfS f s + (if nwS f s s = true then 1 else 0)
theorem nwS_congr {f g : AR} (h : ∀ i, i < 6 → f i = g i) {s : Nat} (hs : s < 6) : ∀ t, t ≤ s → nwS f s t = nwS g s t
  | 0, _ => rfl
  | t + 1, ht => by rw [nwS, nwS, nwS_congr h hs t (by omega), h t (by omega), h s hs]
theorem dfS_congr {f g : AR} (h : ∀ i, i < 6 → f i = g i) : ∀ s, s ≤ 6 → dfS f s = dfS g s
  | 0, _ => rfl
  | s + 1, hs => by rw [dfS, dfS, dfS_congr h s (by omega), nwS_congr h (by omega) s (Nat.le_refl s)]
theorem diff7 {f : AR} {Q : Int32 → Prop} (h : Q (nI (dfS f 6))) : wp_X7_differentMaps f Q := by
  unfold wp_X7_differentMaps
  refine cl2 6 (fun s => nI (dfS f s)) (fun s hs rc hrc => ?_) (fun rc => br_end (Nat.le_refl 6) (by decide) h)
  refine br_ge hs (by decide) ?_
  refine cl2 s (fun t => bI (nwS f s t)) (fun t ht rc2 hrc2 => ?_) (fun rc2 => br_end (Nat.le_refl s) (by omega) (brb' (fun e => ?_) (fun e => ?_)))
  · refine br_ge ht (by omega) ?_
    rw [cl_nI (by omega), cl_nI (by omega)]
    refine ⟨vp_in_nI (by omega) (by decide), vp_in_nI (by omega) (by decide), fun c => ?_, fun c => ?_⟩
    · intro x ex
      subst ex
      have : nwS f s (t + 1) = nwS f s t := by simp [nwS, c]
      rw [this] at hrc2
      exact hrc2
    · intro x ex
      subst ex
      have : nwS f s (t + 1) = false := by simp [nwS, c]
      rw [this] at hrc2
      exact hrc2
  · intro x ex
    subst ex
    rw [dfS, e] at hrc
    exact hrc
  · intro y ey x ex
    subst ex ey
    rw [dfS, if_pos e] at hrc
    rw [nI_1]
    exact hrc
theorem unlike8 {f : AR} {Q : Int32 → Prop} (h : Q (nI (dfS f 6))) : wp_X8_unlike f Q := by
  unfold wp_X8_unlike
  refine cl2 6 (fun s => nI (dfS f s)) (fun s hs rc hrc => ?_) (fun rc => br_end (Nat.le_refl 6) (by decide) h)
  refine br_ge hs (by decide) ?_
  refine cl2 s (fun t => bI (nwS f s t)) (fun t ht rc2 hrc2 => ?_) (fun rc2 => br_end (Nat.le_refl s) (by omega) (brb' (fun e => ?_) (fun e => ?_)))
  · refine br_ge ht (by omega) (brb' (fun e => ?_) (fun e => ?_))
    · intro x ex
      subst ex
      have : nwS f s (t + 1) = false := by simp [nwS, e]
      rw [this] at hrc2
      exact hrc2
    · rw [z0, z0, cl_nI (by omega), cl_nI (by omega)]
      refine ⟨vp_in_nI (by omega) (by decide), vp_in_nI (by omega) (by decide), fun c => ?_, fun c => ?_⟩
      · intro x ex
        subst ex
        have : nwS f s (t + 1) = false := by simp [nwS, c]
        rw [this] at hrc2
        exact hrc2
      · intro x ex
        subst ex
        have : nwS f s (t + 1) = true := by simp [nwS, e, c]
        rw [this] at hrc2
        exact hrc2
  · intro y ey x ex
    subst ex ey
    rw [dfS, e] at hrc
    rw [i0, nI_add]
    exact hrc
  · intro y ey x ex
    subst ex ey
    rw [dfS, if_pos e] at hrc
    rw [nI_1]
    exact hrc
def rsS (A : Nat → Nat) : Nat → Nat
  | 0 => 0
  | s + 1 => rsS A s + rankN (A s)
theorem ranks7 {f : AR} {A : Nat → Nat} (hA : ∀ i, i < 6 → VM (A i) ∧ f i = nI (A i)) {Q : Int32 → Prop} (h : Q (nI (rsS A 6))) : wp_X7_ranksAdded f Q := by
  unfold wp_X7_ranksAdded
  refine cl2 6 (fun s => nI (rsS A s)) (fun s hs rc hrc => ?_) (fun rc => br_end (Nat.le_refl 6) (by decide) h)
  unfold wb_X7_ranksAdded_4
  rw [cl_nI (by omega), (hA s hs).2]
  refine br_ge hs (by decide) ⟨vp_in_nI hs (by decide), rank1 (hA s hs).1.1 (fun x ex y ey => ?_)⟩
  subst ex ey
  rw [nI_add]
  exact hrc
theorem ranks8 {f : AR} {A : Nat → Nat} (hA : ∀ i, i < 6 → VM (A i) ∧ f i = nI (A i)) {Q : Int32 → Prop} (h : Q (nI (rsS A 6))) : wp_X8_ranks f Q := by
  unfold wp_X8_ranks
  refine cl2 6 (fun s => nI (rsS A s)) (fun s hs rc hrc => ?_) (fun rc => br_end (Nat.le_refl 6) (by decide) h)
  unfold wb_X8_ranks_4
  rw [z0, cl_nI (by omega), (hA s hs).2]
  refine br_ge hs (by decide) ⟨vp_in_nI (by omega) (by decide), rank8 (hA s hs).1.1 (fun x ex y ey => ?_)⟩
  subst ex ey
  rw [nI_add]
  exact hrc
theorem kept01 {a : Int32} {f : Int32} {A B : Prop} (e : f = a) (h0 : a = 0 → A) (h1 : ¬ a = 0 → B) : (f = 0 → A) ∧ (¬ f = 0 → B) := by
  subst e
  exact ⟨h0, h1⟩
theorem count_ok (h : RSt sl wl wn rt rl rn st) (hi : RIm isl iwl iwn irt irl irn kp mi mk) {sg sd : Int32} {hp mp : AR} (hpad : RPad sg hp sd mp) (y0 : Int32) {R : Prop} (hR : R) : wp_X7_count y0 sg sl wn rt kp (fun r1 => wp_X8_count y0 sd st mk (fun r2 => r1 = r2 ∧ R)) := by
  obtain ⟨A, hA⟩ := h.nums
  have hsame : ∀ i, i < 6 → st i = sl i := fun i hi => by rw [(hA i hi).2.1, (hA i hi).2.2]
  obtain ⟨n, hn, rfl, rfl, -⟩ := hpad
  -- the reference: words
  have words : ∀ j, j < 4 → y0 = nI (j + 2) → wp_X8_count y0 (nI n) st mk (fun r2 => wn j = r2 ∧ R) := by
    intro j hj e
    refine in_wp (brb' (fun e2 => ?_) (fun _ => ?_))
    · rw [e] at e2
      simp only [decide_eq_false_iff_not, not_and, Classical.not_not] at e2
      exact absurd (e2 (nI_nlt (a := j + 2) (b := 2) (by omega) (by omega))) (nI_nlt (a := 5) (b := j + 2) (by omega) (by omega))
    · have ei : (6 : Int32) + y0 - 2 = nI (6 + j) := by
        rw [e, i6, nI_add, show (2 : Int32) = nI 2 from rfl, pk_sub (by omega)]
        congr 1
      rw [ei, cl_nI (by omega)]
      refine ⟨vp_in_nI (by omega) (by decide), ?_, hR⟩
      obtain ⟨m, -, h1, h2, -⟩ := h.2.1 j hj
      rw [h1, h2]
  -- the reference: the rest
  have rest : ∀ r1 : Int32, decide (¬ y0 < 2 ∧ ¬ 5 < y0) = false → ((y0 = 0 → r1 = nI (dfS sl 6)) ∧ (y0 = 1 → r1 = nI (rsS A 6)) ∧ (y0 = 6 → r1 = nI n) ∧ (y0 = 7 → r1 = rt 0 + rt 1) ∧ (y0 = 8 → r1 = (if kp 0 = 0 then 0 else 1) + (if kp 1 = 0 then 0 else 2)) ∧ (¬ y0 = 0 → ¬ y0 = 1 → ¬ y0 = 6 → ¬ y0 = 7 → ¬ y0 = 8 → r1 = -2)) → wp_X8_count y0 (nI n) st mk (fun r2 => r1 = r2 ∧ R) := by
    intro r1 e hr
    refine in_wp (brb' (fun _ => ?_) (fun e2 => by rw [e] at e2; cases e2))
    have bad : ∀ z : Int32, (¬ z < 2 ∧ ¬ 5 < z) → y0 = z → ∀ {P : Prop}, P := fun z hz ez P => by
      rw [ez] at e
      simp only [decide_eq_false_iff_not] at e
      exact absurd hz e
    refine ⟨fun c => unlike8 ?_, fun c => ranks8 (fun i hi => ⟨(hA i hi).1, (hA i hi).2.2⟩) ⟨hr.2.1 c, hR⟩, fun c => bad 2 (by decide) c, fun c => bad 3 (by decide) c, fun c => bad 4 (by decide) c, fun c => bad 5 (by decide) c, fun c => ⟨hr.2.2.1 c, hR⟩, fun c => ?_, fun c => ?_, fun c0 c1 c2 c3 c4 c5 c6 c7 c8 => ⟨hr.2.2.2.2.2 c0 c1 c6 c7 c8, hR⟩⟩
    · rw [dfS_congr hsame 6 (Nat.le_refl 6)]
      exact ⟨hr.1 c, hR⟩
    · refine ⟨vp_in_nI (n := 58) (by decide) (by decide), vp_in_nI (n := 59) (by decide) (by decide), ?_, hR⟩
      rw [hr.2.2.2.1 c, show (58 : Int32).toNatClampNeg = 58 + 0 from rfl, show (59 : Int32).toNatClampNeg = 58 + 1 from rfl, (h.2.2.1 0 (by decide)).2, (h.2.2.1 1 (by decide)).2]
    · have r8 := hr.2.2.2.2.1 c
      rw [k0c, (hi 0 (by decide)).2.1]
      have tail : ∀ t : Int32, r1 = t + (if kp 1 = 0 then 0 else 2) → wp_X8_count_117 (nI n) st mk t (fun r2 => r1 = r2 ∧ R) := by
        intro t ht
        refine ⟨vp_in_nI (n := 1) (by decide) (by decide), ?_⟩
        rw [k1c, (hi 1 (by decide)).2.1]
        exact ⟨fun z => ⟨by rw [ht, if_pos z], hR⟩, fun z => ⟨by rw [ht, if_neg z], hR⟩⟩
      exact ⟨vp_in_nI (n := 0) (by decide) (by decide), fun z => tail 0 (by rw [r8, if_pos z]), fun z => tail 1 (by rw [r8, if_neg z])⟩
  have wd : ∀ j, j < 4 → y0 = nI (j + 2) → vp_in (y0 - 2) 4 ∧ ∀ jj : Nat, jj < 4 → y0 - 2 = nI jj → wp_X8_count y0 (nI n) st mk (fun r2 => wn jj = r2 ∧ R) := by
    intro j hj e
    have es : y0 - 2 = nI j := by
      rw [e, show (2 : Int32) = nI 2 from rfl, pk_sub (by omega)]
      congr 1
    rw [es]
    refine ⟨vp_in_nI hj (by decide), fun jj hjj ejj => ?_⟩
    obtain rfl : jj = j := ((nI_eq (by omega) (by omega)).mp ejj).symm
    exact words jj hj e
  refine ⟨fun c => diff7 (rest _ ?_ ?_), fun c => ranks7 (fun i hi => ⟨(hA i hi).1, (hA i hi).2.1⟩) (rest _ ?_ ?_), fun c => wd 0 (by decide) c, fun c => wd 1 (by decide) c, fun c => wd 2 (by decide) c, fun c => wd 3 (by decide) c, fun c => rest _ ?_ ?_, fun c => told7 (h.2.2.1 0 (by decide)).1 (h.2.2.1 1 (by decide)).1 (rest _ ?_ ?_), fun c => ?_, fun c0 c1 c2 c3 c4 c5 c6 c7 c8 => rest _ ?_ ?_⟩
  · subst c; decide
  · subst c
    exact ⟨fun _ => rfl, fun z => absurd z (by decide), fun z => absurd z (by decide), fun z => absurd z (by decide), fun z => absurd z (by decide), fun z => absurd rfl z⟩
  · subst c; decide
  · subst c
    exact ⟨fun z => absurd z (by decide), fun _ => rfl, fun z => absurd z (by decide), fun z => absurd z (by decide), fun z => absurd z (by decide), fun _ z => absurd rfl z⟩
  · subst c; decide
  · subst c
    exact ⟨fun z => absurd z (by decide), fun z => absurd z (by decide), fun _ => rfl, fun z => absurd z (by decide), fun z => absurd z (by decide), fun _ _ z => absurd rfl z⟩
  · subst c; decide
  · subst c
    exact ⟨fun z => absurd z (by decide), fun z => absurd z (by decide), fun z => absurd z (by decide), fun _ => rfl, fun z => absurd z (by decide), fun _ _ _ z => absurd rfl z⟩
  · subst c
    have r8 : ∀ r1 : Int32, r1 = (if kp 0 = 0 then 0 else 1) + (if kp 1 = 0 then 0 else 2) → wp_X8_count 8 (nI n) st mk (fun r2 => r1 = r2 ∧ R) := fun r1 e => rest r1 (by decide) ⟨fun z => absurd z (by decide), fun z => absurd z (by decide), fun z => absurd z (by decide), fun z => absurd z (by decide), fun _ => e, fun _ _ _ _ z => absurd rfl z⟩
    rw [k0c]
    have tail : ∀ t : Int32, (∀ r1 : Int32, r1 = t + (if kp 1 = 0 then 0 else 2) → wp_X8_count 8 (nI n) st mk (fun r2 => r1 = r2 ∧ R)) → wp_X7_count_101 (nI n) sl wn rt kp t (fun r1 => wp_X8_count 8 (nI n) st mk (fun r2 => r1 = r2 ∧ R)) := by
      intro t ht
      refine ⟨vp_in_nI (n := 1) (by decide) (by decide), ?_⟩
      rw [k1c]
      exact ⟨fun z => ht _ (by rw [if_pos z]), fun z => ht _ (by rw [if_neg z])⟩
    refine ⟨vp_in_nI (n := 0) (by decide) (by decide), fun z => tail 0 (fun r1 e => r8 r1 (by rw [e, if_pos z])), fun z => tail 1 (fun r1 e => r8 r1 (by rw [e, if_neg z]))⟩
  · refine decide_eq_false fun hz => ?_
    obtain ⟨k, hk, ek⟩ := nI_of (x := y0) (fun c => hz.1 (Int32.lt_of_lt_of_le c (by decide)))
    rw [ek] at hz
    have l1 : 2 ≤ k := Nat.le_of_not_lt fun c => hz.1 (nI_lt (b := 2) c (by decide))
    have l2 : k ≤ 5 := Nat.le_of_not_lt fun c => hz.2 (nI_lt (a := 5) c hk)
    rcases (show k = 2 ∨ k = 3 ∨ k = 4 ∨ k = 5 by omega) with rfl | rfl | rfl | rfl
    · exact c2 ek
    · exact c3 ek
    · exact c4 ek
    · exact c5 ek
  · exact ⟨fun z => absurd z c0, fun z => absurd z c1, fun z => absurd z c6, fun z => absurd z c7, fun z => absurd z c8, fun _ _ _ _ _ => rfl⟩
end IMG
