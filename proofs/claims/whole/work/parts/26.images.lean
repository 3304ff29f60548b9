/-! PURE 7: rule, images, count -/
theorem k0c : (0 : Int32).toNatClampNeg = 0 := rfl
theorem k1c : (1 : Int32).toNatClampNeg = 1 := rfl
theorem k6c : (6 : Int32).toNatClampNeg = 6 := rfl
theorem k12c : (12 : Int32).toNatClampNeg = 12 := rfl
theorem cpy_in {f g : AR} {n j : Nat} (h : j < n) : va_cpy f g 0 0 n j = f j := by
  rw [pk_cpy_in (Nat.zero_le j) (by omega)]
  congr 1
  omega
theorem isB_add {a b : Int32} (ha : isB a) (hb : isB b) : ∀ x, x = (if a = 0 then (0 : Int32) else 1) → (if b = 0 then x else x + 1) = a + b := by
  intro x hx
  subst hx
  rcases ha with rfl | rfl <;> rcases hb with rfl | rfl <;> decide
theorem told7 {rt : AR} (h0 : isB (rt 0)) (h1 : isB (rt 1)) {Q : Int32 → Prop} (h : Q (rt 0 + rt 1)) : wp_X7_rulesTold rt Q := by
  unfold wp_X7_rulesTold
  refine cl2 2 (fun k => if k = 0 then 0 else if k = 1 then (if rt 0 = 0 then 0 else 1) else rt 0 + rt 1) (fun k hk rc hrc => ?_) (fun rc => br_end (Nat.le_refl 2) (by decide) h)
  refine br_ge hk (by decide) ⟨vp_in_nI hk (by decide), fun jj hj ej => ?_⟩
  obtain rfl : jj = k := ((nI_eq (by omega) (by omega)).mp ej).symm
  rcases (show jj = 0 ∨ jj = 1 by omega) with rfl | rfl
  · refine ⟨fun c => ?_, fun c => ?_⟩
    · intro x ex
      subst ex
      simp [c] at hrc
      exact hrc
    · intro y ey x ex
      subst ex ey
      simp [c] at hrc
      exact hrc
  · have e := isB_add h0 h1 _ rfl
    refine ⟨fun c => ?_, fun c => ?_⟩
    · intro x ex
      subst ex
      rw [if_pos c] at e
      simp only [Nat.one_ne_zero, if_false, if_true]
      simp at hrc
      rw [← e] at hrc
      exact hrc
    · intro y ey x ex
      subst ex ey
      rw [if_neg c] at e
      simp only [Nat.one_ne_zero, if_false, if_true]
      simp at hrc
      rw [← e] at hrc
      exact hrc
section RULEOP
variable {sl : AR} {wl : Nat → AR} {wn rt : AR} {rl : Nat → AR} {rn st : AR}
/-- copying twelve letters -/
def cpF (st : AR) (b a : Nat) : Nat → AR
  | 0 => st
  | k + 1 => upd (cpF st b a k) (b + k) (cpF st b a k (a + k))
theorem cpF_n {st : AR} {b a i : Nat} : ∀ k, (i < b ∨ b + k ≤ i) → cpF st b a k i = st i
  | 0, _ => rfl
  | k + 1, h => by rw [cpF, upd_n (by omega)]; exact cpF_n k (by omega)
theorem cpF_s {st : AR} {b a : Nat} (hab : a + 12 ≤ b) : ∀ k i, k ≤ 12 → i < k → cpF st b a k (b + i) = st (a + i)
  | 0, i, _, h => absurd h (Nat.not_lt_zero i)
  | k + 1, i, hk, h => by
    rw [cpF]
    by_cases e : i = k
    · subst e
      rw [upd_s, cpF_n i (by omega)]
    · rw [upd_n (by omega)]
      exact cpF_s hab k i (by omega) (by omega)
/-- one side of a rule is told -/
theorem RSt.side (h : RSt sl wl wn rt rl rn st) {d j : Nat} (hd : d < 4) (hj : j < 4) : RSt sl wl wn rt (va_up rl d (va_cpy (wl j) (rl d) 0 0 12)) (va_up rn d (wn j)) (cpF (upd st (60 + d) (st (6 + j))) (64 + 12 * d) (10 + 12 * j) 12) := by
  obtain ⟨h1, h2, h3, h4⟩ := h
  have out : ∀ i, i < 60 → cpF (upd st (60 + d) (st (6 + j))) (64 + 12 * d) (10 + 12 * j) 12 i = st i := fun i hi => by rw [cpF_n 12 (by omega), upd_n (by omega)]
  refine ⟨fun i hi => ?_, fun w hw => ?_, fun r hr => ?_, fun e he => ?_⟩
  · rw [out i (by omega)]
    exact h1 i hi
  · exact (h2 w hw).congr (fun _ _ => rfl) (fun k hk => out _ (by omega)) rfl (out _ (by omega))
  · rw [out _ (by omega)]
    exact h3 r hr
  · by_cases c : e = d
    · subst c
      rw [vaup_s, vaup_s]
      refine (h2 j hj).congr (fun k hk => cpy_in hk) (fun k hk => ?_) rfl ?_
      · rw [cpF_s (by omega) 12 k (Nat.le_refl _) hk, upd_n (by omega)]
      · rw [cpF_n 12 (by omega), upd_s]
    · rw [vaup_n c, vaup_n c]
      exact (h4 e he).congr (fun _ _ => rfl) (fun k hk => by rw [cpF_n 12 (by omega), upd_n (by omega)]) rfl (by rw [cpF_n 12 (by omega), upd_n (by omega)])
theorem RSt.tell (h : RSt sl wl wn rt rl rn st) {r : Nat} {v : Int32} (hr : r < 2) (hv : isB v) : RSt sl wl wn (va_up rt r v) rl rn (upd st (58 + r) v) := by
  obtain ⟨h1, h2, h3, h4⟩ := h
  refine ⟨fun i hi => ?_, fun w hw => ?_, fun q hq => ?_, fun e he => ?_⟩
  · rw [upd_n (by omega)]
    exact h1 i hi
  · exact (h2 w hw).congr (fun _ _ => rfl) (fun k hk => upd_n (by omega)) rfl (upd_n (by omega))
  · by_cases c : q = r
    · subst c
      rw [vaup_s, upd_s]
      exact ⟨hv, rfl⟩
    · rw [vaup_n c, upd_n (by omega)]
      exact h3 q hq
  · exact (h4 e he).congr (fun _ _ => rfl) (fun k hk => upd_n (by omega)) rfl (upd_n (by omega))
theorem told8 (h : RSt sl wl wn rt rl rn st) {Q : Int32 → AR → Prop} (hQ : Q (rt 0 + rt 1) st) : wp_X8_rule_162 st Q := by
  refine ⟨vp_in_nI (n := 58) (by decide) (by decide), vp_in_nI (n := 59) (by decide) (by decide), ?_⟩
  rw [show (58 : Int32).toNatClampNeg = 58 + 0 from rfl, show (59 : Int32).toNatClampNeg = 58 + 1 from rfl, (h.2.2.1 0 (by decide)).2, (h.2.2.1 1 (by decide)).2]
  exact hQ
theorem two_cases {x : Int32} (h : inN x 1 = true) : x = 0 ∨ x = 1 := by
  obtain ⟨k, hk, rfl⟩ := inN_t h (by decide)
  rcases (show k = 0 ∨ k = 1 by omega) with rfl | rfl
  · exact Or.inl rfl
  · exact Or.inr rfl
theorem side8 (r d j : Nat) (x3 x4 : Int32) (rc56 : Int32 → AR → Prop) (Q : Int32 → AR → Prop) (hr : r < 2) (hd : d < 2) (hj : j < 4) (st : AR) (hrc : rc56 (nI d + 1) (cpF (upd st (60 + (2 * r + d)) (st (6 + j))) (64 + 12 * (2 * r + d)) (10 + 12 * j) 12)) : wp_X8_rule_78 (nI r) 1 x3 x4 (nI d) (nI j) st rc56 Q := by
  intro x7 e7
  rw [show (2 : Int32) = nI 2 from rfl, pk_mul, nI_add] at e7
  subst e7
  rw [i6, nI_add, show (60 : Int32) = nI 60 from rfl, nI_add, cl_nI (by omega), cl_nI (by omega)]
  refine ⟨vp_in_nI (by omega) (by decide), vp_in_nI (by omega) (by decide), ?_⟩
  refine cl2' 12 (fun k => cpF (upd st (60 + (2 * r + d)) (st (6 + j))) (64 + 12 * (2 * r + d)) (10 + 12 * j) k) (fun k hk rc hrc2 => ?_) (fun rc => br_end (Nat.le_refl 12) (by decide) (fun x ex => ?_))
  · have ei : ((10 : Int32) + (12 : Int32) * nI j) + nI k = nI (10 + 12 * j + k) := by
      rw [show (12 : Int32) = nI 12 from rfl, show (10 : Int32) = nI 10 from rfl, pk_mul, nI_add, nI_add]
    have ei2 : ((64 : Int32) + (12 : Int32) * nI (2 * r + d)) + nI k = nI (64 + 12 * (2 * r + d) + k) := by
      rw [show (12 : Int32) = nI 12 from rfl, show (64 : Int32) = nI 64 from rfl, pk_mul, nI_add, nI_add]
    unfold wb_X8_rule_111
    rw [ei, ei2, cl_nI (by omega), cl_nI (by omega)]
    refine br_ge hk (by decide) ⟨vp_in_nI (by omega) (by decide), vp_in_nI (by omega) (by decide), fun x ex => ?_⟩
    subst ex
    exact hrc2
  · subst ex
    exact hrc
theorem rule_ok (h : RSt sl wl wn rt rl rn st) (y0 y1 y2 y3 : Int32) {R : AR → (Nat → AR) → AR → AR → Prop} (hR : ∀ rt' rl' rn' st', RSt sl wl wn rt' rl' rn' st' → R rt' rl' rn' st') : wp_X7_rule y0 y1 y2 y3 wl wn rt rl rn (fun r1 rt' rl' rn' => wp_X8_rule y0 y1 y2 y3 st (fun r2 st' => r1 = r2 ∧ R rt' rl' rn' st')) := by
  have out : (inN y0 1 = false ∨ inN y1 1 = false) → wp_X8_rule y0 y1 y2 y3 st (fun r2 st' => (-2) = r2 ∧ R rt rl rn st') := by
    intro c
    refine in_wp (hi := 1) ?_
    refine brb' (b := inN y0 1) (fun _ => ⟨rfl, hR _ _ _ _ h⟩) (fun e0 => in_wp (hi := 1) ?_)
    refine brb (b := inN y1 1) (fun e1 => ?_) (fun _ => ⟨rfl, hR _ _ _ _ h⟩)
    rcases c with c | c
    · rw [e0] at c; cases c
    · rw [e1] at c; cases c
  refine lim7 (n := 1) (by decide) (fun e => out (Or.inl e)) (fun e0 => ?_)
  obtain ⟨r, hr, rfl⟩ := inN_t e0 (by decide)
  refine ⟨fun c => out (Or.inr (by simp [inN, c])), fun c => ⟨fun c2 => ?_, fun c2 => out (Or.inr ?_)⟩⟩
  · have e1 : inN y1 1 = true := by
      simp only [inN, decide_eq_true_eq]
      exact ⟨c, fun c3 => absurd c2 (Int32.not_le.mpr c3)⟩
    rcases two_cases e1 with rfl | rfl
    · -- not told any more
      refine ⟨fun _ => ⟨vp_in_nI (by omega) (by decide), fun jj hjj ejj => ?_⟩, fun z => absurd z (by decide)⟩
      obtain rfl : jj = r := ((nI_eq (by omega) (by omega)).mp ejj).symm
      have h' := h.tell hjj (Or.inl rfl : isB 0)
      refine told7 (h'.2.2.1 0 (by decide)).1 (h'.2.2.1 1 (by decide)).1 ?_
      refine in_wp (hi := 1) ?_
      refine brb' (b := inN (nI jj) 1) (fun e => by rw [e0] at e; cases e) (fun _ => in_wp (hi := 1) ?_)
      refine brb (b := inN 0 1) (fun _ => ⟨fun _ => ?_, fun z => absurd z (by decide)⟩) (fun e => absurd e (by decide))
      unfold wp_X8_rule_43
      rw [show (58 : Int32) = nI 58 from rfl, nI_add, cl_nI (by omega)]
      refine ⟨vp_in_nI (by omega) (by decide), ⟨1, ?_⟩⟩
      exact ⟨fun z => absurd z (by decide), fun _ => ⟨fun _ => told8 h' ⟨rfl, hR _ _ _ _ h'⟩, fun z => absurd z (by decide)⟩⟩
    · refine ⟨fun z => absurd rfl z, fun _ => word7 (brb' (fun e2 => ?_) (fun e2 => word7 (brb (fun e3 => ?_) (fun e3 => ?_))))⟩
      · refine in_wp (hi := 1) (brb' (b := inN (nI r) 1) (fun e => by rw [e0] at e; cases e) (fun _ => in_wp (hi := 1) (brb (b := inN 1 1) (fun _ => ⟨fun z => absurd rfl z, fun _ => word8 (brb' (fun _ => ⟨rfl, hR _ _ _ _ h⟩) (fun e => by rw [e2] at e; cases e))⟩) (fun e => absurd e (by decide)))))
      · obtain ⟨j1, hj1, rfl⟩ := inN_t e2 (by decide)
        obtain ⟨j2, hj2, rfl⟩ := inN_t e3 (by decide)
        refine ⟨vp_in_nI (by omega) (by decide), fun jj hjj ejj => ⟨vp_in_nI (by omega) (by decide), fun k1 hk1 ek1 => ⟨vp_in_nI (by omega) (by decide), fun k2 hk2 ek2 => ?_⟩⟩⟩
        obtain rfl : jj = r := ((nI_eq (by omega) (by omega)).mp ejj).symm
        obtain rfl : k1 = j1 := ((nI_eq (by omega) (by omega)).mp ek1).symm
        obtain rfl : k2 = j2 := ((nI_eq (by omega) (by omega)).mp ek2).symm
        have h1 := h.tell hjj (Or.inr rfl : isB 1)
        have h2 := h1.side (d := 2 * jj + 0) (j := k1) (by omega) (by omega)
        have h3 := h2.side (d := 2 * jj + 1) (j := k2) (by omega) (by omega)
        have e4 : va_up rl (2 * jj + 0) (va_cpy (wl k1) (rl (2 * jj + 0)) 0 0 12) (2 * jj + 1) = rl (2 * jj + 1) := vaup_n (by omega)
        rw [e4] at h3
        refine told7 (h3.2.2.1 0 (by decide)).1 (h3.2.2.1 1 (by decide)).1 ?_
        refine in_wp (hi := 1) (brb' (b := inN (nI jj) 1) (fun e => by rw [e0] at e; cases e) (fun _ => in_wp (hi := 1) (brb (b := inN 1 1) (fun _ => ⟨fun z => absurd rfl z, fun _ => word8 (brb' (fun e => by rw [e2] at e; cases e) (fun _ => word8 (brb (fun _ => ?_) (fun e => by rw [e3] at e; cases e))))⟩) (fun e => absurd e (by decide)))))
        unfold wp_X8_rule_43
        rw [show (58 : Int32) = nI 58 from rfl, nI_add, cl_nI (by omega)]
        refine ⟨vp_in_nI (by omega) (by decide), ⟨3, ?_⟩⟩
        refine ⟨fun z => absurd z (by decide), fun _ => ⟨fun z => absurd rfl z, fun _ => ⟨fun z => absurd rfl z, fun _ => ?_⟩⟩⟩
        refine side8 jj 0 k1 _ _ _ _ hjj (by decide) (by omega) _ ?_
        refine ⟨fun z => absurd z (by decide), fun _ => ⟨fun z => absurd rfl z, fun _ => ⟨fun _ => ?_, fun z => absurd z (by decide)⟩⟩⟩
        refine side8 jj 1 k2 _ _ _ _ hjj (by decide) (by omega) _ ?_
        exact ⟨fun _ => told8 h3 ⟨rfl, hR _ _ _ _ h3⟩, fun z => absurd (by decide) z⟩
      · refine in_wp (hi := 1) (brb' (b := inN (nI r) 1) (fun e => by rw [e0] at e; cases e) (fun _ => in_wp (hi := 1) (brb (b := inN 1 1) (fun _ => ⟨fun z => absurd rfl z, fun _ => word8 (brb' (fun e => by rw [e2] at e; cases e) (fun _ => word8 (brb (fun e => by rw [e3] at e; cases e) (fun _ => ⟨rfl, hR _ _ _ _ h⟩))))⟩) (fun e => absurd e (by decide)))))
  · have : (1 : Int32) < y1 := Int32.not_le.mp c2
    have e : nI 1 < y1 := this
    simp [inN, e]
end RULEOP
