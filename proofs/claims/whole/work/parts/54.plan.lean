/-! PURE 35: the class plans its seams -/
def RU (tb : Nat → Bool) (rN : Nat → Nat) (rW : Nat → Nat → Nat) (rt : AR) (rl : Nat → AR) (rn : AR) : Prop := (∀ r, r < 2 → rt r = bI (tb r)) ∧ ∀ d, d < 4 → rN d ≤ 12 ∧ rn d = nI (rN d) ∧ ∀ i, i < rN d → rW d i < 6 ∧ rl d i = nI (rW d i)
def sE (tb : Nat → Bool) (rN : Nat → Nat) (rW : Nat → Nat → Nat) (c : Nat → Nat → Option Nat) (p d : Nat) : Option Nat := if tb (d / 2) = true then wk c (rW d) p (rN d) else none
def sm (tb : Nat → Bool) (rN : Nat → Nat) (rW : Nat → Nat → Nat) (c : Nat → Nat → Option Nat) (p d : Nat) : Option Nat := if sE tb rN rW c p d = sE tb rN rW c p (xr d) then none else sE tb rN rW c p d
def dfB (tb : Nat → Bool) (rN : Nat → Nat) (rW : Nat → Nat → Nat) (c : Nat → Nat → Option Nat) (p r : Nat) : Bool := decide (sE tb rN rW c p (2 * r) ≠ sE tb rN rW c p (2 * r + 1))
def anS (tb : Nat → Bool) (rN : Nat → Nat) (rW : Nat → Nat → Nat) (c : Nat → Nat → Option Nat) : Nat → Bool
  | 0 => false
  | i + 1 => anS tb rN rW c i || dfB tb rN rW c (i / 2) (i % 2)
theorem oI_inj {a b : Option Nat} (ha : ∀ q, a = some q → q < 2 ^ 31) (hb : ∀ q, b = some q → q < 2 ^ 31) : oI (-1) a = oI (-1) b ↔ a = b := by
  constructor
  · intro h
    cases a with
    | none =>
      cases b with
      | none => rfl
      | some q => exact absurd h (neg1 (hb q rfl))
    | some p =>
      cases b with
      | none => exact absurd h.symm (neg1 (ha p rfl))
      | some q => rw [(nI_eq (ha p rfl) (hb q rfl)).mp h]
  · intro h; rw [h]
theorem sE_lt {s : Nat} {tb : Nat → Bool} {rN : Nat → Nat} {rW : Nat → Nat → Nat} {c : Nat → Nat → Option Nat} (hc : okC s c) (hw : ∀ d, d < 4 → ∀ i, i < rN d → rW d i < 6) {p d q : Nat} (hp : p < s) (hd : d < 4) (e : sE tb rN rW c p d = some q) : q < s := by
  unfold sE at e
  by_cases t : tb (d / 2) = true
  · rw [if_pos t] at e
    exact wk_lt hc hp (hw d hd) e
  · rw [if_neg t] at e; cases e
theorem plan1 {s : Nat} (hs : s ≤ 24) {lk bc : AR} (h : CN s lk bc) {tb : Nat → Bool} {rN : Nat → Nat} {rW : Nat → Nat → Nat} {rt : AR} {rl : Nat → AR} {rn : AR} (hU : RU tb rN rW rt rl rn) {se : AR} {Q : Int32 → AR → Prop} (hQ : ∀ se', (∀ p d, p < s → d < 4 → se' (p * 4 + d) = oI (-1) (sm tb rN rW (cA lk) p d)) → Q (bI (anS tb rN rW (cA lk) (2 * s))) se') : wp_X2_planSeams (nI s) lk se rt rl rn Q := by
  have hw : ∀ d, d < 4 → ∀ i, i < rN d → rW d i < 6 := fun d hd i hi => ((hU.2 d hd).2.2 i hi).1
  have hb31 : ∀ p d, p < s → d < 4 → ∀ q, sE tb rN rW (cA lk) p d = some q → q < 2 ^ 31 := fun p d hp hd q e => by
    have := sE_lt (cA_ok h) hw hp hd e
    omega
  refine cl3n (body := wb_X2_planSeams_4 (nI s) lk rt rl rn Q) s (fun k a se => a = bI (anS tb rN rW (cA lk) (2 * k)) ∧ ∀ p d, p < k → d < 4 → se (p * 4 + d) = oI (-1) (sm tb rN rW (cA lk) p d)) ?_ ?_ ⟨rfl, fun p d hp => by omega⟩
  · rintro p hp a se1 ⟨rfl, hse⟩ rc hrc
    refine br_ge hp (by omega) (br_ge (N := 24) (by omega) (by decide) ?_)
    refine cl3n (body := wb_X2_planSeams_21 (nI s) lk rt rl rn (nI p) rc Q) 2 (fun r a se => a = bI (anS tb rN rW (cA lk) (2 * p + r)) ∧ (∀ p' d, p' < p → d < 4 → se (p' * 4 + d) = oI (-1) (sm tb rN rW (cA lk) p' d)) ∧ ∀ d, d < 2 * r → se (p * 4 + d) = oI (-1) (sm tb rN rW (cA lk) p d)) ?_ ?_ ⟨rfl, hse, fun d hd => by omega⟩
    · rintro r hr a se2 ⟨rfl, h1, h2⟩ rc2 hrc2
      refine br_ge (N := 2) hr (by decide) ⟨vp_in_nI hr (by decide), fun jj hjj ejj => ?_⟩
      obtain rfl : jj = r := ((nI_eq (by omega) (by omega)).mp ejj).symm
      rw [hU.1 jj hjj]
      have e4 : nI p * 4 + 2 * nI jj = nI (p * 4 + 2 * jj) := by
        rw [show (4 : Int32) = nI 4 from rfl, show (2 : Int32) = nI 2 from rfl, pk_mul, pk_mul, nI_add]
      have dm : (2 * jj) / 2 = jj := by omega
      have dm1 : (2 * jj + 1) / 2 = jj := by omega
      have x0 : xr (2 * jj) = 2 * jj + 1 := by unfold xr; rw [if_pos (by omega)]
      have x1 : xr (2 * jj + 1) = 2 * jj := by unfold xr; rw [if_neg (by omega)]; omega
      -- both ends are known
      have go : ∀ u v : Option Nat, u = sE tb rN rW (cA lk) p (2 * jj) → v = sE tb rN rW (cA lk) p (2 * jj + 1) → wp_X2_planSeams_87 (nI s) lk rt rl rn (bI (anS tb rN rW (cA lk) (2 * p + jj))) (nI p) (nI jj) (oI (-1) u) (oI (-1) v) se2 rc rc2 Q := by
        intro u v hu hv
        have hi := oI_inj (a := u) (b := v) (fun q e => hb31 p (2 * jj) hp (by omega) q (by rw [← hu]; exact e)) (fun q e => hb31 p (2 * jj + 1) hp (by omega) q (by rw [← hv]; exact e))
        have fin : ∀ (df : Bool) (a b : Int32), df = dfB tb rN rW (cA lk) p jj → a = oI (-1) (sm tb rN rW (cA lk) p (2 * jj)) → b = oI (-1) (sm tb rN rW (cA lk) p (2 * jj + 1)) → wp_X2_planSeams_152 (nI s) lk rt rl rn (bI (anS tb rN rW (cA lk) (2 * p + jj))) (nI p) (nI jj) (bI df) (nI (p * 4 + 2 * jj + 1)) b (upd se2 (p * 4 + 2 * jj) a) rc rc2 Q := by
          intro df a b hdf ha hb
          refine ⟨vp_in_nI (by omega) (by decide), ?_⟩
          have last : ∀ t : Bool, t = (anS tb rN rW (cA lk) (2 * p + jj) || df) → wp_X2_planSeams_167 (nI s) lk rt rl rn (nI p) (nI jj) (bI t) (upd (upd se2 (p * 4 + 2 * jj) a) (nI (p * 4 + 2 * jj + 1)).toNatClampNeg b) rc rc2 Q := by
            intro t ht x hx
            subst hx
            rw [cl_nI (by omega)]
            refine hrc2 _ _ ⟨?_, fun p' d hp' hd => ?_, fun d hd => ?_⟩
            · rw [ht, hdf, show 2 * p + (jj + 1) = 2 * p + jj + 1 by omega, anS, show (2 * p + jj) / 2 = p by omega, show (2 * p + jj) % 2 = jj by omega]
            · rw [upd_n (by omega), upd_n (by omega)]; exact h1 p' d hp' hd
            · by_cases c1 : d = 2 * jj + 1
              · subst c1; rw [show p * 4 + (2 * jj + 1) = p * 4 + 2 * jj + 1 by omega, upd_s]; exact hb
              · by_cases c2 : d = 2 * jj
                · subst c2; rw [upd_n (by omega), upd_s]; exact ha
                · rw [upd_n (by omega), upd_n (by omega)]; exact h2 d (by omega)
          exact brb (fun e => last true (by rw [e]; rfl)) (fun e => brb' (fun e2 => last false (by rw [e, e2]; rfl)) (fun e2 => last true (by rw [e2, Bool.or_true])))
        unfold wp_X2_planSeams_87 wp_X2_planSeams_101 wp_X2_planSeams_126
        rw [e4, nI_1, cl_nI (by omega)]
        have vi : vp_in (nI (p * 4 + 2 * jj)) 96 := vp_in_nI (by omega) (by decide)
        refine ⟨fun c => ?_, fun c => ?_⟩
        · have e := hi.mp c
          rw [hu, hv] at e
          have d0 : dfB tb rN rW (cA lk) p jj = false := decide_eq_false fun c2 => c2 e
          have s0 : sm tb rN rW (cA lk) p (2 * jj) = none := by unfold sm; rw [x0, if_pos e]
          have s1 : sm tb rN rW (cA lk) p (2 * jj + 1) = none := by unfold sm; rw [x1, if_pos e.symm]
          exact ⟨fun _ => ⟨vi, fun _ => fin false (-1) (-1) d0.symm (by rw [s0]; rfl) (by rw [s1]; rfl), fun c2 => absurd rfl c2⟩, fun c2 => absurd rfl c2⟩
        · have e : ¬ u = v := fun e => c (hi.mpr e)
          rw [hu, hv] at e
          have d0 : dfB tb rN rW (cA lk) p jj = true := decide_eq_true e
          have s0 : sm tb rN rW (cA lk) p (2 * jj) = u := by unfold sm; rw [x0, if_neg e, hu]
          have s1 : sm tb rN rW (cA lk) p (2 * jj + 1) = v := by unfold sm; rw [x1, if_neg (fun c2 => e c2.symm), hv]
          exact ⟨fun c2 => absurd c2 (by decide), fun _ => ⟨vi, fun c2 => absurd c2 (by decide), fun _ => fin true _ _ d0.symm (by rw [s0]) (by rw [s1])⟩⟩
      have second : ∀ u : Option Nat, u = sE tb rN rW (cA lk) p (2 * jj) → wp_X2_planSeams_56 (nI s) lk rt rl rn (bI (anS tb rN rW (cA lk) (2 * p + jj))) (nI p) (nI jj) (oI (-1) u) se2 rc rc2 Q := by
        intro u hu
        refine ⟨vp_in_nI hr (by decide), fun kk hkk ekk => ?_⟩
        obtain rfl : kk = jj := ((nI_eq (by omega) (by omega)).mp ekk).symm
        rw [hU.1 kk hkk]
        refine brb' (fun e => go u none hu (by unfold sE; rw [dm1, if_neg (by rw [e]; decide)])) (fun e => ?_)
        obtain ⟨u1, u2, u3⟩ := hU.2 (2 * kk + 1) (by omega)
        rw [u2]
        exact follow2 h u1 u3 hp (go u _ hu (by unfold sE; rw [dm1, if_pos e]))
      refine brb' (fun e => second none (by unfold sE; rw [dm, if_neg (by rw [e]; decide)])) (fun e => ?_)
      obtain ⟨u1, u2, u3⟩ := hU.2 (2 * jj) (by omega)
      rw [u2]
      exact follow2 h u1 u3 hp (second _ (by unfold sE; rw [dm, if_pos e]))
    · rintro a se2 ⟨rfl, h1, h2⟩ rc2
      refine br_end (N := 2) (Nat.le_refl _) (by decide) (fun x hx => ?_)
      subst hx
      refine hrc _ _ ⟨rfl, fun p' d hp' hd => ?_⟩
      by_cases c : p' = p
      · subst c; exact h2 d (by omega)
      · exact h1 p' d (by omega) hd
  · rintro a se1 ⟨rfl, hse⟩ rc
    exact br_end (Nat.le_refl s) (by omega) ⟨bI_B _, hQ se1 hse⟩
