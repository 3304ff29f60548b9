/-! PURE 40: all seams of a round: the class -/
section SEAMS
variable {tb : Nat → Bool} {rN : Nat → Nat} {rW : Nat → Nat → Nat} {c : Nat → Nat → Option Nat}
/-- all seams of a round -/
def fS (tb : Nat → Bool) (rN : Nat → Nat) (rW : Nat → Nat → Nat) (c : Nat → Nat → Option Nat) (s : Nat) : SmT := fun e => e.1 < 4 ∧ e.2.1 < s ∧ sm tb rN rW c e.2.1 (xr e.1) = some e.2.2
theorem sm_lt {s : Nat} (hc : okC s c) (hw : ∀ d, d < 4 → ∀ i, i < rN d → rW d i < 6) {p d q : Nat} (hp : p < s) (hd : d < 4) (e : sm tb rN rW c p d = some q) : q < s := by
  unfold sm at e
  by_cases t : sE tb rN rW c p d = sE tb rN rW c p (xr d)
  · rw [if_pos t] at e; cases e
  · rw [if_neg t] at e
    exact sE_lt hc hw hp hd e
theorem anS_iff : ∀ {i : Nat}, anS tb rN rW c i = true ↔ ∃ j, j < i ∧ dfB tb rN rW c (j / 2) (j % 2) = true
  | 0 => ⟨fun h => by (cases h), fun ⟨j, hj, _⟩ => by omega⟩
  | i + 1 => by
    rw [anS, Bool.or_eq_true, anS_iff (i := i)]
    constructor
    · rintro (⟨j, hj, h⟩ | h)
      · exact ⟨j, by omega, h⟩
      · exact ⟨i, by omega, h⟩
    · rintro ⟨j, hj, h⟩
      by_cases e : j = i
      · subst e; exact Or.inr h
      · exact Or.inl ⟨j, by omega, h⟩
theorem anS_F {s : Nat} : anS tb rN rW c (2 * s) = true ↔ ∃ e, fS tb rN rW c s e := by
  rw [anS_iff]
  constructor
  · rintro ⟨j, hj, h⟩
    have hne : sE tb rN rW c (j / 2) (2 * (j % 2)) ≠ sE tb rN rW c (j / 2) (2 * (j % 2) + 1) := of_decide_eq_true h
    have x0 : xr (2 * (j % 2)) = 2 * (j % 2) + 1 := by unfold xr; rw [if_pos (by omega)]
    have x1 : xr (2 * (j % 2) + 1) = 2 * (j % 2) := by unfold xr; rw [if_neg (by omega)]; omega
    cases c1 : sE tb rN rW c (j / 2) (2 * (j % 2)) with
    | some q =>
      refine ⟨(2 * (j % 2) + 1, j / 2, q), ?_, ?_, ?_⟩
      · show 2 * (j % 2) + 1 < 4; omega
      · show j / 2 < s; omega
      · show sm tb rN rW c (j / 2) (xr (2 * (j % 2) + 1)) = some q
        rw [x1]; unfold sm; rw [x0, if_neg hne, c1]
    | none =>
      cases c2 : sE tb rN rW c (j / 2) (2 * (j % 2) + 1) with
      | none => exact absurd (by rw [c1, c2]) hne
      | some q =>
        refine ⟨(2 * (j % 2), j / 2, q), ?_, ?_, ?_⟩
        · show 2 * (j % 2) < 4; omega
        · show j / 2 < s; omega
        · show sm tb rN rW c (j / 2) (xr (2 * (j % 2))) = some q
          rw [x0]; unfold sm; rw [x1, if_neg (fun e => hne e.symm), c2]
  · rintro ⟨⟨d, p, q⟩, hd, hp, h⟩
    have hd : d < 4 := hd
    have hp : p < s := hp
    have h : sm tb rN rW c p (xr d) = some q := h
    refine ⟨2 * p + d / 2, by omega, decide_eq_true ?_⟩
    rw [show (2 * p + d / 2) / 2 = p by omega, show (2 * p + d / 2) % 2 = d / 2 by omega]
    intro e
    have : sE tb rN rW c p (xr d) = sE tb rN rW c p (xr (xr d)) := by
      rw [xr_xr]
      by_cases c0 : d % 2 = 0
      · rw [show xr d = 2 * (d / 2) + 1 by unfold xr; rw [if_pos c0]; omega, ← e, show 2 * (d / 2) = d by omega]
      · rw [show xr d = 2 * (d / 2) by unfold xr; rw [if_neg c0]; omega, e, show 2 * (d / 2) + 1 = d by omega]
    unfold sm at h
    rw [if_pos this] at h
    cases h
/-- the class's order -/
def tC (tb : Nat → Bool) (rN : Nat → Nat) (rW : Nat → Nat → Nat) (c : Nat → Nat → Option Nat) (s k : Nat) : SmT := fun e => fS tb rN rW c s e ∧ 4 * e.2.1 + xr e.1 < k
theorem tC_some {s p t q : Nat} (hp : p < s) (ht : t < 4) (h : sm tb rN rW c p t = some q) : tC tb rN rW c s (4 * p + t + 1) = ad (tC tb rN rW c s (4 * p + t)) (xr t, p, q) := by
  funext e
  refine propext ⟨fun ⟨hF, hlt⟩ => ?_, fun h' => ?_⟩
  · obtain ⟨d, p', q'⟩ := e
    have hF1 : d < 4 := hF.1
    have hF3 : sm tb rN rW c p' (xr d) = some q' := hF.2.2
    have hlt : 4 * p' + xr d < 4 * p + t + 1 := hlt
    have hx := (xr4 d hF1).1
    by_cases c0 : 4 * p' + xr d < 4 * p + t
    · exact Or.inl ⟨hF, c0⟩
    · have e1 : p' = p := by omega
      have e2 : xr d = t := by omega
      subst e1
      rw [e2, h] at hF3
      cases hF3
      refine Or.inr ?_
      rw [← e2, xr_xr]
  · rcases h' with ⟨hF, hlt⟩ | rfl
    · exact ⟨hF, by omega⟩
    · refine ⟨⟨(xr4 t ht).1, hp, ?_⟩, ?_⟩
      · show sm tb rN rW c p (xr (xr t)) = some q
        rw [xr_xr]; exact h
      · show 4 * p + xr (xr t) < 4 * p + t + 1
        rw [xr_xr]; omega
theorem tC_none {s p t : Nat} (ht : t < 4) (h : sm tb rN rW c p t = none) : tC tb rN rW c s (4 * p + t + 1) = tC tb rN rW c s (4 * p + t) := by
  funext e
  refine propext ⟨fun ⟨hF, hlt⟩ => ⟨hF, ?_⟩, fun ⟨hF, hlt⟩ => ⟨hF, by omega⟩⟩
  obtain ⟨d, p', q'⟩ := e
  have hF1 : d < 4 := hF.1
  have hF3 : sm tb rN rW c p' (xr d) = some q' := hF.2.2
  have hlt : 4 * p' + xr d < 4 * p + t + 1 := hlt
  have hx := (xr4 d hF1).1
  show 4 * p' + xr d < 4 * p + t
  by_cases c0 : 4 * p' + xr d < 4 * p + t
  · exact c0
  · have e1 : p' = p := by omega
    have e2 : xr d = t := by omega
    subst e1
    rw [e2, h] at hF3
    cases hF3
theorem tC_end {s : Nat} : tC tb rN rW c s (4 * s) = fS tb rN rW c s := by
  funext e
  refine propext ⟨fun h => h.1, fun h => ⟨h, ?_⟩⟩
  have h1 := (xr4 e.1 h.1).1
  have h2 := h.2.1
  omega
theorem seam1 {s n p t k : Nat} (hs : s ≤ 24) (hc : ∀ k l k', k < s → l < 6 → c k l = some k' → k' < s ∧ c k' (xr l) = some k) {rt : AR} {rl : Nat → AR} {rn : AR} (hU : RU tb rN rW rt rl rn) (hp : p < s) (ht : t < 4) (hk : k = 4 * p + t) {nm : Nat → Nm} {gc : Int32} {lk bc gn : AR} (hn : n ≤ s + 11 * k) (h : SC (qE s rN rW c (fS tb rN rW c s)) (qM rN (fS tb rN rW c s)) (qV s rN (tC tb rN rW c s k)) (qE s rN rW c (tC tb rN rW c s k)) (qM rN (tC tb rN rW c s k)) s n nm gc lk bc gn) {d : Nat} (hd : d = xr t) {x : Int32} (hx : x = oI (-1) (sm tb rN rW c p t)) {Q : Int32 → Int32 → AR → AR → AR → Prop} (hQ : ∀ n' nm' gc' lk' bc' gn', SC (qE s rN rW c (fS tb rN rW c s)) (qM rN (fS tb rN rW c s)) (qV s rN (tC tb rN rW c s (k + 1))) (qE s rN rW c (tC tb rN rW c s (k + 1))) (qM rN (tC tb rN rW c s (k + 1))) s n' nm' gc' lk' bc' gn' → n' ≤ s + 11 * (k + 1) → Q gc' (nI n') lk' bc' gn') : wp_X2_sew (nI p) x gc (nI n) lk bc gn (rl d) (rn d) Q := by
  subst hk hd hx
  have hw : ∀ d, d < 4 → ∀ i, i < rN d → rW d i < 6 := fun d hd i hi => ((hU.2 d hd).2.2 i hi).1
  have hok : okC s c := fun k l q hk hl e => (hc k l q hk hl e).1
  have hx4 := (xr4 t ht).1
  cases e : sm tb rN rW c p t with
  | none =>
    rw [tC_none ht e] at hQ
    exact ⟨fun c0 => absurd c0 (by decide), fun _ => hQ n nm _ _ _ _ h (by omega)⟩
  | some q =>
    rw [tC_some hp ht e] at hQ
    have hq := sm_lt hok hw hp ht e
    obtain ⟨u1, u2, u3⟩ := hU.2 (xr t) hx4
    rw [u2]
    refine sewS hc (F := fS tb rN rW c s) ⟨hx4, hp, ?_⟩ (fun q' hT => ?_) hx4 hp hq u1 u3 (by omega) h (fun n' nm' gc' lk' bc' gn' h1 h2 => hQ n' nm' gc' lk' bc' gn' h1 (by omega))
    · show sm tb rN rW c p (xr (xr t)) = some q
      rw [xr_xr]; exact e
    · have : 4 * p + xr (xr t) < 4 * p + t := hT.2
      rw [xr_xr] at this
      omega
theorem seams1 {s : Nat} (hs : s ≤ 24) (hc : ∀ k l k', k < s → l < 6 → c k l = some k' → k' < s ∧ c k' (xr l) = some k) {rt : AR} {rl : Nat → AR} {rn : AR} (hU : RU tb rN rW rt rl rn) {se : AR} (hse : ∀ p d, p < s → d < 4 → se (p * 4 + d) = oI (-1) (sm tb rN rW c p d)) {nm : Nat → Nm} {gc : Int32} {lk bc gn : AR} (h : SC (qE s rN rW c (fS tb rN rW c s)) (qM rN (fS tb rN rW c s)) (qV s rN (tC tb rN rW c s 0)) (qE s rN rW c (tC tb rN rW c s 0)) (qM rN (tC tb rN rW c s 0)) s s nm gc lk bc gn) {Q : Int32 → Int32 → AR → AR → AR → Prop} (hQ : ∀ n' nm' gc' lk' bc' gn', SC (qE s rN rW c (fS tb rN rW c s)) (qM rN (fS tb rN rW c s)) (qV s rN (fS tb rN rW c s)) (qE s rN rW c (fS tb rN rW c s)) (qM rN (fS tb rN rW c s)) s n' nm' gc' lk' bc' gn' → Q gc' (nI n') lk' bc' gn') : wp_X2_sewSeams gc (nI s) lk bc gn se rl rn Q := by
  intro x2 hx2
  have e24 : x2 = nI s := by
    rw [hx2, if_neg]
    intro c0
    exact Int32.not_lt.mpr (nI_le hs (by decide)) c0
  subst e24
  refine cl6r (body := wb_X2_sewSeams_12 se rl rn (nI s) Q) s (fun p gc pl lk bc gn => ∃ n nm, pl = nI n ∧ n ≤ s + 11 * (4 * p) ∧ SC (qE s rN rW c (fS tb rN rW c s)) (qM rN (fS tb rN rW c s)) (qV s rN (tC tb rN rW c s (4 * p))) (qE s rN rW c (tC tb rN rW c s (4 * p))) (qM rN (tC tb rN rW c s (4 * p))) s n nm gc lk bc gn) ?_ ?_ ⟨s, nm, rfl, by omega, h⟩
  · rintro p hp gc1 pl1 lk1 bc1 gn1 ⟨n, nm1, rfl, hn, hSC⟩ rc hrc
    refine br_ge hp (by omega) ?_
    refine cl6r (body := wb_X2_sewSeams_20 se rl rn (nI s) (nI p) rc Q) 2 (fun r gc pl lk bc gn => ∃ n nm, pl = nI n ∧ n ≤ s + 11 * (4 * p + 2 * r) ∧ SC (qE s rN rW c (fS tb rN rW c s)) (qM rN (fS tb rN rW c s)) (qV s rN (tC tb rN rW c s (4 * p + 2 * r))) (qE s rN rW c (tC tb rN rW c s (4 * p + 2 * r))) (qM rN (tC tb rN rW c s (4 * p + 2 * r))) s n nm gc lk bc gn) ?_ ?_ ⟨n, nm1, rfl, by omega, hSC⟩
    · rintro r hr gc2 pl2 lk2 bc2 gn2 ⟨n2, nm2, rfl, hn2, hSC2⟩ rc2 hrc2
      have e4 : nI p * 4 + 2 * nI r = nI (p * 4 + 2 * r) := by
        rw [show (4 : Int32) = nI 4 from rfl, show (2 : Int32) = nI 2 from rfl, pk_mul, pk_mul, nI_add]
      have x0 : 2 * r + 1 = xr (2 * r) := by unfold xr; rw [if_pos (by omega)]
      have x1 : 2 * r = xr (2 * r + 1) := by unfold xr; rw [if_neg (by omega)]; omega
      unfold wb_X2_sewSeams_20
      have e5 : nI (p * 4 + 2 * r) + 1 = nI (p * 4 + 2 * r + 1) := by rw [nI_1]
      rw [e4, e5, cl_nI (by omega), cl_nI (by omega)]
      refine br_ge (N := 2) hr (by decide) ⟨vp_in_nI (by omega) (by decide), vp_in_nI hr (by decide), fun jj hjj ejj => ?_⟩
      obtain rfl : jj = r := ((nI_eq (by omega) (by omega)).mp ejj).symm
      refine seam1 (t := 2 * jj) hs hc hU hp (by omega) rfl hn2 hSC2 x0 (hse p (2 * jj) hp (by omega)) (fun n3 nm3 gc3 lk3 bc3 gn3 hSC3 hn3 => ⟨vp_in_nI (by omega) (by decide), ?_⟩)
      refine seam1 (t := 2 * jj + 1) (k := 4 * p + 2 * jj + 1) hs hc hU hp (by omega) (by omega) hn3 hSC3 x1 (hse p (2 * jj + 1) hp (by omega)) (fun n4 nm4 gc4 lk4 bc4 gn4 hSC4 hn4 x hx => ?_)
      subst hx
      exact hrc2 _ _ _ _ _ ⟨n4, nm4, rfl, by omega, hSC4⟩
    · rintro gc2 pl2 lk2 bc2 gn2 ⟨n2, nm2, rfl, hn2, hSC2⟩ rc2
      refine br_end (N := 2) (Nat.le_refl _) (by decide) (fun x hx => ?_)
      subst hx
      exact hrc _ _ _ _ _ ⟨n2, nm2, rfl, by omega, hSC2⟩
  · rintro gc1 pl1 lk1 bc1 gn1 ⟨n, nm1, rfl, hn, hSC⟩ rc
    rw [tC_end] at hSC
    exact br_end (Nat.le_refl s) (by omega) (hQ n nm1 _ _ _ _ hSC)
end SEAMS
theorem cA_some {s : Nat} {lk bc : AR} (h : CN s lk bc) {k l q : Nat} (hk : k < s) (hl : l < 6) (hq : q < s) (e : lk (k * 6 + l) = nI q) : cA lk k l = some q := by
  have hs := h.1
  have e1 := cA_I h hk hl
  rw [e] at e1
  cases c : cA lk k l with
  | none =>
    rw [c] at e1
    exact absurd e1.symm (neg1 (q := q) (by omega))
  | some r =>
    rw [c] at e1
    have hr := cA_ok h k l r hk hl c
    rw [(nI_eq (by omega) (by omega)).mp e1]
theorem cA_sym {s : Nat} {lk bc : AR} (h : CN s lk bc) : ∀ k l k', k < s → l < 6 → cA lk k l = some k' → k' < s ∧ cA lk k' (xr l) = some k := by
  intro k l k' hk hl e
  have hs := h.1
  have hk' := cA_ok h k l k' hk hl e
  have e1 := cA_I h hk hl
  rw [e] at e1
  refine ⟨hk', cA_some h hk' (xr_lt l hl) hk ?_⟩
  rcases h.2.2 k l hk hl with c | ⟨q, hq, c, c2⟩
  · rw [c] at e1
    exact absurd e1 (neg1 (q := k') (by omega))
  · rw [c] at e1
    have : q = k' := (nI_eq (by omega) (by omega)).mp e1
    subst this
    exact c2
theorem roundC {tb : Nat → Bool} {rN : Nat → Nat} {rW : Nat → Nat → Nat} {s b e : Nat} (hs : s ≤ 24) {lk bc : AR} (h : CN s lk bc) {rt : AR} {rl : Nat → AR} {rn : AR} (hU : RU tb rN rW rt rl rn) {se : AR} (hse : ∀ p d, p < s → d < 4 → se (p * 4 + d) = oI (-1) (sm tb rN rW (cA lk) p d)) (hb : b < s) (he : e < s) {gn rm : AR} {Q : Int32 → Int32 → Int32 → Int32 → AR → AR → AR → AR → Prop} (hQ : ∀ s2 b2 e2 lk2 bc2 gn2 rm2, CN s2 lk2 bc2 → QP (qV s rN (fS tb rN rW (cA lk) s)) (qE s rN rW (cA lk) (fS tb rN rW (cA lk) s)) (qM rN (fS tb rN rW (cA lk) s)) (b, 4, 0) (e, 4, 0) s2 (lkA s2 lk2) b2 e2 → Q 0 (nI s2) (nI b2) (nI e2) lk2 bc2 gn2 rm2) : wp_X2_sewSeams 0 (nI s) lk bc gn se rl rn (fun gc pl lk bc gn => wp_X2_fold gc lk bc gn (fun gc lk bc gn => wp_X2_renumber pl (nI b) (nI e) lk bc rm (fun pl bg en lk bc rn => Q gc pl bg en lk bc gn rn))) := by
  have hc := cA_sym h
  have hs2 := h.1
  have h0 : SC (qE s rN rW (cA lk) (fS tb rN rW (cA lk) s)) (qM rN (fS tb rN rW (cA lk) s)) (qV s rN (tC tb rN rW (cA lk) s 0)) (qE s rN rW (cA lk) (tC tb rN rW (cA lk) s 0)) (qM rN (tC tb rN rW (cA lk) s 0)) s s (fun k => (k, 4, 0)) 0 lk bc gn := by
    refine ⟨_, _, startC (LE.eqv _ _) h (fun k l k' ⟨hk, hk', hl, ek⟩ => Or.inl ⟨k, k', hk, hl, cA_some h hk hl hk' ek, rfl, rfl⟩), Nat.le_refl s, fun _ _ => rfl, fun p q _ _ e => by
      have e' : ((p, 4, 0) : Nm) = (q, 4, 0) := e
      cases e'; rfl, fun x => ⟨?_, ?_⟩, ?_, ?_⟩
    · rintro (⟨p, hp, e⟩ | ⟨p, d, q, i, hT, _⟩)
      · exact ⟨p, hp, e.symm⟩
      · have := hT.2; omega
    · rintro ⟨p, hp, e⟩
      exact Or.inl ⟨p, hp, e.symm⟩
    · rintro x l y (⟨k, k', hk, hl, ec, rfl, rfl⟩ | ⟨p, d, q, i, hT, _⟩)
      · have hk' := (hc k l k' hk hl ec).1
        have e1 := cA_I h hk hl
        rw [ec] at e1
        exact ⟨hl, k, k', hk, hk', rfl, rfl, k, k', hk, hk', rfl, rfl, e1⟩
      · have := hT.2; omega
    · rintro x y ⟨p, d, q, hT, _⟩
      have := hT.2; omega
  refine seams1 hs hc hU hse h0 (fun n nm gc' lk' bc' gn' hSC => ?_)
  obtain ⟨rt', G, h1, h2, h3, h4, h5, h6, h7⟩ := hSC
  have hbn := h3 b hb
  have hen := h3 e he
  refine finishC (qE_sym hc) h1 h4 h5 h6 h7 (b := b) (e := e) (by omega) (by omega) (fun s2 b2 e2 lk2 bc2 gn2 rm2 f1 _ f2 => hQ s2 b2 e2 lk2 bc2 gn2 rm2 f1 ?_)
  rw [hbn, hen] at f2
  exact f2
