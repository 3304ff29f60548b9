/-! PURE 32: reading a net -/
def oI (d : Int32) : Option Nat → Int32
  | none => d
  | some q => nI q
def wk (cell : Nat → Nat → Option Nat) (w : Nat → Nat) (p : Nat) : Nat → Option Nat
  | 0 => some p
  | k + 1 => (wk cell w p k).bind fun q => cell q (w k)
def cA (lk : AR) (q l : Nat) : Option Nat := if lk (q * 6 + l) = -1 then none else some (lk (q * 6 + l)).toNatClampNeg
def cN (nx : AR) (q l : Nat) : Option Nat := if nx (6 * q + l) = -6 then none else some (nx (6 * q + l)).toNatClampNeg
/-- cells that lead to places -/
def okC (s : Nat) (cell : Nat → Nat → Option Nat) : Prop := ∀ k l q, k < s → l < 6 → cell k l = some q → q < s
theorem wk_lt {s : Nat} {cell : Nat → Nat → Option Nat} (h : okC s cell) {w : Nat → Nat} {p : Nat} (hp : p < s) : ∀ {k q : Nat}, (∀ i, i < k → w i < 6) → wk cell w p k = some q → q < s
  | 0, q, _, e => by
    have e' : some p = some q := e
    cases e'; exact hp
  | k + 1, q, hw, e => by
    rw [wk] at e
    cases c : wk cell w p k with
    | none => rw [c] at e; cases e
    | some r =>
      rw [c] at e
      exact h r (w k) q (wk_lt h hp (fun i hi => hw i (by omega)) c) (hw k (by omega)) e
theorem wk_none {cell : Nat → Nat → Option Nat} {w : Nat → Nat} {p k : Nat} (h : wk cell w p k = none) : ∀ {m : Nat}, k ≤ m → wk cell w p m = none
  | 0, hm => by obtain rfl : k = 0 := by omega
                exact h
  | m + 1, hm => by
    by_cases c : k = m + 1
    · rw [← c]; exact h
    · rw [wk, wk_none h (m := m) (by omega)]; rfl
theorem cA_I {s : Nat} {lk bc : AR} (h : CN s lk bc) {k l : Nat} (hk : k < s) (hl : l < 6) : lk (k * 6 + l) = oI (-1) (cA lk k l) := by
  have hs := h.1
  unfold cA
  rcases h.2.2 k l hk hl with c | ⟨q, hq, c, _⟩
  · rw [if_pos c, c]; rfl
  · rw [if_neg (by rw [c]; exact fun c2 => neg1 (q := q) (by omega) c2.symm), c, cl_nI (by omega)]; rfl
theorem cA_ok {s : Nat} {lk bc : AR} (h : CN s lk bc) : okC s (cA lk) := by
  intro k l q hk hl e
  have hs := h.1
  unfold cA at e
  rcases h.2.2 k l hk hl with c | ⟨q', hq, c, _⟩
  · rw [if_pos c] at e; cases e
  · rw [if_neg (by rw [c]; exact fun c2 => neg1 (q := q') (by omega) c2.symm), c, cl_nI (by omega)] at e
    cases e; exact hq
theorem cN_I {s : Nat} (hs : s ≤ 1400) {nx : AR} (h : ∀ k l, k < s → l < 6 → nx (6 * k + l) = -6 ∨ ∃ k', k' < s ∧ nx (6 * k + l) = nI k') {k l : Nat} (hk : k < s) (hl : l < 6) : nx (6 * k + l) = oI (-6) (cN nx k l) := by
  unfold cN
  rcases h k l hk hl with c | ⟨q, hq, c⟩
  · rw [if_pos c, c]; rfl
  · rw [if_neg (by rw [c]; exact fun c2 => neg6 (q := q) (by omega) c2.symm), c, cl_nI (by omega)]; rfl
theorem cN_ok {s : Nat} (hs : s ≤ 1400) {nx : AR} (h : ∀ k l, k < s → l < 6 → nx (6 * k + l) = -6 ∨ ∃ k', k' < s ∧ nx (6 * k + l) = nI k') : okC s (cN nx) := by
  intro k l q hk hl e
  unfold cN at e
  rcases h k l hk hl with c | ⟨q', hq, c⟩
  · rw [if_pos c] at e; cases e
  · rw [if_neg (by rw [c]; exact fun c2 => neg6 (q := q') (by omega) c2.symm), c, cl_nI (by omega)] at e
    cases e; exact hq
theorem follow2 {s : Nat} {lk bc : AR} (h : CN s lk bc) {w : Nat → Nat} {n : Nat} (hn : n ≤ 12) {wl : AR} (hw : ∀ i, i < n → w i < 6 ∧ wl i = nI (w i)) {p : Nat} (hp : p < s) {Q : Int32 → Prop} (hQ : Q (oI (-1) (wk (cA lk) w p n))) : wp_X6_follow (nI p) 6480 wl (nI n) lk Q := by
  have hs := h.1
  refine cl2 (body := wb_X6_follow_5 6480 wl (nI n) lk Q) n (fun k => oI (-1) (wk (cA lk) w p k)) ?_ ?_
  · intro k hk rc hrc
    cases c : wk (cA lk) w p k with
    | none =>
      rw [wk_none c (Nat.le_of_lt hk)] at hQ
      exact br_ge hk (by omega) ⟨fun _ => hQ, fun c2 => absurd (by decide) c2⟩
    | some q =>
      have hq := wk_lt (cA_ok h) hp (fun i hi => (hw i (by omega)).1) c
      have hwk := (hw k hk).1
      refine br_ge hk (by omega) ⟨fun c2 => absurd c2 (nI_pos (by omega)), fun _ => ⟨vp_in_nI (by omega) (by decide), ?_⟩⟩
      show vp_in (nI q * 6 + _) 6480 ∧ ∀ x, x = lk (nI q * 6 + _).toNatClampNeg → _
      rw [cl_nI (by omega), (hw k hk).2, ix6, cl_nI (by omega)]
      refine ⟨vp_in_nI (by omega) (by decide), fun x hx y hy => ?_⟩
      rw [cA_I h hq hwk] at hx
      subst hx hy
      rw [wk, c] at hrc
      exact hrc
  · intro rc
    exact br_end (Nat.le_refl n) (by omega) hQ
theorem readWord8 {s : Nat} (hs : s ≤ 1400) {nx : AR} (h : ∀ k l, k < s → l < 6 → nx (6 * k + l) = -6 ∨ ∃ k', k' < s ∧ nx (6 * k + l) = nI k') {w : Nat → Nat} {n j : Nat} (hn : n ≤ 12) (hj : j < 4) {st : AR} (hst : st (6 + j) = nI n) (hw : ∀ i, i < n → w i < 6 ∧ st (10 + 12 * j + i) = nI (w i)) {p : Nat} (hp : p < s) {Q : Int32 → Prop} (hQ : Q (oI (-6) (wk (cN nx) w p n))) : wp_X8_readWord (nI j) (nI p) st nx Q := by
  have e6 : (6 : Int32) + nI j = nI (6 + j) := by rw [i6, nI_add]
  have e10 : ∀ k, ((10 : Int32) + (12 : Int32) * nI j) + nI k = nI (10 + 12 * j + k) := fun k => by
    rw [show (12 : Int32) = nI 12 from rfl, show (10 : Int32) = nI 10 from rfl, pk_mul, nI_add, nI_add]
  refine cl2 (body := wb_X8_readWord_5 st nx (nI j) Q) n (fun k => oI (-6) (wk (cN nx) w p k)) ?_ ?_
  · intro k hk rc hrc
    unfold wb_X8_readWord_5
    rw [e6, e10, cl_nI (by omega), cl_nI (by omega), hst, (hw k hk).2]
    refine ⟨vp_in_nI (by omega) (by decide), ?_⟩
    cases c : wk (cN nx) w p k with
    | none =>
      rw [wk_none c (Nat.le_of_lt hk)] at hQ
      exact br_ge hk (by omega) ⟨fun _ => hQ, fun c2 => absurd (by decide) c2⟩
    | some q =>
      have hq := wk_lt (cN_ok hs h) hp (fun i hi => (hw i (by omega)).1) c
      have hwk := (hw k hk).1
      refine br_ge hk (by omega) ⟨fun c2 => absurd c2 (nI_pos (by omega)), fun _ => ⟨vp_in_nI (by omega) (by decide), ?_⟩⟩
      show vp_in ((6 : Int32) * nI q + _) 8400 ∧ ∀ x, x = nx ((6 : Int32) * nI q + _).toNatClampNeg → _
      rw [six, cl_nI (by omega)]
      refine ⟨vp_in_nI (by omega) (by decide), fun x hx y hy => ?_⟩
      rw [cN_I hs h hq hwk] at hx
      subst hx hy
      rw [wk, c] at hrc
      exact hrc
  · intro rc
    unfold wb_X8_readWord_5
    rw [e6, cl_nI (by omega), hst]
    exact ⟨vp_in_nI (by omega) (by decide), br_end (Nat.le_refl n) (by omega) hQ⟩
theorem readRule8 {s : Nat} (hs : s ≤ 1400) {nx : AR} (h : ∀ k l, k < s → l < 6 → nx (6 * k + l) = -6 ∨ ∃ k', k' < s ∧ nx (6 * k + l) = nI k') {w : Nat → Nat} {n j : Nat} (hn : n ≤ 12) (hj : j < 4) {st : AR} (hst : st (60 + j) = nI n) (hw : ∀ i, i < n → w i < 6 ∧ st (64 + 12 * j + i) = nI (w i)) {p : Nat} (hp : p < s) {Q : Int32 → Prop} (hQ : Q (oI (-6) (wk (cN nx) w p n))) : wp_X8_readRule (nI j) (nI p) st nx Q := by
  have e6 : (60 : Int32) + nI j = nI (60 + j) := by rw [show (60 : Int32) = nI 60 from rfl, nI_add]
  have e10 : ∀ k, ((64 : Int32) + (12 : Int32) * nI j) + nI k = nI (64 + 12 * j + k) := fun k => by
    rw [show (12 : Int32) = nI 12 from rfl, show (64 : Int32) = nI 64 from rfl, pk_mul, nI_add, nI_add]
  refine cl2 (body := wb_X8_readRule_5 st nx (nI j) Q) n (fun k => oI (-6) (wk (cN nx) w p k)) ?_ ?_
  · intro k hk rc hrc
    unfold wb_X8_readRule_5 wp_X8_ruleLetter
    rw [e6, e10, cl_nI (by omega), cl_nI (by omega), hst, (hw k hk).2]
    refine ⟨vp_in_nI (by omega) (by decide), ?_⟩
    cases c : wk (cN nx) w p k with
    | none =>
      rw [wk_none c (Nat.le_of_lt hk)] at hQ
      exact br_ge hk (by omega) ⟨fun _ => hQ, fun c2 => absurd (by decide) c2⟩
    | some q =>
      have hq := wk_lt (cN_ok hs h) hp (fun i hi => (hw i (by omega)).1) c
      have hwk := (hw k hk).1
      refine br_ge hk (by omega) ⟨fun c2 => absurd c2 (nI_pos (by omega)), fun _ => ⟨vp_in_nI (by omega) (by decide), ?_⟩⟩
      show vp_in ((6 : Int32) * nI q + _) 8400 ∧ ∀ x, x = nx ((6 : Int32) * nI q + _).toNatClampNeg → _
      rw [six, cl_nI (by omega)]
      refine ⟨vp_in_nI (by omega) (by decide), fun x hx y hy => ?_⟩
      rw [cN_I hs h hq hwk] at hx
      subst hx hy
      rw [wk, c] at hrc
      exact hrc
  · intro rc
    unfold wb_X8_readRule_5
    rw [e6, cl_nI (by omega), hst]
    exact ⟨vp_in_nI (by omega) (by decide), br_end (Nat.le_refl n) (by omega) hQ⟩
