/-! PURE 37: a round, by names -/
section ROUND
/-- the name at position i of the seam that sews side d (of length m) from p to q -/
def nA (m p d q i : Nat) : Nm := if i = 0 then (p, 4, 0) else if i = m then (q, 4, 0) else (p, d, i - 1)
theorem nA_0 {m p d q : Nat} : nA m p d q 0 = (p, 4, 0) := if_pos rfl
theorem nA_m {m p d q : Nat} (h : 0 < m) : nA m p d q m = (q, 4, 0) := by unfold nA; rw [if_neg (by omega), if_pos rfl]
theorem nA_i {m p d q i : Nat} (h : i + 1 < m) : nA m p d q (i + 1) = (p, d, i) := by unfold nA; rw [if_neg (by omega), if_neg (by omega), Nat.add_sub_cancel]
/-- seams (d, p, q): side d is sewn from p to q -/
abbrev SmT : Type := Jn → Prop
def ad (T : SmT) (e : Jn) : SmT := fun e' => T e' ∨ e' = e
def qV (s : Nat) (rN : Nat → Nat) (T : SmT) (x : Nm) : Prop := (∃ p, p < s ∧ x = (p, 4, 0)) ∨ ∃ p d q i, T (d, p, q) ∧ i + 1 < rN d ∧ x = (p, d, i)
/-- the joint at position i of a seam, seen both ways -/
def jA (rN : Nat → Nat) (rW : Nat → Nat → Nat) (p d q i : Nat) (x : Nm) (l : Nat) (y : Nm) : Prop := (x = nA (rN d) p d q i ∧ l = rW d i ∧ y = nA (rN d) p d q (i + 1)) ∨ (x = nA (rN d) p d q (i + 1) ∧ l = xr (rW d i) ∧ y = nA (rN d) p d q i)
def qE (s : Nat) (rN : Nat → Nat) (rW : Nat → Nat → Nat) (c : Nat → Nat → Option Nat) (T : SmT) (x : Nm) (l : Nat) (y : Nm) : Prop := (∃ k k', k < s ∧ l < 6 ∧ c k l = some k' ∧ x = (k, 4, 0) ∧ y = (k', 4, 0)) ∨ ∃ p d q i, T (d, p, q) ∧ i < rN d ∧ jA rN rW p d q i x l y
def qM (rN : Nat → Nat) (T : SmT) (x y : Nm) : Prop := ∃ p d q, T (d, p, q) ∧ rN d = 0 ∧ x = (p, 4, 0) ∧ y = (q, 4, 0)
theorem qE_sym {s : Nat} {rN : Nat → Nat} {rW : Nat → Nat → Nat} {c : Nat → Nat → Option Nat} {T : SmT} (hc : ∀ k l k', k < s → l < 6 → c k l = some k' → k' < s ∧ c k' (xr l) = some k) : ∀ x l y, l < 6 → qE s rN rW c T x l y → qE s rN rW c T y (xr l) x := by
  rintro x l y hl (⟨k, k', hk, _, h1, h2, h3⟩ | ⟨p, d, q, i, hT, hi, ⟨h1, h2, h3⟩ | ⟨h1, h2, h3⟩⟩)
  · obtain ⟨hk', e⟩ := hc k l k' hk hl h1
    exact Or.inl ⟨k', k, hk', xr_lt l hl, e, h3, h2⟩
  · exact Or.inr ⟨p, d, q, i, hT, hi, Or.inr ⟨h3, by rw [h2], h1⟩⟩
  · exact Or.inr ⟨p, d, q, i, hT, hi, Or.inl ⟨h3, by rw [h2, xr_xr], h1⟩⟩
/-- one seam more, laid up to its joint i -/
def vA (rN : Nat → Nat) (V : Nm → Prop) (p d i : Nat) (x : Nm) : Prop := V x ∨ ∃ j, j < i ∧ x = (p, d, j)
def eA (rN : Nat → Nat) (rW : Nat → Nat → Nat) (D : Nm → Nat → Nm → Prop) (p d q i : Nat) (x : Nm) (l : Nat) (y : Nm) : Prop := D x l y ∨ ∃ j, j < i ∧ jA rN rW p d q j x l y
theorem qV_ad {s : Nat} {rN : Nat → Nat} {T : SmT} {p d q : Nat} (x : Nm) : qV s rN (ad T (d, p, q)) x ↔ vA rN (qV s rN T) p d (rN d - 1) x := by
  constructor
  · rintro (h | ⟨p', d', q', i, hT | hT, hi, e⟩)
    · exact Or.inl (Or.inl h)
    · exact Or.inl (Or.inr ⟨p', d', q', i, hT, hi, e⟩)
    · cases hT
      exact Or.inr ⟨i, by omega, e⟩
  · rintro ((h | ⟨p', d', q', i, hT, hi, e⟩) | ⟨j, hj, e⟩)
    · exact Or.inl h
    · exact Or.inr ⟨p', d', q', i, Or.inl hT, hi, e⟩
    · exact Or.inr ⟨p, d, q, j, Or.inr rfl, by omega, e⟩
theorem qE_ad {s : Nat} {rN : Nat → Nat} {rW : Nat → Nat → Nat} {c : Nat → Nat → Option Nat} {T : SmT} {p d q : Nat} {x : Nm} {l : Nat} {y : Nm} (h : qE s rN rW c (ad T (d, p, q)) x l y) : eA rN rW (qE s rN rW c T) p d q (rN d) x l y := by
  rcases h with h | ⟨p', d', q', i, hT | hT, hi, e⟩
  · exact Or.inl (Or.inl h)
  · exact Or.inl (Or.inr ⟨p', d', q', i, hT, hi, e⟩)
  · cases hT
    exact Or.inr ⟨i, hi, e⟩
theorem qM_ad {rN : Nat → Nat} {T : SmT} {p d q : Nat} {x y : Nm} (h : qM rN (ad T (d, p, q)) x y) : qM rN T x y ∨ (rN d = 0 ∧ x = (p, 4, 0) ∧ y = (q, 4, 0)) := by
  obtain ⟨p', d', q', hT | hT, h0, e1, e2⟩ := h
  · exact Or.inl ⟨p', d', q', hT, h0, e1, e2⟩
  · cases hT
    exact Or.inr ⟨h0, e1, e2⟩
end ROUND
/-! the class sews -/
section SEWC
variable {E : Nm → Nat → Nm → Prop} {M : Nm → Nm → Prop} {V V' : Nm → Prop} {D D' : Nm → Nat → Nm → Prop} {Mg Mg' : Nm → Nm → Prop} {s n : Nat} {nm : Nat → Nm} {gc : Int32} {lk bc gn : AR}
/-- the class's raw state in a round: V its names, D the joints laid, Mg the merges done -/
def SC (E : Nm → Nat → Nm → Prop) (M : Nm → Nm → Prop) (V : Nm → Prop) (D : Nm → Nat → Nm → Prop) (Mg : Nm → Nm → Prop) (s n : Nat) (nm : Nat → Nm) (gc : Int32) (lk bc gn : AR) : Prop :=
  ∃ rt G, CE E (LE E M) n nm 0 rt G gc lk bc gn ∧ s ≤ n ∧ (∀ k, k < s → nm k = (k, 4, 0)) ∧ (∀ p q, p < n → q < n → nm p = nm q → p = q) ∧ (∀ x, V x ↔ ∃ p, p < n ∧ nm p = x) ∧ (∀ x l y, D x l y → l < 6 ∧ ∃ p q, p < n ∧ q < n ∧ nm p = x ∧ nm q = y ∧ Rep n rt lk p l q) ∧ ∀ x y, Mg x y → ∃ p q, p < n ∧ q < n ∧ nm p = x ∧ nm q = y ∧ rt p = rt q
theorem SC.mono (h : SC E M V D Mg s n nm gc lk bc gn) (hV : ∀ x, V' x ↔ V x) (hD : ∀ x l y, D' x l y → D x l y) (hM : ∀ x y, Mg' x y → Mg x y) : SC E M V' D' Mg' s n nm gc lk bc gn := by
  obtain ⟨rt, G, h1, h2, h3, h4, h5, h6, h7⟩ := h
  exact ⟨rt, G, h1, h2, h3, h4, fun x => by rw [hV, h5], fun x l y e => h6 x l y (hD x l y e), fun x y e => h7 x y (hM x y e)⟩
theorem linkS (hS : ∀ x l y, l < 6 → E x l y → E y (xr l) x) (h : SC E M V D Mg s n nm gc lk bc gn) {a l b : Nat} (ha : a < n) (hb : b < n) (hl : l < 6) (he : E (nm a) l (nm b)) {Q : Int32 → AR → AR → AR → Prop} (hQ : ∀ gc' lk' bc' gn', SC E M V (fun x m y => D x m y ∨ (x = nm a ∧ m = l ∧ y = nm b) ∨ (x = nm b ∧ m = xr l ∧ y = nm a)) Mg s n nm gc' lk' bc' gn' → Q gc' lk' bc' gn') : wp_X2_link (nI a) (nI l) (nI b) gc lk bc gn Q := by
  obtain ⟨rt, G, h1, h2, h3, h4, h5, h6, h7⟩ := h
  have hEq := LE.eqv E M
  refine linkC hEq (LE.fc E M) hS h1 ha hb hl ⟨nm a, nm b, he, hEq.1 _, hEq.1 _⟩ (fun rt' G' gc' lk' bc' gn' hCE hCo _ _ hkeep hr => hQ _ _ _ _ ⟨rt', G', hCE, h2, h3, h4, h5, ?_, ?_⟩)
  · rintro x m y (e | ⟨rfl, rfl, rfl⟩ | ⟨rfl, rfl, rfl⟩)
    · obtain ⟨hm, p, q, hp, hq, e1, e2, u, v, hu, hv, f1, f2, f3⟩ := h6 x m y e
      exact ⟨hm, p, q, hp, hq, e1, e2, u, v, hu, hv, hCo _ _ hu hp f1, hCo _ _ hv hq f2, hkeep u m v hu hm hv f3⟩
    · exact ⟨hl, a, b, ha, hb, rfl, rfl, hr⟩
    · exact ⟨xr_lt l hl, b, a, hb, ha, rfl, rfl, Rep.symm hCE.2.2.2.2.2.2.2.2.1 hCE.1 hl hr⟩
  · intro x y e
    obtain ⟨p, q, hp, hq, e1, e2, e3⟩ := h7 x y e
    exact ⟨p, q, hp, hq, e1, e2, hCo _ _ hp hq e3⟩
theorem mergeS (h : SC E M V D Mg s n nm gc lk bc gn) {a b : Nat} (ha : a < n) (hb : b < n) (he : M (nm a) (nm b)) {Q : Int32 → AR → AR → Prop} (hQ : ∀ gc' bc' gn', SC E M V D (fun x y => Mg x y ∨ (x = nm a ∧ y = nm b)) s n nm gc' lk bc' gn' → Q gc' bc' gn') : wp_X2_merge (nI a) (nI b) gc bc gn Q := by
  obtain ⟨rt, G, h1, h2, h3, h4, h5, h6, h7⟩ := h
  refine mergeC (LE.eqv E M) h1 ha hb (LE.mrg he) (fun rt' G' gc' bc' gn' hCE hCo e _ => hQ _ _ _ ⟨rt', G', hCE, h2, h3, h4, h5, ?_, ?_⟩)
  · intro x m y e
    obtain ⟨hm, p, q, hp, hq, e1, e2, u, v, hu, hv, f1, f2, f3⟩ := h6 x m y e
    exact ⟨hm, p, q, hp, hq, e1, e2, u, v, hu, hv, hCo _ _ hu hp f1, hCo _ _ hv hq f2, f3⟩
  · rintro x y (e3 | ⟨rfl, rfl⟩)
    · obtain ⟨p, q, hp, hq, e1, e2, e3⟩ := h7 x y e3
      exact ⟨p, q, hp, hq, e1, e2, hCo _ _ hp hq e3⟩
    · exact ⟨a, b, ha, hb, rfl, rfl, e⟩
theorem newS (h : SC E M V D Mg s n nm gc lk bc gn) (hn1 : n < 1080) {x : Nm} (hx : ¬ V x) {Q : Int32 → Int32 → AR → AR → Prop} (hQ : ∀ lk' bc', SC E M (fun y => V y ∨ y = x) D Mg s (n + 1) (nmN nm n x) gc lk' bc' gn → Q (nI n) (nI (n + 1)) lk' bc') : wp_X2_newPlace (nI n) lk bc Q := by
  obtain ⟨rt, G, h1, h2, h3, h4, h5, h6, h7⟩ := h
  have no : ∀ p, p < n → nmN nm n x p = nm p := fun p hp => if_neg (by omega)
  have nn : nmN nm n x n = x := if_pos rfl
  have hnx : ∀ p, p < n → nm p ≠ x := fun p hp e => hx ((h5 x).mpr ⟨p, hp, e⟩)
  refine newC (LE.eqv E M) h1 hn1 x (fun lk' bc' hCE hk => hQ lk' bc' ⟨_, G, hCE, by omega, fun k hk' => by rw [no k (by omega)]; exact h3 k hk', fun p q hp hq e => ?_, fun y => ?_, fun y m z e => ?_, fun y z e => ?_⟩)
  · by_cases c : p = n
    · by_cases c2 : q = n
      · rw [c, c2]
      · rw [c, nn, no q (by omega)] at e
        exact absurd e.symm (hnx q (by omega))
    · by_cases c2 : q = n
      · rw [c2, nn, no p (by omega)] at e
        exact absurd e (hnx p (by omega))
      · rw [no p (by omega), no q (by omega)] at e
        exact h4 p q (by omega) (by omega) e
  · constructor
    · rintro (c | rfl)
      · obtain ⟨p, hp, e⟩ := (h5 y).mp c
        exact ⟨p, by omega, by rw [no p hp]; exact e⟩
      · exact ⟨n, by omega, nn⟩
    · rintro ⟨p, hp, e⟩
      by_cases c : p = n
      · rw [c, nn] at e; exact Or.inr e.symm
      · rw [no p (by omega)] at e
        exact Or.inl ((h5 y).mpr ⟨p, by omega, e⟩)
  · obtain ⟨hm, p, q, hp, hq, e1, e2, hr⟩ := h6 y m z e
    exact ⟨hm, p, q, by omega, by omega, by rw [no p hp]; exact e1, by rw [no q hq]; exact e2, hk p m q hp hq hm hr⟩
  · obtain ⟨p, q, hp, hq, e1, e2, e3⟩ := h7 y z e
    refine ⟨p, q, by omega, by omega, by rw [no p hp]; exact e1, by rw [no q hq]; exact e2, ?_⟩
    rw [show nwR rt n p = rt p from if_neg (by omega), show nwR rt n q = rt q from if_neg (by omega)]
    exact e3
end SEWC
