/-! PURE 37: a round, by names -/
section ROUND
/-- the name at position i of the seam that sews side d (of length m) from p to q -/
def nA (m p d q i : Nat) : Nm := if i = 0 then (p, 4, 0) else if i = m then (q, 4, 0) else (p, d, i - 1)
theorem nA_0 {m p d q : Nat} : nA m p d q 0 = (p, 4, 0) := if_pos rfl
theorem nA_m {m p d q : Nat} (h : 0 < m) : nA m p d q m = (q, 4, 0) := by unfold nA; rw [if_neg (by omega), if_pos rfl]
theorem nA_i {m p d q i : Nat} (h : i + 1 < m) : nA m p d q (i + 1) = (p, d, i) := by unfold nA; rw [if_neg (by omega), if_neg (by omega), Nat.add_sub_cancel]
/-- seams: sm' p d = some q: side d is sewn from p to q -/
abbrev SmF : Type := Nat → Nat → Option Nat
/-- which seams are sewn -/
abbrev DnF : Type := Nat → Nat → Prop
def qV (s : Nat) (rN : Nat → Nat) (sm' : SmF) (dn : DnF) (x : Nm) : Prop := (∃ p, p < s ∧ x = (p, 4, 0)) ∨ ∃ p d q i, p < s ∧ d < 4 ∧ dn p d ∧ sm' p d = some q ∧ i + 1 < rN d ∧ x = (p, d, i)
def qE (s : Nat) (rN : Nat → Nat) (rW : Nat → Nat → Nat) (c : Nat → Nat → Option Nat) (sm' : SmF) (dn : DnF) (x : Nm) (l : Nat) (y : Nm) : Prop := (∃ k k', k < s ∧ l < 6 ∧ c k l = some k' ∧ x = (k, 4, 0) ∧ y = (k', 4, 0)) ∨ ∃ p d q i, p < s ∧ d < 4 ∧ dn p d ∧ sm' p d = some q ∧ i < rN d ∧ ((x = nA (rN d) p d q i ∧ l = rW d i ∧ y = nA (rN d) p d q (i + 1)) ∨ (x = nA (rN d) p d q (i + 1) ∧ l = xr (rW d i) ∧ y = nA (rN d) p d q i))
def qM (s : Nat) (rN : Nat → Nat) (sm' : SmF) (dn : DnF) (x y : Nm) : Prop := ∃ p d q, p < s ∧ d < 4 ∧ dn p d ∧ sm' p d = some q ∧ rN d = 0 ∧ x = (p, 4, 0) ∧ y = (q, 4, 0)
theorem qE_sym {s : Nat} {rN : Nat → Nat} {rW : Nat → Nat → Nat} {c : Nat → Nat → Option Nat} {sm' : SmF} {dn : DnF} (hc : ∀ k l k', k < s → l < 6 → c k l = some k' → k' < s ∧ c k' (xr l) = some k) : ∀ x l y, l < 6 → qE s rN rW c sm' dn x l y → qE s rN rW c sm' dn y (xr l) x := by
  rintro x l y hl (⟨k, k', hk, _, h1, h2, h3⟩ | ⟨p, d, q, i, hp, hd, hdn, hs, hi, ⟨h1, h2, h3⟩ | ⟨h1, h2, h3⟩⟩)
  · obtain ⟨hk', e⟩ := hc k l k' hk hl h1
    exact Or.inl ⟨k', k, hk', xr_lt l hl, e, h3, h2⟩
  · exact Or.inr ⟨p, d, q, i, hp, hd, hdn, hs, hi, Or.inr ⟨h3, by rw [h2], h1⟩⟩
  · exact Or.inr ⟨p, d, q, i, hp, hd, hdn, hs, hi, Or.inl ⟨h3, by rw [h2, xr_xr], h1⟩⟩
end ROUND
