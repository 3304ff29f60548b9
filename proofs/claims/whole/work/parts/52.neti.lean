/-! PURE 33: the same net, numbered otherwise, reads and counts alike -/
/-- one numbering beside the other, by cells -/
def Bth (s : Nat) (c c' : Nat → Nat → Option Nat) (f g : Nat → Nat) : Prop := (∀ k, k < s → f k < s ∧ g (f k) = k) ∧ (∀ k, k < s → g k < s ∧ f (g k) = k) ∧ ∀ k l, k < s → l < 6 → (c k l).map f = c' (f k) l
theorem iso_cells {s b e s' b' e' : Nat} {lk bc nx : AR} (h : CN s lk bc) (h' : ∀ k l, k < s' → l < 6 → nx (6 * k + l) = -6 ∨ ∃ k', k' < s' ∧ nx (6 * k + l) = nI k') (hs' : s' ≤ 1400) (hi : Iso s (lkA s lk) b e s' (lkN s' nx) b' e') : s = s' ∧ ∃ f g, Bth s (cA lk) (cN nx) f g ∧ b < s ∧ e < s ∧ f b = b' ∧ f e = e' := by
  obtain ⟨rfl, f, g, h1, h2, h3, hb, he, h4, h5⟩ := hi
  have hs := h.1
  refine ⟨rfl, f, g, ⟨h1, h2, fun k l hk hl => ?_⟩, hb, he, h4, h5⟩
  have hfk := (h1 k hk).1
  cases c : cA lk k l with
  | some q =>
    have hq := cA_ok h k l q hk hl c
    have e1 := cA_I h hk hl
    rw [c] at e1
    have := (h3 k l q hk hq).mp ⟨hk, hq, hl, e1⟩
    obtain ⟨_, hq2, _, e2⟩ := this
    have e3 := cN_I hs' h' hfk hl
    rw [e2] at e3
    cases c2 : cN nx (f k) l with
    | none =>
      rw [c2] at e3
      exact absurd e3.symm (neg6 (q := f q) (by omega))
    | some r =>
      rw [c2] at e3
      have hr := cN_ok hs' h' (f k) l r hfk hl c2
      have : f q = r := (nI_eq (by omega) (by omega)).mp e3
      show some (f q) = some r
      rw [this]
  | none =>
    cases c2 : cN nx (f k) l with
    | none => rfl
    | some r =>
      exfalso
      have hr := cN_ok hs' h' (f k) l r hfk hl c2
      have e3 := cN_I hs' h' hfk hl
      rw [c2] at e3
      have hg := h2 r hr
      have := (h3 k l (g r) hk hg.1).mpr ⟨hfk, by rw [hg.2]; exact hr, hl, by rw [hg.2]; exact e3⟩
      have e1 := cA_I h hk hl
      rw [c, this.2.2.2] at e1
      exact neg1 (q := g r) (by omega) e1.symm
theorem Bth.walk {s : Nat} {c c' : Nat → Nat → Option Nat} {f g : Nat → Nat} (h : Bth s c c' f g) (hc : okC s c) {w : Nat → Nat} {p : Nat} (hp : p < s) : ∀ {n : Nat}, (∀ i, i < n → w i < 6) → (wk c w p n).map f = wk c' w (f p) n
  | 0, _ => rfl
  | n + 1, hw => by
    have ih := Bth.walk h hc hp (n := n) (fun i hi => hw i (by omega))
    rw [wk, wk, ← ih]
    cases c1 : wk c w p n with
    | none => rfl
    | some q => exact h.2.2 q (w n) (wk_lt hc hp (fun i hi => hw i (by omega)) c1) (hw n (by omega))
def jcC (s : Nat) (c : Nat → Nat → Option Nat) : Nat := cn (fun i => (c (i / 3) (2 * (i % 3))).isSome) (3 * s)
theorem Bth.joints {s : Nat} {c c' : Nat → Nat → Option Nat} {f g : Nat → Nat} (h : Bth s c c' f g) : jcC s c = jcC s c' := by
  have key : ∀ k l, k < s → l < 6 → (c k l).isSome = (c' (f k) l).isSome := fun k l hk hl => by
    rw [← h.2.2 k l hk hl]
    cases c k l <;> rfl
  refine cn_bij (g := fun i => f (i / 3) * 3 + i % 3) (fun i hi e => ?_) (fun a ha _ b hb _ e => ?_) (fun i hi e => ?_)
  · have := (h.1 (i / 3) (by omega)).1
    show f (i / 3) * 3 + i % 3 < 3 * s ∧ (c' ((f (i / 3) * 3 + i % 3) / 3) (2 * ((f (i / 3) * 3 + i % 3) % 3))).isSome = true
    rw [show (f (i / 3) * 3 + i % 3) / 3 = f (i / 3) by omega, show (f (i / 3) * 3 + i % 3) % 3 = i % 3 by omega, ← key (i / 3) (2 * (i % 3)) (by omega) (by omega)]
    exact ⟨by omega, e⟩
  · have e' : f (a / 3) * 3 + a % 3 = f (b / 3) * 3 + b % 3 := e
    have e1 : f (a / 3) = f (b / 3) := by omega
    have e2 : a % 3 = b % 3 := by omega
    have e3 : a / 3 = b / 3 := by rw [← (h.1 (a / 3) (by omega)).2, ← (h.1 (b / 3) (by omega)).2, e1]
    omega
  · have hg := h.2.1 (i / 3) (by omega)
    refine ⟨g (i / 3) * 3 + i % 3, by omega, ?_, ?_⟩
    · show (c ((g (i / 3) * 3 + i % 3) / 3) (2 * ((g (i / 3) * 3 + i % 3) % 3))).isSome = true
      rw [show (g (i / 3) * 3 + i % 3) / 3 = g (i / 3) by omega, show (g (i / 3) * 3 + i % 3) % 3 = i % 3 by omega, key _ _ hg.1 (by omega), hg.2]
      exact e
    · show f ((g (i / 3) * 3 + i % 3) / 3) * 3 + (g (i / 3) * 3 + i % 3) % 3 = i
      rw [show (g (i / 3) * 3 + i % 3) / 3 = g (i / 3) by omega, show (g (i / 3) * 3 + i % 3) % 3 = i % 3 by omega, hg.2]
      omega
theorem jcN_C (s : Nat) (nx : AR) : jcN s nx = jcC s (cN nx) := by
  refine cn_congr _ (fun i _ => ?_)
  unfold cN
  by_cases c : nx (6 * (i / 3) + 2 * (i % 3)) = -6
  · rw [if_pos c, decide_eq_true c]; rfl
  · rw [if_neg c, decide_eq_false c]; rfl
