/-! PURE 26: the reference folds until nothing becomes one -/
/-- a pass without a merge lies behind: rt is fold-closed -/
def Clo (E : Nm → Nat → Nm → Prop) (R : Nm → Nm → Prop) (n : Nat) (nm : Nat → Nm) (rt0 : Nat → Nat) (J : List (Nat × Nat × Nat)) (rt : Nat → Nat) (one nx : AR) : Prop := (∃ d, FR one n rt d) ∧ (∀ p q, p < n → q < n → rt p = rt q → R (nm p) (nm q)) ∧ NXs E R n nm nx ∧ Co n rt0 rt ∧ (∀ a l b, a < n → b < n → HJ J J.length a l b → ∃ h, h < n ∧ nx (6 * rt a + l) = nI h ∧ rt h = rt b) ∧ ∀ p l h, p < n → l < 6 → h < n → nx (6 * p + l) = nI h → rt p = p ∧ rt h = h
section NETT
variable {E : Nm → Nat → Nm → Prop} {R : Nm → Nm → Prop} {n : Nat} {nm : Nat → Nm} {rt0 : Nat → Nat}
theorem foldLoop8 (hn : n ≤ 1400) (hR : Eqv R) (hF : FC E R) {J : List (Nat × Nat × Nat)} {jn : Int32} {fr by' tw' : AR} (hJ : RJ n J jn fr by' tw') (hE : ∀ (k : Nat) (e : Nat × Nat × Nat), J[k]? = some e → E (nm e.1) (2 * e.2.1) (nm e.2.2) ∧ E (nm e.2.2) (2 * e.2.1 + 1) (nm e.1)) {one nx nu : AR} {d0 : Nat → Nat} (h1 : FR one n rt0 d0) (h2 : ∀ p q, p < n → q < n → rt0 p = rt0 q → R (nm p) (nm q)) {bg fi : Int32} {Q : Int32 → Int32 → Int32 → Int32 → AR → AR → AR → AR → AR → AR → Prop} (hQ : ∀ rt one' nx', Clo E R n nm rt0 J rt one' nx' → wp_X8_tidy jn (nI n) bg fi fr by' tw' one' nu nx' (fun j2 n2 b2 f2 fr2 by2 tw2 one2 nu2 => wp_X8_foldAll j2 n2 fr2 by2 tw2 one2 nx' (fun r3 one3 nx3 => Q j2 n2 b2 f2 fr2 by2 tw2 one3 nu2 nx3))) : wp_X8_foldNet jn (nI n) bg fi fr by' tw' one nu nx Q := by
  have key : ∀ S rt1 more one1 nx1, sN rt1 n ≤ S → Co n rt0 rt1 → PS E R n nm rt1 (HJ J J.length) more one1 nx1 → lpW3 (wb_X8_foldNet_5 jn (nI n) bg fi fr by' tw' nu Q) (S + 1) (bI more) one1 nx1 := by
    intro S
    induction S with
    | zero =>
      intro rt1 more one1 nx1 hS hCo hPS
      obtain ⟨rt, d, p1, p2, p3, p4, p5, p6⟩ := hPS
      cases more with
      | true => have := p6 rfl; omega
      | false =>
        refine brb' (b := false) (fun _ => ?_) (fun c => by cases c)
        obtain ⟨e, g1, g2⟩ := p5 rfl
        exact hQ rt one1 nx1 ⟨⟨d, p1⟩, p2, p3, fun u v hu hv e => p4 u v hu hv (hCo u v hu hv e), g1, g2⟩
    | succ S ih =>
      intro rt1 more one1 nx1 hS hCo hPS
      obtain ⟨rt, d, p1, p2, p3, p4, p5, p6⟩ := hPS
      cases more with
      | true =>
        have hlt := p6 rfl
        refine brb' (b := true) (fun c => by cases c) (fun _ => ?_)
        refine foldAll8 hn hR hF hJ hE p1 p2 (fun more2 one2 nx2 hPS2 => ?_)
        exact ih rt more2 one2 nx2 (by omega) (fun u v hu hv e => p4 u v hu hv (hCo u v hu hv e)) hPS2
      | false =>
        refine brb' (b := false) (fun _ => ?_) (fun c => by cases c)
        obtain ⟨e, g1, g2⟩ := p5 rfl
        exact hQ rt one1 nx1 ⟨⟨d, p1⟩, p2, p3, fun u v hu hv e => p4 u v hu hv (hCo u v hu hv e), g1, g2⟩
  refine foldAll8 hn hR hF hJ hE h1 h2 (fun more one1 nx1 hPS => ?_)
  exact ⟨_, key (sN rt0 n) rt0 more one1 nx1 (Nat.le_refl _) (fun u v _ _ e => e) hPS⟩
/-- then rt is the least folding -/
theorem Clo.back {M : Nm → Nm → Prop} {J : List (Nat × Nat × Nat)} {rt : Nat → Nat} {one nx : AR} (hn : n ≤ 1400) (h : Clo E (LE E M) n nm rt0 J rt one nx) (hinj : ∀ p q, p < n → q < n → nm p = nm q → p = q) (hD : ∀ x l y, E x l y → ∃ a b, a < n ∧ b < n ∧ nm a = x ∧ nm b = y ∧ HJ J J.length a l b) (hM : ∀ x y, M x y → ∃ p q, p < n ∧ q < n ∧ nm p = x ∧ nm q = y ∧ rt0 p = rt0 q) {p q : Nat} (hp : p < n) (hq : q < n) (hle : LE E M (nm p) (nm q)) : rt p = rt q := by
  obtain ⟨⟨d, c1⟩, c2, c3, c4, c5, c6⟩ := h
  have := hle (fun x y => x = y ∨ ∃ p q, p < n ∧ q < n ∧ nm p = x ∧ nm q = y ∧ rt p = rt q) ⟨fun x => Or.inl rfl, fun x y h => ?_, fun x y z h1 h2 => ?_⟩ (fun x y h => ?_) (fun x x' l y y' h1 e1 e2 => ?_)
  · rcases this with c | ⟨p1, q1, hp1, hq1, f1, f2, f3⟩
    · rw [hinj p q hp hq c]
    · rw [hinj p p1 hp hp1 f1.symm, hinj q q1 hq hq1 f2.symm]; exact f3
  · rcases h with c | ⟨p1, q1, hp1, hq1, f1, f2, f3⟩
    · exact Or.inl c.symm
    · exact Or.inr ⟨q1, p1, hq1, hp1, f2, f1, f3.symm⟩
  · rcases h1 with c | ⟨p1, q1, hp1, hq1, f1, f2, f3⟩
    · rw [c]; exact h2
    · rcases h2 with c | ⟨p2, q2, hp2, hq2, g1, g2, g3⟩
      · rw [← c]; exact Or.inr ⟨p1, q1, hp1, hq1, f1, f2, f3⟩
      · have : q1 = p2 := hinj q1 p2 hq1 hp2 (by rw [f2, g1])
        subst this
        exact Or.inr ⟨p1, q2, hp1, hq2, f1, g2, by rw [f3, g3]⟩
  · obtain ⟨p1, q1, hp1, hq1, f1, f2, f3⟩ := hM x y h
    exact Or.inr ⟨p1, q1, hp1, hq1, f1, f2, c4 p1 q1 hp1 hq1 f3⟩
  · obtain ⟨a1, b1, ha1, hb1, f1, f2, f3⟩ := hD x l y e1
    obtain ⟨a2, b2, ha2, hb2, g1, g2, g3⟩ := hD x' l y' e2
    obtain ⟨k1, hk1, m1, m2⟩ := c5 a1 l b1 ha1 hb1 f3
    obtain ⟨k2, hk2, m3, m4⟩ := c5 a2 l b2 ha2 hb2 g3
    refine Or.inr ⟨b1, b2, hb1, hb2, f2, g2, ?_⟩
    have hpp : rt a1 = rt a2 := by
      rcases h1 with c | ⟨p3, q3, hp3, hq3, t1, t2, t3⟩
      · rw [hinj a1 a2 ha1 ha2 (by rw [f1, g1, c])]
      · rw [hinj a1 p3 ha1 hp3 (by rw [f1, t1]), hinj a2 q3 ha2 hq3 (by rw [g1, t2])]; exact t3
    rw [hpp, m3] at m1
    have ek : k2 = k1 := (nI_eq (by omega) (by omega)).mp m1
    rw [← m2, ← m4, ek]
end NETT
