/-! PURE 25: the reference's folding -/
def NXs (E : Nm → Nat → Nm → Prop) (R : Nm → Nm → Prop) (n : Nat) (nm : Nat → Nm) (nx : AR) : Prop := ∀ p l, p < n → l < 6 → nx (6 * p + l) = -6 ∨ ∃ h, h < n ∧ nx (6 * p + l) = nI h ∧ ∃ x y, E x l y ∧ R (nm p) x ∧ R (nm h) y
theorem neg6 {q : Nat} (hq : q < 2 ^ 31) : (-6 : Int32) ≠ nI q := fun c => by
  have := nn_nI hq
  rw [← c] at this
  exact absurd this (by decide)
theorem FR.same {one one' : AR} {n : Nat} {rt d : Nat → Nat} (h : FR one n rt d) (e : ∀ p, p < n → one' p = one p) : FR one' n rt d := by
  intro p hp
  obtain ⟨q, h1, h2, h3, h4, h5, h6, h7⟩ := h p hp
  exact ⟨q, h1, by rw [e p hp]; exact h2, h3, h4, by rw [e _ h4]; exact h5, h6, h7⟩
theorem six (k l : Nat) : (6 : Int32) * nI k + nI l = nI (6 * k + l) := by rw [i6, pk_mul, nI_add]
theorem sN_union {n : Nat} {rt : Nat → Nat} {a b : Nat} (hb : b < n) (ra : rt a = a) (rb : rt b = b) (ne : a ≠ b) : sN (unR rt a b) n < sN rt n := by
  have := cn_one (P := fun p => decide (unR rt a b p = p)) (P' := fun p => decide (rt p = p)) (c := b) (fun p hp => ?_) (decide_eq_true rb) (decide_eq_false ?_) n
  · rw [if_pos hb] at this
    show cn _ n < cn _ n
    omega
  · refine decide_eq_decide.mpr ?_
    unfold unR
    by_cases c : rt p = b
    · rw [if_pos c]
      constructor
      · intro e; rw [c] at e; exact absurd e.symm hp
      · intro e; rw [← e, ra] at c; exact absurd c ne
    · rw [if_neg c]
  · unfold unR
    rw [rb, if_pos rfl]; exact ne
def PS (E : Nm → Nat → Nm → Prop) (R : Nm → Nm → Prop) (n : Nat) (nm : Nat → Nm) (rt0 : Nat → Nat) (H : Nat → Nat → Nat → Prop) (more : Bool) (one nx : AR) : Prop := ∃ rt d, FR one n rt d ∧ (∀ p q, p < n → q < n → rt p = rt q → R (nm p) (nm q)) ∧ NXs E R n nm nx ∧ Co n rt0 rt ∧ (more = false → rt = rt0 ∧ (∀ a l b, a < n → b < n → H a l b → ∃ h, h < n ∧ nx (6 * rt a + l) = nI h ∧ rt h = rt b) ∧ ∀ p l h, p < n → l < 6 → h < n → nx (6 * p + l) = nI h → rt p = p ∧ rt h = h) ∧ (more = true → sN rt n < sN rt0 n)
section NETR
variable {E : Nm → Nat → Nm → Prop} {R : Nm → Nm → Prop} {n : Nat} {nm : Nat → Nm} {rt0 : Nat → Nat}
/-- one half of a joint; what comes before it is two looks for roots -/
theorem foldStep (hn : n ≤ 1400) (hR : Eqv R) (hF : FC E R) {H : Nat → Nat → Nat → Prop} {more : Bool} {one nx : AR} {rt d : Nat → Nat} (h1 : FR one n rt d) (h2 : ∀ p q, p < n → q < n → rt p = rt q → R (nm p) (nm q)) (h3 : NXs E R n nm nx) (h4 : Co n rt0 rt) (h5 : more = false → rt = rt0 ∧ (∀ a l b, a < n → b < n → H a l b → ∃ h, h < n ∧ nx (6 * rt a + l) = nI h ∧ rt h = rt b) ∧ ∀ p l h, p < n → l < 6 → h < n → nx (6 * p + l) = nI h → rt p = p ∧ rt h = h) (h6 : more = true → sN rt n < sN rt0 n) {a l b : Nat} (ha : a < n) (hb : b < n) (hl : l < 6) (hE : E (nm a) l (nm b)) {K : Int32 → AR → AR → Prop} (hK : ∀ (t : Bool) (one' nx' : AR), PS E R n nm rt0 (fun a' l' b' => H a' l' b' ∨ (a' = a ∧ l' = l ∧ b' = b)) (more || t) one' nx' → K (bI t) one' nx') : wp_X8_fold (nI (rt a)) (nI l) (nI (rt b)) one nx K := by
  have la := h1.lt ha
  have lb := h1.lt hb
  have ra := h1.rr hn ha
  have rb := h1.rr hn hb
  have Ra := h2 a (rt a) ha la ra.symm
  have Rb := h2 b (rt b) hb lb rb.symm
  unfold wp_X8_fold
  rw [six, cl_nI (by omega)]
  refine ⟨vp_in_nI (by omega) (by decide), fun x hx => ?_⟩
  rcases h3 (rt a) l la hl with c | ⟨h, hh, c, x1, y1, hE1, hx1, hy1⟩
  · rw [c] at hx
    subst hx
    refine ⟨fun c2 => absurd c2 (by decide), fun _ => ⟨vp_in_nI (by omega) (by decide), hK false _ _ ⟨rt, d, h1, h2, fun p m hp hm => ?_, h4, fun hm => ?_, fun hm => h6 (by rw [Bool.or_false] at hm; exact hm)⟩⟩⟩
    · by_cases c3 : 6 * p + m = 6 * rt a + l
      · have ep : p = rt a := by omega
        have em : m = l := by omega
        subst ep em
        exact Or.inr ⟨rt b, lb, upd_s, nm a, nm b, hE, hR.2.1 _ _ Ra, hR.2.1 _ _ Rb⟩
      · rw [upd_n c3]; exact h3 p m hp hm
    · rw [Bool.or_false] at hm
      obtain ⟨e, g1, g2⟩ := h5 hm
      refine ⟨e, fun a' l' b' ha' hb' hH => ?_, fun p m h' hp hm' hh' e2 => ?_⟩
      · rcases hH with hH | ⟨rfl, rfl, rfl⟩
        · obtain ⟨h', k1, k2, k3⟩ := g1 a' l' b' ha' hb' hH
          refine ⟨h', k1, ?_, k3⟩
          rw [upd_n]
          · exact k2
          · intro c3
            rw [c3, c] at k2
            exact neg6 (by omega) k2
        · exact ⟨rt b', lb, upd_s, rb⟩
      · by_cases c3 : 6 * p + m = 6 * rt a + l
        · have ep : p = rt a := by omega
          rw [c3, upd_s] at e2
          have : rt b = h' := (nI_eq (by omega) (by omega)).mp e2
          rw [ep, ← this]
          exact ⟨ra, rb⟩
        · rw [upd_n c3] at e2; exact g2 p m h' hp hm' hh' e2
  · rw [c] at hx
    subst hx
    refine ⟨fun _ => ?_, fun c2 => absurd (nn_nI (by omega)) c2⟩
    refine oneOf8 hn h1 hh (fun one1 f1 => oneOf8 hn f1 lb (fun one2 f2 => ?_))
    have lh := h1.lt hh
    have rh := h1.rr hn hh
    rw [rb]
    refine ⟨vp_in_nI (by omega) (by decide), fun c2 => ?_, fun c2 => ?_⟩
    · have e : rt h = rt b := (nI_eq (by omega) (by omega)).mp c2
      rw [cl_nI (by omega)]
      have f3 : FR (upd one2 (rt b) (nI (rt h))) n rt d := f2.same (fun p hp => by
        by_cases c3 : p = rt b
        · rw [c3, upd_s, e]; exact ((f2.root hn lb).mpr rb).symm
        · exact upd_n c3)
      refine hK false _ _ ⟨rt, d, f3, h2, h3, h4, fun hm => ?_, fun hm => h6 (by rw [Bool.or_false] at hm; exact hm)⟩
      rw [Bool.or_false] at hm
      obtain ⟨e0, g1, g2⟩ := h5 hm
      refine ⟨e0, fun a' l' b' ha' hb' hH => ?_, g2⟩
      rcases hH with hH | ⟨rfl, rfl, rfl⟩
      · exact g1 a' l' b' ha' hb' hH
      · exact ⟨h, hh, c, e⟩
    · have ne : rt h ≠ rt b := fun e => c2 (by rw [e])
      rw [cl_nI (by omega)]
      have f3 : FR (upd one2 (rt b) (nI (rt h))) n (unR rt (rt h) (rt b)) (fun x => if rt x = rt b then d x + d (rt h) + 1 else d x) := by
        refine f2.union hn lh lb rh rb ne ?_ (fun x q e hd => ?_)
        · show (if rt (rt h) = rt b then _ else _) < (if rt (rt b) = rt b then _ else _)
          rw [rh, rb, if_neg ne, if_pos rfl]; omega
        · show (if rt q = rt b then _ else _) < (if rt x = rt b then _ else _)
          rw [e]
          split <;> omega
      have Rhb : R (nm (rt h)) (nm (rt b)) := by
        have e1 : R x1 (nm a) := hR.2.2 _ _ _ (hR.2.1 _ _ hx1) (hR.2.1 _ _ Ra)
        have e2 : R y1 (nm b) := hF _ _ _ _ _ e1 hE1 hE
        exact hR.2.2 _ _ _ (h2 (rt h) h lh hh rh) (hR.2.2 _ _ _ hy1 (hR.2.2 _ _ _ e2 Rb))
      refine hK true _ _ ⟨_, _, f3, fun u v hu hv e => ?_, h3, fun u v hu hv e => ?_, (fun hm => by rw [Bool.or_true] at hm; cases hm), fun _ => ?_⟩
      · have e' : (if rt u = rt b then rt h else rt u) = (if rt v = rt b then rt h else rt v) := e
        by_cases c1 : rt u = rt b
        · by_cases c2 : rt v = rt b
          · exact h2 u v hu hv (by rw [c1, c2])
          · rw [if_pos c1, if_neg c2] at e'
            exact hR.2.2 _ _ _ (h2 u (rt b) hu lb (by rw [c1, rb])) (hR.2.2 _ _ _ (hR.2.1 _ _ Rhb) (h2 (rt h) v lh hv (by rw [rh, e'])))
        · by_cases c2 : rt v = rt b
          · rw [if_neg c1, if_pos c2] at e'
            exact hR.2.2 _ _ _ (h2 u (rt h) hu lh (by rw [rh, e'])) (hR.2.2 _ _ _ Rhb (h2 (rt b) v lb hv (by rw [rb, c2])))
          · rw [if_neg c1, if_neg c2] at e'
            exact h2 u v hu hv e'
      · have := h4 u v hu hv e
        unfold unR
        rw [this]
      · have s1 := sN_union (n := n) lb rh rb ne
        cases hm : more
        · have := (h5 hm).1
          rw [← this]; exact s1
        · have := h6 hm
          omega
/-- the joints: from, by, toward -/
def RJ (n : Nat) (J : List (Nat × Nat × Nat)) (jn : Int32) (fr by' tw' : AR) : Prop := jn = nI J.length ∧ J.length ≤ 1400 ∧ ∀ (k : Nat) (e : Nat × Nat × Nat), J[k]? = some e → fr k = nI e.1 ∧ by' k = nI e.2.1 ∧ tw' k = nI e.2.2 ∧ e.1 < n ∧ e.2.2 < n ∧ e.2.1 < 3
/-- the half joints of the first k joints -/
def HJ (J : List (Nat × Nat × Nat)) (k : Nat) (a l b : Nat) : Prop := ∃ (j : Nat) (e : Nat × Nat × Nat), j < k ∧ J[j]? = some e ∧ ((a = e.1 ∧ l = 2 * e.2.1 ∧ b = e.2.2) ∨ (a = e.2.2 ∧ l = 2 * e.2.1 + 1 ∧ b = e.1))
theorem PS.sub {H H' : Nat → Nat → Nat → Prop} {more : Bool} {one nx : AR} (h : PS E R n nm rt0 H more one nx) (hs : ∀ a l b, H' a l b → H a l b) : PS E R n nm rt0 H' more one nx := by
  obtain ⟨rt, d, h1, h2, h3, h4, h5, h6⟩ := h
  exact ⟨rt, d, h1, h2, h3, h4, fun hm => ⟨(h5 hm).1, fun a l b ha hb hH => (h5 hm).2.1 a l b ha hb (hs a l b hH), (h5 hm).2.2⟩, h6⟩
theorem cl4s {A1 A3 A4 : Type} {body : (A1 → Int32 → A3 → A4 → Prop) → A1 → Int32 → A3 → A4 → Prop} (N : Nat) (I : Nat → A1 → A3 → A4 → Prop) (hs : ∀ k, k < N → ∀ a b c, I k a b c → ∀ rc : A1 → Int32 → A3 → A4 → Prop, (∀ a b c, I (k + 1) a b c → rc a (nI k + 1) b c) → body rc a (nI k) b c) (he : ∀ a b c, I N a b c → ∀ rc, body rc a (nI N) b c) {a : A1} {b : A3} {c : A4} (h : I 0 a b c) : ∃ n, lpW4 body n a (nI 0) b c := by
  have key : ∀ j k, k + j = N → ∀ a b c, I k a b c → lpW4 body (j + 1) a (nI k) b c := by
    intro j
    induction j with
    | zero => intro k hk a b c h; obtain rfl : k = N := by omega
              exact he a b c h _
    | succ j ih => intro k hk a b c h; exact hs k (by omega) a b c h _ (fun a b c h => by rw [nI_1]; exact ih (k + 1) (by omega) a b c h)
  exact ⟨N + 1, key N 0 (by omega) _ _ _ h⟩
theorem brB {b : Bool} {A B : Prop} (ht : b = true → A) (hf : b = false → B) : (¬ bI b = 0 → A) ∧ (bI b = 0 → B) := brb ht hf
theorem foldAll8 (hn : n ≤ 1400) (hR : Eqv R) (hF : FC E R) {J : List (Nat × Nat × Nat)} {jn : Int32} {fr by' tw' : AR} (hJ : RJ n J jn fr by' tw') (hE : ∀ (k : Nat) (e : Nat × Nat × Nat), J[k]? = some e → E (nm e.1) (2 * e.2.1) (nm e.2.2) ∧ E (nm e.2.2) (2 * e.2.1 + 1) (nm e.1)) {one nx : AR} {d0 : Nat → Nat} (h1 : FR one n rt0 d0) (h2 : ∀ p q, p < n → q < n → rt0 p = rt0 q → R (nm p) (nm q)) {Q : Int32 → AR → AR → Prop} (hQ : ∀ more one' nx', PS E R n nm rt0 (HJ J J.length) more one' nx' → Q (bI more) one' nx') : wp_X8_foldAll jn (nI n) fr by' tw' one nx Q := by
  obtain ⟨hjn, hJl, hJe⟩ := hJ
  subst hjn
  have e6n : (6 : Int32) * nI n = nI (6 * n) := by rw [i6, pk_mul]
  refine cl2r (body := wb_X8_foldAll_2 (nI J.length) (nI n) fr by' tw' one Q) (6 * n) (fun k nx => ∀ c, c < k → nx c = -6) ?_ ?_ (fun c hc => by omega)
  · intro k hk nx1 hI rc hrc
    unfold wb_X8_foldAll_2
    rw [e6n]
    refine br_ge hk (by omega) ⟨vp_in_nI (by omega) (by decide), fun x hx => ?_⟩
    subst hx
    rw [cl_nI (by omega)]
    refine hrc _ (fun c hc => ?_)
    by_cases e : c = k
    · subst e; exact upd_s
    · rw [upd_n e]; exact hI c (by omega)
  · intro nx1 hI rc
    unfold wb_X8_foldAll_2
    rw [e6n]
    refine br_end (Nat.le_refl _) (by omega) ?_
    have hP0 : PS E R n nm rt0 (HJ J 0) false one nx1 := ⟨rt0, d0, h1, h2, fun p l hp hl => Or.inl (hI _ (by omega)), fun u v _ _ e => e, fun _ => ⟨rfl, fun a l b _ _ hH => by obtain ⟨j, e, hj, _⟩ := hH; omega, fun p l h hp hl hh e => by
      rw [hI _ (by omega)] at e
      exact absurd e (neg6 (by omega))⟩, fun c => by cases c⟩
    refine cl4s (body := wb_X8_foldAll_31 (nI J.length) (nI n) fr by' tw' Q) J.length (fun k a one nx => ∃ more, a = bI more ∧ PS E R n nm rt0 (HJ J k) more one nx) ?_ ?_ ⟨false, rfl, hP0⟩
    · rintro k hk a one1 nx2 ⟨more, rfl, hPS⟩ rc hrc
      obtain ⟨e, he⟩ : ∃ e, J[k]? = some e := ⟨J[k], List.getElem?_eq_getElem hk⟩
      obtain ⟨j1, j2, j3, j4, j5, j6⟩ := hJe k e he
      obtain ⟨hE1, hE2⟩ := hE k e he
      obtain ⟨rt, d, p1, p2, p3, p4, p5, p6⟩ := hPS
      refine br_ge hk (by omega) ⟨vp_in_nI (by omega) (by decide), ?_⟩
      rw [cl_nI (by omega), j1, j2, j3]
      refine oneOf8 hn p1 j4 (fun o1 f1 => ⟨vp_in_nI (by omega) (by decide), vp_in_nI (by omega) (by decide), oneOf8 hn f1 j5 (fun o2 f2 => ?_)⟩)
      rw [show (2 : Int32) * nI e.2.1 = nI (2 * e.2.1) from pk_mul 2 e.2.1]
      refine foldStep hn hR hF f2 p2 p3 p4 p5 p6 j4 j5 (by omega) hE1 (fun t o3 n3 hPS2 => ?_)
      have go : ∀ more2 : Bool, more2 = (more || t) → wp_X8_foldAll_83 (nI J.length) (nI n) fr by' tw' (nI k) (bI more2) o3 n3 rc Q := by
        intro more2 hm2
        subst hm2
        obtain ⟨rt', d', q1, q2, q3, q4, q5, q6⟩ := hPS2
        refine ⟨vp_in_nI (by omega) (by decide), ?_⟩
        rw [cl_nI (by omega), j1, j2, j3]
        refine oneOf8 hn q1 j5 (fun o4 f4 => ⟨vp_in_nI (by omega) (by decide), vp_in_nI (by omega) (by decide), oneOf8 hn f4 j4 (fun o5 f5 => ?_)⟩)
        rw [show (2 : Int32) * nI e.2.1 + 1 = nI (2 * e.2.1 + 1) from by rw [show (2 : Int32) * nI e.2.1 = nI (2 * e.2.1) from pk_mul 2 e.2.1, nI_1]]
        refine foldStep hn hR hF f5 q2 q3 q4 q5 q6 j5 j4 (by omega) hE2 (fun t2 o6 n6 hPS3 => ?_)
        have last : ∀ m3 : Bool, m3 = (more || t || t2) → wp_X8_foldAll_130 (nI J.length) (nI n) fr by' tw' (nI k) (bI m3) o6 n6 rc Q := by
          intro m3 hm3 x hx
          subst hx hm3
          refine hrc _ _ _ ⟨_, rfl, hPS3.sub (fun a l b hH => ?_)⟩
          obtain ⟨j, e', hj, he', hor⟩ := hH
          by_cases c : j = k
          · subst c
            rw [he] at he'
            cases he'
            rcases hor with c | c
            · exact Or.inl (Or.inr c)
            · exact Or.inr c
          · exact Or.inl (Or.inl ⟨j, e', by omega, he', hor⟩)
        refine brb (fun ct => last true (by rw [ct, Bool.or_true])) (fun ct => brb' (fun c => last false (by rw [c, ct]; rfl)) (fun c => last true (by rw [c]; rfl)))
      refine brb (fun ct => go true (by rw [ct, Bool.or_true])) (fun ct => brb' (fun c => go false (by rw [c, ct]; rfl)) (fun c => go true (by rw [c]; rfl)))
    · rintro a one1 nx2 ⟨more, rfl, hPS⟩ rc
      exact br_end (Nat.le_refl _) (by omega) ⟨bI_B _, hQ more one1 nx2 hPS⟩
end NETR
