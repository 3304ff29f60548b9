/-! PURE 29: the reference folds a net -/
def lkN (s : Nat) (nx : AR) : LkF := fun k l k' => k < s ∧ k' < s ∧ l < 6 ∧ nx (6 * k + l) = nI k'
def jcN (s : Nat) (nx : AR) : Nat := cn (fun i => !decide (nx (6 * (i / 3) + 2 * (i % 3)) = -6)) (3 * s)
/-- what the reference holds of a folded net -/
def RN (s : Nat) (J : List Jn) (jn : Int32) (fr by' tw' one nx : AR) : Prop := RJ s J jn fr by' tw' ∧ (∀ k, k < s → one k = nI k) ∧ (∀ k l, k < s → l < 6 → nx (6 * k + l) = -6 ∨ ∃ k', k' < s ∧ nx (6 * k + l) = nI k') ∧ (∀ k l k', HJ J J.length k l k' ↔ lkN s nx k l k') ∧ J.length = jcN s nx
theorem foldNet8 {V : Nm → Prop} {E : Nm → Nat → Nm → Prop} {M : Nm → Nm → Prop} {n : Nat} {nm : Nat → Nm} {rt0 d0 : Nat → Nat} {J : List Jn} {jn : Int32} {fr by' tw' one nu nx : AR} (hn : n ≤ 1400) (hinj : ∀ p q, p < n → q < n → nm p = nm q → p = q) (hV : ∀ x, V x ↔ ∃ p, p < n ∧ nm p = x) (hJ : RJ n J jn fr by' tw') (hE : ∀ (k : Nat) (e : Jn), J[k]? = some e → E (nm e.1) (2 * e.2.1) (nm e.2.2) ∧ E (nm e.2.2) (2 * e.2.1 + 1) (nm e.1)) (hD : ∀ x l y, E x l y → ∃ a b, a < n ∧ b < n ∧ nm a = x ∧ nm b = y ∧ HJ J J.length a l b) (hM : ∀ x y, M x y → ∃ p q, p < n ∧ q < n ∧ nm p = x ∧ nm q = y ∧ rt0 p = rt0 q) (h1 : FR one n rt0 d0) (h2 : ∀ p q, p < n → q < n → rt0 p = rt0 q → LE E M (nm p) (nm q)) {b e : Nat} (hb : b < n) (he : e < n) {Q : Int32 → Int32 → Int32 → Int32 → AR → AR → AR → AR → AR → AR → Prop} (hQ : ∀ s b' e' J' jn fr by' tw' one nu nx, RN s J' jn fr by' tw' one nx → s ≤ n → QP V E M (nm b) (nm e) s (lkN s nx) b' e' → Q jn (nI s) (nI b') (nI e') fr by' tw' one nu nx) : wp_X8_foldNet jn (nI n) (nI b) (nI e) fr by' tw' one nu nx Q := by
  refine foldLoop8 hn (LE.eqv E M) (LE.fc E M) hJ hE h1 h2 (fun rt one1 nx1 hC => ?_)
  have hlen := tJ_le hn hC hinj hD hM
  have hJl := hJ.2.1
  have hsn := sN_le rt n
  have hbk := @Clo.back E n nm rt0 M J rt one1 nx1 hn hC hinj hD hM
  have hHJ := fun k l k' => @HJ_tJ E M n nm rt0 J jn fr by' tw' rt one1 nx1 hn hC hinj hD hM hJ k l k'
  have c5 := hC.2.2.2.2.1
  have c6 := hC.2.2.2.2.2
  have c2 := hC.2.1
  obtain ⟨d, c1⟩ := hC.1
  have rr : ∀ p, p < n → rt (rt p) = rt p := fun p hp => c1.rr hn hp
  refine tidy8 hn hC hb he (by omega) (fun jn2 fr2 by2 tw2 one2 nu2 hRJ2 hone2 => ?_)
  -- the quotient's own edges
  have hFC : FC (fun x l y => ∃ k k', x = (k, 0, 0) ∧ y = (k', 0, 0) ∧ QE n rt J k l k') (fun x y => x = y) := by
    rintro x x' l y y' rfl ⟨k, k', e1, e2, a, b, ha, hb, hH, f1, f2⟩ ⟨k2, k2', e3, e4, a2, b2, ha2, hb2, hH2, g1, g2⟩
    rw [e1] at e3
    cases e3
    have hra : rt a = rt a2 := sN_inj (rr a ha) (rr a2 ha2) (by rw [f1, g1])
    obtain ⟨h, hh, m1, m2⟩ := c5 a l b ha hb hH
    obtain ⟨h', hh', m3, m4⟩ := c5 a2 l b2 ha2 hb2 hH2
    rw [hra, m3] at m1
    have : h' = h := (nI_eq (by omega) (by omega)).mp m1
    rw [e2, e4, ← f2, ← g2, ← m2, ← m4, this]
  have hEqv : Eqv (fun x y : Nm => x = y) := ⟨fun _ => rfl, fun _ _ e => e.symm, fun _ _ _ e e' => e.trans e'⟩
  have hFR2 : FR one2 (sN rt n) (fun x => x) (fun _ => 0) := fun p hp => ⟨p, hp, hone2 p hp, rfl, hp, hone2 p hp, fun _ => rfl, fun c => absurd rfl c⟩
  have hnmi : ∀ p q, p < sN rt n → q < sN rt n → (fun k : Nat => ((k, 0, 0) : Nm)) p = (fun k : Nat => ((k, 0, 0) : Nm)) q → p = q := fun p q _ _ e => by
    have e' : ((p, 0, 0) : Nm) = (q, 0, 0) := e
    cases e'; rfl
  refine foldAll8 (E := fun x l y => ∃ k k', x = (k, 0, 0) ∧ y = (k', 0, 0) ∧ QE n rt J k l k') (R := fun x y => x = y) (nm := fun k => (k, 0, 0)) (rt0 := fun x => x) (by omega) hEqv hFC hRJ2 (fun k e' he' => ?_) hFR2 (fun p q _ _ e => by rw [show p = q from e]) (fun more one3 nx3 hPS => ?_)
  · have hk := (List.getElem?_eq_some_iff.mp he').1
    exact ⟨⟨_, _, rfl, rfl, (hHJ _ _ _).mp ⟨k, e', hk, he', Or.inl ⟨rfl, rfl, rfl⟩⟩⟩, ⟨_, _, rfl, rfl, (hHJ _ _ _).mp ⟨k, e', hk, he', Or.inr ⟨rfl, rfl, rfl⟩⟩⟩⟩
  · obtain ⟨rt3, d3, p1, p2, p3, p4, p5, p6⟩ := hPS
    have hid : ∀ p, p < sN rt n → rt3 p = p := fun p hp => by
      have := p2 (rt3 p) p (p1.lt hp) hp (p1.rr (by omega) hp)
      exact hnmi _ _ (p1.lt hp) hp this
    have hmore : more = false := by
      cases more with
      | false => rfl
      | true =>
        have h3 := p6 rfl
        have h4 : sN rt3 (sN rt n) = sN (fun x => x) (sN rt n) := cn_congr _ (fun i hi => by rw [decide_eq_true (hid i hi), decide_eq_true rfl])
        omega
    obtain ⟨q1, q2, q3⟩ := p5 hmore
    subst q1
    have hlk : ∀ k l k', HJ (tJ rt nx1 n) (tJ rt nx1 n).length k l k' ↔ lkN (sN rt n) nx3 k l k' := by
      intro k l k'
      constructor
      · intro hH
        obtain ⟨hl, ha, hb⟩ := hH.lt hRJ2
        obtain ⟨h, hh, m1, m2⟩ := q2 k l k' ha hb hH
        have m2' : h = k' := m2
        subst m2'
        exact ⟨ha, hh, hl, m1⟩
      · rintro ⟨hk, hk', hl, ecell⟩
        rcases p3 k l hk hl with c | ⟨h, hh, c, x, y, ⟨u, v, e1, e2, hq⟩, e3, e4⟩
        · rw [c] at ecell; exact absurd ecell (neg6 (by omega))
        · rw [c] at ecell
          have eh : h = k' := (nI_eq (by omega) (by omega)).mp ecell
          subst eh
          have e3' : ((k, 0, 0) : Nm) = x := e3
          have e4' : ((h, 0, 0) : Nm) = y := e4
          rw [e1] at e3'
          rw [e2] at e4'
          cases e3'
          cases e4'
          exact (hHJ _ _ _).mpr hq
    have hcells : ∀ k l, k < sN rt n → l < 6 → nx3 (6 * k + l) = -6 ∨ ∃ k', k' < sN rt n ∧ nx3 (6 * k + l) = nI k' := fun k l hk hl => by
      rcases p3 k l hk hl with c | ⟨h, hh, c, _⟩
      · exact Or.inl c
      · exact Or.inr ⟨h, hh, c⟩
    have hcount : (tJ rt nx1 n).length = jcN (sN rt n) nx3 := by
      unfold jcN
      rw [cn_list, ← List.length_map (f := keyJ)]
      refine nodup_eq (tJ_nodup rt nx1) (fil_nodup _ _) (fun x => ?_)
      rw [List.mem_map, List.mem_filter, List.mem_range]
      constructor
      · rintro ⟨e', he', rfl⟩
        obtain ⟨i, hi⟩ := List.mem_iff_getElem?.mp he'
        obtain ⟨hk, hk', hl, ec⟩ := (hlk _ _ _).mp ⟨i, e', (List.getElem?_eq_some_iff.mp hi).1, hi, Or.inl ⟨rfl, rfl, rfl⟩⟩
        have ek : keyJ e' = e'.1 * 3 + e'.2.1 := rfl
        rw [ek, show (e'.1 * 3 + e'.2.1) / 3 = e'.1 by omega, show (e'.1 * 3 + e'.2.1) % 3 = e'.2.1 by omega, ec, Bool.not_eq_true', decide_eq_false_iff_not]
        exact ⟨by omega, fun c => neg6 (q := e'.2.2) (by omega) c.symm⟩
      · rintro ⟨hx, hne⟩
        rw [Bool.not_eq_true', decide_eq_false_iff_not] at hne
        rcases hcells (x / 3) (2 * (x % 3)) (by omega) (by omega) with c | ⟨k', hk', c⟩
        · exact absurd c hne
        · obtain ⟨i, e', hi, he', hor⟩ := (hlk _ _ _).mpr ⟨by omega, hk', by omega, c⟩
          rcases hor with ⟨f1, f2, f3⟩ | ⟨_, f2, _⟩
          · refine ⟨e', List.mem_iff_getElem?.mpr ⟨i, he'⟩, ?_⟩
            show e'.1 * 3 + e'.2.1 = x
            omega
          · omega
    have hone3 : ∀ k, k < sN rt n → one3 k = nI k := fun k hk => (p1.root (by omega) hk).mpr rfl
    refine hQ (sN rt n) (sN rt (rt b)) (sN rt (rt e)) (tJ rt nx1 n) jn2 fr2 by2 tw2 one3 nu2 nx3 ⟨hRJ2, hone3, hcells, hlk, hcount⟩ hsn ?_
    have hex : ∀ x, ∃ p, V x → p < n ∧ nm p = x := fun x => by
      by_cases c : V x
      · obtain ⟨p, hp⟩ := (hV x).mp c
        exact ⟨p, fun _ => hp⟩
      · exact ⟨0, fun c2 => absurd c2 c⟩
    have clsn : ∀ p, p < n → sN rt (rt (Classical.choose (hex (nm p)))) = sN rt (rt p) := fun p hp => by
      have := Classical.choose_spec (hex (nm p)) ((hV _).mpr ⟨p, hp, rfl⟩)
      rw [hinj _ _ this.1 hp this.2]
    refine ⟨fun x => sN rt (rt (Classical.choose (hex x))), fun x hx => ?_, fun k hk => ?_, fun x y hx hy => ?_, fun k l k' hk hk' => ?_, (hV _).mpr ⟨b, hb, rfl⟩, (hV _).mpr ⟨e, he, rfl⟩, clsn b hb, clsn e he⟩
    · have := Classical.choose_spec (hex x) hx
      exact sN_lt (rr _ this.1) (c1.lt this.1)
    · obtain ⟨p, hp, g1, g2⟩ := sN_onto hk
      exact ⟨nm p, (hV _).mpr ⟨p, hp, rfl⟩, by show sN rt (rt (Classical.choose (hex (nm p)))) = k; rw [clsn p hp, g1]; exact g2⟩
    · obtain ⟨p, hp, rfl⟩ := (hV x).mp hx
      obtain ⟨q, hq, rfl⟩ := (hV y).mp hy
      show sN rt (rt (Classical.choose (hex (nm p)))) = sN rt (rt (Classical.choose (hex (nm q)))) ↔ _
      rw [clsn p hp, clsn q hq]
      exact ⟨fun e => c2 p q hp hq (sN_inj (rr p hp) (rr q hq) e), fun e => by rw [hbk hp hq e]⟩
    · rw [← hlk, hHJ]
      constructor
      · rintro ⟨a, b', ha, hb', ⟨i, e', hi, he', hor⟩, f1, f2⟩
        refine ⟨nm a, nm b', (hV _).mpr ⟨a, ha, rfl⟩, (hV _).mpr ⟨b', hb', rfl⟩, ?_, ?_, ?_⟩
        · rcases hor with ⟨rfl, rfl, rfl⟩ | ⟨rfl, rfl, rfl⟩
          · exact (hE i e' he').1
          · exact (hE i e' he').2
        · show sN rt (rt (Classical.choose (hex (nm a)))) = k
          rw [clsn a ha]; exact f1
        · show sN rt (rt (Classical.choose (hex (nm b')))) = k'
          rw [clsn b' hb']; exact f2
      · rintro ⟨x, y, hx, hy, hxy, f1, f2⟩
        obtain ⟨a, b', ha, hb', g1, g2, hH⟩ := hD x l y hxy
        subst g1 g2
        have f1' : sN rt (rt (Classical.choose (hex (nm a)))) = k := f1
        have f2' : sN rt (rt (Classical.choose (hex (nm b')))) = k' := f2
        rw [clsn a ha] at f1'
        rw [clsn b' hb'] at f2'
        exact ⟨a, b', ha, hb', hH, f1', f2'⟩
