/-! PURE 28: the reference's net presents the quotient -/
theorem tjP_mem {rt : Nat → Nat} {nx : AR} {p : Nat} {e : Jn} : ∀ {m : Nat}, e ∈ tjP rt nx p m ↔ ∃ j, j < m ∧ nx (6 * p + 2 * j) ≠ -6 ∧ e = (sN rt p, j, sN rt (nx (6 * p + 2 * j)).toNatClampNeg)
  | 0 => ⟨fun h => by (cases h), fun ⟨j, hj, _⟩ => by omega⟩
  | m + 1 => by
    rw [tjP, List.mem_append, tjP_mem (m := m)]
    constructor
    · rintro (⟨j, hj, h1, h2⟩ | h)
      · exact ⟨j, by omega, h1, h2⟩
      · unfold celJ at h
        by_cases c : nx (6 * p + 2 * m) = -6
        · rw [if_pos c] at h; cases h
        · rw [if_neg c] at h
          exact ⟨m, by omega, c, List.mem_singleton.mp h⟩
    · rintro ⟨j, hj, h1, h2⟩
      by_cases c : j = m
      · subst c
        refine Or.inr ?_
        unfold celJ
        rw [if_neg h1]
        exact List.mem_singleton.mpr h2
      · exact Or.inl ⟨j, by omega, h1, h2⟩
theorem tJ_mem {rt : Nat → Nat} {nx : AR} {e : Jn} : ∀ {k : Nat}, e ∈ tJ rt nx k ↔ ∃ p j, p < k ∧ rt p = p ∧ j < 3 ∧ nx (6 * p + 2 * j) ≠ -6 ∧ e = (sN rt p, j, sN rt (nx (6 * p + 2 * j)).toNatClampNeg)
  | 0 => ⟨fun h => by (cases h), fun ⟨p, j, hp, _⟩ => by omega⟩
  | k + 1 => by
    rw [tJ, List.mem_append, tJ_mem (k := k)]
    constructor
    · rintro (⟨p, j, hp, h1, h2, h3, h4⟩ | h)
      · exact ⟨p, j, by omega, h1, h2, h3, h4⟩
      · by_cases c : rt k = k
        · rw [if_pos c] at h
          obtain ⟨j, hj, h1, h2⟩ := tjP_mem.mp h
          exact ⟨k, j, by omega, c, hj, h1, h2⟩
        · rw [if_neg c] at h; cases h
    · rintro ⟨p, j, hp, h1, h2, h3, h4⟩
      by_cases c : p = k
      · subst c
        refine Or.inr ?_
        rw [if_pos h1]
        exact tjP_mem.mpr ⟨j, h2, h3, h4⟩
      · exact Or.inl ⟨p, j, by omega, h1, h2, h3, h4⟩
def keyJ (e : Jn) : Nat := e.1 * 3 + e.2.1
theorem tjP_nodup (rt : Nat → Nat) (nx : AR) (p : Nat) : ∀ {m : Nat}, m ≤ 3 → ((tjP rt nx p m).map keyJ).Nodup
  | 0, _ => List.nodup_nil
  | m + 1, h => by
    rw [tjP, List.map_append, List.nodup_append]
    refine ⟨tjP_nodup rt nx p (by omega), ?_, fun a ha b hb eab => ?_⟩
    · unfold celJ
      split <;> simp
    · obtain ⟨e, he, e1⟩ := List.mem_map.mp ha
      obtain ⟨e', he', e2⟩ := List.mem_map.mp hb
      obtain ⟨j, hj, _, h3⟩ := tjP_mem.mp he
      unfold celJ at he'
      split at he'
      · cases he'
      · have h4 := List.mem_singleton.mp he'
        subst h3 h4
        have e1' : sN rt p * 3 + j = a := e1
        have e2' : sN rt p * 3 + m = b := e2
        omega
theorem tJ_nodup (rt : Nat → Nat) (nx : AR) : ∀ {k : Nat}, ((tJ rt nx k).map keyJ).Nodup
  | 0 => List.nodup_nil
  | k + 1 => by
    rw [tJ, List.map_append, List.nodup_append]
    refine ⟨tJ_nodup rt nx, ?_, fun a ha b hb eab => ?_⟩
    · split
      · exact tjP_nodup rt nx k (Nat.le_refl 3)
      · exact List.nodup_nil
    · obtain ⟨e, he, e1⟩ := List.mem_map.mp ha
      obtain ⟨e', he', e2⟩ := List.mem_map.mp hb
      obtain ⟨p, j, hp, h1, h2, _, h3⟩ := tJ_mem.mp he
      by_cases c : rt k = k
      · rw [if_pos c] at he'
        obtain ⟨j', hj', _, h4⟩ := tjP_mem.mp he'
        subst h3 h4
        have e1' : sN rt p * 3 + j = a := e1
        have e2' : sN rt k * 3 + j' = b := e2
        have := sN_lt h1 hp
        omega
      · rw [if_neg c] at he'; cases he'
/-- an edge of the quotient -/
def QE (n : Nat) (rt : Nat → Nat) (J : List Jn) (k l k' : Nat) : Prop := ∃ a b, a < n ∧ b < n ∧ HJ J J.length a l b ∧ sN rt (rt a) = k ∧ sN rt (rt b) = k'
theorem HJ.lt {n : Nat} {J : List Jn} {jn : Int32} {fr by' tw' : AR} (hJ : RJ n J jn fr by' tw') {k a l b : Nat} (h : HJ J k a l b) : l < 6 ∧ a < n ∧ b < n := by
  obtain ⟨j, e, hj, he, hor⟩ := h
  obtain ⟨_, _, _, h1, h2, h3⟩ := hJ.2.2 j e he
  rcases hor with ⟨rfl, rfl, rfl⟩ | ⟨rfl, rfl, rfl⟩
  · exact ⟨by omega, h1, h2⟩
  · exact ⟨by omega, h2, h1⟩
theorem HJ.symm {J : List Jn} {k a l b : Nat} (h : HJ J k a l b) : HJ J k b (xr l) a := by
  obtain ⟨j, e, hj, he, hor⟩ := h
  refine ⟨j, e, hj, he, ?_⟩
  unfold xr
  rcases hor with ⟨rfl, rfl, rfl⟩ | ⟨rfl, rfl, rfl⟩
  · rw [if_pos (by omega)]; exact Or.inr ⟨rfl, rfl, rfl⟩
  · rw [if_neg (by omega)]; exact Or.inl ⟨rfl, by omega, rfl⟩
section NETV
variable {E : Nm → Nat → Nm → Prop} {M : Nm → Nm → Prop} {n : Nat} {nm : Nat → Nm} {rt0 : Nat → Nat} {J : List Jn} {jn : Int32} {fr by' tw' : AR} {rt : Nat → Nat} {one nx : AR}
/-- a cell is an edge of the quotient -/
theorem Clo.cell (hn : n ≤ 1400) (hC : Clo E (LE E M) n nm rt0 J rt one nx) (hinj : ∀ p q, p < n → q < n → nm p = nm q → p = q) (hD : ∀ x l y, E x l y → ∃ a b, a < n ∧ b < n ∧ nm a = x ∧ nm b = y ∧ HJ J J.length a l b) (hM : ∀ x y, M x y → ∃ p q, p < n ∧ q < n ∧ nm p = x ∧ nm q = y ∧ rt0 p = rt0 q) {p l h : Nat} (hp : p < n) (hl : l < 6) (hh : h < n) (e : nx (6 * p + l) = nI h) : ∃ a b, a < n ∧ b < n ∧ HJ J J.length a l b ∧ rt a = p ∧ rt b = h := by
  have hb := @Clo.back E n nm rt0 M J rt one nx hn hC hinj hD hM
  obtain ⟨⟨d, c1⟩, c2, c3, c4, c5, c6⟩ := hC
  rcases c3 p l hp hl with c | ⟨h', hh', c, x, y, hE, hx, hy⟩
  · rw [c] at e; exact absurd e (neg6 (by omega))
  · rw [c] at e
    have eh : h' = h := (nI_eq (by omega) (by omega)).mp e
    subst eh
    obtain ⟨a, b, ha, hb', f1, f2, f3⟩ := hD x l y hE
    subst f1 f2
    have r := c6 p l h' hp hl hh' c
    exact ⟨a, b, ha, hb', f3, by rw [← hb hp ha hx, r.1], by rw [← hb hh' hb' hy, r.2]⟩
theorem tJ_le (hn : n ≤ 1400) (hC : Clo E (LE E M) n nm rt0 J rt one nx) (hinj : ∀ p q, p < n → q < n → nm p = nm q → p = q) (hD : ∀ x l y, E x l y → ∃ a b, a < n ∧ b < n ∧ nm a = x ∧ nm b = y ∧ HJ J J.length a l b) (hM : ∀ x y, M x y → ∃ p q, p < n ∧ q < n ∧ nm p = x ∧ nm q = y ∧ rt0 p = rt0 q) : (tJ rt nx n).length ≤ J.length := by
  have := nodup_le ((tJ rt nx n).map keyJ) (J.map fun e => sN rt (rt e.1) * 3 + e.2.1) (tJ_nodup rt nx) (fun x hx => ?_)
  · rw [List.length_map, List.length_map] at this
    exact this
  · obtain ⟨e, he, rfl⟩ := List.mem_map.mp hx
    obtain ⟨p, j, hp, hr, hj, h3, rfl⟩ := tJ_mem.mp he
    have c3 := hC.2.2.1
    rcases c3 p (2 * j) hp (by omega) with c | ⟨h, hh, c, _⟩
    · exact absurd c h3
    · obtain ⟨a, b, ha, hb, ⟨i, e2, hi, he2, hor⟩, r1, r2⟩ := hC.cell hn hinj hD hM hp (by omega) hh c
      rcases hor with ⟨e3, e4, e5⟩ | ⟨_, e4, _⟩
      · refine List.mem_map.mpr ⟨e2, List.mem_iff_getElem?.mpr ⟨i, he2⟩, ?_⟩
        show sN rt (rt e2.1) * 3 + e2.2.1 = sN rt p * 3 + j
        rw [← e3, r1, show e2.2.1 = j by omega]
      · omega
theorem HJ_tJ (hn : n ≤ 1400) (hC : Clo E (LE E M) n nm rt0 J rt one nx) (hinj : ∀ p q, p < n → q < n → nm p = nm q → p = q) (hD : ∀ x l y, E x l y → ∃ a b, a < n ∧ b < n ∧ nm a = x ∧ nm b = y ∧ HJ J J.length a l b) (hM : ∀ x y, M x y → ∃ p q, p < n ∧ q < n ∧ nm p = x ∧ nm q = y ∧ rt0 p = rt0 q) (hJ : RJ n J jn fr by' tw') {k l k' : Nat} : HJ (tJ rt nx n) (tJ rt nx n).length k l k' ↔ QE n rt J k l k' := by
  have c5 := hC.2.2.2.2.1
  have c6 := hC.2.2.2.2.2
  have c3 := hC.2.2.1
  obtain ⟨d, c1⟩ := hC.1
  -- even letters first
  have ev : ∀ j k k', (∃ e, e ∈ tJ rt nx n ∧ e = (k, j, k')) ↔ (j < 3 ∧ QE n rt J k (2 * j) k') := by
    intro j k k'
    constructor
    · rintro ⟨e, he, rfl⟩
      obtain ⟨p, j', hp, hr, hj, h3, h4⟩ := tJ_mem.mp he
      rcases c3 p (2 * j') hp (by omega) with c | ⟨h, hh, c, _⟩
      · exact absurd c h3
      · rw [c, cl_nI (by omega)] at h4
        cases h4
        obtain ⟨a, b, ha, hb, hH, r1, r2⟩ := hC.cell hn hinj hD hM hp (by omega) hh c
        exact ⟨hj, a, b, ha, hb, hH, by rw [r1], by rw [r2]⟩
    · rintro ⟨hj, a, b, ha, hb, hH, e1, e2⟩
      obtain ⟨h, hh, c, r⟩ := c5 a (2 * j) b ha hb hH
      have la := c1.lt ha
      have hrt := c6 (rt a) (2 * j) h la (by omega) hh c
      refine ⟨(k, j, k'), tJ_mem.mpr ⟨rt a, j, la, hrt.1, hj, ?_, ?_⟩, rfl⟩
      · rw [c]; exact fun c2 => neg6 (q := h) (by omega) c2.symm
      · rw [c, cl_nI (by omega), e1, ← hrt.2, r, e2]
  constructor
  · rintro ⟨i, e, hi, he, hor⟩
    have := (ev e.2.1 e.1 e.2.2).mp ⟨e, List.mem_iff_getElem?.mpr ⟨i, he⟩, rfl⟩
    rcases hor with ⟨rfl, rfl, rfl⟩ | ⟨rfl, rfl, rfl⟩
    · exact this.2
    · obtain ⟨_, a, b, ha, hb, hH, e1, e2⟩ := this
      refine ⟨b, a, hb, ha, ?_, e2, e1⟩
      have := hH.symm
      unfold xr at this
      rw [if_pos (by omega)] at this
      exact this
  · rintro ⟨a, b, ha, hb, hH, e1, e2⟩
    have hl := (hH.lt hJ).1
    by_cases c : l % 2 = 0
    · obtain ⟨e, he, rfl⟩ := (ev (l / 2) k k').mpr ⟨by omega, a, b, ha, hb, by rw [show 2 * (l / 2) = l by omega]; exact hH, e1, e2⟩
      obtain ⟨i, hi⟩ := List.mem_iff_getElem?.mp he
      exact ⟨i, _, (List.getElem?_eq_some_iff.mp hi).1, hi, Or.inl ⟨rfl, by show l = 2 * (l / 2); omega, rfl⟩⟩
    · have hH2 := hH.symm
      unfold xr at hH2
      rw [if_neg c] at hH2
      obtain ⟨e, he, rfl⟩ := (ev (l / 2) k' k).mpr ⟨by omega, b, a, hb, ha, by rw [show 2 * (l / 2) = l - 1 by omega]; exact hH2, e2, e1⟩
      obtain ⟨i, hi⟩ := List.mem_iff_getElem?.mp he
      exact ⟨i, _, (List.getElem?_eq_some_iff.mp hi).1, hi, Or.inr ⟨rfl, by show l = 2 * (l / 2) + 1; omega, rfl⟩⟩
end NETV
