/-! PURE 41: all seams of a round: the reference -/
section RSEAMS
variable {tb : Nat → Bool} {rN : Nat → Nat} {rW : Nat → Nat → Nat} {c : Nat → Nat → Option Nat}
theorem slD_mem {p : Nat} {e : Jn} : ∀ {d : Nat}, e ∈ slD tb rN rW c p d ↔ e.1 < d ∧ e.2.1 = p ∧ sm tb rN rW c p (xr e.1) = some e.2.2
  | 0 => ⟨fun h => by (cases h), fun h => by have := h.1; omega⟩
  | d + 1 => by
    rw [slD, List.mem_append, slD_mem (d := d)]
    constructor
    · rintro (⟨h1, h2, h3⟩ | h)
      · exact ⟨by omega, h2, h3⟩
      · cases c1 : sm tb rN rW c p (xr d) with
        | none => rw [c1] at h; cases h
        | some q =>
          rw [c1] at h
          have h : e ∈ [(d, p, q)] := h
          rw [List.mem_singleton] at h
          subst h
          exact ⟨Nat.lt_succ_self d, rfl, c1⟩
    · rintro ⟨h1, h2, h3⟩
      by_cases c0 : e.1 = d
      · refine Or.inr ?_
        obtain ⟨d', p', q'⟩ := e
        have c0 : d' = d := c0
        have h2 : p' = p := h2
        have h3 : sm tb rN rW c p (xr d') = some q' := h3
        subst c0 h2
        rw [h3]
        exact List.mem_singleton.mpr rfl
      · exact Or.inl ⟨by omega, h2, h3⟩
theorem slL_mem {e : Jn} : ∀ {k : Nat}, e ∈ slL tb rN rW c k ↔ fS tb rN rW c k e
  | 0 => ⟨fun h => by (cases h), fun h => by have := h.2.1; omega⟩
  | k + 1 => by
    rw [slL, List.mem_append, slL_mem (k := k), slD_mem]
    constructor
    · rintro (⟨h1, h2, h3⟩ | ⟨h1, h2, h3⟩)
      · exact ⟨h1, by omega, h3⟩
      · exact ⟨h1, by omega, by rw [h2]; exact h3⟩
    · rintro ⟨h1, h2, h3⟩
      by_cases c0 : e.2.1 = k
      · exact Or.inr ⟨h1, c0, by rw [← c0]; exact h3⟩
      · exact Or.inl ⟨h1, by omega, h3⟩
def kS (e : Jn) : Nat := e.2.1 * 4 + e.1
theorem slD_nd {p : Nat} : ∀ {d : Nat}, d ≤ 4 → ((slD tb rN rW c p d).map kS).Nodup
  | 0, _ => List.nodup_nil
  | d + 1, hd => by
    rw [slD, List.map_append, List.nodup_append]
    refine ⟨slD_nd (by omega), ?_, fun a ha b hb eab => ?_⟩
    · cases sm tb rN rW c p (xr d) with
      | none => exact List.nodup_nil
      | some q => exact List.nodup_cons.mpr ⟨fun h => by (cases h), List.nodup_nil⟩
    · obtain ⟨e, he, e1⟩ := List.mem_map.mp ha
      obtain ⟨h1, h2, _⟩ := slD_mem.mp he
      cases c1 : sm tb rN rW c p (xr d) with
      | none => rw [c1] at hb; cases hb
      | some q =>
        rw [c1] at hb
        have hb : b ∈ [kS (d, p, q)] := hb
        rw [List.mem_singleton] at hb
        have e1 : e.2.1 * 4 + e.1 = a := e1
        have hb : b = p * 4 + d := hb
        omega
theorem slL_nd : ∀ {k : Nat}, ((slL tb rN rW c k).map kS).Nodup
  | 0 => List.nodup_nil
  | k + 1 => by
    rw [slL, List.map_append, List.nodup_append]
    refine ⟨slL_nd, slD_nd (Nat.le_refl 4), fun a ha b hb eab => ?_⟩
    obtain ⟨e, he, e1⟩ := List.mem_map.mp ha
    obtain ⟨e', he', e2⟩ := List.mem_map.mp hb
    obtain ⟨h1, h2, _⟩ := slL_mem.mp he
    obtain ⟨h3, h4, _⟩ := slD_mem.mp he'
    have e1 : e.2.1 * 4 + e.1 = a := e1
    have e2 : e'.2.1 * 4 + e'.1 = b := e2
    omega
variable {c' : Nat → Nat → Option Nat} {s : Nat} {f g : Nat → Nat}
theorem sEB (hB : Bth s c c' f g) (hc : okC s c) (hw : ∀ d, d < 4 → ∀ i, i < rN d → rW d i < 6) {p d : Nat} (hp : p < s) (hd : d < 4) : (sE tb rN rW c p d).map f = sE tb rN rW c' (f p) d := by
  unfold sE
  by_cases t : tb (d / 2) = true
  · rw [if_pos t, if_pos t]
    exact hB.walk hc hp (hw d hd)
  · rw [if_neg t, if_neg t]; rfl
theorem smB (hB : Bth s c c' f g) (hc : okC s c) (hw : ∀ d, d < 4 → ∀ i, i < rN d → rW d i < 6) {p d : Nat} (hp : p < s) (hd : d < 4) : (sm tb rN rW c p d).map f = sm tb rN rW c' (f p) d := by
  have hx := (xr4 d hd).1
  have e1 := sEB (tb := tb) hB hc hw hp hd
  have e2 := sEB (tb := tb) hB hc hw hp hx
  unfold sm
  rw [← e1, ← e2]
  by_cases t : sE tb rN rW c p d = sE tb rN rW c p (xr d)
  · rw [if_pos t, if_pos (by rw [t])]; rfl
  · have t' : ¬ (sE tb rN rW c p d).map f = (sE tb rN rW c p (xr d)).map f := fun e => by
      refine t ?_
      cases a1 : sE tb rN rW c p d with
      | none =>
        cases a2 : sE tb rN rW c p (xr d) with
        | none => rfl
        | some v => rw [a1, a2] at e; cases e
      | some u =>
        cases a2 : sE tb rN rW c p (xr d) with
        | none => rw [a1, a2] at e; cases e
        | some v =>
          rw [a1, a2] at e
          have e : some (f u) = some (f v) := e
          have hu := sE_lt hc hw hp hd a1
          have hv := sE_lt hc hw hp hx a2
          have e3 : f u = f v := Option.some.inj e
          rw [← (hB.1 u hu).2, e3, (hB.1 v hv).2]
    rw [if_neg t, if_neg t']
theorem Bth.back (hB : Bth s c c' f g) (hc : okC s c) {a l b : Nat} (ha : a < s) (hl : l < 6) (e : c' a l = some b) : c (g a) l = some (g b) := by
  have hg := hB.2.1 a ha
  have h := hB.2.2 (g a) l hg.1 hl
  rw [hg.2, e] at h
  cases c1 : c (g a) l with
  | none => rw [c1] at h; cases h
  | some q =>
    rw [c1] at h
    have h : some (f q) = some b := h
    have hq := hc (g a) l q hg.1 hl c1
    have e2 : f q = b := Option.some.inj h
    rw [← e2, (hB.1 q hq).2]
/-- the reference's order -/
def tR (g : Nat → Nat) (S : List Jn) (k : Nat) : SmT := fun e => ∃ j p' q', j < k ∧ S[j]? = some (e.1, p', q') ∧ e.2.1 = g p' ∧ e.2.2 = g q'
theorem tR_step {S : List Jn} {k d p q : Nat} (h : S[k]? = some (d, p, q)) : tR g S (k + 1) = ad (tR g S k) (d, g p, g q) := by
  funext e
  refine propext ⟨fun ⟨j, p', q', hj, e1, e2, e3⟩ => ?_, fun h' => ?_⟩
  · by_cases c0 : j = k
    · subst c0
      rw [h] at e1
      refine Or.inr ?_
      obtain ⟨d1, p1, q1⟩ := e
      have g1 : some (d, p, q) = some (d1, p', q') := e1
      have g2 : p1 = g p' := e2
      have g3 : q1 = g q' := e3
      subst g2 g3
      cases g1
      rfl
    · exact Or.inl ⟨j, p', q', by omega, e1, e2, e3⟩
  · rcases h' with ⟨j, p', q', hj, e1, e2, e3⟩ | rfl
    · exact ⟨j, p', q', by omega, e1, e2, e3⟩
    · exact ⟨k, p, q, by omega, h, rfl, rfl⟩
theorem fS_fw (hB : Bth s c c' f g) (hc : okC s c) (hw : ∀ d, d < 4 → ∀ i, i < rN d → rW d i < 6) {d p q : Nat} (h : fS tb rN rW c s (d, p, q)) : fS tb rN rW c' s (d, f p, f q) := by
  obtain ⟨h1, h2, h3⟩ := h
  have h1 : d < 4 := h1
  have h2 : p < s := h2
  have h3 : sm tb rN rW c p (xr d) = some q := h3
  have h4 := smB (tb := tb) hB hc hw h2 (xr4 d h1).1
  rw [h3] at h4
  exact ⟨h1, (hB.1 p h2).1, h4.symm⟩
theorem fS_bk (hB : Bth s c c' f g) (hc : okC s c) (hw : ∀ d, d < 4 → ∀ i, i < rN d → rW d i < 6) {d p q : Nat} (h : fS tb rN rW c' s (d, p, q)) : fS tb rN rW c s (d, g p, g q) ∧ q < s := by
  obtain ⟨h1, h2, h3⟩ := h
  have h1 : d < 4 := h1
  have h2 : p < s := h2
  have h3 : sm tb rN rW c' p (xr d) = some q := h3
  have hg := hB.2.1 p h2
  have h4 := smB (tb := tb) hB hc hw hg.1 (xr4 d h1).1
  rw [hg.2, h3] at h4
  cases c1 : sm tb rN rW c (g p) (xr d) with
  | none => rw [c1] at h4; cases h4
  | some r =>
    rw [c1] at h4
    have h4 : some (f r) = some q := h4
    have hr := sm_lt hc hw hg.1 (xr4 d h1).1 c1
    have e2 : f r = q := Option.some.inj h4
    have e3 : g q = r := by rw [← e2]; exact (hB.1 r hr).2
    refine ⟨⟨h1, hg.1, ?_⟩, by rw [← e2]; exact (hB.1 r hr).1⟩
    show sm tb rN rW c (g p) (xr d) = some (g q)
    rw [c1, e3]
theorem tR_end (hB : Bth s c c' f g) (hc : okC s c) (hw : ∀ d, d < 4 → ∀ i, i < rN d → rW d i < 6) : tR g (slL tb rN rW c' s) (slL tb rN rW c' s).length = fS tb rN rW c s := by
  funext e
  obtain ⟨d, p, q⟩ := e
  refine propext ⟨fun ⟨j, p', q', hj, e1, e2, e3⟩ => ?_, fun h => ?_⟩
  · have e2 : p = g p' := e2
    have e3 : q = g q' := e3
    subst e2 e3
    exact (fS_bk hB hc hw (slL_mem.mp (List.mem_iff_getElem?.mpr ⟨j, e1⟩))).1
  · obtain ⟨j, hj⟩ := List.mem_iff_getElem?.mp (slL_mem.mpr (fS_fw hB hc hw h))
    have hq := sm_lt hc hw h.2.1 (xr4 d h.1).1 h.2.2
    exact ⟨j, f p, f q, (List.getElem?_eq_some_iff.mp hj).1, hj, (hB.1 p h.2.1).2.symm, (hB.1 q hq).2.symm⟩
theorem seams8 (hs : s ≤ 24) (hc : ∀ k l k', k < s → l < 6 → c k l = some k' → k' < s ∧ c k' (xr l) = some k) {st : AR} (hV : RV tb rN rW st) (hB : Bth s c c' f g) {sw : Int32} {sd sf so : AR} (hRS : RS (slL tb rN rW c' s) sw sd sf so) {nm : Nat → Nm} {J : List Jn} {jn : Int32} {fr by' tw' one : AR} (hJ : J.length ≤ 72) (h : SR (qE s rN rW c (fS tb rN rW c s)) (qM rN (fS tb rN rW c s)) (qV s rN (tR g (slL tb rN rW c' s) 0)) (qE s rN rW c (tR g (slL tb rN rW c' s) 0)) (qM rN (tR g (slL tb rN rW c' s) 0)) s g s nm J jn fr by' tw' one) {bg fi ro : Int32} {nu nx : AR} {rc14 : Int32 → Int32 → Int32 → Int32 → Int32 → Int32 → AR → AR → AR → AR → AR → AR → AR → AR → AR → Prop} {Q : Int32 → Int32 → Int32 → Int32 → Int32 → Int32 → Int32 → AR → AR → AR → AR → AR → AR → AR → AR → AR → Prop} (hQ : ∀ n' nm' J' jn fr by' tw' one, SR (qE s rN rW c (fS tb rN rW c s)) (qM rN (fS tb rN rW c s)) (qV s rN (fS tb rN rW c s)) (qE s rN rW c (fS tb rN rW c s)) (qM rN (fS tb rN rW c s)) s g n' nm' J' jn fr by' tw' one → n' ≤ 1400 → wp_X8_foldNet jn (nI n') bg fi fr by' tw' one nu nx (fun jn np bg fi fr by' tw' one nu nx => (np ≤ 24 → wp_X8_laySews np sw st nx sd sf so (fun sw sd sf so => rc14 jn np bg fi (ro + 1) sw fr by' tw' one nu nx sd sf so)) ∧ (¬ np ≤ 24 → Q 0 jn np bg fi (ro + 1) sw fr by' tw' one nu nx sd sf so))) : wp_X8_layNet_34 st bg fi ro sw nu nx sd sf so rc14 Q 0 jn (nI s) fr by' tw' one := by
  have hw : ∀ d, d < 4 → ∀ i, i < rN d → rW d i < 6 := fun d hd i hi => ((hV.2 d hd).2.2 i hi).1
  have hok : okC s c := fun k l q hk hl e => (hc k l q hk hl e).1
  have hlen := slL_len (tb := tb) (rN := rN) (rW := rW) (c := c') s
  obtain ⟨hsw, hent⟩ := hRS
  subst hsw
  refine cl7r (body := wb_X8_layNet_34 st bg fi ro (nI (slL tb rN rW c' s).length) nu nx sd sf so rc14 Q) (slL tb rN rW c' s).length (fun k jn pl fr by' tw' one => ∃ n nm J, pl = nI n ∧ n ≤ s + 11 * k ∧ J.length ≤ 72 + 12 * k ∧ SR (qE s rN rW c (fS tb rN rW c s)) (qM rN (fS tb rN rW c s)) (qV s rN (tR g (slL tb rN rW c' s) k)) (qE s rN rW c (tR g (slL tb rN rW c' s) k)) (qM rN (tR g (slL tb rN rW c' s) k)) s g n nm J jn fr by' tw' one) ?_ ?_ ⟨s, nm, J, rfl, by omega, by omega, h⟩
  · rintro k hk jn1 pl1 fr1 by1 tw1 one1 ⟨n, nm1, J1, rfl, hn, hJ1, hSR⟩ rc hrc
    obtain ⟨⟨d, p, q⟩, hkey⟩ : ∃ e, (slL tb rN rW c' s)[k]? = some e := ⟨_, List.getElem?_eq_getElem hk⟩
    obtain ⟨e1, e2, e3⟩ := hent k (d, p, q) hkey
    have hF' := slL_mem.mp (List.mem_iff_getElem?.mpr ⟨k, hkey⟩)
    obtain ⟨hF, hq⟩ := fS_bk hB hok hw hF'
    have hd : d < 4 := hF'.1
    have hp : p < s := hF'.2.1
    refine br_ge hk (by omega) ⟨vp_in_nI (by omega) (by decide), vp_in_nI (by omega) (by decide), vp_in_nI (by omega) (by decide), ?_⟩
    rw [cl_nI (by omega), e1, e2, e3]
    refine sewR hc hF (fun q' hT => ?_) hd hp hq hV (by omega) (by omega) hSR (fun n2 nm2 J2 jn2 fr2 by2 tw2 one2 hSR2 hn2 hJ2 x hx => ?_)
    · obtain ⟨j, p2, q2, hj, f1, f2, _⟩ := hT
      have f1 : (slL tb rN rW c' s)[j]? = some (d, p2, q2) := f1
      have f2 : g p = g p2 := f2
      have hF2 := slL_mem.mp (List.mem_iff_getElem?.mpr ⟨j, f1⟩)
      have hp2 : p2 < s := hF2.2.1
      have f3 : p = p2 := by rw [← (hB.2.1 p hp).2, f2, (hB.2.1 p2 hp2).2]
      subst f3
      have g1 : ((slL tb rN rW c' s).map kS)[k]? = some (p * 4 + d) := by rw [List.getElem?_map, hkey]; rfl
      have g2 : ((slL tb rN rW c' s).map kS)[j]? = some (p * 4 + d) := by rw [List.getElem?_map, f1]; rfl
      have := nodup_get slL_nd g1 g2
      omega
    · subst hx
      rw [← tR_step hkey] at hSR2
      exact hrc _ _ _ _ _ _ ⟨n2, nm2, J2, rfl, by omega, by omega, hSR2⟩
  · rintro jn1 pl1 fr1 by1 tw1 one1 ⟨n, nm1, J1, rfl, hn, hJ1, hSR⟩ rc
    rw [tR_end hB hok hw] at hSR
    exact br_end (Nat.le_refl _) (by omega) (hQ n nm1 J1 _ _ _ _ _ hSR (by omega))
end RSEAMS
theorem cN_some {s : Nat} (hs : s ≤ 1400) {nx : AR} (h : ∀ k l, k < s → l < 6 → nx (6 * k + l) = -6 ∨ ∃ k', k' < s ∧ nx (6 * k + l) = nI k') {k l q : Nat} : lkN s nx k l q ↔ k < s ∧ l < 6 ∧ cN nx k l = some q := by
  constructor
  · rintro ⟨hk, hq, hl, e⟩
    refine ⟨hk, hl, ?_⟩
    have e1 := cN_I hs h hk hl
    rw [e] at e1
    cases c : cN nx k l with
    | none =>
      rw [c] at e1
      exact absurd e1.symm (neg6 (q := q) (by omega))
    | some r =>
      rw [c] at e1
      have hr := cN_ok hs h k l r hk hl c
      rw [(nI_eq (by omega) (by omega)).mp e1]
  · rintro ⟨hk, hl, e⟩
    have e1 := cN_I hs h hk hl
    rw [e] at e1
    exact ⟨hk, cN_ok hs h k l q hk hl e, hl, e1⟩
theorem roundR {tb : Nat → Bool} {rN : Nat → Nat} {rW : Nat → Nat → Nat} {s b e : Nat} (hs : s ≤ 24) {lk bc : AR} (h : CN s lk bc) {J : List Jn} {jn : Int32} {fr by' tw' one nx : AR} (hN : RN s J jn fr by' tw' one nx) {f g : Nat → Nat} (hB : Bth s (cA lk) (cN nx) f g) {st : AR} (hV : RV tb rN rW st) {sw : Int32} {sd sf so : AR} (hRS : RS (slL tb rN rW (cN nx) s) sw sd sf so) (hb : b < s) (he : e < s) {ro : Int32} {nu : AR} {rc14 : Int32 → Int32 → Int32 → Int32 → Int32 → Int32 → AR → AR → AR → AR → AR → AR → AR → AR → AR → Prop} {Q : Int32 → Int32 → Int32 → Int32 → Int32 → Int32 → Int32 → AR → AR → AR → AR → AR → AR → AR → AR → AR → Prop} (hQ : ∀ s2 b2 e2 J2 jn fr by' tw' one nu nx2, RN s2 J2 jn fr by' tw' one nx2 → s2 ≤ 1400 → QP (qV s rN (fS tb rN rW (cA lk) s)) (qE s rN rW (cA lk) (fS tb rN rW (cA lk) s)) (qM rN (fS tb rN rW (cA lk) s)) (b, 4, 0) (e, 4, 0) s2 (lkN s2 nx2) b2 e2 → (nI s2 ≤ 24 → wp_X8_laySews (nI s2) sw st nx2 sd sf so (fun sw sd sf so => rc14 jn (nI s2) (nI b2) (nI e2) (ro + 1) sw fr by' tw' one nu nx2 sd sf so)) ∧ (¬ nI s2 ≤ 24 → Q 0 jn (nI s2) (nI b2) (nI e2) (ro + 1) sw fr by' tw' one nu nx2 sd sf so)) : wp_X8_layNet_34 st (nI (f b)) (nI (f e)) ro sw nu nx sd sf so rc14 Q 0 jn (nI s) fr by' tw' one := by
  have hc := cA_sym h
  have hok := cA_ok h
  obtain ⟨n1, n2, n3, n4, n5⟩ := hN
  have hJ : J.length ≤ 72 := by
    rw [n5]
    have := cn_le (fun i => !decide (nx (6 * (i / 3) + 2 * (i % 3)) = -6)) (3 * s)
    show cn _ (3 * s) ≤ 72
    omega
  have h0 : SR (qE s rN rW (cA lk) (fS tb rN rW (cA lk) s)) (qM rN (fS tb rN rW (cA lk) s)) (qV s rN (tR g (slL tb rN rW (cN nx) s) 0)) (qE s rN rW (cA lk) (tR g (slL tb rN rW (cN nx) s) 0)) (qM rN (tR g (slL tb rN rW (cN nx) s) 0)) s g s (fun k => (g k, 4, 0)) J jn fr by' tw' one := by
    have hed : ∀ a l b', lkN s nx a l b' → qE s rN rW (cA lk) (fS tb rN rW (cA lk) s) (g a, 4, 0) l (g b', 4, 0) := fun a l b' hl => by
      obtain ⟨ha, hl, ec⟩ := (cN_some (by omega) n3).mp hl
      exact Or.inl ⟨g a, g b', (hB.2.1 a ha).1, hl, hB.back hok ha hl ec, rfl, rfl⟩
    refine ⟨fun x => x, fun _ => 0, fun p hp => ⟨p, hp, n2 p hp, rfl, hp, n2 p hp, fun _ => rfl, fun c => absurd rfl c⟩, fun p q _ _ epq => ?_, n1, Nat.le_refl s, fun _ _ => rfl, fun p q hp hq epq => ?_, fun x => ⟨?_, ?_⟩, fun j hj => ⟨?_, ?_⟩, ?_, ?_⟩
    · rw [show p = q from epq]; exact (LE.eqv _ _).1 _
    · have e' : ((g p, 4, 0) : Nm) = (g q, 4, 0) := epq
      have e2 : g p = g q := by
        have := congrArg (fun x : Nm => x.1) e'
        exact this
      rw [← (hB.2.1 p hp).2, e2, (hB.2.1 q hq).2]
    · rintro (⟨p, hp, rfl⟩ | ⟨p, d, q, i, ⟨j, _, _, hj, _⟩, _⟩)
      · have := hB.1 p hp
        exact ⟨f p, this.1, by show (g (f p), 4, 0) = _; rw [this.2]⟩
      · omega
    · rintro ⟨p, hp, rfl⟩
      exact Or.inl ⟨g p, (hB.2.1 p hp).1, rfl⟩
    · exact hed _ _ _ ((n4 _ _ _).mp (HJ_mem.mpr ⟨j, hj, Or.inl ⟨rfl, rfl, rfl⟩⟩))
    · exact hed _ _ _ ((n4 _ _ _).mp (HJ_mem.mpr ⟨j, hj, Or.inr ⟨rfl, rfl, rfl⟩⟩))
    · rintro x l y (⟨k, k', hk, hl, ec, rfl, rfl⟩ | ⟨p, d, q, i, ⟨j, _, _, hj, _⟩, _⟩)
      · have hk' := (hc k l k' hk hl ec).1
        have f1 := hB.1 k hk
        have f2 := hB.1 k' hk'
        have f3 := hB.2.2 k l hk hl
        rw [ec] at f3
        refine ⟨f k, f k', f1.1, f2.1, by show (g (f k), 4, 0) = _; rw [f1.2], by show (g (f k'), 4, 0) = _; rw [f2.2], (n4 _ _ _).mpr ((cN_some (by omega) n3).mpr ⟨f1.1, hl, f3.symm⟩)⟩
      · omega
    · rintro x y ⟨p, d, q, ⟨j, _, _, hj, _⟩, _⟩
      omega
  refine seams8 hs hc hV hB hRS hJ h0 (fun n nm J' jn fr by' tw' one hSR hn => ?_)
  obtain ⟨rt, d0, h1, h2, h3, h4, h5, h6, h7, h8, h9, h10⟩ := hSR
  have fb := hB.1 b hb
  have fe := hB.1 e he
  have hbn := h5 (f b) fb.1
  have hen := h5 (f e) fe.1
  rw [fb.2] at hbn
  rw [fe.2] at hen
  refine foldNet8 hn h6 h7 h3 (fun k e' he' => h8 e' (List.mem_iff_getElem?.mpr ⟨k, he'⟩)) h9 h10 h1 h2 (b := f b) (e := f e) (by omega) (by omega) (fun s2 b2 e2 J2 jn fr by' tw' one nu nx2 f1 f2 f3 => hQ s2 b2 e2 J2 jn fr by' tw' one nu nx2 f1 (by omega) ?_)
  rw [hbn, hen] at f3
  exact f3
