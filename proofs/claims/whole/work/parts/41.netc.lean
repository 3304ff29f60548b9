/-! PURE 22: the class's folding -/
theorem g_lt {G : List Nat} {k p : Nat} (h : G[k]? = some p) : k < G.length := (List.getElem?_eq_some_iff.mp h).1
theorem g_ex {G : List Nat} {k : Nat} (h : k < G.length) : ∃ p, G[k]? = some p := ⟨G[k], List.getElem?_eq_getElem h⟩
theorem g_app {G t : List Nat} {k p : Nat} (h : G[k]? = some p) : (G ++ t)[k]? = some p := by rw [List.getElem?_append_left (g_lt h)]; exact h
theorem g_new {G : List Nat} {a k p : Nat} (h : (G ++ [a])[k]? = some p) : (k < G.length ∧ G[k]? = some p) ∨ (k = G.length ∧ p = a) := by
  by_cases c : k < G.length
  · rw [List.getElem?_append_left c] at h
    exact Or.inl ⟨c, h⟩
  · rw [List.getElem?_append_right (by omega)] at h
    by_cases c2 : k = G.length
    · subst c2
      rw [Nat.sub_self] at h
      exact Or.inr ⟨rfl, by cases h; rfl⟩
    · obtain ⟨j, hj⟩ : ∃ j, k - G.length = j + 1 := ⟨k - G.length - 1, by omega⟩
      rw [hj] at h
      cases h
def LkS (E : Nm → Nat → Nm → Prop) (R : Nm → Nm → Prop) (n : Nat) (nm : Nat → Nm) (lk : AR) : Prop := ∀ p l, p < n → l < 6 → lk (p * 6 + l) = -1 ∨ ∃ q, q < n ∧ lk (p * 6 + l) = nI q ∧ lk (q * 6 + xr l) = nI p ∧ ∃ x y, E x l y ∧ R (nm p) x ∧ R (nm q) y
def CE (E : Nm → Nat → Nm → Prop) (R : Nm → Nm → Prop) (n : Nat) (nm : Nat → Nm) (i : Nat) (rt : Nat → Nat) (G : List Nat) (gc : Int32) (lk bc gn : AR) : Prop :=
  n ≤ 1080 ∧ FR bc n rt (fun x => x) ∧ gc = nI G.length ∧ (∀ k p : Nat, G[k]? = some p → gn k = nI p) ∧ G.Nodup ∧ (∀ p, p ∈ G ↔ p < n ∧ rt p ≠ p) ∧ i ≤ G.length ∧ (∀ p q, p < n → q < n → rt p = rt q → R (nm p) (nm q)) ∧ LkS E R n nm lk ∧ ∀ k p : Nat, k < i → G[k]? = some p → ∀ l, l < 6 → lk (p * 6 + l) = -1
def Co (n : Nat) (rt rt' : Nat → Nat) : Prop := ∀ u v, u < n → v < n → rt u = rt v → rt' u = rt' v
def Rep (n : Nat) (rt : Nat → Nat) (lk : AR) (a m b : Nat) : Prop := ∃ u v, u < n ∧ v < n ∧ rt u = rt a ∧ rt v = rt b ∧ lk (u * 6 + m) = nI v
section NETC
variable {E : Nm → Nat → Nm → Prop} {R : Nm → Nm → Prop} {n : Nat} {nm : Nat → Nm} {i : Nat} {rt : Nat → Nat} {G : List Nat} {gc : Int32} {lk bc gn : AR}
theorem neg1 {q : Nat} (hq : q < 2 ^ 31) : (-1 : Int32) ≠ nI q := fun c => by
  have := nn_nI hq
  rw [← c] at this
  exact absurd this (by decide)
theorem LkS.get (h : LkS E R n nm lk) {p l q : Nat} (hn : n ≤ 1080) (hp : p < n) (hl : l < 6) (hq : q < n) (e : lk (p * 6 + l) = nI q) : lk (q * 6 + xr l) = nI p ∧ ∃ x y, E x l y ∧ R (nm p) x ∧ R (nm q) y := by
  rcases h p l hp hl with c | ⟨q', hq', e', h1, h2⟩
  · rw [c] at e
    exact absurd e (neg1 (by omega))
  · rw [e] at e'
    have := (nI_eq (by omega) (by omega)).mp e'
    subst this
    exact ⟨h1, h2⟩
theorem Rep.symm (h : LkS E R n nm lk) (hn : n ≤ 1080) {a m b : Nat} (hm : m < 6) (hr : Rep n rt lk a m b) : Rep n rt lk b (xr m) a := by
  obtain ⟨u, v, hu, hv, e1, e2, e3⟩ := hr
  exact ⟨v, u, hv, hu, e2, e1, (h.get hn hu hm hv e3).1⟩
theorem mergeC (hR : Eqv R) (h : CE E R n nm i rt G gc lk bc gn) {p q : Nat} (hp : p < n) (hq : q < n) (hpq : R (nm p) (nm q)) {Q : Int32 → AR → AR → Prop} (hQ : ∀ rt' G' gc' bc' gn', CE E R n nm i rt' G' gc' lk bc' gn' → Co n rt rt' → rt' p = rt' q → (∃ t, G' = G ++ t) → Q gc' bc' gn') : wp_X2_merge (nI p) (nI q) gc bc gn Q := by
  obtain ⟨hn, hF, hgc, hgn, hnd, hG, hi, hs, hLS, hdone⟩ := h
  refine placeNow1 hn hF hp (fun bc1 hF1 => placeNow1 hn hF1 hq (fun bc2 hF2 => ?_))
  have la := hF2.lt hp
  have lb := hF2.lt hq
  refine ⟨fun c => hQ rt G gc bc2 gn ⟨hn, hF2, hgc, hgn, hnd, hG, hi, hs, hLS, hdone⟩ (fun u v _ _ e => e) ((nI_eq (by omega) (by omega)).mp c) ⟨[], (List.append_nil G).symm⟩, fun c => ?_⟩
  have ne : rt p ≠ rt q := fun e => c (by rw [e])
  have rp := hF2.rr (by omega) hp
  have rq := hF2.rr (by omega) hq
  have hlen : G.length < n := by
    have := nodup_le (rt p :: G) (List.range n) (List.nodup_cons.mpr ⟨fun c => ((hG _).mp c).2 rp, hnd⟩) (fun x hx => by
      rcases List.mem_cons.mp hx with rfl | hx
      · exact List.mem_range.mpr la
      · exact List.mem_range.mpr ((hG x).mp hx).1)
    rw [List.length_cons, List.length_range] at this
    omega
  subst hgc
  refine ⟨fun _ x hx => ?_, fun c2 => absurd (nI_lt (b := 1080) (by omega) (by decide)) c2⟩
  rw [mx_I (by omega) (by omega)] at hx
  subst hx
  obtain ⟨lo, hi', elo, ehi, hlt, hll, hhl, rl, rh, hlohi⟩ : ∃ lo hi', (if nI (rt q) < nI (rt p) then nI (rt q) else nI (rt p)) = nI lo ∧ max (rt p) (rt q) = hi' ∧ lo < hi' ∧ lo < n ∧ hi' < n ∧ rt lo = lo ∧ rt hi' = hi' ∧ ((lo = rt p ∧ hi' = rt q) ∨ (lo = rt q ∧ hi' = rt p)) := by
    by_cases c3 : rt q < rt p
    · exact ⟨rt q, rt p, by rw [if_pos (nI_lt c3 (by omega))], Nat.max_eq_left (by omega), c3, lb, la, rq, rp, Or.inr ⟨rfl, rfl⟩⟩
    · exact ⟨rt p, rt q, by rw [if_neg (nI_nlt (by omega) (by omega))], Nat.max_eq_right (by omega), by omega, la, lb, rp, rq, Or.inl ⟨rfl, rfl⟩⟩
  rw [elo, ehi, cl_nI (by omega), cl_nI (by omega)]
  refine ⟨vp_in_nI (by omega) (by decide), vp_in_nI (by omega) (by decide), ?_⟩
  have hRlh : R (nm hi') (nm lo) := by
    have e1 := hs p (rt p) hp la rp.symm
    have e2 := hs q (rt q) hq lb rq.symm
    have e3 := hR.2.2 _ _ _ (hR.2.1 _ _ e1) (hR.2.2 _ _ _ hpq e2)
    rcases hlohi with ⟨h1, h2⟩ | ⟨h1, h2⟩
    · rw [h1, h2]; exact hR.2.1 _ _ e3
    · rw [h1, h2]; exact e3
  refine hQ (unR rt lo hi') (G ++ [hi']) _ _ _ ⟨hn, hF2.union (by omega) hll hhl rl rh (by omega) hlt (fun x q _ h => h), by rw [nI_1, List.length_append]; rfl, fun k x hk => ?_, ?_, fun x => ?_, by rw [List.length_append]; omega, fun u v hu hv e => ?_, hLS, fun k x hk hx l hl => ?_⟩ (fun u v _ _ e => by unfold unR; rw [e]) ?_ ⟨[hi'], rfl⟩
  · rcases g_new hk with ⟨hkl, hk⟩ | ⟨rfl, rfl⟩
    · rw [upd_n (by omega)]; exact hgn k x hk
    · exact upd_s
  · rw [List.nodup_append]
    refine ⟨hnd, by simp, fun a ha b hb eab => ?_⟩
    obtain rfl := List.mem_singleton.mp hb
    subst eab
    exact ((hG _).mp ha).2 rh
  · rw [List.mem_append, List.mem_singleton, hG]
    unfold unR
    constructor
    · rintro (⟨h1, h2⟩ | rfl)
      · refine ⟨h1, ?_⟩
        split
        · intro e; subst e; exact h2 rl
        · exact h2
      · refine ⟨hhl, ?_⟩
        rw [rh, if_pos rfl]; omega
    · rintro ⟨h1, h2⟩
      by_cases c4 : x = hi'
      · exact Or.inr c4
      · refine Or.inl ⟨h1, fun c5 => h2 ?_⟩
        rw [c5, if_neg c4]
  · have e' : (if rt u = hi' then lo else rt u) = (if rt v = hi' then lo else rt v) := e
    by_cases c1 : rt u = hi'
    · by_cases c2 : rt v = hi'
      · exact hs u v hu hv (by rw [c1, c2])
      · rw [if_pos c1, if_neg c2] at e'
        exact hR.2.2 _ _ _ (hs u hi' hu hhl (by rw [c1, rh])) (hR.2.2 _ _ _ hRlh (hs lo v hll hv (by rw [rl, e'])))
    · by_cases c2 : rt v = hi'
      · rw [if_neg c1, if_pos c2] at e'
        exact hR.2.2 _ _ _ (hs u lo hu hll (by rw [rl, e'])) (hR.2.2 _ _ _ (hR.2.1 _ _ hRlh) (hs hi' v hhl hv (by rw [c2, rh])))
      · rw [if_neg c1, if_neg c2] at e'
        exact hs u v hu hv e'
  · rcases g_new hx with ⟨_, hx⟩ | ⟨rfl, _⟩
    · exact hdone k x hk hx l hl
    · omega
  · unfold unR
    rcases hlohi with ⟨h1, h2⟩ | ⟨h1, h2⟩
    · rw [← h1, ← h2, if_neg (by omega), if_pos rfl]
    · rw [← h1, ← h2, if_neg (show lo ≠ hi' by omega), if_pos rfl]
theorem linkC (hR : Eqv R) (hF : FC E R) (hS : ∀ x l y, l < 6 → E x l y → E y (xr l) x) (h : CE E R n nm i rt G gc lk bc gn) {p q l : Nat} (hp : p < n) (hq : q < n) (hl : l < 6) (he : ∃ x y, E x l y ∧ R (nm p) x ∧ R (nm q) y) {Q : Int32 → AR → AR → AR → Prop} (hQ : ∀ rt' G' gc' lk' bc' gn', CE E R n nm i rt' G' gc' lk' bc' gn' → Co n rt rt' → (∃ t, G' = G ++ t) → (∀ u m, u < n → m < 6 → rt u ≠ u → lk' (u * 6 + m) = lk (u * 6 + m)) → (∀ u m v, u < n → m < 6 → v < n → lk (u * 6 + m) = nI v → lk' (u * 6 + m) = nI v) → Rep n rt' lk' p l q → Q gc' lk' bc' gn') : wp_X2_link (nI p) (nI l) (nI q) gc lk bc gn Q := by
  obtain ⟨hn, hFo, hgc, hgn, hnd, hG, hi, hs, hLS, hdone⟩ := h
  have hxl := xr_lt l hl
  obtain ⟨x0, y0, hE, hx0, hy0⟩ := he
  refine placeNow1 hn hFo hp (fun bc1 hF1 => placeNow1 hn hF1 hq (fun bc2 hF2 => ?_))
  have la := hF2.lt hp
  have lb := hF2.lt hq
  have rp := hF2.rr (by omega) hp
  have rq := hF2.rr (by omega) hq
  have Rp := hs p (rt p) hp la rp.symm
  have Rq := hs q (rt q) hq lb rq.symm
  have hCE : CE E R n nm i rt G gc lk bc2 gn := ⟨hn, hF2, hgc, hgn, hnd, hG, hi, hs, hLS, hdone⟩
  rw [ix6, xr_I l hl, ix6, cl_nI (by omega), cl_nI (by omega)]
  refine ⟨vp_in_nI (by omega) (by decide), fun x6 h6 => ⟨vp_in_nI (by omega) (by decide), fun x7 h7 => ⟨fun c1 => ⟨fun c2 => ⟨vp_in_nI (by omega) (by decide), vp_in_nI (by omega) (by decide), ?_⟩, fun c2 => ?_⟩, fun c1 => ?_⟩⟩⟩
  · have e6 : lk (rt p * 6 + l) = -1 := by
      rcases hLS (rt p) l la hl with c | ⟨z, hz, c, _⟩
      · exact c
      · rw [h6, c] at c1; exact absurd c1 (nI_pos (by omega))
    have e7 : lk (rt q * 6 + xr l) = -1 := by
      rcases hLS (rt q) (xr l) lb hxl with c | ⟨z, hz, c, _⟩
      · exact c
      · rw [h7, c] at c2; exact absurd c2 (nI_pos (by omega))
    have hxne : xr l ≠ l := by unfold xr; split <;> omega
    have hcell : rt p * 6 + l ≠ rt q * 6 + xr l := fun c => hxne (by omega)
    have keep : ∀ u m v, u < n → m < 6 → v < n → lk (u * 6 + m) = nI v → upd (upd lk (rt p * 6 + l) (nI (rt q))) (rt q * 6 + xr l) (nI (rt p)) (u * 6 + m) = nI v := by
      intro u m v hu hm hv e
      have n1 : u * 6 + m ≠ rt p * 6 + l := fun c => by rw [c, e6] at e; exact neg1 (by omega) e
      have n2 : u * 6 + m ≠ rt q * 6 + xr l := fun c => by rw [c, e7] at e; exact neg1 (by omega) e
      rw [upd_n n2, upd_n n1]; exact e
    have ep : upd (upd lk (rt p * 6 + l) (nI (rt q))) (rt q * 6 + xr l) (nI (rt p)) (rt p * 6 + l) = nI (rt q) := by rw [upd_n hcell, upd_s]
    refine hQ rt G gc _ bc2 gn ⟨hn, hF2, hgc, hgn, hnd, hG, hi, hs, fun u m hu hm => ?_, fun k x hk hx m hm => ?_⟩ (fun u v _ _ e => e) ⟨[], (List.append_nil G).symm⟩ (fun u m hu hm hne => ?_) keep ⟨rt p, rt q, la, lb, rp, rq, ep⟩
    · by_cases c3 : u * 6 + m = rt q * 6 + xr l
      · have eu : u = rt q := by omega
        have em : m = xr l := by omega
        subst eu em
        refine Or.inr ⟨rt p, la, upd_s, by rw [xr_xr]; exact ep, y0, x0, hS _ _ _ hl hE, ?_, ?_⟩
        · exact hR.2.2 _ _ _ (hR.2.1 _ _ Rq) hy0
        · exact hR.2.2 _ _ _ (hR.2.1 _ _ Rp) hx0
      · by_cases c4 : u * 6 + m = rt p * 6 + l
        · have eu : u = rt p := by omega
          have em : m = l := by omega
          subst eu em
          exact Or.inr ⟨rt q, lb, ep, upd_s, x0, y0, hE, hR.2.2 _ _ _ (hR.2.1 _ _ Rp) hx0, hR.2.2 _ _ _ (hR.2.1 _ _ Rq) hy0⟩
        · rcases hLS u m hu hm with c | ⟨z, hz, c, c5, c6⟩
          · exact Or.inl (by rw [upd_n c3, upd_n c4]; exact c)
          · exact Or.inr ⟨z, hz, keep u m z hu hm hz c, keep z (xr m) u hz (xr_lt m hm) hu c5, c6⟩
    · have hx2 := (hG x).mp (List.mem_iff_getElem?.mpr ⟨k, hx⟩)
      have n1 : x ≠ rt p := fun e => hx2.2 (by rw [e]; exact rp)
      have n2 : x ≠ rt q := fun e => hx2.2 (by rw [e]; exact rq)
      rw [upd_n (by omega), upd_n (by omega)]
      exact hdone k x hk hx m hm
    · have n1 : u ≠ rt p := fun e => hne (by rw [e]; exact rp)
      have n2 : u ≠ rt q := fun e => hne (by rw [e]; exact rq)
      rw [upd_n (by omega), upd_n (by omega)]
  · rcases hLS (rt q) (xr l) lb hxl with c | ⟨z, hz, c, c3, x1, y1, hE1, hx1, hy1⟩
    · rw [h7, c] at c2; exact absurd (by decide) c2
    · rw [h7, c]
      rw [xr_xr] at c3
      have hRz : R (nm z) (nm (rt p)) := by
        have e1 : R y0 x1 := hR.2.2 _ _ _ (hR.2.1 _ _ hy0) (hR.2.2 _ _ _ Rq hx1)
        have e2 : R x0 y1 := hF _ _ _ _ _ e1 (hS _ _ _ hl hE) hE1
        exact hR.2.2 _ _ _ hy1 (hR.2.2 _ _ _ (hR.2.1 _ _ e2) (hR.2.2 _ _ _ (hR.2.1 _ _ hx0) Rp))
      refine mergeC hR hCE hz la hRz (fun rt' G' gc' bc' gn' hCE' hCo e hG' => hQ rt' G' gc' lk bc' gn' hCE' hCo hG' (fun _ _ _ _ _ => rfl) (fun _ _ _ _ _ _ e => e) ⟨z, rt q, hz, lb, ?_, ?_, c3⟩)
      · rw [e]; exact hCo _ _ la hp rp
      · exact hCo _ _ lb hq rq
  · rcases hLS (rt p) l la hl with c | ⟨z, hz, c, c3, x1, y1, hE1, hx1, hy1⟩
    · rw [h6, c] at c1; exact absurd (by decide) c1
    · rw [h6, c]
      have hRz : R (nm z) (nm (rt q)) := by
        have e1 : R x0 x1 := hR.2.2 _ _ _ (hR.2.1 _ _ hx0) (hR.2.2 _ _ _ Rp hx1)
        have e2 : R y0 y1 := hF _ _ _ _ _ e1 hE hE1
        exact hR.2.2 _ _ _ hy1 (hR.2.2 _ _ _ (hR.2.1 _ _ e2) (hR.2.2 _ _ _ (hR.2.1 _ _ hy0) Rq))
      refine mergeC hR hCE hz lb hRz (fun rt' G' gc' bc' gn' hCE' hCo e hG' => hQ rt' G' gc' lk bc' gn' hCE' hCo hG' (fun _ _ _ _ _ => rfl) (fun _ _ _ _ _ _ e => e) ⟨rt p, z, la, hz, ?_, ?_, c⟩)
      · exact hCo _ _ la hp rp
      · rw [e]; exact hCo _ _ lb hq rq
end NETC
