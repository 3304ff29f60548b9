/-! PURE 23: the class hands over, folds, makes places -/
theorem cl5r {A2 A3 A4 A5 : Type} {body : (Int32 → A2 → A3 → A4 → A5 → Prop) → Int32 → A2 → A3 → A4 → A5 → Prop} (N : Nat) (I : Nat → A2 → A3 → A4 → A5 → Prop) (hs : ∀ k, k < N → ∀ a b c d, I k a b c d → ∀ rc : Int32 → A2 → A3 → A4 → A5 → Prop, (∀ a b c d, I (k + 1) a b c d → rc (nI k + 1) a b c d) → body rc (nI k) a b c d) (he : ∀ a b c d, I N a b c d → ∀ rc, body rc (nI N) a b c d) {a : A2} {b : A3} {c : A4} {d : A5} (h : I 0 a b c d) : ∃ n, lpW5 body n (nI 0) a b c d := by
  have key : ∀ j k, k + j = N → ∀ a b c d, I k a b c d → lpW5 body (j + 1) (nI k) a b c d := by
    intro j
    induction j with
    | zero => intro k hk a b c d h; obtain rfl : k = N := by omega
              exact he a b c d h _
    | succ j ih => intro k hk a b c d h; exact hs k (by omega) a b c d h _ (fun a b c d h => by rw [nI_1]; exact ih (k + 1) (by omega) a b c d h)
  exact ⟨N + 1, key N 0 (by omega) _ _ _ _ h⟩
theorem Co.trans {n : Nat} {r1 r2 r3 : Nat → Nat} (h : Co n r1 r2) (h' : Co n r2 r3) : Co n r1 r3 := fun u v hu hv e => h' u v hu hv (h u v hu hv e)
/-- all that was held by links is held -/
def Kp (n : Nat) (rt : Nat → Nat) (lk : AR) (rt' : Nat → Nat) (lk' : AR) : Prop := ∀ a m b, a < n → b < n → m < 6 → Rep n rt lk a m b → Rep n rt' lk' a m b
theorem Kp.refl (n : Nat) (rt : Nat → Nat) (lk : AR) : Kp n rt lk rt lk := fun _ _ _ _ _ _ h => h
theorem Kp.trans {n : Nat} {r1 r2 r3 : Nat → Nat} {l1 l2 l3 : AR} (h : Kp n r1 l1 r2 l2) (h' : Kp n r2 l2 r3 l3) : Kp n r1 l1 r3 l3 := fun a m b ha hb hm hr => h' a m b ha hb hm (h a m b ha hb hm hr)
section NETF
variable {E : Nm → Nat → Nm → Prop} {R : Nm → Nm → Prop} {n : Nat} {nm : Nat → Nm} {i : Nat} {rt : Nat → Nat} {G : List Nat} {gc : Int32} {lk bc gn : AR}
theorem handOver1 (hR : Eqv R) (hF : FC E R) (hS : ∀ x l y, l < 6 → E x l y → E y (xr l) x) (h : CE E R n nm i rt G gc lk bc gn) {p : Nat} (hp : G[i]? = some p) {Q : Int32 → AR → AR → AR → Prop} (hQ : ∀ rt' G' gc' lk' bc' gn', CE E R n nm (i + 1) rt' G' gc' lk' bc' gn' → Co n rt rt' → Kp n rt lk rt' lk' → Q gc' lk' bc' gn') : wp_X2_handOver (nI p) gc lk bc gn Q := by
  have hpn : p < n := (h.2.2.2.2.2.1 p |>.mp (List.mem_iff_getElem?.mpr ⟨i, hp⟩)).1
  have hn := h.1
  refine cl5r (body := wb_X2_handOver_2 (nI p) Q) 6 (fun k gc' lk' bc' gn' => ∃ rt' G', CE E R n nm i rt' G' gc' lk' bc' gn' ∧ Co n rt rt' ∧ (∃ t, G' = G ++ t) ∧ (∀ l, l < k → lk' (p * 6 + l) = -1) ∧ Kp n rt lk rt' lk') ?_ ?_ ⟨rt, G, h, fun u v _ _ e => e, ⟨[], (List.append_nil G).symm⟩, fun l hl => by omega, Kp.refl n rt lk⟩
  · rintro k hk gc1 lk1 bc1 gn1 ⟨rt1, G1, hCE, hCo, ⟨t, ht⟩, hz, hK⟩ rc hrc
    have hxk := xr_lt k hk
    have hLS := hCE.2.2.2.2.2.2.2.2.1
    have hp1 : G1[i]? = some p := by rw [ht]; exact g_app hp
    have hpr := (hCE.2.2.2.2.2.1 p |>.mp (List.mem_iff_getElem?.mpr ⟨i, hp1⟩)).2
    refine br_ge (N := 6) hk (by decide) ?_
    rw [ix6, cl_nI (by omega)]
    refine ⟨vp_in_nI (by omega) (by decide), fun x hx => ?_⟩
    rcases hLS p k hpn hk with c | ⟨q, hq, c, c2, c3⟩
    · rw [c] at hx
      subst hx
      refine ⟨fun _ z hz' => ?_, fun c4 => absurd (by decide) c4⟩
      subst hz'
      refine hrc _ _ _ _ ⟨rt1, G1, hCE, hCo, ⟨t, ht⟩, fun l hl => ?_, hK⟩
      by_cases e : l = k
      · rw [e]; exact c
      · exact hz l (by omega)
    · rw [c] at hx
      subst hx
      refine ⟨fun c4 => absurd c4 (nI_pos (by omega)), fun _ => ?_⟩
      rw [xr_I k hk, ix6, cl_nI (by omega)]
      refine ⟨vp_in_nI (by omega) (by decide), vp_in_nI (by omega) (by decide), ?_⟩
      have hxne : xr k ≠ k := by unfold xr; split <;> omega
      have off : ∀ u m, m < 6 → ¬ (u = p ∧ m = k) → ¬ (u = q ∧ m = xr k) → upd (upd lk1 (p * 6 + k) (-1)) (q * 6 + xr k) (-1) (u * 6 + m) = lk1 (u * 6 + m) := by
        intro u m hm c4 c5
        rw [upd_n (by omega), upd_n (by omega)]
      have on1 : upd (upd lk1 (p * 6 + k) (-1)) (q * 6 + xr k) (-1) (p * 6 + k) = -1 := by
        by_cases e : p * 6 + k = q * 6 + xr k
        · rw [e]; exact upd_s
        · rw [upd_n e]; exact upd_s
      have on2 : upd (upd lk1 (p * 6 + k) (-1)) (q * 6 + xr k) (-1) (q * 6 + xr k) = -1 := upd_s
      have hCE2 : CE E R n nm i rt1 G1 gc1 (upd (upd lk1 (p * 6 + k) (-1)) (q * 6 + xr k) (-1)) bc1 gn1 := by
        obtain ⟨a1, a2, a3, a4, a5, a6, a7, a8, a9, a10⟩ := hCE
        refine ⟨a1, a2, a3, a4, a5, a6, a7, a8, fun u m hu hm => ?_, fun j x hj hx m hm => ?_⟩
        · by_cases c4 : u = p ∧ m = k
          · rw [c4.1, c4.2]; exact Or.inl on1
          · by_cases c5 : u = q ∧ m = xr k
            · rw [c5.1, c5.2]; exact Or.inl on2
            · rcases a9 u m hu hm with c6 | ⟨v, hv, c6, c7, c8⟩
              · exact Or.inl (by rw [off u m hm c4 c5]; exact c6)
              · refine Or.inr ⟨v, hv, by rw [off u m hm c4 c5]; exact c6, ?_, c8⟩
                rw [off v (xr m) (xr_lt m hm)]
                · exact c7
                · rintro ⟨e1, e2⟩
                  subst e1
                  rw [e2, c] at c7
                  have e3 : q = u := (nI_eq (by omega) (by omega)).mp c7
                  exact c5 ⟨e3.symm, by rw [← e2, xr_xr]⟩
                · rintro ⟨e1, e2⟩
                  subst e1
                  rw [e2, c2] at c7
                  have e3 : p = u := (nI_eq (by omega) (by omega)).mp c7
                  exact c4 ⟨e3.symm, by rw [← xr_xr m, e2, xr_xr]⟩
        · have hx2 := (a6 x).mp (List.mem_iff_getElem?.mpr ⟨j, hx⟩)
          have h0 := a10 j x hj hx m hm
          by_cases c4 : x = p ∧ m = k
          · rw [c4.1, c4.2]; exact on1
          · by_cases c5 : x = q ∧ m = xr k
            · rw [c5.1, c5.2]; exact on2
            · rw [off x m hm c4 c5]; exact h0
      refine linkC hR hF hS hCE2 hpn hq hk c3 (fun rt2 G2 gc2 lk2 bc2 gn2 hCE3 hCo2 hG2 hns hkeep hrep z hz' => ?_)
      subst hz'
      obtain ⟨t2, ht2⟩ := hG2
      refine hrc _ _ _ _ ⟨rt2, G2, hCE3, hCo.trans hCo2, ⟨t ++ t2, by rw [ht2, ht, List.append_assoc]⟩, fun l hl => ?_, hK.trans (fun a m b ha hb hm hr => ?_)⟩
      · rw [hns p l hpn (by omega) hpr]
        by_cases e : l = k
        · rw [e]; exact on1
        · by_cases c5 : p = q ∧ l = xr k
          · rw [c5.2]
            conv => lhs; rw [show p * 6 + xr k = q * 6 + xr k by rw [c5.1]]
            exact on2
          · rw [off p l (by omega) (fun c => e c.2) c5]
            exact hz l (by omega)
      · obtain ⟨u, v, hu, hv, e1, e2, e3⟩ := hr
        have f1 := hCo2 u a hu ha e1
        have f2 := hCo2 v b hv hb e2
        by_cases c4 : u = p ∧ m = k
        · obtain ⟨d1, d2⟩ := c4
          subst d1 d2
          rw [c] at e3
          have e4 : q = v := (nI_eq (by omega) (by omega)).mp e3
          subst e4
          obtain ⟨u', v', hu', hv', g1, g2, g3⟩ := hrep
          exact ⟨u', v', hu', hv', by rw [g1, f1], by rw [g2, f2], g3⟩
        · by_cases c5 : u = q ∧ m = xr k
          · obtain ⟨d1, d2⟩ := c5
            subst d1 d2
            rw [c2] at e3
            have e4 : p = v := (nI_eq (by omega) (by omega)).mp e3
            subst e4
            obtain ⟨u', v', hu', hv', g1, g2, g3⟩ := Rep.symm hCE3.2.2.2.2.2.2.2.2.1 hn hk hrep
            exact ⟨u', v', hu', hv', by rw [g1, f1], by rw [g2, f2], g3⟩
          · exact ⟨u, v, hu, hv, f1, f2, hkeep u m v hu hm hv (by rw [off u m hm c4 c5]; exact e3)⟩
  · rintro gc1 lk1 bc1 gn1 ⟨rt1, G1, hCE, hCo, ⟨t, ht⟩, hz, hK⟩ rc
    refine br_end (N := 6) (Nat.le_refl _) (by decide) (hQ rt1 G1 _ _ _ _ ?_ hCo hK)
    obtain ⟨a1, a2, a3, a4, a5, a6, a7, a8, a9, a10⟩ := hCE
    have hp1 : G1[i]? = some p := by rw [ht]; exact g_app hp
    refine ⟨a1, a2, a3, a4, a5, a6, g_lt hp1, a8, a9, fun j x hj hx m hm => ?_⟩
    by_cases e : j = i
    · subst e
      rw [hp1] at hx
      cases hx
      exact hz m hm
    · exact a10 j x (by omega) hx m hm
theorem CE.glen (h : CE E R n nm i rt G gc lk bc gn) : G.length ≤ n := by
  obtain ⟨a1, a2, a3, a4, a5, a6, a7, a8, a9, a10⟩ := h
  have := nodup_le G (List.range n) a5 (fun x hx => List.mem_range.mpr ((a6 x).mp hx).1)
  rw [List.length_range] at this
  exact this
theorem fold1 (hR : Eqv R) (hF : FC E R) (hS : ∀ x l y, l < 6 → E x l y → E y (xr l) x) (h : CE E R n nm 0 rt G gc lk bc gn) {Q : Int32 → AR → AR → AR → Prop} (hQ : ∀ rt' G' gc' lk' bc' gn', CE E R n nm G'.length rt' G' gc' lk' bc' gn' → Co n rt rt' → Kp n rt lk rt' lk' → Q 0 lk' bc' gn') : wp_X2_fold gc lk bc gn Q := by
  have key : ∀ j i rt1 G1 gc1 lk1 bc1 gn1, 1080 - i ≤ j → CE E R n nm i rt1 G1 gc1 lk1 bc1 gn1 → Co n rt rt1 → Kp n rt lk rt1 lk1 → lpW5 (wb_X2_fold_2 Q) (j + 1) (nI i) gc1 lk1 bc1 gn1 := by
    intro j
    induction j with
    | zero =>
      intro i rt1 G1 gc1 lk1 bc1 gn1 hj hCE hCo hK
      have hgl := hCE.glen
      have hn := hCE.1
      have hil := hCE.2.2.2.2.2.2.1
      have hgc := hCE.2.2.1
      subst hgc
      have e : i = G1.length := by omega
      subst e
      exact br_end (Nat.le_refl _) (by omega) (hQ rt1 G1 _ _ _ _ hCE hCo hK)
    | succ j ih =>
      intro i rt1 G1 gc1 lk1 bc1 gn1 hj hCE hCo hK
      have hgl := hCE.glen
      have hn := hCE.1
      have hil := hCE.2.2.2.2.2.2.1
      have hgc := hCE.2.2.1
      have hgn := hCE.2.2.2.1
      subst hgc
      by_cases e : i = G1.length
      · subst e
        exact br_end (Nat.le_refl _) (by omega) (hQ rt1 G1 _ _ _ _ hCE hCo hK)
      · obtain ⟨p, hp⟩ := g_ex (G := G1) (k := i) (by omega)
        refine br_ge (N := G1.length) (by omega) (by omega) (br_ge (N := 1080) (by omega) (by decide) ⟨vp_in_nI (by omega) (by decide), ?_⟩)
        rw [cl_nI (by omega), hgn i p hp]
        refine handOver1 hR hF hS hCE hp (fun rt2 G2 gc2 lk2 bc2 gn2 h1 h2 h3 x hx => ?_)
        subst hx
        rw [nI_1]
        exact ih (i + 1) rt2 G2 gc2 lk2 bc2 gn2 (by omega) h1 (hCo.trans h2) (hK.trans h3)
  exact ⟨1081, key 1080 0 rt G gc lk bc gn (by omega) h (fun u v _ _ e => e) (Kp.refl n rt lk)⟩
def nmN (nm : Nat → Nm) (n : Nat) (x : Nm) : Nat → Nm := fun j => if j = n then x else nm j
theorem newC (hR : Eqv R) (h : CE E R n nm i rt G gc lk bc gn) (hn1 : n < 1080) (x : Nm) {Q : Int32 → Int32 → AR → AR → Prop} (hQ : ∀ lk' bc', CE E R (n + 1) (nmN nm n x) i (nwR rt n) G gc lk' bc' gn → (∀ a m b, a < n → b < n → m < 6 → Rep n rt lk a m b → Rep (n + 1) (nwR rt n) lk' a m b) → Q (nI n) (nI (n + 1)) lk' bc') : wp_X2_newPlace (nI n) lk bc Q := by
  obtain ⟨a1, a2, a3, a4, a5, a6, a7, a8, a9, a10⟩ := h
  refine ⟨fun _ => ⟨vp_in_nI hn1 (by decide), ?_⟩, fun c => absurd (nI_lt hn1 (by decide)) c⟩
  rw [cl_nI (by omega), nI_1]
  refine cl2r (body := wb_X2_newPlace_36 (nI n) (nI (n + 1)) (upd bc n (nI n)) Q) 6 (fun k lk' => (∀ l, l < k → lk' (n * 6 + l) = -1) ∧ ∀ c, c < n * 6 → lk' c = lk c) ?_ ?_ ⟨fun l hl => by omega, fun _ _ => rfl⟩
  · rintro k hk lk' ⟨h1, h2⟩ rc hrc
    refine br_ge (N := 6) hk (by decide) ?_
    rw [ix6, cl_nI (by omega)]
    refine ⟨vp_in_nI (by omega) (by decide), fun y hy => ?_⟩
    subst hy
    refine hrc _ ⟨fun l hl => ?_, fun c hc => by rw [upd_n (by omega)]; exact h2 c hc⟩
    by_cases e : l = k
    · subst e; exact upd_s
    · rw [upd_n (by omega)]; exact h1 l (by omega)
  · rintro lk' ⟨h1, h2⟩ rc
    have rn : nwR rt n n = n := if_pos rfl
    have ro : ∀ p, p < n → nwR rt n p = rt p := fun p hp => if_neg (by omega)
    have no : ∀ p, p < n → nmN nm n x p = nm p := fun p hp => if_neg (by omega)
    have lo : ∀ p l, p < n → l < 6 → lk' (p * 6 + l) = lk (p * 6 + l) := fun p l hp hl => h2 _ (by omega)
    refine br_end (N := 6) (Nat.le_refl _) (by decide) (hQ lk' _ ⟨by omega, a2.new, a3, a4, a5, fun p => ?_, a7, fun p q hp hq e => ?_, fun p l hp hl => ?_, fun k p hk hp l hl => ?_⟩ (fun a m b ha hb hm hr => ?_))
    · rw [a6]
      by_cases c : p = n
      · subst c
        rw [rn]
        exact ⟨fun c => by omega, fun c => absurd rfl c.2⟩
      · constructor
        · rintro ⟨c1, c2⟩
          exact ⟨by omega, by rw [ro p c1]; exact c2⟩
        · rintro ⟨c1, c2⟩
          rw [ro p (by omega)] at c2
          exact ⟨by omega, c2⟩
    · by_cases c : p = n
      · by_cases c2 : q = n
        · rw [c, c2]; exact hR.1 _
        · rw [c, rn, ro q (by omega)] at e
          have := a2.lt (p := q) (by omega)
          omega
      · by_cases c2 : q = n
        · rw [c2, rn, ro p (by omega)] at e
          have := a2.lt (p := p) (by omega)
          omega
        · rw [ro p (by omega), ro q (by omega)] at e
          rw [no p (by omega), no q (by omega)]
          exact a8 p q (by omega) (by omega) e
    · by_cases c : p = n
      · subst c; exact Or.inl (h1 l hl)
      · rcases a9 p l (by omega) hl with c2 | ⟨q, hq, c2, c3, c4⟩
        · exact Or.inl (by rw [lo p l (by omega) hl]; exact c2)
        · exact Or.inr ⟨q, by omega, by rw [lo p l (by omega) hl]; exact c2, by rw [lo q (xr l) hq (xr_lt l hl)]; exact c3, by rw [no p (by omega), no q hq]; exact c4⟩
    · have := (a6 p).mp (List.mem_iff_getElem?.mpr ⟨k, hp⟩)
      rw [lo p l this.1 hl]
      exact a10 k p hk hp l hl
    · obtain ⟨u, v, hu, hv, e1, e2, e3⟩ := hr
      exact ⟨u, v, by omega, by omega, by rw [ro u hu, ro a ha]; exact e1, by rw [ro v hv, ro b hb]; exact e2, by rw [lo u m hu hm]; exact e3⟩
end NETF
