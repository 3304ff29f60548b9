/-! PURE 27: the reference tidies -/
def jt (a l b : Nat) : Nat × Nat × Nat := if l % 2 = 0 then (a, l / 2, b) else (b, l / 2, a)
abbrev Jn : Type := Nat × Nat × Nat
theorem j_new {J : List Jn} {a e : Jn} {k : Nat} (h : (J ++ [a])[k]? = some e) : (k < J.length ∧ J[k]? = some e) ∨ (k = J.length ∧ e = a) := by
  by_cases c : k < J.length
  · rw [List.getElem?_append_left c] at h
    exact Or.inl ⟨c, h⟩
  · rw [List.getElem?_append_right (by omega)] at h
    by_cases c2 : k = J.length
    · subst c2
      rw [Nat.sub_self] at h
      exact Or.inr ⟨rfl, by cases h; rfl⟩
    · obtain ⟨j, hj⟩ : ∃ j, k - J.length = j + 1 := ⟨k - J.length - 1, by omega⟩
      rw [hj] at h
      cases h
theorem addJ8 {n : Nat} {J : List Jn} {jn : Int32} {fr by' tw' : AR} (hJ : RJ n J jn fr by' tw') {a l b : Nat} (ha : a < n) (hb : b < n) (hl : l < 6) (hlen : J.length < 1400) {Q : Int32 → AR → AR → AR → Prop} (hQ : ∀ jn fr by' tw', RJ n (J ++ [jt a l b]) jn fr by' tw' → Q jn fr by' tw') : wp_X8_addJoint (nI a) (nI l) (nI b) jn fr by' tw' Q := by
  obtain ⟨h1, h2, h3⟩ := hJ
  subst h1
  have go : ∀ x y : Nat, x < n → y < n → RJ n (J ++ [(x, l / 2, y)]) (nI (J.length + 1)) (upd fr J.length (nI x)) (upd by' J.length (nI (l / 2))) (upd tw' J.length (nI y)) := by
    intro x y hx hy
    refine ⟨by rw [List.length_append]; rfl, by rw [List.length_append]; show _ + 1 ≤ _; omega, fun k e he => ?_⟩
    rcases j_new he with ⟨hk, he⟩ | ⟨rfl, rfl⟩
    · rw [upd_n (by omega), upd_n (by omega), upd_n (by omega)]
      exact h3 k e he
    · rw [upd_s, upd_s, upd_s]
      exact ⟨rfl, rfl, rfl, hx, hy, show l / 2 < 3 by omega⟩
  unfold wp_X8_addJoint wp_X8_addJoint_19 wp_X8_addJoint_51
  rw [rm2 l hl, dv2 l hl, cl_nI (by omega), nI_1]
  have v : vp_in (nI J.length) 1400 := vp_in_nI hlen (by decide)
  by_cases c : l % 2 = 0
  · have g := go a b ha hb
    have := hQ (nI (J.length + 1)) _ _ _ (by rw [jt, if_pos c]; exact g)
    rw [c]
    exact ⟨fun c2 => absurd rfl c2, fun _ => ⟨v, v, fun c2 => absurd rfl c2, fun _ => ⟨v, this⟩⟩⟩
  · have g := go b a hb ha
    have := hQ (nI (J.length + 1)) _ _ _ (by rw [jt, if_neg c]; exact g)
    have c1 : l % 2 = 1 := by omega
    rw [c1]
    exact ⟨fun _ => ⟨v, v, fun _ => ⟨v, this⟩, fun c2 => absurd c2 (by decide)⟩, fun c2 => absurd c2 (by decide)⟩
/-- the joints that are left -/
def celJ (rt : Nat → Nat) (nx : AR) (p j : Nat) : List Jn := if nx (6 * p + 2 * j) = -6 then [] else [(sN rt p, j, sN rt (nx (6 * p + 2 * j)).toNatClampNeg)]
def tjP (rt : Nat → Nat) (nx : AR) (p : Nat) : Nat → List Jn
  | 0 => []
  | j + 1 => tjP rt nx p j ++ celJ rt nx p j
def tJ (rt : Nat → Nat) (nx : AR) : Nat → List Jn
  | 0 => []
  | k + 1 => tJ rt nx k ++ if rt k = k then tjP rt nx k 3 else []
theorem tjP_len (rt : Nat → Nat) (nx : AR) (p : Nat) : ∀ {j m : Nat}, j ≤ m → (tjP rt nx p j).length ≤ (tjP rt nx p m).length
  | j, 0, h => by obtain rfl : j = 0 := by omega
                  exact Nat.le_refl _
  | j, m + 1, h => by
    by_cases e : j = m + 1
    · rw [e]; exact Nat.le_refl _
    · have := tjP_len rt nx p (j := j) (m := m) (by omega)
      rw [tjP, List.length_append]
      omega
theorem tJ_len (rt : Nat → Nat) (nx : AR) : ∀ {j m : Nat}, j ≤ m → (tJ rt nx j).length ≤ (tJ rt nx m).length
  | j, 0, h => by obtain rfl : j = 0 := by omega
                  exact Nat.le_refl _
  | j, m + 1, h => by
    by_cases e : j = m + 1
    · rw [e]; exact Nat.le_refl _
    · have := tJ_len rt nx (j := j) (m := m) (by omega)
      rw [tJ, List.length_append]
      omega
theorem tidy8 {E : Nm → Nat → Nm → Prop} {R : Nm → Nm → Prop} {n : Nat} {nm : Nat → Nm} {rt0 : Nat → Nat} {J : List Jn} {rt : Nat → Nat} {one nx : AR} (hn : n ≤ 1400) (hC : Clo E R n nm rt0 J rt one nx) {b e : Nat} (hb : b < n) (he : e < n) (hlen : (tJ rt nx n).length ≤ 1400) {jn : Int32} {fr by' tw' nu : AR} {Q : Int32 → Int32 → Int32 → Int32 → AR → AR → AR → AR → AR → Prop} (hQ : ∀ jn fr by' tw' one nu, RJ (sN rt n) (tJ rt nx n) jn fr by' tw' → (∀ k, k < sN rt n → one k = nI k) → Q jn (nI (sN rt n)) (nI (sN rt (rt b))) (nI (sN rt (rt e))) fr by' tw' one nu) : wp_X8_tidy jn (nI n) (nI b) (nI e) fr by' tw' one nu nx Q := by
  obtain ⟨⟨d, c1⟩, c2, c3, c4, c5, c6⟩ := hC
  have hsn := sN_le rt n
  refine cl3n (body := wb_X8_tidy_4 nx jn (nI n) (nI b) (nI e) fr by' tw' one Q) n (fun k a nu => a = nI (sN rt k) ∧ ∀ p, p < k → rt p = p → nu p = nI (sN rt p)) ?_ ?_ ⟨rfl, fun p hp => by omega⟩
  · rintro k hk a nu ⟨rfl, hnu⟩ rc hrc
    refine br_ge hk (by omega) ⟨vp_in_nI (by omega) (by decide), vp_in_nI (by omega) (by decide), ?_⟩
    rw [cl_nI (by omega)]
    refine ⟨fun c x hx => ?_, fun c => ⟨vp_in_nI (by omega) (by decide), fun x hx z hz => ?_⟩⟩
    · subst hx
      have c' : rt k ≠ k := fun c2 => c ((c1.root hn hk).mpr c2)
      refine hrc _ _ ⟨by rw [sN_n c'], fun p hp hr => ?_⟩
      by_cases e : p = k
      · subst e; exact absurd hr c'
      · rw [upd_n e]; exact hnu p (by omega) hr
    · subst hx hz
      have c' : rt k = k := (c1.root hn hk).mp c
      refine hrc _ _ ⟨by rw [sN_s c', nI_1], fun p hp hr => ?_⟩
      by_cases e : p = k
      · subst e; exact upd_s
      · rw [upd_n e, upd_n e]; exact hnu p (by omega) hr
  · rintro a nu ⟨rfl, hnu⟩ rc
    have lb := c1.lt hb
    have le := c1.lt he
    have rb := c1.rr hn hb
    have re := c1.rr hn he
    refine br_end (Nat.le_refl n) (by omega) (oneOf8 hn c1 hb (fun o1 f1 => ⟨vp_in_nI (by omega) (by decide), oneOf8 hn f1 he (fun o2 f2 => ⟨vp_in_nI (by omega) (by decide), ?_⟩)⟩))
    rw [cl_nI (by omega), cl_nI (by omega), hnu _ lb rb, hnu _ le re]
    have h0 : RJ (sN rt n) (tJ rt nx 0) 0 fr by' tw' := ⟨rfl, by show 0 ≤ 1400; omega, fun k e h => by cases h⟩
    refine cl6r (body := wb_X8_tidy_87 nx (nI (sN rt n)) (nI n) (nI (sN rt (rt b))) (nI (sN rt (rt e))) nu Q) n (fun k jn fr by' tw' one => RJ (sN rt n) (tJ rt nx k) jn fr by' tw' ∧ FR one n rt d) ?_ ?_ ⟨h0, f2⟩
    · rintro p hp jn1 fr1 by1 tw1 one1 ⟨hRJ, hFR⟩ rc hrc
      refine br_ge hp (by omega) ?_
      have hlp := tJ_len rt nx (j := p + 1) (m := n) (by omega)
      by_cases cr : rt p = p
      · have etJ : tJ rt nx (p + 1) = tJ rt nx p ++ tjP rt nx p 3 := by rw [tJ, if_pos cr]
        rw [etJ, List.length_append] at hlp
        have key : ∀ j' j jn2 fr2 by2 tw2 one2, j + j' = 3 → RJ (sN rt n) (tJ rt nx p ++ tjP rt nx p j) jn2 fr2 by2 tw2 → FR one2 n rt d → lpW6 (wb_X8_tidy_97 nx (nI (sN rt n)) (nI p) (nI n) (nI (sN rt (rt b))) (nI (sN rt (rt e))) nu rc Q) (j' + 1) (nI (2 * j)) jn2 fr2 by2 tw2 one2 := by
          intro j'
          induction j' with
          | zero =>
            intro j jn2 fr2 by2 tw2 one2 hj hRJ2 hFR2
            obtain rfl : j = 3 := by omega
            refine br_end (N := 6) (Nat.le_refl _) (by decide) (fun x hx => ?_)
            subst hx
            exact hrc _ _ _ _ _ ⟨by rw [etJ]; exact hRJ2, hFR2⟩
          | succ j' ih =>
            intro j jn2 fr2 by2 tw2 one2 hj hRJ2 hFR2
            refine br_ge (N := 6) (show 2 * j < 6 by omega) (by decide) ⟨vp_in_nI (by omega) (by decide), ?_⟩
            have hlj := tjP_len rt nx p (j := j + 1) (m := 3) (by omega)
            have e2 : nI (2 * j) + 2 = nI (2 * (j + 1)) := nI_add (2 * j) 2
            rw [cl_nI (by omega)]
            refine ⟨fun c => absurd ((hFR2.root hn hp).mpr cr) c, fun _ => ?_⟩
            rw [six, cl_nI (by omega)]
            refine ⟨vp_in_nI (by omega) (by decide), ?_⟩
            rcases c3 p (2 * j) hp (by omega) with c | ⟨h, hh, c, _⟩
            · rw [c]
              refine ⟨fun _ x hx => ?_, fun c7 => absurd (by decide) c7⟩
              subst hx
              rw [e2]
              refine ih (j + 1) _ _ _ _ _ (by omega) ?_ hFR2
              rw [tjP, celJ, if_pos c, List.append_nil]; exact hRJ2
            · have hr := c6 p (2 * j) h hp (by omega) hh c
              rw [c]
              refine ⟨fun c7 => absurd c7 (nI_pos (by omega)), fun _ => ⟨vp_in_nI (by omega) (by decide), vp_in_nI (by omega) (by decide), ?_⟩⟩
              refine oneOf8 hn hFR2 hh (fun o3 f3 => ?_)
              rw [hr.2, cl_nI (by omega), hnu p hp cr, hnu h hh hr.2]
              have ec : celJ rt nx p j = [(sN rt p, j, sN rt h)] := by
                rw [celJ, if_neg (fun c8 => neg6 (q := h) (by omega) (by rw [← c8, c])), c, cl_nI (by omega)]
              have etj : tjP rt nx p (j + 1) = tjP rt nx p j ++ [(sN rt p, j, sN rt h)] := by rw [tjP, ec]
              have ejt : jt (sN rt p) (2 * j) (sN rt h) = (sN rt p, j, sN rt h) := by
                rw [jt, if_pos (by omega), show 2 * j / 2 = j by omega]
              rw [etj, List.length_append] at hlj
              have hlj' : (tjP rt nx p j).length + 1 ≤ (tjP rt nx p 3).length := hlj
              refine ⟨vp_in_nI (by omega) (by decide), addJ8 hRJ2 (sN_lt cr hp) (sN_lt hr.2 hh) (by omega) (by rw [List.length_append]; omega) (fun jn3 fr3 by3 tw3 hRJ3 x hx => ?_)⟩
              subst hx
              rw [e2]
              refine ih (j + 1) _ _ _ _ _ (by omega) ?_ f3
              rw [etj, ← List.append_assoc, ← ejt]; exact hRJ3
        exact ⟨4, key 3 0 _ _ _ _ _ (by omega) (by rw [tjP, List.append_nil]; exact hRJ) hFR⟩
      · refine ⟨1, br_ge (N := 6) (k := 0) (by omega) (by decide) ⟨vp_in_nI (by omega) (by decide), ?_⟩⟩
        rw [cl_nI (by omega)]
        refine ⟨fun _ x hx => ?_, fun c => absurd ((hFR.root hn hp).mp c) cr⟩
        subst hx
        refine hrc _ _ _ _ _ ⟨?_, hFR⟩
        rw [tJ, if_neg cr, List.append_nil]; exact hRJ
    · rintro jn1 fr1 by1 tw1 one1 ⟨hRJ, hFR⟩ rc
      refine br_end (Nat.le_refl n) (by omega) ?_
      refine cl2r (body := wb_X8_tidy_177 nx (nI (sN rt n)) jn1 (nI (sN rt n)) (nI (sN rt (rt b))) (nI (sN rt (rt e))) fr1 by1 tw1 nu Q) (sN rt n) (fun k one => ∀ j, j < k → one j = nI j) ?_ ?_ (fun j hj => by omega)
      · intro k hk one2 hI rc hrc
        refine br_ge hk (by omega) ⟨vp_in_nI (by omega) (by decide), fun x hx => ?_⟩
        subst hx
        rw [cl_nI (by omega)]
        refine hrc _ (fun j hj => ?_)
        by_cases e : j = k
        · subst e; exact upd_s
        · rw [upd_n e]; exact hI j (by omega)
      · intro one2 hI rc
        exact br_end (Nat.le_refl _) (by omega) (hQ _ _ _ _ _ _ hRJ hI)
