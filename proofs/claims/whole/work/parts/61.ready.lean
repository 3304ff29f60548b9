/-! PURE 42: both make the net ready -/
theorem QP.lt {V : Nm → Prop} {E : Nm → Nat → Nm → Prop} {M : Nm → Nm → Prop} {b0 e0 : Nm} {s : Nat} {lk : LkF} {b e : Nat} (h : QP V E M b0 e0 s lk b e) : b < s ∧ e < s := by
  obtain ⟨c, h1, h2, h3, h4, v1, v2, h5, h6⟩ := h
  exact ⟨by rw [← h5]; exact h1 _ v1, by rw [← h6]; exact h1 _ v2⟩
theorem brl {n N : Nat} {A B : Prop} (hn : n < 2 ^ 31) (hN : N < 2 ^ 31) (ha : n ≤ N → A) (hb : N < n → B) : (nI n ≤ nI N → A) ∧ (¬ nI n ≤ nI N → B) :=
  ⟨fun c => ha (Nat.le_of_not_lt fun c2 => nI_ge c2 hn c), fun c => hb (Nat.lt_of_not_le fun c2 => c (nI_le c2 hN))⟩
section READY
variable {tb : Nat → Bool} {rN : Nat → Nat} {rW : Nat → Nat → Nat}
/-- what the class's rounds come to; j of them are left -/
def Run (tb : Nat → Bool) (rN : Nat → Nat) (rW : Nat → Nat → Nat) : Nat → Nat → Nat → Nat → AR → Bool → Nat → Nat → Nat → AR → Nat → Prop
  | 0, s, b, e, lk, r, s', b', e', lk', k' => r = !anS tb rN rW (cA lk) (2 * s) ∧ s' = s ∧ b' = b ∧ e' = e ∧ lk' = lk ∧ k' = 20
  | j + 1, s, b, e, lk, r, s', b', e', lk', k' => (anS tb rN rW (cA lk) (2 * s) = false ∧ r = true ∧ s' = s ∧ b' = b ∧ e' = e ∧ lk' = lk ∧ k' = 19 - j) ∨ (anS tb rN rW (cA lk) (2 * s) = true ∧ ∃ s2 b2 e2 lk2 bc2, CN s2 lk2 bc2 ∧ QP (qV s rN (fS tb rN rW (cA lk) s)) (qE s rN rW (cA lk) (fS tb rN rW (cA lk) s)) (qM rN (fS tb rN rW (cA lk) s)) (b, 4, 0) (e, 4, 0) s2 (lkA s2 lk2) b2 e2 ∧ ((s2 ≤ 24 ∧ Run tb rN rW j s2 b2 e2 lk2 r s' b' e' lk' k') ∨ (24 < s2 ∧ r = false)))
theorem ready1 {rt : AR} {rl : Nat → AR} {rn : AR} (hU : RU tb rN rW rt rl rn) {wl : AR} {wn : Int32} {Q : Int32 → Int32 → Int32 → Int32 → Int32 → Int32 → AR → AR → AR → AR → AR → Prop} : ∀ j, j ≤ 20 → ∀ s b e lk bc gn rm se, CN s lk bc → s ≤ 24 → b < s → e < s → (∀ r s' b' e' lk' bc' gn' rm' se' k', Run tb rN rW j s b e lk r s' b' e' lk' k' → (r = true → CN s' lk' bc' ∧ s' ≤ 24 ∧ b' < s' ∧ e' < s') → Q (bI r) 0 (nI s') (nI b') (nI e') (nI k') lk' bc' gn' rm' se') → lpW10 (wb_X2_makeReady_18 wl wn rt rl rn Q) (j + 1) 0 (nI s) (nI b) (nI e) (nI (20 - j)) lk bc gn rm se
  | 0, _, s, b, e, lk, bc, gn, rm, se, hCN, hs, hb, he, hQ => by
    have hok : ∀ r : Bool, r = true → CN s lk bc ∧ s ≤ 24 ∧ b < s ∧ e < s := fun _ _ => ⟨hCN, hs, hb, he⟩
    refine br_end (N := 20) (k := 20) (Nat.le_refl _) (by decide) ⟨fun c => absurd c (by decide), fun _ => plan1 hs hCN hU (fun se' hse => brb (fun ea => ?_) (fun ea => ?_))⟩
    · exact hQ false s b e lk bc gn rm se' 20 ⟨by rw [ea]; rfl, rfl, rfl, rfl, rfl, rfl⟩ (hok _)
    · exact hQ true s b e lk bc gn rm se' 20 ⟨by rw [ea]; rfl, rfl, rfl, rfl, rfl, rfl⟩ (hok _)
  | j + 1, hj, s, b, e, lk, bc, gn, rm, se, hCN, hs, hb, he, hQ => by
    have hok : ∀ r : Bool, r = true → CN s lk bc ∧ s ≤ 24 ∧ b < s ∧ e < s := fun _ _ => ⟨hCN, hs, hb, he⟩
    have e20 : 20 - (j + 1) = 19 - j := by omega
    have e21 : 20 - j = 19 - j + 1 := by omega
    rw [e20]
    refine br_ge (N := 20) (k := 19 - j) (by omega) (by decide) (plan1 hs hCN hU (fun se' hse => brb' (fun ea => ?_) (fun ea => ?_)))
    · exact ⟨fun _ => hQ true s b e lk bc gn rm se' (19 - j) (Or.inl ⟨ea, rfl, rfl, rfl, rfl, rfl, rfl⟩) (hok _), fun c => absurd (nI_lt (show 19 - j < 20 by omega) (by decide)) c⟩
    · refine roundC (Q := fun gc pl bg en lk bc gn rm => (pl ≤ 24 → lpW10 (wb_X2_makeReady_18 wl wn rt rl rn Q) (j + 1) gc pl bg en (nI (19 - j) + 1) lk bc gn rm se') ∧ (¬ pl ≤ 24 → Q 0 gc pl bg en (nI (19 - j) + 1) lk bc gn rm se')) hs hCN hU hse hb he (fun s2 b2 e2 lk2 bc2 gn2 rm2 hCN2 hQP => ?_)
      have h2 := hQP.lt
      have hs2 := hCN2.1
      rw [nI_1, ← e21]
      refine brl (N := 24) (by omega) (by decide) (fun c => ?_) (fun c => ?_)
      · exact ready1 hU j (by omega) s2 b2 e2 lk2 bc2 gn2 rm2 se' hCN2 c h2.1 h2.2 (fun r s' b' e' lk' bc' gn' rm' se' k' hR hr => hQ r s' b' e' lk' bc' gn' rm' se' k' (Or.inr ⟨ea, s2, b2, e2, lk2, bc2, hCN2, hQP, Or.inl ⟨c, hR⟩⟩) hr)
      · exact hQ false s2 b2 e2 lk2 bc2 gn2 rm2 se' (20 - j) (Or.inr ⟨ea, s2, b2, e2, lk2, bc2, hCN2, hQP, Or.inr ⟨c, rfl⟩⟩) (fun c => by (cases c))
theorem slL_nil {c c' : Nat → Nat → Option Nat} {s : Nat} {f g : Nat → Nat} (hB : Bth s c c' f g) (hc : okC s c) (hw : ∀ d, d < 4 → ∀ i, i < rN d → rW d i < 6) : (slL tb rN rW c' s).length = 0 ↔ anS tb rN rW c (2 * s) = false := by
  constructor
  · intro h
    cases ea : anS tb rN rW c (2 * s) with
    | false => rfl
    | true =>
      obtain ⟨⟨d, p, q⟩, hF⟩ := anS_F.mp ea
      have := slL_mem.mpr (fS_fw hB hc hw hF)
      rw [List.eq_nil_of_length_eq_zero h] at this
      cases this
  · intro h
    cases el : slL tb rN rW c' s with
    | nil => rfl
    | cons e t =>
      obtain ⟨d, p, q⟩ := e
      have hm : (d, p, q) ∈ slL tb rN rW c' s := by rw [el]; exact List.mem_cons_self
      have := anS_F.mpr ⟨_, (fS_bk hB hc hw (slL_mem.mp hm)).1⟩
      rw [h] at this
      cases this
theorem ready8 {st : AR} (hV : RV tb rN rW st) {Q : Int32 → Int32 → Int32 → Int32 → Int32 → Int32 → Int32 → AR → AR → AR → AR → AR → AR → AR → AR → AR → Prop} {r : Bool} {s' b' e' k' : Nat} {lk' : AR} (hQ : ∀ J' jn np bg fi ro sw fr by' tw' one nu nx sd sf so, (r = true → np = nI s' ∧ ro = nI k' ∧ RN s' J' jn fr by' tw' one nx ∧ s' ≤ 24 ∧ ∃ f g, Bth s' (cA lk') (cN nx) f g ∧ bg = nI (f b') ∧ fi = nI (f e')) → Q (bI r) jn np bg fi ro sw fr by' tw' one nu nx sd sf so) : ∀ j, j ≤ 20 → ∀ s b e lk bc f g J jn fr by' tw' one nu nx sw sd sf so, Run tb rN rW j s b e lk r s' b' e' lk' k' → CN s lk bc → s ≤ 24 → b < s → e < s → RN s J jn fr by' tw' one nx → Bth s (cA lk) (cN nx) f g → RS (slL tb rN rW (cN nx) s) sw sd sf so → lpW15 (wb_X8_layNet_14 st Q) (j + 1) jn (nI s) (nI (f b)) (nI (f e)) (nI (20 - j)) sw fr by' tw' one nu nx sd sf so
  | 0, _, s, b, e, lk, bc, f, g, J, jn, fr, by', tw', one, nu, nx, sw, sd, sf, so, hRun, hCN, hs, hb, he, hN, hB, hRS => by
    obtain ⟨h1, rfl, rfl, rfl, rfl, rfl⟩ := hRun
    have hw : ∀ d, d < 4 → ∀ i, i < rN d → rW d i < 6 := fun d hd i hi => ((hV.2 d hd).2.2 i hi).1
    have hnil := slL_nil (tb := tb) hB (cA_ok hCN) hw
    have hlen := slL_len (tb := tb) (rN := rN) (rW := rW) (c := cN nx) s'
    have hsw := hRS.1
    subst hsw
    refine br_le0 (by omega) (fun c => ?_) (fun c => ⟨fun c2 => absurd rfl c2, fun _ => ?_⟩)
    · have hr : r = true := by rw [h1, hnil.mp c]; rfl
      have := hQ J jn (nI s') (nI (f b')) (nI (f e')) (nI 20) (nI (slL tb rN rW (cN nx) s').length) fr by' tw' one nu nx sd sf so (fun _ => ⟨rfl, rfl, hN, hs, f, g, hB, rfl, rfl⟩)
      rw [hr] at this
      exact this
    · have ea : anS tb rN rW (cA lk') (2 * s') = true := by
        cases ea : anS tb rN rW (cA lk') (2 * s') with
        | true => rfl
        | false => have := hnil.mpr ea; omega
      have hr : r = false := by rw [h1, ea]; rfl
      have := hQ J jn (nI s') (nI (f b')) (nI (f e')) (nI 20) (nI (slL tb rN rW (cN nx) s').length) fr by' tw' one nu nx sd sf so (fun c => by rw [hr] at c; cases c)
      rw [hr] at this
      exact this
  | j + 1, hj, s, b, e, lk, bc, f, g, J, jn, fr, by', tw', one, nu, nx, sw, sd, sf, so, hRun, hCN, hs, hb, he, hN, hB, hRS => by
    have hw : ∀ d, d < 4 → ∀ i, i < rN d → rW d i < 6 := fun d hd i hi => ((hV.2 d hd).2.2 i hi).1
    have hnil := slL_nil (tb := tb) hB (cA_ok hCN) hw
    have hlen := slL_len (tb := tb) (rN := rN) (rW := rW) (c := cN nx) s
    have hsw := hRS.1
    have e20 : 20 - (j + 1) = 19 - j := by omega
    have e21 : 20 - j = 19 - j + 1 := by omega
    rw [e20]
    rcases hRun with ⟨ea, h1, rfl, rfl, rfl, rfl, rfl⟩ | ⟨ea, s2, b2, e2, lk2, bc2, hCN2, hQP, hor⟩
    · have h0 := hnil.mpr ea
      rw [h0] at hsw
      subst hsw
      refine br_le0 (n := 0) (by omega) (fun _ => ?_) (fun c => by omega)
      have := hQ J jn (nI s') (nI (f b')) (nI (f e')) (nI (19 - j)) (nI 0) fr by' tw' one nu nx sd sf so (fun _ => ⟨rfl, rfl, hN, hs, f, g, hB, rfl, rfl⟩)
      rw [h1] at this
      exact this
    · have h0 : 0 < (slL tb rN rW (cN nx) s).length := by
        refine Nat.pos_of_ne_zero fun c => ?_
        rw [hnil.mp c] at ea
        cases ea
      have hsw' := hsw
      rw [hsw]
      rw [hsw] at hRS
      refine br_le0 (by omega) (fun c => by omega) (fun _ => ⟨fun _ => ?_, fun c => ?_⟩)
      · refine roundR hs hCN hN hB hV hRS hb he (fun s3 b3 e3 J3 jn3 fr3 by3 tw3 one3 nu3 nx3 hN3 hs3 hQP3 => ?_)
        obtain ⟨hss, f3, g3, hB3, hb2, he2, fb, fe⟩ := iso_cells hCN2 hN3.2.2.1 hs3 (hQP.iso hQP3)
        subst hss
        rw [nI_1, ← e21]
        refine brl (N := 24) (by omega) (by decide) (fun c => ?_) (fun c => ?_)
        · refine sews8 c hN3.2.2.1 hV (fun sw4 sd4 sf4 so4 hRS4 => ?_)
          rcases hor with ⟨_, hR2⟩ | ⟨c2, _⟩
          · rw [← fb, ← fe]
            exact ready8 hV hQ j (by omega) s2 b2 e2 lk2 bc2 f3 g3 J3 _ _ _ _ _ _ _ _ _ _ _ hR2 hCN2 c hb2 he2 hN3 hB3 hRS4
          · omega
        · rcases hor with ⟨c2, _⟩ | ⟨_, hr⟩
          · omega
          · have := hQ J3 jn3 (nI s2) (nI b3) (nI e3) (nI (20 - j)) (nI (slL tb rN rW (cN nx) s).length) fr3 by3 tw3 one3 nu3 nx3 sd sf so (fun c => by rw [hr] at c; cases c)
            rw [hr] at this
            exact this
      · have : 19 - j = 20 := (nI_eq (by omega) (by omega)).mp c
        omega
/-- the class makes its net ready; what it then holds, the reference will hold too -/
theorem ready_both {rt : AR} {rl : Nat → AR} {rn st : AR} (hU : RU tb rN rW rt rl rn) (hV : RV tb rN rW st) {w : Nat → Nat} {m j : Nat} (hm : m ≤ 12) {wl : AR} (hwl : ∀ i, i < m → w i < 6 ∧ wl i = nI (w i)) (hj : j < 4) (hst : st (6 + j) = nI m) (hw8 : ∀ i, i < m → w i < 6 ∧ st (10 + 12 * j + i) = nI (w i)) {pl bg en ro : Int32} {lk bc gn rm se : AR} {Q : Int32 → Int32 → Int32 → Int32 → Int32 → Int32 → AR → AR → AR → AR → AR → Prop} (hQ : ∀ r s' b' e' lk' bc' gn' rm' se' k', (r = true → CN s' lk' bc' ∧ s' ≤ 24 ∧ b' < s' ∧ e' < s') → (∀ (jn np bg fi ro sw : Int32) (fr by' tw' one nu nx sd sf so : AR) (Q8 : Int32 → Int32 → Int32 → Int32 → Int32 → Int32 → Int32 → AR → AR → AR → AR → AR → AR → AR → AR → AR → Prop), (∀ J' jn np bg fi ro sw fr by' tw' one nu nx sd sf so, (r = true → np = nI s' ∧ ro = nI k' ∧ RN s' J' jn fr by' tw' one nx ∧ s' ≤ 24 ∧ ∃ f g, Bth s' (cA lk') (cN nx) f g ∧ bg = nI (f b') ∧ fi = nI (f e')) → Q8 (bI r) jn np bg fi ro sw fr by' tw' one nu nx sd sf so) → wp_X8_layNet (nI j) jn np bg fi ro sw st fr by' tw' one nu nx sd sf so Q8) → Q (bI r) 0 (nI s') (nI b') (nI e') (nI k') lk' bc' gn' rm' se') : wp_X2_makeReady 0 pl bg en ro lk bc gn rm se wl (nI m) rt rl rn Q := by
  refine layOut1 hm hwl (fun s b e lk1 bc1 gn1 rm1 hCN hs hQP => ?_)
  have hbe := hQP.lt
  refine ⟨21, ready1 hU 20 (Nat.le_refl _) s b e lk1 bc1 gn1 rm1 se hCN (by omega) hbe.1 hbe.2 (fun r s' b' e' lk' bc' gn' rm' se' k' hRun hr => hQ r s' b' e' lk' bc' gn' rm' se' k' hr (fun jn np bg fi ro sw fr by' tw' one nu nx sd sf so Q8 hQ8 => ?_))⟩
  refine layRow8 hm hj hst hw8 (fun s3 b3 e3 J3 jn3 fr3 by3 tw3 one3 nu3 nx3 hN3 hs3 hQP3 => ?_)
  obtain ⟨hss, f3, g3, hB3, hb2, he2, fb, fe⟩ := iso_cells hCN hN3.2.2.1 (by omega) (hQP.iso hQP3)
  subst hss
  refine sews8 (by omega) hN3.2.2.1 hV (fun sw4 sd4 sf4 so4 hRS4 => ⟨21, ?_⟩)
  rw [← fb, ← fe]
  exact ready8 hV hQ8 20 (Nat.le_refl _) s b e lk1 bc1 f3 g3 J3 _ _ _ _ _ _ _ _ _ _ _ hRun hCN (by omega) hb2 he2 hN3 hB3 hRS4
end READY
