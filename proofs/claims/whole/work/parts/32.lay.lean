/-! PURE 13: the reference's wave -/
/-! the reference's rows -/
def RB (L : List En) (wd : Int32) (wv im cf cb : AR) : Prop := wd = nI L.length ∧ (∀ i e, L[i]? = some e → wv i = nI e.1 ∧ im e.1 = 1 ∧ cb e.1 = nI e.2.2.1 ∧ (e.2.1 = 0 → cf e.1 = -6) ∧ ∀ j e', e.2.1 = j + 1 → L[j]? = some e' → cf e.1 = nI e'.1) ∧ ∀ m, m < 7776 → hasM L m = false → im m = 0
theorem meet8m {c : Nat} {lt : Nat → Nat} {L : List En} {wd : Int32} {wv im cf cb : AR} (h : RB L wd wv im cf cb) (hg : GL c lt L) {e : En} (hv : VM e.1) (hf : frm L e) {x2 : Int32} (hx0 : e.2.1 = 0 → x2 = -6) (hx1 : ∀ (j : Nat) (e' : En), e.2.1 = j + 1 → L[j]? = some e' → x2 = nI e'.1) {Q : Int32 → AR → AR → AR → AR → Prop} (hQ : ∀ wd wv im cf cb, RB (addE L e) wd wv im cf cb → Q wd wv im cf cb) : wp_X8_meetMap (nI e.1) x2 (nI e.2.2.1) wd wv im cf cb Q := by
  obtain ⟨hs, hi, hz⟩ := h
  have hlen := hg.len
  unfold wp_X8_meetMap
  rw [cl_nI (by have := hv.1; omega)]
  refine ⟨vp_in_nI hv.1 (by decide), fun c1 => hQ _ _ _ _ _ ?_, fun c1 => ?_⟩
  · have hm : hasM L e.1 = true := by
      cases hm : hasM L e.1
      · exact absurd (hz e.1 hv.1 hm) c1
      · rfl
    rw [addE, if_pos hm]
    exact ⟨hs, hi, hz⟩
  · have hm : hasM L e.1 = false := by
      cases hm : hasM L e.1
      · rfl
      · obtain ⟨i, e2, h2, h3⟩ := hasM_get.mp hm
        have h4 := (hi i e2 h2).2.1
        rw [h3, c1] at h4
        exact absurd h4.symm (by decide)
    have hroom := hg.room hv hm
    have hne : ¬ hasM L e.1 = true := by rw [hm]; decide
    subst hs
    rw [cl_nI (by omega), nar1]
    refine ⟨vp_in_nI hv.1 (by decide), vp_in_nI hv.1 (by decide), vp_in_nI hv.1 (by decide), vp_in_nI (by omega) (by decide), hQ _ _ _ _ _ ?_⟩
    rw [addE, if_neg hne]
    refine ⟨by rw [nI_1, List.length_append]; rfl, fun i e2 h2 => ?_, fun m hm1 hm2 => ?_⟩
    · rcases app_get h2 with ⟨c2, h2⟩ | ⟨rfl, rfl⟩
      · have h3 := hi i e2 h2
        have hn : i ≠ L.length := by omega
        have hn2 : e2.1 ≠ e.1 := fun c => hne (hasM_get.mpr ⟨i, e2, h2, c⟩)
        rw [upd_n hn, upd_n hn2, upd_n hn2, upd_n hn2]
        refine ⟨h3.1, h3.2.1, h3.2.2.1, h3.2.2.2.1, fun j e' h4 h5 => h3.2.2.2.2 j e' h4 ?_⟩
        rcases hg.2.2 i e2 h2 with c3 | ⟨j2, e3, c3, c4, c5, _⟩
        · rw [h4] at c3; omega
        · obtain rfl : j2 = j := by omega
          rw [get_app c5] at h5
          rw [c5]; exact h5
      · rw [upd_s, upd_s, upd_s, upd_s]
        refine ⟨rfl, rfl, rfl, hx0, fun j e' h4 h5 => ?_⟩
        rcases hf with ⟨f0, _⟩ | ⟨j2, e3, f1, f2, _⟩
        · omega
        · obtain rfl : j2 = j := by omega
          rw [get_app f2] at h5
          rw [← Option.some.inj h5]
          exact hx1 j2 e3 f1 f2
    · have := has_new hm2
      rw [upd_n (fun c => this.2 c.symm)]
      exact hz m hm1 this.1
def zF (f : AR) : Nat → AR
  | 0 => f
  | k + 1 => upd (zF f k) k 0
theorem zF_0 {f : AR} : ∀ {k i : Nat}, i < k → zF f k i = 0
  | k + 1, i, h => by
    rw [zF]
    by_cases e : i = k
    · subst e; exact upd_s
    · rw [upd_n e]; exact zF_0 (by omega)
theorem lay8 {n c N : Nat} {A : Nat → Nat} {st : AR} (hA : ∀ i, i < 6 → VM (A i) ∧ st i = nI (A i)) (hn : n ≤ 3) (hc : c = 2 * n) (hN : Fin0 c (lm A) N) {wd : Int32} {wv im cf cb : AR} {Q : Int32 → AR → AR → AR → AR → Prop} (hQ : ∀ wd wv im cf cb, RB (wvL c (lm A) N) wd wv im cf cb → Q wd wv im cf cb) : wp_X8_layMade (nI n) wd st wv im cf cb Q := by
  have hv : ∀ l, l < c → VM (lm A l) := fun l hl => lm_VM (fun i hi => (hA i hi).1) (by omega)
  have e2n : (2 : Int32) * nI n = nI c := by rw [hc]; exact pk_mul 2 n
  refine cl2' (body := wb_X8_layMade_7 st (nI n) 0 wv cf cb Q) 7776 (zF im) ?_ ?_
  · intro k hk rc hrc
    refine br_ge (N := 7776) hk (by decide) ⟨vp_in_nI hk (by decide), fun x hx => ?_⟩
    subst hx
    rw [cl_nI (by omega), nar0]
    exact hrc
  · intro rc
    refine br_end (N := 7776) (Nat.le_refl _) (by decide) ?_
    have h0 : RB [] 0 wv (zF im 7776) cf cb := ⟨rfl, (fun i e h => by cases h), fun m hm _ => zF_0 hm⟩
    refine cl6r (body := wb_X8_layMade_29 st (nI n) Q) c (fun k wd wv im cf cb => RB (staL (lm A) k) wd wv im cf cb) ?_ ?_ h0
    · intro k hk wd wv im cf cb h rc hrc
      unfold wb_X8_layMade_29
      rw [e2n]
      refine br_ge hk (by omega) (mapOf8 hA (by omega) ?_)
      exact meet8m (e := (lm A k, 0, k, 1)) h (GL.sta hv k (by omega)) (hv k hk) (Or.inl ⟨rfl, rfl⟩) (fun _ => rfl) (fun j e' h1 _ => by cases h1) (fun wd wv im cf cb h x hx => by subst hx; exact hrc _ _ _ _ _ h)
    · intro wd wv im cf cb h rc
      unfold wb_X8_layMade_29
      rw [e2n]
      refine br_end (Nat.le_refl c) (by omega) ?_
      have hN6 : N ≤ 1546 := by have := (GL.wv hv N).len; rw [hN.1] at this; exact this
      refine cl6r (body := wb_X8_layMade_56 st (nI n) Q) N (fun k wd wv im cf cb => RB (wvL c (lm A) k) wd wv im cf cb) ?_ ?_ h
      · intro k hk wd wv im cf cb h rc hrc
        have hlt := hN.2 k hk
        have hlen := (GL.wv hv k).len
        have hsz := h.1
        subst hsz
        refine br_ge hlt (by omega) ?_
        refine cl6r (body := wb_X8_layMade_66 st (nI n) (nI k) rc Q) c (fun j wd wv im cf cb => RB (innL (lm A) (wvL c (lm A) k) k j) wd wv im cf cb) ?_ ?_ h
        · intro j hj wd wv im cf cb h rc2 hrc2
          unfold wb_X8_layMade_66
          rw [e2n]
          refine br_ge hj (by omega) ⟨vp_in_nI (by omega) (by decide), mapOf8 hA (by omega) ?_⟩
          obtain ⟨e, he⟩ := get_ex hlt
          obtain ⟨t, ht⟩ := innL_pre (lm A) (wvL c (lm A) k) k j
          have hk2 : (innL (lm A) (wvL c (lm A) k) k j)[k]? = some e := by rw [ht]; exact get_app he
          have hve := (GL.wv hv k).1 e (List.mem_iff_getElem?.mpr ⟨k, he⟩)
          rw [cl_nI (by omega), (h.2.1 k e hk2).1]
          refine then8 hve.1.1 (hv j hj).1 ⟨vp_in_nI (by omega) (by decide), ?_⟩
          refine meet8m (e := (thenN e.1 (lm A j), k + 1, j, e.2.2.2 + 1)) h (GL.inn hv (GL.wv hv k) hlt j (by omega)) (hve.1.then (hv j hj)) (Or.inr ⟨k, e, rfl, hk2, rfl⟩) (fun c => by cases c) (fun j2 e' h1 h2 => ?_) ?_
          · obtain rfl : k = j2 := Nat.succ.inj h1
            rw [hk2] at h2
            cases h2; rfl
          · intro wd wv im cf cb h x hx
            subst hx
            refine hrc2 _ _ _ _ _ ?_
            rw [innL, atE_get he]
            exact h
        · intro wd wv im cf cb h rc2
          unfold wb_X8_layMade_66
          rw [e2n]
          refine br_end (Nat.le_refl c) (by omega) (fun x hx => ?_)
          subst hx
          refine hrc _ _ _ _ _ ?_
          rw [wvL, if_pos hlt]
          exact h
      · intro wd wv im cf cb h rc
        have hsz := h.1
        rw [hN.1] at hsz
        subst hsz
        exact br_end (Nat.le_refl N) (by omega) (hQ _ _ _ _ _ h)
