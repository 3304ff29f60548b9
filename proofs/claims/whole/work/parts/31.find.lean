/-! PURE 12: the class finds -/
theorem find1 {c N : Nat} {lt : Nat → Nat} (hc : c ≤ 6) (hv : ∀ l, l < c → VM (lt l)) (hN : Fin0 c lt N) {lm' : AR} (hm : ∀ l, l < c → lm' l = nI (lt l)) {sz : Int32} {pl mp fr ll ln : AR} (h0 : RA [] sz pl mp fr ll ln) {Q : Int32 → AR → AR → AR → AR → AR → Prop} (hQ : ∀ sz pl mp fr ll ln, RA (wvL c lt N) sz pl mp fr ll ln → Q sz pl mp fr ll ln) : wp_X0_find (nI c) sz lm' pl mp fr ll ln Q := by
  refine cl7r c (fun k sz pl mp fr ll ln => RA (staL lt k) sz pl mp fr ll ln) ?_ ?_ h0
  · intro k hk sz pl mp fr ll ln h rc hrc
    refine br_ge hk (by omega) ⟨vp_in_nI (by omega) (by decide), ?_⟩
    rw [cl_nI (by omega), hm k hk]
    exact add1 (e := (lt k, 0, k, 1)) h (GL.sta hv k (by omega)) (hv k hk) (Or.inl ⟨rfl, rfl⟩) (fun sz pl mp fr ll ln h x hx => by subst hx; exact hrc _ _ _ _ _ _ h)
  · intro sz pl mp fr ll ln h rc
    refine br_end (Nat.le_refl c) (by omega) ?_
    have hN6 : N ≤ 1546 := by have := (GL.wv hv N).len; rw [hN.1] at this; exact this
    refine cl7r N (fun k sz pl mp fr ll ln => RA (wvL c lt k) sz pl mp fr ll ln) ?_ ?_ h
    · intro k hk sz pl mp fr ll ln h rc hrc
      have hlt := hN.2 k hk
      have hlen := (GL.wv hv k).len
      have hsz := h.1
      subst hsz
      refine br_ge hlt (by omega) (br_ge (N := 1546) (by omega) (by decide) ?_)
      refine cl7r c (fun j sz pl mp fr ll ln => RA (innL lt (wvL c lt k) k j) sz pl mp fr ll ln) ?_ ?_ h
      · intro j hj sz pl mp fr ll ln h rc2 hrc2
        refine br_ge hj (by omega) ⟨vp_in_nI (by omega) (by decide), vp_in_nI (by omega) (by decide), ?_⟩
        obtain ⟨e, he⟩ := get_ex hlt
        obtain ⟨t, ht⟩ := innL_pre lt (wvL c lt k) k j
        have hk2 : (innL lt (wvL c lt k) k j)[k]? = some e := by rw [ht]; exact get_app he
        have hve := (GL.wv hv k).1 e (List.mem_iff_getElem?.mpr ⟨k, he⟩)
        rw [cl_nI (by omega), cl_nI (by omega), hm j hj, (h.2.1 k e hk2).1]
        refine then1 hve.1.1 (hv j hj).1 ?_
        refine add1 (e := (thenN e.1 (lt j), k + 1, j, e.2.2.2 + 1)) h (GL.inn hv (GL.wv hv k) hlt j (by omega)) (hve.1.then (hv j hj)) (Or.inr ⟨k, e, rfl, hk2, rfl⟩) ?_
        intro sz pl mp fr ll ln h x hx
        subst hx
        refine hrc2 _ _ _ _ _ _ ?_
        rw [innL, atE_get he]
        exact h
      · intro sz pl mp fr ll ln h rc2
        refine br_end (Nat.le_refl c) (by omega) (fun x hx => ?_)
        subst hx
        refine hrc _ _ _ _ _ _ ?_
        rw [wvL, if_pos hlt]
        exact h
    · intro sz pl mp fr ll ln h rc
      have hsz := h.1
      rw [hN.1] at hsz
      subst hsz
      exact br_end (Nat.le_refl N) (by omega) (hQ _ _ _ _ _ _ h)
