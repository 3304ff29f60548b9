/-! PURE 11: the rows of the class -/
/-! the class's rows -/
def fI (f : Nat) : Int32 := if f = 0 then -1 else nI (f - 1)
def RA (L : List En) (sz : Int32) (pl mp fr ll ln : AR) : Prop := sz = nI L.length ∧ (∀ i e, L[i]? = some e → mp i = nI e.1 ∧ fr i = fI e.2.1 ∧ ll i = nI e.2.2.1 ∧ ln i = nI e.2.2.2 ∧ pl e.1 = nI (i + 1)) ∧ ∀ m, m < 7776 → hasM L m = false → pl m = 0
theorem has_new {L : List En} {e : En} {m : Nat} (h : hasM (L ++ [e]) m = false) : hasM L m = false ∧ e.1 ≠ m := by
  constructor
  · cases c : hasM L m
    · rfl
    · rw [has_app c] at h; cases h
  · intro c
    rw [hasM_iff.mpr ⟨e, List.mem_append_right _ (List.mem_cons_self ..), c⟩] at h
    cases h
theorem add1 {c : Nat} {lt : Nat → Nat} {L : List En} {sz : Int32} {pl mp fr ll ln : AR} (h : RA L sz pl mp fr ll ln) (hg : GL c lt L) {e : En} (hv : VM e.1) (hf : frm L e) {Q : Int32 → AR → AR → AR → AR → AR → Prop} (hQ : ∀ sz pl mp fr ll ln, RA (addE L e) sz pl mp fr ll ln → Q sz pl mp fr ll ln) : wp_X0_add (nI e.1) (fI e.2.1) (nI e.2.2.1) sz pl mp fr ll ln Q := by
  obtain ⟨hs, hi, hz⟩ := h
  have hlen := hg.len
  unfold wp_X0_add
  rw [cl_nI (by have := hv.1; omega)]
  refine ⟨vp_in_nI hv.1 (by decide), fun c1 => hQ _ _ _ _ _ _ ?_, fun c1 => ?_⟩
  · have hm : hasM L e.1 = true := by
      cases hm : hasM L e.1
      · exact absurd (hz e.1 hv.1 hm) c1
      · rfl
    rw [addE, if_pos hm]
    exact ⟨hs, hi, hz⟩
  · have hm : hasM L e.1 = false := by
      cases hm : hasM L e.1
      · rfl
      · obtain ⟨i, e2, h2, h3⟩ := hasM_get.mp hm
        have h4 := (hi i e2 h2).2.2.2.2
        have h5 := get_lt h2
        rw [h3, c1] at h4
        exact absurd h4.symm (nI_ne0 (by omega) (by omega))
    have hroom := hg.room hv hm
    have hne : ¬ hasM L e.1 = true := by rw [hm]; decide
    subst hs
    have fin : ∀ d : Int32, d = nI e.2.2.2 → wp_X0_add_74 (nI e.1) (nI L.length) d (nI L.length) pl (upd mp L.length (nI e.1)) (upd fr L.length (fI e.2.1)) (upd ll L.length (nI e.2.2.1)) ln Q := by
      intro d hd
      unfold wp_X0_add_74
      rw [cl_nI (by have := hv.1; omega), cl_nI (by omega)]
      refine ⟨vp_in_nI hroom (by decide), vp_in_nI hv.1 (by decide), hQ _ _ _ _ _ _ ?_⟩
      rw [addE, if_neg hne]
      refine ⟨by rw [nI_1, List.length_append]; rfl, fun i e2 h2 => ?_, fun m hm1 hm2 => ?_⟩
      · rcases app_get h2 with ⟨c2, h2⟩ | ⟨rfl, rfl⟩
        · have h3 := hi i e2 h2
          have hn : i ≠ L.length := by omega
          have hn2 : e2.1 ≠ e.1 := fun c => hne (hasM_get.mpr ⟨i, e2, h2, c⟩)
          rw [upd_n hn, upd_n hn, upd_n hn, upd_n hn, upd_n hn2]
          exact h3
        · rw [upd_s, upd_s, upd_s, upd_s, upd_s, nI_1]
          exact ⟨rfl, rfl, rfl, hd, rfl⟩
      · have := has_new hm2
        rw [upd_n (fun c => this.2 c.symm)]
        exact hz m hm1 this.1
    refine ⟨fun _ => ?_, fun c2 => absurd (nI_lt hroom (by decide)) c2⟩
    rw [cl_nI (by omega)]
    refine ⟨vp_in_nI hroom (by decide), vp_in_nI hroom (by decide), vp_in_nI hroom (by decide), fun c2 => ?_, fun c2 => ?_⟩
    · rcases hf with ⟨f0, _⟩ | ⟨j, e', f1, f2, f3⟩
      · rw [f0] at c2
        exact absurd c2 (by decide)
      · have hj := get_lt f2
        have hfj : fI e.2.1 = nI j := by rw [f1]; rfl
        have := fin (ln (fI e.2.1).toNatClampNeg + 1) (by rw [hfj, cl_nI (by omega), (hi j e' f2).2.2.2.1, nI_1, f3])
        exact ⟨by rw [hfj]; exact vp_in_nI (by omega) (by decide), this⟩
    · rcases hf with ⟨f0, f1⟩ | ⟨j, e', f1, f2, f3⟩
      · exact fin 1 (by rw [f1]; rfl)
      · have hj := get_lt f2
        rw [f1] at c2
        exact absurd (nn_nI (a := j) (by omega)) c2
