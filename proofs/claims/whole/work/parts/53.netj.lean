/-! PURE 34: the class counts joints -/
theorem joints1 {s : Nat} {lk bc : AR} (h : CN s lk bc) {Q : Int32 → Prop} (hQ : Q (nI (jcC s (cA lk)))) : wp_X2_joints (nI s) lk Q := by
  have hs := h.1
  refine cl2 (body := wb_X2_joints_4 (nI s) lk Q) s (fun k => nI (cn (fun i => (cA lk (i / 3) (2 * (i % 3))).isSome) (3 * k))) ?_ ?_
  · intro k hk rc hrc
    refine br_ge hk (by omega) ?_
    have key : ∀ j' j, j + j' = 3 → lpW2 (wb_X2_joints_14 (nI s) lk (nI k) rc Q) (j' + 1) (nI (cn (fun i => (cA lk (i / 3) (2 * (i % 3))).isSome) (3 * k + j))) (nI (2 * j)) := by
      intro j'
      induction j' with
      | zero =>
        intro j hj
        obtain rfl : j = 3 := by omega
        refine br_end (N := 6) (Nat.le_refl _) (by decide) (fun x hx => ?_)
        subst hx
        exact hrc
      | succ j' ih =>
        intro j hj
        have e2 : nI (2 * j) + 2 = nI (2 * (j + 1)) := nI_add (2 * j) 2
        have ec := cA_I h hk (l := 2 * j) (by omega)
        refine br_ge (N := 6) (show 2 * j < 6 by omega) (by decide) ?_
        rw [ix6, cl_nI (by omega), ec]
        have ihj := ih (j + 1) (by omega)
        rw [show 3 * k + (j + 1) = 3 * k + j + 1 by omega] at ihj
        refine ⟨vp_in_nI (by omega) (by decide), fun c x hx => ?_, fun c y hy x hx => ?_⟩
        · subst hx
          rw [e2]
          cases c2 : cA lk k (2 * j) with
          | some q =>
            rw [c2] at c
            have hq := cA_ok h k (2 * j) q hk (by omega) c2
            exact absurd c (nI_pos (by omega))
          | none =>
            rw [cn, if_neg (by rw [show (3 * k + j) / 3 = k by omega, show (3 * k + j) % 3 = j by omega, c2]; decide), Nat.add_zero] at ihj
            exact ihj
        · subst hx hy
          rw [e2]
          cases c2 : cA lk k (2 * j) with
          | none =>
            rw [c2] at c
            exact absurd (by decide) c
          | some q =>
            rw [cn, if_pos (by rw [show (3 * k + j) / 3 = k by omega, show (3 * k + j) % 3 = j by omega, c2]; rfl)] at ihj
            rw [nI_1]
            exact ihj
    exact ⟨4, key 3 0 (by omega)⟩
  · intro rc
    exact br_end (Nat.le_refl s) (by omega) hQ
