/-! PURE 36: the reference plans its seams -/
section SEWS
variable {tb : Nat → Bool} {rN : Nat → Nat} {rW : Nat → Nat → Nat} {c : Nat → Nat → Option Nat}
def slD (tb : Nat → Bool) (rN : Nat → Nat) (rW : Nat → Nat → Nat) (c : Nat → Nat → Option Nat) (p : Nat) : Nat → List Jn
  | 0 => []
  | d + 1 => slD tb rN rW c p d ++ match sm tb rN rW c p (xr d) with
    | none => []
    | some q => [(d, p, q)]
def slL (tb : Nat → Bool) (rN : Nat → Nat) (rW : Nat → Nat → Nat) (c : Nat → Nat → Option Nat) : Nat → List Jn
  | 0 => []
  | k + 1 => slL tb rN rW c k ++ slD tb rN rW c k 4
theorem slD_len (p : Nat) : ∀ d, (slD tb rN rW c p d).length ≤ d
  | 0 => Nat.le_refl 0
  | d + 1 => by
    have := slD_len p d
    rw [slD, List.length_append]
    cases sm tb rN rW c p (xr d) with
    | none => show _ + 0 ≤ _; omega
    | some q => show _ + 1 ≤ _; omega
theorem slL_len : ∀ k, (slL tb rN rW c k).length ≤ 4 * k
  | 0 => Nat.le_refl 0
  | k + 1 => by
    have := slL_len k
    have h2 := slD_len (tb := tb) (rN := rN) (rW := rW) (c := c) k 4
    rw [slL, List.length_append]
    omega
def RS (S : List Jn) (sw : Int32) (sd sf so : AR) : Prop := sw = nI S.length ∧ ∀ (k : Nat) (e : Jn), S[k]? = some e → sd k = nI e.1 ∧ sf k = nI e.2.1 ∧ so k = nI e.2.2
/-- the rules in the reference's state -/
def RV (tb : Nat → Bool) (rN : Nat → Nat) (rW : Nat → Nat → Nat) (st : AR) : Prop := (∀ r, r < 2 → st (58 + r) = bI (tb r)) ∧ ∀ d, d < 4 → rN d ≤ 12 ∧ st (60 + d) = nI (rN d) ∧ ∀ i, i < rN d → rW d i < 6 ∧ st (64 + 12 * d + i) = nI (rW d i)
theorem xr4 : ∀ d, d < 4 → xr d < 4 ∧ xr d / 2 = d / 2 := by decide
theorem sews8 {s : Nat} (hs : s ≤ 24) {nx : AR} (h : ∀ k l, k < s → l < 6 → nx (6 * k + l) = -6 ∨ ∃ k', k' < s ∧ nx (6 * k + l) = nI k') {st : AR} (hV : RV tb rN rW st) {sw : Int32} {sd sf so : AR} {Q : Int32 → AR → AR → AR → Prop} (hQ : ∀ sw sd sf so, RS (slL tb rN rW (cN nx) s) sw sd sf so → Q sw sd sf so) : wp_X8_laySews (nI s) sw st nx sd sf so Q := by
  have hw : ∀ d, d < 4 → ∀ i, i < rN d → rW d i < 6 := fun d hd i hi => ((hV.2 d hd).2.2 i hi).1
  refine cl5r (body := wb_X8_laySews_7 (nI s) st nx Q) s (fun k sw sd sf so => RS (slL tb rN rW (cN nx) k) sw sd sf so) ?_ ?_ ⟨rfl, fun k e he => by (cases he)⟩
  · intro p hp sw1 sd1 sf1 so1 hRS rc hrc
    refine br_ge hp (by omega) ?_
    refine cl5r (body := wb_X8_laySews_17 (nI s) st nx (nI p) rc Q) 4 (fun d sw sd sf so => RS (slL tb rN rW (cN nx) p ++ slD tb rN rW (cN nx) p d) sw sd sf so) ?_ ?_ (by rw [slD, List.append_nil]; exact hRS)
    · intro d hd sw2 sd2 sf2 so2 hRS2 rc2 hrc2
      obtain ⟨x4, xd⟩ := xr4 d hd
      have l1 := slL_len (tb := tb) (rN := rN) (rW := rW) (c := cN nx) p
      have l2 := slD_len (tb := tb) (rN := rN) (rW := rW) (c := cN nx) p d
      have keep : sm tb rN rW (cN nx) p (xr d) = none → rc2 (nI d + 1) sw2 sd2 sf2 so2 := fun e => hrc2 _ _ _ _ (by rw [slD, e, List.append_nil]; exact hRS2)
      refine br_ge (N := 4) hd (by decide) ?_
      rw [dv2 d (by omega), show (58 : Int32) = nI 58 from rfl, nI_add, cl_nI (by omega), hV.1 (d / 2) (by omega)]
      refine ⟨vp_in_nI (by omega) (by decide), fun ct => ?_, fun ct => ?_⟩
      · have t0 : tb (d / 2) = false := by
          cases e : tb (d / 2)
          · rfl
          · rw [e] at ct; exact absurd rfl ct
        have e1 : sE tb rN rW (cN nx) p (xr d) = none := by unfold sE; rw [xd, if_neg (by rw [t0]; decide)]
        refine ⟨fun _ x hx => ?_, fun c2 => absurd (by decide) c2⟩
        subst hx
        refine keep ?_
        unfold sm
        rw [e1]
        split <;> rfl
      · have t1 : tb (d / 2) = true := (bI_1 _).mp ct
        refine undone8 (by omega) ?_
        obtain ⟨u1, u2, u3⟩ := hV.2 (xr d) x4
        refine readRule8 (by omega) h u1 x4 u2 u3 hp ?_
        have e1 : sE tb rN rW (cN nx) p (xr d) = wk (cN nx) (rW (xr d)) p (rN (xr d)) := by unfold sE; rw [xd, if_pos t1]
        have e0 : sE tb rN rW (cN nx) p d = wk (cN nx) (rW d) p (rN d) := by unfold sE; rw [if_pos t1]
        rw [← e1]
        cases c1 : sE tb rN rW (cN nx) p (xr d) with
        | none =>
          refine ⟨fun _ x hx => ?_, fun c2 => absurd (by decide) c2⟩
          subst hx
          refine keep ?_
          unfold sm
          rw [c1]
          split <;> rfl
        | some q =>
          have hq := sE_lt (cN_ok (by omega) h) hw hp x4 c1
          refine ⟨fun c2 => absurd c2 (nI_pos (by omega)), fun _ => ?_⟩
          obtain ⟨v1, v2, v3⟩ := hV.2 d hd
          refine readRule8 (by omega) h v1 hd v2 v3 hp ?_
          rw [← e0]
          have esm : sm tb rN rW (cN nx) p (xr d) = if some q = sE tb rN rW (cN nx) p d then none else some q := by
            unfold sm
            rw [c1, xr_xr]
          refine ⟨fun c2 x hx => ?_, fun c2 => ?_⟩
          · subst hx
            refine keep ?_
            rw [esm, if_pos]
            cases c3 : sE tb rN rW (cN nx) p d with
            | none =>
              rw [c3] at c2
              exact absurd c2 (neg6 (q := q) (by omega))
            | some r =>
              rw [c3] at c2
              have hr := sE_lt (cN_ok (by omega) h) hw hp hd c3
              rw [(nI_eq (by omega) (by omega)).mp c2]
          · have es : sm tb rN rW (cN nx) p (xr d) = some q := by
              rw [esm, if_neg]
              intro e
              rw [← e] at c2
              exact c2 rfl
            obtain ⟨r1, r2⟩ := hRS2
            have ll : (slL tb rN rW (cN nx) p ++ slD tb rN rW (cN nx) p d).length < 96 := by rw [List.length_append]; omega
            subst r1
            have v : vp_in (nI (slL tb rN rW (cN nx) p ++ slD tb rN rW (cN nx) p d).length) 96 := vp_in_nI ll (by decide)
            refine ⟨v, v, v, fun x hx => ?_⟩
            subst hx
            rw [cl_nI (by omega)]
            refine hrc2 _ _ _ _ ?_
            rw [slD, es, ← List.append_assoc]
            refine ⟨by rw [nI_1, List.length_append (bs := [(d, p, q)])]; rfl, fun k e he => ?_⟩
            rcases j_new he with ⟨hk, he⟩ | ⟨rfl, rfl⟩
            · rw [upd_n (by omega), upd_n (by omega), upd_n (by omega)]; exact r2 k e he
            · rw [upd_s, upd_s, upd_s]; exact ⟨rfl, rfl, rfl⟩
    · intro sw2 sd2 sf2 so2 hRS2 rc2
      refine br_end (N := 4) (Nat.le_refl _) (by decide) (fun x hx => ?_)
      subst hx
      exact hrc _ _ _ _ hRS2
  · intro sw1 sd1 sf1 so1 hRS rc
    exact br_end (Nat.le_refl s) (by omega) (hQ _ _ _ _ hRS)
end SEWS
