/-! PURE 15: the class's survey, and when it looks again -/
def SV (N : Nat) (f : Nat → Nat) (g k : AR) : Prop := (∀ s, s < 32 → g s = nI (gN N f s)) ∧ ∃ kd, Kd N f N kd ∧ ∀ s, s < 32 → k s = nI (kd s)
theorem oneKind1 {kd : Nat → Nat} {k : AR} (hk : ∀ s, s < 32 → k s = nI (kd s) ∧ kd s < 32) {a b : Nat} (hb : b < 32) {Q : AR → Prop} (h : ∀ k', (∀ s, s < 32 → k' s = nI (if kd s = b then a else kd s)) → Q k') : wp_X0_makeOneKind (nI a) (nI b) k Q := by
  refine cl2r (body := wb_X0_makeOneKind_2 (nI a) (nI b) Q) 32 (fun j k' => (∀ s, s < j → k' s = nI (if kd s = b then a else kd s)) ∧ ∀ s, j ≤ s → k' s = k s) ?_ ?_ ⟨fun s hs => by omega, fun s _ => rfl⟩
  · intro j hj k' hI rc hrc
    refine br_ge (N := 32) hj (by decide) ⟨vp_in_nI hj (by decide), ?_⟩
    rw [cl_nI (by omega), hI.2 j (Nat.le_refl j), (hk j hj).1]
    have hkj := (hk j hj).2
    refine ⟨fun c x hx => ?_, fun c => ⟨vp_in_nI hj (by decide), fun x hx => ?_⟩⟩
    · subst hx
      refine hrc k' ⟨fun s hs => ?_, fun s hs => hI.2 s (by omega)⟩
      by_cases e : s = j
      · subst e
        rw [if_neg (fun e => c (by rw [e])), hI.2 s (Nat.le_refl s)]
        exact (hk s hj).1
      · exact hI.1 s (by omega)
    · subst hx
      have e0 : kd j = b := (nI_eq (by omega) (by omega)).mp c
      refine hrc _ ⟨fun s hs => ?_, fun s hs => by rw [upd_n (by omega)]; exact hI.2 s (by omega)⟩
      by_cases e : s = j
      · subst e
        rw [if_pos e0, upd_s]
      · rw [upd_n e]; exact hI.1 s (by omega)
  · intro k' hI rc
    exact br_end (N := 32) (Nat.le_refl _) (by decide) (h k' hI.1)
theorem survey1 {N : Nat} {f : Nat → Nat} (hw : Wv N f) {mp : AR} (hm : ∀ i, i < N → mp i = nI (f i)) {g k : AR} {Q : AR → AR → Prop} (h : ∀ g' k', SV N f g' k' → Q g' k') : wp_X0_survey (nI N) mp g k Q := by
  have hN := hw.2.1
  refine cl3r (body := wb_X0_survey_2 (nI N) mp Q) 32 (fun j g k => ∀ s, s < j → g s = 0 ∧ k s = nI s) ?_ ?_ (fun s hs => by omega)
  · intro j hj g k hI rc hrc
    refine br_ge (N := 32) hj (by decide) ⟨vp_in_nI hj (by decide), vp_in_nI hj (by decide), fun x hx => ?_⟩
    subst hx
    rw [cl_nI (by omega)]
    refine hrc _ _ (fun s hs => ?_)
    by_cases e : s = j
    · subst e; rw [upd_s, upd_s]; exact ⟨rfl, rfl⟩
    · rw [upd_n e, upd_n e]; exact hI s (by omega)
  · intro g k hI rc
    refine br_end (N := 32) (Nat.le_refl _) (by decide) ?_
    refine cl3r (body := wb_X0_survey_30 (nI N) mp Q) N (fun j g k => (∀ s, s < 32 → g s = nI (cn (fun i => dpN (f i) == s && rpN (f i) == s) j)) ∧ ∃ kd, Kd N f j kd ∧ ∀ s, s < 32 → k s = nI (kd s)) ?_ ?_ ⟨fun s hs => (hI s hs).1, _, Kd.zero N f, fun s hs => (hI s hs).2⟩
    · rintro j hj g k ⟨hg, kd, hk, hkk⟩ rc hrc
      have hv := hw.2.2.1 j hj
      have hd := dp_lt (f j)
      have hr := rp_lt (f j)
      refine br_ge hj (by omega) ⟨vp_in_nI (by omega) (by decide), ?_⟩
      rw [cl_nI (by omega), hm j hj]
      refine dpts1 hv.1 ⟨vp_in_nI (by omega) (by decide), ?_⟩
      refine rpts1 hv.1 ⟨fun c => ?_, fun c => ?_⟩
      · refine ⟨vp_in_nI hd (by decide), vp_in_nI hr (by decide), ?_⟩
        rw [cl_nI (by omega), cl_nI (by omega), hkk _ hd, hkk _ hr]
        refine oneKind1 (fun s hs => ⟨hkk s hs, (hk.1 s hs).1⟩) (hk.1 _ hr).1 (fun k' hk' x hx => ?_)
        subst hx
        refine hrc _ _ ⟨fun s hs => ?_, _, hk.next hw hj, hk'⟩
        rw [hg s hs, cn, if_neg, Nat.add_zero]
        intro e
        rw [Bool.and_eq_true, beq_iff_eq, beq_iff_eq] at e
        exact c (by rw [e.1, e.2])
      · have e : dpN (f j) = rpN (f j) := (nI_eq (by omega) (by omega)).mp c
        refine ⟨vp_in_nI hd (by decide), vp_in_nI hd (by decide), fun x hx => ?_⟩
        subst hx
        refine hrc _ _ ⟨fun s hs => ?_, kd, hk.same e, hkk⟩
        rw [cl_nI (by omega)]
        by_cases es : s = dpN (f j)
        · subst es
          rw [upd_s, hg _ hd, nI_1, cn, if_pos]
          rw [← e, beq_self_eq_true]; rfl
        · rw [upd_n es, hg s hs, cn, if_neg, Nat.add_zero]
          intro e
          rw [Bool.and_eq_true, beq_iff_eq] at e
          exact es e.1.symm
    · rintro g k hI rc
      exact br_end (Nat.le_refl N) (by omega) (h g k hI)
theorem forget1 {c : Nat} {lt : Nat → Nat} {L : List En} (hg : GL c lt L) {sz : Int32} {pl mp fr ll ln : AR} (h : RA L sz pl mp fr ll ln) {Q : Int32 → AR → Prop} (hQ : ∀ pl', RA [] 0 pl' mp fr ll ln → Q 0 pl') : wp_X0_forget sz pl mp Q := by
  obtain ⟨hs, hi, hz⟩ := h
  have hlen := hg.len
  subst hs
  refine cl2r (body := wb_X0_forget_2 mp (nI L.length) Q) L.length (fun j pl => ∀ m, m < 7776 → (∀ i e, j ≤ i → L[i]? = some e → e.1 ≠ m) → pl m = 0) ?_ ?_ ?_
  · intro j hj pl hI rc hrc
    obtain ⟨e, he⟩ := get_ex hj
    have hv := (hg.1 e (List.mem_iff_getElem?.mpr ⟨j, he⟩)).1
    refine br_ge hj (by omega) ⟨vp_in_nI (by omega) (by decide), ?_⟩
    rw [cl_nI (by omega), (hi j e he).1]
    refine ⟨vp_in_nI hv.1 (by decide), fun x hx => ?_⟩
    subst hx
    rw [cl_nI (by have := hv.1; omega)]
    refine hrc _ (fun m hm hne => ?_)
    by_cases em : m = e.1
    · subst em; exact upd_s
    · rw [upd_n em]
      refine hI m hm (fun i e2 hji h2 => ?_)
      by_cases c : i = j
      · subst c
        rw [he] at h2
        cases h2
        exact fun c => em c.symm
      · exact hne i e2 (by omega) h2
  · intro pl hI rc
    refine br_end (Nat.le_refl _) (by omega) (hQ pl ⟨rfl, (fun i e h => by cases h), fun m hm _ => hI m hm (fun i e hle h2 => ?_)⟩)
    have := get_lt h2
    omega
  · intro m hm hne
    refine hz m hm ?_
    cases c : hasM L m
    · rfl
    · obtain ⟨i, e, h1, h2⟩ := hasM_get.mp c
      exact absurd h2 (hne i e (Nat.zero_le i) h1)
abbrev fL (c : Nat) (lt : Nat → Nat) (N : Nat) : Nat → Nat := fun i => (atE (wvL c lt N) i).1
/-- what the class's rows hold between calls -/
def MI (lc sz : Int32) (lma pl mp fr ll ln g k : AR) : Prop := ∃ c lt N, c ≤ 6 ∧ lc = nI c ∧ (∀ l, l < c → VM (lt l) ∧ lma l = nI (lt l)) ∧ Fin0 c lt N ∧ RA (wvL c lt N) sz pl mp fr ll ln ∧ (0 < c → SV N (fL c lt N) g k)
def lmF (f : AR) (lt : Nat → Nat) : Nat → AR
  | 0 => f
  | k + 1 => upd (lmF f lt k) k (nI (lt k))
theorem lmF_s {f : AR} {lt : Nat → Nat} : ∀ {k i : Nat}, i < k → lmF f lt k i = nI (lt i)
  | k + 1, i, h => by
    rw [lmF]
    by_cases e : i = k
    · subst e; exact upd_s
    · rw [upd_n e]; exact lmF_s (by omega)
theorem lmF_n {f : AR} {lt : Nat → Nat} : ∀ {k i : Nat}, k ≤ i → lmF f lt k i = f i
  | 0, _, _ => rfl
  | k + 1, i, h => by rw [lmF, upd_n (by omega)]; exact lmF_n (by omega)
def smF (b : Bool) (f : AR) (lt : Nat → Nat) : Nat → Bool
  | 0 => b
  | k + 1 => smF b f lt k && decide (f k = nI (lt k))
theorem smF_t {b : Bool} {f : AR} {lt : Nat → Nat} : ∀ {k : Nat}, smF b f lt k = true → b = true ∧ ∀ l, l < k → f l = nI (lt l)
  | 0, h => ⟨h, fun l hl => by omega⟩
  | k + 1, h => by
    rw [smF, Bool.and_eq_true, decide_eq_true_eq] at h
    have := smF_t h.1
    refine ⟨this.1, fun l hl => ?_⟩
    by_cases e : l = k
    · subst e; exact h.2
    · exact this.2 l (by omega)
theorem prepare1 {A : Nat → Nat} {sl : AR} {n N : Nat} (hA : ∀ i, i < 6 → VM (A i) ∧ sl i = nI (A i)) (h0 : 0 < n) (hn : n ≤ 3) (hN : Fin0 (2 * n) (lm A) N) {lc sz : Int32} {lma pl mp fr ll ln g k : AR} (hI : MI lc sz lma pl mp fr ll ln g k) {Q : Int32 → Int32 → AR → AR → AR → AR → AR → AR → AR → AR → Prop} (hQ : ∀ sz lma pl mp fr ll ln g k, (∀ l, l < 2 * n → lma l = nI (lm A l)) → RA (wvL (2 * n) (lm A) N) sz pl mp fr ll ln → SV N (fL (2 * n) (lm A) N) g k → Q (nI (2 * n)) sz lma pl mp fr ll ln g k) : wp_X0_prepare (nI n) lc sz lma pl mp fr ll ln g k sl Q := by
  have hA' : ∀ i, i < 6 → VM (A i) := fun i hi => (hA i hi).1
  have hv : ∀ l, l < 2 * n → VM (lm A l) := fun l hl => lm_VM hA' (by omega)
  have e2n : (2 : Int32) * nI n = nI (2 * n) := pk_mul 2 n
  obtain ⟨c, lt, N0, hc, hlc, hlm, hF, hRA, hSV⟩ := hI
  have hgl : GL c lt (wvL c lt N0) := GL.wv (fun l hl => (hlm l hl).1) N0
  have key : ∀ b : Bool, (b = true → c = 2 * n) → wp_X0_prepare_15 sl (nI n) (bI b) lc sz lma pl mp fr ll ln g k Q := by
    intro b hb
    unfold wp_X0_prepare_15
    rw [e2n]
    refine cl3m (body := wb_X0_prepare_26 sl (nI (2 * n)) sz pl mp fr ll ln g k Q) (2 * n) (fun j => bI (smF b lma (lm A) j)) (lmF lma (lm A)) ?_ ?_
    · intro j hj rc hrc
      refine br_ge hj (by omega) (ofLetter1 hA (by omega) ?_)
      have go : ∀ t : Bool, t = smF b lma (lm A) (j + 1) → wp_X0_prepare_64 sl (nI j) (nI (lm A j)) (bI t) (nI (2 * n)) sz (lmF lma (lm A) j) pl mp fr ll ln g k rc Q := by
        intro t ht
        refine ⟨vp_in_nI (by omega) (by decide), fun x hx => ?_⟩
        subst hx
        rw [cl_nI (by omega), ht]
        exact hrc
      refine brb' (fun e => ?_) (fun e => ⟨vp_in_nI (by omega) (by decide), ?_⟩)
      · exact go false (by rw [smF, e]; rfl)
      · rw [cl_nI (by omega), lmF_n (Nat.le_refl j)]
        refine ⟨fun c => go false (by rw [smF, e, decide_eq_false c]; rfl), fun c => go true (by rw [smF, e, decide_eq_true c]; rfl)⟩
    · intro rc
      refine br_end (Nat.le_refl _) (by omega) (brb (fun e => ?_) (fun e => ?_))
      · have hs := smF_t e
        have hcn := hb hs.1
        subst hcn
        have hlt : ∀ l, l < 2 * n → lt l = lm A l := fun l hl => by
          have h1 := (hlm l hl).2
          rw [hs.2 l hl] at h1
          have a1 := (hv l hl).1
          have a2 := (hlm l hl).1.1
          exact ((nI_eq (by omega) (by omega)).mp h1).symm
        have hww : ∀ M, wvL (2 * n) lt M = wvL (2 * n) (lm A) M := wvL_congr hlt
        have hF2 : Fin0 (2 * n) (lm A) N0 := ⟨by rw [← hww]; exact hF.1, fun j hj => by rw [← hww]; exact hF.2 j hj⟩
        have hNN := hF2.uniq hN
        subst hNN
        have hsv := hSV (by omega)
        rw [show fL (2 * n) lt N0 = fL (2 * n) (lm A) N0 from by unfold fL; rw [hww]] at hsv
        rw [hww] at hRA
        exact hQ _ _ _ _ _ _ _ _ _ (fun l hl => lmF_s hl) hRA hsv
      · refine forget1 hgl hRA (fun pl' h' => ?_)
        refine find1 (by omega) hv hN (fun l hl => lmF_s hl) h' (fun sz pl mp fr ll ln h2 => ?_)
        have hsz := h2.1
        rw [hN.1] at hsz
        subst hsz
        refine survey1 (wv_of hA' h0 hn hN) (fun i hi => ?_) (fun g' k' hsv => hQ _ _ _ _ _ _ _ _ _ (fun l hl => lmF_s hl) h2 hsv)
        obtain ⟨e, he⟩ := get_ex (L := wvL (2 * n) (lm A) N) (i := i) (by rw [hN.1]; exact hi)
        rw [(h2.2.1 i e he).1, atE_get he]
  unfold wp_X0_prepare
  rw [e2n, hlc]
  refine ⟨fun c1 => ?_, fun c1 => ?_⟩
  · rw [← hlc]; exact key false (fun c => by cases c)
  · rw [← hlc]; exact key true (fun _ => (nI_eq (by omega) (by omega)).mp c1)
