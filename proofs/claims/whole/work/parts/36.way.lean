/-! PURE 17: ways; made and way of both -/
def ancL (L : List En) : Nat → Nat → Nat
  | 0, a => a
  | t + 1, a => ancL L t ((atE L a).2.1 - 1)
theorem letter1 {c : Nat} {lt : Nat → Nat} {L : List En} (hg : GL c lt L) {sz : Int32} {pl mp fr ll ln : AR} (h : RA L sz pl mp fr ll ln) {i : Nat} {Q : Int32 → Prop} : ∀ t a e, L[a]? = some e → e.2.2.2 = t + 1 + i → Q (nI (atE L (ancL L t a)).2.2.1) → wp_X0_letterAt_14 fr ll ln Q (nI a) (nI t)
  | 0, a, e, he, hd, hQ => by
    have ha := get_lt he
    have hlen := hg.len
    refine ⟨1, fun _ => ⟨vp_in_nI (by omega) (by decide), ?_⟩, fun c1 => absurd (show nI 0 ≤ 0 by decide) c1⟩
    rw [cl_nI (by omega), (h.2.1 a e he).2.2.1]
    rw [ancL, atE_get he] at hQ
    exact hQ
  | t + 1, a, e, he, hd, hQ => by
    have ha := get_lt he
    have hlen := hg.len
    rcases hg.2.2 a e he with ⟨_, c1⟩ | ⟨j, e', hj, f1, f2, f3⟩
    · omega
    · rw [ancL, atE_get he, f1, Nat.add_sub_cancel] at hQ
      obtain ⟨n, hn⟩ := letter1 hg h (i := i) t j e' f2 (by omega) hQ
      have hd2 : t + 1 < 2 ^ 31 := by
        have dl : ∀ a e, L[a]? = some e → e.2.2.2 ≤ a + 1 := by
          intro a
          induction a using Nat.strongRecOn with
          | ind a ih =>
            intro e he
            rcases hg.2.2 a e he with ⟨_, c1⟩ | ⟨j, e', hj, f1, f2, f3⟩
            · omega
            · have := ih j hj e' f2
              omega
        have := dl a e he
        omega
      refine ⟨n + 1, fun c1 => absurd c1 (nI_nle (by omega) hd2), fun _ => ⟨vp_in_nI (by omega) (by decide), ?_⟩⟩
      rw [cl_nI (by omega), (h.2.1 a e he).2.1, f1, show fI (j + 1) = nI j from rfl]
      refine ⟨fun c1 => absurd c1 (nI_pos (by omega)), fun _ => ⟨vp_in_nI (by omega) (by decide), fun x hx y hy => ?_⟩⟩
      subst hx hy
      rw [pk_m1]
      exact hn
theorem d_le {c : Nat} {lt : Nat → Nat} {L : List En} (hg : GL c lt L) : ∀ a e, L[a]? = some e → 1 ≤ e.2.2.2 ∧ e.2.2.2 ≤ a + 1 := by
  intro a
  induction a using Nat.strongRecOn with
  | ind a ih =>
    intro e he
    rcases hg.2.2 a e he with ⟨_, c1⟩ | ⟨j, e', hj, f1, f2, f3⟩
    · omega
    · have := ih j hj e' f2
      omega
/-- the reference counts a way's letters -/
theorem many8 {c : Nat} {lt : Nat → Nat} {L : List En} (hg : GL c lt L) {wd : Int32} {wv im cf cb : AR} (h : RB L wd wv im cf cb) {st : AR} {x3 x4 : Int32} {Q : Int32 → Int32 → AR → AR → AR → AR → Prop} {T : Nat} (hE : ∀ rc, wb_X8_way_56 st x3 x4 wd wv im cf cb Q rc (nI T) (-6)) : ∀ (a : Nat) (e : En) (k : Nat), L[a]? = some e → k + e.2.2.2 = T → ∃ n, lpW2 (wb_X8_way_56 st x3 x4 wd wv im cf cb Q) n (nI k) (nI e.1) := by
  intro a
  induction a using Nat.strongRecOn with
  | ind a ih =>
    intro e k he hk
    have hv := (hg.1 e (List.mem_iff_getElem?.mpr ⟨a, he⟩)).1
    have hvl := hv.1
    have hb := h.2.1 a e he
    rcases hg.2.2 a e he with ⟨c0, c1⟩ | ⟨j, e', hj, f1, f2, f3⟩
    · refine ⟨2, fun c2 => absurd c2 (nI_pos (by omega)), fun _ x hx => ⟨vp_in_nI hvl (by decide), fun y hy => ?_⟩⟩
      rw [cl_nI (by omega), hb.2.2.2.1 c0] at hy
      subst hx hy
      rw [nI_1, show k + 1 = T by omega]
      exact hE _
    · obtain ⟨n, hn⟩ := ih j hj e' (k + 1) f2 (by omega)
      refine ⟨n + 1, fun c2 => absurd c2 (nI_pos (by omega)), fun _ x hx => ⟨vp_in_nI hvl (by decide), fun y hy => ?_⟩⟩
      rw [cl_nI (by omega), hb.2.2.2.2 j e' f1 f2] at hy
      subst hx hy
      rw [nI_1]
      exact hn
theorem walk8 {c : Nat} {lt : Nat → Nat} {L : List En} (hg : GL c lt L) {wd : Int32} {wv im cf cb : AR} (h : RB L wd wv im cf cb) {st : AR} {i : Nat} (hi : i < 2000) {Q : Int32 → Int32 → AR → AR → AR → AR → Prop} : ∀ (t a : Nat) (e : En), L[a]? = some e → e.2.2.2 = t + 1 + i → Q (nI (atE L (ancL L t a)).2.2.1) wd wv im cf cb → wp_X8_way_109 st (nI i) wd wv im cf cb Q (nI e.1) (nI (t + i))
  | 0, a, e, he, hd, hQ => by
    have hv := (hg.1 e (List.mem_iff_getElem?.mpr ⟨a, he⟩)).1
    have hvl := hv.1
    rw [Nat.zero_add]
    refine ⟨1, fun _ => ⟨vp_in_nI hvl (by decide), ?_⟩, fun c1 => absurd (nI_le (Nat.le_refl i) (by omega)) c1⟩
    rw [cl_nI (by omega), (h.2.1 a e he).2.2.1]
    rw [ancL, atE_get he] at hQ
    exact hQ
  | t + 1, a, e, he, hd, hQ => by
    have hv := (hg.1 e (List.mem_iff_getElem?.mpr ⟨a, he⟩)).1
    have hvl := hv.1
    have ha := get_lt he
    have hlen := hg.len
    have hdl := d_le hg a e he
    rcases hg.2.2 a e he with ⟨_, c1⟩ | ⟨j, e', hj, f1, f2, f3⟩
    · omega
    · rw [ancL, atE_get he, f1, Nat.add_sub_cancel] at hQ
      obtain ⟨n, hn⟩ := walk8 hg h hi t j e' f2 (by omega) hQ
      refine ⟨n + 1, fun c1 => absurd c1 (nI_ge (by omega) (by omega)), fun _ => ⟨vp_in_nI hvl (by decide), fun x hx y hy => ?_⟩⟩
      rw [cl_nI (by omega), (h.2.1 a e he).2.2.2.2 j e' f1 f2] at hx
      subst hx hy
      rw [show t + 1 + i = t + i + 1 by omega, pk_m1]
      exact hn
theorem lim13 (x : Int32) : (x < 1 ∨ 3 < x) ∨ ∃ n, 0 < n ∧ n ≤ 3 ∧ x = nI n := by
  by_cases h1 : x < 1
  · exact Or.inl (Or.inl h1)
  · by_cases h3 : 3 < x
    · exact Or.inl (Or.inr h3)
    · obtain ⟨k, hk, rfl⟩ := inN_t (x := x) (n := 3) (by
        refine decide_eq_true ⟨fun c => h1 ?_, h3⟩
        have h1' : (1 : Int32).toInt = 1 := by decide
        rw [Int32.lt_iff_toInt_lt] at c ⊢
        have h0' : (0 : Int32).toInt = 0 := by decide
        omega) (by decide)
      refine Or.inr ⟨k, ?_, hk, rfl⟩
      rcases Nat.eq_zero_or_pos k with rfl | h
      · exact absurd (show nI 0 < 1 by decide) h1
      · exact h
theorem MI_of {A : Nat → Nat} {n N : Nat} (hA : ∀ i, i < 6 → VM (A i)) (hn : n ≤ 3) (hN : Fin0 (2 * n) (lm A) N) {sz : Int32} {lma pl mp fr ll ln g k : AR} (h1 : ∀ l, l < 2 * n → lma l = nI (lm A l)) (h2 : RA (wvL (2 * n) (lm A) N) sz pl mp fr ll ln) (h3 : SV N (fL (2 * n) (lm A) N) g k) : MI (nI (2 * n)) sz lma pl mp fr ll ln g k :=
  ⟨2 * n, lm A, N, by omega, rfl, fun l hl => ⟨lm_VM hA (by omega), h1 l hl⟩, hN, h2, fun _ => h3⟩
theorem MI_zero : MI 0 0 (fun _ => 0) (fun _ => 0) (fun _ => 0) (fun _ => 0) (fun _ => 0) (fun _ => 0) (fun _ => 0) (fun _ => 0) :=
  ⟨0, fun _ => 0, 0, by omega, rfl, fun l hl => by omega, ⟨rfl, fun k hk => by omega⟩, ⟨rfl, (fun i e h => by cases h), fun m _ _ => rfl⟩, fun h => by omega⟩
section MADEOP
variable {sl : AR} {wl : Nat → AR} {wn rt : AR} {rl : Nat → AR} {rn st : AR}
theorem made_ok (h : RSt sl wl wn rt rl rn st) {lc sz : Int32} {lma pl mp fr ll ln g k : AR} (hI : MI lc sz lma pl mp fr ll ln g k) {wd : Int32} {wv im cf cb dof rof isc : AR} (y0 y1 : Int32) {R : Int32 → Int32 → AR → AR → AR → AR → AR → AR → AR → AR → Int32 → AR → AR → AR → AR → AR → AR → AR → Prop} (hR : ∀ lc sz lma pl mp fr ll ln g k wd wv im cf cb dof rof isc, MI lc sz lma pl mp fr ll ln g k → R lc sz lma pl mp fr ll ln g k wd wv im cf cb dof rof isc) : wp_X7_made y0 y1 sl lc sz lma pl mp fr ll ln g k (fun r1 lc sz lma pl mp fr ll ln g k => wp_X8_made y0 y1 wd st wv im cf cb dof rof isc (fun r2 wd wv im cf cb dof rof isc => r1 = r2 ∧ R lc sz lma pl mp fr ll ln g k wd wv im cf cb dof rof isc)) := by
  have out : ∀ b : Bool, (b = false) → bI (decide (¬ y0 < 1 ∧ ¬ 3 < y0) && inN y1 5) = bI b → wp_X8_made y0 y1 wd st wv im cf cb dof rof isc (fun r2 wd wv im cf cb dof rof isc => (-2 : Int32) = r2 ∧ R lc sz lma pl mp fr ll ln g k wd wv im cf cb dof rof isc) := by
    intro b hb e
    subst hb
    refine in_wp (brb' (fun e1 => ⟨rfl, hR _ _ _ _ _ _ _ _ _ _ _ _ _ _ _ _ _ _ hI⟩) (fun e1 => in_wp (hi := 5) (brb (fun e2 => ?_) (fun e2 => ⟨rfl, hR _ _ _ _ _ _ _ _ _ _ _ _ _ _ _ _ _ _ hI⟩))))
    exfalso
    rw [e1, show inN y1 5 = true from e2] at e
    exact absurd e (by decide)
  rcases lim13 y0 with hy | ⟨n, h0, hn, rfl⟩
  · have hf : decide (¬ y0 < 1 ∧ ¬ 3 < y0) = false := decide_eq_false fun c => by
      rcases hy with hy | hy
      · exact c.1 hy
      · exact c.2 hy
    have := out false rfl (by rw [hf]; rfl)
    unfold wp_X7_made
    refine ⟨fun _ => this, fun c1 => ⟨fun _ => this, fun c2 => ?_⟩⟩
    rcases hy with hy | hy
    · exact absurd hy c1
    · exact absurd hy c2
  · have hn1 : ¬ nI n < 1 := nI_nlt (b := 1) (by omega) (by omega)
    have hn3 : ¬ 3 < nI n := nI_nlt (a := 3) (by omega) (by decide)
    cases e5 : inN y1 5
    · have := out false rfl (by rw [e5, Bool.and_false])
      unfold wp_X7_made
      refine ⟨fun c => absurd c hn1, fun _ => ⟨fun c => absurd c hn3, fun _ => ⟨fun _ => this, fun c1 => ⟨fun c2 => ?_, fun _ => this⟩⟩⟩⟩
      exfalso
      have : inN y1 5 = true := decide_eq_true ⟨c1, fun c3 => by
        rw [Int32.lt_iff_toInt_lt] at c3
        rw [Int32.le_iff_toInt_le] at c2
        have h5 : (nI 5).toInt = (5 : Int32).toInt := rfl
        omega⟩
      rw [e5] at this
      cases this
    · obtain ⟨j, hj, rfl⟩ := inN_t e5 (by decide)
      obtain ⟨A, hA⟩ := h.nums
      have hA' : ∀ i, i < 6 → VM (A i) := fun i hi => (hA i hi).1
      obtain ⟨N, hN⟩ := fin_ex (c := 2 * n) (lt := lm A) (by omega) (fun l hl => lm_VM hA' (by omega))
      have hw := wv_of hA' h0 hn hN
      have hGle : ∀ s, gN N (fL (2 * n) (lm A) N) s ≤ 1546 := fun s => Nat.le_trans (gN_le _ _ s) hw.2.1
      unfold wp_X7_made
      refine ⟨fun c => absurd c hn1, fun _ => ⟨fun c => absurd c hn3, fun _ => ⟨fun c => absurd c (nI_pos (by omega)), fun _ => ⟨fun _ => ?_, fun c => absurd (nI_le (b := 5) hj (by decide)) c⟩⟩⟩⟩
      refine prepare1 (fun i hi => ⟨(hA i hi).1, (hA i hi).2.1⟩) h0 hn hN hI (fun sz lma pl mp fr ll ln g k hl hRA hSV => ?_)
      have hMI := MI_of hA' hn hN hl hRA hSV
      have hsz := hRA.1
      rw [hN.1] at hsz
      subst hsz
      have hmp : ∀ i, i < N → mp i = nI (fL (2 * n) (lm A) N i) := fun i hi => by
        obtain ⟨e, he⟩ := get_ex (L := wvL (2 * n) (lm A) N) (i := i) (by rw [hN.1]; exact hi)
        rw [(hRA.2.1 i e he).1]
        show _ = nI (atE _ i).1
        rw [atE_get he]
      obtain ⟨hg, kd, hKd, hkk⟩ := hSV
      have fin : ∀ r : Int32, (∀ (wd : Int32) (wv dof rof : AR), wd = nI N → (∀ i, i < N → wv i = nI (fL (2 * n) (lm A) N i)) → (∀ i, i < N → dof i = nI (domN (fL (2 * n) (lm A) N i)) ∧ rof i = nI (domN (invN (fL (2 * n) (lm A) N i)))) → ∀ im cf cb : AR, ((nI j = 0 → r = nI N) ∧ (nI j = 1 → r = nI (cn (fun k => idemN (fL (2 * n) (lm A) N k)) N)) ∧ (nI j = 2 → r = nI (cn (fun k => idemN (fL (2 * n) (lm A) N k) && lsB N (fL (2 * n) (lm A) N) (fL (2 * n) (lm A) N k) N) N)) ∧ (nI j = 3 → r = nI (mxN (fun k => if idemN (fL (2 * n) (lm A) N k) = true then grp N (fL (2 * n) (lm A) N) (fL (2 * n) (lm A) N k) else 0) N)) ∧ (nI j = 4 → r = bI (clS N (fL (2 * n) (lm A) N) N)) ∧ (¬ nI j = 0 → ¬ nI j = 1 → ¬ nI j = 2 → ¬ nI j = 3 → ¬ nI j = 4 → r = nI (cn (fsB fun i => thenN (isA (c8N (fL (2 * n) (lm A) N) N)) (fL (2 * n) (lm A) N i)) N)))) → wp_X8_made (nI n) (nI j) wd st wv im cf cb dof rof isc (fun r2 wd wv im cf cb dof rof isc => r = r2 ∧ R (nI (2 * n)) (nI N) lma pl mp fr ll ln g k wd wv im cf cb dof rof isc) := by
        intro r hr
        refine in_wp (brb' (fun e1 => ?_) (fun e1 => in_wp (hi := 5) (brb (fun e2 => ?_) (fun e2 => ?_))))
        · exact absurd (decide_eq_true (show ¬ nI n < 1 ∧ ¬ 3 < nI n from ⟨hn1, hn3⟩)) (by rw [e1]; decide)
        · refine lay8 (fun i hi => ⟨(hA i hi).1, (hA i hi).2.2⟩) hn rfl hN (fun wd wv im cf cb hRB => ?_)
          have hwd := hRB.1
          rw [hN.1] at hwd
          subst hwd
          have hwv : ∀ i, i < N → wv i = nI (fL (2 * n) (lm A) N i) := fun i hi => by
            obtain ⟨e, he⟩ := get_ex (L := wvL (2 * n) (lm A) N) (i := i) (by rw [hN.1]; exact hi)
            rw [(hRB.2.1 i e he).1]
            show _ = nI (atE _ i).1
            rw [atE_get he]
          refine ends8 hw hwv (fun dof rof hdr => ?_)
          have hr' := hr (nI N) wv dof rof rfl hwv hdr im cf cb
          refine ⟨fun c => ⟨hr'.1 c, hR _ _ _ _ _ _ _ _ _ _ _ _ _ _ _ _ _ _ hMI⟩, fun c => idems8 hw hwv ⟨hr'.2.1 c, hR _ _ _ _ _ _ _ _ _ _ _ _ _ _ _ _ _ _ hMI⟩, fun c => kinds8 hw hwv hdr ⟨hr'.2.2.1 c, hR _ _ _ _ _ _ _ _ _ _ _ _ _ _ _ _ _ _ hMI⟩, fun c => great8 hw hwv hdr ⟨hr'.2.2.2.1 c, hR _ _ _ _ _ _ _ _ _ _ _ _ _ _ _ _ _ _ hMI⟩, fun c => clean8 hw hwv (brb' (fun e => ⟨by rw [hr'.2.2.2.2.1 c, e]; rfl, hR _ _ _ _ _ _ _ _ _ _ _ _ _ _ _ _ _ _ hMI⟩) (fun e => ⟨by rw [hr'.2.2.2.2.1 c, e]; rfl, hR _ _ _ _ _ _ _ _ _ _ _ _ _ _ _ _ _ _ hMI⟩)), fun c0 c1 c2 c3 c4 => image8g hw hwv (fun isc => ⟨hr'.2.2.2.2.2 c0 c1 c2 c3 c4, hR _ _ _ _ _ _ _ _ _ _ _ _ _ _ _ _ _ _ hMI⟩)⟩
        · exact absurd (show inN (nI j) 5 = false from e2) (by rw [inN_nI hj (by decide)]; decide)
      have ne : ∀ a b : Int32, a ≠ b → nI j = a → nI j = b → False := fun a b hab h1 h2 => hab (by rw [← h1, h2])
      refine ⟨fun c => fin _ ?_, fun c => idems1 hg hGle (fin _ ?_), fun c => kinds1 hg hGle (fun s hs => ⟨hkk s hs, (hKd.1 s hs).1⟩) (fin _ ?_), fun c => great1 hg hGle (fin _ ?_), fun c => clean1 hw hmp hg (oneIf_wp (fin _ ?_)), fun c0 c1 c2 c3 c4 => image1c hg hGle (fin _ ?_)⟩
      · intro wd wv dof rof e1 e2 e3 im cf cb
        exact ⟨fun _ => rfl, fun c' => (ne 0 1 (by decide) c c').elim, fun c' => (ne 0 2 (by decide) c c').elim, fun c' => (ne 0 3 (by decide) c c').elim, fun c' => (ne 0 4 (by decide) c c').elim, fun c' => absurd c c'⟩
      · intro wd wv dof rof e1 e2 e3 im cf cb
        exact ⟨fun c' => (ne 1 0 (by decide) c c').elim, fun c' => by rw [same_idem hw], fun c' => (ne 1 2 (by decide) c c').elim, fun c' => (ne 1 3 (by decide) c c').elim, fun c' => (ne 1 4 (by decide) c c').elim, fun _ c' => absurd c c'⟩
      · intro wd wv dof rof e1 e2 e3 im cf cb
        exact ⟨fun c' => (ne 2 0 (by decide) c c').elim, fun c' => (ne 2 1 (by decide) c c').elim, fun c' => by rw [same_kinds hw hKd], fun c' => (ne 2 3 (by decide) c c').elim, fun c' => (ne 2 4 (by decide) c c').elim, fun _ _ c' => absurd c c'⟩
      · intro wd wv dof rof e1 e2 e3 im cf cb
        exact ⟨fun c' => (ne 3 0 (by decide) c c').elim, fun c' => (ne 3 1 (by decide) c c').elim, fun c' => (ne 3 2 (by decide) c c').elim, fun c' => by rw [same_great hw], fun c' => (ne 3 4 (by decide) c c').elim, fun _ _ _ c' => absurd c c'⟩
      · intro wd wv dof rof e1 e2 e3 im cf cb
        exact ⟨fun c' => (ne 4 0 (by decide) c c').elim, fun c' => (ne 4 1 (by decide) c c').elim, fun c' => (ne 4 2 (by decide) c c').elim, fun c' => (ne 4 3 (by decide) c c').elim, fun c' => rfl, fun _ _ _ _ c' => absurd c c'⟩
      · intro wd wv dof rof e1 e2 e3 im cf cb
        exact ⟨fun c' => absurd c' c0, fun c' => absurd c' c1, fun c' => absurd c' c2, fun c' => absurd c' c3, fun c' => absurd c' c4, fun _ _ _ _ _ => by rw [same_core hw, same_core_count hw]⟩
theorem way_ok (h : RSt sl wl wn rt rl rn st) {lc sz : Int32} {lma pl mp fr ll ln g k : AR} (hI : MI lc sz lma pl mp fr ll ln g k) {wd : Int32} {wv im cf cb : AR} (y0 y1 y2 : Int32) {R : Int32 → Int32 → AR → AR → AR → AR → AR → AR → AR → AR → Int32 → AR → AR → AR → AR → Prop} (hR : ∀ lc sz lma pl mp fr ll ln g k wd wv im cf cb, MI lc sz lma pl mp fr ll ln g k → R lc sz lma pl mp fr ll ln g k wd wv im cf cb) : wp_X7_way y0 y1 y2 sl lc sz lma pl mp fr ll ln g k (fun r1 lc sz lma pl mp fr ll ln g k => wp_X8_way y0 y1 y2 wd st wv im cf cb (fun r2 wd wv im cf cb => r1 = r2 ∧ R lc sz lma pl mp fr ll ln g k wd wv im cf cb)) := by
  rcases lim13 y0 with hy | ⟨n, h0, hn, rfl⟩
  · have hf : decide (¬ y0 < 1 ∧ ¬ 3 < y0) = false := decide_eq_false fun c => by
      rcases hy with hy | hy
      · exact c.1 hy
      · exact c.2 hy
    have this : wp_X8_way y0 y1 y2 wd st wv im cf cb (fun r2 wd wv im cf cb => (-2 : Int32) = r2 ∧ R lc sz lma pl mp fr ll ln g k wd wv im cf cb) := by
      refine in_wp (brb (fun e1 => ?_) (fun e1 => ⟨rfl, hR _ _ _ _ _ _ _ _ _ _ _ _ _ _ _ hI⟩))
      rw [hf] at e1
      cases e1
    unfold wp_X7_way
    refine ⟨fun _ => this, fun c1 => ⟨fun c2 => ?_, fun _ => this⟩⟩
    exfalso
    rcases hy with hy | hy
    · exact absurd hy c1
    · rw [Int32.lt_iff_toInt_lt] at hy
      rw [Int32.le_iff_toInt_le] at c2
      omega
  · have hn1 : ¬ nI n < 1 := nI_nlt (b := 1) (by omega) (by omega)
    have hn3 : ¬ 3 < nI n := nI_nlt (a := 3) (by omega) (by decide)
    have ht : decide (¬ nI n < 1 ∧ ¬ 3 < nI n) = true := decide_eq_true ⟨hn1, hn3⟩
    unfold wp_X7_way
    refine ⟨fun c => absurd c hn1, fun _ => ⟨fun _ => slot7 (brb (fun es => ?_) (fun es => ?_)), fun c => absurd (nI_le (b := 3) hn (by decide)) c⟩⟩
    · obtain ⟨j, hj, rfl⟩ := inN_t es (by decide)
      obtain ⟨A, hA⟩ := h.nums
      have hA' : ∀ i, i < 6 → VM (A i) := fun i hi => (hA i hi).1
      obtain ⟨N, hN⟩ := fin_ex (c := 2 * n) (lt := lm A) (by omega) (fun l hl => lm_VM hA' (by omega))
      have hgl : GL (2 * n) (lm A) (wvL (2 * n) (lm A) N) := GL.wv (fun l hl => lm_VM hA' (by omega)) N
      have hlen := hgl.len
      refine prepare1 (fun i hi => ⟨(hA i hi).1, (hA i hi).2.1⟩) h0 hn hN hI (fun sz lma pl mp fr ll ln g k hl hRA hSV => ?_)
      have hMI := MI_of hA' hn hN hl hRA hSV
      have hvj := (hA' j (by omega)).1
      have fin : ∀ r : Int32, (∀ wd wv im cf cb, RB (wvL (2 * n) (lm A) N) wd wv im cf cb → (¬ im (A j) = 0 → wp_X8_way_56 st y2 (nI (A j)) wd wv im cf cb (fun r2 wd wv im cf cb => r = r2 ∧ R (nI (2 * n)) sz lma pl mp fr ll ln g k wd wv im cf cb) 0 (nI (A j))) ∧ (im (A j) = 0 → r = -6)) → wp_X8_way (nI n) (nI j) y2 wd st wv im cf cb (fun r2 wd wv im cf cb => r = r2 ∧ R (nI (2 * n)) sz lma pl mp fr ll ln g k wd wv im cf cb) := by
        intro r hr
        refine in_wp (brb (fun e1 => slot8 (brb (fun e2 => ?_) (fun e2 => ?_))) (fun e1 => ?_))
        · refine lay8 (fun i hi => ⟨(hA i hi).1, (hA i hi).2.2⟩) hn rfl hN (fun wd wv im cf cb hRB => ?_)
          have hr' := hr wd wv im cf cb hRB
          rw [z0]
          refine ⟨vp_in_nI (by omega) (by decide), fun x hx => ?_⟩
          rw [cl_nI (by omega), (hA j (by omega)).2.2] at hx
          subst hx
          rw [cl_nI (by omega)]
          exact ⟨vp_in_nI hvj (by decide), hr'.1, fun c => ⟨hr'.2 c, hR _ _ _ _ _ _ _ _ _ _ _ _ _ _ _ hMI⟩⟩
        · rw [inN_nI hj (by decide)] at e2
          cases e2
        · rw [ht] at e1
          cases e1
      refine ⟨vp_in_nI (by omega) (by decide), ?_⟩
      rw [cl_nI (by omega), (hA j (by omega)).2.1]
      refine ⟨vp_in_nI hvj (by decide), ?_⟩
      rw [cl_nI (by omega)]
      cases hm : hasM (wvL (2 * n) (lm A) N) (A j)
      · rw [hRA.2.2 _ hvj hm]
        refine ⟨fun c => absurd c (by decide), fun _ => fin _ (fun wd wv im cf cb hRB => ⟨fun c => absurd (hRB.2.2 _ hvj hm) c, fun _ => rfl⟩)⟩
      · obtain ⟨a, e, ha, he⟩ := hasM_get.mp hm
        have hal := get_lt ha
        have hdl := d_le hgl a e ha
        have hra := hRA.2.1 a e ha
        rw [he] at hra
        rw [hra.2.2.2.2, nI_pred]
        refine ⟨fun _ => ⟨vp_in_nI (by omega) (by decide), fun x hx => ?_⟩, fun c => absurd (nn_nI (by omega)) c⟩
        rw [cl_nI (by omega), hra.2.2.2.1] at hx
        subst hx
        have big : ∀ r : Int32, (∀ (wd : Int32) (wv im cf cb : AR), RB (wvL (2 * n) (lm A) N) wd wv im cf cb → ∀ rc, wb_X8_way_56 st y2 (nI (A j)) wd wv im cf cb (fun r2 wd wv im cf cb => r = r2 ∧ R (nI (2 * n)) sz lma pl mp fr ll ln g k wd wv im cf cb) rc (nI e.2.2.2) (-6)) → wp_X8_way (nI n) (nI j) y2 wd st wv im cf cb (fun r2 wd wv im cf cb => r = r2 ∧ R (nI (2 * n)) sz lma pl mp fr ll ln g k wd wv im cf cb) := by
          intro r hr
          refine fin r (fun wd wv im cf cb hRB => ⟨fun _ => ?_, fun c => ?_⟩)
          · have := many8 hgl hRB (hr wd wv im cf cb hRB) a e 0 ha (by omega)
            rw [he] at this
            exact this
          · have := (hRB.2.1 a e ha).2.1
            rw [he, c] at this
            exact absurd this (by decide)
        have esub : nI e.2.2.2 - 1 = nI (e.2.2.2 - 1) := pk_sub (b := 1) hdl.1
        refine ⟨fun c1 => ⟨fun c2 => ?_, fun c2 => ⟨fun c3 => ?_, fun c3 => ?_⟩⟩, fun c1 => ?_⟩
        · refine big (-6) (fun wd wv im cf cb hRB rc => ⟨fun _ => ⟨fun _ => in_wp (brb (fun e1 => ?_) (fun _ => ⟨rfl, hR _ _ _ _ _ _ _ _ _ _ _ _ _ _ _ hMI⟩)), fun c => absurd c c1⟩, fun c => absurd (show (-6 : Int32) < 0 by decide) c⟩)
          exact absurd c2 (of_decide_eq_true e1).1
        · obtain ⟨i, hi31, rfl⟩ := nI_of c2
          have hi : i < e.2.2.2 := (nI_ltI hi31 (by omega)).mp c3
          refine ⟨vp_in_nI (by omega) (by decide), fun x hx => ?_⟩
          rw [cl_nI (by omega), hra.2.2.2.1, esub, pk_sub (by omega)] at hx
          subst hx
          refine letter1 hgl hRA (i := i) (e.2.2.2 - 1 - i) a e ha (by omega) ?_
          refine big _ (fun wd wv im cf cb hRB rc => ⟨fun _ => ⟨fun _ => ?_, fun c => absurd c c1⟩, fun c => absurd (show (-6 : Int32) < 0 by decide) c⟩)
          rw [esub]
          refine in_wp (brb (fun e1 x hx => ?_) (fun e1 => ?_))
          · subst hx
            have := walk8 hgl hRB (st := st) (i := i) (by omega) (Q := fun r2 wd wv im cf cb => nI (atE (wvL (2 * n) (lm A) N) (ancL (wvL (2 * n) (lm A) N) (e.2.2.2 - 1 - i) a)).2.2.1 = r2 ∧ R (nI (2 * n)) sz lma pl mp fr ll ln g k wd wv im cf cb) (e.2.2.2 - 1 - i) a e ha (by omega) ⟨rfl, hR _ _ _ _ _ _ _ _ _ _ _ _ _ _ _ hMI⟩
            rw [he, show e.2.2.2 - 1 - i + i = e.2.2.2 - 1 by omega] at this
            exact this
          · exact absurd (decide_eq_true (show ¬ nI i < 0 ∧ ¬ nI (e.2.2.2 - 1) < nI i from ⟨c2, nI_nlt (by omega) (by omega)⟩)) (by rw [e1]; decide)
        · refine big (-6) (fun wd wv im cf cb hRB rc => ⟨fun _ => ⟨fun _ => ?_, fun c => absurd c c1⟩, fun c => absurd (show (-6 : Int32) < 0 by decide) c⟩)
          rw [esub]
          refine in_wp (brb (fun e1 => ?_) (fun _ => ⟨rfl, hR _ _ _ _ _ _ _ _ _ _ _ _ _ _ _ hMI⟩))
          exfalso
          have e1' := of_decide_eq_true e1
          obtain ⟨i, hi31, rfl⟩ := nI_of c2
          have h1 : ¬ i < e.2.2.2 := fun c => c3 (nI_lt c (by omega))
          exact e1'.2 (nI_lt (by omega) hi31)
        · exact big _ (fun wd wv im cf cb hRB rc => ⟨fun _ => ⟨fun c => absurd c1 c, fun _ => ⟨rfl, hR _ _ _ _ _ _ _ _ _ _ _ _ _ _ _ hMI⟩⟩, fun c => absurd (show (-6 : Int32) < 0 by decide) c⟩)
    · refine in_wp (brb (fun e1 => slot8 (brb (fun e2 => ?_) (fun e2 => ⟨rfl, hR _ _ _ _ _ _ _ _ _ _ _ _ _ _ _ hI⟩))) (fun e1 => ?_))
      · rw [es] at e2; cases e2
      · rw [ht] at e1; cases e1
end MADEOP
