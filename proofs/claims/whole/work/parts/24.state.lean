/-! PURE 5: the state's relation; the plain calls -/
abbrev AR : Type := Nat → Int32
/-- a word f of length c beside a word g of length d -/
def WR (f : AR) (c : Int32) (g : AR) (d : Int32) : Prop := ∃ n : Nat, n ≤ 12 ∧ c = nI n ∧ d = nI n ∧ ∀ k, k < n → ∃ l, l < 6 ∧ f k = nI l ∧ g k = nI l
def RSt (sl : AR) (wl : Nat → AR) (wn rt : AR) (rl : Nat → AR) (rn st : AR) : Prop :=
  (∀ i, i < 6 → ∃ a, VM a ∧ sl i = nI a ∧ st i = nI a) ∧ (∀ w, w < 4 → WR (wl w) (wn w) (fun k => st (10 + 12 * w + k)) (st (6 + w))) ∧ (∀ r, r < 2 → isB (rt r) ∧ st (58 + r) = rt r) ∧ (∀ d, d < 4 → WR (rl d) (rn d) (fun k => st (64 + 12 * d + k)) (st (60 + d)))
theorem upd_s {f : AR} {k : Nat} {x : Int32} : upd f k x k = x := pk_us
theorem upd_n {f : AR} {k j : Nat} {x : Int32} (h : j ≠ k) : upd f k x j = f j := pk_un h
theorem WR.congr {f f2 g g2 : AR} {c c2 d d2 : Int32} (h : WR f c g d) (hf : ∀ k, k < 12 → f2 k = f k) (hg : ∀ k, k < 12 → g2 k = g k) (hc : c2 = c) (hd : d2 = d) : WR f2 c2 g2 d2 := by
  obtain ⟨n, h1, h2, h3, h4⟩ := h
  refine ⟨n, h1, hc.trans h2, hd.trans h3, fun k hk => ?_⟩
  obtain ⟨l, e1, e2, e3⟩ := h4 k hk
  exact ⟨l, e1, (hf k (by omega)).trans e2, (hg k (by omega)).trans e3⟩
theorem RSt.slot {sl : AR} {wl : Nat → AR} {wn rt : AR} {rl : Nat → AR} {rn st : AR} (h : RSt sl wl wn rt rl rn st) {k a : Nat} (hk : k < 6) (ha : VM a) : RSt (upd sl k (nI a)) wl wn rt rl rn (upd st k (nI a)) := by
  obtain ⟨h1, h2, h3, h4⟩ := h
  refine ⟨fun i hi => ?_, fun w hw => ?_, fun r hr => ?_, fun d hd => ?_⟩
  · by_cases e : i = k
    · subst e
      exact ⟨a, ha, upd_s, upd_s⟩
    · rw [upd_n e, upd_n e]
      exact h1 i hi
  · exact (h2 w hw).congr (fun _ _ => rfl) (fun j hj => upd_n (by omega)) rfl (upd_n (by omega))
  · rw [upd_n (by omega)]
    exact h3 r hr
  · exact (h4 d hd).congr (fun _ _ => rfl) (fun j hj => upd_n (by omega)) rfl (upd_n (by omega))
theorem brb {b : Bool} {A B : Prop} (ht : b = true → A) (hf : b = false → B) : (¬ bI b = 0 → A) ∧ (bI b = 0 → B) := ⟨fun c => ht ((bI_n0 b).mp c), fun c => hf ((bI_0 b).mp c)⟩
theorem brb' {b : Bool} {A B : Prop} (hf : b = false → B) (ht : b = true → A) : (bI b = 0 → B) ∧ (¬ bI b = 0 → A) := ⟨fun c => hf ((bI_0 b).mp c), fun c => ht ((bI_n0 b).mp c)⟩
theorem lim7 {x : Int32} {n : Nat} (hn : n < 2 ^ 31 - 1) {A B : Prop} (hf : inN x n = false → B) (ht : inN x n = true → A) : (x < 0 → B) ∧ (¬ x < 0 → (nI (n + 1) ≤ x → B) ∧ (¬ nI (n + 1) ≤ x → A)) := by
  refine ⟨fun c => hf (by simp [inN, c]), fun c => ⟨fun c2 => hf ?_, fun c2 => ht ?_⟩⟩
  · have : nI n < x := Int32.lt_of_lt_of_le (nI_lt (by omega) (by omega)) c2
    simp [inN, this]
  · obtain ⟨k, hk, rfl⟩ := nI_of c
    refine inN_nI (Nat.le_of_not_lt fun hc => c2 (nI_le hc hk)) (by omega)
theorem slot7 {x : Int32} {Q : Int32 → Prop} (h : Q (bI (inN x 5))) : wp_X7_isSlot x Q :=
  lim7 (n := 5) (by decide) (fun e => by rw [e] at h; exact h) (fun e => by rw [e] at h; exact h)
theorem word7 {x : Int32} {Q : Int32 → Prop} (h : Q (bI (inN x 3))) : wp_X7_isWord x Q :=
  lim7 (n := 3) (by decide) (fun e => by rw [e] at h; exact h) (fun e => by rw [e] at h; exact h)
theorem oneIf_wp {b : Bool} {Q : Int32 → Prop} (h : Q (bI b)) : wp_X7_oneIf (bI b) Q := brb' (fun e => by rw [e] at h; exact h) (fun e => by rw [e] at h; exact h)
theorem z0 (k : Nat) : (0 : Int32) + nI k = nI k := by rw [i0, nI_add, Nat.zero_add]
section OPS
variable {sl : AR} {wl : Nat → AR} {wn rt : AR} {rl : Nat → AR} {rn st : AR}
theorem set_ok (h : RSt sl wl wn rt rl rn st) (y0 y1 : Int32) {R : AR → AR → Prop} (hR : ∀ sl' st', RSt sl' wl wn rt rl rn st' → R sl' st') : wp_X7_set y0 y1 sl (fun r1 sl' => wp_X8_set y0 y1 st (fun r2 st' => r1 = r2 ∧ R sl' st')) := by
  refine slot7 (brb (fun e => ?_) (fun e => ?_))
  · obtain ⟨k, hk, rfl⟩ := inN_t e (by decide)
    refine isMap1 (brb (fun e2 => ?_) (fun e2 => ?_))
    · have ev : ∃ a, VM a ∧ y1 = nI a := by
        simp only [isMapI, Bool.and_eq_true] at e2
        obtain ⟨a, ha, rfl⟩ := inN_t e2.1 (by decide)
        rw [cl_nI (by omega)] at e2
        exact ⟨a, VM.of (by omega) e2.2, rfl⟩
      obtain ⟨a, hv, rfl⟩ := ev
      refine ⟨vp_in_nI (by omega) (by decide), fun x ex => ⟨vp_in_nI (by omega) (by decide), ?_⟩⟩
      subst ex
      refine slot8 (brb (fun _ => isMap8 (brb (fun _ => ?_) (fun e3 => by rw [e2] at e3; cases e3))) (fun e3 => by rw [e] at e3; cases e3))
      rw [z0, cl_nI (by omega)]
      refine ⟨vp_in_nI (by omega) (by decide), fun x ex => ⟨vp_in_nI (by omega) (by decide), ?_, hR _ _ (h.slot (by omega) hv)⟩⟩
      subst ex
      obtain ⟨b, -, e1, e2⟩ := h.1 k (by omega)
      rw [e1, e2]
    · exact slot8 (brb (fun _ => isMap8 (brb (fun e3 => by rw [e2] at e3; cases e3) (fun _ => ⟨rfl, hR _ _ h⟩))) (fun e3 => by rw [e] at e3; cases e3))
  · exact slot8 (brb (fun e3 => by rw [e] at e3; cases e3) (fun _ => ⟨rfl, hR _ _ h⟩))
theorem of_ok (h : RSt sl wl wn rt rl rn st) (y0 y1 : Int32) {R : Prop} (hR : R) : wp_X7_of y0 y1 sl (fun r1 => wp_X8_of y0 y1 st (fun r2 => r1 = r2 ∧ R)) := by
  refine slot7 (brb (fun e => ?_) (fun e => ?_))
  · obtain ⟨k, hk, rfl⟩ := inN_t e (by decide)
    obtain ⟨a, hv, e1, e2⟩ := h.1 k (by omega)
    obtain ⟨t, ht, t1, t2⟩ := trn_ex a hv.1 hv.isMap
    refine ⟨vp_in_nI (by omega) (by decide), fun x ex => ?_⟩
    rw [cl_nI (by omega), e1] at ex
    subst ex
    have inner : ∀ r1 : Int32, ((y1 = 0 → r1 = nI a) ∧ (y1 = 1 → r1 = nI (rankN a)) ∧ (y1 = 2 → r1 = bI (idemN a)) ∧ (y1 = 3 → r1 = nI (t + 1)) ∧ (¬ y1 = 0 → ¬ y1 = 1 → ¬ y1 = 2 → ¬ y1 = 3 → r1 = -2)) → wp_X8_of (nI k) y1 st (fun r2 => r1 = r2 ∧ R) := by
      intro r1 hr
      refine slot8 (brb (fun _ => ?_) (fun e3 => by rw [e] at e3; cases e3))
      rw [z0, cl_nI (by omega), e2]
      refine ⟨vp_in_nI (by omega) (by decide), fun x ex => ?_⟩
      subst ex
      refine ⟨fun c => ⟨hr.1 c, hR⟩, fun c => rank8 hv.1 ⟨hr.2.1 c, hR⟩, fun c => idem8 hv.1 (brb' (fun e3 => ⟨by rw [hr.2.2.1 c, e3]; rfl, hR⟩) (fun e3 => ⟨by rw [hr.2.2.1 c, e3]; rfl, hR⟩)), fun c => turns8 hv.1 ht t1 t2 ⟨hr.2.2.2.1 c, hR⟩, fun c0 c1 c2 c3 => ⟨hr.2.2.2.2 c0 c1 c2 c3, hR⟩⟩
    refine ⟨fun c => inner _ ?_, fun c => rank1 hv.1 (inner _ ?_), fun c => idem1 hv.1 (oneIf_wp (inner _ ?_)), fun c => power1 hv.1 ht t1 t2 (inner _ ?_), fun c0 c1 c2 c3 => inner _ ?_⟩
    · subst c
      exact ⟨fun _ => rfl, fun c => absurd c (by decide), fun c => absurd c (by decide), fun c => absurd c (by decide), fun c => absurd rfl c⟩
    · subst c
      exact ⟨fun c => absurd c (by decide), fun _ => rfl, fun c => absurd c (by decide), fun c => absurd c (by decide), fun _ c => absurd rfl c⟩
    · subst c
      exact ⟨fun c => absurd c (by decide), fun c => absurd c (by decide), fun _ => rfl, fun c => absurd c (by decide), fun _ _ c => absurd rfl c⟩
    · subst c
      exact ⟨fun c => absurd c (by decide), fun c => absurd c (by decide), fun c => absurd c (by decide), fun _ => rfl, fun _ _ _ c => absurd rfl c⟩
    · exact ⟨fun c => absurd c c0, fun c => absurd c c1, fun c => absurd c c2, fun c => absurd c c3, fun _ _ _ _ => rfl⟩
  · exact slot8 (brb (fun e3 => by rw [e] at e3; cases e3) (fun _ => ⟨rfl, hR⟩))
theorem leads_ok (h : RSt sl wl wn rt rl rn st) (y0 y1 : Int32) {R : Prop} (hR : R) : wp_X7_leads y0 y1 sl (fun r1 => wp_X8_leads y0 y1 st (fun r2 => r1 = r2 ∧ R)) := by
  refine slot7 (brb' (fun e => ?_) (fun e => ?_))
  · exact slot8 (brb' (fun _ => ⟨rfl, hR⟩) (fun e3 => by rw [e] at e3; cases e3))
  · obtain ⟨k, hk, rfl⟩ := inN_t e (by decide)
    obtain ⟨a, hv, e1, e2⟩ := h.1 k (by omega)
    have out : inN y1 4 = false → wp_X8_leads (nI k) y1 st (fun r2 => -1 = r2 ∧ R) := by
      intro e4
      refine slot8 (brb' (fun e3 => by rw [e] at e3; cases e3) (fun _ => in_wp (hi := 4) ?_))
      exact brb (b := inN y1 4) (fun e3 => by rw [e4] at e3; cases e3) (fun _ => ⟨rfl, hR⟩)
    refine ⟨fun c => out (by simp [inN, c]), fun c => ⟨fun c2 => ?_, fun c2 => out ?_⟩⟩
    · obtain ⟨p, hp, rfl⟩ := nI_of c
      have hp5 : p < 5 := (nI_ltI hp (by decide)).mp c2
      have hd := dg_lt a p
      rw [cl_nI (by omega), e1]
      refine ⟨vp_in_nI (by omega) (by decide), digit_wp hv.1 hp5 ?_⟩
      have inner : ∀ r1 : Int32, r1 = (if dg a p = 0 then -6 else nI (dg a p) - 1) → wp_X8_leads (nI k) (nI p) st (fun r2 => r1 = r2 ∧ R) := by
        intro r1 hr
        refine slot8 (brb' (fun e3 => by rw [e] at e3; cases e3) (fun _ => in_wp (hi := 4) ?_))
        refine brb (b := inN (nI p) 4) (fun _ => ?_) (fun e3 => by rw [inN_nI (by omega) (by decide)] at e3; cases e3)
        rw [z0, cl_nI (by omega), e2]
        refine ⟨vp_in_nI (by omega) (by decide), to_wp hv.1 hp5 ⟨fun c => ⟨?_, hR⟩, fun c => ⟨?_, hR⟩⟩⟩
        · rw [hr, if_neg ((dm_nn _ hd).mp c)]
        · rw [hr, if_pos (Classical.byContradiction fun z => c ((dm_nn _ hd).mpr z))]
      refine ⟨fun c => inner _ ?_, fun c => inner _ ?_⟩
      · rw [if_neg (fun z => c (by rw [z]; rfl))]
      · rw [if_pos ((d_eq _ hd 0 (by decide)).mp c)]
    · obtain ⟨p, hp, rfl⟩ := nI_of c
      cases hh : inN (nI p) 4 with
      | false => rfl
      | true =>
        obtain ⟨q, hq, eq⟩ := inN_t hh (by decide)
        rw [eq] at c2
        exact absurd (nI_lt (show q < 5 by omega) (by decide)) c2
theorem hold7 {k a : Nat} (hk : k < 6) (ha : a < 7776) {Q : Int32 → AR → Prop} (h : Q (nI (rankN a)) (upd sl k (nI a))) : wp_X7_hold (nI k) (nI a) sl Q := by
  refine ⟨vp_in_nI hk (by decide), rank1 ha ?_⟩
  rw [cl_nI (by omega)]
  exact h
theorem hold8 {k a : Nat} (hk : k < 6) (ha : a < 7776) {Q : Int32 → AR → Prop} (h : Q (nI (rankN a)) (upd st k (nI a))) : wp_X8_hold (nI k) (nI a) st Q := by
  unfold wp_X8_hold
  rw [z0, cl_nI (by omega)]
  exact ⟨vp_in_nI (by omega) (by decide), rank8 ha h⟩
theorem nn_nI {a : Nat} (h : a < 2 ^ 31) : (0 : Int32) ≤ nI a := nI_pos' h
theorem both_ok (h : RSt sl wl wn rt rl rn st) (y0 y1 y2 y3 : Int32) {R : AR → AR → Prop} (hR : ∀ sl' st', RSt sl' wl wn rt rl rn st' → R sl' st') : wp_X7_both y0 y1 y2 y3 sl (fun r1 sl' => wp_X8_both y0 y1 y2 y3 st (fun r2 st' => r1 = r2 ∧ R sl' st')) := by
  refine slot7 (brb' (fun e0 => ?_) (fun e0 => slot7 (brb' (fun e1 => ?_) (fun e1 => slot7 (brb (fun e2 => ?_) (fun e2 => ?_))))))
  · exact slot8 (brb' (fun _ => ⟨rfl, hR _ _ h⟩) (fun e3 => by rw [e0] at e3; cases e3))
  · exact slot8 (brb' (fun e3 => by rw [e0] at e3; cases e3) (fun _ => slot8 (brb' (fun _ => ⟨rfl, hR _ _ h⟩) (fun e3 => by rw [e1] at e3; cases e3))))
  · obtain ⟨k0, hk0, rfl⟩ := inN_t e0 (by decide)
    obtain ⟨k1, hk1, rfl⟩ := inN_t e1 (by decide)
    obtain ⟨k2, hk2, rfl⟩ := inN_t e2 (by decide)
    obtain ⟨a, va, a1, a2⟩ := h.1 k1 (by omega)
    obtain ⟨b, vb, b1, b2⟩ := h.1 k2 (by omega)
    refine ⟨vp_in_nI (by omega) (by decide), fun x ex => ⟨vp_in_nI (by omega) (by decide), fun y ey => ?_⟩⟩
    rw [cl_nI (by omega), a1] at ex
    rw [cl_nI (by omega), b1] at ey
    subst ex ey
    -- the reference, once its refusals are past
    have into : ∀ (r1 : Int32) (sl1 : AR), (inN y3 2 = true → (¬ y3 = 0 → (¬ y3 = 1 → wp_X8_joined (nI a) (nI b) (fun r_17 => wp_X8_both_94 (nI k0) r_17 st (fun r2 st' => r1 = r2 ∧ R sl1 st'))) ∧ (y3 = 1 → wp_X8_meet (nI a) (nI b) (fun r_18 => wp_X8_both_94 (nI k0) r_18 st (fun r2 st' => r1 = r2 ∧ R sl1 st')))) ∧ (y3 = 0 → wp_X8_then (nI a) (nI b) (fun r_19 => wp_X8_both_94 (nI k0) r_19 st (fun r2 st' => r1 = r2 ∧ R sl1 st')))) → (inN y3 2 = false → r1 = -2 ∧ R sl1 st) → wp_X8_both (nI k0) (nI k1) (nI k2) y3 st (fun r2 st' => r1 = r2 ∧ R sl1 st') := by
      intro r1 sl1 hin hout
      refine slot8 (brb' (fun e3 => by rw [e0] at e3; cases e3) (fun _ => slot8 (brb' (fun e3 => by rw [e1] at e3; cases e3) (fun _ => slot8 (brb (fun _ => in_wp (hi := 2) ?_) (fun e3 => by rw [e2] at e3; cases e3))))))
      refine brb (b := inN y3 2) (fun e3 => ?_) (fun e3 => hout e3)
      rw [z0, z0, cl_nI (by omega), cl_nI (by omega)]
      refine ⟨vp_in_nI (by omega) (by decide), fun x ex => ⟨vp_in_nI (by omega) (by decide), fun y ey => ?_⟩⟩
      rw [a2] at ex
      rw [b2] at ey
      subst ex ey
      exact hin e3
    have fin : ∀ c : Nat, VM c → wp_X8_both_94 (nI k0) (nI c) st (fun r2 st' => nI (rankN c) = r2 ∧ R (upd sl k0 (nI c)) st') := by
      intro c vc
      exact ⟨fun _ => hold8 (by omega) vc.1 ⟨rfl, hR _ _ (h.slot (by omega) vc)⟩, fun c2 => absurd (nn_nI (by have := vc.1; omega)) c2⟩
    refine ⟨fun c => then1 va.1 vb.1 (hold7 (by omega) (va.then vb).1 (into _ _ (fun _ => ?_) (fun e3 => ?_))), fun c => meet1 va.1 vb.1 (hold7 (by omega) va.meet.1 (into _ _ (fun _ => ?_) (fun e3 => ?_))), fun c => join1 va.1 vb.1 ?_, fun c0 c1 c2 => into _ _ (fun e3 => ?_) (fun _ => ⟨rfl, hR _ _ h⟩)⟩
    · exact ⟨fun z => absurd c z, fun _ => then8 va.1 vb.1 (fin _ (va.then vb))⟩
    · subst c; exact absurd e3 (by decide)
    · exact ⟨fun _ => ⟨fun z => absurd c z, fun _ => meet8 va.1 vb.1 (fin _ va.meet)⟩, fun z => by subst c; exact absurd z (by decide)⟩
    · subst c; exact absurd e3 (by decide)
    · subst c
      cases hj : jnB a b with
      | true =>
        have vj : VM (joinN a b) := VM.of (joinN_lt a b) (by simp only [jnB, Bool.and_eq_true] at hj; exact hj.2)
        rw [if_pos rfl]
        refine ⟨fun _ => hold7 (by omega) vj.1 (into _ _ (fun _ => ?_) (fun e3 => absurd e3 (by decide))), fun c2 => absurd (nn_nI (by have := vj.1; omega)) c2⟩
        refine ⟨fun _ => ⟨fun _ => join8 va.1 vb.1 ?_, fun z => absurd z (by decide)⟩, fun z => absurd z (by decide)⟩
        rw [hj, if_pos rfl]
        exact fin _ vj
      | false =>
        rw [if_neg (by decide)]
        refine ⟨fun c2 => absurd c2 (by decide), fun _ => into _ _ (fun _ => ?_) (fun e3 => absurd e3 (by decide))⟩
        refine ⟨fun _ => ⟨fun _ => join8 va.1 vb.1 ?_, fun z => absurd z (by decide)⟩, fun z => absurd z (by decide)⟩
        rw [hj, if_neg (by decide)]
        exact ⟨fun c2 => absurd c2 (by decide), fun _ => ⟨rfl, hR _ _ h⟩⟩
    · obtain ⟨q, hq, rfl⟩ := inN_t e3 (by decide)
      rcases (show q = 0 ∨ q = 1 ∨ q = 2 by omega) with rfl | rfl | rfl
      · exact absurd rfl c0
      · exact absurd rfl c1
      · exact absurd rfl c2
  · exact slot8 (brb' (fun e3 => by rw [e0] at e3; cases e3) (fun _ => slot8 (brb' (fun e3 => by rw [e1] at e3; cases e3) (fun _ => slot8 (brb (fun e3 => by rw [e2] at e3; cases e3) (fun _ => ⟨rfl, hR _ _ h⟩))))))
theorem turn_ok (h : RSt sl wl wn rt rl rn st) (y0 y1 y2 : Int32) {R : AR → AR → Prop} (hR : ∀ sl' st', RSt sl' wl wn rt rl rn st' → R sl' st') : wp_X7_turn y0 y1 y2 sl (fun r1 sl' => wp_X8_turn y0 y1 y2 st (fun r2 st' => r1 = r2 ∧ R sl' st')) := by
  refine slot7 (brb' (fun e0 => ?_) (fun e0 => slot7 (brb (fun e1 => ?_) (fun e1 => ?_))))
  · exact slot8 (brb' (fun _ => ⟨rfl, hR _ _ h⟩) (fun e3 => by rw [e0] at e3; cases e3))
  · obtain ⟨k0, hk0, rfl⟩ := inN_t e0 (by decide)
    obtain ⟨k1, hk1, rfl⟩ := inN_t e1 (by decide)
    obtain ⟨a, va, a1, a2⟩ := h.1 k1 (by omega)
    refine ⟨vp_in_nI (by omega) (by decide), fun x ex => ?_⟩
    rw [cl_nI (by omega), a1] at ex
    subst ex
    have into : ∀ (r1 : Int32) (sl1 : AR), (inN y2 2 = true → (¬ y2 = 0 → (¬ y2 = 1 → wp_X8_ran (nI a) (fun r_12 => wp_X8_turn_70 (nI k0) r_12 st (fun r2 st' => r1 = r2 ∧ R sl1 st'))) ∧ (y2 = 1 → wp_X8_dom (nI a) (fun r_13 => wp_X8_turn_70 (nI k0) r_13 st (fun r2 st' => r1 = r2 ∧ R sl1 st')))) ∧ (y2 = 0 → wp_X8_inverse (nI a) (fun r_14 => wp_X8_turn_70 (nI k0) r_14 st (fun r2 st' => r1 = r2 ∧ R sl1 st')))) → (inN y2 2 = false → r1 = -2 ∧ R sl1 st) → wp_X8_turn (nI k0) (nI k1) y2 st (fun r2 st' => r1 = r2 ∧ R sl1 st') := by
      intro r1 sl1 hin hout
      refine slot8 (brb' (fun e3 => by rw [e0] at e3; cases e3) (fun _ => slot8 (brb (fun _ => in_wp (hi := 2) ?_) (fun e3 => by rw [e1] at e3; cases e3))))
      refine brb (b := inN y2 2) (fun e3 => ?_) (fun e3 => hout e3)
      rw [z0, cl_nI (by omega)]
      refine ⟨vp_in_nI (by omega) (by decide), fun x ex => ?_⟩
      rw [a2] at ex
      subst ex
      exact hin e3
    have fin : ∀ c : Nat, VM c → wp_X8_turn_70 (nI k0) (nI c) st (fun r2 st' => nI (rankN c) = r2 ∧ R (upd sl k0 (nI c)) st') := fun c vc => hold8 (by omega) vc.1 ⟨rfl, hR _ _ (h.slot (by omega) vc)⟩
    refine ⟨fun c => inv1 va.1 (hold7 (by omega) va.inv.1 (into _ _ (fun _ => ?_) (fun e3 => ?_))), fun c => dom1 va.1 (hold7 (by omega) (domN_lt a) (into _ _ (fun _ => ?_) (fun e3 => ?_))), fun c => inv1 va.1 (dom1 va.inv.1 (hold7 (by omega) (domN_lt _) (into _ _ (fun _ => ?_) (fun e3 => ?_)))), fun c0 c1 c2 => into _ _ (fun e3 => ?_) (fun _ => ⟨rfl, hR _ _ h⟩)⟩
    · exact ⟨fun z => absurd c z, fun _ => inv8 va.1 (fin _ va.inv)⟩
    · subst c; exact absurd e3 (by decide)
    · exact ⟨fun _ => ⟨fun z => absurd c z, fun _ => dom8 va.1 (fin _ (VM.dom a))⟩, fun z => by subst c; exact absurd z (by decide)⟩
    · subst c; exact absurd e3 (by decide)
    · subst c
      exact ⟨fun _ => ⟨fun _ => ran8 va (fin _ (VM.dom _)), fun z => absurd z (by decide)⟩, fun z => absurd z (by decide)⟩
    · subst c; exact absurd e3 (by decide)
    · obtain ⟨q, hq, rfl⟩ := inN_t e3 (by decide)
      rcases (show q = 0 ∨ q = 1 ∨ q = 2 by omega) with rfl | rfl | rfl
      · exact absurd rfl c0
      · exact absurd rfl c1
      · exact absurd rfl c2
  · exact slot8 (brb' (fun e3 => by rw [e0] at e3; cases e3) (fun _ => slot8 (brb (fun e3 => by rw [e1] at e3; cases e3) (fun _ => ⟨rfl, hR _ _ h⟩))))
theorem bel_meet {a b : Nat} (ha : a < 7776) : belN a b = true ↔ meetN a b = a := by
  have e : belN a b = true ↔ ∀ p, p < 5 → (dg a p = 0 ∨ dg a p = dg b p) := by
    simp only [belN, blS, Bool.true_and, Bool.and_eq_true, Bool.or_eq_true, beq_iff_eq]
    constructor
    · intro h p hp
      rcases (show p = 0 ∨ p = 1 ∨ p = 2 ∨ p = 3 ∨ p = 4 by omega) with rfl | rfl | rfl | rfl | rfl
      · exact h.1.1.1.1
      · exact h.1.1.1.2
      · exact h.1.1.2
      · exact h.1.2
      · exact h.2
    · intro h
      exact ⟨⟨⟨⟨h 0 (by omega), h 1 (by omega)⟩, h 2 (by omega)⟩, h 3 (by omega)⟩, h 4 (by omega)⟩
  rw [e]
  constructor
  · intro h
    refine dg_ext (meetN_lt a b) ha (fun p hp => ?_)
    rw [dg_meet hp, meF]
    rcases h p hp with h | h
    · rw [h]; split <;> rfl
    · rw [if_pos h]
  · intro h p hp
    have := dg_meet (a := a) (b := b) hp
    rw [h, meF] at this
    by_cases c : dg a p = dg b p
    · exact Or.inr c
    · rw [if_neg c] at this
      exact Or.inl this
theorem below_ok (h : RSt sl wl wn rt rl rn st) (y0 y1 : Int32) {R : Prop} (hR : R) : wp_X7_below y0 y1 sl (fun r1 => wp_X8_below y0 y1 st (fun r2 => r1 = r2 ∧ R)) := by
  refine slot7 (brb' (fun e0 => ?_) (fun e0 => slot7 (brb (fun e1 => ?_) (fun e1 => ?_))))
  · exact slot8 (brb' (fun _ => ⟨rfl, hR⟩) (fun e3 => by rw [e0] at e3; cases e3))
  · obtain ⟨k0, hk0, rfl⟩ := inN_t e0 (by decide)
    obtain ⟨k1, hk1, rfl⟩ := inN_t e1 (by decide)
    obtain ⟨a, va, a1, a2⟩ := h.1 k0 (by omega)
    obtain ⟨b, vb, b1, b2⟩ := h.1 k1 (by omega)
    refine ⟨vp_in_nI (by omega) (by decide), fun x ex => ⟨vp_in_nI (by omega) (by decide), ?_⟩⟩
    rw [cl_nI (by omega), a1] at ex
    subst ex
    rw [cl_nI (by omega), b1]
    refine meet1 va.1 vb.1 ?_
    have into : wp_X8_below (nI k0) (nI k1) st (fun r2 => bI (belN a b) = r2 ∧ R) := by
      refine slot8 (brb' (fun e3 => by rw [e0] at e3; cases e3) (fun _ => slot8 (brb (fun _ => ?_) (fun e3 => by rw [e1] at e3; cases e3))))
      rw [z0, z0, cl_nI (by omega), cl_nI (by omega), a2, b2]
      exact ⟨vp_in_nI (by omega) (by decide), vp_in_nI (by omega) (by decide), below8 va.1 vb.1 (brb' (fun e3 => ⟨by rw [e3]; rfl, hR⟩) (fun e3 => ⟨by rw [e3]; rfl, hR⟩))⟩
    refine ⟨fun c => oneIf_wp (b := false) ?_, fun c => oneIf_wp (b := true) ?_⟩
    · have : belN a b = false := by
        cases hh : belN a b with
        | false => rfl
        | true => exact absurd (by rw [(bel_meet va.1).mp hh]) c
      rw [this] at into
      exact into
    · have : belN a b = true := (bel_meet va.1).mpr ((nI_eq (by have := meetN_lt a b; omega) (by have := va.1; omega)).mp c)
      rw [this] at into
      exact into
  · exact slot8 (brb' (fun e3 => by rw [e0] at e3; cases e3) (fun _ => slot8 (brb (fun e3 => by rw [e1] at e3; cases e3) (fun _ => ⟨rfl, hR⟩))))
end OPS
/-! THE PAD -/
def RPad (sg : Int32) (hp : AR) (sd : Int32) (mp : AR) : Prop := ∃ n, n ≤ 12 ∧ sg = nI n ∧ sd = nI n ∧ ∀ k, k < n → hp k = mp k
theorem say_ok {sg sd : Int32} {hp mp : AR} (h : RPad sg hp sd mp) (y0 : Int32) {R : Int32 → AR → Int32 → AR → Prop} (hR : ∀ sg' hp' sd' mp', RPad sg' hp' sd' mp' → R sg' hp' sd' mp') : wp_X7_say y0 sg hp (fun r1 sg' hp' => wp_X8_say y0 sd mp (fun r2 sd' mp' => r1 = r2 ∧ R sg' hp' sd' mp')) := by
  obtain ⟨n, hn, rfl, rfl, hk⟩ := h
  have h0 : RPad (nI n) hp (nI n) mp := ⟨n, hn, rfl, rfl, hk⟩
  have out : (y0 < 33 ∨ 126 < y0) → wp_X8_say y0 (nI n) mp (fun r2 sd' mp' => (-2) = r2 ∧ R (nI n) hp sd' mp') := by
    intro c
    refine in_wp (brb (fun e => ?_) (fun _ => ⟨rfl, hR _ _ _ _ h0⟩))
    simp only [decide_eq_true_eq] at e
    rcases c with c | c
    · exact absurd c e.1
    · exact absurd c e.2
  refine ⟨fun c => out (Or.inl c), fun c => ⟨fun c2 => ?_, fun c2 => out (Or.inr (Int32.not_le.mp c2))⟩⟩
  have into : ∀ (r1 : Int32) (sg1 : Int32) (hp1 : AR), (n ≠ 12 → r1 = nI n + 1 ∧ R sg1 hp1 (nI n + 1) (upd mp n y0)) → (n = 12 → r1 = -4 ∧ R sg1 hp1 (nI n) mp) → wp_X8_say y0 (nI n) mp (fun r2 sd' mp' => r1 = r2 ∧ R sg1 hp1 sd' mp') := by
    intro r1 sg1 hp1 ha hb
    refine in_wp (brb (fun _ => ⟨fun c3 => ?_, fun c3 => ?_⟩) (fun e => ?_))
    · have hne : n ≠ 12 := fun z => c3 (by rw [z]; rfl)
      refine ⟨vp_in_nI (by omega) (by decide), ?_⟩
      rw [cl_nI (by omega)]
      exact ha hne
    · exact hb ((nI_eq (by omega) (by decide)).mp c3)
    · simp only [decide_eq_false_iff_not, not_and, Classical.not_not] at e
      exact absurd c2 (Int32.not_le.mpr (e c))
  refine ⟨fun c3 => ?_, fun c3 => ?_⟩
  · have hlt : n < 12 := (nI_ltI (by omega) (by decide)).mp c3
    refine ⟨vp_in_nI hlt (by decide), ?_⟩
    rw [cl_nI (by omega)]
    refine into _ _ _ (fun _ => ⟨rfl, hR _ _ _ _ ⟨n + 1, by omega, nI_1 n, nI_1 n, fun k hk1 => ?_⟩⟩) (fun z => by omega)
    by_cases e : k = n
    · subst e
      rw [upd_s, upd_s]
    · rw [upd_n e, upd_n e]
      exact hk k (by omega)
  · have hge : ¬ n < 12 := fun z => c3 (nI_lt z (by decide))
    exact into _ _ _ (fun z => by omega) (fun _ => ⟨rfl, hR _ _ _ _ h0⟩)
theorem wipe_ok {sg sd : Int32} {hp mp : AR} (h : RPad sg hp sd mp) {R : Int32 → Int32 → Prop} (hR : R 0 0) : wp_X7_wipe sg (fun r1 sg' => wp_X8_wipe sd (fun r2 sd' => r1 = r2 ∧ R sg' sd')) := by
  obtain ⟨n, hn, rfl, rfl, hk⟩ := h
  exact ⟨rfl, hR⟩
