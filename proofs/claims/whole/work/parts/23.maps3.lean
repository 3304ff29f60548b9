/-! PURE 4: what a map is; joins, powers, letters -/
def injB (a : Nat) : Bool := (List.range 5).all fun p => (List.range 5).all fun q => dg a p == 0 || !(dg a p == dg a q) || p == q
def Inj (a : Nat) : Prop := ∀ p, p < 5 → ∀ q, q < 5 → dg a p ≠ 0 → dg a p = dg a q → p = q
theorem injB_iff (a : Nat) : injB a = true ↔ Inj a := by
  simp only [injB, List.all_eq_true, List.mem_range, Bool.or_eq_true, beq_iff_eq, Bool.not_eq_true', beq_eq_false_iff_ne, ne_eq]
  constructor
  · intro h p hp q hq h0 he
    rcases h p hp q hq with (h1 | h1) | h1
    · exact absurd h1 h0
    · exact absurd he h1
    · exact h1
  · intro h p hp q hq
    by_cases h0 : dg a p = 0
    · exact Or.inl (Or.inl h0)
    · by_cases he : dg a p = dg a q
      · exact Or.inr (h p hp q hq h0 he)
      · exact Or.inl (Or.inr he)
theorem map_inj : ∀ a, a < 7776 → isMapN a = injB a := by
  have h : (List.range 7776).all (fun a => isMapN a == injB a) = true := by decide +kernel
  intro a ha
  exact eq_of_beq (List.all_eq_true.mp h a (List.mem_range.mpr ha))
/-- a valid map's number -/
def VM (a : Nat) : Prop := a < 7776 ∧ Inj a
theorem VM.isMap {a : Nat} (h : VM a) : isMapN a = true := by rw [map_inj a h.1]; exact (injB_iff a).mpr h.2
theorem VM.of {a : Nat} (h : a < 7776) (h2 : isMapN a = true) : VM a := ⟨h, (injB_iff a).mp (by rw [← map_inj a h]; exact h2)⟩
theorem VM.mk5 {f : Nat → Nat} (h : ∀ p, p < 5 → f p < 6) (hi : ∀ p, p < 5 → ∀ q, q < 5 → f p ≠ 0 → f p = f q → p = q) : VM (mk5 f) := ⟨mk5_lt h, fun p hp q hq h0 he => by
  rw [dg_mk5 h p hp] at h0 he
  rw [dg_mk5 h q hq] at he
  exact hi p hp q hq h0 he⟩
theorem dg_then {a b p : Nat} (hp : p < 5) : dg (thenN a b) p = thF a b p := dg_mk5 (fun p _ => thF_lt a b p) p hp
theorem dg_meet {a b p : Nat} (hp : p < 5) : dg (meetN a b) p = meF a b p := dg_mk5 (fun p _ => meF_lt a b p) p hp
theorem dg_dom {a p : Nat} (hp : p < 5) : dg (domN a) p = doF a p := dg_mk5 (fun p hp => doF_lt a p hp) p hp
theorem dg_join {a b p : Nat} (hp : p < 5) : dg (joinN a b) p = joF a b p := dg_mk5 (fun p _ => joF_lt a b p) p hp
theorem VM.then {a b : Nat} (ha : VM a) (hb : VM b) : VM (thenN a b) := by
  refine VM.mk5 (fun p _ => thF_lt a b p) (fun p hp q hq h0 he => ?_)
  have d1 := dg_lt a p
  have d2 := dg_lt a q
  unfold thF at h0 he
  split at h0
  · exact absurd rfl h0
  · rename_i hn
    rw [if_neg hn] at he
    split at he
    · exact absurd he h0
    · rename_i hm
      have := hb.2 (dg a p - 1) (by omega) (dg a q - 1) (by omega) h0 he
      exact ha.2 p hp q hq hn (by omega)
theorem VM.meet {a b : Nat} (ha : VM a) : VM (meetN a b) := by
  refine VM.mk5 (fun p _ => meF_lt a b p) (fun p hp q hq h0 he => ?_)
  unfold meF at h0 he
  split at h0
  · rename_i h1
    rw [if_pos h1] at he
    split at he
    · exact ha.2 p hp q hq h0 he
    · exact absurd he h0
  · exact absurd rfl h0
theorem VM.dom (a : Nat) : VM (domN a) := by
  refine VM.mk5 (fun p hp => doF_lt a p hp) (fun p hp q hq h0 he => ?_)
  unfold doF at h0 he
  split at h0
  · exact absurd rfl h0
  · rename_i h1
    rw [if_neg h1] at he
    split at he <;> omega
theorem VM.id : VM 7465 := VM.of (by decide) (by decide)
theorem dg_id : ∀ p, p < 5 → dg 7465 p = p + 1 := lt5 rfl rfl rfl rfl rfl
theorem inv_all : ∀ a, a < 7776 → isMapN a = true → invN a < 7776 ∧ isMapN (invN a) = true ∧ ∀ p, p < 5 → ∀ q, q < 5 → (dg (invN a) q = p + 1 ↔ dg a p = q + 1) := by
  have h : (List.range 7776).all (fun a => !isMapN a || (decide (invN a < 7776) && isMapN (invN a) && (List.range 5).all fun p => (List.range 5).all fun q => (dg (invN a) q == p + 1) == (dg a p == q + 1))) = true := by decide +kernel
  intro a ha hm
  have := List.all_eq_true.mp h a (List.mem_range.mpr ha)
  simp only [hm, Bool.not_true, Bool.false_or, Bool.and_eq_true, decide_eq_true_eq] at this
  refine ⟨this.1.1, this.1.2, fun p hp q hq => ?_⟩
  have := eq_of_beq (List.all_eq_true.mp (List.all_eq_true.mp this.2 p (List.mem_range.mpr hp)) q (List.mem_range.mpr hq))
  rw [← beq_iff_eq, ← beq_iff_eq (a := dg a p), this]
theorem VM.inv {a : Nat} (h : VM a) : VM (invN a) := VM.of (inv_all a h.1 h.isMap).1 (inv_all a h.1 h.isMap).2.1
theorem dg_inv {a p q : Nat} (h : VM a) (hp : p < 5) (hq : q < 5) : dg (invN a) q = p + 1 ↔ dg a p = q + 1 := (inv_all a h.1 h.isMap).2.2 p hp q hq
theorem ran8 {a : Nat} (ha : VM a) {Q : Int32 → Prop} (h : Q (nI (domN (invN a)))) : wp_X8_ran (nI a) Q := inv8 ha.1 (dom8 ha.inv.1 h)
/-! joins -/
def jcS (a b : Nat) : Nat → Bool
  | 0 => true
  | k + 1 => jcS a b k && (dg a k == 0 || dg b k == 0 || dg a k == dg b k)
theorem jcS_mono {a b : Nat} (h : jcS a b 5 = true) : ∀ k, k ≤ 5 → jcS a b k = true := by
  intro k hk
  refine Classical.byContradiction fun hc => ?_
  have hc : jcS a b k = false := by cases hh : jcS a b k; rfl; exact absurd hh hc
  have mono : ∀ j, jcS a b (k + j) = false := by
    intro j
    induction j with
    | zero => exact hc
    | succ j ih => rw [show k + (j + 1) = (k + j) + 1 from rfl]; simp [jcS, ih]
  have := mono (5 - k)
  rw [show k + (5 - k) = 5 by omega, h] at this
  cases this
/-- there is a JOIN -/
def jnB (a b : Nat) : Bool := jcS a b 5 && isMapN (joinN a b)
theorem join8 {a b : Nat} (ha : a < 7776) (hb : b < 7776) {Q : Int32 → Prop} (h : Q (if jnB a b = true then nI (joinN a b) else -6)) : wp_X8_joined (nI a) (nI b) Q := by
  unfold wp_X8_joined
  have step : ∀ k, k < 5 → ∀ rc : Int32 → Int32 → Prop, (if jcS a b (k + 1) = true ∨ jcS a b k = false then rc (nI (ps (joF a b) (k + 1))) (nI k + 1) else Q (-6)) → jcS a b k = true → wb_X8_joined_4 (nI a) (nI b) Q rc (nI (ps (joF a b) k)) (nI k) := by
    intro k hk rc hrc ht
    have hd := dg_lt a k
    have hd2 := dg_lt b k
    refine br_ge hk (by decide) (to_wp ha hk (to_wp hb hk ?_))
    have tail : jcS a b (k + 1) = true → wp_X8_joined_43 (nI a) (nI b) (nI (ps (joF a b) k)) (nI k) (nI (dg a k) - 1) (nI (dg b k) - 1) rc Q := by
      intro hk1
      rw [if_pos (Or.inl hk1)] at hrc
      have add : ∀ t : Int32, t = nI (joF a b k * 6 ^ k) → ∀ x y : Int32, x = nI (ps (joF a b) k) + t → y = nI k + 1 → rc x y := by
        intro t et x y e e2
        subst e e2
        have : nI (ps (joF a b) k) + t = nI (ps (joF a b) (k + 1)) := by rw [et, nI_add]; rfl
        rw [this]
        exact hrc
      refine ⟨fun c => ⟨fun c2 => ?_, fun c2 => ?_⟩, fun c => ?_⟩
      · have h0 := (dm_neg _ hd).mp c
        have h2 := (dm_neg _ hd2).mp c2
        exact fun x e y e2 => add 0 (by simp [joF, h0, h2]; rfl) x y e e2
      · have h0 := (dm_neg _ hd).mp c
        have h2 : dg b k ≠ 0 := fun z => c2 ((dm_neg _ hd2).mpr z)
        rw [pdm _ 0 hd2 h2]
        refine put_wp hk ?_
        exact fun x e y e2 => add _ (by rw [pw_nI hk, nI_1, pk_mul, Nat.sub_add_cancel (by omega), joF, if_pos h0, Nat.mul_comm]) x y e e2
      · have h0 : dg a k ≠ 0 := fun z => c ((dm_neg _ hd).mpr z)
        rw [pdm _ 0 hd h0]
        refine put_wp hk ?_
        exact fun x e y e2 => add _ (by rw [pw_nI hk, nI_1, pk_mul, Nat.sub_add_cancel (by omega), joF, if_neg h0, Nat.mul_comm]) x y e e2
    refine ⟨fun c => tail ?_, fun c => ⟨fun c2 => tail ?_, fun c2 => ⟨fun c3 => tail ?_, fun c3 => ?_⟩⟩⟩
    · have h0 := (dm_neg _ hd).mp c
      simp [jcS, ht, h0]
    · have h2 := (dm_neg _ hd2).mp c2
      simp [jcS, ht, h2]
    · have h3 := (dm_eq _ hd _ hd2).mp c3
      simp [jcS, ht, h3]
    · have h0 : dg a k ≠ 0 := fun z => c ((dm_neg _ hd).mpr z)
      have h2 : dg b k ≠ 0 := fun z => c2 ((dm_neg _ hd2).mpr z)
      have h3 : dg a k ≠ dg b k := fun z => c3 ((dm_eq _ hd _ hd2).mpr z)
      have : jcS a b (k + 1) = false := by simp [jcS, h0, h2, h3]
      rw [if_neg (by simp [this, ht])] at hrc
      exact hrc
  cases hb5 : jcS a b 5 with
  | true =>
    have all := jcS_mono hb5
    refine cl2 5 (fun k => nI (ps (joF a b) k)) (fun k hk rc hrc => ?_) (fun rc => br_end (Nat.le_refl 5) (by decide) ?_)
    · exact step k hk rc (by rw [if_pos (Or.inl (all (k + 1) (by omega)))]; exact hrc) (all k (by omega))
    · rw [ps5]
      refine isMap8 ?_
      have e : isMapI (nI (mk5 (joF a b))) = isMapN (joinN a b) := by
        have := joinN_lt a b
        rw [isMapI, inN_nI (by have := joinN_lt a b; unfold joinN at this; omega) (by decide), cl_nI (by have := joinN_lt a b; unfold joinN at this; omega)]
        rfl
      rw [e]
      simp only [jnB, hb5, Bool.true_and] at h
      refine ⟨fun c => ?_, fun c => ?_⟩
      · rw [(bI_0 _).mp c] at h; exact h
      · rw [(bI_n0 _).mp c] at h; exact h
  | false =>
    obtain ⟨k0, hk0, hall, hbad⟩ := first_bad (s := fun k => jcS a b k) 5 rfl hb5
    simp only [jnB, hb5, Bool.false_and] at h
    refine cl2 k0 (fun k => nI (ps (joF a b) k)) (fun k hk rc hrc => ?_) (fun rc => ?_)
    · exact step k (by omega) rc (by rw [if_pos (Or.inl (hall (k + 1) (by omega)))]; exact hrc) (hall k (by omega))
    · exact step k0 hk0 rc (by rw [if_neg (by simp [hbad, hall k0 (Nat.le_refl _)])]; exact h) (hall k0 (Nat.le_refl _))
theorem mx6 : ∀ d, d < 6 → ∀ e, e < 6 → (d = 0 ∨ e = 0 ∨ d = e) → (if nI d < nI e then nI e else nI d) = nI (if d = 0 then e else d) := by decide
theorem join1 {a b : Nat} (ha : a < 7776) (hb : b < 7776) {Q : Int32 → Prop} (h : Q (if jnB a b = true then nI (joinN a b) else -1)) : wp_X1_join (nI a) (nI b) Q := by
  unfold wp_X1_join
  have step : ∀ k, k < 5 → ∀ rc : Int32 → Int32 → Prop, (if jcS a b (k + 1) = true ∨ jcS a b k = false then rc (nI (ps (joF a b) (k + 1))) (nI k + 1) else Q (-1)) → jcS a b k = true → wb_X1_join_4 (nI a) (nI b) Q rc (nI (ps (joF a b) k)) (nI k) := by
    intro k hk rc hrc ht
    have hd := dg_lt a k
    have hd2 := dg_lt b k
    refine br_ge hk (by decide) (digit_wp ha hk (digit_wp hb hk ?_))
    have tail : jcS a b (k + 1) = true → wp_X1_join_42 (nI a) (nI b) (nI (ps (joF a b) k)) (nI k) (nI (dg a k)) (nI (dg b k)) rc Q := by
      intro hk1
      rw [if_pos (Or.inl hk1)] at hrc
      refine ⟨vp_in_nI hk (by decide), ?_⟩
      rw [cl_nI (by omega)]
      intro x e y e2
      subst e e2
      have hor : dg a k = 0 ∨ dg b k = 0 ∨ dg a k = dg b k := by
        simp only [jcS, ht, Bool.true_and, Bool.or_eq_true, beq_iff_eq] at hk1
        omega
      have : nI (ps (joF a b) k) + (if nI (dg a k) < nI (dg b k) then nI (dg b k) else nI (dg a k)) * pw k = nI (ps (joF a b) (k + 1)) := by
        rw [mx6 _ hd _ hd2 hor, pw_nI hk, pk_mul, nI_add]
        rfl
      rw [this]
      exact hrc
    refine ⟨fun c => tail ?_, fun c => ⟨fun c2 => tail ?_, fun c2 => ⟨fun c3 => tail ?_, fun c3 => ?_⟩⟩⟩
    · have h0 := (d_le0 _ hd).mp c
      simp [jcS, ht, h0]
    · have h2 := (d_le0 _ hd2).mp c2
      simp [jcS, ht, h2]
    · have h3 := (d_eq _ hd _ hd2).mp c3
      simp [jcS, ht, h3]
    · have h0 : dg a k ≠ 0 := fun z => c ((d_le0 _ hd).mpr z)
      have h2 : dg b k ≠ 0 := fun z => c2 ((d_le0 _ hd2).mpr z)
      have h3 : dg a k ≠ dg b k := fun z => c3 ((d_eq _ hd _ hd2).mpr z)
      have : jcS a b (k + 1) = false := by simp [jcS, h0, h2, h3]
      rw [if_neg (by simp [this, ht])] at hrc
      exact hrc
  cases hb5 : jcS a b 5 with
  | true =>
    have all := jcS_mono hb5
    refine cl2 5 (fun k => nI (ps (joF a b) k)) (fun k hk rc hrc => ?_) (fun rc => br_end (Nat.le_refl 5) (by decide) ?_)
    · exact step k hk rc (by rw [if_pos (Or.inl (all (k + 1) (by omega)))]; exact hrc) (all k (by omega))
    · rw [ps5]
      refine inj1 (joinN_lt a b) ?_
      simp only [jnB, hb5, Bool.true_and] at h
      refine ⟨fun c => ?_, fun c => ?_⟩
      · rw [(bI_0 _).mp c] at h; exact h
      · rw [(bI_n0 _).mp c] at h; exact h
  | false =>
    obtain ⟨k0, hk0, hall, hbad⟩ := first_bad (s := fun k => jcS a b k) 5 rfl hb5
    simp only [jnB, hb5, Bool.false_and] at h
    refine cl2 k0 (fun k => nI (ps (joF a b) k)) (fun k hk rc hrc => ?_) (fun rc => ?_)
    · exact step k (by omega) rc (by rw [if_pos (Or.inl (hall (k + 1) (by omega)))]; exact hrc) (hall k (by omega))
    · exact step k0 hk0 rc (by rw [if_neg (by simp [hbad, hall k0 (Nat.le_refl _)])]; exact h) (hall k0 (Nat.le_refl _))
/-! powers -/
def pwr (a : Nat) : Nat → Nat
  | 0 => a
  | t + 1 => thenN (pwr a t) a
theorem pwr_lt {a : Nat} (ha : a < 7776) : ∀ t, pwr a t < 7776
  | 0 => ha
  | _ + 1 => thenN_lt _ _
theorem trn_ex : ∀ a, a < 7776 → isMapN a = true → ∃ t, t < 8 ∧ idemN (pwr a t) = true ∧ ∀ s, s < t → idemN (pwr a s) = false := by
  have h : (List.range 7776).all (fun a => !isMapN a || (List.range 8).any (fun t => idemN (pwr a t))) = true := by decide +kernel
  intro a ha hm
  have := List.all_eq_true.mp h a (List.mem_range.mpr ha)
  simp only [hm, Bool.not_true, Bool.false_or] at this
  obtain ⟨t, ht, h1⟩ := List.any_eq_true.mp this
  obtain ⟨k, hk, hl⟩ := pk_least (fun t => idemN (pwr a t) = true) ⟨t, h1⟩
  refine ⟨k, ?_, hk, fun s hs => by cases hh : idemN (pwr a s); rfl; exact absurd hh (hl s hs)⟩
  refine Nat.lt_of_not_le fun hc => hl t ?_ h1
  have := List.mem_range.mp ht
  omega
theorem turns8 {a t : Nat} (ha : a < 7776) (ht : t < 8) (h1 : idemN (pwr a t) = true) (h2 : ∀ s, s < t → idemN (pwr a s) = false) {Q : Int32 → Prop} (h : Q (nI (t + 1))) : wp_X8_turnsOf (nI a) Q := by
  unfold wp_X8_turnsOf
  have key : ∀ j k, k + j = t → lpW2 (wb_X8_turnsOf_4 (nI a) Q) (j + 1) (nI (k + 1)) (nI (pwr a k)) := by
    intro j
    induction j with
    | zero =>
      intro k hk
      obtain rfl : k = t := by omega
      refine idem8 (pwr_lt ha k) ⟨fun _ => h, fun c => ?_⟩
      rw [h1] at c
      exact absurd c (by decide)
    | succ j ih =>
      intro k hk
      refine idem8 (pwr_lt ha k) ⟨fun c => ?_, fun _ => then8 (pwr_lt ha k) ha (fun x e => ?_)⟩
      · rw [h2 k (by omega)] at c
        exact absurd rfl c
      · subst e
        rw [nI_1]
        exact ih (k + 1) (by omega)
  exact ⟨t + 1, key t 0 (by omega)⟩
theorem power1 {a t : Nat} (ha : a < 7776) (ht : t < 8) (h1 : idemN (pwr a t) = true) (h2 : ∀ s, s < t → idemN (pwr a s) = false) {Q : Int32 → Prop} (h : Q (nI (t + 1))) : wp_X1_idempotentPower (nI a) Q := by
  unfold wp_X1_idempotentPower
  have key : ∀ j k, k + j = t → lpW2 (wb_X1_idempotentPower_4 (nI a) Q) (j + 1) (nI (pwr a k)) (nI (k + 1)) := by
    intro j
    induction j with
    | zero =>
      intro k hk
      obtain rfl : k = t := by omega
      refine br_ge (N := 1000) (by omega) (by decide) (idem1 (pwr_lt ha k) ⟨fun _ => h, fun c => ?_⟩)
      rw [h1] at c
      exact absurd c (by decide)
    | succ j ih =>
      intro k hk
      refine br_ge (N := 1000) (by omega) (by decide) (idem1 (pwr_lt ha k) ⟨fun c => ?_, fun _ => then1 (pwr_lt ha k) ha (fun x e => ?_)⟩)
      · rw [h2 k (by omega)] at c
        exact absurd rfl c
      · subst e
        rw [nI_1]
        exact ih (k + 1) (by omega)
  exact ⟨t + 1, key t 0 (by omega)⟩
