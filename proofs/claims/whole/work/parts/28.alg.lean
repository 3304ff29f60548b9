/-! PURE 9: maps as an inverse monoid; their sets of points -/
theorem all7 {P : Nat → Bool} (h : (List.range 7776).all P = true) {a : Nat} (ha : a < 7776) : P a = true := List.all_eq_true.mp h a (List.mem_range.mpr ha)
theorem dg_ext' {a b : Nat} (ha : a < 7776) (hb : b < 7776) (h : ∀ p, p < 5 → ∀ q, q < 5 → (dg a p = q + 1 ↔ dg b p = q + 1)) : a = b := by
  refine dg_ext ha hb (fun p hp => ?_)
  have h1 := dg_lt a p
  have h2 := dg_lt b p
  by_cases e : dg a p = 0
  · by_cases e2 : dg b p = 0
    · rw [e, e2]
    · have := (h p hp (dg b p - 1) (by omega)).mpr (by omega)
      omega
  · have := (h p hp (dg a p - 1) (by omega)).mp (by omega)
    omega
theorem dg_then' {a b p q : Nat} (hp : p < 5) : dg (thenN a b) p = q + 1 ↔ ∃ r, r < 5 ∧ dg a p = r + 1 ∧ dg b r = q + 1 := by
  rw [dg_then hp, thF]
  have h1 := dg_lt a p
  constructor
  · intro h
    by_cases e : dg a p = 0
    · rw [if_pos e] at h; omega
    · rw [if_neg e] at h
      exact ⟨dg a p - 1, by omega, by omega, h⟩
  · rintro ⟨r, hr, e1, e2⟩
    rw [if_neg (by omega), e1]
    exact e2
theorem then_assoc (a b c : Nat) : thenN (thenN a b) c = thenN a (thenN b c) := by
  refine dg_ext' (thenN_lt _ _) (thenN_lt _ _) (fun p hp q hq => ?_)
  rw [dg_then' hp, dg_then' hp]
  constructor
  · rintro ⟨r, hr, e1, e2⟩
    obtain ⟨s, hs, e3, e4⟩ := (dg_then' hp).mp e1
    exact ⟨s, hs, e3, (dg_then' hs).mpr ⟨r, hr, e4, e2⟩⟩
  · rintro ⟨r, hr, e1, e2⟩
    obtain ⟨s, hs, e3, e4⟩ := (dg_then' hr).mp e2
    exact ⟨s, hs, (dg_then' hp).mpr ⟨r, hr, e1, e3⟩, e4⟩
theorem inv_then {a b : Nat} (ha : VM a) (hb : VM b) : invN (thenN a b) = thenN (invN b) (invN a) := by
  refine dg_ext' (ha.then hb).inv.1 (thenN_lt _ _) (fun p hp q hq => ?_)
  rw [dg_inv (ha.then hb) hq hp, dg_then' hq, dg_then' hp]
  constructor
  · rintro ⟨r, hr, e1, e2⟩
    exact ⟨r, hr, (dg_inv hb hr hp).mpr e2, (dg_inv ha hq hr).mpr e1⟩
  · rintro ⟨r, hr, e1, e2⟩
    exact ⟨r, hr, (dg_inv ha hq hr).mp e2, (dg_inv hb hr hp).mp e1⟩
theorem inv_inv {a : Nat} (ha : VM a) : invN (invN a) = a := by
  refine dg_ext' ha.inv.inv.1 ha.1 (fun p hp q hq => ?_)
  rw [dg_inv ha.inv hq hp, dg_inv ha hp hq]
theorem then_inv {a : Nat} (ha : VM a) : thenN a (invN a) = domN a := by
  refine dg_ext' (thenN_lt _ _) (domN_lt _) (fun p hp q hq => ?_)
  rw [dg_then' hp, dg_dom hp, doF]
  have h1 := dg_lt a p
  constructor
  · rintro ⟨r, hr, e1, e2⟩
    have := ha.2 p hp q hq (by omega) (by rw [e1, (dg_inv ha hq hr).mp e2])
    rw [if_neg (by omega), this]
  · intro h
    by_cases e : dg a p = 0
    · rw [if_pos e] at h; omega
    · rw [if_neg e] at h
      refine ⟨dg a p - 1, by omega, by omega, (dg_inv ha hq (by omega)).mpr ?_⟩
      rw [show q = p by omega]; omega
/-! sets of points -/
def subB (s t : Nat) : Bool := (List.range 5).all fun p => !s.testBit p || t.testBit p
theorem subB_iff {s t : Nat} : subB s t = true ↔ ∀ p, p < 5 → s.testBit p = true → t.testBit p = true := by
  simp only [subB, List.all_eq_true, List.mem_range, Bool.or_eq_true, Bool.not_eq_true']
  constructor
  · intro h p hp e
    rcases h p hp with h1 | h1
    · rw [e] at h1; cases h1
    · exact h1
  · intro h p hp
    cases e : s.testBit p
    · exact Or.inl rfl
    · exact Or.inr (h p hp e)
theorem all32 {P : Nat → Bool} (h : (List.range 32).all P = true) {a : Nat} (ha : a < 32) : P a = true := List.all_eq_true.mp h a (List.mem_range.mpr ha)
theorem sub_anti : ∀ {s t : Nat}, s < 32 → t < 32 → subB s t = true → subB t s = true → s = t := by
  have h : ((List.range 32).all fun s => (List.range 32).all fun t => !(subB s t && subB t s) || s == t) = true := by decide +kernel
  intro s t hs ht h1 h2
  have := all32 (all32 h hs) ht
  rw [h1, h2] at this
  exact eq_of_beq this
theorem sub_pc : ∀ {s t : Nat}, s < 32 → t < 32 → subB s t = true → pcN s = pcN t → s = t := by
  have h : ((List.range 32).all fun s => (List.range 32).all fun t => !(subB s t && (pcN s == pcN t)) || s == t) = true := by decide +kernel
  intro s t hs ht h1 h2
  have := all32 (all32 h hs) ht
  rw [h1, h2, beq_self_eq_true] at this
  exact eq_of_beq this
theorem set_ext {s t : Nat} (hs : s < 32) (ht : t < 32) (h : ∀ p, p < 5 → (s.testBit p = true ↔ t.testBit p = true)) : s = t :=
  sub_anti hs ht (subB_iff.mpr fun p hp e => (h p hp).mp e) (subB_iff.mpr fun p hp e => (h p hp).mpr e)
theorem dp_lt (a : Nat) : dpN a < 32 := dpS_lt a 5 (Nat.le_refl 5)
theorem rp_lt (a : Nat) : rpN a < 32 := rpS_lt a 5 (Nat.le_refl 5)
theorem fp_lt (a : Nat) : fpN a < 32 := fpS_lt a 5 (Nat.le_refl 5)
theorem dp_bit : ∀ {a : Nat}, a < 7776 → ∀ {p : Nat}, p < 5 → ((dpN a).testBit p = true ↔ dg a p ≠ 0) := by
  have h : ((List.range 7776).all fun a => (List.range 5).all fun p => (dpN a).testBit p == !(dg a p == 0)) = true := by decide +kernel
  intro a ha p hp
  have := eq_of_beq (List.all_eq_true.mp (all7 h ha) p (List.mem_range.mpr hp))
  rw [this]
  simp
theorem fp_bit : ∀ {a : Nat}, a < 7776 → ∀ {p : Nat}, p < 5 → ((fpN a).testBit p = true ↔ dg a p = p + 1) := by
  have h : ((List.range 7776).all fun a => (List.range 5).all fun p => (fpN a).testBit p == (dg a p == p + 1)) = true := by decide +kernel
  intro a ha p hp
  have := eq_of_beq (List.all_eq_true.mp (all7 h ha) p (List.mem_range.mpr hp))
  rw [this]
  simp
theorem rp_dp : ∀ {a : Nat}, VM a → rpN a = dpN (invN a) := by
  have h : ((List.range 7776).all fun a => !isMapN a || rpN a == dpN (invN a)) = true := by decide +kernel
  intro a ha
  have := all7 h ha.1
  rw [ha.isMap] at this
  exact eq_of_beq this
theorem pc_dr : ∀ {a : Nat}, VM a → pcN (dpN a) = pcN (rpN a) := by
  have h : ((List.range 7776).all fun a => !isMapN a || pcN (dpN a) == pcN (rpN a)) = true := by decide +kernel
  intro a ha
  have := all7 h ha.1
  rw [ha.isMap] at this
  exact eq_of_beq this
theorem idem_dom : ∀ {a : Nat}, a < 7776 → (idemN a = true ↔ domN a = a) := by
  have h : ((List.range 7776).all fun a => idemN a == (domN a == a)) = true := by decide +kernel
  intro a ha
  rw [eq_of_beq (all7 h ha)]
  exact beq_iff_eq
/-- the idempotent of a set -/
def sbF (s p : Nat) : Nat := if s.testBit p = true then p + 1 else 0
theorem sbF_lt (s p : Nat) (hp : p < 5) : sbF s p < 6 := by
  unfold sbF
  cases s.testBit p
  · exact (by decide : 0 < 6)
  · exact Nat.succ_lt_succ hp
def isA (s : Nat) : Nat := mk5 (sbF s)
theorem isA_lt (s : Nat) : isA s < 7776 := mk5_lt (sbF_lt s)
theorem dg_isA {s p : Nat} (hp : p < 5) : dg (isA s) p = if s.testBit p = true then p + 1 else 0 := dg_mk5 (sbF_lt s) p hp
theorem dp_isA {s : Nat} (hs : s < 32) : dpN (isA s) = s := by
  refine set_ext (dp_lt _) hs (fun p hp => ?_)
  rw [dp_bit (isA_lt s) hp, dg_isA hp]
  cases s.testBit p <;> simp
theorem dom_isA {a : Nat} (ha : a < 7776) : domN a = isA (dpN a) := by
  refine dg_ext (domN_lt _) (isA_lt _) (fun p hp => ?_)
  rw [dg_dom hp, dg_isA hp, doF]
  have := dp_bit ha hp
  by_cases e : dg a p = 0
  · rw [if_pos e, if_neg (fun c => this.mp c e)]
  · rw [if_neg e, if_pos (this.mpr e)]
theorem idem_isA {s : Nat} (hs : s < 32) : idemN (isA s) = true := by
  rw [idem_dom (isA_lt s), dom_isA (isA_lt s), dp_isA hs]
theorem isA_idem {a : Nat} (ha : a < 7776) (h : idemN a = true) : a = isA (dpN a) := by
  rw [← dom_isA ha]; exact ((idem_dom ha).mp h).symm
theorem isA_VM {s : Nat} (hs : s < 32) : VM (isA s) := by
  have := VM.dom (isA s)
  rw [dom_isA (isA_lt s), dp_isA hs] at this
  exact this
theorem isA_then : ∀ {s t : Nat}, s < 32 → t < 32 → thenN (isA s) (isA t) = isA (s &&& t) := by
  have h : ((List.range 32).all fun s => (List.range 32).all fun t => thenN (isA s) (isA t) == isA (s &&& t)) = true := by decide +kernel
  intro s t hs ht
  exact eq_of_beq (all32 (all32 h hs) ht)
theorem dp_dom {a : Nat} (ha : a < 7776) : dpN (domN a) = dpN a := by rw [dom_isA ha, dp_isA (dp_lt a)]
theorem rp_isA : ∀ {s : Nat}, s < 32 → rpN (isA s) = s := by
  have h : ((List.range 32).all fun s => rpN (isA s) == s) = true := by decide +kernel
  intro s hs
  exact eq_of_beq (all32 h hs)
theorem rp_bit {a q : Nat} (ha : VM a) (hq : q < 5) : (rpN a).testBit q = true ↔ ∃ p, p < 5 ∧ dg a p = q + 1 := by
  rw [rp_dp ha, dp_bit ha.inv.1 hq]
  have := dg_lt (invN a) q
  constructor
  · intro h
    exact ⟨dg (invN a) q - 1, by omega, (dg_inv ha (by omega) hq).mp (by omega)⟩
  · rintro ⟨p, hp, e⟩
    have := (dg_inv ha hp hq).mpr e
    omega
theorem dp_then {a b : Nat} (ha : VM a) (hb : VM b) (h : rpN a = dpN b) : dpN (thenN a b) = dpN a := by
  refine set_ext (dp_lt _) (dp_lt _) (fun p hp => ?_)
  rw [dp_bit (thenN_lt _ _) hp, dp_bit ha.1 hp, dg_then hp, thF]
  constructor
  · intro c e
    rw [if_pos e] at c
    exact c rfl
  · intro c
    rw [if_neg c]
    have h1 := dg_lt a p
    have h2 := (rp_bit ha (q := dg a p - 1) (by omega)).mpr ⟨p, hp, by omega⟩
    rw [h] at h2
    exact (dp_bit hb.1 (by omega)).mp h2
theorem rp_then {a b : Nat} (ha : VM a) (hb : VM b) (h : rpN a = dpN b) : rpN (thenN a b) = rpN b := by
  rw [rp_dp (ha.then hb), inv_then ha hb, dp_then hb.inv ha.inv, ← rp_dp hb]
  rw [rp_dp hb.inv, inv_inv hb, ← rp_dp ha, h]
theorem bel_sub {e m : Nat} (he : e < 7776) (hi : idemN e = true) (hm : m < 7776) : belN e m = subB (dpN e) (fpN m) := by
  rw [Bool.eq_iff_iff, bel_meet he, subB_iff]
  have hd := (idem_dom he).mp hi
  have hg : ∀ p, p < 5 → dg e p ≠ 0 → dg e p = p + 1 := fun p hp h => by
    have := dg_dom (a := e) hp
    rw [hd, doF, if_neg h] at this
    exact this
  constructor
  · intro h p hp hb
    have h0 := (dp_bit he hp).mp hb
    rw [fp_bit hm hp]
    have := dg_meet (a := e) (b := m) hp
    rw [h, meF] at this
    by_cases c : dg e p = dg m p
    · rw [← c]; exact hg p hp h0
    · rw [if_neg c] at this; exact absurd this h0
  · intro h
    refine dg_ext (meetN_lt _ _) he (fun p hp => ?_)
    rw [dg_meet hp, meF]
    by_cases h0 : dg e p = 0
    · rw [h0]; split <;> rfl
    · rw [if_pos]
      rw [hg p hp h0, (fp_bit hm hp).mp (h p hp ((dp_bit he hp).mpr h0))]
theorem sub_I : ∀ {s t : Nat}, s < 32 → t < 32 → ((nI s &&& (nI t ^^^ (-1))) = 0 ↔ subB s t = true) := by
  have h : ((List.range 32).all fun s => (List.range 32).all fun t => decide ((nI s &&& (nI t ^^^ (-1))) = 0) == subB s t) = true := by decide +kernel
  intro s t hs ht
  have := eq_of_beq (all32 (all32 h hs) ht)
  rw [← this, decide_eq_true_eq]
theorem and_I : ∀ {s t : Nat}, s < 32 → t < 32 → (nI s &&& nI t) = nI (s &&& t) := by
  have h : ((List.range 32).all fun s => (List.range 32).all fun t => (nI s &&& nI t) == nI (s &&& t)) = true := by decide +kernel
  intro s t hs ht
  exact eq_of_beq (all32 (all32 h hs) ht)
theorem and_lt32 {s t : Nat} (hs : s < 32) : s &&& t < 32 := Nat.lt_of_le_of_lt Nat.and_le_left hs
/-- a map over the points of a set within its own -/
theorem core_dp {c m : Nat} (hc : c < 32) (hm : VM m) (h : subB c (dpN m) = true) : dpN (thenN (isA c) m) = c := by
  refine set_ext (dp_lt _) hc (fun p hp => ?_)
  rw [dp_bit (thenN_lt _ _) hp, dg_then hp, thF, dg_isA hp]
  cases e : c.testBit p
  · simp
  · have := (dp_bit hm.1 hp).mp (subB_iff.mp h p hp e)
    simpa using this
theorem core_own {m : Nat} (hm : VM m) : thenN (isA (dpN m)) m = m := by
  refine dg_ext (thenN_lt _ _) hm.1 (fun p hp => ?_)
  rw [dg_then hp, thF, dg_isA hp]
  have := dp_bit hm.1 hp
  cases e : (dpN m).testBit p
  · rw [e] at this
    have h0 : dg m p = 0 := Classical.byContradiction fun c => by have := this.mpr c; cases this
    simp [h0]
  · simp
/-! lists -/
theorem nodup_le : ∀ (L K : List Nat), L.Nodup → (∀ x, x ∈ L → x ∈ K) → L.length ≤ K.length
  | [], _, _, _ => Nat.zero_le _
  | a :: L, K, hn, hs => by
    have ha := hs a (List.mem_cons_self ..)
    have hn' := List.nodup_cons.mp hn
    have := nodup_le L (K.erase a) hn'.2 (fun x hx => (List.mem_erase_of_ne (fun (e : x = a) => hn'.1 (e ▸ hx))).mpr (hs x (List.mem_cons_of_mem _ hx)))
    rw [List.length_erase_of_mem ha] at this
    have hp := List.length_pos_of_mem ha
    simp only [List.length_cons]
    omega
theorem nodup_eq {L K : List Nat} (h1 : L.Nodup) (h2 : K.Nodup) (h : ∀ x, x ∈ L ↔ x ∈ K) : L.length = K.length :=
  Nat.le_antisymm (nodup_le L K h1 fun x hx => (h x).mp hx) (nodup_le K L h2 fun x hx => (h x).mpr hx)
theorem nodup_map {L : List Nat} {f : Nat → Nat} (h : L.Nodup) (hi : ∀ x, x ∈ L → ∀ y, y ∈ L → f x = f y → x = y) : (L.map f).Nodup := by
  induction L with
  | nil => exact List.nodup_nil
  | cons a L ih =>
    have hn := List.nodup_cons.mp h
    rw [List.map_cons, List.nodup_cons]
    refine ⟨fun c => ?_, ih hn.2 fun x hx y hy => hi x (List.mem_cons_of_mem _ hx) y (List.mem_cons_of_mem _ hy)⟩
    obtain ⟨b, hb, e⟩ := List.mem_map.mp c
    exact hn.1 (hi b (List.mem_cons_of_mem _ hb) a (List.mem_cons_self ..) e ▸ hb)
theorem nodup_bij {L K : List Nat} {f : Nat → Nat} (h1 : L.Nodup) (h2 : K.Nodup) (hm : ∀ x, x ∈ L → f x ∈ K) (hi : ∀ x, x ∈ L → ∀ y, y ∈ L → f x = f y → x = y) (hs : ∀ y, y ∈ K → ∃ x, x ∈ L ∧ f x = y) : L.length = K.length := by
  rw [← nodup_eq (nodup_map h1 hi) h2 (fun y => ⟨fun h => by obtain ⟨x, hx, e⟩ := List.mem_map.mp h; exact e ▸ hm x hx, fun h => by obtain ⟨x, hx, e⟩ := hs y h; exact List.mem_map.mpr ⟨x, hx, e⟩⟩), List.length_map]
def mapsK : List Nat := (List.range 7776).filter isMapN
theorem mapsK_len : mapsK.length = 1546 := by decide +kernel
theorem maps_le {L : List Nat} (h : L.Nodup) (hv : ∀ x, x ∈ L → VM x) : L.length ≤ 1546 := by
  rw [← mapsK_len]
  exact nodup_le L mapsK h fun x hx => List.mem_filter.mpr ⟨List.mem_range.mpr (hv x hx).1, (hv x hx).isMap⟩
