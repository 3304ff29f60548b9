/-! PURE 14: what is made, as a set: closed under THEN and turning round -/
def Wv (N : Nat) (f : Nat → Nat) : Prop := 0 < N ∧ N ≤ 1546 ∧ (∀ i, i < N → VM (f i)) ∧ (∀ i, i < N → ∀ j, j < N → f i = f j → i = j) ∧ (∀ i, i < N → ∀ j, j < N → ∃ k, k < N ∧ f k = thenN (f i) (f j)) ∧ ∀ i, i < N → ∃ k, k < N ∧ f k = invN (f i)
theorem nodup_get {L : List Nat} (h : L.Nodup) : ∀ {i j : Nat} {x : Nat}, L[i]? = some x → L[j]? = some x → i = j := by
  induction L with
  | nil => intro i j x h1; cases h1
  | cons a L ih =>
    have hn := List.nodup_cons.mp h
    intro i j x h1 h2
    cases i with
    | zero =>
      cases j with
      | zero => rfl
      | succ j =>
        rw [List.getElem?_cons_zero] at h1
        rw [List.getElem?_cons_succ] at h2
        cases h1
        exact absurd (List.mem_iff_getElem?.mpr ⟨j, h2⟩) hn.1
    | succ i =>
      rw [List.getElem?_cons_succ] at h1
      cases j with
      | zero =>
        rw [List.getElem?_cons_zero] at h2
        cases h2
        exact absurd (List.mem_iff_getElem?.mpr ⟨i, h1⟩) hn.1
      | succ j =>
        rw [List.getElem?_cons_succ] at h2
        rw [ih hn.2 h1 h2]
theorem lm_inv {A : Nat → Nat} (hA : ∀ i, i < 6 → VM (A i)) {n l : Nat} (hl : l < 2 * n) (hn : n ≤ 3) : ∃ k, k < 2 * n ∧ invN (lm A l) = lm A k := by
  unfold lm
  by_cases e : l % 2 = 0
  · refine ⟨l + 1, by omega, ?_⟩
    rw [if_pos e, if_neg (by omega), show (l + 1) / 2 = l / 2 by omega]
  · refine ⟨l - 1, by omega, ?_⟩
    rw [if_neg e, if_pos (by omega), show (l - 1) / 2 = l / 2 by omega, inv_inv (hA _ (by omega))]
theorem wv_of {A : Nat → Nat} (hA : ∀ i, i < 6 → VM (A i)) {n N : Nat} (h0 : 0 < n) (hn : n ≤ 3) (hN : Fin0 (2 * n) (lm A) N) : Wv N (fun i => (atE (wvL (2 * n) (lm A) N) i).1) := by
  have hv : ∀ l, l < 2 * n → VM (lm A l) := fun l hl => lm_VM hA (by omega)
  have hg := GL.wv hv N
  have hlen := hN.1
  have get : ∀ i, i < N → ∃ e, (wvL (2 * n) (lm A) N)[i]? = some e := fun i hi => get_ex (by rw [hlen]; exact hi)
  have hS : ∀ m, hasM (wvL (2 * n) (lm A) N) m = true ↔ ∃ k, k < N ∧ (atE (wvL (2 * n) (lm A) N) k).1 = m := by
    intro m
    rw [hasM_get]
    constructor
    · rintro ⟨i, e, h1, h2⟩
      exact ⟨i, by rw [← hlen]; exact get_lt h1, by rw [atE_get h1]; exact h2⟩
    · rintro ⟨k, hk, e⟩
      obtain ⟨e2, h2⟩ := get k hk
      exact ⟨k, e2, h2, by rw [← e, atE_get h2]⟩
  have gen : ∀ m, hasM (wvL (2 * n) (lm A) N) m = true → VM m ∧ Gen (2 * n) (lm A) m := by
    intro m hm
    obtain ⟨e, he, rfl⟩ := hasM_iff.mp hm
    exact ⟨(hg.1 e he).1, (hg.1 e he).2.2⟩
  have hthen : ∀ a, hasM (wvL (2 * n) (lm A) N) a = true → ∀ b, hasM (wvL (2 * n) (lm A) N) b = true → hasM (wvL (2 * n) (lm A) N) (thenN a b) = true := by
    intro a ha b hb
    refine (gen b hb).2 (fun b => hasM (wvL (2 * n) (lm A) N) (thenN a b) = true) (fun l hl => fin_step hN ha hl) (fun b hb l hl => ?_)
    show hasM _ _ = true
    rw [← then_assoc]
    exact fin_step hN hb hl
  have hinv : ∀ a, hasM (wvL (2 * n) (lm A) N) a = true → hasM (wvL (2 * n) (lm A) N) (invN a) = true := by
    intro a ha
    refine ((gen a ha).2 (fun a => VM a ∧ hasM (wvL (2 * n) (lm A) N) (invN a) = true) (fun l hl => ⟨hv l hl, ?_⟩) (fun a ha l hl => ⟨ha.1.then (hv l hl), ?_⟩)).2
    · obtain ⟨k, hk, e⟩ := lm_inv hA hl hn
      rw [e]
      exact fin_letters hk
    · rw [inv_then ha.1 (hv l hl)]
      obtain ⟨k, hk, e⟩ := lm_inv hA hl hn
      rw [e]
      exact hthen _ (fin_letters hk) _ ha.2
  have own : ∀ i, i < N → hasM (wvL (2 * n) (lm A) N) (atE (wvL (2 * n) (lm A) N) i).1 = true := fun i hi => (hS _).mpr ⟨i, hi, rfl⟩
  refine ⟨?_, ?_, fun i hi => (gen _ (own i hi)).1, ?_, ?_, ?_⟩
  · obtain ⟨k, hk, _⟩ := (hS _).mp (fin_letters (c := 2 * n) (lt := lm A) (N := N) (l := 0) (by omega))
    omega
  · rw [← hlen]; exact hg.len
  · intro i hi j hj e
    obtain ⟨e1, h1⟩ := get i hi
    obtain ⟨e2, h2⟩ := get j hj
    have e' : (atE (wvL (2 * n) (lm A) N) i).1 = (atE (wvL (2 * n) (lm A) N) j).1 := e
    rw [atE_get h1, atE_get h2] at e'
    refine nodup_get hg.2.1 (x := e1.1) (i := i) (j := j) ?_ ?_
    · rw [List.getElem?_map, h1]; rfl
    · rw [List.getElem?_map, h2, e']; rfl
  · exact fun i hi j hj => (hS _).mp (hthen _ (own i hi) _ (own j hj))
  · exact fun i hi => (hS _).mp (hinv _ (own i hi))
theorem Wv.dom {N : Nat} {f : Nat → Nat} (h : Wv N f) {i : Nat} (hi : i < N) : ∃ k, k < N ∧ f k = isA (dpN (f i)) := by
  obtain ⟨k, hk, e⟩ := h.2.2.2.2.2 i hi
  obtain ⟨j, hj, e2⟩ := h.2.2.2.2.1 i hi k hk
  refine ⟨j, hj, ?_⟩
  rw [e2, e, then_inv (h.2.2.1 i hi), dom_isA (h.2.2.1 i hi).1]
/-! counts over a range -/
def cn (P : Nat → Bool) : Nat → Nat
  | 0 => 0
  | k + 1 => cn P k + if P k = true then 1 else 0
theorem cn_le (P : Nat → Bool) : ∀ k, cn P k ≤ k
  | 0 => Nat.le_refl 0
  | k + 1 => by have := cn_le P k; rw [cn]; split <;> omega
theorem cn_list (P : Nat → Bool) : ∀ k, cn P k = ((List.range k).filter P).length
  | 0 => rfl
  | k + 1 => by
    rw [cn, cn_list P k, List.range_succ, List.filter_append, List.length_append]
    congr 1
    cases e : P k <;> simp [e]
theorem cn_congr {P P' : Nat → Bool} : ∀ k, (∀ i, i < k → P i = P' i) → cn P k = cn P' k
  | 0, _ => rfl
  | k + 1, h => by rw [cn, cn, cn_congr k (fun i hi => h i (by omega)), h k (by omega)]
theorem cn_pos {P : Nat → Bool} {k : Nat} : 0 < cn P k ↔ ∃ i, i < k ∧ P i = true := by
  rw [cn_list, List.length_pos_iff_exists_mem]
  constructor
  · rintro ⟨i, hi⟩
    have := List.mem_filter.mp hi
    exact ⟨i, List.mem_range.mp this.1, this.2⟩
  · rintro ⟨i, hi, h⟩
    exact ⟨i, List.mem_filter.mpr ⟨List.mem_range.mpr hi, h⟩⟩
theorem fil_nodup (P : Nat → Bool) (k : Nat) : ((List.range k).filter P).Nodup := List.Nodup.sublist List.filter_sublist List.nodup_range
theorem cn_bij {P R : Nat → Bool} {k j : Nat} {g : Nat → Nat} (hm : ∀ i, i < k → P i = true → g i < j ∧ R (g i) = true) (hi : ∀ a, a < k → P a = true → ∀ b, b < k → P b = true → g a = g b → a = b) (hs : ∀ b, b < j → R b = true → ∃ a, a < k ∧ P a = true ∧ g a = b) : cn P k = cn R j := by
  rw [cn_list, cn_list]
  refine nodup_bij (f := g) (fil_nodup P k) (fil_nodup R j) (fun x hx => ?_) (fun x hx y hy e => ?_) (fun y hy => ?_)
  · have := List.mem_filter.mp hx
    have := hm x (List.mem_range.mp this.1) this.2
    exact List.mem_filter.mpr ⟨List.mem_range.mpr this.1, this.2⟩
  · have h1 := List.mem_filter.mp hx
    have h2 := List.mem_filter.mp hy
    exact hi x (List.mem_range.mp h1.1) h1.2 y (List.mem_range.mp h2.1) h2.2 e
  · have h1 := List.mem_filter.mp hy
    obtain ⟨a, ha, h2, h3⟩ := hs y (List.mem_range.mp h1.1) h1.2
    exact ⟨a, List.mem_filter.mpr ⟨List.mem_range.mpr ha, h2⟩, h3⟩
/-! groups -/
def gN (N : Nat) (f : Nat → Nat) (s : Nat) : Nat := cn (fun i => dpN (f i) == s && rpN (f i) == s) N
theorem gN_le (N : Nat) (f : Nat → Nat) (s : Nat) : gN N f s ≤ N := cn_le _ N
theorem gN_pos {N : Nat} {f : Nat → Nat} (h : Wv N f) {s : Nat} (hs : s < 32) : 0 < gN N f s ↔ ∃ k, k < N ∧ f k = isA s := by
  unfold gN
  rw [cn_pos]
  constructor
  · rintro ⟨i, hi, e⟩
    rw [Bool.and_eq_true, beq_iff_eq, beq_iff_eq] at e
    obtain ⟨k, hk, e2⟩ := h.dom hi
    exact ⟨k, hk, by rw [e2, e.1]⟩
  · rintro ⟨k, hk, e⟩
    exact ⟨k, hk, by rw [e, dp_isA hs, rp_isA hs, beq_self_eq_true]; rfl⟩
theorem gN_dp {N : Nat} {f : Nat → Nat} (h : Wv N f) {i : Nat} (hi : i < N) : 0 < gN N f (dpN (f i)) := (gN_pos h (dp_lt _)).mpr (h.dom hi)
theorem gN_rp {N : Nat} {f : Nat → Nat} (h : Wv N f) {i : Nat} (hi : i < N) : 0 < gN N f (rpN (f i)) := by
  obtain ⟨k, hk, e⟩ := h.2.2.2.2.2 i hi
  rw [rp_dp (h.2.2.1 i hi), ← e]
  exact gN_dp h hk
/-- idempotents are as many -/
theorem same_idem {N : Nat} {f : Nat → Nat} (h : Wv N f) : cn (fun s => decide (0 < gN N f s)) 32 = cn (fun k => idemN (f k)) N := by
  refine (cn_bij (g := fun k => dpN (f k)) (fun i hi e => ⟨dp_lt _, ?_⟩) (fun a ha e1 b hb e2 e => ?_) (fun s hs e => ?_)).symm
  · exact decide_eq_true (gN_dp h hi)
  · refine h.2.2.2.1 a ha b hb ?_
    rw [isA_idem (h.2.2.1 a ha).1 e1, isA_idem (h.2.2.1 b hb).1 e2]
    exact congrArg isA e
  · obtain ⟨k, hk, e2⟩ := (gN_pos h hs).mp (of_decide_eq_true e)
    exact ⟨k, hk, by show idemN (f k) = true; rw [e2, idem_isA hs], by show dpN (f k) = s; rw [e2, dp_isA hs]⟩
/-! kinds -/
def Dr (N : Nat) (f : Nat → Nat) (s t : Nat) : Prop := ∃ k, k < N ∧ dpN (f k) = s ∧ rpN (f k) = t
theorem Dr.symm {N : Nat} {f : Nat → Nat} (h : Wv N f) {s t : Nat} (d : Dr N f s t) : Dr N f t s := by
  obtain ⟨k, hk, e1, e2⟩ := d
  obtain ⟨j, hj, e⟩ := h.2.2.2.2.2 k hk
  have hv := h.2.2.1 k hk
  exact ⟨j, hj, by rw [e, ← rp_dp hv, e2], by rw [e, rp_dp hv.inv, inv_inv hv, e1]⟩
theorem Dr.trans {N : Nat} {f : Nat → Nat} (h : Wv N f) {s t u : Nat} (d : Dr N f s t) (d2 : Dr N f t u) : Dr N f s u := by
  obtain ⟨k, hk, e1, e2⟩ := d
  obtain ⟨j, hj, e3, e4⟩ := d2
  obtain ⟨i, hi, e⟩ := h.2.2.2.2.1 k hk j hj
  exact ⟨i, hi, by rw [e, dp_then (h.2.2.1 k hk) (h.2.2.1 j hj) (by rw [e2, e3]), e1], by rw [e, rp_then (h.2.2.1 k hk) (h.2.2.1 j hj) (by rw [e2, e3]), e4]⟩
def De (N : Nat) (f : Nat → Nat) (s t : Nat) : Prop := s = t ∨ Dr N f s t
theorem De.symm {N : Nat} {f : Nat → Nat} (h : Wv N f) {s t : Nat} (d : De N f s t) : De N f t s := by
  rcases d with rfl | d
  · exact Or.inl rfl
  · exact Or.inr (d.symm h)
theorem De.trans {N : Nat} {f : Nat → Nat} (h : Wv N f) {s t u : Nat} (d : De N f s t) (d2 : De N f t u) : De N f s u := by
  rcases d with rfl | d
  · exact d2
  · rcases d2 with rfl | d2
    · exact Or.inr d
    · exact Or.inr (d.trans h d2)
/-- what the class's kinds hold when k maps are seen -/
def Kd (N : Nat) (f : Nat → Nat) (k : Nat) (kd : Nat → Nat) : Prop := (∀ s, s < 32 → kd s < 32 ∧ kd (kd s) = kd s) ∧ (∀ s, s < 32 → ∀ t, t < 32 → kd s = kd t → De N f s t) ∧ ∀ i, i < k → kd (dpN (f i)) = kd (rpN (f i))
theorem Kd.zero (N : Nat) (f : Nat → Nat) : Kd N f 0 (fun s => s) := ⟨fun s hs => ⟨hs, rfl⟩, fun s _ t _ e => Or.inl e, fun i hi => by omega⟩
theorem Kd.same {N : Nat} {f : Nat → Nat} {k : Nat} {kd : Nat → Nat} (h : Kd N f k kd) (e : dpN (f k) = rpN (f k)) : Kd N f (k + 1) kd := ⟨h.1, h.2.1, fun i hi => by
  by_cases c : i = k
  · rw [c, e]
  · exact h.2.2 i (by omega)⟩
theorem Kd.next {N : Nat} {f : Nat → Nat} (hw : Wv N f) {k : Nat} (hk : k < N) {kd : Nat → Nat} (h : Kd N f k kd) : Kd N f (k + 1) (fun s => if kd s = kd (rpN (f k)) then kd (dpN (f k)) else kd s) := by
  have hd := dp_lt (f k)
  have hr := rp_lt (f k)
  have hdr : De N f (dpN (f k)) (rpN (f k)) := Or.inr ⟨k, hk, rfl, rfl⟩
  refine ⟨fun s hs => ?_, fun s hs t ht e => ?_, fun i hi => ?_⟩
  · simp only []
    by_cases c : kd s = kd (rpN (f k))
    · rw [if_pos c]
      refine ⟨(h.1 _ hd).1, ?_⟩
      rw [(h.1 _ hd).2]
      split <;> rfl
    · rw [if_neg c, (h.1 s hs).2, if_neg c]
      exact ⟨(h.1 s hs).1, rfl⟩
  · have e' : (if kd s = kd (rpN (f k)) then kd (dpN (f k)) else kd s) = (if kd t = kd (rpN (f k)) then kd (dpN (f k)) else kd t) := e
    by_cases c1 : kd s = kd (rpN (f k))
    · by_cases c2 : kd t = kd (rpN (f k))
      · exact h.2.1 s hs t ht (by rw [c1, c2])
      · rw [if_pos c1, if_neg c2] at e'
        exact (h.2.1 s hs _ hr c1).trans hw ((hdr.symm hw).trans hw (h.2.1 _ hd t ht e'))
    · by_cases c2 : kd t = kd (rpN (f k))
      · rw [if_neg c1, if_pos c2] at e'
        exact (h.2.1 s hs _ hd e').trans hw (hdr.trans hw (h.2.1 _ hr t ht c2.symm))
      · rw [if_neg c1, if_neg c2] at e'
        exact h.2.1 s hs t ht e'
  · show (if _ then _ else _) = (if _ then _ else _)
    by_cases c : i = k
    · subst c
      rw [if_pos (rfl : kd (rpN (f i)) = kd (rpN (f i)))]
      split <;> rfl
    · rw [h.2.2 i (by omega)]
def lsB (N : Nat) (f : Nat → Nat) (e : Nat) : Nat → Bool
  | 0 => true
  | k + 1 => lsB N f e k && (!(domN (f k) == e) || decide (e ≤ domN (invN (f k))))
theorem lsB_iff {N : Nat} {f : Nat → Nat} {e : Nat} : ∀ k, lsB N f e k = true ↔ ∀ i, i < k → domN (f i) = e → e ≤ domN (invN (f i))
  | 0 => ⟨fun _ i hi => by omega, fun _ => rfl⟩
  | k + 1 => by
    rw [lsB, Bool.and_eq_true, lsB_iff k]
    constructor
    · rintro ⟨h1, h2⟩ i hi e1
      by_cases c : i = k
      · subst c
        rw [e1, beq_self_eq_true] at h2
        exact of_decide_eq_true h2
      · exact h1 i (by omega) e1
    · intro h
      refine ⟨fun i hi => h i (by omega), ?_⟩
      by_cases c : domN (f k) = e
      · rw [decide_eq_true (h k (by omega) c), Bool.or_true]
      · rw [beq_eq_false_iff_ne.mpr c]; rfl
theorem dom_eq {m : Nat} (hm : m < 7776) {s : Nat} (hs : s < 32) : domN m = isA s ↔ dpN m = s := by
  rw [dom_isA hm]
  constructor
  · intro e
    have := congrArg dpN e
    rw [dp_isA (dp_lt _), dp_isA hs] at this
    exact this
  · intro e; rw [e]
theorem ran_isA {m : Nat} (hm : VM m) : domN (invN m) = isA (rpN m) := by rw [dom_isA hm.inv.1, rp_dp hm]
theorem same_kinds {N : Nat} {f : Nat → Nat} (h : Wv N f) {kd : Nat → Nat} (hk : Kd N f N kd) : cn (fun s => decide (0 < gN N f s) && kd s == s) 32 = cn (fun k => idemN (f k) && lsB N f (f k) N) N := by
  have made : ∀ s t, s < 32 → 0 < gN N f s → De N f s t → 0 < gN N f t := by
    intro s t hs hg d
    rcases d with rfl | ⟨k, hk, e1, e2⟩
    · exact hg
    · rw [← e2]; exact gN_rp h hk
  refine (cn_bij (g := fun k => kd (dpN (f k))) (fun i hi e => ?_) (fun a ha e1 b hb e2 e => ?_) (fun s hs e => ?_)).symm
  · have h1 := hk.1 _ (dp_lt (f i))
    refine ⟨h1.1, ?_⟩
    show (decide _ && _) = true
    rw [h1.2, beq_self_eq_true, Bool.and_true]
    exact decide_eq_true (made _ _ (dp_lt _) (gN_dp h hi) (hk.2.1 _ (dp_lt _) _ h1.1 h1.2.symm))
  · rw [Bool.and_eq_true, lsB_iff] at e1 e2
    have ia := isA_idem (h.2.2.1 a ha).1 e1.1
    have ib := isA_idem (h.2.2.1 b hb).1 e2.1
    refine h.2.2.2.1 a ha b hb ?_
    have le : ∀ x y, x < N → y < N → f x = isA (dpN (f x)) → f y = isA (dpN (f y)) → (∀ i, i < N → domN (f i) = f x → f x ≤ domN (invN (f i))) → De N f (dpN (f x)) (dpN (f y)) → f x ≤ f y := by
      intro x y hx hy ix iy lx d
      rcases d with d | ⟨k, hk, d1, d2⟩
      · rw [ix, iy, d]; exact Nat.le_refl _
      · have := lx k hk (by rw [ix]; exact (dom_eq (h.2.2.1 k hk).1 (dp_lt _)).mpr d1)
        rw [ran_isA (h.2.2.1 k hk), d2, ← iy] at this
        exact this
    have d := hk.2.1 _ (dp_lt (f a)) _ (dp_lt (f b)) e
    exact Nat.le_antisymm (le a b ha hb ia ib e1.2 d) (le b a hb ha ib ia e2.2 (d.symm h))
  · rw [Bool.and_eq_true, beq_iff_eq] at e
    obtain ⟨k0, hk0, e0⟩ := (gN_pos h hs).mp (of_decide_eq_true e.1)
    obtain ⟨m, ⟨t, ht, hgt, dt, hm⟩, hmin⟩ := pk_least (fun m => ∃ t, t < 32 ∧ 0 < gN N f t ∧ De N f s t ∧ m = isA t) ⟨isA s, s, hs, of_decide_eq_true e.1, Or.inl rfl, rfl⟩
    obtain ⟨k, hkN, ek⟩ := (gN_pos h ht).mp hgt
    have hdt : dpN (f k) = t := by rw [ek, dp_isA ht]
    refine ⟨k, hkN, ?_, ?_⟩
    · rw [Bool.and_eq_true, lsB_iff]
      refine ⟨by rw [ek, idem_isA ht], fun i hi e1 => ?_⟩
      rw [ek] at e1 ⊢
      have d1 := (dom_eq (h.2.2.1 i hi).1 ht).mp e1
      rw [ran_isA (h.2.2.1 i hi)]
      refine Nat.le_of_not_lt fun c => hmin _ (hm ▸ c) ⟨rpN (f i), rp_lt _, gN_rp h hi, dt.trans h (Or.inr ⟨i, hi, d1, rfl⟩), rfl⟩
    · show kd (dpN (f k)) = s
      rw [hdt]
      rcases dt with rfl | ⟨i, hi, d1, d2⟩
      · exact e.2
      · rw [← d2, ← hk.2.2 i hi, d1, e.2]
/-! the greatest group -/
def mxN (g : Nat → Nat) : Nat → Nat
  | 0 => 0
  | k + 1 => max (mxN g k) (g k)
theorem mxN_ub (g : Nat → Nat) : ∀ k i, i < k → g i ≤ mxN g k
  | k + 1, i, h => by
    rw [mxN]
    by_cases e : i = k
    · subst e; exact Nat.le_max_right _ _
    · exact Nat.le_trans (mxN_ub g k i (by omega)) (Nat.le_max_left _ _)
theorem mxN_le {g : Nat → Nat} {B : Nat} : ∀ k, (∀ i, i < k → g i ≤ B) → mxN g k ≤ B
  | 0, _ => Nat.zero_le _
  | k + 1, h => by rw [mxN]; exact Nat.max_le.mpr ⟨mxN_le k fun i hi => h i (by omega), h k (by omega)⟩
def grp (N : Nat) (f : Nat → Nat) (e : Nat) : Nat := cn (fun j => domN (f j) == e && domN (invN (f j)) == e) N
theorem grp_gN {N : Nat} {f : Nat → Nat} (h : Wv N f) {s : Nat} (hs : s < 32) : grp N f (isA s) = gN N f s := by
  refine cn_congr N (fun i hi => ?_)
  have hv := h.2.2.1 i hi
  rw [Bool.eq_iff_iff, Bool.and_eq_true, Bool.and_eq_true, beq_iff_eq, beq_iff_eq, beq_iff_eq, beq_iff_eq, dom_eq hv.1 hs, dom_eq hv.inv.1 hs, ← rp_dp hv]
theorem same_great {N : Nat} {f : Nat → Nat} (h : Wv N f) : mxN (gN N f) 32 = mxN (fun k => if idemN (f k) = true then grp N f (f k) else 0) N := by
  refine Nat.le_antisymm (mxN_le 32 fun s hs => ?_) (mxN_le N fun k hk => ?_)
  · by_cases c : 0 < gN N f s
    · obtain ⟨k, hk, e⟩ := (gN_pos h hs).mp c
      refine Nat.le_trans ?_ (mxN_ub _ N k hk)
      show _ ≤ if _ then _ else _
      rw [e, if_pos (idem_isA hs), grp_gN h hs]
      exact Nat.le_refl _
    · omega
  · show (if _ then _ else _) ≤ _
    split
    · rename_i c
      rw [isA_idem (h.2.2.1 k hk).1 c, grp_gN h (dp_lt _)]
      exact mxN_ub _ 32 _ (dp_lt _)
    · exact Nat.zero_le _
/-! clean -/
def hwB (N : Nat) (f : Nat → Nat) (t : Nat) : Bool := (List.range 32).any fun s => decide (0 < gN N f s) && subB s t
def hbS (f : Nat → Nat) (m : Nat) : Nat → Bool
  | 0 => false
  | k + 1 => hbS f m k || (idemN (f k) && belN (f k) m)
theorem hbS_iff {f : Nat → Nat} {m : Nat} : ∀ k, hbS f m k = true ↔ ∃ i, i < k ∧ idemN (f i) = true ∧ belN (f i) m = true
  | 0 => ⟨(fun c => by cases c), (fun ⟨i, hi, _⟩ => by omega)⟩
  | k + 1 => by
    rw [hbS, Bool.or_eq_true, hbS_iff k, Bool.and_eq_true]
    constructor
    · rintro (⟨i, hi, h⟩ | h)
      · exact ⟨i, by omega, h⟩
      · exact ⟨k, by omega, h⟩
    · rintro ⟨i, hi, h⟩
      by_cases c : i = k
      · subst c; exact Or.inr h
      · exact Or.inl ⟨i, by omega, h⟩
theorem same_below {N : Nat} {f : Nat → Nat} (h : Wv N f) {i : Nat} (hi : i < N) : hwB N f (fpN (f i)) = hbS f (f i) N := by
  rw [Bool.eq_iff_iff, hbS_iff, hwB, List.any_eq_true]
  constructor
  · rintro ⟨s, hs, e⟩
    rw [Bool.and_eq_true, decide_eq_true_eq] at e
    have hs := List.mem_range.mp hs
    obtain ⟨k, hk, ek⟩ := (gN_pos h hs).mp e.1
    exact ⟨k, hk, by rw [ek, idem_isA hs], by rw [ek, bel_sub (isA_lt s) (idem_isA hs) (h.2.2.1 i hi).1, dp_isA hs]; exact e.2⟩
  · rintro ⟨k, hk, e1, e2⟩
    refine ⟨dpN (f k), List.mem_range.mpr (dp_lt _), ?_⟩
    rw [Bool.and_eq_true, decide_eq_true_eq]
    refine ⟨gN_dp h hk, ?_⟩
    rw [← bel_sub (h.2.2.1 k hk).1 e1 (h.2.2.1 i hi).1]
    exact e2
/-! the core -/
def c1N (g : Nat → Nat) : Nat → Nat
  | 0 => 31
  | k + 1 => if 0 < g k then c1N g k &&& k else c1N g k
def c8N (f : Nat → Nat) : Nat → Nat
  | 0 => 31
  | k + 1 => if idemN (f k) = true then c8N f k &&& dpN (f k) else c8N f k
theorem c1N_lt (g : Nat → Nat) : ∀ k, c1N g k < 32
  | 0 => (by decide : 31 < 32)
  | k + 1 => by rw [c1N]; split; exact and_lt32 (c1N_lt g k); exact c1N_lt g k
theorem c8N_lt (f : Nat → Nat) : ∀ k, c8N f k < 32
  | 0 => (by decide : 31 < 32)
  | k + 1 => by rw [c8N]; split; exact and_lt32 (c8N_lt f k); exact c8N_lt f k
theorem bit31 : ∀ p, p < 5 → (31 : Nat).testBit p = true := lt5 rfl rfl rfl rfl rfl
theorem c1N_bit {g : Nat → Nat} {p : Nat} (hp : p < 5) : ∀ k, (c1N g k).testBit p = true ↔ ∀ s, s < k → 0 < g s → s.testBit p = true
  | 0 => ⟨fun _ s hs => by omega, fun _ => bit31 p hp⟩
  | k + 1 => by
    rw [c1N]
    split
    · rename_i c
      rw [Nat.testBit_and, Bool.and_eq_true, c1N_bit hp k]
      constructor
      · rintro ⟨h1, h2⟩ s hs hg
        by_cases e : s = k
        · subst e; exact h2
        · exact h1 s (by omega) hg
      · intro h
        exact ⟨fun s hs => h s (by omega), h k (by omega) c⟩
    · rename_i c
      rw [c1N_bit hp k]
      constructor
      · intro h1 s hs hg
        by_cases e : s = k
        · subst e; exact absurd hg c
        · exact h1 s (by omega) hg
      · intro h s hs
        exact h s (by omega)
theorem c8N_bit {f : Nat → Nat} {p : Nat} (hp : p < 5) : ∀ k, (c8N f k).testBit p = true ↔ ∀ i, i < k → idemN (f i) = true → (dpN (f i)).testBit p = true
  | 0 => ⟨fun _ s hs => by omega, fun _ => bit31 p hp⟩
  | k + 1 => by
    rw [c8N]
    split
    · rename_i c
      rw [Nat.testBit_and, Bool.and_eq_true, c8N_bit hp k]
      constructor
      · rintro ⟨h1, h2⟩ s hs hg
        by_cases e : s = k
        · subst e; exact h2
        · exact h1 s (by omega) hg
      · intro h
        exact ⟨fun s hs => h s (by omega), h k (by omega) c⟩
    · rename_i c
      rw [c8N_bit hp k]
      constructor
      · intro h1 s hs hg
        by_cases e : s = k
        · subst e; exact absurd hg c
        · exact h1 s (by omega) hg
      · intro h s hs
        exact h s (by omega)
theorem same_core {N : Nat} {f : Nat → Nat} (h : Wv N f) : c1N (gN N f) 32 = c8N f N := by
  refine set_ext (c1N_lt _ _) (c8N_lt _ _) (fun p hp => ?_)
  rw [c1N_bit hp, c8N_bit hp]
  constructor
  · exact fun hs i hi _ => hs _ (dp_lt _) (gN_dp h hi)
  · intro hs s h32 hg
    obtain ⟨k, hk, e⟩ := (gN_pos h h32).mp hg
    have := hs k hk (by rw [e, idem_isA h32])
    rw [e, dp_isA h32] at this
    exact this
theorem core_made {N : Nat} {f : Nat → Nat} (h : Wv N f) : ∃ k, k < N ∧ f k = isA (c8N f N) := by
  have key : ∀ j, j ≤ N → (∀ i, i < j → idemN (f i) = false) ∨ ∃ k, k < N ∧ f k = isA (c8N f j) := by
    intro j
    induction j with
    | zero => exact fun _ => Or.inl fun i hi => by omega
    | succ j ih =>
      intro hj
      rw [c8N]
      cases e : idemN (f j)
      · rw [if_neg (by decide)]
        rcases ih (by omega) with h1 | h1
        · refine Or.inl fun i hi => ?_
          by_cases c : i = j
          · rw [c]; exact e
          · exact h1 i (by omega)
        · exact Or.inr h1
      · rw [if_pos rfl]
        refine Or.inr ?_
        have ej := isA_idem (h.2.2.1 j (by omega)).1 e
        rcases ih (by omega) with h1 | ⟨k, hk, ek⟩
        · have : c8N f j = 31 := by
            clear ih e ej
            induction j with
            | zero => rfl
            | succ i ih2 =>
              rw [c8N, h1 i (by omega), if_neg (by decide)]
              exact ih2 (by omega) (fun x hx => h1 x (by omega))
          rw [this]
          refine ⟨j, by omega, ?_⟩
          have h31 : ∀ s, s < 32 → 31 &&& s = s := by decide
          rw [h31 _ (dp_lt _)]
          exact ej
        · obtain ⟨i, hi, ei⟩ := h.2.2.2.2.1 k hk j (by omega)
          refine ⟨i, hi, ?_⟩
          rw [ei, ek]
          conv => lhs; rw [ej]
          rw [isA_then (c8N_lt _ _) (dp_lt _)]
  rcases key N (Nat.le_refl N) with h1 | h1
  · obtain ⟨k, hk, e⟩ := h.dom h.1
    have := h1 k hk
    rw [e, idem_isA (dp_lt _)] at this
    cases this
  · exact h1
def fsB (g : Nat → Nat) (k : Nat) : Bool := (List.range k).all fun i => !(g i == g k)
theorem fsB_iff {g : Nat → Nat} {k : Nat} : fsB g k = true ↔ ∀ i, i < k → g i ≠ g k := by
  simp only [fsB, List.all_eq_true, List.mem_range, Bool.not_eq_true', beq_eq_false_iff_ne, ne_eq]
/-- as many different ones as members of a set -/
theorem cn_first {g : Nat → Nat} {N : Nat} {K : List Nat} (hK : K.Nodup) (h : ∀ x, x ∈ K ↔ ∃ i, i < N ∧ g i = x) : cn (fsB g) N = K.length := by
  rw [cn_list, ← List.length_map (f := g)]
  refine nodup_eq (nodup_map (fil_nodup _ _) fun x hx y hy e => ?_) hK (fun x => ?_)
  · have h1 := List.mem_filter.mp hx
    have h2 := List.mem_filter.mp hy
    rcases Nat.lt_trichotomy x y with l | l | l
    · exact absurd e (fsB_iff.mp h2.2 x l)
    · exact l
    · exact absurd e.symm (fsB_iff.mp h1.2 y l)
  · rw [h, List.mem_map]
    constructor
    · rintro ⟨i, hi, e⟩
      exact ⟨i, List.mem_range.mp (List.mem_filter.mp hi).1, e⟩
    · rintro ⟨i, hi, e⟩
      obtain ⟨j, hj, hm⟩ := pk_least (fun j => g j = x) ⟨i, e⟩
      have hji : j ≤ i := Nat.le_of_not_lt fun c => hm i c e
      exact ⟨j, List.mem_filter.mpr ⟨List.mem_range.mpr (by omega), fsB_iff.mpr fun a ha c => hm a ha (by rw [c, hj])⟩, hj⟩
theorem same_core_count {N : Nat} {f : Nat → Nat} (h : Wv N f) : gN N f (c8N f N) = cn (fsB fun i => thenN (isA (c8N f N)) (f i)) N := by
  obtain ⟨k0, hk0, e0⟩ := core_made h
  have hc := c8N_lt f N
  have hsub : ∀ i, i < N → subB (c8N f N) (dpN (f i)) = true := by
    intro i hi
    refine subB_iff.mpr fun p hp hb => ?_
    rw [← same_core h, c1N_bit hp] at hb
    exact hb _ (dp_lt _) (gN_dp h hi)
  have hsubr : ∀ i, i < N → subB (c8N f N) (rpN (f i)) = true := by
    intro i hi
    refine subB_iff.mpr fun p hp hb => ?_
    rw [← same_core h, c1N_bit hp] at hb
    exact hb _ (rp_lt _) (gN_rp h hi)
  unfold gN
  rw [cn_list, ← List.length_map (f := f)]
  refine (cn_first (nodup_map (fil_nodup _ _) fun x hx y hy e => ?_) (fun x => ?_)).symm
  · have h1 := List.mem_range.mp (List.mem_filter.mp hx).1
    have h2 := List.mem_range.mp (List.mem_filter.mp hy).1
    exact h.2.2.2.1 x h1 y h2 e
  · rw [List.mem_map]
    constructor
    · rintro ⟨i, hi, e⟩
      have h1 := List.mem_filter.mp hi
      have h2 := h1.2
      rw [Bool.and_eq_true, beq_iff_eq, beq_iff_eq] at h2
      have hiN := List.mem_range.mp h1.1
      refine ⟨i, hiN, ?_⟩
      show thenN _ _ = x
      rw [← h2.1, core_own (h.2.2.1 i hiN)]
      exact e
    · rintro ⟨i, hi, e⟩
      obtain ⟨j, hj, ej⟩ := h.2.2.2.2.1 k0 hk0 i hi
      rw [e0] at ej
      have hd : dpN (f j) = c8N f N := by rw [ej, core_dp hc (h.2.2.1 i hi) (hsub i hi)]
      refine ⟨j, List.mem_filter.mpr ⟨List.mem_range.mpr hj, ?_⟩, by rw [ej]; exact e⟩
      show (_ && _) = true
      rw [Bool.and_eq_true, beq_iff_eq, beq_iff_eq]
      refine ⟨hd, (sub_pc hc (rp_lt _) (hsubr j hj) ?_).symm⟩
      rw [← pc_dr (h.2.2.1 j hj), hd]
