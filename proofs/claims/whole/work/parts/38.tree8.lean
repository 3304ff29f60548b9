/-! PURE 19: trees of the reference; what is told of a tree -/
def cd : List Nat → Nat
  | [] => 0
  | l :: t => 7 * cd t + l + 1
theorem cd_inj : ∀ {v w : List Nat}, rd v → rd w → cd v = cd w → v = w
  | [], [], _, _, _ => rfl
  | [], b :: s, _, _, h => by have h' : 0 = 7 * cd s + b + 1 := h; omega
  | a :: t, [], _, _, h => by have h' : 7 * cd t + a + 1 = 0 := h; omega
  | a :: t, b :: s, h1, h2, h => by
    have h' : 7 * cd t + a + 1 = 7 * cd s + b + 1 := h
    have ha := h1.1
    have hb := h2.1
    have e1 : a = b := by omega
    have e2 : cd t = cd s := by omega
    rw [e1, cd_inj h1.2.1 h2.2.1 e2]
theorem cd_lt : ∀ {w : List Nat}, rd w → cd w < 7 ^ w.length
  | [], _ => by show 0 < 1; omega
  | a :: t, h => by
    have := cd_lt h.2.1
    have ha := h.1
    show 7 * cd t + a + 1 < 7 ^ (t.length + 1)
    rw [Nat.pow_succ]
    omega
theorem TG.short {P : List (List Nat)} (h : TG P) : ∀ (i : Nat) (w : List Nat), P[i]? = some w → w.length ≤ i := by
  intro i
  induction i using Nat.strongRecOn with
  | ind i ih =>
    intro w hw
    cases w with
    | nil => exact Nat.zero_le _
    | cons l t =>
      obtain ⟨j, hj, ht⟩ := h.2.2.2 i l t hw
      have := ih j hj t ht
      show t.length + 1 ≤ i
      omega
theorem TG.cd63 {P : List (List Nat)} (h : TG P) (hlen : P.length ≤ 13) {w : List Nat} (hw : w ∈ P) : cd w < 2 ^ 63 := by
  obtain ⟨i, hi⟩ := wmem_get hw
  have h1 := h.short i w hi
  have h2 := wget_lt hi
  have h3 := cd_lt (h.2.2.1 w hw)
  have h4 : 7 ^ w.length ≤ 7 ^ 12 := Nat.pow_le_pow_right (by decide) (by omega)
  have h5 : 7 ^ 12 < 2 ^ 63 := by decide
  omega
def lr (n : Nat) : Int64 := Int64.ofNat n
theorem lr_toInt {n : Nat} (h : n < 2 ^ 63) : (lr n).toInt = n := Int64.toInt_ofNat_of_lt h
theorem lr_inj {a b : Nat} (ha : a < 2 ^ 63) (hb : b < 2 ^ 63) : lr a = lr b ↔ a = b := by
  constructor
  · intro h
    have := congrArg Int64.toInt h
    rw [lr_toInt ha, lr_toInt hb] at this
    omega
  · intro h; rw [h]
theorem lr_I {n : Nat} (h : n < 2 ^ 31) : (nI n).toInt64 = lr n := Int64.toInt_inj.mp (by rw [Int32.toInt_toInt64, nI_toInt h, lr_toInt (by omega)])
theorem lr_step {c l : Nat} (hl : l < 6) : (((7 : Int64) * lr c) + (nI l).toInt64) + (1 : Int64) = lr (7 * c + l + 1) := by
  rw [lr_I (by omega)]
  show (lr 7 * lr c + lr l) + lr 1 = _
  unfold lr
  rw [← Int64.ofNat_mul, ← Int64.ofNat_add, ← Int64.ofNat_add]
theorem lgc (x y : Int64) : lg_cmp x y = 0 ↔ x = y := by
  unfold lg_cmp
  by_cases h : x = y
  · subst h
    rw [if_neg (Int64.lt_irrefl), if_pos rfl]
    exact ⟨fun _ => rfl, fun _ => rfl⟩
  · by_cases g : x > y
    · rw [if_pos g]
      exact ⟨fun c => absurd c (by decide), fun c => absurd c h⟩
    · rw [if_neg g, if_neg h]
      exact ⟨fun c => absurd c (by decide), fun c => absurd c h⟩
theorem updL_s {f : Nat → Int64} {k : Nat} {x : Int64} : vp_updL f k x k = x := if_pos rfl
theorem updL_n {f : Nat → Int64} {k j : Nat} {x : Int64} (h : j ≠ k) : vp_updL f k x j = f j := if_neg h
def RT (P : List (List Nat)) (pl : Int32) (pa le de : AR) (ro : Nat → Int64) : Prop := pl = nI P.length ∧ ∀ (k : Nat) (w : List Nat), P[k]? = some w → de k = nI w.length ∧ ro k = lr (cd w) ∧ ∀ l t, w = l :: t → le k = nI l ∧ ∀ j : Nat, P[j]? = some t → pa k = nI j
theorem cl1y {body : (Int32 → Prop) → Int32 → Prop} (s N : Nat) (hsN : s ≤ N) (B : Nat → Bool) (hs : ∀ k, s ≤ k → k < N → B k = true → ∀ rc : Int32 → Prop, rc (nI k + 1) → body rc (nI k)) (hb : ∀ k, s ≤ k → k < N → B k = false → ∀ rc : Int32 → Prop, body rc (nI k)) (he : (∀ k, s ≤ k → k < N → B k = true) → ∀ rc, body rc (nI N)) : ∃ n, lpW1 body n (nI s) := by
  have key : ∀ j k, s ≤ k → k + j = N → (∀ i, s ≤ i → i < k → B i = true) → lpW1 body (j + 1) (nI k) := by
    intro j
    induction j with
    | zero => intro k hs hk hB; obtain rfl : k = N := by omega
              exact he hB _
    | succ j ih =>
      intro k hsk hk hB
      cases e : B k
      · exact hb k hsk (by omega) e _
      · refine hs k hsk (by omega) e _ ?_
        rw [nI_1]
        refine ih (k + 1) (by omega) (by omega) (fun i hi1 hi => ?_)
        by_cases c : i = k
        · rw [c]; exact e
        · exact hB i hi1 (by omega)
  exact ⟨N - s + 1, key (N - s) s (Nat.le_refl s) (by omega) (fun i _ hi => by omega)⟩
theorem cl2y {α : Type} {body : (α → Int32 → Prop) → α → Int32 → Prop} (s N : Nat) (hsN : s ≤ N) (F : Nat → α) (hs : ∀ k, s ≤ k → k < N → ∀ rc : α → Int32 → Prop, rc (F (k + 1)) (nI k + 1) → body rc (F k) (nI k)) (he : ∀ rc, body rc (F N) (nI N)) : ∃ n, lpW2 body n (F s) (nI s) := by
  have key : ∀ j k, s ≤ k → k + j = N → lpW2 body (j + 1) (F k) (nI k) := by
    intro j
    induction j with
    | zero => intro k _ hk; obtain rfl : k = N := by omega
              exact he _
    | succ j ih => intro k hsk hk; exact hs k hsk (by omega) _ (by rw [nI_1]; exact ih (k + 1) (by omega) (by omega))
  exact ⟨N - s + 1, key (N - s) s (Nat.le_refl s) (by omega)⟩
theorem TG.pos {P : List (List Nat)} (h : TG P) : 1 ≤ P.length := wget_lt h.1
theorem TG.cons {P : List (List Nat)} (h : TG P) {k : Nat} (h1 : 1 ≤ k) {w : List Nat} (hk : P[k]? = some w) : ∃ l t j, w = l :: t ∧ l < 6 ∧ j < k ∧ P[j]? = some t := by
  cases w with
  | nil =>
    have := wget_inj h.2.1 hk h.1
    omega
  | cons l t =>
    obtain ⟨j, hj, ht⟩ := h.2.2.2 k l t hk
    exact ⟨l, t, j, rfl, (h.2.2.1 _ (wget_mem hk)).1, hj, ht⟩
theorem child8 {P : List (List Nat)} (hP : TG P) {pl : Int32} {pa le de : AR} {ro : Nat → Int64} (h : RT P pl pa le de ro) {a : Nat} {w : List Nat} (ha : P[a]? = some w) {l : Nat} (hl : l < 6) (hl13 : P.length ≤ 13) (hlen : ¬ l :: w ∈ P → P.length < 13) {Q : Int32 → Int32 → AR → AR → AR → (Nat → Int64) → Prop} (h1 : ∀ j : Nat, P[j]? = some (l :: w) → Q (nI j) pl pa le de ro) (h2 : ¬ l :: w ∈ P → ∀ pa le de ro, RT (P ++ [l :: w]) (nI (P.length + 1)) pa le de ro → Q (nI P.length) (nI (P.length + 1)) pa le de ro) : wp_X8_childOf (nI a) (nI l) pl pa le de ro Q := by
  obtain ⟨hpl, hk⟩ := h
  subst hpl
  have hal := wget_lt ha
  refine cl1y (body := wb_X8_childOf_2 (nI a) (nI l) (nI P.length) pa le de ro Q) 1 P.length hP.pos (fun k => !decide (P[k]? = some (l :: w))) ?_ ?_ ?_
  · intro k hk1 hkN hB rc hrc
    obtain ⟨v, hv⟩ := wget_ex hkN
    obtain ⟨b, t, j, rfl, hb, hj, ht⟩ := hP.cons hk1 hv
    have hkk := (hk k _ hv).2.2 b t rfl
    have hjl := wget_lt ht
    refine br_ge hkN (by omega) ⟨vp_in_nI (by omega) (by decide), ?_⟩
    rw [cl_nI (by omega), hkk.1, hkk.2 j ht]
    refine ⟨fun _ x hx => by subst hx; exact hrc, fun c => ⟨vp_in_nI (by omega) (by decide), fun _ x hx => by subst hx; exact hrc, fun c2 => ?_⟩⟩
    exfalso
    have e1 : j = a := (nI_eq (by omega) (by omega)).mp c
    have e2 : b = l := (nI_eq (by omega) (by omega)).mp c2
    subst e1 e2
    rw [ha] at ht
    cases ht
    rw [decide_eq_true hv] at hB
    cases hB
  · intro k hk1 hkN hB rc
    have hv : P[k]? = some (l :: w) := by
      rw [Bool.not_eq_false', decide_eq_true_eq] at hB
      exact hB
    have hkk := (hk k _ hv).2.2 l w rfl
    refine br_ge hkN (by omega) ⟨vp_in_nI (by omega) (by decide), ?_⟩
    rw [cl_nI (by omega), hkk.1, hkk.2 a ha]
    exact ⟨fun c => absurd rfl c, fun _ => ⟨vp_in_nI (by omega) (by decide), fun c => absurd rfl c, fun _ => h1 k hv⟩⟩
  · intro hB rc
    have hno : ¬ l :: w ∈ P := fun c => by
      obtain ⟨k, hv⟩ := wmem_get c
      have hkl := wget_lt hv
      have : 1 ≤ k := by
        rcases Nat.eq_zero_or_pos k with rfl | h
        · rw [hP.1] at hv; cases hv
        · exact h
      have := hB k this hkl
      rw [decide_eq_true hv] at this
      cases this
    have hl2 := hlen hno
    refine br_end (Nat.le_refl _) (by omega) ?_
    have i1 : vp_in (nI P.length) 13 := vp_in_nI hl2 (by decide)
    have i2 : vp_in (nI a) 13 := vp_in_nI (by omega) (by decide)
    rw [nI_1, nI_pred, cl_nI (by omega), cl_nI (by omega), (hk a w ha).1, (hk a w ha).2.1, nI_1, lr_step hl]
    refine ⟨i1, i1, i2, i1, i2, i1, h2 hno _ _ _ _ ⟨by rw [List.length_append]; rfl, fun k v hv => ?_⟩⟩
    rcases wapp_get hv with ⟨hkl, hv2⟩ | ⟨rfl, rfl⟩
    · have h3 := hk k v hv2
      rw [upd_n (by omega), updL_n (by omega), upd_n (by omega), upd_n (by omega)]
      refine ⟨h3.1, h3.2.1, fun m t e => ⟨(h3.2.2 m t e).1, fun j hj => ?_⟩⟩
      rcases wapp_get hj with ⟨_, hj⟩ | ⟨_, ht⟩
      · exact (h3.2.2 m t e).2 j hj
      · exfalso
        subst e
        exact hno (ht ▸ hP.tail (wget_mem hv2))
    · rw [upd_s, updL_s, upd_s, upd_s]
      refine ⟨rfl, rfl, fun m t e => ?_⟩
      cases e
      refine ⟨rfl, fun j hj => ?_⟩
      have hP2 : (P ++ [l :: w])[a]? = some w := wget_app ha
      rcases wapp_get hj with ⟨_, hj⟩ | ⟨_, ht⟩
      · rw [wget_inj hP.2.1 hj ha]
      · have := congrArg List.length ht
        simp at this
theorem lay8t {x : Nat → Nat} {n j : Nat} (hn : n ≤ 12) (hj : j < 4) {st : AR} (hst : st (6 + j) = nI n) (hx : ∀ i, i < n → x i < 6 ∧ st (10 + 12 * j + i) = nI (x i)) {pl en : Int32} {pa le de : AR} {ro : Nat → Int64} {Q : Int32 → Int32 → AR → AR → AR → (Nat → Int64) → Prop} (h : ∀ pa le de ro (e : Nat), RT (tP x n) (nI (tP x n).length) pa le de ro → (tP x n)[e]? = some (tw x n) → Q (nI (tP x n).length) (nI e) pa le de ro) : wp_X8_layTree (nI j) pl en st pa le de ro Q := by
  have z13 : vp_in (0 : Int32) 13 := vp_in_nI (n := 0) (by decide) (by decide)
  refine ⟨z13, z13, z13, z13, ?_⟩
  have h0 : RT (tP x 0) 1 (upd pa 0 (-6)) (upd le 0 (-6)) (upd de 0 0) (vp_updL ro 0 0) := by
    refine ⟨rfl, fun k w hk => ?_⟩
    have hkl := wget_lt hk
    have hkl' : k < 1 := hkl
    obtain rfl : k = 0 := by omega
    obtain rfl : [] = w := Option.some.inj hk
    exact ⟨upd_s, updL_s, fun l t e => by cases e⟩
  have e6 : (6 : Int32) + nI j = nI (6 + j) := by rw [i6, nI_add]
  have e10 : ∀ k, ((10 : Int32) + (12 : Int32) * nI j) + nI k = nI (10 + 12 * j + k) := fun k => by
    rw [show (12 : Int32) = nI 12 from rfl, show (10 : Int32) = nI 10 from rfl, pk_mul, nI_add, nI_add]
  refine cl7r (body := wb_X8_layTree_42 st (nI j) Q) n (fun k pl en pa le de ro => ∃ e : Nat, en = nI e ∧ pl = nI (tP x k).length ∧ RT (tP x k) pl pa le de ro ∧ (tP x k)[e]? = some (tw x k)) ?_ ?_ ⟨0, rfl, rfl, h0, rfl⟩
  · rintro k hk pl en pa le de ro ⟨e, rfl, rfl, hRT, he⟩ rc hrc
    have hok := tP_ok k (fun i hi => (hx i (by omega)).1)
    have hok2 := tP_ok (k + 1) (fun i hi => (hx i (by omega)).1)
    have hel := wget_lt he
    have hlen := hok.2.2
    have hxk := (hx k hk).1
    unfold wb_X8_layTree_42
    rw [e6, e10, cl_nI (by omega), cl_nI (by omega), hst, (hx k hk).2]
    refine ⟨vp_in_nI (by omega) (by decide), br_ge hk (by omega) ⟨vp_in_nI (by omega) (by decide), fun y hy => ?_⟩⟩
    subst hy
    have down : nxt (tw x k) (x k) = x k :: tw x k → wp_X8_layTree_106 st (nI j) (nI k) (nI (x k)) (nI (tP x k).length) (nI e) pa le de ro rc Q := by
      intro en
      have etw : tw x (k + 1) = x k :: tw x k := en
      refine child8 hok.1 hRT he hxk (by omega) (fun _ => by omega) (fun j2 hj2 y hy => ?_) (fun hno pa le de ro hRT2 y hy => ?_)
      · subst hy
        have etP : tP x (k + 1) = tP x k := by rw [tP, etw, addW_in (wget_mem hj2)]
        refine hrc _ _ _ _ _ _ ⟨j2, rfl, ?_, ?_, ?_⟩
        · rw [etP]
        · rw [etP]; exact hRT
        · rw [etP, etw]; exact hj2
      · subst hy
        have etP : tP x (k + 1) = tP x k ++ [x k :: tw x k] := by rw [tP, etw, addW_out hno]
        refine hrc _ _ _ _ _ _ ⟨(tP x k).length, rfl, ?_, ?_, ?_⟩
        · rw [etP, List.length_append]; rfl
        · rw [etP]; exact hRT2
        · rw [etP, etw]; exact wnew_get _ _
    refine br_le0 (by omega) (fun e0 => ?_) (fun e0 => ⟨vp_in_nI (by omega) (by decide), undone8 hxk ?_⟩)
    · refine down ?_
      rw [e0, hok.1.1] at he
      rw [← Option.some.inj he]
      rfl
    · obtain ⟨b, t, i, etk, hb, hi, ht⟩ := hok.1.cons e0 he
      have hle := (hRT.2 e _ he).2.2 b t etk
      have hxr := xr_lt _ hxk
      rw [cl_nI (by omega), hle.1]
      refine ⟨fun c => down ?_, fun c => ⟨vp_in_nI (by omega) (by decide), fun y hy => ?_⟩⟩
      · rw [etk]
        show (if b = xr (x k) then t else _) = _
        rw [if_neg (fun c2 => c (by rw [c2]))]
      · subst hy
        have eb : b = xr (x k) := (nI_eq (by omega) (by omega)).mp c
        have etw : tw x (k + 1) = t := by
          rw [tw, etk]
          show (if b = xr (x k) then t else _) = _
          rw [if_pos eb]
        have etP : tP x (k + 1) = tP x k := by rw [tP, etw, addW_in (wget_mem ht)]
        rw [hle.2 i ht]
        refine hrc _ _ _ _ _ _ ⟨i, rfl, ?_, ?_, ?_⟩
        · rw [etP]
        · rw [etP]; exact hRT
        · rw [etP, etw]; exact ht
  · rintro pl en pa le de ro ⟨e, rfl, rfl, hRT, he⟩ rc
    unfold wb_X8_layTree_42
    rw [e6, cl_nI (by omega), hst]
    exact ⟨vp_in_nI (by omega) (by decide), br_end (Nat.le_refl n) (by omega) (h pa le de ro e hRT he)⟩
/-! what is told -/
def pwd (P : List (List Nat)) (k : Nat) : List Nat := (P[k]?).getD []
theorem pwd_get {P : List (List Nat)} {k : Nat} {w : List Nat} (h : P[k]? = some w) : pwd P k = w := by unfold pwd; rw [h]; rfl
theorem get_pwd {P : List (List Nat)} {k : Nat} (h : k < P.length) : P[k]? = some (pwd P k) := by
  obtain ⟨w, hw⟩ := wget_ex h
  rw [pwd_get hw]; exact hw
theorem far1 {P : List (List Nat)} (hP : TG P) (h13 : P.length ≤ 13) {lk dp : AR} (h : LK P lk dp) {Q : Int32 → Prop} (hQ : Q (nI (mxN (fun k => (pwd P k).length) P.length))) : wp_X5_farthest (nI P.length) dp Q := by
  refine cl2 (body := wb_X5_farthest_4 (nI P.length) dp Q) P.length (fun k => nI (mxN (fun k => (pwd P k).length) k)) ?_ ?_
  · intro k hk rc hrc
    have hs := hP.short k _ (get_pwd hk)
    have hm := mxN_le (g := fun k => (pwd P k).length) (B := 13) k (fun i hi => by
      have := hP.short i _ (get_pwd (P := P) (k := i) (by omega))
      show (pwd P i).length ≤ 13
      omega)
    refine br_ge hk (by omega) ⟨vp_in_nI (by omega) (by decide), fun y hy z hz => ?_⟩
    rw [cl_nI (by omega), (h.1 k _ (get_pwd hk)).1, mx_I (by omega) (by omega)] at hy
    subst hy hz
    exact hrc
  · intro rc
    exact br_end (Nat.le_refl _) (by omega) hQ
def nbB (P : List (List Nat)) (k l : Nat) : Bool := decide (nxt (pwd P k) l ∈ P)
theorem leaves1 {P : List (List Nat)} (h13 : P.length ≤ 13) {lk dp : AR} (h : LK P lk dp) {Q : Int32 → Prop} (hQ : Q (nI (cn (fun k => cn (nbB P k) 6 == 1) P.length))) : wp_X5_leaves (nI P.length) lk Q := by
  refine cl2 (body := wb_X5_leaves_4 (nI P.length) lk Q) P.length (fun k => nI (cn (fun k => cn (nbB P k) 6 == 1) k)) ?_ ?_
  · intro k hk rc hrc
    refine br_ge hk (by omega) ?_
    refine cl2 (body := wb_X5_leaves_17 (nI P.length) lk (nI (cn (fun k => cn (nbB P k) 6 == 1) k)) (nI k) rc Q) 6 (fun l => nI (cn (nbB P k) l)) ?_ ?_
    · intro l hl rc2 hrc2
      refine br_ge (N := 6) hl (by decide) ?_
      have hk2 := (h.1 k _ (get_pwd hk)).2 l hl
      rw [ix6, cl_nI (by omega)]
      refine ⟨vp_in_nI (by omega) (by decide), fun c y hy => ?_, fun c y hy z hz => ?_⟩
      · subst hy
        have hno : ¬ nxt (pwd P k) l ∈ P := fun c2 => by
          obtain ⟨j, hj⟩ := wmem_get c2
          have := wget_lt hj
          rw [hk2.1 j hj] at c
          exact nI_pos (by omega) c
        rw [cn, if_neg (by rw [nbB, decide_eq_false hno]; decide), Nat.add_zero] at hrc2
        exact hrc2
      · subst hy hz
        have hyes : nxt (pwd P k) l ∈ P := Classical.byContradiction fun c2 => by
          rw [hk2.2 c2] at c
          exact c (by decide)
        rw [cn, if_pos (by rw [nbB, decide_eq_true hyes])] at hrc2
        rw [nI_1]
        exact hrc2
    · intro rc2
      have hle := cn_le (nbB P k) 6
      refine br_end (N := 6) (Nat.le_refl _) (by decide) ⟨fun c y hy => ?_, fun c y hy z hz => ?_⟩
      · subst hy
        have hne : cn (nbB P k) 6 ≠ 1 := fun e => c (by rw [e]; rfl)
        rw [cn, if_neg (by rw [beq_eq_false_iff_ne.mpr hne]; decide), Nat.add_zero] at hrc
        exact hrc
      · subst hy hz
        have he : cn (nbB P k) 6 = 1 := (nI_eq (by omega) (by decide)).mp c
        rw [cn, if_pos (by rw [he]; rfl)] at hrc
        rw [nI_1]
        exact hrc
  · intro rc
    exact br_end (Nat.le_refl _) (by omega) hQ
def chB (P : List (List Nat)) (k j : Nat) : Bool := match pwd P j with
  | [] => false
  | _ :: t => decide (t = pwd P k)
theorem chB_iff {P : List (List Nat)} {k j : Nat} : chB P k j = true ↔ ∃ l, pwd P j = l :: pwd P k := by
  unfold chB
  cases pwd P j with
  | nil => exact ⟨(fun c => by cases c), (fun ⟨l, e⟩ => by cases e)⟩
  | cons l t =>
    show decide (t = pwd P k) = true ↔ _
    rw [decide_eq_true_eq]
    exact ⟨fun e => ⟨l, by rw [e]⟩, fun ⟨m, e⟩ => by cases e; rfl⟩
theorem joined8 {P : List (List Nat)} (hP : TG P) (h13 : P.length ≤ 13) {pl : Int32} {pa le de : AR} {ro : Nat → Int64} (h : RT P pl pa le de ro) {k : Nat} (hk : k < P.length) {Q : Int32 → Prop} (hQ : Q (nI ((if 0 < k then 1 else 0) + cn (chB P k) P.length))) : wp_X8_joinedTo (nI k) (nI P.length) pa Q := by
  have go : ∀ b : Nat, b = (if 0 < k then 1 else 0) → wp_X8_joinedTo_9 (nI P.length) pa (nI k) (nI b) Q := by
    intro b hb
    have e0 : chB P k 0 = false := by
      unfold chB
      rw [pwd_get hP.1]
    have e1 : cn (chB P k) 1 = 0 := by rw [cn, cn, e0]; rfl
    have := cl2y (body := wb_X8_joinedTo_12 (nI P.length) pa (nI k) Q) 1 P.length hP.pos (fun j => nI (b + cn (chB P k) j)) ?_ ?_
    · rw [show nI (b + cn (chB P k) 1) = nI b from by rw [e1]; rfl] at this
      exact this
    · intro j hj1 hj rc hrc
      obtain ⟨l, t, i, e, hl, hi, ht⟩ := hP.cons hj1 (get_pwd hj)
      have hp := ((h.2 j _ (get_pwd hj)).2.2 l t e).2 i ht
      have hil := wget_lt ht
      refine br_ge hj (by omega) ⟨vp_in_nI (by omega) (by decide), ?_⟩
      rw [cl_nI (by omega), hp]
      refine ⟨fun c y hy z hz => ?_, fun c y hy z hz => ?_⟩
      · subst hy hz
        have : chB P k j = false := by
          cases c2 : chB P k j
          · rfl
          · obtain ⟨m, e2⟩ := chB_iff.mp c2
            rw [e] at e2
            cases e2
            exact absurd (by rw [wget_inj hP.2.1 ht (get_pwd hk)]) c
        rw [cn, this, if_neg (by decide), Nat.add_zero] at hrc
        rw [i0, nI_add]
        exact hrc
      · subst hy hz
        have eik : i = k := (nI_eq (by omega) (by omega)).mp c
        have : chB P k j = true := chB_iff.mpr ⟨l, by rw [e, ← pwd_get ht, eik]⟩
        rw [cn, if_pos this, ← Nat.add_assoc] at hrc
        rw [nI_1]
        exact hrc
    · intro rc
      refine br_end (Nat.le_refl _) (by omega) ?_
      rw [hb]; exact hQ
  exact br_le0 (by omega) (fun e => go 0 (by rw [if_neg (by omega)])) (fun e => go 1 (by rw [if_pos e]))
theorem cn_one {P P' : Nat → Bool} {c : Nat} (h1 : ∀ l, l ≠ c → P' l = P l) (h2 : P' c = true) (h3 : P c = false) : ∀ k, cn P' k = cn P k + if c < k then 1 else 0
  | 0 => rfl
  | k + 1 => by
    rw [cn, cn, cn_one h1 h2 h3 k]
    by_cases e : k = c
    · subst e
      have a1 : ¬ k < k := by omega
      have a2 : k < k + 1 := by omega
      rw [if_neg a1, if_pos a2, if_pos h2, if_neg (show ¬ P k = true by rw [h3]; decide)]
    · rw [h1 k e]
      by_cases c1 : c < k
      · have c2 : c < k + 1 := by omega
        rw [if_pos c1, if_pos c2]; omega
      · have c2 : ¬ c < k + 1 := by omega
        rw [if_neg c1, if_neg c2]; omega
theorem same_leaf {P : List (List Nat)} (hP : TG P) {k : Nat} (hk : k < P.length) : cn (nbB P k) 6 = (if 0 < k then 1 else 0) + cn (chB P k) P.length := by
  have hA : cn (chB P k) P.length = cn (fun l => decide (l :: pwd P k ∈ P)) 6 := by
    refine cn_bij (g := fun j => (pwd P j).headD 0) (fun j hj e => ?_) (fun a ha ea b hb eb e => ?_) (fun l hl e => ?_)
    · obtain ⟨l, e2⟩ := chB_iff.mp e
      have hm := wget_mem (get_pwd hj)
      have hr := hP.2.2.1 _ hm
      rw [e2] at hm hr
      show (pwd P j).headD 0 < 6 ∧ decide ((pwd P j).headD 0 :: pwd P k ∈ P) = true
      rw [e2]
      exact ⟨hr.1, decide_eq_true hm⟩
    · obtain ⟨l, e2⟩ := chB_iff.mp ea
      obtain ⟨m, e3⟩ := chB_iff.mp eb
      have e' : (pwd P a).headD 0 = (pwd P b).headD 0 := e
      rw [e2, e3] at e'
      have e4 : l = m := e'
      refine wget_inj hP.2.1 (get_pwd ha) ?_
      rw [e2, e4, ← e3]
      exact get_pwd hb
    · obtain ⟨j, hj⟩ := wmem_get (of_decide_eq_true e)
      exact ⟨j, wget_lt hj, chB_iff.mpr ⟨l, pwd_get hj⟩, by show (pwd P j).headD 0 = l; rw [pwd_get hj]; rfl⟩
  rw [hA]
  by_cases c : 0 < k
  · obtain ⟨b, t, i, e, hb, hi, ht⟩ := hP.cons c (get_pwd hk)
    have hr := hP.2.2.1 _ (wget_mem (get_pwd hk))
    rw [if_pos c]
    have := cn_one (P := fun l => decide (l :: pwd P k ∈ P)) (P' := nbB P k) (c := xr b) (fun l hl => ?_) ?_ ?_ 6
    · rw [this, if_pos (xr_lt b hb)]; omega
    · show decide (nxt (pwd P k) l ∈ P) = _
      rw [e]
      show decide ((if b = xr l then t else l :: b :: t) ∈ P) = _
      rw [if_neg (fun c2 => hl (by rw [c2, xr_xr]))]
    · show decide (nxt (pwd P k) (xr b) ∈ P) = true
      rw [e]
      show decide ((if b = xr (xr b) then t else _) ∈ P) = true
      rw [if_pos (xr_xr b).symm]
      exact decide_eq_true (wget_mem ht)
    · refine decide_eq_false (fun c2 => ?_)
      rw [e] at c2
      exact (hP.2.2.1 _ c2).2.2 b t rfl (xr_xr b).symm
  · obtain rfl : k = 0 := by omega
    rw [if_neg c, Nat.zero_add]
    refine cn_congr 6 (fun l hl => ?_)
    show decide (nxt (pwd P 0) l ∈ P) = _
    rw [pwd_get hP.1]
    rfl
theorem toldT8 {P : List (List Nat)} (hP : TG P) (h13 : P.length ≤ 13) {pl : Int32} {pa le de : AR} {ro : Nat → Int64} (h : RT P pl pa le de ro) {e : Nat} {w : List Nat} (he : P[e]? = some w) {y : Int32} {Q : Int32 → Prop} (h0 : y = 0 → Q (nI P.length)) (h1 : y = 1 → Q (nI w.length)) (h2 : y = 2 → Q (nI (mxN (fun k => (pwd P k).length) P.length))) (h3 : ¬ y = 0 → ¬ y = 1 → ¬ y = 2 → Q (nI (cn (fun k => cn (nbB P k) 6 == 1) P.length))) : wp_X8_toldOfTree y (nI P.length) (nI e) pa de Q := by
  have hel := wget_lt he
  refine cl3 (body := wb_X8_toldOfTree_7 (nI P.length) (nI e) pa de y Q) P.length (fun k => nI (mxN (fun k => (pwd P k).length) k)) (fun k => nI (cn (fun k => cn (nbB P k) 6 == 1) k)) ?_ ?_
  · intro k hk rc hrc
    have hs := hP.short k _ (get_pwd hk)
    have hm := mxN_le (g := fun k => (pwd P k).length) (B := 13) k (fun i hi => by
      have := hP.short i _ (get_pwd (P := P) (k := i) (by omega))
      show (pwd P i).length ≤ 13
      omega)
    have go : ∀ t : Nat, t = max (mxN (fun k => (pwd P k).length) k) (pwd P k).length → wp_X8_toldOfTree_38 (nI P.length) (nI e) pa de y (nI (cn (fun k => cn (nbB P k) 6 == 1) k)) (nI k) (nI t) rc Q := by
      intro t ht
      refine joined8 hP h13 h hk ?_
      rw [← same_leaf hP hk]
      have hle := cn_le (nbB P k) 6
      rw [mxN, ← ht] at hrc
      refine ⟨fun c x hx z hz => ?_, fun c x hx z hz => ?_⟩
      · subst hx hz
        have hne : cn (nbB P k) 6 ≠ 1 := fun e => c (by rw [e]; rfl)
        rw [cn, if_neg (by rw [beq_eq_false_iff_ne.mpr hne]; decide), Nat.add_zero] at hrc
        rw [i0, nI_add]
        exact hrc
      · subst hx hz
        have he1 : cn (nbB P k) 6 = 1 := (nI_eq (by omega) (by decide)).mp c
        rw [cn, if_pos (by rw [he1]; rfl)] at hrc
        rw [nI_1]
        exact hrc
    refine br_ge hk (by omega) ⟨vp_in_nI (by omega) (by decide), ?_⟩
    rw [cl_nI (by omega), (h.2 k _ (get_pwd hk)).1]
    refine ⟨fun c => go _ ?_, fun c => ⟨vp_in_nI (by omega) (by decide), go _ ?_⟩⟩
    · rw [Nat.max_eq_left ((nI_leI (by omega) (by omega)).mp c)]
    · have : ¬ _ := fun c2 => c ((nI_leI (by omega) (by omega)).mpr c2)
      rw [Nat.max_eq_right (by omega)]
  · intro rc
    refine br_end (Nat.le_refl _) (by omega) ⟨fun c0 => ⟨fun c1 => ⟨fun c2 => h3 c0 c1 c2, fun c2 => h2 c2⟩, fun c1 => ⟨vp_in_nI (by omega) (by decide), ?_⟩⟩, h0⟩
    rw [cl_nI (by omega), (h.2 e w he).1]
    exact h1 c1
