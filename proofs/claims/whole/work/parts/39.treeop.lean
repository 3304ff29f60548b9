/-! PURE 20: tree and compare of both -/
theorem lim7' {x : Int32} {n : Nat} {A B : Prop} (hf : inN x n = false → B) (ht : inN x n = true → A) : (x < 0 → B) ∧ (¬ x < 0 → ((x ≤ nI n → A) ∧ (¬ x ≤ nI n → B))) := by
  refine ⟨fun c => hf (decide_eq_false fun c2 => c2.1 c), fun c => ⟨fun c2 => ht (decide_eq_true ⟨c, fun c3 => ?_⟩), fun c2 => hf (decide_eq_false fun c3 => ?_)⟩⟩
  · rw [Int32.lt_iff_toInt_lt] at c3
    rw [Int32.le_iff_toInt_le] at c2
    omega
  · have := c3.2
    rw [Int32.lt_iff_toInt_lt] at this
    rw [Int32.le_iff_toInt_le] at c2
    omega
theorem cn_all {P : Nat → Bool} : ∀ {k : Nat}, cn P k = k ↔ ∀ i, i < k → P i = true
  | 0 => ⟨fun _ i hi => by omega, fun _ => rfl⟩
  | k + 1 => by
    have hle := cn_le P k
    rw [cn]
    constructor
    · intro h i hi
      cases e : P k
      · rw [e, if_neg (by decide)] at h; omega
      · rw [e, if_pos rfl] at h
        by_cases c : i = k
        · rw [c]; exact e
        · exact cn_all.mp (show cn P k = k by omega) i (by omega)
    · intro h
      rw [if_pos (h k (by omega)), cn_all.mpr (fun i hi => h i (by omega))]
def inB (P : List (List Nat)) (v : List Nat) : Bool := decide (v ∈ P)
def cmN (P U : List (List Nat)) : Nat := cn (fun k => inB P (pwd U k)) U.length
theorem cm_sub {P U : List (List Nat)} : cmN P U = U.length ↔ ∀ v, v ∈ U → v ∈ P := by
  unfold cmN
  rw [cn_all]
  constructor
  · intro h v hv
    obtain ⟨i, hi⟩ := wmem_get hv
    have := of_decide_eq_true (h i (wget_lt hi))
    rw [pwd_get hi] at this
    exact this
  · intro h i hi
    exact decide_eq_true (h _ (wget_mem (get_pwd hi)))
theorem cm_symm {P U : List (List Nat)} (hP : P.Nodup) (hU : U.Nodup) : cmN P U = cmN U P := by
  unfold cmN
  have hex : ∀ k, ∃ i : Nat, pwd U k ∈ P → P[i]? = some (pwd U k) := fun k => by
    by_cases c : pwd U k ∈ P
    · obtain ⟨i, hi⟩ := wmem_get c
      exact ⟨i, fun _ => hi⟩
    · exact ⟨0, fun c2 => absurd c2 c⟩
  refine cn_bij (g := fun k => Classical.choose (hex k)) (fun k hk e => ?_) (fun a ha ea b hb eb e => ?_) (fun i hi e => ?_)
  · have h1 := Classical.choose_spec (hex k) (of_decide_eq_true e)
    refine ⟨wget_lt h1, ?_⟩
    show inB U (pwd P (Classical.choose (hex k))) = true
    rw [pwd_get h1]
    exact decide_eq_true (wget_mem (get_pwd hk))
  · have h1 := Classical.choose_spec (hex a) (of_decide_eq_true ea)
    have h2 := Classical.choose_spec (hex b) (of_decide_eq_true eb)
    have e' : Classical.choose (hex a) = Classical.choose (hex b) := e
    rw [e', h2] at h1
    refine wget_inj hU (get_pwd ha) ?_
    rw [← Option.some.inj h1]
    exact get_pwd hb
  · obtain ⟨k, hk⟩ := wmem_get (of_decide_eq_true e)
    have hp : pwd U k = pwd P i := pwd_get hk
    have hm : pwd U k ∈ P := by rw [hp]; exact wget_mem (get_pwd hi)
    refine ⟨k, wget_lt hk, decide_eq_true hm, ?_⟩
    have h1 := Classical.choose_spec (hex k) hm
    exact wget_inj hP h1 (by rw [hp]; exact get_pwd hi)
def unB (P : List (List Nat)) (w : List Nat) (U : List (List Nat)) (v : List Nat) : Bool := decide (cmN P U = U.length) && decide (v = w)
theorem under1 {x u : Nat → Nat} {n m : Nat} (hn : n ≤ 12) (hm : m ≤ 12) {wl ul : AR} (hx : ∀ i, i < n → x i < 6 ∧ wl i = nI (x i)) (hu : ∀ i, i < m → u i < 6 ∧ ul i = nI (u i)) {tp te : Int32} {lk dp : AR} {Q : Int32 → Int32 → Int32 → AR → AR → Prop} (h : ∀ tp te lk dp, Q (bI (unB (tP x n) (tw x n) (tP u m) (tw u m))) tp te lk dp) : wp_X7_isUnder tp te lk dp wl (nI n) ul (nI m) Q := by
  refine grow1 hn hx (fun lk dp e hLK he => ?_)
  have hok := tP_ok n (fun i hi => (hx i hi).1)
  have hok2 := tP_ok m (fun i hi => (hu i hi).1)
  have hel := wget_lt he
  have hlen := hok.2.2
  have all : (∀ k, k ≤ m → tw u k ∈ tP x n) ↔ cmN (tP x n) (tP u m) = (tP u m).length := by
    rw [cm_sub]
    constructor
    · intro h v hv
      obtain ⟨i, hi, e⟩ := (tP_mem m).mp hv
      rw [e]; exact h i hi
    · intro h k hk
      exact h _ ((tP_mem m).mpr ⟨k, hk, rfl⟩)
  refine follow1 hok.1 (by omega) hLK hm hu (fun j hall hj => ?_) (fun hno => ?_)
  · have hjl := wget_lt hj
    refine ⟨fun c => ⟨Or.inl rfl, ?_⟩, fun c => ⟨Or.inr rfl, ?_⟩⟩
    · have : unB (tP x n) (tw x n) (tP u m) (tw u m) = false := by
        unfold unB
        rw [Bool.and_eq_false_iff]
        refine Or.inr (decide_eq_false fun e2 => c ?_)
        rw [e2] at hj
        rw [wget_inj hok.1.2.1 hj he]
      rw [this] at h
      exact h _ _ _ _
    · have : unB (tP x n) (tw x n) (tP u m) (tw u m) = true := by
        unfold unB
        rw [Bool.and_eq_true]
        have : j = e := (nI_eq (by omega) (by omega)).mp c
        subst this
        rw [he] at hj
        exact ⟨decide_eq_true (all.mp hall), decide_eq_true (Option.some.inj hj).symm⟩
      rw [this] at h
      exact h _ _ _ _
  · refine ⟨fun c => ⟨Or.inl rfl, ?_⟩, fun c => ?_⟩
    · have : unB (tP x n) (tw x n) (tP u m) (tw u m) = false := by
        unfold unB
        rw [Bool.and_eq_false_iff]
        refine Or.inl (decide_eq_false fun e2 => ?_)
        obtain ⟨k, hk, hk2⟩ := hno
        exact hk2 (all.mpr e2 k hk)
      rw [this] at h
      exact h _ _ _ _
    · have := nn_nI (a := e) (by omega)
      rw [← c] at this
      exact absurd this (by decide)
theorem keptRow8 {P : List (List Nat)} (hP : TG P) (h13 : P.length ≤ 13) {kp : Nat → Int64} (hk : ∀ k, k < P.length → kp k = lr (cd (pwd P k))) {v : List Nat} (hv : rd v) (hv63 : cd v < 2 ^ 63) {Q : Int32 → Prop} (h : Q (bI (inB P v))) : wp_X8_isKeptRow (lr (cd v)) (nI P.length) kp Q := by
  refine cl2s (body := wb_X8_isKeptRow_6 kp (lr (cd v)) (nI P.length) Q) P.length (fun k a => ∃ b : Bool, a = bI b ∧ (b = true ↔ ∃ i, i < k ∧ pwd P i = v)) ?_ ?_ ⟨false, rfl, (fun c => by cases c), (fun ⟨i, hi, _⟩ => by omega)⟩
  · rintro k hkN a ⟨b, rfl, hb⟩ rc hrc
    refine br_ge hkN (by omega) (brb (fun e y hy => ?_) (fun e => ⟨vp_in_nI (by omega) (by decide), ?_⟩))
    · subst hy
      refine hrc _ ⟨true, rfl, fun _ => ?_, fun _ => rfl⟩
      obtain ⟨i, hi, h2⟩ := hb.mp e
      exact ⟨i, by omega, h2⟩
    · rw [cl_nI (by omega), hk k hkN]
      have hm := wget_mem (get_pwd hkN)
      have h63 := hP.cd63 h13 hm
      have key : lg_cmp (lr (cd (pwd P k))) (lr (cd v)) = 0 ↔ pwd P k = v := by
        rw [lgc, lr_inj h63 hv63]
        exact ⟨fun e => cd_inj (hP.2.2.1 _ hm) hv e, fun e => by rw [e]⟩
      refine ⟨fun c y hy => ?_, fun c y hy => ?_⟩
      · subst hy
        refine hrc _ ⟨false, rfl, (fun c => by cases c), fun ⟨i, hi, h2⟩ => ?_⟩
        by_cases c2 : i = k
        · subst c2; exact absurd (key.mpr h2) c
        · rw [← e]; exact hb.mpr ⟨i, by omega, h2⟩
      · subst hy
        exact hrc _ ⟨true, rfl, fun _ => ⟨k, by omega, key.mp c⟩, fun _ => rfl⟩
  · rintro a ⟨b, rfl, hb⟩ rc
    refine br_end (Nat.le_refl _) (by omega) ⟨bI_B _, ?_⟩
    have : b = inB P v := by
      rw [Bool.eq_iff_iff, hb]
      unfold inB
      rw [decide_eq_true_eq]
      constructor
      · rintro ⟨i, hi, e⟩
        rw [← e]; exact wget_mem (get_pwd hi)
      · intro hm
        obtain ⟨i, hi⟩ := wmem_get hm
        exact ⟨i, wget_lt hi, pwd_get hi⟩
    rw [this]
    exact h
section TREEOP
variable {sl : AR} {wl : Nat → AR} {wn rt : AR} {rl : Nat → AR} {rn st : AR}
theorem tree_ok (h : RSt sl wl wn rt rl rn st) {tp te : Int32} {lk dp : AR} {pl en : Int32} {pa le de : AR} {ro : Nat → Int64} (y0 y1 : Int32) {R : Int32 → Int32 → AR → AR → Int32 → Int32 → AR → AR → AR → (Nat → Int64) → Prop} (hR : ∀ tp te lk dp pl en pa le de ro, R tp te lk dp pl en pa le de ro) : wp_X7_tree y0 y1 wl wn tp te lk dp (fun r1 tp te lk dp => wp_X8_tree y0 y1 pl en st pa le de ro (fun r2 pl en pa le de ro => r1 = r2 ∧ R tp te lk dp pl en pa le de ro)) := by
  refine word7 (brb (fun e0 => lim7' (n := 3) (fun e1 => ?_) (fun e1 => ?_)) (fun e0 => ?_))
  · exact word8 (brb (fun _ => in_wp (hi := 3) (brb (fun e2 => by rw [show inN y1 3 = true from e2] at e1; cases e1) (fun _ => ⟨rfl, hR _ _ _ _ _ _ _ _ _ _⟩))) (fun e2 => by rw [e0] at e2; cases e2))
  · obtain ⟨j, hj, rfl⟩ := inN_t e0 (by decide)
    obtain ⟨n, x, hn, en1, en2, hw⟩ := (h.2.1 j (by omega)).nums
    refine ⟨vp_in_nI (by omega) (by decide), fun jj hjj ejj => ?_⟩
    obtain rfl : jj = j := ((nI_eq (by omega) (by omega)).mp ejj).symm
    rw [en1]
    refine grow1 hn (fun i hi => ⟨(hw i hi).1, (hw i hi).2.1⟩) (fun lk dp e hLK he => ?_)
    have hok := tP_ok n (fun i hi => (hw i hi).1)
    have hlen := hok.2.2
    have hel := wget_lt he
    have fin : ∀ r : Int32, (y1 = 0 → r = nI (tP x n).length) → (y1 = 1 → r = nI (tw x n).length) → (y1 = 2 → r = nI (mxN (fun k => (pwd (tP x n) k).length) (tP x n).length)) → (¬ y1 = 0 → ¬ y1 = 1 → ¬ y1 = 2 → r = nI (cn (fun k => cn (nbB (tP x n) k) 6 == 1) (tP x n).length)) → wp_X8_tree (nI jj) y1 pl en st pa le de ro (fun r2 pl en pa le de ro => r = r2 ∧ R (nI (tP x n).length) (nI e) lk dp pl en pa le de ro) := by
      intro r h0 h1 h2 h3
      refine word8 (brb (fun _ => in_wp (hi := 3) (brb (fun _ => ?_) (fun e2 => by rw [show inN y1 3 = false from e2] at e1; cases e1))) (fun e2 => by rw [e0] at e2; cases e2))
      refine lay8t hn (by omega) en2 (fun i hi => ⟨(hw i hi).1, (hw i hi).2.2⟩) (fun pa le de ro e2 hRT he2 => ?_)
      exact toldT8 hok.1 (by omega) hRT he2 (fun c => ⟨h0 c, hR _ _ _ _ _ _ _ _ _ _⟩) (fun c => ⟨h1 c, hR _ _ _ _ _ _ _ _ _ _⟩) (fun c => ⟨h2 c, hR _ _ _ _ _ _ _ _ _ _⟩) (fun c0 c1 c2 => ⟨h3 c0 c1 c2, hR _ _ _ _ _ _ _ _ _ _⟩)
    have ne : ∀ a b : Int32, a ≠ b → y1 = a → y1 = b → False := fun a b hab h1 h2 => hab (by rw [← h1, h2])
    refine ⟨fun c => fin _ (fun _ => rfl) (fun c' => (ne 0 1 (by decide) c c').elim) (fun c' => (ne 0 2 (by decide) c c').elim) (fun c' => absurd c c'), fun c => ⟨vp_in_nI (by omega) (by decide), fin _ (fun c' => (ne 1 0 (by decide) c c').elim) (fun _ => ?_) (fun c' => (ne 1 2 (by decide) c c').elim) (fun _ c' => absurd c c')⟩, fun c => far1 hok.1 (by omega) hLK (fin _ (fun c' => (ne 2 0 (by decide) c c').elim) (fun c' => (ne 2 1 (by decide) c c').elim) (fun _ => rfl) (fun _ _ c' => absurd c c')), fun c0 c1 c2 => leaves1 (by omega) hLK (fin _ (fun c' => absurd c' c0) (fun c' => absurd c' c1) (fun c' => absurd c' c2) (fun _ _ _ => rfl))⟩
    rw [cl_nI (by omega)]
    exact (hLK.1 e _ he).1
  · exact word8 (brb (fun e2 => by rw [e0] at e2; cases e2) (fun _ => ⟨rfl, hR _ _ _ _ _ _ _ _ _ _⟩))
theorem compare_ok (h : RSt sl wl wn rt rl rn st) {tp te : Int32} {lk dp : AR} {pl en : Int32} {pa le de : AR} {ro kp : Nat → Int64} (y0 y1 : Int32) {R : Int32 → Int32 → AR → AR → Int32 → Int32 → AR → AR → AR → (Nat → Int64) → (Nat → Int64) → Prop} (hR : ∀ tp te lk dp pl en pa le de ro kp, R tp te lk dp pl en pa le de ro kp) : wp_X7_compare y0 y1 wl wn tp te lk dp (fun r1 tp te lk dp => wp_X8_compare y0 y1 pl en st pa le de ro kp (fun r2 pl en pa le de ro kp => r1 = r2 ∧ R tp te lk dp pl en pa le de ro kp)) := by
  refine word7 (brb' (fun e0 => ?_) (fun e0 => word7 (brb (fun e1 => ?_) (fun e1 => ?_))))
  · exact word8 (brb' (fun _ => ⟨rfl, hR _ _ _ _ _ _ _ _ _ _ _⟩) (fun e2 => by rw [e0] at e2; cases e2))
  · obtain ⟨a, ha, rfl⟩ := inN_t e0 (by decide)
    obtain ⟨b, hb, rfl⟩ := inN_t e1 (by decide)
    obtain ⟨n, x, hn, en1, en2, hw⟩ := (h.2.1 a (by omega)).nums
    obtain ⟨m, u, hm, em1, em2, hv⟩ := (h.2.1 b (by omega)).nums
    have hx6 := fun i hi => (hw i hi).1
    have hu6 := fun i hi => (hv i hi).1
    have hok := tP_ok n hx6
    have hok2 := tP_ok m hu6
    have hlen := hok.2.2
    have hlen2 := hok2.2.2
    refine ⟨vp_in_nI (by omega) (by decide), fun jj hjj ejj => ⟨vp_in_nI (by omega) (by decide), fun kk hkk ekk => ?_⟩⟩
    obtain rfl : jj = a := ((nI_eq (by omega) (by omega)).mp ejj).symm
    obtain rfl : kk = b := ((nI_eq (by omega) (by omega)).mp ekk).symm
    rw [en1, em1]
    have fin : ∀ r : Int32, r = (if tw u m = tw x n then (if cmN (tP x n) (tP u m) = (tP u m).length then (if cmN (tP x n) (tP u m) = (tP x n).length then 1 else 2) else (if cmN (tP x n) (tP u m) = (tP x n).length then 3 else 0)) else 0) → ∀ tp te lk dp, wp_X8_compare (nI jj) (nI kk) pl en st pa le de ro kp (fun r2 pl en pa le de ro kp => r = r2 ∧ R tp te lk dp pl en pa le de ro kp) := by
      intro r hr tp te lk dp
      refine word8 (brb' (fun e2 => by rw [e0] at e2; cases e2) (fun _ => word8 (brb (fun _ => ?_) (fun e2 => by rw [e1] at e2; cases e2))))
      refine lay8t hn (by omega) en2 (fun i hi => ⟨(hw i hi).1, (hw i hi).2.2⟩) (fun pa le de ro e hRT he => ?_)
      have hel := wget_lt he
      refine ⟨vp_in_nI (by omega) (by decide), fun z hz => ?_⟩
      rw [cl_nI (by omega), (hRT.2 e _ he).2.1] at hz
      subst hz
      refine cl2r (body := wb_X8_compare_40 st (nI kk) (nI (tP x n).length) (lr (cd (tw x n))) (nI (tP x n).length) (nI e) pa le de ro (fun r2 pl en pa le de ro kp => r = r2 ∧ R tp te lk dp pl en pa le de ro kp)) (tP x n).length (fun k kp => ∀ i, i < k → kp i = lr (cd (pwd (tP x n) i))) ?_ ?_ (fun i hi => by omega)
      · intro k hk kp hI rc hrc
        refine br_ge hk (by omega) ⟨vp_in_nI (by omega) (by decide), vp_in_nI (by omega) (by decide), fun z hz => ?_⟩
        subst hz
        rw [cl_nI (by omega), (hRT.2 k _ (get_pwd hk)).2.1]
        refine hrc _ (fun i hi => ?_)
        by_cases c : i = k
        · subst c; exact updL_s
        · rw [updL_n c]; exact hI i (by omega)
      · intro kp hkp rc
        refine br_end (Nat.le_refl _) (by omega) ?_
        refine lay8t hm (by omega) em2 (fun i hi => ⟨(hv i hi).1, (hv i hi).2.2⟩) (fun pa le de ro e2 hRT2 he2 => ?_)
        have hel2 := wget_lt he2
        refine cl2 (body := wb_X8_compare_77 st (nI (tP x n).length) (lr (cd (tw x n))) (nI (tP u m).length) (nI e2) pa le de ro kp (fun r2 pl en pa le de ro kp => r = r2 ∧ R tp te lk dp pl en pa le de ro kp)) (tP u m).length (fun k => nI (cn (fun k => inB (tP x n) (pwd (tP u m) k)) k)) ?_ ?_
        · intro k hk rc2 hrc2
          have hmk := wget_mem (get_pwd hk)
          refine br_ge hk (by omega) ⟨vp_in_nI (by omega) (by decide), ?_⟩
          rw [cl_nI (by omega), (hRT2.2 k _ (get_pwd hk)).2.1]
          refine keptRow8 hok.1 (by omega) hkp (hok2.1.2.2.1 _ hmk) (hok2.1.cd63 (by omega) hmk) (brb' (fun e y hy z hz => ?_) (fun e y hy z hz => ?_))
          · subst hy hz
            rw [show (0 : Int32) = bI false from rfl, cn_step (P := fun k => inB (tP x n) (pwd (tP u m) k)) e]; exact hrc2
          · subst hy hz
            rw [show nI (cn (fun k => inB (tP x n) (pwd (tP u m) k)) k) + 1 = nI (cn (fun k => inB (tP x n) (pwd (tP u m) k)) k) + bI true from rfl, cn_step (P := fun k => inB (tP x n) (pwd (tP u m) k)) e]; exact hrc2
        · intro rc2
          refine br_end (Nat.le_refl _) (by omega) ⟨vp_in_nI (by omega) (by decide), ?_⟩
          rw [cl_nI (by omega), (hRT2.2 e2 _ he2).2.1]
          show (¬ _ → _) ∧ (_ → _)
          have hkey : lg_cmp (lr (cd (tw u m))) (lr (cd (tw x n))) = 0 ↔ tw u m = tw x n := by
            rw [lgc, lr_inj (hok2.1.cd63 (by omega) hok2.2.1) (hok.1.cd63 (by omega) hok.2.1)]
            exact ⟨fun e => cd_inj (hok2.1.2.2.1 _ hok2.2.1) (hok.1.2.2.1 _ hok.2.1) e, fun e => by rw [e]⟩
          have c1 : cmN (tP x n) (tP u m) ≤ (tP u m).length := cn_le _ _
          have c2 : cmN (tP x n) (tP u m) ≤ (tP x n).length := by rw [cm_symm hok.1.2.1 hok2.1.2.1]; exact cn_le _ _
          have ecn : cn (fun k => inB (tP x n) (pwd (tP u m) k)) (tP u m).length = cmN (tP x n) (tP u m) := rfl
          rw [ecn]
          generalize cmN (tP x n) (tP u m) = cm at c1 c2 hr ⊢
          refine ⟨fun c => ⟨by rw [hr, if_neg (fun e => c (hkey.mpr e))], hR _ _ _ _ _ _ _ _ _ _ _⟩, fun c => ?_⟩
          rw [if_pos (hkey.mp c)] at hr
          have in149 : (cm = (tP u m).length ∨ cm = (tP x n).length) → wp_X8_compare_149 st (nI (tP x n).length) (nI cm) (nI (tP u m).length) (nI e2) pa le de ro kp (fun r2 pl en pa le de ro kp => r = r2 ∧ R tp te lk dp pl en pa le de ro kp) := by
            intro hor
            refine ⟨fun c3 => ⟨fun _ => ⟨?_, hR _ _ _ _ _ _ _ _ _ _ _⟩, fun c4 => absurd c4 c3⟩, fun c3 => ?_⟩
            · have n1 : cm ≠ (tP u m).length := fun e => c3 (by rw [e])
              have n2 : cm = (tP x n).length := by omega
              rw [hr, if_neg n1, if_pos n2]
            · have n1 : cm = (tP u m).length := (nI_eq (by omega) (by omega)).mp c3
              refine ⟨fun c4 => ⟨fun c5 => absurd c3 c5, fun _ => ⟨?_, hR _ _ _ _ _ _ _ _ _ _ _⟩⟩, fun c4 => ⟨?_, hR _ _ _ _ _ _ _ _ _ _ _⟩⟩
              · rw [hr, if_pos n1, if_neg (fun e => c4 (by rw [e]))]
              · rw [hr, if_pos n1, if_pos ((nI_eq (by omega) (by omega)).mp c4)]
          refine ⟨fun c3 => in149 (Or.inl ?_), fun c3 => ⟨fun c4 => in149 (Or.inr ?_), fun c4 => ⟨?_, hR _ _ _ _ _ _ _ _ _ _ _⟩⟩⟩
          · have := (nI_leI (by omega) (by omega)).mp c3
            omega
          · have := (nI_leI (by omega) (by omega)).mp c4
            omega
          · rw [hr, if_neg (fun e => c3 (by rw [e]; exact nI_le (Nat.le_refl _) (by omega))), if_neg (fun e => c4 (by rw [e]; exact nI_le (Nat.le_refl _) (by omega)))]
    refine under1 hn hm (fun i hi => ⟨(hw i hi).1, (hw i hi).2.1⟩) (fun i hi => ⟨(hv i hi).1, (hv i hi).2.1⟩) (fun tp te lk dp => ?_)
    refine under1 hm hn (fun i hi => ⟨(hv i hi).1, (hv i hi).2.1⟩) (fun i hi => ⟨(hw i hi).1, (hw i hi).2.1⟩) (fun tp te lk dp => ?_)
    have u1 : unB (tP x n) (tw x n) (tP u m) (tw u m) = (decide (cmN (tP x n) (tP u m) = (tP u m).length) && decide (tw u m = tw x n)) := rfl
    have u2 : unB (tP u m) (tw u m) (tP x n) (tw x n) = (decide (cmN (tP x n) (tP u m) = (tP x n).length) && decide (tw u m = tw x n)) := by
      unfold unB
      rw [cm_symm hok2.1.2.1 hok.1.2.1]
      congr 1
      exact decide_eq_decide.mpr ⟨fun e => e.symm, fun e => e.symm⟩
    rw [u1, u2]
    by_cases ce : tw u m = tw x n
    · by_cases c1 : cmN (tP x n) (tP u m) = (tP u m).length
      · by_cases c2 : cmN (tP x n) (tP u m) = (tP x n).length
        · rw [decide_eq_true ce, decide_eq_true c1, decide_eq_true c2]
          exact ⟨fun c => absurd c (by decide), fun _ => ⟨fun c => absurd c (by decide), fun _ => fin 1 (by rw [if_pos ce, if_pos c1, if_pos c2]) _ _ _ _⟩⟩
        · rw [decide_eq_true ce, decide_eq_true c1, decide_eq_false c2]
          exact ⟨fun c => absurd c (by decide), fun _ => ⟨fun _ => ⟨fun c => absurd c (by decide), fun _ => fin 2 (by rw [if_pos ce, if_pos c1, if_neg c2]) _ _ _ _⟩, fun c => absurd (by decide) c⟩⟩
      · by_cases c2 : cmN (tP x n) (tP u m) = (tP x n).length
        · rw [decide_eq_true ce, decide_eq_false c1, decide_eq_true c2]
          exact ⟨fun _ => ⟨fun _ => ⟨fun c => absurd c (by decide), fun _ => fin 3 (by rw [if_pos ce, if_neg c1, if_pos c2]) _ _ _ _⟩, fun c => absurd (by decide) c⟩, fun c => absurd (by decide) c⟩
        · rw [decide_eq_true ce, decide_eq_false c1, decide_eq_false c2]
          exact ⟨fun _ => ⟨fun _ => ⟨fun _ => fin 0 (by rw [if_pos ce, if_neg c1, if_neg c2]) _ _ _ _, fun c => absurd (by decide) c⟩, fun c => absurd (by decide) c⟩, fun c => absurd (by decide) c⟩
    · rw [decide_eq_false ce, Bool.and_false, Bool.and_false]
      exact ⟨fun _ => ⟨fun _ => ⟨fun _ => fin 0 (by rw [if_neg ce]) _ _ _ _, fun c => absurd (by decide) c⟩, fun c => absurd (by decide) c⟩, fun c => absurd (by decide) c⟩
  · exact word8 (brb' (fun e2 => by rw [e0] at e2; cases e2) (fun _ => word8 (brb (fun e2 => by rw [e1] at e2; cases e2) (fun _ => ⟨rfl, hR _ _ _ _ _ _ _ _ _ _ _⟩))))
end TREEOP
