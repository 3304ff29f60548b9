/-! PURE 18: trees: a place is the word, without undoing, that leads to it (its last letter first) -/
def xr (l : Nat) : Nat := if l % 2 = 0 then l + 1 else l - 1
theorem xr_lt : ∀ l, l < 6 → xr l < 6 := by decide
theorem xr_xr (l : Nat) : xr (xr l) = l := by unfold xr; split <;> split <;> omega
theorem xr_I : ∀ l, l < 6 → nI l ^^^ 1 = nI (xr l) := by decide
theorem undone8 {l : Nat} (hl : l < 6) {Q : Int32 → Prop} (h : Q (nI (xr l))) : wp_X8_undone (nI l) Q := by
  unfold wp_X8_undone
  rw [rm2 l hl]
  unfold xr at h
  by_cases e : l % 2 = 0
  · rw [if_pos e] at h
    rw [e, nI_1]
    exact ⟨fun c => absurd rfl c, fun _ => h⟩
  · rw [if_neg e] at h
    have e1 : l % 2 = 1 := by omega
    rw [e1, show nI l - 1 = nI (l - 1) from pk_sub (b := 1) (by omega)]
    exact ⟨fun _ => h, fun c => absurd c (by decide)⟩
def nxt (w : List Nat) (l : Nat) : List Nat := match w with
  | [] => [l]
  | a :: t => if a = xr l then t else l :: a :: t
def rd : List Nat → Prop
  | [] => True
  | a :: t => a < 6 ∧ rd t ∧ ∀ b s, t = b :: s → b ≠ xr a
theorem rd_nxt {w : List Nat} {l : Nat} (h : rd w) (hl : l < 6) : rd (nxt w l) := by
  cases w with
  | nil => exact ⟨hl, trivial, fun b s e => by cases e⟩
  | cons a t =>
    show rd (if a = xr l then t else l :: a :: t)
    by_cases c : a = xr l
    · rw [if_pos c]; exact h.2.1
    · rw [if_neg c]
      refine ⟨hl, h, fun b s e => ?_⟩
      cases e
      exact c
def addW (P : List (List Nat)) (w : List Nat) : List (List Nat) := if w ∈ P then P else P ++ [w]
def tw (x : Nat → Nat) : Nat → List Nat
  | 0 => []
  | k + 1 => nxt (tw x k) (x k)
def tP (x : Nat → Nat) : Nat → List (List Nat)
  | 0 => [[]]
  | k + 1 => addW (tP x k) (tw x (k + 1))
theorem wget_lt {P : List (List Nat)} {i : Nat} {w : List Nat} (h : P[i]? = some w) : i < P.length := (List.getElem?_eq_some_iff.mp h).1
theorem wget_mem {P : List (List Nat)} {i : Nat} {w : List Nat} (h : P[i]? = some w) : w ∈ P := List.mem_iff_getElem?.mpr ⟨i, h⟩
theorem wmem_get {P : List (List Nat)} {w : List Nat} (h : w ∈ P) : ∃ i : Nat, P[i]? = some w := List.mem_iff_getElem?.mp h
theorem wget_ex {P : List (List Nat)} {i : Nat} (h : i < P.length) : ∃ w, P[i]? = some w := ⟨P[i], List.getElem?_eq_getElem h⟩
theorem wget_app {P t : List (List Nat)} {i : Nat} {w : List Nat} (h : P[i]? = some w) : (P ++ t)[i]? = some w := by
  rw [List.getElem?_append_left (wget_lt h)]; exact h
theorem wapp_get {P : List (List Nat)} {w v : List Nat} {i : Nat} (h : (P ++ [w])[i]? = some v) : (i < P.length ∧ P[i]? = some v) ∨ (i = P.length ∧ v = w) := by
  by_cases c : i < P.length
  · rw [List.getElem?_append_left c] at h
    exact Or.inl ⟨c, h⟩
  · rw [List.getElem?_append_right (by omega)] at h
    by_cases c2 : i = P.length
    · subst c2
      rw [Nat.sub_self] at h
      exact Or.inr ⟨rfl, by cases h; rfl⟩
    · obtain ⟨j, hj⟩ : ∃ j, i - P.length = j + 1 := ⟨i - P.length - 1, by omega⟩
      rw [hj] at h
      cases h
theorem wnew_get (P : List (List Nat)) (w : List Nat) : (P ++ [w])[P.length]? = some w := by
  rw [List.getElem?_append_right (Nat.le_refl _), Nat.sub_self]; rfl
theorem wget_inj {P : List (List Nat)} (h : P.Nodup) : ∀ {i j : Nat} {x : List Nat}, P[i]? = some x → P[j]? = some x → i = j := by
  induction P with
  | nil => intro i j x h1; cases h1
  | cons a L ih =>
    have hn := List.nodup_cons.mp h
    intro i j x h1 h2
    cases i with
    | zero =>
      cases j with
      | zero => rfl
      | succ j =>
        rw [List.getElem?_cons_zero] at h1
        rw [List.getElem?_cons_succ] at h2
        cases h1
        exact absurd (List.mem_iff_getElem?.mpr ⟨j, h2⟩) hn.1
    | succ i =>
      rw [List.getElem?_cons_succ] at h1
      cases j with
      | zero =>
        rw [List.getElem?_cons_zero] at h2
        cases h2
        exact absurd (List.mem_iff_getElem?.mpr ⟨i, h1⟩) hn.1
      | succ j =>
        rw [List.getElem?_cons_succ] at h2
        rw [ih hn.2 h1 h2]
/-- a tree's places: the root first, each other one after the one before it on its way -/
def TG (P : List (List Nat)) : Prop := P[0]? = some [] ∧ P.Nodup ∧ (∀ w, w ∈ P → rd w) ∧ ∀ (i : Nat) (l : Nat) (t : List Nat), P[i]? = some (l :: t) → ∃ j, j < i ∧ P[j]? = some t
theorem TG.tail {P : List (List Nat)} (h : TG P) {l : Nat} {t : List Nat} (hm : l :: t ∈ P) : t ∈ P := by
  obtain ⟨i, hi⟩ := wmem_get hm
  obtain ⟨j, _, hj⟩ := h.2.2.2 i l t hi
  exact wget_mem hj
theorem TG.new {P : List (List Nat)} (h : TG P) {w : List Nat} (hw : w ∈ P) {l : Nat} (hn : ¬ nxt w l ∈ P) : nxt w l = l :: w := by
  cases w with
  | nil => rfl
  | cons a t =>
    have e : nxt (a :: t) l = if a = xr l then t else l :: a :: t := rfl
    by_cases c : a = xr l
    · rw [e, if_pos c] at hn
      exact absurd (h.tail hw) hn
    · rw [e, if_neg c]
theorem TG.zero : TG [[]] := ⟨rfl, by simp, (fun w h => by obtain rfl := List.mem_singleton.mp h; trivial), fun i l t h => by
  have := wget_lt h
  obtain rfl : i = 0 := by simp at this; exact this
  cases h⟩
theorem TG.add {P : List (List Nat)} (h : TG P) {w : List Nat} (hw : w ∈ P) {l : Nat} (hl : l < 6) (hn : ¬ nxt w l ∈ P) : TG (P ++ [l :: w]) := by
  have e := h.new hw hn
  refine ⟨wget_app h.1, ?_, fun v hv => ?_, fun i l' t hi => ?_⟩
  · rw [List.nodup_append]
    refine ⟨h.2.1, by simp, fun a ha b hb eab => ?_⟩
    obtain rfl := List.mem_singleton.mp hb
    rw [e] at hn
    exact hn (eab ▸ ha)
  · rcases List.mem_append.mp hv with hv | hv
    · exact h.2.2.1 v hv
    · obtain rfl := List.mem_singleton.mp hv
      rw [← e]
      exact rd_nxt (h.2.2.1 w hw) hl
  · rcases wapp_get hi with ⟨_, hi⟩ | ⟨rfl, e2⟩
    · obtain ⟨j, hj, h1⟩ := h.2.2.2 i l' t hi
      exact ⟨j, hj, wget_app h1⟩
    · cases e2
      obtain ⟨j, hj⟩ := wmem_get hw
      exact ⟨j, wget_lt hj, wget_app hj⟩
theorem addW_in {P : List (List Nat)} {w : List Nat} (h : w ∈ P) : addW P w = P := if_pos h
theorem addW_out {P : List (List Nat)} {w : List Nat} (h : ¬ w ∈ P) : addW P w = P ++ [w] := if_neg h
theorem tP_ok {x : Nat → Nat} : ∀ k, (∀ i, i < k → x i < 6) → TG (tP x k) ∧ tw x k ∈ tP x k ∧ (tP x k).length ≤ k + 1
  | 0, _ => ⟨TG.zero, List.mem_singleton.mpr rfl, Nat.le_refl _⟩
  | k + 1, h => by
    obtain ⟨h1, h2, h3⟩ := tP_ok k (fun i hi => h i (by omega))
    rw [tP]
    by_cases c : tw x (k + 1) ∈ tP x k
    · rw [addW_in c]
      exact ⟨h1, c, by omega⟩
    · rw [addW_out c]
      have c' : ¬ nxt (tw x k) (x k) ∈ tP x k := c
      refine ⟨?_, List.mem_append_right _ (List.mem_singleton.mpr rfl), by rw [List.length_append]; show _ + 1 ≤ _; omega⟩
      rw [tw, h1.new h2 c']
      exact h1.add h2 (h k (by omega)) c'
theorem tP_mem {x : Nat → Nat} {v : List Nat} : ∀ k, v ∈ tP x k ↔ ∃ i, i ≤ k ∧ v = tw x i
  | 0 => by
    rw [tP, List.mem_singleton]
    refine ⟨fun e => ⟨0, Nat.le_refl 0, e⟩, ?_⟩
    rintro ⟨i, hi, e⟩
    obtain rfl : i = 0 := by omega
    exact e
  | k + 1 => by
    have key : v ∈ addW (tP x k) (tw x (k + 1)) ↔ v ∈ tP x k ∨ v = tw x (k + 1) := by
      by_cases c : tw x (k + 1) ∈ tP x k
      · rw [addW_in c]
        exact ⟨Or.inl, fun h => by rcases h with h | h; exact h; rw [h]; exact c⟩
      · rw [addW_out c, List.mem_append, List.mem_singleton]
    rw [tP, key, tP_mem k]
    constructor
    · rintro (⟨i, hi, e⟩ | e)
      · exact ⟨i, by omega, e⟩
      · exact ⟨k + 1, Nat.le_refl _, e⟩
    · rintro ⟨i, hi, e⟩
      by_cases c : i = k + 1
      · subst c; exact Or.inr e
      · exact Or.inl ⟨i, by omega, e⟩
/-! the class's tree -/
def LK (P : List (List Nat)) (lk dp : AR) : Prop := (∀ (k : Nat) (w : List Nat), P[k]? = some w → dp k = nI w.length ∧ ∀ l, l < 6 → (∀ j : Nat, P[j]? = some (nxt w l) → lk (k * 6 + l) = nI j) ∧ (¬ nxt w l ∈ P → lk (k * 6 + l) = -1)) ∧ ∀ i, P.length * 6 ≤ i → i < 78 → lk i = -1
theorem cl5s {A1 A3 A4 A5 : Type} {body : (A1 → Int32 → A3 → A4 → A5 → Prop) → A1 → Int32 → A3 → A4 → A5 → Prop} (N : Nat) (I : Nat → A1 → A3 → A4 → A5 → Prop) (hs : ∀ k, k < N → ∀ a b c d, I k a b c d → ∀ rc : A1 → Int32 → A3 → A4 → A5 → Prop, (∀ a b c d, I (k + 1) a b c d → rc a (nI k + 1) b c d) → body rc a (nI k) b c d) (he : ∀ a b c d, I N a b c d → ∀ rc, body rc a (nI N) b c d) {a : A1} {b : A3} {c : A4} {d : A5} (h : I 0 a b c d) : ∃ n, lpW5 body n a (nI 0) b c d := by
  have key : ∀ j k, k + j = N → ∀ a b c d, I k a b c d → lpW5 body (j + 1) a (nI k) b c d := by
    intro j
    induction j with
    | zero => intro k hk a b c d h; obtain rfl : k = N := by omega
              exact he a b c d h _
    | succ j ih => intro k hk a b c d h; exact hs k (by omega) a b c d h _ (fun a b c d h => by rw [nI_1]; exact ih (k + 1) (by omega) a b c d h)
  exact ⟨N + 1, key N 0 (by omega) _ _ _ _ h⟩
theorem cl2s {A1 : Type} {body : (A1 → Int32 → Prop) → A1 → Int32 → Prop} (N : Nat) (I : Nat → A1 → Prop) (hs : ∀ k, k < N → ∀ a, I k a → ∀ rc : A1 → Int32 → Prop, (∀ a, I (k + 1) a → rc a (nI k + 1)) → body rc a (nI k)) (he : ∀ a, I N a → ∀ rc, body rc a (nI N)) {a : A1} (h : I 0 a) : ∃ n, lpW2 body n a (nI 0) := by
  have key : ∀ j k, k + j = N → ∀ a, I k a → lpW2 body (j + 1) a (nI k) := by
    intro j
    induction j with
    | zero => intro k hk a h; obtain rfl : k = N := by omega
              exact he a h _
    | succ j ih => intro k hk a h; exact hs k (by omega) a h _ (fun a h => by rw [nI_1]; exact ih (k + 1) (by omega) a h)
  exact ⟨N + 1, key N 0 (by omega) _ h⟩
theorem ix6 (k l : Nat) : nI k * 6 + nI l = nI (k * 6 + l) := by rw [i6, pk_mul, nI_add]
theorem fill78 {f : AR} {Q : AR → Prop} (h : ∀ g : AR, (∀ i, i < 78 → g i = -1) → Q g) : wp_J7_fill_53178 (-1) 78 f Q := by
  intro x hx
  subst hx
  refine cl2r (body := wb_J7_fill_53178_5 78 (-1) (nI 78) Q) 78 (fun k g => ∀ i, i < k → g i = -1) ?_ ?_ (fun i hi => by omega)
  · intro k hk g hI rc hrc
    refine br_ge hk (by decide) ⟨vp_in_nI hk (by decide), fun x hx => ?_⟩
    subst hx
    rw [cl_nI (by omega)]
    refine hrc _ (fun i hi => ?_)
    by_cases e : i = k
    · subst e; exact upd_s
    · rw [upd_n e]; exact hI i (by omega)
  · intro g hI rc
    exact br_end (Nat.le_refl _) (by decide) (h g hI)
theorem LK.sprout {P : List (List Nat)} (hP : TG P) (hlen : P.length < 13) {lk dp : AR} (h : LK P lk dp) {a : Nat} {w : List Nat} (ha : P[a]? = some w) {l : Nat} (hl : l < 6) (hn : ¬ nxt w l ∈ P) : LK (P ++ [l :: w]) (upd (upd lk (a * 6 + l) (nI P.length)) (P.length * 6 + xr l) (nI a)) (upd dp P.length (nI (w.length + 1))) := by
  have e := hP.new (wget_mem ha) hn
  have hal := wget_lt ha
  have hxl := xr_lt l hl
  have hP2 := hP.add (wget_mem ha) hl hn
  have hnew : ¬ l :: w ∈ P := by rw [← e]; exact hn
  refine ⟨fun k v hk => ?_, fun i h1 h2 => ?_⟩
  · rcases wapp_get hk with ⟨hkl, hk1⟩ | ⟨rfl, rfl⟩
    · clear hk
      have hk := hk1
      clear hk1
      have h1 := h.1 k v hk
      refine ⟨by rw [upd_n (by omega)]; exact h1.1, fun m hm => ?_⟩
      rw [upd_n (show k * 6 + m ≠ P.length * 6 + xr l by omega)]
      by_cases c : k = a ∧ m = l
      · obtain ⟨rfl, rfl⟩ := c
        rw [ha] at hk
        cases hk
        rw [upd_s]
        refine ⟨fun j hj => ?_, fun c => absurd ?_ c⟩
        · rw [e] at hj
          rw [wget_inj hP2.2.1 hj (wnew_get P (m :: w))]
        · rw [e]; exact List.mem_append_right _ (List.mem_singleton.mpr rfl)
      · rw [upd_n (by omega)]
        have hne : nxt v m ≠ l :: w := by
          intro e2
          cases v with
          | nil =>
            have e3 : [m] = l :: w := e2
            cases e3
            have : k = a := wget_inj hP.2.1 hk ha
            exact c ⟨this, rfl⟩
          | cons b t =>
            have e3 : (if b = xr m then t else m :: b :: t) = l :: w := e2
            by_cases c2 : b = xr m
            · rw [if_pos c2] at e3
              rw [e3] at hk
              exact hnew (hP.tail (wget_mem hk))
            · rw [if_neg c2] at e3
              cases e3
              have : k = a := wget_inj hP.2.1 hk ha
              exact c ⟨this, rfl⟩
        refine ⟨fun j hj => ?_, fun c3 => (h1.2 m hm).2 (fun c4 => c3 (List.mem_append_left _ c4))⟩
        rcases wapp_get hj with ⟨_, hj⟩ | ⟨_, hj⟩
        · exact (h1.2 m hm).1 j hj
        · exact absurd hj hne
    · refine ⟨by rw [upd_s]; rfl, fun m hm => ?_⟩
      by_cases c : m = xr l
      · subst c
        rw [upd_s]
        have e2 : nxt (l :: w) (xr l) = w := by
          show (if l = xr (xr l) then w else _) = w
          rw [if_pos (xr_xr l).symm]
        rw [e2]
        refine ⟨fun j hj => ?_, fun c => absurd (List.mem_append_left _ (wget_mem ha)) c⟩
        rw [wget_inj hP2.2.1 hj (wget_app ha)]
      · have e2 : nxt (l :: w) m = m :: l :: w := by
          show (if l = xr m then w else _) = _
          rw [if_neg (fun c2 => c (by rw [c2, xr_xr]))]
        have hno : ¬ m :: l :: w ∈ P ++ [l :: w] := by
          intro c2
          rcases List.mem_append.mp c2 with c2 | c2
          · exact hnew (hP.tail c2)
          · have := congrArg List.length (List.mem_singleton.mp c2)
            simp at this
        rw [e2, upd_n (by omega), upd_n (by omega)]
        exact ⟨fun j hj => absurd (wget_mem hj) hno, fun _ => h.2 _ (by omega) (by omega)⟩
  · rw [List.length_append] at h1
    have h1' : (P.length + 1) * 6 ≤ i := h1
    rw [upd_n (by omega), upd_n (by omega)]
    exact h.2 i (by omega) h2
theorem grow1 {x : Nat → Nat} {n : Nat} (hn : n ≤ 12) {wl : AR} (hx : ∀ i, i < n → x i < 6 ∧ wl i = nI (x i)) {tp te : Int32} {lk dp : AR} {Q : Int32 → Int32 → AR → AR → Prop} (h : ∀ lk dp (e : Nat), LK (tP x n) lk dp → (tP x n)[e]? = some (tw x n) → Q (nI (tP x n).length) (nI e) lk dp) : wp_X5_grow tp te lk dp wl (nI n) Q := by
  refine fill78 (fun g hg => ⟨vp_in_nI (n := 0) (by decide) (by decide), ?_⟩)
  have h0 : LK (tP x 0) g (upd dp 0 0) := by
    refine ⟨fun k w hk => ?_, fun i h1 h2 => hg i h2⟩
    have hkl := wget_lt hk
    have hkl' : k < 1 := hkl
    obtain rfl : k = 0 := by omega
    obtain rfl : [] = w := Option.some.inj hk
    refine ⟨upd_s, fun l hl => ⟨fun j hj => ?_, fun _ => hg _ (by omega)⟩⟩
    have hjl := wget_lt hj
    have hjl' : j < 1 := hjl
    obtain rfl : j = 0 := by omega
    cases hj
  refine cl5s (body := wb_X5_grow_24 wl (nI n) te Q) n (fun k a pl lk dp => ∃ e : Nat, a = nI e ∧ pl = nI (tP x k).length ∧ LK (tP x k) lk dp ∧ (tP x k)[e]? = some (tw x k)) ?_ ?_ ⟨0, rfl, rfl, h0, rfl⟩
  · rintro k hk a pl lk dp ⟨e, rfl, rfl, hLK, he⟩ rc hrc
    have hok := tP_ok k (fun i hi => (hx i (by omega)).1)
    have hel := wget_lt he
    have hlen := hok.2.2
    have hxk := (hx k hk).1
    refine br_ge hk (by omega) ⟨vp_in_nI (by omega) (by decide), fun y hy => ?_⟩
    rw [cl_nI (by omega), (hx k hk).2] at hy
    subst hy
    rw [ix6, cl_nI (by omega)]
    have go : ∀ (P : List (List Nat)) (lk dp : AR), P = tP x (k + 1) → LK P lk dp → wp_X5_grow_62 wl (nI n) (nI e) (nI k) (nI (x k)) (nI P.length) te lk dp rc Q := by
      intro P lk dp hP hL
      subst hP
      have hok2 := tP_ok (k + 1) (fun i hi => (hx i (by omega)).1)
      obtain ⟨j, hj⟩ := wmem_get hok2.2.1
      unfold wp_X5_grow_62
      rw [ix6, cl_nI (by omega)]
      refine ⟨vp_in_nI (by omega) (by decide), fun y hy z hz => ?_⟩
      have he2 : (tP x (k + 1))[e]? = some (tw x k) := by
        rw [tP]
        by_cases c : tw x (k + 1) ∈ tP x k
        · rw [addW_in c]; exact he
        · rw [addW_out c]; exact wget_app he
      rw [((hL.1 e _ he2).2 (x k) hxk).1 j hj] at hy
      subst hy hz
      exact hrc _ _ _ _ ⟨j, rfl, rfl, hL, hj⟩
    refine ⟨vp_in_nI (by omega) (by decide), fun c => ?_, fun c => ?_⟩
    · refine go (tP x k) lk dp ?_ hLK
      rw [tP, addW_in]
      refine Classical.byContradiction fun c2 => ?_
      rw [((hLK.1 e _ he).2 (x k) hxk).2 c2] at c
      exact absurd c (by decide)
    · have c2 : ¬ nxt (tw x k) (x k) ∈ tP x k := fun c2 => by
        obtain ⟨j, hj⟩ := wmem_get c2
        have hjl := wget_lt hj
        rw [((hLK.1 e _ he).2 (x k) hxk).1 j hj] at c
        exact c (nn_nI (by omega))
      unfold wp_X5_sprout
      have hxr := xr_lt _ hxk
      rw [ix6, xr_I _ hxk, ix6, cl_nI (by omega), cl_nI (by omega), cl_nI (by omega), cl_nI (by omega)]
      refine ⟨vp_in_nI (by omega) (by decide), vp_in_nI (by omega) (by decide), vp_in_nI (by omega) (by decide), vp_in_nI (by omega) (by decide), ?_⟩
      have hs := hLK.sprout hok.1 (by omega) he hxk c2
      have hPe : tP x k ++ [x k :: tw x k] = tP x (k + 1) := by
        rw [tP, tw, addW_out c2, hok.1.new hok.2.1 c2]
      rw [nI_1, (hLK.1 e _ he).1, nI_1]
      have := go _ _ _ hPe hs
      rw [List.length_append] at this
      exact this
  · rintro a pl lk dp ⟨e, rfl, rfl, hLK, he⟩ rc
    exact br_end (Nat.le_refl n) (by omega) (h lk dp e hLK he)
theorem follow1 {P : List (List Nat)} (hP : TG P) (hlen : P.length ≤ 13) {lk dp : AR} (h : LK P lk dp) {x : Nat → Nat} {n : Nat} (hn : n ≤ 12) {wl : AR} (hx : ∀ i, i < n → x i < 6 ∧ wl i = nI (x i)) {Q : Int32 → Prop} (h1 : ∀ j : Nat, (∀ k, k ≤ n → tw x k ∈ P) → P[j]? = some (tw x n) → Q (nI j)) (h2 : (∃ k, k ≤ n ∧ ¬ tw x k ∈ P) → Q (-1)) : wp_X6_follow 0 78 wl (nI n) lk Q := by
  have hz : ∀ i, i ≤ 0 → tw x i ∈ P := by
    intro i hi
    obtain rfl : i = 0 := by omega
    exact wget_mem hP.1
  refine cl2s (body := wb_X6_follow_5 78 wl (nI n) lk Q) n (fun k a => (∃ j : Nat, a = nI j ∧ P[j]? = some (tw x k) ∧ ∀ i, i ≤ k → tw x i ∈ P) ∨ (a = -1 ∧ ∃ i, i ≤ k ∧ ¬ tw x i ∈ P)) ?_ ?_ (Or.inl ⟨0, rfl, hP.1, hz⟩)
  · rintro k hk a hI rc hrc
    rcases hI with ⟨j, rfl, hj, hall⟩ | ⟨rfl, i, hi, hno⟩
    · have hjl := wget_lt hj
      have hxk := (hx k hk).1
      refine br_ge hk (by omega) ⟨fun c => absurd c (nI_pos (by omega)), fun _ => ⟨vp_in_nI (by omega) (by decide), ?_⟩⟩
      rw [cl_nI (by omega), (hx k hk).2, ix6, cl_nI (by omega)]
      refine ⟨vp_in_nI (by omega) (by decide), fun y hy z hz => ?_⟩
      subst hz
      by_cases c : nxt (tw x k) (x k) ∈ P
      · obtain ⟨j2, hj2⟩ := wmem_get c
        rw [((h.1 j _ hj).2 (x k) hxk).1 j2 hj2] at hy
        subst hy
        refine hrc _ (Or.inl ⟨j2, rfl, hj2, fun i hi => ?_⟩)
        by_cases e : i = k + 1
        · subst e; exact c
        · exact hall i (by omega)
      · rw [((h.1 j _ hj).2 (x k) hxk).2 c] at hy
        subst hy
        exact hrc _ (Or.inr ⟨rfl, k + 1, Nat.le_refl _, c⟩)
    · exact br_ge hk (by omega) ⟨fun _ => h2 ⟨i, by omega, hno⟩, fun c => absurd (by decide) c⟩
  · rintro a hI rc
    refine br_end (Nat.le_refl n) (by omega) ?_
    rcases hI with ⟨j, rfl, hj, hall⟩ | ⟨rfl, i, hi, hno⟩
    · exact h1 j hall hj
    · exact h2 ⟨i, hi, hno⟩
