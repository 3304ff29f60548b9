/-! PURE 10: what is found: one list for both. An entry: map, 1 + the row that it came from (0: none), letter, length -/
abbrev En : Type := Nat × Nat × Nat × Nat
def hasM (L : List En) (m : Nat) : Bool := L.any fun e => e.1 == m
theorem hasM_iff {L : List En} {m : Nat} : hasM L m = true ↔ ∃ e, e ∈ L ∧ e.1 = m := by
  simp only [hasM, List.any_eq_true, beq_iff_eq]
theorem hasM_get {L : List En} {m : Nat} : hasM L m = true ↔ ∃ (i : Nat) (e : En), L[i]? = some e ∧ e.1 = m := by
  rw [hasM_iff]
  constructor
  · rintro ⟨e, he, h⟩
    obtain ⟨i, hi⟩ := List.mem_iff_getElem?.mp he
    exact ⟨i, e, hi, h⟩
  · rintro ⟨i, e, hi, h⟩
    exact ⟨e, List.mem_iff_getElem?.mpr ⟨i, hi⟩, h⟩
def addE (L : List En) (e : En) : List En := if hasM L e.1 = true then L else L ++ [e]
theorem app_get {L : List En} {e e2 : En} {i : Nat} (h : (L ++ [e])[i]? = some e2) : (i < L.length ∧ L[i]? = some e2) ∨ (i = L.length ∧ e2 = e) := by
  by_cases c : i < L.length
  · rw [List.getElem?_append_left c] at h
    exact Or.inl ⟨c, h⟩
  · rw [List.getElem?_append_right (by omega)] at h
    by_cases c2 : i = L.length
    · subst c2
      rw [Nat.sub_self] at h
      exact Or.inr ⟨rfl, by cases h; rfl⟩
    · obtain ⟨j, hj⟩ : ∃ j, i - L.length = j + 1 := ⟨i - L.length - 1, by omega⟩
      rw [hj] at h
      cases h
theorem get_lt {L : List En} {i : Nat} {e : En} (h : L[i]? = some e) : i < L.length := by
  obtain ⟨h1, _⟩ := List.getElem?_eq_some_iff.mp h
  exact h1
theorem get_app {L t : List En} {i : Nat} {e : En} (h : L[i]? = some e) : (L ++ t)[i]? = some e := by
  rw [List.getElem?_append_left (get_lt h)]; exact h
theorem get_ex {L : List En} {i : Nat} (h : i < L.length) : ∃ e, L[i]? = some e := ⟨L[i], List.getElem?_eq_getElem h⟩
theorem addE_pre (L : List En) (e : En) : ∃ t, addE L e = L ++ t := by
  unfold addE
  split
  · exact ⟨[], (List.append_nil L).symm⟩
  · exact ⟨[e], rfl⟩
theorem addE_has (L : List En) (e : En) : hasM (addE L e) e.1 = true := by
  unfold addE
  split
  · assumption
  · exact hasM_iff.mpr ⟨e, List.mem_append_right _ (List.mem_cons_self ..), rfl⟩
theorem has_app {L t : List En} {m : Nat} (h : hasM L m = true) : hasM (L ++ t) m = true := by
  obtain ⟨e, he, h⟩ := hasM_iff.mp h
  exact hasM_iff.mpr ⟨e, List.mem_append_left _ he, h⟩
def atE (L : List En) (i : Nat) : En := (L[i]?).getD (0, 0, 0, 0)
theorem atE_get {L : List En} {i : Nat} {e : En} (h : L[i]? = some e) : atE L i = e := by unfold atE; rw [h]; rfl
def staL (lt : Nat → Nat) : Nat → List En
  | 0 => []
  | k + 1 => addE (staL lt k) (lt k, 0, k, 1)
def innL (lt : Nat → Nat) (L : List En) (i : Nat) : Nat → List En
  | 0 => L
  | k + 1 => addE (innL lt L i k) (thenN (atE L i).1 (lt k), i + 1, k, (atE L i).2.2.2 + 1)
def wvL (c : Nat) (lt : Nat → Nat) : Nat → List En
  | 0 => staL lt c
  | k + 1 => if k < (wvL c lt k).length then innL lt (wvL c lt k) k c else wvL c lt k
theorem innL_pre (lt : Nat → Nat) (L : List En) (i : Nat) : ∀ k, ∃ t, innL lt L i k = L ++ t
  | 0 => ⟨[], (List.append_nil L).symm⟩
  | k + 1 => by
    obtain ⟨t, ht⟩ := innL_pre lt L i k
    obtain ⟨s, hs⟩ := addE_pre (innL lt L i k) (thenN (atE L i).1 (lt k), i + 1, k, (atE L i).2.2.2 + 1)
    exact ⟨t ++ s, by rw [innL, hs, ht, List.append_assoc]⟩
theorem innL_has (lt : Nat → Nat) (L : List En) (i : Nat) {j : Nat} : ∀ k, j < k → hasM (innL lt L i k) (thenN (atE L i).1 (lt j)) = true
  | k + 1, h => by
    by_cases e : j = k
    · subst e; exact addE_has _ (thenN (atE L i).1 (lt j), _, _, _)
    · obtain ⟨s, hs⟩ := addE_pre (innL lt L i k) (thenN (atE L i).1 (lt k), i + 1, k, (atE L i).2.2.2 + 1)
      rw [innL, hs]
      exact has_app (innL_has lt L i k (by omega))
theorem staL_has (lt : Nat → Nat) {j : Nat} : ∀ k, j < k → hasM (staL lt k) (lt j) = true
  | k + 1, h => by
    by_cases e : j = k
    · subst e; exact addE_has _ (lt j, _, _, _)
    · obtain ⟨s, hs⟩ := addE_pre (staL lt k) (lt k, 0, k, 1)
      rw [staL, hs]
      exact has_app (staL_has lt k (by omega))
theorem wvL_pre1 (c : Nat) (lt : Nat → Nat) (k : Nat) : ∃ t, wvL c lt (k + 1) = wvL c lt k ++ t := by
  rw [wvL]
  split
  · exact innL_pre lt _ _ _
  · exact ⟨[], (List.append_nil _).symm⟩
theorem wvL_pre (c : Nat) (lt : Nat → Nat) {i : Nat} : ∀ k, i ≤ k → ∃ t, wvL c lt k = wvL c lt i ++ t
  | 0, h => by obtain rfl : i = 0 := by omega
               exact ⟨[], (List.append_nil _).symm⟩
  | k + 1, h => by
    by_cases e : i = k + 1
    · subst e; exact ⟨[], (List.append_nil _).symm⟩
    · obtain ⟨t, ht⟩ := wvL_pre c lt (i := i) k (by omega)
      obtain ⟨s, hs⟩ := wvL_pre1 c lt k
      exact ⟨t ++ s, by rw [hs, ht, List.append_assoc]⟩
/-! what comes by letters -/
def Gen (c : Nat) (lt : Nat → Nat) (m : Nat) : Prop := ∀ P : Nat → Prop, (∀ l, l < c → P (lt l)) → (∀ a, P a → ∀ l, l < c → P (thenN a (lt l))) → P m
def frm (L : List En) (e : En) : Prop := (e.2.1 = 0 ∧ e.2.2.2 = 1) ∨ ∃ j e', e.2.1 = j + 1 ∧ L[j]? = some e' ∧ e.2.2.2 = e'.2.2.2 + 1
def GL (c : Nat) (lt : Nat → Nat) (L : List En) : Prop :=
  (∀ e, e ∈ L → VM e.1 ∧ e.2.2.1 < c ∧ Gen c lt e.1) ∧ (L.map fun e => e.1).Nodup ∧
  ∀ i e, L[i]? = some e → (e.2.1 = 0 ∧ e.2.2.2 = 1) ∨ ∃ j e', j < i ∧ e.2.1 = j + 1 ∧ L[j]? = some e' ∧ e.2.2.2 = e'.2.2.2 + 1
theorem GL.add {c : Nat} {lt : Nat → Nat} {L : List En} (h : GL c lt L) {e : En} (hv : VM e.1) (hl : e.2.2.1 < c) (hg : Gen c lt e.1) (hf : frm L e) : GL c lt (addE L e) := by
  unfold addE
  by_cases hm : hasM L e.1 = true
  · rw [if_pos hm]; exact h
  · rw [if_neg hm]
    refine ⟨fun e2 h2 => ?_, ?_, fun i e2 h2 => ?_⟩
    · rcases List.mem_append.mp h2 with h2 | h2
      · exact h.1 e2 h2
      · obtain rfl := List.mem_singleton.mp h2
        exact ⟨hv, hl, hg⟩
    · rw [List.map_append, List.nodup_append]
      refine ⟨h.2.1, ?_, ?_⟩
      · simp
      · intro a ha b hb eab
        obtain ⟨e3, h3, h4⟩ := List.mem_map.mp ha
        obtain ⟨e5, h5, h6⟩ := List.mem_map.mp hb
        obtain rfl := List.mem_singleton.mp h5
        exact hm (hasM_iff.mpr ⟨e3, h3, by rw [h4, eab, ← h6]⟩)
    · rcases app_get h2 with ⟨c1, h2⟩ | ⟨c1, rfl⟩
      · rcases h.2.2 i e2 h2 with c2 | ⟨j, e', hj, c3, c4, c5⟩
        · exact Or.inl c2
        · exact Or.inr ⟨j, e', hj, c3, get_app c4, c5⟩
      · rcases hf with c2 | ⟨j, e', c3, c4, c5⟩
        · exact Or.inl c2
        · exact Or.inr ⟨j, e', by have := get_lt c4; omega, c3, get_app c4, c5⟩
theorem GL.len {c : Nat} {lt : Nat → Nat} {L : List En} (h : GL c lt L) : L.length ≤ 1546 := by
  have := maps_le h.2.1 (fun x hx => by obtain ⟨e, he, rfl⟩ := List.mem_map.mp hx; exact (h.1 e he).1)
  rw [List.length_map] at this
  exact this
theorem GL.room {c : Nat} {lt : Nat → Nat} {L : List En} (h : GL c lt L) {m : Nat} (hv : VM m) (hm : hasM L m = false) : L.length < 1546 := by
  have hn : (m :: L.map fun e => e.1).Nodup := List.nodup_cons.mpr ⟨(fun c => by
    obtain ⟨e, he, h1⟩ := List.mem_map.mp c
    rw [hasM_iff.mpr ⟨e, he, h1⟩] at hm
    cases hm), h.2.1⟩
  have := maps_le hn (fun x hx => by
    rcases List.mem_cons.mp hx with rfl | hx
    · exact hv
    · obtain ⟨e, he, rfl⟩ := List.mem_map.mp hx; exact (h.1 e he).1)
  rw [List.length_cons, List.length_map] at this
  omega
theorem GL.nil (c : Nat) (lt : Nat → Nat) : GL c lt [] := ⟨(fun e h => by cases h), List.nodup_nil, (fun i e h => by cases h)⟩
theorem GL.sta {c : Nat} {lt : Nat → Nat} (hv : ∀ l, l < c → VM (lt l)) : ∀ k, k ≤ c → GL c lt (staL lt k)
  | 0, _ => GL.nil c lt
  | k + 1, h => (GL.sta hv k (by omega)).add (hv k (by omega)) (show k < c by omega) (fun P h1 _ => h1 k (by omega)) (Or.inl ⟨rfl, rfl⟩)
theorem GL.inn {c : Nat} {lt : Nat → Nat} (hv : ∀ l, l < c → VM (lt l)) {L : List En} (h : GL c lt L) {i : Nat} (hi : i < L.length) : ∀ k, k ≤ c → GL c lt (innL lt L i k)
  | 0, _ => h
  | k + 1, hk => by
    obtain ⟨e, he⟩ := get_ex hi
    have hm := h.1 e (List.mem_iff_getElem?.mpr ⟨i, he⟩)
    obtain ⟨t, ht⟩ := innL_pre lt L i k
    refine (GL.inn hv h hi k (by omega)).add ?_ (show k < c by omega) ?_ (Or.inr ⟨i, e, rfl, ?_, ?_⟩)
    · rw [atE_get he]; exact hm.1.then (hv k (by omega))
    · rw [atE_get he]; exact fun P h1 h2 => h2 _ (hm.2.2 P h1 h2) k (by omega)
    · rw [ht]; exact get_app he
    · rw [atE_get he]
theorem GL.wv {c : Nat} {lt : Nat → Nat} (hv : ∀ l, l < c → VM (lt l)) : ∀ k, GL c lt (wvL c lt k)
  | 0 => GL.sta hv c (Nat.le_refl c)
  | k + 1 => by
    rw [wvL]
    split
    · exact GL.inn hv (GL.wv hv k) (by assumption) c (Nat.le_refl c)
    · exact GL.wv hv k
def Fin0 (c : Nat) (lt : Nat → Nat) (N : Nat) : Prop := (wvL c lt N).length = N ∧ ∀ k, k < N → k < (wvL c lt k).length
theorem fin_ex {c : Nat} {lt : Nat → Nat} (hc : 0 < c) (hv : ∀ l, l < c → VM (lt l)) : ∃ N, Fin0 c lt N := by
  have hex : ∃ k, (wvL c lt k).length ≤ k := by
    have key : ∀ M, M = 1546 → (wvL c lt M).length ≤ M := fun M hM => by have := (GL.wv hv M).len; omega
    obtain ⟨M, hM⟩ : ∃ M, M = 1546 := ⟨_, rfl⟩
    exact ⟨M, key M hM⟩
  obtain ⟨N, h1, h2⟩ := pk_least (fun k => (wvL c lt k).length ≤ k) hex
  refine ⟨N, ?_, fun k hk => by have := h2 k hk; omega⟩
  cases N with
  | zero =>
    exfalso
    obtain ⟨e, he, _⟩ := hasM_iff.mp (staL_has lt c hc)
    have := List.length_pos_of_mem he
    have h1' : (staL lt c).length ≤ 0 := h1
    omega
  | succ M =>
    have h3 := h2 M (by omega)
    obtain ⟨t, ht⟩ := wvL_pre1 c lt M
    have : (wvL c lt (M + 1)).length = (wvL c lt M).length + t.length := by rw [ht, List.length_append]
    omega
theorem fin_letters {c : Nat} {lt : Nat → Nat} {N : Nat} {l : Nat} (hl : l < c) : hasM (wvL c lt N) (lt l) = true := by
  obtain ⟨t, ht⟩ := wvL_pre c lt N (Nat.zero_le N)
  rw [ht]
  exact has_app (staL_has lt c hl)
theorem fin_step {c : Nat} {lt : Nat → Nat} {N : Nat} (h : Fin0 c lt N) {m l : Nat} (hm : hasM (wvL c lt N) m = true) (hl : l < c) : hasM (wvL c lt N) (thenN m (lt l)) = true := by
  obtain ⟨i, e, hi, he⟩ := hasM_get.mp hm
  have hiN := get_lt hi
  rw [h.1] at hiN
  obtain ⟨t, ht⟩ := wvL_pre c lt N (i := i) (by omega)
  obtain ⟨s, hs⟩ := wvL_pre c lt N (i := i + 1) (by omega)
  have hlt := h.2 i hiN
  obtain ⟨e2, h2⟩ := get_ex hlt
  have : e2 = e := by
    rw [ht, get_app h2] at hi
    cases hi; rfl
  subst this
  rw [hs]
  refine has_app ?_
  rw [wvL, if_pos hlt, ← he, ← atE_get h2]
  exact innL_has lt _ i c hl
/-! only the letters count -/
theorem staL_congr {lt lt' : Nat → Nat} : ∀ k, (∀ l, l < k → lt l = lt' l) → staL lt k = staL lt' k
  | 0, _ => rfl
  | k + 1, h => by rw [staL, staL, staL_congr k (fun l hl => h l (by omega)), h k (by omega)]
theorem innL_congr {lt lt' : Nat → Nat} (L : List En) (i : Nat) : ∀ k, (∀ l, l < k → lt l = lt' l) → innL lt L i k = innL lt' L i k
  | 0, _ => rfl
  | k + 1, h => by rw [innL, innL, innL_congr L i k (fun l hl => h l (by omega)), h k (by omega)]
theorem wvL_congr {c : Nat} {lt lt' : Nat → Nat} (h : ∀ l, l < c → lt l = lt' l) : ∀ k, wvL c lt k = wvL c lt' k
  | 0 => staL_congr c h
  | k + 1 => by rw [wvL, wvL, wvL_congr h k, innL_congr _ _ c h]
theorem Fin0.uniq {c : Nat} {lt : Nat → Nat} {N M : Nat} (h : Fin0 c lt N) (h2 : Fin0 c lt M) : N = M := by
  rcases Nat.lt_trichotomy N M with l | l | l
  · have := h2.2 N l; have := h.1; omega
  · exact l
  · have := h.2 M l; have := h2.1; omega
/-! loops by relation, counter first -/
theorem cl7r {A2 A3 A4 A5 A6 A7 : Type} {body : (Int32 → A2 → A3 → A4 → A5 → A6 → A7 → Prop) → Int32 → A2 → A3 → A4 → A5 → A6 → A7 → Prop} (N : Nat) (I : Nat → A2 → A3 → A4 → A5 → A6 → A7 → Prop) (hs : ∀ k, k < N → ∀ a b c d e f, I k a b c d e f → ∀ rc : Int32 → A2 → A3 → A4 → A5 → A6 → A7 → Prop, (∀ a b c d e f, I (k + 1) a b c d e f → rc (nI k + 1) a b c d e f) → body rc (nI k) a b c d e f) (he : ∀ a b c d e f, I N a b c d e f → ∀ rc, body rc (nI N) a b c d e f) {a : A2} {b : A3} {c : A4} {d : A5} {e : A6} {f : A7} (h : I 0 a b c d e f) : ∃ n, lpW7 body n (nI 0) a b c d e f := by
  have key : ∀ j k, k + j = N → ∀ a b c d e f, I k a b c d e f → lpW7 body (j + 1) (nI k) a b c d e f := by
    intro j
    induction j with
    | zero => intro k hk a b c d e f h; obtain rfl : k = N := by omega
              exact he a b c d e f h _
    | succ j ih => intro k hk a b c d e f h; exact hs k (by omega) a b c d e f h _ (fun a b c d e f h => by rw [nI_1]; exact ih (k + 1) (by omega) a b c d e f h)
  exact ⟨N + 1, key N 0 (by omega) _ _ _ _ _ _ h⟩
theorem cl6r {A2 A3 A4 A5 A6 : Type} {body : (Int32 → A2 → A3 → A4 → A5 → A6 → Prop) → Int32 → A2 → A3 → A4 → A5 → A6 → Prop} (N : Nat) (I : Nat → A2 → A3 → A4 → A5 → A6 → Prop) (hs : ∀ k, k < N → ∀ a b c d e, I k a b c d e → ∀ rc : Int32 → A2 → A3 → A4 → A5 → A6 → Prop, (∀ a b c d e, I (k + 1) a b c d e → rc (nI k + 1) a b c d e) → body rc (nI k) a b c d e) (he : ∀ a b c d e, I N a b c d e → ∀ rc, body rc (nI N) a b c d e) {a : A2} {b : A3} {c : A4} {d : A5} {e : A6} (h : I 0 a b c d e) : ∃ n, lpW6 body n (nI 0) a b c d e := by
  have key : ∀ j k, k + j = N → ∀ a b c d e, I k a b c d e → lpW6 body (j + 1) (nI k) a b c d e := by
    intro j
    induction j with
    | zero => intro k hk a b c d e h; obtain rfl : k = N := by omega
              exact he a b c d e h _
    | succ j ih => intro k hk a b c d e h; exact hs k (by omega) a b c d e h _ (fun a b c d e h => by rw [nI_1]; exact ih (k + 1) (by omega) a b c d e h)
  exact ⟨N + 1, key N 0 (by omega) _ _ _ _ _ h⟩
theorem cl3r {A2 A3 : Type} {body : (Int32 → A2 → A3 → Prop) → Int32 → A2 → A3 → Prop} (N : Nat) (I : Nat → A2 → A3 → Prop) (hs : ∀ k, k < N → ∀ a b, I k a b → ∀ rc : Int32 → A2 → A3 → Prop, (∀ a b, I (k + 1) a b → rc (nI k + 1) a b) → body rc (nI k) a b) (he : ∀ a b, I N a b → ∀ rc, body rc (nI N) a b) {a : A2} {b : A3} (h : I 0 a b) : ∃ n, lpW3 body n (nI 0) a b := by
  have key : ∀ j k, k + j = N → ∀ a b, I k a b → lpW3 body (j + 1) (nI k) a b := by
    intro j
    induction j with
    | zero => intro k hk a b h; obtain rfl : k = N := by omega
              exact he a b h _
    | succ j ih => intro k hk a b h; exact hs k (by omega) a b h _ (fun a b h => by rw [nI_1]; exact ih (k + 1) (by omega) a b h)
  exact ⟨N + 1, key N 0 (by omega) _ _ h⟩
theorem cl2r {A2 : Type} {body : (Int32 → A2 → Prop) → Int32 → A2 → Prop} (N : Nat) (I : Nat → A2 → Prop) (hs : ∀ k, k < N → ∀ a, I k a → ∀ rc : Int32 → A2 → Prop, (∀ a, I (k + 1) a → rc (nI k + 1) a) → body rc (nI k) a) (he : ∀ a, I N a → ∀ rc, body rc (nI N) a) {a : A2} (h : I 0 a) : ∃ n, lpW2 body n (nI 0) a := by
  have key : ∀ j k, k + j = N → ∀ a, I k a → lpW2 body (j + 1) (nI k) a := by
    intro j
    induction j with
    | zero => intro k hk a h; obtain rfl : k = N := by omega
              exact he a h _
    | succ j ih => intro k hk a h; exact hs k (by omega) a h _ (fun a h => by rw [nI_1]; exact ih (k + 1) (by omega) a h)
  exact ⟨N + 1, key N 0 (by omega) _ h⟩
