/-! PURE 31: the reference lays a row -/
theorem HJ_mem {J : List Jn} {a l b : Nat} : HJ J J.length a l b ↔ ∃ e, e ∈ J ∧ ((a = e.1 ∧ l = 2 * e.2.1 ∧ b = e.2.2) ∨ (a = e.2.2 ∧ l = 2 * e.2.1 + 1 ∧ b = e.1)) := by
  constructor
  · rintro ⟨j, e, hj, he, hor⟩
    exact ⟨e, List.mem_iff_getElem?.mpr ⟨j, he⟩, hor⟩
  · rintro ⟨e, he, hor⟩
    obtain ⟨j, hj⟩ := List.mem_iff_getElem?.mp he
    exact ⟨j, e, (List.getElem?_eq_some_iff.mp hj).1, hj, hor⟩
theorem jt_half {a l b a' l' b' : Nat} : ((a' = (jt a l b).1 ∧ l' = 2 * (jt a l b).2.1 ∧ b' = (jt a l b).2.2) ∨ (a' = (jt a l b).2.2 ∧ l' = 2 * (jt a l b).2.1 + 1 ∧ b' = (jt a l b).1)) ↔ (a' = a ∧ l' = l ∧ b' = b) ∨ (a' = b ∧ l' = xr l ∧ b' = a) := by
  unfold jt xr
  by_cases c : l % 2 = 0
  · rw [if_pos c, if_pos c]
    show ((a' = a ∧ l' = 2 * (l / 2) ∧ b' = b) ∨ (a' = b ∧ l' = 2 * (l / 2) + 1 ∧ b' = a)) ↔ _
    rw [show 2 * (l / 2) = l by omega]
  · rw [if_neg c, if_neg c]
    show ((a' = b ∧ l' = 2 * (l / 2) ∧ b' = a) ∨ (a' = a ∧ l' = 2 * (l / 2) + 1 ∧ b' = b)) ↔ _
    rw [show 2 * (l / 2) = l - 1 by omega, show l - 1 + 1 = l by omega]
    exact Or.comm
theorem RJ.mono {n n' : Nat} (h : n ≤ n') {J : List Jn} {jn : Int32} {fr by' tw' : AR} (hJ : RJ n J jn fr by' tw') : RJ n' J jn fr by' tw' :=
  ⟨hJ.1, hJ.2.1, fun k e he => by
    obtain ⟨h1, h2, h3, h4, h5, h6⟩ := hJ.2.2 k e he
    exact ⟨h1, h2, h3, by omega, by omega, h6⟩⟩
theorem new8 {n : Nat} (hn : n < 1400) {one : AR} {Q : Int32 → Int32 → AR → Prop} (h : Q (nI n) (nI (n + 1)) (upd one n (nI n))) : wp_X8_newPlace (nI n) one Q := by
  unfold wp_X8_newPlace
  rw [nI_1, nI_pred, cl_nI (by omega)]
  exact ⟨vp_in_nI hn (by decide), h⟩
theorem nwR_id (n : Nat) : nwR (fun x => x) n = fun x => x := by
  funext x
  unfold nwR
  by_cases c : x = n
  · rw [if_pos c, c]
  · rw [if_neg c]
theorem cl8r {A2 A3 A4 A5 A6 A7 A8 : Type} {body : (Int32 → A2 → A3 → A4 → A5 → A6 → A7 → A8 → Prop) → Int32 → A2 → A3 → A4 → A5 → A6 → A7 → A8 → Prop} (N : Nat) (I : Nat → A2 → A3 → A4 → A5 → A6 → A7 → A8 → Prop) (hs : ∀ k, k < N → ∀ a b c d e f g, I k a b c d e f g → ∀ rc : Int32 → A2 → A3 → A4 → A5 → A6 → A7 → A8 → Prop, (∀ a b c d e f g, I (k + 1) a b c d e f g → rc (nI k + 1) a b c d e f g) → body rc (nI k) a b c d e f g) (he : ∀ a b c d e f g, I N a b c d e f g → ∀ rc, body rc (nI N) a b c d e f g) {a : A2} {b : A3} {c : A4} {d : A5} {e : A6} {f : A7} {g : A8} (h : I 0 a b c d e f g) : ∃ n, lpW8 body n (nI 0) a b c d e f g := by
  have key : ∀ j k, k + j = N → ∀ a b c d e f g, I k a b c d e f g → lpW8 body (j + 1) (nI k) a b c d e f g := by
    intro j
    induction j with
    | zero => intro k hk a b c d e f g h; obtain rfl : k = N := by omega
              exact he a b c d e f g h _
    | succ j ih => intro k hk a b c d e f g h; exact hs k (by omega) a b c d e f g h _ (fun a b c d e f g h => by rw [nI_1]; exact ih (k + 1) (by omega) a b c d e f g h)
  exact ⟨N + 1, key N 0 (by omega) _ _ _ _ _ _ _ h⟩
def rJ (w : Nat → Nat) : Nat → List Jn
  | 0 => []
  | k + 1 => rJ w k ++ [jt k (w k) (k + 1)]
theorem rJ_len (w : Nat → Nat) : ∀ k, (rJ w k).length = k
  | 0 => rfl
  | k + 1 => by rw [rJ, List.length_append, rJ_len w k]; rfl
theorem rJ_mem {w : Nat → Nat} {e : Jn} : ∀ {m : Nat}, e ∈ rJ w m ↔ ∃ k, k < m ∧ e = jt k (w k) (k + 1)
  | 0 => ⟨fun h => by (cases h), fun ⟨k, hk, _⟩ => by omega⟩
  | m + 1 => by
    rw [rJ, List.mem_append, rJ_mem (m := m), List.mem_singleton]
    constructor
    · rintro (⟨k, hk, h⟩ | h)
      · exact ⟨k, by omega, h⟩
      · exact ⟨m, by omega, h⟩
    · rintro ⟨k, hk, h⟩
      by_cases c : k = m
      · subst c; exact Or.inr h
      · exact Or.inl ⟨k, by omega, h⟩
theorem layRow8 {w : Nat → Nat} {m j : Nat} (hm : m ≤ 12) (hj : j < 4) {st : AR} (hst : st (6 + j) = nI m) (hw : ∀ i, i < m → w i < 6 ∧ st (10 + 12 * j + i) = nI (w i)) {jn np bg fi : Int32} {fr by' tw' one nu nx : AR} {Q : Int32 → Int32 → Int32 → Int32 → AR → AR → AR → AR → AR → AR → Prop} (hQ : ∀ s b' e' J' jn fr by' tw' one nu nx, RN s J' jn fr by' tw' one nx → s ≤ 13 → QP (rwV m) (rwE w m) (fun _ _ => False) (0, 4, 0) (m, 4, 0) s (lkN s nx) b' e' → Q jn (nI s) (nI b') (nI e') fr by' tw' one nu nx) : wp_X8_layRow (nI j) jn np bg fi st fr by' tw' one nu nx Q := by
  have e6 : (6 : Int32) + nI j = nI (6 + j) := by rw [i6, nI_add]
  have e10 : ∀ k, ((10 : Int32) + (12 : Int32) * nI j) + nI k = nI (10 + 12 * j + k) := fun k => by
    rw [show (12 : Int32) = nI 12 from rfl, show (10 : Int32) = nI 10 from rfl, pk_mul, nI_add, nI_add]
  have hF0 : FR one 0 (fun x => x) (fun _ => 0) := fun p hp => by omega
  have hF1 := hF0.new
  rw [nwR_id] at hF1
  refine new8 (n := 0) (by omega) ?_
  have hJ0 : RJ 1 (rJ w 0) 0 fr by' tw' := ⟨rfl, by show 0 ≤ 1400; omega, fun k e h => by (cases h)⟩
  refine cl8r (body := wb_X8_layRow_28 st (nI j) (nI 0) nu nx Q) m (fun k jn np fi fr by' tw' one => np = nI (k + 1) ∧ fi = nI k ∧ RJ (k + 1) (rJ w k) jn fr by' tw' ∧ FR one (k + 1) (fun x => x) (fun _ => 0)) ?_ ?_ ⟨rfl, rfl, hJ0, hF1⟩
  · rintro k hk jn1 np1 fi1 fr1 by1 tw1 one1 ⟨rfl, rfl, hRJ, hFR⟩ rc hrc
    have hlen := rJ_len w k
    unfold wb_X8_layRow_28
    rw [e6, e10, cl_nI (by omega), cl_nI (by omega), hst, (hw k hk).2]
    refine ⟨vp_in_nI (by omega) (by decide), br_ge hk (by omega) (new8 (by omega) ⟨vp_in_nI (by omega) (by decide), ?_⟩)⟩
    have hF2 := hFR.new
    rw [nwR_id] at hF2
    refine addJ8 (n := k + 1 + 1) (hRJ.mono (by omega)) (by omega) (by omega) (hw k hk).1 (by omega) (fun jn2 fr2 by2 tw2 hRJ2 x hx => ?_)
    subst hx
    exact hrc _ _ _ _ _ _ _ ⟨rfl, rfl, hRJ2, hF2⟩
  · rintro jn1 np1 fi1 fr1 by1 tw1 one1 ⟨rfl, rfl, hRJ, hFR⟩ rc
    unfold wb_X8_layRow_28
    rw [e6, cl_nI (by omega), hst]
    refine ⟨vp_in_nI (by omega) (by decide), br_end (Nat.le_refl m) (by omega) ?_⟩
    refine foldNet8 (V := rwV m) (E := rwE w m) (M := fun _ _ => False) (nm := fun k => (k, 4, 0)) (b := 0) (e := m) (by omega) (fun p q _ _ e => by
      have e' : ((p, 4, 0) : Nm) = (q, 4, 0) := e
      cases e'; rfl) (fun x => ⟨fun ⟨k, hk, e⟩ => ⟨k, by omega, e.symm⟩, fun ⟨p, hp, e⟩ => ⟨p, by omega, e.symm⟩⟩) hRJ (fun i e he => ?_) (fun x l y hxy => ?_) (fun x y c => absurd c id) hFR (fun p q _ _ e => by rw [show p = q from e]; exact (LE.eqv _ _).1 _) (by omega) (by omega) (fun s b' e' J' jn fr by' tw' one nu nx h1 h2 h3 => hQ s b' e' J' jn fr by' tw' one nu nx h1 (by omega) h3)
    · obtain ⟨k, hk, rfl⟩ := rJ_mem.mp (List.mem_iff_getElem?.mpr ⟨i, he⟩)
      have hwk := (hw k hk).1
      constructor
      · rcases jt_half.mp (Or.inl ⟨rfl, rfl, rfl⟩) with ⟨f1, f2, f3⟩ | ⟨f1, f2, f3⟩
        · exact ⟨k, hk, hwk, Or.inl ⟨by rw [f1], f2, by rw [f3]⟩⟩
        · exact ⟨k, hk, hwk, Or.inr ⟨by rw [f1], f2, by rw [f3]⟩⟩
      · rcases jt_half.mp (Or.inr ⟨rfl, rfl, rfl⟩) with ⟨f1, f2, f3⟩ | ⟨f1, f2, f3⟩
        · exact ⟨k, hk, hwk, Or.inl ⟨by rw [f1], f2, by rw [f3]⟩⟩
        · exact ⟨k, hk, hwk, Or.inr ⟨by rw [f1], f2, by rw [f3]⟩⟩
    · obtain ⟨k, hk, hwk, ⟨rfl, rfl, rfl⟩ | ⟨rfl, rfl, rfl⟩⟩ := hxy
      · exact ⟨k, k + 1, by omega, by omega, rfl, rfl, HJ_mem.mpr ⟨_, rJ_mem.mpr ⟨k, hk, rfl⟩, jt_half.mpr (Or.inl ⟨rfl, rfl, rfl⟩)⟩⟩
      · exact ⟨k + 1, k, by omega, by omega, rfl, rfl, HJ_mem.mpr ⟨_, rJ_mem.mpr ⟨k, hk, rfl⟩, jt_half.mpr (Or.inr ⟨rfl, rfl, rfl⟩)⟩⟩
