/-! PURE 39: the reference sews a seam -/
theorem cl8s {A1 A3 A4 A5 A6 A7 A8 : Type} {body : (A1 → Int32 → A3 → A4 → A5 → A6 → A7 → A8 → Prop) → A1 → Int32 → A3 → A4 → A5 → A6 → A7 → A8 → Prop} (N : Nat) (I : Nat → A1 → A3 → A4 → A5 → A6 → A7 → A8 → Prop) (hs : ∀ k, k < N → ∀ a b c d e f g, I k a b c d e f g → ∀ rc : A1 → Int32 → A3 → A4 → A5 → A6 → A7 → A8 → Prop, (∀ a b c d e f g, I (k + 1) a b c d e f g → rc a (nI k + 1) b c d e f g) → body rc a (nI k) b c d e f g) (he : ∀ a b c d e f g, I N a b c d e f g → ∀ rc, body rc a (nI N) b c d e f g) {a : A1} {b : A3} {c : A4} {d : A5} {e : A6} {f : A7} {g : A8} (h : I 0 a b c d e f g) : ∃ n, lpW8 body n a (nI 0) b c d e f g := by
  have key : ∀ j k, k + j = N → ∀ a b c d e f g, I k a b c d e f g → lpW8 body (j + 1) a (nI k) b c d e f g := by
    intro j
    induction j with
    | zero => intro k hk a b c d e f g h; obtain rfl : k = N := by omega
              exact he a b c d e f g h _
    | succ j ih => intro k hk a b c d e f g h; exact hs k (by omega) a b c d e f g h _ (fun a b c d e f g h => by rw [nI_1]; exact ih (k + 1) (by omega) a b c d e f g h)
  exact ⟨N + 1, key N 0 (by omega) _ _ _ _ _ _ _ h⟩
section SEWR
variable {E : Nm → Nat → Nm → Prop} {M : Nm → Nm → Prop} {V V' : Nm → Prop} {D D' : Nm → Nat → Nm → Prop} {Mg Mg' : Nm → Nm → Prop} {s n : Nat} {g : Nat → Nat} {nm : Nat → Nm} {J : List Jn} {jn : Int32} {fr by' tw' one : AR}
/-- the reference's raw state in a round; g leads its base places to the class's -/
def SR (E : Nm → Nat → Nm → Prop) (M : Nm → Nm → Prop) (V : Nm → Prop) (D : Nm → Nat → Nm → Prop) (Mg : Nm → Nm → Prop) (s : Nat) (g : Nat → Nat) (n : Nat) (nm : Nat → Nm) (J : List Jn) (jn : Int32) (fr by' tw' one : AR) : Prop :=
  ∃ rt d0, FR one n rt d0 ∧ (∀ p q, p < n → q < n → rt p = rt q → LE E M (nm p) (nm q)) ∧ RJ n J jn fr by' tw' ∧ s ≤ n ∧ (∀ k, k < s → nm k = (g k, 4, 0)) ∧ (∀ p q, p < n → q < n → nm p = nm q → p = q) ∧ (∀ x, V x ↔ ∃ p, p < n ∧ nm p = x) ∧ (∀ e, e ∈ J → E (nm e.1) (2 * e.2.1) (nm e.2.2) ∧ E (nm e.2.2) (2 * e.2.1 + 1) (nm e.1)) ∧ (∀ x l y, D x l y → ∃ a b, a < n ∧ b < n ∧ nm a = x ∧ nm b = y ∧ HJ J J.length a l b) ∧ ∀ x y, Mg x y → ∃ p q, p < n ∧ q < n ∧ nm p = x ∧ nm q = y ∧ rt p = rt q
theorem SR.mono (h : SR E M V D Mg s g n nm J jn fr by' tw' one) (hV : ∀ x, V' x ↔ V x) (hD : ∀ x l y, D' x l y → D x l y) (hM : ∀ x y, Mg' x y → Mg x y) : SR E M V' D' Mg' s g n nm J jn fr by' tw' one := by
  obtain ⟨rt, d0, h1, h2, h3, h4, h5, h6, h7, h8, h9, h10⟩ := h
  exact ⟨rt, d0, h1, h2, h3, h4, h5, h6, fun x => by rw [hV, h7], h8, fun x l y e => h9 x l y (hD x l y e), fun x y e => h10 x y (hM x y e)⟩
theorem SR.base (h : SR E M V D Mg s g n nm J jn fr by' tw' one) : s ≤ n ∧ ∀ k, k < s → nm k = (g k, 4, 0) := by
  obtain ⟨rt, d0, h1, h2, h3, h4, h5, _⟩ := h
  exact ⟨h4, h5⟩
theorem linkR (hS : ∀ x l y, l < 6 → E x l y → E y (xr l) x) (h : SR E M V D Mg s g n nm J jn fr by' tw' one) {a l b : Nat} (ha : a < n) (hb : b < n) (hl : l < 6) (he : E (nm a) l (nm b)) (hlen : J.length < 1400) {Q : Int32 → AR → AR → AR → Prop} (hQ : ∀ jn fr by' tw', SR E M V (fun x m y => D x m y ∨ (x = nm a ∧ m = l ∧ y = nm b) ∨ (x = nm b ∧ m = xr l ∧ y = nm a)) Mg s g n nm (J ++ [jt a l b]) jn fr by' tw' one → Q jn fr by' tw') : wp_X8_addJoint (nI a) (nI l) (nI b) jn fr by' tw' Q := by
  obtain ⟨rt, d0, h1, h2, h3, h4, h5, h6, h7, h8, h9, h10⟩ := h
  refine addJ8 h3 ha hb hl hlen (fun jn' fr' by2 tw2 hRJ => hQ _ _ _ _ ⟨rt, d0, h1, h2, hRJ, h4, h5, h6, h7, fun e he' => ?_, fun x m y c => ?_, h10⟩)
  · rcases List.mem_append.mp he' with c | c
    · exact h8 e c
    · rw [List.mem_singleton] at c
      subst c
      constructor
      · rcases jt_half.mp (Or.inl ⟨rfl, rfl, rfl⟩) with ⟨f1, f2, f3⟩ | ⟨f1, f2, f3⟩
        · rw [f1, f2, f3]; exact he
        · rw [f1, f2, f3]; exact hS _ _ _ hl he
      · rcases jt_half.mp (Or.inr ⟨rfl, rfl, rfl⟩) with ⟨f1, f2, f3⟩ | ⟨f1, f2, f3⟩
        · rw [f1, f2, f3]; exact he
        · rw [f1, f2, f3]; exact hS _ _ _ hl he
  · rcases c with c | ⟨rfl, rfl, rfl⟩ | ⟨rfl, rfl, rfl⟩
    · obtain ⟨u, v, hu, hv, e1, e2, hH⟩ := h9 x m y c
      obtain ⟨e, he', hor⟩ := HJ_mem.mp hH
      exact ⟨u, v, hu, hv, e1, e2, HJ_mem.mpr ⟨e, List.mem_append.mpr (Or.inl he'), hor⟩⟩
    · exact ⟨a, b, ha, hb, rfl, rfl, HJ_mem.mpr ⟨_, List.mem_append.mpr (Or.inr (List.mem_singleton.mpr rfl)), jt_half.mpr (Or.inl ⟨rfl, rfl, rfl⟩)⟩⟩
    · exact ⟨b, a, hb, ha, rfl, rfl, HJ_mem.mpr ⟨_, List.mem_append.mpr (Or.inr (List.mem_singleton.mpr rfl)), jt_half.mpr (Or.inr ⟨rfl, rfl, rfl⟩)⟩⟩
theorem newR (h : SR E M V D Mg s g n nm J jn fr by' tw' one) (hn1 : n < 1400) {x : Nm} (hx : ¬ V x) {Q : Int32 → Int32 → AR → Prop} (hQ : ∀ one', SR E M (fun y => V y ∨ y = x) D Mg s g (n + 1) (nmN nm n x) J jn fr by' tw' one' → Q (nI n) (nI (n + 1)) one') : wp_X8_newPlace (nI n) one Q := by
  obtain ⟨rt, d0, h1, h2, h3, h4, h5, h6, h7, h8, h9, h10⟩ := h
  have no : ∀ p, p < n → nmN nm n x p = nm p := fun p hp => if_neg (by omega)
  have nn : nmN nm n x n = x := if_pos rfl
  have ro : ∀ p, p < n → nwR rt n p = rt p := fun p hp => if_neg (by omega)
  have rn : nwR rt n n = n := if_pos rfl
  have hnx : ∀ p, p < n → nm p ≠ x := fun p hp e => hx ((h7 x).mpr ⟨p, hp, e⟩)
  refine new8 hn1 (hQ _ ⟨nwR rt n, d0, h1.new, fun p q hp hq e => ?_, h3.mono (by omega), by omega, fun k hk => by rw [no k (by omega)]; exact h5 k hk, fun p q hp hq e => ?_, fun y => ?_, fun e he => ?_, fun y m z c => ?_, fun y z c => ?_⟩)
  · by_cases c : p = n
    · by_cases c2 : q = n
      · rw [c, c2]; exact (LE.eqv E M).1 _
      · rw [c, rn, ro q (by omega)] at e
        have := h1.lt (p := q) (by omega)
        omega
    · by_cases c2 : q = n
      · rw [c2, rn, ro p (by omega)] at e
        have := h1.lt (p := p) (by omega)
        omega
      · rw [ro p (by omega), ro q (by omega)] at e
        rw [no p (by omega), no q (by omega)]
        exact h2 p q (by omega) (by omega) e
  · by_cases c : p = n
    · by_cases c2 : q = n
      · rw [c, c2]
      · rw [c, nn, no q (by omega)] at e
        exact absurd e.symm (hnx q (by omega))
    · by_cases c2 : q = n
      · rw [c2, nn, no p (by omega)] at e
        exact absurd e (hnx p (by omega))
      · rw [no p (by omega), no q (by omega)] at e
        exact h6 p q (by omega) (by omega) e
  · constructor
    · rintro (c | rfl)
      · obtain ⟨p, hp, e⟩ := (h7 y).mp c
        exact ⟨p, by omega, by rw [no p hp]; exact e⟩
      · exact ⟨n, by omega, nn⟩
    · rintro ⟨p, hp, e⟩
      by_cases c : p = n
      · rw [c, nn] at e; exact Or.inr e.symm
      · rw [no p (by omega)] at e
        exact Or.inl ((h7 y).mpr ⟨p, by omega, e⟩)
  · obtain ⟨j, hj⟩ := List.mem_iff_getElem?.mp he
    obtain ⟨_, _, _, f1, f2, _⟩ := h3.2.2 j e hj
    rw [no _ f1, no _ f2]
    exact h8 e he
  · obtain ⟨p, q, hp, hq, e1, e2, hH⟩ := h9 y m z c
    exact ⟨p, q, by omega, by omega, by rw [no p hp]; exact e1, by rw [no q hq]; exact e2, hH⟩
  · obtain ⟨p, q, hp, hq, e1, e2, e3⟩ := h10 y z c
    exact ⟨p, q, by omega, by omega, by rw [no p hp]; exact e1, by rw [no q hq]; exact e2, by rw [ro p hp, ro q hq]; exact e3⟩
theorem mergeR (hn : n ≤ 1400) (h : SR E M V D Mg s g n nm J jn fr by' tw' one) {a b : Nat} (ha : a < n) (hb : b < n) (he : M (nm a) (nm b)) {Q : AR → Prop} (hQ : ∀ one', SR E M V D (fun x y => Mg x y ∨ (x = nm a ∧ y = nm b)) s g n nm J jn fr by' tw' one' → Q one') : wp_X8_oneOf (nI b) one (fun r o1 => wp_X8_oneOf (nI a) o1 (fun r' o2 => vp_in r 1400 ∧ Q (upd o2 r.toNatClampNeg r'))) := by
  obtain ⟨rt, d0, h1, h2, h3, h4, h5, h6, h7, h8, h9, h10⟩ := h
  have la := h1.lt ha
  have lb := h1.lt hb
  have ra := h1.rr hn ha
  have rb := h1.rr hn hb
  have hEq := LE.eqv E M
  refine oneOf8 hn h1 hb (fun o1 f1 => oneOf8 hn f1 ha (fun o2 f2 => ⟨vp_in_nI (by omega) (by decide), ?_⟩))
  rw [cl_nI (by omega)]
  by_cases c : rt a = rt b
  · refine hQ _ ⟨rt, d0, f2.same (fun p hp => ?_), h2, h3, h4, h5, h6, h7, h8, h9, fun x y c2 => ?_⟩
    · by_cases c2 : p = rt b
      · subst c2
        rw [upd_s, c]
        exact ((f2.root hn lb).mpr rb).symm
      · rw [upd_n c2]
    · rcases c2 with c2 | ⟨rfl, rfl⟩
      · exact h10 x y c2
      · exact ⟨a, b, ha, hb, rfl, rfl, c⟩
  · have hab : LE E M (nm (rt a)) (nm (rt b)) := hEq.2.2 _ _ _ (h2 _ _ la ha ra) (hEq.2.2 _ _ _ (LE.mrg he) (h2 _ _ hb lb rb.symm))
    have hu := f2.union (d' := fun x => if rt x = rt b then d0 x + d0 (rt a) + 1 else d0 x) hn la lb ra rb c (by
      show (if rt (rt a) = rt b then d0 (rt a) + d0 (rt a) + 1 else d0 (rt a)) < (if rt (rt b) = rt b then d0 (rt b) + d0 (rt a) + 1 else d0 (rt b))
      rw [ra, rb, if_neg c, if_pos rfl]
      omega) (fun x q e1 e2 => by
      show (if rt q = rt b then d0 q + d0 (rt a) + 1 else d0 q) < (if rt x = rt b then d0 x + d0 (rt a) + 1 else d0 x)
      rw [e1]
      by_cases c2 : rt x = rt b
      · rw [if_pos c2, if_pos c2]; omega
      · rw [if_neg c2, if_neg c2]; exact e2)
    have hc : ∀ u v, rt u = rt v → unR rt (rt a) (rt b) u = unR rt (rt a) (rt b) v := fun u v e => by unfold unR; rw [e]
    refine hQ _ ⟨_, _, hu, fun u v hu' hv e => ?_, h3, h4, h5, h6, h7, h8, h9, fun x y c2 => ?_⟩
    · unfold unR at e
      by_cases c2 : rt u = rt b
      · by_cases c3 : rt v = rt b
        · exact h2 u v hu' hv (by rw [c2, c3])
        · rw [if_pos c2, if_neg c3] at e
          exact hEq.2.2 _ _ _ (h2 u (rt b) hu' lb (by rw [c2, rb])) (hEq.2.2 _ _ _ (hEq.2.1 _ _ hab) (h2 (rt a) v la hv (by rw [ra, e])))
      · by_cases c3 : rt v = rt b
        · rw [if_neg c2, if_pos c3] at e
          exact hEq.2.2 _ _ _ (h2 u (rt a) hu' la (by rw [e, ra])) (hEq.2.2 _ _ _ hab (h2 (rt b) v lb hv (by rw [rb, c3])))
        · rw [if_neg c2, if_neg c3] at e
          exact h2 u v hu' hv e
    · rcases c2 with c2 | ⟨rfl, rfl⟩
      · obtain ⟨p, q, hp, hq, e1, e2, e3⟩ := h10 x y c2
        exact ⟨p, q, hp, hq, e1, e2, hc p q e3⟩
      · refine ⟨a, b, ha, hb, rfl, rfl, ?_⟩
        unfold unR
        rw [if_neg c, if_pos rfl]
end SEWR
theorem sewR {F T : SmT} {s n : Nat} {g : Nat → Nat} {rN : Nat → Nat} {rW : Nat → Nat → Nat} {c : Nat → Nat → Option Nat} (hc : ∀ k l k', k < s → l < 6 → c k l = some k' → k' < s ∧ c k' (xr l) = some k) {p d q : Nat} (hF : F (d, g p, g q)) (hnT : ∀ q', ¬ T (d, g p, q')) (hd : d < 4) (hp : p < s) (hq : q < s) {tb : Nat → Bool} {st : AR} (hV : RV tb rN rW st) {nm : Nat → Nm} {J : List Jn} {jn : Int32} {fr by' tw' one : AR} (hn : n + 11 ≤ 1400) (hlen : J.length + 12 ≤ 1400) (h : SR (qE s rN rW c F) (qM rN F) (qV s rN T) (qE s rN rW c T) (qM rN T) s g n nm J jn fr by' tw' one) {Q : Int32 → Int32 → AR → AR → AR → AR → Prop} (hQ : ∀ n' nm' J' jn fr by' tw' one, SR (qE s rN rW c F) (qM rN F) (qV s rN (ad T (d, g p, g q))) (qE s rN rW c (ad T (d, g p, g q))) (qM rN (ad T (d, g p, g q))) s g n' nm' J' jn fr by' tw' one → n' ≤ n + 11 → J'.length ≤ J.length + 12 → Q jn (nI n') fr by' tw' one) : wp_X8_sew (nI d) (nI p) (nI q) jn (nI n) st fr by' tw' one Q := by
  obtain ⟨hsn, hnb⟩ := h.base
  obtain ⟨hm, hst, hw⟩ := hV.2 d hd
  have e6 : (60 : Int32) + nI d = nI (60 + d) := by rw [show (60 : Int32) = nI 60 from rfl, nI_add]
  have e10 : ∀ k, ((64 : Int32) + (12 : Int32) * nI d) + nI k = nI (64 + 12 * d + k) := fun k => by
    rw [show (12 : Int32) = nI 12 from rfl, show (64 : Int32) = nI 64 from rfl, pk_mul, nI_add, nI_add]
  unfold wp_X8_sew
  rw [e6, cl_nI (by omega), hst]
  refine ⟨vp_in_nI (by omega) (by decide), fun x hx => ?_⟩
  subst hx
  refine ⟨fun c0 => ?_, fun c0 => ?_⟩
  · have hm0 : 0 < rN d := Nat.pos_of_ne_zero fun e => c0 (by rw [e]; rfl)
    obtain ⟨m, hm1⟩ : ∃ m, rN d = m + 1 := ⟨rN d - 1, by omega⟩
    refine cl8s (body := wb_X8_sew_38 st (nI d) (nI q) (nI (rN d)) Q) (rN d) (fun i at' jn pl fr by' tw' one => ∃ a n1 nm1 J1, at' = nI a ∧ a < n1 ∧ n1 = n + min i m ∧ pl = nI n1 ∧ J1.length = J.length + i ∧ nm1 a = nA (rN d) (g p) d (g q) i ∧ SR (qE s rN rW c F) (qM rN F) (vA rN (qV s rN T) (g p) d (min i m)) (eA rN rW (qE s rN rW c T) (g p) d (g q) i) (qM rN T) s g n1 nm1 J1 jn fr by' tw' one) ?_ ?_ ⟨p, n, nm, J, rfl, by omega, by omega, rfl, rfl, by rw [nA_0]; exact hnb p hp, h.mono (fun x => ⟨fun c => c.elim id (fun ⟨j, hj, _⟩ => by omega), Or.inl⟩) (fun x l y c => c.elim id (fun ⟨j, hj, _⟩ => by omega)) (fun _ _ c => c)⟩
    · rintro i hi at' jn1 pl1 fr1 by1 tw1 one1 ⟨a, n1, nm1, J1, rfl, ha, hn1, rfl, hJ1, hna, hSR⟩ rc hrc
      have tail : ∀ b n2 nm2 one2, b < n2 → a < n2 → n2 = n + min (i + 1) m → nm2 a = nA (rN d) (g p) d (g q) i → nm2 b = nA (rN d) (g p) d (g q) (i + 1) → SR (qE s rN rW c F) (qM rN F) (vA rN (qV s rN T) (g p) d (min (i + 1) m)) (eA rN rW (qE s rN rW c T) (g p) d (g q) i) (qM rN T) s g n2 nm2 J1 jn1 fr1 by1 tw1 one2 → wp_X8_sew_62 st (nI d) (nI q) (nI (rN d)) (nI a) (nI i) (nI b) jn1 (nI n2) fr1 by1 tw1 one2 rc Q := by
        intro b n2 nm2 one2 hb ha2 hn2 na nb hSR2
        unfold wp_X8_sew_62 wp_X8_ruleLetter
        rw [e10, cl_nI (by omega), (hw i hi).2]
        refine ⟨vp_in_nI (by omega) (by decide), linkR (qE_sym hc) hSR2 ha2 hb (hw i hi).1 ?_ (by omega) (fun jn3 fr3 by3 tw3 hSR3 x hx => ?_)⟩
        · rw [na, nb]
          exact Or.inr ⟨g p, d, g q, i, hF, hi, Or.inl ⟨rfl, rfl, rfl⟩⟩
        · subst hx
          refine hrc _ _ _ _ _ _ _ ⟨b, n2, nm2, _, rfl, hb, hn2, rfl, ?_, nb, hSR3.mono (fun _ => Iff.rfl) (fun x l y c => eA_step na nb x l y c) (fun _ _ c => c)⟩
          rw [List.length_append, hJ1]
          rfl
      refine br_ge hi (by omega) ⟨fun c1 => ?_, fun c1 => ?_⟩
      · have him : i < m := by
          by_cases e : i = m
          · exact absurd (by rw [e, hm1, nI_pred]) c1
          · omega
        have e1 : min i m = i := by omega
        have e2 : min (i + 1) m = i + 1 := by omega
        rw [e1] at hSR hn1
        refine newR hSR (by omega) (vA_new hd hnT) (fun one2 hSR2 => ?_)
        refine tail n1 (n1 + 1) (nmN nm1 n1 (g p, d, i)) one2 (by omega) (by omega) (by omega) ?_ ?_ ?_
        · rw [show nmN nm1 n1 (g p, d, i) a = nm1 a from if_neg (by omega)]; exact hna
        · rw [nA_i (by omega)]; exact if_pos rfl
        · rw [e2]
          exact hSR2.mono (fun x => vA_step x) (fun _ _ _ c => c) (fun _ _ c => c)
      · have him : i = m := by
          rw [hm1, nI_pred] at c1
          exact (nI_eq (by omega) (by omega)).mp c1
        subst him
        have e1 : min i i = i := by omega
        have e2 : min (i + 1) i = i := by omega
        rw [e1] at hSR hn1
        have hb := hSR.base
        refine tail q n1 nm1 one1 (by omega) ha (by omega) hna ?_ ?_
        · rw [← hm1, nA_m (by omega)]; exact hb.2 q hq
        · rw [e2]; exact hSR
    · rintro at' jn1 pl1 fr1 by1 tw1 one1 ⟨a, n1, nm1, J1, rfl, ha, hn1, rfl, hJ1, hna, hSR⟩ rc
      refine br_end (Nat.le_refl _) (by omega) (hQ n1 nm1 J1 _ _ _ _ _ (hSR.mono (fun x => ?_) (fun x l y c => qE_ad c) (fun x y c => ?_)) (by omega) (by omega))
      · rw [qV_ad, show min (rN d) m = rN d - 1 by omega]
      · rcases qM_ad c with c | ⟨c, _⟩
        · exact c
        · omega
  · have hm0 : rN d = 0 := (nI_eq (by omega) (by omega)).mp c0
    refine mergeR (by omega) h (a := p) (b := q) (by omega) (by omega) ?_ (fun one' hSR' => hQ n nm J _ _ _ _ _ (hSR'.mono (fun x => ?_) (fun x l y c => ?_) (fun x y c => ?_)) (by omega) (by omega))
    · rw [hnb p hp, hnb q hq]
      exact ⟨g p, d, g q, hF, hm0, rfl, rfl⟩
    · rw [qV_ad]
      exact ⟨fun c => c.elim id (fun ⟨j, hj, _⟩ => by omega), Or.inl⟩
    · exact (qE_ad c).elim id (fun ⟨j, hj, _⟩ => by omega)
    · rw [hnb p hp, hnb q hq]
      rcases qM_ad c with c | ⟨_, c⟩
      · exact Or.inl c
      · exact Or.inr c
