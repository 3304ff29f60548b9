/-! PURE 21: nets: names, the least folding, forests -/
abbrev Nm : Type := Nat × Nat × Nat
def Eqv (R : Nm → Nm → Prop) : Prop := (∀ x, R x x) ∧ (∀ x y, R x y → R y x) ∧ ∀ x y z, R x y → R y z → R x z
def FC (E : Nm → Nat → Nm → Prop) (R : Nm → Nm → Prop) : Prop := ∀ x x' l y y', R x x' → E x l y → E x' l y' → R y y'
def LE (E : Nm → Nat → Nm → Prop) (M : Nm → Nm → Prop) (x y : Nm) : Prop := ∀ R : Nm → Nm → Prop, Eqv R → (∀ x y, M x y → R x y) → FC E R → R x y
theorem LE.eqv (E : Nm → Nat → Nm → Prop) (M : Nm → Nm → Prop) : Eqv (LE E M) :=
  ⟨fun x R h _ _ => h.1 x, fun x y h R h1 h2 h3 => h1.2.1 x y (h R h1 h2 h3), fun x y z h h' R h1 h2 h3 => h1.2.2 x y z (h R h1 h2 h3) (h' R h1 h2 h3)⟩
theorem LE.mrg {E : Nm → Nat → Nm → Prop} {M : Nm → Nm → Prop} {x y : Nm} (h : M x y) : LE E M x y := fun R _ h2 _ => h2 x y h
theorem LE.fc (E : Nm → Nat → Nm → Prop) (M : Nm → Nm → Prop) : FC E (LE E M) :=
  fun x x' l y y' h e e' R h1 h2 h3 => h3 x x' l y y' (h R h1 h2 h3) e e'
/-! forests -/
def FR (one : AR) (n : Nat) (rt d : Nat → Nat) : Prop := ∀ p, p < n → ∃ q, q < n ∧ one p = nI q ∧ rt q = rt p ∧ rt p < n ∧ one (rt p) = nI (rt p) ∧ (q = p → rt p = p) ∧ (q ≠ p → d q < d p)
theorem FR.lt {one : AR} {n : Nat} {rt d : Nat → Nat} (h : FR one n rt d) {p : Nat} (hp : p < n) : rt p < n := by
  obtain ⟨q, _, _, _, h1, _⟩ := h p hp
  exact h1
theorem FR.root {one : AR} {n : Nat} {rt d : Nat → Nat} (hn : n ≤ 1400) (h : FR one n rt d) {p : Nat} (hp : p < n) : one p = nI p ↔ rt p = p := by
  obtain ⟨q, hq, e, e2, h1, h2, h3, h4⟩ := h p hp
  constructor
  · intro c
    rw [e] at c
    exact h3 ((nI_eq (by omega) (by omega)).mp c)
  · intro c
    rw [c] at h2; exact h2
theorem FR.rr {one : AR} {n : Nat} {rt d : Nat → Nat} (hn : n ≤ 1400) (h : FR one n rt d) {p : Nat} (hp : p < n) : rt (rt p) = rt p := by
  have hr := h.lt hp
  obtain ⟨q, _, _, _, _, h2, _⟩ := h p hp
  exact (h.root hn hr).mp h2
theorem FR.halve {one : AR} {n : Nat} {rt d : Nat → Nat} (hn : n ≤ 1400) (h : FR one n rt d) {p q s : Nat} (hp : p < n) (hq : q < n) (hs : s < n) (e1 : one p = nI q) (ne : q ≠ p) (e2 : one q = nI s) : FR (upd one p (nI s)) n rt d ∧ rt s = rt p ∧ d s < d p := by
  have hpr : rt p ≠ p := fun c => by
    have := (h.root hn hp).mpr c
    rw [e1] at this
    exact ne ((nI_eq (by omega) (by omega)).mp this)
  obtain ⟨q', hq', e1', r1, l1, o1, _, dd1⟩ := h p hp
  have eq1 : q' = q := (nI_eq (by omega) (by omega)).mp (by rw [← e1', e1])
  subst eq1
  obtain ⟨s', hs', e2', r2, l2, o2, _, dd2⟩ := h q' hq
  have eq2 : s' = s := (nI_eq (by omega) (by omega)).mp (by rw [← e2', e2])
  subst eq2
  have hd : d s' < d p := by
    have h1 := dd1 ne
    by_cases c : s' = q'
    · rw [c]; exact h1
    · have := dd2 c; omega
  refine ⟨fun x hx => ?_, by rw [r2, r1], hd⟩
  obtain ⟨y, hy, e3, r3, l3, o3, f3, d3⟩ := h x hx
  have hxr : rt x ≠ p := fun c => hpr (by rw [← c]; exact h.rr hn hx)
  by_cases c : x = p
  · subst c
    refine ⟨s', hs', upd_s, by rw [r2, r1], l1, by rw [upd_n hxr]; exact o1, fun c => ?_, fun _ => hd⟩
    rw [c] at hd
    omega
  · exact ⟨y, hy, by rw [upd_n c]; exact e3, r3, l3, by rw [upd_n hxr]; exact o3, f3, d3⟩
def unR (rt : Nat → Nat) (a b : Nat) : Nat → Nat := fun x => if rt x = b then a else rt x
theorem FR.union {one : AR} {n : Nat} {rt d d' : Nat → Nat} (hn : n ≤ 1400) (h : FR one n rt d) {a b : Nat} (ha : a < n) (hb : b < n) (ra : rt a = a) (rb : rt b = b) (ne : a ≠ b) (h1 : d' a < d' b) (h2 : ∀ x q, rt q = rt x → d q < d x → d' q < d' x) : FR (upd one b (nI a)) n (unR rt a b) d' := by
  intro x hx
  obtain ⟨y, hy, e3, r3, l3, o3, f3, d3⟩ := h x hx
  have hoa : upd one b (nI a) a = nI a := by rw [upd_n ne]; exact (h.root hn ha).mpr ra
  by_cases c : x = b
  · subst c
    refine ⟨a, ha, upd_s, ?_, ?_, ?_, fun c => absurd c ne, fun _ => h1⟩
    · unfold unR
      rw [ra, rb, if_neg ne, if_pos rfl]
    · unfold unR
      rw [rb, if_pos rfl]; exact ha
    · unfold unR
      rw [rb, if_pos rfl]; exact hoa
  · refine ⟨y, hy, by rw [upd_n c]; exact e3, ?_, ?_, ?_, fun e => ?_, fun e => h2 x y r3 (d3 e)⟩
    · unfold unR
      rw [r3]
    · unfold unR
      split
      · exact ha
      · exact l3
    · unfold unR
      split
      · exact hoa
      · rename_i c2
        rw [upd_n c2]; exact o3
    · unfold unR
      rw [f3 e, if_neg c]
def nwR (rt : Nat → Nat) (n : Nat) : Nat → Nat := fun x => if x = n then n else rt x
theorem FR.new {one : AR} {n : Nat} {rt d : Nat → Nat} (h : FR one n rt d) : FR (upd one n (nI n)) (n + 1) (nwR rt n) d := by
  intro x hx
  by_cases c : x = n
  · subst c
    have e : nwR rt x x = x := if_pos rfl
    exact ⟨x, hx, upd_s, rfl, by rw [e]; exact hx, by rw [e]; exact upd_s, fun _ => e, fun c => absurd rfl c⟩
  · obtain ⟨y, hy, e3, r3, l3, o3, f3, d3⟩ := h x (by omega)
    have e : nwR rt n x = rt x := if_neg c
    have e2 : nwR rt n y = rt y := if_neg (by omega)
    exact ⟨y, by omega, by rw [upd_n c]; exact e3, by rw [e, e2, r3], by rw [e]; omega, by rw [e, upd_n (by omega)]; exact o3, by rw [e]; exact f3, d3⟩
theorem placeNow1 {n : Nat} {rt : Nat → Nat} (hn : n ≤ 1080) {bc : AR} (h : FR bc n rt (fun x => x)) {p : Nat} (hp : p < n) {Q : Int32 → AR → Prop} (hQ : ∀ bc', FR bc' n rt (fun x => x) → Q (nI (rt p)) bc') : wp_X2_placeNow (nI p) bc Q := by
  have key : ∀ q, ∀ k bc, q < n → q + k ≤ 1079 → FR bc n rt (fun x => x) → rt q = rt p → ∃ m, lpW3 (wb_X2_placeNow_4 Q) m (nI q) (nI k) bc := by
    intro q
    induction q using Nat.strongRecOn with
    | ind q ih =>
      intro k bc hq hk h hr
      obtain ⟨y, hy, e1, r1, l1, o1, f1, d1⟩ := h q hq
      by_cases c : y = q
      · subst c
        refine ⟨1, br_ge (N := 1080) (by omega) (by decide) ⟨vp_in_nI (by omega) (by decide), ?_⟩⟩
        rw [cl_nI (by omega), e1]
        refine ⟨fun _ => ?_, fun c => absurd rfl c⟩
        have := hQ bc h
        rw [← hr, f1 rfl] at this
        exact this
      · have dy := d1 c
        obtain ⟨s, hs, e2, _⟩ := h y hy
        obtain ⟨h2, r2, d2⟩ := h.halve (by omega) hq hy hs e1 c e2
        have dq : s < q := d2
        obtain ⟨m, hm⟩ := ih s dq (k + 1) _ hs (by omega) h2 (by rw [r2, hr])
        refine ⟨m + 1, br_ge (N := 1080) (by omega) (by decide) ⟨vp_in_nI (by omega) (by decide), ?_⟩⟩
        rw [cl_nI (by omega), e1, cl_nI (by omega), e2]
        refine ⟨fun c2 => absurd ((nI_eq (by omega) (by omega)).mp c2) c, fun _ => ⟨vp_in_nI (by omega) (by decide), vp_in_nI (by omega) (by decide), vp_in_nI (by omega) (by decide), vp_in_nI (by omega) (by decide), fun x hx z hz => ?_⟩⟩
        rw [upd_s] at hx
        subst hx hz
        rw [nI_1]
        exact hm
  exact key p 0 bc hp (by omega) h rfl
theorem oneOf8 {n : Nat} {rt d : Nat → Nat} (hn : n ≤ 1400) {one : AR} (h : FR one n rt d) {p : Nat} (hp : p < n) {Q : Int32 → AR → Prop} (hQ : ∀ one', FR one' n rt d → Q (nI (rt p)) one') : wp_X8_oneOf (nI p) one Q := by
  have key : ∀ D, ∀ q one, d q ≤ D → q < n → FR one n rt d → rt q = rt p → ∃ m, lpW2 (wb_X8_oneOf_2 Q) m (nI q) one := by
    intro D
    induction D using Nat.strongRecOn with
    | ind D ih =>
      intro q one hD hq h hr
      obtain ⟨y, hy, e1, r1, l1, o1, f1, d1⟩ := h q hq
      by_cases c : y = q
      · subst c
        refine ⟨1, vp_in_nI (by omega) (by decide), ?_⟩
        rw [cl_nI (by omega), e1]
        refine ⟨fun _ => ?_, fun c => absurd rfl c⟩
        have := hQ one h
        rw [← hr, f1 rfl] at this
        exact this
      · obtain ⟨s, hs, e2, _⟩ := h y hy
        obtain ⟨h2, r2, d2⟩ := h.halve hn hq hy hs e1 c e2
        obtain ⟨m, hm⟩ := ih (d s) (by omega) s _ (Nat.le_refl _) hs h2 (by rw [r2, hr])
        refine ⟨m + 1, vp_in_nI (by omega) (by decide), ?_⟩
        rw [cl_nI (by omega), e1, cl_nI (by omega), e2]
        refine ⟨fun c2 => absurd ((nI_eq (by omega) (by omega)).mp c2) c, fun _ => ⟨vp_in_nI (by omega) (by decide), vp_in_nI (by omega) (by decide), vp_in_nI (by omega) (by decide), vp_in_nI (by omega) (by decide), fun x hx => ?_⟩⟩
        rw [upd_s] at hx
        subst hx
        exact hm
  exact key (d p) p one (Nat.le_refl _) hp h rfl
/-! a net that presents the quotient; two of them are one -/
abbrev LkF : Type := Nat → Nat → Nat → Prop
def QP (V : Nm → Prop) (E : Nm → Nat → Nm → Prop) (M : Nm → Nm → Prop) (b0 e0 : Nm) (s : Nat) (lk : LkF) (b e : Nat) : Prop := ∃ cls : Nm → Nat, (∀ x, V x → cls x < s) ∧ (∀ k, k < s → ∃ x, V x ∧ cls x = k) ∧ (∀ x y, V x → V y → (cls x = cls y ↔ LE E M x y)) ∧ (∀ k l k', k < s → k' < s → (lk k l k' ↔ ∃ x y, V x ∧ V y ∧ E x l y ∧ cls x = k ∧ cls y = k')) ∧ V b0 ∧ V e0 ∧ cls b0 = b ∧ cls e0 = e
/-- the same net, numbered otherwise -/
def Iso (s : Nat) (lk : LkF) (b e s' : Nat) (lk' : LkF) (b' e' : Nat) : Prop := s = s' ∧ ∃ f g : Nat → Nat, (∀ k, k < s → f k < s ∧ g (f k) = k) ∧ (∀ k, k < s → g k < s ∧ f (g k) = k) ∧ (∀ k l k', k < s → k' < s → (lk k l k' ↔ lk' (f k) l (f k'))) ∧ b < s ∧ e < s ∧ f b = b' ∧ f e = e'
theorem QP.iso {V : Nm → Prop} {E : Nm → Nat → Nm → Prop} {M : Nm → Nm → Prop} {b0 e0 : Nm} {s s' : Nat} {lk lk' : LkF} {b e b' e' : Nat} (h : QP V E M b0 e0 s lk b e) (h' : QP V E M b0 e0 s' lk' b' e') : Iso s lk b e s' lk' b' e' := by
  obtain ⟨c, h1, h2, h3, h4, v1, v2, h5, h6⟩ := h
  obtain ⟨c', h1', h2', h3', h4', _, _, h5', h6'⟩ := h'
  have ex : ∀ k, ∃ x, k < s → V x ∧ c x = k := fun k => by
    by_cases hk : k < s
    · obtain ⟨x, hx⟩ := h2 k hk
      exact ⟨x, fun _ => hx⟩
    · exact ⟨(0, 0, 0), fun c => absurd c hk⟩
  have ex' : ∀ k, ∃ x, k < s' → V x ∧ c' x = k := fun k => by
    by_cases hk : k < s'
    · obtain ⟨x, hx⟩ := h2' k hk
      exact ⟨x, fun _ => hx⟩
    · exact ⟨(0, 0, 0), fun c => absurd c hk⟩
  have same : ∀ x y, V x → V y → (c x = c y ↔ c' x = c' y) := fun x y hx hy => by rw [h3 x y hx hy, h3' x y hx hy]
  have pf : ∀ k, k < s → V (Classical.choose (ex k)) ∧ c (Classical.choose (ex k)) = k := fun k hk => Classical.choose_spec (ex k) hk
  have pg : ∀ k, k < s' → V (Classical.choose (ex' k)) ∧ c' (Classical.choose (ex' k)) = k := fun k hk => Classical.choose_spec (ex' k) hk
  have ff : ∀ x, V x → c' (Classical.choose (ex (c x))) = c' x := fun x hx => by
    have := pf (c x) (h1 x hx)
    exact (same _ _ this.1 hx).mp this.2
  have gg : ∀ x, V x → c (Classical.choose (ex' (c' x))) = c x := fun x hx => by
    have := pg (c' x) (h1' x hx)
    exact (same _ _ this.1 hx).mpr this.2
  have fl : ∀ k, k < s → c' (Classical.choose (ex k)) < s' := fun k hk => h1' _ (pf k hk).1
  have gl : ∀ k, k < s' → c (Classical.choose (ex' k)) < s := fun k hk => h1 _ (pg k hk).1
  have gf : ∀ k, k < s → c (Classical.choose (ex' (c' (Classical.choose (ex k))))) = k := fun k hk => by
    rw [gg _ (pf k hk).1]; exact (pf k hk).2
  have fg : ∀ k, k < s' → c' (Classical.choose (ex (c (Classical.choose (ex' k))))) = k := fun k hk => by
    rw [ff _ (pg k hk).1]; exact (pg k hk).2
  have hss : s = s' := by
    have l1 : s ≤ s' := by
      have := nodup_le ((List.range s).map fun k => c' (Classical.choose (ex k))) (List.range s') (nodup_map List.nodup_range fun x hx y hy e => by
        have hx := List.mem_range.mp hx
        have hy := List.mem_range.mp hy
        have e' : c' (Classical.choose (ex x)) = c' (Classical.choose (ex y)) := e
        rw [← gf x hx, ← gf y hy, e']) (fun x hx => by
        obtain ⟨k, hk, e⟩ := List.mem_map.mp hx
        rw [← e]
        exact List.mem_range.mpr (fl k (List.mem_range.mp hk)))
      rw [List.length_map, List.length_range, List.length_range] at this
      exact this
    have l2 : s' ≤ s := by
      have := nodup_le ((List.range s').map fun k => c (Classical.choose (ex' k))) (List.range s) (nodup_map List.nodup_range fun x hx y hy e => by
        have hx := List.mem_range.mp hx
        have hy := List.mem_range.mp hy
        have e' : c (Classical.choose (ex' x)) = c (Classical.choose (ex' y)) := e
        rw [← fg x hx, ← fg y hy, e']) (fun x hx => by
        obtain ⟨k, hk, e⟩ := List.mem_map.mp hx
        rw [← e]
        exact List.mem_range.mpr (gl k (List.mem_range.mp hk)))
      rw [List.length_map, List.length_range, List.length_range] at this
      exact this
    omega
  subst hss
  refine ⟨rfl, fun k => c' (Classical.choose (ex k)), fun k => c (Classical.choose (ex' k)), fun k hk => ⟨fl k hk, gf k hk⟩, fun k hk => ⟨gl k hk, fg k hk⟩, fun k l k' hk hk' => ?_, by rw [← h5]; exact h1 _ v1, by rw [← h6]; exact h1 _ v2, ?_, ?_⟩
  · rw [h4 k l k' hk hk', h4' _ l _ (fl k hk) (fl k' hk')]
    constructor
    · rintro ⟨x, y, vx, vy, hE, e1, e2⟩
      exact ⟨x, y, vx, vy, hE, by subst e1; exact (ff x vx).symm, by subst e2; exact (ff y vy).symm⟩
    · rintro ⟨x, y, vx, vy, hE, e1, e2⟩
      refine ⟨x, y, vx, vy, hE, ?_, ?_⟩
      · rw [← (pf k hk).2]
        exact (same _ _ vx (pf k hk).1).mpr e1
      · rw [← (pf k' hk').2]
        exact (same _ _ vy (pf k' hk').1).mpr e2
  · show c' (Classical.choose (ex b)) = b'
    rw [← h5, ← h5']; exact ff _ v1
  · show c' (Classical.choose (ex e)) = e'
    rw [← h6, ← h6']; exact ff _ v2
