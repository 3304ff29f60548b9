/-! PURE 24: the class numbers anew; its net presents the quotient -/
theorem cl3n {A1 A3 : Type} {body : (A1 → Int32 → A3 → Prop) → A1 → Int32 → A3 → Prop} (N : Nat) (I : Nat → A1 → A3 → Prop) (hs : ∀ k, k < N → ∀ a b, I k a b → ∀ rc : A1 → Int32 → A3 → Prop, (∀ a b, I (k + 1) a b → rc a (nI k + 1) b) → body rc a (nI k) b) (he : ∀ a b, I N a b → ∀ rc, body rc a (nI N) b) {a : A1} {b : A3} (h : I 0 a b) : ∃ n, lpW3 body n a (nI 0) b := by
  have key : ∀ j k, k + j = N → ∀ a b, I k a b → lpW3 body (j + 1) a (nI k) b := by
    intro j
    induction j with
    | zero => intro k hk a b h; obtain rfl : k = N := by omega
              exact he a b h _
    | succ j ih => intro k hk a b h; exact hs k (by omega) a b h _ (fun a b h => by rw [nI_1]; exact ih (k + 1) (by omega) a b h)
  exact ⟨N + 1, key N 0 (by omega) _ _ h⟩
def sN (rt : Nat → Nat) (k : Nat) : Nat := cn (fun p => decide (rt p = p)) k
theorem sN_le (rt : Nat → Nat) (k : Nat) : sN rt k ≤ k := cn_le _ k
theorem sN_s {rt : Nat → Nat} {k : Nat} (h : rt k = k) : sN rt (k + 1) = sN rt k + 1 := by
  show cn _ (k + 1) = _
  rw [cn, if_pos (decide_eq_true h)]; rfl
theorem sN_n {rt : Nat → Nat} {k : Nat} (h : rt k ≠ k) : sN rt (k + 1) = sN rt k := by
  show cn _ (k + 1) = _
  rw [cn, if_neg (by rw [decide_eq_false h]; decide)]; rfl
theorem sN_mono {rt : Nat → Nat} {a : Nat} : ∀ {b : Nat}, a ≤ b → sN rt a ≤ sN rt b
  | 0, h => by obtain rfl : a = 0 := by omega
               exact Nat.le_refl _
  | b + 1, h => by
    by_cases e : a = b + 1
    · rw [e]; exact Nat.le_refl _
    · have := sN_mono (rt := rt) (a := a) (b := b) (by omega)
      by_cases c : rt b = b
      · rw [sN_s c]; omega
      · rw [sN_n c]; exact this
theorem sN_lt {rt : Nat → Nat} {a b : Nat} (ha : rt a = a) (h : a < b) : sN rt a < sN rt b := by
  have := sN_mono (rt := rt) (a := a + 1) (b := b) (by omega)
  rw [sN_s ha] at this
  omega
theorem sN_inj {rt : Nat → Nat} {a b : Nat} (ha : rt a = a) (hb : rt b = b) (h : sN rt a = sN rt b) : a = b := by
  rcases Nat.lt_trichotomy a b with l | l | l
  · have := sN_lt ha l; omega
  · exact l
  · have := sN_lt hb l; omega
theorem sN_onto {rt : Nat → Nat} {k : Nat} : ∀ {n : Nat}, k < sN rt n → ∃ p, p < n ∧ rt p = p ∧ sN rt p = k
  | 0, h => by have h' : k < 0 := h; omega
  | n + 1, h => by
    by_cases c : rt n = n
    · rw [sN_s c] at h
      by_cases e : k = sN rt n
      · exact ⟨n, by omega, c, e.symm⟩
      · obtain ⟨p, hp, h1, h2⟩ := sN_onto (rt := rt) (k := k) (n := n) (by omega)
        exact ⟨p, by omega, h1, h2⟩
    · rw [sN_n c] at h
      obtain ⟨p, hp, h1, h2⟩ := sN_onto (rt := rt) (k := k) (n := n) h
      exact ⟨p, by omega, h1, h2⟩
/-- what the new links are -/
def MV (n : Nat) (rt : Nat → Nat) (lk lk' : AR) : Prop := ∀ p l, p < n → rt p = p → l < 6 → (lk (p * 6 + l) = -1 → lk' (sN rt p * 6 + l) = -1) ∧ ∀ q, q < n → lk (p * 6 + l) = nI q → lk' (sN rt p * 6 + l) = nI (sN rt q)
theorem renumber1 {n : Nat} {rt : Nat → Nat} (hn : n ≤ 1080) {bc lk rn : AR} (hF : FR bc n rt (fun x => x)) (hroot : ∀ p l, p < n → rt p = p → l < 6 → lk (p * 6 + l) = -1 ∨ ∃ q, q < n ∧ rt q = q ∧ lk (p * 6 + l) = nI q) {b e : Nat} (hb : b < n) (he : e < n) {Q : Int32 → Int32 → Int32 → AR → AR → AR → Prop} (hQ : ∀ lk' bc' rn', MV n rt lk lk' → (∀ k, k < sN rt n → bc' k = nI k) → Q (nI (sN rt n)) (nI (sN rt (rt b))) (nI (sN rt (rt e))) lk' bc' rn') : wp_X2_renumber (nI n) (nI b) (nI e) lk bc rn Q := by
  refine cl3n (body := wb_X2_renumber_4 (nI n) (nI b) (nI e) lk bc Q) n (fun k a rn => a = nI (sN rt k) ∧ ∀ p, p < k → rt p = p → rn p = nI (sN rt p)) ?_ ?_ ⟨rfl, fun p hp => by omega⟩
  · rintro k hk a rn ⟨rfl, hrn⟩ rc hrc
    refine br_ge hk (by omega) ⟨vp_in_nI (by omega) (by decide), ?_⟩
    rw [cl_nI (by omega)]
    refine ⟨fun c x hx => ?_, fun c => ⟨vp_in_nI (by omega) (by decide), fun x hx z hz => ?_⟩⟩
    · subst hx
      have c' : rt k ≠ k := fun c2 => c ((hF.root (by omega) hk).mpr c2)
      refine hrc _ _ ⟨by rw [sN_n c'], fun p hp hr => ?_⟩
      by_cases e : p = k
      · subst e; exact absurd hr c'
      · exact hrn p (by omega) hr
    · subst hx hz
      have c' : rt k = k := (hF.root (by omega) hk).mp c
      refine hrc _ _ ⟨by rw [sN_s c', nI_1], fun p hp hr => ?_⟩
      by_cases e : p = k
      · subst e; exact upd_s
      · rw [upd_n e]; exact hrn p (by omega) hr
  · rintro a rn ⟨rfl, hrn⟩ rc
    have lb := hF.lt hb
    have le := hF.lt he
    have rb := hF.rr (by omega) hb
    have re := hF.rr (by omega) he
    refine br_end (Nat.le_refl n) (by omega) (placeNow1 hn hF hb (fun bc1 hF1 => ⟨vp_in_nI (by omega) (by decide), placeNow1 hn hF1 he (fun bc2 hF2 => ⟨vp_in_nI (by omega) (by decide), ?_⟩)⟩))
    rw [cl_nI (by omega), cl_nI (by omega), hrn _ lb rb, hrn _ le re]
    have hsn := sN_le rt n
    refine cl2r (body := wb_X2_renumber_74 (nI (sN rt n)) (nI n) (nI (sN rt (rt b))) (nI (sN rt (rt e))) bc2 rn Q) n (fun k lk' => (∀ p l, p < k → rt p = p → l < 6 → (lk (p * 6 + l) = -1 → lk' (sN rt p * 6 + l) = -1) ∧ ∀ q, q < n → lk (p * 6 + l) = nI q → lk' (sN rt p * 6 + l) = nI (sN rt q)) ∧ ∀ c, k * 6 ≤ c → lk' c = lk c) ?_ ?_ ⟨fun p l hp => by omega, fun c _ => rfl⟩
    · rintro k hk lk1 ⟨h1, h2⟩ rc hrc
      refine br_ge hk (by omega) ⟨vp_in_nI (by omega) (by decide), ?_⟩
      rw [cl_nI (by omega)]
      refine ⟨fun c x hx => ?_, fun c => ⟨vp_in_nI (by omega) (by decide), ?_⟩⟩
      · subst hx
        have c' : rt k ≠ k := fun c2 => c ((hF2.root (by omega) hk).mpr c2)
        refine hrc _ ⟨fun p l hp hr hl => ?_, fun c hc => h2 c (by omega)⟩
        by_cases e : p = k
        · subst e; exact absurd hr c'
        · exact h1 p l (by omega) hr hl
      · have c' : rt k = k := (hF2.root (by omega) hk).mp c
        rw [hrn k hk c']
        have hsk := sN_le rt k
        refine cl2r (body := wb_X2_moveLinks_2 rn (nI k) (nI (sN rt k)) (fun lk' => wp_X2_renumber_103 (nI (sN rt n)) (nI k) (nI n) (nI (sN rt (rt b))) (nI (sN rt (rt e))) lk' bc2 rn rc Q)) 6 (fun j lk' => (∀ l, l < j → (lk (k * 6 + l) = -1 → lk' (sN rt k * 6 + l) = -1) ∧ ∀ q, q < n → lk (k * 6 + l) = nI q → lk' (sN rt k * 6 + l) = nI (sN rt q)) ∧ (∀ l, j ≤ l → l < 6 → lk' (k * 6 + l) = lk (k * 6 + l)) ∧ (∀ c, c < sN rt k * 6 → lk' c = lk1 c) ∧ ∀ c, (k + 1) * 6 ≤ c → lk' c = lk1 c) ?_ ?_ ⟨fun l hl => by omega, fun l _ hl => h2 _ (by omega), fun c _ => rfl, fun c _ => rfl⟩
        · rintro j hj lk2 ⟨m1, m2, m3, m4⟩ rc2 hrc2
          refine br_ge (N := 6) hj (by decide) ?_
          rw [ix6, ix6, cl_nI (by omega), m2 j (Nat.le_refl j) hj]
          refine ⟨vp_in_nI (by omega) (by decide), fun x hx => ?_⟩
          have go : ∀ v : Int32, ((lk (k * 6 + j) = -1 → v = -1) ∧ ∀ q, q < n → lk (k * 6 + j) = nI q → v = nI (sN rt q)) → wp_X2_moveLinks_47 rn (nI k) (nI (sN rt k)) (nI j) (nI (sN rt k * 6 + j)) v lk2 rc2 (fun lk' => wp_X2_renumber_103 (nI (sN rt n)) (nI k) (nI n) (nI (sN rt (rt b))) (nI (sN rt (rt e))) lk' bc2 rn rc Q) := by
            intro v hv
            refine ⟨vp_in_nI (by omega) (by decide), fun y hy => ?_⟩
            subst hy
            rw [cl_nI (by omega)]
            refine hrc2 _ ⟨fun l hl => ?_, fun l hl1 hl2 => ?_, fun c hc => by rw [upd_n (by omega)]; exact m3 c hc, fun c hc => by rw [upd_n (by omega)]; exact m4 c hc⟩
            · by_cases e : l = j
              · subst e; rw [upd_s]; exact hv
              · rw [upd_n (by omega)]; exact m1 l (by omega)
            · rw [upd_n (by omega)]; exact m2 l (by omega) hl2
          rcases hroot k j hk c' hj with c2 | ⟨q, hq, hqr, c2⟩
          · rw [c2] at hx
            subst hx
            exact ⟨fun c3 => absurd c3 (by decide), fun _ => go (-1) ⟨fun _ => rfl, fun q hq c3 => absurd (by rw [← c2, c3]) (neg1 (q := q) (by omega))⟩⟩
          · rw [c2] at hx
            subst hx
            refine ⟨fun _ => ⟨vp_in_nI (by omega) (by decide), ?_⟩, fun c3 => absurd (nn_nI (by omega)) c3⟩
            rw [cl_nI (by omega), hrn q hq hqr]
            refine go _ ⟨fun c3 => absurd (by rw [← c3, c2]) (neg1 (q := q) (by omega)), fun q' hq' c3 => ?_⟩
            rw [c2] at c3
            rw [(nI_eq (by omega) (by omega)).mp c3]
        · rintro lk2 ⟨m1, m2, m3, m4⟩ rc2
          refine br_end (N := 6) (Nat.le_refl _) (by decide) (fun x hx => ?_)
          subst hx
          refine hrc _ ⟨fun p l hp hr hl => ?_, fun c hc => by rw [m4 c hc]; exact h2 c (by omega)⟩
          by_cases e : p = k
          · subst e; exact m1 l hl
          · have hpk : p < k := by omega
            have := sN_lt hr hpk
            rw [m3 _ (by omega)]
            exact h1 p l hpk hr hl
    · rintro lk1 ⟨h1, h2⟩ rc
      refine br_end (Nat.le_refl n) (by omega) ?_
      refine cl2r (body := wb_X2_renumber_111 (nI (sN rt n)) (nI n) (nI (sN rt (rt b))) (nI (sN rt (rt e))) lk1 rn Q) (sN rt n) (fun k bc => ∀ j, j < k → bc j = nI j) ?_ ?_ (fun j hj => by omega)
      · intro k hk bc3 hI rc hrc
        refine br_ge hk (by omega) ⟨vp_in_nI (by omega) (by decide), fun x hx => ?_⟩
        subst hx
        rw [cl_nI (by omega)]
        refine hrc _ (fun j hj => ?_)
        by_cases e : j = k
        · subst e; exact upd_s
        · rw [upd_n e]; exact hI j (by omega)
      · intro bc3 hI rc
        exact br_end (Nat.le_refl _) (by omega) (hQ lk1 bc3 rn (fun p l hp hr hl => h1 p l hp hr hl) hI)
def lkA (s : Nat) (lk : AR) : LkF := fun k l k' => k < s ∧ k' < s ∧ l < 6 ∧ lk (k * 6 + l) = nI k'
/-- when all is handed over, links lie between roots -/
theorem CE.roots {E : Nm → Nat → Nm → Prop} {R : Nm → Nm → Prop} {n : Nat} {nm : Nat → Nm} {rt : Nat → Nat} {G : List Nat} {gc : Int32} {lk bc gn : AR} (h : CE E R n nm G.length rt G gc lk bc gn) : ∀ u m v, u < n → m < 6 → v < n → lk (u * 6 + m) = nI v → rt u = u ∧ rt v = v := by
  obtain ⟨a1, a2, a3, a4, a5, a6, a7, a8, a9, a10⟩ := h
  have one : ∀ u m v, u < n → m < 6 → v < n → lk (u * 6 + m) = nI v → rt u = u := by
    intro u m v hu hm hv e
    refine Classical.byContradiction fun c => ?_
    obtain ⟨k, hk⟩ := List.mem_iff_getElem?.mp ((a6 u).mpr ⟨hu, c⟩)
    rw [a10 k u (g_lt hk) hk m hm] at e
    exact neg1 (by omega) e
  intro u m v hu hm hv e
  exact ⟨one u m v hu hm hv e, one v (xr m) u hv (xr_lt m hm) hu (a9.get a1 hu hm hv e).1⟩
theorem class_qp {V : Nm → Prop} {E : Nm → Nat → Nm → Prop} {M : Nm → Nm → Prop} {n : Nat} {nm : Nat → Nm} {rt : Nat → Nat} {G : List Nat} {gc : Int32} {lk bc gn : AR} (h : CE E (LE E M) n nm G.length rt G gc lk bc gn) (hinj : ∀ p q, p < n → q < n → nm p = nm q → p = q) (hV : ∀ x, V x ↔ ∃ p, p < n ∧ nm p = x) (hD : ∀ x l y, E x l y → l < 6 ∧ ∃ p q, p < n ∧ q < n ∧ nm p = x ∧ nm q = y ∧ Rep n rt lk p l q) (hM : ∀ x y, M x y → ∃ p q, p < n ∧ q < n ∧ nm p = x ∧ nm q = y ∧ rt p = rt q) {lk' : AR} (hmv : MV n rt lk lk') {b e : Nat} (hb : b < n) (he : e < n) : QP V E M (nm b) (nm e) (sN rt n) (lkA (sN rt n) lk') (sN rt (rt b)) (sN rt (rt e)) := by
  have hroots := h.roots
  obtain ⟨a1, a2, a3, a4, a5, a6, a7, a8, a9, a10⟩ := h
  have rr : ∀ p, p < n → rt (rt p) = rt p := fun p hp => a2.rr (by omega) hp
  have hex : ∀ x, ∃ p, V x → p < n ∧ nm p = x := fun x => by
    by_cases c : V x
    · obtain ⟨p, hp⟩ := (hV x).mp c
      exact ⟨p, fun _ => hp⟩
    · exact ⟨0, fun c2 => absurd c2 c⟩
  have num : ∀ p, p < n → Classical.choose (hex (nm p)) = p := fun p hp => by
    have hv : V (nm p) := (hV _).mpr ⟨p, hp, rfl⟩
    have := Classical.choose_spec (hex (nm p)) hv
    exact hinj _ _ this.1 hp this.2
  have back : ∀ p q, p < n → q < n → LE E M (nm p) (nm q) → rt p = rt q := by
    intro p q hp hq hle
    have := hle (fun x y => x = y ∨ ∃ p q, p < n ∧ q < n ∧ nm p = x ∧ nm q = y ∧ rt p = rt q) ⟨fun x => Or.inl rfl, fun x y h => ?_, fun x y z h1 h2 => ?_⟩ (fun x y h => Or.inr (hM x y h)) (fun x x' l y y' h1 e1 e2 => ?_)
    · rcases this with c | ⟨p1, q1, hp1, hq1, f1, f2, f3⟩
      · rw [hinj p q hp hq c]
      · rw [hinj p p1 hp hp1 f1.symm, hinj q q1 hq hq1 f2.symm]; exact f3
    · rcases h with c | ⟨p1, q1, hp1, hq1, f1, f2, f3⟩
      · exact Or.inl c.symm
      · exact Or.inr ⟨q1, p1, hq1, hp1, f2, f1, f3.symm⟩
    · rcases h1 with c | ⟨p1, q1, hp1, hq1, f1, f2, f3⟩
      · rw [c]; exact h2
      · rcases h2 with c | ⟨p2, q2, hp2, hq2, g1, g2, g3⟩
        · rw [← c]; exact Or.inr ⟨p1, q1, hp1, hq1, f1, f2, f3⟩
        · have : q1 = p2 := hinj q1 p2 hq1 hp2 (by rw [f2, g1])
          subst this
          exact Or.inr ⟨p1, q2, hp1, hq2, f1, g2, by rw [f3, g3]⟩
    · obtain ⟨hl, p1, q1, hp1, hq1, f1, f2, u1, v1, hu1, hv1, r1, r2, k1⟩ := hD x l y e1
      obtain ⟨_, p2, q2, hp2, hq2, g1, g2, u2, v2, hu2, hv2, s1, s2, k2⟩ := hD x' l y' e2
      refine Or.inr ⟨q1, q2, hq1, hq2, f2, g2, ?_⟩
      have hpp : rt p1 = rt p2 := by
        rcases h1 with c | ⟨p3, q3, hp3, hq3, t1, t2, t3⟩
        · rw [hinj p1 p2 hp1 hp2 (by rw [f1, g1, c])]
        · rw [hinj p1 p3 hp1 hp3 (by rw [f1, t1]), hinj p2 q3 hp2 hq3 (by rw [g1, t2])]; exact t3
      have ru1 := (hroots u1 l v1 hu1 hl hv1 k1).1
      have ru2 := (hroots u2 l v2 hu2 hl hv2 k2).1
      have eu : u1 = u2 := by rw [← ru1, ← ru2, r1, s1, hpp]
      rw [eu, k2] at k1
      have ev : v2 = v1 := (nI_eq (by omega) (by omega)).mp k1
      rw [← r2, ← s2, ev]
  have clsn : ∀ p, p < n → sN rt (rt (Classical.choose (hex (nm p)))) = sN rt (rt p) := fun p hp => by rw [num p hp]
  refine ⟨fun x => sN rt (rt (Classical.choose (hex x))), fun x hx => ?_, fun k hk => ?_, fun x y hx hy => ?_, fun k l k' hk hk' => ?_, (hV _).mpr ⟨b, hb, rfl⟩, (hV _).mpr ⟨e, he, rfl⟩, clsn b hb, clsn e he⟩
  · have := Classical.choose_spec (hex x) hx
    exact sN_lt (rr _ this.1) (a2.lt this.1)
  · obtain ⟨p, hp, h1, h2⟩ := sN_onto hk
    exact ⟨nm p, (hV _).mpr ⟨p, hp, rfl⟩, by show sN rt (rt (Classical.choose (hex (nm p)))) = k; rw [clsn p hp, h1]; exact h2⟩
  · obtain ⟨p, hp, rfl⟩ := (hV x).mp hx
    obtain ⟨q, hq, rfl⟩ := (hV y).mp hy
    show sN rt (rt (Classical.choose (hex (nm p)))) = sN rt (rt (Classical.choose (hex (nm q)))) ↔ _
    rw [clsn p hp, clsn q hq]
    exact ⟨fun e => a8 p q hp hq (sN_inj (rr p hp) (rr q hq) e), fun e => by rw [back p q hp hq e]⟩
  · constructor
    · rintro ⟨_, _, hl, hcell⟩
      obtain ⟨p, hp, hr, ep⟩ := sN_onto hk
      have hm := hmv p l hp hr hl
      rcases a9 p l hp hl with c | ⟨q, hq, c, _, x, y, hE, hx, hy⟩
      · rw [← ep, hm.1 c] at hcell
        have := sN_le rt n
        exact absurd hcell (neg1 (by omega))
      · have hqr := (hroots p l q hp hl hq c).2
        rw [← ep, hm.2 q hq c] at hcell
        have h1 := sN_le rt q
        have h2 := sN_le rt n
        have ek : sN rt q = k' := (nI_eq (by omega) (by omega)).mp hcell
        obtain ⟨_, p1, q1, hp1, hq1, f1, f2, _⟩ := hD x l y hE
        subst f1 f2
        refine ⟨nm p1, nm q1, (hV _).mpr ⟨p1, hp1, rfl⟩, (hV _).mpr ⟨q1, hq1, rfl⟩, hE, ?_, ?_⟩
        · show sN rt (rt (Classical.choose (hex (nm p1)))) = k
          rw [clsn p1 hp1, ← back p p1 hp hp1 hx, hr, ep]
        · show sN rt (rt (Classical.choose (hex (nm q1)))) = k'
          rw [clsn q1 hq1, ← back q q1 hq hq1 hy, hqr, ek]
    · rintro ⟨x, y, hx, hy, hE, e1, e2⟩
      obtain ⟨hl, p1, q1, hp1, hq1, f1, f2, u, v, hu, hv, r1, r2, c⟩ := hD x l y hE
      subst f1 f2
      have e1' : sN rt (rt (Classical.choose (hex (nm p1)))) = k := e1
      have e2' : sN rt (rt (Classical.choose (hex (nm q1)))) = k' := e2
      rw [clsn p1 hp1, ← r1] at e1'
      rw [clsn q1 hq1, ← r2] at e2'
      have hr := hroots u l v hu hl hv c
      rw [hr.1] at e1'
      rw [hr.2] at e2'
      refine ⟨hk, hk', hl, ?_⟩
      rw [← e1', (hmv u l hu hr.1 hl).2 v hv c, e2']
