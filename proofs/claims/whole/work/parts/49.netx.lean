/-! PURE 30: the class's net between rounds -/
def CN (s : Nat) (lk bc : AR) : Prop := s ≤ 1080 ∧ (∀ k, k < s → bc k = nI k) ∧ ∀ k l, k < s → l < 6 → lk (k * 6 + l) = -1 ∨ ∃ k', k' < s ∧ lk (k * 6 + l) = nI k' ∧ lk (k' * 6 + xr l) = nI k
theorem startC {E : Nm → Nat → Nm → Prop} {R : Nm → Nm → Prop} {s : Nat} {nm : Nat → Nm} {lk bc gn : AR} (hR : Eqv R) (h : CN s lk bc) (hE : ∀ k l k', lkA s lk k l k' → E (nm k) l (nm k')) : CE E R s nm 0 (fun x => x) [] 0 lk bc gn := by
  obtain ⟨h1, h2, h3⟩ := h
  refine ⟨h1, fun p hp => ⟨p, hp, h2 p hp, rfl, hp, h2 p hp, fun _ => rfl, fun c => absurd rfl c⟩, rfl, fun k p hk => by (cases hk), List.nodup_nil, fun p => ⟨fun c => by (cases c), fun c => absurd rfl c.2⟩, Nat.le_refl _, fun p q _ _ e => by rw [show p = q from e]; exact hR.1 _, fun p l hp hl => ?_, fun k p hk => by omega⟩
  rcases h3 p l hp hl with c | ⟨q, hq, c, c2⟩
  · exact Or.inl c
  · exact Or.inr ⟨q, hq, c, c2, nm p, nm q, hE p l q ⟨hp, hq, hl, c⟩, hR.1 _, hR.1 _⟩
theorem finishC {V : Nm → Prop} {E : Nm → Nat → Nm → Prop} {M : Nm → Nm → Prop} {n : Nat} {nm : Nat → Nm} {rt : Nat → Nat} {G : List Nat} {gc : Int32} {lk bc gn rn : AR} (hS : ∀ x l y, l < 6 → E x l y → E y (xr l) x) (h : CE E (LE E M) n nm 0 rt G gc lk bc gn) (hinj : ∀ p q, p < n → q < n → nm p = nm q → p = q) (hV : ∀ x, V x ↔ ∃ p, p < n ∧ nm p = x) (hD : ∀ x l y, E x l y → l < 6 ∧ ∃ p q, p < n ∧ q < n ∧ nm p = x ∧ nm q = y ∧ Rep n rt lk p l q) (hM : ∀ x y, M x y → ∃ p q, p < n ∧ q < n ∧ nm p = x ∧ nm q = y ∧ rt p = rt q) {b e : Nat} (hb : b < n) (he : e < n) {Q : Int32 → Int32 → Int32 → Int32 → AR → AR → AR → AR → Prop} (hQ : ∀ s b' e' lk' bc' gn' rn', CN s lk' bc' → s ≤ n → QP V E M (nm b) (nm e) s (lkA s lk') b' e' → Q 0 (nI s) (nI b') (nI e') lk' bc' gn' rn') : wp_X2_fold gc lk bc gn (fun gc lk bc gn => wp_X2_renumber (nI n) (nI b) (nI e) lk bc rn (fun pl bg en lk bc rn => Q gc pl bg en lk bc gn rn)) := by
  refine fold1 (LE.eqv E M) (LE.fc E M) hS h (fun rt' G' gc' lk' bc' gn' hCE hCo hK => ?_)
  have hn := hCE.1
  have hF := hCE.2.1
  have hroots := hCE.roots
  have hLS := hCE.2.2.2.2.2.2.2.2.1
  refine renumber1 hn hF (fun p l hp hr hl => ?_) hb he (fun lk2 bc2 rn2 hmv hbc => ?_)
  · rcases hLS p l hp hl with c | ⟨q, hq, c, _⟩
    · exact Or.inl c
    · exact Or.inr ⟨q, hq, (hroots p l q hp hl hq c).2, c⟩
  · refine hQ (sN rt' n) _ _ lk2 bc2 gn' rn2 ⟨Nat.le_trans (sN_le rt' n) hn, hbc, fun k l hk hl => ?_⟩ (sN_le rt' n) ?_
    · obtain ⟨p, hp, hr, ep⟩ := sN_onto hk
      have hm := hmv p l hp hr hl
      rcases hLS p l hp hl with c | ⟨q, hq, c, c2, _⟩
      · exact Or.inl (by rw [← ep]; exact hm.1 c)
      · have hqr := (hroots p l q hp hl hq c).2
        refine Or.inr ⟨sN rt' q, sN_lt hqr hq, by rw [← ep]; exact hm.2 q hq c, ?_⟩
        rw [(hmv q (xr l) hq hqr (xr_lt l hl)).2 p hp c2, ep]
    · refine class_qp hCE hinj hV (fun x l y hxy => ?_) (fun x y hxy => ?_) hmv hb he
      · obtain ⟨hl, p, q, hp, hq, f1, f2, f3⟩ := hD x l y hxy
        exact ⟨hl, p, q, hp, hq, f1, f2, hK p l q hp hq hl f3⟩
      · obtain ⟨p, q, hp, hq, f1, f2, f3⟩ := hM x y hxy
        exact ⟨p, q, hp, hq, f1, f2, hCo p q hp hq f3⟩
/-! the row of a word: places in a line -/
def rwV (m : Nat) (x : Nm) : Prop := ∃ k, k ≤ m ∧ x = (k, 4, 0)
def rwE (w : Nat → Nat) (m : Nat) (x : Nm) (l : Nat) (y : Nm) : Prop := ∃ k, k < m ∧ w k < 6 ∧ ((x = (k, 4, 0) ∧ l = w k ∧ y = (k + 1, 4, 0)) ∨ (x = (k + 1, 4, 0) ∧ l = xr (w k) ∧ y = (k, 4, 0)))
theorem rwE_sym {w : Nat → Nat} {m : Nat} : ∀ x l y, l < 6 → rwE w m x l y → rwE w m y (xr l) x := by
  rintro x l y _ ⟨k, hk, hw, ⟨e1, e2, e3⟩ | ⟨e1, e2, e3⟩⟩
  · exact ⟨k, hk, hw, Or.inr ⟨e3, by rw [e2], e1⟩⟩
  · exact ⟨k, hk, hw, Or.inl ⟨e3, by rw [e2, xr_xr], e1⟩⟩
theorem layOut1 {w : Nat → Nat} {m : Nat} (hm : m ≤ 12) {wl : AR} (hw : ∀ i, i < m → w i < 6 ∧ wl i = nI (w i)) {pl bg en : Int32} {lk bc gn rn : AR} {Q : Int32 → Int32 → Int32 → Int32 → AR → AR → AR → AR → Prop} (hQ : ∀ s b' e' lk' bc' gn' rn', CN s lk' bc' → s ≤ 13 → QP (rwV m) (rwE w m) (fun _ _ => False) (0, 4, 0) (m, 4, 0) s (lkA s lk') b' e' → Q 0 (nI s) (nI b') (nI e') lk' bc' gn' rn') : wp_X2_layOut 0 pl bg en lk bc gn wl (nI m) (fun gc pl bg en lk bc gn => wp_X2_fold gc lk bc gn (fun gc lk bc gn => wp_X2_renumber pl bg en lk bc rn (fun pl bg en lk bc rn => Q gc pl bg en lk bc gn rn))) := by
  have hEq := LE.eqv (rwE w m) (fun _ _ => False)
  have h0 : CE (rwE w m) (LE (rwE w m) (fun _ _ => False)) 0 (fun k => (k, 4, 0)) 0 (fun x => x) [] 0 lk bc gn := startC hEq ⟨by omega, fun k hk => by omega, fun k l hk => by omega⟩ (fun k l k' h => by have := h.1; omega)
  have hnm : ∀ n : Nat, nmN (fun k => ((k, 4, 0) : Nm)) n (n, 4, 0) = fun k => (k, 4, 0) := fun n => by
    funext k
    unfold nmN
    by_cases c : k = n
    · rw [if_pos c, c]
    · rw [if_neg c]
  refine newC hEq h0 (by omega) (0, 4, 0) (fun lk1 bc1 hCE1 _ => ?_)
  rw [hnm] at hCE1
  refine cl7r (body := wb_X2_layOut_23 wl (nI m) (nI 0) (fun gc pl bg en lk bc gn => wp_X2_fold gc lk bc gn (fun gc lk bc gn => wp_X2_renumber pl bg en lk bc rn (fun pl bg en lk bc rn => Q gc pl bg en lk bc gn rn)))) m (fun k gc pl en lk bc gn => ∃ rt G, pl = nI (k + 1) ∧ en = nI k ∧ CE (rwE w m) (LE (rwE w m) (fun _ _ => False)) (k + 1) (fun k => (k, 4, 0)) 0 rt G gc lk bc gn ∧ ∀ j, j < k → Rep (k + 1) rt lk j (w j) (j + 1)) ?_ ?_ ⟨_, _, rfl, rfl, hCE1, fun j hj => by omega⟩
  · rintro k hk gc1 pl1 en1 lk2 bc2 gn2 ⟨rt, G, rfl, rfl, hCE, hrep⟩ rc hrc
    have hwk := (hw k hk).1
    refine br_ge hk (by omega) ?_
    refine newC hEq hCE (by omega) (k + 1, 4, 0) (fun lk3 bc3 hCE3 hk3 => ⟨vp_in_nI (by omega) (by decide), ?_⟩)
    rw [hnm] at hCE3
    rw [cl_nI (by omega), (hw k hk).2]
    refine linkC hEq (LE.fc _ _) rwE_sym hCE3 (p := k) (q := k + 1) (by omega) (by omega) hwk ⟨(k, 4, 0), (k + 1, 4, 0), ⟨k, hk, hwk, Or.inl ⟨rfl, rfl, rfl⟩⟩, hEq.1 _, hEq.1 _⟩ (fun rt' G' gc' lk' bc' gn' hCE' hCo _ _ hkeep hr x hx => ?_)
    subst hx
    refine hrc _ _ _ _ _ _ ⟨rt', G', rfl, rfl, hCE', fun j hj => ?_⟩
    by_cases c : j = k
    · subst c; exact hr
    · obtain ⟨u, v, hu, hv, e1, e2, e3⟩ := hk3 j (w j) (j + 1) (by omega) (by omega) (hw j (by omega)).1 (hrep j (by omega))
      exact ⟨u, v, hu, hv, hCo _ _ hu (by omega) e1, hCo _ _ hv (by omega) e2, hkeep u (w j) v hu (hw j (by omega)).1 hv e3⟩
  · rintro gc1 pl1 en1 lk2 bc2 gn2 ⟨rt, G, rfl, rfl, hCE, hrep⟩ rc
    refine br_end (Nat.le_refl m) (by omega) ?_
    have hn := hCE.1
    have hLS := hCE.2.2.2.2.2.2.2.2.1
    refine finishC (V := rwV m) rwE_sym hCE (fun p q _ _ e => by
      have e' : ((p, 4, 0) : Nm) = (q, 4, 0) := e
      cases e'; rfl) (fun x => ⟨fun ⟨k, hk, e⟩ => ⟨k, by omega, e.symm⟩, fun ⟨p, hp, e⟩ => ⟨p, by omega, e.symm⟩⟩) (fun x l y hxy => ?_) (fun x y c => absurd c id) (b := 0) (e := m) (by omega) (by omega) (fun s b' e' lk' bc' gn' rn' h1 h2 h3 => hQ s b' e' lk' bc' gn' rn' h1 (by omega) h3)
    obtain ⟨k, hk, hwk, ⟨rfl, rfl, rfl⟩ | ⟨rfl, rfl, rfl⟩⟩ := hxy
    · exact ⟨hwk, k, k + 1, by omega, by omega, rfl, rfl, hrep k hk⟩
    · exact ⟨xr_lt _ hwk, k + 1, k, by omega, by omega, rfl, rfl, Rep.symm hLS hn hwk (hrep k hk)⟩
