/-! PURE 38: the class sews a seam -/
theorem cl7s {A1 A3 A4 A5 A6 A7 : Type} {body : (A1 → Int32 → A3 → A4 → A5 → A6 → A7 → Prop) → A1 → Int32 → A3 → A4 → A5 → A6 → A7 → Prop} (N : Nat) (I : Nat → A1 → A3 → A4 → A5 → A6 → A7 → Prop) (hs : ∀ k, k < N → ∀ a b c d e f, I k a b c d e f → ∀ rc : A1 → Int32 → A3 → A4 → A5 → A6 → A7 → Prop, (∀ a b c d e f, I (k + 1) a b c d e f → rc a (nI k + 1) b c d e f) → body rc a (nI k) b c d e f) (he : ∀ a b c d e f, I N a b c d e f → ∀ rc, body rc a (nI N) b c d e f) {a : A1} {b : A3} {c : A4} {d : A5} {e : A6} {f : A7} (h : I 0 a b c d e f) : ∃ n, lpW7 body n a (nI 0) b c d e f := by
  have key : ∀ j k, k + j = N → ∀ a b c d e f, I k a b c d e f → lpW7 body (j + 1) a (nI k) b c d e f := by
    intro j
    induction j with
    | zero => intro k hk a b c d e f h; obtain rfl : k = N := by omega
              exact he a b c d e f h _
    | succ j ih => intro k hk a b c d e f h; exact hs k (by omega) a b c d e f h _ (fun a b c d e f h => by rw [nI_1]; exact ih (k + 1) (by omega) a b c d e f h)
  exact ⟨N + 1, key N 0 (by omega) _ _ _ _ _ _ h⟩
theorem eA_step {rN : Nat → Nat} {rW : Nat → Nat → Nat} {D : Nm → Nat → Nm → Prop} {p d q i : Nat} {u v : Nm} (hu : u = nA (rN d) p d q i) (hv : v = nA (rN d) p d q (i + 1)) (x : Nm) (l : Nat) (y : Nm) (h : eA rN rW D p d q (i + 1) x l y) : eA rN rW D p d q i x l y ∨ (x = u ∧ l = rW d i ∧ y = v) ∨ (x = v ∧ l = xr (rW d i) ∧ y = u) := by
  subst hu hv
  rcases h with h | ⟨j, hj, h⟩
  · exact Or.inl (Or.inl h)
  · by_cases c : j = i
    · subst c; exact Or.inr h
    · exact Or.inl (Or.inr ⟨j, by omega, h⟩)
theorem vA_step {rN : Nat → Nat} {V : Nm → Prop} {p d i : Nat} (x : Nm) : vA rN V p d (i + 1) x ↔ vA rN V p d i x ∨ x = (p, d, i) := by
  constructor
  · rintro (h | ⟨j, hj, h⟩)
    · exact Or.inl (Or.inl h)
    · by_cases c : j = i
      · subst c; exact Or.inr h
      · exact Or.inl (Or.inr ⟨j, by omega, h⟩)
  · rintro ((h | ⟨j, hj, h⟩) | h)
    · exact Or.inl h
    · exact Or.inr ⟨j, by omega, h⟩
    · exact Or.inr ⟨i, by omega, h⟩
theorem vA_new {s : Nat} {rN : Nat → Nat} {T : SmT} {p d i : Nat} (hd : d < 4) (hnT : ∀ q', ¬ T (d, p, q')) : ¬ vA rN (qV s rN T) p d i (p, d, i) := by
  rintro ((⟨p', _, e⟩ | ⟨p', d', q', i', hT, _, e⟩) | ⟨j, hj, e⟩)
  · cases e; omega
  · cases e; exact hnT q' hT
  · cases e; omega
theorem SC.base {E : Nm → Nat → Nm → Prop} {M : Nm → Nm → Prop} {V : Nm → Prop} {D : Nm → Nat → Nm → Prop} {Mg : Nm → Nm → Prop} {s n : Nat} {nm : Nat → Nm} {gc : Int32} {lk bc gn : AR} (h : SC E M V D Mg s n nm gc lk bc gn) : s ≤ n ∧ ∀ k, k < s → nm k = (k, 4, 0) := by
  obtain ⟨rt, G, h1, h2, h3, _⟩ := h
  exact ⟨h2, h3⟩
theorem sewS {F T : SmT} {s n : Nat} {rN : Nat → Nat} {rW : Nat → Nat → Nat} {c : Nat → Nat → Option Nat} (hc : ∀ k l k', k < s → l < 6 → c k l = some k' → k' < s ∧ c k' (xr l) = some k) {p d q : Nat} (hF : F (d, p, q)) (hnT : ∀ q', ¬ T (d, p, q')) (hd : d < 4) (hp : p < s) (hq : q < s) (hm : rN d ≤ 12) {rl : AR} (hrl : ∀ i, i < rN d → rW d i < 6 ∧ rl i = nI (rW d i)) {nm : Nat → Nm} {gc : Int32} {lk bc gn : AR} (hn : n + 11 ≤ 1080) (h : SC (qE s rN rW c F) (qM rN F) (qV s rN T) (qE s rN rW c T) (qM rN T) s n nm gc lk bc gn) {Q : Int32 → Int32 → AR → AR → AR → Prop} (hQ : ∀ n' nm' gc' lk' bc' gn', SC (qE s rN rW c F) (qM rN F) (qV s rN (ad T (d, p, q))) (qE s rN rW c (ad T (d, p, q))) (qM rN (ad T (d, p, q))) s n' nm' gc' lk' bc' gn' → n' ≤ n + 11 → Q gc' (nI n') lk' bc' gn') : wp_X2_sew (nI p) (nI q) gc (nI n) lk bc gn rl (nI (rN d)) Q := by
  obtain ⟨hsn, hnb⟩ := h.base
  refine ⟨fun _ => ⟨fun c0 => ?_, fun c0 => ?_⟩, fun c0 => absurd (nI_pos' (by omega)) c0⟩
  · have hm0 : 0 < rN d := Nat.pos_of_ne_zero fun e => c0 (by rw [e]; rfl)
    obtain ⟨m, hm1⟩ : ∃ m, rN d = m + 1 := ⟨rN d - 1, by omega⟩
    refine cl7s (body := wb_X2_sew_25 rl (nI (rN d)) (nI q) Q) m (fun i at' gc pl lk bc gn => ∃ a nm1, at' = nI a ∧ a < n + i ∧ pl = nI (n + i) ∧ nm1 a = nA (rN d) p d q i ∧ SC (qE s rN rW c F) (qM rN F) (vA rN (qV s rN T) p d i) (eA rN rW (qE s rN rW c T) p d q i) (qM rN T) s (n + i) nm1 gc lk bc gn) ?_ ?_ ⟨p, nm, rfl, by omega, rfl, by rw [nA_0]; exact hnb p hp, h.mono (fun x => ⟨fun c => c.elim id (fun ⟨j, hj, _⟩ => by omega), Or.inl⟩) (fun x l y c => c.elim id (fun ⟨j, hj, _⟩ => by omega)) (fun _ _ c => c)⟩
    · rintro i hi at' gc1 pl1 lk1 bc1 gn1 ⟨a, nm1, rfl, ha, rfl, hna, hSC⟩ rc hrc
      unfold wb_X2_sew_25
      rw [hm1, nI_pred]
      refine br_ge hi (by omega) (newS hSC (by omega) (vA_new hd hnT) (fun lk2 bc2 hSC2 => ⟨vp_in_nI (by omega) (by decide), ?_⟩))
      rw [cl_nI (by omega), (hrl i (by omega)).2]
      have n1 : nmN nm1 (n + i) (p, d, i) a = nA (rN d) p d q i := by rw [show nmN nm1 (n + i) (p, d, i) a = nm1 a from if_neg (by omega)]; exact hna
      have n2 : nmN nm1 (n + i) (p, d, i) (n + i) = nA (rN d) p d q (i + 1) := by rw [nA_i (by omega)]; exact if_pos rfl
      refine linkS (qE_sym hc) hSC2 (a := a) (b := n + i) (by omega) (by omega) (hrl i (by omega)).1 ?_ (fun gc3 lk3 bc3 gn3 hSC3 x hx => ?_)
      · rw [n1, n2]
        exact Or.inr ⟨p, d, q, i, hF, by omega, Or.inl ⟨rfl, rfl, rfl⟩⟩
      · subst hx
        exact hrc _ _ _ _ _ _ ⟨n + i, _, rfl, by omega, rfl, n2, hSC3.mono (fun x => vA_step x) (fun x l y c => eA_step n1 n2 x l y c) (fun _ _ c => c)⟩
    · rintro at' gc1 pl1 lk1 bc1 gn1 ⟨a, nm1, rfl, ha, rfl, hna, hSC⟩ rc
      unfold wb_X2_sew_25
      rw [hm1, nI_pred]
      refine br_end (Nat.le_refl m) (by omega) ⟨vp_in_nI (by omega) (by decide), ?_⟩
      rw [cl_nI (by omega), (hrl m (by omega)).2]
      have n2 : nm1 q = nA (rN d) p d q (m + 1) := by rw [← hm1, nA_m (by omega)]; exact hSC.base.2 q hq
      refine linkS (qE_sym hc) hSC (a := a) (b := q) ha (by omega) (hrl m (by omega)).1 ?_ (fun gc3 lk3 bc3 gn3 hSC3 => hQ (n + m) nm1 _ _ _ _ (hSC3.mono (fun x => ?_) (fun x l y c => ?_) (fun x y c => ?_)) (by omega))
      · rw [hna, n2]
        exact Or.inr ⟨p, d, q, m, hF, by omega, Or.inl ⟨rfl, rfl, rfl⟩⟩
      · rw [qV_ad, hm1, Nat.add_sub_cancel]
      · have c' := qE_ad c
        rw [show rN d = m + 1 from hm1] at c'
        exact eA_step hna n2 x l y c'
      · rcases qM_ad c with c | ⟨c, _⟩
        · exact c
        · omega
  · have hm0 : rN d = 0 := (nI_eq (by omega) (by omega)).mp c0
    refine mergeS h (a := p) (b := q) (by omega) (by omega) ?_ (fun gc' bc' gn' hSC' => hQ n nm _ _ _ _ (hSC'.mono (fun x => ?_) (fun x l y c => ?_) (fun x y c => ?_)) (by omega))
    · rw [hnb p hp, hnb q hq]
      exact ⟨p, d, q, hF, hm0, rfl, rfl⟩
    · rw [qV_ad]
      exact ⟨fun c => c.elim id (fun ⟨j, hj, _⟩ => by omega), Or.inl⟩
    · exact (qE_ad c).elim id (fun ⟨j, hj, _⟩ => by omega)
    · rw [hnb p hp, hnb q hq]
      rcases qM_ad c with c | ⟨_, c⟩
      · exact Or.inl c
      · exact Or.inr c
