/-! PURE 43: net, reads -/
section NETOP
variable {sl : AR} {wl : Nat → AR} {wn rt : AR} {rl : Nat → AR} {rn st : AR}
theorem RSt.rules (h : RSt sl wl wn rt rl rn st) : ∃ tb rN rW, RU tb rN rW rt rl rn ∧ RV tb rN rW st := by
  have ex : ∀ d, ∃ x : Nat × (Nat → Nat), d < 4 → x.1 ≤ 12 ∧ rn d = nI x.1 ∧ st (60 + d) = nI x.1 ∧ ∀ k, k < x.1 → x.2 k < 6 ∧ rl d k = nI (x.2 k) ∧ st (64 + 12 * d + k) = nI (x.2 k) := fun d => by
    by_cases hd : d < 4
    · obtain ⟨n, w, h1, h2, h3, h4⟩ := (h.2.2.2 d hd).nums
      exact ⟨(n, w), fun _ => ⟨h1, h2, h3, h4⟩⟩
    · exact ⟨(0, fun _ => 0), fun c => absurd c hd⟩
  have htb : ∀ r, r < 2 → rt r = bI (decide (rt r = 1)) := fun r hr => by
    rcases (h.2.2.1 r hr).1 with c | c
    · rw [c]; rfl
    · rw [c]; rfl
  refine ⟨fun r => decide (rt r = 1), fun d => (Classical.choose (ex d)).1, fun d => (Classical.choose (ex d)).2, ⟨htb, fun d hd => ?_⟩, ⟨fun r hr => ?_, fun d hd => ?_⟩⟩
  · obtain ⟨h1, h2, h3, h4⟩ := Classical.choose_spec (ex d) hd
    exact ⟨h1, h2, fun i hi => ⟨(h4 i hi).1, (h4 i hi).2.1⟩⟩
  · rw [(h.2.2.1 r hr).2]; exact htb r hr
  · obtain ⟨h1, h2, h3, h4⟩ := Classical.choose_spec (ex d) hd
    exact ⟨h1, h3, fun i hi => ⟨(h4 i hi).1, (h4 i hi).2.2⟩⟩
theorem net_ok (h : RSt sl wl wn rt rl rn st) {pl bg en ro : Int32} {lk bc gn rm se : AR} {jn np b8 f8 r8 sw : Int32} {fr by' tw' one nu nx sd sf so : AR} (y0 y1 : Int32) {R : Int32 → Int32 → Int32 → Int32 → Int32 → AR → AR → AR → AR → AR → Int32 → Int32 → Int32 → Int32 → Int32 → Int32 → AR → AR → AR → AR → AR → AR → AR → AR → AR → Prop} (hR : ∀ pl bg en ro lk bc gn rm se jn np b8 f8 r8 sw fr by' tw' one nu nx sd sf so, R 0 pl bg en ro lk bc gn rm se jn np b8 f8 r8 sw fr by' tw' one nu nx sd sf so) : wp_X7_net y0 y1 wl wn rt rl rn 0 pl bg en ro lk bc gn rm se (fun r1 gc pl bg en ro lk bc gn rm se => wp_X8_net y0 y1 jn np b8 f8 r8 sw st fr by' tw' one nu nx sd sf so (fun r2 jn np b8 f8 r8 sw fr by' tw' one nu nx sd sf so => r1 = r2 ∧ R gc pl bg en ro lk bc gn rm se jn np b8 f8 r8 sw fr by' tw' one nu nx sd sf so)) := by
  refine word7 (brb (fun e0 => lim7' (n := 2) (fun e1 => ?_) (fun e1 => ?_)) (fun e0 => ?_))
  · exact word8 (brb (fun _ => in_wp (hi := 2) (brb (fun e2 => by rw [show inN y1 2 = true from e2] at e1; cases e1) (fun _ => ⟨rfl, hR _ _ _ _ _ _ _ _ _ _ _ _ _ _ _ _ _ _ _ _ _ _ _ _⟩))) (fun e2 => by rw [e0] at e2; cases e2))
  · obtain ⟨j, hj, rfl⟩ := inN_t e0 (by decide)
    obtain ⟨m, w, hm, en1, en2, hw⟩ := (h.2.1 j (by omega)).nums
    obtain ⟨tb, rN, rW, hU, hV⟩ := h.rules
    refine ⟨vp_in_nI (by omega) (by decide), fun jj hjj ejj => ?_⟩
    obtain rfl : jj = j := ((nI_eq (by omega) (by omega)).mp ejj).symm
    rw [en1]
    refine ready_both hU hV hm (fun i hi => ⟨(hw i hi).1, (hw i hi).2.1⟩) hjj en2 (fun i hi => ⟨(hw i hi).1, (hw i hi).2.2⟩) (fun r s' b' e' lk' bc' gn' rm' se' k' h1 h8 => ?_)
    have fin : ∀ x : Int32, (r = false → x = -6) → (r = true → y1 = 0 → x = nI s') → (r = true → y1 = 1 → x = nI (jcC s' (cA lk'))) → (r = true → ¬ y1 = 0 → ¬ y1 = 1 → x = nI k') → wp_X8_net (nI jj) y1 jn np b8 f8 r8 sw st fr by' tw' one nu nx sd sf so (fun r2 jn np b8 f8 r8 sw fr by' tw' one nu nx sd sf so => x = r2 ∧ R 0 (nI s') (nI b') (nI e') (nI k') lk' bc' gn' rm' se' jn np b8 f8 r8 sw fr by' tw' one nu nx sd sf so) := by
      intro x x0 x1 x2 x3
      refine word8 (brb (fun _ => in_wp (hi := 2) (brb (fun _ => ?_) (fun e2 => by rw [show inN y1 2 = false from e2] at e1; cases e1))) (fun e2 => by rw [e0] at e2; cases e2))
      refine h8 _ _ _ _ _ _ _ _ _ _ _ _ _ _ _ _ (fun J' jn np b8 f8 r8 sw fr by' tw' one nu nx sd sf so hyp => ?_)
      refine brb (fun e => ?_) (fun e => ⟨x0 e, hR _ _ _ _ _ _ _ _ _ _ _ _ _ _ _ _ _ _ _ _ _ _ _ _⟩)
      obtain ⟨rfl, rfl, hN, _, f, g, hB, _⟩ := hyp e
      refine ⟨fun c0 => ⟨fun c1 => ⟨x3 e c0 c1, hR _ _ _ _ _ _ _ _ _ _ _ _ _ _ _ _ _ _ _ _ _ _ _ _⟩, fun c1 => ⟨?_, hR _ _ _ _ _ _ _ _ _ _ _ _ _ _ _ _ _ _ _ _ _ _ _ _⟩⟩, fun c0 => ⟨x1 e c0, hR _ _ _ _ _ _ _ _ _ _ _ _ _ _ _ _ _ _ _ _ _ _ _ _⟩⟩
      rw [x2 e c1, hN.1.1, hN.2.2.2.2, jcN_C, hB.joints]
    have ne : ∀ a b : Int32, a ≠ b → y1 = a → y1 = b → False := fun a b hab h1 h2 => hab (by rw [← h1, h2])
    have nf : r = true → r = false → False := fun a b => by rw [a] at b; cases b
    refine brb (fun e => ?_) (fun e => fin _ (fun _ => rfl) (fun c => (nf c e).elim) (fun c => (nf c e).elim) (fun c => (nf c e).elim))
    obtain ⟨hCN, hs, _⟩ := h1 e
    exact ⟨fun c => fin _ (fun c' => (nf e c').elim) (fun _ _ => rfl) (fun _ c' => (ne 0 1 (by decide) c c').elim) (fun _ c' => absurd c c'), fun c => joints1 hCN (fin _ (fun c' => (nf e c').elim) (fun _ c' => (ne 1 0 (by decide) c c').elim) (fun _ _ => rfl) (fun _ _ c' => absurd c c')), fun c0 c1 => fin _ (fun c' => (nf e c').elim) (fun _ c' => absurd c' c0) (fun _ c' => absurd c' c1) (fun _ _ _ => rfl)⟩
  · exact word8 (brb (fun e2 => by rw [e0] at e2; cases e2) (fun _ => ⟨rfl, hR _ _ _ _ _ _ _ _ _ _ _ _ _ _ _ _ _ _ _ _ _ _ _ _⟩))
theorem oI_eq {d : Int32} {a : Option Nat} {q : Nat} (hd : d ≠ nI q) (ha : ∀ x, a = some x → x < 2 ^ 31) (hq : q < 2 ^ 31) : oI d a = nI q ↔ a = some q := by
  cases a with
  | none => exact ⟨fun c => absurd c hd, fun c => by (cases c)⟩
  | some x =>
    constructor
    · intro c
      rw [(nI_eq (ha x rfl) hq).mp c]
    · intro c
      cases c; rfl
theorem reads_ok (h : RSt sl wl wn rt rl rn st) {pl bg en ro : Int32} {lk bc gn rm se : AR} {jn np b8 f8 r8 sw : Int32} {fr by' tw' one nu nx sd sf so : AR} (y0 y1 : Int32) {R : Int32 → Int32 → Int32 → Int32 → Int32 → AR → AR → AR → AR → AR → Int32 → Int32 → Int32 → Int32 → Int32 → Int32 → AR → AR → AR → AR → AR → AR → AR → AR → AR → Prop} (hR : ∀ pl bg en ro lk bc gn rm se jn np b8 f8 r8 sw fr by' tw' one nu nx sd sf so, R 0 pl bg en ro lk bc gn rm se jn np b8 f8 r8 sw fr by' tw' one nu nx sd sf so) : wp_X7_reads y0 y1 wl wn rt rl rn 0 pl bg en ro lk bc gn rm se (fun r1 gc pl bg en ro lk bc gn rm se => wp_X8_reads y0 y1 jn np b8 f8 r8 sw st fr by' tw' one nu nx sd sf so (fun r2 jn np b8 f8 r8 sw fr by' tw' one nu nx sd sf so => r1 = r2 ∧ R gc pl bg en ro lk bc gn rm se jn np b8 f8 r8 sw fr by' tw' one nu nx sd sf so)) := by
  refine word7 (brb' (fun e0 => ?_) (fun e0 => word7 (brb (fun e1 => ?_) (fun e1 => ?_))))
  · exact word8 (brb' (fun _ => ⟨rfl, hR _ _ _ _ _ _ _ _ _ _ _ _ _ _ _ _ _ _ _ _ _ _ _ _⟩) (fun e2 => by rw [e0] at e2; cases e2))
  · obtain ⟨j, hj, rfl⟩ := inN_t e0 (by decide)
    obtain ⟨i, hi, rfl⟩ := inN_t e1 (by decide)
    obtain ⟨m, w, hm, en1, en2, hw⟩ := (h.2.1 j (by omega)).nums
    obtain ⟨n, v, hn, en3, en4, hv⟩ := (h.2.1 i (by omega)).nums
    obtain ⟨tb, rN, rW, hU, hV⟩ := h.rules
    refine ⟨vp_in_nI (by omega) (by decide), fun jj hjj ejj => ?_⟩
    obtain rfl : jj = j := ((nI_eq (by omega) (by omega)).mp ejj).symm
    rw [en1]
    refine ready_both hU hV hm (fun i hi => ⟨(hw i hi).1, (hw i hi).2.1⟩) hjj en2 (fun i hi => ⟨(hw i hi).1, (hw i hi).2.2⟩) (fun r s' b' e' lk' bc' gn' rm' se' k' h1 h8 => ?_)
    have fin : ∀ x : Int32, (r = false → x = -6) → (r = true → x = bI (decide (wk (cA lk') v b' n = some e'))) → wp_X8_reads (nI jj) (nI i) jn np b8 f8 r8 sw st fr by' tw' one nu nx sd sf so (fun r2 jn np b8 f8 r8 sw fr by' tw' one nu nx sd sf so => x = r2 ∧ R 0 (nI s') (nI b') (nI e') (nI k') lk' bc' gn' rm' se' jn np b8 f8 r8 sw fr by' tw' one nu nx sd sf so) := by
      intro x x0 x1
      refine word8 (brb' (fun e2 => by rw [e0] at e2; cases e2) (fun _ => word8 (brb (fun _ => ?_) (fun e2 => by rw [e1] at e2; cases e2))))
      refine h8 _ _ _ _ _ _ _ _ _ _ _ _ _ _ _ _ (fun J' jn np b8 f8 r8 sw fr by' tw' one nu nx sd sf so hyp => ?_)
      refine brb (fun e => ?_) (fun e => ⟨x0 e, hR _ _ _ _ _ _ _ _ _ _ _ _ _ _ _ _ _ _ _ _ _ _ _ _⟩)
      obtain ⟨rfl, rfl, hN, hs', f, g, hB, rfl, rfl⟩ := hyp e
      obtain ⟨hCN, _, hb', he'⟩ := h1 e
      have hfb := hB.1 b' hb'
      have hfe := hB.1 e' he'
      have hv6 : ∀ i, i < n → v i < 6 := fun i hi => (hv i hi).1
      refine readWord8 (by omega) hN.2.2.1 hn (by omega) en4 (fun i hi => ⟨(hv i hi).1, (hv i hi).2.2⟩) hfb.1 ?_
      have hwk := hB.walk (cA_ok hCN) hb' hv6
      have key : oI (-6) (wk (cN nx) v (f b') n) = nI (f e') ↔ wk (cA lk') v b' n = some e' := by
        rw [oI_eq (neg6 (by omega)) (fun x hx => by have := wk_lt (cN_ok (by omega) hN.2.2.1) hfb.1 hv6 hx; omega) (by omega), ← hwk]
        constructor
        · intro c
          cases c1 : wk (cA lk') v b' n with
          | none => rw [c1] at c; cases c
          | some q =>
            rw [c1] at c
            have c : some (f q) = some (f e') := c
            have hq := wk_lt (cA_ok hCN) hb' hv6 c1
            have c2 : f q = f e' := Option.some.inj c
            rw [← (hB.1 q hq).2, c2, hfe.2]
        · intro c
          rw [c]; rfl
      refine ⟨fun c => ⟨?_, hR _ _ _ _ _ _ _ _ _ _ _ _ _ _ _ _ _ _ _ _ _ _ _ _⟩, fun c => ⟨?_, hR _ _ _ _ _ _ _ _ _ _ _ _ _ _ _ _ _ _ _ _ _ _ _ _⟩⟩
      · rw [x1 e, decide_eq_false (fun c2 => c (key.mpr c2))]; rfl
      · rw [x1 e, decide_eq_true (key.mp c)]; rfl
    have nf : r = true → r = false → False := fun a b => by rw [a] at b; cases b
    refine brb (fun e => ⟨vp_in_nI (by omega) (by decide), fun kk hkk ekk => ?_⟩) (fun e => fin _ (fun _ => rfl) (fun c => (nf c e).elim))
    obtain rfl : kk = i := ((nI_eq (by omega) (by omega)).mp ekk).symm
    obtain ⟨hCN, hs, hb', he'⟩ := h1 e
    rw [en3]
    have hv6 : ∀ i, i < n → v i < 6 := fun i hi => (hv i hi).1
    refine follow2 hCN hn (fun i hi => ⟨(hv i hi).1, (hv i hi).2.1⟩) hb' ?_
    have key := oI_eq (d := -1) (a := wk (cA lk') v b' n) (q := e') (neg1 (by omega)) (fun x hx => by have := wk_lt (cA_ok hCN) hb' hv6 hx; omega) (by omega)
    have last : ∀ t : Bool, t = decide (wk (cA lk') v b' n = some e') → wp_X7_oneIf (bI t) (fun r1 => wp_X8_reads (nI jj) (nI kk) jn np b8 f8 r8 sw st fr by' tw' one nu nx sd sf so (fun r2 jn np b8 f8 r8 sw fr by' tw' one nu nx sd sf so => r1 = r2 ∧ R 0 (nI s') (nI b') (nI e') (nI k') lk' bc' gn' rm' se' jn np b8 f8 r8 sw fr by' tw' one nu nx sd sf so)) := fun t ht => oneIf_wp (fin _ (fun c' => (nf e c').elim) (fun _ => by rw [ht]))
    exact ⟨fun c => last false (decide_eq_false (fun c2 => c (key.mpr c2))).symm, fun c => last true (decide_eq_true (key.mp c)).symm⟩
  · exact word8 (brb' (fun e2 => by rw [e0] at e2; cases e2) (fun _ => word8 (brb (fun e2 => by rw [e1] at e2; cases e2) (fun _ => ⟨rfl, hR _ _ _ _ _ _ _ _ _ _ _ _ _ _ _ _ _ _ _ _ _ _ _ _⟩))))
end NETOP
