/-! PURE 1: numbers, loops, digits of a map -/
theorem n32 {n : Nat} (h : n < 2 ^ 31) (z : Int32) : nI n = z ↔ (n : Int) = z.toInt := by
  rw [← Int32.toInt_inj, nI_toInt h]
/-- counted loops: F k is what the loop holds when its counter is k -/
theorem cl1 {body : (Int32 → Prop) → Int32 → Prop} (N : Nat) (hs : ∀ k, k < N → ∀ rc : Int32 → Prop, rc (nI k + 1) → body rc (nI k)) (he : ∀ rc, body rc (nI N)) : ∃ n, lpW1 body n (nI 0) := by
  have key : ∀ j k, k + j = N → lpW1 body (j + 1) (nI k) := by
    intro j
    induction j with
    | zero => intro k hk; obtain rfl : k = N := by omega
              exact he _
    | succ j ih => intro k hk; exact hs k (by omega) _ (by rw [nI_1]; exact ih (k + 1) (by omega))
  exact ⟨N + 1, key N 0 (by omega)⟩
theorem cl2 {α : Type} {body : (α → Int32 → Prop) → α → Int32 → Prop} (N : Nat) (F : Nat → α) (hs : ∀ k, k < N → ∀ rc : α → Int32 → Prop, rc (F (k + 1)) (nI k + 1) → body rc (F k) (nI k)) (he : ∀ rc, body rc (F N) (nI N)) : ∃ n, lpW2 body n (F 0) (nI 0) := by
  have key : ∀ j k, k + j = N → lpW2 body (j + 1) (F k) (nI k) := by
    intro j
    induction j with
    | zero => intro k hk; obtain rfl : k = N := by omega
              exact he _
    | succ j ih => intro k hk; exact hs k (by omega) _ (by rw [nI_1]; exact ih (k + 1) (by omega))
  exact ⟨N + 1, key N 0 (by omega)⟩
/-- the counter first -/
theorem cl2' {α : Type} {body : (Int32 → α → Prop) → Int32 → α → Prop} (N : Nat) (F : Nat → α) (hs : ∀ k, k < N → ∀ rc : Int32 → α → Prop, rc (nI k + 1) (F (k + 1)) → body rc (nI k) (F k)) (he : ∀ rc, body rc (nI N) (F N)) : ∃ n, lpW2 body n (nI 0) (F 0) := by
  have key : ∀ j k, k + j = N → lpW2 body (j + 1) (nI k) (F k) := by
    intro j
    induction j with
    | zero => intro k hk; obtain rfl : k = N := by omega
              exact he _
    | succ j ih => intro k hk; exact hs k (by omega) _ (by rw [nI_1]; exact ih (k + 1) (by omega))
  exact ⟨N + 1, key N 0 (by omega)⟩
theorem cl3 {α β : Type} {body : (α → β → Int32 → Prop) → α → β → Int32 → Prop} (N : Nat) (F : Nat → α) (G : Nat → β) (hs : ∀ k, k < N → ∀ rc : α → β → Int32 → Prop, rc (F (k + 1)) (G (k + 1)) (nI k + 1) → body rc (F k) (G k) (nI k)) (he : ∀ rc, body rc (F N) (G N) (nI N)) : ∃ n, lpW3 body n (F 0) (G 0) (nI 0) := by
  have key : ∀ j k, k + j = N → lpW3 body (j + 1) (F k) (G k) (nI k) := by
    intro j
    induction j with
    | zero => intro k hk; obtain rfl : k = N := by omega
              exact he _
    | succ j ih => intro k hk; exact hs k (by omega) _ (by rw [nI_1]; exact ih (k + 1) (by omega))
  exact ⟨N + 1, key N 0 (by omega)⟩
theorem cl3' {α β : Type} {body : (Int32 → α → β → Prop) → Int32 → α → β → Prop} (N : Nat) (F : Nat → α) (G : Nat → β) (hs : ∀ k, k < N → ∀ rc : Int32 → α → β → Prop, rc (nI k + 1) (F (k + 1)) (G (k + 1)) → body rc (nI k) (F k) (G k)) (he : ∀ rc, body rc (nI N) (F N) (G N)) : ∃ n, lpW3 body n (nI 0) (F 0) (G 0) := by
  have key : ∀ j k, k + j = N → lpW3 body (j + 1) (nI k) (F k) (G k) := by
    intro j
    induction j with
    | zero => intro k hk; obtain rfl : k = N := by omega
              exact he _
    | succ j ih => intro k hk; exact hs k (by omega) _ (by rw [nI_1]; exact ih (k + 1) (by omega))
  exact ⟨N + 1, key N 0 (by omega)⟩
theorem cl3m {α β : Type} {body : (α → Int32 → β → Prop) → α → Int32 → β → Prop} (N : Nat) (F : Nat → α) (G : Nat → β) (hs : ∀ k, k < N → ∀ rc : α → Int32 → β → Prop, rc (F (k + 1)) (nI k + 1) (G (k + 1)) → body rc (F k) (nI k) (G k)) (he : ∀ rc, body rc (F N) (nI N) (G N)) : ∃ n, lpW3 body n (F 0) (nI 0) (G 0) := by
  have key : ∀ j k, k + j = N → lpW3 body (j + 1) (F k) (nI k) (G k) := by
    intro j
    induction j with
    | zero => intro k hk; obtain rfl : k = N := by omega
              exact he _
    | succ j ih => intro k hk; exact hs k (by omega) _ (by rw [nI_1]; exact ih (k + 1) (by omega))
  exact ⟨N + 1, key N 0 (by omega)⟩
/-! branches with a counter -/
theorem br_ge {N k : Nat} {A B : Prop} (hk : k < N) (hN : N < 2 ^ 31) (b : B) : (nI N ≤ nI k → A) ∧ (¬ nI N ≤ nI k → B) := ⟨fun c => absurd c (nI_ge hk hN), fun _ => b⟩
theorem br_end {N k : Nat} {A B : Prop} (hk : N ≤ k) (hN : k < 2 ^ 31) (a : A) : (nI N ≤ nI k → A) ∧ (¬ nI N ≤ nI k → B) := ⟨fun _ => a, fun c => absurd (nI_le hk hN) c⟩
theorem i5 : (5 : Int32) = nI 5 := rfl
theorem i6 : (6 : Int32) = nI 6 := rfl
theorem i1 : (1 : Int32) = nI 1 := rfl
theorem i0 : (0 : Int32) = nI 0 := rfl
/-! digits -/
def dg (n p : Nat) : Nat := n / 6 ^ p % 6
theorem dg_lt (n p : Nat) : dg n p < 6 := Nat.mod_lt _ (by decide)
def mk5 (f : Nat → Nat) : Nat := f 0 + 6 * f 1 + 36 * f 2 + 216 * f 3 + 1296 * f 4
theorem lt5 {P : Nat → Prop} (h0 : P 0) (h1 : P 1) (h2 : P 2) (h3 : P 3) (h4 : P 4) : ∀ p, p < 5 → P p := fun p hp => by
  rcases (show p = 0 ∨ p = 1 ∨ p = 2 ∨ p = 3 ∨ p = 4 by omega) with rfl | rfl | rfl | rfl | rfl <;> assumption
theorem mk5_lt {f : Nat → Nat} (h : ∀ p, p < 5 → f p < 6) : mk5 f < 7776 := by
  have h0 := h 0 (by omega); have h1 := h 1 (by omega); have h2 := h 2 (by omega); have h3 := h 3 (by omega); have h4 := h 4 (by omega)
  unfold mk5
  omega
theorem dg_mk5 {f : Nat → Nat} (h : ∀ p, p < 5 → f p < 6) : ∀ p, p < 5 → dg (mk5 f) p = f p := by
  have h0 := h 0 (by omega); have h1 := h 1 (by omega); have h2 := h 2 (by omega); have h3 := h 3 (by omega); have h4 := h 4 (by omega)
  refine lt5 ?_ ?_ ?_ ?_ ?_ <;> simp only [dg, mk5] <;> omega
theorem mk5_dg {n : Nat} (h : n < 7776) : mk5 (dg n) = n := by
  simp only [dg, mk5]
  omega
theorem mk5_congr {f g : Nat → Nat} (h : ∀ p, p < 5 → f p = g p) : mk5 f = mk5 g := by
  unfold mk5
  rw [h 0 (by omega), h 1 (by omega), h 2 (by omega), h 3 (by omega), h 4 (by omega)]
theorem dg_ext {n m : Nat} (hn : n < 7776) (hm : m < 7776) (h : ∀ p, p < 5 → dg n p = dg m p) : n = m := by
  rw [← mk5_dg hn, ← mk5_dg hm]
  exact mk5_congr h
/-- partial sums -/
def ps (f : Nat → Nat) : Nat → Nat
  | 0 => 0
  | k + 1 => ps f k + f k * 6 ^ k
theorem ps5 (f : Nat → Nat) : ps f 5 = mk5 f := by
  simp only [ps, mk5]
  omega
theorem pw_nI {p : Nat} (hp : p < 5) : pw p = nI (6 ^ p) := lt5 (P := fun p => pw p = nI (6 ^ p)) rfl rfl rfl rfl rfl p hp
theorem pw6_lt {p : Nat} (hp : p < 5) : 6 ^ p < 2 ^ 31 := lt5 (P := fun p => 6 ^ p < 2 ^ 31) (by decide) (by decide) (by decide) (by decide) (by decide) p hp
theorem pw6_pos {p : Nat} (hp : p < 5) : 0 < 6 ^ p := lt5 (P := fun p => 0 < 6 ^ p) (by decide) (by decide) (by decide) (by decide) (by decide) p hp
theorem pw_ne {p : Nat} (hp : p < 5) : ¬ pw p = 0 := lt5 (P := fun p => ¬ pw p = 0) (by decide) (by decide) (by decide) (by decide) (by decide) p hp
theorem dg_I {n p : Nat} (hn : n < 7776) (hp : p < 5) : nI n / pw p - nI n / pw p / 6 * 6 = nI (dg n p) := by
  rw [pw_nI hp, i6, pk_div (by omega) (pw6_pos hp) (pw6_lt hp), pk_rem (Nat.lt_of_le_of_lt (Nat.div_le_self _ _) (by omega)) (by decide) (by decide)]
  rfl
theorem to_wp {n p : Nat} (hn : n < 7776) (hp : p < 5) {Q : Int32 → Prop} (h : Q (nI (dg n p) - 1)) : wp_X8_to (nI n) (nI p) Q :=
  power_wp hp ⟨pw_ne hp, by rw [dg_I hn hp]; exact h⟩
theorem cl_nI {n : Nat} (h : n < 2 ^ 31) : (nI n).toNatClampNeg = n := nI_clamp h
theorem digit_wp {n p : Nat} (hn : n < 7776) (hp : p < 5) {Q : Int32 → Prop} (h : Q (nI (dg n p))) : wp_X1_digit (nI n) (nI p) Q := by
  unfold wp_X1_digit
  rw [cl_nI (by omega)]
  exact ⟨vp_in_nI hp (by decide), pw_ne hp, by rw [dg_I hn hp]; exact h⟩
/-! a digit less one -/
theorem dm_neg : ∀ d, d < 6 → (nI d - 1 < 0 ↔ d = 0) := by decide
theorem dm_nn : ∀ d, d < 6 → (0 ≤ nI d - 1 ↔ d ≠ 0) := by decide
theorem dm_eq : ∀ d, d < 6 → ∀ e, e < 6 → (nI d - 1 = nI e - 1 ↔ d = e) := by decide
theorem dm_eqp : ∀ d, d < 6 → ∀ p, p < 6 → (nI d - 1 = nI p ↔ d = p + 1) := by decide
theorem dm_pos : ∀ d, d < 6 → d ≠ 0 → nI d - 1 = nI (d - 1) := by decide
theorem d_le0 : ∀ d, d < 6 → (nI d ≤ 0 ↔ d = 0) := by decide
theorem d_eq : ∀ d, d < 6 → ∀ e, e < 6 → (nI d = nI e ↔ d = e) := by decide
