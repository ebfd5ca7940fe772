/-! counting: ld_cnt p n is how many x below n have p -/
def ld_b : Bool → Nat
  | true => 1
  | false => 0
def ld_cnt (p : Nat → Bool) : Nat → Nat
  | 0 => 0
  | n + 1 => ld_cnt p n + ld_b (p n)
theorem ld_cnt_s (p : Nat → Bool) (n : Nat) : ld_cnt p (n + 1) = ld_cnt p n + ld_b (p n) := rfl
theorem ld_cnt_t {p : Nat → Bool} {n : Nat} (h : p n = true) : ld_cnt p (n + 1) = ld_cnt p n + 1 := by
  rw [ld_cnt_s, h]; rfl
theorem ld_cnt_f {p : Nat → Bool} {n : Nat} (h : p n = false) : ld_cnt p (n + 1) = ld_cnt p n := by
  rw [ld_cnt_s, h]; rfl
theorem ld_b_le (b : Bool) : ld_b b ≤ 1 := by cases b <;> decide
theorem ld_cnt_le (p : Nat → Bool) (n : Nat) : ld_cnt p n ≤ n := by
  induction n with
  | zero => exact Nat.le_refl 0
  | succ n ih => have := ld_b_le (p n); rw [ld_cnt_s]; omega
theorem ld_cnt_up (p : Nat → Bool) {a b : Nat} (h : a ≤ b) : ld_cnt p a ≤ ld_cnt p b := by
  induction b with
  | zero => rw [Nat.le_zero.mp h]; exact Nat.le_refl _
  | succ b ih =>
    by_cases e : a = b + 1
    · rw [e]; exact Nat.le_refl _
    · have := ih (by omega); rw [ld_cnt_s]; omega
theorem ld_cnt_im {p r : Nat → Bool} (n : Nat) (h : ∀ x, x < n → p x = true → r x = true) : ld_cnt p n ≤ ld_cnt r n := by
  induction n with
  | zero => exact Nat.le_refl 0
  | succ n ih =>
    have i := ih (fun x hx => h x (by omega))
    have hn := h n (by omega)
    rw [ld_cnt_s, ld_cnt_s]
    cases e : p n with
    | false => have : ld_b false = 0 := rfl; omega
    | true => rw [hn e]; omega
theorem ld_cnt_eq {p r : Nat → Bool} (n : Nat) (h : ∀ x, x < n → p x = r x) : ld_cnt p n = ld_cnt r n :=
  Nat.le_antisymm (ld_cnt_im n fun x hx e => (h x hx).symm.trans e) (ld_cnt_im n fun x hx e => (h x hx).trans e)
theorem ld_cnt_skip {p : Nat → Bool} {a b : Nat} (h : a ≤ b) (hf : ∀ x, a ≤ x → x < b → p x = false) : ld_cnt p b = ld_cnt p a := by
  induction b with
  | zero => rw [Nat.le_zero.mp h]
  | succ b ih =>
    by_cases e : a = b + 1
    · rw [e]
    · rw [ld_cnt_f (hf b (by omega) (by omega))]
      exact ih (by omega) (fun x h1 h2 => hf x h1 (by omega))
theorem ld_cnt_lt {p : Nat → Bool} {a b : Nat} (h : a < b) (ha : p a = true) : ld_cnt p a < ld_cnt p b := by
  have := ld_cnt_up p (a := a + 1) (b := b) h
  rw [ld_cnt_t ha] at this
  omega
theorem ld_cnt_inj {p : Nat → Bool} {a b : Nat} (ha : p a = true) (hb : p b = true) (e : ld_cnt p a = ld_cnt p b) : a = b := by
  rcases Nat.lt_trichotomy a b with h | h | h
  · have := ld_cnt_lt h ha; omega
  · exact h
  · have := ld_cnt_lt h hb; omega
theorem ld_cnt_ex {p : Nat → Bool} (N j : Nat) (h : j < ld_cnt p N) : ∃ q, q < N ∧ p q = true ∧ ld_cnt p q = j := by
  induction N with
  | zero => exact absurd h (Nat.not_lt_zero j)
  | succ N ih =>
    by_cases e : j < ld_cnt p N
    · obtain ⟨q, h1, h2⟩ := ih e
      exact ⟨q, by omega, h2⟩
    · cases c : p N with
      | false => rw [ld_cnt_f c] at h; exact absurd h e
      | true => rw [ld_cnt_t c] at h; exact ⟨N, by omega, c, by omega⟩
theorem ld_cnt_not (p : Nat → Bool) (n : Nat) : ld_cnt (fun x => !p x) n + ld_cnt p n = n := by
  induction n with
  | zero => rfl
  | succ n ih =>
    rw [ld_cnt_s, ld_cnt_s]
    cases p n with
    | false => have : ld_b false = 0 := rfl; have : ld_b (!false) = 1 := rfl; omega
    | true => have : ld_b true = 1 := rfl; have : ld_b (!true) = 0 := rfl; omega
theorem ld_b2 : ∀ a b m : Bool, (m = false → a = false ∧ b = false) → ld_b a + ld_b b ≤ ld_b m + ld_b (a && b) := by decide
theorem ld_b3 : ∀ a b c m : Bool, (m = false → a = false ∧ b = false ∧ c = false) → ld_b a + ld_b b + ld_b c ≤ ld_b m + ld_b (a && b) + ld_b (a && c) + ld_b (b && c) := by decide
theorem ld_b4 : ∀ a b c d m : Bool, (m = false → a = false ∧ b = false ∧ c = false ∧ d = false) → ld_b a + ld_b b + ld_b c + ld_b d ≤ ld_b m + ld_b (a && b) + ld_b (a && c) + ld_b (a && d) + ld_b (b && c) + ld_b (b && d) + ld_b (c && d) := by decide
theorem ld_f2 (A B M : Nat → Bool) (hM : ∀ x, M x = false → A x = false ∧ B x = false) (n : Nat) : ld_cnt A n + ld_cnt B n ≤ ld_cnt M n + ld_cnt (fun x => A x && B x) n := by
  induction n with
  | zero => exact Nat.le_refl 0
  | succ n ih =>
    have h := ld_b2 (A n) (B n) (M n) (hM n)
    simp only [ld_cnt_s]
    omega
theorem ld_f3 (A B C M : Nat → Bool) (hM : ∀ x, M x = false → A x = false ∧ B x = false ∧ C x = false) (n : Nat) : ld_cnt A n + ld_cnt B n + ld_cnt C n ≤ ld_cnt M n + ld_cnt (fun x => A x && B x) n + ld_cnt (fun x => A x && C x) n + ld_cnt (fun x => B x && C x) n := by
  induction n with
  | zero => exact Nat.le_refl 0
  | succ n ih =>
    have h := ld_b3 (A n) (B n) (C n) (M n) (hM n)
    simp only [ld_cnt_s]
    omega
theorem ld_f4 (A B C D M : Nat → Bool) (hM : ∀ x, M x = false → A x = false ∧ B x = false ∧ C x = false ∧ D x = false) (n : Nat) : ld_cnt A n + ld_cnt B n + ld_cnt C n + ld_cnt D n ≤ ld_cnt M n + ld_cnt (fun x => A x && B x) n + ld_cnt (fun x => A x && C x) n + ld_cnt (fun x => A x && D x) n + ld_cnt (fun x => B x && C x) n + ld_cnt (fun x => B x && D x) n + ld_cnt (fun x => C x && D x) n := by
  induction n with
  | zero => exact Nat.le_refl 0
  | succ n ih =>
    have h := ld_b4 (A n) (B n) (C n) (D n) (M n) (hM n)
    simp only [ld_cnt_s]
    omega
