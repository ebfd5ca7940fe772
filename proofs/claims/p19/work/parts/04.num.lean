/-! numbers as both sides print them -/
theorem ld_v {P : Int32 → Prop} {a b : Int32} (e : a = b) (h : P b) : P a := by rw [e]; exact h
theorem ld_rem {a : Nat} (ha : a < 2 ^ 31) : nI a - nI a / 13 * 13 = nI (a % 13) := pk_rem (d := 13) ha (by decide) (by decide)
theorem ld_div {a : Nat} (ha : a < 2 ^ 31) : nI a / 13 = nI (a / 13) := pk_div (d := 13) ha (by decide) (by decide)
theorem ld_div9 {a : Nat} (ha : a < 2 ^ 31) : nI a / 169 = nI (a / 169) := pk_div (d := 169) ha (by decide) (by decide)
theorem ld_rem2 {q : Nat} (hq : q < 2 ^ 31) : nI q / 13 - nI q / 13 / 13 * 13 = nI (q / 13 % 13) := by
  rw [ld_div hq]
  exact ld_rem (by omega)
theorem ld_bnd {a b c x : Nat} (ha : a < 13) (hb : b < 13) (hc : c < 13) (hx : x < 13) : a + b * x + c * x * x < 2 ^ 31 := by
  have h1 : b * x ≤ 12 * 12 := Nat.mul_le_mul (by omega) (by omega)
  have h2 : c * x ≤ 12 * 12 := Nat.mul_le_mul (by omega) (by omega)
  have h3 : c * x * x ≤ 12 * 12 * 12 := Nat.mul_le_mul h2 (by omega)
  omega
theorem ld_csI {a b c x : Nat} (ha : a < 13) (hb : b < 13) (hc : c < 13) (hx : x < 13) : ((nI a + (nI b * nI x)) + ((nI c * nI x) * nI x)) - ((nI a + (nI b * nI x)) + ((nI c * nI x) * nI x)) / 13 * 13 = nI (ld_cs a b c x) := by
  rw [pk_mul, pk_mul, pk_mul, nI_add, nI_add]
  exact ld_rem (ld_bnd ha hb hc hx)
theorem ld_num {a b c : Nat} : (nI a * 169 + nI b * 13) + nI c = nI (a * 169 + b * 13 + c) := by
  rw [show nI a * 169 = nI (a * 169) from pk_mul a 169, show nI b * 13 = nI (b * 13) from pk_mul b 13, nI_add, nI_add]
theorem ld_numq {q : Nat} : (nI (q / 169) * 169 + nI (q / 13 % 13) * 13) + nI (q % 13) = nI q := by
  rw [ld_num]
  exact congrArg nI (by omega)
theorem ld_one : ∀ n, n < 14 → (1 : Int32) <<< (nI n &&& 31) = nI (2 ^ n) := by decide +kernel
theorem ld_full : ∀ n, n < 14 → ((1 : Int32) <<< (nI n &&& 31)) - 1 = nI (2 ^ n - 1) := by decide +kernel
theorem ld_bits : ∀ n, n < 14 → ∀ x, x < n → ((nI (2 ^ n - 1)) >>> (nI x &&& 31)) &&& 1 = 1 := by decide +kernel
theorem ld_pow {n : Nat} (h : n < 14) : 2 ^ n ≤ 8192 := Nat.le_trans (Nat.pow_le_pow_right (by decide) (by omega : n ≤ 13)) (by decide)
theorem ld_clampB (p : Int32) (lo hi : Nat) (hlh : lo ≤ hi) (hh : hi < 2 ^ 31) : ∃ n, lo ≤ n ∧ n ≤ hi ∧ ∀ A : Int32 → Prop, A (nI n) → ((nI lo ≤ p → ((p ≤ nI hi → A p) ∧ (¬ p ≤ nI hi → A (nI hi)))) ∧ (¬ nI lo ≤ p → A (nI lo))) := by
  by_cases h1 : nI lo ≤ p
  · by_cases h2 : p ≤ nI hi
    · have h0 : ¬ p < 0 := by
        intro h
        have := nI_pos' (n := lo) (by omega)
        exact Int32.not_lt.mpr (Int32.le_trans this h1) h
      obtain ⟨j, hj, rfl⟩ := nI_of h0
      rw [nI_leI (by omega) hj] at h1
      rw [nI_leI hj hh] at h2
      refine ⟨j, h1, h2, fun A a => br_t (nI_le h1 hj) (br_t (nI_le h2 hh) a)⟩
    · exact ⟨hi, hlh, Nat.le_refl _, fun A a => br_t h1 (br_f h2 a)⟩
  · exact ⟨lo, Nat.le_refl _, hlh, fun A a => br_f h1 a⟩
/-- a position that is none, a position that is one: the reference's two tests -/
theorem ld_pb {p : Int32} {n : Nat} {A B : Prop} (hb : p < 0 ∨ nI n ≤ p) (a : A) : (p < 0 → A) ∧ (¬ p < 0 → ((p < nI n → B) ∧ (¬ p < nI n → A))) := by
  refine br_c (fun _ => a) fun h0 => ?_
  rcases hb with h | h
  · exact absurd h h0
  · exact br_f (Int32.not_lt.mpr h) a
theorem ld_pg {p : Int32} {j n : Nat} {A B : Prop} (hj : j < n) (hn : n < 2 ^ 31) (e : p = nI j) (b : B) : (p < 0 → A) ∧ (¬ p < 0 → ((p < nI n → B) ∧ (¬ p < nI n → A))) := by
  subst e
  exact br_f (nI_pos (by omega)) (br_t (nI_lt hj hn) b)
/-- the triple is a message -/
def ld_M (d : Nat) (p0 p1 p2 : Int32) : Prop := ∃ q, q < 2197 ∧ ld_msg d q = true ∧ p0 = nI (q / 169) ∧ p1 = nI (q / 13 % 13) ∧ p2 = nI (q % 13)
theorem ld_M_of {d a b c : Nat} (ha : a < 13) (hb : b < 13) (hc : c < 13) (h1 : 2 ≤ d ∨ b = 0) (h2 : 3 ≤ d ∨ c = 0) : ld_M d (nI a) (nI b) (nI c) := by
  have e1 : (169 * a + 13 * b + c) / 169 = a := by omega
  have e2 : (169 * a + 13 * b + c) / 13 % 13 = b := by omega
  have e3 : (169 * a + 13 * b + c) % 13 = c := by omega
  refine ⟨169 * a + 13 * b + c, by omega, ?_, ?_, ?_, ?_⟩
  · rw [ld_msg_iff, e2, e3]; exact ⟨h1, h2⟩
  · rw [e1]
  · rw [e2]
  · rw [e3]
theorem ld_M_to {d : Nat} {p0 p1 p2 : Int32} (h : ld_M d p0 p1 p2) : ∃ a b c, a < 13 ∧ b < 13 ∧ c < 13 ∧ p0 = nI a ∧ p1 = nI b ∧ p2 = nI c ∧ (2 ≤ d ∨ b = 0) ∧ (3 ≤ d ∨ c = 0) := by
  obtain ⟨q, hq, hm, e0, e1, e2⟩ := h
  rw [ld_msg_iff] at hm
  exact ⟨q / 169, q / 13 % 13, q % 13, by omega, by omega, by omega, e0, e1, e2, hm.1, hm.2⟩
theorem ld_qeq {q r : Nat} (hq : q < 2197) (hr : r < 2197) (e0 : nI (q / 169) = nI (r / 169)) (e1 : nI (q / 13 % 13) = nI (r / 13 % 13)) (e2 : nI (q % 13) = nI (r % 13)) : q = r := by
  rw [nI_eq (by omega) (by omega)] at e0 e1 e2
  omega
theorem ld_M_q {d q : Nat} (hq : q < 2197) : ld_M d (nI (q / 169)) (nI (q / 13 % 13)) (nI (q % 13)) ↔ ld_msg d q = true := by
  constructor
  · rintro ⟨r, hr, hm, e0, e1, e2⟩
    rw [ld_qeq hq hr e0 e1 e2]
    exact hm
  · exact fun hm => ⟨q, hq, hm, rfl, rfl, rfl⟩
theorem ld_out {p : Int32} {a n : Nat} (ha : a < n) (hn : n < 2 ^ 31) (hb : p < 0 ∨ nI n ≤ p) : ¬ p = nI a := by
  intro e
  subst e
  rcases hb with h | h
  · exact nI_pos (by omega) h
  · exact nI_ge ha hn h
/-- the word after the first i steps of a writing of message q into the positions of B -/
def ld_wr (B : Nat → Bool) (q : Nat) (w : Nat → Int32) : Nat → Nat → Int32
  | 0 => w
  | i + 1 => if B i = true then upd (ld_wr B q w i) i (nI (ld_code q i)) else ld_wr B q w i
theorem ld_wr_t {B : Nat → Bool} {q i : Nat} {w : Nat → Int32} (h : B i = true) : ld_wr B q w (i + 1) = upd (ld_wr B q w i) i (nI (ld_code q i)) := if_pos h
theorem ld_wr_f {B : Nat → Bool} {q i : Nat} {w : Nat → Int32} (h : B i = false) : ld_wr B q w (i + 1) = ld_wr B q w i := if_neg (by rw [h]; decide)
theorem ld_wr_hi {B : Nat → Bool} {q : Nat} {w : Nat → Int32} {i j : Nat} (h : i ≤ j) : ld_wr B q w i j = w j := by
  induction i with
  | zero => rfl
  | succ i ih =>
    cases e : B i with
    | false => rw [ld_wr_f e]; exact ih (by omega)
    | true => rw [ld_wr_t e, pk_un (by omega)]; exact ih (by omega)
theorem ld_wr_eq {B C : Nat → Bool} {q : Nat} {w : Nat → Int32} {i : Nat} (h : ∀ x, x < i → B x = C x) : ld_wr B q w i = ld_wr C q w i := by
  induction i with
  | zero => rfl
  | succ i ih =>
    have e := h i (by omega)
    have t := ih (fun x hx => h x (by omega))
    cases c : C i with
    | false => rw [ld_wr_f (e.trans c), ld_wr_f c]; exact t
    | true => rw [ld_wr_t (e.trans c), ld_wr_t c, t]
/-- every position below n is erased or holds a symbol -/
def ld_W (w : Nat → Int32) (n : Nat) : Prop := ∀ x, x < n → w x = -1 ∨ ∃ s, s < 13 ∧ w x = nI s
theorem ld_W_upd {w : Nat → Int32} {n j : Nat} {z : Int32} (h : ld_W w n) (hz : z = -1 ∨ ∃ s, s < 13 ∧ z = nI s) : ld_W (upd w j z) n := by
  intro x hx
  by_cases e : x = j
  · rw [e, pk_us]; exact hz
  · rw [pk_un e]; exact h x hx
theorem ld_W_wr {B : Nat → Bool} {q : Nat} {w : Nat → Int32} {n : Nat} (h : ld_W w n) (i : Nat) : ld_W (ld_wr B q w i) n := by
  induction i with
  | zero => exact h
  | succ i ih =>
    cases e : B i with
    | false => rw [ld_wr_f e]; exact ih
    | true => rw [ld_wr_t e]; exact ld_W_upd ih (Or.inr ⟨_, ld_code_lt q i, rfl⟩)
def ld_in : Nat → Nat → Int32
  | 0 => fun _ => 0
  | i + 1 => upd (ld_in i) i (-1)
theorem ld_in_lo {i x : Nat} (h : x < i) : ld_in i x = -1 := by
  induction i with
  | zero => exact absurd h (Nat.not_lt_zero x)
  | succ i ih =>
    by_cases e : x = i
    · rw [e]; exact pk_us
    · exact (pk_un e).trans (ih (by omega))
