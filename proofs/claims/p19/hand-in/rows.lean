section
theorem wb_tb (n : Nat) : (lN n).toBitVec = BitVec.ofNat 64 n := rfl
theorem wb_inj {a b : Int64} (h : a.toBitVec = b.toBitVec) : a = b := Int64.toBitVec_inj.mp h
theorem wb_tn {n : Nat} (h : n < 2 ^ 64) : (lN n).toBitVec.toNat = n := by rw [wb_tb, BitVec.toNat_ofNat, Nat.mod_eq_of_lt h]
theorem wb_c : ∀ k, k < 64 → ((nI k).toInt64 &&& 63) = lN k := by decide +kernel
theorem wb_cu : ∀ k, k < 64 → ((nI k).toInt64.toUInt64 &&& Int64.toUInt64 63) = UInt64.ofNat k := by decide +kernel
theorem wb_sm : ∀ k, k < 64 → (BitVec.ofNat 64 k).smod 64 = BitVec.ofNat 64 k := by decide +kernel
theorem wb_pw {a b : Nat} (h : a ≤ b) : 2 ^ b = 2 ^ a * 2 ^ (b - a) := by rw [← Nat.pow_add]; congr 1; omega
theorem wb_lt2 {a b : Nat} (h : a < b) : 2 ^ a < 2 ^ b := Nat.pow_lt_pow_right (by decide) h
theorem wb_mod (n : Nat) : lN n = lN (n % 2 ^ 64) := wb_inj (by rw [wb_tb, wb_tb]; apply BitVec.eq_of_toNat_eq; rw [BitVec.toNat_ofNat, BitVec.toNat_ofNat, Nat.mod_mod])
theorem wb_shr {n k : Nat} (hn : n < 2 ^ 64) (hk : k < 64) : ((lN n).toUInt64 >>> ((nI k).toInt64.toUInt64 &&& Int64.toUInt64 63)).toInt64 = lN (n / 2 ^ k) := by
  rw [wb_cu k hk]
  apply wb_inj
  apply BitVec.eq_of_toNat_eq
  show ((lN n).toUInt64 >>> UInt64.ofNat k).toNat = (BitVec.ofNat 64 _).toNat
  have h1 : (UInt64.ofNat k).toNat = k := by
    show (BitVec.ofNat 64 k).toNat = k
    rw [BitVec.toNat_ofNat, Nat.mod_eq_of_lt (by omega)]
  have h2 : (lN n).toUInt64.toNat = n := wb_tn hn
  rw [UInt64.toNat_shiftRight, h1, h2, Nat.mod_eq_of_lt hk, Nat.shiftRight_eq_div_pow, BitVec.toNat_ofNat, Nat.mod_eq_of_lt (Nat.lt_of_le_of_lt (Nat.div_le_self _ _) hn)]
theorem wb_shl (n : Nat) {k : Nat} (hk : k < 64) : lN n <<< ((nI k).toInt64 &&& 63) = lN (n * 2 ^ k) := by
  rw [wb_c k hk]
  apply wb_inj
  rw [Int64.toBitVec_shiftLeft, wb_tb, wb_tb, wb_tb, wb_sm k hk]
  apply BitVec.eq_of_toNat_eq
  rw [BitVec.shiftLeft_eq', BitVec.toNat_shiftLeft, BitVec.toNat_ofNat, BitVec.toNat_ofNat, BitVec.toNat_ofNat, Nat.mod_eq_of_lt (show k < 2 ^ 64 by omega), Nat.shiftLeft_eq, Nat.mul_mod, Nat.mod_mod, ← Nat.mul_mod]
theorem wb_and {a b : Nat} (ha : a < 2 ^ 64) (hb : b < 2 ^ 64) : lN a &&& lN b = lN (a &&& b) := by
  apply wb_inj
  rw [Int64.toBitVec_and, wb_tb, wb_tb, wb_tb]
  apply BitVec.eq_of_toNat_eq
  rw [BitVec.toNat_and, BitVec.toNat_ofNat, BitVec.toNat_ofNat, BitVec.toNat_ofNat, Nat.mod_eq_of_lt ha, Nat.mod_eq_of_lt hb, Nat.mod_eq_of_lt (Nat.and_lt_two_pow _ hb)]
theorem wb_or {a b : Nat} (ha : a < 2 ^ 64) (hb : b < 2 ^ 64) : lN a ||| lN b = lN (a ||| b) := by
  apply wb_inj
  rw [Int64.toBitVec_or, wb_tb, wb_tb, wb_tb]
  apply BitVec.eq_of_toNat_eq
  rw [BitVec.toNat_or, BitVec.toNat_ofNat, BitVec.toNat_ofNat, BitVec.toNat_ofNat, Nat.mod_eq_of_lt ha, Nat.mod_eq_of_lt hb, Nat.mod_eq_of_lt (Nat.or_lt_two_pow ha hb)]
theorem wb_mask {n k : Nat} (hn : n < 2 ^ 64) (hk : k < 64) : lN n &&& lN (2 ^ k - 1) = lN (n % 2 ^ k) := by
  rw [wb_and hn (by have := wb_lt2 hk; omega), Nat.and_two_pow_sub_one_eq_mod]
theorem u_tn {n : Nat} (h : n < 2 ^ 64) : (UInt64.ofNat n).toNat = n := Nat.mod_eq_of_lt h
theorem g_or {k p a b : Nat} (hp : 2 ^ k = p) (ha : a < p) (h : b * p + a < 2 ^ 64) : lN (b * p) ||| lN a = lN (b * p + a) := by
  subst hp
  have h1 : b * 2 ^ k ||| a = b * 2 ^ k + a := by rw [← Nat.shiftLeft_eq, Nat.shiftLeft_add_eq_or_of_lt ha]
  have h3 : UInt64.ofNat (b * 2 ^ k) ||| UInt64.ofNat a = UInt64.ofNat (b * 2 ^ k + a) := UInt64.toNat_inj.mp (by rw [UInt64.toNat_or, u_tn (by omega), u_tn (by omega), u_tn h, h1])
  have h2 := congrArg UInt64.toInt64 h3
  exact h2
theorem g_or' {k p a b : Nat} (hp : 2 ^ k = p) (ha : a < p) (h : a + b * p < 2 ^ 64) : lN a ||| lN (b * p) = lN (a + b * p) := by
  rw [Int64.or_comm, g_or hp ha (by omega), Nat.add_comm]
end
section
/-! counting: ld_cnt p n is how many x below n have p -/
def ld_b : Bool → Nat
  | true => 1
  | false => 0
def ld_cnt (p : Nat → Bool) : Nat → Nat
  | 0 => 0
  | n + 1 => ld_cnt p n + ld_b (p n)
theorem ld_cnt_s (p : Nat → Bool) (n : Nat) : ld_cnt p (n + 1) = ld_cnt p n + ld_b (p n) := rfl
theorem ld_cnt_t {p : Nat → Bool} {n : Nat} (h : p n = true) : ld_cnt p (n + 1) = ld_cnt p n + 1 := by
  rw [ld_cnt_s, h]; rfl
theorem ld_cnt_f {p : Nat → Bool} {n : Nat} (h : p n = false) : ld_cnt p (n + 1) = ld_cnt p n := by
  rw [ld_cnt_s, h]; rfl
theorem ld_b_le (b : Bool) : ld_b b ≤ 1 := by cases b <;> decide
theorem ld_cnt_le (p : Nat → Bool) (n : Nat) : ld_cnt p n ≤ n := by
  induction n with
  | zero => exact Nat.le_refl 0
  | succ n ih => have := ld_b_le (p n); rw [ld_cnt_s]; omega
theorem ld_cnt_up (p : Nat → Bool) {a b : Nat} (h : a ≤ b) : ld_cnt p a ≤ ld_cnt p b := by
  induction b with
  | zero => rw [Nat.le_zero.mp h]; exact Nat.le_refl _
  | succ b ih =>
    by_cases e : a = b + 1
    · rw [e]; exact Nat.le_refl _
    · have := ih (by omega); rw [ld_cnt_s]; omega
theorem ld_cnt_im {p r : Nat → Bool} (n : Nat) (h : ∀ x, x < n → p x = true → r x = true) : ld_cnt p n ≤ ld_cnt r n := by
  induction n with
  | zero => exact Nat.le_refl 0
  | succ n ih =>
    have i := ih (fun x hx => h x (by omega))
    have hn := h n (by omega)
    rw [ld_cnt_s, ld_cnt_s]
    cases e : p n with
    | false => have : ld_b false = 0 := rfl; omega
    | true => rw [hn e]; omega
theorem ld_cnt_eq {p r : Nat → Bool} (n : Nat) (h : ∀ x, x < n → p x = r x) : ld_cnt p n = ld_cnt r n :=
  Nat.le_antisymm (ld_cnt_im n fun x hx e => (h x hx).symm.trans e) (ld_cnt_im n fun x hx e => (h x hx).trans e)
theorem ld_cnt_skip {p : Nat → Bool} {a b : Nat} (h : a ≤ b) (hf : ∀ x, a ≤ x → x < b → p x = false) : ld_cnt p b = ld_cnt p a := by
  induction b with
  | zero => rw [Nat.le_zero.mp h]
  | succ b ih =>
    by_cases e : a = b + 1
    · rw [e]
    · rw [ld_cnt_f (hf b (by omega) (by omega))]
      exact ih (by omega) (fun x h1 h2 => hf x h1 (by omega))
theorem ld_cnt_lt {p : Nat → Bool} {a b : Nat} (h : a < b) (ha : p a = true) : ld_cnt p a < ld_cnt p b := by
  have := ld_cnt_up p (a := a + 1) (b := b) h
  rw [ld_cnt_t ha] at this
  omega
theorem ld_cnt_inj {p : Nat → Bool} {a b : Nat} (ha : p a = true) (hb : p b = true) (e : ld_cnt p a = ld_cnt p b) : a = b := by
  rcases Nat.lt_trichotomy a b with h | h | h
  · have := ld_cnt_lt h ha; omega
  · exact h
  · have := ld_cnt_lt h hb; omega
theorem ld_cnt_ex {p : Nat → Bool} (N j : Nat) (h : j < ld_cnt p N) : ∃ q, q < N ∧ p q = true ∧ ld_cnt p q = j := by
  induction N with
  | zero => exact absurd h (Nat.not_lt_zero j)
  | succ N ih =>
    by_cases e : j < ld_cnt p N
    · obtain ⟨q, h1, h2⟩ := ih e
      exact ⟨q, by omega, h2⟩
    · cases c : p N with
      | false => rw [ld_cnt_f c] at h; exact absurd h e
      | true => rw [ld_cnt_t c] at h; exact ⟨N, by omega, c, by omega⟩
theorem ld_cnt_not (p : Nat → Bool) (n : Nat) : ld_cnt (fun x => !p x) n + ld_cnt p n = n := by
  induction n with
  | zero => rfl
  | succ n ih =>
    rw [ld_cnt_s, ld_cnt_s]
    cases p n with
    | false => have : ld_b false = 0 := rfl; have : ld_b (!false) = 1 := rfl; omega
    | true => have : ld_b true = 1 := rfl; have : ld_b (!true) = 0 := rfl; omega
theorem ld_b2 : ∀ a b m : Bool, (m = false → a = false ∧ b = false) → ld_b a + ld_b b ≤ ld_b m + ld_b (a && b) := by decide
theorem ld_b3 : ∀ a b c m : Bool, (m = false → a = false ∧ b = false ∧ c = false) → ld_b a + ld_b b + ld_b c ≤ ld_b m + ld_b (a && b) + ld_b (a && c) + ld_b (b && c) := by decide
theorem ld_b4 : ∀ a b c d m : Bool, (m = false → a = false ∧ b = false ∧ c = false ∧ d = false) → ld_b a + ld_b b + ld_b c + ld_b d ≤ ld_b m + ld_b (a && b) + ld_b (a && c) + ld_b (a && d) + ld_b (b && c) + ld_b (b && d) + ld_b (c && d) := by decide
theorem ld_f2 (A B M : Nat → Bool) (hM : ∀ x, M x = false → A x = false ∧ B x = false) (n : Nat) : ld_cnt A n + ld_cnt B n ≤ ld_cnt M n + ld_cnt (fun x => A x && B x) n := by
  induction n with
  | zero => exact Nat.le_refl 0
  | succ n ih =>
    have h := ld_b2 (A n) (B n) (M n) (hM n)
    simp only [ld_cnt_s]
    omega
theorem ld_f3 (A B C M : Nat → Bool) (hM : ∀ x, M x = false → A x = false ∧ B x = false ∧ C x = false) (n : Nat) : ld_cnt A n + ld_cnt B n + ld_cnt C n ≤ ld_cnt M n + ld_cnt (fun x => A x && B x) n + ld_cnt (fun x => A x && C x) n + ld_cnt (fun x => B x && C x) n := by
  induction n with
  | zero => exact Nat.le_refl 0
  | succ n ih =>
    have h := ld_b3 (A n) (B n) (C n) (M n) (hM n)
    simp only [ld_cnt_s]
    omega
theorem ld_f4 (A B C D M : Nat → Bool) (hM : ∀ x, M x = false → A x = false ∧ B x = false ∧ C x = false ∧ D x = false) (n : Nat) : ld_cnt A n + ld_cnt B n + ld_cnt C n + ld_cnt D n ≤ ld_cnt M n + ld_cnt (fun x => A x && B x) n + ld_cnt (fun x => A x && C x) n + ld_cnt (fun x => A x && D x) n + ld_cnt (fun x => B x && C x) n + ld_cnt (fun x => B x && D x) n + ld_cnt (fun x => C x && D x) n := by
  induction n with
  | zero => exact Nat.le_refl 0
  | succ n ih =>
    have h := ld_b4 (A n) (B n) (C n) (D n) (M n) (hM n)
    simp only [ld_cnt_s]
    omega
end
section
/-! the code: messages by number q = 169 c0 + 13 c1 + c2, agreement, the list -/
def ld_cs (a b c x : Nat) : Nat := (a + b * x + c * x * x) % 13
def ld_code (q x : Nat) : Nat := ld_cs (q / 169) (q / 13 % 13) (q % 13) x
theorem ld_cs_lt (a b c x : Nat) : ld_cs a b c x < 13 := Nat.mod_lt _ (by decide)
theorem ld_code_lt (q x : Nat) : ld_code q x < 13 := Nat.mod_lt _ (by decide)
def ld_agB (w : Nat → Int32) (q x : Nat) : Bool := decide (w x = nI (ld_code q x))
def ld_ag (w : Nat → Int32) (n q : Nat) : Nat := ld_cnt (ld_agB w q) n
def ld_rcB (w : Nat → Int32) (x : Nat) : Bool := decide (¬ w x = -1)
def ld_m (w : Nat → Int32) (n : Nat) : Nat := ld_cnt (ld_rcB w) n
def ld_msg (k q : Nat) : Bool := decide ((2 ≤ k ∨ q / 13 % 13 = 0) ∧ (3 ≤ k ∨ q % 13 = 0))
def ld_ls (k : Nat) (w : Nat → Int32) (n t q : Nat) : Bool := ld_msg k q && decide (t ≤ ld_ag w n q)
def ld_rk (k : Nat) (w : Nat → Int32) (n t q : Nat) : Nat := ld_cnt (ld_ls k w n t) q
def ld_low (k m : Nat) : Nat :=
  if k = 1 ∨ m = 0 then 1
  else if k = 2 then (if m ≤ 2 then 2 else if m ≤ 5 then 3 else if m ≤ 9 then 4 else 5)
  else (if m ≤ 1 then 2 else if m ≤ 3 then 3 else if m ≤ 5 then 4 else if m ≤ 8 then 5 else if m ≤ 11 then 6 else 7)
theorem ld_msg_iff {k q : Nat} : ld_msg k q = true ↔ (2 ≤ k ∨ q / 13 % 13 = 0) ∧ (3 ≤ k ∨ q % 13 = 0) := decide_eq_true_iff
theorem ld_ls_iff {k : Nat} {w : Nat → Int32} {n t q : Nat} : ld_ls k w n t q = true ↔ ld_msg k q = true ∧ t ≤ ld_ag w n q := by
  unfold ld_ls
  rw [Bool.and_eq_true, decide_eq_true_iff]
theorem ld_root : ∀ a, a < 13 → ∀ b, b < 13 → ∀ c, c < 13 → (a = 0 ∧ b = 0 ∧ c = 0) ∨ ld_cnt (fun x => decide (ld_cs a b c x = 0)) 13 ≤ (if c = 0 then (if b = 0 then 0 else 1) else 2) := by
  decide +kernel
theorem ld_dif (a a' : Nat) (h : a < 13) (h' : a' < 13) : ∃ d, d < 13 ∧ (a = a' + d ∨ a + 13 = a' + d) ∧ (d = 0 → a = a') ∧ (a = a' → d = 0) := by
  by_cases e : a' ≤ a
  · exact ⟨a - a', by omega, by omega, by omega, by omega⟩
  · exact ⟨a + 13 - a', by omega, by omega, by omega, by omega⟩
theorem ld_lin {u u' v : Nat} (h : u % 13 = u' % 13) (e : ∃ j i, u + 13 * j = u' + v + 13 * i) : v % 13 = 0 := by
  obtain ⟨j, i, e⟩ := e
  omega
theorem ld_dsub {x a b c a' b' c' d e f : Nat} (ha : a = a' + d ∨ a + 13 = a' + d) (hb : b = b' + e ∨ b + 13 = b' + e) (hc : c = c' + f ∨ c + 13 = c' + f) (h : ld_cs a b c x = ld_cs a' b' c' x) : ld_cs d e f x = 0 := by
  refine ld_lin h ?_
  have h1 : ∃ j, a + 13 * j = a' + d := by
    rcases ha with ha | ha
    · exact ⟨0, by omega⟩
    · exact ⟨1, by omega⟩
  have h2 : ∃ j, b * x + 13 * j = b' * x + e * x := by
    rcases hb with hb | hb
    · exact ⟨0, by rw [hb, Nat.add_mul]; omega⟩
    · exact ⟨x, by rw [← Nat.add_mul, ← Nat.add_mul, hb]⟩
  have h3 : ∃ j, c * x * x + 13 * j = c' * x * x + f * x * x := by
    rcases hc with hc | hc
    · exact ⟨0, by rw [hc, Nat.add_mul, Nat.add_mul]; omega⟩
    · exact ⟨x * x, by rw [← Nat.mul_assoc, ← Nat.add_mul, ← Nat.add_mul, ← Nat.add_mul, ← Nat.add_mul, hc]⟩
  obtain ⟨j1, h1⟩ := h1
  obtain ⟨j2, h2⟩ := h2
  obtain ⟨j3, h3⟩ := h3
  exact ⟨j1 + j2 + j3, 0, by omega⟩
theorem ld_pair {k q r : Nat} (hk : 2 ≤ k) (hk3 : k ≤ 3) (hq : q < 2197) (hr : r < 2197) (hn : q ≠ r) (mq : ld_msg k q = true) (mr : ld_msg k r = true) : ld_cnt (fun x => decide (ld_code q x = ld_code r x)) 13 ≤ k - 1 := by
  rw [ld_msg_iff] at mq mr
  obtain ⟨d, hd, ed, d1, d2⟩ := ld_dif (q / 169) (r / 169) (by omega) (by omega)
  obtain ⟨e, he, ee, e1, e2⟩ := ld_dif (q / 13 % 13) (r / 13 % 13) (by omega) (by omega)
  obtain ⟨f, hf, ef, f1, f2⟩ := ld_dif (q % 13) (r % 13) (by omega) (by omega)
  have hi : ld_cnt (fun x => decide (ld_code q x = ld_code r x)) 13 ≤ ld_cnt (fun x => decide (ld_cs d e f x = 0)) 13 :=
    ld_cnt_im 13 fun x _ h => decide_eq_true (ld_dsub ed ee ef (of_decide_eq_true h))
  rcases ld_root d hd e he f hf with z | z
  · exfalso
    have := d1 z.1
    have := e1 z.2.1
    have := f1 z.2.2
    omega
  · by_cases f0 : f = 0
    · rw [if_pos f0] at z
      by_cases e0 : e = 0
      · rw [if_pos e0] at z; omega
      · rw [if_neg e0] at z; omega
    · rw [if_neg f0] at z
      have : ¬ (q % 13 = r % 13) := fun h => f0 (f2 h)
      omega
theorem ld_neg1 {s : Nat} (hs : s < 13) : ¬ nI s = -1 := by
  intro h
  have h1 := nI_toInt (n := s) (by omega)
  rw [h] at h1
  have h2 : (-1 : Int32).toInt = -1 := by decide
  omega
theorem ld_both {w : Nat → Int32} {n q r : Nat} (hn : n ≤ 13) : ld_cnt (fun x => ld_agB w q x && ld_agB w r x) n ≤ ld_cnt (fun x => decide (ld_code q x = ld_code r x)) 13 := by
  refine Nat.le_trans (ld_cnt_up _ hn) (ld_cnt_im 13 fun x _ h => ?_)
  have h' : ld_agB w q x = true ∧ ld_agB w r x = true := by
    have := h
    rw [Bool.and_eq_true] at this
    exact this
  have a := of_decide_eq_true h'.1
  have b := of_decide_eq_true h'.2
  have := ld_code_lt q x
  have := ld_code_lt r x
  exact decide_eq_true ((nI_eq (by omega) (by omega)).mp (a.symm.trans b))
theorem ld_rcA {w : Nat → Int32} {x : Nat} (q : Nat) (h : ld_rcB w x = false) : ld_agB w q x = false := by
  have h1 : w x = -1 := Decidable.of_not_not (of_decide_eq_false h)
  refine decide_eq_false fun e => ?_
  exact ld_neg1 (ld_code_lt q x) (e.symm.trans h1)
theorem ld_low2 : ∀ m, m < 14 → m + 6 < 4 * ld_low 2 m ∨ m + 1 < 2 * ld_low 2 m ∨ m < ld_low 2 m := by decide
theorem ld_low3 : ∀ m, m < 14 → m + 6 < 3 * ld_low 3 m ∨ m + 2 < 2 * ld_low 3 m ∨ m < ld_low 3 m := by decide
theorem ld_low_pos (k m : Nat) : 1 ≤ ld_low k m ∧ ld_low k m ≤ 7 := by
  unfold ld_low
  repeat' split
  all_goals decide
theorem ld_rk1 {w : Nat → Int32} {n t : Nat} : ∀ q, ld_cnt (ld_ls 1 w n t) q ≤ (q + 168) / 169 := by
  intro q
  induction q with
  | zero => exact Nat.zero_le _
  | succ q ih =>
    cases e : ld_ls 1 w n t q with
    | false => rw [ld_cnt_f e]; omega
    | true =>
      have h := (ld_ls_iff.mp e).1
      rw [ld_msg_iff] at h
      rw [ld_cnt_t e]
      omega
/-- the list of an accepted threshold has at most 13 entries -/
theorem ld_bound {k n t : Nat} {w : Nat → Int32} (hk1 : 1 ≤ k) (hk3 : k ≤ 3) (hn : n ≤ 13) (ht : ld_low k (ld_m w n) ≤ t) : ld_rk k w n t 2197 ≤ 13 := by
  have hm : ld_m w n ≤ 13 := Nat.le_trans (ld_cnt_le _ _) hn
  have hM := fun (x q : Nat) (h : ld_rcB w x = false) => ld_rcA (w := w) (x := x) q h
  by_cases k1 : k = 1
  · subst k1
    have := ld_rk1 (w := w) (n := n) (t := t) 2197
    unfold ld_rk
    omega
  · refine Nat.le_of_not_lt fun hc => ?_
    obtain ⟨q0, h0, l0, r0⟩ := ld_cnt_ex (p := ld_ls k w n t) 2197 0 (Nat.lt_of_le_of_lt (by decide) hc)
    obtain ⟨q1, h1, l1, r1⟩ := ld_cnt_ex (p := ld_ls k w n t) 2197 1 (Nat.lt_of_le_of_lt (by decide) hc)
    obtain ⟨q2, h2, l2, r2⟩ := ld_cnt_ex (p := ld_ls k w n t) 2197 2 (Nat.lt_of_le_of_lt (by decide) hc)
    obtain ⟨q3, h3, l3, r3⟩ := ld_cnt_ex (p := ld_ls k w n t) 2197 3 (Nat.lt_of_le_of_lt (by decide) hc)
    have n01 : q0 ≠ q1 := fun e => by rw [e, r1] at r0; omega
    have n02 : q0 ≠ q2 := fun e => by rw [e, r2] at r0; omega
    have n03 : q0 ≠ q3 := fun e => by rw [e, r3] at r0; omega
    have n12 : q1 ≠ q2 := fun e => by rw [e, r2] at r1; omega
    have n13 : q1 ≠ q3 := fun e => by rw [e, r3] at r1; omega
    have n23 : q2 ≠ q3 := fun e => by rw [e, r3] at r2; omega
    rw [ld_ls_iff] at l0 l1 l2 l3
    have hb := fun (q r : Nat) (hq : q < 2197) (hr : r < 2197) (hne : q ≠ r) (mq : ld_msg k q = true) (mr : ld_msg k r = true) => Nat.le_trans (ld_both (w := w) (q := q) (r := r) hn) (ld_pair (by omega) hk3 hq hr hne mq mr)
    have b01 := hb q0 q1 h0 h1 n01 l0.1 l1.1
    have b02 := hb q0 q2 h0 h2 n02 l0.1 l2.1
    have b03 := hb q0 q3 h0 h3 n03 l0.1 l3.1
    have b12 := hb q1 q2 h1 h2 n12 l1.1 l2.1
    have b13 := hb q1 q3 h1 h3 n13 l1.1 l3.1
    have b23 := hb q2 q3 h2 h3 n23 l2.1 l3.1
    have g0 := l0.2
    have g1 := l1.2
    have g2 := l2.2
    have g3 := l3.2
    unfold ld_ag at g0 g1 g2 g3
    have f1 := ld_cnt_im (p := ld_agB w q0) (r := ld_rcB w) n fun x _ h => by
      cases e : ld_rcB w x with
      | true => rfl
      | false => rw [hM x q0 e] at h; exact h
    have f2 := ld_f2 (ld_agB w q0) (ld_agB w q1) (ld_rcB w) (fun x h => ⟨hM x q0 h, hM x q1 h⟩) n
    have f3 := ld_f3 (ld_agB w q0) (ld_agB w q1) (ld_agB w q2) (ld_rcB w) (fun x h => ⟨hM x q0 h, hM x q1 h, hM x q2 h⟩) n
    have f4 := ld_f4 (ld_agB w q0) (ld_agB w q1) (ld_agB w q2) (ld_agB w q3) (ld_rcB w) (fun x h => ⟨hM x q0 h, hM x q1 h, hM x q2 h, hM x q3 h⟩) n
    have em : ld_cnt (ld_rcB w) n = ld_m w n := rfl
    rw [em] at f1 f2 f3 f4
    by_cases k2 : k = 2
    · subst k2
      have := ld_low2 (ld_m w n) (by omega)
      clear hM hb f3 r0 r1 r2 r3 l0 l1 l2 l3 hc n01 n02 n03 n12 n13 n23
      omega
    · have k3 : k = 3 := by omega
      subst k3
      have := ld_low3 (ld_m w n) (by omega)
      clear hM hb f4 r0 r1 r2 r3 l0 l1 l2 l3 hc n01 n02 n03 n12 n13 n23
      omega
/-- X's four rows hold the listed messages below N, each at its rank -/
def ld_L (k : Nat) (w : Nat → Int32) (n t N : Nat) (a0 a1 a2 g : Nat → Int32) : Prop :=
  ∀ q, q < N → ld_ls k w n t q = true → a0 (ld_rk k w n t q) = nI (q / 169) ∧ a1 (ld_rk k w n t q) = nI (q / 13 % 13) ∧ a2 (ld_rk k w n t q) = nI (q % 13) ∧ g (ld_rk k w n t q) = nI (ld_ag w n q)
theorem ld_L_0 {k : Nat} {w : Nat → Int32} {n t : Nat} {a0 a1 a2 g : Nat → Int32} : ld_L k w n t 0 a0 a1 a2 g := fun q h => absurd h (Nat.not_lt_zero q)
theorem ld_L_skip {k : Nat} {w : Nat → Int32} {n t N M : Nat} {a0 a1 a2 g : Nat → Int32} (h : ld_L k w n t N a0 a1 a2 g) (hf : ∀ x, N ≤ x → x < M → ld_ls k w n t x = false) : ld_L k w n t M a0 a1 a2 g := by
  intro q hq hl
  by_cases e : q < N
  · exact h q e hl
  · rw [hf q (by omega) hq] at hl
    exact Bool.noConfusion hl
theorem ld_L_add {k : Nat} {w : Nat → Int32} {n t N : Nat} {a0 a1 a2 g : Nat → Int32} (h : ld_L k w n t N a0 a1 a2 g) : ld_L k w n t (N + 1) (upd a0 (ld_rk k w n t N) (nI (N / 169))) (upd a1 (ld_rk k w n t N) (nI (N / 13 % 13))) (upd a2 (ld_rk k w n t N) (nI (N % 13))) (upd g (ld_rk k w n t N) (nI (ld_ag w n N))) := by
  intro q hq hl
  by_cases e : q = N
  · subst e
    exact ⟨pk_us, pk_us, pk_us, pk_us⟩
  · have hlt : ld_rk k w n t q < ld_rk k w n t N := ld_cnt_lt (p := ld_ls k w n t) (by omega) hl
    have hne : ld_rk k w n t q ≠ ld_rk k w n t N := by omega
    rw [pk_un hne, pk_un hne, pk_un hne, pk_un hne]
    exact h q (by omega) hl
end
section
/-! numbers as both sides print them -/
theorem ld_v {P : Int32 → Prop} {a b : Int32} (e : a = b) (h : P b) : P a := by rw [e]; exact h
theorem ld_rem {a : Nat} (ha : a < 2 ^ 31) : nI a - nI a / 13 * 13 = nI (a % 13) := pk_rem (d := 13) ha (by decide) (by decide)
theorem ld_div {a : Nat} (ha : a < 2 ^ 31) : nI a / 13 = nI (a / 13) := pk_div (d := 13) ha (by decide) (by decide)
theorem ld_div9 {a : Nat} (ha : a < 2 ^ 31) : nI a / 169 = nI (a / 169) := pk_div (d := 169) ha (by decide) (by decide)
theorem ld_rem2 {q : Nat} (hq : q < 2 ^ 31) : nI q / 13 - nI q / 13 / 13 * 13 = nI (q / 13 % 13) := by
  rw [ld_div hq]
  exact ld_rem (by omega)
theorem ld_bnd {a b c x : Nat} (ha : a < 13) (hb : b < 13) (hc : c < 13) (hx : x < 13) : a + b * x + c * x * x < 2 ^ 31 := by
  have h1 : b * x ≤ 12 * 12 := Nat.mul_le_mul (by omega) (by omega)
  have h2 : c * x ≤ 12 * 12 := Nat.mul_le_mul (by omega) (by omega)
  have h3 : c * x * x ≤ 12 * 12 * 12 := Nat.mul_le_mul h2 (by omega)
  omega
theorem ld_csI {a b c x : Nat} (ha : a < 13) (hb : b < 13) (hc : c < 13) (hx : x < 13) : ((nI a + (nI b * nI x)) + ((nI c * nI x) * nI x)) - ((nI a + (nI b * nI x)) + ((nI c * nI x) * nI x)) / 13 * 13 = nI (ld_cs a b c x) := by
  rw [pk_mul, pk_mul, pk_mul, nI_add, nI_add]
  exact ld_rem (ld_bnd ha hb hc hx)
theorem ld_num {a b c : Nat} : (nI a * 169 + nI b * 13) + nI c = nI (a * 169 + b * 13 + c) := by
  rw [show nI a * 169 = nI (a * 169) from pk_mul a 169, show nI b * 13 = nI (b * 13) from pk_mul b 13, nI_add, nI_add]
theorem ld_numq {q : Nat} : (nI (q / 169) * 169 + nI (q / 13 % 13) * 13) + nI (q % 13) = nI q := by
  rw [ld_num]
  exact congrArg nI (by omega)
theorem ld_one : ∀ n, n < 14 → (1 : Int32) <<< (nI n &&& 31) = nI (2 ^ n) := by decide +kernel
theorem ld_full : ∀ n, n < 14 → ((1 : Int32) <<< (nI n &&& 31)) - 1 = nI (2 ^ n - 1) := by decide +kernel
theorem ld_bits : ∀ n, n < 14 → ∀ x, x < n → ((nI (2 ^ n - 1)) >>> (nI x &&& 31)) &&& 1 = 1 := by decide +kernel
theorem ld_pow {n : Nat} (h : n < 14) : 2 ^ n ≤ 8192 := Nat.le_trans (Nat.pow_le_pow_right (by decide) (by omega : n ≤ 13)) (by decide)
theorem ld_clampB (p : Int32) (lo hi : Nat) (hlh : lo ≤ hi) (hh : hi < 2 ^ 31) : ∃ n, lo ≤ n ∧ n ≤ hi ∧ ∀ A : Int32 → Prop, A (nI n) → ((nI lo ≤ p → ((p ≤ nI hi → A p) ∧ (¬ p ≤ nI hi → A (nI hi)))) ∧ (¬ nI lo ≤ p → A (nI lo))) := by
  by_cases h1 : nI lo ≤ p
  · by_cases h2 : p ≤ nI hi
    · have h0 : ¬ p < 0 := by
        intro h
        have := nI_pos' (n := lo) (by omega)
        exact Int32.not_lt.mpr (Int32.le_trans this h1) h
      obtain ⟨j, hj, rfl⟩ := nI_of h0
      rw [nI_leI (by omega) hj] at h1
      rw [nI_leI hj hh] at h2
      refine ⟨j, h1, h2, fun A a => br_t (nI_le h1 hj) (br_t (nI_le h2 hh) a)⟩
    · exact ⟨hi, hlh, Nat.le_refl _, fun A a => br_t h1 (br_f h2 a)⟩
  · exact ⟨lo, Nat.le_refl _, hlh, fun A a => br_f h1 a⟩
/-- a position that is none, a position that is one: the reference's two tests -/
theorem ld_pb {p : Int32} {n : Nat} {A B : Prop} (hb : p < 0 ∨ nI n ≤ p) (a : A) : (p < 0 → A) ∧ (¬ p < 0 → ((p < nI n → B) ∧ (¬ p < nI n → A))) := by
  refine br_c (fun _ => a) fun h0 => ?_
  rcases hb with h | h
  · exact absurd h h0
  · exact br_f (Int32.not_lt.mpr h) a
theorem ld_pg {p : Int32} {j n : Nat} {A B : Prop} (hj : j < n) (hn : n < 2 ^ 31) (e : p = nI j) (b : B) : (p < 0 → A) ∧ (¬ p < 0 → ((p < nI n → B) ∧ (¬ p < nI n → A))) := by
  subst e
  exact br_f (nI_pos (by omega)) (br_t (nI_lt hj hn) b)
/-- the triple is a message -/
def ld_M (d : Nat) (p0 p1 p2 : Int32) : Prop := ∃ q, q < 2197 ∧ ld_msg d q = true ∧ p0 = nI (q / 169) ∧ p1 = nI (q / 13 % 13) ∧ p2 = nI (q % 13)
theorem ld_M_of {d a b c : Nat} (ha : a < 13) (hb : b < 13) (hc : c < 13) (h1 : 2 ≤ d ∨ b = 0) (h2 : 3 ≤ d ∨ c = 0) : ld_M d (nI a) (nI b) (nI c) := by
  have e1 : (169 * a + 13 * b + c) / 169 = a := by omega
  have e2 : (169 * a + 13 * b + c) / 13 % 13 = b := by omega
  have e3 : (169 * a + 13 * b + c) % 13 = c := by omega
  refine ⟨169 * a + 13 * b + c, by omega, ?_, ?_, ?_, ?_⟩
  · rw [ld_msg_iff, e2, e3]; exact ⟨h1, h2⟩
  · rw [e1]
  · rw [e2]
  · rw [e3]
theorem ld_M_to {d : Nat} {p0 p1 p2 : Int32} (h : ld_M d p0 p1 p2) : ∃ a b c, a < 13 ∧ b < 13 ∧ c < 13 ∧ p0 = nI a ∧ p1 = nI b ∧ p2 = nI c ∧ (2 ≤ d ∨ b = 0) ∧ (3 ≤ d ∨ c = 0) := by
  obtain ⟨q, hq, hm, e0, e1, e2⟩ := h
  rw [ld_msg_iff] at hm
  exact ⟨q / 169, q / 13 % 13, q % 13, by omega, by omega, by omega, e0, e1, e2, hm.1, hm.2⟩
theorem ld_qeq {q r : Nat} (hq : q < 2197) (hr : r < 2197) (e0 : nI (q / 169) = nI (r / 169)) (e1 : nI (q / 13 % 13) = nI (r / 13 % 13)) (e2 : nI (q % 13) = nI (r % 13)) : q = r := by
  rw [nI_eq (by omega) (by omega)] at e0 e1 e2
  omega
theorem ld_M_q {d q : Nat} (hq : q < 2197) : ld_M d (nI (q / 169)) (nI (q / 13 % 13)) (nI (q % 13)) ↔ ld_msg d q = true := by
  constructor
  · rintro ⟨r, hr, hm, e0, e1, e2⟩
    rw [ld_qeq hq hr e0 e1 e2]
    exact hm
  · exact fun hm => ⟨q, hq, hm, rfl, rfl, rfl⟩
theorem ld_out {p : Int32} {a n : Nat} (ha : a < n) (hn : n < 2 ^ 31) (hb : p < 0 ∨ nI n ≤ p) : ¬ p = nI a := by
  intro e
  subst e
  rcases hb with h | h
  · exact nI_pos (by omega) h
  · exact nI_ge ha hn h
/-- the word after the first i steps of a writing of message q into the positions of B -/
def ld_wr (B : Nat → Bool) (q : Nat) (w : Nat → Int32) : Nat → Nat → Int32
  | 0 => w
  | i + 1 => if B i = true then upd (ld_wr B q w i) i (nI (ld_code q i)) else ld_wr B q w i
theorem ld_wr_t {B : Nat → Bool} {q i : Nat} {w : Nat → Int32} (h : B i = true) : ld_wr B q w (i + 1) = upd (ld_wr B q w i) i (nI (ld_code q i)) := if_pos h
theorem ld_wr_f {B : Nat → Bool} {q i : Nat} {w : Nat → Int32} (h : B i = false) : ld_wr B q w (i + 1) = ld_wr B q w i := if_neg (by rw [h]; decide)
theorem ld_wr_hi {B : Nat → Bool} {q : Nat} {w : Nat → Int32} {i j : Nat} (h : i ≤ j) : ld_wr B q w i j = w j := by
  induction i with
  | zero => rfl
  | succ i ih =>
    cases e : B i with
    | false => rw [ld_wr_f e]; exact ih (by omega)
    | true => rw [ld_wr_t e, pk_un (by omega)]; exact ih (by omega)
theorem ld_wr_eq {B C : Nat → Bool} {q : Nat} {w : Nat → Int32} {i : Nat} (h : ∀ x, x < i → B x = C x) : ld_wr B q w i = ld_wr C q w i := by
  induction i with
  | zero => rfl
  | succ i ih =>
    have e := h i (by omega)
    have t := ih (fun x hx => h x (by omega))
    cases c : C i with
    | false => rw [ld_wr_f (e.trans c), ld_wr_f c]; exact t
    | true => rw [ld_wr_t (e.trans c), ld_wr_t c, t]
/-- every position below n is erased or holds a symbol -/
def ld_W (w : Nat → Int32) (n : Nat) : Prop := ∀ x, x < n → w x = -1 ∨ ∃ s, s < 13 ∧ w x = nI s
theorem ld_W_upd {w : Nat → Int32} {n j : Nat} {z : Int32} (h : ld_W w n) (hz : z = -1 ∨ ∃ s, s < 13 ∧ z = nI s) : ld_W (upd w j z) n := by
  intro x hx
  by_cases e : x = j
  · rw [e, pk_us]; exact hz
  · rw [pk_un e]; exact h x hx
theorem ld_W_wr {B : Nat → Bool} {q : Nat} {w : Nat → Int32} {n : Nat} (h : ld_W w n) (i : Nat) : ld_W (ld_wr B q w i) n := by
  induction i with
  | zero => exact h
  | succ i ih =>
    cases e : B i with
    | false => rw [ld_wr_f e]; exact ih
    | true => rw [ld_wr_t e]; exact ld_W_upd ih (Or.inr ⟨_, ld_code_lt q i, rfl⟩)
def ld_in : Nat → Nat → Int32
  | 0 => fun _ => 0
  | i + 1 => upd (ld_in i) i (-1)
theorem ld_in_lo {i x : Nat} (h : x < i) : ld_in i x = -1 := by
  induction i with
  | zero => exact absurd h (Nat.not_lt_zero x)
  | succ i ih =>
    by_cases e : x = i
    · rw [e]; exact pk_us
    · exact (pk_un e).trans (ih (by omega))
end
section
/-! the class's private methods and loops, each with a general post -/
section
variable {fn fk ls : Int32} {w a0 a1 a2 g : Nat → Int32}
theorem xl_pos {post : Int32 → Prop} {n : Nat} {p : Int32} (hn : n < 2 ^ 31) (h0 : p < 0 ∨ nI n ≤ p → post 0) (h1 : ∀ j, j < n → p = nI j → post 1) : wpX_isPosition post (nI n, fk, ls, w, a0, a1, a2, g) p := by
  rcases pk_ix p hn with h | h | ⟨j, hj, rfl⟩
  · exact br_t h (h0 (Or.inl h))
  · exact br_c (fun z => h0 (Or.inl z)) (fun _ => br_t h (h0 (Or.inr h)))
  · exact br_f (nI_pos (by omega)) (br_f (nI_ge hj hn) (h1 j hj rfl))
theorem xl_sym {post : Int32 → Prop} {p : Int32} (h0 : p < 0 ∨ nI 13 ≤ p → post 0) (h1 : ∀ j, j < 13 → p = nI j → post 1) : wpX_isSymbol post () p := by
  rcases pk_ix p (n := 13) (by decide) with h | h | ⟨j, hj, rfl⟩
  · exact br_t h (h0 (Or.inl h))
  · exact br_c (fun z => h0 (Or.inl z)) (fun _ => br_t h (h0 (Or.inr h)))
  · exact br_f (nI_pos (by omega)) (br_f (nI_ge (b := 13) hj (by decide)) (h1 j hj rfl))
theorem xl_msg {post : Int32 → Prop} {d : Nat} {p0 p1 p2 : Int32} (hd : d < 2 ^ 31) (h1 : ld_M d p0 p1 p2 → post 1) (h0 : ¬ ld_M d p0 p1 p2 → post 0) : wpX_isMessage post (fn, nI d, ls, w, a0, a1, a2, g) p0 p1 p2 := by
  unfold wpX_isMessage
  dsimp only
  refine xl_sym (fun hb => br_t rfl (h0 fun M => ?_)) (fun a ha ea => br_f (by decide) ?_)
  · obtain ⟨a, b, c, ha, hb', hc, e0, e1, e2, _⟩ := ld_M_to M
    exact ld_out ha (by decide) hb e0
  refine xl_sym (fun hb => br_t rfl (h0 fun M => ?_)) (fun b hb eb => br_f (by decide) ?_)
  · obtain ⟨a, b, c, ha, hb', hc, e0, e1, e2, _⟩ := ld_M_to M
    exact ld_out hb' (by decide) hb e1
  refine xl_sym (fun hb => br_t rfl (h0 fun M => ?_)) (fun c hc ec => br_f (by decide) ?_)
  · obtain ⟨a, b, c, ha, hb', hc, e0, e1, e2, _⟩ := ld_M_to M
    exact ld_out hc (by decide) hb e2
  subst ea eb ec
  have k3 : (2 ≤ d ∨ b = 0) → wX_isMessage_35 post (nI c) fn (nI d) ls w a0 a1 a2 g := by
    intro hb2
    refine pk_le 3 d (fun h => h1 (ld_M_of ha hb hc hb2 (Or.inl h))) (fun h => ?_)
    refine pk_eq c 0 (fun h => h1 (ld_M_of ha hb hc hb2 (Or.inr h))) (fun h => h0 fun M => ?_)
    obtain ⟨a', b', c', _, _, hc', _, _, e2, _, h2⟩ := ld_M_to M
    rw [nI_eq (by omega) (by omega)] at e2
    omega
  refine pk_le 2 d (fun h => k3 (Or.inl h)) (fun h => ?_)
  refine pk_eq b 0 (fun h => k3 (Or.inr h)) (fun h => h0 fun M => ?_)
  obtain ⟨a', b', c', _, hb', _, _, e1, _, h2, _⟩ := ld_M_to M
  rw [nI_eq (by omega) (by omega)] at e1
  omega
theorem xl_cs {post : Int32 → Prop} {a b c x : Nat} (ha : a < 13) (hb : b < 13) (hc : c < 13) (hx : x < 13) (hp : post (nI (ld_cs a b c x))) : wpX_codeSymbol post () (nI a) (nI b) (nI c) (nI x) :=
  ⟨by decide, ld_v (ld_csI ha hb hc hx) hp⟩
theorem xl_rcl {n : Nat} (hn : n ≤ 13) {post : Int32 → Prop} (hp : post (nI (ld_m w n))) : ∀ e i, i + e = n → wX_received_4 post (nI n) fk ls w a0 a1 a2 g (e + 1) (nI (ld_m w i)) (nI i) := by
  intro e
  induction e with
  | zero =>
    intro i hi
    have : i = n := by omega
    subst this
    exact br_t (Int32.le_refl _) hp
  | succ e ih =>
    intro i hi
    have c : (nI i).toNatClampNeg = i := nI_clamp (by omega)
    have t := ih (i + 1) (by omega)
    refine br_f (nI_ge (by omega) (by omega)) ⟨vp_in_nI (by omega) (by decide), ?_⟩
    rw [c]
    by_cases h : w i = -1
    · rw [show ld_m w (i + 1) = ld_m w i from ld_cnt_f (decide_eq_false (fun z => z h))] at t
      exact br_t h (nm_r (nI_1 i) t)
    · rw [show ld_m w (i + 1) = ld_m w i + 1 from ld_cnt_t (decide_eq_true h)] at t
      exact br_f h (nm_r (nI_1 _) (nm_r (nI_1 i) t))
theorem xl_rc {n : Nat} (hn : n ≤ 13) {post : Int32 → Prop} (hp : post (nI (ld_m w n))) : wpX_received post (nI n, fk, ls, w, a0, a1, a2, g) :=
  ⟨n + 1, xl_rcl hn hp n 0 (by omega)⟩
theorem ld_lt14 {w : Nat → Int32} {n : Nat} (hn : n ≤ 13) : ld_m w n < 14 := by
  have := ld_cnt_le (ld_rcB w) n
  unfold ld_m
  omega
theorem xl_low {n d : Nat} (hn : n ≤ 13) (d1 : 1 ≤ d) (d3 : d ≤ 3) {post : Int32 → Prop} (hp : post (nI (ld_low d (ld_m w n)))) : wpX_lowestThreshold post (nI n, nI d, ls, w, a0, a1, a2, g) := by
  unfold wpX_lowestThreshold
  dsimp only
  have hm := ld_lt14 (w := w) hn
  refine xl_rc hn ?_
  generalize ld_m w n = m at hm hp
  refine pk_eq d 1 (fun h => ?_) (fun h => pk_eq d 2 (fun h2 => ?_) (fun h2 => ?_))
  · subst h
    exact hp
  · subst h2
    refine pk_eq m 0 (fun h => ?_) (fun h => pk_lt 2 m (fun h => pk_lt 5 m (fun h => pk_lt 9 m (fun h => ?_) (fun h => ?_)) (fun h => ?_)) (fun h => ?_))
    · rw [show ld_low 2 m = 1 by unfold ld_low; (repeat' split) <;> omega] at hp; exact hp
    · rw [show ld_low 2 m = 5 by unfold ld_low; (repeat' split) <;> omega] at hp; exact hp
    · rw [show ld_low 2 m = 4 by unfold ld_low; (repeat' split) <;> omega] at hp; exact hp
    · rw [show ld_low 2 m = 3 by unfold ld_low; (repeat' split) <;> omega] at hp; exact hp
    · rw [show ld_low 2 m = 2 by unfold ld_low; (repeat' split) <;> omega] at hp; exact hp
  · have h3 : d = 3 := by omega
    subst h3
    refine pk_eq m 0 (fun h => ?_) (fun h => pk_eq m 1 (fun h => ?_) (fun h => pk_lt 3 m (fun h => pk_lt 5 m (fun h => pk_lt 8 m (fun h => pk_lt 11 m (fun h => ?_) (fun h => ?_)) (fun h => ?_)) (fun h => ?_)) (fun h => ?_)))
    · rw [show ld_low 3 m = 1 by unfold ld_low; (repeat' split) <;> omega] at hp; exact hp
    · rw [show ld_low 3 m = 2 by unfold ld_low; (repeat' split) <;> omega] at hp; exact hp
    · rw [show ld_low 3 m = 7 by unfold ld_low; (repeat' split) <;> omega] at hp; exact hp
    · rw [show ld_low 3 m = 6 by unfold ld_low; (repeat' split) <;> omega] at hp; exact hp
    · rw [show ld_low 3 m = 5 by unfold ld_low; (repeat' split) <;> omega] at hp; exact hp
    · rw [show ld_low 3 m = 4 by unfold ld_low; (repeat' split) <;> omega] at hp; exact hp
    · rw [show ld_low 3 m = 3 by unfold ld_low; (repeat' split) <;> omega] at hp; exact hp
theorem xl_agl {n q : Nat} (hn : n ≤ 13) (hq : q < 2197) {post : Int32 → Prop} (hp : post (nI (ld_ag w n q))) : ∀ e i, i + e = n → wX_countAgreement_6 post (nI (q / 169)) (nI (q / 13 % 13)) (nI (q % 13)) (nI n) fk ls w a0 a1 a2 g (e + 1) (nI (ld_ag w i q)) (nI i) := by
  intro e
  induction e with
  | zero =>
    intro i hi
    have : i = n := by omega
    subst this
    exact br_t (Int32.le_refl _) hp
  | succ e ih =>
    intro i hi
    have c : (nI i).toNatClampNeg = i := nI_clamp (by omega)
    have t := ih (i + 1) (by omega)
    refine br_f (nI_ge (by omega) (by omega)) ⟨vp_in_nI (by omega) (by decide), ?_⟩
    refine xl_cs (by omega) (by omega) (by omega) (by omega) ?_
    rw [c]
    by_cases h : w i = nI (ld_code q i)
    · rw [show ld_ag w (i + 1) q = ld_ag w i q + 1 from ld_cnt_t (decide_eq_true h)] at t
      exact br_t h (nm_r (nI_1 _) (nm_r (nI_1 i) t))
    · rw [show ld_ag w (i + 1) q = ld_ag w i q from ld_cnt_f (decide_eq_false h)] at t
      exact br_f h (nm_r (nI_1 i) t)
theorem xl_ag {n q : Nat} (hn : n ≤ 13) (hq : q < 2197) {post : Int32 → Prop} (hp : post (nI (ld_ag w n q))) : wpX_countAgreement post (nI n, fk, ls, w, a0, a1, a2, g) (nI (q / 169)) (nI (q / 13 % 13)) (nI (q % 13)) :=
  ⟨n + 1, xl_agl hn hq hp n 0 (by omega)⟩
def ld_bit (m : Int32) (x : Nat) : Bool := decide (((m >>> (nI x &&& 31)) &&& 1) = 1)
theorem xl_wrl {n q : Nat} {m : Int32} (hn : n ≤ 13) (hq : q < 2197) {post : Int32 → St2 → Prop} (hp : post (nI (ld_cnt (ld_bit m) n)) (nI n, fk, -7, ld_wr (ld_bit m) q w n, a0, a1, a2, g)) : ∀ e i, i + e = n → wX_writeCodeword_6 post (nI (q / 169)) (nI (q / 13 % 13)) (nI (q % 13)) m (nI n) fk ls (e + 1) (nI (ld_cnt (ld_bit m) i)) (nI i) (ld_wr (ld_bit m) q w i) a0 a1 a2 g := by
  intro e
  induction e with
  | zero =>
    intro i hi
    have : i = n := by omega
    subst this
    exact br_t (Int32.le_refl _) hp
  | succ e ih =>
    intro i hi
    have c : (nI i).toNatClampNeg = i := nI_clamp (by omega)
    have t := ih (i + 1) (by omega)
    refine br_f (nI_ge (by omega) (by omega)) ?_
    by_cases h : ((m >>> (nI i &&& 31)) &&& 1) = 1
    · rw [show ld_cnt (ld_bit m) (i + 1) = ld_cnt (ld_bit m) i + 1 from ld_cnt_t (decide_eq_true h), ld_wr_t (B := ld_bit m) (decide_eq_true h)] at t
      refine br_t h (xl_cs (by omega) (by omega) (by omega) (by omega) ⟨vp_in_nI (by omega) (by decide), ?_⟩)
      rw [c]
      exact nm_e (nm_r (nI_1 _) (nm_r (nI_1 i) t))
    · rw [show ld_cnt (ld_bit m) (i + 1) = ld_cnt (ld_bit m) i from ld_cnt_f (decide_eq_false h), ld_wr_f (B := ld_bit m) (decide_eq_false h)] at t
      exact br_f h (nm_r (nI_1 i) t)
theorem xl_wr {n q : Nat} {m : Int32} (hn : n ≤ 13) (hq : q < 2197) {post : Int32 → St2 → Prop} (hp : post (nI (ld_cnt (ld_bit m) n)) (nI n, fk, -7, ld_wr (ld_bit m) q w n, a0, a1, a2, g)) : wpX_writeCodeword post (nI n, fk, ls, w, a0, a1, a2, g) (nI (q / 169)) (nI (q / 13 % 13)) (nI (q % 13)) m :=
  ⟨n + 1, xl_wrl hn hq hp n 0 (by omega)⟩
theorem xl_inl {mc ms kc ks : Nat} {post : St2 → Prop} (hp : post (fn, fk, ls, ld_in 13, a0, a1, a2, g)) : ∀ e i, i + e = 13 → wX_init_73 post mc ms kc ks fn fk ls (e + 1) (nI i) (ld_in i) a0 a1 a2 g := by
  intro e
  induction e with
  | zero =>
    intro i hi
    have : i = 13 := by omega
    subst this
    exact br_t (Int32.le_refl _) hp
  | succ e ih =>
    intro i hi
    have c : (nI i).toNatClampNeg = i := nI_clamp (by omega)
    have t := ih (i + 1) (by omega)
    refine br_f (nI_ge (b := 13) (by omega) (by decide)) ⟨vp_in_nI (by omega) (by decide), ?_⟩
    rw [c]
    exact nm_e (nm_r (nI_1 i) t)
end
end
section
/-! the class's list: made by makeList, read by find and best -/
section
variable {w : Nat → Int32} {n d t : Nat}
def ld_c1 (d : Nat) : Nat := if 2 ≤ d then 13 else 1
def ld_c2 (d : Nat) : Nat := if 3 ≤ d then 13 else 1
theorem ld_c1_le (d : Nat) : 1 ≤ ld_c1 d ∧ ld_c1 d ≤ 13 ∧ (2 ≤ d ∨ ld_c1 d = 1) ∧ (2 ≤ d → ld_c1 d = 13) := by
  unfold ld_c1
  split <;> omega
theorem ld_c2_le (d : Nat) : 1 ≤ ld_c2 d ∧ ld_c2 d ≤ 13 ∧ (3 ≤ d ∨ ld_c2 d = 1) ∧ (3 ≤ d → ld_c2 d = 13) := by
  unfold ld_c2
  split <;> omega
theorem ld_lsM {q : Nat} (h : ld_ls d w n t q = true) : ld_msg d q = true := (ld_ls_iff.mp h).1
theorem ld_nomsg {q : Nat} (h : ld_msg d q = false) : ld_ls d w n t q = false := by
  unfold ld_ls
  rw [h]
  rfl
theorem ld_nom {q : Nat} (h : ¬ ((2 ≤ d ∨ q / 13 % 13 = 0) ∧ (3 ≤ d ∨ q % 13 = 0))) : ld_msg d q = false := decide_eq_false h
theorem xl_57 (hn : n ≤ 13) (ht : t < 2 ^ 31) (hB : ld_rk d w n t 2197 ≤ 13) {post : St2 → Prop} {J38 J48 : Int32 → Int32 → Int32 → Int32 → (Nat → Int32) → (Nat → Int32) → (Nat → Int32) → (Nat → Int32) → (Nat → Int32) → Prop} {x2 : Int32} {a b : Nat} (ha : a < 13) (hb : b < ld_c1 d)
    (hJ : ∀ a0 a1 a2 g, ld_L d w n t (169 * a + 13 * b + ld_c2 d) a0 a1 a2 g → J48 (nI (b + 1)) (nI n) (nI d) (nI (ld_rk d w n t (169 * a + 13 * b + ld_c2 d))) w a0 a1 a2 g) :
    ∀ e c, c + e = ld_c2 d → ∀ a0 a1 a2 g, ld_L d w n t (169 * a + 13 * b + c) a0 a1 a2 g → wX_makeList_57 post J38 J48 (nI t) x2 (nI (ld_c2 d)) (nI a) (nI b) (e + 1) (nI c) (nI n) (nI d) (nI (ld_rk d w n t (169 * a + 13 * b + c))) w a0 a1 a2 g := by
  have h1 := ld_c1_le d
  have h2 := ld_c2_le d
  intro e
  induction e with
  | zero =>
    intro c hc a0 a1 a2 g hL
    have : c = ld_c2 d := by omega
    subst this
    exact br_t (Int32.le_refl _) (nm_r (nI_1 b) (hJ a0 a1 a2 g hL))
  | succ e ih =>
    intro c hc a0 a1 a2 g hL
    have q1 : (169 * a + 13 * b + c) / 169 = a := by omega
    have q2 : (169 * a + 13 * b + c) / 13 % 13 = b := by omega
    have q3 : (169 * a + 13 * b + c) % 13 = c := by omega
    have hq : 169 * a + 13 * b + c < 2197 := by omega
    have hms : ld_msg d (169 * a + 13 * b + c) = true := by
      rw [ld_msg_iff, q2, q3]
      omega
    have ag := fun (fk ls : Int32) (post : Int32 → Prop) => xl_ag (fk := fk) (ls := ls) (w := w) (a0 := a0) (a1 := a1) (a2 := a2) (g := g) (post := post) hn hq
    have add := ld_L_add hL
    have t1 := ih (c + 1) (by omega)
    rw [q1, q2, q3] at ag add
    rw [show 169 * a + 13 * b + (c + 1) = 169 * a + 13 * b + c + 1 from rfl] at t1
    generalize 169 * a + 13 * b + c = q at *
    have hag : ld_ag w n q ≤ 13 := Nat.le_trans (ld_cnt_le _ _) hn
    refine br_f (nI_ge (by omega) (by omega)) (ag _ _ _ ?_)
    by_cases hl : t ≤ ld_ag w n q
    · have hls : ld_ls d w n t q = true := ld_ls_iff.mpr ⟨hms, hl⟩
      have hlt : ld_rk d w n t q < ld_rk d w n t 2197 := ld_cnt_lt (p := ld_ls d w n t) hq hls
      have hc' : (nI (ld_rk d w n t q)).toNatClampNeg = ld_rk d w n t q := nI_clamp (by omega)
      have hin : vp_in (nI (ld_rk d w n t q)) 13 := vp_in_nI (by omega) (by decide)
      rw [show ld_rk d w n t (q + 1) = ld_rk d w n t q + 1 from ld_cnt_t hls] at t1
      have t2 := t1 _ _ _ _ add
      refine br_f (nI_nlt hl (by omega)) ?_
      unfold wpX_append
      dsimp only
      refine br_t (nI_lt (b := 13) (by omega) (by decide)) ?_
      rw [hc']
      exact ⟨hin, nm_e ⟨hin, nm_e ⟨hin, nm_e ⟨hin, nm_e (nm_r (nI_1 _) (nm_r (nI_1 c) t2))⟩⟩⟩⟩
    · have hls : ld_ls d w n t q = false := by
        cases e : ld_ls d w n t q with
        | false => rfl
        | true => exact absurd (ld_ls_iff.mp e).2 hl
      rw [show ld_rk d w n t (q + 1) = ld_rk d w n t q from ld_cnt_f hls] at t1
      refine br_t (nI_lt (by omega) (by omega)) (nm_r (nI_1 c) (t1 _ _ _ _ (ld_L_skip hL fun x h1 h2 => ?_)))
      rw [show x = q by omega]
      exact hls
theorem xl_48 (hn : n ≤ 13) (ht : t < 2 ^ 31) (hB : ld_rk d w n t 2197 ≤ 13) {post : St2 → Prop} {J38 : Int32 → Int32 → Int32 → Int32 → (Nat → Int32) → (Nat → Int32) → (Nat → Int32) → (Nat → Int32) → (Nat → Int32) → Prop} {a : Nat} (ha : a < 13)
    (hJ : ∀ a0 a1 a2 g, ld_L d w n t (169 * a + 13 * ld_c1 d) a0 a1 a2 g → J38 (nI (a + 1)) (nI n) (nI d) (nI (ld_rk d w n t (169 * a + 13 * ld_c1 d))) w a0 a1 a2 g) :
    ∀ e b, b + e = ld_c1 d → ∀ a0 a1 a2 g, ld_L d w n t (169 * a + 13 * b) a0 a1 a2 g → wX_makeList_48 post J38 (nI t) (nI (ld_c1 d)) (nI (ld_c2 d)) (nI a) (e + 1) (nI b) (nI n) (nI d) (nI (ld_rk d w n t (169 * a + 13 * b))) w a0 a1 a2 g := by
  have h1 := ld_c1_le d
  have h2 := ld_c2_le d
  intro e
  induction e with
  | zero =>
    intro b hb a0 a1 a2 g hL
    have : b = ld_c1 d := by omega
    subst this
    exact br_t (Int32.le_refl _) (nm_r (nI_1 a) (hJ a0 a1 a2 g hL))
  | succ e ih =>
    intro b hb a0 a1 a2 g hL
    have t1 := ih (b + 1) (by omega)
    have hf : ∀ x, 169 * a + 13 * b + ld_c2 d ≤ x → x < 169 * a + 13 * (b + 1) → ld_ls d w n t x = false := by
      intro x hx1 hx2
      refine ld_nomsg (ld_nom fun hm => ?_)
      omega
    refine br_f (nI_ge (by omega) (by omega)) ⟨_, xl_57 (b := b) hn ht hB ha (by omega) ?_ (ld_c2 d) 0 (by omega) a0 a1 a2 g hL⟩
    intro b0 b1 b2 g' hL'
    have t2 := t1 b0 b1 b2 g' (ld_L_skip hL' hf)
    rw [show ld_rk d w n t (169 * a + 13 * (b + 1)) = ld_rk d w n t (169 * a + 13 * b + ld_c2 d) from ld_cnt_skip (p := ld_ls d w n t) (by omega) hf] at t2
    exact t2
theorem xl_38 (hn : n ≤ 13) (ht : t < 2 ^ 31) (hB : ld_rk d w n t 2197 ≤ 13) {post : St2 → Prop}
    (hp : ∀ a0 a1 a2 g, ld_L d w n t 2197 a0 a1 a2 g → post (nI n, nI d, nI (ld_rk d w n t 2197), w, a0, a1, a2, g)) :
    ∀ e a, a + e = 13 → ∀ a0 a1 a2 g, ld_L d w n t (169 * a) a0 a1 a2 g → wX_makeList_38 post (nI t) (nI (ld_c1 d)) (nI (ld_c2 d)) (e + 1) (nI a) (nI n) (nI d) (nI (ld_rk d w n t (169 * a))) w a0 a1 a2 g := by
  have h1 := ld_c1_le d
  have h2 := ld_c2_le d
  intro e
  induction e with
  | zero =>
    intro a ha a0 a1 a2 g hL
    have : a = 13 := by omega
    subst this
    exact br_t (Int32.le_refl _) (hp a0 a1 a2 g hL)
  | succ e ih =>
    intro a ha a0 a1 a2 g hL
    have t1 := ih (a + 1) (by omega)
    have hf : ∀ x, 169 * a + 13 * ld_c1 d ≤ x → x < 169 * (a + 1) → ld_ls d w n t x = false := by
      intro x hx1 hx2
      refine ld_nomsg (ld_nom fun hm => ?_)
      omega
    refine br_f (nI_ge (b := 13) (by omega) (by decide)) ⟨_, xl_48 (a := a) hn ht hB (by omega) ?_ (ld_c1 d) 0 (by omega) a0 a1 a2 g hL⟩
    intro b0 b1 b2 g' hL'
    have t2 := t1 b0 b1 b2 g' (ld_L_skip hL' hf)
    rw [show ld_rk d w n t (169 * (a + 1)) = ld_rk d w n t (169 * a + 13 * ld_c1 d) from ld_cnt_skip (p := ld_ls d w n t) (by omega) hf] at t2
    exact t2
theorem xl_make {ls : Int32} {a0 a1 a2 g : Nat → Int32} (hn : n ≤ 13) (d1 : 1 ≤ d) (d3 : d ≤ 3) (ht : t < 2 ^ 31) (hB : ld_rk d w n t 2197 ≤ 13) {post : St2 → Prop}
    (hp : ∀ a0 a1 a2 g, ld_L d w n t 2197 a0 a1 a2 g → post (nI n, nI d, nI (ld_rk d w n t 2197), w, a0, a1, a2, g)) : wpX_makeList post (nI n, nI d, ls, w, a0, a1, a2, g) (nI t) := by
  have h1 := ld_c1_le d
  have h2 := ld_c2_le d
  have main := xl_38 hn ht hB hp 13 0 (by omega) a0 a1 a2 g ld_L_0
  have key : wX_makeList_14 post (nI t) (nI (ld_c1 d)) (nI n) (nI d) ls w a0 a1 a2 g := by
    refine pk_lt d 3 (fun h => ⟨13 + 1, ?_⟩) (fun h => ⟨13 + 1, ?_⟩)
    · rw [show ld_c2 d = 1 by omega] at main; exact main
    · rw [show ld_c2 d = 13 by omega] at main; exact main
  refine pk_lt d 2 (fun h => ?_) (fun h => ?_)
  · rw [show ld_c1 d = 1 by omega] at key; exact key
  · rw [show ld_c1 d = 13 by omega] at key; exact key
/-- find: from place i on, where message q isn't listed ahead of i -/
theorem xl_find {post : Int32 → Prop} {q : Nat} {a0 a1 a2 g : Nat → Int32} (hB : ld_rk d w n t 2197 ≤ 13) (hq : q < 2197) (hL : ld_L d w n t 2197 a0 a1 a2 g) (hp1 : ld_ls d w n t q = true → post (nI (ld_rk d w n t q))) (hp0 : ld_ls d w n t q = false → post (-1)) :
    ∀ e i, i + e = ld_rk d w n t 2197 → (ld_ls d w n t q = true → i ≤ ld_rk d w n t q) → wX_find_28 post (nI (q / 169)) (nI (q / 13 % 13)) (nI (q % 13)) (nI n) (nI d) (nI (ld_rk d w n t 2197)) w a0 a1 a2 g (e + 1) (nI i) := by
  intro e
  induction e with
  | zero =>
    intro i hi hr
    have : i = ld_rk d w n t 2197 := by omega
    subst this
    refine br_t (Int32.le_refl _) (hp0 ?_)
    cases c : ld_ls d w n t q with
    | false => rfl
    | true =>
      have := hr c
      have : ld_rk d w n t q < ld_rk d w n t 2197 := ld_cnt_lt (p := ld_ls d w n t) hq c
      omega
  | succ e ih =>
    intro i hi hr
    obtain ⟨r, hr2, hrl, hrk⟩ := ld_cnt_ex (p := ld_ls d w n t) 2197 i (by unfold ld_rk at hi; omega)
    have ent := hL r hr2 hrl
    rw [show ld_rk d w n t r = i from hrk] at ent
    obtain ⟨e0, e1, e2, e3⟩ := ent
    have c : (nI i).toNatClampNeg = i := nI_clamp (by omega)
    have hin : vp_in (nI i) 13 := vp_in_nI (by omega) (by decide)
    have next : ¬ r = q → wX_find_28 post (nI (q / 169)) (nI (q / 13 % 13)) (nI (q % 13)) (nI n) (nI d) (nI (ld_rk d w n t 2197)) w a0 a1 a2 g (e + 1) (nI (i + 1)) := by
      intro hne
      refine ih (i + 1) (by omega) fun hl => ?_
      have h1 := hr hl
      have h2 : ¬ i = ld_rk d w n t q := fun z => hne (ld_cnt_inj (p := ld_ls d w n t) hrl hl (hrk.trans z))
      omega
    refine br_f (nI_ge (by omega) (by omega)) ⟨hin, ?_⟩
    rw [c, e0, e1, e2]
    refine br_c (fun z0 => ⟨hin, br_c (fun z1 => ⟨hin, br_c (fun z2 => ?_) (fun z2 => nm_r (nI_1 i) (next ?_))⟩) (fun z1 => nm_r (nI_1 i) (next ?_))⟩) (fun z0 => nm_r (nI_1 i) (next ?_))
    · have hrq := ld_qeq hr2 hq z0 z1 z2
      subst hrq
      rw [← hrk]
      exact hp1 hrl
    · exact fun z => z2 (by rw [z])
    · exact fun z => z1 (by rw [z])
    · exact fun z => z0 (by rw [z])
/-- best: the greatest of G so far, and its first place -/
def ld_bG (G : Nat → Nat) : Nat → Nat
  | 0 => 0
  | r + 1 => if G r ≤ ld_bG G r then ld_bG G r else G r
def ld_bA (G : Nat → Nat) : Nat → Int32
  | 0 => -1
  | r + 1 => if G r ≤ ld_bG G r then ld_bA G r else nI r
theorem ld_bG_lt {G : Nat → Nat} {L : Nat} (h : ∀ r, r < L → G r < 14) : ∀ i, i ≤ L → ld_bG G i < 14 := by
  intro i
  induction i with
  | zero => exact fun _ => (by decide : 0 < 14)
  | succ i ih =>
    intro hi
    have h1 := ih (by omega)
    have h2 := h i (by omega)
    show (if G i ≤ ld_bG G i then ld_bG G i else G i) < 14
    split <;> omega
theorem xl_best {post : Int32 → Prop} {fn fk : Int32} {a0 a1 a2 g : Nat → Int32} {G : Nat → Nat} {L : Nat} (hB : L ≤ 13) (hg : ∀ r, r < L → g r = nI (G r)) (hG : ∀ r, r < L → G r < 14) (hp : post (ld_bA G L)) :
    ∀ e i, i + e = L → wX_best_18 post fn fk (nI L) w a0 a1 a2 g (e + 1) (ld_bA G i) (nI (ld_bG G i)) (nI i) := by
  intro e
  induction e with
  | zero =>
    intro i hi
    have : i = L := by omega
    subst this
    exact br_t (Int32.le_refl _) hp
  | succ e ih =>
    intro i hi
    have c : (nI i).toNatClampNeg = i := nI_clamp (by omega)
    have hin : vp_in (nI i) 13 := vp_in_nI (by omega) (by decide)
    have t1 := ih (i + 1) (by omega)
    have b1 := ld_bG_lt hG i (by omega)
    have b2 := hG i (by omega)
    refine br_f (nI_ge (by omega) (by omega)) ⟨hin, ?_⟩
    rw [c, hg i (by omega)]
    by_cases h : G i ≤ ld_bG G i
    · rw [show ld_bA G (i + 1) = ld_bA G i from if_pos h, show ld_bG G (i + 1) = ld_bG G i from if_pos h] at t1
      exact br_t (nI_le h (by omega)) (nm_r (nI_1 i) t1)
    · rw [show ld_bA G (i + 1) = nI i from if_neg h, show ld_bG G (i + 1) = G i from if_neg h] at t1
      exact br_f (nI_ge (by omega) (by omega)) ⟨hin, nm_e (nm_r (nI_1 i) t1)⟩
end
end
section
/-! each method over the law's invariant: whatever its arguments, it ends in a state that keeps it -/
theorem ld_rr (p : Int32) {M : Nat} (h0 : 0 < M) (hM : M < 2 ^ 31) : (0 ≤ p - p / nI M * nI M ∧ ∃ ρ, ρ < M ∧ p - p / nI M * nI M = nI ρ) ∨ (¬ 0 ≤ p - p / nI M * nI M ∧ ∃ ρ, ρ < M ∧ (p - p / nI M * nI M) + nI M = nI ρ) := by
  have t := tmod_bounds (a := p.toInt) (M := (M : Int)) (by omega)
  have e := rem_toInt p (nI M)
  have hz : (0 : Int32).toInt = 0 := by decide
  rw [nI_toInt hM] at e
  generalize p - p / nI M * nI M = r at *
  by_cases h : 0 ≤ r
  · refine Or.inl ⟨h, ?_⟩
    obtain ⟨j, hj, rfl⟩ := nI_of (Int32.not_lt.mpr h)
    rw [nI_toInt hj] at e
    exact ⟨j, by omega, rfl⟩
  · refine Or.inr ⟨h, ?_⟩
    have hr : r.toInt < 0 := by
      rw [Int32.not_le, Int32.lt_iff_toInt_lt, hz] at h
      exact h
    have s : (r + nI M).toInt = r.toInt + M := by
      rw [Jvm.Kit.i32_add (by rw [nI_toInt hM]; omega) (by rw [nI_toInt hM]; omega), nI_toInt hM]
    have h1 : ¬ r + nI M < 0 := by
      rw [Int32.lt_iff_toInt_lt, s, hz]
      omega
    obtain ⟨j, hj, ej⟩ := nI_of h1
    rw [ej, nI_toInt hj] at s
    exact ⟨j, by omega, ej⟩
/-- the law's mod: a rest below the divisor -/
theorem ll_mod {post : Int32 → Prop} {p m : Int32} (M : Nat) (h0 : 0 < M) (hM : M < 2 ^ 31) (em : m = nI M) (hp : ∀ j, j < M → post (nI j)) : wpL_mod post () p m := by
  subst em
  refine ⟨nI_ne0 h0 hM, nm_e ?_⟩
  rcases ld_rr p h0 hM with ⟨h, ρ, hρ, e⟩ | ⟨h, ρ, hρ, e⟩
  · rw [e] at h ⊢
    exact br_t h (hp ρ hρ)
  · exact br_f h (ld_v e (hp ρ hρ))
theorem ll_cell {post : Int32 → Prop} {L : Nat} {xs : Nat → Int32} {p : Int32} (j : Nat) (hL : L < 2 ^ 31) (hj : j < 2 ^ 31) (ep : p = nI j) (hp : ∀ r, post r) : wpL_cell post L xs () p := by
  subst ep
  refine br_c (fun _ => hp 0) (fun h => ⟨vp_in_nI ?_ hL, hp _⟩)
  have h' : ¬ L ≤ j := fun z => h ((nI_leI hL hj).mpr z)
  omega
/-- the law's invariant: no list, or the list of the law's own t, and then the law has seen an accepted decode -/
def ld_I (n d : Nat) (x8 x9 ls : Int32) (w a0 a1 a2 g : Nat → Int32) : Prop :=
  ld_W w n ∧ (ls = -7 ∨ ∃ t, t < 2 ^ 31 ∧ ld_low d (ld_m w n) ≤ t ∧ ld_L d w n t 2197 a0 a1 a2 g ∧ ls = nI (ld_rk d w n t 2197) ∧ x8 = nI t ∧ x9 = 1)
def ld_N (n d : Nat) : Prop := 4 ≤ n ∧ n ≤ 13 ∧ 1 ≤ d ∧ d ≤ 3
theorem ld_neg {s : Nat} {z : Int32} (hs : s < 2 ^ 31) (hz : z < 0) : ¬ nI s = z := by
  intro h
  rw [← h] at hz
  exact nI_pos hs hz
section
variable {n d : Nat} {x8 x9 ls : Int32} {w a0 a1 a2 g : Nat → Int32} {post : Int32 → St2 → Prop}
theorem kp_no (hW : ld_W w n) : ld_I n d x8 x9 (-7) w a0 a1 a2 g := ⟨hW, Or.inl rfl⟩
theorem kp_put (hN : ld_N n d) (I : ld_I n d x8 x9 ls w a0 a1 a2 g) (p0 p1 : Int32) (hp : ∀ r ls' w', ld_I n d x8 x9 ls' w' a0 a1 a2 g → post r (nI n, nI d, ls', w', a0, a1, a2, g)) : wpX_put post (nI n, nI d, ls, w, a0, a1, a2, g) p0 p1 := by
  obtain ⟨n4, n13, d1, d3⟩ := hN
  unfold wpX_put
  dsimp only
  refine xl_pos (by omega) (fun hb => br_t rfl (hp _ _ _ I)) (fun j hj ej => br_f (by decide) ?_)
  subst ej
  refine xl_sym (fun hb => br_t rfl (hp _ _ _ I)) (fun s hs es => br_f (by decide) ⟨vp_in_nI (by omega) (by decide), nm_e ?_⟩)
  subst es
  exact hp _ _ _ (kp_no (ld_W_upd I.1 (Or.inr ⟨s, hs, rfl⟩)))
theorem kp_erase (hN : ld_N n d) (I : ld_I n d x8 x9 ls w a0 a1 a2 g) (p0 : Int32) (hp : ∀ r ls' w', ld_I n d x8 x9 ls' w' a0 a1 a2 g → post r (nI n, nI d, ls', w', a0, a1, a2, g)) : wpX_erase post (nI n, nI d, ls, w, a0, a1, a2, g) p0 := by
  obtain ⟨n4, n13, d1, d3⟩ := hN
  unfold wpX_erase
  dsimp only
  refine xl_pos (by omega) (fun hb => br_t rfl (hp _ _ _ I)) (fun j hj ej => br_f (by decide) ?_)
  subst ej
  exact ⟨vp_in_nI (by omega) (by decide), nm_e (hp _ _ _ (kp_no (ld_W_upd I.1 (Or.inl rfl))))⟩
theorem kp_disturb (hN : ld_N n d) (I : ld_I n d x8 x9 ls w a0 a1 a2 g) (p0 p1 : Int32) (hp : ∀ r ls' w', ld_I n d x8 x9 ls' w' a0 a1 a2 g → post r (nI n, nI d, ls', w', a0, a1, a2, g)) : wpX_disturb post (nI n, nI d, ls, w, a0, a1, a2, g) p0 p1 := by
  obtain ⟨n4, n13, d1, d3⟩ := hN
  unfold wpX_disturb
  dsimp only
  refine xl_pos (by omega) (fun hb => br_t rfl (hp _ _ _ I)) (fun j hj ej => br_f (by decide) ?_)
  subst ej
  have hin : vp_in (nI j) 13 := vp_in_nI (by omega) (by decide)
  have c : (nI j).toNatClampNeg = j := nI_clamp (by omega)
  refine ⟨hin, ?_⟩
  rw [c]
  rcases I.1 j hj with he | ⟨s, hs, he⟩
  · exact br_t he (hp _ _ _ I)
  · have hne : ¬ w j = -1 := by rw [he]; exact ld_neg1 hs
    have key : ∃ z, z < 13 ∧ (((w j) + (p1 - p1 / 13 * 13)) + 13) - (((w j) + (p1 - p1 / 13 * 13)) + 13) / 13 * 13 = nI z := by
      rcases ld_rr p1 (M := 13) (by decide) (by decide) with ⟨h0, ρ, hρ, e⟩ | ⟨h0, ρ, hρ, e⟩
      · refine ⟨(s + ρ) % 13, Nat.mod_lt _ (by decide), ?_⟩
        have e' : p1 - p1 / 13 * 13 = nI ρ := e
        rw [he, e', nI_add, show nI (s + ρ) + 13 = nI (s + ρ + 13) from nI_add _ _, ld_rem (by omega)]
        exact congrArg nI (by omega)
      · refine ⟨(s + ρ) % 13, Nat.mod_lt _ (by decide), ?_⟩
        have e' : (p1 - p1 / 13 * 13) + 13 = nI ρ := e
        rw [he, Int32.add_assoc, e', nI_add, ld_rem (by omega)]
    obtain ⟨z, hz, eX⟩ := key
    refine br_f hne ⟨hin, by decide, by decide, hin, ?_⟩
    rw [eX]
    exact nm_e ⟨hin, hp _ _ _ (kp_no (ld_W_upd I.1 (Or.inr ⟨z, hz, rfl⟩)))⟩
theorem kp_write (hN : ld_N n d) (I : ld_I n d x8 x9 ls w a0 a1 a2 g) (p0 p1 p2 p3 : Int32) (hp : ∀ r ls' w', ld_I n d x8 x9 ls' w' a0 a1 a2 g → post r (nI n, nI d, ls', w', a0, a1, a2, g)) : wpX_write post (nI n, nI d, ls, w, a0, a1, a2, g) p0 p1 p2 p3 := by
  obtain ⟨n4, n13, d1, d3⟩ := hN
  unfold wpX_write
  dsimp only
  refine xl_msg (by omega) (fun M => br_f (by decide) ?_) (fun M => br_t rfl (hp _ _ _ I))
  obtain ⟨q, hq, hm, rfl, rfl, rfl⟩ := M
  refine br_c (fun _ => hp _ _ _ I) (fun _ => ?_)
  unfold wpX_fullMask
  dsimp only
  exact br_c (fun _ => xl_wr n13 hq (hp _ _ _ (kp_no (ld_W_wr I.1 n)))) (fun _ => hp _ _ _ I)
theorem xl_er {post : Int32 → Prop} {fn fk : Int32} {L : Nat} {p : Int32} (hL : L ≤ 13) (hb : p < 0 ∨ nI L ≤ p → post (-8)) (hg : ∀ j, j < L → p = nI j → post 0) : wpX_entryRefusal post (fn, fk, nI L, w, a0, a1, a2, g) p := by
  refine br_f (ld_neg (by omega) (by decide)) ?_
  rcases pk_ix p (n := L) (by omega) with h | h | ⟨j, hj, rfl⟩
  · exact br_t h (hb (Or.inl h))
  · exact br_c (fun z => hb (Or.inl z)) (fun _ => br_f (Int32.not_lt.mpr h) (hb (Or.inr h)))
  · exact br_f (nI_pos (by omega)) (br_t (nI_lt hj (by omega)) (hg j hj rfl))
theorem kp_correct (hN : ld_N n d) (I : ld_I n d x8 x9 ls w a0 a1 a2 g) (p0 : Int32) (hp : ∀ r ls' w', ld_I n d x8 x9 ls' w' a0 a1 a2 g → post r (nI n, nI d, ls', w', a0, a1, a2, g)) : wpX_correct post (nI n, nI d, ls, w, a0, a1, a2, g) p0 := by
  obtain ⟨n4, n13, d1, d3⟩ := hN
  have hW := I.1
  unfold wpX_correct
  dsimp only
  rcases I.2 with e | ⟨t, ht, hlt, hL, e, e8, e9⟩
  · have base := hp (-7) ls w I
    exact br_t e (br_f (by decide) base)
  · have hB := ld_bound d1 d3 n13 hlt
    have base := hp (-8) ls w I
    rw [e] at base ⊢
    refine xl_er hB (fun hb => br_f (by decide) base) (fun j hj ej => br_t rfl ?_)
    subst ej
    have hin : vp_in (nI j) 13 := vp_in_nI (by omega) (by decide)
    have c : (nI j).toNatClampNeg = j := nI_clamp (by omega)
    obtain ⟨q, hq, hql, hqk⟩ := ld_cnt_ex (p := ld_ls d w n t) 2197 j hj
    have ent := hL q hq hql
    rw [show ld_rk d w n t q = j from hqk] at ent
    obtain ⟨e0, e1, e2, e3⟩ := ent
    refine ⟨hin, nm_e ?_⟩
    rw [c, e0, e1, e2]
    unfold wpX_fullMask
    dsimp only
    exact ⟨hin, hin, hin, xl_wr n13 hq (hp _ _ _ (kp_no (ld_W_wr hW n)))⟩
theorem kp_best (hN : ld_N n d) (I : ld_I n d x8 x9 ls w a0 a1 a2 g) {post : Int32 → Prop} (hp : ∀ r, post r) : wpX_best post (nI n, nI d, ls, w, a0, a1, a2, g) := by
  obtain ⟨n4, n13, d1, d3⟩ := hN
  rcases I.2 with e | ⟨t, ht, hlt, hL, e, e8, e9⟩
  · exact br_t e (hp _)
  · have hB := ld_bound d1 d3 n13 hlt
    have hg : ∀ r, r < ld_rk d w n t 2197 → g r = nI ((fun r => (g r).toNatClampNeg) r) ∧ (fun r => (g r).toNatClampNeg) r < 14 := by
      intro r hr
      obtain ⟨q, hq, hql, hqk⟩ := ld_cnt_ex (p := ld_ls d w n t) 2197 r hr
      have hag : ld_ag w n q ≤ 13 := Nat.le_trans (ld_cnt_le _ _) n13
      have h2 := (hL q hq hql).2.2.2
      rw [show ld_rk d w n t q = r from hqk] at h2
      show g r = nI (g r).toNatClampNeg ∧ (g r).toNatClampNeg < 14
      rw [h2, nI_clamp (by omega)]
      exact ⟨rfl, by omega⟩
    rw [e]
    exact br_f (ld_neg (by omega) (by decide)) ⟨_, xl_best hB (fun r hr => (hg r hr).1) (fun r hr => (hg r hr).2) (hp _) _ 0 (Nat.zero_add _)⟩
theorem kp_decode (hN : ld_N n d) (I : ld_I n d x8 x9 ls w a0 a1 a2 g) (p : Int32) (hp0 : post (-6) (nI n, nI d, ls, w, a0, a1, a2, g)) (hp1 : ∀ (L : Nat) (b0 b1 b2 g' : Nat → Int32), L ≤ 13 → ld_I n d p 1 (nI L) w b0 b1 b2 g' → post (nI L) (nI n, nI d, nI L, w, b0, b1, b2, g')) : wpX_decode post (nI n, nI d, ls, w, a0, a1, a2, g) p := by
  obtain ⟨n4, n13, d1, d3⟩ := hN
  have hW := I.1
  have hlo := ld_low_pos d (ld_m w n)
  unfold wpX_decode
  dsimp only
  refine xl_low n13 d1 d3 (br_c (fun z => ?_) (fun _ => hp0))
  have h0 : ¬ p < 0 := fun h => by
    have := nI_pos' (n := ld_low d (ld_m w n)) (by omega)
    exact Int32.not_lt.mpr (Int32.le_trans this z) h
  obtain ⟨t, ht, rfl⟩ := nI_of h0
  have hlt : ld_low d (ld_m w n) ≤ t := (nI_leI (by omega) ht).mp z
  have hB := ld_bound d1 d3 n13 hlt
  exact xl_make n13 d1 d3 ht hB fun b0 b1 b2 g' hL => hp1 _ b0 b1 b2 g' hB ⟨hW, Or.inr ⟨t, ht, hlt, hL, rfl, rfl, rfl⟩⟩
theorem kp_low (hN : ld_N n d) {post : Int32 → Prop} (hp : ∀ r, post r) : wpX_lowestThreshold post (nI n, nI d, ls, w, a0, a1, a2, g) :=
  xl_low hN.2.1 hN.2.2.1 hN.2.2.2 (hp _)
end
end
section
/-! the law's check: the word packed into a long, the recount, the entries counted, each message's turn -/
def ld_nib (z : Int32) : Nat := if z = -1 then 15 else z.toNatClampNeg
def ld_P (w : Nat → Int32) : Nat → Nat
  | 0 => 0
  | i + 1 => ld_P w i + ld_nib (w i) * 2 ^ (4 * i)
theorem ld_nib_e : ld_nib (-1) = 15 := if_pos rfl
theorem ld_nib_s {s : Nat} (hs : s < 13) : ld_nib (nI s) = s := (if_neg (ld_neg1 hs)).trans (nI_clamp (by omega))
theorem ld_nib_lt {w : Nat → Int32} {n i : Nat} (hW : ld_W w n) (hi : i < n) : ld_nib (w i) < 16 := by
  rcases hW i hi with h | ⟨s, hs, h⟩
  · rw [h, ld_nib_e]; decide
  · rw [h, ld_nib_s hs]; omega
theorem ld_P_lt {w : Nat → Int32} {n : Nat} (hW : ld_W w n) : ∀ i, i ≤ n → ld_P w i < 2 ^ (4 * i) := by
  intro i
  induction i with
  | zero => exact fun _ => (by decide : 0 < 1)
  | succ i ih =>
    intro hi
    have h1 := ih (by omega)
    have h2 := ld_nib_lt hW (i := i) (by omega)
    have h3 : ld_nib (w i) * 2 ^ (4 * i) ≤ 15 * 2 ^ (4 * i) := Nat.mul_le_mul_right _ (by omega)
    have h4 : 2 ^ (4 * (i + 1)) = 2 ^ (4 * i) * 16 := by
      rw [show 4 * (i + 1) = 4 * i + 4 by omega, Nat.pow_add]
    rw [h4]
    show ld_P w i + ld_nib (w i) * 2 ^ (4 * i) < _
    omega
theorem ld_P_get {w : Nat → Int32} {n x : Nat} (hW : ld_W w n) : ∀ i, i ≤ n → x < i → ld_P w i / 2 ^ (4 * x) % 16 = ld_nib (w x) := by
  intro i
  induction i with
  | zero => exact fun _ h => absurd h (Nat.not_lt_zero x)
  | succ i ih =>
    intro hi hx
    show (ld_P w i + ld_nib (w i) * 2 ^ (4 * i)) / 2 ^ (4 * x) % 16 = ld_nib (w x)
    by_cases e : x = i
    · subst e
      rw [Nat.add_mul_div_right _ _ (Nat.two_pow_pos _), Nat.div_eq_of_lt (ld_P_lt hW x (by omega)), Nat.zero_add]
      exact Nat.mod_eq_of_lt (ld_nib_lt hW (by omega))
    · obtain ⟨c, rfl⟩ : ∃ c, i = x + 1 + c := ⟨i - x - 1, by omega⟩
      have h4 : 2 ^ (4 * (x + 1 + c)) = 2 ^ (4 * x) * (16 * 2 ^ (4 * c)) := by
        rw [show 4 * (x + 1 + c) = 4 * x + (4 + 4 * c) by omega, Nat.pow_add, Nat.pow_add]
      have h5 : ld_nib (w (x + 1 + c)) * (2 ^ (4 * x) * (16 * 2 ^ (4 * c))) = (ld_nib (w (x + 1 + c)) * 2 ^ (4 * c) * 16) * 2 ^ (4 * x) := by ac_rfl
      rw [h4, h5, Nat.add_mul_div_right _ _ (Nat.two_pow_pos _), Nat.add_mul_mod_self_right]
      exact ih (by omega) (by omega)
theorem ld_P_64 {w : Nat → Int32} {n : Nat} (hn : n ≤ 13) (hW : ld_W w n) {i : Nat} (hi : i ≤ n) : ld_P w i < 2 ^ 64 :=
  Nat.lt_trans (ld_P_lt hW i hi) (wb_lt2 (by omega))
theorem ld_pack {w : Nat → Int32} {n i : Nat} (hn : n ≤ 13) (hW : ld_W w n) (hi : i < n) : lN (ld_P w i) ||| ((nI (ld_nib (w i))).toInt64 <<< ((4 * nI i).toInt64 &&& 63)) = lN (ld_P w (i + 1)) := by
  have h2 := ld_nib_lt hW hi
  have h3 := ld_P_64 hn hW (i := i + 1) (by omega)
  rw [show (4 : Int32) * nI i = nI (4 * i) from pk_mul 4 i, nI_l (by omega), wb_shl _ (by omega)]
  exact g_or' (k := 4 * i) rfl (ld_P_lt hW i (by omega)) h3
theorem ld_unp {w : Nat → Int32} {n x : Nat} (hn : n ≤ 13) (hW : ld_W w n) (hx : x < n) : ((((lN (ld_P w n)).toUInt64 >>> ((4 * nI x).toInt64.toUInt64 &&& Int64.toUInt64 63)).toInt64) &&& 15).toInt32 = nI (ld_nib (w x)) := by
  have h3 := ld_P_64 hn hW (Nat.le_refl n)
  rw [show (4 : Int32) * nI x = nI (4 * x) from pk_mul 4 x, wb_shr h3 (by omega), show (15 : Int64) = lN (2 ^ 4 - 1) from rfl, wb_mask (Nat.lt_of_le_of_lt (Nat.div_le_self _ _) h3) (by decide), lN_i]
  exact congrArg nI (ld_P_get hW n (Nat.le_refl n) hx)
theorem ld_nibc {w : Nat → Int32} {n i q : Nat} (hW : ld_W w n) (hi : i < n) : nI (ld_nib (w i)) = nI (ld_code q i) ↔ w i = nI (ld_code q i) := by
  have hc := ld_code_lt q i
  rcases hW i hi with h | ⟨s, hs, h⟩
  · rw [h, ld_nib_e, nI_eq (by decide) (by omega)]
    exact ⟨fun z => by omega, fun z => absurd z.symm (ld_neg1 hc)⟩
  · rw [h, ld_nib_s hs]
section
variable {w a0 a1 a2 g : Nat → Int32} {n d t : Nat}
theorem ll_agl {q : Nat} (hn : n ≤ 13) (hW : ld_W w n) (hq : q < 2197) {post : Int32 → Prop} (hp : post (nI (ld_ag w n q))) : ∀ e i, i + e = n → wL_agree_6 post (lN (ld_P w n)) (nI n) (nI (q / 169)) (nI (q / 13 % 13)) (nI (q % 13)) (e + 1) (nI (ld_ag w i q)) (nI i) := by
  intro e
  induction e with
  | zero =>
    intro i hi
    have : i = n := by omega
    subst this
    exact br_c (fun _ => hp) (fun _ => br_t (Int32.le_refl _) hp)
  | succ e ih =>
    intro i hi
    have t1 := ih (i + 1) (by omega)
    refine br_f (nI_ge (b := 13) (by omega) (by decide)) (br_f (nI_ge (by omega) (by omega)) (nm_r (ld_unp hn hW (by omega)) ⟨by decide, ?_⟩))
    rw [ld_csI (by omega) (by omega) (by omega) (by omega)]
    by_cases h : w i = nI (ld_code q i)
    · rw [show ld_ag w (i + 1) q = ld_ag w i q + 1 from ld_cnt_t (decide_eq_true h)] at t1
      exact br_t ((ld_nibc hW (by omega)).mpr h) (nm_r (nI_1 _) (nm_r (nI_1 i) t1))
    · rw [show ld_ag w (i + 1) q = ld_ag w i q from ld_cnt_f (decide_eq_false h)] at t1
      exact br_f (fun z => h ((ld_nibc hW (by omega)).mp z)) (nm_r (nI_1 i) t1)
theorem ll_ag {q : Nat} (hn : n ≤ 13) (hW : ld_W w n) (hq : q < 2197) {post : Int32 → Prop} (hp : post (nI (ld_ag w n q))) : wpL_agree post () (lN (ld_P w n)) (nI n) (nI (q / 169)) (nI (q / 13 % 13)) (nI (q % 13)) :=
  ⟨n + 1, ll_agl hn hW hq hp n 0 (by omega)⟩
theorem xl_cf0 {post : Int32 → Prop} {K j : Nat} (hB : K ≤ 13) (hj : j < K) (hd : 1 ≤ d) (hd3 : d ≤ 3) (hp : post (a0 j)) : wpX_coefficient post (nI n, nI d, nI K, w, a0, a1, a2, g) (nI j) 0 := by
  have c : (nI j).toNatClampNeg = j := nI_clamp (by omega)
  unfold wpX_coefficient
  dsimp only
  refine xl_er hB (fun hb => absurd rfl (ld_out hj (by omega) hb)) (fun i hi ei => br_t rfl ?_)
  refine br_f (by decide) (br_t (nI_lt (a := 0) hd (by omega)) (br_t rfl ⟨vp_in_nI (by omega) (by decide), ?_⟩))
  rw [c]
  exact hp
theorem xl_cf1 {post : Int32 → Prop} {K j : Nat} (hB : K ≤ 13) (hj : j < K) (hd : 2 ≤ d) (hd3 : d ≤ 3) (hp : post (a1 j)) : wpX_coefficient post (nI n, nI d, nI K, w, a0, a1, a2, g) (nI j) 1 := by
  have c : (nI j).toNatClampNeg = j := nI_clamp (by omega)
  unfold wpX_coefficient
  dsimp only
  refine xl_er hB (fun hb => absurd rfl (ld_out hj (by omega) hb)) (fun i hi ei => br_t rfl ?_)
  refine br_f (by decide) (br_t (nI_lt (a := 1) hd (by omega)) (br_f (by decide) (br_t rfl ⟨vp_in_nI (by omega) (by decide), ?_⟩)))
  rw [c]
  exact hp
theorem xl_cf2 {post : Int32 → Prop} {K j : Nat} (hB : K ≤ 13) (hj : j < K) (hd : 3 ≤ d) (hd3 : d ≤ 3) (hp : post (a2 j)) : wpX_coefficient post (nI n, nI d, nI K, w, a0, a1, a2, g) (nI j) 2 := by
  have c : (nI j).toNatClampNeg = j := nI_clamp (by omega)
  unfold wpX_coefficient
  dsimp only
  refine xl_er hB (fun hb => absurd rfl (ld_out hj (by omega) hb)) (fun i hi ei => br_t rfl ?_)
  refine br_f (by decide) (br_t (nI_lt (a := 2) hd (by omega)) (br_f (by decide) (br_f (by decide) ⟨vp_in_nI (by omega) (by decide), ?_⟩)))
  rw [c]
  exact hp
theorem xl_agr {post : Int32 → Prop} {K j : Nat} {fn fk : Int32} (hB : K ≤ 13) (hj : j < K) (hp : post (g j)) : wpX_agreement post (fn, fk, nI K, w, a0, a1, a2, g) (nI j) := by
  have c : (nI j).toNatClampNeg = j := nI_clamp (by omega)
  unfold wpX_agreement
  dsimp only
  refine xl_er hB (fun hb => absurd rfl (ld_out hj (by omega) hb)) (fun i hi ei => br_t rfl ⟨vp_in_nI (by omega) (by decide), ?_⟩)
  rw [c]
  exact hp
theorem xl_fnd {post : Int32 → Prop} {q : Nat} (hd3 : d ≤ 3) (hB : ld_rk d w n t 2197 ≤ 13) (hq : q < 2197) (hm : ld_msg d q = true) (hL : ld_L d w n t 2197 a0 a1 a2 g) (hp1 : ld_ls d w n t q = true → post (nI (ld_rk d w n t q))) (hp0 : ld_ls d w n t q = false → post (-1)) : wpX_find post (nI n, nI d, nI (ld_rk d w n t 2197), w, a0, a1, a2, g) (nI (q / 169)) (nI (q / 13 % 13)) (nI (q % 13)) := by
  refine br_f (ld_neg (by omega) (by decide)) (xl_msg (by omega) (fun M => br_f (by decide) ?_) (fun M => absurd ((ld_M_q hq).mpr hm) M))
  exact ⟨_, xl_find hB hq hL hp1 hp0 _ 0 (Nat.zero_add _) (fun _ => Nat.zero_le _)⟩
def ld_fd (l : Bool) (k j : Nat) : Int32 := if l = true ∧ k < j then 1 else 0
def ld_at (l : Bool) (k j : Nat) : Int32 := if l = true ∧ k < j then nI k else -1
variable {post : Int32 → Prop} {L : Nat} {xs : Nat → Int32} {J87 : Int32 → Int32 → Int32 → Int32 → Int32 → Int32 → Int32 → Int32 → Int32 → (Nat → Int32) → (Nat → Int32) → (Nat → Int32) → (Nat → Int32) → (Nat → Int32) → Prop} {J934 : Int32 → Prop} {x1 x2 x4 x5 x6 x7 x11 x12 : Int32} {kc ks : Nat}
theorem ll_1092 {q m : Nat} (hn : n ≤ 13) (hd3 : d ≤ 3) (ht : t < 2 ^ 31) (hB : ld_rk d w n t 2197 ≤ 13) (hq : q < 2197) (hm : ld_msg d q = true) (hL : ld_L d w n t 2197 a0 a1 a2 g) (hJ : J934 (nI (m + 1))) :
    wL_law_1092 post L xs J87 J934 x1 x2 x4 x5 x6 x7 (nI t) 1 x11 x12 (nI (ld_rk d w n t 2197)) (nI n) (nI d) (lN (ld_P w n)) (nI m) (nI (q / 169)) (nI (q / 13 % 13)) (nI (q % 13)) (nI (ld_ag w n q)) (ld_fd (ld_ls d w n t q) (ld_rk d w n t q) (ld_rk d w n t 2197)) (ld_at (ld_ls d w n t q) (ld_rk d w n t q) (ld_rk d w n t 2197)) kc ks (nI n) (nI d) (nI (ld_rk d w n t 2197)) w a0 a1 a2 g := by
  have hag : ld_ag w n q ≤ 13 := Nat.le_trans (ld_cnt_le _ _) hn
  refine pk_lt (ld_ag w n q) t (fun h => ?_) (fun h => ?_)
  · have hl : ld_ls d w n t q = false := by
      cases e : ld_ls d w n t q with
      | false => rfl
      | true => have := (ld_ls_iff.mp e).2; omega
    refine br_t ?_ (xl_fnd hd3 hB hq hm hL (fun z => absurd (z.symm.trans hl) (by decide)) (fun _ => br_t rfl (nm_r (nI_1 m) hJ)))
    rw [hl]
    exact if_neg (fun z => absurd z.1 (by decide))
  · have hl : ld_ls d w n t q = true := ld_ls_iff.mpr ⟨hm, h⟩
    have hlt : ld_rk d w n t q < ld_rk d w n t 2197 := ld_cnt_lt (p := ld_ls d w n t) hq hl
    have e1 : ld_fd (ld_ls d w n t q) (ld_rk d w n t q) (ld_rk d w n t 2197) = 1 := if_pos ⟨hl, hlt⟩
    have e2 : ld_at (ld_ls d w n t q) (ld_rk d w n t q) (ld_rk d w n t 2197) = nI (ld_rk d w n t q) := if_pos ⟨hl, hlt⟩
    rw [e2]
    refine br_t e1 (xl_fnd hd3 hB hq hm hL (fun _ => br_t rfl (xl_agr hB hlt ?_)) (fun z => absurd (z.symm.trans hl) (by decide)))
    exact br_t (hL q hq hl).2.2.2 (nm_r (nI_1 m) hJ)
theorem ll_1016 {q m : Nat} (hn : n ≤ 13) (hd1 : 1 ≤ d) (hd3 : d ≤ 3) (ht : t < 2 ^ 31) (hB : ld_rk d w n t 2197 ≤ 13) (hq : q < 2197) (hm : ld_msg d q = true) (hL : ld_L d w n t 2197 a0 a1 a2 g) (hJ : J934 (nI (m + 1))) :
    ∀ e j, j + e = ld_rk d w n t 2197 → wL_law_1016 post L xs J87 J934 x1 x2 x4 x5 x6 x7 (nI t) 1 x11 x12 (nI (ld_rk d w n t 2197)) (nI n) (nI d) (lN (ld_P w n)) (nI m) (nI (q / 169)) (nI (q / 13 % 13)) (nI (q % 13)) (nI (ld_ag w n q)) kc ks (nI n) (nI d) (nI (ld_rk d w n t 2197)) w a0 a1 a2 g (e + 1) (ld_fd (ld_ls d w n t q) (ld_rk d w n t q) j) (ld_at (ld_ls d w n t q) (ld_rk d w n t q) j) (nI j) := by
  intro e
  induction e with
  | zero =>
    intro j hj
    have hj' : j = ld_rk d w n t 2197 := by omega
    have fin := ll_1092 (post := post) (L := L) (xs := xs) (J87 := J87) (J934 := J934) (x1 := x1) (x2 := x2) (x4 := x4) (x5 := x5) (x6 := x6) (x7 := x7) (x11 := x11) (x12 := x12) (kc := kc) (ks := ks) hn hd3 ht hB hq hm hL hJ
    rw [hj']
    exact br_c (fun _ => fin) (fun _ => br_t (Int32.le_refl _) fin)
  | succ e ih =>
    intro j hj
    have nxt := ih (j + 1) (by omega)
    obtain ⟨r, hr, hrl, hrk⟩ := ld_cnt_ex (p := ld_ls d w n t) 2197 j (by unfold ld_rk at hj; omega)
    have hrm := ld_lsM hrl
    rw [ld_msg_iff] at hrm
    have hqm := hm
    rw [ld_msg_iff] at hqm
    have ent := hL r hr hrl
    rw [show ld_rk d w n t r = j from hrk] at ent
    obtain ⟨e0, e1, e2, e3⟩ := ent
    have no : ¬ r = q → ld_fd (ld_ls d w n t q) (ld_rk d w n t q) (j + 1) = ld_fd (ld_ls d w n t q) (ld_rk d w n t q) j ∧ ld_at (ld_ls d w n t q) (ld_rk d w n t q) (j + 1) = ld_at (ld_ls d w n t q) (ld_rk d w n t q) j := by
      intro hne
      have h : (ld_ls d w n t q = true ∧ ld_rk d w n t q < j + 1) ↔ (ld_ls d w n t q = true ∧ ld_rk d w n t q < j) := by
        constructor
        · rintro ⟨h1, h2⟩
          have : ¬ j = ld_rk d w n t q := fun z => hne (ld_cnt_inj (p := ld_ls d w n t) hrl h1 (hrk.trans z))
          exact ⟨h1, by omega⟩
        · exact fun z => ⟨z.1, by omega⟩
      unfold ld_fd ld_at
      exact ⟨by simp only [h], by simp only [h]⟩
    have goNo : ¬ r = q → wL_law_1016 post L xs J87 J934 x1 x2 x4 x5 x6 x7 (nI t) 1 x11 x12 (nI (ld_rk d w n t 2197)) (nI n) (nI d) (lN (ld_P w n)) (nI m) (nI (q / 169)) (nI (q / 13 % 13)) (nI (q % 13)) (nI (ld_ag w n q)) kc ks (nI n) (nI d) (nI (ld_rk d w n t 2197)) w a0 a1 a2 g (e + 1) (ld_fd (ld_ls d w n t q) (ld_rk d w n t q) j) (ld_at (ld_ls d w n t q) (ld_rk d w n t q) j) (nI (j + 1)) := by
      intro hne
      obtain ⟨n1, n2⟩ := no hne
      rw [n1, n2] at nxt
      exact nxt
    have goYes : r = q → wL_law_1016 post L xs J87 J934 x1 x2 x4 x5 x6 x7 (nI t) 1 x11 x12 (nI (ld_rk d w n t 2197)) (nI n) (nI d) (lN (ld_P w n)) (nI m) (nI (q / 169)) (nI (q / 13 % 13)) (nI (q % 13)) (nI (ld_ag w n q)) kc ks (nI n) (nI d) (nI (ld_rk d w n t 2197)) w a0 a1 a2 g (e + 1) (ld_fd (ld_ls d w n t q) (ld_rk d w n t q) j + 1) (nI j) (nI (j + 1)) := by
      intro hy
      subst hy
      have k0 : ld_rk d w n t r = j := hrk
      have y1 : ld_fd (ld_ls d w n t r) (ld_rk d w n t r) j + 1 = ld_fd (ld_ls d w n t r) (ld_rk d w n t r) (j + 1) := by
        rw [show ld_fd (ld_ls d w n t r) (ld_rk d w n t r) j = 0 from if_neg (fun z => by omega), show ld_fd (ld_ls d w n t r) (ld_rk d w n t r) (j + 1) = 1 from if_pos ⟨hrl, by omega⟩]
        rfl
      have y2 : nI j = ld_at (ld_ls d w n t r) (ld_rk d w n t r) (j + 1) := by
        rw [show ld_at (ld_ls d w n t r) (ld_rk d w n t r) (j + 1) = nI (ld_rk d w n t r) from if_pos ⟨hrl, by omega⟩, k0]
      rw [y1]
      have nx := nxt
      rw [← y2] at nx
      exact nx
    have k61 : nI (r / 169) = nI (q / 169) → nI (r / 13 % 13) = nI (q / 13 % 13) → wL_law_1061 post L xs J87 J934 (wL_law_1016 post L xs J87 J934 x1 x2 x4 x5 x6 x7 (nI t) 1 x11 x12 (nI (ld_rk d w n t 2197)) (nI n) (nI d) (lN (ld_P w n)) (nI m) (nI (q / 169)) (nI (q / 13 % 13)) (nI (q % 13)) (nI (ld_ag w n q)) kc ks (nI n) (nI d) (nI (ld_rk d w n t 2197)) w a0 a1 a2 g (e + 1)) x1 x2 x4 x5 x6 x7 (nI t) 1 x11 x12 (nI (ld_rk d w n t 2197)) (nI n) (nI d) (lN (ld_P w n)) (nI m) (nI (q / 169)) (nI (q / 13 % 13)) (nI (q % 13)) (nI (ld_ag w n q)) (ld_fd (ld_ls d w n t q) (ld_rk d w n t q) j) (ld_at (ld_ls d w n t q) (ld_rk d w n t q) j) (nI j) kc ks (nI n) (nI d) (nI (ld_rk d w n t 2197)) w a0 a1 a2 g := by
      intro z0 z1
      refine pk_lt d 3 (fun h => nm_e (nm_r (nI_1 j) (goYes ?_))) (fun h => xl_cf2 hB (by omega) h hd3 ?_)
      · refine ld_qeq hr hq z0 z1 (congrArg nI ?_)
        omega
      · rw [e2]
        exact br_c (fun z2 => nm_e (nm_r (nI_1 j) (goYes (ld_qeq hr hq z0 z1 z2)))) (fun z2 => nm_r (nI_1 j) (goNo (fun z => z2 (by rw [z]))))
    refine br_f (nI_ge (b := 2197) (by omega) (by decide)) (br_f (nI_ge (by omega) (by omega)) (xl_cf0 hB (by omega) hd1 hd3 ?_))
    rw [e0]
    refine br_c (fun z0 => pk_lt d 2 (fun h => k61 z0 (congrArg nI ?_)) (fun h => xl_cf1 hB (by omega) h hd3 ?_)) (fun z0 => nm_r (nI_1 j) (goNo (fun z => z0 (by rw [z]))))
    · omega
    · rw [e1]
      exact br_c (fun z1 => k61 z0 z1) (fun z1 => nm_r (nI_1 j) (goNo (fun z => z1 (by rw [z]))))
theorem ld_perm {a b c : Nat} (ha : a < 13) (hb : b < 13) (hc : c < 13) : 169 * a + 13 * b + c < 2197 ∧ (169 * a + 13 * b + c) / 169 = a ∧ (169 * a + 13 * b + c) / 13 % 13 = b ∧ (169 * a + 13 * b + c) % 13 = c := by
  refine ⟨?_, ?_, ?_, ?_⟩ <;> omega
theorem ll_934 (hn : n ≤ 13) (hd1 : 1 ≤ d) (hd3 : d ≤ 3) (ht : t < 2 ^ 31) (hW : ld_W w n) (hB : ld_rk d w n t 2197 ≤ 13) (hL : ld_L d w n t 2197 a0 a1 a2 g) (hJ : J87 x5 x6 x7 (nI t) 1 (x12 + 1) (nI n) (nI d) (nI (ld_rk d w n t 2197)) w a0 a1 a2 g) :
    ∀ e m, m + e = 2197 → wL_law_934 post L xs J87 x1 x2 x4 x5 x6 x7 (nI t) 1 x11 x12 (nI (ld_rk d w n t 2197)) (nI n) (nI d) (lN (ld_P w n)) kc ks (nI n) (nI d) (nI (ld_rk d w n t 2197)) w a0 a1 a2 g (e + 1) (nI m) := by
  intro e
  induction e with
  | zero =>
    intro m hm
    have : m = 2197 := by omega
    subst this
    exact br_t (Int32.le_refl _) (nm_e hJ)
  | succ e ih =>
    intro m hm
    have nxt := ih (m + 1) (by omega)
    obtain ⟨q, hq, f1, f2, f3⟩ : ∃ q, q < 2197 ∧ q / 169 = m % 13 ∧ q / 13 % 13 = m / 13 % 13 ∧ q % 13 = m / 169 := ⟨_, ld_perm (Nat.mod_lt _ (by decide)) (Nat.mod_lt _ (by decide)) (by omega)⟩
    refine br_f (nI_ge (b := 2197) (by omega) (by decide)) ⟨by decide, nm_r (ld_rem (by omega)) ⟨by decide, by decide, nm_r (ld_rem2 (by omega)) ⟨by decide, nm_r (ld_div9 (by omega)) ?_⟩⟩⟩
    rw [← f1, ← f2, ← f3]
    have k92 : (2 ≤ d ∨ q / 13 % 13 = 0) → (3 ≤ d ∨ q % 13 = 0) → wL_law_992 post L xs J87 (wL_law_934 post L xs J87 x1 x2 x4 x5 x6 x7 (nI t) 1 x11 x12 (nI (ld_rk d w n t 2197)) (nI n) (nI d) (lN (ld_P w n)) kc ks (nI n) (nI d) (nI (ld_rk d w n t 2197)) w a0 a1 a2 g (e + 1)) x1 x2 x4 x5 x6 x7 (nI t) 1 x11 x12 (nI (ld_rk d w n t 2197)) (nI n) (nI d) (lN (ld_P w n)) (nI m) (nI (q / 169)) (nI (q / 13 % 13)) (nI (q % 13)) kc ks (nI n) (nI d) (nI (ld_rk d w n t 2197)) w a0 a1 a2 g := by
      intro g1 g2
      unfold wL_law_992
      have st := ll_1016 (post := post) (L := L) (xs := xs) (J87 := J87) (x1 := x1) (x2 := x2) (x4 := x4) (x5 := x5) (x6 := x6) (x7 := x7) (x11 := x11) (x12 := x12) (kc := kc) (ks := ks) hn hd1 hd3 ht hB hq (ld_msg_iff.mpr ⟨g1, g2⟩) hL nxt _ 0 (Nat.zero_add _)
      rw [show ld_fd (ld_ls d w n t q) (ld_rk d w n t q) 0 = 0 from if_neg (fun z => by omega), show ld_at (ld_ls d w n t q) (ld_rk d w n t q) 0 = -1 from if_neg (fun z => by omega)] at st
      exact ll_ag hn hW hq ⟨_, st⟩
    have k78 : (2 ≤ d ∨ q / 13 % 13 = 0) → wL_law_978 post L xs J87 (wL_law_934 post L xs J87 x1 x2 x4 x5 x6 x7 (nI t) 1 x11 x12 (nI (ld_rk d w n t 2197)) (nI n) (nI d) (lN (ld_P w n)) kc ks (nI n) (nI d) (nI (ld_rk d w n t 2197)) w a0 a1 a2 g (e + 1)) x1 x2 x4 x5 x6 x7 (nI t) 1 x11 x12 (nI (ld_rk d w n t 2197)) (nI n) (nI d) (lN (ld_P w n)) (nI m) (nI (q / 169)) (nI (q / 13 % 13)) (nI (q % 13)) kc ks (nI n) (nI d) (nI (ld_rk d w n t 2197)) w a0 a1 a2 g := by
      intro g1
      exact pk_le 3 d (fun h => k92 g1 (Or.inl h)) (fun h => pk_eq (q % 13) 0 (fun h2 => k92 g1 (Or.inr h2)) (fun _ => nm_r (nI_1 m) nxt))
    exact pk_le 2 d (fun h => k78 (Or.inl h)) (fun h => pk_eq (q / 13 % 13) 0 (fun h2 => k78 (Or.inr h2)) (fun _ => nm_r (nI_1 m) nxt))
theorem ll_873 (hn : n ≤ 13) (hd1 : 1 ≤ d) (hd3 : d ≤ 3) (ht : t < 2 ^ 31) (hW : ld_W w n) (hB : ld_rk d w n t 2197 ≤ 13) (hL : ld_L d w n t 2197 a0 a1 a2 g) (hJ : J87 x5 x6 x7 (nI t) 1 (x12 + 1) (nI n) (nI d) (nI (ld_rk d w n t 2197)) w a0 a1 a2 g) :
    ∀ e i, i + e = n → wL_law_873 post L xs J87 x1 x2 x4 x5 x6 x7 (nI t) 1 x11 x12 (nI (ld_rk d w n t 2197)) (nI n) (nI d) kc ks (nI n) (nI d) (nI (ld_rk d w n t 2197)) w a0 a1 a2 g (e + 1) (lN (ld_P w i)) (nI i) := by
  intro e
  induction e with
  | zero =>
    intro i hi
    have hi' : i = n := by omega
    rw [hi']
    have fin := ll_934 (post := post) (L := L) (xs := xs) (J87 := J87) (x1 := x1) (x2 := x2) (x4 := x4) (x5 := x5) (x6 := x6) (x7 := x7) (x11 := x11) (x12 := x12) (kc := kc) (ks := ks) hn hd1 hd3 ht hW hB hL hJ 2197 0 (by omega)
    exact br_c (fun _ => ⟨_, fin⟩) (fun _ => br_t (Int32.le_refl _) ⟨_, fin⟩)
  | succ e ih =>
    intro i hi
    have nxt := ih (i + 1) (by omega)
    have c : (nI i).toNatClampNeg = i := nI_clamp (by omega)
    have pk := ld_pack hn hW (i := i) (by omega)
    refine br_f (nI_ge (b := 13) (by omega) (by decide)) (br_f (nI_ge (by omega) (by omega)) ?_)
    unfold wpX_symbolAt
    dsimp only
    refine xl_pos (by omega) (fun hb => absurd rfl (ld_out (a := i) (by omega) (by omega) hb)) (fun j hj ej => br_f (by decide) ⟨vp_in_nI (by omega) (by decide), ?_⟩)
    rw [c]
    rcases hW i (by omega) with he | ⟨s, hs, he⟩
    · rw [show nI (ld_nib (w i)) = 15 by rw [he]; rfl] at pk
      exact br_t (by rw [he]; decide) (nm_r pk (nm_r (nI_1 i) nxt))
    · rw [show nI (ld_nib (w i)) = w i by rw [he, ld_nib_s hs]] at pk
      exact br_f (by rw [he]; exact nI_pos (by omega)) (br_t (by rw [he]; exact nI_le (b := 12) (by omega) (by decide)) (nm_r pk (nm_r (nI_1 i) nxt)))
end
end
section
/-! the law's walk: whatever the script chooses, each step keeps the invariant; the check passes at every list -/
section
variable {n d : Nat} {post : Int32 → Prop} {L : Nat} {xs : Nat → Int32} {J87 : Int32 → Int32 → Int32 → Int32 → Int32 → Int32 → Int32 → Int32 → Int32 → (Nat → Int32) → (Nat → Int32) → (Nat → Int32) → (Nat → Int32) → (Nat → Int32) → Prop} {x1 x2 x4 x5 x6 x7 x8 x9 x11 x12 x21 x22 : Int32} {kc ks : Nat} {ls : Int32} {w a0 a1 a2 g : Nat → Int32}
theorem xl_size {post : Int32 → Prop} {fn fk : Int32} (h : post ls) : wpX_size post (fn, fk, ls, w, a0, a1, a2, g) := h
def ld_J (n d : Nat) (x12 : Int32) (J87 : Int32 → Int32 → Int32 → Int32 → Int32 → Int32 → Int32 → Int32 → Int32 → (Nat → Int32) → (Nat → Int32) → (Nat → Int32) → (Nat → Int32) → (Nat → Int32) → Prop) : Prop :=
  ∀ (y5 y6 y7 y8 y9 ls : Int32) (w a0 a1 a2 g : Nat → Int32), ld_I n d y8 y9 ls w a0 a1 a2 g → J87 y5 y6 y7 y8 y9 (x12 + 1) (nI n) (nI d) ls w a0 a1 a2 g
theorem ll_829 (hN : ld_N n d) (hJ : ld_J n d x12 J87) (I : ld_I n d x8 x9 ls w a0 a1 a2 g) : wL_law_829 post L xs J87 x1 x2 x4 x5 x6 x7 x8 x9 x11 x12 kc ks (nI n) (nI d) ls w a0 a1 a2 g := by
  obtain ⟨n4, n13, d1, d3⟩ := hN
  have J := hJ x5 x6 x7 x8 x9 ls w a0 a1 a2 g I
  unfold wL_law_829
  refine xl_size ?_
  rcases I.2 with e | ⟨t, ht, hlt, hL, e, e8, e9⟩
  · exact br_t (by rw [e]; decide) (nm_e J)
  · have hB := ld_bound d1 d3 n13 hlt
    subst e e8 e9
    refine br_f (nI_pos (by omega)) (br_f (by decide) (br_t (nI_le (b := 2197) (by omega) (by decide)) ?_))
    unfold wpX_length wpX_dimension
    dsimp only
    exact ⟨_, ll_873 n13 d1 d3 ht I.1 hB hL J n 0 (by omega)⟩
theorem ll_806 (hN : ld_N n d) (hJ : ld_J n d x12 J87) (I : ld_I n d x8 x9 ls w a0 a1 a2 g) : wL_law_806 post L xs J87 x1 x2 x4 x5 x6 x7 x8 x9 x11 x12 x21 x22 kc ks (nI n) (nI d) ls w a0 a1 a2 g := by
  refine br_c (fun _ => ll_829 hN hJ I) (fun _ => kp_decode hN I x22 ?_ ?_)
  · exact br_t rfl (ll_829 hN hJ I)
  · intro K b0 b1 b2 g' hK I'
    exact br_f (ld_neg (by omega) (by decide)) (ll_829 hN hJ I')
theorem ll_450 {z0 z1 z2 z3 : Int32} (hN : ld_N n d) (hJ : ld_J n d x12 J87) (I : ld_I n d x8 x9 ls w a0 a1 a2 g) : wL_law_450 post L xs J87 x1 x2 x4 x5 x6 x7 x8 x9 x11 x12 x21 x22 z0 z1 z2 z3 kc ks (nI n) (nI d) ls w a0 a1 a2 g := by
  unfold wL_law_450
  exact kp_write hN I _ _ _ _ (fun r ls' w' I' => ll_806 hN hJ I')
theorem ll_448 {x19 z0 z1 z2 : Int32} (hN : ld_N n d) (hJ : ld_J n d x12 J87) (I : ld_I n d x8 x9 ls w a0 a1 a2 g) : wL_law_448 post L xs J87 x1 x2 x4 x5 x6 x7 x8 x9 x11 x12 x19 x21 x22 z0 z1 z2 kc ks (nI n) (nI d) ls w a0 a1 a2 g := by
  unfold wL_law_448
  exact ll_450 hN hJ I
theorem ll_418 {x18 x19 x23 z0 : Int32} (hN : ld_N n d) (hJ : ld_J n d x12 J87) (I : ld_I n d x8 x9 ls w a0 a1 a2 g) : wL_law_418 post L xs J87 x1 x2 x4 x5 x6 x8 x9 x11 x12 x18 x19 x21 x22 x23 z0 kc ks (nI n) (nI d) ls w a0 a1 a2 g := by
  unfold wL_law_418
  exact br_c (fun _ => ll_mod 3 (by decide) (by decide) rfl (fun _ _ => br_c (fun _ => ll_448 hN hJ I) (fun _ => ll_450 hN hJ I))) (fun _ => ll_448 hN hJ I)
theorem ll_400 {x17 x18 x19 x23 z0 : Int32} (hN : ld_N n d) (hJ : ld_J n d x12 J87) (I : ld_I n d x8 x9 ls w a0 a1 a2 g) : wL_law_400 post L xs J87 x1 x2 x4 x5 x8 x9 x11 x12 x17 x18 x19 x21 x22 x23 z0 kc ks (nI n) (nI d) ls w a0 a1 a2 g := by
  unfold wL_law_400
  exact br_c (fun _ => ll_418 hN hJ I) (fun _ => ll_mod 13 (by decide) (by decide) rfl (fun _ _ => ll_418 hN hJ I))
theorem ll_375 {x15 x16 x17 x18 x19 x23 : Int32} (hN : ld_N n d) (hJ : ld_J n d x12 J87) (I : ld_I n d x8 x9 ls w a0 a1 a2 g) : wL_law_375 post L xs J87 x1 x2 x4 x8 x9 x11 x12 x15 x16 x17 x18 x19 x21 x22 x23 kc ks (nI n) (nI d) ls w a0 a1 a2 g := by
  unfold wL_law_375
  exact ll_mod 13 (by decide) (by decide) rfl (fun _ _ => br_c (fun _ => ll_400 hN hJ I) (fun _ => ll_mod 13 (by decide) (by decide) rfl (fun _ _ => ll_400 hN hJ I)))
theorem ll_593 {x19 : Int32} (hN : ld_N n d) (hJ : ld_J n d x12 J87) (I : ld_I n d x8 x9 ls w a0 a1 a2 g) : wL_law_593 post L xs J87 x1 x2 x4 x5 x6 x7 x8 x9 x11 x12 x19 x21 x22 kc ks (nI n) (nI d) ls w a0 a1 a2 g := by
  unfold wL_law_593
  exact kp_write hN I _ _ _ _ (fun r ls' w' I' => ll_806 hN hJ I')
theorem ll_469 {x15 x16 x17 x19 : Int32} (hN : ld_N n d) (hJ : ld_J n d x12 J87) (I : ld_I n d x8 x9 ls w a0 a1 a2 g) : wL_law_469 post L xs J87 (nI n) x2 x4 x5 x6 x7 x8 x9 x11 x12 x15 x16 x17 x19 x21 x22 kc ks (nI n) (nI d) ls w a0 a1 a2 g := by
  have n4 := hN.1
  have n13 := hN.2.1
  unfold wL_law_469
  refine ll_mod 12 (by decide) (by decide) rfl (fun _ _ => nm_e ?_)
  refine ll_mod n (by omega) (by omega) rfl (fun _ _ => ?_)
  refine ll_mod n (by omega) (by omega) rfl (fun _ _ => ?_)
  exact br_c (fun _ => ⟨by decide, nm_e (ll_593 hN hJ I)⟩) (fun _ => br_c (fun _ => ⟨by decide, nm_e ⟨by decide, nm_e (ll_593 hN hJ I)⟩⟩) (fun _ => ⟨by decide, nm_e ⟨by decide, nm_e ⟨by decide, nm_e (ll_593 hN hJ I)⟩⟩⟩))
theorem ll_803 {z0 z1 : Int32} (hN : ld_N n d) (hJ : ld_J n d x12 J87) (I : ld_I n d x8 x9 ls w a0 a1 a2 g) : wL_law_803 post L xs J87 x1 x2 x4 x5 x6 x7 x8 x9 x11 x12 x21 z0 z1 kc ks (nI n) (nI d) ls w a0 a1 a2 g := by
  unfold wL_law_803
  exact nm_e (ll_806 hN hJ I)
theorem ll_270 {z0 z1 : Int32} (hN : ld_N n d) (hJ : ld_J n d x12 J87) (I : ld_I n d x8 x9 ls w a0 a1 a2 g) : wL_law_270 post L xs J87 x1 x2 x4 x5 x6 x7 x8 x9 x11 x12 x21 z0 z1 kc ks (nI n) (nI d) ls w a0 a1 a2 g := by
  unfold wL_law_270
  exact nm_e (ll_806 hN hJ I)
theorem ll_643 {z0 : Int32} (hN : ld_N n d) (hJ : ld_J n d x12 J87) (I : ld_I n d x8 x9 ls w a0 a1 a2 g) : wL_law_643 post L xs J87 x1 x2 x4 x5 x6 x7 x8 x9 x11 x12 x21 x22 z0 kc ks (nI n) (nI d) ls w a0 a1 a2 g := by
  unfold wL_law_643
  exact kp_correct hN I _ (fun r ls' w' I' => ll_806 hN hJ I')
theorem ll_683 {x24 : Int32} (hN : ld_N n d) (hJ : ld_J n d x12 J87) : ∀ e i, i + e = 13 → ∀ ls w, ld_I n d x8 x9 ls w a0 a1 a2 g → wL_law_683 post L xs J87 x1 x2 x4 x5 x6 x7 x8 x9 x11 x12 x21 x22 x24 kc ks (e + 1) (nI i) (nI n) (nI d) ls w a0 a1 a2 g := by
  intro e
  induction e with
  | zero =>
    intro i hi ls w I
    have : i = 13 := by omega
    subst this
    exact br_t (Int32.le_refl _) (ll_806 hN hJ I)
  | succ e ih =>
    intro i hi ls w I
    have nxt := ih (i + 1) (by omega)
    refine br_f (nI_ge (b := 13) (by omega) (by decide)) (br_c (fun _ => ?_) (fun _ => nm_r (nI_1 i) (nxt ls w I)))
    exact kp_erase hN I _ (fun r ls' w' I' => nm_r (nI_1 i) (nxt ls' w' I'))
theorem ll_248 {x18 : Int32} (hN : ld_N n d) (hJ : ld_J n d x12 J87) (I : ld_I n d x8 x9 ls w a0 a1 a2 g) : wL_law_248 post L xs J87 x1 x2 x4 x5 x6 x7 x8 x9 x11 x12 x18 kc ks (nI n) (nI d) ls w a0 a1 a2 g := by
  unfold wL_law_248
  exact kp_low hN (fun r => ll_mod 5 (by decide) (by decide) rfl (fun _ _ => br_c (fun _ => ll_270 hN hJ I) (fun _ => ll_270 hN hJ I)))
theorem ll_302 {x15 x16 x17 x18 x19 x20 z0 : Int32} (hN : ld_N n d) (hJ : ld_J n d x12 J87) (I : ld_I n d x8 x9 ls w a0 a1 a2 g) : wL_law_302 post L xs J87 (nI n) x2 x4 x5 x6 x7 x8 x9 x11 x12 x15 x16 x17 x18 x19 x20 x21 x22 z0 kc ks (nI n) (nI d) ls w a0 a1 a2 g := by
  have n4 := hN.1
  have n13 := hN.2.1
  have hpw := ld_pow (n := n) (by omega)
  have hp1 : 1 ≤ 2 ^ n := Nat.one_le_two_pow
  unfold wL_law_302
  refine br_c (fun _ => ?_) (fun _ => br_c (fun _ => ?_) (fun _ => br_c (fun _ => ?_) (fun _ => br_c (fun _ => ll_375 hN hJ I) (fun _ => br_c (fun _ => ll_375 hN hJ I) (fun _ => br_c (fun _ => ll_469 hN hJ I) (fun _ => br_c (fun _ => ll_469 hN hJ I) (fun _ => br_c (fun _ => ?_) (fun _ => br_c (fun _ => ?_) (fun _ => br_c (fun _ => ?_) (fun _ => ?_))))))))))
  · exact ll_mod 15 (by decide) (by decide) rfl (fun _ _ => kp_put hN I _ _ (fun r ls' w' I' => ll_806 hN hJ I'))
  · exact kp_disturb hN I _ _ (fun r ls' w' I' => ll_806 hN hJ I')
  · exact kp_erase hN I _ (fun r ls' w' I' => ll_806 hN hJ I')
  · refine xl_size (br_c (fun _ => ll_643 hN hJ I) (fun h => ?_))
    rcases I.2 with e | ⟨t, ht, hlt, hL, e, e8, e9⟩
    · exact absurd (by rw [e]; decide) h
    · have hB := ld_bound hN.2.2.1 hN.2.2.2 n13 hlt
      exact ll_mod (ld_rk d w n t 2197 + 2) (by omega) (by omega) (by rw [e]; exact nI_add _ 2) (fun _ _ => ll_643 hN hJ I)
  · exact ll_mod (2 ^ n) (by omega) (by omega) (ld_one n (by omega)) (fun _ _ => nm_e ⟨_, ll_683 hN hJ 13 0 (by decide) ls w I⟩)
  · refine ll_mod n (by omega) (by omega) rfl (fun _ _ => kp_put hN I _ _ (fun r1 l1 w1 I1 => ?_))
    refine kp_write hN I1 _ _ _ _ (fun r2 l2 w2 I2 => ?_)
    refine kp_write hN I2 _ _ _ _ (fun r3 l3 w3 I3 => ?_)
    refine kp_correct hN I3 _ (fun r4 l4 w4 I4 => ?_)
    exact kp_best hN I4 (fun r => ll_806 hN hJ I4)
  · exact kp_low hN (fun r => br_c (fun _ => ll_mod 5 (by decide) (by decide) rfl (fun _ _ => ll_803 hN hJ I)) (fun _ => ll_803 hN hJ I))
end
theorem ll_87 {n d : Nat} {post : Int32 → Prop} {L : Nat} {xs : Nat → Int32} {x4 : Int32} {kc ks last : Nat} (hN : ld_N n d) (hL : L ≤ 260) (hlast : last ≤ 1000) (hp : post 1) :
    ∀ e s, s + e = last + 1 → ∀ (x5 x6 x7 x8 x9 ls : Int32) (w a0 a1 a2 g : Nat → Int32), ld_I n d x8 x9 ls w a0 a1 a2 g → wL_law_87 post L xs (nI n) (nI d) x4 (nI last) kc ks (e + 1) x5 x6 x7 x8 x9 (nI s) (nI n) (nI d) ls w a0 a1 a2 g := by
  have n4 := hN.1
  have n13 := hN.2.1
  have hpw := ld_pow (n := n) (by omega)
  have hp1 : 1 ≤ 2 ^ n := Nat.one_le_two_pow
  intro e
  induction e with
  | zero =>
    intro s hs x5 x6 x7 x8 x9 ls w a0 a1 a2 g I
    exact br_t (nI_lt (by omega) (by omega)) hp
  | succ e ih =>
    intro s hs x5 x6 x7 x8 x9 ls w a0 a1 a2 g I
    have hJ : ld_J n d (nI s) (wL_law_87 post L xs (nI n) (nI d) x4 (nI last) kc ks (e + 1)) := by
      intro y5 y6 y7 y8 y9 ls' w' b0 b1 b2 g' I'
      rw [nI_1]
      exact ih (s + 1) (by omega) y5 y6 y7 y8 y9 ls' w' b0 b1 b2 g' I'
    have e13 : (2 : Int32) + (5 * (nI s / 2)) = nI (2 + 5 * (s / 2)) := by
      rw [show nI s / 2 = nI (s / 2) from pk_div (d := 2) (by omega) (by decide) (by decide), show (5 : Int32) * nI (s / 2) = nI (5 * (s / 2)) from pk_mul 5 _]
      exact nI_add 2 _
    refine br_f (nI_nlt (by omega) (by omega)) ⟨by decide, nm_r e13 ?_⟩
    refine ll_cell (2 + 5 * (s / 2)) (by omega) (by omega) rfl (fun r38 => ?_)
    refine ll_cell (2 + 5 * (s / 2) + 1) (by omega) (by omega) (nI_add _ 1) (fun r39 => ?_)
    refine ll_cell (2 + 5 * (s / 2) + 2) (by omega) (by omega) (nI_add _ 2) (fun r40 => ?_)
    refine ll_cell (2 + 5 * (s / 2) + 3) (by omega) (by omega) (nI_add _ 3) (fun r41 => ?_)
    refine ll_cell (2 + 5 * (s / 2) + 4) (by omega) (by omega) (nI_add _ 4) (fun r42 => ?_)
    refine ll_mod (2 ^ n) (by omega) (by omega) (ld_one n (by omega)) (fun j43 _ => ?_)
    refine ll_mod (n + 2) (by omega) (by omega) (nI_add _ 2) (fun j44 _ => nm_e ⟨by decide, ?_⟩)
    refine br_c (fun _ => br_c (fun _ => ?_) (fun _ => ?_)) (fun _ => ?_)
    · exact kp_low hN (fun r => ll_806 hN hJ I)
    · exact xl_size (br_c (fun _ => ll_806 hN hJ I) (fun _ => br_c (fun _ => ll_248 hN hJ I) (fun _ => ll_mod 3 (by decide) (by decide) rfl (fun _ _ => br_c (fun _ => ll_806 hN hJ I) (fun _ => ll_248 hN hJ I)))))
    · exact br_c (fun _ => ll_302 hN hJ I) (fun _ => br_c (fun _ => ll_302 hN hJ I) (fun _ => ll_mod 12 (by decide) (by decide) rfl (fun _ _ => ll_302 hN hJ I)))
theorem ll_74 {n d : Nat} {post : Int32 → Prop} {L : Nat} {xs : Nat → Int32} {x4 x5 x6 x7 x8 x9 : Int32} {kc ks R : Nat} {ls : Int32} {w a0 a1 a2 g : Nat → Int32} (hN : ld_N n d) (hL : L ≤ 260) (hR1 : 1 ≤ R) (hR : R ≤ 100) (hp : post 1) (I : ld_I n d x8 x9 ls w a0 a1 a2 g) : wL_law_74 post L xs (nI n) (nI d) x4 x5 x6 x7 x8 x9 (nI R) kc ks (nI n) (nI d) ls w a0 a1 a2 g := by
  have e : (2 * nI R) - 1 = nI (2 * R - 1) := by
    rw [show (2 : Int32) * nI R = nI (2 * R) from pk_mul 2 R]
    exact pk_sub (b := 1) (by omega)
  unfold wL_law_74
  exact nm_r e ⟨_, ll_87 hN hL (by omega) hp (2 * R - 1 + 1) 0 (by omega) x5 x6 x7 x8 x9 ls w a0 a1 a2 g I⟩
theorem i_vc (xs : Nat → Int32) (L : Nat) (hL : L ≤ 260) : wpL_law (fun r => r = 1) L xs := by
  unfold wpL_law
  refine ll_cell 0 (by omega) (by decide) rfl (fun r1 => ll_mod 10 (by decide) (by decide) rfl (fun j hj => nm_r (nI_add 4 j) ?_))
  refine ll_cell 1 (by omega) (by decide) rfl (fun r4 => ll_mod 3 (by decide) (by decide) rfl (fun i hi => nm_r (nI_add 1 i) ?_))
  have hN : ld_N (4 + j) (1 + i) := ⟨by omega, by omega, by omega, by omega⟩
  generalize 4 + j = n at hN
  generalize 1 + i = d at hN
  have I0 : ∀ a0 a1 a2 g, ld_I n d 0 0 (-7) (ld_in 13) a0 a1 a2 g := fun _ _ _ _ => kp_no (fun x hx => Or.inl (ld_in_lo (by have := hN.2.1; omega)))
  obtain ⟨n4, n13, d1, d3⟩ := hN
  have hN : ld_N n d := ⟨n4, n13, d1, d3⟩
  refine ⟨5, 65, by decide, by decide, ?_⟩
  refine ⟨by decide, by decide, by decide, by decide, by decide, by decide, by decide, by decide, by decide, by decide, ?_⟩
  refine br_t (nI_le (a := 4) n4 (by omega)) (br_t (nI_le (b := 13) n13 (by decide)) ?_)
  refine br_t (nI_le (a := 1) d1 (by omega)) (br_t (nI_le (b := 3) d3 (by decide)) ⟨13 + 1, xl_inl ?_ 13 0 (by decide)⟩)
  refine nm_e ?_
  refine pk_lt 12 L (fun h => ⟨by decide, ?_⟩) (fun h => ll_74 (R := 2) hN hL (by decide) (by decide) rfl (I0 _ _ _ _))
  have eR : ((Int32.ofNat L) + 2) / 5 = nI ((L + 2) / 5) := by
    rw [show Int32.ofNat L + 2 = nI (L + 2) from nI_add L 2]
    exact pk_div (d := 5) (by omega) (by decide) (by decide)
  rw [eR]
  exact ll_74 hN hL (by omega) (by omega) rfl (I0 _ _ _ _)
end
