/-! the code: messages by number q = 169 c0 + 13 c1 + c2, agreement, the list -/
def ld_cs (a b c x : Nat) : Nat := (a + b * x + c * x * x) % 13
def ld_code (q x : Nat) : Nat := ld_cs (q / 169) (q / 13 % 13) (q % 13) x
theorem ld_cs_lt (a b c x : Nat) : ld_cs a b c x < 13 := Nat.mod_lt _ (by decide)
theorem ld_code_lt (q x : Nat) : ld_code q x < 13 := Nat.mod_lt _ (by decide)
def ld_agB (w : Nat → Int32) (q x : Nat) : Bool := decide (w x = nI (ld_code q x))
def ld_ag (w : Nat → Int32) (n q : Nat) : Nat := ld_cnt (ld_agB w q) n
def ld_rcB (w : Nat → Int32) (x : Nat) : Bool := decide (¬ w x = -1)
def ld_m (w : Nat → Int32) (n : Nat) : Nat := ld_cnt (ld_rcB w) n
def ld_msg (k q : Nat) : Bool := decide ((2 ≤ k ∨ q / 13 % 13 = 0) ∧ (3 ≤ k ∨ q % 13 = 0))
def ld_ls (k : Nat) (w : Nat → Int32) (n t q : Nat) : Bool := ld_msg k q && decide (t ≤ ld_ag w n q)
def ld_rk (k : Nat) (w : Nat → Int32) (n t q : Nat) : Nat := ld_cnt (ld_ls k w n t) q
def ld_low (k m : Nat) : Nat :=
  if k = 1 ∨ m = 0 then 1
  else if k = 2 then (if m ≤ 2 then 2 else if m ≤ 5 then 3 else if m ≤ 9 then 4 else 5)
  else (if m ≤ 1 then 2 else if m ≤ 3 then 3 else if m ≤ 5 then 4 else if m ≤ 8 then 5 else if m ≤ 11 then 6 else 7)
theorem ld_msg_iff {k q : Nat} : ld_msg k q = true ↔ (2 ≤ k ∨ q / 13 % 13 = 0) ∧ (3 ≤ k ∨ q % 13 = 0) := decide_eq_true_iff
theorem ld_ls_iff {k : Nat} {w : Nat → Int32} {n t q : Nat} : ld_ls k w n t q = true ↔ ld_msg k q = true ∧ t ≤ ld_ag w n q := by
  unfold ld_ls
  rw [Bool.and_eq_true, decide_eq_true_iff]
theorem ld_root : ∀ a, a < 13 → ∀ b, b < 13 → ∀ c, c < 13 → (a = 0 ∧ b = 0 ∧ c = 0) ∨ ld_cnt (fun x => decide (ld_cs a b c x = 0)) 13 ≤ (if c = 0 then (if b = 0 then 0 else 1) else 2) := by
  decide +kernel
theorem ld_dif (a a' : Nat) (h : a < 13) (h' : a' < 13) : ∃ d, d < 13 ∧ (a = a' + d ∨ a + 13 = a' + d) ∧ (d = 0 → a = a') ∧ (a = a' → d = 0) := by
  by_cases e : a' ≤ a
  · exact ⟨a - a', by omega, by omega, by omega, by omega⟩
  · exact ⟨a + 13 - a', by omega, by omega, by omega, by omega⟩
theorem ld_lin {u u' v : Nat} (h : u % 13 = u' % 13) (e : ∃ j i, u + 13 * j = u' + v + 13 * i) : v % 13 = 0 := by
  obtain ⟨j, i, e⟩ := e
  omega
theorem ld_dsub {x a b c a' b' c' d e f : Nat} (ha : a = a' + d ∨ a + 13 = a' + d) (hb : b = b' + e ∨ b + 13 = b' + e) (hc : c = c' + f ∨ c + 13 = c' + f) (h : ld_cs a b c x = ld_cs a' b' c' x) : ld_cs d e f x = 0 := by
  refine ld_lin h ?_
  have h1 : ∃ j, a + 13 * j = a' + d := by
    rcases ha with ha | ha
    · exact ⟨0, by omega⟩
    · exact ⟨1, by omega⟩
  have h2 : ∃ j, b * x + 13 * j = b' * x + e * x := by
    rcases hb with hb | hb
    · exact ⟨0, by rw [hb, Nat.add_mul]; omega⟩
    · exact ⟨x, by rw [← Nat.add_mul, ← Nat.add_mul, hb]⟩
  have h3 : ∃ j, c * x * x + 13 * j = c' * x * x + f * x * x := by
    rcases hc with hc | hc
    · exact ⟨0, by rw [hc, Nat.add_mul, Nat.add_mul]; omega⟩
    · exact ⟨x * x, by rw [← Nat.mul_assoc, ← Nat.add_mul, ← Nat.add_mul, ← Nat.add_mul, ← Nat.add_mul, hc]⟩
  obtain ⟨j1, h1⟩ := h1
  obtain ⟨j2, h2⟩ := h2
  obtain ⟨j3, h3⟩ := h3
  exact ⟨j1 + j2 + j3, 0, by omega⟩
theorem ld_pair {k q r : Nat} (hk : 2 ≤ k) (hk3 : k ≤ 3) (hq : q < 2197) (hr : r < 2197) (hn : q ≠ r) (mq : ld_msg k q = true) (mr : ld_msg k r = true) : ld_cnt (fun x => decide (ld_code q x = ld_code r x)) 13 ≤ k - 1 := by
  rw [ld_msg_iff] at mq mr
  obtain ⟨d, hd, ed, d1, d2⟩ := ld_dif (q / 169) (r / 169) (by omega) (by omega)
  obtain ⟨e, he, ee, e1, e2⟩ := ld_dif (q / 13 % 13) (r / 13 % 13) (by omega) (by omega)
  obtain ⟨f, hf, ef, f1, f2⟩ := ld_dif (q % 13) (r % 13) (by omega) (by omega)
  have hi : ld_cnt (fun x => decide (ld_code q x = ld_code r x)) 13 ≤ ld_cnt (fun x => decide (ld_cs d e f x = 0)) 13 :=
    ld_cnt_im 13 fun x _ h => decide_eq_true (ld_dsub ed ee ef (of_decide_eq_true h))
  rcases ld_root d hd e he f hf with z | z
  · exfalso
    have := d1 z.1
    have := e1 z.2.1
    have := f1 z.2.2
    omega
  · by_cases f0 : f = 0
    · rw [if_pos f0] at z
      by_cases e0 : e = 0
      · rw [if_pos e0] at z; omega
      · rw [if_neg e0] at z; omega
    · rw [if_neg f0] at z
      have : ¬ (q % 13 = r % 13) := fun h => f0 (f2 h)
      omega
theorem ld_neg1 {s : Nat} (hs : s < 13) : ¬ nI s = -1 := by
  intro h
  have h1 := nI_toInt (n := s) (by omega)
  rw [h] at h1
  have h2 : (-1 : Int32).toInt = -1 := by decide
  omega
theorem ld_both {w : Nat → Int32} {n q r : Nat} (hn : n ≤ 13) : ld_cnt (fun x => ld_agB w q x && ld_agB w r x) n ≤ ld_cnt (fun x => decide (ld_code q x = ld_code r x)) 13 := by
  refine Nat.le_trans (ld_cnt_up _ hn) (ld_cnt_im 13 fun x _ h => ?_)
  have h' : ld_agB w q x = true ∧ ld_agB w r x = true := by
    have := h
    rw [Bool.and_eq_true] at this
    exact this
  have a := of_decide_eq_true h'.1
  have b := of_decide_eq_true h'.2
  have := ld_code_lt q x
  have := ld_code_lt r x
  exact decide_eq_true ((nI_eq (by omega) (by omega)).mp (a.symm.trans b))
theorem ld_rcA {w : Nat → Int32} {x : Nat} (q : Nat) (h : ld_rcB w x = false) : ld_agB w q x = false := by
  have h1 : w x = -1 := Decidable.of_not_not (of_decide_eq_false h)
  refine decide_eq_false fun e => ?_
  exact ld_neg1 (ld_code_lt q x) (e.symm.trans h1)
theorem ld_low2 : ∀ m, m < 14 → m + 6 < 4 * ld_low 2 m ∨ m + 1 < 2 * ld_low 2 m ∨ m < ld_low 2 m := by decide
theorem ld_low3 : ∀ m, m < 14 → m + 6 < 3 * ld_low 3 m ∨ m + 2 < 2 * ld_low 3 m ∨ m < ld_low 3 m := by decide
theorem ld_low_pos (k m : Nat) : 1 ≤ ld_low k m ∧ ld_low k m ≤ 7 := by
  unfold ld_low
  repeat' split
  all_goals decide
theorem ld_rk1 {w : Nat → Int32} {n t : Nat} : ∀ q, ld_cnt (ld_ls 1 w n t) q ≤ (q + 168) / 169 := by
  intro q
  induction q with
  | zero => exact Nat.zero_le _
  | succ q ih =>
    cases e : ld_ls 1 w n t q with
    | false => rw [ld_cnt_f e]; omega
    | true =>
      have h := (ld_ls_iff.mp e).1
      rw [ld_msg_iff] at h
      rw [ld_cnt_t e]
      omega
/-- the list of an accepted threshold has at most 13 entries -/
theorem ld_bound {k n t : Nat} {w : Nat → Int32} (hk1 : 1 ≤ k) (hk3 : k ≤ 3) (hn : n ≤ 13) (ht : ld_low k (ld_m w n) ≤ t) : ld_rk k w n t 2197 ≤ 13 := by
  have hm : ld_m w n ≤ 13 := Nat.le_trans (ld_cnt_le _ _) hn
  have hM := fun (x q : Nat) (h : ld_rcB w x = false) => ld_rcA (w := w) (x := x) q h
  by_cases k1 : k = 1
  · subst k1
    have := ld_rk1 (w := w) (n := n) (t := t) 2197
    unfold ld_rk
    omega
  · refine Nat.le_of_not_lt fun hc => ?_
    obtain ⟨q0, h0, l0, r0⟩ := ld_cnt_ex (p := ld_ls k w n t) 2197 0 (Nat.lt_of_le_of_lt (by decide) hc)
    obtain ⟨q1, h1, l1, r1⟩ := ld_cnt_ex (p := ld_ls k w n t) 2197 1 (Nat.lt_of_le_of_lt (by decide) hc)
    obtain ⟨q2, h2, l2, r2⟩ := ld_cnt_ex (p := ld_ls k w n t) 2197 2 (Nat.lt_of_le_of_lt (by decide) hc)
    obtain ⟨q3, h3, l3, r3⟩ := ld_cnt_ex (p := ld_ls k w n t) 2197 3 (Nat.lt_of_le_of_lt (by decide) hc)
    have n01 : q0 ≠ q1 := fun e => by rw [e, r1] at r0; omega
    have n02 : q0 ≠ q2 := fun e => by rw [e, r2] at r0; omega
    have n03 : q0 ≠ q3 := fun e => by rw [e, r3] at r0; omega
    have n12 : q1 ≠ q2 := fun e => by rw [e, r2] at r1; omega
    have n13 : q1 ≠ q3 := fun e => by rw [e, r3] at r1; omega
    have n23 : q2 ≠ q3 := fun e => by rw [e, r3] at r2; omega
    rw [ld_ls_iff] at l0 l1 l2 l3
    have hb := fun (q r : Nat) (hq : q < 2197) (hr : r < 2197) (hne : q ≠ r) (mq : ld_msg k q = true) (mr : ld_msg k r = true) => Nat.le_trans (ld_both (w := w) (q := q) (r := r) hn) (ld_pair (by omega) hk3 hq hr hne mq mr)
    have b01 := hb q0 q1 h0 h1 n01 l0.1 l1.1
    have b02 := hb q0 q2 h0 h2 n02 l0.1 l2.1
    have b03 := hb q0 q3 h0 h3 n03 l0.1 l3.1
    have b12 := hb q1 q2 h1 h2 n12 l1.1 l2.1
    have b13 := hb q1 q3 h1 h3 n13 l1.1 l3.1
    have b23 := hb q2 q3 h2 h3 n23 l2.1 l3.1
    have g0 := l0.2
    have g1 := l1.2
    have g2 := l2.2
    have g3 := l3.2
    unfold ld_ag at g0 g1 g2 g3
    have f1 := ld_cnt_im (p := ld_agB w q0) (r := ld_rcB w) n fun x _ h => by
      cases e : ld_rcB w x with
      | true => rfl
      | false => rw [hM x q0 e] at h; exact h
    have f2 := ld_f2 (ld_agB w q0) (ld_agB w q1) (ld_rcB w) (fun x h => ⟨hM x q0 h, hM x q1 h⟩) n
    have f3 := ld_f3 (ld_agB w q0) (ld_agB w q1) (ld_agB w q2) (ld_rcB w) (fun x h => ⟨hM x q0 h, hM x q1 h, hM x q2 h⟩) n
    have f4 := ld_f4 (ld_agB w q0) (ld_agB w q1) (ld_agB w q2) (ld_agB w q3) (ld_rcB w) (fun x h => ⟨hM x q0 h, hM x q1 h, hM x q2 h, hM x q3 h⟩) n
    have em : ld_cnt (ld_rcB w) n = ld_m w n := rfl
    rw [em] at f1 f2 f3 f4
    by_cases k2 : k = 2
    · subst k2
      have := ld_low2 (ld_m w n) (by omega)
      clear hM hb f3 r0 r1 r2 r3 l0 l1 l2 l3 hc n01 n02 n03 n12 n13 n23
      omega
    · have k3 : k = 3 := by omega
      subst k3
      have := ld_low3 (ld_m w n) (by omega)
      clear hM hb f4 r0 r1 r2 r3 l0 l1 l2 l3 hc n01 n02 n03 n12 n13 n23
      omega
/-- X's four rows hold the listed messages below N, each at its rank -/
def ld_L (k : Nat) (w : Nat → Int32) (n t N : Nat) (a0 a1 a2 g : Nat → Int32) : Prop :=
  ∀ q, q < N → ld_ls k w n t q = true → a0 (ld_rk k w n t q) = nI (q / 169) ∧ a1 (ld_rk k w n t q) = nI (q / 13 % 13) ∧ a2 (ld_rk k w n t q) = nI (q % 13) ∧ g (ld_rk k w n t q) = nI (ld_ag w n q)
theorem ld_L_0 {k : Nat} {w : Nat → Int32} {n t : Nat} {a0 a1 a2 g : Nat → Int32} : ld_L k w n t 0 a0 a1 a2 g := fun q h => absurd h (Nat.not_lt_zero q)
theorem ld_L_skip {k : Nat} {w : Nat → Int32} {n t N M : Nat} {a0 a1 a2 g : Nat → Int32} (h : ld_L k w n t N a0 a1 a2 g) (hf : ∀ x, N ≤ x → x < M → ld_ls k w n t x = false) : ld_L k w n t M a0 a1 a2 g := by
  intro q hq hl
  by_cases e : q < N
  · exact h q e hl
  · rw [hf q (by omega) hq] at hl
    exact Bool.noConfusion hl
theorem ld_L_add {k : Nat} {w : Nat → Int32} {n t N : Nat} {a0 a1 a2 g : Nat → Int32} (h : ld_L k w n t N a0 a1 a2 g) : ld_L k w n t (N + 1) (upd a0 (ld_rk k w n t N) (nI (N / 169))) (upd a1 (ld_rk k w n t N) (nI (N / 13 % 13))) (upd a2 (ld_rk k w n t N) (nI (N % 13))) (upd g (ld_rk k w n t N) (nI (ld_ag w n N))) := by
  intro q hq hl
  by_cases e : q = N
  · subst e
    exact ⟨pk_us, pk_us, pk_us, pk_us⟩
  · have hlt : ld_rk k w n t q < ld_rk k w n t N := ld_cnt_lt (p := ld_ls k w n t) (by omega) hl
    have hne : ld_rk k w n t q ≠ ld_rk k w n t N := by omega
    rw [pk_un hne, pk_un hne, pk_un hne, pk_un hne]
    exact h q (by omega) hl
