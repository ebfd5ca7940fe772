/-! the law's walk: whatever the script chooses, each step keeps the invariant; the check passes at every list -/
section
variable {n d : Nat} {post : Int32 → Prop} {L : Nat} {xs : Nat → Int32} {J87 : Int32 → Int32 → Int32 → Int32 → Int32 → Int32 → Int32 → Int32 → Int32 → (Nat → Int32) → (Nat → Int32) → (Nat → Int32) → (Nat → Int32) → (Nat → Int32) → Prop} {x1 x2 x4 x5 x6 x7 x8 x9 x11 x12 x21 x22 : Int32} {kc ks : Nat} {ls : Int32} {w a0 a1 a2 g : Nat → Int32}
theorem xl_size {post : Int32 → Prop} {fn fk : Int32} (h : post ls) : wpX_size post (fn, fk, ls, w, a0, a1, a2, g) := h
def ld_J (n d : Nat) (x12 : Int32) (J87 : Int32 → Int32 → Int32 → Int32 → Int32 → Int32 → Int32 → Int32 → Int32 → (Nat → Int32) → (Nat → Int32) → (Nat → Int32) → (Nat → Int32) → (Nat → Int32) → Prop) : Prop :=
  ∀ (y5 y6 y7 y8 y9 ls : Int32) (w a0 a1 a2 g : Nat → Int32), ld_I n d y8 y9 ls w a0 a1 a2 g → J87 y5 y6 y7 y8 y9 (x12 + 1) (nI n) (nI d) ls w a0 a1 a2 g
theorem ll_829 (hN : ld_N n d) (hJ : ld_J n d x12 J87) (I : ld_I n d x8 x9 ls w a0 a1 a2 g) : wL_law_829 post L xs J87 x1 x2 x4 x5 x6 x7 x8 x9 x11 x12 kc ks (nI n) (nI d) ls w a0 a1 a2 g := by
  obtain ⟨n4, n13, d1, d3⟩ := hN
  have J := hJ x5 x6 x7 x8 x9 ls w a0 a1 a2 g I
  unfold wL_law_829
  refine xl_size ?_
  rcases I.2 with e | ⟨t, ht, hlt, hL, e, e8, e9⟩
  · exact br_t (by rw [e]; decide) (nm_e J)
  · have hB := ld_bound d1 d3 n13 hlt
    subst e e8 e9
    refine br_f (nI_pos (by omega)) (br_f (by decide) (br_t (nI_le (b := 2197) (by omega) (by decide)) ?_))
    unfold wpX_length wpX_dimension
    dsimp only
    exact ⟨_, ll_873 n13 d1 d3 ht I.1 hB hL J n 0 (by omega)⟩
theorem ll_806 (hN : ld_N n d) (hJ : ld_J n d x12 J87) (I : ld_I n d x8 x9 ls w a0 a1 a2 g) : wL_law_806 post L xs J87 x1 x2 x4 x5 x6 x7 x8 x9 x11 x12 x21 x22 kc ks (nI n) (nI d) ls w a0 a1 a2 g := by
  refine br_c (fun _ => ll_829 hN hJ I) (fun _ => kp_decode hN I x22 ?_ ?_)
  · exact br_t rfl (ll_829 hN hJ I)
  · intro K b0 b1 b2 g' hK I'
    exact br_f (ld_neg (by omega) (by decide)) (ll_829 hN hJ I')
theorem ll_450 {z0 z1 z2 z3 : Int32} (hN : ld_N n d) (hJ : ld_J n d x12 J87) (I : ld_I n d x8 x9 ls w a0 a1 a2 g) : wL_law_450 post L xs J87 x1 x2 x4 x5 x6 x7 x8 x9 x11 x12 x21 x22 z0 z1 z2 z3 kc ks (nI n) (nI d) ls w a0 a1 a2 g := by
  unfold wL_law_450
  exact kp_write hN I _ _ _ _ (fun r ls' w' I' => ll_806 hN hJ I')
theorem ll_448 {x19 z0 z1 z2 : Int32} (hN : ld_N n d) (hJ : ld_J n d x12 J87) (I : ld_I n d x8 x9 ls w a0 a1 a2 g) : wL_law_448 post L xs J87 x1 x2 x4 x5 x6 x7 x8 x9 x11 x12 x19 x21 x22 z0 z1 z2 kc ks (nI n) (nI d) ls w a0 a1 a2 g := by
  unfold wL_law_448
  exact ll_450 hN hJ I
theorem ll_418 {x18 x19 x23 z0 : Int32} (hN : ld_N n d) (hJ : ld_J n d x12 J87) (I : ld_I n d x8 x9 ls w a0 a1 a2 g) : wL_law_418 post L xs J87 x1 x2 x4 x5 x6 x8 x9 x11 x12 x18 x19 x21 x22 x23 z0 kc ks (nI n) (nI d) ls w a0 a1 a2 g := by
  unfold wL_law_418
  exact br_c (fun _ => ll_mod 3 (by decide) (by decide) rfl (fun _ _ => br_c (fun _ => ll_448 hN hJ I) (fun _ => ll_450 hN hJ I))) (fun _ => ll_448 hN hJ I)
theorem ll_400 {x17 x18 x19 x23 z0 : Int32} (hN : ld_N n d) (hJ : ld_J n d x12 J87) (I : ld_I n d x8 x9 ls w a0 a1 a2 g) : wL_law_400 post L xs J87 x1 x2 x4 x5 x8 x9 x11 x12 x17 x18 x19 x21 x22 x23 z0 kc ks (nI n) (nI d) ls w a0 a1 a2 g := by
  unfold wL_law_400
  exact br_c (fun _ => ll_418 hN hJ I) (fun _ => ll_mod 13 (by decide) (by decide) rfl (fun _ _ => ll_418 hN hJ I))
theorem ll_375 {x15 x16 x17 x18 x19 x23 : Int32} (hN : ld_N n d) (hJ : ld_J n d x12 J87) (I : ld_I n d x8 x9 ls w a0 a1 a2 g) : wL_law_375 post L xs J87 x1 x2 x4 x8 x9 x11 x12 x15 x16 x17 x18 x19 x21 x22 x23 kc ks (nI n) (nI d) ls w a0 a1 a2 g := by
  unfold wL_law_375
  exact ll_mod 13 (by decide) (by decide) rfl (fun _ _ => br_c (fun _ => ll_400 hN hJ I) (fun _ => ll_mod 13 (by decide) (by decide) rfl (fun _ _ => ll_400 hN hJ I)))
theorem ll_593 {x19 : Int32} (hN : ld_N n d) (hJ : ld_J n d x12 J87) (I : ld_I n d x8 x9 ls w a0 a1 a2 g) : wL_law_593 post L xs J87 x1 x2 x4 x5 x6 x7 x8 x9 x11 x12 x19 x21 x22 kc ks (nI n) (nI d) ls w a0 a1 a2 g := by
  unfold wL_law_593
  exact kp_write hN I _ _ _ _ (fun r ls' w' I' => ll_806 hN hJ I')
theorem ll_469 {x15 x16 x17 x19 : Int32} (hN : ld_N n d) (hJ : ld_J n d x12 J87) (I : ld_I n d x8 x9 ls w a0 a1 a2 g) : wL_law_469 post L xs J87 (nI n) x2 x4 x5 x6 x7 x8 x9 x11 x12 x15 x16 x17 x19 x21 x22 kc ks (nI n) (nI d) ls w a0 a1 a2 g := by
  have n4 := hN.1
  have n13 := hN.2.1
  unfold wL_law_469
  refine ll_mod 12 (by decide) (by decide) rfl (fun _ _ => nm_e ?_)
  refine ll_mod n (by omega) (by omega) rfl (fun _ _ => ?_)
  refine ll_mod n (by omega) (by omega) rfl (fun _ _ => ?_)
  exact br_c (fun _ => ⟨by decide, nm_e (ll_593 hN hJ I)⟩) (fun _ => br_c (fun _ => ⟨by decide, nm_e ⟨by decide, nm_e (ll_593 hN hJ I)⟩⟩) (fun _ => ⟨by decide, nm_e ⟨by decide, nm_e ⟨by decide, nm_e (ll_593 hN hJ I)⟩⟩⟩))
theorem ll_803 {z0 z1 : Int32} (hN : ld_N n d) (hJ : ld_J n d x12 J87) (I : ld_I n d x8 x9 ls w a0 a1 a2 g) : wL_law_803 post L xs J87 x1 x2 x4 x5 x6 x7 x8 x9 x11 x12 x21 z0 z1 kc ks (nI n) (nI d) ls w a0 a1 a2 g := by
  unfold wL_law_803
  exact nm_e (ll_806 hN hJ I)
theorem ll_270 {z0 z1 : Int32} (hN : ld_N n d) (hJ : ld_J n d x12 J87) (I : ld_I n d x8 x9 ls w a0 a1 a2 g) : wL_law_270 post L xs J87 x1 x2 x4 x5 x6 x7 x8 x9 x11 x12 x21 z0 z1 kc ks (nI n) (nI d) ls w a0 a1 a2 g := by
  unfold wL_law_270
  exact nm_e (ll_806 hN hJ I)
theorem ll_643 {z0 : Int32} (hN : ld_N n d) (hJ : ld_J n d x12 J87) (I : ld_I n d x8 x9 ls w a0 a1 a2 g) : wL_law_643 post L xs J87 x1 x2 x4 x5 x6 x7 x8 x9 x11 x12 x21 x22 z0 kc ks (nI n) (nI d) ls w a0 a1 a2 g := by
  unfold wL_law_643
  exact kp_correct hN I _ (fun r ls' w' I' => ll_806 hN hJ I')
theorem ll_683 {x24 : Int32} (hN : ld_N n d) (hJ : ld_J n d x12 J87) : ∀ e i, i + e = 13 → ∀ ls w, ld_I n d x8 x9 ls w a0 a1 a2 g → wL_law_683 post L xs J87 x1 x2 x4 x5 x6 x7 x8 x9 x11 x12 x21 x22 x24 kc ks (e + 1) (nI i) (nI n) (nI d) ls w a0 a1 a2 g := by
  intro e
  induction e with
  | zero =>
    intro i hi ls w I
    have : i = 13 := by omega
    subst this
    exact br_t (Int32.le_refl _) (ll_806 hN hJ I)
  | succ e ih =>
    intro i hi ls w I
    have nxt := ih (i + 1) (by omega)
    refine br_f (nI_ge (b := 13) (by omega) (by decide)) (br_c (fun _ => ?_) (fun _ => nm_r (nI_1 i) (nxt ls w I)))
    exact kp_erase hN I _ (fun r ls' w' I' => nm_r (nI_1 i) (nxt ls' w' I'))
theorem ll_248 {x18 : Int32} (hN : ld_N n d) (hJ : ld_J n d x12 J87) (I : ld_I n d x8 x9 ls w a0 a1 a2 g) : wL_law_248 post L xs J87 x1 x2 x4 x5 x6 x7 x8 x9 x11 x12 x18 kc ks (nI n) (nI d) ls w a0 a1 a2 g := by
  unfold wL_law_248
  exact kp_low hN (fun r => ll_mod 5 (by decide) (by decide) rfl (fun _ _ => br_c (fun _ => ll_270 hN hJ I) (fun _ => ll_270 hN hJ I)))
theorem ll_302 {x15 x16 x17 x18 x19 x20 z0 : Int32} (hN : ld_N n d) (hJ : ld_J n d x12 J87) (I : ld_I n d x8 x9 ls w a0 a1 a2 g) : wL_law_302 post L xs J87 (nI n) x2 x4 x5 x6 x7 x8 x9 x11 x12 x15 x16 x17 x18 x19 x20 x21 x22 z0 kc ks (nI n) (nI d) ls w a0 a1 a2 g := by
  have n4 := hN.1
  have n13 := hN.2.1
  have hpw := ld_pow (n := n) (by omega)
  have hp1 : 1 ≤ 2 ^ n := Nat.one_le_two_pow
  unfold wL_law_302
  refine br_c (fun _ => ?_) (fun _ => br_c (fun _ => ?_) (fun _ => br_c (fun _ => ?_) (fun _ => br_c (fun _ => ll_375 hN hJ I) (fun _ => br_c (fun _ => ll_375 hN hJ I) (fun _ => br_c (fun _ => ll_469 hN hJ I) (fun _ => br_c (fun _ => ll_469 hN hJ I) (fun _ => br_c (fun _ => ?_) (fun _ => br_c (fun _ => ?_) (fun _ => br_c (fun _ => ?_) (fun _ => ?_))))))))))
  · exact ll_mod 15 (by decide) (by decide) rfl (fun _ _ => kp_put hN I _ _ (fun r ls' w' I' => ll_806 hN hJ I'))
  · exact kp_disturb hN I _ _ (fun r ls' w' I' => ll_806 hN hJ I')
  · exact kp_erase hN I _ (fun r ls' w' I' => ll_806 hN hJ I')
  · refine xl_size (br_c (fun _ => ll_643 hN hJ I) (fun h => ?_))
    rcases I.2 with e | ⟨t, ht, hlt, hL, e, e8, e9⟩
    · exact absurd (by rw [e]; decide) h
    · have hB := ld_bound hN.2.2.1 hN.2.2.2 n13 hlt
      exact ll_mod (ld_rk d w n t 2197 + 2) (by omega) (by omega) (by rw [e]; exact nI_add _ 2) (fun _ _ => ll_643 hN hJ I)
  · exact ll_mod (2 ^ n) (by omega) (by omega) (ld_one n (by omega)) (fun _ _ => nm_e ⟨_, ll_683 hN hJ 13 0 (by decide) ls w I⟩)
  · refine ll_mod n (by omega) (by omega) rfl (fun _ _ => kp_put hN I _ _ (fun r1 l1 w1 I1 => ?_))
    refine kp_write hN I1 _ _ _ _ (fun r2 l2 w2 I2 => ?_)
    refine kp_write hN I2 _ _ _ _ (fun r3 l3 w3 I3 => ?_)
    refine kp_correct hN I3 _ (fun r4 l4 w4 I4 => ?_)
    exact kp_best hN I4 (fun r => ll_806 hN hJ I4)
  · exact kp_low hN (fun r => br_c (fun _ => ll_mod 5 (by decide) (by decide) rfl (fun _ _ => ll_803 hN hJ I)) (fun _ => ll_803 hN hJ I))
end
theorem ll_87 {n d : Nat} {post : Int32 → Prop} {L : Nat} {xs : Nat → Int32} {x4 : Int32} {kc ks last : Nat} (hN : ld_N n d) (hL : L ≤ 260) (hlast : last ≤ 1000) (hp : post 1) :
    ∀ e s, s + e = last + 1 → ∀ (x5 x6 x7 x8 x9 ls : Int32) (w a0 a1 a2 g : Nat → Int32), ld_I n d x8 x9 ls w a0 a1 a2 g → wL_law_87 post L xs (nI n) (nI d) x4 (nI last) kc ks (e + 1) x5 x6 x7 x8 x9 (nI s) (nI n) (nI d) ls w a0 a1 a2 g := by
  have n4 := hN.1
  have n13 := hN.2.1
  have hpw := ld_pow (n := n) (by omega)
  have hp1 : 1 ≤ 2 ^ n := Nat.one_le_two_pow
  intro e
  induction e with
  | zero =>
    intro s hs x5 x6 x7 x8 x9 ls w a0 a1 a2 g I
    exact br_t (nI_lt (by omega) (by omega)) hp
  | succ e ih =>
    intro s hs x5 x6 x7 x8 x9 ls w a0 a1 a2 g I
    have hJ : ld_J n d (nI s) (wL_law_87 post L xs (nI n) (nI d) x4 (nI last) kc ks (e + 1)) := by
      intro y5 y6 y7 y8 y9 ls' w' b0 b1 b2 g' I'
      rw [nI_1]
      exact ih (s + 1) (by omega) y5 y6 y7 y8 y9 ls' w' b0 b1 b2 g' I'
    have e13 : (2 : Int32) + (5 * (nI s / 2)) = nI (2 + 5 * (s / 2)) := by
      rw [show nI s / 2 = nI (s / 2) from pk_div (d := 2) (by omega) (by decide) (by decide), show (5 : Int32) * nI (s / 2) = nI (5 * (s / 2)) from pk_mul 5 _]
      exact nI_add 2 _
    refine br_f (nI_nlt (by omega) (by omega)) ⟨by decide, nm_r e13 ?_⟩
    refine ll_cell (2 + 5 * (s / 2)) (by omega) (by omega) rfl (fun r38 => ?_)
    refine ll_cell (2 + 5 * (s / 2) + 1) (by omega) (by omega) (nI_add _ 1) (fun r39 => ?_)
    refine ll_cell (2 + 5 * (s / 2) + 2) (by omega) (by omega) (nI_add _ 2) (fun r40 => ?_)
    refine ll_cell (2 + 5 * (s / 2) + 3) (by omega) (by omega) (nI_add _ 3) (fun r41 => ?_)
    refine ll_cell (2 + 5 * (s / 2) + 4) (by omega) (by omega) (nI_add _ 4) (fun r42 => ?_)
    refine ll_mod (2 ^ n) (by omega) (by omega) (ld_one n (by omega)) (fun j43 _ => ?_)
    refine ll_mod (n + 2) (by omega) (by omega) (nI_add _ 2) (fun j44 _ => nm_e ⟨by decide, ?_⟩)
    refine br_c (fun _ => br_c (fun _ => ?_) (fun _ => ?_)) (fun _ => ?_)
    · exact kp_low hN (fun r => ll_806 hN hJ I)
    · exact xl_size (br_c (fun _ => ll_806 hN hJ I) (fun _ => br_c (fun _ => ll_248 hN hJ I) (fun _ => ll_mod 3 (by decide) (by decide) rfl (fun _ _ => br_c (fun _ => ll_806 hN hJ I) (fun _ => ll_248 hN hJ I)))))
    · exact br_c (fun _ => ll_302 hN hJ I) (fun _ => br_c (fun _ => ll_302 hN hJ I) (fun _ => ll_mod 12 (by decide) (by decide) rfl (fun _ _ => ll_302 hN hJ I)))
theorem ll_74 {n d : Nat} {post : Int32 → Prop} {L : Nat} {xs : Nat → Int32} {x4 x5 x6 x7 x8 x9 : Int32} {kc ks R : Nat} {ls : Int32} {w a0 a1 a2 g : Nat → Int32} (hN : ld_N n d) (hL : L ≤ 260) (hR1 : 1 ≤ R) (hR : R ≤ 100) (hp : post 1) (I : ld_I n d x8 x9 ls w a0 a1 a2 g) : wL_law_74 post L xs (nI n) (nI d) x4 x5 x6 x7 x8 x9 (nI R) kc ks (nI n) (nI d) ls w a0 a1 a2 g := by
  have e : (2 * nI R) - 1 = nI (2 * R - 1) := by
    rw [show (2 : Int32) * nI R = nI (2 * R) from pk_mul 2 R]
    exact pk_sub (b := 1) (by omega)
  unfold wL_law_74
  exact nm_r e ⟨_, ll_87 hN hL (by omega) hp (2 * R - 1 + 1) 0 (by omega) x5 x6 x7 x8 x9 ls w a0 a1 a2 g I⟩
theorem i_vc (xs : Nat → Int32) (L : Nat) (hL : L ≤ 260) : wpL_law (fun r => r = 1) L xs := by
  unfold wpL_law
  refine ll_cell 0 (by omega) (by decide) rfl (fun r1 => ll_mod 10 (by decide) (by decide) rfl (fun j hj => nm_r (nI_add 4 j) ?_))
  refine ll_cell 1 (by omega) (by decide) rfl (fun r4 => ll_mod 3 (by decide) (by decide) rfl (fun i hi => nm_r (nI_add 1 i) ?_))
  have hN : ld_N (4 + j) (1 + i) := ⟨by omega, by omega, by omega, by omega⟩
  generalize 4 + j = n at hN
  generalize 1 + i = d at hN
  have I0 : ∀ a0 a1 a2 g, ld_I n d 0 0 (-7) (ld_in 13) a0 a1 a2 g := fun _ _ _ _ => kp_no (fun x hx => Or.inl (ld_in_lo (by have := hN.2.1; omega)))
  obtain ⟨n4, n13, d1, d3⟩ := hN
  have hN : ld_N n d := ⟨n4, n13, d1, d3⟩
  refine ⟨5, 65, by decide, by decide, ?_⟩
  refine ⟨by decide, by decide, by decide, by decide, by decide, by decide, by decide, by decide, by decide, by decide, ?_⟩
  refine br_t (nI_le (a := 4) n4 (by omega)) (br_t (nI_le (b := 13) n13 (by decide)) ?_)
  refine br_t (nI_le (a := 1) d1 (by omega)) (br_t (nI_le (b := 3) d3 (by decide)) ⟨13 + 1, xl_inl ?_ 13 0 (by decide)⟩)
  refine nm_e ?_
  refine pk_lt 12 L (fun h => ⟨by decide, ?_⟩) (fun h => ll_74 (R := 2) hN hL (by decide) (by decide) rfl (I0 _ _ _ _))
  have eR : ((Int32.ofNat L) + 2) / 5 = nI ((L + 2) / 5) := by
    rw [show Int32.ofNat L + 2 = nI (L + 2) from nI_add L 2]
    exact pk_div (d := 5) (by omega) (by decide) (by decide)
  rw [eR]
  exact ll_74 hN hL (by omega) (by omega) rfl (I0 _ _ _ _)
