/-! each method over the law's invariant: whatever its arguments, it ends in a state that keeps it -/
theorem ld_rr (p : Int32) {M : Nat} (h0 : 0 < M) (hM : M < 2 ^ 31) : (0 ≤ p - p / nI M * nI M ∧ ∃ ρ, ρ < M ∧ p - p / nI M * nI M = nI ρ) ∨ (¬ 0 ≤ p - p / nI M * nI M ∧ ∃ ρ, ρ < M ∧ (p - p / nI M * nI M) + nI M = nI ρ) := by
  have t := tmod_bounds (a := p.toInt) (M := (M : Int)) (by omega)
  have e := rem_toInt p (nI M)
  have hz : (0 : Int32).toInt = 0 := by decide
  rw [nI_toInt hM] at e
  generalize p - p / nI M * nI M = r at *
  by_cases h : 0 ≤ r
  · refine Or.inl ⟨h, ?_⟩
    obtain ⟨j, hj, rfl⟩ := nI_of (Int32.not_lt.mpr h)
    rw [nI_toInt hj] at e
    exact ⟨j, by omega, rfl⟩
  · refine Or.inr ⟨h, ?_⟩
    have hr : r.toInt < 0 := by
      rw [Int32.not_le, Int32.lt_iff_toInt_lt, hz] at h
      exact h
    have s : (r + nI M).toInt = r.toInt + M := by
      rw [Jvm.Kit.i32_add (by rw [nI_toInt hM]; omega) (by rw [nI_toInt hM]; omega), nI_toInt hM]
    have h1 : ¬ r + nI M < 0 := by
      rw [Int32.lt_iff_toInt_lt, s, hz]
      omega
    obtain ⟨j, hj, ej⟩ := nI_of h1
    rw [ej, nI_toInt hj] at s
    exact ⟨j, by omega, ej⟩
/-- the law's mod: a rest below the divisor -/
theorem ll_mod {post : Int32 → Prop} {p m : Int32} (M : Nat) (h0 : 0 < M) (hM : M < 2 ^ 31) (em : m = nI M) (hp : ∀ j, j < M → post (nI j)) : wpL_mod post () p m := by
  subst em
  refine ⟨nI_ne0 h0 hM, nm_e ?_⟩
  rcases ld_rr p h0 hM with ⟨h, ρ, hρ, e⟩ | ⟨h, ρ, hρ, e⟩
  · rw [e] at h ⊢
    exact br_t h (hp ρ hρ)
  · exact br_f h (ld_v e (hp ρ hρ))
theorem ll_cell {post : Int32 → Prop} {L : Nat} {xs : Nat → Int32} {p : Int32} (j : Nat) (hL : L < 2 ^ 31) (hj : j < 2 ^ 31) (ep : p = nI j) (hp : ∀ r, post r) : wpL_cell post L xs () p := by
  subst ep
  refine br_c (fun _ => hp 0) (fun h => ⟨vp_in_nI ?_ hL, hp _⟩)
  have h' : ¬ L ≤ j := fun z => h ((nI_leI hL hj).mpr z)
  omega
/-- the law's invariant: no list, or the list of the law's own t, and then the law has seen an accepted decode -/
def ld_I (n d : Nat) (x8 x9 ls : Int32) (w a0 a1 a2 g : Nat → Int32) : Prop :=
  ld_W w n ∧ (ls = -7 ∨ ∃ t, t < 2 ^ 31 ∧ ld_low d (ld_m w n) ≤ t ∧ ld_L d w n t 2197 a0 a1 a2 g ∧ ls = nI (ld_rk d w n t 2197) ∧ x8 = nI t ∧ x9 = 1)
def ld_N (n d : Nat) : Prop := 4 ≤ n ∧ n ≤ 13 ∧ 1 ≤ d ∧ d ≤ 3
theorem ld_neg {s : Nat} {z : Int32} (hs : s < 2 ^ 31) (hz : z < 0) : ¬ nI s = z := by
  intro h
  rw [← h] at hz
  exact nI_pos hs hz
section
variable {n d : Nat} {x8 x9 ls : Int32} {w a0 a1 a2 g : Nat → Int32} {post : Int32 → St2 → Prop}
theorem kp_no (hW : ld_W w n) : ld_I n d x8 x9 (-7) w a0 a1 a2 g := ⟨hW, Or.inl rfl⟩
theorem kp_put (hN : ld_N n d) (I : ld_I n d x8 x9 ls w a0 a1 a2 g) (p0 p1 : Int32) (hp : ∀ r ls' w', ld_I n d x8 x9 ls' w' a0 a1 a2 g → post r (nI n, nI d, ls', w', a0, a1, a2, g)) : wpX_put post (nI n, nI d, ls, w, a0, a1, a2, g) p0 p1 := by
  obtain ⟨n4, n13, d1, d3⟩ := hN
  unfold wpX_put
  dsimp only
  refine xl_pos (by omega) (fun hb => br_t rfl (hp _ _ _ I)) (fun j hj ej => br_f (by decide) ?_)
  subst ej
  refine xl_sym (fun hb => br_t rfl (hp _ _ _ I)) (fun s hs es => br_f (by decide) ⟨vp_in_nI (by omega) (by decide), nm_e ?_⟩)
  subst es
  exact hp _ _ _ (kp_no (ld_W_upd I.1 (Or.inr ⟨s, hs, rfl⟩)))
theorem kp_erase (hN : ld_N n d) (I : ld_I n d x8 x9 ls w a0 a1 a2 g) (p0 : Int32) (hp : ∀ r ls' w', ld_I n d x8 x9 ls' w' a0 a1 a2 g → post r (nI n, nI d, ls', w', a0, a1, a2, g)) : wpX_erase post (nI n, nI d, ls, w, a0, a1, a2, g) p0 := by
  obtain ⟨n4, n13, d1, d3⟩ := hN
  unfold wpX_erase
  dsimp only
  refine xl_pos (by omega) (fun hb => br_t rfl (hp _ _ _ I)) (fun j hj ej => br_f (by decide) ?_)
  subst ej
  exact ⟨vp_in_nI (by omega) (by decide), nm_e (hp _ _ _ (kp_no (ld_W_upd I.1 (Or.inl rfl))))⟩
theorem kp_disturb (hN : ld_N n d) (I : ld_I n d x8 x9 ls w a0 a1 a2 g) (p0 p1 : Int32) (hp : ∀ r ls' w', ld_I n d x8 x9 ls' w' a0 a1 a2 g → post r (nI n, nI d, ls', w', a0, a1, a2, g)) : wpX_disturb post (nI n, nI d, ls, w, a0, a1, a2, g) p0 p1 := by
  obtain ⟨n4, n13, d1, d3⟩ := hN
  unfold wpX_disturb
  dsimp only
  refine xl_pos (by omega) (fun hb => br_t rfl (hp _ _ _ I)) (fun j hj ej => br_f (by decide) ?_)
  subst ej
  have hin : vp_in (nI j) 13 := vp_in_nI (by omega) (by decide)
  have c : (nI j).toNatClampNeg = j := nI_clamp (by omega)
  refine ⟨hin, ?_⟩
  rw [c]
  rcases I.1 j hj with he | ⟨s, hs, he⟩
  · exact br_t he (hp _ _ _ I)
  · have hne : ¬ w j = -1 := by rw [he]; exact ld_neg1 hs
    have key : ∃ z, z < 13 ∧ (((w j) + (p1 - p1 / 13 * 13)) + 13) - (((w j) + (p1 - p1 / 13 * 13)) + 13) / 13 * 13 = nI z := by
      rcases ld_rr p1 (M := 13) (by decide) (by decide) with ⟨h0, ρ, hρ, e⟩ | ⟨h0, ρ, hρ, e⟩
      · refine ⟨(s + ρ) % 13, Nat.mod_lt _ (by decide), ?_⟩
        have e' : p1 - p1 / 13 * 13 = nI ρ := e
        rw [he, e', nI_add, show nI (s + ρ) + 13 = nI (s + ρ + 13) from nI_add _ _, ld_rem (by omega)]
        exact congrArg nI (by omega)
      · refine ⟨(s + ρ) % 13, Nat.mod_lt _ (by decide), ?_⟩
        have e' : (p1 - p1 / 13 * 13) + 13 = nI ρ := e
        rw [he, Int32.add_assoc, e', nI_add, ld_rem (by omega)]
    obtain ⟨z, hz, eX⟩ := key
    refine br_f hne ⟨hin, by decide, by decide, hin, ?_⟩
    rw [eX]
    exact nm_e ⟨hin, hp _ _ _ (kp_no (ld_W_upd I.1 (Or.inr ⟨z, hz, rfl⟩)))⟩
theorem kp_write (hN : ld_N n d) (I : ld_I n d x8 x9 ls w a0 a1 a2 g) (p0 p1 p2 p3 : Int32) (hp : ∀ r ls' w', ld_I n d x8 x9 ls' w' a0 a1 a2 g → post r (nI n, nI d, ls', w', a0, a1, a2, g)) : wpX_write post (nI n, nI d, ls, w, a0, a1, a2, g) p0 p1 p2 p3 := by
  obtain ⟨n4, n13, d1, d3⟩ := hN
  unfold wpX_write
  dsimp only
  refine xl_msg (by omega) (fun M => br_f (by decide) ?_) (fun M => br_t rfl (hp _ _ _ I))
  obtain ⟨q, hq, hm, rfl, rfl, rfl⟩ := M
  refine br_c (fun _ => hp _ _ _ I) (fun _ => ?_)
  unfold wpX_fullMask
  dsimp only
  exact br_c (fun _ => xl_wr n13 hq (hp _ _ _ (kp_no (ld_W_wr I.1 n)))) (fun _ => hp _ _ _ I)
theorem xl_er {post : Int32 → Prop} {fn fk : Int32} {L : Nat} {p : Int32} (hL : L ≤ 13) (hb : p < 0 ∨ nI L ≤ p → post (-8)) (hg : ∀ j, j < L → p = nI j → post 0) : wpX_entryRefusal post (fn, fk, nI L, w, a0, a1, a2, g) p := by
  refine br_f (ld_neg (by omega) (by decide)) ?_
  rcases pk_ix p (n := L) (by omega) with h | h | ⟨j, hj, rfl⟩
  · exact br_t h (hb (Or.inl h))
  · exact br_c (fun z => hb (Or.inl z)) (fun _ => br_f (Int32.not_lt.mpr h) (hb (Or.inr h)))
  · exact br_f (nI_pos (by omega)) (br_t (nI_lt hj (by omega)) (hg j hj rfl))
theorem kp_correct (hN : ld_N n d) (I : ld_I n d x8 x9 ls w a0 a1 a2 g) (p0 : Int32) (hp : ∀ r ls' w', ld_I n d x8 x9 ls' w' a0 a1 a2 g → post r (nI n, nI d, ls', w', a0, a1, a2, g)) : wpX_correct post (nI n, nI d, ls, w, a0, a1, a2, g) p0 := by
  obtain ⟨n4, n13, d1, d3⟩ := hN
  have hW := I.1
  unfold wpX_correct
  dsimp only
  rcases I.2 with e | ⟨t, ht, hlt, hL, e, e8, e9⟩
  · have base := hp (-7) ls w I
    exact br_t e (br_f (by decide) base)
  · have hB := ld_bound d1 d3 n13 hlt
    have base := hp (-8) ls w I
    rw [e] at base ⊢
    refine xl_er hB (fun hb => br_f (by decide) base) (fun j hj ej => br_t rfl ?_)
    subst ej
    have hin : vp_in (nI j) 13 := vp_in_nI (by omega) (by decide)
    have c : (nI j).toNatClampNeg = j := nI_clamp (by omega)
    obtain ⟨q, hq, hql, hqk⟩ := ld_cnt_ex (p := ld_ls d w n t) 2197 j hj
    have ent := hL q hq hql
    rw [show ld_rk d w n t q = j from hqk] at ent
    obtain ⟨e0, e1, e2, e3⟩ := ent
    refine ⟨hin, nm_e ?_⟩
    rw [c, e0, e1, e2]
    unfold wpX_fullMask
    dsimp only
    exact ⟨hin, hin, hin, xl_wr n13 hq (hp _ _ _ (kp_no (ld_W_wr hW n)))⟩
theorem kp_best (hN : ld_N n d) (I : ld_I n d x8 x9 ls w a0 a1 a2 g) {post : Int32 → Prop} (hp : ∀ r, post r) : wpX_best post (nI n, nI d, ls, w, a0, a1, a2, g) := by
  obtain ⟨n4, n13, d1, d3⟩ := hN
  rcases I.2 with e | ⟨t, ht, hlt, hL, e, e8, e9⟩
  · exact br_t e (hp _)
  · have hB := ld_bound d1 d3 n13 hlt
    have hg : ∀ r, r < ld_rk d w n t 2197 → g r = nI ((fun r => (g r).toNatClampNeg) r) ∧ (fun r => (g r).toNatClampNeg) r < 14 := by
      intro r hr
      obtain ⟨q, hq, hql, hqk⟩ := ld_cnt_ex (p := ld_ls d w n t) 2197 r hr
      have hag : ld_ag w n q ≤ 13 := Nat.le_trans (ld_cnt_le _ _) n13
      have h2 := (hL q hq hql).2.2.2
      rw [show ld_rk d w n t q = r from hqk] at h2
      show g r = nI (g r).toNatClampNeg ∧ (g r).toNatClampNeg < 14
      rw [h2, nI_clamp (by omega)]
      exact ⟨rfl, by omega⟩
    rw [e]
    exact br_f (ld_neg (by omega) (by decide)) ⟨_, xl_best hB (fun r hr => (hg r hr).1) (fun r hr => (hg r hr).2) (hp _) _ 0 (Nat.zero_add _)⟩
theorem kp_decode (hN : ld_N n d) (I : ld_I n d x8 x9 ls w a0 a1 a2 g) (p : Int32) (hp0 : post (-6) (nI n, nI d, ls, w, a0, a1, a2, g)) (hp1 : ∀ (L : Nat) (b0 b1 b2 g' : Nat → Int32), L ≤ 13 → ld_I n d p 1 (nI L) w b0 b1 b2 g' → post (nI L) (nI n, nI d, nI L, w, b0, b1, b2, g')) : wpX_decode post (nI n, nI d, ls, w, a0, a1, a2, g) p := by
  obtain ⟨n4, n13, d1, d3⟩ := hN
  have hW := I.1
  have hlo := ld_low_pos d (ld_m w n)
  unfold wpX_decode
  dsimp only
  refine xl_low n13 d1 d3 (br_c (fun z => ?_) (fun _ => hp0))
  have h0 : ¬ p < 0 := fun h => by
    have := nI_pos' (n := ld_low d (ld_m w n)) (by omega)
    exact Int32.not_lt.mpr (Int32.le_trans this z) h
  obtain ⟨t, ht, rfl⟩ := nI_of h0
  have hlt : ld_low d (ld_m w n) ≤ t := (nI_leI (by omega) ht).mp z
  have hB := ld_bound d1 d3 n13 hlt
  exact xl_make n13 d1 d3 ht hB fun b0 b1 b2 g' hL => hp1 _ b0 b1 b2 g' hB ⟨hW, Or.inr ⟨t, ht, hlt, hL, rfl, rfl, rfl⟩⟩
theorem kp_low (hN : ld_N n d) {post : Int32 → Prop} (hp : ∀ r, post r) : wpX_lowestThreshold post (nI n, nI d, ls, w, a0, a1, a2, g) :=
  xl_low hN.2.1 hN.2.2.1 hN.2.2.2 (hp _)
end
