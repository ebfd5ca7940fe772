/-! the relation, and the word's methods -/
theorem ld_rr (p : Int32) : (0 ≤ p - p / 13 * 13 ∧ ∃ ρ, ρ < 13 ∧ p - p / 13 * 13 = nI ρ) ∨ (¬ 0 ≤ p - p / 13 * 13 ∧ ∃ ρ, ρ < 13 ∧ (p - p / 13 * 13) + 13 = nI ρ) := by
  have t := tmod_bounds (a := p.toInt) (M := 13) (by decide)
  have e := rem_toInt p 13
  have h13 : (13 : Int32).toInt = 13 := by decide
  have hz : (0 : Int32).toInt = 0 := by decide
  rw [h13] at e
  generalize p - p / 13 * 13 = r at *
  by_cases h : 0 ≤ r
  · refine Or.inl ⟨h, ?_⟩
    obtain ⟨j, hj, rfl⟩ := nI_of (Int32.not_lt.mpr h)
    rw [nI_toInt hj] at e
    exact ⟨j, by omega, rfl⟩
  · refine Or.inr ⟨h, ?_⟩
    have hr : r.toInt < 0 := by
      rw [Int32.not_le, Int32.lt_iff_toInt_lt, hz] at h
      exact h
    have s : (r + 13).toInt = r.toInt + 13 := by
      rw [Jvm.Kit.i32_add (by omega) (by omega), h13]
    have h0 : ¬ r + 13 < 0 := by
      rw [Int32.lt_iff_toInt_lt, s, hz]
      omega
    obtain ⟨j, hj, ej⟩ := nI_of h0
    rw [ej, nI_toInt hj] at s
    exact ⟨j, by omega, ej⟩
/-- no list, or the list of threshold t -/
def ld_St (d n : Nat) (w : Nat → Int32) (ls : Int32) (a0 a1 a2 g : Nat → Int32) (hl lim : Int32) : Prop :=
  (ls = -7 ∧ hl = 0) ∨ ∃ t, t < 2 ^ 31 ∧ ld_low d (ld_m w n) ≤ t ∧ ld_L d w n t 2197 a0 a1 a2 g ∧ ls = nI (ld_rk d w n t 2197) ∧ hl = 1 ∧ lim = nI t
/-- both hold the same n, k and word; both hold no list, or the class holds the list of the reference's limit -/
def i_Rel (_ : Nat) (u : SX) (v : SY) : Prop :=
  ∃ (n d : Nat) (ls hl lim : Int32) (w a0 a1 a2 g : Nat → Int32), u = (nI n, nI d, ls, w, a0, a1, a2, g) ∧ v = (nI n, nI d, hl, lim, w) ∧ 4 ≤ n ∧ n ≤ 13 ∧ 1 ≤ d ∧ d ≤ 3 ∧ ld_W w n ∧ ld_St d n w ls a0 a1 a2 g hl lim
theorem i_up {k : Nat} {u : SX} {v : SY} (h : i_Rel k u v) : i_Rel (k + 5) u v := h
theorem ld_rel0 {k n d : Nat} {lim : Int32} {w a0 a1 a2 g : Nat → Int32} (n4 : 4 ≤ n) (n13 : n ≤ 13) (d1 : 1 ≤ d) (d3 : d ≤ 3) (hW : ld_W w n) : i_Rel k (nI n, nI d, -7, w, a0, a1, a2, g) (nI n, nI d, 0, lim, w) :=
  ⟨n, d, -7, 0, lim, w, a0, a1, a2, g, rfl, rfl, n4, n13, d1, d3, hW, Or.inl ⟨rfl, rfl⟩⟩
theorem i_vc0 (k0 : Int32) (k1 : Int32) : wpX_init (fun u => wpY_init (fun v => i_Rel 2 u v) k0 k1) k0 k1 := by
  obtain ⟨n, n4, n13, hn⟩ := ld_clampB k0 4 13 (by decide) (by decide)
  obtain ⟨d, d1, d3, hd⟩ := ld_clampB k1 1 3 (by decide) (by decide)
  have hR : ∀ a0 a1 a2 g, i_Rel 2 (nI n, nI d, -7, ld_in 13, a0, a1, a2, g) (nI n, nI d, 0, 0, ld_in 13) := fun a0 a1 a2 g =>
    ld_rel0 n4 n13 d1 d3 (fun x hx => Or.inl (ld_in_lo (by omega)))
  have hX : ∀ post : SX → Prop, post (nI n, nI d, -7, ld_in 13, (fun _ => 0), (fun _ => 0), (fun _ => 0), (fun _ => 0)) → wpX_init post k0 k1 := by
    intro post hp
    refine hn (fun r_1 => wpX_clamp (fun r_2 => ∃ n73 : Nat, wX_init_73 post r_1 r_2 (-7) n73 0 (fun _ => 0) (fun _ => 0) (fun _ => 0) (fun _ => 0) (fun _ => 0)) k1 1 3) ?_
    refine hd (fun r_2 => ∃ n73 : Nat, wX_init_73 post (nI n) r_2 (-7) n73 0 (fun _ => 0) (fun _ => 0) (fun _ => 0) (fun _ => 0) (fun _ => 0)) ?_
    exact ⟨13 + 1, xl_inl hp 13 0 (by decide)⟩
  have hY : ∀ post : SY → Prop, post (nI n, nI d, 0, 0, ld_in 13) → wpY_init post k0 k1 := by
    intro post hp
    refine hn (fun z => wY_init_34 post k1 z 0 0 0 0 (fun _ => 0)) ?_
    refine hd (fun z => ∃ n62 : Nat, wY_init_62 post (nI n) z 0 0 n62 0 (fun _ => 0)) ?_
    exact ⟨13 + 1, yl_inl hp 13 0 (by decide)⟩
  exact hX _ (hY _ (hR _ _ _ _))
theorem i_vc_length {k : Nat} {u : SX} {v : SY} (I : i_Rel k u v) (hk : k + 5 ≤ 2562) : wpX_length (fun r => wpY_length (fun r' => r' = r ∧ i_Rel (k + 5) u v) v) u := by
  have J := i_up I
  obtain ⟨n, d, ls, hl, lim, w, a0, a1, a2, g, rfl, rfl, n4, n13, d1, d3, hW, hS⟩ := I
  exact ⟨rfl, J⟩
theorem i_vc_dimension {k : Nat} {u : SX} {v : SY} (I : i_Rel k u v) (hk : k + 5 ≤ 2562) : wpX_dimension (fun r => wpY_dimension (fun r' => r' = r ∧ i_Rel (k + 5) u v) v) u := by
  have J := i_up I
  obtain ⟨n, d, ls, hl, lim, w, a0, a1, a2, g, rfl, rfl, n4, n13, d1, d3, hW, hS⟩ := I
  exact ⟨rfl, J⟩
theorem i_vc_put {k : Nat} {u : SX} {v : SY} (I : i_Rel k u v) (hk : k + 5 ≤ 2562) (v1 : Int32) (v2 : Int32) : wpX_put (fun r u' => wpY_put (fun r' v' => r' = r ∧ i_Rel (k + 5) u' v') v v1 v2) u v1 v2 := by
  have J := i_up I
  obtain ⟨n, d, ls, hl, lim, w, a0, a1, a2, g, rfl, rfl, n4, n13, d1, d3, hW, hS⟩ := I
  unfold wpX_put
  dsimp only
  refine xl_pos (by omega) (fun hb => br_t rfl (ld_pb hb ⟨rfl, J⟩)) (fun j hj ej => br_f (by decide) ?_)
  subst ej
  refine xl_sym (fun hb => br_t rfl (ld_pg hj (by omega) rfl ?_)) (fun s hs es => br_f (by decide) ⟨vp_in_nI (by omega) (by decide), nm_e (ld_pg hj (by omega) rfl ?_)⟩)
  · refine br_c (fun _ => ⟨rfl, J⟩) (fun h0 => br_f (fun z => ?_) ⟨rfl, J⟩)
    rcases hb with h | h
    · exact h0 h
    · obtain ⟨i, hi, rfl⟩ := nI_of h0
      have z1 := (nI_leI hi (b := 12) (by decide)).mp z
      have z2 := (nI_leI (a := 13) (by decide) hi).mp h
      omega
  · subst es
    refine br_f (nI_pos (by omega)) (br_t (nI_le (b := 12) (by omega) (by decide)) ⟨vp_in_nI (by omega) (by decide), nm_e ⟨rfl, ?_⟩⟩)
    exact ld_rel0 n4 n13 d1 d3 (ld_W_upd hW (Or.inr ⟨s, hs, rfl⟩))
theorem i_vc_disturb {k : Nat} {u : SX} {v : SY} (I : i_Rel k u v) (hk : k + 5 ≤ 2562) (v1 : Int32) (v2 : Int32) : wpX_disturb (fun r u' => wpY_disturb (fun r' v' => r' = r ∧ i_Rel (k + 5) u' v') v v1 v2) u v1 v2 := by
  have J := i_up I
  obtain ⟨n, d, ls, hl, lim, w, a0, a1, a2, g, rfl, rfl, n4, n13, d1, d3, hW, hS⟩ := I
  unfold wpX_disturb
  dsimp only
  refine xl_pos (by omega) (fun hb => br_t rfl (ld_pb hb ⟨rfl, J⟩)) (fun j hj ej => br_f (by decide) ?_)
  subst ej
  have hin : vp_in (nI j) 13 := vp_in_nI (by omega) (by decide)
  have c : (nI j).toNatClampNeg = j := nI_clamp (by omega)
  refine ⟨hin, ?_⟩
  rw [c]
  rcases hW j hj with he | ⟨s, hs, he⟩
  · refine br_t he (ld_pg hj (by omega) rfl ⟨hin, ?_⟩)
    rw [c]
    exact br_t he ⟨rfl, J⟩
  · have hne : ¬ w j = -1 := by rw [he]; exact ld_neg1 hs
    have key : ∃ z, z < 13 ∧ (((w j) + (v2 - v2 / 13 * 13)) + 13) - (((w j) + (v2 - v2 / 13 * 13)) + 13) / 13 * 13 = nI z ∧ ∀ post : Int32 → SY → Prop, post (nI z) (nI n, nI d, 0, lim, upd w j (nI z)) → ((0 ≤ v2 - v2 / 13 * 13 → wY_disturb_39 post (nI j) (v2 - v2 / 13 * 13) (nI n) (nI d) hl lim w) ∧ (¬ 0 ≤ v2 - v2 / 13 * 13 → ∀ x3_13 : Int32, x3_13 = (v2 - v2 / 13 * 13) + 13 → wY_disturb_39 post (nI j) x3_13 (nI n) (nI d) hl lim w)) := by
      have step : ∀ (ρ z : Nat) (post : Int32 → SY → Prop), ρ < 13 → (s + ρ) % 13 = z → post (nI z) (nI n, nI d, 0, lim, upd w j (nI z)) → wY_disturb_39 post (nI j) (nI ρ) (nI n) (nI d) hl lim w := by
        intro ρ z post hρ hz hp
        refine ⟨hin, by decide, hin, ?_⟩
        rw [c, he, nI_add, ld_rem (by omega), hz]
        refine nm_e ⟨hin, ?_⟩
        rw [pk_us]
        exact hp
      rcases ld_rr v2 with ⟨h0, ρ, hρ, e⟩ | ⟨h0, ρ, hρ, e⟩
      · refine ⟨(s + ρ) % 13, Nat.mod_lt _ (by decide), ?_, fun post hp => br_t h0 ?_⟩
        · rw [he, e, nI_add, show nI (s + ρ) + 13 = nI (s + ρ + 13) from nI_add _ _, ld_rem (by omega)]
          exact congrArg nI (by omega)
        · rw [e]
          exact step ρ _ post hρ rfl hp
      · refine ⟨(s + ρ) % 13, Nat.mod_lt _ (by decide), ?_, fun post hp => br_f h0 (nm_r e (step ρ _ post hρ rfl hp))⟩
        rw [he, Int32.add_assoc, e, nI_add, ld_rem (by omega)]
    obtain ⟨z, hz, eX, hY⟩ := key
    refine br_f hne ⟨hin, by decide, by decide, hin, ?_⟩
    rw [eX]
    refine nm_e ⟨hin, ?_⟩
    rw [pk_us]
    refine ld_pg hj (by omega) rfl ⟨hin, ?_⟩
    rw [c]
    refine br_f hne ⟨by decide, nm_e (hY _ ⟨rfl, ?_⟩)⟩
    exact ld_rel0 n4 n13 d1 d3 (ld_W_upd hW (Or.inr ⟨z, hz, rfl⟩))
theorem i_vc_erase {k : Nat} {u : SX} {v : SY} (I : i_Rel k u v) (hk : k + 5 ≤ 2562) (v1 : Int32) : wpX_erase (fun r u' => wpY_erase (fun r' v' => r' = r ∧ i_Rel (k + 5) u' v') v v1) u v1 := by
  have J := i_up I
  obtain ⟨n, d, ls, hl, lim, w, a0, a1, a2, g, rfl, rfl, n4, n13, d1, d3, hW, hS⟩ := I
  unfold wpX_erase
  dsimp only
  refine xl_pos (by omega) (fun hb => br_t rfl (ld_pb hb ⟨rfl, J⟩)) (fun j hj ej => br_f (by decide) ?_)
  subst ej
  have hin : vp_in (nI j) 13 := vp_in_nI (by omega) (by decide)
  exact ⟨hin, nm_e (ld_pg hj (by omega) rfl ⟨hin, nm_e ⟨rfl, ld_rel0 n4 n13 d1 d3 (ld_W_upd hW (Or.inl rfl))⟩⟩)⟩
theorem i_vc_write {k : Nat} {u : SX} {v : SY} (I : i_Rel k u v) (hk : k + 5 ≤ 2562) (v1 : Int32) (v2 : Int32) (v3 : Int32) (v4 : Int32) : wpX_write (fun r u' => wpY_write (fun r' v' => r' = r ∧ i_Rel (k + 5) u' v') v v1 v2 v3 v4) u v1 v2 v3 v4 := by
  have J := i_up I
  obtain ⟨n, d, ls, hl, lim, w, a0, a1, a2, g, rfl, rfl, n4, n13, d1, d3, hW, hS⟩ := I
  have hpw := ld_pow (n := n) (by omega)
  have hp1 : 1 ≤ 2 ^ n := Nat.one_le_two_pow
  unfold wpX_write
  dsimp only
  refine xl_msg (by omega) (fun M => br_f (by decide) ?_) (fun M => br_t rfl ?_)
  · have hY : ∀ (post : Int32 → SY → Prop), ((v4 < 0 → post (-5) (nI n, nI d, hl, lim, w)) ∧ (¬ v4 < 0 → ((v4 < ((1 : Int32) <<< (nI n &&& 31)) → ∀ x5 : Int32, x5 = ((v1 * 169) + (v2 * 13)) + v3 → ∃ n52 : Nat, wY_write_52 post v4 x5 (nI n) (nI d) hl lim n52 0 0 w) ∧ (¬ v4 < ((1 : Int32) <<< (nI n &&& 31)) → post (-5) (nI n, nI d, hl, lim, w))))) → wpY_write post (nI n, nI d, hl, lim, w) v1 v2 v3 v4 := by
      intro post h
      unfold wpY_write
      dsimp only
      exact yl_msg (by omega) (fun _ => br_f (by decide) h) (fun z => absurd M z)
    obtain ⟨q, hq, hm, rfl, rfl, rfl⟩ := M
    refine br_c (fun z => hY _ (br_t z ⟨rfl, J⟩)) (fun z => ?_)
    obtain ⟨m, hm', rfl⟩ := nI_of z
    unfold wpX_fullMask
    dsimp only
    rw [ld_full n (by omega)]
    refine pk_le m (2 ^ n - 1) (fun h => ?_) (fun h => hY _ (br_f z ?_))
    · refine xl_wr n13 hq (hY _ (br_f z ?_))
      rw [ld_one n (by omega)]
      refine br_t (nI_lt (by omega) (by omega)) (nm_r ld_numq ⟨n + 1, yl_wrl n13 hq ⟨rfl, ?_⟩ n 0 (by omega)⟩)
      exact ld_rel0 n4 n13 d1 d3 (ld_W_wr hW n)
    · rw [ld_one n (by omega)]
      exact br_f (nI_nlt (by omega) (by omega)) ⟨rfl, J⟩
  · unfold wpY_write
    dsimp only
    exact yl_msg (by omega) (fun z => absurd z M) (fun _ => br_t rfl ⟨rfl, J⟩)
theorem i_vc_symbolAt {k : Nat} {u : SX} {v : SY} (I : i_Rel k u v) (hk : k + 5 ≤ 2562) (v1 : Int32) : wpX_symbolAt (fun r => wpY_symbolAt (fun r' => r' = r ∧ i_Rel (k + 5) u v) v v1) u v1 := by
  have J := i_up I
  obtain ⟨n, d, ls, hl, lim, w, a0, a1, a2, g, rfl, rfl, n4, n13, d1, d3, hW, hS⟩ := I
  unfold wpX_symbolAt
  dsimp only
  refine xl_pos (by omega) (fun hb => br_t rfl (ld_pb hb ⟨rfl, J⟩)) (fun j hj ej => br_f (by decide) ?_)
  subst ej
  have hin : vp_in (nI j) 13 := vp_in_nI (by omega) (by decide)
  exact ⟨hin, ld_pg hj (by omega) rfl ⟨hin, br_c (fun z => ⟨z.symm, J⟩) (fun _ => ⟨hin, rfl, J⟩)⟩⟩
theorem i_vc_received {k : Nat} {u : SX} {v : SY} (I : i_Rel k u v) (hk : k + 5 ≤ 2562) : wpX_received (fun r => wpY_received (fun r' => r' = r ∧ i_Rel (k + 5) u v) v) u := by
  have J := i_up I
  obtain ⟨n, d, ls, hl, lim, w, a0, a1, a2, g, rfl, rfl, n4, n13, d1, d3, hW, hS⟩ := I
  exact xl_rc n13 (yl_rc n13 ⟨rfl, J⟩)
theorem i_vc_lowestThreshold {k : Nat} {u : SX} {v : SY} (I : i_Rel k u v) (hk : k + 5 ≤ 2562) : wpX_lowestThreshold (fun r => wpY_lowestThreshold (fun r' => r' = r ∧ i_Rel (k + 5) u v) v) u := by
  have J := i_up I
  obtain ⟨n, d, ls, hl, lim, w, a0, a1, a2, g, rfl, rfl, n4, n13, d1, d3, hW, hS⟩ := I
  exact xl_low n13 d1 d3 (yl_low n13 d1 d3 ⟨rfl, J⟩)
