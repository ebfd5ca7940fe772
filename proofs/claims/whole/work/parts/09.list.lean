/-! the list's methods -/
theorem ld_neg {s : Nat} {z : Int32} (hs : s < 2 ^ 31) (hz : z < 0) : ¬ nI s = z := by
  intro h
  rw [← h] at hz
  exact nI_pos hs hz
theorem i_vc_decode {k : Nat} {u : SX} {v : SY} (I : i_Rel k u v) (hk : k + 5 ≤ 2562) (v1 : Int32) : wpX_decode (fun r u' => wpY_decode (fun r' v' => r' = r ∧ i_Rel (k + 5) u' v') v v1) u v1 := by
  have J := i_up I
  obtain ⟨n, d, ls, hl, lim, w, a0, a1, a2, g, rfl, rfl, n4, n13, d1, d3, hW, hS⟩ := I
  have hlo := ld_low_pos d (ld_m w n)
  unfold wpX_decode
  dsimp only
  refine xl_low n13 d1 d3 ?_
  have hY : ∀ (post : Int32 → SY → Prop), ((nI (ld_low d (ld_m w n)) ≤ v1 → wpY_size (fun r_8 => post r_8 (nI n, nI d, 1, v1, w)) (nI n, nI d, 1, v1, w)) ∧ (¬ nI (ld_low d (ld_m w n)) ≤ v1 → post (-6) (nI n, nI d, hl, lim, w))) → wpY_decode post (nI n, nI d, hl, lim, w) v1 := by
    intro post h
    unfold wpY_decode
    dsimp only
    exact yl_low n13 d1 d3 h
  refine br_c (fun z => ?_) (fun z => hY _ (br_f z ⟨rfl, J⟩))
  have h0 : ¬ v1 < 0 := fun h => by
    have := nI_pos' (n := ld_low d (ld_m w n)) (by omega)
    exact Int32.not_lt.mpr (Int32.le_trans this z) h
  obtain ⟨t, ht, rfl⟩ := nI_of h0
  have hlt : ld_low d (ld_m w n) ≤ t := (nI_leI (by omega) ht).mp z
  have hB := ld_bound d1 d3 n13 hlt
  refine xl_make n13 d1 d3 ht hB fun b0 b1 b2 g' hL => hY _ (br_t z (yl_size n13 d3 ht ⟨rfl, ?_⟩))
  exact ⟨n, d, _, 1, nI t, w, b0, b1, b2, g', rfl, rfl, n4, n13, d1, d3, hW, Or.inr ⟨t, ht, hlt, hL, rfl, rfl, rfl⟩⟩
theorem i_vc_size {k : Nat} {u : SX} {v : SY} (I : i_Rel k u v) (hk : k + 5 ≤ 2562) : wpX_size (fun r => wpY_size (fun r' => r' = r ∧ i_Rel (k + 5) u v) v) u := by
  have J := i_up I
  obtain ⟨n, d, ls, hl, lim, w, a0, a1, a2, g, rfl, rfl, n4, n13, d1, d3, hW, hS⟩ := I
  rcases hS with ⟨rfl, rfl⟩ | ⟨t, ht, hlt, hL, rfl, rfl, rfl⟩
  · exact br_t rfl ⟨rfl, J⟩
  · unfold wpX_size
    dsimp only
    exact yl_size n13 d3 ht ⟨rfl, J⟩
section
variable {fn fk : Int32} {w a0 a1 a2 g : Nat → Int32}
theorem xl_er {post : Int32 → Prop} {L : Nat} {p : Int32} (hL : L ≤ 13) (hb : p < 0 ∨ nI L ≤ p → post (-8)) (hg : ∀ j, j < L → p = nI j → post 0) : wpX_entryRefusal post (fn, fk, nI L, w, a0, a1, a2, g) p := by
  refine br_f (ld_neg (by omega) (by decide)) ?_
  rcases pk_ix p (n := L) (by omega) with h | h | ⟨j, hj, rfl⟩
  · exact br_t h (hb (Or.inl h))
  · exact br_c (fun z => hb (Or.inl z)) (fun _ => br_f (Int32.not_lt.mpr h) (hb (Or.inr h)))
  · exact br_f (nI_pos (by omega)) (br_t (nI_lt hj (by omega)) (hg j hj rfl))
end
theorem i_vc_coefficient {k : Nat} {u : SX} {v : SY} (I : i_Rel k u v) (hk : k + 5 ≤ 2562) (v1 : Int32) (v2 : Int32) : wpX_coefficient (fun r => wpY_coefficient (fun r' => r' = r ∧ i_Rel (k + 5) u v) v v1 v2) u v1 v2 := by
  have J := i_up I
  obtain ⟨n, d, ls, hl, lim, w, a0, a1, a2, g, rfl, rfl, n4, n13, d1, d3, hW, hS⟩ := I
  unfold wpX_coefficient
  dsimp only
  rcases hS with ⟨rfl, rfl⟩ | ⟨t, ht, hlt, hL, rfl, rfl, rfl⟩
  · exact br_t rfl (br_f (by decide) (br_t rfl ⟨rfl, J⟩))
  · have hB := ld_bound d1 d3 n13 hlt
    refine xl_er hB (fun hb => br_f (by decide) ?_) (fun j hj ej => br_t rfl ?_)
    · refine br_f (by decide) (br_c (fun _ => ⟨rfl, J⟩) fun h0 => yl_size n13 d3 ht (br_f ?_ ⟨rfl, J⟩))
      rcases hb with h | h
      · exact absurd h h0
      · exact Int32.not_lt.mpr h
    · subst ej
      have hin : vp_in (nI j) 13 := vp_in_nI (by omega) (by decide)
      have c : (nI j).toNatClampNeg = j := nI_clamp (by omega)
      obtain ⟨q, hq, hql, hqk⟩ := ld_cnt_ex (p := ld_ls d w n t) 2197 j hj
      have ent := hL q hq hql
      rw [show ld_rk d w n t q = j from hqk] at ent
      obtain ⟨e0, e1, e2, e3⟩ := ent
      have ed : nI d - 1 = nI (d - 1) := by
        obtain ⟨f, rfl⟩ : ∃ f, d = f + 1 := ⟨d - 1, by omega⟩
        exact nI_pred f
      have hY : ∀ post : Int32 → Prop, ((v2 < 0 → post (-9)) ∧ (¬ v2 < 0 → ((v2 ≤ nI d - 1 → ((v2 = 0 → post (nI (q / 169))) ∧ (¬ v2 = 0 → ((v2 = 1 → post (nI (q / 13 % 13))) ∧ (¬ v2 = 1 → post (nI (q % 13))))))) ∧ (¬ v2 ≤ nI d - 1 → post (-9))))) → wpY_coefficient post (nI n, nI d, 1, nI t, w) (nI j) v2 := by
        intro post h
        refine br_f (by decide) (br_f (nI_pos (by omega)) (yl_size n13 d3 ht (br_t (nI_lt hj (by omega)) ⟨h.1, fun z0 => ⟨fun z1 => ?_, (h.2 z0).2⟩⟩)))
        have h' := (h.2 z0).1 z1
        refine yl_entry n13 d3 ht hj fun q' hq' hl' hk' => ?_
        have eq : q' = q := ld_cnt_inj (p := ld_ls d w n t) hl' hql (hk'.trans hqk.symm)
        subst eq
        refine ⟨fun y => ⟨by decide, ld_v (ld_div9 (by omega)) (h'.1 y)⟩, fun y => ⟨fun y1 => ⟨by decide, by decide, ld_v (ld_rem2 (by omega)) ((h'.2 y).1 y1)⟩, fun y1 => ⟨by decide, ld_v (ld_rem (by omega)) ((h'.2 y).2 y1)⟩⟩⟩
      rw [ed] at hY
      rcases pk_ix v2 (n := d) (by omega) with h | h | ⟨i, hi, rfl⟩
      · exact br_t h (hY _ (br_t h ⟨rfl, J⟩))
      · refine br_c (fun z => hY _ (br_t z ⟨rfl, J⟩)) (fun z => br_f (Int32.not_lt.mpr h) (hY _ (br_f z (br_f (fun z1 => ?_) ⟨rfl, J⟩))))
        obtain ⟨m, hm, rfl⟩ := nI_of z
        have z2 := (nI_leI hm (by omega)).mp z1
        have z3 := (nI_leI (by omega) hm).mp h
        omega
      · have p0 : ¬ nI i < 0 := nI_pos (by omega)
        have p1 : nI i ≤ nI (d - 1) := nI_le (by omega) (by omega)
        refine br_f p0 (br_t (nI_lt hi (by omega)) ?_)
        rw [c, e0, e1, e2]
        exact br_c (fun y => ⟨hin, hY _ (br_f p0 (br_t p1 (br_t y ⟨rfl, J⟩)))⟩) (fun y => br_c (fun y1 => ⟨hin, hY _ (br_f p0 (br_t p1 (br_f y (br_t y1 ⟨rfl, J⟩))))⟩) (fun y1 => ⟨hin, hY _ (br_f p0 (br_t p1 (br_f y (br_f y1 ⟨rfl, J⟩))))⟩))
theorem i_vc_agreement {k : Nat} {u : SX} {v : SY} (I : i_Rel k u v) (hk : k + 5 ≤ 2562) (v1 : Int32) : wpX_agreement (fun r => wpY_agreement (fun r' => r' = r ∧ i_Rel (k + 5) u v) v v1) u v1 := by
  have J := i_up I
  obtain ⟨n, d, ls, hl, lim, w, a0, a1, a2, g, rfl, rfl, n4, n13, d1, d3, hW, hS⟩ := I
  unfold wpX_agreement
  dsimp only
  rcases hS with ⟨rfl, rfl⟩ | ⟨t, ht, hlt, hL, rfl, rfl, rfl⟩
  · exact br_t rfl (br_f (by decide) (br_t rfl ⟨rfl, J⟩))
  · have hB := ld_bound d1 d3 n13 hlt
    refine xl_er hB (fun hb => br_f (by decide) ?_) (fun j hj ej => br_t rfl ?_)
    · refine br_f (by decide) (br_c (fun _ => ⟨rfl, J⟩) fun h0 => yl_size n13 d3 ht (br_f ?_ ⟨rfl, J⟩))
      rcases hb with h | h
      · exact absurd h h0
      · exact Int32.not_lt.mpr h
    · subst ej
      have hin : vp_in (nI j) 13 := vp_in_nI (by omega) (by decide)
      have c : (nI j).toNatClampNeg = j := nI_clamp (by omega)
      refine ⟨hin, ?_⟩
      rw [c]
      refine br_f (by decide) (br_f (nI_pos (by omega)) (yl_size n13 d3 ht (br_t (nI_lt hj (by omega)) (yl_entry n13 d3 ht hj fun q hq hql hqk => yl_ag n13 hq ?_))))
      have ent := hL q hq hql
      rw [hqk] at ent
      exact ⟨ent.2.2.2.symm, J⟩
theorem i_vc_find {k : Nat} {u : SX} {v : SY} (I : i_Rel k u v) (hk : k + 5 ≤ 2562) (v1 : Int32) (v2 : Int32) (v3 : Int32) : wpX_find (fun r => wpY_find (fun r' => r' = r ∧ i_Rel (k + 5) u v) v v1 v2 v3) u v1 v2 v3 := by
  have J := i_up I
  obtain ⟨n, d, ls, hl, lim, w, a0, a1, a2, g, rfl, rfl, n4, n13, d1, d3, hW, hS⟩ := I
  rcases hS with ⟨rfl, rfl⟩ | ⟨t, ht, hlt, hL, rfl, rfl, rfl⟩
  · exact br_t rfl (br_t rfl ⟨rfl, J⟩)
  · have hB := ld_bound d1 d3 n13 hlt
    refine br_f (ld_neg (by omega) (by decide)) (xl_msg (by omega) (fun M => br_f (by decide) ?_) (fun M => br_t rfl (br_f (by decide) (yl_msg (by omega) (fun z => absurd z M) (fun _ => br_t rfl ⟨rfl, J⟩)))))
    obtain ⟨q, hq, hm, rfl, rfl, rfl⟩ := M
    have hY : ∀ post : Int32 → Prop, (ld_ls d w n t q = true → post (nI (ld_rk d w n t q))) → (ld_ls d w n t q = false → post (-1)) → wpY_find post (nI n, nI d, 1, nI t, w) (nI (q / 169)) (nI (q / 13 % 13)) (nI (q % 13)) := by
      intro post h1 h0
      refine br_f (by decide) (yl_msg (by omega) (fun _ => br_f (by decide) (nm_r ld_numq ?_)) (fun z => absurd ((ld_M_q hq).mpr hm) z))
      exact yl_listed n13 d3 ht hq (fun h => br_f (by decide) ⟨q + 1, yl_findl n13 d3 ht hq (h1 h) q 0 (by omega)⟩) (fun h => br_t rfl (h0 h))
    refine ⟨_, xl_find hB hq hL (fun h => hY _ (fun _ => ⟨rfl, J⟩) (fun h' => ?_)) (fun h => hY _ (fun h' => ?_) (fun _ => ⟨rfl, J⟩)) _ 0 (Nat.zero_add _) (fun _ => Nat.zero_le _)⟩
    · rw [h] at h'; exact Bool.noConfusion h'
    · rw [h] at h'; exact Bool.noConfusion h'
theorem i_vc_best {k : Nat} {u : SX} {v : SY} (I : i_Rel k u v) (hk : k + 5 ≤ 2562) : wpX_best (fun r => wpY_best (fun r' => r' = r ∧ i_Rel (k + 5) u v) v) u := by
  have J := i_up I
  obtain ⟨n, d, ls, hl, lim, w, a0, a1, a2, g, rfl, rfl, n4, n13, d1, d3, hW, hS⟩ := I
  rcases hS with ⟨rfl, rfl⟩ | ⟨t, ht, hlt, hL, rfl, rfl, rfl⟩
  · exact br_t rfl (br_t rfl ⟨rfl, J⟩)
  · have hB := ld_bound d1 d3 n13 hlt
    have hlo := ld_low_pos d (ld_m w n)
    have hG : ∀ q, q < 2197 → ld_ls d w n t q = true → (fun r => (g r).toNatClampNeg) (ld_rk d w n t q) = ld_ag w n q := by
      intro q hq hql
      have hag : ld_ag w n q ≤ 13 := Nat.le_trans (ld_cnt_le _ _) n13
      show (g (ld_rk d w n t q)).toNatClampNeg = _
      rw [(hL q hq hql).2.2.2, nI_clamp (by omega)]
    have hg : ∀ r, r < ld_rk d w n t 2197 → g r = nI ((fun r => (g r).toNatClampNeg) r) ∧ (fun r => (g r).toNatClampNeg) r < 14 := by
      intro r hr
      obtain ⟨q, hq, hql, hqk⟩ := ld_cnt_ex (p := ld_ls d w n t) 2197 r hr
      have hag : ld_ag w n q ≤ 13 := Nat.le_trans (ld_cnt_le _ _) n13
      have h1 := hG q hq hql
      have h2 := (hL q hq hql).2.2.2
      rw [show ld_rk d w n t q = r from hqk] at h1 h2
      rw [h1, h2]
      exact ⟨rfl, by omega⟩
    generalize (fun r => (g r).toNatClampNeg) = G at hG hg
    refine br_f (ld_neg (by omega) (by decide)) ⟨_, xl_best hB (fun r hr => (hg r hr).1) (fun r hr => (hg r hr).2) ?_ _ 0 (Nat.zero_add _)⟩
    exact br_f (by decide) ⟨2197 + 1, yl_bestl n13 d3 ht (by omega) hG (fun r hr => (hg r hr).2) ⟨rfl, J⟩ 2197 0 (by omega)⟩
theorem i_vc_correct {k : Nat} {u : SX} {v : SY} (I : i_Rel k u v) (hk : k + 5 ≤ 2562) (v1 : Int32) : wpX_correct (fun r u' => wpY_correct (fun r' v' => r' = r ∧ i_Rel (k + 5) u' v') v v1) u v1 := by
  have J := i_up I
  obtain ⟨n, d, ls, hl, lim, w, a0, a1, a2, g, rfl, rfl, n4, n13, d1, d3, hW, hS⟩ := I
  unfold wpX_correct
  dsimp only
  rcases hS with ⟨rfl, rfl⟩ | ⟨t, ht, hlt, hL, rfl, rfl, rfl⟩
  · exact br_t rfl (br_f (by decide) (br_t rfl ⟨rfl, J⟩))
  · have hB := ld_bound d1 d3 n13 hlt
    refine xl_er hB (fun hb => br_f (by decide) ?_) (fun j hj ej => br_t rfl ?_)
    · refine br_f (by decide) (br_c (fun _ => ⟨rfl, J⟩) fun h0 => yl_size n13 d3 ht (br_f ?_ ⟨rfl, J⟩))
      rcases hb with h | h
      · exact absurd h h0
      · exact Int32.not_lt.mpr h
    · subst ej
      have hin : vp_in (nI j) 13 := vp_in_nI (by omega) (by decide)
      have c : (nI j).toNatClampNeg = j := nI_clamp (by omega)
      obtain ⟨q, hq, hql, hqk⟩ := ld_cnt_ex (p := ld_ls d w n t) 2197 j hj
      have ent := hL q hq hql
      rw [show ld_rk d w n t q = j from hqk] at ent
      obtain ⟨e0, e1, e2, e3⟩ := ent
      have hag : ld_ag w n q ≤ n := ld_cnt_le _ _
      have hnot := ld_cnt_not (ld_agB w q) n
      have hcnt : ld_cnt (fun x => !ld_agB w q x) n = n - ld_ag w n q := by unfold ld_ag; omega
      have hwr : ld_wr (ld_bit (nI (2 ^ n - 1))) q w n = ld_wr (fun _ => true) q w n := ld_wr_eq fun x hx => decide_eq_true (ld_bits n (by omega) x hx)
      refine ⟨hin, ?_⟩
      rw [c, e3, e0, e1, e2]
      refine nm_r (pk_sub hag) ?_
      unfold wpX_fullMask
      dsimp only
      rw [ld_full n (by omega)]
      refine ⟨hin, hin, hin, xl_wr n13 hq ?_⟩
      refine br_f (by decide) (br_f (nI_pos (by omega)) (yl_size n13 d3 ht (br_t (nI_lt hj (by omega)) (yl_entry n13 d3 ht hj fun q' hq' hl' hk' => ?_))))
      have eq : q' = q := ld_cnt_inj (p := ld_ls d w n t) hl' hql (hk'.trans hqk.symm)
      subst eq
      refine ⟨n + 1, yl_crl n13 hq ⟨congrArg nI hcnt, ?_⟩ n 0 (by omega)⟩
      rw [hwr]
      exact ld_rel0 n4 n13 d1 d3 (ld_W_wr hW n)
