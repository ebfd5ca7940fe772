/-! the law's check: the word packed into a long, the recount, the entries counted, each message's turn -/
def ld_nib (z : Int32) : Nat := if z = -1 then 15 else z.toNatClampNeg
def ld_P (w : Nat → Int32) : Nat → Nat
  | 0 => 0
  | i + 1 => ld_P w i + ld_nib (w i) * 2 ^ (4 * i)
theorem ld_nib_e : ld_nib (-1) = 15 := if_pos rfl
theorem ld_nib_s {s : Nat} (hs : s < 13) : ld_nib (nI s) = s := (if_neg (ld_neg1 hs)).trans (nI_clamp (by omega))
theorem ld_nib_lt {w : Nat → Int32} {n i : Nat} (hW : ld_W w n) (hi : i < n) : ld_nib (w i) < 16 := by
  rcases hW i hi with h | ⟨s, hs, h⟩
  · rw [h, ld_nib_e]; decide
  · rw [h, ld_nib_s hs]; omega
theorem ld_P_lt {w : Nat → Int32} {n : Nat} (hW : ld_W w n) : ∀ i, i ≤ n → ld_P w i < 2 ^ (4 * i) := by
  intro i
  induction i with
  | zero => exact fun _ => (by decide : 0 < 1)
  | succ i ih =>
    intro hi
    have h1 := ih (by omega)
    have h2 := ld_nib_lt hW (i := i) (by omega)
    have h3 : ld_nib (w i) * 2 ^ (4 * i) ≤ 15 * 2 ^ (4 * i) := Nat.mul_le_mul_right _ (by omega)
    have h4 : 2 ^ (4 * (i + 1)) = 2 ^ (4 * i) * 16 := by
      rw [show 4 * (i + 1) = 4 * i + 4 by omega, Nat.pow_add]
    rw [h4]
    show ld_P w i + ld_nib (w i) * 2 ^ (4 * i) < _
    omega
theorem ld_P_get {w : Nat → Int32} {n x : Nat} (hW : ld_W w n) : ∀ i, i ≤ n → x < i → ld_P w i / 2 ^ (4 * x) % 16 = ld_nib (w x) := by
  intro i
  induction i with
  | zero => exact fun _ h => absurd h (Nat.not_lt_zero x)
  | succ i ih =>
    intro hi hx
    show (ld_P w i + ld_nib (w i) * 2 ^ (4 * i)) / 2 ^ (4 * x) % 16 = ld_nib (w x)
    by_cases e : x = i
    · subst e
      rw [Nat.add_mul_div_right _ _ (Nat.two_pow_pos _), Nat.div_eq_of_lt (ld_P_lt hW x (by omega)), Nat.zero_add]
      exact Nat.mod_eq_of_lt (ld_nib_lt hW (by omega))
    · obtain ⟨c, rfl⟩ : ∃ c, i = x + 1 + c := ⟨i - x - 1, by omega⟩
      have h4 : 2 ^ (4 * (x + 1 + c)) = 2 ^ (4 * x) * (16 * 2 ^ (4 * c)) := by
        rw [show 4 * (x + 1 + c) = 4 * x + (4 + 4 * c) by omega, Nat.pow_add, Nat.pow_add]
      have h5 : ld_nib (w (x + 1 + c)) * (2 ^ (4 * x) * (16 * 2 ^ (4 * c))) = (ld_nib (w (x + 1 + c)) * 2 ^ (4 * c) * 16) * 2 ^ (4 * x) := by ac_rfl
      rw [h4, h5, Nat.add_mul_div_right _ _ (Nat.two_pow_pos _), Nat.add_mul_mod_self_right]
      exact ih (by omega) (by omega)
theorem ld_P_64 {w : Nat → Int32} {n : Nat} (hn : n ≤ 13) (hW : ld_W w n) {i : Nat} (hi : i ≤ n) : ld_P w i < 2 ^ 64 :=
  Nat.lt_trans (ld_P_lt hW i hi) (wb_lt2 (by omega))
theorem ld_pack {w : Nat → Int32} {n i : Nat} (hn : n ≤ 13) (hW : ld_W w n) (hi : i < n) : lN (ld_P w i) ||| ((nI (ld_nib (w i))).toInt64 <<< ((4 * nI i).toInt64 &&& 63)) = lN (ld_P w (i + 1)) := by
  have h2 := ld_nib_lt hW hi
  have h3 := ld_P_64 hn hW (i := i + 1) (by omega)
  rw [show (4 : Int32) * nI i = nI (4 * i) from pk_mul 4 i, nI_l (by omega), wb_shl _ (by omega)]
  exact g_or' (k := 4 * i) rfl (ld_P_lt hW i (by omega)) h3
theorem ld_unp {w : Nat → Int32} {n x : Nat} (hn : n ≤ 13) (hW : ld_W w n) (hx : x < n) : ((((lN (ld_P w n)).toUInt64 >>> ((4 * nI x).toInt64.toUInt64 &&& Int64.toUInt64 63)).toInt64) &&& 15).toInt32 = nI (ld_nib (w x)) := by
  have h3 := ld_P_64 hn hW (Nat.le_refl n)
  rw [show (4 : Int32) * nI x = nI (4 * x) from pk_mul 4 x, wb_shr h3 (by omega), show (15 : Int64) = lN (2 ^ 4 - 1) from rfl, wb_mask (Nat.lt_of_le_of_lt (Nat.div_le_self _ _) h3) (by decide), lN_i]
  exact congrArg nI (ld_P_get hW n (Nat.le_refl n) hx)
theorem ld_nibc {w : Nat → Int32} {n i q : Nat} (hW : ld_W w n) (hi : i < n) : nI (ld_nib (w i)) = nI (ld_code q i) ↔ w i = nI (ld_code q i) := by
  have hc := ld_code_lt q i
  rcases hW i hi with h | ⟨s, hs, h⟩
  · rw [h, ld_nib_e, nI_eq (by decide) (by omega)]
    exact ⟨fun z => by omega, fun z => absurd z.symm (ld_neg1 hc)⟩
  · rw [h, ld_nib_s hs]
section
variable {w a0 a1 a2 g : Nat → Int32} {n d t : Nat}
theorem ll_agl {q : Nat} (hn : n ≤ 13) (hW : ld_W w n) (hq : q < 2197) {post : Int32 → Prop} (hp : post (nI (ld_ag w n q))) : ∀ e i, i + e = n → wL_agree_6 post (lN (ld_P w n)) (nI n) (nI (q / 169)) (nI (q / 13 % 13)) (nI (q % 13)) (e + 1) (nI (ld_ag w i q)) (nI i) := by
  intro e
  induction e with
  | zero =>
    intro i hi
    have : i = n := by omega
    subst this
    exact br_c (fun _ => hp) (fun _ => br_t (Int32.le_refl _) hp)
  | succ e ih =>
    intro i hi
    have t1 := ih (i + 1) (by omega)
    refine br_f (nI_ge (b := 13) (by omega) (by decide)) (br_f (nI_ge (by omega) (by omega)) (nm_r (ld_unp hn hW (by omega)) ⟨by decide, ?_⟩))
    rw [ld_csI (by omega) (by omega) (by omega) (by omega)]
    by_cases h : w i = nI (ld_code q i)
    · rw [show ld_ag w (i + 1) q = ld_ag w i q + 1 from ld_cnt_t (decide_eq_true h)] at t1
      exact br_t ((ld_nibc hW (by omega)).mpr h) (nm_r (nI_1 _) (nm_r (nI_1 i) t1))
    · rw [show ld_ag w (i + 1) q = ld_ag w i q from ld_cnt_f (decide_eq_false h)] at t1
      exact br_f (fun z => h ((ld_nibc hW (by omega)).mp z)) (nm_r (nI_1 i) t1)
theorem ll_ag {q : Nat} (hn : n ≤ 13) (hW : ld_W w n) (hq : q < 2197) {post : Int32 → Prop} (hp : post (nI (ld_ag w n q))) : wpL_agree post () (lN (ld_P w n)) (nI n) (nI (q / 169)) (nI (q / 13 % 13)) (nI (q % 13)) :=
  ⟨n + 1, ll_agl hn hW hq hp n 0 (by omega)⟩
theorem xl_cf0 {post : Int32 → Prop} {K j : Nat} (hB : K ≤ 13) (hj : j < K) (hd : 1 ≤ d) (hd3 : d ≤ 3) (hp : post (a0 j)) : wpX_coefficient post (nI n, nI d, nI K, w, a0, a1, a2, g) (nI j) 0 := by
  have c : (nI j).toNatClampNeg = j := nI_clamp (by omega)
  unfold wpX_coefficient
  dsimp only
  refine xl_er hB (fun hb => absurd rfl (ld_out hj (by omega) hb)) (fun i hi ei => br_t rfl ?_)
  refine br_f (by decide) (br_t (nI_lt (a := 0) hd (by omega)) (br_t rfl ⟨vp_in_nI (by omega) (by decide), ?_⟩))
  rw [c]
  exact hp
theorem xl_cf1 {post : Int32 → Prop} {K j : Nat} (hB : K ≤ 13) (hj : j < K) (hd : 2 ≤ d) (hd3 : d ≤ 3) (hp : post (a1 j)) : wpX_coefficient post (nI n, nI d, nI K, w, a0, a1, a2, g) (nI j) 1 := by
  have c : (nI j).toNatClampNeg = j := nI_clamp (by omega)
  unfold wpX_coefficient
  dsimp only
  refine xl_er hB (fun hb => absurd rfl (ld_out hj (by omega) hb)) (fun i hi ei => br_t rfl ?_)
  refine br_f (by decide) (br_t (nI_lt (a := 1) hd (by omega)) (br_f (by decide) (br_t rfl ⟨vp_in_nI (by omega) (by decide), ?_⟩)))
  rw [c]
  exact hp
theorem xl_cf2 {post : Int32 → Prop} {K j : Nat} (hB : K ≤ 13) (hj : j < K) (hd : 3 ≤ d) (hd3 : d ≤ 3) (hp : post (a2 j)) : wpX_coefficient post (nI n, nI d, nI K, w, a0, a1, a2, g) (nI j) 2 := by
  have c : (nI j).toNatClampNeg = j := nI_clamp (by omega)
  unfold wpX_coefficient
  dsimp only
  refine xl_er hB (fun hb => absurd rfl (ld_out hj (by omega) hb)) (fun i hi ei => br_t rfl ?_)
  refine br_f (by decide) (br_t (nI_lt (a := 2) hd (by omega)) (br_f (by decide) (br_f (by decide) ⟨vp_in_nI (by omega) (by decide), ?_⟩)))
  rw [c]
  exact hp
theorem xl_agr {post : Int32 → Prop} {K j : Nat} {fn fk : Int32} (hB : K ≤ 13) (hj : j < K) (hp : post (g j)) : wpX_agreement post (fn, fk, nI K, w, a0, a1, a2, g) (nI j) := by
  have c : (nI j).toNatClampNeg = j := nI_clamp (by omega)
  unfold wpX_agreement
  dsimp only
  refine xl_er hB (fun hb => absurd rfl (ld_out hj (by omega) hb)) (fun i hi ei => br_t rfl ⟨vp_in_nI (by omega) (by decide), ?_⟩)
  rw [c]
  exact hp
theorem xl_fnd {post : Int32 → Prop} {q : Nat} (hd3 : d ≤ 3) (hB : ld_rk d w n t 2197 ≤ 13) (hq : q < 2197) (hm : ld_msg d q = true) (hL : ld_L d w n t 2197 a0 a1 a2 g) (hp1 : ld_ls d w n t q = true → post (nI (ld_rk d w n t q))) (hp0 : ld_ls d w n t q = false → post (-1)) : wpX_find post (nI n, nI d, nI (ld_rk d w n t 2197), w, a0, a1, a2, g) (nI (q / 169)) (nI (q / 13 % 13)) (nI (q % 13)) := by
  refine br_f (ld_neg (by omega) (by decide)) (xl_msg (by omega) (fun M => br_f (by decide) ?_) (fun M => absurd ((ld_M_q hq).mpr hm) M))
  exact ⟨_, xl_find hB hq hL hp1 hp0 _ 0 (Nat.zero_add _) (fun _ => Nat.zero_le _)⟩
def ld_fd (l : Bool) (k j : Nat) : Int32 := if l = true ∧ k < j then 1 else 0
def ld_at (l : Bool) (k j : Nat) : Int32 := if l = true ∧ k < j then nI k else -1
variable {post : Int32 → Prop} {L : Nat} {xs : Nat → Int32} {J87 : Int32 → Int32 → Int32 → Int32 → Int32 → Int32 → Int32 → Int32 → Int32 → (Nat → Int32) → (Nat → Int32) → (Nat → Int32) → (Nat → Int32) → (Nat → Int32) → Prop} {J934 : Int32 → Prop} {x1 x2 x4 x5 x6 x7 x11 x12 : Int32} {kc ks : Nat}
theorem ll_1092 {q m : Nat} (hn : n ≤ 13) (hd3 : d ≤ 3) (ht : t < 2 ^ 31) (hB : ld_rk d w n t 2197 ≤ 13) (hq : q < 2197) (hm : ld_msg d q = true) (hL : ld_L d w n t 2197 a0 a1 a2 g) (hJ : J934 (nI (m + 1))) :
    wL_law_1092 post L xs J87 J934 x1 x2 x4 x5 x6 x7 (nI t) 1 x11 x12 (nI (ld_rk d w n t 2197)) (nI n) (nI d) (lN (ld_P w n)) (nI m) (nI (q / 169)) (nI (q / 13 % 13)) (nI (q % 13)) (nI (ld_ag w n q)) (ld_fd (ld_ls d w n t q) (ld_rk d w n t q) (ld_rk d w n t 2197)) (ld_at (ld_ls d w n t q) (ld_rk d w n t q) (ld_rk d w n t 2197)) kc ks (nI n) (nI d) (nI (ld_rk d w n t 2197)) w a0 a1 a2 g := by
  have hag : ld_ag w n q ≤ 13 := Nat.le_trans (ld_cnt_le _ _) hn
  refine pk_lt (ld_ag w n q) t (fun h => ?_) (fun h => ?_)
  · have hl : ld_ls d w n t q = false := by
      cases e : ld_ls d w n t q with
      | false => rfl
      | true => have := (ld_ls_iff.mp e).2; omega
    refine br_t ?_ (xl_fnd hd3 hB hq hm hL (fun z => absurd (z.symm.trans hl) (by decide)) (fun _ => br_t rfl (nm_r (nI_1 m) hJ)))
    rw [hl]
    exact if_neg (fun z => absurd z.1 (by decide))
  · have hl : ld_ls d w n t q = true := ld_ls_iff.mpr ⟨hm, h⟩
    have hlt : ld_rk d w n t q < ld_rk d w n t 2197 := ld_cnt_lt (p := ld_ls d w n t) hq hl
    have e1 : ld_fd (ld_ls d w n t q) (ld_rk d w n t q) (ld_rk d w n t 2197) = 1 := if_pos ⟨hl, hlt⟩
    have e2 : ld_at (ld_ls d w n t q) (ld_rk d w n t q) (ld_rk d w n t 2197) = nI (ld_rk d w n t q) := if_pos ⟨hl, hlt⟩
    rw [e2]
    refine br_t e1 (xl_fnd hd3 hB hq hm hL (fun _ => br_t rfl (xl_agr hB hlt ?_)) (fun z => absurd (z.symm.trans hl) (by decide)))
    exact br_t (hL q hq hl).2.2.2 (nm_r (nI_1 m) hJ)
theorem ll_1016 {q m : Nat} (hn : n ≤ 13) (hd1 : 1 ≤ d) (hd3 : d ≤ 3) (ht : t < 2 ^ 31) (hB : ld_rk d w n t 2197 ≤ 13) (hq : q < 2197) (hm : ld_msg d q = true) (hL : ld_L d w n t 2197 a0 a1 a2 g) (hJ : J934 (nI (m + 1))) :
    ∀ e j, j + e = ld_rk d w n t 2197 → wL_law_1016 post L xs J87 J934 x1 x2 x4 x5 x6 x7 (nI t) 1 x11 x12 (nI (ld_rk d w n t 2197)) (nI n) (nI d) (lN (ld_P w n)) (nI m) (nI (q / 169)) (nI (q / 13 % 13)) (nI (q % 13)) (nI (ld_ag w n q)) kc ks (nI n) (nI d) (nI (ld_rk d w n t 2197)) w a0 a1 a2 g (e + 1) (ld_fd (ld_ls d w n t q) (ld_rk d w n t q) j) (ld_at (ld_ls d w n t q) (ld_rk d w n t q) j) (nI j) := by
  intro e
  induction e with
  | zero =>
    intro j hj
    have hj' : j = ld_rk d w n t 2197 := by omega
    have fin := ll_1092 (post := post) (L := L) (xs := xs) (J87 := J87) (J934 := J934) (x1 := x1) (x2 := x2) (x4 := x4) (x5 := x5) (x6 := x6) (x7 := x7) (x11 := x11) (x12 := x12) (kc := kc) (ks := ks) hn hd3 ht hB hq hm hL hJ
    rw [hj']
    exact br_c (fun _ => fin) (fun _ => br_t (Int32.le_refl _) fin)
  | succ e ih =>
    intro j hj
    have nxt := ih (j + 1) (by omega)
    obtain ⟨r, hr, hrl, hrk⟩ := ld_cnt_ex (p := ld_ls d w n t) 2197 j (by unfold ld_rk at hj; omega)
    have hrm := ld_lsM hrl
    rw [ld_msg_iff] at hrm
    have hqm := hm
    rw [ld_msg_iff] at hqm
    have ent := hL r hr hrl
    rw [show ld_rk d w n t r = j from hrk] at ent
    obtain ⟨e0, e1, e2, e3⟩ := ent
    have no : ¬ r = q → ld_fd (ld_ls d w n t q) (ld_rk d w n t q) (j + 1) = ld_fd (ld_ls d w n t q) (ld_rk d w n t q) j ∧ ld_at (ld_ls d w n t q) (ld_rk d w n t q) (j + 1) = ld_at (ld_ls d w n t q) (ld_rk d w n t q) j := by
      intro hne
      have h : (ld_ls d w n t q = true ∧ ld_rk d w n t q < j + 1) ↔ (ld_ls d w n t q = true ∧ ld_rk d w n t q < j) := by
        constructor
        · rintro ⟨h1, h2⟩
          have : ¬ j = ld_rk d w n t q := fun z => hne (ld_cnt_inj (p := ld_ls d w n t) hrl h1 (hrk.trans z))
          exact ⟨h1, by omega⟩
        · exact fun z => ⟨z.1, by omega⟩
      unfold ld_fd ld_at
      exact ⟨by simp only [h], by simp only [h]⟩
    have goNo : ¬ r = q → wL_law_1016 post L xs J87 J934 x1 x2 x4 x5 x6 x7 (nI t) 1 x11 x12 (nI (ld_rk d w n t 2197)) (nI n) (nI d) (lN (ld_P w n)) (nI m) (nI (q / 169)) (nI (q / 13 % 13)) (nI (q % 13)) (nI (ld_ag w n q)) kc ks (nI n) (nI d) (nI (ld_rk d w n t 2197)) w a0 a1 a2 g (e + 1) (ld_fd (ld_ls d w n t q) (ld_rk d w n t q) j) (ld_at (ld_ls d w n t q) (ld_rk d w n t q) j) (nI (j + 1)) := by
      intro hne
      obtain ⟨n1, n2⟩ := no hne
      rw [n1, n2] at nxt
      exact nxt
    have goYes : r = q → wL_law_1016 post L xs J87 J934 x1 x2 x4 x5 x6 x7 (nI t) 1 x11 x12 (nI (ld_rk d w n t 2197)) (nI n) (nI d) (lN (ld_P w n)) (nI m) (nI (q / 169)) (nI (q / 13 % 13)) (nI (q % 13)) (nI (ld_ag w n q)) kc ks (nI n) (nI d) (nI (ld_rk d w n t 2197)) w a0 a1 a2 g (e + 1) (ld_fd (ld_ls d w n t q) (ld_rk d w n t q) j + 1) (nI j) (nI (j + 1)) := by
      intro hy
      subst hy
      have k0 : ld_rk d w n t r = j := hrk
      have y1 : ld_fd (ld_ls d w n t r) (ld_rk d w n t r) j + 1 = ld_fd (ld_ls d w n t r) (ld_rk d w n t r) (j + 1) := by
        rw [show ld_fd (ld_ls d w n t r) (ld_rk d w n t r) j = 0 from if_neg (fun z => by omega), show ld_fd (ld_ls d w n t r) (ld_rk d w n t r) (j + 1) = 1 from if_pos ⟨hrl, by omega⟩]
        rfl
      have y2 : nI j = ld_at (ld_ls d w n t r) (ld_rk d w n t r) (j + 1) := by
        rw [show ld_at (ld_ls d w n t r) (ld_rk d w n t r) (j + 1) = nI (ld_rk d w n t r) from if_pos ⟨hrl, by omega⟩, k0]
      rw [y1]
      have nx := nxt
      rw [← y2] at nx
      exact nx
    have k61 : nI (r / 169) = nI (q / 169) → nI (r / 13 % 13) = nI (q / 13 % 13) → wL_law_1061 post L xs J87 J934 (wL_law_1016 post L xs J87 J934 x1 x2 x4 x5 x6 x7 (nI t) 1 x11 x12 (nI (ld_rk d w n t 2197)) (nI n) (nI d) (lN (ld_P w n)) (nI m) (nI (q / 169)) (nI (q / 13 % 13)) (nI (q % 13)) (nI (ld_ag w n q)) kc ks (nI n) (nI d) (nI (ld_rk d w n t 2197)) w a0 a1 a2 g (e + 1)) x1 x2 x4 x5 x6 x7 (nI t) 1 x11 x12 (nI (ld_rk d w n t 2197)) (nI n) (nI d) (lN (ld_P w n)) (nI m) (nI (q / 169)) (nI (q / 13 % 13)) (nI (q % 13)) (nI (ld_ag w n q)) (ld_fd (ld_ls d w n t q) (ld_rk d w n t q) j) (ld_at (ld_ls d w n t q) (ld_rk d w n t q) j) (nI j) kc ks (nI n) (nI d) (nI (ld_rk d w n t 2197)) w a0 a1 a2 g := by
      intro z0 z1
      refine pk_lt d 3 (fun h => nm_e (nm_r (nI_1 j) (goYes ?_))) (fun h => xl_cf2 hB (by omega) h hd3 ?_)
      · refine ld_qeq hr hq z0 z1 (congrArg nI ?_)
        omega
      · rw [e2]
        exact br_c (fun z2 => nm_e (nm_r (nI_1 j) (goYes (ld_qeq hr hq z0 z1 z2)))) (fun z2 => nm_r (nI_1 j) (goNo (fun z => z2 (by rw [z]))))
    refine br_f (nI_ge (b := 2197) (by omega) (by decide)) (br_f (nI_ge (by omega) (by omega)) (xl_cf0 hB (by omega) hd1 hd3 ?_))
    rw [e0]
    refine br_c (fun z0 => pk_lt d 2 (fun h => k61 z0 (congrArg nI ?_)) (fun h => xl_cf1 hB (by omega) h hd3 ?_)) (fun z0 => nm_r (nI_1 j) (goNo (fun z => z0 (by rw [z]))))
    · omega
    · rw [e1]
      exact br_c (fun z1 => k61 z0 z1) (fun z1 => nm_r (nI_1 j) (goNo (fun z => z1 (by rw [z]))))
theorem ld_perm {a b c : Nat} (ha : a < 13) (hb : b < 13) (hc : c < 13) : 169 * a + 13 * b + c < 2197 ∧ (169 * a + 13 * b + c) / 169 = a ∧ (169 * a + 13 * b + c) / 13 % 13 = b ∧ (169 * a + 13 * b + c) % 13 = c := by
  refine ⟨?_, ?_, ?_, ?_⟩ <;> omega
theorem ll_934 (hn : n ≤ 13) (hd1 : 1 ≤ d) (hd3 : d ≤ 3) (ht : t < 2 ^ 31) (hW : ld_W w n) (hB : ld_rk d w n t 2197 ≤ 13) (hL : ld_L d w n t 2197 a0 a1 a2 g) (hJ : J87 x5 x6 x7 (nI t) 1 (x12 + 1) (nI n) (nI d) (nI (ld_rk d w n t 2197)) w a0 a1 a2 g) :
    ∀ e m, m + e = 2197 → wL_law_934 post L xs J87 x1 x2 x4 x5 x6 x7 (nI t) 1 x11 x12 (nI (ld_rk d w n t 2197)) (nI n) (nI d) (lN (ld_P w n)) kc ks (nI n) (nI d) (nI (ld_rk d w n t 2197)) w a0 a1 a2 g (e + 1) (nI m) := by
  intro e
  induction e with
  | zero =>
    intro m hm
    have : m = 2197 := by omega
    subst this
    exact br_t (Int32.le_refl _) (nm_e hJ)
  | succ e ih =>
    intro m hm
    have nxt := ih (m + 1) (by omega)
    obtain ⟨q, hq, f1, f2, f3⟩ : ∃ q, q < 2197 ∧ q / 169 = m % 13 ∧ q / 13 % 13 = m / 13 % 13 ∧ q % 13 = m / 169 := ⟨_, ld_perm (Nat.mod_lt _ (by decide)) (Nat.mod_lt _ (by decide)) (by omega)⟩
    refine br_f (nI_ge (b := 2197) (by omega) (by decide)) ⟨by decide, nm_r (ld_rem (by omega)) ⟨by decide, by decide, nm_r (ld_rem2 (by omega)) ⟨by decide, nm_r (ld_div9 (by omega)) ?_⟩⟩⟩
    rw [← f1, ← f2, ← f3]
    have k92 : (2 ≤ d ∨ q / 13 % 13 = 0) → (3 ≤ d ∨ q % 13 = 0) → wL_law_992 post L xs J87 (wL_law_934 post L xs J87 x1 x2 x4 x5 x6 x7 (nI t) 1 x11 x12 (nI (ld_rk d w n t 2197)) (nI n) (nI d) (lN (ld_P w n)) kc ks (nI n) (nI d) (nI (ld_rk d w n t 2197)) w a0 a1 a2 g (e + 1)) x1 x2 x4 x5 x6 x7 (nI t) 1 x11 x12 (nI (ld_rk d w n t 2197)) (nI n) (nI d) (lN (ld_P w n)) (nI m) (nI (q / 169)) (nI (q / 13 % 13)) (nI (q % 13)) kc ks (nI n) (nI d) (nI (ld_rk d w n t 2197)) w a0 a1 a2 g := by
      intro g1 g2
      unfold wL_law_992
      have st := ll_1016 (post := post) (L := L) (xs := xs) (J87 := J87) (x1 := x1) (x2 := x2) (x4 := x4) (x5 := x5) (x6 := x6) (x7 := x7) (x11 := x11) (x12 := x12) (kc := kc) (ks := ks) hn hd1 hd3 ht hB hq (ld_msg_iff.mpr ⟨g1, g2⟩) hL nxt _ 0 (Nat.zero_add _)
      rw [show ld_fd (ld_ls d w n t q) (ld_rk d w n t q) 0 = 0 from if_neg (fun z => by omega), show ld_at (ld_ls d w n t q) (ld_rk d w n t q) 0 = -1 from if_neg (fun z => by omega)] at st
      exact ll_ag hn hW hq ⟨_, st⟩
    have k78 : (2 ≤ d ∨ q / 13 % 13 = 0) → wL_law_978 post L xs J87 (wL_law_934 post L xs J87 x1 x2 x4 x5 x6 x7 (nI t) 1 x11 x12 (nI (ld_rk d w n t 2197)) (nI n) (nI d) (lN (ld_P w n)) kc ks (nI n) (nI d) (nI (ld_rk d w n t 2197)) w a0 a1 a2 g (e + 1)) x1 x2 x4 x5 x6 x7 (nI t) 1 x11 x12 (nI (ld_rk d w n t 2197)) (nI n) (nI d) (lN (ld_P w n)) (nI m) (nI (q / 169)) (nI (q / 13 % 13)) (nI (q % 13)) kc ks (nI n) (nI d) (nI (ld_rk d w n t 2197)) w a0 a1 a2 g := by
      intro g1
      exact pk_le 3 d (fun h => k92 g1 (Or.inl h)) (fun h => pk_eq (q % 13) 0 (fun h2 => k92 g1 (Or.inr h2)) (fun _ => nm_r (nI_1 m) nxt))
    exact pk_le 2 d (fun h => k78 (Or.inl h)) (fun h => pk_eq (q / 13 % 13) 0 (fun h2 => k78 (Or.inr h2)) (fun _ => nm_r (nI_1 m) nxt))
theorem ll_873 (hn : n ≤ 13) (hd1 : 1 ≤ d) (hd3 : d ≤ 3) (ht : t < 2 ^ 31) (hW : ld_W w n) (hB : ld_rk d w n t 2197 ≤ 13) (hL : ld_L d w n t 2197 a0 a1 a2 g) (hJ : J87 x5 x6 x7 (nI t) 1 (x12 + 1) (nI n) (nI d) (nI (ld_rk d w n t 2197)) w a0 a1 a2 g) :
    ∀ e i, i + e = n → wL_law_873 post L xs J87 x1 x2 x4 x5 x6 x7 (nI t) 1 x11 x12 (nI (ld_rk d w n t 2197)) (nI n) (nI d) kc ks (nI n) (nI d) (nI (ld_rk d w n t 2197)) w a0 a1 a2 g (e + 1) (lN (ld_P w i)) (nI i) := by
  intro e
  induction e with
  | zero =>
    intro i hi
    have hi' : i = n := by omega
    rw [hi']
    have fin := ll_934 (post := post) (L := L) (xs := xs) (J87 := J87) (x1 := x1) (x2 := x2) (x4 := x4) (x5 := x5) (x6 := x6) (x7 := x7) (x11 := x11) (x12 := x12) (kc := kc) (ks := ks) hn hd1 hd3 ht hW hB hL hJ 2197 0 (by omega)
    exact br_c (fun _ => ⟨_, fin⟩) (fun _ => br_t (Int32.le_refl _) ⟨_, fin⟩)
  | succ e ih =>
    intro i hi
    have nxt := ih (i + 1) (by omega)
    have c : (nI i).toNatClampNeg = i := nI_clamp (by omega)
    have pk := ld_pack hn hW (i := i) (by omega)
    refine br_f (nI_ge (b := 13) (by omega) (by decide)) (br_f (nI_ge (by omega) (by omega)) ?_)
    unfold wpX_symbolAt
    dsimp only
    refine xl_pos (by omega) (fun hb => absurd rfl (ld_out (a := i) (by omega) (by omega) hb)) (fun j hj ej => br_f (by decide) ⟨vp_in_nI (by omega) (by decide), ?_⟩)
    rw [c]
    rcases hW i (by omega) with he | ⟨s, hs, he⟩
    · rw [show nI (ld_nib (w i)) = 15 by rw [he]; rfl] at pk
      exact br_t (by rw [he]; decide) (nm_r pk (nm_r (nI_1 i) nxt))
    · rw [show nI (ld_nib (w i)) = w i by rw [he, ld_nib_s hs]] at pk
      exact br_f (by rw [he]; exact nI_pos (by omega)) (br_t (by rw [he]; exact nI_le (b := 12) (by omega) (by decide)) (nm_r pk (nm_r (nI_1 i) nxt)))
end
