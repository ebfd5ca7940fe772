/-! the reference's private methods and loops, each with a general post -/
section
variable {fn fk hl lim : Int32} {w : Nat → Int32}
theorem yl_msg {post : Int32 → Prop} {d : Nat} {p0 p1 p2 : Int32} (hd : d < 2 ^ 31) (h1 : ld_M d p0 p1 p2 → post 1) (h0 : ¬ ld_M d p0 p1 p2 → post 0) : wpY_isMessage post (fn, nI d, hl, lim, w) p0 p1 p2 := by
  have out : ∀ {p : Int32}, ¬ p < 0 → 12 < p → nI 13 ≤ p := by
    intro p z0 z
    obtain ⟨j, hj, rfl⟩ := nI_of z0
    have h := (nI_ltI (a := 12) (b := j) (by decide) hj).mp z
    exact nI_le (by omega) hj
  have ins : ∀ {p : Int32}, ¬ p < 0 → ¬ 12 < p → ∃ j, j < 13 ∧ p = nI j := by
    intro p z0 z
    obtain ⟨j, hj, rfl⟩ := nI_of z0
    refine ⟨j, ?_, rfl⟩
    have h : ¬ 12 < j := fun z' => z ((nI_ltI (a := 12) (b := j) (by decide) hj).mpr z')
    omega
  have no0 : (p0 < 0 ∨ nI 13 ≤ p0) → post 0 := fun hb => h0 fun M => by
    obtain ⟨a, b, c, ha, hb', hc, e0, e1, e2, _⟩ := ld_M_to M
    exact ld_out ha (by decide) hb e0
  have no1 : (p1 < 0 ∨ nI 13 ≤ p1) → post 0 := fun hb => h0 fun M => by
    obtain ⟨a, b, c, ha, hb', hc, e0, e1, e2, _⟩ := ld_M_to M
    exact ld_out hb' (by decide) hb e1
  have no2 : (p2 < 0 ∨ nI 13 ≤ p2) → post 0 := fun hb => h0 fun M => by
    obtain ⟨a, b, c, ha, hb', hc, e0, e1, e2, _⟩ := ld_M_to M
    exact ld_out hc (by decide) hb e2
  refine br_c (fun z => no0 (Or.inl z)) (fun z0 => br_c (fun z => no0 (Or.inr (out z0 z))) (fun y0 => ?_))
  refine br_c (fun z => no1 (Or.inl z)) (fun z1 => br_c (fun z => no1 (Or.inr (out z1 z))) (fun y1 => ?_))
  refine br_c (fun z => no2 (Or.inl z)) (fun z2 => br_c (fun y2 => ?_) (fun y2 => no2 (Or.inr (out z2 (Int32.not_le.mp y2)))))
  obtain ⟨a, ha, rfl⟩ := ins z0 y0
  obtain ⟨b, hb, rfl⟩ := ins z1 y1
  obtain ⟨c, hc, rfl⟩ := ins z2 (Int32.not_lt.mpr y2)
  have k3 : (2 ≤ d ∨ b = 0) → wY_isMessage_46 post (nI c) fn (nI d) hl lim w := by
    intro hb2
    refine pk_le 3 d (fun h => h1 (ld_M_of ha hb hc hb2 (Or.inl h))) (fun h => ?_)
    refine pk_eq c 0 (fun h => h1 (ld_M_of ha hb hc hb2 (Or.inr h))) (fun h => h0 fun M => ?_)
    obtain ⟨a', b', c', _, _, hc', _, _, e2, _, h2⟩ := ld_M_to M
    rw [nI_eq (by omega) (by omega)] at e2
    omega
  refine pk_le 2 d (fun h => k3 (Or.inl h)) (fun h => ?_)
  refine pk_eq b 0 (fun h => k3 (Or.inr h)) (fun h => h0 fun M => ?_)
  obtain ⟨a', b', c', _, hb', _, _, e1, _, h2, _⟩ := ld_M_to M
  rw [nI_eq (by omega) (by omega)] at e1
  omega
theorem yl_cs {post : Int32 → Prop} {q x : Nat} (hq : q < 2197) (hx : x < 13) (hp : post (nI (ld_code q x))) : wpY_codeSymbol post (fn, fk, hl, lim, w) (nI q) (nI x) :=
  ⟨by decide, nm_r (ld_div9 (by omega)) ⟨by decide, by decide, nm_r (ld_rem2 (by omega)) ⟨by decide, nm_r (ld_rem (by omega)) ⟨by decide, ld_v (ld_csI (by omega) (by omega) (by omega) hx) hp⟩⟩⟩⟩
theorem yl_agl {n q : Nat} (hn : n ≤ 13) (hq : q < 2197) {post : Int32 → Prop} (hp : post (nI (ld_ag w n q))) : ∀ e i, i + e = n → wY_agreementOf_4 post (nI q) (nI n) fk hl lim w (e + 1) (nI (ld_ag w i q)) (nI i) := by
  intro e
  induction e with
  | zero =>
    intro i hi
    have : i = n := by omega
    subst this
    exact br_t (Int32.le_refl _) hp
  | succ e ih =>
    intro i hi
    have c : (nI i).toNatClampNeg = i := nI_clamp (by omega)
    have hin : vp_in (nI i) 13 := vp_in_nI (by omega) (by decide)
    have t := ih (i + 1) (by omega)
    refine br_f (nI_ge (by omega) (by omega)) ⟨hin, ?_⟩
    rw [c]
    by_cases h : w i = nI (ld_code q i)
    · have h' : ¬ w i = -1 := fun z => ld_neg1 (ld_code_lt q i) (h.symm.trans z)
      rw [show ld_ag w (i + 1) q = ld_ag w i q + 1 from ld_cnt_t (decide_eq_true h)] at t
      exact br_f h' ⟨hin, yl_cs hq (by omega) (br_t h (nm_r (nI_1 _) (nm_r (nI_1 i) t)))⟩
    · rw [show ld_ag w (i + 1) q = ld_ag w i q from ld_cnt_f (decide_eq_false h)] at t
      exact br_c (fun _ => nm_r (nI_1 i) t) (fun _ => ⟨hin, yl_cs hq (by omega) (br_f h (nm_r (nI_1 i) t))⟩)
theorem yl_ag {n q : Nat} (hn : n ≤ 13) (hq : q < 2197) {post : Int32 → Prop} (hp : post (nI (ld_ag w n q))) : wpY_agreementOf post (nI n, fk, hl, lim, w) (nI q) :=
  ⟨n + 1, yl_agl hn hq hp n 0 (by omega)⟩
theorem yl_listed {n d t q : Nat} (hn : n ≤ 13) (hd : d ≤ 3) (ht : t < 2 ^ 31) (hq : q < 2197) {post : Int32 → Prop} (h1 : ld_ls d w n t q = true → post 1) (h0 : ld_ls d w n t q = false → post 0) : wpY_listed post (nI n, nI d, hl, nI t, w) (nI q) := by
  have hag : ld_ag w n q ≤ 13 := Nat.le_trans (ld_cnt_le _ _) hn
  refine ⟨by decide, nm_r (ld_div9 (by omega)) ⟨by decide, by decide, nm_r (ld_rem2 (by omega)) ⟨by decide, nm_r (ld_rem (by omega)) ?_⟩⟩⟩
  refine yl_msg (by omega) (fun M => br_f (by decide) (yl_ag hn hq ?_)) (fun M => br_t rfl (h0 (ld_nomsg ?_)))
  · have hm := (ld_M_q hq).mp M
    refine pk_lt (ld_ag w n q) t (fun h => h0 ?_) (fun h => h1 (ld_ls_iff.mpr ⟨hm, h⟩))
    cases e : ld_ls d w n t q with
    | false => rfl
    | true => have := (ld_ls_iff.mp e).2; omega
  · cases e : ld_msg d q with
    | false => rfl
    | true => exact absurd ((ld_M_q hq).mpr e) M
theorem yl_sizel {n d t : Nat} (hn : n ≤ 13) (hd : d ≤ 3) (ht : t < 2 ^ 31) {post : Int32 → Prop} (hp : post (nI (ld_rk d w n t 2197))) : ∀ e i, i + e = 2197 → wY_size_14 post (nI n) (nI d) hl (nI t) w (e + 1) (nI (ld_rk d w n t i)) (nI i) := by
  intro e
  induction e with
  | zero =>
    intro i hi
    have : i = 2197 := by omega
    subst this
    exact br_t (Int32.le_refl _) hp
  | succ e ih =>
    intro i hi
    have t1 := ih (i + 1) (by omega)
    refine br_f (nI_ge (b := 2197) (by omega) (by decide)) (yl_listed hn hd ht (by omega) (fun h => ?_) (fun h => ?_))
    · rw [show ld_rk d w n t (i + 1) = ld_rk d w n t i + 1 from ld_cnt_t h] at t1
      exact br_f (by decide) (nm_r (nI_1 _) (nm_r (nI_1 i) t1))
    · rw [show ld_rk d w n t (i + 1) = ld_rk d w n t i from ld_cnt_f h] at t1
      exact br_t rfl (nm_r (nI_1 i) t1)
theorem yl_size {n d t : Nat} (hn : n ≤ 13) (hd : d ≤ 3) (ht : t < 2 ^ 31) {post : Int32 → Prop} (hp : post (nI (ld_rk d w n t 2197))) : wpY_size post (nI n, nI d, 1, nI t, w) :=
  br_f (by decide) ⟨2197 + 1, yl_sizel hn hd ht hp 2197 0 (by omega)⟩
theorem yl_entryl {n d t j : Nat} (hn : n ≤ 13) (hd : d ≤ 3) (ht : t < 2 ^ 31) (hj : j < ld_rk d w n t 2197) {post : Int32 → Prop} (hp : ∀ q, q < 2197 → ld_ls d w n t q = true → ld_rk d w n t q = j → post (nI q)) : ∀ e i, i + e = 2197 → ld_rk d w n t i ≤ j → wY_entry_4 post (nI j) (nI n) (nI d) hl (nI t) w (e + 1) (nI (ld_rk d w n t i)) (nI i) := by
  have hle : ld_rk d w n t 2197 ≤ 2197 := ld_cnt_le _ _
  intro e
  induction e with
  | zero =>
    intro i hi hr
    have : i = 2197 := by omega
    subst this
    omega
  | succ e ih =>
    intro i hi hr
    refine br_f (nI_ge (b := 2197) (by omega) (by decide)) (yl_listed hn hd ht (by omega) (fun h => br_f (by decide) ?_) (fun h => br_t rfl ?_))
    · refine pk_eq (ld_rk d w n t i) j (fun h2 => hp i (by omega) h h2) (fun h2 => ?_)
      have er : ld_rk d w n t (i + 1) = ld_rk d w n t i + 1 := ld_cnt_t h
      have t1 := ih (i + 1) (by omega) (by omega)
      rw [er] at t1
      exact nm_r (nI_1 _) (nm_r (nI_1 i) t1)
    · have er : ld_rk d w n t (i + 1) = ld_rk d w n t i := ld_cnt_f h
      have t1 := ih (i + 1) (by omega) (by omega)
      rw [er] at t1
      exact nm_r (nI_1 i) t1
theorem yl_entry {n d t j : Nat} (hn : n ≤ 13) (hd : d ≤ 3) (ht : t < 2 ^ 31) (hj : j < ld_rk d w n t 2197) {post : Int32 → Prop} (hp : ∀ q, q < 2197 → ld_ls d w n t q = true → ld_rk d w n t q = j → post (nI q)) : wpY_entry post (nI n, nI d, hl, nI t, w) (nI j) :=
  ⟨2197 + 1, yl_entryl hn hd ht hj hp 2197 0 (by omega) (Nat.zero_le _)⟩
theorem yl_findl {n d t q : Nat} (hn : n ≤ 13) (hd : d ≤ 3) (ht : t < 2 ^ 31) (hq : q < 2197) {post : Int32 → Prop} (hp : post (nI (ld_rk d w n t q))) : ∀ e i, i + e = q → wY_find_54 post (nI q) (nI n) (nI d) hl (nI t) w (e + 1) (nI (ld_rk d w n t i)) (nI i) := by
  intro e
  induction e with
  | zero =>
    intro i hi
    have : i = q := by omega
    subst this
    exact br_t (Int32.le_refl _) hp
  | succ e ih =>
    intro i hi
    have t1 := ih (i + 1) (by omega)
    refine br_f (nI_ge (by omega) (by omega)) (yl_listed hn hd ht (by omega) (fun h => ?_) (fun h => ?_))
    · rw [show ld_rk d w n t (i + 1) = ld_rk d w n t i + 1 from ld_cnt_t h] at t1
      exact br_f (by decide) (nm_r (nI_1 _) (nm_r (nI_1 i) t1))
    · rw [show ld_rk d w n t (i + 1) = ld_rk d w n t i from ld_cnt_f h] at t1
      exact br_t rfl (nm_r (nI_1 i) t1)
/-- the greatest agreement so far as the reference keeps it: -1 before the first entry -/
def ld_yG (G : Nat → Nat) (r : Nat) : Int32 := if r = 0 then -1 else nI (ld_bG G r)
theorem yl_bestl {n d t : Nat} {G : Nat → Nat} (hn : n ≤ 13) (hd : d ≤ 3) (ht : t < 2 ^ 31) (ht1 : 1 ≤ t) (hG : ∀ q, q < 2197 → ld_ls d w n t q = true → G (ld_rk d w n t q) = ld_ag w n q) (hGl : ∀ r, r < ld_rk d w n t 2197 → G r < 14) {post : Int32 → Prop} (hp : post (ld_bA G (ld_rk d w n t 2197))) : ∀ e i, i + e = 2197 → wY_best_19 post (nI n) (nI d) hl (nI t) w (e + 1) (ld_bA G (ld_rk d w n t i)) (ld_yG G (ld_rk d w n t i)) (nI (ld_rk d w n t i)) (nI i) := by
  intro e
  induction e with
  | zero =>
    intro i hi
    have : i = 2197 := by omega
    subst this
    exact br_t (Int32.le_refl _) hp
  | succ e ih =>
    intro i hi
    have t1 := ih (i + 1) (by omega)
    refine br_f (nI_ge (b := 2197) (by omega) (by decide)) (yl_listed hn hd ht (by omega) (fun h => br_f (by decide) (yl_ag hn (by omega) ?_)) (fun h => br_t rfl ?_))
    · have hg := hG i (by omega) h
      have hat := (ld_ls_iff.mp h).2
      have hlt : ld_rk d w n t i < ld_rk d w n t 2197 := ld_cnt_lt (p := ld_ls d w n t) (by omega) h
      have b1 := hGl _ hlt
      have b2 := ld_bG_lt hGl (ld_rk d w n t i) (by omega)
      rw [show ld_rk d w n t (i + 1) = ld_rk d w n t i + 1 from ld_cnt_t h] at t1
      rw [← hg]
      rw [← hg] at hat
      generalize ld_rk d w n t i = r at *
      by_cases r0 : r = 0
      · subst r0
        have hgt : ¬ G 0 ≤ ld_bG G 0 := by show ¬ G 0 ≤ 0; omega
        rw [show ld_bA G (0 + 1) = nI 0 from if_neg hgt, show ld_yG G (0 + 1) = nI (G 0) from (if_neg (by decide)).trans (congrArg nI (if_neg hgt))] at t1
        refine br_f (fun z => ?_) (nm_r (nI_1 _) (nm_r (nI_1 i) t1))
        have z' : nI (G 0) ≤ -1 := z
        rw [Int32.le_iff_toInt_le, nI_toInt (by omega), show (-1 : Int32).toInt = -1 by decide] at z'
        omega
      · have ey : ld_yG G r = nI (ld_bG G r) := if_neg r0
        have ey1 : ld_yG G (r + 1) = nI (ld_bG G (r + 1)) := if_neg (by omega)
        rw [ey]
        rw [ey1] at t1
        by_cases hc : G r ≤ ld_bG G r
        · rw [show ld_bA G (r + 1) = ld_bA G r from if_pos hc, show ld_bG G (r + 1) = ld_bG G r from if_pos hc] at t1
          exact br_t (nI_le hc (by omega)) (nm_r (nI_1 _) (nm_r (nI_1 i) t1))
        · rw [show ld_bA G (r + 1) = nI r from if_neg hc, show ld_bG G (r + 1) = G r from if_neg hc] at t1
          exact br_f (nI_ge (by omega) (by omega)) (nm_r (nI_1 _) (nm_r (nI_1 i) t1))
    · rw [show ld_rk d w n t (i + 1) = ld_rk d w n t i from ld_cnt_f h] at t1
      exact nm_r (nI_1 i) t1
theorem yl_rcl {n : Nat} (hn : n ≤ 13) {post : Int32 → Prop} (hp : post (nI (ld_m w n))) : ∀ e i, i + e = n → wY_received_4 post (nI n) fk hl lim w (e + 1) (nI (ld_m w i)) (nI i) := by
  intro e
  induction e with
  | zero =>
    intro i hi
    have : i = n := by omega
    subst this
    exact br_t (Int32.le_refl _) hp
  | succ e ih =>
    intro i hi
    have c : (nI i).toNatClampNeg = i := nI_clamp (by omega)
    have t := ih (i + 1) (by omega)
    refine br_f (nI_ge (by omega) (by omega)) ⟨vp_in_nI (by omega) (by decide), ?_⟩
    rw [c]
    by_cases h : w i = -1
    · rw [show ld_m w (i + 1) = ld_m w i from ld_cnt_f (decide_eq_false (fun z => z h))] at t
      exact br_t h (nm_r (nI_1 i) t)
    · rw [show ld_m w (i + 1) = ld_m w i + 1 from ld_cnt_t (decide_eq_true h)] at t
      exact br_f h (nm_r (nI_1 _) (nm_r (nI_1 i) t))
theorem yl_rc {n : Nat} (hn : n ≤ 13) {post : Int32 → Prop} (hp : post (nI (ld_m w n))) : wpY_received post (nI n, fk, hl, lim, w) :=
  ⟨n + 1, yl_rcl hn hp n 0 (by omega)⟩
theorem yl_low {n d : Nat} (hn : n ≤ 13) (d1 : 1 ≤ d) (d3 : d ≤ 3) {post : Int32 → Prop} (hp : post (nI (ld_low d (ld_m w n)))) : wpY_lowestThreshold post (nI n, nI d, hl, lim, w) := by
  unfold wpY_lowestThreshold
  dsimp only
  have hm := ld_lt14 (w := w) hn
  refine yl_rc hn ?_
  generalize ld_m w n = m at hm hp
  refine pk_eq d 1 (fun h => ?_) (fun h => pk_eq m 0 (fun h3 => ?_) (fun h3 => pk_eq d 2 (fun h2 => ?_) (fun h2 => ?_)))
  · subst h
    exact hp
  · rw [show ld_low d m = 1 by unfold ld_low; (repeat' split) <;> omega] at hp; exact hp
  · subst h2
    refine pk_lt 2 m (fun h => pk_lt 5 m (fun h => pk_lt 9 m (fun h => ?_) (fun h => ?_)) (fun h => ?_)) (fun h => ?_)
    · rw [show ld_low 2 m = 5 by unfold ld_low; (repeat' split) <;> omega] at hp; exact hp
    · rw [show ld_low 2 m = 4 by unfold ld_low; (repeat' split) <;> omega] at hp; exact hp
    · rw [show ld_low 2 m = 3 by unfold ld_low; (repeat' split) <;> omega] at hp; exact hp
    · rw [show ld_low 2 m = 2 by unfold ld_low; (repeat' split) <;> omega] at hp; exact hp
  · have h3 : d = 3 := by omega
    subst h3
    refine pk_lt 1 m (fun h => pk_lt 3 m (fun h => pk_lt 5 m (fun h => pk_lt 8 m (fun h => pk_lt 11 m (fun h => ?_) (fun h => ?_)) (fun h => ?_)) (fun h => ?_)) (fun h => ?_)) (fun h => ?_)
    · rw [show ld_low 3 m = 7 by unfold ld_low; (repeat' split) <;> omega] at hp; exact hp
    · rw [show ld_low 3 m = 6 by unfold ld_low; (repeat' split) <;> omega] at hp; exact hp
    · rw [show ld_low 3 m = 5 by unfold ld_low; (repeat' split) <;> omega] at hp; exact hp
    · rw [show ld_low 3 m = 4 by unfold ld_low; (repeat' split) <;> omega] at hp; exact hp
    · rw [show ld_low 3 m = 3 by unfold ld_low; (repeat' split) <;> omega] at hp; exact hp
    · rw [show ld_low 3 m = 2 by unfold ld_low; (repeat' split) <;> omega] at hp; exact hp
theorem yl_wrl {n q : Nat} {m : Int32} (hn : n ≤ 13) (hq : q < 2197) {post : Int32 → SY → Prop} (hp : post (nI (ld_cnt (ld_bit m) n)) (nI n, fk, 0, lim, ld_wr (ld_bit m) q w n)) : ∀ e i, i + e = n → wY_write_52 post m (nI q) (nI n) fk hl lim (e + 1) (nI (ld_cnt (ld_bit m) i)) (nI i) (ld_wr (ld_bit m) q w i) := by
  intro e
  induction e with
  | zero =>
    intro i hi
    have : i = n := by omega
    subst this
    exact br_t (Int32.le_refl _) hp
  | succ e ih =>
    intro i hi
    have c : (nI i).toNatClampNeg = i := nI_clamp (by omega)
    have t := ih (i + 1) (by omega)
    refine br_f (nI_ge (by omega) (by omega)) ?_
    by_cases h : ((m >>> (nI i &&& 31)) &&& 1) = 1
    · rw [show ld_cnt (ld_bit m) (i + 1) = ld_cnt (ld_bit m) i + 1 from ld_cnt_t (decide_eq_true h), ld_wr_t (B := ld_bit m) (decide_eq_true h)] at t
      refine br_t h (yl_cs hq (by omega) ⟨vp_in_nI (by omega) (by decide), ?_⟩)
      rw [c]
      exact nm_e (nm_r (nI_1 _) (nm_r (nI_1 i) t))
    · rw [show ld_cnt (ld_bit m) (i + 1) = ld_cnt (ld_bit m) i from ld_cnt_f (decide_eq_false h), ld_wr_f (B := ld_bit m) (decide_eq_false h)] at t
      exact br_f h (nm_r (nI_1 i) t)
/-- correct's loop: every position is written; those that did not agree are counted -/
theorem yl_crl {n q : Nat} (hn : n ≤ 13) (hq : q < 2197) {post : Int32 → SY → Prop} (hp : post (nI (ld_cnt (fun x => !ld_agB w q x) n)) (nI n, fk, 0, lim, ld_wr (fun _ => true) q w n)) : ∀ e i, i + e = n → wY_correct_36 post (nI q) (nI n) fk hl lim (e + 1) (nI (ld_cnt (fun x => !ld_agB w q x) i)) (nI i) (ld_wr (fun _ => true) q w i) := by
  intro e
  induction e with
  | zero =>
    intro i hi
    have : i = n := by omega
    subst this
    exact br_t (Int32.le_refl _) hp
  | succ e ih =>
    intro i hi
    have c : (nI i).toNatClampNeg = i := nI_clamp (by omega)
    have hin : vp_in (nI i) 13 := vp_in_nI (by omega) (by decide)
    have t := ih (i + 1) (by omega)
    rw [ld_wr_t (B := fun _ => true) (i := i) rfl] at t
    refine br_f (nI_ge (by omega) (by omega)) (yl_cs hq (by omega) ⟨hin, ?_⟩)
    rw [c, ld_wr_hi (Nat.le_refl i)]
    by_cases h : w i = nI (ld_code q i)
    · have hb : (fun x => !ld_agB w q x) i = false := by
        show (!ld_agB w q i) = false
        rw [show ld_agB w q i = true from decide_eq_true h]
        rfl
      rw [ld_cnt_f hb] at t
      exact br_t h ⟨hin, nm_e (nm_r (nI_1 i) t)⟩
    · have hb : (fun x => !ld_agB w q x) i = true := by
        show (!ld_agB w q i) = true
        rw [show ld_agB w q i = false from decide_eq_false h]
        rfl
      rw [ld_cnt_t hb] at t
      exact br_f h (nm_r (nI_1 _) ⟨hin, nm_e (nm_r (nI_1 i) t)⟩)
theorem yl_inl {post : SY → Prop} (hp : post (fn, fk, 0, lim, ld_in 13)) : ∀ e i, i + e = 13 → wY_init_62 post fn fk hl lim (e + 1) (nI i) (ld_in i) := by
  intro e
  induction e with
  | zero =>
    intro i hi
    have : i = 13 := by omega
    subst this
    exact br_t (Int32.le_refl _) hp
  | succ e ih =>
    intro i hi
    have c : (nI i).toNatClampNeg = i := nI_clamp (by omega)
    have t := ih (i + 1) (by omega)
    refine br_f (nI_ge (b := 13) (by omega) (by decide)) ⟨vp_in_nI (by omega) (by decide), ?_⟩
    rw [c]
    exact nm_e (nm_r (nI_1 i) t)
end
