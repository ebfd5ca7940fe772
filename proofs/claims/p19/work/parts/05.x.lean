/-! the class's private methods and loops, each with a general post -/
section
variable {fn fk ls : Int32} {w a0 a1 a2 g : Nat → Int32}
theorem xl_pos {post : Int32 → Prop} {n : Nat} {p : Int32} (hn : n < 2 ^ 31) (h0 : p < 0 ∨ nI n ≤ p → post 0) (h1 : ∀ j, j < n → p = nI j → post 1) : wpX_isPosition post (nI n, fk, ls, w, a0, a1, a2, g) p := by
  rcases pk_ix p hn with h | h | ⟨j, hj, rfl⟩
  · exact br_t h (h0 (Or.inl h))
  · exact br_c (fun z => h0 (Or.inl z)) (fun _ => br_t h (h0 (Or.inr h)))
  · exact br_f (nI_pos (by omega)) (br_f (nI_ge hj hn) (h1 j hj rfl))
theorem xl_sym {post : Int32 → Prop} {p : Int32} (h0 : p < 0 ∨ nI 13 ≤ p → post 0) (h1 : ∀ j, j < 13 → p = nI j → post 1) : wpX_isSymbol post () p := by
  rcases pk_ix p (n := 13) (by decide) with h | h | ⟨j, hj, rfl⟩
  · exact br_t h (h0 (Or.inl h))
  · exact br_c (fun z => h0 (Or.inl z)) (fun _ => br_t h (h0 (Or.inr h)))
  · exact br_f (nI_pos (by omega)) (br_f (nI_ge (b := 13) hj (by decide)) (h1 j hj rfl))
theorem xl_msg {post : Int32 → Prop} {d : Nat} {p0 p1 p2 : Int32} (hd : d < 2 ^ 31) (h1 : ld_M d p0 p1 p2 → post 1) (h0 : ¬ ld_M d p0 p1 p2 → post 0) : wpX_isMessage post (fn, nI d, ls, w, a0, a1, a2, g) p0 p1 p2 := by
  unfold wpX_isMessage
  dsimp only
  refine xl_sym (fun hb => br_t rfl (h0 fun M => ?_)) (fun a ha ea => br_f (by decide) ?_)
  · obtain ⟨a, b, c, ha, hb', hc, e0, e1, e2, _⟩ := ld_M_to M
    exact ld_out ha (by decide) hb e0
  refine xl_sym (fun hb => br_t rfl (h0 fun M => ?_)) (fun b hb eb => br_f (by decide) ?_)
  · obtain ⟨a, b, c, ha, hb', hc, e0, e1, e2, _⟩ := ld_M_to M
    exact ld_out hb' (by decide) hb e1
  refine xl_sym (fun hb => br_t rfl (h0 fun M => ?_)) (fun c hc ec => br_f (by decide) ?_)
  · obtain ⟨a, b, c, ha, hb', hc, e0, e1, e2, _⟩ := ld_M_to M
    exact ld_out hc (by decide) hb e2
  subst ea eb ec
  have k3 : (2 ≤ d ∨ b = 0) → wX_isMessage_35 post (nI c) fn (nI d) ls w a0 a1 a2 g := by
    intro hb2
    refine pk_le 3 d (fun h => h1 (ld_M_of ha hb hc hb2 (Or.inl h))) (fun h => ?_)
    refine pk_eq c 0 (fun h => h1 (ld_M_of ha hb hc hb2 (Or.inr h))) (fun h => h0 fun M => ?_)
    obtain ⟨a', b', c', _, _, hc', _, _, e2, _, h2⟩ := ld_M_to M
    rw [nI_eq (by omega) (by omega)] at e2
    omega
  refine pk_le 2 d (fun h => k3 (Or.inl h)) (fun h => ?_)
  refine pk_eq b 0 (fun h => k3 (Or.inr h)) (fun h => h0 fun M => ?_)
  obtain ⟨a', b', c', _, hb', _, _, e1, _, h2, _⟩ := ld_M_to M
  rw [nI_eq (by omega) (by omega)] at e1
  omega
theorem xl_cs {post : Int32 → Prop} {a b c x : Nat} (ha : a < 13) (hb : b < 13) (hc : c < 13) (hx : x < 13) (hp : post (nI (ld_cs a b c x))) : wpX_codeSymbol post () (nI a) (nI b) (nI c) (nI x) :=
  ⟨by decide, ld_v (ld_csI ha hb hc hx) hp⟩
theorem xl_rcl {n : Nat} (hn : n ≤ 13) {post : Int32 → Prop} (hp : post (nI (ld_m w n))) : ∀ e i, i + e = n → wX_received_4 post (nI n) fk ls w a0 a1 a2 g (e + 1) (nI (ld_m w i)) (nI i) := by
  intro e
  induction e with
  | zero =>
    intro i hi
    have : i = n := by omega
    subst this
    exact br_t (Int32.le_refl _) hp
  | succ e ih =>
    intro i hi
    have c : (nI i).toNatClampNeg = i := nI_clamp (by omega)
    have t := ih (i + 1) (by omega)
    refine br_f (nI_ge (by omega) (by omega)) ⟨vp_in_nI (by omega) (by decide), ?_⟩
    rw [c]
    by_cases h : w i = -1
    · rw [show ld_m w (i + 1) = ld_m w i from ld_cnt_f (decide_eq_false (fun z => z h))] at t
      exact br_t h (nm_r (nI_1 i) t)
    · rw [show ld_m w (i + 1) = ld_m w i + 1 from ld_cnt_t (decide_eq_true h)] at t
      exact br_f h (nm_r (nI_1 _) (nm_r (nI_1 i) t))
theorem xl_rc {n : Nat} (hn : n ≤ 13) {post : Int32 → Prop} (hp : post (nI (ld_m w n))) : wpX_received post (nI n, fk, ls, w, a0, a1, a2, g) :=
  ⟨n + 1, xl_rcl hn hp n 0 (by omega)⟩
theorem ld_lt14 {w : Nat → Int32} {n : Nat} (hn : n ≤ 13) : ld_m w n < 14 := by
  have := ld_cnt_le (ld_rcB w) n
  unfold ld_m
  omega
theorem xl_low {n d : Nat} (hn : n ≤ 13) (d1 : 1 ≤ d) (d3 : d ≤ 3) {post : Int32 → Prop} (hp : post (nI (ld_low d (ld_m w n)))) : wpX_lowestThreshold post (nI n, nI d, ls, w, a0, a1, a2, g) := by
  unfold wpX_lowestThreshold
  dsimp only
  have hm := ld_lt14 (w := w) hn
  refine xl_rc hn ?_
  generalize ld_m w n = m at hm hp
  refine pk_eq d 1 (fun h => ?_) (fun h => pk_eq d 2 (fun h2 => ?_) (fun h2 => ?_))
  · subst h
    exact hp
  · subst h2
    refine pk_eq m 0 (fun h => ?_) (fun h => pk_lt 2 m (fun h => pk_lt 5 m (fun h => pk_lt 9 m (fun h => ?_) (fun h => ?_)) (fun h => ?_)) (fun h => ?_))
    · rw [show ld_low 2 m = 1 by unfold ld_low; (repeat' split) <;> omega] at hp; exact hp
    · rw [show ld_low 2 m = 5 by unfold ld_low; (repeat' split) <;> omega] at hp; exact hp
    · rw [show ld_low 2 m = 4 by unfold ld_low; (repeat' split) <;> omega] at hp; exact hp
    · rw [show ld_low 2 m = 3 by unfold ld_low; (repeat' split) <;> omega] at hp; exact hp
    · rw [show ld_low 2 m = 2 by unfold ld_low; (repeat' split) <;> omega] at hp; exact hp
  · have h3 : d = 3 := by omega
    subst h3
    refine pk_eq m 0 (fun h => ?_) (fun h => pk_eq m 1 (fun h => ?_) (fun h => pk_lt 3 m (fun h => pk_lt 5 m (fun h => pk_lt 8 m (fun h => pk_lt 11 m (fun h => ?_) (fun h => ?_)) (fun h => ?_)) (fun h => ?_)) (fun h => ?_)))
    · rw [show ld_low 3 m = 1 by unfold ld_low; (repeat' split) <;> omega] at hp; exact hp
    · rw [show ld_low 3 m = 2 by unfold ld_low; (repeat' split) <;> omega] at hp; exact hp
    · rw [show ld_low 3 m = 7 by unfold ld_low; (repeat' split) <;> omega] at hp; exact hp
    · rw [show ld_low 3 m = 6 by unfold ld_low; (repeat' split) <;> omega] at hp; exact hp
    · rw [show ld_low 3 m = 5 by unfold ld_low; (repeat' split) <;> omega] at hp; exact hp
    · rw [show ld_low 3 m = 4 by unfold ld_low; (repeat' split) <;> omega] at hp; exact hp
    · rw [show ld_low 3 m = 3 by unfold ld_low; (repeat' split) <;> omega] at hp; exact hp
theorem xl_agl {n q : Nat} (hn : n ≤ 13) (hq : q < 2197) {post : Int32 → Prop} (hp : post (nI (ld_ag w n q))) : ∀ e i, i + e = n → wX_countAgreement_6 post (nI (q / 169)) (nI (q / 13 % 13)) (nI (q % 13)) (nI n) fk ls w a0 a1 a2 g (e + 1) (nI (ld_ag w i q)) (nI i) := by
  intro e
  induction e with
  | zero =>
    intro i hi
    have : i = n := by omega
    subst this
    exact br_t (Int32.le_refl _) hp
  | succ e ih =>
    intro i hi
    have c : (nI i).toNatClampNeg = i := nI_clamp (by omega)
    have t := ih (i + 1) (by omega)
    refine br_f (nI_ge (by omega) (by omega)) ⟨vp_in_nI (by omega) (by decide), ?_⟩
    refine xl_cs (by omega) (by omega) (by omega) (by omega) ?_
    rw [c]
    by_cases h : w i = nI (ld_code q i)
    · rw [show ld_ag w (i + 1) q = ld_ag w i q + 1 from ld_cnt_t (decide_eq_true h)] at t
      exact br_t h (nm_r (nI_1 _) (nm_r (nI_1 i) t))
    · rw [show ld_ag w (i + 1) q = ld_ag w i q from ld_cnt_f (decide_eq_false h)] at t
      exact br_f h (nm_r (nI_1 i) t)
theorem xl_ag {n q : Nat} (hn : n ≤ 13) (hq : q < 2197) {post : Int32 → Prop} (hp : post (nI (ld_ag w n q))) : wpX_countAgreement post (nI n, fk, ls, w, a0, a1, a2, g) (nI (q / 169)) (nI (q / 13 % 13)) (nI (q % 13)) :=
  ⟨n + 1, xl_agl hn hq hp n 0 (by omega)⟩
def ld_bit (m : Int32) (x : Nat) : Bool := decide (((m >>> (nI x &&& 31)) &&& 1) = 1)
theorem xl_wrl {n q : Nat} {m : Int32} (hn : n ≤ 13) (hq : q < 2197) {post : Int32 → St2 → Prop} (hp : post (nI (ld_cnt (ld_bit m) n)) (nI n, fk, -7, ld_wr (ld_bit m) q w n, a0, a1, a2, g)) : ∀ e i, i + e = n → wX_writeCodeword_6 post (nI (q / 169)) (nI (q / 13 % 13)) (nI (q % 13)) m (nI n) fk ls (e + 1) (nI (ld_cnt (ld_bit m) i)) (nI i) (ld_wr (ld_bit m) q w i) a0 a1 a2 g := by
  intro e
  induction e with
  | zero =>
    intro i hi
    have : i = n := by omega
    subst this
    exact br_t (Int32.le_refl _) hp
  | succ e ih =>
    intro i hi
    have c : (nI i).toNatClampNeg = i := nI_clamp (by omega)
    have t := ih (i + 1) (by omega)
    refine br_f (nI_ge (by omega) (by omega)) ?_
    by_cases h : ((m >>> (nI i &&& 31)) &&& 1) = 1
    · rw [show ld_cnt (ld_bit m) (i + 1) = ld_cnt (ld_bit m) i + 1 from ld_cnt_t (decide_eq_true h), ld_wr_t (B := ld_bit m) (decide_eq_true h)] at t
      refine br_t h (xl_cs (by omega) (by omega) (by omega) (by omega) ⟨vp_in_nI (by omega) (by decide), ?_⟩)
      rw [c]
      exact nm_e (nm_r (nI_1 _) (nm_r (nI_1 i) t))
    · rw [show ld_cnt (ld_bit m) (i + 1) = ld_cnt (ld_bit m) i from ld_cnt_f (decide_eq_false h), ld_wr_f (B := ld_bit m) (decide_eq_false h)] at t
      exact br_f h (nm_r (nI_1 i) t)
theorem xl_wr {n q : Nat} {m : Int32} (hn : n ≤ 13) (hq : q < 2197) {post : Int32 → St2 → Prop} (hp : post (nI (ld_cnt (ld_bit m) n)) (nI n, fk, -7, ld_wr (ld_bit m) q w n, a0, a1, a2, g)) : wpX_writeCodeword post (nI n, fk, ls, w, a0, a1, a2, g) (nI (q / 169)) (nI (q / 13 % 13)) (nI (q % 13)) m :=
  ⟨n + 1, xl_wrl hn hq hp n 0 (by omega)⟩
theorem xl_inl {mc ms kc ks : Nat} {post : St2 → Prop} (hp : post (fn, fk, ls, ld_in 13, a0, a1, a2, g)) : ∀ e i, i + e = 13 → wX_init_73 post mc ms kc ks fn fk ls (e + 1) (nI i) (ld_in i) a0 a1 a2 g := by
  intro e
  induction e with
  | zero =>
    intro i hi
    have : i = 13 := by omega
    subst this
    exact br_t (Int32.le_refl _) hp
  | succ e ih =>
    intro i hi
    have c : (nI i).toNatClampNeg = i := nI_clamp (by omega)
    have t := ih (i + 1) (by omega)
    refine br_f (nI_ge (b := 13) (by omega) (by decide)) ⟨vp_in_nI (by omega) (by decide), ?_⟩
    rw [c]
    exact nm_e (nm_r (nI_1 i) t)
end
