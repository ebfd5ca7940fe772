/-! the class's list: made by makeList, read by find and best -/
section
variable {w : Nat → Int32} {n d t : Nat}
def ld_c1 (d : Nat) : Nat := if 2 ≤ d then 13 else 1
def ld_c2 (d : Nat) : Nat := if 3 ≤ d then 13 else 1
theorem ld_c1_le (d : Nat) : 1 ≤ ld_c1 d ∧ ld_c1 d ≤ 13 ∧ (2 ≤ d ∨ ld_c1 d = 1) ∧ (2 ≤ d → ld_c1 d = 13) := by
  unfold ld_c1
  split <;> omega
theorem ld_c2_le (d : Nat) : 1 ≤ ld_c2 d ∧ ld_c2 d ≤ 13 ∧ (3 ≤ d ∨ ld_c2 d = 1) ∧ (3 ≤ d → ld_c2 d = 13) := by
  unfold ld_c2
  split <;> omega
theorem ld_lsM {q : Nat} (h : ld_ls d w n t q = true) : ld_msg d q = true := (ld_ls_iff.mp h).1
theorem ld_nomsg {q : Nat} (h : ld_msg d q = false) : ld_ls d w n t q = false := by
  unfold ld_ls
  rw [h]
  rfl
theorem ld_nom {q : Nat} (h : ¬ ((2 ≤ d ∨ q / 13 % 13 = 0) ∧ (3 ≤ d ∨ q % 13 = 0))) : ld_msg d q = false := decide_eq_false h
theorem xl_57 (hn : n ≤ 13) (ht : t < 2 ^ 31) (hB : ld_rk d w n t 2197 ≤ 13) {post : St2 → Prop} {J38 J48 : Int32 → Int32 → Int32 → Int32 → (Nat → Int32) → (Nat → Int32) → (Nat → Int32) → (Nat → Int32) → (Nat → Int32) → Prop} {x2 : Int32} {a b : Nat} (ha : a < 13) (hb : b < ld_c1 d)
    (hJ : ∀ a0 a1 a2 g, ld_L d w n t (169 * a + 13 * b + ld_c2 d) a0 a1 a2 g → J48 (nI (b + 1)) (nI n) (nI d) (nI (ld_rk d w n t (169 * a + 13 * b + ld_c2 d))) w a0 a1 a2 g) :
    ∀ e c, c + e = ld_c2 d → ∀ a0 a1 a2 g, ld_L d w n t (169 * a + 13 * b + c) a0 a1 a2 g → wX_makeList_57 post J38 J48 (nI t) x2 (nI (ld_c2 d)) (nI a) (nI b) (e + 1) (nI c) (nI n) (nI d) (nI (ld_rk d w n t (169 * a + 13 * b + c))) w a0 a1 a2 g := by
  have h1 := ld_c1_le d
  have h2 := ld_c2_le d
  intro e
  induction e with
  | zero =>
    intro c hc a0 a1 a2 g hL
    have : c = ld_c2 d := by omega
    subst this
    exact br_t (Int32.le_refl _) (nm_r (nI_1 b) (hJ a0 a1 a2 g hL))
  | succ e ih =>
    intro c hc a0 a1 a2 g hL
    have q1 : (169 * a + 13 * b + c) / 169 = a := by omega
    have q2 : (169 * a + 13 * b + c) / 13 % 13 = b := by omega
    have q3 : (169 * a + 13 * b + c) % 13 = c := by omega
    have hq : 169 * a + 13 * b + c < 2197 := by omega
    have hms : ld_msg d (169 * a + 13 * b + c) = true := by
      rw [ld_msg_iff, q2, q3]
      omega
    have ag := fun (fk ls : Int32) (post : Int32 → Prop) => xl_ag (fk := fk) (ls := ls) (w := w) (a0 := a0) (a1 := a1) (a2 := a2) (g := g) (post := post) hn hq
    have add := ld_L_add hL
    have t1 := ih (c + 1) (by omega)
    rw [q1, q2, q3] at ag add
    rw [show 169 * a + 13 * b + (c + 1) = 169 * a + 13 * b + c + 1 from rfl] at t1
    generalize 169 * a + 13 * b + c = q at *
    have hag : ld_ag w n q ≤ 13 := Nat.le_trans (ld_cnt_le _ _) hn
    refine br_f (nI_ge (by omega) (by omega)) (ag _ _ _ ?_)
    by_cases hl : t ≤ ld_ag w n q
    · have hls : ld_ls d w n t q = true := ld_ls_iff.mpr ⟨hms, hl⟩
      have hlt : ld_rk d w n t q < ld_rk d w n t 2197 := ld_cnt_lt (p := ld_ls d w n t) hq hls
      have hc' : (nI (ld_rk d w n t q)).toNatClampNeg = ld_rk d w n t q := nI_clamp (by omega)
      have hin : vp_in (nI (ld_rk d w n t q)) 13 := vp_in_nI (by omega) (by decide)
      rw [show ld_rk d w n t (q + 1) = ld_rk d w n t q + 1 from ld_cnt_t hls] at t1
      have t2 := t1 _ _ _ _ add
      refine br_f (nI_nlt hl (by omega)) ?_
      unfold wpX_append
      dsimp only
      refine br_t (nI_lt (b := 13) (by omega) (by decide)) ?_
      rw [hc']
      exact ⟨hin, nm_e ⟨hin, nm_e ⟨hin, nm_e ⟨hin, nm_e (nm_r (nI_1 _) (nm_r (nI_1 c) t2))⟩⟩⟩⟩
    · have hls : ld_ls d w n t q = false := by
        cases e : ld_ls d w n t q with
        | false => rfl
        | true => exact absurd (ld_ls_iff.mp e).2 hl
      rw [show ld_rk d w n t (q + 1) = ld_rk d w n t q from ld_cnt_f hls] at t1
      refine br_t (nI_lt (by omega) (by omega)) (nm_r (nI_1 c) (t1 _ _ _ _ (ld_L_skip hL fun x h1 h2 => ?_)))
      rw [show x = q by omega]
      exact hls
theorem xl_48 (hn : n ≤ 13) (ht : t < 2 ^ 31) (hB : ld_rk d w n t 2197 ≤ 13) {post : St2 → Prop} {J38 : Int32 → Int32 → Int32 → Int32 → (Nat → Int32) → (Nat → Int32) → (Nat → Int32) → (Nat → Int32) → (Nat → Int32) → Prop} {a : Nat} (ha : a < 13)
    (hJ : ∀ a0 a1 a2 g, ld_L d w n t (169 * a + 13 * ld_c1 d) a0 a1 a2 g → J38 (nI (a + 1)) (nI n) (nI d) (nI (ld_rk d w n t (169 * a + 13 * ld_c1 d))) w a0 a1 a2 g) :
    ∀ e b, b + e = ld_c1 d → ∀ a0 a1 a2 g, ld_L d w n t (169 * a + 13 * b) a0 a1 a2 g → wX_makeList_48 post J38 (nI t) (nI (ld_c1 d)) (nI (ld_c2 d)) (nI a) (e + 1) (nI b) (nI n) (nI d) (nI (ld_rk d w n t (169 * a + 13 * b))) w a0 a1 a2 g := by
  have h1 := ld_c1_le d
  have h2 := ld_c2_le d
  intro e
  induction e with
  | zero =>
    intro b hb a0 a1 a2 g hL
    have : b = ld_c1 d := by omega
    subst this
    exact br_t (Int32.le_refl _) (nm_r (nI_1 a) (hJ a0 a1 a2 g hL))
  | succ e ih =>
    intro b hb a0 a1 a2 g hL
    have t1 := ih (b + 1) (by omega)
    have hf : ∀ x, 169 * a + 13 * b + ld_c2 d ≤ x → x < 169 * a + 13 * (b + 1) → ld_ls d w n t x = false := by
      intro x hx1 hx2
      refine ld_nomsg (ld_nom fun hm => ?_)
      omega
    refine br_f (nI_ge (by omega) (by omega)) ⟨_, xl_57 (b := b) hn ht hB ha (by omega) ?_ (ld_c2 d) 0 (by omega) a0 a1 a2 g hL⟩
    intro b0 b1 b2 g' hL'
    have t2 := t1 b0 b1 b2 g' (ld_L_skip hL' hf)
    rw [show ld_rk d w n t (169 * a + 13 * (b + 1)) = ld_rk d w n t (169 * a + 13 * b + ld_c2 d) from ld_cnt_skip (p := ld_ls d w n t) (by omega) hf] at t2
    exact t2
theorem xl_38 (hn : n ≤ 13) (ht : t < 2 ^ 31) (hB : ld_rk d w n t 2197 ≤ 13) {post : St2 → Prop}
    (hp : ∀ a0 a1 a2 g, ld_L d w n t 2197 a0 a1 a2 g → post (nI n, nI d, nI (ld_rk d w n t 2197), w, a0, a1, a2, g)) :
    ∀ e a, a + e = 13 → ∀ a0 a1 a2 g, ld_L d w n t (169 * a) a0 a1 a2 g → wX_makeList_38 post (nI t) (nI (ld_c1 d)) (nI (ld_c2 d)) (e + 1) (nI a) (nI n) (nI d) (nI (ld_rk d w n t (169 * a))) w a0 a1 a2 g := by
  have h1 := ld_c1_le d
  have h2 := ld_c2_le d
  intro e
  induction e with
  | zero =>
    intro a ha a0 a1 a2 g hL
    have : a = 13 := by omega
    subst this
    exact br_t (Int32.le_refl _) (hp a0 a1 a2 g hL)
  | succ e ih =>
    intro a ha a0 a1 a2 g hL
    have t1 := ih (a + 1) (by omega)
    have hf : ∀ x, 169 * a + 13 * ld_c1 d ≤ x → x < 169 * (a + 1) → ld_ls d w n t x = false := by
      intro x hx1 hx2
      refine ld_nomsg (ld_nom fun hm => ?_)
      omega
    refine br_f (nI_ge (b := 13) (by omega) (by decide)) ⟨_, xl_48 (a := a) hn ht hB (by omega) ?_ (ld_c1 d) 0 (by omega) a0 a1 a2 g hL⟩
    intro b0 b1 b2 g' hL'
    have t2 := t1 b0 b1 b2 g' (ld_L_skip hL' hf)
    rw [show ld_rk d w n t (169 * (a + 1)) = ld_rk d w n t (169 * a + 13 * ld_c1 d) from ld_cnt_skip (p := ld_ls d w n t) (by omega) hf] at t2
    exact t2
theorem xl_make {ls : Int32} {a0 a1 a2 g : Nat → Int32} (hn : n ≤ 13) (d1 : 1 ≤ d) (d3 : d ≤ 3) (ht : t < 2 ^ 31) (hB : ld_rk d w n t 2197 ≤ 13) {post : St2 → Prop}
    (hp : ∀ a0 a1 a2 g, ld_L d w n t 2197 a0 a1 a2 g → post (nI n, nI d, nI (ld_rk d w n t 2197), w, a0, a1, a2, g)) : wpX_makeList post (nI n, nI d, ls, w, a0, a1, a2, g) (nI t) := by
  have h1 := ld_c1_le d
  have h2 := ld_c2_le d
  have main := xl_38 hn ht hB hp 13 0 (by omega) a0 a1 a2 g ld_L_0
  have key : wX_makeList_14 post (nI t) (nI (ld_c1 d)) (nI n) (nI d) ls w a0 a1 a2 g := by
    refine pk_lt d 3 (fun h => ⟨13 + 1, ?_⟩) (fun h => ⟨13 + 1, ?_⟩)
    · rw [show ld_c2 d = 1 by omega] at main; exact main
    · rw [show ld_c2 d = 13 by omega] at main; exact main
  refine pk_lt d 2 (fun h => ?_) (fun h => ?_)
  · rw [show ld_c1 d = 1 by omega] at key; exact key
  · rw [show ld_c1 d = 13 by omega] at key; exact key
/-- find: from place i on, where message q isn't listed ahead of i -/
theorem xl_find {post : Int32 → Prop} {q : Nat} {a0 a1 a2 g : Nat → Int32} (hB : ld_rk d w n t 2197 ≤ 13) (hq : q < 2197) (hL : ld_L d w n t 2197 a0 a1 a2 g) (hp1 : ld_ls d w n t q = true → post (nI (ld_rk d w n t q))) (hp0 : ld_ls d w n t q = false → post (-1)) :
    ∀ e i, i + e = ld_rk d w n t 2197 → (ld_ls d w n t q = true → i ≤ ld_rk d w n t q) → wX_find_28 post (nI (q / 169)) (nI (q / 13 % 13)) (nI (q % 13)) (nI n) (nI d) (nI (ld_rk d w n t 2197)) w a0 a1 a2 g (e + 1) (nI i) := by
  intro e
  induction e with
  | zero =>
    intro i hi hr
    have : i = ld_rk d w n t 2197 := by omega
    subst this
    refine br_t (Int32.le_refl _) (hp0 ?_)
    cases c : ld_ls d w n t q with
    | false => rfl
    | true =>
      have := hr c
      have : ld_rk d w n t q < ld_rk d w n t 2197 := ld_cnt_lt (p := ld_ls d w n t) hq c
      omega
  | succ e ih =>
    intro i hi hr
    obtain ⟨r, hr2, hrl, hrk⟩ := ld_cnt_ex (p := ld_ls d w n t) 2197 i (by unfold ld_rk at hi; omega)
    have ent := hL r hr2 hrl
    rw [show ld_rk d w n t r = i from hrk] at ent
    obtain ⟨e0, e1, e2, e3⟩ := ent
    have c : (nI i).toNatClampNeg = i := nI_clamp (by omega)
    have hin : vp_in (nI i) 13 := vp_in_nI (by omega) (by decide)
    have next : ¬ r = q → wX_find_28 post (nI (q / 169)) (nI (q / 13 % 13)) (nI (q % 13)) (nI n) (nI d) (nI (ld_rk d w n t 2197)) w a0 a1 a2 g (e + 1) (nI (i + 1)) := by
      intro hne
      refine ih (i + 1) (by omega) fun hl => ?_
      have h1 := hr hl
      have h2 : ¬ i = ld_rk d w n t q := fun z => hne (ld_cnt_inj (p := ld_ls d w n t) hrl hl (hrk.trans z))
      omega
    refine br_f (nI_ge (by omega) (by omega)) ⟨hin, ?_⟩
    rw [c, e0, e1, e2]
    refine br_c (fun z0 => ⟨hin, br_c (fun z1 => ⟨hin, br_c (fun z2 => ?_) (fun z2 => nm_r (nI_1 i) (next ?_))⟩) (fun z1 => nm_r (nI_1 i) (next ?_))⟩) (fun z0 => nm_r (nI_1 i) (next ?_))
    · have hrq := ld_qeq hr2 hq z0 z1 z2
      subst hrq
      rw [← hrk]
      exact hp1 hrl
    · exact fun z => z2 (by rw [z])
    · exact fun z => z1 (by rw [z])
    · exact fun z => z0 (by rw [z])
/-- best: the greatest of G so far, and its first place -/
def ld_bG (G : Nat → Nat) : Nat → Nat
  | 0 => 0
  | r + 1 => if G r ≤ ld_bG G r then ld_bG G r else G r
def ld_bA (G : Nat → Nat) : Nat → Int32
  | 0 => -1
  | r + 1 => if G r ≤ ld_bG G r then ld_bA G r else nI r
theorem ld_bG_lt {G : Nat → Nat} {L : Nat} (h : ∀ r, r < L → G r < 14) : ∀ i, i ≤ L → ld_bG G i < 14 := by
  intro i
  induction i with
  | zero => exact fun _ => (by decide : 0 < 14)
  | succ i ih =>
    intro hi
    have h1 := ih (by omega)
    have h2 := h i (by omega)
    show (if G i ≤ ld_bG G i then ld_bG G i else G i) < 14
    split <;> omega
theorem xl_best {post : Int32 → Prop} {fn fk : Int32} {a0 a1 a2 g : Nat → Int32} {G : Nat → Nat} {L : Nat} (hB : L ≤ 13) (hg : ∀ r, r < L → g r = nI (G r)) (hG : ∀ r, r < L → G r < 14) (hp : post (ld_bA G L)) :
    ∀ e i, i + e = L → wX_best_18 post fn fk (nI L) w a0 a1 a2 g (e + 1) (ld_bA G i) (nI (ld_bG G i)) (nI i) := by
  intro e
  induction e with
  | zero =>
    intro i hi
    have : i = L := by omega
    subst this
    exact br_t (Int32.le_refl _) hp
  | succ e ih =>
    intro i hi
    have c : (nI i).toNatClampNeg = i := nI_clamp (by omega)
    have hin : vp_in (nI i) 13 := vp_in_nI (by omega) (by decide)
    have t1 := ih (i + 1) (by omega)
    have b1 := ld_bG_lt hG i (by omega)
    have b2 := hG i (by omega)
    refine br_f (nI_ge (by omega) (by omega)) ⟨hin, ?_⟩
    rw [c, hg i (by omega)]
    by_cases h : G i ≤ ld_bG G i
    · rw [show ld_bA G (i + 1) = ld_bA G i from if_pos h, show ld_bG G (i + 1) = ld_bG G i from if_pos h] at t1
      exact br_t (nI_le h (by omega)) (nm_r (nI_1 i) t1)
    · rw [show ld_bA G (i + 1) = nI i from if_neg h, show ld_bG G (i + 1) = G i from if_neg h] at t1
      exact br_f (nI_ge (by omega) (by omega)) ⟨hin, nm_e (nm_r (nI_1 i) t1)⟩
end
