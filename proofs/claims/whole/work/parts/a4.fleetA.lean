-- ===== fleets read: the mathematics =====
def fl_h (T : Nat × NF) (p : Nat) : Nat := if p < T.1 then T.2 p else 256
def fl_s (c : Nat) : Nat := if c = 46 then 0 else if c = 35 then 1 else if c = 111 then 2 else 3
def fl_k (c : Nat) : Nat := if c = 111 then 1 else if c = 103 then 2 else if c = 100 then 3 else if c = 116 then 4 else if c = 109 then 5 else 0
def fl_l (c : Nat) : Nat := if c = 110 then 0 else if c = 101 then 1 else if c = 115 then 2 else if c = 119 then 3 else 4
def fl_I (c : Nat) : Int32 := if c < 256 then nI c else -1
abbrev fl_d (c b : Nat) : Prop := 48 ≤ c ∧ c < 48 + b
/-- the place where the reading ends, and, if all was well, what was read -/
abbrev PR : Type := Nat × Option NF
def fl_b (r : PR) (f : Nat → NF → PR) : PR := match r with
  | (q, none) => (q, none)
  | (q, some G) => f q G
def fl_n (T : Nat × NF) : Nat → Nat → Nat
  | 0 => fun _ => 0
  | m + 1 => fun p => if fl_s (fl_h T p) < 3 then 1 + fl_n T m (p + 1) else 0
def fl_m (F : NF) : Nat := if F 1 = 0 then 8 else F 2
def fl_rp (T : Nat × NF) (p n : Nat) (F : NF) : NF := fun j => if 3 + 8 * F 1 ≤ j ∧ j < 3 + 8 * F 1 + n then fl_s (fl_h T (p + (j - (3 + 8 * F 1)))) else F j
def fl_rw (T : Nat × NF) (p n : Nat) (F : NF) : NF := fun j => if j = 1 then F 1 + 1 else if j = 2 then n else fl_rp T p n F j
def fl_row (T : Nat × NF) (p : Nat) (F : NF) : PR := if fl_n T (fl_m F) p = 0 ∨ (0 < F 1 ∧ fl_n T (fl_m F) p < F 2) then (p + fl_n T (fl_m F) p, none) else (p + fl_n T (fl_m F) p, some (fl_rw T p (fl_n T (fl_m F) p) F))
def fl_sea (T : Nat × NF) : Nat → Nat → NF → PR
  | 0 => fun p _ => (p, none)
  | m + 1 => fun p F => fl_b (fl_row T p F) (fun q G => if fl_h T q = 59 then (q + 1, some G) else if G 1 < 6 ∧ fl_h T q = 47 then fl_sea T m (q + 1) G else (q, none))
def fl_sh (T : Nat × NF) (p : Nat) (F : NF) : NF := fun j => if j = 0 then F 0 + 1 else if j = 51 + F 0 then fl_k (fl_h T p) else if j = 58 + F 0 then 8 * (fl_h T (p + 1) - 48) + (fl_h T (p + 2) - 48) else if j = 64 + F 0 then fl_l (fl_h T (p + 3)) else if j = 70 + F 0 then fl_h T (p + 4) - 48 else F j
def fl_ship (T : Nat × NF) (p : Nat) (F : NF) : PR :=
  if fl_k (fl_h T p) = 0 then (p, none) else
  if ¬ fl_d (fl_h T (p + 1)) (F 1) then (p + 1, none) else
  if ¬ (fl_d (fl_h T (p + 2)) (F 2) ∧ F (3 + (8 * (fl_h T (p + 1) - 48) + (fl_h T (p + 2) - 48))) ≠ 1) then (p + 2, none) else
  if ¬ fl_l (fl_h T (p + 3)) < 4 then (p + 3, none) else
  if ¬ fl_d (fl_h T (p + 4)) 6 then (p + 4, none) else (p + 5, some (fl_sh T p F))
def fl_ships (T : Nat × NF) : Nat → Nat → NF → PR
  | 0 => fun p _ => (p, none)
  | m + 1 => fun p F => fl_b (fl_ship T p F) (fun q G => if fl_h T q = 59 then (q + 1, some G) else if G 0 < 6 ∧ fl_h T q = 44 then fl_ships T m (q + 1) G else (q, none))
def fl_cw (F : NF) (t v : Nat) : NF := fun j => if j = 76 + t then v else F j
def fl_cr (T : Nat × NF) : Nat → Nat → NF → PR
  | 0 => fun p F => (p, some F)
  | m + 1 => fun p F => if fl_d (fl_h T p) 10 then fl_cr T m (p + 1) (fl_cw F (3 - m) (fl_h T p - 48)) else (p, none)
def fl_all (T : Nat × NF) : PR := if fl_h T 0 = 102 then fl_b (fl_sea T 6 1 (fun _ => 0)) (fun q G => fl_b (fl_ships T 6 q G) (fun q2 H => fl_b (fl_cr T 4 q2 H) (fun q3 K => if q3 = T.1 then (q3, some K) else (q3, none)))) else (0, none)
abbrev okTp (T : Nat × NF) : Prop := T.1 ≤ 130 ∧ ∀ j, j < T.1 → T.2 j < 256
def okP (G : NF) : Prop := G 0 ≤ 6 ∧ G 1 ≤ 6 ∧ G 2 ≤ 8 ∧ G 57 = 0 ∧ (∀ s, s < G 0 → okS G s) ∧ ∀ c, c < 48 → G (3 + c) ≤ 2
theorem okP.W {G : NF} (h : okP G) : okW G := ⟨h.2.1, h.2.2.1, h.2.2.2.2.2⟩
theorem fl_h_le {T : Nat × NF} {p : Nat} (hT : okTp T) : fl_h T p ≤ 256 := by
  unfold fl_h
  by_cases h : p < T.1
  · rw [if_pos h]; have := hT.2 p h; omega
  · rw [if_neg h]; exact Nat.le_refl _
theorem fl_h_lt {T : Nat × NF} {p : Nat} (h : fl_h T p < 256) : p < T.1 := by
  unfold fl_h at h
  by_cases c : p < T.1
  · exact c
  · rw [if_neg c] at h; omega
theorem fl_n_le {T : Nat × NF} : ∀ m p, fl_n T m p ≤ m := by
  intro m
  induction m with
  | zero => intro p; exact Nat.le_refl 0
  | succ m ih =>
    intro p
    show (if fl_s (fl_h T p) < 3 then 1 + fl_n T m (p + 1) else 0) ≤ m + 1
    have := ih (p + 1)
    split <;> omega
theorem fl_s_le (c : Nat) : fl_s c ≤ 3 := by unfold fl_s; (repeat' split) <;> omega
theorem fl_n_at {T : Nat × NF} : ∀ m p i, i < fl_n T m p → fl_s (fl_h T (p + i)) < 3 := by
  intro m
  induction m with
  | zero => intro p i hi; exact absurd hi (Nat.not_lt_zero i)
  | succ m ih =>
    intro p i hi
    have e : fl_n T (m + 1) p = (if fl_s (fl_h T p) < 3 then 1 + fl_n T m (p + 1) else 0) := rfl
    rw [e] at hi
    by_cases c : fl_s (fl_h T p) < 3
    · rw [if_pos c] at hi
      by_cases i0 : i = 0
      · rw [i0]; exact c
      · have := ih (p + 1) (i - 1) (by omega)
        rwa [show p + 1 + (i - 1) = p + i from by omega] at this
    · rw [if_neg c] at hi; omega
theorem fl_d_i {b : Nat} {c : Nat} (hb : b ≤ 10) (h : fl_d c b) : c < 256 := by have := h.2; omega
theorem fl_k_le (c : Nat) : fl_k c ≤ 5 := by unfold fl_k; (repeat' split) <;> omega
theorem fl_k_lt {c : Nat} (h : fl_k c ≠ 0) : c < 256 := by
  unfold fl_k at h
  by_cases h1 : c < 256
  · exact h1
  · rw [if_neg (by omega), if_neg (by omega), if_neg (by omega), if_neg (by omega), if_neg (by omega)] at h
    exact absurd rfl h
theorem fl_l_lt {c : Nat} (h : fl_l c < 4) : c < 256 := by
  unfold fl_l at h
  by_cases h1 : c < 256
  · exact h1
  · rw [if_neg (by omega), if_neg (by omega), if_neg (by omega), if_neg (by omega)] at h
    omega
theorem fl_s_lt {c : Nat} (h : fl_s c < 3) : c < 256 := by
  unfold fl_s at h
  by_cases h1 : c < 256
  · exact h1
  · rw [if_neg (by omega), if_neg (by omega), if_neg (by omega)] at h
    omega
theorem fl_m_le {F : NF} (h : okP F) : fl_m F ≤ 8 := by
  unfold fl_m; have := h.2.2.1; split <;> omega
theorem fl_rp_lo {T : Nat × NF} {p n j : Nat} {F : NF} (h : j < 3 + 8 * F 1 ∨ 3 + 8 * F 1 + n ≤ j) : fl_rp T p n F j = F j := by
  unfold fl_rp; rw [if_neg (by omega)]
theorem fl_rp_at {T : Nat × NF} {p n i : Nat} {F : NF} (h : i < n) : fl_rp T p n F (3 + 8 * F 1 + i) = fl_s (fl_h T (p + i)) := by
  unfold fl_rp; rw [if_pos (by omega), show 3 + 8 * F 1 + i - (3 + 8 * F 1) = i from by omega]
theorem fl_rw_o {T : Nat × NF} {p n j : Nat} {F : NF} (h1 : j ≠ 1) (h2 : j ≠ 2) : fl_rw T p n F j = fl_rp T p n F j := by
  unfold fl_rw; rw [if_neg h1, if_neg h2]
theorem fl_row_ok {T : Nat × NF} {p q : Nat} {F G : NF} (hP : okP F) (h0 : F 0 = 0) (h1 : F 1 < 6) (e : fl_row T p F = (q, some G)) : okP G ∧ G 0 = 0 ∧ G 1 = F 1 + 1 ∧ q = p + fl_n T (fl_m F) p ∧ G = fl_rw T p (fl_n T (fl_m F) p) F ∧ ¬ (fl_n T (fl_m F) p = 0 ∨ (0 < F 1 ∧ fl_n T (fl_m F) p < F 2)) := by
  unfold fl_row at e
  by_cases c : fl_n T (fl_m F) p = 0 ∨ (0 < F 1 ∧ fl_n T (fl_m F) p < F 2)
  · rw [if_pos c] at e; cases e
  · rw [if_neg c] at e
    have e1 : p + fl_n T (fl_m F) p = q := congrArg Prod.fst e
    have e2 : fl_rw T p (fl_n T (fl_m F) p) F = G := Option.some.inj (congrArg Prod.snd e)
    have nl := fl_n_le (T := T) (fl_m F) p
    have ml := fl_m_le hP
    have at' := fl_n_at (T := T) (fl_m F) p
    generalize fl_n T (fl_m F) p = n at *
    have g0 : G 0 = 0 := by rw [← e2, fl_rw_o (by omega) (by omega), fl_rp_lo (by omega)]; exact h0
    have g1 : G 1 = F 1 + 1 := by rw [← e2]; rfl
    have g2 : G 2 = n := by rw [← e2]; rfl
    refine ⟨⟨by omega, by omega, by omega, ?_, fun s hs => absurd hs (by omega), fun x hx => ?_⟩, g0, g1, e1.symm, e2.symm, c⟩
    · rw [← e2, fl_rw_o (by omega) (by omega), fl_rp_lo (by omega)]; exact hP.2.2.2.1
    · rw [← e2, fl_rw_o (by omega) (by omega)]
      by_cases z : 3 + 8 * F 1 ≤ 3 + x ∧ 3 + x < 3 + 8 * F 1 + n
      · have := at' (x - 8 * F 1) (by omega)
        rw [show 3 + x = 3 + 8 * F 1 + (x - 8 * F 1) from by omega, fl_rp_at (by omega)]
        omega
      · rw [fl_rp_lo (by omega)]; exact hP.2.2.2.2.2 x hx
theorem fl_b_n {f : Nat → NF → PR} {q : Nat} : fl_b (q, none) f = (q, none) := rfl
theorem fl_b_s {f : Nat → NF → PR} {q : Nat} {G : NF} : fl_b (q, some G) f = f q G := rfl
theorem fl_b_i {r : PR} {f : Nat → NF → PR} {q : Nat} {G : NF} (h : fl_b r f = (q, some G)) : ∃ q1 G1, r = (q1, some G1) ∧ f q1 G1 = (q, some G) := by
  obtain ⟨q1, o⟩ := r
  cases o with
  | none => rw [fl_b_n] at h; cases h
  | some G1 => exact ⟨q1, G1, rfl, h⟩
theorem fl_sea_ok {T : Nat × NF} : ∀ m p F q G, okP F → F 0 = 0 → F 1 + m = 6 → fl_sea T m p F = (q, some G) → okP G ∧ G 0 = 0 := by
  intro m
  induction m with
  | zero =>
    intro p F q G _ _ _ e
    have e : (p, (none : Option NF)) = (q, some G) := e
    cases e
  | succ m ih =>
    intro p F q G hP h0 h1 e
    obtain ⟨q1, G1, e1, e2⟩ := fl_b_i (r := fl_row T p F) e
    obtain ⟨a1, a2, a3, -⟩ := fl_row_ok hP h0 (by omega) e1
    by_cases c : fl_h T q1 = 59
    · rw [if_pos c] at e2
      have : G1 = G := Option.some.inj (congrArg Prod.snd e2)
      rw [← this]; exact ⟨a1, a2⟩
    · rw [if_neg c] at e2
      by_cases c2 : G1 1 < 6 ∧ fl_h T q1 = 47
      · rw [if_pos c2] at e2
        exact ih (q1 + 1) G1 q G a1 a2 (by omega) e2
      · rw [if_neg c2] at e2; cases e2
theorem fl_sh_0 {T : Nat × NF} {p : Nat} {F : NF} : fl_sh T p F 0 = F 0 + 1 := rfl
theorem fl_sh_o {T : Nat × NF} {p j : Nat} {F : NF} (h0 : j ≠ 0) (h1 : j ≠ 51 + F 0) (h2 : j ≠ 58 + F 0) (h3 : j ≠ 64 + F 0) (h4 : j ≠ 70 + F 0) : fl_sh T p F j = F j := by
  unfold fl_sh; rw [if_neg h0, if_neg h1, if_neg h2, if_neg h3, if_neg h4]
theorem fl_sh_k {T : Nat × NF} {p : Nat} {F : NF} : fl_sh T p F (51 + F 0) = fl_k (fl_h T p) := by
  unfold fl_sh; rw [if_neg (by omega), if_pos rfl]
theorem fl_sh_c {T : Nat × NF} {p : Nat} {F : NF} : fl_sh T p F (58 + F 0) = 8 * (fl_h T (p + 1) - 48) + (fl_h T (p + 2) - 48) := by
  unfold fl_sh; rw [if_neg (by omega), if_neg (by omega), if_pos rfl]
theorem fl_sh_l {T : Nat × NF} {p : Nat} {F : NF} : fl_sh T p F (64 + F 0) = fl_l (fl_h T (p + 3)) := by
  unfold fl_sh; rw [if_neg (by omega), if_neg (by omega), if_neg (by omega), if_pos rfl]
theorem fl_sh_w {T : Nat × NF} {p : Nat} {F : NF} : fl_sh T p F (70 + F 0) = fl_h T (p + 4) - 48 := by
  unfold fl_sh; rw [if_neg (by omega), if_neg (by omega), if_neg (by omega), if_neg (by omega), if_pos rfl]
theorem fl_ship_i {T : Nat × NF} {p q : Nat} {F G : NF} (e : fl_ship T p F = (q, some G)) : fl_k (fl_h T p) ≠ 0 ∧ fl_d (fl_h T (p + 1)) (F 1) ∧ fl_d (fl_h T (p + 2)) (F 2) ∧ fl_l (fl_h T (p + 3)) < 4 ∧ fl_d (fl_h T (p + 4)) 6 ∧ q = p + 5 ∧ G = fl_sh T p F := by
  unfold fl_ship at e
  by_cases c1 : fl_k (fl_h T p) = 0
  · rw [if_pos c1] at e; cases e
  rw [if_neg c1] at e
  by_cases c2 : fl_d (fl_h T (p + 1)) (F 1)
  rotate_left
  · rw [if_pos c2] at e; cases e
  rw [if_neg (fun z => z c2)] at e
  by_cases c3 : fl_d (fl_h T (p + 2)) (F 2) ∧ F (3 + (8 * (fl_h T (p + 1) - 48) + (fl_h T (p + 2) - 48))) ≠ 1
  rotate_left
  · rw [if_pos c3] at e; cases e
  rw [if_neg (fun z => z c3)] at e
  by_cases c4 : fl_l (fl_h T (p + 3)) < 4
  rotate_left
  · rw [if_pos c4] at e; cases e
  rw [if_neg (fun z => z c4)] at e
  by_cases c5 : fl_d (fl_h T (p + 4)) 6
  rotate_left
  · rw [if_pos c5] at e; cases e
  rw [if_neg (fun z => z c5)] at e
  have e1 : p + 5 = q := congrArg Prod.fst e
  have e2 : fl_sh T p F = G := Option.some.inj (congrArg Prod.snd e)
  exact ⟨c1, c2, c3.1, c4, c5, e1.symm, e2.symm⟩
theorem fl_ship_ok {T : Nat × NF} {p q : Nat} {F G : NF} (hP : okP F) (h0 : F 0 < 6) (e : fl_ship T p F = (q, some G)) : okP G ∧ G 0 = F 0 + 1 := by
  obtain ⟨c1, c2, c3, c4, c5, -, rfl⟩ := fl_ship_i e
  have h1 := hP.2.1
  have h2 := hP.2.2.1
  have g1 : fl_sh T p F 1 = F 1 := fl_sh_o (by omega) (by omega) (by omega) (by omega) (by omega)
  have g2 : fl_sh T p F 2 = F 2 := fl_sh_o (by omega) (by omega) (by omega) (by omega) (by omega)
  have k5 := fl_k_le (fl_h T p)
  refine ⟨⟨by rw [fl_sh_0]; omega, by rw [g1]; exact h1, by rw [g2]; exact h2, by rw [fl_sh_o (by omega) (by omega) (by omega) (by omega) (by omega)]; exact hP.2.2.2.1, fun s hs => ?_, fun x hx => by rw [fl_sh_o (by omega) (by omega) (by omega) (by omega) (by omega)]; exact hP.2.2.2.2.2 x hx⟩, fl_sh_0⟩
  rw [fl_sh_0] at hs
  unfold okS
  rw [g1, g2]
  by_cases z : s = F 0
  · rw [z, fl_sh_k, fl_sh_c, fl_sh_l, fl_sh_w]
    have d2 := c2.2
    have d3 := c3.2
    have d5 := c5.2
    exact ⟨by omega, by omega, by omega, by omega, c4, by omega⟩
  · rw [fl_sh_o (by omega) (by omega) (by omega) (by omega) (by omega), fl_sh_o (by omega) (by omega) (by omega) (by omega) (by omega), fl_sh_o (by omega) (by omega) (by omega) (by omega) (by omega), fl_sh_o (by omega) (by omega) (by omega) (by omega) (by omega)]
    exact hP.2.2.2.2.1 s (by omega)
theorem fl_ships_ok {T : Nat × NF} : ∀ m p F q G, okP F → F 0 + m = 6 → fl_ships T m p F = (q, some G) → okP G ∧ 0 < G 0 := by
  intro m
  induction m with
  | zero =>
    intro p F q G _ _ e
    have e : (p, (none : Option NF)) = (q, some G) := e
    cases e
  | succ m ih =>
    intro p F q G hP h1 e
    obtain ⟨q1, G1, e1, e2⟩ := fl_b_i (r := fl_ship T p F) e
    obtain ⟨a1, a2⟩ := fl_ship_ok hP (by omega) e1
    by_cases c : fl_h T q1 = 59
    · rw [if_pos c] at e2
      have : G1 = G := Option.some.inj (congrArg Prod.snd e2)
      rw [← this]; exact ⟨a1, by omega⟩
    · rw [if_neg c] at e2
      by_cases c2 : G1 0 < 6 ∧ fl_h T q1 = 44
      · rw [if_pos c2] at e2
        exact ih (q1 + 1) G1 q G a1 (by omega) e2
      · rw [if_neg c2] at e2; cases e2
theorem fl_cw_o {F : NF} {t v j : Nat} (h : j ≠ 76 + t) : fl_cw F t v j = F j := by unfold fl_cw; rw [if_neg h]
theorem fl_cw_e {F : NF} {t v : Nat} : fl_cw F t v (76 + t) = v := by unfold fl_cw; rw [if_pos rfl]
theorem fl_cw_ok {F : NF} {t v : Nat} (h : okP F) : okP (fl_cw F t v) := by
  have h6 := h.1
  refine ⟨by rw [fl_cw_o (by omega)]; exact h.1, by rw [fl_cw_o (by omega)]; exact h.2.1, by rw [fl_cw_o (by omega)]; exact h.2.2.1, by rw [fl_cw_o (by omega)]; exact h.2.2.2.1, fun s hs => ?_, fun x hx => by rw [fl_cw_o (by omega)]; exact h.2.2.2.2.2 x hx⟩
  rw [fl_cw_o (by omega)] at hs
  unfold okS
  rw [fl_cw_o (by omega), fl_cw_o (by omega), fl_cw_o (by omega), fl_cw_o (by omega), fl_cw_o (by omega), fl_cw_o (by omega)]
  exact h.2.2.2.2.1 s hs
theorem fl_cr_ok {T : Nat × NF} : ∀ m p F q G, m ≤ 4 → okP F → 0 < F 0 → (∀ t, t < 4 - m → F (76 + t) ≤ 9) → fl_cr T m p F = (q, some G) → okP G ∧ 0 < G 0 ∧ ∀ t, t < 4 → G (76 + t) ≤ 9 := by
  intro m
  induction m with
  | zero =>
    intro p F q G _ hP h0 hc e
    have e2 : F = G := Option.some.inj (congrArg Prod.snd e)
    rw [← e2]; exact ⟨hP, h0, hc⟩
  | succ m ih =>
    intro p F q G hm hP h0 hc e
    have e : (if fl_d (fl_h T p) 10 then fl_cr T m (p + 1) (fl_cw F (3 - m) (fl_h T p - 48)) else (p, none)) = (q, some G) := e
    by_cases c : fl_d (fl_h T p) 10
    · rw [if_pos c] at e
      have d2 := c.2
      refine ih (p + 1) _ q G (by omega) (fl_cw_ok hP) (by rw [fl_cw_o (by omega)]; exact h0) (fun t ht => ?_) e
      by_cases z : t = 3 - m
      · rw [z, fl_cw_e]; omega
      · rw [fl_cw_o (by omega)]; exact hc t (by omega)
    · rw [if_neg c] at e; cases e
theorem okP0 : okP (fun _ => 0) := ⟨Nat.zero_le _, Nat.zero_le _, Nat.zero_le _, rfl, fun s hs => absurd hs (Nat.not_lt_zero s), fun _ _ => Nat.zero_le _⟩
theorem fl_all_ok {T : Nat × NF} {q : Nat} {G : NF} (e : fl_all T = (q, some G)) : okF G := by
  unfold fl_all at e
  by_cases c : fl_h T 0 = 102
  rotate_left
  · rw [if_neg c] at e; cases e
  rw [if_pos c] at e
  obtain ⟨q1, G1, e1, e2⟩ := fl_b_i e
  obtain ⟨q2, G2, e3, e4⟩ := fl_b_i e2
  obtain ⟨q3, G3, e5, e6⟩ := fl_b_i e4
  obtain ⟨a1, a2⟩ := fl_sea_ok 6 1 (fun _ => 0) q1 G1 okP0 rfl rfl e1
  obtain ⟨b1, b2⟩ := fl_ships_ok 6 q1 G1 q2 G2 a1 (by omega) e3
  obtain ⟨d1, d2, d3⟩ := fl_cr_ok 4 q2 G2 q3 G3 (Nat.le_refl 4) b1 b2 (fun t ht => absurd ht (by omega)) e5
  by_cases c2 : q3 = T.1
  rotate_left
  · rw [if_neg c2] at e6; cases e6
  rw [if_pos c2] at e6
  have e7 : G3 = G := Option.some.inj (congrArg Prod.snd e6)
  rw [← e7]
  exact ⟨d1.1, d1.2.1, d1.2.2.1, by rw [d1.2.2.2.1]; omega, d3, d1.2.2.2.2.1, d1.2.2.2.2.2, fun z => absurd z (by omega)⟩
theorem fl_I_eq {c k : Nat} (hc : c ≤ 256) (hk : k < 256) : fl_I c = nI k ↔ c = k := by
  unfold fl_I
  by_cases h : c < 256
  · rw [if_pos h]; exact nI_eq (by omega) (by omega)
  · rw [if_neg h]
    constructor
    · intro z
      exact absurd (show nI k < 0 from by rw [← z]; decide) (nI_pos (by omega))
    · intro z; omega
theorem fl_fig : ∀ c, c < 257 → (48 ≤ c ∧ c < 256 → fl_I c - 48 = nI (c - 48)) ∧ (¬ (48 ≤ c ∧ c < 256) → fl_I c - 48 < 0) := by decide +kernel
