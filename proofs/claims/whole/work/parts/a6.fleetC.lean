-- ===== fleets read: the reference =====
def TM (I : IT) (T : Nat × NF) (p : Nat) : Prop := p ≤ T.1 ∧ I 118 3 = nI T.1 ∧ (∀ j, j < T.1 → I 120 j = nI (T.2 j)) ∧ I 118 7 = nI p
def fm_F (I I' : IT) : Prop := (∀ a, a ≠ 118 → a ≠ 119 → I' a = I a) ∧ (∀ j, j ≠ 7 → I' 118 j = I 118 j) ∧ ∀ j, (j < 240 ∨ 320 ≤ j) → I' 119 j = I 119 j
theorem fm_F.rf {I : IT} : fm_F I I := ⟨fun _ _ _ => rfl, fun _ _ => rfl, fun _ _ => rfl⟩
theorem fm_F.tr {I I1 I2 : IT} (h : fm_F I I1) (h2 : fm_F I1 I2) : fm_F I I2 := ⟨fun a ha hb => (h2.1 a ha hb).trans (h.1 a ha hb), fun j hj => (h2.2.1 j hj).trans (h.2.1 j hj), fun j hj => (h2.2.2 j hj).trans (h.2.2 j hj)⟩
theorem fm_F.at7 {I : IT} {x : Int32} : fm_F I (sI I 118 7 x) := ⟨fun a ha _ => sI_ne ha, fun j hj => by rw [sI_at, if_neg (fun z => hj z.2)], fun j _ => by rw [sI_ne (by omega)]⟩
theorem fm_F.w {I : IT} {k : Nat} {x : Int32} (h : 240 ≤ k ∧ k < 320) : fm_F I (sI I 119 k x) := ⟨fun a _ hb => sI_ne hb, fun j _ => by rw [sI_ne (by omega)], fun j hj => by rw [sI_at, if_neg (by omega)]⟩
theorem TM.w {I : IT} {T : Nat × NF} {p j : Nat} {x : Int32} (h : TM I T p) : TM (sI I 119 j x) T p :=
  ⟨h.1, by rw [sI_ne (by omega)]; exact h.2.1, fun i hi => by rw [sI_ne (by omega)]; exact h.2.2.1 i hi, by rw [sI_ne (by omega)]; exact h.2.2.2⟩
theorem TM.adv {I : IT} {T : Nat × NF} {p : Nat} (h : TM I T p) (hp : p < T.1) : TM (sI I 118 7 (I 118 7 + 1)) T (p + 1) :=
  ⟨hp, by rw [sI_at, if_neg (by omega)]; exact h.2.1, fun i hi => by rw [sI_ne (by omega)]; exact h.2.2.1 i hi, by rw [sI_at, if_pos ⟨rfl, rfl⟩, h.2.2.2, nI_one]⟩
theorem MF.w {I : IT} {r k v : Nat} {F G : NF} (h : MF I r F) (hk : k < 80) (e : G k = v) (e2 : ∀ j, j < 80 → j ≠ k → G j = F j) : MF (sI I 119 (r + k) (nI v)) r G := by
  intro j hj
  rw [sI_at]
  by_cases z : j = k
  · rw [if_pos ⟨rfl, by omega⟩, z, e]
  · rw [if_neg (by omega), e2 j hj z]; exact h j hj
section FLM
variable {g : GT} {d : Nat} {I : IT} {J : JT} {T : Nat × NF} {p : Nat}
theorem s_X8_here {P : Int32 → IT → JT → Prop} (hT : okTp T) (ht : TM I T p) (h : P (fl_I (fl_h T p)) I J) : SemI g d M_X8_here [.ref (ga g 118)] I J P := by
  refine w_X8_here ?_
  unfold VC_X8_here
  have hp := ht.1
  have h130 := hT.1
  rw [ht.2.2.2, ht.2.1]
  unfold fl_h fl_I at h
  refine ⟨fun z => ?_, fun z => ?_⟩
  · have z := (nI_leI (by omega) (by omega)).mp z
    rw [if_neg (show ¬ p < T.1 by omega), if_neg (by omega)] at h; exact h
  · have z : ¬ T.1 ≤ p := fun y => z ((nI_leI (by omega) (by omega)).mpr y)
    have hp2 : p < T.1 := by omega
    rw [if_pos hp2, if_pos (hT.2 p hp2)] at h
    rw [nI_cl (by omega), ht.2.2.1 p hp2]
    exact ⟨vp_in_nI (by omega) (by omega), h⟩
theorem s_X8_takes {k : Nat} {P : Bool → IT → JT → Prop} (hd : 1 ≤ d) (hk : k < 256) (hT : okTp T) (ht : TM I T p) (h1 : fl_h T p = k → ∀ I', TM I' T (p + 1) → (∀ a, a ≠ 118 → I' a = I a) → fm_F I I' → P true I' J) (h2 : fl_h T p ≠ k → P false I J) : SemZ g d M_X8_takes [.ref (ga g 118), .int (nI k)] I J P := by
  refine w_X8_takes hd ?_
  unfold VC_X8_takes
  have hl := fl_h_le (p := p) hT
  refine s_X8_here hT ht ⟨fun z => ?_, fun z => h2 (fun y => z ((fl_I_eq hl hk).mpr y))⟩
  have z := (fl_I_eq hl hk).mp z
  exact h1 z _ (ht.adv (fl_h_lt (by omega))) (fun a ha => sI_ne ha) fm_F.at7
theorem fl_inN {c b : Nat} (hc : c ≤ 256) (hb : b ≤ 10) : inN (fl_I c - 48) b = decide (fl_d c b) := by
  have f := fl_fig c (by omega)
  by_cases z : 48 ≤ c ∧ c < 256
  · rw [f.1 z, inN_i (by omega)]
    apply decide_eq_decide.mpr
    constructor
    · intro y; exact ⟨z.1, by omega⟩
    · intro y; have := y.2; omega
  · have y := f.2 z
    rw [decide_eq_false (fun w : fl_d c b => z ⟨w.1, fl_d_i hb w⟩)]
    unfold inN
    rw [Int32.lt_iff_toInt_lt, show (0 : Int32).toInt = 0 from by decide] at y
    exact decide_eq_false (by omega)
theorem s_X8_figure {b : Nat} {v : Int32} {P : Int32 → IT → JT → Prop} (hd : 1 ≤ d) (hb : b ≤ 10) (hv : v.toInt64.toInt = (b : Int) - 1) (hT : okTp T) (ht : TM I T p) (h1 : fl_d (fl_h T p) b → ∀ I', TM I' T (p + 1) → (∀ a, a ≠ 118 → I' a = I a) → fm_F I I' → P (nI (fl_h T p - 48)) I' J) (h2 : ¬ fl_d (fl_h T p) b → P (-1) I J) : SemI g d M_X8_figure [.ref (ga g 118), .int v] I J P := by
  refine w_X8_figure hd ?_
  unfold VC_X8_figure
  have hl := fl_h_le (p := p) hT
  refine s_X8_here hT ht (s_X8_inN hv ?_)
  rw [fl_inN hl hb]
  refine ⟨fun z => ?_, fun z => h2 (of_decide_eq_false z)⟩
  have z := of_decide_eq_true z
  have z2 := z.2
  have f := (fl_fig (fl_h T p) (by omega)).1 ⟨z.1, by omega⟩
  rw [f]
  exact h1 z _ (ht.adv (fl_h_lt (by omega))) (fun a ha => sI_ne ha) fm_F.at7
theorem s_X8_seaOf {c : Nat} {P : Int32 → IT → JT → Prop} (hc : c ≤ 256) (h : P (if fl_s c < 3 then nI (fl_s c) else -1) I J) : SemI g d M_X8_seaOf [.int (fl_I c)] I J P := by
  refine w_X8_seaOf ?_
  unfold VC_X8_seaOf
  unfold fl_s at h
  refine ⟨fun z1 => ⟨fun z2 => ⟨fun z3 => ?_, fun z3 => ?_⟩, fun z2 => ?_⟩, fun z1 => ?_⟩
  · rw [if_neg (fun y => z1 ((fl_I_eq (k := 46) hc (by omega)).mpr y)), if_neg (fun y => z2 ((fl_I_eq (k := 35) hc (by omega)).mpr y)), if_neg (fun y => z3 ((fl_I_eq (k := 111) hc (by omega)).mpr y))] at h
    exact h
  · rw [(fl_I_eq (k := 111) hc (by omega)).mp z3] at h; exact h
  · rw [(fl_I_eq (k := 35) hc (by omega)).mp z2] at h; exact h
  · rw [(fl_I_eq (k := 46) hc (by omega)).mp z1] at h; exact h
theorem s_X8_kindOf {c : Nat} {P : Int32 → IT → JT → Prop} (hc : c ≤ 256) (h : P (nI (fl_k c)) I J) : SemI g d M_X8_kindOf [.int (fl_I c)] I J P := by
  refine w_X8_kindOf ?_
  unfold VC_X8_kindOf
  unfold fl_k at h
  refine ⟨fun z1 => ⟨fun z2 => ⟨fun z3 => ⟨fun z4 => ⟨fun z5 => ?_, fun z5 => ?_⟩, fun z4 => ?_⟩, fun z3 => ?_⟩, fun z2 => ?_⟩, fun z1 => ?_⟩
  · rw [if_neg (fun y => z1 ((fl_I_eq (k := 111) hc (by omega)).mpr y)), if_neg (fun y => z2 ((fl_I_eq (k := 103) hc (by omega)).mpr y)), if_neg (fun y => z3 ((fl_I_eq (k := 100) hc (by omega)).mpr y)), if_neg (fun y => z4 ((fl_I_eq (k := 116) hc (by omega)).mpr y)), if_neg (fun y => z5 ((fl_I_eq (k := 109) hc (by omega)).mpr y))] at h
    exact h
  · rw [(fl_I_eq (k := 109) hc (by omega)).mp z5] at h; exact h
  · rw [(fl_I_eq (k := 116) hc (by omega)).mp z4] at h; exact h
  · rw [(fl_I_eq (k := 100) hc (by omega)).mp z3] at h; exact h
  · rw [(fl_I_eq (k := 103) hc (by omega)).mp z2] at h; exact h
  · rw [(fl_I_eq (k := 111) hc (by omega)).mp z1] at h; exact h
theorem s_X8_lookOf {c : Nat} {P : Int32 → IT → JT → Prop} (hc : c ≤ 256) (h : P (if fl_l c < 4 then nI (fl_l c) else -1) I J) : SemI g d M_X8_lookOf [.int (fl_I c)] I J P := by
  refine w_X8_lookOf ?_
  unfold VC_X8_lookOf
  unfold fl_l at h
  refine ⟨fun z1 => ⟨fun z2 => ⟨fun z3 => ⟨fun z4 => ?_, fun z4 => ?_⟩, fun z3 => ?_⟩, fun z2 => ?_⟩, fun z1 => ?_⟩
  · rw [if_neg (fun y => z1 ((fl_I_eq (k := 110) hc (by omega)).mpr y)), if_neg (fun y => z2 ((fl_I_eq (k := 101) hc (by omega)).mpr y)), if_neg (fun y => z3 ((fl_I_eq (k := 115) hc (by omega)).mpr y)), if_neg (fun y => z4 ((fl_I_eq (k := 119) hc (by omega)).mpr y))] at h
    exact h
  · rw [(fl_I_eq (k := 119) hc (by omega)).mp z4] at h; exact h
  · rw [(fl_I_eq (k := 115) hc (by omega)).mp z3] at h; exact h
  · rw [(fl_I_eq (k := 101) hc (by omega)).mp z2] at h; exact h
  · rw [(fl_I_eq (k := 110) hc (by omega)).mp z1] at h; exact h
theorem s_X8_takesRow {F : NF} {P : Bool → IT → JT → Prop} (hd : 2 ≤ d) (hT : okTp T) (ht : TM I T p) (hM : MF I 240 F) (hP : okP F) (h1 : F 1 < 6) (hN : ∀ q I', fl_row T p F = (q, none) → TM I' T q → fm_F I I' → P false I' J) (hS : ∀ q G I', fl_row T p F = (q, some G) → TM I' T q → MF I' 240 G → fm_F I I' → P true I' J) : SemZ g d M_X8_takesRow [.ref (ga g 118)] I J P := by
  have h130 := hT.1
  have h2 := hP.2.2.1
  have ml := fl_m_le hP
  have nl := fl_n_le (T := T) (fl_m F) p
  have ex : ∀ n (I1 : IT), fl_n T (fl_m F) p = n → TM I1 T (p + n) → MF I1 240 (fl_rp T p n F) → fm_F I I1 → Lp_X8_takesRow_82 g d (nI (F 1)) (nI (fl_m F)) (nI n) I1 J P := by
    intro n I1 en t1 m1 f1
    refine w_X8_takesRow_82 ?_
    unfold VC_X8_takesRow_82
    have no : n = 0 ∨ (0 < F 1 ∧ n < F 2) → fl_row T p F = (p + n, none) := fun z => by
      rw [← en] at z ⊢; unfold fl_row; exact if_pos z
    have yes : ¬ (n = 0 ∨ (0 < F 1 ∧ n < F 2)) → P true (sI (sI I1 119 242 (nI n)) 119 241 (((sI I1 119 242 (nI n)) 119 241) + 1)) J := fun z => by
      have er : fl_row T p F = (p + n, some (fl_rw T p n F)) := by rw [← en] at z ⊢; unfold fl_row; exact if_neg z
      have e1 : I1 119 241 = nI (F 1) := by
        have := m1 1 (by omega)
        rw [fl_rp_lo (by omega)] at this
        exact this
      have e2 : (sI I1 119 242 (nI n)) 119 241 + 1 = nI (F 1 + 1) := by rw [sI_at, if_neg (by omega), e1, nI_one]
      rw [e2]
      refine hS (p + n) (fl_rw T p n F) _ er t1.w.w (fun j hj => ?_) (f1.tr ((fm_F.w (by omega)).tr (fm_F.w (by omega))))
      rw [sI_at]
      by_cases y1 : j = 1
      · rw [if_pos ⟨rfl, by omega⟩, y1]; rfl
      · rw [if_neg (by omega), sI_at]
        by_cases y2 : j = 2
        · rw [if_pos ⟨rfl, by omega⟩, y2]; rfl
        · rw [if_neg (by omega), fl_rw_o y1 y2]; exact m1 j hj
    refine ⟨fun z => ?_, fun z => ⟨fun y => yes ?_, fun y => ⟨fun w => yes ?_, fun w => ?_⟩⟩⟩
    · have z := (nI_eq (b := 0) (by omega) (by omega)).mp z
      exact hN _ I1 (no (Or.inl z)) t1 f1
    · have z : n ≠ 0 := fun v => z (by rw [v]; rfl)
      have := (nI_leI (b := 0) (by omega) (by omega)).mp y
      omega
    · have z : n ≠ 0 := fun v => z (by rw [v]; rfl)
      have w := (nI_leI (by omega) (by omega)).mp w
      have y : ¬ F 1 ≤ 0 := fun v => y (nI_le (b := 0) v (by omega))
      have em : fl_m F = F 2 := if_neg (by omega)
      omega
    · have w : ¬ fl_m F ≤ n := fun v => w ((nI_leI (by omega) (by omega)).mpr v)
      have y : ¬ F 1 ≤ 0 := fun v => y (nI_le (b := 0) v (by omega))
      have em : fl_m F = F 2 := if_neg (by omega)
      exact hN _ I1 (no (Or.inr ⟨by omega, by omega⟩)) t1 f1
  have loop : ∀ m n (I1 : IT), n + m = fl_m F → fl_n T (fl_m F) p = n + fl_n T m (p + n) → TM I1 T (p + n) → MF I1 240 (fl_rp T p n F) → fm_F I I1 → Lp_X8_takesRow_29 g d (nI (F 1)) (nI (fl_m F)) (nI n) I1 J P := by
    intro m
    induction m with
    | zero =>
      intro n I1 hm en t1 m1 f1
      refine w_X8_takesRow_29 (by omega) ?_
      unfold VC_X8_takesRow_29
      exact ⟨fun _ => ex n I1 en t1 m1 f1, fun z => absurd (nI_le (by omega) (by omega)) z⟩
    | succ m ih =>
      intro n I1 hm en t1 m1 f1
      refine w_X8_takesRow_29 (by omega) ?_
      unfold VC_X8_takesRow_29
      refine ⟨fun z => absurd ((nI_leI (by omega) (by omega)).mp z) (by omega), fun _ => ?_⟩
      have en2 : fl_n T (m + 1) (p + n) = (if fl_s (fl_h T (p + n)) < 3 then 1 + fl_n T m (p + n + 1) else 0) := rfl
      rw [en2] at en
      have hl := fl_h_le (p := p + n) hT
      refine s_X8_here hT t1 (s_X8_seaOf hl ?_)
      by_cases c : fl_s (fl_h T (p + n)) < 3
      · rw [if_pos c] at en ⊢
        refine ⟨fun z => absurd z (nI_pos (by omega)), fun _ => ?_⟩
        refine s_X8_here hT t1 (s_X8_seaOf hl ?_)
        have e8 : ((243 : Int32) + 8 * nI (F 1)) + nI n = nI (240 + (3 + 8 * F 1 + n)) := by
          rw [show (8 : Int32) = nI 8 from rfl, show (243 : Int32) = nI 243 from rfl, pk_mul, nI_add, nI_add]; congr 1; omega
        rw [if_pos c, e8, nI_cl (n := 240 + (3 + 8 * F 1 + n)) (by omega), nI_one]
        refine ⟨vp_in_nI (by omega) (by omega), ?_⟩
        have hp := fl_h_lt (fl_s_lt c)
        have t2 := (t1.w (j := 240 + (3 + 8 * F 1 + n)) (x := nI (fl_s (fl_h T (p + n))))).adv hp
        have m2 : MF (sI I1 119 (240 + (3 + 8 * F 1 + n)) (nI (fl_s (fl_h T (p + n))))) 240 (fl_rp T p (n + 1) F) := by
          refine MF.w m1 (by omega) (fl_rp_at (by omega)) (fun j hj hne => ?_)
          by_cases y : 3 + 8 * F 1 ≤ j ∧ j < 3 + 8 * F 1 + n
          · rw [show j = 3 + 8 * F 1 + (j - (3 + 8 * F 1)) from by omega, fl_rp_at (by omega), fl_rp_at (by omega)]
          · rw [fl_rp_lo (by omega), fl_rp_lo (by omega)]
        refine ih (n + 1) _ (by omega) (by rw [show p + (n + 1) = p + n + 1 from by omega]; omega) (by rw [show p + (n + 1) = p + n + 1 from by omega]; exact t2) (fun j hj => ?_) (f1.tr ((fm_F.w (by omega)).tr fm_F.at7))
        rw [sI_ne (by omega)]; exact m2 j hj
      · rw [if_neg c] at en ⊢
        exact ⟨fun _ => ex n I1 (by omega) t1 m1 f1, fun z => absurd (by decide) z⟩
  refine w_X8_takesRow ?_
  unfold VC_X8_takesRow
  have rp0 : fl_rp T p 0 F = F := by
    funext j
    exact fl_rp_lo (by omega)
  have go := loop (fl_m F) 0 I (by omega) (by rw [Nat.zero_add]; rfl) ht (by rw [rp0]; exact hM) fm_F.rf
  have e1 : I 119 241 = nI (F 1) := hM 1 (by omega)
  have e2 : I 119 242 = nI (F 2) := hM 2 (by omega)
  rw [e1]
  refine ⟨fun z => ?_, fun z => ?_⟩
  · have z : F 1 ≠ 0 := fun y => z (by rw [y]; rfl)
    have em : fl_m F = F 2 := if_neg z
    rw [em] at go
    rw [e2]; exact go
  · have z : F 1 = 0 := (nI_eq (b := 0) (by omega) (by omega)).mp z
    have em : fl_m F = 8 := if_pos z
    rw [em] at go
    exact go
theorem s_X8_takesShip {F : NF} {P : Bool → IT → JT → Prop} (hd : 3 ≤ d) (hT : okTp T) (ht : TM I T p) (hM : MF I 240 F) (hP : okP F) (h0 : F 0 < 6) (hN : ∀ q I', fl_ship T p F = (q, none) → TM I' T q → fm_F I I' → P false I' J) (hS : ∀ I', fl_ship T p F = (p + 5, some (fl_sh T p F)) → TM I' T (p + 5) → MF I' 240 (fl_sh T p F) → fm_F I I' → P true I' J) : SemZ g d M_X8_takesShip [.ref (ga g 118)] I J P := by
  have h130 := hT.1
  have h1 := hP.2.1
  have h2 := hP.2.2.1
  have es : I 119 240 = nI (F 0) := hM 0 (by omega)
  unfold fl_ship at hN hS
  refine w_X8_takesShip (by omega) ?_
  unfold VC_X8_takesShip
  rw [es]
  have k5 := fl_k_le (fl_h T p)
  refine s_X8_here hT ht (s_X8_kindOf (fl_h_le hT) ⟨fun c1 => ?_, fun c1 => ?_⟩)
  rotate_left
  · have c1 := (nI_eq (b := 0) (by omega) (by omega)).mp c1
    rw [if_pos c1] at hN
    exact hN p I rfl ht fm_F.rf
  have c1 : fl_k (fl_h T p) ≠ 0 := fun y => c1 (by rw [y]; rfl)
  rw [if_neg c1] at hN hS
  have p0 := fl_h_lt (fl_k_lt c1)
  have t1 := ht.adv p0
  have f1 : fm_F I (sI I 118 7 (I 118 7 + 1)) := fm_F.at7
  have m1 : MF (sI I 118 7 (I 118 7 + 1)) 240 F := fun j hj => by rw [sI_ne (by omega)]; exact hM j hj
  generalize sI I 118 7 (I 118 7 + 1) = I1 at t1 f1 m1 ⊢
  rw [show I1 119 241 = nI (F 1) from m1 1 (by omega)]
  refine s_X8_figure (b := F 1) (by omega) (by omega) (nI_m1 (by omega)) hT t1 (fun c2 I2 t2 e2 f2 => ?_) (fun c2 => ⟨fun z => absurd z (by decide), fun _ => ?_⟩)
  rotate_left
  · rw [if_pos c2] at hN
    exact hN (p + 1) I1 rfl t1 f1
  rw [if_neg (fun z => z c2)] at hN hS
  have q2 := c2.2
  have s2 := c2.1
  have m2 : MF I2 240 F := fun j hj => by rw [e2 119 (by omega)]; exact m1 j hj
  have r2 := f1.tr f2
  refine ⟨fun _ => ?_, fun z => absurd (nI_pos' (by omega)) z⟩
  have hl2 := fl_h_le (p := p + 1 + 1) hT
  refine s_X8_here hT t2 (s_X8_inN (n := 10) (by decide) ?_)
  rw [fl_inN hl2 (by omega)]
  have bad : ¬ (fl_d (fl_h T (p + 2)) (F 2) ∧ F (3 + (8 * (fl_h T (p + 1) - 48) + (fl_h T (p + 2) - 48))) ≠ 1) → P false I2 J := fun z => by
    rw [if_pos z] at hN
    exact hN (p + 2) I2 rfl t2 r2
  refine ⟨fun z => bad (fun y => ?_), fun z => ?_⟩
  · have z := of_decide_eq_false z
    have y2 := y.1.2
    exact z ⟨y.1.1, by show fl_h T (p + 2) < 48 + 10; omega⟩
  have z := of_decide_eq_true z
  have f10 := (fl_fig (fl_h T (p + 1 + 1)) (by omega)).1 ⟨z.1, by have := z.2; omega⟩
  have e240 : I2 119 (240 + 1) = nI (F 1) := m2 1 (by omega)
  have e241 : I2 119 (240 + 2) = nI (F 2) := m2 2 (by omega)
  refine s_X8_isCellIn (r := 240) (F := F) (by omega) (by omega) e240 e241 hP.W ?_
  rw [fl_inN hl2 (by omega), inN_i (by omega), decide_eq_true (show fl_h T (p + 1) - 48 < F 1 by omega), Bool.true_and]
  refine ⟨fun y => bad (fun w => of_decide_eq_false y w.1), fun c3 => ?_⟩
  have c3 : fl_d (fl_h T (p + 2)) (F 2) := of_decide_eq_true c3
  have q3 := c3.2
  have s3 := c3.1
  have e8 : ((243 : Int32) + 8 * nI (fl_h T (p + 1) - 48)) + nI (fl_h T (p + 1 + 1) - 48) = nI (240 + (3 + (8 * (fl_h T (p + 1) - 48) + (fl_h T (p + 2) - 48)))) := by
    rw [show (8 : Int32) = nI 8 from rfl, show (243 : Int32) = nI 243 from rfl, pk_mul, nI_add, nI_add]; congr 1
    show 243 + 8 * (fl_h T (p + 1) - 48) + (fl_h T (p + 2) - 48) = 240 + (3 + (8 * (fl_h T (p + 1) - 48) + (fl_h T (p + 2) - 48)))
    omega
  have e9 : 8 * nI (fl_h T (p + 1) - 48) + nI (fl_h T (p + 1 + 1) - 48) = nI (8 * (fl_h T (p + 1) - 48) + (fl_h T (p + 2) - 48)) := by rw [show (8 : Int32) = nI 8 from rfl, pk_mul, nI_add]
  rw [f10, e8, e9, nI_cl (n := 240 + (3 + (8 * (fl_h T (p + 1) - 48) + (fl_h T (p + 2) - 48)))) (by omega), m2 (3 + (8 * (fl_h T (p + 1) - 48) + (fl_h T (p + 2) - 48))) (by omega)]
  have cl := hP.2.2.2.2.2 (8 * (fl_h T (p + 1) - 48) + (fl_h T (p + 2) - 48)) (by omega)
  refine ⟨vp_in_nI (by omega) (by omega), fun y => ?_, fun y => bad (fun w => w.2 ((nI_eq (b := 1) (by omega) (by omega)).mp y))⟩
  have y : F (3 + (8 * (fl_h T (p + 1) - 48) + (fl_h T (p + 2) - 48))) ≠ 1 := fun w => y (by rw [w]; rfl)
  rw [if_neg (fun w => w ⟨c3, y⟩)] at hN hS
  have p2 : p + 1 + 1 < T.1 := fl_h_lt (p := p + 2) (by omega)
  have t3 := t2.adv p2
  have f3 : fm_F I (sI I2 118 7 (I2 118 7 + 1)) := r2.tr fm_F.at7
  have m3 : MF (sI I2 118 7 (I2 118 7 + 1)) 240 F := fun j hj => by rw [sI_ne (by omega)]; exact m2 j hj
  generalize sI I2 118 7 (I2 118 7 + 1) = I3 at t3 f3 m3 ⊢
  refine s_X8_here hT t3 (s_X8_lookOf (fl_h_le hT) ?_)
  by_cases c4 : fl_l (fl_h T (p + 3)) < 4
  rotate_left
  · rw [if_neg (show ¬ fl_l (fl_h T (p + 1 + 1 + 1)) < 4 from c4)]
    rw [if_pos c4] at hN
    exact ⟨fun y => absurd y (by decide), fun _ => hN (p + 3) I3 rfl t3 f3⟩
  rw [if_pos (show fl_l (fl_h T (p + 1 + 1 + 1)) < 4 from c4)]
  rw [if_neg (fun y => y c4)] at hN hS
  refine ⟨fun _ => ?_, fun y => absurd (nI_pos' (show fl_l (fl_h T (p + 3)) < 2 ^ 31 by omega)) y⟩
  have p3 : p + 1 + 1 + 1 < T.1 := fl_h_lt (p := p + 3) (fl_l_lt c4)
  have t4 := t3.adv p3
  have f4 : fm_F I (sI I3 118 7 (I3 118 7 + 1)) := f3.tr fm_F.at7
  have m4 : MF (sI I3 118 7 (I3 118 7 + 1)) 240 F := fun j hj => by rw [sI_ne (by omega)]; exact m3 j hj
  generalize sI I3 118 7 (I3 118 7 + 1) = I4 at t4 f4 m4 ⊢
  refine s_X8_figure (b := 6) (by omega) (by omega) (by decide) hT t4 (fun c5 I5 t5 e5 f5 => ?_) (fun c5 => ⟨fun y => absurd y (by decide), fun _ => ?_⟩)
  rotate_left
  · rw [if_pos (show ¬ fl_d (fl_h T (p + 4)) 6 from c5)] at hN
    exact hN (p + 4) I4 rfl t4 f4
  have c5' : fl_d (fl_h T (p + 4)) 6 := c5
  rw [if_neg (fun y => y c5')] at hS
  have q5 := c5'.2
  have m5 : MF I5 240 F := fun j hj => by rw [e5 119 (by omega)]; exact m4 j hj
  refine ⟨fun _ => ?_, fun y => absurd (nI_pos' (show fl_h T (p + 4) - 48 < 2 ^ 31 by omega)) y⟩
  rw [show (291 : Int32) + nI (F 0) = nI (240 + (51 + F 0)) from by rw [show (291 : Int32) = nI 291 from rfl, nI_add]; congr 1; omega, show (298 : Int32) + nI (F 0) = nI (240 + (58 + F 0)) from by rw [show (298 : Int32) = nI 298 from rfl, nI_add]; congr 1; omega, show (304 : Int32) + nI (F 0) = nI (240 + (64 + F 0)) from by rw [show (304 : Int32) = nI 304 from rfl, nI_add]; congr 1; omega, show (310 : Int32) + nI (F 0) = nI (240 + (70 + F 0)) from by rw [show (310 : Int32) = nI 310 from rfl, nI_add]; congr 1; omega, nI_cl (n := 240 + (51 + F 0)) (by omega), nI_cl (n := 240 + (58 + F 0)) (by omega), nI_cl (n := 240 + (64 + F 0)) (by omega), nI_cl (n := 240 + (70 + F 0)) (by omega)]
  refine ⟨vp_in_nI (by omega) (by omega), vp_in_nI (by omega) (by omega), vp_in_nI (by omega) (by omega), vp_in_nI (by omega) (by omega), ?_⟩
  have ez : (sI (sI (sI (sI I5 119 (240 + (51 + F 0)) (nI (fl_k (fl_h T p)))) 119 (240 + (58 + F 0)) (nI (8 * (fl_h T (p + 1) - 48) + (fl_h T (p + 2) - 48)))) 119 (240 + (64 + F 0)) (nI (fl_l (fl_h T (p + 1 + 1 + 1))))) 119 (240 + (70 + F 0)) (nI (fl_h T (p + 1 + 1 + 1 + 1) - 48))) 119 240 + 1 = nI (F 0 + 1) := by
    rw [sI_at, if_neg (by omega), sI_at, if_neg (by omega), sI_at, if_neg (by omega), sI_at, if_neg (by omega), show I5 119 240 = nI (F 0) from m5 0 (by omega), nI_one]
  rw [ez]
  refine hS _ rfl t5.w.w.w.w.w (fun j hj => ?_) (f4.tr (f5.tr ((fm_F.w (by omega)).tr ((fm_F.w (by omega)).tr ((fm_F.w (by omega)).tr ((fm_F.w (by omega)).tr (fm_F.w (by omega))))))))
  rw [sI_at]
  by_cases j0 : j = 0
  · rw [if_pos ⟨rfl, by omega⟩, j0]; rfl
  rw [if_neg (by omega), sI_at]
  by_cases j4 : j = 70 + F 0
  · rw [if_pos ⟨rfl, by omega⟩, j4, fl_sh_w]
  rw [if_neg (by omega), sI_at]
  by_cases j3 : j = 64 + F 0
  · rw [if_pos ⟨rfl, by omega⟩, j3, fl_sh_l]
  rw [if_neg (by omega), sI_at]
  by_cases j2 : j = 58 + F 0
  · rw [if_pos ⟨rfl, by omega⟩, j2, fl_sh_c]
  rw [if_neg (by omega), sI_at]
  by_cases j1 : j = 51 + F 0
  · rw [if_pos ⟨rfl, by omega⟩, j1, fl_sh_k]
  rw [if_neg (by omega), fl_sh_o j0 j1 j2 j3 j4]
  exact m5 j hj
theorem s_X8_credits4 (hT : okTp T) (hd : 2 ≤ d) : ∀ m p F (I : IT) (P : Bool → IT → JT → Prop), m ≤ 4 → TM I T p → MF I 240 F → (∀ q I', fl_b (fl_cr T m p F) (fun q3 K => if q3 = T.1 then (q3, some K) else (q3, none)) = (q, none) → TM I' T q → fm_F I I' → P false I' J) → (∀ q G I', fl_b (fl_cr T m p F) (fun q3 K => if q3 = T.1 then (q3, some K) else (q3, none)) = (q, some G) → TM I' T q → MF I' 240 G → fm_F I I' → P true I' J) → Lp_X8_takesAll_97 g d (nI (4 - m)) I J P := by
  have h130 := hT.1
  intro m
  induction m with
  | zero =>
    intro p F I P _ ht hM hN hS
    have lp := ht.1
    refine w_X8_takesAll_97 (by omega) ?_
    unfold VC_X8_takesAll_97
    have e : fl_b (fl_cr T 0 p F) (fun q3 K => if q3 = T.1 then (q3, some K) else (q3, none)) = (if p = T.1 then (p, some F) else (p, none)) := rfl
    rw [e] at hN hS
    rw [ht.2.2.2, ht.2.1]
    refine ⟨fun _ => ⟨fun z => ?_, fun z => ?_⟩, fun z => absurd (nI_le (Nat.le_refl 4) (by omega)) z⟩
    · rw [if_neg (fun y => z (by rw [y]))] at hN
      exact hN p I rfl ht fm_F.rf
    · rw [if_pos ((nI_eq (by omega) (by omega)).mp z)] at hS
      exact hS p F I rfl ht hM fm_F.rf
  | succ m ih =>
    intro p F I P hm ht hM hN hS
    refine w_X8_takesAll_97 (by omega) ?_
    unfold VC_X8_takesAll_97
    rw [show 4 - (m + 1) = 3 - m from by omega]
    have es : fl_cr T (m + 1) p F = (if fl_d (fl_h T p) 10 then fl_cr T m (p + 1) (fl_cw F (3 - m) (fl_h T p - 48)) else (p, none)) := rfl
    rw [es] at hN hS
    refine ⟨fun z => absurd ((nI_leI (a := 4) (by omega) (by omega)).mp z) (by omega), fun _ => ?_⟩
    refine s_X8_figure (b := 10) (by omega) (by omega) (by decide) hT ht (fun c I1 t1 e1 f1 => ?_) (fun c => ⟨fun z => absurd z (by decide), fun _ => ?_⟩)
    · rw [if_pos c] at hN hS
      have q2 := c.2
      rw [show (316 : Int32) + nI (3 - m) = nI (240 + (76 + (3 - m))) from by rw [show (316 : Int32) = nI 316 from rfl, nI_add]; congr 1; omega, nI_cl (n := 240 + (76 + (3 - m))) (by omega), nI_one, show 3 - m + 1 = 4 - m from by omega]
      have m1 : MF I1 240 F := fun j hj => by rw [e1 119 (by omega)]; exact hM j hj
      have fr : fm_F I (sI I1 119 (240 + (76 + (3 - m))) (nI (fl_h T p - 48))) := f1.tr (fm_F.w (by omega))
      refine ⟨fun _ => ⟨vp_in_nI (by omega) (by omega), ih (p + 1) _ _ P (by omega) t1.w (MF.w m1 (by omega) fl_cw_e (fun j _ hne => fl_cw_o hne)) (fun q I3 e3 t3 f3 => hN q I3 e3 t3 (fr.tr f3)) (fun q G I3 e3 t3 D3 f3 => hS q G I3 e3 t3 D3 (fr.tr f3))⟩, fun z => absurd (nI_pos' (by omega)) z⟩
    · rw [if_neg c] at hN
      exact hN p I rfl ht fm_F.rf
theorem s_X8_ships (hT : okTp T) (hd : 4 ≤ d) : ∀ m p F (I : IT) (P : Bool → IT → JT → Prop), okP F → F 0 + (m + 1) = 6 → TM I T p → MF I 240 F → (∀ q I', fl_b (fl_ships T (m + 1) p F) (fun q2 H => fl_b (fl_cr T 4 q2 H) (fun q3 K => if q3 = T.1 then (q3, some K) else (q3, none))) = (q, none) → TM I' T q → fm_F I I' → P false I' J) → (∀ q G I', fl_b (fl_ships T (m + 1) p F) (fun q2 H => fl_b (fl_cr T 4 q2 H) (fun q3 K => if q3 = T.1 then (q3, some K) else (q3, none))) = (q, some G) → TM I' T q → MF I' 240 G → fm_F I I' → P true I' J) → Lp_X8_takesAll_53 g d I J P := by
  intro m
  induction m with
  | zero =>
    intro p F I P hP h1 ht hM hN hS
    refine w_X8_takesAll_53 (by omega) ?_
    unfold VC_X8_takesAll_53
    have es : fl_ships T (0 + 1) p F = fl_b (fl_ship T p F) (fun q G => if fl_h T q = 59 then (q + 1, some G) else if G 0 < 6 ∧ fl_h T q = 44 then fl_ships T 0 (q + 1) G else (q, none)) := rfl
    rw [es] at hN hS
    refine s_X8_takesShip (by omega) hT ht hM hP (by omega) (fun q I1 e t1 f1 => ⟨fun z => (by cases z), fun _ => ?_⟩) (fun I1 e t1 m1 f1 => ⟨fun _ => ?_, fun z => (by cases z)⟩)
    · rw [e] at hN; exact hN q I1 rfl t1 f1
    · rw [e, fl_b_s] at hN hS
      obtain ⟨a1, a3⟩ := fl_ship_ok hP (by omega) e
      rw [show I1 119 240 = nI (fl_sh T p F 0) from m1 0 (by omega)]
      refine ⟨fun _ => ?_, fun z => absurd (nI_le (a := 6) (by omega) (by omega)) z⟩
      refine s_X8_takes (k := 59) (by omega) (by omega) hT t1 (fun c I2 t2 e2 f2 => ⟨fun _ => ?_, fun z => (by cases z)⟩) (fun c => ⟨fun z => (by cases z), fun _ => ?_⟩)
      · rw [if_pos c, fl_b_s] at hN hS
        exact s_X8_credits4 hT (by omega) 4 (p + 5 + 1) (fl_sh T p F) I2 P (Nat.le_refl 4) t2 (fun j hj => by rw [e2 119 (by omega)]; exact m1 j hj) (fun q I3 e3 t3 f3 => hN q I3 e3 t3 ((f1.tr f2).tr f3)) (fun q G I3 e3 t3 D3 f3 => hS q G I3 e3 t3 D3 ((f1.tr f2).tr f3))
      · rw [if_neg c, if_neg (by omega)] at hN
        exact hN (p + 5) I1 rfl t1 f1
  | succ m ih =>
    intro p F I P hP h1 ht hM hN hS
    refine w_X8_takesAll_53 (by omega) ?_
    unfold VC_X8_takesAll_53
    have es : fl_ships T (m + 1 + 1) p F = fl_b (fl_ship T p F) (fun q G => if fl_h T q = 59 then (q + 1, some G) else if G 0 < 6 ∧ fl_h T q = 44 then fl_ships T (m + 1) (q + 1) G else (q, none)) := rfl
    rw [es] at hN hS
    refine s_X8_takesShip (by omega) hT ht hM hP (by omega) (fun q I1 e t1 f1 => ⟨fun z => (by cases z), fun _ => ?_⟩) (fun I1 e t1 m1 f1 => ⟨fun _ => ?_, fun z => (by cases z)⟩)
    · rw [e] at hN; exact hN q I1 rfl t1 f1
    · rw [e, fl_b_s] at hN hS
      obtain ⟨a1, a3⟩ := fl_ship_ok hP (by omega) e
      rw [show I1 119 240 = nI (fl_sh T p F 0) from m1 0 (by omega)]
      refine ⟨fun z => absurd ((nI_leI (a := 6) (by omega) (by omega)).mp z) (by omega), fun _ => ?_⟩
      refine s_X8_takes (k := 44) (by omega) (by omega) hT t1 (fun c I2 t2 e2 f2 => ⟨fun _ => ?_, fun z => (by cases z)⟩) (fun c => ⟨fun z => (by cases z), fun _ => ?_⟩)
      · rw [if_neg (by omega), if_pos ⟨by omega, c⟩] at hN hS
        exact ih (p + 5 + 1) (fl_sh T p F) I2 P a1 (by omega) t2 (fun j hj => by rw [e2 119 (by omega)]; exact m1 j hj) (fun q I3 e3 t3 f3 => hN q I3 e3 t3 ((f1.tr f2).tr f3)) (fun q G I3 e3 t3 D3 f3 => hS q G I3 e3 t3 D3 ((f1.tr f2).tr f3))
      · refine s_X8_takes (k := 59) (by omega) (by omega) hT t1 (fun c2 I2 t2 e2 f2 => ⟨fun _ => ?_, fun z => (by cases z)⟩) (fun c2 => ⟨fun z => (by cases z), fun _ => ?_⟩)
        · rw [if_pos c2, fl_b_s] at hN hS
          exact s_X8_credits4 hT (by omega) 4 (p + 5 + 1) (fl_sh T p F) I2 P (Nat.le_refl 4) t2 (fun j hj => by rw [e2 119 (by omega)]; exact m1 j hj) (fun q I3 e3 t3 f3 => hN q I3 e3 t3 ((f1.tr f2).tr f3)) (fun q G I3 e3 t3 D3 f3 => hS q G I3 e3 t3 D3 ((f1.tr f2).tr f3))
        · rw [if_neg c2, if_neg (fun y => c y.2)] at hN
          exact hN (p + 5) I1 rfl t1 f1
theorem s_X8_rows6 (hT : okTp T) (hd : 5 ≤ d) : ∀ m p F (I : IT) (P : Bool → IT → JT → Prop), okP F → F 0 = 0 → F 1 + (m + 1) = 6 → TM I T p → MF I 240 F → (∀ q I', fl_b (fl_sea T (m + 1) p F) (fun q G => fl_b (fl_ships T 6 q G) (fun q2 H => fl_b (fl_cr T 4 q2 H) (fun q3 K => if q3 = T.1 then (q3, some K) else (q3, none)))) = (q, none) → TM I' T q → fm_F I I' → P false I' J) → (∀ q G I', fl_b (fl_sea T (m + 1) p F) (fun q G => fl_b (fl_ships T 6 q G) (fun q2 H => fl_b (fl_cr T 4 q2 H) (fun q3 K => if q3 = T.1 then (q3, some K) else (q3, none)))) = (q, some G) → TM I' T q → MF I' 240 G → fm_F I I' → P true I' J) → Lp_X8_takesAll_11 g d I J P := by
  intro m
  induction m with
  | zero =>
    intro p F I P hP h0 h1 ht hM hN hS
    refine w_X8_takesAll_11 (by omega) ?_
    unfold VC_X8_takesAll_11
    have es : fl_sea T (0 + 1) p F = fl_b (fl_row T p F) (fun q G => if fl_h T q = 59 then (q + 1, some G) else if G 1 < 6 ∧ fl_h T q = 47 then fl_sea T 0 (q + 1) G else (q, none)) := rfl
    rw [es] at hN hS
    refine s_X8_takesRow (by omega) hT ht hM hP (by omega) (fun q I1 e t1 f1 => ⟨fun z => (by cases z), fun _ => ?_⟩) (fun q G I1 e t1 m1 f1 => ⟨fun _ => ?_, fun z => (by cases z)⟩)
    · rw [e] at hN; exact hN q I1 rfl t1 f1
    · rw [e, fl_b_s] at hN hS
      obtain ⟨a1, a2, a3, -⟩ := fl_row_ok hP h0 (by omega) e
      rw [show I1 119 241 = nI (G 1) from m1 1 (by omega)]
      refine ⟨fun _ => ?_, fun z => absurd (nI_le (a := 6) (by omega) (by omega)) z⟩
      refine s_X8_takes (k := 59) (by omega) (by omega) hT t1 (fun c I2 t2 e2 f2 => ⟨fun _ => ?_, fun z => (by cases z)⟩) (fun c => ⟨fun z => (by cases z), fun _ => ?_⟩)
      · rw [if_pos c, fl_b_s] at hN hS
        exact s_X8_ships hT (by omega) 5 (q + 1) G I2 P a1 (by omega) t2 (fun j hj => by rw [e2 119 (by omega)]; exact m1 j hj) (fun q I3 e3 t3 f3 => hN q I3 e3 t3 ((f1.tr f2).tr f3)) (fun q G I3 e3 t3 D3 f3 => hS q G I3 e3 t3 D3 ((f1.tr f2).tr f3))
      · rw [if_neg c, if_neg (by omega)] at hN
        exact hN q I1 rfl t1 f1
  | succ m ih =>
    intro p F I P hP h0 h1 ht hM hN hS
    refine w_X8_takesAll_11 (by omega) ?_
    unfold VC_X8_takesAll_11
    have es : fl_sea T (m + 1 + 1) p F = fl_b (fl_row T p F) (fun q G => if fl_h T q = 59 then (q + 1, some G) else if G 1 < 6 ∧ fl_h T q = 47 then fl_sea T (m + 1) (q + 1) G else (q, none)) := rfl
    rw [es] at hN hS
    refine s_X8_takesRow (by omega) hT ht hM hP (by omega) (fun q I1 e t1 f1 => ⟨fun z => (by cases z), fun _ => ?_⟩) (fun q G I1 e t1 m1 f1 => ⟨fun _ => ?_, fun z => (by cases z)⟩)
    · rw [e] at hN; exact hN q I1 rfl t1 f1
    · rw [e, fl_b_s] at hN hS
      obtain ⟨a1, a2, a3, -⟩ := fl_row_ok hP h0 (by omega) e
      rw [show I1 119 241 = nI (G 1) from m1 1 (by omega)]
      refine ⟨fun z => absurd ((nI_leI (a := 6) (by omega) (by omega)).mp z) (by omega), fun _ => ?_⟩
      refine s_X8_takes (k := 47) (by omega) (by omega) hT t1 (fun c I2 t2 e2 f2 => ⟨fun _ => ?_, fun z => (by cases z)⟩) (fun c => ⟨fun z => (by cases z), fun _ => ?_⟩)
      · rw [if_neg (by omega), if_pos ⟨by omega, c⟩] at hN hS
        exact ih (q + 1) G I2 P a1 a2 (by omega) t2 (fun j hj => by rw [e2 119 (by omega)]; exact m1 j hj) (fun q I3 e3 t3 f3 => hN q I3 e3 t3 ((f1.tr f2).tr f3)) (fun q G I3 e3 t3 D3 f3 => hS q G I3 e3 t3 D3 ((f1.tr f2).tr f3))
      · refine s_X8_takes (k := 59) (by omega) (by omega) hT t1 (fun c2 I2 t2 e2 f2 => ⟨fun _ => ?_, fun z => (by cases z)⟩) (fun c2 => ⟨fun z => (by cases z), fun _ => ?_⟩)
        · rw [if_pos c2, fl_b_s] at hN hS
          exact s_X8_ships hT (by omega) 5 (q + 1) G I2 P a1 (by omega) t2 (fun j hj => by rw [e2 119 (by omega)]; exact m1 j hj) (fun q I3 e3 t3 f3 => hN q I3 e3 t3 ((f1.tr f2).tr f3)) (fun q G I3 e3 t3 D3 f3 => hS q G I3 e3 t3 D3 ((f1.tr f2).tr f3))
        · rw [if_neg c2, if_neg (fun y => c y.2)] at hN
          exact hN q I1 rfl t1 f1
theorem s_X8_takesAll {P : Bool → IT → JT → Prop} (hd : 7 ≤ d) (hT : okTp T) (ht : TM I T 0) (hM : MF I 240 (fun _ => 0)) (hN : ∀ q I', fl_all T = (q, none) → TM I' T q → fm_F I I' → P false I' J) (hS : ∀ q G I', fl_all T = (q, some G) → TM I' T q → MF I' 240 G → fm_F I I' → P true I' J) : SemZ g d M_X8_takesAll [.ref (ga g 118)] I J P := by
  refine w_X8_takesAll (by omega) ?_
  unfold VC_X8_takesAll
  unfold fl_all at hN hS
  refine s_X8_takes (k := 102) (by omega) (by omega) hT ht (fun c I2 t2 e2 f2 => ⟨fun _ => ?_, fun z => (by cases z)⟩) (fun c => ⟨fun z => (by cases z), fun _ => ?_⟩)
  · rw [if_pos c] at hN hS
    exact s_X8_rows6 hT (by omega) 5 (0 + 1) (fun _ => 0) I2 P okP0 rfl rfl t2 (fun j hj => by rw [e2 119 (by omega)]; exact hM j hj) (fun q I3 e3 t3 f3 => hN q I3 e3 t3 (f2.tr f3)) (fun q G I3 e3 t3 D3 f3 => hS q G I3 e3 t3 D3 (f2.tr f3))
  · rw [if_neg c] at hN
    exact hN 0 I rfl ht fm_F.rf
end FLM
-- fleet
def vFleet (σ : ST) : Int32 := match (fl_all (sT σ)).2 with
  | none => (-100) - nI (fl_all (sT σ)).1
  | some G => nI (G 0)
def tFleet (σ : ST) : ST := match (fl_all (sT σ)).2 with
  | none => (sF σ, sG0 σ, sG1 σ, sA σ, (0, (sT σ).2), sS σ, sX σ)
  | some G => (G, sG0 σ, sG1 σ, [], (0, (sT σ).2), sS σ, sX σ)
theorem e_fleet {g : GT} : EQI g Rel M_X7_fleet M_X8_fleet [] := by
  refine eqI_of vFleet tFleet (fun σ I J P hk hC h => ?_) (fun σ I J P hk hM h => ?_) (fun σ hk => ?_)
  · refine w_X7_fleet (by omega) ?_
    unfold VC_X7_fleet
    have hT : okTp (sT σ) := ⟨hk.2.2.2.2.2.1, hk.2.2.2.2.2.2.1⟩
    obtain ⟨h1, h2, h3, h4, h5, h6⟩ := hC
    refine s_X5_readFleet (by omega) hT h1.1 h1.2 (fun q I1 e t1 f1 => ⟨fun z => (by cases z), fun _ => ?_⟩) (fun q G I1 e t1 D1 f1 => ⟨fun _ => ?_, fun z => (by cases z)⟩)
    · have ev : vFleet σ = (-100) - nI q := by unfold vFleet; rw [e]
      have et : tFleet σ = (sF σ, sG0 σ, sG1 σ, sA σ, (0, (sT σ).2), sS σ, sX σ) := by unfold tFleet; rw [e]
      rw [ev, et] at h
      have e7 : (sI I1 1 1 0) 1 2 = nI q := by rw [sI_at, if_neg (by omega)]; exact t1.2.2.2
      rw [e7]
      have fr : ∀ a, a ≠ 1 → (a < 11 ∨ 18 < a) → sI I1 1 1 0 a = I a := fun a ha hb => by rw [sI_ne ha]; exact f1 a ha hb
      refine h _ J ⟨⟨by rw [sI_at, if_pos ⟨rfl, rfl⟩]; rfl, fun j hj => absurd hj (Nat.not_lt_zero j)⟩, h2.cg (fun a _ _ => fr a (by omega) (by omega)), h3.cg (fun a _ _ => fr a (by omega) (by omega)), h4.cg (fun a _ _ => fr a (by omega) (by omega)), h5.cg (fun a _ _ => fr a (by omega) (by omega)), h6.cg (fun a _ _ => fr a (by omega) (by omega)) (fun _ _ _ => rfl)⟩ ⟨fun a ha => fr a (by omega) (by omega), fun _ _ => rfl⟩
    · have ev : vFleet σ = nI (G 0) := by unfold vFleet; rw [e]
      have et : tFleet σ = (G, sG0 σ, sG1 σ, [], (0, (sT σ).2), sS σ, sX σ) := by unfold tFleet; rw [e]
      rw [ev, et] at h
      have fr : ∀ a, a ≠ 1 → (a < 11 ∨ 18 < a) → sI I1 1 1 0 a = I a := fun a ha hb => by rw [sI_ne ha]; exact f1 a ha hb
      refine s_X2_become (by omega) isF_3 isF_11 (by omega) (D1.cg (fun a _ _ => sI_ne (by omega))) (fl_all_ok e) (fun I2 b1 b2 => ?_)
      refine w_X0_forget ?_
      unfold VC_X0_forget
      show P (sI I2 20 3 0 3 6) (sI I2 20 3 0) J
      rw [sI_ne (a := 3) (by omega), b1.1]
      obtain ⟨h5, p, hp, h7, h8⟩ := h5
      have e9 : ∀ a, a ≠ 20 → a ≠ 1 → (a < 3 ∨ 18 < a) → sI I2 20 3 0 a = I a := fun a w1 w2 w3 => by rw [sI_ne w1, b2 a (by omega), fr a w2 (by omega)]
      refine h _ J ⟨⟨?_, fun j hj => absurd hj (Nat.not_lt_zero j)⟩, b1.cg (fun a _ _ => sI_ne (by omega)), h3.cg (fun a _ _ => e9 a (by omega) (by omega) (by omega)), h4.cg (fun a _ _ => e9 a (by omega) (by omega) (by omega)), ⟨?_, p, hp, ?_, fun i s F hi => ?_⟩, h6.cg (fun a _ _ => e9 a (by omega) (by omega) (by omega)) (fun _ _ _ => rfl)⟩ ⟨fun a ha => e9 a (by omega) (by omega) (by omega), fun _ _ => rfl⟩
      · rw [sI_ne (by omega), b2 1 (by omega), sI_at, if_pos ⟨rfl, rfl⟩]; rfl
      · rw [sI_at, if_pos ⟨rfl, rfl⟩]; rfl
      · rw [sI_at, if_neg (by omega), b2 20 (by omega), fr 20 (by omega) (by omega)]; exact h7
      · exact absurd (show ([] : List (Nat × NF))[i]? = some (s, F) from hi) (by simp)
  · refine w_X8_fleet ?_
    unfold VC_X8_fleet
    have hT : okTp (sT σ) := ⟨hk.2.2.2.2.2.1, hk.2.2.2.2.2.2.1⟩
    obtain ⟨h1, h2, h3, h4, h5, h6⟩ := hM
    refine upTo (Q := fun k => ∀ I1 : IT, (∀ j, j < k → I1 119 (240 + j) = nI 0) → fm_F I I1 → Lp_X8_fleet_2 g 40 (nI k) I1 J P) (N := 80) (fun I1 z1 f1 => ?_) (fun k hk8 ih I1 z1 f1 => ?_) I (fun j hj => absurd hj (by omega)) fm_F.rf
    rotate_left
    · refine w_X8_fleet_2 (by omega) ?_
      unfold VC_X8_fleet_2
      rw [ix2 240 k 240 rfl, nI_cl (n := 240 + k) (by omega), nI_one]
      refine ⟨fun z => absurd ((nI_leI (a := 80) (by omega) (by omega)).mp z) (by omega), fun _ => ⟨vp_in_nI (by omega) (by omega), ih _ (fun j hj => ?_) (f1.tr (fm_F.w (by omega)))⟩⟩
      rw [sI_at]
      by_cases y : j = k
      · rw [if_pos ⟨rfl, by omega⟩]; rfl
      · rw [if_neg (by omega)]; exact z1 j (by omega)
    refine w_X8_fleet_2 (by omega) ?_
    unfold VC_X8_fleet_2
    refine ⟨fun _ => ?_, fun z => absurd (nI_le (Nat.le_refl 80) (by omega)) z⟩
    have t0 : TM (sI I1 118 7 0) (sT σ) 0 := ⟨Nat.zero_le _, by rw [sI_at, if_neg (by omega), f1.2.1 3 (by omega)]; exact h1.1, fun j hj => by rw [sI_ne (by omega), f1.1 120 (by omega) (by omega)]; exact h1.2 j hj, by rw [sI_at, if_pos ⟨rfl, rfl⟩]; rfl⟩
    have m0 : MF (sI I1 118 7 0) 240 (fun _ => 0) := fun j hj => by rw [sI_ne (by omega)]; exact z1 j hj
    have f0 : fm_F I (sI I1 118 7 0) := f1.tr fm_F.at7
    have keep : ∀ (I3 : IT) (F : NF) (A : List (Nat × NF)), (∀ a, a ≠ 118 → a ≠ 119 → I3 a = I a) → I3 118 3 = nI 0 → MF I3 0 F → (∀ j, 80 ≤ j → j < 240 → I3 119 j = I 119 j) → RmA I3 A → RelM I3 J (F, sG0 σ, sG1 σ, A, (0, (sT σ).2), sS σ, sX σ) := fun I3 F A w1 w2 w3 w4 w5 => by
      refine ⟨⟨w2, fun j hj => absurd hj (Nat.not_lt_zero j)⟩, w3, fun j hj => ?_, fun j hj => ?_, w5, fun k hk => ?_⟩
      · rw [w4 _ (by omega) (by omega)]; exact h3 j hj
      · rw [w4 _ (by omega) (by omega)]; exact h4 j hj
      · rw [w1 122 (by omega) (by omega), w1 123 (by omega) (by omega)]; exact h6 k hk
    refine s_X8_takesAll (by omega) hT t0 m0 (fun q I2 e t2 f2 => ⟨fun z => (by cases z), fun _ => ?_⟩) (fun q G I2 e t2 m2 f2 => ⟨fun _ => ?_, fun z => (by cases z)⟩)
    · have ev : vFleet σ = (-100) - nI q := by unfold vFleet; rw [e]
      have et : tFleet σ = (sF σ, sG0 σ, sG1 σ, sA σ, (0, (sT σ).2), sS σ, sX σ) := by unfold tFleet; rw [e]
      rw [ev, et] at h
      have e7 : (sI I2 118 3 0) 118 7 = nI q := by rw [sI_at, if_neg (by omega)]; exact t2.2.2.2
      rw [e7]
      have fr := f0.tr f2
      have w1 : ∀ a, a ≠ 118 → a ≠ 119 → sI I2 118 3 0 a = I a := fun a ha hb => by rw [sI_ne ha]; exact fr.1 a ha hb
      refine h _ J (keep _ (sF σ) (sA σ) w1 (by rw [sI_at, if_pos ⟨rfl, rfl⟩]; rfl) (fun j hj => by rw [sI_ne (by omega), fr.2.2 _ (by omega)]; exact h2 j hj) (fun j _ hj => by rw [sI_ne (by omega)]; exact fr.2.2 j (by omega)) ⟨by rw [sI_at, if_neg (by omega), fr.2.1 1 (by omega)]; exact h5.1, fun i s F hi j hj => by rw [sI_ne (by omega), fr.2.2 _ (by omega)]; exact h5.2 i s F hi j hj⟩) ⟨fun a ha => w1 a (by omega) (by omega), fun _ _ => rfl⟩
    · have ev : vFleet σ = nI (G 0) := by unfold vFleet; rw [e]
      have et : tFleet σ = (G, sG0 σ, sG1 σ, [], (0, (sT σ).2), sS σ, sX σ) := by unfold tFleet; rw [e]
      rw [ev, et] at h
      have fr := f0.tr f2
      refine s_X8_bring (a := 240) (b := 0) (n := 80) (by omega) (by omega) (Or.inl (by omega)) ?_
      have g119 : ∀ j, sI (brg (sI I2 118 3 0) 240 0 80) 118 1 0 119 j = if 0 ≤ j ∧ j < 0 + 80 then I2 119 (240 + (j - 0)) else I2 119 j := fun j => by
        rw [sI_ne (by omega), brg_at, sI_ne (by omega)]
      have w1 : ∀ a, a ≠ 118 → a ≠ 119 → sI (brg (sI I2 118 3 0) 240 0 80) 118 1 0 a = I a := fun a ha hb => by rw [sI_ne ha, brg_ne hb, sI_ne ha]; exact fr.1 a ha hb
      have m3 : MF (sI (brg (sI I2 118 3 0) 240 0 80) 118 1 0) 0 G := fun j hj => by
        rw [g119, if_pos (by omega), show 240 + (0 + j - 0) = 240 + j from by omega]; exact m2 j hj
      rw [m3.a0 0 (by omega)]
      refine h _ J (keep _ G [] w1 (by rw [sI_at, if_neg (by omega), brg_ne (by omega), sI_at, if_pos ⟨rfl, rfl⟩]; rfl) m3 (fun j hj1 hj2 => by rw [g119, if_neg (by omega)]; exact fr.2.2 j (by omega)) ⟨by rw [sI_at, if_pos ⟨rfl, rfl⟩]; rfl, fun i s F hi => absurd (show ([] : List (Nat × NF))[i]? = some (s, F) from hi) (by simp)⟩) ⟨fun a ha => w1 a (by omega) (by omega), fun _ _ => rfl⟩
  · obtain ⟨a, b, c, e, f, k, l, m⟩ := hk
    unfold tFleet
    cases ho : (fl_all (sT σ)).2 with
    | none => exact ⟨a, b, c, e, f, Nat.zero_le _, fun j hj => absurd hj (Nat.not_lt_zero j), m⟩
    | some G =>
      have eg : fl_all (sT σ) = ((fl_all (sT σ)).1, some G) := by rw [← ho]
      exact ⟨fl_all_ok eg, b, c, Nat.zero_le _, trivial, Nat.zero_le _, fun j hj => absurd hj (Nat.not_lt_zero j), m⟩
