-- ===== fog =====
def fgv (F : NF) (t : Nat) (G : Nat → Int64) (c q : Nat) : Nat → Nat → Vy → Nat
  | 0, _, v => if v.2.1 = c then 1 else 0
  | m + 1, k, v => (10 - q) * fgv F t G c q m (k + 1) (hearV F v t (wv (G k))) + q * fgv F t G c q m (k + 1) (goV F v).2
def trm (F : NF) (t : Nat) (G : Nat → Int64) (c q : Nat) : Nat → Nat → Vy → Nat → Nat
  | 0, _, v, _ => if v.2.1 = c then 1 else 0
  | m + 1, k, v, x => if x % 2 = 1 then q * trm F t G c q m (k + 1) (goV F v).2 (x / 2) else (10 - q) * trm F t G c q m (k + 1) (hearV F v t (wv (G k))) (x / 2)
def smN (u : Nat → Nat) : Nat → Nat := accN (fun x T => T + u x) 0
theorem smN_s {u : Nat → Nat} {N : Nat} : smN u (N + 1) = smN u N + u N := rfl
theorem smN_2 {u : Nat → Nat} : ∀ N, smN u (2 * N) = smN (fun y => u (2 * y) + u (2 * y + 1)) N := by
  intro N
  induction N with
  | zero => rfl
  | succ N ih =>
    rw [show 2 * (N + 1) = 2 * N + 1 + 1 from by omega, smN_s, smN_s, ih, smN_s, Nat.add_assoc]
theorem smN_cg {u w : Nat → Nat} : ∀ N, (∀ y, y < N → u y = w y) → smN u N = smN w N := by
  intro N
  induction N with
  | zero => intro _; rfl
  | succ N ih => intro h; rw [smN_s, smN_s, ih (fun y hy => h y (by omega)), h N (by omega)]
theorem smN_l {u w : Nat → Nat} {a b : Nat} : ∀ N, smN (fun y => a * u y + b * w y) N = a * smN u N + b * smN w N := by
  intro N
  induction N with
  | zero => rfl
  | succ N ih => rw [smN_s, smN_s, smN_s, ih, Nat.mul_add, Nat.mul_add]; omega
theorem fgv_eq {F : NF} {t : Nat} {G : Nat → Int64} {c q : Nat} : ∀ m k v, fgv F t G c q m k v = smN (trm F t G c q m k v) (2 ^ m) := by
  intro m
  induction m with
  | zero =>
    intro k v
    show (if v.2.1 = c then 1 else 0) = 0 + (if v.2.1 = c then 1 else 0)
    rw [Nat.zero_add]
  | succ m ih =>
    intro k v
    rw [Nat.pow_succ, Nat.mul_comm (2 ^ m), smN_2]
    show (10 - q) * fgv F t G c q m (k + 1) (hearV F v t (wv (G k))) + q * fgv F t G c q m (k + 1) (goV F v).2 = _
    rw [ih, ih, ← smN_l]
    refine smN_cg _ (fun y _ => ?_)
    show _ = (if 2 * y % 2 = 1 then q * trm F t G c q m (k + 1) (goV F v).2 (2 * y / 2) else (10 - q) * trm F t G c q m (k + 1) (hearV F v t (wv (G k))) (2 * y / 2)) + (if (2 * y + 1) % 2 = 1 then q * trm F t G c q m (k + 1) (goV F v).2 ((2 * y + 1) / 2) else (10 - q) * trm F t G c q m (k + 1) (hearV F v t (wv (G k))) ((2 * y + 1) / 2))
    rw [if_neg (by omega), if_pos (by omega), show 2 * y / 2 = y from by omega, show (2 * y + 1) / 2 = y from by omega]
theorem fgv_le {F : NF} {t : Nat} {G : Nat → Int64} {c q : Nat} (hq : q ≤ 10) : ∀ m k v, fgv F t G c q m k v ≤ 10 ^ m := by
  intro m
  induction m with
  | zero => intro k v; show (if v.2.1 = c then 1 else 0) ≤ 1; split <;> omega
  | succ m ih =>
    intro k v
    show (10 - q) * fgv F t G c q m (k + 1) (hearV F v t (wv (G k))) + q * fgv F t G c q m (k + 1) (goV F v).2 ≤ 10 ^ (m + 1)
    have a := Nat.mul_le_mul_left (10 - q) (ih (k + 1) (hearV F v t (wv (G k))))
    have b := Nat.mul_le_mul_left q (ih (k + 1) (goV F v).2)
    have e : (10 - q) * 10 ^ m + q * 10 ^ m = 10 ^ (m + 1) := by rw [← Nat.add_mul, Nat.sub_add_cancel hq, Nat.pow_succ, Nat.mul_comm]
    omega
theorem p10_le {n : Nat} (h : n ≤ 6) : 10 ^ n ≤ 1000000 := Nat.pow_le_pow_right (n := 10) (by omega) h
theorem gcd_st {x y : Nat} : Nat.gcd y (x % y) = Nat.gcd x y := by rw [Nat.gcd_comm x y, Nat.gcd_rec y x, Nat.gcd_comm]
theorem mod_half {b r : Nat} (h0 : 0 < r) (h : r < b) : 2 * (b % r) < b := by
  have h1 := Nat.mod_lt b h0
  have h2 := Nat.div_add_mod b r
  have h3 : 1 ≤ b / r := (Nat.one_le_div_iff h0).mpr (by omega)
  have h4 : r * 1 ≤ r * (b / r) := Nat.mul_le_mul_left r h3
  omega
section FOG
variable {g : GT} {J : JT}
theorem s_X7_greatestDivisor {d a b : Nat} {I : IT} {P : Int32 → IT → JT → Prop} (ha : a ≤ 1000000) (hb : b ≤ 1000000) (h : P (nI (Nat.gcd a b)) I J) : SemI g d M_X7_greatestDivisor [.int (nI a), .int (nI b)] I J P := by
  refine w_X7_greatestDivisor ?_
  unfold VC_X7_greatestDivisor
  have one : ∀ x y k, x ≤ 1000000 → y ≤ 1000000 → k < 64 → (y = 0 → P (nI x) I J) → (y ≠ 0 → Lp_X7_greatestDivisor_7 g d (nI y) (nI (x % y)) (nI (k + 1)) I J P) → Lp_X7_greatestDivisor_7 g d (nI x) (nI y) (nI k) I J P := by
    intro x y k hx hy hk g1 g2
    refine w_X7_greatestDivisor_7 ?_
    unfold VC_X7_greatestDivisor_7
    rw [nI_one]
    refine ⟨fun z => absurd ((nI_leI (a := 64) (by omega) (by omega)).mp z) (by omega), fun _ => ⟨fun z => g1 ((nI_eq (b := 0) (by omega) (by omega)).mp z), fun z => ⟨z, ?_⟩⟩⟩
    have z' : y ≠ 0 := fun w => z (by rw [w]; rfl)
    rw [pk_rem (by omega) (by omega) (by omega)]
    exact g2 z'
  have main : ∀ j x y k, x ≤ 1000000 → y ≤ 1000000 → y < 2 ^ j → k + 2 * j + 1 ≤ 64 → Nat.gcd x y = Nat.gcd a b → Lp_X7_greatestDivisor_7 g d (nI x) (nI y) (nI k) I J P := by
    intro j
    induction j with
    | zero =>
      intro x y k hx hy hy2 hk hg
      refine one x y k hx hy (by omega) (fun z => ?_) (fun z => absurd hy2 (by omega))
      subst z
      rw [Nat.gcd_zero_right] at hg
      rw [hg]; exact h
    | succ j ih =>
      intro x y k hx hy hy2 hk hg
      refine one x y k hx hy (by omega) (fun z => ?_) (fun z => ?_)
      · subst z
        rw [Nat.gcd_zero_right] at hg
        rw [hg]; exact h
      · have r1 := Nat.mod_lt x (show 0 < y by omega)
        have hg1 : Nat.gcd y (x % y) = Nat.gcd a b := by rw [gcd_st]; exact hg
        refine one y (x % y) (k + 1) hy (by omega) (by omega) (fun z2 => ?_) (fun z2 => ?_)
        · rw [z2, Nat.gcd_zero_right] at hg1
          rw [hg1]; exact h
        · have r2 := Nat.mod_lt y (show 0 < x % y by omega)
          have r3 := mod_half (show 0 < x % y by omega) r1
          rw [Nat.pow_succ] at hy2
          exact ih (x % y) (y % (x % y)) (k + 1 + 1) (by omega) (by omega) (by omega) (by omega) (by rw [gcd_st]; exact hg1)
  exact main 20 a b 0 ha hb (by omega) (by omega) rfl
theorem s_X7_tenToThe {d n : Nat} {I : IT} {P : Int32 → IT → JT → Prop} (hn : n ≤ 6) (h : P (nI (10 ^ n)) I J) : SemI g d M_X7_tenToThe [.int (nI n)] I J P := by
  refine w_X7_tenToThe ?_
  unfold VC_X7_tenToThe
  refine upTo (Q := fun k => Lp_X7_tenToThe_4 g d (nI n) (nI (10 ^ k)) (nI k) I J P) (N := n) ?_ (fun k hk ih => ?_)
  · refine w_X7_tenToThe_4 ?_
    unfold VC_X7_tenToThe_4
    exact ⟨fun _ => h, fun z => absurd (nI_le (Nat.le_refl _) (by omega)) z⟩
  · refine w_X7_tenToThe_4 ?_
    unfold VC_X7_tenToThe_4
    rw [nI_one, show nI (10 ^ k) * 10 = nI (10 ^ (k + 1)) from by rw [show (10 : Int32) = nI 10 from rfl, pk_mul, Nat.pow_succ]]
    exact ⟨fun z => absurd ((nI_leI (by omega) (by omega)).mp z) (by omega), fun _ => ih⟩
theorem s_X7_fogged {t p n c q : Nat} {f : Nat → Int64} {F : NF} (hp : isS p) (hW : okW F) (ht : t < 4) (hn : n ≤ 6) (hq : q ≤ 10) (hc : c < 48) (hJ : ∀ x, x < 24 → J (p + 1) x = f x) (hw : ∀ k, k < n → wrd (f k) = true) : ∀ m d k v I (P : Int32 → IT → JT → Prop), k + m = n → m + 6 ≤ d → CV I (96 + 2 * k) v → SeaC I 4 F → okV F v → (∀ I', (∀ a, (a < 96 + 2 * k + 2 ∨ 109 < a) → I' a = I a) → P (nI (fgv F t f c q m k v)) I' J) → SemI g d M_X7_fogged [.ref (ga g 0), .int (nI k), .int (nI t), .ref (ga g p), .int (nI n), .int (nI c), .int (nI q)] I J P := by
  intro m
  have hb1 := hW.1
  induction m with
  | zero =>
    intro d k v I P hkn hd hC hS hv h
    refine w_X7_fogged hp (by omega) ?_
    unfold VC_X7_fogged
    refine s_X7_canGoDeeper (by omega) hn ⟨fun z => absurd (of_decide_eq_true z) (by omega), fun _ => ⟨vp_in_nI (by omega) (by omega), ?_⟩⟩
    rw [nI_cl (by omega), hC.2.1]
    have h := h I (fun _ _ => rfl)
    unfold fgv at h
    have := hv.2.2.1
    refine ⟨fun z => ?_, fun z => ?_⟩
    · rw [if_neg (fun y => z (by rw [y]))] at h; exact h
    · rw [if_pos ((nI_eq (by omega) (by omega)).mp z)] at h; exact h
  | succ m ih =>
    intro d k v I P hkn hd hC hS hv h
    refine w_X7_fogged hp (by omega) ?_
    unfold VC_X7_fogged
    obtain ⟨w1, w2, -⟩ := wrd_n (hw k (by omega))
    rw [nI_cl (by omega), nI_one]
    refine s_X7_canGoDeeper (by omega) hn ⟨fun _ => ?_, fun z => absurd (of_decide_eq_false z) (by omega)⟩
    refine s_X7_nextVoyage (by omega) (by omega) hC (fun I1 b1 b2 => ⟨isV_72 (k + 1) (by omega), vp_in_nI (by omega) (by omega), ?_⟩)
    rw [hJ k (by omega), w2]
    refine s_X6_hear (by omega) (isV_72 (k + 1) (by omega)) (by omega) b1 (hS.cg (b2 _ (by omega) (by omega)) (b2 _ (by omega) (by omega))) hW hv ht w1 (fun I2 d1 d2 => ?_)
    have e2 : ∀ a, (a < 96 + 2 * k + 2 ∨ 109 < a) → I2 a = I a := fun a ha => by rw [d2 a (by omega) (by omega), b2 a (by omega) (by omega)]
    refine ih (d - 1) (k + 1) _ I2 _ (by omega) (by omega) d1 (hS.cg (e2 _ (by omega)) (e2 _ (by omega))) (okV_hear hv hW) (fun I3 f1 => ?_)
    have e3 : ∀ a, (a < 96 + 2 * k + 2 ∨ 109 < a) → I3 a = I a := fun a ha => by rw [f1 a (by omega), e2 a ha]
    refine s_X7_nextVoyage (by omega) (by omega) (hC.cg (e3 _ (by omega)) (e3 _ (by omega))) (fun I4 b3 b4 => ⟨isV_72 (k + 1) (by omega), ?_⟩)
    have e4 : ∀ a, (a < 96 + 2 * k + 2 ∨ 109 < a) → I4 a = I a := fun a ha => by rw [b4 a (by omega) (by omega), e3 a ha]
    refine s_X6_goOn (by omega) (isV_72 (k + 1) (by omega)) b3 (hS.cg (e4 _ (by omega)) (e4 _ (by omega))) hW hv (fun I5 d3 d4 => ?_)
    have e5 : ∀ a, (a < 96 + 2 * k + 2 ∨ 109 < a) → I5 a = I a := fun a ha => by rw [d4 a (by omega) (by omega), e4 a ha]
    refine ih (d - 1) (k + 1) _ I5 _ (by omega) (by omega) d3 (hS.cg (e5 _ (by omega)) (e5 _ (by omega))) (okV_go hv hW) (fun I6 f2 => ?_)
    rw [show (10 : Int32) = nI 10 from rfl, pk_sub hq, pk_mul, pk_mul, nI_add]
    exact h I6 (fun a ha => by rw [f2 a (by omega), e5 a ha])
end FOG
theorem one_bit7 : ∀ b, b < 7 → (1 : Int32) <<< (nI b &&& 31) = nI (2 ^ b) := by decide +kernel
abbrev cFg (s t sh n c q w : Int32) (σ : ST) : Prop := (inN s (sF σ 0) = true ∧ inN t 4 = true ∧ inN sh 4 = true) ∧ inR n.toInt 1 6 = true ∧ cOK c (sF σ) = true ∧ inR q.toInt 0 10 = true ∧ inN w 2 = true
def fVal (F : NF) (s t : Nat) (f : Nat → Int64) (n c q : Nat) (w : Int32) : Int32 := if w = 0 then nI (fgv F t f c q n 0 (shipOf F s) / Nat.gcd (fgv F t f c q n 0 (shipOf F s)) (10 ^ n)) else nI (10 ^ n / Nat.gcd (fgv F t f c q n 0 (shipOf F s)) (10 ^ n))
def vFog (s t sh n c q w : Int32) (σ : ST) : Int32 := if cFg s t sh n c q w σ then (if 0 ≤ rfs (sS σ sh.toNatClampNeg) 0 0 n then (if allW (sX σ sh.toNatClampNeg) 0 1 n.toNatClampNeg then fVal (sF σ) s.toNatClampNeg t.toNatClampNeg (sX σ sh.toNatClampNeg) n.toNatClampNeg c.toNatClampNeg q.toNatClampNeg w else -2) else rfs (sS σ sh.toNatClampNeg) 0 0 n) else -1
theorem fin_g {A B : Nat} (hA : A ≤ 1000000) (hB : B ≤ 1000000) (hB0 : 0 < B) : 0 < Nat.gcd A B ∧ Nat.gcd A B ≤ 1000000 := by
  have h1 : Nat.gcd A B ≤ B := Nat.le_of_dvd hB0 (Nat.gcd_dvd_right A B)
  have h2 : 0 < Nat.gcd A B := Nat.gcd_pos_of_pos_right A hB0
  omega
theorem e_fog {g : GT} (a0 a1 a2 a3 a4 a5 a6 : Int32) : EQI g Rel M_X7_fog M_X8_fog [.int a0, .int a1, .int a2, .int a3, .int a4, .int a5, .int a6] := by
  refine eqI_of (vFog a0 a1 a2 a3 a4 a5 a6) id (fun σ I J P hk hC h => ?_) (fun σ I J P hk hM h => ?_) (fun _ h => h)
  · refine w_X7_fog (by omega) ?_
    unfold VC_X7_fog
    unfold vFog at h
    have bad : ¬ cFg a0 a1 a2 a3 a4 a5 a6 σ → P (-1) I J := fun z => by rw [if_neg z] at h; exact h I J hC smM.rf
    have hW := hk.1.W
    have hb1 := hW.1
    have h6 := hk.1.1
    have i0 : inN 0 4 = true := by decide
    refine s_X7_canTell (by omega) hC.2.1 hk.1 ⟨fun q => bad (fun z => by rw [cTel_t.mpr ⟨z.1.1, z.1.2.1, z.1.2.2, i0⟩] at q; cases q), fun q => ?_⟩
    have q := cTel_t.mp q
    rw [Int32.lt_iff_toInt_lt, Int32.lt_iff_toInt_lt, Int32.lt_iff_toInt_lt, Int32.lt_iff_toInt_lt, show (1 : Int32).toInt = 1 from by decide, show (6 : Int32).toInt = 6 from by decide, show (0 : Int32).toInt = 0 from by decide, show (10 : Int32).toInt = 10 from by decide]
    refine ⟨fun z => bad (fun y => by have := of_decide_eq_true y.2.1; omega), fun z1 => ⟨fun z => bad (fun y => by have := of_decide_eq_true y.2.1; omega), fun z2 => ?_⟩⟩
    have q5 : inR a3.toInt 1 6 = true := decide_eq_true (by omega)
    refine s_X3_has isSea_4 hC.2.1.sea hW ⟨fun z => bad (fun y => ff z y.2.2.1), fun qc5 => ?_⟩
    refine ⟨fun z => bad (fun y => by have := of_decide_eq_true y.2.2.2.1; omega), fun z3 => ⟨fun z => bad (fun y => by have := of_decide_eq_true y.2.2.2.1; omega), fun z4 => ?_⟩⟩
    have qq : inR a5.toInt 0 10 = true := decide_eq_true (by omega)
    refine s_X7_isPart ⟨fun q6 => ?_, fun z => bad (fun y => ff z y.2.2.2.2)⟩
    have qc : cFg a0 a1 a2 a3 a4 a5 a6 σ := ⟨⟨q.1, q.2.1, q.2.2.1⟩, q5, qc5, qq, q6⟩
    obtain ⟨p1, p2, p3, -⟩ := q
    obtain ⟨s, hs, rfl⟩ := inN_n p1 (by omega)
    obtain ⟨t, ht, rfl⟩ := inN_n p2 (by omega)
    obtain ⟨k, hk4, rfl⟩ := inN_n p3 (by omega)
    obtain ⟨n, hn1, hn, rfl⟩ := inR_n (a := 1) (b := 6) q5 (by omega)
    obtain ⟨c, hc, -, -, rfl⟩ := cOK_n qc5 hW
    obtain ⟨qn, -, hqn, rfl⟩ := inR_n (a := 0) (b := 10) qq (by omega)
    rw [if_pos qc] at h
    rw [nI_cl (n := k) (by omega), nI_cl (n := n) (by omega), nI_cl (n := s) (by omega), nI_cl (n := t) (by omega), nI_cl (n := c) (by omega), nI_cl (n := qn) (by omega)] at h
    have hs4 := hk.2.2.2.2.2.2.2 k hk4
    refine s_X7_refusalOf (by omega) hk4 hC.2.2.2.2.2 hs4.2 ⟨fun q7 => ⟨vp_in_nI hk4 (by omega), ?_⟩, fun q7 => ?_⟩
    · rw [if_pos q7] at h
      rw [nI_cl (n := k) (by omega)]
      have hJ : ∀ x, x < 24 → J (110 + 2 * k + 1) x = sX σ k x := fun x hx => by
        have := (hC.2.2.2.2.2 k hk4).2.2.2 x hx
        rwa [show 111 + 2 * k = 110 + 2 * k + 1 from by omega] at this
      refine s_X4_holdsWords (i := 0) (st := 1) (by omega) (isS_78 k hk4) hJ (by omega) (by omega) (by omega) (fun x hx => by omega) ⟨fun q8 => ?_, fun q8 => ?_⟩
      · rw [if_pos q8] at h
        have ws : ∀ x, x < n → wrd (sX σ k x) = true := fun x hx => by have := of_decide_eq_true q8 x hx; rwa [Nat.one_mul, Nat.zero_add] at this
        unfold fVal at h
        refine s_X6_board (by omega) isV_96 isF_3 (by omega) hC.2.1 hk.1 hs (fun I1 b1 b2 => ⟨vp_in_nI hk4 (by omega), ?_⟩)
        refine s_X7_fogged (f := sX σ k) (F := sF σ) (isS_78 k hk4) hW ht hn hqn hc hJ ws n 39 0 _ I1 _ (by omega) (by omega) b1 (hC.2.1.sea.cg (b2 _ (by omega) (by omega)) (b2 _ (by omega) (by omega))) (hk.1.ship hs) (fun I2 e2 => ?_)
        have e3 : ∀ a, (a < 96 ∨ 109 < a) → I2 a = I a := fun a ha => by rw [e2 a (by omega), b2 a (by omega) (by omega)]
        have hA := fgv_le (F := sF σ) (t := t) (G := sX σ k) (c := c) hqn n 0 (shipOf (sF σ) s)
        have hB := p10_le hn
        have hB0 : 0 < 10 ^ n := Nat.pow_pos (by omega)
        have done := h I2 J (hC.scr (J' := J) (fun a ha => e3 a (by omega)) (fun _ _ _ => rfl)) ⟨fun a ha => e3 a (by omega), fun _ _ => rfl⟩
        generalize fgv (sF σ) t (sX σ k) c qn n 0 (shipOf (sF σ) s) = A at done hA
        obtain ⟨g1, g2⟩ := fin_g (A := A) (by omega) hB hB0
        refine s_X7_tenToThe hn (s_X7_greatestDivisor (by omega) hB ?_)
        have nz : ¬ nI (Nat.gcd A (10 ^ n)) = 0 := fun z => absurd ((nI_eq (b := 0) (by omega) (by omega)).mp z) (by omega)
        refine ⟨fun _ => ⟨fun z => ⟨nz, ?_⟩, fun z => ⟨nz, ?_⟩⟩, fun z => absurd (nI_lt (a := 0) g1 (by omega)) z⟩
        · rw [if_neg z] at done
          rw [pk_div (by omega) g1 (by omega)]; exact done
        · rw [if_pos z] at done
          rw [pk_div (by omega) g1 (by omega)]; exact done
      · rw [if_neg (by rw [q8]; decide)] at h
        exact h I J hC smM.rf
    · rw [if_neg q7] at h
      exact h I J hC smM.rf
  · refine w_X8_fog (by omega) ?_
    unfold VC_X8_fog
    unfold vFog at h
    have bad : ¬ cFg a0 a1 a2 a3 a4 a5 a6 σ → P (-1) I J := fun z => by rw [if_neg z] at h; exact h I J hM smC.rf
    have hW := hk.1.W
    have hb1 := hW.1
    have h6 := hk.1.1
    refine s_X8_isShip (by omega) hM.2.1 hk.1 ⟨fun z => bad (fun y => ff z y.1.1), fun p1 => ?_⟩
    refine s_X8_isTeller (by omega) ⟨fun z => bad (fun y => ff z y.1.2.1), fun p2 => ?_⟩
    refine s_X8_isSheet (by omega) ⟨fun z => bad (fun y => ff z y.1.2.2), fun p3 => ?_⟩
    refine s_X8_inR (lo := 1) (hi := 6) (by decide) (by decide) ⟨fun z => bad (fun y => ff z y.2.1), fun q5 => ?_⟩
    refine s_X8_isCell (by omega) (hM.2.1.a0 1 (by omega)) (hM.2.1.a0 2 (by omega)) hW ⟨fun z => bad (fun y => ff z y.2.2.1), fun qc5 => ?_⟩
    refine s_X8_inR (lo := 0) (hi := 10) (by decide) (by decide) ⟨fun z => bad (fun y => ff z y.2.2.2.1), fun qq => ?_⟩
    refine s_X8_inN (n := 2) (by decide) ⟨fun q6 => ?_, fun z => bad (fun y => ff z y.2.2.2.2)⟩
    have qc : cFg a0 a1 a2 a3 a4 a5 a6 σ := ⟨⟨p1, p2, p3⟩, q5, qc5, qq, q6⟩
    obtain ⟨s, hs, rfl⟩ := inN_n p1 (by omega)
    obtain ⟨t, ht, rfl⟩ := inN_n p2 (by omega)
    obtain ⟨k, hk4, rfl⟩ := inN_n p3 (by omega)
    obtain ⟨n, hn1, hn, rfl⟩ := inR_n (a := 1) (b := 6) q5 (by omega)
    obtain ⟨c, hc, -, -, rfl⟩ := cOK_n qc5 hW
    obtain ⟨qn, -, hqn, rfl⟩ := inR_n (a := 0) (b := 10) qq (by omega)
    rw [if_pos qc] at h
    rw [nI_cl (n := k) (by omega), nI_cl (n := n) (by omega), nI_cl (n := s) (by omega), nI_cl (n := t) (by omega), nI_cl (n := c) (by omega), nI_cl (n := qn) (by omega)] at h
    have hs4 := hk.2.2.2.2.2.2.2 k hk4
    refine s_X8_against hk4 (by omega) hM.2.2.2.2.2 hs4.2 ⟨fun q7 => ?_, fun q7 => ?_⟩
    · rw [if_pos q7] at h
      have hJ : ∀ x, x < 24 → J 121 (24 * k + x) = sX σ k x := fun x hx => (hM.2.2.2.2.2 k hk4).2.2 x hx
      rw [show (24 : Int32) * nI k = nI (24 * k + 0) from by rw [show (24 : Int32) = nI 24 from rfl, pk_mul, Nat.add_zero]]
      refine s_X8_areWords (i := 0) (st := 1) (by omega) hJ (by omega) (by omega) (by omega) (by omega) (fun x hx => by omega) ⟨fun q8 => ?_, fun q8 => ?_⟩
      · rw [if_pos q8] at h
        have ws : ∀ x, x < n → wrd (sX σ k x) = true := fun x hx => by have := of_decide_eq_true q8 x hx; rwa [Nat.one_mul, Nat.zero_add] at this
        unfold fVal at h
        have hA := fgv_le (F := sF σ) (t := t) (G := sX σ k) (c := c) hqn n 0 (shipOf (sF σ) s)
        have eA := fgv_eq (F := sF σ) (t := t) (G := sX σ k) (c := c) (q := qn) n 0 (shipOf (sF σ) s)
        generalize fgv (sF σ) t (sX σ k) c qn n 0 (shipOf (sF σ) s) = A at h hA eA
        have hB := p10_le hn
        have hB0 : 0 < 10 ^ n := Nat.pow_pos (by omega)
        obtain ⟨g1, g2⟩ := fin_g (A := A) (by omega) hB hB0
        have p64n : 2 ^ n ≤ 64 := p64 hn
        -- the greatest divisor
        have gcl : ∀ I1, frX I I1 → ∀ y x, x ≤ 1000000 → y ≤ 1000000 → Nat.gcd x y = Nat.gcd A (10 ^ n) → Lp_X8_fog_281 g 40 a6 (nI A) (nI (10 ^ n)) (nI x) (nI y) I1 J P := by
          intro I1 c1 y
          induction y using Nat.strongRecOn with
          | ind y ih =>
            intro x hx hy hg
            refine w_X8_fog_281 ?_
            unfold VC_X8_fog_281
            have done := h I1 J (c1.M hM) c1.C
            refine ⟨fun z => ?_, fun z => ⟨z, ?_⟩⟩
            · have z : y = 0 := (nI_eq (b := 0) (by omega) (by omega)).mp z
              rw [z, Nat.gcd_zero_right] at hg
              have nz : ¬ nI x = 0 := fun w => absurd ((nI_eq (b := 0) (by omega) (by omega)).mp w) (by omega)
              rw [← hg] at done
              refine ⟨fun z => ⟨nz, ?_⟩, fun z => ⟨nz, ?_⟩⟩
              · rw [if_neg z] at done
                rw [pk_div (by omega) (by omega) (by omega)]; exact done
              · rw [if_pos z] at done
                rw [pk_div (by omega) (by omega) (by omega)]; exact done
            · have z' : y ≠ 0 := fun w => z (by rw [w]; rfl)
              rw [pk_rem (by omega) (by omega) (by omega)]
              have := Nat.mod_lt x (show 0 < y by omega)
              exact ih (x % y) this y hy (by omega) (by rw [gcd_st]; exact hg)
        -- ten to the n
        refine upTo (Q := fun x => Lp_X8_fog_119 g 40 (nI s) (nI t) (nI n) (nI c) (nI qn) a6 (nI (24 * k + 0)) 0 (nI (10 ^ x)) (nI x) I J P) (N := n) ?_ (fun x hx ih => ?_)
        · refine w_X8_fog_119 ?_
          unfold VC_X8_fog_119
          refine ⟨fun _ => ?_, fun z => absurd (nI_le (Nat.le_refl _) (by omega)) z⟩
          -- the sets
          refine upTo (Q := fun x => ∀ I1, frX I I1 → Lp_X8_fog_142 g 40 (nI s) (nI t) (nI n) (nI c) (nI qn) a6 (nI (24 * k + 0)) (nI (smN (trm (sF σ) t (sX σ k) c qn n 0 (shipOf (sF σ) s)) x)) (nI (10 ^ n)) (nI x) I1 J P) (N := 2 ^ n) (fun I1 c1 => ?_) (fun x hx ih I1 c1 => ?_) I frX.rf
          · refine w_X8_fog_142 (by omega) ?_
            unfold VC_X8_fog_142
            rw [one_bit7 n (by omega)]
            refine ⟨fun _ => ?_, fun z => absurd (nI_le (Nat.le_refl _) (by omega)) z⟩
            rw [← eA]
            exact gcl I1 c1 (10 ^ n) A (by omega) hB rfl
          · refine w_X8_fog_142 (by omega) ?_
            unfold VC_X8_fog_142
            rw [one_bit7 n (by omega)]
            refine ⟨fun z => absurd ((nI_leI (by omega) (by omega)).mp z) (by omega), fun _ => ?_⟩
            refine s_X8_tries (by omega) (c1.F hM.2.1) (fun I2 b1 b2 => ?_)
            rw [smN_s] at ih
            refine upTo (Q := fun y => ∀ I3 v W, frX I I3 → MV I3 320 s v → MSea I3 320 (sF σ) → okV (sF σ) v → trm (sF σ) t (sX σ k) c qn n 0 (shipOf (sF σ) s) x = W * trm (sF σ) t (sX σ k) c qn (n - y) y v (x / 2 ^ y) → Lp_X8_fog_161 g 40 (nI s) (nI t) (nI n) (nI c) (nI qn) a6 (nI (24 * k + 0)) (nI (smN (trm (sF σ) t (sX σ k) c qn n 0 (shipOf (sF σ) s)) x)) (nI (10 ^ n)) (nI x) (nI W) (nI y) I3 J P) (N := n) (fun I3 v W c2 c3 c4 c5 c6 => ?_) (fun y hy ihy I3 v W c2 c3 c4 c5 c6 => ?_) I2 _ 1 (c1.tr b2.x) (b1.ship (by omega)) b1.sea (hk.1.ship hs) (by rw [Nat.one_mul, Nat.pow_zero, Nat.div_one]; rfl)
            · refine w_X8_fog_161 (by omega) ?_
              unfold VC_X8_fog_161
              rw [ix2 378 s 378 rfl, nI_cl (by omega), x0, nI_add, nI_one]
              rw [show I3 119 (378 + s) = nI v.2.1 from by have := c3.2.1; rwa [show 320 + 58 + s = 378 + s from by omega] at this]
              refine ⟨fun _ => ⟨vp_in_nI (by omega) (by omega), ?_⟩, fun z => absurd (nI_le (Nat.le_refl _) (by omega)) z⟩
              rw [Nat.sub_self] at c6
              have c6 : trm (sF σ) t (sX σ k) c qn n 0 (shipOf (sF σ) s) x = W * (if v.2.1 = c then 1 else 0) := c6
              rw [c6] at ih
              have := c5.2.2.1
              refine ⟨fun z => ?_, fun z => ?_⟩
              · rw [if_neg (fun w => z (by rw [w])), Nat.mul_zero, Nat.add_zero] at ih
                exact ih I3 c2
              · rw [if_pos ((nI_eq (by omega) (by omega)).mp z), Nat.mul_one] at ih
                exact ih I3 c2
            · refine w_X8_fog_161 (by omega) ?_
              unfold VC_X8_fog_161
              obtain ⟨m, hm⟩ : ∃ m, n - y = m + 1 := ⟨n - y - 1, by omega⟩
              have hm' : n - (y + 1) = m := by omega
              rw [hm] at c6
              rw [hm'] at ihy
              obtain ⟨w1, w2, -⟩ := wrd_n (ws y hy)
              rw [show (10 : Int32) = nI 10 from rfl, pk_sub hqn, pk_mul, pk_mul, nI_add (24 * k + 0) y, nI_one y, nI_cl (n := 24 * k + 0 + y) (by omega), show 24 * k + 0 + y = 24 * k + y from by omega]
              have ht2 : x.testBit y = decide (x / 2 ^ y % 2 = 1) := Nat.testBit_eq_decide_div_mod_eq
              have hd2 : x / 2 ^ y / 2 = x / 2 ^ (y + 1) := by rw [Nat.div_div_eq_div_mul, ← Nat.pow_succ]
              have c6 : trm (sF σ) t (sX σ k) c qn n 0 (shipOf (sF σ) s) x = W * (if x / 2 ^ y % 2 = 1 then qn * trm (sF σ) t (sX σ k) c qn m (y + 1) (goV (sF σ) v).2 (x / 2 ^ y / 2) else (10 - qn) * trm (sF σ) t (sX σ k) c qn m (y + 1) (hearV (sF σ) v t (wv (sX σ k y))) (x / 2 ^ y / 2)) := c6
              rw [hd2] at c6
              have hx64 : x < 64 := by omega
              refine ⟨fun z => absurd ((nI_leI (by omega) (by omega)).mp z) (by omega), fun _ => ?_⟩
              refine s_X8_has hx64 (by omega) ⟨fun z => ?_, fun z => ?_⟩
              · refine s_X8_has hx64 (by omega) ⟨fun _ => ⟨vp_in_nI (by omega) (by omega), ?_⟩, fun w => (ff z w).elim⟩
                rw [ht2] at z
                rw [if_neg (of_decide_eq_false z), ← Nat.mul_assoc] at c6
                rw [hJ y (by omega), w2]
                refine s_X8_says (r := 320) (by omega) (by omega) (by omega) ht w1 c3 c4 hW c5 (fun I4 d1 d2 _ => ?_)
                exact ihy I4 _ _ (c2.tr (d2.t (by omega)).x) d1 (d2.sea (by omega) c4) (okV_hear c5 hW) c6
              · refine s_X8_has hx64 (by omega) ⟨fun w => (ff w z).elim, fun _ => ?_⟩
                rw [ht2] at z
                rw [if_pos (of_decide_eq_true z), ← Nat.mul_assoc] at c6
                refine s_X8_goes (r := 320) (by omega) (by omega) (by omega) c3 c4 hW c5 (fun I4 d1 d2 _ => ?_)
                exact ihy I4 _ _ (c2.tr (d2.t (by omega)).x) d1 (d2.sea (by omega) c4) (okV_go c5 hW) c6
        · refine w_X8_fog_119 ?_
          unfold VC_X8_fog_119
          rw [nI_one, show nI (10 ^ x) * 10 = nI (10 ^ (x + 1)) from by rw [show (10 : Int32) = nI 10 from rfl, pk_mul, Nat.pow_succ]]
          exact ⟨fun z => absurd ((nI_leI (by omega) (by omega)).mp z) (by omega), fun _ => ih⟩
      · rw [if_neg (by rw [q8]; decide)] at h
        exact h I J hM smC.rf
    · rw [if_neg q7] at h
      exact h I J hM smC.rf
