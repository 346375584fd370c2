-- ===== thoughts of the reference: the region 320; decades =====
def frT (I I' : IT) : Prop := (∀ a, a ≠ 119 → I' a = I a) ∧ ∀ j, (j < 320 ∨ 400 ≤ j) → I' 119 j = I 119 j
theorem frT.rf {I : IT} : frT I I := ⟨fun _ _ => rfl, fun _ _ => rfl⟩
theorem frT.tr {I I1 I2 : IT} (h : frT I I1) (h2 : frT I1 I2) : frT I I2 := ⟨fun a ha => (h2.1 a ha).trans (h.1 a ha), fun j hj => (h2.2 j hj).trans (h.2 j hj)⟩
theorem frS.t {I I' : IT} {s : Nat} (hs : s < 6) (h : frS I I' 320 s) : frT I I' := ⟨h.1, fun j hj => h.2 j (by omega) (by omega) (by omega) (by omega) (by omega)⟩
theorem frT.w {I : IT} {j : Nat} {x : Int32} (h : 320 ≤ j) (h2 : j < 400) : frT I (sI I 119 j x) := ⟨fun a ha => sI_ne ha, fun i hi => by rw [sI_at, if_neg (by omega)]⟩
theorem frT.M {I I' : IT} {J : JT} {σ : ST} (h : frT I I') (hM : RelM I J σ) : RelM I' J σ :=
  hM.scr (by rw [h.1 118 (by omega)]) (by rw [h.1 118 (by omega)]) (fun j hj => h.2 j (by omega)) (h.1 120 (by omega)) (h.1 122 (by omega)) (h.1 123 (by omega)) rfl
theorem frT.C {I I' : IT} {J : JT} (h : frT I I') : smC I J I' J := ⟨fun a ha => h.1 a (by omega), fun _ _ => rfl⟩
theorem MF'.at {I : IT} {r : Nat} {F : NF} (h : MF' I r F) (j : Nat) (hj : j < 80) (h57 : j ≠ 57) : I 119 (r + j) = nI (F j) := h j hj h57
theorem MF'.sea {I : IT} {r : Nat} {F : NF} (h : MF' I r F) : MSea I r F := ⟨h 1 (by omega) (by omega), h 2 (by omega) (by omega), fun c hc => by rw [show r + 3 + c = r + (3 + c) from by omega]; exact h (3 + c) (by omega) (by omega)⟩
theorem MF'.ship {I : IT} {r s : Nat} {F : NF} (h : MF' I r F) (hs : s < 6) : MV I r s (shipOf F s) := by
  refine ⟨?_, ?_, ?_, ?_, fun t ht => ?_⟩
  · rw [show r + 51 + s = r + (51 + s) from by omega]; exact h _ (by omega) (by omega)
  · rw [show r + 58 + s = r + (58 + s) from by omega]; exact h _ (by omega) (by omega)
  · rw [show r + 64 + s = r + (64 + s) from by omega]; exact h _ (by omega) (by omega)
  · rw [show r + 70 + s = r + (70 + s) from by omega]; exact h _ (by omega) (by omega)
  · rw [show r + 76 + t = r + (76 + t) from by omega]; exact h _ (by omega) (by omega)
theorem MF'_put {I1 I2 : IT} {F : NF} {r s : Nat} {v : Vy} (hs : s < 6) (h : MF' I1 r F) (hV : MV I2 r s v) (hf : frS I1 I2 r s) : MF' I2 r (putS F s v) := by
  intro j hj h57
  unfold putS
  by_cases q1 : j = 58 + s
  · subst q1; rw [if_pos rfl, show r + (58 + s) = r + 58 + s from by omega]; exact hV.2.1
  · rw [if_neg q1]
    by_cases q2 : j = 64 + s
    · subst q2; rw [if_pos rfl, show r + (64 + s) = r + 64 + s from by omega]; exact hV.2.2.1
    · rw [if_neg q2]
      by_cases q3 : j = 70 + s
      · subst q3; rw [if_pos rfl, show r + (70 + s) = r + 70 + s from by omega]; exact hV.2.2.2.1
      · rw [if_neg q3]
        by_cases q4 : 76 ≤ j ∧ j < 80
        · rw [if_pos q4, show r + j = r + 76 + (j - 76) from by omega]; exact hV.2.2.2.2 (j - 76) (by omega)
        · rw [if_neg q4, hf.2 (r + j) (by omega) (by omega) (by omega) (by omega) (by omega)]; exact h j hj h57
section TRY
variable {g : GT} {d : Nat} {I : IT} {J : JT}
theorem s_X8_tries {F : NF} {P : IT → JT → Prop} (hd : 1 ≤ d) (hM : MF I 0 F) (h : ∀ I', MF I' 320 F → frT I I' → P I' J) : SemV g d M_X8_tries [.ref (ga g 118)] I J P := by
  refine w_X8_tries hd ?_
  unfold VC_X8_tries
  refine s_X8_bring (a := 0) (b := 320) (n := 80) (by omega) (by omega) (Or.inr (by omega)) ?_
  refine h _ (fun j hj => ?_) ⟨fun a ha => brg_ne ha, fun j hj => by rw [brg_at, if_neg (by omega)]⟩
  rw [brg_at, if_pos (by omega), show 0 + (320 + j - 320) = 0 + j from by omega]
  exact hM j hj
theorem s_X7_isPart {v : Int32} {P : Bool → IT → JT → Prop} (h : P (inN v 2) I J) : SemZ g d M_X7_isPart [.int v] I J P := by
  refine w_X7_isPart ?_
  unfold VC_X7_isPart
  refine ⟨fun q => ?_, fun q => ⟨fun q2 => ?_, fun q2 => ?_⟩⟩
  · subst q; exact h
  · have : inN v 2 = false := by
      cases hb : inN v 2 with
      | false => rfl
      | true =>
        obtain ⟨n, hn, rfl⟩ := inN_n hb (by omega)
        have hn' : n = 0 ∨ n = 1 := by omega
        rcases hn' with rfl | rfl
        · exact absurd rfl q
        · exact absurd rfl q2
    rw [this] at h; exact h
  · subst q2; exact h
end TRY
theorem okV_cg {F G : NF} {v : Vy} (h : okV F v) (e1 : G 1 = F 1) (e2 : G 2 = F 2) : okV G v := by
  unfold okV at h ⊢; rw [e1, e2]; exact h
-- one turn of the decades
def dwm (v : Vy) (x : Nat) : Vy := if x / 4096 % 7 = 0 then (v.1, v.2.1, v.2.2.1, v.2.2.2.1 - 1, v.2.2.2.2) else v
def dstep (F : NF) (x : Nat) (G : NF) : NF := putS G (x % F 0) (dwm (hearV F (shipOf G (x % F 0)) (x / 16 % 4) (x / 256 % 3)) x)
def dnx (x : Nat) : Nat := 16807 * x % 2147483647
def decs (F : NF) (x0 : Nat) : Nat → Nat × NF
  | 0 => (x0, F)
  | k + 1 => (dnx (decs F x0 k).1, dstep F (dnx (decs F x0 k).1) (decs F x0 k).2)
theorem okV_dwm {F : NF} {v : Vy} {x : Nat} (h : okV F v) : okV F (dwm v x) := by
  unfold dwm
  split
  · refine ⟨h.1, h.2.1, h.2.2.1, h.2.2.2.1, h.2.2.2.2.1, ?_, h.2.2.2.2.2.2⟩
    show v.2.2.2.1 - 1 ≤ 5
    have := h.2.2.2.2.2.1
    omega
  · exact h
theorem dwm_k {v : Vy} {x : Nat} : (dwm v x).1 = v.1 := by unfold dwm; split <;> rfl
/-- the same sea, as many ships of the same kinds -/
def smS (F G : NF) : Prop := ∀ j, j < 57 → G j = F j
theorem dstep_ok {F G : NF} {x : Nat} (hG : okF G) (hs : smS F G) (h0 : 0 < F 0) (hW : okW F) : okF (dstep F x G) ∧ smS F (dstep F x G) := by
  have e0 := hs 0 (by omega)
  have e1 := hs 1 (by omega)
  have e2 := hs 2 (by omega)
  have hlt : x % F 0 < G 0 := by rw [e0]; exact Nat.mod_lt _ h0
  refine ⟨okF_put hG hlt (okV_cg (okV_dwm (okV_hear (okV_cg (hG.ship hlt) e1.symm e2.symm) hW)) e1 e2), fun j hj => ?_⟩
  unfold dstep
  rw [putS_lo (by omega)]; exact hs j hj
theorem decs_ok {F : NF} {x0 : Nat} (hF : okF F) (h0 : 0 < F 0) (hx : x0 < 2147483647) : ∀ k, (decs F x0 k).1 < 2147483647 ∧ okF (decs F x0 k).2 ∧ smS F (decs F x0 k).2 := by
  intro k
  induction k with
  | zero => exact ⟨hx, hF, fun _ _ => rfl⟩
  | succ k ih =>
    have := dstep_ok (x := dnx (decs F x0 k).1) ih.2.1 ih.2.2 h0 hF.W
    exact ⟨Nat.mod_lt _ (by omega), this.1, this.2⟩
theorem lR {x a b : Nat} (hx : x < 2 ^ 63) (ha : 0 < a) (ha2 : a < 2 ^ 63) (hb : 0 < b) (hb2 : b < 2 ^ 63) : lN x / lN a - lN x / lN a / lN b * lN b = lN (x / a % b) := by
  rw [pk_lDiv hx ha ha2, pk_lRem (Nat.lt_of_le_of_lt (Nat.div_le_self _ _) hx) hb hb2]
theorem lDn {x : Nat} (hx : x < 2147483647) : (16807 * lN x) - (16807 * lN x) / 2147483647 * 2147483647 = lN (dnx x) := by
  rw [show (16807 : Int64) = lN 16807 from rfl, show (2147483647 : Int64) = lN 2147483647 from rfl, lN_mul, pk_lRem (by omega) (by omega) (by omega)]
  rfl
theorem lDn' {x : Nat} (hx : x < 2147483647) : (lN x * 16807) - (lN x * 16807) / 2147483647 * 2147483647 = lN (dnx x) := by
  rw [show (16807 : Int64) = lN 16807 from rfl, show (2147483647 : Int64) = lN 2147483647 from rfl, lN_mul, pk_lRem (by omega) (by omega) (by omega), Nat.mul_comm]
  rfl
section DEC
variable {g : GT} {d : Nat} {I : IT} {J : JT}
theorem s_X7_passDecade {x : Nat} {F G : NF} {P : IT → JT → Prop} (hd : 4 ≤ d) (hx : x < 2147483647) (hC : FlC I 11 G) (hG : okF G) (hS : SeaC I 4 F) (hW : okW F) (hs : smS F G) (h0 : 0 < F 0) (h : ∀ I', FlC I' 11 (dstep F x G) → (∀ a, isK a → I' a = I a) → P I' J) : SemV g d M_X7_passDecade [.ref (ga g 0), .long (lN x)] I J P := by
  refine w_X7_passDecade (by omega) ?_
  unfold VC_X7_passDecade
  have h6 := hG.1
  have e0 := hs 0 (by omega)
  have e1 := hs 1 (by omega)
  have e2 := hs 2 (by omega)
  have hlt : x % F 0 < F 0 := Nat.mod_lt _ h0
  rw [hC.1, e0, nI_l (by omega), show (16 : Int64) = lN 16 from rfl, show (256 : Int64) = lN 256 from rfl, show (4096 : Int64) = lN 4096 from rfl, show (4 : Int64) = lN 4 from rfl, show (3 : Int64) = lN 3 from rfl, show (7 : Int64) = lN 7 from rfl, lR (by omega) (by omega) (by omega) (by omega) (by omega), lR (by omega) (by omega) (by omega) (by omega) (by omega), lR (by omega) (by omega) (by omega) (by omega) (by omega), pk_lRem (by omega) h0 (by omega), lN_i, lN_i, lN_i]
  refine ⟨fun _ => ⟨fun z => absurd ((pk_lEQ (b := 0) (by omega) (by omega)).mp z) (by omega), ?_⟩, fun z => absurd (nI_lt (a := 0) h0 (by omega)) z⟩
  refine s_X6_board (by omega) isV_96 isF_11 (by omega) hC hG (by omega) (fun I1 a1 a2 => ?_)
  have hv : okV F (shipOf G (x % F 0)) := okV_cg (hG.ship (by omega)) e1.symm e2.symm
  refine s_X6_hear (by omega) isV_96 (by omega) a1 (hS.cg (a2 _ (by omega) (by omega)) (a2 _ (by omega) (by omega))) hW hv (Nat.mod_lt _ (by omega)) (Nat.mod_lt _ (by omega)) (fun I2 b1 b2 => ?_)
  have e3 : ∀ a, a ≠ 96 → a ≠ 97 → I2 a = I a := fun a z1 z2 => by rw [b2 a z1 z2, a2 a z1 z2]
  unfold dstep at h
  have hh := okV_hear (t := x / 16 % 4) (w := x / 256 % 3) hv hW
  have hkk : (hearV F (shipOf G (x % F 0)) (x / 16 % 4) (x / 256 % 3)).1 = G (51 + x % F 0) := hear_k
  generalize hearV F (shipOf G (x % F 0)) (x / 16 % 4) (x / 256 % 3) = v at h hh b1 hkk
  have fin : ∀ I3 v', CV I3 96 v' → v'.1 = G (51 + x % F 0) → (∀ a, a ≠ 96 → a ≠ 97 → I3 a = I a) → v' = dwm v x → SemV g (d - 1) M_X6_land [.ref (ga g 96), .ref (ga g 11), .int (nI (x % F 0))] I3 J (fun I114 J114 => P I114 J114) := by
    intro I3 v' c1 ck c2 ev
    subst ev
    exact s_X6_land (by omega) isV_96 isF_11 (by omega) (hC.cg (fun a _ _ => c2 a (by omega) (by omega))) hG (by omega) c1 ck (fun I4 d1 d2 => h I4 d1 (fun a ha => by rw [d2 a (by omega), c2 a (by omega) (by omega)]))
  refine ⟨fun z => ?_, fun z => ?_⟩
  · have z : ¬ x / 4096 % 7 = 0 := fun y => z (by rw [y]; rfl)
    exact fin I2 v b1 hkk e3 (by unfold dwm; rw [if_neg z])
  · have z : x / 4096 % 7 = 0 := (pk_lEQ (b := 0) (by omega) (by omega)).mp z
    rw [b1.2.2.2.1]
    have hw := hh.2.2.2.2.2.1
    refine ⟨fun z2 => ?_, fun z2 => ?_⟩
    · have z2 : v.2.2.2.1 ≤ 0 := (nI_leI (b := 0) (by omega) (by omega)).mp z2
      refine fin I2 v b1 hkk e3 ?_
      unfold dwm; rw [if_pos z, show v.2.2.2.1 - 1 = v.2.2.2.1 from by omega]
    · have z2 : ¬ v.2.2.2.1 ≤ 0 := fun y => z2 ((nI_leI (b := 0) (by omega) (by omega)).mpr y)
      rw [nI_mm (by omega)]
      refine fin _ (v.1, v.2.1, v.2.2.1, v.2.2.2.1 - 1, v.2.2.2.2) ⟨?_, ?_, ?_, ?_, fun t ht => ?_⟩ hkk (fun a z1 z2 => by rw [sI_ne z1, e3 a z1 z2]) (by unfold dwm; rw [if_pos z])
      · rw [sI_at, if_neg (by omega)]; exact b1.1
      · rw [sI_at, if_neg (by omega)]; exact b1.2.1
      · rw [sI_at, if_neg (by omega)]; exact b1.2.2.1
      · rw [sI_at, if_pos ⟨rfl, rfl⟩]
      · rw [sI_ne (by omega)]; exact b1.2.2.2.2 t ht
theorem s_X8_inR {v : Int32} {a b : Int64} {lo hi : Int} {P : Bool → IT → JT → Prop} (ha : a.toInt = lo) (hb : b.toInt = hi) (h : P (inR v.toInt lo hi) I J) : SemZ g d M_X8_in [.long v.toInt64, .long a, .long b] I J P := by
  refine s_X8_in ?_
  rw [Int32.toInt_toInt64, ha, hb]; exact h
end DEC
theorem inR_n {v : Int32} {a b : Nat} (h : inR v.toInt a b = true) (hb : b < 2 ^ 30) : ∃ n, a ≤ n ∧ n ≤ b ∧ v = nI n := by
  have h := of_decide_eq_true h
  obtain ⟨n, hn, rfl⟩ := inN_n (v := v) (N := b + 1) (decide_eq_true (by omega)) (by omega)
  rw [nI_toInt (by omega)] at h
  exact ⟨n, by omega, by omega, rfl⟩
def cDec (a b c : Int32) : Bool := inR a.toInt 0 60 && (inR b.toInt 1 999999 && inN c 2)
theorem cDec_t {a b c : Int32} : cDec a b c = true ↔ inR a.toInt 0 60 = true ∧ inR b.toInt 1 999999 = true ∧ inN c 2 = true := by
  unfold cDec
  rw [Bool.and_eq_true, Bool.and_eq_true]
def vDec (a b c : Int32) (σ : ST) : Int32 := if cDec a b c then (if 0 < sF σ 0 then (if c = 0 then aWorm (decs (sF σ) b.toNatClampNeg a.toNatClampNeg).2 else aCred (decs (sF σ) b.toNatClampNeg a.toNatClampNeg).2) else -2) else -1
theorem e_decades {g : GT} (a0 a1 a2 : Int32) : EQI g Rel M_X7_decades M_X8_decades [.int a0, .int a1, .int a2] := by
  refine eqI_of (vDec a0 a1 a2) id (fun σ I J P hk hC h => ?_) (fun σ I J P hk hM h => ?_) (fun _ h => h)
  · refine w_X7_decades (by omega) ?_
    unfold VC_X7_decades
    unfold vDec at h
    have h0 : (0 : Int32).toInt = 0 := by decide
    have h1 : (1 : Int32).toInt = 1 := by decide
    have h60 : (60 : Int32).toInt = 60 := by decide
    have h99 : (999999 : Int32).toInt = 999999 := by decide
    have bad : ¬ (inR a0.toInt 0 60 = true ∧ inR a1.toInt 1 999999 = true ∧ inN a2 2 = true) → P (-1) I J := fun z => by
      rw [if_neg (fun y => z (cDec_t.mp y))] at h; exact h I J hC smM.rf
    rw [Int32.lt_iff_toInt_lt, Int32.lt_iff_toInt_lt, Int32.lt_iff_toInt_lt, Int32.lt_iff_toInt_lt, h0, h1, h60, h99]
    refine ⟨fun z => bad (fun y => by have := of_decide_eq_true y.1; omega), fun z1 => ⟨fun z => bad (fun y => by have := of_decide_eq_true y.1; omega), fun z2 => ⟨fun z => bad (fun y => by have := of_decide_eq_true y.2.1; omega), fun z3 => ⟨fun z => bad (fun y => by have := of_decide_eq_true y.2.1; omega), fun z4 => ?_⟩⟩⟩⟩
    have q1 : inR a0.toInt 0 60 = true := decide_eq_true (by omega)
    have q2 : inR a1.toInt 1 999999 = true := decide_eq_true (by omega)
    refine s_X7_isPart ⟨fun q3 => ?_, fun q3 => bad (fun y => by rw [q3] at y; exact absurd y.2.2 (by decide))⟩
    rw [if_pos (cDec_t.mpr ⟨q1, q2, q3⟩)] at h
    obtain ⟨n, -, hn, rfl⟩ := inR_n (a := 0) (b := 60) q1 (by omega)
    obtain ⟨x, -, hx, rfl⟩ := inR_n (a := 1) (b := 999999) q2 (by omega)
    rw [nI_cl (by omega), nI_cl (by omega)] at h
    refine s_X2_stands isF_3 hC.2.1 hk.1 ⟨fun q4 => ?_, fun q4 => ?_⟩
    · have q4 := of_decide_eq_true q4
      rw [if_pos q4] at h
      refine s_X2_become (by omega) isF_11 isF_3 (by omega) hC.2.1 hk.1 (fun I1 b1 b2 => ?_)
      rw [nI_l (by omega)]
      have ok := decs_ok (x0 := x) hk.1 q4 (by omega)
      refine upTo (Q := fun k => ∀ I2, FlC I2 11 (decs (sF σ) x k).2 → (∀ a, isK a → I2 a = I a) → Lp_X7_decades_61 g 40 (nI n) a2 (lN (decs (sF σ) x k).1) (nI k) I2 J P) (N := n) (fun I2 c1 c2 => ?_) (fun k hkn ih I2 c1 c2 => ?_) I1 b1 (fun a ha => b2 a (by omega))
      · refine w_X7_decades_61 (by omega) ?_
        unfold VC_X7_decades_61
        have hR := hC.scr (J' := J) c2 (fun _ _ _ => rfl)
        have hS : smM I J I2 J := ⟨fun a ha => c2 a (by omega), fun _ _ => rfl⟩
        refine ⟨fun _ => ⟨fun z => s_X2_allCredit isF_11 c1 ?_, fun z => s_X2_allWorm isF_11 c1 (ok n).2.1 ?_⟩, fun z => absurd (nI_le (Nat.le_refl _) (by omega)) z⟩
        · rw [if_neg z] at h; exact h I2 J hR hS
        · rw [if_pos z] at h; exact h I2 J hR hS
      · refine w_X7_decades_61 (by omega) ?_
        unfold VC_X7_decades_61
        rw [lDn (ok k).1, nI_one]
        refine ⟨fun z => absurd ((nI_leI (by omega) (by omega)).mp z) (by omega), fun _ => ?_⟩
        refine s_X7_passDecade (F := sF σ) (by omega) (Nat.mod_lt _ (by omega)) c1 (ok k).2.1 (hC.2.1.sea.cg (c2 _ (by omega)) (c2 _ (by omega))) hk.1.W (ok k).2.2 q4 (fun I3 d1 d2 => ?_)
        exact ih I3 d1 (fun a ha => by rw [d2 a ha, c2 a ha])
    · have q4 := of_decide_eq_false q4
      rw [if_neg q4] at h
      exact h I J hC smM.rf
  · refine w_X8_decades (by omega) ?_
    unfold VC_X8_decades
    unfold vDec at h
    have bad : ¬ (inR a0.toInt 0 60 = true ∧ inR a1.toInt 1 999999 = true ∧ inN a2 2 = true) → P (-1) I J := fun z => by
      rw [if_neg (fun y => z (cDec_t.mp y))] at h; exact h I J hM smC.rf
    refine s_X8_inR (lo := 0) (hi := 60) (by decide) (by decide) ⟨fun z => bad (fun y => by rw [z] at y; exact absurd y.1 (by decide)), fun q1 => ?_⟩
    refine s_X8_inR (lo := 1) (hi := 999999) (by decide) (by decide) ⟨fun z => bad (fun y => by rw [z] at y; exact absurd y.2.1 (by decide)), fun q2 => ?_⟩
    refine s_X8_inN (n := 2) (by decide) ⟨fun q3 => ?_, fun z => bad (fun y => by rw [z] at y; exact absurd y.2.2 (by decide))⟩
    rw [if_pos (cDec_t.mpr ⟨q1, q2, q3⟩)] at h
    obtain ⟨n, -, hn, rfl⟩ := inR_n (a := 0) (b := 60) q1 (by omega)
    obtain ⟨x, -, hx, rfl⟩ := inR_n (a := 1) (b := 999999) q2 (by omega)
    rw [nI_cl (by omega), nI_cl (by omega)] at h
    refine s_X8_isFleet hM.2.1 hk.1 ⟨fun q4 => ?_, fun q4 => ?_⟩
    · have q4 := of_decide_eq_true q4
      rw [if_pos q4] at h
      refine s_X8_tries (by omega) hM.2.1 (fun I1 b1 b2 => ?_)
      rw [nI_l (by omega)]
      have ok := decs_ok (x0 := x) hk.1 q4 (by omega)
      refine upTo (Q := fun k => ∀ I2, MF' I2 320 (decs (sF σ) x k).2 → frT I I2 → Lp_X8_decades_57 g 40 (nI n) a2 (lN (decs (sF σ) x k).1) (nI k) I2 J P) (N := n) (fun I2 c1 c2 => ?_) (fun k hkn ih I2 c1 c2 => ?_) I1 b1.p b2
      · refine w_X8_decades_57 (by omega) ?_
        unfold VC_X8_decades_57
        refine ⟨fun _ => ⟨fun z => s_X8_creditAll (r := 320) (by omega) c1 ?_, fun z => s_X8_wormAll (r := 320) (by omega) c1 (ok n).2.1 ?_⟩, fun z => absurd (nI_le (Nat.le_refl _) (by omega)) z⟩
        · rw [if_neg z] at h; exact h I2 J (c2.M hM) c2.C
        · rw [if_pos z] at h; exact h I2 J (c2.M hM) c2.C
      · refine w_X8_decades_57 (by omega) ?_
        unfold VC_X8_decades_57
        have h6 := hk.1.1
        have hy : dnx (decs (sF σ) x k).1 < 2147483647 := Nat.mod_lt _ (by omega)
        have ok1 : ∀ I', MF' I' 320 (dstep (sF σ) (dnx (decs (sF σ) x k).1) (decs (sF σ) x k).2) → frT I I' → Lp_X8_decades_57 g 40 (nI n) a2 (lN (dnx (decs (sF σ) x k).1)) (nI (k + 1)) I' J P := ih
        obtain ⟨-, okG, smG⟩ := ok k
        rw [lDn' (ok k).1, nI_one]
        generalize dnx (decs (sF σ) x k).1 = y at hy ok1
        generalize (decs (sF σ) x k).2 = G at c1 ok1 okG smG
        have e0 := smG 0 (by omega)
        have e1 := smG 1 (by omega)
        have e2 := smG 2 (by omega)
        have hlt : y % sF σ 0 < sF σ 0 := Nat.mod_lt _ q4
        rw [c2.2 0 (by omega), hM.2.1.a0 0 (by omega), nI_l (by omega), show (16 : Int64) = lN 16 from rfl, show (256 : Int64) = lN 256 from rfl, show (4096 : Int64) = lN 4096 from rfl, show (4 : Int64) = lN 4 from rfl, show (3 : Int64) = lN 3 from rfl, show (7 : Int64) = lN 7 from rfl, lR (by omega) (by omega) (by omega) (by omega) (by omega), lR (by omega) (by omega) (by omega) (by omega) (by omega), lR (by omega) (by omega) (by omega) (by omega) (by omega), pk_lRem (by omega) q4 (by omega), lN_i, lN_i, lN_i, ix2 390 (y % sF σ 0) 390 rfl, nI_cl (by omega)]
        refine ⟨fun z => absurd ((nI_leI (by omega) (by omega)).mp z) (by omega), fun _ => ⟨fun z => absurd ((pk_lEQ (b := 0) (by omega) (by omega)).mp z) (by omega), ?_⟩⟩
        have hv : okV (sF σ) (shipOf G (y % sF σ 0)) := okV_cg (okG.ship (by omega)) e1.symm e2.symm
        have hS : MSea I2 320 (sF σ) := by
          have := c1.sea
          refine ⟨by rw [this.1, e1], by rw [this.2.1, e2], fun c hc => by rw [this.2.2 c hc, smG (3 + c) (by omega)]⟩
        refine s_X8_says (r := 320) (by omega) (by omega) (by omega) (Nat.mod_lt _ (by omega)) (Nat.mod_lt _ (by omega)) (c1.ship (by omega)) hS hk.1.W hv (fun I3 d1 d2 _ => ?_)
        unfold dstep at ok1
        have hh := okV_hear (t := y / 16 % 4) (w := y / 256 % 3) hv hk.1.W
        generalize hearV (sF σ) (shipOf G (y % sF σ 0)) (y / 16 % 4) (y / 256 % 3) = v at ok1 hh d1
        have hw := hh.2.2.2.2.2.1
        refine ⟨fun z => ?_, fun z => ?_⟩
        · have z : ¬ y / 4096 % 7 = 0 := fun w => z (by rw [w]; rfl)
          refine ok1 I3 (MF'_put (by omega) c1 ?_ d2) (c2.tr (d2.t (by omega)))
          unfold dwm; rw [if_neg z]; exact d1
        · have z : y / 4096 % 7 = 0 := (pk_lEQ (b := 0) (by omega) (by omega)).mp z
          have hp : vp_in (nI (390 + y % sF σ 0)) 952 := vp_in_nI (by omega) (by omega)
          rw [show I3 119 (390 + y % sF σ 0) = nI v.2.2.2.1 from by have := d1.2.2.2.1; rwa [show 320 + 70 + y % sF σ 0 = 390 + y % sF σ 0 from by omega] at this]
          refine ⟨hp, fun z2 => ?_, fun z2 => ⟨hp, hp, ?_⟩⟩
          · have z2 : v.2.2.2.1 ≤ 0 := (nI_leI (b := 0) (by omega) (by omega)).mp z2
            refine ok1 I3 (MF'_put (by omega) c1 ?_ d2) (c2.tr (d2.t (by omega)))
            unfold dwm; rw [if_pos z, show v.2.2.2.1 - 1 = v.2.2.2.1 from by omega]; exact d1
          · have z2 : ¬ v.2.2.2.1 ≤ 0 := fun w => z2 ((nI_leI (b := 0) (by omega) (by omega)).mpr w)
            rw [nI_mm (by omega)]
            have f2 : frS I2 (sI I3 119 (390 + y % sF σ 0) (nI (v.2.2.2.1 - 1))) 320 (y % sF σ 0) := d2.tr (frS.w (by omega))
            refine ok1 _ (MF'_put (by omega) c1 ?_ f2) (c2.tr (f2.t (by omega)))
            unfold dwm; rw [if_pos z]
            refine ⟨?_, ?_, ?_, ?_, fun t ht => ?_⟩
            · rw [sI_at, if_neg (by omega)]; exact d1.1
            · rw [sI_at, if_neg (by omega)]; exact d1.2.1
            · rw [sI_at, if_neg (by omega)]; exact d1.2.2.1
            · rw [sI_at, if_pos ⟨rfl, by omega⟩]
            · rw [sI_at, if_neg (by omega)]; exact d1.2.2.2.2 t ht
    · have q4 := of_decide_eq_false q4
      rw [if_neg q4] at h
      exact h I J hM smC.rf
