-- ===== say, drift =====
theorem RelC.act {I I1 I2 : IT} {J : JT} {σ : ST} {A : List (Nat × NF)} {F : NF} (h : RelC I J σ) (hA : RcA I1 A) (e1 : ∀ a, (a < 20 ∨ 71 < a) → I1 a = I a) (hF : FlC I2 3 F) (e2 : ∀ a, (a < 3 ∨ 10 < a) → a ≠ 96 → a ≠ 97 → I2 a = I1 a) : RelC I2 J (F, sG0 σ, sG1 σ, A, sT σ, sS σ, sX σ) := by
  obtain ⟨h1, h2, h3, h4, h5, h6⟩ := h
  have e : ∀ a, (a < 3 ∨ 10 < a) → (a < 20 ∨ 71 < a) → a ≠ 96 → a ≠ 97 → I2 a = I a := fun a p q r s => (e2 a p r s).trans (e1 a q)
  refine ⟨?_, hF, h3.cg (fun a _ _ => e a (by omega) (by omega) (by omega) (by omega)), h4.cg (fun a _ _ => e a (by omega) (by omega) (by omega) (by omega)), hA.cg (fun a _ _ => e2 a (by omega) (by omega) (by omega)), h6.cg (fun a _ _ => e a (by omega) (by omega) (by omega) (by omega)) (fun _ _ _ => rfl)⟩
  unfold RcT
  rw [e 1 (by omega) (by omega) (by omega) (by omega), e 2 (by omega) (by omega) (by omega) (by omega)]
  exact h1
theorem RelM.act {I I1 I2 : IT} {J : JT} {σ : ST} {A : List (Nat × NF)} {F : NF} (h : RelM I J σ) (hA : RmA I1 A) (e1 : ∀ a, a ≠ 118 → a ≠ 119 → I1 a = I a) (e2 : ∀ j, j < 400 → I1 119 j = I 119 j) (e3 : ∀ j, j ≠ 1 → I1 118 j = I 118 j) (hF : MF I2 0 F) (e4 : ∀ a, a ≠ 119 → I2 a = I1 a) (e5 : ∀ j, 80 ≤ j → I2 119 j = I1 119 j) : RelM I2 J (F, sG0 σ, sG1 σ, A, sT σ, sS σ, sX σ) := by
  obtain ⟨h1, h2, h3, h4, h5, h6⟩ := h
  refine ⟨⟨?_, fun j hj => ?_⟩, hF, fun j hj => ?_, fun j hj => ?_, ⟨?_, fun i s F hi j hj => ?_⟩, fun k hk => ?_⟩
  · rw [e4 118 (by omega), e3 3 (by omega)]; exact h1.1
  · rw [e4 120 (by omega), e1 120 (by omega) (by omega)]; exact h1.2 j hj
  · rw [e5 _ (by omega), e2 _ (by omega)]; exact h3 j hj
  · rw [e5 _ (by omega), e2 _ (by omega)]; exact h4 j hj
  · rw [e4 118 (by omega)]; exact hA.1
  · rw [e5 _ (by omega)]; exact hA.2 i s F hi j hj
  · rw [e4 122 (by omega), e4 123 (by omega), e1 122 (by omega) (by omega), e1 123 (by omega) (by omega)]; exact h6 k hk
/-- the region 0 behind an act of the ship s -/
theorem MF_act {I1 I2 : IT} {F : NF} {s : Nat} {v : Vy} (hF : okF F) (hs : s < F 0) (h : MF I1 0 F) (hV : MV I2 0 s v) (hf : frS I1 I2 0 s) (ht : I2 119 (0 + 57) = I1 119 (0 + 57) + 1) : MF I2 0 (tick (putS F s v)) := by
  have h6 := hF.1
  intro j hj
  by_cases q : j = 57
  · subst q; rw [ht, h 57 (by omega), tick_57, putS_lo (by omega), nI_one]
  · rw [tick_ne q]
    unfold putS
    by_cases q1 : j = 58 + s
    · subst q1; rw [if_pos rfl, show 0 + (58 + s) = 0 + 58 + s from by omega]; exact hV.2.1
    · rw [if_neg q1]
      by_cases q2 : j = 64 + s
      · subst q2; rw [if_pos rfl, show 0 + (64 + s) = 0 + 64 + s from by omega]; exact hV.2.2.1
      · rw [if_neg q2]
        by_cases q3 : j = 70 + s
        · subst q3; rw [if_pos rfl, show 0 + (70 + s) = 0 + 70 + s from by omega]; exact hV.2.2.2.1
        · rw [if_neg q3]
          by_cases q4 : 76 ≤ j ∧ j < 80
          · rw [if_pos q4, show 0 + j = 0 + 76 + (j - 76) from by omega]; exact hV.2.2.2.2 (j - 76) (by omega)
          · rw [if_neg q4, hf.2 (0 + j) (by omega) (by omega) (by omega) (by omega) (by omega)]; exact h j hj
theorem hear_k {F : NF} {v : Vy} {t w : Nat} : (hearV F v t w).1 = v.1 := by
  unfold hearV
  split
  · unfold setl goV lookV; split <;> rfl
  · unfold goV; split <;> rfl
theorem go_k {F : NF} {v : Vy} : (goV F v).2.1 = v.1 := by unfold goV; split <;> rfl
theorem shipOf_k {F : NF} {s : Nat} : (shipOf F s).1 = F (51 + s) := rfl
section SAYP
variable {g : GT} {d : Nat} {I : IT} {J : JT}
theorem s_X7_isWord {v : Int32} {P : Bool → IT → JT → Prop} (h : P (inN v 3) I J) : SemZ g d M_X7_isWord [.long v.toInt64] I J P := by
  refine w_X7_isWord ?_
  unfold VC_X7_isWord
  have h0 : (0 : Int64).toInt = 0 := by decide
  have h3 : (3 : Int64).toInt = 3 := by decide
  unfold inN at h
  refine ⟨fun q => ?_, fun q => ⟨fun q2 => ?_, fun q2 => ?_⟩⟩
  · rw [Int64.lt_iff_toInt_lt, Int32.toInt_toInt64, h0] at q; rw [decide_eq_false (by omega)] at h; exact h
  · rw [Int64.lt_iff_toInt_lt, Int32.toInt_toInt64, h3] at q2; rw [decide_eq_false (by omega)] at h; exact h
  · rw [Int64.lt_iff_toInt_lt, Int32.toInt_toInt64, h0] at q; rw [Int64.lt_iff_toInt_lt, Int32.toInt_toInt64, h3] at q2; rw [decide_eq_true (by omega)] at h; exact h
theorem s_X8_isWord {v : Int32} {P : Bool → IT → JT → Prop} (hd : 1 ≤ d) (h : P (inN v 3) I J) : SemZ g d M_X8_isWord [.long v.toInt64] I J P := w_X8_isWord hd (s_X8_inN (n := 3) (by decide) h)
theorem s_X7_setOut {s : Nat} {F : NF} {A : List (Nat × NF)} {P : Nat → IT → JT → Prop} (hd : 3 ≤ d) (hA : RcA I A) (hl : A.length ≤ 24) (hC : FlC I 3 F) (hF : okF F) (hs : s < F 0) (h : ∀ I1 I2, RcA I1 (psh A s F) → (∀ a, (a < 20 ∨ 71 < a) → I1 a = I a) → CV I2 96 (shipOf F s) → (∀ a, a ≠ 96 → a ≠ 97 → I2 a = I1 a) → P 96 I2 J) : SemR g d M_X7_setOut [.ref (ga g 0), .int (nI s)] I J P := by
  refine w_X7_setOut (by omega) ?_
  unfold VC_X7_setOut
  refine s_X0_keep (by omega) hA hl hC hF hs (fun I1 a1 a2 => ?_)
  exact s_X6_board (by omega) isV_96 isF_3 (by omega) (hC.cg (fun a _ _ => a2 a (by omega))) hF hs (fun I2 b1 b2 => h I1 I2 a1 a2 b1 b2)
end SAYP
def vAct (s : Int32) (c : Bool) (r : Nat) (σ : ST) : Int32 := if inN s (sF σ 0) = true ∧ c = true then (if sF σ 57 < 9999 then nI r else -3) else -1
def tAct (s : Int32) (c : Bool) (v : Vy) (σ : ST) : ST := if (inN s (sF σ 0) = true ∧ c = true) ∧ sF σ 57 < 9999 then (tick (putS (sF σ) s.toNatClampNeg v), sG0 σ, sG1 σ, psh (sA σ) s.toNatClampNeg (sF σ), sT σ, sS σ, sX σ) else σ
def hV (s t w : Int32) (σ : ST) : Vy := hearV (sF σ) (shipOf (sF σ) s.toNatClampNeg) t.toNatClampNeg w.toNatClampNeg
theorem tAct_ok {s : Int32} {c : Bool} {v : Vy} {σ : ST} (hk : okT σ) (hv : inN s (sF σ 0) = true → c = true → okV (sF σ) v) : okT (tAct s c v σ) := by
  unfold tAct
  split
  · rename_i q
    have h6 := hk.1.1
    obtain ⟨n, hn, rfl⟩ := inN_n q.1.1 (by omega)
    rw [nI_cl (by omega)]
    exact psh_ok hk (okF_tick (okF_put hk.1 hn (hv q.1.1 q.1.2)) (by rw [putS_lo (by omega)]; omega) (by rw [putS_lo (by omega)]; exact q.2)) (actR_put hn)
  · exact hk
theorem e_say {g : GT} (a0 a1 a2 : Int32) : EQI g Rel M_X7_say M_X8_say [.int a0, .int a1, .int a2] := by
  refine eqI_of (fun σ => vAct a0 (inN a1 4 && inN a2 3) (hV a0 a1 a2 σ).2.1 σ) (fun σ => tAct a0 (inN a1 4 && inN a2 3) (hV a0 a1 a2 σ) σ) (fun σ I J P hk hC h => ?_) (fun σ I J P hk hM h => ?_) (fun σ hk => ?_)
  · refine w_X7_say (by omega) ?_
    unfold VC_X7_say
    unfold vAct tAct at h
    have bad : ¬ (inN a0 (sF σ 0) = true ∧ (inN a1 4 && inN a2 3) = true) → P (-1) I J := fun z => by
      rw [if_neg (fun y => z y.1), if_neg z] at h; exact h I J hC smM.rf
    refine s_X2_hasShip isF_3 hC.2.1 hk.1 ⟨fun q => bad (fun z => by rw [q] at z; exact absurd z.1 (by decide)), fun q => ?_⟩
    refine s_X7_isTeller ⟨fun q2 => bad (fun z => by rw [q2] at z; exact Bool.false_ne_true z.2), fun q2 => ?_⟩
    refine s_X7_isWord ⟨fun q3 => ?_, fun q3 => bad (fun z => by rw [q3, q2] at z; exact absurd z.2 (by decide))⟩
    have hc : inN a0 (sF σ 0) = true ∧ (inN a1 4 && inN a2 3) = true := ⟨q, by rw [q2, q3]; rfl⟩
    have h6 := hk.1.1
    have h57 := hk.1.2.2.2.1
    unfold hV at h
    obtain ⟨s, hs, rfl⟩ := inN_n q (by omega)
    obtain ⟨t, ht, rfl⟩ := inN_n q2 (by omega)
    obtain ⟨w, hw, rfl⟩ := inN_n q3 (by omega)
    rw [nI_cl (by omega), nI_cl (by omega), nI_cl (by omega)] at h
    rw [hC.2.1.2.2.2.2.2.2]
    refine ⟨fun q4 => ?_, fun q4 => ?_⟩
    · have q4 : sF σ 57 < 9999 := (nI_ltI (b := 9999) (by omega) (by omega)).mp q4
      rw [if_pos ⟨hc, q4⟩, if_pos hc, if_pos q4] at h
      refine s_X7_setOut (by omega) hC.2.2.2.2.1 hk.2.2.2.1 hC.2.1 hk.1 hs (fun I1 I2 b1 b2 b3 b4 => ⟨isV_96, ?_⟩)
      have hv := hk.1.ship hs
      have e3 : ∀ a, a < 20 → I2 a = I a := fun a ha => by rw [b4 a (by omega) (by omega), b2 a (by omega)]
      refine s_X6_hear (by omega) isV_96 (by omega) b3 (hC.2.1.sea.cg (e3 4 (by omega)) (e3 5 (by omega))) hk.1.W hv ht hw (fun I3 c1 c2 => ?_)
      have e4 : ∀ a, a < 20 → I3 a = I a := fun a ha => by rw [c2 a (by omega) (by omega), e3 a ha]
      refine s_X7_arrive (by omega) (hC.2.1.cg (fun a _ _ => e4 a (by omega))) hk.1 hs c1 (by rw [hear_k]; rfl) (fun I4 d1 d2 => ?_)
      refine h I4 J (hC.act b1 b2 d1 (fun a z1 z2 z3 => by rw [d2 a z1, c2 a z2 z3, b4 a z2 z3])) ⟨fun a ha => by rw [d2 a (by omega), c2 a (by omega) (by omega), b4 a (by omega) (by omega), b2 a (by omega)], fun _ _ => rfl⟩
    · have q4 : ¬ sF σ 57 < 9999 := fun z => q4 (nI_lt (b := 9999) z (by omega))
      rw [if_neg (fun z => q4 z.2), if_pos hc, if_neg q4] at h
      exact h I J hC smM.rf
  · refine w_X8_say (by omega) ?_
    unfold VC_X8_say
    unfold vAct tAct at h
    have bad : ¬ (inN a0 (sF σ 0) = true ∧ (inN a1 4 && inN a2 3) = true) → P (-1) I J := fun z => by
      rw [if_neg (fun y => z y.1), if_neg z] at h; exact h I J hM smC.rf
    refine s_X8_isShip (by omega) hM.2.1 hk.1 ⟨fun q => bad (fun z => by rw [q] at z; exact absurd z.1 (by decide)), fun q => ?_⟩
    refine s_X8_isTeller (by omega) ⟨fun q2 => bad (fun z => by rw [q2] at z; exact Bool.false_ne_true z.2), fun q2 => ?_⟩
    refine s_X8_isWord (by omega) ⟨fun q3 => ?_, fun q3 => bad (fun z => by rw [q3, q2] at z; exact absurd z.2 (by decide))⟩
    have hc : inN a0 (sF σ 0) = true ∧ (inN a1 4 && inN a2 3) = true := ⟨q, by rw [q2, q3]; rfl⟩
    have h6 := hk.1.1
    have h57 := hk.1.2.2.2.1
    unfold hV at h
    obtain ⟨s, hs, rfl⟩ := inN_n q (by omega)
    obtain ⟨t, ht, rfl⟩ := inN_n q2 (by omega)
    obtain ⟨w, hw, rfl⟩ := inN_n q3 (by omega)
    rw [nI_cl (by omega), nI_cl (by omega), nI_cl (by omega)] at h
    rw [hM.2.1.a0 57 (by omega)]
    refine ⟨fun q4 => ?_, fun q4 => ?_⟩
    · have q4 : sF σ 57 < 9999 := by
        rcases Nat.lt_or_ge (sF σ 57) 9999 with z | z
        · exact z
        · exact absurd (by rw [show sF σ 57 = 9999 from by omega]; rfl) q4
      rw [if_pos ⟨hc, q4⟩, if_pos hc, if_pos q4] at h
      refine s_X8_minds (s := s) (by omega) hM.2.2.2.2.1 hk.2.2.2.1 hM.2.1 (fun I1 b1 b2 b3 b4 => ?_)
      have hF1 : MF I1 0 (sF σ) := fun j hj => by rw [b3 _ (by omega)]; exact hM.2.1 j hj
      refine s_X8_says (r := 0) (by omega) (by omega) (by omega) ht hw (hF1.ship (by omega)) hF1.sea hk.1.W (hk.1.ship hs) (fun I2 c1 c2 c3 => ?_)
      rw [ix2 58 s 58 rfl, nI_cl (by omega)]
      refine ⟨vp_in_nI (by omega) (by omega), ?_⟩
      rw [show I2 119 (58 + s) = nI (hearV (sF σ) (shipOf (sF σ) s) t w).2.1 from by have := c1.2.1; rwa [Nat.zero_add] at this]
      refine h I2 J (hM.act b1 b2 b3 b4 (MF_act hk.1 hs hF1 c1 c2 c3) c2.1 (fun j hj => c2.2 j (by omega) (by omega) (by omega) (by omega) (by omega))) ⟨fun a ha => by rw [c2.1 a (by omega), b2 a (by omega) (by omega)], fun _ _ => rfl⟩
    · have q4 : ¬ sF σ 57 < 9999 := fun z => by
        have := (nI_eq (b := 9999) (by omega) (by omega)).mp q4
        omega
      rw [if_neg (fun z => q4 z.2), if_pos hc, if_neg q4] at h
      exact h I J hM smC.rf
  · refine tAct_ok hk (fun q q2 => ?_)
    have h6 := hk.1.1
    obtain ⟨s, hs, rfl⟩ := inN_n q (by omega)
    unfold hV
    rw [nI_cl (by omega)]
    exact okV_hear (hk.1.ship hs) hk.1.W
