-- ===== drift, scrape, learn =====
def dV (s : Int32) (σ : ST) : Vy := (goV (sF σ) (shipOf (sF σ) s.toNatClampNeg)).2
theorem e_drift {g : GT} (a0 : Int32) : EQI g Rel M_X7_drift M_X8_drift [.int a0] := by
  refine eqI_of (fun σ => vAct a0 true (dV a0 σ).2.1 σ) (fun σ => tAct a0 true (dV a0 σ) σ) (fun σ I J P hk hC h => ?_) (fun σ I J P hk hM h => ?_) (fun σ hk => ?_)
  · refine w_X7_drift (by omega) ?_
    unfold VC_X7_drift
    unfold vAct tAct at h
    refine s_X2_hasShip isF_3 hC.2.1 hk.1 ⟨fun q => ?_, fun q => ?_⟩
    · have hc : inN a0 (sF σ 0) = true ∧ true = true := ⟨q, rfl⟩
      have h6 := hk.1.1
      have h57 := hk.1.2.2.2.1
      unfold dV at h
      obtain ⟨s, hs, rfl⟩ := inN_n q (by omega)
      rw [nI_cl (by omega)] at h
      rw [hC.2.1.2.2.2.2.2.2]
      refine ⟨fun q4 => ?_, fun q4 => ?_⟩
      · have q4 : sF σ 57 < 9999 := (nI_ltI (b := 9999) (by omega) (by omega)).mp q4
        rw [if_pos ⟨hc, q4⟩, if_pos hc, if_pos q4] at h
        refine s_X7_setOut (by omega) hC.2.2.2.2.1 hk.2.2.2.1 hC.2.1 hk.1 hs (fun I1 I2 b1 b2 b3 b4 => ⟨isV_96, ?_⟩)
        have hv := hk.1.ship hs
        have e3 : ∀ a, a < 20 → I2 a = I a := fun a ha => by rw [b4 a (by omega) (by omega), b2 a (by omega)]
        refine s_X6_goOn (by omega) isV_96 b3 (hC.2.1.sea.cg (e3 4 (by omega)) (e3 5 (by omega))) hk.1.W hv (fun I3 c1 c2 => ?_)
        have e4 : ∀ a, a < 20 → I3 a = I a := fun a ha => by rw [c2 a (by omega) (by omega), e3 a ha]
        refine s_X7_arrive (by omega) (hC.2.1.cg (fun a _ _ => e4 a (by omega))) hk.1 hs c1 (by rw [go_k]; rfl) (fun I4 d1 d2 => ?_)
        refine h I4 J (hC.act b1 b2 d1 (fun a z1 z2 z3 => by rw [d2 a z1, c2 a z2 z3, b4 a z2 z3])) ⟨fun a ha => by rw [d2 a (by omega), c2 a (by omega) (by omega), b4 a (by omega) (by omega), b2 a (by omega)], fun _ _ => rfl⟩
      · have q4 : ¬ sF σ 57 < 9999 := fun z => q4 (nI_lt (b := 9999) z (by omega))
        rw [if_neg (fun z => q4 z.2), if_pos hc, if_neg q4] at h
        exact h I J hC smM.rf
    · rw [if_neg (fun z => by rw [q] at z; exact absurd z.1.1 (by decide)), if_neg (fun z => by rw [q] at z; exact absurd z.1 (by decide))] at h
      exact h I J hC smM.rf
  · refine w_X8_drift (by omega) ?_
    unfold VC_X8_drift
    unfold vAct tAct at h
    refine s_X8_isShip (by omega) hM.2.1 hk.1 ⟨fun q => ?_, fun q => ?_⟩
    · have hc : inN a0 (sF σ 0) = true ∧ true = true := ⟨q, rfl⟩
      have h6 := hk.1.1
      have h57 := hk.1.2.2.2.1
      unfold dV at h
      obtain ⟨s, hs, rfl⟩ := inN_n q (by omega)
      rw [nI_cl (by omega)] at h
      rw [hM.2.1.a0 57 (by omega)]
      refine ⟨fun q4 => ?_, fun q4 => ?_⟩
      · have q4 : sF σ 57 < 9999 := by
          rcases Nat.lt_or_ge (sF σ 57) 9999 with z | z
          · exact z
          · exact absurd (by rw [show sF σ 57 = 9999 from by omega]; rfl) q4
        rw [if_pos ⟨hc, q4⟩, if_pos hc, if_pos q4] at h
        refine s_X8_minds (s := s) (by omega) hM.2.2.2.2.1 hk.2.2.2.1 hM.2.1 (fun I1 b1 b2 b3 b4 => ?_)
        have hF1 : MF I1 0 (sF σ) := fun j hj => by rw [b3 _ (by omega)]; exact hM.2.1 j hj
        refine s_X8_goes (r := 0) (by omega) (by omega) (by omega) (hF1.ship (by omega)) hF1.sea hk.1.W (hk.1.ship hs) (fun I2 c1 c2 c3 => ?_)
        rw [ix2 58 s 58 rfl, nI_cl (by omega)]
        refine ⟨vp_in_nI (by omega) (by omega), ?_⟩
        rw [show I2 119 (58 + s) = nI (goV (sF σ) (shipOf (sF σ) s)).2.2.1 from by have := c1.2.1; rwa [Nat.zero_add] at this]
        refine h I2 J (hM.act b1 b2 b3 b4 (MF_act hk.1 hs hF1 c1 c2 c3) c2.1 (fun j hj => c2.2 j (by omega) (by omega) (by omega) (by omega) (by omega))) ⟨fun a ha => by rw [c2.1 a (by omega), b2 a (by omega) (by omega)], fun _ _ => rfl⟩
      · have q4 : ¬ sF σ 57 < 9999 := fun z => by
          have := (nI_eq (b := 9999) (by omega) (by omega)).mp q4
          omega
        rw [if_neg (fun z => q4 z.2), if_pos hc, if_neg q4] at h
        exact h I J hM smC.rf
    · rw [if_neg (fun z => by rw [q] at z; exact absurd z.1.1 (by decide)), if_neg (fun z => by rw [q] at z; exact absurd z.1 (by decide))] at h
      exact h I J hM smC.rf
  · refine tAct_ok hk (fun q _ => ?_)
    have h6 := hk.1.1
    obtain ⟨s, hs, rfl⟩ := inN_n q (by omega)
    unfold dV
    rw [nI_cl (by omega)]
    exact okV_go (hk.1.ship hs) hk.1.W
/-- one place of the fleet is another -/
def up1 (F : NF) (k x : Nat) : NF := fun j => if j = k then x else F j
theorem up1_ne {F : NF} {k x j : Nat} (h : j ≠ k) : up1 F k x j = F j := by unfold up1; rw [if_neg h]
theorem up1_eq {F : NF} {k x : Nat} : up1 F k x k = x := by unfold up1; rw [if_pos rfl]
theorem up1_at {F : NF} {k x j : Nat} : up1 F k x j = if j = k then x else F j := rfl
theorem MF_up1 {I1 : IT} {F : NF} {k x : Nat} (h : MF I1 0 F) : MF (sI I1 119 k (nI x)) 0 (up1 F k x) := by
  intro j hj
  rw [sI_at, up1_at, Nat.zero_add]
  by_cases q : j = k
  · rw [if_pos ⟨rfl, q⟩, if_pos q]
  · rw [if_neg (fun z => q z.2), if_neg q]; exact h.a0 j hj
theorem okF_w {F : NF} {s x : Nat} (hF : okF F) (hs : s < F 0) (hx : x ≤ 5) : okF (up1 F (70 + s) x) := by
  have h6 := hF.1
  obtain ⟨a, b, c, e, f, k, l, m⟩ := hF
  refine ⟨?_, ?_, ?_, ?_, fun t ht => ?_, fun u hu => ?_, fun c hc => ?_, fun z => ?_⟩
  · rw [up1_ne (by omega)]; exact a
  · rw [up1_ne (by omega)]; exact b
  · rw [up1_ne (by omega)]; exact c
  · rw [up1_ne (by omega)]; exact e
  · rw [up1_ne (by omega)]; exact f t ht
  · rw [up1_ne (by omega)] at hu
    obtain ⟨k1, k2, k3, k4, k5, k6⟩ := k u hu
    unfold okS
    rw [up1_ne (j := 51 + u) (by omega), up1_ne (j := 58 + u) (by omega), up1_ne (j := 64 + u) (by omega), up1_ne (j := 1) (by omega), up1_ne (j := 2) (by omega), up1_at]
    refine ⟨k1, k2, k3, k4, k5, ?_⟩
    split
    · exact hx
    · exact k6
  · rw [up1_ne (by omega)]; exact l c hc
  · rw [up1_ne (by omega)] at z; omega
theorem okF_c {F : NF} {t x : Nat} (hF : okF F) (h0 : 0 < F 0) (ht : t < 4) (hx : x ≤ 9) : okF (up1 F (76 + t) x) := by
  have h6 := hF.1
  obtain ⟨a, b, c, e, f, k, l, m⟩ := hF
  refine ⟨?_, ?_, ?_, ?_, fun u hu => ?_, fun u hu => ?_, fun c hc => ?_, fun z => ?_⟩
  · rw [up1_ne (by omega)]; exact a
  · rw [up1_ne (by omega)]; exact b
  · rw [up1_ne (by omega)]; exact c
  · rw [up1_ne (by omega)]; exact e
  · rw [up1_at]
    split
    · exact hx
    · exact f u hu
  · rw [up1_ne (by omega)] at hu
    have := k u hu
    unfold okS at this ⊢
    rw [up1_ne (j := 51 + u) (by omega), up1_ne (j := 58 + u) (by omega), up1_ne (j := 64 + u) (by omega), up1_ne (j := 70 + u) (by omega), up1_ne (j := 1) (by omega), up1_ne (j := 2) (by omega)]
    exact this
  · rw [up1_ne (by omega)]; exact l c hc
  · rw [up1_ne (by omega)] at z; omega
theorem FlC_w {I : IT} {F : NF} {s x : Nat} (hF : okF F) (hs : s < F 0) (h : FlC I 3 F) : FlC (sI I 9 s (nI x)) 3 (up1 F (70 + s) x) := by
  have h6 := hF.1
  have hW := hF.W.1
  obtain ⟨b1, b2, b3, b4, b5, b6, b7⟩ := h
  refine ⟨?_, ?_, ?_, fun c h1 h2 => ?_, fun u hu => ?_, fun t ht => ?_, ?_⟩
  · rw [up1_ne (by omega), sI_ne (by omega)]; exact b1
  · rw [up1_ne (by omega), sI_ne (by omega)]; exact b2
  · rw [up1_ne (by omega), sI_ne (by omega)]; exact b3
  · rw [up1_ne (by omega)] at h1 h2
    rw [up1_ne (by omega), sI_ne (by omega)]; exact b4 c h1 h2
  · rw [up1_ne (by omega)] at hu
    obtain ⟨k1, k2, k3, k4⟩ := b5 u hu
    rw [up1_ne (j := 51 + u) (by omega), up1_ne (j := 58 + u) (by omega), up1_ne (j := 64 + u) (by omega), up1_at, sI_ne (by omega), sI_ne (by omega), sI_ne (by omega), sI_at]
    refine ⟨k1, k2, k3, ?_⟩
    by_cases q : u = s
    · rw [if_pos ⟨rfl, q⟩, if_pos (by omega)]
    · rw [if_neg (by omega), if_neg (by omega)]; exact k4
  · rw [up1_ne (by omega), sI_ne (by omega)]; exact b6 t ht
  · rw [up1_ne (by omega), sI_ne (by omega)]; exact b7
theorem FlC_c {I : IT} {F : NF} {t x : Nat} (hF : okF F) (ht : t < 4) (h : FlC I 3 F) : FlC (sI I 10 t (nI x)) 3 (up1 F (76 + t) x) := by
  have h6 := hF.1
  have hW := hF.W.1
  obtain ⟨b1, b2, b3, b4, b5, b6, b7⟩ := h
  refine ⟨?_, ?_, ?_, fun c h1 h2 => ?_, fun u hu => ?_, fun u hu => ?_, ?_⟩
  · rw [up1_ne (by omega), sI_ne (by omega)]; exact b1
  · rw [up1_ne (by omega), sI_ne (by omega)]; exact b2
  · rw [up1_ne (by omega), sI_ne (by omega)]; exact b3
  · rw [up1_ne (by omega)] at h1 h2
    rw [up1_ne (by omega), sI_ne (by omega)]; exact b4 c h1 h2
  · rw [up1_ne (by omega)] at hu
    rw [up1_ne (j := 51 + u) (by omega), up1_ne (j := 58 + u) (by omega), up1_ne (j := 64 + u) (by omega), up1_ne (j := 70 + u) (by omega), sI_ne (by omega), sI_ne (by omega), sI_ne (by omega), sI_ne (by omega)]
    exact b5 u hu
  · rw [up1_at, sI_at]
    by_cases q : u = t
    · rw [if_pos ⟨rfl, q⟩, if_pos (by omega)]
    · rw [if_neg (by omega), if_neg (by omega)]; exact b6 u hu
  · rw [up1_ne (by omega), sI_ne (by omega)]; exact b7
theorem nI_mm {n : Nat} (h : 0 < n) : nI n - 1 = nI (n - 1) := by rw [show (1 : Int32) = nI 1 from rfl, pk_sub (by omega)]
def vScr (v : Int32) (σ : ST) : Int32 := if inN v (sF σ 0) then (if 0 < sF σ (70 + v.toNatClampNeg) then nI (sF σ (70 + v.toNatClampNeg) - 1) else -2) else -1
def tScr (v : Int32) (σ : ST) : ST := if inN v (sF σ 0) = true ∧ 0 < sF σ (70 + v.toNatClampNeg) then (up1 (sF σ) (70 + v.toNatClampNeg) (sF σ (70 + v.toNatClampNeg) - 1), sG0 σ, sG1 σ, psh (sA σ) v.toNatClampNeg (sF σ), sT σ, sS σ, sX σ) else σ
theorem e_scrape {g : GT} (a0 : Int32) : EQI g Rel M_X7_scrape M_X8_scrape [.int a0] := by
  refine eqI_of (vScr a0) (tScr a0) (fun σ I J P hk hC h => ?_) (fun σ I J P hk hM h => ?_) (fun σ hk => ?_)
  · refine w_X7_scrape (by omega) ?_
    unfold VC_X7_scrape
    unfold vScr tScr at h
    refine s_X2_hasShip isF_3 hC.2.1 hk.1 ⟨fun q => ?_, fun q => ?_⟩
    · have h6 := hk.1.1
      obtain ⟨s, hs, rfl⟩ := inN_n q (by omega)
      have hks := hk.1.2.2.2.2.2.1 s hs
      have hw := hks.2.2.2.2.2
      have hv : vp_in (nI s) 6 := vp_in_nI (by omega) (by omega)
      rw [nI_cl (by omega)] at h ⊢
      rw [(hC.2.1.2.2.2.2.1 s hs).2.2.2]
      refine ⟨hv, fun q2 => ?_, fun q2 => ?_⟩
      · have q2 : 0 < sF σ (70 + s) := (nI_ltI (a := 0) (by omega) (by omega)).mp q2
        rw [if_pos ⟨q, q2⟩, if_pos q, if_pos q2] at h
        refine s_X0_keep (by omega) hC.2.2.2.2.1 hk.2.2.2.1 hC.2.1 hk.1 hs (fun I1 b1 b2 => ?_)
        rw [b2 9 (by omega), (hC.2.1.2.2.2.2.1 s hs).2.2.2, nI_mm q2, sI_at, if_pos ⟨rfl, rfl⟩]
        refine ⟨hv, hv, hv, h _ J (hC.act b1 b2 (FlC_w hk.1 hs (hC.2.1.cg (fun a _ _ => b2 a (by omega)))) (fun a _ _ _ => sI_ne (by omega))) ⟨fun a ha => by rw [sI_ne (by omega), b2 a (by omega)], fun _ _ => rfl⟩⟩
      · have q2 : ¬ 0 < sF σ (70 + s) := fun z => q2 ((nI_ltI (a := 0) (by omega) (by omega)).mpr z)
        rw [if_neg (fun z => q2 z.2), if_pos q, if_neg q2] at h
        exact h I J hC smM.rf
    · rw [if_neg (fun z => by rw [q] at z; exact absurd z.1 (by decide)), if_neg (by rw [q]; decide)] at h
      exact h I J hC smM.rf
  · refine w_X8_scrape (by omega) ?_
    unfold VC_X8_scrape
    unfold vScr tScr at h
    refine s_X8_isShip (by omega) hM.2.1 hk.1 ⟨fun q => ?_, fun q => ?_⟩
    · have h6 := hk.1.1
      obtain ⟨s, hs, rfl⟩ := inN_n q (by omega)
      have hks := hk.1.2.2.2.2.2.1 s hs
      have hw := hks.2.2.2.2.2
      have hv : vp_in (nI (70 + s)) 952 := vp_in_nI (by omega) (by omega)
      rw [nI_cl (by omega)] at h
      rw [ix2 70 s 70 rfl, nI_cl (by omega), hM.2.1.a0 (70 + s) (by omega)]
      refine ⟨hv, fun q2 => ?_, fun q2 => ?_⟩
      · have q2 : 0 < sF σ (70 + s) := Nat.pos_of_ne_zero (fun z => q2 (by rw [z]; rfl))
        rw [if_pos ⟨q, q2⟩, if_pos q, if_pos q2] at h
        refine s_X8_minds (s := s) (by omega) hM.2.2.2.2.1 hk.2.2.2.1 hM.2.1 (fun I1 b1 b2 b3 b4 => ?_)
        have hF1 : MF I1 0 (sF σ) := fun j hj => by rw [b3 _ (by omega)]; exact hM.2.1 j hj
        rw [hF1.a0 (70 + s) (by omega), nI_mm q2, sI_at, if_pos ⟨rfl, rfl⟩]
        refine ⟨hv, hv, hv, h _ J (hM.act b1 b2 b3 b4 (MF_up1 hF1) (fun a ha => sI_ne ha) (fun j hj => by rw [sI_at, if_neg (by omega)])) ⟨fun a ha => by rw [sI_ne (by omega), b2 a (by omega) (by omega)], fun _ _ => rfl⟩⟩
      · have q2 : sF σ (70 + s) = 0 := (nI_eq (b := 0) (by omega) (by omega)).mp q2
        rw [if_neg (by omega), if_pos q, if_neg (by omega)] at h
        exact h I J hM smC.rf
    · rw [if_neg (fun z => by rw [q] at z; exact absurd z.1 (by decide)), if_neg (by rw [q]; decide)] at h
      exact h I J hM smC.rf
  · unfold tScr
    split
    · rename_i q
      have h6 := hk.1.1
      obtain ⟨s, hs, rfl⟩ := inN_n q.1 (by omega)
      rw [nI_cl (by omega)]
      have hw := (hk.1.2.2.2.2.2.1 s hs).2.2.2.2.2
      exact psh_ok hk (okF_w hk.1 hs (by omega)) ⟨hs, fun j _ _ _ _ h4 _ => up1_ne h4⟩
    · exact hk
def vLrn (v : Int32) (σ : ST) : Int32 := if 0 < sF σ 0 ∧ inN v 4 = true then (if sF σ (76 + v.toNatClampNeg) < 9 then nI (sF σ (76 + v.toNatClampNeg) + 1) else -2) else -1
def tLrn (v : Int32) (σ : ST) : ST := if (0 < sF σ 0 ∧ inN v 4 = true) ∧ sF σ (76 + v.toNatClampNeg) < 9 then (up1 (sF σ) (76 + v.toNatClampNeg) (sF σ (76 + v.toNatClampNeg) + 1), sG0 σ, sG1 σ, psh (sA σ) 0 (sF σ), sT σ, sS σ, sX σ) else σ
theorem e_learn {g : GT} (a0 : Int32) : EQI g Rel M_X7_learn M_X8_learn [.int a0] := by
  refine eqI_of (vLrn a0) (tLrn a0) (fun σ I J P hk hC h => ?_) (fun σ I J P hk hM h => ?_) (fun σ hk => ?_)
  · refine w_X7_learn (by omega) ?_
    unfold VC_X7_learn
    unfold vLrn tLrn at h
    have bad : ¬ (0 < sF σ 0 ∧ inN a0 4 = true) → P (-1) I J := fun z => by
      rw [if_neg (fun y => z y.1), if_neg z] at h; exact h I J hC smM.rf
    refine s_X2_stands isF_3 hC.2.1 hk.1 ⟨fun q => bad (fun z => of_decide_eq_false q z.1), fun q => ?_⟩
    have q := of_decide_eq_true q
    refine s_X7_isTeller ⟨fun q2 => ?_, fun q2 => bad (fun z => by rw [q2] at z; exact absurd z.2 (by decide))⟩
    have hc : 0 < sF σ 0 ∧ inN a0 4 = true := ⟨q, q2⟩
    obtain ⟨t, ht, rfl⟩ := inN_n q2 (by omega)
    have hv : vp_in (nI t) 4 := vp_in_nI (by omega) (by omega)
    have h9 := hk.1.2.2.2.2.1 t ht
    rw [nI_cl (by omega)] at h ⊢
    have e10 : I 10 t = nI (sF σ (76 + t)) := hC.2.1.2.2.2.2.2.1 t ht
    rw [e10]
    refine ⟨hv, fun q3 => ?_, fun q3 => ?_⟩
    · have q3 : sF σ (76 + t) < 9 := (nI_ltI (b := 9) (by omega) (by omega)).mp q3
      rw [if_pos ⟨hc, q3⟩, if_pos hc, if_pos q3] at h
      refine s_X0_keep (s := 0) (by omega) hC.2.2.2.2.1 hk.2.2.2.1 hC.2.1 hk.1 q (fun I1 b1 b2 => ?_)
      rw [b2 10 (by omega), e10, nI_one, sI_at, if_pos ⟨rfl, rfl⟩]
      refine ⟨hv, hv, hv, h _ J (hC.act b1 b2 (FlC_c hk.1 ht (hC.2.1.cg (fun a _ _ => b2 a (by omega)))) (fun a _ _ _ => sI_ne (by omega))) ⟨fun a ha => by rw [sI_ne (by omega), b2 a (by omega)], fun _ _ => rfl⟩⟩
    · have q3 : ¬ sF σ (76 + t) < 9 := fun z => q3 (nI_lt (b := 9) z (by omega))
      rw [if_neg (fun z => q3 z.2), if_pos hc, if_neg q3] at h
      exact h I J hC smM.rf
  · refine w_X8_learn (by omega) ?_
    unfold VC_X8_learn
    unfold vLrn tLrn at h
    have bad : ¬ (0 < sF σ 0 ∧ inN a0 4 = true) → P (-1) I J := fun z => by
      rw [if_neg (fun y => z y.1), if_neg z] at h; exact h I J hM smC.rf
    refine s_X8_isFleet hM.2.1 hk.1 ⟨fun q => bad (fun z => of_decide_eq_false q z.1), fun q => ?_⟩
    have q := of_decide_eq_true q
    refine s_X8_isTeller (by omega) ⟨fun q2 => ?_, fun q2 => bad (fun z => by rw [q2] at z; exact absurd z.2 (by decide))⟩
    have hc : 0 < sF σ 0 ∧ inN a0 4 = true := ⟨q, q2⟩
    obtain ⟨t, ht, rfl⟩ := inN_n q2 (by omega)
    have hv : vp_in (nI (76 + t)) 952 := vp_in_nI (by omega) (by omega)
    have h9 := hk.1.2.2.2.2.1 t ht
    rw [nI_cl (by omega)] at h
    rw [ix2 76 t 76 rfl, nI_cl (by omega), hM.2.1.a0 (76 + t) (by omega)]
    refine ⟨hv, fun q3 => ?_, fun q3 => ?_⟩
    · have q3 : sF σ (76 + t) < 9 := by
        rcases Nat.lt_or_ge (sF σ (76 + t)) 9 with z | z
        · exact z
        · exact absurd (by rw [show sF σ (76 + t) = 9 from by omega]; rfl) q3
      rw [if_pos ⟨hc, q3⟩, if_pos hc, if_pos q3] at h
      refine s_X8_minds (s := 0) (by omega) hM.2.2.2.2.1 hk.2.2.2.1 hM.2.1 (fun I1 b1 b2 b3 b4 => ?_)
      have hF1 : MF I1 0 (sF σ) := fun j hj => by rw [b3 _ (by omega)]; exact hM.2.1 j hj
      rw [hF1.a0 (76 + t) (by omega), nI_one, sI_at, if_pos ⟨rfl, rfl⟩]
      refine ⟨hv, hv, hv, h _ J (hM.act b1 b2 b3 b4 (MF_up1 hF1) (fun a ha => sI_ne ha) (fun j hj => by rw [sI_at, if_neg (by omega)])) ⟨fun a ha => by rw [sI_ne (by omega), b2 a (by omega) (by omega)], fun _ _ => rfl⟩⟩
    · have q3 : sF σ (76 + t) = 9 := (nI_eq (b := 9) (by omega) (by omega)).mp q3
      rw [if_neg (by omega), if_pos hc, if_neg (by omega)] at h
      exact h I J hM smC.rf
  · unfold tLrn
    split
    · rename_i q
      obtain ⟨t, ht, rfl⟩ := inN_n q.1.2 (by omega)
      rw [nI_cl (by omega)] at q ⊢
      exact psh_ok hk (okF_c hk.1 q.1.1 ht (by omega)) ⟨q.1.1, fun j _ _ _ _ _ h5 => up1_ne (by omega)⟩
    · exact hk
