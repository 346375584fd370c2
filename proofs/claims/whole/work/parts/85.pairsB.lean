-- ===== cells of the sea =====
def cOK (v : Int32) (F : NF) : Bool := decide (0 ≤ v.toInt ∧ v.toInt / 8 < F 1 ∧ v.toInt % 8 < F 2)
theorem cOK_n {v : Int32} {F : NF} (h : cOK v F = true) (hW : okW F) : ∃ c, c < 48 ∧ c / 8 < F 1 ∧ c % 8 < F 2 ∧ v = nI c := by
  have h := of_decide_eq_true h
  have hb := hW.1
  have h48 : inN v 48 = true := decide_eq_true (by omega)
  obtain ⟨c, hc, rfl⟩ := inN_n h48 (by omega)
  rw [nI_toInt (by omega)] at h
  exact ⟨c, hc, by omega, by omega, rfl⟩
theorem cOK_i {c : Nat} {F : NF} (h : c < 2 ^ 31) : cOK (nI c) F = decide (c / 8 < F 1 ∧ c % 8 < F 2) := by
  unfold cOK
  rw [nI_toInt h]
  apply decide_eq_decide.mpr
  omega
theorem nneg {v : Int32} (h : ¬ v < 0) : ∃ c, c < 2 ^ 31 ∧ v = nI c := nI_of h
section CEL
variable {g : GT} {d : Nat} {I : IT} {J : JT}
theorem s_X3_has {o : Nat} {F : NF} {v : Int32} {P : Bool → IT → JT → Prop} (ho : isSea o) (hS : SeaC I o F) (hW : okW F) (h : P (cOK v F) I J) : SemZ g d M_X3_has [.ref (ga g o), .int v] I J P := by
  refine w_X3_has ho ?_
  unfold VC_X3_has
  have h0 : (0 : Int32).toInt = 0 := by decide
  have hb1 := hW.1
  have hb2 := hW.2.1
  refine ⟨fun q => ?_, fun q => ?_⟩
  · rw [Int32.lt_iff_toInt_lt, h0] at q
    unfold cOK at h; rw [decide_eq_false (by omega)] at h; exact h
  · obtain ⟨c, hc, rfl⟩ := nneg q
    rw [cOK_i hc] at h
    rw [hS.1, hS.2.1, nI_r8 hc, show (8 : Int32) * nI (F 1) = nI (8 * F 1) from by rw [show (8 : Int32) = nI 8 from rfl, pk_mul]]
    refine ⟨fun q1 => ?_, fun q1 => ⟨fun q2 => ?_, fun q2 => ?_⟩⟩
    · have q1 := (nI_leI (by omega) (by omega)).mp q1
      rw [decide_eq_false (by omega)] at h; exact h
    · have q2 := (nI_leI (by omega) (by omega)).mp q2
      rw [decide_eq_false (by omega)] at h; exact h
    · have q1 : ¬ 8 * F 1 ≤ c := fun z => q1 ((nI_leI (by omega) (by omega)).mpr z)
      have q2 : ¬ F 2 ≤ c % 8 := fun z => q2 ((nI_leI (by omega) (by omega)).mpr z)
      rw [decide_eq_true (by omega)] at h; exact h
theorem s_X3_at {o : Nat} {F : NF} {v : Int32} {P : Int32 → IT → JT → Prop} (hd : 1 ≤ d) (ho : isSea o) (hS : SeaC I o F) (hW : okW F) (h : P (if cOK v F then nI (F (3 + v.toNatClampNeg)) else 1) I J) : SemI g d M_X3_at [.ref (ga g o), .int v] I J P := by
  refine w_X3_at ho hd ?_
  unfold VC_X3_at
  refine s_X3_has ho hS hW ⟨fun q => ?_, fun q => ?_⟩
  · rw [if_neg (by rw [q]; decide)] at h; exact h
  · rw [if_pos q] at h
    obtain ⟨c, hc, h1, h2, rfl⟩ := cOK_n q hW
    rw [nI_cl (by omega)] at h ⊢
    refine ⟨vp_in_nI hc (by omega), ?_⟩
    rw [hS.2.2 c h1 h2]; exact h
theorem s_X8_isCell {F : NF} {v : Int32} {P : Bool → IT → JT → Prop} (hd : 2 ≤ d) (e1 : I 119 1 = nI (F 1)) (e2 : I 119 2 = nI (F 2)) (hW : okW F) (h : P (cOK v F) I J) : SemZ g d M_X8_isCell [.ref (ga g 118), .int v] I J P := by
  refine w_X8_isCell (by omega) ?_
  unfold VC_X8_isCell
  have h0 : (0 : Int32).toInt = 0 := by decide
  have hb1 := hW.1
  have hb2 := hW.2.1
  refine ⟨fun q => ?_, fun q => ?_⟩
  · rw [Int32.lt_iff_toInt_lt, h0] at q
    unfold cOK at h; rw [decide_eq_false (by omega)] at h; exact h
  · obtain ⟨c, hc, rfl⟩ := nneg q
    rw [cOK_i hc] at h
    rw [nI_r8 hc, nI_d8 hc]
    refine s_X8_isCellIn (r := 0) (F := F) (by omega) (by omega) e1 e2 hW ?_
    rw [inN_i (by omega), inN_i (by omega)]
    refine ⟨fun q => ?_, fun q => ?_⟩
    · rw [decide_eq_false (fun z => by rw [decide_eq_true z.1, decide_eq_true z.2] at q; cases q)] at h; exact h
    · have q := Bool.and_eq_true_iff.mp q
      rw [decide_eq_true ⟨of_decide_eq_true q.1, of_decide_eq_true q.2⟩] at h; exact h
end CEL
theorem MF.at {I : IT} {r : Nat} {F : NF} (h : MF I r F) (j : Nat) (hj : j < 80) : I 119 (r + j) = nI (F j) := h j hj
theorem MF.a0 {I : IT} {F : NF} (h : MF I 0 F) (j : Nat) (hj : j < 80) : I 119 j = nI (F j) := by have := h j hj; rwa [Nat.zero_add] at this
theorem MF.sea {I : IT} {r : Nat} {F : NF} (h : MF I r F) : MSea I r F := ⟨h 1 (by omega), h 2 (by omega), fun c hc => by rw [show r + 3 + c = r + (3 + c) from by omega]; exact h (3 + c) (by omega)⟩
theorem MF.ship {I : IT} {r s : Nat} {F : NF} (h : MF I r F) (hs : s < 6) : MV I r s (shipOf F s) := by
  refine ⟨?_, ?_, ?_, ?_, fun t ht => ?_⟩
  · rw [show r + 51 + s = r + (51 + s) from by omega]; exact h _ (by omega)
  · rw [show r + 58 + s = r + (58 + s) from by omega]; exact h _ (by omega)
  · rw [show r + 64 + s = r + (64 + s) from by omega]; exact h _ (by omega)
  · rw [show r + 70 + s = r + (70 + s) from by omega]; exact h _ (by omega)
  · rw [show r + 76 + t = r + (76 + t) from by omega]; exact h _ (by omega)
theorem okF.ship {F : NF} {s : Nat} (h : okF F) (hs : s < F 0) : okV F (shipOf F s) := by
  obtain ⟨a, b, c, e, f, k⟩ := h.2.2.2.2.2.1 s hs
  exact ⟨a, b, c, e, f, k, h.2.2.2.2.1⟩
-- sea
def vSea (v : Int32) (σ : ST) : Int32 := if cOK v (sF σ) then nI (sF σ (3 + v.toNatClampNeg)) else -1
theorem e_sea {g : GT} (a0 : Int32) : EQI g Rel M_X7_sea M_X8_sea [.int a0] := by
  refine eqI_of (vSea a0) id (fun σ I J P hk hC h => ?_) (fun σ I J P hk hM h => ?_) (fun _ h => h)
  · have h := h I J hC smM.rf
    unfold vSea at h
    refine w_X7_sea (by omega) ?_
    unfold VC_X7_sea
    have hS := hC.2.1.sea
    refine s_X3_has isSea_4 hS hk.1.W ⟨fun q => ?_, fun q => ?_⟩
    · rw [if_neg (by rw [q]; decide)] at h; exact h
    · refine s_X3_at (by omega) isSea_4 hS hk.1.W ?_
      rw [if_pos q] at h ⊢
      exact h
  · have h := h I J hM smC.rf
    unfold vSea at h
    refine w_X8_sea (by omega) ?_
    unfold VC_X8_sea
    refine s_X8_isCell (by omega) (hM.2.1.a0 1 (by omega)) (hM.2.1.a0 2 (by omega)) hk.1.W ⟨fun q => ?_, fun q => ?_⟩
    · rw [if_neg (by rw [q]; decide)] at h; exact h
    · rw [if_pos q] at h
      obtain ⟨c, hc, h1, h2, rfl⟩ := cOK_n q hk.1.W
      rw [nI_cl (by omega)] at h
      rw [ix2 3 c 3 rfl, nI_cl (by omega), hM.2.1.a0 (3 + c) (by omega)]
      exact ⟨vp_in_nI (by omega) (by omega), h⟩
-- ship
def shv (F : NF) (s : Nat) (w : Int32) : Int32 := if w = 0 then nI (F (51 + s)) else if w = 1 then nI (F (58 + s)) else if w = 2 then nI (F (64 + s)) else if w = 3 then nI (F (70 + s)) else -1
def vShip (v w : Int32) (σ : ST) : Int32 := if inN v (sF σ 0) then shv (sF σ) v.toNatClampNeg w else -1
theorem e_ship {g : GT} (a0 a1 : Int32) : EQI g Rel M_X7_ship M_X8_ship [.int a0, .int a1] := by
  refine eqI_of (vShip a0 a1) id (fun σ I J P hk hC h => ?_) (fun σ I J P hk hM h => ?_) (fun _ h => h)
  · have h := h I J hC smM.rf
    unfold vShip at h
    refine w_X7_ship (by omega) ?_
    unfold VC_X7_ship
    refine s_X2_hasShip isF_3 hC.2.1 hk.1 ⟨fun q => ?_, fun q => ?_⟩
    · rw [if_pos q] at h
      have h6 := hk.1.1
      obtain ⟨s, hs, rfl⟩ := inN_n q (by omega)
      have hv : vp_in (nI s) 6 := vp_in_nI (by omega) (by omega)
      rw [nI_cl (by omega)] at h ⊢
      obtain ⟨b1, b2, b3, b4⟩ := hC.2.1.2.2.2.2.1 s hs
      rw [b1, b2, b3, b4]
      unfold shv at h
      refine ⟨fun w => ⟨hv, ?_⟩, fun w => ⟨hv, ?_⟩, fun w => ⟨hv, ?_⟩, fun w => ⟨hv, ?_⟩, fun w => ?_⟩
      · rw [if_pos w] at h; exact h
      · subst w; exact h
      · subst w; exact h
      · subst w; exact h
      · rw [if_neg w.1, if_neg w.2.1, if_neg w.2.2.1, if_neg w.2.2.2] at h; exact h
    · rw [if_neg (by rw [q]; decide)] at h; exact h
  · have h := h I J hM smC.rf
    unfold vShip at h
    refine w_X8_ship (by omega) ?_
    unfold VC_X8_ship
    refine s_X8_isShip (by omega) hM.2.1 hk.1 ⟨fun q => ?_, fun q => ?_⟩
    · rw [if_pos q] at h
      have h6 := hk.1.1
      obtain ⟨s, hs, rfl⟩ := inN_n q (by omega)
      rw [nI_cl (by omega)] at h
      rw [ix2 51 s 51 rfl, ix2 58 s 58 rfl, ix2 64 s 64 rfl, ix2 70 s 70 rfl, nI_cl (by omega), nI_cl (by omega), nI_cl (by omega), nI_cl (by omega), hM.2.1.a0 (51 + s) (by omega), hM.2.1.a0 (58 + s) (by omega), hM.2.1.a0 (64 + s) (by omega), hM.2.1.a0 (70 + s) (by omega)]
      unfold shv at h
      refine ⟨fun w0 => ⟨fun w1 => ⟨fun w2 => ⟨fun w3 => ?_, fun w3 => ⟨vp_in_nI (by omega) (by omega), ?_⟩⟩, fun w2 => ⟨vp_in_nI (by omega) (by omega), ?_⟩⟩, fun w1 => ⟨vp_in_nI (by omega) (by omega), ?_⟩⟩, fun w0 => ⟨vp_in_nI (by omega) (by omega), ?_⟩⟩
      · rw [if_neg w0, if_neg w1, if_neg w2, if_neg w3] at h; exact h
      · rw [if_neg w0, if_neg w1, if_neg w2, if_pos w3] at h; exact h
      · rw [if_neg w0, if_neg w1, if_pos w2] at h; exact h
      · rw [if_neg w0, if_pos w1] at h; exact h
      · rw [if_pos w0] at h; exact h
    · rw [if_neg (by rw [q]; decide)] at h; exact h
-- doubt
def vDoubt (v t : Int32) (σ : ST) : Int32 := if inN v (sF σ 0) = true ∧ inN t 4 = true then nI (dbt (sF σ (51 + v.toNatClampNeg)) (sF σ (70 + v.toNatClampNeg)) t.toNatClampNeg) else -1
theorem s_X2_doubtOf {g : GT} {d : Nat} {I : IT} {J : JT} {o s t : Nat} {F : NF} {P : Int32 → IT → JT → Prop} (hd : 1 ≤ d) (ho : isF o) (hC : FlC I o F) (hF : okF F) (hs : s < F 0) (ht : t < 4) (h : P (nI (dbt (F (51 + s)) (F (70 + s)) t)) I J) : SemI g d M_X2_doubtOf [.ref (ga g o), .int (nI s), .int (nI t)] I J P := by
  refine w_X2_doubtOf ho hd ?_
  unfold VC_X2_doubtOf
  have h6 := hF.1
  have hv : vp_in (nI s) 6 := vp_in_nI (by omega) (by omega)
  obtain ⟨b1, b2, b3, b4⟩ := hC.2.2.2.2.1 s hs
  have hk := hF.2.2.2.2.2.1 s hs
  rw [nI_cl (by omega), b1, b4]
  exact ⟨hv, hv, s_X7_doubtBy ⟨hk.1, hk.2.1⟩ ht h⟩
theorem e_doubt {g : GT} (a0 a1 : Int32) : EQI g Rel M_X7_doubt M_X8_doubt [.int a0, .int a1] := by
  refine eqI_of (vDoubt a0 a1) id (fun σ I J P hk hC h => ?_) (fun σ I J P hk hM h => ?_) (fun _ h => h)
  · have h := h I J hC smM.rf
    unfold vDoubt at h
    refine w_X7_doubt (by omega) ?_
    unfold VC_X7_doubt
    refine s_X2_hasShip isF_3 hC.2.1 hk.1 ⟨fun q => ?_, fun q => ?_⟩
    · rw [if_neg (fun z => by rw [q] at z; exact absurd z.1 (by decide))] at h; exact h
    · refine s_X7_isTeller ⟨fun q2 => ?_, fun q2 => ?_⟩
      · rw [if_neg (fun z => by rw [q2] at z; exact absurd z.2 (by decide))] at h; exact h
      · rw [if_pos ⟨q, q2⟩] at h
        have h6 := hk.1.1
        obtain ⟨s, hs, rfl⟩ := inN_n q (by omega)
        obtain ⟨t, ht, rfl⟩ := inN_n q2 (by omega)
        rw [nI_cl (by omega), nI_cl (by omega)] at h
        exact s_X2_doubtOf (by omega) isF_3 hC.2.1 hk.1 hs ht h
  · have h := h I J hM smC.rf
    unfold vDoubt at h
    refine w_X8_doubt (by omega) ?_
    unfold VC_X8_doubt
    refine s_X8_isShip (by omega) hM.2.1 hk.1 ⟨fun q => ?_, fun q => ?_⟩
    · rw [if_neg (fun z => by rw [q] at z; exact absurd z.1 (by decide))] at h; exact h
    · refine s_X8_isTeller (by omega) ⟨fun q2 => ?_, fun q2 => ?_⟩
      · rw [if_neg (fun z => by rw [q2] at z; exact absurd z.2 (by decide))] at h; exact h
      · rw [if_pos ⟨q, q2⟩] at h
        have h6 := hk.1.1
        obtain ⟨s, hs, rfl⟩ := inN_n q (by omega)
        obtain ⟨t, ht, rfl⟩ := inN_n q2 (by omega)
        rw [nI_cl (by omega), nI_cl (by omega)] at h
        have hks := hk.1.2.2.2.2.2.1 s hs
        refine s_X8_doubtIn (r := 0) (by omega) (by omega) ⟨hks.1, hks.2.1⟩ ht ?_ ?_ h
        · rw [show 0 + 51 + s = 51 + s from by omega]; exact hM.2.1.a0 _ (by omega)
        · rw [show 0 + 70 + s = 70 + s from by omega]; exact hM.2.1.a0 _ (by omega)
