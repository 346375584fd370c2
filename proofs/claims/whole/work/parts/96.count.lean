-- ===== count =====
def acc (f : Nat → Int32 → Int32) : Nat → Int32
  | 0 => 0
  | k + 1 => f k (acc f k)
def aWorm (F : NF) : Int32 := acc (fun s a => a + nI (F (70 + s))) (F 0)
def aCred (F : NF) : Int32 := acc (fun t a => a + nI (F (76 + t))) 4
def aHarb (F : NF) : Int32 := acc (fun c a => if (c / 8 < F 1 ∧ c % 8 < F 2) ∧ F (3 + c) = 2 then a + 1 else a) 48
def aIn (F : NF) : Int32 := acc (fun s a => if F (3 + F (58 + s)) = 2 then a ||| (1 <<< (nI s &&& 31)) else a) (F 0)
theorem x0 (a : Int32) : a + 0 = a := by rw [Int32.add_zero]
theorem or0 (a : Int32) : a ||| 0 = a := by rw [Int32.or_zero]
def MF' (I : IT) (r : Nat) (F : NF) : Prop := ∀ j, j < 80 → j ≠ 57 → I 119 (r + j) = nI (F j)
theorem MF.p {I : IT} {r : Nat} {F : NF} (h : MF I r F) : MF' I r F := fun j hj _ => h j hj
section CNT
variable {g : GT} {d : Nat} {I : IT} {J : JT}
theorem s_X2_allWorm {o : Nat} {F : NF} {P : Int32 → IT → JT → Prop} (ho : isF o) (hC : FlC I o F) (hF : okF F) (h : P (aWorm F) I J) : SemI g d M_X2_allWorm [.ref (ga g o)] I J P := by
  have h6 := hF.1
  refine w_X2_allWorm ho (upTo (Q := fun k => Lp_X2_allWorm_4 g d o (acc (fun s a => a + nI (F (70 + s))) k) (nI k) I J P) (N := F 0) ?_ (fun k hk ih => ?_))
  · refine w_X2_allWorm_4 ho ?_
    unfold VC_X2_allWorm_4
    rw [hC.1]
    exact ⟨fun _ => h, fun z => absurd (nI_le (Nat.le_refl _) (by omega)) z⟩
  · refine w_X2_allWorm_4 ho ?_
    unfold VC_X2_allWorm_4
    rw [hC.1, nI_cl (by omega), nI_one, (hC.2.2.2.2.1 k hk).2.2.2]
    exact ⟨fun z => absurd ((nI_leI (by omega) (by omega)).mp z) (by omega), fun _ => ⟨vp_in_nI (by omega) (by omega), ih⟩⟩
theorem s_X2_allCredit {o : Nat} {F : NF} {P : Int32 → IT → JT → Prop} (ho : isF o) (hC : FlC I o F) (h : P (aCred F) I J) : SemI g d M_X2_allCredit [.ref (ga g o)] I J P := by
  refine w_X2_allCredit ho (upTo (Q := fun k => Lp_X2_allCredit_4 g d o (acc (fun s a => a + nI (F (76 + s))) k) (nI k) I J P) (N := 4) ?_ (fun k hk ih => ?_))
  · refine w_X2_allCredit_4 ho ?_
    unfold VC_X2_allCredit_4
    exact ⟨fun _ => h, fun z => absurd (by decide) z⟩
  · refine w_X2_allCredit_4 ho ?_
    unfold VC_X2_allCredit_4
    rw [nI_cl (by omega), nI_one, hC.2.2.2.2.2.1 k hk]
    exact ⟨fun z => absurd ((nI_leI (a := 4) (by omega) (by omega)).mp z) (by omega), fun _ => ⟨vp_in_nI (by omega) (by omega), ih⟩⟩
theorem at2 {F : NF} {c : Nat} (hW : okW F) (hc : c < 48) : ((if cOK (nI c) F then nI (F (3 + (nI c).toNatClampNeg)) else 1) = 2 ↔ (c / 8 < F 1 ∧ c % 8 < F 2) ∧ F (3 + c) = 2) := by
  rw [cOK_i (by omega), nI_cl (by omega)]
  have hv := hW.2.2 c hc
  by_cases q : c / 8 < F 1 ∧ c % 8 < F 2
  · rw [if_pos (decide_eq_true q)]
    have := nI_eq (a := F (3 + c)) (b := 2) (by omega) (by omega)
    exact ⟨fun z => ⟨q, this.mp z⟩, fun z => this.mpr z.2⟩
  · rw [if_neg (by rw [decide_eq_false q]; decide)]
    exact ⟨fun z => absurd z (by decide), fun z => absurd z.1 q⟩
theorem s_X3_harbours {o : Nat} {F : NF} {P : Int32 → IT → JT → Prop} (hd : 2 ≤ d) (ho : isSea o) (hS : SeaC I o F) (hW : okW F) (h : P (aHarb F) I J) : SemI g d M_X3_harbours [.ref (ga g o)] I J P := by
  refine w_X3_harbours ho (upTo (Q := fun k => Lp_X3_harbours_4 g d o (acc (fun c a => if (c / 8 < F 1 ∧ c % 8 < F 2) ∧ F (3 + c) = 2 then a + 1 else a) k) (nI k) I J P) (N := 48) ?_ (fun k hk ih => ?_))
  · refine w_X3_harbours_4 ho (by omega) ?_
    unfold VC_X3_harbours_4
    exact ⟨fun _ => h, fun z => absurd (by decide) z⟩
  · refine w_X3_harbours_4 ho (by omega) ?_
    unfold VC_X3_harbours_4
    rw [nI_one]
    refine ⟨fun z => absurd ((nI_leI (a := 48) (by omega) (by omega)).mp z) (by omega), fun _ => s_X3_at (by omega) ho hS hW ?_⟩
    rw [at2 hW hk]
    unfold acc at ih
    refine ⟨fun z => ?_, fun z => ?_⟩
    · rw [if_neg z] at ih; exact ih
    · rw [if_pos z] at ih; exact ih
theorem s_X2_harboured {o : Nat} {F : NF} {P : Int32 → IT → JT → Prop} (hd : 2 ≤ d) (ho : isF o) (hC : FlC I o F) (hF : okF F) (h : P (aIn F) I J) : SemI g d M_X2_harboured [.ref (ga g o)] I J P := by
  have h6 := hF.1
  have hW := hF.W
  have hb1 := hW.1
  refine w_X2_harboured ho (upTo (Q := fun k => Lp_X2_harboured_4 g d o (acc (fun s a => if F (3 + F (58 + s)) = 2 then a ||| (1 <<< (nI s &&& 31)) else a) k) (nI k) I J P) (N := F 0) ?_ (fun k hk ih => ?_))
  · refine w_X2_harboured_4 ho (by omega) ?_
    unfold VC_X2_harboured_4
    rw [hC.1]
    exact ⟨fun _ => h, fun z => absurd (nI_le (Nat.le_refl _) (by omega)) z⟩
  · refine w_X2_harboured_4 ho (by omega) ?_
    unfold VC_X2_harboured_4
    obtain ⟨k1, k2, k3, k4, k5, k6⟩ := hF.2.2.2.2.2.1 k hk
    rw [hC.1, nI_cl (by omega), nI_one, (hC.2.2.2.2.1 k hk).2.1]
    refine ⟨fun z => absurd ((nI_leI (by omega) (by omega)).mp z) (by omega), fun _ => ⟨vp_in_nI (by omega) (by omega), s_X3_at (by omega) (isF_sea ho) hC.sea hW ?_⟩⟩
    rw [at2 hW (by omega)]
    unfold acc at ih
    refine ⟨fun z => ?_, fun z => ?_⟩
    · rw [if_neg (fun y => z ⟨⟨k3, k4⟩, y⟩)] at ih; exact ih
    · rw [if_pos z.2] at ih; exact ih
theorem s_X8_wormAll {r : Nat} {F : NF} {P : Int32 → IT → JT → Prop} (hr : r ≤ 400) (hM : MF' I r F) (hF : okF F) (h : P (aWorm F) I J) : SemI g d M_X8_wormAll [.ref (ga g 118), .int (nI r)] I J P := by
  have h6 := hF.1
  refine w_X8_wormAll (upTo (Q := fun k => Lp_X8_wormAll_4 g d (nI r) (acc (fun s a => a + nI (F (70 + s))) k) (nI k) I J P) (N := F 0) ?_ (fun k hk ih => ?_))
  · refine w_X8_wormAll_4 ?_
    unfold VC_X8_wormAll_4
    rw [x0, nI_cl (by omega), show I 119 r = nI (F 0) from hM 0 (by omega) (by omega)]
    exact ⟨vp_in_nI (by omega) (by omega), fun _ => h, fun z => absurd (nI_le (Nat.le_refl _) (by omega)) z⟩
  · refine w_X8_wormAll_4 ?_
    unfold VC_X8_wormAll_4
    rw [x0, nI_cl (by omega), show I 119 r = nI (F 0) from hM 0 (by omega) (by omega), ix3 r 70 k 70 rfl, nI_cl (by omega), nI_one, show r + 70 + k = r + (70 + k) from by omega, hM (70 + k) (by omega) (by omega)]
    exact ⟨vp_in_nI (by omega) (by omega), fun z => absurd ((nI_leI (by omega) (by omega)).mp z) (by omega), fun _ => ⟨vp_in_nI (by omega) (by omega), ih⟩⟩
theorem s_X8_creditAll {r : Nat} {F : NF} {P : Int32 → IT → JT → Prop} (hr : r ≤ 400) (hM : MF' I r F) (h : P (aCred F) I J) : SemI g d M_X8_creditAll [.ref (ga g 118), .int (nI r)] I J P := by
  refine w_X8_creditAll (upTo (Q := fun k => Lp_X8_creditAll_4 g d (nI r) (acc (fun s a => a + nI (F (76 + s))) k) (nI k) I J P) (N := 4) ?_ (fun k hk ih => ?_))
  · refine w_X8_creditAll_4 ?_
    unfold VC_X8_creditAll_4
    exact ⟨fun _ => h, fun z => absurd (by decide) z⟩
  · refine w_X8_creditAll_4 ?_
    unfold VC_X8_creditAll_4
    rw [ix3 r 76 k 76 rfl, nI_cl (by omega), nI_one, show r + 76 + k = r + (76 + k) from by omega, hM (76 + k) (by omega) (by omega)]
    exact ⟨fun z => absurd ((nI_leI (a := 4) (by omega) (by omega)).mp z) (by omega), fun _ => ⟨vp_in_nI (by omega) (by omega), ih⟩⟩
theorem s_X8_harbours {F : NF} {P : Int32 → IT → JT → Prop} (hd : 3 ≤ d) (hM : MF I 0 F) (hW : okW F) (h : P (aHarb F) I J) : SemI g d M_X8_harbours [.ref (ga g 118)] I J P := by
  refine w_X8_harbours (upTo (Q := fun k => Lp_X8_harbours_4 g d (acc (fun c a => if (c / 8 < F 1 ∧ c % 8 < F 2) ∧ F (3 + c) = 2 then a + 1 else a) k) (nI k) I J P) (N := 48) ?_ (fun k hk ih => ?_))
  · refine w_X8_harbours_4 (by omega) ?_
    unfold VC_X8_harbours_4
    exact ⟨fun _ => h, fun z => absurd (by decide) z⟩
  · refine w_X8_harbours_4 (by omega) ?_
    unfold VC_X8_harbours_4
    rw [nI_one, x0]
    unfold acc at ih
    refine ⟨fun z => absurd ((nI_leI (a := 48) (by omega) (by omega)).mp z) (by omega), fun _ => s_X8_isCell (by omega) (hM.a0 1 (by omega)) (hM.a0 2 (by omega)) hW ?_⟩
    rw [cOK_i (by omega), ix2 3 k 3 rfl, nI_cl (by omega), hM.a0 (3 + k) (by omega)]
    have hv := hW.2.2 k hk
    have e2 := nI_eq (a := F (3 + k)) (b := 2) (by omega) (by omega)
    refine ⟨fun z => ?_, fun z => ⟨vp_in_nI (by omega) (by omega), fun z2 => ?_, fun z2 => ?_⟩⟩
    · rw [if_neg (fun y => of_decide_eq_false z y.1)] at ih; exact ih
    · rw [if_neg (fun y => z2 (e2.mpr y.2))] at ih; exact ih
    · rw [if_pos ⟨of_decide_eq_true z, e2.mp z2⟩] at ih; exact ih
theorem s_X8_inHarbour {F : NF} {P : Int32 → IT → JT → Prop} (hM : MF I 0 F) (hF : okF F) (h : P (aIn F) I J) : SemI g d M_X8_inHarbour [.ref (ga g 118)] I J P := by
  have h6 := hF.1
  have hW := hF.W
  have hb1 := hW.1
  refine w_X8_inHarbour (upTo (Q := fun k => Lp_X8_inHarbour_4 g d (acc (fun s a => if F (3 + F (58 + s)) = 2 then a ||| (1 <<< (nI s &&& 31)) else a) k) (nI k) I J P) (N := F 0) ?_ (fun k hk ih => ?_))
  · refine w_X8_inHarbour_4 ?_
    unfold VC_X8_inHarbour_4
    rw [hM.a0 0 (by omega)]
    exact ⟨fun _ => h, fun z => absurd (nI_le (Nat.le_refl _) (by omega)) z⟩
  · refine w_X8_inHarbour_4 ?_
    unfold VC_X8_inHarbour_4
    obtain ⟨k1, k2, k3, k4, k5, k6⟩ := hF.2.2.2.2.2.1 k hk
    have hv := hW.2.2 (F (58 + k)) (by omega)
    rw [hM.a0 0 (by omega), ix2 58 k 58 rfl, nI_cl (by omega), hM.a0 (58 + k) (by omega), ix2 3 (F (58 + k)) 3 rfl, nI_cl (by omega), hM.a0 (3 + F (58 + k)) (by omega), nI_one, or0]
    have e2 := nI_eq (a := F (3 + F (58 + k))) (b := 2) (by omega) (by omega)
    unfold acc at ih
    refine ⟨fun z => absurd ((nI_leI (by omega) (by omega)).mp z) (by omega), fun _ => ⟨vp_in_nI (by omega) (by omega), vp_in_nI (by omega) (by omega), fun z => ?_, fun z => ?_⟩⟩
    · rw [if_neg (fun y => z (e2.mpr y))] at ih; exact ih
    · rw [if_pos (e2.mp z)] at ih; exact ih
end CNT
def vCount (v : Int32) (σ : ST) : Int32 := if v = 0 then nI (sF σ 0) else if v = 1 then nI (sF σ 2) else if v = 2 then nI (sF σ 1) else if v = 3 then nI (sF σ 57) else if v = 4 then aWorm (sF σ) else if v = 5 then aCred (sF σ) else if v = 6 then aHarb (sF σ) else if v = 7 then aIn (sF σ) else if v = 8 then nI (sA σ).length else if v = 9 then nI (sT σ).1 else -1
theorem e_count {g : GT} (a0 : Int32) : EQI g Rel M_X7_count M_X8_count [.int a0] := by
  refine eqI_of (vCount a0) id (fun σ I J P hk hC h => ?_) (fun σ I J P hk hM h => ?_) (fun _ h => h)
  · have h := h I J hC smM.rf
    unfold vCount at h
    refine w_X7_count (by omega) ?_
    unfold VC_X7_count
    rw [hC.2.1.1, hC.2.1.2.1, hC.2.1.2.2.1, hC.2.1.2.2.2.2.2.2, hC.2.2.2.2.1.1, hC.1.1]
    refine ⟨fun w => ?_, fun w => ?_, fun w => ?_, fun w => ?_, fun w => s_X2_allWorm isF_3 hC.2.1 hk.1 ?_, fun w => s_X2_allCredit isF_3 hC.2.1 ?_, fun w => s_X3_harbours (by omega) isSea_4 hC.2.1.sea hk.1.W ?_, fun w => s_X2_harboured (by omega) isF_3 hC.2.1 hk.1 ?_, fun w => ?_, fun w => ?_, fun w => ?_⟩
    all_goals (try (subst w; exact h))
    rw [if_neg w.1, if_neg w.2.1, if_neg w.2.2.1, if_neg w.2.2.2.1, if_neg w.2.2.2.2.1, if_neg w.2.2.2.2.2.1, if_neg w.2.2.2.2.2.2.1, if_neg w.2.2.2.2.2.2.2.1, if_neg w.2.2.2.2.2.2.2.2.1, if_neg w.2.2.2.2.2.2.2.2.2] at h
    exact h
  · have h := h I J hM smC.rf
    unfold vCount at h
    refine w_X8_count (by omega) ?_
    unfold VC_X8_count
    rw [hM.2.1.a0 0 (by omega), hM.2.1.a0 1 (by omega), hM.2.1.a0 2 (by omega), hM.2.1.a0 57 (by omega), hM.2.2.2.2.1.1, hM.1.1]
    refine ⟨fun w => ?_, fun w => ?_, fun w => ?_, fun w => ?_, fun w => s_X8_wormAll (r := 0) (by omega) hM.2.1.p hk.1 ?_, fun w => s_X8_creditAll (r := 0) (by omega) hM.2.1.p ?_, fun w => s_X8_harbours (by omega) hM.2.1 hk.1.W ?_, fun w => s_X8_inHarbour hM.2.1 hk.1 ?_, fun w => ?_, fun w => ?_, fun w => ?_⟩
    all_goals (try (subst w; exact h))
    rw [if_neg w.1, if_neg w.2.1, if_neg w.2.2.1, if_neg w.2.2.2.1, if_neg w.2.2.2.2.1, if_neg w.2.2.2.2.2.1, if_neg w.2.2.2.2.2.2.1, if_neg w.2.2.2.2.2.2.2.1, if_neg w.2.2.2.2.2.2.2.2.1, if_neg w.2.2.2.2.2.2.2.2.2] at h
    exact h
