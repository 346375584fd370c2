-- ===== what thoughts may write; strikes =====
abbrev isK (a : Nat) : Prop := a ≤ 10 ∨ (20 ≤ a ∧ a ≤ 71) ∨ (80 ≤ a ∧ a ≤ 95) ∨ 110 ≤ a
theorem RelC.scr {I I' : IT} {J J' : JT} {σ : ST} (h : RelC I J σ) (e : ∀ a, isK a → I' a = I a) (e2 : ∀ a, 110 ≤ a → a ≤ 117 → J' a = J a) : RelC I' J' σ := by
  obtain ⟨h1, h2, h3, h4, h5, h6⟩ := h
  refine ⟨?_, h2.cg (fun a _ _ => e a (by omega)), h3.cg (fun a _ _ => e a (by omega)), h4.cg (fun a _ _ => e a (by omega)), h5.cg (fun a _ _ => e a (by omega)), h6.cg (fun a _ _ => e a (by omega)) e2⟩
  unfold RcT; rw [e 1 (by omega), e 2 (by omega)]; exact h1
theorem RelM.scr {I I' : IT} {J J' : JT} {σ : ST} (h : RelM I J σ) (e1 : I' 118 1 = I 118 1) (e3 : I' 118 3 = I 118 3) (e9 : ∀ j, (j < 240 ∨ 400 ≤ j) → I' 119 j = I 119 j) (e0 : I' 120 = I 120) (e22 : I' 122 = I 122) (e23 : I' 123 = I 123) (eJ : J' 121 = J 121) : RelM I' J' σ := by
  obtain ⟨h1, h2, h3, h4, h5, h6⟩ := h
  refine ⟨?_, fun j hj => ?_, fun j hj => ?_, fun j hj => ?_, ⟨?_, fun i s F hi j hj => ?_⟩, fun k hk => ?_⟩
  · unfold RmT; rw [e3, e0]; exact h1
  · rw [e9 _ (by omega)]; exact h2 j hj
  · rw [e9 _ (by omega)]; exact h3 j hj
  · rw [e9 _ (by omega)]; exact h4 j hj
  · rw [e1]; exact h5.1
  · rw [e9 _ (by omega)]; exact h5.2 i s F hi j hj
  · rw [e22, e23, eJ]; exact h6 k hk
def pot (F : NF) (c l : Nat) : Nat := if l = 0 then c / 8 else if l = 2 then F 1 - 1 - c / 8 else if l = 1 then F 2 - 1 - c % 8 else c % 8
theorem nxt_pot {F : NF} {c l q : Nat} (hW : okW F) (hl : l < 4) (h1 : c / 8 < F 1) (h2 : c % 8 < F 2) (h : nxt F c l = some q) : pot F q l < pot F c l := by
  have hb1 := hW.1
  have hb2 := hW.2.1
  have hl' : l = 0 ∨ l = 1 ∨ l = 2 ∨ l = 3 := by omega
  unfold nxt chk2 rowO colO at h
  unfold pot
  rcases hl' with rfl | rfl | rfl | rfl
  · rw [if_pos rfl, if_pos rfl]
    by_cases z : c / 8 = 0
    · rw [if_pos rfl, if_pos z] at h; cases h
    · rw [if_pos rfl, if_neg z, if_neg (by omega), if_neg (by omega)] at h
      simp only at h
      split at h
      · cases h; omega
      · cases h
  · rw [if_neg (by omega), if_neg (by omega), if_pos rfl, if_neg (by omega), if_neg (by omega), if_pos rfl]
    rw [if_neg (by omega), if_neg (by omega), if_pos rfl] at h
    simp only at h
    split at h
    · cases h; omega
    · cases h
  · rw [if_neg (by omega), if_pos rfl, if_neg (by omega), if_pos rfl]
    rw [if_neg (by omega), if_pos rfl, if_neg (by omega), if_neg (by omega)] at h
    simp only at h
    split at h
    · cases h; omega
    · cases h
  · rw [if_neg (by omega), if_neg (by omega), if_neg (by omega), if_neg (by omega), if_neg (by omega), if_neg (by omega)]
    by_cases z : c % 8 = 0
    · rw [if_neg (by omega), if_neg (by omega), if_neg (by omega), if_pos rfl, if_pos z] at h; cases h
    · rw [if_neg (by omega), if_neg (by omega), if_neg (by omega), if_pos rfl, if_neg z] at h
      simp only at h
      split at h
      · cases h; omega
      · cases h
theorem pot_lt {F : NF} {c l : Nat} (hW : okW F) (h1 : c / 8 < F 1) (h2 : c % 8 < F 2) : pot F c l < 8 := by
  have hb1 := hW.1
  have hb2 := hW.2.1
  unfold pot
  (repeat' split) <;> omega
def stk (F : NF) (l : Nat) : Nat → Nat → Nat
  | 0, _ => 1
  | m + 1, c => match nxt F c l with
    | none => 1
    | some q => 1 + stk F l m q
def vStrikes (v : Int32) (σ : ST) : Int32 := if inN v (sF σ 0) then nI (stk (sF σ) (sF σ (64 + v.toNatClampNeg)) 8 (sF σ (58 + v.toNatClampNeg))) else -1
theorem e_strikes {g : GT} (a0 : Int32) : EQI g Rel M_X7_strikes M_X8_strikes [.int a0] := by
  refine eqI_of (vStrikes a0) id (fun σ I J P hk hC h => ?_) (fun σ I J P hk hM h => ?_) (fun _ h => h)
  · unfold vStrikes at h
    refine w_X7_strikes (by omega) ?_
    unfold VC_X7_strikes
    refine s_X2_hasShip isF_3 hC.2.1 hk.1 ⟨fun q => ?_, fun q => ?_⟩
    · rw [if_pos q] at h
      have h6 := hk.1.1
      have hW := hk.1.W
      obtain ⟨s, hs, rfl⟩ := inN_n q (by omega)
      rw [nI_cl (by omega)] at h
      refine s_X6_board (by omega) isV_96 isF_3 (by omega) hC.2.1 hk.1 hs (fun I1 b1 b2 => ?_)
      have loop : ∀ m k I2 v, CV I2 96 v → okV (sF σ) v → (∀ a, a ≠ 96 → a ≠ 97 → I2 a = I a) → pot (sF σ) v.2.1 v.2.2.1 < m → 1 ≤ k → k + m ≤ 9 → (∀ I', (∀ a, a ≠ 96 → a ≠ 97 → I' a = I a) → P (nI (k - 1 + stk (sF σ) v.2.2.1 m v.2.1)) I' J) → Lp_X7_strikes_31 g 40 (nI k) I2 J P := by
        intro m
        induction m with
        | zero => intro k I2 v _ _ _ hp; omega
        | succ m ih =>
          intro k I2 v c1 c2 c3 hp hk1 hkm hP
          refine w_X7_strikes_31 (by omega) ?_
          unfold VC_X7_strikes_31
          rw [nI_one]
          refine ⟨fun z => absurd ((nI_ltI (a := 8) (by omega) (by omega)).mp z) (by omega), fun _ => ?_⟩
          refine s_X6_goOn (by omega) isV_96 c1 (hC.2.1.sea.cg (c3 _ (by omega) (by omega)) (c3 _ (by omega) (by omega))) hW c2 (fun I3 d1 d2 => ?_)
          have e3 : ∀ a, a ≠ 96 → a ≠ 97 → I3 a = I a := fun a z1 z2 => by rw [d2 a z1 z2, c3 a z1 z2]
          unfold stk at hP
          have okg := okV_go c2 hW
          unfold goV at d1 okg ⊢
          cases hn : nxt (sF σ) v.2.1 v.2.2.1 with
          | none =>
            rw [hn] at hP d1
            refine ⟨fun _ => ?_, fun z => Bool.noConfusion (show true = false from z)⟩
            have := hP I3 e3
            rw [show k - 1 + 1 = k from by omega] at this
            exact this
          | some w =>
            rw [hn] at hP d1 okg
            refine ⟨fun z => Bool.noConfusion (show false = true from z), fun _ => ?_⟩
            have hpw := nxt_pot hW c2.2.2.2.2.1 c2.2.2.1 c2.2.2.2.1 hn
            refine ih (k + 1) I3 (v.1, w, v.2.2.1, v.2.2.2.1, v.2.2.2.2) d1 okg e3 (by show pot (sF σ) w v.2.2.1 < m; omega) (by omega) (by omega) (fun I' hI' => ?_)
            have := hP I' hI'
            simp only at this
            rw [show k - 1 + (1 + stk (sF σ) v.2.2.1 m w) = k + 1 - 1 + stk (sF σ) v.2.2.1 m w from by omega] at this
            exact this
      have hv := hk.1.ship hs
      refine loop 8 1 I1 (shipOf (sF σ) s) b1 hv b2 (pot_lt hW hv.2.2.1 hv.2.2.2.1) (by omega) (by omega) (fun I' hI' => ?_)
      have := h I' J (hC.scr (fun a ha => hI' a (by omega) (by omega)) (fun _ _ _ => rfl)) ⟨fun a ha => hI' a (by omega) (by omega), fun _ _ => rfl⟩
      rw [show 1 - 1 + stk (sF σ) (shipOf (sF σ) s).2.2.1 8 (shipOf (sF σ) s).2.1 = stk (sF σ) (sF σ (64 + s)) 8 (sF σ (58 + s)) from by show 0 + _ = _; rw [Nat.zero_add]; rfl]
      exact this
    · rw [if_neg (by rw [q]; decide)] at h; exact h I J hC smM.rf
  · have h := h I J hM smC.rf
    unfold vStrikes at h
    refine w_X8_strikes (by omega) ?_
    unfold VC_X8_strikes
    refine s_X8_isShip (by omega) hM.2.1 hk.1 ⟨fun q => ?_, fun q => ?_⟩
    · rw [if_pos q] at h
      have h6 := hk.1.1
      have hW := hk.1.W
      obtain ⟨s, hs, rfl⟩ := inN_n q (by omega)
      rw [nI_cl (by omega)] at h
      obtain ⟨k1, k2, k3, k4, k5, k6⟩ := hk.1.2.2.2.2.2.1 s hs
      have el : I 119 (64 + s) = nI (sF σ (64 + s)) := hM.2.1.a0 _ (by omega)
      have loop : ∀ m k c, c / 8 < sF σ 1 → c % 8 < sF σ 2 → pot (sF σ) c (sF σ (64 + s)) < m → k + m ≤ 9 → P (nI (k + stk (sF σ) (sF σ (64 + s)) m c)) I J → Lp_X8_strikes_22 g 40 (nI s) (nI k) (nI c) I J P := by
        intro m
        have hb1 := hW.1
        induction m with
        | zero => intro k c _ _ hp; omega
        | succ m ih =>
          intro k c c1 c2 hp hkm hP
          refine w_X8_strikes_22 (by omega) ?_
          unfold VC_X8_strikes_22
          rw [nI_one, ix2 64 s 64 rfl, nI_cl (by omega), el]
          refine ⟨fun z => absurd z (nI_pos (by omega)), fun _ => ⟨vp_in_nI (by omega) (by omega), ?_⟩⟩
          unfold stk at hP
          refine s_X8_nextOf (r := 0) (by omega) (by omega) hM.2.1.sea hW c1 c2 k5 (fun hn => ?_) (fun w hn => ?_)
          · rw [hn] at hP
            refine w_X8_strikes_22 (by omega) ?_
            unfold VC_X8_strikes_22
            exact ⟨fun _ => hP, fun z => absurd (by decide) z⟩
          · rw [hn] at hP
            have hpw := nxt_pot hW k5 c1 c2 hn
            obtain ⟨n1, n2, -⟩ := nxt_ok hn hW
            refine ih (k + 1) w n1 n2 (by omega) (by omega) ?_
            simp only at hP
            rw [show k + 1 + stk (sF σ) (sF σ (64 + s)) m w = k + (1 + stk (sF σ) (sF σ (64 + s)) m w) from by omega]
            exact hP
      rw [ix2 58 s 58 rfl, nI_cl (by omega), hM.2.1.a0 (58 + s) (by omega)]
      refine ⟨vp_in_nI (by omega) (by omega), loop 8 0 _ k3 k4 (pot_lt hW k3 k4) (by omega) ?_⟩
      rw [Nat.zero_add]; exact h
    · rw [if_neg (by rw [q]; decide)] at h; exact h
