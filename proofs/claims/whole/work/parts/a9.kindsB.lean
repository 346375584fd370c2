-- ===== kinds: the reference's best try; the row =====
def tryM (p : Nat → Nat) : Nat → Int32 × Nat
  | 0 => (-4, 1000000)
  | k + 1 => if p k < (tryM p k).2 then (nI k, p k) else tryM p k
theorem tryM_eq {p : Nat → Nat} (hp : p 0 ≤ 5) : ∀ k, tryM p (k + 1) = (nI (tryW p (k + 1)).1, (tryW p (k + 1)).2) := by
  intro k
  induction k with
  | zero =>
    show (if p 0 < 1000000 then (nI 0, p 0) else ((-4 : Int32), 1000000)) = (nI (if p 0 < 6 then (0, p 0) else (0, 6)).1, (if p 0 < 6 then (0, p 0) else (0, 6)).2)
    rw [if_pos (by omega), if_pos (by omega)]
  | succ k ih =>
    show (if p (k + 1) < (tryM p (k + 1)).2 then (nI (k + 1), p (k + 1)) else tryM p (k + 1)) = (nI (if p (k + 1) < (tryW p (k + 1)).2 then (k + 1, p (k + 1)) else tryW p (k + 1)).1, (if p (k + 1) < (tryW p (k + 1)).2 then (k + 1, p (k + 1)) else tryW p (k + 1)).2)
    rw [ih]
    by_cases e : p (k + 1) < (tryW p (k + 1)).2
    · rw [if_pos e, if_pos e]
    · rw [if_neg e, if_neg e]
theorem tryM_2 {p : Nat → Nat} (hp : ∀ k, p k ≤ 5) : ∀ k, (tryM p k).2 ≤ 1000000 := by
  intro k
  induction k with
  | zero => exact Nat.le_refl _
  | succ k ih =>
    show (if p k < (tryM p k).2 then (nI k, p k) else tryM p k).2 ≤ 1000000
    split
    · show p k ≤ 1000000; have := hp k; omega
    · exact ih
abbrev kU (F : NF) (t : Nat) (f : Nat → Int64) (i n s : Nat) : Nat → Vy := fun a => kV F t f i (asK (shipOf F s) (a + 1)) n
section BTR
variable {g : GT} {d : Nat} {I : IT} {J : JT}
theorem s_X8_bestTry {s t b i n : Nat} {f : Nat → Int64} {F : NF} {P : Int32 → IT → JT → Prop} (hd : 6 ≤ d) (hM : MF I 0 F) (hF : okF F) (hs : s < F 0) (ht : t < 4) (hb : b ≤ 72) (hn : n ≤ 10) (hi : i + 2 * n ≤ 24) (hJ : ∀ x, x < 24 → J 121 (b + x) = f x) (hw : ∀ k, k < n → wrd (f (i + 2 * k)) = true) (h : ∀ I', frX I I' → P (kTry F t (kst F t f i n (shipOf F s) 5) (kU F t f i n s)) I' J) : SemI g d M_X8_bestTry [.ref (ga g 118), .int (nI s), .int (nI t), .int (nI (b + i)), .int (nI n), .int (nI (kst F t f i n (shipOf F s) 5))] I J P := by
  have hW := hF.W
  have h6 := hF.1
  have hb1 := hW.1
  have tb : ∀ a, a < 5 → (kst F t f i n (shipOf F s) 5).testBit (a + 1) = fit F t f i n (asK (shipOf F s) (a + 1)) := kst_t 5 (by omega)
  have hS : kst F t f i n (shipOf F s) 5 < 64 := kst_lt 5 (by omega)
  have hv : ∀ a, a < 5 → okV F (kU F t f i n s a) := fun a ha => hcs_ok (okV_as (hF.ship hs) (by omega) (by omega)) hW n
  generalize kst F t f i n (shipOf F s) 5 = S at h tb hS
  refine w_X8_bestTry ?_
  unfold VC_X8_bestTry
  by_cases hS0 : S = 0
  · subst hS0
    refine w_X8_bestTry_11 ?_
    unfold VC_X8_bestTry_11
    exact ⟨fun z => absurd z (by decide), fun _ => ⟨fun _ => h I frX.rf, fun z => absurd (by decide) z⟩⟩
  unfold kTry at h
  rw [if_neg hS0] at h
  have hp5 : ∀ w, kPart F t S (kU F t f i n s) w ≤ 5 := fun w => kPart_le
  have hfin := tryM_eq (p := kPart F t S (kU F t f i n s)) (hp5 0) 2
  have bnd := tryM_2 (p := kPart F t S (kU F t f i n s)) hp5
  have part : ∀ w, kPart F t S (kU F t f i n s) w = gpM S (fun a => (hearV F (kU F t f i n s a) t w).2.1) 5 5 := fun w => (gp_eq 5).symm
  refine upTo (Q := fun k => ∀ I1, frX I I1 → Lp_X8_bestTry_11 g d (nI s) (nI t) (nI (b + i)) (nI n) (nI S) (tryM (kPart F t S (kU F t f i n s)) k).1 (nI (tryM (kPart F t S (kU F t f i n s)) k).2) (nI k) I1 J P) (N := 3) (fun I1 c1 => ?_) (fun k hk ih I1 c1 => ?_) I frX.rf
  · refine w_X8_bestTry_11 ?_
    unfold VC_X8_bestTry_11
    have := h I1 c1
    rw [show tryM (kPart F t S (kU F t f i n s)) 3 = _ from hfin]
    exact ⟨fun _ => this, fun z => absurd (by decide) z⟩
  · refine w_X8_bestTry_11 ?_
    unfold VC_X8_bestTry_11
    refine ⟨fun z => absurd ((nI_leI (a := 3) (by omega) (by omega)).mp z) (by omega), fun _ => ⟨fun z => absurd ((nI_leI (b := 0) (by omega) (by omega)).mp z) (by omega), fun _ => ?_⟩⟩
    have ih : ∀ I1, frX I I1 → Lp_X8_bestTry_11 g d (nI s) (nI t) (nI (b + i)) (nI n) (nI S) (if kPart F t S (kU F t f i n s) k < (tryM (kPart F t S (kU F t f i n s)) k).2 then (nI k, kPart F t S (kU F t f i n s) k) else tryM (kPart F t S (kU F t f i n s)) k).1 (nI (if kPart F t S (kU F t f i n s) k < (tryM (kPart F t S (kU F t f i n s)) k).2 then (nI k, kPart F t S (kU F t f i n s) k) else tryM (kPart F t S (kU F t f i n s)) k).2) (nI (k + 1)) I1 J P := ih
    have bk := bnd k
    rw [part k] at ih
    generalize tryM (kPart F t S (kU F t f i n s)) k = bl at ih bk
    refine upTo (Q := fun a => ∀ I2, frX I I2 → (∀ x, x < a → S.testBit (x + 1) = true → I2 129 (x + 1) = nI (hearV F (kU F t f i n s x) t k).2.1) → Lp_X8_bestTry_25 g d (nI s) (nI t) (nI (b + i)) (nI n) (nI S) bl.1 (nI bl.2) (nI k) (nI (a + 1)) I2 J P) (N := 5) (fun I2 c2 c3 => ?_) (fun a ha iha I2 c2 c3 => ?_) I1 c1 (fun x hx => absurd hx (by omega))
    · refine w_X8_bestTry_25 (by omega) ?_
      unfold VC_X8_bestTry_25
      refine ⟨fun _ => ?_, fun z => absurd (by decide) z⟩
      have cl : ∀ x, x < 5 → (hearV F (kU F t f i n s x) t k).2.1 < 48 := fun x hx => by have := (okV_hear (t := t) (w := k) (hv x hx) hW).2.2.1; omega
      obtain ⟨c, hc⟩ : ∃ c : Nat → Nat, ∀ a, c a = (hearV F (kU F t f i n s a) t k).2.1 := ⟨_, fun _ => rfl⟩
      have ef : (fun a => (hearV F (kU F t f i n s a) t k).2.1) = c := funext (fun a => (hc a).symm)
      rw [ef] at ih
      have cl : ∀ x, x < 5 → c x < 48 := fun x hx => by rw [hc]; exact cl x hx
      have c3 : ∀ x, x < 5 → S.testBit (x + 1) = true → I2 129 (x + 1) = nI (c x) := fun x hx hxS => by rw [hc]; exact c3 x hx hxS
      refine upTo (Q := fun a => Lp_X8_bestTry_103 g d (nI s) (nI t) (nI (b + i)) (nI n) (nI S) bl.1 (nI bl.2) (nI k) (nI (gpM S c 5 a)) (nI (a + 1)) I2 J P) (N := 5) ?_ (fun a ha iha => ?_)
      · refine w_X8_bestTry_103 ?_
        unfold VC_X8_bestTry_103
        have gl := gpM_le (S := S) (c := c) (m := 5) 5
        rw [nI_one]
        have ih := ih I2 c2
        refine ⟨fun _ => ⟨fun z => ?_, fun z => ?_⟩, fun z => absurd (by decide) z⟩
        · have z' := (nI_leI (by omega) (by omega)).mp z
          rw [if_neg (by omega)] at ih
          exact ⟨fun _ => ih, fun y => absurd z y⟩
        · have z' : ¬ bl.2 ≤ gpM S c 5 5 := fun y => z ((nI_leI (by omega) (by omega)).mpr y)
          rw [if_pos (by omega)] at ih
          exact ⟨fun y => absurd y z, fun _ => ih⟩
      · refine w_X8_bestTry_103 ?_
        unfold VC_X8_bestTry_103
        refine ⟨fun z => absurd ((nI_ltI (a := 5) (by omega) (by omega)).mp z) (by omega), fun _ => ?_⟩
        have e : gpM S c 5 (a + 1) = max (gpM S c 5 a) (if S.testBit (a + 1) then cnt S c a 5 else 0) := rfl
        rw [e] at iha
        have gl := gpM_le (S := S) (c := c) (m := 5) a
        have cl5 : ∀ x, cnt S c a x ≤ x := fun x => cnt_le x
        have key : Lp_X8_bestTry_115 g d (nI s) (nI t) (nI (b + i)) (nI n) (nI S) bl.1 (nI bl.2) (nI k) (nI (gpM S c 5 a)) (nI (a + 1)) (nI (if S.testBit (a + 1) = true then cnt S c a 0 else 0)) (nI (0 + 1)) I2 J P := by
          refine upTo (Q := fun x => Lp_X8_bestTry_115 g d (nI s) (nI t) (nI (b + i)) (nI n) (nI S) bl.1 (nI bl.2) (nI k) (nI (gpM S c 5 a)) (nI (a + 1)) (nI (if S.testBit (a + 1) then cnt S c a x else 0)) (nI (x + 1)) I2 J P) (N := 5) ?_ (fun x hx ihx => ?_)
          · refine w_X8_bestTry_115 (by omega) ?_
            unfold VC_X8_bestTry_115
            rw [nI_one]
            have l5 := cl5 5
            have lm : (if S.testBit (a + 1) then cnt S c a 5 else 0) ≤ 5 := by split <;> omega
            generalize (if S.testBit (a + 1) then cnt S c a 5 else 0) = m at iha lm
            refine ⟨fun _ => ⟨fun z => ?_, fun z => ?_⟩, fun z => absurd (by decide) z⟩
            · have z := (nI_leI (by omega) (by omega)).mp z
              rw [show max (gpM S c 5 a) m = gpM S c 5 a from by omega] at iha; exact iha
            · have z : ¬ m ≤ gpM S c 5 a := fun y => z ((nI_leI (by omega) (by omega)).mpr y)
              rw [show max (gpM S c 5 a) m = m from by omega] at iha; exact iha
          · refine w_X8_bestTry_115 (by omega) ?_
            unfold VC_X8_bestTry_115
            rw [x0, nI_one, nI_one, nI_cl (by omega), nI_cl (by omega)]
            rw [cnt_s] at ihx
            refine ⟨fun z => absurd ((nI_ltI (a := 5) (by omega) (by omega)).mp z) (by omega), fun _ => ?_⟩
            refine s_X8_has hS (by omega) ⟨fun z => ?_, fun z => ?_⟩
            · rw [z] at ihx ⊢; exact ihx
            rw [z] at ihx ⊢
            refine s_X8_has hS (by omega) ⟨fun y => ?_, fun y => ?_⟩
            · rw [y] at ihx; exact ihx
            rw [y] at ihx
            have k1 := cl a ha
            have k2 := cl x hx
            rw [c3 a ha z, c3 x hx y]
            refine ⟨vp_in_nI (by omega) (by omega), vp_in_nI (by omega) (by omega), fun q => ?_, fun q => ?_⟩
            · rw [decide_eq_false (fun w => q (by rw [w]))] at ihx; exact ihx
            · rw [decide_eq_true ((nI_eq (by omega) (by omega)).mp q).symm] at ihx; rw [nI_one]; exact ihx
        have z0 : (if S.testBit (a + 1) = true then cnt S c a 0 else 0) = 0 := by split <;> rfl
        rw [z0] at key
        exact key
    · refine w_X8_bestTry_25 (by omega) ?_
      unfold VC_X8_bestTry_25
      rw [nI_one, nI_cl (by omega), ix2 378 s 378 rfl, nI_cl (by omega)]
      refine ⟨fun z => absurd ((nI_ltI (a := 5) (by omega) (by omega)).mp z) (by omega), fun _ => ?_⟩
      refine s_X8_has hS (by omega) ⟨fun z => ?_, fun z => ?_⟩
      · refine iha I2 c2 (fun x hx hxS => ?_)
        by_cases e : x = a
        · subst e; exact (ff z hxS).elim
        · exact c3 x (by omega) hxS
      · have zf := z
        rw [tb a ha] at zf
        refine s_X8_isSo (κ := a + 1) (by omega) (c2.F hM) hF hs ht (by omega) (by omega) hb hn hi hJ hw (fun I3 d1 d2 => ?_)
        obtain ⟨m1, m2⟩ := d2 zf
        refine s_X8_says (r := 320) (by omega) (by omega) (by omega) ht (by omega) m1 m2 hW (hv a ha) (fun I4 f1 f2 _ => ?_)
        refine ⟨fun y => (ff y zf).elim, fun _ => ⟨vp_in_nI (by omega) (by omega), vp_in_nI (by omega) (by omega), ?_⟩⟩
        rw [show I4 119 (378 + s) = nI (hearV F (kU F t f i n s a) t k).2.1 from by have := f1.2.1; rwa [show 320 + 58 + s = 378 + s from by omega] at this]
        refine iha _ (c2.tr (d1.x.tr ((f2.t (by omega)).x.tr (frX.w (by omega))))) (fun x hx hxS => ?_)
        rw [sI_at]
        by_cases e : x = a
        · subst e; rw [if_pos ⟨rfl, rfl⟩]
        · rw [if_neg (by omega), f2.1 129 (by omega), d1.1 129 (by omega)]; exact c3 x (by omega) hxS
end BTR
abbrev cKn (s t sh ln n w : Int32) (σ : ST) : Prop := (inN s (sF σ 0) = true ∧ inN t 4 = true ∧ inN sh 4 = true ∧ inN ln 4 = true) ∧ inR n.toInt 1 10 = true ∧ inN w 2 = true
def kVal (F : NF) (s t : Nat) (f : Nat → Int64) (i n : Nat) (w : Int32) : Int32 := if w = 0 then nI (kst F t f i n (shipOf F s) 5) else kTry F t (kst F t f i n (shipOf F s) 5) (kU F t f i n s)
def vKinds (s t sh ln i n w : Int32) (σ : ST) : Int32 := if cKn s t sh ln n w σ then (if 0 ≤ rfs (sS σ sh.toNatClampNeg) ln i (2 * n) then (if allW (sX σ sh.toNatClampNeg) i.toNatClampNeg 2 n.toNatClampNeg then kVal (sF σ) s.toNatClampNeg t.toNatClampNeg (sX σ sh.toNatClampNeg) i.toNatClampNeg n.toNatClampNeg w else -2) else rfs (sS σ sh.toNatClampNeg) ln i (2 * n)) else -1
theorem e_kinds {g : GT} (a0 a1 a2 a3 a4 a5 a6 : Int32) : EQI g Rel M_X7_kinds M_X8_kinds [.int a0, .int a1, .int a2, .int a3, .int a4, .int a5, .int a6] := by
  refine eqI_of (vKinds a0 a1 a2 a3 a4 a5 a6) id (fun σ I J P hk hC h => ?_) (fun σ I J P hk hM h => ?_) (fun _ h => h)
  · refine w_X7_kinds (by omega) ?_
    unfold VC_X7_kinds
    unfold vKinds at h
    have bad : ¬ cKn a0 a1 a2 a3 a5 a6 σ → P (-1) I J := fun z => by rw [if_neg z] at h; exact h I J hC smM.rf
    refine s_X7_canTell (by omega) hC.2.1 hk.1 ⟨fun q => bad (fun z => by rw [cTel_t.mpr z.1] at q; cases q), fun q => ?_⟩
    have q := cTel_t.mp q
    rw [Int32.lt_iff_toInt_lt, Int32.lt_iff_toInt_lt, show (1 : Int32).toInt = 1 from by decide, show (10 : Int32).toInt = 10 from by decide]
    refine ⟨fun z => bad (fun y => by have := of_decide_eq_true y.2.1; omega), fun z1 => ⟨fun z => bad (fun y => by have := of_decide_eq_true y.2.1; omega), fun z2 => ?_⟩⟩
    have q5 : inR a5.toInt 1 10 = true := decide_eq_true (by omega)
    refine s_X7_isPart ⟨fun q6 => ?_, fun z => bad (fun y => ff z y.2.2)⟩
    have qc : cKn a0 a1 a2 a3 a5 a6 σ := ⟨q, q5, q6⟩
    obtain ⟨p1, p2, p3, p4⟩ := q
    have h6 := hk.1.1
    have hW := hk.1.W
    obtain ⟨s, hs, rfl⟩ := inN_n p1 (by omega)
    obtain ⟨t, ht, rfl⟩ := inN_n p2 (by omega)
    obtain ⟨k, hk4, rfl⟩ := inN_n p3 (by omega)
    obtain ⟨n, hn1, hn, rfl⟩ := inR_n (a := 1) (b := 10) q5 (by omega)
    rw [if_pos qc] at h
    rw [nI_cl (n := k) (by omega), nI_cl (n := n) (by omega), nI_cl (n := s) (by omega), nI_cl (n := t) (by omega)] at h
    rw [show (2 : Int32) * nI n = nI (2 * n) from pk_mul 2 n] at h ⊢
    have hs4 := hk.2.2.2.2.2.2.2 k hk4
    refine s_X7_refusalOf (by omega) hk4 hC.2.2.2.2.2 hs4.2 ⟨fun q7 => ⟨vp_in_nI hk4 (by omega), ?_⟩, fun q7 => ?_⟩
    · rw [if_pos q7] at h
      obtain ⟨z1, z2, z3⟩ := rfs_0 q7
      obtain ⟨i, hi, rfl⟩ := hld_n (by omega) hs4.2 z3
      rw [nI_cl (n := i) (by omega)] at h
      rw [nI_cl (n := k) (by omega)]
      have t4 := hs4.2
      have hJ : ∀ x, x < 24 → J (110 + 2 * k + 1) x = sX σ k x := fun x hx => by
        have := (hC.2.2.2.2.2 k hk4).2.2.2 x hx
        rwa [show 111 + 2 * k = 110 + 2 * k + 1 from by omega] at this
      refine s_X4_holdsWords (st := 2) (by omega) (isS_78 k hk4) hJ (by omega) (by omega) (by omega) (fun x hx => by omega) ⟨fun q8 => ⟨vp_in_nI hk4 (by omega), ?_⟩, fun q8 => ?_⟩
      · rw [if_pos q8] at h
        unfold kVal at h
        have ws : ∀ x, x < n → wrd (sX σ k (i + 2 * x)) = true := of_decide_eq_true q8
        refine s_X7_fittingKinds (by omega) (isS_78 k hk4) hC.2.1 hk.1 hs ht hn (by omega) hJ ws (fun I1 b1 b2 => ?_)
        have done : ∀ I2, (∀ a, (a < 79 ∨ (79 < a ∧ a < 96) ∨ 107 < a) → I2 a = I a) → RelC I2 J (id σ) ∧ smM I J I2 J := fun I2 e2 => ⟨hC.scr (J' := J) (fun a ha => e2 a (by omega)) (fun _ _ _ => rfl), ⟨fun a ha => e2 a (by omega), fun _ _ => rfl⟩⟩
        refine ⟨fun z => ?_, fun z => ?_⟩
        · rw [if_neg z] at h
          refine s_X7_wordToTry (u := kU (sF σ) t (sX σ k) i n s) (by omega) (kst_lt 5 (by omega)) (hC.2.1.sea.cg (b1 _ (by omega)) (b1 _ (by omega))) hW (fun a ha haS => ?_) ht (fun I2 e2 => ?_)
          · rw [kst_t 5 (by omega) a ha] at haS
            exact ⟨b2 a ha haS, hcs_ok (okV_as (hk.1.ship hs) (by omega) (by omega)) hW n⟩
          · have := done I2 (fun a ha => by rw [e2 a (by omega) (by omega) (by omega), b1 a (by omega)])
            exact h I2 J this.1 this.2
        · rw [if_pos z] at h
          have := done I1 (fun a ha => b1 a (by omega))
          exact h I1 J this.1 this.2
      · rw [if_neg (by rw [q8]; decide)] at h
        exact h I J hC smM.rf
    · rw [if_neg q7] at h
      exact h I J hC smM.rf
  · refine w_X8_kinds (by omega) ?_
    unfold VC_X8_kinds
    unfold vKinds at h
    have bad : ¬ cKn a0 a1 a2 a3 a5 a6 σ → P (-1) I J := fun z => by rw [if_neg z] at h; exact h I J hM smC.rf
    refine s_X8_isShip (by omega) hM.2.1 hk.1 ⟨fun z => bad (fun y => ff z y.1.1), fun p1 => ?_⟩
    refine s_X8_isTeller (by omega) ⟨fun z => bad (fun y => ff z y.1.2.1), fun p2 => ?_⟩
    refine s_X8_isLane (by omega) ⟨fun z => bad (fun y => by rw [y.1.2.2.1, y.1.2.2.2] at z; cases z), fun p34 => ?_⟩
    obtain ⟨p3, p4⟩ := Bool.and_eq_true_iff.mp p34
    refine s_X8_inR (lo := 1) (hi := 10) (by decide) (by decide) ⟨fun z => bad (fun y => ff z y.2.1), fun q5 => ?_⟩
    refine s_X8_inN (n := 2) (by decide) ⟨fun q6 => ?_, fun z => bad (fun y => ff z y.2.2)⟩
    have qc : cKn a0 a1 a2 a3 a5 a6 σ := ⟨⟨p1, p2, p3, p4⟩, q5, q6⟩
    have h6 := hk.1.1
    have hW := hk.1.W
    obtain ⟨s, hs, rfl⟩ := inN_n p1 (by omega)
    obtain ⟨t, ht, rfl⟩ := inN_n p2 (by omega)
    obtain ⟨k, hk4, rfl⟩ := inN_n p3 (by omega)
    obtain ⟨n, hn1, hn, rfl⟩ := inR_n (a := 1) (b := 10) q5 (by omega)
    rw [if_pos qc] at h
    rw [nI_cl (n := k) (by omega), nI_cl (n := n) (by omega), nI_cl (n := s) (by omega), nI_cl (n := t) (by omega)] at h
    rw [show (2 : Int32) * nI n = nI (2 * n) from pk_mul 2 n] at h ⊢
    have hs4 := hk.2.2.2.2.2.2.2 k hk4
    refine s_X8_against hk4 (by omega) hM.2.2.2.2.2 hs4.2 ⟨fun q7 => ?_, fun q7 => ?_⟩
    · rw [if_pos q7] at h
      obtain ⟨z1, z2, z3⟩ := rfs_0 q7
      obtain ⟨i, hi, rfl⟩ := hld_n (by omega) hs4.2 z3
      rw [nI_cl (n := i) (by omega)] at h
      have t4 := hs4.2
      have hJ : ∀ x, x < 24 → J 121 (24 * k + x) = sX σ k x := fun x hx => (hM.2.2.2.2.2 k hk4).2.2 x hx
      rw [show (24 : Int32) * nI k + nI i = nI (24 * k + i) from by rw [show (24 : Int32) = nI 24 from rfl, pk_mul, nI_add]]
      refine s_X8_areWords (st := 2) (by omega) hJ (by omega) (by omega) (by omega) (by omega) (fun x hx => by omega) ⟨fun q8 => ?_, fun q8 => ?_⟩
      · rw [if_pos q8] at h
        unfold kVal at h
        have ws : ∀ x, x < n → wrd (sX σ k (i + 2 * x)) = true := of_decide_eq_true q8
        refine upTo (Q := fun a => ∀ I1, frX I I1 → Lp_X8_kinds_103 g 40 (nI s) (nI t) (nI n) a6 (nI (24 * k + i)) (nI (kst (sF σ) t (sX σ k) i n (shipOf (sF σ) s) a)) (nI (a + 1)) I1 J P) (N := 5) (fun I1 c1 => ?_) (fun a ha ih I1 c1 => ?_) I frX.rf
        · refine w_X8_kinds_103 (by omega) ?_
          unfold VC_X8_kinds_103
          refine ⟨fun _ => ⟨fun z => ?_, fun z => ?_⟩, fun z => absurd (by decide) z⟩
          · rw [if_neg z] at h
            exact s_X8_bestTry (by omega) (c1.F hM.2.1) hk.1 hs ht (by omega) hn (by omega) hJ ws (fun I2 d1 => h I2 J ((c1.tr d1).M hM) (c1.tr d1).C)
          · rw [if_pos z] at h
            exact h I1 J (c1.M hM) c1.C
        · refine w_X8_kinds_103 (by omega) ?_
          unfold VC_X8_kinds_103
          have l1 := l64 (by omega) (kst_lt (F := sF σ) (t := t) (f := sX σ k) (i := i) (n := n) (v := shipOf (sF σ) s) a (by omega))
          rw [nI_one, or0, or_bit _ l1 (a + 1) (by omega)]
          rw [kst_s] at ih
          refine ⟨fun z => absurd ((nI_ltI (a := 5) (by omega) (by omega)).mp z) (by omega), fun _ => ?_⟩
          refine s_X8_isSo (by omega) (c1.F hM.2.1) hk.1 hs ht (by omega) (by omega) (by omega) hn (by omega) hJ ws (fun I2 d1 _ => ⟨fun z => ?_, fun z => ?_⟩)
          · rw [z] at ih; exact ih I2 (c1.tr d1.x)
          · rw [z] at ih; exact ih I2 (c1.tr d1.x)
      · rw [if_neg (by rw [q8]; decide)] at h
        exact h I J hM smC.rf
    · rw [if_neg q7] at h
      exact h I J hM smC.rf
