-- ===== words on sheets; log =====
theorem ff {b : Bool} (h : b = false) (h2 : b = true) : False := by rw [h] at h2; cases h2
def wrd (v : Int64) : Bool := decide (0 ≤ v.toInt ∧ v.toInt < 3)
def wv (v : Int64) : Nat := v.toInt32.toNatClampNeg
theorem wrd_n {v : Int64} (h : wrd v = true) : wv v < 3 ∧ v.toInt32 = nI (wv v) ∧ v = lN (wv v) := by
  have h := of_decide_eq_true h
  have h0 : (0 : Int64).toInt = 0 := by decide
  obtain ⟨k, hk, rfl⟩ := pk_lOf (x := v) (by rw [Int64.lt_iff_toInt_lt, h0]; omega)
  rw [pk_lT hk] at h
  have e : wv (lN k) = k := by unfold wv; rw [lN_i, nI_cl (by omega)]
  rw [e]
  exact ⟨by omega, lN_i k, rfl⟩
def allW (f : Nat → Int64) (i st n : Nat) : Bool := decide (∀ k, k < n → wrd (f (i + st * k)) = true)
theorem allW_s {f : Nat → Int64} {i st k : Nat} : allW f i st (k + 1) = (allW f i st k && wrd (f (i + st * k))) := by
  unfold allW
  cases hw : wrd (f (i + st * k)) with
  | true =>
    rw [Bool.and_true]
    apply decide_eq_decide.mpr
    constructor
    · intro h j hj; exact h j (by omega)
    · intro h j hj
      by_cases e : j = k
      · rw [e]; exact hw
      · exact h j (by omega)
  | false =>
    rw [Bool.and_false]
    exact decide_eq_false (fun h => by have := h k (by omega); rw [hw] at this; cases this)
section WRD
variable {g : GT} {d : Nat} {I : IT} {J : JT}
theorem s_X7_isWordL {v : Int64} {P : Bool → IT → JT → Prop} (h : P (wrd v) I J) : SemZ g d M_X7_isWord [.long v] I J P := by
  refine w_X7_isWord ?_
  unfold VC_X7_isWord
  have h0 : (0 : Int64).toInt = 0 := by decide
  have h3 : (3 : Int64).toInt = 3 := by decide
  unfold wrd at h
  refine ⟨fun q => ?_, fun q => ⟨fun q2 => ?_, fun q2 => ?_⟩⟩
  · rw [Int64.lt_iff_toInt_lt, h0] at q; rw [decide_eq_false (by omega)] at h; exact h
  · rw [Int64.lt_iff_toInt_lt, h3] at q2; rw [decide_eq_false (by omega)] at h; exact h
  · rw [Int64.lt_iff_toInt_lt, h0] at q; rw [Int64.lt_iff_toInt_lt, h3] at q2; rw [decide_eq_true (by omega)] at h; exact h
theorem s_X8_isWordL {v : Int64} {P : Bool → IT → JT → Prop} (hd : 1 ≤ d) (h : P (wrd v) I J) : SemZ g d M_X8_isWord [.long v] I J P := by
  refine w_X8_isWord hd ?_
  unfold VC_X8_isWord
  refine s_X8_in ?_
  rw [show (0 : Int64).toInt = 0 from by decide, inR_N (n := 3) (by decide)]
  exact h
theorem s_X4_holdsWords {o i n st : Nat} {f : Nat → Int64} {P : Bool → IT → JT → Prop} (hd : 1 ≤ d) (ho : isS o) (hf : ∀ x, x < 24 → J (o + 1) x = f x) (hn : n ≤ 24) (hi : i ≤ 24) (hst : st ≤ 2) (hin : ∀ k, k < n → i + st * k < 24) (h : P (allW f i st n) I J) : SemZ g d M_X4_holdsWords [.ref (ga g o), .int (nI i), .int (nI n), .int (nI st)] I J P := by
  refine w_X4_holdsWords ho (upTo (Q := fun k => allW f i st k = true → Lp_X4_holdsWords_3 g d o (nI i) (nI n) (nI st) (nI k) I J P) (N := n) (fun q => ?_) (fun k hk ih q => ?_) (decide_eq_true (fun k hk => absurd hk (by omega))))
  · refine w_X4_holdsWords_3 ho hd ?_
    unfold VC_X4_holdsWords_3
    rw [q] at h
    exact ⟨fun _ => h, fun z => absurd (nI_le (Nat.le_refl _) (by omega)) z⟩
  · refine w_X4_holdsWords_3 ho hd ?_
    unfold VC_X4_holdsWords_3
    have hb := hin k hk
    rw [pk_mul, nI_add, nI_cl (by omega), nI_one, hf _ hb]
    refine ⟨fun z => absurd ((nI_leI (by omega) (by omega)).mp z) (by omega), fun _ => ⟨vp_in_nI hb (by omega), s_X7_isWordL ⟨fun z => ih (by rw [allW_s, q, z]; rfl), fun z => ?_⟩⟩⟩
    have : allW f i st n = false := decide_eq_false (fun y => by have := y k hk; rw [z] at this; cases this)
    rw [this] at h; exact h
theorem s_X8_areWords {b i n st : Nat} {f : Nat → Int64} {P : Bool → IT → JT → Prop} (hd : 2 ≤ d) (hf : ∀ x, x < 24 → J 121 (b + x) = f x) (hb : b ≤ 72) (hn : n ≤ 24) (hi : i ≤ 24) (hst : st ≤ 2) (hin : ∀ k, k < n → i + st * k < 24) (h : P (allW f i st n) I J) : SemZ g d M_X8_areWords [.ref (ga g 118), .int (nI (b + i)), .int (nI n), .int (nI st)] I J P := by
  refine w_X8_areWords (upTo (Q := fun k => ∀ c, allW f i st k = c → Lp_X8_areWords_6 g d (nI (b + i)) (nI n) (nI st) c (nI k) I J P) (N := n) (fun c q => ?_) (fun k hk ih c q => ?_) true (decide_eq_true (fun k hk => absurd hk (by omega))))
  · refine w_X8_areWords_6 (by omega) ?_
    unfold VC_X8_areWords_6
    rw [q] at h
    exact ⟨fun _ => h, fun z => absurd (nI_le (Nat.le_refl _) (by omega)) z⟩
  · refine w_X8_areWords_6 (by omega) ?_
    unfold VC_X8_areWords_6
    have hb' := hin k hk
    rw [pk_mul, nI_add, nI_cl (by omega), nI_one, show b + i + st * k = b + (i + st * k) from by omega, hf _ hb']
    refine ⟨fun z => absurd ((nI_leI (by omega) (by omega)).mp z) (by omega), fun _ => ⟨fun z => ih false (by rw [allW_s, q, z]; rfl), fun z => ⟨vp_in_nI (by omega) (by omega), s_X8_isWordL (by omega) ⟨fun z2 => ih false (by rw [allW_s, q, z, z2]; rfl), fun z2 => ih true (by rw [allW_s, q, z, z2]; rfl)⟩⟩⟩⟩
end WRD
def cTel (s t sh ln : Int32) (σ : ST) : Bool := inN s (sF σ 0) && (inN t 4 && (inN sh 4 && inN ln 4))
theorem cTel_t {s t sh ln : Int32} {σ : ST} : cTel s t sh ln σ = true ↔ inN s (sF σ 0) = true ∧ inN t 4 = true ∧ inN sh 4 = true ∧ inN ln 4 = true := by
  unfold cTel
  rw [Bool.and_eq_true, Bool.and_eq_true, Bool.and_eq_true]
theorem s_X7_canTell {g : GT} {d : Nat} {I : IT} {J : JT} {s t sh ln : Int32} {σ : ST} {P : Bool → IT → JT → Prop} (hd : 1 ≤ d) (hC : FlC I 3 (sF σ)) (hF : okF (sF σ)) (h : P (cTel s t sh ln σ) I J) : SemZ g d M_X7_canTell [.ref (ga g 0), .int s, .int t, .int sh, .int ln] I J P := by
  refine w_X7_canTell hd ?_
  unfold VC_X7_canTell
  unfold cTel at h
  refine s_X2_hasShip isF_3 hC hF ⟨fun q => ?_, fun q => ?_⟩
  · rw [q] at h; exact h
  refine s_X7_isTeller ⟨fun q2 => ?_, fun q2 => ?_⟩
  · rw [q, q2] at h; exact h
  refine s_X7_isSheet ⟨fun q3 => ?_, fun q3 => ?_⟩
  · rw [q, q2, q3] at h; exact h
  refine s_X7_isLane ⟨fun q4 => ?_, fun q4 => ?_⟩
  · rw [q, q2, q3, q4] at h; exact h
  · rw [q, q2, q3, q4] at h; exact h
-- log
def lgV (F : NF) (t : Nat) (f : Nat → Int64) (i : Nat) (v : Vy) : Nat → Vy
  | 0 => v
  | k + 1 => hearV F (lgV F t f i v k) t (wv (f (i + k)))
def lgX (F : NF) (t : Nat) (f : Nat → Int64) (i : Nat) (v : Vy) (n : Nat) : Nat → Int64 := fun x => if i ≤ x ∧ x < i + n then (nI (lgV F t f i v (x - i + 1)).2.1).toInt64 else f x
theorem lgV_ok {F : NF} {t : Nat} {f : Nat → Int64} {i : Nat} {v : Vy} (h : okV F v) (hW : okW F) : ∀ k, okV F (lgV F t f i v k) := by
  intro k
  induction k with
  | zero => exact h
  | succ k ih => exact okV_hear ih hW
theorem nrwC : ∀ l, l < 4 → ∀ c, c < 48 → nrw l (nI c).toInt64 = (nI c).toInt64 := by decide +kernel
theorem lgX_s {F : NF} {t : Nat} {f : Nat → Int64} {i : Nat} {v : Vy} {k : Nat} : upL (lgX F t f i v k) (i + k) (nI (lgV F t f i v (k + 1)).2.1).toInt64 = lgX F t f i v (k + 1) := by
  funext x
  unfold upL lgX
  by_cases e : x = i + k
  · rw [if_pos e, if_pos (by omega), show x - i + 1 = k + 1 from by omega]
  · rw [if_neg e]
    by_cases e2 : i ≤ x ∧ x < i + k
    · rw [if_pos e2, if_pos (by omega)]
    · rw [if_neg e2, if_neg (by omega)]
theorem lgX_0 {F : NF} {t : Nat} {f : Nat → Int64} {i : Nat} {v : Vy} : lgX F t f i v 0 = f := by
  funext x; unfold lgX; rw [if_neg (by omega)]
theorem lgX_at {F : NF} {t : Nat} {f : Nat → Int64} {i : Nat} {v : Vy} {k : Nat} : lgX F t f i v k (i + k) = f (i + k) := by
  unfold lgX; rw [if_neg (by omega)]
abbrev cLog (s t sh ln n : Int32) (σ : ST) : Prop := (inN s (sF σ 0) = true ∧ inN t 4 = true ∧ inN sh 4 = true ∧ inN ln 4 = true) ∧ inR n.toInt 1 24 = true
abbrev gLog (s t sh ln i n : Int32) (σ : ST) : Prop := cLog s t sh ln n σ ∧ 0 ≤ rfs (sS σ sh.toNatClampNeg) ln i n ∧ allW (sX σ sh.toNatClampNeg) i.toNatClampNeg 1 n.toNatClampNeg = true
def vLog (s t sh ln i n : Int32) (σ : ST) : Int32 := if cLog s t sh ln n σ then (if 0 ≤ rfs (sS σ sh.toNatClampNeg) ln i n then (if allW (sX σ sh.toNatClampNeg) i.toNatClampNeg 1 n.toNatClampNeg then n else -2) else rfs (sS σ sh.toNatClampNeg) ln i n) else -1
def tLog (s t sh ln i n : Int32) (σ : ST) : ST := if gLog s t sh ln i n σ then (sF σ, sG0 σ, sG1 σ, sA σ, sT σ, sS σ, upX (sX σ) sh.toNatClampNeg (lgX (sF σ) t.toNatClampNeg (sX σ sh.toNatClampNeg) i.toNatClampNeg (shipOf (sF σ) s.toNatClampNeg) n.toNatClampNeg)) else σ
theorem e_log {g : GT} (a0 a1 a2 a3 a4 a5 : Int32) : EQI g Rel M_X7_log M_X8_log [.int a0, .int a1, .int a2, .int a3, .int a4, .int a5] := by
  refine eqI_of (vLog a0 a1 a2 a3 a4 a5) (tLog a0 a1 a2 a3 a4 a5) (fun σ I J P hk hC h => ?_) (fun σ I J P hk hM h => ?_) (fun σ hk => ?_)
  · refine w_X7_log (by omega) ?_
    unfold VC_X7_log
    unfold tLog at h
    have no : ¬ gLog a0 a1 a2 a3 a4 a5 σ → P (vLog a0 a1 a2 a3 a4 a5 σ) I J := fun z => by rw [if_neg z] at h; exact h I J hC smM.rf
    unfold vLog at h no
    have bad : ¬ cLog a0 a1 a2 a3 a5 σ → P (-1) I J := fun z => by have := no (fun y => z y.1); rw [if_neg z] at this; exact this
    refine s_X7_canTell (by omega) hC.2.1 hk.1 ⟨fun q => bad (fun z => by rw [cTel_t.mpr z.1] at q; cases q), fun q => ?_⟩
    have q := cTel_t.mp q
    rw [Int32.lt_iff_toInt_lt, Int32.le_iff_toInt_le, show (1 : Int32).toInt = 1 from by decide, show (24 : Int32).toInt = 24 from by decide]
    refine ⟨fun z => bad (fun y => by have := of_decide_eq_true y.2; omega), fun z1 => ⟨fun z2 => ?_, fun z => bad (fun y => by have := of_decide_eq_true y.2; omega)⟩⟩
    have q5 : inR a5.toInt 1 24 = true := decide_eq_true (by omega)
    have qc : cLog a0 a1 a2 a3 a5 σ := ⟨q, q5⟩
    obtain ⟨p1, p2, p3, p4⟩ := q
    have h6 := hk.1.1
    have hW := hk.1.W
    obtain ⟨s, hs, rfl⟩ := inN_n p1 (by omega)
    obtain ⟨t, ht, rfl⟩ := inN_n p2 (by omega)
    obtain ⟨k, hk4, rfl⟩ := inN_n p3 (by omega)
    obtain ⟨l, hl4, rfl⟩ := inN_n p4 (by omega)
    obtain ⟨n, hn1, hn, rfl⟩ := inR_n (a := 1) (b := 24) q5 (by omega)
    rw [if_pos qc] at h no
    unfold gLog at h no
    rw [nI_cl (by omega)] at h no
    rw [nI_cl (by omega)] at h no
    rw [nI_cl (by omega)] at h
    rw [nI_cl (by omega)] at h
    have hs4 := hk.2.2.2.2.2.2.2 k hk4
    refine s_X7_refusalOf (by omega) hk4 hC.2.2.2.2.2 hs4.2 ⟨fun q6 => ⟨vp_in_nI hk4 (by omega), ?_⟩, fun q6 => ?_⟩
    · rw [if_pos q6] at h no
      obtain ⟨z1, z2, z3⟩ := rfs_0 q6
      have z2 : (sS σ k).2.1 = l := (nI_eq (by omega) (by omega)).mp z2
      obtain ⟨i, hi, rfl⟩ := hld_n (by omega) hs4.2 z3
      rw [nI_cl (by omega)] at h no ⊢
      have t4 := hs4.2
      have hJ : ∀ x, x < 24 → J (110 + 2 * k + 1) x = sX σ k x := fun x hx => by
        have := (hC.2.2.2.2.2 k hk4).2.2.2 x hx
        rwa [show 111 + 2 * k = 110 + 2 * k + 1 from by omega] at this
      refine s_X4_holdsWords (st := 1) (by omega) (isS_78 k hk4) hJ hn (by omega) (by omega) (fun x hx => by omega) ⟨fun q7 => ?_, fun q7 => ?_⟩
      · rw [if_pos q7, if_pos ⟨qc, q6, q7⟩] at h
        have ws : ∀ x, x < n → wrd (sX σ k (i + x)) = true := fun x hx => by have := of_decide_eq_true q7 x hx; rwa [Nat.one_mul] at this
        refine s_X6_board (by omega) isV_96 isF_3 (by omega) hC.2.1 hk.1 hs (fun I1 b1 b2 => ?_)
        have hv := hk.1.ship hs
        refine upTo (Q := fun x => ∀ I2 J2, CV I2 96 (lgV (sF σ) t (sX σ k) i (shipOf (sF σ) s) x) → (∀ a, a ≠ 96 → a ≠ 97 → I2 a = I a) → (∀ y, y < 24 → J2 (110 + 2 * k + 1) y = lgX (sF σ) t (sX σ k) i (shipOf (sF σ) s) x y) → (∀ a, a ≠ 110 + 2 * k + 1 → J2 a = J a) → Lp_X7_log_94 g 40 (nI t) (nI i) (nI n) (110 + 2 * k) (nI (i + x)) I2 J2 P) (N := n) (fun I2 J2 c1 c2 c3 c4 => ?_) (fun x hx ih I2 J2 c1 c2 c3 c4 => ?_) I1 J b1 b2 (fun y hy => by rw [lgX_0]; exact hJ y hy) (fun _ _ => rfl)
        · refine w_X7_log_94 (isS_78 k hk4) (by omega) ?_
          unfold VC_X7_log_94
          rw [nI_add]
          refine ⟨fun _ => ?_, fun z => absurd (nI_le (Nat.le_refl _) (by omega)) z⟩
          have hR := hC.scr (J' := J) (fun a ha => c2 a (by omega) (by omega)) (fun _ _ _ => rfl)
          refine h I2 J2 (hR.items (fun k' hk' y hy => ?_)) ⟨fun a ha => c2 a (by omega) (by omega), fun a ha => c4 a (by omega)⟩
          by_cases e : k' = k
          · subst e; rw [upX_eq, show 111 + 2 * k' = 110 + 2 * k' + 1 from by omega]; exact c3 y hy
          · rw [upX_ne e, c4 _ (by omega)]; exact (hC.2.2.2.2.2 k' hk').2.2.2 y hy
        · refine w_X7_log_94 (isS_78 k hk4) (by omega) ?_
          unfold VC_X7_log_94
          obtain ⟨w1, w2, -⟩ := wrd_n (ws x hx)
          rw [nI_add, nI_cl (by omega), c3 (i + x) (by omega), lgX_at, w2]
          refine ⟨fun z => absurd ((nI_leI (by omega) (by omega)).mp z) (by omega), fun _ => ⟨vp_in_nI (by omega) (by omega), ?_⟩⟩
          refine s_X6_hear (by omega) isV_96 (by omega) c1 (hC.2.1.sea.cg (c2 _ (by omega) (by omega)) (c2 _ (by omega) (by omega))) hW (lgV_ok hv hW x) ht w1 (fun I3 d1 d2 => ?_)
          have e3 : ∀ a, a ≠ 96 → a ≠ 97 → I3 a = I a := fun a y1 y2 => by rw [d2 a y1 y2, c2 a y1 y2]
          have okc := lgV_ok (t := t) (f := sX σ k) (i := i) hv hW (x + 1)
          have hb1 := hW.1
          rw [d1.2.1, nI_one]
          refine s_X4_put (l := l) (by omega) (isS_78 k hk4) (by rw [e3 _ (by omega) (by omega), (hC.2.2.2.2.2 k hk4).2.1, z2]) hl4 (by omega) ?_
          have ec : (lgV (sF σ) t (sX σ k) i (shipOf (sF σ) s) (x + 1)).2.1 < 48 := by have := okc.2.2.1; omega
          have en : nrw l (nI (hearV (sF σ) (lgV (sF σ) t (sX σ k) i (shipOf (sF σ) s) x) t (wv (sX σ k (i + x)))).2.1).toInt64 = _ := nrwC l hl4 _ ec
          rw [en]
          refine ih I3 _ d1 e3 (fun y hy => ?_) (fun a ha => by rw [sJ_ne ha]; exact c4 a ha)
          rw [sJ_at, ← lgX_s]
          unfold upL
          by_cases e : y = i + x
          · rw [if_pos ⟨rfl, e⟩, if_pos e]; rfl
          · rw [if_neg (fun z => e z.2), if_neg e]; exact c3 y hy
      · have := no (fun y => by rw [q7] at y; exact absurd y.2.2 (by decide))
        rw [if_neg (by rw [q7]; decide)] at this; exact this
    · have := no (fun y => q6 y.2.1)
      rw [if_neg q6] at this; exact this
  · refine w_X8_log (by omega) ?_
    unfold VC_X8_log
    unfold tLog at h
    have no : ¬ gLog a0 a1 a2 a3 a4 a5 σ → P (vLog a0 a1 a2 a3 a4 a5 σ) I J := fun z => by rw [if_neg z] at h; exact h I J hM smC.rf
    unfold vLog at h no
    have bad : ¬ cLog a0 a1 a2 a3 a5 σ → P (-1) I J := fun z => by have := no (fun y => z y.1); rw [if_neg z] at this; exact this
    refine s_X8_isShip (by omega) hM.2.1 hk.1 ⟨fun z => bad (fun y => ff z y.1.1), fun p1 => ?_⟩
    refine s_X8_isTeller (by omega) ⟨fun z => bad (fun y => ff z y.1.2.1), fun p2 => ?_⟩
    refine s_X8_isLane (by omega) ⟨fun z => bad (fun y => by rw [y.1.2.2.1, y.1.2.2.2] at z; cases z), fun p34 => ?_⟩
    obtain ⟨p3, p4⟩ := Bool.and_eq_true_iff.mp p34
    refine s_X8_inR (lo := 1) (hi := 24) (by decide) (by decide) ⟨fun q5 => ?_, fun z => bad (fun y => ff z y.2)⟩
    have qc : cLog a0 a1 a2 a3 a5 σ := ⟨⟨p1, p2, p3, p4⟩, q5⟩
    have h6 := hk.1.1
    have hW := hk.1.W
    obtain ⟨s, hs, rfl⟩ := inN_n p1 (by omega)
    obtain ⟨t, ht, rfl⟩ := inN_n p2 (by omega)
    obtain ⟨k, hk4, rfl⟩ := inN_n p3 (by omega)
    obtain ⟨l, hl4, rfl⟩ := inN_n p4 (by omega)
    obtain ⟨n, hn1, hn, rfl⟩ := inR_n (a := 1) (b := 24) q5 (by omega)
    rw [if_pos qc] at h no
    unfold gLog at h no
    rw [nI_cl (by omega)] at h no
    rw [nI_cl (by omega)] at h no
    rw [nI_cl (by omega)] at h
    rw [nI_cl (by omega)] at h
    have hs4 := hk.2.2.2.2.2.2.2 k hk4
    refine s_X8_against hk4 (by omega) hM.2.2.2.2.2 hs4.2 ⟨fun q6 => ?_, fun q6 => ?_⟩
    · rw [if_pos q6] at h no
      obtain ⟨z1, z2, z3⟩ := rfs_0 q6
      obtain ⟨i, hi, rfl⟩ := hld_n (by omega) hs4.2 z3
      rw [nI_cl (by omega)] at h no
      have t4 := hs4.2
      have hJ : ∀ x, x < 24 → J 121 (24 * k + x) = sX σ k x := fun x hx => (hM.2.2.2.2.2 k hk4).2.2 x hx
      rw [show (24 : Int32) * nI k + nI i = nI (24 * k + i) from by rw [show (24 : Int32) = nI 24 from rfl, pk_mul, nI_add]]
      refine s_X8_areWords (st := 1) (by omega) hJ (by omega) hn (by omega) (by omega) (fun x hx => by omega) ⟨fun q7 => ?_, fun q7 => ?_⟩
      · rw [if_pos q7, if_pos ⟨qc, q6, q7⟩] at h
        have ws : ∀ x, x < n → wrd (sX σ k (i + x)) = true := fun x hx => by have := of_decide_eq_true q7 x hx; rwa [Nat.one_mul] at this
        refine s_X8_tries (by omega) hM.2.1 (fun I1 b1 b2 => ?_)
        have hv := hk.1.ship hs
        refine upTo (Q := fun x => ∀ I2 J2, MV I2 320 s (lgV (sF σ) t (sX σ k) i (shipOf (sF σ) s) x) → MSea I2 320 (sF σ) → frT I I2 → (∀ y, y < 24 → J2 121 (24 * k + y) = lgX (sF σ) t (sX σ k) i (shipOf (sF σ) s) x y) → (∀ j y, j < 4 → j ≠ k → y < 24 → J2 121 (24 * j + y) = J 121 (24 * j + y)) → (∀ a, a ≠ 121 → J2 a = J a) → Lp_X8_log_91 g 40 (nI s) (nI t) (nI n) (nI (24 * k + i)) (nI x) I2 J2 P) (N := n) (fun I2 J2 c1 c2 c3 c4 c5 c6 => ?_) (fun x hx ih I2 J2 c1 c2 c3 c4 c5 c6 => ?_) I1 J (b1.ship (by omega)) b1.sea b2 (fun y hy => by rw [lgX_0]; exact hJ y hy) (fun _ _ _ _ _ => rfl) (fun _ _ => rfl)
        · refine w_X8_log_91 (by omega) ?_
          unfold VC_X8_log_91
          refine ⟨fun _ => ?_, fun z => absurd (nI_le (Nat.le_refl _) (by omega)) z⟩
          refine h I2 J2 ((c3.M hM).items (fun k' hk' y hy => ?_)) ⟨fun a ha => c3.1 a (by omega), fun a ha => c6 a (by omega)⟩
          by_cases e : k' = k
          · subst e; rw [upX_eq]; exact c4 y hy
          · rw [upX_ne e, c5 k' y hk' e hy]; exact (hM.2.2.2.2.2 k' hk').2.2 y hy
        · refine w_X8_log_91 (by omega) ?_
          unfold VC_X8_log_91
          obtain ⟨w1, w2, -⟩ := wrd_n (ws x hx)
          rw [nI_add, nI_cl (by omega), show 24 * k + i + x = 24 * k + (i + x) from by omega, c4 (i + x) (by omega), lgX_at, w2, nI_one]
          have hp : vp_in (nI (24 * k + (i + x))) 96 := vp_in_nI (by omega) (by omega)
          refine ⟨fun z => absurd ((nI_leI (by omega) (by omega)).mp z) (by omega), fun _ => ⟨hp, ?_⟩⟩
          refine s_X8_says (r := 320) (by omega) (by omega) (by omega) ht w1 c1 c2 hW (lgV_ok hv hW x) (fun I3 d1 d2 _ => ?_)
          rw [ix2 378 s 378 rfl, nI_cl (by omega)]
          refine ⟨vp_in_nI (by omega) (by omega), hp, ?_⟩
          rw [show I3 119 (378 + s) = nI (lgV (sF σ) t (sX σ k) i (shipOf (sF σ) s) (x + 1)).2.1 from by have := d1.2.1; rwa [show 320 + 58 + s = 378 + s from by omega] at this]
          refine ih I3 _ d1 (d2.sea (by omega) c2) (c3.tr (d2.t (by omega))) (fun y hy => ?_) (fun j y hj hne hy => by rw [sJ_at, if_neg (by omega)]; exact c5 j y hj hne hy) (fun a ha => by rw [sJ_ne ha]; exact c6 a ha)
          rw [sJ_at, ← lgX_s]
          unfold upL
          by_cases e : y = i + x
          · rw [if_pos ⟨rfl, by omega⟩, if_pos e]
          · rw [if_neg (by omega), if_neg e]; exact c4 y hy
      · have := no (fun y => by rw [q7] at y; exact absurd y.2.2 (by decide))
        rw [if_neg (by rw [q7]; decide)] at this; exact this
    · have := no (fun y => q6 y.2.1)
      rw [if_neg q6] at this; exact this
  · unfold tLog
    split
    · exact okT_X hk
    · exact hk
