-- ===== kinds =====
/-- what the reference's thoughts may write -/
def frX (I I' : IT) : Prop := (∀ a, (a ≤ 118 ∨ a = 120 ∨ a = 122 ∨ a = 123) → I' a = I a) ∧ ∀ j, (j < 240 ∨ 400 ≤ j) → I' 119 j = I 119 j
theorem frX.rf {I : IT} : frX I I := ⟨fun _ _ => rfl, fun _ _ => rfl⟩
theorem frX.tr {I I1 I2 : IT} (h : frX I I1) (h2 : frX I1 I2) : frX I I2 := ⟨fun a ha => (h2.1 a ha).trans (h.1 a ha), fun j hj => (h2.2 j hj).trans (h.2 j hj)⟩
theorem frT.x {I I' : IT} (h : frT I I') : frX I I' := ⟨fun a ha => h.1 a (by omega), fun j hj => h.2 j (by omega)⟩
theorem frX.w {I : IT} {a j : Nat} {x : Int32} (h : 124 ≤ a) : frX I (sI I a j x) := ⟨fun b hb => sI_ne (by omega), fun i hi => by rw [sI_ne (by omega)]⟩
theorem frX.M {I I' : IT} {J : JT} {σ : ST} (h : frX I I') (hM : RelM I J σ) : RelM I' J σ :=
  hM.scr (by rw [h.1 118 (by omega)]) (by rw [h.1 118 (by omega)]) h.2 (h.1 120 (by omega)) (h.1 122 (by omega)) (h.1 123 (by omega)) rfl
theorem frX.C {I I' : IT} {J : JT} (h : frX I I') : smC I J I' J := ⟨fun a ha => h.1 a (by omega), fun _ _ => rfl⟩
theorem frX.F {I I' : IT} {F : NF} (h : frX I I') (hM : MF I 0 F) : MF I' 0 F := fun j hj => by rw [h.2 _ (by omega)]; exact hM j hj
-- a row of words
def hcs (F : NF) (t : Nat) (w : Nat → Nat) (v : Vy) : Nat → Vy
  | 0 => v
  | k + 1 => hearV F (hcs F t w v k) t (w k)
theorem hcs_ok {F : NF} {t : Nat} {w : Nat → Nat} {v : Vy} (h : okV F v) (hW : okW F) : ∀ k, okV F (hcs F t w v k) := by
  intro k
  induction k with
  | zero => exact h
  | succ k ih => exact okV_hear ih hW
def asK (v : Vy) (k : Nat) : Vy := (k, v.2.1, v.2.2.1, v.2.2.2.1, v.2.2.2.2)
theorem okV_as {F : NF} {v : Vy} {k : Nat} (h : okV F v) (h1 : 1 ≤ k) (h5 : k ≤ 5) : okV F (asK v k) := ⟨h1, h5, h.2.2⟩
def kw (f : Nat → Int64) (i : Nat) (k : Nat) : Nat := wv (f (i + 2 * k))
def kV (F : NF) (t : Nat) (f : Nat → Int64) (i : Nat) (v : Vy) : Nat → Vy := hcs F t (kw f i) v
def fit (F : NF) (t : Nat) (f : Nat → Int64) (i n : Nat) (v : Vy) : Bool := decide (∀ k, k < n → (nI (kV F t f i v (k + 1)).2.1).toInt64 = f (i + 2 * k + 1))
theorem fit_s {F : NF} {t : Nat} {f : Nat → Int64} {i k : Nat} {v : Vy} : fit F t f i (k + 1) v = (fit F t f i k v && decide ((nI (kV F t f i v (k + 1)).2.1).toInt64 = f (i + 2 * k + 1))) := by
  unfold fit
  rw [← Bool.decide_and]
  apply decide_eq_decide.mpr
  constructor
  · intro h; exact ⟨fun j hj => h j (by omega), h k (by omega)⟩
  · rintro ⟨h, h2⟩ j hj
    by_cases e : j = k
    · rw [e]; exact h2
    · exact h j (by omega)
theorem fit_f {F : NF} {t : Nat} {f : Nat → Int64} {i k n : Nat} {v : Vy} (hk : k ≤ n) (h : fit F t f i k v = false) : fit F t f i n v = false := by
  refine decide_eq_false (fun z => ?_)
  have := of_decide_eq_false h
  exact this (fun j hj => z j (by omega))
section KND
variable {g : GT} {d : Nat} {I : IT} {J : JT}
theorem s_X6_keepsTo {o p t i n : Nat} {f : Nat → Int64} {F : NF} {v : Vy} {P : Bool → IT → JT → Prop} (hd : 4 ≤ d) (ho : isV o) (ho6 : 6 ≤ o) (hp : isS p) (hC : CV I o v) (hS : SeaC I 4 F) (hW : okW F) (hv : okV F v) (ht : t < 4) (hn : n ≤ 10) (hi : i + 2 * n ≤ 24) (hJ : ∀ x, x < 24 → J (p + 1) x = f x) (hw : ∀ k, k < n → wrd (f (i + 2 * k)) = true) (h : ∀ I', (∀ a, a ≠ o → a ≠ o + 1 → I' a = I a) → (fit F t f i n v = true → CV I' o (kV F t f i v n)) → P (fit F t f i n v) I' J) : SemZ g d M_X6_keepsTo [.ref (ga g o), .int (nI t), .ref (ga g p), .int (nI i), .int (nI n)] I J P := by
  refine w_X6_keepsTo ho hp ?_
  unfold VC_X6_keepsTo
  refine upTo (Q := fun k => ∀ I1, (∀ a, a ≠ o → a ≠ o + 1 → I1 a = I a) → CV I1 o (kV F t f i v k) → fit F t f i k v = true → Lp_X6_keepsTo_3 g d o (nI t) p (nI i) (nI n) (nI k) I1 J P) (N := n) (fun I1 c1 c2 c3 => ?_) (fun k hk ih I1 c1 c2 c3 => ?_) I (fun _ _ _ => rfl) hC (decide_eq_true (fun k hk => absurd hk (by omega)))
  · refine w_X6_keepsTo_3 ho hp (by omega) ?_
    unfold VC_X6_keepsTo_3
    have := h I1 c1 (fun _ => c2)
    rw [c3] at this
    exact ⟨fun _ => this, fun z => absurd (nI_le (Nat.le_refl _) (by omega)) z⟩
  · refine w_X6_keepsTo_3 ho hp (by omega) ?_
    unfold VC_X6_keepsTo_3
    obtain ⟨w1, w2, -⟩ := wrd_n (hw k hk)
    rw [show (2 : Int32) = nI 2 from rfl, pk_mul, nI_add, nI_one, nI_one, nI_cl (by omega), nI_cl (by omega), hJ (i + 2 * k) (by omega), w2]
    refine ⟨fun z => absurd ((nI_leI (by omega) (by omega)).mp z) (by omega), fun _ => ⟨vp_in_nI (by omega) (by omega), ?_⟩⟩
    refine s_X6_hear (by omega) ho ho6 c2 (hS.cg (c1 _ (by omega) (by omega)) (c1 _ (by omega) (by omega))) hW (hcs_ok hv hW k) ht w1 (fun I2 d1 d2 => ⟨vp_in_nI (by omega) (by omega), ?_⟩)
    have c4 : ∀ a, a ≠ o → a ≠ o + 1 → I2 a = I a := fun a z1 z2 => by rw [d2 a z1 z2, c1 a z1 z2]
    have d1' : CV I2 o (kV F t f i v (k + 1)) := d1
    rw [d1'.2.1, hJ (i + 2 * k + 1) (by omega)]
    refine ⟨fun z => ih I2 c4 d1' (by rw [fit_s, c3, decide_eq_true z]; rfl), fun z => ?_⟩
    have e := fit_f (n := n) (show k + 1 ≤ n by omega) (show fit F t f i (k + 1) v = false by rw [fit_s, c3, decide_eq_false z]; rfl)
    have := h I2 c4 (fun z => (ff e z).elim)
    rw [e] at this; exact this
theorem asK_C {o κ : Nat} {v : Vy} (h : CV I o v) : CV (sI I o 2 (nI κ)) o (asK v κ) := by
  refine ⟨?_, ?_, ?_, ?_, fun t ht => ?_⟩
  · rw [sI_at, if_pos ⟨rfl, rfl⟩]; rfl
  · rw [sI_at, if_neg (by omega)]; exact h.2.1
  · rw [sI_at, if_neg (by omega)]; exact h.2.2.1
  · rw [sI_at, if_neg (by omega)]; exact h.2.2.2.1
  · rw [sI_ne (by omega)]; exact h.2.2.2.2 t ht
/-- kinds 1 to k that fit -/
def kst (F : NF) (t : Nat) (f : Nat → Int64) (i n : Nat) (v : Vy) : Nat → Nat := accN (fun a T => if fit F t f i n (asK v (a + 1)) then T ||| 2 ^ (a + 1) else T) 0
theorem kst_s {F : NF} {t : Nat} {f : Nat → Int64} {i n k : Nat} {v : Vy} : kst F t f i n v (k + 1) = (if fit F t f i n (asK v (k + 1)) then kst F t f i n v k ||| 2 ^ (k + 1) else kst F t f i n v k) := rfl
theorem kst_lt {F : NF} {t : Nat} {f : Nat → Int64} {i n : Nat} {v : Vy} : ∀ k, k ≤ 5 → kst F t f i n v k < 2 ^ (k + 1) := by
  intro k
  induction k with
  | zero => intro _; exact Nat.two_pow_pos _
  | succ k ih =>
    intro hk
    have i := ih (by omega)
    have : 2 ^ (k + 1) < 2 ^ (k + 1 + 1) := bit_lt (by omega)
    rw [kst_s]
    split
    · exact Nat.or_lt_two_pow (by omega) this
    · omega
theorem kst_t {F : NF} {t : Nat} {f : Nat → Int64} {i n : Nat} {v : Vy} : ∀ k, k ≤ 5 → ∀ a, a < k → (kst F t f i n v k).testBit (a + 1) = fit F t f i n (asK v (a + 1)) := by
  intro k
  induction k with
  | zero => intro _ a ha; omega
  | succ k ih =>
    intro hk a ha
    rw [kst_s]
    by_cases e : a = k
    · subst e
      have lo : (kst F t f i n v a).testBit (a + 1) = false := Nat.testBit_lt_two_pow (kst_lt a (by omega))
      cases hf : fit F t f i n (asK v (a + 1)) with
      | true => rw [if_pos rfl, Nat.testBit_or, bit_t, decide_eq_true rfl, Bool.or_true]
      | false => exact lo
    · have := ih (by omega) a (by omega)
      split
      · rw [Nat.testBit_or, bit_t, decide_eq_false (by omega), Bool.or_false]; exact this
      · exact this
theorem l64 {k : Nat} {x : Nat} (hk : k ≤ 5) (h : x < 2 ^ (k + 1)) : x < 64 := Nat.lt_of_lt_of_le h (p64 (by omega))
theorem s_X7_fittingKinds {s p t i n : Nat} {f : Nat → Int64} {F : NF} {P : Int32 → IT → JT → Prop} (hd : 5 ≤ d) (hp : isS p) (hC : FlC I 3 F) (hF : okF F) (hs : s < F 0) (ht : t < 4) (hn : n ≤ 10) (hi : i + 2 * n ≤ 24) (hJ : ∀ x, x < 24 → J (p + 1) x = f x) (hw : ∀ k, k < n → wrd (f (i + 2 * k)) = true) (h : ∀ I', (∀ a, (a < 98 ∨ 107 < a) → I' a = I a) → (∀ a, a < 5 → fit F t f i n (asK (shipOf F s) (a + 1)) = true → CV I' (96 + 2 * (a + 1)) (kV F t f i (asK (shipOf F s) (a + 1)) n)) → P (nI (kst F t f i n (shipOf F s) 5)) I' J) : SemI g d M_X7_fittingKinds [.ref (ga g 0), .int (nI s), .int (nI t), .ref (ga g p), .int (nI i), .int (nI n)] I J P := by
  have hW := hF.W
  have hv := hF.ship hs
  refine w_X7_fittingKinds hp ?_
  unfold VC_X7_fittingKinds
  refine upTo (Q := fun k => ∀ I1, (∀ a, (a < 98 ∨ 107 < a) → I1 a = I a) → (∀ a, a < k → fit F t f i n (asK (shipOf F s) (a + 1)) = true → CV I1 (96 + 2 * (a + 1)) (kV F t f i (asK (shipOf F s) (a + 1)) n)) → Lp_X7_fittingKinds_6 g d (nI s) (nI t) p (nI i) (nI n) (nI (kst F t f i n (shipOf F s) k)) (nI (k + 1)) I1 J P) (N := 5) (fun I1 c1 c2 => ?_) (fun k hk ih I1 c1 c2 => ?_) I (fun _ _ => rfl) (fun a ha => absurd ha (by omega))
  · refine w_X7_fittingKinds_6 hp (by omega) ?_
    unfold VC_X7_fittingKinds_6
    exact ⟨fun _ => h I1 c1 c2, fun z => absurd (by decide) z⟩
  · refine w_X7_fittingKinds_6 hp (by omega) ?_
    unfold VC_X7_fittingKinds_6
    have l1 := l64 (by omega) (kst_lt (F := F) (t := t) (f := f) (i := i) (n := n) (v := shipOf F s) k (by omega))
    rw [nI_one, nI_cl (by omega), or_bit _ l1 (k + 1) (by omega)]
    refine ⟨fun z => absurd ((nI_leI (a := 6) (by omega) (by omega)).mp z) (by omega), fun _ => ⟨vp_in_nI (by omega) (by omega), ?_⟩⟩
    refine s_X6_board (by omega) (isV_72 (k + 1) (by omega)) isF_3 (by omega) (hC.cg (fun a _ _ => c1 a (by omega))) hF hs (fun I2 b1 b2 => ?_)
    have e2 : ∀ a, a < 98 ∨ 107 < a → sI I2 (96 + 2 * (k + 1)) 2 (nI (k + 1)) a = I a := fun a ha => by rw [sI_ne (by omega), b2 a (by omega) (by omega), c1 a ha]
    rw [kst_s] at ih
    refine s_X6_keepsTo (by omega) (isV_72 (k + 1) (by omega)) (by omega) hp (asK_C b1) (hC.sea.cg (e2 _ (by omega)) (e2 _ (by omega))) hW (okV_as hv (by omega) (by omega)) ht hn hi hJ hw (fun I3 f1 f2 => ?_)
    have e3 : ∀ a, a < 98 ∨ 107 < a → I3 a = I a := fun a ha => by rw [f1 a (by omega) (by omega), e2 a ha]
    have e4 : ∀ a, a < k + 1 → fit F t f i n (asK (shipOf F s) (a + 1)) = true → CV I3 (96 + 2 * (a + 1)) (kV F t f i (asK (shipOf F s) (a + 1)) n) := fun a ha hf => by
      by_cases e : a = k
      · subst e; exact f2 hf
      · refine (c2 a (by omega) hf).cg ?_ ?_
        · rw [f1 _ (by omega) (by omega), sI_ne (by omega), b2 _ (by omega) (by omega)]
        · rw [f1 _ (by omega) (by omega), sI_ne (by omega), b2 _ (by omega) (by omega)]
    refine ⟨fun z => ?_, fun z => ?_⟩
    · rw [z] at ih; exact ih I3 e3 e4
    · rw [z] at ih; exact ih I3 e3 e4
-- the reference
theorem asK_M {s κ : Nat} {v : Vy} (h : MV I 320 s v) (hs : s < 6) : MV (sI I 119 (371 + s) (nI κ)) 320 s (asK v κ) := by
  refine ⟨?_, ?_, ?_, ?_, fun t ht => ?_⟩
  · rw [sI_at, if_pos ⟨rfl, by omega⟩]; rfl
  · rw [sI_at, if_neg (by omega)]; exact h.2.1
  · rw [sI_at, if_neg (by omega)]; exact h.2.2.1
  · rw [sI_at, if_neg (by omega)]; exact h.2.2.2.1
  · rw [sI_at, if_neg (by omega)]; exact h.2.2.2.2 t ht
theorem s_X8_isSo {s t κ b i n : Nat} {f : Nat → Int64} {F : NF} {P : Bool → IT → JT → Prop} (hd : 5 ≤ d) (hM : MF I 0 F) (hF : okF F) (hs : s < F 0) (ht : t < 4) (hκ : 1 ≤ κ) (hκ5 : κ ≤ 5) (hb : b ≤ 72) (hn : n ≤ 10) (hi : i + 2 * n ≤ 24) (hJ : ∀ x, x < 24 → J 121 (b + x) = f x) (hw : ∀ k, k < n → wrd (f (i + 2 * k)) = true) (h : ∀ I', frT I I' → (fit F t f i n (asK (shipOf F s) κ) = true → MV I' 320 s (kV F t f i (asK (shipOf F s) κ) n) ∧ MSea I' 320 F) → P (fit F t f i n (asK (shipOf F s) κ)) I' J) : SemZ g d M_X8_isSo [.ref (ga g 118), .int (nI s), .int (nI t), .int (nI κ), .int (nI (b + i)), .int (nI n)] I J P := by
  have hW := hF.W
  have h6 := hF.1
  have hv : okV F (asK (shipOf F s) κ) := okV_as (hF.ship hs) hκ hκ5
  refine w_X8_isSo (by omega) ?_
  unfold VC_X8_isSo
  refine s_X8_tries (by omega) hM (fun I1 b1 b2 => ?_)
  rw [ix2 371 s 371 rfl, nI_cl (by omega)]
  refine ⟨vp_in_nI (by omega) (by omega), ?_⟩
  have sea1 : MSea (sI I1 119 (371 + s) (nI κ)) 320 F := by
    refine ⟨?_, ?_, fun c hc => ?_⟩
    · rw [sI_at, if_neg (by omega)]; exact b1.sea.1
    · rw [sI_at, if_neg (by omega)]; exact b1.sea.2.1
    · rw [sI_at, if_neg (by omega)]; exact b1.sea.2.2 c hc
  refine upTo (Q := fun k => ∀ I2, frT I I2 → MV I2 320 s (kV F t f i (asK (shipOf F s) κ) k) → MSea I2 320 F → fit F t f i k (asK (shipOf F s) κ) = true → Lp_X8_isSo_21 g d (nI s) (nI t) (nI (b + i)) (nI n) true (nI k) I2 J P) (N := n) (fun I2 c1 c2 c3 c4 => ?_) (fun k hk ih I2 c1 c2 c3 c4 => ?_) _ (b2.tr (frT.w (by omega) (by omega))) (asK_M (b1.ship (by omega)) (by omega)) sea1 (decide_eq_true (fun k hk => absurd hk (by omega)))
  · refine w_X8_isSo_21 (by omega) ?_
    unfold VC_X8_isSo_21
    have := h I2 c1 (fun _ => ⟨c2, c3⟩)
    rw [c4] at this
    exact ⟨fun _ => this, fun z => absurd (nI_le (Nat.le_refl _) (by omega)) z⟩
  · refine w_X8_isSo_21 (by omega) ?_
    unfold VC_X8_isSo_21
    obtain ⟨w1, w2, -⟩ := wrd_n (hw k hk)
    rw [show (2 : Int32) = nI 2 from rfl, pk_mul, nI_add, nI_one, nI_one, nI_cl (by omega), nI_cl (by omega), show b + i + 2 * k = b + (i + 2 * k) from by omega, show b + (i + 2 * k) + 1 = b + (i + 2 * k + 1) from by omega, hJ (i + 2 * k) (by omega), w2, ix2 378 s 378 rfl, nI_cl (by omega)]
    refine ⟨fun z => absurd ((nI_leI (by omega) (by omega)).mp z) (by omega), fun _ => ⟨fun z => Bool.noConfusion z, fun _ => ⟨vp_in_nI (by omega) (by omega), ?_⟩⟩⟩
    refine s_X8_says (r := 320) (by omega) (by omega) (by omega) ht w1 c2 c3 hW (hcs_ok hv hW k) (fun I3 d1 d2 _ => ⟨vp_in_nI (by omega) (by omega), vp_in_nI (by omega) (by omega), ?_⟩)
    have d1' : MV I3 320 s (kV F t f i (asK (shipOf F s) κ) (k + 1)) := d1
    have c5 := c1.tr (d2.t (by omega))
    rw [show I3 119 (378 + s) = nI (kV F t f i (asK (shipOf F s) κ) (k + 1)).2.1 from by have := d1'.2.1; rwa [show 320 + 58 + s = 378 + s from by omega] at this, hJ (i + 2 * k + 1) (by omega)]
    refine ⟨fun z => ?_, fun z => ih I3 c5 d1' (d2.sea (by omega) c3) (by rw [fit_s, c4, decide_eq_true z]; rfl)⟩
    have e := fit_f (n := n) (show k + 1 ≤ n by omega) (show fit F t f i (k + 1) (asK (shipOf F s) κ) = false by rw [fit_s, c4, decide_eq_false z]; rfl)
    have := h I3 c5 (fun z => (ff e z).elim)
    rw [e] at this
    refine w_X8_isSo_21 (by omega) ?_
    unfold VC_X8_isSo_21
    exact ⟨fun _ => this, fun _ => ⟨fun _ => this, fun z => Bool.noConfusion z⟩⟩
end KND
-- the greatest part
def cnt (S : Nat) (c : Nat → Nat) (a : Nat) : Nat → Nat := accN (fun b n => if S.testBit (b + 1) && decide (c b = c a) then n + 1 else n) 0
theorem cnt_s {S : Nat} {c : Nat → Nat} {a b : Nat} : cnt S c a (b + 1) = if S.testBit (b + 1) && decide (c b = c a) then cnt S c a b + 1 else cnt S c a b := rfl
def mxN (u : Nat → Nat) : Nat → Nat := accN (fun a M => max M (u a)) 0
theorem mxN_s {u : Nat → Nat} {k : Nat} : mxN u (k + 1) = max (mxN u k) (u k) := rfl
theorem mxN_x {u w : Nat → Nat} {x : Nat} : ∀ k, (∀ a, a < k → u a ≤ w a ∧ (w a = u a ∨ w a = x)) → max (mxN w k) x = max (mxN u k) x := by
  intro k
  induction k with
  | zero => intro _; rfl
  | succ k ih =>
    intro h
    have i := ih (fun a ha => h a (by omega))
    have j := h k (by omega)
    rw [mxN_s, mxN_s]
    omega
theorem mxN_e {u w : Nat → Nat} : ∀ k, (∀ a, a < k → w a = u a) → mxN w k = mxN u k := by
  intro k
  induction k with
  | zero => intro _; rfl
  | succ k ih =>
    intro h
    rw [mxN_s, mxN_s, ih (fun a ha => h a (by omega)), h k (by omega)]
theorem cnt_c {S : Nat} {c : Nat → Nat} {a a' : Nat} (e : c a = c a') : ∀ k, cnt S c a k = cnt S c a' k := by
  intro k
  induction k with
  | zero => rfl
  | succ k ih => rw [cnt_s, cnt_s, ih, e]
/-- class: kinds up to the own one; reference: all kinds -/
def gpC (S : Nat) (c : Nat → Nat) : Nat → Nat := mxN (fun a => if S.testBit (a + 1) then cnt S c a (a + 1) else 0)
def gpM (S : Nat) (c : Nat → Nat) (k : Nat) : Nat → Nat := mxN (fun a => if S.testBit (a + 1) then cnt S c a k else 0)
theorem gp_eq {S : Nat} {c : Nat → Nat} : ∀ k, gpM S c k k = gpC S c k := by
  intro k
  induction k with
  | zero => rfl
  | succ k ih =>
    show max (gpM S c (k + 1) k) (if S.testBit (k + 1) then cnt S c k (k + 1) else 0) = max (gpC S c k) (if S.testBit (k + 1) then cnt S c k (k + 1) else 0)
    rw [← ih]
    cases hS : S.testBit (k + 1) with
    | false =>
      rw [if_neg (by decide)]
      have : gpM S c (k + 1) k = gpM S c k k := mxN_e k (fun a _ => by
        show (if S.testBit (a + 1) then cnt S c a (k + 1) else 0) = (if S.testBit (a + 1) then cnt S c a k else 0)
        rw [cnt_s, hS]; rfl)
      rw [this]
    | true =>
      rw [if_pos rfl]
      refine mxN_x (u := fun a => if S.testBit (a + 1) then cnt S c a k else 0) (w := fun a => if S.testBit (a + 1) then cnt S c a (k + 1) else 0) k (fun a _ => ?_)
      show (if S.testBit (a + 1) then cnt S c a k else 0) ≤ (if S.testBit (a + 1) then cnt S c a (k + 1) else 0) ∧ ((if S.testBit (a + 1) then cnt S c a (k + 1) else 0) = (if S.testBit (a + 1) then cnt S c a k else 0) ∨ (if S.testBit (a + 1) then cnt S c a (k + 1) else 0) = cnt S c k (k + 1))
      cases hA : S.testBit (a + 1) with
      | false => exact ⟨Nat.le_refl _, Or.inl rfl⟩
      | true =>
        rw [if_pos rfl, if_pos rfl]
        by_cases e : c k = c a
        · refine ⟨?_, Or.inr (cnt_c e.symm _)⟩
          rw [cnt_s]; split <;> omega
        · rw [cnt_s, decide_eq_false e, Bool.and_false]
          exact ⟨Nat.le_refl _, Or.inl rfl⟩
theorem cnt_le {S : Nat} {c : Nat → Nat} {a : Nat} : ∀ k, cnt S c a k ≤ k := by
  intro k
  induction k with
  | zero => exact Nat.le_refl _
  | succ k ih => rw [cnt_s]; split <;> omega
theorem gpC_le {S : Nat} {c : Nat → Nat} : ∀ k, gpC S c k ≤ k := by
  intro k
  induction k with
  | zero => exact Nat.le_refl _
  | succ k ih =>
    show max (gpC S c k) (if S.testBit (k + 1) then cnt S c k (k + 1) else 0) ≤ k + 1
    have := cnt_le (S := S) (c := c) (a := k) (k + 1)
    split <;> omega
theorem gpM_le {S m : Nat} {c : Nat → Nat} : ∀ k, gpM S c m k ≤ m := by
  intro k
  induction k with
  | zero => exact Nat.zero_le _
  | succ k ih =>
    show max (gpM S c m k) (if S.testBit (k + 1) then cnt S c k m else 0) ≤ m
    have := cnt_le (S := S) (c := c) (a := k) m
    split <;> omega
theorem mx_i : ∀ x, x < 8 → ∀ y, y < 8 → (if nI x < nI y then nI y else nI x) = nI (max x y) := by decide +kernel
section TRW
variable {g : GT} {d : Nat} {I : IT} {J : JT}
theorem s_X6_follow {o p : Nat} {v : Vy} {P : IT → JT → Prop} (hd : 1 ≤ d) (ho : isV o) (hp : isV p) (hop : o + 1 < p ∨ p + 1 < o) (hC : CV I p v) (h : ∀ I', CV I' o v → (∀ a, a ≠ o → a ≠ o + 1 → I' a = I a) → P I' J) : SemV g d M_X6_follow [.ref (ga g o), .ref (ga g p)] I J P := by
  refine w_X6_follow ho hp hd ?_
  unfold VC_X6_follow
  have e : ∀ x j y, sI x o j y p = x p := fun x j y => sI_ne (by omega)
  refine h _ ⟨?_, ?_, ?_, ?_, fun t ht => ?_⟩ (fun a h1 h2 => ?_)
  · rw [cI_ne (by omega), sI_at, if_neg (by omega), sI_at, if_neg (by omega), sI_at, if_neg (by omega), sI_at, if_pos ⟨rfl, rfl⟩]; exact hC.1
  · rw [cI_ne (by omega), sI_at, if_neg (by omega), sI_at, if_neg (by omega), sI_at, if_pos ⟨rfl, rfl⟩, e]; exact hC.2.1
  · rw [cI_ne (by omega), sI_at, if_neg (by omega), sI_at, if_pos ⟨rfl, rfl⟩, e, e]; exact hC.2.2.1
  · rw [cI_ne (by omega), sI_at, if_pos ⟨rfl, rfl⟩, e, e, e]; exact hC.2.2.2.1
  · rw [cI_at, if_pos rfl, cp0, if_pos ht, sI_ne (by omega), sI_ne (by omega), sI_ne (by omega), sI_ne (by omega)]; exact hC.2.2.2.2 t ht
  · rw [cI_ne h2, sI_ne h1, sI_ne h1, sI_ne h1, sI_ne h1]
theorem s_X7_cellBehind {o t w : Nat} {v : Vy} {F : NF} {P : Int32 → IT → JT → Prop} (hd : 4 ≤ d) (ho : isV o) (ho2 : 97 < o) (hC : CV I o v) (hS : SeaC I 4 F) (hW : okW F) (hv : okV F v) (ht : t < 4) (hw : w < 3) (h : ∀ I', (∀ a, a ≠ 96 → a ≠ 97 → I' a = I a) → P (nI (hearV F v t w).2.1) I' J) : SemI g d M_X7_cellBehind [.ref (ga g 0), .ref (ga g o), .int (nI t), .int (nI w)] I J P := by
  refine w_X7_cellBehind ho (by omega) ?_
  unfold VC_X7_cellBehind
  refine s_X6_follow (by omega) isV_96 ho (by omega) hC (fun I1 b1 b2 => ?_)
  refine s_X6_hear (by omega) isV_96 (by omega) b1 (hS.cg (b2 _ (by omega) (by omega)) (b2 _ (by omega) (by omega))) hW hv ht hw (fun I2 d1 d2 => ?_)
  rw [d1.2.1]
  exact h I2 (fun a z1 z2 => by rw [d2 a z1 z2, b2 a z1 z2])
theorem s_X7_partAlike {S a : Nat} {c : Nat → Nat} {P : Int32 → IT → JT → Prop} (hS : S < 64) (ha : a < 5) (hc : ∀ b, b ≤ a → S.testBit (b + 1) = true → I 79 (b + 1) = nI (c b) ∧ c b < 48) (hA : S.testBit (a + 1) = true) (h : P (nI (cnt S c a (a + 1))) I J) : SemI g d M_X7_partAlike [.ref (ga g 0), .int (nI S), .int (nI (a + 1))] I J P := by
  refine w_X7_partAlike ?_
  unfold VC_X7_partAlike
  refine upTo (Q := fun b => Lp_X7_partAlike_5 g d (nI S) (nI (a + 1)) (nI (cnt S c a b)) (nI (b + 1)) I J P) (N := a + 1) ?_ (fun b hb ih => ?_)
  · refine w_X7_partAlike_5 ?_
    unfold VC_X7_partAlike_5
    exact ⟨fun _ => h, fun z => absurd (nI_lt (by omega) (by omega)) z⟩
  · refine w_X7_partAlike_5 ?_
    unfold VC_X7_partAlike_5
    rw [nI_one, nI_one, nI_cl (by omega), nI_cl (by omega)]
    rw [cnt_s] at ih
    refine ⟨fun z => absurd ((nI_ltI (by omega) (by omega)).mp z) (by omega), fun _ => ⟨fun z => ?_, fun z => ?_⟩⟩
    · rw [(tst_bit S hS (b + 1) (by omega)).mp z] at ih; exact ih
    · have z : S.testBit (b + 1) = true := by
        cases hz : S.testBit (b + 1) with
        | true => rfl
        | false => exact absurd ((tst_bit S hS (b + 1) (by omega)).mpr hz) z
      rw [z] at ih
      obtain ⟨k1, k2⟩ := hc b (by omega) z
      obtain ⟨k3, k4⟩ := hc a (by omega) hA
      rw [k1, k3]
      refine ⟨vp_in_nI (by omega) (by omega), vp_in_nI (by omega) (by omega), fun y => ?_, fun y => ?_⟩
      · rw [decide_eq_false (fun w => y (by rw [w]))] at ih; exact ih
      · rw [decide_eq_true ((nI_eq (by omega) (by omega)).mp y)] at ih; exact ih
theorem s_X7_greatestPart {S t w : Nat} {u : Nat → Vy} {F : NF} {P : Int32 → IT → JT → Prop} (hd : 5 ≤ d) (hS : S < 64) (hSea : SeaC I 4 F) (hW : okW F) (hu : ∀ a, a < 5 → S.testBit (a + 1) = true → CV I (96 + 2 * (a + 1)) (u a) ∧ okV F (u a)) (ht : t < 4) (hw : w < 3) (h : ∀ I', (∀ a, a ≠ 79 → a ≠ 96 → a ≠ 97 → I' a = I a) → P (nI (gpC S (fun a => (hearV F (u a) t w).2.1) 5)) I' J) : SemI g d M_X7_greatestPart [.ref (ga g 0), .int (nI S), .int (nI t), .int (nI w)] I J P := by
  have hb1 := hW.1
  refine w_X7_greatestPart ?_
  unfold VC_X7_greatestPart
  refine upTo (Q := fun k => ∀ I1, (∀ a, a ≠ 79 → a ≠ 96 → a ≠ 97 → I1 a = I a) → (∀ b, b < k → S.testBit (b + 1) = true → I1 79 (b + 1) = nI (hearV F (u b) t w).2.1) → Lp_X7_greatestPart_6 g d (nI S) (nI t) (nI w) (nI (gpC S (fun a => (hearV F (u a) t w).2.1) k)) (nI (k + 1)) I1 J P) (N := 5) (fun I1 c1 c2 => ?_) (fun k hk ih I1 c1 c2 => ?_) I (fun _ _ _ _ => rfl) (fun b hb => absurd hb (by omega))
  · refine w_X7_greatestPart_6 (by omega) ?_
    unfold VC_X7_greatestPart_6
    exact ⟨fun _ => h I1 c1, fun z => absurd (by decide) z⟩
  · refine w_X7_greatestPart_6 (by omega) ?_
    unfold VC_X7_greatestPart_6
    have e : gpC S (fun a => (hearV F (u a) t w).2.1) (k + 1) = max (gpC S (fun a => (hearV F (u a) t w).2.1) k) (if S.testBit (k + 1) then cnt S (fun a => (hearV F (u a) t w).2.1) k (k + 1) else 0) := rfl
    rw [e] at ih
    rw [nI_one, nI_cl (by omega)]
    refine ⟨fun z => absurd ((nI_leI (a := 6) (by omega) (by omega)).mp z) (by omega), fun _ => ⟨fun z => ?_, fun z => ?_⟩⟩
    · have z := (tst_bit S hS (k + 1) (by omega)).mp z
      rw [z, if_neg (by decide), Nat.max_zero] at ih
      refine ih I1 c1 (fun b hb hbS => ?_)
      by_cases e : b = k
      · subst e; exact (ff z hbS).elim
      · exact c2 b (by omega) hbS
    · have z : S.testBit (k + 1) = true := by
        cases hz : S.testBit (k + 1) with
        | true => rfl
        | false => exact absurd ((tst_bit S hS (k + 1) (by omega)).mpr hz) z
      rw [z, if_pos rfl] at ih
      obtain ⟨u1, u2⟩ := hu k hk z
      refine ⟨vp_in_nI (by omega) (by omega), s_X7_cellBehind (F := F) (by omega) (isV_72 (k + 1) (by omega)) (by omega) (u1.cg (c1 _ (by omega) (by omega) (by omega)) (c1 _ (by omega) (by omega) (by omega))) (hSea.cg (c1 _ (by omega) (by omega) (by omega)) (c1 _ (by omega) (by omega) (by omega))) hW u2 ht hw (fun I2 d1 => ⟨vp_in_nI (by omega) (by omega), ?_⟩)⟩
      have c3 : ∀ b, b ≤ k → S.testBit (b + 1) = true → sI I2 79 (k + 1) (nI (hearV F (u k) t w).2.1) 79 (b + 1) = nI (hearV F (u b) t w).2.1 := fun b hb hbS => by
        rw [sI_at]
        by_cases e : b = k
        · subst e; rw [if_pos ⟨rfl, rfl⟩]
        · rw [if_neg (by omega), d1 79 (by omega) (by omega)]; exact c2 b (by omega) hbS
      refine s_X7_partAlike (c := fun a => (hearV F (u a) t w).2.1) hS hk (fun b hb hbS => ⟨c3 b hb hbS, ?_⟩) z ?_
      · have := (okV_hear (t := t) (w := w) (hu b (by omega) hbS).2 hW).2.2.1
        show (hearV F (u b) t w).2.1 < 48
        omega
      · have g1 := gpC_le (S := S) (c := fun a => (hearV F (u a) t w).2.1) k
        have g2 := cnt_le (S := S) (c := fun a => (hearV F (u a) t w).2.1) (a := k) (k + 1)
        rw [mx_i _ (by omega) _ (by omega)]
        refine ih _ (fun a z1 z2 z3 => by rw [sI_ne z1, d1 a z2 z3, c1 a z1 z2 z3]) (fun b hb hbS => c3 b (by omega) hbS)
end TRW
-- the word to try
def tryW (p : Nat → Nat) : Nat → Nat × Nat
  | 0 => (0, 6)
  | k + 1 => if p k < (tryW p k).2 then (k, p k) else tryW p k
theorem tryW_le {p : Nat → Nat} (hp : ∀ k, p k ≤ 5) : ∀ k, (tryW p k).1 < 3 ∨ 3 < k ∧ True := by
  intro k
  by_cases hk : k ≤ 3
  · left
    have : ∀ k, k ≤ 3 → (tryW p k).1 < 3 := by
      intro k
      induction k with
      | zero => intro _; show 0 < 3; omega
      | succ k ih =>
        intro hk
        show (if p k < (tryW p k).2 then (k, p k) else tryW p k).1 < 3
        have := ih (by omega)
        split
        · show k < 3; omega
        · exact this
    exact this k hk
  · right; exact ⟨by omega, trivial⟩
theorem tryW_2 {p : Nat → Nat} : ∀ k, (tryW p k).2 ≤ 6 := by
  intro k
  induction k with
  | zero => exact Nat.le_refl _
  | succ k ih =>
    show (if p k < (tryW p k).2 then (k, p k) else tryW p k).2 ≤ 6
    split
    · show p k ≤ 6; omega
    · exact ih
def kPart (F : NF) (t : Nat) (S : Nat) (u : Nat → Vy) (w : Nat) : Nat := gpC S (fun a => (hearV F (u a) t w).2.1) 5
theorem kPart_le {F : NF} {t S : Nat} {u : Nat → Vy} {w : Nat} : kPart F t S u w ≤ 5 := gpC_le 5
def kTry (F : NF) (t : Nat) (S : Nat) (u : Nat → Vy) : Int32 := if S = 0 then -4 else nI (tryW (kPart F t S u) 3).1
section TRX
variable {g : GT} {d : Nat} {I : IT} {J : JT}
theorem s_X7_wordToTry {S t : Nat} {u : Nat → Vy} {F : NF} {P : Int32 → IT → JT → Prop} (hd : 6 ≤ d) (hS : S < 64) (hSea : SeaC I 4 F) (hW : okW F) (hu : ∀ a, a < 5 → S.testBit (a + 1) = true → CV I (96 + 2 * (a + 1)) (u a) ∧ okV F (u a)) (ht : t < 4) (h : ∀ I', (∀ a, a ≠ 79 → a ≠ 96 → a ≠ 97 → I' a = I a) → P (kTry F t S u) I' J) : SemI g d M_X7_wordToTry [.ref (ga g 0), .int (nI S), .int (nI t)] I J P := by
  refine w_X7_wordToTry ?_
  unfold VC_X7_wordToTry
  unfold kTry at h
  refine ⟨fun z => ?_, fun z => ?_⟩
  · rw [if_neg (fun y : S = 0 => z (by rw [y]; rfl))] at h
    refine upTo (Q := fun k => ∀ I1, (∀ a, a ≠ 79 → a ≠ 96 → a ≠ 97 → I1 a = I a) → Lp_X7_wordToTry_16 g d (nI S) (nI t) (nI (tryW (kPart F t S u) k).1) (nI (tryW (kPart F t S u) k).2) (nI k) I1 J P) (N := 3) (fun I1 c1 => ?_) (fun k hk ih I1 c1 => ?_) I (fun _ _ _ _ => rfl)
    · refine w_X7_wordToTry_16 (by omega) ?_
      unfold VC_X7_wordToTry_16
      exact ⟨fun _ => h I1 c1, fun z => absurd (by decide) z⟩
    · refine w_X7_wordToTry_16 (by omega) ?_
      unfold VC_X7_wordToTry_16
      rw [nI_one]
      refine ⟨fun z => absurd ((nI_leI (a := 3) (by omega) (by omega)).mp z) (by omega), fun _ => ?_⟩
      refine s_X7_greatestPart (u := u) (F := F) (by omega) hS (hSea.cg (c1 _ (by omega) (by omega) (by omega)) (c1 _ (by omega) (by omega) (by omega))) hW (fun a ha haS => ⟨(hu a ha haS).1.cg (c1 _ (by omega) (by omega) (by omega)) (c1 _ (by omega) (by omega) (by omega)), (hu a ha haS).2⟩) ht hk (fun I2 d1 => ?_)
      have e2 : ∀ a, a ≠ 79 → a ≠ 96 → a ≠ 97 → I2 a = I a := fun a z1 z2 z3 => by rw [d1 a z1 z2 z3, c1 a z1 z2 z3]
      have l1 := kPart_le (F := F) (t := t) (S := S) (u := u) (w := k)
      have l2 := tryW_2 (p := kPart F t S u) k
      have e : tryW (kPart F t S u) (k + 1) = if kPart F t S u k < (tryW (kPart F t S u) k).2 then (k, kPart F t S u k) else tryW (kPart F t S u) k := rfl
      rw [e] at ih
      refine ⟨fun y => ?_, fun y => ?_⟩
      · have y : (tryW (kPart F t S u) k).2 ≤ kPart F t S u k := (nI_leI (by omega) (by omega)).mp y
        rw [if_neg (by omega)] at ih; exact ih I2 e2
      · have y : ¬ (tryW (kPart F t S u) k).2 ≤ kPart F t S u k := fun w => y ((nI_leI (b := kPart F t S u k) (by omega) (by omega)).mpr w)
        rw [if_pos (by omega)] at ih; exact ih I2 e2
  · have z : S = 0 := (nI_eq (b := 0) (by omega) (by omega)).mp z
    rw [if_pos z] at h; exact h I (fun _ _ _ _ => rfl)
end TRX
