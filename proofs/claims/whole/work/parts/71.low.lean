theorem ix3 (r c s : Nat) (C : Int32) (hC : C = nI c) : (nI r + C) + nI s = nI (r + c + s) := by rw [hC, nI_add, nI_add]
theorem ix2 (c s : Nat) (C : Int32) (hC : C = nI c) : C + nI s = nI (c + s) := by rw [hC, nI_add]
theorem ix1 (r c : Nat) (C : Int32) (hC : C = nI c) : nI r + C = nI (r + c) := by rw [hC, nI_add]
def inR (a lo hi : Int) : Bool := decide (lo ≤ a ∧ a ≤ hi)
theorem inR_N {a : Int} {n : Nat} {hi : Int} (h : hi = (n : Int) - 1) : inR a 0 hi = decide (0 ≤ a ∧ a < n) := by
  unfold inR; subst h
  apply decide_eq_decide.mpr
  constructor <;> intro h <;> omega
theorem rng {v N : Int32} {n : Nat} {P : Bool → Prop} (hN : N.toInt = n) (h : P (inN v n)) : ((v < 0 → P false) ∧ (¬ v < 0 → ((N ≤ v → P false) ∧ (¬ N ≤ v → P true)))) := by
  have h0 : (0 : Int32).toInt = 0 := by decide
  unfold inN at h
  refine ⟨fun h1 => ?_, fun h1 => ⟨fun h2 => ?_, fun h2 => ?_⟩⟩
  · rw [Int32.lt_iff_toInt_lt, h0] at h1
    rw [decide_eq_false (by omega)] at h; exact h
  · rw [Int32.le_iff_toInt_le, hN] at h2
    rw [decide_eq_false (by omega)] at h; exact h
  · rw [Int32.lt_iff_toInt_lt, h0] at h1
    rw [Int32.le_iff_toInt_le, hN] at h2
    rw [decide_eq_true (by omega)] at h; exact h
/-- the same with the test the other way round -/
theorem rng' {v N : Int32} {n : Nat} {A B : Prop} (hN : N.toInt = n) (h1 : inN v n = false → A) (h2 : inN v n = true → B) : ((v < 0 → A) ∧ (¬ v < 0 → ((v < N → B) ∧ (¬ v < N → A)))) := by
  have h0 : (0 : Int32).toInt = 0 := by decide
  refine ⟨fun a => h1 ?_, fun a => ⟨fun b => h2 ?_, fun b => h1 ?_⟩⟩
  · rw [Int32.lt_iff_toInt_lt, h0] at a; unfold inN; exact decide_eq_false (by omega)
  · rw [Int32.lt_iff_toInt_lt, h0] at a; rw [Int32.lt_iff_toInt_lt, hN] at b; unfold inN; exact decide_eq_true (by omega)
  · rw [Int32.lt_iff_toInt_lt, hN] at b; unfold inN; exact decide_eq_false (by omega)
section LOW
variable {g : GT} {d : Nat} {I : IT} {J : JT}
theorem s_X7_isTeller {v : Int32} {P : Bool → IT → JT → Prop} (h : P (inN v 4) I J) : SemZ g d M_X7_isTeller [.int v] I J P := w_X7_isTeller (rng (P := fun b => P b I J) (N := 4) (by decide) h)
theorem s_X7_isHearing {v : Int32} {P : Bool → IT → JT → Prop} (h : P (inN v 13) I J) : SemZ g d M_X7_isHearing [.int v] I J P := by
  refine w_X7_isHearing ?_
  unfold VC_X7_isHearing
  have h0 : (0 : Int32).toInt = 0 := by decide
  have h12 : (12 : Int32).toInt = 12 := by decide
  unfold inN at h
  refine ⟨fun h1 => ?_, fun h1 => ⟨fun h2 => ?_, fun h2 => ?_⟩⟩
  · rw [Int32.lt_iff_toInt_lt, h0] at h1; rw [decide_eq_false (by omega)] at h; exact h
  · rw [Int32.lt_iff_toInt_lt, h12] at h2; rw [decide_eq_false (by omega)] at h; exact h
  · rw [Int32.lt_iff_toInt_lt, h0] at h1; rw [Int32.lt_iff_toInt_lt, h12] at h2; rw [decide_eq_true (by omega)] at h; exact h
theorem s_X7_isSheet {v : Int32} {P : Bool → IT → JT → Prop} (h : P (inN v 4) I J) : SemZ g d M_X7_isSheet [.int v] I J P := w_X7_isSheet (rng (P := fun b => P b I J) (N := 4) (by decide) h)
theorem s_X7_isLane {v : Int32} {P : Bool → IT → JT → Prop} (h : P (inN v 4) I J) : SemZ g d M_X7_isLane [.int v] I J P := w_X7_isLane (rng (P := fun b => P b I J) (N := 4) (by decide) h)
theorem s_X2_stands {o : Nat} {F : NF} {P : Bool → IT → JT → Prop} (ho : isF o) (hC : FlC I o F) (hF : okF F) (h : P (decide (0 < F 0)) I J) : SemZ g d M_X2_stands [.ref (ga g o)] I J P := by
  refine w_X2_stands ho ?_
  unfold VC_X2_stands
  have h6 := hF.1
  rw [hC.1]
  have h0 : (0 : Int32).toInt = 0 := by decide
  refine ⟨fun h1 => ?_, fun h1 => ?_⟩
  · rw [Int32.le_iff_toInt_le, h0, nI_toInt (by omega)] at h1; rw [decide_eq_false (by omega)] at h; exact h
  · rw [Int32.le_iff_toInt_le, h0, nI_toInt (by omega)] at h1; rw [decide_eq_true (by omega)] at h; exact h
theorem s_X2_hasShip {o : Nat} {F : NF} {v : Int32} {P : Bool → IT → JT → Prop} (ho : isF o) (hC : FlC I o F) (hF : okF F) (h : P (inN v (F 0)) I J) : SemZ g d M_X2_hasShip [.ref (ga g o), .int v] I J P := by
  refine w_X2_hasShip ho ?_
  unfold VC_X2_hasShip
  rw [hC.1]
  exact rng (P := fun b => P b I J) (nI_toInt (by have := hF.1; omega)) h
-- the reference
theorem s_X8_in {a b c : Int64} {P : Bool → IT → JT → Prop} (h : P (inR a.toInt b.toInt c.toInt) I J) : SemZ g d M_X8_in [.long a, .long b, .long c] I J P := by
  refine w_X8_in ?_
  unfold VC_X8_in
  unfold inR at h
  refine ⟨fun h1 => ?_, fun h1 => ⟨fun h2 => ?_, fun h2 => ?_⟩⟩
  · rw [Int64.lt_iff_toInt_lt] at h1; rw [decide_eq_false (by omega)] at h; exact h
  · rw [Int64.lt_iff_toInt_lt] at h2; rw [decide_eq_false (by omega)] at h; exact h
  · rw [Int64.lt_iff_toInt_lt] at h1 h2; rw [decide_eq_true (by omega)] at h; exact h
/-- in(v, 0, n - 1) with v, n - 1 widened -/
theorem s_X8_inN {v : Int32} {c : Int64} {n : Nat} {P : Bool → IT → JT → Prop} (hc : c.toInt = (n : Int) - 1) (h : P (inN v n) I J) : SemZ g d M_X8_in [.long v.toInt64, .long 0, .long c] I J P := by
  refine s_X8_in ?_
  rw [Int32.toInt_toInt64, show (0 : Int64).toInt = 0 from by decide, inR_N hc]
  exact h
theorem nI_m1 {n : Nat} (h : n < 2 ^ 31) : (nI n - 1).toInt64.toInt = (n : Int) - 1 := by
  rw [Int32.toInt_toInt64, Int32.toInt_sub, nI_toInt h, show (1 : Int32).toInt = 1 from by decide, Int.bmod_def]
  omega
theorem s_X8_isTeller {v : Int32} {P : Bool → IT → JT → Prop} (hd : 1 ≤ d) (h : P (inN v 4) I J) : SemZ g d M_X8_isTeller [.int v] I J P := w_X8_isTeller hd (s_X8_inN (n := 4) (by decide) h)
theorem s_X8_isSheet {v : Int32} {P : Bool → IT → JT → Prop} (hd : 1 ≤ d) (h : P (inN v 4) I J) : SemZ g d M_X8_isSheet [.int v] I J P := w_X8_isSheet hd (s_X8_inN (n := 4) (by decide) h)
theorem s_X8_isFleet {F : NF} {P : Bool → IT → JT → Prop} (hM : MF I 0 F) (hF : okF F) (h : P (decide (0 < F 0)) I J) : SemZ g d M_X8_isFleet [.ref (ga g 118)] I J P := by
  refine w_X8_isFleet ?_
  unfold VC_X8_isFleet
  have h6 := hF.1
  rw [show I 119 0 = nI (F 0) from hM 0 (by omega)]
  have h0 : (0 : Int32).toInt = 0 := by decide
  refine ⟨fun h1 => ?_, fun h1 => ?_⟩
  · rw [Int32.le_iff_toInt_le, h0, nI_toInt (by omega)] at h1; rw [decide_eq_false (by omega)] at h; exact h
  · rw [Int32.le_iff_toInt_le, h0, nI_toInt (by omega)] at h1; rw [decide_eq_true (by omega)] at h; exact h
theorem s_X8_isShip {F : NF} {v : Int32} {P : Bool → IT → JT → Prop} (hd : 1 ≤ d) (hM : MF I 0 F) (hF : okF F) (h : P (inN v (F 0)) I J) : SemZ g d M_X8_isShip [.ref (ga g 118), .int v] I J P := by
  refine w_X8_isShip hd ?_
  unfold VC_X8_isShip
  rw [show I 119 0 = nI (F 0) from hM 0 (by omega)]
  exact s_X8_inN (nI_m1 (by have := hF.1; omega)) h
-- doubt
def dbt (k w t : Nat) : Nat := if k = 1 then 3 + w else if k = 2 ∨ k = 5 then 1 + w else if k = 4 ∧ t = 0 then w else 10
theorem s_X7_doubtBy {k w t : Nat} {P : Int32 → IT → JT → Prop} (hk : 1 ≤ k ∧ k ≤ 5) (ht : t < 4) (h : P (nI (dbt k w t)) I J) : SemI g d M_X7_doubtBy [.int (nI k), .int (nI w), .int (nI t)] I J P := by
  refine w_X7_doubtBy ?_
  unfold VC_X7_doubtBy
  have e3 : (3 : Int32) + nI w = nI (3 + w) := nI_add 3 w
  have e1 : (3 : Int32) + nI w - 2 = nI (1 + w) := by rw [e3]; rw [show (2 : Int32) = nI 2 from rfl, pk_sub (by omega)]; congr 1; omega
  have e0 : (3 : Int32) + nI w - 3 = nI w := by rw [e3]; rw [show (3 : Int32) = nI 3 from rfl, pk_sub (by omega)]; congr 1; omega
  rw [e1, e0, e3]
  have hk' : k = 1 ∨ k = 2 ∨ k = 3 ∨ k = 4 ∨ k = 5 := by omega
  have ht' : t = 0 ∨ t = 1 ∨ t = 2 ∨ t = 3 := by omega
  unfold dbt at h
  rcases hk' with rfl | rfl | rfl | rfl | rfl
  · exact ⟨fun _ => h, fun q => absurd q (by decide), fun q => absurd q (by decide), fun q => absurd q (by decide), fun q => absurd rfl q.1⟩
  · exact ⟨fun q => absurd q (by decide), fun _ => h, fun q => absurd q (by decide), fun q => absurd q (by decide), fun q => absurd rfl q.2.1⟩
  · exact ⟨fun q => absurd q (by decide), fun q => absurd q (by decide), fun q => absurd q (by decide), fun q => absurd q (by decide), fun q => h⟩
  · refine ⟨fun q => absurd q (by decide), fun q => absurd q (by decide), fun _ => ?_, fun q => absurd q (by decide), fun q => absurd rfl q.2.2.1⟩
    rcases ht' with rfl | rfl | rfl | rfl
    · exact ⟨fun q => absurd rfl q, fun _ => h⟩
    · exact ⟨fun _ => h, fun q => absurd q (by decide)⟩
    · exact ⟨fun _ => h, fun q => absurd q (by decide)⟩
    · exact ⟨fun _ => h, fun q => absurd q (by decide)⟩
  · exact ⟨fun q => absurd q (by decide), fun q => absurd q (by decide), fun q => absurd q (by decide), fun _ => h, fun q => absurd rfl q.2.2.2⟩
theorem s_X8_oak {r s : Nat} {P : Int32 → IT → JT → Prop} (hi : r + 70 + s < 952) (h : P (3 + I 119 (r + 70 + s)) I J) : SemI g d M_X8_oak [.ref (ga g 118), .int (nI r), .int (nI s)] I J P := by
  refine w_X8_oak ?_
  unfold VC_X8_oak
  rw [ix3 r 70 s 70 rfl, nI_cl (by omega)]
  exact ⟨vp_in_nI hi (by omega), h⟩
theorem s_X8_doubtIn {r s t k w : Nat} {P : Int32 → IT → JT → Prop} (hd : 1 ≤ d) (hi : r + 70 + s < 952) (hk : 1 ≤ k ∧ k ≤ 5) (ht : t < 4) (e1 : I 119 (r + 51 + s) = nI k) (e2 : I 119 (r + 70 + s) = nI w) (h : P (nI (dbt k w t)) I J) : SemI g d M_X8_doubtIn [.ref (ga g 118), .int (nI r), .int (nI s), .int (nI t)] I J P := by
  refine w_X8_doubtIn hd ?_
  unfold VC_X8_doubtIn
  rw [ix3 r 51 s 51 rfl, nI_cl (by omega), e1]
  refine ⟨vp_in_nI (by omega) (by omega), ?_⟩
  have e3 : (3 : Int32) + nI w = nI (3 + w) := nI_add 3 w
  have f1 : (3 : Int32) + nI w - 2 = nI (1 + w) := by rw [e3]; rw [show (2 : Int32) = nI 2 from rfl, pk_sub (by omega)]; congr 1; omega
  have f0 : (3 : Int32) + nI w - 3 = nI w := by rw [e3]; rw [show (3 : Int32) = nI 3 from rfl, pk_sub (by omega)]; congr 1; omega
  have ok : ∀ {Q : Int32 → IT → JT → Prop}, Q (3 + nI w) I J → SemI g (d - 1) M_X8_oak [.ref (ga g 118), .int (nI r), .int (nI s)] I J Q := fun q => s_X8_oak hi (by rw [e2]; exact q)
  have hk' : k = 1 ∨ k = 2 ∨ k = 3 ∨ k = 4 ∨ k = 5 := by omega
  have ht' : t = 0 ∨ t = 1 ∨ t = 2 ∨ t = 3 := by omega
  unfold dbt at h
  rcases hk' with rfl | rfl | rfl | rfl | rfl
  · exact ⟨fun q => absurd q (by decide), fun q => absurd q (by decide), fun q => absurd q (by decide), fun q => absurd q (by decide), fun _ => ok (by rw [e3]; exact h)⟩
  · exact ⟨fun _ => ok (by rw [f1]; exact h), fun q => absurd q (by decide), fun q => absurd q (by decide), fun q => absurd q (by decide), fun q => absurd rfl q.1⟩
  · exact ⟨fun q => absurd q (by decide), fun _ => h, fun q => absurd q (by decide), fun q => absurd q (by decide), fun q => absurd rfl q.2.1⟩
  · refine ⟨fun q => absurd q (by decide), fun q => absurd q (by decide), fun _ => ?_, fun q => absurd q (by decide), fun q => absurd rfl q.2.2.1⟩
    rcases ht' with rfl | rfl | rfl | rfl
    · exact ⟨fun q => absurd rfl q, fun _ => ok (by rw [f0]; exact h)⟩
    · exact ⟨fun _ => h, fun q => absurd q (by decide)⟩
    · exact ⟨fun _ => h, fun q => absurd q (by decide)⟩
    · exact ⟨fun _ => h, fun q => absurd q (by decide)⟩
  · exact ⟨fun q => absurd q (by decide), fun q => absurd q (by decide), fun q => absurd q (by decide), fun _ => ok (by rw [f1]; exact h), fun q => absurd rfl q.2.2.2⟩
end LOW
