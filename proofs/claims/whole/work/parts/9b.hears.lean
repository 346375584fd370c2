-- ===== sets of ships; who hears whom =====
def accN (f : Nat → Nat → Nat) (z : Nat) : Nat → Nat
  | 0 => z
  | k + 1 => f k (accN f z k)
def itr (f : Nat → Nat) (z : Nat) : Nat → Nat
  | 0 => z
  | k + 1 => f (itr f z k)
def pc (S : Nat) : Nat := S % 2 + S / 2 % 2 + S / 4 % 2 + S / 8 % 2 + S / 16 % 2 + S / 32 % 2
theorem pc_lt : ∀ S, S < 64 → ∀ T, T < 64 → S ||| T = T → S ≠ T → pc S < pc T := by decide +kernel
theorem pc_le : ∀ N, N < 7 → ∀ S, S < 2 ^ N → pc S ≤ N := by decide +kernel
theorem pc_one : ∀ s, s < 6 → pc (2 ^ s) = 1 := by decide +kernel
theorem or_bit : ∀ S, S < 64 → ∀ b, b < 6 → nI S ||| (1 <<< (nI b &&& 31)) = nI (S ||| 2 ^ b) := by decide +kernel
theorem one_bit : ∀ b, b < 6 → (1 : Int32) <<< (nI b &&& 31) = nI (2 ^ b) := by decide +kernel
theorem tst_bit : ∀ S, S < 64 → ∀ b, b < 6 → ((nI S &&& (1 <<< (nI b &&& 31))) = 0 ↔ S.testBit b = false) := by decide +kernel
theorem has_bit : ∀ S, S < 64 → ∀ b, b < 6 → (((nI S >>> (nI b &&& 31)) &&& 1) = 1 ↔ S.testBit b = true) := by decide +kernel
theorem and_set : ∀ S, S < 64 → ∀ T, T < 64 → nI S &&& nI T = nI (S &&& T) := by decide +kernel
theorem or_set : ∀ S, S < 64 → ∀ T, T < 64 → nI S ||| nI T = nI (S ||| T) := by decide +kernel
theorem all_set : ∀ N, N < 7 → ((1 : Int32) <<< (nI N &&& 31)) - 1 = nI (2 ^ N - 1) := by decide +kernel
def oth (N s : Nat) : Nat := 2 ^ N - 1 - 2 ^ s
theorem oth_set : ∀ N, N < 7 → ∀ s, s < N → nI (2 ^ N - 1) &&& ((1 <<< (nI s &&& 31)) ^^^ (-1)) = nI (oth N s) := by decide +kernel
theorem p64 {N : Nat} (h : N ≤ 6) : 2 ^ N ≤ 64 := Nat.pow_le_pow_right (n := 2) (by omega) h
theorem bit_lt {N b : Nat} (h : b < N) : 2 ^ b < 2 ^ N := Nat.pow_lt_pow_right (by omega) h
theorem fixp {f : Nat → Nat} {z N : Nat} (hN : N ≤ 6) (h1 : 1 ≤ N) (hb : ∀ S, S < 2 ^ N → f S < 2 ^ N ∧ S ||| f S = f S) (hz : z < 2 ^ N) (hz2 : 1 ≤ pc z) : (∀ k, itr f z k < 2 ^ N) ∧ f (itr f z (N - 1)) = itr f z (N - 1) := by
  have h64 := p64 hN
  have lt : ∀ k, itr f z k < 2 ^ N := by
    intro k
    induction k with
    | zero => exact hz
    | succ k ih => exact (hb _ ih).1
  refine ⟨lt, ?_⟩
  have grow : ∀ k, f (itr f z k) = itr f z k ∨ k + 2 ≤ pc (itr f z (k + 1)) := by
    intro k
    have up : ∀ k, f (itr f z k) = itr f z k ∨ pc (itr f z k) < pc (itr f z (k + 1)) := by
      intro k
      by_cases e : f (itr f z k) = itr f z k
      · exact Or.inl e
      · refine Or.inr (pc_lt _ (by have := lt k; omega) _ (by have := lt (k + 1); omega) (hb _ (lt k)).2 (fun y => e y.symm))
    induction k with
    | zero =>
      rcases up 0 with e | e
      · exact Or.inl e
      · exact Or.inr (by have : pc (itr f z 0) = pc z := rfl; omega)
    | succ k ih =>
      rcases ih with e | e
      · left
        have e2 : itr f z (k + 1) = itr f z k := e
        rw [e2]; exact e
      · rcases up (k + 1) with e2 | e2
        · exact Or.inl e2
        · exact Or.inr (by omega)
  rcases grow (N - 1) with e | e
  · exact e
  · exfalso
    have := pc_le N (by omega) _ (lt (N - 1 + 1))
    omega
def dif (x y : Nat) : Nat := (x - y) + (y - x)
def awy (a b : Nat) : Nat := dif (a / 8) (b / 8) + dif (a % 8) (b % 8)
theorem dif_c : ∀ x, x < 8 → ∀ y, y < 8 → (if 0 ≤ nI x - nI y then nI x - nI y else 0 - (nI x - nI y)) = nI (dif x y) := by decide +kernel
theorem dif_m : ∀ x, x < 8 → ∀ y, y < 8 → (0 ≤ nI x - nI y → nI x - nI y = nI (dif x y)) ∧ (¬ 0 ≤ nI x - nI y → -(nI x - nI y) = nI (dif x y)) := by decide +kernel
theorem dif_le {x y n : Nat} (hx : x < n) (hy : y < n) : dif x y < n := by unfold dif; omega
theorem awy_lt {a b : Nat} (ha : a < 48) (hb : b < 48) : awy a b < 14 := by
  have h1 := dif_le (show a / 8 < 6 by omega) (show b / 8 < 6 by omega)
  have h2 := dif_le (show a % 8 < 8 by omega) (show b % 8 < 8 by omega)
  unfold awy; omega
def nrI (F : NF) (d S a z : Nat) : Nat → Nat := accN (fun b T => if S.testBit a && decide (awy (F (58 + a)) (F (58 + b)) ≤ d) then T ||| 2 ^ b else T) z
def nrA (F : NF) (d S : Nat) : Nat → Nat := accN (fun a T => nrI F d S a T (F 0)) 0
def stp (F : NF) (d m S : Nat) : Nat := S ||| (nrA F d S (F 0) &&& m)
def rfI (F : NF) (d m S a z : Nat) : Nat → Nat := accN (fun b T => if S.testBit a && (m.testBit b && decide (awy (F (58 + a)) (F (58 + b)) ≤ d)) then T ||| 2 ^ b else T) z
def rfA (F : NF) (d m S : Nat) : Nat → Nat := accN (fun a T => rfI F d m S a T (F 0)) S
theorem nrI_lt {F : NF} {d S a z N : Nat} (hz : z < 2 ^ N) : ∀ k, k ≤ N → nrI F d S a z k < 2 ^ N := by
  intro k
  induction k with
  | zero => intro _; exact hz
  | succ k ih =>
    intro hk
    have i := ih (by omega)
    show (if S.testBit a && decide (awy (F (58 + a)) (F (58 + k)) ≤ d) then nrI F d S a z k ||| 2 ^ k else nrI F d S a z k) < 2 ^ N
    split
    · exact Nat.or_lt_two_pow i (bit_lt (by omega))
    · exact i
theorem nrA_lt {F : NF} {d S : Nat} : ∀ k, nrA F d S k < 2 ^ F 0 := by
  intro k
  induction k with
  | zero => exact Nat.two_pow_pos _
  | succ k ih => exact nrI_lt ih _ (Nat.le_refl _)
theorem bit_t {b j : Nat} : (2 ^ b).testBit j = decide (b = j) := Nat.testBit_two_pow ..
theorem stp_b {z m S b : Nat} (h : m.testBit b = true) : (S ||| (z &&& m)) ||| 2 ^ b = S ||| ((z ||| 2 ^ b) &&& m) := by
  apply Nat.eq_of_testBit_eq
  intro j
  rw [Nat.testBit_or, Nat.testBit_or, Nat.testBit_and, Nat.testBit_or, Nat.testBit_and, Nat.testBit_or, bit_t]
  by_cases e : b = j
  · subst e; rw [h, decide_eq_true rfl]; simp
  · rw [decide_eq_false e]; simp
theorem stp_n {z m S b : Nat} (h : m.testBit b = false) : S ||| (z &&& m) = S ||| ((z ||| 2 ^ b) &&& m) := by
  apply Nat.eq_of_testBit_eq
  intro j
  rw [Nat.testBit_or, Nat.testBit_and, Nat.testBit_or, Nat.testBit_and, Nat.testBit_or, bit_t]
  by_cases e : b = j
  · subst e; rw [h]; simp
  · rw [decide_eq_false e]; simp
theorem rfI_eq {F : NF} {d m S a z : Nat} : ∀ k, rfI F d m S a (S ||| (z &&& m)) k = S ||| (nrI F d S a z k &&& m) := by
  intro k
  induction k with
  | zero => rfl
  | succ k ih =>
    show (if S.testBit a && (m.testBit k && decide (awy (F (58 + a)) (F (58 + k)) ≤ d)) then rfI F d m S a (S ||| (z &&& m)) k ||| 2 ^ k else rfI F d m S a (S ||| (z &&& m)) k) = S ||| ((if S.testBit a && decide (awy (F (58 + a)) (F (58 + k)) ≤ d) then nrI F d S a z k ||| 2 ^ k else nrI F d S a z k) &&& m)
    rw [ih]
    cases h1 : S.testBit a with
    | false => rfl
    | true =>
      cases h2 : decide (awy (F (58 + a)) (F (58 + k)) ≤ d) with
      | false =>
        cases h3 : m.testBit k <;> rfl
      | true =>
        cases h3 : m.testBit k with
        | true => exact stp_b h3
        | false => exact stp_n h3
theorem rfA_eq {F : NF} {d m S : Nat} : ∀ k, rfA F d m S k = S ||| (nrA F d S k &&& m) := by
  intro k
  induction k with
  | zero => show S = S ||| (0 &&& m); rw [Nat.zero_and, Nat.or_zero]
  | succ k ih =>
    show rfI F d m S k (rfA F d m S k) (F 0) = S ||| (nrI F d S k (nrA F d S k) (F 0) &&& m)
    rw [ih, rfI_eq]
theorem stp_ok {F : NF} {d m S : Nat} (h : S < 2 ^ F 0) : stp F d m S < 2 ^ F 0 ∧ S ||| stp F d m S = stp F d m S := by
  refine ⟨Nat.or_lt_two_pow h (Nat.lt_of_le_of_lt Nat.and_le_left (nrA_lt _)), ?_⟩
  unfold stp
  rw [← Nat.or_assoc, Nat.or_self]
/-- whom a ship hears by way of the ships of m -/
def hrd (F : NF) (d m s : Nat) : Nat := itr (stp F d m) (2 ^ s) (F 0 - 1)
theorem hrd_fix {F : NF} {d m s : Nat} (h6 : F 0 ≤ 6) (hs : s < F 0) : (∀ k, itr (stp F d m) (2 ^ s) k < 2 ^ F 0) ∧ stp F d m (hrd F d m s) = hrd F d m s :=
  fixp h6 (by omega) (fun _ h => stp_ok h) (bit_lt hs) (by rw [pc_one s (by omega)]; exact Nat.le_refl _)
section HRS
variable {g : GT} {d : Nat} {I : IT} {J : JT}
theorem s_X3_away {a b : Nat} {P : Int32 → IT → JT → Prop} (hd : 1 ≤ d) (ha : a < 48) (hb : b < 48) (h : P (nI (awy a b)) I J) : SemI g d M_X3_away [.int (nI a), .int (nI b)] I J P := by
  refine w_X3_away hd ?_
  unfold VC_X3_away
  rw [nI_r8 (by omega), nI_r8 (by omega), nI_d8 (by omega), nI_d8 (by omega), dif_c _ (by omega) _ (by omega), dif_c _ (by omega) _ (by omega), nI_add]
  exact h
theorem s_X8_size {x y : Nat} {P : Int32 → IT → JT → Prop} (hx : x < 8) (hy : y < 8) (h : P (nI (dif x y)) I J) : SemI g d M_X8_size [.int (nI x - nI y)] I J P := by
  refine w_X8_size ?_
  unfold VC_X8_size
  have k := dif_m x hx y hy
  exact ⟨fun q => by rw [k.1 q]; exact h, fun q => by rw [k.2 q]; exact h⟩
theorem s_X8_away {a b : Nat} {P : Int32 → IT → JT → Prop} (hd : 1 ≤ d) (ha : a < 48) (hb : b < 48) (h : P (nI (awy a b)) I J) : SemI g d M_X8_away [.int (nI a), .int (nI b)] I J P := by
  refine w_X8_away hd ?_
  unfold VC_X8_away
  rw [nI_r8 (by omega), nI_r8 (by omega), nI_d8 (by omega), nI_d8 (by omega)]
  refine s_X8_size (by omega) (by omega) (s_X8_size (by omega) (by omega) ?_)
  rw [nI_add]; exact h
theorem okF.cel {F : NF} {s : Nat} (h : okF F) (hs : s < F 0) : F (58 + s) < 48 := by
  have := (h.2.2.2.2.2.1 s hs).2.2.1
  have := h.2.1
  omega
theorem s_X2_everyShip {o : Nat} {F : NF} {P : Int32 → IT → JT → Prop} (ho : isF o) (hC : FlC I o F) (hF : okF F) (h : P (nI (2 ^ F 0 - 1)) I J) : SemI g d M_X2_everyShip [.ref (ga g o)] I J P := by
  refine w_X2_everyShip ho ?_
  unfold VC_X2_everyShip
  have := hF.1
  rw [hC.1, all_set _ (by omega)]; exact h
theorem s_X2_nearAny {o S dd : Nat} {F : NF} {P : Int32 → IT → JT → Prop} (hd : 2 ≤ d) (ho : isF o) (hC : FlC I o F) (hF : okF F) (hS : S < 64) (hdd : dd < 13) (h : P (nI (nrA F dd S (F 0))) I J) : SemI g d M_X2_nearAny [.ref (ga g o), .int (nI S), .int (nI dd)] I J P := by
  have h6 := hF.1
  have h64 := p64 h6
  refine w_X2_nearAny ho ?_
  unfold VC_X2_nearAny
  refine upTo (Q := fun a => Lp_X2_nearAny_5 g d o (nI S) (nI dd) (nI (nrA F dd S a)) (nI a) I J P) (N := F 0) ?_ (fun a ha ih => ?_)
  · refine w_X2_nearAny_5 ho ?_
    unfold VC_X2_nearAny_5
    rw [hC.1]
    exact ⟨fun _ => h, fun z => absurd (nI_le (Nat.le_refl _) (by omega)) z⟩
  · refine w_X2_nearAny_5 ho ?_
    unfold VC_X2_nearAny_5
    rw [hC.1]
    refine ⟨fun z => absurd ((nI_leI (by omega) (by omega)).mp z) (by omega), fun _ => ?_⟩
    refine upTo (Q := fun b => Lp_X2_nearAny_17 g d o (nI S) (nI dd) (nI (nrI F dd S a (nrA F dd S a) b)) (nI a) (nI b) I J P) (N := F 0) ?_ (fun b hb ihb => ?_)
    · refine w_X2_nearAny_17 ho (by omega) ?_
      unfold VC_X2_nearAny_17
      rw [hC.1, nI_one]
      exact ⟨fun _ => ih, fun z => absurd (nI_le (Nat.le_refl _) (by omega)) z⟩
    · refine w_X2_nearAny_17 ho (by omega) ?_
      unfold VC_X2_nearAny_17
      rw [hC.1, nI_one, nI_one, nI_cl (by omega), nI_cl (by omega), (hC.2.2.2.2.1 a ha).2.1, (hC.2.2.2.2.1 b hb).2.1]
      have ca := hF.cel ha
      have cb := hF.cel hb
      have lt : nrI F dd S a (nrA F dd S a) b < 2 ^ F 0 := nrI_lt (nrA_lt _) _ (by omega)
      have e : nrI F dd S a (nrA F dd S a) (b + 1) = (if S.testBit a && decide (awy (F (58 + a)) (F (58 + b)) ≤ dd) then nrI F dd S a (nrA F dd S a) b ||| 2 ^ b else nrI F dd S a (nrA F dd S a) b) := rfl
      rw [e] at ihb
      refine ⟨fun z => absurd ((nI_leI (by omega) (by omega)).mp z) (by omega), fun _ => ⟨fun z => ?_, fun z => ?_⟩⟩
      · rw [(tst_bit S hS a (by omega)).mp z] at ihb; exact ihb
      · have z : S.testBit a = true := by
          cases hz : S.testBit a with
          | true => rfl
          | false => exact absurd ((tst_bit S hS a (by omega)).mpr hz) z
        rw [z] at ihb
        have al := awy_lt ca cb
        refine ⟨vp_in_nI (by omega) (by omega), vp_in_nI (by omega) (by omega), s_X3_away (by omega) ca cb ⟨fun y => ?_, fun y => ?_⟩⟩
        · have y := (nI_ltI (by omega) (by omega)).mp y
          rw [decide_eq_false (by omega)] at ihb; exact ihb
        · have y : ¬ dd < awy (F (58 + a)) (F (58 + b)) := fun w => y ((nI_ltI (by omega) (by omega)).mpr w)
          rw [decide_eq_true (by omega)] at ihb
          rw [or_bit _ (by omega) b (by omega)]; exact ihb
theorem s_X2_heardBy {o s m dd : Nat} {F : NF} {P : Int32 → IT → JT → Prop} (hd : 3 ≤ d) (ho : isF o) (hC : FlC I o F) (hF : okF F) (hs : s < F 0) (hm : m < 64) (hdd : dd < 13) (h : P (nI (hrd F dd m s)) I J) : SemI g d M_X2_heardBy [.ref (ga g o), .int (nI s), .int (nI m), .int (nI dd)] I J P := by
  have h6 := hF.1
  have h64 := p64 h6
  refine w_X2_heardBy ho ?_
  unfold VC_X2_heardBy
  have lt := (hrd_fix (d := dd) (m := m) h6 hs).1
  rw [one_bit s (by omega)]
  refine upTo (Q := fun k => Lp_X2_heardBy_8 g d o (nI m) (nI dd) (nI (itr (stp F dd m) (2 ^ s) k)) (nI (k + 1)) I J P) (N := F 0 - 1) ?_ (fun k hk ih => ?_)
  · refine w_X2_heardBy_8 ho (by omega) ?_
    unfold VC_X2_heardBy_8
    rw [hC.1]
    exact ⟨fun _ => h, fun z => absurd (nI_le (by omega) (by omega)) z⟩
  · refine w_X2_heardBy_8 ho (by omega) ?_
    unfold VC_X2_heardBy_8
    rw [hC.1, nI_one]
    have l1 := lt k
    refine ⟨fun z => absurd ((nI_leI (by omega) (by omega)).mp z) (by omega), fun _ => ?_⟩
    refine s_X2_nearAny (by omega) ho hC hF (by omega) hdd ?_
    have l2 : nrA F dd (itr (stp F dd m) (2 ^ s) k) (F 0) < 2 ^ F 0 := nrA_lt _
    have l3 : nrA F dd (itr (stp F dd m) (2 ^ s) k) (F 0) &&& m < 2 ^ F 0 := Nat.lt_of_le_of_lt Nat.and_le_left l2
    rw [and_set _ (by omega) _ hm, or_set _ (by omega) _ (by omega)]
    exact ih
theorem s_X8_has {S b : Nat} {P : Bool → IT → JT → Prop} (hS : S < 64) (hb : b < 6) (h : P (S.testBit b) I J) : SemZ g d M_X8_has [.int (nI S), .int (nI b)] I J P := by
  refine w_X8_has ?_
  unfold VC_X8_has
  have k := has_bit S hS b hb
  refine ⟨fun q => ?_, fun q => ?_⟩
  · have : S.testBit b = false := by
      cases hz : S.testBit b with
      | true => exact absurd (k.mpr hz) q
      | false => rfl
    rw [this] at h; exact h
  · rw [k.mp q] at h; exact h
theorem s_X8_hearing {s m dd : Nat} {F : NF} {P : Int32 → IT → JT → Prop} (hd : 2 ≤ d) (hM : MF I 0 F) (hF : okF F) (hs : s < F 0) (hm : m < 64) (hdd : dd < 13) (h : P (nI (hrd F dd m s)) I J) : SemI g d M_X8_hearing [.ref (ga g 118), .int (nI s), .int (nI dd), .int (nI m)] I J P := by
  have h6 := hF.1
  have h64 := p64 h6
  obtain ⟨lt, fx⟩ := hrd_fix (d := dd) (m := m) h6 hs
  refine w_X8_hearing ?_
  unfold VC_X8_hearing
  rw [one_bit s (by omega)]
  have e0 := hM.a0 0 (by omega)
  have round : ∀ S, S < 2 ^ F 0 → ((stp F dd m S = S → Lp_X8_hearing_8 g d (nI dd) (nI m) (nI S) false I J P) ∧ (stp F dd m S ≠ S → Lp_X8_hearing_8 g d (nI dd) (nI m) (nI (stp F dd m S)) true I J P)) → Lp_X8_hearing_8 g d (nI dd) (nI m) (nI S) true I J P := by
    intro S hS hh
    refine w_X8_hearing_8 ?_
    unfold VC_X8_hearing_8
    refine ⟨fun z => Bool.noConfusion z, fun _ => ?_⟩
    have rA : ∀ k, rfA F dd m S k < 2 ^ F 0 := fun k => by
      rw [rfA_eq]; exact Nat.or_lt_two_pow hS (Nat.lt_of_le_of_lt Nat.and_le_left (nrA_lt _))
    refine upTo (Q := fun a => Lp_X8_hearing_20 g d (nI dd) (nI m) (nI S) (nI (rfA F dd m S a)) (nI a) I J P) (N := F 0) ?_ (fun a ha ih => ?_)
    · refine w_X8_hearing_20 ?_
      unfold VC_X8_hearing_20
      have es : rfA F dd m S (F 0) = stp F dd m S := rfA_eq _
      have l1 := rA (F 0)
      rw [e0]
      rw [es] at l1 ⊢
      refine ⟨fun _ => ⟨fun z => ?_, fun z => ?_⟩, fun z => absurd (nI_le (Nat.le_refl _) (by omega)) z⟩
      · have z := (nI_eq (by omega) (by omega)).mp z
        have := hh.1 z
        rw [z]; exact this
      · exact hh.2 (fun y => z (by rw [y]))
    · refine w_X8_hearing_20 ?_
      unfold VC_X8_hearing_20
      rw [e0]
      refine ⟨fun z => absurd ((nI_leI (by omega) (by omega)).mp z) (by omega), fun _ => ?_⟩
      have rI : ∀ b, rfI F dd m S a (rfA F dd m S a) b < 2 ^ F 0 ∨ F 0 < b := fun b => by
        by_cases hb : b ≤ F 0
        · left
          rw [rfA_eq, rfI_eq]; exact Nat.or_lt_two_pow hS (Nat.lt_of_le_of_lt Nat.and_le_left (nrI_lt (nrA_lt _) _ hb))
        · right; omega
      refine upTo (Q := fun b => Lp_X8_hearing_34 g d (nI dd) (nI m) (nI S) (nI (rfI F dd m S a (rfA F dd m S a) b)) (nI a) (nI b) I J P) (N := F 0) ?_ (fun b hb ihb => ?_)
      · refine w_X8_hearing_34 (by omega) ?_
        unfold VC_X8_hearing_34
        rw [e0, nI_one]
        exact ⟨fun _ => ih, fun z => absurd (nI_le (Nat.le_refl _) (by omega)) z⟩
      · refine w_X8_hearing_34 (by omega) ?_
        unfold VC_X8_hearing_34
        have ca := hF.cel ha
        have cb := hF.cel hb
        have al := awy_lt ca cb
        have lt1 := rI b
        have e : rfI F dd m S a (rfA F dd m S a) (b + 1) = (if S.testBit a && (m.testBit b && decide (awy (F (58 + a)) (F (58 + b)) ≤ dd)) then rfI F dd m S a (rfA F dd m S a) b ||| 2 ^ b else rfI F dd m S a (rfA F dd m S a) b) := rfl
        rw [e] at ihb
        rw [e0, nI_one, nI_one, or0]
        refine ⟨fun z => absurd ((nI_leI (by omega) (by omega)).mp z) (by omega), fun _ => ?_⟩
        refine s_X8_has (by omega) (by omega) ⟨fun z => ?_, fun z => ?_⟩
        · rw [z] at ihb; exact ihb
        rw [z] at ihb
        refine s_X8_has hm (by omega) ⟨fun y => ?_, fun y => ?_⟩
        · rw [y] at ihb; exact ihb
        rw [y] at ihb
        rw [ix2 58 a 58 rfl, ix2 58 b 58 rfl, nI_cl (by omega), nI_cl (by omega), hM.a0 (58 + a) (by omega), hM.a0 (58 + b) (by omega)]
        refine ⟨vp_in_nI (by omega) (by omega), vp_in_nI (by omega) (by omega), s_X8_away (by omega) ca cb ⟨fun w => ?_, fun w => ?_⟩⟩
        · have w := (nI_ltI (by omega) (by omega)).mp w
          rw [decide_eq_false (by omega)] at ihb; exact ihb
        · have w : ¬ dd < awy (F (58 + a)) (F (58 + b)) := fun v => w ((nI_ltI (by omega) (by omega)).mpr v)
          rw [decide_eq_true (by omega)] at ihb
          rw [or_bit _ (by omega) b (by omega)]; exact ihb
  have stay : ∀ j k, stp F dd m (itr (stp F dd m) (2 ^ s) k) = itr (stp F dd m) (2 ^ s) k → itr (stp F dd m) (2 ^ s) (k + j) = itr (stp F dd m) (2 ^ s) k := by
    intro j k hk
    induction j with
    | zero => rfl
    | succ j ih =>
      show stp F dd m (itr (stp F dd m) (2 ^ s) (k + j)) = _
      rw [ih, hk]
  refine upTo (Q := fun k => Lp_X8_hearing_8 g d (nI dd) (nI m) (nI (itr (stp F dd m) (2 ^ s) k)) true I J P) (N := F 0 - 1) ?_ (fun k hk ih => ?_)
  · refine round _ (lt _) ⟨fun _ => ?_, fun z => absurd fx z⟩
    refine w_X8_hearing_8 ?_
    unfold VC_X8_hearing_8
    exact ⟨fun _ => h, fun z => Bool.noConfusion z⟩
  · refine round _ (lt _) ⟨fun z => ?_, fun _ => ih⟩
    refine w_X8_hearing_8 ?_
    unfold VC_X8_hearing_8
    refine ⟨fun _ => ?_, fun z => Bool.noConfusion z⟩
    have := stay (F 0 - 1 - k) k z
    rw [show k + (F 0 - 1 - k) = F 0 - 1 from by omega] at this
    rw [← this]; exact h
end HRS
abbrev cHr (a b : Int32) (σ : ST) : Prop := inN a (sF σ 0) = true ∧ inN b 13 = true
def vHears (a b : Int32) (σ : ST) : Int32 := if cHr a b σ then nI (hrd (sF σ) b.toNatClampNeg (2 ^ sF σ 0 - 1) a.toNatClampNeg) else -1
theorem e_hears {g : GT} (a0 a1 : Int32) : EQI g Rel M_X7_hears M_X8_hears [.int a0, .int a1] := by
  refine eqI_of (vHears a0 a1) id (fun σ I J P hk hC h => ?_) (fun σ I J P hk hM h => ?_) (fun _ h => h)
  · have h := h I J hC smM.rf
    unfold vHears at h
    refine w_X7_hears (by omega) ?_
    unfold VC_X7_hears
    have h6 := hk.1.1
    have h64 := p64 h6
    refine s_X2_hasShip isF_3 hC.2.1 hk.1 ⟨fun q => ?_, fun q => ?_⟩
    · rw [if_neg (fun z => ff q z.1)] at h; exact h
    refine s_X7_isHearing ⟨fun q2 => ?_, fun q2 => ?_⟩
    · rw [if_pos ⟨q, q2⟩] at h
      obtain ⟨s, hs, rfl⟩ := inN_n q (by omega)
      obtain ⟨dd, hdd, rfl⟩ := inN_n q2 (by omega)
      rw [nI_cl (by omega), nI_cl (by omega)] at h
      exact s_X2_everyShip isF_3 hC.2.1 hk.1 (s_X2_heardBy (by omega) isF_3 hC.2.1 hk.1 hs (by omega) hdd h)
    · rw [if_neg (fun z => ff q2 z.2)] at h; exact h
  · have h := h I J hM smC.rf
    unfold vHears at h
    refine w_X8_hears (by omega) ?_
    unfold VC_X8_hears
    have h6 := hk.1.1
    have h64 := p64 h6
    refine s_X8_isShip (by omega) hM.2.1 hk.1 ⟨fun q => ?_, fun q => ?_⟩
    · rw [if_neg (fun z => ff q z.1)] at h; exact h
    refine s_X8_inN (n := 13) (by decide) ⟨fun q2 => ?_, fun q2 => ?_⟩
    · rw [if_neg (fun z => ff q2 z.2)] at h; exact h
    · rw [if_pos ⟨q, q2⟩] at h
      obtain ⟨s, hs, rfl⟩ := inN_n q (by omega)
      obtain ⟨dd, hdd, rfl⟩ := inN_n q2 (by omega)
      rw [nI_cl (by omega), nI_cl (by omega)] at h
      rw [hM.2.1.a0 0 (by omega), all_set _ (by omega)]
      exact s_X8_hearing (by omega) hM.2.1 hk.1 hs (by omega) hdd h
-- links
def lnk (F : NF) (d s k : Nat) : Bool := decide (∃ a, a < k ∧ a ≠ s ∧ hrd F d (2 ^ F 0 - 1) a &&& oth (F 0) s ≠ hrd F d (oth (F 0) s) a)
theorem lnk_s {F : NF} {d s k : Nat} : lnk F d s (k + 1) = (lnk F d s k || decide (k ≠ s ∧ hrd F d (2 ^ F 0 - 1) k &&& oth (F 0) s ≠ hrd F d (oth (F 0) s) k)) := by
  unfold lnk
  rw [← Bool.decide_or]
  apply decide_eq_decide.mpr
  constructor
  · rintro ⟨a, h1, h2⟩
    by_cases e : a = k
    · subst e; exact Or.inr h2
    · exact Or.inl ⟨a, by omega, h2⟩
  · rintro (⟨a, h1, h2⟩ | h2)
    · exact ⟨a, by omega, h2⟩
    · exact ⟨k, by omega, h2⟩
def lnks (F : NF) (d : Nat) : Nat → Nat := accN (fun s T => if lnk F d s (F 0) then T ||| 2 ^ s else T) 0
theorem lnks_lt {F : NF} {d : Nat} : ∀ k, k ≤ F 0 → lnks F d k < 2 ^ F 0 := by
  intro k
  induction k with
  | zero => intro _; exact Nat.two_pow_pos _
  | succ k ih =>
    intro hk
    have i := ih (by omega)
    show (if lnk F d k (F 0) then lnks F d k ||| 2 ^ k else lnks F d k) < 2 ^ F 0
    split
    · exact Nat.or_lt_two_pow i (bit_lt (by omega))
    · exact i
theorem oth_lt {N s : Nat} (h : N ≤ 6) : oth N s < 64 := by
  have := p64 h
  unfold oth
  exact Nat.lt_of_le_of_lt (Nat.sub_le _ _) (by omega)
theorem hrd_lt {F : NF} {d m s : Nat} (h6 : F 0 ≤ 6) (hs : s < F 0) : hrd F d m s < 64 := by
  have := (hrd_fix (d := d) (m := m) h6 hs).1 (F 0 - 1)
  have h64 := p64 h6
  unfold hrd; omega
theorem s_X2_isLink {g : GT} {d : Nat} {I : IT} {J : JT} {o s dd : Nat} {F : NF} {P : Bool → IT → JT → Prop} (hd : 4 ≤ d) (ho : isF o) (hC : FlC I o F) (hF : okF F) (hs : s < F 0) (hdd : dd < 13) (h : P (lnk F dd s (F 0)) I J) : SemZ g d M_X2_isLink [.ref (ga g o), .int (nI s), .int (nI dd)] I J P := by
  have h6 := hF.1
  have h64 := p64 h6
  refine w_X2_isLink ho (by omega) ?_
  unfold VC_X2_isLink
  refine s_X2_everyShip ho hC hF ?_
  rw [oth_set _ (by omega) _ hs]
  have ol := oth_lt (s := s) h6
  refine upTo (Q := fun k => lnk F dd s k = false → Lp_X2_isLink_14 g d o (nI s) (nI dd) (nI (oth (F 0) s)) (nI k) I J P) (N := F 0) (fun q => ?_) (fun k hk ih q => ?_) (decide_eq_false (fun ⟨a, z, _⟩ => absurd z (by omega)))
  · refine w_X2_isLink_14 ho (by omega) ?_
    unfold VC_X2_isLink_14
    rw [hC.1]
    rw [q] at h
    exact ⟨fun _ => h, fun z => absurd (nI_le (Nat.le_refl _) (by omega)) z⟩
  · refine w_X2_isLink_14 ho (by omega) ?_
    unfold VC_X2_isLink_14
    rw [hC.1, nI_one]
    rw [lnk_s, q, Bool.false_or] at ih
    refine ⟨fun z => absurd ((nI_leI (by omega) (by omega)).mp z) (by omega), fun _ => ⟨fun z => ih (decide_eq_false (fun y => y.1 ((nI_eq (by omega) (by omega)).mp z))), fun z => ?_⟩⟩
    have z : k ≠ s := fun y => z (by rw [y])
    have l1 := hrd_lt (d := dd) (m := 2 ^ F 0 - 1) h6 hk
    have l2 := hrd_lt (d := dd) (m := oth (F 0) s) h6 hk
    refine s_X2_everyShip ho hC hF (s_X2_heardBy (by omega) ho hC hF hk (by omega) hdd (s_X2_heardBy (by omega) ho hC hF hk ol hdd ?_))
    have l3 : hrd F dd (2 ^ F 0 - 1) k &&& oth (F 0) s < 64 := Nat.lt_of_le_of_lt Nat.and_le_left l1
    rw [and_set _ l1 _ ol]
    refine ⟨fun y => ih (decide_eq_false (fun w => w.2 ((nI_eq (by omega) (by omega)).mp y))), fun y => ?_⟩
    have : lnk F dd s (F 0) = true := decide_eq_true ⟨k, hk, z, fun w => y (by rw [w])⟩
    rw [this] at h; exact h
abbrev cLk (b : Int32) : Prop := inN b 13 = true
def vLinks (b : Int32) (σ : ST) : Int32 := if cLk b then (if 0 < sF σ 0 then nI (lnks (sF σ) b.toNatClampNeg (sF σ 0)) else -2) else -1
theorem or2 {x b : Nat} : (x ||| b) ||| b = x ||| b := by rw [Nat.or_assoc, Nat.or_self]
theorem e_links {g : GT} (a0 : Int32) : EQI g Rel M_X7_links M_X8_links [.int a0] := by
  refine eqI_of (vLinks a0) id (fun σ I J P hk hC h => ?_) (fun σ I J P hk hM h => ?_) (fun _ h => h)
  · have h := h I J hC smM.rf
    unfold vLinks at h
    refine w_X7_links (by omega) ?_
    unfold VC_X7_links
    have h6 := hk.1.1
    have h64 := p64 h6
    refine s_X7_isHearing ⟨fun q => ?_, fun q => ?_⟩
    · rw [if_pos q] at h
      obtain ⟨dd, hdd, rfl⟩ := inN_n q (by omega)
      rw [nI_cl (by omega)] at h
      refine s_X2_stands isF_3 hC.2.1 hk.1 ⟨fun q2 => ?_, fun q2 => ?_⟩
      · rw [if_pos (of_decide_eq_true q2)] at h
        refine upTo (Q := fun k => Lp_X7_links_26 g 40 (nI dd) (nI (lnks (sF σ) dd k)) (nI k) I J P) (N := sF σ 0) ?_ (fun k hk4 ih => ?_)
        · refine w_X7_links_26 (by omega) ?_
          unfold VC_X7_links_26
          rw [hC.2.1.1]
          exact ⟨fun _ => h, fun z => absurd (nI_le (Nat.le_refl _) (by omega)) z⟩
        · refine w_X7_links_26 (by omega) ?_
          unfold VC_X7_links_26
          rw [hC.2.1.1, nI_one]
          have l1 := lnks_lt (F := sF σ) (d := dd) k (by omega)
          have e : lnks (sF σ) dd (k + 1) = (if lnk (sF σ) dd k (sF σ 0) then lnks (sF σ) dd k ||| 2 ^ k else lnks (sF σ) dd k) := rfl
          rw [e] at ih
          refine ⟨fun z => absurd ((nI_leI (by omega) (by omega)).mp z) (by omega), fun _ => s_X2_isLink (by omega) isF_3 hC.2.1 hk.1 hk4 hdd ⟨fun z => ?_, fun z => ?_⟩⟩
          · rw [z] at ih; exact ih
          · rw [z] at ih
            rw [or_bit _ (by omega) k (by omega)]; exact ih
      · rw [if_neg (of_decide_eq_false q2)] at h; exact h
    · rw [if_neg (fun z => ff q z)] at h; exact h
  · have h := h I J hM smC.rf
    unfold vLinks at h
    refine w_X8_links (by omega) ?_
    unfold VC_X8_links
    have h6 := hk.1.1
    have h64 := p64 h6
    have e0 := hM.2.1.a0 0 (by omega)
    refine s_X8_inN (n := 13) (by decide) ⟨fun q => ?_, fun q => ?_⟩
    · rw [if_pos q] at h
      obtain ⟨dd, hdd, rfl⟩ := inN_n q (by omega)
      rw [nI_cl (by omega)] at h
      refine s_X8_isFleet hM.2.1 hk.1 ⟨fun q2 => ?_, fun q2 => ?_⟩
      · rw [if_pos (of_decide_eq_true q2)] at h
        rw [e0, all_set _ (by omega)]
        refine upTo (Q := fun k => Lp_X8_links_40 g 40 (nI dd) (nI (2 ^ sF σ 0 - 1)) (nI (lnks (sF σ) dd k)) (nI k) I J P) (N := sF σ 0) ?_ (fun k hk4 ih => ?_)
        · refine w_X8_links_40 ?_
          unfold VC_X8_links_40
          rw [e0]
          exact ⟨fun _ => h, fun z => absurd (nI_le (Nat.le_refl _) (by omega)) z⟩
        · refine w_X8_links_40 ?_
          unfold VC_X8_links_40
          rw [e0, oth_set _ (by omega) _ hk4]
          have l1 := lnks_lt (F := sF σ) (d := dd) k (by omega)
          have ol := oth_lt (s := k) h6
          have e : lnks (sF σ) dd (k + 1) = (if lnk (sF σ) dd k (sF σ 0) then lnks (sF σ) dd k ||| 2 ^ k else lnks (sF σ) dd k) := rfl
          rw [e] at ih
          refine ⟨fun z => absurd ((nI_leI (by omega) (by omega)).mp z) (by omega), fun _ => ?_⟩
          have l5 : lnks (sF σ) dd k ||| 2 ^ k < 2 ^ sF σ 0 := Nat.or_lt_two_pow l1 (bit_lt hk4)
          refine upTo (Q := fun a => Lp_X8_links_64 g 40 (nI dd) (nI (2 ^ sF σ 0 - 1)) (nI (if lnk (sF σ) dd k a then lnks (sF σ) dd k ||| 2 ^ k else lnks (sF σ) dd k)) (nI k) (nI (oth (sF σ 0) k)) (nI a) I J P) (N := sF σ 0) ?_ (fun a ha iha => ?_)
          · refine w_X8_links_64 (by omega) ?_
            unfold VC_X8_links_64
            rw [e0, nI_one]
            exact ⟨fun _ => ih, fun z => absurd (nI_le (Nat.le_refl _) (by omega)) z⟩
          · refine w_X8_links_64 (by omega) ?_
            unfold VC_X8_links_64
            rw [e0, nI_one, nI_one, or0]
            rw [lnk_s] at iha
            refine ⟨fun z => absurd ((nI_leI (by omega) (by omega)).mp z) (by omega), fun _ => ⟨fun z => ?_, fun z => ?_⟩⟩
            · rw [decide_eq_false (fun y => y.1 ((nI_eq (by omega) (by omega)).mp z)), Bool.or_false] at iha
              exact iha
            · have z : a ≠ k := fun y => z (by rw [y])
              have b1 := hrd_lt (d := dd) (m := 2 ^ sF σ 0 - 1) h6 ha
              have b2 := hrd_lt (d := dd) (m := oth (sF σ 0) k) h6 ha
              refine s_X8_hearing (by omega) hM.2.1 hk.1 ha (by omega) hdd (s_X8_hearing (by omega) hM.2.1 hk.1 ha ol hdd ?_)
              have b3 : hrd (sF σ) dd (2 ^ sF σ 0 - 1) a &&& oth (sF σ 0) k < 64 := Nat.lt_of_le_of_lt Nat.and_le_left b1
              rw [and_set _ b1 _ ol]
              refine ⟨fun y => ?_, fun y => ?_⟩
              · rw [decide_eq_false (fun w => w.2 ((nI_eq (by omega) (by omega)).mp y)), Bool.or_false] at iha
                exact iha
              · rw [decide_eq_true ⟨z, fun w => y (by rw [w])⟩, Bool.or_true, if_pos rfl] at iha
                rw [or_bit _ (by split <;> omega) k (by omega)]
                cases hl : lnk (sF σ) dd k a with
                | true => rw [if_pos rfl, or2]; exact iha
                | false => exact iha
      · rw [if_neg (of_decide_eq_false q2)] at h; exact h
    · rw [if_neg (fun z => ff q z)] at h; exact h
