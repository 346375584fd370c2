-- ===== what bars a row of a sheet; item, as =====
def hld (i n : Int32) (l : Nat) : Bool := decide (0 ≤ i.toInt ∧ 0 ≤ n.toInt ∧ i.toInt + n.toInt ≤ l)
def rfs (s : Bool × Nat × Nat) (lane i n : Int32) : Int32 := if s.1 then (if nI s.2.1 = lane then (if hld i n s.2.2 then 0 else -13) else -12) else -11
theorem rfs_0 {s : Bool × Nat × Nat} {lane i n : Int32} (h : 0 ≤ rfs s lane i n) : s.1 = true ∧ nI s.2.1 = lane ∧ hld i n s.2.2 = true := by
  unfold rfs at h
  split at h
  · rename_i h1
    split at h
    · rename_i h2
      split at h
      · rename_i h3; exact ⟨h1, h2, h3⟩
      · exact absurd h (by decide)
    · exact absurd h (by decide)
  · exact absurd h (by decide)
theorem hld_n {i : Int32} {m l : Nat} (hm : m < 2 ^ 31) (hl : l ≤ 24) (h : hld i (nI m) l = true) : ∃ j, j + m ≤ l ∧ i = nI j := by
  unfold hld at h
  have h := of_decide_eq_true h
  rw [nI_toInt hm] at h
  obtain ⟨j, hj, rfl⟩ := inN_n (v := i) (N := 25) (decide_eq_true (by omega)) (by omega)
  rw [nI_toInt (by omega)] at h
  exact ⟨j, by omega, rfl⟩
theorem i64add (a b : Int32) : (a.toInt64 + b.toInt64).toInt = a.toInt + b.toInt := by
  rw [Int64.toInt_add, Int32.toInt_toInt64, Int32.toInt_toInt64]
  have h1 := Int32.toInt_lt a
  have h2 := Int32.toInt_lt b
  have h3 := Int32.le_toInt a
  have h4 := Int32.le_toInt b
  rw [Int.bmod_def]
  omega
def nrw (l : Nat) (v : Int64) : Int64 := if l = 0 then (v.toInt32).toInt8.toInt32.toInt64 else if l = 1 then (v.toInt32).toInt16.toInt32.toInt64 else if l = 2 then (v.toInt32).toInt64 else v
section BAR
variable {g : GT} {d : Nat} {I : IT} {J : JT}
theorem s_X4_holds {o l : Nat} {i n : Int32} {P : Bool → IT → JT → Prop} (ho : isS o) (e : I o 3 = nI l) (hl : l ≤ 24) (h : P (hld i n l) I J) : SemZ g d M_X4_holds [.ref (ga g o), .int i, .int n] I J P := by
  refine w_X4_holds ho ?_
  unfold VC_X4_holds
  rw [e]
  have h0 : (0 : Int32).toInt = 0 := by decide
  unfold hld at h
  refine ⟨fun q => ?_, fun q => ⟨fun q2 => ?_, fun q2 => ⟨fun q3 => ?_, fun q3 => ?_⟩⟩⟩
  · rw [Int32.lt_iff_toInt_lt, h0] at q; rw [decide_eq_false (by omega)] at h; exact h
  · rw [Int32.lt_iff_toInt_lt, h0] at q2; rw [decide_eq_false (by omega)] at h; exact h
  · rw [Int32.lt_iff_toInt_lt, h0] at q; rw [Int32.lt_iff_toInt_lt, nI_toInt (by omega)] at q3; rw [decide_eq_false (by omega)] at h; exact h
  · rw [Int32.lt_iff_toInt_lt, h0] at q q2
    rw [Int32.lt_iff_toInt_lt, nI_toInt (by omega)] at q3
    have e2 : (nI l - n).toInt = (l : Int) - n.toInt := by
      rw [Int32.toInt_sub, nI_toInt (by omega), Int.bmod_def]
      omega
    rw [Int32.lt_iff_toInt_lt, e2]
    refine ⟨fun q4 => ?_, fun q4 => ?_⟩
    · rw [decide_eq_false (by omega)] at h; exact h
    · rw [decide_eq_true (by omega)] at h; exact h
theorem s_X7_refusalOf {k : Nat} {lane i n : Int32} {S : Nat → Bool × Nat × Nat} {X : Nat → Nat → Int64} {P : Int32 → IT → JT → Prop} (hd : 1 ≤ d) (hk : k < 4) (hS : RcS I J S X) (hl : (S k).2.2 ≤ 24) (h : P (rfs (S k) lane i n) I J) : SemI g d M_X7_refusalOf [.ref (ga g 0), .int (nI k), .int lane, .int i, .int n] I J P := by
  refine w_X7_refusalOf hd ?_
  unfold VC_X7_refusalOf
  obtain ⟨c1, c2, c3, c4⟩ := hS k hk
  rw [nI_cl (by omega), c1, c2]
  unfold rfs at h
  refine ⟨vp_in_nI hk (by omega), fun q => ?_, fun q => ?_⟩
  · have q : (S k).1 = true := by cases hb : (S k).1 with
      | true => rfl
      | false => rw [hb] at q; exact absurd rfl q
    rw [if_pos q] at h
    refine ⟨fun q2 => ?_, fun q2 => ?_⟩
    · rw [if_pos q2] at h
      refine s_X4_holds (isS_78 k hk) c3 hl ⟨fun q3 => ?_, fun q3 => ?_⟩
      · rw [if_neg (by rw [q3]; decide)] at h; exact h
      · rw [if_pos q3] at h; exact h
    · rw [if_neg q2] at h; exact h
  · have q := (bI_0 _).mp q
    rw [if_neg (by rw [q]; decide)] at h; exact h
theorem s_X8_against {k m : Nat} {lane i : Int32} {S : Nat → Bool × Nat × Nat} {X : Nat → Nat → Int64} {P : Int32 → IT → JT → Prop} (hk : k < 4) (hm : m < 2 ^ 31) (hS : RmS I J S X) (hl : (S k).2.2 ≤ 24) (h : P (rfs (S k) lane i (nI m)) I J) : SemI g d M_X8_against [.ref (ga g 118), .int (nI k), .int lane, .int i, .int (nI m)] I J P := by
  refine w_X8_against ?_
  unfold VC_X8_against
  obtain ⟨c1, c2, c3⟩ := hS k hk
  rw [nI_cl (by omega), c1, c2]
  have hv : vp_in (nI k) 4 := vp_in_nI hk (by omega)
  have h0 : (0 : Int32).toInt = 0 := by decide
  unfold rfs at h
  cases hb : (S k).1 with
  | false =>
    rw [hb, if_neg (by decide)] at h
    rw [if_neg (by decide)]
    exact ⟨hv, fun z => absurd z (by decide), fun _ => h⟩
  | true =>
    rw [hb, if_pos rfl] at h
    rw [if_pos rfl]
    refine ⟨hv, fun _ => ⟨hv, fun q => ?_, fun q => ?_⟩, fun z => absurd (nI_pos' (by omega)) z⟩
    · rw [if_pos q] at h
      unfold hld at h
      rw [nI_toInt hm] at h
      refine ⟨fun q2 => ?_, fun q2 => ⟨hv, ?_⟩⟩
      · rw [Int32.lt_iff_toInt_lt, h0] at q2
        rw [decide_eq_false (by omega)] at h; exact h
      · rw [Int32.lt_iff_toInt_lt, h0] at q2
        rw [Int64.lt_iff_toInt_lt, i64add, Int32.toInt_toInt64, nI_toInt (by omega), nI_toInt hm]
        refine ⟨fun q3 => ?_, fun q3 => ?_⟩
        · rw [decide_eq_true (by omega)] at h; exact h
        · rw [decide_eq_false (by omega)] at h; exact h
    · rw [if_neg q] at h; exact h
theorem s_X4_put {o i l : Nat} {v : Int64} {P : Int64 → IT → JT → Prop} (hd : 1 ≤ d) (ho : isS o) (e : I o 2 = nI l) (hl : l < 4) (hi : i < 24) (h : P (nrw l v) I (sJ J (o + 1) i (nrw l v))) : SemL g d M_X4_put [.ref (ga g o), .int (nI i), .long v] I J P := by
  refine w_X4_put ho hd ?_
  unfold VC_X4_put
  refine w_X4_narrowed ho ?_
  unfold VC_X4_narrowed
  have hv : vp_in (nI i) 24 := vp_in_nI hi (by omega)
  have fin : ∀ x, x = nrw l v → (vp_in (nI i) 24 ∧ (vp_in (nI i) 24 ∧ P ((sJ J (o + 1) (nI i).toNatClampNeg x) (o + 1) (nI i).toNatClampNeg) I (sJ J (o + 1) (nI i).toNatClampNeg x))) := by
    intro x hx
    rw [nI_cl (by omega), hx, sJ_at, if_pos ⟨rfl, rfl⟩]
    exact ⟨hv, hv, h⟩
  rw [e]
  have hl' : l = 0 ∨ l = 1 ∨ l = 2 ∨ l = 3 := by omega
  refine ⟨fun q => fin _ ?_, fun q => fin _ ?_, fun q => fin _ ?_, fun q => fin _ ?_⟩
  · have q : l = 0 := (nI_eq (b := 0) (by omega) (by omega)).mp q
    subst q; rfl
  · have q : l = 1 := (nI_eq (b := 1) (by omega) (by omega)).mp q
    subst q; rfl
  · have q : l = 2 := (nI_eq (b := 2) (by omega) (by omega)).mp q
    subst q; rfl
  · rcases hl' with rfl | rfl | rfl | rfl
    · exact absurd rfl q.1
    · exact absurd rfl q.2.1
    · exact absurd rfl q.2.2
    · rfl
theorem s_X8_lowest {l : Nat} {v : Int64} {P : Int64 → IT → JT → Prop} (hl : l < 4) (h : P (nrw l v) I J) : SemL g d M_X8_lowest [.int (nI l), .long v] I J P := by
  refine w_X8_lowest ?_
  unfold VC_X8_lowest
  have hl' : l = 0 ∨ l = 1 ∨ l = 2 ∨ l = 3 := by omega
  rcases hl' with rfl | rfl | rfl | rfl
  · exact ⟨fun q => absurd rfl q, fun _ => h⟩
  · exact ⟨fun _ => ⟨fun q => absurd rfl q, fun _ => h⟩, fun q => absurd q (by decide)⟩
  · exact ⟨fun _ => ⟨fun _ => ⟨fun q => absurd rfl q, fun _ => h⟩, fun q => absurd q (by decide)⟩, fun q => absurd q (by decide)⟩
  · exact ⟨fun _ => ⟨fun _ => ⟨fun _ => h, fun q => absurd q (by decide)⟩, fun q => absurd q (by decide)⟩, fun q => absurd q (by decide)⟩
end BAR
theorem RelC.items {I : IT} {J J' : JT} {σ : ST} {X : Nat → Nat → Int64} (h : RelC I J σ) (hX : ∀ k, k < 4 → ∀ i, i < 24 → J' (111 + 2 * k) i = X k i) : RelC I J' (sF σ, sG0 σ, sG1 σ, sA σ, sT σ, sS σ, X) :=
  h.sheets (fun k hk => ⟨(h.2.2.2.2.2 k hk).1, (h.2.2.2.2.2 k hk).2.1, (h.2.2.2.2.2 k hk).2.2.1, hX k hk⟩) (fun _ _ => rfl)
theorem RelM.items {I : IT} {J J' : JT} {σ : ST} {X : Nat → Nat → Int64} (h : RelM I J σ) (hX : ∀ k, k < 4 → ∀ i, i < 24 → J' 121 (24 * k + i) = X k i) : RelM I J' (sF σ, sG0 σ, sG1 σ, sA σ, sT σ, sS σ, X) :=
  h.sheets (fun k hk => ⟨(h.2.2.2.2.2 k hk).1, (h.2.2.2.2.2 k hk).2.1, hX k hk⟩) (fun _ _ _ => rfl)
theorem okT_X {σ : ST} {X : Nat → Nat → Int64} (h : okT σ) : okT (sF σ, sG0 σ, sG1 σ, sA σ, sT σ, sS σ, X) := h
def upL (f : Nat → Int64) (i : Nat) (x : Int64) : Nat → Int64 := fun j => if j = i then x else f j
def vItem (a b i : Int32) (v : Int64) (σ : ST) : Int64 := if inN a 4 = true ∧ inN b 4 = true then (if 0 ≤ rfs (sS σ a.toNatClampNeg) b i 1 then nrw b.toNatClampNeg v else (rfs (sS σ a.toNatClampNeg) b i 1).toInt64) else -1
def tItem (a b i : Int32) (v : Int64) (σ : ST) : ST := if (inN a 4 = true ∧ inN b 4 = true) ∧ 0 ≤ rfs (sS σ a.toNatClampNeg) b i 1 then (sF σ, sG0 σ, sG1 σ, sA σ, sT σ, sS σ, upX (sX σ) a.toNatClampNeg (upL (sX σ a.toNatClampNeg) i.toNatClampNeg (nrw b.toNatClampNeg v))) else σ
theorem e_item {g : GT} (a0 a1 a2 : Int32) (y : Int64) : EQL g Rel M_X7_item M_X8_item [.int a0, .int a1, .int a2, .long y] := by
  refine eqL_of (vItem a0 a1 a2 y) (tItem a0 a1 a2 y) (fun σ I J P hk hC h => ?_) (fun σ I J P hk hM h => ?_) (fun σ hk => ?_)
  · refine w_X7_item (by omega) ?_
    unfold VC_X7_item
    unfold vItem tItem at h
    have bad : ¬ (inN a0 4 = true ∧ inN a1 4 = true) → P (-1) I J := fun z => by
      rw [if_neg (fun y => z y.1), if_neg z] at h; exact h I J hC smM.rf
    refine s_X7_isSheet ⟨fun q => bad (fun z => by rw [q] at z; exact absurd z.1 (by decide)), fun q => ?_⟩
    refine s_X7_isLane ⟨fun q2 => ?_, fun q2 => bad (fun z => by rw [q2] at z; exact absurd z.2 (by decide))⟩
    obtain ⟨k, hk4, rfl⟩ := inN_n q (by omega)
    obtain ⟨b, hb4, rfl⟩ := inN_n q2 (by omega)
    rw [nI_cl (by omega), nI_cl (by omega)] at h
    rw [nI_cl (by omega)]
    have hs := hk.2.2.2.2.2.2.2 k hk4
    refine s_X7_refusalOf (by omega) hk4 hC.2.2.2.2.2 hs.2 ⟨fun q3 => ⟨vp_in_nI hk4 (by omega), ?_⟩, fun q3 => ?_⟩
    · rw [if_pos ⟨⟨q, q2⟩, q3⟩, if_pos ⟨q, q2⟩, if_pos q3] at h
      obtain ⟨z1, z2, z3⟩ := rfs_0 q3
      obtain ⟨j, hj, rfl⟩ := hld_n (m := 1) (by omega) hs.2 z3
      have z2 : (sS σ k).2.1 = b := (nI_eq (by omega) (by omega)).mp z2
      rw [nI_cl (by omega)] at h
      refine s_X4_put (l := b) (by omega) (isS_78 k hk4) (by rw [(hC.2.2.2.2.2 k hk4).2.1, z2]) hb4 (by omega) ?_
      refine h I _ (hC.items (fun k' hk' i hi => ?_)) ⟨fun _ _ => rfl, fun a ha => sJ_ne (by omega)⟩
      have c4 := (hC.2.2.2.2.2 k' hk').2.2.2 i hi
      rw [sJ_at]
      by_cases e : k' = k
      · subst e
        rw [upX_eq]
        unfold upL
        by_cases e2 : i = j
        · rw [if_pos ⟨by omega, e2⟩, if_pos e2]
        · rw [if_neg (fun z => e2 z.2), if_neg e2]; exact c4
      · rw [upX_ne e, if_neg (by omega)]; exact c4
    · rw [if_neg (fun z => q3 z.2), if_pos ⟨q, q2⟩, if_neg q3] at h
      exact h I J hC smM.rf
  · refine w_X8_item (by omega) ?_
    unfold VC_X8_item
    unfold vItem tItem at h
    refine s_X8_isLane (by omega) ⟨fun q => ?_, fun q => ?_⟩
    · have qq := Bool.and_eq_true_iff.mp q
      clear q
      obtain ⟨q, q2⟩ := qq
      obtain ⟨k, hk4, rfl⟩ := inN_n q (by omega)
      obtain ⟨b, hb4, rfl⟩ := inN_n q2 (by omega)
      rw [nI_cl (by omega), nI_cl (by omega)] at h
      have hs := hk.2.2.2.2.2.2.2 k hk4
      refine s_X8_against (m := 1) hk4 (by omega) hM.2.2.2.2.2 hs.2 ⟨fun q3 => ?_, fun q3 => ?_⟩
      · have q3' : 0 ≤ rfs (sS σ k) (nI b) a2 1 := q3
        rw [if_pos ⟨⟨q, q2⟩, q3'⟩, if_pos ⟨q, q2⟩, if_pos q3'] at h
        obtain ⟨z1, z2, z3⟩ := rfs_0 q3
        obtain ⟨j, hj, rfl⟩ := hld_n (m := 1) (by omega) hs.2 z3
        rw [nI_cl (by omega)] at h
        rw [show (24 : Int32) * nI k + nI j = nI (24 * k + j) from by rw [show (24 : Int32) = nI 24 from rfl, pk_mul, nI_add], nI_cl (by omega)]
        refine s_X8_lowest hb4 ⟨vp_in_nI (by omega) (by omega), s_X8_lowest hb4 ?_⟩
        refine h I _ (hM.items (fun k' hk' i hi => ?_)) ⟨fun _ _ => rfl, fun a ha => sJ_ne (by omega)⟩
        have c4 := (hM.2.2.2.2.2 k' hk').2.2 i hi
        rw [sJ_at]
        by_cases e : k' = k
        · subst e
          rw [upX_eq]
          unfold upL
          by_cases e2 : i = j
          · rw [if_pos ⟨rfl, by omega⟩, if_pos e2]
          · rw [if_neg (by omega), if_neg e2]; exact c4
        · rw [upX_ne e, if_neg (by omega)]; exact c4
      · have q3' : ¬ 0 ≤ rfs (sS σ k) (nI b) a2 1 := q3
        rw [if_neg (fun z => q3' z.2), if_pos ⟨q, q2⟩, if_neg q3'] at h
        exact h I J hM smC.rf
    · have z : ¬ (inN a0 4 = true ∧ inN a1 4 = true) := fun z => by rw [z.1, z.2] at q; cases q
      rw [if_neg (fun y => z y.1), if_neg z] at h; exact h I J hM smC.rf
  · unfold tItem
    split
    · exact okT_X hk
    · exact hk
-- as
def isa (own kind : Nat) : Bool := decide (kind = 0 ∨ kind = own ∨ (kind = 1 ∧ (own = 2 ∨ own = 4 ∨ own = 5)) ∨ (kind = 2 ∧ own = 5))
section AS
variable {g : GT} {d : Nat} {I : IT} {J : JT}
theorem s_X8_isA {own kind : Nat} {P : Bool → IT → JT → Prop} (h1 : 1 ≤ own ∧ own ≤ 5) (h2 : kind < 6) (h : P (isa own kind) I J) : SemZ g d M_X8_isA [.int (nI own), .int (nI kind)] I J P := by
  refine w_X8_isA ?_
  unfold VC_X8_isA
  have e : ∀ a b, a < 6 → b < 6 → (nI a = nI b ↔ a = b) := fun a b ha hb => nI_eq (by omega) (by omega)
  rw [show (0 : Int32) = nI 0 from rfl, show (1 : Int32) = nI 1 from rfl, show (2 : Int32) = nI 2 from rfl, show (4 : Int32) = nI 4 from rfl, show (5 : Int32) = nI 5 from rfl, e kind 0 h2 (by omega), e kind 1 h2 (by omega), e kind 2 h2 (by omega), e kind own h2 (by omega), e own 2 (by omega) (by omega), e own 4 (by omega) (by omega), e own 5 (by omega) (by omega)]
  have hT : (kind = 0 ∨ kind = own ∨ (kind = 1 ∧ (own = 2 ∨ own = 4 ∨ own = 5)) ∨ (kind = 2 ∧ own = 5)) → P true I J := fun z => by
    unfold isa at h; rw [decide_eq_true z] at h; exact h
  have hF : ¬ (kind = 0 ∨ kind = own ∨ (kind = 1 ∧ (own = 2 ∨ own = 4 ∨ own = 5)) ∨ (kind = 2 ∧ own = 5)) → P false I J := fun z => by
    unfold isa at h; rw [decide_eq_false z] at h; exact h
  refine ⟨fun q => hT (by omega), fun q0 => ⟨fun q => hT (by omega), fun q1 => ⟨fun q2 => ⟨fun q3 => hF (by omega), fun q3 => ⟨fun q4 => hF (by omega), fun q4 => hT (by omega)⟩⟩, fun q2 => ⟨fun q3 => hT (by omega), fun q3 => ⟨fun q4 => hT (by omega), fun q4 => ⟨fun q5 => hT (by omega), fun q5 => ⟨fun q6 => hF (by omega), fun q6 => ⟨fun q7 => hF (by omega), fun q7 => hT (by omega)⟩⟩⟩⟩⟩⟩⟩⟩
theorem under1 {over k l : Nat} {P : Bool → IT → JT → Prop} (hk : k < 6) (ho : over < 6) (hl : l < 6) (h1 : k = over → P true I J) (h2 : k ≠ over → Lp_X7_isUnder_4 g d (nI over) (ovr k) (nI (l + 1)) I J P) : Lp_X7_isUnder_4 g d (nI over) (nI k) (nI l) I J P := by
  refine w_X7_isUnder_4 ?_
  unfold VC_X7_isUnder_4
  rw [nI_one, nI_cl (by omega)]
  refine ⟨fun q => absurd ((nI_leI (a := 6) (by omega) (by omega)).mp q) (by omega), fun _ => ⟨fun q => absurd q (nI_pos (by omega)), fun _ => ⟨fun q => absurd ((nI_leI (a := 6) (by omega) (by omega)).mp q) (by omega), fun _ => ⟨fun q => ⟨vp_in_nI hk (by omega), h2 (fun z => q (by rw [z]))⟩, fun q => h1 ((nI_eq (by omega) (by omega)).mp q)⟩⟩⟩⟩
theorem under0 {over l : Nat} {P : Bool → IT → JT → Prop} (hl : l < 6) (h : P false I J) : Lp_X7_isUnder_4 g d (nI over) (-1) (nI l) I J P := by
  refine w_X7_isUnder_4 ?_
  unfold VC_X7_isUnder_4
  exact ⟨fun _ => h, fun _ => ⟨fun _ => h, fun q => absurd (by decide) q⟩⟩
theorem s_X7_isUnder {own kind : Nat} {P : Bool → IT → JT → Prop} (h1 : 1 ≤ own ∧ own ≤ 5) (h2 : kind < 6) (h : P (isa own kind) I J) : SemZ g d M_X7_isUnder [.int (nI own), .int (nI kind)] I J P := by
  refine w_X7_isUnder ?_
  unfold VC_X7_isUnder
  have hT : (kind = 0 ∨ kind = own ∨ (kind = 1 ∧ (own = 2 ∨ own = 4 ∨ own = 5)) ∨ (kind = 2 ∧ own = 5)) → P true I J := fun z => by
    unfold isa at h; rw [decide_eq_true z] at h; exact h
  have hF : ¬ (kind = 0 ∨ kind = own ∨ (kind = 1 ∧ (own = 2 ∨ own = 4 ∨ own = 5)) ∨ (kind = 2 ∧ own = 5)) → P false I J := fun z => by
    unfold isa at h; rw [decide_eq_false z] at h; exact h
  have g0 : ∀ l, l < 5 → (kind = 0 → P true I J) → (kind ≠ 0 → P false I J) → Lp_X7_isUnder_4 g d (nI kind) (nI 0) (nI l) I J P := fun l hl a b => under1 (by omega) h2 (by omega) (fun z => a z.symm) (fun z => under0 (by omega) (b (fun y => z y.symm)))
  have g1 : ∀ l, l < 4 → (kind = 1 ∨ kind = 0 → P true I J) → (kind ≠ 1 ∧ kind ≠ 0 → P false I J) → Lp_X7_isUnder_4 g d (nI kind) (nI 1) (nI l) I J P := fun l hl a b => under1 (by omega) h2 (by omega) (fun z => a (Or.inl z.symm)) (fun z => g0 (l + 1) (by omega) (fun y => a (Or.inr y)) (fun y => b ⟨fun x => z x.symm, y⟩))
  have g2 : ∀ l, l < 3 → (kind = 2 ∨ kind = 1 ∨ kind = 0 → P true I J) → (kind ≠ 2 ∧ kind ≠ 1 ∧ kind ≠ 0 → P false I J) → Lp_X7_isUnder_4 g d (nI kind) (nI 2) (nI l) I J P := fun l hl a b => under1 (by omega) h2 (by omega) (fun z => a (Or.inl z.symm)) (fun z => g1 (l + 1) (by omega) (fun y => a (Or.inr y)) (fun y => b ⟨fun x => z x.symm, y⟩))
  have hk' : own = 1 ∨ own = 2 ∨ own = 3 ∨ own = 4 ∨ own = 5 := by omega
  rcases hk' with rfl | rfl | rfl | rfl | rfl
  · exact g1 0 (by omega) (fun z => hT (by omega)) (fun z => hF (by omega))
  · exact g2 0 (by omega) (fun z => hT (by omega)) (fun z => hF (by omega))
  · exact under1 (k := 3) (l := 0) (by omega) h2 (by omega) (fun z => hT (by omega)) (fun z => g0 1 (by omega) (fun z => hT (by omega)) (fun z => hF (by omega)))
  · exact under1 (k := 4) (l := 0) (by omega) h2 (by omega) (fun z => hT (by omega)) (fun z => g1 1 (by omega) (fun z => hT (by omega)) (fun z => hF (by omega)))
  · exact under1 (k := 5) (l := 0) (by omega) h2 (by omega) (fun z => hT (by omega)) (fun z => g2 1 (by omega) (fun z => hT (by omega)) (fun z => hF (by omega)))
end AS
def vAs (v w : Int32) (σ : ST) : Int32 := if inN v (sF σ 0) = true ∧ inN w 6 = true then (if isa (sF σ (51 + v.toNatClampNeg)) w.toNatClampNeg then v else -12) else -1
theorem e_as {g : GT} (a0 a1 : Int32) : EQI g Rel M_X7_as M_X8_as [.int a0, .int a1] := by
  refine eqI_of (vAs a0 a1) id (fun σ I J P hk hC h => ?_) (fun σ I J P hk hM h => ?_) (fun _ h => h)
  · have h := h I J hC smM.rf
    unfold vAs at h
    refine w_X7_as (by omega) ?_
    unfold VC_X7_as
    refine s_X2_hasShip isF_3 hC.2.1 hk.1 ⟨fun q => ?_, fun q => rng' (n := 6) (by decide) (fun q2 => ?_) (fun q2 => ?_)⟩
    · rw [if_neg (fun z => by rw [q] at z; exact absurd z.1 (by decide))] at h; exact h
    · rw [if_neg (fun z => by rw [q2] at z; exact absurd z.2 (by decide))] at h; exact h
    · rw [if_pos ⟨q, q2⟩] at h
      have h6 := hk.1.1
      obtain ⟨s, hs, rfl⟩ := inN_n q (by omega)
      obtain ⟨t, ht, rfl⟩ := inN_n q2 (by omega)
      rw [nI_cl (by omega), nI_cl (by omega)] at h
      rw [nI_cl (by omega), (hC.2.1.2.2.2.2.1 s hs).1]
      have hks := hk.1.2.2.2.2.2.1 s hs
      refine ⟨vp_in_nI (by omega) (by omega), s_X7_isUnder ⟨hks.1, hks.2.1⟩ ht ⟨fun q3 => ?_, fun q3 => ?_⟩⟩
      · rw [if_neg (by rw [q3]; decide)] at h; exact h
      · rw [if_pos q3] at h; exact h
  · have h := h I J hM smC.rf
    unfold vAs at h
    refine w_X8_as (by omega) ?_
    unfold VC_X8_as
    refine s_X8_isShip (by omega) hM.2.1 hk.1 ⟨fun q => ?_, fun q => s_X8_inN (n := 6) (by decide) ⟨fun q2 => ?_, fun q2 => ?_⟩⟩
    · rw [if_neg (fun z => by rw [q] at z; exact absurd z.1 (by decide))] at h; exact h
    · rw [if_pos ⟨q, q2⟩] at h
      have h6 := hk.1.1
      obtain ⟨s, hs, rfl⟩ := inN_n q (by omega)
      obtain ⟨t, ht, rfl⟩ := inN_n q2 (by omega)
      rw [nI_cl (by omega), nI_cl (by omega)] at h
      rw [ix2 51 s 51 rfl, nI_cl (by omega), hM.2.1.a0 (51 + s) (by omega)]
      have hks := hk.1.2.2.2.2.2.1 s hs
      refine ⟨vp_in_nI (by omega) (by omega), s_X8_isA ⟨hks.1, hks.2.1⟩ ht ⟨fun q3 => ?_, fun q3 => ?_⟩⟩
      · rw [if_neg (by rw [q3]; decide)] at h; exact h
      · rw [if_pos q3] at h; exact h
    · rw [if_neg (fun z => by rw [q2] at z; exact absurd z.2 (by decide))] at h; exact h
