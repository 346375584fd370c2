-- ===== the sea, a ship under way =====
def chk2 (F : NF) (ro co : Option Nat) : Option Nat := match ro, co with
  | some r, some k => if r < F 1 ∧ k < F 2 ∧ F (3 + (8 * r + k)) ≠ 1 then some (8 * r + k) else none
  | _, _ => none
def rowO (l r : Nat) : Option Nat := if l = 0 then (if r = 0 then none else some (r - 1)) else if l = 2 then some (r + 1) else some r
def colO (l k : Nat) : Option Nat := if l = 1 then some (k + 1) else if l = 3 then (if k = 0 then none else some (k - 1)) else some k
/-- the next cell there; none: she strikes -/
def nxt (F : NF) (c l : Nat) : Option Nat := chk2 F (rowO l (c / 8)) (colO l (c % 8))
def okW (F : NF) : Prop := F 1 ≤ 6 ∧ F 2 ≤ 8 ∧ ∀ c, c < 48 → F (3 + c) ≤ 2
theorem okF.W {F : NF} (h : okF F) : okW F := ⟨h.2.1, h.2.2.1, h.2.2.2.2.2.2.1⟩
theorem rowO_n : ∀ l, l < 4 → ∀ r, r < 6 → rowO l r = none → nI r + rst l < 0 := by decide +kernel
theorem rowO_s : ∀ l, l < 4 → ∀ r, r < 6 → ∀ q, q < 8 → rowO l r = some q → nI r + rst l = nI q := by decide +kernel
theorem rowO_b : ∀ l, l < 4 → ∀ r, r < 6 → rowO l r = none ∨ ∃ q, q < 8 ∧ rowO l r = some q := by decide +kernel
theorem colO_n : ∀ l, l < 4 → ∀ r, r < 8 → colO l r = none → nI r + cst l < 0 := by decide +kernel
theorem colO_s : ∀ l, l < 4 → ∀ r, r < 8 → ∀ q, q < 10 → colO l r = some q → nI r + cst l = nI q := by decide +kernel
theorem colO_b : ∀ l, l < 4 → ∀ r, r < 8 → colO l r = none ∨ ∃ q, q < 10 ∧ colO l r = some q := by decide +kernel
theorem nI_d8 {c : Nat} (h : c < 2 ^ 31) : nI c / 8 = nI (c / 8) := pk_div (d := 8) h (by omega) (by omega)
theorem nI_r8 {c : Nat} (h : c < 2 ^ 31) : nI c - nI c / 8 * 8 = nI (c % 8) := pk_rem (d := 8) h (by omega) (by omega)
/-- a row or column, as the machine has it -/
def isO (a : Int32) (o : Option Nat) : Prop := (o = none → a < 0) ∧ ∀ q, o = some q → a = nI q ∧ q < 10
theorem isO_row {l r : Nat} (hl : l < 4) (hr : r < 6) : isO (nI r + rst l) (rowO l r) := by
  refine ⟨rowO_n l hl r hr, fun q hq => ?_⟩
  rcases rowO_b l hl r hr with h | ⟨z, hz, h⟩
  · rw [h] at hq; cases hq
  · rw [h] at hq; cases hq; exact ⟨rowO_s l hl r hr q hz h, by omega⟩
theorem isO_col {l r : Nat} (hl : l < 4) (hr : r < 8) : isO (nI r + cst l) (colO l r) := by
  refine ⟨colO_n l hl r hr, fun q hq => ?_⟩
  rcases colO_b l hl r hr with h | ⟨z, hz, h⟩
  · rw [h] at hq; cases hq
  · rw [h] at hq; cases hq; exact ⟨colO_s l hl r hr q hz h, hz⟩
theorem isO_in {a : Int32} {o : Option Nat} {N : Nat} (h : isO a o) : inN a N = true ↔ ∃ q, o = some q ∧ q < N := by
  have h0 : (0 : Int32).toInt = 0 := by decide
  constructor
  · intro q
    cases ho : o with
    | none =>
      have := h.1 ho
      rw [Int32.lt_iff_toInt_lt, h0] at this
      have q2 := of_decide_eq_true q
      omega
    | some z =>
      obtain ⟨e, hz⟩ := h.2 z ho
      rw [e, inN_i (by omega)] at q
      exact ⟨z, rfl, of_decide_eq_true q⟩
  · rintro ⟨q, ho, hq⟩
    obtain ⟨e, hz⟩ := h.2 q ho
    rw [e, inN_i (by omega)]
    exact decide_eq_true hq
def SeaC (I : IT) (o : Nat) (F : NF) : Prop := I o 1 = nI (F 1) ∧ I o 2 = nI (F 2) ∧ ∀ c, c / 8 < F 1 → c % 8 < F 2 → I (o + 1) c = nI (F (3 + c))
theorem FlC.sea {I : IT} {o : Nat} {F : NF} (h : FlC I o F) : SeaC I (o + 1) F := ⟨h.2.1, h.2.2.1, h.2.2.2.1⟩
theorem SeaC.cg {I I' : IT} {o : Nat} {F : NF} (h : SeaC I o F) (e : I' o = I o) (e2 : I' (o + 1) = I (o + 1)) : SeaC I' o F := by
  unfold SeaC at h ⊢; rw [e, e2]; exact h
section SEA
variable {g : GT} {d : Nat} {I : IT} {J : JT}
theorem s_X3_cellOf {a b : Int32} {P : Int32 → IT → JT → Prop} (h : P (8 * a + b) I J) : SemI g d M_X3_cellOf [.int a, .int b] I J P := w_X3_cellOf h
theorem s_X3_ahead {o c l : Nat} {F : NF} {P : Int32 → IT → JT → Prop} (hd : 1 ≤ d) (ho : isSea o) (hS : SeaC I o F) (hW : okW F) (hc : c / 8 < F 1) (hc2 : c % 8 < F 2) (hl : l < 4) (h1 : nxt F c l = none → P (-4) I J) (h2 : ∀ q, nxt F c l = some q → P (nI q) I J) : SemI g d M_X3_ahead [.ref (ga g o), .int (nI c), .int (nI l)] I J P := by
  refine w_X3_ahead ho hd ?_
  unfold VC_X3_ahead
  have hb1 := hW.1
  have hb2 := hW.2.1
  have hc48 : c < 48 := by omega
  rw [nI_r8 (by omega), nI_d8 (by omega), nI_cl (n := l) (by omega), hS.1, hS.2.1]
  refine ⟨vp_in_nI hl (by omega), vp_in_nI hl (by omega), ?_⟩
  have ha := isO_row hl (show c / 8 < 6 by omega)
  have hb := isO_col hl (show c % 8 < 8 by omega)
  unfold nxt at h1 h2
  generalize nI (c / 8) + rst l = a at ha ⊢
  generalize nI (c % 8) + cst l = b at hb ⊢
  generalize rowO l (c / 8) = ro at ha h1 h2
  generalize colO l (c % 8) = co at hb h1 h2
  have no : (ro = none ∨ co = none ∨ ∃ r k, ro = some r ∧ co = some k ∧ (F 1 ≤ r ∨ F 2 ≤ k)) → P (-4) I J := by
    intro q
    apply h1
    rcases q with q | q | ⟨r, k, q1, q2, q⟩
    · rw [q]; rfl
    · rw [q]; cases ro <;> rfl
    · rw [q1, q2]; unfold chk2; exact if_neg (by omega)
  cases ro with
  | none =>
    have e := no (Or.inl rfl)
    exact ⟨fun _ => e, fun q => absurd (ha.1 rfl) q⟩
  | some r =>
    obtain ⟨ea, hr⟩ := ha.2 r rfl
    subst ea
    refine ⟨fun q => absurd q (nI_pos (by omega)), fun _ => ⟨fun q => ?_, fun q => ?_⟩⟩
    · have q := (nI_leI (by omega) (by omega)).mp q
      cases co with
      | none => exact no (Or.inr (Or.inl rfl))
      | some k => exact no (Or.inr (Or.inr ⟨r, k, rfl, rfl, Or.inl q⟩))
    · have q : ¬ F 1 ≤ r := fun z => q ((nI_leI (by omega) (by omega)).mpr z)
      cases co with
      | none =>
        have e := no (Or.inr (Or.inl rfl))
        exact ⟨fun _ => e, fun q => absurd (hb.1 rfl) q⟩
      | some k =>
        obtain ⟨eb, hk⟩ := hb.2 k rfl
        subst eb
        refine ⟨fun q => absurd q (nI_pos (by omega)), fun _ => ⟨fun q2 => ?_, fun q2 => ?_⟩⟩
        · have q2 := (nI_ltI (by omega) (by omega)).mp q2
          refine s_X3_cellOf ?_
          have e8 : 8 * nI r + nI k = nI (8 * r + k) := by rw [show (8 : Int32) = nI 8 from rfl, pk_mul, nI_add]
          rw [e8, nI_cl (by omega), hS.2.2 (8 * r + k) (by omega) (by omega)]
          refine ⟨vp_in_nI (by omega) (by omega), fun q3 => ?_, fun q3 => ?_⟩
          · have q3 : F (3 + (8 * r + k)) ≠ 1 := fun z => q3 (by rw [z]; rfl)
            apply h2
            unfold chk2
            exact if_pos ⟨by omega, q2, q3⟩
          · have hv := hW.2.2 (8 * r + k) (by omega)
            have q3 : F (3 + (8 * r + k)) = 1 := (nI_eq (b := 1) (by omega) (by omega)).mp q3
            apply h1
            unfold chk2
            exact if_neg (fun z => z.2.2 q3)
        · have q2 : F 2 ≤ k := Nat.le_of_not_lt (fun z => q2 ((nI_ltI (by omega) (by omega)).mpr z))
          exact no (Or.inr (Or.inr ⟨r, k, rfl, rfl, Or.inr q2⟩))
-- the reference's sea in the region r
theorem s_X8_isCellIn {r : Nat} {a b : Int32} {F : NF} {P : Bool → IT → JT → Prop} (hd : 1 ≤ d) (hr : r ≤ 400) (e1 : I 119 (r + 1) = nI (F 1)) (e2 : I 119 (r + 2) = nI (F 2)) (hW : okW F) (h : P (inN a (F 1) && inN b (F 2)) I J) : SemZ g d M_X8_isCellIn [.ref (ga g 118), .int (nI r), .int a, .int b] I J P := by
  refine w_X8_isCellIn hd ?_
  unfold VC_X8_isCellIn
  rw [ix1 r 1 1 rfl, ix1 r 2 2 rfl, nI_cl (by omega), nI_cl (by omega), e1]
  have hb1 := hW.1
  have hb2 := hW.2.1
  refine ⟨vp_in_nI (by omega) (by omega), s_X8_inN (nI_m1 (by omega)) ⟨fun q => ?_, fun q => ⟨vp_in_nI (by omega) (by omega), ?_⟩⟩⟩
  · rw [q] at h; exact h
  · rw [e2]
    refine s_X8_inN (nI_m1 (by omega)) ⟨fun q2 => ?_, fun q2 => ?_⟩
    · rw [q, q2] at h; exact h
    · rw [q, q2] at h; exact h
def MSea (I : IT) (r : Nat) (F : NF) : Prop := I 119 (r + 1) = nI (F 1) ∧ I 119 (r + 2) = nI (F 2) ∧ ∀ c, c < 48 → I 119 (r + 3 + c) = nI (F (3 + c))
theorem rst_is : ∀ l, l < 4 → rst l = (if l = 0 then -1 else if l = 2 then 1 else 0) := by decide +kernel
theorem cst_is : ∀ l, l < 4 → cst l = (if l = 1 then 1 else if l = 3 then -1 else 0) := by decide +kernel
theorem s_X8_nextOf {r c l : Nat} {F : NF} {P : Int32 → IT → JT → Prop} (hd : 2 ≤ d) (hr : r ≤ 400) (hS : MSea I r F) (hW : okW F) (hc : c / 8 < F 1) (hc2 : c % 8 < F 2) (hl : l < 4) (h1 : nxt F c l = none → P (-1) I J) (h2 : ∀ q, nxt F c l = some q → P (nI q) I J) : SemI g d M_X8_nextOf [.ref (ga g 118), .int (nI r), .int (nI c), .int (nI l)] I J P := by
  have hb1 := hW.1
  have hb2 := hW.2.1
  have hc48 : c < 48 := by omega
  have key : ∀ (x y : Int32), isO (nI (c / 8) + x) (rowO l (c / 8)) → isO (nI (c % 8) + y) (colO l (c % 8)) → SemZ g (d - 1) M_X8_isCellIn [.ref (ga g 118), .int (nI r), .int (nI (c / 8) + x), .int (nI (c % 8) + y)] I J (fun r57 I57 J57 => ((r57 = false → P (-1) I57 J57) ∧ (r57 = true → (vp_in (((nI r + 3) + (8 * (nI (c / 8) + x))) + (nI (c % 8) + y)) 952 ∧ (((I57 119 (((nI r + 3) + (8 * (nI (c / 8) + x))) + (nI (c % 8) + y)).toNatClampNeg) = 1 → P (-1) I57 J57) ∧ (¬ (I57 119 (((nI r + 3) + (8 * (nI (c / 8) + x))) + (nI (c % 8) + y)).toNatClampNeg) = 1 → P ((8 * (nI (c / 8) + x)) + (nI (c % 8) + y)) I57 J57)))))) := by
    intro x y ha hb
    unfold nxt at h1 h2
    generalize nI (c / 8) + x = a at ha ⊢
    generalize nI (c % 8) + y = b at hb ⊢
    generalize rowO l (c / 8) = ro at ha h1 h2
    generalize colO l (c % 8) = co at hb h1 h2
    refine s_X8_isCellIn (by omega) hr hS.1 hS.2.1 hW ⟨fun q => ?_, fun q => ?_⟩
    · apply h1
      cases ro with
      | none => rfl
      | some z =>
        cases co with
        | none => rfl
        | some k =>
          unfold chk2
          refine if_neg (fun w => ?_)
          have q1 := (isO_in (N := F 1) ha).mpr ⟨z, rfl, w.1⟩
          have q2 := (isO_in (N := F 2) hb).mpr ⟨k, rfl, w.2.1⟩
          rw [q1, q2] at q
          cases q
    · have q' := Bool.and_eq_true_iff.mp q
      obtain ⟨z, e1, hz⟩ := (isO_in ha).mp q'.1
      obtain ⟨k, e2, hk⟩ := (isO_in hb).mp q'.2
      subst e1; subst e2
      obtain ⟨ea, -⟩ := ha.2 z rfl
      obtain ⟨eb, -⟩ := hb.2 k rfl
      subst ea; subst eb
      have e8 : 8 * nI z = nI (8 * z) := by rw [show (8 : Int32) = nI 8 from rfl, pk_mul]
      rw [e8, ix1 r 3 3 rfl, nI_add, nI_add, nI_add, nI_cl (by omega), show r + 3 + 8 * z + k = r + 3 + (8 * z + k) from by omega, hS.2.2 (8 * z + k) (by omega)]
      have hv := hW.2.2 (8 * z + k) (by omega)
      refine ⟨vp_in_nI (by omega) (by omega), fun q3 => ?_, fun q3 => ?_⟩
      · apply h1
        unfold chk2
        exact if_neg (fun w => w.2.2 ((nI_eq (b := 1) (by omega) (by omega)).mp q3))
      · apply h2
        unfold chk2
        exact if_pos ⟨hz, hk, fun w => q3 (by rw [w]; rfl)⟩
  refine w_X8_nextOf ?_
  unfold VC_X8_nextOf
  rw [nI_d8 (by omega)]
  have ha := isO_row hl (show c / 8 < 6 by omega)
  have hb := isO_col hl (show c % 8 < 8 by omega)
  rw [rst_is l hl] at ha
  rw [cst_is l hl] at hb
  have hl' : l = 0 ∨ l = 1 ∨ l = 2 ∨ l = 3 := by omega
  have mid : ∀ x : Int32, isO (nI (c / 8) + x) (rowO l (c / 8)) → Lp_X8_nextOf_22 g d (nI r) (nI c) (nI l) x (nI (c / 8)) I J P := by
    intro x hx
    refine w_X8_nextOf_22 (by omega) ?_
    unfold VC_X8_nextOf_22
    rw [nI_r8 (by omega)]
    rcases hl' with rfl | rfl | rfl | rfl
    · exact ⟨fun _ => ⟨fun _ => key x 0 hx hb, fun q => absurd q (by decide)⟩, fun q => absurd q (by decide)⟩
    · exact ⟨fun q => absurd rfl q, fun _ => key x 1 hx hb⟩
    · exact ⟨fun _ => ⟨fun _ => key x 0 hx hb, fun q => absurd q (by decide)⟩, fun q => absurd q (by decide)⟩
    · exact ⟨fun _ => ⟨fun q => absurd rfl q, fun _ => key x (-1) hx hb⟩, fun q => absurd q (by decide)⟩
  rcases hl' with rfl | rfl | rfl | rfl
  · exact ⟨fun q => absurd rfl q, fun _ => mid (-1) ha⟩
  · exact ⟨fun _ => ⟨fun _ => mid 0 ha, fun q => absurd q (by decide)⟩, fun q => absurd q (by decide)⟩
  · exact ⟨fun _ => ⟨fun q => absurd rfl q, fun _ => mid 1 ha⟩, fun q => absurd q (by decide)⟩
  · exact ⟨fun _ => ⟨fun _ => mid 0 ha, fun q => absurd q (by decide)⟩, fun q => absurd q (by decide)⟩
end SEA
