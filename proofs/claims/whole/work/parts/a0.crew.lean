-- ===== crew =====
def cr_b (av : Nat → Bool) (v : Nat → Nat) : Nat → Nat × Nat
  | 0 => (v 4, 4)
  | r + 1 => if av (3 - r) && decide ((cr_b av v r).1 ≤ v (3 - r)) then (v (3 - r), 3 - r) else cr_b av v r
def cr_av (T : Nat → Nat → Bool) (s tk t : Nat) : Bool := !tk.testBit t && T s t
def cr_vl (f : Nat → Nat → Nat) (s tk t : Nat) : Nat := if t < 4 then 1 + f (s + 1) (tk ||| 2 ^ t) else f (s + 1) tk
/-- how many of the last m ships, from s on, can be crewed -/
def cr_m (T : Nat → Nat → Bool) : Nat → Nat → Nat → Nat
  | 0 => fun _ _ => 0
  | m + 1 => fun s tk => (cr_b (cr_av T s tk) (cr_vl (cr_m T m) s tk) 4).1
def cr_t (T : Nat → Nat → Bool) (m s tk : Nat) : Nat := (cr_b (cr_av T s tk) (cr_vl (cr_m T m) s tk) 4).2
def cr_k (tk t : Nat) : Nat := if t < 4 then tk ||| 2 ^ t else tk
def cr_a (T : Nat → Nat → Bool) : Nat → Nat → Nat → Nat → Nat
  | 0 => fun _ _ _ => 4
  | m + 1 => fun s tk i => if i = s then cr_t T m s tk else cr_a T m (s + 1) (cr_k tk (cr_t T m s tk)) i
def cr_T (F : NF) (s t : Nat) : Bool := tru (shipOf F s) t
def cr_o (t : Nat) : Int32 := if t < 4 then nI t else -4
theorem cr_b_s {av : Nat → Bool} {v : Nat → Nat} {r : Nat} : cr_b av v (r + 1) = if av (3 - r) && decide ((cr_b av v r).1 ≤ v (3 - r)) then (v (3 - r), 3 - r) else cr_b av v r := rfl
theorem cr_b_le {av : Nat → Bool} {v : Nat → Nat} {K : Nat} (h : ∀ t, v t ≤ K) : ∀ r, (cr_b av v r).1 ≤ K := by
  intro r
  induction r with
  | zero => exact h 4
  | succ r ih =>
    rw [cr_b_s]
    split
    · exact h _
    · exact ih
theorem cr_b_2 {av : Nat → Bool} {v : Nat → Nat} : ∀ r, (cr_b av v r).2 ≤ 4 := by
  intro r
  induction r with
  | zero => exact Nat.le_refl 4
  | succ r ih =>
    rw [cr_b_s]
    split
    · show 3 - r ≤ 4; omega
    · exact ih
theorem cr_b_0 {av : Nat → Bool} {v : Nat → Nat} : ∀ r, v 4 ≤ (cr_b av v r).1 := by
  intro r
  induction r with
  | zero => exact Nat.le_refl _
  | succ r ih =>
    rw [cr_b_s]
    split
    · rename_i h
      have h2 := of_decide_eq_true (Bool.and_eq_true_iff.mp h).2
      show v 4 ≤ v (3 - r); omega
    · exact ih
theorem cr_vl_le {f : Nat → Nat → Nat} {s tk m : Nat} (h : ∀ s tk, f s tk ≤ m) (t : Nat) : cr_vl f s tk t ≤ m + 1 := by
  unfold cr_vl
  split
  · have := h (s + 1) (tk ||| 2 ^ t); omega
  · have := h (s + 1) tk; omega
theorem cr_m_le {T : Nat → Nat → Bool} : ∀ m s tk, cr_m T m s tk ≤ m := by
  intro m
  induction m with
  | zero => intro s tk; exact Nat.le_refl 0
  | succ m ih => intro s tk; exact cr_b_le (fun t => cr_vl_le ih t) 4
theorem cr_k_lt {tk t : Nat} (h : tk < 16) : cr_k tk t < 16 := by
  unfold cr_k
  split
  · exact Nat.or_lt_two_pow (n := 4) h (Nat.pow_lt_pow_right (by omega) (by omega))
  · exact h
theorem cr_or {tk t : Nat} (h : tk < 16) (ht : t < 4) : tk ||| 2 ^ t < 16 := Nat.or_lt_two_pow (n := 4) h (Nat.pow_lt_pow_right (by omega) (by omega))
theorem cr_a_le {T : Nat → Nat → Bool} : ∀ m s tk i, cr_a T m s tk i ≤ 4 := by
  intro m
  induction m with
  | zero => intro s tk i; exact Nat.le_refl 4
  | succ m ih =>
    intro s tk i
    show (if i = s then cr_t T m s tk else cr_a T m (s + 1) (cr_k tk (cr_t T m s tk)) i) ≤ 4
    split
    · exact cr_b_2 4
    · exact ih _ _ _
theorem cr_may : ∀ tk, tk < 16 → ∀ t, t < 4 → (nI tk &&& ((1 : Int32) <<< (nI t &&& 31)) = 0 ↔ tk.testBit t = false) := by decide +kernel
theorem cr_mx {a b : Nat} (ha : a < 2 ^ 31) (hb : b < 2 ^ 31) : (if nI a < nI b then nI b else nI a) = nI (max a b) := by
  by_cases h : a < b
  · rw [if_pos (nI_lt h hb), Nat.max_eq_right (by omega)]
  · rw [if_neg (nI_nlt (by omega) ha), Nat.max_eq_left (by omega)]
section CRW
variable {g : GT} {d : Nat} {I : IT} {J : JT}
theorem s_X7_mayTake {s t tk : Nat} {F : NF} {P : Bool → IT → JT → Prop} (hd : 2 ≤ d) (hC : FlC I 3 F) (hF : okF F) (hs : s < F 0) (ht : t < 4) (htk : tk < 16) (h : P (cr_av (cr_T F) s tk t) I J) : SemZ g d M_X7_mayTake [.ref (ga g 0), .int (nI s), .int (nI t), .int (nI tk)] I J P := by
  refine w_X7_mayTake (by omega) ?_
  unfold VC_X7_mayTake
  unfold cr_av at h
  refine ⟨fun q => ?_, fun q => ?_⟩
  · cases hb : tk.testBit t with
    | false => exact absurd ((cr_may tk htk t ht).mpr hb) q
    | true => rw [hb] at h; exact h
  · rw [(cr_may tk htk t ht).mp q] at h
    have h : P (tru (shipOf F s) t) I J := h
    refine s_X2_trusts (by omega) isF_3 hC hF hs ht ⟨fun z => ?_, fun z => ?_⟩
    · rw [z] at h; exact h
    · rw [z] at h; exact h
theorem s_X7_mostCrewed {F : NF} (hC : FlC I 3 F) (hF : okF F) : ∀ m d s tk (P : Int32 → IT → JT → Prop), s + m = F 0 → m + 3 ≤ d → tk < 16 → P (nI (cr_m (cr_T F) m s tk)) I J → SemI g d M_X7_mostCrewed [.ref (ga g 0), .int (nI s), .int (nI tk)] I J P := by
  have h6 := hF.1
  intro m
  induction m with
  | zero =>
    intro d s tk P hs hd htk h
    refine w_X7_mostCrewed (by omega) ?_
    unfold VC_X7_mostCrewed
    rw [hC.1]
    exact ⟨fun _ => h, fun q => absurd (nI_le (by omega) (by omega)) q⟩
  | succ m ih =>
    intro d s tk P hs hd htk h
    refine w_X7_mostCrewed (by omega) ?_
    unfold VC_X7_mostCrewed
    rw [hC.1, nI_one]
    refine ⟨fun q => absurd ((nI_leI (by omega) (by omega)).mp q) (by omega), fun _ => ⟨fun _ => ?_, fun q => absurd (nI_lt (b := 6) (by omega) (by omega)) q⟩⟩
    refine ih (d - 1) (s + 1) tk _ (by omega) (by omega) htk ?_
    refine upTo (Q := fun t => ∀ x, x ≤ 7 → cr_m (cr_T F) m (s + 1) tk ≤ x → max x (cr_b (cr_av (cr_T F) s tk) (cr_vl (cr_m (cr_T F) m) s tk) (4 - t)).1 = (cr_b (cr_av (cr_T F) s tk) (cr_vl (cr_m (cr_T F) m) s tk) 4).1 → Lp_X7_mostCrewed_31 g d (nI s) (nI tk) (nI x) (nI t) I J P) (N := 4) (fun x hx hb hm => ?_) (fun t ht ih2 x hx hb hm => ?_) (cr_m (cr_T F) m (s + 1) tk) (by have := cr_m_le (T := cr_T F) m (s + 1) tk; omega) (Nat.le_refl _) (Nat.max_eq_right (cr_b_0 (av := cr_av (cr_T F) s tk) (v := cr_vl (cr_m (cr_T F) m) s tk) 4))
    · refine w_X7_mostCrewed_31 (by omega) ?_
      unfold VC_X7_mostCrewed_31
      have e0 : (cr_b (cr_av (cr_T F) s tk) (cr_vl (cr_m (cr_T F) m) s tk) (4 - 4)).1 = cr_m (cr_T F) m (s + 1) tk := rfl
      have e1 : cr_m (cr_T F) (m + 1) s tk = (cr_b (cr_av (cr_T F) s tk) (cr_vl (cr_m (cr_T F) m) s tk) 4).1 := rfl
      rw [e0, Nat.max_eq_left hb] at hm
      rw [e1, ← hm] at h
      exact ⟨fun _ => h, fun z => absurd (nI_le (Nat.le_refl 4) (by omega)) z⟩
    · refine w_X7_mostCrewed_31 (by omega) ?_
      unfold VC_X7_mostCrewed_31
      rw [nI_one, nI_one, or_bit tk (by omega) t (by omega)]
      have e : 4 - t = (4 - (t + 1)) + 1 := by omega
      have e3 : 3 - (4 - (t + 1)) = t := by omega
      refine ⟨fun q => absurd ((nI_leI (a := 4) (by omega) (by omega)).mp q) (by omega), fun _ => s_X7_mayTake (by omega) hC hF (by omega) ht htk ⟨fun q => ?_, fun q => ?_⟩⟩
      · rw [e, cr_b_s, e3, q, Bool.false_and, if_neg Bool.false_ne_true] at hm
        exact ih2 x hx hb hm
      · refine ih (d - 1) (s + 1) (tk ||| 2 ^ t) _ (by omega) (by omega) (cr_or htk ht) ?_
        have hy := cr_m_le (T := cr_T F) m (s + 1) (tk ||| 2 ^ t)
        have ev : cr_vl (cr_m (cr_T F) m) s tk t = 1 + cr_m (cr_T F) m (s + 1) (tk ||| 2 ^ t) := if_pos ht
        rw [e, cr_b_s, e3, q, Bool.true_and, ev] at hm
        generalize cr_m (cr_T F) m (s + 1) (tk ||| 2 ^ t) = y at hy hm ⊢
        rw [show (1 : Int32) + nI y = nI (1 + y) from nI_add 1 y, cr_mx (by omega) (by omega)]
        refine ih2 (max x (1 + y)) (by omega) (by omega) ?_
        by_cases c : (cr_b (cr_av (cr_T F) s tk) (cr_vl (cr_m (cr_T F) m) s tk) (4 - (t + 1))).1 ≤ 1 + y
        · rw [if_pos (decide_eq_true c)] at hm
          have hm : max x (1 + y) = _ := hm
          omega
        · rw [if_neg (by rw [decide_eq_false c]; exact Bool.false_ne_true)] at hm
          omega
theorem s_X7_firstTeller {F : NF} {m s tk : Nat} {P : Int32 → IT → JT → Prop} (hC : FlC I 3 F) (hF : okF F) (hs : s + (m + 1) = F 0) (hd : m + 6 ≤ d) (htk : tk < 16) (h : P (cr_o (cr_t (cr_T F) m s tk)) I J) : SemI g d M_X7_firstTeller [.ref (ga g 0), .int (nI s), .int (nI tk)] I J P := by
  have h6 := hF.1
  refine w_X7_firstTeller (by omega) ?_
  unfold VC_X7_firstTeller
  refine s_X7_mostCrewed hC hF (m + 1) (d - 1) s tk _ hs (by omega) htk ?_
  have hM := cr_m_le (T := cr_T F) (m + 1) s tk
  refine upTo (Q := fun t => cr_b (cr_av (cr_T F) s tk) (cr_vl (cr_m (cr_T F) m) s tk) (4 - t) = cr_b (cr_av (cr_T F) s tk) (cr_vl (cr_m (cr_T F) m) s tk) 4 → Lp_X7_firstTeller_10 g d (nI s) (nI tk) (nI (cr_m (cr_T F) (m + 1) s tk)) (nI t) I J P) (N := 4) (fun q => ?_) (fun t ht ih q => ?_) rfl
  · refine w_X7_firstTeller_10 (by omega) ?_
    unfold VC_X7_firstTeller_10
    have e : cr_t (cr_T F) m s tk = 4 := by
      show (cr_b (cr_av (cr_T F) s tk) (cr_vl (cr_m (cr_T F) m) s tk) 4).2 = 4
      rw [← q]; rfl
    rw [e] at h
    have h : P (-4) I J := h
    exact ⟨fun _ => h, fun z => absurd (nI_le (Nat.le_refl 4) (by omega)) z⟩
  · refine w_X7_firstTeller_10 (by omega) ?_
    unfold VC_X7_firstTeller_10
    rw [nI_one, nI_one, or_bit tk (by omega) t (by omega)]
    have e : 4 - t = (4 - (t + 1)) + 1 := by omega
    have e3 : 3 - (4 - (t + 1)) = t := by omega
    have e1 : cr_m (cr_T F) (m + 1) s tk = (cr_b (cr_av (cr_T F) s tk) (cr_vl (cr_m (cr_T F) m) s tk) 4).1 := rfl
    refine ⟨fun q => absurd ((nI_leI (a := 4) (by omega) (by omega)).mp q) (by omega), fun _ => s_X7_mayTake (by omega) hC hF (by omega) ht htk ⟨fun z => ?_, fun z => ?_⟩⟩
    · rw [e, cr_b_s, e3, z, Bool.false_and, if_neg Bool.false_ne_true] at q
      exact ih q
    · refine s_X7_mostCrewed hC hF m (d - 1) (s + 1) (tk ||| 2 ^ t) _ (by omega) (by omega) (cr_or htk ht) ?_
      have hy := cr_m_le (T := cr_T F) m (s + 1) (tk ||| 2 ^ t)
      have ev : cr_vl (cr_m (cr_T F) m) s tk t = 1 + cr_m (cr_T F) m (s + 1) (tk ||| 2 ^ t) := if_pos ht
      rw [e, cr_b_s, e3, z, Bool.true_and, ev] at q
      generalize cr_m (cr_T F) m (s + 1) (tk ||| 2 ^ t) = y at hy q ⊢
      rw [show (1 : Int32) + nI y = nI (1 + y) from nI_add 1 y]
      refine ⟨fun w => ?_, fun w => ?_⟩
      · have w : ¬ 1 + y = cr_m (cr_T F) (m + 1) s tk := fun v => w (by rw [v])
        by_cases c : (cr_b (cr_av (cr_T F) s tk) (cr_vl (cr_m (cr_T F) m) s tk) (4 - (t + 1))).1 ≤ 1 + y
        · rw [if_pos (decide_eq_true c)] at q
          exact absurd (by rw [e1, ← q]) w
        · rw [if_neg (by rw [decide_eq_false c]; exact Bool.false_ne_true)] at q
          exact ih q
      · have w : 1 + y = cr_m (cr_T F) (m + 1) s tk := (nI_eq (by omega) (by omega)).mp w
        by_cases c : (cr_b (cr_av (cr_T F) s tk) (cr_vl (cr_m (cr_T F) m) s tk) (4 - (t + 1))).1 ≤ 1 + y
        · rw [if_pos (decide_eq_true c)] at q
          have e5 : cr_t (cr_T F) m s tk = t := by
            show (cr_b (cr_av (cr_T F) s tk) (cr_vl (cr_m (cr_T F) m) s tk) 4).2 = t
            rw [← q]
          rw [e5] at h
          unfold cr_o at h
          rw [if_pos ht] at h; exact h
        · rw [if_neg (by rw [decide_eq_false c]; exact Bool.false_ne_true)] at q
          rw [e1, ← q] at w
          exact absurd (Nat.le_of_eq w.symm) c
theorem s_X7_crewOf {F : NF} {s : Nat} {P : Int32 → IT → JT → Prop} (hC : FlC I 3 F) (hF : okF F) (hs : s < F 0) (hd : 14 ≤ d) (h : P (cr_o (cr_a (cr_T F) (F 0) 0 0 s)) I J) : SemI g d M_X7_crewOf [.ref (ga g 0), .int (nI s)] I J P := by
  have h6 := hF.1
  refine w_X7_crewOf ?_
  unfold VC_X7_crewOf
  refine upTo (Q := fun k => ∀ tk, tk < 16 → cr_a (cr_T F) (F 0) 0 0 s = cr_a (cr_T F) (F 0 - k) k tk s → Lp_X7_crewOf_4 g d (nI s) (nI tk) (nI k) I J P) (N := s) (fun tk htk e => ?_) (fun k hk ih tk htk e => ?_) 0 (by omega) rfl
  · refine w_X7_crewOf_4 (by omega) ?_
    unfold VC_X7_crewOf_4
    rw [show F 0 - s = (F 0 - 1 - s) + 1 from by omega] at e
    have e2 : cr_a (cr_T F) ((F 0 - 1 - s) + 1) s tk s = cr_t (cr_T F) (F 0 - 1 - s) s tk := if_pos rfl
    rw [e, e2] at h
    exact ⟨fun _ => s_X7_firstTeller (m := F 0 - 1 - s) hC hF (by omega) (by omega) htk h, fun z => absurd (nI_le (Nat.le_refl _) (by omega)) z⟩
  · refine w_X7_crewOf_4 (by omega) ?_
    unfold VC_X7_crewOf_4
    rw [nI_one]
    rw [show F 0 - k = (F 0 - 1 - k) + 1 from by omega] at e
    have e2 : cr_a (cr_T F) ((F 0 - 1 - k) + 1) k tk s = cr_a (cr_T F) (F 0 - 1 - k) (k + 1) (cr_k tk (cr_t (cr_T F) (F 0 - 1 - k) k tk)) s := if_neg (by omega)
    rw [e2, show F 0 - 1 - k = F 0 - (k + 1) from by omega] at e
    refine ⟨fun z => absurd ((nI_leI (by omega) (by omega)).mp z) (by omega), fun _ => s_X7_firstTeller (m := F 0 - (k + 1)) hC hF (by omega) (by omega) htk ?_⟩
    have ht4 : cr_t (cr_T F) (F 0 - (k + 1)) k tk ≤ 4 := cr_b_2 4
    generalize cr_t (cr_T F) (F 0 - (k + 1)) k tk = t at e ht4 ⊢
    unfold cr_k at e
    unfold cr_o
    by_cases ht : t < 4
    · rw [if_pos ht] at e
      rw [if_pos ht, or_bit tk (by omega) t (by omega)]
      exact ⟨fun z => absurd z (nI_pos (by omega)), fun _ => ih _ (cr_or htk ht) e⟩
    · rw [if_neg ht] at e
      rw [if_neg ht]
      exact ⟨fun _ => ih _ htk e, fun z => absurd (by decide) z⟩
end CRW
-- the reference
def cr_bs (a : Nat → Nat) : Nat → Nat := accN (fun i S => cr_k S (a i)) 0
def cr_ct (a : Nat → Nat) : Nat → Nat := accN (fun i c => if a i < 4 then c + 1 else c) 0
theorem cr_bs_s {a : Nat → Nat} {k : Nat} : cr_bs a (k + 1) = cr_k (cr_bs a k) (a k) := rfl
theorem cr_ct_s {a : Nat → Nat} {k : Nat} : cr_ct a (k + 1) = (if a k < 4 then cr_ct a k + 1 else cr_ct a k) := rfl
theorem cr_bs_lt {a : Nat → Nat} : ∀ k, cr_bs a k < 16 := by
  intro k
  induction k with
  | zero => show 0 < 16; omega
  | succ k ih => rw [cr_bs_s]; exact cr_k_lt ih
theorem cr_ct_le {a : Nat → Nat} : ∀ k, cr_ct a k ≤ k := by
  intro k
  induction k with
  | zero => exact Nat.le_refl 0
  | succ k ih => rw [cr_ct_s]; split <;> omega
def cr_u (a : Nat → Nat) (s t : Nat) : Nat → Nat := fun i => if i = s then t else a i
theorem cr_bs_u {a : Nat → Nat} {s t : Nat} : ∀ k, k ≤ s → cr_bs (cr_u a s t) k = cr_bs a k := by
  intro k
  induction k with
  | zero => intro _; rfl
  | succ k ih =>
    intro hk
    have e : cr_u a s t k = a k := if_neg (by omega)
    rw [cr_bs_s, cr_bs_s, ih (by omega), e]
theorem cr_ct_u {a : Nat → Nat} {s t : Nat} : ∀ k, k ≤ s → cr_ct (cr_u a s t) k = cr_ct a k := by
  intro k
  induction k with
  | zero => intro _; rfl
  | succ k ih =>
    intro hk
    have e : cr_u a s t k = a k := if_neg (by omega)
    rw [cr_ct_s, cr_ct_s, ih (by omega), e]
def cr_up (q : Nat) (bb : Nat → Nat) (M : Nat) (bn : Nat → Nat) (q' : Nat) (b' : Nat → Nat) : Prop := (q ≤ M → q' = M + 1 ∧ ∀ i, b' i = bn i) ∧ (M < q → q' = q ∧ ∀ i, b' i = bb i)
theorem cr_up2 {q q1 q2 M1 M2 : Nat} {bb b1 b2 bb1 bb2 : Nat → Nat} (h1 : cr_up q bb M1 b1 q1 bb1) (h2 : cr_up q1 bb1 M2 b2 q2 bb2) : (M2 ≤ M1 → cr_up q bb M1 b1 q2 bb2) ∧ (M1 < M2 → cr_up q bb M2 b2 q2 bb2) := by
  refine ⟨fun hm => ⟨fun hq => ?_, fun hq => ?_⟩, fun hm => ⟨fun hq => ?_, fun hq => ?_⟩⟩
  · obtain ⟨e1, f1⟩ := h1.1 hq
    obtain ⟨e2, f2⟩ := h2.2 (by omega)
    exact ⟨by omega, fun i => by rw [f2, f1]⟩
  · obtain ⟨e1, f1⟩ := h1.2 hq
    obtain ⟨e2, f2⟩ := h2.2 (by omega)
    exact ⟨by omega, fun i => by rw [f2, f1]⟩
  · have hq1 : q1 ≤ M2 := by
      rcases Nat.lt_or_ge M1 q with c | c
      · have := (h1.2 c).1; omega
      · have := (h1.1 c).1; omega
    exact h2.1 hq1
  · obtain ⟨e1, f1⟩ := h1.2 (by omega)
    obtain ⟨e2, f2⟩ := h2.2 (by omega)
    exact ⟨by omega, fun i => by rw [f2, f1]⟩
theorem cr_q : ∀ q, q < 8 → ∀ c, c < 7 → (nI c ≤ nI q - 1 ↔ c < q) := by decide +kernel
def cr_n (T : Nat → Nat → Bool) (m s tk : Nat) (a : Nat → Nat) (t i : Nat) : Nat := if i < s then a i else if i = s then t else cr_a T m (s + 1) (cr_k tk t) i
abbrev cr_I (I : IT) (a : Nat → Nat) (s : Nat) : Prop := ∀ i, i < s → I 125 i = nI (a i) ∧ a i ≤ 4
abbrev cr_B (I : IT) (N q : Nat) (bb : Nat → Nat) : Prop := 0 < q → ∀ i, i < N → I 126 i = nI (bb i)
section CRR
variable {g : GT} {d : Nat} {J : JT}
theorem cr_w23 {I : IT} {P : Int32 → IT → JT → Prop} {s : Nat} {a : Nat → Nat} {v1 : Int32} (ha : cr_I I a s) (hs : s ≤ 6) (h : Lp_X8_bestCrew_23 g d v1 (nI s) (nI (cr_bs a s)) (nI (cr_ct a s)) (nI s) I J P) : Lp_X8_bestCrew_11 g d v1 (nI s) I J P := by
  refine w_X8_bestCrew_11 ?_
  unfold VC_X8_bestCrew_11
  refine ⟨fun q => absurd q (nI_pos (by omega)), fun _ => ?_⟩
  refine upTo (Q := fun k => Lp_X8_bestCrew_23 g d v1 (nI s) (nI (cr_bs a k)) (nI (cr_ct a k)) (nI k) I J P) (N := s) h (fun k hk ih => ?_)
  obtain ⟨e, h4⟩ := ha k hk
  refine w_X8_bestCrew_23 ?_
  unfold VC_X8_bestCrew_23
  have v7 : vp_in (nI k) 7 := vp_in_nI (by omega) (by omega)
  have hl := cr_bs_lt (a := a) k
  rw [cr_bs_s, cr_ct_s] at ih
  unfold cr_k at ih
  rw [nI_cl (n := k) (by omega), e]
  refine ⟨fun q => absurd ((nI_leI (by omega) (by omega)).mp q) (by omega), fun _ => ⟨v7, fun q => ⟨v7, fun _ => ?_, fun z => absurd q z⟩, fun q => ⟨v7, v7, fun z => absurd z q, fun _ => ?_⟩⟩⟩
  · have q4 : ¬ a k < 4 := fun z => absurd ((nI_leI (a := 4) (by omega) (by omega)).mp q) (by omega)
    rw [if_neg q4, if_neg q4] at ih
    rw [or0, Int32.add_zero, nI_one]; exact ih
  · have q4 : a k < 4 := Nat.lt_of_not_le (fun z => q (nI_le (a := 4) z (by omega)))
    rw [if_pos q4, if_pos q4] at ih
    rw [or_bit _ (by omega) _ (by omega), nI_one, nI_one]; exact ih
theorem cr_ref {F : NF} {P : Int32 → IT → JT → Prop} (hF : okF F) (hd : 3 ≤ d) : ∀ m s q a bb I, s + m = F 0 → q ≤ 7 → MF I 0 F → cr_I I a s → I 125 s = -1 → cr_B I (F 0) q bb →
    (∀ I' q' b', (∀ x, x ≠ 125 → x ≠ 126 → I' x = I x) → (∀ i, i < s → I' 125 i = I 125 i) → cr_up q bb (cr_ct a s + cr_m (cr_T F) m s (cr_bs a s)) (fun i => if i < s then a i else cr_a (cr_T F) m s (cr_bs a s) i) q' b' → cr_B I' (F 0) q' b' → Lp_X8_bestCrew_11 g d (nI q' - 1) (nI s + (-1)) I' J P) →
    Lp_X8_bestCrew_11 g d (nI q - 1) (nI s) I J P := by
  have h6 := hF.1
  intro m
  induction m with
  | zero =>
    intro s q a bb I hs hq hM ha h1 hb h
    have es : s = F 0 := by omega
    have hc := cr_ct_le (a := a) s
    have e0 := hM.a0 0 (by omega)
    have em : cr_ct a s + cr_m (cr_T F) 0 s (cr_bs a s) = cr_ct a s := rfl
    rw [em] at h
    refine cr_w23 ha (by omega) ?_
    refine w_X8_bestCrew_23 ?_
    unfold VC_X8_bestCrew_23
    rw [e0]
    refine ⟨fun _ => ⟨fun z => absurd (by rw [es]) z, fun _ => ⟨fun z => ?_, fun z => ?_⟩⟩, fun z => absurd (nI_le (Nat.le_refl _) (by omega)) z⟩
    · have z := (cr_q q (by omega) (cr_ct a s) (by omega)).mp z
      exact h I q bb (fun _ _ _ => rfl) (fun _ _ => rfl) ⟨fun y => absurd y (by omega), fun _ => ⟨rfl, fun _ => rfl⟩⟩ hb
    · have z : ¬ cr_ct a s < q := fun y => z ((cr_q q (by omega) (cr_ct a s) (by omega)).mpr y)
      refine upTo (Q := fun k => ∀ I1 : IT, (∀ x, x ≠ 126 → I1 x = I x) → (∀ i, i < k → I1 126 i = nI (a i)) → Lp_X8_bestCrew_105 g d (nI (cr_ct a s)) (nI s) (nI k) I1 J P) (N := s) (fun I1 hf hbst => ?_) (fun k hk ih I1 hf hbst => ?_) I (fun _ _ => rfl) (fun i hi => absurd hi (by omega))
      · refine w_X8_bestCrew_105 ?_
        unfold VC_X8_bestCrew_105
        rw [hf 119 (by omega), e0]
        refine ⟨fun _ => ?_, fun y => absurd (nI_le (by omega) (by omega)) y⟩
        have := h I1 (cr_ct a s + 1) (fun i => if i < s then a i else cr_a (cr_T F) 0 s (cr_bs a s) i) (fun x _ h6 => hf x h6) (fun i _ => by rw [hf 125 (by omega)]) ⟨fun _ => ⟨rfl, fun _ => rfl⟩, fun y => absurd y (by omega)⟩ (fun _ i hi => by
          rw [hbst i (by omega)]
          show nI (a i) = nI (if i < s then a i else cr_a (cr_T F) 0 s (cr_bs a s) i)
          rw [if_pos (by omega)])
        rw [nI_pred] at this; exact this
      · refine w_X8_bestCrew_105 ?_
        unfold VC_X8_bestCrew_105
        rw [hf 119 (by omega), e0, nI_cl (n := k) (by omega), nI_one]
        refine ⟨fun y => absurd ((nI_leI (by omega) (by omega)).mp y) (by omega), fun _ => ⟨vp_in_nI (by omega) (by omega), vp_in_nI (by omega) (by omega), ?_⟩⟩
        refine ih (sI I1 126 k (I1 125 k)) (fun x hx => by rw [sI_ne hx]; exact hf x hx) (fun i hi => ?_)
        rw [sI_at]
        by_cases e : i = k
        · rw [if_pos ⟨rfl, e⟩, hf 125 (by omega), (ha k hk).1, e]
        · rw [if_neg (fun y => e y.2)]; exact hbst i (by omega)
  | succ m ihm =>
    intro s q a bb I hs hq hM ha h1 hb h
    have hc := cr_ct_le (a := a) s
    have htk := cr_bs_lt (a := a) s
    have v7 : vp_in (nI s) 7 := vp_in_nI (by omega) (by omega)
    have v8 : vp_in (nI (s + 1)) 7 := vp_in_nI (by omega) (by omega)
    have vle : ∀ t, cr_vl (cr_m (cr_T F) m) s (cr_bs a s) t ≤ m + 1 := cr_vl_le (cr_m_le m)
    -- from the head with a teller tried to the search for the next
    have top : ∀ (x v1 : Int32) (I : IT), MF I 0 F → cr_I I a s → I 125 s + 1 = x → Lp_X8_bestCrew_152 g d v1 (nI s) (nI (cr_bs a s)) x I J P → Lp_X8_bestCrew_11 g d v1 (nI s) I J P := by
      intro x v1 I hM ha hx h
      refine cr_w23 ha (by omega) (w_X8_bestCrew_23 ?_)
      unfold VC_X8_bestCrew_23
      rw [hM.a0 0 (by omega), nI_cl (n := s) (by omega), hx]
      exact ⟨fun _ => ⟨fun _ => ⟨v7, h⟩, fun z => absurd ((nI_eq (by omega) (by omega)).mp z) (by omega)⟩, fun z => absurd (nI_le (Nat.le_refl _) (by omega)) z⟩
    have child : ∀ t, t ≤ 4 → ∀ q bb (I : IT), q ≤ 7 → MF I 0 F → cr_I I a s → cr_B I (F 0) q bb →
        (∀ I' q' b', (∀ x, x ≠ 125 → x ≠ 126 → I' x = I x) → (∀ i, i < s → I' 125 i = I 125 i) → I' 125 s = nI t → cr_up q bb (cr_ct a s + cr_vl (cr_m (cr_T F) m) s (cr_bs a s) t) (cr_n (cr_T F) m s (cr_bs a s) a t) q' b' → cr_B I' (F 0) q' b' → Lp_X8_bestCrew_11 g d (nI q' - 1) (nI s) I' J P) →
        Lp_X8_bestCrew_11 g d (nI q - 1) (nI (s + 1)) (sI (sI I 125 s (nI t)) 125 (s + 1) (-1)) J P := by
      intro t ht q bb I hq hM ha hb K
      have us : cr_u a s t s = t := if_pos rfl
      have eb : cr_bs (cr_u a s t) (s + 1) = cr_k (cr_bs a s) t := by rw [cr_bs_s, cr_bs_u s (Nat.le_refl _), us]
      have ec : cr_ct (cr_u a s t) (s + 1) = (if t < 4 then cr_ct a s + 1 else cr_ct a s) := by rw [cr_ct_s, cr_ct_u s (Nat.le_refl _), us]
      have em : cr_ct (cr_u a s t) (s + 1) + cr_m (cr_T F) m (s + 1) (cr_bs (cr_u a s t) (s + 1)) = cr_ct a s + cr_vl (cr_m (cr_T F) m) s (cr_bs a s) t := by
        rw [eb, ec]
        unfold cr_vl cr_k
        by_cases h4 : t < 4
        · rw [if_pos h4, if_pos h4, if_pos h4]; omega
        · rw [if_neg h4, if_neg h4, if_neg h4]
      have en : ∀ i, (if i < s + 1 then cr_u a s t i else cr_a (cr_T F) m (s + 1) (cr_bs (cr_u a s t) (s + 1)) i) = cr_n (cr_T F) m s (cr_bs a s) a t i := by
        intro i
        rw [eb]
        unfold cr_n
        rcases Nat.lt_trichotomy i s with c | c | c
        · have e : cr_u a s t i = a i := if_neg (by omega)
          rw [if_pos (by omega), if_pos c, e]
        · have e : cr_u a s t i = t := if_pos c
          rw [if_pos (by omega), if_neg (by omega), if_pos c, e]
        · rw [if_neg (by omega), if_neg (by omega), if_neg (by omega)]
      refine ihm (s + 1) q (cr_u a s t) bb (sI (sI I 125 s (nI t)) 125 (s + 1) (-1)) (by omega) hq (fun j hj => ?_) (fun i hi => ?_) (by rw [sI_at, if_pos ⟨rfl, rfl⟩]) (fun h0 i hi => ?_) (fun I' q' b' f1 f2 up bs => ?_)
      · rw [sI_ne (by omega), sI_ne (by omega)]; exact hM j hj
      · rw [sI_at, if_neg (by omega), sI_at]
        by_cases e : i = s
        · have e2 : cr_u a s t i = t := if_pos e
          rw [if_pos ⟨rfl, e⟩, e2]; exact ⟨rfl, ht⟩
        · have e2 : cr_u a s t i = a i := if_neg e
          rw [if_neg (fun y => e y.2), e2]; exact ha i (by omega)
      · rw [sI_ne (by omega), sI_ne (by omega)]; exact hb h0 i hi
      · rw [em] at up
        rw [pk_m1]
        refine K I' q' b' (fun x h5 h6 => by rw [f1 x h5 h6, sI_ne h5, sI_ne h5]) (fun i hi => by rw [f2 i (by omega), sI_at, if_neg (by omega), sI_at, if_neg (by omega)]) (by rw [f2 s (by omega), sI_at, if_neg (by omega), sI_at, if_pos ⟨rfl, rfl⟩]) ⟨fun z => ⟨(up.1 z).1, fun i => ((up.1 z).2 i).trans (en i)⟩, up.2⟩ bs
    have inner : ∀ r, r ≤ 4 → ∀ q bb (I : IT), q ≤ 7 → MF I 0 F → cr_I I a s → cr_B I (F 0) q bb →
        (∀ I' q' b', (∀ x, x ≠ 125 → x ≠ 126 → I' x = I x) → (∀ i, i < s → I' 125 i = I 125 i) → cr_up q bb (cr_ct a s + (cr_b (cr_av (cr_T F) s (cr_bs a s)) (cr_vl (cr_m (cr_T F) m) s (cr_bs a s)) r).1) (cr_n (cr_T F) m s (cr_bs a s) a (cr_b (cr_av (cr_T F) s (cr_bs a s)) (cr_vl (cr_m (cr_T F) m) s (cr_bs a s)) r).2) q' b' → cr_B I' (F 0) q' b' → Lp_X8_bestCrew_11 g d (nI q' - 1) (nI s + (-1)) I' J P) →
        Lp_X8_bestCrew_152 g d (nI q - 1) (nI s) (nI (cr_bs a s)) (nI (4 - r)) I J P := by
      intro r
      induction r with
      | zero =>
        intro _ q bb I hq hM ha hb h
        show Lp_X8_bestCrew_152 g d (nI q - 1) (nI s) (nI (cr_bs a s)) (nI 4) I J P
        refine w_X8_bestCrew_152 (by omega) ?_
        unfold VC_X8_bestCrew_152
        refine ⟨fun _ => ⟨v7, fun _ => ?_, fun z => absurd (nI_le (Nat.le_refl 4) (by omega)) z⟩, fun z => absurd (nI_le (Nat.le_refl 4) (by omega)) z⟩
        rw [nI_one, nI_cl (n := s) (by omega), nI_cl (n := s + 1) (by omega)]
        refine ⟨v8, child 4 (by omega) q bb I hq hM ha hb (fun I' q' b' f1 f2 f3 up bs => ?_)⟩
        have hM' : MF I' 0 F := fun j hj => by rw [f1 119 (by omega) (by omega)]; exact hM j hj
        have ha' : cr_I I' a s := fun i hi => by rw [f2 i hi]; exact ha i hi
        refine top (nI 5) _ I' hM' ha' (by rw [f3]; exact nI_one 4) ?_
        refine w_X8_bestCrew_152 (by omega) ?_
        unfold VC_X8_bestCrew_152
        rw [nI_cl (n := s) (by omega)]
        refine ⟨fun _ => ⟨v7, fun z => absurd z (by decide), fun _ => ?_⟩, fun z => absurd (by decide) z⟩
        refine h (sI I' 125 s (nI 5)) q' b' (fun x h5 h6 => by rw [sI_ne h5]; exact f1 x h5 h6) (fun i hi => by rw [sI_at, if_neg (by omega)]; exact f2 i hi) up (fun h0 i hi => by rw [sI_ne (by omega)]; exact bs h0 i hi)
      | succ r ih =>
        intro hr q bb I hq hM ha hb h
        have ih := ih (by omega)
        rw [show 4 - r = 3 - r + 1 from by omega] at ih
        rw [show 4 - (r + 1) = 3 - r from by omega]
        rw [cr_b_s] at h
        refine w_X8_bestCrew_152 (by omega) ?_
        unfold VC_X8_bestCrew_152
        rw [nI_one, nI_one, nI_cl (n := s) (by omega), nI_cl (n := s + 1) (by omega)]
        refine ⟨fun z => absurd ((nI_leI (a := 4) (by omega) (by omega)).mp z) (by omega), fun _ => s_X8_has (S := cr_bs a s) (b := 3 - r) (by omega) (by omega) ⟨fun z => ?_, fun z => ?_⟩⟩
        · have z2 : cr_av (cr_T F) s (cr_bs a s) (3 - r) = false := by unfold cr_av; rw [z]; rfl
          rw [z2, Bool.false_and, if_neg Bool.false_ne_true] at h
          exact ih q bb I hq hM ha hb h
        · refine s_X8_believesIn (r := 0) (F := F) (by omega) (by omega) (by omega) (hM.ship (by omega)) (hF.ship (by omega)) (by omega) ⟨fun y => ?_, fun y => ?_⟩
          · have z2 : cr_av (cr_T F) s (cr_bs a s) (3 - r) = true := by unfold cr_av; rw [z]; exact y
            rw [z2, Bool.true_and] at h
            refine ⟨v7, fun _ => ⟨v8, child (3 - r) (by omega) q bb I hq hM ha hb (fun I' q' b' f1 f2 f3 up bs => ?_)⟩, fun w => absurd (nI_le (b := 4) (by omega) (by omega)) w⟩
            have hM' : MF I' 0 F := fun j hj => by rw [f1 119 (by omega) (by omega)]; exact hM j hj
            have ha' : cr_I I' a s := fun i hi => by rw [f2 i hi]; exact ha i hi
            have vt := vle (3 - r)
            have hq' : q' ≤ 7 := by
              rcases Nat.lt_or_ge (cr_ct a s + cr_vl (cr_m (cr_T F) m) s (cr_bs a s) (3 - r)) q with c | c
              · have := (up.2 c).1; omega
              · have := (up.1 c).1; omega
            refine top (nI (3 - r + 1)) _ I' hM' ha' (by rw [f3, nI_one]) ?_
            refine ih q' b' I' hq' hM' ha' bs (fun I2 q2 b2 f4 f5 up2 bs2 => h I2 q2 b2 (fun x h5 h6 => by rw [f4 x h5 h6, f1 x h5 h6]) (fun i hi => by rw [f5 i hi, f2 i hi]) ?_ bs2)
            have cmp := cr_up2 up up2
            by_cases c : (cr_b (cr_av (cr_T F) s (cr_bs a s)) (cr_vl (cr_m (cr_T F) m) s (cr_bs a s)) r).1 ≤ cr_vl (cr_m (cr_T F) m) s (cr_bs a s) (3 - r)
            · rw [if_pos (decide_eq_true c)]; exact cmp.1 (by omega)
            · rw [if_neg (by rw [decide_eq_false c]; exact Bool.false_ne_true)]; exact cmp.2 (by omega)
          · have z2 : cr_av (cr_T F) s (cr_bs a s) (3 - r) = false := by
              unfold cr_av cr_T; rw [y, Bool.and_false]
            rw [z2, Bool.false_and, if_neg Bool.false_ne_true] at h
            exact ih q bb I hq hM ha hb h
    refine top 0 _ I hM ha (by rw [h1]; decide) ?_
    exact inner 4 (Nat.le_refl 4) q bb I hq hM ha hb (fun I' q' b' f1 f2 up bs => h I' q' b' f1 f2 up bs)
theorem s_X8_bestCrew {I : IT} {F : NF} {P : Int32 → IT → JT → Prop} (hd : 3 ≤ d) (hM : MF I 0 F) (hF : okF F) (h : ∀ I', (∀ x, x ≠ 125 → x ≠ 126 → I' x = I x) → (∀ i, i < F 0 → I' 126 i = nI (cr_a (cr_T F) (F 0) 0 0 i)) → P (nI (cr_m (cr_T F) (F 0) 0 0)) I' J) : SemI g d M_X8_bestCrew [.ref (ga g 118)] I J P := by
  refine w_X8_bestCrew ?_
  unfold VC_X8_bestCrew
  have key : Lp_X8_bestCrew_11 g d (nI 0 - 1) (nI 0) (sI I 125 0 (-1)) J P := by
    refine cr_ref hF hd (F 0) 0 0 (fun _ => 4) (fun _ => 0) (sI I 125 0 (-1)) (by omega) (by omega) (fun j hj => by rw [sI_ne (by omega)]; exact hM j hj) (fun i hi => absurd hi (by omega)) (by rw [sI_at, if_pos ⟨rfl, rfl⟩]) (fun z => absurd z (by omega)) (fun I' q' b' f1 f2 up bs => ?_)
    obtain ⟨e1, e2⟩ := up.1 (Nat.zero_le _)
    refine w_X8_bestCrew_11 ?_
    unfold VC_X8_bestCrew_11
    refine ⟨fun _ => ?_, fun z => absurd (by decide) z⟩
    have hz : cr_ct (fun _ => 4) 0 + cr_m (cr_T F) (F 0) 0 (cr_bs (fun _ => 4) 0) = cr_m (cr_T F) (F 0) 0 0 := Nat.zero_add _
    rw [hz] at e1
    have := h I' (fun x h5 h6 => by rw [f1 x h5 h6, sI_ne h5]) (fun i hi => by rw [bs (by omega) i hi, (e2 i).trans (if_neg (Nat.not_lt_zero i))]; rfl)
    rw [e1, nI_pred]; exact this
  have e : nI 0 - 1 = (-1 : Int32) := by decide
  rw [e] at key
  exact key
end CRR
def vCrew (a : Int32) (σ : ST) : Int32 := if a = -1 then (if 0 < sF σ 0 then nI (cr_m (cr_T (sF σ)) (sF σ 0) 0 0) else -2) else if inN a (sF σ 0) = true then cr_o (cr_a (cr_T (sF σ)) (sF σ 0) 0 0 a.toNatClampNeg) else -1
theorem e_crew {g : GT} (a0 : Int32) : EQI g Rel M_X7_crew M_X8_crew [.int a0] := by
  refine eqI_of (vCrew a0) id (fun σ I J P hk hC h => ?_) (fun σ I J P hk hM h => ?_) (fun _ h => h)
  · have h := h I J hC smM.rf
    unfold vCrew at h
    refine w_X7_crew (by omega) ?_
    unfold VC_X7_crew
    have h6 := hk.1.1
    refine ⟨fun q => ?_, fun q => ?_⟩
    · rw [if_neg q] at h
      refine s_X2_hasShip isF_3 hC.2.1 hk.1 ⟨fun z => ?_, fun z => ?_⟩
      · rw [if_neg (fun y => ff z y)] at h; exact h
      · rw [if_pos z] at h
        obtain ⟨s, hs, rfl⟩ := inN_n z (by omega)
        rw [nI_cl (by omega)] at h
        exact s_X7_crewOf hC.2.1 hk.1 hs (by omega) h
    · rw [if_pos q] at h
      refine s_X2_stands isF_3 hC.2.1 hk.1 ⟨fun z => ?_, fun z => ?_⟩
      · rw [if_neg (of_decide_eq_false z)] at h; exact h
      · rw [if_pos (of_decide_eq_true z)] at h
        exact s_X7_mostCrewed hC.2.1 hk.1 (sF σ 0) _ 0 0 _ (by omega) (by omega) (by omega) h
  · unfold vCrew at h
    refine w_X8_crew (by omega) ?_
    unfold VC_X8_crew
    have h6 := hk.1.1
    have fin : ∀ I' : IT, (∀ x, x ≠ 125 → x ≠ 126 → I' x = I x) → P (vCrew a0 σ) I' J := fun I' f => h I' J (hM.scr (by rw [f 118 (by omega) (by omega)]) (by rw [f 118 (by omega) (by omega)]) (fun j _ => by rw [f 119 (by omega) (by omega)]) (f 120 (by omega) (by omega)) (f 122 (by omega) (by omega)) (f 123 (by omega) (by omega)) rfl) ⟨fun a ha => f a (by omega) (by omega), fun _ _ => rfl⟩
    unfold vCrew at fin
    refine ⟨fun q => ?_, fun q => ?_⟩
    · rw [if_pos q] at fin
      refine s_X8_isFleet hM.2.1 hk.1 ⟨fun z => ?_, fun z => ?_⟩
      · rw [if_pos (of_decide_eq_true z)] at fin
        exact s_X8_bestCrew (by omega) hM.2.1 hk.1 (fun I' f _ => ⟨fun y => absurd q y, fun _ => fin I' f⟩)
      · rw [if_neg (of_decide_eq_false z)] at fin
        exact fin I (fun _ _ _ => rfl)
    · rw [if_neg q] at fin
      refine s_X8_isShip (by omega) hM.2.1 hk.1 ⟨fun z => ?_, fun z => ?_⟩
      · rw [if_pos z] at fin
        obtain ⟨s, hs, rfl⟩ := inN_n z (by omega)
        rw [nI_cl (by omega)] at fin ⊢
        refine s_X8_isFleet hM.2.1 hk.1 ⟨fun y => ?_, fun y => absurd (show 0 < sF σ 0 by omega) (of_decide_eq_false y)⟩
        refine s_X8_bestCrew (by omega) hM.2.1 hk.1 (fun I' f b => ⟨fun _ => ⟨vp_in_nI (by omega) (by omega), ?_⟩, fun y => absurd y q⟩)
        have fin := fin I' f
        have le := cr_a_le (T := cr_T (sF σ)) (sF σ 0) 0 0 s
        rw [b s hs]
        unfold cr_o at fin
        refine ⟨fun y => ⟨vp_in_nI (by omega) (by omega), ?_⟩, fun y => ?_⟩
        · have y : cr_a (cr_T (sF σ)) (sF σ 0) 0 0 s ≠ 4 := fun w => y (by rw [w]; rfl)
          rw [if_pos (by omega)] at fin; exact fin
        · have y := (nI_eq (b := 4) (by omega) (by omega)).mp y
          rw [if_neg (by omega)] at fin; exact fin
      · rw [if_neg (fun y => ff z y)] at fin
        exact fin I (fun _ _ _ => rfl)
