-- ===== fleets read: the class =====
def fl_c (o j : Nat) : Nat := (([[46, 35, 111], [111, 103, 100, 116, 109], [110, 101, 115, 119]] : List (List Nat)).getD o []).getD j 0
def fl_j (o c : Nat) : Nat := if o = 0 then fl_s c else if o = 1 then (if fl_k c = 0 then 5 else fl_k c - 1) else fl_l c
def fl_x (o c : Nat) : Int32 := if fl_j o c < stN o then nI (fl_j o c) else -1
theorem fl_st : ∀ o, o < 3 → ∀ j, j < stN o → ∀ c, c < 256 → (stC o j = (nI c).toInt8.toInt32 ↔ c = fl_c o j) := by decide +kernel
theorem fl_jc : ∀ o, o < 3 → ∀ j, j < stN o → fl_j o (fl_c o j) = j := by decide +kernel
theorem fl_jn : ∀ o, o < 3 → ∀ c, c < 256 → fl_j o c < stN o → c = fl_c o (fl_j o c) := by decide +kernel
theorem fl_cv : ∀ c, c < 256 → ((nI c).toUInt32 % 65536).toInt32 = nI c := by decide +kernel
theorem fl_ln : ∀ o, o < 3 → (Int32.ofNat (stN o)) >>> ((0 : Int32) &&& 31) = nI (stN o) ∧ stN o ≤ 5 ∧ 0 < stN o := by decide +kernel
theorem fl_xn : ∀ o, o < 3 → fl_x o 256 = -1 := by decide +kernel
def TC (I : IT) (T : Nat × NF) (p : Nat) : Prop := p ≤ T.1 ∧ I 1 1 = nI T.1 ∧ (∀ j, j < T.1 → I 2 j = nI (T.2 j)) ∧ I 1 2 = nI p
def fl_F (I I' : IT) : Prop := ∀ a, a ≠ 1 → (a < 11 ∨ 18 < a) → I' a = I a
def FlD (I : IT) (G : NF) (n : Nat) : Prop :=
  I 11 6 = nI (G 0) ∧ I 12 1 = nI (G 1) ∧ I 12 2 = nI (G 2) ∧ (∀ c, c / 8 < G 1 → c % 8 < G 2 → I 13 c = nI (G (3 + c))) ∧
  (∀ s, s < G 0 → I 14 s = nI (G (51 + s)) ∧ I 15 s = nI (G (58 + s)) ∧ I 16 s = nI (G (64 + s)) ∧ I 17 s = nI (G (70 + s))) ∧
  (∀ t, t < n → I 18 t = nI (G (76 + t))) ∧ I 11 7 = nI (G 57)
theorem TC.w {I : IT} {T : Nat × NF} {p a j : Nat} {x : Int32} (h : TC I T p) (h1 : a ≠ 1) (h2 : a ≠ 2) : TC (sI I a j x) T p :=
  ⟨h.1, by rw [sI_ne (fun z => h1 z.symm)]; exact h.2.1, fun i hi => by rw [sI_ne (fun z => h2 z.symm)]; exact h.2.2.1 i hi, by rw [sI_ne (fun z => h1 z.symm)]; exact h.2.2.2⟩
theorem TC.adv {I : IT} {T : Nat × NF} {p : Nat} (h : TC I T p) (hp : p < T.1) : TC (sI I 1 2 (I 1 2 + 1)) T (p + 1) :=
  ⟨hp, by rw [sI_at, if_neg (by omega)]; exact h.2.1, fun i hi => by rw [sI_ne (by omega)]; exact h.2.2.1 i hi, by rw [sI_at, if_pos ⟨rfl, rfl⟩, h.2.2.2, nI_one]⟩
theorem FlD.cg {I I' : IT} {G : NF} {n : Nat} (h : FlD I G n) (e : ∀ a, 11 ≤ a → a ≤ 18 → I' a = I a) : FlD I' G n := by
  unfold FlD at h ⊢
  rw [e 11 (by omega) (by omega), e 12 (by omega) (by omega), e 13 (by omega) (by omega), e 14 (by omega) (by omega), e 15 (by omega) (by omega), e 16 (by omega) (by omega), e 17 (by omega) (by omega), e 18 (by omega) (by omega)]
  exact h
section FLC
variable {g : GT} {d : Nat} {I : IT} {J : JT} {T : Nat × NF} {p : Nat}
theorem s_X5_here {P : Int32 → IT → JT → Prop} (hT : okTp T) (ht : TC I T p) (h : P (fl_I (fl_h T p)) I J) : SemI g d M_X5_here [.ref (ga g 1)] I J P := by
  refine w_X5_here ?_
  unfold VC_X5_here
  have hp := ht.1
  have h130 := hT.1
  rw [ht.2.2.2, ht.2.1]
  unfold fl_h fl_I at h
  refine ⟨fun z => absurd z (nI_pos (by omega)), fun _ => ⟨fun z => ?_, fun z => ⟨fun z2 => absurd ((nI_leI (a := 130) (by omega) (by omega)).mp z2) ?_, fun _ => ?_⟩⟩⟩
  · have z := (nI_leI (by omega) (by omega)).mp z
    rw [if_neg (show ¬ p < T.1 by omega), if_neg (by omega)] at h; exact h
  · have z : ¬ T.1 ≤ p := fun y => z ((nI_leI (by omega) (by omega)).mpr y)
    omega
  · have z : ¬ T.1 ≤ p := fun y => z ((nI_leI (by omega) (by omega)).mpr y)
    have hp2 : p < T.1 := by omega
    rw [if_pos hp2, if_pos (hT.2 p hp2)] at h
    rw [nI_cl (by omega), ht.2.2.1 p hp2]
    exact ⟨vp_in_nI (by omega) (by omega), h⟩
theorem s_X5_takes {k : Nat} {P : Bool → IT → JT → Prop} (hd : 1 ≤ d) (hk : k < 256) (hT : okTp T) (ht : TC I T p) (h1 : fl_h T p = k → ∀ I', TC I' T (p + 1) → (∀ a, a ≠ 1 → I' a = I a) → P true I' J) (h2 : fl_h T p ≠ k → P false I J) : SemZ g d M_X5_takes [.ref (ga g 1), .int (nI k)] I J P := by
  refine w_X5_takes hd ?_
  unfold VC_X5_takes
  have hl := fl_h_le (p := p) hT
  refine s_X5_here hT ht ⟨fun z => ?_, fun z => h2 (fun y => z ((fl_I_eq hl hk).mpr y))⟩
  have z := (fl_I_eq hl hk).mp z
  exact h1 z _ (ht.adv (fl_h_lt (by omega))) (fun a ha => sI_ne ha)
theorem s_X5_figureBelow {b : Nat} {P : Int32 → IT → JT → Prop} (hd : 1 ≤ d) (hb : b ≤ 10) (hT : okTp T) (ht : TC I T p) (h1 : fl_d (fl_h T p) b → P (nI (fl_h T p - 48)) I J) (h2 : ¬ fl_d (fl_h T p) b → P (-1) I J) : SemI g d M_X5_figureBelow [.ref (ga g 1), .int (nI b)] I J P := by
  refine w_X5_figureBelow hd ?_
  unfold VC_X5_figureBelow
  have hl := fl_h_le (p := p) hT
  refine s_X5_here hT ht ?_
  have ff := fl_fig (fl_h T p) (by omega)
  by_cases c : 48 ≤ fl_h T p ∧ fl_h T p < 256
  · rw [ff.1 c]
    refine ⟨fun z => absurd z (nI_pos (by omega)), fun _ => ⟨fun z => h2 (fun y => ?_), fun z => h1 ?_⟩⟩
    · have z := (nI_leI (by omega) (by omega)).mp z
      have := y.2
      omega
    · have z : ¬ b ≤ fl_h T p - 48 := fun y => z ((nI_leI (by omega) (by omega)).mpr y)
      exact ⟨c.1, by omega⟩
  · exact ⟨fun _ => h2 (fun y => c ⟨y.1, fl_d_i hb y⟩), fun z => absurd (ff.2 c) z⟩
theorem s_X5_oneOf {o : Nat} {P : Int32 → IT → JT → Prop} (hd : 6 ≤ d) (ho : o < 3) (hT : okTp T) (ht : TC I T p) (h : P (fl_x o (fl_h T p)) I J) : SemI g d M_X5_oneOf [.ref (ga g 1), .ref (gR g (3 + o))] I J P := by
  refine w_X5_oneOf ho (by omega) ?_
  unfold VC_X5_oneOf
  have hl := fl_h_le (p := p) hT
  refine s_X5_here hT ht ?_
  generalize fl_h T p = c at h hl ⊢
  by_cases hc : c < 256
  rotate_left
  · have e : c = 256 := by omega
    subst e
    rw [fl_xn o ho] at h
    exact ⟨fun z => absurd z (by decide), fun _ => h⟩
  have e1 : fl_I c = nI c := if_pos hc
  rw [e1, fl_cv c hc]
  refine ⟨fun _ => ?_, fun z => absurd (nI_pos' (by omega)) z⟩
  obtain ⟨l1, l2, l3⟩ := fl_ln o ho
  refine w_J0_indexOf_0f7a4 ho (by omega) ?_
  unfold VC_J0_indexOf_0f7a4
  refine w_J0_indexOf_7cf53 ho (by omega) ?_
  unfold VC_J0_indexOf_7cf53
  refine w_J0_isLatin1_aae02 ho ?_
  unfold VC_J0_isLatin1_aae02
  refine ⟨fun z => (by cases z), fun _ => ?_⟩
  refine w_J0_length_8abf5 ho (by omega) ?_
  unfold VC_J0_length_8abf5
  refine w_J0_coder_7d493 ho ?_
  unfold VC_J0_coder_7d493
  show SemI g (d - 1 - 1 - 1) M_J1_indexOf_4cfef [.ref (gR g (6 + o)), .int (nI c), .int 0, .int (Int32.ofNat (stN o) >>> ((0 : Int32) &&& 31))] I J P
  rw [l1]
  refine w_J1_indexOf_4cfef ho (by omega) ?_
  unfold VC_J1_indexOf_4cfef
  refine w_J1_canEncode_9a6ad ?_
  unfold VC_J1_canEncode_9a6ad
  have e0 : (if (0 : Int32) < 0 then (0 : Int32) else 0) = nI 0 := by decide
  have e2 : (if Int32.ofNat (stN o) < nI (stN o) then Int32.ofNat (stN o) else nI (stN o)) = nI (stN o) := by
    exact if_neg (nI_nlt (a := stN o) (b := stN o) (Nat.le_refl _) (by omega))
  refine ⟨fun z => absurd z (nI_pos (by omega)), fun _ => ⟨fun z => absurd ((nI_ltI (a := 255) (by omega) (by omega)).mp z) (by omega), fun _ => ⟨fun _ => ?_, fun z => (by cases z)⟩⟩⟩
  rw [e0, e2]
  refine ⟨fun _ => ?_, fun z => absurd (nI_lt l3 (by omega)) z⟩
  refine w_J1_indexOfChar_4cfef ho ?_
  unfold VC_J1_indexOfChar_4cfef
  refine upTo (Q := fun j => (∀ i, i < j → c ≠ fl_c o i) → Lp_J1_indexOfChar_4cfef_7 g (d - 1 - 1 - 1 - 1) o (nI (stN o)) ((nI c).toInt8.toInt32) (nI j) I J P) (N := stN o) (fun q => ?_) (fun j hj ih q => ?_) (fun i hi => absurd hi (by omega))
  · refine w_J1_indexOfChar_4cfef_7 ho ?_
    unfold VC_J1_indexOfChar_4cfef_7
    unfold fl_x at h
    rw [if_neg (fun z => q _ z (fl_jn o ho c hc z))] at h
    exact ⟨fun _ => h, fun z => absurd (nI_le (Nat.le_refl _) (by omega)) z⟩
  · refine w_J1_indexOfChar_4cfef_7 ho ?_
    unfold VC_J1_indexOfChar_4cfef_7
    rw [nI_cl (by omega), nI_one]
    refine ⟨fun z => absurd ((nI_leI (by omega) (by omega)).mp z) (by omega), fun _ => ⟨vp_in_nI hj (by omega), fun z => ih (fun i hi => ?_), fun z => ?_⟩⟩
    · by_cases e : i = j
      · rw [e]; exact fun y => z ((fl_st o ho j hj c hc).mpr y)
      · exact q i (by omega)
    · have z := (fl_st o ho j hj c hc).mp z
      have e : fl_j o c = j := by rw [z]; exact fl_jc o ho j hj
      unfold fl_x at h
      rw [e, if_pos hj] at h; exact h
theorem s_X5_readRow {F : NF} {P : Bool → IT → JT → Prop} (hd : 8 ≤ d) (hT : okTp T) (ht : TC I T p) (hD : FlD I F 0) (hP : okP F) (h0 : F 0 = 0) (h1 : F 1 < 6) (hN : ∀ q I', fl_row T p F = (q, none) → TC I' T q → fl_F I I' → P false I' J) (hS : ∀ q G I', fl_row T p F = (q, some G) → TC I' T q → FlD (sI I' 12 1 (nI (F 1 + 1))) G 0 → fl_F I I' → P true I' J) : SemZ g d M_X5_readRow [.ref (ga g 1), .ref (ga g 12), .int (nI (F 1))] I J P := by
  have h130 := hT.1
  have h2 := hP.2.2.1
  have ml := fl_m_le hP
  have nl := fl_n_le (T := T) (fl_m F) p
  obtain ⟨d1, d2, d3, d4, d5, d6, d7⟩ := hD
  have ex : ∀ n (I1 : IT), fl_n T (fl_m F) p = n → TC I1 T (p + n) → (∀ a, a ≠ 1 → a ≠ 13 → I1 a = I a) → (∀ c, c / 8 < F 1 → c % 8 < F 2 → I1 13 c = nI (F (3 + c))) → (∀ i, i < n → I1 13 (8 * F 1 + i) = nI (fl_s (fl_h T (p + i)))) →
      ((¬ nI (F 1) = 0 → ((nI n ≤ 0 → P false I1 J) ∧ (¬ nI n ≤ 0 → ((¬ nI n = (I1 12 2) → P false I1 J) ∧ (nI n = (I1 12 2) → P true I1 J))))) ∧ (nI (F 1) = 0 → ((nI n ≤ 0 → P false (sI I1 12 2 (nI n)) J) ∧ (¬ nI n ≤ 0 → ((¬ nI n = ((sI I1 12 2 (nI n)) 12 2) → P false (sI I1 12 2 (nI n)) J) ∧ (nI n = ((sI I1 12 2 (nI n)) 12 2) → P true (sI I1 12 2 (nI n)) J)))))) := by
    intro n I1 en t1 f1 c1 s1
    have e12 : I1 12 2 = nI (F 2) := by rw [f1 12 (by omega) (by omega)]; exact d3
    have fr : ∀ x : Int32, fl_F I (sI I1 12 2 x) := fun x a ha hb => by rw [sI_ne (by omega), f1 a ha (by omega)]
    have fr0 : fl_F I I1 := fun a ha hb => f1 a ha (by omega)
    have no : n = 0 ∨ (0 < F 1 ∧ n < F 2) → fl_row T p F = (p + n, none) := fun z => by
      rw [← en] at z ⊢; unfold fl_row; exact if_pos z
    have yes : ¬ (n = 0 ∨ (0 < F 1 ∧ n < F 2)) → fl_row T p F = (p + n, some (fl_rw T p n F)) := fun z => by
      rw [← en] at z ⊢; unfold fl_row; exact if_neg z
    have good : ∀ I2 : IT, I2 12 2 = nI n → (F 1 ≠ 0 → n = F 2) → (∀ a, a ≠ 12 → I2 a = I1 a) → FlD (sI I2 12 1 (nI (F 1 + 1))) (fl_rw T p n F) 0 := by
      intro I2 e2 e3 e4
      refine ⟨?_, ?_, ?_, fun c a b => ?_, fun s hs => ?_, fun t ht => absurd ht (by omega), ?_⟩
      · rw [sI_ne (by omega), e4 11 (by omega), f1 11 (by omega) (by omega), fl_rw_o (by omega) (by omega), fl_rp_lo (by omega)]; exact d1
      · rw [sI_at, if_pos ⟨rfl, rfl⟩]; rfl
      · rw [sI_at, if_neg (by omega), e2]; rfl
      · have a : c / 8 < F 1 + 1 := a
        have b : c % 8 < n := b
        rw [sI_ne (by omega), e4 13 (by omega), fl_rw_o (by omega) (by omega)]
        by_cases z : c / 8 < F 1
        · rw [fl_rp_lo (by omega)]
          exact c1 c z (by have := e3 (by omega); omega)
        · have ec : c = 8 * F 1 + c % 8 := by omega
          have := s1 (c % 8) b
          rw [← ec] at this
          rw [this, show 3 + c = 3 + 8 * F 1 + c % 8 from by omega, fl_rp_at b]
      · have hs : s < fl_rw T p n F 0 := hs
        rw [fl_rw_o (by omega) (by omega), fl_rp_lo (by omega), h0] at hs
        exact absurd hs (by omega)
      · rw [sI_ne (by omega), e4 11 (by omega), f1 11 (by omega) (by omega), fl_rw_o (by omega) (by omega), fl_rp_lo (by omega)]; exact d7
    have nm : n ≤ fl_m F := by omega
    rw [e12]
    refine ⟨fun z => ?_, fun z => ?_⟩
    · have z : F 1 ≠ 0 := fun y => z (by rw [y]; rfl)
      have em : fl_m F = F 2 := if_neg z
      refine ⟨fun y => hN _ I1 (no (Or.inl ?_)) t1 fr0, fun y => ⟨fun w => hN _ I1 (no (Or.inr ⟨by omega, ?_⟩)) t1 fr0, fun w => ?_⟩⟩
      · have := (nI_leI (b := 0) (by omega) (by omega)).mp y; omega
      · have w : n ≠ F 2 := fun v => w (by rw [v])
        omega
      · have w := (nI_eq (by omega) (by omega)).mp w
        have y : n ≠ 0 := fun v => y (by rw [v]; decide)
        exact hS _ _ I1 (yes (by omega)) t1 (good I1 (by rw [e12, w]) (fun _ => w) (fun _ _ => rfl)) fr0
    · have z : F 1 = 0 := (nI_eq (b := 0) (by omega) (by omega)).mp z
      refine ⟨fun y => hN _ _ (no (Or.inl ?_)) (t1.w (by omega) (by omega)) (fr _), fun y => ⟨fun w => absurd (by rw [sI_at, if_pos ⟨rfl, rfl⟩]) w, fun _ => ?_⟩⟩
      · have := (nI_leI (b := 0) (by omega) (by omega)).mp y; omega
      · have y : n ≠ 0 := fun v => y (by rw [v]; decide)
        exact hS _ _ _ (yes (by omega)) (t1.w (by omega) (by omega)) (good _ (by rw [sI_at, if_pos ⟨rfl, rfl⟩]) (fun v => absurd z v) (fun a ha => sI_ne ha)) (fr _)
  have loop : ∀ m n (I1 : IT), n + m = fl_m F → fl_n T (fl_m F) p = n + fl_n T m (p + n) → TC I1 T (p + n) → (∀ a, a ≠ 1 → a ≠ 13 → I1 a = I a) → (∀ c, c / 8 < F 1 → c % 8 < F 2 → I1 13 c = nI (F (3 + c))) → (∀ i, i < n → I1 13 (8 * F 1 + i) = nI (fl_s (fl_h T (p + i)))) → Lp_X5_readRow_17 g d 12 (nI (F 1)) (nI (fl_m F)) (nI n) I1 J P := by
    intro m
    induction m with
    | zero =>
      intro n I1 hm en t1 f1 c1 s1
      refine w_X5_readRow_17 isSea_12 (by omega) ?_
      unfold VC_X5_readRow_17
      exact ⟨fun _ => ex n I1 en t1 f1 c1 s1, fun z => absurd (nI_le (by omega) (by omega)) z⟩
    | succ m ih =>
      intro n I1 hm en t1 f1 c1 s1
      refine w_X5_readRow_17 isSea_12 (by omega) ?_
      unfold VC_X5_readRow_17
      refine ⟨fun z => absurd ((nI_leI (by omega) (by omega)).mp z) (by omega), fun _ => ?_⟩
      have en2 : fl_n T (m + 1) (p + n) = (if fl_s (fl_h T (p + n)) < 3 then 1 + fl_n T m (p + n + 1) else 0) := rfl
      rw [en2] at en
      have es : fl_x 0 (fl_h T (p + n)) = (if fl_s (fl_h T (p + n)) < 3 then nI (fl_s (fl_h T (p + n))) else -1) := rfl
      refine s_X5_oneOf (o := 0) (by omega) (by omega) hT t1 ?_
      rw [es]
      by_cases c : fl_s (fl_h T (p + n)) < 3
      · rw [if_pos c] at en es ⊢
        refine ⟨fun z => absurd z (nI_pos (by omega)), fun _ => ?_⟩
        refine s_X3_cellOf (s_X5_oneOf (o := 0) (by omega) (by omega) hT t1 ?_)
        have e8 : 8 * nI (F 1) + nI n = nI (8 * F 1 + n) := by rw [show (8 : Int32) = nI 8 from rfl, pk_mul, nI_add]
        rw [es, e8, nI_cl (n := 8 * F 1 + n) (by omega), nI_one]
        refine ⟨vp_in_nI (by omega) (by omega), ?_⟩
        have hp := fl_h_lt (fl_s_lt c)
        have t2 := (t1.w (a := 13) (j := 8 * F 1 + n) (x := nI (fl_s (fl_h T (p + n)))) (by omega) (by omega)).adv hp
        refine ih (n + 1) _ (by omega) (by rw [show p + (n + 1) = p + n + 1 from by omega]; omega) (by rw [show p + (n + 1) = p + n + 1 from by omega]; exact t2) (fun a ha hb => by rw [sI_ne ha, sI_ne hb]; exact f1 a ha hb) (fun x a b => ?_) (fun i hi => ?_)
        · rw [sI_ne (by omega), sI_at, if_neg (by omega)]; exact c1 x a b
        · rw [sI_ne (by omega), sI_at]
          by_cases y : i = n
          · rw [if_pos ⟨rfl, by omega⟩, y]
          · rw [if_neg (by omega)]; exact s1 i (by omega)
      · rw [if_neg c] at en ⊢
        exact ⟨fun _ => ex n I1 (by omega) t1 f1 c1 s1, fun z => absurd (by decide) z⟩
  refine w_X5_readRow isSea_12 ?_
  unfold VC_X5_readRow
  have go := loop (fl_m F) 0 I (by omega) (by rw [Nat.zero_add]; rfl) ht (fun _ _ _ => rfl) d4 (fun i hi => absurd hi (by omega))
  refine ⟨fun z => ?_, fun z => ?_⟩
  · have z : F 1 ≠ 0 := fun y => z (by rw [y]; rfl)
    have em : fl_m F = F 2 := if_neg z
    rw [em] at go
    rw [d3]; exact go
  · have z : F 1 = 0 := (nI_eq (b := 0) (by omega) (by omega)).mp z
    have em : fl_m F = 8 := if_pos z
    rw [em] at go
    exact go
theorem s_X5_readSea (hT : okTp T) (hd : 9 ≤ d) : ∀ m p F (I : IT) (P : Bool → IT → JT → Prop), okP F → F 0 = 0 → F 1 + m = 6 → TC I T p → FlD I F 0 → (∀ q I', fl_sea T m p F = (q, none) → TC I' T q → fl_F I I' → P false I' J) → (∀ q G I', fl_sea T m p F = (q, some G) → TC I' T q → FlD I' G 0 → fl_F I I' → P true I' J) → Lp_X5_readSea_2 g d 12 (nI (F 1)) I J P := by
  intro m
  induction m with
  | zero =>
    intro p F I P hP h0 h1 ht hD hN hS
    refine w_X5_readSea_2 isSea_12 (by omega) ?_
    unfold VC_X5_readSea_2
    exact ⟨fun _ => hN p I rfl ht (fun _ _ _ => rfl), fun z => absurd (nI_le (a := 6) (by omega) (by omega)) z⟩
  | succ m ih =>
    intro p F I P hP h0 h1 ht hD hN hS
    refine w_X5_readSea_2 isSea_12 (by omega) ?_
    unfold VC_X5_readSea_2
    rw [nI_one]
    refine ⟨fun z => absurd ((nI_leI (a := 6) (by omega) (by omega)).mp z) (by omega), fun _ => ?_⟩
    have es : fl_sea T (m + 1) p F = fl_b (fl_row T p F) (fun q G => if fl_h T q = 59 then (q + 1, some G) else if G 1 < 6 ∧ fl_h T q = 47 then fl_sea T m (q + 1) G else (q, none)) := rfl
    rw [es] at hN hS
    refine s_X5_readRow (by omega) hT ht hD hP h0 (by omega) (fun q I1 e t1 f1 => ⟨fun z => (by cases z), fun _ => ?_⟩) (fun q G I1 e t1 D1 f1 => ⟨fun _ => ?_, fun z => (by cases z)⟩)
    · rw [e] at hN
      exact hN q I1 rfl t1 f1
    · rw [e, fl_b_s] at hN hS
      obtain ⟨a1, a2, a3, -⟩ := fl_row_ok hP h0 (by omega) e
      have fr : fl_F I (sI I1 12 1 (nI (F 1 + 1))) := fun a ha hb => by rw [sI_ne (by omega)]; exact f1 a ha hb
      refine s_X5_takes (k := 59) (by omega) (by omega) hT (t1.w (by omega) (by omega)) (fun c I2 t2 f2 => ⟨fun z => (by cases z), fun _ => ?_⟩) (fun c => ⟨fun _ => ⟨fun z => ?_, fun z => ?_⟩, fun z => (by cases z)⟩)
      · rw [if_pos c] at hS
        exact hS (q + 1) G I2 rfl t2 (D1.cg (fun a ha hb => f2 a (by omega))) (fun a ha hb => by rw [f2 a ha]; exact fr a ha hb)
      · have z := (nI_leI (a := 6) (by omega) (by omega)).mp z
        rw [if_neg c, if_neg (by omega)] at hN
        exact hN q _ rfl (t1.w (by omega) (by omega)) fr
      · have z : ¬ 6 ≤ F 1 + 1 := fun y => z (nI_le (a := 6) y (by omega))
        rw [if_neg c] at hN hS
        refine s_X5_takes (k := 47) (by omega) (by omega) hT (t1.w (by omega) (by omega)) (fun c2 I2 t2 f2 => ⟨fun _ => ?_, fun z => (by cases z)⟩) (fun c2 => ⟨fun z => (by cases z), fun _ => ?_⟩)
        · rw [if_pos ⟨by omega, c2⟩] at hN hS
          have fr2 : fl_F I I2 := fun a ha hb => by rw [f2 a ha]; exact fr a ha hb
          have := ih (q + 1) G I2 P a1 a2 (by omega) t2 (D1.cg (fun a ha hb => f2 a (by omega))) (fun q I3 e3 t3 f3 => hN q I3 e3 t3 (fun a ha hb => by rw [f3 a ha hb]; exact fr2 a ha hb)) (fun q G I3 e3 t3 D3 f3 => hS q G I3 e3 t3 D3 (fun a ha hb => by rw [f3 a ha hb]; exact fr2 a ha hb))
          rw [a3] at this
          exact this
        · rw [if_neg (fun y => c2 y.2)] at hN
          exact hN q _ rfl (t1.w (by omega) (by omega)) fr
theorem s_X5_readShip {F : NF} {P : Bool → IT → JT → Prop} (hd : 9 ≤ d) (hT : okTp T) (ht : TC I T p) (hD : FlD I F 0) (hP : okP F) (h0 : F 0 < 6) (hN : ∀ q I', fl_ship T p F = (q, none) → TC I' T q → fl_F I I' → P false I' J) (hS : ∀ I', fl_ship T p F = (p + 5, some (fl_sh T p F)) → TC I' T (p + 5) → FlD (sI I' 11 6 (nI (F 0 + 1))) (fl_sh T p F) 0 → fl_F I I' → P true I' J) : SemZ g d M_X5_readShip [.ref (ga g 1), .ref (ga g 11), .int (nI (F 0))] I J P := by
  have h130 := hT.1
  have h1 := hP.2.1
  have h2 := hP.2.2.1
  obtain ⟨d1, d2, d3, d4, d5, d6, d7⟩ := hD
  have v6 : vp_in (nI (F 0)) 6 := vp_in_nI h0 (by omega)
  unfold fl_ship at hN hS
  refine w_X5_readShip isF_11 (by omega) ?_
  unfold VC_X5_readShip
  rw [nI_cl (n := F 0) (by omega)]
  refine s_X5_oneOf (o := 1) (by omega) (by omega) hT ht ?_
  have k5 := fl_k_le (fl_h T p)
  by_cases c1 : fl_k (fl_h T p) = 0
  · have e : fl_x 1 (fl_h T p) = -1 := by
      have e5 : fl_j 1 (fl_h T p) = 5 := if_pos c1
      unfold fl_x; rw [e5]; rfl
    rw [e]
    rw [if_pos c1] at hN
    exact ⟨fun z => absurd z (by decide), fun _ => hN p I rfl ht (fun _ _ _ => rfl)⟩
  rw [if_neg c1] at hN hS
  have e : fl_x 1 (fl_h T p) = nI (fl_k (fl_h T p) - 1) := by
    have e5 : fl_j 1 (fl_h T p) = fl_k (fl_h T p) - 1 := if_neg c1
    unfold fl_x; rw [e5, if_pos (show fl_k (fl_h T p) - 1 < stN 1 by show fl_k (fl_h T p) - 1 < 5; omega)]
  rw [e, show (1 : Int32) + nI (fl_k (fl_h T p) - 1) = nI (fl_k (fl_h T p)) from by rw [show (1 : Int32) = nI 1 from rfl, nI_add]; congr 1; omega]
  have p0 := fl_h_lt (fl_k_lt c1)
  refine ⟨fun _ => ⟨v6, ?_⟩, fun z => absurd (nI_pos' (by omega)) z⟩
  -- behind the letter
  have t1 := (ht.adv p0).w (a := 14) (j := F 0) (x := nI (fl_k (fl_h T p))) (by omega) (by omega)
  have f1 : ∀ a, a ≠ 1 → a ≠ 14 → sI (sI I 1 2 (I 1 2 + 1)) 14 (F 0) (nI (fl_k (fl_h T p))) a = I a := fun a ha hb => by rw [sI_ne hb, sI_ne ha]
  have g1 : ∀ j, sI (sI I 1 2 (I 1 2 + 1)) 14 (F 0) (nI (fl_k (fl_h T p))) 14 j = if j = F 0 then nI (fl_k (fl_h T p)) else I 14 j := fun j => by
    rw [sI_at, sI_ne (by omega)]
    by_cases z : j = F 0
    · rw [if_pos ⟨rfl, z⟩, if_pos z]
    · rw [if_neg (fun y => z y.2), if_neg z]
  generalize sI (sI I 1 2 (I 1 2 + 1)) 14 (F 0) (nI (fl_k (fl_h T p))) = I1 at t1 f1 g1 ⊢
  -- the cell
  refine w_X5_readCell isF_11 (by omega) ?_
  unfold VC_X5_readCell
  rw [show I1 (11 + 1) 1 = nI (F 1) from by rw [f1 12 (by omega) (by omega)]; exact d2]
  refine s_X5_figureBelow (by omega) (by omega) hT t1 (fun c2 => ?_) (fun c2 => ⟨fun z => absurd z (by decide), fun _ => ⟨fun z => (by cases z), fun _ => ?_⟩⟩)
  rotate_left
  · rw [if_pos c2] at hN
    exact hN (p + 1) I1 rfl t1 (fun a ha hb => f1 a ha (by omega))
  rw [if_neg (fun z => z c2)] at hN hS
  have p1 := fl_h_lt (fl_d_i (b := F 1) (by omega) c2)
  have q2 := c2.2
  refine ⟨fun _ => ?_, fun z => absurd (nI_pos' (by omega)) z⟩
  have t2 := t1.adv p1
  have f2 : ∀ a, a ≠ 1 → sI I1 1 2 (I1 1 2 + 1) a = I1 a := fun a ha => sI_ne ha
  generalize sI I1 1 2 (I1 1 2 + 1) = I2 at t2 f2 ⊢
  rw [show I2 (11 + 1) 2 = nI (F 2) from by rw [f2 12 (by omega), f1 12 (by omega) (by omega)]; exact d3]
  have r2 : fl_F I I2 := fun a ha hb => by rw [f2 a ha]; exact f1 a ha (by omega)
  refine s_X5_figureBelow (by omega) (by omega) hT t2 (fun c3 => ?_) (fun c3 => ⟨fun _ => ⟨fun z => (by cases z), fun _ => ?_⟩, fun z => absurd (by decide) z⟩)
  rotate_left
  · rw [if_pos (fun z => c3 z.1)] at hN
    exact hN (p + 2) I2 rfl t2 r2
  have p2 := fl_h_lt (fl_d_i (b := F 2) (by omega) c3)
  have q3 := c3.2
  have s2 := c2.1
  have s3 := c3.1
  refine ⟨fun z => absurd z (nI_pos (by omega)), fun _ => s_X3_cellOf ?_⟩
  have e8 : 8 * nI (fl_h T (p + 1) - 48) + nI (fl_h T (p + 1 + 1) - 48) = nI (8 * (fl_h T (p + 1) - 48) + (fl_h T (p + 2) - 48)) := by rw [show (8 : Int32) = nI 8 from rfl, pk_mul, nI_add]
  rw [e8]
  have SE : SeaC I2 12 F := ⟨by rw [f2 12 (by omega), f1 12 (by omega) (by omega)]; exact d2, by rw [f2 12 (by omega), f1 12 (by omega) (by omega)]; exact d3, fun c a b => by rw [f2 (12 + 1) (by omega), f1 (12 + 1) (by omega) (by omega)]; exact d4 c a b⟩
  have c3' : fl_d (fl_h T (p + 2)) (F 2) := c3
  have q3' := c3'.2
  have s3' := c3'.1
  refine s_X3_at (by omega) isSea_12 SE hP.W ?_
  rw [cOK_i (by omega), if_pos (decide_eq_true (by omega)), nI_cl (by omega)]
  have cl := hP.2.2.2.2.2 (8 * (fl_h T (p + 1) - 48) + (fl_h T (p + 2) - 48)) (by omega)
  refine ⟨fun z => ?_, fun z => ⟨fun y => (by cases y), fun _ => ?_⟩⟩
  rotate_left
  · have z := (nI_eq (b := 1) (by omega) (by omega)).mp z
    rw [if_pos (fun y => y.2 z)] at hN
    exact hN (p + 2) I2 rfl t2 r2
  have z : F (3 + (8 * (fl_h T (p + 1) - 48) + (fl_h T (p + 2) - 48))) ≠ 1 := fun y => z (by rw [y]; rfl)
  rw [if_neg (fun y => y ⟨c3', z⟩)] at hN hS
  refine s_X3_cellOf ?_
  rw [e8]
  have t3 := (t2.adv p2).w (a := 11 + 4) (j := F 0) (x := nI (8 * (fl_h T (p + 1) - 48) + (fl_h T (p + 2) - 48))) (by omega) (by omega)
  have f3 : ∀ a, a ≠ 1 → a ≠ 15 → sI (sI I2 1 2 (I2 1 2 + 1)) (11 + 4) (F 0) (nI (8 * (fl_h T (p + 1) - 48) + (fl_h T (p + 2) - 48))) a = I2 a := fun a ha hb => by rw [sI_ne (by omega), sI_ne ha]
  have g3 : ∀ j, sI (sI I2 1 2 (I2 1 2 + 1)) (11 + 4) (F 0) (nI (8 * (fl_h T (p + 1) - 48) + (fl_h T (p + 2) - 48))) 15 j = if j = F 0 then nI (8 * (fl_h T (p + 1) - 48) + (fl_h T (p + 2) - 48)) else I2 15 j := fun j => by
    rw [sI_at, sI_ne (by omega)]
    by_cases y : j = F 0
    · rw [if_pos ⟨rfl, y⟩, if_pos y]
    · rw [if_neg (fun w => y w.2), if_neg y]
  refine ⟨v6, ?_⟩
  rw [nI_cl (n := F 0) (by omega)]
  generalize sI (sI I2 1 2 (I2 1 2 + 1)) (11 + 4) (F 0) (nI (8 * (fl_h T (p + 1) - 48) + (fl_h T (p + 2) - 48))) = I3 at t3 f3 g3 ⊢
  have r3 : fl_F I I3 := fun a ha hb => by rw [f3 a ha (by omega)]; exact r2 a ha hb
  -- where she is looking
  refine ⟨fun _ => ?_, fun y => (by cases y)⟩
  refine s_X5_oneOf (o := 2) (by omega) (by omega) hT t3 ?_
  have el : fl_x 2 (fl_h T (p + 1 + 1 + 1)) = (if fl_l (fl_h T (p + 3)) < 4 then nI (fl_l (fl_h T (p + 3))) else -1) := rfl
  rw [el]
  by_cases c4 : fl_l (fl_h T (p + 3)) < 4
  rotate_left
  · rw [if_neg c4]
    rw [if_pos c4] at hN
    exact ⟨fun y => absurd y (by decide), fun _ => hN (p + 3) I3 rfl t3 r3⟩
  rw [if_pos c4]
  rw [if_neg (fun y => y c4)] at hN hS
  have p3 : p + 1 + 1 + 1 < T.1 := fl_h_lt (p := p + 3) (fl_l_lt c4)
  refine ⟨fun _ => ⟨v6, ?_⟩, fun y => absurd (nI_pos' (by omega)) y⟩
  have t4 := (t3.adv p3).w (a := 11 + 5) (j := F 0) (x := nI (fl_l (fl_h T (p + 3)))) (by omega) (by omega)
  have f4 : ∀ a, a ≠ 1 → a ≠ 16 → sI (sI I3 1 2 (I3 1 2 + 1)) (11 + 5) (F 0) (nI (fl_l (fl_h T (p + 3)))) a = I3 a := fun a ha hb => by rw [sI_ne (by omega), sI_ne ha]
  have g4 : ∀ j, sI (sI I3 1 2 (I3 1 2 + 1)) (11 + 5) (F 0) (nI (fl_l (fl_h T (p + 3)))) 16 j = if j = F 0 then nI (fl_l (fl_h T (p + 3))) else I3 16 j := fun j => by
    rw [sI_at, sI_ne (by omega)]
    by_cases y : j = F 0
    · rw [if_pos ⟨rfl, y⟩, if_pos y]
    · rw [if_neg (fun w => y w.2), if_neg y]
  generalize sI (sI I3 1 2 (I3 1 2 + 1)) (11 + 5) (F 0) (nI (fl_l (fl_h T (p + 3)))) = I4 at t4 f4 g4 ⊢
  have r4 : fl_F I I4 := fun a ha hb => by rw [f4 a ha (by omega)]; exact r3 a ha hb
  -- worm
  refine s_X5_figureBelow (b := 6) (by omega) (by omega) hT t4 (fun c5 => ?_) (fun c5 => ⟨fun y => absurd y (by decide), fun _ => ?_⟩)
  rotate_left
  · rw [if_pos (show ¬ fl_d (fl_h T (p + 4)) 6 from c5)] at hN
    exact hN (p + 4) I4 rfl t4 r4
  have c5' : fl_d (fl_h T (p + 4)) 6 := c5
  rw [if_neg (fun y => y c5')] at hS
  have p4 : p + 1 + 1 + 1 + 1 < T.1 := fl_h_lt (p := p + 4) (fl_d_i (b := 6) (by omega) c5')
  have q5 := c5'.2
  refine ⟨fun _ => ⟨v6, ?_⟩, fun y => absurd (nI_pos' (by omega)) y⟩
  have t5 := (t4.adv p4).w (a := 11 + 6) (j := F 0) (x := nI (fl_h T (p + 4) - 48)) (by omega) (by omega)
  have f5 : ∀ a, a ≠ 1 → a ≠ 17 → sI (sI I4 1 2 (I4 1 2 + 1)) (11 + 6) (F 0) (nI (fl_h T (p + 4) - 48)) a = I4 a := fun a ha hb => by rw [sI_ne (by omega), sI_ne ha]
  have g5 : ∀ j, sI (sI I4 1 2 (I4 1 2 + 1)) (11 + 6) (F 0) (nI (fl_h T (p + 4) - 48)) 17 j = if j = F 0 then nI (fl_h T (p + 4) - 48) else I4 17 j := fun j => by
    rw [sI_at, sI_ne (by omega)]
    by_cases y : j = F 0
    · rw [if_pos ⟨rfl, y⟩, if_pos y]
    · rw [if_neg (fun w => y w.2), if_neg y]
  refine hS (sI (sI I4 1 2 (I4 1 2 + 1)) (11 + 6) (F 0) (nI (fl_h T (p + 4) - 48))) rfl t5 ?_ (fun a ha hb => by rw [f5 a ha (by omega)]; exact r4 a ha hb)
  generalize sI (sI I4 1 2 (I4 1 2 + 1)) (11 + 6) (F 0) (nI (fl_h T (p + 4) - 48)) = I5 at f5 g5 ⊢
  have all : ∀ a, a ≠ 1 → a ≠ 14 → a ≠ 15 → a ≠ 16 → a ≠ 17 → I5 a = I a := fun a w1 w2 w3 w4 w5 => by rw [f5 a w1 w5, f4 a w1 w4, f3 a w1 w3, f2 a w1, f1 a w1 w2]
  have k14 : I5 14 = I1 14 := by rw [f5 14 (by omega) (by omega), f4 14 (by omega) (by omega), f3 14 (by omega) (by omega), f2 14 (by omega)]
  have k15 : I5 15 = I3 15 := by rw [f5 15 (by omega) (by omega), f4 15 (by omega) (by omega)]
  have k15b : I2 15 = I 15 := by rw [f2 15 (by omega), f1 15 (by omega) (by omega)]
  have k16 : I5 16 = I4 16 := by rw [f5 16 (by omega) (by omega)]
  have k16b : I3 16 = I 16 := by rw [f3 16 (by omega) (by omega), f2 16 (by omega), f1 16 (by omega) (by omega)]
  have k17b : I4 17 = I 17 := by rw [f4 17 (by omega) (by omega), f3 17 (by omega) (by omega), f2 17 (by omega), f1 17 (by omega) (by omega)]
  refine ⟨?_, ?_, ?_, fun c a b => ?_, fun s hs => ?_, fun t ht => absurd ht (by omega), ?_⟩
  · rw [sI_at, if_pos ⟨rfl, rfl⟩]; rfl
  · rw [sI_ne (by omega), all 12 (by omega) (by omega) (by omega) (by omega) (by omega), fl_sh_o (by omega) (by omega) (by omega) (by omega) (by omega)]; exact d2
  · rw [sI_ne (by omega), all 12 (by omega) (by omega) (by omega) (by omega) (by omega), fl_sh_o (by omega) (by omega) (by omega) (by omega) (by omega)]; exact d3
  · rw [fl_sh_o (by omega) (by omega) (by omega) (by omega) (by omega)] at a b
    rw [sI_ne (by omega), all 13 (by omega) (by omega) (by omega) (by omega) (by omega), fl_sh_o (by omega) (by omega) (by omega) (by omega) (by omega)]; exact d4 c a b
  · rw [fl_sh_0] at hs
    rw [sI_ne (by omega), sI_ne (by omega), sI_ne (by omega), sI_ne (by omega), k14, k15, k16, g1, g3, g4, g5, k15b, k16b, k17b]
    by_cases y : s = F 0
    · rw [if_pos y, if_pos y, if_pos y, if_pos y, y, fl_sh_k, fl_sh_c, fl_sh_l, fl_sh_w]
      exact ⟨rfl, rfl, rfl, rfl⟩
    · rw [if_neg y, if_neg y, if_neg y, if_neg y, fl_sh_o (by omega) (by omega) (by omega) (by omega) (by omega), fl_sh_o (by omega) (by omega) (by omega) (by omega) (by omega), fl_sh_o (by omega) (by omega) (by omega) (by omega) (by omega), fl_sh_o (by omega) (by omega) (by omega) (by omega) (by omega)]
      exact d5 s (by omega)
  · rw [sI_at, if_neg (by omega), all 11 (by omega) (by omega) (by omega) (by omega) (by omega), fl_sh_o (by omega) (by omega) (by omega) (by omega) (by omega)]; exact d7
theorem s_X5_readShips (hT : okTp T) (hd : 10 ≤ d) : ∀ m p F (I : IT) (P : Bool → IT → JT → Prop), okP F → F 0 + m = 6 → TC I T p → FlD I F 0 → (∀ q I', fl_ships T m p F = (q, none) → TC I' T q → fl_F I I' → P false I' J) → (∀ q G I', fl_ships T m p F = (q, some G) → TC I' T q → FlD I' G 0 → fl_F I I' → P true I' J) → Lp_X5_readShips_2 g d 11 (nI (F 0)) I J P := by
  intro m
  induction m with
  | zero =>
    intro p F I P hP h1 ht hD hN hS
    refine w_X5_readShips_2 isF_11 (by omega) ?_
    unfold VC_X5_readShips_2
    exact ⟨fun _ => hN p I rfl ht (fun _ _ _ => rfl), fun z => absurd (nI_le (a := 6) (by omega) (by omega)) z⟩
  | succ m ih =>
    intro p F I P hP h1 ht hD hN hS
    refine w_X5_readShips_2 isF_11 (by omega) ?_
    unfold VC_X5_readShips_2
    rw [nI_one]
    refine ⟨fun z => absurd ((nI_leI (a := 6) (by omega) (by omega)).mp z) (by omega), fun _ => ?_⟩
    have es : fl_ships T (m + 1) p F = fl_b (fl_ship T p F) (fun q G => if fl_h T q = 59 then (q + 1, some G) else if G 0 < 6 ∧ fl_h T q = 44 then fl_ships T m (q + 1) G else (q, none)) := rfl
    rw [es] at hN hS
    refine s_X5_readShip (by omega) hT ht hD hP (by omega) (fun q I1 e t1 f1 => ⟨fun z => (by cases z), fun _ => ?_⟩) (fun I1 e t1 D1 f1 => ⟨fun _ => ?_, fun z => (by cases z)⟩)
    · rw [e] at hN
      exact hN q I1 rfl t1 f1
    · rw [e, fl_b_s] at hN hS
      obtain ⟨a1, a3⟩ := fl_ship_ok hP (by omega) e
      have fr : fl_F I (sI I1 11 6 (nI (F 0 + 1))) := fun a ha hb => by rw [sI_ne (by omega)]; exact f1 a ha hb
      refine s_X5_takes (k := 59) (by omega) (by omega) hT (t1.w (by omega) (by omega)) (fun c I2 t2 f2 => ⟨fun z => (by cases z), fun _ => ?_⟩) (fun c => ⟨fun _ => ⟨fun z => ?_, fun z => ?_⟩, fun z => (by cases z)⟩)
      · rw [if_pos c] at hS
        exact hS (p + 5 + 1) (fl_sh T p F) I2 rfl t2 (D1.cg (fun a ha hb => f2 a (by omega))) (fun a ha hb => by rw [f2 a ha]; exact fr a ha hb)
      · have z := (nI_leI (a := 6) (by omega) (by omega)).mp z
        rw [if_neg c, if_neg (by omega)] at hN
        exact hN (p + 5) _ rfl (t1.w (by omega) (by omega)) fr
      · have z : ¬ 6 ≤ F 0 + 1 := fun y => z (nI_le (a := 6) y (by omega))
        rw [if_neg c] at hN hS
        refine s_X5_takes (k := 44) (by omega) (by omega) hT (t1.w (by omega) (by omega)) (fun c2 I2 t2 f2 => ⟨fun _ => ?_, fun z => (by cases z)⟩) (fun c2 => ⟨fun z => (by cases z), fun _ => ?_⟩)
        · rw [if_pos ⟨by omega, c2⟩] at hN hS
          have fr2 : fl_F I I2 := fun a ha hb => by rw [f2 a ha]; exact fr a ha hb
          have := ih (p + 5 + 1) (fl_sh T p F) I2 P a1 (by omega) t2 (D1.cg (fun a ha hb => f2 a (by omega))) (fun q I3 e3 t3 f3 => hN q I3 e3 t3 (fun a ha hb => by rw [f3 a ha hb]; exact fr2 a ha hb)) (fun q G I3 e3 t3 D3 f3 => hS q G I3 e3 t3 D3 (fun a ha hb => by rw [f3 a ha hb]; exact fr2 a ha hb))
          rw [a3] at this
          exact this
        · rw [if_neg (fun y => c2 y.2)] at hN
          exact hN (p + 5) _ rfl (t1.w (by omega) (by omega)) fr
theorem s_X5_readCredit (hT : okTp T) (hd : 3 ≤ d) : ∀ m p F (I : IT) (P : Bool → IT → JT → Prop), m ≤ 4 → TC I T p → FlD I F (4 - m) → F 0 ≤ 6 → F 1 ≤ 6 → (∀ q I', fl_cr T m p F = (q, none) → TC I' T q → fl_F I I' → P false I' J) → (∀ q G I', fl_cr T m p F = (q, some G) → TC I' T q → FlD I' G 4 → fl_F I I' → P true I' J) → Lp_X5_readCredit_2 g d 11 (nI (4 - m)) I J P := by
  intro m
  induction m with
  | zero =>
    intro p F I P _ ht hD _ _ hN hS
    refine w_X5_readCredit_2 isF_11 (by omega) ?_
    unfold VC_X5_readCredit_2
    exact ⟨fun _ => hS p F I rfl ht hD (fun _ _ _ => rfl), fun z => absurd (nI_le (Nat.le_refl 4) (by omega)) z⟩
  | succ m ih =>
    intro p F I P hm ht hD h6 h61 hN hS
    refine w_X5_readCredit_2 isF_11 (by omega) ?_
    unfold VC_X5_readCredit_2
    rw [show 4 - (m + 1) = 3 - m from by omega] at hD ⊢
    have es : fl_cr T (m + 1) p F = (if fl_d (fl_h T p) 10 then fl_cr T m (p + 1) (fl_cw F (3 - m) (fl_h T p - 48)) else (p, none)) := rfl
    rw [es] at hN hS
    refine ⟨fun z => absurd ((nI_leI (a := 4) (by omega) (by omega)).mp z) (by omega), fun _ => ?_⟩
    refine s_X5_figureBelow (b := 10) (by omega) (by omega) hT ht (fun c => ?_) (fun c => ⟨fun z => absurd z (by decide), fun _ => ?_⟩)
    · rw [if_pos c] at hN hS
      have q2 := c.2
      have p0 := fl_h_lt (fl_d_i (b := 10) (by omega) c)
      rw [nI_one, nI_cl (n := 3 - m) (by omega), show 3 - m + 1 = 4 - m from by omega]
      have t1 := (ht.adv p0).w (a := 11 + 7) (j := 3 - m) (x := nI (fl_h T p - 48)) (by omega) (by omega)
      have fr : fl_F I (sI (sI I 1 2 (I 1 2 + 1)) (11 + 7) (3 - m) (nI (fl_h T p - 48))) := fun a ha hb => by rw [sI_ne (by omega), sI_ne ha]
      obtain ⟨d1, d2, d3, d4, d5, d6, d7⟩ := hD
      refine ⟨fun _ => ⟨vp_in_nI (by omega) (by omega), ih (p + 1) _ _ P (by omega) t1 ⟨?_, ?_, ?_, fun x a b => ?_, fun s hs => ?_, fun t ht => ?_, ?_⟩ (by rw [fl_cw_o (by omega)]; exact h6) (by rw [fl_cw_o (by omega)]; exact h61) (fun q I3 e3 t3 f3 => hN q I3 e3 t3 (fun a ha hb => by rw [f3 a ha hb]; exact fr a ha hb)) (fun q G I3 e3 t3 D3 f3 => hS q G I3 e3 t3 D3 (fun a ha hb => by rw [f3 a ha hb]; exact fr a ha hb))⟩, fun z => absurd (nI_pos' (by omega)) z⟩
      · rw [sI_ne (by omega), sI_ne (by omega), fl_cw_o (by omega)]; exact d1
      · rw [sI_ne (by omega), sI_ne (by omega), fl_cw_o (by omega)]; exact d2
      · rw [sI_ne (by omega), sI_ne (by omega), fl_cw_o (by omega)]; exact d3
      · rw [fl_cw_o (by omega)] at a b
        rw [sI_ne (by omega), sI_ne (by omega), fl_cw_o (by omega)]; exact d4 x a b
      · rw [fl_cw_o (by omega)] at hs
        rw [sI_ne (by omega), sI_ne (by omega), sI_ne (by omega), sI_ne (by omega), sI_ne (by omega), sI_ne (by omega), sI_ne (by omega), sI_ne (by omega), fl_cw_o (by omega), fl_cw_o (by omega), fl_cw_o (by omega), fl_cw_o (by omega)]; exact d5 s hs
      · rw [sI_at]
        by_cases y : t = 3 - m
        · rw [if_pos ⟨rfl, y⟩, y, fl_cw_e]
        · rw [if_neg (fun w => y w.2), sI_ne (by omega), fl_cw_o (by omega)]; exact d6 t (by omega)
      · rw [sI_ne (by omega), sI_ne (by omega), fl_cw_o (by omega)]; exact d7
    · rw [if_neg c] at hN
      exact hN p I rfl ht (fun _ _ _ => rfl)
theorem s_X5_readFleet {P : Bool → IT → JT → Prop} (hd : 12 ≤ d) (hT : okTp T) (h11 : I 1 1 = nI T.1) (hb : ∀ j, j < T.1 → I 2 j = nI (T.2 j)) (hN : ∀ q I', fl_all T = (q, none) → TC I' T q → fl_F I I' → P false I' J) (hS : ∀ q G I', fl_all T = (q, some G) → TC I' T q → FlC I' 11 G → fl_F I I' → P true I' J) : SemZ g d M_X5_readFleet [.ref (ga g 1), .ref (ga g 11)] I J P := by
  refine w_X5_readFleet isF_11 (by omega) ?_
  unfold VC_X5_readFleet
  refine w_X2_empty isF_11 (by omega) ?_
  unfold VC_X2_empty
  refine w_X3_empty isSea_12 ?_
  unfold VC_X3_empty
  show SemZ g (d - 1) M_X5_takes [.ref (ga g 1), .int 102] (sI (sI (sI (sI (sI I 1 2 0) 12 1 0) 12 2 0) 11 6 0) 11 7 0) J _
  have t0 : TC (sI (sI (sI (sI (sI I 1 2 0) 12 1 0) 12 2 0) 11 6 0) 11 7 0) T 0 := by
    refine TC.w (TC.w (TC.w (TC.w ⟨Nat.zero_le _, ?_, fun j hj => ?_, ?_⟩ (by omega) (by omega)) (by omega) (by omega)) (by omega) (by omega)) (by omega) (by omega)
    · rw [sI_at, if_neg (by omega)]; exact h11
    · rw [sI_ne (by omega)]; exact hb j hj
    · rw [sI_at, if_pos ⟨rfl, rfl⟩]; rfl
  have D0 : FlD (sI (sI (sI (sI (sI I 1 2 0) 12 1 0) 12 2 0) 11 6 0) 11 7 0) (fun _ => 0) 0 := by
    refine ⟨?_, ?_, ?_, fun c a _ => absurd a (Nat.not_lt_zero _), fun s hs => absurd hs (Nat.not_lt_zero s), fun t ht => absurd ht (by omega), ?_⟩
    · rw [sI_at, if_neg (by omega), sI_at, if_pos ⟨rfl, rfl⟩]; rfl
    · rw [sI_ne (by omega), sI_ne (by omega), sI_at, if_neg (by omega), sI_at, if_pos ⟨rfl, rfl⟩]; rfl
    · rw [sI_ne (by omega), sI_ne (by omega), sI_at, if_pos ⟨rfl, rfl⟩]; rfl
    · rw [sI_at, if_pos ⟨rfl, rfl⟩]; rfl
  have f0 : fl_F I (sI (sI (sI (sI (sI I 1 2 0) 12 1 0) 12 2 0) 11 6 0) 11 7 0) := fun a ha hb => by rw [sI_ne (by omega), sI_ne (by omega), sI_ne (by omega), sI_ne (by omega), sI_ne ha]
  generalize sI (sI (sI (sI (sI I 1 2 0) 12 1 0) 12 2 0) 11 6 0) 11 7 0 = I0' at t0 D0 f0 ⊢
  unfold fl_all at hN hS
  refine s_X5_takes (k := 102) (by omega) (by omega) hT t0 (fun c I1 t1 f1 => ⟨fun z => (by cases z), fun _ => ?_⟩) (fun c => ⟨fun _ => ?_, fun z => (by cases z)⟩)
  rotate_left
  · rw [if_neg c] at hN
    exact hN 0 I0' rfl t0 f0
  rw [if_pos c] at hN hS
  have r1 : fl_F I I1 := fun a ha hb => by rw [f1 a ha]; exact f0 a ha hb
  refine w_X5_readSea isSea_12 ?_
  unfold VC_X5_readSea
  refine s_X5_readSea hT (by omega) 6 1 (fun _ => 0) I1 _ okP0 rfl rfl t1 (D0.cg (fun a ha hb => f1 a (by omega))) (fun q I2 e t2 f2 => ⟨fun _ => ?_, fun z => (by cases z)⟩) (fun q G I2 e t2 D2 f2 => ⟨fun z => (by cases z), fun _ => ?_⟩)
  · rw [e] at hN
    exact hN q I2 rfl t2 (fun a ha hb => by rw [f2 a ha hb]; exact r1 a ha hb)
  obtain ⟨a1, a2⟩ := fl_sea_ok 6 1 (fun _ => 0) q G okP0 rfl rfl e
  rw [e, fl_b_s] at hN hS
  have r2 : fl_F I I2 := fun a ha hb => by rw [f2 a ha hb]; exact r1 a ha hb
  refine w_X5_readShips isF_11 ?_
  unfold VC_X5_readShips
  have sh := fun (P : Bool → IT → JT → Prop) => s_X5_readShips (g := g) (J := J) hT (show 10 ≤ d - 1 by omega) 6 q G I2 P a1 (by omega) t2 D2
  rw [a2] at sh
  refine sh _ (fun q2 I3 e3 t3 f3 => ⟨fun _ => ?_, fun z => (by cases z)⟩) (fun q2 H I3 e3 t3 D3 f3 => ⟨fun z => (by cases z), fun _ => ?_⟩)
  · rw [e3] at hN
    exact hN q2 I3 rfl t3 (fun a ha hb => by rw [f3 a ha hb]; exact r2 a ha hb)
  obtain ⟨b1, b2⟩ := fl_ships_ok 6 q G q2 H a1 (by omega) e3
  rw [e3, fl_b_s] at hN hS
  have r3 : fl_F I I3 := fun a ha hb => by rw [f3 a ha hb]; exact r2 a ha hb
  refine w_X5_readCredit isF_11 ?_
  unfold VC_X5_readCredit
  refine s_X5_readCredit hT (by omega) 4 q2 H I3 _ (Nat.le_refl 4) t3 D3 b1.1 b1.2.1 (fun q3 I4 e4 t4 f4 => ⟨fun _ => ?_, fun z => (by cases z)⟩) (fun q3 K I4 e4 t4 D4 f4 => ⟨fun z => (by cases z), fun _ => ?_⟩)
  · rw [e4] at hN
    exact hN q3 I4 rfl t4 (fun a ha hb => by rw [f4 a ha hb]; exact r3 a ha hb)
  rw [e4, fl_b_s] at hN hS
  have r4 : fl_F I I4 := fun a ha hb => by rw [f4 a ha hb]; exact r3 a ha hb
  have h130 := hT.1
  have l4 := t4.1
  rw [t4.2.1, t4.2.2.2]
  refine ⟨fun z => ?_, fun z => ?_⟩
  · rw [if_neg (fun y => z (by rw [y]))] at hN
    exact hN q3 I4 rfl t4 r4
  · rw [if_pos ((nI_eq (by omega) (by omega)).mp z)] at hS
    exact hS q3 K I4 rfl t4 D4 r4
end FLC
