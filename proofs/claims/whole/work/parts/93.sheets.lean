-- ===== sheets =====
theorem RelC.sheets {I I' : IT} {J J' : JT} {σ : ST} {S : Nat → Bool × Nat × Nat} {X : Nat → Nat → Int64} (h : RelC I J σ) (hS : RcS I' J' S X) (e : ∀ a, a < 110 → I' a = I a) : RelC I' J' (sF σ, sG0 σ, sG1 σ, sA σ, sT σ, S, X) := by
  obtain ⟨h1, h2, h3, h4, h5, h6⟩ := h
  refine ⟨?_, h2.cg (fun a _ _ => e a (by omega)), h3.cg (fun a _ _ => e a (by omega)), h4.cg (fun a _ _ => e a (by omega)), h5.cg (fun a _ _ => e a (by omega)), hS⟩
  unfold RcT; rw [e 1 (by omega), e 2 (by omega)]; exact h1
theorem RelM.sheets {I I' : IT} {J J' : JT} {σ : ST} {S : Nat → Bool × Nat × Nat} {X : Nat → Nat → Int64} (h : RelM I J σ) (hS : RmS I' J' S X) (e : ∀ a, a ≠ 122 → a ≠ 123 → I' a = I a) : RelM I' J' (sF σ, sG0 σ, sG1 σ, sA σ, sT σ, S, X) := by
  obtain ⟨h1, h2, h3, h4, h5, h6⟩ := h
  have e9 := e 119 (by omega) (by omega)
  have e8 := e 118 (by omega) (by omega)
  refine ⟨?_, fun j hj => by rw [e9]; exact h2 j hj, fun j hj => by rw [e9]; exact h3 j hj, fun j hj => by rw [e9]; exact h4 j hj, ⟨by rw [e8]; exact h5.1, fun i s F hi j hj => by rw [e9]; exact h5.2 i s F hi j hj⟩, hS⟩
  unfold RmT; rw [e8, e 120 (by omega) (by omega)]; exact h1
def upS (S : Nat → Bool × Nat × Nat) (k : Nat) (x : Bool × Nat × Nat) : Nat → Bool × Nat × Nat := fun j => if j = k then x else S j
theorem upS_eq {S : Nat → Bool × Nat × Nat} {k : Nat} {x : Bool × Nat × Nat} : upS S k x k = x := by unfold upS; rw [if_pos rfl]
theorem upS_ne {S : Nat → Bool × Nat × Nat} {k j : Nat} {x : Bool × Nat × Nat} (h : j ≠ k) : upS S k x j = S j := by unfold upS; rw [if_neg h]
def upX (X : Nat → Nat → Int64) (k : Nat) (f : Nat → Int64) : Nat → Nat → Int64 := fun j => if j = k then f else X j
theorem upX_eq {X : Nat → Nat → Int64} {k : Nat} {f : Nat → Int64} : upX X k f k = f := by unfold upX; rw [if_pos rfl]
theorem upX_ne {X : Nat → Nat → Int64} {k j : Nat} {f : Nat → Int64} (h : j ≠ k) : upX X k f j = X j := by unfold upX; rw [if_neg h]
section SHT
variable {g : GT} {d : Nat} {I : IT} {J : JT}
theorem s_fillJ {o n : Nat} {y : Int64} {P : IT → JT → Prop} (ho : shL[o]? = some (.inl (1, n, []))) (hn : n < 2 ^ 31) (h : ∀ J', (∀ i, i < n → J' o i = y) → (∀ a, a ≠ o → J' a = J a) → P I J') : SemV g d M_J7_fill_d0a16 [.ref (ga g o), .long y] I J P := by
  have loop : ∀ m k J1, k + m = n → (∀ i, i < k → J1 o i = y) → (∀ a, a ≠ o → J1 a = J a) → Lp_J7_fill_d0a16_6 g d o n y (nI k) (nI n) I J1 P := by
    intro m
    induction m with
    | zero =>
      intro k J1 hk h1 h2
      refine w_J7_fill_d0a16_6 ho ?_
      unfold VC_J7_fill_d0a16_6
      rw [show k = n from by omega] at h1 ⊢
      exact ⟨fun _ => h J1 h1 h2, fun q => absurd (nI_le (Nat.le_refl _) hn) q⟩
    | succ m ih =>
      intro k J1 hk h1 h2
      refine w_J7_fill_d0a16_6 ho ?_
      unfold VC_J7_fill_d0a16_6
      rw [nI_cl (by omega), nI_one]
      refine ⟨fun q => absurd ((nI_leI (by omega) (by omega)).mp q) (by omega), fun _ => ⟨vp_in_nI (by omega) hn, ih (k + 1) _ (by omega) (fun i hi => ?_) (fun a ha => by rw [sJ_ne ha]; exact h2 a ha)⟩⟩
      rw [sJ_at]
      by_cases q : i = k
      · rw [if_pos ⟨rfl, q⟩]
      · rw [if_neg (fun z => q z.2)]; exact h1 i (by omega)
  exact w_J7_fill_d0a16 ho (loop n 0 J (by omega) (fun i hi => absurd hi (by omega)) (fun _ _ => rfl))
theorem s_X4_renew {o : Nat} {v w : Int32} {P : IT → JT → Prop} (hd : 1 ≤ d) (ho : isS o) (h : ∀ J', (∀ i, i < 24 → J' (o + 1) i = 0) → (∀ a, a ≠ o + 1 → J' a = J a) → P (sI (sI (sI I o 1 1) o 2 v) o 3 w) J') : SemV g d M_X4_renew [.ref (ga g o), .int v, .int w] I J P := by
  refine w_X4_renew ho hd ?_
  unfold VC_X4_renew
  exact s_fillJ ho.2 (by omega) h
theorem s_X8_isLane {v w : Int32} {P : Bool → IT → JT → Prop} (hd : 2 ≤ d) (h : P (inN v 4 && inN w 4) I J) : SemZ g d M_X8_isLane [.int v, .int w] I J P := by
  refine w_X8_isLane (by omega) ?_
  unfold VC_X8_isLane
  refine s_X8_isSheet (by omega) ⟨fun q => by rw [q] at h; exact h, fun q => ?_⟩
  refine s_X8_inN (n := 4) (by decide) ⟨fun q2 => by rw [q, q2] at h; exact h, fun q2 => by rw [q, q2] at h; exact h⟩
end SHT
def vSheet (a b n : Int32) (_ : ST) : Int32 := if (inN a 4 = true ∧ inN b 4 = true) ∧ n ≤ 24 then (if 0 ≤ n then n else -14) else -1
def tSheet (a b n : Int32) (σ : ST) : ST := if ((inN a 4 = true ∧ inN b 4 = true) ∧ n ≤ 24) ∧ 0 ≤ n then (sF σ, sG0 σ, sG1 σ, sA σ, sT σ, upS (sS σ) a.toNatClampNeg (true, b.toNatClampNeg, n.toNatClampNeg), upX (sX σ) a.toNatClampNeg (fun _ => 0)) else σ
theorem le24 {n : Int32} (h1 : n ≤ 24) (h0 : 0 ≤ n) : ∃ m, m ≤ 24 ∧ n = nI m := nI_of2 (M := 24) (by decide) (Int32.not_lt.mpr h0) h1
theorem e_sheet {g : GT} (a0 a1 a2 : Int32) : EQI g Rel M_X7_sheet M_X8_sheet [.int a0, .int a1, .int a2] := by
  refine eqI_of (vSheet a0 a1 a2) (tSheet a0 a1 a2) (fun σ I J P hk hC h => ?_) (fun σ I J P hk hM h => ?_) (fun σ hk => ?_)
  · refine w_X7_sheet (by omega) ?_
    unfold VC_X7_sheet
    unfold vSheet tSheet at h
    have bad : ¬ ((inN a0 4 = true ∧ inN a1 4 = true) ∧ a2 ≤ 24) → P (-1) I J := fun z => by
      rw [if_neg (fun y => z y.1), if_neg z] at h; exact h I J hC smM.rf
    refine s_X7_isSheet ⟨fun q => bad (fun z => by rw [q] at z; exact absurd z.1.1 (by decide)), fun q => ?_⟩
    refine s_X7_isLane ⟨fun q2 => bad (fun z => by rw [q2] at z; exact absurd z.1.2 (by decide)), fun q2 => ⟨fun q3 => ⟨fun q4 => ?_, fun q4 => ?_⟩, fun q3 => bad (fun z => q3 z.2)⟩⟩
    · rw [if_pos ⟨⟨⟨q, q2⟩, q3⟩, q4⟩, if_pos ⟨⟨q, q2⟩, q3⟩, if_pos q4] at h
      obtain ⟨k, hk4, rfl⟩ := inN_n q (by omega)
      obtain ⟨b, hb4, rfl⟩ := inN_n q2 (by omega)
      obtain ⟨n, hn, rfl⟩ := le24 q3 q4
      rw [nI_cl (by omega), nI_cl (by omega), nI_cl (by omega)] at h
      rw [nI_cl (by omega)]
      refine ⟨vp_in_nI hk4 (by omega), s_X4_renew (by omega) (isS_78 k hk4) (fun J1 b1 b2 => ?_)⟩
      refine h _ J1 (hC.sheets (fun j hj => ?_) (fun a ha => by rw [sI_ne (by omega), sI_ne (by omega), sI_ne (by omega)])) ⟨fun a ha => by rw [sI_ne (by omega), sI_ne (by omega), sI_ne (by omega)], fun a ha => b2 a (by omega)⟩
      obtain ⟨c1, c2, c3, c4⟩ := hC.2.2.2.2.2 j hj
      by_cases e : j = k
      · subst e
        rw [upS_eq, upX_eq]
        refine ⟨?_, ?_, ?_, fun i hi => ?_⟩
        · rw [sI_at, if_neg (by omega), sI_at, if_neg (by omega), sI_at, if_pos ⟨rfl, rfl⟩]; rfl
        · rw [sI_at, if_neg (by omega), sI_at, if_pos ⟨rfl, rfl⟩]
        · rw [sI_at, if_pos ⟨rfl, rfl⟩]
        · rw [show 111 + 2 * j = 110 + 2 * j + 1 from by omega]; exact b1 i hi
      · rw [upS_ne e, upX_ne e]
        refine ⟨?_, ?_, ?_, fun i hi => ?_⟩
        · rw [sI_ne (by omega), sI_ne (by omega), sI_ne (by omega)]; exact c1
        · rw [sI_ne (by omega), sI_ne (by omega), sI_ne (by omega)]; exact c2
        · rw [sI_ne (by omega), sI_ne (by omega), sI_ne (by omega)]; exact c3
        · rw [b2 _ (by omega)]; exact c4 i hi
    · rw [if_neg (fun z => q4 z.2), if_pos ⟨⟨q, q2⟩, q3⟩, if_neg q4] at h
      exact h I J hC smM.rf
  · refine w_X8_sheet (by omega) ?_
    unfold VC_X8_sheet
    unfold vSheet tSheet at h
    have bad : ¬ ((inN a0 4 = true ∧ inN a1 4 = true) ∧ a2 ≤ 24) → P (-1) I J := fun z => by
      rw [if_neg (fun y => z y.1), if_neg z] at h; exact h I J hM smC.rf
    refine s_X8_isLane (by omega) ⟨fun q => bad (fun z => by rw [z.1.1, z.1.2] at q; cases q), fun q => ?_⟩
    have q' := Bool.and_eq_true_iff.mp q
    refine ⟨fun q3 => ⟨fun q4 => ?_, fun q4 => ?_⟩, fun q3 => bad (fun z => q3 z.2)⟩
    · rw [if_pos ⟨⟨q', q3⟩, q4⟩, if_pos ⟨q', q3⟩, if_pos q4] at h
      obtain ⟨q1, q2⟩ := q'
      obtain ⟨k, hk4, rfl⟩ := inN_n q1 (by omega)
      obtain ⟨b, hb4, rfl⟩ := inN_n q2 (by omega)
      obtain ⟨n, hn, rfl⟩ := le24 q3 q4
      rw [nI_cl (by omega), nI_cl (by omega), nI_cl (by omega)] at h
      rw [nI_cl (by omega)]
      refine ⟨vp_in_nI hk4 (by omega), vp_in_nI hk4 (by omega), ?_⟩
      have fin : ∀ J1 : JT, (∀ i, i < 24 → J1 121 (24 * k + i) = 0) → (∀ j i, j < 4 → j ≠ k → i < 24 → J1 121 (24 * j + i) = J 121 (24 * j + i)) → (∀ a, a ≠ 121 → J1 a = J a) → P (nI n) (sI (sI I 122 k (nI n)) 123 k (nI b)) J1 := by
        intro J1 b1 b2 b3
        refine h _ J1 (hM.sheets (fun j hj => ?_) (fun a h1 h2 => by rw [sI_ne h2, sI_ne h1])) ⟨fun a ha => by rw [sI_ne (by omega), sI_ne (by omega)], fun a ha => b3 a (by omega)⟩
        obtain ⟨c1, c2, c3⟩ := hM.2.2.2.2.2 j hj
        by_cases e : j = k
        · subst e
          rw [upS_eq, upX_eq]
          refine ⟨?_, ?_, fun i hi => b1 i hi⟩
          · rw [sI_ne (by omega), sI_at, if_pos ⟨rfl, rfl⟩]; rfl
          · rw [sI_at, if_pos ⟨rfl, rfl⟩]
        · rw [upS_ne e, upX_ne e]
          refine ⟨?_, ?_, fun i hi => ?_⟩
          · rw [sI_ne (by omega), sI_at, if_neg (by omega)]; exact c1
          · rw [sI_at, if_neg (by omega), sI_ne (by omega)]; exact c2
          · rw [b2 j i hj e hi]; exact c3 i hi
      have loop : ∀ m i J1, i + m = 24 → (∀ x, x < i → J1 121 (24 * k + x) = 0) → (∀ j x, j < 4 → j ≠ k → x < 24 → J1 121 (24 * j + x) = J 121 (24 * j + x)) → (∀ a, a ≠ 121 → J1 a = J a) → Lp_X8_sheet_40 g 40 (nI k) (nI n) (nI i) (sI (sI I 122 k (nI n)) 123 k (nI b)) J1 P := by
        intro m
        induction m with
        | zero =>
          intro i J1 hi b1 b2 b3
          refine w_X8_sheet_40 ?_
          unfold VC_X8_sheet_40
          rw [show i = 24 from by omega] at b1 ⊢
          exact ⟨fun _ => fin J1 b1 b2 b3, fun z => absurd (by decide) z⟩
        | succ m ih =>
          intro i J1 hi b1 b2 b3
          refine w_X8_sheet_40 ?_
          unfold VC_X8_sheet_40
          rw [show (24 : Int32) * nI k + nI i = nI (24 * k + i) from by rw [show (24 : Int32) = nI 24 from rfl, pk_mul, nI_add], nI_cl (by omega), nI_one]
          refine ⟨fun z => absurd ((nI_leI (a := 24) (by omega) (by omega)).mp z) (by omega), fun _ => ⟨vp_in_nI (by omega) (by omega), ih (i + 1) _ (by omega) (fun x hx => ?_) (fun j x hj hne hx => ?_) (fun a ha => by rw [sJ_ne ha]; exact b3 a ha)⟩⟩
          · rw [sJ_at]
            by_cases e : x = i
            · rw [if_pos ⟨rfl, by omega⟩]
            · rw [if_neg (by omega)]; exact b1 x (by omega)
          · rw [sJ_at, if_neg (by omega)]; exact b2 j x hj hne hx
      exact loop 24 0 J (by omega) (fun x hx => absurd hx (by omega)) (fun _ _ _ _ _ => rfl) (fun _ _ => rfl)
    · rw [if_neg (fun z => q4 z.2), if_pos ⟨q', q3⟩, if_neg q4] at h
      exact h I J hM smC.rf
  · unfold tSheet
    split
    · rename_i q
      obtain ⟨⟨⟨q1, q2⟩, q3⟩, q4⟩ := q
      obtain ⟨k, hk4, rfl⟩ := inN_n q1 (by omega)
      obtain ⟨b, hb4, rfl⟩ := inN_n q2 (by omega)
      obtain ⟨n, hn, rfl⟩ := le24 q3 q4
      rw [nI_cl (by omega), nI_cl (by omega), nI_cl (by omega)]
      obtain ⟨x1, x2, x3, x4, x5, x6, x7, x8⟩ := hk
      refine ⟨x1, x2, x3, x4, x5, x6, x7, fun j hj => ?_⟩
      show (upS (sS σ) k (true, b, n) j).2.1 < 4 ∧ (upS (sS σ) k (true, b, n) j).2.2 ≤ 24
      by_cases e : j = k
      · subst e; rw [upS_eq]; exact ⟨hb4, hn⟩
      · rw [upS_ne e]; exact x8 j hj
    · exact hk
-- drop
def vDrop (a : Int32) (σ : ST) : Int32 := if inN a 4 then (if (sS σ a.toNatClampNeg).1 then nI (sS σ a.toNatClampNeg).2.2 else -11) else -1
def tDrop (a : Int32) (σ : ST) : ST := if inN a 4 = true ∧ (sS σ a.toNatClampNeg).1 = true then (sF σ, sG0 σ, sG1 σ, sA σ, sT σ, upS (sS σ) a.toNatClampNeg (false, (sS σ a.toNatClampNeg).2.1, (sS σ a.toNatClampNeg).2.2), sX σ) else σ
theorem e_drop {g : GT} (a0 : Int32) : EQI g Rel M_X7_drop M_X8_drop [.int a0] := by
  refine eqI_of (vDrop a0) (tDrop a0) (fun σ I J P hk hC h => ?_) (fun σ I J P hk hM h => ?_) (fun σ hk => ?_)
  · refine w_X7_drop (by omega) ?_
    unfold VC_X7_drop
    unfold vDrop tDrop at h
    refine s_X7_isSheet ⟨fun q => ?_, fun q => ?_⟩
    · obtain ⟨k, hk4, rfl⟩ := inN_n q (by omega)
      rw [nI_cl (by omega)] at h ⊢
      obtain ⟨c1, c2, c3, c4⟩ := hC.2.2.2.2.2 k hk4
      rw [c1]
      refine ⟨vp_in_nI hk4 (by omega), fun q2 => ?_, fun q2 => ?_⟩
      · have q2 : (sS σ k).1 = true := by cases hb : (sS σ k).1 with
          | true => rfl
          | false => rw [hb] at q2; exact absurd rfl q2
        rw [if_pos ⟨q, q2⟩, if_pos q, if_pos q2] at h
        rw [sI_at, if_neg (by omega), c3]
        refine h _ J (hC.sheets (fun j hj => ?_) (fun a ha => sI_ne (by omega))) ⟨fun a ha => sI_ne (by omega), fun _ _ => rfl⟩
        obtain ⟨e1, e2, e3, e4⟩ := hC.2.2.2.2.2 j hj
        by_cases e : j = k
        · subst e
          rw [upS_eq]
          refine ⟨?_, ?_, ?_, e4⟩
          · rw [sI_at, if_pos ⟨rfl, rfl⟩]; rfl
          · rw [sI_at, if_neg (by omega)]; exact e2
          · rw [sI_at, if_neg (by omega)]; exact e3
        · rw [upS_ne e, sI_ne (by omega)]; exact ⟨e1, e2, e3, e4⟩
      · have q2 : (sS σ k).1 = false := (bI_0 _).mp q2
        rw [if_neg (fun z => by rw [q2] at z; exact absurd z.2 (by decide)), if_pos q, if_neg (by rw [q2]; decide)] at h
        exact h I J hC smM.rf
    · rw [if_neg (fun z => by rw [q] at z; exact absurd z.1 (by decide)), if_neg (by rw [q]; decide)] at h
      exact h I J hC smM.rf
  · refine w_X8_drop (by omega) ?_
    unfold VC_X8_drop
    unfold vDrop tDrop at h
    refine s_X8_isSheet (by omega) ⟨fun q => ?_, fun q => ?_⟩
    · obtain ⟨k, hk4, rfl⟩ := inN_n q (by omega)
      rw [nI_cl (by omega)] at h ⊢
      obtain ⟨c1, c2, c3⟩ := hM.2.2.2.2.2 k hk4
      have hl := (hk.2.2.2.2.2.2.2 k hk4).2
      have hv : vp_in (nI k) 4 := vp_in_nI hk4 (by omega)
      rw [c1]
      cases hb : (sS σ k).1 with
      | true =>
        rw [if_pos ⟨q, hb⟩, if_pos q, if_pos hb] at h
        rw [if_pos rfl]
        refine ⟨hv, fun _ => ⟨hv, hv, ?_⟩, fun z => absurd (nI_pos' (by omega)) z⟩
        refine h _ J (hM.sheets (fun j hj => ?_) (fun a h1 _ => sI_ne h1)) ⟨fun a ha => sI_ne (by omega), fun _ _ => rfl⟩
        obtain ⟨e1, e2, e3⟩ := hM.2.2.2.2.2 j hj
        by_cases e : j = k
        · subst e
          rw [upS_eq]
          refine ⟨?_, ?_, e3⟩
          · rw [sI_at, if_pos ⟨rfl, rfl⟩]; rfl
          · rw [sI_ne (by omega)]; exact e2
        · rw [upS_ne e, sI_at, if_neg (by omega), sI_ne (by omega)]; exact ⟨e1, e2, e3⟩
      | false =>
        rw [if_neg (fun z => by rw [hb] at z; exact absurd z.2 (by decide)), if_pos q, if_neg (by rw [hb]; decide)] at h
        rw [if_neg (by decide)]
        exact ⟨hv, fun z => absurd z (by decide), fun _ => h I J hM smC.rf⟩
    · rw [if_neg (fun z => by rw [q] at z; exact absurd z.1 (by decide)), if_neg (by rw [q]; decide)] at h
      exact h I J hM smC.rf
  · unfold tDrop
    split
    · rename_i q
      obtain ⟨k, hk4, rfl⟩ := inN_n q.1 (by omega)
      rw [nI_cl (by omega)]
      obtain ⟨x1, x2, x3, x4, x5, x6, x7, x8⟩ := hk
      refine ⟨x1, x2, x3, x4, x5, x6, x7, fun j hj => ?_⟩
      show (upS (sS σ) k (false, (sS σ k).2.1, (sS σ k).2.2) j).2.1 < 4 ∧ (upS (sS σ) k (false, (sS σ k).2.1, (sS σ k).2.2) j).2.2 ≤ 24
      by_cases e : j = k
      · subst e; rw [upS_eq]; exact x8 j hj
      · rw [upS_ne e]; exact x8 j hj
    · exact hk
