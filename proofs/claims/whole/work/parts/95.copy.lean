-- ===== copy =====
theorem upTo {Q : Nat → Prop} {N : Nat} (last : Q N) (step : ∀ k, k < N → Q (k + 1) → Q k) : Q 0 := by
  have : ∀ m k, k + m = N → Q k := by
    intro m
    induction m with
    | zero => intro k hk; rw [show k = N from by omega]; exact last
    | succ m ih => intro k hk; exact step k (by omega) (ih (k + 1) (by omega))
  exact this N 0 (by omega)
theorem cpA {α : Type} {f h : Nat → α} {sp dp n y : Nat} : va_cpy f h sp dp n y = if dp ≤ y ∧ y < dp + n then f (sp + (y - dp)) else h y := rfl
def vCopy (a i b j n : Int32) (σ : ST) : Int32 := if inN a 4 = true ∧ inN b 4 = true then (if (sS σ a.toNatClampNeg).1 = true ∧ (sS σ b.toNatClampNeg).1 = true then (if (sS σ a.toNatClampNeg).2.1 = (sS σ b.toNatClampNeg).2.1 then (if hld i n (sS σ a.toNatClampNeg).2.2 = true ∧ hld j n (sS σ b.toNatClampNeg).2.2 = true then n else -13) else -12) else -11) else -1
abbrev gCopy (a i b j n : Int32) (σ : ST) : Prop := (inN a 4 = true ∧ inN b 4 = true) ∧ ((sS σ a.toNatClampNeg).1 = true ∧ (sS σ b.toNatClampNeg).1 = true) ∧ (sS σ a.toNatClampNeg).2.1 = (sS σ b.toNatClampNeg).2.1 ∧ (hld i n (sS σ a.toNatClampNeg).2.2 = true ∧ hld j n (sS σ b.toNatClampNeg).2.2 = true)
def xCopy (X : Nat → Nat → Int64) (a i b j n : Nat) : Nat → Nat → Int64 := upX X b (fun y => if j ≤ y ∧ y < j + n then X a (i + (y - j)) else X b y)
def tCopy (a i b j n : Int32) (σ : ST) : ST := if gCopy a i b j n σ then (sF σ, sG0 σ, sG1 σ, sA σ, sT σ, sS σ, xCopy (sX σ) a.toNatClampNeg i.toNatClampNeg b.toNatClampNeg j.toNatClampNeg n.toNatClampNeg) else σ
theorem hld_nn {i n : Int32} {l : Nat} (hl : l ≤ 24) (h : hld i n l = true) : ∃ j m, j + m ≤ l ∧ i = nI j ∧ n = nI m := by
  have h' := h
  unfold hld at h'
  have h' := of_decide_eq_true h'
  obtain ⟨m, hm, rfl⟩ := inN_n (v := n) (N := 25) (decide_eq_true (by omega)) (by omega)
  obtain ⟨j, hj, rfl⟩ := hld_n (by omega) hl h
  exact ⟨j, m, hj, rfl, rfl⟩
theorem e_copy {g : GT} (a0 a1 a2 a3 a4 : Int32) : EQI g Rel M_X7_copy M_X8_copy [.int a0, .int a1, .int a2, .int a3, .int a4] := by
  refine eqI_of (vCopy a0 a1 a2 a3 a4) (tCopy a0 a1 a2 a3 a4) (fun σ I J P hk hC h => ?_) (fun σ I J P hk hM h => ?_) (fun σ hk => ?_)
  · refine w_X7_copy (by omega) ?_
    unfold VC_X7_copy
    unfold tCopy at h
    have no : ¬ gCopy a0 a1 a2 a3 a4 σ → P (vCopy a0 a1 a2 a3 a4 σ) I J := fun z => by rw [if_neg z] at h; exact h I J hC smM.rf
    unfold vCopy at h no
    have b0 : ¬ (inN a0 4 = true ∧ inN a2 4 = true) → P (-1) I J := fun z => by have := no (fun y => z y.1); rw [if_neg z] at this; exact this
    refine s_X7_isSheet ⟨fun q => b0 (fun z => by rw [q] at z; exact absurd z.1 (by decide)), fun q => ?_⟩
    refine s_X7_isSheet ⟨fun q2 => ?_, fun q2 => b0 (fun z => by rw [q2] at z; exact absurd z.2 (by decide))⟩
    have qq : inN a0 4 = true ∧ inN a2 4 = true := ⟨q, q2⟩
    rw [if_pos qq] at h no
    unfold gCopy at h no
    obtain ⟨a, ha, rfl⟩ := inN_n q (by omega)
    obtain ⟨b, hb, rfl⟩ := inN_n q2 (by omega)
    rw [nI_cl (by omega), nI_cl (by omega)] at h no ⊢
    obtain ⟨c1, c2, c3, c4⟩ := hC.2.2.2.2.2 a ha
    obtain ⟨e1, e2, e3, e4⟩ := hC.2.2.2.2.2 b hb
    have sa := hk.2.2.2.2.2.2.2 a ha
    have sb := hk.2.2.2.2.2.2.2 b hb
    rw [c1, e1, c2, e2]
    refine ⟨vp_in_nI ha (by omega), vp_in_nI hb (by omega), fun q3 => ?_, fun q3 => ⟨fun q4 => ?_, fun q4 => ?_⟩⟩
    · have q3 := (bI_0 _).mp q3
      have z : ¬ ((sS σ a).1 = true ∧ (sS σ b).1 = true) := fun z => by rw [q3] at z; exact absurd z.1 (by decide)
      have := no (fun y => z y.2.1); rw [if_neg z] at this; exact this
    · have q3 : (sS σ a).1 = true := by cases hb : (sS σ a).1 with
        | true => rfl
        | false => rw [hb] at q3; exact absurd rfl q3
      have q4 : (sS σ b).1 = true := by cases hb : (sS σ b).1 with
        | true => rfl
        | false => rw [hb] at q4; exact absurd rfl q4
      rw [if_pos (show (sS σ a).1 = true ∧ (sS σ b).1 = true from ⟨q3, q4⟩)] at h no
      refine ⟨fun q5 => ?_, fun q5 => ?_⟩
      · have q5 : (sS σ a).2.1 = (sS σ b).2.1 := (nI_eq (by omega) (by omega)).mp q5
        rw [if_pos q5] at h no
        refine s_X4_holds (isS_78 a ha) c3 sa.2 ⟨fun q6 => ?_, fun q6 => ?_⟩
        · have z : ¬ (hld a1 a4 (sS σ a).2.2 = true ∧ hld a3 a4 (sS σ b).2.2 = true) := fun z => by rw [q6] at z; exact absurd z.1 (by decide)
          have := no (fun y => z y.2.2.2); rw [if_neg z] at this; exact this
        · refine s_X4_holds (isS_78 b hb) e3 sb.2 ⟨fun q7 => ?_, fun q7 => ?_⟩
          · rw [if_pos (show hld a1 a4 (sS σ a).2.2 = true ∧ hld a3 a4 (sS σ b).2.2 = true from ⟨q6, q7⟩), if_pos ⟨qq, ⟨q3, q4⟩, q5, q6, q7⟩] at h
            obtain ⟨i, n, hi, rfl, rfl⟩ := hld_nn sa.2 q6
            obtain ⟨j, hj, rfl⟩ := hld_n (by omega) sb.2 q7
            have t1 := sa.2
            have t2 := sb.2
            rw [nI_cl (by omega), nI_cl (by omega), nI_cl (by omega)] at h ⊢
            refine ⟨nI_pos (by omega), nI_pos (by omega), nI_pos (by omega), by omega, by omega, ?_⟩
            refine h I _ (hC.items (fun k hk' x hx => ?_)) ⟨fun _ _ => rfl, fun u hu => cJ_ne (by omega)⟩
            have c5 := (hC.2.2.2.2.2 k hk').2.2.2 x hx
            unfold xCopy
            by_cases e : k = b
            · subst e
              rw [upX_eq, show 111 + 2 * k = 110 + 2 * k + 1 from by omega, cJ_eq, cpA]
              rw [show 111 + 2 * k = 110 + 2 * k + 1 from by omega] at c5
              by_cases e6 : j ≤ x ∧ x < j + n
              · rw [if_pos e6, if_pos e6]
                have := c4 (i + (x - j)) (by omega)
                rw [show 111 + 2 * a = 110 + 2 * a + 1 from by omega] at this
                exact this
              · rw [if_neg e6, if_neg e6]; exact c5
            · rw [upX_ne e, cJ_ne (by omega)]; exact c5
          · have z : ¬ (hld a1 a4 (sS σ a).2.2 = true ∧ hld a3 a4 (sS σ b).2.2 = true) := fun z => by rw [q7] at z; exact absurd z.2 (by decide)
            have := no (fun y => z y.2.2.2); rw [if_neg z] at this; exact this
      · have z : ¬ (sS σ a).2.1 = (sS σ b).2.1 := fun z => q5 (by rw [z])
        have := no (fun y => z y.2.2.1); rw [if_neg z] at this; exact this
    · have q4 := (bI_0 _).mp q4
      have z : ¬ ((sS σ a).1 = true ∧ (sS σ b).1 = true) := fun z => by rw [q4] at z; exact absurd z.2 (by decide)
      have := no (fun y => z y.2.1); rw [if_neg z] at this; exact this
  · refine w_X8_copy (by omega) ?_
    unfold VC_X8_copy
    unfold tCopy at h
    have no : ¬ gCopy a0 a1 a2 a3 a4 σ → P (vCopy a0 a1 a2 a3 a4 σ) I J := fun z => by rw [if_neg z] at h; exact h I J hM smC.rf
    unfold vCopy at h no
    have b0 : ¬ (inN a0 4 = true ∧ inN a2 4 = true) → P (-1) I J := fun z => by have := no (fun y => z y.1); rw [if_neg z] at this; exact this
    refine s_X8_isSheet (by omega) ⟨fun q => b0 (fun z => by rw [q] at z; exact absurd z.1 (by decide)), fun q => ?_⟩
    refine s_X8_isSheet (by omega) ⟨fun q2 => ?_, fun q2 => b0 (fun z => by rw [q2] at z; exact absurd z.2 (by decide))⟩
    have qq : inN a0 4 = true ∧ inN a2 4 = true := ⟨q, q2⟩
    rw [if_pos qq] at h no
    unfold gCopy at h no
    obtain ⟨a, ha, rfl⟩ := inN_n q (by omega)
    obtain ⟨b, hb, rfl⟩ := inN_n q2 (by omega)
    rw [nI_cl (by omega), nI_cl (by omega)] at h no ⊢
    obtain ⟨c1, c2, c3⟩ := hM.2.2.2.2.2 a ha
    obtain ⟨e1, e2, e3⟩ := hM.2.2.2.2.2 b hb
    have sa := hk.2.2.2.2.2.2.2 a ha
    have sb := hk.2.2.2.2.2.2.2 b hb
    have va : vp_in (nI a) 4 := vp_in_nI ha (by omega)
    have vb : vp_in (nI b) 4 := vp_in_nI hb (by omega)
    have h0 : (0 : Int32).toInt = 0 := by decide
    rw [c1, e1, c2, e2]
    cases q3 : (sS σ a).1 with
    | false =>
      rw [if_neg (by decide)]
      have z : ¬ ((sS σ a).1 = true ∧ (sS σ b).1 = true) := fun z => by rw [q3] at z; exact absurd z.1 (by decide)
      have := no (fun y => z y.2.1); rw [if_neg z] at this
      exact ⟨va, fun _ => this, fun z => absurd (by decide) z⟩
    | true =>
      rw [if_pos rfl]
      refine ⟨va, fun z => absurd z (nI_pos (by omega)), fun _ => ⟨vb, ?_⟩⟩
      cases q4 : (sS σ b).1 with
      | false =>
        rw [if_neg (by decide)]
        have z : ¬ ((sS σ a).1 = true ∧ (sS σ b).1 = true) := fun z => by rw [q4] at z; exact absurd z.2 (by decide)
        have := no (fun y => z y.2.1); rw [if_neg z] at this
        exact ⟨fun z => absurd z (by decide), fun _ => this⟩
      | true =>
        rw [if_pos rfl]
        rw [if_pos (show (sS σ a).1 = true ∧ (sS σ b).1 = true from ⟨q3, q4⟩)] at h no
        refine ⟨fun _ => ⟨va, vb, fun q5 => ?_, fun q5 => ?_⟩, fun z => absurd (nI_pos' (by omega)) z⟩
        · have q5 : (sS σ a).2.1 = (sS σ b).2.1 := (nI_eq (by omega) (by omega)).mp q5
          rw [if_pos q5] at h no
          have bad : ¬ (hld a1 a4 (sS σ a).2.2 = true ∧ hld a3 a4 (sS σ b).2.2 = true) → P (-13) I J := fun z => by
            have := no (fun y => z y.2.2.2); rw [if_neg z] at this; exact this
          rw [Int64.lt_iff_toInt_lt, Int64.lt_iff_toInt_lt, i64add, i64add, Int32.toInt_toInt64, Int32.toInt_toInt64, nI_toInt (by omega), nI_toInt (by omega), Int32.lt_iff_toInt_lt, Int32.lt_iff_toInt_lt, Int32.lt_iff_toInt_lt, h0]
          have key : ∀ {x : Prop}, x → ((hld a1 a4 (sS σ a).2.2 = true ∧ hld a3 a4 (sS σ b).2.2 = true) → ¬ x) → P (-13) I J := fun z y => bad (fun w => y w z)
          have un : (hld a1 a4 (sS σ a).2.2 = true ∧ hld a3 a4 (sS σ b).2.2 = true) → (0 ≤ a1.toInt ∧ 0 ≤ a4.toInt ∧ a1.toInt + a4.toInt ≤ (sS σ a).2.2) ∧ (0 ≤ a3.toInt ∧ 0 ≤ a4.toInt ∧ a3.toInt + a4.toInt ≤ (sS σ b).2.2) := fun w => ⟨of_decide_eq_true w.1, of_decide_eq_true w.2⟩
          refine ⟨fun z => key z (fun w => by have := un w; omega), fun z1 => ⟨fun z => key z (fun w => by have := un w; omega), fun z2 => ⟨fun z => key z (fun w => by have := un w; omega), fun z3 => ⟨va, fun z => key z (fun w => by have := un w; omega), fun z4 => ⟨vb, fun z5 => ?_, fun z => key z (fun w => by have := un w; omega)⟩⟩⟩⟩⟩
          have q6 : hld a1 a4 (sS σ a).2.2 = true := decide_eq_true (by omega)
          have q7 : hld a3 a4 (sS σ b).2.2 = true := decide_eq_true (by omega)
          rw [if_pos (show hld a1 a4 (sS σ a).2.2 = true ∧ hld a3 a4 (sS σ b).2.2 = true from ⟨q6, q7⟩), if_pos ⟨qq, ⟨q3, q4⟩, q5, q6, q7⟩] at h
          obtain ⟨i, n, hi, rfl, rfl⟩ := hld_nn sa.2 q6
          obtain ⟨j, hj, rfl⟩ := hld_n (by omega) sb.2 q7
          have t1 := sa.2
          have t2 := sb.2
          rw [nI_cl (by omega), nI_cl (by omega), nI_cl (by omega)] at h
          have loop2 : ∀ J1 : JT, (∀ x, x < n → J1 128 x = J 121 (24 * a + i + x)) → (∀ u, u ≠ 128 → J1 u = J u) → Lp_X8_copy_147 g 40 (nI b) (nI j) (nI n) (nI 0) I J1 P := by
            intro J1 p1 p2
            refine upTo (Q := fun k => ∀ J2 : JT, (∀ x, x < 96 → J2 121 x = if 24 * b + j ≤ x ∧ x < 24 * b + j + k then J 121 (24 * a + i + (x - (24 * b + j))) else J 121 x) → (∀ u, u ≠ 121 → J2 u = J1 u) → Lp_X8_copy_147 g 40 (nI b) (nI j) (nI n) (nI k) I J2 P) (N := n) ?_ ?_ J1 ?_ (fun _ _ => rfl)
            · intro J2 r1 r2
              refine w_X8_copy_147 ?_
              unfold VC_X8_copy_147
              refine ⟨fun _ => ?_, fun z => absurd (nI_le (Nat.le_refl _) (by omega)) z⟩
              refine h I J2 (hM.items (fun k hk' x hx => ?_)) ⟨fun _ _ => rfl, fun u hu => by rw [r2 u (by omega), p2 u (by omega)]⟩
              have c5 := (hM.2.2.2.2.2 k hk').2.2 x hx
              rw [r1 _ (by omega)]
              unfold xCopy
              by_cases e : k = b
              · subst e
                rw [upX_eq]
                by_cases e6 : j ≤ x ∧ x < j + n
                · rw [if_pos (by omega), if_pos e6, ← c3 (i + (x - j)) (by omega)]
                  congr 1; omega
                · rw [if_neg (by omega), if_neg e6]; exact c5
              · rw [upX_ne e, if_neg (by omega)]; exact c5
            · intro k hkn ih J2 r1 r2
              refine w_X8_copy_147 ?_
              unfold VC_X8_copy_147
              rw [show (24 : Int32) * nI b + nI j + nI k = nI (24 * b + j + k) from by rw [show (24 : Int32) = nI 24 from rfl, pk_mul, nI_add, nI_add], nI_cl (by omega), nI_cl (by omega), nI_one]
              refine ⟨fun z => absurd ((nI_leI (by omega) (by omega)).mp z) (by omega), fun _ => ⟨vp_in_nI (by omega) (by omega), vp_in_nI (by omega) (by omega), ih _ (fun x hx => ?_) (fun u hu => by rw [sJ_ne hu]; exact r2 u hu)⟩⟩
              rw [sJ_at]
              by_cases e : x = 24 * b + j + k
              · rw [if_pos ⟨rfl, e⟩, r2 128 (by omega), p1 k hkn, if_pos (by omega)]
                congr 1; omega
              · rw [if_neg (fun z => e z.2), r1 x hx]
                by_cases e6 : 24 * b + j ≤ x ∧ x < 24 * b + j + k
                · rw [if_pos e6, if_pos (by omega)]
                · rw [if_neg e6, if_neg (by omega)]
            · intro x hx
              rw [p2 121 (by omega), if_neg (by omega)]
          refine upTo (Q := fun k => ∀ J1 : JT, (∀ x, x < k → J1 128 x = J 121 (24 * a + i + x)) → (∀ u, u ≠ 128 → J1 u = J u) → Lp_X8_copy_110 g 40 (nI a) (nI i) (nI b) (nI j) (nI n) (nI k) I J1 P) (N := n) ?_ ?_ J (fun x hx => absurd hx (by omega)) (fun _ _ => rfl)
          · intro J1 p1 p2
            refine w_X8_copy_110 ?_
            unfold VC_X8_copy_110
            exact ⟨fun _ => loop2 J1 p1 p2, fun z => absurd (nI_le (Nat.le_refl _) (by omega)) z⟩
          · intro k hkn ih J1 p1 p2
            refine w_X8_copy_110 ?_
            unfold VC_X8_copy_110
            rw [show (24 : Int32) * nI a + nI i + nI k = nI (24 * a + i + k) from by rw [show (24 : Int32) = nI 24 from rfl, pk_mul, nI_add, nI_add], nI_cl (by omega), nI_cl (by omega), nI_one]
            refine ⟨fun z => absurd ((nI_leI (by omega) (by omega)).mp z) (by omega), fun _ => ⟨vp_in_nI (by omega) (by omega), vp_in_nI (by omega) (by omega), ih _ (fun x hx => ?_) (fun u hu => by rw [sJ_ne hu]; exact p2 u hu)⟩⟩
            rw [sJ_at]
            by_cases e : x = k
            · rw [if_pos ⟨rfl, e⟩, p2 121 (by omega), e]
            · rw [if_neg (fun z => e z.2), p1 x (by omega)]
        · have z : ¬ (sS σ a).2.1 = (sS σ b).2.1 := fun z => q5 (by rw [z])
          have := no (fun y => z y.2.2.1); rw [if_neg z] at this; exact this
  · unfold tCopy
    split
    · exact okT_X hk
    · exact hk
