-- ===== rows brought from place to place =====
def brg (I : IT) (a b n : Nat) : IT := fun x => if x = 119 then (fun j => if b ≤ j ∧ j < b + n then I 119 (a + (j - b)) else I 119 j) else I x
theorem brg_ne {I : IT} {a b n x : Nat} (h : x ≠ 119) : brg I a b n x = I x := by unfold brg; rw [if_neg h]
theorem brg_at {I : IT} {a b n j : Nat} : brg I a b n 119 j = if b ≤ j ∧ j < b + n then I 119 (a + (j - b)) else I 119 j := by unfold brg; rw [if_pos rfl]
theorem brg_0 {I : IT} {a b : Nat} : brg I a b 0 = I := by
  funext x
  by_cases h : x = 119
  · subst h; funext j; rw [brg_at, if_neg (by omega)]
  · rw [brg_ne h]
theorem brg_s {I : IT} {a b k : Nat} (hab : b ≤ a ∨ a + k < b) : sI (brg I a b k) 119 (b + k) (brg I a b k 119 (a + k)) = brg I a b (k + 1) := by
  funext x
  by_cases h : x = 119
  · subst h
    funext j
    rw [sI_at, brg_at, brg_at, brg_at]
    by_cases hj : j = b + k
    · subst hj
      rw [if_pos ⟨rfl, rfl⟩, if_neg (by omega), if_pos (by omega)]
      congr 1; omega
    · rw [if_neg (by omega)]
      by_cases h2 : b ≤ j ∧ j < b + k
      · rw [if_pos h2, if_pos (by omega)]
      · rw [if_neg h2, if_neg (by omega)]
  · rw [sI_ne h, brg_ne h, brg_ne h]
section BRG
variable {g : GT} {d : Nat} {I : IT} {J : JT}
theorem s_X8_bring {a b n : Nat} {P : IT → JT → Prop} (ha : a + n ≤ 952) (hb : b + n ≤ 952) (hab : b ≤ a ∨ a + n ≤ b) (h : P (brg I a b n) J) : SemV g d M_X8_bring [.ref (ga g 118), .int (nI a), .int (nI b), .int (nI n)] I J P := by
  have loop : ∀ m k, k + m = n → Lp_X8_bring_3 g d (nI a) (nI b) (nI n) (nI k) (brg I a b k) J P := by
    intro m
    induction m with
    | zero =>
      intro k hk
      have hk : k = n := by omega
      subst hk
      refine w_X8_bring_3 ?_
      unfold VC_X8_bring_3
      exact ⟨fun _ => h, fun q => absurd (nI_le (Nat.le_refl _) (by omega)) q⟩
    | succ m ih =>
      intro k hk
      refine w_X8_bring_3 ?_
      unfold VC_X8_bring_3
      refine ⟨fun q => absurd ((nI_leI (by omega) (by omega)).mp q) (by omega), fun _ => ?_⟩
      rw [nI_add, nI_add, nI_cl (by omega), nI_cl (by omega), nI_one, brg_s (by omega)]
      exact ⟨vp_in_nI (by omega) (by omega), vp_in_nI (by omega) (by omega), ih (k + 1) (by omega)⟩
  refine w_X8_bring ?_
  unfold VC_X8_bring
  have := loop n 0 (by omega)
  rw [brg_0] at this
  exact this
theorem cI_at {I : IT} {a b sp dp n x y : Nat} : cI I a b sp dp n x y = if x = b then va_cpy (I a) (I b) sp dp n y else I x y := by
  unfold cI; split <;> rfl
theorem cp0 {α : Type} {f h : Nat → α} {n y : Nat} : va_cpy f h 0 0 n y = if y < n then f y else h y := by
  unfold va_cpy
  by_cases hy : y < n
  · rw [if_pos (by omega), if_pos hy]; congr 1; omega
  · rw [if_neg (by omega), if_neg hy]
theorem s_X3_become {o p : Nat} {P : IT → JT → Prop} (hd : 1 ≤ d) (ho : isSea o) (hp : isSea p) (hop : o + 2 ≤ p ∨ p + 2 ≤ o) (h : ∀ I', I' o 1 = I p 1 → I' o 2 = I p 2 → (∀ c, c < 48 → I' (o + 1) c = I (p + 1) c) → (∀ a, a ≠ o → a ≠ o + 1 → I' a = I a) → P I' J) : SemV g d M_X3_become [.ref (ga g o), .ref (ga g p)] I J P := by
  refine w_X3_become ho hp hd ?_
  unfold VC_X3_become
  refine h _ ?_ ?_ (fun c hc => ?_) (fun a h1 h2 => ?_)
  · rw [sI_at, if_neg (by omega), sI_at, if_pos ⟨rfl, rfl⟩, cI_at, if_neg (by omega)]
  · rw [sI_at, if_pos ⟨rfl, rfl⟩, sI_at, if_neg (by omega), cI_at, if_neg (by omega)]
  · rw [sI_ne (by omega), sI_ne (by omega), cI_at, if_pos rfl, cp0, if_pos hc]
  · rw [sI_ne h1, sI_ne h1, cI_ne h2]
theorem s_X2_become {o p : Nat} {F : NF} {P : IT → JT → Prop} (hd : 2 ≤ d) (ho : isF o) (hp : isF p) (hop : o + 8 ≤ p ∨ p + 8 ≤ o) (hC : FlC I p F) (hF : okF F) (h : ∀ I', FlC I' o F → (∀ a, (a < o ∨ o + 7 < a) → I' a = I a) → P I' J) : SemV g d M_X2_become [.ref (ga g o), .ref (ga g p)] I J P := by
  refine w_X2_become ho hp (by omega) ?_
  unfold VC_X2_become
  refine s_X3_become (by omega) (isF_sea ho) (isF_sea hp) (by omega) (fun I1 a1 a2 a3 a4 => ?_)
  obtain ⟨b1, b2, b3, b4, b5, b6, b7⟩ := hC
  have h6 := hF.1
  have hW := hF.W
  refine h _ ⟨?_, ?_, ?_, fun c h1 h2 => ?_, fun s hs => ⟨?_, ?_, ?_, ?_⟩, fun t ht => ?_, ?_⟩ (fun a ha => ?_)
  · rw [sI_at, if_neg (by omega), sI_at, if_pos ⟨rfl, rfl⟩, cI_at, if_neg (by omega), cI_at, if_neg (by omega), cI_at, if_neg (by omega), cI_at, if_neg (by omega), cI_at, if_neg (by omega), a4 p (by omega) (by omega)]; exact b1
  · rw [sI_ne (by omega), sI_ne (by omega), cI_ne (by omega), cI_ne (by omega), cI_ne (by omega), cI_ne (by omega), cI_ne (by omega), a1]; exact b2
  · rw [sI_ne (by omega), sI_ne (by omega), cI_ne (by omega), cI_ne (by omega), cI_ne (by omega), cI_ne (by omega), cI_ne (by omega), a2]; exact b3
  · rw [sI_ne (by omega), sI_ne (by omega), cI_ne (by omega), cI_ne (by omega), cI_ne (by omega), cI_ne (by omega), cI_ne (by omega)]
    have := hW.1
    have := a3 c (by omega)
    rw [show o + 1 + 1 = o + 2 from by omega, show p + 1 + 1 = p + 2 from by omega] at this
    rw [this]; exact b4 c h1 h2
  · rw [sI_ne (by omega), sI_ne (by omega), cI_ne (by omega), cI_ne (by omega), cI_ne (by omega), cI_ne (by omega), cI_at, if_pos rfl, cp0, if_pos (by omega), a4 _ (by omega) (by omega)]; exact (b5 s hs).1
  · rw [sI_ne (by omega), sI_ne (by omega), cI_ne (by omega), cI_ne (by omega), cI_ne (by omega), cI_at, if_pos rfl, cp0, if_pos (by omega), cI_ne (by omega), a4 _ (by omega) (by omega)]; exact (b5 s hs).2.1
  · rw [sI_ne (by omega), sI_ne (by omega), cI_ne (by omega), cI_ne (by omega), cI_at, if_pos rfl, cp0, if_pos (by omega), cI_ne (by omega), cI_ne (by omega), a4 _ (by omega) (by omega)]; exact (b5 s hs).2.2.1
  · rw [sI_ne (by omega), sI_ne (by omega), cI_ne (by omega), cI_at, if_pos rfl, cp0, if_pos (by omega), cI_ne (by omega), cI_ne (by omega), cI_ne (by omega), a4 _ (by omega) (by omega)]; exact (b5 s hs).2.2.2
  · rw [sI_ne (by omega), sI_ne (by omega), cI_at, if_pos rfl, cp0, if_pos ht, cI_ne (by omega), cI_ne (by omega), cI_ne (by omega), cI_ne (by omega), a4 _ (by omega) (by omega)]; exact b6 t ht
  · rw [sI_at, if_pos ⟨rfl, rfl⟩, sI_at, if_neg (by omega), cI_at, if_neg (by omega), cI_at, if_neg (by omega), cI_at, if_neg (by omega), cI_at, if_neg (by omega), cI_at, if_neg (by omega), a4 p (by omega) (by omega)]; exact b7
  · rw [sI_ne (by omega), sI_ne (by omega), cI_ne (by omega), cI_ne (by omega), cI_ne (by omega), cI_ne (by omega), cI_ne (by omega), a4 a (by omega) (by omega)]
end BRG
-- image
def setG (σ : ST) (k : Nat) (G : NF) : ST := if k = 0 then (sF σ, G, sG1 σ, sA σ, sT σ, sS σ, sX σ) else (sF σ, sG0 σ, G, sA σ, sT σ, sS σ, sX σ)
def vImage (v : Int32) (σ : ST) : Int32 := if inN v 2 then (if 0 < sF σ 0 then nI (sF σ 57) else -2) else -1
def tImage (v : Int32) (σ : ST) : ST := if inN v 2 = true ∧ 0 < sF σ 0 then setG σ v.toNatClampNeg (sF σ) else σ
theorem RelC.im {I I' : IT} {J : JT} {σ : ST} {k : Nat} {G : NF} (hk : k < 2) (h : RelC I J σ) (hG : FlC I' (80 + 8 * k) G) (e : ∀ a, (a < 80 + 8 * k ∨ 80 + 8 * k + 7 < a) → I' a = I a) : RelC I' J (setG σ k G) := by
  obtain ⟨h1, h2, h3, h4, h5, h6⟩ := h
  have g1 : RcT I' (sT σ) := by unfold RcT; rw [e 1 (by omega), e 2 (by omega)]; exact h1
  have g2 := h2.cg (I' := I') (fun a _ _ => e a (by omega))
  have g5 := h5.cg (I' := I') (fun a _ _ => e a (by omega))
  have g6 := h6.cg (I' := I') (J' := J) (fun a _ _ => e a (by omega)) (fun _ _ _ => rfl)
  have hk' : k = 0 ∨ k = 1 := by omega
  rcases hk' with rfl | rfl
  · exact ⟨g1, g2, hG, h4.cg (fun a _ _ => e a (by omega)), g5, g6⟩
  · exact ⟨g1, g2, h3.cg (fun a _ _ => e a (by omega)), hG, g5, g6⟩
theorem e_image {g : GT} (a0 : Int32) : EQI g Rel M_X7_image M_X8_image [.int a0] := by
  refine eqI_of (vImage a0) (tImage a0) (fun σ I J P hk hC h => ?_) (fun σ I J P hk hM h => ?_) (fun σ hk => ?_)
  · refine w_X7_image (by omega) ?_
    unfold VC_X7_image
    unfold vImage tImage at h
    refine rng' (n := 2) (by decide) (fun q => ?_) (fun q => ?_)
    · rw [if_neg (fun z => by rw [q] at z; exact absurd z.1 (by decide)), if_neg (by rw [q]; decide)] at h
      exact h I J hC smM.rf
    · rw [if_pos q] at h
      obtain ⟨n, hn, rfl⟩ := inN_n q (by omega)
      rw [nI_cl (by omega)] at h ⊢
      refine s_X2_stands isF_3 hC.2.1 hk.1 ⟨fun q2 => ⟨vp_in_nI hn (by omega), ?_⟩, fun q2 => ?_⟩
      · have q2 := of_decide_eq_true q2
        rw [if_pos ⟨q, q2⟩, if_pos q2] at h
        refine s_X2_become (by omega) (isF_19 n hn) isF_3 (by omega) hC.2.1 hk.1 (fun I1 b1 b2 => ?_)
        rw [b2 3 (by omega), hC.2.1.2.2.2.2.2.2]
        exact h I1 J (hC.im hn b1 b2) ⟨fun a ha => b2 a (by omega), fun _ _ => rfl⟩
      · have q2 := of_decide_eq_false q2
        rw [if_neg (fun z => q2 z.2), if_neg q2] at h
        exact h I J hC smM.rf
  · refine w_X8_image (by omega) ?_
    unfold VC_X8_image
    unfold vImage tImage at h
    refine s_X8_inN (n := 2) (by decide) ⟨fun q => ?_, fun q => ?_⟩
    · rw [if_pos q] at h
      obtain ⟨n, hn, rfl⟩ := inN_n q (by omega)
      rw [nI_cl (by omega)] at h
      refine s_X8_isFleet hM.2.1 hk.1 ⟨fun q2 => ?_, fun q2 => ?_⟩
      · have q2 := of_decide_eq_true q2
        rw [if_pos ⟨q, q2⟩, if_pos q2] at h
        rw [show (80 : Int32) + 80 * nI n = nI (80 + 80 * n) from by rw [show (80 : Int32) = nI 80 from rfl, pk_mul, nI_add]]
        refine s_X8_bring (a := 0) (n := 80) (by omega) (by omega) (Or.inr (by omega)) ?_
        rw [brg_at, if_neg (by omega), hM.2.1.a0 57 (by omega)]
        refine h _ J ?_ ⟨fun a ha => brg_ne (by omega), fun _ _ => rfl⟩
        obtain ⟨h1, h2, h3, h4, h5, h6⟩ := hM
        have nw : MF (brg I 0 (80 + 80 * n) 80) (80 + 80 * n) (sF σ) := by
          intro j hj
          rw [brg_at, if_pos (by omega), show 0 + (80 + 80 * n + j - (80 + 80 * n)) = 0 + j from by omega]
          exact h2 j hj
        have k1 : RmT (brg I 0 (80 + 80 * n) 80) (sT σ) := by unfold RmT; rw [brg_ne (by omega), brg_ne (by omega)]; exact h1
        have k2 : MF (brg I 0 (80 + 80 * n) 80) 0 (sF σ) := fun j hj => by rw [brg_at, if_neg (by omega)]; exact h2 j hj
        have k5 : RmA (brg I 0 (80 + 80 * n) 80) (sA σ) := ⟨by rw [brg_ne (by omega)]; exact h5.1, fun i s F hi j hj => by rw [brg_at, if_neg (by omega)]; exact h5.2 i s F hi j hj⟩
        have k6 : RmS (brg I 0 (80 + 80 * n) 80) J (sS σ) (sX σ) := fun k hk => by rw [brg_ne (by omega), brg_ne (by omega)]; exact h6 k hk
        have hn' : n = 0 ∨ n = 1 := by omega
        rcases hn' with rfl | rfl
        · exact ⟨k1, k2, nw, fun j hj => by rw [brg_at, if_neg (by omega)]; exact h4 j hj, k5, k6⟩
        · exact ⟨k1, k2, fun j hj => by rw [brg_at, if_neg (by omega)]; exact h3 j hj, nw, k5, k6⟩
      · have q2 := of_decide_eq_false q2
        rw [if_neg (fun z => q2 z.2), if_neg q2] at h
        exact h I J hM smC.rf
    · rw [if_neg (fun z => by rw [q] at z; exact absurd z.1 (by decide)), if_neg (by rw [q]; decide)] at h
      exact h I J hM smC.rf
  · unfold tImage
    split
    · obtain ⟨a, b, c, e, f, k, l, m⟩ := hk
      unfold setG
      split
      · exact ⟨a, a, c, e, f, k, l, m⟩
      · exact ⟨a, b, a, e, f, k, l, m⟩
    · exact hk
