-- restore
def gk (σ : ST) (k : Nat) : NF := if k = 0 then sG0 σ else sG1 σ
theorem gk_ok {σ : ST} (h : okT σ) (k : Nat) : okF (gk σ k) := by unfold gk; split; exact h.2.1; exact h.2.2.1
theorem gk_C {I : IT} {J : JT} {σ : ST} (h : RelC I J σ) {k : Nat} (hk : k < 2) : FlC I (80 + 8 * k) (gk σ k) := by
  have hk' : k = 0 ∨ k = 1 := by omega
  rcases hk' with rfl | rfl
  · exact h.2.2.1
  · exact h.2.2.2.1
theorem gk_M {I : IT} {J : JT} {σ : ST} (h : RelM I J σ) {k : Nat} (hk : k < 2) : MF I (80 + 80 * k) (gk σ k) := by
  have hk' : k = 0 ∨ k = 1 := by omega
  rcases hk' with rfl | rfl
  · exact h.2.2.1
  · exact h.2.2.2.1
def vRestore (v : Int32) (σ : ST) : Int32 := if inN v 2 then (if 0 < gk σ v.toNatClampNeg 0 then nI (gk σ v.toNatClampNeg 57) else -2) else -1
def tRestore (v : Int32) (σ : ST) : ST := if inN v 2 = true ∧ 0 < gk σ v.toNatClampNeg 0 then (gk σ v.toNatClampNeg, sG0 σ, sG1 σ, [], sT σ, sS σ, sX σ) else σ
theorem e_restore {g : GT} (a0 : Int32) : EQI g Rel M_X7_restore M_X8_restore [.int a0] := by
  refine eqI_of (vRestore a0) (tRestore a0) (fun σ I J P hk hC h => ?_) (fun σ I J P hk hM h => ?_) (fun σ hk => ?_)
  · refine w_X7_restore (by omega) ?_
    unfold VC_X7_restore
    unfold vRestore tRestore at h
    refine rng' (n := 2) (by decide) (fun q => ?_) (fun q => ?_)
    · rw [if_neg (fun z => by rw [q] at z; exact absurd z.1 (by decide)), if_neg (by rw [q]; decide)] at h
      exact h I J hC smM.rf
    · rw [if_pos q] at h
      obtain ⟨n, hn, rfl⟩ := inN_n q (by omega)
      rw [nI_cl (by omega)] at h ⊢
      have hG := gk_C hC hn
      have hGo := gk_ok hk n
      refine ⟨vp_in_nI hn (by omega), s_X2_stands (isF_19 n hn) hG hGo ⟨fun q2 => ⟨vp_in_nI hn (by omega), ?_⟩, fun q2 => ?_⟩⟩
      · have q2 := of_decide_eq_true q2
        rw [if_pos ⟨q, q2⟩, if_pos q2] at h
        refine s_X2_become (by omega) isF_3 (isF_19 n hn) (by omega) hG hGo (fun I1 b1 b2 => ?_)
        refine w_X0_forget ?_
        unfold VC_X0_forget
        show P (sI I1 20 3 0 3 7) (sI I1 20 3 0) J
        rw [sI_ne (a := 3) (by omega), b1.2.2.2.2.2.2]
        obtain ⟨h1, h2, h3, h4, ⟨h5, p, hp, h7, h8⟩, h6⟩ := hC
        have e : ∀ a, a ≠ 20 → (a < 3 ∨ 10 < a) → sI I1 20 3 0 a = I a := fun a h1 h2 => by rw [sI_ne h1, b2 a (by omega)]
        refine h _ J ⟨?_, b1.cg (fun a _ _ => sI_ne (by omega)), h3.cg (fun a _ _ => e a (by omega) (by omega)), h4.cg (fun a _ _ => e a (by omega) (by omega)), ⟨?_, p, hp, ?_, fun i s F hi => ?_⟩, h6.cg (fun a _ _ => e a (by omega) (by omega)) (fun _ _ _ => rfl)⟩ ⟨fun a ha => e a (by omega) (by omega), fun _ _ => rfl⟩
        · unfold RcT; rw [e 1 (by omega) (by omega), e 2 (by omega) (by omega)]; exact h1
        · rw [sI_at, if_pos ⟨rfl, rfl⟩]; rfl
        · rw [sI_at, if_neg (by omega), b2 20 (by omega)]; exact h7
        · exact absurd (show ([] : List (Nat × NF))[i]? = some (s, F) from hi) (by simp)
      · have q2 := of_decide_eq_false q2
        rw [if_neg (fun z => q2 z.2), if_neg q2] at h
        exact h I J hC smM.rf
  · refine w_X8_restore (by omega) ?_
    unfold VC_X8_restore
    unfold vRestore tRestore at h
    refine s_X8_inN (n := 2) (by decide) ⟨fun q => ?_, fun q => ?_⟩
    · rw [if_pos q] at h
      obtain ⟨n, hn, rfl⟩ := inN_n q (by omega)
      rw [nI_cl (by omega)] at h
      have hG := gk_M hM hn
      have hGo := gk_ok hk n
      have h6 := hGo.1
      rw [show (80 : Int32) + 80 * nI n = nI (80 + 80 * n) from by rw [show (80 : Int32) = nI 80 from rfl, pk_mul, nI_add], ix1 (80 + 80 * n) 0 0 rfl, nI_cl (by omega), hG 0 (by omega)]
      refine ⟨vp_in_nI (by omega) (by omega), fun q2 => ?_, fun q2 => ?_⟩
      · have q2 : 0 < gk σ n 0 := Nat.pos_of_ne_zero (fun z => q2 (by rw [z]; rfl))
        rw [if_pos ⟨q, q2⟩, if_pos q2] at h
        refine s_X8_bring (b := 0) (n := 80) (by omega) (by omega) (Or.inl (by omega)) ?_
        rw [sI_ne (by omega), brg_at, if_pos (by omega), show 80 + 80 * n + (57 - 0) = 80 + 80 * n + 57 from by omega, hG 57 (by omega)]
        have e : ∀ a, a ≠ 118 → a ≠ 119 → sI (brg I (80 + 80 * n) 0 80) 118 1 0 a = I a := fun a h1 h2 => by rw [sI_ne h1, brg_ne h2]
        refine h _ J ?_ ⟨fun a ha => e a (by omega) (by omega), fun _ _ => rfl⟩
        obtain ⟨h1, h2, h3, h4, h5, h6⟩ := hM
        refine ⟨⟨?_, fun j hj => ?_⟩, fun j hj => ?_, fun j hj => ?_, fun j hj => ?_, ⟨?_, fun i s F hi => ?_⟩, fun k hk => ?_⟩
        · rw [sI_at, if_neg (by omega), brg_ne (by omega)]; exact h1.1
        · rw [e 120 (by omega) (by omega)]; exact h1.2 j hj
        · rw [sI_ne (by omega), brg_at, if_pos (by omega), show 80 + 80 * n + (0 + j - 0) = 80 + 80 * n + j from by omega]; exact hG j hj
        · rw [sI_ne (by omega), brg_at, if_neg (by omega)]; exact h3 j hj
        · rw [sI_ne (by omega), brg_at, if_neg (by omega)]; exact h4 j hj
        · rw [sI_at, if_pos ⟨rfl, rfl⟩]; rfl
        · exact absurd (show ([] : List (Nat × NF))[i]? = some (s, F) from hi) (by simp)
        · rw [e 122 (by omega) (by omega), e 123 (by omega) (by omega)]; exact h6 k hk
      · have q2 : gk σ n 0 = 0 := (nI_eq (b := 0) (by omega) (by omega)).mp q2
        rw [if_neg (by omega), if_neg (by omega)] at h
        exact h I J hM smC.rf
    · rw [if_neg (fun z => by rw [q] at z; exact absurd z.1 (by decide)), if_neg (by rw [q]; decide)] at h
      exact h I J hM smC.rf
  · unfold tRestore
    split
    · obtain ⟨a, b, c, e, f, k, l, m⟩ := hk
      exact ⟨gk_ok ⟨a, b, c, e, f, k, l, m⟩ _, b, c, by show 0 ≤ 24; omega, trivial, k, l, m⟩
    · exact hk
-- believed
def blv (F : NF) (t : Nat) : Nat → Int32
  | 0 => 0
  | n + 1 => if tru (shipOf F n) t then blv F t n ||| (1 <<< (nI n &&& 31)) else blv F t n
def vBel (v : Int32) (σ : ST) : Int32 := if 0 < sF σ 0 ∧ inN v 4 = true then blv (sF σ) v.toNatClampNeg (sF σ 0) else -1
theorem s_X2_trusts {g : GT} {d : Nat} {I : IT} {J : JT} {o s t : Nat} {F : NF} {P : Bool → IT → JT → Prop} (hd : 1 ≤ d) (ho : isF o) (hC : FlC I o F) (hF : okF F) (hs : s < F 0) (ht : t < 4) (h : P (tru (shipOf F s) t) I J) : SemZ g d M_X2_trusts [.ref (ga g o), .int (nI s), .int (nI t)] I J P := by
  refine w_X2_trusts ho hd ?_
  unfold VC_X2_trusts
  have h6 := hF.1
  have hv : vp_in (nI s) 6 := vp_in_nI (by omega) (by omega)
  obtain ⟨b1, b2, b3, b4⟩ := hC.2.2.2.2.1 s hs
  have hk := hF.2.2.2.2.2.1 s hs
  rw [nI_cl (by omega), nI_cl (by omega), b1, b4, hC.2.2.2.2.2.1 t ht]
  refine ⟨vp_in_nI ht (by omega), hv, hv, s_X7_doubtBy ⟨hk.1, hk.2.1⟩ ht ?_⟩
  have hw := hk.2.2.2.2.2
  have hc := hF.2.2.2.2.1 t ht
  have hb : dbt (F (51 + s)) (F (70 + s)) t ≤ 10 := by unfold dbt; split <;> (try split) <;> (try split) <;> omega
  have e : tru (shipOf F s) t = decide (dbt (F (51 + s)) (F (70 + s)) t ≤ F (76 + t)) := rfl
  rw [e] at h
  refine ⟨fun q => ?_, fun q => ?_⟩
  · have q := (nI_ltI (by omega) (by omega)).mp q
    rw [decide_eq_false (by omega)] at h; exact h
  · have q : ¬ F (76 + t) < dbt (F (51 + s)) (F (70 + s)) t := fun z => q ((nI_ltI (by omega) (by omega)).mpr z)
    rw [decide_eq_true (by omega)] at h; exact h
theorem or_z (x : Int32) : x ||| 0 = x := by
  apply Int32.toBitVec_inj.mp
  simp
theorem e_believed {g : GT} (a0 : Int32) : EQI g Rel M_X7_believed M_X8_believed [.int a0] := by
  refine eqI_of (vBel a0) id (fun σ I J P hk hC h => ?_) (fun σ I J P hk hM h => ?_) (fun _ h => h)
  · have h := h I J hC smM.rf
    unfold vBel at h
    refine w_X7_believed (by omega) ?_
    unfold VC_X7_believed
    refine s_X2_stands isF_3 hC.2.1 hk.1 ⟨fun q => ?_, fun q => ?_⟩
    · rw [if_neg (fun z => of_decide_eq_false q z.1)] at h; exact h
    · refine s_X7_isTeller ⟨fun q2 => ?_, fun q2 => ?_⟩
      · rw [if_pos ⟨of_decide_eq_true q, q2⟩] at h
        obtain ⟨t, ht, rfl⟩ := inN_n q2 (by omega)
        rw [nI_cl (by omega)] at h
        have h6 := hk.1.1
        have loop : ∀ m n, n + m = sF σ 0 → Lp_X7_believed_23 g 40 (nI t) (blv (sF σ) t n) (nI n) I J P := by
          intro m
          induction m with
          | zero =>
            intro n hn
            refine w_X7_believed_23 (by omega) ?_
            unfold VC_X7_believed_23
            rw [hC.2.1.1, show n = sF σ 0 from by omega]
            exact ⟨fun _ => h, fun q => absurd (nI_le (Nat.le_refl _) (by omega)) q⟩
          | succ m ih =>
            intro n hn
            refine w_X7_believed_23 (by omega) ?_
            unfold VC_X7_believed_23
            rw [hC.2.1.1]
            refine ⟨fun q => absurd ((nI_leI (by omega) (by omega)).mp q) (by omega), fun _ => ?_⟩
            refine s_X2_trusts (by omega) isF_3 hC.2.1 hk.1 (by omega) ht ⟨fun q => ?_, fun q => ?_⟩
            · have := ih (n + 1) (by omega)
              rw [blv, if_neg (by rw [q]; decide)] at this
              rw [nI_one]; exact this
            · have := ih (n + 1) (by omega)
              rw [blv, if_pos q] at this
              rw [nI_one]; exact this
        exact loop (sF σ 0) 0 (by omega)
      · rw [if_neg (fun z => by rw [q2] at z; exact absurd z.2 (by decide))] at h; exact h
  · have h := h I J hM smC.rf
    unfold vBel at h
    refine w_X8_believed (by omega) ?_
    unfold VC_X8_believed
    refine s_X8_isFleet hM.2.1 hk.1 ⟨fun q => ?_, fun q => ?_⟩
    · rw [if_neg (fun z => of_decide_eq_false q z.1)] at h; exact h
    · refine s_X8_isTeller (by omega) ⟨fun q2 => ?_, fun q2 => ?_⟩
      · rw [if_pos ⟨of_decide_eq_true q, q2⟩] at h
        obtain ⟨t, ht, rfl⟩ := inN_n q2 (by omega)
        rw [nI_cl (by omega)] at h
        have h6 := hk.1.1
        have loop : ∀ m n, n + m = sF σ 0 → Lp_X8_believed_20 g 40 (nI t) (blv (sF σ) t n) (nI n) I J P := by
          intro m
          induction m with
          | zero =>
            intro n hn
            refine w_X8_believed_20 (by omega) ?_
            unfold VC_X8_believed_20
            rw [hM.2.1.a0 0 (by omega), show n = sF σ 0 from by omega]
            exact ⟨fun _ => h, fun q => absurd (nI_le (Nat.le_refl _) (by omega)) q⟩
          | succ m ih =>
            intro n hn
            refine w_X8_believed_20 (by omega) ?_
            unfold VC_X8_believed_20
            rw [hM.2.1.a0 0 (by omega)]
            refine ⟨fun q => absurd ((nI_leI (by omega) (by omega)).mp q) (by omega), fun _ => ?_⟩
            refine s_X8_believesIn (r := 0) (F := sF σ) (by omega) (by omega) (by omega) (hM.2.1.ship (by omega)) (hk.1.ship (by omega)) ht ⟨fun q => ?_, fun q => ?_⟩
            · have := ih (n + 1) (by omega)
              rw [blv, if_neg (by rw [q]; decide)] at this
              rw [nI_one, or_z]; exact this
            · have := ih (n + 1) (by omega)
              rw [blv, if_pos q] at this
              rw [nI_one]; exact this
        exact loop (sF σ 0) 0 (by omega)
      · rw [if_neg (fun z => by rw [q2] at z; exact absurd z.2 (by decide))] at h; exact h
