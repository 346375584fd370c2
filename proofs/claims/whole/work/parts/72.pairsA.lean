theorem nI_one (n : Nat) : nI n + 1 = nI (n + 1) := nI_1 n
abbrev setT (σ : ST) (T : Nat × NF) : ST := (sF σ, sG0 σ, sG1 σ, sA σ, T, sS σ, sX σ)
abbrev setF (σ : ST) (F : NF) : ST := (F, sG0 σ, sG1 σ, sA σ, sT σ, sS σ, sX σ)
theorem RelC.tape {I I' : IT} {J : JT} {σ : ST} {T : Nat × NF} (h : RelC I J σ) (hT : RcT I' T) (e : ∀ a, a ≠ 1 → a ≠ 2 → I' a = I a) : RelC I' J (setT σ T) :=
  ⟨hT, h.2.1.cg (fun a _ _ => e a (by omega) (by omega)), h.2.2.1.cg (fun a _ _ => e a (by omega) (by omega)), h.2.2.2.1.cg (fun a _ _ => e a (by omega) (by omega)), h.2.2.2.2.1.cg (fun a _ _ => e a (by omega) (by omega)), h.2.2.2.2.2.cg (fun a _ _ => e a (by omega) (by omega)) (fun _ _ _ => rfl)⟩
theorem RelM.tape {I I' : IT} {J : JT} {σ : ST} {T : Nat × NF} (h : RelM I J σ) (hT : RmT I' T) (e : ∀ a, a ≠ 118 → a ≠ 120 → I' a = I a) (e1 : I' 118 1 = I 118 1) : RelM I' J (setT σ T) := by
  refine ⟨hT, ?_, ?_, ?_, ?_, ?_⟩
  · intro j hj; rw [e 119 (by omega) (by omega)]; exact h.2.1 j hj
  · intro j hj; rw [e 119 (by omega) (by omega)]; exact h.2.2.1 j hj
  · intro j hj; rw [e 119 (by omega) (by omega)]; exact h.2.2.2.1 j hj
  · refine ⟨by rw [e1]; exact h.2.2.2.2.1.1, fun i s F hi j hj => ?_⟩
    rw [e 119 (by omega) (by omega)]; exact h.2.2.2.2.1.2 i s F hi j hj
  · intro k hk
    rw [e 122 (by omega) (by omega), e 123 (by omega) (by omega)]; exact h.2.2.2.2.2 k hk
-- feed
def vFeed (v : Int32) (σ : ST) : Int32 := if inN v 256 then (if (sT σ).1 < 130 then nI ((sT σ).1 + 1) else -3) else -1
def tFeed (v : Int32) (σ : ST) : ST := if inN v 256 = true ∧ (sT σ).1 < 130 then setT σ ((sT σ).1 + 1, fun j => if j = (sT σ).1 then v.toNatClampNeg else (sT σ).2 j) else σ
theorem feed7 {g : GT} {d : Nat} {v : Int32} {σ : ST} {I : IT} {J : JT} {P : Int32 → IT → JT → Prop} (hd : 1 ≤ d) (hk : okT σ) (hC : RelC I J σ) (h : ∀ I' J', RelC I' J' (tFeed v σ) → smM I J I' J' → P (vFeed v σ) I' J') : SemI g d M_X7_feed [.ref (ga g 0), .int v] I J P := by
  refine w_X7_feed hd ?_
  unfold VC_X7_feed
  have h0 : (0 : Int32).toInt = 0 := by decide
  have h255 : (255 : Int32).toInt = 255 := by decide
  have hTl := hk.2.2.2.2.2.1
  by_cases hin : inN v 256 = true
  · obtain ⟨n, hn, rfl⟩ := inN_n hin (by omega)
    refine ⟨fun q => absurd q (nI_pos (by omega)), fun _ => ⟨fun _ => ?_, fun q => absurd (nI_le (b := 255) (by omega) (by omega)) q⟩⟩
    refine w_X5_add ?_
    unfold VC_X5_add
    rw [hC.1.1]
    by_cases hl : (sT σ).1 < 130
    · refine ⟨fun _ => ⟨vp_in_nI hl (by omega), ⟨fun q => (by cases q), fun _ => ?_⟩⟩, fun q => absurd (nI_lt (b := 130) hl (by omega)) q⟩
      have e1 : tFeed (nI n) σ = setT σ ((sT σ).1 + 1, fun j => if j = (sT σ).1 then n else (sT σ).2 j) := by unfold tFeed; rw [if_pos ⟨hin, hl⟩, nI_cl (by omega)]
      have e2 : vFeed (nI n) σ = nI ((sT σ).1 + 1) := by unfold vFeed; rw [if_pos hin, if_pos hl]
      rw [e1, e2] at h
      rw [nI_cl (by omega)]
      have e3 : sI I 2 (sT σ).1 (nI n) 1 1 + 1 = nI ((sT σ).1 + 1) := by rw [sI_at, if_neg (by omega), hC.1.1, nI_one]
      rw [e3]
      have e4 : sI (sI I 2 (sT σ).1 (nI n)) 1 1 (nI ((sT σ).1 + 1)) 1 1 = nI ((sT σ).1 + 1) := by rw [sI_at, if_pos ⟨rfl, rfl⟩]
      rw [e4]
      refine h _ _ (hC.tape ⟨e4, fun j hj => ?_⟩ (fun a h1 h2 => by rw [sI_ne h1, sI_ne h2])) ⟨fun a ha => by rw [sI_ne (by omega), sI_ne (by omega)], fun _ _ => rfl⟩
      rw [sI_at, if_neg (by omega), sI_at]
      show _ = nI (if j = (sT σ).1 then n else (sT σ).2 j)
      by_cases hj2 : j = (sT σ).1
      · rw [if_pos ⟨rfl, hj2⟩, if_pos hj2]
      · rw [if_neg (fun q => hj2 q.2), if_neg hj2]
        exact hC.1.2 j (by show j < (sT σ).1; have : j < (sT σ).1 + 1 := hj; omega)
    · refine ⟨fun q => absurd q (nI_nlt (b := 130) (by omega) (by omega)), fun _ => ⟨fun _ => ?_, fun q => (by cases q)⟩⟩
      have e1 : tFeed (nI n) σ = σ := by unfold tFeed; rw [if_neg (fun q => hl q.2)]
      have e2 : vFeed (nI n) σ = -3 := by unfold vFeed; rw [if_pos hin, if_neg hl]
      rw [e1, e2] at h
      exact h I J hC smM.rf
  · have e1 : tFeed v σ = σ := by unfold tFeed; rw [if_neg (fun q => hin q.1)]
    have e2 : vFeed v σ = -1 := by unfold vFeed; rw [if_neg hin]
    rw [e1, e2] at h
    refine ⟨fun _ => h I J hC smM.rf, fun h1 => ⟨fun h2 => ?_, fun _ => h I J hC smM.rf⟩⟩
    exfalso; apply hin
    rw [Int32.lt_iff_toInt_lt, h0] at h1
    rw [Int32.le_iff_toInt_le, h255] at h2
    unfold inN; exact decide_eq_true (by omega)
theorem feed8 {g : GT} {d : Nat} {v : Int32} {σ : ST} {I : IT} {J : JT} {P : Int32 → IT → JT → Prop} (hd : 1 ≤ d) (hk : okT σ) (hM : RelM I J σ) (h : ∀ I' J', RelM I' J' (tFeed v σ) → smC I J I' J' → P (vFeed v σ) I' J') : SemI g d M_X8_feed [.ref (ga g 118), .int v] I J P := by
  refine w_X8_feed hd ?_
  unfold VC_X8_feed
  have hTl := hk.2.2.2.2.2.1
  refine s_X8_inN (n := 256) (by decide) ?_
  refine ⟨fun hin => ?_, fun hin => ?_⟩
  · obtain ⟨n, hn, rfl⟩ := inN_n hin (by omega)
    rw [hM.1.1]
    by_cases hl : (sT σ).1 < 130
    · refine ⟨fun _ => ⟨vp_in_nI hl (by omega), ?_⟩, fun q => absurd ((nI_eq (b := 130) (by omega) (by omega)).mp q) (by omega)⟩
      have e1 : tFeed (nI n) σ = setT σ ((sT σ).1 + 1, fun j => if j = (sT σ).1 then n else (sT σ).2 j) := by unfold tFeed; rw [if_pos ⟨hin, hl⟩, nI_cl (by omega)]
      have e2 : vFeed (nI n) σ = nI ((sT σ).1 + 1) := by unfold vFeed; rw [if_pos hin, if_pos hl]
      rw [e1, e2] at h
      rw [nI_cl (by omega)]
      have e3 : sI I 120 (sT σ).1 (nI n) 118 3 + 1 = nI ((sT σ).1 + 1) := by rw [sI_at, if_neg (by omega), hM.1.1, nI_one]
      rw [e3]
      have e4 : sI (sI I 120 (sT σ).1 (nI n)) 118 3 (nI ((sT σ).1 + 1)) 118 3 = nI ((sT σ).1 + 1) := by rw [sI_at, if_pos ⟨rfl, rfl⟩]
      rw [e4]
      refine h _ _ (hM.tape ⟨e4, fun j hj => ?_⟩ (fun a h1 h2 => by rw [sI_ne h1, sI_ne h2]) (by rw [sI_at, if_neg (by omega), sI_at, if_neg (by omega)])) ⟨fun a ha => by rw [sI_ne (by omega), sI_ne (by omega)], fun _ _ => rfl⟩
      rw [sI_at, if_neg (by omega), sI_at]
      show _ = nI (if j = (sT σ).1 then n else (sT σ).2 j)
      by_cases hj2 : j = (sT σ).1
      · rw [if_pos ⟨rfl, hj2⟩, if_pos hj2]
      · rw [if_neg (fun q => hj2 q.2), if_neg hj2]
        exact hM.1.2 j (by show j < (sT σ).1; have : j < (sT σ).1 + 1 := hj; omega)
    · have e130 : (sT σ).1 = 130 := by omega
      have e1 : tFeed (nI n) σ = σ := by unfold tFeed; rw [if_neg (fun q => hl q.2)]
      have e2 : vFeed (nI n) σ = -3 := by unfold vFeed; rw [if_pos hin, if_neg hl]
      rw [e1, e2] at h
      refine ⟨fun q => absurd (by rw [e130]; rfl) q, fun _ => h I J hM smC.rf⟩
  · have hin' : ¬ inN v 256 = true := by rw [hin]; decide
    have e1 : tFeed v σ = σ := by unfold tFeed; rw [if_neg (fun q => hin' q.1)]
    have e2 : vFeed v σ = -1 := by unfold vFeed; rw [if_neg hin']
    rw [e1, e2] at h
    exact h I J hM smC.rf
theorem feed_ok (v : Int32) (σ : ST) (h : okT σ) : okT (tFeed v σ) := by
  unfold tFeed
  split
  · rename_i hc
    obtain ⟨a, b, c, e, f, k, l, m⟩ := h
    refine ⟨a, b, c, e, f, by show (sT σ).1 + 1 ≤ 130; omega, fun j hj => ?_, m⟩
    show (if j = (sT σ).1 then v.toNatClampNeg else (sT σ).2 j) < 256
    obtain ⟨n, hn, rfl⟩ := inN_n hc.1 (by omega)
    split
    · rw [nI_cl (by omega)]; exact hn
    · exact l j (by have : j < (sT σ).1 + 1 := hj; omega)
  · exact h
theorem e_feed {g : GT} (a0 : Int32) : EQI g Rel M_X7_feed M_X8_feed [.int a0] :=
  eqI_of (vFeed a0) (tFeed a0) (fun _ _ _ _ hk hC h => feed7 (by omega) hk hC h) (fun _ _ _ _ hk hM h => feed8 (by omega) hk hM h) (feed_ok a0)
-- credit
def vCredit (v : Int32) (σ : ST) : Int32 := if 0 < sF σ 0 ∧ inN v 4 = true then nI (sF σ (76 + v.toNatClampNeg)) else -1
theorem credit7 {g : GT} {d : Nat} {v : Int32} {σ : ST} {I : IT} {J : JT} {P : Int32 → IT → JT → Prop} (hd : 1 ≤ d) (hk : okT σ) (hC : RelC I J σ) (h : P (vCredit v σ) I J) : SemI g d M_X7_credit [.ref (ga g 0), .int v] I J P := by
  refine w_X7_credit hd ?_
  unfold VC_X7_credit
  unfold vCredit at h
  refine s_X2_stands isF_3 hC.2.1 hk.1 ⟨fun h1 => ?_, fun h1 => ?_⟩
  · rw [if_neg (fun q => of_decide_eq_false h1 q.1)] at h; exact h
  · refine s_X7_isTeller ⟨fun h2 => ?_, fun h2 => ?_⟩
    · rw [if_neg (fun q => by rw [h2] at q; exact absurd q.2 (by decide))] at h; exact h
    · rw [if_pos ⟨of_decide_eq_true h1, h2⟩] at h
      obtain ⟨n, hn, rfl⟩ := inN_n h2 (by omega)
      rw [nI_cl (by omega)] at h ⊢
      refine ⟨vp_in_nI hn (by omega), ?_⟩
      rw [show I 10 n = nI (sF σ (76 + n)) from hC.2.1.2.2.2.2.2.1 n hn]
      exact h
theorem credit8 {g : GT} {d : Nat} {v : Int32} {σ : ST} {I : IT} {J : JT} {P : Int32 → IT → JT → Prop} (hd : 2 ≤ d) (hk : okT σ) (hM : RelM I J σ) (h : P (vCredit v σ) I J) : SemI g d M_X8_credit [.ref (ga g 118), .int v] I J P := by
  refine w_X8_credit (by omega) ?_
  unfold VC_X8_credit
  unfold vCredit at h
  refine s_X8_isFleet hM.2.1 hk.1 ⟨fun h1 => ?_, fun h1 => ?_⟩
  · rw [if_neg (fun q => of_decide_eq_false h1 q.1)] at h; exact h
  · refine s_X8_isTeller (by omega) ⟨fun h2 => ?_, fun h2 => ?_⟩
    · rw [if_neg (fun q => by rw [h2] at q; exact absurd q.2 (by decide))] at h; exact h
    · rw [if_pos ⟨of_decide_eq_true h1, h2⟩] at h
      obtain ⟨n, hn, rfl⟩ := inN_n h2 (by omega)
      rw [nI_cl (by omega)] at h
      rw [ix2 76 n 76 rfl, nI_cl (by omega)]
      refine ⟨vp_in_nI (by omega) (by omega), ?_⟩
      rw [show I 119 (76 + n) = nI (sF σ (76 + n)) from by have := hM.2.1 (76 + n) (by omega); rwa [Nat.zero_add] at this]
      exact h
theorem e_credit {g : GT} (a0 : Int32) : EQI g Rel M_X7_credit M_X8_credit [.int a0] :=
  eqI_of (vCredit a0) id (fun _ _ _ _ hk hC h => credit7 (by omega) hk hC (h _ _ hC smM.rf)) (fun _ _ _ _ hk hM h => credit8 (by omega) hk hM (h _ _ hM smC.rf)) (fun _ h => h)
