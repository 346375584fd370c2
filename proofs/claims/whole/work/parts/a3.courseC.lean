-- ===== courses: the reference =====
def cs_S (l : Nat → Nat) : Nat → Nat
  | 0 => 0
  | n + 1 => cs_S l n + l n
theorem cs_S_s {l : Nat → Nat} {n : Nat} : cs_S l (n + 1) = cs_S l n + l n := rfl
theorem cs_S_u {l : Nat → Nat} {x v : Nat} : ∀ n, (n ≤ x → cs_S (cr_u l x v) n = cs_S l n) ∧ (x < n → v < l x → cs_S (cr_u l x v) n < cs_S l n) := by
  intro n
  induction n with
  | zero => exact ⟨fun _ => rfl, fun h => absurd h (by omega)⟩
  | succ n ih =>
    rw [cs_S_s, cs_S_s]
    refine ⟨fun h => ?_, fun h hv => ?_⟩
    · have e : cr_u l x v n = l n := if_neg (by omega)
      rw [ih.1 (by omega), e]
    · by_cases z : n = x
      · have e : cr_u l x v n = v := if_pos z
        have i := ih.1 (by omega)
        rw [e, i, z]; omega
      · have e : cr_u l x v n = l n := if_neg z
        have i := ih.2 (by omega) hv
        rw [e]; omega
def cs_L (I : IT) (l : Nat → Nat) : Prop := ∀ x, x < 192 → I 124 x = nI (l x)
/-- what is laid down is never too little -/
def cs_V (nx : Nat → Nat → Option Nat) (c : Nat) (l : Nat → Nat) : Prop := ∀ x, x < 192 → l x ≤ 1000000 ∧ (x / 4 = c → l x = 0) ∧ (l x < 1000000 → cs_r nx (fun y => y / 4 = c) (l x) x)
theorem cs_V_u {nx : Nat → Nat → Option Nat} {c x w y : Nat} {l : Nat → Nat} (h : cs_V nx c l) (hw : w < 3) (e : nx x w = some y) (hx : x < 192) (hy : y < 192) (lt : l y + 1 < l x) : cs_V nx c (cr_u l x (l y + 1)) := by
  intro z hz
  obtain ⟨a1, a2, a3⟩ := h z hz
  obtain ⟨b1, b2, b3⟩ := h x hx
  obtain ⟨d1, d2, d3⟩ := h y hy
  by_cases q : z = x
  · have e5 : cr_u l x (l y + 1) z = l y + 1 := if_pos q
    rw [e5]
    refine ⟨by omega, fun r => ?_, fun r => ?_⟩
    · rw [q] at r
      have := b2 r
      omega
    · rw [q]
      exact ⟨w, y, hw, e, d3 (by omega)⟩
  · have e5 : cr_u l x (l y + 1) z = l z := if_neg q
    rw [e5]
    exact ⟨a1, a2, a3⟩
theorem cs_L1 {F : NF} {κ c : Nat} {tr : Bool} {l : Nat → Nat} (hW : okW F) (hV : cs_V (cs_n F κ tr) c l) (hf : ∀ x w y, cs_v F x → w < 3 → cs_n F κ tr x w = some y → l x ≤ l y + 1) : ∀ n x, cs_v F x → cs_r (cs_n F κ tr) (fun y => y / 4 = c) n x → l x ≤ n := by
  intro n
  induction n with
  | zero =>
    intro x hx hr
    exact Nat.le_of_eq ((hV x (cs_v_lt hW hx)).2.1 hr)
  | succ n ih =>
    intro x hx hr
    obtain ⟨w, y, hw, e, hr⟩ := hr
    have a := ih y (cs_n_v hW e) hr
    have b := hf x w y hx hw e
    omega
section CSR
variable {g : GT} {d : Nat} {I : IT} {J : JT}
theorem s_X8_leads {s x w : Nat} {tr : Bool} {F : NF} {P : Int32 → IT → JT → Prop} (hd : 3 ≤ d) (hM : MF I 0 F) (hF : okF F) (hs : s < F 0) (hv : cs_v F x) (hw : w < 3) (h1 : cs_n F (F (51 + s)) tr x w = none → P (-1) I J) (h2 : ∀ y, cs_n F (F (51 + s)) tr x w = some y → P (nI y) I J) : SemI g d M_X8_leads [.ref (ga g 118), .int (nI s), .int (bI tr), .int (nI x), .int (nI w)] I J P := by
  have hW := hF.W
  have h6 := hF.1
  have hx := cs_v_lt hW hv
  have ok := hF.2.2.2.2.2.1 s hs
  have k5 := ok.2.1
  have e4 : nI x / 4 = nI (x / 4) := pk_div (d := 4) (by omega) (by omega) (by omega)
  have m4 : nI x - nI x / 4 * 4 = nI (x % 4) := pk_rem (d := 4) (by omega) (by omega) (by omega)
  have l4 : x % 4 < 4 := Nat.mod_lt _ (by omega)
  have body : ∀ l, cs_l (F (51 + s)) tr x w = l → SemI g (d - 1) M_X8_nextOf [.ref (ga g 118), .int 0, .int (nI (x / 4)), .int (nI l)] I J (fun r75 I75 J75 => ((0 ≤ r75 → P ((4 * r75) + nI l) I75 J75) ∧ (¬ 0 ≤ r75 → P (-1) I75 J75))) := by
    intro l hl
    have hl4 : l < 4 := by rw [← hl]; exact cs_l_lt
    refine s_X8_nextOf (r := 0) (F := F) (by omega) (by omega) hM.sea hW hv.1 hv.2 hl4 (fun hn => ⟨fun z => absurd z (by decide), fun _ => h1 ?_⟩) (fun q hq => ?_)
    · unfold cs_n; rw [hl, hn]; rfl
    · obtain ⟨q8, -, -⟩ := nxt_ok hq hW
      have w1 := hW.1
      refine ⟨fun _ => ?_, fun z => absurd (nI_pos' (by omega)) z⟩
      have e8 : 4 * nI q + nI l = nI (4 * q + l) := by rw [show (4 : Int32) = nI 4 from rfl, pk_mul, nI_add]
      rw [e8]
      exact h2 _ (by unfold cs_n; rw [hl, hq]; rfl)
  have fin : ∀ u, u < 3 → u = (if F (51 + s) = 5 then mir w else w) → Lp_X8_leads_27 g d tr (nI x) (nI u) I J P := by
    intro u hu3 hu
    refine w_X8_leads_27 (by omega) ?_
    unfold VC_X8_leads_27
    rw [m4, e4, t3 _ l4, t1 _ l4, t0 _ l4]
    refine ⟨fun z => ⟨fun q1 => ⟨fun q2 => ?_, fun q2 => ?_⟩, fun q1 => ?_⟩, fun z => ?_⟩
    · have q1 : u ≠ 1 := fun y => q1 (by rw [y]; rfl)
      have q2 : u ≠ 2 := fun y => q2 (by rw [y]; rfl)
      exact body (x % 4) (by unfold cs_l; rw [if_pos z]; unfold trn; rw [← hu, if_neg q1, if_neg q2])
    · have q1 : u ≠ 1 := fun y => q1 (by rw [y]; rfl)
      have q2 : u = 2 := (nI_eq (b := 2) (by omega) (by omega)).mp q2
      exact body ((x % 4 + 1) % 4) (by unfold cs_l; rw [if_pos z]; unfold trn; rw [← hu, if_neg q1, if_pos q2])
    · have q1 : u = 1 := (nI_eq (b := 1) (by omega) (by omega)).mp q1
      exact body ((x % 4 + 3) % 4) (by unfold cs_l; rw [if_pos z]; unfold trn; rw [← hu, if_pos q1])
    · exact body (x % 4) (by unfold cs_l; rw [if_neg (by rw [z]; decide)])
  refine w_X8_leads ?_
  unfold VC_X8_leads
  rw [ix2 51 s 51 rfl, nI_cl (n := 51 + s) (by omega), hM.a0 (51 + s) (by omega)]
  refine ⟨vp_in_nI (by omega) (by omega), fun z => fin w hw ?_, fun z => ⟨fun y => fin w hw ?_, fun y => ?_⟩⟩
  · rw [if_neg (fun v => z (by rw [v]; rfl))]
  · have z5 := (nI_eq (b := 5) (by omega) (by omega)).mp z
    have w0 := (nI_leI (b := 0) (by omega) (by omega)).mp y
    have w0 : w = 0 := by omega
    subst w0
    rw [if_pos z5]; rfl
  · have z5 := (nI_eq (b := 5) (by omega) (by omega)).mp z
    rcases w3 hw with rfl | rfl | rfl
    · exact absurd (by decide) y
    · have e : (3 : Int32) - nI 1 = nI 2 := by decide
      rw [e]
      exact fin 2 (by omega) (by rw [if_pos z5]; rfl)
    · have e : (3 : Int32) - nI 2 = nI 1 := by decide
      rw [e]
      exact fin 1 (by omega) (by rw [if_pos z5]; rfl)
theorem s_X8_laysLeft {s c : Nat} {tr : Bool} {F : NF} {P : IT → JT → Prop} (hd : 4 ≤ d) (hM : MF I 0 F) (hF : okF F) (hs : s < F 0) (hc : c < 48) (h : ∀ I' l, (∀ a, a ≠ 124 → I' a = I a) → cs_L I' l → cs_V (cs_n F (F (51 + s)) tr) c l → (∀ x w y, cs_v F x → w < 3 → cs_n F (F (51 + s)) tr x w = some y → l x ≤ l y + 1) → P I' J) : SemV g d M_X8_laysLeft [.ref (ga g 118), .int (nI s), .int (bI tr), .int (nI c)] I J P := by
  have hW := hF.W
  have h6 := hF.1
  refine w_X8_laysLeft ?_
  unfold VC_X8_laysLeft
  have main : ∀ M (I1 : IT) l, cs_S l 192 < M → (∀ a, a ≠ 124 → I1 a = I a) → cs_L I1 l → cs_V (cs_n F (F (51 + s)) tr) c l → Lp_X8_laysLeft_41 g d (nI s) tr 1 I1 J P := by
    intro M
    induction M with
    | zero => intro I1 l hl; exact absurd hl (by omega)
    | succ M ihM =>
      intro I1 l hl f1 L1 V1
      refine w_X8_laysLeft_41 ?_
      unfold VC_X8_laysLeft_41
      refine ⟨fun z => absurd z (by decide), fun _ => ?_⟩
      refine upTo (Q := fun k => ∀ (I2 : IT) l2 (mo : Int32), (∀ a, a ≠ 124 → I2 a = I a) → cs_L I2 l2 → cs_V (cs_n F (F (51 + s)) tr) c l2 → cs_S l2 192 ≤ cs_S l 192 → ((mo = 0 ∧ ∀ x w y, x < k → cs_v F x → w < 3 → cs_n F (F (51 + s)) tr x w = some y → l2 x ≤ l2 y + 1) ∨ (mo = 1 ∧ cs_S l2 192 < cs_S l 192)) → Lp_X8_laysLeft_52 g d (nI s) tr mo (nI k) I2 J P) (N := 192) (fun I2 l2 mo f2 L2 V2 S2 or2 => ?_) (fun k hk ih I2 l2 mo f2 L2 V2 S2 or2 => ?_) I1 l 0 f1 L1 V1 (Nat.le_refl _) (Or.inl ⟨rfl, fun x w y hx => absurd hx (by omega)⟩)
      · refine w_X8_laysLeft_52 (by omega) ?_
        unfold VC_X8_laysLeft_52
        refine ⟨fun _ => ?_, fun z => absurd (nI_le (Nat.le_refl 192) (by omega)) z⟩
        rcases or2 with ⟨rfl, fx⟩ | ⟨rfl, lt⟩
        · refine w_X8_laysLeft_41 ?_
          unfold VC_X8_laysLeft_41
          exact ⟨fun _ => h I2 l2 f2 L2 V2 (fun x w y vx hw e => fx x w y (cs_v_lt hW vx) vx hw e), fun z => absurd rfl z⟩
        · exact ihM I2 l2 (by omega) f2 L2 V2
      · refine w_X8_laysLeft_52 (by omega) ?_
        unfold VC_X8_laysLeft_52
        have e4 : nI k / 4 = nI (k / 4) := pk_div (d := 4) (by omega) (by omega) (by omega)
        have hM2 : MF I2 0 F := fun j hj => by rw [f2 119 (by omega)]; exact hM j hj
        rw [nI_one, e4]
        refine ⟨fun z => absurd ((nI_leI (a := 192) (by omega) (by omega)).mp z) (by omega), fun _ => s_X8_isCell (F := F) (by omega) (hM2.a0 1 (by omega)) (hM2.a0 2 (by omega)) hW ?_⟩
        rw [cOK_i (by omega)]
        refine ⟨fun z => ?_, fun z => ?_⟩
        · have z := of_decide_eq_false z
          refine ih I2 l2 mo f2 L2 V2 S2 ?_
          rcases or2 with ⟨m0, fx⟩ | r
          · refine Or.inl ⟨m0, fun x w y hx vx hw e => ?_⟩
            by_cases q : x = k
            · rw [q] at vx; exact absurd vx z
            · exact fx x w y (by omega) vx hw e
          · exact Or.inr r
        · have z := of_decide_eq_true z
          have vk : cs_v F k := z
          refine upTo (Q := fun w => ∀ (I3 : IT) l3 (mo3 : Int32), (∀ a, a ≠ 124 → I3 a = I a) → cs_L I3 l3 → cs_V (cs_n F (F (51 + s)) tr) c l3 → cs_S l3 192 ≤ cs_S l 192 → ((mo3 = 0 ∧ (∀ x w y, x < k → cs_v F x → w < 3 → cs_n F (F (51 + s)) tr x w = some y → l3 x ≤ l3 y + 1) ∧ (∀ w' y, w' < w → cs_n F (F (51 + s)) tr k w' = some y → l3 k ≤ l3 y + 1)) ∨ (mo3 = 1 ∧ cs_S l3 192 < cs_S l 192)) → Lp_X8_laysLeft_74 g d (nI s) tr mo3 (nI k) (nI w) I3 J P) (N := 3) (fun I3 l3 mo3 f3 L3 V3 S3 or3 => ?_) (fun w hw ih3 I3 l3 mo3 f3 L3 V3 S3 or3 => ?_) I2 l2 mo f2 L2 V2 S2 ?_
          · refine w_X8_laysLeft_74 (by omega) ?_
            unfold VC_X8_laysLeft_74
            rw [nI_one]
            refine ⟨fun _ => ih I3 l3 mo3 f3 L3 V3 S3 ?_, fun y => absurd (nI_le (Nat.le_refl 3) (by omega)) y⟩
            rcases or3 with ⟨m0, fx, fk⟩ | r
            · refine Or.inl ⟨m0, fun x w y hx vx hw e => ?_⟩
              by_cases q : x = k
              · rw [q] at e ⊢; exact fk w y hw e
              · exact fx x w y (by omega) vx hw e
            · exact Or.inr r
          · refine w_X8_laysLeft_74 (by omega) ?_
            unfold VC_X8_laysLeft_74
            have hM3 : MF I3 0 F := fun j hj => by rw [f3 119 (by omega)]; exact hM j hj
            rw [nI_one (n := w), nI_cl (n := k) (by omega)]
            have lk := (V3 k hk).1
            refine ⟨fun y => absurd ((nI_leI (a := 3) (by omega) (by omega)).mp y) (by omega), fun _ => s_X8_leads (F := F) (by omega) hM3 hF hs vk hw (fun e => ⟨fun _ => ?_, fun y => absurd (by decide) y⟩) (fun y e => ?_)⟩
            · refine ih3 I3 l3 mo3 f3 L3 V3 S3 ?_
              rcases or3 with ⟨m0, fx, fk⟩ | r
              · refine Or.inl ⟨m0, fx, fun w' y' hw' e' => ?_⟩
                by_cases q : w' = w
                · rw [q, e] at e'; cases e'
                · exact fk w' y' (by omega) e'
              · exact Or.inr r
            · have hy := cs_v_lt hW (cs_n_v hW e)
              have ly := (V3 y hy).1
              rw [nI_cl (n := y) (by omega), L3 y hy, L3 k hk, nI_one (n := l3 y)]
              refine ⟨fun q => absurd q (nI_pos (by omega)), fun _ => ⟨vp_in_nI hy (by omega), vp_in_nI hk (by omega), fun q => ?_, fun q => ⟨vp_in_nI hy (by omega), vp_in_nI hk (by omega), ?_⟩⟩⟩
              · have q := (nI_leI (by omega) (by omega)).mp q
                refine ih3 I3 l3 mo3 f3 L3 V3 S3 ?_
                rcases or3 with ⟨m0, fx, fk⟩ | r
                · refine Or.inl ⟨m0, fx, fun w' y' hw' e' => ?_⟩
                  by_cases q2 : w' = w
                  · rw [q2, e] at e'
                    have e' := Option.some.inj e'
                    rw [← e']; exact q
                  · exact fk w' y' (by omega) e'
                · exact Or.inr r
              · have q : ¬ l3 k ≤ l3 y + 1 := fun v => q ((nI_leI (by omega) (by omega)).mpr v)
                have sm := (cs_S_u (l := l3) (x := k) (v := l3 y + 1) 192).2 hk (by omega)
                refine ih3 (sI I3 124 k (nI (l3 y + 1))) (cr_u l3 k (l3 y + 1)) 1 (fun a ha => by rw [sI_ne ha]; exact f3 a ha) (fun x hx => ?_) (cs_V_u V3 hw e hk hy (by omega)) (by omega) (Or.inr ⟨rfl, by omega⟩)
                rw [sI_at]
                by_cases q2 : x = k
                · have e5 : cr_u l3 k (l3 y + 1) x = l3 y + 1 := if_pos q2
                  rw [if_pos ⟨rfl, q2⟩, e5]
                · have e5 : cr_u l3 k (l3 y + 1) x = l3 x := if_neg q2
                  rw [if_neg (fun v => q2 v.2), e5]; exact L3 x hx
          · rcases or2 with ⟨m0, fx⟩ | r
            · exact Or.inl ⟨m0, fx, fun w' y' hw' => absurd hw' (by omega)⟩
            · exact Or.inr r
  refine upTo (Q := fun k => ∀ I1 : IT, (∀ a, a ≠ 124 → I1 a = I a) → (∀ x, x < k → I1 124 x = nI (if x / 4 = c then 0 else 1000000)) → Lp_X8_laysLeft_3 g d (nI s) tr (nI c) (nI k) I1 J P) (N := 192) (fun I1 f1 L1 => ?_) (fun k hk ih I1 f1 L1 => ?_) I (fun _ _ => rfl) (fun x hx => absurd hx (by omega))
  · refine w_X8_laysLeft_3 ?_
    unfold VC_X8_laysLeft_3
    refine ⟨fun _ => main (cs_S (fun x => if x / 4 = c then 0 else 1000000) 192 + 1) I1 (fun x => if x / 4 = c then 0 else 1000000) (by omega) f1 L1 (fun x hx => ?_), fun z => absurd (nI_le (Nat.le_refl 192) (by omega)) z⟩
    show (if x / 4 = c then 0 else 1000000) ≤ 1000000 ∧ (x / 4 = c → (if x / 4 = c then 0 else 1000000) = 0) ∧ ((if x / 4 = c then 0 else 1000000) < 1000000 → cs_r (cs_n F (F (51 + s)) tr) (fun y => y / 4 = c) (if x / 4 = c then 0 else 1000000) x)
    by_cases q : x / 4 = c
    · rw [if_pos q]; exact ⟨by omega, fun _ => rfl, fun _ => q⟩
    · rw [if_neg q]; exact ⟨by omega, fun y => absurd y q, fun y => absurd y (by omega)⟩
  · refine w_X8_laysLeft_3 ?_
    unfold VC_X8_laysLeft_3
    have e4 : nI k / 4 = nI (k / 4) := pk_div (d := 4) (by omega) (by omega) (by omega)
    rw [nI_one, e4, nI_cl (n := k) (by omega)]
    have nxs : ∀ (v : Int32), v = nI (if k / 4 = c then 0 else 1000000) → Lp_X8_laysLeft_3 g d (nI s) tr (nI c) (nI (k + 1)) (sI I1 124 k v) J P := by
      intro v hv
      refine ih _ (fun a ha => by rw [sI_ne ha]; exact f1 a ha) (fun x hx => ?_)
      rw [sI_at]
      by_cases q : x = k
      · rw [if_pos ⟨rfl, q⟩, q]; exact hv
      · rw [if_neg (fun y => q y.2)]; exact L1 x (by omega)
    refine ⟨fun z => absurd ((nI_leI (a := 192) (by omega) (by omega)).mp z) (by omega), fun _ => ⟨fun z => ⟨vp_in_nI hk (by omega), nxs _ ?_⟩, fun z => ⟨vp_in_nI hk (by omega), nxs _ ?_⟩⟩⟩
    · rw [if_neg (fun y => z (by rw [y]))]; rfl
    · rw [if_pos ((nI_eq (by omega) (by omega)).mp z)]; rfl
theorem course8 {a0 a1 a2 a3 r : Int32} {σ : ST} {P : Int32 → IT → JT → Prop} (hk : okT σ) (hM : RelM I J σ) (hr : cs_R a0 a1 a2 a3 r σ) (h : ∀ I', RelM I' J σ → smC I J I' J → P r I' J) : SemI g 40 M_X8_course [.ref (ga g 118), .int a0, .int a1, .int a2, .int a3] I J P := by
  refine w_X8_course (by omega) ?_
  unfold VC_X8_course
  have h6 := hk.1.1
  have hW := hk.1.W
  have e1 := hM.2.1.a0 1 (by omega)
  have e2 := hM.2.1.a0 2 (by omega)
  rcases hr with ⟨nc, rfl⟩ | ⟨s, t, c, hs, ht, hc, c1, c2, rfl, rfl, rfl, p4, hr⟩
  · have bad : P (-1) I J := h I hM smC.rf
    refine s_X8_isShip (by omega) hM.2.1 hk.1 ⟨fun _ => bad, fun p1 => ?_⟩
    refine s_X8_isTeller (by omega) ⟨fun _ => bad, fun p2 => ?_⟩
    refine s_X8_isCell (F := sF σ) (by omega) e1 e2 hW ⟨fun _ => bad, fun p3 => ?_⟩
    exact ⟨fun p4 => absurd ⟨p1, p2, p3, p4⟩ nc, fun _ => bad⟩
  · have p1 : inN (nI s) (sF σ 0) = true := by rw [inN_i (by omega)]; exact decide_eq_true hs
    have p2 : inN (nI t) 4 = true := by rw [inN_i (by omega)]; exact decide_eq_true ht
    have p3 : cOK (nI c) (sF σ) = true := by rw [cOK_i (by omega)]; exact decide_eq_true ⟨c1, c2⟩
    refine s_X8_isShip (by omega) hM.2.1 hk.1 ⟨fun z => (ff z p1).elim, fun _ => ?_⟩
    refine s_X8_isTeller (by omega) ⟨fun z => (ff z p2).elim, fun _ => ?_⟩
    refine s_X8_isCell (F := sF σ) (by omega) e1 e2 hW ⟨fun z => (ff z p3).elim, fun _ => ?_⟩
    refine ⟨fun _ => ?_, fun z => absurd p4 z⟩
    have hv2 := hW.2.2 c hc
    rw [ix2 3 c 3 rfl, nI_cl (n := 3 + c) (by omega), hM.2.1.a0 (3 + c) (by omega)]
    refine ⟨vp_in_nI (by omega) (by omega), fun z => ?_, fun z => ?_⟩
    · have z : sF σ (3 + c) ≠ 1 := fun y => z (by rw [y]; rfl)
      rcases hr with ⟨r1, -⟩ | ⟨-, hr⟩
      · exact absurd r1 z
      refine s_X8_believesIn (r := 0) (F := sF σ) (by omega) (by omega) (by omega) (hM.2.1.ship (by omega)) (hk.1.ship hs) ht ?_
      refine s_X8_laysLeft (by omega) hM.2.1 hk.1 hs hc (fun I1 l f1 L1 V1 fx => ?_)
      have hM1 : MF I1 0 (sF σ) := fun j hj => by rw [f1 119 (by omega)]; exact hM.2.1 j hj
      have fin : P r I1 J := h I1 (hM.scr (by rw [f1 118 (by omega)]) (by rw [f1 118 (by omega)]) (fun j _ => by rw [f1 119 (by omega)]) (f1 120 (by omega)) (f1 122 (by omega)) (f1 123 (by omega)) rfl) ⟨fun a ha => f1 a (by omega), fun _ _ => rfl⟩
      have ok := hk.1.2.2.2.2.2.1 s hs
      have o1 := ok.2.2.1
      have o2 := ok.2.2.2.2.1
      have w1 := hW.1
      have vx : cs_v (sF σ) (4 * sF σ (58 + s) + sF σ (64 + s)) := by
        have e : (4 * sF σ (58 + s) + sF σ (64 + s)) / 4 = sF σ (58 + s) := by omega
        unfold cs_v
        rw [e]
        exact ⟨ok.2.2.1, ok.2.2.2.1⟩
      have hx := cs_v_lt hW vx
      have e8 : 4 * nI (sF σ (58 + s)) + nI (sF σ (64 + s)) = nI (4 * sF σ (58 + s) + sF σ (64 + s)) := by rw [show (4 : Int32) = nI 4 from rfl, pk_mul, nI_add]
      rw [ix2 58 s 58 rfl, ix2 64 s 64 rfl, nI_cl (n := 58 + s) (by omega), nI_cl (n := 64 + s) (by omega), hM1.a0 (58 + s) (by omega), hM1.a0 (64 + s) (by omega), e8, nI_cl (n := 4 * sF σ (58 + s) + sF σ (64 + s)) (by omega), L1 _ hx]
      have lx := (V1 _ hx).1
      refine ⟨vp_in_nI (by omega) (by omega), vp_in_nI (by omega) (by omega), vp_in_nI hx (by omega), ?_⟩
      rcases hr with ⟨f, Q, K, D, B, n, v, er⟩ | ⟨f, Q, K, D, k, B, hkf, n, e, v, er⟩
      · rw [er] at fin
        refine ⟨fun y => ?_, fun _ => fin⟩
        have y := (nI_ltI (b := 1000000) (by omega) (by omega)).mp y
        have := (V1 _ hx).2.2 y
        rw [← B.2.1] at this
        exact absurd this (cs_none (gl := fun y => y / 4 = c) B n _ 0 B.1)
      · have hf := cs_php 192 f Q (fun j hj => cs_v_lt hW (v j hj)) B.2.2.2.1
        have dk := cs_le B k k (Nat.le_refl _) hkf
        have A1 : ∀ j n, j < f → cs_r (cs_n (sF σ) (sF σ (51 + s)) (tru (shipOf (sF σ) s) t)) (fun y => y / 4 = c) n (Q j) → l (Q j) ≤ n := fun j n hj hr => cs_L1 hW V1 fx n (Q j) (v j hj) hr
        have A2 : ∀ j, j < f → l (Q j) < 1000000 → cs_r (cs_n (sF σ) (sF σ (51 + s)) (tru (shipOf (sF σ) s) t)) (fun y => y / 4 = c) (l (Q j)) (Q j) := fun j hj hl => (V1 (Q j) (cs_v_lt hW (v j hj))).2.2 hl
        have dist := cs_dist (gl := fun y => y / 4 = c) B hkf n e A1 A2 hf
        have ex : l (4 * sF σ (58 + s) + sF σ (64 + s)) = D k := by
          have := dist (D k) (Nat.le_refl _)
          rw [cs_A0 B hkf, B.2.1] at this
          exact this
        rw [ex]
        refine ⟨fun _ => ⟨fun y => ?_, fun y => ?_⟩, fun y => absurd (nI_lt (b := 1000000) (by omega) (by omega)) y⟩
        · obtain ⟨kk, hkk, rfl⟩ := nI_of (le_lt0 y)
          rw [if_neg (nI_pos hkk), nI_cl hkk] at er
          refine ⟨fun q => ?_, fun q => ?_⟩
          · have q := (nI_ltI hkk (by omega)).mp q
            rw [if_pos q] at er
            rw [er] at fin
            have lds : ∀ {m w : Nat} {P' : Int32 → IT → JT → Prop}, m ≤ D k → w < 3 → (cs_n (sF σ) (sF σ (51 + s)) (tru (shipOf (sF σ) s) t) (Q (cs_A K k m)) w = none → P' (-1) I1 J) → (∀ y, cs_n (sF σ) (sF σ (51 + s)) (tru (shipOf (sF σ) s) t) (Q (cs_A K k m)) w = some y → P' (nI y) I1 J) → SemI g (40 - 1) M_X8_leads [.ref (ga g 118), .int (nI s), .int (bI (tru (shipOf (sF σ) s) t)), .int (nI (Q (cs_A K k m))), .int (nI w)] I1 J P' := fun {m w P'} hm hw g1 g2 => s_X8_leads (by omega) hM1 hk.1 hs (v _ (by have := (cs_Ai B hkf m hm).1; omega)) hw g1 g2
            have st : 4 * sF σ (58 + s) + sF σ (64 + s) = Q (cs_A K k (D k - 0)) := by
              show _ = Q (cs_A K k (D k))
              rw [cs_A0 B hkf, B.2.1]
            rw [st]
            refine upTo (Q := fun m => ∀ v8 : Int32, (0 < m → v8 = nI (K (cs_A K k (D k - m)) % 3)) → Lp_X8_course_129 g 40 (nI s) (nI kk) (tru (shipOf (sF σ) s) t) (nI (Q (cs_A K k (D k - m)))) (nI (D k)) v8 (nI m) I1 J P) (N := kk + 1) (fun v8 hv8 => ?_) (fun m hm ih v8 hv8 => ?_) 0 (fun z => absurd z (by omega))
            · refine w_X8_course_129 ?_
              unfold VC_X8_course_129
              refine ⟨fun _ => ?_, fun z => absurd (nI_lt (by omega) (by omega)) z⟩
              rw [hv8 (by omega), show D k - (kk + 1) = D k - kk - 1 from by omega]; exact fin
            · refine w_X8_course_129 ?_
              unfold VC_X8_course_129
              refine ⟨fun z => absurd ((nI_ltI (by omega) (by omega)).mp z) (by omega), fun _ => ?_⟩
              have em : D k - m = (D k - (m + 1)) + 1 := by omega
              obtain ⟨n0, eA, a2, a3⟩ := cs_As B hkf (m := D k - (m + 1)) (by omega)
              have lb := dist (D k - (m + 1)) (by omega)
              have ib := (cs_Ai B hkf (D k - (m + 1)) (by omega)).1
              have qb := cs_v_lt hW (v (cs_A K k (D k - (m + 1))) (by omega))
              have m3 : K (cs_A K k (D k - (m + 1))) % 3 < 3 := Nat.mod_lt _ (by omega)
              have e7 : nI (D k) - nI m - 1 = nI (D k - (m + 1)) := by rw [pk_sub (by omega), em, nI_pred]
              rw [em]
              refine upTo (Q := fun w => Lp_X8_course_139 g 40 (nI s) (nI kk) (tru (shipOf (sF σ) s) t) (nI (Q (cs_A K k (D k - (m + 1) + 1)))) (nI (D k)) (nI w) (nI m) I1 J P) (N := K (cs_A K k (D k - (m + 1))) % 3) ?_ (fun w hw ihw => ?_)
              · refine w_X8_course_139 (by omega) ?_
                unfold VC_X8_course_139
                rw [e7, nI_one (n := m)]
                have some1 : ∀ {P' : Int32 → IT → JT → Prop}, P' (nI (Q (cs_A K k (D k - (m + 1))))) I1 J → SemI g (40 - 1) M_X8_leads [.ref (ga g 118), .int (nI s), .int (bI (tru (shipOf (sF σ) s) t)), .int (nI (Q (cs_A K k (D k - (m + 1) + 1)))), .int (nI (K (cs_A K k (D k - (m + 1))) % 3))] I1 J P' := fun {P'} hp => lds (by omega) m3 (fun z => by rw [a3] at z; cases z) (fun y z => by rw [a3] at z; rw [← Option.some.inj z]; exact hp)
                refine some1 ⟨fun z => absurd z (nI_pos (by omega)), fun _ => some1 ?_⟩
                rw [nI_cl (n := Q (cs_A K k (D k - (m + 1)))) (by omega), L1 _ qb, lb]
                exact ⟨vp_in_nI qb (by omega), fun _ => some1 (ih _ (fun _ => rfl)), fun z => absurd rfl z⟩
              · refine w_X8_course_139 (by omega) ?_
                unfold VC_X8_course_139
                rw [e7, nI_one (n := w)]
                refine lds (by omega) (by omega) (fun z => ⟨fun _ => ihw, fun y => absurd (by decide) y⟩) (fun y z => ?_)
                have vy := cs_v_lt hW (cs_n_v hW z)
                refine ⟨fun u => absurd u (nI_pos (by omega)), fun _ => lds (by omega) (by omega) (fun u => by rw [z] at u; cases u) (fun y2 u => ?_)⟩
                rw [z] at u
                rw [← Option.some.inj u, nI_cl (n := y) (by omega), L1 y vy]
                have ly := (V1 y vy).1
                exact ⟨vp_in_nI vy (by omega), fun u2 => absurd ((nI_eq (by omega) (by omega)).mp u2) (cs_word (gl := fun y => y / 4 = c) B hkf n A2 hf (by omega) hw z), fun _ => ihw⟩
          · have q : ¬ kk < D k := fun u => q ((nI_ltI hkk (by omega)).mpr u)
            rw [if_neg q] at er
            rw [er] at fin; exact fin
        · rw [if_pos (nle_lt0 y)] at er
          rw [er] at fin; exact fin
    · have z := (nI_eq (b := 1) (by omega) (by omega)).mp z
      rcases hr with ⟨-, er⟩ | ⟨r1, -⟩
      · rw [er] at h; exact h I hM smC.rf
      · exact absurd z r1
end CSR
theorem e_course {g : GT} (a0 a1 a2 a3 : Int32) : EQI g Rel M_X7_course M_X8_course [.int a0, .int a1, .int a2, .int a3] := by
  intro I J hR
  obtain ⟨σ, hk, hC, hM⟩ := hR
  exact course7 hk hC (fun r I1 hr hC1 sm => course8 hk (hM.cg sm) hr (fun I2 hM2 sm2 => ⟨rfl, σ, hk, hC1.cg sm2, hM2⟩))
