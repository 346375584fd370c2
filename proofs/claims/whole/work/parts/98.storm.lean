-- ===== storm =====
def tailV (F : NF) (v : Vy) (t u : Nat) (b1 b2 : Bool) : Vy :=
  if b2 then setl (if b1 then setl (goV F v).2 (goV F v).1 t else (goV F v).2) (goV F v).1 u else (if b1 then setl (goV F v).2 (goV F v).1 t else (goV F v).2)
def tornV (v : Vy) (t u : Nat) : Vy := (v.1, v.2.1, v.2.2.1, min 5 (v.2.2.2.1 + 1), fun x => if x = t ∨ x = u then v.2.2.2.2 x - 1 else v.2.2.2.2 x)
def twoV (F : NF) (v : Vy) (t w u w2 : Nat) : Vy :=
  if tru v t = true ∧ tru v u = true ∧ w ≠ w2 then tornV v t u
  else tailV F (if tru v t = true ∨ tru v u = true then lookV v (trn v.1 v.2.2.1 (if tru v t then w else w2)) else v) t u (tru v t) (tru v u)
theorem okV_tail {F : NF} {v : Vy} {t u : Nat} {b1 b2 : Bool} (h : okV F v) (hW : okW F) : okV F (tailV F v t u b1 b2) := by
  unfold tailV
  have hg := okV_go h hW
  cases b1 <;> cases b2
  · exact hg
  · exact okV_set hg
  · exact okV_set hg
  · exact okV_set (okV_set hg)
theorem okV_torn {F : NF} {v : Vy} {t u : Nat} (h : okV F v) : okV F (tornV v t u) := by
  refine ⟨h.1, h.2.1, h.2.2.1, h.2.2.2.1, h.2.2.2.2.1, by show min 5 _ ≤ 5; omega, fun x hx => ?_⟩
  have := h.2.2.2.2.2.2 x hx
  show (if x = t ∨ x = u then v.2.2.2.2 x - 1 else v.2.2.2.2 x) ≤ 9
  split <;> omega
theorem okV_two {F : NF} {v : Vy} {t w u w2 : Nat} (h : okV F v) (hW : okW F) : okV F (twoV F v t w u w2) := by
  unfold twoV
  split
  · exact okV_torn h
  · refine okV_tail ?_ hW
    split
    · exact okV_look h (trn_lt h.2.2.2.2.1)
    · exact h
theorem tail_k {F : NF} {v : Vy} {t u : Nat} {b1 b2 : Bool} : (tailV F v t u b1 b2).1 = v.1 := by
  unfold tailV
  have := go_k (F := F) (v := v)
  cases b1 <;> cases b2 <;> exact this
theorem two_k {F : NF} {v : Vy} {t w u w2 : Nat} : (twoV F v t w u w2).1 = v.1 := by
  unfold twoV
  split
  · rfl
  · rw [tail_k]; split <;> rfl
section STO
variable {g : GT} {d : Nat} {I : IT} {J : JT}
theorem tail7 {o t u : Nat} {F : NF} {v : Vy} {b1 b2 : Bool} {P : IT → JT → Prop} (hd : 2 ≤ d) (ho : isV o) (hC : CV I o v) (hS : SeaC I 4 F) (hW : okW F) (hv : okV F v) (ht : t < 4) (hu : u < 4) (h : ∀ I', CV I' o (tailV F v t u b1 b2) → (∀ a, a ≠ o → a ≠ o + 1 → I' a = I a) → P I' J) : SemZ g d M_X6_goOn [.ref (ga g o)] I J (fun r74 I74 J74 => ((b1 = false → ((b2 = false → P I74 J74) ∧ (b2 = true → (SemV g d M_X6_settle [.ref (ga g o), .int (nI u), .int (bI r74)] I74 J74 (fun I100 J100 => P I100 J100))))) ∧ (b1 = true → (SemV g d M_X6_settle [.ref (ga g o), .int (nI t), .int (bI r74)] I74 J74 (fun I88 J88 => ((b2 = false → P I88 J88) ∧ (b2 = true → (SemV g d M_X6_settle [.ref (ga g o), .int (nI u), .int (bI r74)] I88 J88 (fun I100 J100 => P I100 J100))))))))) := by
  refine s_X6_goOn hd ho hC hS hW hv (fun I1 a1 a2 => ?_)
  have hg := okV_go hv hW
  unfold tailV at h
  cases b1 with
  | false =>
    refine ⟨fun _ => ?_, fun z => absurd z (by decide)⟩
    cases b2 with
    | false => exact ⟨fun _ => h I1 a1 a2, fun z => absurd z (by decide)⟩
    | true => exact ⟨fun z => absurd z (by decide), fun _ => s_X6_settle (by omega) ho a1 hg hu (fun I2 c1 c2 => h I2 c1 (fun a z1 z2 => by rw [c2 a z1 z2, a2 a z1 z2]))⟩
  | true =>
    refine ⟨fun z => absurd z (by decide), fun _ => s_X6_settle (by omega) ho a1 hg ht (fun I2 c1 c2 => ?_)⟩
    cases b2 with
    | false => exact ⟨fun _ => h I2 c1 (fun a z1 z2 => by rw [c2 a z1 z2, a2 a z1 z2]), fun z => absurd z (by decide)⟩
    | true => exact ⟨fun z => absurd z (by decide), fun _ => s_X6_settle (by omega) ho c1 (okV_set hg) hu (fun I3 e1 e2 => h I3 e1 (fun a z1 z2 => by rw [e2 a z1 z2, c2 a z1 z2, a2 a z1 z2]))⟩
theorem CV_look {o l : Nat} {v : Vy} (hC : CV I o v) : CV (sI I o 4 (nI l)) o (lookV v l) := by
  refine ⟨?_, ?_, ?_, ?_, fun t ht => ?_⟩
  · rw [sI_at, if_neg (by omega)]; exact hC.1
  · rw [sI_at, if_neg (by omega)]; exact hC.2.1
  · rw [sI_at, if_pos ⟨rfl, rfl⟩]; rfl
  · rw [sI_at, if_neg (by omega)]; exact hC.2.2.2.1
  · rw [sI_ne (by omega)]; exact hC.2.2.2.2 t ht
theorem s_X6_beTorn {o t u : Nat} {F : NF} {v : Vy} {P : IT → JT → Prop} (hd : 2 ≤ d) (ho : isV o) (hC : CV I o v) (hv : okV F v) (ht : t < 4) (hu : u < 4) (htu : t ≠ u) (h : ∀ I', CV I' o (tornV v t u) → (∀ a, a ≠ o → a ≠ o + 1 → I' a = I a) → P I' J) : SemV g d M_X6_beTorn [.ref (ga g o), .int (nI t), .int (nI u)] I J P := by
  refine w_X6_beTorn ho (by omega) ?_
  unfold VC_X6_beTorn
  refine s_X6_beWormed (by omega) ho hC hv.2.2.2.2.2.1 (fun I1 a1 a2 => ?_)
  have c1 := hv.2.2.2.2.2.2 t ht
  have c2 := hv.2.2.2.2.2.2 u hu
  rw [nI_cl (by omega), nI_cl (by omega), a1.2.2.2.2 t ht, cE1 _ (by show v.2.2.2.2 t < 10; omega)]
  have e : ∀ x, sI I1 (o + 1) t x (o + 1) u = nI (v.2.2.2.2 u) := fun x => by rw [sI_at, if_neg (by omega)]; exact a1.2.2.2.2 u hu
  rw [e, cE1 _ (by omega)]
  refine ⟨vp_in_nI ht (by omega), vp_in_nI ht (by omega), vp_in_nI hu (by omega), vp_in_nI hu (by omega), h _ ⟨?_, ?_, ?_, ?_, fun x hx => ?_⟩ (fun a z1 z2 => by rw [sI_ne z2, sI_ne z2, a2 a z1 z2])⟩
  · rw [sI_ne (by omega), sI_ne (by omega)]; exact a1.1
  · rw [sI_ne (by omega), sI_ne (by omega)]; exact a1.2.1
  · rw [sI_ne (by omega), sI_ne (by omega)]; exact a1.2.2.1
  · rw [sI_ne (by omega), sI_ne (by omega)]; exact a1.2.2.2.1
  · rw [sI_at, sI_at]
    show _ = nI (if x = t ∨ x = u then v.2.2.2.2 x - 1 else v.2.2.2.2 x)
    by_cases q : x = u
    · rw [if_pos ⟨rfl, q⟩, if_pos (Or.inr q), q]
    · rw [if_neg (fun z => q z.2)]
      by_cases q2 : x = t
      · rw [if_pos ⟨rfl, q2⟩, if_pos (Or.inl q2), q2]
      · rw [if_neg (fun z => q2 z.2), if_neg (by omega)]; exact a1.2.2.2.2 x hx
theorem s_X6_hearTwo {o t w u w2 : Nat} {F : NF} {v : Vy} {P : IT → JT → Prop} (hd : 3 ≤ d) (ho : isV o) (ho5 : 6 ≤ o) (hC : CV I o v) (hS : SeaC I 4 F) (hW : okW F) (hv : okV F v) (ht : t < 4) (hw : w < 3) (hu : u < 4) (hw2 : w2 < 3) (htu : t ≠ u) (h : ∀ I', CV I' o (twoV F v t w u w2) → (∀ a, a ≠ o → a ≠ o + 1 → I' a = I a) → P I' J) : SemV g d M_X6_hearTwo [.ref (ga g o), .int (nI t), .int (nI w), .int (nI u), .int (nI w2)] I J P := by
  refine w_X6_hearTwo ho (by omega) ?_
  unfold VC_X6_hearTwo
  refine s_X6_trusts (by omega) ho hC hv ht (s_X6_trusts (by omega) ho hC hv hu ?_)
  unfold twoV at h
  generalize tru v t = b1 at h ⊢
  generalize tru v u = b2 at h ⊢
  have L : ¬ (b1 = true ∧ b2 = true ∧ w ≠ w2) → (b1 = true ∨ b2 = true) → Lp_X6_hearTwo_47 g d o (nI t) (nI w) (nI u) (nI w2) b1 b2 I J P := by
    intro nt or
    rw [if_neg nt, if_pos or] at h
    refine w_X6_hearTwo_47 ho (by omega) ?_
    unfold VC_X6_hearTwo_47
    rw [hC.1, hC.2.2.1]
    have go : ∀ x, x < 3 → x = (if b1 = true then w else w2) → SemI g (d - 1) M_X7_turned [.int (nI v.1), .int (nI v.2.2.1), .int (nI x)] I J (fun r67 I67 J67 => (SemZ g (d - 1) M_X6_goOn [.ref (ga g o)] (sI I67 o 4 r67) J67 (fun r74 I74 J74 => ((b1 = false → ((b2 = false → P I74 J74) ∧ (b2 = true → (SemV g (d - 1) M_X6_settle [.ref (ga g o), .int (nI u), .int (bI r74)] I74 J74 (fun I100 J100 => P I100 J100))))) ∧ (b1 = true → (SemV g (d - 1) M_X6_settle [.ref (ga g o), .int (nI t), .int (bI r74)] I74 J74 (fun I88 J88 => ((b2 = false → P I88 J88) ∧ (b2 = true → (SemV g (d - 1) M_X6_settle [.ref (ga g o), .int (nI u), .int (bI r74)] I88 J88 (fun I100 J100 => P I100 J100))))))))))) := by
      intro x hx ex
      rw [← ex] at h
      refine s_X7_turned (by omega) hv.2.1 hv.2.2.2.2.1 hx ?_
      refine tail7 (by omega) ho (CV_look hC) (hS.cg (sI_ne (by omega)) (sI_ne (by omega))) hW (okV_look hv (trn_lt hv.2.2.2.2.1)) ht hu (fun I2 c1 c2 => h I2 c1 (fun a z1 z2 => by rw [c2 a z1 z2, sI_ne z1]))
    exact ⟨fun z => go w2 hw2 (by rw [z]; rfl), fun z => go w hw (by rw [z]; rfl)⟩
  have mid : ¬ (b1 = true ∧ b2 = true ∧ w ≠ w2) → ((b1 = true → (Lp_X6_hearTwo_47 g d o (nI t) (nI w) (nI u) (nI w2) b1 b2 I J P)) ∧ (b1 = false → ((b2 = false → (SemZ g (d - 1) M_X6_goOn [.ref (ga g o)] I J (fun r74 I74 J74 => ((b1 = false → ((b2 = false → P I74 J74) ∧ (b2 = true → (SemV g (d - 1) M_X6_settle [.ref (ga g o), .int (nI u), .int (bI r74)] I74 J74 (fun I100 J100 => P I100 J100))))) ∧ (b1 = true → (SemV g (d - 1) M_X6_settle [.ref (ga g o), .int (nI t), .int (bI r74)] I74 J74 (fun I88 J88 => ((b2 = false → P I88 J88) ∧ (b2 = true → (SemV g (d - 1) M_X6_settle [.ref (ga g o), .int (nI u), .int (bI r74)] I88 J88 (fun I100 J100 => P I100 J100))))))))))) ∧ (b2 = true → (Lp_X6_hearTwo_47 g d o (nI t) (nI w) (nI u) (nI w2) b1 b2 I J P))))) := by
    intro nt
    refine ⟨fun z => L nt (Or.inl z), fun z => ⟨fun z2 => ?_, fun z2 => L nt (Or.inr z2)⟩⟩
    rw [if_neg nt, if_neg (fun y => by rw [z, z2] at y; exact absurd y (by decide))] at h
    exact tail7 (by omega) ho hC hS hW hv ht hu h
  refine ⟨fun z => mid (fun y => by rw [z] at y; exact absurd y.1 (by decide)), fun z => ⟨fun z2 => mid (fun y => by rw [z2] at y; exact absurd y.2.1 (by decide)), fun z2 => ⟨fun z3 => mid (fun y => y.2.2 ((nI_eq (by omega) (by omega)).mp z3)), fun z3 => ?_⟩⟩⟩
  rw [if_pos ⟨z, z2, fun y => z3 (by rw [y])⟩] at h
  exact s_X6_beTorn (by omega) ho hC hv ht hu htu h
theorem tail8 {r s t u : Nat} {F : NF} {v : Vy} {b1 b2 : Bool} {P : IT → JT → Prop} (hd : 4 ≤ d) (hr : r ≤ 400) (hs : s < 6) (ht : t < 4) (hu : u < 4) (hM : MV I r s v) (hS : MSea I r F) (hW : okW F) (hv : okV F v) (h : ∀ I', MV I' r s (tailV F v t u b1 b2) → frS I I' r s → I' 119 (r + 57) = I 119 (r + 57) + 1 → P I' J) : Lp_X8_storms_110 g d (nI r) (nI s) (nI t) (nI u) b1 b2 I J P := by
  refine w_X8_storms_110 (by omega) ?_
  unfold VC_X8_storms_110
  refine s_X8_goes (by omega) hr hs hM hS hW hv (fun I1 a1 a2 a3 => ?_)
  have hg := okV_go hv hW
  unfold tailV at h
  cases b1 with
  | false =>
    refine ⟨fun _ => ?_, fun z => absurd z (by decide)⟩
    cases b2 with
    | false => exact ⟨fun _ => h I1 a1 a2 a3, fun z => absurd z (by decide)⟩
    | true => exact ⟨fun z => absurd z (by decide), fun _ => s_X8_settle hr hs hu a1 hg (fun I2 c1 c2 c3 => h I2 c1 (a2.tr c2) (by rw [c3, a3]))⟩
  | true =>
    refine ⟨fun z => absurd z (by decide), fun _ => s_X8_settle hr hs ht a1 hg (fun I2 c1 c2 c3 => ?_)⟩
    cases b2 with
    | false => exact ⟨fun _ => h I2 c1 (a2.tr c2) (by rw [c3, a3]), fun z => absurd z (by decide)⟩
    | true => exact ⟨fun z => absurd z (by decide), fun _ => s_X8_settle hr hs hu c1 (okV_set hg) (fun I3 e1 e2 e3 => h I3 e1 (a2.tr (c2.tr e2)) (by rw [e3, c3, a3]))⟩
theorem s_X8_storms {r s t w u w2 : Nat} {F : NF} {v : Vy} {P : IT → JT → Prop} (hd : 5 ≤ d) (hr : r ≤ 400) (hs : s < 6) (ht : t < 4) (hw : w < 3) (hu : u < 4) (hw2 : w2 < 3) (htu : t ≠ u) (hM : MV I r s v) (hS : MSea I r F) (hW : okW F) (hv : okV F v) (h : ∀ I', MV I' r s (twoV F v t w u w2) → frS I I' r s → I' 119 (r + 57) = I 119 (r + 57) + 1 → P I' J) : SemV g d M_X8_storms [.ref (ga g 118), .int (nI r), .int (nI s), .int (nI t), .int (nI w), .int (nI u), .int (nI w2)] I J P := by
  refine w_X8_storms (by omega) ?_
  unfold VC_X8_storms
  refine s_X8_believesIn (by omega) hr hs hM hv ht (s_X8_believesIn (by omega) hr hs hM hv hu ?_)
  unfold twoV at h
  generalize tru v t = b1 at h ⊢
  generalize tru v u = b2 at h ⊢
  have L : ¬ (b1 = true ∧ b2 = true ∧ w ≠ w2) → Lp_X8_storms_71 g d (nI r) (nI s) (nI t) (nI w) (nI u) (nI w2) b1 b2 I J P := by
    intro nt
    rw [if_neg nt] at h
    refine w_X8_storms_71 (by omega) ?_
    unfold VC_X8_storms_71
    rw [ix3 r 64 s 64 rfl, nI_cl (by omega)]
    have go : (b1 = true ∨ b2 = true) → ∀ x, x < 3 → x = (if b1 = true then w else w2) → SemI g (d - 1) M_X8_turned [.ref (ga g 118), .int (nI r), .int (nI s), .int (nI x)] I J (fun r106 I106 J106 => (vp_in (nI (r + 64 + s)) 952 ∧ (Lp_X8_storms_110 g d (nI r) (nI s) (nI t) (nI u) b1 b2 (sI I106 119 (r + 64 + s) r106) J106 P))) := by
      intro or x hx ex
      rw [if_pos or, ← ex] at h
      refine s_X8_turned hr hs hM.1 hM.2.2.1 hv.2.1 hv.2.2.2.2.1 hx ⟨vp_in_nI (by omega) (by omega), ?_⟩
      have hM2 : MV (sI I 119 (r + 64 + s) (nI (trn v.1 v.2.2.1 x))) r s (lookV v (trn v.1 v.2.2.1 x)) := by
        refine ⟨?_, ?_, ?_, ?_, fun t ht => ?_⟩
        · rw [sI_at, if_neg (by omega)]; exact hM.1
        · rw [sI_at, if_neg (by omega)]; exact hM.2.1
        · rw [sI_at, if_pos ⟨rfl, rfl⟩]; rfl
        · rw [sI_at, if_neg (by omega)]; exact hM.2.2.2.1
        · rw [sI_at, if_neg (by omega)]; exact hM.2.2.2.2 t ht
      have f0 : frS I (sI I 119 (r + 64 + s) (nI (trn v.1 v.2.2.1 x))) r s := frS.w (by omega)
      refine tail8 (by omega) hr hs ht hu hM2 (f0.sea hs hS) hW (okV_look hv (trn_lt hv.2.2.2.2.1)) (fun I2 c1 c2 c3 => h I2 c1 (f0.tr c2) ?_)
      rw [c3, sI_at, if_neg (by omega)]
    refine ⟨fun z => ⟨fun z2 => (by rw [z] at z2; cases z2), fun _ => go (Or.inl z) w hw (by rw [z]; rfl)⟩, fun z => ⟨fun z2 => ?_, fun z2 => ⟨fun _ => go (Or.inr z2) w2 hw2 (by rw [z]; rfl), fun z3 => (by rw [z] at z3; cases z3)⟩⟩⟩
    rw [if_neg (fun y => by rw [z, z2] at y; exact absurd y (by decide))] at h
    exact tail8 (by omega) hr hs ht hu hM hS hW hv h
  refine ⟨fun z => L (fun y => by rw [z] at y; exact absurd y.1 (by decide)), fun z => ⟨fun z2 => L (fun y => by rw [z2] at y; exact absurd y.2.1 (by decide)), fun z2 => ⟨fun z3 => L (fun y => y.2.2 ((nI_eq (by omega) (by omega)).mp z3)), fun z3 => ?_⟩⟩⟩
  rw [if_pos ⟨z, z2, fun y => z3 (by rw [y])⟩] at h
  have c1 := hv.2.2.2.2.2.2 t ht
  have c2 := hv.2.2.2.2.2.2 u hu
  refine s_X8_wormed hr hs hM.2.2.2.1 hv.2.2.2.2.2.1 ?_
  have k1 := cM1 (v.2.2.2.2 t) (by omega)
  have k2 := cM1 (v.2.2.2.2 u) (by omega)
  refine s_X8_credits hr ht (by rw [sI_at, if_neg (by omega)]; exact hM.2.2.2.2 t ht) ⟨fun _ => k1.2, fun z => absurd k1.1 z⟩ ?_
  refine s_X8_credits hr hu (by rw [sI_at, if_neg (by omega), sI_at, if_neg (by omega)]; exact hM.2.2.2.2 u hu) ⟨fun _ => k2.2, fun z => absurd k2.1 z⟩ ?_
  rw [ix1 r 57 57 rfl, nI_cl (by omega)]
  have e57 : ∀ x y z : Int32, sI (sI (sI I 119 (r + 70 + s) x) 119 (r + 76 + t) y) 119 (r + 76 + u) z 119 (r + 57) = I 119 (r + 57) := fun x y z => by rw [sI_at, if_neg (by omega), sI_at, if_neg (by omega), sI_at, if_neg (by omega)]
  rw [e57]
  refine ⟨vp_in_nI (by omega) (by omega), vp_in_nI (by omega) (by omega), h _ ⟨?_, ?_, ?_, ?_, fun x hx => ?_⟩ (frS.tr (frS.tr (frS.tr (frS.w (by omega)) (frS.w (by omega))) (frS.w (by omega))) (frS.w (by omega))) (by rw [sI_at, if_pos ⟨rfl, rfl⟩])⟩
  · rw [sI_at, if_neg (by omega), sI_at, if_neg (by omega), sI_at, if_neg (by omega), sI_at, if_neg (by omega)]; exact hM.1
  · rw [sI_at, if_neg (by omega), sI_at, if_neg (by omega), sI_at, if_neg (by omega), sI_at, if_neg (by omega)]; exact hM.2.1
  · rw [sI_at, if_neg (by omega), sI_at, if_neg (by omega), sI_at, if_neg (by omega), sI_at, if_neg (by omega)]; exact hM.2.2.1
  · rw [sI_at, if_neg (by omega), sI_at, if_neg (by omega), sI_at, if_neg (by omega), sI_at, if_pos ⟨rfl, rfl⟩]; rfl
  · rw [sI_at, if_neg (by omega), sI_at, sI_at, sI_at]
    show _ = nI (if x = t ∨ x = u then v.2.2.2.2 x - 1 else v.2.2.2.2 x)
    by_cases q : x = u
    · rw [if_pos ⟨rfl, by omega⟩, if_pos (Or.inr q), q]
    · rw [if_neg (by omega)]
      by_cases q2 : x = t
      · rw [if_pos ⟨rfl, by omega⟩, if_pos (Or.inl q2), q2]
      · rw [if_neg (by omega), if_neg (by omega), if_neg (by omega)]; exact hM.2.2.2.2 x hx
end STO
def sV (s t w u w2 : Int32) (σ : ST) : Vy := twoV (sF σ) (shipOf (sF σ) s.toNatClampNeg) t.toNatClampNeg w.toNatClampNeg u.toNatClampNeg w2.toNatClampNeg
def cSt (t w u w2 : Int32) : Bool := inN t 4 && (inN w 3 && (inN u 4 && (inN w2 3 && decide (t ≠ u))))
theorem cSt_t {t w u w2 : Int32} (h : cSt t w u w2 = true) : inN t 4 = true ∧ inN w 3 = true ∧ inN u 4 = true ∧ inN w2 3 = true ∧ t ≠ u := by
  unfold cSt at h
  obtain ⟨h1, h⟩ := Bool.and_eq_true_iff.mp h
  obtain ⟨h2, h⟩ := Bool.and_eq_true_iff.mp h
  obtain ⟨h3, h⟩ := Bool.and_eq_true_iff.mp h
  obtain ⟨h4, h⟩ := Bool.and_eq_true_iff.mp h
  exact ⟨h1, h2, h3, h4, of_decide_eq_true h⟩
theorem e_storm {g : GT} (a0 a1 a2 a3 a4 : Int32) : EQI g Rel M_X7_storm M_X8_storm [.int a0, .int a1, .int a2, .int a3, .int a4] := by
  refine eqI_of (fun σ => vAct a0 (cSt a1 a2 a3 a4) (sV a0 a1 a2 a3 a4 σ).2.1 σ) (fun σ => tAct a0 (cSt a1 a2 a3 a4) (sV a0 a1 a2 a3 a4 σ) σ) (fun σ I J P hk hC h => ?_) (fun σ I J P hk hM h => ?_) (fun σ hk => ?_)
  · refine w_X7_storm (by omega) ?_
    unfold VC_X7_storm
    unfold vAct tAct at h
    have bad : ¬ (inN a0 (sF σ 0) = true ∧ cSt a1 a2 a3 a4 = true) → P (-1) I J := fun z => by
      rw [if_neg (fun y => z y.1), if_neg z] at h; exact h I J hC smM.rf
    refine s_X2_hasShip isF_3 hC.2.1 hk.1 ⟨fun q => bad (fun z => by rw [q] at z; exact absurd z.1 (by decide)), fun q => ?_⟩
    refine s_X7_isTeller ⟨fun y => bad (fun z => by have := (cSt_t z.2).1; rw [y] at this; cases this), fun q1 => ?_⟩
    refine s_X7_isWord ⟨fun y => bad (fun z => by have := (cSt_t z.2).2.1; rw [y] at this; cases this), fun q2 => ?_⟩
    refine s_X7_isTeller ⟨fun y => bad (fun z => by have := (cSt_t z.2).2.2.1; rw [y] at this; cases this), fun q3 => ?_⟩
    refine s_X7_isWord ⟨fun y => bad (fun z => by have := (cSt_t z.2).2.2.2.1; rw [y] at this; cases this), fun q4 => ⟨fun q5 => ?_, fun y => bad (fun z => (cSt_t z.2).2.2.2.2 y)⟩⟩
    have hc : inN a0 (sF σ 0) = true ∧ cSt a1 a2 a3 a4 = true := ⟨q, by unfold cSt; rw [q1, q2, q3, q4, decide_eq_true q5]; rfl⟩
    have h6 := hk.1.1
    have h57 := hk.1.2.2.2.1
    unfold sV at h
    obtain ⟨s, hs, rfl⟩ := inN_n q (by omega)
    obtain ⟨t, ht, rfl⟩ := inN_n q1 (by omega)
    obtain ⟨w, hw, rfl⟩ := inN_n q2 (by omega)
    obtain ⟨u, hu, rfl⟩ := inN_n q3 (by omega)
    obtain ⟨w2, hw2, rfl⟩ := inN_n q4 (by omega)
    have htu : t ≠ u := fun z => q5 (by rw [z])
    rw [nI_cl (by omega), nI_cl (by omega), nI_cl (by omega), nI_cl (by omega), nI_cl (by omega)] at h
    rw [hC.2.1.2.2.2.2.2.2]
    refine ⟨fun q4 => ?_, fun q4 => ?_⟩
    · have q4 : sF σ 57 < 9999 := (nI_ltI (b := 9999) (by omega) (by omega)).mp q4
      rw [if_pos ⟨hc, q4⟩, if_pos hc, if_pos q4] at h
      refine s_X7_setOut (by omega) hC.2.2.2.2.1 hk.2.2.2.1 hC.2.1 hk.1 hs (fun I1 I2 b1 b2 b3 b4 => ⟨isV_96, ?_⟩)
      have hv := hk.1.ship hs
      have e3 : ∀ a, a < 20 → I2 a = I a := fun a ha => by rw [b4 a (by omega) (by omega), b2 a (by omega)]
      refine s_X6_hearTwo (by omega) isV_96 (by omega) b3 (hC.2.1.sea.cg (e3 4 (by omega)) (e3 5 (by omega))) hk.1.W hv ht hw hu hw2 htu (fun I3 c1 c2 => ?_)
      have e4 : ∀ a, a < 20 → I3 a = I a := fun a ha => by rw [c2 a (by omega) (by omega), e3 a ha]
      refine s_X7_arrive (by omega) (hC.2.1.cg (fun a _ _ => e4 a (by omega))) hk.1 hs c1 (by rw [two_k]; rfl) (fun I4 d1 d2 => ?_)
      refine h I4 J (hC.act b1 b2 d1 (fun a z1 z2 z3 => by rw [d2 a z1, c2 a z2 z3, b4 a z2 z3])) ⟨fun a ha => by rw [d2 a (by omega), c2 a (by omega) (by omega), b4 a (by omega) (by omega), b2 a (by omega)], fun _ _ => rfl⟩
    · have q4 : ¬ sF σ 57 < 9999 := fun z => q4 (nI_lt (b := 9999) z (by omega))
      rw [if_neg (fun z => q4 z.2), if_pos hc, if_neg q4] at h
      exact h I J hC smM.rf
  · refine w_X8_storm (by omega) ?_
    unfold VC_X8_storm
    unfold vAct tAct at h
    have bad : ¬ (inN a0 (sF σ 0) = true ∧ cSt a1 a2 a3 a4 = true) → P (-1) I J := fun z => by
      rw [if_neg (fun y => z y.1), if_neg z] at h; exact h I J hM smC.rf
    refine s_X8_isShip (by omega) hM.2.1 hk.1 ⟨fun q => bad (fun z => by rw [q] at z; exact absurd z.1 (by decide)), fun q => ?_⟩
    refine s_X8_isTeller (by omega) ⟨fun y => bad (fun z => by have := (cSt_t z.2).1; rw [y] at this; cases this), fun q1 => ?_⟩
    refine s_X8_isWord (by omega) ⟨fun y => bad (fun z => by have := (cSt_t z.2).2.1; rw [y] at this; cases this), fun q2 => ?_⟩
    refine s_X8_isTeller (by omega) ⟨fun y => bad (fun z => by have := (cSt_t z.2).2.2.1; rw [y] at this; cases this), fun q3 => ?_⟩
    refine s_X8_isWord (by omega) ⟨fun y => bad (fun z => by have := (cSt_t z.2).2.2.2.1; rw [y] at this; cases this), fun q4 => ⟨fun q5 => ?_, fun y => bad (fun z => (cSt_t z.2).2.2.2.2 y)⟩⟩
    have hc : inN a0 (sF σ 0) = true ∧ cSt a1 a2 a3 a4 = true := ⟨q, by unfold cSt; rw [q1, q2, q3, q4, decide_eq_true q5]; rfl⟩
    have h6 := hk.1.1
    have h57 := hk.1.2.2.2.1
    unfold sV at h
    obtain ⟨s, hs, rfl⟩ := inN_n q (by omega)
    obtain ⟨t, ht, rfl⟩ := inN_n q1 (by omega)
    obtain ⟨w, hw, rfl⟩ := inN_n q2 (by omega)
    obtain ⟨u, hu, rfl⟩ := inN_n q3 (by omega)
    obtain ⟨w2, hw2, rfl⟩ := inN_n q4 (by omega)
    have htu : t ≠ u := fun z => q5 (by rw [z])
    rw [nI_cl (by omega), nI_cl (by omega), nI_cl (by omega), nI_cl (by omega), nI_cl (by omega)] at h
    rw [hM.2.1.a0 57 (by omega)]
    refine ⟨fun q4 => ?_, fun q4 => ?_⟩
    · have q4 : sF σ 57 < 9999 := by
        rcases Nat.lt_or_ge (sF σ 57) 9999 with z | z
        · exact z
        · exact absurd (by rw [show sF σ 57 = 9999 from by omega]; rfl) q4
      rw [if_pos ⟨hc, q4⟩, if_pos hc, if_pos q4] at h
      refine s_X8_minds (s := s) (by omega) hM.2.2.2.2.1 hk.2.2.2.1 hM.2.1 (fun I1 b1 b2 b3 b4 => ?_)
      have hF1 : MF I1 0 (sF σ) := fun j hj => by rw [b3 _ (by omega)]; exact hM.2.1 j hj
      refine s_X8_storms (r := 0) (by omega) (by omega) (by omega) ht hw hu hw2 htu (hF1.ship (by omega)) hF1.sea hk.1.W (hk.1.ship hs) (fun I2 c1 c2 c3 => ?_)
      rw [ix2 58 s 58 rfl, nI_cl (by omega)]
      refine ⟨vp_in_nI (by omega) (by omega), ?_⟩
      rw [show I2 119 (58 + s) = nI (twoV (sF σ) (shipOf (sF σ) s) t w u w2).2.1 from by have := c1.2.1; rwa [Nat.zero_add] at this]
      refine h I2 J (hM.act b1 b2 b3 b4 (MF_act hk.1 hs hF1 c1 c2 c3) c2.1 (fun j hj => c2.2 j (by omega) (by omega) (by omega) (by omega) (by omega))) ⟨fun a ha => by rw [c2.1 a (by omega), b2 a (by omega) (by omega)], fun _ _ => rfl⟩
    · have q4 : ¬ sF σ 57 < 9999 := fun z => by
        have := (nI_eq (b := 9999) (by omega) (by omega)).mp q4
        omega
      rw [if_neg (fun z => q4 z.2), if_pos hc, if_neg q4] at h
      exact h I J hM smC.rf
  · refine tAct_ok hk (fun q q2 => ?_)
    have h6 := hk.1.1
    obtain ⟨s, hs, rfl⟩ := inN_n q (by omega)
    unfold sV
    rw [nI_cl (by omega)]
    exact okV_two (hk.1.ship hs) hk.1.W
