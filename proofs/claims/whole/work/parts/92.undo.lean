-- ===== undo =====
theorem FlC.ext {I : IT} {o : Nat} {F G : NF} (hF : okF F) (h : FlC I o F) (e : ∀ j, j < 80 → G j = F j) : FlC I o G := by
  have h6 := hF.1
  have hW := hF.W
  have h1 := hW.1
  obtain ⟨b1, b2, b3, b4, b5, b6, b7⟩ := h
  refine ⟨by rw [e 0 (by omega)]; exact b1, by rw [e 1 (by omega)]; exact b2, by rw [e 2 (by omega)]; exact b3, fun c p q => ?_, fun s hs => ?_, fun t ht => by rw [e _ (by omega)]; exact b6 t ht, by rw [e 57 (by omega)]; exact b7⟩
  · rw [e 1 (by omega)] at p
    rw [e 2 (by omega)] at q
    rw [e _ (by omega)]; exact b4 c p q
  · rw [e 0 (by omega)] at hs
    rw [e _ (by omega), e _ (by omega), e _ (by omega), e _ (by omega)]; exact b5 s hs
theorem put_back {F G : NF} {s : Nat} (hG : okF G) (ha : actR s G F) {j : Nat} (hj : j < 80) (h57 : j ≠ 57) : putS F s (shipOf G s) j = G j := by
  have h6 := hG.1
  have hs := ha.1
  unfold putS
  by_cases q1 : j = 58 + s
  · subst q1; rw [if_pos rfl]; rfl
  · rw [if_neg q1]
    by_cases q2 : j = 64 + s
    · subst q2; rw [if_pos rfl]; rfl
    · rw [if_neg q2]
      by_cases q3 : j = 70 + s
      · subst q3; rw [if_pos rfl]; rfl
      · rw [if_neg q3]
        by_cases q4 : 76 ≤ j ∧ j < 80
        · rw [if_pos q4]; show G (76 + (j - 76)) = G j; congr 1; omega
        · rw [if_neg q4]; exact ha.2 j hj h57 q1 q2 q3 (by omega)
theorem FlC_turn {I : IT} {F : NF} {x : Nat} (hF : okF F) (h : FlC I 3 F) : FlC (sI I 3 7 (nI x)) 3 (up1 F 57 x) := by
  have h6 := hF.1
  have hW := hF.W.1
  obtain ⟨b1, b2, b3, b4, b5, b6, b7⟩ := h
  refine ⟨?_, ?_, ?_, fun c h1 h2 => ?_, fun u hu => ?_, fun t ht => ?_, ?_⟩
  · rw [up1_ne (by omega), sI_at, if_neg (by omega)]; exact b1
  · rw [up1_ne (by omega), sI_ne (by omega)]; exact b2
  · rw [up1_ne (by omega), sI_ne (by omega)]; exact b3
  · rw [up1_ne (by omega)] at h1 h2
    rw [up1_ne (by omega), sI_ne (by omega)]; exact b4 c h1 h2
  · rw [up1_ne (by omega)] at hu
    rw [up1_ne (j := 51 + u) (by omega), up1_ne (j := 58 + u) (by omega), up1_ne (j := 64 + u) (by omega), up1_ne (j := 70 + u) (by omega), sI_ne (by omega), sI_ne (by omega), sI_ne (by omega), sI_ne (by omega)]
    exact b5 u hu
  · rw [up1_ne (by omega), sI_ne (by omega)]; exact b6 t ht
  · rw [up1_eq, sI_at, if_pos ⟨rfl, rfl⟩]
def vUndo (σ : ST) : Int32 := match sA σ with
  | [] => -4
  | _ :: l => nI l.length
def tUndo (σ : ST) : ST := match sA σ with
  | [] => σ
  | (_, G) :: l => (G, sG0 σ, sG1 σ, l, sT σ, sS σ, sX σ)
theorem e_undo {g : GT} : EQI g Rel M_X7_undo M_X8_undo [] := by
  refine eqI_of vUndo tUndo (fun σ I J P hk hC h => ?_) (fun σ I J P hk hM h => ?_) (fun σ hk => ?_)
  · refine w_X7_undo (by omega) ?_
    unfold VC_X7_undo
    refine w_X0_giveBack isF_3 (by omega) ?_
    unfold VC_X0_giveBack
    obtain ⟨h1, h2, h3, h4, ⟨k1, p, hp, k2, k3⟩, h6⟩ := id hC
    have hlen := hk.2.2.2.1
    unfold vUndo tUndo at h
    cases hA : sA σ with
    | nil =>
      rw [hA] at h k1
      rw [k1]
      exact ⟨fun q => absurd q (by decide), fun _ => ⟨fun _ => h I J hC smM.rf, fun q => (by cases q)⟩⟩
    | cons a l =>
      obtain ⟨s, G⟩ := a
      rw [hA] at h k1 hlen
      have hokA := hk.2.2.2.2.1
      rw [hA] at hokA
      obtain ⟨oG, aR, oL⟩ := hokA
      have hs : s < sF σ 0 := by rw [aR.2 0 (by omega) (by omega) (by omega) (by omega) (by omega) (by omega)]; exact aR.1
      have hs6 : s < 6 := by have := hk.1.1; omega
      have hl24 : l.length + 1 ≤ 24 := hlen
      obtain ⟨c1, c2, c3⟩ := k3 0 s G (by rw [hA]; rfl)
      have ep : (I 20 4 + 24 - 1) - (I 20 4 + 24 - 1) / 24 * 24 = nI ((p + 23 - 0) % 24) := by
        rw [k2, show nI p + 24 - 1 = nI (p + 23) from by rw [show (24 : Int32) = nI 24 from rfl, nI_add, nI_mm (by omega)]; rfl]
        exact pk_rem (d := 24) (by omega) (by omega) (by omega)
      rw [ep]
      have hm : (p + 23 - 0) % 24 < 24 := Nat.mod_lt _ (by omega)
      generalize hpm : (p + 23 - 0) % 24 = m at c1 c2 c3 hm
      have el : sI I 20 4 (nI m) 20 3 - 1 = nI l.length := by rw [sI_at, if_neg (by omega), k1, nI_mm (by show 0 < l.length + 1; omega)]; rfl
      rw [el]
      have e4 : sI (sI I 20 4 (nI m)) 20 3 (nI l.length) 20 4 = nI m := by rw [sI_at, if_neg (by omega), sI_at, if_pos ⟨rfl, rfl⟩]
      rw [e4, nI_cl (by omega)]
      have es : sI (sI I 20 4 (nI m)) 20 3 (nI l.length) 22 m = nI s := by rw [sI_ne (by omega), sI_ne (by omega)]; exact c1
      rw [es]
      have en : ∀ a, a ≠ 20 → sI (sI I 20 4 (nI m)) 20 3 (nI l.length) a = I a := fun a ha => by rw [sI_ne ha, sI_ne ha]
      rw [k1]
      refine ⟨fun _ => ⟨vp_in_nI hm (by omega), vp_in_nI hm (by omega), ?_⟩, fun q => absurd (nI_lt (a := 0) (show 0 < (List.length ((s, G) :: l)) from by show 0 < l.length + 1; omega) (by show l.length + 1 < _; omega)) q⟩
      refine s_X6_land (v := shipOf G s) (by omega) (isV_21 m hm) isF_3 (by omega) (h2.cg (fun a _ _ => en a (by omega))) hk.1 hs (c3.cg (en _ (by omega)) (en _ (by omega))) ?_ (fun I1 d1 d2 => ?_)
      · show G (51 + s) = sF σ (51 + s)
        exact (aR.2 (51 + s) (by omega) (by omega) (by omega) (by omega) (by omega) (by omega)).symm
      · have e204 : I1 20 4 = nI m := by rw [d2 20 (by omega)]; exact e4
        have e23 : I1 23 m = nI (G 57) := by rw [d2 23 (by omega), en 23 (by omega)]; exact c2
        rw [e204, nI_cl (by omega), e23]
        refine ⟨vp_in_nI hm (by omega), ⟨fun q => (by cases q), fun _ => ?_⟩⟩
        have okp := okF_put (v := shipOf G s) hk.1 hs (by
          have := oG.ship aR.1
          refine ⟨this.1, this.2.1, ?_, ?_, this.2.2.2.2⟩
          · rw [aR.2 1 (by omega) (by omega) (by omega) (by omega) (by omega) (by omega)]; exact this.2.2.1
          · rw [aR.2 2 (by omega) (by omega) (by omega) (by omega) (by omega) (by omega)]; exact this.2.2.2.1)
        have hF' : FlC (sI I1 3 7 (nI (G 57))) 3 G := by
          refine FlC.ext (F := up1 (putS (sF σ) s (shipOf G s)) 57 (G 57)) ?_ (FlC_turn okp d1) (fun j hj => ?_)
          · obtain ⟨x1, x2, x3, x4, x5, x6, x7, x8⟩ := okp
            refine ⟨by rw [up1_ne (by omega)]; exact x1, by rw [up1_ne (by omega)]; exact x2, by rw [up1_ne (by omega)]; exact x3, by rw [up1_eq]; exact oG.2.2.2.1, fun t ht => by rw [up1_ne (by omega)]; exact x5 t ht, fun u hu => ?_, fun c hc => by rw [up1_ne (by omega)]; exact x7 c hc, fun z => ?_⟩
            · rw [up1_ne (by omega)] at hu
              have := x6 u hu
              unfold okS at this ⊢
              rw [up1_ne (j := 51 + u) (by omega), up1_ne (j := 58 + u) (by omega), up1_ne (j := 64 + u) (by omega), up1_ne (j := 70 + u) (by omega), up1_ne (j := 1) (by omega), up1_ne (j := 2) (by omega)]
              exact this
            · rw [up1_ne (by omega), putS_lo (by omega)] at z; omega
          · by_cases q : j = 57
            · subst q; rw [up1_eq]
            · rw [up1_ne q, put_back oG aR hj q]
        have e20 : sI I1 3 7 (nI (G 57)) 20 3 = nI l.length := by rw [sI_ne (by omega), d2 20 (by omega), sI_at, if_pos ⟨rfl, rfl⟩]
        rw [e20]
        have ee : ∀ a, a ≠ 20 → (a < 3 ∨ 10 < a) → sI I1 3 7 (nI (G 57)) a = I a := fun a q1 q2 => by rw [sI_ne (by omega), d2 a (by omega), en a q1]
        refine h _ J ⟨?_, hF', h3.cg (fun a _ _ => ee a (by omega) (by omega)), h4.cg (fun a _ _ => ee a (by omega) (by omega)), ⟨e20, m, hm, ?_, fun i s' F' hi => ?_⟩, h6.cg (fun a _ _ => ee a (by omega) (by omega)) (fun _ _ _ => rfl)⟩ ⟨fun a ha => ee a (by omega) (by omega), fun _ _ => rfl⟩
        · unfold RcT; rw [ee 1 (by omega) (by omega), ee 2 (by omega) (by omega)]; exact h1
        · rw [sI_ne (by omega)]; exact e204
        · have hi' : i < l.length := (List.getElem?_eq_some_iff.mp hi).1
          obtain ⟨f1, f2, f3⟩ := k3 (i + 1) s' F' (by rw [hA]; exact hi)
          rw [show (p + 23 - (i + 1)) % 24 = (m + 23 - i) % 24 from by omega] at f1 f2 f3
          have hq : (m + 23 - i) % 24 < 24 := Nat.mod_lt _ (by omega)
          refine ⟨by rw [ee 22 (by omega) (by omega)]; exact f1, by rw [ee 23 (by omega) (by omega)]; exact f2, f3.cg (ee _ (by omega) (by omega)) (ee _ (by omega) (by omega))⟩
  · refine w_X8_undo (by omega) ?_
    unfold VC_X8_undo
    obtain ⟨h1, h2, h3, h4, ⟨k1, k3⟩, h6⟩ := id hM
    have hlen := hk.2.2.2.1
    unfold vUndo tUndo at h
    cases hA : sA σ with
    | nil =>
      rw [hA] at h k1
      rw [k1]
      exact ⟨fun q => absurd rfl q, fun _ => h I J hM smC.rf⟩
    | cons a l =>
      obtain ⟨s, G⟩ := a
      rw [hA] at h k1 hlen
      have hokA := hk.2.2.2.2.1
      rw [hA] at hokA
      obtain ⟨oG, aR, oL⟩ := hokA
      have hs6 : s < 6 := by have := oG.1; have := aR.1; omega
      have hl24 : l.length + 1 ≤ 24 := hlen
      have k1 : I 118 1 = nI (l.length + 1) := k1
      rw [k1, nI_mm (by omega), Nat.add_sub_cancel]
      have e1 : sI I 118 1 (nI l.length) 118 1 = nI l.length := by rw [sI_at, if_pos ⟨rfl, rfl⟩]
      rw [e1, show (400 : Int32) + 23 * nI l.length = nI (400 + 23 * l.length) from by rw [show (23 : Int32) = nI 23 from rfl, pk_mul, show (400 : Int32) = nI 400 from rfl, nI_add]]
      refine ⟨fun _ => ?_, fun q => absurd ((nI_eq (b := 0) (by omega) (by omega)).mp q) (by omega)⟩
      refine s_X8_bring (b := 57) (n := 23) (by omega) (by omega) (Or.inl (by omega)) ?_
      rw [brg_ne (by omega), e1]
      have ee : ∀ a, a ≠ 118 → a ≠ 119 → brg (sI I 118 1 (nI l.length)) (400 + 23 * l.length) 57 23 a = I a := fun a q1 q2 => by rw [brg_ne q2, sI_ne q1]
      refine h _ J ⟨⟨?_, fun j hj => ?_⟩, fun j hj => ?_, fun j hj => ?_, fun j hj => ?_, ⟨?_, fun i s' F' hi j hj => ?_⟩, fun k hk => ?_⟩ ⟨fun a ha => ee a (by omega) (by omega), fun _ _ => rfl⟩
      · rw [brg_ne (by omega), sI_at, if_neg (by omega)]; exact h1.1
      · rw [ee 120 (by omega) (by omega)]; exact h1.2 j hj
      · rw [brg_at, Nat.zero_add, sI_ne (by omega)]
        by_cases q : 57 ≤ j ∧ j < 57 + 23
        · rw [if_pos q]
          have := k3 0 s G (by rw [hA]; rfl) (j - 57) (by omega)
          rw [hA] at this
          rw [show 400 + 23 * (List.length ((s, G) :: l) - 1 - 0) + (j - 57) = 400 + 23 * l.length + (j - 57) from by show 400 + 23 * (l.length + 1 - 1 - 0) + (j - 57) = _; omega, show 57 + (j - 57) = j from by omega] at this
          exact this
        · rw [if_neg q, h2.a0 j hj, aR.2 j hj (by omega) (by omega) (by omega) (by omega) (by omega)]
      · rw [brg_at, if_neg (by omega), sI_ne (by omega)]; exact h3 j hj
      · rw [brg_at, if_neg (by omega), sI_ne (by omega)]; exact h4 j hj
      · rw [brg_ne (by omega)]; exact e1
      · have hi' : i < l.length := (List.getElem?_eq_some_iff.mp hi).1
        have := k3 (i + 1) s' F' (by rw [hA]; exact hi) j hj
        rw [hA, show 400 + 23 * (List.length ((s, G) :: l) - 1 - (i + 1)) + j = 400 + 23 * (l.length - 1 - i) + j from by show 400 + 23 * (l.length + 1 - 1 - (i + 1)) + j = _; omega] at this
        rw [brg_at, if_neg (by omega), sI_ne (by omega)]
        exact this
      · rw [ee 122 (by omega) (by omega), ee 123 (by omega) (by omega)]; exact h6 k hk
  · unfold tUndo
    cases hA : sA σ with
    | nil => exact hk
    | cons a l =>
      obtain ⟨s, G⟩ := a
      obtain ⟨x1, x2, x3, x4, x5, x6, x7, x8⟩ := hk
      rw [hA] at x4 x5
      exact ⟨x5.1, x2, x3, by show l.length ≤ 24; have : l.length + 1 ≤ 24 := x4; omega, x5.2.2, x6, x7, x8⟩
