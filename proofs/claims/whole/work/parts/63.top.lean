theorem Sem.mono {g : GT} {d : Nat} {M : MT} {mc ms : Nat} {args : List Value} {es : va_W} {Post Post' : Option Value → va_W → Prop} (h : Sem g d M mc ms args es Post) (hp : ∀ v es, Post v es → Post' v es) : Sem g d M mc ms args es Post' := by
  intro p e ha hf hc s m a below hfr hap hP hK
  obtain ⟨n, o, h1, h2, h3, ⟨v, es', hv, hpost, r⟩, h4⟩ := h p e ha hf hc s m a below hfr hap hP hK
  exact ⟨n, o, h1, h2, h3, ⟨v, es', hv, hp _ _ hpost, r⟩, h4⟩
theorem SemI.mono {g : GT} {d : Nat} {M : MT} {args : List Value} {I : IT} {J : JT} {P P' : Int32 → IT → JT → Prop} (h : SemI g d M args I J P) (hp : ∀ r I J, P r I J → P' r I J) : SemI g d M args I J P' := Sem.mono h (fun v es q => by obtain ⟨r, I1, J1, e1, e2, q⟩ := q; exact ⟨r, I1, J1, e1, e2, hp _ _ _ q⟩)
theorem SemZ.mono {g : GT} {d : Nat} {M : MT} {args : List Value} {I : IT} {J : JT} {P P' : Bool → IT → JT → Prop} (h : SemZ g d M args I J P) (hp : ∀ r I J, P r I J → P' r I J) : SemZ g d M args I J P' := Sem.mono h (fun v es q => by obtain ⟨r, I1, J1, e1, e2, q⟩ := q; exact ⟨r, I1, J1, e1, e2, hp _ _ _ q⟩)
theorem SemL.mono {g : GT} {d : Nat} {M : MT} {args : List Value} {I : IT} {J : JT} {P P' : Int64 → IT → JT → Prop} (h : SemL g d M args I J P) (hp : ∀ r I J, P r I J → P' r I J) : SemL g d M args I J P' := Sem.mono h (fun v es q => by obtain ⟨r, I1, J1, e1, e2, q⟩ := q; exact ⟨r, I1, J1, e1, e2, hp _ _ _ q⟩)
theorem SemR.mono {g : GT} {d : Nat} {M : MT} {args : List Value} {I : IT} {J : JT} {P P' : Nat → IT → JT → Prop} (h : SemR g d M args I J P) (hp : ∀ r I J, P r I J → P' r I J) : SemR g d M args I J P' := Sem.mono h (fun v es q => by obtain ⟨r, I1, J1, e1, e2, q⟩ := q; exact ⟨r, I1, J1, e1, e2, hp _ _ _ q⟩)
theorem SemV.mono {g : GT} {d : Nat} {M : MT} {args : List Value} {I : IT} {J : JT} {P P' : IT → JT → Prop} (h : SemV g d M args I J P) (hp : ∀ I J, P I J → P' I J) : SemV g d M args I J P' := Sem.mono h (fun v es q => by obtain ⟨I1, J1, e1, e2, q⟩ := q; exact ⟨I1, J1, e1, e2, hp _ _ q⟩)
def EQI (g : GT) (Rel : IT → JT → Prop) (MX MM : MT) (args : List Value) : Prop := ∀ I J, Rel I J → SemI g 40 MX (.ref (ga g 0) :: args) I J (fun r I J => SemI g 40 MM (.ref (ga g 118) :: args) I J (fun r' I J => r' = r ∧ Rel I J))
def EQL (g : GT) (Rel : IT → JT → Prop) (MX MM : MT) (args : List Value) : Prop := ∀ I J, Rel I J → SemL g 40 MX (.ref (ga g 0) :: args) I J (fun r I J => SemL g 40 MM (.ref (ga g 118) :: args) I J (fun r' I J => r' = r ∧ Rel I J))
theorem law_loop {nm : String} {g : GT} {b LL : Nat} {xs : Nat → Int32} {c0 s0 : Nat} (hL : LL ≤ 512) (hc0 : c0 ≤ 600000) (hs0 : s0 ≤ 7302250) (Rel : IT → JT → Prop)
    (e_feed : ∀ (a0 : Int32), EQI g Rel M_X7_feed M_X8_feed [.int a0])
    (e_fleet : EQI g Rel M_X7_fleet M_X8_fleet [])
    (e_ship : ∀ (a0 : Int32) (a1 : Int32), EQI g Rel M_X7_ship M_X8_ship [.int a0, .int a1])
    (e_as : ∀ (a0 : Int32) (a1 : Int32), EQI g Rel M_X7_as M_X8_as [.int a0, .int a1])
    (e_sea : ∀ (a0 : Int32), EQI g Rel M_X7_sea M_X8_sea [.int a0])
    (e_credit : ∀ (a0 : Int32), EQI g Rel M_X7_credit M_X8_credit [.int a0])
    (e_doubt : ∀ (a0 : Int32) (a1 : Int32), EQI g Rel M_X7_doubt M_X8_doubt [.int a0, .int a1])
    (e_say : ∀ (a0 : Int32) (a1 : Int32) (a2 : Int32), EQI g Rel M_X7_say M_X8_say [.int a0, .int a1, .int a2])
    (e_storm : ∀ (a0 : Int32) (a1 : Int32) (a2 : Int32) (a3 : Int32) (a4 : Int32), EQI g Rel M_X7_storm M_X8_storm [.int a0, .int a1, .int a2, .int a3, .int a4])
    (e_drift : ∀ (a0 : Int32), EQI g Rel M_X7_drift M_X8_drift [.int a0])
    (e_scrape : ∀ (a0 : Int32), EQI g Rel M_X7_scrape M_X8_scrape [.int a0])
    (e_learn : ∀ (a0 : Int32), EQI g Rel M_X7_learn M_X8_learn [.int a0])
    (e_undo : EQI g Rel M_X7_undo M_X8_undo [])
    (e_image : ∀ (a0 : Int32), EQI g Rel M_X7_image M_X8_image [.int a0])
    (e_restore : ∀ (a0 : Int32), EQI g Rel M_X7_restore M_X8_restore [.int a0])
    (e_believed : ∀ (a0 : Int32), EQI g Rel M_X7_believed M_X8_believed [.int a0])
    (e_strikes : ∀ (a0 : Int32), EQI g Rel M_X7_strikes M_X8_strikes [.int a0])
    (e_course : ∀ (a0 : Int32) (a1 : Int32) (a2 : Int32) (a3 : Int32), EQI g Rel M_X7_course M_X8_course [.int a0, .int a1, .int a2, .int a3])
    (e_crew : ∀ (a0 : Int32), EQI g Rel M_X7_crew M_X8_crew [.int a0])
    (e_hears : ∀ (a0 : Int32) (a1 : Int32), EQI g Rel M_X7_hears M_X8_hears [.int a0, .int a1])
    (e_links : ∀ (a0 : Int32), EQI g Rel M_X7_links M_X8_links [.int a0])
    (e_talk : ∀ (a0 : Int32) (a1 : Int32) (a2 : Int32) (a3 : Int32), EQI g Rel M_X7_talk M_X8_talk [.int a0, .int a1, .int a2, .int a3])
    (e_decades : ∀ (a0 : Int32) (a1 : Int32) (a2 : Int32), EQI g Rel M_X7_decades M_X8_decades [.int a0, .int a1, .int a2])
    (e_sheet : ∀ (a0 : Int32) (a1 : Int32) (a2 : Int32), EQI g Rel M_X7_sheet M_X8_sheet [.int a0, .int a1, .int a2])
    (e_drop : ∀ (a0 : Int32), EQI g Rel M_X7_drop M_X8_drop [.int a0])
    (e_item : ∀ (a0 : Int32) (a1 : Int32) (a2 : Int32) (a3 : Int64), EQL g Rel M_X7_item M_X8_item [.int a0, .int a1, .int a2, .long a3])
    (e_copy : ∀ (a0 : Int32) (a1 : Int32) (a2 : Int32) (a3 : Int32) (a4 : Int32), EQI g Rel M_X7_copy M_X8_copy [.int a0, .int a1, .int a2, .int a3, .int a4])
    (e_log : ∀ (a0 : Int32) (a1 : Int32) (a2 : Int32) (a3 : Int32) (a4 : Int32) (a5 : Int32), EQI g Rel M_X7_log M_X8_log [.int a0, .int a1, .int a2, .int a3, .int a4, .int a5])
    (e_rows : ∀ (a0 : Int32) (a1 : Int32) (a2 : Int32) (a3 : Int32) (a4 : Int32) (a5 : Int32) (a6 : Int32), EQI g Rel M_X7_rows M_X8_rows [.int a0, .int a1, .int a2, .int a3, .int a4, .int a5, .int a6])
    (e_kinds : ∀ (a0 : Int32) (a1 : Int32) (a2 : Int32) (a3 : Int32) (a4 : Int32) (a5 : Int32) (a6 : Int32), EQI g Rel M_X7_kinds M_X8_kinds [.int a0, .int a1, .int a2, .int a3, .int a4, .int a5, .int a6])
    (e_fog : ∀ (a0 : Int32) (a1 : Int32) (a2 : Int32) (a3 : Int32) (a4 : Int32) (a5 : Int32) (a6 : Int32), EQI g Rel M_X7_fog M_X8_fog [.int a0, .int a1, .int a2, .int a3, .int a4, .int a5, .int a6])
    (e_count : ∀ (a0 : Int32), EQI g Rel M_X7_count M_X8_count [.int a0]) :
    ∀ (n i : Nat) (I : IT) (J : JT), i ≤ LL + 8 → LL + 16 ≤ i + n → Rel I J → Lp_law_18 nm g b LL xs c0 s0 (nI i) I J := by
  intro n
  induction n with
  | zero => intro i I J h1 h2; exact absurd h2 (by omega)
  | succ n ih =>
    intro i I J h1 h2 hR
    refine w_law_18 hc0 hs0 ?_
    unfold VC_law_18
    refine ⟨fun _ => trivial, fun hc => ?_⟩
    have hi : i + 8 ≤ LL := by
      have e1 : (nI LL).toInt = LL := nI_toInt (by omega)
      have e2 : (nI i).toInt = i := nI_toInt (by omega)
      by_cases h8 : LL < 8
      · exfalso
        apply hc
        show nI LL - 8 < nI i
        rw [Int32.lt_iff_toInt_lt, e2, Int32.toInt_sub, e1]
        have e3 : (8 : Int32).toInt = 8 := by decide
        rw [e3, Int.bmod_def]
        omega
      · have e4 : nI LL - 8 = nI (LL - 8) := pk_sub (a := LL) (b := 8) (by omega)
        have hc' : ¬ nI LL - 8 < nI i := hc
        rw [e4, Int32.lt_iff_toInt_lt, nI_toInt (by omega), e2] at hc'
        omega
    have hv : ∀ k, k < 8 → vp_in (nI (i + k)) LL := fun k hk => vp_in_nI (by omega) (by omega)
    have e8 : nI i + 8 = nI (i + 8) := nI_add i 8
    have hv1 : vp_in (nI i + 1) LL := by rw [show nI i + 1 = nI (i + 1) from nI_add i 1]; exact hv 1 (by omega)
    have hv2 : vp_in (nI i + 2) LL := by rw [show nI i + 2 = nI (i + 2) from nI_add i 2]; exact hv 2 (by omega)
    have hv3 : vp_in (nI i + 3) LL := by rw [show nI i + 3 = nI (i + 3) from nI_add i 3]; exact hv 3 (by omega)
    have hv4 : vp_in (nI i + 4) LL := by rw [show nI i + 4 = nI (i + 4) from nI_add i 4]; exact hv 4 (by omega)
    have hv5 : vp_in (nI i + 5) LL := by rw [show nI i + 5 = nI (i + 5) from nI_add i 5]; exact hv 5 (by omega)
    have hv6 : vp_in (nI i + 6) LL := by rw [show nI i + 6 = nI (i + 6) from nI_add i 6]; exact hv 6 (by omega)
    have hv7 : vp_in (nI i + 7) LL := by rw [show nI i + 7 = nI (i + 7) from nI_add i 7]; exact hv 7 (by omega)
    have nx : ∀ I J, Rel I J → Lp_law_18 nm g b LL xs c0 s0 (nI i + 8) I J := fun I J h => by rw [e8]; exact ih (i + 8) I J (by omega) (by omega) h
    refine ⟨hv 0 (by omega), ?_⟩
    refine ⟨fun _ => ?_, fun _ => ?_, fun _ => ?_, fun _ => ?_, fun _ => ?_, fun _ => ?_, fun _ => ?_, fun _ => ?_, fun _ => ?_, fun _ => ?_, fun _ => ?_, fun _ => ?_, fun _ => ?_, fun _ => ?_, fun _ => ?_, fun _ => ?_, fun _ => ?_, fun _ => ?_, fun _ => ?_, fun _ => ?_, fun _ => ?_, fun _ => ?_, fun _ => ?_, fun _ => ?_, fun _ => ?_, fun _ => ?_, fun _ => ?_, fun _ => ?_, fun _ => ?_, fun _ => ?_, fun _ => ?_, fun _ => ?_, nx I J hR⟩
    · refine w_law_176 hc0 hs0 ?_
      unfold VC_law_176
      exact ⟨hv1, SemI.mono (e_feed _ I J hR) (fun r I1 J1 h => ⟨hv1, SemI.mono h (fun r2 I2 J2 q => ⟨fun _ => nx I2 J2 q.2, fun z => absurd q.1.symm z⟩)⟩)⟩
    · refine w_law_199 hc0 hs0 ?_
      unfold VC_law_199
      exact SemI.mono (e_fleet I J hR) (fun r I1 J1 h => SemI.mono h (fun r2 I2 J2 q => ⟨fun _ => nx I2 J2 q.2, fun z => absurd q.1.symm z⟩))
    · refine w_law_212 hc0 hs0 ?_
      unfold VC_law_212
      exact ⟨hv1, hv2, SemI.mono (e_ship _ _ I J hR) (fun r I1 J1 h => ⟨hv1, hv2, SemI.mono h (fun r2 I2 J2 q => ⟨fun _ => nx I2 J2 q.2, fun z => absurd q.1.symm z⟩)⟩)⟩
    · refine w_law_245 hc0 hs0 ?_
      unfold VC_law_245
      exact ⟨hv1, hv2, SemI.mono (e_as _ _ I J hR) (fun r I1 J1 h => ⟨hv1, hv2, SemI.mono h (fun r2 I2 J2 q => ⟨fun _ => nx I2 J2 q.2, fun z => absurd q.1.symm z⟩)⟩)⟩
    · refine w_law_278 hc0 hs0 ?_
      unfold VC_law_278
      exact ⟨hv1, SemI.mono (e_sea _ I J hR) (fun r I1 J1 h => ⟨hv1, SemI.mono h (fun r2 I2 J2 q => ⟨fun _ => nx I2 J2 q.2, fun z => absurd q.1.symm z⟩)⟩)⟩
    · refine w_law_301 hc0 hs0 ?_
      unfold VC_law_301
      exact ⟨hv1, SemI.mono (e_credit _ I J hR) (fun r I1 J1 h => ⟨hv1, SemI.mono h (fun r2 I2 J2 q => ⟨fun _ => nx I2 J2 q.2, fun z => absurd q.1.symm z⟩)⟩)⟩
    · refine w_law_324 hc0 hs0 ?_
      unfold VC_law_324
      exact ⟨hv1, hv2, SemI.mono (e_doubt _ _ I J hR) (fun r I1 J1 h => ⟨hv1, hv2, SemI.mono h (fun r2 I2 J2 q => ⟨fun _ => nx I2 J2 q.2, fun z => absurd q.1.symm z⟩)⟩)⟩
    · refine w_law_357 hc0 hs0 ?_
      unfold VC_law_357
      exact ⟨hv1, hv2, hv3, SemI.mono (e_say _ _ _ I J hR) (fun r I1 J1 h => ⟨hv1, hv2, hv3, SemI.mono h (fun r2 I2 J2 q => ⟨fun _ => nx I2 J2 q.2, fun z => absurd q.1.symm z⟩)⟩)⟩
    · refine w_law_400 hc0 hs0 ?_
      unfold VC_law_400
      exact ⟨hv1, hv2, hv3, hv4, hv5, SemI.mono (e_storm _ _ _ _ _ I J hR) (fun r I1 J1 h => ⟨hv1, hv2, hv3, hv4, hv5, SemI.mono h (fun r2 I2 J2 q => ⟨fun _ => nx I2 J2 q.2, fun z => absurd q.1.symm z⟩)⟩)⟩
    · refine w_law_463 hc0 hs0 ?_
      unfold VC_law_463
      exact ⟨hv1, SemI.mono (e_drift _ I J hR) (fun r I1 J1 h => ⟨hv1, SemI.mono h (fun r2 I2 J2 q => ⟨fun _ => nx I2 J2 q.2, fun z => absurd q.1.symm z⟩)⟩)⟩
    · refine w_law_486 hc0 hs0 ?_
      unfold VC_law_486
      exact ⟨hv1, SemI.mono (e_scrape _ I J hR) (fun r I1 J1 h => ⟨hv1, SemI.mono h (fun r2 I2 J2 q => ⟨fun _ => nx I2 J2 q.2, fun z => absurd q.1.symm z⟩)⟩)⟩
    · refine w_law_509 hc0 hs0 ?_
      unfold VC_law_509
      exact ⟨hv1, SemI.mono (e_learn _ I J hR) (fun r I1 J1 h => ⟨hv1, SemI.mono h (fun r2 I2 J2 q => ⟨fun _ => nx I2 J2 q.2, fun z => absurd q.1.symm z⟩)⟩)⟩
    · refine w_law_532 hc0 hs0 ?_
      unfold VC_law_532
      exact SemI.mono (e_undo I J hR) (fun r I1 J1 h => SemI.mono h (fun r2 I2 J2 q => ⟨fun _ => nx I2 J2 q.2, fun z => absurd q.1.symm z⟩))
    · refine w_law_545 hc0 hs0 ?_
      unfold VC_law_545
      exact ⟨hv1, SemI.mono (e_image _ I J hR) (fun r I1 J1 h => ⟨hv1, SemI.mono h (fun r2 I2 J2 q => ⟨fun _ => nx I2 J2 q.2, fun z => absurd q.1.symm z⟩)⟩)⟩
    · refine w_law_568 hc0 hs0 ?_
      unfold VC_law_568
      exact ⟨hv1, SemI.mono (e_restore _ I J hR) (fun r I1 J1 h => ⟨hv1, SemI.mono h (fun r2 I2 J2 q => ⟨fun _ => nx I2 J2 q.2, fun z => absurd q.1.symm z⟩)⟩)⟩
    · refine w_law_591 hc0 hs0 ?_
      unfold VC_law_591
      exact ⟨hv1, SemI.mono (e_believed _ I J hR) (fun r I1 J1 h => ⟨hv1, SemI.mono h (fun r2 I2 J2 q => ⟨fun _ => nx I2 J2 q.2, fun z => absurd q.1.symm z⟩)⟩)⟩
    · refine w_law_614 hc0 hs0 ?_
      unfold VC_law_614
      exact ⟨hv1, SemI.mono (e_strikes _ I J hR) (fun r I1 J1 h => ⟨hv1, SemI.mono h (fun r2 I2 J2 q => ⟨fun _ => nx I2 J2 q.2, fun z => absurd q.1.symm z⟩)⟩)⟩
    · refine w_law_637 hc0 hs0 ?_
      unfold VC_law_637
      exact ⟨hv1, hv2, hv3, hv4, SemI.mono (e_course _ _ _ _ I J hR) (fun r I1 J1 h => ⟨hv1, hv2, hv3, hv4, SemI.mono h (fun r2 I2 J2 q => ⟨fun _ => nx I2 J2 q.2, fun z => absurd q.1.symm z⟩)⟩)⟩
    · refine w_law_690 hc0 hs0 ?_
      unfold VC_law_690
      exact ⟨hv1, SemI.mono (e_crew _ I J hR) (fun r I1 J1 h => ⟨hv1, SemI.mono h (fun r2 I2 J2 q => ⟨fun _ => nx I2 J2 q.2, fun z => absurd q.1.symm z⟩)⟩)⟩
    · refine w_law_713 hc0 hs0 ?_
      unfold VC_law_713
      exact ⟨hv1, hv2, SemI.mono (e_hears _ _ I J hR) (fun r I1 J1 h => ⟨hv1, hv2, SemI.mono h (fun r2 I2 J2 q => ⟨fun _ => nx I2 J2 q.2, fun z => absurd q.1.symm z⟩)⟩)⟩
    · refine w_law_746 hc0 hs0 ?_
      unfold VC_law_746
      exact ⟨hv1, SemI.mono (e_links _ I J hR) (fun r I1 J1 h => ⟨hv1, SemI.mono h (fun r2 I2 J2 q => ⟨fun _ => nx I2 J2 q.2, fun z => absurd q.1.symm z⟩)⟩)⟩
    · refine w_law_769 hc0 hs0 ?_
      unfold VC_law_769
      exact ⟨hv1, hv2, hv3, hv4, SemI.mono (e_talk _ _ _ _ I J hR) (fun r I1 J1 h => ⟨hv1, hv2, hv3, hv4, SemI.mono h (fun r2 I2 J2 q => ⟨fun _ => nx I2 J2 q.2, fun z => absurd q.1.symm z⟩)⟩)⟩
    · refine w_law_822 hc0 hs0 ?_
      unfold VC_law_822
      exact ⟨hv1, hv2, hv3, SemI.mono (e_decades _ _ _ I J hR) (fun r I1 J1 h => ⟨hv1, hv2, hv3, SemI.mono h (fun r2 I2 J2 q => ⟨fun _ => nx I2 J2 q.2, fun z => absurd q.1.symm z⟩)⟩)⟩
    · refine w_law_865 hc0 hs0 ?_
      unfold VC_law_865
      exact ⟨hv1, hv2, hv3, SemI.mono (e_sheet _ _ _ I J hR) (fun r I1 J1 h => ⟨hv1, hv2, hv3, SemI.mono h (fun r2 I2 J2 q => ⟨fun _ => nx I2 J2 q.2, fun z => absurd q.1.symm z⟩)⟩)⟩
    · refine w_law_908 hc0 hs0 ?_
      unfold VC_law_908
      exact ⟨hv1, SemI.mono (e_drop _ I J hR) (fun r I1 J1 h => ⟨hv1, SemI.mono h (fun r2 I2 J2 q => ⟨fun _ => nx I2 J2 q.2, fun z => absurd q.1.symm z⟩)⟩)⟩
    · refine w_law_931 hc0 hs0 ?_
      unfold VC_law_931
      exact ⟨hv1, hv2, hv3, hv4, hv5, SemL.mono (e_item _ _ _ _ I J hR) (fun r I1 J1 h => ⟨hv1, hv2, hv3, hv4, hv5, SemL.mono h (fun r2 I2 J2 q => ⟨fun _ => nx I2 J2 q.2, fun z => absurd q.1.symm z⟩)⟩)⟩
    · refine w_law_1015 hc0 hs0 ?_
      unfold VC_law_1015
      exact ⟨hv1, hv2, hv3, hv4, hv5, SemI.mono (e_copy _ _ _ _ _ I J hR) (fun r I1 J1 h => ⟨hv1, hv2, hv3, hv4, hv5, SemI.mono h (fun r2 I2 J2 q => ⟨fun _ => nx I2 J2 q.2, fun z => absurd q.1.symm z⟩)⟩)⟩
    · refine w_law_1078 hc0 hs0 ?_
      unfold VC_law_1078
      exact ⟨hv1, hv2, hv3, hv4, hv5, hv6, SemI.mono (e_log _ _ _ _ _ _ I J hR) (fun r I1 J1 h => ⟨hv1, hv2, hv3, hv4, hv5, hv6, SemI.mono h (fun r2 I2 J2 q => ⟨fun _ => nx I2 J2 q.2, fun z => absurd q.1.symm z⟩)⟩)⟩
    · refine w_law_1153 hc0 hs0 ?_
      unfold VC_law_1153
      exact ⟨hv1, hv2, hv3, hv4, hv5, hv6, hv7, SemI.mono (e_rows _ _ _ _ _ _ _ I J hR) (fun r I1 J1 h => ⟨hv1, hv2, hv3, hv4, hv5, hv6, hv7, SemI.mono h (fun r2 I2 J2 q => ⟨fun _ => nx I2 J2 q.2, fun z => absurd q.1.symm z⟩)⟩)⟩
    · refine w_law_1240 hc0 hs0 ?_
      unfold VC_law_1240
      exact ⟨hv1, hv2, hv3, hv4, hv5, hv6, hv7, SemI.mono (e_kinds _ _ _ _ _ _ _ I J hR) (fun r I1 J1 h => ⟨hv1, hv2, hv3, hv4, hv5, hv6, hv7, SemI.mono h (fun r2 I2 J2 q => ⟨fun _ => nx I2 J2 q.2, fun z => absurd q.1.symm z⟩)⟩)⟩
    · refine w_law_1327 hc0 hs0 ?_
      unfold VC_law_1327
      exact ⟨hv1, hv2, hv3, hv4, hv5, hv6, hv7, SemI.mono (e_fog _ _ _ _ _ _ _ I J hR) (fun r I1 J1 h => ⟨hv1, hv2, hv3, hv4, hv5, hv6, hv7, SemI.mono h (fun r2 I2 J2 q => ⟨fun _ => nx I2 J2 q.2, fun z => absurd q.1.symm z⟩)⟩)⟩
    · refine w_law_1414 hc0 hs0 ?_
      unfold VC_law_1414
      exact ⟨hv1, SemI.mono (e_count _ I J hR) (fun r I1 J1 h => ⟨hv1, SemI.mono h (fun r2 I2 J2 q => ⟨fun _ => nx I2 J2 q.2, fun z => absurd q.1.symm z⟩)⟩)⟩
