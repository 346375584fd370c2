def VC_X7_feed (g : GT) (d : Nat) (v1 : Int32) (I : IT) (J : JT) (P : Int32 → IT → JT → Prop) : Prop :=
  ((v1 < 0 → P (-1) I J) ∧ (¬ v1 < 0 → ((v1 ≤ 255 → (SemZ g (d - 1) M_X5_add [.ref (ga g 1), .int v1] I J (fun r18 I18 J18 => ((r18 = false → P (-3) I18 J18) ∧ (r18 = true → P (I18 1 1) I18 J18))))) ∧ (¬ v1 ≤ 255 → P (-1) I J))))
set_option maxRecDepth 4000 in
theorem w_X7_feed {g : GT} {d : Nat} {v1 : Int32} {I : IT} {J : JT} {P : Int32 → IT → JT → Prop} (hd : 1 ≤ d) (hv : VC_X7_feed g d v1 I J P) : SemI g d M_X7_feed [.ref (ga g 0), .int v1] I J P := by
  unfold VC_X7_feed at hv
  refine sem_intro (by decide +kernel) rfl (Nat.le_of_ble_eq_true rfl) ?_
  show AW _ 0 0 0 [(0, .ref (ga g 0)), (1, .int v1)] [] (cW g I J)
  refine a_iload_n 1 dX7_feed_0 rfl rfl ?_
  refine a_if_lt 11 dX7_feed_1 rfl (fun hc => ?_) (fun hc => ?_)
  · replace hv := hv.1 hc
    refine a_iconst (v := (-1)) dX7_feed_11 (by decide) ?_
    exact a_iret rfl dX7_feed_12 hv
  · replace hv := hv.2 hc
    refine a_iload_n 1 dX7_feed_4 rfl rfl ?_
    refine a_sipush (v := 255) dX7_feed_5 (by decide) ?_
    refine a_icmp_le 13 dX7_feed_8 rfl (fun hc => ?_) (fun hc => ?_)
    · replace hv := hv.1 hc
      refine a_aload_n 0 dX7_feed_13 rfl rfl ?_
      refine a_getR (r := 1) G_X7_10 sh_0 rfl dX7_feed_14 ?_
      refine a_iload_n 1 dX7_feed_17 rfl rfl ?_
      refine c_VZ (As := [.int v1]) (rest := []) hv K_X7_68 sh_1 rfl rfl rfl (Nat.le_of_ble_eq_true rfl) (rok (by omega) (Nat.le_of_ble_eq_true rfl)) ⟨Nat.zero_le _, Nat.zero_le _⟩ dX7_feed_18 (fun r18 I18 J18 hv => ?_)
      refine a_ifz_eq 34 dX7_feed_21 rfl (fun hc => ?_) (fun hc => ?_)
      · replace hv := hv.1 hc
        refine a_bipush (v := (-3)) dX7_feed_34 (by decide) ?_
        exact a_iret rfl dX7_feed_36 hv
      · replace hv := hv.2 hc
        refine a_aload_n 0 dX7_feed_24 rfl rfl ?_
        refine a_getR (r := 1) G_X7_10 sh_0 rfl dX7_feed_25 ?_
        refine a_getI G_X7_72 sh_1 rfl dX7_feed_28 ?_
        refine a_goto 36 dX7_feed_31 rfl ?_
        exact a_iret rfl dX7_feed_36 hv
    · replace hv := hv.2 hc
      refine a_iconst (v := (-1)) dX7_feed_11 (by decide) ?_
      exact a_iret rfl dX7_feed_12 hv
def VC_X7_fleet (g : GT) (d : Nat)  (I : IT) (J : JT) (P : Int32 → IT → JT → Prop) : Prop :=
  (SemZ g (d - 1) M_X5_readFleet [.ref (ga g 1), .ref (ga g 11)] I J (fun r8 I8 J8 => ((r8 = true → (SemV g (d - 1) M_X2_become [.ref (ga g 3), .ref (ga g 11)] (sI I8 1 1 0) J8 (fun I43 J43 => (SemV g (d - 1) M_X0_forget [.ref (ga g 20)] I43 J43 (fun I50 J50 => P (I50 3 6) I50 J50))))) ∧ (r8 = false → P ((-100) - ((sI I8 1 1 0) 1 2)) (sI I8 1 1 0) J8))))
set_option maxRecDepth 4000 in
theorem w_X7_fleet {g : GT} {d : Nat}  {I : IT} {J : JT} {P : Int32 → IT → JT → Prop} (hd : 1 ≤ d) (hv : VC_X7_fleet g d  I J P) : SemI g d M_X7_fleet [.ref (ga g 0)] I J P := by
  unfold VC_X7_fleet at hv
  refine sem_intro (by decide +kernel) rfl (Nat.le_of_ble_eq_true rfl) ?_
  show AW _ 0 0 0 [(0, .ref (ga g 0))] [] (cW g I J)
  refine a_aload_n 0 dX7_fleet_0 rfl rfl ?_
  refine a_getR (r := 1) G_X7_10 sh_0 rfl dX7_fleet_1 ?_
  refine a_aload_n 0 dX7_fleet_4 rfl rfl ?_
  refine a_getR (r := 11) G_X7_23 sh_0 rfl dX7_fleet_5 ?_
  refine c_VZ (As := [.ref (ga g 11)]) (rest := []) hv K_X7_76 sh_1 rfl rfl rfl (Nat.le_of_ble_eq_true rfl) (rok (by omega) (Nat.le_of_ble_eq_true rfl)) ⟨Nat.zero_le _, Nat.zero_le _⟩ dX7_fleet_8 (fun r8 I8 J8 hv => ?_)
  refine a_istore_n [(1, .int (bI r8)), (0, .ref (ga g 0))] dX7_fleet_11 rfl (Nat.le_of_ble_eq_true rfl) rfl ?_
  refine a_aload_n 1 dX7_fleet_12 rfl rfl ?_
  refine a_getR (r := 1) G_X7_10 sh_0 rfl dX7_fleet_13 ?_
  refine a_iconst (v := 0) dX7_fleet_16 (by decide) ?_
  refine a_putI H_X7_72 sh_1 rfl rfl rfl dX7_fleet_17 ?_
  refine a_iload_n 0 dX7_fleet_20 rfl rfl ?_
  refine a_ifz_ne 35 dX7_fleet_21 rfl (fun hc => ?_) (fun hc => ?_)
  · replace hv := hv.1 hc
    refine a_aload_n 1 dX7_fleet_35 rfl rfl ?_
    refine a_getR (r := 3) G_X7_19 sh_0 rfl dX7_fleet_36 ?_
    refine a_aload_n 1 dX7_fleet_39 rfl rfl ?_
    refine a_getR (r := 11) G_X7_23 sh_0 rfl dX7_fleet_40 ?_
    refine c_VV (As := [.ref (ga g 11)]) (rest := []) hv K_X7_83 sh_3 rfl rfl rfl (Nat.le_of_ble_eq_true rfl) (rok (by omega) (Nat.le_of_ble_eq_true rfl)) ⟨Nat.zero_le _, Nat.zero_le _⟩ dX7_fleet_43 (fun I43 J43 hv => ?_)
    refine a_aload_n 1 dX7_fleet_46 rfl rfl ?_
    refine a_getR (r := 20) G_X7_39 sh_0 rfl dX7_fleet_47 ?_
    refine c_VV (As := []) (rest := []) hv K_X7_87 sh_20 rfl rfl rfl (Nat.le_of_ble_eq_true rfl) (rok (by omega) (Nat.le_of_ble_eq_true rfl)) ⟨Nat.zero_le _, Nat.zero_le _⟩ dX7_fleet_50 (fun I50 J50 hv => ?_)
    refine a_aload_n 1 dX7_fleet_53 rfl rfl ?_
    refine a_getR (r := 3) G_X7_19 sh_0 rfl dX7_fleet_54 ?_
    refine a_getI G_X7_90 sh_3 rfl dX7_fleet_57 ?_
    exact a_iret rfl dX7_fleet_60 hv
  · replace hv := hv.2 hc
    refine a_bipush (v := (-100)) dX7_fleet_24 (by decide) ?_
    refine a_aload_n 1 dX7_fleet_26 rfl rfl ?_
    refine a_getR (r := 1) G_X7_10 sh_0 rfl dX7_fleet_27 ?_
    refine a_getI G_X7_80 sh_1 rfl dX7_fleet_30 ?_
    refine a_isub dX7_fleet_33 ?_
    exact a_iret rfl dX7_fleet_34 hv
def VC_X7_ship (g : GT) (d : Nat) (v1 : Int32) (v2 : Int32) (I : IT) (J : JT) (P : Int32 → IT → JT → Prop) : Prop :=
  (SemZ g (d - 1) M_X2_hasShip [.ref (ga g 3), .int v1] I J (fun r5 I5 J5 => ((r5 = true → ((v2 = 0 → (vp_in v1 6 ∧ P (I5 6 v1.toNatClampNeg) I5 J5)) ∧ (v2 = 1 → (vp_in v1 6 ∧ P (I5 7 v1.toNatClampNeg) I5 J5)) ∧ (v2 = 2 → (vp_in v1 6 ∧ P (I5 8 v1.toNatClampNeg) I5 J5)) ∧ (v2 = 3 → (vp_in v1 6 ∧ P (I5 9 v1.toNatClampNeg) I5 J5)) ∧ (¬ v2 = 0 ∧ ¬ v2 = 1 ∧ ¬ v2 = 2 ∧ ¬ v2 = 3 → P (-1) I5 J5))) ∧ (r5 = false → P (-1) I5 J5))))
set_option maxRecDepth 4000 in
theorem w_X7_ship {g : GT} {d : Nat} {v1 : Int32} {v2 : Int32} {I : IT} {J : JT} {P : Int32 → IT → JT → Prop} (hd : 1 ≤ d) (hv : VC_X7_ship g d v1 v2 I J P) : SemI g d M_X7_ship [.ref (ga g 0), .int v1, .int v2] I J P := by
  unfold VC_X7_ship at hv
  refine sem_intro (by decide +kernel) rfl (Nat.le_of_ble_eq_true rfl) ?_
  show AW _ 0 0 0 [(0, .ref (ga g 0)), (1, .int v1), (2, .int v2)] [] (cW g I J)
  refine a_aload_n 0 dX7_ship_0 rfl rfl ?_
  refine a_getR (r := 3) G_X7_19 sh_0 rfl dX7_ship_1 ?_
  refine a_iload_n 1 dX7_ship_4 rfl rfl ?_
  refine c_VZ (As := [.int v1]) (rest := []) hv K_X7_93 sh_3 rfl rfl rfl (Nat.le_of_ble_eq_true rfl) (rok (by omega) (Nat.le_of_ble_eq_true rfl)) ⟨Nat.zero_le _, Nat.zero_le _⟩ dX7_ship_5 (fun r5 I5 J5 hv => ?_)
  refine a_ifz_ne 13 dX7_ship_8 rfl (fun hc => ?_) (fun hc => ?_)
  · replace hv := hv.1 hc
    refine a_iload_n 2 dX7_ship_13 rfl rfl ?_
    by_cases hq0 : v2 = 0
    · replace hv := hv.1 hq0
      refine a_tabIn (off := (30)) 44 dX7_ship_14 (by rw [hq0]; decide) (by rw [hq0]; decide) (by rw [hq0]; decide) rfl ?_
      refine a_aload_n 0 dX7_ship_44 rfl rfl ?_
      refine a_getR (r := 3) G_X7_19 sh_0 rfl dX7_ship_45 ?_
      refine a_getR (r := 6) G_X7_96 sh_3 rfl dX7_ship_48 ?_
      refine a_iload_n 1 dX7_ship_51 rfl rfl ?_
      refine a_iald sh_6 hv.1 dX7_ship_52 ?_
      replace hv := hv.2
      exact a_iret rfl dX7_ship_53 hv
    · replace hv := hv.2
      by_cases hq1 : v2 = 1
      · replace hv := hv.1 hq1
        refine a_tabIn (off := (40)) 54 dX7_ship_14 (by rw [hq1]; decide) (by rw [hq1]; decide) (by rw [hq1]; decide) rfl ?_
        refine a_aload_n 0 dX7_ship_54 rfl rfl ?_
        refine a_getR (r := 3) G_X7_19 sh_0 rfl dX7_ship_55 ?_
        refine a_getR (r := 7) G_X7_99 sh_3 rfl dX7_ship_58 ?_
        refine a_iload_n 1 dX7_ship_61 rfl rfl ?_
        refine a_iald sh_7 hv.1 dX7_ship_62 ?_
        replace hv := hv.2
        exact a_iret rfl dX7_ship_63 hv
      · replace hv := hv.2
        by_cases hq2 : v2 = 2
        · replace hv := hv.1 hq2
          refine a_tabIn (off := (50)) 64 dX7_ship_14 (by rw [hq2]; decide) (by rw [hq2]; decide) (by rw [hq2]; decide) rfl ?_
          refine a_aload_n 0 dX7_ship_64 rfl rfl ?_
          refine a_getR (r := 3) G_X7_19 sh_0 rfl dX7_ship_65 ?_
          refine a_getR (r := 8) G_X7_102 sh_3 rfl dX7_ship_68 ?_
          refine a_iload_n 1 dX7_ship_71 rfl rfl ?_
          refine a_iald sh_8 hv.1 dX7_ship_72 ?_
          replace hv := hv.2
          exact a_iret rfl dX7_ship_73 hv
        · replace hv := hv.2
          by_cases hq3 : v2 = 3
          · replace hv := hv.1 hq3
            refine a_tabIn (off := (60)) 74 dX7_ship_14 (by rw [hq3]; decide) (by rw [hq3]; decide) (by rw [hq3]; decide) rfl ?_
            refine a_aload_n 0 dX7_ship_74 rfl rfl ?_
            refine a_getR (r := 3) G_X7_19 sh_0 rfl dX7_ship_75 ?_
            refine a_getR (r := 9) G_X7_105 sh_3 rfl dX7_ship_78 ?_
            refine a_iload_n 1 dX7_ship_81 rfl rfl ?_
            refine a_iald sh_9 hv.1 dX7_ship_82 ?_
            replace hv := hv.2
            exact a_iret rfl dX7_ship_83 hv
          · replace hv := hv.2
            replace hv := hv ⟨hq0, hq1, hq2, hq3⟩
            refine a_tabOut 84 dX7_ship_14 (by have q0 := tI_ne (c := 0) (n := 0) (by decide) hq0; have q1 := tI_ne (c := 1) (n := 1) (by decide) hq1; have q2 := tI_ne (c := 2) (n := 2) (by decide) hq2; have q3 := tI_ne (c := 3) (n := 3) (by decide) hq3; omega) rfl ?_
            refine a_iconst (v := (-1)) dX7_ship_84 (by decide) ?_
            exact a_iret rfl dX7_ship_85 hv
  · replace hv := hv.2 hc
    refine a_iconst (v := (-1)) dX7_ship_11 (by decide) ?_
    exact a_iret rfl dX7_ship_12 hv
def VC_X7_as (g : GT) (d : Nat) (v1 : Int32) (v2 : Int32) (I : IT) (J : JT) (P : Int32 → IT → JT → Prop) : Prop :=
  (SemZ g (d - 1) M_X2_hasShip [.ref (ga g 3), .int v1] I J (fun r5 I5 J5 => ((r5 = false → P (-1) I5 J5) ∧ (r5 = true → ((v2 < 0 → P (-1) I5 J5) ∧ (¬ v2 < 0 → ((v2 < 6 → (vp_in v1 6 ∧ (SemZ g (d - 1) M_X7_isUnder [.int (I5 6 v1.toNatClampNeg), .int v2] I5 J5 (fun r33 I33 J33 => ((r33 = false → P (-12) I33 J33) ∧ (r33 = true → P v1 I33 J33)))))) ∧ (¬ v2 < 6 → P (-1) I5 J5))))))))
set_option maxRecDepth 4000 in
theorem w_X7_as {g : GT} {d : Nat} {v1 : Int32} {v2 : Int32} {I : IT} {J : JT} {P : Int32 → IT → JT → Prop} (hd : 1 ≤ d) (hv : VC_X7_as g d v1 v2 I J P) : SemI g d M_X7_as [.ref (ga g 0), .int v1, .int v2] I J P := by
  unfold VC_X7_as at hv
  refine sem_intro (by decide +kernel) rfl (Nat.le_of_ble_eq_true rfl) ?_
  show AW _ 0 0 0 [(0, .ref (ga g 0)), (1, .int v1), (2, .int v2)] [] (cW g I J)
  refine a_aload_n 0 dX7_as_0 rfl rfl ?_
  refine a_getR (r := 3) G_X7_19 sh_0 rfl dX7_as_1 ?_
  refine a_iload_n 1 dX7_as_4 rfl rfl ?_
  refine c_VZ (As := [.int v1]) (rest := []) hv K_X7_93 sh_3 rfl rfl rfl (Nat.le_of_ble_eq_true rfl) (rok (by omega) (Nat.le_of_ble_eq_true rfl)) ⟨Nat.zero_le _, Nat.zero_le _⟩ dX7_as_5 (fun r5 I5 J5 hv => ?_)
  refine a_ifz_eq 21 dX7_as_8 rfl (fun hc => ?_) (fun hc => ?_)
  · replace hv := hv.1 hc
    refine a_iconst (v := (-1)) dX7_as_21 (by decide) ?_
    exact a_iret rfl dX7_as_22 hv
  · replace hv := hv.2 hc
    refine a_iload_n 2 dX7_as_11 rfl rfl ?_
    refine a_if_lt 21 dX7_as_12 rfl (fun hc => ?_) (fun hc => ?_)
    · replace hv := hv.1 hc
      refine a_iconst (v := (-1)) dX7_as_21 (by decide) ?_
      exact a_iret rfl dX7_as_22 hv
    · replace hv := hv.2 hc
      refine a_iload_n 2 dX7_as_15 rfl rfl ?_
      refine a_bipush (v := 6) dX7_as_16 (by decide) ?_
      refine a_icmp_lt 23 dX7_as_18 rfl (fun hc => ?_) (fun hc => ?_)
      · replace hv := hv.1 hc
        refine a_aload_n 0 dX7_as_23 rfl rfl ?_
        refine a_getR (r := 3) G_X7_19 sh_0 rfl dX7_as_24 ?_
        refine a_getR (r := 6) G_X7_96 sh_3 rfl dX7_as_27 ?_
        refine a_iload_n 1 dX7_as_30 rfl rfl ?_
        refine a_iald sh_6 hv.1 dX7_as_31 ?_
        replace hv := hv.2
        refine a_iload_n 2 dX7_as_32 rfl rfl ?_
        refine c_SZ (As := [.int (I5 6 v1.toNatClampNeg), .int v2]) (rest := []) hv K_X7_108 rfl rfl (Nat.le_of_ble_eq_true rfl) (rok (by omega) (Nat.le_of_ble_eq_true rfl)) ⟨Nat.zero_le _, Nat.zero_le _⟩ dX7_as_33 (fun r33 I33 J33 hv => ?_)
        refine a_ifz_eq 43 dX7_as_36 rfl (fun hc => ?_) (fun hc => ?_)
        · replace hv := hv.1 hc
          refine a_bipush (v := (-12)) dX7_as_43 (by decide) ?_
          exact a_iret rfl dX7_as_45 hv
        · replace hv := hv.2 hc
          refine a_iload_n 1 dX7_as_39 rfl rfl ?_
          refine a_goto 45 dX7_as_40 rfl ?_
          exact a_iret rfl dX7_as_45 hv
      · replace hv := hv.2 hc
        refine a_iconst (v := (-1)) dX7_as_21 (by decide) ?_
        exact a_iret rfl dX7_as_22 hv
def VC_X7_sea (g : GT) (d : Nat) (v1 : Int32) (I : IT) (J : JT) (P : Int32 → IT → JT → Prop) : Prop :=
  (SemZ g (d - 1) M_X3_has [.ref (ga g 4), .int v1] I J (fun r8 I8 J8 => ((r8 = false → P (-1) I8 J8) ∧ (r8 = true → (SemI g (d - 1) M_X3_at [.ref (ga g 4), .int v1] I8 J8 (fun r22 I22 J22 => P r22 I22 J22))))))
set_option maxRecDepth 4000 in
theorem w_X7_sea {g : GT} {d : Nat} {v1 : Int32} {I : IT} {J : JT} {P : Int32 → IT → JT → Prop} (hd : 1 ≤ d) (hv : VC_X7_sea g d v1 I J P) : SemI g d M_X7_sea [.ref (ga g 0), .int v1] I J P := by
  unfold VC_X7_sea at hv
  refine sem_intro (by decide +kernel) rfl (Nat.le_of_ble_eq_true rfl) ?_
  show AW _ 0 0 0 [(0, .ref (ga g 0)), (1, .int v1)] [] (cW g I J)
  refine a_aload_n 0 dX7_sea_0 rfl rfl ?_
  refine a_getR (r := 3) G_X7_19 sh_0 rfl dX7_sea_1 ?_
  refine a_getR (r := 4) G_X7_32 sh_3 rfl dX7_sea_4 ?_
  refine a_iload_n 1 dX7_sea_7 rfl rfl ?_
  refine c_VZ (As := [.int v1]) (rest := []) hv K_X7_112 sh_4 rfl rfl rfl (Nat.le_of_ble_eq_true rfl) (rok (by omega) (Nat.le_of_ble_eq_true rfl)) ⟨Nat.zero_le _, Nat.zero_le _⟩ dX7_sea_8 (fun r8 I8 J8 hv => ?_)
  refine a_ifz_eq 28 dX7_sea_11 rfl (fun hc => ?_) (fun hc => ?_)
  · replace hv := hv.1 hc
    refine a_iconst (v := (-1)) dX7_sea_28 (by decide) ?_
    exact a_iret rfl dX7_sea_29 hv
  · replace hv := hv.2 hc
    refine a_aload_n 0 dX7_sea_14 rfl rfl ?_
    refine a_getR (r := 3) G_X7_19 sh_0 rfl dX7_sea_15 ?_
    refine a_getR (r := 4) G_X7_32 sh_3 rfl dX7_sea_18 ?_
    refine a_iload_n 1 dX7_sea_21 rfl rfl ?_
    refine c_VI (As := [.int v1]) (rest := []) hv K_X7_117 sh_4 rfl rfl rfl (Nat.le_of_ble_eq_true rfl) (rok (by omega) (Nat.le_of_ble_eq_true rfl)) ⟨Nat.zero_le _, Nat.zero_le _⟩ dX7_sea_22 (fun r22 I22 J22 hv => ?_)
    refine a_goto 29 dX7_sea_25 rfl ?_
    exact a_iret rfl dX7_sea_29 hv
def VC_X7_credit (g : GT) (d : Nat) (v1 : Int32) (I : IT) (J : JT) (P : Int32 → IT → JT → Prop) : Prop :=
  (SemZ g (d - 1) M_X2_stands [.ref (ga g 3)] I J (fun r4 I4 J4 => ((r4 = false → P (-1) I4 J4) ∧ (r4 = true → (SemZ g (d - 1) M_X7_isTeller [.int v1] I4 J4 (fun r11 I11 J11 => ((r11 = false → P (-1) I11 J11) ∧ (r11 = true → (vp_in v1 4 ∧ P (I11 10 v1.toNatClampNeg) I11 J11)))))))))
set_option maxRecDepth 4000 in
theorem w_X7_credit {g : GT} {d : Nat} {v1 : Int32} {I : IT} {J : JT} {P : Int32 → IT → JT → Prop} (hd : 1 ≤ d) (hv : VC_X7_credit g d v1 I J P) : SemI g d M_X7_credit [.ref (ga g 0), .int v1] I J P := by
  unfold VC_X7_credit at hv
  refine sem_intro (by decide +kernel) rfl (Nat.le_of_ble_eq_true rfl) ?_
  show AW _ 0 0 0 [(0, .ref (ga g 0)), (1, .int v1)] [] (cW g I J)
  refine a_aload_n 0 dX7_credit_0 rfl rfl ?_
  refine a_getR (r := 3) G_X7_19 sh_0 rfl dX7_credit_1 ?_
  refine c_VZ (As := []) (rest := []) hv K_X7_121 sh_3 rfl rfl rfl (Nat.le_of_ble_eq_true rfl) (rok (by omega) (Nat.le_of_ble_eq_true rfl)) ⟨Nat.zero_le _, Nat.zero_le _⟩ dX7_credit_4 (fun r4 I4 J4 hv => ?_)
  refine a_ifz_eq 29 dX7_credit_7 rfl (fun hc => ?_) (fun hc => ?_)
  · replace hv := hv.1 hc
    refine a_iconst (v := (-1)) dX7_credit_29 (by decide) ?_
    exact a_iret rfl dX7_credit_30 hv
  · replace hv := hv.2 hc
    refine a_iload_n 1 dX7_credit_10 rfl rfl ?_
    refine c_SZ (As := [.int v1]) (rest := []) hv K_X7_125 rfl rfl (Nat.le_of_ble_eq_true rfl) (rok (by omega) (Nat.le_of_ble_eq_true rfl)) ⟨Nat.zero_le _, Nat.zero_le _⟩ dX7_credit_11 (fun r11 I11 J11 hv => ?_)
    refine a_ifz_eq 29 dX7_credit_14 rfl (fun hc => ?_) (fun hc => ?_)
    · replace hv := hv.1 hc
      refine a_iconst (v := (-1)) dX7_credit_29 (by decide) ?_
      exact a_iret rfl dX7_credit_30 hv
    · replace hv := hv.2 hc
      refine a_aload_n 0 dX7_credit_17 rfl rfl ?_
      refine a_getR (r := 3) G_X7_19 sh_0 rfl dX7_credit_18 ?_
      refine a_getR (r := 10) G_X7_128 sh_3 rfl dX7_credit_21 ?_
      refine a_iload_n 1 dX7_credit_24 rfl rfl ?_
      refine a_iald sh_10 hv.1 dX7_credit_25 ?_
      replace hv := hv.2
      refine a_goto 30 dX7_credit_26 rfl ?_
      exact a_iret rfl dX7_credit_30 hv
def VC_X7_doubt (g : GT) (d : Nat) (v1 : Int32) (v2 : Int32) (I : IT) (J : JT) (P : Int32 → IT → JT → Prop) : Prop :=
  (SemZ g (d - 1) M_X2_hasShip [.ref (ga g 3), .int v1] I J (fun r5 I5 J5 => ((r5 = false → P (-1) I5 J5) ∧ (r5 = true → (SemZ g (d - 1) M_X7_isTeller [.int v2] I5 J5 (fun r12 I12 J12 => ((r12 = false → P (-1) I12 J12) ∧ (r12 = true → (SemI g (d - 1) M_X2_doubtOf [.ref (ga g 3), .int v1, .int v2] I12 J12 (fun r24 I24 J24 => P r24 I24 J24))))))))))
set_option maxRecDepth 4000 in
theorem w_X7_doubt {g : GT} {d : Nat} {v1 : Int32} {v2 : Int32} {I : IT} {J : JT} {P : Int32 → IT → JT → Prop} (hd : 1 ≤ d) (hv : VC_X7_doubt g d v1 v2 I J P) : SemI g d M_X7_doubt [.ref (ga g 0), .int v1, .int v2] I J P := by
  unfold VC_X7_doubt at hv
  refine sem_intro (by decide +kernel) rfl (Nat.le_of_ble_eq_true rfl) ?_
  show AW _ 0 0 0 [(0, .ref (ga g 0)), (1, .int v1), (2, .int v2)] [] (cW g I J)
  refine a_aload_n 0 dX7_doubt_0 rfl rfl ?_
  refine a_getR (r := 3) G_X7_19 sh_0 rfl dX7_doubt_1 ?_
  refine a_iload_n 1 dX7_doubt_4 rfl rfl ?_
  refine c_VZ (As := [.int v1]) (rest := []) hv K_X7_93 sh_3 rfl rfl rfl (Nat.le_of_ble_eq_true rfl) (rok (by omega) (Nat.le_of_ble_eq_true rfl)) ⟨Nat.zero_le _, Nat.zero_le _⟩ dX7_doubt_5 (fun r5 I5 J5 hv => ?_)
  refine a_ifz_eq 30 dX7_doubt_8 rfl (fun hc => ?_) (fun hc => ?_)
  · replace hv := hv.1 hc
    refine a_iconst (v := (-1)) dX7_doubt_30 (by decide) ?_
    exact a_iret rfl dX7_doubt_31 hv
  · replace hv := hv.2 hc
    refine a_iload_n 2 dX7_doubt_11 rfl rfl ?_
    refine c_SZ (As := [.int v2]) (rest := []) hv K_X7_125 rfl rfl (Nat.le_of_ble_eq_true rfl) (rok (by omega) (Nat.le_of_ble_eq_true rfl)) ⟨Nat.zero_le _, Nat.zero_le _⟩ dX7_doubt_12 (fun r12 I12 J12 hv => ?_)
    refine a_ifz_eq 30 dX7_doubt_15 rfl (fun hc => ?_) (fun hc => ?_)
    · replace hv := hv.1 hc
      refine a_iconst (v := (-1)) dX7_doubt_30 (by decide) ?_
      exact a_iret rfl dX7_doubt_31 hv
    · replace hv := hv.2 hc
      refine a_aload_n 0 dX7_doubt_18 rfl rfl ?_
      refine a_getR (r := 3) G_X7_19 sh_0 rfl dX7_doubt_19 ?_
      refine a_iload_n 1 dX7_doubt_22 rfl rfl ?_
      refine a_iload_n 2 dX7_doubt_23 rfl rfl ?_
      refine c_VI (As := [.int v1, .int v2]) (rest := []) hv K_X7_131 sh_3 rfl rfl rfl (Nat.le_of_ble_eq_true rfl) (rok (by omega) (Nat.le_of_ble_eq_true rfl)) ⟨Nat.zero_le _, Nat.zero_le _⟩ dX7_doubt_24 (fun r24 I24 J24 hv => ?_)
      refine a_goto 31 dX7_doubt_27 rfl ?_
      exact a_iret rfl dX7_doubt_31 hv
def VC_X7_say (g : GT) (d : Nat) (v1 : Int32) (v2 : Int32) (v3 : Int32) (I : IT) (J : JT) (P : Int32 → IT → JT → Prop) : Prop :=
  (SemZ g (d - 1) M_X2_hasShip [.ref (ga g 3), .int v1] I J (fun r5 I5 J5 => ((r5 = false → P (-1) I5 J5) ∧ (r5 = true → (SemZ g (d - 1) M_X7_isTeller [.int v2] I5 J5 (fun r12 I12 J12 => ((r12 = false → P (-1) I12 J12) ∧ (r12 = true → (SemZ g (d - 1) M_X7_isWord [.long (v3.toInt64)] I12 J12 (fun r20 I20 J20 => ((r20 = true → (((I20 3 7) < 9999 → (SemR g (d - 1) M_X7_setOut [.ref (ga g 0), .int v1] I20 J20 (fun r46 I46 J46 => (isV r46 ∧ (SemV g (d - 1) M_X6_hear [.ref (ga g r46), .int v2, .int v3] I46 J46 (fun I55 J55 => (SemI g (d - 1) M_X7_arrive [.ref (ga g 0), .int v1, .ref (ga g r46)] I55 J55 (fun r62 I62 J62 => P r62 I62 J62)))))))) ∧ (¬ (I20 3 7) < 9999 → P (-3) I20 J20))) ∧ (r20 = false → P (-1) I20 J20))))))))))))
set_option maxRecDepth 4000 in
theorem w_X7_say {g : GT} {d : Nat} {v1 : Int32} {v2 : Int32} {v3 : Int32} {I : IT} {J : JT} {P : Int32 → IT → JT → Prop} (hd : 1 ≤ d) (hv : VC_X7_say g d v1 v2 v3 I J P) : SemI g d M_X7_say [.ref (ga g 0), .int v1, .int v2, .int v3] I J P := by
  unfold VC_X7_say at hv
  refine sem_intro (by decide +kernel) rfl (Nat.le_of_ble_eq_true rfl) ?_
  show AW _ 0 0 0 [(0, .ref (ga g 0)), (1, .int v1), (2, .int v2), (3, .int v3)] [] (cW g I J)
  refine a_aload_n 0 dX7_say_0 rfl rfl ?_
  refine a_getR (r := 3) G_X7_19 sh_0 rfl dX7_say_1 ?_
  refine a_iload_n 1 dX7_say_4 rfl rfl ?_
  refine c_VZ (As := [.int v1]) (rest := []) hv K_X7_93 sh_3 rfl rfl rfl (Nat.le_of_ble_eq_true rfl) (rok (by omega) (Nat.le_of_ble_eq_true rfl)) ⟨Nat.zero_le _, Nat.zero_le _⟩ dX7_say_5 (fun r5 I5 J5 hv => ?_)
  refine a_ifz_eq 26 dX7_say_8 rfl (fun hc => ?_) (fun hc => ?_)
  · replace hv := hv.1 hc
    refine a_iconst (v := (-1)) dX7_say_26 (by decide) ?_
    exact a_iret rfl dX7_say_27 hv
  · replace hv := hv.2 hc
    refine a_iload_n 2 dX7_say_11 rfl rfl ?_
    refine c_SZ (As := [.int v2]) (rest := []) hv K_X7_125 rfl rfl (Nat.le_of_ble_eq_true rfl) (rok (by omega) (Nat.le_of_ble_eq_true rfl)) ⟨Nat.zero_le _, Nat.zero_le _⟩ dX7_say_12 (fun r12 I12 J12 hv => ?_)
    refine a_ifz_eq 26 dX7_say_15 rfl (fun hc => ?_) (fun hc => ?_)
    · replace hv := hv.1 hc
      refine a_iconst (v := (-1)) dX7_say_26 (by decide) ?_
      exact a_iret rfl dX7_say_27 hv
    · replace hv := hv.2 hc
      refine a_iload_n 3 dX7_say_18 rfl rfl ?_
      refine a_i2l dX7_say_19 ?_
      refine c_SZ (As := [.long (v3.toInt64)]) (rest := []) hv K_X7_135 rfl rfl (Nat.le_of_ble_eq_true rfl) (rok (by omega) (Nat.le_of_ble_eq_true rfl)) ⟨Nat.zero_le _, Nat.zero_le _⟩ dX7_say_20 (fun r20 I20 J20 hv => ?_)
      refine a_ifz_ne 28 dX7_say_23 rfl (fun hc => ?_) (fun hc => ?_)
      · replace hv := hv.1 hc
        refine a_aload_n 0 dX7_say_28 rfl rfl ?_
        refine a_getR (r := 3) G_X7_19 sh_0 rfl dX7_say_29 ?_
        refine a_getI G_X7_139 sh_3 rfl dX7_say_32 ?_
        refine a_sipush (v := 9999) dX7_say_35 (by decide) ?_
        refine a_icmp_lt 44 dX7_say_38 rfl (fun hc => ?_) (fun hc => ?_)
        · replace hv := hv.1 hc
          refine a_aload_n 0 dX7_say_44 rfl rfl ?_
          refine a_iload_n 1 dX7_say_45 rfl rfl ?_
          refine c_VR (As := [.int v1]) (rest := []) hv K_X7_142 sh_0 rfl rfl rfl (Nat.le_of_ble_eq_true rfl) (rok (by omega) (Nat.le_of_ble_eq_true rfl)) ⟨Nat.zero_le _, Nat.zero_le _⟩ dX7_say_46 (fun r46 I46 J46 hv => ?_)
          have hr46 := hv.1
          replace hv := hv.2
          refine a_astore [(4, .ref (ga g r46)), (0, .ref (ga g 0)), (1, .int v1), (2, .int v2), (3, .int v3)] dX7_say_49 (Nat.le_of_ble_eq_true rfl) rfl ?_
          refine a_aload 0 dX7_say_51 rfl ?_
          refine a_iload_n 3 dX7_say_53 rfl rfl ?_
          refine a_iload_n 4 dX7_say_54 rfl rfl ?_
          refine c_VV (As := [.int v2, .int v3]) (rest := []) hv K_X7_146 hr46.1 rfl rfl rfl (Nat.le_of_ble_eq_true rfl) (rok (by omega) (Nat.le_of_ble_eq_true rfl)) ⟨Nat.zero_le _, Nat.zero_le _⟩ dX7_say_55 (fun I55 J55 hv => ?_)
          refine a_aload_n 1 dX7_say_58 rfl rfl ?_
          refine a_iload_n 2 dX7_say_59 rfl rfl ?_
          refine a_aload 0 dX7_say_60 rfl ?_
          refine c_VI (As := [.int v1, .ref (ga g r46)]) (rest := []) hv K_X7_150 sh_0 rfl rfl rfl (Nat.le_of_ble_eq_true rfl) (rok (by omega) (Nat.le_of_ble_eq_true rfl)) ⟨Nat.zero_le _, Nat.zero_le _⟩ dX7_say_62 (fun r62 I62 J62 hv => ?_)
          exact a_iret rfl dX7_say_65 hv
        · replace hv := hv.2 hc
          refine a_bipush (v := (-3)) dX7_say_41 (by decide) ?_
          exact a_iret rfl dX7_say_43 hv
      · replace hv := hv.2 hc
        refine a_iconst (v := (-1)) dX7_say_26 (by decide) ?_
        exact a_iret rfl dX7_say_27 hv
def VC_X7_storm (g : GT) (d : Nat) (v1 : Int32) (v2 : Int32) (v3 : Int32) (v4 : Int32) (v5 : Int32) (I : IT) (J : JT) (P : Int32 → IT → JT → Prop) : Prop :=
  (SemZ g (d - 1) M_X2_hasShip [.ref (ga g 3), .int v1] I J (fun r5 I5 J5 => ((r5 = false → P (-1) I5 J5) ∧ (r5 = true → (SemZ g (d - 1) M_X7_isTeller [.int v2] I5 J5 (fun r12 I12 J12 => ((r12 = false → P (-1) I12 J12) ∧ (r12 = true → (SemZ g (d - 1) M_X7_isWord [.long (v3.toInt64)] I12 J12 (fun r20 I20 J20 => ((r20 = false → P (-1) I20 J20) ∧ (r20 = true → (SemZ g (d - 1) M_X7_isTeller [.int v4] I20 J20 (fun r28 I28 J28 => ((r28 = false → P (-1) I28 J28) ∧ (r28 = true → (SemZ g (d - 1) M_X7_isWord [.long (v5.toInt64)] I28 J28 (fun r37 I37 J37 => ((r37 = false → P (-1) I37 J37) ∧ (r37 = true → ((¬ v2 = v4 → (((I37 3 7) < 9999 → (SemR g (d - 1) M_X7_setOut [.ref (ga g 0), .int v1] I37 J37 (fun r69 I69 J69 => (isV r69 ∧ (SemV g (d - 1) M_X6_hearTwo [.ref (ga g r69), .int v2, .int v3, .int v4, .int v5] I69 J69 (fun I82 J82 => (SemI g (d - 1) M_X7_arrive [.ref (ga g 0), .int v1, .ref (ga g r69)] I82 J82 (fun r89 I89 J89 => P r89 I89 J89)))))))) ∧ (¬ (I37 3 7) < 9999 → P (-3) I37 J37))) ∧ (v2 = v4 → P (-1) I37 J37))))))))))))))))))))))
set_option maxRecDepth 4000 in
theorem w_X7_storm {g : GT} {d : Nat} {v1 : Int32} {v2 : Int32} {v3 : Int32} {v4 : Int32} {v5 : Int32} {I : IT} {J : JT} {P : Int32 → IT → JT → Prop} (hd : 1 ≤ d) (hv : VC_X7_storm g d v1 v2 v3 v4 v5 I J P) : SemI g d M_X7_storm [.ref (ga g 0), .int v1, .int v2, .int v3, .int v4, .int v5] I J P := by
  unfold VC_X7_storm at hv
  refine sem_intro (by decide +kernel) rfl (Nat.le_of_ble_eq_true rfl) ?_
  show AW _ 0 0 0 [(0, .ref (ga g 0)), (1, .int v1), (2, .int v2), (3, .int v3), (4, .int v4), (5, .int v5)] [] (cW g I J)
  refine a_aload_n 0 dX7_storm_0 rfl rfl ?_
  refine a_getR (r := 3) G_X7_19 sh_0 rfl dX7_storm_1 ?_
  refine a_iload_n 1 dX7_storm_4 rfl rfl ?_
  refine c_VZ (As := [.int v1]) (rest := []) hv K_X7_93 sh_3 rfl rfl rfl (Nat.le_of_ble_eq_true rfl) (rok (by omega) (Nat.le_of_ble_eq_true rfl)) ⟨Nat.zero_le _, Nat.zero_le _⟩ dX7_storm_5 (fun r5 I5 J5 hv => ?_)
  refine a_ifz_eq 49 dX7_storm_8 rfl (fun hc => ?_) (fun hc => ?_)
  · replace hv := hv.1 hc
    refine a_iconst (v := (-1)) dX7_storm_49 (by decide) ?_
    exact a_iret rfl dX7_storm_50 hv
  · replace hv := hv.2 hc
    refine a_iload_n 2 dX7_storm_11 rfl rfl ?_
    refine c_SZ (As := [.int v2]) (rest := []) hv K_X7_125 rfl rfl (Nat.le_of_ble_eq_true rfl) (rok (by omega) (Nat.le_of_ble_eq_true rfl)) ⟨Nat.zero_le _, Nat.zero_le _⟩ dX7_storm_12 (fun r12 I12 J12 hv => ?_)
    refine a_ifz_eq 49 dX7_storm_15 rfl (fun hc => ?_) (fun hc => ?_)
    · replace hv := hv.1 hc
      refine a_iconst (v := (-1)) dX7_storm_49 (by decide) ?_
      exact a_iret rfl dX7_storm_50 hv
    · replace hv := hv.2 hc
      refine a_iload_n 3 dX7_storm_18 rfl rfl ?_
      refine a_i2l dX7_storm_19 ?_
      refine c_SZ (As := [.long (v3.toInt64)]) (rest := []) hv K_X7_135 rfl rfl (Nat.le_of_ble_eq_true rfl) (rok (by omega) (Nat.le_of_ble_eq_true rfl)) ⟨Nat.zero_le _, Nat.zero_le _⟩ dX7_storm_20 (fun r20 I20 J20 hv => ?_)
      refine a_ifz_eq 49 dX7_storm_23 rfl (fun hc => ?_) (fun hc => ?_)
      · replace hv := hv.1 hc
        refine a_iconst (v := (-1)) dX7_storm_49 (by decide) ?_
        exact a_iret rfl dX7_storm_50 hv
      · replace hv := hv.2 hc
        refine a_iload 4 dX7_storm_26 rfl ?_
        refine c_SZ (As := [.int v4]) (rest := []) hv K_X7_125 rfl rfl (Nat.le_of_ble_eq_true rfl) (rok (by omega) (Nat.le_of_ble_eq_true rfl)) ⟨Nat.zero_le _, Nat.zero_le _⟩ dX7_storm_28 (fun r28 I28 J28 hv => ?_)
        refine a_ifz_eq 49 dX7_storm_31 rfl (fun hc => ?_) (fun hc => ?_)
        · replace hv := hv.1 hc
          refine a_iconst (v := (-1)) dX7_storm_49 (by decide) ?_
          exact a_iret rfl dX7_storm_50 hv
        · replace hv := hv.2 hc
          refine a_iload 5 dX7_storm_34 rfl ?_
          refine a_i2l dX7_storm_36 ?_
          refine c_SZ (As := [.long (v5.toInt64)]) (rest := []) hv K_X7_135 rfl rfl (Nat.le_of_ble_eq_true rfl) (rok (by omega) (Nat.le_of_ble_eq_true rfl)) ⟨Nat.zero_le _, Nat.zero_le _⟩ dX7_storm_37 (fun r37 I37 J37 hv => ?_)
          refine a_ifz_eq 49 dX7_storm_40 rfl (fun hc => ?_) (fun hc => ?_)
          · replace hv := hv.1 hc
            refine a_iconst (v := (-1)) dX7_storm_49 (by decide) ?_
            exact a_iret rfl dX7_storm_50 hv
          · replace hv := hv.2 hc
            refine a_iload_n 2 dX7_storm_43 rfl rfl ?_
            refine a_iload 4 dX7_storm_44 rfl ?_
            refine a_icmp_ne 51 dX7_storm_46 rfl (fun hc => ?_) (fun hc => ?_)
            · replace hv := hv.1 hc
              refine a_aload_n 0 dX7_storm_51 rfl rfl ?_
              refine a_getR (r := 3) G_X7_19 sh_0 rfl dX7_storm_52 ?_
              refine a_getI G_X7_139 sh_3 rfl dX7_storm_55 ?_
              refine a_sipush (v := 9999) dX7_storm_58 (by decide) ?_
              refine a_icmp_lt 67 dX7_storm_61 rfl (fun hc => ?_) (fun hc => ?_)
              · replace hv := hv.1 hc
                refine a_aload_n 0 dX7_storm_67 rfl rfl ?_
                refine a_iload_n 1 dX7_storm_68 rfl rfl ?_
                refine c_VR (As := [.int v1]) (rest := []) hv K_X7_142 sh_0 rfl rfl rfl (Nat.le_of_ble_eq_true rfl) (rok (by omega) (Nat.le_of_ble_eq_true rfl)) ⟨Nat.zero_le _, Nat.zero_le _⟩ dX7_storm_69 (fun r69 I69 J69 hv => ?_)
                have hr69 := hv.1
                replace hv := hv.2
                refine a_astore [(6, .ref (ga g r69)), (0, .ref (ga g 0)), (1, .int v1), (2, .int v2), (3, .int v3), (4, .int v4), (5, .int v5)] dX7_storm_72 (Nat.le_of_ble_eq_true rfl) rfl ?_
                refine a_aload 0 dX7_storm_74 rfl ?_
                refine a_iload_n 3 dX7_storm_76 rfl rfl ?_
                refine a_iload_n 4 dX7_storm_77 rfl rfl ?_
                refine a_iload 5 dX7_storm_78 rfl ?_
                refine a_iload 6 dX7_storm_80 rfl ?_
                refine c_VV (As := [.int v2, .int v3, .int v4, .int v5]) (rest := []) hv K_X7_154 hr69.1 rfl rfl rfl (Nat.le_of_ble_eq_true rfl) (rok (by omega) (Nat.le_of_ble_eq_true rfl)) ⟨Nat.zero_le _, Nat.zero_le _⟩ dX7_storm_82 (fun I82 J82 hv => ?_)
                refine a_aload_n 1 dX7_storm_85 rfl rfl ?_
                refine a_iload_n 2 dX7_storm_86 rfl rfl ?_
                refine a_aload 0 dX7_storm_87 rfl ?_
                refine c_VI (As := [.int v1, .ref (ga g r69)]) (rest := []) hv K_X7_150 sh_0 rfl rfl rfl (Nat.le_of_ble_eq_true rfl) (rok (by omega) (Nat.le_of_ble_eq_true rfl)) ⟨Nat.zero_le _, Nat.zero_le _⟩ dX7_storm_89 (fun r89 I89 J89 hv => ?_)
                exact a_iret rfl dX7_storm_92 hv
              · replace hv := hv.2 hc
                refine a_bipush (v := (-3)) dX7_storm_64 (by decide) ?_
                exact a_iret rfl dX7_storm_66 hv
            · replace hv := hv.2 hc
              refine a_iconst (v := (-1)) dX7_storm_49 (by decide) ?_
              exact a_iret rfl dX7_storm_50 hv
def VC_X7_drift (g : GT) (d : Nat) (v1 : Int32) (I : IT) (J : JT) (P : Int32 → IT → JT → Prop) : Prop :=
  (SemZ g (d - 1) M_X2_hasShip [.ref (ga g 3), .int v1] I J (fun r5 I5 J5 => ((r5 = true → (((I5 3 7) < 9999 → (SemR g (d - 1) M_X7_setOut [.ref (ga g 0), .int v1] I5 J5 (fun r31 I31 J31 => (isV r31 ∧ (SemZ g (d - 1) M_X6_goOn [.ref (ga g r31)] I31 J31 (fun r36 I36 J36 => (SemI g (d - 1) M_X7_arrive [.ref (ga g 0), .int v1, .ref (ga g r31)] I36 J36 (fun r43 I43 J43 => P r43 I43 J43)))))))) ∧ (¬ (I5 3 7) < 9999 → P (-3) I5 J5))) ∧ (r5 = false → P (-1) I5 J5))))
set_option maxRecDepth 4000 in
theorem w_X7_drift {g : GT} {d : Nat} {v1 : Int32} {I : IT} {J : JT} {P : Int32 → IT → JT → Prop} (hd : 1 ≤ d) (hv : VC_X7_drift g d v1 I J P) : SemI g d M_X7_drift [.ref (ga g 0), .int v1] I J P := by
  unfold VC_X7_drift at hv
  refine sem_intro (by decide +kernel) rfl (Nat.le_of_ble_eq_true rfl) ?_
  show AW _ 0 0 0 [(0, .ref (ga g 0)), (1, .int v1)] [] (cW g I J)
  refine a_aload_n 0 dX7_drift_0 rfl rfl ?_
  refine a_getR (r := 3) G_X7_19 sh_0 rfl dX7_drift_1 ?_
  refine a_iload_n 1 dX7_drift_4 rfl rfl ?_
  refine c_VZ (As := [.int v1]) (rest := []) hv K_X7_93 sh_3 rfl rfl rfl (Nat.le_of_ble_eq_true rfl) (rok (by omega) (Nat.le_of_ble_eq_true rfl)) ⟨Nat.zero_le _, Nat.zero_le _⟩ dX7_drift_5 (fun r5 I5 J5 hv => ?_)
  refine a_ifz_ne 13 dX7_drift_8 rfl (fun hc => ?_) (fun hc => ?_)
  · replace hv := hv.1 hc
    refine a_aload_n 0 dX7_drift_13 rfl rfl ?_
    refine a_getR (r := 3) G_X7_19 sh_0 rfl dX7_drift_14 ?_
    refine a_getI G_X7_139 sh_3 rfl dX7_drift_17 ?_
    refine a_sipush (v := 9999) dX7_drift_20 (by decide) ?_
    refine a_icmp_lt 29 dX7_drift_23 rfl (fun hc => ?_) (fun hc => ?_)
    · replace hv := hv.1 hc
      refine a_aload_n 0 dX7_drift_29 rfl rfl ?_
      refine a_iload_n 1 dX7_drift_30 rfl rfl ?_
      refine c_VR (As := [.int v1]) (rest := []) hv K_X7_142 sh_0 rfl rfl rfl (Nat.le_of_ble_eq_true rfl) (rok (by omega) (Nat.le_of_ble_eq_true rfl)) ⟨Nat.zero_le _, Nat.zero_le _⟩ dX7_drift_31 (fun r31 I31 J31 hv => ?_)
      have hr31 := hv.1
      replace hv := hv.2
      refine a_astore_n [(2, .ref (ga g r31)), (0, .ref (ga g 0)), (1, .int v1)] dX7_drift_34 rfl (Nat.le_of_ble_eq_true rfl) rfl ?_
      refine a_aload_n 0 dX7_drift_35 rfl rfl ?_
      refine c_VZ (As := []) (rest := []) hv K_X7_158 hr31.1 rfl rfl rfl (Nat.le_of_ble_eq_true rfl) (rok (by omega) (Nat.le_of_ble_eq_true rfl)) ⟨Nat.zero_le _, Nat.zero_le _⟩ dX7_drift_36 (fun r36 I36 J36 hv => ?_)
      refine a_pop dX7_drift_39 rfl ?_
      refine a_aload_n 1 dX7_drift_40 rfl rfl ?_
      refine a_iload_n 2 dX7_drift_41 rfl rfl ?_
      refine a_aload_n 0 dX7_drift_42 rfl rfl ?_
      refine c_VI (As := [.int v1, .ref (ga g r31)]) (rest := []) hv K_X7_150 sh_0 rfl rfl rfl (Nat.le_of_ble_eq_true rfl) (rok (by omega) (Nat.le_of_ble_eq_true rfl)) ⟨Nat.zero_le _, Nat.zero_le _⟩ dX7_drift_43 (fun r43 I43 J43 hv => ?_)
      exact a_iret rfl dX7_drift_46 hv
    · replace hv := hv.2 hc
      refine a_bipush (v := (-3)) dX7_drift_26 (by decide) ?_
      exact a_iret rfl dX7_drift_28 hv
  · replace hv := hv.2 hc
    refine a_iconst (v := (-1)) dX7_drift_11 (by decide) ?_
    exact a_iret rfl dX7_drift_12 hv
def VC_X7_scrape (g : GT) (d : Nat) (v1 : Int32) (I : IT) (J : JT) (P : Int32 → IT → JT → Prop) : Prop :=
  (SemZ g (d - 1) M_X2_hasShip [.ref (ga g 3), .int v1] I J (fun r5 I5 J5 => ((r5 = true → (vp_in v1 6 ∧ ((0 < (I5 9 v1.toNatClampNeg) → (SemV g (d - 1) M_X0_keep [.ref (ga g 20), .ref (ga g 3), .int v1] I5 J5 (fun I37 J37 => (vp_in v1 6 ∧ (vp_in v1 6 ∧ (vp_in v1 6 ∧ P ((sI I37 9 v1.toNatClampNeg ((I37 9 v1.toNatClampNeg) - 1)) 9 v1.toNatClampNeg) (sI I37 9 v1.toNatClampNeg ((I37 9 v1.toNatClampNeg) - 1)) J37)))))) ∧ (¬ 0 < (I5 9 v1.toNatClampNeg) → P (-2) I5 J5)))) ∧ (r5 = false → P (-1) I5 J5))))
set_option maxRecDepth 4000 in
theorem w_X7_scrape {g : GT} {d : Nat} {v1 : Int32} {I : IT} {J : JT} {P : Int32 → IT → JT → Prop} (hd : 1 ≤ d) (hv : VC_X7_scrape g d v1 I J P) : SemI g d M_X7_scrape [.ref (ga g 0), .int v1] I J P := by
  unfold VC_X7_scrape at hv
  refine sem_intro (by decide +kernel) rfl (Nat.le_of_ble_eq_true rfl) ?_
  show AW _ 0 0 0 [(0, .ref (ga g 0)), (1, .int v1)] [] (cW g I J)
  refine a_aload_n 0 dX7_scrape_0 rfl rfl ?_
  refine a_getR (r := 3) G_X7_19 sh_0 rfl dX7_scrape_1 ?_
  refine a_iload_n 1 dX7_scrape_4 rfl rfl ?_
  refine c_VZ (As := [.int v1]) (rest := []) hv K_X7_93 sh_3 rfl rfl rfl (Nat.le_of_ble_eq_true rfl) (rok (by omega) (Nat.le_of_ble_eq_true rfl)) ⟨Nat.zero_le _, Nat.zero_le _⟩ dX7_scrape_5 (fun r5 I5 J5 hv => ?_)
  refine a_ifz_ne 13 dX7_scrape_8 rfl (fun hc => ?_) (fun hc => ?_)
  · replace hv := hv.1 hc
    refine a_aload_n 0 dX7_scrape_13 rfl rfl ?_
    refine a_getR (r := 3) G_X7_19 sh_0 rfl dX7_scrape_14 ?_
    refine a_getR (r := 9) G_X7_105 sh_3 rfl dX7_scrape_17 ?_
    refine a_iload_n 1 dX7_scrape_20 rfl rfl ?_
    refine a_iald sh_9 hv.1 dX7_scrape_21 ?_
    replace hv := hv.2
    refine a_if_gt 28 dX7_scrape_22 rfl (fun hc => ?_) (fun hc => ?_)
    · replace hv := hv.1 hc
      refine a_aload_n 0 dX7_scrape_28 rfl rfl ?_
      refine a_getR (r := 20) G_X7_39 sh_0 rfl dX7_scrape_29 ?_
      refine a_aload_n 0 dX7_scrape_32 rfl rfl ?_
      refine a_getR (r := 3) G_X7_19 sh_0 rfl dX7_scrape_33 ?_
      refine a_iload_n 1 dX7_scrape_36 rfl rfl ?_
      refine c_VV (As := [.ref (ga g 3), .int v1]) (rest := []) hv K_X7_161 sh_20 rfl rfl rfl (Nat.le_of_ble_eq_true rfl) (rok (by omega) (Nat.le_of_ble_eq_true rfl)) ⟨Nat.zero_le _, Nat.zero_le _⟩ dX7_scrape_37 (fun I37 J37 hv => ?_)
      refine a_aload_n 0 dX7_scrape_40 rfl rfl ?_
      refine a_getR (r := 3) G_X7_19 sh_0 rfl dX7_scrape_41 ?_
      refine a_getR (r := 9) G_X7_105 sh_3 rfl dX7_scrape_44 ?_
      refine a_iload_n 1 dX7_scrape_47 rfl rfl ?_
      refine a_dup2 dX7_scrape_48 rfl rfl ?_
      refine a_iald sh_9 hv.1 dX7_scrape_49 ?_
      replace hv := hv.2
      refine a_iconst (v := 1) dX7_scrape_50 (by decide) ?_
      refine a_isub dX7_scrape_51 ?_
      refine a_iast sh_9 hv.1 dX7_scrape_52 ?_
      replace hv := hv.2
      refine a_aload_n 0 dX7_scrape_53 rfl rfl ?_
      refine a_getR (r := 3) G_X7_19 sh_0 rfl dX7_scrape_54 ?_
      refine a_getR (r := 9) G_X7_105 sh_3 rfl dX7_scrape_57 ?_
      refine a_iload_n 1 dX7_scrape_60 rfl rfl ?_
      refine a_iald sh_9 hv.1 dX7_scrape_61 ?_
      replace hv := hv.2
      exact a_iret rfl dX7_scrape_62 hv
    · replace hv := hv.2 hc
      refine a_bipush (v := (-2)) dX7_scrape_25 (by decide) ?_
      exact a_iret rfl dX7_scrape_27 hv
  · replace hv := hv.2 hc
    refine a_iconst (v := (-1)) dX7_scrape_11 (by decide) ?_
    exact a_iret rfl dX7_scrape_12 hv
def VC_X7_learn (g : GT) (d : Nat) (v1 : Int32) (I : IT) (J : JT) (P : Int32 → IT → JT → Prop) : Prop :=
  (SemZ g (d - 1) M_X2_stands [.ref (ga g 3)] I J (fun r4 I4 J4 => ((r4 = false → P (-1) I4 J4) ∧ (r4 = true → (SemZ g (d - 1) M_X7_isTeller [.int v1] I4 J4 (fun r11 I11 J11 => ((r11 = true → (vp_in v1 4 ∧ (((I11 10 v1.toNatClampNeg) < 9 → (SemV g (d - 1) M_X0_keep [.ref (ga g 20), .ref (ga g 3), .int 0] I11 J11 (fun I45 J45 => (vp_in v1 4 ∧ (vp_in v1 4 ∧ (vp_in v1 4 ∧ P ((sI I45 10 v1.toNatClampNeg ((I45 10 v1.toNatClampNeg) + 1)) 10 v1.toNatClampNeg) (sI I45 10 v1.toNatClampNeg ((I45 10 v1.toNatClampNeg) + 1)) J45)))))) ∧ (¬ (I11 10 v1.toNatClampNeg) < 9 → P (-2) I11 J11)))) ∧ (r11 = false → P (-1) I11 J11))))))))
set_option maxRecDepth 4000 in
theorem w_X7_learn {g : GT} {d : Nat} {v1 : Int32} {I : IT} {J : JT} {P : Int32 → IT → JT → Prop} (hd : 1 ≤ d) (hv : VC_X7_learn g d v1 I J P) : SemI g d M_X7_learn [.ref (ga g 0), .int v1] I J P := by
  unfold VC_X7_learn at hv
  refine sem_intro (by decide +kernel) rfl (Nat.le_of_ble_eq_true rfl) ?_
  show AW _ 0 0 0 [(0, .ref (ga g 0)), (1, .int v1)] [] (cW g I J)
  refine a_aload_n 0 dX7_learn_0 rfl rfl ?_
  refine a_getR (r := 3) G_X7_19 sh_0 rfl dX7_learn_1 ?_
  refine c_VZ (As := []) (rest := []) hv K_X7_121 sh_3 rfl rfl rfl (Nat.le_of_ble_eq_true rfl) (rok (by omega) (Nat.le_of_ble_eq_true rfl)) ⟨Nat.zero_le _, Nat.zero_le _⟩ dX7_learn_4 (fun r4 I4 J4 hv => ?_)
  refine a_ifz_eq 17 dX7_learn_7 rfl (fun hc => ?_) (fun hc => ?_)
  · replace hv := hv.1 hc
    refine a_iconst (v := (-1)) dX7_learn_17 (by decide) ?_
    exact a_iret rfl dX7_learn_18 hv
  · replace hv := hv.2 hc
    refine a_iload_n 1 dX7_learn_10 rfl rfl ?_
    refine c_SZ (As := [.int v1]) (rest := []) hv K_X7_125 rfl rfl (Nat.le_of_ble_eq_true rfl) (rok (by omega) (Nat.le_of_ble_eq_true rfl)) ⟨Nat.zero_le _, Nat.zero_le _⟩ dX7_learn_11 (fun r11 I11 J11 hv => ?_)
    refine a_ifz_ne 19 dX7_learn_14 rfl (fun hc => ?_) (fun hc => ?_)
    · replace hv := hv.1 hc
      refine a_aload_n 0 dX7_learn_19 rfl rfl ?_
      refine a_getR (r := 3) G_X7_19 sh_0 rfl dX7_learn_20 ?_
      refine a_getR (r := 10) G_X7_128 sh_3 rfl dX7_learn_23 ?_
      refine a_iload_n 1 dX7_learn_26 rfl rfl ?_
      refine a_iald sh_10 hv.1 dX7_learn_27 ?_
      replace hv := hv.2
      refine a_bipush (v := 9) dX7_learn_28 (by decide) ?_
      refine a_icmp_lt 36 dX7_learn_30 rfl (fun hc => ?_) (fun hc => ?_)
      · replace hv := hv.1 hc
        refine a_aload_n 0 dX7_learn_36 rfl rfl ?_
        refine a_getR (r := 20) G_X7_39 sh_0 rfl dX7_learn_37 ?_
        refine a_aload_n 0 dX7_learn_40 rfl rfl ?_
        refine a_getR (r := 3) G_X7_19 sh_0 rfl dX7_learn_41 ?_
        refine a_iconst (v := 0) dX7_learn_44 (by decide) ?_
        refine c_VV (As := [.ref (ga g 3), .int 0]) (rest := []) hv K_X7_161 sh_20 rfl rfl rfl (Nat.le_of_ble_eq_true rfl) (rok (by omega) (Nat.le_of_ble_eq_true rfl)) ⟨Nat.zero_le _, Nat.zero_le _⟩ dX7_learn_45 (fun I45 J45 hv => ?_)
        refine a_aload_n 0 dX7_learn_48 rfl rfl ?_
        refine a_getR (r := 3) G_X7_19 sh_0 rfl dX7_learn_49 ?_
        refine a_getR (r := 10) G_X7_128 sh_3 rfl dX7_learn_52 ?_
        refine a_iload_n 1 dX7_learn_55 rfl rfl ?_
        refine a_dup2 dX7_learn_56 rfl rfl ?_
        refine a_iald sh_10 hv.1 dX7_learn_57 ?_
        replace hv := hv.2
        refine a_iconst (v := 1) dX7_learn_58 (by decide) ?_
        refine a_iadd dX7_learn_59 ?_
        refine a_iast sh_10 hv.1 dX7_learn_60 ?_
        replace hv := hv.2
        refine a_aload_n 0 dX7_learn_61 rfl rfl ?_
        refine a_getR (r := 3) G_X7_19 sh_0 rfl dX7_learn_62 ?_
        refine a_getR (r := 10) G_X7_128 sh_3 rfl dX7_learn_65 ?_
        refine a_iload_n 1 dX7_learn_68 rfl rfl ?_
        refine a_iald sh_10 hv.1 dX7_learn_69 ?_
        replace hv := hv.2
        exact a_iret rfl dX7_learn_70 hv
      · replace hv := hv.2 hc
        refine a_bipush (v := (-2)) dX7_learn_33 (by decide) ?_
        exact a_iret rfl dX7_learn_35 hv
    · replace hv := hv.2 hc
      refine a_iconst (v := (-1)) dX7_learn_17 (by decide) ?_
      exact a_iret rfl dX7_learn_18 hv
def VC_X7_undo (g : GT) (d : Nat)  (I : IT) (J : JT) (P : Int32 → IT → JT → Prop) : Prop :=
  (SemZ g (d - 1) M_X0_giveBack [.ref (ga g 20), .ref (ga g 3)] I J (fun r8 I8 J8 => ((r8 = false → P (-4) I8 J8) ∧ (r8 = true → P (I8 20 3) I8 J8))))
set_option maxRecDepth 4000 in
theorem w_X7_undo {g : GT} {d : Nat}  {I : IT} {J : JT} {P : Int32 → IT → JT → Prop} (hd : 1 ≤ d) (hv : VC_X7_undo g d  I J P) : SemI g d M_X7_undo [.ref (ga g 0)] I J P := by
  unfold VC_X7_undo at hv
  refine sem_intro (by decide +kernel) rfl (Nat.le_of_ble_eq_true rfl) ?_
  show AW _ 0 0 0 [(0, .ref (ga g 0))] [] (cW g I J)
  refine a_aload_n 0 dX7_undo_0 rfl rfl ?_
  refine a_getR (r := 20) G_X7_39 sh_0 rfl dX7_undo_1 ?_
  refine a_aload_n 0 dX7_undo_4 rfl rfl ?_
  refine a_getR (r := 3) G_X7_19 sh_0 rfl dX7_undo_5 ?_
  refine c_VZ (As := [.ref (ga g 3)]) (rest := []) hv K_X7_165 sh_20 rfl rfl rfl (Nat.le_of_ble_eq_true rfl) (rok (by omega) (Nat.le_of_ble_eq_true rfl)) ⟨Nat.zero_le _, Nat.zero_le _⟩ dX7_undo_8 (fun r8 I8 J8 hv => ?_)
  refine a_ifz_eq 24 dX7_undo_11 rfl (fun hc => ?_) (fun hc => ?_)
  · replace hv := hv.1 hc
    refine a_bipush (v := (-4)) dX7_undo_24 (by decide) ?_
    exact a_iret rfl dX7_undo_26 hv
  · replace hv := hv.2 hc
    refine a_aload_n 0 dX7_undo_14 rfl rfl ?_
    refine a_getR (r := 20) G_X7_39 sh_0 rfl dX7_undo_15 ?_
    refine a_getI G_X7_168 sh_20 rfl dX7_undo_18 ?_
    refine a_goto 26 dX7_undo_21 rfl ?_
    exact a_iret rfl dX7_undo_26 hv
def VC_X7_image (g : GT) (d : Nat) (v1 : Int32) (I : IT) (J : JT) (P : Int32 → IT → JT → Prop) : Prop :=
  ((v1 < 0 → P (-1) I J) ∧ (¬ v1 < 0 → ((v1 < 2 → (SemZ g (d - 1) M_X2_stands [.ref (ga g 3)] I J (fun r15 I15 J15 => ((r15 = true → (vp_in v1 2 ∧ (SemV g (d - 1) M_X2_become [.ref (ga g (80 + 8 * v1.toNatClampNeg)), .ref (ga g 3)] I15 J15 (fun I34 J34 => P (I34 3 7) I34 J34)))) ∧ (r15 = false → P (-2) I15 J15))))) ∧ (¬ v1 < 2 → P (-1) I J))))
set_option maxRecDepth 4000 in
theorem w_X7_image {g : GT} {d : Nat} {v1 : Int32} {I : IT} {J : JT} {P : Int32 → IT → JT → Prop} (hd : 1 ≤ d) (hv : VC_X7_image g d v1 I J P) : SemI g d M_X7_image [.ref (ga g 0), .int v1] I J P := by
  unfold VC_X7_image at hv
  refine sem_intro (by decide +kernel) rfl (Nat.le_of_ble_eq_true rfl) ?_
  show AW _ 0 0 0 [(0, .ref (ga g 0)), (1, .int v1)] [] (cW g I J)
  refine a_iload_n 1 dX7_image_0 rfl rfl ?_
  refine a_if_lt 9 dX7_image_1 rfl (fun hc => ?_) (fun hc => ?_)
  · replace hv := hv.1 hc
    refine a_iconst (v := (-1)) dX7_image_9 (by decide) ?_
    exact a_iret rfl dX7_image_10 hv
  · replace hv := hv.2 hc
    refine a_iload_n 1 dX7_image_4 rfl rfl ?_
    refine a_iconst (v := 2) dX7_image_5 (by decide) ?_
    refine a_icmp_lt 11 dX7_image_6 rfl (fun hc => ?_) (fun hc => ?_)
    · replace hv := hv.1 hc
      refine a_aload_n 0 dX7_image_11 rfl rfl ?_
      refine a_getR (r := 3) G_X7_19 sh_0 rfl dX7_image_12 ?_
      refine c_VZ (As := []) (rest := []) hv K_X7_121 sh_3 rfl rfl rfl (Nat.le_of_ble_eq_true rfl) (rok (by omega) (Nat.le_of_ble_eq_true rfl)) ⟨Nat.zero_le _, Nat.zero_le _⟩ dX7_image_15 (fun r15 I15 J15 hv => ?_)
      refine a_ifz_ne 24 dX7_image_18 rfl (fun hc => ?_) (fun hc => ?_)
      · replace hv := hv.1 hc
        refine a_aload_n 0 dX7_image_24 rfl rfl ?_
        refine a_getR (r := 19) G_X7_26 sh_0 rfl dX7_image_25 ?_
        refine a_iload_n 1 dX7_image_28 rfl rfl ?_
        have hi29 := hv.1
        refine a_aald (r := (80 + 8 * v1.toNatClampNeg)) sh_19 (by decide) hi29 (r_19 hi29) dX7_image_29 ?_
        replace hv := hv.2
        refine a_aload_n 0 dX7_image_30 rfl rfl ?_
        refine a_getR (r := 3) G_X7_19 sh_0 rfl dX7_image_31 ?_
        refine c_VV (As := [.ref (ga g 3)]) (rest := []) hv K_X7_83 (o_19 hi29).1 rfl rfl rfl (Nat.le_of_ble_eq_true rfl) (rok (by omega) (Nat.le_of_ble_eq_true rfl)) ⟨Nat.zero_le _, Nat.zero_le _⟩ dX7_image_34 (fun I34 J34 hv => ?_)
        refine a_aload_n 0 dX7_image_37 rfl rfl ?_
        refine a_getR (r := 3) G_X7_19 sh_0 rfl dX7_image_38 ?_
        refine a_getI G_X7_139 sh_3 rfl dX7_image_41 ?_
        exact a_iret rfl dX7_image_44 hv
      · replace hv := hv.2 hc
        refine a_bipush (v := (-2)) dX7_image_21 (by decide) ?_
        exact a_iret rfl dX7_image_23 hv
    · replace hv := hv.2 hc
      refine a_iconst (v := (-1)) dX7_image_9 (by decide) ?_
      exact a_iret rfl dX7_image_10 hv
def VC_X7_restore (g : GT) (d : Nat) (v1 : Int32) (I : IT) (J : JT) (P : Int32 → IT → JT → Prop) : Prop :=
  ((v1 < 0 → P (-1) I J) ∧ (¬ v1 < 0 → ((v1 < 2 → (vp_in v1 2 ∧ (SemZ g (d - 1) M_X2_stands [.ref (ga g (80 + 8 * v1.toNatClampNeg))] I J (fun r17 I17 J17 => ((r17 = true → (vp_in v1 2 ∧ (SemV g (d - 1) M_X2_become [.ref (ga g 3), .ref (ga g (80 + 8 * v1.toNatClampNeg))] I17 J17 (fun I36 J36 => (SemV g (d - 1) M_X0_forget [.ref (ga g 20)] I36 J36 (fun I43 J43 => P (I43 3 7) I43 J43)))))) ∧ (r17 = false → P (-2) I17 J17)))))) ∧ (¬ v1 < 2 → P (-1) I J))))
set_option maxRecDepth 4000 in
theorem w_X7_restore {g : GT} {d : Nat} {v1 : Int32} {I : IT} {J : JT} {P : Int32 → IT → JT → Prop} (hd : 1 ≤ d) (hv : VC_X7_restore g d v1 I J P) : SemI g d M_X7_restore [.ref (ga g 0), .int v1] I J P := by
  unfold VC_X7_restore at hv
  refine sem_intro (by decide +kernel) rfl (Nat.le_of_ble_eq_true rfl) ?_
  show AW _ 0 0 0 [(0, .ref (ga g 0)), (1, .int v1)] [] (cW g I J)
  refine a_iload_n 1 dX7_restore_0 rfl rfl ?_
  refine a_if_lt 9 dX7_restore_1 rfl (fun hc => ?_) (fun hc => ?_)
  · replace hv := hv.1 hc
    refine a_iconst (v := (-1)) dX7_restore_9 (by decide) ?_
    exact a_iret rfl dX7_restore_10 hv
  · replace hv := hv.2 hc
    refine a_iload_n 1 dX7_restore_4 rfl rfl ?_
    refine a_iconst (v := 2) dX7_restore_5 (by decide) ?_
    refine a_icmp_lt 11 dX7_restore_6 rfl (fun hc => ?_) (fun hc => ?_)
    · replace hv := hv.1 hc
      refine a_aload_n 0 dX7_restore_11 rfl rfl ?_
      refine a_getR (r := 19) G_X7_26 sh_0 rfl dX7_restore_12 ?_
      refine a_iload_n 1 dX7_restore_15 rfl rfl ?_
      have hi16 := hv.1
      refine a_aald (r := (80 + 8 * v1.toNatClampNeg)) sh_19 (by decide) hi16 (r_19 hi16) dX7_restore_16 ?_
      replace hv := hv.2
      refine c_VZ (As := []) (rest := []) hv K_X7_121 (o_19 hi16).1 rfl rfl rfl (Nat.le_of_ble_eq_true rfl) (rok (by omega) (Nat.le_of_ble_eq_true rfl)) ⟨Nat.zero_le _, Nat.zero_le _⟩ dX7_restore_17 (fun r17 I17 J17 hv => ?_)
      refine a_ifz_ne 26 dX7_restore_20 rfl (fun hc => ?_) (fun hc => ?_)
      · replace hv := hv.1 hc
        refine a_aload_n 0 dX7_restore_26 rfl rfl ?_
        refine a_getR (r := 3) G_X7_19 sh_0 rfl dX7_restore_27 ?_
        refine a_aload_n 0 dX7_restore_30 rfl rfl ?_
        refine a_getR (r := 19) G_X7_26 sh_0 rfl dX7_restore_31 ?_
        refine a_iload_n 1 dX7_restore_34 rfl rfl ?_
        have hi35 := hv.1
        refine a_aald (r := (80 + 8 * v1.toNatClampNeg)) sh_19 (by decide) hi35 (r_19 hi35) dX7_restore_35 ?_
        replace hv := hv.2
        refine c_VV (As := [.ref (ga g (80 + 8 * v1.toNatClampNeg))]) (rest := []) hv K_X7_83 sh_3 rfl rfl rfl (Nat.le_of_ble_eq_true rfl) (rok (by omega) (Nat.le_of_ble_eq_true rfl)) ⟨Nat.zero_le _, Nat.zero_le _⟩ dX7_restore_36 (fun I36 J36 hv => ?_)
        refine a_aload_n 0 dX7_restore_39 rfl rfl ?_
        refine a_getR (r := 20) G_X7_39 sh_0 rfl dX7_restore_40 ?_
        refine c_VV (As := []) (rest := []) hv K_X7_87 sh_20 rfl rfl rfl (Nat.le_of_ble_eq_true rfl) (rok (by omega) (Nat.le_of_ble_eq_true rfl)) ⟨Nat.zero_le _, Nat.zero_le _⟩ dX7_restore_43 (fun I43 J43 hv => ?_)
        refine a_aload_n 0 dX7_restore_46 rfl rfl ?_
        refine a_getR (r := 3) G_X7_19 sh_0 rfl dX7_restore_47 ?_
        refine a_getI G_X7_139 sh_3 rfl dX7_restore_50 ?_
        exact a_iret rfl dX7_restore_53 hv
      · replace hv := hv.2 hc
        refine a_bipush (v := (-2)) dX7_restore_23 (by decide) ?_
        exact a_iret rfl dX7_restore_25 hv
    · replace hv := hv.2 hc
      refine a_iconst (v := (-1)) dX7_restore_9 (by decide) ?_
      exact a_iret rfl dX7_restore_10 hv
def Lp_X7_believed_23 (g : GT) (d : Nat) (v1 : Int32) (v2 : Int32) (v3 : Int32) (I : IT) (J : JT) (P : Int32 → IT → JT → Prop) : Prop := AW (kM g d M_X7_believed 0 0 (qI g P)) 0 0 23 [(0, .ref (ga g 0)), (1, .int v1), (2, .int v2), (3, .int v3)] [] (cW g I J)
def VC_X7_believed_23 (g : GT) (d : Nat) (v1 : Int32) (v2 : Int32) (v3 : Int32) (I : IT) (J : JT) (P : Int32 → IT → JT → Prop) : Prop :=
  (((I 3 6) ≤ v3 → P v2 I J) ∧ (¬ (I 3 6) ≤ v3 → (SemZ g (d - 1) M_X2_trusts [.ref (ga g 3), .int v3, .int v1] I J (fun r40 I40 J40 => ((r40 = false → (Lp_X7_believed_23 g d v1 v2 (v3 + 1) I40 J40 P)) ∧ (r40 = true → (Lp_X7_believed_23 g d v1 (v2 ||| (1 <<< (v3 &&& 31))) (v3 + 1) I40 J40 P)))))))
set_option maxRecDepth 4000 in
theorem w_X7_believed_23 {g : GT} {d : Nat} {v1 : Int32} {v2 : Int32} {v3 : Int32} {I : IT} {J : JT} {P : Int32 → IT → JT → Prop} (hd : 1 ≤ d) (hv : VC_X7_believed_23 g d v1 v2 v3 I J P) : Lp_X7_believed_23 g d v1 v2 v3 I J P := by
  unfold VC_X7_believed_23 at hv
  unfold Lp_X7_believed_23
  refine a_iload_n 3 dX7_believed_23 rfl rfl ?_
  refine a_aload_n 0 dX7_believed_24 rfl rfl ?_
  refine a_getR (r := 3) G_X7_19 sh_0 rfl dX7_believed_25 ?_
  refine a_getI G_X7_90 sh_3 rfl dX7_believed_28 ?_
  refine a_icmp_ge 58 dX7_believed_31 rfl (fun hc => ?_) (fun hc => ?_)
  · replace hv := hv.1 hc
    refine a_iload_n 2 dX7_believed_58 rfl rfl ?_
    exact a_iret rfl dX7_believed_59 hv
  · replace hv := hv.2 hc
    refine a_aload_n 0 dX7_believed_34 rfl rfl ?_
    refine a_getR (r := 3) G_X7_19 sh_0 rfl dX7_believed_35 ?_
    refine a_iload_n 3 dX7_believed_38 rfl rfl ?_
    refine a_iload_n 1 dX7_believed_39 rfl rfl ?_
    refine c_VZ (As := [.int v3, .int v1]) (rest := []) hv K_X7_171 sh_3 rfl rfl rfl (Nat.le_of_ble_eq_true rfl) (rok (by omega) (Nat.le_of_ble_eq_true rfl)) ⟨Nat.zero_le _, Nat.zero_le _⟩ dX7_believed_40 (fun r40 I40 J40 hv => ?_)
    refine a_ifz_eq 52 dX7_believed_43 rfl (fun hc => ?_) (fun hc => ?_)
    · replace hv := hv.1 hc
      refine a_iinc 3 (v3 + 1) [(3, .int (v3 + 1)), (0, .ref (ga g 0)), (1, .int v1), (2, .int v2)] dX7_believed_52 rfl rfl (Nat.le_of_ble_eq_true rfl) rfl ?_
      refine a_goto 23 dX7_believed_55 rfl ?_
      exact a_sub [1, 2, 3, 0] rfl hv
    · replace hv := hv.2 hc
      refine a_iload_n 2 dX7_believed_46 rfl rfl ?_
      refine a_iconst (v := 1) dX7_believed_47 (by decide) ?_
      refine a_iload_n 3 dX7_believed_48 rfl rfl ?_
      refine a_ishl dX7_believed_49 ?_
      refine a_ior dX7_believed_50 ?_
      refine a_istore_n [(2, .int (v2 ||| (1 <<< (v3 &&& 31)))), (0, .ref (ga g 0)), (1, .int v1), (3, .int v3)] dX7_believed_51 rfl (Nat.le_of_ble_eq_true rfl) rfl ?_
      refine a_iinc 3 (v3 + 1) [(3, .int (v3 + 1)), (2, .int (v2 ||| (1 <<< (v3 &&& 31)))), (0, .ref (ga g 0)), (1, .int v1)] dX7_believed_52 rfl rfl (Nat.le_of_ble_eq_true rfl) rfl ?_
      refine a_goto 23 dX7_believed_55 rfl ?_
      exact a_sub [2, 3, 1, 0] rfl hv
def VC_X7_believed (g : GT) (d : Nat) (v1 : Int32) (I : IT) (J : JT) (P : Int32 → IT → JT → Prop) : Prop :=
  (SemZ g (d - 1) M_X2_stands [.ref (ga g 3)] I J (fun r4 I4 J4 => ((r4 = false → P (-1) I4 J4) ∧ (r4 = true → (SemZ g (d - 1) M_X7_isTeller [.int v1] I4 J4 (fun r11 I11 J11 => ((r11 = true → (Lp_X7_believed_23 g d v1 0 0 I11 J11 P)) ∧ (r11 = false → P (-1) I11 J11))))))))
set_option maxRecDepth 4000 in
theorem w_X7_believed {g : GT} {d : Nat} {v1 : Int32} {I : IT} {J : JT} {P : Int32 → IT → JT → Prop} (hd : 1 ≤ d) (hv : VC_X7_believed g d v1 I J P) : SemI g d M_X7_believed [.ref (ga g 0), .int v1] I J P := by
  unfold VC_X7_believed at hv
  refine sem_intro (by decide +kernel) rfl (Nat.le_of_ble_eq_true rfl) ?_
  show AW _ 0 0 0 [(0, .ref (ga g 0)), (1, .int v1)] [] (cW g I J)
  refine a_aload_n 0 dX7_believed_0 rfl rfl ?_
  refine a_getR (r := 3) G_X7_19 sh_0 rfl dX7_believed_1 ?_
  refine c_VZ (As := []) (rest := []) hv K_X7_121 sh_3 rfl rfl rfl (Nat.le_of_ble_eq_true rfl) (rok (by omega) (Nat.le_of_ble_eq_true rfl)) ⟨Nat.zero_le _, Nat.zero_le _⟩ dX7_believed_4 (fun r4 I4 J4 hv => ?_)
  refine a_ifz_eq 17 dX7_believed_7 rfl (fun hc => ?_) (fun hc => ?_)
  · replace hv := hv.1 hc
    refine a_iconst (v := (-1)) dX7_believed_17 (by decide) ?_
    exact a_iret rfl dX7_believed_18 hv
  · replace hv := hv.2 hc
    refine a_iload_n 1 dX7_believed_10 rfl rfl ?_
    refine c_SZ (As := [.int v1]) (rest := []) hv K_X7_125 rfl rfl (Nat.le_of_ble_eq_true rfl) (rok (by omega) (Nat.le_of_ble_eq_true rfl)) ⟨Nat.zero_le _, Nat.zero_le _⟩ dX7_believed_11 (fun r11 I11 J11 hv => ?_)
    refine a_ifz_ne 19 dX7_believed_14 rfl (fun hc => ?_) (fun hc => ?_)
    · replace hv := hv.1 hc
      refine a_iconst (v := 0) dX7_believed_19 (by decide) ?_
      refine a_istore_n [(2, .int 0), (0, .ref (ga g 0)), (1, .int v1)] dX7_believed_20 rfl (Nat.le_of_ble_eq_true rfl) rfl ?_
      refine a_iconst (v := 0) dX7_believed_21 (by decide) ?_
      refine a_istore_n [(3, .int 0), (2, .int 0), (0, .ref (ga g 0)), (1, .int v1)] dX7_believed_22 rfl (Nat.le_of_ble_eq_true rfl) rfl ?_
      exact a_sub [2, 3, 1, 0] rfl hv
    · replace hv := hv.2 hc
      refine a_iconst (v := (-1)) dX7_believed_17 (by decide) ?_
      exact a_iret rfl dX7_believed_18 hv
def Lp_X7_strikes_31 (g : GT) (d : Nat) (v3 : Int32) (I : IT) (J : JT) (P : Int32 → IT → JT → Prop) : Prop := AW (kM g d M_X7_strikes 0 0 (qI g P)) 0 0 31 [(2, .ref (ga g 96)), (3, .int v3)] [] (cW g I J)
def VC_X7_strikes_31 (g : GT) (d : Nat) (v3 : Int32) (I : IT) (J : JT) (P : Int32 → IT → JT → Prop) : Prop :=
  ((8 < v3 → P v3 I J) ∧ (¬ 8 < v3 → (SemZ g (d - 1) M_X6_goOn [.ref (ga g 96)] I J (fun r38 I38 J38 => ((r38 = true → P v3 I38 J38) ∧ (r38 = false → (Lp_X7_strikes_31 g d (v3 + 1) I38 J38 P)))))))
set_option maxRecDepth 4000 in
theorem w_X7_strikes_31 {g : GT} {d : Nat} {v3 : Int32} {I : IT} {J : JT} {P : Int32 → IT → JT → Prop} (hd : 1 ≤ d) (hv : VC_X7_strikes_31 g d v3 I J P) : Lp_X7_strikes_31 g d v3 I J P := by
  unfold VC_X7_strikes_31 at hv
  unfold Lp_X7_strikes_31
  refine a_iload_n 1 dX7_strikes_31 rfl rfl ?_
  refine a_bipush (v := 8) dX7_strikes_32 (by decide) ?_
  refine a_icmp_gt 50 dX7_strikes_34 rfl (fun hc => ?_) (fun hc => ?_)
  · replace hv := hv.1 hc
    refine a_iload_n 1 dX7_strikes_50 rfl rfl ?_
    exact a_iret rfl dX7_strikes_51 hv
  · replace hv := hv.2 hc
    refine a_aload_n 0 dX7_strikes_37 rfl rfl ?_
    refine c_VZ (As := []) (rest := []) hv K_X7_158 sh_96 rfl rfl rfl (Nat.le_of_ble_eq_true rfl) (rok (by omega) (Nat.le_of_ble_eq_true rfl)) ⟨Nat.zero_le _, Nat.zero_le _⟩ dX7_strikes_38 (fun r38 I38 J38 hv => ?_)
    refine a_ifz_ne 50 dX7_strikes_41 rfl (fun hc => ?_) (fun hc => ?_)
    · replace hv := hv.1 hc
      refine a_iload_n 1 dX7_strikes_50 rfl rfl ?_
      exact a_iret rfl dX7_strikes_51 hv
    · replace hv := hv.2 hc
      refine a_iinc 1 (v3 + 1) [(3, .int (v3 + 1)), (2, .ref (ga g 96))] dX7_strikes_44 rfl rfl (Nat.le_of_ble_eq_true rfl) rfl ?_
      refine a_goto 31 dX7_strikes_47 rfl ?_
      exact a_sub [1, 0] rfl hv
def VC_X7_strikes (g : GT) (d : Nat) (v1 : Int32) (I : IT) (J : JT) (P : Int32 → IT → JT → Prop) : Prop :=
  (SemZ g (d - 1) M_X2_hasShip [.ref (ga g 3), .int v1] I J (fun r5 I5 J5 => ((r5 = true → (SemV g (d - 1) M_X6_board [.ref (ga g 96), .ref (ga g 3), .int v1] I5 J5 (fun I26 J26 => (Lp_X7_strikes_31 g d 1 I26 J26 P)))) ∧ (r5 = false → P (-1) I5 J5))))
set_option maxRecDepth 4000 in
theorem w_X7_strikes {g : GT} {d : Nat} {v1 : Int32} {I : IT} {J : JT} {P : Int32 → IT → JT → Prop} (hd : 1 ≤ d) (hv : VC_X7_strikes g d v1 I J P) : SemI g d M_X7_strikes [.ref (ga g 0), .int v1] I J P := by
  unfold VC_X7_strikes at hv
  refine sem_intro (by decide +kernel) rfl (Nat.le_of_ble_eq_true rfl) ?_
  show AW _ 0 0 0 [(0, .ref (ga g 0)), (1, .int v1)] [] (cW g I J)
  refine a_aload_n 0 dX7_strikes_0 rfl rfl ?_
  refine a_getR (r := 3) G_X7_19 sh_0 rfl dX7_strikes_1 ?_
  refine a_iload_n 1 dX7_strikes_4 rfl rfl ?_
  refine c_VZ (As := [.int v1]) (rest := []) hv K_X7_93 sh_3 rfl rfl rfl (Nat.le_of_ble_eq_true rfl) (rok (by omega) (Nat.le_of_ble_eq_true rfl)) ⟨Nat.zero_le _, Nat.zero_le _⟩ dX7_strikes_5 (fun r5 I5 J5 hv => ?_)
  refine a_ifz_ne 13 dX7_strikes_8 rfl (fun hc => ?_) (fun hc => ?_)
  · replace hv := hv.1 hc
    refine a_aload_n 0 dX7_strikes_13 rfl rfl ?_
    refine a_getR (r := 72) G_X7_45 sh_0 rfl dX7_strikes_14 ?_
    refine a_iconst (v := 0) dX7_strikes_17 (by decide) ?_
    refine a_aald (r := 96) sh_72 (by decide) (by unfold vp_in; decide) rfl dX7_strikes_18 ?_
    refine a_astore_n [(2, .ref (ga g 96)), (0, .ref (ga g 0)), (1, .int v1)] dX7_strikes_19 rfl (Nat.le_of_ble_eq_true rfl) rfl ?_
    refine a_aload_n 0 dX7_strikes_20 rfl rfl ?_
    refine a_aload_n 1 dX7_strikes_21 rfl rfl ?_
    refine a_getR (r := 3) G_X7_19 sh_0 rfl dX7_strikes_22 ?_
    refine a_iload_n 2 dX7_strikes_25 rfl rfl ?_
    refine c_VV (As := [.ref (ga g 3), .int v1]) (rest := []) hv K_X7_174 sh_96 rfl rfl rfl (Nat.le_of_ble_eq_true rfl) (rok (by omega) (Nat.le_of_ble_eq_true rfl)) ⟨Nat.zero_le _, Nat.zero_le _⟩ dX7_strikes_26 (fun I26 J26 hv => ?_)
    refine a_iconst (v := 1) dX7_strikes_29 (by decide) ?_
    refine a_istore_n [(3, .int 1), (2, .ref (ga g 96)), (0, .ref (ga g 0)), (1, .int v1)] dX7_strikes_30 rfl (Nat.le_of_ble_eq_true rfl) rfl ?_
    exact a_sub [1, 0] rfl hv
  · replace hv := hv.2 hc
    refine a_iconst (v := (-1)) dX7_strikes_11 (by decide) ?_
    exact a_iret rfl dX7_strikes_12 hv
def VC_X7_course (g : GT) (d : Nat) (v1 : Int32) (v2 : Int32) (v3 : Int32) (v4 : Int32) (I : IT) (J : JT) (P : Int32 → IT → JT → Prop) : Prop :=
  (SemZ g (d - 1) M_X2_hasShip [.ref (ga g 3), .int v1] I J (fun r5 I5 J5 => ((r5 = false → P (-1) I5 J5) ∧ (r5 = true → (SemZ g (d - 1) M_X7_isTeller [.int v2] I5 J5 (fun r12 I12 J12 => ((r12 = false → P (-1) I12 J12) ∧ (r12 = true → (SemZ g (d - 1) M_X3_has [.ref (ga g 4), .int v3] I12 J12 (fun r26 I26 J26 => ((r26 = false → P (-1) I26 J26) ∧ (r26 = true → (((-1) ≤ v4 → (SemI g (d - 1) M_X3_at [.ref (ga g 4), .int v3] I26 J26 (fun r48 I48 J48 => ((¬ r48 = 1 → (SemV g (d - 1) M_X6_board [.ref (ga g 96), .ref (ga g 3), .int v1] I48 J48 (fun I73 J73 => (SemI g (d - 1) M_X1_search [.ref (ga g 73), .ref (ga g 96), .int v2, .int v3] I73 J73 (fun r84 I84 J84 => ((0 ≤ r84 → ((0 ≤ v4 → (SemI g (d - 1) M_X1_wordTo [.ref (ga g 73), .int r84, .int v4] I84 J84 (fun r123 I123 J123 => P r123 I123 J123))) ∧ (¬ 0 ≤ v4 → (vp_in r84 192 ∧ P (I84 77 r84.toNatClampNeg) I84 J84)))) ∧ (¬ 0 ≤ r84 → P (-4) I84 J84))))))) ∧ (r48 = 1 → P (-2) I48 J48))))) ∧ (¬ (-1) ≤ v4 → P (-1) I26 J26))))))))))))))
set_option maxRecDepth 4000 in
theorem w_X7_course {g : GT} {d : Nat} {v1 : Int32} {v2 : Int32} {v3 : Int32} {v4 : Int32} {I : IT} {J : JT} {P : Int32 → IT → JT → Prop} (hd : 1 ≤ d) (hv : VC_X7_course g d v1 v2 v3 v4 I J P) : SemI g d M_X7_course [.ref (ga g 0), .int v1, .int v2, .int v3, .int v4] I J P := by
  unfold VC_X7_course at hv
  refine sem_intro (by decide +kernel) rfl (Nat.le_of_ble_eq_true rfl) ?_
  show AW _ 0 0 0 [(0, .ref (ga g 0)), (1, .int v1), (2, .int v2), (3, .int v3), (4, .int v4)] [] (cW g I J)
  refine a_aload_n 0 dX7_course_0 rfl rfl ?_
  refine a_getR (r := 3) G_X7_19 sh_0 rfl dX7_course_1 ?_
  refine a_iload_n 1 dX7_course_4 rfl rfl ?_
  refine c_VZ (As := [.int v1]) (rest := []) hv K_X7_93 sh_3 rfl rfl rfl (Nat.le_of_ble_eq_true rfl) (rok (by omega) (Nat.le_of_ble_eq_true rfl)) ⟨Nat.zero_le _, Nat.zero_le _⟩ dX7_course_5 (fun r5 I5 J5 hv => ?_)
  refine a_ifz_eq 38 dX7_course_8 rfl (fun hc => ?_) (fun hc => ?_)
  · replace hv := hv.1 hc
    refine a_iconst (v := (-1)) dX7_course_38 (by decide) ?_
    exact a_iret rfl dX7_course_39 hv
  · replace hv := hv.2 hc
    refine a_iload_n 2 dX7_course_11 rfl rfl ?_
    refine c_SZ (As := [.int v2]) (rest := []) hv K_X7_125 rfl rfl (Nat.le_of_ble_eq_true rfl) (rok (by omega) (Nat.le_of_ble_eq_true rfl)) ⟨Nat.zero_le _, Nat.zero_le _⟩ dX7_course_12 (fun r12 I12 J12 hv => ?_)
    refine a_ifz_eq 38 dX7_course_15 rfl (fun hc => ?_) (fun hc => ?_)
    · replace hv := hv.1 hc
      refine a_iconst (v := (-1)) dX7_course_38 (by decide) ?_
      exact a_iret rfl dX7_course_39 hv
    · replace hv := hv.2 hc
      refine a_aload_n 0 dX7_course_18 rfl rfl ?_
      refine a_getR (r := 3) G_X7_19 sh_0 rfl dX7_course_19 ?_
      refine a_getR (r := 4) G_X7_32 sh_3 rfl dX7_course_22 ?_
      refine a_iload_n 3 dX7_course_25 rfl rfl ?_
      refine c_VZ (As := [.int v3]) (rest := []) hv K_X7_112 sh_4 rfl rfl rfl (Nat.le_of_ble_eq_true rfl) (rok (by omega) (Nat.le_of_ble_eq_true rfl)) ⟨Nat.zero_le _, Nat.zero_le _⟩ dX7_course_26 (fun r26 I26 J26 hv => ?_)
      refine a_ifz_eq 38 dX7_course_29 rfl (fun hc => ?_) (fun hc => ?_)
      · replace hv := hv.1 hc
        refine a_iconst (v := (-1)) dX7_course_38 (by decide) ?_
        exact a_iret rfl dX7_course_39 hv
      · replace hv := hv.2 hc
        refine a_iload 4 dX7_course_32 rfl ?_
        refine a_iconst (v := (-1)) dX7_course_34 (by decide) ?_
        refine a_icmp_ge 40 dX7_course_35 rfl (fun hc => ?_) (fun hc => ?_)
        · replace hv := hv.1 hc
          refine a_aload_n 0 dX7_course_40 rfl rfl ?_
          refine a_getR (r := 3) G_X7_19 sh_0 rfl dX7_course_41 ?_
          refine a_getR (r := 4) G_X7_32 sh_3 rfl dX7_course_44 ?_
          refine a_iload_n 3 dX7_course_47 rfl rfl ?_
          refine c_VI (As := [.int v3]) (rest := []) hv K_X7_117 sh_4 rfl rfl rfl (Nat.le_of_ble_eq_true rfl) (rok (by omega) (Nat.le_of_ble_eq_true rfl)) ⟨Nat.zero_le _, Nat.zero_le _⟩ dX7_course_48 (fun r48 I48 J48 hv => ?_)
          refine a_iconst (v := 1) dX7_course_51 (by decide) ?_
          refine a_icmp_ne 58 dX7_course_52 rfl (fun hc => ?_) (fun hc => ?_)
          · replace hv := hv.1 hc
            refine a_aload_n 0 dX7_course_58 rfl rfl ?_
            refine a_getR (r := 72) G_X7_45 sh_0 rfl dX7_course_59 ?_
            refine a_iconst (v := 0) dX7_course_62 (by decide) ?_
            refine a_aald (r := 96) sh_72 (by decide) (by unfold vp_in; decide) rfl dX7_course_63 ?_
            refine a_astore [(5, .ref (ga g 96)), (0, .ref (ga g 0)), (1, .int v1), (2, .int v2), (3, .int v3), (4, .int v4)] dX7_course_64 (Nat.le_of_ble_eq_true rfl) rfl ?_
            refine a_aload 0 dX7_course_66 rfl ?_
            refine a_aload_n 1 dX7_course_68 rfl rfl ?_
            refine a_getR (r := 3) G_X7_19 sh_0 rfl dX7_course_69 ?_
            refine a_iload_n 2 dX7_course_72 rfl rfl ?_
            refine c_VV (As := [.ref (ga g 3), .int v1]) (rest := []) hv K_X7_174 sh_96 rfl rfl rfl (Nat.le_of_ble_eq_true rfl) (rok (by omega) (Nat.le_of_ble_eq_true rfl)) ⟨Nat.zero_le _, Nat.zero_le _⟩ dX7_course_73 (fun I73 J73 hv => ?_)
            refine a_aload_n 1 dX7_course_76 rfl rfl ?_
            refine a_getR (r := 73) G_X7_52 sh_0 rfl dX7_course_77 ?_
            refine a_aload 0 dX7_course_80 rfl ?_
            refine a_iload_n 3 dX7_course_82 rfl rfl ?_
            refine a_iload_n 4 dX7_course_83 rfl rfl ?_
            refine c_VI (As := [.ref (ga g 96), .int v2, .int v3]) (rest := []) hv K_X7_177 sh_73 rfl rfl rfl (Nat.le_of_ble_eq_true rfl) (rok (by omega) (Nat.le_of_ble_eq_true rfl)) ⟨Nat.zero_le _, Nat.zero_le _⟩ dX7_course_84 (fun r84 I84 J84 hv => ?_)
            refine a_istore [(6, .int r84), (5, .ref (ga g 96)), (0, .ref (ga g 0)), (1, .int v1), (2, .int v2), (3, .int v3), (4, .int v4)] dX7_course_87 (Nat.le_of_ble_eq_true rfl) rfl ?_
            refine a_iload 0 dX7_course_89 rfl ?_
            refine a_if_ge 97 dX7_course_91 rfl (fun hc => ?_) (fun hc => ?_)
            · replace hv := hv.1 hc
              refine a_iload 6 dX7_course_97 rfl ?_
              refine a_if_ge 115 dX7_course_99 rfl (fun hc => ?_) (fun hc => ?_)
              · replace hv := hv.1 hc
                refine a_aload_n 2 dX7_course_115 rfl rfl ?_
                refine a_getR (r := 73) G_X7_52 sh_0 rfl dX7_course_116 ?_
                refine a_iload 0 dX7_course_119 rfl ?_
                refine a_iload 6 dX7_course_121 rfl ?_
                refine c_VI (As := [.int r84, .int v4]) (rest := []) hv K_X7_184 sh_73 rfl rfl rfl (Nat.le_of_ble_eq_true rfl) (rok (by omega) (Nat.le_of_ble_eq_true rfl)) ⟨Nat.zero_le _, Nat.zero_le _⟩ dX7_course_123 (fun r123 I123 J123 hv => ?_)
                exact a_iret rfl dX7_course_126 hv
              · replace hv := hv.2 hc
                refine a_aload_n 2 dX7_course_102 rfl rfl ?_
                refine a_getR (r := 73) G_X7_52 sh_0 rfl dX7_course_103 ?_
                refine a_getR (r := 77) G_X7_181 sh_73 rfl dX7_course_106 ?_
                refine a_iload 0 dX7_course_109 rfl ?_
                refine a_iald sh_77 hv.1 dX7_course_111 ?_
                replace hv := hv.2
                refine a_goto 126 dX7_course_112 rfl ?_
                exact a_iret rfl dX7_course_126 hv
            · replace hv := hv.2 hc
              refine a_bipush (v := (-4)) dX7_course_94 (by decide) ?_
              exact a_iret rfl dX7_course_96 hv
          · replace hv := hv.2 hc
            refine a_bipush (v := (-2)) dX7_course_55 (by decide) ?_
            exact a_iret rfl dX7_course_57 hv
        · replace hv := hv.2 hc
          refine a_iconst (v := (-1)) dX7_course_38 (by decide) ?_
          exact a_iret rfl dX7_course_39 hv
def VC_X7_crew (g : GT) (d : Nat) (v1 : Int32) (I : IT) (J : JT) (P : Int32 → IT → JT → Prop) : Prop :=
  ((¬ v1 = (-1) → (SemZ g (d - 1) M_X2_hasShip [.ref (ga g 3), .int v1] I J (fun r32 I32 J32 => ((r32 = false → P (-1) I32 J32) ∧ (r32 = true → (SemI g (d - 1) M_X7_crewOf [.ref (ga g 0), .int v1] I32 J32 (fun r40 I40 J40 => P r40 I40 J40))))))) ∧ (v1 = (-1) → (SemZ g (d - 1) M_X2_stands [.ref (ga g 3)] I J (fun r9 I9 J9 => ((r9 = false → P (-2) I9 J9) ∧ (r9 = true → (SemI g (d - 1) M_X7_mostCrewed [.ref (ga g 0), .int 0, .int 0] I9 J9 (fun r18 I18 J18 => P r18 I18 J18))))))))
set_option maxRecDepth 4000 in
theorem w_X7_crew {g : GT} {d : Nat} {v1 : Int32} {I : IT} {J : JT} {P : Int32 → IT → JT → Prop} (hd : 1 ≤ d) (hv : VC_X7_crew g d v1 I J P) : SemI g d M_X7_crew [.ref (ga g 0), .int v1] I J P := by
  unfold VC_X7_crew at hv
  refine sem_intro (by decide +kernel) rfl (Nat.le_of_ble_eq_true rfl) ?_
  show AW _ 0 0 0 [(0, .ref (ga g 0)), (1, .int v1)] [] (cW g I J)
  refine a_iload_n 1 dX7_crew_0 rfl rfl ?_
  refine a_iconst (v := (-1)) dX7_crew_1 (by decide) ?_
  refine a_icmp_ne 27 dX7_crew_2 rfl (fun hc => ?_) (fun hc => ?_)
  · replace hv := hv.1 hc
    refine a_aload_n 0 dX7_crew_27 rfl rfl ?_
    refine a_getR (r := 3) G_X7_19 sh_0 rfl dX7_crew_28 ?_
    refine a_iload_n 1 dX7_crew_31 rfl rfl ?_
    refine c_VZ (As := [.int v1]) (rest := []) hv K_X7_93 sh_3 rfl rfl rfl (Nat.le_of_ble_eq_true rfl) (rok (by omega) (Nat.le_of_ble_eq_true rfl)) ⟨Nat.zero_le _, Nat.zero_le _⟩ dX7_crew_32 (fun r32 I32 J32 hv => ?_)
    refine a_ifz_eq 46 dX7_crew_35 rfl (fun hc => ?_) (fun hc => ?_)
    · replace hv := hv.1 hc
      refine a_iconst (v := (-1)) dX7_crew_46 (by decide) ?_
      exact a_iret rfl dX7_crew_47 hv
    · replace hv := hv.2 hc
      refine a_aload_n 0 dX7_crew_38 rfl rfl ?_
      refine a_iload_n 1 dX7_crew_39 rfl rfl ?_
      refine c_VI (As := [.int v1]) (rest := []) hv K_X7_190 sh_0 rfl rfl rfl (Nat.le_of_ble_eq_true rfl) (rok (by omega) (Nat.le_of_ble_eq_true rfl)) ⟨Nat.zero_le _, Nat.zero_le _⟩ dX7_crew_40 (fun r40 I40 J40 hv => ?_)
      refine a_goto 47 dX7_crew_43 rfl ?_
      exact a_iret rfl dX7_crew_47 hv
  · replace hv := hv.2 hc
    refine a_aload_n 0 dX7_crew_5 rfl rfl ?_
    refine a_getR (r := 3) G_X7_19 sh_0 rfl dX7_crew_6 ?_
    refine c_VZ (As := []) (rest := []) hv K_X7_121 sh_3 rfl rfl rfl (Nat.le_of_ble_eq_true rfl) (rok (by omega) (Nat.le_of_ble_eq_true rfl)) ⟨Nat.zero_le _, Nat.zero_le _⟩ dX7_crew_9 (fun r9 I9 J9 hv => ?_)
    refine a_ifz_eq 24 dX7_crew_12 rfl (fun hc => ?_) (fun hc => ?_)
    · replace hv := hv.1 hc
      refine a_bipush (v := (-2)) dX7_crew_24 (by decide) ?_
      exact a_iret rfl dX7_crew_26 hv
    · replace hv := hv.2 hc
      refine a_aload_n 0 dX7_crew_15 rfl rfl ?_
      refine a_iconst (v := 0) dX7_crew_16 (by decide) ?_
      refine a_iconst (v := 0) dX7_crew_17 (by decide) ?_
      refine c_VI (As := [.int 0, .int 0]) (rest := []) hv K_X7_187 sh_0 rfl rfl rfl (Nat.le_of_ble_eq_true rfl) (rok (by omega) (Nat.le_of_ble_eq_true rfl)) ⟨Nat.zero_le _, Nat.zero_le _⟩ dX7_crew_18 (fun r18 I18 J18 hv => ?_)
      refine a_goto 26 dX7_crew_21 rfl ?_
      exact a_iret rfl dX7_crew_26 hv
def VC_X7_hears (g : GT) (d : Nat) (v1 : Int32) (v2 : Int32) (I : IT) (J : JT) (P : Int32 → IT → JT → Prop) : Prop :=
  (SemZ g (d - 1) M_X2_hasShip [.ref (ga g 3), .int v1] I J (fun r5 I5 J5 => ((r5 = false → P (-1) I5 J5) ∧ (r5 = true → (SemZ g (d - 1) M_X7_isHearing [.int v2] I5 J5 (fun r12 I12 J12 => ((r12 = true → (SemI g (d - 1) M_X2_everyShip [.ref (ga g 3)] I12 J12 (fun r29 I29 J29 => (SemI g (d - 1) M_X2_heardBy [.ref (ga g 3), .int v1, .int r29, .int v2] I29 J29 (fun r33 I33 J33 => P r33 I33 J33))))) ∧ (r12 = false → P (-1) I12 J12))))))))
set_option maxRecDepth 4000 in
theorem w_X7_hears {g : GT} {d : Nat} {v1 : Int32} {v2 : Int32} {I : IT} {J : JT} {P : Int32 → IT → JT → Prop} (hd : 1 ≤ d) (hv : VC_X7_hears g d v1 v2 I J P) : SemI g d M_X7_hears [.ref (ga g 0), .int v1, .int v2] I J P := by
  unfold VC_X7_hears at hv
  refine sem_intro (by decide +kernel) rfl (Nat.le_of_ble_eq_true rfl) ?_
  show AW _ 0 0 0 [(0, .ref (ga g 0)), (1, .int v1), (2, .int v2)] [] (cW g I J)
  refine a_aload_n 0 dX7_hears_0 rfl rfl ?_
  refine a_getR (r := 3) G_X7_19 sh_0 rfl dX7_hears_1 ?_
  refine a_iload_n 1 dX7_hears_4 rfl rfl ?_
  refine c_VZ (As := [.int v1]) (rest := []) hv K_X7_93 sh_3 rfl rfl rfl (Nat.le_of_ble_eq_true rfl) (rok (by omega) (Nat.le_of_ble_eq_true rfl)) ⟨Nat.zero_le _, Nat.zero_le _⟩ dX7_hears_5 (fun r5 I5 J5 hv => ?_)
  refine a_ifz_eq 18 dX7_hears_8 rfl (fun hc => ?_) (fun hc => ?_)
  · replace hv := hv.1 hc
    refine a_iconst (v := (-1)) dX7_hears_18 (by decide) ?_
    exact a_iret rfl dX7_hears_19 hv
  · replace hv := hv.2 hc
    refine a_iload_n 2 dX7_hears_11 rfl rfl ?_
    refine c_SZ (As := [.int v2]) (rest := []) hv K_X7_193 rfl rfl (Nat.le_of_ble_eq_true rfl) (rok (by omega) (Nat.le_of_ble_eq_true rfl)) ⟨Nat.zero_le _, Nat.zero_le _⟩ dX7_hears_12 (fun r12 I12 J12 hv => ?_)
    refine a_ifz_ne 20 dX7_hears_15 rfl (fun hc => ?_) (fun hc => ?_)
    · replace hv := hv.1 hc
      refine a_aload_n 0 dX7_hears_20 rfl rfl ?_
      refine a_getR (r := 3) G_X7_19 sh_0 rfl dX7_hears_21 ?_
      refine a_iload_n 1 dX7_hears_24 rfl rfl ?_
      refine a_aload_n 0 dX7_hears_25 rfl rfl ?_
      refine a_getR (r := 3) G_X7_19 sh_0 rfl dX7_hears_26 ?_
      refine c_VI (As := []) (rest := [.int v1, .ref (ga g 3)]) hv K_X7_196 sh_3 rfl rfl rfl (Nat.le_of_ble_eq_true rfl) (rok (by omega) (Nat.le_of_ble_eq_true rfl)) ⟨Nat.zero_le _, Nat.zero_le _⟩ dX7_hears_29 (fun r29 I29 J29 hv => ?_)
      refine a_iload_n 2 dX7_hears_32 rfl rfl ?_
      refine c_VI (As := [.int v1, .int r29, .int v2]) (rest := []) hv K_X7_200 sh_3 rfl rfl rfl (Nat.le_of_ble_eq_true rfl) (rok (by omega) (Nat.le_of_ble_eq_true rfl)) ⟨Nat.zero_le _, Nat.zero_le _⟩ dX7_hears_33 (fun r33 I33 J33 hv => ?_)
      exact a_iret rfl dX7_hears_36 hv
    · replace hv := hv.2 hc
      refine a_iconst (v := (-1)) dX7_hears_18 (by decide) ?_
      exact a_iret rfl dX7_hears_19 hv
def Lp_X7_links_26 (g : GT) (d : Nat) (v1 : Int32) (v2 : Int32) (v3 : Int32) (I : IT) (J : JT) (P : Int32 → IT → JT → Prop) : Prop := AW (kM g d M_X7_links 0 0 (qI g P)) 0 0 26 [(0, .ref (ga g 0)), (1, .int v1), (2, .int v2), (3, .int v3)] [] (cW g I J)
def VC_X7_links_26 (g : GT) (d : Nat) (v1 : Int32) (v2 : Int32) (v3 : Int32) (I : IT) (J : JT) (P : Int32 → IT → JT → Prop) : Prop :=
  (((I 3 6) ≤ v3 → P v2 I J) ∧ (¬ (I 3 6) ≤ v3 → (SemZ g (d - 1) M_X2_isLink [.ref (ga g 3), .int v3, .int v1] I J (fun r43 I43 J43 => ((r43 = false → (Lp_X7_links_26 g d v1 v2 (v3 + 1) I43 J43 P)) ∧ (r43 = true → (Lp_X7_links_26 g d v1 (v2 ||| (1 <<< (v3 &&& 31))) (v3 + 1) I43 J43 P)))))))
set_option maxRecDepth 4000 in
theorem w_X7_links_26 {g : GT} {d : Nat} {v1 : Int32} {v2 : Int32} {v3 : Int32} {I : IT} {J : JT} {P : Int32 → IT → JT → Prop} (hd : 1 ≤ d) (hv : VC_X7_links_26 g d v1 v2 v3 I J P) : Lp_X7_links_26 g d v1 v2 v3 I J P := by
  unfold VC_X7_links_26 at hv
  unfold Lp_X7_links_26
  refine a_iload_n 3 dX7_links_26 rfl rfl ?_
  refine a_aload_n 0 dX7_links_27 rfl rfl ?_
  refine a_getR (r := 3) G_X7_19 sh_0 rfl dX7_links_28 ?_
  refine a_getI G_X7_90 sh_3 rfl dX7_links_31 ?_
  refine a_icmp_ge 61 dX7_links_34 rfl (fun hc => ?_) (fun hc => ?_)
  · replace hv := hv.1 hc
    refine a_iload_n 2 dX7_links_61 rfl rfl ?_
    exact a_iret rfl dX7_links_62 hv
  · replace hv := hv.2 hc
    refine a_aload_n 0 dX7_links_37 rfl rfl ?_
    refine a_getR (r := 3) G_X7_19 sh_0 rfl dX7_links_38 ?_
    refine a_iload_n 3 dX7_links_41 rfl rfl ?_
    refine a_iload_n 1 dX7_links_42 rfl rfl ?_
    refine c_VZ (As := [.int v3, .int v1]) (rest := []) hv K_X7_204 sh_3 rfl rfl rfl (Nat.le_of_ble_eq_true rfl) (rok (by omega) (Nat.le_of_ble_eq_true rfl)) ⟨Nat.zero_le _, Nat.zero_le _⟩ dX7_links_43 (fun r43 I43 J43 hv => ?_)
    refine a_ifz_eq 55 dX7_links_46 rfl (fun hc => ?_) (fun hc => ?_)
    · replace hv := hv.1 hc
      refine a_iinc 3 (v3 + 1) [(3, .int (v3 + 1)), (0, .ref (ga g 0)), (1, .int v1), (2, .int v2)] dX7_links_55 rfl rfl (Nat.le_of_ble_eq_true rfl) rfl ?_
      refine a_goto 26 dX7_links_58 rfl ?_
      exact a_sub [1, 2, 3, 0] rfl hv
    · replace hv := hv.2 hc
      refine a_iload_n 2 dX7_links_49 rfl rfl ?_
      refine a_iconst (v := 1) dX7_links_50 (by decide) ?_
      refine a_iload_n 3 dX7_links_51 rfl rfl ?_
      refine a_ishl dX7_links_52 ?_
      refine a_ior dX7_links_53 ?_
      refine a_istore_n [(2, .int (v2 ||| (1 <<< (v3 &&& 31)))), (0, .ref (ga g 0)), (1, .int v1), (3, .int v3)] dX7_links_54 rfl (Nat.le_of_ble_eq_true rfl) rfl ?_
      refine a_iinc 3 (v3 + 1) [(3, .int (v3 + 1)), (2, .int (v2 ||| (1 <<< (v3 &&& 31)))), (0, .ref (ga g 0)), (1, .int v1)] dX7_links_55 rfl rfl (Nat.le_of_ble_eq_true rfl) rfl ?_
      refine a_goto 26 dX7_links_58 rfl ?_
      exact a_sub [2, 3, 1, 0] rfl hv
def VC_X7_links (g : GT) (d : Nat) (v1 : Int32) (I : IT) (J : JT) (P : Int32 → IT → JT → Prop) : Prop :=
  (SemZ g (d - 1) M_X7_isHearing [.int v1] I J (fun r1 I1 J1 => ((r1 = true → (SemZ g (d - 1) M_X2_stands [.ref (ga g 3)] I1 J1 (fun r13 I13 J13 => ((r13 = true → (Lp_X7_links_26 g d v1 0 0 I13 J13 P)) ∧ (r13 = false → P (-2) I13 J13))))) ∧ (r1 = false → P (-1) I1 J1))))
set_option maxRecDepth 4000 in
theorem w_X7_links {g : GT} {d : Nat} {v1 : Int32} {I : IT} {J : JT} {P : Int32 → IT → JT → Prop} (hd : 1 ≤ d) (hv : VC_X7_links g d v1 I J P) : SemI g d M_X7_links [.ref (ga g 0), .int v1] I J P := by
  unfold VC_X7_links at hv
  refine sem_intro (by decide +kernel) rfl (Nat.le_of_ble_eq_true rfl) ?_
  show AW _ 0 0 0 [(0, .ref (ga g 0)), (1, .int v1)] [] (cW g I J)
  refine a_iload_n 1 dX7_links_0 rfl rfl ?_
  refine c_SZ (As := [.int v1]) (rest := []) hv K_X7_193 rfl rfl (Nat.le_of_ble_eq_true rfl) (rok (by omega) (Nat.le_of_ble_eq_true rfl)) ⟨Nat.zero_le _, Nat.zero_le _⟩ dX7_links_1 (fun r1 I1 J1 hv => ?_)
  refine a_ifz_ne 9 dX7_links_4 rfl (fun hc => ?_) (fun hc => ?_)
  · replace hv := hv.1 hc
    refine a_aload_n 0 dX7_links_9 rfl rfl ?_
    refine a_getR (r := 3) G_X7_19 sh_0 rfl dX7_links_10 ?_
    refine c_VZ (As := []) (rest := []) hv K_X7_121 sh_3 rfl rfl rfl (Nat.le_of_ble_eq_true rfl) (rok (by omega) (Nat.le_of_ble_eq_true rfl)) ⟨Nat.zero_le _, Nat.zero_le _⟩ dX7_links_13 (fun r13 I13 J13 hv => ?_)
    refine a_ifz_ne 22 dX7_links_16 rfl (fun hc => ?_) (fun hc => ?_)
    · replace hv := hv.1 hc
      refine a_iconst (v := 0) dX7_links_22 (by decide) ?_
      refine a_istore_n [(2, .int 0), (0, .ref (ga g 0)), (1, .int v1)] dX7_links_23 rfl (Nat.le_of_ble_eq_true rfl) rfl ?_
      refine a_iconst (v := 0) dX7_links_24 (by decide) ?_
      refine a_istore_n [(3, .int 0), (2, .int 0), (0, .ref (ga g 0)), (1, .int v1)] dX7_links_25 rfl (Nat.le_of_ble_eq_true rfl) rfl ?_
      exact a_sub [2, 3, 1, 0] rfl hv
    · replace hv := hv.2 hc
      refine a_bipush (v := (-2)) dX7_links_19 (by decide) ?_
      exact a_iret rfl dX7_links_21 hv
  · replace hv := hv.2 hc
    refine a_iconst (v := (-1)) dX7_links_7 (by decide) ?_
    exact a_iret rfl dX7_links_8 hv
def VC_X7_talk (g : GT) (d : Nat) (v1 : Int32) (v2 : Int32) (v3 : Int32) (v4 : Int32) (I : IT) (J : JT) (P : Int32 → IT → JT → Prop) : Prop :=
  (SemZ g (d - 1) M_X2_hasShip [.ref (ga g 3), .int v1] I J (fun r5 I5 J5 => ((r5 = false → P (-1) I5 J5) ∧ (r5 = true → (SemZ g (d - 1) M_X7_isTeller [.int v2] I5 J5 (fun r12 I12 J12 => ((r12 = false → P (-1) I12 J12) ∧ (r12 = true → (SemZ g (d - 1) M_X7_isTeller [.int v3] I12 J12 (fun r19 I19 J19 => ((r19 = false → P (-1) I19 J19) ∧ (r19 = true → ((v2 = v3 → P (-1) I19 J19) ∧ (¬ v2 = v3 → ((v4 < 0 → P (-1) I19 J19) ∧ (¬ v4 < 0 → ((v4 ≤ 3 → (SemI g (d - 1) M_X3_harbours [.ref (ga g 4)] I19 J19 (fun r50 I50 J50 => ((¬ r50 = 0 → (SemV g (d - 1) M_X6_board [.ref (ga g 96), .ref (ga g 3), .int v1] I50 J50 (fun I70 J70 => (SemI g (d - 1) M_X7_talked [.ref (ga g 0), .int 0, .int (2 * v4), .int v2, .int v3] I70 J70 (fun r81 I81 J81 => P r81 I81 J81))))) ∧ (r50 = 0 → P (-4) I50 J50))))) ∧ (¬ v4 ≤ 3 → P (-1) I19 J19))))))))))))))))))
set_option maxRecDepth 4000 in
theorem w_X7_talk {g : GT} {d : Nat} {v1 : Int32} {v2 : Int32} {v3 : Int32} {v4 : Int32} {I : IT} {J : JT} {P : Int32 → IT → JT → Prop} (hd : 1 ≤ d) (hv : VC_X7_talk g d v1 v2 v3 v4 I J P) : SemI g d M_X7_talk [.ref (ga g 0), .int v1, .int v2, .int v3, .int v4] I J P := by
  unfold VC_X7_talk at hv
  refine sem_intro (by decide +kernel) rfl (Nat.le_of_ble_eq_true rfl) ?_
  show AW _ 0 0 0 [(0, .ref (ga g 0)), (1, .int v1), (2, .int v2), (3, .int v3), (4, .int v4)] [] (cW g I J)
  refine a_aload_n 0 dX7_talk_0 rfl rfl ?_
  refine a_getR (r := 3) G_X7_19 sh_0 rfl dX7_talk_1 ?_
  refine a_iload_n 1 dX7_talk_4 rfl rfl ?_
  refine c_VZ (As := [.int v1]) (rest := []) hv K_X7_93 sh_3 rfl rfl rfl (Nat.le_of_ble_eq_true rfl) (rok (by omega) (Nat.le_of_ble_eq_true rfl)) ⟨Nat.zero_le _, Nat.zero_le _⟩ dX7_talk_5 (fun r5 I5 J5 hv => ?_)
  refine a_ifz_eq 41 dX7_talk_8 rfl (fun hc => ?_) (fun hc => ?_)
  · replace hv := hv.1 hc
    refine a_iconst (v := (-1)) dX7_talk_41 (by decide) ?_
    exact a_iret rfl dX7_talk_42 hv
  · replace hv := hv.2 hc
    refine a_iload_n 2 dX7_talk_11 rfl rfl ?_
    refine c_SZ (As := [.int v2]) (rest := []) hv K_X7_125 rfl rfl (Nat.le_of_ble_eq_true rfl) (rok (by omega) (Nat.le_of_ble_eq_true rfl)) ⟨Nat.zero_le _, Nat.zero_le _⟩ dX7_talk_12 (fun r12 I12 J12 hv => ?_)
    refine a_ifz_eq 41 dX7_talk_15 rfl (fun hc => ?_) (fun hc => ?_)
    · replace hv := hv.1 hc
      refine a_iconst (v := (-1)) dX7_talk_41 (by decide) ?_
      exact a_iret rfl dX7_talk_42 hv
    · replace hv := hv.2 hc
      refine a_iload_n 3 dX7_talk_18 rfl rfl ?_
      refine c_SZ (As := [.int v3]) (rest := []) hv K_X7_125 rfl rfl (Nat.le_of_ble_eq_true rfl) (rok (by omega) (Nat.le_of_ble_eq_true rfl)) ⟨Nat.zero_le _, Nat.zero_le _⟩ dX7_talk_19 (fun r19 I19 J19 hv => ?_)
      refine a_ifz_eq 41 dX7_talk_22 rfl (fun hc => ?_) (fun hc => ?_)
      · replace hv := hv.1 hc
        refine a_iconst (v := (-1)) dX7_talk_41 (by decide) ?_
        exact a_iret rfl dX7_talk_42 hv
      · replace hv := hv.2 hc
        refine a_iload_n 2 dX7_talk_25 rfl rfl ?_
        refine a_iload_n 3 dX7_talk_26 rfl rfl ?_
        refine a_icmp_eq 41 dX7_talk_27 rfl (fun hc => ?_) (fun hc => ?_)
        · replace hv := hv.1 hc
          refine a_iconst (v := (-1)) dX7_talk_41 (by decide) ?_
          exact a_iret rfl dX7_talk_42 hv
        · replace hv := hv.2 hc
          refine a_iload 4 dX7_talk_30 rfl ?_
          refine a_if_lt 41 dX7_talk_32 rfl (fun hc => ?_) (fun hc => ?_)
          · replace hv := hv.1 hc
            refine a_iconst (v := (-1)) dX7_talk_41 (by decide) ?_
            exact a_iret rfl dX7_talk_42 hv
          · replace hv := hv.2 hc
            refine a_iload 4 dX7_talk_35 rfl ?_
            refine a_iconst (v := 3) dX7_talk_37 (by decide) ?_
            refine a_icmp_le 43 dX7_talk_38 rfl (fun hc => ?_) (fun hc => ?_)
            · replace hv := hv.1 hc
              refine a_aload_n 0 dX7_talk_43 rfl rfl ?_
              refine a_getR (r := 3) G_X7_19 sh_0 rfl dX7_talk_44 ?_
              refine a_getR (r := 4) G_X7_32 sh_3 rfl dX7_talk_47 ?_
              refine c_VI (As := []) (rest := []) hv K_X7_207 sh_4 rfl rfl rfl (Nat.le_of_ble_eq_true rfl) (rok (by omega) (Nat.le_of_ble_eq_true rfl)) ⟨Nat.zero_le _, Nat.zero_le _⟩ dX7_talk_50 (fun r50 I50 J50 hv => ?_)
              refine a_if_ne 59 dX7_talk_53 rfl (fun hc => ?_) (fun hc => ?_)
              · replace hv := hv.1 hc
                refine a_aload_n 0 dX7_talk_59 rfl rfl ?_
                refine a_getR (r := 72) G_X7_45 sh_0 rfl dX7_talk_60 ?_
                refine a_iconst (v := 0) dX7_talk_63 (by decide) ?_
                refine a_aald (r := 96) sh_72 (by decide) (by unfold vp_in; decide) rfl dX7_talk_64 ?_
                refine a_aload_n 0 dX7_talk_65 rfl rfl ?_
                refine a_getR (r := 3) G_X7_19 sh_0 rfl dX7_talk_66 ?_
                refine a_iload_n 1 dX7_talk_69 rfl rfl ?_
                refine c_VV (As := [.ref (ga g 3), .int v1]) (rest := []) hv K_X7_174 sh_96 rfl rfl rfl (Nat.le_of_ble_eq_true rfl) (rok (by omega) (Nat.le_of_ble_eq_true rfl)) ⟨Nat.zero_le _, Nat.zero_le _⟩ dX7_talk_70 (fun I70 J70 hv => ?_)
                refine a_aload_n 0 dX7_talk_73 rfl rfl ?_
                refine a_iconst (v := 0) dX7_talk_74 (by decide) ?_
                refine a_iconst (v := 2) dX7_talk_75 (by decide) ?_
                refine a_iload 4 dX7_talk_76 rfl ?_
                refine a_imul dX7_talk_78 ?_
                refine a_iload_n 2 dX7_talk_79 rfl rfl ?_
                refine a_iload_n 3 dX7_talk_80 rfl rfl ?_
                refine c_VI (As := [.int 0, .int (2 * v4), .int v2, .int v3]) (rest := []) hv K_X7_210 sh_0 rfl rfl rfl (Nat.le_of_ble_eq_true rfl) (rok (by omega) (Nat.le_of_ble_eq_true rfl)) ⟨Nat.zero_le _, Nat.zero_le _⟩ dX7_talk_81 (fun r81 I81 J81 hv => ?_)
                exact a_iret rfl dX7_talk_84 hv
              · replace hv := hv.2 hc
                refine a_bipush (v := (-4)) dX7_talk_56 (by decide) ?_
                exact a_iret rfl dX7_talk_58 hv
            · replace hv := hv.2 hc
              refine a_iconst (v := (-1)) dX7_talk_41 (by decide) ?_
              exact a_iret rfl dX7_talk_42 hv
def Lp_X7_decades_61 (g : GT) (d : Nat) (v1 : Int32) (v3 : Int32) (y4 : Int64) (v6 : Int32) (I : IT) (J : JT) (P : Int32 → IT → JT → Prop) : Prop := AW (kM g d M_X7_decades 0 0 (qI g P)) 0 0 61 [(0, .ref (ga g 0)), (1, .int v1), (3, .int v3), (4, .long y4), (6, .int v6)] [] (cW g I J)
def VC_X7_decades_61 (g : GT) (d : Nat) (v1 : Int32) (v3 : Int32) (y4 : Int64) (v6 : Int32) (I : IT) (J : JT) (P : Int32 → IT → JT → Prop) : Prop :=
  ((v1 ≤ v6 → ((¬ v3 = 0 → (SemI g (d - 1) M_X2_allCredit [.ref (ga g 11)] I J (fun r109 I109 J109 => P r109 I109 J109))) ∧ (v3 = 0 → (SemI g (d - 1) M_X2_allWorm [.ref (ga g 11)] I J (fun r99 I99 J99 => P r99 I99 J99))))) ∧ (¬ v1 ≤ v6 → (SemV g (d - 1) M_X7_passDecade [.ref (ga g 0), .long ((16807 * y4) - (16807 * y4) / 2147483647 * 2147483647)] I J (fun I82 J82 => (Lp_X7_decades_61 g d v1 v3 ((16807 * y4) - (16807 * y4) / 2147483647 * 2147483647) (v6 + 1) I82 J82 P)))))
set_option maxRecDepth 4000 in
theorem w_X7_decades_61 {g : GT} {d : Nat} {v1 : Int32} {v3 : Int32} {y4 : Int64} {v6 : Int32} {I : IT} {J : JT} {P : Int32 → IT → JT → Prop} (hd : 1 ≤ d) (hv : VC_X7_decades_61 g d v1 v3 y4 v6 I J P) : Lp_X7_decades_61 g d v1 v3 y4 v6 I J P := by
  unfold VC_X7_decades_61 at hv
  unfold Lp_X7_decades_61
  refine a_iload 4 dX7_decades_61 rfl ?_
  refine a_iload_n 1 dX7_decades_63 rfl rfl ?_
  refine a_icmp_ge 91 dX7_decades_64 rfl (fun hc => ?_) (fun hc => ?_)
  · replace hv := hv.1 hc
    refine a_iload_n 2 dX7_decades_91 rfl rfl ?_
    refine a_if_ne 105 dX7_decades_92 rfl (fun hc => ?_) (fun hc => ?_)
    · replace hv := hv.1 hc
      refine a_aload_n 0 dX7_decades_105 rfl rfl ?_
      refine a_getR (r := 11) G_X7_23 sh_0 rfl dX7_decades_106 ?_
      refine c_VI (As := []) (rest := []) hv K_X7_229 sh_11 rfl rfl rfl (Nat.le_of_ble_eq_true rfl) (rok (by omega) (Nat.le_of_ble_eq_true rfl)) ⟨Nat.zero_le _, Nat.zero_le _⟩ dX7_decades_109 (fun r109 I109 J109 hv => ?_)
      exact a_iret rfl dX7_decades_112 hv
    · replace hv := hv.2 hc
      refine a_aload_n 0 dX7_decades_95 rfl rfl ?_
      refine a_getR (r := 11) G_X7_23 sh_0 rfl dX7_decades_96 ?_
      refine c_VI (As := []) (rest := []) hv K_X7_226 sh_11 rfl rfl rfl (Nat.le_of_ble_eq_true rfl) (rok (by omega) (Nat.le_of_ble_eq_true rfl)) ⟨Nat.zero_le _, Nat.zero_le _⟩ dX7_decades_99 (fun r99 I99 J99 hv => ?_)
      refine a_goto 112 dX7_decades_102 rfl ?_
      exact a_iret rfl dX7_decades_112 hv
  · replace hv := hv.2 hc
    refine a_ldc2 (v := 16807) dX7_decades_67 cl_X7_218 ?_
    refine a_lload 3 dX7_decades_70 rfl ?_
    refine a_lmul dX7_decades_72 ?_
    refine a_ldc2 (v := 2147483647) dX7_decades_73 cl_X7_220 ?_
    refine a_lrem dX7_decades_76 (by decide) ?_
    refine a_lstore [(4, .long ((16807 * y4) - (16807 * y4) / 2147483647 * 2147483647)), (0, .ref (ga g 0)), (1, .int v1), (3, .int v3), (6, .int v6)] dX7_decades_77 (Nat.le_of_ble_eq_true rfl) rfl ?_
    refine a_aload_n 1 dX7_decades_79 rfl rfl ?_
    refine a_lload 0 dX7_decades_80 rfl ?_
    refine c_VV (As := [.long ((16807 * y4) - (16807 * y4) / 2147483647 * 2147483647)]) (rest := []) hv K_X7_222 sh_0 rfl rfl rfl (Nat.le_of_ble_eq_true rfl) (rok (by omega) (Nat.le_of_ble_eq_true rfl)) ⟨Nat.zero_le _, Nat.zero_le _⟩ dX7_decades_82 (fun I82 J82 hv => ?_)
    refine a_iinc 4 (v6 + 1) [(6, .int (v6 + 1)), (4, .long ((16807 * y4) - (16807 * y4) / 2147483647 * 2147483647)), (0, .ref (ga g 0)), (1, .int v1), (3, .int v3)] dX7_decades_85 rfl rfl (Nat.le_of_ble_eq_true rfl) rfl ?_
    refine a_goto 61 dX7_decades_88 rfl ?_
    exact a_sub [2, 3, 4, 1, 0] rfl hv
def VC_X7_decades (g : GT) (d : Nat) (v1 : Int32) (v2 : Int32) (v3 : Int32) (I : IT) (J : JT) (P : Int32 → IT → JT → Prop) : Prop :=
  ((v1 < 0 → P (-1) I J) ∧ (¬ v1 < 0 → ((60 < v1 → P (-1) I J) ∧ (¬ 60 < v1 → ((v2 < 1 → P (-1) I J) ∧ (¬ v2 < 1 → ((999999 < v2 → P (-1) I J) ∧ (¬ 999999 < v2 → (SemZ g (d - 1) M_X7_isPart [.int v3] I J (fun r22 I22 J22 => ((r22 = true → (SemZ g (d - 1) M_X2_stands [.ref (ga g 3)] I22 J22 (fun r34 I34 J34 => ((r34 = true → (SemV g (d - 1) M_X2_become [.ref (ga g 11), .ref (ga g 3)] I34 J34 (fun I51 J51 => (Lp_X7_decades_61 g d v1 v3 (v2.toInt64) 0 I51 J51 P)))) ∧ (r34 = false → P (-2) I34 J34))))) ∧ (r22 = false → P (-1) I22 J22))))))))))))
set_option maxRecDepth 4000 in
theorem w_X7_decades {g : GT} {d : Nat} {v1 : Int32} {v2 : Int32} {v3 : Int32} {I : IT} {J : JT} {P : Int32 → IT → JT → Prop} (hd : 1 ≤ d) (hv : VC_X7_decades g d v1 v2 v3 I J P) : SemI g d M_X7_decades [.ref (ga g 0), .int v1, .int v2, .int v3] I J P := by
  unfold VC_X7_decades at hv
  refine sem_intro (by decide +kernel) rfl (Nat.le_of_ble_eq_true rfl) ?_
  show AW _ 0 0 0 [(0, .ref (ga g 0)), (1, .int v1), (2, .int v2), (3, .int v3)] [] (cW g I J)
  refine a_iload_n 1 dX7_decades_0 rfl rfl ?_
  refine a_if_lt 28 dX7_decades_1 rfl (fun hc => ?_) (fun hc => ?_)
  · replace hv := hv.1 hc
    refine a_iconst (v := (-1)) dX7_decades_28 (by decide) ?_
    exact a_iret rfl dX7_decades_29 hv
  · replace hv := hv.2 hc
    refine a_iload_n 1 dX7_decades_4 rfl rfl ?_
    refine a_bipush (v := 60) dX7_decades_5 (by decide) ?_
    refine a_icmp_gt 28 dX7_decades_7 rfl (fun hc => ?_) (fun hc => ?_)
    · replace hv := hv.1 hc
      refine a_iconst (v := (-1)) dX7_decades_28 (by decide) ?_
      exact a_iret rfl dX7_decades_29 hv
    · replace hv := hv.2 hc
      refine a_iload_n 2 dX7_decades_10 rfl rfl ?_
      refine a_iconst (v := 1) dX7_decades_11 (by decide) ?_
      refine a_icmp_lt 28 dX7_decades_12 rfl (fun hc => ?_) (fun hc => ?_)
      · replace hv := hv.1 hc
        refine a_iconst (v := (-1)) dX7_decades_28 (by decide) ?_
        exact a_iret rfl dX7_decades_29 hv
      · replace hv := hv.2 hc
        refine a_iload_n 2 dX7_decades_15 rfl rfl ?_
        refine a_ldc (v := 999999) dX7_decades_16 ct_X7_214 ?_
        refine a_icmp_gt 28 dX7_decades_18 rfl (fun hc => ?_) (fun hc => ?_)
        · replace hv := hv.1 hc
          refine a_iconst (v := (-1)) dX7_decades_28 (by decide) ?_
          exact a_iret rfl dX7_decades_29 hv
        · replace hv := hv.2 hc
          refine a_iload_n 3 dX7_decades_21 rfl rfl ?_
          refine c_SZ (As := [.int v3]) (rest := []) hv K_X7_215 rfl rfl (Nat.le_of_ble_eq_true rfl) (rok (by omega) (Nat.le_of_ble_eq_true rfl)) ⟨Nat.zero_le _, Nat.zero_le _⟩ dX7_decades_22 (fun r22 I22 J22 hv => ?_)
          refine a_ifz_ne 30 dX7_decades_25 rfl (fun hc => ?_) (fun hc => ?_)
          · replace hv := hv.1 hc
            refine a_aload_n 0 dX7_decades_30 rfl rfl ?_
            refine a_getR (r := 3) G_X7_19 sh_0 rfl dX7_decades_31 ?_
            refine c_VZ (As := []) (rest := []) hv K_X7_121 sh_3 rfl rfl rfl (Nat.le_of_ble_eq_true rfl) (rok (by omega) (Nat.le_of_ble_eq_true rfl)) ⟨Nat.zero_le _, Nat.zero_le _⟩ dX7_decades_34 (fun r34 I34 J34 hv => ?_)
            refine a_ifz_ne 43 dX7_decades_37 rfl (fun hc => ?_) (fun hc => ?_)
            · replace hv := hv.1 hc
              refine a_aload_n 0 dX7_decades_43 rfl rfl ?_
              refine a_getR (r := 11) G_X7_23 sh_0 rfl dX7_decades_44 ?_
              refine a_aload_n 0 dX7_decades_47 rfl rfl ?_
              refine a_getR (r := 3) G_X7_19 sh_0 rfl dX7_decades_48 ?_
              refine c_VV (As := [.ref (ga g 3)]) (rest := []) hv K_X7_83 sh_11 rfl rfl rfl (Nat.le_of_ble_eq_true rfl) (rok (by omega) (Nat.le_of_ble_eq_true rfl)) ⟨Nat.zero_le _, Nat.zero_le _⟩ dX7_decades_51 (fun I51 J51 hv => ?_)
              refine a_iload_n 2 dX7_decades_54 rfl rfl ?_
              refine a_i2l dX7_decades_55 ?_
              refine a_lstore [(4, .long (v2.toInt64)), (0, .ref (ga g 0)), (1, .int v1), (2, .int v2), (3, .int v3)] dX7_decades_56 (Nat.le_of_ble_eq_true rfl) rfl ?_
              refine a_iconst (v := 0) dX7_decades_58 (by decide) ?_
              refine a_istore [(6, .int 0), (4, .long (v2.toInt64)), (0, .ref (ga g 0)), (1, .int v1), (2, .int v2), (3, .int v3)] dX7_decades_59 (Nat.le_of_ble_eq_true rfl) rfl ?_
              exact a_sub [2, 3, 5, 1, 0] rfl hv
            · replace hv := hv.2 hc
              refine a_bipush (v := (-2)) dX7_decades_40 (by decide) ?_
              exact a_iret rfl dX7_decades_42 hv
          · replace hv := hv.2 hc
            refine a_iconst (v := (-1)) dX7_decades_28 (by decide) ?_
            exact a_iret rfl dX7_decades_29 hv
def VC_X7_sheet (g : GT) (d : Nat) (v1 : Int32) (v2 : Int32) (v3 : Int32) (I : IT) (J : JT) (P : Int32 → IT → JT → Prop) : Prop :=
  (SemZ g (d - 1) M_X7_isSheet [.int v1] I J (fun r1 I1 J1 => ((r1 = false → P (-1) I1 J1) ∧ (r1 = true → (SemZ g (d - 1) M_X7_isLane [.int v2] I1 J1 (fun r8 I8 J8 => ((r8 = false → P (-1) I8 J8) ∧ (r8 = true → ((v3 ≤ 24 → ((0 ≤ v3 → (vp_in v1 4 ∧ (SemV g (d - 1) M_X4_renew [.ref (ga g (110 + 2 * v1.toNatClampNeg)), .int v2, .int v3] I8 J8 (fun I37 J37 => P v3 I37 J37)))) ∧ (¬ 0 ≤ v3 → P (-14) I8 J8))) ∧ (¬ v3 ≤ 24 → P (-1) I8 J8))))))))))
set_option maxRecDepth 4000 in
theorem w_X7_sheet {g : GT} {d : Nat} {v1 : Int32} {v2 : Int32} {v3 : Int32} {I : IT} {J : JT} {P : Int32 → IT → JT → Prop} (hd : 1 ≤ d) (hv : VC_X7_sheet g d v1 v2 v3 I J P) : SemI g d M_X7_sheet [.ref (ga g 0), .int v1, .int v2, .int v3] I J P := by
  unfold VC_X7_sheet at hv
  refine sem_intro (by decide +kernel) rfl (Nat.le_of_ble_eq_true rfl) ?_
  show AW _ 0 0 0 [(0, .ref (ga g 0)), (1, .int v1), (2, .int v2), (3, .int v3)] [] (cW g I J)
  refine a_iload_n 1 dX7_sheet_0 rfl rfl ?_
  refine c_SZ (As := [.int v1]) (rest := []) hv K_X7_232 rfl rfl (Nat.le_of_ble_eq_true rfl) (rok (by omega) (Nat.le_of_ble_eq_true rfl)) ⟨Nat.zero_le _, Nat.zero_le _⟩ dX7_sheet_1 (fun r1 I1 J1 hv => ?_)
  refine a_ifz_eq 20 dX7_sheet_4 rfl (fun hc => ?_) (fun hc => ?_)
  · replace hv := hv.1 hc
    refine a_iconst (v := (-1)) dX7_sheet_20 (by decide) ?_
    exact a_iret rfl dX7_sheet_21 hv
  · replace hv := hv.2 hc
    refine a_iload_n 2 dX7_sheet_7 rfl rfl ?_
    refine c_SZ (As := [.int v2]) (rest := []) hv K_X7_235 rfl rfl (Nat.le_of_ble_eq_true rfl) (rok (by omega) (Nat.le_of_ble_eq_true rfl)) ⟨Nat.zero_le _, Nat.zero_le _⟩ dX7_sheet_8 (fun r8 I8 J8 hv => ?_)
    refine a_ifz_eq 20 dX7_sheet_11 rfl (fun hc => ?_) (fun hc => ?_)
    · replace hv := hv.1 hc
      refine a_iconst (v := (-1)) dX7_sheet_20 (by decide) ?_
      exact a_iret rfl dX7_sheet_21 hv
    · replace hv := hv.2 hc
      refine a_iload_n 3 dX7_sheet_14 rfl rfl ?_
      refine a_bipush (v := 24) dX7_sheet_15 (by decide) ?_
      refine a_icmp_le 22 dX7_sheet_17 rfl (fun hc => ?_) (fun hc => ?_)
      · replace hv := hv.1 hc
        refine a_iload_n 3 dX7_sheet_22 rfl rfl ?_
        refine a_if_ge 29 dX7_sheet_23 rfl (fun hc => ?_) (fun hc => ?_)
        · replace hv := hv.1 hc
          refine a_aload_n 0 dX7_sheet_29 rfl rfl ?_
          refine a_getR (r := 78) G_X7_58 sh_0 rfl dX7_sheet_30 ?_
          refine a_iload_n 1 dX7_sheet_33 rfl rfl ?_
          have hi34 := hv.1
          refine a_aald (r := (110 + 2 * v1.toNatClampNeg)) sh_78 (by decide) hi34 (r_78 hi34) dX7_sheet_34 ?_
          replace hv := hv.2
          refine a_iload_n 2 dX7_sheet_35 rfl rfl ?_
          refine a_iload_n 3 dX7_sheet_36 rfl rfl ?_
          refine c_VV (As := [.int v2, .int v3]) (rest := []) hv K_X7_238 (o_78 hi34).1 rfl rfl rfl (Nat.le_of_ble_eq_true rfl) (rok (by omega) (Nat.le_of_ble_eq_true rfl)) ⟨Nat.zero_le _, Nat.zero_le _⟩ dX7_sheet_37 (fun I37 J37 hv => ?_)
          refine a_iload_n 3 dX7_sheet_40 rfl rfl ?_
          exact a_iret rfl dX7_sheet_41 hv
        · replace hv := hv.2 hc
          refine a_bipush (v := (-14)) dX7_sheet_26 (by decide) ?_
          exact a_iret rfl dX7_sheet_28 hv
      · replace hv := hv.2 hc
        refine a_iconst (v := (-1)) dX7_sheet_20 (by decide) ?_
        exact a_iret rfl dX7_sheet_21 hv
def VC_X7_drop (g : GT) (d : Nat) (v1 : Int32) (I : IT) (J : JT) (P : Int32 → IT → JT → Prop) : Prop :=
  (SemZ g (d - 1) M_X7_isSheet [.int v1] I J (fun r1 I1 J1 => ((r1 = true → (vp_in v1 4 ∧ ((¬ (I1 (110 + 2 * v1.toNatClampNeg) 1) = 0 → P ((sI I1 (110 + 2 * v1.toNatClampNeg) 1 0) (110 + 2 * v1.toNatClampNeg) 3) (sI I1 (110 + 2 * v1.toNatClampNeg) 1 0) J1) ∧ ((I1 (110 + 2 * v1.toNatClampNeg) 1) = 0 → P (-11) I1 J1)))) ∧ (r1 = false → P (-1) I1 J1))))
set_option maxRecDepth 4000 in
theorem w_X7_drop {g : GT} {d : Nat} {v1 : Int32} {I : IT} {J : JT} {P : Int32 → IT → JT → Prop} (hd : 1 ≤ d) (hv : VC_X7_drop g d v1 I J P) : SemI g d M_X7_drop [.ref (ga g 0), .int v1] I J P := by
  unfold VC_X7_drop at hv
  refine sem_intro (by decide +kernel) rfl (Nat.le_of_ble_eq_true rfl) ?_
  show AW _ 0 0 0 [(0, .ref (ga g 0)), (1, .int v1)] [] (cW g I J)
  refine a_iload_n 1 dX7_drop_0 rfl rfl ?_
  refine c_SZ (As := [.int v1]) (rest := []) hv K_X7_232 rfl rfl (Nat.le_of_ble_eq_true rfl) (rok (by omega) (Nat.le_of_ble_eq_true rfl)) ⟨Nat.zero_le _, Nat.zero_le _⟩ dX7_drop_1 (fun r1 I1 J1 hv => ?_)
  refine a_ifz_ne 9 dX7_drop_4 rfl (fun hc => ?_) (fun hc => ?_)
  · replace hv := hv.1 hc
    refine a_aload_n 0 dX7_drop_9 rfl rfl ?_
    refine a_getR (r := 78) G_X7_58 sh_0 rfl dX7_drop_10 ?_
    refine a_iload_n 1 dX7_drop_13 rfl rfl ?_
    have hi14 := hv.1
    refine a_aald (r := (110 + 2 * v1.toNatClampNeg)) sh_78 (by decide) hi14 (r_78 hi14) dX7_drop_14 ?_
    replace hv := hv.2
    refine a_astore_n [(2, .ref (ga g (110 + 2 * v1.toNatClampNeg))), (0, .ref (ga g 0)), (1, .int v1)] dX7_drop_15 rfl (Nat.le_of_ble_eq_true rfl) rfl ?_
    refine a_aload_n 0 dX7_drop_16 rfl rfl ?_
    refine a_getI G_X7_241 (o_78 hi14).1 rfl dX7_drop_17 ?_
    refine a_if_ne 26 dX7_drop_20 rfl (fun hc => ?_) (fun hc => ?_)
    · replace hv := hv.1 hc
      refine a_aload_n 0 dX7_drop_26 rfl rfl ?_
      refine a_iconst (v := 0) dX7_drop_27 (by decide) ?_
      refine a_putI H_X7_241 (o_78 hi14).1 rfl (by decide) (by decide) dX7_drop_28 ?_
      refine a_aload_n 0 dX7_drop_31 rfl rfl ?_
      refine a_getI G_X7_245 (o_78 hi14).1 rfl dX7_drop_32 ?_
      exact a_iret rfl dX7_drop_35 hv
    · replace hv := hv.2 hc
      refine a_bipush (v := (-11)) dX7_drop_23 (by decide) ?_
      exact a_iret rfl dX7_drop_25 hv
  · replace hv := hv.2 hc
    refine a_iconst (v := (-1)) dX7_drop_7 (by decide) ?_
    exact a_iret rfl dX7_drop_8 hv
def VC_X7_item (g : GT) (d : Nat) (v1 : Int32) (v2 : Int32) (v3 : Int32) (y4 : Int64) (I : IT) (J : JT) (P : Int64 → IT → JT → Prop) : Prop :=
  (SemZ g (d - 1) M_X7_isSheet [.int v1] I J (fun r1 I1 J1 => ((r1 = false → P (-1) I1 J1) ∧ (r1 = true → (SemZ g (d - 1) M_X7_isLane [.int v2] I1 J1 (fun r8 I8 J8 => ((r8 = true → (SemI g (d - 1) M_X7_refusalOf [.ref (ga g 0), .int v1, .int v2, .int v3, .int 1] I8 J8 (fun r23 I23 J23 => ((0 ≤ r23 → (vp_in v1 4 ∧ (SemL g (d - 1) M_X4_put [.ref (ga g (110 + 2 * v1.toNatClampNeg)), .int v3, .long y4] I23 J23 (fun r48 I48 J48 => P r48 I48 J48)))) ∧ (¬ 0 ≤ r23 → P (r23.toInt64) I23 J23))))) ∧ (r8 = false → P (-1) I8 J8))))))))
set_option maxRecDepth 4000 in
theorem w_X7_item {g : GT} {d : Nat} {v1 : Int32} {v2 : Int32} {v3 : Int32} {y4 : Int64} {I : IT} {J : JT} {P : Int64 → IT → JT → Prop} (hd : 1 ≤ d) (hv : VC_X7_item g d v1 v2 v3 y4 I J P) : SemL g d M_X7_item [.ref (ga g 0), .int v1, .int v2, .int v3, .long y4] I J P := by
  unfold VC_X7_item at hv
  refine sem_intro (by decide +kernel) rfl (Nat.le_of_ble_eq_true rfl) ?_
  show AW _ 0 0 0 [(0, .ref (ga g 0)), (1, .int v1), (2, .int v2), (3, .int v3), (4, .long y4)] [] (cW g I J)
  refine a_iload_n 1 dX7_item_0 rfl rfl ?_
  refine c_SZ (As := [.int v1]) (rest := []) hv K_X7_232 rfl rfl (Nat.le_of_ble_eq_true rfl) (rok (by omega) (Nat.le_of_ble_eq_true rfl)) ⟨Nat.zero_le _, Nat.zero_le _⟩ dX7_item_1 (fun r1 I1 J1 hv => ?_)
  refine a_ifz_eq 14 dX7_item_4 rfl (fun hc => ?_) (fun hc => ?_)
  · replace hv := hv.1 hc
    refine a_ldc2 (v := (-1)) dX7_item_14 cl_X7_246 ?_
    exact a_lret rfl dX7_item_17 hv
  · replace hv := hv.2 hc
    refine a_iload_n 2 dX7_item_7 rfl rfl ?_
    refine c_SZ (As := [.int v2]) (rest := []) hv K_X7_235 rfl rfl (Nat.le_of_ble_eq_true rfl) (rok (by omega) (Nat.le_of_ble_eq_true rfl)) ⟨Nat.zero_le _, Nat.zero_le _⟩ dX7_item_8 (fun r8 I8 J8 hv => ?_)
    refine a_ifz_ne 18 dX7_item_11 rfl (fun hc => ?_) (fun hc => ?_)
    · replace hv := hv.1 hc
      refine a_aload_n 0 dX7_item_18 rfl rfl ?_
      refine a_iload_n 1 dX7_item_19 rfl rfl ?_
      refine a_iload_n 2 dX7_item_20 rfl rfl ?_
      refine a_iload_n 3 dX7_item_21 rfl rfl ?_
      refine a_iconst (v := 1) dX7_item_22 (by decide) ?_
      refine c_VI (As := [.int v1, .int v2, .int v3, .int 1]) (rest := []) hv K_X7_248 sh_0 rfl rfl rfl (Nat.le_of_ble_eq_true rfl) (rok (by omega) (Nat.le_of_ble_eq_true rfl)) ⟨Nat.zero_le _, Nat.zero_le _⟩ dX7_item_23 (fun r23 I23 J23 hv => ?_)
      refine a_istore [(6, .int r23), (0, .ref (ga g 0)), (1, .int v1), (2, .int v2), (3, .int v3), (4, .long y4)] dX7_item_26 (Nat.le_of_ble_eq_true rfl) rfl ?_
      refine a_iload 0 dX7_item_28 rfl ?_
      refine a_if_ge 39 dX7_item_30 rfl (fun hc => ?_) (fun hc => ?_)
      · replace hv := hv.1 hc
        refine a_aload_n 1 dX7_item_39 rfl rfl ?_
        refine a_getR (r := 78) G_X7_58 sh_0 rfl dX7_item_40 ?_
        refine a_iload_n 2 dX7_item_43 rfl rfl ?_
        have hi44 := hv.1
        refine a_aald (r := (110 + 2 * v1.toNatClampNeg)) sh_78 (by decide) hi44 (r_78 hi44) dX7_item_44 ?_
        replace hv := hv.2
        refine a_iload_n 4 dX7_item_45 rfl rfl ?_
        refine a_lload 5 dX7_item_46 rfl ?_
        refine c_VL (As := [.int v3, .long y4]) (rest := []) hv K_X7_251 (o_78 hi44).1 rfl rfl rfl (Nat.le_of_ble_eq_true rfl) (rok (by omega) (Nat.le_of_ble_eq_true rfl)) ⟨Nat.zero_le _, Nat.zero_le _⟩ dX7_item_48 (fun r48 I48 J48 hv => ?_)
        exact a_lret rfl dX7_item_51 hv
      · replace hv := hv.2 hc
        refine a_iload 0 dX7_item_33 rfl ?_
        refine a_i2l dX7_item_35 ?_
        refine a_goto 51 dX7_item_36 rfl ?_
        exact a_lret rfl dX7_item_51 hv
    · replace hv := hv.2 hc
      refine a_ldc2 (v := (-1)) dX7_item_14 cl_X7_246 ?_
      exact a_lret rfl dX7_item_17 hv
def VC_X7_copy (g : GT) (d : Nat) (v1 : Int32) (v2 : Int32) (v3 : Int32) (v4 : Int32) (v5 : Int32) (I : IT) (J : JT) (P : Int32 → IT → JT → Prop) : Prop :=
  (SemZ g (d - 1) M_X7_isSheet [.int v1] I J (fun r1 I1 J1 => ((r1 = false → P (-1) I1 J1) ∧ (r1 = true → (SemZ g (d - 1) M_X7_isSheet [.int v3] I1 J1 (fun r8 I8 J8 => ((r8 = true → (vp_in v1 4 ∧ (vp_in v3 4 ∧ (((I8 (110 + 2 * v1.toNatClampNeg) 1) = 0 → P (-11) I8 J8) ∧ (¬ (I8 (110 + 2 * v1.toNatClampNeg) 1) = 0 → ((¬ (I8 (110 + 2 * v3.toNatClampNeg) 1) = 0 → (((I8 (110 + 2 * v1.toNatClampNeg) 2) = (I8 (110 + 2 * v3.toNatClampNeg) 2) → (SemZ g (d - 1) M_X4_holds [.ref (ga g (110 + 2 * v1.toNatClampNeg)), .int v2, .int v5] I8 J8 (fun r72 I72 J72 => ((r72 = false → P (-13) I72 J72) ∧ (r72 = true → (SemZ g (d - 1) M_X4_holds [.ref (ga g (110 + 2 * v3.toNatClampNeg)), .int v4, .int v5] I72 J72 (fun r84 I84 J84 => ((r84 = true → (¬ v2 < 0 ∧ (¬ v4 < 0 ∧ (¬ v5 < 0 ∧ (v2.toNatClampNeg + v5.toNatClampNeg ≤ 24 ∧ (v4.toNatClampNeg + v5.toNatClampNeg ≤ 24 ∧ P v5 I84 (cJ J84 ((110 + 2 * v1.toNatClampNeg) + 1) ((110 + 2 * v3.toNatClampNeg) + 1) v2.toNatClampNeg v4.toNatClampNeg v5.toNatClampNeg))))))) ∧ (r84 = false → P (-13) I84 J84))))))))) ∧ (¬ (I8 (110 + 2 * v1.toNatClampNeg) 2) = (I8 (110 + 2 * v3.toNatClampNeg) 2) → P (-12) I8 J8))) ∧ ((I8 (110 + 2 * v3.toNatClampNeg) 1) = 0 → P (-11) I8 J8))))))) ∧ (r8 = false → P (-1) I8 J8))))))))
set_option maxRecDepth 4000 in
theorem w_X7_copy {g : GT} {d : Nat} {v1 : Int32} {v2 : Int32} {v3 : Int32} {v4 : Int32} {v5 : Int32} {I : IT} {J : JT} {P : Int32 → IT → JT → Prop} (hd : 1 ≤ d) (hv : VC_X7_copy g d v1 v2 v3 v4 v5 I J P) : SemI g d M_X7_copy [.ref (ga g 0), .int v1, .int v2, .int v3, .int v4, .int v5] I J P := by
  unfold VC_X7_copy at hv
  refine sem_intro (by decide +kernel) rfl (Nat.le_of_ble_eq_true rfl) ?_
  show AW _ 0 0 0 [(0, .ref (ga g 0)), (1, .int v1), (2, .int v2), (3, .int v3), (4, .int v4), (5, .int v5)] [] (cW g I J)
  refine a_iload_n 1 dX7_copy_0 rfl rfl ?_
  refine c_SZ (As := [.int v1]) (rest := []) hv K_X7_232 rfl rfl (Nat.le_of_ble_eq_true rfl) (rok (by omega) (Nat.le_of_ble_eq_true rfl)) ⟨Nat.zero_le _, Nat.zero_le _⟩ dX7_copy_1 (fun r1 I1 J1 hv => ?_)
  refine a_ifz_eq 14 dX7_copy_4 rfl (fun hc => ?_) (fun hc => ?_)
  · replace hv := hv.1 hc
    refine a_iconst (v := (-1)) dX7_copy_14 (by decide) ?_
    exact a_iret rfl dX7_copy_15 hv
  · replace hv := hv.2 hc
    refine a_iload_n 3 dX7_copy_7 rfl rfl ?_
    refine c_SZ (As := [.int v3]) (rest := []) hv K_X7_232 rfl rfl (Nat.le_of_ble_eq_true rfl) (rok (by omega) (Nat.le_of_ble_eq_true rfl)) ⟨Nat.zero_le _, Nat.zero_le _⟩ dX7_copy_8 (fun r8 I8 J8 hv => ?_)
    refine a_ifz_ne 16 dX7_copy_11 rfl (fun hc => ?_) (fun hc => ?_)
    · replace hv := hv.1 hc
      refine a_aload_n 0 dX7_copy_16 rfl rfl ?_
      refine a_getR (r := 78) G_X7_58 sh_0 rfl dX7_copy_17 ?_
      refine a_iload_n 1 dX7_copy_20 rfl rfl ?_
      have hi21 := hv.1
      refine a_aald (r := (110 + 2 * v1.toNatClampNeg)) sh_78 (by decide) hi21 (r_78 hi21) dX7_copy_21 ?_
      replace hv := hv.2
      refine a_astore [(6, .ref (ga g (110 + 2 * v1.toNatClampNeg))), (0, .ref (ga g 0)), (1, .int v1), (2, .int v2), (3, .int v3), (4, .int v4), (5, .int v5)] dX7_copy_22 (Nat.le_of_ble_eq_true rfl) rfl ?_
      refine a_aload_n 1 dX7_copy_24 rfl rfl ?_
      refine a_getR (r := 78) G_X7_58 sh_0 rfl dX7_copy_25 ?_
      refine a_iload_n 4 dX7_copy_28 rfl rfl ?_
      have hi29 := hv.1
      refine a_aald (r := (110 + 2 * v3.toNatClampNeg)) sh_78 (by decide) hi29 (r_78 hi29) dX7_copy_29 ?_
      replace hv := hv.2
      refine a_astore [(7, .ref (ga g (110 + 2 * v3.toNatClampNeg))), (6, .ref (ga g (110 + 2 * v1.toNatClampNeg))), (0, .ref (ga g 0)), (1, .int v1), (2, .int v2), (3, .int v3), (4, .int v4), (5, .int v5)] dX7_copy_30 (Nat.le_of_ble_eq_true rfl) rfl ?_
      refine a_aload 1 dX7_copy_32 rfl ?_
      refine a_getI G_X7_241 (o_78 hi21).1 rfl dX7_copy_34 ?_
      refine a_if_eq 48 dX7_copy_37 rfl (fun hc => ?_) (fun hc => ?_)
      · replace hv := hv.1 hc
        refine a_bipush (v := (-11)) dX7_copy_48 (by decide) ?_
        exact a_iret rfl dX7_copy_50 hv
      · replace hv := hv.2 hc
        refine a_aload 0 dX7_copy_40 rfl ?_
        refine a_getI G_X7_241 (o_78 hi29).1 rfl dX7_copy_42 ?_
        refine a_if_ne 51 dX7_copy_45 rfl (fun hc => ?_) (fun hc => ?_)
        · replace hv := hv.1 hc
          refine a_aload 1 dX7_copy_51 rfl ?_
          refine a_getI G_X7_255 (o_78 hi21).1 rfl dX7_copy_53 ?_
          refine a_aload 0 dX7_copy_56 rfl ?_
          refine a_getI G_X7_255 (o_78 hi29).1 rfl dX7_copy_58 ?_
          refine a_icmp_eq 67 dX7_copy_61 rfl (fun hc => ?_) (fun hc => ?_)
          · replace hv := hv.1 hc
            refine a_aload 1 dX7_copy_67 rfl ?_
            refine a_iload_n 4 dX7_copy_69 rfl rfl ?_
            refine a_iload 7 dX7_copy_70 rfl ?_
            refine c_VZ (As := [.int v2, .int v5]) (rest := []) hv K_X7_258 (o_78 hi21).1 rfl rfl rfl (Nat.le_of_ble_eq_true rfl) (rok (by omega) (Nat.le_of_ble_eq_true rfl)) ⟨Nat.zero_le _, Nat.zero_le _⟩ dX7_copy_72 (fun r72 I72 J72 hv => ?_)
            refine a_ifz_eq 90 dX7_copy_75 rfl (fun hc => ?_) (fun hc => ?_)
            · replace hv := hv.1 hc
              refine a_bipush (v := (-13)) dX7_copy_90 (by decide) ?_
              exact a_iret rfl dX7_copy_92 hv
            · replace hv := hv.2 hc
              refine a_aload 0 dX7_copy_78 rfl ?_
              refine a_iload 6 dX7_copy_80 rfl ?_
              refine a_iload 7 dX7_copy_82 rfl ?_
              refine c_VZ (As := [.int v4, .int v5]) (rest := []) hv K_X7_258 (o_78 hi29).1 rfl rfl rfl (Nat.le_of_ble_eq_true rfl) (rok (by omega) (Nat.le_of_ble_eq_true rfl)) ⟨Nat.zero_le _, Nat.zero_le _⟩ dX7_copy_84 (fun r84 I84 J84 hv => ?_)
              refine a_ifz_ne 93 dX7_copy_87 rfl (fun hc => ?_) (fun hc => ?_)
              · replace hv := hv.1 hc
                refine a_aload 1 dX7_copy_93 rfl ?_
                refine a_getR (r := ((110 + 2 * v1.toNatClampNeg) + 1)) G_X7_261 (o_78 hi21).1 rfl dX7_copy_95 ?_
                refine a_iload_n 4 dX7_copy_98 rfl rfl ?_
                refine a_aload 0 dX7_copy_99 rfl ?_
                refine a_getR (r := ((110 + 2 * v3.toNatClampNeg) + 1)) G_X7_261 (o_78 hi29).1 rfl dX7_copy_101 ?_
                refine a_iload 6 dX7_copy_104 rfl ?_
                refine a_iload 7 dX7_copy_106 rfl ?_
                refine a_copyJ ak_X7_265 (o_78 hi21).2 (o_78 hi29).2 hv.1 hv.2.1 hv.2.2.1 hv.2.2.2.1 hv.2.2.2.2.1 (rok1 hd) dX7_copy_108 ?_
                replace hv := hv.2.2.2.2.2
                refine a_iload 7 dX7_copy_111 rfl ?_
                exact a_iret rfl dX7_copy_113 hv
              · replace hv := hv.2 hc
                refine a_bipush (v := (-13)) dX7_copy_90 (by decide) ?_
                exact a_iret rfl dX7_copy_92 hv
          · replace hv := hv.2 hc
            refine a_bipush (v := (-12)) dX7_copy_64 (by decide) ?_
            exact a_iret rfl dX7_copy_66 hv
        · replace hv := hv.2 hc
          refine a_bipush (v := (-11)) dX7_copy_48 (by decide) ?_
          exact a_iret rfl dX7_copy_50 hv
    · replace hv := hv.2 hc
      refine a_iconst (v := (-1)) dX7_copy_14 (by decide) ?_
      exact a_iret rfl dX7_copy_15 hv
def Lp_X7_log_94 (g : GT) (d : Nat) (v2 : Int32) (v5 : Int32) (v6 : Int32) (o8 : Nat) (v10 : Int32) (I : IT) (J : JT) (P : Int32 → IT → JT → Prop) : Prop := AW (kM g d M_X7_log 0 0 (qI g P)) 0 0 94 [(2, .int v2), (5, .int v5), (6, .int v6), (8, .ref (ga g o8)), (9, .ref (ga g 96)), (10, .int v10)] [] (cW g I J)
def VC_X7_log_94 (g : GT) (d : Nat) (v2 : Int32) (v5 : Int32) (v6 : Int32) (o8 : Nat) (v10 : Int32) (I : IT) (J : JT) (P : Int32 → IT → JT → Prop) : Prop :=
  (((v5 + v6) ≤ v10 → P v6 I J) ∧ (¬ (v5 + v6) ≤ v10 → (vp_in v10 24 ∧ (SemV g (d - 1) M_X6_hear [.ref (ga g 96), .int v2, .int ((J (o8 + 1) v10.toNatClampNeg).toInt32)] I J (fun I116 J116 => (SemL g (d - 1) M_X4_put [.ref (ga g o8), .int v10, .long ((I116 96 3).toInt64)] I116 J116 (fun r129 I129 J129 => (Lp_X7_log_94 g d v2 v5 v6 o8 (v10 + 1) I129 J129 P))))))))
set_option maxRecDepth 4000 in
theorem w_X7_log_94 {g : GT} {d : Nat} {v2 : Int32} {v5 : Int32} {v6 : Int32} {o8 : Nat} {v10 : Int32} {I : IT} {J : JT} {P : Int32 → IT → JT → Prop} (ho8 : isS o8) (hd : 1 ≤ d) (hv : VC_X7_log_94 g d v2 v5 v6 o8 v10 I J P) : Lp_X7_log_94 g d v2 v5 v6 o8 v10 I J P := by
  unfold VC_X7_log_94 at hv
  unfold Lp_X7_log_94
  refine a_iload 5 dX7_log_94 rfl ?_
  refine a_iload 1 dX7_log_96 rfl ?_
  refine a_iload 2 dX7_log_98 rfl ?_
  refine a_iadd dX7_log_100 ?_
  refine a_icmp_ge 139 dX7_log_101 rfl (fun hc => ?_) (fun hc => ?_)
  · replace hv := hv.1 hc
    refine a_iload 2 dX7_log_139 rfl ?_
    exact a_iret rfl dX7_log_141 hv
  · replace hv := hv.2 hc
    refine a_aload 4 dX7_log_104 rfl ?_
    refine a_iload_n 0 dX7_log_106 rfl rfl ?_
    refine a_aload 3 dX7_log_107 rfl ?_
    refine a_getR (r := (o8 + 1)) G_X7_261 ho8.1 rfl dX7_log_109 ?_
    refine a_iload 5 dX7_log_112 rfl ?_
    refine a_lald ho8.2 hv.1 dX7_log_114 ?_
    replace hv := hv.2
    refine a_l2i dX7_log_115 ?_
    refine c_VV (As := [.int v2, .int ((J (o8 + 1) v10.toNatClampNeg).toInt32)]) (rest := []) hv K_X7_146 sh_96 rfl rfl rfl (Nat.le_of_ble_eq_true rfl) (rok (by omega) (Nat.le_of_ble_eq_true rfl)) ⟨Nat.zero_le _, Nat.zero_le _⟩ dX7_log_116 (fun I116 J116 hv => ?_)
    refine a_aload 3 dX7_log_119 rfl ?_
    refine a_iload 5 dX7_log_121 rfl ?_
    refine a_aload 4 dX7_log_123 rfl ?_
    refine a_getI G_X7_279 sh_96 rfl dX7_log_125 ?_
    refine a_i2l dX7_log_128 ?_
    refine c_VL (As := [.int v10, .long ((I116 96 3).toInt64)]) (rest := []) hv K_X7_251 ho8.1 rfl rfl rfl (Nat.le_of_ble_eq_true rfl) (rok (by omega) (Nat.le_of_ble_eq_true rfl)) ⟨Nat.zero_le _, Nat.zero_le _⟩ dX7_log_129 (fun r129 I129 J129 hv => ?_)
    refine a_pop2 dX7_log_132 rfl ?_
    refine a_iinc 5 (v10 + 1) [(10, .int (v10 + 1)), (2, .int v2), (5, .int v5), (6, .int v6), (8, .ref (ga g o8)), (9, .ref (ga g 96))] dX7_log_133 rfl rfl (Nat.le_of_ble_eq_true rfl) rfl ?_
    refine a_goto 94 dX7_log_136 rfl ?_
    exact a_sub [1, 2, 3, 4, 5, 0] rfl hv
def VC_X7_log (g : GT) (d : Nat) (v1 : Int32) (v2 : Int32) (v3 : Int32) (v4 : Int32) (v5 : Int32) (v6 : Int32) (I : IT) (J : JT) (P : Int32 → IT → JT → Prop) : Prop :=
  (SemZ g (d - 1) M_X7_canTell [.ref (ga g 0), .int v1, .int v2, .int v3, .int v4] I J (fun r6 I6 J6 => ((r6 = false → P (-1) I6 J6) ∧ (r6 = true → ((v6 < 1 → P (-1) I6 J6) ∧ (¬ v6 < 1 → ((v6 ≤ 24 → (SemI g (d - 1) M_X7_refusalOf [.ref (ga g 0), .int v3, .int v4, .int v5, .int v6] I6 J6 (fun r35 I35 J35 => ((0 ≤ r35 → (vp_in v3 4 ∧ (SemZ g (d - 1) M_X4_holdsWords [.ref (ga g (110 + 2 * v3.toNatClampNeg)), .int v5, .int v6, .int 1] I35 J35 (fun r63 I63 J63 => ((r63 = true → (SemV g (d - 1) M_X6_board [.ref (ga g 96), .ref (ga g 3), .int v1] I63 J63 (fun I87 J87 => (Lp_X7_log_94 g d v2 v5 v6 (110 + 2 * v3.toNatClampNeg) v5 I87 J87 P)))) ∧ (r63 = false → P (-2) I63 J63)))))) ∧ (¬ 0 ≤ r35 → P r35 I35 J35))))) ∧ (¬ v6 ≤ 24 → P (-1) I6 J6))))))))
set_option maxRecDepth 4000 in
theorem w_X7_log {g : GT} {d : Nat} {v1 : Int32} {v2 : Int32} {v3 : Int32} {v4 : Int32} {v5 : Int32} {v6 : Int32} {I : IT} {J : JT} {P : Int32 → IT → JT → Prop} (hd : 1 ≤ d) (hv : VC_X7_log g d v1 v2 v3 v4 v5 v6 I J P) : SemI g d M_X7_log [.ref (ga g 0), .int v1, .int v2, .int v3, .int v4, .int v5, .int v6] I J P := by
  unfold VC_X7_log at hv
  refine sem_intro (by decide +kernel) rfl (Nat.le_of_ble_eq_true rfl) ?_
  show AW _ 0 0 0 [(0, .ref (ga g 0)), (1, .int v1), (2, .int v2), (3, .int v3), (4, .int v4), (5, .int v5), (6, .int v6)] [] (cW g I J)
  refine a_aload_n 0 dX7_log_0 rfl rfl ?_
  refine a_iload_n 1 dX7_log_1 rfl rfl ?_
  refine a_iload_n 2 dX7_log_2 rfl rfl ?_
  refine a_iload_n 3 dX7_log_3 rfl rfl ?_
  refine a_iload 4 dX7_log_4 rfl ?_
  refine c_VZ (As := [.int v1, .int v2, .int v3, .int v4]) (rest := []) hv K_X7_271 sh_0 rfl rfl rfl (Nat.le_of_ble_eq_true rfl) (rok (by omega) (Nat.le_of_ble_eq_true rfl)) ⟨Nat.zero_le _, Nat.zero_le _⟩ dX7_log_6 (fun r6 I6 J6 hv => ?_)
  refine a_ifz_eq 25 dX7_log_9 rfl (fun hc => ?_) (fun hc => ?_)
  · replace hv := hv.1 hc
    refine a_iconst (v := (-1)) dX7_log_25 (by decide) ?_
    exact a_iret rfl dX7_log_26 hv
  · replace hv := hv.2 hc
    refine a_iload 6 dX7_log_12 rfl ?_
    refine a_iconst (v := 1) dX7_log_14 (by decide) ?_
    refine a_icmp_lt 25 dX7_log_15 rfl (fun hc => ?_) (fun hc => ?_)
    · replace hv := hv.1 hc
      refine a_iconst (v := (-1)) dX7_log_25 (by decide) ?_
      exact a_iret rfl dX7_log_26 hv
    · replace hv := hv.2 hc
      refine a_iload 6 dX7_log_18 rfl ?_
      refine a_bipush (v := 24) dX7_log_20 (by decide) ?_
      refine a_icmp_le 27 dX7_log_22 rfl (fun hc => ?_) (fun hc => ?_)
      · replace hv := hv.1 hc
        refine a_aload_n 0 dX7_log_27 rfl rfl ?_
        refine a_iload_n 3 dX7_log_28 rfl rfl ?_
        refine a_iload 4 dX7_log_29 rfl ?_
        refine a_iload 5 dX7_log_31 rfl ?_
        refine a_iload 6 dX7_log_33 rfl ?_
        refine c_VI (As := [.int v3, .int v4, .int v5, .int v6]) (rest := []) hv K_X7_248 sh_0 rfl rfl rfl (Nat.le_of_ble_eq_true rfl) (rok (by omega) (Nat.le_of_ble_eq_true rfl)) ⟨Nat.zero_le _, Nat.zero_le _⟩ dX7_log_35 (fun r35 I35 J35 hv => ?_)
        refine a_istore [(7, .int r35), (0, .ref (ga g 0)), (1, .int v1), (2, .int v2), (3, .int v3), (4, .int v4), (5, .int v5), (6, .int v6)] dX7_log_38 (Nat.le_of_ble_eq_true rfl) rfl ?_
        refine a_iload 0 dX7_log_40 rfl ?_
        refine a_if_ge 48 dX7_log_42 rfl (fun hc => ?_) (fun hc => ?_)
        · replace hv := hv.1 hc
          refine a_aload_n 1 dX7_log_48 rfl rfl ?_
          refine a_getR (r := 78) G_X7_58 sh_0 rfl dX7_log_49 ?_
          refine a_iload_n 4 dX7_log_52 rfl rfl ?_
          have hi53 := hv.1
          refine a_aald (r := (110 + 2 * v3.toNatClampNeg)) sh_78 (by decide) hi53 (r_78 hi53) dX7_log_53 ?_
          replace hv := hv.2
          refine a_astore [(8, .ref (ga g (110 + 2 * v3.toNatClampNeg))), (7, .int r35), (0, .ref (ga g 0)), (1, .int v1), (2, .int v2), (3, .int v3), (4, .int v4), (5, .int v5), (6, .int v6)] dX7_log_54 (Nat.le_of_ble_eq_true rfl) rfl ?_
          refine a_aload 0 dX7_log_56 rfl ?_
          refine a_iload 7 dX7_log_58 rfl ?_
          refine a_iload 8 dX7_log_60 rfl ?_
          refine a_iconst (v := 1) dX7_log_62 (by decide) ?_
          refine c_VZ (As := [.int v5, .int v6, .int 1]) (rest := []) hv K_X7_275 (o_78 hi53).1 rfl rfl rfl (Nat.le_of_ble_eq_true rfl) (rok (by omega) (Nat.le_of_ble_eq_true rfl)) ⟨Nat.zero_le _, Nat.zero_le _⟩ dX7_log_63 (fun r63 I63 J63 hv => ?_)
          refine a_ifz_ne 72 dX7_log_66 rfl (fun hc => ?_) (fun hc => ?_)
          · replace hv := hv.1 hc
            refine a_aload_n 2 dX7_log_72 rfl rfl ?_
            refine a_getR (r := 72) G_X7_45 sh_0 rfl dX7_log_73 ?_
            refine a_iconst (v := 0) dX7_log_76 (by decide) ?_
            refine a_aald (r := 96) sh_72 (by decide) (by unfold vp_in; decide) rfl dX7_log_77 ?_
            refine a_astore [(9, .ref (ga g 96)), (8, .ref (ga g (110 + 2 * v3.toNatClampNeg))), (7, .int r35), (0, .ref (ga g 0)), (1, .int v1), (2, .int v2), (3, .int v3), (4, .int v4), (5, .int v5), (6, .int v6)] dX7_log_78 (Nat.le_of_ble_eq_true rfl) rfl ?_
            refine a_aload 0 dX7_log_80 rfl ?_
            refine a_aload_n 3 dX7_log_82 rfl rfl ?_
            refine a_getR (r := 3) G_X7_19 sh_0 rfl dX7_log_83 ?_
            refine a_iload_n 4 dX7_log_86 rfl rfl ?_
            refine c_VV (As := [.ref (ga g 3), .int v1]) (rest := []) hv K_X7_174 sh_96 rfl rfl rfl (Nat.le_of_ble_eq_true rfl) (rok (by omega) (Nat.le_of_ble_eq_true rfl)) ⟨Nat.zero_le _, Nat.zero_le _⟩ dX7_log_87 (fun I87 J87 hv => ?_)
            refine a_iload 8 dX7_log_90 rfl ?_
            refine a_istore [(10, .int v5), (9, .ref (ga g 96)), (8, .ref (ga g (110 + 2 * v3.toNatClampNeg))), (7, .int r35), (0, .ref (ga g 0)), (1, .int v1), (2, .int v2), (3, .int v3), (4, .int v4), (5, .int v5), (6, .int v6)] dX7_log_92 (Nat.le_of_ble_eq_true rfl) rfl ?_
            exact a_sub [6, 9, 10, 2, 1, 0] rfl hv
          · replace hv := hv.2 hc
            refine a_bipush (v := (-2)) dX7_log_69 (by decide) ?_
            exact a_iret rfl dX7_log_71 hv
        · replace hv := hv.2 hc
          refine a_iload 0 dX7_log_45 rfl ?_
          exact a_iret rfl dX7_log_47 hv
      · replace hv := hv.2 hc
        refine a_iconst (v := (-1)) dX7_log_25 (by decide) ?_
        exact a_iret rfl dX7_log_26 hv
def VC_X7_rows (g : GT) (d : Nat) (v1 : Int32) (v2 : Int32) (v3 : Int32) (v4 : Int32) (v5 : Int32) (v6 : Int32) (v7 : Int32) (I : IT) (J : JT) (P : Int32 → IT → JT → Prop) : Prop :=
  (SemZ g (d - 1) M_X7_canTell [.ref (ga g 0), .int v1, .int v2, .int v3, .int v4] I J (fun r6 I6 J6 => ((r6 = false → P (-1) I6 J6) ∧ (r6 = true → ((v6 < 1 → P (-1) I6 J6) ∧ (¬ v6 < 1 → ((6 < v6 → P (-1) I6 J6) ∧ (¬ 6 < v6 → (SemZ g (d - 1) M_X7_isPart [.int v7] I6 J6 (fun r27 I27 J27 => ((r27 = true → (SemI g (d - 1) M_X7_refusalOf [.ref (ga g 0), .int v3, .int v4, .int v5, .int v6] I27 J27 (fun r43 I43 J43 => ((0 ≤ r43 → (SemV g (d - 1) M_X6_board [.ref (ga g 96), .ref (ga g 3), .int v1] I43 J43 (fun I67 J67 => ((¬ v7 = 0 → (vp_in v3 4 ∧ (SemI g (d - 1) M_X7_firstRow [.ref (ga g 0), .int 0, .int 0, .int v2, .ref (ga g (110 + 2 * v3.toNatClampNeg)), .int v5, .int v6] I67 J67 (fun r108 I108 J108 => P r108 I108 J108)))) ∧ (v7 = 0 → (vp_in v3 4 ∧ (SemI g (d - 1) M_X7_countRows [.ref (ga g 0), .int 0, .int v2, .ref (ga g (110 + 2 * v3.toNatClampNeg)), .int v5, .int v6] I67 J67 (fun r88 I88 J88 => P r88 I88 J88)))))))) ∧ (¬ 0 ≤ r43 → P r43 I43 J43))))) ∧ (r27 = false → P (-1) I27 J27))))))))))))
set_option maxRecDepth 4000 in
theorem w_X7_rows {g : GT} {d : Nat} {v1 : Int32} {v2 : Int32} {v3 : Int32} {v4 : Int32} {v5 : Int32} {v6 : Int32} {v7 : Int32} {I : IT} {J : JT} {P : Int32 → IT → JT → Prop} (hd : 1 ≤ d) (hv : VC_X7_rows g d v1 v2 v3 v4 v5 v6 v7 I J P) : SemI g d M_X7_rows [.ref (ga g 0), .int v1, .int v2, .int v3, .int v4, .int v5, .int v6, .int v7] I J P := by
  unfold VC_X7_rows at hv
  refine sem_intro (by decide +kernel) rfl (Nat.le_of_ble_eq_true rfl) ?_
  show AW _ 0 0 0 [(0, .ref (ga g 0)), (1, .int v1), (2, .int v2), (3, .int v3), (4, .int v4), (5, .int v5), (6, .int v6), (7, .int v7)] [] (cW g I J)
  refine a_aload_n 0 dX7_rows_0 rfl rfl ?_
  refine a_iload_n 1 dX7_rows_1 rfl rfl ?_
  refine a_iload_n 2 dX7_rows_2 rfl rfl ?_
  refine a_iload_n 3 dX7_rows_3 rfl rfl ?_
  refine a_iload 4 dX7_rows_4 rfl ?_
  refine c_VZ (As := [.int v1, .int v2, .int v3, .int v4]) (rest := []) hv K_X7_271 sh_0 rfl rfl rfl (Nat.le_of_ble_eq_true rfl) (rok (by omega) (Nat.le_of_ble_eq_true rfl)) ⟨Nat.zero_le _, Nat.zero_le _⟩ dX7_rows_6 (fun r6 I6 J6 hv => ?_)
  refine a_ifz_eq 33 dX7_rows_9 rfl (fun hc => ?_) (fun hc => ?_)
  · replace hv := hv.1 hc
    refine a_iconst (v := (-1)) dX7_rows_33 (by decide) ?_
    exact a_iret rfl dX7_rows_34 hv
  · replace hv := hv.2 hc
    refine a_iload 6 dX7_rows_12 rfl ?_
    refine a_iconst (v := 1) dX7_rows_14 (by decide) ?_
    refine a_icmp_lt 33 dX7_rows_15 rfl (fun hc => ?_) (fun hc => ?_)
    · replace hv := hv.1 hc
      refine a_iconst (v := (-1)) dX7_rows_33 (by decide) ?_
      exact a_iret rfl dX7_rows_34 hv
    · replace hv := hv.2 hc
      refine a_iload 6 dX7_rows_18 rfl ?_
      refine a_bipush (v := 6) dX7_rows_20 (by decide) ?_
      refine a_icmp_gt 33 dX7_rows_22 rfl (fun hc => ?_) (fun hc => ?_)
      · replace hv := hv.1 hc
        refine a_iconst (v := (-1)) dX7_rows_33 (by decide) ?_
        exact a_iret rfl dX7_rows_34 hv
      · replace hv := hv.2 hc
        refine a_iload 7 dX7_rows_25 rfl ?_
        refine c_SZ (As := [.int v7]) (rest := []) hv K_X7_215 rfl rfl (Nat.le_of_ble_eq_true rfl) (rok (by omega) (Nat.le_of_ble_eq_true rfl)) ⟨Nat.zero_le _, Nat.zero_le _⟩ dX7_rows_27 (fun r27 I27 J27 hv => ?_)
        refine a_ifz_ne 35 dX7_rows_30 rfl (fun hc => ?_) (fun hc => ?_)
        · replace hv := hv.1 hc
          refine a_aload_n 0 dX7_rows_35 rfl rfl ?_
          refine a_iload_n 3 dX7_rows_36 rfl rfl ?_
          refine a_iload 4 dX7_rows_37 rfl ?_
          refine a_iload 5 dX7_rows_39 rfl ?_
          refine a_iload 6 dX7_rows_41 rfl ?_
          refine c_VI (As := [.int v3, .int v4, .int v5, .int v6]) (rest := []) hv K_X7_248 sh_0 rfl rfl rfl (Nat.le_of_ble_eq_true rfl) (rok (by omega) (Nat.le_of_ble_eq_true rfl)) ⟨Nat.zero_le _, Nat.zero_le _⟩ dX7_rows_43 (fun r43 I43 J43 hv => ?_)
          refine a_istore [(8, .int r43), (0, .ref (ga g 0)), (1, .int v1), (2, .int v2), (3, .int v3), (4, .int v4), (5, .int v5), (6, .int v6), (7, .int v7)] dX7_rows_46 (Nat.le_of_ble_eq_true rfl) rfl ?_
          refine a_iload 0 dX7_rows_48 rfl ?_
          refine a_if_ge 56 dX7_rows_50 rfl (fun hc => ?_) (fun hc => ?_)
          · replace hv := hv.1 hc
            refine a_aload_n 1 dX7_rows_56 rfl rfl ?_
            refine a_getR (r := 72) G_X7_45 sh_0 rfl dX7_rows_57 ?_
            refine a_iconst (v := 0) dX7_rows_60 (by decide) ?_
            refine a_aald (r := 96) sh_72 (by decide) (by unfold vp_in; decide) rfl dX7_rows_61 ?_
            refine a_aload_n 1 dX7_rows_62 rfl rfl ?_
            refine a_getR (r := 3) G_X7_19 sh_0 rfl dX7_rows_63 ?_
            refine a_iload_n 2 dX7_rows_66 rfl rfl ?_
            refine c_VV (As := [.ref (ga g 3), .int v1]) (rest := []) hv K_X7_174 sh_96 rfl rfl rfl (Nat.le_of_ble_eq_true rfl) (rok (by omega) (Nat.le_of_ble_eq_true rfl)) ⟨Nat.zero_le _, Nat.zero_le _⟩ dX7_rows_67 (fun I67 J67 hv => ?_)
            refine a_iload 8 dX7_rows_70 rfl ?_
            refine a_if_ne 94 dX7_rows_72 rfl (fun hc => ?_) (fun hc => ?_)
            · replace hv := hv.1 hc
              refine a_aload_n 1 dX7_rows_94 rfl rfl ?_
              refine a_iconst (v := 0) dX7_rows_95 (by decide) ?_
              refine a_iconst (v := 0) dX7_rows_96 (by decide) ?_
              refine a_iload_n 3 dX7_rows_97 rfl rfl ?_
              refine a_aload_n 1 dX7_rows_98 rfl rfl ?_
              refine a_getR (r := 78) G_X7_58 sh_0 rfl dX7_rows_99 ?_
              refine a_iload_n 4 dX7_rows_102 rfl rfl ?_
              have hi103 := hv.1
              refine a_aald (r := (110 + 2 * v3.toNatClampNeg)) sh_78 (by decide) hi103 (r_78 hi103) dX7_rows_103 ?_
              replace hv := hv.2
              refine a_iload 6 dX7_rows_104 rfl ?_
              refine a_iload 7 dX7_rows_106 rfl ?_
              refine c_VI (As := [.int 0, .int 0, .int v2, .ref (ga g (110 + 2 * v3.toNatClampNeg)), .int v5, .int v6]) (rest := []) hv K_X7_285 sh_0 rfl rfl rfl (Nat.le_of_ble_eq_true rfl) (rok (by omega) (Nat.le_of_ble_eq_true rfl)) ⟨Nat.zero_le _, Nat.zero_le _⟩ dX7_rows_108 (fun r108 I108 J108 hv => ?_)
              exact a_iret rfl dX7_rows_111 hv
            · replace hv := hv.2 hc
              refine a_aload_n 1 dX7_rows_75 rfl rfl ?_
              refine a_iconst (v := 0) dX7_rows_76 (by decide) ?_
              refine a_iload_n 3 dX7_rows_77 rfl rfl ?_
              refine a_aload_n 1 dX7_rows_78 rfl rfl ?_
              refine a_getR (r := 78) G_X7_58 sh_0 rfl dX7_rows_79 ?_
              refine a_iload_n 4 dX7_rows_82 rfl rfl ?_
              have hi83 := hv.1
              refine a_aald (r := (110 + 2 * v3.toNatClampNeg)) sh_78 (by decide) hi83 (r_78 hi83) dX7_rows_83 ?_
              replace hv := hv.2
              refine a_iload 6 dX7_rows_84 rfl ?_
              refine a_iload 7 dX7_rows_86 rfl ?_
              refine c_VI (As := [.int 0, .int v2, .ref (ga g (110 + 2 * v3.toNatClampNeg)), .int v5, .int v6]) (rest := []) hv K_X7_281 sh_0 rfl rfl rfl (Nat.le_of_ble_eq_true rfl) (rok (by omega) (Nat.le_of_ble_eq_true rfl)) ⟨Nat.zero_le _, Nat.zero_le _⟩ dX7_rows_88 (fun r88 I88 J88 hv => ?_)
              refine a_goto 111 dX7_rows_91 rfl ?_
              exact a_iret rfl dX7_rows_111 hv
          · replace hv := hv.2 hc
            refine a_iload 0 dX7_rows_53 rfl ?_
            exact a_iret rfl dX7_rows_55 hv
        · replace hv := hv.2 hc
          refine a_iconst (v := (-1)) dX7_rows_33 (by decide) ?_
          exact a_iret rfl dX7_rows_34 hv
def VC_X7_kinds (g : GT) (d : Nat) (v1 : Int32) (v2 : Int32) (v3 : Int32) (v4 : Int32) (v5 : Int32) (v6 : Int32) (v7 : Int32) (I : IT) (J : JT) (P : Int32 → IT → JT → Prop) : Prop :=
  (SemZ g (d - 1) M_X7_canTell [.ref (ga g 0), .int v1, .int v2, .int v3, .int v4] I J (fun r6 I6 J6 => ((r6 = false → P (-1) I6 J6) ∧ (r6 = true → ((v6 < 1 → P (-1) I6 J6) ∧ (¬ v6 < 1 → ((10 < v6 → P (-1) I6 J6) ∧ (¬ 10 < v6 → (SemZ g (d - 1) M_X7_isPart [.int v7] I6 J6 (fun r27 I27 J27 => ((r27 = true → (SemI g (d - 1) M_X7_refusalOf [.ref (ga g 0), .int v3, .int v4, .int v5, .int (2 * v6)] I27 J27 (fun r45 I45 J45 => ((0 ≤ r45 → (vp_in v3 4 ∧ (SemZ g (d - 1) M_X4_holdsWords [.ref (ga g (110 + 2 * v3.toNatClampNeg)), .int v5, .int v6, .int 2] I45 J45 (fun r69 I69 J69 => ((r69 = true → (vp_in v3 4 ∧ (SemI g (d - 1) M_X7_fittingKinds [.ref (ga g 0), .int v1, .int v2, .ref (ga g (110 + 2 * v3.toNatClampNeg)), .int v5, .int v6] I69 J69 (fun r91 I91 J91 => ((¬ v7 = 0 → (SemI g (d - 1) M_X7_wordToTry [.ref (ga g 0), .int r91, .int v2] I91 J91 (fun r110 I110 J110 => P r110 I110 J110))) ∧ (v7 = 0 → P r91 I91 J91)))))) ∧ (r69 = false → P (-2) I69 J69)))))) ∧ (¬ 0 ≤ r45 → P r45 I45 J45))))) ∧ (r27 = false → P (-1) I27 J27))))))))))))
set_option maxRecDepth 4000 in
theorem w_X7_kinds {g : GT} {d : Nat} {v1 : Int32} {v2 : Int32} {v3 : Int32} {v4 : Int32} {v5 : Int32} {v6 : Int32} {v7 : Int32} {I : IT} {J : JT} {P : Int32 → IT → JT → Prop} (hd : 1 ≤ d) (hv : VC_X7_kinds g d v1 v2 v3 v4 v5 v6 v7 I J P) : SemI g d M_X7_kinds [.ref (ga g 0), .int v1, .int v2, .int v3, .int v4, .int v5, .int v6, .int v7] I J P := by
  unfold VC_X7_kinds at hv
  refine sem_intro (by decide +kernel) rfl (Nat.le_of_ble_eq_true rfl) ?_
  show AW _ 0 0 0 [(0, .ref (ga g 0)), (1, .int v1), (2, .int v2), (3, .int v3), (4, .int v4), (5, .int v5), (6, .int v6), (7, .int v7)] [] (cW g I J)
  refine a_aload_n 0 dX7_kinds_0 rfl rfl ?_
  refine a_iload_n 1 dX7_kinds_1 rfl rfl ?_
  refine a_iload_n 2 dX7_kinds_2 rfl rfl ?_
  refine a_iload_n 3 dX7_kinds_3 rfl rfl ?_
  refine a_iload 4 dX7_kinds_4 rfl ?_
  refine c_VZ (As := [.int v1, .int v2, .int v3, .int v4]) (rest := []) hv K_X7_271 sh_0 rfl rfl rfl (Nat.le_of_ble_eq_true rfl) (rok (by omega) (Nat.le_of_ble_eq_true rfl)) ⟨Nat.zero_le _, Nat.zero_le _⟩ dX7_kinds_6 (fun r6 I6 J6 hv => ?_)
  refine a_ifz_eq 33 dX7_kinds_9 rfl (fun hc => ?_) (fun hc => ?_)
  · replace hv := hv.1 hc
    refine a_iconst (v := (-1)) dX7_kinds_33 (by decide) ?_
    exact a_iret rfl dX7_kinds_34 hv
  · replace hv := hv.2 hc
    refine a_iload 6 dX7_kinds_12 rfl ?_
    refine a_iconst (v := 1) dX7_kinds_14 (by decide) ?_
    refine a_icmp_lt 33 dX7_kinds_15 rfl (fun hc => ?_) (fun hc => ?_)
    · replace hv := hv.1 hc
      refine a_iconst (v := (-1)) dX7_kinds_33 (by decide) ?_
      exact a_iret rfl dX7_kinds_34 hv
    · replace hv := hv.2 hc
      refine a_iload 6 dX7_kinds_18 rfl ?_
      refine a_bipush (v := 10) dX7_kinds_20 (by decide) ?_
      refine a_icmp_gt 33 dX7_kinds_22 rfl (fun hc => ?_) (fun hc => ?_)
      · replace hv := hv.1 hc
        refine a_iconst (v := (-1)) dX7_kinds_33 (by decide) ?_
        exact a_iret rfl dX7_kinds_34 hv
      · replace hv := hv.2 hc
        refine a_iload 7 dX7_kinds_25 rfl ?_
        refine c_SZ (As := [.int v7]) (rest := []) hv K_X7_215 rfl rfl (Nat.le_of_ble_eq_true rfl) (rok (by omega) (Nat.le_of_ble_eq_true rfl)) ⟨Nat.zero_le _, Nat.zero_le _⟩ dX7_kinds_27 (fun r27 I27 J27 hv => ?_)
        refine a_ifz_ne 35 dX7_kinds_30 rfl (fun hc => ?_) (fun hc => ?_)
        · replace hv := hv.1 hc
          refine a_aload_n 0 dX7_kinds_35 rfl rfl ?_
          refine a_iload_n 3 dX7_kinds_36 rfl rfl ?_
          refine a_iload 4 dX7_kinds_37 rfl ?_
          refine a_iload 5 dX7_kinds_39 rfl ?_
          refine a_iconst (v := 2) dX7_kinds_41 (by decide) ?_
          refine a_iload 6 dX7_kinds_42 rfl ?_
          refine a_imul dX7_kinds_44 ?_
          refine c_VI (As := [.int v3, .int v4, .int v5, .int (2 * v6)]) (rest := []) hv K_X7_248 sh_0 rfl rfl rfl (Nat.le_of_ble_eq_true rfl) (rok (by omega) (Nat.le_of_ble_eq_true rfl)) ⟨Nat.zero_le _, Nat.zero_le _⟩ dX7_kinds_45 (fun r45 I45 J45 hv => ?_)
          refine a_istore [(8, .int r45), (0, .ref (ga g 0)), (1, .int v1), (2, .int v2), (3, .int v3), (4, .int v4), (5, .int v5), (6, .int v6), (7, .int v7)] dX7_kinds_48 (Nat.le_of_ble_eq_true rfl) rfl ?_
          refine a_iload 0 dX7_kinds_50 rfl ?_
          refine a_if_ge 58 dX7_kinds_52 rfl (fun hc => ?_) (fun hc => ?_)
          · replace hv := hv.1 hc
            refine a_aload_n 1 dX7_kinds_58 rfl rfl ?_
            refine a_getR (r := 78) G_X7_58 sh_0 rfl dX7_kinds_59 ?_
            refine a_iload_n 4 dX7_kinds_62 rfl rfl ?_
            have hi63 := hv.1
            refine a_aald (r := (110 + 2 * v3.toNatClampNeg)) sh_78 (by decide) hi63 (r_78 hi63) dX7_kinds_63 ?_
            replace hv := hv.2
            refine a_iload 6 dX7_kinds_64 rfl ?_
            refine a_iload 7 dX7_kinds_66 rfl ?_
            refine a_iconst (v := 2) dX7_kinds_68 (by decide) ?_
            refine c_VZ (As := [.int v5, .int v6, .int 2]) (rest := []) hv K_X7_275 (o_78 hi63).1 rfl rfl rfl (Nat.le_of_ble_eq_true rfl) (rok (by omega) (Nat.le_of_ble_eq_true rfl)) ⟨Nat.zero_le _, Nat.zero_le _⟩ dX7_kinds_69 (fun r69 I69 J69 hv => ?_)
            refine a_ifz_ne 78 dX7_kinds_72 rfl (fun hc => ?_) (fun hc => ?_)
            · replace hv := hv.1 hc
              refine a_aload_n 1 dX7_kinds_78 rfl rfl ?_
              refine a_iload_n 2 dX7_kinds_79 rfl rfl ?_
              refine a_iload_n 3 dX7_kinds_80 rfl rfl ?_
              refine a_aload_n 1 dX7_kinds_81 rfl rfl ?_
              refine a_getR (r := 78) G_X7_58 sh_0 rfl dX7_kinds_82 ?_
              refine a_iload_n 4 dX7_kinds_85 rfl rfl ?_
              have hi86 := hv.1
              refine a_aald (r := (110 + 2 * v3.toNatClampNeg)) sh_78 (by decide) hi86 (r_78 hi86) dX7_kinds_86 ?_
              replace hv := hv.2
              refine a_iload 6 dX7_kinds_87 rfl ?_
              refine a_iload 7 dX7_kinds_89 rfl ?_
              refine c_VI (As := [.int v1, .int v2, .ref (ga g (110 + 2 * v3.toNatClampNeg)), .int v5, .int v6]) (rest := []) hv K_X7_289 sh_0 rfl rfl rfl (Nat.le_of_ble_eq_true rfl) (rok (by omega) (Nat.le_of_ble_eq_true rfl)) ⟨Nat.zero_le _, Nat.zero_le _⟩ dX7_kinds_91 (fun r91 I91 J91 hv => ?_)
              refine a_istore [(9, .int r91), (8, .int r45), (0, .ref (ga g 0)), (1, .int v1), (2, .int v2), (3, .int v3), (4, .int v4), (5, .int v5), (6, .int v6), (7, .int v7)] dX7_kinds_94 (Nat.le_of_ble_eq_true rfl) rfl ?_
              refine a_iload 9 dX7_kinds_96 rfl ?_
              refine a_if_ne 106 dX7_kinds_98 rfl (fun hc => ?_) (fun hc => ?_)
              · replace hv := hv.1 hc
                refine a_aload_n 2 dX7_kinds_106 rfl rfl ?_
                refine a_iload 0 dX7_kinds_107 rfl ?_
                refine a_iload_n 4 dX7_kinds_109 rfl rfl ?_
                refine c_VI (As := [.int r91, .int v2]) (rest := []) hv K_X7_292 sh_0 rfl rfl rfl (Nat.le_of_ble_eq_true rfl) (rok (by omega) (Nat.le_of_ble_eq_true rfl)) ⟨Nat.zero_le _, Nat.zero_le _⟩ dX7_kinds_110 (fun r110 I110 J110 hv => ?_)
                exact a_iret rfl dX7_kinds_113 hv
              · replace hv := hv.2 hc
                refine a_iload 0 dX7_kinds_101 rfl ?_
                refine a_goto 113 dX7_kinds_103 rfl ?_
                exact a_iret rfl dX7_kinds_113 hv
            · replace hv := hv.2 hc
              refine a_bipush (v := (-2)) dX7_kinds_75 (by decide) ?_
              exact a_iret rfl dX7_kinds_77 hv
          · replace hv := hv.2 hc
            refine a_iload 0 dX7_kinds_55 rfl ?_
            exact a_iret rfl dX7_kinds_57 hv
        · replace hv := hv.2 hc
          refine a_iconst (v := (-1)) dX7_kinds_33 (by decide) ?_
          exact a_iret rfl dX7_kinds_34 hv
def VC_X7_fog (g : GT) (d : Nat) (v1 : Int32) (v2 : Int32) (v3 : Int32) (v4 : Int32) (v5 : Int32) (v6 : Int32) (v7 : Int32) (I : IT) (J : JT) (P : Int32 → IT → JT → Prop) : Prop :=
  (SemZ g (d - 1) M_X7_canTell [.ref (ga g 0), .int v1, .int v2, .int v3, .int 0] I J (fun r5 I5 J5 => ((r5 = false → P (-1) I5 J5) ∧ (r5 = true → ((v4 < 1 → P (-1) I5 J5) ∧ (¬ v4 < 1 → ((6 < v4 → P (-1) I5 J5) ∧ (¬ 6 < v4 → (SemZ g (d - 1) M_X3_has [.ref (ga g 4), .int v5] I5 J5 (fun r33 I33 J33 => ((r33 = false → P (-1) I33 J33) ∧ (r33 = true → ((v6 < 0 → P (-1) I33 J33) ∧ (¬ v6 < 0 → ((10 < v6 → P (-1) I33 J33) ∧ (¬ 10 < v6 → (SemZ g (d - 1) M_X7_isPart [.int v7] I33 J33 (fun r53 I53 J53 => ((r53 = true → (SemI g (d - 1) M_X7_refusalOf [.ref (ga g 0), .int v3, .int 0, .int 0, .int v4] I53 J53 (fun r67 I67 J67 => ((0 ≤ r67 → (vp_in v3 4 ∧ (SemZ g (d - 1) M_X4_holdsWords [.ref (ga g (110 + 2 * v3.toNatClampNeg)), .int 0, .int v4, .int 1] I67 J67 (fun r90 I90 J90 => ((r90 = true → (SemV g (d - 1) M_X6_board [.ref (ga g 96), .ref (ga g 3), .int v1] I90 J90 (fun I110 J110 => (vp_in v3 4 ∧ (SemI g (d - 1) M_X7_fogged [.ref (ga g 0), .int 0, .int v2, .ref (ga g (110 + 2 * v3.toNatClampNeg)), .int v4, .int v5, .int v6] I110 J110 (fun r128 I128 J128 => (SemI g (d - 1) M_X7_tenToThe [.int v4] I128 J128 (fun r135 I135 J135 => (SemI g (d - 1) M_X7_greatestDivisor [.int r128, .int r135] I135 J135 (fun r144 I144 J144 => ((0 < r144 → ((¬ v7 = 0 → (¬ r144 = 0 ∧ P (r135 / r144) I144 J144)) ∧ (v7 = 0 → (¬ r144 = 0 ∧ P (r128 / r144) I144 J144)))) ∧ (¬ 0 < r144 → P (-1) I144 J144)))))))))))) ∧ (r90 = false → P (-2) I90 J90)))))) ∧ (¬ 0 ≤ r67 → P r67 I67 J67))))) ∧ (r53 = false → P (-1) I53 J53))))))))))))))))))))
set_option maxRecDepth 4000 in
theorem w_X7_fog {g : GT} {d : Nat} {v1 : Int32} {v2 : Int32} {v3 : Int32} {v4 : Int32} {v5 : Int32} {v6 : Int32} {v7 : Int32} {I : IT} {J : JT} {P : Int32 → IT → JT → Prop} (hd : 1 ≤ d) (hv : VC_X7_fog g d v1 v2 v3 v4 v5 v6 v7 I J P) : SemI g d M_X7_fog [.ref (ga g 0), .int v1, .int v2, .int v3, .int v4, .int v5, .int v6, .int v7] I J P := by
  unfold VC_X7_fog at hv
  refine sem_intro (by decide +kernel) rfl (Nat.le_of_ble_eq_true rfl) ?_
  show AW _ 0 0 0 [(0, .ref (ga g 0)), (1, .int v1), (2, .int v2), (3, .int v3), (4, .int v4), (5, .int v5), (6, .int v6), (7, .int v7)] [] (cW g I J)
  refine a_aload_n 0 dX7_fog_0 rfl rfl ?_
  refine a_iload_n 1 dX7_fog_1 rfl rfl ?_
  refine a_iload_n 2 dX7_fog_2 rfl rfl ?_
  refine a_iload_n 3 dX7_fog_3 rfl rfl ?_
  refine a_iconst (v := 0) dX7_fog_4 (by decide) ?_
  refine c_VZ (As := [.int v1, .int v2, .int v3, .int 0]) (rest := []) hv K_X7_271 sh_0 rfl rfl rfl (Nat.le_of_ble_eq_true rfl) (rok (by omega) (Nat.le_of_ble_eq_true rfl)) ⟨Nat.zero_le _, Nat.zero_le _⟩ dX7_fog_5 (fun r5 I5 J5 hv => ?_)
  refine a_ifz_eq 59 dX7_fog_8 rfl (fun hc => ?_) (fun hc => ?_)
  · replace hv := hv.1 hc
    refine a_iconst (v := (-1)) dX7_fog_59 (by decide) ?_
    exact a_iret rfl dX7_fog_60 hv
  · replace hv := hv.2 hc
    refine a_iload 4 dX7_fog_11 rfl ?_
    refine a_iconst (v := 1) dX7_fog_13 (by decide) ?_
    refine a_icmp_lt 59 dX7_fog_14 rfl (fun hc => ?_) (fun hc => ?_)
    · replace hv := hv.1 hc
      refine a_iconst (v := (-1)) dX7_fog_59 (by decide) ?_
      exact a_iret rfl dX7_fog_60 hv
    · replace hv := hv.2 hc
      refine a_iload 4 dX7_fog_17 rfl ?_
      refine a_bipush (v := 6) dX7_fog_19 (by decide) ?_
      refine a_icmp_gt 59 dX7_fog_21 rfl (fun hc => ?_) (fun hc => ?_)
      · replace hv := hv.1 hc
        refine a_iconst (v := (-1)) dX7_fog_59 (by decide) ?_
        exact a_iret rfl dX7_fog_60 hv
      · replace hv := hv.2 hc
        refine a_aload_n 0 dX7_fog_24 rfl rfl ?_
        refine a_getR (r := 3) G_X7_19 sh_0 rfl dX7_fog_25 ?_
        refine a_getR (r := 4) G_X7_32 sh_3 rfl dX7_fog_28 ?_
        refine a_iload 5 dX7_fog_31 rfl ?_
        refine c_VZ (As := [.int v5]) (rest := []) hv K_X7_112 sh_4 rfl rfl rfl (Nat.le_of_ble_eq_true rfl) (rok (by omega) (Nat.le_of_ble_eq_true rfl)) ⟨Nat.zero_le _, Nat.zero_le _⟩ dX7_fog_33 (fun r33 I33 J33 hv => ?_)
        refine a_ifz_eq 59 dX7_fog_36 rfl (fun hc => ?_) (fun hc => ?_)
        · replace hv := hv.1 hc
          refine a_iconst (v := (-1)) dX7_fog_59 (by decide) ?_
          exact a_iret rfl dX7_fog_60 hv
        · replace hv := hv.2 hc
          refine a_iload 6 dX7_fog_39 rfl ?_
          refine a_if_lt 59 dX7_fog_41 rfl (fun hc => ?_) (fun hc => ?_)
          · replace hv := hv.1 hc
            refine a_iconst (v := (-1)) dX7_fog_59 (by decide) ?_
            exact a_iret rfl dX7_fog_60 hv
          · replace hv := hv.2 hc
            refine a_iload 6 dX7_fog_44 rfl ?_
            refine a_bipush (v := 10) dX7_fog_46 (by decide) ?_
            refine a_icmp_gt 59 dX7_fog_48 rfl (fun hc => ?_) (fun hc => ?_)
            · replace hv := hv.1 hc
              refine a_iconst (v := (-1)) dX7_fog_59 (by decide) ?_
              exact a_iret rfl dX7_fog_60 hv
            · replace hv := hv.2 hc
              refine a_iload 7 dX7_fog_51 rfl ?_
              refine c_SZ (As := [.int v7]) (rest := []) hv K_X7_215 rfl rfl (Nat.le_of_ble_eq_true rfl) (rok (by omega) (Nat.le_of_ble_eq_true rfl)) ⟨Nat.zero_le _, Nat.zero_le _⟩ dX7_fog_53 (fun r53 I53 J53 hv => ?_)
              refine a_ifz_ne 61 dX7_fog_56 rfl (fun hc => ?_) (fun hc => ?_)
              · replace hv := hv.1 hc
                refine a_aload_n 0 dX7_fog_61 rfl rfl ?_
                refine a_iload_n 3 dX7_fog_62 rfl rfl ?_
                refine a_iconst (v := 0) dX7_fog_63 (by decide) ?_
                refine a_iconst (v := 0) dX7_fog_64 (by decide) ?_
                refine a_iload 4 dX7_fog_65 rfl ?_
                refine c_VI (As := [.int v3, .int 0, .int 0, .int v4]) (rest := []) hv K_X7_248 sh_0 rfl rfl rfl (Nat.le_of_ble_eq_true rfl) (rok (by omega) (Nat.le_of_ble_eq_true rfl)) ⟨Nat.zero_le _, Nat.zero_le _⟩ dX7_fog_67 (fun r67 I67 J67 hv => ?_)
                refine a_istore [(8, .int r67), (0, .ref (ga g 0)), (1, .int v1), (2, .int v2), (3, .int v3), (4, .int v4), (5, .int v5), (6, .int v6), (7, .int v7)] dX7_fog_70 (Nat.le_of_ble_eq_true rfl) rfl ?_
                refine a_iload 0 dX7_fog_72 rfl ?_
                refine a_if_ge 80 dX7_fog_74 rfl (fun hc => ?_) (fun hc => ?_)
                · replace hv := hv.1 hc
                  refine a_aload_n 1 dX7_fog_80 rfl rfl ?_
                  refine a_getR (r := 78) G_X7_58 sh_0 rfl dX7_fog_81 ?_
                  refine a_iload_n 4 dX7_fog_84 rfl rfl ?_
                  have hi85 := hv.1
                  refine a_aald (r := (110 + 2 * v3.toNatClampNeg)) sh_78 (by decide) hi85 (r_78 hi85) dX7_fog_85 ?_
                  replace hv := hv.2
                  refine a_iconst (v := 0) dX7_fog_86 (by decide) ?_
                  refine a_iload 5 dX7_fog_87 rfl ?_
                  refine a_iconst (v := 1) dX7_fog_89 (by decide) ?_
                  refine c_VZ (As := [.int 0, .int v4, .int 1]) (rest := []) hv K_X7_275 (o_78 hi85).1 rfl rfl rfl (Nat.le_of_ble_eq_true rfl) (rok (by omega) (Nat.le_of_ble_eq_true rfl)) ⟨Nat.zero_le _, Nat.zero_le _⟩ dX7_fog_90 (fun r90 I90 J90 hv => ?_)
                  refine a_ifz_ne 99 dX7_fog_93 rfl (fun hc => ?_) (fun hc => ?_)
                  · replace hv := hv.1 hc
                    refine a_aload_n 1 dX7_fog_99 rfl rfl ?_
                    refine a_getR (r := 72) G_X7_45 sh_0 rfl dX7_fog_100 ?_
                    refine a_iconst (v := 0) dX7_fog_103 (by decide) ?_
                    refine a_aald (r := 96) sh_72 (by decide) (by unfold vp_in; decide) rfl dX7_fog_104 ?_
                    refine a_aload_n 1 dX7_fog_105 rfl rfl ?_
                    refine a_getR (r := 3) G_X7_19 sh_0 rfl dX7_fog_106 ?_
                    refine a_iload_n 2 dX7_fog_109 rfl rfl ?_
                    refine c_VV (As := [.ref (ga g 3), .int v1]) (rest := []) hv K_X7_174 sh_96 rfl rfl rfl (Nat.le_of_ble_eq_true rfl) (rok (by omega) (Nat.le_of_ble_eq_true rfl)) ⟨Nat.zero_le _, Nat.zero_le _⟩ dX7_fog_110 (fun I110 J110 hv => ?_)
                    refine a_aload_n 1 dX7_fog_113 rfl rfl ?_
                    refine a_iconst (v := 0) dX7_fog_114 (by decide) ?_
                    refine a_iload_n 3 dX7_fog_115 rfl rfl ?_
                    refine a_aload_n 1 dX7_fog_116 rfl rfl ?_
                    refine a_getR (r := 78) G_X7_58 sh_0 rfl dX7_fog_117 ?_
                    refine a_iload_n 4 dX7_fog_120 rfl rfl ?_
                    have hi121 := hv.1
                    refine a_aald (r := (110 + 2 * v3.toNatClampNeg)) sh_78 (by decide) hi121 (r_78 hi121) dX7_fog_121 ?_
                    replace hv := hv.2
                    refine a_iload 5 dX7_fog_122 rfl ?_
                    refine a_iload 6 dX7_fog_124 rfl ?_
                    refine a_iload 7 dX7_fog_126 rfl ?_
                    refine c_VI (As := [.int 0, .int v2, .ref (ga g (110 + 2 * v3.toNatClampNeg)), .int v4, .int v5, .int v6]) (rest := []) hv K_X7_295 sh_0 rfl rfl rfl (Nat.le_of_ble_eq_true rfl) (rok (by omega) (Nat.le_of_ble_eq_true rfl)) ⟨Nat.zero_le _, Nat.zero_le _⟩ dX7_fog_128 (fun r128 I128 J128 hv => ?_)
                    refine a_istore [(9, .int r128), (8, .int r67), (0, .ref (ga g 0)), (1, .int v1), (2, .int v2), (3, .int v3), (4, .int v4), (5, .int v5), (6, .int v6), (7, .int v7)] dX7_fog_131 (Nat.le_of_ble_eq_true rfl) rfl ?_
                    refine a_iload 6 dX7_fog_133 rfl ?_
                    refine c_SI (As := [.int v4]) (rest := []) hv K_X7_299 rfl rfl (Nat.le_of_ble_eq_true rfl) (rok (by omega) (Nat.le_of_ble_eq_true rfl)) ⟨Nat.zero_le _, Nat.zero_le _⟩ dX7_fog_135 (fun r135 I135 J135 hv => ?_)
                    refine a_istore [(10, .int r135), (9, .int r128), (8, .int r67), (0, .ref (ga g 0)), (1, .int v1), (2, .int v2), (3, .int v3), (4, .int v4), (5, .int v5), (6, .int v6), (7, .int v7)] dX7_fog_138 (Nat.le_of_ble_eq_true rfl) rfl ?_
                    refine a_iload 1 dX7_fog_140 rfl ?_
                    refine a_iload 0 dX7_fog_142 rfl ?_
                    refine c_SI (As := [.int r128, .int r135]) (rest := []) hv K_X7_302 rfl rfl (Nat.le_of_ble_eq_true rfl) (rok (by omega) (Nat.le_of_ble_eq_true rfl)) ⟨Nat.zero_le _, Nat.zero_le _⟩ dX7_fog_144 (fun r144 I144 J144 hv => ?_)
                    refine a_istore [(11, .int r144), (10, .int r135), (9, .int r128), (8, .int r67), (0, .ref (ga g 0)), (1, .int v1), (2, .int v2), (3, .int v3), (4, .int v4), (5, .int v5), (6, .int v6), (7, .int v7)] dX7_fog_147 (Nat.le_of_ble_eq_true rfl) rfl ?_
                    refine a_iload 0 dX7_fog_149 rfl ?_
                    refine a_if_gt 156 dX7_fog_151 rfl (fun hc => ?_) (fun hc => ?_)
                    · replace hv := hv.1 hc
                      refine a_iload 11 dX7_fog_156 rfl ?_
                      refine a_if_ne 166 dX7_fog_158 rfl (fun hc => ?_) (fun hc => ?_)
                      · replace hv := hv.1 hc
                        refine a_iload 1 dX7_fog_166 rfl ?_
                        refine a_iload 0 dX7_fog_168 rfl ?_
                        refine a_idiv dX7_fog_170 hv.1 ?_
                        replace hv := hv.2
                        exact a_iret rfl dX7_fog_171 hv
                      · replace hv := hv.2 hc
                        refine a_iload 2 dX7_fog_161 rfl ?_
                        refine a_goto 168 dX7_fog_163 rfl ?_
                        refine a_iload 0 dX7_fog_168 rfl ?_
                        refine a_idiv dX7_fog_170 hv.1 ?_
                        replace hv := hv.2
                        exact a_iret rfl dX7_fog_171 hv
                    · replace hv := hv.2 hc
                      refine a_iconst (v := (-1)) dX7_fog_154 (by decide) ?_
                      exact a_iret rfl dX7_fog_155 hv
                  · replace hv := hv.2 hc
                    refine a_bipush (v := (-2)) dX7_fog_96 (by decide) ?_
                    exact a_iret rfl dX7_fog_98 hv
                · replace hv := hv.2 hc
                  refine a_iload 0 dX7_fog_77 rfl ?_
                  exact a_iret rfl dX7_fog_79 hv
              · replace hv := hv.2 hc
                refine a_iconst (v := (-1)) dX7_fog_59 (by decide) ?_
                exact a_iret rfl dX7_fog_60 hv
def VC_X7_count (g : GT) (d : Nat) (v1 : Int32) (I : IT) (J : JT) (P : Int32 → IT → JT → Prop) : Prop :=
  ((v1 = 0 → P (I 3 6) I J) ∧ (v1 = 1 → P (I 4 2) I J) ∧ (v1 = 2 → P (I 4 1) I J) ∧ (v1 = 3 → P (I 3 7) I J) ∧ (v1 = 4 → (SemI g (d - 1) M_X2_allWorm [.ref (ga g 3)] I J (fun r98 I98 J98 => P r98 I98 J98))) ∧ (v1 = 5 → (SemI g (d - 1) M_X2_allCredit [.ref (ga g 3)] I J (fun r106 I106 J106 => P r106 I106 J106))) ∧ (v1 = 6 → (SemI g (d - 1) M_X3_harbours [.ref (ga g 4)] I J (fun r117 I117 J117 => P r117 I117 J117))) ∧ (v1 = 7 → (SemI g (d - 1) M_X2_harboured [.ref (ga g 3)] I J (fun r125 I125 J125 => P r125 I125 J125))) ∧ (v1 = 8 → P (I 20 3) I J) ∧ (v1 = 9 → P (I 1 1) I J) ∧ (¬ v1 = 0 ∧ ¬ v1 = 1 ∧ ¬ v1 = 2 ∧ ¬ v1 = 3 ∧ ¬ v1 = 4 ∧ ¬ v1 = 5 ∧ ¬ v1 = 6 ∧ ¬ v1 = 7 ∧ ¬ v1 = 8 ∧ ¬ v1 = 9 → P (-1) I J))
set_option maxRecDepth 4000 in
theorem w_X7_count {g : GT} {d : Nat} {v1 : Int32} {I : IT} {J : JT} {P : Int32 → IT → JT → Prop} (hd : 1 ≤ d) (hv : VC_X7_count g d v1 I J P) : SemI g d M_X7_count [.ref (ga g 0), .int v1] I J P := by
  unfold VC_X7_count at hv
  refine sem_intro (by decide +kernel) rfl (Nat.le_of_ble_eq_true rfl) ?_
  show AW _ 0 0 0 [(0, .ref (ga g 0)), (1, .int v1)] [] (cW g I J)
  refine a_iload_n 1 dX7_count_0 rfl rfl ?_
  by_cases hq0 : v1 = 0
  · replace hv := hv.1 hq0
    refine a_tabIn (off := (55)) 56 dX7_count_1 (by rw [hq0]; decide) (by rw [hq0]; decide) (by rw [hq0]; decide) rfl ?_
    refine a_aload_n 0 dX7_count_56 rfl rfl ?_
    refine a_getR (r := 3) G_X7_19 sh_0 rfl dX7_count_57 ?_
    refine a_getI G_X7_90 sh_3 rfl dX7_count_60 ?_
    exact a_iret rfl dX7_count_63 hv
  · replace hv := hv.2
    by_cases hq1 : v1 = 1
    · replace hv := hv.1 hq1
      refine a_tabIn (off := (63)) 64 dX7_count_1 (by rw [hq1]; decide) (by rw [hq1]; decide) (by rw [hq1]; decide) rfl ?_
      refine a_aload_n 0 dX7_count_64 rfl rfl ?_
      refine a_getR (r := 3) G_X7_19 sh_0 rfl dX7_count_65 ?_
      refine a_getR (r := 4) G_X7_32 sh_3 rfl dX7_count_68 ?_
      refine a_getI G_X7_305 sh_4 rfl dX7_count_71 ?_
      exact a_iret rfl dX7_count_74 hv
    · replace hv := hv.2
      by_cases hq2 : v1 = 2
      · replace hv := hv.1 hq2
        refine a_tabIn (off := (74)) 75 dX7_count_1 (by rw [hq2]; decide) (by rw [hq2]; decide) (by rw [hq2]; decide) rfl ?_
        refine a_aload_n 0 dX7_count_75 rfl rfl ?_
        refine a_getR (r := 3) G_X7_19 sh_0 rfl dX7_count_76 ?_
        refine a_getR (r := 4) G_X7_32 sh_3 rfl dX7_count_79 ?_
        refine a_getI G_X7_308 sh_4 rfl dX7_count_82 ?_
        exact a_iret rfl dX7_count_85 hv
      · replace hv := hv.2
        by_cases hq3 : v1 = 3
        · replace hv := hv.1 hq3
          refine a_tabIn (off := (85)) 86 dX7_count_1 (by rw [hq3]; decide) (by rw [hq3]; decide) (by rw [hq3]; decide) rfl ?_
          refine a_aload_n 0 dX7_count_86 rfl rfl ?_
          refine a_getR (r := 3) G_X7_19 sh_0 rfl dX7_count_87 ?_
          refine a_getI G_X7_139 sh_3 rfl dX7_count_90 ?_
          exact a_iret rfl dX7_count_93 hv
        · replace hv := hv.2
          by_cases hq4 : v1 = 4
          · replace hv := hv.1 hq4
            refine a_tabIn (off := (93)) 94 dX7_count_1 (by rw [hq4]; decide) (by rw [hq4]; decide) (by rw [hq4]; decide) rfl ?_
            refine a_aload_n 0 dX7_count_94 rfl rfl ?_
            refine a_getR (r := 3) G_X7_19 sh_0 rfl dX7_count_95 ?_
            refine c_VI (As := []) (rest := []) hv K_X7_226 sh_3 rfl rfl rfl (Nat.le_of_ble_eq_true rfl) (rok (by omega) (Nat.le_of_ble_eq_true rfl)) ⟨Nat.zero_le _, Nat.zero_le _⟩ dX7_count_98 (fun r98 I98 J98 hv => ?_)
            exact a_iret rfl dX7_count_101 hv
          · replace hv := hv.2
            by_cases hq5 : v1 = 5
            · replace hv := hv.1 hq5
              refine a_tabIn (off := (101)) 102 dX7_count_1 (by rw [hq5]; decide) (by rw [hq5]; decide) (by rw [hq5]; decide) rfl ?_
              refine a_aload_n 0 dX7_count_102 rfl rfl ?_
              refine a_getR (r := 3) G_X7_19 sh_0 rfl dX7_count_103 ?_
              refine c_VI (As := []) (rest := []) hv K_X7_229 sh_3 rfl rfl rfl (Nat.le_of_ble_eq_true rfl) (rok (by omega) (Nat.le_of_ble_eq_true rfl)) ⟨Nat.zero_le _, Nat.zero_le _⟩ dX7_count_106 (fun r106 I106 J106 hv => ?_)
              exact a_iret rfl dX7_count_109 hv
            · replace hv := hv.2
              by_cases hq6 : v1 = 6
              · replace hv := hv.1 hq6
                refine a_tabIn (off := (109)) 110 dX7_count_1 (by rw [hq6]; decide) (by rw [hq6]; decide) (by rw [hq6]; decide) rfl ?_
                refine a_aload_n 0 dX7_count_110 rfl rfl ?_
                refine a_getR (r := 3) G_X7_19 sh_0 rfl dX7_count_111 ?_
                refine a_getR (r := 4) G_X7_32 sh_3 rfl dX7_count_114 ?_
                refine c_VI (As := []) (rest := []) hv K_X7_207 sh_4 rfl rfl rfl (Nat.le_of_ble_eq_true rfl) (rok (by omega) (Nat.le_of_ble_eq_true rfl)) ⟨Nat.zero_le _, Nat.zero_le _⟩ dX7_count_117 (fun r117 I117 J117 hv => ?_)
                exact a_iret rfl dX7_count_120 hv
              · replace hv := hv.2
                by_cases hq7 : v1 = 7
                · replace hv := hv.1 hq7
                  refine a_tabIn (off := (120)) 121 dX7_count_1 (by rw [hq7]; decide) (by rw [hq7]; decide) (by rw [hq7]; decide) rfl ?_
                  refine a_aload_n 0 dX7_count_121 rfl rfl ?_
                  refine a_getR (r := 3) G_X7_19 sh_0 rfl dX7_count_122 ?_
                  refine c_VI (As := []) (rest := []) hv K_X7_311 sh_3 rfl rfl rfl (Nat.le_of_ble_eq_true rfl) (rok (by omega) (Nat.le_of_ble_eq_true rfl)) ⟨Nat.zero_le _, Nat.zero_le _⟩ dX7_count_125 (fun r125 I125 J125 hv => ?_)
                  exact a_iret rfl dX7_count_128 hv
                · replace hv := hv.2
                  by_cases hq8 : v1 = 8
                  · replace hv := hv.1 hq8
                    refine a_tabIn (off := (128)) 129 dX7_count_1 (by rw [hq8]; decide) (by rw [hq8]; decide) (by rw [hq8]; decide) rfl ?_
                    refine a_aload_n 0 dX7_count_129 rfl rfl ?_
                    refine a_getR (r := 20) G_X7_39 sh_0 rfl dX7_count_130 ?_
                    refine a_getI G_X7_168 sh_20 rfl dX7_count_133 ?_
                    exact a_iret rfl dX7_count_136 hv
                  · replace hv := hv.2
                    by_cases hq9 : v1 = 9
                    · replace hv := hv.1 hq9
                      refine a_tabIn (off := (136)) 137 dX7_count_1 (by rw [hq9]; decide) (by rw [hq9]; decide) (by rw [hq9]; decide) rfl ?_
                      refine a_aload_n 0 dX7_count_137 rfl rfl ?_
                      refine a_getR (r := 1) G_X7_10 sh_0 rfl dX7_count_138 ?_
                      refine a_getI G_X7_72 sh_1 rfl dX7_count_141 ?_
                      exact a_iret rfl dX7_count_144 hv
                    · replace hv := hv.2
                      replace hv := hv ⟨hq0, hq1, hq2, hq3, hq4, hq5, hq6, hq7, hq8, hq9⟩
                      refine a_tabOut 145 dX7_count_1 (by have q0 := tI_ne (c := 0) (n := 0) (by decide) hq0; have q1 := tI_ne (c := 1) (n := 1) (by decide) hq1; have q2 := tI_ne (c := 2) (n := 2) (by decide) hq2; have q3 := tI_ne (c := 3) (n := 3) (by decide) hq3; have q4 := tI_ne (c := 4) (n := 4) (by decide) hq4; have q5 := tI_ne (c := 5) (n := 5) (by decide) hq5; have q6 := tI_ne (c := 6) (n := 6) (by decide) hq6; have q7 := tI_ne (c := 7) (n := 7) (by decide) hq7; have q8 := tI_ne (c := 8) (n := 8) (by decide) hq8; have q9 := tI_ne (c := 9) (n := 9) (by decide) hq9; omega) rfl ?_
                      refine a_iconst (v := (-1)) dX7_count_145 (by decide) ?_
                      exact a_iret rfl dX7_count_146 hv
def VC_X7_isTeller (g : GT) (d : Nat) (v0 : Int32) (I : IT) (J : JT) (P : Bool → IT → JT → Prop) : Prop :=
  ((v0 < 0 → P false I J) ∧ (¬ v0 < 0 → ((4 ≤ v0 → P false I J) ∧ (¬ 4 ≤ v0 → P true I J))))
set_option maxRecDepth 4000 in
theorem w_X7_isTeller {g : GT} {d : Nat} {v0 : Int32} {I : IT} {J : JT} {P : Bool → IT → JT → Prop} (hv : VC_X7_isTeller g d v0 I J P) : SemZ g d M_X7_isTeller [.int v0] I J P := by
  unfold VC_X7_isTeller at hv
  refine sem_intro (by decide +kernel) rfl (Nat.le_of_ble_eq_true rfl) ?_
  show AW _ 0 0 0 [(0, .int v0)] [] (cW g I J)
  refine a_iload_n 0 dX7_isTeller_0 rfl rfl ?_
  refine a_if_lt 13 dX7_isTeller_1 rfl (fun hc => ?_) (fun hc => ?_)
  · replace hv := hv.1 hc
    refine a_iconst (v := 0) dX7_isTeller_13 (by decide) ?_
    exact a_zret _ false (by decide) rfl dX7_isTeller_14 hv
  · replace hv := hv.2 hc
    refine a_iload_n 0 dX7_isTeller_4 rfl rfl ?_
    refine a_iconst (v := 4) dX7_isTeller_5 (by decide) ?_
    refine a_icmp_ge 13 dX7_isTeller_6 rfl (fun hc => ?_) (fun hc => ?_)
    · replace hv := hv.1 hc
      refine a_iconst (v := 0) dX7_isTeller_13 (by decide) ?_
      exact a_zret _ false (by decide) rfl dX7_isTeller_14 hv
    · replace hv := hv.2 hc
      refine a_iconst (v := 1) dX7_isTeller_9 (by decide) ?_
      refine a_goto 14 dX7_isTeller_10 rfl ?_
      exact a_zret _ true (by decide) rfl dX7_isTeller_14 hv
def VC_X7_isWord (g : GT) (d : Nat) (y0 : Int64) (I : IT) (J : JT) (P : Bool → IT → JT → Prop) : Prop :=
  ((y0 < 0 → P false I J) ∧ (¬ y0 < 0 → ((¬ y0 < 3 → P false I J) ∧ (y0 < 3 → P true I J))))
set_option maxRecDepth 4000 in
theorem w_X7_isWord {g : GT} {d : Nat} {y0 : Int64} {I : IT} {J : JT} {P : Bool → IT → JT → Prop} (hv : VC_X7_isWord g d y0 I J P) : SemZ g d M_X7_isWord [.long y0] I J P := by
  unfold VC_X7_isWord at hv
  refine sem_intro (by decide +kernel) rfl (Nat.le_of_ble_eq_true rfl) ?_
  show AW _ 0 0 0 [(0, .long y0)] [] (cW g I J)
  refine a_lload_n 0 dX7_isWord_0 rfl rfl ?_
  refine a_lconst (v := 0) dX7_isWord_1 (by decide) ?_
  refine a_lcmp dX7_isWord_2 ?_
  refine a_lcmp_lt 18 dX7_isWord_3 rfl (fun hc => ?_) (fun hc => ?_)
  · replace hv := hv.1 hc
    refine a_iconst (v := 0) dX7_isWord_18 (by decide) ?_
    exact a_zret _ false (by decide) rfl dX7_isWord_19 hv
  · replace hv := hv.2 hc
    refine a_lload_n 0 dX7_isWord_6 rfl rfl ?_
    refine a_ldc2 (v := 3) dX7_isWord_7 cl_X7_314 ?_
    refine a_lcmp dX7_isWord_10 ?_
    refine a_lcmp_ge 18 dX7_isWord_11 rfl (fun hc => ?_) (fun hc => ?_)
    · replace hv := hv.1 hc
      refine a_iconst (v := 0) dX7_isWord_18 (by decide) ?_
      exact a_zret _ false (by decide) rfl dX7_isWord_19 hv
    · replace hv := hv.2 hc
      refine a_iconst (v := 1) dX7_isWord_14 (by decide) ?_
      refine a_goto 19 dX7_isWord_15 rfl ?_
      exact a_zret _ true (by decide) rfl dX7_isWord_19 hv
def VC_X7_isPart (g : GT) (d : Nat) (v0 : Int32) (I : IT) (J : JT) (P : Bool → IT → JT → Prop) : Prop :=
  ((v0 = 0 → P true I J) ∧ (¬ v0 = 0 → ((¬ v0 = 1 → P false I J) ∧ (v0 = 1 → P true I J))))
set_option maxRecDepth 4000 in
theorem w_X7_isPart {g : GT} {d : Nat} {v0 : Int32} {I : IT} {J : JT} {P : Bool → IT → JT → Prop} (hv : VC_X7_isPart g d v0 I J P) : SemZ g d M_X7_isPart [.int v0] I J P := by
  unfold VC_X7_isPart at hv
  refine sem_intro (by decide +kernel) rfl (Nat.le_of_ble_eq_true rfl) ?_
  show AW _ 0 0 0 [(0, .int v0)] [] (cW g I J)
  refine a_iload_n 0 dX7_isPart_0 rfl rfl ?_
  refine a_if_eq 9 dX7_isPart_1 rfl (fun hc => ?_) (fun hc => ?_)
  · replace hv := hv.1 hc
    refine a_iconst (v := 1) dX7_isPart_9 (by decide) ?_
    refine a_goto 14 dX7_isPart_10 rfl ?_
    exact a_zret _ true (by decide) rfl dX7_isPart_14 hv
  · replace hv := hv.2 hc
    refine a_iload_n 0 dX7_isPart_4 rfl rfl ?_
    refine a_iconst (v := 1) dX7_isPart_5 (by decide) ?_
    refine a_icmp_ne 13 dX7_isPart_6 rfl (fun hc => ?_) (fun hc => ?_)
    · replace hv := hv.1 hc
      refine a_iconst (v := 0) dX7_isPart_13 (by decide) ?_
      exact a_zret _ false (by decide) rfl dX7_isPart_14 hv
    · replace hv := hv.2 hc
      refine a_iconst (v := 1) dX7_isPart_9 (by decide) ?_
      refine a_goto 14 dX7_isPart_10 rfl ?_
      exact a_zret _ true (by decide) rfl dX7_isPart_14 hv
def VC_X7_isHearing (g : GT) (d : Nat) (v0 : Int32) (I : IT) (J : JT) (P : Bool → IT → JT → Prop) : Prop :=
  ((v0 < 0 → P false I J) ∧ (¬ v0 < 0 → ((12 < v0 → P false I J) ∧ (¬ 12 < v0 → P true I J))))
set_option maxRecDepth 4000 in
theorem w_X7_isHearing {g : GT} {d : Nat} {v0 : Int32} {I : IT} {J : JT} {P : Bool → IT → JT → Prop} (hv : VC_X7_isHearing g d v0 I J P) : SemZ g d M_X7_isHearing [.int v0] I J P := by
  unfold VC_X7_isHearing at hv
  refine sem_intro (by decide +kernel) rfl (Nat.le_of_ble_eq_true rfl) ?_
  show AW _ 0 0 0 [(0, .int v0)] [] (cW g I J)
  refine a_iload_n 0 dX7_isHearing_0 rfl rfl ?_
  refine a_if_lt 14 dX7_isHearing_1 rfl (fun hc => ?_) (fun hc => ?_)
  · replace hv := hv.1 hc
    refine a_iconst (v := 0) dX7_isHearing_14 (by decide) ?_
    exact a_zret _ false (by decide) rfl dX7_isHearing_15 hv
  · replace hv := hv.2 hc
    refine a_iload_n 0 dX7_isHearing_4 rfl rfl ?_
    refine a_bipush (v := 12) dX7_isHearing_5 (by decide) ?_
    refine a_icmp_gt 14 dX7_isHearing_7 rfl (fun hc => ?_) (fun hc => ?_)
    · replace hv := hv.1 hc
      refine a_iconst (v := 0) dX7_isHearing_14 (by decide) ?_
      exact a_zret _ false (by decide) rfl dX7_isHearing_15 hv
    · replace hv := hv.2 hc
      refine a_iconst (v := 1) dX7_isHearing_10 (by decide) ?_
      refine a_goto 15 dX7_isHearing_11 rfl ?_
      exact a_zret _ true (by decide) rfl dX7_isHearing_15 hv
def VC_X7_isSheet (g : GT) (d : Nat) (v0 : Int32) (I : IT) (J : JT) (P : Bool → IT → JT → Prop) : Prop :=
  ((v0 < 0 → P false I J) ∧ (¬ v0 < 0 → ((4 ≤ v0 → P false I J) ∧ (¬ 4 ≤ v0 → P true I J))))
set_option maxRecDepth 4000 in
theorem w_X7_isSheet {g : GT} {d : Nat} {v0 : Int32} {I : IT} {J : JT} {P : Bool → IT → JT → Prop} (hv : VC_X7_isSheet g d v0 I J P) : SemZ g d M_X7_isSheet [.int v0] I J P := by
  unfold VC_X7_isSheet at hv
  refine sem_intro (by decide +kernel) rfl (Nat.le_of_ble_eq_true rfl) ?_
  show AW _ 0 0 0 [(0, .int v0)] [] (cW g I J)
  refine a_iload_n 0 dX7_isSheet_0 rfl rfl ?_
  refine a_if_lt 13 dX7_isSheet_1 rfl (fun hc => ?_) (fun hc => ?_)
  · replace hv := hv.1 hc
    refine a_iconst (v := 0) dX7_isSheet_13 (by decide) ?_
    exact a_zret _ false (by decide) rfl dX7_isSheet_14 hv
  · replace hv := hv.2 hc
    refine a_iload_n 0 dX7_isSheet_4 rfl rfl ?_
    refine a_iconst (v := 4) dX7_isSheet_5 (by decide) ?_
    refine a_icmp_ge 13 dX7_isSheet_6 rfl (fun hc => ?_) (fun hc => ?_)
    · replace hv := hv.1 hc
      refine a_iconst (v := 0) dX7_isSheet_13 (by decide) ?_
      exact a_zret _ false (by decide) rfl dX7_isSheet_14 hv
    · replace hv := hv.2 hc
      refine a_iconst (v := 1) dX7_isSheet_9 (by decide) ?_
      refine a_goto 14 dX7_isSheet_10 rfl ?_
      exact a_zret _ true (by decide) rfl dX7_isSheet_14 hv
def VC_X7_isLane (g : GT) (d : Nat) (v0 : Int32) (I : IT) (J : JT) (P : Bool → IT → JT → Prop) : Prop :=
  ((v0 < 0 → P false I J) ∧ (¬ v0 < 0 → ((4 ≤ v0 → P false I J) ∧ (¬ 4 ≤ v0 → P true I J))))
set_option maxRecDepth 4000 in
theorem w_X7_isLane {g : GT} {d : Nat} {v0 : Int32} {I : IT} {J : JT} {P : Bool → IT → JT → Prop} (hv : VC_X7_isLane g d v0 I J P) : SemZ g d M_X7_isLane [.int v0] I J P := by
  unfold VC_X7_isLane at hv
  refine sem_intro (by decide +kernel) rfl (Nat.le_of_ble_eq_true rfl) ?_
  show AW _ 0 0 0 [(0, .int v0)] [] (cW g I J)
  refine a_iload_n 0 dX7_isLane_0 rfl rfl ?_
  refine a_if_lt 13 dX7_isLane_1 rfl (fun hc => ?_) (fun hc => ?_)
  · replace hv := hv.1 hc
    refine a_iconst (v := 0) dX7_isLane_13 (by decide) ?_
    exact a_zret _ false (by decide) rfl dX7_isLane_14 hv
  · replace hv := hv.2 hc
    refine a_iload_n 0 dX7_isLane_4 rfl rfl ?_
    refine a_iconst (v := 4) dX7_isLane_5 (by decide) ?_
    refine a_icmp_ge 13 dX7_isLane_6 rfl (fun hc => ?_) (fun hc => ?_)
    · replace hv := hv.1 hc
      refine a_iconst (v := 0) dX7_isLane_13 (by decide) ?_
      exact a_zret _ false (by decide) rfl dX7_isLane_14 hv
    · replace hv := hv.2 hc
      refine a_iconst (v := 1) dX7_isLane_9 (by decide) ?_
      refine a_goto 14 dX7_isLane_10 rfl ?_
      exact a_zret _ true (by decide) rfl dX7_isLane_14 hv
def VC_X7_canTell (g : GT) (d : Nat) (v1 : Int32) (v2 : Int32) (v3 : Int32) (v4 : Int32) (I : IT) (J : JT) (P : Bool → IT → JT → Prop) : Prop :=
  (SemZ g (d - 1) M_X2_hasShip [.ref (ga g 3), .int v1] I J (fun r5 I5 J5 => ((r5 = false → P false I5 J5) ∧ (r5 = true → (SemZ g (d - 1) M_X7_isTeller [.int v2] I5 J5 (fun r12 I12 J12 => ((r12 = false → P false I12 J12) ∧ (r12 = true → (SemZ g (d - 1) M_X7_isSheet [.int v3] I12 J12 (fun r19 I19 J19 => ((r19 = false → P false I19 J19) ∧ (r19 = true → (SemZ g (d - 1) M_X7_isLane [.int v4] I19 J19 (fun r27 I27 J27 => ((r27 = false → P false I27 J27) ∧ (r27 = true → P true I27 J27))))))))))))))))
set_option maxRecDepth 4000 in
theorem w_X7_canTell {g : GT} {d : Nat} {v1 : Int32} {v2 : Int32} {v3 : Int32} {v4 : Int32} {I : IT} {J : JT} {P : Bool → IT → JT → Prop} (hd : 1 ≤ d) (hv : VC_X7_canTell g d v1 v2 v3 v4 I J P) : SemZ g d M_X7_canTell [.ref (ga g 0), .int v1, .int v2, .int v3, .int v4] I J P := by
  unfold VC_X7_canTell at hv
  refine sem_intro (by decide +kernel) rfl (Nat.le_of_ble_eq_true rfl) ?_
  show AW _ 0 0 0 [(0, .ref (ga g 0)), (1, .int v1), (2, .int v2), (3, .int v3), (4, .int v4)] [] (cW g I J)
  refine a_aload_n 0 dX7_canTell_0 rfl rfl ?_
  refine a_getR (r := 3) G_X7_19 sh_0 rfl dX7_canTell_1 ?_
  refine a_iload_n 1 dX7_canTell_4 rfl rfl ?_
  refine c_VZ (As := [.int v1]) (rest := []) hv K_X7_93 sh_3 rfl rfl rfl (Nat.le_of_ble_eq_true rfl) (rok (by omega) (Nat.le_of_ble_eq_true rfl)) ⟨Nat.zero_le _, Nat.zero_le _⟩ dX7_canTell_5 (fun r5 I5 J5 hv => ?_)
  refine a_ifz_eq 37 dX7_canTell_8 rfl (fun hc => ?_) (fun hc => ?_)
  · replace hv := hv.1 hc
    refine a_iconst (v := 0) dX7_canTell_37 (by decide) ?_
    exact a_zret _ false (by decide) rfl dX7_canTell_38 hv
  · replace hv := hv.2 hc
    refine a_iload_n 2 dX7_canTell_11 rfl rfl ?_
    refine c_SZ (As := [.int v2]) (rest := []) hv K_X7_125 rfl rfl (Nat.le_of_ble_eq_true rfl) (rok (by omega) (Nat.le_of_ble_eq_true rfl)) ⟨Nat.zero_le _, Nat.zero_le _⟩ dX7_canTell_12 (fun r12 I12 J12 hv => ?_)
    refine a_ifz_eq 37 dX7_canTell_15 rfl (fun hc => ?_) (fun hc => ?_)
    · replace hv := hv.1 hc
      refine a_iconst (v := 0) dX7_canTell_37 (by decide) ?_
      exact a_zret _ false (by decide) rfl dX7_canTell_38 hv
    · replace hv := hv.2 hc
      refine a_iload_n 3 dX7_canTell_18 rfl rfl ?_
      refine c_SZ (As := [.int v3]) (rest := []) hv K_X7_232 rfl rfl (Nat.le_of_ble_eq_true rfl) (rok (by omega) (Nat.le_of_ble_eq_true rfl)) ⟨Nat.zero_le _, Nat.zero_le _⟩ dX7_canTell_19 (fun r19 I19 J19 hv => ?_)
      refine a_ifz_eq 37 dX7_canTell_22 rfl (fun hc => ?_) (fun hc => ?_)
      · replace hv := hv.1 hc
        refine a_iconst (v := 0) dX7_canTell_37 (by decide) ?_
        exact a_zret _ false (by decide) rfl dX7_canTell_38 hv
      · replace hv := hv.2 hc
        refine a_iload 4 dX7_canTell_25 rfl ?_
        refine c_SZ (As := [.int v4]) (rest := []) hv K_X7_235 rfl rfl (Nat.le_of_ble_eq_true rfl) (rok (by omega) (Nat.le_of_ble_eq_true rfl)) ⟨Nat.zero_le _, Nat.zero_le _⟩ dX7_canTell_27 (fun r27 I27 J27 hv => ?_)
        refine a_ifz_eq 37 dX7_canTell_30 rfl (fun hc => ?_) (fun hc => ?_)
        · replace hv := hv.1 hc
          refine a_iconst (v := 0) dX7_canTell_37 (by decide) ?_
          exact a_zret _ false (by decide) rfl dX7_canTell_38 hv
        · replace hv := hv.2 hc
          refine a_iconst (v := 1) dX7_canTell_33 (by decide) ?_
          refine a_goto 38 dX7_canTell_34 rfl ?_
          exact a_zret _ true (by decide) rfl dX7_canTell_38 hv
def VC_X7_refusalOf (g : GT) (d : Nat) (v1 : Int32) (v2 : Int32) (v3 : Int32) (v4 : Int32) (I : IT) (J : JT) (P : Int32 → IT → JT → Prop) : Prop :=
  (vp_in v1 4 ∧ ((¬ (I (110 + 2 * v1.toNatClampNeg) 1) = 0 → (((I (110 + 2 * v1.toNatClampNeg) 2) = v2 → (SemZ g (d - 1) M_X4_holds [.ref (ga g (110 + 2 * v1.toNatClampNeg)), .int v3, .int v4] I J (fun r36 I36 J36 => ((r36 = false → P (-13) I36 J36) ∧ (r36 = true → P 0 I36 J36))))) ∧ (¬ (I (110 + 2 * v1.toNatClampNeg) 2) = v2 → P (-12) I J))) ∧ ((I (110 + 2 * v1.toNatClampNeg) 1) = 0 → P (-11) I J)))
set_option maxRecDepth 4000 in
theorem w_X7_refusalOf {g : GT} {d : Nat} {v1 : Int32} {v2 : Int32} {v3 : Int32} {v4 : Int32} {I : IT} {J : JT} {P : Int32 → IT → JT → Prop} (hd : 1 ≤ d) (hv : VC_X7_refusalOf g d v1 v2 v3 v4 I J P) : SemI g d M_X7_refusalOf [.ref (ga g 0), .int v1, .int v2, .int v3, .int v4] I J P := by
  unfold VC_X7_refusalOf at hv
  refine sem_intro (by decide +kernel) rfl (Nat.le_of_ble_eq_true rfl) ?_
  show AW _ 0 0 0 [(0, .ref (ga g 0)), (1, .int v1), (2, .int v2), (3, .int v3), (4, .int v4)] [] (cW g I J)
  refine a_aload_n 0 dX7_refusalOf_0 rfl rfl ?_
  refine a_getR (r := 78) G_X7_58 sh_0 rfl dX7_refusalOf_1 ?_
  refine a_iload_n 1 dX7_refusalOf_4 rfl rfl ?_
  have hi5 := hv.1
  refine a_aald (r := (110 + 2 * v1.toNatClampNeg)) sh_78 (by decide) hi5 (r_78 hi5) dX7_refusalOf_5 ?_
  replace hv := hv.2
  refine a_astore [(5, .ref (ga g (110 + 2 * v1.toNatClampNeg))), (0, .ref (ga g 0)), (1, .int v1), (2, .int v2), (3, .int v3), (4, .int v4)] dX7_refusalOf_6 (Nat.le_of_ble_eq_true rfl) rfl ?_
  refine a_aload 0 dX7_refusalOf_8 rfl ?_
  refine a_getI G_X7_241 (o_78 hi5).1 rfl dX7_refusalOf_10 ?_
  refine a_if_ne 19 dX7_refusalOf_13 rfl (fun hc => ?_) (fun hc => ?_)
  · replace hv := hv.1 hc
    refine a_aload 0 dX7_refusalOf_19 rfl ?_
    refine a_getI G_X7_255 (o_78 hi5).1 rfl dX7_refusalOf_21 ?_
    refine a_iload_n 3 dX7_refusalOf_24 rfl rfl ?_
    refine a_icmp_eq 31 dX7_refusalOf_25 rfl (fun hc => ?_) (fun hc => ?_)
    · replace hv := hv.1 hc
      refine a_aload 0 dX7_refusalOf_31 rfl ?_
      refine a_iload_n 4 dX7_refusalOf_33 rfl rfl ?_
      refine a_iload 5 dX7_refusalOf_34 rfl ?_
      refine c_VZ (As := [.int v3, .int v4]) (rest := []) hv K_X7_258 (o_78 hi5).1 rfl rfl rfl (Nat.le_of_ble_eq_true rfl) (rok (by omega) (Nat.le_of_ble_eq_true rfl)) ⟨Nat.zero_le _, Nat.zero_le _⟩ dX7_refusalOf_36 (fun r36 I36 J36 hv => ?_)
      refine a_ifz_eq 46 dX7_refusalOf_39 rfl (fun hc => ?_) (fun hc => ?_)
      · replace hv := hv.1 hc
        refine a_bipush (v := (-13)) dX7_refusalOf_46 (by decide) ?_
        exact a_iret rfl dX7_refusalOf_48 hv
      · replace hv := hv.2 hc
        refine a_iconst (v := 0) dX7_refusalOf_42 (by decide) ?_
        refine a_goto 48 dX7_refusalOf_43 rfl ?_
        exact a_iret rfl dX7_refusalOf_48 hv
    · replace hv := hv.2 hc
      refine a_bipush (v := (-12)) dX7_refusalOf_28 (by decide) ?_
      exact a_iret rfl dX7_refusalOf_30 hv
  · replace hv := hv.2 hc
    refine a_bipush (v := (-11)) dX7_refusalOf_16 (by decide) ?_
    exact a_iret rfl dX7_refusalOf_18 hv
def Lp_X7_isUnder_4 (g : GT) (d : Nat) (v1 : Int32) (v2 : Int32) (v3 : Int32) (I : IT) (J : JT) (P : Bool → IT → JT → Prop) : Prop := AW (kM g d M_X7_isUnder 0 0 (qZ g P)) 0 0 4 [(1, .int v1), (2, .int v2), (3, .int v3)] [] (cW g I J)
def VC_X7_isUnder_4 (g : GT) (d : Nat) (v1 : Int32) (v2 : Int32) (v3 : Int32) (I : IT) (J : JT) (P : Bool → IT → JT → Prop) : Prop :=
  ((6 ≤ v3 → P false I J) ∧ (¬ 6 ≤ v3 → ((v2 < 0 → P false I J) ∧ (¬ v2 < 0 → ((6 ≤ v2 → P false I J) ∧ (¬ 6 ≤ v2 → ((¬ v2 = v1 → (vp_in v2 6 ∧ (Lp_X7_isUnder_4 g d v1 (ovr v2.toNatClampNeg) (v3 + 1) I J P))) ∧ (v2 = v1 → P true I J))))))))
set_option maxRecDepth 4000 in
theorem w_X7_isUnder_4 {g : GT} {d : Nat} {v1 : Int32} {v2 : Int32} {v3 : Int32} {I : IT} {J : JT} {P : Bool → IT → JT → Prop} (hv : VC_X7_isUnder_4 g d v1 v2 v3 I J P) : Lp_X7_isUnder_4 g d v1 v2 v3 I J P := by
  unfold VC_X7_isUnder_4 at hv
  unfold Lp_X7_isUnder_4
  refine a_iload_n 2 dX7_isUnder_4 rfl rfl ?_
  refine a_bipush (v := 6) dX7_isUnder_5 (by decide) ?_
  refine a_icmp_ge 39 dX7_isUnder_7 rfl (fun hc => ?_) (fun hc => ?_)
  · replace hv := hv.1 hc
    refine a_iconst (v := 0) dX7_isUnder_39 (by decide) ?_
    exact a_zret _ false (by decide) rfl dX7_isUnder_40 hv
  · replace hv := hv.2 hc
    refine a_iload_n 1 dX7_isUnder_10 rfl rfl ?_
    refine a_if_lt 39 dX7_isUnder_11 rfl (fun hc => ?_) (fun hc => ?_)
    · replace hv := hv.1 hc
      refine a_iconst (v := 0) dX7_isUnder_39 (by decide) ?_
      exact a_zret _ false (by decide) rfl dX7_isUnder_40 hv
    · replace hv := hv.2 hc
      refine a_iload_n 1 dX7_isUnder_14 rfl rfl ?_
      refine a_bipush (v := 6) dX7_isUnder_15 (by decide) ?_
      refine a_icmp_ge 39 dX7_isUnder_17 rfl (fun hc => ?_) (fun hc => ?_)
      · replace hv := hv.1 hc
        refine a_iconst (v := 0) dX7_isUnder_39 (by decide) ?_
        exact a_zret _ false (by decide) rfl dX7_isUnder_40 hv
      · replace hv := hv.2 hc
        refine a_iload_n 1 dX7_isUnder_20 rfl rfl ?_
        refine a_iload_n 0 dX7_isUnder_21 rfl rfl ?_
        refine a_icmp_ne 27 dX7_isUnder_22 rfl (fun hc => ?_) (fun hc => ?_)
        · replace hv := hv.1 hc
          refine a_OVER st_OVER dX7_isUnder_27 ?_
          refine a_iload_n 1 dX7_isUnder_30 rfl rfl ?_
          refine a_OVERld hv.1 dX7_isUnder_31 ?_
          replace hv := hv.2
          refine a_istore_n [(2, .int (ovr v2.toNatClampNeg)), (1, .int v1), (3, .int v3)] dX7_isUnder_32 rfl (Nat.le_of_ble_eq_true rfl) rfl ?_
          refine a_iinc 2 (v3 + 1) [(3, .int (v3 + 1)), (2, .int (ovr v2.toNatClampNeg)), (1, .int v1)] dX7_isUnder_33 rfl rfl (Nat.le_of_ble_eq_true rfl) rfl ?_
          refine a_goto 4 dX7_isUnder_36 rfl ?_
          exact a_sub [2, 1, 0] rfl hv
        · replace hv := hv.2 hc
          refine a_iconst (v := 1) dX7_isUnder_25 (by decide) ?_
          exact a_zret _ true (by decide) rfl dX7_isUnder_26 hv
def VC_X7_isUnder (g : GT) (d : Nat) (v0 : Int32) (v1 : Int32) (I : IT) (J : JT) (P : Bool → IT → JT → Prop) : Prop :=
  (Lp_X7_isUnder_4 g d v1 v0 0 I J P)
set_option maxRecDepth 4000 in
theorem w_X7_isUnder {g : GT} {d : Nat} {v0 : Int32} {v1 : Int32} {I : IT} {J : JT} {P : Bool → IT → JT → Prop} (hv : VC_X7_isUnder g d v0 v1 I J P) : SemZ g d M_X7_isUnder [.int v0, .int v1] I J P := by
  unfold VC_X7_isUnder at hv
  refine sem_intro (by decide +kernel) rfl (Nat.le_of_ble_eq_true rfl) ?_
  show AW _ 0 0 0 [(0, .int v0), (1, .int v1)] [] (cW g I J)
  refine a_iload_n 0 dX7_isUnder_0 rfl rfl ?_
  refine a_istore_n [(2, .int v0), (0, .int v0), (1, .int v1)] dX7_isUnder_1 rfl (Nat.le_of_ble_eq_true rfl) rfl ?_
  refine a_iconst (v := 0) dX7_isUnder_2 (by decide) ?_
  refine a_istore_n [(3, .int 0), (2, .int v0), (0, .int v0), (1, .int v1)] dX7_isUnder_3 rfl (Nat.le_of_ble_eq_true rfl) rfl ?_
  exact a_sub [3, 1, 0] rfl hv
def VC_X7_doubtBy (g : GT) (d : Nat) (v0 : Int32) (v1 : Int32) (v2 : Int32) (I : IT) (J : JT) (P : Int32 → IT → JT → Prop) : Prop :=
  ((v0 = 1 → P (3 + v1) I J) ∧ (v0 = 2 → P ((3 + v1) - 2) I J) ∧ (v0 = 4 → ((¬ v2 = 0 → P 10 I J) ∧ (v2 = 0 → P ((3 + v1) - 3) I J))) ∧ (v0 = 5 → P ((3 + v1) - 2) I J) ∧ (¬ v0 = 1 ∧ ¬ v0 = 2 ∧ ¬ v0 = 4 ∧ ¬ v0 = 5 → P 10 I J))
set_option maxRecDepth 4000 in
theorem w_X7_doubtBy {g : GT} {d : Nat} {v0 : Int32} {v1 : Int32} {v2 : Int32} {I : IT} {J : JT} {P : Int32 → IT → JT → Prop} (hv : VC_X7_doubtBy g d v0 v1 v2 I J P) : SemI g d M_X7_doubtBy [.int v0, .int v1, .int v2] I J P := by
  unfold VC_X7_doubtBy at hv
  refine sem_intro (by decide +kernel) rfl (Nat.le_of_ble_eq_true rfl) ?_
  show AW _ 0 0 0 [(0, .int v0), (1, .int v1), (2, .int v2)] [] (cW g I J)
  refine a_iconst (v := 3) dX7_doubtBy_0 (by decide) ?_
  refine a_iload_n 1 dX7_doubtBy_1 rfl rfl ?_
  refine a_iadd dX7_doubtBy_2 ?_
  refine a_istore_n [(3, .int (3 + v1)), (0, .int v0), (1, .int v1), (2, .int v2)] dX7_doubtBy_3 rfl (Nat.le_of_ble_eq_true rfl) rfl ?_
  refine a_iload_n 1 dX7_doubtBy_4 rfl rfl ?_
  by_cases hq1 : v0 = 1
  · replace hv := hv.1 hq1
    refine a_tabIn (off := (35)) 40 dX7_doubtBy_5 (by rw [hq1]; decide) (by rw [hq1]; decide) (by rw [hq1]; decide) rfl ?_
    refine a_iload_n 0 dX7_doubtBy_40 rfl rfl ?_
    exact a_iret rfl dX7_doubtBy_41 hv
  · replace hv := hv.2
    by_cases hq2 : v0 = 2
    · replace hv := hv.1 hq2
      refine a_tabIn (off := (37)) 42 dX7_doubtBy_5 (by rw [hq2]; decide) (by rw [hq2]; decide) (by rw [hq2]; decide) rfl ?_
      refine a_iload_n 0 dX7_doubtBy_42 rfl rfl ?_
      refine a_iconst (v := 2) dX7_doubtBy_43 (by decide) ?_
      refine a_isub dX7_doubtBy_44 ?_
      exact a_iret rfl dX7_doubtBy_45 hv
    · replace hv := hv.2
      by_cases hq4 : v0 = 4
      · replace hv := hv.1 hq4
        refine a_tabIn (off := (45)) 50 dX7_doubtBy_5 (by rw [hq4]; decide) (by rw [hq4]; decide) (by rw [hq4]; decide) rfl ?_
        refine a_iload_n 3 dX7_doubtBy_50 rfl rfl ?_
        refine a_if_ne 60 dX7_doubtBy_51 rfl (fun hc => ?_) (fun hc => ?_)
        · replace hv := hv.1 hc
          refine a_bipush (v := 10) dX7_doubtBy_60 (by decide) ?_
          exact a_iret rfl dX7_doubtBy_62 hv
        · replace hv := hv.2 hc
          refine a_iload_n 0 dX7_doubtBy_54 rfl rfl ?_
          refine a_iconst (v := 3) dX7_doubtBy_55 (by decide) ?_
          refine a_isub dX7_doubtBy_56 ?_
          refine a_goto 62 dX7_doubtBy_57 rfl ?_
          exact a_iret rfl dX7_doubtBy_62 hv
      · replace hv := hv.2
        by_cases hq5 : v0 = 5
        · replace hv := hv.1 hq5
          refine a_tabIn (off := (41)) 46 dX7_doubtBy_5 (by rw [hq5]; decide) (by rw [hq5]; decide) (by rw [hq5]; decide) rfl ?_
          refine a_iload_n 0 dX7_doubtBy_46 rfl rfl ?_
          refine a_iconst (v := 2) dX7_doubtBy_47 (by decide) ?_
          refine a_isub dX7_doubtBy_48 ?_
          exact a_iret rfl dX7_doubtBy_49 hv
        · replace hv := hv.2
          replace hv := hv ⟨hq1, hq2, hq4, hq5⟩
          by_cases hq3 : v0 = 3
          · refine a_tabIn (off := (58)) 63 dX7_doubtBy_5 (by rw [hq3]; decide) (by rw [hq3]; decide) (by rw [hq3]; decide) rfl ?_
            refine a_bipush (v := 10) dX7_doubtBy_63 (by decide) ?_
            exact a_iret rfl dX7_doubtBy_65 hv
          refine a_tabOut 63 dX7_doubtBy_5 (by have q1 := tI_ne (c := 1) (n := 1) (by decide) hq1; have q2 := tI_ne (c := 2) (n := 2) (by decide) hq2; have q3 := tI_ne (c := 3) (n := 3) (by decide) hq3; have q4 := tI_ne (c := 4) (n := 4) (by decide) hq4; have q5 := tI_ne (c := 5) (n := 5) (by decide) hq5; omega) rfl ?_
          refine a_bipush (v := 10) dX7_doubtBy_63 (by decide) ?_
          exact a_iret rfl dX7_doubtBy_65 hv
def VC_X7_turned (g : GT) (d : Nat) (v0 : Int32) (v1 : Int32) (v2 : Int32) (I : IT) (J : JT) (P : Int32 → IT → JT → Prop) : Prop :=
  ((¬ v0 = 5 → ((¬ v2 = 1 → ((¬ v2 = 2 → P v1 I J) ∧ (v2 = 2 → P ((v1 + 1) - (v1 + 1) / 4 * 4) I J))) ∧ (v2 = 1 → P ((v1 + 3) - (v1 + 3) / 4 * 4) I J))) ∧ (v0 = 5 → (SemI g (d - 1) M_X7_mirrored [.int v2] I J (fun r6 I6 J6 => ((¬ r6 = 1 → ((¬ r6 = 2 → P v1 I6 J6) ∧ (r6 = 2 → P ((v1 + 1) - (v1 + 1) / 4 * 4) I6 J6))) ∧ (r6 = 1 → P ((v1 + 3) - (v1 + 3) / 4 * 4) I6 J6))))))
set_option maxRecDepth 4000 in
theorem w_X7_turned {g : GT} {d : Nat} {v0 : Int32} {v1 : Int32} {v2 : Int32} {I : IT} {J : JT} {P : Int32 → IT → JT → Prop} (hd : 1 ≤ d) (hv : VC_X7_turned g d v0 v1 v2 I J P) : SemI g d M_X7_turned [.int v0, .int v1, .int v2] I J P := by
  unfold VC_X7_turned at hv
  refine sem_intro (by decide +kernel) rfl (Nat.le_of_ble_eq_true rfl) ?_
  show AW _ 0 0 0 [(0, .int v0), (1, .int v1), (2, .int v2)] [] (cW g I J)
  refine a_iload_n 0 dX7_turned_0 rfl rfl ?_
  refine a_iconst (v := 5) dX7_turned_1 (by decide) ?_
  refine a_icmp_ne 12 dX7_turned_2 rfl (fun hc => ?_) (fun hc => ?_)
  · replace hv := hv.1 hc
    refine a_iload_n 2 dX7_turned_12 rfl rfl ?_
    refine a_istore_n [(3, .int v2), (0, .int v0), (1, .int v1), (2, .int v2)] dX7_turned_13 rfl (Nat.le_of_ble_eq_true rfl) rfl ?_
    refine a_iload_n 0 dX7_turned_14 rfl rfl ?_
    refine a_iconst (v := 1) dX7_turned_15 (by decide) ?_
    refine a_icmp_ne 25 dX7_turned_16 rfl (fun hc => ?_) (fun hc => ?_)
    · replace hv := hv.1 hc
      refine a_iload_n 0 dX7_turned_25 rfl rfl ?_
      refine a_iconst (v := 2) dX7_turned_26 (by decide) ?_
      refine a_icmp_ne 38 dX7_turned_27 rfl (fun hc => ?_) (fun hc => ?_)
      · replace hv := hv.1 hc
        refine a_iload_n 2 dX7_turned_38 rfl rfl ?_
        exact a_iret rfl dX7_turned_39 hv
      · replace hv := hv.2 hc
        refine a_iload_n 2 dX7_turned_30 rfl rfl ?_
        refine a_iconst (v := 1) dX7_turned_31 (by decide) ?_
        refine a_iadd dX7_turned_32 ?_
        refine a_iconst (v := 4) dX7_turned_33 (by decide) ?_
        refine a_irem dX7_turned_34 (by decide) ?_
        refine a_goto 39 dX7_turned_35 rfl ?_
        exact a_iret rfl dX7_turned_39 hv
    · replace hv := hv.2 hc
      refine a_iload_n 2 dX7_turned_19 rfl rfl ?_
      refine a_iconst (v := 3) dX7_turned_20 (by decide) ?_
      refine a_iadd dX7_turned_21 ?_
      refine a_iconst (v := 4) dX7_turned_22 (by decide) ?_
      refine a_irem dX7_turned_23 (by decide) ?_
      exact a_iret rfl dX7_turned_24 hv
  · replace hv := hv.2 hc
    refine a_iload_n 2 dX7_turned_5 rfl rfl ?_
    refine c_SI (As := [.int v2]) (rest := []) hv K_X7_319 rfl rfl (Nat.le_of_ble_eq_true rfl) (rok (by omega) (Nat.le_of_ble_eq_true rfl)) ⟨Nat.zero_le _, Nat.zero_le _⟩ dX7_turned_6 (fun r6 I6 J6 hv => ?_)
    refine a_goto 13 dX7_turned_9 rfl ?_
    refine a_istore_n [(3, .int r6), (0, .int v0), (1, .int v1), (2, .int v2)] dX7_turned_13 rfl (Nat.le_of_ble_eq_true rfl) rfl ?_
    refine a_iload_n 0 dX7_turned_14 rfl rfl ?_
    refine a_iconst (v := 1) dX7_turned_15 (by decide) ?_
    refine a_icmp_ne 25 dX7_turned_16 rfl (fun hc => ?_) (fun hc => ?_)
    · replace hv := hv.1 hc
      refine a_iload_n 0 dX7_turned_25 rfl rfl ?_
      refine a_iconst (v := 2) dX7_turned_26 (by decide) ?_
      refine a_icmp_ne 38 dX7_turned_27 rfl (fun hc => ?_) (fun hc => ?_)
      · replace hv := hv.1 hc
        refine a_iload_n 2 dX7_turned_38 rfl rfl ?_
        exact a_iret rfl dX7_turned_39 hv
      · replace hv := hv.2 hc
        refine a_iload_n 2 dX7_turned_30 rfl rfl ?_
        refine a_iconst (v := 1) dX7_turned_31 (by decide) ?_
        refine a_iadd dX7_turned_32 ?_
        refine a_iconst (v := 4) dX7_turned_33 (by decide) ?_
        refine a_irem dX7_turned_34 (by decide) ?_
        refine a_goto 39 dX7_turned_35 rfl ?_
        exact a_iret rfl dX7_turned_39 hv
    · replace hv := hv.2 hc
      refine a_iload_n 2 dX7_turned_19 rfl rfl ?_
      refine a_iconst (v := 3) dX7_turned_20 (by decide) ?_
      refine a_iadd dX7_turned_21 ?_
      refine a_iconst (v := 4) dX7_turned_22 (by decide) ?_
      refine a_irem dX7_turned_23 (by decide) ?_
      exact a_iret rfl dX7_turned_24 hv
def VC_X7_mirrored (g : GT) (d : Nat) (v0 : Int32) (I : IT) (J : JT) (P : Int32 → IT → JT → Prop) : Prop :=
  ((¬ v0 = 1 → ((¬ v0 = 2 → P v0 I J) ∧ (v0 = 2 → P 1 I J))) ∧ (v0 = 1 → P 2 I J))
set_option maxRecDepth 4000 in
theorem w_X7_mirrored {g : GT} {d : Nat} {v0 : Int32} {I : IT} {J : JT} {P : Int32 → IT → JT → Prop} (hv : VC_X7_mirrored g d v0 I J P) : SemI g d M_X7_mirrored [.int v0] I J P := by
  unfold VC_X7_mirrored at hv
  refine sem_intro (by decide +kernel) rfl (Nat.le_of_ble_eq_true rfl) ?_
  show AW _ 0 0 0 [(0, .int v0)] [] (cW g I J)
  refine a_iload_n 0 dX7_mirrored_0 rfl rfl ?_
  refine a_iconst (v := 1) dX7_mirrored_1 (by decide) ?_
  refine a_icmp_ne 7 dX7_mirrored_2 rfl (fun hc => ?_) (fun hc => ?_)
  · replace hv := hv.1 hc
    refine a_iload_n 0 dX7_mirrored_7 rfl rfl ?_
    refine a_iconst (v := 2) dX7_mirrored_8 (by decide) ?_
    refine a_icmp_ne 16 dX7_mirrored_9 rfl (fun hc => ?_) (fun hc => ?_)
    · replace hv := hv.1 hc
      refine a_iload_n 0 dX7_mirrored_16 rfl rfl ?_
      exact a_iret rfl dX7_mirrored_17 hv
    · replace hv := hv.2 hc
      refine a_iconst (v := 1) dX7_mirrored_12 (by decide) ?_
      refine a_goto 17 dX7_mirrored_13 rfl ?_
      exact a_iret rfl dX7_mirrored_17 hv
  · replace hv := hv.2 hc
    refine a_iconst (v := 2) dX7_mirrored_5 (by decide) ?_
    exact a_iret rfl dX7_mirrored_6 hv
def VC_X7_setOut (g : GT) (d : Nat) (v1 : Int32) (I : IT) (J : JT) (P : Nat → IT → JT → Prop) : Prop :=
  (SemV g (d - 1) M_X0_keep [.ref (ga g 20), .ref (ga g 3), .int v1] I J (fun I9 J9 => (SemV g (d - 1) M_X6_board [.ref (ga g 96), .ref (ga g 3), .int v1] I9 J9 (fun I25 J25 => P 96 I25 J25))))
set_option maxRecDepth 4000 in
theorem w_X7_setOut {g : GT} {d : Nat} {v1 : Int32} {I : IT} {J : JT} {P : Nat → IT → JT → Prop} (hd : 1 ≤ d) (hv : VC_X7_setOut g d v1 I J P) : SemR g d M_X7_setOut [.ref (ga g 0), .int v1] I J P := by
  unfold VC_X7_setOut at hv
  refine sem_intro (by decide +kernel) rfl (Nat.le_of_ble_eq_true rfl) ?_
  show AW _ 0 0 0 [(0, .ref (ga g 0)), (1, .int v1)] [] (cW g I J)
  refine a_aload_n 0 dX7_setOut_0 rfl rfl ?_
  refine a_getR (r := 20) G_X7_39 sh_0 rfl dX7_setOut_1 ?_
  refine a_aload_n 0 dX7_setOut_4 rfl rfl ?_
  refine a_getR (r := 3) G_X7_19 sh_0 rfl dX7_setOut_5 ?_
  refine a_iload_n 1 dX7_setOut_8 rfl rfl ?_
  refine c_VV (As := [.ref (ga g 3), .int v1]) (rest := []) hv K_X7_161 sh_20 rfl rfl rfl (Nat.le_of_ble_eq_true rfl) (rok (by omega) (Nat.le_of_ble_eq_true rfl)) ⟨Nat.zero_le _, Nat.zero_le _⟩ dX7_setOut_9 (fun I9 J9 hv => ?_)
  refine a_aload_n 0 dX7_setOut_12 rfl rfl ?_
  refine a_getR (r := 72) G_X7_45 sh_0 rfl dX7_setOut_13 ?_
  refine a_iconst (v := 0) dX7_setOut_16 (by decide) ?_
  refine a_aald (r := 96) sh_72 (by decide) (by unfold vp_in; decide) rfl dX7_setOut_17 ?_
  refine a_astore_n [(2, .ref (ga g 96)), (0, .ref (ga g 0)), (1, .int v1)] dX7_setOut_18 rfl (Nat.le_of_ble_eq_true rfl) rfl ?_
  refine a_aload_n 0 dX7_setOut_19 rfl rfl ?_
  refine a_aload_n 1 dX7_setOut_20 rfl rfl ?_
  refine a_getR (r := 3) G_X7_19 sh_0 rfl dX7_setOut_21 ?_
  refine a_iload_n 2 dX7_setOut_24 rfl rfl ?_
  refine c_VV (As := [.ref (ga g 3), .int v1]) (rest := []) hv K_X7_174 sh_96 rfl rfl rfl (Nat.le_of_ble_eq_true rfl) (rok (by omega) (Nat.le_of_ble_eq_true rfl)) ⟨Nat.zero_le _, Nat.zero_le _⟩ dX7_setOut_25 (fun I25 J25 hv => ?_)
  refine a_aload_n 0 dX7_setOut_28 rfl rfl ?_
  exact a_aret rfl dX7_setOut_29 hv
def VC_X7_arrive (g : GT) (d : Nat) (v1 : Int32) (o2 : Nat) (I : IT) (J : JT) (P : Int32 → IT → JT → Prop) : Prop :=
  (SemV g (d - 1) M_X6_land [.ref (ga g o2), .ref (ga g 3), .int v1] I J (fun I6 J6 => P ((sI I6 3 7 ((I6 3 7) + 1)) o2 3) (sI I6 3 7 ((I6 3 7) + 1)) J6))
set_option maxRecDepth 4000 in
theorem w_X7_arrive {g : GT} {d : Nat} {v1 : Int32} {o2 : Nat} {I : IT} {J : JT} {P : Int32 → IT → JT → Prop} (ho2 : isV o2) (hd : 1 ≤ d) (hv : VC_X7_arrive g d v1 o2 I J P) : SemI g d M_X7_arrive [.ref (ga g 0), .int v1, .ref (ga g o2)] I J P := by
  unfold VC_X7_arrive at hv
  refine sem_intro (by decide +kernel) rfl (Nat.le_of_ble_eq_true rfl) ?_
  show AW _ 0 0 0 [(0, .ref (ga g 0)), (1, .int v1), (2, .ref (ga g o2))] [] (cW g I J)
  refine a_aload_n 2 dX7_arrive_0 rfl rfl ?_
  refine a_aload_n 0 dX7_arrive_1 rfl rfl ?_
  refine a_getR (r := 3) G_X7_19 sh_0 rfl dX7_arrive_2 ?_
  refine a_iload_n 1 dX7_arrive_5 rfl rfl ?_
  refine c_VV (As := [.ref (ga g 3), .int v1]) (rest := []) hv K_X7_322 ho2.1 rfl rfl rfl (Nat.le_of_ble_eq_true rfl) (rok (by omega) (Nat.le_of_ble_eq_true rfl)) ⟨Nat.zero_le _, Nat.zero_le _⟩ dX7_arrive_6 (fun I6 J6 hv => ?_)
  refine a_aload_n 0 dX7_arrive_9 rfl rfl ?_
  refine a_getR (r := 3) G_X7_19 sh_0 rfl dX7_arrive_10 ?_
  refine a_dup dX7_arrive_13 rfl ?_
  refine a_getI G_X7_139 sh_3 rfl dX7_arrive_14 ?_
  refine a_iconst (v := 1) dX7_arrive_17 (by decide) ?_
  refine a_iadd dX7_arrive_18 ?_
  refine a_putI H_X7_139 sh_3 rfl rfl rfl dX7_arrive_19 ?_
  refine a_aload_n 2 dX7_arrive_22 rfl rfl ?_
  refine a_getI G_X7_279 ho2.1 rfl dX7_arrive_23 ?_
  exact a_iret rfl dX7_arrive_26 hv
def Lp_X7_mostCrewed_31 (g : GT) (d : Nat) (v1 : Int32) (v2 : Int32) (v3 : Int32) (v4 : Int32) (I : IT) (J : JT) (P : Int32 → IT → JT → Prop) : Prop := AW (kM g d M_X7_mostCrewed 0 0 (qI g P)) 0 0 31 [(0, .ref (ga g 0)), (1, .int v1), (2, .int v2), (3, .int v3), (4, .int v4)] [] (cW g I J)
def VC_X7_mostCrewed_31 (g : GT) (d : Nat) (v1 : Int32) (v2 : Int32) (v3 : Int32) (v4 : Int32) (I : IT) (J : JT) (P : Int32 → IT → JT → Prop) : Prop :=
  ((4 ≤ v4 → P v3 I J) ∧ (¬ 4 ≤ v4 → (SemZ g (d - 1) M_X7_mayTake [.ref (ga g 0), .int v1, .int v4, .int v2] I J (fun r42 I42 J42 => ((r42 = false → (Lp_X7_mostCrewed_31 g d v1 v2 v3 (v4 + 1) I42 J42 P)) ∧ (r42 = true → (SemI g (d - 1) M_X7_mostCrewed [.ref (ga g 0), .int (v1 + 1), .int (v2 ||| (1 <<< (v4 &&& 31)))] I42 J42 (fun r60 I60 J60 => (Lp_X7_mostCrewed_31 g d v1 v2 (if v3 < (1 + r60) then (1 + r60) else v3) (v4 + 1) I60 J60 P)))))))))
set_option maxRecDepth 4000 in
theorem w_X7_mostCrewed_31 {g : GT} {d : Nat} {v1 : Int32} {v2 : Int32} {v3 : Int32} {v4 : Int32} {I : IT} {J : JT} {P : Int32 → IT → JT → Prop} (hd : 1 ≤ d) (hv : VC_X7_mostCrewed_31 g d v1 v2 v3 v4 I J P) : Lp_X7_mostCrewed_31 g d v1 v2 v3 v4 I J P := by
  unfold VC_X7_mostCrewed_31 at hv
  unfold Lp_X7_mostCrewed_31
  refine a_iload 4 dX7_mostCrewed_31 rfl ?_
  refine a_iconst (v := 4) dX7_mostCrewed_33 (by decide) ?_
  refine a_icmp_ge 74 dX7_mostCrewed_34 rfl (fun hc => ?_) (fun hc => ?_)
  · replace hv := hv.1 hc
    refine a_iload_n 3 dX7_mostCrewed_74 rfl rfl ?_
    exact a_iret rfl dX7_mostCrewed_75 hv
  · replace hv := hv.2 hc
    refine a_aload_n 0 dX7_mostCrewed_37 rfl rfl ?_
    refine a_iload_n 1 dX7_mostCrewed_38 rfl rfl ?_
    refine a_iload 4 dX7_mostCrewed_39 rfl ?_
    refine a_iload_n 2 dX7_mostCrewed_41 rfl rfl ?_
    refine c_VZ (As := [.int v1, .int v4, .int v2]) (rest := []) hv K_X7_325 sh_0 rfl rfl rfl (Nat.le_of_ble_eq_true rfl) (rok (by omega) (Nat.le_of_ble_eq_true rfl)) ⟨Nat.zero_le _, Nat.zero_le _⟩ dX7_mostCrewed_42 (fun r42 I42 J42 hv => ?_)
    refine a_ifz_eq 68 dX7_mostCrewed_45 rfl (fun hc => ?_) (fun hc => ?_)
    · replace hv := hv.1 hc
      refine a_iinc 4 (v4 + 1) [(4, .int (v4 + 1)), (0, .ref (ga g 0)), (1, .int v1), (2, .int v2), (3, .int v3)] dX7_mostCrewed_68 rfl rfl (Nat.le_of_ble_eq_true rfl) rfl ?_
      refine a_goto 31 dX7_mostCrewed_71 rfl ?_
      exact a_sub [1, 2, 3, 4, 0] rfl hv
    · replace hv := hv.2 hc
      refine a_iload_n 3 dX7_mostCrewed_48 rfl rfl ?_
      refine a_iconst (v := 1) dX7_mostCrewed_49 (by decide) ?_
      refine a_aload_n 0 dX7_mostCrewed_50 rfl rfl ?_
      refine a_iload_n 1 dX7_mostCrewed_51 rfl rfl ?_
      refine a_iconst (v := 1) dX7_mostCrewed_52 (by decide) ?_
      refine a_iadd dX7_mostCrewed_53 ?_
      refine a_iload_n 2 dX7_mostCrewed_54 rfl rfl ?_
      refine a_iconst (v := 1) dX7_mostCrewed_55 (by decide) ?_
      refine a_iload 4 dX7_mostCrewed_56 rfl ?_
      refine a_ishl dX7_mostCrewed_58 ?_
      refine a_ior dX7_mostCrewed_59 ?_
      refine c_VI (As := [.int (v1 + 1), .int (v2 ||| (1 <<< (v4 &&& 31)))]) (rest := [.int 1, .int v3]) hv K_X7_187 sh_0 rfl rfl rfl (Nat.le_of_ble_eq_true rfl) (rok (by omega) (Nat.le_of_ble_eq_true rfl)) ⟨Nat.zero_le _, Nat.zero_le _⟩ dX7_mostCrewed_60 (fun r60 I60 J60 hv => ?_)
      refine a_iadd dX7_mostCrewed_63 ?_
      refine a_mmax K_X7_328.1.1 (rokM hd (Nat.le_of_ble_eq_true rfl)) ⟨Nat.zero_le _, Nat.zero_le _⟩ dX7_mostCrewed_64 ?_
      refine a_istore_n [(3, .int (if v3 < (1 + r60) then (1 + r60) else v3)), (0, .ref (ga g 0)), (1, .int v1), (2, .int v2), (4, .int v4)] dX7_mostCrewed_67 rfl (Nat.le_of_ble_eq_true rfl) rfl ?_
      refine a_iinc 4 (v4 + 1) [(4, .int (v4 + 1)), (3, .int (if v3 < (1 + r60) then (1 + r60) else v3)), (0, .ref (ga g 0)), (1, .int v1), (2, .int v2)] dX7_mostCrewed_68 rfl rfl (Nat.le_of_ble_eq_true rfl) rfl ?_
      refine a_goto 31 dX7_mostCrewed_71 rfl ?_
      exact a_sub [2, 3, 4, 1, 0] rfl hv
def VC_X7_mostCrewed (g : GT) (d : Nat) (v1 : Int32) (v2 : Int32) (I : IT) (J : JT) (P : Int32 → IT → JT → Prop) : Prop :=
  (((I 3 6) ≤ v1 → P 0 I J) ∧ (¬ (I 3 6) ≤ v1 → ((v1 < 6 → (SemI g (d - 1) M_X7_mostCrewed [.ref (ga g 0), .int (v1 + 1), .int v2] I J (fun r24 I24 J24 => (Lp_X7_mostCrewed_31 g d v1 v2 r24 0 I24 J24 P)))) ∧ (¬ v1 < 6 → P 0 I J))))
set_option maxRecDepth 4000 in
theorem w_X7_mostCrewed {g : GT} {d : Nat} {v1 : Int32} {v2 : Int32} {I : IT} {J : JT} {P : Int32 → IT → JT → Prop} (hd : 1 ≤ d) (hv : VC_X7_mostCrewed g d v1 v2 I J P) : SemI g d M_X7_mostCrewed [.ref (ga g 0), .int v1, .int v2] I J P := by
  unfold VC_X7_mostCrewed at hv
  refine sem_intro (by decide +kernel) rfl (Nat.le_of_ble_eq_true rfl) ?_
  show AW _ 0 0 0 [(0, .ref (ga g 0)), (1, .int v1), (2, .int v2)] [] (cW g I J)
  refine a_iload_n 1 dX7_mostCrewed_0 rfl rfl ?_
  refine a_aload_n 0 dX7_mostCrewed_1 rfl rfl ?_
  refine a_getR (r := 3) G_X7_19 sh_0 rfl dX7_mostCrewed_2 ?_
  refine a_getI G_X7_90 sh_3 rfl dX7_mostCrewed_5 ?_
  refine a_icmp_ge 17 dX7_mostCrewed_8 rfl (fun hc => ?_) (fun hc => ?_)
  · replace hv := hv.1 hc
    refine a_iconst (v := 0) dX7_mostCrewed_17 (by decide) ?_
    exact a_iret rfl dX7_mostCrewed_18 hv
  · replace hv := hv.2 hc
    refine a_iload_n 1 dX7_mostCrewed_11 rfl rfl ?_
    refine a_bipush (v := 6) dX7_mostCrewed_12 (by decide) ?_
    refine a_icmp_lt 19 dX7_mostCrewed_14 rfl (fun hc => ?_) (fun hc => ?_)
    · replace hv := hv.1 hc
      refine a_aload_n 0 dX7_mostCrewed_19 rfl rfl ?_
      refine a_iload_n 1 dX7_mostCrewed_20 rfl rfl ?_
      refine a_iconst (v := 1) dX7_mostCrewed_21 (by decide) ?_
      refine a_iadd dX7_mostCrewed_22 ?_
      refine a_iload_n 2 dX7_mostCrewed_23 rfl rfl ?_
      refine c_VI (As := [.int (v1 + 1), .int v2]) (rest := []) hv K_X7_187 sh_0 rfl rfl rfl (Nat.le_of_ble_eq_true rfl) (rok (by omega) (Nat.le_of_ble_eq_true rfl)) ⟨Nat.zero_le _, Nat.zero_le _⟩ dX7_mostCrewed_24 (fun r24 I24 J24 hv => ?_)
      refine a_istore_n [(3, .int r24), (0, .ref (ga g 0)), (1, .int v1), (2, .int v2)] dX7_mostCrewed_27 rfl (Nat.le_of_ble_eq_true rfl) rfl ?_
      refine a_iconst (v := 0) dX7_mostCrewed_28 (by decide) ?_
      refine a_istore [(4, .int 0), (3, .int r24), (0, .ref (ga g 0)), (1, .int v1), (2, .int v2)] dX7_mostCrewed_29 (Nat.le_of_ble_eq_true rfl) rfl ?_
      exact a_sub [2, 3, 4, 1, 0] rfl hv
    · replace hv := hv.2 hc
      refine a_iconst (v := 0) dX7_mostCrewed_17 (by decide) ?_
      exact a_iret rfl dX7_mostCrewed_18 hv
def VC_X7_mayTake (g : GT) (d : Nat) (v1 : Int32) (v2 : Int32) (v3 : Int32) (I : IT) (J : JT) (P : Bool → IT → JT → Prop) : Prop :=
  ((¬ (v3 &&& (1 <<< (v2 &&& 31))) = 0 → P false I J) ∧ ((v3 &&& (1 <<< (v2 &&& 31))) = 0 → (SemZ g (d - 1) M_X2_trusts [.ref (ga g 3), .int v1, .int v2] I J (fun r14 I14 J14 => ((r14 = false → P false I14 J14) ∧ (r14 = true → P true I14 J14))))))
set_option maxRecDepth 4000 in
theorem w_X7_mayTake {g : GT} {d : Nat} {v1 : Int32} {v2 : Int32} {v3 : Int32} {I : IT} {J : JT} {P : Bool → IT → JT → Prop} (hd : 1 ≤ d) (hv : VC_X7_mayTake g d v1 v2 v3 I J P) : SemZ g d M_X7_mayTake [.ref (ga g 0), .int v1, .int v2, .int v3] I J P := by
  unfold VC_X7_mayTake at hv
  refine sem_intro (by decide +kernel) rfl (Nat.le_of_ble_eq_true rfl) ?_
  show AW _ 0 0 0 [(0, .ref (ga g 0)), (1, .int v1), (2, .int v2), (3, .int v3)] [] (cW g I J)
  refine a_iload_n 3 dX7_mayTake_0 rfl rfl ?_
  refine a_iconst (v := 1) dX7_mayTake_1 (by decide) ?_
  refine a_iload_n 2 dX7_mayTake_2 rfl rfl ?_
  refine a_ishl dX7_mayTake_3 ?_
  refine a_iand dX7_mayTake_4 ?_
  refine a_if_ne 24 dX7_mayTake_5 rfl (fun hc => ?_) (fun hc => ?_)
  · replace hv := hv.1 hc
    refine a_iconst (v := 0) dX7_mayTake_24 (by decide) ?_
    exact a_zret _ false (by decide) rfl dX7_mayTake_25 hv
  · replace hv := hv.2 hc
    refine a_aload_n 0 dX7_mayTake_8 rfl rfl ?_
    refine a_getR (r := 3) G_X7_19 sh_0 rfl dX7_mayTake_9 ?_
    refine a_iload_n 1 dX7_mayTake_12 rfl rfl ?_
    refine a_iload_n 2 dX7_mayTake_13 rfl rfl ?_
    refine c_VZ (As := [.int v1, .int v2]) (rest := []) hv K_X7_171 sh_3 rfl rfl rfl (Nat.le_of_ble_eq_true rfl) (rok (by omega) (Nat.le_of_ble_eq_true rfl)) ⟨Nat.zero_le _, Nat.zero_le _⟩ dX7_mayTake_14 (fun r14 I14 J14 hv => ?_)
    refine a_ifz_eq 24 dX7_mayTake_17 rfl (fun hc => ?_) (fun hc => ?_)
    · replace hv := hv.1 hc
      refine a_iconst (v := 0) dX7_mayTake_24 (by decide) ?_
      exact a_zret _ false (by decide) rfl dX7_mayTake_25 hv
    · replace hv := hv.2 hc
      refine a_iconst (v := 1) dX7_mayTake_20 (by decide) ?_
      refine a_goto 25 dX7_mayTake_21 rfl ?_
      exact a_zret _ true (by decide) rfl dX7_mayTake_25 hv
def Lp_X7_crewOf_4 (g : GT) (d : Nat) (v1 : Int32) (v2 : Int32) (v3 : Int32) (I : IT) (J : JT) (P : Int32 → IT → JT → Prop) : Prop := AW (kM g d M_X7_crewOf 0 0 (qI g P)) 0 0 4 [(0, .ref (ga g 0)), (1, .int v1), (2, .int v2), (3, .int v3)] [] (cW g I J)
def VC_X7_crewOf_4 (g : GT) (d : Nat) (v1 : Int32) (v2 : Int32) (v3 : Int32) (I : IT) (J : JT) (P : Int32 → IT → JT → Prop) : Prop :=
  ((v1 ≤ v3 → (SemI g (d - 1) M_X7_firstTeller [.ref (ga g 0), .int v1, .int v2] I J (fun r38 I38 J38 => P r38 I38 J38))) ∧ (¬ v1 ≤ v3 → (SemI g (d - 1) M_X7_firstTeller [.ref (ga g 0), .int v3, .int v2] I J (fun r12 I12 J12 => ((r12 < 0 → (Lp_X7_crewOf_4 g d v1 v2 (v3 + 1) I12 J12 P)) ∧ (¬ r12 < 0 → (Lp_X7_crewOf_4 g d v1 (v2 ||| (1 <<< (r12 &&& 31))) (v3 + 1) I12 J12 P)))))))
set_option maxRecDepth 4000 in
theorem w_X7_crewOf_4 {g : GT} {d : Nat} {v1 : Int32} {v2 : Int32} {v3 : Int32} {I : IT} {J : JT} {P : Int32 → IT → JT → Prop} (hd : 1 ≤ d) (hv : VC_X7_crewOf_4 g d v1 v2 v3 I J P) : Lp_X7_crewOf_4 g d v1 v2 v3 I J P := by
  unfold VC_X7_crewOf_4 at hv
  unfold Lp_X7_crewOf_4
  refine a_iload_n 3 dX7_crewOf_4 rfl rfl ?_
  refine a_iload_n 1 dX7_crewOf_5 rfl rfl ?_
  refine a_icmp_ge 35 dX7_crewOf_6 rfl (fun hc => ?_) (fun hc => ?_)
  · replace hv := hv.1 hc
    refine a_aload_n 0 dX7_crewOf_35 rfl rfl ?_
    refine a_iload_n 1 dX7_crewOf_36 rfl rfl ?_
    refine a_iload_n 2 dX7_crewOf_37 rfl rfl ?_
    refine c_VI (As := [.int v1, .int v2]) (rest := []) hv K_X7_333 sh_0 rfl rfl rfl (Nat.le_of_ble_eq_true rfl) (rok (by omega) (Nat.le_of_ble_eq_true rfl)) ⟨Nat.zero_le _, Nat.zero_le _⟩ dX7_crewOf_38 (fun r38 I38 J38 hv => ?_)
    exact a_iret rfl dX7_crewOf_41 hv
  · replace hv := hv.2 hc
    refine a_aload_n 0 dX7_crewOf_9 rfl rfl ?_
    refine a_iload_n 3 dX7_crewOf_10 rfl rfl ?_
    refine a_iload_n 2 dX7_crewOf_11 rfl rfl ?_
    refine c_VI (As := [.int v3, .int v2]) (rest := []) hv K_X7_333 sh_0 rfl rfl rfl (Nat.le_of_ble_eq_true rfl) (rok (by omega) (Nat.le_of_ble_eq_true rfl)) ⟨Nat.zero_le _, Nat.zero_le _⟩ dX7_crewOf_12 (fun r12 I12 J12 hv => ?_)
    refine a_istore [(4, .int r12), (0, .ref (ga g 0)), (1, .int v1), (2, .int v2), (3, .int v3)] dX7_crewOf_15 (Nat.le_of_ble_eq_true rfl) rfl ?_
    refine a_iload 0 dX7_crewOf_17 rfl ?_
    refine a_if_lt 29 dX7_crewOf_19 rfl (fun hc => ?_) (fun hc => ?_)
    · replace hv := hv.1 hc
      refine a_iinc 4 (v3 + 1) [(3, .int (v3 + 1)), (4, .int r12), (0, .ref (ga g 0)), (1, .int v1), (2, .int v2)] dX7_crewOf_29 rfl rfl (Nat.le_of_ble_eq_true rfl) rfl ?_
      refine a_goto 4 dX7_crewOf_32 rfl ?_
      exact a_sub [2, 3, 4, 0] rfl hv
    · replace hv := hv.2 hc
      refine a_iload_n 3 dX7_crewOf_22 rfl rfl ?_
      refine a_iconst (v := 1) dX7_crewOf_23 (by decide) ?_
      refine a_iload 0 dX7_crewOf_24 rfl ?_
      refine a_ishl dX7_crewOf_26 ?_
      refine a_ior dX7_crewOf_27 ?_
      refine a_istore_n [(2, .int (v2 ||| (1 <<< (r12 &&& 31)))), (4, .int r12), (0, .ref (ga g 0)), (1, .int v1), (3, .int v3)] dX7_crewOf_28 rfl (Nat.le_of_ble_eq_true rfl) rfl ?_
      refine a_iinc 4 (v3 + 1) [(3, .int (v3 + 1)), (2, .int (v2 ||| (1 <<< (r12 &&& 31)))), (4, .int r12), (0, .ref (ga g 0)), (1, .int v1)] dX7_crewOf_29 rfl rfl (Nat.le_of_ble_eq_true rfl) rfl ?_
      refine a_goto 4 dX7_crewOf_32 rfl ?_
      exact a_sub [3, 4, 1, 0] rfl hv
def VC_X7_crewOf (g : GT) (d : Nat) (v1 : Int32) (I : IT) (J : JT) (P : Int32 → IT → JT → Prop) : Prop :=
  (Lp_X7_crewOf_4 g d v1 0 0 I J P)
set_option maxRecDepth 4000 in
theorem w_X7_crewOf {g : GT} {d : Nat} {v1 : Int32} {I : IT} {J : JT} {P : Int32 → IT → JT → Prop} (hv : VC_X7_crewOf g d v1 I J P) : SemI g d M_X7_crewOf [.ref (ga g 0), .int v1] I J P := by
  unfold VC_X7_crewOf at hv
  refine sem_intro (by decide +kernel) rfl (Nat.le_of_ble_eq_true rfl) ?_
  show AW _ 0 0 0 [(0, .ref (ga g 0)), (1, .int v1)] [] (cW g I J)
  refine a_iconst (v := 0) dX7_crewOf_0 (by decide) ?_
  refine a_istore_n [(2, .int 0), (0, .ref (ga g 0)), (1, .int v1)] dX7_crewOf_1 rfl (Nat.le_of_ble_eq_true rfl) rfl ?_
  refine a_iconst (v := 0) dX7_crewOf_2 (by decide) ?_
  refine a_istore_n [(3, .int 0), (2, .int 0), (0, .ref (ga g 0)), (1, .int v1)] dX7_crewOf_3 rfl (Nat.le_of_ble_eq_true rfl) rfl ?_
  exact a_sub [2, 3, 1, 0] rfl hv
def Lp_X7_firstTeller_10 (g : GT) (d : Nat) (v1 : Int32) (v2 : Int32) (v3 : Int32) (v4 : Int32) (I : IT) (J : JT) (P : Int32 → IT → JT → Prop) : Prop := AW (kM g d M_X7_firstTeller 0 0 (qI g P)) 0 0 10 [(0, .ref (ga g 0)), (1, .int v1), (2, .int v2), (3, .int v3), (4, .int v4)] [] (cW g I J)
def VC_X7_firstTeller_10 (g : GT) (d : Nat) (v1 : Int32) (v2 : Int32) (v3 : Int32) (v4 : Int32) (I : IT) (J : JT) (P : Int32 → IT → JT → Prop) : Prop :=
  ((4 ≤ v4 → P (-4) I J) ∧ (¬ 4 ≤ v4 → (SemZ g (d - 1) M_X7_mayTake [.ref (ga g 0), .int v1, .int v4, .int v2] I J (fun r21 I21 J21 => ((r21 = false → (Lp_X7_firstTeller_10 g d v1 v2 v3 (v4 + 1) I21 J21 P)) ∧ (r21 = true → (SemI g (d - 1) M_X7_mostCrewed [.ref (ga g 0), .int (v1 + 1), .int (v2 ||| (1 <<< (v4 &&& 31)))] I21 J21 (fun r38 I38 J38 => ((¬ (1 + r38) = v3 → (Lp_X7_firstTeller_10 g d v1 v2 v3 (v4 + 1) I38 J38 P)) ∧ ((1 + r38) = v3 → P v4 I38 J38))))))))))
set_option maxRecDepth 4000 in
theorem w_X7_firstTeller_10 {g : GT} {d : Nat} {v1 : Int32} {v2 : Int32} {v3 : Int32} {v4 : Int32} {I : IT} {J : JT} {P : Int32 → IT → JT → Prop} (hd : 1 ≤ d) (hv : VC_X7_firstTeller_10 g d v1 v2 v3 v4 I J P) : Lp_X7_firstTeller_10 g d v1 v2 v3 v4 I J P := by
  unfold VC_X7_firstTeller_10 at hv
  unfold Lp_X7_firstTeller_10
  refine a_iload 4 dX7_firstTeller_10 rfl ?_
  refine a_iconst (v := 4) dX7_firstTeller_12 (by decide) ?_
  refine a_icmp_ge 55 dX7_firstTeller_13 rfl (fun hc => ?_) (fun hc => ?_)
  · replace hv := hv.1 hc
    refine a_bipush (v := (-4)) dX7_firstTeller_55 (by decide) ?_
    exact a_iret rfl dX7_firstTeller_57 hv
  · replace hv := hv.2 hc
    refine a_aload_n 0 dX7_firstTeller_16 rfl rfl ?_
    refine a_iload_n 1 dX7_firstTeller_17 rfl rfl ?_
    refine a_iload 4 dX7_firstTeller_18 rfl ?_
    refine a_iload_n 2 dX7_firstTeller_20 rfl rfl ?_
    refine c_VZ (As := [.int v1, .int v4, .int v2]) (rest := []) hv K_X7_325 sh_0 rfl rfl rfl (Nat.le_of_ble_eq_true rfl) (rok (by omega) (Nat.le_of_ble_eq_true rfl)) ⟨Nat.zero_le _, Nat.zero_le _⟩ dX7_firstTeller_21 (fun r21 I21 J21 hv => ?_)
    refine a_ifz_eq 49 dX7_firstTeller_24 rfl (fun hc => ?_) (fun hc => ?_)
    · replace hv := hv.1 hc
      refine a_iinc 4 (v4 + 1) [(4, .int (v4 + 1)), (0, .ref (ga g 0)), (1, .int v1), (2, .int v2), (3, .int v3)] dX7_firstTeller_49 rfl rfl (Nat.le_of_ble_eq_true rfl) rfl ?_
      refine a_goto 10 dX7_firstTeller_52 rfl ?_
      exact a_sub [1, 2, 3, 4, 0] rfl hv
    · replace hv := hv.2 hc
      refine a_iconst (v := 1) dX7_firstTeller_27 (by decide) ?_
      refine a_aload_n 0 dX7_firstTeller_28 rfl rfl ?_
      refine a_iload_n 1 dX7_firstTeller_29 rfl rfl ?_
      refine a_iconst (v := 1) dX7_firstTeller_30 (by decide) ?_
      refine a_iadd dX7_firstTeller_31 ?_
      refine a_iload_n 2 dX7_firstTeller_32 rfl rfl ?_
      refine a_iconst (v := 1) dX7_firstTeller_33 (by decide) ?_
      refine a_iload 4 dX7_firstTeller_34 rfl ?_
      refine a_ishl dX7_firstTeller_36 ?_
      refine a_ior dX7_firstTeller_37 ?_
      refine c_VI (As := [.int (v1 + 1), .int (v2 ||| (1 <<< (v4 &&& 31)))]) (rest := [.int 1]) hv K_X7_187 sh_0 rfl rfl rfl (Nat.le_of_ble_eq_true rfl) (rok (by omega) (Nat.le_of_ble_eq_true rfl)) ⟨Nat.zero_le _, Nat.zero_le _⟩ dX7_firstTeller_38 (fun r38 I38 J38 hv => ?_)
      refine a_iadd dX7_firstTeller_41 ?_
      refine a_iload_n 3 dX7_firstTeller_42 rfl rfl ?_
      refine a_icmp_ne 49 dX7_firstTeller_43 rfl (fun hc => ?_) (fun hc => ?_)
      · replace hv := hv.1 hc
        refine a_iinc 4 (v4 + 1) [(4, .int (v4 + 1)), (0, .ref (ga g 0)), (1, .int v1), (2, .int v2), (3, .int v3)] dX7_firstTeller_49 rfl rfl (Nat.le_of_ble_eq_true rfl) rfl ?_
        refine a_goto 10 dX7_firstTeller_52 rfl ?_
        exact a_sub [1, 2, 3, 4, 0] rfl hv
      · replace hv := hv.2 hc
        refine a_iload 4 dX7_firstTeller_46 rfl ?_
        exact a_iret rfl dX7_firstTeller_48 hv
def VC_X7_firstTeller (g : GT) (d : Nat) (v1 : Int32) (v2 : Int32) (I : IT) (J : JT) (P : Int32 → IT → JT → Prop) : Prop :=
  (SemI g (d - 1) M_X7_mostCrewed [.ref (ga g 0), .int v1, .int v2] I J (fun r3 I3 J3 => (Lp_X7_firstTeller_10 g d v1 v2 r3 0 I3 J3 P)))
set_option maxRecDepth 4000 in
theorem w_X7_firstTeller {g : GT} {d : Nat} {v1 : Int32} {v2 : Int32} {I : IT} {J : JT} {P : Int32 → IT → JT → Prop} (hd : 1 ≤ d) (hv : VC_X7_firstTeller g d v1 v2 I J P) : SemI g d M_X7_firstTeller [.ref (ga g 0), .int v1, .int v2] I J P := by
  unfold VC_X7_firstTeller at hv
  refine sem_intro (by decide +kernel) rfl (Nat.le_of_ble_eq_true rfl) ?_
  show AW _ 0 0 0 [(0, .ref (ga g 0)), (1, .int v1), (2, .int v2)] [] (cW g I J)
  refine a_aload_n 0 dX7_firstTeller_0 rfl rfl ?_
  refine a_iload_n 1 dX7_firstTeller_1 rfl rfl ?_
  refine a_iload_n 2 dX7_firstTeller_2 rfl rfl ?_
  refine c_VI (As := [.int v1, .int v2]) (rest := []) hv K_X7_187 sh_0 rfl rfl rfl (Nat.le_of_ble_eq_true rfl) (rok (by omega) (Nat.le_of_ble_eq_true rfl)) ⟨Nat.zero_le _, Nat.zero_le _⟩ dX7_firstTeller_3 (fun r3 I3 J3 hv => ?_)
  refine a_istore_n [(3, .int r3), (0, .ref (ga g 0)), (1, .int v1), (2, .int v2)] dX7_firstTeller_6 rfl (Nat.le_of_ble_eq_true rfl) rfl ?_
  refine a_iconst (v := 0) dX7_firstTeller_7 (by decide) ?_
  refine a_istore [(4, .int 0), (3, .int r3), (0, .ref (ga g 0)), (1, .int v1), (2, .int v2)] dX7_firstTeller_8 (Nat.le_of_ble_eq_true rfl) rfl ?_
  exact a_sub [2, 3, 4, 1, 0] rfl hv
def VC_X7_nextVoyage (g : GT) (d : Nat) (v1 : Int32) (I : IT) (J : JT) (P : Nat → IT → JT → Prop) : Prop :=
  (vp_in (v1 + 1) 7 ∧ (vp_in v1 7 ∧ (SemV g (d - 1) M_X6_follow [.ref (ga g (96 + 2 * (v1 + 1).toNatClampNeg)), .ref (ga g (96 + 2 * v1.toNatClampNeg))] I J (fun I16 J16 => P (96 + 2 * (v1 + 1).toNatClampNeg) I16 J16))))
set_option maxRecDepth 4000 in
theorem w_X7_nextVoyage {g : GT} {d : Nat} {v1 : Int32} {I : IT} {J : JT} {P : Nat → IT → JT → Prop} (hd : 1 ≤ d) (hv : VC_X7_nextVoyage g d v1 I J P) : SemR g d M_X7_nextVoyage [.ref (ga g 0), .int v1] I J P := by
  unfold VC_X7_nextVoyage at hv
  refine sem_intro (by decide +kernel) rfl (Nat.le_of_ble_eq_true rfl) ?_
  show AW _ 0 0 0 [(0, .ref (ga g 0)), (1, .int v1)] [] (cW g I J)
  refine a_aload_n 0 dX7_nextVoyage_0 rfl rfl ?_
  refine a_getR (r := 72) G_X7_45 sh_0 rfl dX7_nextVoyage_1 ?_
  refine a_iload_n 1 dX7_nextVoyage_4 rfl rfl ?_
  refine a_iconst (v := 1) dX7_nextVoyage_5 (by decide) ?_
  refine a_iadd dX7_nextVoyage_6 ?_
  have hi7 := hv.1
  refine a_aald (r := (96 + 2 * (v1 + 1).toNatClampNeg)) sh_72 (by decide) hi7 (r_72 hi7) dX7_nextVoyage_7 ?_
  replace hv := hv.2
  refine a_astore_n [(2, .ref (ga g (96 + 2 * (v1 + 1).toNatClampNeg))), (0, .ref (ga g 0)), (1, .int v1)] dX7_nextVoyage_8 rfl (Nat.le_of_ble_eq_true rfl) rfl ?_
  refine a_aload_n 0 dX7_nextVoyage_9 rfl rfl ?_
  refine a_aload_n 1 dX7_nextVoyage_10 rfl rfl ?_
  refine a_getR (r := 72) G_X7_45 sh_0 rfl dX7_nextVoyage_11 ?_
  refine a_iload_n 2 dX7_nextVoyage_14 rfl rfl ?_
  have hi15 := hv.1
  refine a_aald (r := (96 + 2 * v1.toNatClampNeg)) sh_72 (by decide) hi15 (r_72 hi15) dX7_nextVoyage_15 ?_
  replace hv := hv.2
  refine c_VV (As := [.ref (ga g (96 + 2 * v1.toNatClampNeg))]) (rest := []) hv K_X7_336 (o_72 hi7).1 rfl rfl rfl (Nat.le_of_ble_eq_true rfl) (rok (by omega) (Nat.le_of_ble_eq_true rfl)) ⟨Nat.zero_le _, Nat.zero_le _⟩ dX7_nextVoyage_16 (fun I16 J16 hv => ?_)
  refine a_aload_n 0 dX7_nextVoyage_19 rfl rfl ?_
  exact a_aret rfl dX7_nextVoyage_20 hv
def VC_X7_canGoDeeper (g : GT) (d : Nat) (v1 : Int32) (v2 : Int32) (I : IT) (J : JT) (P : Bool → IT → JT → Prop) : Prop :=
  ((v1 < 0 → P false I J) ∧ (¬ v1 < 0 → ((v2 ≤ v1 → P false I J) ∧ (¬ v2 ≤ v1 → ((7 ≤ (v1 + 1) → P false I J) ∧ (¬ 7 ≤ (v1 + 1) → P true I J))))))
set_option maxRecDepth 4000 in
theorem w_X7_canGoDeeper {g : GT} {d : Nat} {v1 : Int32} {v2 : Int32} {I : IT} {J : JT} {P : Bool → IT → JT → Prop} (hv : VC_X7_canGoDeeper g d v1 v2 I J P) : SemZ g d M_X7_canGoDeeper [.ref (ga g 0), .int v1, .int v2] I J P := by
  unfold VC_X7_canGoDeeper at hv
  refine sem_intro (by decide +kernel) rfl (Nat.le_of_ble_eq_true rfl) ?_
  show AW _ 0 0 0 [(0, .ref (ga g 0)), (1, .int v1), (2, .int v2)] [] (cW g I J)
  refine a_iload_n 1 dX7_canGoDeeper_0 rfl rfl ?_
  refine a_if_lt 24 dX7_canGoDeeper_1 rfl (fun hc => ?_) (fun hc => ?_)
  · replace hv := hv.1 hc
    refine a_iconst (v := 0) dX7_canGoDeeper_24 (by decide) ?_
    exact a_zret _ false (by decide) rfl dX7_canGoDeeper_25 hv
  · replace hv := hv.2 hc
    refine a_iload_n 1 dX7_canGoDeeper_4 rfl rfl ?_
    refine a_iload_n 2 dX7_canGoDeeper_5 rfl rfl ?_
    refine a_icmp_ge 24 dX7_canGoDeeper_6 rfl (fun hc => ?_) (fun hc => ?_)
    · replace hv := hv.1 hc
      refine a_iconst (v := 0) dX7_canGoDeeper_24 (by decide) ?_
      exact a_zret _ false (by decide) rfl dX7_canGoDeeper_25 hv
    · replace hv := hv.2 hc
      refine a_iload_n 1 dX7_canGoDeeper_9 rfl rfl ?_
      refine a_iconst (v := 1) dX7_canGoDeeper_10 (by decide) ?_
      refine a_iadd dX7_canGoDeeper_11 ?_
      refine a_aload_n 0 dX7_canGoDeeper_12 rfl rfl ?_
      refine a_getR (r := 72) G_X7_45 sh_0 rfl dX7_canGoDeeper_13 ?_
      refine a_alen 7 sh_72 (by decide) (by decide) dX7_canGoDeeper_16 ?_
      refine a_icmp_ge 24 dX7_canGoDeeper_17 rfl (fun hc => ?_) (fun hc => ?_)
      · replace hv := hv.1 hc
        refine a_iconst (v := 0) dX7_canGoDeeper_24 (by decide) ?_
        exact a_zret _ false (by decide) rfl dX7_canGoDeeper_25 hv
      · replace hv := hv.2 hc
        refine a_iconst (v := 1) dX7_canGoDeeper_20 (by decide) ?_
        refine a_goto 25 dX7_canGoDeeper_21 rfl ?_
        exact a_zret _ true (by decide) rfl dX7_canGoDeeper_25 hv
def Lp_X7_talked_48 (g : GT) (d : Nat) (v1 : Int32) (v2 : Int32) (v3 : Int32) (v4 : Int32) (b5 : Bool) (v6 : Int32) (v7 : Int32) (I : IT) (J : JT) (P : Int32 → IT → JT → Prop) : Prop := AW (kM g d M_X7_talked 0 0 (qI g P)) 0 0 48 [(0, .ref (ga g 0)), (1, .int v1), (2, .int v2), (3, .int v3), (4, .int v4), (5, .int (bI b5)), (6, .int v6), (7, .int v7)] [] (cW g I J)
def VC_X7_talked_48 (g : GT) (d : Nat) (v1 : Int32) (v2 : Int32) (v3 : Int32) (v4 : Int32) (b5 : Bool) (v6 : Int32) (v7 : Int32) (I : IT) (J : JT) (P : Int32 → IT → JT → Prop) : Prop :=
  ((3 ≤ v7 → P v6 I J) ∧ (¬ 3 ≤ v7 → (SemR g (d - 1) M_X7_nextVoyage [.ref (ga g 0), .int v1] I J (fun r56 I56 J56 => (isV r56 ∧ ((b5 = false → (SemV g (d - 1) M_X6_hear [.ref (ga g r56), .int v4, .int v7] I56 J56 (fun I72 J72 => (SemI g (d - 1) M_X7_talked [.ref (ga g 0), .int (v1 + 1), .int v2, .int v3, .int v4] I72 J72 (fun r83 I83 J83 => ((v6 < 0 → (Lp_X7_talked_48 g d v1 v2 v3 v4 b5 r83 (v7 + 1) I83 J83 P)) ∧ (¬ v6 < 0 → ((b5 = false → ((r83 ≤ v6 → (Lp_X7_talked_48 g d v1 v2 v3 v4 b5 v6 (v7 + 1) I83 J83 P)) ∧ (¬ r83 ≤ v6 → (Lp_X7_talked_48 g d v1 v2 v3 v4 b5 r83 (v7 + 1) I83 J83 P)))) ∧ (b5 = true → ((v6 ≤ r83 → (Lp_X7_talked_48 g d v1 v2 v3 v4 b5 v6 (v7 + 1) I83 J83 P)) ∧ (¬ v6 ≤ r83 → (Lp_X7_talked_48 g d v1 v2 v3 v4 b5 r83 (v7 + 1) I83 J83 P)))))))))))) ∧ (b5 = true → (SemV g (d - 1) M_X6_hear [.ref (ga g r56), .int v3, .int v7] I56 J56 (fun I72 J72 => (SemI g (d - 1) M_X7_talked [.ref (ga g 0), .int (v1 + 1), .int v2, .int v3, .int v4] I72 J72 (fun r83 I83 J83 => ((v6 < 0 → (Lp_X7_talked_48 g d v1 v2 v3 v4 b5 r83 (v7 + 1) I83 J83 P)) ∧ (¬ v6 < 0 → ((b5 = false → ((r83 ≤ v6 → (Lp_X7_talked_48 g d v1 v2 v3 v4 b5 v6 (v7 + 1) I83 J83 P)) ∧ (¬ r83 ≤ v6 → (Lp_X7_talked_48 g d v1 v2 v3 v4 b5 r83 (v7 + 1) I83 J83 P)))) ∧ (b5 = true → ((v6 ≤ r83 → (Lp_X7_talked_48 g d v1 v2 v3 v4 b5 v6 (v7 + 1) I83 J83 P)) ∧ (¬ v6 ≤ r83 → (Lp_X7_talked_48 g d v1 v2 v3 v4 b5 r83 (v7 + 1) I83 J83 P))))))))))))))))))
set_option maxRecDepth 4000 in
theorem w_X7_talked_48 {g : GT} {d : Nat} {v1 : Int32} {v2 : Int32} {v3 : Int32} {v4 : Int32} {b5 : Bool} {v6 : Int32} {v7 : Int32} {I : IT} {J : JT} {P : Int32 → IT → JT → Prop} (hd : 1 ≤ d) (hv : VC_X7_talked_48 g d v1 v2 v3 v4 b5 v6 v7 I J P) : Lp_X7_talked_48 g d v1 v2 v3 v4 b5 v6 v7 I J P := by
  unfold VC_X7_talked_48 at hv
  unfold Lp_X7_talked_48
  refine a_iload 7 dX7_talked_48 rfl ?_
  refine a_iconst (v := 3) dX7_talked_50 (by decide) ?_
  refine a_icmp_ge 125 dX7_talked_51 rfl (fun hc => ?_) (fun hc => ?_)
  · replace hv := hv.1 hc
    refine a_iload 6 dX7_talked_125 rfl ?_
    exact a_iret rfl dX7_talked_127 hv
  · replace hv := hv.2 hc
    refine a_aload_n 0 dX7_talked_54 rfl rfl ?_
    refine a_iload_n 1 dX7_talked_55 rfl rfl ?_
    refine c_VR (As := [.int v1]) (rest := []) hv K_X7_346 sh_0 rfl rfl rfl (Nat.le_of_ble_eq_true rfl) (rok (by omega) (Nat.le_of_ble_eq_true rfl)) ⟨Nat.zero_le _, Nat.zero_le _⟩ dX7_talked_56 (fun r56 I56 J56 hv => ?_)
    have hr56 := hv.1
    replace hv := hv.2
    refine a_iload 5 dX7_talked_59 rfl ?_
    refine a_ifz_eq 68 dX7_talked_61 rfl (fun hc => ?_) (fun hc => ?_)
    · replace hv := hv.1 hc
      refine a_iload 4 dX7_talked_68 rfl ?_
      refine a_iload 7 dX7_talked_70 rfl ?_
      refine c_VV (As := [.int v4, .int v7]) (rest := []) hv K_X7_146 hr56.1 rfl rfl rfl (Nat.le_of_ble_eq_true rfl) (rok (by omega) (Nat.le_of_ble_eq_true rfl)) ⟨Nat.zero_le _, Nat.zero_le _⟩ dX7_talked_72 (fun I72 J72 hv => ?_)
      refine a_aload_n 0 dX7_talked_75 rfl rfl ?_
      refine a_iload_n 1 dX7_talked_76 rfl rfl ?_
      refine a_iconst (v := 1) dX7_talked_77 (by decide) ?_
      refine a_iadd dX7_talked_78 ?_
      refine a_iload_n 2 dX7_talked_79 rfl rfl ?_
      refine a_iload_n 3 dX7_talked_80 rfl rfl ?_
      refine a_iload 4 dX7_talked_81 rfl ?_
      refine c_VI (As := [.int (v1 + 1), .int v2, .int v3, .int v4]) (rest := []) hv K_X7_210 sh_0 rfl rfl rfl (Nat.le_of_ble_eq_true rfl) (rok (by omega) (Nat.le_of_ble_eq_true rfl)) ⟨Nat.zero_le _, Nat.zero_le _⟩ dX7_talked_83 (fun r83 I83 J83 hv => ?_)
      refine a_istore [(8, .int r83), (0, .ref (ga g 0)), (1, .int v1), (2, .int v2), (3, .int v3), (4, .int v4), (5, .int (bI b5)), (6, .int v6), (7, .int v7)] dX7_talked_86 (Nat.le_of_ble_eq_true rfl) rfl ?_
      refine a_iload 7 dX7_talked_88 rfl ?_
      refine a_if_lt 115 dX7_talked_90 rfl (fun hc => ?_) (fun hc => ?_)
      · replace hv := hv.1 hc
        refine a_iload 0 dX7_talked_115 rfl ?_
        refine a_istore [(6, .int r83), (8, .int r83), (0, .ref (ga g 0)), (1, .int v1), (2, .int v2), (3, .int v3), (4, .int v4), (5, .int (bI b5)), (7, .int v7)] dX7_talked_117 (Nat.le_of_ble_eq_true rfl) rfl ?_
        refine a_iinc 8 (v7 + 1) [(7, .int (v7 + 1)), (6, .int r83), (8, .int r83), (0, .ref (ga g 0)), (1, .int v1), (2, .int v2), (3, .int v3), (4, .int v4), (5, .int (bI b5))] dX7_talked_119 rfl rfl (Nat.le_of_ble_eq_true rfl) rfl ?_
        refine a_goto 48 dX7_talked_122 rfl ?_
        exact a_sub [3, 4, 5, 6, 7, 8, 1, 0] rfl hv
      · replace hv := hv.2 hc
        refine a_iload 6 dX7_talked_93 rfl ?_
        refine a_ifz_eq 108 dX7_talked_95 rfl (fun hc => ?_) (fun hc => ?_)
        · replace hv := hv.1 hc
          refine a_iload 0 dX7_talked_108 rfl ?_
          refine a_iload 7 dX7_talked_110 rfl ?_
          refine a_icmp_le 119 dX7_talked_112 rfl (fun hc => ?_) (fun hc => ?_)
          · replace hv := hv.1 hc
            refine a_iinc 8 (v7 + 1) [(7, .int (v7 + 1)), (8, .int r83), (0, .ref (ga g 0)), (1, .int v1), (2, .int v2), (3, .int v3), (4, .int v4), (5, .int (bI b5)), (6, .int v6)] dX7_talked_119 rfl rfl (Nat.le_of_ble_eq_true rfl) rfl ?_
            refine a_goto 48 dX7_talked_122 rfl ?_
            exact a_sub [2, 3, 4, 5, 6, 7, 8, 0] rfl hv
          · replace hv := hv.2 hc
            refine a_iload 0 dX7_talked_115 rfl ?_
            refine a_istore [(6, .int r83), (8, .int r83), (0, .ref (ga g 0)), (1, .int v1), (2, .int v2), (3, .int v3), (4, .int v4), (5, .int (bI b5)), (7, .int v7)] dX7_talked_117 (Nat.le_of_ble_eq_true rfl) rfl ?_
            refine a_iinc 8 (v7 + 1) [(7, .int (v7 + 1)), (6, .int r83), (8, .int r83), (0, .ref (ga g 0)), (1, .int v1), (2, .int v2), (3, .int v3), (4, .int v4), (5, .int (bI b5))] dX7_talked_119 rfl rfl (Nat.le_of_ble_eq_true rfl) rfl ?_
            refine a_goto 48 dX7_talked_122 rfl ?_
            exact a_sub [3, 4, 5, 6, 7, 8, 1, 0] rfl hv
        · replace hv := hv.2 hc
          refine a_iload 0 dX7_talked_98 rfl ?_
          refine a_iload 7 dX7_talked_100 rfl ?_
          refine a_icmp_ge 119 dX7_talked_102 rfl (fun hc => ?_) (fun hc => ?_)
          · replace hv := hv.1 hc
            refine a_iinc 8 (v7 + 1) [(7, .int (v7 + 1)), (8, .int r83), (0, .ref (ga g 0)), (1, .int v1), (2, .int v2), (3, .int v3), (4, .int v4), (5, .int (bI b5)), (6, .int v6)] dX7_talked_119 rfl rfl (Nat.le_of_ble_eq_true rfl) rfl ?_
            refine a_goto 48 dX7_talked_122 rfl ?_
            exact a_sub [2, 3, 4, 5, 6, 7, 8, 0] rfl hv
          · replace hv := hv.2 hc
            refine a_goto 115 dX7_talked_105 rfl ?_
            refine a_iload 0 dX7_talked_115 rfl ?_
            refine a_istore [(6, .int r83), (8, .int r83), (0, .ref (ga g 0)), (1, .int v1), (2, .int v2), (3, .int v3), (4, .int v4), (5, .int (bI b5)), (7, .int v7)] dX7_talked_117 (Nat.le_of_ble_eq_true rfl) rfl ?_
            refine a_iinc 8 (v7 + 1) [(7, .int (v7 + 1)), (6, .int r83), (8, .int r83), (0, .ref (ga g 0)), (1, .int v1), (2, .int v2), (3, .int v3), (4, .int v4), (5, .int (bI b5))] dX7_talked_119 rfl rfl (Nat.le_of_ble_eq_true rfl) rfl ?_
            refine a_goto 48 dX7_talked_122 rfl ?_
            exact a_sub [3, 4, 5, 6, 7, 8, 1, 0] rfl hv
    · replace hv := hv.2 hc
      refine a_iload_n 3 dX7_talked_64 rfl rfl ?_
      refine a_goto 70 dX7_talked_65 rfl ?_
      refine a_iload 7 dX7_talked_70 rfl ?_
      refine c_VV (As := [.int v3, .int v7]) (rest := []) hv K_X7_146 hr56.1 rfl rfl rfl (Nat.le_of_ble_eq_true rfl) (rok (by omega) (Nat.le_of_ble_eq_true rfl)) ⟨Nat.zero_le _, Nat.zero_le _⟩ dX7_talked_72 (fun I72 J72 hv => ?_)
      refine a_aload_n 0 dX7_talked_75 rfl rfl ?_
      refine a_iload_n 1 dX7_talked_76 rfl rfl ?_
      refine a_iconst (v := 1) dX7_talked_77 (by decide) ?_
      refine a_iadd dX7_talked_78 ?_
      refine a_iload_n 2 dX7_talked_79 rfl rfl ?_
      refine a_iload_n 3 dX7_talked_80 rfl rfl ?_
      refine a_iload 4 dX7_talked_81 rfl ?_
      refine c_VI (As := [.int (v1 + 1), .int v2, .int v3, .int v4]) (rest := []) hv K_X7_210 sh_0 rfl rfl rfl (Nat.le_of_ble_eq_true rfl) (rok (by omega) (Nat.le_of_ble_eq_true rfl)) ⟨Nat.zero_le _, Nat.zero_le _⟩ dX7_talked_83 (fun r83 I83 J83 hv => ?_)
      refine a_istore [(8, .int r83), (0, .ref (ga g 0)), (1, .int v1), (2, .int v2), (3, .int v3), (4, .int v4), (5, .int (bI b5)), (6, .int v6), (7, .int v7)] dX7_talked_86 (Nat.le_of_ble_eq_true rfl) rfl ?_
      refine a_iload 7 dX7_talked_88 rfl ?_
      refine a_if_lt 115 dX7_talked_90 rfl (fun hc => ?_) (fun hc => ?_)
      · replace hv := hv.1 hc
        refine a_iload 0 dX7_talked_115 rfl ?_
        refine a_istore [(6, .int r83), (8, .int r83), (0, .ref (ga g 0)), (1, .int v1), (2, .int v2), (3, .int v3), (4, .int v4), (5, .int (bI b5)), (7, .int v7)] dX7_talked_117 (Nat.le_of_ble_eq_true rfl) rfl ?_
        refine a_iinc 8 (v7 + 1) [(7, .int (v7 + 1)), (6, .int r83), (8, .int r83), (0, .ref (ga g 0)), (1, .int v1), (2, .int v2), (3, .int v3), (4, .int v4), (5, .int (bI b5))] dX7_talked_119 rfl rfl (Nat.le_of_ble_eq_true rfl) rfl ?_
        refine a_goto 48 dX7_talked_122 rfl ?_
        exact a_sub [3, 4, 5, 6, 7, 8, 1, 0] rfl hv
      · replace hv := hv.2 hc
        refine a_iload 6 dX7_talked_93 rfl ?_
        refine a_ifz_eq 108 dX7_talked_95 rfl (fun hc => ?_) (fun hc => ?_)
        · replace hv := hv.1 hc
          refine a_iload 0 dX7_talked_108 rfl ?_
          refine a_iload 7 dX7_talked_110 rfl ?_
          refine a_icmp_le 119 dX7_talked_112 rfl (fun hc => ?_) (fun hc => ?_)
          · replace hv := hv.1 hc
            refine a_iinc 8 (v7 + 1) [(7, .int (v7 + 1)), (8, .int r83), (0, .ref (ga g 0)), (1, .int v1), (2, .int v2), (3, .int v3), (4, .int v4), (5, .int (bI b5)), (6, .int v6)] dX7_talked_119 rfl rfl (Nat.le_of_ble_eq_true rfl) rfl ?_
            refine a_goto 48 dX7_talked_122 rfl ?_
            exact a_sub [2, 3, 4, 5, 6, 7, 8, 0] rfl hv
          · replace hv := hv.2 hc
            refine a_iload 0 dX7_talked_115 rfl ?_
            refine a_istore [(6, .int r83), (8, .int r83), (0, .ref (ga g 0)), (1, .int v1), (2, .int v2), (3, .int v3), (4, .int v4), (5, .int (bI b5)), (7, .int v7)] dX7_talked_117 (Nat.le_of_ble_eq_true rfl) rfl ?_
            refine a_iinc 8 (v7 + 1) [(7, .int (v7 + 1)), (6, .int r83), (8, .int r83), (0, .ref (ga g 0)), (1, .int v1), (2, .int v2), (3, .int v3), (4, .int v4), (5, .int (bI b5))] dX7_talked_119 rfl rfl (Nat.le_of_ble_eq_true rfl) rfl ?_
            refine a_goto 48 dX7_talked_122 rfl ?_
            exact a_sub [3, 4, 5, 6, 7, 8, 1, 0] rfl hv
        · replace hv := hv.2 hc
          refine a_iload 0 dX7_talked_98 rfl ?_
          refine a_iload 7 dX7_talked_100 rfl ?_
          refine a_icmp_ge 119 dX7_talked_102 rfl (fun hc => ?_) (fun hc => ?_)
          · replace hv := hv.1 hc
            refine a_iinc 8 (v7 + 1) [(7, .int (v7 + 1)), (8, .int r83), (0, .ref (ga g 0)), (1, .int v1), (2, .int v2), (3, .int v3), (4, .int v4), (5, .int (bI b5)), (6, .int v6)] dX7_talked_119 rfl rfl (Nat.le_of_ble_eq_true rfl) rfl ?_
            refine a_goto 48 dX7_talked_122 rfl ?_
            exact a_sub [2, 3, 4, 5, 6, 7, 8, 0] rfl hv
          · replace hv := hv.2 hc
            refine a_goto 115 dX7_talked_105 rfl ?_
            refine a_iload 0 dX7_talked_115 rfl ?_
            refine a_istore [(6, .int r83), (8, .int r83), (0, .ref (ga g 0)), (1, .int v1), (2, .int v2), (3, .int v3), (4, .int v4), (5, .int (bI b5)), (7, .int v7)] dX7_talked_117 (Nat.le_of_ble_eq_true rfl) rfl ?_
            refine a_iinc 8 (v7 + 1) [(7, .int (v7 + 1)), (6, .int r83), (8, .int r83), (0, .ref (ga g 0)), (1, .int v1), (2, .int v2), (3, .int v3), (4, .int v4), (5, .int (bI b5))] dX7_talked_119 rfl rfl (Nat.le_of_ble_eq_true rfl) rfl ?_
            refine a_goto 48 dX7_talked_122 rfl ?_
            exact a_sub [3, 4, 5, 6, 7, 8, 1, 0] rfl hv
def VC_X7_talked (g : GT) (d : Nat) (v1 : Int32) (v2 : Int32) (v3 : Int32) (v4 : Int32) (I : IT) (J : JT) (P : Int32 → IT → JT → Prop) : Prop :=
  (SemZ g (d - 1) M_X7_canGoDeeper [.ref (ga g 0), .int v1, .int v2] I J (fun r3 I3 J3 => ((r3 = true → ((¬ (v1 - v1 / 2 * 2) = 0 → (Lp_X7_talked_48 g d v1 v2 v3 v4 false (-1) 0 I3 J3 P)) ∧ ((v1 - v1 / 2 * 2) = 0 → (Lp_X7_talked_48 g d v1 v2 v3 v4 true (-1) 0 I3 J3 P)))) ∧ (r3 = false → (vp_in v1 7 ∧ (SemI g (d - 1) M_X3_awayFromHarbour [.ref (ga g 4), .int (I3 (96 + 2 * v1.toNatClampNeg) 3)] I3 J3 (fun r25 I25 J25 => P r25 I25 J25)))))))
set_option maxRecDepth 4000 in
theorem w_X7_talked {g : GT} {d : Nat} {v1 : Int32} {v2 : Int32} {v3 : Int32} {v4 : Int32} {I : IT} {J : JT} {P : Int32 → IT → JT → Prop} (hd : 1 ≤ d) (hv : VC_X7_talked g d v1 v2 v3 v4 I J P) : SemI g d M_X7_talked [.ref (ga g 0), .int v1, .int v2, .int v3, .int v4] I J P := by
  unfold VC_X7_talked at hv
  refine sem_intro (by decide +kernel) rfl (Nat.le_of_ble_eq_true rfl) ?_
  show AW _ 0 0 0 [(0, .ref (ga g 0)), (1, .int v1), (2, .int v2), (3, .int v3), (4, .int v4)] [] (cW g I J)
  refine a_aload_n 0 dX7_talked_0 rfl rfl ?_
  refine a_iload_n 1 dX7_talked_1 rfl rfl ?_
  refine a_iload_n 2 dX7_talked_2 rfl rfl ?_
  refine c_VZ (As := [.int v1, .int v2]) (rest := []) hv K_X7_340 sh_0 rfl rfl rfl (Nat.le_of_ble_eq_true rfl) (rok (by omega) (Nat.le_of_ble_eq_true rfl)) ⟨Nat.zero_le _, Nat.zero_le _⟩ dX7_talked_3 (fun r3 I3 J3 hv => ?_)
  refine a_ifz_ne 29 dX7_talked_6 rfl (fun hc => ?_) (fun hc => ?_)
  · replace hv := hv.1 hc
    refine a_iload_n 1 dX7_talked_29 rfl rfl ?_
    refine a_iconst (v := 2) dX7_talked_30 (by decide) ?_
    refine a_irem dX7_talked_31 (by decide) ?_
    refine a_if_ne 39 dX7_talked_32 rfl (fun hc => ?_) (fun hc => ?_)
    · replace hv := hv.1 hc
      refine a_iconst (v := 0) dX7_talked_39 (by decide) ?_
      refine a_istore [(5, .int (bI false)), (0, .ref (ga g 0)), (1, .int v1), (2, .int v2), (3, .int v3), (4, .int v4)] dX7_talked_40 (Nat.le_of_ble_eq_true rfl) rfl ?_
      refine a_iconst (v := (-1)) dX7_talked_42 (by decide) ?_
      refine a_istore [(6, .int (-1)), (5, .int (bI false)), (0, .ref (ga g 0)), (1, .int v1), (2, .int v2), (3, .int v3), (4, .int v4)] dX7_talked_43 (Nat.le_of_ble_eq_true rfl) rfl ?_
      refine a_iconst (v := 0) dX7_talked_45 (by decide) ?_
      refine a_istore [(7, .int 0), (6, .int (-1)), (5, .int (bI false)), (0, .ref (ga g 0)), (1, .int v1), (2, .int v2), (3, .int v3), (4, .int v4)] dX7_talked_46 (Nat.le_of_ble_eq_true rfl) rfl ?_
      exact a_sub [3, 4, 5, 6, 7, 2, 1, 0] rfl hv
    · replace hv := hv.2 hc
      refine a_iconst (v := 1) dX7_talked_35 (by decide) ?_
      refine a_goto 40 dX7_talked_36 rfl ?_
      refine a_istore [(5, .int (bI true)), (0, .ref (ga g 0)), (1, .int v1), (2, .int v2), (3, .int v3), (4, .int v4)] dX7_talked_40 (Nat.le_of_ble_eq_true rfl) rfl ?_
      refine a_iconst (v := (-1)) dX7_talked_42 (by decide) ?_
      refine a_istore [(6, .int (-1)), (5, .int (bI true)), (0, .ref (ga g 0)), (1, .int v1), (2, .int v2), (3, .int v3), (4, .int v4)] dX7_talked_43 (Nat.le_of_ble_eq_true rfl) rfl ?_
      refine a_iconst (v := 0) dX7_talked_45 (by decide) ?_
      refine a_istore [(7, .int 0), (6, .int (-1)), (5, .int (bI true)), (0, .ref (ga g 0)), (1, .int v1), (2, .int v2), (3, .int v3), (4, .int v4)] dX7_talked_46 (Nat.le_of_ble_eq_true rfl) rfl ?_
      exact a_sub [3, 4, 5, 6, 7, 2, 1, 0] rfl hv
  · replace hv := hv.2 hc
    refine a_aload_n 0 dX7_talked_9 rfl rfl ?_
    refine a_getR (r := 3) G_X7_19 sh_0 rfl dX7_talked_10 ?_
    refine a_getR (r := 4) G_X7_32 sh_3 rfl dX7_talked_13 ?_
    refine a_aload_n 0 dX7_talked_16 rfl rfl ?_
    refine a_getR (r := 72) G_X7_45 sh_0 rfl dX7_talked_17 ?_
    refine a_iload_n 1 dX7_talked_20 rfl rfl ?_
    have hi21 := hv.1
    refine a_aald (r := (96 + 2 * v1.toNatClampNeg)) sh_72 (by decide) hi21 (r_72 hi21) dX7_talked_21 ?_
    replace hv := hv.2
    refine a_getI G_X7_279 (o_72 hi21).1 rfl dX7_talked_22 ?_
    refine c_VI (As := [.int (I3 (96 + 2 * v1.toNatClampNeg) 3)]) (rest := []) hv K_X7_343 sh_4 rfl rfl rfl (Nat.le_of_ble_eq_true rfl) (rok (by omega) (Nat.le_of_ble_eq_true rfl)) ⟨Nat.zero_le _, Nat.zero_le _⟩ dX7_talked_25 (fun r25 I25 J25 hv => ?_)
    exact a_iret rfl dX7_talked_28 hv
def Lp_X7_countRows_18 (g : GT) (d : Nat) (v1 : Int32) (v2 : Int32) (o3 : Nat) (v4 : Int32) (v5 : Int32) (v6 : Int32) (v7 : Int32) (I : IT) (J : JT) (P : Int32 → IT → JT → Prop) : Prop := AW (kM g d M_X7_countRows 0 0 (qI g P)) 0 0 18 [(0, .ref (ga g 0)), (1, .int v1), (2, .int v2), (3, .ref (ga g o3)), (4, .int v4), (5, .int v5), (6, .int v6), (7, .int v7)] [] (cW g I J)
def VC_X7_countRows_18 (g : GT) (d : Nat) (v1 : Int32) (v2 : Int32) (o3 : Nat) (v4 : Int32) (v5 : Int32) (v6 : Int32) (v7 : Int32) (I : IT) (J : JT) (P : Int32 → IT → JT → Prop) : Prop :=
  ((3 ≤ v7 → P v6 I J) ∧ (¬ 3 ≤ v7 → (vp_in (v4 + v1) 24 ∧ (SemZ g (d - 1) M_X7_leadsTo [.ref (ga g 0), .int v1, .int v2, .int v7, .long (J (o3 + 1) (v4 + v1).toNatClampNeg)] I J (fun r38 I38 J38 => ((r38 = false → (Lp_X7_countRows_18 g d v1 v2 o3 v4 v5 v6 (v7 + 1) I38 J38 P)) ∧ (r38 = true → (SemI g (d - 1) M_X7_countRows [.ref (ga g 0), .int (v1 + 1), .int v2, .ref (ga g o3), .int v4, .int v5] I38 J38 (fun r56 I56 J56 => (Lp_X7_countRows_18 g d v1 v2 o3 v4 v5 (v6 + r56) (v7 + 1) I56 J56 P))))))))))
set_option maxRecDepth 4000 in
theorem w_X7_countRows_18 {g : GT} {d : Nat} {v1 : Int32} {v2 : Int32} {o3 : Nat} {v4 : Int32} {v5 : Int32} {v6 : Int32} {v7 : Int32} {I : IT} {J : JT} {P : Int32 → IT → JT → Prop} (ho3 : isS o3) (hd : 1 ≤ d) (hv : VC_X7_countRows_18 g d v1 v2 o3 v4 v5 v6 v7 I J P) : Lp_X7_countRows_18 g d v1 v2 o3 v4 v5 v6 v7 I J P := by
  unfold VC_X7_countRows_18 at hv
  unfold Lp_X7_countRows_18
  refine a_iload 7 dX7_countRows_18 rfl ?_
  refine a_iconst (v := 3) dX7_countRows_20 (by decide) ?_
  refine a_icmp_ge 68 dX7_countRows_21 rfl (fun hc => ?_) (fun hc => ?_)
  · replace hv := hv.1 hc
    refine a_iload 6 dX7_countRows_68 rfl ?_
    exact a_iret rfl dX7_countRows_70 hv
  · replace hv := hv.2 hc
    refine a_aload_n 0 dX7_countRows_24 rfl rfl ?_
    refine a_iload_n 1 dX7_countRows_25 rfl rfl ?_
    refine a_iload_n 2 dX7_countRows_26 rfl rfl ?_
    refine a_iload 7 dX7_countRows_27 rfl ?_
    refine a_aload_n 3 dX7_countRows_29 rfl rfl ?_
    refine a_getR (r := (o3 + 1)) G_X7_261 ho3.1 rfl dX7_countRows_30 ?_
    refine a_iload 4 dX7_countRows_33 rfl ?_
    refine a_iload_n 1 dX7_countRows_35 rfl rfl ?_
    refine a_iadd dX7_countRows_36 ?_
    refine a_lald ho3.2 hv.1 dX7_countRows_37 ?_
    replace hv := hv.2
    refine c_VZ (As := [.int v1, .int v2, .int v7, .long (J (o3 + 1) (v4 + v1).toNatClampNeg)]) (rest := []) hv K_X7_349 sh_0 rfl rfl rfl (Nat.le_of_ble_eq_true rfl) (rok (by omega) (Nat.le_of_ble_eq_true rfl)) ⟨Nat.zero_le _, Nat.zero_le _⟩ dX7_countRows_38 (fun r38 I38 J38 hv => ?_)
    refine a_ifz_eq 62 dX7_countRows_41 rfl (fun hc => ?_) (fun hc => ?_)
    · replace hv := hv.1 hc
      refine a_iinc 7 (v7 + 1) [(7, .int (v7 + 1)), (0, .ref (ga g 0)), (1, .int v1), (2, .int v2), (3, .ref (ga g o3)), (4, .int v4), (5, .int v5), (6, .int v6)] dX7_countRows_62 rfl rfl (Nat.le_of_ble_eq_true rfl) rfl ?_
      refine a_goto 18 dX7_countRows_65 rfl ?_
      exact a_sub [1, 2, 3, 4, 5, 6, 7, 0] rfl hv
    · replace hv := hv.2 hc
      refine a_iload 6 dX7_countRows_44 rfl ?_
      refine a_aload_n 0 dX7_countRows_46 rfl rfl ?_
      refine a_iload_n 1 dX7_countRows_47 rfl rfl ?_
      refine a_iconst (v := 1) dX7_countRows_48 (by decide) ?_
      refine a_iadd dX7_countRows_49 ?_
      refine a_iload_n 2 dX7_countRows_50 rfl rfl ?_
      refine a_aload_n 3 dX7_countRows_51 rfl rfl ?_
      refine a_iload 4 dX7_countRows_52 rfl ?_
      refine a_iload 5 dX7_countRows_54 rfl ?_
      refine c_VI (As := [.int (v1 + 1), .int v2, .ref (ga g o3), .int v4, .int v5]) (rest := [.int v6]) hv K_X7_281 sh_0 rfl rfl rfl (Nat.le_of_ble_eq_true rfl) (rok (by omega) (Nat.le_of_ble_eq_true rfl)) ⟨Nat.zero_le _, Nat.zero_le _⟩ dX7_countRows_56 (fun r56 I56 J56 hv => ?_)
      refine a_iadd dX7_countRows_59 ?_
      refine a_istore [(6, .int (v6 + r56)), (0, .ref (ga g 0)), (1, .int v1), (2, .int v2), (3, .ref (ga g o3)), (4, .int v4), (5, .int v5), (7, .int v7)] dX7_countRows_60 (Nat.le_of_ble_eq_true rfl) rfl ?_
      refine a_iinc 7 (v7 + 1) [(7, .int (v7 + 1)), (6, .int (v6 + r56)), (0, .ref (ga g 0)), (1, .int v1), (2, .int v2), (3, .ref (ga g o3)), (4, .int v4), (5, .int v5)] dX7_countRows_62 rfl rfl (Nat.le_of_ble_eq_true rfl) rfl ?_
      refine a_goto 18 dX7_countRows_65 rfl ?_
      exact a_sub [2, 3, 4, 5, 6, 7, 1, 0] rfl hv
def VC_X7_countRows (g : GT) (d : Nat) (v1 : Int32) (v2 : Int32) (o3 : Nat) (v4 : Int32) (v5 : Int32) (I : IT) (J : JT) (P : Int32 → IT → JT → Prop) : Prop :=
  (SemZ g (d - 1) M_X7_canGoDeeper [.ref (ga g 0), .int v1, .int v5] I J (fun r4 I4 J4 => ((r4 = true → (Lp_X7_countRows_18 g d v1 v2 o3 v4 v5 0 0 I4 J4 P)) ∧ (r4 = false → P 1 I4 J4))))
set_option maxRecDepth 4000 in
theorem w_X7_countRows {g : GT} {d : Nat} {v1 : Int32} {v2 : Int32} {o3 : Nat} {v4 : Int32} {v5 : Int32} {I : IT} {J : JT} {P : Int32 → IT → JT → Prop} (ho3 : isS o3) (hd : 1 ≤ d) (hv : VC_X7_countRows g d v1 v2 o3 v4 v5 I J P) : SemI g d M_X7_countRows [.ref (ga g 0), .int v1, .int v2, .ref (ga g o3), .int v4, .int v5] I J P := by
  unfold VC_X7_countRows at hv
  refine sem_intro (by decide +kernel) rfl (Nat.le_of_ble_eq_true rfl) ?_
  show AW _ 0 0 0 [(0, .ref (ga g 0)), (1, .int v1), (2, .int v2), (3, .ref (ga g o3)), (4, .int v4), (5, .int v5)] [] (cW g I J)
  refine a_aload_n 0 dX7_countRows_0 rfl rfl ?_
  refine a_iload_n 1 dX7_countRows_1 rfl rfl ?_
  refine a_iload 5 dX7_countRows_2 rfl ?_
  refine c_VZ (As := [.int v1, .int v5]) (rest := []) hv K_X7_340 sh_0 rfl rfl rfl (Nat.le_of_ble_eq_true rfl) (rok (by omega) (Nat.le_of_ble_eq_true rfl)) ⟨Nat.zero_le _, Nat.zero_le _⟩ dX7_countRows_4 (fun r4 I4 J4 hv => ?_)
  refine a_ifz_ne 12 dX7_countRows_7 rfl (fun hc => ?_) (fun hc => ?_)
  · replace hv := hv.1 hc
    refine a_iconst (v := 0) dX7_countRows_12 (by decide) ?_
    refine a_istore [(6, .int 0), (0, .ref (ga g 0)), (1, .int v1), (2, .int v2), (3, .ref (ga g o3)), (4, .int v4), (5, .int v5)] dX7_countRows_13 (Nat.le_of_ble_eq_true rfl) rfl ?_
    refine a_iconst (v := 0) dX7_countRows_15 (by decide) ?_
    refine a_istore [(7, .int 0), (6, .int 0), (0, .ref (ga g 0)), (1, .int v1), (2, .int v2), (3, .ref (ga g o3)), (4, .int v4), (5, .int v5)] dX7_countRows_16 (Nat.le_of_ble_eq_true rfl) rfl ?_
    exact a_sub [2, 3, 4, 5, 6, 7, 1, 0] rfl hv
  · replace hv := hv.2 hc
    refine a_iconst (v := 1) dX7_countRows_10 (by decide) ?_
    exact a_iret rfl dX7_countRows_11 hv
def Lp_X7_firstRow_15 (g : GT) (d : Nat) (v1 : Int32) (v2 : Int32) (v3 : Int32) (o4 : Nat) (v5 : Int32) (v6 : Int32) (v7 : Int32) (I : IT) (J : JT) (P : Int32 → IT → JT → Prop) : Prop := AW (kM g d M_X7_firstRow 0 0 (qI g P)) 0 0 15 [(0, .ref (ga g 0)), (1, .int v1), (2, .int v2), (3, .int v3), (4, .ref (ga g o4)), (5, .int v5), (6, .int v6), (7, .int v7)] [] (cW g I J)
def VC_X7_firstRow_15 (g : GT) (d : Nat) (v1 : Int32) (v2 : Int32) (v3 : Int32) (o4 : Nat) (v5 : Int32) (v6 : Int32) (v7 : Int32) (I : IT) (J : JT) (P : Int32 → IT → JT → Prop) : Prop :=
  ((3 ≤ v7 → P (-4) I J) ∧ (¬ 3 ≤ v7 → (vp_in (v5 + v1) 24 ∧ (SemZ g (d - 1) M_X7_leadsTo [.ref (ga g 0), .int v1, .int v3, .int v7, .long (J (o4 + 1) (v5 + v1).toNatClampNeg)] I J (fun r36 I36 J36 => ((r36 = false → (Lp_X7_firstRow_15 g d v1 v2 v3 o4 v5 v6 (v7 + 1) I36 J36 P)) ∧ (r36 = true → (SemI g (d - 1) M_X7_firstRow [.ref (ga g 0), .int (v1 + 1), .int ((3 * v2) + v7), .int v3, .ref (ga g o4), .int v5, .int v6] I36 J36 (fun r59 I59 J59 => ((r59 < 0 → (Lp_X7_firstRow_15 g d v1 v2 v3 o4 v5 v6 (v7 + 1) I59 J59 P)) ∧ (¬ r59 < 0 → P r59 I59 J59)))))))))))
set_option maxRecDepth 4000 in
theorem w_X7_firstRow_15 {g : GT} {d : Nat} {v1 : Int32} {v2 : Int32} {v3 : Int32} {o4 : Nat} {v5 : Int32} {v6 : Int32} {v7 : Int32} {I : IT} {J : JT} {P : Int32 → IT → JT → Prop} (ho4 : isS o4) (hd : 1 ≤ d) (hv : VC_X7_firstRow_15 g d v1 v2 v3 o4 v5 v6 v7 I J P) : Lp_X7_firstRow_15 g d v1 v2 v3 o4 v5 v6 v7 I J P := by
  unfold VC_X7_firstRow_15 at hv
  unfold Lp_X7_firstRow_15
  refine a_iload 7 dX7_firstRow_15 rfl ?_
  refine a_iconst (v := 3) dX7_firstRow_17 (by decide) ?_
  refine a_icmp_ge 78 dX7_firstRow_18 rfl (fun hc => ?_) (fun hc => ?_)
  · replace hv := hv.1 hc
    refine a_bipush (v := (-4)) dX7_firstRow_78 (by decide) ?_
    exact a_iret rfl dX7_firstRow_80 hv
  · replace hv := hv.2 hc
    refine a_aload_n 0 dX7_firstRow_21 rfl rfl ?_
    refine a_iload_n 1 dX7_firstRow_22 rfl rfl ?_
    refine a_iload_n 3 dX7_firstRow_23 rfl rfl ?_
    refine a_iload 7 dX7_firstRow_24 rfl ?_
    refine a_aload 4 dX7_firstRow_26 rfl ?_
    refine a_getR (r := (o4 + 1)) G_X7_261 ho4.1 rfl dX7_firstRow_28 ?_
    refine a_iload 5 dX7_firstRow_31 rfl ?_
    refine a_iload_n 1 dX7_firstRow_33 rfl rfl ?_
    refine a_iadd dX7_firstRow_34 ?_
    refine a_lald ho4.2 hv.1 dX7_firstRow_35 ?_
    replace hv := hv.2
    refine c_VZ (As := [.int v1, .int v3, .int v7, .long (J (o4 + 1) (v5 + v1).toNatClampNeg)]) (rest := []) hv K_X7_349 sh_0 rfl rfl rfl (Nat.le_of_ble_eq_true rfl) (rok (by omega) (Nat.le_of_ble_eq_true rfl)) ⟨Nat.zero_le _, Nat.zero_le _⟩ dX7_firstRow_36 (fun r36 I36 J36 hv => ?_)
    refine a_ifz_eq 72 dX7_firstRow_39 rfl (fun hc => ?_) (fun hc => ?_)
    · replace hv := hv.1 hc
      refine a_iinc 7 (v7 + 1) [(7, .int (v7 + 1)), (0, .ref (ga g 0)), (1, .int v1), (2, .int v2), (3, .int v3), (4, .ref (ga g o4)), (5, .int v5), (6, .int v6)] dX7_firstRow_72 rfl rfl (Nat.le_of_ble_eq_true rfl) rfl ?_
      refine a_goto 15 dX7_firstRow_75 rfl ?_
      exact a_sub [1, 2, 3, 4, 5, 6, 7, 0] rfl hv
    · replace hv := hv.2 hc
      refine a_aload_n 0 dX7_firstRow_42 rfl rfl ?_
      refine a_iload_n 1 dX7_firstRow_43 rfl rfl ?_
      refine a_iconst (v := 1) dX7_firstRow_44 (by decide) ?_
      refine a_iadd dX7_firstRow_45 ?_
      refine a_iconst (v := 3) dX7_firstRow_46 (by decide) ?_
      refine a_iload_n 2 dX7_firstRow_47 rfl rfl ?_
      refine a_imul dX7_firstRow_48 ?_
      refine a_iload 7 dX7_firstRow_49 rfl ?_
      refine a_iadd dX7_firstRow_51 ?_
      refine a_iload_n 3 dX7_firstRow_52 rfl rfl ?_
      refine a_aload 4 dX7_firstRow_53 rfl ?_
      refine a_iload 5 dX7_firstRow_55 rfl ?_
      refine a_iload 6 dX7_firstRow_57 rfl ?_
      refine c_VI (As := [.int (v1 + 1), .int ((3 * v2) + v7), .int v3, .ref (ga g o4), .int v5, .int v6]) (rest := []) hv K_X7_285 sh_0 rfl rfl rfl (Nat.le_of_ble_eq_true rfl) (rok (by omega) (Nat.le_of_ble_eq_true rfl)) ⟨Nat.zero_le _, Nat.zero_le _⟩ dX7_firstRow_59 (fun r59 I59 J59 hv => ?_)
      refine a_istore [(8, .int r59), (0, .ref (ga g 0)), (1, .int v1), (2, .int v2), (3, .int v3), (4, .ref (ga g o4)), (5, .int v5), (6, .int v6), (7, .int v7)] dX7_firstRow_62 (Nat.le_of_ble_eq_true rfl) rfl ?_
      refine a_iload 0 dX7_firstRow_64 rfl ?_
      refine a_if_lt 72 dX7_firstRow_66 rfl (fun hc => ?_) (fun hc => ?_)
      · replace hv := hv.1 hc
        refine a_iinc 8 (v7 + 1) [(7, .int (v7 + 1)), (8, .int r59), (0, .ref (ga g 0)), (1, .int v1), (2, .int v2), (3, .int v3), (4, .ref (ga g o4)), (5, .int v5), (6, .int v6)] dX7_firstRow_72 rfl rfl (Nat.le_of_ble_eq_true rfl) rfl ?_
        refine a_goto 15 dX7_firstRow_75 rfl ?_
        exact a_sub [2, 3, 4, 5, 6, 7, 8, 0] rfl hv
      · replace hv := hv.2 hc
        refine a_iload 0 dX7_firstRow_69 rfl ?_
        exact a_iret rfl dX7_firstRow_71 hv
def VC_X7_firstRow (g : GT) (d : Nat) (v1 : Int32) (v2 : Int32) (v3 : Int32) (o4 : Nat) (v5 : Int32) (v6 : Int32) (I : IT) (J : JT) (P : Int32 → IT → JT → Prop) : Prop :=
  (SemZ g (d - 1) M_X7_canGoDeeper [.ref (ga g 0), .int v1, .int v6] I J (fun r4 I4 J4 => ((r4 = true → (Lp_X7_firstRow_15 g d v1 v2 v3 o4 v5 v6 0 I4 J4 P)) ∧ (r4 = false → P v2 I4 J4))))
set_option maxRecDepth 4000 in
theorem w_X7_firstRow {g : GT} {d : Nat} {v1 : Int32} {v2 : Int32} {v3 : Int32} {o4 : Nat} {v5 : Int32} {v6 : Int32} {I : IT} {J : JT} {P : Int32 → IT → JT → Prop} (ho4 : isS o4) (hd : 1 ≤ d) (hv : VC_X7_firstRow g d v1 v2 v3 o4 v5 v6 I J P) : SemI g d M_X7_firstRow [.ref (ga g 0), .int v1, .int v2, .int v3, .ref (ga g o4), .int v5, .int v6] I J P := by
  unfold VC_X7_firstRow at hv
  refine sem_intro (by decide +kernel) rfl (Nat.le_of_ble_eq_true rfl) ?_
  show AW _ 0 0 0 [(0, .ref (ga g 0)), (1, .int v1), (2, .int v2), (3, .int v3), (4, .ref (ga g o4)), (5, .int v5), (6, .int v6)] [] (cW g I J)
  refine a_aload_n 0 dX7_firstRow_0 rfl rfl ?_
  refine a_iload_n 1 dX7_firstRow_1 rfl rfl ?_
  refine a_iload 6 dX7_firstRow_2 rfl ?_
  refine c_VZ (As := [.int v1, .int v6]) (rest := []) hv K_X7_340 sh_0 rfl rfl rfl (Nat.le_of_ble_eq_true rfl) (rok (by omega) (Nat.le_of_ble_eq_true rfl)) ⟨Nat.zero_le _, Nat.zero_le _⟩ dX7_firstRow_4 (fun r4 I4 J4 hv => ?_)
  refine a_ifz_ne 12 dX7_firstRow_7 rfl (fun hc => ?_) (fun hc => ?_)
  · replace hv := hv.1 hc
    refine a_iconst (v := 0) dX7_firstRow_12 (by decide) ?_
    refine a_istore [(7, .int 0), (0, .ref (ga g 0)), (1, .int v1), (2, .int v2), (3, .int v3), (4, .ref (ga g o4)), (5, .int v5), (6, .int v6)] dX7_firstRow_13 (Nat.le_of_ble_eq_true rfl) rfl ?_
    exact a_sub [1, 2, 3, 4, 5, 6, 7, 0] rfl hv
  · replace hv := hv.2 hc
    refine a_iload_n 2 dX7_firstRow_10 rfl rfl ?_
    exact a_iret rfl dX7_firstRow_11 hv
def VC_X7_leadsTo (g : GT) (d : Nat) (v1 : Int32) (v2 : Int32) (v3 : Int32) (y4 : Int64) (I : IT) (J : JT) (P : Bool → IT → JT → Prop) : Prop :=
  (SemR g (d - 1) M_X7_nextVoyage [.ref (ga g 0), .int v1] I J (fun r2 I2 J2 => (isV r2 ∧ (SemV g (d - 1) M_X6_hear [.ref (ga g r2), .int v2, .int v3] I2 J2 (fun I11 J11 => ((¬ ((I11 r2 3).toInt64) = y4 → P false I11 J11) ∧ (((I11 r2 3).toInt64) = y4 → P true I11 J11)))))))
set_option maxRecDepth 4000 in
theorem w_X7_leadsTo {g : GT} {d : Nat} {v1 : Int32} {v2 : Int32} {v3 : Int32} {y4 : Int64} {I : IT} {J : JT} {P : Bool → IT → JT → Prop} (hd : 1 ≤ d) (hv : VC_X7_leadsTo g d v1 v2 v3 y4 I J P) : SemZ g d M_X7_leadsTo [.ref (ga g 0), .int v1, .int v2, .int v3, .long y4] I J P := by
  unfold VC_X7_leadsTo at hv
  refine sem_intro (by decide +kernel) rfl (Nat.le_of_ble_eq_true rfl) ?_
  show AW _ 0 0 0 [(0, .ref (ga g 0)), (1, .int v1), (2, .int v2), (3, .int v3), (4, .long y4)] [] (cW g I J)
  refine a_aload_n 0 dX7_leadsTo_0 rfl rfl ?_
  refine a_iload_n 1 dX7_leadsTo_1 rfl rfl ?_
  refine c_VR (As := [.int v1]) (rest := []) hv K_X7_346 sh_0 rfl rfl rfl (Nat.le_of_ble_eq_true rfl) (rok (by omega) (Nat.le_of_ble_eq_true rfl)) ⟨Nat.zero_le _, Nat.zero_le _⟩ dX7_leadsTo_2 (fun r2 I2 J2 hv => ?_)
  have hr2 := hv.1
  replace hv := hv.2
  refine a_astore [(6, .ref (ga g r2)), (0, .ref (ga g 0)), (1, .int v1), (2, .int v2), (3, .int v3), (4, .long y4)] dX7_leadsTo_5 (Nat.le_of_ble_eq_true rfl) rfl ?_
  refine a_aload 0 dX7_leadsTo_7 rfl ?_
  refine a_iload_n 3 dX7_leadsTo_9 rfl rfl ?_
  refine a_iload_n 4 dX7_leadsTo_10 rfl rfl ?_
  refine c_VV (As := [.int v2, .int v3]) (rest := []) hv K_X7_146 hr2.1 rfl rfl rfl (Nat.le_of_ble_eq_true rfl) (rok (by omega) (Nat.le_of_ble_eq_true rfl)) ⟨Nat.zero_le _, Nat.zero_le _⟩ dX7_leadsTo_11 (fun I11 J11 hv => ?_)
  refine a_aload 0 dX7_leadsTo_14 rfl ?_
  refine a_getI G_X7_279 hr2.1 rfl dX7_leadsTo_16 ?_
  refine a_i2l dX7_leadsTo_19 ?_
  refine a_lload 5 dX7_leadsTo_20 rfl ?_
  refine a_lcmp dX7_leadsTo_22 ?_
  refine a_lcmp_ne 30 dX7_leadsTo_23 rfl (fun hc => ?_) (fun hc => ?_)
  · replace hv := hv.1 hc
    refine a_iconst (v := 0) dX7_leadsTo_30 (by decide) ?_
    exact a_zret _ false (by decide) rfl dX7_leadsTo_31 hv
  · replace hv := hv.2 hc
    refine a_iconst (v := 1) dX7_leadsTo_26 (by decide) ?_
    refine a_goto 31 dX7_leadsTo_27 rfl ?_
    exact a_zret _ true (by decide) rfl dX7_leadsTo_31 hv
def VC_X7_fogged (g : GT) (d : Nat) (v1 : Int32) (v2 : Int32) (o3 : Nat) (v4 : Int32) (v5 : Int32) (v6 : Int32) (I : IT) (J : JT) (P : Int32 → IT → JT → Prop) : Prop :=
  (SemZ g (d - 1) M_X7_canGoDeeper [.ref (ga g 0), .int v1, .int v4] I J (fun r4 I4 J4 => ((r4 = true → (SemR g (d - 1) M_X7_nextVoyage [.ref (ga g 0), .int v1] I4 J4 (fun r32 I32 J32 => (isV r32 ∧ (vp_in v1 24 ∧ (SemV g (d - 1) M_X6_hear [.ref (ga g r32), .int v2, .int ((J32 (o3 + 1) v1.toNatClampNeg).toInt32)] I32 J32 (fun I43 J43 => (SemI g (d - 1) M_X7_fogged [.ref (ga g 0), .int (v1 + 1), .int v2, .ref (ga g o3), .int v4, .int v5, .int v6] I43 J43 (fun r58 I58 J58 => (SemR g (d - 1) M_X7_nextVoyage [.ref (ga g 0), .int v1] I58 J58 (fun r65 I65 J65 => (isV r65 ∧ (SemZ g (d - 1) M_X6_goOn [.ref (ga g r65)] I65 J65 (fun r68 I68 J68 => (SemI g (d - 1) M_X7_fogged [.ref (ga g 0), .int (v1 + 1), .int v2, .ref (ga g o3), .int v4, .int v5, .int v6] I68 J68 (fun r84 I84 J84 => P (((10 - v6) * r58) + (v6 * r84)) I84 J84)))))))))))))))) ∧ (r4 = false → (vp_in v1 7 ∧ ((¬ (I4 (96 + 2 * v1.toNatClampNeg) 3) = v5 → P 0 I4 J4) ∧ ((I4 (96 + 2 * v1.toNatClampNeg) 3) = v5 → P 1 I4 J4)))))))
set_option maxRecDepth 4000 in
theorem w_X7_fogged {g : GT} {d : Nat} {v1 : Int32} {v2 : Int32} {o3 : Nat} {v4 : Int32} {v5 : Int32} {v6 : Int32} {I : IT} {J : JT} {P : Int32 → IT → JT → Prop} (ho3 : isS o3) (hd : 1 ≤ d) (hv : VC_X7_fogged g d v1 v2 o3 v4 v5 v6 I J P) : SemI g d M_X7_fogged [.ref (ga g 0), .int v1, .int v2, .ref (ga g o3), .int v4, .int v5, .int v6] I J P := by
  unfold VC_X7_fogged at hv
  refine sem_intro (by decide +kernel) rfl (Nat.le_of_ble_eq_true rfl) ?_
  show AW _ 0 0 0 [(0, .ref (ga g 0)), (1, .int v1), (2, .int v2), (3, .ref (ga g o3)), (4, .int v4), (5, .int v5), (6, .int v6)] [] (cW g I J)
  refine a_aload_n 0 dX7_fogged_0 rfl rfl ?_
  refine a_iload_n 1 dX7_fogged_1 rfl rfl ?_
  refine a_iload 4 dX7_fogged_2 rfl ?_
  refine c_VZ (As := [.int v1, .int v4]) (rest := []) hv K_X7_340 sh_0 rfl rfl rfl (Nat.le_of_ble_eq_true rfl) (rok (by omega) (Nat.le_of_ble_eq_true rfl)) ⟨Nat.zero_le _, Nat.zero_le _⟩ dX7_fogged_4 (fun r4 I4 J4 hv => ?_)
  refine a_ifz_ne 30 dX7_fogged_7 rfl (fun hc => ?_) (fun hc => ?_)
  · replace hv := hv.1 hc
    refine a_aload_n 0 dX7_fogged_30 rfl rfl ?_
    refine a_iload_n 1 dX7_fogged_31 rfl rfl ?_
    refine c_VR (As := [.int v1]) (rest := []) hv K_X7_346 sh_0 rfl rfl rfl (Nat.le_of_ble_eq_true rfl) (rok (by omega) (Nat.le_of_ble_eq_true rfl)) ⟨Nat.zero_le _, Nat.zero_le _⟩ dX7_fogged_32 (fun r32 I32 J32 hv => ?_)
    have hr32 := hv.1
    replace hv := hv.2
    refine a_iload_n 2 dX7_fogged_35 rfl rfl ?_
    refine a_aload_n 3 dX7_fogged_36 rfl rfl ?_
    refine a_getR (r := (o3 + 1)) G_X7_261 ho3.1 rfl dX7_fogged_37 ?_
    refine a_iload_n 1 dX7_fogged_40 rfl rfl ?_
    refine a_lald ho3.2 hv.1 dX7_fogged_41 ?_
    replace hv := hv.2
    refine a_l2i dX7_fogged_42 ?_
    refine c_VV (As := [.int v2, .int ((J32 (o3 + 1) v1.toNatClampNeg).toInt32)]) (rest := []) hv K_X7_146 hr32.1 rfl rfl rfl (Nat.le_of_ble_eq_true rfl) (rok (by omega) (Nat.le_of_ble_eq_true rfl)) ⟨Nat.zero_le _, Nat.zero_le _⟩ dX7_fogged_43 (fun I43 J43 hv => ?_)
    refine a_aload_n 0 dX7_fogged_46 rfl rfl ?_
    refine a_iload_n 1 dX7_fogged_47 rfl rfl ?_
    refine a_iconst (v := 1) dX7_fogged_48 (by decide) ?_
    refine a_iadd dX7_fogged_49 ?_
    refine a_iload_n 2 dX7_fogged_50 rfl rfl ?_
    refine a_aload_n 3 dX7_fogged_51 rfl rfl ?_
    refine a_iload 4 dX7_fogged_52 rfl ?_
    refine a_iload 5 dX7_fogged_54 rfl ?_
    refine a_iload 6 dX7_fogged_56 rfl ?_
    refine c_VI (As := [.int (v1 + 1), .int v2, .ref (ga g o3), .int v4, .int v5, .int v6]) (rest := []) hv K_X7_295 sh_0 rfl rfl rfl (Nat.le_of_ble_eq_true rfl) (rok (by omega) (Nat.le_of_ble_eq_true rfl)) ⟨Nat.zero_le _, Nat.zero_le _⟩ dX7_fogged_58 (fun r58 I58 J58 hv => ?_)
    refine a_istore [(7, .int r58), (0, .ref (ga g 0)), (1, .int v1), (2, .int v2), (3, .ref (ga g o3)), (4, .int v4), (5, .int v5), (6, .int v6)] dX7_fogged_61 (Nat.le_of_ble_eq_true rfl) rfl ?_
    refine a_aload_n 1 dX7_fogged_63 rfl rfl ?_
    refine a_iload_n 2 dX7_fogged_64 rfl rfl ?_
    refine c_VR (As := [.int v1]) (rest := []) hv K_X7_346 sh_0 rfl rfl rfl (Nat.le_of_ble_eq_true rfl) (rok (by omega) (Nat.le_of_ble_eq_true rfl)) ⟨Nat.zero_le _, Nat.zero_le _⟩ dX7_fogged_65 (fun r65 I65 J65 hv => ?_)
    have hr65 := hv.1
    replace hv := hv.2
    refine c_VZ (As := []) (rest := []) hv K_X7_158 hr65.1 rfl rfl rfl (Nat.le_of_ble_eq_true rfl) (rok (by omega) (Nat.le_of_ble_eq_true rfl)) ⟨Nat.zero_le _, Nat.zero_le _⟩ dX7_fogged_68 (fun r68 I68 J68 hv => ?_)
    refine a_pop dX7_fogged_71 rfl ?_
    refine a_aload_n 1 dX7_fogged_72 rfl rfl ?_
    refine a_iload_n 2 dX7_fogged_73 rfl rfl ?_
    refine a_iconst (v := 1) dX7_fogged_74 (by decide) ?_
    refine a_iadd dX7_fogged_75 ?_
    refine a_iload_n 3 dX7_fogged_76 rfl rfl ?_
    refine a_aload_n 4 dX7_fogged_77 rfl rfl ?_
    refine a_iload 5 dX7_fogged_78 rfl ?_
    refine a_iload 6 dX7_fogged_80 rfl ?_
    refine a_iload 7 dX7_fogged_82 rfl ?_
    refine c_VI (As := [.int (v1 + 1), .int v2, .ref (ga g o3), .int v4, .int v5, .int v6]) (rest := []) hv K_X7_295 sh_0 rfl rfl rfl (Nat.le_of_ble_eq_true rfl) (rok (by omega) (Nat.le_of_ble_eq_true rfl)) ⟨Nat.zero_le _, Nat.zero_le _⟩ dX7_fogged_84 (fun r84 I84 J84 hv => ?_)
    refine a_istore [(8, .int r84), (7, .int r58), (0, .ref (ga g 0)), (1, .int v1), (2, .int v2), (3, .ref (ga g o3)), (4, .int v4), (5, .int v5), (6, .int v6)] dX7_fogged_87 (Nat.le_of_ble_eq_true rfl) rfl ?_
    refine a_bipush (v := 10) dX7_fogged_89 (by decide) ?_
    refine a_iload 8 dX7_fogged_91 rfl ?_
    refine a_isub dX7_fogged_93 ?_
    refine a_iload 1 dX7_fogged_94 rfl ?_
    refine a_imul dX7_fogged_96 ?_
    refine a_iload 8 dX7_fogged_97 rfl ?_
    refine a_iload 0 dX7_fogged_99 rfl ?_
    refine a_imul dX7_fogged_101 ?_
    refine a_iadd dX7_fogged_102 ?_
    exact a_iret rfl dX7_fogged_103 hv
  · replace hv := hv.2 hc
    refine a_aload_n 0 dX7_fogged_10 rfl rfl ?_
    refine a_getR (r := 72) G_X7_45 sh_0 rfl dX7_fogged_11 ?_
    refine a_iload_n 1 dX7_fogged_14 rfl rfl ?_
    have hi15 := hv.1
    refine a_aald (r := (96 + 2 * v1.toNatClampNeg)) sh_72 (by decide) hi15 (r_72 hi15) dX7_fogged_15 ?_
    replace hv := hv.2
    refine a_getI G_X7_279 (o_72 hi15).1 rfl dX7_fogged_16 ?_
    refine a_iload 5 dX7_fogged_19 rfl ?_
    refine a_icmp_ne 28 dX7_fogged_21 rfl (fun hc => ?_) (fun hc => ?_)
    · replace hv := hv.1 hc
      refine a_iconst (v := 0) dX7_fogged_28 (by decide) ?_
      exact a_iret rfl dX7_fogged_29 hv
    · replace hv := hv.2 hc
      refine a_iconst (v := 1) dX7_fogged_24 (by decide) ?_
      refine a_goto 29 dX7_fogged_25 rfl ?_
      exact a_iret rfl dX7_fogged_29 hv
def Lp_X7_tenToThe_4 (g : GT) (d : Nat) (v0 : Int32) (v1 : Int32) (v2 : Int32) (I : IT) (J : JT) (P : Int32 → IT → JT → Prop) : Prop := AW (kM g d M_X7_tenToThe 0 0 (qI g P)) 0 0 4 [(0, .int v0), (1, .int v1), (2, .int v2)] [] (cW g I J)
def VC_X7_tenToThe_4 (g : GT) (d : Nat) (v0 : Int32) (v1 : Int32) (v2 : Int32) (I : IT) (J : JT) (P : Int32 → IT → JT → Prop) : Prop :=
  ((v0 ≤ v2 → P v1 I J) ∧ (¬ v0 ≤ v2 → (Lp_X7_tenToThe_4 g d v0 (v1 * 10) (v2 + 1) I J P)))
set_option maxRecDepth 4000 in
theorem w_X7_tenToThe_4 {g : GT} {d : Nat} {v0 : Int32} {v1 : Int32} {v2 : Int32} {I : IT} {J : JT} {P : Int32 → IT → JT → Prop} (hv : VC_X7_tenToThe_4 g d v0 v1 v2 I J P) : Lp_X7_tenToThe_4 g d v0 v1 v2 I J P := by
  unfold VC_X7_tenToThe_4 at hv
  unfold Lp_X7_tenToThe_4
  refine a_iload_n 2 dX7_tenToThe_4 rfl rfl ?_
  refine a_iload_n 0 dX7_tenToThe_5 rfl rfl ?_
  refine a_icmp_ge 20 dX7_tenToThe_6 rfl (fun hc => ?_) (fun hc => ?_)
  · replace hv := hv.1 hc
    refine a_iload_n 1 dX7_tenToThe_20 rfl rfl ?_
    exact a_iret rfl dX7_tenToThe_21 hv
  · replace hv := hv.2 hc
    refine a_iload_n 1 dX7_tenToThe_9 rfl rfl ?_
    refine a_bipush (v := 10) dX7_tenToThe_10 (by decide) ?_
    refine a_imul dX7_tenToThe_12 ?_
    refine a_istore_n [(1, .int (v1 * 10)), (0, .int v0), (2, .int v2)] dX7_tenToThe_13 rfl (Nat.le_of_ble_eq_true rfl) rfl ?_
    refine a_iinc 2 (v2 + 1) [(2, .int (v2 + 1)), (1, .int (v1 * 10)), (0, .int v0)] dX7_tenToThe_14 rfl rfl (Nat.le_of_ble_eq_true rfl) rfl ?_
    refine a_goto 4 dX7_tenToThe_17 rfl ?_
    exact a_sub [2, 1, 0] rfl hv
def VC_X7_tenToThe (g : GT) (d : Nat) (v0 : Int32) (I : IT) (J : JT) (P : Int32 → IT → JT → Prop) : Prop :=
  (Lp_X7_tenToThe_4 g d v0 1 0 I J P)
set_option maxRecDepth 4000 in
theorem w_X7_tenToThe {g : GT} {d : Nat} {v0 : Int32} {I : IT} {J : JT} {P : Int32 → IT → JT → Prop} (hv : VC_X7_tenToThe g d v0 I J P) : SemI g d M_X7_tenToThe [.int v0] I J P := by
  unfold VC_X7_tenToThe at hv
  refine sem_intro (by decide +kernel) rfl (Nat.le_of_ble_eq_true rfl) ?_
  show AW _ 0 0 0 [(0, .int v0)] [] (cW g I J)
  refine a_iconst (v := 1) dX7_tenToThe_0 (by decide) ?_
  refine a_istore_n [(1, .int 1), (0, .int v0)] dX7_tenToThe_1 rfl (Nat.le_of_ble_eq_true rfl) rfl ?_
  refine a_iconst (v := 0) dX7_tenToThe_2 (by decide) ?_
  refine a_istore_n [(2, .int 0), (1, .int 1), (0, .int v0)] dX7_tenToThe_3 rfl (Nat.le_of_ble_eq_true rfl) rfl ?_
  exact a_sub [2, 1, 0] rfl hv
def Lp_X7_greatestDivisor_7 (g : GT) (d : Nat) (v2 : Int32) (v3 : Int32) (v4 : Int32) (I : IT) (J : JT) (P : Int32 → IT → JT → Prop) : Prop := AW (kM g d M_X7_greatestDivisor 0 0 (qI g P)) 0 0 7 [(2, .int v2), (3, .int v3), (4, .int v4)] [] (cW g I J)
def VC_X7_greatestDivisor_7 (g : GT) (d : Nat) (v2 : Int32) (v3 : Int32) (v4 : Int32) (I : IT) (J : JT) (P : Int32 → IT → JT → Prop) : Prop :=
  ((64 ≤ v4 → P v2 I J) ∧ (¬ 64 ≤ v4 → ((v3 = 0 → P v2 I J) ∧ (¬ v3 = 0 → (¬ v3 = 0 ∧ (Lp_X7_greatestDivisor_7 g d v3 (v2 - v2 / v3 * v3) (v4 + 1) I J P))))))
set_option maxRecDepth 4000 in
theorem w_X7_greatestDivisor_7 {g : GT} {d : Nat} {v2 : Int32} {v3 : Int32} {v4 : Int32} {I : IT} {J : JT} {P : Int32 → IT → JT → Prop} (hv : VC_X7_greatestDivisor_7 g d v2 v3 v4 I J P) : Lp_X7_greatestDivisor_7 g d v2 v3 v4 I J P := by
  unfold VC_X7_greatestDivisor_7 at hv
  unfold Lp_X7_greatestDivisor_7
  refine a_iload 2 dX7_greatestDivisor_7 rfl ?_
  refine a_bipush (v := 64) dX7_greatestDivisor_9 (by decide) ?_
  refine a_icmp_ge 34 dX7_greatestDivisor_11 rfl (fun hc => ?_) (fun hc => ?_)
  · replace hv := hv.1 hc
    refine a_iload_n 0 dX7_greatestDivisor_34 rfl rfl ?_
    exact a_iret rfl dX7_greatestDivisor_35 hv
  · replace hv := hv.2 hc
    refine a_iload_n 1 dX7_greatestDivisor_14 rfl rfl ?_
    refine a_if_eq 34 dX7_greatestDivisor_15 rfl (fun hc => ?_) (fun hc => ?_)
    · replace hv := hv.1 hc
      refine a_iload_n 0 dX7_greatestDivisor_34 rfl rfl ?_
      exact a_iret rfl dX7_greatestDivisor_35 hv
    · replace hv := hv.2 hc
      refine a_iload_n 0 dX7_greatestDivisor_18 rfl rfl ?_
      refine a_iload_n 1 dX7_greatestDivisor_19 rfl rfl ?_
      refine a_irem dX7_greatestDivisor_20 hv.1 ?_
      replace hv := hv.2
      refine a_istore [(5, .int (v2 - v2 / v3 * v3)), (2, .int v2), (3, .int v3), (4, .int v4)] dX7_greatestDivisor_21 (Nat.le_of_ble_eq_true rfl) rfl ?_
      refine a_iload_n 2 dX7_greatestDivisor_23 rfl rfl ?_
      refine a_istore_n [(2, .int v3), (5, .int (v2 - v2 / v3 * v3)), (3, .int v3), (4, .int v4)] dX7_greatestDivisor_24 rfl (Nat.le_of_ble_eq_true rfl) rfl ?_
      refine a_iload 1 dX7_greatestDivisor_25 rfl ?_
      refine a_istore_n [(3, .int (v2 - v2 / v3 * v3)), (2, .int v3), (5, .int (v2 - v2 / v3 * v3)), (4, .int v4)] dX7_greatestDivisor_27 rfl (Nat.le_of_ble_eq_true rfl) rfl ?_
      refine a_iinc 3 (v4 + 1) [(4, .int (v4 + 1)), (3, .int (v2 - v2 / v3 * v3)), (2, .int v3), (5, .int (v2 - v2 / v3 * v3))] dX7_greatestDivisor_28 rfl rfl (Nat.le_of_ble_eq_true rfl) rfl ?_
      refine a_goto 7 dX7_greatestDivisor_31 rfl ?_
      exact a_sub [2, 1, 0] rfl hv
def VC_X7_greatestDivisor (g : GT) (d : Nat) (v0 : Int32) (v1 : Int32) (I : IT) (J : JT) (P : Int32 → IT → JT → Prop) : Prop :=
  (Lp_X7_greatestDivisor_7 g d v0 v1 0 I J P)
set_option maxRecDepth 4000 in
theorem w_X7_greatestDivisor {g : GT} {d : Nat} {v0 : Int32} {v1 : Int32} {I : IT} {J : JT} {P : Int32 → IT → JT → Prop} (hv : VC_X7_greatestDivisor g d v0 v1 I J P) : SemI g d M_X7_greatestDivisor [.int v0, .int v1] I J P := by
  unfold VC_X7_greatestDivisor at hv
  refine sem_intro (by decide +kernel) rfl (Nat.le_of_ble_eq_true rfl) ?_
  show AW _ 0 0 0 [(0, .int v0), (1, .int v1)] [] (cW g I J)
  refine a_iload_n 0 dX7_greatestDivisor_0 rfl rfl ?_
  refine a_istore_n [(2, .int v0), (0, .int v0), (1, .int v1)] dX7_greatestDivisor_1 rfl (Nat.le_of_ble_eq_true rfl) rfl ?_
  refine a_iload_n 2 dX7_greatestDivisor_2 rfl rfl ?_
  refine a_istore_n [(3, .int v1), (2, .int v0), (0, .int v0), (1, .int v1)] dX7_greatestDivisor_3 rfl (Nat.le_of_ble_eq_true rfl) rfl ?_
  refine a_iconst (v := 0) dX7_greatestDivisor_4 (by decide) ?_
  refine a_istore [(4, .int 0), (3, .int v1), (2, .int v0), (0, .int v0), (1, .int v1)] dX7_greatestDivisor_5 (Nat.le_of_ble_eq_true rfl) rfl ?_
  exact a_sub [2, 1, 0] rfl hv
def Lp_X7_fittingKinds_6 (g : GT) (d : Nat) (v1 : Int32) (v2 : Int32) (o3 : Nat) (v4 : Int32) (v5 : Int32) (v6 : Int32) (v7 : Int32) (I : IT) (J : JT) (P : Int32 → IT → JT → Prop) : Prop := AW (kM g d M_X7_fittingKinds 0 0 (qI g P)) 0 0 6 [(0, .ref (ga g 0)), (1, .int v1), (2, .int v2), (3, .ref (ga g o3)), (4, .int v4), (5, .int v5), (6, .int v6), (7, .int v7)] [] (cW g I J)
def VC_X7_fittingKinds_6 (g : GT) (d : Nat) (v1 : Int32) (v2 : Int32) (o3 : Nat) (v4 : Int32) (v5 : Int32) (v6 : Int32) (v7 : Int32) (I : IT) (J : JT) (P : Int32 → IT → JT → Prop) : Prop :=
  ((6 ≤ v7 → P v6 I J) ∧ (¬ 6 ≤ v7 → (vp_in v7 7 ∧ (SemV g (d - 1) M_X6_board [.ref (ga g (96 + 2 * v7.toNatClampNeg)), .ref (ga g 3), .int v1] I J (fun I29 J29 => (SemZ g (d - 1) M_X6_keepsTo [.ref (ga g (96 + 2 * v7.toNatClampNeg)), .int v2, .ref (ga g o3), .int v4, .int v5] (sI I29 (96 + 2 * v7.toNatClampNeg) 2 v7) J29 (fun r47 I47 J47 => ((r47 = false → (Lp_X7_fittingKinds_6 g d v1 v2 o3 v4 v5 v6 (v7 + 1) I47 J47 P)) ∧ (r47 = true → (Lp_X7_fittingKinds_6 g d v1 v2 o3 v4 v5 (v6 ||| (1 <<< (v7 &&& 31))) (v7 + 1) I47 J47 P))))))))))
set_option maxRecDepth 4000 in
theorem w_X7_fittingKinds_6 {g : GT} {d : Nat} {v1 : Int32} {v2 : Int32} {o3 : Nat} {v4 : Int32} {v5 : Int32} {v6 : Int32} {v7 : Int32} {I : IT} {J : JT} {P : Int32 → IT → JT → Prop} (ho3 : isS o3) (hd : 1 ≤ d) (hv : VC_X7_fittingKinds_6 g d v1 v2 o3 v4 v5 v6 v7 I J P) : Lp_X7_fittingKinds_6 g d v1 v2 o3 v4 v5 v6 v7 I J P := by
  unfold VC_X7_fittingKinds_6 at hv
  unfold Lp_X7_fittingKinds_6
  refine a_iload 7 dX7_fittingKinds_6 rfl ?_
  refine a_bipush (v := 6) dX7_fittingKinds_8 (by decide) ?_
  refine a_icmp_ge 68 dX7_fittingKinds_10 rfl (fun hc => ?_) (fun hc => ?_)
  · replace hv := hv.1 hc
    refine a_iload 6 dX7_fittingKinds_68 rfl ?_
    exact a_iret rfl dX7_fittingKinds_70 hv
  · replace hv := hv.2 hc
    refine a_aload_n 0 dX7_fittingKinds_13 rfl rfl ?_
    refine a_getR (r := 72) G_X7_45 sh_0 rfl dX7_fittingKinds_14 ?_
    refine a_iload 7 dX7_fittingKinds_17 rfl ?_
    have hi19 := hv.1
    refine a_aald (r := (96 + 2 * v7.toNatClampNeg)) sh_72 (by decide) hi19 (r_72 hi19) dX7_fittingKinds_19 ?_
    replace hv := hv.2
    refine a_astore [(8, .ref (ga g (96 + 2 * v7.toNatClampNeg))), (0, .ref (ga g 0)), (1, .int v1), (2, .int v2), (3, .ref (ga g o3)), (4, .int v4), (5, .int v5), (6, .int v6), (7, .int v7)] dX7_fittingKinds_20 (Nat.le_of_ble_eq_true rfl) rfl ?_
    refine a_aload 0 dX7_fittingKinds_22 rfl ?_
    refine a_aload_n 1 dX7_fittingKinds_24 rfl rfl ?_
    refine a_getR (r := 3) G_X7_19 sh_0 rfl dX7_fittingKinds_25 ?_
    refine a_iload_n 2 dX7_fittingKinds_28 rfl rfl ?_
    refine c_VV (As := [.ref (ga g 3), .int v1]) (rest := []) hv K_X7_174 (o_72 hi19).1 rfl rfl rfl (Nat.le_of_ble_eq_true rfl) (rok (by omega) (Nat.le_of_ble_eq_true rfl)) ⟨Nat.zero_le _, Nat.zero_le _⟩ dX7_fittingKinds_29 (fun I29 J29 hv => ?_)
    refine a_aload 0 dX7_fittingKinds_32 rfl ?_
    refine a_iload 8 dX7_fittingKinds_34 rfl ?_
    refine a_putI H_X7_353 (o_72 hi19).1 rfl rfl rfl dX7_fittingKinds_36 ?_
    refine a_aload 0 dX7_fittingKinds_39 rfl ?_
    refine a_iload_n 3 dX7_fittingKinds_41 rfl rfl ?_
    refine a_aload_n 4 dX7_fittingKinds_42 rfl rfl ?_
    refine a_iload 5 dX7_fittingKinds_43 rfl ?_
    refine a_iload 6 dX7_fittingKinds_45 rfl ?_
    refine c_VZ (As := [.int v2, .ref (ga g o3), .int v4, .int v5]) (rest := []) hv K_X7_355 (o_72 hi19).1 rfl rfl rfl (Nat.le_of_ble_eq_true rfl) (rok (by omega) (Nat.le_of_ble_eq_true rfl)) ⟨Nat.zero_le _, Nat.zero_le _⟩ dX7_fittingKinds_47 (fun r47 I47 J47 hv => ?_)
    refine a_ifz_eq 62 dX7_fittingKinds_50 rfl (fun hc => ?_) (fun hc => ?_)
    · replace hv := hv.1 hc
      refine a_iinc 8 (v7 + 1) [(7, .int (v7 + 1)), (8, .ref (ga g (96 + 2 * v7.toNatClampNeg))), (0, .ref (ga g 0)), (1, .int v1), (2, .int v2), (3, .ref (ga g o3)), (4, .int v4), (5, .int v5), (6, .int v6)] dX7_fittingKinds_62 rfl rfl (Nat.le_of_ble_eq_true rfl) rfl ?_
      refine a_goto 6 dX7_fittingKinds_65 rfl ?_
      exact a_sub [2, 3, 4, 5, 6, 7, 8, 0] rfl hv
    · replace hv := hv.2 hc
      refine a_iload 7 dX7_fittingKinds_53 rfl ?_
      refine a_iconst (v := 1) dX7_fittingKinds_55 (by decide) ?_
      refine a_iload 8 dX7_fittingKinds_56 rfl ?_
      refine a_ishl dX7_fittingKinds_58 ?_
      refine a_ior dX7_fittingKinds_59 ?_
      refine a_istore [(6, .int (v6 ||| (1 <<< (v7 &&& 31)))), (8, .ref (ga g (96 + 2 * v7.toNatClampNeg))), (0, .ref (ga g 0)), (1, .int v1), (2, .int v2), (3, .ref (ga g o3)), (4, .int v4), (5, .int v5), (7, .int v7)] dX7_fittingKinds_60 (Nat.le_of_ble_eq_true rfl) rfl ?_
      refine a_iinc 8 (v7 + 1) [(7, .int (v7 + 1)), (6, .int (v6 ||| (1 <<< (v7 &&& 31)))), (8, .ref (ga g (96 + 2 * v7.toNatClampNeg))), (0, .ref (ga g 0)), (1, .int v1), (2, .int v2), (3, .ref (ga g o3)), (4, .int v4), (5, .int v5)] dX7_fittingKinds_62 rfl rfl (Nat.le_of_ble_eq_true rfl) rfl ?_
      refine a_goto 6 dX7_fittingKinds_65 rfl ?_
      exact a_sub [3, 4, 5, 6, 7, 8, 1, 0] rfl hv
def VC_X7_fittingKinds (g : GT) (d : Nat) (v1 : Int32) (v2 : Int32) (o3 : Nat) (v4 : Int32) (v5 : Int32) (I : IT) (J : JT) (P : Int32 → IT → JT → Prop) : Prop :=
  (Lp_X7_fittingKinds_6 g d v1 v2 o3 v4 v5 0 1 I J P)
set_option maxRecDepth 4000 in
theorem w_X7_fittingKinds {g : GT} {d : Nat} {v1 : Int32} {v2 : Int32} {o3 : Nat} {v4 : Int32} {v5 : Int32} {I : IT} {J : JT} {P : Int32 → IT → JT → Prop} (ho3 : isS o3) (hv : VC_X7_fittingKinds g d v1 v2 o3 v4 v5 I J P) : SemI g d M_X7_fittingKinds [.ref (ga g 0), .int v1, .int v2, .ref (ga g o3), .int v4, .int v5] I J P := by
  unfold VC_X7_fittingKinds at hv
  refine sem_intro (by decide +kernel) rfl (Nat.le_of_ble_eq_true rfl) ?_
  show AW _ 0 0 0 [(0, .ref (ga g 0)), (1, .int v1), (2, .int v2), (3, .ref (ga g o3)), (4, .int v4), (5, .int v5)] [] (cW g I J)
  refine a_iconst (v := 0) dX7_fittingKinds_0 (by decide) ?_
  refine a_istore [(6, .int 0), (0, .ref (ga g 0)), (1, .int v1), (2, .int v2), (3, .ref (ga g o3)), (4, .int v4), (5, .int v5)] dX7_fittingKinds_1 (Nat.le_of_ble_eq_true rfl) rfl ?_
  refine a_iconst (v := 1) dX7_fittingKinds_3 (by decide) ?_
  refine a_istore [(7, .int 1), (6, .int 0), (0, .ref (ga g 0)), (1, .int v1), (2, .int v2), (3, .ref (ga g o3)), (4, .int v4), (5, .int v5)] dX7_fittingKinds_4 (Nat.le_of_ble_eq_true rfl) rfl ?_
  exact a_sub [2, 3, 4, 5, 6, 7, 1, 0] rfl hv
def Lp_X7_wordToTry_16 (g : GT) (d : Nat) (v1 : Int32) (v2 : Int32) (v3 : Int32) (v4 : Int32) (v5 : Int32) (I : IT) (J : JT) (P : Int32 → IT → JT → Prop) : Prop := AW (kM g d M_X7_wordToTry 0 0 (qI g P)) 0 0 16 [(0, .ref (ga g 0)), (1, .int v1), (2, .int v2), (3, .int v3), (4, .int v4), (5, .int v5)] [] (cW g I J)
def VC_X7_wordToTry_16 (g : GT) (d : Nat) (v1 : Int32) (v2 : Int32) (v3 : Int32) (v4 : Int32) (v5 : Int32) (I : IT) (J : JT) (P : Int32 → IT → JT → Prop) : Prop :=
  ((3 ≤ v5 → P v3 I J) ∧ (¬ 3 ≤ v5 → (SemI g (d - 1) M_X7_greatestPart [.ref (ga g 0), .int v1, .int v2, .int v5] I J (fun r27 I27 J27 => ((v4 ≤ r27 → (Lp_X7_wordToTry_16 g d v1 v2 v3 v4 (v5 + 1) I27 J27 P)) ∧ (¬ v4 ≤ r27 → (Lp_X7_wordToTry_16 g d v1 v2 v5 r27 (v5 + 1) I27 J27 P)))))))
set_option maxRecDepth 4000 in
theorem w_X7_wordToTry_16 {g : GT} {d : Nat} {v1 : Int32} {v2 : Int32} {v3 : Int32} {v4 : Int32} {v5 : Int32} {I : IT} {J : JT} {P : Int32 → IT → JT → Prop} (hd : 1 ≤ d) (hv : VC_X7_wordToTry_16 g d v1 v2 v3 v4 v5 I J P) : Lp_X7_wordToTry_16 g d v1 v2 v3 v4 v5 I J P := by
  unfold VC_X7_wordToTry_16 at hv
  unfold Lp_X7_wordToTry_16
  refine a_iload 5 dX7_wordToTry_16 rfl ?_
  refine a_iconst (v := 3) dX7_wordToTry_18 (by decide) ?_
  refine a_icmp_ge 52 dX7_wordToTry_19 rfl (fun hc => ?_) (fun hc => ?_)
  · replace hv := hv.1 hc
    refine a_iload_n 3 dX7_wordToTry_52 rfl rfl ?_
    exact a_iret rfl dX7_wordToTry_53 hv
  · replace hv := hv.2 hc
    refine a_aload_n 0 dX7_wordToTry_22 rfl rfl ?_
    refine a_iload_n 1 dX7_wordToTry_23 rfl rfl ?_
    refine a_iload_n 2 dX7_wordToTry_24 rfl rfl ?_
    refine a_iload 5 dX7_wordToTry_25 rfl ?_
    refine c_VI (As := [.int v1, .int v2, .int v5]) (rest := []) hv K_X7_359 sh_0 rfl rfl rfl (Nat.le_of_ble_eq_true rfl) (rok (by omega) (Nat.le_of_ble_eq_true rfl)) ⟨Nat.zero_le _, Nat.zero_le _⟩ dX7_wordToTry_27 (fun r27 I27 J27 hv => ?_)
    refine a_istore [(6, .int r27), (0, .ref (ga g 0)), (1, .int v1), (2, .int v2), (3, .int v3), (4, .int v4), (5, .int v5)] dX7_wordToTry_30 (Nat.le_of_ble_eq_true rfl) rfl ?_
    refine a_iload 0 dX7_wordToTry_32 rfl ?_
    refine a_iload 5 dX7_wordToTry_34 rfl ?_
    refine a_icmp_ge 46 dX7_wordToTry_36 rfl (fun hc => ?_) (fun hc => ?_)
    · replace hv := hv.1 hc
      refine a_iinc 6 (v5 + 1) [(5, .int (v5 + 1)), (6, .int r27), (0, .ref (ga g 0)), (1, .int v1), (2, .int v2), (3, .int v3), (4, .int v4)] dX7_wordToTry_46 rfl rfl (Nat.le_of_ble_eq_true rfl) rfl ?_
      refine a_goto 16 dX7_wordToTry_49 rfl ?_
      exact a_sub [2, 3, 4, 5, 6, 0] rfl hv
    · replace hv := hv.2 hc
      refine a_iload 0 dX7_wordToTry_39 rfl ?_
      refine a_istore [(4, .int r27), (6, .int r27), (0, .ref (ga g 0)), (1, .int v1), (2, .int v2), (3, .int v3), (5, .int v5)] dX7_wordToTry_41 (Nat.le_of_ble_eq_true rfl) rfl ?_
      refine a_iload 6 dX7_wordToTry_43 rfl ?_
      refine a_istore_n [(3, .int v5), (4, .int r27), (6, .int r27), (0, .ref (ga g 0)), (1, .int v1), (2, .int v2), (5, .int v5)] dX7_wordToTry_45 rfl (Nat.le_of_ble_eq_true rfl) rfl ?_
      refine a_iinc 6 (v5 + 1) [(5, .int (v5 + 1)), (3, .int v5), (4, .int r27), (6, .int r27), (0, .ref (ga g 0)), (1, .int v1), (2, .int v2)] dX7_wordToTry_46 rfl rfl (Nat.le_of_ble_eq_true rfl) rfl ?_
      refine a_goto 16 dX7_wordToTry_49 rfl ?_
      exact a_sub [4, 5, 6, 1, 2, 0] rfl hv
def VC_X7_wordToTry (g : GT) (d : Nat) (v1 : Int32) (v2 : Int32) (I : IT) (J : JT) (P : Int32 → IT → JT → Prop) : Prop :=
  ((¬ v1 = 0 → (Lp_X7_wordToTry_16 g d v1 v2 0 6 0 I J P)) ∧ (v1 = 0 → P (-4) I J))
set_option maxRecDepth 4000 in
theorem w_X7_wordToTry {g : GT} {d : Nat} {v1 : Int32} {v2 : Int32} {I : IT} {J : JT} {P : Int32 → IT → JT → Prop} (hv : VC_X7_wordToTry g d v1 v2 I J P) : SemI g d M_X7_wordToTry [.ref (ga g 0), .int v1, .int v2] I J P := by
  unfold VC_X7_wordToTry at hv
  refine sem_intro (by decide +kernel) rfl (Nat.le_of_ble_eq_true rfl) ?_
  show AW _ 0 0 0 [(0, .ref (ga g 0)), (1, .int v1), (2, .int v2)] [] (cW g I J)
  refine a_iload_n 1 dX7_wordToTry_0 rfl rfl ?_
  refine a_if_ne 7 dX7_wordToTry_1 rfl (fun hc => ?_) (fun hc => ?_)
  · replace hv := hv.1 hc
    refine a_iconst (v := 0) dX7_wordToTry_7 (by decide) ?_
    refine a_istore_n [(3, .int 0), (0, .ref (ga g 0)), (1, .int v1), (2, .int v2)] dX7_wordToTry_8 rfl (Nat.le_of_ble_eq_true rfl) rfl ?_
    refine a_bipush (v := 6) dX7_wordToTry_9 (by decide) ?_
    refine a_istore [(4, .int 6), (3, .int 0), (0, .ref (ga g 0)), (1, .int v1), (2, .int v2)] dX7_wordToTry_11 (Nat.le_of_ble_eq_true rfl) rfl ?_
    refine a_iconst (v := 0) dX7_wordToTry_13 (by decide) ?_
    refine a_istore [(5, .int 0), (4, .int 6), (3, .int 0), (0, .ref (ga g 0)), (1, .int v1), (2, .int v2)] dX7_wordToTry_14 (Nat.le_of_ble_eq_true rfl) rfl ?_
    exact a_sub [3, 4, 5, 2, 1, 0] rfl hv
  · replace hv := hv.2 hc
    refine a_bipush (v := (-4)) dX7_wordToTry_4 (by decide) ?_
    exact a_iret rfl dX7_wordToTry_6 hv
def Lp_X7_greatestPart_6 (g : GT) (d : Nat) (v1 : Int32) (v2 : Int32) (v3 : Int32) (v4 : Int32) (v5 : Int32) (I : IT) (J : JT) (P : Int32 → IT → JT → Prop) : Prop := AW (kM g d M_X7_greatestPart 0 0 (qI g P)) 0 0 6 [(0, .ref (ga g 0)), (1, .int v1), (2, .int v2), (3, .int v3), (4, .int v4), (5, .int v5)] [] (cW g I J)
def VC_X7_greatestPart_6 (g : GT) (d : Nat) (v1 : Int32) (v2 : Int32) (v3 : Int32) (v4 : Int32) (v5 : Int32) (I : IT) (J : JT) (P : Int32 → IT → JT → Prop) : Prop :=
  ((6 ≤ v5 → P v4 I J) ∧ (¬ 6 ≤ v5 → (((v1 &&& (1 <<< (v5 &&& 31))) = 0 → (Lp_X7_greatestPart_6 g d v1 v2 v3 v4 (v5 + 1) I J P)) ∧ (¬ (v1 &&& (1 <<< (v5 &&& 31))) = 0 → (vp_in v5 7 ∧ (SemI g (d - 1) M_X7_cellBehind [.ref (ga g 0), .ref (ga g (96 + 2 * v5.toNatClampNeg)), .int v2, .int v3] I J (fun r38 I38 J38 => (vp_in v5 6 ∧ (SemI g (d - 1) M_X7_partAlike [.ref (ga g 0), .int v1, .int v5] (sI I38 79 v5.toNatClampNeg r38) J38 (fun r48 I48 J48 => (Lp_X7_greatestPart_6 g d v1 v2 v3 (if v4 < r48 then r48 else v4) (v5 + 1) I48 J48 P)))))))))))
set_option maxRecDepth 4000 in
theorem w_X7_greatestPart_6 {g : GT} {d : Nat} {v1 : Int32} {v2 : Int32} {v3 : Int32} {v4 : Int32} {v5 : Int32} {I : IT} {J : JT} {P : Int32 → IT → JT → Prop} (hd : 1 ≤ d) (hv : VC_X7_greatestPart_6 g d v1 v2 v3 v4 v5 I J P) : Lp_X7_greatestPart_6 g d v1 v2 v3 v4 v5 I J P := by
  unfold VC_X7_greatestPart_6 at hv
  unfold Lp_X7_greatestPart_6
  refine a_iload 5 dX7_greatestPart_6 rfl ?_
  refine a_bipush (v := 6) dX7_greatestPart_8 (by decide) ?_
  refine a_icmp_ge 62 dX7_greatestPart_10 rfl (fun hc => ?_) (fun hc => ?_)
  · replace hv := hv.1 hc
    refine a_iload 4 dX7_greatestPart_62 rfl ?_
    exact a_iret rfl dX7_greatestPart_64 hv
  · replace hv := hv.2 hc
    refine a_iload_n 1 dX7_greatestPart_13 rfl rfl ?_
    refine a_iconst (v := 1) dX7_greatestPart_14 (by decide) ?_
    refine a_iload 5 dX7_greatestPart_15 rfl ?_
    refine a_ishl dX7_greatestPart_17 ?_
    refine a_iand dX7_greatestPart_18 ?_
    refine a_if_eq 56 dX7_greatestPart_19 rfl (fun hc => ?_) (fun hc => ?_)
    · replace hv := hv.1 hc
      refine a_iinc 5 (v5 + 1) [(5, .int (v5 + 1)), (0, .ref (ga g 0)), (1, .int v1), (2, .int v2), (3, .int v3), (4, .int v4)] dX7_greatestPart_56 rfl rfl (Nat.le_of_ble_eq_true rfl) rfl ?_
      refine a_goto 6 dX7_greatestPart_59 rfl ?_
      exact a_sub [1, 2, 3, 4, 5, 0] rfl hv
    · replace hv := hv.2 hc
      refine a_aload_n 0 dX7_greatestPart_22 rfl rfl ?_
      refine a_getR (r := 79) G_X7_62 sh_0 rfl dX7_greatestPart_23 ?_
      refine a_iload 5 dX7_greatestPart_26 rfl ?_
      refine a_aload_n 0 dX7_greatestPart_28 rfl rfl ?_
      refine a_aload_n 0 dX7_greatestPart_29 rfl rfl ?_
      refine a_getR (r := 72) G_X7_45 sh_0 rfl dX7_greatestPart_30 ?_
      refine a_iload 5 dX7_greatestPart_33 rfl ?_
      have hi35 := hv.1
      refine a_aald (r := (96 + 2 * v5.toNatClampNeg)) sh_72 (by decide) hi35 (r_72 hi35) dX7_greatestPart_35 ?_
      replace hv := hv.2
      refine a_iload_n 2 dX7_greatestPart_36 rfl rfl ?_
      refine a_iload_n 3 dX7_greatestPart_37 rfl rfl ?_
      refine c_VI (As := [.ref (ga g (96 + 2 * v5.toNatClampNeg)), .int v2, .int v3]) (rest := [.int v5, .ref (ga g 79)]) hv K_X7_362 sh_0 rfl rfl rfl (Nat.le_of_ble_eq_true rfl) (rok (by omega) (Nat.le_of_ble_eq_true rfl)) ⟨Nat.zero_le _, Nat.zero_le _⟩ dX7_greatestPart_38 (fun r38 I38 J38 hv => ?_)
      refine a_iast sh_79 hv.1 dX7_greatestPart_41 ?_
      replace hv := hv.2
      refine a_iload 4 dX7_greatestPart_42 rfl ?_
      refine a_aload_n 0 dX7_greatestPart_44 rfl rfl ?_
      refine a_iload_n 1 dX7_greatestPart_45 rfl rfl ?_
      refine a_iload 5 dX7_greatestPart_46 rfl ?_
      refine c_VI (As := [.int v1, .int v5]) (rest := [.int v4]) hv K_X7_365 sh_0 rfl rfl rfl (Nat.le_of_ble_eq_true rfl) (rok (by omega) (Nat.le_of_ble_eq_true rfl)) ⟨Nat.zero_le _, Nat.zero_le _⟩ dX7_greatestPart_48 (fun r48 I48 J48 hv => ?_)
      refine a_mmax K_X7_328.1.1 (rokM hd (Nat.le_of_ble_eq_true rfl)) ⟨Nat.zero_le _, Nat.zero_le _⟩ dX7_greatestPart_51 ?_
      refine a_istore [(4, .int (if v4 < r48 then r48 else v4)), (0, .ref (ga g 0)), (1, .int v1), (2, .int v2), (3, .int v3), (5, .int v5)] dX7_greatestPart_54 (Nat.le_of_ble_eq_true rfl) rfl ?_
      refine a_iinc 5 (v5 + 1) [(5, .int (v5 + 1)), (4, .int (if v4 < r48 then r48 else v4)), (0, .ref (ga g 0)), (1, .int v1), (2, .int v2), (3, .int v3)] dX7_greatestPart_56 rfl rfl (Nat.le_of_ble_eq_true rfl) rfl ?_
      refine a_goto 6 dX7_greatestPart_59 rfl ?_
      exact a_sub [2, 3, 4, 5, 1, 0] rfl hv
def VC_X7_greatestPart (g : GT) (d : Nat) (v1 : Int32) (v2 : Int32) (v3 : Int32) (I : IT) (J : JT) (P : Int32 → IT → JT → Prop) : Prop :=
  (Lp_X7_greatestPart_6 g d v1 v2 v3 0 1 I J P)
set_option maxRecDepth 4000 in
theorem w_X7_greatestPart {g : GT} {d : Nat} {v1 : Int32} {v2 : Int32} {v3 : Int32} {I : IT} {J : JT} {P : Int32 → IT → JT → Prop} (hv : VC_X7_greatestPart g d v1 v2 v3 I J P) : SemI g d M_X7_greatestPart [.ref (ga g 0), .int v1, .int v2, .int v3] I J P := by
  unfold VC_X7_greatestPart at hv
  refine sem_intro (by decide +kernel) rfl (Nat.le_of_ble_eq_true rfl) ?_
  show AW _ 0 0 0 [(0, .ref (ga g 0)), (1, .int v1), (2, .int v2), (3, .int v3)] [] (cW g I J)
  refine a_iconst (v := 0) dX7_greatestPart_0 (by decide) ?_
  refine a_istore [(4, .int 0), (0, .ref (ga g 0)), (1, .int v1), (2, .int v2), (3, .int v3)] dX7_greatestPart_1 (Nat.le_of_ble_eq_true rfl) rfl ?_
  refine a_iconst (v := 1) dX7_greatestPart_3 (by decide) ?_
  refine a_istore [(5, .int 1), (4, .int 0), (0, .ref (ga g 0)), (1, .int v1), (2, .int v2), (3, .int v3)] dX7_greatestPart_4 (Nat.le_of_ble_eq_true rfl) rfl ?_
  exact a_sub [2, 3, 4, 5, 1, 0] rfl hv
def VC_X7_cellBehind (g : GT) (d : Nat) (o1 : Nat) (v2 : Int32) (v3 : Int32) (I : IT) (J : JT) (P : Int32 → IT → JT → Prop) : Prop :=
  (SemV g (d - 1) M_X6_follow [.ref (ga g 96), .ref (ga g o1)] I J (fun I11 J11 => (SemV g (d - 1) M_X6_hear [.ref (ga g 96), .int v2, .int v3] I11 J11 (fun I18 J18 => P (I18 96 3) I18 J18))))
set_option maxRecDepth 4000 in
theorem w_X7_cellBehind {g : GT} {d : Nat} {o1 : Nat} {v2 : Int32} {v3 : Int32} {I : IT} {J : JT} {P : Int32 → IT → JT → Prop} (ho1 : isV o1) (hd : 1 ≤ d) (hv : VC_X7_cellBehind g d o1 v2 v3 I J P) : SemI g d M_X7_cellBehind [.ref (ga g 0), .ref (ga g o1), .int v2, .int v3] I J P := by
  unfold VC_X7_cellBehind at hv
  refine sem_intro (by decide +kernel) rfl (Nat.le_of_ble_eq_true rfl) ?_
  show AW _ 0 0 0 [(0, .ref (ga g 0)), (1, .ref (ga g o1)), (2, .int v2), (3, .int v3)] [] (cW g I J)
  refine a_aload_n 0 dX7_cellBehind_0 rfl rfl ?_
  refine a_getR (r := 72) G_X7_45 sh_0 rfl dX7_cellBehind_1 ?_
  refine a_iconst (v := 0) dX7_cellBehind_4 (by decide) ?_
  refine a_aald (r := 96) sh_72 (by decide) (by unfold vp_in; decide) rfl dX7_cellBehind_5 ?_
  refine a_astore [(4, .ref (ga g 96)), (0, .ref (ga g 0)), (1, .ref (ga g o1)), (2, .int v2), (3, .int v3)] dX7_cellBehind_6 (Nat.le_of_ble_eq_true rfl) rfl ?_
  refine a_aload 0 dX7_cellBehind_8 rfl ?_
  refine a_aload_n 2 dX7_cellBehind_10 rfl rfl ?_
  refine c_VV (As := [.ref (ga g o1)]) (rest := []) hv K_X7_336 sh_96 rfl rfl rfl (Nat.le_of_ble_eq_true rfl) (rok (by omega) (Nat.le_of_ble_eq_true rfl)) ⟨Nat.zero_le _, Nat.zero_le _⟩ dX7_cellBehind_11 (fun I11 J11 hv => ?_)
  refine a_aload 0 dX7_cellBehind_14 rfl ?_
  refine a_iload_n 3 dX7_cellBehind_16 rfl rfl ?_
  refine a_iload_n 4 dX7_cellBehind_17 rfl rfl ?_
  refine c_VV (As := [.int v2, .int v3]) (rest := []) hv K_X7_146 sh_96 rfl rfl rfl (Nat.le_of_ble_eq_true rfl) (rok (by omega) (Nat.le_of_ble_eq_true rfl)) ⟨Nat.zero_le _, Nat.zero_le _⟩ dX7_cellBehind_18 (fun I18 J18 hv => ?_)
  refine a_aload 0 dX7_cellBehind_21 rfl ?_
  refine a_getI G_X7_279 sh_96 rfl dX7_cellBehind_23 ?_
  exact a_iret rfl dX7_cellBehind_26 hv
def Lp_X7_partAlike_5 (g : GT) (d : Nat) (v1 : Int32) (v2 : Int32) (v3 : Int32) (v4 : Int32) (I : IT) (J : JT) (P : Int32 → IT → JT → Prop) : Prop := AW (kM g d M_X7_partAlike 0 0 (qI g P)) 0 0 5 [(0, .ref (ga g 0)), (1, .int v1), (2, .int v2), (3, .int v3), (4, .int v4)] [] (cW g I J)
def VC_X7_partAlike_5 (g : GT) (d : Nat) (v1 : Int32) (v2 : Int32) (v3 : Int32) (v4 : Int32) (I : IT) (J : JT) (P : Int32 → IT → JT → Prop) : Prop :=
  ((v2 < v4 → P v3 I J) ∧ (¬ v2 < v4 → (((v1 &&& (1 <<< (v4 &&& 31))) = 0 → (Lp_X7_partAlike_5 g d v1 v2 v3 (v4 + 1) I J P)) ∧ (¬ (v1 &&& (1 <<< (v4 &&& 31))) = 0 → (vp_in v4 6 ∧ (vp_in v2 6 ∧ ((¬ (I 79 v4.toNatClampNeg) = (I 79 v2.toNatClampNeg) → (Lp_X7_partAlike_5 g d v1 v2 v3 (v4 + 1) I J P)) ∧ ((I 79 v4.toNatClampNeg) = (I 79 v2.toNatClampNeg) → (Lp_X7_partAlike_5 g d v1 v2 (v3 + 1) (v4 + 1) I J P)))))))))
set_option maxRecDepth 4000 in
theorem w_X7_partAlike_5 {g : GT} {d : Nat} {v1 : Int32} {v2 : Int32} {v3 : Int32} {v4 : Int32} {I : IT} {J : JT} {P : Int32 → IT → JT → Prop} (hv : VC_X7_partAlike_5 g d v1 v2 v3 v4 I J P) : Lp_X7_partAlike_5 g d v1 v2 v3 v4 I J P := by
  unfold VC_X7_partAlike_5 at hv
  unfold Lp_X7_partAlike_5
  refine a_iload 4 dX7_partAlike_5 rfl ?_
  refine a_iload_n 2 dX7_partAlike_7 rfl rfl ?_
  refine a_icmp_gt 45 dX7_partAlike_8 rfl (fun hc => ?_) (fun hc => ?_)
  · replace hv := hv.1 hc
    refine a_iload_n 3 dX7_partAlike_45 rfl rfl ?_
    exact a_iret rfl dX7_partAlike_46 hv
  · replace hv := hv.2 hc
    refine a_iload_n 1 dX7_partAlike_11 rfl rfl ?_
    refine a_iconst (v := 1) dX7_partAlike_12 (by decide) ?_
    refine a_iload 4 dX7_partAlike_13 rfl ?_
    refine a_ishl dX7_partAlike_15 ?_
    refine a_iand dX7_partAlike_16 ?_
    refine a_if_eq 39 dX7_partAlike_17 rfl (fun hc => ?_) (fun hc => ?_)
    · replace hv := hv.1 hc
      refine a_iinc 4 (v4 + 1) [(4, .int (v4 + 1)), (0, .ref (ga g 0)), (1, .int v1), (2, .int v2), (3, .int v3)] dX7_partAlike_39 rfl rfl (Nat.le_of_ble_eq_true rfl) rfl ?_
      refine a_goto 5 dX7_partAlike_42 rfl ?_
      exact a_sub [1, 2, 3, 4, 0] rfl hv
    · replace hv := hv.2 hc
      refine a_aload_n 0 dX7_partAlike_20 rfl rfl ?_
      refine a_getR (r := 79) G_X7_62 sh_0 rfl dX7_partAlike_21 ?_
      refine a_iload 4 dX7_partAlike_24 rfl ?_
      refine a_iald sh_79 hv.1 dX7_partAlike_26 ?_
      replace hv := hv.2
      refine a_aload_n 0 dX7_partAlike_27 rfl rfl ?_
      refine a_getR (r := 79) G_X7_62 sh_0 rfl dX7_partAlike_28 ?_
      refine a_iload_n 2 dX7_partAlike_31 rfl rfl ?_
      refine a_iald sh_79 hv.1 dX7_partAlike_32 ?_
      replace hv := hv.2
      refine a_icmp_ne 39 dX7_partAlike_33 rfl (fun hc => ?_) (fun hc => ?_)
      · replace hv := hv.1 hc
        refine a_iinc 4 (v4 + 1) [(4, .int (v4 + 1)), (0, .ref (ga g 0)), (1, .int v1), (2, .int v2), (3, .int v3)] dX7_partAlike_39 rfl rfl (Nat.le_of_ble_eq_true rfl) rfl ?_
        refine a_goto 5 dX7_partAlike_42 rfl ?_
        exact a_sub [1, 2, 3, 4, 0] rfl hv
      · replace hv := hv.2 hc
        refine a_iinc 3 (v3 + 1) [(3, .int (v3 + 1)), (0, .ref (ga g 0)), (1, .int v1), (2, .int v2), (4, .int v4)] dX7_partAlike_36 rfl rfl (Nat.le_of_ble_eq_true rfl) rfl ?_
        refine a_iinc 4 (v4 + 1) [(4, .int (v4 + 1)), (3, .int (v3 + 1)), (0, .ref (ga g 0)), (1, .int v1), (2, .int v2)] dX7_partAlike_39 rfl rfl (Nat.le_of_ble_eq_true rfl) rfl ?_
        refine a_goto 5 dX7_partAlike_42 rfl ?_
        exact a_sub [2, 3, 4, 1, 0] rfl hv
def VC_X7_partAlike (g : GT) (d : Nat) (v1 : Int32) (v2 : Int32) (I : IT) (J : JT) (P : Int32 → IT → JT → Prop) : Prop :=
  (Lp_X7_partAlike_5 g d v1 v2 0 1 I J P)
set_option maxRecDepth 4000 in
theorem w_X7_partAlike {g : GT} {d : Nat} {v1 : Int32} {v2 : Int32} {I : IT} {J : JT} {P : Int32 → IT → JT → Prop} (hv : VC_X7_partAlike g d v1 v2 I J P) : SemI g d M_X7_partAlike [.ref (ga g 0), .int v1, .int v2] I J P := by
  unfold VC_X7_partAlike at hv
  refine sem_intro (by decide +kernel) rfl (Nat.le_of_ble_eq_true rfl) ?_
  show AW _ 0 0 0 [(0, .ref (ga g 0)), (1, .int v1), (2, .int v2)] [] (cW g I J)
  refine a_iconst (v := 0) dX7_partAlike_0 (by decide) ?_
  refine a_istore_n [(3, .int 0), (0, .ref (ga g 0)), (1, .int v1), (2, .int v2)] dX7_partAlike_1 rfl (Nat.le_of_ble_eq_true rfl) rfl ?_
  refine a_iconst (v := 1) dX7_partAlike_2 (by decide) ?_
  refine a_istore [(4, .int 1), (3, .int 0), (0, .ref (ga g 0)), (1, .int v1), (2, .int v2)] dX7_partAlike_3 (Nat.le_of_ble_eq_true rfl) rfl ?_
  exact a_sub [2, 3, 4, 1, 0] rfl hv
def VC_X7_passDecade (g : GT) (d : Nat) (y1 : Int64) (I : IT) (J : JT) (P : IT → JT → Prop) : Prop :=
  ((0 < (I 11 6) → (¬ ((I 11 6).toInt64) = 0 ∧ (SemV g (d - 1) M_X6_board [.ref (ga g 96), .ref (ga g 11), .int ((y1 - y1 / ((I 11 6).toInt64) * ((I 11 6).toInt64)).toInt32)] I J (fun I62 J62 => (SemV g (d - 1) M_X6_hear [.ref (ga g 96), .int (((y1 / 16) - (y1 / 16) / 4 * 4).toInt32), .int (((y1 / 256) - (y1 / 256) / 3 * 3).toInt32)] I62 J62 (fun I71 J71 => ((¬ ((y1 / 4096) - (y1 / 4096) / 7 * 7) = 0 → (SemV g (d - 1) M_X6_land [.ref (ga g 96), .ref (ga g 11), .int ((y1 - y1 / ((I 11 6).toInt64) * ((I 11 6).toInt64)).toInt32)] I71 J71 (fun I114 J114 => P I114 J114))) ∧ (((y1 / 4096) - (y1 / 4096) / 7 * 7) = 0 → (((I71 96 5) ≤ 0 → (SemV g (d - 1) M_X6_land [.ref (ga g 96), .ref (ga g 11), .int ((y1 - y1 / ((I 11 6).toInt64) * ((I 11 6).toInt64)).toInt32)] I71 J71 (fun I114 J114 => P I114 J114))) ∧ (¬ (I71 96 5) ≤ 0 → (SemV g (d - 1) M_X6_land [.ref (ga g 96), .ref (ga g 11), .int ((y1 - y1 / ((I 11 6).toInt64) * ((I 11 6).toInt64)).toInt32)] (sI I71 96 5 ((I71 96 5) - 1)) J71 (fun I114 J114 => P I114 J114)))))))))))) ∧ (¬ 0 < (I 11 6) → P I J))
set_option maxRecDepth 4000 in
theorem w_X7_passDecade {g : GT} {d : Nat} {y1 : Int64} {I : IT} {J : JT} {P : IT → JT → Prop} (hd : 1 ≤ d) (hv : VC_X7_passDecade g d y1 I J P) : SemV g d M_X7_passDecade [.ref (ga g 0), .long y1] I J P := by
  unfold VC_X7_passDecade at hv
  refine sem_intro (by decide +kernel) rfl (Nat.le_of_ble_eq_true rfl) ?_
  show AW _ 0 0 0 [(0, .ref (ga g 0)), (1, .long y1)] [] (cW g I J)
  refine a_aload_n 0 dX7_passDecade_0 rfl rfl ?_
  refine a_getR (r := 11) G_X7_23 sh_0 rfl dX7_passDecade_1 ?_
  refine a_getI G_X7_90 sh_11 rfl dX7_passDecade_4 ?_
  refine a_if_gt 11 dX7_passDecade_7 rfl (fun hc => ?_) (fun hc => ?_)
  · replace hv := hv.1 hc
    refine a_lload_n 1 dX7_passDecade_11 rfl rfl ?_
    refine a_aload_n 0 dX7_passDecade_12 rfl rfl ?_
    refine a_getR (r := 11) G_X7_23 sh_0 rfl dX7_passDecade_13 ?_
    refine a_getI G_X7_90 sh_11 rfl dX7_passDecade_16 ?_
    refine a_i2l dX7_passDecade_19 ?_
    refine a_lrem dX7_passDecade_20 hv.1 ?_
    replace hv := hv.2
    refine a_l2i dX7_passDecade_21 ?_
    refine a_istore_n [(3, .int ((y1 - y1 / ((I 11 6).toInt64) * ((I 11 6).toInt64)).toInt32)), (0, .ref (ga g 0)), (1, .long y1)] dX7_passDecade_22 rfl (Nat.le_of_ble_eq_true rfl) rfl ?_
    refine a_lload_n 2 dX7_passDecade_23 rfl rfl ?_
    refine a_ldc2 (v := 16) dX7_passDecade_24 cl_X7_368 ?_
    refine a_ldiv dX7_passDecade_27 (by decide) ?_
    refine a_ldc2 (v := 4) dX7_passDecade_28 cl_X7_370 ?_
    refine a_lrem dX7_passDecade_31 (by decide) ?_
    refine a_l2i dX7_passDecade_32 ?_
    refine a_istore [(4, .int (((y1 / 16) - (y1 / 16) / 4 * 4).toInt32)), (3, .int ((y1 - y1 / ((I 11 6).toInt64) * ((I 11 6).toInt64)).toInt32)), (0, .ref (ga g 0)), (1, .long y1)] dX7_passDecade_33 (Nat.le_of_ble_eq_true rfl) rfl ?_
    refine a_lload_n 3 dX7_passDecade_35 rfl rfl ?_
    refine a_ldc2 (v := 256) dX7_passDecade_36 cl_X7_372 ?_
    refine a_ldiv dX7_passDecade_39 (by decide) ?_
    refine a_ldc2 (v := 3) dX7_passDecade_40 cl_X7_314 ?_
    refine a_lrem dX7_passDecade_43 (by decide) ?_
    refine a_l2i dX7_passDecade_44 ?_
    refine a_istore [(5, .int (((y1 / 256) - (y1 / 256) / 3 * 3).toInt32)), (4, .int (((y1 / 16) - (y1 / 16) / 4 * 4).toInt32)), (3, .int ((y1 - y1 / ((I 11 6).toInt64) * ((I 11 6).toInt64)).toInt32)), (0, .ref (ga g 0)), (1, .long y1)] dX7_passDecade_45 (Nat.le_of_ble_eq_true rfl) rfl ?_
    refine a_aload_n 3 dX7_passDecade_47 rfl rfl ?_
    refine a_getR (r := 72) G_X7_45 sh_0 rfl dX7_passDecade_48 ?_
    refine a_iconst (v := 0) dX7_passDecade_51 (by decide) ?_
    refine a_aald (r := 96) sh_72 (by decide) (by unfold vp_in; decide) rfl dX7_passDecade_52 ?_
    refine a_astore [(6, .ref (ga g 96)), (5, .int (((y1 / 256) - (y1 / 256) / 3 * 3).toInt32)), (4, .int (((y1 / 16) - (y1 / 16) / 4 * 4).toInt32)), (3, .int ((y1 - y1 / ((I 11 6).toInt64) * ((I 11 6).toInt64)).toInt32)), (0, .ref (ga g 0)), (1, .long y1)] dX7_passDecade_53 (Nat.le_of_ble_eq_true rfl) rfl ?_
    refine a_aload 0 dX7_passDecade_55 rfl ?_
    refine a_aload_n 4 dX7_passDecade_57 rfl rfl ?_
    refine a_getR (r := 11) G_X7_23 sh_0 rfl dX7_passDecade_58 ?_
    refine a_iload_n 3 dX7_passDecade_61 rfl rfl ?_
    refine c_VV (As := [.ref (ga g 11), .int ((y1 - y1 / ((I 11 6).toInt64) * ((I 11 6).toInt64)).toInt32)]) (rest := []) hv K_X7_174 sh_96 rfl rfl rfl (Nat.le_of_ble_eq_true rfl) (rok (by omega) (Nat.le_of_ble_eq_true rfl)) ⟨Nat.zero_le _, Nat.zero_le _⟩ dX7_passDecade_62 (fun I62 J62 hv => ?_)
    refine a_aload 0 dX7_passDecade_65 rfl ?_
    refine a_iload 2 dX7_passDecade_67 rfl ?_
    refine a_iload 1 dX7_passDecade_69 rfl ?_
    refine c_VV (As := [.int (((y1 / 16) - (y1 / 16) / 4 * 4).toInt32), .int (((y1 / 256) - (y1 / 256) / 3 * 3).toInt32)]) (rest := []) hv K_X7_146 sh_96 rfl rfl rfl (Nat.le_of_ble_eq_true rfl) (rok (by omega) (Nat.le_of_ble_eq_true rfl)) ⟨Nat.zero_le _, Nat.zero_le _⟩ dX7_passDecade_71 (fun I71 J71 hv => ?_)
    refine a_lload_n 5 dX7_passDecade_74 rfl rfl ?_
    refine a_ldc2 (v := 4096) dX7_passDecade_75 cl_X7_374 ?_
    refine a_ldiv dX7_passDecade_78 (by decide) ?_
    refine a_ldc2 (v := 7) dX7_passDecade_79 cl_X7_376 ?_
    refine a_lrem dX7_passDecade_82 (by decide) ?_
    refine a_lconst (v := 0) dX7_passDecade_83 (by decide) ?_
    refine a_lcmp dX7_passDecade_84 ?_
    refine a_lcmp_ne 107 dX7_passDecade_85 rfl (fun hc => ?_) (fun hc => ?_)
    · replace hv := hv.1 hc
      refine a_aload 0 dX7_passDecade_107 rfl ?_
      refine a_aload_n 4 dX7_passDecade_109 rfl rfl ?_
      refine a_getR (r := 11) G_X7_23 sh_0 rfl dX7_passDecade_110 ?_
      refine a_iload_n 3 dX7_passDecade_113 rfl rfl ?_
      refine c_VV (As := [.ref (ga g 11), .int ((y1 - y1 / ((I 11 6).toInt64) * ((I 11 6).toInt64)).toInt32)]) (rest := []) hv K_X7_322 sh_96 rfl rfl rfl (Nat.le_of_ble_eq_true rfl) (rok (by omega) (Nat.le_of_ble_eq_true rfl)) ⟨Nat.zero_le _, Nat.zero_le _⟩ dX7_passDecade_114 (fun I114 J114 hv => ?_)
      exact a_vret rfl dX7_passDecade_117 hv
    · replace hv := hv.2 hc
      refine a_aload 0 dX7_passDecade_88 rfl ?_
      refine a_getI G_X7_378 sh_96 rfl dX7_passDecade_90 ?_
      refine a_if_le 107 dX7_passDecade_93 rfl (fun hc => ?_) (fun hc => ?_)
      · replace hv := hv.1 hc
        refine a_aload 0 dX7_passDecade_107 rfl ?_
        refine a_aload_n 4 dX7_passDecade_109 rfl rfl ?_
        refine a_getR (r := 11) G_X7_23 sh_0 rfl dX7_passDecade_110 ?_
        refine a_iload_n 3 dX7_passDecade_113 rfl rfl ?_
        refine c_VV (As := [.ref (ga g 11), .int ((y1 - y1 / ((I 11 6).toInt64) * ((I 11 6).toInt64)).toInt32)]) (rest := []) hv K_X7_322 sh_96 rfl rfl rfl (Nat.le_of_ble_eq_true rfl) (rok (by omega) (Nat.le_of_ble_eq_true rfl)) ⟨Nat.zero_le _, Nat.zero_le _⟩ dX7_passDecade_114 (fun I114 J114 hv => ?_)
        exact a_vret rfl dX7_passDecade_117 hv
      · replace hv := hv.2 hc
        refine a_aload 0 dX7_passDecade_96 rfl ?_
        refine a_dup dX7_passDecade_98 rfl ?_
        refine a_getI G_X7_378 sh_96 rfl dX7_passDecade_99 ?_
        refine a_iconst (v := 1) dX7_passDecade_102 (by decide) ?_
        refine a_isub dX7_passDecade_103 ?_
        refine a_putI H_X7_378 sh_96 rfl rfl rfl dX7_passDecade_104 ?_
        refine a_aload 0 dX7_passDecade_107 rfl ?_
        refine a_aload_n 4 dX7_passDecade_109 rfl rfl ?_
        refine a_getR (r := 11) G_X7_23 sh_0 rfl dX7_passDecade_110 ?_
        refine a_iload_n 3 dX7_passDecade_113 rfl rfl ?_
        refine c_VV (As := [.ref (ga g 11), .int ((y1 - y1 / ((I 11 6).toInt64) * ((I 11 6).toInt64)).toInt32)]) (rest := []) hv K_X7_322 sh_96 rfl rfl rfl (Nat.le_of_ble_eq_true rfl) (rok (by omega) (Nat.le_of_ble_eq_true rfl)) ⟨Nat.zero_le _, Nat.zero_le _⟩ dX7_passDecade_114 (fun I114 J114 hv => ?_)
        exact a_vret rfl dX7_passDecade_117 hv
  · replace hv := hv.2 hc
    exact a_vret rfl dX7_passDecade_10 hv
