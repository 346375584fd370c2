def VC_X5_add (g : GT) (d : Nat) (v1 : Int32) (I : IT) (J : JT) (P : Bool → IT → JT → Prop) : Prop :=
  (((I 1 1) < 130 → (vp_in (I 1 1) 130 ∧ P true (sI (sI I 2 (I 1 1).toNatClampNeg v1) 1 1 (((sI I 2 (I 1 1).toNatClampNeg v1) 1 1) + 1)) J)) ∧ (¬ (I 1 1) < 130 → P false I J))
set_option maxRecDepth 4000 in
theorem w_X5_add {g : GT} {d : Nat} {v1 : Int32} {I : IT} {J : JT} {P : Bool → IT → JT → Prop} (hv : VC_X5_add g d v1 I J P) : SemZ g d M_X5_add [.ref (ga g 1), .int v1] I J P := by
  unfold VC_X5_add at hv
  refine sem_intro (by decide +kernel) rfl (Nat.le_of_ble_eq_true rfl) ?_
  show AW _ 0 0 0 [(0, .ref (ga g 1)), (1, .int v1)] [] (cW g I J)
  refine a_aload_n 0 dX5_add_0 rfl rfl ?_
  refine a_getI G_X5_15 sh_1 rfl dX5_add_1 ?_
  refine a_sipush (v := 130) dX5_add_4 (by decide) ?_
  refine a_icmp_lt 12 dX5_add_7 rfl (fun hc => ?_) (fun hc => ?_)
  · replace hv := hv.1 hc
    refine a_aload_n 0 dX5_add_12 rfl rfl ?_
    refine a_getR (r := 2) G_X5_9 sh_1 rfl dX5_add_13 ?_
    refine a_aload_n 0 dX5_add_16 rfl rfl ?_
    refine a_getI G_X5_15 sh_1 rfl dX5_add_17 ?_
    refine a_iload_n 1 dX5_add_20 rfl rfl ?_
    refine a_iast sh_2 hv.1 dX5_add_21 ?_
    replace hv := hv.2
    refine a_aload_n 0 dX5_add_22 rfl rfl ?_
    refine a_dup dX5_add_23 rfl ?_
    refine a_getI G_X5_15 sh_1 rfl dX5_add_24 ?_
    refine a_iconst (v := 1) dX5_add_27 (by decide) ?_
    refine a_iadd dX5_add_28 ?_
    refine a_putI H_X5_15 sh_1 rfl rfl rfl dX5_add_29 ?_
    refine a_iconst (v := 1) dX5_add_32 (by decide) ?_
    exact a_zret _ true (by decide) rfl dX5_add_33 hv
  · replace hv := hv.2 hc
    refine a_iconst (v := 0) dX5_add_10 (by decide) ?_
    exact a_zret _ false (by decide) rfl dX5_add_11 hv
def VC_X5_readFleet (g : GT) (d : Nat) (o1 : Nat) (I : IT) (J : JT) (P : Bool → IT → JT → Prop) : Prop :=
  (SemV g (d - 1) M_X2_empty [.ref (ga g o1)] (sI I 1 2 0) J (fun I6 J6 => (SemZ g (d - 1) M_X5_takes [.ref (ga g 1), .int 102] I6 J6 (fun r12 I12 J12 => ((r12 = false → P false I12 J12) ∧ (r12 = true → (SemZ g (d - 1) M_X5_readSea [.ref (ga g 1), .ref (ga g (o1 + 1))] I12 J12 (fun r23 I23 J23 => ((r23 = false → P false I23 J23) ∧ (r23 = true → (SemZ g (d - 1) M_X5_readShips [.ref (ga g 1), .ref (ga g o1)] I23 J23 (fun r31 I31 J31 => ((r31 = false → P false I31 J31) ∧ (r31 = true → (SemZ g (d - 1) M_X5_readCredit [.ref (ga g 1), .ref (ga g o1)] I31 J31 (fun r39 I39 J39 => ((r39 = false → P false I39 J39) ∧ (r39 = true → ((¬ (I39 1 2) = (I39 1 1) → P false I39 J39) ∧ ((I39 1 2) = (I39 1 1) → P true I39 J39))))))))))))))))))))
set_option maxRecDepth 4000 in
theorem w_X5_readFleet {g : GT} {d : Nat} {o1 : Nat} {I : IT} {J : JT} {P : Bool → IT → JT → Prop} (ho1 : isF o1) (hd : 1 ≤ d) (hv : VC_X5_readFleet g d o1 I J P) : SemZ g d M_X5_readFleet [.ref (ga g 1), .ref (ga g o1)] I J P := by
  unfold VC_X5_readFleet at hv
  refine sem_intro (by decide +kernel) rfl (Nat.le_of_ble_eq_true rfl) ?_
  show AW _ 0 0 0 [(0, .ref (ga g 1)), (1, .ref (ga g o1))] [] (cW g I J)
  refine a_aload_n 0 dX5_readFleet_0 rfl rfl ?_
  refine a_iconst (v := 0) dX5_readFleet_1 (by decide) ?_
  refine a_putI H_X5_19 sh_1 rfl rfl rfl dX5_readFleet_2 ?_
  refine a_aload_n 1 dX5_readFleet_5 rfl rfl ?_
  refine c_VV (As := []) (rest := []) hv K_X5_22 ho1.1 rfl rfl rfl (Nat.le_of_ble_eq_true rfl) (rok (by omega) (Nat.le_of_ble_eq_true rfl)) ⟨Nat.zero_le _, Nat.zero_le _⟩ dX5_readFleet_6 (fun I6 J6 hv => ?_)
  refine a_aload_n 0 dX5_readFleet_9 rfl rfl ?_
  refine a_bipush (v := 102) dX5_readFleet_10 (by decide) ?_
  refine c_VZ (As := [.int 102]) (rest := []) hv K_X5_27 sh_1 rfl rfl rfl (Nat.le_of_ble_eq_true rfl) (rok (by omega) (Nat.le_of_ble_eq_true rfl)) ⟨Nat.zero_le _, Nat.zero_le _⟩ dX5_readFleet_12 (fun r12 I12 J12 hv => ?_)
  refine a_ifz_eq 60 dX5_readFleet_15 rfl (fun hc => ?_) (fun hc => ?_)
  · replace hv := hv.1 hc
    refine a_iconst (v := 0) dX5_readFleet_60 (by decide) ?_
    exact a_zret _ false (by decide) rfl dX5_readFleet_61 hv
  · replace hv := hv.2 hc
    refine a_aload_n 0 dX5_readFleet_18 rfl rfl ?_
    refine a_aload_n 1 dX5_readFleet_19 rfl rfl ?_
    refine a_getR (r := (o1 + 1)) G_X5_31 ho1.1 rfl dX5_readFleet_20 ?_
    refine c_VZ (As := [.ref (ga g (o1 + 1))]) (rest := []) hv K_X5_35 sh_1 rfl rfl rfl (Nat.le_of_ble_eq_true rfl) (rok (by omega) (Nat.le_of_ble_eq_true rfl)) ⟨Nat.zero_le _, Nat.zero_le _⟩ dX5_readFleet_23 (fun r23 I23 J23 hv => ?_)
    refine a_ifz_eq 60 dX5_readFleet_26 rfl (fun hc => ?_) (fun hc => ?_)
    · replace hv := hv.1 hc
      refine a_iconst (v := 0) dX5_readFleet_60 (by decide) ?_
      exact a_zret _ false (by decide) rfl dX5_readFleet_61 hv
    · replace hv := hv.2 hc
      refine a_aload_n 0 dX5_readFleet_29 rfl rfl ?_
      refine a_aload_n 1 dX5_readFleet_30 rfl rfl ?_
      refine c_VZ (As := [.ref (ga g o1)]) (rest := []) hv K_X5_39 sh_1 rfl rfl rfl (Nat.le_of_ble_eq_true rfl) (rok (by omega) (Nat.le_of_ble_eq_true rfl)) ⟨Nat.zero_le _, Nat.zero_le _⟩ dX5_readFleet_31 (fun r31 I31 J31 hv => ?_)
      refine a_ifz_eq 60 dX5_readFleet_34 rfl (fun hc => ?_) (fun hc => ?_)
      · replace hv := hv.1 hc
        refine a_iconst (v := 0) dX5_readFleet_60 (by decide) ?_
        exact a_zret _ false (by decide) rfl dX5_readFleet_61 hv
      · replace hv := hv.2 hc
        refine a_aload_n 0 dX5_readFleet_37 rfl rfl ?_
        refine a_aload_n 1 dX5_readFleet_38 rfl rfl ?_
        refine c_VZ (As := [.ref (ga g o1)]) (rest := []) hv K_X5_43 sh_1 rfl rfl rfl (Nat.le_of_ble_eq_true rfl) (rok (by omega) (Nat.le_of_ble_eq_true rfl)) ⟨Nat.zero_le _, Nat.zero_le _⟩ dX5_readFleet_39 (fun r39 I39 J39 hv => ?_)
        refine a_ifz_eq 60 dX5_readFleet_42 rfl (fun hc => ?_) (fun hc => ?_)
        · replace hv := hv.1 hc
          refine a_iconst (v := 0) dX5_readFleet_60 (by decide) ?_
          exact a_zret _ false (by decide) rfl dX5_readFleet_61 hv
        · replace hv := hv.2 hc
          refine a_aload_n 0 dX5_readFleet_45 rfl rfl ?_
          refine a_getI G_X5_19 sh_1 rfl dX5_readFleet_46 ?_
          refine a_aload_n 0 dX5_readFleet_49 rfl rfl ?_
          refine a_getI G_X5_15 sh_1 rfl dX5_readFleet_50 ?_
          refine a_icmp_ne 60 dX5_readFleet_53 rfl (fun hc => ?_) (fun hc => ?_)
          · replace hv := hv.1 hc
            refine a_iconst (v := 0) dX5_readFleet_60 (by decide) ?_
            exact a_zret _ false (by decide) rfl dX5_readFleet_61 hv
          · replace hv := hv.2 hc
            refine a_iconst (v := 1) dX5_readFleet_56 (by decide) ?_
            refine a_goto 61 dX5_readFleet_57 rfl ?_
            exact a_zret _ true (by decide) rfl dX5_readFleet_61 hv
def VC_X5_here (g : GT) (d : Nat)  (I : IT) (J : JT) (P : Int32 → IT → JT → Prop) : Prop :=
  (((I 1 2) < 0 → P (-1) I J) ∧ (¬ (I 1 2) < 0 → (((I 1 1) ≤ (I 1 2) → P (-1) I J) ∧ (¬ (I 1 1) ≤ (I 1 2) → ((130 ≤ (I 1 2) → P (-1) I J) ∧ (¬ 130 ≤ (I 1 2) → (vp_in (I 1 2) 130 ∧ P (I 2 (I 1 2).toNatClampNeg) I J)))))))
set_option maxRecDepth 4000 in
theorem w_X5_here {g : GT} {d : Nat}  {I : IT} {J : JT} {P : Int32 → IT → JT → Prop} (hv : VC_X5_here g d  I J P) : SemI g d M_X5_here [.ref (ga g 1)] I J P := by
  unfold VC_X5_here at hv
  refine sem_intro (by decide +kernel) rfl (Nat.le_of_ble_eq_true rfl) ?_
  show AW _ 0 0 0 [(0, .ref (ga g 1))] [] (cW g I J)
  refine a_aload_n 0 dX5_here_0 rfl rfl ?_
  refine a_getI G_X5_19 sh_1 rfl dX5_here_1 ?_
  refine a_if_lt 40 dX5_here_4 rfl (fun hc => ?_) (fun hc => ?_)
  · replace hv := hv.1 hc
    refine a_iconst (v := (-1)) dX5_here_40 (by decide) ?_
    exact a_iret rfl dX5_here_41 hv
  · replace hv := hv.2 hc
    refine a_aload_n 0 dX5_here_7 rfl rfl ?_
    refine a_getI G_X5_19 sh_1 rfl dX5_here_8 ?_
    refine a_aload_n 0 dX5_here_11 rfl rfl ?_
    refine a_getI G_X5_15 sh_1 rfl dX5_here_12 ?_
    refine a_icmp_ge 40 dX5_here_15 rfl (fun hc => ?_) (fun hc => ?_)
    · replace hv := hv.1 hc
      refine a_iconst (v := (-1)) dX5_here_40 (by decide) ?_
      exact a_iret rfl dX5_here_41 hv
    · replace hv := hv.2 hc
      refine a_aload_n 0 dX5_here_18 rfl rfl ?_
      refine a_getI G_X5_19 sh_1 rfl dX5_here_19 ?_
      refine a_sipush (v := 130) dX5_here_22 (by decide) ?_
      refine a_icmp_ge 40 dX5_here_25 rfl (fun hc => ?_) (fun hc => ?_)
      · replace hv := hv.1 hc
        refine a_iconst (v := (-1)) dX5_here_40 (by decide) ?_
        exact a_iret rfl dX5_here_41 hv
      · replace hv := hv.2 hc
        refine a_aload_n 0 dX5_here_28 rfl rfl ?_
        refine a_getR (r := 2) G_X5_9 sh_1 rfl dX5_here_29 ?_
        refine a_aload_n 0 dX5_here_32 rfl rfl ?_
        refine a_getI G_X5_19 sh_1 rfl dX5_here_33 ?_
        refine a_iald sh_2 hv.1 dX5_here_36 ?_
        replace hv := hv.2
        refine a_goto 41 dX5_here_37 rfl ?_
        exact a_iret rfl dX5_here_41 hv
def VC_X5_takes (g : GT) (d : Nat) (v1 : Int32) (I : IT) (J : JT) (P : Bool → IT → JT → Prop) : Prop :=
  (SemI g (d - 1) M_X5_here [.ref (ga g 1)] I J (fun r1 I1 J1 => ((r1 = v1 → P true (sI I1 1 2 ((I1 1 2) + 1)) J1) ∧ (¬ r1 = v1 → P false I1 J1))))
set_option maxRecDepth 4000 in
theorem w_X5_takes {g : GT} {d : Nat} {v1 : Int32} {I : IT} {J : JT} {P : Bool → IT → JT → Prop} (hd : 1 ≤ d) (hv : VC_X5_takes g d v1 I J P) : SemZ g d M_X5_takes [.ref (ga g 1), .int v1] I J P := by
  unfold VC_X5_takes at hv
  refine sem_intro (by decide +kernel) rfl (Nat.le_of_ble_eq_true rfl) ?_
  show AW _ 0 0 0 [(0, .ref (ga g 1)), (1, .int v1)] [] (cW g I J)
  refine a_aload_n 0 dX5_takes_0 rfl rfl ?_
  refine c_VI (As := []) (rest := []) hv K_X5_46 sh_1 rfl rfl rfl (Nat.le_of_ble_eq_true rfl) (rok (by omega) (Nat.le_of_ble_eq_true rfl)) ⟨Nat.zero_le _, Nat.zero_le _⟩ dX5_takes_1 (fun r1 I1 J1 hv => ?_)
  refine a_iload_n 1 dX5_takes_4 rfl rfl ?_
  refine a_icmp_eq 10 dX5_takes_5 rfl (fun hc => ?_) (fun hc => ?_)
  · replace hv := hv.1 hc
    refine a_aload_n 0 dX5_takes_10 rfl rfl ?_
    refine a_dup dX5_takes_11 rfl ?_
    refine a_getI G_X5_19 sh_1 rfl dX5_takes_12 ?_
    refine a_iconst (v := 1) dX5_takes_15 (by decide) ?_
    refine a_iadd dX5_takes_16 ?_
    refine a_putI H_X5_19 sh_1 rfl rfl rfl dX5_takes_17 ?_
    refine a_iconst (v := 1) dX5_takes_20 (by decide) ?_
    exact a_zret _ true (by decide) rfl dX5_takes_21 hv
  · replace hv := hv.2 hc
    refine a_iconst (v := 0) dX5_takes_8 (by decide) ?_
    exact a_zret _ false (by decide) rfl dX5_takes_9 hv
def VC_X5_oneOf (g : GT) (d : Nat) (o1 : Nat) (I : IT) (J : JT) (P : Int32 → IT → JT → Prop) : Prop :=
  (SemI g (d - 1) M_X5_here [.ref (ga g 1)] I J (fun r1 I1 J1 => ((0 ≤ r1 → (SemI g (d - 1) M_J0_indexOf_0f7a4 [.ref (gR g (3 + o1)), .int ((r1.toUInt32 % 65536).toInt32)] I1 J1 (fun r16 I16 J16 => P r16 I16 J16))) ∧ (¬ 0 ≤ r1 → P (-1) I1 J1))))
set_option maxRecDepth 4000 in
theorem w_X5_oneOf {g : GT} {d : Nat} {o1 : Nat} {I : IT} {J : JT} {P : Int32 → IT → JT → Prop} (ho1 : o1 < 3) (hd : 1 ≤ d) (hv : VC_X5_oneOf g d o1 I J P) : SemI g d M_X5_oneOf [.ref (ga g 1), .ref (gR g (3 + o1))] I J P := by
  unfold VC_X5_oneOf at hv
  refine sem_intro (by decide +kernel) rfl (Nat.le_of_ble_eq_true rfl) ?_
  show AW _ 0 0 0 [(0, .ref (ga g 1)), (1, .ref (gR g (3 + o1)))] [] (cW g I J)
  refine a_aload_n 0 dX5_oneOf_0 rfl rfl ?_
  refine c_VI (As := []) (rest := []) hv K_X5_46 sh_1 rfl rfl rfl (Nat.le_of_ble_eq_true rfl) (rok (by omega) (Nat.le_of_ble_eq_true rfl)) ⟨Nat.zero_le _, Nat.zero_le _⟩ dX5_oneOf_1 (fun r1 I1 J1 hv => ?_)
  refine a_istore_n [(2, .int r1), (0, .ref (ga g 1)), (1, .ref (gR g (3 + o1)))] dX5_oneOf_4 rfl (Nat.le_of_ble_eq_true rfl) rfl ?_
  refine a_iload_n 0 dX5_oneOf_5 rfl rfl ?_
  refine a_if_ge 13 dX5_oneOf_6 rfl (fun hc => ?_) (fun hc => ?_)
  · replace hv := hv.1 hc
    refine a_aload_n 2 dX5_oneOf_13 rfl rfl ?_
    refine a_iload_n 0 dX5_oneOf_14 rfl rfl ?_
    refine a_i2c dX5_oneOf_15 ?_
    refine c_strI (As := [.int ((r1.toUInt32 % 65536).toInt32)]) (rest := []) ho1 hv K_X5_50 rfl rfl rfl (Nat.le_of_ble_eq_true rfl) (rok (by omega) (Nat.le_of_ble_eq_true rfl)) ⟨Nat.zero_le _, Nat.zero_le _⟩ dX5_oneOf_16 (fun r16 I16 J16 hv => ?_)
    exact a_iret rfl dX5_oneOf_19 hv
  · replace hv := hv.2 hc
    refine a_iconst (v := (-1)) dX5_oneOf_9 (by decide) ?_
    refine a_goto 19 dX5_oneOf_10 rfl ?_
    exact a_iret rfl dX5_oneOf_19 hv
def VC_X5_figureBelow (g : GT) (d : Nat) (v1 : Int32) (I : IT) (J : JT) (P : Int32 → IT → JT → Prop) : Prop :=
  (SemI g (d - 1) M_X5_here [.ref (ga g 1)] I J (fun r1 I1 J1 => (((r1 - 48) < 0 → P (-1) I1 J1) ∧ (¬ (r1 - 48) < 0 → ((v1 ≤ (r1 - 48) → P (-1) I1 J1) ∧ (¬ v1 ≤ (r1 - 48) → P (r1 - 48) I1 J1))))))
set_option maxRecDepth 4000 in
theorem w_X5_figureBelow {g : GT} {d : Nat} {v1 : Int32} {I : IT} {J : JT} {P : Int32 → IT → JT → Prop} (hd : 1 ≤ d) (hv : VC_X5_figureBelow g d v1 I J P) : SemI g d M_X5_figureBelow [.ref (ga g 1), .int v1] I J P := by
  unfold VC_X5_figureBelow at hv
  refine sem_intro (by decide +kernel) rfl (Nat.le_of_ble_eq_true rfl) ?_
  show AW _ 0 0 0 [(0, .ref (ga g 1)), (1, .int v1)] [] (cW g I J)
  refine a_aload_n 0 dX5_figureBelow_0 rfl rfl ?_
  refine c_VI (As := []) (rest := []) hv K_X5_46 sh_1 rfl rfl rfl (Nat.le_of_ble_eq_true rfl) (rok (by omega) (Nat.le_of_ble_eq_true rfl)) ⟨Nat.zero_le _, Nat.zero_le _⟩ dX5_figureBelow_1 (fun r1 I1 J1 hv => ?_)
  refine a_bipush (v := 48) dX5_figureBelow_4 (by decide) ?_
  refine a_isub dX5_figureBelow_6 ?_
  refine a_istore_n [(2, .int (r1 - 48)), (0, .ref (ga g 1)), (1, .int v1)] dX5_figureBelow_7 rfl (Nat.le_of_ble_eq_true rfl) rfl ?_
  refine a_iload_n 0 dX5_figureBelow_8 rfl rfl ?_
  refine a_if_lt 21 dX5_figureBelow_9 rfl (fun hc => ?_) (fun hc => ?_)
  · replace hv := hv.1 hc
    refine a_iconst (v := (-1)) dX5_figureBelow_21 (by decide) ?_
    exact a_iret rfl dX5_figureBelow_22 hv
  · replace hv := hv.2 hc
    refine a_iload_n 0 dX5_figureBelow_12 rfl rfl ?_
    refine a_iload_n 2 dX5_figureBelow_13 rfl rfl ?_
    refine a_icmp_ge 21 dX5_figureBelow_14 rfl (fun hc => ?_) (fun hc => ?_)
    · replace hv := hv.1 hc
      refine a_iconst (v := (-1)) dX5_figureBelow_21 (by decide) ?_
      exact a_iret rfl dX5_figureBelow_22 hv
    · replace hv := hv.2 hc
      refine a_iload_n 0 dX5_figureBelow_17 rfl rfl ?_
      refine a_goto 22 dX5_figureBelow_18 rfl ?_
      exact a_iret rfl dX5_figureBelow_22 hv
def Lp_X5_readSea_2 (g : GT) (d : Nat) (o1 : Nat) (v2 : Int32) (I : IT) (J : JT) (P : Bool → IT → JT → Prop) : Prop := AW (kM g d M_X5_readSea 0 0 (qZ g P)) 0 0 2 [(0, .ref (ga g 1)), (1, .ref (ga g o1)), (2, .int v2)] [] (cW g I J)
def VC_X5_readSea_2 (g : GT) (d : Nat) (o1 : Nat) (v2 : Int32) (I : IT) (J : JT) (P : Bool → IT → JT → Prop) : Prop :=
  ((6 ≤ v2 → P false I J) ∧ (¬ 6 ≤ v2 → (SemZ g (d - 1) M_X5_readRow [.ref (ga g 1), .ref (ga g o1), .int v2] I J (fun r11 I11 J11 => ((r11 = true → (SemZ g (d - 1) M_X5_takes [.ref (ga g 1), .int 59] (sI I11 o1 1 (v2 + 1)) J11 (fun r29 I29 J29 => ((r29 = false → ((6 ≤ (v2 + 1) → P false I29 J29) ∧ (¬ 6 ≤ (v2 + 1) → (SemZ g (d - 1) M_X5_takes [.ref (ga g 1), .int 47] I29 J29 (fun r48 I48 J48 => ((r48 = true → (Lp_X5_readSea_2 g d o1 (v2 + 1) I48 J48 P)) ∧ (r48 = false → P false I48 J48))))))) ∧ (r29 = true → P true I29 J29))))) ∧ (r11 = false → P false I11 J11))))))
set_option maxRecDepth 4000 in
theorem w_X5_readSea_2 {g : GT} {d : Nat} {o1 : Nat} {v2 : Int32} {I : IT} {J : JT} {P : Bool → IT → JT → Prop} (ho1 : isSea o1) (hd : 1 ≤ d) (hv : VC_X5_readSea_2 g d o1 v2 I J P) : Lp_X5_readSea_2 g d o1 v2 I J P := by
  unfold VC_X5_readSea_2 at hv
  unfold Lp_X5_readSea_2
  refine a_iload_n 2 dX5_readSea_2 rfl rfl ?_
  refine a_bipush (v := 6) dX5_readSea_3 (by decide) ?_
  refine a_icmp_ge 62 dX5_readSea_5 rfl (fun hc => ?_) (fun hc => ?_)
  · replace hv := hv.1 hc
    refine a_iconst (v := 0) dX5_readSea_62 (by decide) ?_
    exact a_zret _ false (by decide) rfl dX5_readSea_63 hv
  · replace hv := hv.2 hc
    refine a_aload_n 0 dX5_readSea_8 rfl rfl ?_
    refine a_aload_n 1 dX5_readSea_9 rfl rfl ?_
    refine a_iload_n 2 dX5_readSea_10 rfl rfl ?_
    refine c_VZ (As := [.ref (ga g o1), .int v2]) (rest := []) hv K_X5_56 sh_1 rfl rfl rfl (Nat.le_of_ble_eq_true rfl) (rok (by omega) (Nat.le_of_ble_eq_true rfl)) ⟨Nat.zero_le _, Nat.zero_le _⟩ dX5_readSea_11 (fun r11 I11 J11 hv => ?_)
    refine a_ifz_ne 19 dX5_readSea_14 rfl (fun hc => ?_) (fun hc => ?_)
    · replace hv := hv.1 hc
      refine a_aload_n 1 dX5_readSea_19 rfl rfl ?_
      refine a_iload_n 2 dX5_readSea_20 rfl rfl ?_
      refine a_iconst (v := 1) dX5_readSea_21 (by decide) ?_
      refine a_iadd dX5_readSea_22 ?_
      refine a_putI H_X5_60 ho1.1 rfl rfl rfl dX5_readSea_23 ?_
      refine a_aload_n 0 dX5_readSea_26 rfl rfl ?_
      refine a_bipush (v := 59) dX5_readSea_27 (by decide) ?_
      refine c_VZ (As := [.int 59]) (rest := []) hv K_X5_27 sh_1 rfl rfl rfl (Nat.le_of_ble_eq_true rfl) (rok (by omega) (Nat.le_of_ble_eq_true rfl)) ⟨Nat.zero_le _, Nat.zero_le _⟩ dX5_readSea_29 (fun r29 I29 J29 hv => ?_)
      refine a_ifz_eq 37 dX5_readSea_32 rfl (fun hc => ?_) (fun hc => ?_)
      · replace hv := hv.1 hc
        refine a_iload_n 2 dX5_readSea_37 rfl rfl ?_
        refine a_iconst (v := 1) dX5_readSea_38 (by decide) ?_
        refine a_iadd dX5_readSea_39 ?_
        refine a_bipush (v := 6) dX5_readSea_40 (by decide) ?_
        refine a_icmp_ge 54 dX5_readSea_42 rfl (fun hc => ?_) (fun hc => ?_)
        · replace hv := hv.1 hc
          refine a_iconst (v := 0) dX5_readSea_54 (by decide) ?_
          exact a_zret _ false (by decide) rfl dX5_readSea_55 hv
        · replace hv := hv.2 hc
          refine a_aload_n 0 dX5_readSea_45 rfl rfl ?_
          refine a_bipush (v := 47) dX5_readSea_46 (by decide) ?_
          refine c_VZ (As := [.int 47]) (rest := []) hv K_X5_27 sh_1 rfl rfl rfl (Nat.le_of_ble_eq_true rfl) (rok (by omega) (Nat.le_of_ble_eq_true rfl)) ⟨Nat.zero_le _, Nat.zero_le _⟩ dX5_readSea_48 (fun r48 I48 J48 hv => ?_)
          refine a_ifz_ne 56 dX5_readSea_51 rfl (fun hc => ?_) (fun hc => ?_)
          · replace hv := hv.1 hc
            refine a_iinc 2 (v2 + 1) [(2, .int (v2 + 1)), (0, .ref (ga g 1)), (1, .ref (ga g o1))] dX5_readSea_56 rfl rfl (Nat.le_of_ble_eq_true rfl) rfl ?_
            refine a_goto 2 dX5_readSea_59 rfl ?_
            exact a_sub [1, 2, 0] rfl hv
          · replace hv := hv.2 hc
            refine a_iconst (v := 0) dX5_readSea_54 (by decide) ?_
            exact a_zret _ false (by decide) rfl dX5_readSea_55 hv
      · replace hv := hv.2 hc
        refine a_iconst (v := 1) dX5_readSea_35 (by decide) ?_
        exact a_zret _ true (by decide) rfl dX5_readSea_36 hv
    · replace hv := hv.2 hc
      refine a_iconst (v := 0) dX5_readSea_17 (by decide) ?_
      exact a_zret _ false (by decide) rfl dX5_readSea_18 hv
def VC_X5_readSea (g : GT) (d : Nat) (o1 : Nat) (I : IT) (J : JT) (P : Bool → IT → JT → Prop) : Prop :=
  (Lp_X5_readSea_2 g d o1 0 I J P)
set_option maxRecDepth 4000 in
theorem w_X5_readSea {g : GT} {d : Nat} {o1 : Nat} {I : IT} {J : JT} {P : Bool → IT → JT → Prop} (ho1 : isSea o1) (hv : VC_X5_readSea g d o1 I J P) : SemZ g d M_X5_readSea [.ref (ga g 1), .ref (ga g o1)] I J P := by
  unfold VC_X5_readSea at hv
  refine sem_intro (by decide +kernel) rfl (Nat.le_of_ble_eq_true rfl) ?_
  show AW _ 0 0 0 [(0, .ref (ga g 1)), (1, .ref (ga g o1))] [] (cW g I J)
  refine a_iconst (v := 0) dX5_readSea_0 (by decide) ?_
  refine a_istore_n [(2, .int 0), (0, .ref (ga g 1)), (1, .ref (ga g o1))] dX5_readSea_1 rfl (Nat.le_of_ble_eq_true rfl) rfl ?_
  exact a_sub [1, 2, 0] rfl hv
def Lp_X5_readRow_17 (g : GT) (d : Nat) (o1 : Nat) (v2 : Int32) (v3 : Int32) (v4 : Int32) (I : IT) (J : JT) (P : Bool → IT → JT → Prop) : Prop := AW (kM g d M_X5_readRow 0 0 (qZ g P)) 0 0 17 [(0, .ref (ga g 1)), (1, .ref (ga g o1)), (2, .int v2), (3, .int v3), (4, .int v4)] [] (cW g I J)
def VC_X5_readRow_17 (g : GT) (d : Nat) (o1 : Nat) (v2 : Int32) (v3 : Int32) (v4 : Int32) (I : IT) (J : JT) (P : Bool → IT → JT → Prop) : Prop :=
  ((v3 ≤ v4 → ((¬ v2 = 0 → ((v4 ≤ 0 → P false I J) ∧ (¬ v4 ≤ 0 → ((¬ v4 = (I o1 2) → P false I J) ∧ (v4 = (I o1 2) → P true I J))))) ∧ (v2 = 0 → ((v4 ≤ 0 → P false (sI I o1 2 v4) J) ∧ (¬ v4 ≤ 0 → ((¬ v4 = ((sI I o1 2 v4) o1 2) → P false (sI I o1 2 v4) J) ∧ (v4 = ((sI I o1 2 v4) o1 2) → P true (sI I o1 2 v4) J))))))) ∧ (¬ v3 ≤ v4 → (SemI g (d - 1) M_X5_oneOf [.ref (ga g 1), .ref (gR g 3)] I J (fun r26 I26 J26 => ((r26 < 0 → ((¬ v2 = 0 → ((v4 ≤ 0 → P false I26 J26) ∧ (¬ v4 ≤ 0 → ((¬ v4 = (I26 o1 2) → P false I26 J26) ∧ (v4 = (I26 o1 2) → P true I26 J26))))) ∧ (v2 = 0 → ((v4 ≤ 0 → P false (sI I26 o1 2 v4) J26) ∧ (¬ v4 ≤ 0 → ((¬ v4 = ((sI I26 o1 2 v4) o1 2) → P false (sI I26 o1 2 v4) J26) ∧ (v4 = ((sI I26 o1 2 v4) o1 2) → P true (sI I26 o1 2 v4) J26))))))) ∧ (¬ r26 < 0 → (SemI g (d - 1) M_X3_cellOf [.int v2, .int v4] I26 J26 (fun r39 I39 J39 => (SemI g (d - 1) M_X5_oneOf [.ref (ga g 1), .ref (gR g 3)] I39 J39 (fun r45 I45 J45 => (vp_in r39 48 ∧ (Lp_X5_readRow_17 g d o1 v2 v3 (v4 + 1) (sI (sI I45 (o1 + 1) r39.toNatClampNeg r45) 1 2 (((sI I45 (o1 + 1) r39.toNatClampNeg r45) 1 2) + 1)) J45 P))))))))))))
set_option maxRecDepth 4000 in
theorem w_X5_readRow_17 {g : GT} {d : Nat} {o1 : Nat} {v2 : Int32} {v3 : Int32} {v4 : Int32} {I : IT} {J : JT} {P : Bool → IT → JT → Prop} (ho1 : isSea o1) (hd : 1 ≤ d) (hv : VC_X5_readRow_17 g d o1 v2 v3 v4 I J P) : Lp_X5_readRow_17 g d o1 v2 v3 v4 I J P := by
  unfold VC_X5_readRow_17 at hv
  unfold Lp_X5_readRow_17
  refine a_iload 4 dX5_readRow_17 rfl ?_
  refine a_iload_n 3 dX5_readRow_19 rfl rfl ?_
  refine a_icmp_ge 65 dX5_readRow_20 rfl (fun hc => ?_) (fun hc => ?_)
  · replace hv := hv.1 hc
    refine a_iload_n 2 dX5_readRow_65 rfl rfl ?_
    refine a_if_ne 75 dX5_readRow_66 rfl (fun hc => ?_) (fun hc => ?_)
    · replace hv := hv.1 hc
      refine a_iload 4 dX5_readRow_75 rfl ?_
      refine a_if_le 93 dX5_readRow_77 rfl (fun hc => ?_) (fun hc => ?_)
      · replace hv := hv.1 hc
        refine a_iconst (v := 0) dX5_readRow_93 (by decide) ?_
        exact a_zret _ false (by decide) rfl dX5_readRow_94 hv
      · replace hv := hv.2 hc
        refine a_iload 4 dX5_readRow_80 rfl ?_
        refine a_aload_n 1 dX5_readRow_82 rfl rfl ?_
        refine a_getI G_X5_65 ho1.1 rfl dX5_readRow_83 ?_
        refine a_icmp_ne 93 dX5_readRow_86 rfl (fun hc => ?_) (fun hc => ?_)
        · replace hv := hv.1 hc
          refine a_iconst (v := 0) dX5_readRow_93 (by decide) ?_
          exact a_zret _ false (by decide) rfl dX5_readRow_94 hv
        · replace hv := hv.2 hc
          refine a_iconst (v := 1) dX5_readRow_89 (by decide) ?_
          refine a_goto 94 dX5_readRow_90 rfl ?_
          exact a_zret _ true (by decide) rfl dX5_readRow_94 hv
    · replace hv := hv.2 hc
      refine a_aload_n 1 dX5_readRow_69 rfl rfl ?_
      refine a_iload 4 dX5_readRow_70 rfl ?_
      refine a_putI H_X5_65 ho1.1 rfl rfl rfl dX5_readRow_72 ?_
      refine a_iload 4 dX5_readRow_75 rfl ?_
      refine a_if_le 93 dX5_readRow_77 rfl (fun hc => ?_) (fun hc => ?_)
      · replace hv := hv.1 hc
        refine a_iconst (v := 0) dX5_readRow_93 (by decide) ?_
        exact a_zret _ false (by decide) rfl dX5_readRow_94 hv
      · replace hv := hv.2 hc
        refine a_iload 4 dX5_readRow_80 rfl ?_
        refine a_aload_n 1 dX5_readRow_82 rfl rfl ?_
        refine a_getI G_X5_65 ho1.1 rfl dX5_readRow_83 ?_
        refine a_icmp_ne 93 dX5_readRow_86 rfl (fun hc => ?_) (fun hc => ?_)
        · replace hv := hv.1 hc
          refine a_iconst (v := 0) dX5_readRow_93 (by decide) ?_
          exact a_zret _ false (by decide) rfl dX5_readRow_94 hv
        · replace hv := hv.2 hc
          refine a_iconst (v := 1) dX5_readRow_89 (by decide) ?_
          refine a_goto 94 dX5_readRow_90 rfl ?_
          exact a_zret _ true (by decide) rfl dX5_readRow_94 hv
  · replace hv := hv.2 hc
    refine a_aload_n 0 dX5_readRow_23 rfl rfl ?_
    refine a_ldcS0 rfl dX5_readRow_24 ?_
    refine c_VI (As := [.ref (gR g 3)]) (rest := []) hv K_X5_70 sh_1 rfl rfl rfl (Nat.le_of_ble_eq_true rfl) (rok (by omega) (Nat.le_of_ble_eq_true rfl)) ⟨Nat.zero_le _, Nat.zero_le _⟩ dX5_readRow_26 (fun r26 I26 J26 hv => ?_)
    refine a_if_lt 65 dX5_readRow_29 rfl (fun hc => ?_) (fun hc => ?_)
    · replace hv := hv.1 hc
      refine a_iload_n 2 dX5_readRow_65 rfl rfl ?_
      refine a_if_ne 75 dX5_readRow_66 rfl (fun hc => ?_) (fun hc => ?_)
      · replace hv := hv.1 hc
        refine a_iload 4 dX5_readRow_75 rfl ?_
        refine a_if_le 93 dX5_readRow_77 rfl (fun hc => ?_) (fun hc => ?_)
        · replace hv := hv.1 hc
          refine a_iconst (v := 0) dX5_readRow_93 (by decide) ?_
          exact a_zret _ false (by decide) rfl dX5_readRow_94 hv
        · replace hv := hv.2 hc
          refine a_iload 4 dX5_readRow_80 rfl ?_
          refine a_aload_n 1 dX5_readRow_82 rfl rfl ?_
          refine a_getI G_X5_65 ho1.1 rfl dX5_readRow_83 ?_
          refine a_icmp_ne 93 dX5_readRow_86 rfl (fun hc => ?_) (fun hc => ?_)
          · replace hv := hv.1 hc
            refine a_iconst (v := 0) dX5_readRow_93 (by decide) ?_
            exact a_zret _ false (by decide) rfl dX5_readRow_94 hv
          · replace hv := hv.2 hc
            refine a_iconst (v := 1) dX5_readRow_89 (by decide) ?_
            refine a_goto 94 dX5_readRow_90 rfl ?_
            exact a_zret _ true (by decide) rfl dX5_readRow_94 hv
      · replace hv := hv.2 hc
        refine a_aload_n 1 dX5_readRow_69 rfl rfl ?_
        refine a_iload 4 dX5_readRow_70 rfl ?_
        refine a_putI H_X5_65 ho1.1 rfl rfl rfl dX5_readRow_72 ?_
        refine a_iload 4 dX5_readRow_75 rfl ?_
        refine a_if_le 93 dX5_readRow_77 rfl (fun hc => ?_) (fun hc => ?_)
        · replace hv := hv.1 hc
          refine a_iconst (v := 0) dX5_readRow_93 (by decide) ?_
          exact a_zret _ false (by decide) rfl dX5_readRow_94 hv
        · replace hv := hv.2 hc
          refine a_iload 4 dX5_readRow_80 rfl ?_
          refine a_aload_n 1 dX5_readRow_82 rfl rfl ?_
          refine a_getI G_X5_65 ho1.1 rfl dX5_readRow_83 ?_
          refine a_icmp_ne 93 dX5_readRow_86 rfl (fun hc => ?_) (fun hc => ?_)
          · replace hv := hv.1 hc
            refine a_iconst (v := 0) dX5_readRow_93 (by decide) ?_
            exact a_zret _ false (by decide) rfl dX5_readRow_94 hv
          · replace hv := hv.2 hc
            refine a_iconst (v := 1) dX5_readRow_89 (by decide) ?_
            refine a_goto 94 dX5_readRow_90 rfl ?_
            exact a_zret _ true (by decide) rfl dX5_readRow_94 hv
    · replace hv := hv.2 hc
      refine a_aload_n 1 dX5_readRow_32 rfl rfl ?_
      refine a_getR (r := (o1 + 1)) G_X5_74 ho1.1 rfl dX5_readRow_33 ?_
      refine a_iload_n 2 dX5_readRow_36 rfl rfl ?_
      refine a_iload 4 dX5_readRow_37 rfl ?_
      refine c_SI (As := [.int v2, .int v4]) (rest := [.ref (ga g (o1 + 1))]) hv K_X5_77 rfl rfl (Nat.le_of_ble_eq_true rfl) (rok (by omega) (Nat.le_of_ble_eq_true rfl)) ⟨Nat.zero_le _, Nat.zero_le _⟩ dX5_readRow_39 (fun r39 I39 J39 hv => ?_)
      refine a_aload_n 0 dX5_readRow_42 rfl rfl ?_
      refine a_ldcS0 rfl dX5_readRow_43 ?_
      refine c_VI (As := [.ref (gR g 3)]) (rest := [.int r39, .ref (ga g (o1 + 1))]) hv K_X5_70 sh_1 rfl rfl rfl (Nat.le_of_ble_eq_true rfl) (rok (by omega) (Nat.le_of_ble_eq_true rfl)) ⟨Nat.zero_le _, Nat.zero_le _⟩ dX5_readRow_45 (fun r45 I45 J45 hv => ?_)
      refine a_iast ho1.2 hv.1 dX5_readRow_48 ?_
      replace hv := hv.2
      refine a_iinc 4 (v4 + 1) [(4, .int (v4 + 1)), (0, .ref (ga g 1)), (1, .ref (ga g o1)), (2, .int v2), (3, .int v3)] dX5_readRow_49 rfl rfl (Nat.le_of_ble_eq_true rfl) rfl ?_
      refine a_aload_n 1 dX5_readRow_52 rfl rfl ?_
      refine a_dup dX5_readRow_53 rfl ?_
      refine a_getI G_X5_19 sh_1 rfl dX5_readRow_54 ?_
      refine a_iconst (v := 1) dX5_readRow_57 (by decide) ?_
      refine a_iadd dX5_readRow_58 ?_
      refine a_putI H_X5_19 sh_1 rfl rfl rfl dX5_readRow_59 ?_
      refine a_goto 17 dX5_readRow_62 rfl ?_
      exact a_sub [1, 2, 3, 4, 0] rfl hv
def VC_X5_readRow (g : GT) (d : Nat) (o1 : Nat) (v2 : Int32) (I : IT) (J : JT) (P : Bool → IT → JT → Prop) : Prop :=
  ((¬ v2 = 0 → (Lp_X5_readRow_17 g d o1 v2 (I o1 2) 0 I J P)) ∧ (v2 = 0 → (Lp_X5_readRow_17 g d o1 v2 8 0 I J P)))
set_option maxRecDepth 4000 in
theorem w_X5_readRow {g : GT} {d : Nat} {o1 : Nat} {v2 : Int32} {I : IT} {J : JT} {P : Bool → IT → JT → Prop} (ho1 : isSea o1) (hv : VC_X5_readRow g d o1 v2 I J P) : SemZ g d M_X5_readRow [.ref (ga g 1), .ref (ga g o1), .int v2] I J P := by
  unfold VC_X5_readRow at hv
  refine sem_intro (by decide +kernel) rfl (Nat.le_of_ble_eq_true rfl) ?_
  show AW _ 0 0 0 [(0, .ref (ga g 1)), (1, .ref (ga g o1)), (2, .int v2)] [] (cW g I J)
  refine a_iload_n 2 dX5_readRow_0 rfl rfl ?_
  refine a_if_ne 9 dX5_readRow_1 rfl (fun hc => ?_) (fun hc => ?_)
  · replace hv := hv.1 hc
    refine a_aload_n 1 dX5_readRow_9 rfl rfl ?_
    refine a_getI G_X5_65 ho1.1 rfl dX5_readRow_10 ?_
    refine a_istore_n [(3, .int (I o1 2)), (0, .ref (ga g 1)), (1, .ref (ga g o1)), (2, .int v2)] dX5_readRow_13 rfl (Nat.le_of_ble_eq_true rfl) rfl ?_
    refine a_iconst (v := 0) dX5_readRow_14 (by decide) ?_
    refine a_istore [(4, .int 0), (3, .int (I o1 2)), (0, .ref (ga g 1)), (1, .ref (ga g o1)), (2, .int v2)] dX5_readRow_15 (Nat.le_of_ble_eq_true rfl) rfl ?_
    exact a_sub [2, 3, 4, 1, 0] rfl hv
  · replace hv := hv.2 hc
    refine a_bipush (v := 8) dX5_readRow_4 (by decide) ?_
    refine a_goto 13 dX5_readRow_6 rfl ?_
    refine a_istore_n [(3, .int 8), (0, .ref (ga g 1)), (1, .ref (ga g o1)), (2, .int v2)] dX5_readRow_13 rfl (Nat.le_of_ble_eq_true rfl) rfl ?_
    refine a_iconst (v := 0) dX5_readRow_14 (by decide) ?_
    refine a_istore [(4, .int 0), (3, .int 8), (0, .ref (ga g 1)), (1, .ref (ga g o1)), (2, .int v2)] dX5_readRow_15 (Nat.le_of_ble_eq_true rfl) rfl ?_
    exact a_sub [2, 3, 4, 1, 0] rfl hv
def Lp_X5_readShips_2 (g : GT) (d : Nat) (o1 : Nat) (v2 : Int32) (I : IT) (J : JT) (P : Bool → IT → JT → Prop) : Prop := AW (kM g d M_X5_readShips 0 0 (qZ g P)) 0 0 2 [(0, .ref (ga g 1)), (1, .ref (ga g o1)), (2, .int v2)] [] (cW g I J)
def VC_X5_readShips_2 (g : GT) (d : Nat) (o1 : Nat) (v2 : Int32) (I : IT) (J : JT) (P : Bool → IT → JT → Prop) : Prop :=
  ((6 ≤ v2 → P false I J) ∧ (¬ 6 ≤ v2 → (SemZ g (d - 1) M_X5_readShip [.ref (ga g 1), .ref (ga g o1), .int v2] I J (fun r11 I11 J11 => ((r11 = true → (SemZ g (d - 1) M_X5_takes [.ref (ga g 1), .int 59] (sI I11 o1 6 (v2 + 1)) J11 (fun r29 I29 J29 => ((r29 = false → ((6 ≤ (v2 + 1) → P false I29 J29) ∧ (¬ 6 ≤ (v2 + 1) → (SemZ g (d - 1) M_X5_takes [.ref (ga g 1), .int 44] I29 J29 (fun r48 I48 J48 => ((r48 = true → (Lp_X5_readShips_2 g d o1 (v2 + 1) I48 J48 P)) ∧ (r48 = false → P false I48 J48))))))) ∧ (r29 = true → P true I29 J29))))) ∧ (r11 = false → P false I11 J11))))))
set_option maxRecDepth 4000 in
theorem w_X5_readShips_2 {g : GT} {d : Nat} {o1 : Nat} {v2 : Int32} {I : IT} {J : JT} {P : Bool → IT → JT → Prop} (ho1 : isF o1) (hd : 1 ≤ d) (hv : VC_X5_readShips_2 g d o1 v2 I J P) : Lp_X5_readShips_2 g d o1 v2 I J P := by
  unfold VC_X5_readShips_2 at hv
  unfold Lp_X5_readShips_2
  refine a_iload_n 2 dX5_readShips_2 rfl rfl ?_
  refine a_bipush (v := 6) dX5_readShips_3 (by decide) ?_
  refine a_icmp_ge 62 dX5_readShips_5 rfl (fun hc => ?_) (fun hc => ?_)
  · replace hv := hv.1 hc
    refine a_iconst (v := 0) dX5_readShips_62 (by decide) ?_
    exact a_zret _ false (by decide) rfl dX5_readShips_63 hv
  · replace hv := hv.2 hc
    refine a_aload_n 0 dX5_readShips_8 rfl rfl ?_
    refine a_aload_n 1 dX5_readShips_9 rfl rfl ?_
    refine a_iload_n 2 dX5_readShips_10 rfl rfl ?_
    refine c_VZ (As := [.ref (ga g o1), .int v2]) (rest := []) hv K_X5_81 sh_1 rfl rfl rfl (Nat.le_of_ble_eq_true rfl) (rok (by omega) (Nat.le_of_ble_eq_true rfl)) ⟨Nat.zero_le _, Nat.zero_le _⟩ dX5_readShips_11 (fun r11 I11 J11 hv => ?_)
    refine a_ifz_ne 19 dX5_readShips_14 rfl (fun hc => ?_) (fun hc => ?_)
    · replace hv := hv.1 hc
      refine a_aload_n 1 dX5_readShips_19 rfl rfl ?_
      refine a_iload_n 2 dX5_readShips_20 rfl rfl ?_
      refine a_iconst (v := 1) dX5_readShips_21 (by decide) ?_
      refine a_iadd dX5_readShips_22 ?_
      refine a_putI H_X5_85 ho1.1 rfl rfl rfl dX5_readShips_23 ?_
      refine a_aload_n 0 dX5_readShips_26 rfl rfl ?_
      refine a_bipush (v := 59) dX5_readShips_27 (by decide) ?_
      refine c_VZ (As := [.int 59]) (rest := []) hv K_X5_27 sh_1 rfl rfl rfl (Nat.le_of_ble_eq_true rfl) (rok (by omega) (Nat.le_of_ble_eq_true rfl)) ⟨Nat.zero_le _, Nat.zero_le _⟩ dX5_readShips_29 (fun r29 I29 J29 hv => ?_)
      refine a_ifz_eq 37 dX5_readShips_32 rfl (fun hc => ?_) (fun hc => ?_)
      · replace hv := hv.1 hc
        refine a_iload_n 2 dX5_readShips_37 rfl rfl ?_
        refine a_iconst (v := 1) dX5_readShips_38 (by decide) ?_
        refine a_iadd dX5_readShips_39 ?_
        refine a_bipush (v := 6) dX5_readShips_40 (by decide) ?_
        refine a_icmp_ge 54 dX5_readShips_42 rfl (fun hc => ?_) (fun hc => ?_)
        · replace hv := hv.1 hc
          refine a_iconst (v := 0) dX5_readShips_54 (by decide) ?_
          exact a_zret _ false (by decide) rfl dX5_readShips_55 hv
        · replace hv := hv.2 hc
          refine a_aload_n 0 dX5_readShips_45 rfl rfl ?_
          refine a_bipush (v := 44) dX5_readShips_46 (by decide) ?_
          refine c_VZ (As := [.int 44]) (rest := []) hv K_X5_27 sh_1 rfl rfl rfl (Nat.le_of_ble_eq_true rfl) (rok (by omega) (Nat.le_of_ble_eq_true rfl)) ⟨Nat.zero_le _, Nat.zero_le _⟩ dX5_readShips_48 (fun r48 I48 J48 hv => ?_)
          refine a_ifz_ne 56 dX5_readShips_51 rfl (fun hc => ?_) (fun hc => ?_)
          · replace hv := hv.1 hc
            refine a_iinc 2 (v2 + 1) [(2, .int (v2 + 1)), (0, .ref (ga g 1)), (1, .ref (ga g o1))] dX5_readShips_56 rfl rfl (Nat.le_of_ble_eq_true rfl) rfl ?_
            refine a_goto 2 dX5_readShips_59 rfl ?_
            exact a_sub [1, 2, 0] rfl hv
          · replace hv := hv.2 hc
            refine a_iconst (v := 0) dX5_readShips_54 (by decide) ?_
            exact a_zret _ false (by decide) rfl dX5_readShips_55 hv
      · replace hv := hv.2 hc
        refine a_iconst (v := 1) dX5_readShips_35 (by decide) ?_
        exact a_zret _ true (by decide) rfl dX5_readShips_36 hv
    · replace hv := hv.2 hc
      refine a_iconst (v := 0) dX5_readShips_17 (by decide) ?_
      exact a_zret _ false (by decide) rfl dX5_readShips_18 hv
def VC_X5_readShips (g : GT) (d : Nat) (o1 : Nat) (I : IT) (J : JT) (P : Bool → IT → JT → Prop) : Prop :=
  (Lp_X5_readShips_2 g d o1 0 I J P)
set_option maxRecDepth 4000 in
theorem w_X5_readShips {g : GT} {d : Nat} {o1 : Nat} {I : IT} {J : JT} {P : Bool → IT → JT → Prop} (ho1 : isF o1) (hv : VC_X5_readShips g d o1 I J P) : SemZ g d M_X5_readShips [.ref (ga g 1), .ref (ga g o1)] I J P := by
  unfold VC_X5_readShips at hv
  refine sem_intro (by decide +kernel) rfl (Nat.le_of_ble_eq_true rfl) ?_
  show AW _ 0 0 0 [(0, .ref (ga g 1)), (1, .ref (ga g o1))] [] (cW g I J)
  refine a_iconst (v := 0) dX5_readShips_0 (by decide) ?_
  refine a_istore_n [(2, .int 0), (0, .ref (ga g 1)), (1, .ref (ga g o1))] dX5_readShips_1 rfl (Nat.le_of_ble_eq_true rfl) rfl ?_
  exact a_sub [1, 2, 0] rfl hv
def VC_X5_readShip (g : GT) (d : Nat) (o1 : Nat) (v2 : Int32) (I : IT) (J : JT) (P : Bool → IT → JT → Prop) : Prop :=
  (SemI g (d - 1) M_X5_oneOf [.ref (ga g 1), .ref (gR g 4)] I J (fun r3 I3 J3 => ((0 ≤ r3 → (vp_in v2 6 ∧ (SemZ g (d - 1) M_X5_readCell [.ref (ga g 1), .ref (ga g o1), .int v2] (sI (sI I3 1 2 ((I3 1 2) + 1)) (o1 + 3) v2.toNatClampNeg (1 + r3)) J3 (fun r35 I35 J35 => ((r35 = true → (SemI g (d - 1) M_X5_oneOf [.ref (ga g 1), .ref (gR g 5)] I35 J35 (fun r46 I46 J46 => ((0 ≤ r46 → (vp_in v2 6 ∧ (SemI g (d - 1) M_X5_figureBelow [.ref (ga g 1), .int 6] (sI (sI I46 1 2 ((I46 1 2) + 1)) (o1 + 5) v2.toNatClampNeg r46) J46 (fun r79 I79 J79 => ((0 ≤ r79 → (vp_in v2 6 ∧ P true (sI (sI I79 1 2 ((I79 1 2) + 1)) (o1 + 6) v2.toNatClampNeg r79) J79)) ∧ (¬ 0 ≤ r79 → P false I79 J79)))))) ∧ (¬ 0 ≤ r46 → P false I46 J46))))) ∧ (r35 = false → P false I35 J35)))))) ∧ (¬ 0 ≤ r3 → P false I3 J3))))
set_option maxRecDepth 4000 in
theorem w_X5_readShip {g : GT} {d : Nat} {o1 : Nat} {v2 : Int32} {I : IT} {J : JT} {P : Bool → IT → JT → Prop} (ho1 : isF o1) (hd : 1 ≤ d) (hv : VC_X5_readShip g d o1 v2 I J P) : SemZ g d M_X5_readShip [.ref (ga g 1), .ref (ga g o1), .int v2] I J P := by
  unfold VC_X5_readShip at hv
  refine sem_intro (by decide +kernel) rfl (Nat.le_of_ble_eq_true rfl) ?_
  show AW _ 0 0 0 [(0, .ref (ga g 1)), (1, .ref (ga g o1)), (2, .int v2)] [] (cW g I J)
  refine a_aload_n 0 dX5_readShip_0 rfl rfl ?_
  refine a_ldcS1 rfl dX5_readShip_1 ?_
  refine c_VI (As := [.ref (gR g 4)]) (rest := []) hv K_X5_70 sh_1 rfl rfl rfl (Nat.le_of_ble_eq_true rfl) (rok (by omega) (Nat.le_of_ble_eq_true rfl)) ⟨Nat.zero_le _, Nat.zero_le _⟩ dX5_readShip_3 (fun r3 I3 J3 hv => ?_)
  refine a_istore_n [(3, .int r3), (0, .ref (ga g 1)), (1, .ref (ga g o1)), (2, .int v2)] dX5_readShip_6 rfl (Nat.le_of_ble_eq_true rfl) rfl ?_
  refine a_iload_n 0 dX5_readShip_7 rfl rfl ?_
  refine a_if_ge 13 dX5_readShip_8 rfl (fun hc => ?_) (fun hc => ?_)
  · replace hv := hv.1 hc
    refine a_aload_n 1 dX5_readShip_13 rfl rfl ?_
    refine a_dup dX5_readShip_14 rfl ?_
    refine a_getI G_X5_19 sh_1 rfl dX5_readShip_15 ?_
    refine a_iconst (v := 1) dX5_readShip_18 (by decide) ?_
    refine a_iadd dX5_readShip_19 ?_
    refine a_putI H_X5_19 sh_1 rfl rfl rfl dX5_readShip_20 ?_
    refine a_aload_n 2 dX5_readShip_23 rfl rfl ?_
    refine a_getR (r := (o1 + 3)) G_X5_90 ho1.1 rfl dX5_readShip_24 ?_
    refine a_iload_n 3 dX5_readShip_27 rfl rfl ?_
    refine a_iconst (v := 1) dX5_readShip_28 (by decide) ?_
    refine a_iload_n 0 dX5_readShip_29 rfl rfl ?_
    refine a_iadd dX5_readShip_30 ?_
    refine a_iast ho1.2.2.2.1 hv.1 dX5_readShip_31 ?_
    replace hv := hv.2
    refine a_aload_n 1 dX5_readShip_32 rfl rfl ?_
    refine a_aload_n 2 dX5_readShip_33 rfl rfl ?_
    refine a_iload_n 3 dX5_readShip_34 rfl rfl ?_
    refine c_VZ (As := [.ref (ga g o1), .int v2]) (rest := []) hv K_X5_93 sh_1 rfl rfl rfl (Nat.le_of_ble_eq_true rfl) (rok (by omega) (Nat.le_of_ble_eq_true rfl)) ⟨Nat.zero_le _, Nat.zero_le _⟩ dX5_readShip_35 (fun r35 I35 J35 hv => ?_)
    refine a_ifz_ne 43 dX5_readShip_38 rfl (fun hc => ?_) (fun hc => ?_)
    · replace hv := hv.1 hc
      refine a_aload_n 1 dX5_readShip_43 rfl rfl ?_
      refine a_ldcS2 rfl dX5_readShip_44 ?_
      refine c_VI (As := [.ref (gR g 5)]) (rest := []) hv K_X5_70 sh_1 rfl rfl rfl (Nat.le_of_ble_eq_true rfl) (rok (by omega) (Nat.le_of_ble_eq_true rfl)) ⟨Nat.zero_le _, Nat.zero_le _⟩ dX5_readShip_46 (fun r46 I46 J46 hv => ?_)
      refine a_istore [(4, .int r46), (3, .int r3), (0, .ref (ga g 1)), (1, .ref (ga g o1)), (2, .int v2)] dX5_readShip_49 (Nat.le_of_ble_eq_true rfl) rfl ?_
      refine a_iload 0 dX5_readShip_51 rfl ?_
      refine a_if_ge 58 dX5_readShip_53 rfl (fun hc => ?_) (fun hc => ?_)
      · replace hv := hv.1 hc
        refine a_aload_n 2 dX5_readShip_58 rfl rfl ?_
        refine a_dup dX5_readShip_59 rfl ?_
        refine a_getI G_X5_19 sh_1 rfl dX5_readShip_60 ?_
        refine a_iconst (v := 1) dX5_readShip_63 (by decide) ?_
        refine a_iadd dX5_readShip_64 ?_
        refine a_putI H_X5_19 sh_1 rfl rfl rfl dX5_readShip_65 ?_
        refine a_aload_n 3 dX5_readShip_68 rfl rfl ?_
        refine a_getR (r := (o1 + 5)) G_X5_98 ho1.1 rfl dX5_readShip_69 ?_
        refine a_iload_n 4 dX5_readShip_72 rfl rfl ?_
        refine a_iload 0 dX5_readShip_73 rfl ?_
        refine a_iast ho1.2.2.2.2.2.1 hv.1 dX5_readShip_75 ?_
        replace hv := hv.2
        refine a_aload_n 2 dX5_readShip_76 rfl rfl ?_
        refine a_bipush (v := 6) dX5_readShip_77 (by decide) ?_
        refine c_VI (As := [.int 6]) (rest := []) hv K_X5_101 sh_1 rfl rfl rfl (Nat.le_of_ble_eq_true rfl) (rok (by omega) (Nat.le_of_ble_eq_true rfl)) ⟨Nat.zero_le _, Nat.zero_le _⟩ dX5_readShip_79 (fun r79 I79 J79 hv => ?_)
        refine a_istore [(5, .int r79), (4, .int r46), (3, .int r3), (0, .ref (ga g 1)), (1, .ref (ga g o1)), (2, .int v2)] dX5_readShip_82 (Nat.le_of_ble_eq_true rfl) rfl ?_
        refine a_iload 0 dX5_readShip_84 rfl ?_
        refine a_if_ge 91 dX5_readShip_86 rfl (fun hc => ?_) (fun hc => ?_)
        · replace hv := hv.1 hc
          refine a_aload_n 3 dX5_readShip_91 rfl rfl ?_
          refine a_dup dX5_readShip_92 rfl ?_
          refine a_getI G_X5_19 sh_1 rfl dX5_readShip_93 ?_
          refine a_iconst (v := 1) dX5_readShip_96 (by decide) ?_
          refine a_iadd dX5_readShip_97 ?_
          refine a_putI H_X5_19 sh_1 rfl rfl rfl dX5_readShip_98 ?_
          refine a_aload_n 4 dX5_readShip_101 rfl rfl ?_
          refine a_getR (r := (o1 + 6)) G_X5_104 ho1.1 rfl dX5_readShip_102 ?_
          refine a_iload_n 5 dX5_readShip_105 rfl rfl ?_
          refine a_iload 0 dX5_readShip_106 rfl ?_
          refine a_iast ho1.2.2.2.2.2.2.1 hv.1 dX5_readShip_108 ?_
          replace hv := hv.2
          refine a_iconst (v := 1) dX5_readShip_109 (by decide) ?_
          exact a_zret _ true (by decide) rfl dX5_readShip_110 hv
        · replace hv := hv.2 hc
          refine a_iconst (v := 0) dX5_readShip_89 (by decide) ?_
          exact a_zret _ false (by decide) rfl dX5_readShip_90 hv
      · replace hv := hv.2 hc
        refine a_iconst (v := 0) dX5_readShip_56 (by decide) ?_
        exact a_zret _ false (by decide) rfl dX5_readShip_57 hv
    · replace hv := hv.2 hc
      refine a_iconst (v := 0) dX5_readShip_41 (by decide) ?_
      exact a_zret _ false (by decide) rfl dX5_readShip_42 hv
  · replace hv := hv.2 hc
    refine a_iconst (v := 0) dX5_readShip_11 (by decide) ?_
    exact a_zret _ false (by decide) rfl dX5_readShip_12 hv
def VC_X5_readCell (g : GT) (d : Nat) (o1 : Nat) (v2 : Int32) (I : IT) (J : JT) (P : Bool → IT → JT → Prop) : Prop :=
  (SemI g (d - 1) M_X5_figureBelow [.ref (ga g 1), .int (I (o1 + 1) 1)] I J (fun r8 I8 J8 => ((0 ≤ r8 → (SemI g (d - 1) M_X5_figureBelow [.ref (ga g 1), .int ((sI I8 1 2 ((I8 1 2) + 1)) (o1 + 1) 2)] (sI I8 1 2 ((I8 1 2) + 1)) J8 (fun r36 I36 J36 => ((r36 < 0 → P false I36 J36) ∧ (¬ r36 < 0 → (SemI g (d - 1) M_X3_cellOf [.int r8, .int r36] I36 J36 (fun r53 I53 J53 => (SemI g (d - 1) M_X3_at [.ref (ga g (o1 + 1)), .int r53] I53 J53 (fun r56 I56 J56 => ((¬ r56 = 1 → (SemI g (d - 1) M_X3_cellOf [.int r8, .int r36] (sI I56 1 2 ((I56 1 2) + 1)) J56 (fun r83 I83 J83 => (vp_in v2 6 ∧ P true (sI I83 (o1 + 4) v2.toNatClampNeg r83) J83)))) ∧ (r56 = 1 → P false I56 J56))))))))))) ∧ (¬ 0 ≤ r8 → P false I8 J8))))
set_option maxRecDepth 4000 in
theorem w_X5_readCell {g : GT} {d : Nat} {o1 : Nat} {v2 : Int32} {I : IT} {J : JT} {P : Bool → IT → JT → Prop} (ho1 : isF o1) (hd : 1 ≤ d) (hv : VC_X5_readCell g d o1 v2 I J P) : SemZ g d M_X5_readCell [.ref (ga g 1), .ref (ga g o1), .int v2] I J P := by
  unfold VC_X5_readCell at hv
  refine sem_intro (by decide +kernel) rfl (Nat.le_of_ble_eq_true rfl) ?_
  show AW _ 0 0 0 [(0, .ref (ga g 1)), (1, .ref (ga g o1)), (2, .int v2)] [] (cW g I J)
  refine a_aload_n 0 dX5_readCell_0 rfl rfl ?_
  refine a_aload_n 1 dX5_readCell_1 rfl rfl ?_
  refine a_getR (r := (o1 + 1)) G_X5_31 ho1.1 rfl dX5_readCell_2 ?_
  refine a_getI G_X5_60 (isF_sea ho1).1 rfl dX5_readCell_5 ?_
  refine c_VI (As := [.int (I (o1 + 1) 1)]) (rest := []) hv K_X5_101 sh_1 rfl rfl rfl (Nat.le_of_ble_eq_true rfl) (rok (by omega) (Nat.le_of_ble_eq_true rfl)) ⟨Nat.zero_le _, Nat.zero_le _⟩ dX5_readCell_8 (fun r8 I8 J8 hv => ?_)
  refine a_istore_n [(3, .int r8), (0, .ref (ga g 1)), (1, .ref (ga g o1)), (2, .int v2)] dX5_readCell_11 rfl (Nat.le_of_ble_eq_true rfl) rfl ?_
  refine a_iload_n 0 dX5_readCell_12 rfl rfl ?_
  refine a_if_ge 18 dX5_readCell_13 rfl (fun hc => ?_) (fun hc => ?_)
  · replace hv := hv.1 hc
    refine a_aload_n 1 dX5_readCell_18 rfl rfl ?_
    refine a_dup dX5_readCell_19 rfl ?_
    refine a_getI G_X5_19 sh_1 rfl dX5_readCell_20 ?_
    refine a_iconst (v := 1) dX5_readCell_23 (by decide) ?_
    refine a_iadd dX5_readCell_24 ?_
    refine a_putI H_X5_19 sh_1 rfl rfl rfl dX5_readCell_25 ?_
    refine a_aload_n 1 dX5_readCell_28 rfl rfl ?_
    refine a_aload_n 2 dX5_readCell_29 rfl rfl ?_
    refine a_getR (r := (o1 + 1)) G_X5_31 ho1.1 rfl dX5_readCell_30 ?_
    refine a_getI G_X5_65 (isF_sea ho1).1 rfl dX5_readCell_33 ?_
    refine c_VI (As := [.int ((sI I8 1 2 ((I8 1 2) + 1)) (o1 + 1) 2)]) (rest := []) hv K_X5_101 sh_1 rfl rfl rfl (Nat.le_of_ble_eq_true rfl) (rok (by omega) (Nat.le_of_ble_eq_true rfl)) ⟨Nat.zero_le _, Nat.zero_le _⟩ dX5_readCell_36 (fun r36 I36 J36 hv => ?_)
    refine a_istore [(4, .int r36), (3, .int r8), (0, .ref (ga g 1)), (1, .ref (ga g o1)), (2, .int v2)] dX5_readCell_39 (Nat.le_of_ble_eq_true rfl) rfl ?_
    refine a_iload 0 dX5_readCell_41 rfl ?_
    refine a_if_lt 63 dX5_readCell_43 rfl (fun hc => ?_) (fun hc => ?_)
    · replace hv := hv.1 hc
      refine a_iconst (v := 0) dX5_readCell_63 (by decide) ?_
      exact a_zret _ false (by decide) rfl dX5_readCell_64 hv
    · replace hv := hv.2 hc
      refine a_aload_n 3 dX5_readCell_46 rfl rfl ?_
      refine a_getR (r := (o1 + 1)) G_X5_31 ho1.1 rfl dX5_readCell_47 ?_
      refine a_iload_n 1 dX5_readCell_50 rfl rfl ?_
      refine a_iload 0 dX5_readCell_51 rfl ?_
      refine c_SI (As := [.int r8, .int r36]) (rest := [.ref (ga g (o1 + 1))]) hv K_X5_77 rfl rfl (Nat.le_of_ble_eq_true rfl) (rok (by omega) (Nat.le_of_ble_eq_true rfl)) ⟨Nat.zero_le _, Nat.zero_le _⟩ dX5_readCell_53 (fun r53 I53 J53 hv => ?_)
      refine c_VI (As := [.int r53]) (rest := []) hv K_X5_107 (isF_sea ho1).1 rfl rfl rfl (Nat.le_of_ble_eq_true rfl) (rok (by omega) (Nat.le_of_ble_eq_true rfl)) ⟨Nat.zero_le _, Nat.zero_le _⟩ dX5_readCell_56 (fun r56 I56 J56 hv => ?_)
      refine a_iconst (v := 1) dX5_readCell_59 (by decide) ?_
      refine a_icmp_ne 65 dX5_readCell_60 rfl (fun hc => ?_) (fun hc => ?_)
      · replace hv := hv.1 hc
        refine a_aload_n 2 dX5_readCell_65 rfl rfl ?_
        refine a_dup dX5_readCell_66 rfl ?_
        refine a_getI G_X5_19 sh_1 rfl dX5_readCell_67 ?_
        refine a_iconst (v := 1) dX5_readCell_70 (by decide) ?_
        refine a_iadd dX5_readCell_71 ?_
        refine a_putI H_X5_19 sh_1 rfl rfl rfl dX5_readCell_72 ?_
        refine a_aload_n 3 dX5_readCell_75 rfl rfl ?_
        refine a_getR (r := (o1 + 4)) G_X5_110 ho1.1 rfl dX5_readCell_76 ?_
        refine a_iload_n 4 dX5_readCell_79 rfl rfl ?_
        refine a_iload_n 1 dX5_readCell_80 rfl rfl ?_
        refine a_iload 0 dX5_readCell_81 rfl ?_
        refine c_SI (As := [.int r8, .int r36]) (rest := [.int v2, .ref (ga g (o1 + 4))]) hv K_X5_77 rfl rfl (Nat.le_of_ble_eq_true rfl) (rok (by omega) (Nat.le_of_ble_eq_true rfl)) ⟨Nat.zero_le _, Nat.zero_le _⟩ dX5_readCell_83 (fun r83 I83 J83 hv => ?_)
        refine a_iast ho1.2.2.2.2.1 hv.1 dX5_readCell_86 ?_
        replace hv := hv.2
        refine a_iconst (v := 1) dX5_readCell_87 (by decide) ?_
        exact a_zret _ true (by decide) rfl dX5_readCell_88 hv
      · replace hv := hv.2 hc
        refine a_iconst (v := 0) dX5_readCell_63 (by decide) ?_
        exact a_zret _ false (by decide) rfl dX5_readCell_64 hv
  · replace hv := hv.2 hc
    refine a_iconst (v := 0) dX5_readCell_16 (by decide) ?_
    exact a_zret _ false (by decide) rfl dX5_readCell_17 hv
def Lp_X5_readCredit_2 (g : GT) (d : Nat) (o1 : Nat) (v2 : Int32) (I : IT) (J : JT) (P : Bool → IT → JT → Prop) : Prop := AW (kM g d M_X5_readCredit 0 0 (qZ g P)) 0 0 2 [(0, .ref (ga g 1)), (1, .ref (ga g o1)), (2, .int v2)] [] (cW g I J)
def VC_X5_readCredit_2 (g : GT) (d : Nat) (o1 : Nat) (v2 : Int32) (I : IT) (J : JT) (P : Bool → IT → JT → Prop) : Prop :=
  ((4 ≤ v2 → P true I J) ∧ (¬ 4 ≤ v2 → (SemI g (d - 1) M_X5_figureBelow [.ref (ga g 1), .int 10] I J (fun r10 I10 J10 => ((0 ≤ r10 → (vp_in v2 4 ∧ (Lp_X5_readCredit_2 g d o1 (v2 + 1) (sI (sI I10 1 2 ((I10 1 2) + 1)) (o1 + 7) v2.toNatClampNeg r10) J10 P))) ∧ (¬ 0 ≤ r10 → P false I10 J10))))))
set_option maxRecDepth 4000 in
theorem w_X5_readCredit_2 {g : GT} {d : Nat} {o1 : Nat} {v2 : Int32} {I : IT} {J : JT} {P : Bool → IT → JT → Prop} (ho1 : isF o1) (hd : 1 ≤ d) (hv : VC_X5_readCredit_2 g d o1 v2 I J P) : Lp_X5_readCredit_2 g d o1 v2 I J P := by
  unfold VC_X5_readCredit_2 at hv
  unfold Lp_X5_readCredit_2
  refine a_iload_n 2 dX5_readCredit_2 rfl rfl ?_
  refine a_iconst (v := 4) dX5_readCredit_3 (by decide) ?_
  refine a_icmp_ge 43 dX5_readCredit_4 rfl (fun hc => ?_) (fun hc => ?_)
  · replace hv := hv.1 hc
    refine a_iconst (v := 1) dX5_readCredit_43 (by decide) ?_
    exact a_zret _ true (by decide) rfl dX5_readCredit_44 hv
  · replace hv := hv.2 hc
    refine a_aload_n 0 dX5_readCredit_7 rfl rfl ?_
    refine a_bipush (v := 10) dX5_readCredit_8 (by decide) ?_
    refine c_VI (As := [.int 10]) (rest := []) hv K_X5_101 sh_1 rfl rfl rfl (Nat.le_of_ble_eq_true rfl) (rok (by omega) (Nat.le_of_ble_eq_true rfl)) ⟨Nat.zero_le _, Nat.zero_le _⟩ dX5_readCredit_10 (fun r10 I10 J10 hv => ?_)
    refine a_istore_n [(3, .int r10), (0, .ref (ga g 1)), (1, .ref (ga g o1)), (2, .int v2)] dX5_readCredit_13 rfl (Nat.le_of_ble_eq_true rfl) rfl ?_
    refine a_iload_n 0 dX5_readCredit_14 rfl rfl ?_
    refine a_if_ge 20 dX5_readCredit_15 rfl (fun hc => ?_) (fun hc => ?_)
    · replace hv := hv.1 hc
      refine a_aload_n 1 dX5_readCredit_20 rfl rfl ?_
      refine a_dup dX5_readCredit_21 rfl ?_
      refine a_getI G_X5_19 sh_1 rfl dX5_readCredit_22 ?_
      refine a_iconst (v := 1) dX5_readCredit_25 (by decide) ?_
      refine a_iadd dX5_readCredit_26 ?_
      refine a_putI H_X5_19 sh_1 rfl rfl rfl dX5_readCredit_27 ?_
      refine a_aload_n 2 dX5_readCredit_30 rfl rfl ?_
      refine a_getR (r := (o1 + 7)) G_X5_113 ho1.1 rfl dX5_readCredit_31 ?_
      refine a_iload_n 3 dX5_readCredit_34 rfl rfl ?_
      refine a_iload_n 0 dX5_readCredit_35 rfl rfl ?_
      refine a_iast ho1.2.2.2.2.2.2.2 hv.1 dX5_readCredit_36 ?_
      replace hv := hv.2
      refine a_iinc 3 (v2 + 1) [(2, .int (v2 + 1)), (3, .int r10), (0, .ref (ga g 1)), (1, .ref (ga g o1))] dX5_readCredit_37 rfl rfl (Nat.le_of_ble_eq_true rfl) rfl ?_
      refine a_goto 2 dX5_readCredit_40 rfl ?_
      exact a_sub [2, 3, 0] rfl hv
    · replace hv := hv.2 hc
      refine a_iconst (v := 0) dX5_readCredit_18 (by decide) ?_
      exact a_zret _ false (by decide) rfl dX5_readCredit_19 hv
def VC_X5_readCredit (g : GT) (d : Nat) (o1 : Nat) (I : IT) (J : JT) (P : Bool → IT → JT → Prop) : Prop :=
  (Lp_X5_readCredit_2 g d o1 0 I J P)
set_option maxRecDepth 4000 in
theorem w_X5_readCredit {g : GT} {d : Nat} {o1 : Nat} {I : IT} {J : JT} {P : Bool → IT → JT → Prop} (ho1 : isF o1) (hv : VC_X5_readCredit g d o1 I J P) : SemZ g d M_X5_readCredit [.ref (ga g 1), .ref (ga g o1)] I J P := by
  unfold VC_X5_readCredit at hv
  refine sem_intro (by decide +kernel) rfl (Nat.le_of_ble_eq_true rfl) ?_
  show AW _ 0 0 0 [(0, .ref (ga g 1)), (1, .ref (ga g o1))] [] (cW g I J)
  refine a_iconst (v := 0) dX5_readCredit_0 (by decide) ?_
  refine a_istore_n [(2, .int 0), (0, .ref (ga g 1)), (1, .ref (ga g o1))] dX5_readCredit_1 rfl (Nat.le_of_ble_eq_true rfl) rfl ?_
  exact a_sub [1, 2, 0] rfl hv
