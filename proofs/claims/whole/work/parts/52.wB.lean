def VC_X0_forget (g : GT) (d : Nat)  (I : IT) (J : JT) (P : IT → JT → Prop) : Prop :=
  P (sI I 20 3 0) J
set_option maxRecDepth 4000 in
theorem w_X0_forget {g : GT} {d : Nat}  {I : IT} {J : JT} {P : IT → JT → Prop} (hv : VC_X0_forget g d  I J P) : SemV g d M_X0_forget [.ref (ga g 20)] I J P := by
  unfold VC_X0_forget at hv
  refine sem_intro (by decide +kernel) rfl (Nat.le_of_ble_eq_true rfl) ?_
  show AW _ 0 0 0 [(0, .ref (ga g 20))] [] (cW g I J)
  refine a_aload_n 0 dX0_forget_0 rfl rfl ?_
  refine a_iconst (v := 0) dX0_forget_1 (by decide) ?_
  refine a_putI H_X0_24 sh_20 rfl rfl rfl dX0_forget_2 ?_
  exact a_vret rfl dX0_forget_5 hv
def VC_X0_keep (g : GT) (d : Nat) (o1 : Nat) (v2 : Int32) (I : IT) (J : JT) (P : IT → JT → Prop) : Prop :=
  (vp_in (I 20 4) 24 ∧ (SemV g (d - 1) M_X6_board [.ref (ga g (24 + 2 * (I 20 4).toNatClampNeg)), .ref (ga g o1), .int v2] I J (fun I11 J11 => (vp_in (I11 20 4) 24 ∧ (vp_in ((sI I11 22 (I11 20 4).toNatClampNeg v2) 20 4) 24 ∧ P (sI (sI (sI (sI I11 22 (I11 20 4).toNatClampNeg v2) 23 ((sI I11 22 (I11 20 4).toNatClampNeg v2) 20 4).toNatClampNeg ((sI I11 22 (I11 20 4).toNatClampNeg v2) o1 7)) 20 4 ((((sI (sI I11 22 (I11 20 4).toNatClampNeg v2) 23 ((sI I11 22 (I11 20 4).toNatClampNeg v2) 20 4).toNatClampNeg ((sI I11 22 (I11 20 4).toNatClampNeg v2) o1 7)) 20 4) + 1) - (((sI (sI I11 22 (I11 20 4).toNatClampNeg v2) 23 ((sI I11 22 (I11 20 4).toNatClampNeg v2) 20 4).toNatClampNeg ((sI I11 22 (I11 20 4).toNatClampNeg v2) o1 7)) 20 4) + 1) / 24 * 24)) 20 3 (if (((sI (sI (sI I11 22 (I11 20 4).toNatClampNeg v2) 23 ((sI I11 22 (I11 20 4).toNatClampNeg v2) 20 4).toNatClampNeg ((sI I11 22 (I11 20 4).toNatClampNeg v2) o1 7)) 20 4 ((((sI (sI I11 22 (I11 20 4).toNatClampNeg v2) 23 ((sI I11 22 (I11 20 4).toNatClampNeg v2) 20 4).toNatClampNeg ((sI I11 22 (I11 20 4).toNatClampNeg v2) o1 7)) 20 4) + 1) - (((sI (sI I11 22 (I11 20 4).toNatClampNeg v2) 23 ((sI I11 22 (I11 20 4).toNatClampNeg v2) 20 4).toNatClampNeg ((sI I11 22 (I11 20 4).toNatClampNeg v2) o1 7)) 20 4) + 1) / 24 * 24)) 20 3) + 1) < 24 then (((sI (sI (sI I11 22 (I11 20 4).toNatClampNeg v2) 23 ((sI I11 22 (I11 20 4).toNatClampNeg v2) 20 4).toNatClampNeg ((sI I11 22 (I11 20 4).toNatClampNeg v2) o1 7)) 20 4 ((((sI (sI I11 22 (I11 20 4).toNatClampNeg v2) 23 ((sI I11 22 (I11 20 4).toNatClampNeg v2) 20 4).toNatClampNeg ((sI I11 22 (I11 20 4).toNatClampNeg v2) o1 7)) 20 4) + 1) - (((sI (sI I11 22 (I11 20 4).toNatClampNeg v2) 23 ((sI I11 22 (I11 20 4).toNatClampNeg v2) 20 4).toNatClampNeg ((sI I11 22 (I11 20 4).toNatClampNeg v2) o1 7)) 20 4) + 1) / 24 * 24)) 20 3) + 1) else 24)) J11)))))
set_option maxRecDepth 4000 in
theorem w_X0_keep {g : GT} {d : Nat} {o1 : Nat} {v2 : Int32} {I : IT} {J : JT} {P : IT → JT → Prop} (ho1 : isF o1) (hd : 1 ≤ d) (hv : VC_X0_keep g d o1 v2 I J P) : SemV g d M_X0_keep [.ref (ga g 20), .ref (ga g o1), .int v2] I J P := by
  unfold VC_X0_keep at hv
  refine sem_intro (by decide +kernel) rfl (Nat.le_of_ble_eq_true rfl) ?_
  show AW _ 0 0 0 [(0, .ref (ga g 20)), (1, .ref (ga g o1)), (2, .int v2)] [] (cW g I J)
  refine a_aload_n 0 dX0_keep_0 rfl rfl ?_
  refine a_getR (r := 21) G_X0_11 sh_20 rfl dX0_keep_1 ?_
  refine a_aload_n 0 dX0_keep_4 rfl rfl ?_
  refine a_getI G_X0_28 sh_20 rfl dX0_keep_5 ?_
  have hi8 := hv.1
  refine a_aald (r := (24 + 2 * (I 20 4).toNatClampNeg)) sh_21 (by decide) hi8 (r_21 hi8) dX0_keep_8 ?_
  replace hv := hv.2
  refine a_aload_n 1 dX0_keep_9 rfl rfl ?_
  refine a_iload_n 2 dX0_keep_10 rfl rfl ?_
  refine c_VV (As := [.ref (ga g o1), .int v2]) (rest := []) hv K_X0_34 (o_21 hi8).1 rfl rfl rfl (Nat.le_of_ble_eq_true rfl) (rok (by omega) (Nat.le_of_ble_eq_true rfl)) ⟨Nat.zero_le _, Nat.zero_le _⟩ dX0_keep_11 (fun I11 J11 hv => ?_)
  refine a_aload_n 0 dX0_keep_14 rfl rfl ?_
  refine a_getR (r := 22) G_X0_17 sh_20 rfl dX0_keep_15 ?_
  refine a_aload_n 0 dX0_keep_18 rfl rfl ?_
  refine a_getI G_X0_28 sh_20 rfl dX0_keep_19 ?_
  refine a_iload_n 2 dX0_keep_22 rfl rfl ?_
  refine a_iast sh_22 hv.1 dX0_keep_23 ?_
  replace hv := hv.2
  refine a_aload_n 0 dX0_keep_24 rfl rfl ?_
  refine a_getR (r := 23) G_X0_21 sh_20 rfl dX0_keep_25 ?_
  refine a_aload_n 0 dX0_keep_28 rfl rfl ?_
  refine a_getI G_X0_28 sh_20 rfl dX0_keep_29 ?_
  refine a_aload_n 1 dX0_keep_32 rfl rfl ?_
  refine a_getI G_X0_38 ho1.1 rfl dX0_keep_33 ?_
  refine a_iast sh_23 hv.1 dX0_keep_36 ?_
  replace hv := hv.2
  refine a_aload_n 0 dX0_keep_37 rfl rfl ?_
  refine a_aload_n 0 dX0_keep_38 rfl rfl ?_
  refine a_getI G_X0_28 sh_20 rfl dX0_keep_39 ?_
  refine a_iconst (v := 1) dX0_keep_42 (by decide) ?_
  refine a_iadd dX0_keep_43 ?_
  refine a_bipush (v := 24) dX0_keep_44 (by decide) ?_
  refine a_irem dX0_keep_46 (by decide) ?_
  refine a_putI H_X0_28 sh_20 rfl rfl rfl dX0_keep_47 ?_
  refine a_aload_n 0 dX0_keep_50 rfl rfl ?_
  refine a_bipush (v := 24) dX0_keep_51 (by decide) ?_
  refine a_aload_n 0 dX0_keep_53 rfl rfl ?_
  refine a_getI G_X0_24 sh_20 rfl dX0_keep_54 ?_
  refine a_iconst (v := 1) dX0_keep_57 (by decide) ?_
  refine a_iadd dX0_keep_58 ?_
  refine a_mmin K_X0_42.1.1 (rokM hd (Nat.le_of_ble_eq_true rfl)) ⟨Nat.zero_le _, Nat.zero_le _⟩ dX0_keep_59 ?_
  refine a_putI H_X0_24 sh_20 rfl rfl rfl dX0_keep_62 ?_
  exact a_vret rfl dX0_keep_65 hv
def VC_X0_giveBack (g : GT) (d : Nat) (o1 : Nat) (I : IT) (J : JT) (P : Bool → IT → JT → Prop) : Prop :=
  ((0 < (I 20 3) → (vp_in ((sI (sI I 20 4 ((((I 20 4) + 24) - 1) - (((I 20 4) + 24) - 1) / 24 * 24)) 20 3 (((sI I 20 4 ((((I 20 4) + 24) - 1) - (((I 20 4) + 24) - 1) / 24 * 24)) 20 3) - 1)) 20 4) 24 ∧ (vp_in ((sI (sI I 20 4 ((((I 20 4) + 24) - 1) - (((I 20 4) + 24) - 1) / 24 * 24)) 20 3 (((sI I 20 4 ((((I 20 4) + 24) - 1) - (((I 20 4) + 24) - 1) / 24 * 24)) 20 3) - 1)) 20 4) 24 ∧ (SemV g (d - 1) M_X6_land [.ref (ga g (24 + 2 * ((sI (sI I 20 4 ((((I 20 4) + 24) - 1) - (((I 20 4) + 24) - 1) / 24 * 24)) 20 3 (((sI I 20 4 ((((I 20 4) + 24) - 1) - (((I 20 4) + 24) - 1) / 24 * 24)) 20 3) - 1)) 20 4).toNatClampNeg)), .ref (ga g o1), .int ((sI (sI I 20 4 ((((I 20 4) + 24) - 1) - (((I 20 4) + 24) - 1) / 24 * 24)) 20 3 (((sI I 20 4 ((((I 20 4) + 24) - 1) - (((I 20 4) + 24) - 1) / 24 * 24)) 20 3) - 1)) 22 ((sI (sI I 20 4 ((((I 20 4) + 24) - 1) - (((I 20 4) + 24) - 1) / 24 * 24)) 20 3 (((sI I 20 4 ((((I 20 4) + 24) - 1) - (((I 20 4) + 24) - 1) / 24 * 24)) 20 3) - 1)) 20 4).toNatClampNeg)] (sI (sI I 20 4 ((((I 20 4) + 24) - 1) - (((I 20 4) + 24) - 1) / 24 * 24)) 20 3 (((sI I 20 4 ((((I 20 4) + 24) - 1) - (((I 20 4) + 24) - 1) / 24 * 24)) 20 3) - 1)) J (fun I54 J54 => (vp_in (I54 20 4) 24 ∧ P true (sI I54 o1 7 (I54 23 (I54 20 4).toNatClampNeg)) J54)))))) ∧ (¬ 0 < (I 20 3) → P false I J))
set_option maxRecDepth 4000 in
theorem w_X0_giveBack {g : GT} {d : Nat} {o1 : Nat} {I : IT} {J : JT} {P : Bool → IT → JT → Prop} (ho1 : isF o1) (hd : 1 ≤ d) (hv : VC_X0_giveBack g d o1 I J P) : SemZ g d M_X0_giveBack [.ref (ga g 20), .ref (ga g o1)] I J P := by
  unfold VC_X0_giveBack at hv
  refine sem_intro (by decide +kernel) rfl (Nat.le_of_ble_eq_true rfl) ?_
  show AW _ 0 0 0 [(0, .ref (ga g 20)), (1, .ref (ga g o1))] [] (cW g I J)
  refine a_aload_n 0 dX0_giveBack_0 rfl rfl ?_
  refine a_getI G_X0_24 sh_20 rfl dX0_giveBack_1 ?_
  refine a_if_gt 9 dX0_giveBack_4 rfl (fun hc => ?_) (fun hc => ?_)
  · replace hv := hv.1 hc
    refine a_aload_n 0 dX0_giveBack_9 rfl rfl ?_
    refine a_aload_n 0 dX0_giveBack_10 rfl rfl ?_
    refine a_getI G_X0_28 sh_20 rfl dX0_giveBack_11 ?_
    refine a_bipush (v := 24) dX0_giveBack_14 (by decide) ?_
    refine a_iadd dX0_giveBack_16 ?_
    refine a_iconst (v := 1) dX0_giveBack_17 (by decide) ?_
    refine a_isub dX0_giveBack_18 ?_
    refine a_bipush (v := 24) dX0_giveBack_19 (by decide) ?_
    refine a_irem dX0_giveBack_21 (by decide) ?_
    refine a_putI H_X0_28 sh_20 rfl rfl rfl dX0_giveBack_22 ?_
    refine a_aload_n 0 dX0_giveBack_25 rfl rfl ?_
    refine a_dup dX0_giveBack_26 rfl ?_
    refine a_getI G_X0_24 sh_20 rfl dX0_giveBack_27 ?_
    refine a_iconst (v := 1) dX0_giveBack_30 (by decide) ?_
    refine a_isub dX0_giveBack_31 ?_
    refine a_putI H_X0_24 sh_20 rfl rfl rfl dX0_giveBack_32 ?_
    refine a_aload_n 0 dX0_giveBack_35 rfl rfl ?_
    refine a_getR (r := 21) G_X0_11 sh_20 rfl dX0_giveBack_36 ?_
    refine a_aload_n 0 dX0_giveBack_39 rfl rfl ?_
    refine a_getI G_X0_28 sh_20 rfl dX0_giveBack_40 ?_
    have hi43 := hv.1
    refine a_aald (r := (24 + 2 * ((sI (sI I 20 4 ((((I 20 4) + 24) - 1) - (((I 20 4) + 24) - 1) / 24 * 24)) 20 3 (((sI I 20 4 ((((I 20 4) + 24) - 1) - (((I 20 4) + 24) - 1) / 24 * 24)) 20 3) - 1)) 20 4).toNatClampNeg)) sh_21 (by decide) hi43 (r_21 hi43) dX0_giveBack_43 ?_
    replace hv := hv.2
    refine a_aload_n 1 dX0_giveBack_44 rfl rfl ?_
    refine a_aload_n 0 dX0_giveBack_45 rfl rfl ?_
    refine a_getR (r := 22) G_X0_17 sh_20 rfl dX0_giveBack_46 ?_
    refine a_aload_n 0 dX0_giveBack_49 rfl rfl ?_
    refine a_getI G_X0_28 sh_20 rfl dX0_giveBack_50 ?_
    refine a_iald sh_22 hv.1 dX0_giveBack_53 ?_
    replace hv := hv.2
    refine c_VV (As := [.ref (ga g o1), .int ((sI (sI I 20 4 ((((I 20 4) + 24) - 1) - (((I 20 4) + 24) - 1) / 24 * 24)) 20 3 (((sI I 20 4 ((((I 20 4) + 24) - 1) - (((I 20 4) + 24) - 1) / 24 * 24)) 20 3) - 1)) 22 ((sI (sI I 20 4 ((((I 20 4) + 24) - 1) - (((I 20 4) + 24) - 1) / 24 * 24)) 20 3 (((sI I 20 4 ((((I 20 4) + 24) - 1) - (((I 20 4) + 24) - 1) / 24 * 24)) 20 3) - 1)) 20 4).toNatClampNeg)]) (rest := []) hv K_X0_48 (o_21 hi43).1 rfl rfl rfl (Nat.le_of_ble_eq_true rfl) (rok (by omega) (Nat.le_of_ble_eq_true rfl)) ⟨Nat.zero_le _, Nat.zero_le _⟩ dX0_giveBack_54 (fun I54 J54 hv => ?_)
    refine a_aload_n 1 dX0_giveBack_57 rfl rfl ?_
    refine a_aload_n 0 dX0_giveBack_58 rfl rfl ?_
    refine a_getR (r := 23) G_X0_21 sh_20 rfl dX0_giveBack_59 ?_
    refine a_aload_n 0 dX0_giveBack_62 rfl rfl ?_
    refine a_getI G_X0_28 sh_20 rfl dX0_giveBack_63 ?_
    refine a_iald sh_23 hv.1 dX0_giveBack_66 ?_
    replace hv := hv.2
    refine a_putI H_X0_38 ho1.1 rfl rfl rfl dX0_giveBack_67 ?_
    refine a_iconst (v := 1) dX0_giveBack_70 (by decide) ?_
    exact a_zret _ true (by decide) rfl dX0_giveBack_71 hv
  · replace hv := hv.2 hc
    refine a_iconst (v := 0) dX0_giveBack_7 (by decide) ?_
    exact a_zret _ false (by decide) rfl dX0_giveBack_8 hv
def Lp_X1_search_41 (g : GT) (d : Nat) (o1 : Nat) (v3 : Int32) (b4 : Bool) (v5 : Int32) (I : IT) (J : JT) (P : Int32 → IT → JT → Prop) : Prop := AW (kM g d M_X1_search 0 0 (qI g P)) 0 0 41 [(0, .ref (ga g 73)), (1, .ref (ga g o1)), (3, .int v3), (4, .int (bI b4)), (5, .int v5)] [] (cW g I J)
def VC_X1_search_41 (g : GT) (d : Nat) (o1 : Nat) (v3 : Int32) (b4 : Bool) (v5 : Int32) (I : IT) (J : JT) (P : Int32 → IT → JT → Prop) : Prop :=
  (((I 73 5) ≤ v5 → P (-4) I J) ∧ (¬ (I 73 5) ≤ v5 → ((192 ≤ v5 → P (-4) I J) ∧ (¬ 192 ≤ v5 → (vp_in v5 192 ∧ ((¬ ((I 74 v5.toNatClampNeg) / 4) = v3 → (SemV g (d - 1) M_X1_spread [.ref (ga g 73), .int (I 74 v5.toNatClampNeg), .int (I o1 2), .int (bI b4)] I J (fun I87 J87 => (Lp_X1_search_41 g d o1 v3 b4 (v5 + 1) I87 J87 P)))) ∧ (((I 74 v5.toNatClampNeg) / 4) = v3 → P (I 74 v5.toNatClampNeg) I J)))))))
set_option maxRecDepth 4000 in
theorem w_X1_search_41 {g : GT} {d : Nat} {o1 : Nat} {v3 : Int32} {b4 : Bool} {v5 : Int32} {I : IT} {J : JT} {P : Int32 → IT → JT → Prop} (ho1 : isV o1) (hd : 1 ≤ d) (hv : VC_X1_search_41 g d o1 v3 b4 v5 I J P) : Lp_X1_search_41 g d o1 v3 b4 v5 I J P := by
  unfold VC_X1_search_41 at hv
  unfold Lp_X1_search_41
  refine a_iload 4 dX1_search_41 rfl ?_
  refine a_aload_n 0 dX1_search_43 rfl rfl ?_
  refine a_getI G_X1_24 sh_73 rfl dX1_search_44 ?_
  refine a_icmp_ge 96 dX1_search_47 rfl (fun hc => ?_) (fun hc => ?_)
  · replace hv := hv.1 hc
    refine a_bipush (v := (-4)) dX1_search_96 (by decide) ?_
    exact a_iret rfl dX1_search_98 hv
  · replace hv := hv.2 hc
    refine a_iload 4 dX1_search_50 rfl ?_
    refine a_sipush (v := 192) dX1_search_52 (by decide) ?_
    refine a_icmp_ge 96 dX1_search_55 rfl (fun hc => ?_) (fun hc => ?_)
    · replace hv := hv.1 hc
      refine a_bipush (v := (-4)) dX1_search_96 (by decide) ?_
      exact a_iret rfl dX1_search_98 hv
    · replace hv := hv.2 hc
      refine a_aload_n 0 dX1_search_58 rfl rfl ?_
      refine a_getR (r := 74) G_X1_11 sh_73 rfl dX1_search_59 ?_
      refine a_iload 4 dX1_search_62 rfl ?_
      refine a_iald sh_74 hv.1 dX1_search_64 ?_
      replace hv := hv.2
      refine a_istore [(6, .int (I 74 v5.toNatClampNeg)), (0, .ref (ga g 73)), (1, .ref (ga g o1)), (3, .int v3), (4, .int (bI b4)), (5, .int v5)] dX1_search_65 (Nat.le_of_ble_eq_true rfl) rfl ?_
      refine a_iload 0 dX1_search_67 rfl ?_
      refine a_iconst (v := 4) dX1_search_69 (by decide) ?_
      refine a_idiv dX1_search_70 (by decide) ?_
      refine a_iload_n 3 dX1_search_71 rfl rfl ?_
      refine a_icmp_ne 78 dX1_search_72 rfl (fun hc => ?_) (fun hc => ?_)
      · replace hv := hv.1 hc
        refine a_aload_n 1 dX1_search_78 rfl rfl ?_
        refine a_iload 0 dX1_search_79 rfl ?_
        refine a_aload_n 2 dX1_search_81 rfl rfl ?_
        refine a_getI G_X1_54 ho1.1 rfl dX1_search_82 ?_
        refine a_iload 4 dX1_search_85 rfl ?_
        refine c_VV (As := [.int (I 74 v5.toNatClampNeg), .int (I o1 2), .int (bI b4)]) (rest := []) hv K_X1_57 sh_73 rfl rfl rfl (Nat.le_of_ble_eq_true rfl) (rok (by omega) (Nat.le_of_ble_eq_true rfl)) ⟨Nat.zero_le _, Nat.zero_le _⟩ dX1_search_87 (fun I87 J87 hv => ?_)
        refine a_iinc 5 (v5 + 1) [(5, .int (v5 + 1)), (6, .int (I 74 v5.toNatClampNeg)), (0, .ref (ga g 73)), (1, .ref (ga g o1)), (3, .int v3), (4, .int (bI b4))] dX1_search_90 rfl rfl (Nat.le_of_ble_eq_true rfl) rfl ?_
        refine a_goto 41 dX1_search_93 rfl ?_
        exact a_sub [2, 3, 4, 5, 0] rfl hv
      · replace hv := hv.2 hc
        refine a_iload 0 dX1_search_75 rfl ?_
        exact a_iret rfl dX1_search_77 hv
def VC_X1_search (g : GT) (d : Nat) (o1 : Nat) (v2 : Int32) (v3 : Int32) (I : IT) (J : JT) (P : Int32 → IT → JT → Prop) : Prop :=
  (SemV g (d - 1) M_J7_fill_53178 [.ref (ga g 77), .int (-1)] I J (fun I5 J5 => (SemZ g (d - 1) M_X6_trusts [.ref (ga g o1), .int v2] I5 J5 (fun r10 I10 J10 => (SemV g (d - 1) M_X1_mark [.ref (ga g 73), .int ((4 * ((sI I10 73 5 0) o1 3)) + ((sI I10 73 5 0) o1 4)), .int 0, .int 0, .int 0] (sI I10 73 5 0) J10 (fun I35 J35 => (Lp_X1_search_41 g d o1 v3 r10 0 I35 J35 P)))))))
set_option maxRecDepth 4000 in
theorem w_X1_search {g : GT} {d : Nat} {o1 : Nat} {v2 : Int32} {v3 : Int32} {I : IT} {J : JT} {P : Int32 → IT → JT → Prop} (ho1 : isV o1) (hd : 1 ≤ d) (hv : VC_X1_search g d o1 v2 v3 I J P) : SemI g d M_X1_search [.ref (ga g 73), .ref (ga g o1), .int v2, .int v3] I J P := by
  unfold VC_X1_search at hv
  refine sem_intro (by decide +kernel) rfl (Nat.le_of_ble_eq_true rfl) ?_
  show AW _ 0 0 0 [(0, .ref (ga g 73)), (1, .ref (ga g o1)), (2, .int v2), (3, .int v3)] [] (cW g I J)
  refine a_aload_n 0 dX1_search_0 rfl rfl ?_
  refine a_getR (r := 77) G_X1_21 sh_73 rfl dX1_search_1 ?_
  refine a_iconst (v := (-1)) dX1_search_4 (by decide) ?_
  refine c_SV (As := [.ref (ga g 77), .int (-1)]) (rest := []) hv K_X1_32 rfl rfl (Nat.le_of_ble_eq_true rfl) (rok (by omega) (Nat.le_of_ble_eq_true rfl)) ⟨Nat.zero_le _, Nat.zero_le _⟩ dX1_search_5 (fun I5 J5 hv => ?_)
  refine a_aload_n 1 dX1_search_8 rfl rfl ?_
  refine a_iload_n 2 dX1_search_9 rfl rfl ?_
  refine c_VZ (As := [.int v2]) (rest := []) hv K_X1_38 ho1.1 rfl rfl rfl (Nat.le_of_ble_eq_true rfl) (rok (by omega) (Nat.le_of_ble_eq_true rfl)) ⟨Nat.zero_le _, Nat.zero_le _⟩ dX1_search_10 (fun r10 I10 J10 hv => ?_)
  refine a_istore [(4, .int (bI r10)), (0, .ref (ga g 73)), (1, .ref (ga g o1)), (2, .int v2), (3, .int v3)] dX1_search_13 (Nat.le_of_ble_eq_true rfl) rfl ?_
  refine a_aload_n 1 dX1_search_15 rfl rfl ?_
  refine a_iconst (v := 0) dX1_search_16 (by decide) ?_
  refine a_putI H_X1_24 sh_73 rfl rfl rfl dX1_search_17 ?_
  refine a_aload_n 1 dX1_search_20 rfl rfl ?_
  refine a_iconst (v := 4) dX1_search_21 (by decide) ?_
  refine a_aload_n 2 dX1_search_22 rfl rfl ?_
  refine a_getI G_X1_44 ho1.1 rfl dX1_search_23 ?_
  refine a_imul dX1_search_26 ?_
  refine a_aload_n 2 dX1_search_27 rfl rfl ?_
  refine a_getI G_X1_47 ho1.1 rfl dX1_search_28 ?_
  refine a_iadd dX1_search_31 ?_
  refine a_iconst (v := 0) dX1_search_32 (by decide) ?_
  refine a_iconst (v := 0) dX1_search_33 (by decide) ?_
  refine a_iconst (v := 0) dX1_search_34 (by decide) ?_
  refine c_VV (As := [.int ((4 * ((sI I10 73 5 0) o1 3)) + ((sI I10 73 5 0) o1 4)), .int 0, .int 0, .int 0]) (rest := []) hv K_X1_50 sh_73 rfl rfl rfl (Nat.le_of_ble_eq_true rfl) (rok (by omega) (Nat.le_of_ble_eq_true rfl)) ⟨Nat.zero_le _, Nat.zero_le _⟩ dX1_search_35 (fun I35 J35 hv => ?_)
  refine a_iconst (v := 0) dX1_search_38 (by decide) ?_
  refine a_istore [(5, .int 0), (4, .int (bI r10)), (0, .ref (ga g 73)), (1, .ref (ga g o1)), (2, .int v2), (3, .int v3)] dX1_search_39 (Nat.le_of_ble_eq_true rfl) rfl ?_
  exact a_sub [2, 3, 5, 1, 0] rfl hv
def Lp_X1_spread_3 (g : GT) (d : Nat) (v1 : Int32) (v2 : Int32) (b3 : Bool) (v4 : Int32) (I : IT) (J : JT) (P : IT → JT → Prop) : Prop := AW (kM g d M_X1_spread 0 0 (qV g P)) 0 0 3 [(0, .ref (ga g 73)), (1, .int v1), (2, .int v2), (3, .int (bI b3)), (4, .int v4)] [] (cW g I J)
def VC_X1_spread_3 (g : GT) (d : Nat) (v1 : Int32) (v2 : Int32) (b3 : Bool) (v4 : Int32) (I : IT) (J : JT) (P : IT → JT → Prop) : Prop :=
  ((3 ≤ v4 → P I J) ∧ (¬ 3 ≤ v4 → ((b3 = false → (SemI g (d - 1) M_X3_ahead [.ref (ga g 4), .int (v1 / 4), .int (v1 - v1 / 4 * 4)] I J (fun r39 I39 J39 => ((r39 < 0 → (Lp_X1_spread_3 g d v1 v2 b3 (v4 + 1) I39 J39 P)) ∧ (¬ r39 < 0 → (vp_in v1 192 ∧ (SemV g (d - 1) M_X1_mark [.ref (ga g 73), .int ((4 * r39) + (v1 - v1 / 4 * 4)), .int v1, .int v4, .int ((I39 77 v1.toNatClampNeg) + 1)] I39 J39 (fun I68 J68 => (Lp_X1_spread_3 g d v1 v2 b3 (v4 + 1) I68 J68 P))))))))) ∧ (b3 = true → (SemI g (d - 1) M_X7_turned [.int v2, .int (v1 - v1 / 4 * 4), .int v4] I J (fun r19 I19 J19 => (SemI g (d - 1) M_X3_ahead [.ref (ga g 4), .int (v1 / 4), .int r19] I19 J19 (fun r39 I39 J39 => ((r39 < 0 → (Lp_X1_spread_3 g d v1 v2 b3 (v4 + 1) I39 J39 P)) ∧ (¬ r39 < 0 → (vp_in v1 192 ∧ (SemV g (d - 1) M_X1_mark [.ref (ga g 73), .int ((4 * r39) + r19), .int v1, .int v4, .int ((I39 77 v1.toNatClampNeg) + 1)] I39 J39 (fun I68 J68 => (Lp_X1_spread_3 g d v1 v2 b3 (v4 + 1) I68 J68 P))))))))))))))
set_option maxRecDepth 4000 in
theorem w_X1_spread_3 {g : GT} {d : Nat} {v1 : Int32} {v2 : Int32} {b3 : Bool} {v4 : Int32} {I : IT} {J : JT} {P : IT → JT → Prop} (hd : 1 ≤ d) (hv : VC_X1_spread_3 g d v1 v2 b3 v4 I J P) : Lp_X1_spread_3 g d v1 v2 b3 v4 I J P := by
  unfold VC_X1_spread_3 at hv
  unfold Lp_X1_spread_3
  refine a_iload 4 dX1_spread_3 rfl ?_
  refine a_iconst (v := 3) dX1_spread_5 (by decide) ?_
  refine a_icmp_ge 77 dX1_spread_6 rfl (fun hc => ?_) (fun hc => ?_)
  · replace hv := hv.1 hc
    exact a_vret rfl dX1_spread_77 hv
  · replace hv := hv.2 hc
    refine a_iload_n 3 dX1_spread_9 rfl rfl ?_
    refine a_ifz_eq 25 dX1_spread_10 rfl (fun hc => ?_) (fun hc => ?_)
    · replace hv := hv.1 hc
      refine a_iload_n 1 dX1_spread_25 rfl rfl ?_
      refine a_iconst (v := 4) dX1_spread_26 (by decide) ?_
      refine a_irem dX1_spread_27 (by decide) ?_
      refine a_istore [(5, .int (v1 - v1 / 4 * 4)), (0, .ref (ga g 73)), (1, .int v1), (2, .int v2), (3, .int (bI b3)), (4, .int v4)] dX1_spread_28 (Nat.le_of_ble_eq_true rfl) rfl ?_
      refine a_aload_n 1 dX1_spread_30 rfl rfl ?_
      refine a_getR (r := 4) G_X1_28 sh_73 rfl dX1_spread_31 ?_
      refine a_iload_n 2 dX1_spread_34 rfl rfl ?_
      refine a_iconst (v := 4) dX1_spread_35 (by decide) ?_
      refine a_idiv dX1_spread_36 (by decide) ?_
      refine a_iload 0 dX1_spread_37 rfl ?_
      refine c_VI (As := [.int (v1 / 4), .int (v1 - v1 / 4 * 4)]) (rest := []) hv K_X1_65 sh_4 rfl rfl rfl (Nat.le_of_ble_eq_true rfl) (rok (by omega) (Nat.le_of_ble_eq_true rfl)) ⟨Nat.zero_le _, Nat.zero_le _⟩ dX1_spread_39 (fun r39 I39 J39 hv => ?_)
      refine a_istore [(6, .int r39), (5, .int (v1 - v1 / 4 * 4)), (0, .ref (ga g 73)), (1, .int v1), (2, .int v2), (3, .int (bI b3)), (4, .int v4)] dX1_spread_42 (Nat.le_of_ble_eq_true rfl) rfl ?_
      refine a_iload 0 dX1_spread_44 rfl ?_
      refine a_if_lt 71 dX1_spread_46 rfl (fun hc => ?_) (fun hc => ?_)
      · replace hv := hv.1 hc
        refine a_iinc 6 (v4 + 1) [(4, .int (v4 + 1)), (6, .int r39), (5, .int (v1 - v1 / 4 * 4)), (0, .ref (ga g 73)), (1, .int v1), (2, .int v2), (3, .int (bI b3))] dX1_spread_71 rfl rfl (Nat.le_of_ble_eq_true rfl) rfl ?_
        refine a_goto 3 dX1_spread_74 rfl ?_
        exact a_sub [3, 4, 5, 6, 0] rfl hv
      · replace hv := hv.2 hc
        refine a_aload_n 2 dX1_spread_49 rfl rfl ?_
        refine a_iconst (v := 4) dX1_spread_50 (by decide) ?_
        refine a_iload 0 dX1_spread_51 rfl ?_
        refine a_imul dX1_spread_53 ?_
        refine a_iload 1 dX1_spread_54 rfl ?_
        refine a_iadd dX1_spread_56 ?_
        refine a_iload_n 3 dX1_spread_57 rfl rfl ?_
        refine a_iload 6 dX1_spread_58 rfl ?_
        refine a_aload_n 2 dX1_spread_60 rfl rfl ?_
        refine a_getR (r := 77) G_X1_21 sh_73 rfl dX1_spread_61 ?_
        refine a_iload_n 3 dX1_spread_64 rfl rfl ?_
        refine a_iald sh_77 hv.1 dX1_spread_65 ?_
        replace hv := hv.2
        refine a_iconst (v := 1) dX1_spread_66 (by decide) ?_
        refine a_iadd dX1_spread_67 ?_
        refine c_VV (As := [.int ((4 * r39) + (v1 - v1 / 4 * 4)), .int v1, .int v4, .int ((I39 77 v1.toNatClampNeg) + 1)]) (rest := []) hv K_X1_50 sh_73 rfl rfl rfl (Nat.le_of_ble_eq_true rfl) (rok (by omega) (Nat.le_of_ble_eq_true rfl)) ⟨Nat.zero_le _, Nat.zero_le _⟩ dX1_spread_68 (fun I68 J68 hv => ?_)
        refine a_iinc 6 (v4 + 1) [(4, .int (v4 + 1)), (6, .int r39), (5, .int (v1 - v1 / 4 * 4)), (0, .ref (ga g 73)), (1, .int v1), (2, .int v2), (3, .int (bI b3))] dX1_spread_71 rfl rfl (Nat.le_of_ble_eq_true rfl) rfl ?_
        refine a_goto 3 dX1_spread_74 rfl ?_
        exact a_sub [3, 4, 5, 6, 0] rfl hv
    · replace hv := hv.2 hc
      refine a_iload_n 2 dX1_spread_13 rfl rfl ?_
      refine a_iload_n 1 dX1_spread_14 rfl rfl ?_
      refine a_iconst (v := 4) dX1_spread_15 (by decide) ?_
      refine a_irem dX1_spread_16 (by decide) ?_
      refine a_iload 4 dX1_spread_17 rfl ?_
      refine c_NI (As := [.int v2, .int (v1 - v1 / 4 * 4), .int v4]) (rest := []) hv K_X1_61 rfl rfl (Nat.le_of_ble_eq_true rfl) (rok (by omega) (Nat.le_of_ble_eq_true rfl)) ⟨Nat.zero_le _, Nat.zero_le _⟩ dX1_spread_19 (fun r19 I19 J19 hv => ?_)
      refine a_goto 28 dX1_spread_22 rfl ?_
      refine a_istore [(5, .int r19), (0, .ref (ga g 73)), (1, .int v1), (2, .int v2), (3, .int (bI b3)), (4, .int v4)] dX1_spread_28 (Nat.le_of_ble_eq_true rfl) rfl ?_
      refine a_aload_n 1 dX1_spread_30 rfl rfl ?_
      refine a_getR (r := 4) G_X1_28 sh_73 rfl dX1_spread_31 ?_
      refine a_iload_n 2 dX1_spread_34 rfl rfl ?_
      refine a_iconst (v := 4) dX1_spread_35 (by decide) ?_
      refine a_idiv dX1_spread_36 (by decide) ?_
      refine a_iload 0 dX1_spread_37 rfl ?_
      refine c_VI (As := [.int (v1 / 4), .int r19]) (rest := []) hv K_X1_65 sh_4 rfl rfl rfl (Nat.le_of_ble_eq_true rfl) (rok (by omega) (Nat.le_of_ble_eq_true rfl)) ⟨Nat.zero_le _, Nat.zero_le _⟩ dX1_spread_39 (fun r39 I39 J39 hv => ?_)
      refine a_istore [(6, .int r39), (5, .int r19), (0, .ref (ga g 73)), (1, .int v1), (2, .int v2), (3, .int (bI b3)), (4, .int v4)] dX1_spread_42 (Nat.le_of_ble_eq_true rfl) rfl ?_
      refine a_iload 0 dX1_spread_44 rfl ?_
      refine a_if_lt 71 dX1_spread_46 rfl (fun hc => ?_) (fun hc => ?_)
      · replace hv := hv.1 hc
        refine a_iinc 6 (v4 + 1) [(4, .int (v4 + 1)), (6, .int r39), (5, .int r19), (0, .ref (ga g 73)), (1, .int v1), (2, .int v2), (3, .int (bI b3))] dX1_spread_71 rfl rfl (Nat.le_of_ble_eq_true rfl) rfl ?_
        refine a_goto 3 dX1_spread_74 rfl ?_
        exact a_sub [3, 4, 5, 6, 0] rfl hv
      · replace hv := hv.2 hc
        refine a_aload_n 2 dX1_spread_49 rfl rfl ?_
        refine a_iconst (v := 4) dX1_spread_50 (by decide) ?_
        refine a_iload 0 dX1_spread_51 rfl ?_
        refine a_imul dX1_spread_53 ?_
        refine a_iload 1 dX1_spread_54 rfl ?_
        refine a_iadd dX1_spread_56 ?_
        refine a_iload_n 3 dX1_spread_57 rfl rfl ?_
        refine a_iload 6 dX1_spread_58 rfl ?_
        refine a_aload_n 2 dX1_spread_60 rfl rfl ?_
        refine a_getR (r := 77) G_X1_21 sh_73 rfl dX1_spread_61 ?_
        refine a_iload_n 3 dX1_spread_64 rfl rfl ?_
        refine a_iald sh_77 hv.1 dX1_spread_65 ?_
        replace hv := hv.2
        refine a_iconst (v := 1) dX1_spread_66 (by decide) ?_
        refine a_iadd dX1_spread_67 ?_
        refine c_VV (As := [.int ((4 * r39) + r19), .int v1, .int v4, .int ((I39 77 v1.toNatClampNeg) + 1)]) (rest := []) hv K_X1_50 sh_73 rfl rfl rfl (Nat.le_of_ble_eq_true rfl) (rok (by omega) (Nat.le_of_ble_eq_true rfl)) ⟨Nat.zero_le _, Nat.zero_le _⟩ dX1_spread_68 (fun I68 J68 hv => ?_)
        refine a_iinc 6 (v4 + 1) [(4, .int (v4 + 1)), (6, .int r39), (5, .int r19), (0, .ref (ga g 73)), (1, .int v1), (2, .int v2), (3, .int (bI b3))] dX1_spread_71 rfl rfl (Nat.le_of_ble_eq_true rfl) rfl ?_
        refine a_goto 3 dX1_spread_74 rfl ?_
        exact a_sub [3, 4, 5, 6, 0] rfl hv
def VC_X1_spread (g : GT) (d : Nat) (v1 : Int32) (v2 : Int32) (b3 : Bool) (I : IT) (J : JT) (P : IT → JT → Prop) : Prop :=
  (Lp_X1_spread_3 g d v1 v2 b3 0 I J P)
set_option maxRecDepth 4000 in
theorem w_X1_spread {g : GT} {d : Nat} {v1 : Int32} {v2 : Int32} {b3 : Bool} {I : IT} {J : JT} {P : IT → JT → Prop} (hv : VC_X1_spread g d v1 v2 b3 I J P) : SemV g d M_X1_spread [.ref (ga g 73), .int v1, .int v2, .int (bI b3)] I J P := by
  unfold VC_X1_spread at hv
  refine sem_intro (by decide +kernel) rfl (Nat.le_of_ble_eq_true rfl) ?_
  show AW _ 0 0 0 [(0, .ref (ga g 73)), (1, .int v1), (2, .int v2), (3, .int (bI b3))] [] (cW g I J)
  refine a_iconst (v := 0) dX1_spread_0 (by decide) ?_
  refine a_istore [(4, .int 0), (0, .ref (ga g 73)), (1, .int v1), (2, .int v2), (3, .int (bI b3))] dX1_spread_1 (Nat.le_of_ble_eq_true rfl) rfl ?_
  exact a_sub [1, 2, 3, 4, 0] rfl hv
def VC_X1_mark (g : GT) (d : Nat) (v1 : Int32) (v2 : Int32) (v3 : Int32) (v4 : Int32) (I : IT) (J : JT) (P : IT → JT → Prop) : Prop :=
  (vp_in v1 192 ∧ ((0 ≤ (I 77 v1.toNatClampNeg) → P I J) ∧ (¬ 0 ≤ (I 77 v1.toNatClampNeg) → (((I 73 5) < 192 → (vp_in (I 73 5) 192 ∧ (vp_in v1 192 ∧ (vp_in v1 192 ∧ (vp_in v1 192 ∧ P (sI (sI (sI (sI (sI I 74 (I 73 5).toNatClampNeg v1) 73 5 (((sI I 74 (I 73 5).toNatClampNeg v1) 73 5) + 1)) 75 v1.toNatClampNeg v2) 76 v1.toNatClampNeg v3) 77 v1.toNatClampNeg v4) J))))) ∧ (¬ (I 73 5) < 192 → P I J)))))
set_option maxRecDepth 4000 in
theorem w_X1_mark {g : GT} {d : Nat} {v1 : Int32} {v2 : Int32} {v3 : Int32} {v4 : Int32} {I : IT} {J : JT} {P : IT → JT → Prop} (hv : VC_X1_mark g d v1 v2 v3 v4 I J P) : SemV g d M_X1_mark [.ref (ga g 73), .int v1, .int v2, .int v3, .int v4] I J P := by
  unfold VC_X1_mark at hv
  refine sem_intro (by decide +kernel) rfl (Nat.le_of_ble_eq_true rfl) ?_
  show AW _ 0 0 0 [(0, .ref (ga g 73)), (1, .int v1), (2, .int v2), (3, .int v3), (4, .int v4)] [] (cW g I J)
  refine a_aload_n 0 dX1_mark_0 rfl rfl ?_
  refine a_getR (r := 77) G_X1_21 sh_73 rfl dX1_mark_1 ?_
  refine a_iload_n 1 dX1_mark_4 rfl rfl ?_
  refine a_iald sh_77 hv.1 dX1_mark_5 ?_
  replace hv := hv.2
  refine a_if_ge 19 dX1_mark_6 rfl (fun hc => ?_) (fun hc => ?_)
  · replace hv := hv.1 hc
    exact a_vret rfl dX1_mark_19 hv
  · replace hv := hv.2 hc
    refine a_aload_n 0 dX1_mark_9 rfl rfl ?_
    refine a_getI G_X1_24 sh_73 rfl dX1_mark_10 ?_
    refine a_sipush (v := 192) dX1_mark_13 (by decide) ?_
    refine a_icmp_lt 20 dX1_mark_16 rfl (fun hc => ?_) (fun hc => ?_)
    · replace hv := hv.1 hc
      refine a_aload_n 0 dX1_mark_20 rfl rfl ?_
      refine a_getR (r := 74) G_X1_11 sh_73 rfl dX1_mark_21 ?_
      refine a_aload_n 0 dX1_mark_24 rfl rfl ?_
      refine a_getI G_X1_24 sh_73 rfl dX1_mark_25 ?_
      refine a_iload_n 1 dX1_mark_28 rfl rfl ?_
      refine a_iast sh_74 hv.1 dX1_mark_29 ?_
      replace hv := hv.2
      refine a_aload_n 0 dX1_mark_30 rfl rfl ?_
      refine a_dup dX1_mark_31 rfl ?_
      refine a_getI G_X1_24 sh_73 rfl dX1_mark_32 ?_
      refine a_iconst (v := 1) dX1_mark_35 (by decide) ?_
      refine a_iadd dX1_mark_36 ?_
      refine a_putI H_X1_24 sh_73 rfl rfl rfl dX1_mark_37 ?_
      refine a_aload_n 0 dX1_mark_40 rfl rfl ?_
      refine a_getR (r := 75) G_X1_15 sh_73 rfl dX1_mark_41 ?_
      refine a_iload_n 1 dX1_mark_44 rfl rfl ?_
      refine a_iload_n 2 dX1_mark_45 rfl rfl ?_
      refine a_iast sh_75 hv.1 dX1_mark_46 ?_
      replace hv := hv.2
      refine a_aload_n 0 dX1_mark_47 rfl rfl ?_
      refine a_getR (r := 76) G_X1_18 sh_73 rfl dX1_mark_48 ?_
      refine a_iload_n 1 dX1_mark_51 rfl rfl ?_
      refine a_iload_n 3 dX1_mark_52 rfl rfl ?_
      refine a_iast sh_76 hv.1 dX1_mark_53 ?_
      replace hv := hv.2
      refine a_aload_n 0 dX1_mark_54 rfl rfl ?_
      refine a_getR (r := 77) G_X1_21 sh_73 rfl dX1_mark_55 ?_
      refine a_iload_n 1 dX1_mark_58 rfl rfl ?_
      refine a_iload 4 dX1_mark_59 rfl ?_
      refine a_iast sh_77 hv.1 dX1_mark_61 ?_
      replace hv := hv.2
      exact a_vret rfl dX1_mark_62 hv
    · replace hv := hv.2 hc
      exact a_vret rfl dX1_mark_19 hv
def Lp_X1_wordTo_27 (g : GT) (d : Nat) (v2 : Int32) (v3 : Int32) (v4 : Int32) (I : IT) (J : JT) (P : Int32 → IT → JT → Prop) : Prop := AW (kM g d M_X1_wordTo 0 0 (qI g P)) 0 0 27 [(0, .ref (ga g 73)), (2, .int v2), (3, .int v3), (4, .int v4)] [] (cW g I J)
def VC_X1_wordTo_27 (g : GT) (d : Nat) (v2 : Int32) (v3 : Int32) (v4 : Int32) (I : IT) (J : JT) (P : Int32 → IT → JT → Prop) : Prop :=
  ((v4 ≤ (v2 + 1) → (vp_in v3 192 ∧ P (I 76 v3.toNatClampNeg) I J)) ∧ (¬ v4 ≤ (v2 + 1) → (vp_in v3 192 ∧ (Lp_X1_wordTo_27 g d v2 (I 75 v3.toNatClampNeg) (v4 + (-1)) I J P))))
set_option maxRecDepth 4000 in
theorem w_X1_wordTo_27 {g : GT} {d : Nat} {v2 : Int32} {v3 : Int32} {v4 : Int32} {I : IT} {J : JT} {P : Int32 → IT → JT → Prop} (hv : VC_X1_wordTo_27 g d v2 v3 v4 I J P) : Lp_X1_wordTo_27 g d v2 v3 v4 I J P := by
  unfold VC_X1_wordTo_27 at hv
  unfold Lp_X1_wordTo_27
  refine a_iload 3 dX1_wordTo_27 rfl ?_
  refine a_iload_n 1 dX1_wordTo_29 rfl rfl ?_
  refine a_iconst (v := 1) dX1_wordTo_30 (by decide) ?_
  refine a_iadd dX1_wordTo_31 ?_
  refine a_icmp_le 48 dX1_wordTo_32 rfl (fun hc => ?_) (fun hc => ?_)
  · replace hv := hv.1 hc
    refine a_aload_n 0 dX1_wordTo_48 rfl rfl ?_
    refine a_getR (r := 76) G_X1_18 sh_73 rfl dX1_wordTo_49 ?_
    refine a_iload_n 2 dX1_wordTo_52 rfl rfl ?_
    refine a_iald sh_76 hv.1 dX1_wordTo_53 ?_
    replace hv := hv.2
    exact a_iret rfl dX1_wordTo_54 hv
  · replace hv := hv.2 hc
    refine a_aload_n 0 dX1_wordTo_35 rfl rfl ?_
    refine a_getR (r := 75) G_X1_15 sh_73 rfl dX1_wordTo_36 ?_
    refine a_iload_n 2 dX1_wordTo_39 rfl rfl ?_
    refine a_iald sh_75 hv.1 dX1_wordTo_40 ?_
    replace hv := hv.2
    refine a_istore_n [(3, .int (I 75 v3.toNatClampNeg)), (0, .ref (ga g 73)), (2, .int v2), (4, .int v4)] dX1_wordTo_41 rfl (Nat.le_of_ble_eq_true rfl) rfl ?_
    refine a_iinc 3 (v4 + (-1)) [(4, .int (v4 + (-1))), (3, .int (I 75 v3.toNatClampNeg)), (0, .ref (ga g 73)), (2, .int v2)] dX1_wordTo_42 rfl rfl (Nat.le_of_ble_eq_true rfl) rfl ?_
    refine a_goto 27 dX1_wordTo_45 rfl ?_
    exact a_sub [2, 3, 1, 0] rfl hv
def VC_X1_wordTo (g : GT) (d : Nat) (v1 : Int32) (v2 : Int32) (I : IT) (J : JT) (P : Int32 → IT → JT → Prop) : Prop :=
  ((v2 < 0 → P (-4) I J) ∧ (¬ v2 < 0 → (vp_in v1 192 ∧ ((v2 < (I 77 v1.toNatClampNeg) → (vp_in v1 192 ∧ (Lp_X1_wordTo_27 g d v2 v1 (I 77 v1.toNatClampNeg) I J P))) ∧ (¬ v2 < (I 77 v1.toNatClampNeg) → P (-4) I J)))))
set_option maxRecDepth 4000 in
theorem w_X1_wordTo {g : GT} {d : Nat} {v1 : Int32} {v2 : Int32} {I : IT} {J : JT} {P : Int32 → IT → JT → Prop} (hv : VC_X1_wordTo g d v1 v2 I J P) : SemI g d M_X1_wordTo [.ref (ga g 73), .int v1, .int v2] I J P := by
  unfold VC_X1_wordTo at hv
  refine sem_intro (by decide +kernel) rfl (Nat.le_of_ble_eq_true rfl) ?_
  show AW _ 0 0 0 [(0, .ref (ga g 73)), (1, .int v1), (2, .int v2)] [] (cW g I J)
  refine a_iload_n 2 dX1_wordTo_0 rfl rfl ?_
  refine a_if_lt 14 dX1_wordTo_1 rfl (fun hc => ?_) (fun hc => ?_)
  · replace hv := hv.1 hc
    refine a_bipush (v := (-4)) dX1_wordTo_14 (by decide) ?_
    exact a_iret rfl dX1_wordTo_16 hv
  · replace hv := hv.2 hc
    refine a_iload_n 2 dX1_wordTo_4 rfl rfl ?_
    refine a_aload_n 0 dX1_wordTo_5 rfl rfl ?_
    refine a_getR (r := 77) G_X1_21 sh_73 rfl dX1_wordTo_6 ?_
    refine a_iload_n 1 dX1_wordTo_9 rfl rfl ?_
    refine a_iald sh_77 hv.1 dX1_wordTo_10 ?_
    replace hv := hv.2
    refine a_icmp_lt 17 dX1_wordTo_11 rfl (fun hc => ?_) (fun hc => ?_)
    · replace hv := hv.1 hc
      refine a_iload_n 1 dX1_wordTo_17 rfl rfl ?_
      refine a_istore_n [(3, .int v1), (0, .ref (ga g 73)), (1, .int v1), (2, .int v2)] dX1_wordTo_18 rfl (Nat.le_of_ble_eq_true rfl) rfl ?_
      refine a_aload_n 1 dX1_wordTo_19 rfl rfl ?_
      refine a_getR (r := 77) G_X1_21 sh_73 rfl dX1_wordTo_20 ?_
      refine a_iload_n 2 dX1_wordTo_23 rfl rfl ?_
      refine a_iald sh_77 hv.1 dX1_wordTo_24 ?_
      replace hv := hv.2
      refine a_istore [(4, .int (I 77 v1.toNatClampNeg)), (3, .int v1), (0, .ref (ga g 73)), (1, .int v1), (2, .int v2)] dX1_wordTo_25 (Nat.le_of_ble_eq_true rfl) rfl ?_
      exact a_sub [2, 4, 1, 0] rfl hv
    · replace hv := hv.2 hc
      refine a_bipush (v := (-4)) dX1_wordTo_14 (by decide) ?_
      exact a_iret rfl dX1_wordTo_16 hv
def VC_X2_become (g : GT) (d : Nat) (o0 : Nat) (o1 : Nat) (I : IT) (J : JT) (P : IT → JT → Prop) : Prop :=
  (SemV g (d - 1) M_X3_become [.ref (ga g (o0 + 1)), .ref (ga g (o1 + 1))] I J (fun I8 J8 => P (sI (sI (cI (cI (cI (cI (cI I8 (o1 + 3) (o0 + 3) 0 0 6) (o1 + 4) (o0 + 4) 0 0 6) (o1 + 5) (o0 + 5) 0 0 6) (o1 + 6) (o0 + 6) 0 0 6) (o1 + 7) (o0 + 7) 0 0 4) o0 6 ((cI (cI (cI (cI (cI I8 (o1 + 3) (o0 + 3) 0 0 6) (o1 + 4) (o0 + 4) 0 0 6) (o1 + 5) (o0 + 5) 0 0 6) (o1 + 6) (o0 + 6) 0 0 6) (o1 + 7) (o0 + 7) 0 0 4) o1 6)) o0 7 ((sI (cI (cI (cI (cI (cI I8 (o1 + 3) (o0 + 3) 0 0 6) (o1 + 4) (o0 + 4) 0 0 6) (o1 + 5) (o0 + 5) 0 0 6) (o1 + 6) (o0 + 6) 0 0 6) (o1 + 7) (o0 + 7) 0 0 4) o0 6 ((cI (cI (cI (cI (cI I8 (o1 + 3) (o0 + 3) 0 0 6) (o1 + 4) (o0 + 4) 0 0 6) (o1 + 5) (o0 + 5) 0 0 6) (o1 + 6) (o0 + 6) 0 0 6) (o1 + 7) (o0 + 7) 0 0 4) o1 6)) o1 7)) J8))
set_option maxRecDepth 4000 in
theorem w_X2_become {g : GT} {d : Nat} {o0 : Nat} {o1 : Nat} {I : IT} {J : JT} {P : IT → JT → Prop} (ho0 : isF o0) (ho1 : isF o1) (hd : 1 ≤ d) (hv : VC_X2_become g d o0 o1 I J P) : SemV g d M_X2_become [.ref (ga g o0), .ref (ga g o1)] I J P := by
  unfold VC_X2_become at hv
  refine sem_intro (by decide +kernel) rfl (Nat.le_of_ble_eq_true rfl) ?_
  show AW _ 0 0 0 [(0, .ref (ga g o0)), (1, .ref (ga g o1))] [] (cW g I J)
  refine a_aload_n 0 dX2_become_0 rfl rfl ?_
  refine a_getR (r := (o0 + 1)) G_X2_12 ho0.1 rfl dX2_become_1 ?_
  refine a_aload_n 1 dX2_become_4 rfl rfl ?_
  refine a_getR (r := (o1 + 1)) G_X2_12 ho1.1 rfl dX2_become_5 ?_
  refine c_VV (As := [.ref (ga g (o1 + 1))]) (rest := []) hv K_X2_41 (isF_sea ho0).1 rfl rfl rfl (Nat.le_of_ble_eq_true rfl) (rok (by omega) (Nat.le_of_ble_eq_true rfl)) ⟨Nat.zero_le _, Nat.zero_le _⟩ dX2_become_8 (fun I8 J8 hv => ?_)
  refine a_aload_n 1 dX2_become_11 rfl rfl ?_
  refine a_getR (r := (o1 + 3)) G_X2_18 ho1.1 rfl dX2_become_12 ?_
  refine a_iconst (v := 0) dX2_become_15 (by decide) ?_
  refine a_aload_n 0 dX2_become_16 rfl rfl ?_
  refine a_getR (r := (o0 + 3)) G_X2_18 ho0.1 rfl dX2_become_17 ?_
  refine a_iconst (v := 0) dX2_become_20 (by decide) ?_
  refine a_bipush (v := 6) dX2_become_21 (by decide) ?_
  refine a_copyI ak_X2_45 ho1.2.2.2.1 ho0.2.2.2.1 (by decide) (by decide) (by decide) (by decide) (by decide) (rok1 hd) dX2_become_23 ?_
  refine a_aload_n 1 dX2_become_26 rfl rfl ?_
  refine a_getR (r := (o1 + 4)) G_X2_22 ho1.1 rfl dX2_become_27 ?_
  refine a_iconst (v := 0) dX2_become_30 (by decide) ?_
  refine a_aload_n 0 dX2_become_31 rfl rfl ?_
  refine a_getR (r := (o0 + 4)) G_X2_22 ho0.1 rfl dX2_become_32 ?_
  refine a_iconst (v := 0) dX2_become_35 (by decide) ?_
  refine a_bipush (v := 6) dX2_become_36 (by decide) ?_
  refine a_copyI ak_X2_45 ho1.2.2.2.2.1 ho0.2.2.2.2.1 (by decide) (by decide) (by decide) (by decide) (by decide) (rok1 hd) dX2_become_38 ?_
  refine a_aload_n 1 dX2_become_41 rfl rfl ?_
  refine a_getR (r := (o1 + 5)) G_X2_25 ho1.1 rfl dX2_become_42 ?_
  refine a_iconst (v := 0) dX2_become_45 (by decide) ?_
  refine a_aload_n 0 dX2_become_46 rfl rfl ?_
  refine a_getR (r := (o0 + 5)) G_X2_25 ho0.1 rfl dX2_become_47 ?_
  refine a_iconst (v := 0) dX2_become_50 (by decide) ?_
  refine a_bipush (v := 6) dX2_become_51 (by decide) ?_
  refine a_copyI ak_X2_45 ho1.2.2.2.2.2.1 ho0.2.2.2.2.2.1 (by decide) (by decide) (by decide) (by decide) (by decide) (rok1 hd) dX2_become_53 ?_
  refine a_aload_n 1 dX2_become_56 rfl rfl ?_
  refine a_getR (r := (o1 + 6)) G_X2_28 ho1.1 rfl dX2_become_57 ?_
  refine a_iconst (v := 0) dX2_become_60 (by decide) ?_
  refine a_aload_n 0 dX2_become_61 rfl rfl ?_
  refine a_getR (r := (o0 + 6)) G_X2_28 ho0.1 rfl dX2_become_62 ?_
  refine a_iconst (v := 0) dX2_become_65 (by decide) ?_
  refine a_bipush (v := 6) dX2_become_66 (by decide) ?_
  refine a_copyI ak_X2_45 ho1.2.2.2.2.2.2.1 ho0.2.2.2.2.2.2.1 (by decide) (by decide) (by decide) (by decide) (by decide) (rok1 hd) dX2_become_68 ?_
  refine a_aload_n 1 dX2_become_71 rfl rfl ?_
  refine a_getR (r := (o1 + 7)) G_X2_31 ho1.1 rfl dX2_become_72 ?_
  refine a_iconst (v := 0) dX2_become_75 (by decide) ?_
  refine a_aload_n 0 dX2_become_76 rfl rfl ?_
  refine a_getR (r := (o0 + 7)) G_X2_31 ho0.1 rfl dX2_become_77 ?_
  refine a_iconst (v := 0) dX2_become_80 (by decide) ?_
  refine a_iconst (v := 4) dX2_become_81 (by decide) ?_
  refine a_copyI ak_X2_45 ho1.2.2.2.2.2.2.2 ho0.2.2.2.2.2.2.2 (by decide) (by decide) (by decide) (by decide) (by decide) (rok1 hd) dX2_become_82 ?_
  refine a_aload_n 0 dX2_become_85 rfl rfl ?_
  refine a_aload_n 1 dX2_become_86 rfl rfl ?_
  refine a_getI G_X2_34 ho1.1 rfl dX2_become_87 ?_
  refine a_putI H_X2_34 ho0.1 rfl rfl rfl dX2_become_90 ?_
  refine a_aload_n 0 dX2_become_93 rfl rfl ?_
  refine a_aload_n 1 dX2_become_94 rfl rfl ?_
  refine a_getI G_X2_38 ho1.1 rfl dX2_become_95 ?_
  refine a_putI H_X2_38 ho0.1 rfl rfl rfl dX2_become_98 ?_
  exact a_vret rfl dX2_become_101 hv
def VC_X2_empty (g : GT) (d : Nat) (o0 : Nat) (I : IT) (J : JT) (P : IT → JT → Prop) : Prop :=
  (SemV g (d - 1) M_X3_empty [.ref (ga g (o0 + 1))] I J (fun I4 J4 => P (sI (sI I4 o0 6 0) o0 7 0) J4))
set_option maxRecDepth 4000 in
theorem w_X2_empty {g : GT} {d : Nat} {o0 : Nat} {I : IT} {J : JT} {P : IT → JT → Prop} (ho0 : isF o0) (hd : 1 ≤ d) (hv : VC_X2_empty g d o0 I J P) : SemV g d M_X2_empty [.ref (ga g o0)] I J P := by
  unfold VC_X2_empty at hv
  refine sem_intro (by decide +kernel) rfl (Nat.le_of_ble_eq_true rfl) ?_
  show AW _ 0 0 0 [(0, .ref (ga g o0))] [] (cW g I J)
  refine a_aload_n 0 dX2_empty_0 rfl rfl ?_
  refine a_getR (r := (o0 + 1)) G_X2_12 ho0.1 rfl dX2_empty_1 ?_
  refine c_VV (As := []) (rest := []) hv K_X2_51 (isF_sea ho0).1 rfl rfl rfl (Nat.le_of_ble_eq_true rfl) (rok (by omega) (Nat.le_of_ble_eq_true rfl)) ⟨Nat.zero_le _, Nat.zero_le _⟩ dX2_empty_4 (fun I4 J4 hv => ?_)
  refine a_aload_n 0 dX2_empty_7 rfl rfl ?_
  refine a_iconst (v := 0) dX2_empty_8 (by decide) ?_
  refine a_putI H_X2_34 ho0.1 rfl rfl rfl dX2_empty_9 ?_
  refine a_aload_n 0 dX2_empty_12 rfl rfl ?_
  refine a_iconst (v := 0) dX2_empty_13 (by decide) ?_
  refine a_putI H_X2_38 ho0.1 rfl rfl rfl dX2_empty_14 ?_
  exact a_vret rfl dX2_empty_17 hv
def VC_X2_stands (g : GT) (d : Nat) (o0 : Nat) (I : IT) (J : JT) (P : Bool → IT → JT → Prop) : Prop :=
  (((I o0 6) ≤ 0 → P false I J) ∧ (¬ (I o0 6) ≤ 0 → P true I J))
set_option maxRecDepth 4000 in
theorem w_X2_stands {g : GT} {d : Nat} {o0 : Nat} {I : IT} {J : JT} {P : Bool → IT → JT → Prop} (ho0 : isF o0) (hv : VC_X2_stands g d o0 I J P) : SemZ g d M_X2_stands [.ref (ga g o0)] I J P := by
  unfold VC_X2_stands at hv
  refine sem_intro (by decide +kernel) rfl (Nat.le_of_ble_eq_true rfl) ?_
  show AW _ 0 0 0 [(0, .ref (ga g o0))] [] (cW g I J)
  refine a_aload_n 0 dX2_stands_0 rfl rfl ?_
  refine a_getI G_X2_34 ho0.1 rfl dX2_stands_1 ?_
  refine a_if_le 11 dX2_stands_4 rfl (fun hc => ?_) (fun hc => ?_)
  · replace hv := hv.1 hc
    refine a_iconst (v := 0) dX2_stands_11 (by decide) ?_
    exact a_zret _ false (by decide) rfl dX2_stands_12 hv
  · replace hv := hv.2 hc
    refine a_iconst (v := 1) dX2_stands_7 (by decide) ?_
    refine a_goto 12 dX2_stands_8 rfl ?_
    exact a_zret _ true (by decide) rfl dX2_stands_12 hv
def VC_X2_hasShip (g : GT) (d : Nat) (o0 : Nat) (v1 : Int32) (I : IT) (J : JT) (P : Bool → IT → JT → Prop) : Prop :=
  ((v1 < 0 → P false I J) ∧ (¬ v1 < 0 → (((I o0 6) ≤ v1 → P false I J) ∧ (¬ (I o0 6) ≤ v1 → P true I J))))
set_option maxRecDepth 4000 in
theorem w_X2_hasShip {g : GT} {d : Nat} {o0 : Nat} {v1 : Int32} {I : IT} {J : JT} {P : Bool → IT → JT → Prop} (ho0 : isF o0) (hv : VC_X2_hasShip g d o0 v1 I J P) : SemZ g d M_X2_hasShip [.ref (ga g o0), .int v1] I J P := by
  unfold VC_X2_hasShip at hv
  refine sem_intro (by decide +kernel) rfl (Nat.le_of_ble_eq_true rfl) ?_
  show AW _ 0 0 0 [(0, .ref (ga g o0)), (1, .int v1)] [] (cW g I J)
  refine a_iload_n 1 dX2_hasShip_0 rfl rfl ?_
  refine a_if_lt 16 dX2_hasShip_1 rfl (fun hc => ?_) (fun hc => ?_)
  · replace hv := hv.1 hc
    refine a_iconst (v := 0) dX2_hasShip_16 (by decide) ?_
    exact a_zret _ false (by decide) rfl dX2_hasShip_17 hv
  · replace hv := hv.2 hc
    refine a_iload_n 1 dX2_hasShip_4 rfl rfl ?_
    refine a_aload_n 0 dX2_hasShip_5 rfl rfl ?_
    refine a_getI G_X2_34 ho0.1 rfl dX2_hasShip_6 ?_
    refine a_icmp_ge 16 dX2_hasShip_9 rfl (fun hc => ?_) (fun hc => ?_)
    · replace hv := hv.1 hc
      refine a_iconst (v := 0) dX2_hasShip_16 (by decide) ?_
      exact a_zret _ false (by decide) rfl dX2_hasShip_17 hv
    · replace hv := hv.2 hc
      refine a_iconst (v := 1) dX2_hasShip_12 (by decide) ?_
      refine a_goto 17 dX2_hasShip_13 rfl ?_
      exact a_zret _ true (by decide) rfl dX2_hasShip_17 hv
def VC_X2_everyShip (g : GT) (d : Nat) (o0 : Nat) (I : IT) (J : JT) (P : Int32 → IT → JT → Prop) : Prop :=
  P ((1 <<< ((I o0 6) &&& 31)) - 1) I J
set_option maxRecDepth 4000 in
theorem w_X2_everyShip {g : GT} {d : Nat} {o0 : Nat} {I : IT} {J : JT} {P : Int32 → IT → JT → Prop} (ho0 : isF o0) (hv : VC_X2_everyShip g d o0 I J P) : SemI g d M_X2_everyShip [.ref (ga g o0)] I J P := by
  unfold VC_X2_everyShip at hv
  refine sem_intro (by decide +kernel) rfl (Nat.le_of_ble_eq_true rfl) ?_
  show AW _ 0 0 0 [(0, .ref (ga g o0))] [] (cW g I J)
  refine a_iconst (v := 1) dX2_everyShip_0 (by decide) ?_
  refine a_aload_n 0 dX2_everyShip_1 rfl rfl ?_
  refine a_getI G_X2_34 ho0.1 rfl dX2_everyShip_2 ?_
  refine a_ishl dX2_everyShip_5 ?_
  refine a_iconst (v := 1) dX2_everyShip_6 (by decide) ?_
  refine a_isub dX2_everyShip_7 ?_
  exact a_iret rfl dX2_everyShip_8 hv
def VC_X2_doubtOf (g : GT) (d : Nat) (o0 : Nat) (v1 : Int32) (v2 : Int32) (I : IT) (J : JT) (P : Int32 → IT → JT → Prop) : Prop :=
  (vp_in v1 6 ∧ (vp_in v1 6 ∧ (SemI g (d - 1) M_X7_doubtBy [.int (I (o0 + 3) v1.toNatClampNeg), .int (I (o0 + 6) v1.toNatClampNeg), .int v2] I J (fun r13 I13 J13 => P r13 I13 J13))))
set_option maxRecDepth 4000 in
theorem w_X2_doubtOf {g : GT} {d : Nat} {o0 : Nat} {v1 : Int32} {v2 : Int32} {I : IT} {J : JT} {P : Int32 → IT → JT → Prop} (ho0 : isF o0) (hd : 1 ≤ d) (hv : VC_X2_doubtOf g d o0 v1 v2 I J P) : SemI g d M_X2_doubtOf [.ref (ga g o0), .int v1, .int v2] I J P := by
  unfold VC_X2_doubtOf at hv
  refine sem_intro (by decide +kernel) rfl (Nat.le_of_ble_eq_true rfl) ?_
  show AW _ 0 0 0 [(0, .ref (ga g o0)), (1, .int v1), (2, .int v2)] [] (cW g I J)
  refine a_aload_n 0 dX2_doubtOf_0 rfl rfl ?_
  refine a_getR (r := (o0 + 3)) G_X2_18 ho0.1 rfl dX2_doubtOf_1 ?_
  refine a_iload_n 1 dX2_doubtOf_4 rfl rfl ?_
  refine a_iald ho0.2.2.2.1 hv.1 dX2_doubtOf_5 ?_
  replace hv := hv.2
  refine a_aload_n 0 dX2_doubtOf_6 rfl rfl ?_
  refine a_getR (r := (o0 + 6)) G_X2_28 ho0.1 rfl dX2_doubtOf_7 ?_
  refine a_iload_n 1 dX2_doubtOf_10 rfl rfl ?_
  refine a_iald ho0.2.2.2.2.2.2.1 hv.1 dX2_doubtOf_11 ?_
  replace hv := hv.2
  refine a_iload_n 2 dX2_doubtOf_12 rfl rfl ?_
  refine c_NI (As := [.int (I (o0 + 3) v1.toNatClampNeg), .int (I (o0 + 6) v1.toNatClampNeg), .int v2]) (rest := []) hv K_X2_54 rfl rfl (Nat.le_of_ble_eq_true rfl) (rok (by omega) (Nat.le_of_ble_eq_true rfl)) ⟨Nat.zero_le _, Nat.zero_le _⟩ dX2_doubtOf_13 (fun r13 I13 J13 hv => ?_)
  exact a_iret rfl dX2_doubtOf_16 hv
def VC_X2_trusts (g : GT) (d : Nat) (o0 : Nat) (v1 : Int32) (v2 : Int32) (I : IT) (J : JT) (P : Bool → IT → JT → Prop) : Prop :=
  (vp_in v2 4 ∧ (vp_in v1 6 ∧ (vp_in v1 6 ∧ (SemI g (d - 1) M_X7_doubtBy [.int (I (o0 + 3) v1.toNatClampNeg), .int (I (o0 + 6) v1.toNatClampNeg), .int v2] I J (fun r19 I19 J19 => (((I (o0 + 7) v2.toNatClampNeg) < r19 → P false I19 J19) ∧ (¬ (I (o0 + 7) v2.toNatClampNeg) < r19 → P true I19 J19)))))))
set_option maxRecDepth 4000 in
theorem w_X2_trusts {g : GT} {d : Nat} {o0 : Nat} {v1 : Int32} {v2 : Int32} {I : IT} {J : JT} {P : Bool → IT → JT → Prop} (ho0 : isF o0) (hd : 1 ≤ d) (hv : VC_X2_trusts g d o0 v1 v2 I J P) : SemZ g d M_X2_trusts [.ref (ga g o0), .int v1, .int v2] I J P := by
  unfold VC_X2_trusts at hv
  refine sem_intro (by decide +kernel) rfl (Nat.le_of_ble_eq_true rfl) ?_
  show AW _ 0 0 0 [(0, .ref (ga g o0)), (1, .int v1), (2, .int v2)] [] (cW g I J)
  refine a_aload_n 0 dX2_trusts_0 rfl rfl ?_
  refine a_getR (r := (o0 + 7)) G_X2_31 ho0.1 rfl dX2_trusts_1 ?_
  refine a_iload_n 2 dX2_trusts_4 rfl rfl ?_
  refine a_iald ho0.2.2.2.2.2.2.2 hv.1 dX2_trusts_5 ?_
  replace hv := hv.2
  refine a_aload_n 0 dX2_trusts_6 rfl rfl ?_
  refine a_getR (r := (o0 + 3)) G_X2_18 ho0.1 rfl dX2_trusts_7 ?_
  refine a_iload_n 1 dX2_trusts_10 rfl rfl ?_
  refine a_iald ho0.2.2.2.1 hv.1 dX2_trusts_11 ?_
  replace hv := hv.2
  refine a_aload_n 0 dX2_trusts_12 rfl rfl ?_
  refine a_getR (r := (o0 + 6)) G_X2_28 ho0.1 rfl dX2_trusts_13 ?_
  refine a_iload_n 1 dX2_trusts_16 rfl rfl ?_
  refine a_iald ho0.2.2.2.2.2.2.1 hv.1 dX2_trusts_17 ?_
  replace hv := hv.2
  refine a_iload_n 2 dX2_trusts_18 rfl rfl ?_
  refine c_NI (As := [.int (I (o0 + 3) v1.toNatClampNeg), .int (I (o0 + 6) v1.toNatClampNeg), .int v2]) (rest := [.int (I (o0 + 7) v2.toNatClampNeg)]) hv K_X2_54 rfl rfl (Nat.le_of_ble_eq_true rfl) (rok (by omega) (Nat.le_of_ble_eq_true rfl)) ⟨Nat.zero_le _, Nat.zero_le _⟩ dX2_trusts_19 (fun r19 I19 J19 hv => ?_)
  refine a_icmp_lt 29 dX2_trusts_22 rfl (fun hc => ?_) (fun hc => ?_)
  · replace hv := hv.1 hc
    refine a_iconst (v := 0) dX2_trusts_29 (by decide) ?_
    exact a_zret _ false (by decide) rfl dX2_trusts_30 hv
  · replace hv := hv.2 hc
    refine a_iconst (v := 1) dX2_trusts_25 (by decide) ?_
    refine a_goto 30 dX2_trusts_26 rfl ?_
    exact a_zret _ true (by decide) rfl dX2_trusts_30 hv
def Lp_X2_allWorm_4 (g : GT) (d : Nat) (o0 : Nat) (v1 : Int32) (v2 : Int32) (I : IT) (J : JT) (P : Int32 → IT → JT → Prop) : Prop := AW (kM g d M_X2_allWorm 0 0 (qI g P)) 0 0 4 [(0, .ref (ga g o0)), (1, .int v1), (2, .int v2)] [] (cW g I J)
def VC_X2_allWorm_4 (g : GT) (d : Nat) (o0 : Nat) (v1 : Int32) (v2 : Int32) (I : IT) (J : JT) (P : Int32 → IT → JT → Prop) : Prop :=
  (((I o0 6) ≤ v2 → P v1 I J) ∧ (¬ (I o0 6) ≤ v2 → (vp_in v2 6 ∧ (Lp_X2_allWorm_4 g d o0 (v1 + (I (o0 + 6) v2.toNatClampNeg)) (v2 + 1) I J P))))
set_option maxRecDepth 4000 in
theorem w_X2_allWorm_4 {g : GT} {d : Nat} {o0 : Nat} {v1 : Int32} {v2 : Int32} {I : IT} {J : JT} {P : Int32 → IT → JT → Prop} (ho0 : isF o0) (hv : VC_X2_allWorm_4 g d o0 v1 v2 I J P) : Lp_X2_allWorm_4 g d o0 v1 v2 I J P := by
  unfold VC_X2_allWorm_4 at hv
  unfold Lp_X2_allWorm_4
  refine a_iload_n 2 dX2_allWorm_4 rfl rfl ?_
  refine a_aload_n 0 dX2_allWorm_5 rfl rfl ?_
  refine a_getI G_X2_34 ho0.1 rfl dX2_allWorm_6 ?_
  refine a_icmp_ge 27 dX2_allWorm_9 rfl (fun hc => ?_) (fun hc => ?_)
  · replace hv := hv.1 hc
    refine a_iload_n 1 dX2_allWorm_27 rfl rfl ?_
    exact a_iret rfl dX2_allWorm_28 hv
  · replace hv := hv.2 hc
    refine a_iload_n 1 dX2_allWorm_12 rfl rfl ?_
    refine a_aload_n 0 dX2_allWorm_13 rfl rfl ?_
    refine a_getR (r := (o0 + 6)) G_X2_28 ho0.1 rfl dX2_allWorm_14 ?_
    refine a_iload_n 2 dX2_allWorm_17 rfl rfl ?_
    refine a_iald ho0.2.2.2.2.2.2.1 hv.1 dX2_allWorm_18 ?_
    replace hv := hv.2
    refine a_iadd dX2_allWorm_19 ?_
    refine a_istore_n [(1, .int (v1 + (I (o0 + 6) v2.toNatClampNeg))), (0, .ref (ga g o0)), (2, .int v2)] dX2_allWorm_20 rfl (Nat.le_of_ble_eq_true rfl) rfl ?_
    refine a_iinc 2 (v2 + 1) [(2, .int (v2 + 1)), (1, .int (v1 + (I (o0 + 6) v2.toNatClampNeg))), (0, .ref (ga g o0))] dX2_allWorm_21 rfl rfl (Nat.le_of_ble_eq_true rfl) rfl ?_
    refine a_goto 4 dX2_allWorm_24 rfl ?_
    exact a_sub [2, 1, 0] rfl hv
def VC_X2_allWorm (g : GT) (d : Nat) (o0 : Nat) (I : IT) (J : JT) (P : Int32 → IT → JT → Prop) : Prop :=
  (Lp_X2_allWorm_4 g d o0 0 0 I J P)
set_option maxRecDepth 4000 in
theorem w_X2_allWorm {g : GT} {d : Nat} {o0 : Nat} {I : IT} {J : JT} {P : Int32 → IT → JT → Prop} (ho0 : isF o0) (hv : VC_X2_allWorm g d o0 I J P) : SemI g d M_X2_allWorm [.ref (ga g o0)] I J P := by
  unfold VC_X2_allWorm at hv
  refine sem_intro (by decide +kernel) rfl (Nat.le_of_ble_eq_true rfl) ?_
  show AW _ 0 0 0 [(0, .ref (ga g o0))] [] (cW g I J)
  refine a_iconst (v := 0) dX2_allWorm_0 (by decide) ?_
  refine a_istore_n [(1, .int 0), (0, .ref (ga g o0))] dX2_allWorm_1 rfl (Nat.le_of_ble_eq_true rfl) rfl ?_
  refine a_iconst (v := 0) dX2_allWorm_2 (by decide) ?_
  refine a_istore_n [(2, .int 0), (1, .int 0), (0, .ref (ga g o0))] dX2_allWorm_3 rfl (Nat.le_of_ble_eq_true rfl) rfl ?_
  exact a_sub [2, 1, 0] rfl hv
def Lp_X2_allCredit_4 (g : GT) (d : Nat) (o0 : Nat) (v1 : Int32) (v2 : Int32) (I : IT) (J : JT) (P : Int32 → IT → JT → Prop) : Prop := AW (kM g d M_X2_allCredit 0 0 (qI g P)) 0 0 4 [(0, .ref (ga g o0)), (1, .int v1), (2, .int v2)] [] (cW g I J)
def VC_X2_allCredit_4 (g : GT) (d : Nat) (o0 : Nat) (v1 : Int32) (v2 : Int32) (I : IT) (J : JT) (P : Int32 → IT → JT → Prop) : Prop :=
  ((4 ≤ v2 → P v1 I J) ∧ (¬ 4 ≤ v2 → (vp_in v2 4 ∧ (Lp_X2_allCredit_4 g d o0 (v1 + (I (o0 + 7) v2.toNatClampNeg)) (v2 + 1) I J P))))
set_option maxRecDepth 4000 in
theorem w_X2_allCredit_4 {g : GT} {d : Nat} {o0 : Nat} {v1 : Int32} {v2 : Int32} {I : IT} {J : JT} {P : Int32 → IT → JT → Prop} (ho0 : isF o0) (hv : VC_X2_allCredit_4 g d o0 v1 v2 I J P) : Lp_X2_allCredit_4 g d o0 v1 v2 I J P := by
  unfold VC_X2_allCredit_4 at hv
  unfold Lp_X2_allCredit_4
  refine a_iload_n 2 dX2_allCredit_4 rfl rfl ?_
  refine a_iconst (v := 4) dX2_allCredit_5 (by decide) ?_
  refine a_icmp_ge 24 dX2_allCredit_6 rfl (fun hc => ?_) (fun hc => ?_)
  · replace hv := hv.1 hc
    refine a_iload_n 1 dX2_allCredit_24 rfl rfl ?_
    exact a_iret rfl dX2_allCredit_25 hv
  · replace hv := hv.2 hc
    refine a_iload_n 1 dX2_allCredit_9 rfl rfl ?_
    refine a_aload_n 0 dX2_allCredit_10 rfl rfl ?_
    refine a_getR (r := (o0 + 7)) G_X2_31 ho0.1 rfl dX2_allCredit_11 ?_
    refine a_iload_n 2 dX2_allCredit_14 rfl rfl ?_
    refine a_iald ho0.2.2.2.2.2.2.2 hv.1 dX2_allCredit_15 ?_
    replace hv := hv.2
    refine a_iadd dX2_allCredit_16 ?_
    refine a_istore_n [(1, .int (v1 + (I (o0 + 7) v2.toNatClampNeg))), (0, .ref (ga g o0)), (2, .int v2)] dX2_allCredit_17 rfl (Nat.le_of_ble_eq_true rfl) rfl ?_
    refine a_iinc 2 (v2 + 1) [(2, .int (v2 + 1)), (1, .int (v1 + (I (o0 + 7) v2.toNatClampNeg))), (0, .ref (ga g o0))] dX2_allCredit_18 rfl rfl (Nat.le_of_ble_eq_true rfl) rfl ?_
    refine a_goto 4 dX2_allCredit_21 rfl ?_
    exact a_sub [2, 1, 0] rfl hv
def VC_X2_allCredit (g : GT) (d : Nat) (o0 : Nat) (I : IT) (J : JT) (P : Int32 → IT → JT → Prop) : Prop :=
  (Lp_X2_allCredit_4 g d o0 0 0 I J P)
set_option maxRecDepth 4000 in
theorem w_X2_allCredit {g : GT} {d : Nat} {o0 : Nat} {I : IT} {J : JT} {P : Int32 → IT → JT → Prop} (ho0 : isF o0) (hv : VC_X2_allCredit g d o0 I J P) : SemI g d M_X2_allCredit [.ref (ga g o0)] I J P := by
  unfold VC_X2_allCredit at hv
  refine sem_intro (by decide +kernel) rfl (Nat.le_of_ble_eq_true rfl) ?_
  show AW _ 0 0 0 [(0, .ref (ga g o0))] [] (cW g I J)
  refine a_iconst (v := 0) dX2_allCredit_0 (by decide) ?_
  refine a_istore_n [(1, .int 0), (0, .ref (ga g o0))] dX2_allCredit_1 rfl (Nat.le_of_ble_eq_true rfl) rfl ?_
  refine a_iconst (v := 0) dX2_allCredit_2 (by decide) ?_
  refine a_istore_n [(2, .int 0), (1, .int 0), (0, .ref (ga g o0))] dX2_allCredit_3 rfl (Nat.le_of_ble_eq_true rfl) rfl ?_
  exact a_sub [2, 1, 0] rfl hv
def Lp_X2_harboured_4 (g : GT) (d : Nat) (o0 : Nat) (v1 : Int32) (v2 : Int32) (I : IT) (J : JT) (P : Int32 → IT → JT → Prop) : Prop := AW (kM g d M_X2_harboured 0 0 (qI g P)) 0 0 4 [(0, .ref (ga g o0)), (1, .int v1), (2, .int v2)] [] (cW g I J)
def VC_X2_harboured_4 (g : GT) (d : Nat) (o0 : Nat) (v1 : Int32) (v2 : Int32) (I : IT) (J : JT) (P : Int32 → IT → JT → Prop) : Prop :=
  (((I o0 6) ≤ v2 → P v1 I J) ∧ (¬ (I o0 6) ≤ v2 → (vp_in v2 6 ∧ (SemI g (d - 1) M_X3_at [.ref (ga g (o0 + 1)), .int (I (o0 + 4) v2.toNatClampNeg)] I J (fun r22 I22 J22 => ((¬ r22 = 2 → (Lp_X2_harboured_4 g d o0 v1 (v2 + 1) I22 J22 P)) ∧ (r22 = 2 → (Lp_X2_harboured_4 g d o0 (v1 ||| (1 <<< (v2 &&& 31))) (v2 + 1) I22 J22 P))))))))
set_option maxRecDepth 4000 in
theorem w_X2_harboured_4 {g : GT} {d : Nat} {o0 : Nat} {v1 : Int32} {v2 : Int32} {I : IT} {J : JT} {P : Int32 → IT → JT → Prop} (ho0 : isF o0) (hd : 1 ≤ d) (hv : VC_X2_harboured_4 g d o0 v1 v2 I J P) : Lp_X2_harboured_4 g d o0 v1 v2 I J P := by
  unfold VC_X2_harboured_4 at hv
  unfold Lp_X2_harboured_4
  refine a_iload_n 2 dX2_harboured_4 rfl rfl ?_
  refine a_aload_n 0 dX2_harboured_5 rfl rfl ?_
  refine a_getI G_X2_34 ho0.1 rfl dX2_harboured_6 ?_
  refine a_icmp_ge 41 dX2_harboured_9 rfl (fun hc => ?_) (fun hc => ?_)
  · replace hv := hv.1 hc
    refine a_iload_n 1 dX2_harboured_41 rfl rfl ?_
    exact a_iret rfl dX2_harboured_42 hv
  · replace hv := hv.2 hc
    refine a_aload_n 0 dX2_harboured_12 rfl rfl ?_
    refine a_getR (r := (o0 + 1)) G_X2_12 ho0.1 rfl dX2_harboured_13 ?_
    refine a_aload_n 0 dX2_harboured_16 rfl rfl ?_
    refine a_getR (r := (o0 + 4)) G_X2_22 ho0.1 rfl dX2_harboured_17 ?_
    refine a_iload_n 2 dX2_harboured_20 rfl rfl ?_
    refine a_iald ho0.2.2.2.2.1 hv.1 dX2_harboured_21 ?_
    replace hv := hv.2
    refine c_VI (As := [.int (I (o0 + 4) v2.toNatClampNeg)]) (rest := []) hv K_X2_58 (isF_sea ho0).1 rfl rfl rfl (Nat.le_of_ble_eq_true rfl) (rok (by omega) (Nat.le_of_ble_eq_true rfl)) ⟨Nat.zero_le _, Nat.zero_le _⟩ dX2_harboured_22 (fun r22 I22 J22 hv => ?_)
    refine a_iconst (v := 2) dX2_harboured_25 (by decide) ?_
    refine a_icmp_ne 35 dX2_harboured_26 rfl (fun hc => ?_) (fun hc => ?_)
    · replace hv := hv.1 hc
      refine a_iinc 2 (v2 + 1) [(2, .int (v2 + 1)), (0, .ref (ga g o0)), (1, .int v1)] dX2_harboured_35 rfl rfl (Nat.le_of_ble_eq_true rfl) rfl ?_
      refine a_goto 4 dX2_harboured_38 rfl ?_
      exact a_sub [1, 2, 0] rfl hv
    · replace hv := hv.2 hc
      refine a_iload_n 1 dX2_harboured_29 rfl rfl ?_
      refine a_iconst (v := 1) dX2_harboured_30 (by decide) ?_
      refine a_iload_n 2 dX2_harboured_31 rfl rfl ?_
      refine a_ishl dX2_harboured_32 ?_
      refine a_ior dX2_harboured_33 ?_
      refine a_istore_n [(1, .int (v1 ||| (1 <<< (v2 &&& 31)))), (0, .ref (ga g o0)), (2, .int v2)] dX2_harboured_34 rfl (Nat.le_of_ble_eq_true rfl) rfl ?_
      refine a_iinc 2 (v2 + 1) [(2, .int (v2 + 1)), (1, .int (v1 ||| (1 <<< (v2 &&& 31)))), (0, .ref (ga g o0))] dX2_harboured_35 rfl rfl (Nat.le_of_ble_eq_true rfl) rfl ?_
      refine a_goto 4 dX2_harboured_38 rfl ?_
      exact a_sub [2, 1, 0] rfl hv
def VC_X2_harboured (g : GT) (d : Nat) (o0 : Nat) (I : IT) (J : JT) (P : Int32 → IT → JT → Prop) : Prop :=
  (Lp_X2_harboured_4 g d o0 0 0 I J P)
set_option maxRecDepth 4000 in
theorem w_X2_harboured {g : GT} {d : Nat} {o0 : Nat} {I : IT} {J : JT} {P : Int32 → IT → JT → Prop} (ho0 : isF o0) (hv : VC_X2_harboured g d o0 I J P) : SemI g d M_X2_harboured [.ref (ga g o0)] I J P := by
  unfold VC_X2_harboured at hv
  refine sem_intro (by decide +kernel) rfl (Nat.le_of_ble_eq_true rfl) ?_
  show AW _ 0 0 0 [(0, .ref (ga g o0))] [] (cW g I J)
  refine a_iconst (v := 0) dX2_harboured_0 (by decide) ?_
  refine a_istore_n [(1, .int 0), (0, .ref (ga g o0))] dX2_harboured_1 rfl (Nat.le_of_ble_eq_true rfl) rfl ?_
  refine a_iconst (v := 0) dX2_harboured_2 (by decide) ?_
  refine a_istore_n [(2, .int 0), (1, .int 0), (0, .ref (ga g o0))] dX2_harboured_3 rfl (Nat.le_of_ble_eq_true rfl) rfl ?_
  exact a_sub [2, 1, 0] rfl hv
def Lp_X2_heardBy_8 (g : GT) (d : Nat) (o0 : Nat) (v2 : Int32) (v3 : Int32) (v4 : Int32) (v5 : Int32) (I : IT) (J : JT) (P : Int32 → IT → JT → Prop) : Prop := AW (kM g d M_X2_heardBy 0 0 (qI g P)) 0 0 8 [(0, .ref (ga g o0)), (2, .int v2), (3, .int v3), (4, .int v4), (5, .int v5)] [] (cW g I J)
def VC_X2_heardBy_8 (g : GT) (d : Nat) (o0 : Nat) (v2 : Int32) (v3 : Int32) (v4 : Int32) (v5 : Int32) (I : IT) (J : JT) (P : Int32 → IT → JT → Prop) : Prop :=
  (((I o0 6) ≤ v5 → P v4 I J) ∧ (¬ (I o0 6) ≤ v5 → (SemI g (d - 1) M_X2_nearAny [.ref (ga g o0), .int v4, .int v3] I J (fun r23 I23 J23 => (Lp_X2_heardBy_8 g d o0 v2 v3 (v4 ||| (r23 &&& v2)) (v5 + 1) I23 J23 P)))))
set_option maxRecDepth 4000 in
theorem w_X2_heardBy_8 {g : GT} {d : Nat} {o0 : Nat} {v2 : Int32} {v3 : Int32} {v4 : Int32} {v5 : Int32} {I : IT} {J : JT} {P : Int32 → IT → JT → Prop} (ho0 : isF o0) (hd : 1 ≤ d) (hv : VC_X2_heardBy_8 g d o0 v2 v3 v4 v5 I J P) : Lp_X2_heardBy_8 g d o0 v2 v3 v4 v5 I J P := by
  unfold VC_X2_heardBy_8 at hv
  unfold Lp_X2_heardBy_8
  refine a_iload 4 dX2_heardBy_8 rfl ?_
  refine a_aload_n 0 dX2_heardBy_10 rfl rfl ?_
  refine a_getI G_X2_34 ho0.1 rfl dX2_heardBy_11 ?_
  refine a_icmp_ge 37 dX2_heardBy_14 rfl (fun hc => ?_) (fun hc => ?_)
  · replace hv := hv.1 hc
    refine a_iload 3 dX2_heardBy_37 rfl ?_
    exact a_iret rfl dX2_heardBy_39 hv
  · replace hv := hv.2 hc
    refine a_iload 3 dX2_heardBy_17 rfl ?_
    refine a_aload_n 0 dX2_heardBy_19 rfl rfl ?_
    refine a_iload 3 dX2_heardBy_20 rfl ?_
    refine a_iload_n 2 dX2_heardBy_22 rfl rfl ?_
    refine c_VI (As := [.int v4, .int v3]) (rest := [.int v4]) hv K_X2_62 ho0.1 rfl rfl rfl (Nat.le_of_ble_eq_true rfl) (rok (by omega) (Nat.le_of_ble_eq_true rfl)) ⟨Nat.zero_le _, Nat.zero_le _⟩ dX2_heardBy_23 (fun r23 I23 J23 hv => ?_)
    refine a_iload_n 1 dX2_heardBy_26 rfl rfl ?_
    refine a_iand dX2_heardBy_27 ?_
    refine a_ior dX2_heardBy_28 ?_
    refine a_istore [(4, .int (v4 ||| (r23 &&& v2))), (0, .ref (ga g o0)), (2, .int v2), (3, .int v3), (5, .int v5)] dX2_heardBy_29 (Nat.le_of_ble_eq_true rfl) rfl ?_
    refine a_iinc 4 (v5 + 1) [(5, .int (v5 + 1)), (4, .int (v4 ||| (r23 &&& v2))), (0, .ref (ga g o0)), (2, .int v2), (3, .int v3)] dX2_heardBy_31 rfl rfl (Nat.le_of_ble_eq_true rfl) rfl ?_
    refine a_goto 8 dX2_heardBy_34 rfl ?_
    exact a_sub [2, 3, 4, 1, 0] rfl hv
def VC_X2_heardBy (g : GT) (d : Nat) (o0 : Nat) (v1 : Int32) (v2 : Int32) (v3 : Int32) (I : IT) (J : JT) (P : Int32 → IT → JT → Prop) : Prop :=
  (Lp_X2_heardBy_8 g d o0 v2 v3 (1 <<< (v1 &&& 31)) 1 I J P)
set_option maxRecDepth 4000 in
theorem w_X2_heardBy {g : GT} {d : Nat} {o0 : Nat} {v1 : Int32} {v2 : Int32} {v3 : Int32} {I : IT} {J : JT} {P : Int32 → IT → JT → Prop} (ho0 : isF o0) (hv : VC_X2_heardBy g d o0 v1 v2 v3 I J P) : SemI g d M_X2_heardBy [.ref (ga g o0), .int v1, .int v2, .int v3] I J P := by
  unfold VC_X2_heardBy at hv
  refine sem_intro (by decide +kernel) rfl (Nat.le_of_ble_eq_true rfl) ?_
  show AW _ 0 0 0 [(0, .ref (ga g o0)), (1, .int v1), (2, .int v2), (3, .int v3)] [] (cW g I J)
  refine a_iconst (v := 1) dX2_heardBy_0 (by decide) ?_
  refine a_iload_n 1 dX2_heardBy_1 rfl rfl ?_
  refine a_ishl dX2_heardBy_2 ?_
  refine a_istore [(4, .int (1 <<< (v1 &&& 31))), (0, .ref (ga g o0)), (1, .int v1), (2, .int v2), (3, .int v3)] dX2_heardBy_3 (Nat.le_of_ble_eq_true rfl) rfl ?_
  refine a_iconst (v := 1) dX2_heardBy_5 (by decide) ?_
  refine a_istore [(5, .int 1), (4, .int (1 <<< (v1 &&& 31))), (0, .ref (ga g o0)), (1, .int v1), (2, .int v2), (3, .int v3)] dX2_heardBy_6 (Nat.le_of_ble_eq_true rfl) rfl ?_
  exact a_sub [2, 4, 5, 1, 0] rfl hv
def Lp_X2_nearAny_5 (g : GT) (d : Nat) (o0 : Nat) (v1 : Int32) (v2 : Int32) (v3 : Int32) (v4 : Int32) (I : IT) (J : JT) (P : Int32 → IT → JT → Prop) : Prop := AW (kM g d M_X2_nearAny 0 0 (qI g P)) 0 0 5 [(0, .ref (ga g o0)), (1, .int v1), (2, .int v2), (3, .int v3), (4, .int v4)] [] (cW g I J)
def Lp_X2_nearAny_17 (g : GT) (d : Nat) (o0 : Nat) (v1 : Int32) (v2 : Int32) (v3 : Int32) (v4 : Int32) (v5 : Int32) (I : IT) (J : JT) (P : Int32 → IT → JT → Prop) : Prop := AW (kM g d M_X2_nearAny 0 0 (qI g P)) 0 0 17 [(0, .ref (ga g o0)), (1, .int v1), (2, .int v2), (3, .int v3), (4, .int v4), (5, .int v5)] [] (cW g I J)
def VC_X2_nearAny_17 (g : GT) (d : Nat) (o0 : Nat) (v1 : Int32) (v2 : Int32) (v3 : Int32) (v4 : Int32) (v5 : Int32) (I : IT) (J : JT) (P : Int32 → IT → JT → Prop) : Prop :=
  (((I o0 6) ≤ v5 → (Lp_X2_nearAny_5 g d o0 v1 v2 v3 (v4 + 1) I J P)) ∧ (¬ (I o0 6) ≤ v5 → (((v1 &&& (1 <<< (v4 &&& 31))) = 0 → (Lp_X2_nearAny_17 g d o0 v1 v2 v3 v4 (v5 + 1) I J P)) ∧ (¬ (v1 &&& (1 <<< (v4 &&& 31))) = 0 → (vp_in v4 6 ∧ (vp_in v5 6 ∧ (SemI g (d - 1) M_X3_away [.int (I (o0 + 4) v4.toNatClampNeg), .int (I (o0 + 4) v5.toNatClampNeg)] I J (fun r49 I49 J49 => ((v2 < r49 → (Lp_X2_nearAny_17 g d o0 v1 v2 v3 v4 (v5 + 1) I49 J49 P)) ∧ (¬ v2 < r49 → (Lp_X2_nearAny_17 g d o0 v1 v2 (v3 ||| (1 <<< (v5 &&& 31))) v4 (v5 + 1) I49 J49 P)))))))))))
set_option maxRecDepth 4000 in
theorem w_X2_nearAny_17 {g : GT} {d : Nat} {o0 : Nat} {v1 : Int32} {v2 : Int32} {v3 : Int32} {v4 : Int32} {v5 : Int32} {I : IT} {J : JT} {P : Int32 → IT → JT → Prop} (ho0 : isF o0) (hd : 1 ≤ d) (hv : VC_X2_nearAny_17 g d o0 v1 v2 v3 v4 v5 I J P) : Lp_X2_nearAny_17 g d o0 v1 v2 v3 v4 v5 I J P := by
  unfold VC_X2_nearAny_17 at hv
  unfold Lp_X2_nearAny_17
  refine a_iload 5 dX2_nearAny_17 rfl ?_
  refine a_aload_n 0 dX2_nearAny_19 rfl rfl ?_
  refine a_getI G_X2_34 ho0.1 rfl dX2_nearAny_20 ?_
  refine a_icmp_ge 69 dX2_nearAny_23 rfl (fun hc => ?_) (fun hc => ?_)
  · replace hv := hv.1 hc
    refine a_iinc 4 (v4 + 1) [(4, .int (v4 + 1)), (0, .ref (ga g o0)), (1, .int v1), (2, .int v2), (3, .int v3), (5, .int v5)] dX2_nearAny_69 rfl rfl (Nat.le_of_ble_eq_true rfl) rfl ?_
    refine a_goto 5 dX2_nearAny_72 rfl ?_
    exact a_sub [1, 2, 3, 4, 0] rfl hv
  · replace hv := hv.2 hc
    refine a_iload_n 1 dX2_nearAny_26 rfl rfl ?_
    refine a_iconst (v := 1) dX2_nearAny_27 (by decide) ?_
    refine a_iload 4 dX2_nearAny_28 rfl ?_
    refine a_ishl dX2_nearAny_30 ?_
    refine a_iand dX2_nearAny_31 ?_
    refine a_if_eq 63 dX2_nearAny_32 rfl (fun hc => ?_) (fun hc => ?_)
    · replace hv := hv.1 hc
      refine a_iinc 5 (v5 + 1) [(5, .int (v5 + 1)), (0, .ref (ga g o0)), (1, .int v1), (2, .int v2), (3, .int v3), (4, .int v4)] dX2_nearAny_63 rfl rfl (Nat.le_of_ble_eq_true rfl) rfl ?_
      refine a_goto 17 dX2_nearAny_66 rfl ?_
      exact a_sub [1, 2, 3, 4, 5, 0] rfl hv
    · replace hv := hv.2 hc
      refine a_aload_n 0 dX2_nearAny_35 rfl rfl ?_
      refine a_getR (r := (o0 + 4)) G_X2_22 ho0.1 rfl dX2_nearAny_36 ?_
      refine a_iload 4 dX2_nearAny_39 rfl ?_
      refine a_iald ho0.2.2.2.2.1 hv.1 dX2_nearAny_41 ?_
      replace hv := hv.2
      refine a_aload_n 0 dX2_nearAny_42 rfl rfl ?_
      refine a_getR (r := (o0 + 4)) G_X2_22 ho0.1 rfl dX2_nearAny_43 ?_
      refine a_iload 5 dX2_nearAny_46 rfl ?_
      refine a_iald ho0.2.2.2.2.1 hv.1 dX2_nearAny_48 ?_
      replace hv := hv.2
      refine c_SI (As := [.int (I (o0 + 4) v4.toNatClampNeg), .int (I (o0 + 4) v5.toNatClampNeg)]) (rest := []) hv K_X2_66 rfl rfl (Nat.le_of_ble_eq_true rfl) (rok (by omega) (Nat.le_of_ble_eq_true rfl)) ⟨Nat.zero_le _, Nat.zero_le _⟩ dX2_nearAny_49 (fun r49 I49 J49 hv => ?_)
      refine a_iload_n 2 dX2_nearAny_52 rfl rfl ?_
      refine a_icmp_gt 63 dX2_nearAny_53 rfl (fun hc => ?_) (fun hc => ?_)
      · replace hv := hv.1 hc
        refine a_iinc 5 (v5 + 1) [(5, .int (v5 + 1)), (0, .ref (ga g o0)), (1, .int v1), (2, .int v2), (3, .int v3), (4, .int v4)] dX2_nearAny_63 rfl rfl (Nat.le_of_ble_eq_true rfl) rfl ?_
        refine a_goto 17 dX2_nearAny_66 rfl ?_
        exact a_sub [1, 2, 3, 4, 5, 0] rfl hv
      · replace hv := hv.2 hc
        refine a_iload_n 3 dX2_nearAny_56 rfl rfl ?_
        refine a_iconst (v := 1) dX2_nearAny_57 (by decide) ?_
        refine a_iload 5 dX2_nearAny_58 rfl ?_
        refine a_ishl dX2_nearAny_60 ?_
        refine a_ior dX2_nearAny_61 ?_
        refine a_istore_n [(3, .int (v3 ||| (1 <<< (v5 &&& 31)))), (0, .ref (ga g o0)), (1, .int v1), (2, .int v2), (4, .int v4), (5, .int v5)] dX2_nearAny_62 rfl (Nat.le_of_ble_eq_true rfl) rfl ?_
        refine a_iinc 5 (v5 + 1) [(5, .int (v5 + 1)), (3, .int (v3 ||| (1 <<< (v5 &&& 31)))), (0, .ref (ga g o0)), (1, .int v1), (2, .int v2), (4, .int v4)] dX2_nearAny_63 rfl rfl (Nat.le_of_ble_eq_true rfl) rfl ?_
        refine a_goto 17 dX2_nearAny_66 rfl ?_
        exact a_sub [2, 3, 4, 1, 5, 0] rfl hv
def VC_X2_nearAny_5 (g : GT) (d : Nat) (o0 : Nat) (v1 : Int32) (v2 : Int32) (v3 : Int32) (v4 : Int32) (I : IT) (J : JT) (P : Int32 → IT → JT → Prop) : Prop :=
  (((I o0 6) ≤ v4 → P v3 I J) ∧ (¬ (I o0 6) ≤ v4 → (Lp_X2_nearAny_17 g d o0 v1 v2 v3 v4 0 I J P)))
set_option maxRecDepth 4000 in
theorem w_X2_nearAny_5 {g : GT} {d : Nat} {o0 : Nat} {v1 : Int32} {v2 : Int32} {v3 : Int32} {v4 : Int32} {I : IT} {J : JT} {P : Int32 → IT → JT → Prop} (ho0 : isF o0) (hv : VC_X2_nearAny_5 g d o0 v1 v2 v3 v4 I J P) : Lp_X2_nearAny_5 g d o0 v1 v2 v3 v4 I J P := by
  unfold VC_X2_nearAny_5 at hv
  unfold Lp_X2_nearAny_5
  refine a_iload 4 dX2_nearAny_5 rfl ?_
  refine a_aload_n 0 dX2_nearAny_7 rfl rfl ?_
  refine a_getI G_X2_34 ho0.1 rfl dX2_nearAny_8 ?_
  refine a_icmp_ge 75 dX2_nearAny_11 rfl (fun hc => ?_) (fun hc => ?_)
  · replace hv := hv.1 hc
    refine a_iload_n 3 dX2_nearAny_75 rfl rfl ?_
    exact a_iret rfl dX2_nearAny_76 hv
  · replace hv := hv.2 hc
    refine a_iconst (v := 0) dX2_nearAny_14 (by decide) ?_
    refine a_istore [(5, .int 0), (0, .ref (ga g o0)), (1, .int v1), (2, .int v2), (3, .int v3), (4, .int v4)] dX2_nearAny_15 (Nat.le_of_ble_eq_true rfl) rfl ?_
    exact a_sub [1, 2, 3, 4, 5, 0] rfl hv
def VC_X2_nearAny (g : GT) (d : Nat) (o0 : Nat) (v1 : Int32) (v2 : Int32) (I : IT) (J : JT) (P : Int32 → IT → JT → Prop) : Prop :=
  (Lp_X2_nearAny_5 g d o0 v1 v2 0 0 I J P)
set_option maxRecDepth 4000 in
theorem w_X2_nearAny {g : GT} {d : Nat} {o0 : Nat} {v1 : Int32} {v2 : Int32} {I : IT} {J : JT} {P : Int32 → IT → JT → Prop} (ho0 : isF o0) (hv : VC_X2_nearAny g d o0 v1 v2 I J P) : SemI g d M_X2_nearAny [.ref (ga g o0), .int v1, .int v2] I J P := by
  unfold VC_X2_nearAny at hv
  refine sem_intro (by decide +kernel) rfl (Nat.le_of_ble_eq_true rfl) ?_
  show AW _ 0 0 0 [(0, .ref (ga g o0)), (1, .int v1), (2, .int v2)] [] (cW g I J)
  refine a_iconst (v := 0) dX2_nearAny_0 (by decide) ?_
  refine a_istore_n [(3, .int 0), (0, .ref (ga g o0)), (1, .int v1), (2, .int v2)] dX2_nearAny_1 rfl (Nat.le_of_ble_eq_true rfl) rfl ?_
  refine a_iconst (v := 0) dX2_nearAny_2 (by decide) ?_
  refine a_istore [(4, .int 0), (3, .int 0), (0, .ref (ga g o0)), (1, .int v1), (2, .int v2)] dX2_nearAny_3 (Nat.le_of_ble_eq_true rfl) rfl ?_
  exact a_sub [2, 3, 4, 1, 0] rfl hv
def Lp_X2_isLink_14 (g : GT) (d : Nat) (o0 : Nat) (v1 : Int32) (v2 : Int32) (v3 : Int32) (v4 : Int32) (I : IT) (J : JT) (P : Bool → IT → JT → Prop) : Prop := AW (kM g d M_X2_isLink 0 0 (qZ g P)) 0 0 14 [(0, .ref (ga g o0)), (1, .int v1), (2, .int v2), (3, .int v3), (4, .int v4)] [] (cW g I J)
def VC_X2_isLink_14 (g : GT) (d : Nat) (o0 : Nat) (v1 : Int32) (v2 : Int32) (v3 : Int32) (v4 : Int32) (I : IT) (J : JT) (P : Bool → IT → JT → Prop) : Prop :=
  (((I o0 6) ≤ v4 → P false I J) ∧ (¬ (I o0 6) ≤ v4 → ((v4 = v1 → (Lp_X2_isLink_14 g d o0 v1 v2 v3 (v4 + 1) I J P)) ∧ (¬ v4 = v1 → (SemI g (d - 1) M_X2_everyShip [.ref (ga g o0)] I J (fun r33 I33 J33 => (SemI g (d - 1) M_X2_heardBy [.ref (ga g o0), .int v4, .int r33, .int v2] I33 J33 (fun r37 I37 J37 => (SemI g (d - 1) M_X2_heardBy [.ref (ga g o0), .int v4, .int v3, .int v2] I37 J37 (fun r47 I47 J47 => (((r37 &&& v3) = r47 → (Lp_X2_isLink_14 g d o0 v1 v2 v3 (v4 + 1) I47 J47 P)) ∧ (¬ (r37 &&& v3) = r47 → P true I47 J47))))))))))))
set_option maxRecDepth 4000 in
theorem w_X2_isLink_14 {g : GT} {d : Nat} {o0 : Nat} {v1 : Int32} {v2 : Int32} {v3 : Int32} {v4 : Int32} {I : IT} {J : JT} {P : Bool → IT → JT → Prop} (ho0 : isF o0) (hd : 1 ≤ d) (hv : VC_X2_isLink_14 g d o0 v1 v2 v3 v4 I J P) : Lp_X2_isLink_14 g d o0 v1 v2 v3 v4 I J P := by
  unfold VC_X2_isLink_14 at hv
  unfold Lp_X2_isLink_14
  refine a_iload 4 dX2_isLink_14 rfl ?_
  refine a_aload_n 0 dX2_isLink_16 rfl rfl ?_
  refine a_getI G_X2_34 ho0.1 rfl dX2_isLink_17 ?_
  refine a_icmp_ge 61 dX2_isLink_20 rfl (fun hc => ?_) (fun hc => ?_)
  · replace hv := hv.1 hc
    refine a_iconst (v := 0) dX2_isLink_61 (by decide) ?_
    exact a_zret _ false (by decide) rfl dX2_isLink_62 hv
  · replace hv := hv.2 hc
    refine a_iload 4 dX2_isLink_23 rfl ?_
    refine a_iload_n 1 dX2_isLink_25 rfl rfl ?_
    refine a_icmp_eq 55 dX2_isLink_26 rfl (fun hc => ?_) (fun hc => ?_)
    · replace hv := hv.1 hc
      refine a_iinc 4 (v4 + 1) [(4, .int (v4 + 1)), (0, .ref (ga g o0)), (1, .int v1), (2, .int v2), (3, .int v3)] dX2_isLink_55 rfl rfl (Nat.le_of_ble_eq_true rfl) rfl ?_
      refine a_goto 14 dX2_isLink_58 rfl ?_
      exact a_sub [1, 2, 3, 4, 0] rfl hv
    · replace hv := hv.2 hc
      refine a_aload_n 0 dX2_isLink_29 rfl rfl ?_
      refine a_iload 4 dX2_isLink_30 rfl ?_
      refine a_aload_n 0 dX2_isLink_32 rfl rfl ?_
      refine c_VI (As := []) (rest := [.int v4, .ref (ga g o0)]) hv K_X2_69 ho0.1 rfl rfl rfl (Nat.le_of_ble_eq_true rfl) (rok (by omega) (Nat.le_of_ble_eq_true rfl)) ⟨Nat.zero_le _, Nat.zero_le _⟩ dX2_isLink_33 (fun r33 I33 J33 hv => ?_)
      refine a_iload_n 2 dX2_isLink_36 rfl rfl ?_
      refine c_VI (As := [.int v4, .int r33, .int v2]) (rest := []) hv K_X2_73 ho0.1 rfl rfl rfl (Nat.le_of_ble_eq_true rfl) (rok (by omega) (Nat.le_of_ble_eq_true rfl)) ⟨Nat.zero_le _, Nat.zero_le _⟩ dX2_isLink_37 (fun r37 I37 J37 hv => ?_)
      refine a_iload_n 3 dX2_isLink_40 rfl rfl ?_
      refine a_iand dX2_isLink_41 ?_
      refine a_aload_n 0 dX2_isLink_42 rfl rfl ?_
      refine a_iload 4 dX2_isLink_43 rfl ?_
      refine a_iload_n 3 dX2_isLink_45 rfl rfl ?_
      refine a_iload_n 2 dX2_isLink_46 rfl rfl ?_
      refine c_VI (As := [.int v4, .int v3, .int v2]) (rest := [.int (r37 &&& v3)]) hv K_X2_73 ho0.1 rfl rfl rfl (Nat.le_of_ble_eq_true rfl) (rok (by omega) (Nat.le_of_ble_eq_true rfl)) ⟨Nat.zero_le _, Nat.zero_le _⟩ dX2_isLink_47 (fun r47 I47 J47 hv => ?_)
      refine a_icmp_eq 55 dX2_isLink_50 rfl (fun hc => ?_) (fun hc => ?_)
      · replace hv := hv.1 hc
        refine a_iinc 4 (v4 + 1) [(4, .int (v4 + 1)), (0, .ref (ga g o0)), (1, .int v1), (2, .int v2), (3, .int v3)] dX2_isLink_55 rfl rfl (Nat.le_of_ble_eq_true rfl) rfl ?_
        refine a_goto 14 dX2_isLink_58 rfl ?_
        exact a_sub [1, 2, 3, 4, 0] rfl hv
      · replace hv := hv.2 hc
        refine a_iconst (v := 1) dX2_isLink_53 (by decide) ?_
        exact a_zret _ true (by decide) rfl dX2_isLink_54 hv
def VC_X2_isLink (g : GT) (d : Nat) (o0 : Nat) (v1 : Int32) (v2 : Int32) (I : IT) (J : JT) (P : Bool → IT → JT → Prop) : Prop :=
  (SemI g (d - 1) M_X2_everyShip [.ref (ga g o0)] I J (fun r1 I1 J1 => (Lp_X2_isLink_14 g d o0 v1 v2 (r1 &&& ((1 <<< (v1 &&& 31)) ^^^ (-1))) 0 I1 J1 P)))
set_option maxRecDepth 4000 in
theorem w_X2_isLink {g : GT} {d : Nat} {o0 : Nat} {v1 : Int32} {v2 : Int32} {I : IT} {J : JT} {P : Bool → IT → JT → Prop} (ho0 : isF o0) (hd : 1 ≤ d) (hv : VC_X2_isLink g d o0 v1 v2 I J P) : SemZ g d M_X2_isLink [.ref (ga g o0), .int v1, .int v2] I J P := by
  unfold VC_X2_isLink at hv
  refine sem_intro (by decide +kernel) rfl (Nat.le_of_ble_eq_true rfl) ?_
  show AW _ 0 0 0 [(0, .ref (ga g o0)), (1, .int v1), (2, .int v2)] [] (cW g I J)
  refine a_aload_n 0 dX2_isLink_0 rfl rfl ?_
  refine c_VI (As := []) (rest := []) hv K_X2_69 ho0.1 rfl rfl rfl (Nat.le_of_ble_eq_true rfl) (rok (by omega) (Nat.le_of_ble_eq_true rfl)) ⟨Nat.zero_le _, Nat.zero_le _⟩ dX2_isLink_1 (fun r1 I1 J1 hv => ?_)
  refine a_iconst (v := 1) dX2_isLink_4 (by decide) ?_
  refine a_iload_n 1 dX2_isLink_5 rfl rfl ?_
  refine a_ishl dX2_isLink_6 ?_
  refine a_iconst (v := (-1)) dX2_isLink_7 (by decide) ?_
  refine a_ixor dX2_isLink_8 ?_
  refine a_iand dX2_isLink_9 ?_
  refine a_istore_n [(3, .int (r1 &&& ((1 <<< (v1 &&& 31)) ^^^ (-1)))), (0, .ref (ga g o0)), (1, .int v1), (2, .int v2)] dX2_isLink_10 rfl (Nat.le_of_ble_eq_true rfl) rfl ?_
  refine a_iconst (v := 0) dX2_isLink_11 (by decide) ?_
  refine a_istore [(4, .int 0), (3, .int (r1 &&& ((1 <<< (v1 &&& 31)) ^^^ (-1)))), (0, .ref (ga g o0)), (1, .int v1), (2, .int v2)] dX2_isLink_12 (Nat.le_of_ble_eq_true rfl) rfl ?_
  exact a_sub [2, 3, 4, 1, 0] rfl hv
