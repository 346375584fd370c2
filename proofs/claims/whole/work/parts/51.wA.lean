def VC_X3_become (g : GT) (d : Nat) (o0 : Nat) (o1 : Nat) (I : IT) (J : JT) (P : IT → JT → Prop) : Prop :=
  P (sI (sI (cI I (o1 + 1) (o0 + 1) 0 0 48) o0 1 ((cI I (o1 + 1) (o0 + 1) 0 0 48) o1 1)) o0 2 ((sI (cI I (o1 + 1) (o0 + 1) 0 0 48) o0 1 ((cI I (o1 + 1) (o0 + 1) 0 0 48) o1 1)) o1 2)) J
set_option maxRecDepth 4000 in
theorem w_X3_become {g : GT} {d : Nat} {o0 : Nat} {o1 : Nat} {I : IT} {J : JT} {P : IT → JT → Prop} (ho0 : isSea o0) (ho1 : isSea o1) (hd : 1 ≤ d) (hv : VC_X3_become g d o0 o1 I J P) : SemV g d M_X3_become [.ref (ga g o0), .ref (ga g o1)] I J P := by
  unfold VC_X3_become at hv
  refine sem_intro (by decide +kernel) rfl (Nat.le_of_ble_eq_true rfl) ?_
  show AW _ 0 0 0 [(0, .ref (ga g o0)), (1, .ref (ga g o1))] [] (cW g I J)
  refine a_aload_n 1 dX3_become_0 rfl rfl ?_
  refine a_getR (r := (o1 + 1)) G_X3_9 ho1.1 rfl dX3_become_1 ?_
  refine a_iconst (v := 0) dX3_become_4 (by decide) ?_
  refine a_aload_n 0 dX3_become_5 rfl rfl ?_
  refine a_getR (r := (o0 + 1)) G_X3_9 ho0.1 rfl dX3_become_6 ?_
  refine a_iconst (v := 0) dX3_become_9 (by decide) ?_
  refine a_aload_n 0 dX3_become_10 rfl rfl ?_
  refine a_getR (r := (o0 + 1)) G_X3_9 ho0.1 rfl dX3_become_11 ?_
  refine a_alen 48 ho0.2 (by decide) (by decide) dX3_become_14 ?_
  refine a_copyI ak_X3_22 ho1.2 ho0.2 (by decide) (by decide) (by decide) (by decide) (by decide) (rok1 hd) dX3_become_15 ?_
  refine a_aload_n 0 dX3_become_18 rfl rfl ?_
  refine a_aload_n 1 dX3_become_19 rfl rfl ?_
  refine a_getI G_X3_15 ho1.1 rfl dX3_become_20 ?_
  refine a_putI H_X3_15 ho0.1 rfl rfl rfl dX3_become_23 ?_
  refine a_aload_n 0 dX3_become_26 rfl rfl ?_
  refine a_aload_n 1 dX3_become_27 rfl rfl ?_
  refine a_getI G_X3_19 ho1.1 rfl dX3_become_28 ?_
  refine a_putI H_X3_19 ho0.1 rfl rfl rfl dX3_become_31 ?_
  exact a_vret rfl dX3_become_34 hv
def VC_X3_empty (g : GT) (d : Nat) (o0 : Nat) (I : IT) (J : JT) (P : IT → JT → Prop) : Prop :=
  P (sI (sI I o0 1 0) o0 2 0) J
set_option maxRecDepth 4000 in
theorem w_X3_empty {g : GT} {d : Nat} {o0 : Nat} {I : IT} {J : JT} {P : IT → JT → Prop} (ho0 : isSea o0) (hv : VC_X3_empty g d o0 I J P) : SemV g d M_X3_empty [.ref (ga g o0)] I J P := by
  unfold VC_X3_empty at hv
  refine sem_intro (by decide +kernel) rfl (Nat.le_of_ble_eq_true rfl) ?_
  show AW _ 0 0 0 [(0, .ref (ga g o0))] [] (cW g I J)
  refine a_aload_n 0 dX3_empty_0 rfl rfl ?_
  refine a_iconst (v := 0) dX3_empty_1 (by decide) ?_
  refine a_putI H_X3_15 ho0.1 rfl rfl rfl dX3_empty_2 ?_
  refine a_aload_n 0 dX3_empty_5 rfl rfl ?_
  refine a_iconst (v := 0) dX3_empty_6 (by decide) ?_
  refine a_putI H_X3_19 ho0.1 rfl rfl rfl dX3_empty_7 ?_
  exact a_vret rfl dX3_empty_10 hv
def VC_X3_cellOf (g : GT) (d : Nat) (v0 : Int32) (v1 : Int32) (I : IT) (J : JT) (P : Int32 → IT → JT → Prop) : Prop :=
  P ((8 * v0) + v1) I J
set_option maxRecDepth 4000 in
theorem w_X3_cellOf {g : GT} {d : Nat} {v0 : Int32} {v1 : Int32} {I : IT} {J : JT} {P : Int32 → IT → JT → Prop} (hv : VC_X3_cellOf g d v0 v1 I J P) : SemI g d M_X3_cellOf [.int v0, .int v1] I J P := by
  unfold VC_X3_cellOf at hv
  refine sem_intro (by decide +kernel) rfl (Nat.le_of_ble_eq_true rfl) ?_
  show AW _ 0 0 0 [(0, .int v0), (1, .int v1)] [] (cW g I J)
  refine a_bipush (v := 8) dX3_cellOf_0 (by decide) ?_
  refine a_iload_n 0 dX3_cellOf_2 rfl rfl ?_
  refine a_imul dX3_cellOf_3 ?_
  refine a_iload_n 1 dX3_cellOf_4 rfl rfl ?_
  refine a_iadd dX3_cellOf_5 ?_
  exact a_iret rfl dX3_cellOf_6 hv
def VC_X3_has (g : GT) (d : Nat) (o0 : Nat) (v1 : Int32) (I : IT) (J : JT) (P : Bool → IT → JT → Prop) : Prop :=
  ((v1 < 0 → P false I J) ∧ (¬ v1 < 0 → (((8 * (I o0 1)) ≤ v1 → P false I J) ∧ (¬ (8 * (I o0 1)) ≤ v1 → (((I o0 2) ≤ (v1 - v1 / 8 * 8) → P false I J) ∧ (¬ (I o0 2) ≤ (v1 - v1 / 8 * 8) → P true I J))))))
set_option maxRecDepth 4000 in
theorem w_X3_has {g : GT} {d : Nat} {o0 : Nat} {v1 : Int32} {I : IT} {J : JT} {P : Bool → IT → JT → Prop} (ho0 : isSea o0) (hv : VC_X3_has g d o0 v1 I J P) : SemZ g d M_X3_has [.ref (ga g o0), .int v1] I J P := by
  unfold VC_X3_has at hv
  refine sem_intro (by decide +kernel) rfl (Nat.le_of_ble_eq_true rfl) ?_
  show AW _ 0 0 0 [(0, .ref (ga g o0)), (1, .int v1)] [] (cW g I J)
  refine a_iload_n 1 dX3_has_0 rfl rfl ?_
  refine a_if_lt 30 dX3_has_1 rfl (fun hc => ?_) (fun hc => ?_)
  · replace hv := hv.1 hc
    refine a_iconst (v := 0) dX3_has_30 (by decide) ?_
    exact a_zret _ false (by decide) rfl dX3_has_31 hv
  · replace hv := hv.2 hc
    refine a_iload_n 1 dX3_has_4 rfl rfl ?_
    refine a_bipush (v := 8) dX3_has_5 (by decide) ?_
    refine a_aload_n 0 dX3_has_7 rfl rfl ?_
    refine a_getI G_X3_15 ho0.1 rfl dX3_has_8 ?_
    refine a_imul dX3_has_11 ?_
    refine a_icmp_ge 30 dX3_has_12 rfl (fun hc => ?_) (fun hc => ?_)
    · replace hv := hv.1 hc
      refine a_iconst (v := 0) dX3_has_30 (by decide) ?_
      exact a_zret _ false (by decide) rfl dX3_has_31 hv
    · replace hv := hv.2 hc
      refine a_iload_n 1 dX3_has_15 rfl rfl ?_
      refine a_bipush (v := 8) dX3_has_16 (by decide) ?_
      refine a_irem dX3_has_18 (by decide) ?_
      refine a_aload_n 0 dX3_has_19 rfl rfl ?_
      refine a_getI G_X3_19 ho0.1 rfl dX3_has_20 ?_
      refine a_icmp_ge 30 dX3_has_23 rfl (fun hc => ?_) (fun hc => ?_)
      · replace hv := hv.1 hc
        refine a_iconst (v := 0) dX3_has_30 (by decide) ?_
        exact a_zret _ false (by decide) rfl dX3_has_31 hv
      · replace hv := hv.2 hc
        refine a_iconst (v := 1) dX3_has_26 (by decide) ?_
        refine a_goto 31 dX3_has_27 rfl ?_
        exact a_zret _ true (by decide) rfl dX3_has_31 hv
def VC_X3_at (g : GT) (d : Nat) (o0 : Nat) (v1 : Int32) (I : IT) (J : JT) (P : Int32 → IT → JT → Prop) : Prop :=
  (SemZ g (d - 1) M_X3_has [.ref (ga g o0), .int v1] I J (fun r2 I2 J2 => ((r2 = false → P 1 I2 J2) ∧ (r2 = true → (vp_in v1 48 ∧ P (I2 (o0 + 1) v1.toNatClampNeg) I2 J2)))))
set_option maxRecDepth 4000 in
theorem w_X3_at {g : GT} {d : Nat} {o0 : Nat} {v1 : Int32} {I : IT} {J : JT} {P : Int32 → IT → JT → Prop} (ho0 : isSea o0) (hd : 1 ≤ d) (hv : VC_X3_at g d o0 v1 I J P) : SemI g d M_X3_at [.ref (ga g o0), .int v1] I J P := by
  unfold VC_X3_at at hv
  refine sem_intro (by decide +kernel) rfl (Nat.le_of_ble_eq_true rfl) ?_
  show AW _ 0 0 0 [(0, .ref (ga g o0)), (1, .int v1)] [] (cW g I J)
  refine a_aload_n 0 dX3_at_0 rfl rfl ?_
  refine a_iload_n 1 dX3_at_1 rfl rfl ?_
  refine c_VZ (As := [.int v1]) (rest := []) hv K_X3_28 ho0.1 rfl rfl rfl (Nat.le_of_ble_eq_true rfl) (rok (by omega) (Nat.le_of_ble_eq_true rfl)) ⟨Nat.zero_le _, Nat.zero_le _⟩ dX3_at_2 (fun r2 I2 J2 hv => ?_)
  refine a_ifz_eq 17 dX3_at_5 rfl (fun hc => ?_) (fun hc => ?_)
  · replace hv := hv.1 hc
    refine a_iconst (v := 1) dX3_at_17 (by decide) ?_
    exact a_iret rfl dX3_at_18 hv
  · replace hv := hv.2 hc
    refine a_aload_n 0 dX3_at_8 rfl rfl ?_
    refine a_getR (r := (o0 + 1)) G_X3_9 ho0.1 rfl dX3_at_9 ?_
    refine a_iload_n 1 dX3_at_12 rfl rfl ?_
    refine a_iald ho0.2 hv.1 dX3_at_13 ?_
    replace hv := hv.2
    refine a_goto 18 dX3_at_14 rfl ?_
    exact a_iret rfl dX3_at_18 hv
def VC_X3_ahead (g : GT) (d : Nat) (o0 : Nat) (v1 : Int32) (v2 : Int32) (I : IT) (J : JT) (P : Int32 → IT → JT → Prop) : Prop :=
  (vp_in v2 4 ∧ (vp_in v2 4 ∧ ((((v1 / 8) + (rst v2.toNatClampNeg)) < 0 → P (-4) I J) ∧ (¬ ((v1 / 8) + (rst v2.toNatClampNeg)) < 0 → (((I o0 1) ≤ ((v1 / 8) + (rst v2.toNatClampNeg)) → P (-4) I J) ∧ (¬ (I o0 1) ≤ ((v1 / 8) + (rst v2.toNatClampNeg)) → ((((v1 - v1 / 8 * 8) + (cst v2.toNatClampNeg)) < 0 → P (-4) I J) ∧ (¬ ((v1 - v1 / 8 * 8) + (cst v2.toNatClampNeg)) < 0 → ((((v1 - v1 / 8 * 8) + (cst v2.toNatClampNeg)) < (I o0 2) → (SemI g (d - 1) M_X3_cellOf [.int ((v1 / 8) + (rst v2.toNatClampNeg)), .int ((v1 - v1 / 8 * 8) + (cst v2.toNatClampNeg))] I J (fun r55 I55 J55 => (vp_in r55 48 ∧ ((¬ (I55 (o0 + 1) r55.toNatClampNeg) = 1 → P r55 I55 J55) ∧ ((I55 (o0 + 1) r55.toNatClampNeg) = 1 → P (-4) I55 J55)))))) ∧ (¬ ((v1 - v1 / 8 * 8) + (cst v2.toNatClampNeg)) < (I o0 2) → P (-4) I J))))))))))
set_option maxRecDepth 4000 in
theorem w_X3_ahead {g : GT} {d : Nat} {o0 : Nat} {v1 : Int32} {v2 : Int32} {I : IT} {J : JT} {P : Int32 → IT → JT → Prop} (ho0 : isSea o0) (hd : 1 ≤ d) (hv : VC_X3_ahead g d o0 v1 v2 I J P) : SemI g d M_X3_ahead [.ref (ga g o0), .int v1, .int v2] I J P := by
  unfold VC_X3_ahead at hv
  refine sem_intro (by decide +kernel) rfl (Nat.le_of_ble_eq_true rfl) ?_
  show AW _ 0 0 0 [(0, .ref (ga g o0)), (1, .int v1), (2, .int v2)] [] (cW g I J)
  refine a_iload_n 1 dX3_ahead_0 rfl rfl ?_
  refine a_bipush (v := 8) dX3_ahead_1 (by decide) ?_
  refine a_idiv dX3_ahead_3 (by decide) ?_
  refine a_ROW nw_ROW dX3_ahead_4 ?_
  refine a_iload_n 2 dX3_ahead_7 rfl rfl ?_
  refine a_ROWld hv.1 dX3_ahead_8 ?_
  replace hv := hv.2
  refine a_iadd dX3_ahead_9 ?_
  refine a_istore_n [(3, .int ((v1 / 8) + (rst v2.toNatClampNeg))), (0, .ref (ga g o0)), (1, .int v1), (2, .int v2)] dX3_ahead_10 rfl (Nat.le_of_ble_eq_true rfl) rfl ?_
  refine a_iload_n 2 dX3_ahead_11 rfl rfl ?_
  refine a_bipush (v := 8) dX3_ahead_12 (by decide) ?_
  refine a_irem dX3_ahead_14 (by decide) ?_
  refine a_COL nw_COL dX3_ahead_15 ?_
  refine a_iload_n 3 dX3_ahead_18 rfl rfl ?_
  refine a_COLld hv.1 dX3_ahead_19 ?_
  replace hv := hv.2
  refine a_iadd dX3_ahead_20 ?_
  refine a_istore [(4, .int ((v1 - v1 / 8 * 8) + (cst v2.toNatClampNeg))), (3, .int ((v1 / 8) + (rst v2.toNatClampNeg))), (0, .ref (ga g o0)), (1, .int v1), (2, .int v2)] dX3_ahead_21 (Nat.le_of_ble_eq_true rfl) rfl ?_
  refine a_iload_n 1 dX3_ahead_23 rfl rfl ?_
  refine a_if_lt 49 dX3_ahead_24 rfl (fun hc => ?_) (fun hc => ?_)
  · replace hv := hv.1 hc
    refine a_bipush (v := (-4)) dX3_ahead_49 (by decide) ?_
    exact a_iret rfl dX3_ahead_51 hv
  · replace hv := hv.2 hc
    refine a_iload_n 1 dX3_ahead_27 rfl rfl ?_
    refine a_aload_n 2 dX3_ahead_28 rfl rfl ?_
    refine a_getI G_X3_15 ho0.1 rfl dX3_ahead_29 ?_
    refine a_icmp_ge 49 dX3_ahead_32 rfl (fun hc => ?_) (fun hc => ?_)
    · replace hv := hv.1 hc
      refine a_bipush (v := (-4)) dX3_ahead_49 (by decide) ?_
      exact a_iret rfl dX3_ahead_51 hv
    · replace hv := hv.2 hc
      refine a_iload 0 dX3_ahead_35 rfl ?_
      refine a_if_lt 49 dX3_ahead_37 rfl (fun hc => ?_) (fun hc => ?_)
      · replace hv := hv.1 hc
        refine a_bipush (v := (-4)) dX3_ahead_49 (by decide) ?_
        exact a_iret rfl dX3_ahead_51 hv
      · replace hv := hv.2 hc
        refine a_iload 0 dX3_ahead_40 rfl ?_
        refine a_aload_n 2 dX3_ahead_42 rfl rfl ?_
        refine a_getI G_X3_19 ho0.1 rfl dX3_ahead_43 ?_
        refine a_icmp_lt 52 dX3_ahead_46 rfl (fun hc => ?_) (fun hc => ?_)
        · replace hv := hv.1 hc
          refine a_iload_n 1 dX3_ahead_52 rfl rfl ?_
          refine a_iload 0 dX3_ahead_53 rfl ?_
          refine c_SI (As := [.int ((v1 / 8) + (rst v2.toNatClampNeg)), .int ((v1 - v1 / 8 * 8) + (cst v2.toNatClampNeg))]) (rest := []) hv K_X3_38 rfl rfl (Nat.le_of_ble_eq_true rfl) (rok (by omega) (Nat.le_of_ble_eq_true rfl)) ⟨Nat.zero_le _, Nat.zero_le _⟩ dX3_ahead_55 (fun r55 I55 J55 hv => ?_)
          refine a_istore [(5, .int r55), (4, .int ((v1 - v1 / 8 * 8) + (cst v2.toNatClampNeg))), (3, .int ((v1 / 8) + (rst v2.toNatClampNeg))), (0, .ref (ga g o0)), (1, .int v1), (2, .int v2)] dX3_ahead_58 (Nat.le_of_ble_eq_true rfl) rfl ?_
          refine a_aload_n 3 dX3_ahead_60 rfl rfl ?_
          refine a_getR (r := (o0 + 1)) G_X3_9 ho0.1 rfl dX3_ahead_61 ?_
          refine a_iload 0 dX3_ahead_64 rfl ?_
          refine a_iald ho0.2 hv.1 dX3_ahead_66 ?_
          replace hv := hv.2
          refine a_iconst (v := 1) dX3_ahead_67 (by decide) ?_
          refine a_icmp_ne 76 dX3_ahead_68 rfl (fun hc => ?_) (fun hc => ?_)
          · replace hv := hv.1 hc
            refine a_iload 0 dX3_ahead_76 rfl ?_
            exact a_iret rfl dX3_ahead_78 hv
          · replace hv := hv.2 hc
            refine a_bipush (v := (-4)) dX3_ahead_71 (by decide) ?_
            refine a_goto 78 dX3_ahead_73 rfl ?_
            exact a_iret rfl dX3_ahead_78 hv
        · replace hv := hv.2 hc
          refine a_bipush (v := (-4)) dX3_ahead_49 (by decide) ?_
          exact a_iret rfl dX3_ahead_51 hv
def VC_X3_away (g : GT) (d : Nat) (v0 : Int32) (v1 : Int32) (I : IT) (J : JT) (P : Int32 → IT → JT → Prop) : Prop :=
  P ((if 0 ≤ ((v0 / 8) - (v1 / 8)) then ((v0 / 8) - (v1 / 8)) else 0 - ((v0 / 8) - (v1 / 8))) + (if 0 ≤ ((v0 - v0 / 8 * 8) - (v1 - v1 / 8 * 8)) then ((v0 - v0 / 8 * 8) - (v1 - v1 / 8 * 8)) else 0 - ((v0 - v0 / 8 * 8) - (v1 - v1 / 8 * 8)))) I J
set_option maxRecDepth 4000 in
theorem w_X3_away {g : GT} {d : Nat} {v0 : Int32} {v1 : Int32} {I : IT} {J : JT} {P : Int32 → IT → JT → Prop} (hd : 1 ≤ d) (hv : VC_X3_away g d v0 v1 I J P) : SemI g d M_X3_away [.int v0, .int v1] I J P := by
  unfold VC_X3_away at hv
  refine sem_intro (by decide +kernel) rfl (Nat.le_of_ble_eq_true rfl) ?_
  show AW _ 0 0 0 [(0, .int v0), (1, .int v1)] [] (cW g I J)
  refine a_iload_n 0 dX3_away_0 rfl rfl ?_
  refine a_bipush (v := 8) dX3_away_1 (by decide) ?_
  refine a_idiv dX3_away_3 (by decide) ?_
  refine a_iload_n 1 dX3_away_4 rfl rfl ?_
  refine a_bipush (v := 8) dX3_away_5 (by decide) ?_
  refine a_idiv dX3_away_7 (by decide) ?_
  refine a_isub dX3_away_8 ?_
  refine a_mabs K_X3_42.1.1 (rokM hd (Nat.le_of_ble_eq_true rfl)) ⟨Nat.zero_le _, Nat.zero_le _⟩ dX3_away_9 ?_
  refine a_iload_n 0 dX3_away_12 rfl rfl ?_
  refine a_bipush (v := 8) dX3_away_13 (by decide) ?_
  refine a_irem dX3_away_15 (by decide) ?_
  refine a_iload_n 1 dX3_away_16 rfl rfl ?_
  refine a_bipush (v := 8) dX3_away_17 (by decide) ?_
  refine a_irem dX3_away_19 (by decide) ?_
  refine a_isub dX3_away_20 ?_
  refine a_mabs K_X3_42.1.1 (rokM hd (Nat.le_of_ble_eq_true rfl)) ⟨Nat.zero_le _, Nat.zero_le _⟩ dX3_away_21 ?_
  refine a_iadd dX3_away_24 ?_
  exact a_iret rfl dX3_away_25 hv
def Lp_X3_harbours_4 (g : GT) (d : Nat) (o0 : Nat) (v1 : Int32) (v2 : Int32) (I : IT) (J : JT) (P : Int32 → IT → JT → Prop) : Prop := AW (kM g d M_X3_harbours 0 0 (qI g P)) 0 0 4 [(0, .ref (ga g o0)), (1, .int v1), (2, .int v2)] [] (cW g I J)
def VC_X3_harbours_4 (g : GT) (d : Nat) (o0 : Nat) (v1 : Int32) (v2 : Int32) (I : IT) (J : JT) (P : Int32 → IT → JT → Prop) : Prop :=
  ((48 ≤ v2 → P v1 I J) ∧ (¬ 48 ≤ v2 → (SemI g (d - 1) M_X3_at [.ref (ga g o0), .int v2] I J (fun r15 I15 J15 => ((¬ r15 = 2 → (Lp_X3_harbours_4 g d o0 v1 (v2 + 1) I15 J15 P)) ∧ (r15 = 2 → (Lp_X3_harbours_4 g d o0 (v1 + 1) (v2 + 1) I15 J15 P)))))))
set_option maxRecDepth 4000 in
theorem w_X3_harbours_4 {g : GT} {d : Nat} {o0 : Nat} {v1 : Int32} {v2 : Int32} {I : IT} {J : JT} {P : Int32 → IT → JT → Prop} (ho0 : isSea o0) (hd : 1 ≤ d) (hv : VC_X3_harbours_4 g d o0 v1 v2 I J P) : Lp_X3_harbours_4 g d o0 v1 v2 I J P := by
  unfold VC_X3_harbours_4 at hv
  unfold Lp_X3_harbours_4
  refine a_iload_n 2 dX3_harbours_4 rfl rfl ?_
  refine a_aload_n 0 dX3_harbours_5 rfl rfl ?_
  refine a_getR (r := (o0 + 1)) G_X3_9 ho0.1 rfl dX3_harbours_6 ?_
  refine a_alen 48 ho0.2 (by decide) (by decide) dX3_harbours_9 ?_
  refine a_icmp_ge 31 dX3_harbours_10 rfl (fun hc => ?_) (fun hc => ?_)
  · replace hv := hv.1 hc
    refine a_iload_n 1 dX3_harbours_31 rfl rfl ?_
    exact a_iret rfl dX3_harbours_32 hv
  · replace hv := hv.2 hc
    refine a_aload_n 0 dX3_harbours_13 rfl rfl ?_
    refine a_iload_n 2 dX3_harbours_14 rfl rfl ?_
    refine c_VI (As := [.int v2]) (rest := []) hv K_X3_48 ho0.1 rfl rfl rfl (Nat.le_of_ble_eq_true rfl) (rok (by omega) (Nat.le_of_ble_eq_true rfl)) ⟨Nat.zero_le _, Nat.zero_le _⟩ dX3_harbours_15 (fun r15 I15 J15 hv => ?_)
    refine a_iconst (v := 2) dX3_harbours_18 (by decide) ?_
    refine a_icmp_ne 25 dX3_harbours_19 rfl (fun hc => ?_) (fun hc => ?_)
    · replace hv := hv.1 hc
      refine a_iinc 2 (v2 + 1) [(2, .int (v2 + 1)), (0, .ref (ga g o0)), (1, .int v1)] dX3_harbours_25 rfl rfl (Nat.le_of_ble_eq_true rfl) rfl ?_
      refine a_goto 4 dX3_harbours_28 rfl ?_
      exact a_sub [1, 2, 0] rfl hv
    · replace hv := hv.2 hc
      refine a_iinc 1 (v1 + 1) [(1, .int (v1 + 1)), (0, .ref (ga g o0)), (2, .int v2)] dX3_harbours_22 rfl rfl (Nat.le_of_ble_eq_true rfl) rfl ?_
      refine a_iinc 2 (v2 + 1) [(2, .int (v2 + 1)), (1, .int (v1 + 1)), (0, .ref (ga g o0))] dX3_harbours_25 rfl rfl (Nat.le_of_ble_eq_true rfl) rfl ?_
      refine a_goto 4 dX3_harbours_28 rfl ?_
      exact a_sub [2, 1, 0] rfl hv
def VC_X3_harbours (g : GT) (d : Nat) (o0 : Nat) (I : IT) (J : JT) (P : Int32 → IT → JT → Prop) : Prop :=
  (Lp_X3_harbours_4 g d o0 0 0 I J P)
set_option maxRecDepth 4000 in
theorem w_X3_harbours {g : GT} {d : Nat} {o0 : Nat} {I : IT} {J : JT} {P : Int32 → IT → JT → Prop} (ho0 : isSea o0) (hv : VC_X3_harbours g d o0 I J P) : SemI g d M_X3_harbours [.ref (ga g o0)] I J P := by
  unfold VC_X3_harbours at hv
  refine sem_intro (by decide +kernel) rfl (Nat.le_of_ble_eq_true rfl) ?_
  show AW _ 0 0 0 [(0, .ref (ga g o0))] [] (cW g I J)
  refine a_iconst (v := 0) dX3_harbours_0 (by decide) ?_
  refine a_istore_n [(1, .int 0), (0, .ref (ga g o0))] dX3_harbours_1 rfl (Nat.le_of_ble_eq_true rfl) rfl ?_
  refine a_iconst (v := 0) dX3_harbours_2 (by decide) ?_
  refine a_istore_n [(2, .int 0), (1, .int 0), (0, .ref (ga g o0))] dX3_harbours_3 rfl (Nat.le_of_ble_eq_true rfl) rfl ?_
  exact a_sub [2, 1, 0] rfl hv
def Lp_X3_awayFromHarbour_5 (g : GT) (d : Nat) (o0 : Nat) (v1 : Int32) (v2 : Int32) (v3 : Int32) (I : IT) (J : JT) (P : Int32 → IT → JT → Prop) : Prop := AW (kM g d M_X3_awayFromHarbour 0 0 (qI g P)) 0 0 5 [(0, .ref (ga g o0)), (1, .int v1), (2, .int v2), (3, .int v3)] [] (cW g I J)
def VC_X3_awayFromHarbour_5 (g : GT) (d : Nat) (o0 : Nat) (v1 : Int32) (v2 : Int32) (v3 : Int32) (I : IT) (J : JT) (P : Int32 → IT → JT → Prop) : Prop :=
  ((48 ≤ v3 → P v2 I J) ∧ (¬ 48 ≤ v3 → (SemI g (d - 1) M_X3_at [.ref (ga g o0), .int v3] I J (fun r16 I16 J16 => ((¬ r16 = 2 → (Lp_X3_awayFromHarbour_5 g d o0 v1 v2 (v3 + 1) I16 J16 P)) ∧ (r16 = 2 → (SemI g (d - 1) M_X3_away [.int v1, .int v3] I16 J16 (fun r26 I26 J26 => (Lp_X3_awayFromHarbour_5 g d o0 v1 (if r26 < v2 then r26 else v2) (v3 + 1) I26 J26 P)))))))))
set_option maxRecDepth 4000 in
theorem w_X3_awayFromHarbour_5 {g : GT} {d : Nat} {o0 : Nat} {v1 : Int32} {v2 : Int32} {v3 : Int32} {I : IT} {J : JT} {P : Int32 → IT → JT → Prop} (ho0 : isSea o0) (hd : 1 ≤ d) (hv : VC_X3_awayFromHarbour_5 g d o0 v1 v2 v3 I J P) : Lp_X3_awayFromHarbour_5 g d o0 v1 v2 v3 I J P := by
  unfold VC_X3_awayFromHarbour_5 at hv
  unfold Lp_X3_awayFromHarbour_5
  refine a_iload_n 3 dX3_awayFromHarbour_5 rfl rfl ?_
  refine a_aload_n 0 dX3_awayFromHarbour_6 rfl rfl ?_
  refine a_getR (r := (o0 + 1)) G_X3_9 ho0.1 rfl dX3_awayFromHarbour_7 ?_
  refine a_alen 48 ho0.2 (by decide) (by decide) dX3_awayFromHarbour_10 ?_
  refine a_icmp_ge 39 dX3_awayFromHarbour_11 rfl (fun hc => ?_) (fun hc => ?_)
  · replace hv := hv.1 hc
    refine a_iload_n 2 dX3_awayFromHarbour_39 rfl rfl ?_
    exact a_iret rfl dX3_awayFromHarbour_40 hv
  · replace hv := hv.2 hc
    refine a_aload_n 0 dX3_awayFromHarbour_14 rfl rfl ?_
    refine a_iload_n 3 dX3_awayFromHarbour_15 rfl rfl ?_
    refine c_VI (As := [.int v3]) (rest := []) hv K_X3_48 ho0.1 rfl rfl rfl (Nat.le_of_ble_eq_true rfl) (rok (by omega) (Nat.le_of_ble_eq_true rfl)) ⟨Nat.zero_le _, Nat.zero_le _⟩ dX3_awayFromHarbour_16 (fun r16 I16 J16 hv => ?_)
    refine a_iconst (v := 2) dX3_awayFromHarbour_19 (by decide) ?_
    refine a_icmp_ne 33 dX3_awayFromHarbour_20 rfl (fun hc => ?_) (fun hc => ?_)
    · replace hv := hv.1 hc
      refine a_iinc 3 (v3 + 1) [(3, .int (v3 + 1)), (0, .ref (ga g o0)), (1, .int v1), (2, .int v2)] dX3_awayFromHarbour_33 rfl rfl (Nat.le_of_ble_eq_true rfl) rfl ?_
      refine a_goto 5 dX3_awayFromHarbour_36 rfl ?_
      exact a_sub [1, 2, 3, 0] rfl hv
    · replace hv := hv.2 hc
      refine a_iload_n 2 dX3_awayFromHarbour_23 rfl rfl ?_
      refine a_iload_n 1 dX3_awayFromHarbour_24 rfl rfl ?_
      refine a_iload_n 3 dX3_awayFromHarbour_25 rfl rfl ?_
      refine c_SI (As := [.int v1, .int v3]) (rest := [.int v2]) hv K_X3_51 rfl rfl (Nat.le_of_ble_eq_true rfl) (rok (by omega) (Nat.le_of_ble_eq_true rfl)) ⟨Nat.zero_le _, Nat.zero_le _⟩ dX3_awayFromHarbour_26 (fun r26 I26 J26 hv => ?_)
      refine a_mmin K_X3_54.1.1 (rokM hd (Nat.le_of_ble_eq_true rfl)) ⟨Nat.zero_le _, Nat.zero_le _⟩ dX3_awayFromHarbour_29 ?_
      refine a_istore_n [(2, .int (if r26 < v2 then r26 else v2)), (0, .ref (ga g o0)), (1, .int v1), (3, .int v3)] dX3_awayFromHarbour_32 rfl (Nat.le_of_ble_eq_true rfl) rfl ?_
      refine a_iinc 3 (v3 + 1) [(3, .int (v3 + 1)), (2, .int (if r26 < v2 then r26 else v2)), (0, .ref (ga g o0)), (1, .int v1)] dX3_awayFromHarbour_33 rfl rfl (Nat.le_of_ble_eq_true rfl) rfl ?_
      refine a_goto 5 dX3_awayFromHarbour_36 rfl ?_
      exact a_sub [2, 3, 1, 0] rfl hv
def VC_X3_awayFromHarbour (g : GT) (d : Nat) (o0 : Nat) (v1 : Int32) (I : IT) (J : JT) (P : Int32 → IT → JT → Prop) : Prop :=
  (Lp_X3_awayFromHarbour_5 g d o0 v1 14 0 I J P)
set_option maxRecDepth 4000 in
theorem w_X3_awayFromHarbour {g : GT} {d : Nat} {o0 : Nat} {v1 : Int32} {I : IT} {J : JT} {P : Int32 → IT → JT → Prop} (ho0 : isSea o0) (hv : VC_X3_awayFromHarbour g d o0 v1 I J P) : SemI g d M_X3_awayFromHarbour [.ref (ga g o0), .int v1] I J P := by
  unfold VC_X3_awayFromHarbour at hv
  refine sem_intro (by decide +kernel) rfl (Nat.le_of_ble_eq_true rfl) ?_
  show AW _ 0 0 0 [(0, .ref (ga g o0)), (1, .int v1)] [] (cW g I J)
  refine a_bipush (v := 14) dX3_awayFromHarbour_0 (by decide) ?_
  refine a_istore_n [(2, .int 14), (0, .ref (ga g o0)), (1, .int v1)] dX3_awayFromHarbour_2 rfl (Nat.le_of_ble_eq_true rfl) rfl ?_
  refine a_iconst (v := 0) dX3_awayFromHarbour_3 (by decide) ?_
  refine a_istore_n [(3, .int 0), (2, .int 14), (0, .ref (ga g o0)), (1, .int v1)] dX3_awayFromHarbour_4 rfl (Nat.le_of_ble_eq_true rfl) rfl ?_
  exact a_sub [2, 3, 1, 0] rfl hv
def VC_X4_renew (g : GT) (d : Nat) (o0 : Nat) (v1 : Int32) (v2 : Int32) (I : IT) (J : JT) (P : IT → JT → Prop) : Prop :=
  (SemV g (d - 1) M_J7_fill_d0a16 [.ref (ga g (o0 + 1)), .long 0] I J (fun I5 J5 => P (sI (sI (sI I5 o0 1 1) o0 2 v1) o0 3 v2) J5))
set_option maxRecDepth 4000 in
theorem w_X4_renew {g : GT} {d : Nat} {o0 : Nat} {v1 : Int32} {v2 : Int32} {I : IT} {J : JT} {P : IT → JT → Prop} (ho0 : isS o0) (hd : 1 ≤ d) (hv : VC_X4_renew g d o0 v1 v2 I J P) : SemV g d M_X4_renew [.ref (ga g o0), .int v1, .int v2] I J P := by
  unfold VC_X4_renew at hv
  refine sem_intro (by decide +kernel) rfl (Nat.le_of_ble_eq_true rfl) ?_
  show AW _ 0 0 0 [(0, .ref (ga g o0)), (1, .int v1), (2, .int v2)] [] (cW g I J)
  refine a_aload_n 0 dX4_renew_0 rfl rfl ?_
  refine a_getR (r := (o0 + 1)) G_X4_9 ho0.1 rfl dX4_renew_1 ?_
  refine a_lconst (v := 0) dX4_renew_4 (by decide) ?_
  refine c_SV (As := [.ref (ga g (o0 + 1)), .long 0]) (rest := []) hv K_X4_26 rfl rfl (Nat.le_of_ble_eq_true rfl) (rok (by omega) (Nat.le_of_ble_eq_true rfl)) ⟨Nat.zero_le _, Nat.zero_le _⟩ dX4_renew_5 (fun I5 J5 hv => ?_)
  refine a_aload_n 0 dX4_renew_8 rfl rfl ?_
  refine a_iconst (v := 1) dX4_renew_9 (by decide) ?_
  refine a_putI H_X4_15 ho0.1 rfl (by decide) (by decide) dX4_renew_10 ?_
  refine a_aload_n 0 dX4_renew_13 rfl rfl ?_
  refine a_iload_n 1 dX4_renew_14 rfl rfl ?_
  refine a_putI H_X4_19 ho0.1 rfl rfl rfl dX4_renew_15 ?_
  refine a_aload_n 0 dX4_renew_18 rfl rfl ?_
  refine a_iload_n 2 dX4_renew_19 rfl rfl ?_
  refine a_putI H_X4_23 ho0.1 rfl rfl rfl dX4_renew_20 ?_
  exact a_vret rfl dX4_renew_23 hv
def VC_X4_holds (g : GT) (d : Nat) (o0 : Nat) (v1 : Int32) (v2 : Int32) (I : IT) (J : JT) (P : Bool → IT → JT → Prop) : Prop :=
  ((v1 < 0 → P false I J) ∧ (¬ v1 < 0 → ((v2 < 0 → P false I J) ∧ (¬ v2 < 0 → (((I o0 3) < v2 → P false I J) ∧ (¬ (I o0 3) < v2 → ((((I o0 3) - v2) < v1 → P false I J) ∧ (¬ ((I o0 3) - v2) < v1 → P true I J))))))))
set_option maxRecDepth 4000 in
theorem w_X4_holds {g : GT} {d : Nat} {o0 : Nat} {v1 : Int32} {v2 : Int32} {I : IT} {J : JT} {P : Bool → IT → JT → Prop} (ho0 : isS o0) (hv : VC_X4_holds g d o0 v1 v2 I J P) : SemZ g d M_X4_holds [.ref (ga g o0), .int v1, .int v2] I J P := by
  unfold VC_X4_holds at hv
  refine sem_intro (by decide +kernel) rfl (Nat.le_of_ble_eq_true rfl) ?_
  show AW _ 0 0 0 [(0, .ref (ga g o0)), (1, .int v1), (2, .int v2)] [] (cW g I J)
  refine a_iload_n 1 dX4_holds_0 rfl rfl ?_
  refine a_if_lt 30 dX4_holds_1 rfl (fun hc => ?_) (fun hc => ?_)
  · replace hv := hv.1 hc
    refine a_iconst (v := 0) dX4_holds_30 (by decide) ?_
    exact a_zret _ false (by decide) rfl dX4_holds_31 hv
  · replace hv := hv.2 hc
    refine a_iload_n 2 dX4_holds_4 rfl rfl ?_
    refine a_if_lt 30 dX4_holds_5 rfl (fun hc => ?_) (fun hc => ?_)
    · replace hv := hv.1 hc
      refine a_iconst (v := 0) dX4_holds_30 (by decide) ?_
      exact a_zret _ false (by decide) rfl dX4_holds_31 hv
    · replace hv := hv.2 hc
      refine a_iload_n 2 dX4_holds_8 rfl rfl ?_
      refine a_aload_n 0 dX4_holds_9 rfl rfl ?_
      refine a_getI G_X4_23 ho0.1 rfl dX4_holds_10 ?_
      refine a_icmp_gt 30 dX4_holds_13 rfl (fun hc => ?_) (fun hc => ?_)
      · replace hv := hv.1 hc
        refine a_iconst (v := 0) dX4_holds_30 (by decide) ?_
        exact a_zret _ false (by decide) rfl dX4_holds_31 hv
      · replace hv := hv.2 hc
        refine a_iload_n 1 dX4_holds_16 rfl rfl ?_
        refine a_aload_n 0 dX4_holds_17 rfl rfl ?_
        refine a_getI G_X4_23 ho0.1 rfl dX4_holds_18 ?_
        refine a_iload_n 2 dX4_holds_21 rfl rfl ?_
        refine a_isub dX4_holds_22 ?_
        refine a_icmp_gt 30 dX4_holds_23 rfl (fun hc => ?_) (fun hc => ?_)
        · replace hv := hv.1 hc
          refine a_iconst (v := 0) dX4_holds_30 (by decide) ?_
          exact a_zret _ false (by decide) rfl dX4_holds_31 hv
        · replace hv := hv.2 hc
          refine a_iconst (v := 1) dX4_holds_26 (by decide) ?_
          refine a_goto 31 dX4_holds_27 rfl ?_
          exact a_zret _ true (by decide) rfl dX4_holds_31 hv
def Lp_X4_holdsWords_3 (g : GT) (d : Nat) (o0 : Nat) (v1 : Int32) (v2 : Int32) (v3 : Int32) (v4 : Int32) (I : IT) (J : JT) (P : Bool → IT → JT → Prop) : Prop := AW (kM g d M_X4_holdsWords 0 0 (qZ g P)) 0 0 3 [(0, .ref (ga g o0)), (1, .int v1), (2, .int v2), (3, .int v3), (4, .int v4)] [] (cW g I J)
def VC_X4_holdsWords_3 (g : GT) (d : Nat) (o0 : Nat) (v1 : Int32) (v2 : Int32) (v3 : Int32) (v4 : Int32) (I : IT) (J : JT) (P : Bool → IT → JT → Prop) : Prop :=
  ((v2 ≤ v4 → P true I J) ∧ (¬ v2 ≤ v4 → (vp_in (v1 + (v3 * v4)) 24 ∧ (SemZ g (d - 1) M_X7_isWord [.long (J (o0 + 1) (v1 + (v3 * v4)).toNatClampNeg)] I J (fun r20 I20 J20 => ((r20 = true → (Lp_X4_holdsWords_3 g d o0 v1 v2 v3 (v4 + 1) I20 J20 P)) ∧ (r20 = false → P false I20 J20)))))))
set_option maxRecDepth 4000 in
theorem w_X4_holdsWords_3 {g : GT} {d : Nat} {o0 : Nat} {v1 : Int32} {v2 : Int32} {v3 : Int32} {v4 : Int32} {I : IT} {J : JT} {P : Bool → IT → JT → Prop} (ho0 : isS o0) (hd : 1 ≤ d) (hv : VC_X4_holdsWords_3 g d o0 v1 v2 v3 v4 I J P) : Lp_X4_holdsWords_3 g d o0 v1 v2 v3 v4 I J P := by
  unfold VC_X4_holdsWords_3 at hv
  unfold Lp_X4_holdsWords_3
  refine a_iload 4 dX4_holdsWords_3 rfl ?_
  refine a_iload_n 2 dX4_holdsWords_5 rfl rfl ?_
  refine a_icmp_ge 34 dX4_holdsWords_6 rfl (fun hc => ?_) (fun hc => ?_)
  · replace hv := hv.1 hc
    refine a_iconst (v := 1) dX4_holdsWords_34 (by decide) ?_
    exact a_zret _ true (by decide) rfl dX4_holdsWords_35 hv
  · replace hv := hv.2 hc
    refine a_aload_n 0 dX4_holdsWords_9 rfl rfl ?_
    refine a_getR (r := (o0 + 1)) G_X4_9 ho0.1 rfl dX4_holdsWords_10 ?_
    refine a_iload_n 1 dX4_holdsWords_13 rfl rfl ?_
    refine a_iload_n 3 dX4_holdsWords_14 rfl rfl ?_
    refine a_iload 4 dX4_holdsWords_15 rfl ?_
    refine a_imul dX4_holdsWords_17 ?_
    refine a_iadd dX4_holdsWords_18 ?_
    refine a_lald ho0.2 hv.1 dX4_holdsWords_19 ?_
    replace hv := hv.2
    refine c_NZ (As := [.long (J (o0 + 1) (v1 + (v3 * v4)).toNatClampNeg)]) (rest := []) hv K_X4_32 rfl rfl (Nat.le_of_ble_eq_true rfl) (rok (by omega) (Nat.le_of_ble_eq_true rfl)) ⟨Nat.zero_le _, Nat.zero_le _⟩ dX4_holdsWords_20 (fun r20 I20 J20 hv => ?_)
    refine a_ifz_ne 28 dX4_holdsWords_23 rfl (fun hc => ?_) (fun hc => ?_)
    · replace hv := hv.1 hc
      refine a_iinc 4 (v4 + 1) [(4, .int (v4 + 1)), (0, .ref (ga g o0)), (1, .int v1), (2, .int v2), (3, .int v3)] dX4_holdsWords_28 rfl rfl (Nat.le_of_ble_eq_true rfl) rfl ?_
      refine a_goto 3 dX4_holdsWords_31 rfl ?_
      exact a_sub [1, 2, 3, 4, 0] rfl hv
    · replace hv := hv.2 hc
      refine a_iconst (v := 0) dX4_holdsWords_26 (by decide) ?_
      exact a_zret _ false (by decide) rfl dX4_holdsWords_27 hv
def VC_X4_holdsWords (g : GT) (d : Nat) (o0 : Nat) (v1 : Int32) (v2 : Int32) (v3 : Int32) (I : IT) (J : JT) (P : Bool → IT → JT → Prop) : Prop :=
  (Lp_X4_holdsWords_3 g d o0 v1 v2 v3 0 I J P)
set_option maxRecDepth 4000 in
theorem w_X4_holdsWords {g : GT} {d : Nat} {o0 : Nat} {v1 : Int32} {v2 : Int32} {v3 : Int32} {I : IT} {J : JT} {P : Bool → IT → JT → Prop} (ho0 : isS o0) (hv : VC_X4_holdsWords g d o0 v1 v2 v3 I J P) : SemZ g d M_X4_holdsWords [.ref (ga g o0), .int v1, .int v2, .int v3] I J P := by
  unfold VC_X4_holdsWords at hv
  refine sem_intro (by decide +kernel) rfl (Nat.le_of_ble_eq_true rfl) ?_
  show AW _ 0 0 0 [(0, .ref (ga g o0)), (1, .int v1), (2, .int v2), (3, .int v3)] [] (cW g I J)
  refine a_iconst (v := 0) dX4_holdsWords_0 (by decide) ?_
  refine a_istore [(4, .int 0), (0, .ref (ga g o0)), (1, .int v1), (2, .int v2), (3, .int v3)] dX4_holdsWords_1 (Nat.le_of_ble_eq_true rfl) rfl ?_
  exact a_sub [1, 2, 3, 4, 0] rfl hv
def VC_X4_put (g : GT) (d : Nat) (o0 : Nat) (v1 : Int32) (y2 : Int64) (I : IT) (J : JT) (P : Int64 → IT → JT → Prop) : Prop :=
  (SemL g (d - 1) M_X4_narrowed [.ref (ga g o0), .long y2] I J (fun r7 I7 J7 => (vp_in v1 24 ∧ (vp_in v1 24 ∧ P ((sJ J7 (o0 + 1) v1.toNatClampNeg r7) (o0 + 1) v1.toNatClampNeg) I7 (sJ J7 (o0 + 1) v1.toNatClampNeg r7)))))
set_option maxRecDepth 4000 in
theorem w_X4_put {g : GT} {d : Nat} {o0 : Nat} {v1 : Int32} {y2 : Int64} {I : IT} {J : JT} {P : Int64 → IT → JT → Prop} (ho0 : isS o0) (hd : 1 ≤ d) (hv : VC_X4_put g d o0 v1 y2 I J P) : SemL g d M_X4_put [.ref (ga g o0), .int v1, .long y2] I J P := by
  unfold VC_X4_put at hv
  refine sem_intro (by decide +kernel) rfl (Nat.le_of_ble_eq_true rfl) ?_
  show AW _ 0 0 0 [(0, .ref (ga g o0)), (1, .int v1), (2, .long y2)] [] (cW g I J)
  refine a_aload_n 0 dX4_put_0 rfl rfl ?_
  refine a_getR (r := (o0 + 1)) G_X4_9 ho0.1 rfl dX4_put_1 ?_
  refine a_iload_n 1 dX4_put_4 rfl rfl ?_
  refine a_aload_n 0 dX4_put_5 rfl rfl ?_
  refine a_lload_n 2 dX4_put_6 rfl rfl ?_
  refine c_VL (As := [.long y2]) (rest := [.int v1, .ref (ga g (o0 + 1))]) hv K_X4_36 ho0.1 rfl rfl rfl (Nat.le_of_ble_eq_true rfl) (rok (by omega) (Nat.le_of_ble_eq_true rfl)) ⟨Nat.zero_le _, Nat.zero_le _⟩ dX4_put_7 (fun r7 I7 J7 hv => ?_)
  refine a_last ho0.2 hv.1 dX4_put_10 ?_
  replace hv := hv.2
  refine a_aload_n 0 dX4_put_11 rfl rfl ?_
  refine a_getR (r := (o0 + 1)) G_X4_9 ho0.1 rfl dX4_put_12 ?_
  refine a_iload_n 1 dX4_put_15 rfl rfl ?_
  refine a_lald ho0.2 hv.1 dX4_put_16 ?_
  replace hv := hv.2
  exact a_lret rfl dX4_put_17 hv
def VC_X4_narrowed (g : GT) (d : Nat) (o0 : Nat) (y1 : Int64) (I : IT) (J : JT) (P : Int64 → IT → JT → Prop) : Prop :=
  (((I o0 2) = 0 → P (((y1.toInt32).toInt8.toInt32).toInt64) I J) ∧ ((I o0 2) = 1 → P (((y1.toInt32).toInt16.toInt32).toInt64) I J) ∧ ((I o0 2) = 2 → P ((y1.toInt32).toInt64) I J) ∧ (¬ (I o0 2) = 0 ∧ ¬ (I o0 2) = 1 ∧ ¬ (I o0 2) = 2 → P y1 I J))
set_option maxRecDepth 4000 in
theorem w_X4_narrowed {g : GT} {d : Nat} {o0 : Nat} {y1 : Int64} {I : IT} {J : JT} {P : Int64 → IT → JT → Prop} (ho0 : isS o0) (hv : VC_X4_narrowed g d o0 y1 I J P) : SemL g d M_X4_narrowed [.ref (ga g o0), .long y1] I J P := by
  unfold VC_X4_narrowed at hv
  refine sem_intro (by decide +kernel) rfl (Nat.le_of_ble_eq_true rfl) ?_
  show AW _ 0 0 0 [(0, .ref (ga g o0)), (1, .long y1)] [] (cW g I J)
  refine a_aload_n 0 dX4_narrowed_0 rfl rfl ?_
  refine a_getI G_X4_19 ho0.1 rfl dX4_narrowed_1 ?_
  by_cases hq0 : (I o0 2) = 0
  · replace hv := hv.1 hq0
    refine a_tabIn (off := (28)) 32 dX4_narrowed_4 (by rw [hq0]; decide) (by rw [hq0]; decide) (by rw [hq0]; decide) rfl ?_
    refine a_lload_n 1 dX4_narrowed_32 rfl rfl ?_
    refine a_l2i dX4_narrowed_33 ?_
    refine a_i2b dX4_narrowed_34 ?_
    refine a_i2l dX4_narrowed_35 ?_
    exact a_lret rfl dX4_narrowed_36 hv
  · replace hv := hv.2
    by_cases hq1 : (I o0 2) = 1
    · replace hv := hv.1 hq1
      refine a_tabIn (off := (33)) 37 dX4_narrowed_4 (by rw [hq1]; decide) (by rw [hq1]; decide) (by rw [hq1]; decide) rfl ?_
      refine a_lload_n 1 dX4_narrowed_37 rfl rfl ?_
      refine a_l2i dX4_narrowed_38 ?_
      refine a_i2s dX4_narrowed_39 ?_
      refine a_i2l dX4_narrowed_40 ?_
      exact a_lret rfl dX4_narrowed_41 hv
    · replace hv := hv.2
      by_cases hq2 : (I o0 2) = 2
      · replace hv := hv.1 hq2
        refine a_tabIn (off := (38)) 42 dX4_narrowed_4 (by rw [hq2]; decide) (by rw [hq2]; decide) (by rw [hq2]; decide) rfl ?_
        refine a_lload_n 1 dX4_narrowed_42 rfl rfl ?_
        refine a_l2i dX4_narrowed_43 ?_
        refine a_i2l dX4_narrowed_44 ?_
        exact a_lret rfl dX4_narrowed_45 hv
      · replace hv := hv.2
        replace hv := hv ⟨hq0, hq1, hq2⟩
        refine a_tabOut 46 dX4_narrowed_4 (by have q0 := tI_ne (c := 0) (n := 0) (by decide) hq0; have q1 := tI_ne (c := 1) (n := 1) (by decide) hq1; have q2 := tI_ne (c := 2) (n := 2) (by decide) hq2; omega) rfl ?_
        refine a_lload_n 1 dX4_narrowed_46 rfl rfl ?_
        exact a_lret rfl dX4_narrowed_47 hv
def VC_X6_board (g : GT) (d : Nat) (o0 : Nat) (o1 : Nat) (v2 : Int32) (I : IT) (J : JT) (P : IT → JT → Prop) : Prop :=
  (vp_in v2 6 ∧ (vp_in v2 6 ∧ (vp_in v2 6 ∧ (vp_in v2 6 ∧ P (cI (sI (sI (sI (sI I o0 2 (I (o1 + 3) v2.toNatClampNeg)) o0 3 ((sI I o0 2 (I (o1 + 3) v2.toNatClampNeg)) (o1 + 4) v2.toNatClampNeg)) o0 4 ((sI (sI I o0 2 (I (o1 + 3) v2.toNatClampNeg)) o0 3 ((sI I o0 2 (I (o1 + 3) v2.toNatClampNeg)) (o1 + 4) v2.toNatClampNeg)) (o1 + 5) v2.toNatClampNeg)) o0 5 ((sI (sI (sI I o0 2 (I (o1 + 3) v2.toNatClampNeg)) o0 3 ((sI I o0 2 (I (o1 + 3) v2.toNatClampNeg)) (o1 + 4) v2.toNatClampNeg)) o0 4 ((sI (sI I o0 2 (I (o1 + 3) v2.toNatClampNeg)) o0 3 ((sI I o0 2 (I (o1 + 3) v2.toNatClampNeg)) (o1 + 4) v2.toNatClampNeg)) (o1 + 5) v2.toNatClampNeg)) (o1 + 6) v2.toNatClampNeg)) (o1 + 7) (o0 + 1) 0 0 4) J))))
set_option maxRecDepth 4000 in
theorem w_X6_board {g : GT} {d : Nat} {o0 : Nat} {o1 : Nat} {v2 : Int32} {I : IT} {J : JT} {P : IT → JT → Prop} (ho0 : isV o0) (ho1 : isF o1) (hd : 1 ≤ d) (hv : VC_X6_board g d o0 o1 v2 I J P) : SemV g d M_X6_board [.ref (ga g o0), .ref (ga g o1), .int v2] I J P := by
  unfold VC_X6_board at hv
  refine sem_intro (by decide +kernel) rfl (Nat.le_of_ble_eq_true rfl) ?_
  show AW _ 0 0 0 [(0, .ref (ga g o0)), (1, .ref (ga g o1)), (2, .int v2)] [] (cW g I J)
  refine a_aload_n 0 dX6_board_0 rfl rfl ?_
  refine a_aload_n 1 dX6_board_1 rfl rfl ?_
  refine a_getR (r := (o1 + 3)) G_X6_32 ho1.1 rfl dX6_board_2 ?_
  refine a_iload_n 2 dX6_board_5 rfl rfl ?_
  refine a_iald ho1.2.2.2.1 hv.1 dX6_board_6 ?_
  replace hv := hv.2
  refine a_putI H_X6_15 ho0.1 rfl rfl rfl dX6_board_7 ?_
  refine a_aload_n 0 dX6_board_10 rfl rfl ?_
  refine a_aload_n 1 dX6_board_11 rfl rfl ?_
  refine a_getR (r := (o1 + 4)) G_X6_36 ho1.1 rfl dX6_board_12 ?_
  refine a_iload_n 2 dX6_board_15 rfl rfl ?_
  refine a_iald ho1.2.2.2.2.1 hv.1 dX6_board_16 ?_
  replace hv := hv.2
  refine a_putI H_X6_19 ho0.1 rfl rfl rfl dX6_board_17 ?_
  refine a_aload_n 0 dX6_board_20 rfl rfl ?_
  refine a_aload_n 1 dX6_board_21 rfl rfl ?_
  refine a_getR (r := (o1 + 5)) G_X6_38 ho1.1 rfl dX6_board_22 ?_
  refine a_iload_n 2 dX6_board_25 rfl rfl ?_
  refine a_iald ho1.2.2.2.2.2.1 hv.1 dX6_board_26 ?_
  replace hv := hv.2
  refine a_putI H_X6_22 ho0.1 rfl rfl rfl dX6_board_27 ?_
  refine a_aload_n 0 dX6_board_30 rfl rfl ?_
  refine a_aload_n 1 dX6_board_31 rfl rfl ?_
  refine a_getR (r := (o1 + 6)) G_X6_40 ho1.1 rfl dX6_board_32 ?_
  refine a_iload_n 2 dX6_board_35 rfl rfl ?_
  refine a_iald ho1.2.2.2.2.2.2.1 hv.1 dX6_board_36 ?_
  replace hv := hv.2
  refine a_putI H_X6_25 ho0.1 rfl rfl rfl dX6_board_37 ?_
  refine a_aload_n 1 dX6_board_40 rfl rfl ?_
  refine a_getR (r := (o1 + 7)) G_X6_42 ho1.1 rfl dX6_board_41 ?_
  refine a_iconst (v := 0) dX6_board_44 (by decide) ?_
  refine a_aload_n 0 dX6_board_45 rfl rfl ?_
  refine a_getR (r := (o0 + 1)) G_X6_9 ho0.1 rfl dX6_board_46 ?_
  refine a_iconst (v := 0) dX6_board_49 (by decide) ?_
  refine a_iconst (v := 4) dX6_board_50 (by decide) ?_
  refine a_copyI ak_X6_43 ho1.2.2.2.2.2.2.2 ho0.2 (by decide) (by decide) (by decide) (by decide) (by decide) (rok1 hd) dX6_board_51 ?_
  exact a_vret rfl dX6_board_54 hv
def VC_X6_land (g : GT) (d : Nat) (o0 : Nat) (o1 : Nat) (v2 : Int32) (I : IT) (J : JT) (P : IT → JT → Prop) : Prop :=
  (vp_in v2 6 ∧ (vp_in v2 6 ∧ (vp_in v2 6 ∧ (vp_in v2 6 ∧ P (cI (sI (sI (sI (sI I (o1 + 3) v2.toNatClampNeg (I o0 2)) (o1 + 4) v2.toNatClampNeg ((sI I (o1 + 3) v2.toNatClampNeg (I o0 2)) o0 3)) (o1 + 5) v2.toNatClampNeg ((sI (sI I (o1 + 3) v2.toNatClampNeg (I o0 2)) (o1 + 4) v2.toNatClampNeg ((sI I (o1 + 3) v2.toNatClampNeg (I o0 2)) o0 3)) o0 4)) (o1 + 6) v2.toNatClampNeg ((sI (sI (sI I (o1 + 3) v2.toNatClampNeg (I o0 2)) (o1 + 4) v2.toNatClampNeg ((sI I (o1 + 3) v2.toNatClampNeg (I o0 2)) o0 3)) (o1 + 5) v2.toNatClampNeg ((sI (sI I (o1 + 3) v2.toNatClampNeg (I o0 2)) (o1 + 4) v2.toNatClampNeg ((sI I (o1 + 3) v2.toNatClampNeg (I o0 2)) o0 3)) o0 4)) o0 5)) (o0 + 1) (o1 + 7) 0 0 4) J))))
set_option maxRecDepth 4000 in
theorem w_X6_land {g : GT} {d : Nat} {o0 : Nat} {o1 : Nat} {v2 : Int32} {I : IT} {J : JT} {P : IT → JT → Prop} (ho0 : isV o0) (ho1 : isF o1) (hd : 1 ≤ d) (hv : VC_X6_land g d o0 o1 v2 I J P) : SemV g d M_X6_land [.ref (ga g o0), .ref (ga g o1), .int v2] I J P := by
  unfold VC_X6_land at hv
  refine sem_intro (by decide +kernel) rfl (Nat.le_of_ble_eq_true rfl) ?_
  show AW _ 0 0 0 [(0, .ref (ga g o0)), (1, .ref (ga g o1)), (2, .int v2)] [] (cW g I J)
  refine a_aload_n 1 dX6_land_0 rfl rfl ?_
  refine a_getR (r := (o1 + 3)) G_X6_32 ho1.1 rfl dX6_land_1 ?_
  refine a_iload_n 2 dX6_land_4 rfl rfl ?_
  refine a_aload_n 0 dX6_land_5 rfl rfl ?_
  refine a_getI G_X6_15 ho0.1 rfl dX6_land_6 ?_
  refine a_iast ho1.2.2.2.1 hv.1 dX6_land_9 ?_
  replace hv := hv.2
  refine a_aload_n 1 dX6_land_10 rfl rfl ?_
  refine a_getR (r := (o1 + 4)) G_X6_36 ho1.1 rfl dX6_land_11 ?_
  refine a_iload_n 2 dX6_land_14 rfl rfl ?_
  refine a_aload_n 0 dX6_land_15 rfl rfl ?_
  refine a_getI G_X6_19 ho0.1 rfl dX6_land_16 ?_
  refine a_iast ho1.2.2.2.2.1 hv.1 dX6_land_19 ?_
  replace hv := hv.2
  refine a_aload_n 1 dX6_land_20 rfl rfl ?_
  refine a_getR (r := (o1 + 5)) G_X6_38 ho1.1 rfl dX6_land_21 ?_
  refine a_iload_n 2 dX6_land_24 rfl rfl ?_
  refine a_aload_n 0 dX6_land_25 rfl rfl ?_
  refine a_getI G_X6_22 ho0.1 rfl dX6_land_26 ?_
  refine a_iast ho1.2.2.2.2.2.1 hv.1 dX6_land_29 ?_
  replace hv := hv.2
  refine a_aload_n 1 dX6_land_30 rfl rfl ?_
  refine a_getR (r := (o1 + 6)) G_X6_40 ho1.1 rfl dX6_land_31 ?_
  refine a_iload_n 2 dX6_land_34 rfl rfl ?_
  refine a_aload_n 0 dX6_land_35 rfl rfl ?_
  refine a_getI G_X6_25 ho0.1 rfl dX6_land_36 ?_
  refine a_iast ho1.2.2.2.2.2.2.1 hv.1 dX6_land_39 ?_
  replace hv := hv.2
  refine a_aload_n 0 dX6_land_40 rfl rfl ?_
  refine a_getR (r := (o0 + 1)) G_X6_9 ho0.1 rfl dX6_land_41 ?_
  refine a_iconst (v := 0) dX6_land_44 (by decide) ?_
  refine a_aload_n 1 dX6_land_45 rfl rfl ?_
  refine a_getR (r := (o1 + 7)) G_X6_42 ho1.1 rfl dX6_land_46 ?_
  refine a_iconst (v := 0) dX6_land_49 (by decide) ?_
  refine a_iconst (v := 4) dX6_land_50 (by decide) ?_
  refine a_copyI ak_X6_43 ho0.2 ho1.2.2.2.2.2.2.2 (by decide) (by decide) (by decide) (by decide) (by decide) (rok1 hd) dX6_land_51 ?_
  exact a_vret rfl dX6_land_54 hv
def VC_X6_follow (g : GT) (d : Nat) (o0 : Nat) (o1 : Nat) (I : IT) (J : JT) (P : IT → JT → Prop) : Prop :=
  P (cI (sI (sI (sI (sI I o0 2 (I o1 2)) o0 3 ((sI I o0 2 (I o1 2)) o1 3)) o0 4 ((sI (sI I o0 2 (I o1 2)) o0 3 ((sI I o0 2 (I o1 2)) o1 3)) o1 4)) o0 5 ((sI (sI (sI I o0 2 (I o1 2)) o0 3 ((sI I o0 2 (I o1 2)) o1 3)) o0 4 ((sI (sI I o0 2 (I o1 2)) o0 3 ((sI I o0 2 (I o1 2)) o1 3)) o1 4)) o1 5)) (o1 + 1) (o0 + 1) 0 0 4) J
set_option maxRecDepth 4000 in
theorem w_X6_follow {g : GT} {d : Nat} {o0 : Nat} {o1 : Nat} {I : IT} {J : JT} {P : IT → JT → Prop} (ho0 : isV o0) (ho1 : isV o1) (hd : 1 ≤ d) (hv : VC_X6_follow g d o0 o1 I J P) : SemV g d M_X6_follow [.ref (ga g o0), .ref (ga g o1)] I J P := by
  unfold VC_X6_follow at hv
  refine sem_intro (by decide +kernel) rfl (Nat.le_of_ble_eq_true rfl) ?_
  show AW _ 0 0 0 [(0, .ref (ga g o0)), (1, .ref (ga g o1))] [] (cW g I J)
  refine a_aload_n 0 dX6_follow_0 rfl rfl ?_
  refine a_aload_n 1 dX6_follow_1 rfl rfl ?_
  refine a_getI G_X6_15 ho1.1 rfl dX6_follow_2 ?_
  refine a_putI H_X6_15 ho0.1 rfl rfl rfl dX6_follow_5 ?_
  refine a_aload_n 0 dX6_follow_8 rfl rfl ?_
  refine a_aload_n 1 dX6_follow_9 rfl rfl ?_
  refine a_getI G_X6_19 ho1.1 rfl dX6_follow_10 ?_
  refine a_putI H_X6_19 ho0.1 rfl rfl rfl dX6_follow_13 ?_
  refine a_aload_n 0 dX6_follow_16 rfl rfl ?_
  refine a_aload_n 1 dX6_follow_17 rfl rfl ?_
  refine a_getI G_X6_22 ho1.1 rfl dX6_follow_18 ?_
  refine a_putI H_X6_22 ho0.1 rfl rfl rfl dX6_follow_21 ?_
  refine a_aload_n 0 dX6_follow_24 rfl rfl ?_
  refine a_aload_n 1 dX6_follow_25 rfl rfl ?_
  refine a_getI G_X6_25 ho1.1 rfl dX6_follow_26 ?_
  refine a_putI H_X6_25 ho0.1 rfl rfl rfl dX6_follow_29 ?_
  refine a_aload_n 1 dX6_follow_32 rfl rfl ?_
  refine a_getR (r := (o1 + 1)) G_X6_9 ho1.1 rfl dX6_follow_33 ?_
  refine a_iconst (v := 0) dX6_follow_36 (by decide) ?_
  refine a_aload_n 0 dX6_follow_37 rfl rfl ?_
  refine a_getR (r := (o0 + 1)) G_X6_9 ho0.1 rfl dX6_follow_38 ?_
  refine a_iconst (v := 0) dX6_follow_41 (by decide) ?_
  refine a_iconst (v := 4) dX6_follow_42 (by decide) ?_
  refine a_copyI ak_X6_43 ho1.2 ho0.2 (by decide) (by decide) (by decide) (by decide) (by decide) (rok1 hd) dX6_follow_43 ?_
  exact a_vret rfl dX6_follow_46 hv
def VC_X6_trusts (g : GT) (d : Nat) (o0 : Nat) (v1 : Int32) (I : IT) (J : JT) (P : Bool → IT → JT → Prop) : Prop :=
  (vp_in v1 4 ∧ (SemI g (d - 1) M_X7_doubtBy [.int (I o0 2), .int (I o0 5), .int v1] I J (fun r15 I15 J15 => (((I (o0 + 1) v1.toNatClampNeg) < r15 → P false I15 J15) ∧ (¬ (I (o0 + 1) v1.toNatClampNeg) < r15 → P true I15 J15)))))
set_option maxRecDepth 4000 in
theorem w_X6_trusts {g : GT} {d : Nat} {o0 : Nat} {v1 : Int32} {I : IT} {J : JT} {P : Bool → IT → JT → Prop} (ho0 : isV o0) (hd : 1 ≤ d) (hv : VC_X6_trusts g d o0 v1 I J P) : SemZ g d M_X6_trusts [.ref (ga g o0), .int v1] I J P := by
  unfold VC_X6_trusts at hv
  refine sem_intro (by decide +kernel) rfl (Nat.le_of_ble_eq_true rfl) ?_
  show AW _ 0 0 0 [(0, .ref (ga g o0)), (1, .int v1)] [] (cW g I J)
  refine a_aload_n 0 dX6_trusts_0 rfl rfl ?_
  refine a_getR (r := (o0 + 1)) G_X6_9 ho0.1 rfl dX6_trusts_1 ?_
  refine a_iload_n 1 dX6_trusts_4 rfl rfl ?_
  refine a_iald ho0.2 hv.1 dX6_trusts_5 ?_
  replace hv := hv.2
  refine a_aload_n 0 dX6_trusts_6 rfl rfl ?_
  refine a_getI G_X6_15 ho0.1 rfl dX6_trusts_7 ?_
  refine a_aload_n 0 dX6_trusts_10 rfl rfl ?_
  refine a_getI G_X6_25 ho0.1 rfl dX6_trusts_11 ?_
  refine a_iload_n 1 dX6_trusts_14 rfl rfl ?_
  refine c_NI (As := [.int (I o0 2), .int (I o0 5), .int v1]) (rest := [.int (I (o0 + 1) v1.toNatClampNeg)]) hv K_X6_49 rfl rfl (Nat.le_of_ble_eq_true rfl) (rok (by omega) (Nat.le_of_ble_eq_true rfl)) ⟨Nat.zero_le _, Nat.zero_le _⟩ dX6_trusts_15 (fun r15 I15 J15 hv => ?_)
  refine a_icmp_lt 25 dX6_trusts_18 rfl (fun hc => ?_) (fun hc => ?_)
  · replace hv := hv.1 hc
    refine a_iconst (v := 0) dX6_trusts_25 (by decide) ?_
    exact a_zret _ false (by decide) rfl dX6_trusts_26 hv
  · replace hv := hv.2 hc
    refine a_iconst (v := 1) dX6_trusts_21 (by decide) ?_
    refine a_goto 26 dX6_trusts_22 rfl ?_
    exact a_zret _ true (by decide) rfl dX6_trusts_26 hv
def VC_X6_hear (g : GT) (d : Nat) (o0 : Nat) (v1 : Int32) (v2 : Int32) (I : IT) (J : JT) (P : IT → JT → Prop) : Prop :=
  (SemZ g (d - 1) M_X6_trusts [.ref (ga g o0), .int v1] I J (fun r2 I2 J2 => ((r2 = false → (SemZ g (d - 1) M_X6_goOn [.ref (ga g o0)] I2 J2 (fun r27 I27 J27 => ((r2 = false → P I27 J27) ∧ (r2 = true → (SemV g (d - 1) M_X6_settle [.ref (ga g o0), .int v1, .int (bI r27)] I27 J27 (fun I40 J40 => P I40 J40))))))) ∧ (r2 = true → (SemI g (d - 1) M_X7_turned [.int (I2 o0 2), .int (I2 o0 4), .int v2] I2 J2 (fun r20 I20 J20 => (SemZ g (d - 1) M_X6_goOn [.ref (ga g o0)] (sI I20 o0 4 r20) J20 (fun r27 I27 J27 => ((r2 = false → P I27 J27) ∧ (r2 = true → (SemV g (d - 1) M_X6_settle [.ref (ga g o0), .int v1, .int (bI r27)] I27 J27 (fun I40 J40 => P I40 J40))))))))))))
set_option maxRecDepth 4000 in
theorem w_X6_hear {g : GT} {d : Nat} {o0 : Nat} {v1 : Int32} {v2 : Int32} {I : IT} {J : JT} {P : IT → JT → Prop} (ho0 : isV o0) (hd : 1 ≤ d) (hv : VC_X6_hear g d o0 v1 v2 I J P) : SemV g d M_X6_hear [.ref (ga g o0), .int v1, .int v2] I J P := by
  unfold VC_X6_hear at hv
  refine sem_intro (by decide +kernel) rfl (Nat.le_of_ble_eq_true rfl) ?_
  show AW _ 0 0 0 [(0, .ref (ga g o0)), (1, .int v1), (2, .int v2)] [] (cW g I J)
  refine a_aload_n 0 dX6_hear_0 rfl rfl ?_
  refine a_iload_n 1 dX6_hear_1 rfl rfl ?_
  refine c_VZ (As := [.int v1]) (rest := []) hv K_X6_53 ho0.1 rfl rfl rfl (Nat.le_of_ble_eq_true rfl) (rok (by omega) (Nat.le_of_ble_eq_true rfl)) ⟨Nat.zero_le _, Nat.zero_le _⟩ dX6_hear_2 (fun r2 I2 J2 hv => ?_)
  refine a_istore_n [(3, .int (bI r2)), (0, .ref (ga g o0)), (1, .int v1), (2, .int v2)] dX6_hear_5 rfl (Nat.le_of_ble_eq_true rfl) rfl ?_
  refine a_iload_n 0 dX6_hear_6 rfl rfl ?_
  refine a_ifz_eq 26 dX6_hear_7 rfl (fun hc => ?_) (fun hc => ?_)
  · replace hv := hv.1 hc
    refine a_aload_n 1 dX6_hear_26 rfl rfl ?_
    refine c_VZ (As := []) (rest := []) hv K_X6_60 ho0.1 rfl rfl rfl (Nat.le_of_ble_eq_true rfl) (rok (by omega) (Nat.le_of_ble_eq_true rfl)) ⟨Nat.zero_le _, Nat.zero_le _⟩ dX6_hear_27 (fun r27 I27 J27 hv => ?_)
    refine a_istore [(4, .int (bI r27)), (3, .int (bI r2)), (0, .ref (ga g o0)), (1, .int v1), (2, .int v2)] dX6_hear_30 (Nat.le_of_ble_eq_true rfl) rfl ?_
    refine a_iload_n 1 dX6_hear_32 rfl rfl ?_
    refine a_ifz_eq 43 dX6_hear_33 rfl (fun hc => ?_) (fun hc => ?_)
    · replace hv := hv.1 hc
      exact a_vret rfl dX6_hear_43 hv
    · replace hv := hv.2 hc
      refine a_aload_n 2 dX6_hear_36 rfl rfl ?_
      refine a_iload_n 3 dX6_hear_37 rfl rfl ?_
      refine a_iload 0 dX6_hear_38 rfl ?_
      refine c_VV (As := [.int v1, .int (bI r27)]) (rest := []) hv K_X6_64 ho0.1 rfl rfl rfl (Nat.le_of_ble_eq_true rfl) (rok (by omega) (Nat.le_of_ble_eq_true rfl)) ⟨Nat.zero_le _, Nat.zero_le _⟩ dX6_hear_40 (fun I40 J40 hv => ?_)
      exact a_vret rfl dX6_hear_43 hv
  · replace hv := hv.2 hc
    refine a_aload_n 1 dX6_hear_10 rfl rfl ?_
    refine a_aload_n 1 dX6_hear_11 rfl rfl ?_
    refine a_getI G_X6_15 ho0.1 rfl dX6_hear_12 ?_
    refine a_aload_n 1 dX6_hear_15 rfl rfl ?_
    refine a_getI G_X6_22 ho0.1 rfl dX6_hear_16 ?_
    refine a_iload_n 3 dX6_hear_19 rfl rfl ?_
    refine c_NI (As := [.int (I2 o0 2), .int (I2 o0 4), .int v2]) (rest := [.ref (ga g o0)]) hv K_X6_57 rfl rfl (Nat.le_of_ble_eq_true rfl) (rok (by omega) (Nat.le_of_ble_eq_true rfl)) ⟨Nat.zero_le _, Nat.zero_le _⟩ dX6_hear_20 (fun r20 I20 J20 hv => ?_)
    refine a_putI H_X6_22 ho0.1 rfl rfl rfl dX6_hear_23 ?_
    refine a_aload_n 1 dX6_hear_26 rfl rfl ?_
    refine c_VZ (As := []) (rest := []) hv K_X6_60 ho0.1 rfl rfl rfl (Nat.le_of_ble_eq_true rfl) (rok (by omega) (Nat.le_of_ble_eq_true rfl)) ⟨Nat.zero_le _, Nat.zero_le _⟩ dX6_hear_27 (fun r27 I27 J27 hv => ?_)
    refine a_istore [(4, .int (bI r27)), (3, .int (bI r2)), (0, .ref (ga g o0)), (1, .int v1), (2, .int v2)] dX6_hear_30 (Nat.le_of_ble_eq_true rfl) rfl ?_
    refine a_iload_n 1 dX6_hear_32 rfl rfl ?_
    refine a_ifz_eq 43 dX6_hear_33 rfl (fun hc => ?_) (fun hc => ?_)
    · replace hv := hv.1 hc
      exact a_vret rfl dX6_hear_43 hv
    · replace hv := hv.2 hc
      refine a_aload_n 2 dX6_hear_36 rfl rfl ?_
      refine a_iload_n 3 dX6_hear_37 rfl rfl ?_
      refine a_iload 0 dX6_hear_38 rfl ?_
      refine c_VV (As := [.int v1, .int (bI r27)]) (rest := []) hv K_X6_64 ho0.1 rfl rfl rfl (Nat.le_of_ble_eq_true rfl) (rok (by omega) (Nat.le_of_ble_eq_true rfl)) ⟨Nat.zero_le _, Nat.zero_le _⟩ dX6_hear_40 (fun I40 J40 hv => ?_)
      exact a_vret rfl dX6_hear_43 hv
def Lp_X6_hearTwo_47 (g : GT) (d : Nat) (o0 : Nat) (v1 : Int32) (v2 : Int32) (v3 : Int32) (v4 : Int32) (b5 : Bool) (b6 : Bool) (I : IT) (J : JT) (P : IT → JT → Prop) : Prop := AW (kM g d M_X6_hearTwo 0 0 (qV g P)) 0 0 47 [(0, .ref (ga g o0)), (1, .int v1), (2, .int v2), (3, .int v3), (4, .int v4), (5, .int (bI b5)), (6, .int (bI b6))] [] (cW g I J)
def VC_X6_hearTwo_47 (g : GT) (d : Nat) (o0 : Nat) (v1 : Int32) (v2 : Int32) (v3 : Int32) (v4 : Int32) (b5 : Bool) (b6 : Bool) (I : IT) (J : JT) (P : IT → JT → Prop) : Prop :=
  ((b5 = false → (SemI g (d - 1) M_X7_turned [.int (I o0 2), .int (I o0 4), .int v4] I J (fun r67 I67 J67 => (SemZ g (d - 1) M_X6_goOn [.ref (ga g o0)] (sI I67 o0 4 r67) J67 (fun r74 I74 J74 => ((b5 = false → ((b6 = false → P I74 J74) ∧ (b6 = true → (SemV g (d - 1) M_X6_settle [.ref (ga g o0), .int v3, .int (bI r74)] I74 J74 (fun I100 J100 => P I100 J100))))) ∧ (b5 = true → (SemV g (d - 1) M_X6_settle [.ref (ga g o0), .int v1, .int (bI r74)] I74 J74 (fun I88 J88 => ((b6 = false → P I88 J88) ∧ (b6 = true → (SemV g (d - 1) M_X6_settle [.ref (ga g o0), .int v3, .int (bI r74)] I88 J88 (fun I100 J100 => P I100 J100))))))))))))) ∧ (b5 = true → (SemI g (d - 1) M_X7_turned [.int (I o0 2), .int (I o0 4), .int v2] I J (fun r67 I67 J67 => (SemZ g (d - 1) M_X6_goOn [.ref (ga g o0)] (sI I67 o0 4 r67) J67 (fun r74 I74 J74 => ((b5 = false → ((b6 = false → P I74 J74) ∧ (b6 = true → (SemV g (d - 1) M_X6_settle [.ref (ga g o0), .int v3, .int (bI r74)] I74 J74 (fun I100 J100 => P I100 J100))))) ∧ (b5 = true → (SemV g (d - 1) M_X6_settle [.ref (ga g o0), .int v1, .int (bI r74)] I74 J74 (fun I88 J88 => ((b6 = false → P I88 J88) ∧ (b6 = true → (SemV g (d - 1) M_X6_settle [.ref (ga g o0), .int v3, .int (bI r74)] I88 J88 (fun I100 J100 => P I100 J100))))))))))))))
set_option maxRecDepth 4000 in
theorem w_X6_hearTwo_47 {g : GT} {d : Nat} {o0 : Nat} {v1 : Int32} {v2 : Int32} {v3 : Int32} {v4 : Int32} {b5 : Bool} {b6 : Bool} {I : IT} {J : JT} {P : IT → JT → Prop} (ho0 : isV o0) (hd : 1 ≤ d) (hv : VC_X6_hearTwo_47 g d o0 v1 v2 v3 v4 b5 b6 I J P) : Lp_X6_hearTwo_47 g d o0 v1 v2 v3 v4 b5 b6 I J P := by
  unfold VC_X6_hearTwo_47 at hv
  unfold Lp_X6_hearTwo_47
  refine a_aload_n 0 dX6_hearTwo_47 rfl rfl ?_
  refine a_aload_n 0 dX6_hearTwo_48 rfl rfl ?_
  refine a_getI G_X6_15 ho0.1 rfl dX6_hearTwo_49 ?_
  refine a_aload_n 0 dX6_hearTwo_52 rfl rfl ?_
  refine a_getI G_X6_22 ho0.1 rfl dX6_hearTwo_53 ?_
  refine a_iload 5 dX6_hearTwo_56 rfl ?_
  refine a_ifz_eq 65 dX6_hearTwo_58 rfl (fun hc => ?_) (fun hc => ?_)
  · replace hv := hv.1 hc
    refine a_iload 4 dX6_hearTwo_65 rfl ?_
    refine c_NI (As := [.int (I o0 2), .int (I o0 4), .int v4]) (rest := [.ref (ga g o0)]) hv K_X6_57 rfl rfl (Nat.le_of_ble_eq_true rfl) (rok (by omega) (Nat.le_of_ble_eq_true rfl)) ⟨Nat.zero_le _, Nat.zero_le _⟩ dX6_hearTwo_67 (fun r67 I67 J67 hv => ?_)
    refine a_putI H_X6_22 ho0.1 rfl rfl rfl dX6_hearTwo_70 ?_
    refine a_aload_n 0 dX6_hearTwo_73 rfl rfl ?_
    refine c_VZ (As := []) (rest := []) hv K_X6_60 ho0.1 rfl rfl rfl (Nat.le_of_ble_eq_true rfl) (rok (by omega) (Nat.le_of_ble_eq_true rfl)) ⟨Nat.zero_le _, Nat.zero_le _⟩ dX6_hearTwo_74 (fun r74 I74 J74 hv => ?_)
    refine a_istore [(7, .int (bI r74)), (0, .ref (ga g o0)), (1, .int v1), (2, .int v2), (3, .int v3), (4, .int v4), (5, .int (bI b5)), (6, .int (bI b6))] dX6_hearTwo_77 (Nat.le_of_ble_eq_true rfl) rfl ?_
    refine a_iload 6 dX6_hearTwo_79 rfl ?_
    refine a_ifz_eq 91 dX6_hearTwo_81 rfl (fun hc => ?_) (fun hc => ?_)
    · replace hv := hv.1 hc
      refine a_iload 7 dX6_hearTwo_91 rfl ?_
      refine a_ifz_eq 103 dX6_hearTwo_93 rfl (fun hc => ?_) (fun hc => ?_)
      · replace hv := hv.1 hc
        exact a_vret rfl dX6_hearTwo_103 hv
      · replace hv := hv.2 hc
        refine a_aload_n 1 dX6_hearTwo_96 rfl rfl ?_
        refine a_iload_n 4 dX6_hearTwo_97 rfl rfl ?_
        refine a_iload 0 dX6_hearTwo_98 rfl ?_
        refine c_VV (As := [.int v3, .int (bI r74)]) (rest := []) hv K_X6_64 ho0.1 rfl rfl rfl (Nat.le_of_ble_eq_true rfl) (rok (by omega) (Nat.le_of_ble_eq_true rfl)) ⟨Nat.zero_le _, Nat.zero_le _⟩ dX6_hearTwo_100 (fun I100 J100 hv => ?_)
        exact a_vret rfl dX6_hearTwo_103 hv
    · replace hv := hv.2 hc
      refine a_aload_n 1 dX6_hearTwo_84 rfl rfl ?_
      refine a_iload_n 2 dX6_hearTwo_85 rfl rfl ?_
      refine a_iload 0 dX6_hearTwo_86 rfl ?_
      refine c_VV (As := [.int v1, .int (bI r74)]) (rest := []) hv K_X6_64 ho0.1 rfl rfl rfl (Nat.le_of_ble_eq_true rfl) (rok (by omega) (Nat.le_of_ble_eq_true rfl)) ⟨Nat.zero_le _, Nat.zero_le _⟩ dX6_hearTwo_88 (fun I88 J88 hv => ?_)
      refine a_iload 7 dX6_hearTwo_91 rfl ?_
      refine a_ifz_eq 103 dX6_hearTwo_93 rfl (fun hc => ?_) (fun hc => ?_)
      · replace hv := hv.1 hc
        exact a_vret rfl dX6_hearTwo_103 hv
      · replace hv := hv.2 hc
        refine a_aload_n 1 dX6_hearTwo_96 rfl rfl ?_
        refine a_iload_n 4 dX6_hearTwo_97 rfl rfl ?_
        refine a_iload 0 dX6_hearTwo_98 rfl ?_
        refine c_VV (As := [.int v3, .int (bI r74)]) (rest := []) hv K_X6_64 ho0.1 rfl rfl rfl (Nat.le_of_ble_eq_true rfl) (rok (by omega) (Nat.le_of_ble_eq_true rfl)) ⟨Nat.zero_le _, Nat.zero_le _⟩ dX6_hearTwo_100 (fun I100 J100 hv => ?_)
        exact a_vret rfl dX6_hearTwo_103 hv
  · replace hv := hv.2 hc
    refine a_iload_n 2 dX6_hearTwo_61 rfl rfl ?_
    refine a_goto 67 dX6_hearTwo_62 rfl ?_
    refine c_NI (As := [.int (I o0 2), .int (I o0 4), .int v2]) (rest := [.ref (ga g o0)]) hv K_X6_57 rfl rfl (Nat.le_of_ble_eq_true rfl) (rok (by omega) (Nat.le_of_ble_eq_true rfl)) ⟨Nat.zero_le _, Nat.zero_le _⟩ dX6_hearTwo_67 (fun r67 I67 J67 hv => ?_)
    refine a_putI H_X6_22 ho0.1 rfl rfl rfl dX6_hearTwo_70 ?_
    refine a_aload_n 0 dX6_hearTwo_73 rfl rfl ?_
    refine c_VZ (As := []) (rest := []) hv K_X6_60 ho0.1 rfl rfl rfl (Nat.le_of_ble_eq_true rfl) (rok (by omega) (Nat.le_of_ble_eq_true rfl)) ⟨Nat.zero_le _, Nat.zero_le _⟩ dX6_hearTwo_74 (fun r74 I74 J74 hv => ?_)
    refine a_istore [(7, .int (bI r74)), (0, .ref (ga g o0)), (1, .int v1), (2, .int v2), (3, .int v3), (4, .int v4), (5, .int (bI b5)), (6, .int (bI b6))] dX6_hearTwo_77 (Nat.le_of_ble_eq_true rfl) rfl ?_
    refine a_iload 6 dX6_hearTwo_79 rfl ?_
    refine a_ifz_eq 91 dX6_hearTwo_81 rfl (fun hc => ?_) (fun hc => ?_)
    · replace hv := hv.1 hc
      refine a_iload 7 dX6_hearTwo_91 rfl ?_
      refine a_ifz_eq 103 dX6_hearTwo_93 rfl (fun hc => ?_) (fun hc => ?_)
      · replace hv := hv.1 hc
        exact a_vret rfl dX6_hearTwo_103 hv
      · replace hv := hv.2 hc
        refine a_aload_n 1 dX6_hearTwo_96 rfl rfl ?_
        refine a_iload_n 4 dX6_hearTwo_97 rfl rfl ?_
        refine a_iload 0 dX6_hearTwo_98 rfl ?_
        refine c_VV (As := [.int v3, .int (bI r74)]) (rest := []) hv K_X6_64 ho0.1 rfl rfl rfl (Nat.le_of_ble_eq_true rfl) (rok (by omega) (Nat.le_of_ble_eq_true rfl)) ⟨Nat.zero_le _, Nat.zero_le _⟩ dX6_hearTwo_100 (fun I100 J100 hv => ?_)
        exact a_vret rfl dX6_hearTwo_103 hv
    · replace hv := hv.2 hc
      refine a_aload_n 1 dX6_hearTwo_84 rfl rfl ?_
      refine a_iload_n 2 dX6_hearTwo_85 rfl rfl ?_
      refine a_iload 0 dX6_hearTwo_86 rfl ?_
      refine c_VV (As := [.int v1, .int (bI r74)]) (rest := []) hv K_X6_64 ho0.1 rfl rfl rfl (Nat.le_of_ble_eq_true rfl) (rok (by omega) (Nat.le_of_ble_eq_true rfl)) ⟨Nat.zero_le _, Nat.zero_le _⟩ dX6_hearTwo_88 (fun I88 J88 hv => ?_)
      refine a_iload 7 dX6_hearTwo_91 rfl ?_
      refine a_ifz_eq 103 dX6_hearTwo_93 rfl (fun hc => ?_) (fun hc => ?_)
      · replace hv := hv.1 hc
        exact a_vret rfl dX6_hearTwo_103 hv
      · replace hv := hv.2 hc
        refine a_aload_n 1 dX6_hearTwo_96 rfl rfl ?_
        refine a_iload_n 4 dX6_hearTwo_97 rfl rfl ?_
        refine a_iload 0 dX6_hearTwo_98 rfl ?_
        refine c_VV (As := [.int v3, .int (bI r74)]) (rest := []) hv K_X6_64 ho0.1 rfl rfl rfl (Nat.le_of_ble_eq_true rfl) (rok (by omega) (Nat.le_of_ble_eq_true rfl)) ⟨Nat.zero_le _, Nat.zero_le _⟩ dX6_hearTwo_100 (fun I100 J100 hv => ?_)
        exact a_vret rfl dX6_hearTwo_103 hv
def VC_X6_hearTwo (g : GT) (d : Nat) (o0 : Nat) (v1 : Int32) (v2 : Int32) (v3 : Int32) (v4 : Int32) (I : IT) (J : JT) (P : IT → JT → Prop) : Prop :=
  (SemZ g (d - 1) M_X6_trusts [.ref (ga g o0), .int v1] I J (fun r2 I2 J2 => (SemZ g (d - 1) M_X6_trusts [.ref (ga g o0), .int v3] I2 J2 (fun r9 I9 J9 => ((r2 = false → ((r2 = true → (Lp_X6_hearTwo_47 g d o0 v1 v2 v3 v4 r2 r9 I9 J9 P)) ∧ (r2 = false → ((r9 = false → (SemZ g (d - 1) M_X6_goOn [.ref (ga g o0)] I9 J9 (fun r74 I74 J74 => ((r2 = false → ((r9 = false → P I74 J74) ∧ (r9 = true → (SemV g (d - 1) M_X6_settle [.ref (ga g o0), .int v3, .int (bI r74)] I74 J74 (fun I100 J100 => P I100 J100))))) ∧ (r2 = true → (SemV g (d - 1) M_X6_settle [.ref (ga g o0), .int v1, .int (bI r74)] I74 J74 (fun I88 J88 => ((r9 = false → P I88 J88) ∧ (r9 = true → (SemV g (d - 1) M_X6_settle [.ref (ga g o0), .int v3, .int (bI r74)] I88 J88 (fun I100 J100 => P I100 J100))))))))))) ∧ (r9 = true → (Lp_X6_hearTwo_47 g d o0 v1 v2 v3 v4 r2 r9 I9 J9 P)))))) ∧ (r2 = true → ((r9 = false → ((r2 = true → (Lp_X6_hearTwo_47 g d o0 v1 v2 v3 v4 r2 r9 I9 J9 P)) ∧ (r2 = false → ((r9 = false → (SemZ g (d - 1) M_X6_goOn [.ref (ga g o0)] I9 J9 (fun r74 I74 J74 => ((r2 = false → ((r9 = false → P I74 J74) ∧ (r9 = true → (SemV g (d - 1) M_X6_settle [.ref (ga g o0), .int v3, .int (bI r74)] I74 J74 (fun I100 J100 => P I100 J100))))) ∧ (r2 = true → (SemV g (d - 1) M_X6_settle [.ref (ga g o0), .int v1, .int (bI r74)] I74 J74 (fun I88 J88 => ((r9 = false → P I88 J88) ∧ (r9 = true → (SemV g (d - 1) M_X6_settle [.ref (ga g o0), .int v3, .int (bI r74)] I88 J88 (fun I100 J100 => P I100 J100))))))))))) ∧ (r9 = true → (Lp_X6_hearTwo_47 g d o0 v1 v2 v3 v4 r2 r9 I9 J9 P)))))) ∧ (r9 = true → ((v2 = v4 → ((r2 = true → (Lp_X6_hearTwo_47 g d o0 v1 v2 v3 v4 r2 r9 I9 J9 P)) ∧ (r2 = false → ((r9 = false → (SemZ g (d - 1) M_X6_goOn [.ref (ga g o0)] I9 J9 (fun r74 I74 J74 => ((r2 = false → ((r9 = false → P I74 J74) ∧ (r9 = true → (SemV g (d - 1) M_X6_settle [.ref (ga g o0), .int v3, .int (bI r74)] I74 J74 (fun I100 J100 => P I100 J100))))) ∧ (r2 = true → (SemV g (d - 1) M_X6_settle [.ref (ga g o0), .int v1, .int (bI r74)] I74 J74 (fun I88 J88 => ((r9 = false → P I88 J88) ∧ (r9 = true → (SemV g (d - 1) M_X6_settle [.ref (ga g o0), .int v3, .int (bI r74)] I88 J88 (fun I100 J100 => P I100 J100))))))))))) ∧ (r9 = true → (Lp_X6_hearTwo_47 g d o0 v1 v2 v3 v4 r2 r9 I9 J9 P)))))) ∧ (¬ v2 = v4 → (SemV g (d - 1) M_X6_beTorn [.ref (ga g o0), .int v1, .int v3] I9 J9 (fun I33 J33 => P I33 J33))))))))))))
set_option maxRecDepth 4000 in
theorem w_X6_hearTwo {g : GT} {d : Nat} {o0 : Nat} {v1 : Int32} {v2 : Int32} {v3 : Int32} {v4 : Int32} {I : IT} {J : JT} {P : IT → JT → Prop} (ho0 : isV o0) (hd : 1 ≤ d) (hv : VC_X6_hearTwo g d o0 v1 v2 v3 v4 I J P) : SemV g d M_X6_hearTwo [.ref (ga g o0), .int v1, .int v2, .int v3, .int v4] I J P := by
  unfold VC_X6_hearTwo at hv
  refine sem_intro (by decide +kernel) rfl (Nat.le_of_ble_eq_true rfl) ?_
  show AW _ 0 0 0 [(0, .ref (ga g o0)), (1, .int v1), (2, .int v2), (3, .int v3), (4, .int v4)] [] (cW g I J)
  refine a_aload_n 0 dX6_hearTwo_0 rfl rfl ?_
  refine a_iload_n 1 dX6_hearTwo_1 rfl rfl ?_
  refine c_VZ (As := [.int v1]) (rest := []) hv K_X6_53 ho0.1 rfl rfl rfl (Nat.le_of_ble_eq_true rfl) (rok (by omega) (Nat.le_of_ble_eq_true rfl)) ⟨Nat.zero_le _, Nat.zero_le _⟩ dX6_hearTwo_2 (fun r2 I2 J2 hv => ?_)
  refine a_istore [(5, .int (bI r2)), (0, .ref (ga g o0)), (1, .int v1), (2, .int v2), (3, .int v3), (4, .int v4)] dX6_hearTwo_5 (Nat.le_of_ble_eq_true rfl) rfl ?_
  refine a_aload_n 1 dX6_hearTwo_7 rfl rfl ?_
  refine a_iload_n 4 dX6_hearTwo_8 rfl rfl ?_
  refine c_VZ (As := [.int v3]) (rest := []) hv K_X6_53 ho0.1 rfl rfl rfl (Nat.le_of_ble_eq_true rfl) (rok (by omega) (Nat.le_of_ble_eq_true rfl)) ⟨Nat.zero_le _, Nat.zero_le _⟩ dX6_hearTwo_9 (fun r9 I9 J9 hv => ?_)
  refine a_istore [(6, .int (bI r9)), (5, .int (bI r2)), (0, .ref (ga g o0)), (1, .int v1), (2, .int v2), (3, .int v3), (4, .int v4)] dX6_hearTwo_12 (Nat.le_of_ble_eq_true rfl) rfl ?_
  refine a_iload 1 dX6_hearTwo_14 rfl ?_
  refine a_ifz_eq 37 dX6_hearTwo_16 rfl (fun hc => ?_) (fun hc => ?_)
  · replace hv := hv.1 hc
    refine a_iload 1 dX6_hearTwo_37 rfl ?_
    refine a_ifz_ne 47 dX6_hearTwo_39 rfl (fun hc => ?_) (fun hc => ?_)
    · replace hv := hv.1 hc
      exact a_sub [2, 3, 4, 5, 6, 1, 0] rfl hv
    · replace hv := hv.2 hc
      refine a_iload 0 dX6_hearTwo_42 rfl ?_
      refine a_ifz_eq 73 dX6_hearTwo_44 rfl (fun hc => ?_) (fun hc => ?_)
      · replace hv := hv.1 hc
        refine a_aload_n 2 dX6_hearTwo_73 rfl rfl ?_
        refine c_VZ (As := []) (rest := []) hv K_X6_60 ho0.1 rfl rfl rfl (Nat.le_of_ble_eq_true rfl) (rok (by omega) (Nat.le_of_ble_eq_true rfl)) ⟨Nat.zero_le _, Nat.zero_le _⟩ dX6_hearTwo_74 (fun r74 I74 J74 hv => ?_)
        refine a_istore [(7, .int (bI r74)), (6, .int (bI r9)), (5, .int (bI r2)), (0, .ref (ga g o0)), (1, .int v1), (2, .int v2), (3, .int v3), (4, .int v4)] dX6_hearTwo_77 (Nat.le_of_ble_eq_true rfl) rfl ?_
        refine a_iload 2 dX6_hearTwo_79 rfl ?_
        refine a_ifz_eq 91 dX6_hearTwo_81 rfl (fun hc => ?_) (fun hc => ?_)
        · replace hv := hv.1 hc
          refine a_iload 1 dX6_hearTwo_91 rfl ?_
          refine a_ifz_eq 103 dX6_hearTwo_93 rfl (fun hc => ?_) (fun hc => ?_)
          · replace hv := hv.1 hc
            exact a_vret rfl dX6_hearTwo_103 hv
          · replace hv := hv.2 hc
            refine a_aload_n 3 dX6_hearTwo_96 rfl rfl ?_
            refine a_iload_n 6 dX6_hearTwo_97 rfl rfl ?_
            refine a_iload 0 dX6_hearTwo_98 rfl ?_
            refine c_VV (As := [.int v3, .int (bI r74)]) (rest := []) hv K_X6_64 ho0.1 rfl rfl rfl (Nat.le_of_ble_eq_true rfl) (rok (by omega) (Nat.le_of_ble_eq_true rfl)) ⟨Nat.zero_le _, Nat.zero_le _⟩ dX6_hearTwo_100 (fun I100 J100 hv => ?_)
            exact a_vret rfl dX6_hearTwo_103 hv
        · replace hv := hv.2 hc
          refine a_aload_n 3 dX6_hearTwo_84 rfl rfl ?_
          refine a_iload_n 4 dX6_hearTwo_85 rfl rfl ?_
          refine a_iload 0 dX6_hearTwo_86 rfl ?_
          refine c_VV (As := [.int v1, .int (bI r74)]) (rest := []) hv K_X6_64 ho0.1 rfl rfl rfl (Nat.le_of_ble_eq_true rfl) (rok (by omega) (Nat.le_of_ble_eq_true rfl)) ⟨Nat.zero_le _, Nat.zero_le _⟩ dX6_hearTwo_88 (fun I88 J88 hv => ?_)
          refine a_iload 1 dX6_hearTwo_91 rfl ?_
          refine a_ifz_eq 103 dX6_hearTwo_93 rfl (fun hc => ?_) (fun hc => ?_)
          · replace hv := hv.1 hc
            exact a_vret rfl dX6_hearTwo_103 hv
          · replace hv := hv.2 hc
            refine a_aload_n 3 dX6_hearTwo_96 rfl rfl ?_
            refine a_iload_n 6 dX6_hearTwo_97 rfl rfl ?_
            refine a_iload 0 dX6_hearTwo_98 rfl ?_
            refine c_VV (As := [.int v3, .int (bI r74)]) (rest := []) hv K_X6_64 ho0.1 rfl rfl rfl (Nat.le_of_ble_eq_true rfl) (rok (by omega) (Nat.le_of_ble_eq_true rfl)) ⟨Nat.zero_le _, Nat.zero_le _⟩ dX6_hearTwo_100 (fun I100 J100 hv => ?_)
            exact a_vret rfl dX6_hearTwo_103 hv
      · replace hv := hv.2 hc
        exact a_sub [2, 3, 4, 5, 6, 1, 0] rfl hv
  · replace hv := hv.2 hc
    refine a_iload 0 dX6_hearTwo_19 rfl ?_
    refine a_ifz_eq 37 dX6_hearTwo_21 rfl (fun hc => ?_) (fun hc => ?_)
    · replace hv := hv.1 hc
      refine a_iload 1 dX6_hearTwo_37 rfl ?_
      refine a_ifz_ne 47 dX6_hearTwo_39 rfl (fun hc => ?_) (fun hc => ?_)
      · replace hv := hv.1 hc
        exact a_sub [2, 3, 4, 5, 6, 1, 0] rfl hv
      · replace hv := hv.2 hc
        refine a_iload 0 dX6_hearTwo_42 rfl ?_
        refine a_ifz_eq 73 dX6_hearTwo_44 rfl (fun hc => ?_) (fun hc => ?_)
        · replace hv := hv.1 hc
          refine a_aload_n 2 dX6_hearTwo_73 rfl rfl ?_
          refine c_VZ (As := []) (rest := []) hv K_X6_60 ho0.1 rfl rfl rfl (Nat.le_of_ble_eq_true rfl) (rok (by omega) (Nat.le_of_ble_eq_true rfl)) ⟨Nat.zero_le _, Nat.zero_le _⟩ dX6_hearTwo_74 (fun r74 I74 J74 hv => ?_)
          refine a_istore [(7, .int (bI r74)), (6, .int (bI r9)), (5, .int (bI r2)), (0, .ref (ga g o0)), (1, .int v1), (2, .int v2), (3, .int v3), (4, .int v4)] dX6_hearTwo_77 (Nat.le_of_ble_eq_true rfl) rfl ?_
          refine a_iload 2 dX6_hearTwo_79 rfl ?_
          refine a_ifz_eq 91 dX6_hearTwo_81 rfl (fun hc => ?_) (fun hc => ?_)
          · replace hv := hv.1 hc
            refine a_iload 1 dX6_hearTwo_91 rfl ?_
            refine a_ifz_eq 103 dX6_hearTwo_93 rfl (fun hc => ?_) (fun hc => ?_)
            · replace hv := hv.1 hc
              exact a_vret rfl dX6_hearTwo_103 hv
            · replace hv := hv.2 hc
              refine a_aload_n 3 dX6_hearTwo_96 rfl rfl ?_
              refine a_iload_n 6 dX6_hearTwo_97 rfl rfl ?_
              refine a_iload 0 dX6_hearTwo_98 rfl ?_
              refine c_VV (As := [.int v3, .int (bI r74)]) (rest := []) hv K_X6_64 ho0.1 rfl rfl rfl (Nat.le_of_ble_eq_true rfl) (rok (by omega) (Nat.le_of_ble_eq_true rfl)) ⟨Nat.zero_le _, Nat.zero_le _⟩ dX6_hearTwo_100 (fun I100 J100 hv => ?_)
              exact a_vret rfl dX6_hearTwo_103 hv
          · replace hv := hv.2 hc
            refine a_aload_n 3 dX6_hearTwo_84 rfl rfl ?_
            refine a_iload_n 4 dX6_hearTwo_85 rfl rfl ?_
            refine a_iload 0 dX6_hearTwo_86 rfl ?_
            refine c_VV (As := [.int v1, .int (bI r74)]) (rest := []) hv K_X6_64 ho0.1 rfl rfl rfl (Nat.le_of_ble_eq_true rfl) (rok (by omega) (Nat.le_of_ble_eq_true rfl)) ⟨Nat.zero_le _, Nat.zero_le _⟩ dX6_hearTwo_88 (fun I88 J88 hv => ?_)
            refine a_iload 1 dX6_hearTwo_91 rfl ?_
            refine a_ifz_eq 103 dX6_hearTwo_93 rfl (fun hc => ?_) (fun hc => ?_)
            · replace hv := hv.1 hc
              exact a_vret rfl dX6_hearTwo_103 hv
            · replace hv := hv.2 hc
              refine a_aload_n 3 dX6_hearTwo_96 rfl rfl ?_
              refine a_iload_n 6 dX6_hearTwo_97 rfl rfl ?_
              refine a_iload 0 dX6_hearTwo_98 rfl ?_
              refine c_VV (As := [.int v3, .int (bI r74)]) (rest := []) hv K_X6_64 ho0.1 rfl rfl rfl (Nat.le_of_ble_eq_true rfl) (rok (by omega) (Nat.le_of_ble_eq_true rfl)) ⟨Nat.zero_le _, Nat.zero_le _⟩ dX6_hearTwo_100 (fun I100 J100 hv => ?_)
              exact a_vret rfl dX6_hearTwo_103 hv
        · replace hv := hv.2 hc
          exact a_sub [2, 3, 4, 5, 6, 1, 0] rfl hv
    · replace hv := hv.2 hc
      refine a_iload_n 4 dX6_hearTwo_24 rfl rfl ?_
      refine a_iload 6 dX6_hearTwo_25 rfl ?_
      refine a_icmp_eq 37 dX6_hearTwo_27 rfl (fun hc => ?_) (fun hc => ?_)
      · replace hv := hv.1 hc
        refine a_iload 1 dX6_hearTwo_37 rfl ?_
        refine a_ifz_ne 47 dX6_hearTwo_39 rfl (fun hc => ?_) (fun hc => ?_)
        · replace hv := hv.1 hc
          exact a_sub [2, 3, 4, 5, 6, 1, 0] rfl hv
        · replace hv := hv.2 hc
          refine a_iload 0 dX6_hearTwo_42 rfl ?_
          refine a_ifz_eq 73 dX6_hearTwo_44 rfl (fun hc => ?_) (fun hc => ?_)
          · replace hv := hv.1 hc
            refine a_aload_n 2 dX6_hearTwo_73 rfl rfl ?_
            refine c_VZ (As := []) (rest := []) hv K_X6_60 ho0.1 rfl rfl rfl (Nat.le_of_ble_eq_true rfl) (rok (by omega) (Nat.le_of_ble_eq_true rfl)) ⟨Nat.zero_le _, Nat.zero_le _⟩ dX6_hearTwo_74 (fun r74 I74 J74 hv => ?_)
            refine a_istore [(7, .int (bI r74)), (6, .int (bI r9)), (5, .int (bI r2)), (0, .ref (ga g o0)), (1, .int v1), (2, .int v2), (3, .int v3), (4, .int v4)] dX6_hearTwo_77 (Nat.le_of_ble_eq_true rfl) rfl ?_
            refine a_iload 2 dX6_hearTwo_79 rfl ?_
            refine a_ifz_eq 91 dX6_hearTwo_81 rfl (fun hc => ?_) (fun hc => ?_)
            · replace hv := hv.1 hc
              refine a_iload 1 dX6_hearTwo_91 rfl ?_
              refine a_ifz_eq 103 dX6_hearTwo_93 rfl (fun hc => ?_) (fun hc => ?_)
              · replace hv := hv.1 hc
                exact a_vret rfl dX6_hearTwo_103 hv
              · replace hv := hv.2 hc
                refine a_aload_n 3 dX6_hearTwo_96 rfl rfl ?_
                refine a_iload_n 6 dX6_hearTwo_97 rfl rfl ?_
                refine a_iload 0 dX6_hearTwo_98 rfl ?_
                refine c_VV (As := [.int v3, .int (bI r74)]) (rest := []) hv K_X6_64 ho0.1 rfl rfl rfl (Nat.le_of_ble_eq_true rfl) (rok (by omega) (Nat.le_of_ble_eq_true rfl)) ⟨Nat.zero_le _, Nat.zero_le _⟩ dX6_hearTwo_100 (fun I100 J100 hv => ?_)
                exact a_vret rfl dX6_hearTwo_103 hv
            · replace hv := hv.2 hc
              refine a_aload_n 3 dX6_hearTwo_84 rfl rfl ?_
              refine a_iload_n 4 dX6_hearTwo_85 rfl rfl ?_
              refine a_iload 0 dX6_hearTwo_86 rfl ?_
              refine c_VV (As := [.int v1, .int (bI r74)]) (rest := []) hv K_X6_64 ho0.1 rfl rfl rfl (Nat.le_of_ble_eq_true rfl) (rok (by omega) (Nat.le_of_ble_eq_true rfl)) ⟨Nat.zero_le _, Nat.zero_le _⟩ dX6_hearTwo_88 (fun I88 J88 hv => ?_)
              refine a_iload 1 dX6_hearTwo_91 rfl ?_
              refine a_ifz_eq 103 dX6_hearTwo_93 rfl (fun hc => ?_) (fun hc => ?_)
              · replace hv := hv.1 hc
                exact a_vret rfl dX6_hearTwo_103 hv
              · replace hv := hv.2 hc
                refine a_aload_n 3 dX6_hearTwo_96 rfl rfl ?_
                refine a_iload_n 6 dX6_hearTwo_97 rfl rfl ?_
                refine a_iload 0 dX6_hearTwo_98 rfl ?_
                refine c_VV (As := [.int v3, .int (bI r74)]) (rest := []) hv K_X6_64 ho0.1 rfl rfl rfl (Nat.le_of_ble_eq_true rfl) (rok (by omega) (Nat.le_of_ble_eq_true rfl)) ⟨Nat.zero_le _, Nat.zero_le _⟩ dX6_hearTwo_100 (fun I100 J100 hv => ?_)
                exact a_vret rfl dX6_hearTwo_103 hv
          · replace hv := hv.2 hc
            exact a_sub [2, 3, 4, 5, 6, 1, 0] rfl hv
      · replace hv := hv.2 hc
        refine a_aload_n 2 dX6_hearTwo_30 rfl rfl ?_
        refine a_iload_n 3 dX6_hearTwo_31 rfl rfl ?_
        refine a_iload_n 5 dX6_hearTwo_32 rfl rfl ?_
        refine c_VV (As := [.int v1, .int v3]) (rest := []) hv K_X6_68 ho0.1 rfl rfl rfl (Nat.le_of_ble_eq_true rfl) (rok (by omega) (Nat.le_of_ble_eq_true rfl)) ⟨Nat.zero_le _, Nat.zero_le _⟩ dX6_hearTwo_33 (fun I33 J33 hv => ?_)
        exact a_vret rfl dX6_hearTwo_36 hv
def VC_X6_beTorn (g : GT) (d : Nat) (o0 : Nat) (v1 : Int32) (v2 : Int32) (I : IT) (J : JT) (P : IT → JT → Prop) : Prop :=
  (SemV g (d - 1) M_X6_beWormed [.ref (ga g o0)] I J (fun I1 J1 => (vp_in v1 4 ∧ (vp_in v1 4 ∧ (vp_in v2 4 ∧ (vp_in v2 4 ∧ P (sI (sI I1 (o0 + 1) v1.toNatClampNeg (if 0 < ((I1 (o0 + 1) v1.toNatClampNeg) - 1) then ((I1 (o0 + 1) v1.toNatClampNeg) - 1) else 0)) (o0 + 1) v2.toNatClampNeg (if 0 < (((sI I1 (o0 + 1) v1.toNatClampNeg (if 0 < ((I1 (o0 + 1) v1.toNatClampNeg) - 1) then ((I1 (o0 + 1) v1.toNatClampNeg) - 1) else 0)) (o0 + 1) v2.toNatClampNeg) - 1) then (((sI I1 (o0 + 1) v1.toNatClampNeg (if 0 < ((I1 (o0 + 1) v1.toNatClampNeg) - 1) then ((I1 (o0 + 1) v1.toNatClampNeg) - 1) else 0)) (o0 + 1) v2.toNatClampNeg) - 1) else 0)) J1))))))
set_option maxRecDepth 4000 in
theorem w_X6_beTorn {g : GT} {d : Nat} {o0 : Nat} {v1 : Int32} {v2 : Int32} {I : IT} {J : JT} {P : IT → JT → Prop} (ho0 : isV o0) (hd : 1 ≤ d) (hv : VC_X6_beTorn g d o0 v1 v2 I J P) : SemV g d M_X6_beTorn [.ref (ga g o0), .int v1, .int v2] I J P := by
  unfold VC_X6_beTorn at hv
  refine sem_intro (by decide +kernel) rfl (Nat.le_of_ble_eq_true rfl) ?_
  show AW _ 0 0 0 [(0, .ref (ga g o0)), (1, .int v1), (2, .int v2)] [] (cW g I J)
  refine a_aload_n 0 dX6_beTorn_0 rfl rfl ?_
  refine c_VV (As := []) (rest := []) hv K_X6_72 ho0.1 rfl rfl rfl (Nat.le_of_ble_eq_true rfl) (rok (by omega) (Nat.le_of_ble_eq_true rfl)) ⟨Nat.zero_le _, Nat.zero_le _⟩ dX6_beTorn_1 (fun I1 J1 hv => ?_)
  refine a_aload_n 0 dX6_beTorn_4 rfl rfl ?_
  refine a_getR (r := (o0 + 1)) G_X6_9 ho0.1 rfl dX6_beTorn_5 ?_
  refine a_iload_n 1 dX6_beTorn_8 rfl rfl ?_
  refine a_iconst (v := 0) dX6_beTorn_9 (by decide) ?_
  refine a_aload_n 0 dX6_beTorn_10 rfl rfl ?_
  refine a_getR (r := (o0 + 1)) G_X6_9 ho0.1 rfl dX6_beTorn_11 ?_
  refine a_iload_n 1 dX6_beTorn_14 rfl rfl ?_
  refine a_iald ho0.2 hv.1 dX6_beTorn_15 ?_
  replace hv := hv.2
  refine a_iconst (v := 1) dX6_beTorn_16 (by decide) ?_
  refine a_isub dX6_beTorn_17 ?_
  refine a_mmax K_X6_75.1.1 (rokM hd (Nat.le_of_ble_eq_true rfl)) ⟨Nat.zero_le _, Nat.zero_le _⟩ dX6_beTorn_18 ?_
  refine a_iast ho0.2 hv.1 dX6_beTorn_21 ?_
  replace hv := hv.2
  refine a_aload_n 0 dX6_beTorn_22 rfl rfl ?_
  refine a_getR (r := (o0 + 1)) G_X6_9 ho0.1 rfl dX6_beTorn_23 ?_
  refine a_iload_n 2 dX6_beTorn_26 rfl rfl ?_
  refine a_iconst (v := 0) dX6_beTorn_27 (by decide) ?_
  refine a_aload_n 0 dX6_beTorn_28 rfl rfl ?_
  refine a_getR (r := (o0 + 1)) G_X6_9 ho0.1 rfl dX6_beTorn_29 ?_
  refine a_iload_n 2 dX6_beTorn_32 rfl rfl ?_
  refine a_iald ho0.2 hv.1 dX6_beTorn_33 ?_
  replace hv := hv.2
  refine a_iconst (v := 1) dX6_beTorn_34 (by decide) ?_
  refine a_isub dX6_beTorn_35 ?_
  refine a_mmax K_X6_75.1.1 (rokM hd (Nat.le_of_ble_eq_true rfl)) ⟨Nat.zero_le _, Nat.zero_le _⟩ dX6_beTorn_36 ?_
  refine a_iast ho0.2 hv.1 dX6_beTorn_39 ?_
  replace hv := hv.2
  exact a_vret rfl dX6_beTorn_40 hv
def VC_X6_goOn (g : GT) (d : Nat) (o0 : Nat) (I : IT) (J : JT) (P : Bool → IT → JT → Prop) : Prop :=
  (SemI g (d - 1) M_X3_ahead [.ref (ga g 4), .int (I o0 3), .int (I o0 4)] I J (fun r12 I12 J12 => ((0 ≤ r12 → P false (sI I12 o0 3 r12) J12) ∧ (¬ 0 ≤ r12 → (SemV g (d - 1) M_X6_beWormed [.ref (ga g o0)] I12 J12 (fun I21 J21 => P true I21 J21))))))
set_option maxRecDepth 4000 in
theorem w_X6_goOn {g : GT} {d : Nat} {o0 : Nat} {I : IT} {J : JT} {P : Bool → IT → JT → Prop} (ho0 : isV o0) (hd : 1 ≤ d) (hv : VC_X6_goOn g d o0 I J P) : SemZ g d M_X6_goOn [.ref (ga g o0)] I J P := by
  unfold VC_X6_goOn at hv
  refine sem_intro (by decide +kernel) rfl (Nat.le_of_ble_eq_true rfl) ?_
  show AW _ 0 0 0 [(0, .ref (ga g o0))] [] (cW g I J)
  refine a_aload_n 0 dX6_goOn_0 rfl rfl ?_
  refine a_getR (r := 4) G_X6_28 ho0.1 rfl dX6_goOn_1 ?_
  refine a_aload_n 0 dX6_goOn_4 rfl rfl ?_
  refine a_getI G_X6_19 ho0.1 rfl dX6_goOn_5 ?_
  refine a_aload_n 0 dX6_goOn_8 rfl rfl ?_
  refine a_getI G_X6_22 ho0.1 rfl dX6_goOn_9 ?_
  refine c_VI (As := [.int (I o0 3), .int (I o0 4)]) (rest := []) hv K_X6_81 sh_4 rfl rfl rfl (Nat.le_of_ble_eq_true rfl) (rok (by omega) (Nat.le_of_ble_eq_true rfl)) ⟨Nat.zero_le _, Nat.zero_le _⟩ dX6_goOn_12 (fun r12 I12 J12 hv => ?_)
  refine a_istore_n [(1, .int r12), (0, .ref (ga g o0))] dX6_goOn_15 rfl (Nat.le_of_ble_eq_true rfl) rfl ?_
  refine a_iload_n 0 dX6_goOn_16 rfl rfl ?_
  refine a_if_ge 26 dX6_goOn_17 rfl (fun hc => ?_) (fun hc => ?_)
  · replace hv := hv.1 hc
    refine a_aload_n 1 dX6_goOn_26 rfl rfl ?_
    refine a_iload_n 0 dX6_goOn_27 rfl rfl ?_
    refine a_putI H_X6_19 ho0.1 rfl rfl rfl dX6_goOn_28 ?_
    refine a_iconst (v := 0) dX6_goOn_31 (by decide) ?_
    exact a_zret _ false (by decide) rfl dX6_goOn_32 hv
  · replace hv := hv.2 hc
    refine a_aload_n 1 dX6_goOn_20 rfl rfl ?_
    refine c_VV (As := []) (rest := []) hv K_X6_72 ho0.1 rfl rfl rfl (Nat.le_of_ble_eq_true rfl) (rok (by omega) (Nat.le_of_ble_eq_true rfl)) ⟨Nat.zero_le _, Nat.zero_le _⟩ dX6_goOn_21 (fun I21 J21 hv => ?_)
    refine a_iconst (v := 1) dX6_goOn_24 (by decide) ?_
    exact a_zret _ true (by decide) rfl dX6_goOn_25 hv
def VC_X6_beWormed (g : GT) (d : Nat) (o0 : Nat) (I : IT) (J : JT) (P : IT → JT → Prop) : Prop :=
  P (sI I o0 5 (if ((I o0 5) + 1) < 5 then ((I o0 5) + 1) else 5)) J
set_option maxRecDepth 4000 in
theorem w_X6_beWormed {g : GT} {d : Nat} {o0 : Nat} {I : IT} {J : JT} {P : IT → JT → Prop} (ho0 : isV o0) (hd : 1 ≤ d) (hv : VC_X6_beWormed g d o0 I J P) : SemV g d M_X6_beWormed [.ref (ga g o0)] I J P := by
  unfold VC_X6_beWormed at hv
  refine sem_intro (by decide +kernel) rfl (Nat.le_of_ble_eq_true rfl) ?_
  show AW _ 0 0 0 [(0, .ref (ga g o0))] [] (cW g I J)
  refine a_aload_n 0 dX6_beWormed_0 rfl rfl ?_
  refine a_iconst (v := 5) dX6_beWormed_1 (by decide) ?_
  refine a_aload_n 0 dX6_beWormed_2 rfl rfl ?_
  refine a_getI G_X6_25 ho0.1 rfl dX6_beWormed_3 ?_
  refine a_iconst (v := 1) dX6_beWormed_6 (by decide) ?_
  refine a_iadd dX6_beWormed_7 ?_
  refine a_mmin K_X6_86.1.1 (rokM hd (Nat.le_of_ble_eq_true rfl)) ⟨Nat.zero_le _, Nat.zero_le _⟩ dX6_beWormed_8 ?_
  refine a_putI H_X6_25 ho0.1 rfl rfl rfl dX6_beWormed_11 ?_
  exact a_vret rfl dX6_beWormed_14 hv
def VC_X6_settle (g : GT) (d : Nat) (o0 : Nat) (v1 : Int32) (b2 : Bool) (I : IT) (J : JT) (P : IT → JT → Prop) : Prop :=
  ((b2 = false → (vp_in v1 4 ∧ (vp_in v1 4 ∧ P (sI I (o0 + 1) v1.toNatClampNeg (if ((I (o0 + 1) v1.toNatClampNeg) + 1) < 9 then ((I (o0 + 1) v1.toNatClampNeg) + 1) else 9)) J))) ∧ (b2 = true → (vp_in v1 4 ∧ (vp_in v1 4 ∧ P (sI I (o0 + 1) v1.toNatClampNeg (if 0 < ((I (o0 + 1) v1.toNatClampNeg) - 2) then ((I (o0 + 1) v1.toNatClampNeg) - 2) else 0)) J))))
set_option maxRecDepth 4000 in
theorem w_X6_settle {g : GT} {d : Nat} {o0 : Nat} {v1 : Int32} {b2 : Bool} {I : IT} {J : JT} {P : IT → JT → Prop} (ho0 : isV o0) (hd : 1 ≤ d) (hv : VC_X6_settle g d o0 v1 b2 I J P) : SemV g d M_X6_settle [.ref (ga g o0), .int v1, .int (bI b2)] I J P := by
  unfold VC_X6_settle at hv
  refine sem_intro (by decide +kernel) rfl (Nat.le_of_ble_eq_true rfl) ?_
  show AW _ 0 0 0 [(0, .ref (ga g o0)), (1, .int v1), (2, .int (bI b2))] [] (cW g I J)
  refine a_aload_n 0 dX6_settle_0 rfl rfl ?_
  refine a_getR (r := (o0 + 1)) G_X6_9 ho0.1 rfl dX6_settle_1 ?_
  refine a_iload_n 1 dX6_settle_4 rfl rfl ?_
  refine a_iload_n 2 dX6_settle_5 rfl rfl ?_
  refine a_ifz_eq 24 dX6_settle_6 rfl (fun hc => ?_) (fun hc => ?_)
  · replace hv := hv.1 hc
    refine a_bipush (v := 9) dX6_settle_24 (by decide) ?_
    refine a_aload_n 0 dX6_settle_26 rfl rfl ?_
    refine a_getR (r := (o0 + 1)) G_X6_9 ho0.1 rfl dX6_settle_27 ?_
    refine a_iload_n 1 dX6_settle_30 rfl rfl ?_
    refine a_iald ho0.2 hv.1 dX6_settle_31 ?_
    replace hv := hv.2
    refine a_iconst (v := 1) dX6_settle_32 (by decide) ?_
    refine a_iadd dX6_settle_33 ?_
    refine a_mmin K_X6_86.1.1 (rokM hd (Nat.le_of_ble_eq_true rfl)) ⟨Nat.zero_le _, Nat.zero_le _⟩ dX6_settle_34 ?_
    refine a_iast ho0.2 hv.1 dX6_settle_37 ?_
    replace hv := hv.2
    exact a_vret rfl dX6_settle_38 hv
  · replace hv := hv.2 hc
    refine a_iconst (v := 0) dX6_settle_9 (by decide) ?_
    refine a_aload_n 0 dX6_settle_10 rfl rfl ?_
    refine a_getR (r := (o0 + 1)) G_X6_9 ho0.1 rfl dX6_settle_11 ?_
    refine a_iload_n 1 dX6_settle_14 rfl rfl ?_
    refine a_iald ho0.2 hv.1 dX6_settle_15 ?_
    replace hv := hv.2
    refine a_iconst (v := 2) dX6_settle_16 (by decide) ?_
    refine a_isub dX6_settle_17 ?_
    refine a_mmax K_X6_75.1.1 (rokM hd (Nat.le_of_ble_eq_true rfl)) ⟨Nat.zero_le _, Nat.zero_le _⟩ dX6_settle_18 ?_
    refine a_goto 37 dX6_settle_21 rfl ?_
    refine a_iast ho0.2 hv.1 dX6_settle_37 ?_
    replace hv := hv.2
    exact a_vret rfl dX6_settle_38 hv
def Lp_X6_keepsTo_3 (g : GT) (d : Nat) (o0 : Nat) (v1 : Int32) (o2 : Nat) (v3 : Int32) (v4 : Int32) (v5 : Int32) (I : IT) (J : JT) (P : Bool → IT → JT → Prop) : Prop := AW (kM g d M_X6_keepsTo 0 0 (qZ g P)) 0 0 3 [(0, .ref (ga g o0)), (1, .int v1), (2, .ref (ga g o2)), (3, .int v3), (4, .int v4), (5, .int v5)] [] (cW g I J)
def VC_X6_keepsTo_3 (g : GT) (d : Nat) (o0 : Nat) (v1 : Int32) (o2 : Nat) (v3 : Int32) (v4 : Int32) (v5 : Int32) (I : IT) (J : JT) (P : Bool → IT → JT → Prop) : Prop :=
  ((v4 ≤ v5 → P true I J) ∧ (¬ v4 ≤ v5 → (vp_in (v3 + (2 * v5)) 24 ∧ (SemV g (d - 1) M_X6_hear [.ref (ga g o0), .int v1, .int ((J (o2 + 1) (v3 + (2 * v5)).toNatClampNeg).toInt32)] I J (fun I24 J24 => (vp_in ((v3 + (2 * v5)) + 1) 24 ∧ ((((I24 o0 3).toInt64) = (J24 (o2 + 1) ((v3 + (2 * v5)) + 1).toNatClampNeg) → (Lp_X6_keepsTo_3 g d o0 v1 o2 v3 v4 (v5 + 1) I24 J24 P)) ∧ (¬ ((I24 o0 3).toInt64) = (J24 (o2 + 1) ((v3 + (2 * v5)) + 1).toNatClampNeg) → P false I24 J24))))))))
set_option maxRecDepth 4000 in
theorem w_X6_keepsTo_3 {g : GT} {d : Nat} {o0 : Nat} {v1 : Int32} {o2 : Nat} {v3 : Int32} {v4 : Int32} {v5 : Int32} {I : IT} {J : JT} {P : Bool → IT → JT → Prop} (ho0 : isV o0) (ho2 : isS o2) (hd : 1 ≤ d) (hv : VC_X6_keepsTo_3 g d o0 v1 o2 v3 v4 v5 I J P) : Lp_X6_keepsTo_3 g d o0 v1 o2 v3 v4 v5 I J P := by
  unfold VC_X6_keepsTo_3 at hv
  unfold Lp_X6_keepsTo_3
  refine a_iload 5 dX6_keepsTo_3 rfl ?_
  refine a_iload 4 dX6_keepsTo_5 rfl ?_
  refine a_icmp_ge 57 dX6_keepsTo_7 rfl (fun hc => ?_) (fun hc => ?_)
  · replace hv := hv.1 hc
    refine a_iconst (v := 1) dX6_keepsTo_57 (by decide) ?_
    exact a_zret _ true (by decide) rfl dX6_keepsTo_58 hv
  · replace hv := hv.2 hc
    refine a_aload_n 0 dX6_keepsTo_10 rfl rfl ?_
    refine a_iload_n 1 dX6_keepsTo_11 rfl rfl ?_
    refine a_aload_n 2 dX6_keepsTo_12 rfl rfl ?_
    refine a_getR (r := (o2 + 1)) G_X6_89 ho2.1 rfl dX6_keepsTo_13 ?_
    refine a_iload_n 3 dX6_keepsTo_16 rfl rfl ?_
    refine a_iconst (v := 2) dX6_keepsTo_17 (by decide) ?_
    refine a_iload 5 dX6_keepsTo_18 rfl ?_
    refine a_imul dX6_keepsTo_20 ?_
    refine a_iadd dX6_keepsTo_21 ?_
    refine a_lald ho2.2 hv.1 dX6_keepsTo_22 ?_
    replace hv := hv.2
    refine a_l2i dX6_keepsTo_23 ?_
    refine c_VV (As := [.int v1, .int ((J (o2 + 1) (v3 + (2 * v5)).toNatClampNeg).toInt32)]) (rest := []) hv K_X6_95 ho0.1 rfl rfl rfl (Nat.le_of_ble_eq_true rfl) (rok (by omega) (Nat.le_of_ble_eq_true rfl)) ⟨Nat.zero_le _, Nat.zero_le _⟩ dX6_keepsTo_24 (fun I24 J24 hv => ?_)
    refine a_aload_n 0 dX6_keepsTo_27 rfl rfl ?_
    refine a_getI G_X6_19 ho0.1 rfl dX6_keepsTo_28 ?_
    refine a_i2l dX6_keepsTo_31 ?_
    refine a_aload_n 2 dX6_keepsTo_32 rfl rfl ?_
    refine a_getR (r := (o2 + 1)) G_X6_89 ho2.1 rfl dX6_keepsTo_33 ?_
    refine a_iload_n 3 dX6_keepsTo_36 rfl rfl ?_
    refine a_iconst (v := 2) dX6_keepsTo_37 (by decide) ?_
    refine a_iload 5 dX6_keepsTo_38 rfl ?_
    refine a_imul dX6_keepsTo_40 ?_
    refine a_iadd dX6_keepsTo_41 ?_
    refine a_iconst (v := 1) dX6_keepsTo_42 (by decide) ?_
    refine a_iadd dX6_keepsTo_43 ?_
    refine a_lald ho2.2 hv.1 dX6_keepsTo_44 ?_
    replace hv := hv.2
    refine a_lcmp dX6_keepsTo_45 ?_
    refine a_lcmp_eq 51 dX6_keepsTo_46 rfl (fun hc => ?_) (fun hc => ?_)
    · replace hv := hv.1 hc
      refine a_iinc 5 (v5 + 1) [(5, .int (v5 + 1)), (0, .ref (ga g o0)), (1, .int v1), (2, .ref (ga g o2)), (3, .int v3), (4, .int v4)] dX6_keepsTo_51 rfl rfl (Nat.le_of_ble_eq_true rfl) rfl ?_
      refine a_goto 3 dX6_keepsTo_54 rfl ?_
      exact a_sub [1, 2, 3, 4, 5, 0] rfl hv
    · replace hv := hv.2 hc
      refine a_iconst (v := 0) dX6_keepsTo_49 (by decide) ?_
      exact a_zret _ false (by decide) rfl dX6_keepsTo_50 hv
def VC_X6_keepsTo (g : GT) (d : Nat) (o0 : Nat) (v1 : Int32) (o2 : Nat) (v3 : Int32) (v4 : Int32) (I : IT) (J : JT) (P : Bool → IT → JT → Prop) : Prop :=
  (Lp_X6_keepsTo_3 g d o0 v1 o2 v3 v4 0 I J P)
set_option maxRecDepth 4000 in
theorem w_X6_keepsTo {g : GT} {d : Nat} {o0 : Nat} {v1 : Int32} {o2 : Nat} {v3 : Int32} {v4 : Int32} {I : IT} {J : JT} {P : Bool → IT → JT → Prop} (ho0 : isV o0) (ho2 : isS o2) (hv : VC_X6_keepsTo g d o0 v1 o2 v3 v4 I J P) : SemZ g d M_X6_keepsTo [.ref (ga g o0), .int v1, .ref (ga g o2), .int v3, .int v4] I J P := by
  unfold VC_X6_keepsTo at hv
  refine sem_intro (by decide +kernel) rfl (Nat.le_of_ble_eq_true rfl) ?_
  show AW _ 0 0 0 [(0, .ref (ga g o0)), (1, .int v1), (2, .ref (ga g o2)), (3, .int v3), (4, .int v4)] [] (cW g I J)
  refine a_iconst (v := 0) dX6_keepsTo_0 (by decide) ?_
  refine a_istore [(5, .int 0), (0, .ref (ga g o0)), (1, .int v1), (2, .ref (ga g o2)), (3, .int v3), (4, .int v4)] dX6_keepsTo_1 (Nat.le_of_ble_eq_true rfl) rfl ?_
  exact a_sub [1, 2, 3, 4, 5, 0] rfl hv
