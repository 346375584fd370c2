def VC_X8_in (g : GT) (d : Nat) (y0 : Int64) (y2 : Int64) (y4 : Int64) (I : IT) (J : JT) (P : Bool → IT → JT → Prop) : Prop :=
  ((y0 < y2 → P false I J) ∧ (¬ y0 < y2 → ((y4 < y0 → P false I J) ∧ (¬ y4 < y0 → P true I J))))
set_option maxRecDepth 4000 in
theorem w_X8_in {g : GT} {d : Nat} {y0 : Int64} {y2 : Int64} {y4 : Int64} {I : IT} {J : JT} {P : Bool → IT → JT → Prop} (hv : VC_X8_in g d y0 y2 y4 I J P) : SemZ g d M_X8_in [.long y0, .long y2, .long y4] I J P := by
  unfold VC_X8_in at hv
  refine sem_intro (by decide +kernel) rfl (Nat.le_of_ble_eq_true rfl) ?_
  show AW _ 0 0 0 [(0, .long y0), (2, .long y2), (4, .long y4)] [] (cW g I J)
  refine a_lload_n 0 dX8_in_0 rfl rfl ?_
  refine a_lload_n 1 dX8_in_1 rfl rfl ?_
  refine a_lcmp dX8_in_2 ?_
  refine a_lcmp_lt 17 dX8_in_3 rfl (fun hc => ?_) (fun hc => ?_)
  · replace hv := hv.1 hc
    refine a_iconst (v := 0) dX8_in_17 (by decide) ?_
    exact a_zret _ false (by decide) rfl dX8_in_18 hv
  · replace hv := hv.2 hc
    refine a_lload_n 0 dX8_in_6 rfl rfl ?_
    refine a_lload 2 dX8_in_7 rfl ?_
    refine a_lcmp dX8_in_9 ?_
    refine a_lcmp_gt 17 dX8_in_10 rfl (fun hc => ?_) (fun hc => ?_)
    · replace hv := hv.1 hc
      refine a_iconst (v := 0) dX8_in_17 (by decide) ?_
      exact a_zret _ false (by decide) rfl dX8_in_18 hv
    · replace hv := hv.2 hc
      refine a_iconst (v := 1) dX8_in_13 (by decide) ?_
      refine a_goto 18 dX8_in_14 rfl ?_
      exact a_zret _ true (by decide) rfl dX8_in_18 hv
def VC_X8_has (g : GT) (d : Nat) (v0 : Int32) (v1 : Int32) (I : IT) (J : JT) (P : Bool → IT → JT → Prop) : Prop :=
  ((¬ ((v0 >>> (v1 &&& 31)) &&& 1) = 1 → P false I J) ∧ (((v0 >>> (v1 &&& 31)) &&& 1) = 1 → P true I J))
set_option maxRecDepth 4000 in
theorem w_X8_has {g : GT} {d : Nat} {v0 : Int32} {v1 : Int32} {I : IT} {J : JT} {P : Bool → IT → JT → Prop} (hv : VC_X8_has g d v0 v1 I J P) : SemZ g d M_X8_has [.int v0, .int v1] I J P := by
  unfold VC_X8_has at hv
  refine sem_intro (by decide +kernel) rfl (Nat.le_of_ble_eq_true rfl) ?_
  show AW _ 0 0 0 [(0, .int v0), (1, .int v1)] [] (cW g I J)
  refine a_iload_n 0 dX8_has_0 rfl rfl ?_
  refine a_iload_n 1 dX8_has_1 rfl rfl ?_
  refine a_ishr dX8_has_2 ?_
  refine a_iconst (v := 1) dX8_has_3 (by decide) ?_
  refine a_iand dX8_has_4 ?_
  refine a_iconst (v := 1) dX8_has_5 (by decide) ?_
  refine a_icmp_ne 13 dX8_has_6 rfl (fun hc => ?_) (fun hc => ?_)
  · replace hv := hv.1 hc
    refine a_iconst (v := 0) dX8_has_13 (by decide) ?_
    exact a_zret _ false (by decide) rfl dX8_has_14 hv
  · replace hv := hv.2 hc
    refine a_iconst (v := 1) dX8_has_9 (by decide) ?_
    refine a_goto 14 dX8_has_10 rfl ?_
    exact a_zret _ true (by decide) rfl dX8_has_14 hv
def Lp_X8_bring_3 (g : GT) (d : Nat) (v1 : Int32) (v2 : Int32) (v3 : Int32) (v4 : Int32) (I : IT) (J : JT) (P : IT → JT → Prop) : Prop := AW (kM g d M_X8_bring 0 0 (qV g P)) 0 0 3 [(0, .ref (ga g 118)), (1, .int v1), (2, .int v2), (3, .int v3), (4, .int v4)] [] (cW g I J)
def VC_X8_bring_3 (g : GT) (d : Nat) (v1 : Int32) (v2 : Int32) (v3 : Int32) (v4 : Int32) (I : IT) (J : JT) (P : IT → JT → Prop) : Prop :=
  ((v3 ≤ v4 → P I J) ∧ (¬ v3 ≤ v4 → (vp_in (v1 + v4) 952 ∧ (vp_in (v2 + v4) 952 ∧ (Lp_X8_bring_3 g d v1 v2 v3 (v4 + 1) (sI I 119 (v2 + v4).toNatClampNeg (I 119 (v1 + v4).toNatClampNeg)) J P)))))
set_option maxRecDepth 4000 in
theorem w_X8_bring_3 {g : GT} {d : Nat} {v1 : Int32} {v2 : Int32} {v3 : Int32} {v4 : Int32} {I : IT} {J : JT} {P : IT → JT → Prop} (hv : VC_X8_bring_3 g d v1 v2 v3 v4 I J P) : Lp_X8_bring_3 g d v1 v2 v3 v4 I J P := by
  unfold VC_X8_bring_3 at hv
  unfold Lp_X8_bring_3
  refine a_iload 4 dX8_bring_3 rfl ?_
  refine a_iload_n 3 dX8_bring_5 rfl rfl ?_
  refine a_icmp_ge 33 dX8_bring_6 rfl (fun hc => ?_) (fun hc => ?_)
  · replace hv := hv.1 hc
    exact a_vret rfl dX8_bring_33 hv
  · replace hv := hv.2 hc
    refine a_aload_n 0 dX8_bring_9 rfl rfl ?_
    refine a_getR (r := 119) G_X8_7 sh_118 rfl dX8_bring_10 ?_
    refine a_iload_n 2 dX8_bring_13 rfl rfl ?_
    refine a_iload 4 dX8_bring_14 rfl ?_
    refine a_iadd dX8_bring_16 ?_
    refine a_aload_n 0 dX8_bring_17 rfl rfl ?_
    refine a_getR (r := 119) G_X8_7 sh_118 rfl dX8_bring_18 ?_
    refine a_iload_n 1 dX8_bring_21 rfl rfl ?_
    refine a_iload 4 dX8_bring_22 rfl ?_
    refine a_iadd dX8_bring_24 ?_
    refine a_iald sh_119 hv.1 dX8_bring_25 ?_
    replace hv := hv.2
    refine a_iast sh_119 hv.1 dX8_bring_26 ?_
    replace hv := hv.2
    refine a_iinc 4 (v4 + 1) [(4, .int (v4 + 1)), (0, .ref (ga g 118)), (1, .int v1), (2, .int v2), (3, .int v3)] dX8_bring_27 rfl rfl (Nat.le_of_ble_eq_true rfl) rfl ?_
    refine a_goto 3 dX8_bring_30 rfl ?_
    exact a_sub [1, 2, 3, 4, 0] rfl hv
def VC_X8_bring (g : GT) (d : Nat) (v1 : Int32) (v2 : Int32) (v3 : Int32) (I : IT) (J : JT) (P : IT → JT → Prop) : Prop :=
  (Lp_X8_bring_3 g d v1 v2 v3 0 I J P)
set_option maxRecDepth 4000 in
theorem w_X8_bring {g : GT} {d : Nat} {v1 : Int32} {v2 : Int32} {v3 : Int32} {I : IT} {J : JT} {P : IT → JT → Prop} (hv : VC_X8_bring g d v1 v2 v3 I J P) : SemV g d M_X8_bring [.ref (ga g 118), .int v1, .int v2, .int v3] I J P := by
  unfold VC_X8_bring at hv
  refine sem_intro (by decide +kernel) rfl (Nat.le_of_ble_eq_true rfl) ?_
  show AW _ 0 0 0 [(0, .ref (ga g 118)), (1, .int v1), (2, .int v2), (3, .int v3)] [] (cW g I J)
  refine a_iconst (v := 0) dX8_bring_0 (by decide) ?_
  refine a_istore [(4, .int 0), (0, .ref (ga g 118)), (1, .int v1), (2, .int v2), (3, .int v3)] dX8_bring_1 (Nat.le_of_ble_eq_true rfl) rfl ?_
  exact a_sub [1, 2, 3, 4, 0] rfl hv
def VC_X8_isFleet (g : GT) (d : Nat)  (I : IT) (J : JT) (P : Bool → IT → JT → Prop) : Prop :=
  (((I 119 0) ≤ 0 → P false I J) ∧ (¬ (I 119 0) ≤ 0 → P true I J))
set_option maxRecDepth 4000 in
theorem w_X8_isFleet {g : GT} {d : Nat}  {I : IT} {J : JT} {P : Bool → IT → JT → Prop} (hv : VC_X8_isFleet g d  I J P) : SemZ g d M_X8_isFleet [.ref (ga g 118)] I J P := by
  unfold VC_X8_isFleet at hv
  refine sem_intro (by decide +kernel) rfl (Nat.le_of_ble_eq_true rfl) ?_
  show AW _ 0 0 0 [(0, .ref (ga g 118))] [] (cW g I J)
  refine a_aload_n 0 dX8_isFleet_0 rfl rfl ?_
  refine a_getR (r := 119) G_X8_7 sh_118 rfl dX8_isFleet_1 ?_
  refine a_iconst (v := 0) dX8_isFleet_4 (by decide) ?_
  refine a_iald sh_119 (by unfold vp_in; decide) dX8_isFleet_5 ?_
  refine a_if_le 13 dX8_isFleet_6 rfl (fun hc => ?_) (fun hc => ?_)
  · replace hv := hv.1 hc
    refine a_iconst (v := 0) dX8_isFleet_13 (by decide) ?_
    exact a_zret _ false (by decide) rfl dX8_isFleet_14 hv
  · replace hv := hv.2 hc
    refine a_iconst (v := 1) dX8_isFleet_9 (by decide) ?_
    refine a_goto 14 dX8_isFleet_10 rfl ?_
    exact a_zret _ true (by decide) rfl dX8_isFleet_14 hv
def VC_X8_isShip (g : GT) (d : Nat) (v1 : Int32) (I : IT) (J : JT) (P : Bool → IT → JT → Prop) : Prop :=
  (SemZ g (d - 1) M_X8_in [.long (v1.toInt64), .long 0, .long (((I 119 0) - 1).toInt64)] I J (fun r12 I12 J12 => P r12 I12 J12))
set_option maxRecDepth 4000 in
theorem w_X8_isShip {g : GT} {d : Nat} {v1 : Int32} {I : IT} {J : JT} {P : Bool → IT → JT → Prop} (hd : 1 ≤ d) (hv : VC_X8_isShip g d v1 I J P) : SemZ g d M_X8_isShip [.ref (ga g 118), .int v1] I J P := by
  unfold VC_X8_isShip at hv
  refine sem_intro (by decide +kernel) rfl (Nat.le_of_ble_eq_true rfl) ?_
  show AW _ 0 0 0 [(0, .ref (ga g 118)), (1, .int v1)] [] (cW g I J)
  refine a_iload_n 1 dX8_isShip_0 rfl rfl ?_
  refine a_i2l dX8_isShip_1 ?_
  refine a_lconst (v := 0) dX8_isShip_2 (by decide) ?_
  refine a_aload_n 0 dX8_isShip_3 rfl rfl ?_
  refine a_getR (r := 119) G_X8_7 sh_118 rfl dX8_isShip_4 ?_
  refine a_iconst (v := 0) dX8_isShip_7 (by decide) ?_
  refine a_iald sh_119 (by unfold vp_in; decide) dX8_isShip_8 ?_
  refine a_iconst (v := 1) dX8_isShip_9 (by decide) ?_
  refine a_isub dX8_isShip_10 ?_
  refine a_i2l dX8_isShip_11 ?_
  refine c_SZ (As := [.long (v1.toInt64), .long 0, .long (((I 119 0) - 1).toInt64)]) (rest := []) hv K_X8_44 rfl rfl (Nat.le_of_ble_eq_true rfl) (rok (by omega) (Nat.le_of_ble_eq_true rfl)) ⟨Nat.zero_le _, Nat.zero_le _⟩ dX8_isShip_12 (fun r12 I12 J12 hv => ?_)
  exact a_zret _ r12 rfl rfl dX8_isShip_15 hv
def VC_X8_isTeller (g : GT) (d : Nat) (v0 : Int32) (I : IT) (J : JT) (P : Bool → IT → JT → Prop) : Prop :=
  (SemZ g (d - 1) M_X8_in [.long (v0.toInt64), .long 0, .long 3] I J (fun r6 I6 J6 => P r6 I6 J6))
set_option maxRecDepth 4000 in
theorem w_X8_isTeller {g : GT} {d : Nat} {v0 : Int32} {I : IT} {J : JT} {P : Bool → IT → JT → Prop} (hd : 1 ≤ d) (hv : VC_X8_isTeller g d v0 I J P) : SemZ g d M_X8_isTeller [.int v0] I J P := by
  unfold VC_X8_isTeller at hv
  refine sem_intro (by decide +kernel) rfl (Nat.le_of_ble_eq_true rfl) ?_
  show AW _ 0 0 0 [(0, .int v0)] [] (cW g I J)
  refine a_iload_n 0 dX8_isTeller_0 rfl rfl ?_
  refine a_i2l dX8_isTeller_1 ?_
  refine a_lconst (v := 0) dX8_isTeller_2 (by decide) ?_
  refine a_ldc2 (v := 3) dX8_isTeller_3 cl_X8_48 ?_
  refine c_SZ (As := [.long (v0.toInt64), .long 0, .long 3]) (rest := []) hv K_X8_44 rfl rfl (Nat.le_of_ble_eq_true rfl) (rok (by omega) (Nat.le_of_ble_eq_true rfl)) ⟨Nat.zero_le _, Nat.zero_le _⟩ dX8_isTeller_6 (fun r6 I6 J6 hv => ?_)
  exact a_zret _ r6 rfl rfl dX8_isTeller_9 hv
def VC_X8_isCellIn (g : GT) (d : Nat) (v1 : Int32) (v2 : Int32) (v3 : Int32) (I : IT) (J : JT) (P : Bool → IT → JT → Prop) : Prop :=
  (vp_in (v1 + 1) 952 ∧ (SemZ g (d - 1) M_X8_in [.long (v2.toInt64), .long 0, .long (((I 119 (v1 + 1).toNatClampNeg) - 1).toInt64)] I J (fun r14 I14 J14 => ((r14 = false → P false I14 J14) ∧ (r14 = true → (vp_in (v1 + 2) 952 ∧ (SemZ g (d - 1) M_X8_in [.long (v3.toInt64), .long 0, .long (((I14 119 (v1 + 2).toNatClampNeg) - 1).toInt64)] I14 J14 (fun r34 I34 J34 => ((r34 = false → P false I34 J34) ∧ (r34 = true → P true I34 J34))))))))))
set_option maxRecDepth 4000 in
theorem w_X8_isCellIn {g : GT} {d : Nat} {v1 : Int32} {v2 : Int32} {v3 : Int32} {I : IT} {J : JT} {P : Bool → IT → JT → Prop} (hd : 1 ≤ d) (hv : VC_X8_isCellIn g d v1 v2 v3 I J P) : SemZ g d M_X8_isCellIn [.ref (ga g 118), .int v1, .int v2, .int v3] I J P := by
  unfold VC_X8_isCellIn at hv
  refine sem_intro (by decide +kernel) rfl (Nat.le_of_ble_eq_true rfl) ?_
  show AW _ 0 0 0 [(0, .ref (ga g 118)), (1, .int v1), (2, .int v2), (3, .int v3)] [] (cW g I J)
  refine a_iload_n 2 dX8_isCellIn_0 rfl rfl ?_
  refine a_i2l dX8_isCellIn_1 ?_
  refine a_lconst (v := 0) dX8_isCellIn_2 (by decide) ?_
  refine a_aload_n 0 dX8_isCellIn_3 rfl rfl ?_
  refine a_getR (r := 119) G_X8_7 sh_118 rfl dX8_isCellIn_4 ?_
  refine a_iload_n 1 dX8_isCellIn_7 rfl rfl ?_
  refine a_iconst (v := 1) dX8_isCellIn_8 (by decide) ?_
  refine a_iadd dX8_isCellIn_9 ?_
  refine a_iald sh_119 hv.1 dX8_isCellIn_10 ?_
  replace hv := hv.2
  refine a_iconst (v := 1) dX8_isCellIn_11 (by decide) ?_
  refine a_isub dX8_isCellIn_12 ?_
  refine a_i2l dX8_isCellIn_13 ?_
  refine c_SZ (As := [.long (v2.toInt64), .long 0, .long (((I 119 (v1 + 1).toNatClampNeg) - 1).toInt64)]) (rest := []) hv K_X8_44 rfl rfl (Nat.le_of_ble_eq_true rfl) (rok (by omega) (Nat.le_of_ble_eq_true rfl)) ⟨Nat.zero_le _, Nat.zero_le _⟩ dX8_isCellIn_14 (fun r14 I14 J14 hv => ?_)
  refine a_ifz_eq 44 dX8_isCellIn_17 rfl (fun hc => ?_) (fun hc => ?_)
  · replace hv := hv.1 hc
    refine a_iconst (v := 0) dX8_isCellIn_44 (by decide) ?_
    exact a_zret _ false (by decide) rfl dX8_isCellIn_45 hv
  · replace hv := hv.2 hc
    refine a_iload_n 3 dX8_isCellIn_20 rfl rfl ?_
    refine a_i2l dX8_isCellIn_21 ?_
    refine a_lconst (v := 0) dX8_isCellIn_22 (by decide) ?_
    refine a_aload_n 0 dX8_isCellIn_23 rfl rfl ?_
    refine a_getR (r := 119) G_X8_7 sh_118 rfl dX8_isCellIn_24 ?_
    refine a_iload_n 1 dX8_isCellIn_27 rfl rfl ?_
    refine a_iconst (v := 2) dX8_isCellIn_28 (by decide) ?_
    refine a_iadd dX8_isCellIn_29 ?_
    refine a_iald sh_119 hv.1 dX8_isCellIn_30 ?_
    replace hv := hv.2
    refine a_iconst (v := 1) dX8_isCellIn_31 (by decide) ?_
    refine a_isub dX8_isCellIn_32 ?_
    refine a_i2l dX8_isCellIn_33 ?_
    refine c_SZ (As := [.long (v3.toInt64), .long 0, .long (((I14 119 (v1 + 2).toNatClampNeg) - 1).toInt64)]) (rest := []) hv K_X8_44 rfl rfl (Nat.le_of_ble_eq_true rfl) (rok (by omega) (Nat.le_of_ble_eq_true rfl)) ⟨Nat.zero_le _, Nat.zero_le _⟩ dX8_isCellIn_34 (fun r34 I34 J34 hv => ?_)
    refine a_ifz_eq 44 dX8_isCellIn_37 rfl (fun hc => ?_) (fun hc => ?_)
    · replace hv := hv.1 hc
      refine a_iconst (v := 0) dX8_isCellIn_44 (by decide) ?_
      exact a_zret _ false (by decide) rfl dX8_isCellIn_45 hv
    · replace hv := hv.2 hc
      refine a_iconst (v := 1) dX8_isCellIn_40 (by decide) ?_
      refine a_goto 45 dX8_isCellIn_41 rfl ?_
      exact a_zret _ true (by decide) rfl dX8_isCellIn_45 hv
def VC_X8_isCell (g : GT) (d : Nat) (v1 : Int32) (I : IT) (J : JT) (P : Bool → IT → JT → Prop) : Prop :=
  ((v1 < 0 → P false I J) ∧ (¬ v1 < 0 → (SemZ g (d - 1) M_X8_isCellIn [.ref (ga g 118), .int 0, .int (v1 / 8), .int (v1 - v1 / 8 * 8)] I J (fun r14 I14 J14 => ((r14 = false → P false I14 J14) ∧ (r14 = true → P true I14 J14))))))
set_option maxRecDepth 4000 in
theorem w_X8_isCell {g : GT} {d : Nat} {v1 : Int32} {I : IT} {J : JT} {P : Bool → IT → JT → Prop} (hd : 1 ≤ d) (hv : VC_X8_isCell g d v1 I J P) : SemZ g d M_X8_isCell [.ref (ga g 118), .int v1] I J P := by
  unfold VC_X8_isCell at hv
  refine sem_intro (by decide +kernel) rfl (Nat.le_of_ble_eq_true rfl) ?_
  show AW _ 0 0 0 [(0, .ref (ga g 118)), (1, .int v1)] [] (cW g I J)
  refine a_iload_n 1 dX8_isCell_0 rfl rfl ?_
  refine a_if_lt 24 dX8_isCell_1 rfl (fun hc => ?_) (fun hc => ?_)
  · replace hv := hv.1 hc
    refine a_iconst (v := 0) dX8_isCell_24 (by decide) ?_
    exact a_zret _ false (by decide) rfl dX8_isCell_25 hv
  · replace hv := hv.2 hc
    refine a_aload_n 0 dX8_isCell_4 rfl rfl ?_
    refine a_iconst (v := 0) dX8_isCell_5 (by decide) ?_
    refine a_iload_n 1 dX8_isCell_6 rfl rfl ?_
    refine a_bipush (v := 8) dX8_isCell_7 (by decide) ?_
    refine a_idiv dX8_isCell_9 (by decide) ?_
    refine a_iload_n 1 dX8_isCell_10 rfl rfl ?_
    refine a_bipush (v := 8) dX8_isCell_11 (by decide) ?_
    refine a_irem dX8_isCell_13 (by decide) ?_
    refine c_VZ (As := [.int 0, .int (v1 / 8), .int (v1 - v1 / 8 * 8)]) (rest := []) hv K_X8_50 sh_118 rfl rfl rfl (Nat.le_of_ble_eq_true rfl) (rok (by omega) (Nat.le_of_ble_eq_true rfl)) ⟨Nat.zero_le _, Nat.zero_le _⟩ dX8_isCell_14 (fun r14 I14 J14 hv => ?_)
    refine a_ifz_eq 24 dX8_isCell_17 rfl (fun hc => ?_) (fun hc => ?_)
    · replace hv := hv.1 hc
      refine a_iconst (v := 0) dX8_isCell_24 (by decide) ?_
      exact a_zret _ false (by decide) rfl dX8_isCell_25 hv
    · replace hv := hv.2 hc
      refine a_iconst (v := 1) dX8_isCell_20 (by decide) ?_
      refine a_goto 25 dX8_isCell_21 rfl ?_
      exact a_zret _ true (by decide) rfl dX8_isCell_25 hv
def VC_X8_feed (g : GT) (d : Nat) (v1 : Int32) (I : IT) (J : JT) (P : Int32 → IT → JT → Prop) : Prop :=
  (SemZ g (d - 1) M_X8_in [.long (v1.toInt64), .long 0, .long 255] I J (fun r6 I6 J6 => ((r6 = true → ((¬ (I6 118 3) = 130 → (vp_in (I6 118 3) 130 ∧ P ((sI (sI I6 120 (I6 118 3).toNatClampNeg v1) 118 3 (((sI I6 120 (I6 118 3).toNatClampNeg v1) 118 3) + 1)) 118 3) (sI (sI I6 120 (I6 118 3).toNatClampNeg v1) 118 3 (((sI I6 120 (I6 118 3).toNatClampNeg v1) 118 3) + 1)) J6)) ∧ ((I6 118 3) = 130 → P (-3) I6 J6))) ∧ (r6 = false → P (-1) I6 J6))))
set_option maxRecDepth 4000 in
theorem w_X8_feed {g : GT} {d : Nat} {v1 : Int32} {I : IT} {J : JT} {P : Int32 → IT → JT → Prop} (hd : 1 ≤ d) (hv : VC_X8_feed g d v1 I J P) : SemI g d M_X8_feed [.ref (ga g 118), .int v1] I J P := by
  unfold VC_X8_feed at hv
  refine sem_intro (by decide +kernel) rfl (Nat.le_of_ble_eq_true rfl) ?_
  show AW _ 0 0 0 [(0, .ref (ga g 118)), (1, .int v1)] [] (cW g I J)
  refine a_iload_n 1 dX8_feed_0 rfl rfl ?_
  refine a_i2l dX8_feed_1 ?_
  refine a_lconst (v := 0) dX8_feed_2 (by decide) ?_
  refine a_ldc2 (v := 255) dX8_feed_3 cl_X8_54 ?_
  refine c_SZ (As := [.long (v1.toInt64), .long 0, .long 255]) (rest := []) hv K_X8_44 rfl rfl (Nat.le_of_ble_eq_true rfl) (rok (by omega) (Nat.le_of_ble_eq_true rfl)) ⟨Nat.zero_le _, Nat.zero_le _⟩ dX8_feed_6 (fun r6 I6 J6 hv => ?_)
  refine a_ifz_ne 14 dX8_feed_9 rfl (fun hc => ?_) (fun hc => ?_)
  · replace hv := hv.1 hc
    refine a_aload_n 0 dX8_feed_14 rfl rfl ?_
    refine a_getI G_X8_56 sh_118 rfl dX8_feed_15 ?_
    refine a_sipush (v := 130) dX8_feed_18 (by decide) ?_
    refine a_icmp_ne 27 dX8_feed_21 rfl (fun hc => ?_) (fun hc => ?_)
    · replace hv := hv.1 hc
      refine a_aload_n 0 dX8_feed_27 rfl rfl ?_
      refine a_getR (r := 120) G_X8_13 sh_118 rfl dX8_feed_28 ?_
      refine a_aload_n 0 dX8_feed_31 rfl rfl ?_
      refine a_getI G_X8_56 sh_118 rfl dX8_feed_32 ?_
      refine a_iload_n 1 dX8_feed_35 rfl rfl ?_
      refine a_iast sh_120 hv.1 dX8_feed_36 ?_
      replace hv := hv.2
      refine a_aload_n 0 dX8_feed_37 rfl rfl ?_
      refine a_dup dX8_feed_38 rfl ?_
      refine a_getI G_X8_56 sh_118 rfl dX8_feed_39 ?_
      refine a_iconst (v := 1) dX8_feed_42 (by decide) ?_
      refine a_iadd dX8_feed_43 ?_
      refine a_putI H_X8_56 sh_118 rfl rfl rfl dX8_feed_44 ?_
      refine a_aload_n 0 dX8_feed_47 rfl rfl ?_
      refine a_getI G_X8_56 sh_118 rfl dX8_feed_48 ?_
      exact a_iret rfl dX8_feed_51 hv
    · replace hv := hv.2 hc
      refine a_bipush (v := (-3)) dX8_feed_24 (by decide) ?_
      exact a_iret rfl dX8_feed_26 hv
  · replace hv := hv.2 hc
    refine a_iconst (v := (-1)) dX8_feed_12 (by decide) ?_
    exact a_iret rfl dX8_feed_13 hv
def VC_X8_here (g : GT) (d : Nat)  (I : IT) (J : JT) (P : Int32 → IT → JT → Prop) : Prop :=
  (((I 118 3) ≤ (I 118 7) → P (-1) I J) ∧ (¬ (I 118 3) ≤ (I 118 7) → (vp_in (I 118 7) 130 ∧ P (I 120 (I 118 7).toNatClampNeg) I J)))
set_option maxRecDepth 4000 in
theorem w_X8_here {g : GT} {d : Nat}  {I : IT} {J : JT} {P : Int32 → IT → JT → Prop} (hv : VC_X8_here g d  I J P) : SemI g d M_X8_here [.ref (ga g 118)] I J P := by
  unfold VC_X8_here at hv
  refine sem_intro (by decide +kernel) rfl (Nat.le_of_ble_eq_true rfl) ?_
  show AW _ 0 0 0 [(0, .ref (ga g 118))] [] (cW g I J)
  refine a_aload_n 0 dX8_here_0 rfl rfl ?_
  refine a_getI G_X8_60 sh_118 rfl dX8_here_1 ?_
  refine a_aload_n 0 dX8_here_4 rfl rfl ?_
  refine a_getI G_X8_56 sh_118 rfl dX8_here_5 ?_
  refine a_icmp_ge 23 dX8_here_8 rfl (fun hc => ?_) (fun hc => ?_)
  · replace hv := hv.1 hc
    refine a_iconst (v := (-1)) dX8_here_23 (by decide) ?_
    exact a_iret rfl dX8_here_24 hv
  · replace hv := hv.2 hc
    refine a_aload_n 0 dX8_here_11 rfl rfl ?_
    refine a_getR (r := 120) G_X8_13 sh_118 rfl dX8_here_12 ?_
    refine a_aload_n 0 dX8_here_15 rfl rfl ?_
    refine a_getI G_X8_60 sh_118 rfl dX8_here_16 ?_
    refine a_iald sh_120 hv.1 dX8_here_19 ?_
    replace hv := hv.2
    refine a_goto 24 dX8_here_20 rfl ?_
    exact a_iret rfl dX8_here_24 hv
def VC_X8_takes (g : GT) (d : Nat) (v1 : Int32) (I : IT) (J : JT) (P : Bool → IT → JT → Prop) : Prop :=
  (SemI g (d - 1) M_X8_here [.ref (ga g 118)] I J (fun r1 I1 J1 => ((r1 = v1 → P true (sI I1 118 7 ((I1 118 7) + 1)) J1) ∧ (¬ r1 = v1 → P false I1 J1))))
set_option maxRecDepth 4000 in
theorem w_X8_takes {g : GT} {d : Nat} {v1 : Int32} {I : IT} {J : JT} {P : Bool → IT → JT → Prop} (hd : 1 ≤ d) (hv : VC_X8_takes g d v1 I J P) : SemZ g d M_X8_takes [.ref (ga g 118), .int v1] I J P := by
  unfold VC_X8_takes at hv
  refine sem_intro (by decide +kernel) rfl (Nat.le_of_ble_eq_true rfl) ?_
  show AW _ 0 0 0 [(0, .ref (ga g 118)), (1, .int v1)] [] (cW g I J)
  refine a_aload_n 0 dX8_takes_0 rfl rfl ?_
  refine c_VI (As := []) (rest := []) hv K_X8_63 sh_118 rfl rfl rfl (Nat.le_of_ble_eq_true rfl) (rok (by omega) (Nat.le_of_ble_eq_true rfl)) ⟨Nat.zero_le _, Nat.zero_le _⟩ dX8_takes_1 (fun r1 I1 J1 hv => ?_)
  refine a_iload_n 1 dX8_takes_4 rfl rfl ?_
  refine a_icmp_eq 10 dX8_takes_5 rfl (fun hc => ?_) (fun hc => ?_)
  · replace hv := hv.1 hc
    refine a_aload_n 0 dX8_takes_10 rfl rfl ?_
    refine a_dup dX8_takes_11 rfl ?_
    refine a_getI G_X8_60 sh_118 rfl dX8_takes_12 ?_
    refine a_iconst (v := 1) dX8_takes_15 (by decide) ?_
    refine a_iadd dX8_takes_16 ?_
    refine a_putI H_X8_60 sh_118 rfl rfl rfl dX8_takes_17 ?_
    refine a_iconst (v := 1) dX8_takes_20 (by decide) ?_
    exact a_zret _ true (by decide) rfl dX8_takes_21 hv
  · replace hv := hv.2 hc
    refine a_iconst (v := 0) dX8_takes_8 (by decide) ?_
    exact a_zret _ false (by decide) rfl dX8_takes_9 hv
def VC_X8_seaOf (g : GT) (d : Nat) (v0 : Int32) (I : IT) (J : JT) (P : Int32 → IT → JT → Prop) : Prop :=
  ((¬ v0 = 46 → ((¬ v0 = 35 → ((¬ v0 = 111 → P (-1) I J) ∧ (v0 = 111 → P 2 I J))) ∧ (v0 = 35 → P 1 I J))) ∧ (v0 = 46 → P 0 I J))
set_option maxRecDepth 4000 in
theorem w_X8_seaOf {g : GT} {d : Nat} {v0 : Int32} {I : IT} {J : JT} {P : Int32 → IT → JT → Prop} (hv : VC_X8_seaOf g d v0 I J P) : SemI g d M_X8_seaOf [.int v0] I J P := by
  unfold VC_X8_seaOf at hv
  refine sem_intro (by decide +kernel) rfl (Nat.le_of_ble_eq_true rfl) ?_
  show AW _ 0 0 0 [(0, .int v0)] [] (cW g I J)
  refine a_iload_n 0 dX8_seaOf_0 rfl rfl ?_
  refine a_bipush (v := 46) dX8_seaOf_1 (by decide) ?_
  refine a_icmp_ne 10 dX8_seaOf_3 rfl (fun hc => ?_) (fun hc => ?_)
  · replace hv := hv.1 hc
    refine a_iload_n 0 dX8_seaOf_10 rfl rfl ?_
    refine a_bipush (v := 35) dX8_seaOf_11 (by decide) ?_
    refine a_icmp_ne 20 dX8_seaOf_13 rfl (fun hc => ?_) (fun hc => ?_)
    · replace hv := hv.1 hc
      refine a_iload_n 0 dX8_seaOf_20 rfl rfl ?_
      refine a_bipush (v := 111) dX8_seaOf_21 (by decide) ?_
      refine a_icmp_ne 30 dX8_seaOf_23 rfl (fun hc => ?_) (fun hc => ?_)
      · replace hv := hv.1 hc
        refine a_iconst (v := (-1)) dX8_seaOf_30 (by decide) ?_
        exact a_iret rfl dX8_seaOf_31 hv
      · replace hv := hv.2 hc
        refine a_iconst (v := 2) dX8_seaOf_26 (by decide) ?_
        refine a_goto 31 dX8_seaOf_27 rfl ?_
        exact a_iret rfl dX8_seaOf_31 hv
    · replace hv := hv.2 hc
      refine a_iconst (v := 1) dX8_seaOf_16 (by decide) ?_
      refine a_goto 31 dX8_seaOf_17 rfl ?_
      exact a_iret rfl dX8_seaOf_31 hv
  · replace hv := hv.2 hc
    refine a_iconst (v := 0) dX8_seaOf_6 (by decide) ?_
    refine a_goto 31 dX8_seaOf_7 rfl ?_
    exact a_iret rfl dX8_seaOf_31 hv
def VC_X8_kindOf (g : GT) (d : Nat) (v0 : Int32) (I : IT) (J : JT) (P : Int32 → IT → JT → Prop) : Prop :=
  ((¬ v0 = 111 → ((¬ v0 = 103 → ((¬ v0 = 100 → ((¬ v0 = 116 → ((¬ v0 = 109 → P 0 I J) ∧ (v0 = 109 → P 5 I J))) ∧ (v0 = 116 → P 4 I J))) ∧ (v0 = 100 → P 3 I J))) ∧ (v0 = 103 → P 2 I J))) ∧ (v0 = 111 → P 1 I J))
set_option maxRecDepth 4000 in
theorem w_X8_kindOf {g : GT} {d : Nat} {v0 : Int32} {I : IT} {J : JT} {P : Int32 → IT → JT → Prop} (hv : VC_X8_kindOf g d v0 I J P) : SemI g d M_X8_kindOf [.int v0] I J P := by
  unfold VC_X8_kindOf at hv
  refine sem_intro (by decide +kernel) rfl (Nat.le_of_ble_eq_true rfl) ?_
  show AW _ 0 0 0 [(0, .int v0)] [] (cW g I J)
  refine a_iload_n 0 dX8_kindOf_0 rfl rfl ?_
  refine a_bipush (v := 111) dX8_kindOf_1 (by decide) ?_
  refine a_icmp_ne 10 dX8_kindOf_3 rfl (fun hc => ?_) (fun hc => ?_)
  · replace hv := hv.1 hc
    refine a_iload_n 0 dX8_kindOf_10 rfl rfl ?_
    refine a_bipush (v := 103) dX8_kindOf_11 (by decide) ?_
    refine a_icmp_ne 20 dX8_kindOf_13 rfl (fun hc => ?_) (fun hc => ?_)
    · replace hv := hv.1 hc
      refine a_iload_n 0 dX8_kindOf_20 rfl rfl ?_
      refine a_bipush (v := 100) dX8_kindOf_21 (by decide) ?_
      refine a_icmp_ne 30 dX8_kindOf_23 rfl (fun hc => ?_) (fun hc => ?_)
      · replace hv := hv.1 hc
        refine a_iload_n 0 dX8_kindOf_30 rfl rfl ?_
        refine a_bipush (v := 116) dX8_kindOf_31 (by decide) ?_
        refine a_icmp_ne 40 dX8_kindOf_33 rfl (fun hc => ?_) (fun hc => ?_)
        · replace hv := hv.1 hc
          refine a_iload_n 0 dX8_kindOf_40 rfl rfl ?_
          refine a_bipush (v := 109) dX8_kindOf_41 (by decide) ?_
          refine a_icmp_ne 50 dX8_kindOf_43 rfl (fun hc => ?_) (fun hc => ?_)
          · replace hv := hv.1 hc
            refine a_iconst (v := 0) dX8_kindOf_50 (by decide) ?_
            exact a_iret rfl dX8_kindOf_51 hv
          · replace hv := hv.2 hc
            refine a_iconst (v := 5) dX8_kindOf_46 (by decide) ?_
            refine a_goto 51 dX8_kindOf_47 rfl ?_
            exact a_iret rfl dX8_kindOf_51 hv
        · replace hv := hv.2 hc
          refine a_iconst (v := 4) dX8_kindOf_36 (by decide) ?_
          refine a_goto 51 dX8_kindOf_37 rfl ?_
          exact a_iret rfl dX8_kindOf_51 hv
      · replace hv := hv.2 hc
        refine a_iconst (v := 3) dX8_kindOf_26 (by decide) ?_
        refine a_goto 51 dX8_kindOf_27 rfl ?_
        exact a_iret rfl dX8_kindOf_51 hv
    · replace hv := hv.2 hc
      refine a_iconst (v := 2) dX8_kindOf_16 (by decide) ?_
      refine a_goto 51 dX8_kindOf_17 rfl ?_
      exact a_iret rfl dX8_kindOf_51 hv
  · replace hv := hv.2 hc
    refine a_iconst (v := 1) dX8_kindOf_6 (by decide) ?_
    refine a_goto 51 dX8_kindOf_7 rfl ?_
    exact a_iret rfl dX8_kindOf_51 hv
def VC_X8_lookOf (g : GT) (d : Nat) (v0 : Int32) (I : IT) (J : JT) (P : Int32 → IT → JT → Prop) : Prop :=
  ((¬ v0 = 110 → ((¬ v0 = 101 → ((¬ v0 = 115 → ((¬ v0 = 119 → P (-1) I J) ∧ (v0 = 119 → P 3 I J))) ∧ (v0 = 115 → P 2 I J))) ∧ (v0 = 101 → P 1 I J))) ∧ (v0 = 110 → P 0 I J))
set_option maxRecDepth 4000 in
theorem w_X8_lookOf {g : GT} {d : Nat} {v0 : Int32} {I : IT} {J : JT} {P : Int32 → IT → JT → Prop} (hv : VC_X8_lookOf g d v0 I J P) : SemI g d M_X8_lookOf [.int v0] I J P := by
  unfold VC_X8_lookOf at hv
  refine sem_intro (by decide +kernel) rfl (Nat.le_of_ble_eq_true rfl) ?_
  show AW _ 0 0 0 [(0, .int v0)] [] (cW g I J)
  refine a_iload_n 0 dX8_lookOf_0 rfl rfl ?_
  refine a_bipush (v := 110) dX8_lookOf_1 (by decide) ?_
  refine a_icmp_ne 10 dX8_lookOf_3 rfl (fun hc => ?_) (fun hc => ?_)
  · replace hv := hv.1 hc
    refine a_iload_n 0 dX8_lookOf_10 rfl rfl ?_
    refine a_bipush (v := 101) dX8_lookOf_11 (by decide) ?_
    refine a_icmp_ne 20 dX8_lookOf_13 rfl (fun hc => ?_) (fun hc => ?_)
    · replace hv := hv.1 hc
      refine a_iload_n 0 dX8_lookOf_20 rfl rfl ?_
      refine a_bipush (v := 115) dX8_lookOf_21 (by decide) ?_
      refine a_icmp_ne 30 dX8_lookOf_23 rfl (fun hc => ?_) (fun hc => ?_)
      · replace hv := hv.1 hc
        refine a_iload_n 0 dX8_lookOf_30 rfl rfl ?_
        refine a_bipush (v := 119) dX8_lookOf_31 (by decide) ?_
        refine a_icmp_ne 40 dX8_lookOf_33 rfl (fun hc => ?_) (fun hc => ?_)
        · replace hv := hv.1 hc
          refine a_iconst (v := (-1)) dX8_lookOf_40 (by decide) ?_
          exact a_iret rfl dX8_lookOf_41 hv
        · replace hv := hv.2 hc
          refine a_iconst (v := 3) dX8_lookOf_36 (by decide) ?_
          refine a_goto 41 dX8_lookOf_37 rfl ?_
          exact a_iret rfl dX8_lookOf_41 hv
      · replace hv := hv.2 hc
        refine a_iconst (v := 2) dX8_lookOf_26 (by decide) ?_
        refine a_goto 41 dX8_lookOf_27 rfl ?_
        exact a_iret rfl dX8_lookOf_41 hv
    · replace hv := hv.2 hc
      refine a_iconst (v := 1) dX8_lookOf_16 (by decide) ?_
      refine a_goto 41 dX8_lookOf_17 rfl ?_
      exact a_iret rfl dX8_lookOf_41 hv
  · replace hv := hv.2 hc
    refine a_iconst (v := 0) dX8_lookOf_6 (by decide) ?_
    refine a_goto 41 dX8_lookOf_7 rfl ?_
    exact a_iret rfl dX8_lookOf_41 hv
def VC_X8_figure (g : GT) (d : Nat) (v1 : Int32) (I : IT) (J : JT) (P : Int32 → IT → JT → Prop) : Prop :=
  (SemI g (d - 1) M_X8_here [.ref (ga g 118)] I J (fun r1 I1 J1 => (SemZ g (d - 1) M_X8_in [.long ((r1 - 48).toInt64), .long 0, .long (v1.toInt64)] I1 J1 (fun r13 I13 J13 => ((r13 = true → P (r1 - 48) (sI I13 118 7 ((I13 118 7) + 1)) J13) ∧ (r13 = false → P (-1) I13 J13))))))
set_option maxRecDepth 4000 in
theorem w_X8_figure {g : GT} {d : Nat} {v1 : Int32} {I : IT} {J : JT} {P : Int32 → IT → JT → Prop} (hd : 1 ≤ d) (hv : VC_X8_figure g d v1 I J P) : SemI g d M_X8_figure [.ref (ga g 118), .int v1] I J P := by
  unfold VC_X8_figure at hv
  refine sem_intro (by decide +kernel) rfl (Nat.le_of_ble_eq_true rfl) ?_
  show AW _ 0 0 0 [(0, .ref (ga g 118)), (1, .int v1)] [] (cW g I J)
  refine a_aload_n 0 dX8_figure_0 rfl rfl ?_
  refine c_VI (As := []) (rest := []) hv K_X8_63 sh_118 rfl rfl rfl (Nat.le_of_ble_eq_true rfl) (rok (by omega) (Nat.le_of_ble_eq_true rfl)) ⟨Nat.zero_le _, Nat.zero_le _⟩ dX8_figure_1 (fun r1 I1 J1 hv => ?_)
  refine a_bipush (v := 48) dX8_figure_4 (by decide) ?_
  refine a_isub dX8_figure_6 ?_
  refine a_istore_n [(2, .int (r1 - 48)), (0, .ref (ga g 118)), (1, .int v1)] dX8_figure_7 rfl (Nat.le_of_ble_eq_true rfl) rfl ?_
  refine a_iload_n 0 dX8_figure_8 rfl rfl ?_
  refine a_i2l dX8_figure_9 ?_
  refine a_lconst (v := 0) dX8_figure_10 (by decide) ?_
  refine a_iload_n 2 dX8_figure_11 rfl rfl ?_
  refine a_i2l dX8_figure_12 ?_
  refine c_SZ (As := [.long ((r1 - 48).toInt64), .long 0, .long (v1.toInt64)]) (rest := []) hv K_X8_44 rfl rfl (Nat.le_of_ble_eq_true rfl) (rok (by omega) (Nat.le_of_ble_eq_true rfl)) ⟨Nat.zero_le _, Nat.zero_le _⟩ dX8_figure_13 (fun r13 I13 J13 hv => ?_)
  refine a_ifz_ne 21 dX8_figure_16 rfl (fun hc => ?_) (fun hc => ?_)
  · replace hv := hv.1 hc
    refine a_aload_n 1 dX8_figure_21 rfl rfl ?_
    refine a_dup dX8_figure_22 rfl ?_
    refine a_getI G_X8_60 sh_118 rfl dX8_figure_23 ?_
    refine a_iconst (v := 1) dX8_figure_26 (by decide) ?_
    refine a_iadd dX8_figure_27 ?_
    refine a_putI H_X8_60 sh_118 rfl rfl rfl dX8_figure_28 ?_
    refine a_iload_n 0 dX8_figure_31 rfl rfl ?_
    exact a_iret rfl dX8_figure_32 hv
  · replace hv := hv.2 hc
    refine a_iconst (v := (-1)) dX8_figure_19 (by decide) ?_
    exact a_iret rfl dX8_figure_20 hv
def Lp_X8_takesRow_29 (g : GT) (d : Nat) (v1 : Int32) (v2 : Int32) (v3 : Int32) (I : IT) (J : JT) (P : Bool → IT → JT → Prop) : Prop := AW (kM g d M_X8_takesRow 0 0 (qZ g P)) 0 0 29 [(0, .ref (ga g 118)), (1, .int v1), (2, .int v2), (3, .int v3)] [] (cW g I J)
def Lp_X8_takesRow_82 (g : GT) (d : Nat) (v1 : Int32) (v2 : Int32) (v3 : Int32) (I : IT) (J : JT) (P : Bool → IT → JT → Prop) : Prop := AW (kM g d M_X8_takesRow 0 0 (qZ g P)) 0 0 82 [(0, .ref (ga g 118)), (1, .int v1), (2, .int v2), (3, .int v3)] [] (cW g I J)
def VC_X8_takesRow_82 (g : GT) (d : Nat) (v1 : Int32) (v2 : Int32) (v3 : Int32) (I : IT) (J : JT) (P : Bool → IT → JT → Prop) : Prop :=
  ((v3 = 0 → P false I J) ∧ (¬ v3 = 0 → ((v1 ≤ 0 → P true (sI (sI I 119 242 v3) 119 241 (((sI I 119 242 v3) 119 241) + 1)) J) ∧ (¬ v1 ≤ 0 → ((v2 ≤ v3 → P true (sI (sI I 119 242 v3) 119 241 (((sI I 119 242 v3) 119 241) + 1)) J) ∧ (¬ v2 ≤ v3 → P false I J))))))
set_option maxRecDepth 4000 in
theorem w_X8_takesRow_82 {g : GT} {d : Nat} {v1 : Int32} {v2 : Int32} {v3 : Int32} {I : IT} {J : JT} {P : Bool → IT → JT → Prop} (hv : VC_X8_takesRow_82 g d v1 v2 v3 I J P) : Lp_X8_takesRow_82 g d v1 v2 v3 I J P := by
  unfold VC_X8_takesRow_82 at hv
  unfold Lp_X8_takesRow_82
  refine a_iload_n 3 dX8_takesRow_82 rfl rfl ?_
  refine a_if_eq 95 dX8_takesRow_83 rfl (fun hc => ?_) (fun hc => ?_)
  · replace hv := hv.1 hc
    refine a_iconst (v := 0) dX8_takesRow_95 (by decide) ?_
    exact a_zret _ false (by decide) rfl dX8_takesRow_96 hv
  · replace hv := hv.2 hc
    refine a_iload_n 1 dX8_takesRow_86 rfl rfl ?_
    refine a_if_le 97 dX8_takesRow_87 rfl (fun hc => ?_) (fun hc => ?_)
    · replace hv := hv.1 hc
      refine a_aload_n 0 dX8_takesRow_97 rfl rfl ?_
      refine a_getR (r := 119) G_X8_7 sh_118 rfl dX8_takesRow_98 ?_
      refine a_sipush (v := 242) dX8_takesRow_101 (by decide) ?_
      refine a_iload_n 3 dX8_takesRow_104 rfl rfl ?_
      refine a_iast sh_119 (by unfold vp_in; decide) dX8_takesRow_105 ?_
      refine a_aload_n 0 dX8_takesRow_106 rfl rfl ?_
      refine a_getR (r := 119) G_X8_7 sh_118 rfl dX8_takesRow_107 ?_
      refine a_sipush (v := 241) dX8_takesRow_110 (by decide) ?_
      refine a_dup2 dX8_takesRow_113 rfl rfl ?_
      refine a_iald sh_119 (by unfold vp_in; decide) dX8_takesRow_114 ?_
      refine a_iconst (v := 1) dX8_takesRow_115 (by decide) ?_
      refine a_iadd dX8_takesRow_116 ?_
      refine a_iast sh_119 (by unfold vp_in; decide) dX8_takesRow_117 ?_
      refine a_iconst (v := 1) dX8_takesRow_118 (by decide) ?_
      exact a_zret _ true (by decide) rfl dX8_takesRow_119 hv
    · replace hv := hv.2 hc
      refine a_iload_n 3 dX8_takesRow_90 rfl rfl ?_
      refine a_iload_n 2 dX8_takesRow_91 rfl rfl ?_
      refine a_icmp_ge 97 dX8_takesRow_92 rfl (fun hc => ?_) (fun hc => ?_)
      · replace hv := hv.1 hc
        refine a_aload_n 0 dX8_takesRow_97 rfl rfl ?_
        refine a_getR (r := 119) G_X8_7 sh_118 rfl dX8_takesRow_98 ?_
        refine a_sipush (v := 242) dX8_takesRow_101 (by decide) ?_
        refine a_iload_n 3 dX8_takesRow_104 rfl rfl ?_
        refine a_iast sh_119 (by unfold vp_in; decide) dX8_takesRow_105 ?_
        refine a_aload_n 0 dX8_takesRow_106 rfl rfl ?_
        refine a_getR (r := 119) G_X8_7 sh_118 rfl dX8_takesRow_107 ?_
        refine a_sipush (v := 241) dX8_takesRow_110 (by decide) ?_
        refine a_dup2 dX8_takesRow_113 rfl rfl ?_
        refine a_iald sh_119 (by unfold vp_in; decide) dX8_takesRow_114 ?_
        refine a_iconst (v := 1) dX8_takesRow_115 (by decide) ?_
        refine a_iadd dX8_takesRow_116 ?_
        refine a_iast sh_119 (by unfold vp_in; decide) dX8_takesRow_117 ?_
        refine a_iconst (v := 1) dX8_takesRow_118 (by decide) ?_
        exact a_zret _ true (by decide) rfl dX8_takesRow_119 hv
      · replace hv := hv.2 hc
        refine a_iconst (v := 0) dX8_takesRow_95 (by decide) ?_
        exact a_zret _ false (by decide) rfl dX8_takesRow_96 hv
def VC_X8_takesRow_29 (g : GT) (d : Nat) (v1 : Int32) (v2 : Int32) (v3 : Int32) (I : IT) (J : JT) (P : Bool → IT → JT → Prop) : Prop :=
  ((v2 ≤ v3 → (Lp_X8_takesRow_82 g d v1 v2 v3 I J P)) ∧ (¬ v2 ≤ v3 → (SemI g (d - 1) M_X8_here [.ref (ga g 118)] I J (fun r35 I35 J35 => (SemI g (d - 1) M_X8_seaOf [.int r35] I35 J35 (fun r38 I38 J38 => ((r38 < 0 → (Lp_X8_takesRow_82 g d v1 v2 v3 I38 J38 P)) ∧ (¬ r38 < 0 → (SemI g (d - 1) M_X8_here [.ref (ga g 118)] I38 J38 (fun r59 I59 J59 => (SemI g (d - 1) M_X8_seaOf [.int r59] I59 J59 (fun r62 I62 J62 => (vp_in ((243 + (8 * v1)) + v3) 952 ∧ (Lp_X8_takesRow_29 g d v1 v2 (v3 + 1) (sI (sI I62 119 ((243 + (8 * v1)) + v3).toNatClampNeg r62) 118 7 (((sI I62 119 ((243 + (8 * v1)) + v3).toNatClampNeg r62) 118 7) + 1)) J62 P))))))))))))))
set_option maxRecDepth 4000 in
theorem w_X8_takesRow_29 {g : GT} {d : Nat} {v1 : Int32} {v2 : Int32} {v3 : Int32} {I : IT} {J : JT} {P : Bool → IT → JT → Prop} (hd : 1 ≤ d) (hv : VC_X8_takesRow_29 g d v1 v2 v3 I J P) : Lp_X8_takesRow_29 g d v1 v2 v3 I J P := by
  unfold VC_X8_takesRow_29 at hv
  unfold Lp_X8_takesRow_29
  refine a_iload_n 3 dX8_takesRow_29 rfl rfl ?_
  refine a_iload_n 2 dX8_takesRow_30 rfl rfl ?_
  refine a_icmp_ge 82 dX8_takesRow_31 rfl (fun hc => ?_) (fun hc => ?_)
  · replace hv := hv.1 hc
    exact a_sub [0, 1, 2, 3] rfl hv
  · replace hv := hv.2 hc
    refine a_aload_n 0 dX8_takesRow_34 rfl rfl ?_
    refine c_VI (As := []) (rest := []) hv K_X8_63 sh_118 rfl rfl rfl (Nat.le_of_ble_eq_true rfl) (rok (by omega) (Nat.le_of_ble_eq_true rfl)) ⟨Nat.zero_le _, Nat.zero_le _⟩ dX8_takesRow_35 (fun r35 I35 J35 hv => ?_)
    refine c_SI (As := [.int r35]) (rest := []) hv K_X8_67 rfl rfl (Nat.le_of_ble_eq_true rfl) (rok (by omega) (Nat.le_of_ble_eq_true rfl)) ⟨Nat.zero_le _, Nat.zero_le _⟩ dX8_takesRow_38 (fun r38 I38 J38 hv => ?_)
    refine a_if_lt 82 dX8_takesRow_41 rfl (fun hc => ?_) (fun hc => ?_)
    · replace hv := hv.1 hc
      exact a_sub [0, 1, 2, 3] rfl hv
    · replace hv := hv.2 hc
      refine a_aload_n 0 dX8_takesRow_44 rfl rfl ?_
      refine a_getR (r := 119) G_X8_7 sh_118 rfl dX8_takesRow_45 ?_
      refine a_sipush (v := 243) dX8_takesRow_48 (by decide) ?_
      refine a_bipush (v := 8) dX8_takesRow_51 (by decide) ?_
      refine a_iload_n 1 dX8_takesRow_53 rfl rfl ?_
      refine a_imul dX8_takesRow_54 ?_
      refine a_iadd dX8_takesRow_55 ?_
      refine a_iload_n 3 dX8_takesRow_56 rfl rfl ?_
      refine a_iadd dX8_takesRow_57 ?_
      refine a_aload_n 0 dX8_takesRow_58 rfl rfl ?_
      refine c_VI (As := []) (rest := [.int ((243 + (8 * v1)) + v3), .ref (ga g 119)]) hv K_X8_63 sh_118 rfl rfl rfl (Nat.le_of_ble_eq_true rfl) (rok (by omega) (Nat.le_of_ble_eq_true rfl)) ⟨Nat.zero_le _, Nat.zero_le _⟩ dX8_takesRow_59 (fun r59 I59 J59 hv => ?_)
      refine c_SI (As := [.int r59]) (rest := [.int ((243 + (8 * v1)) + v3), .ref (ga g 119)]) hv K_X8_67 rfl rfl (Nat.le_of_ble_eq_true rfl) (rok (by omega) (Nat.le_of_ble_eq_true rfl)) ⟨Nat.zero_le _, Nat.zero_le _⟩ dX8_takesRow_62 (fun r62 I62 J62 hv => ?_)
      refine a_iast sh_119 hv.1 dX8_takesRow_65 ?_
      replace hv := hv.2
      refine a_iinc 3 (v3 + 1) [(3, .int (v3 + 1)), (0, .ref (ga g 118)), (1, .int v1), (2, .int v2)] dX8_takesRow_66 rfl rfl (Nat.le_of_ble_eq_true rfl) rfl ?_
      refine a_aload_n 1 dX8_takesRow_69 rfl rfl ?_
      refine a_dup dX8_takesRow_70 rfl ?_
      refine a_getI G_X8_60 sh_118 rfl dX8_takesRow_71 ?_
      refine a_iconst (v := 1) dX8_takesRow_74 (by decide) ?_
      refine a_iadd dX8_takesRow_75 ?_
      refine a_putI H_X8_60 sh_118 rfl rfl rfl dX8_takesRow_76 ?_
      refine a_goto 29 dX8_takesRow_79 rfl ?_
      exact a_sub [1, 2, 3, 0] rfl hv
def VC_X8_takesRow (g : GT) (d : Nat)  (I : IT) (J : JT) (P : Bool → IT → JT → Prop) : Prop :=
  ((¬ (I 119 241) = 0 → (Lp_X8_takesRow_29 g d (I 119 241) (I 119 242) 0 I J P)) ∧ ((I 119 241) = 0 → (Lp_X8_takesRow_29 g d (I 119 241) 8 0 I J P)))
set_option maxRecDepth 4000 in
theorem w_X8_takesRow {g : GT} {d : Nat}  {I : IT} {J : JT} {P : Bool → IT → JT → Prop} (hv : VC_X8_takesRow g d  I J P) : SemZ g d M_X8_takesRow [.ref (ga g 118)] I J P := by
  unfold VC_X8_takesRow at hv
  refine sem_intro (by decide +kernel) rfl (Nat.le_of_ble_eq_true rfl) ?_
  show AW _ 0 0 0 [(0, .ref (ga g 118))] [] (cW g I J)
  refine a_aload_n 0 dX8_takesRow_0 rfl rfl ?_
  refine a_getR (r := 119) G_X8_7 sh_118 rfl dX8_takesRow_1 ?_
  refine a_sipush (v := 241) dX8_takesRow_4 (by decide) ?_
  refine a_iald sh_119 (by unfold vp_in; decide) dX8_takesRow_7 ?_
  refine a_istore_n [(1, .int (I 119 241)), (0, .ref (ga g 118))] dX8_takesRow_8 rfl (Nat.le_of_ble_eq_true rfl) rfl ?_
  refine a_iload_n 0 dX8_takesRow_9 rfl rfl ?_
  refine a_if_ne 18 dX8_takesRow_10 rfl (fun hc => ?_) (fun hc => ?_)
  · replace hv := hv.1 hc
    refine a_aload_n 1 dX8_takesRow_18 rfl rfl ?_
    refine a_getR (r := 119) G_X8_7 sh_118 rfl dX8_takesRow_19 ?_
    refine a_sipush (v := 242) dX8_takesRow_22 (by decide) ?_
    refine a_iald sh_119 (by unfold vp_in; decide) dX8_takesRow_25 ?_
    refine a_istore_n [(2, .int (I 119 242)), (1, .int (I 119 241)), (0, .ref (ga g 118))] dX8_takesRow_26 rfl (Nat.le_of_ble_eq_true rfl) rfl ?_
    refine a_iconst (v := 0) dX8_takesRow_27 (by decide) ?_
    refine a_istore_n [(3, .int 0), (2, .int (I 119 242)), (1, .int (I 119 241)), (0, .ref (ga g 118))] dX8_takesRow_28 rfl (Nat.le_of_ble_eq_true rfl) rfl ?_
    exact a_sub [3, 2, 1, 0] rfl hv
  · replace hv := hv.2 hc
    refine a_bipush (v := 8) dX8_takesRow_13 (by decide) ?_
    refine a_goto 26 dX8_takesRow_15 rfl ?_
    refine a_istore_n [(2, .int 8), (1, .int (I 119 241)), (0, .ref (ga g 118))] dX8_takesRow_26 rfl (Nat.le_of_ble_eq_true rfl) rfl ?_
    refine a_iconst (v := 0) dX8_takesRow_27 (by decide) ?_
    refine a_istore_n [(3, .int 0), (2, .int 8), (1, .int (I 119 241)), (0, .ref (ga g 118))] dX8_takesRow_28 rfl (Nat.le_of_ble_eq_true rfl) rfl ?_
    exact a_sub [3, 2, 1, 0] rfl hv
def VC_X8_takesShip (g : GT) (d : Nat)  (I : IT) (J : JT) (P : Bool → IT → JT → Prop) : Prop :=
  (SemI g (d - 1) M_X8_here [.ref (ga g 118)] I J (fun r10 I10 J10 => (SemI g (d - 1) M_X8_kindOf [.int r10] I10 J10 (fun r13 I13 J13 => ((¬ r13 = 0 → (SemI g (d - 1) M_X8_figure [.ref (ga g 118), .int (((sI I13 118 7 ((I13 118 7) + 1)) 119 241) - 1)] (sI I13 118 7 ((I13 118 7) + 1)) J13 (fun r44 I44 J44 => ((0 ≤ r44 → (SemI g (d - 1) M_X8_here [.ref (ga g 118)] I44 J44 (fun r55 I55 J55 => (SemZ g (d - 1) M_X8_in [.long ((r55 - 48).toInt64), .long 0, .long 9] I55 J55 (fun r70 I70 J70 => ((r70 = false → P false I70 J70) ∧ (r70 = true → (SemZ g (d - 1) M_X8_isCellIn [.ref (ga g 118), .int 240, .int r44, .int (r55 - 48)] I70 J70 (fun r83 I83 J83 => ((r83 = false → P false I83 J83) ∧ (r83 = true → (vp_in ((243 + (8 * r44)) + (r55 - 48)) 952 ∧ ((¬ (I83 119 ((243 + (8 * r44)) + (r55 - 48)).toNatClampNeg) = 1 → (SemI g (d - 1) M_X8_here [.ref (ga g 118)] (sI I83 118 7 ((I83 118 7) + 1)) J83 (fun r122 I122 J122 => (SemI g (d - 1) M_X8_lookOf [.int r122] I122 J122 (fun r125 I125 J125 => ((0 ≤ r125 → (SemI g (d - 1) M_X8_figure [.ref (ga g 118), .int 5] (sI I125 118 7 ((I125 118 7) + 1)) J125 (fun r149 I149 J149 => ((0 ≤ r149 → (vp_in (291 + (I 119 240)) 952 ∧ (vp_in (298 + (I 119 240)) 952 ∧ (vp_in (304 + (I 119 240)) 952 ∧ (vp_in (310 + (I 119 240)) 952 ∧ P true (sI (sI (sI (sI (sI I149 119 (291 + (I 119 240)).toNatClampNeg r13) 119 (298 + (I 119 240)).toNatClampNeg ((8 * r44) + (r55 - 48))) 119 (304 + (I 119 240)).toNatClampNeg r125) 119 (310 + (I 119 240)).toNatClampNeg r149) 119 240 (((sI (sI (sI (sI I149 119 (291 + (I 119 240)).toNatClampNeg r13) 119 (298 + (I 119 240)).toNatClampNeg ((8 * r44) + (r55 - 48))) 119 (304 + (I 119 240)).toNatClampNeg r125) 119 (310 + (I 119 240)).toNatClampNeg r149) 119 240) + 1)) J149))))) ∧ (¬ 0 ≤ r149 → P false I149 J149))))) ∧ (¬ 0 ≤ r125 → P false I125 J125))))))) ∧ ((I83 119 ((243 + (8 * r44)) + (r55 - 48)).toNatClampNeg) = 1 → P false I83 J83)))))))))))))) ∧ (¬ 0 ≤ r44 → P false I44 J44))))) ∧ (r13 = 0 → P false I13 J13))))))
set_option maxRecDepth 4000 in
theorem w_X8_takesShip {g : GT} {d : Nat}  {I : IT} {J : JT} {P : Bool → IT → JT → Prop} (hd : 1 ≤ d) (hv : VC_X8_takesShip g d  I J P) : SemZ g d M_X8_takesShip [.ref (ga g 118)] I J P := by
  unfold VC_X8_takesShip at hv
  refine sem_intro (by decide +kernel) rfl (Nat.le_of_ble_eq_true rfl) ?_
  show AW _ 0 0 0 [(0, .ref (ga g 118))] [] (cW g I J)
  refine a_aload_n 0 dX8_takesShip_0 rfl rfl ?_
  refine a_getR (r := 119) G_X8_7 sh_118 rfl dX8_takesShip_1 ?_
  refine a_sipush (v := 240) dX8_takesShip_4 (by decide) ?_
  refine a_iald sh_119 (by unfold vp_in; decide) dX8_takesShip_7 ?_
  refine a_istore_n [(1, .int (I 119 240)), (0, .ref (ga g 118))] dX8_takesShip_8 rfl (Nat.le_of_ble_eq_true rfl) rfl ?_
  refine a_aload_n 1 dX8_takesShip_9 rfl rfl ?_
  refine c_VI (As := []) (rest := []) hv K_X8_63 sh_118 rfl rfl rfl (Nat.le_of_ble_eq_true rfl) (rok (by omega) (Nat.le_of_ble_eq_true rfl)) ⟨Nat.zero_le _, Nat.zero_le _⟩ dX8_takesShip_10 (fun r10 I10 J10 hv => ?_)
  refine c_SI (As := [.int r10]) (rest := []) hv K_X8_71 rfl rfl (Nat.le_of_ble_eq_true rfl) (rok (by omega) (Nat.le_of_ble_eq_true rfl)) ⟨Nat.zero_le _, Nat.zero_le _⟩ dX8_takesShip_13 (fun r13 I13 J13 hv => ?_)
  refine a_istore_n [(2, .int r13), (1, .int (I 119 240)), (0, .ref (ga g 118))] dX8_takesShip_16 rfl (Nat.le_of_ble_eq_true rfl) rfl ?_
  refine a_iload_n 0 dX8_takesShip_17 rfl rfl ?_
  refine a_if_ne 23 dX8_takesShip_18 rfl (fun hc => ?_) (fun hc => ?_)
  · replace hv := hv.1 hc
    refine a_aload_n 2 dX8_takesShip_23 rfl rfl ?_
    refine a_dup dX8_takesShip_24 rfl ?_
    refine a_getI G_X8_60 sh_118 rfl dX8_takesShip_25 ?_
    refine a_iconst (v := 1) dX8_takesShip_28 (by decide) ?_
    refine a_iadd dX8_takesShip_29 ?_
    refine a_putI H_X8_60 sh_118 rfl rfl rfl dX8_takesShip_30 ?_
    refine a_aload_n 2 dX8_takesShip_33 rfl rfl ?_
    refine a_aload_n 2 dX8_takesShip_34 rfl rfl ?_
    refine a_getR (r := 119) G_X8_7 sh_118 rfl dX8_takesShip_35 ?_
    refine a_sipush (v := 241) dX8_takesShip_38 (by decide) ?_
    refine a_iald sh_119 (by unfold vp_in; decide) dX8_takesShip_41 ?_
    refine a_iconst (v := 1) dX8_takesShip_42 (by decide) ?_
    refine a_isub dX8_takesShip_43 ?_
    refine c_VI (As := [.int (((sI I13 118 7 ((I13 118 7) + 1)) 119 241) - 1)]) (rest := []) hv K_X8_74 sh_118 rfl rfl rfl (Nat.le_of_ble_eq_true rfl) (rok (by omega) (Nat.le_of_ble_eq_true rfl)) ⟨Nat.zero_le _, Nat.zero_le _⟩ dX8_takesShip_44 (fun r44 I44 J44 hv => ?_)
    refine a_istore_n [(3, .int r44), (2, .int r13), (1, .int (I 119 240)), (0, .ref (ga g 118))] dX8_takesShip_47 rfl (Nat.le_of_ble_eq_true rfl) rfl ?_
    refine a_iload_n 0 dX8_takesShip_48 rfl rfl ?_
    refine a_if_ge 54 dX8_takesShip_49 rfl (fun hc => ?_) (fun hc => ?_)
    · replace hv := hv.1 hc
      refine a_aload_n 3 dX8_takesShip_54 rfl rfl ?_
      refine c_VI (As := []) (rest := []) hv K_X8_63 sh_118 rfl rfl rfl (Nat.le_of_ble_eq_true rfl) (rok (by omega) (Nat.le_of_ble_eq_true rfl)) ⟨Nat.zero_le _, Nat.zero_le _⟩ dX8_takesShip_55 (fun r55 I55 J55 hv => ?_)
      refine a_bipush (v := 48) dX8_takesShip_58 (by decide) ?_
      refine a_isub dX8_takesShip_60 ?_
      refine a_istore [(4, .int (r55 - 48)), (3, .int r44), (2, .int r13), (1, .int (I 119 240)), (0, .ref (ga g 118))] dX8_takesShip_61 (Nat.le_of_ble_eq_true rfl) rfl ?_
      refine a_iload 0 dX8_takesShip_63 rfl ?_
      refine a_i2l dX8_takesShip_65 ?_
      refine a_lconst (v := 0) dX8_takesShip_66 (by decide) ?_
      refine a_ldc2 (v := 9) dX8_takesShip_67 cl_X8_77 ?_
      refine c_SZ (As := [.long ((r55 - 48).toInt64), .long 0, .long 9]) (rest := []) hv K_X8_44 rfl rfl (Nat.le_of_ble_eq_true rfl) (rok (by omega) (Nat.le_of_ble_eq_true rfl)) ⟨Nat.zero_le _, Nat.zero_le _⟩ dX8_takesShip_70 (fun r70 I70 J70 hv => ?_)
      refine a_ifz_eq 109 dX8_takesShip_73 rfl (fun hc => ?_) (fun hc => ?_)
      · replace hv := hv.1 hc
        refine a_iconst (v := 0) dX8_takesShip_109 (by decide) ?_
        exact a_zret _ false (by decide) rfl dX8_takesShip_110 hv
      · replace hv := hv.2 hc
        refine a_aload_n 4 dX8_takesShip_76 rfl rfl ?_
        refine a_sipush (v := 240) dX8_takesShip_77 (by decide) ?_
        refine a_iload_n 1 dX8_takesShip_80 rfl rfl ?_
        refine a_iload 0 dX8_takesShip_81 rfl ?_
        refine c_VZ (As := [.int 240, .int r44, .int (r55 - 48)]) (rest := []) hv K_X8_50 sh_118 rfl rfl rfl (Nat.le_of_ble_eq_true rfl) (rok (by omega) (Nat.le_of_ble_eq_true rfl)) ⟨Nat.zero_le _, Nat.zero_le _⟩ dX8_takesShip_83 (fun r83 I83 J83 hv => ?_)
        refine a_ifz_eq 109 dX8_takesShip_86 rfl (fun hc => ?_) (fun hc => ?_)
        · replace hv := hv.1 hc
          refine a_iconst (v := 0) dX8_takesShip_109 (by decide) ?_
          exact a_zret _ false (by decide) rfl dX8_takesShip_110 hv
        · replace hv := hv.2 hc
          refine a_aload_n 4 dX8_takesShip_89 rfl rfl ?_
          refine a_getR (r := 119) G_X8_7 sh_118 rfl dX8_takesShip_90 ?_
          refine a_sipush (v := 243) dX8_takesShip_93 (by decide) ?_
          refine a_bipush (v := 8) dX8_takesShip_96 (by decide) ?_
          refine a_iload_n 1 dX8_takesShip_98 rfl rfl ?_
          refine a_imul dX8_takesShip_99 ?_
          refine a_iadd dX8_takesShip_100 ?_
          refine a_iload 0 dX8_takesShip_101 rfl ?_
          refine a_iadd dX8_takesShip_103 ?_
          refine a_iald sh_119 hv.1 dX8_takesShip_104 ?_
          replace hv := hv.2
          refine a_iconst (v := 1) dX8_takesShip_105 (by decide) ?_
          refine a_icmp_ne 111 dX8_takesShip_106 rfl (fun hc => ?_) (fun hc => ?_)
          · replace hv := hv.1 hc
            refine a_aload_n 4 dX8_takesShip_111 rfl rfl ?_
            refine a_dup dX8_takesShip_112 rfl ?_
            refine a_getI G_X8_60 sh_118 rfl dX8_takesShip_113 ?_
            refine a_iconst (v := 1) dX8_takesShip_116 (by decide) ?_
            refine a_iadd dX8_takesShip_117 ?_
            refine a_putI H_X8_60 sh_118 rfl rfl rfl dX8_takesShip_118 ?_
            refine a_aload_n 4 dX8_takesShip_121 rfl rfl ?_
            refine c_VI (As := []) (rest := []) hv K_X8_63 sh_118 rfl rfl rfl (Nat.le_of_ble_eq_true rfl) (rok (by omega) (Nat.le_of_ble_eq_true rfl)) ⟨Nat.zero_le _, Nat.zero_le _⟩ dX8_takesShip_122 (fun r122 I122 J122 hv => ?_)
            refine c_SI (As := [.int r122]) (rest := []) hv K_X8_79 rfl rfl (Nat.le_of_ble_eq_true rfl) (rok (by omega) (Nat.le_of_ble_eq_true rfl)) ⟨Nat.zero_le _, Nat.zero_le _⟩ dX8_takesShip_125 (fun r125 I125 J125 hv => ?_)
            refine a_istore [(5, .int r125), (4, .int (r55 - 48)), (3, .int r44), (2, .int r13), (1, .int (I 119 240)), (0, .ref (ga g 118))] dX8_takesShip_128 (Nat.le_of_ble_eq_true rfl) rfl ?_
            refine a_iload 0 dX8_takesShip_130 rfl ?_
            refine a_if_ge 137 dX8_takesShip_132 rfl (fun hc => ?_) (fun hc => ?_)
            · replace hv := hv.1 hc
              refine a_aload_n 5 dX8_takesShip_137 rfl rfl ?_
              refine a_dup dX8_takesShip_138 rfl ?_
              refine a_getI G_X8_60 sh_118 rfl dX8_takesShip_139 ?_
              refine a_iconst (v := 1) dX8_takesShip_142 (by decide) ?_
              refine a_iadd dX8_takesShip_143 ?_
              refine a_putI H_X8_60 sh_118 rfl rfl rfl dX8_takesShip_144 ?_
              refine a_aload_n 5 dX8_takesShip_147 rfl rfl ?_
              refine a_iconst (v := 5) dX8_takesShip_148 (by decide) ?_
              refine c_VI (As := [.int 5]) (rest := []) hv K_X8_74 sh_118 rfl rfl rfl (Nat.le_of_ble_eq_true rfl) (rok (by omega) (Nat.le_of_ble_eq_true rfl)) ⟨Nat.zero_le _, Nat.zero_le _⟩ dX8_takesShip_149 (fun r149 I149 J149 hv => ?_)
              refine a_istore [(6, .int r149), (5, .int r125), (4, .int (r55 - 48)), (3, .int r44), (2, .int r13), (1, .int (I 119 240)), (0, .ref (ga g 118))] dX8_takesShip_152 (Nat.le_of_ble_eq_true rfl) rfl ?_
              refine a_iload 0 dX8_takesShip_154 rfl ?_
              refine a_if_ge 161 dX8_takesShip_156 rfl (fun hc => ?_) (fun hc => ?_)
              · replace hv := hv.1 hc
                refine a_aload_n 6 dX8_takesShip_161 rfl rfl ?_
                refine a_getR (r := 119) G_X8_7 sh_118 rfl dX8_takesShip_162 ?_
                refine a_sipush (v := 291) dX8_takesShip_165 (by decide) ?_
                refine a_iload_n 5 dX8_takesShip_168 rfl rfl ?_
                refine a_iadd dX8_takesShip_169 ?_
                refine a_iload_n 4 dX8_takesShip_170 rfl rfl ?_
                refine a_iast sh_119 hv.1 dX8_takesShip_171 ?_
                replace hv := hv.2
                refine a_aload_n 6 dX8_takesShip_172 rfl rfl ?_
                refine a_getR (r := 119) G_X8_7 sh_118 rfl dX8_takesShip_173 ?_
                refine a_sipush (v := 298) dX8_takesShip_176 (by decide) ?_
                refine a_iload_n 5 dX8_takesShip_179 rfl rfl ?_
                refine a_iadd dX8_takesShip_180 ?_
                refine a_bipush (v := 8) dX8_takesShip_181 (by decide) ?_
                refine a_iload_n 3 dX8_takesShip_183 rfl rfl ?_
                refine a_imul dX8_takesShip_184 ?_
                refine a_iload 2 dX8_takesShip_185 rfl ?_
                refine a_iadd dX8_takesShip_187 ?_
                refine a_iast sh_119 hv.1 dX8_takesShip_188 ?_
                replace hv := hv.2
                refine a_aload_n 6 dX8_takesShip_189 rfl rfl ?_
                refine a_getR (r := 119) G_X8_7 sh_118 rfl dX8_takesShip_190 ?_
                refine a_sipush (v := 304) dX8_takesShip_193 (by decide) ?_
                refine a_iload_n 5 dX8_takesShip_196 rfl rfl ?_
                refine a_iadd dX8_takesShip_197 ?_
                refine a_iload 1 dX8_takesShip_198 rfl ?_
                refine a_iast sh_119 hv.1 dX8_takesShip_200 ?_
                replace hv := hv.2
                refine a_aload_n 6 dX8_takesShip_201 rfl rfl ?_
                refine a_getR (r := 119) G_X8_7 sh_118 rfl dX8_takesShip_202 ?_
                refine a_sipush (v := 310) dX8_takesShip_205 (by decide) ?_
                refine a_iload_n 5 dX8_takesShip_208 rfl rfl ?_
                refine a_iadd dX8_takesShip_209 ?_
                refine a_iload 0 dX8_takesShip_210 rfl ?_
                refine a_iast sh_119 hv.1 dX8_takesShip_212 ?_
                replace hv := hv.2
                refine a_aload_n 6 dX8_takesShip_213 rfl rfl ?_
                refine a_getR (r := 119) G_X8_7 sh_118 rfl dX8_takesShip_214 ?_
                refine a_sipush (v := 240) dX8_takesShip_217 (by decide) ?_
                refine a_dup2 dX8_takesShip_220 rfl rfl ?_
                refine a_iald sh_119 (by unfold vp_in; decide) dX8_takesShip_221 ?_
                refine a_iconst (v := 1) dX8_takesShip_222 (by decide) ?_
                refine a_iadd dX8_takesShip_223 ?_
                refine a_iast sh_119 (by unfold vp_in; decide) dX8_takesShip_224 ?_
                refine a_iconst (v := 1) dX8_takesShip_225 (by decide) ?_
                exact a_zret _ true (by decide) rfl dX8_takesShip_226 hv
              · replace hv := hv.2 hc
                refine a_iconst (v := 0) dX8_takesShip_159 (by decide) ?_
                exact a_zret _ false (by decide) rfl dX8_takesShip_160 hv
            · replace hv := hv.2 hc
              refine a_iconst (v := 0) dX8_takesShip_135 (by decide) ?_
              exact a_zret _ false (by decide) rfl dX8_takesShip_136 hv
          · replace hv := hv.2 hc
            refine a_iconst (v := 0) dX8_takesShip_109 (by decide) ?_
            exact a_zret _ false (by decide) rfl dX8_takesShip_110 hv
    · replace hv := hv.2 hc
      refine a_iconst (v := 0) dX8_takesShip_52 (by decide) ?_
      exact a_zret _ false (by decide) rfl dX8_takesShip_53 hv
  · replace hv := hv.2 hc
    refine a_iconst (v := 0) dX8_takesShip_21 (by decide) ?_
    exact a_zret _ false (by decide) rfl dX8_takesShip_22 hv
def Lp_X8_takesAll_11 (g : GT) (d : Nat)  (I : IT) (J : JT) (P : Bool → IT → JT → Prop) : Prop := AW (kM g d M_X8_takesAll 0 0 (qZ g P)) 0 0 11 [(0, .ref (ga g 118))] [] (cW g I J)
def Lp_X8_takesAll_53 (g : GT) (d : Nat)  (I : IT) (J : JT) (P : Bool → IT → JT → Prop) : Prop := AW (kM g d M_X8_takesAll 0 0 (qZ g P)) 0 0 53 [(0, .ref (ga g 118))] [] (cW g I J)
def Lp_X8_takesAll_97 (g : GT) (d : Nat) (v1 : Int32) (I : IT) (J : JT) (P : Bool → IT → JT → Prop) : Prop := AW (kM g d M_X8_takesAll 0 0 (qZ g P)) 0 0 97 [(0, .ref (ga g 118)), (1, .int v1)] [] (cW g I J)
def VC_X8_takesAll_97 (g : GT) (d : Nat) (v1 : Int32) (I : IT) (J : JT) (P : Bool → IT → JT → Prop) : Prop :=
  ((4 ≤ v1 → ((¬ (I 118 7) = (I 118 3) → P false I J) ∧ ((I 118 7) = (I 118 3) → P true I J))) ∧ (¬ 4 ≤ v1 → (SemI g (d - 1) M_X8_figure [.ref (ga g 118), .int 9] I J (fun r105 I105 J105 => ((0 ≤ r105 → (vp_in (316 + v1) 952 ∧ (Lp_X8_takesAll_97 g d (v1 + 1) (sI I105 119 (316 + v1).toNatClampNeg r105) J105 P))) ∧ (¬ 0 ≤ r105 → P false I105 J105))))))
set_option maxRecDepth 4000 in
theorem w_X8_takesAll_97 {g : GT} {d : Nat} {v1 : Int32} {I : IT} {J : JT} {P : Bool → IT → JT → Prop} (hd : 1 ≤ d) (hv : VC_X8_takesAll_97 g d v1 I J P) : Lp_X8_takesAll_97 g d v1 I J P := by
  unfold VC_X8_takesAll_97 at hv
  unfold Lp_X8_takesAll_97
  refine a_iload_n 1 dX8_takesAll_97 rfl rfl ?_
  refine a_iconst (v := 4) dX8_takesAll_98 (by decide) ?_
  refine a_icmp_ge 132 dX8_takesAll_99 rfl (fun hc => ?_) (fun hc => ?_)
  · replace hv := hv.1 hc
    refine a_aload_n 0 dX8_takesAll_132 rfl rfl ?_
    refine a_getI G_X8_60 sh_118 rfl dX8_takesAll_133 ?_
    refine a_aload_n 0 dX8_takesAll_136 rfl rfl ?_
    refine a_getI G_X8_56 sh_118 rfl dX8_takesAll_137 ?_
    refine a_icmp_ne 147 dX8_takesAll_140 rfl (fun hc => ?_) (fun hc => ?_)
    · replace hv := hv.1 hc
      refine a_iconst (v := 0) dX8_takesAll_147 (by decide) ?_
      exact a_zret _ false (by decide) rfl dX8_takesAll_148 hv
    · replace hv := hv.2 hc
      refine a_iconst (v := 1) dX8_takesAll_143 (by decide) ?_
      refine a_goto 148 dX8_takesAll_144 rfl ?_
      exact a_zret _ true (by decide) rfl dX8_takesAll_148 hv
  · replace hv := hv.2 hc
    refine a_aload_n 0 dX8_takesAll_102 rfl rfl ?_
    refine a_bipush (v := 9) dX8_takesAll_103 (by decide) ?_
    refine c_VI (As := [.int 9]) (rest := []) hv K_X8_74 sh_118 rfl rfl rfl (Nat.le_of_ble_eq_true rfl) (rok (by omega) (Nat.le_of_ble_eq_true rfl)) ⟨Nat.zero_le _, Nat.zero_le _⟩ dX8_takesAll_105 (fun r105 I105 J105 hv => ?_)
    refine a_istore_n [(2, .int r105), (0, .ref (ga g 118)), (1, .int v1)] dX8_takesAll_108 rfl (Nat.le_of_ble_eq_true rfl) rfl ?_
    refine a_iload_n 0 dX8_takesAll_109 rfl rfl ?_
    refine a_if_ge 115 dX8_takesAll_110 rfl (fun hc => ?_) (fun hc => ?_)
    · replace hv := hv.1 hc
      refine a_aload_n 1 dX8_takesAll_115 rfl rfl ?_
      refine a_getR (r := 119) G_X8_7 sh_118 rfl dX8_takesAll_116 ?_
      refine a_sipush (v := 316) dX8_takesAll_119 (by decide) ?_
      refine a_iload_n 2 dX8_takesAll_122 rfl rfl ?_
      refine a_iadd dX8_takesAll_123 ?_
      refine a_iload_n 0 dX8_takesAll_124 rfl rfl ?_
      refine a_iast sh_119 hv.1 dX8_takesAll_125 ?_
      replace hv := hv.2
      refine a_iinc 2 (v1 + 1) [(1, .int (v1 + 1)), (2, .int r105), (0, .ref (ga g 118))] dX8_takesAll_126 rfl rfl (Nat.le_of_ble_eq_true rfl) rfl ?_
      refine a_goto 97 dX8_takesAll_129 rfl ?_
      exact a_sub [2, 0] rfl hv
    · replace hv := hv.2 hc
      refine a_iconst (v := 0) dX8_takesAll_113 (by decide) ?_
      exact a_zret _ false (by decide) rfl dX8_takesAll_114 hv
def VC_X8_takesAll_53 (g : GT) (d : Nat)  (I : IT) (J : JT) (P : Bool → IT → JT → Prop) : Prop :=
  (SemZ g (d - 1) M_X8_takesShip [.ref (ga g 118)] I J (fun r54 I54 J54 => ((r54 = true → ((6 ≤ (I54 119 240) → (SemZ g (d - 1) M_X8_takes [.ref (ga g 118), .int 59] I54 J54 (fun r87 I87 J87 => ((r87 = true → (Lp_X8_takesAll_97 g d 0 I87 J87 P)) ∧ (r87 = false → P false I87 J87))))) ∧ (¬ 6 ≤ (I54 119 240) → (SemZ g (d - 1) M_X8_takes [.ref (ga g 118), .int 44] I54 J54 (fun r78 I78 J78 => ((r78 = true → (Lp_X8_takesAll_53 g d  I78 J78 P)) ∧ (r78 = false → (SemZ g (d - 1) M_X8_takes [.ref (ga g 118), .int 59] I78 J78 (fun r87 I87 J87 => ((r87 = true → (Lp_X8_takesAll_97 g d 0 I87 J87 P)) ∧ (r87 = false → P false I87 J87))))))))))) ∧ (r54 = false → P false I54 J54))))
set_option maxRecDepth 4000 in
theorem w_X8_takesAll_53 {g : GT} {d : Nat}  {I : IT} {J : JT} {P : Bool → IT → JT → Prop} (hd : 1 ≤ d) (hv : VC_X8_takesAll_53 g d  I J P) : Lp_X8_takesAll_53 g d  I J P := by
  unfold VC_X8_takesAll_53 at hv
  unfold Lp_X8_takesAll_53
  refine a_aload_n 0 dX8_takesAll_53 rfl rfl ?_
  refine c_VZ (As := []) (rest := []) hv K_X8_90 sh_118 rfl rfl rfl (Nat.le_of_ble_eq_true rfl) (rok (by omega) (Nat.le_of_ble_eq_true rfl)) ⟨Nat.zero_le _, Nat.zero_le _⟩ dX8_takesAll_54 (fun r54 I54 J54 hv => ?_)
  refine a_ifz_ne 62 dX8_takesAll_57 rfl (fun hc => ?_) (fun hc => ?_)
  · replace hv := hv.1 hc
    refine a_aload_n 0 dX8_takesAll_62 rfl rfl ?_
    refine a_getR (r := 119) G_X8_7 sh_118 rfl dX8_takesAll_63 ?_
    refine a_sipush (v := 240) dX8_takesAll_66 (by decide) ?_
    refine a_iald sh_119 (by unfold vp_in; decide) dX8_takesAll_69 ?_
    refine a_bipush (v := 6) dX8_takesAll_70 (by decide) ?_
    refine a_icmp_ge 84 dX8_takesAll_72 rfl (fun hc => ?_) (fun hc => ?_)
    · replace hv := hv.1 hc
      refine a_aload_n 0 dX8_takesAll_84 rfl rfl ?_
      refine a_bipush (v := 59) dX8_takesAll_85 (by decide) ?_
      refine c_VZ (As := [.int 59]) (rest := []) hv K_X8_82 sh_118 rfl rfl rfl (Nat.le_of_ble_eq_true rfl) (rok (by omega) (Nat.le_of_ble_eq_true rfl)) ⟨Nat.zero_le _, Nat.zero_le _⟩ dX8_takesAll_87 (fun r87 I87 J87 hv => ?_)
      refine a_ifz_ne 95 dX8_takesAll_90 rfl (fun hc => ?_) (fun hc => ?_)
      · replace hv := hv.1 hc
        refine a_iconst (v := 0) dX8_takesAll_95 (by decide) ?_
        refine a_istore_n [(1, .int 0), (0, .ref (ga g 118))] dX8_takesAll_96 rfl (Nat.le_of_ble_eq_true rfl) rfl ?_
        exact a_sub [1, 0] rfl hv
      · replace hv := hv.2 hc
        refine a_iconst (v := 0) dX8_takesAll_93 (by decide) ?_
        exact a_zret _ false (by decide) rfl dX8_takesAll_94 hv
    · replace hv := hv.2 hc
      refine a_aload_n 0 dX8_takesAll_75 rfl rfl ?_
      refine a_bipush (v := 44) dX8_takesAll_76 (by decide) ?_
      refine c_VZ (As := [.int 44]) (rest := []) hv K_X8_82 sh_118 rfl rfl rfl (Nat.le_of_ble_eq_true rfl) (rok (by omega) (Nat.le_of_ble_eq_true rfl)) ⟨Nat.zero_le _, Nat.zero_le _⟩ dX8_takesAll_78 (fun r78 I78 J78 hv => ?_)
      refine a_ifz_ne 53 dX8_takesAll_81 rfl (fun hc => ?_) (fun hc => ?_)
      · replace hv := hv.1 hc
        exact a_sub [0] rfl hv
      · replace hv := hv.2 hc
        refine a_aload_n 0 dX8_takesAll_84 rfl rfl ?_
        refine a_bipush (v := 59) dX8_takesAll_85 (by decide) ?_
        refine c_VZ (As := [.int 59]) (rest := []) hv K_X8_82 sh_118 rfl rfl rfl (Nat.le_of_ble_eq_true rfl) (rok (by omega) (Nat.le_of_ble_eq_true rfl)) ⟨Nat.zero_le _, Nat.zero_le _⟩ dX8_takesAll_87 (fun r87 I87 J87 hv => ?_)
        refine a_ifz_ne 95 dX8_takesAll_90 rfl (fun hc => ?_) (fun hc => ?_)
        · replace hv := hv.1 hc
          refine a_iconst (v := 0) dX8_takesAll_95 (by decide) ?_
          refine a_istore_n [(1, .int 0), (0, .ref (ga g 118))] dX8_takesAll_96 rfl (Nat.le_of_ble_eq_true rfl) rfl ?_
          exact a_sub [1, 0] rfl hv
        · replace hv := hv.2 hc
          refine a_iconst (v := 0) dX8_takesAll_93 (by decide) ?_
          exact a_zret _ false (by decide) rfl dX8_takesAll_94 hv
  · replace hv := hv.2 hc
    refine a_iconst (v := 0) dX8_takesAll_60 (by decide) ?_
    exact a_zret _ false (by decide) rfl dX8_takesAll_61 hv
def VC_X8_takesAll_11 (g : GT) (d : Nat)  (I : IT) (J : JT) (P : Bool → IT → JT → Prop) : Prop :=
  (SemZ g (d - 1) M_X8_takesRow [.ref (ga g 118)] I J (fun r12 I12 J12 => ((r12 = true → ((6 ≤ (I12 119 241) → (SemZ g (d - 1) M_X8_takes [.ref (ga g 118), .int 59] I12 J12 (fun r45 I45 J45 => ((r45 = true → (Lp_X8_takesAll_53 g d  I45 J45 P)) ∧ (r45 = false → P false I45 J45))))) ∧ (¬ 6 ≤ (I12 119 241) → (SemZ g (d - 1) M_X8_takes [.ref (ga g 118), .int 47] I12 J12 (fun r36 I36 J36 => ((r36 = true → (Lp_X8_takesAll_11 g d  I36 J36 P)) ∧ (r36 = false → (SemZ g (d - 1) M_X8_takes [.ref (ga g 118), .int 59] I36 J36 (fun r45 I45 J45 => ((r45 = true → (Lp_X8_takesAll_53 g d  I45 J45 P)) ∧ (r45 = false → P false I45 J45))))))))))) ∧ (r12 = false → P false I12 J12))))
set_option maxRecDepth 4000 in
theorem w_X8_takesAll_11 {g : GT} {d : Nat}  {I : IT} {J : JT} {P : Bool → IT → JT → Prop} (hd : 1 ≤ d) (hv : VC_X8_takesAll_11 g d  I J P) : Lp_X8_takesAll_11 g d  I J P := by
  unfold VC_X8_takesAll_11 at hv
  unfold Lp_X8_takesAll_11
  refine a_aload_n 0 dX8_takesAll_11 rfl rfl ?_
  refine c_VZ (As := []) (rest := []) hv K_X8_86 sh_118 rfl rfl rfl (Nat.le_of_ble_eq_true rfl) (rok (by omega) (Nat.le_of_ble_eq_true rfl)) ⟨Nat.zero_le _, Nat.zero_le _⟩ dX8_takesAll_12 (fun r12 I12 J12 hv => ?_)
  refine a_ifz_ne 20 dX8_takesAll_15 rfl (fun hc => ?_) (fun hc => ?_)
  · replace hv := hv.1 hc
    refine a_aload_n 0 dX8_takesAll_20 rfl rfl ?_
    refine a_getR (r := 119) G_X8_7 sh_118 rfl dX8_takesAll_21 ?_
    refine a_sipush (v := 241) dX8_takesAll_24 (by decide) ?_
    refine a_iald sh_119 (by unfold vp_in; decide) dX8_takesAll_27 ?_
    refine a_bipush (v := 6) dX8_takesAll_28 (by decide) ?_
    refine a_icmp_ge 42 dX8_takesAll_30 rfl (fun hc => ?_) (fun hc => ?_)
    · replace hv := hv.1 hc
      refine a_aload_n 0 dX8_takesAll_42 rfl rfl ?_
      refine a_bipush (v := 59) dX8_takesAll_43 (by decide) ?_
      refine c_VZ (As := [.int 59]) (rest := []) hv K_X8_82 sh_118 rfl rfl rfl (Nat.le_of_ble_eq_true rfl) (rok (by omega) (Nat.le_of_ble_eq_true rfl)) ⟨Nat.zero_le _, Nat.zero_le _⟩ dX8_takesAll_45 (fun r45 I45 J45 hv => ?_)
      refine a_ifz_ne 53 dX8_takesAll_48 rfl (fun hc => ?_) (fun hc => ?_)
      · replace hv := hv.1 hc
        exact a_sub [0] rfl hv
      · replace hv := hv.2 hc
        refine a_iconst (v := 0) dX8_takesAll_51 (by decide) ?_
        exact a_zret _ false (by decide) rfl dX8_takesAll_52 hv
    · replace hv := hv.2 hc
      refine a_aload_n 0 dX8_takesAll_33 rfl rfl ?_
      refine a_bipush (v := 47) dX8_takesAll_34 (by decide) ?_
      refine c_VZ (As := [.int 47]) (rest := []) hv K_X8_82 sh_118 rfl rfl rfl (Nat.le_of_ble_eq_true rfl) (rok (by omega) (Nat.le_of_ble_eq_true rfl)) ⟨Nat.zero_le _, Nat.zero_le _⟩ dX8_takesAll_36 (fun r36 I36 J36 hv => ?_)
      refine a_ifz_ne 11 dX8_takesAll_39 rfl (fun hc => ?_) (fun hc => ?_)
      · replace hv := hv.1 hc
        exact a_sub [0] rfl hv
      · replace hv := hv.2 hc
        refine a_aload_n 0 dX8_takesAll_42 rfl rfl ?_
        refine a_bipush (v := 59) dX8_takesAll_43 (by decide) ?_
        refine c_VZ (As := [.int 59]) (rest := []) hv K_X8_82 sh_118 rfl rfl rfl (Nat.le_of_ble_eq_true rfl) (rok (by omega) (Nat.le_of_ble_eq_true rfl)) ⟨Nat.zero_le _, Nat.zero_le _⟩ dX8_takesAll_45 (fun r45 I45 J45 hv => ?_)
        refine a_ifz_ne 53 dX8_takesAll_48 rfl (fun hc => ?_) (fun hc => ?_)
        · replace hv := hv.1 hc
          exact a_sub [0] rfl hv
        · replace hv := hv.2 hc
          refine a_iconst (v := 0) dX8_takesAll_51 (by decide) ?_
          exact a_zret _ false (by decide) rfl dX8_takesAll_52 hv
  · replace hv := hv.2 hc
    refine a_iconst (v := 0) dX8_takesAll_18 (by decide) ?_
    exact a_zret _ false (by decide) rfl dX8_takesAll_19 hv
def VC_X8_takesAll (g : GT) (d : Nat)  (I : IT) (J : JT) (P : Bool → IT → JT → Prop) : Prop :=
  (SemZ g (d - 1) M_X8_takes [.ref (ga g 118), .int 102] I J (fun r3 I3 J3 => ((r3 = true → (Lp_X8_takesAll_11 g d  I3 J3 P)) ∧ (r3 = false → P false I3 J3))))
set_option maxRecDepth 4000 in
theorem w_X8_takesAll {g : GT} {d : Nat}  {I : IT} {J : JT} {P : Bool → IT → JT → Prop} (hd : 1 ≤ d) (hv : VC_X8_takesAll g d  I J P) : SemZ g d M_X8_takesAll [.ref (ga g 118)] I J P := by
  unfold VC_X8_takesAll at hv
  refine sem_intro (by decide +kernel) rfl (Nat.le_of_ble_eq_true rfl) ?_
  show AW _ 0 0 0 [(0, .ref (ga g 118))] [] (cW g I J)
  refine a_aload_n 0 dX8_takesAll_0 rfl rfl ?_
  refine a_bipush (v := 102) dX8_takesAll_1 (by decide) ?_
  refine c_VZ (As := [.int 102]) (rest := []) hv K_X8_82 sh_118 rfl rfl rfl (Nat.le_of_ble_eq_true rfl) (rok (by omega) (Nat.le_of_ble_eq_true rfl)) ⟨Nat.zero_le _, Nat.zero_le _⟩ dX8_takesAll_3 (fun r3 I3 J3 hv => ?_)
  refine a_ifz_ne 11 dX8_takesAll_6 rfl (fun hc => ?_) (fun hc => ?_)
  · replace hv := hv.1 hc
    exact a_sub [0] rfl hv
  · replace hv := hv.2 hc
    refine a_iconst (v := 0) dX8_takesAll_9 (by decide) ?_
    exact a_zret _ false (by decide) rfl dX8_takesAll_10 hv
def Lp_X8_fleet_2 (g : GT) (d : Nat) (v1 : Int32) (I : IT) (J : JT) (P : Int32 → IT → JT → Prop) : Prop := AW (kM g d M_X8_fleet 0 0 (qI g P)) 0 0 2 [(0, .ref (ga g 118)), (1, .int v1)] [] (cW g I J)
def VC_X8_fleet_2 (g : GT) (d : Nat) (v1 : Int32) (I : IT) (J : JT) (P : Int32 → IT → JT → Prop) : Prop :=
  ((80 ≤ v1 → (SemZ g (d - 1) M_X8_takesAll [.ref (ga g 118)] (sI I 118 7 0) J (fun r31 I31 J31 => ((r31 = true → (SemV g (d - 1) M_X8_bring [.ref (ga g 118), .int 240, .int 0, .int 80] (sI I31 118 3 0) J31 (fun I59 J59 => P ((sI I59 118 1 0) 119 0) (sI I59 118 1 0) J59))) ∧ (r31 = false → P ((-100) - ((sI I31 118 3 0) 118 7)) (sI I31 118 3 0) J31))))) ∧ (¬ 80 ≤ v1 → (vp_in (240 + v1) 952 ∧ (Lp_X8_fleet_2 g d (v1 + 1) (sI I 119 (240 + v1).toNatClampNeg 0) J P))))
set_option maxRecDepth 4000 in
theorem w_X8_fleet_2 {g : GT} {d : Nat} {v1 : Int32} {I : IT} {J : JT} {P : Int32 → IT → JT → Prop} (hd : 1 ≤ d) (hv : VC_X8_fleet_2 g d v1 I J P) : Lp_X8_fleet_2 g d v1 I J P := by
  unfold VC_X8_fleet_2 at hv
  unfold Lp_X8_fleet_2
  refine a_iload_n 1 dX8_fleet_2 rfl rfl ?_
  refine a_bipush (v := 80) dX8_fleet_3 (by decide) ?_
  refine a_icmp_ge 25 dX8_fleet_5 rfl (fun hc => ?_) (fun hc => ?_)
  · replace hv := hv.1 hc
    refine a_aload_n 0 dX8_fleet_25 rfl rfl ?_
    refine a_iconst (v := 0) dX8_fleet_26 (by decide) ?_
    refine a_putI H_X8_60 sh_118 rfl rfl rfl dX8_fleet_27 ?_
    refine a_aload_n 0 dX8_fleet_30 rfl rfl ?_
    refine c_VZ (As := []) (rest := []) hv K_X8_93 sh_118 rfl rfl rfl (Nat.le_of_ble_eq_true rfl) (rok (by omega) (Nat.le_of_ble_eq_true rfl)) ⟨Nat.zero_le _, Nat.zero_le _⟩ dX8_fleet_31 (fun r31 I31 J31 hv => ?_)
    refine a_istore_n [(1, .int (bI r31)), (0, .ref (ga g 118))] dX8_fleet_34 rfl (Nat.le_of_ble_eq_true rfl) rfl ?_
    refine a_aload_n 1 dX8_fleet_35 rfl rfl ?_
    refine a_iconst (v := 0) dX8_fleet_36 (by decide) ?_
    refine a_putI H_X8_56 sh_118 rfl rfl rfl dX8_fleet_37 ?_
    refine a_iload_n 0 dX8_fleet_40 rfl rfl ?_
    refine a_ifz_ne 52 dX8_fleet_41 rfl (fun hc => ?_) (fun hc => ?_)
    · replace hv := hv.1 hc
      refine a_aload_n 1 dX8_fleet_52 rfl rfl ?_
      refine a_sipush (v := 240) dX8_fleet_53 (by decide) ?_
      refine a_iconst (v := 0) dX8_fleet_56 (by decide) ?_
      refine a_bipush (v := 80) dX8_fleet_57 (by decide) ?_
      refine c_VV (As := [.int 240, .int 0, .int 80]) (rest := []) hv K_X8_96 sh_118 rfl rfl rfl (Nat.le_of_ble_eq_true rfl) (rok (by omega) (Nat.le_of_ble_eq_true rfl)) ⟨Nat.zero_le _, Nat.zero_le _⟩ dX8_fleet_59 (fun I59 J59 hv => ?_)
      refine a_aload_n 1 dX8_fleet_62 rfl rfl ?_
      refine a_iconst (v := 0) dX8_fleet_63 (by decide) ?_
      refine a_putI H_X8_100 sh_118 rfl rfl rfl dX8_fleet_64 ?_
      refine a_aload_n 1 dX8_fleet_67 rfl rfl ?_
      refine a_getR (r := 119) G_X8_7 sh_118 rfl dX8_fleet_68 ?_
      refine a_iconst (v := 0) dX8_fleet_71 (by decide) ?_
      refine a_iald sh_119 (by unfold vp_in; decide) dX8_fleet_72 ?_
      exact a_iret rfl dX8_fleet_73 hv
    · replace hv := hv.2 hc
      refine a_bipush (v := (-100)) dX8_fleet_44 (by decide) ?_
      refine a_aload_n 1 dX8_fleet_46 rfl rfl ?_
      refine a_getI G_X8_60 sh_118 rfl dX8_fleet_47 ?_
      refine a_isub dX8_fleet_50 ?_
      exact a_iret rfl dX8_fleet_51 hv
  · replace hv := hv.2 hc
    refine a_aload_n 0 dX8_fleet_8 rfl rfl ?_
    refine a_getR (r := 119) G_X8_7 sh_118 rfl dX8_fleet_9 ?_
    refine a_sipush (v := 240) dX8_fleet_12 (by decide) ?_
    refine a_iload_n 1 dX8_fleet_15 rfl rfl ?_
    refine a_iadd dX8_fleet_16 ?_
    refine a_iconst (v := 0) dX8_fleet_17 (by decide) ?_
    refine a_iast sh_119 hv.1 dX8_fleet_18 ?_
    replace hv := hv.2
    refine a_iinc 1 (v1 + 1) [(1, .int (v1 + 1)), (0, .ref (ga g 118))] dX8_fleet_19 rfl rfl (Nat.le_of_ble_eq_true rfl) rfl ?_
    refine a_goto 2 dX8_fleet_22 rfl ?_
    exact a_sub [1, 0] rfl hv
def VC_X8_fleet (g : GT) (d : Nat)  (I : IT) (J : JT) (P : Int32 → IT → JT → Prop) : Prop :=
  (Lp_X8_fleet_2 g d 0 I J P)
set_option maxRecDepth 4000 in
theorem w_X8_fleet {g : GT} {d : Nat}  {I : IT} {J : JT} {P : Int32 → IT → JT → Prop} (hv : VC_X8_fleet g d  I J P) : SemI g d M_X8_fleet [.ref (ga g 118)] I J P := by
  unfold VC_X8_fleet at hv
  refine sem_intro (by decide +kernel) rfl (Nat.le_of_ble_eq_true rfl) ?_
  show AW _ 0 0 0 [(0, .ref (ga g 118))] [] (cW g I J)
  refine a_iconst (v := 0) dX8_fleet_0 (by decide) ?_
  refine a_istore_n [(1, .int 0), (0, .ref (ga g 118))] dX8_fleet_1 rfl (Nat.le_of_ble_eq_true rfl) rfl ?_
  exact a_sub [1, 0] rfl hv
def VC_X8_ship (g : GT) (d : Nat) (v1 : Int32) (v2 : Int32) (I : IT) (J : JT) (P : Int32 → IT → JT → Prop) : Prop :=
  (SemZ g (d - 1) M_X8_isShip [.ref (ga g 118), .int v1] I J (fun r2 I2 J2 => ((r2 = true → ((¬ v2 = 0 → ((¬ v2 = 1 → ((¬ v2 = 2 → ((¬ v2 = 3 → P (-1) I2 J2) ∧ (v2 = 3 → (vp_in (70 + v1) 952 ∧ P (I2 119 (70 + v1).toNatClampNeg) I2 J2)))) ∧ (v2 = 2 → (vp_in (64 + v1) 952 ∧ P (I2 119 (64 + v1).toNatClampNeg) I2 J2)))) ∧ (v2 = 1 → (vp_in (58 + v1) 952 ∧ P (I2 119 (58 + v1).toNatClampNeg) I2 J2)))) ∧ (v2 = 0 → (vp_in (51 + v1) 952 ∧ P (I2 119 (51 + v1).toNatClampNeg) I2 J2)))) ∧ (r2 = false → P (-1) I2 J2))))
set_option maxRecDepth 4000 in
theorem w_X8_ship {g : GT} {d : Nat} {v1 : Int32} {v2 : Int32} {I : IT} {J : JT} {P : Int32 → IT → JT → Prop} (hd : 1 ≤ d) (hv : VC_X8_ship g d v1 v2 I J P) : SemI g d M_X8_ship [.ref (ga g 118), .int v1, .int v2] I J P := by
  unfold VC_X8_ship at hv
  refine sem_intro (by decide +kernel) rfl (Nat.le_of_ble_eq_true rfl) ?_
  show AW _ 0 0 0 [(0, .ref (ga g 118)), (1, .int v1), (2, .int v2)] [] (cW g I J)
  refine a_aload_n 0 dX8_ship_0 rfl rfl ?_
  refine a_iload_n 1 dX8_ship_1 rfl rfl ?_
  refine c_VZ (As := [.int v1]) (rest := []) hv K_X8_103 sh_118 rfl rfl rfl (Nat.le_of_ble_eq_true rfl) (rok (by omega) (Nat.le_of_ble_eq_true rfl)) ⟨Nat.zero_le _, Nat.zero_le _⟩ dX8_ship_2 (fun r2 I2 J2 hv => ?_)
  refine a_ifz_ne 10 dX8_ship_5 rfl (fun hc => ?_) (fun hc => ?_)
  · replace hv := hv.1 hc
    refine a_iload_n 2 dX8_ship_10 rfl rfl ?_
    refine a_if_ne 26 dX8_ship_11 rfl (fun hc => ?_) (fun hc => ?_)
    · replace hv := hv.1 hc
      refine a_iload_n 2 dX8_ship_26 rfl rfl ?_
      refine a_iconst (v := 1) dX8_ship_27 (by decide) ?_
      refine a_icmp_ne 43 dX8_ship_28 rfl (fun hc => ?_) (fun hc => ?_)
      · replace hv := hv.1 hc
        refine a_iload_n 2 dX8_ship_43 rfl rfl ?_
        refine a_iconst (v := 2) dX8_ship_44 (by decide) ?_
        refine a_icmp_ne 60 dX8_ship_45 rfl (fun hc => ?_) (fun hc => ?_)
        · replace hv := hv.1 hc
          refine a_iload_n 2 dX8_ship_60 rfl rfl ?_
          refine a_iconst (v := 3) dX8_ship_61 (by decide) ?_
          refine a_icmp_ne 77 dX8_ship_62 rfl (fun hc => ?_) (fun hc => ?_)
          · replace hv := hv.1 hc
            refine a_iconst (v := (-1)) dX8_ship_77 (by decide) ?_
            exact a_iret rfl dX8_ship_78 hv
          · replace hv := hv.2 hc
            refine a_aload_n 0 dX8_ship_65 rfl rfl ?_
            refine a_getR (r := 119) G_X8_7 sh_118 rfl dX8_ship_66 ?_
            refine a_bipush (v := 70) dX8_ship_69 (by decide) ?_
            refine a_iload_n 1 dX8_ship_71 rfl rfl ?_
            refine a_iadd dX8_ship_72 ?_
            refine a_iald sh_119 hv.1 dX8_ship_73 ?_
            replace hv := hv.2
            refine a_goto 78 dX8_ship_74 rfl ?_
            exact a_iret rfl dX8_ship_78 hv
        · replace hv := hv.2 hc
          refine a_aload_n 0 dX8_ship_48 rfl rfl ?_
          refine a_getR (r := 119) G_X8_7 sh_118 rfl dX8_ship_49 ?_
          refine a_bipush (v := 64) dX8_ship_52 (by decide) ?_
          refine a_iload_n 1 dX8_ship_54 rfl rfl ?_
          refine a_iadd dX8_ship_55 ?_
          refine a_iald sh_119 hv.1 dX8_ship_56 ?_
          replace hv := hv.2
          refine a_goto 78 dX8_ship_57 rfl ?_
          exact a_iret rfl dX8_ship_78 hv
      · replace hv := hv.2 hc
        refine a_aload_n 0 dX8_ship_31 rfl rfl ?_
        refine a_getR (r := 119) G_X8_7 sh_118 rfl dX8_ship_32 ?_
        refine a_bipush (v := 58) dX8_ship_35 (by decide) ?_
        refine a_iload_n 1 dX8_ship_37 rfl rfl ?_
        refine a_iadd dX8_ship_38 ?_
        refine a_iald sh_119 hv.1 dX8_ship_39 ?_
        replace hv := hv.2
        refine a_goto 78 dX8_ship_40 rfl ?_
        exact a_iret rfl dX8_ship_78 hv
    · replace hv := hv.2 hc
      refine a_aload_n 0 dX8_ship_14 rfl rfl ?_
      refine a_getR (r := 119) G_X8_7 sh_118 rfl dX8_ship_15 ?_
      refine a_bipush (v := 51) dX8_ship_18 (by decide) ?_
      refine a_iload_n 1 dX8_ship_20 rfl rfl ?_
      refine a_iadd dX8_ship_21 ?_
      refine a_iald sh_119 hv.1 dX8_ship_22 ?_
      replace hv := hv.2
      refine a_goto 78 dX8_ship_23 rfl ?_
      exact a_iret rfl dX8_ship_78 hv
  · replace hv := hv.2 hc
    refine a_iconst (v := (-1)) dX8_ship_8 (by decide) ?_
    exact a_iret rfl dX8_ship_9 hv
def VC_X8_isA (g : GT) (d : Nat) (v0 : Int32) (v1 : Int32) (I : IT) (J : JT) (P : Bool → IT → JT → Prop) : Prop :=
  ((v1 = 0 → P true I J) ∧ (¬ v1 = 0 → ((v1 = v0 → P true I J) ∧ (¬ v1 = v0 → ((¬ v1 = 1 → ((¬ v1 = 2 → P false I J) ∧ (v1 = 2 → ((¬ v0 = 5 → P false I J) ∧ (v0 = 5 → P true I J))))) ∧ (v1 = 1 → ((v0 = 2 → P true I J) ∧ (¬ v0 = 2 → ((v0 = 4 → P true I J) ∧ (¬ v0 = 4 → ((v0 = 5 → P true I J) ∧ (¬ v0 = 5 → ((¬ v1 = 2 → P false I J) ∧ (v1 = 2 → ((¬ v0 = 5 → P false I J) ∧ (v0 = 5 → P true I J))))))))))))))))
set_option maxRecDepth 4000 in
theorem w_X8_isA {g : GT} {d : Nat} {v0 : Int32} {v1 : Int32} {I : IT} {J : JT} {P : Bool → IT → JT → Prop} (hv : VC_X8_isA g d v0 v1 I J P) : SemZ g d M_X8_isA [.int v0, .int v1] I J P := by
  unfold VC_X8_isA at hv
  refine sem_intro (by decide +kernel) rfl (Nat.le_of_ble_eq_true rfl) ?_
  show AW _ 0 0 0 [(0, .int v0), (1, .int v1)] [] (cW g I J)
  refine a_iload_n 1 dX8_isA_0 rfl rfl ?_
  refine a_if_eq 39 dX8_isA_1 rfl (fun hc => ?_) (fun hc => ?_)
  · replace hv := hv.1 hc
    refine a_iconst (v := 1) dX8_isA_39 (by decide) ?_
    refine a_goto 44 dX8_isA_40 rfl ?_
    exact a_zret _ true (by decide) rfl dX8_isA_44 hv
  · replace hv := hv.2 hc
    refine a_iload_n 1 dX8_isA_4 rfl rfl ?_
    refine a_iload_n 0 dX8_isA_5 rfl rfl ?_
    refine a_icmp_eq 39 dX8_isA_6 rfl (fun hc => ?_) (fun hc => ?_)
    · replace hv := hv.1 hc
      refine a_iconst (v := 1) dX8_isA_39 (by decide) ?_
      refine a_goto 44 dX8_isA_40 rfl ?_
      exact a_zret _ true (by decide) rfl dX8_isA_44 hv
    · replace hv := hv.2 hc
      refine a_iload_n 1 dX8_isA_9 rfl rfl ?_
      refine a_iconst (v := 1) dX8_isA_10 (by decide) ?_
      refine a_icmp_ne 29 dX8_isA_11 rfl (fun hc => ?_) (fun hc => ?_)
      · replace hv := hv.1 hc
        refine a_iload_n 1 dX8_isA_29 rfl rfl ?_
        refine a_iconst (v := 2) dX8_isA_30 (by decide) ?_
        refine a_icmp_ne 43 dX8_isA_31 rfl (fun hc => ?_) (fun hc => ?_)
        · replace hv := hv.1 hc
          refine a_iconst (v := 0) dX8_isA_43 (by decide) ?_
          exact a_zret _ false (by decide) rfl dX8_isA_44 hv
        · replace hv := hv.2 hc
          refine a_iload_n 0 dX8_isA_34 rfl rfl ?_
          refine a_iconst (v := 5) dX8_isA_35 (by decide) ?_
          refine a_icmp_ne 43 dX8_isA_36 rfl (fun hc => ?_) (fun hc => ?_)
          · replace hv := hv.1 hc
            refine a_iconst (v := 0) dX8_isA_43 (by decide) ?_
            exact a_zret _ false (by decide) rfl dX8_isA_44 hv
          · replace hv := hv.2 hc
            refine a_iconst (v := 1) dX8_isA_39 (by decide) ?_
            refine a_goto 44 dX8_isA_40 rfl ?_
            exact a_zret _ true (by decide) rfl dX8_isA_44 hv
      · replace hv := hv.2 hc
        refine a_iload_n 0 dX8_isA_14 rfl rfl ?_
        refine a_iconst (v := 2) dX8_isA_15 (by decide) ?_
        refine a_icmp_eq 39 dX8_isA_16 rfl (fun hc => ?_) (fun hc => ?_)
        · replace hv := hv.1 hc
          refine a_iconst (v := 1) dX8_isA_39 (by decide) ?_
          refine a_goto 44 dX8_isA_40 rfl ?_
          exact a_zret _ true (by decide) rfl dX8_isA_44 hv
        · replace hv := hv.2 hc
          refine a_iload_n 0 dX8_isA_19 rfl rfl ?_
          refine a_iconst (v := 4) dX8_isA_20 (by decide) ?_
          refine a_icmp_eq 39 dX8_isA_21 rfl (fun hc => ?_) (fun hc => ?_)
          · replace hv := hv.1 hc
            refine a_iconst (v := 1) dX8_isA_39 (by decide) ?_
            refine a_goto 44 dX8_isA_40 rfl ?_
            exact a_zret _ true (by decide) rfl dX8_isA_44 hv
          · replace hv := hv.2 hc
            refine a_iload_n 0 dX8_isA_24 rfl rfl ?_
            refine a_iconst (v := 5) dX8_isA_25 (by decide) ?_
            refine a_icmp_eq 39 dX8_isA_26 rfl (fun hc => ?_) (fun hc => ?_)
            · replace hv := hv.1 hc
              refine a_iconst (v := 1) dX8_isA_39 (by decide) ?_
              refine a_goto 44 dX8_isA_40 rfl ?_
              exact a_zret _ true (by decide) rfl dX8_isA_44 hv
            · replace hv := hv.2 hc
              refine a_iload_n 1 dX8_isA_29 rfl rfl ?_
              refine a_iconst (v := 2) dX8_isA_30 (by decide) ?_
              refine a_icmp_ne 43 dX8_isA_31 rfl (fun hc => ?_) (fun hc => ?_)
              · replace hv := hv.1 hc
                refine a_iconst (v := 0) dX8_isA_43 (by decide) ?_
                exact a_zret _ false (by decide) rfl dX8_isA_44 hv
              · replace hv := hv.2 hc
                refine a_iload_n 0 dX8_isA_34 rfl rfl ?_
                refine a_iconst (v := 5) dX8_isA_35 (by decide) ?_
                refine a_icmp_ne 43 dX8_isA_36 rfl (fun hc => ?_) (fun hc => ?_)
                · replace hv := hv.1 hc
                  refine a_iconst (v := 0) dX8_isA_43 (by decide) ?_
                  exact a_zret _ false (by decide) rfl dX8_isA_44 hv
                · replace hv := hv.2 hc
                  refine a_iconst (v := 1) dX8_isA_39 (by decide) ?_
                  refine a_goto 44 dX8_isA_40 rfl ?_
                  exact a_zret _ true (by decide) rfl dX8_isA_44 hv
def VC_X8_as (g : GT) (d : Nat) (v1 : Int32) (v2 : Int32) (I : IT) (J : JT) (P : Int32 → IT → JT → Prop) : Prop :=
  (SemZ g (d - 1) M_X8_isShip [.ref (ga g 118), .int v1] I J (fun r2 I2 J2 => ((r2 = false → P (-1) I2 J2) ∧ (r2 = true → (SemZ g (d - 1) M_X8_in [.long (v2.toInt64), .long 0, .long 5] I2 J2 (fun r14 I14 J14 => ((r14 = true → (vp_in (51 + v1) 952 ∧ (SemZ g (d - 1) M_X8_isA [.int (I14 119 (51 + v1).toNatClampNeg), .int v2] I14 J14 (fun r32 I32 J32 => ((r32 = false → P (-12) I32 J32) ∧ (r32 = true → P v1 I32 J32)))))) ∧ (r14 = false → P (-1) I14 J14))))))))
set_option maxRecDepth 4000 in
theorem w_X8_as {g : GT} {d : Nat} {v1 : Int32} {v2 : Int32} {I : IT} {J : JT} {P : Int32 → IT → JT → Prop} (hd : 1 ≤ d) (hv : VC_X8_as g d v1 v2 I J P) : SemI g d M_X8_as [.ref (ga g 118), .int v1, .int v2] I J P := by
  unfold VC_X8_as at hv
  refine sem_intro (by decide +kernel) rfl (Nat.le_of_ble_eq_true rfl) ?_
  show AW _ 0 0 0 [(0, .ref (ga g 118)), (1, .int v1), (2, .int v2)] [] (cW g I J)
  refine a_aload_n 0 dX8_as_0 rfl rfl ?_
  refine a_iload_n 1 dX8_as_1 rfl rfl ?_
  refine c_VZ (As := [.int v1]) (rest := []) hv K_X8_103 sh_118 rfl rfl rfl (Nat.le_of_ble_eq_true rfl) (rok (by omega) (Nat.le_of_ble_eq_true rfl)) ⟨Nat.zero_le _, Nat.zero_le _⟩ dX8_as_2 (fun r2 I2 J2 hv => ?_)
  refine a_ifz_eq 20 dX8_as_5 rfl (fun hc => ?_) (fun hc => ?_)
  · replace hv := hv.1 hc
    refine a_iconst (v := (-1)) dX8_as_20 (by decide) ?_
    exact a_iret rfl dX8_as_21 hv
  · replace hv := hv.2 hc
    refine a_iload_n 2 dX8_as_8 rfl rfl ?_
    refine a_i2l dX8_as_9 ?_
    refine a_lconst (v := 0) dX8_as_10 (by decide) ?_
    refine a_ldc2 (v := 5) dX8_as_11 cl_X8_106 ?_
    refine c_SZ (As := [.long (v2.toInt64), .long 0, .long 5]) (rest := []) hv K_X8_44 rfl rfl (Nat.le_of_ble_eq_true rfl) (rok (by omega) (Nat.le_of_ble_eq_true rfl)) ⟨Nat.zero_le _, Nat.zero_le _⟩ dX8_as_14 (fun r14 I14 J14 hv => ?_)
    refine a_ifz_ne 22 dX8_as_17 rfl (fun hc => ?_) (fun hc => ?_)
    · replace hv := hv.1 hc
      refine a_aload_n 0 dX8_as_22 rfl rfl ?_
      refine a_getR (r := 119) G_X8_7 sh_118 rfl dX8_as_23 ?_
      refine a_bipush (v := 51) dX8_as_26 (by decide) ?_
      refine a_iload_n 1 dX8_as_28 rfl rfl ?_
      refine a_iadd dX8_as_29 ?_
      refine a_iald sh_119 hv.1 dX8_as_30 ?_
      replace hv := hv.2
      refine a_iload_n 2 dX8_as_31 rfl rfl ?_
      refine c_SZ (As := [.int (I14 119 (51 + v1).toNatClampNeg), .int v2]) (rest := []) hv K_X8_108 rfl rfl (Nat.le_of_ble_eq_true rfl) (rok (by omega) (Nat.le_of_ble_eq_true rfl)) ⟨Nat.zero_le _, Nat.zero_le _⟩ dX8_as_32 (fun r32 I32 J32 hv => ?_)
      refine a_ifz_eq 42 dX8_as_35 rfl (fun hc => ?_) (fun hc => ?_)
      · replace hv := hv.1 hc
        refine a_bipush (v := (-12)) dX8_as_42 (by decide) ?_
        exact a_iret rfl dX8_as_44 hv
      · replace hv := hv.2 hc
        refine a_iload_n 1 dX8_as_38 rfl rfl ?_
        refine a_goto 44 dX8_as_39 rfl ?_
        exact a_iret rfl dX8_as_44 hv
    · replace hv := hv.2 hc
      refine a_iconst (v := (-1)) dX8_as_20 (by decide) ?_
      exact a_iret rfl dX8_as_21 hv
def VC_X8_sea (g : GT) (d : Nat) (v1 : Int32) (I : IT) (J : JT) (P : Int32 → IT → JT → Prop) : Prop :=
  (SemZ g (d - 1) M_X8_isCell [.ref (ga g 118), .int v1] I J (fun r2 I2 J2 => ((r2 = false → P (-1) I2 J2) ∧ (r2 = true → (vp_in (3 + v1) 952 ∧ P (I2 119 (3 + v1).toNatClampNeg) I2 J2)))))
set_option maxRecDepth 4000 in
theorem w_X8_sea {g : GT} {d : Nat} {v1 : Int32} {I : IT} {J : JT} {P : Int32 → IT → JT → Prop} (hd : 1 ≤ d) (hv : VC_X8_sea g d v1 I J P) : SemI g d M_X8_sea [.ref (ga g 118), .int v1] I J P := by
  unfold VC_X8_sea at hv
  refine sem_intro (by decide +kernel) rfl (Nat.le_of_ble_eq_true rfl) ?_
  show AW _ 0 0 0 [(0, .ref (ga g 118)), (1, .int v1)] [] (cW g I J)
  refine a_aload_n 0 dX8_sea_0 rfl rfl ?_
  refine a_iload_n 1 dX8_sea_1 rfl rfl ?_
  refine c_VZ (As := [.int v1]) (rest := []) hv K_X8_112 sh_118 rfl rfl rfl (Nat.le_of_ble_eq_true rfl) (rok (by omega) (Nat.le_of_ble_eq_true rfl)) ⟨Nat.zero_le _, Nat.zero_le _⟩ dX8_sea_2 (fun r2 I2 J2 hv => ?_)
  refine a_ifz_eq 19 dX8_sea_5 rfl (fun hc => ?_) (fun hc => ?_)
  · replace hv := hv.1 hc
    refine a_iconst (v := (-1)) dX8_sea_19 (by decide) ?_
    exact a_iret rfl dX8_sea_20 hv
  · replace hv := hv.2 hc
    refine a_aload_n 0 dX8_sea_8 rfl rfl ?_
    refine a_getR (r := 119) G_X8_7 sh_118 rfl dX8_sea_9 ?_
    refine a_iconst (v := 3) dX8_sea_12 (by decide) ?_
    refine a_iload_n 1 dX8_sea_13 rfl rfl ?_
    refine a_iadd dX8_sea_14 ?_
    refine a_iald sh_119 hv.1 dX8_sea_15 ?_
    replace hv := hv.2
    refine a_goto 20 dX8_sea_16 rfl ?_
    exact a_iret rfl dX8_sea_20 hv
def VC_X8_credit (g : GT) (d : Nat) (v1 : Int32) (I : IT) (J : JT) (P : Int32 → IT → JT → Prop) : Prop :=
  (SemZ g (d - 1) M_X8_isFleet [.ref (ga g 118)] I J (fun r1 I1 J1 => ((r1 = false → P (-1) I1 J1) ∧ (r1 = true → (SemZ g (d - 1) M_X8_isTeller [.int v1] I1 J1 (fun r8 I8 J8 => ((r8 = false → P (-1) I8 J8) ∧ (r8 = true → (vp_in (76 + v1) 952 ∧ P (I8 119 (76 + v1).toNatClampNeg) I8 J8)))))))))
set_option maxRecDepth 4000 in
theorem w_X8_credit {g : GT} {d : Nat} {v1 : Int32} {I : IT} {J : JT} {P : Int32 → IT → JT → Prop} (hd : 1 ≤ d) (hv : VC_X8_credit g d v1 I J P) : SemI g d M_X8_credit [.ref (ga g 118), .int v1] I J P := by
  unfold VC_X8_credit at hv
  refine sem_intro (by decide +kernel) rfl (Nat.le_of_ble_eq_true rfl) ?_
  show AW _ 0 0 0 [(0, .ref (ga g 118)), (1, .int v1)] [] (cW g I J)
  refine a_aload_n 0 dX8_credit_0 rfl rfl ?_
  refine c_VZ (As := []) (rest := []) hv K_X8_115 sh_118 rfl rfl rfl (Nat.le_of_ble_eq_true rfl) (rok (by omega) (Nat.le_of_ble_eq_true rfl)) ⟨Nat.zero_le _, Nat.zero_le _⟩ dX8_credit_1 (fun r1 I1 J1 hv => ?_)
  refine a_ifz_eq 26 dX8_credit_4 rfl (fun hc => ?_) (fun hc => ?_)
  · replace hv := hv.1 hc
    refine a_iconst (v := (-1)) dX8_credit_26 (by decide) ?_
    exact a_iret rfl dX8_credit_27 hv
  · replace hv := hv.2 hc
    refine a_iload_n 1 dX8_credit_7 rfl rfl ?_
    refine c_SZ (As := [.int v1]) (rest := []) hv K_X8_118 rfl rfl (Nat.le_of_ble_eq_true rfl) (rok (by omega) (Nat.le_of_ble_eq_true rfl)) ⟨Nat.zero_le _, Nat.zero_le _⟩ dX8_credit_8 (fun r8 I8 J8 hv => ?_)
    refine a_ifz_eq 26 dX8_credit_11 rfl (fun hc => ?_) (fun hc => ?_)
    · replace hv := hv.1 hc
      refine a_iconst (v := (-1)) dX8_credit_26 (by decide) ?_
      exact a_iret rfl dX8_credit_27 hv
    · replace hv := hv.2 hc
      refine a_aload_n 0 dX8_credit_14 rfl rfl ?_
      refine a_getR (r := 119) G_X8_7 sh_118 rfl dX8_credit_15 ?_
      refine a_bipush (v := 76) dX8_credit_18 (by decide) ?_
      refine a_iload_n 1 dX8_credit_20 rfl rfl ?_
      refine a_iadd dX8_credit_21 ?_
      refine a_iald sh_119 hv.1 dX8_credit_22 ?_
      replace hv := hv.2
      refine a_goto 27 dX8_credit_23 rfl ?_
      exact a_iret rfl dX8_credit_27 hv
def VC_X8_oak (g : GT) (d : Nat) (v1 : Int32) (v2 : Int32) (I : IT) (J : JT) (P : Int32 → IT → JT → Prop) : Prop :=
  (vp_in ((v1 + 70) + v2) 952 ∧ P (3 + (I 119 ((v1 + 70) + v2).toNatClampNeg)) I J)
set_option maxRecDepth 4000 in
theorem w_X8_oak {g : GT} {d : Nat} {v1 : Int32} {v2 : Int32} {I : IT} {J : JT} {P : Int32 → IT → JT → Prop} (hv : VC_X8_oak g d v1 v2 I J P) : SemI g d M_X8_oak [.ref (ga g 118), .int v1, .int v2] I J P := by
  unfold VC_X8_oak at hv
  refine sem_intro (by decide +kernel) rfl (Nat.le_of_ble_eq_true rfl) ?_
  show AW _ 0 0 0 [(0, .ref (ga g 118)), (1, .int v1), (2, .int v2)] [] (cW g I J)
  refine a_iconst (v := 3) dX8_oak_0 (by decide) ?_
  refine a_aload_n 0 dX8_oak_1 rfl rfl ?_
  refine a_getR (r := 119) G_X8_7 sh_118 rfl dX8_oak_2 ?_
  refine a_iload_n 1 dX8_oak_5 rfl rfl ?_
  refine a_bipush (v := 70) dX8_oak_6 (by decide) ?_
  refine a_iadd dX8_oak_8 ?_
  refine a_iload_n 2 dX8_oak_9 rfl rfl ?_
  refine a_iadd dX8_oak_10 ?_
  refine a_iald sh_119 hv.1 dX8_oak_11 ?_
  replace hv := hv.2
  refine a_iadd dX8_oak_12 ?_
  exact a_iret rfl dX8_oak_13 hv
def VC_X8_doubtIn (g : GT) (d : Nat) (v1 : Int32) (v2 : Int32) (v3 : Int32) (I : IT) (J : JT) (P : Int32 → IT → JT → Prop) : Prop :=
  (vp_in ((v1 + 51) + v2) 952 ∧ (((I 119 ((v1 + 51) + v2).toNatClampNeg) = 2 → (SemI g (d - 1) M_X8_oak [.ref (ga g 118), .int v1, .int v2] I J (fun r43 I43 J43 => P (r43 - 2) I43 J43))) ∧ ((I 119 ((v1 + 51) + v2).toNatClampNeg) = 3 → P 10 I J) ∧ ((I 119 ((v1 + 51) + v2).toNatClampNeg) = 4 → ((¬ v3 = 0 → P 10 I J) ∧ (v3 = 0 → (SemI g (d - 1) M_X8_oak [.ref (ga g 118), .int v1, .int v2] I J (fun r59 I59 J59 => P (r59 - 3) I59 J59))))) ∧ ((I 119 ((v1 + 51) + v2).toNatClampNeg) = 5 → (SemI g (d - 1) M_X8_oak [.ref (ga g 118), .int v1, .int v2] I J (fun r43 I43 J43 => P (r43 - 2) I43 J43))) ∧ (¬ (I 119 ((v1 + 51) + v2).toNatClampNeg) = 2 ∧ ¬ (I 119 ((v1 + 51) + v2).toNatClampNeg) = 3 ∧ ¬ (I 119 ((v1 + 51) + v2).toNatClampNeg) = 4 ∧ ¬ (I 119 ((v1 + 51) + v2).toNatClampNeg) = 5 → (SemI g (d - 1) M_X8_oak [.ref (ga g 118), .int v1, .int v2] I J (fun r73 I73 J73 => P r73 I73 J73)))))
set_option maxRecDepth 4000 in
theorem w_X8_doubtIn {g : GT} {d : Nat} {v1 : Int32} {v2 : Int32} {v3 : Int32} {I : IT} {J : JT} {P : Int32 → IT → JT → Prop} (hd : 1 ≤ d) (hv : VC_X8_doubtIn g d v1 v2 v3 I J P) : SemI g d M_X8_doubtIn [.ref (ga g 118), .int v1, .int v2, .int v3] I J P := by
  unfold VC_X8_doubtIn at hv
  refine sem_intro (by decide +kernel) rfl (Nat.le_of_ble_eq_true rfl) ?_
  show AW _ 0 0 0 [(0, .ref (ga g 118)), (1, .int v1), (2, .int v2), (3, .int v3)] [] (cW g I J)
  refine a_aload_n 0 dX8_doubtIn_0 rfl rfl ?_
  refine a_getR (r := 119) G_X8_7 sh_118 rfl dX8_doubtIn_1 ?_
  refine a_iload_n 1 dX8_doubtIn_4 rfl rfl ?_
  refine a_bipush (v := 51) dX8_doubtIn_5 (by decide) ?_
  refine a_iadd dX8_doubtIn_7 ?_
  refine a_iload_n 2 dX8_doubtIn_8 rfl rfl ?_
  refine a_iadd dX8_doubtIn_9 ?_
  refine a_iald sh_119 hv.1 dX8_doubtIn_10 ?_
  replace hv := hv.2
  by_cases hq2 : (I 119 ((v1 + 51) + v2).toNatClampNeg) = 2
  · replace hv := hv.1 hq2
    refine a_tabIn (off := (29)) 40 dX8_doubtIn_11 (by rw [hq2]; decide) (by rw [hq2]; decide) (by rw [hq2]; decide) rfl ?_
    refine a_aload_n 0 dX8_doubtIn_40 rfl rfl ?_
    refine a_iload_n 1 dX8_doubtIn_41 rfl rfl ?_
    refine a_iload_n 2 dX8_doubtIn_42 rfl rfl ?_
    refine c_VI (As := [.int v1, .int v2]) (rest := []) hv K_X8_121 sh_118 rfl rfl rfl (Nat.le_of_ble_eq_true rfl) (rok (by omega) (Nat.le_of_ble_eq_true rfl)) ⟨Nat.zero_le _, Nat.zero_le _⟩ dX8_doubtIn_43 (fun r43 I43 J43 hv => ?_)
    refine a_iconst (v := 2) dX8_doubtIn_46 (by decide) ?_
    refine a_isub dX8_doubtIn_47 ?_
    exact a_iret rfl dX8_doubtIn_48 hv
  · replace hv := hv.2
    by_cases hq3 : (I 119 ((v1 + 51) + v2).toNatClampNeg) = 3
    · replace hv := hv.1 hq3
      refine a_tabIn (off := (38)) 49 dX8_doubtIn_11 (by rw [hq3]; decide) (by rw [hq3]; decide) (by rw [hq3]; decide) rfl ?_
      refine a_bipush (v := 10) dX8_doubtIn_49 (by decide) ?_
      exact a_iret rfl dX8_doubtIn_51 hv
    · replace hv := hv.2
      by_cases hq4 : (I 119 ((v1 + 51) + v2).toNatClampNeg) = 4
      · replace hv := hv.1 hq4
        refine a_tabIn (off := (41)) 52 dX8_doubtIn_11 (by rw [hq4]; decide) (by rw [hq4]; decide) (by rw [hq4]; decide) rfl ?_
        refine a_iload_n 3 dX8_doubtIn_52 rfl rfl ?_
        refine a_if_ne 67 dX8_doubtIn_53 rfl (fun hc => ?_) (fun hc => ?_)
        · replace hv := hv.1 hc
          refine a_bipush (v := 10) dX8_doubtIn_67 (by decide) ?_
          exact a_iret rfl dX8_doubtIn_69 hv
        · replace hv := hv.2 hc
          refine a_aload_n 0 dX8_doubtIn_56 rfl rfl ?_
          refine a_iload_n 1 dX8_doubtIn_57 rfl rfl ?_
          refine a_iload_n 2 dX8_doubtIn_58 rfl rfl ?_
          refine c_VI (As := [.int v1, .int v2]) (rest := []) hv K_X8_121 sh_118 rfl rfl rfl (Nat.le_of_ble_eq_true rfl) (rok (by omega) (Nat.le_of_ble_eq_true rfl)) ⟨Nat.zero_le _, Nat.zero_le _⟩ dX8_doubtIn_59 (fun r59 I59 J59 hv => ?_)
          refine a_iconst (v := 3) dX8_doubtIn_62 (by decide) ?_
          refine a_isub dX8_doubtIn_63 ?_
          refine a_goto 69 dX8_doubtIn_64 rfl ?_
          exact a_iret rfl dX8_doubtIn_69 hv
      · replace hv := hv.2
        by_cases hq5 : (I 119 ((v1 + 51) + v2).toNatClampNeg) = 5
        · replace hv := hv.1 hq5
          refine a_tabIn (off := (29)) 40 dX8_doubtIn_11 (by rw [hq5]; decide) (by rw [hq5]; decide) (by rw [hq5]; decide) rfl ?_
          refine a_aload_n 0 dX8_doubtIn_40 rfl rfl ?_
          refine a_iload_n 1 dX8_doubtIn_41 rfl rfl ?_
          refine a_iload_n 2 dX8_doubtIn_42 rfl rfl ?_
          refine c_VI (As := [.int v1, .int v2]) (rest := []) hv K_X8_121 sh_118 rfl rfl rfl (Nat.le_of_ble_eq_true rfl) (rok (by omega) (Nat.le_of_ble_eq_true rfl)) ⟨Nat.zero_le _, Nat.zero_le _⟩ dX8_doubtIn_43 (fun r43 I43 J43 hv => ?_)
          refine a_iconst (v := 2) dX8_doubtIn_46 (by decide) ?_
          refine a_isub dX8_doubtIn_47 ?_
          exact a_iret rfl dX8_doubtIn_48 hv
        · replace hv := hv.2
          replace hv := hv ⟨hq2, hq3, hq4, hq5⟩
          refine a_tabOut 70 dX8_doubtIn_11 (by have q2 := tI_ne (c := 2) (n := 2) (by decide) hq2; have q3 := tI_ne (c := 3) (n := 3) (by decide) hq3; have q4 := tI_ne (c := 4) (n := 4) (by decide) hq4; have q5 := tI_ne (c := 5) (n := 5) (by decide) hq5; omega) rfl ?_
          refine a_aload_n 0 dX8_doubtIn_70 rfl rfl ?_
          refine a_iload_n 1 dX8_doubtIn_71 rfl rfl ?_
          refine a_iload_n 2 dX8_doubtIn_72 rfl rfl ?_
          refine c_VI (As := [.int v1, .int v2]) (rest := []) hv K_X8_121 sh_118 rfl rfl rfl (Nat.le_of_ble_eq_true rfl) (rok (by omega) (Nat.le_of_ble_eq_true rfl)) ⟨Nat.zero_le _, Nat.zero_le _⟩ dX8_doubtIn_73 (fun r73 I73 J73 hv => ?_)
          exact a_iret rfl dX8_doubtIn_76 hv
def VC_X8_believesIn (g : GT) (d : Nat) (v1 : Int32) (v2 : Int32) (v3 : Int32) (I : IT) (J : JT) (P : Bool → IT → JT → Prop) : Prop :=
  (vp_in ((v1 + 76) + v3) 952 ∧ (SemI g (d - 1) M_X8_doubtIn [.ref (ga g 118), .int v1, .int v2, .int v3] I J (fun r15 I15 J15 => (((I 119 ((v1 + 76) + v3).toNatClampNeg) < r15 → P false I15 J15) ∧ (¬ (I 119 ((v1 + 76) + v3).toNatClampNeg) < r15 → P true I15 J15)))))
set_option maxRecDepth 4000 in
theorem w_X8_believesIn {g : GT} {d : Nat} {v1 : Int32} {v2 : Int32} {v3 : Int32} {I : IT} {J : JT} {P : Bool → IT → JT → Prop} (hd : 1 ≤ d) (hv : VC_X8_believesIn g d v1 v2 v3 I J P) : SemZ g d M_X8_believesIn [.ref (ga g 118), .int v1, .int v2, .int v3] I J P := by
  unfold VC_X8_believesIn at hv
  refine sem_intro (by decide +kernel) rfl (Nat.le_of_ble_eq_true rfl) ?_
  show AW _ 0 0 0 [(0, .ref (ga g 118)), (1, .int v1), (2, .int v2), (3, .int v3)] [] (cW g I J)
  refine a_aload_n 0 dX8_believesIn_0 rfl rfl ?_
  refine a_getR (r := 119) G_X8_7 sh_118 rfl dX8_believesIn_1 ?_
  refine a_iload_n 1 dX8_believesIn_4 rfl rfl ?_
  refine a_bipush (v := 76) dX8_believesIn_5 (by decide) ?_
  refine a_iadd dX8_believesIn_7 ?_
  refine a_iload_n 3 dX8_believesIn_8 rfl rfl ?_
  refine a_iadd dX8_believesIn_9 ?_
  refine a_iald sh_119 hv.1 dX8_believesIn_10 ?_
  replace hv := hv.2
  refine a_aload_n 0 dX8_believesIn_11 rfl rfl ?_
  refine a_iload_n 1 dX8_believesIn_12 rfl rfl ?_
  refine a_iload_n 2 dX8_believesIn_13 rfl rfl ?_
  refine a_iload_n 3 dX8_believesIn_14 rfl rfl ?_
  refine c_VI (As := [.int v1, .int v2, .int v3]) (rest := [.int (I 119 ((v1 + 76) + v3).toNatClampNeg)]) hv K_X8_125 sh_118 rfl rfl rfl (Nat.le_of_ble_eq_true rfl) (rok (by omega) (Nat.le_of_ble_eq_true rfl)) ⟨Nat.zero_le _, Nat.zero_le _⟩ dX8_believesIn_15 (fun r15 I15 J15 hv => ?_)
  refine a_icmp_lt 25 dX8_believesIn_18 rfl (fun hc => ?_) (fun hc => ?_)
  · replace hv := hv.1 hc
    refine a_iconst (v := 0) dX8_believesIn_25 (by decide) ?_
    exact a_zret _ false (by decide) rfl dX8_believesIn_26 hv
  · replace hv := hv.2 hc
    refine a_iconst (v := 1) dX8_believesIn_21 (by decide) ?_
    refine a_goto 26 dX8_believesIn_22 rfl ?_
    exact a_zret _ true (by decide) rfl dX8_believesIn_26 hv
def VC_X8_doubt (g : GT) (d : Nat) (v1 : Int32) (v2 : Int32) (I : IT) (J : JT) (P : Int32 → IT → JT → Prop) : Prop :=
  (SemZ g (d - 1) M_X8_isShip [.ref (ga g 118), .int v1] I J (fun r2 I2 J2 => ((r2 = false → P (-1) I2 J2) ∧ (r2 = true → (SemZ g (d - 1) M_X8_isTeller [.int v2] I2 J2 (fun r9 I9 J9 => ((r9 = false → P (-1) I9 J9) ∧ (r9 = true → (SemI g (d - 1) M_X8_doubtIn [.ref (ga g 118), .int 0, .int v1, .int v2] I9 J9 (fun r19 I19 J19 => P r19 I19 J19))))))))))
set_option maxRecDepth 4000 in
theorem w_X8_doubt {g : GT} {d : Nat} {v1 : Int32} {v2 : Int32} {I : IT} {J : JT} {P : Int32 → IT → JT → Prop} (hd : 1 ≤ d) (hv : VC_X8_doubt g d v1 v2 I J P) : SemI g d M_X8_doubt [.ref (ga g 118), .int v1, .int v2] I J P := by
  unfold VC_X8_doubt at hv
  refine sem_intro (by decide +kernel) rfl (Nat.le_of_ble_eq_true rfl) ?_
  show AW _ 0 0 0 [(0, .ref (ga g 118)), (1, .int v1), (2, .int v2)] [] (cW g I J)
  refine a_aload_n 0 dX8_doubt_0 rfl rfl ?_
  refine a_iload_n 1 dX8_doubt_1 rfl rfl ?_
  refine c_VZ (As := [.int v1]) (rest := []) hv K_X8_103 sh_118 rfl rfl rfl (Nat.le_of_ble_eq_true rfl) (rok (by omega) (Nat.le_of_ble_eq_true rfl)) ⟨Nat.zero_le _, Nat.zero_le _⟩ dX8_doubt_2 (fun r2 I2 J2 hv => ?_)
  refine a_ifz_eq 25 dX8_doubt_5 rfl (fun hc => ?_) (fun hc => ?_)
  · replace hv := hv.1 hc
    refine a_iconst (v := (-1)) dX8_doubt_25 (by decide) ?_
    exact a_iret rfl dX8_doubt_26 hv
  · replace hv := hv.2 hc
    refine a_iload_n 2 dX8_doubt_8 rfl rfl ?_
    refine c_SZ (As := [.int v2]) (rest := []) hv K_X8_118 rfl rfl (Nat.le_of_ble_eq_true rfl) (rok (by omega) (Nat.le_of_ble_eq_true rfl)) ⟨Nat.zero_le _, Nat.zero_le _⟩ dX8_doubt_9 (fun r9 I9 J9 hv => ?_)
    refine a_ifz_eq 25 dX8_doubt_12 rfl (fun hc => ?_) (fun hc => ?_)
    · replace hv := hv.1 hc
      refine a_iconst (v := (-1)) dX8_doubt_25 (by decide) ?_
      exact a_iret rfl dX8_doubt_26 hv
    · replace hv := hv.2 hc
      refine a_aload_n 0 dX8_doubt_15 rfl rfl ?_
      refine a_iconst (v := 0) dX8_doubt_16 (by decide) ?_
      refine a_iload_n 1 dX8_doubt_17 rfl rfl ?_
      refine a_iload_n 2 dX8_doubt_18 rfl rfl ?_
      refine c_VI (As := [.int 0, .int v1, .int v2]) (rest := []) hv K_X8_125 sh_118 rfl rfl rfl (Nat.le_of_ble_eq_true rfl) (rok (by omega) (Nat.le_of_ble_eq_true rfl)) ⟨Nat.zero_le _, Nat.zero_le _⟩ dX8_doubt_19 (fun r19 I19 J19 hv => ?_)
      refine a_goto 26 dX8_doubt_22 rfl ?_
      exact a_iret rfl dX8_doubt_26 hv
def VC_X8_turned (g : GT) (d : Nat) (v1 : Int32) (v2 : Int32) (v3 : Int32) (I : IT) (J : JT) (P : Int32 → IT → JT → Prop) : Prop :=
  (vp_in ((v1 + 51) + v2) 952 ∧ ((¬ (I 119 ((v1 + 51) + v2).toNatClampNeg) = 5 → (vp_in ((v1 + 64) + v2) 952 ∧ ((¬ v3 = 1 → ((¬ v3 = 2 → P (((I 119 ((v1 + 64) + v2).toNatClampNeg) + 0) - ((I 119 ((v1 + 64) + v2).toNatClampNeg) + 0) / 4 * 4) I J) ∧ (v3 = 2 → P (((I 119 ((v1 + 64) + v2).toNatClampNeg) + 1) - ((I 119 ((v1 + 64) + v2).toNatClampNeg) + 1) / 4 * 4) I J))) ∧ (v3 = 1 → P (((I 119 ((v1 + 64) + v2).toNatClampNeg) + 3) - ((I 119 ((v1 + 64) + v2).toNatClampNeg) + 3) / 4 * 4) I J)))) ∧ ((I 119 ((v1 + 51) + v2).toNatClampNeg) = 5 → ((v3 ≤ 0 → (vp_in ((v1 + 64) + v2) 952 ∧ ((¬ v3 = 1 → ((¬ v3 = 2 → P (((I 119 ((v1 + 64) + v2).toNatClampNeg) + 0) - ((I 119 ((v1 + 64) + v2).toNatClampNeg) + 0) / 4 * 4) I J) ∧ (v3 = 2 → P (((I 119 ((v1 + 64) + v2).toNatClampNeg) + 1) - ((I 119 ((v1 + 64) + v2).toNatClampNeg) + 1) / 4 * 4) I J))) ∧ (v3 = 1 → P (((I 119 ((v1 + 64) + v2).toNatClampNeg) + 3) - ((I 119 ((v1 + 64) + v2).toNatClampNeg) + 3) / 4 * 4) I J)))) ∧ (¬ v3 ≤ 0 → (vp_in ((v1 + 64) + v2) 952 ∧ ((¬ (3 - v3) = 1 → ((¬ (3 - v3) = 2 → P (((I 119 ((v1 + 64) + v2).toNatClampNeg) + 0) - ((I 119 ((v1 + 64) + v2).toNatClampNeg) + 0) / 4 * 4) I J) ∧ ((3 - v3) = 2 → P (((I 119 ((v1 + 64) + v2).toNatClampNeg) + 1) - ((I 119 ((v1 + 64) + v2).toNatClampNeg) + 1) / 4 * 4) I J))) ∧ ((3 - v3) = 1 → P (((I 119 ((v1 + 64) + v2).toNatClampNeg) + 3) - ((I 119 ((v1 + 64) + v2).toNatClampNeg) + 3) / 4 * 4) I J))))))))
set_option maxRecDepth 4000 in
theorem w_X8_turned {g : GT} {d : Nat} {v1 : Int32} {v2 : Int32} {v3 : Int32} {I : IT} {J : JT} {P : Int32 → IT → JT → Prop} (hv : VC_X8_turned g d v1 v2 v3 I J P) : SemI g d M_X8_turned [.ref (ga g 118), .int v1, .int v2, .int v3] I J P := by
  unfold VC_X8_turned at hv
  refine sem_intro (by decide +kernel) rfl (Nat.le_of_ble_eq_true rfl) ?_
  show AW _ 0 0 0 [(0, .ref (ga g 118)), (1, .int v1), (2, .int v2), (3, .int v3)] [] (cW g I J)
  refine a_aload_n 0 dX8_turned_0 rfl rfl ?_
  refine a_getR (r := 119) G_X8_7 sh_118 rfl dX8_turned_1 ?_
  refine a_iload_n 1 dX8_turned_4 rfl rfl ?_
  refine a_bipush (v := 51) dX8_turned_5 (by decide) ?_
  refine a_iadd dX8_turned_7 ?_
  refine a_iload_n 2 dX8_turned_8 rfl rfl ?_
  refine a_iadd dX8_turned_9 ?_
  refine a_iald sh_119 hv.1 dX8_turned_10 ?_
  replace hv := hv.2
  refine a_iconst (v := 5) dX8_turned_11 (by decide) ?_
  refine a_icmp_ne 25 dX8_turned_12 rfl (fun hc => ?_) (fun hc => ?_)
  · replace hv := hv.1 hc
    refine a_iload_n 3 dX8_turned_25 rfl rfl ?_
    refine a_istore [(4, .int v3), (0, .ref (ga g 118)), (1, .int v1), (2, .int v2), (3, .int v3)] dX8_turned_26 (Nat.le_of_ble_eq_true rfl) rfl ?_
    refine a_aload_n 1 dX8_turned_28 rfl rfl ?_
    refine a_getR (r := 119) G_X8_7 sh_118 rfl dX8_turned_29 ?_
    refine a_iload_n 2 dX8_turned_32 rfl rfl ?_
    refine a_bipush (v := 64) dX8_turned_33 (by decide) ?_
    refine a_iadd dX8_turned_35 ?_
    refine a_iload_n 3 dX8_turned_36 rfl rfl ?_
    refine a_iadd dX8_turned_37 ?_
    refine a_iald sh_119 hv.1 dX8_turned_38 ?_
    replace hv := hv.2
    refine a_iload 0 dX8_turned_39 rfl ?_
    refine a_iconst (v := 1) dX8_turned_41 (by decide) ?_
    refine a_icmp_ne 49 dX8_turned_42 rfl (fun hc => ?_) (fun hc => ?_)
    · replace hv := hv.1 hc
      refine a_iload 0 dX8_turned_49 rfl ?_
      refine a_iconst (v := 2) dX8_turned_51 (by decide) ?_
      refine a_icmp_ne 59 dX8_turned_52 rfl (fun hc => ?_) (fun hc => ?_)
      · replace hv := hv.1 hc
        refine a_iconst (v := 0) dX8_turned_59 (by decide) ?_
        refine a_iadd dX8_turned_60 ?_
        refine a_iconst (v := 4) dX8_turned_61 (by decide) ?_
        refine a_irem dX8_turned_62 (by decide) ?_
        exact a_iret rfl dX8_turned_63 hv
      · replace hv := hv.2 hc
        refine a_iconst (v := 1) dX8_turned_55 (by decide) ?_
        refine a_goto 60 dX8_turned_56 rfl ?_
        refine a_iadd dX8_turned_60 ?_
        refine a_iconst (v := 4) dX8_turned_61 (by decide) ?_
        refine a_irem dX8_turned_62 (by decide) ?_
        exact a_iret rfl dX8_turned_63 hv
    · replace hv := hv.2 hc
      refine a_iconst (v := 3) dX8_turned_45 (by decide) ?_
      refine a_goto 60 dX8_turned_46 rfl ?_
      refine a_iadd dX8_turned_60 ?_
      refine a_iconst (v := 4) dX8_turned_61 (by decide) ?_
      refine a_irem dX8_turned_62 (by decide) ?_
      exact a_iret rfl dX8_turned_63 hv
  · replace hv := hv.2 hc
    refine a_iload_n 3 dX8_turned_15 rfl rfl ?_
    refine a_if_le 25 dX8_turned_16 rfl (fun hc => ?_) (fun hc => ?_)
    · replace hv := hv.1 hc
      refine a_iload_n 3 dX8_turned_25 rfl rfl ?_
      refine a_istore [(4, .int v3), (0, .ref (ga g 118)), (1, .int v1), (2, .int v2), (3, .int v3)] dX8_turned_26 (Nat.le_of_ble_eq_true rfl) rfl ?_
      refine a_aload_n 1 dX8_turned_28 rfl rfl ?_
      refine a_getR (r := 119) G_X8_7 sh_118 rfl dX8_turned_29 ?_
      refine a_iload_n 2 dX8_turned_32 rfl rfl ?_
      refine a_bipush (v := 64) dX8_turned_33 (by decide) ?_
      refine a_iadd dX8_turned_35 ?_
      refine a_iload_n 3 dX8_turned_36 rfl rfl ?_
      refine a_iadd dX8_turned_37 ?_
      refine a_iald sh_119 hv.1 dX8_turned_38 ?_
      replace hv := hv.2
      refine a_iload 0 dX8_turned_39 rfl ?_
      refine a_iconst (v := 1) dX8_turned_41 (by decide) ?_
      refine a_icmp_ne 49 dX8_turned_42 rfl (fun hc => ?_) (fun hc => ?_)
      · replace hv := hv.1 hc
        refine a_iload 0 dX8_turned_49 rfl ?_
        refine a_iconst (v := 2) dX8_turned_51 (by decide) ?_
        refine a_icmp_ne 59 dX8_turned_52 rfl (fun hc => ?_) (fun hc => ?_)
        · replace hv := hv.1 hc
          refine a_iconst (v := 0) dX8_turned_59 (by decide) ?_
          refine a_iadd dX8_turned_60 ?_
          refine a_iconst (v := 4) dX8_turned_61 (by decide) ?_
          refine a_irem dX8_turned_62 (by decide) ?_
          exact a_iret rfl dX8_turned_63 hv
        · replace hv := hv.2 hc
          refine a_iconst (v := 1) dX8_turned_55 (by decide) ?_
          refine a_goto 60 dX8_turned_56 rfl ?_
          refine a_iadd dX8_turned_60 ?_
          refine a_iconst (v := 4) dX8_turned_61 (by decide) ?_
          refine a_irem dX8_turned_62 (by decide) ?_
          exact a_iret rfl dX8_turned_63 hv
      · replace hv := hv.2 hc
        refine a_iconst (v := 3) dX8_turned_45 (by decide) ?_
        refine a_goto 60 dX8_turned_46 rfl ?_
        refine a_iadd dX8_turned_60 ?_
        refine a_iconst (v := 4) dX8_turned_61 (by decide) ?_
        refine a_irem dX8_turned_62 (by decide) ?_
        exact a_iret rfl dX8_turned_63 hv
    · replace hv := hv.2 hc
      refine a_iconst (v := 3) dX8_turned_19 (by decide) ?_
      refine a_iload_n 3 dX8_turned_20 rfl rfl ?_
      refine a_isub dX8_turned_21 ?_
      refine a_goto 26 dX8_turned_22 rfl ?_
      refine a_istore [(4, .int (3 - v3)), (0, .ref (ga g 118)), (1, .int v1), (2, .int v2), (3, .int v3)] dX8_turned_26 (Nat.le_of_ble_eq_true rfl) rfl ?_
      refine a_aload_n 1 dX8_turned_28 rfl rfl ?_
      refine a_getR (r := 119) G_X8_7 sh_118 rfl dX8_turned_29 ?_
      refine a_iload_n 2 dX8_turned_32 rfl rfl ?_
      refine a_bipush (v := 64) dX8_turned_33 (by decide) ?_
      refine a_iadd dX8_turned_35 ?_
      refine a_iload_n 3 dX8_turned_36 rfl rfl ?_
      refine a_iadd dX8_turned_37 ?_
      refine a_iald sh_119 hv.1 dX8_turned_38 ?_
      replace hv := hv.2
      refine a_iload 0 dX8_turned_39 rfl ?_
      refine a_iconst (v := 1) dX8_turned_41 (by decide) ?_
      refine a_icmp_ne 49 dX8_turned_42 rfl (fun hc => ?_) (fun hc => ?_)
      · replace hv := hv.1 hc
        refine a_iload 0 dX8_turned_49 rfl ?_
        refine a_iconst (v := 2) dX8_turned_51 (by decide) ?_
        refine a_icmp_ne 59 dX8_turned_52 rfl (fun hc => ?_) (fun hc => ?_)
        · replace hv := hv.1 hc
          refine a_iconst (v := 0) dX8_turned_59 (by decide) ?_
          refine a_iadd dX8_turned_60 ?_
          refine a_iconst (v := 4) dX8_turned_61 (by decide) ?_
          refine a_irem dX8_turned_62 (by decide) ?_
          exact a_iret rfl dX8_turned_63 hv
        · replace hv := hv.2 hc
          refine a_iconst (v := 1) dX8_turned_55 (by decide) ?_
          refine a_goto 60 dX8_turned_56 rfl ?_
          refine a_iadd dX8_turned_60 ?_
          refine a_iconst (v := 4) dX8_turned_61 (by decide) ?_
          refine a_irem dX8_turned_62 (by decide) ?_
          exact a_iret rfl dX8_turned_63 hv
      · replace hv := hv.2 hc
        refine a_iconst (v := 3) dX8_turned_45 (by decide) ?_
        refine a_goto 60 dX8_turned_46 rfl ?_
        refine a_iadd dX8_turned_60 ?_
        refine a_iconst (v := 4) dX8_turned_61 (by decide) ?_
        refine a_irem dX8_turned_62 (by decide) ?_
        exact a_iret rfl dX8_turned_63 hv
def Lp_X8_nextOf_22 (g : GT) (d : Nat) (v1 : Int32) (v2 : Int32) (v3 : Int32) (s0 : Int32) (s1 : Int32) (I : IT) (J : JT) (P : Int32 → IT → JT → Prop) : Prop := AW (kM g d M_X8_nextOf 0 0 (qI g P)) 0 0 22 [(0, .ref (ga g 118)), (1, .int v1), (2, .int v2), (3, .int v3)] [.int s0, .int s1] (cW g I J)
def VC_X8_nextOf_22 (g : GT) (d : Nat) (v1 : Int32) (v2 : Int32) (v3 : Int32) (s0 : Int32) (s1 : Int32) (I : IT) (J : JT) (P : Int32 → IT → JT → Prop) : Prop :=
  ((¬ v3 = 1 → ((¬ v3 = 3 → (SemZ g (d - 1) M_X8_isCellIn [.ref (ga g 118), .int v1, .int (s1 + s0), .int ((v2 - v2 / 8 * 8) + 0)] I J (fun r57 I57 J57 => ((r57 = false → P (-1) I57 J57) ∧ (r57 = true → (vp_in (((v1 + 3) + (8 * (s1 + s0))) + ((v2 - v2 / 8 * 8) + 0)) 952 ∧ (((I57 119 (((v1 + 3) + (8 * (s1 + s0))) + ((v2 - v2 / 8 * 8) + 0)).toNatClampNeg) = 1 → P (-1) I57 J57) ∧ (¬ (I57 119 (((v1 + 3) + (8 * (s1 + s0))) + ((v2 - v2 / 8 * 8) + 0)).toNatClampNeg) = 1 → P ((8 * (s1 + s0)) + ((v2 - v2 / 8 * 8) + 0)) I57 J57)))))))) ∧ (v3 = 3 → (SemZ g (d - 1) M_X8_isCellIn [.ref (ga g 118), .int v1, .int (s1 + s0), .int ((v2 - v2 / 8 * 8) + (-1))] I J (fun r57 I57 J57 => ((r57 = false → P (-1) I57 J57) ∧ (r57 = true → (vp_in (((v1 + 3) + (8 * (s1 + s0))) + ((v2 - v2 / 8 * 8) + (-1))) 952 ∧ (((I57 119 (((v1 + 3) + (8 * (s1 + s0))) + ((v2 - v2 / 8 * 8) + (-1))).toNatClampNeg) = 1 → P (-1) I57 J57) ∧ (¬ (I57 119 (((v1 + 3) + (8 * (s1 + s0))) + ((v2 - v2 / 8 * 8) + (-1))).toNatClampNeg) = 1 → P ((8 * (s1 + s0)) + ((v2 - v2 / 8 * 8) + (-1))) I57 J57)))))))))) ∧ (v3 = 1 → (SemZ g (d - 1) M_X8_isCellIn [.ref (ga g 118), .int v1, .int (s1 + s0), .int ((v2 - v2 / 8 * 8) + 1)] I J (fun r57 I57 J57 => ((r57 = false → P (-1) I57 J57) ∧ (r57 = true → (vp_in (((v1 + 3) + (8 * (s1 + s0))) + ((v2 - v2 / 8 * 8) + 1)) 952 ∧ (((I57 119 (((v1 + 3) + (8 * (s1 + s0))) + ((v2 - v2 / 8 * 8) + 1)).toNatClampNeg) = 1 → P (-1) I57 J57) ∧ (¬ (I57 119 (((v1 + 3) + (8 * (s1 + s0))) + ((v2 - v2 / 8 * 8) + 1)).toNatClampNeg) = 1 → P ((8 * (s1 + s0)) + ((v2 - v2 / 8 * 8) + 1)) I57 J57)))))))))
set_option maxRecDepth 4000 in
theorem w_X8_nextOf_22 {g : GT} {d : Nat} {v1 : Int32} {v2 : Int32} {v3 : Int32} {s0 : Int32} {s1 : Int32} {I : IT} {J : JT} {P : Int32 → IT → JT → Prop} (hd : 1 ≤ d) (hv : VC_X8_nextOf_22 g d v1 v2 v3 s0 s1 I J P) : Lp_X8_nextOf_22 g d v1 v2 v3 s0 s1 I J P := by
  unfold VC_X8_nextOf_22 at hv
  unfold Lp_X8_nextOf_22
  refine a_iadd dX8_nextOf_22 ?_
  refine a_istore [(4, .int (s1 + s0)), (0, .ref (ga g 118)), (1, .int v1), (2, .int v2), (3, .int v3)] dX8_nextOf_23 (Nat.le_of_ble_eq_true rfl) rfl ?_
  refine a_iload_n 3 dX8_nextOf_25 rfl rfl ?_
  refine a_bipush (v := 8) dX8_nextOf_26 (by decide) ?_
  refine a_irem dX8_nextOf_28 (by decide) ?_
  refine a_iload_n 4 dX8_nextOf_29 rfl rfl ?_
  refine a_iconst (v := 1) dX8_nextOf_30 (by decide) ?_
  refine a_icmp_ne 38 dX8_nextOf_31 rfl (fun hc => ?_) (fun hc => ?_)
  · replace hv := hv.1 hc
    refine a_iload_n 4 dX8_nextOf_38 rfl rfl ?_
    refine a_iconst (v := 3) dX8_nextOf_39 (by decide) ?_
    refine a_icmp_ne 47 dX8_nextOf_40 rfl (fun hc => ?_) (fun hc => ?_)
    · replace hv := hv.1 hc
      refine a_iconst (v := 0) dX8_nextOf_47 (by decide) ?_
      refine a_iadd dX8_nextOf_48 ?_
      refine a_istore [(5, .int ((v2 - v2 / 8 * 8) + 0)), (4, .int (s1 + s0)), (0, .ref (ga g 118)), (1, .int v1), (2, .int v2), (3, .int v3)] dX8_nextOf_49 (Nat.le_of_ble_eq_true rfl) rfl ?_
      refine a_aload_n 2 dX8_nextOf_51 rfl rfl ?_
      refine a_iload_n 3 dX8_nextOf_52 rfl rfl ?_
      refine a_iload 1 dX8_nextOf_53 rfl ?_
      refine a_iload 0 dX8_nextOf_55 rfl ?_
      refine c_VZ (As := [.int v1, .int (s1 + s0), .int ((v2 - v2 / 8 * 8) + 0)]) (rest := []) hv K_X8_50 sh_118 rfl rfl rfl (Nat.le_of_ble_eq_true rfl) (rok (by omega) (Nat.le_of_ble_eq_true rfl)) ⟨Nat.zero_le _, Nat.zero_le _⟩ dX8_nextOf_57 (fun r57 I57 J57 hv => ?_)
      refine a_ifz_eq 95 dX8_nextOf_60 rfl (fun hc => ?_) (fun hc => ?_)
      · replace hv := hv.1 hc
        refine a_iconst (v := (-1)) dX8_nextOf_95 (by decide) ?_
        exact a_iret rfl dX8_nextOf_96 hv
      · replace hv := hv.2 hc
        refine a_aload_n 2 dX8_nextOf_63 rfl rfl ?_
        refine a_getR (r := 119) G_X8_7 sh_118 rfl dX8_nextOf_64 ?_
        refine a_iload_n 3 dX8_nextOf_67 rfl rfl ?_
        refine a_iconst (v := 3) dX8_nextOf_68 (by decide) ?_
        refine a_iadd dX8_nextOf_69 ?_
        refine a_bipush (v := 8) dX8_nextOf_70 (by decide) ?_
        refine a_iload 1 dX8_nextOf_72 rfl ?_
        refine a_imul dX8_nextOf_74 ?_
        refine a_iadd dX8_nextOf_75 ?_
        refine a_iload 0 dX8_nextOf_76 rfl ?_
        refine a_iadd dX8_nextOf_78 ?_
        refine a_iald sh_119 hv.1 dX8_nextOf_79 ?_
        replace hv := hv.2
        refine a_iconst (v := 1) dX8_nextOf_80 (by decide) ?_
        refine a_icmp_eq 95 dX8_nextOf_81 rfl (fun hc => ?_) (fun hc => ?_)
        · replace hv := hv.1 hc
          refine a_iconst (v := (-1)) dX8_nextOf_95 (by decide) ?_
          exact a_iret rfl dX8_nextOf_96 hv
        · replace hv := hv.2 hc
          refine a_bipush (v := 8) dX8_nextOf_84 (by decide) ?_
          refine a_iload 1 dX8_nextOf_86 rfl ?_
          refine a_imul dX8_nextOf_88 ?_
          refine a_iload 0 dX8_nextOf_89 rfl ?_
          refine a_iadd dX8_nextOf_91 ?_
          refine a_goto 96 dX8_nextOf_92 rfl ?_
          exact a_iret rfl dX8_nextOf_96 hv
    · replace hv := hv.2 hc
      refine a_iconst (v := (-1)) dX8_nextOf_43 (by decide) ?_
      refine a_goto 48 dX8_nextOf_44 rfl ?_
      refine a_iadd dX8_nextOf_48 ?_
      refine a_istore [(5, .int ((v2 - v2 / 8 * 8) + (-1))), (4, .int (s1 + s0)), (0, .ref (ga g 118)), (1, .int v1), (2, .int v2), (3, .int v3)] dX8_nextOf_49 (Nat.le_of_ble_eq_true rfl) rfl ?_
      refine a_aload_n 2 dX8_nextOf_51 rfl rfl ?_
      refine a_iload_n 3 dX8_nextOf_52 rfl rfl ?_
      refine a_iload 1 dX8_nextOf_53 rfl ?_
      refine a_iload 0 dX8_nextOf_55 rfl ?_
      refine c_VZ (As := [.int v1, .int (s1 + s0), .int ((v2 - v2 / 8 * 8) + (-1))]) (rest := []) hv K_X8_50 sh_118 rfl rfl rfl (Nat.le_of_ble_eq_true rfl) (rok (by omega) (Nat.le_of_ble_eq_true rfl)) ⟨Nat.zero_le _, Nat.zero_le _⟩ dX8_nextOf_57 (fun r57 I57 J57 hv => ?_)
      refine a_ifz_eq 95 dX8_nextOf_60 rfl (fun hc => ?_) (fun hc => ?_)
      · replace hv := hv.1 hc
        refine a_iconst (v := (-1)) dX8_nextOf_95 (by decide) ?_
        exact a_iret rfl dX8_nextOf_96 hv
      · replace hv := hv.2 hc
        refine a_aload_n 2 dX8_nextOf_63 rfl rfl ?_
        refine a_getR (r := 119) G_X8_7 sh_118 rfl dX8_nextOf_64 ?_
        refine a_iload_n 3 dX8_nextOf_67 rfl rfl ?_
        refine a_iconst (v := 3) dX8_nextOf_68 (by decide) ?_
        refine a_iadd dX8_nextOf_69 ?_
        refine a_bipush (v := 8) dX8_nextOf_70 (by decide) ?_
        refine a_iload 1 dX8_nextOf_72 rfl ?_
        refine a_imul dX8_nextOf_74 ?_
        refine a_iadd dX8_nextOf_75 ?_
        refine a_iload 0 dX8_nextOf_76 rfl ?_
        refine a_iadd dX8_nextOf_78 ?_
        refine a_iald sh_119 hv.1 dX8_nextOf_79 ?_
        replace hv := hv.2
        refine a_iconst (v := 1) dX8_nextOf_80 (by decide) ?_
        refine a_icmp_eq 95 dX8_nextOf_81 rfl (fun hc => ?_) (fun hc => ?_)
        · replace hv := hv.1 hc
          refine a_iconst (v := (-1)) dX8_nextOf_95 (by decide) ?_
          exact a_iret rfl dX8_nextOf_96 hv
        · replace hv := hv.2 hc
          refine a_bipush (v := 8) dX8_nextOf_84 (by decide) ?_
          refine a_iload 1 dX8_nextOf_86 rfl ?_
          refine a_imul dX8_nextOf_88 ?_
          refine a_iload 0 dX8_nextOf_89 rfl ?_
          refine a_iadd dX8_nextOf_91 ?_
          refine a_goto 96 dX8_nextOf_92 rfl ?_
          exact a_iret rfl dX8_nextOf_96 hv
  · replace hv := hv.2 hc
    refine a_iconst (v := 1) dX8_nextOf_34 (by decide) ?_
    refine a_goto 48 dX8_nextOf_35 rfl ?_
    refine a_iadd dX8_nextOf_48 ?_
    refine a_istore [(5, .int ((v2 - v2 / 8 * 8) + 1)), (4, .int (s1 + s0)), (0, .ref (ga g 118)), (1, .int v1), (2, .int v2), (3, .int v3)] dX8_nextOf_49 (Nat.le_of_ble_eq_true rfl) rfl ?_
    refine a_aload_n 2 dX8_nextOf_51 rfl rfl ?_
    refine a_iload_n 3 dX8_nextOf_52 rfl rfl ?_
    refine a_iload 1 dX8_nextOf_53 rfl ?_
    refine a_iload 0 dX8_nextOf_55 rfl ?_
    refine c_VZ (As := [.int v1, .int (s1 + s0), .int ((v2 - v2 / 8 * 8) + 1)]) (rest := []) hv K_X8_50 sh_118 rfl rfl rfl (Nat.le_of_ble_eq_true rfl) (rok (by omega) (Nat.le_of_ble_eq_true rfl)) ⟨Nat.zero_le _, Nat.zero_le _⟩ dX8_nextOf_57 (fun r57 I57 J57 hv => ?_)
    refine a_ifz_eq 95 dX8_nextOf_60 rfl (fun hc => ?_) (fun hc => ?_)
    · replace hv := hv.1 hc
      refine a_iconst (v := (-1)) dX8_nextOf_95 (by decide) ?_
      exact a_iret rfl dX8_nextOf_96 hv
    · replace hv := hv.2 hc
      refine a_aload_n 2 dX8_nextOf_63 rfl rfl ?_
      refine a_getR (r := 119) G_X8_7 sh_118 rfl dX8_nextOf_64 ?_
      refine a_iload_n 3 dX8_nextOf_67 rfl rfl ?_
      refine a_iconst (v := 3) dX8_nextOf_68 (by decide) ?_
      refine a_iadd dX8_nextOf_69 ?_
      refine a_bipush (v := 8) dX8_nextOf_70 (by decide) ?_
      refine a_iload 1 dX8_nextOf_72 rfl ?_
      refine a_imul dX8_nextOf_74 ?_
      refine a_iadd dX8_nextOf_75 ?_
      refine a_iload 0 dX8_nextOf_76 rfl ?_
      refine a_iadd dX8_nextOf_78 ?_
      refine a_iald sh_119 hv.1 dX8_nextOf_79 ?_
      replace hv := hv.2
      refine a_iconst (v := 1) dX8_nextOf_80 (by decide) ?_
      refine a_icmp_eq 95 dX8_nextOf_81 rfl (fun hc => ?_) (fun hc => ?_)
      · replace hv := hv.1 hc
        refine a_iconst (v := (-1)) dX8_nextOf_95 (by decide) ?_
        exact a_iret rfl dX8_nextOf_96 hv
      · replace hv := hv.2 hc
        refine a_bipush (v := 8) dX8_nextOf_84 (by decide) ?_
        refine a_iload 1 dX8_nextOf_86 rfl ?_
        refine a_imul dX8_nextOf_88 ?_
        refine a_iload 0 dX8_nextOf_89 rfl ?_
        refine a_iadd dX8_nextOf_91 ?_
        refine a_goto 96 dX8_nextOf_92 rfl ?_
        exact a_iret rfl dX8_nextOf_96 hv
def VC_X8_nextOf (g : GT) (d : Nat) (v1 : Int32) (v2 : Int32) (v3 : Int32) (I : IT) (J : JT) (P : Int32 → IT → JT → Prop) : Prop :=
  ((¬ v3 = 0 → ((¬ v3 = 2 → (Lp_X8_nextOf_22 g d v1 v2 v3 0 (v2 / 8) I J P)) ∧ (v3 = 2 → (Lp_X8_nextOf_22 g d v1 v2 v3 1 (v2 / 8) I J P)))) ∧ (v3 = 0 → (Lp_X8_nextOf_22 g d v1 v2 v3 (-1) (v2 / 8) I J P)))
set_option maxRecDepth 4000 in
theorem w_X8_nextOf {g : GT} {d : Nat} {v1 : Int32} {v2 : Int32} {v3 : Int32} {I : IT} {J : JT} {P : Int32 → IT → JT → Prop} (hv : VC_X8_nextOf g d v1 v2 v3 I J P) : SemI g d M_X8_nextOf [.ref (ga g 118), .int v1, .int v2, .int v3] I J P := by
  unfold VC_X8_nextOf at hv
  refine sem_intro (by decide +kernel) rfl (Nat.le_of_ble_eq_true rfl) ?_
  show AW _ 0 0 0 [(0, .ref (ga g 118)), (1, .int v1), (2, .int v2), (3, .int v3)] [] (cW g I J)
  refine a_iload_n 2 dX8_nextOf_0 rfl rfl ?_
  refine a_bipush (v := 8) dX8_nextOf_1 (by decide) ?_
  refine a_idiv dX8_nextOf_3 (by decide) ?_
  refine a_iload_n 3 dX8_nextOf_4 rfl rfl ?_
  refine a_if_ne 12 dX8_nextOf_5 rfl (fun hc => ?_) (fun hc => ?_)
  · replace hv := hv.1 hc
    refine a_iload_n 3 dX8_nextOf_12 rfl rfl ?_
    refine a_iconst (v := 2) dX8_nextOf_13 (by decide) ?_
    refine a_icmp_ne 21 dX8_nextOf_14 rfl (fun hc => ?_) (fun hc => ?_)
    · replace hv := hv.1 hc
      refine a_iconst (v := 0) dX8_nextOf_21 (by decide) ?_
      exact a_sub [0, 1, 2, 3] rfl hv
    · replace hv := hv.2 hc
      refine a_iconst (v := 1) dX8_nextOf_17 (by decide) ?_
      refine a_goto 22 dX8_nextOf_18 rfl ?_
      exact a_sub [0, 1, 2, 3] rfl hv
  · replace hv := hv.2 hc
    refine a_iconst (v := (-1)) dX8_nextOf_8 (by decide) ?_
    refine a_goto 22 dX8_nextOf_9 rfl ?_
    exact a_sub [0, 1, 2, 3] rfl hv
def VC_X8_wormed (g : GT) (d : Nat) (v1 : Int32) (v2 : Int32) (I : IT) (J : JT) (P : IT → JT → Prop) : Prop :=
  (vp_in ((v1 + 70) + v2) 952 ∧ ((5 ≤ (I 119 ((v1 + 70) + v2).toNatClampNeg) → (vp_in ((v1 + 70) + v2) 952 ∧ P (sI I 119 ((v1 + 70) + v2).toNatClampNeg 5) J)) ∧ (¬ 5 ≤ (I 119 ((v1 + 70) + v2).toNatClampNeg) → (vp_in ((v1 + 70) + v2) 952 ∧ (vp_in ((v1 + 70) + v2) 952 ∧ P (sI I 119 ((v1 + 70) + v2).toNatClampNeg ((I 119 ((v1 + 70) + v2).toNatClampNeg) + 1)) J)))))
set_option maxRecDepth 4000 in
theorem w_X8_wormed {g : GT} {d : Nat} {v1 : Int32} {v2 : Int32} {I : IT} {J : JT} {P : IT → JT → Prop} (hv : VC_X8_wormed g d v1 v2 I J P) : SemV g d M_X8_wormed [.ref (ga g 118), .int v1, .int v2] I J P := by
  unfold VC_X8_wormed at hv
  refine sem_intro (by decide +kernel) rfl (Nat.le_of_ble_eq_true rfl) ?_
  show AW _ 0 0 0 [(0, .ref (ga g 118)), (1, .int v1), (2, .int v2)] [] (cW g I J)
  refine a_aload_n 0 dX8_wormed_0 rfl rfl ?_
  refine a_getR (r := 119) G_X8_7 sh_118 rfl dX8_wormed_1 ?_
  refine a_iload_n 1 dX8_wormed_4 rfl rfl ?_
  refine a_bipush (v := 70) dX8_wormed_5 (by decide) ?_
  refine a_iadd dX8_wormed_7 ?_
  refine a_iload_n 2 dX8_wormed_8 rfl rfl ?_
  refine a_iadd dX8_wormed_9 ?_
  refine a_aload_n 0 dX8_wormed_10 rfl rfl ?_
  refine a_getR (r := 119) G_X8_7 sh_118 rfl dX8_wormed_11 ?_
  refine a_iload_n 1 dX8_wormed_14 rfl rfl ?_
  refine a_bipush (v := 70) dX8_wormed_15 (by decide) ?_
  refine a_iadd dX8_wormed_17 ?_
  refine a_iload_n 2 dX8_wormed_18 rfl rfl ?_
  refine a_iadd dX8_wormed_19 ?_
  refine a_iald sh_119 hv.1 dX8_wormed_20 ?_
  replace hv := hv.2
  refine a_iconst (v := 5) dX8_wormed_21 (by decide) ?_
  refine a_icmp_ge 41 dX8_wormed_22 rfl (fun hc => ?_) (fun hc => ?_)
  · replace hv := hv.1 hc
    refine a_iconst (v := 5) dX8_wormed_41 (by decide) ?_
    refine a_iast sh_119 hv.1 dX8_wormed_42 ?_
    replace hv := hv.2
    exact a_vret rfl dX8_wormed_43 hv
  · replace hv := hv.2 hc
    refine a_aload_n 0 dX8_wormed_25 rfl rfl ?_
    refine a_getR (r := 119) G_X8_7 sh_118 rfl dX8_wormed_26 ?_
    refine a_iload_n 1 dX8_wormed_29 rfl rfl ?_
    refine a_bipush (v := 70) dX8_wormed_30 (by decide) ?_
    refine a_iadd dX8_wormed_32 ?_
    refine a_iload_n 2 dX8_wormed_33 rfl rfl ?_
    refine a_iadd dX8_wormed_34 ?_
    refine a_iald sh_119 hv.1 dX8_wormed_35 ?_
    replace hv := hv.2
    refine a_iconst (v := 1) dX8_wormed_36 (by decide) ?_
    refine a_iadd dX8_wormed_37 ?_
    refine a_goto 42 dX8_wormed_38 rfl ?_
    refine a_iast sh_119 hv.1 dX8_wormed_42 ?_
    replace hv := hv.2
    exact a_vret rfl dX8_wormed_43 hv
def VC_X8_goes (g : GT) (d : Nat) (v1 : Int32) (v2 : Int32) (I : IT) (J : JT) (P : Bool → IT → JT → Prop) : Prop :=
  (vp_in ((v1 + 58) + v2) 952 ∧ (vp_in ((v1 + 64) + v2) 952 ∧ (SemI g (d - 1) M_X8_nextOf [.ref (ga g 118), .int v1, .int (I 119 ((v1 + 58) + v2).toNatClampNeg), .int (I 119 ((v1 + 64) + v2).toNatClampNeg)] I J (fun r24 I24 J24 => (vp_in (v1 + 57) 952 ∧ (vp_in (v1 + 57) 952 ∧ ((0 ≤ r24 → (vp_in ((v1 + 58) + v2) 952 ∧ P false (sI (sI I24 119 (v1 + 57).toNatClampNeg ((I24 119 (v1 + 57).toNatClampNeg) + 1)) 119 ((v1 + 58) + v2).toNatClampNeg r24) J24)) ∧ (¬ 0 ≤ r24 → (SemV g (d - 1) M_X8_wormed [.ref (ga g 118), .int v1, .int v2] (sI I24 119 (v1 + 57).toNatClampNeg ((I24 119 (v1 + 57).toNatClampNeg) + 1)) J24 (fun I48 J48 => P true I48 J48))))))))))
set_option maxRecDepth 4000 in
theorem w_X8_goes {g : GT} {d : Nat} {v1 : Int32} {v2 : Int32} {I : IT} {J : JT} {P : Bool → IT → JT → Prop} (hd : 1 ≤ d) (hv : VC_X8_goes g d v1 v2 I J P) : SemZ g d M_X8_goes [.ref (ga g 118), .int v1, .int v2] I J P := by
  unfold VC_X8_goes at hv
  refine sem_intro (by decide +kernel) rfl (Nat.le_of_ble_eq_true rfl) ?_
  show AW _ 0 0 0 [(0, .ref (ga g 118)), (1, .int v1), (2, .int v2)] [] (cW g I J)
  refine a_aload_n 0 dX8_goes_0 rfl rfl ?_
  refine a_iload_n 1 dX8_goes_1 rfl rfl ?_
  refine a_aload_n 0 dX8_goes_2 rfl rfl ?_
  refine a_getR (r := 119) G_X8_7 sh_118 rfl dX8_goes_3 ?_
  refine a_iload_n 1 dX8_goes_6 rfl rfl ?_
  refine a_bipush (v := 58) dX8_goes_7 (by decide) ?_
  refine a_iadd dX8_goes_9 ?_
  refine a_iload_n 2 dX8_goes_10 rfl rfl ?_
  refine a_iadd dX8_goes_11 ?_
  refine a_iald sh_119 hv.1 dX8_goes_12 ?_
  replace hv := hv.2
  refine a_aload_n 0 dX8_goes_13 rfl rfl ?_
  refine a_getR (r := 119) G_X8_7 sh_118 rfl dX8_goes_14 ?_
  refine a_iload_n 1 dX8_goes_17 rfl rfl ?_
  refine a_bipush (v := 64) dX8_goes_18 (by decide) ?_
  refine a_iadd dX8_goes_20 ?_
  refine a_iload_n 2 dX8_goes_21 rfl rfl ?_
  refine a_iadd dX8_goes_22 ?_
  refine a_iald sh_119 hv.1 dX8_goes_23 ?_
  replace hv := hv.2
  refine c_VI (As := [.int v1, .int (I 119 ((v1 + 58) + v2).toNatClampNeg), .int (I 119 ((v1 + 64) + v2).toNatClampNeg)]) (rest := []) hv K_X8_129 sh_118 rfl rfl rfl (Nat.le_of_ble_eq_true rfl) (rok (by omega) (Nat.le_of_ble_eq_true rfl)) ⟨Nat.zero_le _, Nat.zero_le _⟩ dX8_goes_24 (fun r24 I24 J24 hv => ?_)
  refine a_istore_n [(3, .int r24), (0, .ref (ga g 118)), (1, .int v1), (2, .int v2)] dX8_goes_27 rfl (Nat.le_of_ble_eq_true rfl) rfl ?_
  refine a_aload_n 1 dX8_goes_28 rfl rfl ?_
  refine a_getR (r := 119) G_X8_7 sh_118 rfl dX8_goes_29 ?_
  refine a_iload_n 2 dX8_goes_32 rfl rfl ?_
  refine a_bipush (v := 57) dX8_goes_33 (by decide) ?_
  refine a_iadd dX8_goes_35 ?_
  refine a_dup2 dX8_goes_36 rfl rfl ?_
  refine a_iald sh_119 hv.1 dX8_goes_37 ?_
  replace hv := hv.2
  refine a_iconst (v := 1) dX8_goes_38 (by decide) ?_
  refine a_iadd dX8_goes_39 ?_
  refine a_iast sh_119 hv.1 dX8_goes_40 ?_
  replace hv := hv.2
  refine a_iload_n 0 dX8_goes_41 rfl rfl ?_
  refine a_if_ge 53 dX8_goes_42 rfl (fun hc => ?_) (fun hc => ?_)
  · replace hv := hv.1 hc
    refine a_aload_n 1 dX8_goes_53 rfl rfl ?_
    refine a_getR (r := 119) G_X8_7 sh_118 rfl dX8_goes_54 ?_
    refine a_iload_n 2 dX8_goes_57 rfl rfl ?_
    refine a_bipush (v := 58) dX8_goes_58 (by decide) ?_
    refine a_iadd dX8_goes_60 ?_
    refine a_iload_n 3 dX8_goes_61 rfl rfl ?_
    refine a_iadd dX8_goes_62 ?_
    refine a_iload_n 0 dX8_goes_63 rfl rfl ?_
    refine a_iast sh_119 hv.1 dX8_goes_64 ?_
    replace hv := hv.2
    refine a_iconst (v := 0) dX8_goes_65 (by decide) ?_
    exact a_zret _ false (by decide) rfl dX8_goes_66 hv
  · replace hv := hv.2 hc
    refine a_aload_n 1 dX8_goes_45 rfl rfl ?_
    refine a_iload_n 2 dX8_goes_46 rfl rfl ?_
    refine a_iload_n 3 dX8_goes_47 rfl rfl ?_
    refine c_VV (As := [.int v1, .int v2]) (rest := []) hv K_X8_132 sh_118 rfl rfl rfl (Nat.le_of_ble_eq_true rfl) (rok (by omega) (Nat.le_of_ble_eq_true rfl)) ⟨Nat.zero_le _, Nat.zero_le _⟩ dX8_goes_48 (fun I48 J48 hv => ?_)
    refine a_iconst (v := 1) dX8_goes_51 (by decide) ?_
    exact a_zret _ true (by decide) rfl dX8_goes_52 hv
def VC_X8_credits (g : GT) (d : Nat) (v1 : Int32) (v2 : Int32) (v3 : Int32) (I : IT) (J : JT) (P : IT → JT → Prop) : Prop :=
  (vp_in ((v1 + 76) + v2) 952 ∧ ((((I 119 ((v1 + 76) + v2).toNatClampNeg) + v3) ≤ 9 → ((0 ≤ ((I 119 ((v1 + 76) + v2).toNatClampNeg) + v3) → (vp_in ((v1 + 76) + v2) 952 ∧ P (sI I 119 ((v1 + 76) + v2).toNatClampNeg ((I 119 ((v1 + 76) + v2).toNatClampNeg) + v3)) J)) ∧ (¬ 0 ≤ ((I 119 ((v1 + 76) + v2).toNatClampNeg) + v3) → (vp_in ((v1 + 76) + v2) 952 ∧ P (sI I 119 ((v1 + 76) + v2).toNatClampNeg 0) J)))) ∧ (¬ ((I 119 ((v1 + 76) + v2).toNatClampNeg) + v3) ≤ 9 → (vp_in ((v1 + 76) + v2) 952 ∧ P (sI I 119 ((v1 + 76) + v2).toNatClampNeg 9) J))))
set_option maxRecDepth 4000 in
theorem w_X8_credits {g : GT} {d : Nat} {v1 : Int32} {v2 : Int32} {v3 : Int32} {I : IT} {J : JT} {P : IT → JT → Prop} (hv : VC_X8_credits g d v1 v2 v3 I J P) : SemV g d M_X8_credits [.ref (ga g 118), .int v1, .int v2, .int v3] I J P := by
  unfold VC_X8_credits at hv
  refine sem_intro (by decide +kernel) rfl (Nat.le_of_ble_eq_true rfl) ?_
  show AW _ 0 0 0 [(0, .ref (ga g 118)), (1, .int v1), (2, .int v2), (3, .int v3)] [] (cW g I J)
  refine a_aload_n 0 dX8_credits_0 rfl rfl ?_
  refine a_getR (r := 119) G_X8_7 sh_118 rfl dX8_credits_1 ?_
  refine a_iload_n 1 dX8_credits_4 rfl rfl ?_
  refine a_bipush (v := 76) dX8_credits_5 (by decide) ?_
  refine a_iadd dX8_credits_7 ?_
  refine a_iload_n 2 dX8_credits_8 rfl rfl ?_
  refine a_iadd dX8_credits_9 ?_
  refine a_iald sh_119 hv.1 dX8_credits_10 ?_
  replace hv := hv.2
  refine a_iload_n 3 dX8_credits_11 rfl rfl ?_
  refine a_iadd dX8_credits_12 ?_
  refine a_istore [(4, .int ((I 119 ((v1 + 76) + v2).toNatClampNeg) + v3)), (0, .ref (ga g 118)), (1, .int v1), (2, .int v2), (3, .int v3)] dX8_credits_13 (Nat.le_of_ble_eq_true rfl) rfl ?_
  refine a_aload_n 1 dX8_credits_15 rfl rfl ?_
  refine a_getR (r := 119) G_X8_7 sh_118 rfl dX8_credits_16 ?_
  refine a_iload_n 2 dX8_credits_19 rfl rfl ?_
  refine a_bipush (v := 76) dX8_credits_20 (by decide) ?_
  refine a_iadd dX8_credits_22 ?_
  refine a_iload_n 3 dX8_credits_23 rfl rfl ?_
  refine a_iadd dX8_credits_24 ?_
  refine a_iload 0 dX8_credits_25 rfl ?_
  refine a_bipush (v := 9) dX8_credits_27 (by decide) ?_
  refine a_icmp_le 37 dX8_credits_29 rfl (fun hc => ?_) (fun hc => ?_)
  · replace hv := hv.1 hc
    refine a_iload 0 dX8_credits_37 rfl ?_
    refine a_if_ge 46 dX8_credits_39 rfl (fun hc => ?_) (fun hc => ?_)
    · replace hv := hv.1 hc
      refine a_iload 0 dX8_credits_46 rfl ?_
      refine a_iast sh_119 hv.1 dX8_credits_48 ?_
      replace hv := hv.2
      exact a_vret rfl dX8_credits_49 hv
    · replace hv := hv.2 hc
      refine a_iconst (v := 0) dX8_credits_42 (by decide) ?_
      refine a_goto 48 dX8_credits_43 rfl ?_
      refine a_iast sh_119 hv.1 dX8_credits_48 ?_
      replace hv := hv.2
      exact a_vret rfl dX8_credits_49 hv
  · replace hv := hv.2 hc
    refine a_bipush (v := 9) dX8_credits_32 (by decide) ?_
    refine a_goto 48 dX8_credits_34 rfl ?_
    refine a_iast sh_119 hv.1 dX8_credits_48 ?_
    replace hv := hv.2
    exact a_vret rfl dX8_credits_49 hv
def VC_X8_says (g : GT) (d : Nat) (v1 : Int32) (v2 : Int32) (v3 : Int32) (v4 : Int32) (I : IT) (J : JT) (P : IT → JT → Prop) : Prop :=
  (SemZ g (d - 1) M_X8_believesIn [.ref (ga g 118), .int v1, .int v2, .int v3] I J (fun r4 I4 J4 => ((r4 = false → (SemZ g (d - 1) M_X8_goes [.ref (ga g 118), .int v1, .int v2] I4 J4 (fun r36 I36 J36 => ((r4 = false → P I36 J36) ∧ (r4 = true → ((r36 = false → (SemV g (d - 1) M_X8_credits [.ref (ga g 118), .int v1, .int v3, .int 1] I36 J36 (fun I60 J60 => P I60 J60))) ∧ (r36 = true → (SemV g (d - 1) M_X8_credits [.ref (ga g 118), .int v1, .int v3, .int (-2)] I36 J36 (fun I60 J60 => P I60 J60))))))))) ∧ (r4 = true → (SemI g (d - 1) M_X8_turned [.ref (ga g 118), .int v1, .int v2, .int v4] I4 J4 (fun r29 I29 J29 => (vp_in ((v1 + 64) + v2) 952 ∧ (SemZ g (d - 1) M_X8_goes [.ref (ga g 118), .int v1, .int v2] (sI I29 119 ((v1 + 64) + v2).toNatClampNeg r29) J29 (fun r36 I36 J36 => ((r4 = false → P I36 J36) ∧ (r4 = true → ((r36 = false → (SemV g (d - 1) M_X8_credits [.ref (ga g 118), .int v1, .int v3, .int 1] I36 J36 (fun I60 J60 => P I60 J60))) ∧ (r36 = true → (SemV g (d - 1) M_X8_credits [.ref (ga g 118), .int v1, .int v3, .int (-2)] I36 J36 (fun I60 J60 => P I60 J60)))))))))))))))
set_option maxRecDepth 4000 in
theorem w_X8_says {g : GT} {d : Nat} {v1 : Int32} {v2 : Int32} {v3 : Int32} {v4 : Int32} {I : IT} {J : JT} {P : IT → JT → Prop} (hd : 1 ≤ d) (hv : VC_X8_says g d v1 v2 v3 v4 I J P) : SemV g d M_X8_says [.ref (ga g 118), .int v1, .int v2, .int v3, .int v4] I J P := by
  unfold VC_X8_says at hv
  refine sem_intro (by decide +kernel) rfl (Nat.le_of_ble_eq_true rfl) ?_
  show AW _ 0 0 0 [(0, .ref (ga g 118)), (1, .int v1), (2, .int v2), (3, .int v3), (4, .int v4)] [] (cW g I J)
  refine a_aload_n 0 dX8_says_0 rfl rfl ?_
  refine a_iload_n 1 dX8_says_1 rfl rfl ?_
  refine a_iload_n 2 dX8_says_2 rfl rfl ?_
  refine a_iload_n 3 dX8_says_3 rfl rfl ?_
  refine c_VZ (As := [.int v1, .int v2, .int v3]) (rest := []) hv K_X8_136 sh_118 rfl rfl rfl (Nat.le_of_ble_eq_true rfl) (rok (by omega) (Nat.le_of_ble_eq_true rfl)) ⟨Nat.zero_le _, Nat.zero_le _⟩ dX8_says_4 (fun r4 I4 J4 hv => ?_)
  refine a_istore [(5, .int (bI r4)), (0, .ref (ga g 118)), (1, .int v1), (2, .int v2), (3, .int v3), (4, .int v4)] dX8_says_7 (Nat.le_of_ble_eq_true rfl) rfl ?_
  refine a_iload 0 dX8_says_9 rfl ?_
  refine a_ifz_eq 33 dX8_says_11 rfl (fun hc => ?_) (fun hc => ?_)
  · replace hv := hv.1 hc
    refine a_aload_n 1 dX8_says_33 rfl rfl ?_
    refine a_iload_n 2 dX8_says_34 rfl rfl ?_
    refine a_iload_n 3 dX8_says_35 rfl rfl ?_
    refine c_VZ (As := [.int v1, .int v2]) (rest := []) hv K_X8_142 sh_118 rfl rfl rfl (Nat.le_of_ble_eq_true rfl) (rok (by omega) (Nat.le_of_ble_eq_true rfl)) ⟨Nat.zero_le _, Nat.zero_le _⟩ dX8_says_36 (fun r36 I36 J36 hv => ?_)
    refine a_istore [(6, .int (bI r36)), (5, .int (bI r4)), (0, .ref (ga g 118)), (1, .int v1), (2, .int v2), (3, .int v3), (4, .int v4)] dX8_says_39 (Nat.le_of_ble_eq_true rfl) rfl ?_
    refine a_iload 1 dX8_says_41 rfl ?_
    refine a_ifz_eq 63 dX8_says_43 rfl (fun hc => ?_) (fun hc => ?_)
    · replace hv := hv.1 hc
      exact a_vret rfl dX8_says_63 hv
    · replace hv := hv.2 hc
      refine a_aload_n 2 dX8_says_46 rfl rfl ?_
      refine a_iload_n 3 dX8_says_47 rfl rfl ?_
      refine a_iload_n 5 dX8_says_48 rfl rfl ?_
      refine a_iload 0 dX8_says_49 rfl ?_
      refine a_ifz_eq 59 dX8_says_51 rfl (fun hc => ?_) (fun hc => ?_)
      · replace hv := hv.1 hc
        refine a_iconst (v := 1) dX8_says_59 (by decide) ?_
        refine c_VV (As := [.int v1, .int v3, .int 1]) (rest := []) hv K_X8_145 sh_118 rfl rfl rfl (Nat.le_of_ble_eq_true rfl) (rok (by omega) (Nat.le_of_ble_eq_true rfl)) ⟨Nat.zero_le _, Nat.zero_le _⟩ dX8_says_60 (fun I60 J60 hv => ?_)
        exact a_vret rfl dX8_says_63 hv
      · replace hv := hv.2 hc
        refine a_bipush (v := (-2)) dX8_says_54 (by decide) ?_
        refine a_goto 60 dX8_says_56 rfl ?_
        refine c_VV (As := [.int v1, .int v3, .int (-2)]) (rest := []) hv K_X8_145 sh_118 rfl rfl rfl (Nat.le_of_ble_eq_true rfl) (rok (by omega) (Nat.le_of_ble_eq_true rfl)) ⟨Nat.zero_le _, Nat.zero_le _⟩ dX8_says_60 (fun I60 J60 hv => ?_)
        exact a_vret rfl dX8_says_63 hv
  · replace hv := hv.2 hc
    refine a_aload_n 1 dX8_says_14 rfl rfl ?_
    refine a_getR (r := 119) G_X8_7 sh_118 rfl dX8_says_15 ?_
    refine a_iload_n 2 dX8_says_18 rfl rfl ?_
    refine a_bipush (v := 64) dX8_says_19 (by decide) ?_
    refine a_iadd dX8_says_21 ?_
    refine a_iload_n 3 dX8_says_22 rfl rfl ?_
    refine a_iadd dX8_says_23 ?_
    refine a_aload_n 1 dX8_says_24 rfl rfl ?_
    refine a_iload_n 2 dX8_says_25 rfl rfl ?_
    refine a_iload_n 3 dX8_says_26 rfl rfl ?_
    refine a_iload 5 dX8_says_27 rfl ?_
    refine c_VI (As := [.int v1, .int v2, .int v4]) (rest := [.int ((v1 + 64) + v2), .ref (ga g 119)]) hv K_X8_139 sh_118 rfl rfl rfl (Nat.le_of_ble_eq_true rfl) (rok (by omega) (Nat.le_of_ble_eq_true rfl)) ⟨Nat.zero_le _, Nat.zero_le _⟩ dX8_says_29 (fun r29 I29 J29 hv => ?_)
    refine a_iast sh_119 hv.1 dX8_says_32 ?_
    replace hv := hv.2
    refine a_aload_n 1 dX8_says_33 rfl rfl ?_
    refine a_iload_n 2 dX8_says_34 rfl rfl ?_
    refine a_iload_n 3 dX8_says_35 rfl rfl ?_
    refine c_VZ (As := [.int v1, .int v2]) (rest := []) hv K_X8_142 sh_118 rfl rfl rfl (Nat.le_of_ble_eq_true rfl) (rok (by omega) (Nat.le_of_ble_eq_true rfl)) ⟨Nat.zero_le _, Nat.zero_le _⟩ dX8_says_36 (fun r36 I36 J36 hv => ?_)
    refine a_istore [(6, .int (bI r36)), (5, .int (bI r4)), (0, .ref (ga g 118)), (1, .int v1), (2, .int v2), (3, .int v3), (4, .int v4)] dX8_says_39 (Nat.le_of_ble_eq_true rfl) rfl ?_
    refine a_iload 1 dX8_says_41 rfl ?_
    refine a_ifz_eq 63 dX8_says_43 rfl (fun hc => ?_) (fun hc => ?_)
    · replace hv := hv.1 hc
      exact a_vret rfl dX8_says_63 hv
    · replace hv := hv.2 hc
      refine a_aload_n 2 dX8_says_46 rfl rfl ?_
      refine a_iload_n 3 dX8_says_47 rfl rfl ?_
      refine a_iload_n 5 dX8_says_48 rfl rfl ?_
      refine a_iload 0 dX8_says_49 rfl ?_
      refine a_ifz_eq 59 dX8_says_51 rfl (fun hc => ?_) (fun hc => ?_)
      · replace hv := hv.1 hc
        refine a_iconst (v := 1) dX8_says_59 (by decide) ?_
        refine c_VV (As := [.int v1, .int v3, .int 1]) (rest := []) hv K_X8_145 sh_118 rfl rfl rfl (Nat.le_of_ble_eq_true rfl) (rok (by omega) (Nat.le_of_ble_eq_true rfl)) ⟨Nat.zero_le _, Nat.zero_le _⟩ dX8_says_60 (fun I60 J60 hv => ?_)
        exact a_vret rfl dX8_says_63 hv
      · replace hv := hv.2 hc
        refine a_bipush (v := (-2)) dX8_says_54 (by decide) ?_
        refine a_goto 60 dX8_says_56 rfl ?_
        refine c_VV (As := [.int v1, .int v3, .int (-2)]) (rest := []) hv K_X8_145 sh_118 rfl rfl rfl (Nat.le_of_ble_eq_true rfl) (rok (by omega) (Nat.le_of_ble_eq_true rfl)) ⟨Nat.zero_le _, Nat.zero_le _⟩ dX8_says_60 (fun I60 J60 hv => ?_)
        exact a_vret rfl dX8_says_63 hv
def Lp_X8_storms_71 (g : GT) (d : Nat) (v1 : Int32) (v2 : Int32) (v3 : Int32) (v4 : Int32) (v5 : Int32) (v6 : Int32) (b7 : Bool) (b8 : Bool) (I : IT) (J : JT) (P : IT → JT → Prop) : Prop := AW (kM g d M_X8_storms 0 0 (qV g P)) 0 0 71 [(0, .ref (ga g 118)), (1, .int v1), (2, .int v2), (3, .int v3), (4, .int v4), (5, .int v5), (6, .int v6), (7, .int (bI b7)), (8, .int (bI b8))] [] (cW g I J)
def Lp_X8_storms_110 (g : GT) (d : Nat) (v1 : Int32) (v2 : Int32) (v3 : Int32) (v5 : Int32) (b7 : Bool) (b8 : Bool) (I : IT) (J : JT) (P : IT → JT → Prop) : Prop := AW (kM g d M_X8_storms 0 0 (qV g P)) 0 0 110 [(0, .ref (ga g 118)), (1, .int v1), (2, .int v2), (3, .int v3), (5, .int v5), (7, .int (bI b7)), (8, .int (bI b8))] [] (cW g I J)
def VC_X8_storms_110 (g : GT) (d : Nat) (v1 : Int32) (v2 : Int32) (v3 : Int32) (v5 : Int32) (b7 : Bool) (b8 : Bool) (I : IT) (J : JT) (P : IT → JT → Prop) : Prop :=
  (SemZ g (d - 1) M_X8_goes [.ref (ga g 118), .int v1, .int v2] I J (fun r113 I113 J113 => ((b7 = false → ((b8 = false → P I113 J113) ∧ (b8 = true → ((r113 = false → (SemV g (d - 1) M_X8_credits [.ref (ga g 118), .int v1, .int v5, .int 1] I113 J113 (fun I160 J160 => P I160 J160))) ∧ (r113 = true → (SemV g (d - 1) M_X8_credits [.ref (ga g 118), .int v1, .int v5, .int (-2)] I113 J113 (fun I160 J160 => P I160 J160))))))) ∧ (b7 = true → ((r113 = false → (SemV g (d - 1) M_X8_credits [.ref (ga g 118), .int v1, .int v3, .int 1] I113 J113 (fun I137 J137 => ((b8 = false → P I137 J137) ∧ (b8 = true → ((r113 = false → (SemV g (d - 1) M_X8_credits [.ref (ga g 118), .int v1, .int v5, .int 1] I137 J137 (fun I160 J160 => P I160 J160))) ∧ (r113 = true → (SemV g (d - 1) M_X8_credits [.ref (ga g 118), .int v1, .int v5, .int (-2)] I137 J137 (fun I160 J160 => P I160 J160))))))))) ∧ (r113 = true → (SemV g (d - 1) M_X8_credits [.ref (ga g 118), .int v1, .int v3, .int (-2)] I113 J113 (fun I137 J137 => ((b8 = false → P I137 J137) ∧ (b8 = true → ((r113 = false → (SemV g (d - 1) M_X8_credits [.ref (ga g 118), .int v1, .int v5, .int 1] I137 J137 (fun I160 J160 => P I160 J160))) ∧ (r113 = true → (SemV g (d - 1) M_X8_credits [.ref (ga g 118), .int v1, .int v5, .int (-2)] I137 J137 (fun I160 J160 => P I160 J160))))))))))))))
set_option maxRecDepth 4000 in
theorem w_X8_storms_110 {g : GT} {d : Nat} {v1 : Int32} {v2 : Int32} {v3 : Int32} {v5 : Int32} {b7 : Bool} {b8 : Bool} {I : IT} {J : JT} {P : IT → JT → Prop} (hd : 1 ≤ d) (hv : VC_X8_storms_110 g d v1 v2 v3 v5 b7 b8 I J P) : Lp_X8_storms_110 g d v1 v2 v3 v5 b7 b8 I J P := by
  unfold VC_X8_storms_110 at hv
  unfold Lp_X8_storms_110
  refine a_aload_n 0 dX8_storms_110 rfl rfl ?_
  refine a_iload_n 1 dX8_storms_111 rfl rfl ?_
  refine a_iload_n 2 dX8_storms_112 rfl rfl ?_
  refine c_VZ (As := [.int v1, .int v2]) (rest := []) hv K_X8_142 sh_118 rfl rfl rfl (Nat.le_of_ble_eq_true rfl) (rok (by omega) (Nat.le_of_ble_eq_true rfl)) ⟨Nat.zero_le _, Nat.zero_le _⟩ dX8_storms_113 (fun r113 I113 J113 hv => ?_)
  refine a_istore [(9, .int (bI r113)), (0, .ref (ga g 118)), (1, .int v1), (2, .int v2), (3, .int v3), (5, .int v5), (7, .int (bI b7)), (8, .int (bI b8))] dX8_storms_116 (Nat.le_of_ble_eq_true rfl) rfl ?_
  refine a_iload 6 dX8_storms_118 rfl ?_
  refine a_ifz_eq 140 dX8_storms_120 rfl (fun hc => ?_) (fun hc => ?_)
  · replace hv := hv.1 hc
    refine a_iload 7 dX8_storms_140 rfl ?_
    refine a_ifz_eq 163 dX8_storms_142 rfl (fun hc => ?_) (fun hc => ?_)
    · replace hv := hv.1 hc
      exact a_vret rfl dX8_storms_163 hv
    · replace hv := hv.2 hc
      refine a_aload_n 1 dX8_storms_145 rfl rfl ?_
      refine a_iload_n 2 dX8_storms_146 rfl rfl ?_
      refine a_iload 5 dX8_storms_147 rfl ?_
      refine a_iload 0 dX8_storms_149 rfl ?_
      refine a_ifz_eq 159 dX8_storms_151 rfl (fun hc => ?_) (fun hc => ?_)
      · replace hv := hv.1 hc
        refine a_iconst (v := 1) dX8_storms_159 (by decide) ?_
        refine c_VV (As := [.int v1, .int v5, .int 1]) (rest := []) hv K_X8_145 sh_118 rfl rfl rfl (Nat.le_of_ble_eq_true rfl) (rok (by omega) (Nat.le_of_ble_eq_true rfl)) ⟨Nat.zero_le _, Nat.zero_le _⟩ dX8_storms_160 (fun I160 J160 hv => ?_)
        exact a_vret rfl dX8_storms_163 hv
      · replace hv := hv.2 hc
        refine a_bipush (v := (-2)) dX8_storms_154 (by decide) ?_
        refine a_goto 160 dX8_storms_156 rfl ?_
        refine c_VV (As := [.int v1, .int v5, .int (-2)]) (rest := []) hv K_X8_145 sh_118 rfl rfl rfl (Nat.le_of_ble_eq_true rfl) (rok (by omega) (Nat.le_of_ble_eq_true rfl)) ⟨Nat.zero_le _, Nat.zero_le _⟩ dX8_storms_160 (fun I160 J160 hv => ?_)
        exact a_vret rfl dX8_storms_163 hv
  · replace hv := hv.2 hc
    refine a_aload_n 1 dX8_storms_123 rfl rfl ?_
    refine a_iload_n 2 dX8_storms_124 rfl rfl ?_
    refine a_iload_n 4 dX8_storms_125 rfl rfl ?_
    refine a_iload 0 dX8_storms_126 rfl ?_
    refine a_ifz_eq 136 dX8_storms_128 rfl (fun hc => ?_) (fun hc => ?_)
    · replace hv := hv.1 hc
      refine a_iconst (v := 1) dX8_storms_136 (by decide) ?_
      refine c_VV (As := [.int v1, .int v3, .int 1]) (rest := []) hv K_X8_145 sh_118 rfl rfl rfl (Nat.le_of_ble_eq_true rfl) (rok (by omega) (Nat.le_of_ble_eq_true rfl)) ⟨Nat.zero_le _, Nat.zero_le _⟩ dX8_storms_137 (fun I137 J137 hv => ?_)
      refine a_iload 7 dX8_storms_140 rfl ?_
      refine a_ifz_eq 163 dX8_storms_142 rfl (fun hc => ?_) (fun hc => ?_)
      · replace hv := hv.1 hc
        exact a_vret rfl dX8_storms_163 hv
      · replace hv := hv.2 hc
        refine a_aload_n 1 dX8_storms_145 rfl rfl ?_
        refine a_iload_n 2 dX8_storms_146 rfl rfl ?_
        refine a_iload 5 dX8_storms_147 rfl ?_
        refine a_iload 0 dX8_storms_149 rfl ?_
        refine a_ifz_eq 159 dX8_storms_151 rfl (fun hc => ?_) (fun hc => ?_)
        · replace hv := hv.1 hc
          refine a_iconst (v := 1) dX8_storms_159 (by decide) ?_
          refine c_VV (As := [.int v1, .int v5, .int 1]) (rest := []) hv K_X8_145 sh_118 rfl rfl rfl (Nat.le_of_ble_eq_true rfl) (rok (by omega) (Nat.le_of_ble_eq_true rfl)) ⟨Nat.zero_le _, Nat.zero_le _⟩ dX8_storms_160 (fun I160 J160 hv => ?_)
          exact a_vret rfl dX8_storms_163 hv
        · replace hv := hv.2 hc
          refine a_bipush (v := (-2)) dX8_storms_154 (by decide) ?_
          refine a_goto 160 dX8_storms_156 rfl ?_
          refine c_VV (As := [.int v1, .int v5, .int (-2)]) (rest := []) hv K_X8_145 sh_118 rfl rfl rfl (Nat.le_of_ble_eq_true rfl) (rok (by omega) (Nat.le_of_ble_eq_true rfl)) ⟨Nat.zero_le _, Nat.zero_le _⟩ dX8_storms_160 (fun I160 J160 hv => ?_)
          exact a_vret rfl dX8_storms_163 hv
    · replace hv := hv.2 hc
      refine a_bipush (v := (-2)) dX8_storms_131 (by decide) ?_
      refine a_goto 137 dX8_storms_133 rfl ?_
      refine c_VV (As := [.int v1, .int v3, .int (-2)]) (rest := []) hv K_X8_145 sh_118 rfl rfl rfl (Nat.le_of_ble_eq_true rfl) (rok (by omega) (Nat.le_of_ble_eq_true rfl)) ⟨Nat.zero_le _, Nat.zero_le _⟩ dX8_storms_137 (fun I137 J137 hv => ?_)
      refine a_iload 7 dX8_storms_140 rfl ?_
      refine a_ifz_eq 163 dX8_storms_142 rfl (fun hc => ?_) (fun hc => ?_)
      · replace hv := hv.1 hc
        exact a_vret rfl dX8_storms_163 hv
      · replace hv := hv.2 hc
        refine a_aload_n 1 dX8_storms_145 rfl rfl ?_
        refine a_iload_n 2 dX8_storms_146 rfl rfl ?_
        refine a_iload 5 dX8_storms_147 rfl ?_
        refine a_iload 0 dX8_storms_149 rfl ?_
        refine a_ifz_eq 159 dX8_storms_151 rfl (fun hc => ?_) (fun hc => ?_)
        · replace hv := hv.1 hc
          refine a_iconst (v := 1) dX8_storms_159 (by decide) ?_
          refine c_VV (As := [.int v1, .int v5, .int 1]) (rest := []) hv K_X8_145 sh_118 rfl rfl rfl (Nat.le_of_ble_eq_true rfl) (rok (by omega) (Nat.le_of_ble_eq_true rfl)) ⟨Nat.zero_le _, Nat.zero_le _⟩ dX8_storms_160 (fun I160 J160 hv => ?_)
          exact a_vret rfl dX8_storms_163 hv
        · replace hv := hv.2 hc
          refine a_bipush (v := (-2)) dX8_storms_154 (by decide) ?_
          refine a_goto 160 dX8_storms_156 rfl ?_
          refine c_VV (As := [.int v1, .int v5, .int (-2)]) (rest := []) hv K_X8_145 sh_118 rfl rfl rfl (Nat.le_of_ble_eq_true rfl) (rok (by omega) (Nat.le_of_ble_eq_true rfl)) ⟨Nat.zero_le _, Nat.zero_le _⟩ dX8_storms_160 (fun I160 J160 hv => ?_)
          exact a_vret rfl dX8_storms_163 hv
def VC_X8_storms_71 (g : GT) (d : Nat) (v1 : Int32) (v2 : Int32) (v3 : Int32) (v4 : Int32) (v5 : Int32) (v6 : Int32) (b7 : Bool) (b8 : Bool) (I : IT) (J : JT) (P : IT → JT → Prop) : Prop :=
  ((b7 = true → ((b7 = false → (SemI g (d - 1) M_X8_turned [.ref (ga g 118), .int v1, .int v2, .int v6] I J (fun r106 I106 J106 => (vp_in ((v1 + 64) + v2) 952 ∧ (Lp_X8_storms_110 g d v1 v2 v3 v5 b7 b8 (sI I106 119 ((v1 + 64) + v2).toNatClampNeg r106) J106 P))))) ∧ (b7 = true → (SemI g (d - 1) M_X8_turned [.ref (ga g 118), .int v1, .int v2, .int v4] I J (fun r106 I106 J106 => (vp_in ((v1 + 64) + v2) 952 ∧ (Lp_X8_storms_110 g d v1 v2 v3 v5 b7 b8 (sI I106 119 ((v1 + 64) + v2).toNatClampNeg r106) J106 P))))))) ∧ (b7 = false → ((b8 = false → (Lp_X8_storms_110 g d v1 v2 v3 v5 b7 b8 I J P)) ∧ (b8 = true → ((b7 = false → (SemI g (d - 1) M_X8_turned [.ref (ga g 118), .int v1, .int v2, .int v6] I J (fun r106 I106 J106 => (vp_in ((v1 + 64) + v2) 952 ∧ (Lp_X8_storms_110 g d v1 v2 v3 v5 b7 b8 (sI I106 119 ((v1 + 64) + v2).toNatClampNeg r106) J106 P))))) ∧ (b7 = true → (SemI g (d - 1) M_X8_turned [.ref (ga g 118), .int v1, .int v2, .int v4] I J (fun r106 I106 J106 => (vp_in ((v1 + 64) + v2) 952 ∧ (Lp_X8_storms_110 g d v1 v2 v3 v5 b7 b8 (sI I106 119 ((v1 + 64) + v2).toNatClampNeg r106) J106 P))))))))))
set_option maxRecDepth 4000 in
theorem w_X8_storms_71 {g : GT} {d : Nat} {v1 : Int32} {v2 : Int32} {v3 : Int32} {v4 : Int32} {v5 : Int32} {v6 : Int32} {b7 : Bool} {b8 : Bool} {I : IT} {J : JT} {P : IT → JT → Prop} (hd : 1 ≤ d) (hv : VC_X8_storms_71 g d v1 v2 v3 v4 v5 v6 b7 b8 I J P) : Lp_X8_storms_71 g d v1 v2 v3 v4 v5 v6 b7 b8 I J P := by
  unfold VC_X8_storms_71 at hv
  unfold Lp_X8_storms_71
  refine a_iload 7 dX8_storms_71 rfl ?_
  refine a_ifz_ne 81 dX8_storms_73 rfl (fun hc => ?_) (fun hc => ?_)
  · replace hv := hv.1 hc
    refine a_aload_n 0 dX8_storms_81 rfl rfl ?_
    refine a_getR (r := 119) G_X8_7 sh_118 rfl dX8_storms_82 ?_
    refine a_iload_n 1 dX8_storms_85 rfl rfl ?_
    refine a_bipush (v := 64) dX8_storms_86 (by decide) ?_
    refine a_iadd dX8_storms_88 ?_
    refine a_iload_n 2 dX8_storms_89 rfl rfl ?_
    refine a_iadd dX8_storms_90 ?_
    refine a_aload_n 0 dX8_storms_91 rfl rfl ?_
    refine a_iload_n 1 dX8_storms_92 rfl rfl ?_
    refine a_iload_n 2 dX8_storms_93 rfl rfl ?_
    refine a_iload 7 dX8_storms_94 rfl ?_
    refine a_ifz_eq 104 dX8_storms_96 rfl (fun hc => ?_) (fun hc => ?_)
    · replace hv := hv.1 hc
      refine a_iload 6 dX8_storms_104 rfl ?_
      refine c_VI (As := [.int v1, .int v2, .int v6]) (rest := [.int ((v1 + 64) + v2), .ref (ga g 119)]) hv K_X8_139 sh_118 rfl rfl rfl (Nat.le_of_ble_eq_true rfl) (rok (by omega) (Nat.le_of_ble_eq_true rfl)) ⟨Nat.zero_le _, Nat.zero_le _⟩ dX8_storms_106 (fun r106 I106 J106 hv => ?_)
      refine a_iast sh_119 hv.1 dX8_storms_109 ?_
      replace hv := hv.2
      exact a_sub [0, 1, 2, 3, 5, 7, 8] rfl hv
    · replace hv := hv.2 hc
      refine a_iload 4 dX8_storms_99 rfl ?_
      refine a_goto 106 dX8_storms_101 rfl ?_
      refine c_VI (As := [.int v1, .int v2, .int v4]) (rest := [.int ((v1 + 64) + v2), .ref (ga g 119)]) hv K_X8_139 sh_118 rfl rfl rfl (Nat.le_of_ble_eq_true rfl) (rok (by omega) (Nat.le_of_ble_eq_true rfl)) ⟨Nat.zero_le _, Nat.zero_le _⟩ dX8_storms_106 (fun r106 I106 J106 hv => ?_)
      refine a_iast sh_119 hv.1 dX8_storms_109 ?_
      replace hv := hv.2
      exact a_sub [0, 1, 2, 3, 5, 7, 8] rfl hv
  · replace hv := hv.2 hc
    refine a_iload 8 dX8_storms_76 rfl ?_
    refine a_ifz_eq 110 dX8_storms_78 rfl (fun hc => ?_) (fun hc => ?_)
    · replace hv := hv.1 hc
      exact a_sub [0, 1, 2, 3, 5, 7, 8] rfl hv
    · replace hv := hv.2 hc
      refine a_aload_n 0 dX8_storms_81 rfl rfl ?_
      refine a_getR (r := 119) G_X8_7 sh_118 rfl dX8_storms_82 ?_
      refine a_iload_n 1 dX8_storms_85 rfl rfl ?_
      refine a_bipush (v := 64) dX8_storms_86 (by decide) ?_
      refine a_iadd dX8_storms_88 ?_
      refine a_iload_n 2 dX8_storms_89 rfl rfl ?_
      refine a_iadd dX8_storms_90 ?_
      refine a_aload_n 0 dX8_storms_91 rfl rfl ?_
      refine a_iload_n 1 dX8_storms_92 rfl rfl ?_
      refine a_iload_n 2 dX8_storms_93 rfl rfl ?_
      refine a_iload 7 dX8_storms_94 rfl ?_
      refine a_ifz_eq 104 dX8_storms_96 rfl (fun hc => ?_) (fun hc => ?_)
      · replace hv := hv.1 hc
        refine a_iload 6 dX8_storms_104 rfl ?_
        refine c_VI (As := [.int v1, .int v2, .int v6]) (rest := [.int ((v1 + 64) + v2), .ref (ga g 119)]) hv K_X8_139 sh_118 rfl rfl rfl (Nat.le_of_ble_eq_true rfl) (rok (by omega) (Nat.le_of_ble_eq_true rfl)) ⟨Nat.zero_le _, Nat.zero_le _⟩ dX8_storms_106 (fun r106 I106 J106 hv => ?_)
        refine a_iast sh_119 hv.1 dX8_storms_109 ?_
        replace hv := hv.2
        exact a_sub [0, 1, 2, 3, 5, 7, 8] rfl hv
      · replace hv := hv.2 hc
        refine a_iload 4 dX8_storms_99 rfl ?_
        refine a_goto 106 dX8_storms_101 rfl ?_
        refine c_VI (As := [.int v1, .int v2, .int v4]) (rest := [.int ((v1 + 64) + v2), .ref (ga g 119)]) hv K_X8_139 sh_118 rfl rfl rfl (Nat.le_of_ble_eq_true rfl) (rok (by omega) (Nat.le_of_ble_eq_true rfl)) ⟨Nat.zero_le _, Nat.zero_le _⟩ dX8_storms_106 (fun r106 I106 J106 hv => ?_)
        refine a_iast sh_119 hv.1 dX8_storms_109 ?_
        replace hv := hv.2
        exact a_sub [0, 1, 2, 3, 5, 7, 8] rfl hv
def VC_X8_storms (g : GT) (d : Nat) (v1 : Int32) (v2 : Int32) (v3 : Int32) (v4 : Int32) (v5 : Int32) (v6 : Int32) (I : IT) (J : JT) (P : IT → JT → Prop) : Prop :=
  (SemZ g (d - 1) M_X8_believesIn [.ref (ga g 118), .int v1, .int v2, .int v3] I J (fun r4 I4 J4 => (SemZ g (d - 1) M_X8_believesIn [.ref (ga g 118), .int v1, .int v2, .int v5] I4 J4 (fun r14 I14 J14 => ((r4 = false → (Lp_X8_storms_71 g d v1 v2 v3 v4 v5 v6 r4 r14 I14 J14 P)) ∧ (r4 = true → ((r14 = false → (Lp_X8_storms_71 g d v1 v2 v3 v4 v5 v6 r4 r14 I14 J14 P)) ∧ (r14 = true → ((v4 = v6 → (Lp_X8_storms_71 g d v1 v2 v3 v4 v5 v6 r4 r14 I14 J14 P)) ∧ (¬ v4 = v6 → (SemV g (d - 1) M_X8_wormed [.ref (ga g 118), .int v1, .int v2] I14 J14 (fun I39 J39 => (SemV g (d - 1) M_X8_credits [.ref (ga g 118), .int v1, .int v3, .int (-1)] I39 J39 (fun I46 J46 => (SemV g (d - 1) M_X8_credits [.ref (ga g 118), .int v1, .int v5, .int (-1)] I46 J46 (fun I54 J54 => (vp_in (v1 + 57) 952 ∧ (vp_in (v1 + 57) 952 ∧ P (sI I54 119 (v1 + 57).toNatClampNeg ((I54 119 (v1 + 57).toNatClampNeg) + 1)) J54))))))))))))))))))
set_option maxRecDepth 4000 in
theorem w_X8_storms {g : GT} {d : Nat} {v1 : Int32} {v2 : Int32} {v3 : Int32} {v4 : Int32} {v5 : Int32} {v6 : Int32} {I : IT} {J : JT} {P : IT → JT → Prop} (hd : 1 ≤ d) (hv : VC_X8_storms g d v1 v2 v3 v4 v5 v6 I J P) : SemV g d M_X8_storms [.ref (ga g 118), .int v1, .int v2, .int v3, .int v4, .int v5, .int v6] I J P := by
  unfold VC_X8_storms at hv
  refine sem_intro (by decide +kernel) rfl (Nat.le_of_ble_eq_true rfl) ?_
  show AW _ 0 0 0 [(0, .ref (ga g 118)), (1, .int v1), (2, .int v2), (3, .int v3), (4, .int v4), (5, .int v5), (6, .int v6)] [] (cW g I J)
  refine a_aload_n 0 dX8_storms_0 rfl rfl ?_
  refine a_iload_n 1 dX8_storms_1 rfl rfl ?_
  refine a_iload_n 2 dX8_storms_2 rfl rfl ?_
  refine a_iload_n 3 dX8_storms_3 rfl rfl ?_
  refine c_VZ (As := [.int v1, .int v2, .int v3]) (rest := []) hv K_X8_136 sh_118 rfl rfl rfl (Nat.le_of_ble_eq_true rfl) (rok (by omega) (Nat.le_of_ble_eq_true rfl)) ⟨Nat.zero_le _, Nat.zero_le _⟩ dX8_storms_4 (fun r4 I4 J4 hv => ?_)
  refine a_istore [(7, .int (bI r4)), (0, .ref (ga g 118)), (1, .int v1), (2, .int v2), (3, .int v3), (4, .int v4), (5, .int v5), (6, .int v6)] dX8_storms_7 (Nat.le_of_ble_eq_true rfl) rfl ?_
  refine a_aload_n 1 dX8_storms_9 rfl rfl ?_
  refine a_iload_n 2 dX8_storms_10 rfl rfl ?_
  refine a_iload_n 3 dX8_storms_11 rfl rfl ?_
  refine a_iload 6 dX8_storms_12 rfl ?_
  refine c_VZ (As := [.int v1, .int v2, .int v5]) (rest := []) hv K_X8_136 sh_118 rfl rfl rfl (Nat.le_of_ble_eq_true rfl) (rok (by omega) (Nat.le_of_ble_eq_true rfl)) ⟨Nat.zero_le _, Nat.zero_le _⟩ dX8_storms_14 (fun r14 I14 J14 hv => ?_)
  refine a_istore [(8, .int (bI r14)), (7, .int (bI r4)), (0, .ref (ga g 118)), (1, .int v1), (2, .int v2), (3, .int v3), (4, .int v4), (5, .int v5), (6, .int v6)] dX8_storms_17 (Nat.le_of_ble_eq_true rfl) rfl ?_
  refine a_iload 1 dX8_storms_19 rfl ?_
  refine a_ifz_eq 71 dX8_storms_21 rfl (fun hc => ?_) (fun hc => ?_)
  · replace hv := hv.1 hc
    exact a_sub [2, 3, 4, 5, 6, 7, 8, 1, 0] rfl hv
  · replace hv := hv.2 hc
    refine a_iload 0 dX8_storms_24 rfl ?_
    refine a_ifz_eq 71 dX8_storms_26 rfl (fun hc => ?_) (fun hc => ?_)
    · replace hv := hv.1 hc
      exact a_sub [2, 3, 4, 5, 6, 7, 8, 1, 0] rfl hv
    · replace hv := hv.2 hc
      refine a_iload 6 dX8_storms_29 rfl ?_
      refine a_iload 8 dX8_storms_31 rfl ?_
      refine a_icmp_eq 71 dX8_storms_33 rfl (fun hc => ?_) (fun hc => ?_)
      · replace hv := hv.1 hc
        exact a_sub [2, 3, 4, 5, 6, 7, 8, 1, 0] rfl hv
      · replace hv := hv.2 hc
        refine a_aload_n 2 dX8_storms_36 rfl rfl ?_
        refine a_iload_n 3 dX8_storms_37 rfl rfl ?_
        refine a_iload_n 4 dX8_storms_38 rfl rfl ?_
        refine c_VV (As := [.int v1, .int v2]) (rest := []) hv K_X8_132 sh_118 rfl rfl rfl (Nat.le_of_ble_eq_true rfl) (rok (by omega) (Nat.le_of_ble_eq_true rfl)) ⟨Nat.zero_le _, Nat.zero_le _⟩ dX8_storms_39 (fun I39 J39 hv => ?_)
        refine a_aload_n 2 dX8_storms_42 rfl rfl ?_
        refine a_iload_n 3 dX8_storms_43 rfl rfl ?_
        refine a_iload_n 5 dX8_storms_44 rfl rfl ?_
        refine a_iconst (v := (-1)) dX8_storms_45 (by decide) ?_
        refine c_VV (As := [.int v1, .int v3, .int (-1)]) (rest := []) hv K_X8_145 sh_118 rfl rfl rfl (Nat.le_of_ble_eq_true rfl) (rok (by omega) (Nat.le_of_ble_eq_true rfl)) ⟨Nat.zero_le _, Nat.zero_le _⟩ dX8_storms_46 (fun I46 J46 hv => ?_)
        refine a_aload_n 2 dX8_storms_49 rfl rfl ?_
        refine a_iload_n 3 dX8_storms_50 rfl rfl ?_
        refine a_iload 7 dX8_storms_51 rfl ?_
        refine a_iconst (v := (-1)) dX8_storms_53 (by decide) ?_
        refine c_VV (As := [.int v1, .int v5, .int (-1)]) (rest := []) hv K_X8_145 sh_118 rfl rfl rfl (Nat.le_of_ble_eq_true rfl) (rok (by omega) (Nat.le_of_ble_eq_true rfl)) ⟨Nat.zero_le _, Nat.zero_le _⟩ dX8_storms_54 (fun I54 J54 hv => ?_)
        refine a_aload_n 2 dX8_storms_57 rfl rfl ?_
        refine a_getR (r := 119) G_X8_7 sh_118 rfl dX8_storms_58 ?_
        refine a_iload_n 3 dX8_storms_61 rfl rfl ?_
        refine a_bipush (v := 57) dX8_storms_62 (by decide) ?_
        refine a_iadd dX8_storms_64 ?_
        refine a_dup2 dX8_storms_65 rfl rfl ?_
        refine a_iald sh_119 hv.1 dX8_storms_66 ?_
        replace hv := hv.2
        refine a_iconst (v := 1) dX8_storms_67 (by decide) ?_
        refine a_iadd dX8_storms_68 ?_
        refine a_iast sh_119 hv.1 dX8_storms_69 ?_
        replace hv := hv.2
        exact a_vret rfl dX8_storms_70 hv
def VC_X8_minds (g : GT) (d : Nat)  (I : IT) (J : JT) (P : IT → JT → Prop) : Prop :=
  ((¬ (I 118 1) = 24 → (SemV g (d - 1) M_X8_bring [.ref (ga g 118), .int 57, .int (400 + (23 * (I 118 1))), .int 23] I J (fun I48 J48 => P (sI I48 118 1 ((I48 118 1) + 1)) J48))) ∧ ((I 118 1) = 24 → (SemV g (d - 1) M_X8_bring [.ref (ga g 118), .int 423, .int 400, .int 529] I J (fun I19 J19 => (SemV g (d - 1) M_X8_bring [.ref (ga g 118), .int 57, .int (400 + (23 * ((sI I19 118 1 ((I19 118 1) - 1)) 118 1))), .int 23] (sI I19 118 1 ((I19 118 1) - 1)) J19 (fun I48 J48 => P (sI I48 118 1 ((I48 118 1) + 1)) J48))))))
set_option maxRecDepth 4000 in
theorem w_X8_minds {g : GT} {d : Nat}  {I : IT} {J : JT} {P : IT → JT → Prop} (hd : 1 ≤ d) (hv : VC_X8_minds g d  I J P) : SemV g d M_X8_minds [.ref (ga g 118)] I J P := by
  unfold VC_X8_minds at hv
  refine sem_intro (by decide +kernel) rfl (Nat.le_of_ble_eq_true rfl) ?_
  show AW _ 0 0 0 [(0, .ref (ga g 118))] [] (cW g I J)
  refine a_aload_n 0 dX8_minds_0 rfl rfl ?_
  refine a_getI G_X8_100 sh_118 rfl dX8_minds_1 ?_
  refine a_bipush (v := 24) dX8_minds_4 (by decide) ?_
  refine a_icmp_ne 32 dX8_minds_6 rfl (fun hc => ?_) (fun hc => ?_)
  · replace hv := hv.1 hc
    refine a_aload_n 0 dX8_minds_32 rfl rfl ?_
    refine a_bipush (v := 57) dX8_minds_33 (by decide) ?_
    refine a_sipush (v := 400) dX8_minds_35 (by decide) ?_
    refine a_bipush (v := 23) dX8_minds_38 (by decide) ?_
    refine a_aload_n 0 dX8_minds_40 rfl rfl ?_
    refine a_getI G_X8_100 sh_118 rfl dX8_minds_41 ?_
    refine a_imul dX8_minds_44 ?_
    refine a_iadd dX8_minds_45 ?_
    refine a_bipush (v := 23) dX8_minds_46 (by decide) ?_
    refine c_VV (As := [.int 57, .int (400 + (23 * (I 118 1))), .int 23]) (rest := []) hv K_X8_96 sh_118 rfl rfl rfl (Nat.le_of_ble_eq_true rfl) (rok (by omega) (Nat.le_of_ble_eq_true rfl)) ⟨Nat.zero_le _, Nat.zero_le _⟩ dX8_minds_48 (fun I48 J48 hv => ?_)
    refine a_aload_n 0 dX8_minds_51 rfl rfl ?_
    refine a_dup dX8_minds_52 rfl ?_
    refine a_getI G_X8_100 sh_118 rfl dX8_minds_53 ?_
    refine a_iconst (v := 1) dX8_minds_56 (by decide) ?_
    refine a_iadd dX8_minds_57 ?_
    refine a_putI H_X8_100 sh_118 rfl rfl rfl dX8_minds_58 ?_
    exact a_vret rfl dX8_minds_61 hv
  · replace hv := hv.2 hc
    refine a_aload_n 0 dX8_minds_9 rfl rfl ?_
    refine a_sipush (v := 423) dX8_minds_10 (by decide) ?_
    refine a_sipush (v := 400) dX8_minds_13 (by decide) ?_
    refine a_sipush (v := 529) dX8_minds_16 (by decide) ?_
    refine c_VV (As := [.int 423, .int 400, .int 529]) (rest := []) hv K_X8_96 sh_118 rfl rfl rfl (Nat.le_of_ble_eq_true rfl) (rok (by omega) (Nat.le_of_ble_eq_true rfl)) ⟨Nat.zero_le _, Nat.zero_le _⟩ dX8_minds_19 (fun I19 J19 hv => ?_)
    refine a_aload_n 0 dX8_minds_22 rfl rfl ?_
    refine a_dup dX8_minds_23 rfl ?_
    refine a_getI G_X8_100 sh_118 rfl dX8_minds_24 ?_
    refine a_iconst (v := 1) dX8_minds_27 (by decide) ?_
    refine a_isub dX8_minds_28 ?_
    refine a_putI H_X8_100 sh_118 rfl rfl rfl dX8_minds_29 ?_
    refine a_aload_n 0 dX8_minds_32 rfl rfl ?_
    refine a_bipush (v := 57) dX8_minds_33 (by decide) ?_
    refine a_sipush (v := 400) dX8_minds_35 (by decide) ?_
    refine a_bipush (v := 23) dX8_minds_38 (by decide) ?_
    refine a_aload_n 0 dX8_minds_40 rfl rfl ?_
    refine a_getI G_X8_100 sh_118 rfl dX8_minds_41 ?_
    refine a_imul dX8_minds_44 ?_
    refine a_iadd dX8_minds_45 ?_
    refine a_bipush (v := 23) dX8_minds_46 (by decide) ?_
    refine c_VV (As := [.int 57, .int (400 + (23 * ((sI I19 118 1 ((I19 118 1) - 1)) 118 1))), .int 23]) (rest := []) hv K_X8_96 sh_118 rfl rfl rfl (Nat.le_of_ble_eq_true rfl) (rok (by omega) (Nat.le_of_ble_eq_true rfl)) ⟨Nat.zero_le _, Nat.zero_le _⟩ dX8_minds_48 (fun I48 J48 hv => ?_)
    refine a_aload_n 0 dX8_minds_51 rfl rfl ?_
    refine a_dup dX8_minds_52 rfl ?_
    refine a_getI G_X8_100 sh_118 rfl dX8_minds_53 ?_
    refine a_iconst (v := 1) dX8_minds_56 (by decide) ?_
    refine a_iadd dX8_minds_57 ?_
    refine a_putI H_X8_100 sh_118 rfl rfl rfl dX8_minds_58 ?_
    exact a_vret rfl dX8_minds_61 hv
def VC_X8_isWord (g : GT) (d : Nat) (y0 : Int64) (I : IT) (J : JT) (P : Bool → IT → JT → Prop) : Prop :=
  (SemZ g (d - 1) M_X8_in [.long y0, .long 0, .long 2] I J (fun r5 I5 J5 => P r5 I5 J5))
set_option maxRecDepth 4000 in
theorem w_X8_isWord {g : GT} {d : Nat} {y0 : Int64} {I : IT} {J : JT} {P : Bool → IT → JT → Prop} (hd : 1 ≤ d) (hv : VC_X8_isWord g d y0 I J P) : SemZ g d M_X8_isWord [.long y0] I J P := by
  unfold VC_X8_isWord at hv
  refine sem_intro (by decide +kernel) rfl (Nat.le_of_ble_eq_true rfl) ?_
  show AW _ 0 0 0 [(0, .long y0)] [] (cW g I J)
  refine a_lload_n 0 dX8_isWord_0 rfl rfl ?_
  refine a_lconst (v := 0) dX8_isWord_1 (by decide) ?_
  refine a_ldc2 (v := 2) dX8_isWord_2 cl_X8_148 ?_
  refine c_SZ (As := [.long y0, .long 0, .long 2]) (rest := []) hv K_X8_44 rfl rfl (Nat.le_of_ble_eq_true rfl) (rok (by omega) (Nat.le_of_ble_eq_true rfl)) ⟨Nat.zero_le _, Nat.zero_le _⟩ dX8_isWord_5 (fun r5 I5 J5 hv => ?_)
  exact a_zret _ r5 rfl rfl dX8_isWord_8 hv
def VC_X8_say (g : GT) (d : Nat) (v1 : Int32) (v2 : Int32) (v3 : Int32) (I : IT) (J : JT) (P : Int32 → IT → JT → Prop) : Prop :=
  (SemZ g (d - 1) M_X8_isShip [.ref (ga g 118), .int v1] I J (fun r2 I2 J2 => ((r2 = false → P (-1) I2 J2) ∧ (r2 = true → (SemZ g (d - 1) M_X8_isTeller [.int v2] I2 J2 (fun r9 I9 J9 => ((r9 = false → P (-1) I9 J9) ∧ (r9 = true → (SemZ g (d - 1) M_X8_isWord [.long (v3.toInt64)] I9 J9 (fun r17 I17 J17 => ((r17 = true → ((¬ (I17 119 57) = 9999 → (SemV g (d - 1) M_X8_minds [.ref (ga g 118)] I17 J17 (fun I42 J42 => (SemV g (d - 1) M_X8_says [.ref (ga g 118), .int 0, .int v1, .int v2, .int v3] I42 J42 (fun I50 J50 => (vp_in (58 + v1) 952 ∧ P (I50 119 (58 + v1).toNatClampNeg) I50 J50)))))) ∧ ((I17 119 57) = 9999 → P (-3) I17 J17))) ∧ (r17 = false → P (-1) I17 J17))))))))))))
set_option maxRecDepth 4000 in
theorem w_X8_say {g : GT} {d : Nat} {v1 : Int32} {v2 : Int32} {v3 : Int32} {I : IT} {J : JT} {P : Int32 → IT → JT → Prop} (hd : 1 ≤ d) (hv : VC_X8_say g d v1 v2 v3 I J P) : SemI g d M_X8_say [.ref (ga g 118), .int v1, .int v2, .int v3] I J P := by
  unfold VC_X8_say at hv
  refine sem_intro (by decide +kernel) rfl (Nat.le_of_ble_eq_true rfl) ?_
  show AW _ 0 0 0 [(0, .ref (ga g 118)), (1, .int v1), (2, .int v2), (3, .int v3)] [] (cW g I J)
  refine a_aload_n 0 dX8_say_0 rfl rfl ?_
  refine a_iload_n 1 dX8_say_1 rfl rfl ?_
  refine c_VZ (As := [.int v1]) (rest := []) hv K_X8_103 sh_118 rfl rfl rfl (Nat.le_of_ble_eq_true rfl) (rok (by omega) (Nat.le_of_ble_eq_true rfl)) ⟨Nat.zero_le _, Nat.zero_le _⟩ dX8_say_2 (fun r2 I2 J2 hv => ?_)
  refine a_ifz_eq 23 dX8_say_5 rfl (fun hc => ?_) (fun hc => ?_)
  · replace hv := hv.1 hc
    refine a_iconst (v := (-1)) dX8_say_23 (by decide) ?_
    exact a_iret rfl dX8_say_24 hv
  · replace hv := hv.2 hc
    refine a_iload_n 2 dX8_say_8 rfl rfl ?_
    refine c_SZ (As := [.int v2]) (rest := []) hv K_X8_118 rfl rfl (Nat.le_of_ble_eq_true rfl) (rok (by omega) (Nat.le_of_ble_eq_true rfl)) ⟨Nat.zero_le _, Nat.zero_le _⟩ dX8_say_9 (fun r9 I9 J9 hv => ?_)
    refine a_ifz_eq 23 dX8_say_12 rfl (fun hc => ?_) (fun hc => ?_)
    · replace hv := hv.1 hc
      refine a_iconst (v := (-1)) dX8_say_23 (by decide) ?_
      exact a_iret rfl dX8_say_24 hv
    · replace hv := hv.2 hc
      refine a_iload_n 3 dX8_say_15 rfl rfl ?_
      refine a_i2l dX8_say_16 ?_
      refine c_SZ (As := [.long (v3.toInt64)]) (rest := []) hv K_X8_150 rfl rfl (Nat.le_of_ble_eq_true rfl) (rok (by omega) (Nat.le_of_ble_eq_true rfl)) ⟨Nat.zero_le _, Nat.zero_le _⟩ dX8_say_17 (fun r17 I17 J17 hv => ?_)
      refine a_ifz_ne 25 dX8_say_20 rfl (fun hc => ?_) (fun hc => ?_)
      · replace hv := hv.1 hc
        refine a_aload_n 0 dX8_say_25 rfl rfl ?_
        refine a_getR (r := 119) G_X8_7 sh_118 rfl dX8_say_26 ?_
        refine a_bipush (v := 57) dX8_say_29 (by decide) ?_
        refine a_iald sh_119 (by unfold vp_in; decide) dX8_say_31 ?_
        refine a_sipush (v := 9999) dX8_say_32 (by decide) ?_
        refine a_icmp_ne 41 dX8_say_35 rfl (fun hc => ?_) (fun hc => ?_)
        · replace hv := hv.1 hc
          refine a_aload_n 0 dX8_say_41 rfl rfl ?_
          refine c_VV (As := []) (rest := []) hv K_X8_154 sh_118 rfl rfl rfl (Nat.le_of_ble_eq_true rfl) (rok (by omega) (Nat.le_of_ble_eq_true rfl)) ⟨Nat.zero_le _, Nat.zero_le _⟩ dX8_say_42 (fun I42 J42 hv => ?_)
          refine a_aload_n 0 dX8_say_45 rfl rfl ?_
          refine a_iconst (v := 0) dX8_say_46 (by decide) ?_
          refine a_iload_n 1 dX8_say_47 rfl rfl ?_
          refine a_iload_n 2 dX8_say_48 rfl rfl ?_
          refine a_iload_n 3 dX8_say_49 rfl rfl ?_
          refine c_VV (As := [.int 0, .int v1, .int v2, .int v3]) (rest := []) hv K_X8_157 sh_118 rfl rfl rfl (Nat.le_of_ble_eq_true rfl) (rok (by omega) (Nat.le_of_ble_eq_true rfl)) ⟨Nat.zero_le _, Nat.zero_le _⟩ dX8_say_50 (fun I50 J50 hv => ?_)
          refine a_aload_n 0 dX8_say_53 rfl rfl ?_
          refine a_getR (r := 119) G_X8_7 sh_118 rfl dX8_say_54 ?_
          refine a_bipush (v := 58) dX8_say_57 (by decide) ?_
          refine a_iload_n 1 dX8_say_59 rfl rfl ?_
          refine a_iadd dX8_say_60 ?_
          refine a_iald sh_119 hv.1 dX8_say_61 ?_
          replace hv := hv.2
          exact a_iret rfl dX8_say_62 hv
        · replace hv := hv.2 hc
          refine a_bipush (v := (-3)) dX8_say_38 (by decide) ?_
          exact a_iret rfl dX8_say_40 hv
      · replace hv := hv.2 hc
        refine a_iconst (v := (-1)) dX8_say_23 (by decide) ?_
        exact a_iret rfl dX8_say_24 hv
def VC_X8_storm (g : GT) (d : Nat) (v1 : Int32) (v2 : Int32) (v3 : Int32) (v4 : Int32) (v5 : Int32) (I : IT) (J : JT) (P : Int32 → IT → JT → Prop) : Prop :=
  (SemZ g (d - 1) M_X8_isShip [.ref (ga g 118), .int v1] I J (fun r2 I2 J2 => ((r2 = false → P (-1) I2 J2) ∧ (r2 = true → (SemZ g (d - 1) M_X8_isTeller [.int v2] I2 J2 (fun r9 I9 J9 => ((r9 = false → P (-1) I9 J9) ∧ (r9 = true → (SemZ g (d - 1) M_X8_isWord [.long (v3.toInt64)] I9 J9 (fun r17 I17 J17 => ((r17 = false → P (-1) I17 J17) ∧ (r17 = true → (SemZ g (d - 1) M_X8_isTeller [.int v4] I17 J17 (fun r25 I25 J25 => ((r25 = false → P (-1) I25 J25) ∧ (r25 = true → (SemZ g (d - 1) M_X8_isWord [.long (v5.toInt64)] I25 J25 (fun r34 I34 J34 => ((r34 = false → P (-1) I34 J34) ∧ (r34 = true → ((¬ v2 = v4 → ((¬ (I34 119 57) = 9999 → (SemV g (d - 1) M_X8_minds [.ref (ga g 118)] I34 J34 (fun I65 J65 => (SemV g (d - 1) M_X8_storms [.ref (ga g 118), .int 0, .int v1, .int v2, .int v3, .int v4, .int v5] I65 J65 (fun I77 J77 => (vp_in (58 + v1) 952 ∧ P (I77 119 (58 + v1).toNatClampNeg) I77 J77)))))) ∧ ((I34 119 57) = 9999 → P (-3) I34 J34))) ∧ (v2 = v4 → P (-1) I34 J34))))))))))))))))))))))
set_option maxRecDepth 4000 in
theorem w_X8_storm {g : GT} {d : Nat} {v1 : Int32} {v2 : Int32} {v3 : Int32} {v4 : Int32} {v5 : Int32} {I : IT} {J : JT} {P : Int32 → IT → JT → Prop} (hd : 1 ≤ d) (hv : VC_X8_storm g d v1 v2 v3 v4 v5 I J P) : SemI g d M_X8_storm [.ref (ga g 118), .int v1, .int v2, .int v3, .int v4, .int v5] I J P := by
  unfold VC_X8_storm at hv
  refine sem_intro (by decide +kernel) rfl (Nat.le_of_ble_eq_true rfl) ?_
  show AW _ 0 0 0 [(0, .ref (ga g 118)), (1, .int v1), (2, .int v2), (3, .int v3), (4, .int v4), (5, .int v5)] [] (cW g I J)
  refine a_aload_n 0 dX8_storm_0 rfl rfl ?_
  refine a_iload_n 1 dX8_storm_1 rfl rfl ?_
  refine c_VZ (As := [.int v1]) (rest := []) hv K_X8_103 sh_118 rfl rfl rfl (Nat.le_of_ble_eq_true rfl) (rok (by omega) (Nat.le_of_ble_eq_true rfl)) ⟨Nat.zero_le _, Nat.zero_le _⟩ dX8_storm_2 (fun r2 I2 J2 hv => ?_)
  refine a_ifz_eq 46 dX8_storm_5 rfl (fun hc => ?_) (fun hc => ?_)
  · replace hv := hv.1 hc
    refine a_iconst (v := (-1)) dX8_storm_46 (by decide) ?_
    exact a_iret rfl dX8_storm_47 hv
  · replace hv := hv.2 hc
    refine a_iload_n 2 dX8_storm_8 rfl rfl ?_
    refine c_SZ (As := [.int v2]) (rest := []) hv K_X8_118 rfl rfl (Nat.le_of_ble_eq_true rfl) (rok (by omega) (Nat.le_of_ble_eq_true rfl)) ⟨Nat.zero_le _, Nat.zero_le _⟩ dX8_storm_9 (fun r9 I9 J9 hv => ?_)
    refine a_ifz_eq 46 dX8_storm_12 rfl (fun hc => ?_) (fun hc => ?_)
    · replace hv := hv.1 hc
      refine a_iconst (v := (-1)) dX8_storm_46 (by decide) ?_
      exact a_iret rfl dX8_storm_47 hv
    · replace hv := hv.2 hc
      refine a_iload_n 3 dX8_storm_15 rfl rfl ?_
      refine a_i2l dX8_storm_16 ?_
      refine c_SZ (As := [.long (v3.toInt64)]) (rest := []) hv K_X8_150 rfl rfl (Nat.le_of_ble_eq_true rfl) (rok (by omega) (Nat.le_of_ble_eq_true rfl)) ⟨Nat.zero_le _, Nat.zero_le _⟩ dX8_storm_17 (fun r17 I17 J17 hv => ?_)
      refine a_ifz_eq 46 dX8_storm_20 rfl (fun hc => ?_) (fun hc => ?_)
      · replace hv := hv.1 hc
        refine a_iconst (v := (-1)) dX8_storm_46 (by decide) ?_
        exact a_iret rfl dX8_storm_47 hv
      · replace hv := hv.2 hc
        refine a_iload 4 dX8_storm_23 rfl ?_
        refine c_SZ (As := [.int v4]) (rest := []) hv K_X8_118 rfl rfl (Nat.le_of_ble_eq_true rfl) (rok (by omega) (Nat.le_of_ble_eq_true rfl)) ⟨Nat.zero_le _, Nat.zero_le _⟩ dX8_storm_25 (fun r25 I25 J25 hv => ?_)
        refine a_ifz_eq 46 dX8_storm_28 rfl (fun hc => ?_) (fun hc => ?_)
        · replace hv := hv.1 hc
          refine a_iconst (v := (-1)) dX8_storm_46 (by decide) ?_
          exact a_iret rfl dX8_storm_47 hv
        · replace hv := hv.2 hc
          refine a_iload 5 dX8_storm_31 rfl ?_
          refine a_i2l dX8_storm_33 ?_
          refine c_SZ (As := [.long (v5.toInt64)]) (rest := []) hv K_X8_150 rfl rfl (Nat.le_of_ble_eq_true rfl) (rok (by omega) (Nat.le_of_ble_eq_true rfl)) ⟨Nat.zero_le _, Nat.zero_le _⟩ dX8_storm_34 (fun r34 I34 J34 hv => ?_)
          refine a_ifz_eq 46 dX8_storm_37 rfl (fun hc => ?_) (fun hc => ?_)
          · replace hv := hv.1 hc
            refine a_iconst (v := (-1)) dX8_storm_46 (by decide) ?_
            exact a_iret rfl dX8_storm_47 hv
          · replace hv := hv.2 hc
            refine a_iload_n 2 dX8_storm_40 rfl rfl ?_
            refine a_iload 4 dX8_storm_41 rfl ?_
            refine a_icmp_ne 48 dX8_storm_43 rfl (fun hc => ?_) (fun hc => ?_)
            · replace hv := hv.1 hc
              refine a_aload_n 0 dX8_storm_48 rfl rfl ?_
              refine a_getR (r := 119) G_X8_7 sh_118 rfl dX8_storm_49 ?_
              refine a_bipush (v := 57) dX8_storm_52 (by decide) ?_
              refine a_iald sh_119 (by unfold vp_in; decide) dX8_storm_54 ?_
              refine a_sipush (v := 9999) dX8_storm_55 (by decide) ?_
              refine a_icmp_ne 64 dX8_storm_58 rfl (fun hc => ?_) (fun hc => ?_)
              · replace hv := hv.1 hc
                refine a_aload_n 0 dX8_storm_64 rfl rfl ?_
                refine c_VV (As := []) (rest := []) hv K_X8_154 sh_118 rfl rfl rfl (Nat.le_of_ble_eq_true rfl) (rok (by omega) (Nat.le_of_ble_eq_true rfl)) ⟨Nat.zero_le _, Nat.zero_le _⟩ dX8_storm_65 (fun I65 J65 hv => ?_)
                refine a_aload_n 0 dX8_storm_68 rfl rfl ?_
                refine a_iconst (v := 0) dX8_storm_69 (by decide) ?_
                refine a_iload_n 1 dX8_storm_70 rfl rfl ?_
                refine a_iload_n 2 dX8_storm_71 rfl rfl ?_
                refine a_iload_n 3 dX8_storm_72 rfl rfl ?_
                refine a_iload 4 dX8_storm_73 rfl ?_
                refine a_iload 5 dX8_storm_75 rfl ?_
                refine c_VV (As := [.int 0, .int v1, .int v2, .int v3, .int v4, .int v5]) (rest := []) hv K_X8_161 sh_118 rfl rfl rfl (Nat.le_of_ble_eq_true rfl) (rok (by omega) (Nat.le_of_ble_eq_true rfl)) ⟨Nat.zero_le _, Nat.zero_le _⟩ dX8_storm_77 (fun I77 J77 hv => ?_)
                refine a_aload_n 0 dX8_storm_80 rfl rfl ?_
                refine a_getR (r := 119) G_X8_7 sh_118 rfl dX8_storm_81 ?_
                refine a_bipush (v := 58) dX8_storm_84 (by decide) ?_
                refine a_iload_n 1 dX8_storm_86 rfl rfl ?_
                refine a_iadd dX8_storm_87 ?_
                refine a_iald sh_119 hv.1 dX8_storm_88 ?_
                replace hv := hv.2
                exact a_iret rfl dX8_storm_89 hv
              · replace hv := hv.2 hc
                refine a_bipush (v := (-3)) dX8_storm_61 (by decide) ?_
                exact a_iret rfl dX8_storm_63 hv
            · replace hv := hv.2 hc
              refine a_iconst (v := (-1)) dX8_storm_46 (by decide) ?_
              exact a_iret rfl dX8_storm_47 hv
def VC_X8_drift (g : GT) (d : Nat) (v1 : Int32) (I : IT) (J : JT) (P : Int32 → IT → JT → Prop) : Prop :=
  (SemZ g (d - 1) M_X8_isShip [.ref (ga g 118), .int v1] I J (fun r2 I2 J2 => ((r2 = true → ((¬ (I2 119 57) = 9999 → (SemV g (d - 1) M_X8_minds [.ref (ga g 118)] I2 J2 (fun I27 J27 => (SemZ g (d - 1) M_X8_goes [.ref (ga g 118), .int 0, .int v1] I27 J27 (fun r33 I33 J33 => (vp_in (58 + v1) 952 ∧ P (I33 119 (58 + v1).toNatClampNeg) I33 J33)))))) ∧ ((I2 119 57) = 9999 → P (-3) I2 J2))) ∧ (r2 = false → P (-1) I2 J2))))
set_option maxRecDepth 4000 in
theorem w_X8_drift {g : GT} {d : Nat} {v1 : Int32} {I : IT} {J : JT} {P : Int32 → IT → JT → Prop} (hd : 1 ≤ d) (hv : VC_X8_drift g d v1 I J P) : SemI g d M_X8_drift [.ref (ga g 118), .int v1] I J P := by
  unfold VC_X8_drift at hv
  refine sem_intro (by decide +kernel) rfl (Nat.le_of_ble_eq_true rfl) ?_
  show AW _ 0 0 0 [(0, .ref (ga g 118)), (1, .int v1)] [] (cW g I J)
  refine a_aload_n 0 dX8_drift_0 rfl rfl ?_
  refine a_iload_n 1 dX8_drift_1 rfl rfl ?_
  refine c_VZ (As := [.int v1]) (rest := []) hv K_X8_103 sh_118 rfl rfl rfl (Nat.le_of_ble_eq_true rfl) (rok (by omega) (Nat.le_of_ble_eq_true rfl)) ⟨Nat.zero_le _, Nat.zero_le _⟩ dX8_drift_2 (fun r2 I2 J2 hv => ?_)
  refine a_ifz_ne 10 dX8_drift_5 rfl (fun hc => ?_) (fun hc => ?_)
  · replace hv := hv.1 hc
    refine a_aload_n 0 dX8_drift_10 rfl rfl ?_
    refine a_getR (r := 119) G_X8_7 sh_118 rfl dX8_drift_11 ?_
    refine a_bipush (v := 57) dX8_drift_14 (by decide) ?_
    refine a_iald sh_119 (by unfold vp_in; decide) dX8_drift_16 ?_
    refine a_sipush (v := 9999) dX8_drift_17 (by decide) ?_
    refine a_icmp_ne 26 dX8_drift_20 rfl (fun hc => ?_) (fun hc => ?_)
    · replace hv := hv.1 hc
      refine a_aload_n 0 dX8_drift_26 rfl rfl ?_
      refine c_VV (As := []) (rest := []) hv K_X8_154 sh_118 rfl rfl rfl (Nat.le_of_ble_eq_true rfl) (rok (by omega) (Nat.le_of_ble_eq_true rfl)) ⟨Nat.zero_le _, Nat.zero_le _⟩ dX8_drift_27 (fun I27 J27 hv => ?_)
      refine a_aload_n 0 dX8_drift_30 rfl rfl ?_
      refine a_iconst (v := 0) dX8_drift_31 (by decide) ?_
      refine a_iload_n 1 dX8_drift_32 rfl rfl ?_
      refine c_VZ (As := [.int 0, .int v1]) (rest := []) hv K_X8_142 sh_118 rfl rfl rfl (Nat.le_of_ble_eq_true rfl) (rok (by omega) (Nat.le_of_ble_eq_true rfl)) ⟨Nat.zero_le _, Nat.zero_le _⟩ dX8_drift_33 (fun r33 I33 J33 hv => ?_)
      refine a_pop dX8_drift_36 rfl ?_
      refine a_aload_n 0 dX8_drift_37 rfl rfl ?_
      refine a_getR (r := 119) G_X8_7 sh_118 rfl dX8_drift_38 ?_
      refine a_bipush (v := 58) dX8_drift_41 (by decide) ?_
      refine a_iload_n 1 dX8_drift_43 rfl rfl ?_
      refine a_iadd dX8_drift_44 ?_
      refine a_iald sh_119 hv.1 dX8_drift_45 ?_
      replace hv := hv.2
      exact a_iret rfl dX8_drift_46 hv
    · replace hv := hv.2 hc
      refine a_bipush (v := (-3)) dX8_drift_23 (by decide) ?_
      exact a_iret rfl dX8_drift_25 hv
  · replace hv := hv.2 hc
    refine a_iconst (v := (-1)) dX8_drift_8 (by decide) ?_
    exact a_iret rfl dX8_drift_9 hv
def VC_X8_scrape (g : GT) (d : Nat) (v1 : Int32) (I : IT) (J : JT) (P : Int32 → IT → JT → Prop) : Prop :=
  (SemZ g (d - 1) M_X8_isShip [.ref (ga g 118), .int v1] I J (fun r2 I2 J2 => ((r2 = true → (vp_in (70 + v1) 952 ∧ ((¬ (I2 119 (70 + v1).toNatClampNeg) = 0 → (SemV g (d - 1) M_X8_minds [.ref (ga g 118)] I2 J2 (fun I26 J26 => (vp_in (70 + v1) 952 ∧ (vp_in (70 + v1) 952 ∧ (vp_in (70 + v1) 952 ∧ P ((sI I26 119 (70 + v1).toNatClampNeg ((I26 119 (70 + v1).toNatClampNeg) - 1)) 119 (70 + v1).toNatClampNeg) (sI I26 119 (70 + v1).toNatClampNeg ((I26 119 (70 + v1).toNatClampNeg) - 1)) J26)))))) ∧ ((I2 119 (70 + v1).toNatClampNeg) = 0 → P (-2) I2 J2)))) ∧ (r2 = false → P (-1) I2 J2))))
set_option maxRecDepth 4000 in
theorem w_X8_scrape {g : GT} {d : Nat} {v1 : Int32} {I : IT} {J : JT} {P : Int32 → IT → JT → Prop} (hd : 1 ≤ d) (hv : VC_X8_scrape g d v1 I J P) : SemI g d M_X8_scrape [.ref (ga g 118), .int v1] I J P := by
  unfold VC_X8_scrape at hv
  refine sem_intro (by decide +kernel) rfl (Nat.le_of_ble_eq_true rfl) ?_
  show AW _ 0 0 0 [(0, .ref (ga g 118)), (1, .int v1)] [] (cW g I J)
  refine a_aload_n 0 dX8_scrape_0 rfl rfl ?_
  refine a_iload_n 1 dX8_scrape_1 rfl rfl ?_
  refine c_VZ (As := [.int v1]) (rest := []) hv K_X8_103 sh_118 rfl rfl rfl (Nat.le_of_ble_eq_true rfl) (rok (by omega) (Nat.le_of_ble_eq_true rfl)) ⟨Nat.zero_le _, Nat.zero_le _⟩ dX8_scrape_2 (fun r2 I2 J2 hv => ?_)
  refine a_ifz_ne 10 dX8_scrape_5 rfl (fun hc => ?_) (fun hc => ?_)
  · replace hv := hv.1 hc
    refine a_aload_n 0 dX8_scrape_10 rfl rfl ?_
    refine a_getR (r := 119) G_X8_7 sh_118 rfl dX8_scrape_11 ?_
    refine a_bipush (v := 70) dX8_scrape_14 (by decide) ?_
    refine a_iload_n 1 dX8_scrape_16 rfl rfl ?_
    refine a_iadd dX8_scrape_17 ?_
    refine a_iald sh_119 hv.1 dX8_scrape_18 ?_
    replace hv := hv.2
    refine a_if_ne 25 dX8_scrape_19 rfl (fun hc => ?_) (fun hc => ?_)
    · replace hv := hv.1 hc
      refine a_aload_n 0 dX8_scrape_25 rfl rfl ?_
      refine c_VV (As := []) (rest := []) hv K_X8_154 sh_118 rfl rfl rfl (Nat.le_of_ble_eq_true rfl) (rok (by omega) (Nat.le_of_ble_eq_true rfl)) ⟨Nat.zero_le _, Nat.zero_le _⟩ dX8_scrape_26 (fun I26 J26 hv => ?_)
      refine a_aload_n 0 dX8_scrape_29 rfl rfl ?_
      refine a_getR (r := 119) G_X8_7 sh_118 rfl dX8_scrape_30 ?_
      refine a_bipush (v := 70) dX8_scrape_33 (by decide) ?_
      refine a_iload_n 1 dX8_scrape_35 rfl rfl ?_
      refine a_iadd dX8_scrape_36 ?_
      refine a_dup2 dX8_scrape_37 rfl rfl ?_
      refine a_iald sh_119 hv.1 dX8_scrape_38 ?_
      replace hv := hv.2
      refine a_iconst (v := 1) dX8_scrape_39 (by decide) ?_
      refine a_isub dX8_scrape_40 ?_
      refine a_iast sh_119 hv.1 dX8_scrape_41 ?_
      replace hv := hv.2
      refine a_aload_n 0 dX8_scrape_42 rfl rfl ?_
      refine a_getR (r := 119) G_X8_7 sh_118 rfl dX8_scrape_43 ?_
      refine a_bipush (v := 70) dX8_scrape_46 (by decide) ?_
      refine a_iload_n 1 dX8_scrape_48 rfl rfl ?_
      refine a_iadd dX8_scrape_49 ?_
      refine a_iald sh_119 hv.1 dX8_scrape_50 ?_
      replace hv := hv.2
      exact a_iret rfl dX8_scrape_51 hv
    · replace hv := hv.2 hc
      refine a_bipush (v := (-2)) dX8_scrape_22 (by decide) ?_
      exact a_iret rfl dX8_scrape_24 hv
  · replace hv := hv.2 hc
    refine a_iconst (v := (-1)) dX8_scrape_8 (by decide) ?_
    exact a_iret rfl dX8_scrape_9 hv
def VC_X8_learn (g : GT) (d : Nat) (v1 : Int32) (I : IT) (J : JT) (P : Int32 → IT → JT → Prop) : Prop :=
  (SemZ g (d - 1) M_X8_isFleet [.ref (ga g 118)] I J (fun r1 I1 J1 => ((r1 = false → P (-1) I1 J1) ∧ (r1 = true → (SemZ g (d - 1) M_X8_isTeller [.int v1] I1 J1 (fun r8 I8 J8 => ((r8 = true → (vp_in (76 + v1) 952 ∧ ((¬ (I8 119 (76 + v1).toNatClampNeg) = 9 → (SemV g (d - 1) M_X8_minds [.ref (ga g 118)] I8 J8 (fun I34 J34 => (vp_in (76 + v1) 952 ∧ (vp_in (76 + v1) 952 ∧ (vp_in (76 + v1) 952 ∧ P ((sI I34 119 (76 + v1).toNatClampNeg ((I34 119 (76 + v1).toNatClampNeg) + 1)) 119 (76 + v1).toNatClampNeg) (sI I34 119 (76 + v1).toNatClampNeg ((I34 119 (76 + v1).toNatClampNeg) + 1)) J34)))))) ∧ ((I8 119 (76 + v1).toNatClampNeg) = 9 → P (-2) I8 J8)))) ∧ (r8 = false → P (-1) I8 J8))))))))
set_option maxRecDepth 4000 in
theorem w_X8_learn {g : GT} {d : Nat} {v1 : Int32} {I : IT} {J : JT} {P : Int32 → IT → JT → Prop} (hd : 1 ≤ d) (hv : VC_X8_learn g d v1 I J P) : SemI g d M_X8_learn [.ref (ga g 118), .int v1] I J P := by
  unfold VC_X8_learn at hv
  refine sem_intro (by decide +kernel) rfl (Nat.le_of_ble_eq_true rfl) ?_
  show AW _ 0 0 0 [(0, .ref (ga g 118)), (1, .int v1)] [] (cW g I J)
  refine a_aload_n 0 dX8_learn_0 rfl rfl ?_
  refine c_VZ (As := []) (rest := []) hv K_X8_115 sh_118 rfl rfl rfl (Nat.le_of_ble_eq_true rfl) (rok (by omega) (Nat.le_of_ble_eq_true rfl)) ⟨Nat.zero_le _, Nat.zero_le _⟩ dX8_learn_1 (fun r1 I1 J1 hv => ?_)
  refine a_ifz_eq 14 dX8_learn_4 rfl (fun hc => ?_) (fun hc => ?_)
  · replace hv := hv.1 hc
    refine a_iconst (v := (-1)) dX8_learn_14 (by decide) ?_
    exact a_iret rfl dX8_learn_15 hv
  · replace hv := hv.2 hc
    refine a_iload_n 1 dX8_learn_7 rfl rfl ?_
    refine c_SZ (As := [.int v1]) (rest := []) hv K_X8_118 rfl rfl (Nat.le_of_ble_eq_true rfl) (rok (by omega) (Nat.le_of_ble_eq_true rfl)) ⟨Nat.zero_le _, Nat.zero_le _⟩ dX8_learn_8 (fun r8 I8 J8 hv => ?_)
    refine a_ifz_ne 16 dX8_learn_11 rfl (fun hc => ?_) (fun hc => ?_)
    · replace hv := hv.1 hc
      refine a_aload_n 0 dX8_learn_16 rfl rfl ?_
      refine a_getR (r := 119) G_X8_7 sh_118 rfl dX8_learn_17 ?_
      refine a_bipush (v := 76) dX8_learn_20 (by decide) ?_
      refine a_iload_n 1 dX8_learn_22 rfl rfl ?_
      refine a_iadd dX8_learn_23 ?_
      refine a_iald sh_119 hv.1 dX8_learn_24 ?_
      replace hv := hv.2
      refine a_bipush (v := 9) dX8_learn_25 (by decide) ?_
      refine a_icmp_ne 33 dX8_learn_27 rfl (fun hc => ?_) (fun hc => ?_)
      · replace hv := hv.1 hc
        refine a_aload_n 0 dX8_learn_33 rfl rfl ?_
        refine c_VV (As := []) (rest := []) hv K_X8_154 sh_118 rfl rfl rfl (Nat.le_of_ble_eq_true rfl) (rok (by omega) (Nat.le_of_ble_eq_true rfl)) ⟨Nat.zero_le _, Nat.zero_le _⟩ dX8_learn_34 (fun I34 J34 hv => ?_)
        refine a_aload_n 0 dX8_learn_37 rfl rfl ?_
        refine a_getR (r := 119) G_X8_7 sh_118 rfl dX8_learn_38 ?_
        refine a_bipush (v := 76) dX8_learn_41 (by decide) ?_
        refine a_iload_n 1 dX8_learn_43 rfl rfl ?_
        refine a_iadd dX8_learn_44 ?_
        refine a_dup2 dX8_learn_45 rfl rfl ?_
        refine a_iald sh_119 hv.1 dX8_learn_46 ?_
        replace hv := hv.2
        refine a_iconst (v := 1) dX8_learn_47 (by decide) ?_
        refine a_iadd dX8_learn_48 ?_
        refine a_iast sh_119 hv.1 dX8_learn_49 ?_
        replace hv := hv.2
        refine a_aload_n 0 dX8_learn_50 rfl rfl ?_
        refine a_getR (r := 119) G_X8_7 sh_118 rfl dX8_learn_51 ?_
        refine a_bipush (v := 76) dX8_learn_54 (by decide) ?_
        refine a_iload_n 1 dX8_learn_56 rfl rfl ?_
        refine a_iadd dX8_learn_57 ?_
        refine a_iald sh_119 hv.1 dX8_learn_58 ?_
        replace hv := hv.2
        exact a_iret rfl dX8_learn_59 hv
      · replace hv := hv.2 hc
        refine a_bipush (v := (-2)) dX8_learn_30 (by decide) ?_
        exact a_iret rfl dX8_learn_32 hv
    · replace hv := hv.2 hc
      refine a_iconst (v := (-1)) dX8_learn_14 (by decide) ?_
      exact a_iret rfl dX8_learn_15 hv
def VC_X8_undo (g : GT) (d : Nat)  (I : IT) (J : JT) (P : Int32 → IT → JT → Prop) : Prop :=
  ((¬ (I 118 1) = 0 → (SemV g (d - 1) M_X8_bring [.ref (ga g 118), .int (400 + (23 * ((sI I 118 1 ((I 118 1) - 1)) 118 1))), .int 57, .int 23] (sI I 118 1 ((I 118 1) - 1)) J (fun I36 J36 => P (I36 118 1) I36 J36))) ∧ ((I 118 1) = 0 → P (-4) I J))
set_option maxRecDepth 4000 in
theorem w_X8_undo {g : GT} {d : Nat}  {I : IT} {J : JT} {P : Int32 → IT → JT → Prop} (hd : 1 ≤ d) (hv : VC_X8_undo g d  I J P) : SemI g d M_X8_undo [.ref (ga g 118)] I J P := by
  unfold VC_X8_undo at hv
  refine sem_intro (by decide +kernel) rfl (Nat.le_of_ble_eq_true rfl) ?_
  show AW _ 0 0 0 [(0, .ref (ga g 118))] [] (cW g I J)
  refine a_aload_n 0 dX8_undo_0 rfl rfl ?_
  refine a_getI G_X8_100 sh_118 rfl dX8_undo_1 ?_
  refine a_if_ne 10 dX8_undo_4 rfl (fun hc => ?_) (fun hc => ?_)
  · replace hv := hv.1 hc
    refine a_aload_n 0 dX8_undo_10 rfl rfl ?_
    refine a_dup dX8_undo_11 rfl ?_
    refine a_getI G_X8_100 sh_118 rfl dX8_undo_12 ?_
    refine a_iconst (v := 1) dX8_undo_15 (by decide) ?_
    refine a_isub dX8_undo_16 ?_
    refine a_putI H_X8_100 sh_118 rfl rfl rfl dX8_undo_17 ?_
    refine a_aload_n 0 dX8_undo_20 rfl rfl ?_
    refine a_sipush (v := 400) dX8_undo_21 (by decide) ?_
    refine a_bipush (v := 23) dX8_undo_24 (by decide) ?_
    refine a_aload_n 0 dX8_undo_26 rfl rfl ?_
    refine a_getI G_X8_100 sh_118 rfl dX8_undo_27 ?_
    refine a_imul dX8_undo_30 ?_
    refine a_iadd dX8_undo_31 ?_
    refine a_bipush (v := 57) dX8_undo_32 (by decide) ?_
    refine a_bipush (v := 23) dX8_undo_34 (by decide) ?_
    refine c_VV (As := [.int (400 + (23 * ((sI I 118 1 ((I 118 1) - 1)) 118 1))), .int 57, .int 23]) (rest := []) hv K_X8_96 sh_118 rfl rfl rfl (Nat.le_of_ble_eq_true rfl) (rok (by omega) (Nat.le_of_ble_eq_true rfl)) ⟨Nat.zero_le _, Nat.zero_le _⟩ dX8_undo_36 (fun I36 J36 hv => ?_)
    refine a_aload_n 0 dX8_undo_39 rfl rfl ?_
    refine a_getI G_X8_100 sh_118 rfl dX8_undo_40 ?_
    exact a_iret rfl dX8_undo_43 hv
  · replace hv := hv.2 hc
    refine a_bipush (v := (-4)) dX8_undo_7 (by decide) ?_
    exact a_iret rfl dX8_undo_9 hv
def VC_X8_image (g : GT) (d : Nat) (v1 : Int32) (I : IT) (J : JT) (P : Int32 → IT → JT → Prop) : Prop :=
  (SemZ g (d - 1) M_X8_in [.long (v1.toInt64), .long 0, .long 1] I J (fun r4 I4 J4 => ((r4 = true → (SemZ g (d - 1) M_X8_isFleet [.ref (ga g 118)] I4 J4 (fun r13 I13 J13 => ((r13 = true → (SemV g (d - 1) M_X8_bring [.ref (ga g 118), .int 0, .int (80 + (80 * v1)), .int 80] I13 J13 (fun I33 J33 => P (I33 119 57) I33 J33))) ∧ (r13 = false → P (-2) I13 J13))))) ∧ (r4 = false → P (-1) I4 J4))))
set_option maxRecDepth 4000 in
theorem w_X8_image {g : GT} {d : Nat} {v1 : Int32} {I : IT} {J : JT} {P : Int32 → IT → JT → Prop} (hd : 1 ≤ d) (hv : VC_X8_image g d v1 I J P) : SemI g d M_X8_image [.ref (ga g 118), .int v1] I J P := by
  unfold VC_X8_image at hv
  refine sem_intro (by decide +kernel) rfl (Nat.le_of_ble_eq_true rfl) ?_
  show AW _ 0 0 0 [(0, .ref (ga g 118)), (1, .int v1)] [] (cW g I J)
  refine a_iload_n 1 dX8_image_0 rfl rfl ?_
  refine a_i2l dX8_image_1 ?_
  refine a_lconst (v := 0) dX8_image_2 (by decide) ?_
  refine a_lconst (v := 1) dX8_image_3 (by decide) ?_
  refine c_SZ (As := [.long (v1.toInt64), .long 0, .long 1]) (rest := []) hv K_X8_44 rfl rfl (Nat.le_of_ble_eq_true rfl) (rok (by omega) (Nat.le_of_ble_eq_true rfl)) ⟨Nat.zero_le _, Nat.zero_le _⟩ dX8_image_4 (fun r4 I4 J4 hv => ?_)
  refine a_ifz_ne 12 dX8_image_7 rfl (fun hc => ?_) (fun hc => ?_)
  · replace hv := hv.1 hc
    refine a_aload_n 0 dX8_image_12 rfl rfl ?_
    refine c_VZ (As := []) (rest := []) hv K_X8_115 sh_118 rfl rfl rfl (Nat.le_of_ble_eq_true rfl) (rok (by omega) (Nat.le_of_ble_eq_true rfl)) ⟨Nat.zero_le _, Nat.zero_le _⟩ dX8_image_13 (fun r13 I13 J13 hv => ?_)
    refine a_ifz_ne 22 dX8_image_16 rfl (fun hc => ?_) (fun hc => ?_)
    · replace hv := hv.1 hc
      refine a_aload_n 0 dX8_image_22 rfl rfl ?_
      refine a_iconst (v := 0) dX8_image_23 (by decide) ?_
      refine a_bipush (v := 80) dX8_image_24 (by decide) ?_
      refine a_bipush (v := 80) dX8_image_26 (by decide) ?_
      refine a_iload_n 1 dX8_image_28 rfl rfl ?_
      refine a_imul dX8_image_29 ?_
      refine a_iadd dX8_image_30 ?_
      refine a_bipush (v := 80) dX8_image_31 (by decide) ?_
      refine c_VV (As := [.int 0, .int (80 + (80 * v1)), .int 80]) (rest := []) hv K_X8_96 sh_118 rfl rfl rfl (Nat.le_of_ble_eq_true rfl) (rok (by omega) (Nat.le_of_ble_eq_true rfl)) ⟨Nat.zero_le _, Nat.zero_le _⟩ dX8_image_33 (fun I33 J33 hv => ?_)
      refine a_aload_n 0 dX8_image_36 rfl rfl ?_
      refine a_getR (r := 119) G_X8_7 sh_118 rfl dX8_image_37 ?_
      refine a_bipush (v := 57) dX8_image_40 (by decide) ?_
      refine a_iald sh_119 (by unfold vp_in; decide) dX8_image_42 ?_
      exact a_iret rfl dX8_image_43 hv
    · replace hv := hv.2 hc
      refine a_bipush (v := (-2)) dX8_image_19 (by decide) ?_
      exact a_iret rfl dX8_image_21 hv
  · replace hv := hv.2 hc
    refine a_iconst (v := (-1)) dX8_image_10 (by decide) ?_
    exact a_iret rfl dX8_image_11 hv
def VC_X8_restore (g : GT) (d : Nat) (v1 : Int32) (I : IT) (J : JT) (P : Int32 → IT → JT → Prop) : Prop :=
  (SemZ g (d - 1) M_X8_in [.long (v1.toInt64), .long 0, .long 1] I J (fun r4 I4 J4 => ((r4 = true → (vp_in ((80 + (80 * v1)) + 0) 952 ∧ ((¬ (I4 119 ((80 + (80 * v1)) + 0).toNatClampNeg) = 0 → (SemV g (d - 1) M_X8_bring [.ref (ga g 118), .int (80 + (80 * v1)), .int 0, .int 80] I4 J4 (fun I43 J43 => P ((sI I43 118 1 0) 119 57) (sI I43 118 1 0) J43))) ∧ ((I4 119 ((80 + (80 * v1)) + 0).toNatClampNeg) = 0 → P (-2) I4 J4)))) ∧ (r4 = false → P (-1) I4 J4))))
set_option maxRecDepth 4000 in
theorem w_X8_restore {g : GT} {d : Nat} {v1 : Int32} {I : IT} {J : JT} {P : Int32 → IT → JT → Prop} (hd : 1 ≤ d) (hv : VC_X8_restore g d v1 I J P) : SemI g d M_X8_restore [.ref (ga g 118), .int v1] I J P := by
  unfold VC_X8_restore at hv
  refine sem_intro (by decide +kernel) rfl (Nat.le_of_ble_eq_true rfl) ?_
  show AW _ 0 0 0 [(0, .ref (ga g 118)), (1, .int v1)] [] (cW g I J)
  refine a_iload_n 1 dX8_restore_0 rfl rfl ?_
  refine a_i2l dX8_restore_1 ?_
  refine a_lconst (v := 0) dX8_restore_2 (by decide) ?_
  refine a_lconst (v := 1) dX8_restore_3 (by decide) ?_
  refine c_SZ (As := [.long (v1.toInt64), .long 0, .long 1]) (rest := []) hv K_X8_44 rfl rfl (Nat.le_of_ble_eq_true rfl) (rok (by omega) (Nat.le_of_ble_eq_true rfl)) ⟨Nat.zero_le _, Nat.zero_le _⟩ dX8_restore_4 (fun r4 I4 J4 hv => ?_)
  refine a_ifz_ne 12 dX8_restore_7 rfl (fun hc => ?_) (fun hc => ?_)
  · replace hv := hv.1 hc
    refine a_aload_n 0 dX8_restore_12 rfl rfl ?_
    refine a_getR (r := 119) G_X8_7 sh_118 rfl dX8_restore_13 ?_
    refine a_bipush (v := 80) dX8_restore_16 (by decide) ?_
    refine a_bipush (v := 80) dX8_restore_18 (by decide) ?_
    refine a_iload_n 1 dX8_restore_20 rfl rfl ?_
    refine a_imul dX8_restore_21 ?_
    refine a_iadd dX8_restore_22 ?_
    refine a_iconst (v := 0) dX8_restore_23 (by decide) ?_
    refine a_iadd dX8_restore_24 ?_
    refine a_iald sh_119 hv.1 dX8_restore_25 ?_
    replace hv := hv.2
    refine a_if_ne 32 dX8_restore_26 rfl (fun hc => ?_) (fun hc => ?_)
    · replace hv := hv.1 hc
      refine a_aload_n 0 dX8_restore_32 rfl rfl ?_
      refine a_bipush (v := 80) dX8_restore_33 (by decide) ?_
      refine a_bipush (v := 80) dX8_restore_35 (by decide) ?_
      refine a_iload_n 1 dX8_restore_37 rfl rfl ?_
      refine a_imul dX8_restore_38 ?_
      refine a_iadd dX8_restore_39 ?_
      refine a_iconst (v := 0) dX8_restore_40 (by decide) ?_
      refine a_bipush (v := 80) dX8_restore_41 (by decide) ?_
      refine c_VV (As := [.int (80 + (80 * v1)), .int 0, .int 80]) (rest := []) hv K_X8_96 sh_118 rfl rfl rfl (Nat.le_of_ble_eq_true rfl) (rok (by omega) (Nat.le_of_ble_eq_true rfl)) ⟨Nat.zero_le _, Nat.zero_le _⟩ dX8_restore_43 (fun I43 J43 hv => ?_)
      refine a_aload_n 0 dX8_restore_46 rfl rfl ?_
      refine a_iconst (v := 0) dX8_restore_47 (by decide) ?_
      refine a_putI H_X8_100 sh_118 rfl rfl rfl dX8_restore_48 ?_
      refine a_aload_n 0 dX8_restore_51 rfl rfl ?_
      refine a_getR (r := 119) G_X8_7 sh_118 rfl dX8_restore_52 ?_
      refine a_bipush (v := 57) dX8_restore_55 (by decide) ?_
      refine a_iald sh_119 (by unfold vp_in; decide) dX8_restore_57 ?_
      exact a_iret rfl dX8_restore_58 hv
    · replace hv := hv.2 hc
      refine a_bipush (v := (-2)) dX8_restore_29 (by decide) ?_
      exact a_iret rfl dX8_restore_31 hv
  · replace hv := hv.2 hc
    refine a_iconst (v := (-1)) dX8_restore_10 (by decide) ?_
    exact a_iret rfl dX8_restore_11 hv
def VC_X8_tries (g : GT) (d : Nat)  (I : IT) (J : JT) (P : IT → JT → Prop) : Prop :=
  (SemV g (d - 1) M_X8_bring [.ref (ga g 118), .int 0, .int 320, .int 80] I J (fun I7 J7 => P I7 J7))
set_option maxRecDepth 4000 in
theorem w_X8_tries {g : GT} {d : Nat}  {I : IT} {J : JT} {P : IT → JT → Prop} (hd : 1 ≤ d) (hv : VC_X8_tries g d  I J P) : SemV g d M_X8_tries [.ref (ga g 118)] I J P := by
  unfold VC_X8_tries at hv
  refine sem_intro (by decide +kernel) rfl (Nat.le_of_ble_eq_true rfl) ?_
  show AW _ 0 0 0 [(0, .ref (ga g 118))] [] (cW g I J)
  refine a_aload_n 0 dX8_tries_0 rfl rfl ?_
  refine a_iconst (v := 0) dX8_tries_1 (by decide) ?_
  refine a_sipush (v := 320) dX8_tries_2 (by decide) ?_
  refine a_bipush (v := 80) dX8_tries_5 (by decide) ?_
  refine c_VV (As := [.int 0, .int 320, .int 80]) (rest := []) hv K_X8_96 sh_118 rfl rfl rfl (Nat.le_of_ble_eq_true rfl) (rok (by omega) (Nat.le_of_ble_eq_true rfl)) ⟨Nat.zero_le _, Nat.zero_le _⟩ dX8_tries_7 (fun I7 J7 hv => ?_)
  exact a_vret rfl dX8_tries_10 hv
def Lp_X8_believed_20 (g : GT) (d : Nat) (v1 : Int32) (v2 : Int32) (v3 : Int32) (I : IT) (J : JT) (P : Int32 → IT → JT → Prop) : Prop := AW (kM g d M_X8_believed 0 0 (qI g P)) 0 0 20 [(0, .ref (ga g 118)), (1, .int v1), (2, .int v2), (3, .int v3)] [] (cW g I J)
def VC_X8_believed_20 (g : GT) (d : Nat) (v1 : Int32) (v2 : Int32) (v3 : Int32) (I : IT) (J : JT) (P : Int32 → IT → JT → Prop) : Prop :=
  (((I 119 0) ≤ v3 → P v2 I J) ∧ (¬ (I 119 0) ≤ v3 → (SemZ g (d - 1) M_X8_believesIn [.ref (ga g 118), .int 0, .int v3, .int v1] I J (fun r35 I35 J35 => ((r35 = false → (Lp_X8_believed_20 g d v1 (v2 ||| 0) (v3 + 1) I35 J35 P)) ∧ (r35 = true → (Lp_X8_believed_20 g d v1 (v2 ||| (1 <<< (v3 &&& 31))) (v3 + 1) I35 J35 P)))))))
set_option maxRecDepth 4000 in
theorem w_X8_believed_20 {g : GT} {d : Nat} {v1 : Int32} {v2 : Int32} {v3 : Int32} {I : IT} {J : JT} {P : Int32 → IT → JT → Prop} (hd : 1 ≤ d) (hv : VC_X8_believed_20 g d v1 v2 v3 I J P) : Lp_X8_believed_20 g d v1 v2 v3 I J P := by
  unfold VC_X8_believed_20 at hv
  unfold Lp_X8_believed_20
  refine a_iload_n 3 dX8_believed_20 rfl rfl ?_
  refine a_aload_n 0 dX8_believed_21 rfl rfl ?_
  refine a_getR (r := 119) G_X8_7 sh_118 rfl dX8_believed_22 ?_
  refine a_iconst (v := 0) dX8_believed_25 (by decide) ?_
  refine a_iald sh_119 (by unfold vp_in; decide) dX8_believed_26 ?_
  refine a_icmp_ge 56 dX8_believed_27 rfl (fun hc => ?_) (fun hc => ?_)
  · replace hv := hv.1 hc
    refine a_iload_n 2 dX8_believed_56 rfl rfl ?_
    exact a_iret rfl dX8_believed_57 hv
  · replace hv := hv.2 hc
    refine a_iload_n 2 dX8_believed_30 rfl rfl ?_
    refine a_aload_n 0 dX8_believed_31 rfl rfl ?_
    refine a_iconst (v := 0) dX8_believed_32 (by decide) ?_
    refine a_iload_n 3 dX8_believed_33 rfl rfl ?_
    refine a_iload_n 1 dX8_believed_34 rfl rfl ?_
    refine c_VZ (As := [.int 0, .int v3, .int v1]) (rest := [.int v2]) hv K_X8_136 sh_118 rfl rfl rfl (Nat.le_of_ble_eq_true rfl) (rok (by omega) (Nat.le_of_ble_eq_true rfl)) ⟨Nat.zero_le _, Nat.zero_le _⟩ dX8_believed_35 (fun r35 I35 J35 hv => ?_)
    refine a_ifz_eq 47 dX8_believed_38 rfl (fun hc => ?_) (fun hc => ?_)
    · replace hv := hv.1 hc
      refine a_iconst (v := 0) dX8_believed_47 (by decide) ?_
      refine a_ior dX8_believed_48 ?_
      refine a_istore_n [(2, .int (v2 ||| 0)), (0, .ref (ga g 118)), (1, .int v1), (3, .int v3)] dX8_believed_49 rfl (Nat.le_of_ble_eq_true rfl) rfl ?_
      refine a_iinc 3 (v3 + 1) [(3, .int (v3 + 1)), (2, .int (v2 ||| 0)), (0, .ref (ga g 118)), (1, .int v1)] dX8_believed_50 rfl rfl (Nat.le_of_ble_eq_true rfl) rfl ?_
      refine a_goto 20 dX8_believed_53 rfl ?_
      exact a_sub [2, 3, 1, 0] rfl hv
    · replace hv := hv.2 hc
      refine a_iconst (v := 1) dX8_believed_41 (by decide) ?_
      refine a_iload_n 3 dX8_believed_42 rfl rfl ?_
      refine a_ishl dX8_believed_43 ?_
      refine a_goto 48 dX8_believed_44 rfl ?_
      refine a_ior dX8_believed_48 ?_
      refine a_istore_n [(2, .int (v2 ||| (1 <<< (v3 &&& 31)))), (0, .ref (ga g 118)), (1, .int v1), (3, .int v3)] dX8_believed_49 rfl (Nat.le_of_ble_eq_true rfl) rfl ?_
      refine a_iinc 3 (v3 + 1) [(3, .int (v3 + 1)), (2, .int (v2 ||| (1 <<< (v3 &&& 31)))), (0, .ref (ga g 118)), (1, .int v1)] dX8_believed_50 rfl rfl (Nat.le_of_ble_eq_true rfl) rfl ?_
      refine a_goto 20 dX8_believed_53 rfl ?_
      exact a_sub [2, 3, 1, 0] rfl hv
def VC_X8_believed (g : GT) (d : Nat) (v1 : Int32) (I : IT) (J : JT) (P : Int32 → IT → JT → Prop) : Prop :=
  (SemZ g (d - 1) M_X8_isFleet [.ref (ga g 118)] I J (fun r1 I1 J1 => ((r1 = false → P (-1) I1 J1) ∧ (r1 = true → (SemZ g (d - 1) M_X8_isTeller [.int v1] I1 J1 (fun r8 I8 J8 => ((r8 = true → (Lp_X8_believed_20 g d v1 0 0 I8 J8 P)) ∧ (r8 = false → P (-1) I8 J8))))))))
set_option maxRecDepth 4000 in
theorem w_X8_believed {g : GT} {d : Nat} {v1 : Int32} {I : IT} {J : JT} {P : Int32 → IT → JT → Prop} (hd : 1 ≤ d) (hv : VC_X8_believed g d v1 I J P) : SemI g d M_X8_believed [.ref (ga g 118), .int v1] I J P := by
  unfold VC_X8_believed at hv
  refine sem_intro (by decide +kernel) rfl (Nat.le_of_ble_eq_true rfl) ?_
  show AW _ 0 0 0 [(0, .ref (ga g 118)), (1, .int v1)] [] (cW g I J)
  refine a_aload_n 0 dX8_believed_0 rfl rfl ?_
  refine c_VZ (As := []) (rest := []) hv K_X8_115 sh_118 rfl rfl rfl (Nat.le_of_ble_eq_true rfl) (rok (by omega) (Nat.le_of_ble_eq_true rfl)) ⟨Nat.zero_le _, Nat.zero_le _⟩ dX8_believed_1 (fun r1 I1 J1 hv => ?_)
  refine a_ifz_eq 14 dX8_believed_4 rfl (fun hc => ?_) (fun hc => ?_)
  · replace hv := hv.1 hc
    refine a_iconst (v := (-1)) dX8_believed_14 (by decide) ?_
    exact a_iret rfl dX8_believed_15 hv
  · replace hv := hv.2 hc
    refine a_iload_n 1 dX8_believed_7 rfl rfl ?_
    refine c_SZ (As := [.int v1]) (rest := []) hv K_X8_118 rfl rfl (Nat.le_of_ble_eq_true rfl) (rok (by omega) (Nat.le_of_ble_eq_true rfl)) ⟨Nat.zero_le _, Nat.zero_le _⟩ dX8_believed_8 (fun r8 I8 J8 hv => ?_)
    refine a_ifz_ne 16 dX8_believed_11 rfl (fun hc => ?_) (fun hc => ?_)
    · replace hv := hv.1 hc
      refine a_iconst (v := 0) dX8_believed_16 (by decide) ?_
      refine a_istore_n [(2, .int 0), (0, .ref (ga g 118)), (1, .int v1)] dX8_believed_17 rfl (Nat.le_of_ble_eq_true rfl) rfl ?_
      refine a_iconst (v := 0) dX8_believed_18 (by decide) ?_
      refine a_istore_n [(3, .int 0), (2, .int 0), (0, .ref (ga g 118)), (1, .int v1)] dX8_believed_19 rfl (Nat.le_of_ble_eq_true rfl) rfl ?_
      exact a_sub [2, 3, 1, 0] rfl hv
    · replace hv := hv.2 hc
      refine a_iconst (v := (-1)) dX8_believed_14 (by decide) ?_
      exact a_iret rfl dX8_believed_15 hv
def Lp_X8_strikes_22 (g : GT) (d : Nat) (v1 : Int32) (v2 : Int32) (v3 : Int32) (I : IT) (J : JT) (P : Int32 → IT → JT → Prop) : Prop := AW (kM g d M_X8_strikes 0 0 (qI g P)) 0 0 22 [(0, .ref (ga g 118)), (1, .int v1), (2, .int v2), (3, .int v3)] [] (cW g I J)
def VC_X8_strikes_22 (g : GT) (d : Nat) (v1 : Int32) (v2 : Int32) (v3 : Int32) (I : IT) (J : JT) (P : Int32 → IT → JT → Prop) : Prop :=
  ((v3 < 0 → P v2 I J) ∧ (¬ v3 < 0 → (vp_in (64 + v1) 952 ∧ (SemI g (d - 1) M_X8_nextOf [.ref (ga g 118), .int 0, .int v3, .int (I 119 (64 + v1).toNatClampNeg)] I J (fun r38 I38 J38 => (Lp_X8_strikes_22 g d v1 (v2 + 1) r38 I38 J38 P))))))
set_option maxRecDepth 4000 in
theorem w_X8_strikes_22 {g : GT} {d : Nat} {v1 : Int32} {v2 : Int32} {v3 : Int32} {I : IT} {J : JT} {P : Int32 → IT → JT → Prop} (hd : 1 ≤ d) (hv : VC_X8_strikes_22 g d v1 v2 v3 I J P) : Lp_X8_strikes_22 g d v1 v2 v3 I J P := by
  unfold VC_X8_strikes_22 at hv
  unfold Lp_X8_strikes_22
  refine a_iload_n 3 dX8_strikes_22 rfl rfl ?_
  refine a_if_lt 48 dX8_strikes_23 rfl (fun hc => ?_) (fun hc => ?_)
  · replace hv := hv.1 hc
    refine a_iload_n 2 dX8_strikes_48 rfl rfl ?_
    exact a_iret rfl dX8_strikes_49 hv
  · replace hv := hv.2 hc
    refine a_aload_n 0 dX8_strikes_26 rfl rfl ?_
    refine a_iconst (v := 0) dX8_strikes_27 (by decide) ?_
    refine a_iload_n 3 dX8_strikes_28 rfl rfl ?_
    refine a_aload_n 0 dX8_strikes_29 rfl rfl ?_
    refine a_getR (r := 119) G_X8_7 sh_118 rfl dX8_strikes_30 ?_
    refine a_bipush (v := 64) dX8_strikes_33 (by decide) ?_
    refine a_iload_n 1 dX8_strikes_35 rfl rfl ?_
    refine a_iadd dX8_strikes_36 ?_
    refine a_iald sh_119 hv.1 dX8_strikes_37 ?_
    replace hv := hv.2
    refine c_VI (As := [.int 0, .int v3, .int (I 119 (64 + v1).toNatClampNeg)]) (rest := []) hv K_X8_129 sh_118 rfl rfl rfl (Nat.le_of_ble_eq_true rfl) (rok (by omega) (Nat.le_of_ble_eq_true rfl)) ⟨Nat.zero_le _, Nat.zero_le _⟩ dX8_strikes_38 (fun r38 I38 J38 hv => ?_)
    refine a_istore_n [(3, .int r38), (0, .ref (ga g 118)), (1, .int v1), (2, .int v2)] dX8_strikes_41 rfl (Nat.le_of_ble_eq_true rfl) rfl ?_
    refine a_iinc 3 (v2 + 1) [(2, .int (v2 + 1)), (3, .int r38), (0, .ref (ga g 118)), (1, .int v1)] dX8_strikes_42 rfl rfl (Nat.le_of_ble_eq_true rfl) rfl ?_
    refine a_goto 22 dX8_strikes_45 rfl ?_
    exact a_sub [2, 3, 0, 1] rfl hv
def VC_X8_strikes (g : GT) (d : Nat) (v1 : Int32) (I : IT) (J : JT) (P : Int32 → IT → JT → Prop) : Prop :=
  (SemZ g (d - 1) M_X8_isShip [.ref (ga g 118), .int v1] I J (fun r2 I2 J2 => ((r2 = true → (vp_in (58 + v1) 952 ∧ (Lp_X8_strikes_22 g d v1 0 (I2 119 (58 + v1).toNatClampNeg) I2 J2 P))) ∧ (r2 = false → P (-1) I2 J2))))
set_option maxRecDepth 4000 in
theorem w_X8_strikes {g : GT} {d : Nat} {v1 : Int32} {I : IT} {J : JT} {P : Int32 → IT → JT → Prop} (hd : 1 ≤ d) (hv : VC_X8_strikes g d v1 I J P) : SemI g d M_X8_strikes [.ref (ga g 118), .int v1] I J P := by
  unfold VC_X8_strikes at hv
  refine sem_intro (by decide +kernel) rfl (Nat.le_of_ble_eq_true rfl) ?_
  show AW _ 0 0 0 [(0, .ref (ga g 118)), (1, .int v1)] [] (cW g I J)
  refine a_aload_n 0 dX8_strikes_0 rfl rfl ?_
  refine a_iload_n 1 dX8_strikes_1 rfl rfl ?_
  refine c_VZ (As := [.int v1]) (rest := []) hv K_X8_103 sh_118 rfl rfl rfl (Nat.le_of_ble_eq_true rfl) (rok (by omega) (Nat.le_of_ble_eq_true rfl)) ⟨Nat.zero_le _, Nat.zero_le _⟩ dX8_strikes_2 (fun r2 I2 J2 hv => ?_)
  refine a_ifz_ne 10 dX8_strikes_5 rfl (fun hc => ?_) (fun hc => ?_)
  · replace hv := hv.1 hc
    refine a_iconst (v := 0) dX8_strikes_10 (by decide) ?_
    refine a_istore_n [(2, .int 0), (0, .ref (ga g 118)), (1, .int v1)] dX8_strikes_11 rfl (Nat.le_of_ble_eq_true rfl) rfl ?_
    refine a_aload_n 1 dX8_strikes_12 rfl rfl ?_
    refine a_getR (r := 119) G_X8_7 sh_118 rfl dX8_strikes_13 ?_
    refine a_bipush (v := 58) dX8_strikes_16 (by decide) ?_
    refine a_iload_n 2 dX8_strikes_18 rfl rfl ?_
    refine a_iadd dX8_strikes_19 ?_
    refine a_iald sh_119 hv.1 dX8_strikes_20 ?_
    replace hv := hv.2
    refine a_istore_n [(3, .int (I2 119 (58 + v1).toNatClampNeg)), (2, .int 0), (0, .ref (ga g 118)), (1, .int v1)] dX8_strikes_21 rfl (Nat.le_of_ble_eq_true rfl) rfl ?_
    exact a_sub [2, 3, 1, 0] rfl hv
  · replace hv := hv.2 hc
    refine a_iconst (v := (-1)) dX8_strikes_8 (by decide) ?_
    exact a_iret rfl dX8_strikes_9 hv
def Lp_X8_leads_27 (g : GT) (d : Nat) (b2 : Bool) (v3 : Int32) (s0 : Int32) (I : IT) (J : JT) (P : Int32 → IT → JT → Prop) : Prop := AW (kM g d M_X8_leads 0 0 (qI g P)) 0 0 27 [(0, .ref (ga g 118)), (2, .int (bI b2)), (3, .int v3)] [.int s0] (cW g I J)
def VC_X8_leads_27 (g : GT) (d : Nat) (b2 : Bool) (v3 : Int32) (s0 : Int32) (I : IT) (J : JT) (P : Int32 → IT → JT → Prop) : Prop :=
  ((b2 = true → ((¬ s0 = 1 → ((¬ s0 = 2 → (SemI g (d - 1) M_X8_nextOf [.ref (ga g 118), .int 0, .int (v3 / 4), .int (((v3 - v3 / 4 * 4) + 0) - ((v3 - v3 / 4 * 4) + 0) / 4 * 4)] I J (fun r75 I75 J75 => ((0 ≤ r75 → P ((4 * r75) + (((v3 - v3 / 4 * 4) + 0) - ((v3 - v3 / 4 * 4) + 0) / 4 * 4)) I75 J75) ∧ (¬ 0 ≤ r75 → P (-1) I75 J75))))) ∧ (s0 = 2 → (SemI g (d - 1) M_X8_nextOf [.ref (ga g 118), .int 0, .int (v3 / 4), .int (((v3 - v3 / 4 * 4) + 1) - ((v3 - v3 / 4 * 4) + 1) / 4 * 4)] I J (fun r75 I75 J75 => ((0 ≤ r75 → P ((4 * r75) + (((v3 - v3 / 4 * 4) + 1) - ((v3 - v3 / 4 * 4) + 1) / 4 * 4)) I75 J75) ∧ (¬ 0 ≤ r75 → P (-1) I75 J75))))))) ∧ (s0 = 1 → (SemI g (d - 1) M_X8_nextOf [.ref (ga g 118), .int 0, .int (v3 / 4), .int (((v3 - v3 / 4 * 4) + 3) - ((v3 - v3 / 4 * 4) + 3) / 4 * 4)] I J (fun r75 I75 J75 => ((0 ≤ r75 → P ((4 * r75) + (((v3 - v3 / 4 * 4) + 3) - ((v3 - v3 / 4 * 4) + 3) / 4 * 4)) I75 J75) ∧ (¬ 0 ≤ r75 → P (-1) I75 J75))))))) ∧ (b2 = false → (SemI g (d - 1) M_X8_nextOf [.ref (ga g 118), .int 0, .int (v3 / 4), .int (v3 - v3 / 4 * 4)] I J (fun r75 I75 J75 => ((0 ≤ r75 → P ((4 * r75) + (v3 - v3 / 4 * 4)) I75 J75) ∧ (¬ 0 ≤ r75 → P (-1) I75 J75))))))
set_option maxRecDepth 4000 in
theorem w_X8_leads_27 {g : GT} {d : Nat} {b2 : Bool} {v3 : Int32} {s0 : Int32} {I : IT} {J : JT} {P : Int32 → IT → JT → Prop} (hd : 1 ≤ d) (hv : VC_X8_leads_27 g d b2 v3 s0 I J P) : Lp_X8_leads_27 g d b2 v3 s0 I J P := by
  unfold VC_X8_leads_27 at hv
  unfold Lp_X8_leads_27
  refine a_istore [(5, .int s0), (0, .ref (ga g 118)), (2, .int (bI b2)), (3, .int v3)] dX8_leads_27 (Nat.le_of_ble_eq_true rfl) rfl ?_
  refine a_iload_n 2 dX8_leads_29 rfl rfl ?_
  refine a_ifz_ne 39 dX8_leads_30 rfl (fun hc => ?_) (fun hc => ?_)
  · replace hv := hv.1 hc
    refine a_iload_n 3 dX8_leads_39 rfl rfl ?_
    refine a_iconst (v := 4) dX8_leads_40 (by decide) ?_
    refine a_irem dX8_leads_41 (by decide) ?_
    refine a_iload 0 dX8_leads_42 rfl ?_
    refine a_iconst (v := 1) dX8_leads_44 (by decide) ?_
    refine a_icmp_ne 52 dX8_leads_45 rfl (fun hc => ?_) (fun hc => ?_)
    · replace hv := hv.1 hc
      refine a_iload 0 dX8_leads_52 rfl ?_
      refine a_iconst (v := 2) dX8_leads_54 (by decide) ?_
      refine a_icmp_ne 62 dX8_leads_55 rfl (fun hc => ?_) (fun hc => ?_)
      · replace hv := hv.1 hc
        refine a_iconst (v := 0) dX8_leads_62 (by decide) ?_
        refine a_iadd dX8_leads_63 ?_
        refine a_iconst (v := 4) dX8_leads_64 (by decide) ?_
        refine a_irem dX8_leads_65 (by decide) ?_
        refine a_istore [(6, .int (((v3 - v3 / 4 * 4) + 0) - ((v3 - v3 / 4 * 4) + 0) / 4 * 4)), (5, .int s0), (0, .ref (ga g 118)), (2, .int (bI b2)), (3, .int v3)] dX8_leads_66 (Nat.le_of_ble_eq_true rfl) rfl ?_
        refine a_aload_n 2 dX8_leads_68 rfl rfl ?_
        refine a_iconst (v := 0) dX8_leads_69 (by decide) ?_
        refine a_iload_n 4 dX8_leads_70 rfl rfl ?_
        refine a_iconst (v := 4) dX8_leads_71 (by decide) ?_
        refine a_idiv dX8_leads_72 (by decide) ?_
        refine a_iload 0 dX8_leads_73 rfl ?_
        refine c_VI (As := [.int 0, .int (v3 / 4), .int (((v3 - v3 / 4 * 4) + 0) - ((v3 - v3 / 4 * 4) + 0) / 4 * 4)]) (rest := []) hv K_X8_129 sh_118 rfl rfl rfl (Nat.le_of_ble_eq_true rfl) (rok (by omega) (Nat.le_of_ble_eq_true rfl)) ⟨Nat.zero_le _, Nat.zero_le _⟩ dX8_leads_75 (fun r75 I75 J75 hv => ?_)
        refine a_istore [(7, .int r75), (6, .int (((v3 - v3 / 4 * 4) + 0) - ((v3 - v3 / 4 * 4) + 0) / 4 * 4)), (5, .int s0), (0, .ref (ga g 118)), (2, .int (bI b2)), (3, .int v3)] dX8_leads_78 (Nat.le_of_ble_eq_true rfl) rfl ?_
        refine a_iload 0 dX8_leads_80 rfl ?_
        refine a_if_ge 89 dX8_leads_82 rfl (fun hc => ?_) (fun hc => ?_)
        · replace hv := hv.1 hc
          refine a_iconst (v := 4) dX8_leads_89 (by decide) ?_
          refine a_iload 0 dX8_leads_90 rfl ?_
          refine a_imul dX8_leads_92 ?_
          refine a_iload 1 dX8_leads_93 rfl ?_
          refine a_iadd dX8_leads_95 ?_
          exact a_iret rfl dX8_leads_96 hv
        · replace hv := hv.2 hc
          refine a_iconst (v := (-1)) dX8_leads_85 (by decide) ?_
          refine a_goto 96 dX8_leads_86 rfl ?_
          exact a_iret rfl dX8_leads_96 hv
      · replace hv := hv.2 hc
        refine a_iconst (v := 1) dX8_leads_58 (by decide) ?_
        refine a_goto 63 dX8_leads_59 rfl ?_
        refine a_iadd dX8_leads_63 ?_
        refine a_iconst (v := 4) dX8_leads_64 (by decide) ?_
        refine a_irem dX8_leads_65 (by decide) ?_
        refine a_istore [(6, .int (((v3 - v3 / 4 * 4) + 1) - ((v3 - v3 / 4 * 4) + 1) / 4 * 4)), (5, .int s0), (0, .ref (ga g 118)), (2, .int (bI b2)), (3, .int v3)] dX8_leads_66 (Nat.le_of_ble_eq_true rfl) rfl ?_
        refine a_aload_n 2 dX8_leads_68 rfl rfl ?_
        refine a_iconst (v := 0) dX8_leads_69 (by decide) ?_
        refine a_iload_n 4 dX8_leads_70 rfl rfl ?_
        refine a_iconst (v := 4) dX8_leads_71 (by decide) ?_
        refine a_idiv dX8_leads_72 (by decide) ?_
        refine a_iload 0 dX8_leads_73 rfl ?_
        refine c_VI (As := [.int 0, .int (v3 / 4), .int (((v3 - v3 / 4 * 4) + 1) - ((v3 - v3 / 4 * 4) + 1) / 4 * 4)]) (rest := []) hv K_X8_129 sh_118 rfl rfl rfl (Nat.le_of_ble_eq_true rfl) (rok (by omega) (Nat.le_of_ble_eq_true rfl)) ⟨Nat.zero_le _, Nat.zero_le _⟩ dX8_leads_75 (fun r75 I75 J75 hv => ?_)
        refine a_istore [(7, .int r75), (6, .int (((v3 - v3 / 4 * 4) + 1) - ((v3 - v3 / 4 * 4) + 1) / 4 * 4)), (5, .int s0), (0, .ref (ga g 118)), (2, .int (bI b2)), (3, .int v3)] dX8_leads_78 (Nat.le_of_ble_eq_true rfl) rfl ?_
        refine a_iload 0 dX8_leads_80 rfl ?_
        refine a_if_ge 89 dX8_leads_82 rfl (fun hc => ?_) (fun hc => ?_)
        · replace hv := hv.1 hc
          refine a_iconst (v := 4) dX8_leads_89 (by decide) ?_
          refine a_iload 0 dX8_leads_90 rfl ?_
          refine a_imul dX8_leads_92 ?_
          refine a_iload 1 dX8_leads_93 rfl ?_
          refine a_iadd dX8_leads_95 ?_
          exact a_iret rfl dX8_leads_96 hv
        · replace hv := hv.2 hc
          refine a_iconst (v := (-1)) dX8_leads_85 (by decide) ?_
          refine a_goto 96 dX8_leads_86 rfl ?_
          exact a_iret rfl dX8_leads_96 hv
    · replace hv := hv.2 hc
      refine a_iconst (v := 3) dX8_leads_48 (by decide) ?_
      refine a_goto 63 dX8_leads_49 rfl ?_
      refine a_iadd dX8_leads_63 ?_
      refine a_iconst (v := 4) dX8_leads_64 (by decide) ?_
      refine a_irem dX8_leads_65 (by decide) ?_
      refine a_istore [(6, .int (((v3 - v3 / 4 * 4) + 3) - ((v3 - v3 / 4 * 4) + 3) / 4 * 4)), (5, .int s0), (0, .ref (ga g 118)), (2, .int (bI b2)), (3, .int v3)] dX8_leads_66 (Nat.le_of_ble_eq_true rfl) rfl ?_
      refine a_aload_n 2 dX8_leads_68 rfl rfl ?_
      refine a_iconst (v := 0) dX8_leads_69 (by decide) ?_
      refine a_iload_n 4 dX8_leads_70 rfl rfl ?_
      refine a_iconst (v := 4) dX8_leads_71 (by decide) ?_
      refine a_idiv dX8_leads_72 (by decide) ?_
      refine a_iload 0 dX8_leads_73 rfl ?_
      refine c_VI (As := [.int 0, .int (v3 / 4), .int (((v3 - v3 / 4 * 4) + 3) - ((v3 - v3 / 4 * 4) + 3) / 4 * 4)]) (rest := []) hv K_X8_129 sh_118 rfl rfl rfl (Nat.le_of_ble_eq_true rfl) (rok (by omega) (Nat.le_of_ble_eq_true rfl)) ⟨Nat.zero_le _, Nat.zero_le _⟩ dX8_leads_75 (fun r75 I75 J75 hv => ?_)
      refine a_istore [(7, .int r75), (6, .int (((v3 - v3 / 4 * 4) + 3) - ((v3 - v3 / 4 * 4) + 3) / 4 * 4)), (5, .int s0), (0, .ref (ga g 118)), (2, .int (bI b2)), (3, .int v3)] dX8_leads_78 (Nat.le_of_ble_eq_true rfl) rfl ?_
      refine a_iload 0 dX8_leads_80 rfl ?_
      refine a_if_ge 89 dX8_leads_82 rfl (fun hc => ?_) (fun hc => ?_)
      · replace hv := hv.1 hc
        refine a_iconst (v := 4) dX8_leads_89 (by decide) ?_
        refine a_iload 0 dX8_leads_90 rfl ?_
        refine a_imul dX8_leads_92 ?_
        refine a_iload 1 dX8_leads_93 rfl ?_
        refine a_iadd dX8_leads_95 ?_
        exact a_iret rfl dX8_leads_96 hv
      · replace hv := hv.2 hc
        refine a_iconst (v := (-1)) dX8_leads_85 (by decide) ?_
        refine a_goto 96 dX8_leads_86 rfl ?_
        exact a_iret rfl dX8_leads_96 hv
  · replace hv := hv.2 hc
    refine a_iload_n 3 dX8_leads_33 rfl rfl ?_
    refine a_iconst (v := 4) dX8_leads_34 (by decide) ?_
    refine a_irem dX8_leads_35 (by decide) ?_
    refine a_goto 66 dX8_leads_36 rfl ?_
    refine a_istore [(6, .int (v3 - v3 / 4 * 4)), (5, .int s0), (0, .ref (ga g 118)), (2, .int (bI b2)), (3, .int v3)] dX8_leads_66 (Nat.le_of_ble_eq_true rfl) rfl ?_
    refine a_aload_n 2 dX8_leads_68 rfl rfl ?_
    refine a_iconst (v := 0) dX8_leads_69 (by decide) ?_
    refine a_iload_n 4 dX8_leads_70 rfl rfl ?_
    refine a_iconst (v := 4) dX8_leads_71 (by decide) ?_
    refine a_idiv dX8_leads_72 (by decide) ?_
    refine a_iload 0 dX8_leads_73 rfl ?_
    refine c_VI (As := [.int 0, .int (v3 / 4), .int (v3 - v3 / 4 * 4)]) (rest := []) hv K_X8_129 sh_118 rfl rfl rfl (Nat.le_of_ble_eq_true rfl) (rok (by omega) (Nat.le_of_ble_eq_true rfl)) ⟨Nat.zero_le _, Nat.zero_le _⟩ dX8_leads_75 (fun r75 I75 J75 hv => ?_)
    refine a_istore [(7, .int r75), (6, .int (v3 - v3 / 4 * 4)), (5, .int s0), (0, .ref (ga g 118)), (2, .int (bI b2)), (3, .int v3)] dX8_leads_78 (Nat.le_of_ble_eq_true rfl) rfl ?_
    refine a_iload 0 dX8_leads_80 rfl ?_
    refine a_if_ge 89 dX8_leads_82 rfl (fun hc => ?_) (fun hc => ?_)
    · replace hv := hv.1 hc
      refine a_iconst (v := 4) dX8_leads_89 (by decide) ?_
      refine a_iload 0 dX8_leads_90 rfl ?_
      refine a_imul dX8_leads_92 ?_
      refine a_iload 1 dX8_leads_93 rfl ?_
      refine a_iadd dX8_leads_95 ?_
      exact a_iret rfl dX8_leads_96 hv
    · replace hv := hv.2 hc
      refine a_iconst (v := (-1)) dX8_leads_85 (by decide) ?_
      refine a_goto 96 dX8_leads_86 rfl ?_
      exact a_iret rfl dX8_leads_96 hv
def VC_X8_leads (g : GT) (d : Nat) (v1 : Int32) (b2 : Bool) (v3 : Int32) (v4 : Int32) (I : IT) (J : JT) (P : Int32 → IT → JT → Prop) : Prop :=
  (vp_in (51 + v1) 952 ∧ ((¬ (I 119 (51 + v1).toNatClampNeg) = 5 → (Lp_X8_leads_27 g d b2 v3 v4 I J P)) ∧ ((I 119 (51 + v1).toNatClampNeg) = 5 → ((v4 ≤ 0 → (Lp_X8_leads_27 g d b2 v3 v4 I J P)) ∧ (¬ v4 ≤ 0 → (Lp_X8_leads_27 g d b2 v3 (3 - v4) I J P))))))
set_option maxRecDepth 4000 in
theorem w_X8_leads {g : GT} {d : Nat} {v1 : Int32} {b2 : Bool} {v3 : Int32} {v4 : Int32} {I : IT} {J : JT} {P : Int32 → IT → JT → Prop} (hv : VC_X8_leads g d v1 b2 v3 v4 I J P) : SemI g d M_X8_leads [.ref (ga g 118), .int v1, .int (bI b2), .int v3, .int v4] I J P := by
  unfold VC_X8_leads at hv
  refine sem_intro (by decide +kernel) rfl (Nat.le_of_ble_eq_true rfl) ?_
  show AW _ 0 0 0 [(0, .ref (ga g 118)), (1, .int v1), (2, .int (bI b2)), (3, .int v3), (4, .int v4)] [] (cW g I J)
  refine a_aload_n 0 dX8_leads_0 rfl rfl ?_
  refine a_getR (r := 119) G_X8_7 sh_118 rfl dX8_leads_1 ?_
  refine a_bipush (v := 51) dX8_leads_4 (by decide) ?_
  refine a_iload_n 1 dX8_leads_6 rfl rfl ?_
  refine a_iadd dX8_leads_7 ?_
  refine a_iald sh_119 hv.1 dX8_leads_8 ?_
  replace hv := hv.2
  refine a_iconst (v := 5) dX8_leads_9 (by decide) ?_
  refine a_icmp_ne 25 dX8_leads_10 rfl (fun hc => ?_) (fun hc => ?_)
  · replace hv := hv.1 hc
    refine a_iload 4 dX8_leads_25 rfl ?_
    exact a_sub [0, 2, 3] rfl hv
  · replace hv := hv.2 hc
    refine a_iload 4 dX8_leads_13 rfl ?_
    refine a_if_le 25 dX8_leads_15 rfl (fun hc => ?_) (fun hc => ?_)
    · replace hv := hv.1 hc
      refine a_iload 4 dX8_leads_25 rfl ?_
      exact a_sub [0, 2, 3] rfl hv
    · replace hv := hv.2 hc
      refine a_iconst (v := 3) dX8_leads_18 (by decide) ?_
      refine a_iload 4 dX8_leads_19 rfl ?_
      refine a_isub dX8_leads_21 ?_
      refine a_goto 27 dX8_leads_22 rfl ?_
      exact a_sub [0, 2, 3] rfl hv
def Lp_X8_laysLeft_3 (g : GT) (d : Nat) (v1 : Int32) (b2 : Bool) (v3 : Int32) (v4 : Int32) (I : IT) (J : JT) (P : IT → JT → Prop) : Prop := AW (kM g d M_X8_laysLeft 0 0 (qV g P)) 0 0 3 [(0, .ref (ga g 118)), (1, .int v1), (2, .int (bI b2)), (3, .int v3), (4, .int v4)] [] (cW g I J)
def Lp_X8_laysLeft_41 (g : GT) (d : Nat) (v1 : Int32) (b2 : Bool) (v4 : Int32) (I : IT) (J : JT) (P : IT → JT → Prop) : Prop := AW (kM g d M_X8_laysLeft 0 0 (qV g P)) 0 0 41 [(0, .ref (ga g 118)), (1, .int v1), (2, .int (bI b2)), (4, .int v4)] [] (cW g I J)
def Lp_X8_laysLeft_52 (g : GT) (d : Nat) (v1 : Int32) (b2 : Bool) (v4 : Int32) (v5 : Int32) (I : IT) (J : JT) (P : IT → JT → Prop) : Prop := AW (kM g d M_X8_laysLeft 0 0 (qV g P)) 0 0 52 [(0, .ref (ga g 118)), (1, .int v1), (2, .int (bI b2)), (4, .int v4), (5, .int v5)] [] (cW g I J)
def Lp_X8_laysLeft_74 (g : GT) (d : Nat) (v1 : Int32) (b2 : Bool) (v4 : Int32) (v5 : Int32) (v6 : Int32) (I : IT) (J : JT) (P : IT → JT → Prop) : Prop := AW (kM g d M_X8_laysLeft 0 0 (qV g P)) 0 0 74 [(0, .ref (ga g 118)), (1, .int v1), (2, .int (bI b2)), (4, .int v4), (5, .int v5), (6, .int v6)] [] (cW g I J)
def VC_X8_laysLeft_74 (g : GT) (d : Nat) (v1 : Int32) (b2 : Bool) (v4 : Int32) (v5 : Int32) (v6 : Int32) (I : IT) (J : JT) (P : IT → JT → Prop) : Prop :=
  ((3 ≤ v6 → (Lp_X8_laysLeft_52 g d v1 b2 v4 (v5 + 1) I J P)) ∧ (¬ 3 ≤ v6 → (SemI g (d - 1) M_X8_leads [.ref (ga g 118), .int v1, .int (bI b2), .int v5, .int v6] I J (fun r87 I87 J87 => ((r87 < 0 → (Lp_X8_laysLeft_74 g d v1 b2 v4 v5 (v6 + 1) I87 J87 P)) ∧ (¬ r87 < 0 → (vp_in r87 192 ∧ (vp_in v5 192 ∧ (((I87 124 v5.toNatClampNeg) ≤ ((I87 124 r87.toNatClampNeg) + 1) → (Lp_X8_laysLeft_74 g d v1 b2 v4 v5 (v6 + 1) I87 J87 P)) ∧ (¬ (I87 124 v5.toNatClampNeg) ≤ ((I87 124 r87.toNatClampNeg) + 1) → (vp_in r87 192 ∧ (vp_in v5 192 ∧ (Lp_X8_laysLeft_74 g d v1 b2 1 v5 (v6 + 1) (sI I87 124 v5.toNatClampNeg ((I87 124 r87.toNatClampNeg) + 1)) J87 P)))))))))))))
set_option maxRecDepth 4000 in
theorem w_X8_laysLeft_74 {g : GT} {d : Nat} {v1 : Int32} {b2 : Bool} {v4 : Int32} {v5 : Int32} {v6 : Int32} {I : IT} {J : JT} {P : IT → JT → Prop} (hd : 1 ≤ d) (hv : VC_X8_laysLeft_74 g d v1 b2 v4 v5 v6 I J P) : Lp_X8_laysLeft_74 g d v1 b2 v4 v5 v6 I J P := by
  unfold VC_X8_laysLeft_74 at hv
  unfold Lp_X8_laysLeft_74
  refine a_iload 5 dX8_laysLeft_74 rfl ?_
  refine a_iconst (v := 3) dX8_laysLeft_76 (by decide) ?_
  refine a_icmp_ge 141 dX8_laysLeft_77 rfl (fun hc => ?_) (fun hc => ?_)
  · replace hv := hv.1 hc
    refine a_iinc 4 (v5 + 1) [(5, .int (v5 + 1)), (0, .ref (ga g 118)), (1, .int v1), (2, .int (bI b2)), (4, .int v4), (6, .int v6)] dX8_laysLeft_141 rfl rfl (Nat.le_of_ble_eq_true rfl) rfl ?_
    refine a_goto 52 dX8_laysLeft_144 rfl ?_
    exact a_sub [1, 2, 3, 4, 0] rfl hv
  · replace hv := hv.2 hc
    refine a_aload_n 0 dX8_laysLeft_80 rfl rfl ?_
    refine a_iload_n 1 dX8_laysLeft_81 rfl rfl ?_
    refine a_iload_n 2 dX8_laysLeft_82 rfl rfl ?_
    refine a_iload 4 dX8_laysLeft_83 rfl ?_
    refine a_iload 5 dX8_laysLeft_85 rfl ?_
    refine c_VI (As := [.int v1, .int (bI b2), .int v5, .int v6]) (rest := []) hv K_X8_166 sh_118 rfl rfl rfl (Nat.le_of_ble_eq_true rfl) (rok (by omega) (Nat.le_of_ble_eq_true rfl)) ⟨Nat.zero_le _, Nat.zero_le _⟩ dX8_laysLeft_87 (fun r87 I87 J87 hv => ?_)
    refine a_istore [(7, .int r87), (0, .ref (ga g 118)), (1, .int v1), (2, .int (bI b2)), (4, .int v4), (5, .int v5), (6, .int v6)] dX8_laysLeft_90 (Nat.le_of_ble_eq_true rfl) rfl ?_
    refine a_iload 0 dX8_laysLeft_92 rfl ?_
    refine a_if_lt 135 dX8_laysLeft_94 rfl (fun hc => ?_) (fun hc => ?_)
    · replace hv := hv.1 hc
      refine a_iinc 6 (v6 + 1) [(6, .int (v6 + 1)), (7, .int r87), (0, .ref (ga g 118)), (1, .int v1), (2, .int (bI b2)), (4, .int v4), (5, .int v5)] dX8_laysLeft_135 rfl rfl (Nat.le_of_ble_eq_true rfl) rfl ?_
      refine a_goto 74 dX8_laysLeft_138 rfl ?_
      exact a_sub [2, 3, 4, 5, 6, 0] rfl hv
    · replace hv := hv.2 hc
      refine a_aload_n 1 dX8_laysLeft_97 rfl rfl ?_
      refine a_getR (r := 124) G_X8_26 sh_118 rfl dX8_laysLeft_98 ?_
      refine a_iload 0 dX8_laysLeft_101 rfl ?_
      refine a_iald sh_124 hv.1 dX8_laysLeft_103 ?_
      replace hv := hv.2
      refine a_iconst (v := 1) dX8_laysLeft_104 (by decide) ?_
      refine a_iadd dX8_laysLeft_105 ?_
      refine a_aload_n 1 dX8_laysLeft_106 rfl rfl ?_
      refine a_getR (r := 124) G_X8_26 sh_118 rfl dX8_laysLeft_107 ?_
      refine a_iload 5 dX8_laysLeft_110 rfl ?_
      refine a_iald sh_124 hv.1 dX8_laysLeft_112 ?_
      replace hv := hv.2
      refine a_icmp_ge 135 dX8_laysLeft_113 rfl (fun hc => ?_) (fun hc => ?_)
      · replace hv := hv.1 hc
        refine a_iinc 6 (v6 + 1) [(6, .int (v6 + 1)), (7, .int r87), (0, .ref (ga g 118)), (1, .int v1), (2, .int (bI b2)), (4, .int v4), (5, .int v5)] dX8_laysLeft_135 rfl rfl (Nat.le_of_ble_eq_true rfl) rfl ?_
        refine a_goto 74 dX8_laysLeft_138 rfl ?_
        exact a_sub [2, 3, 4, 5, 6, 0] rfl hv
      · replace hv := hv.2 hc
        refine a_aload_n 1 dX8_laysLeft_116 rfl rfl ?_
        refine a_getR (r := 124) G_X8_26 sh_118 rfl dX8_laysLeft_117 ?_
        refine a_iload 5 dX8_laysLeft_120 rfl ?_
        refine a_aload_n 1 dX8_laysLeft_122 rfl rfl ?_
        refine a_getR (r := 124) G_X8_26 sh_118 rfl dX8_laysLeft_123 ?_
        refine a_iload 0 dX8_laysLeft_126 rfl ?_
        refine a_iald sh_124 hv.1 dX8_laysLeft_128 ?_
        replace hv := hv.2
        refine a_iconst (v := 1) dX8_laysLeft_129 (by decide) ?_
        refine a_iadd dX8_laysLeft_130 ?_
        refine a_iast sh_124 hv.1 dX8_laysLeft_131 ?_
        replace hv := hv.2
        refine a_iconst (v := 1) dX8_laysLeft_132 (by decide) ?_
        refine a_istore [(4, .int 1), (7, .int r87), (0, .ref (ga g 118)), (1, .int v1), (2, .int (bI b2)), (5, .int v5), (6, .int v6)] dX8_laysLeft_133 (Nat.le_of_ble_eq_true rfl) rfl ?_
        refine a_iinc 6 (v6 + 1) [(6, .int (v6 + 1)), (4, .int 1), (7, .int r87), (0, .ref (ga g 118)), (1, .int v1), (2, .int (bI b2)), (5, .int v5)] dX8_laysLeft_135 rfl rfl (Nat.le_of_ble_eq_true rfl) rfl ?_
        refine a_goto 74 dX8_laysLeft_138 rfl ?_
        exact a_sub [3, 4, 5, 1, 6, 0] rfl hv
def VC_X8_laysLeft_52 (g : GT) (d : Nat) (v1 : Int32) (b2 : Bool) (v4 : Int32) (v5 : Int32) (I : IT) (J : JT) (P : IT → JT → Prop) : Prop :=
  ((192 ≤ v5 → (Lp_X8_laysLeft_41 g d v1 b2 v4 I J P)) ∧ (¬ 192 ≤ v5 → (SemZ g (d - 1) M_X8_isCell [.ref (ga g 118), .int (v5 / 4)] I J (fun r65 I65 J65 => ((r65 = false → (Lp_X8_laysLeft_52 g d v1 b2 v4 (v5 + 1) I65 J65 P)) ∧ (r65 = true → (Lp_X8_laysLeft_74 g d v1 b2 v4 v5 0 I65 J65 P)))))))
set_option maxRecDepth 4000 in
theorem w_X8_laysLeft_52 {g : GT} {d : Nat} {v1 : Int32} {b2 : Bool} {v4 : Int32} {v5 : Int32} {I : IT} {J : JT} {P : IT → JT → Prop} (hd : 1 ≤ d) (hv : VC_X8_laysLeft_52 g d v1 b2 v4 v5 I J P) : Lp_X8_laysLeft_52 g d v1 b2 v4 v5 I J P := by
  unfold VC_X8_laysLeft_52 at hv
  unfold Lp_X8_laysLeft_52
  refine a_iload 4 dX8_laysLeft_52 rfl ?_
  refine a_sipush (v := 192) dX8_laysLeft_54 (by decide) ?_
  refine a_icmp_ge 147 dX8_laysLeft_57 rfl (fun hc => ?_) (fun hc => ?_)
  · replace hv := hv.1 hc
    refine a_goto 41 dX8_laysLeft_147 rfl ?_
    exact a_sub [0, 1, 2, 3] rfl hv
  · replace hv := hv.2 hc
    refine a_aload_n 0 dX8_laysLeft_60 rfl rfl ?_
    refine a_iload 4 dX8_laysLeft_61 rfl ?_
    refine a_iconst (v := 4) dX8_laysLeft_63 (by decide) ?_
    refine a_idiv dX8_laysLeft_64 (by decide) ?_
    refine c_VZ (As := [.int (v5 / 4)]) (rest := []) hv K_X8_112 sh_118 rfl rfl rfl (Nat.le_of_ble_eq_true rfl) (rok (by omega) (Nat.le_of_ble_eq_true rfl)) ⟨Nat.zero_le _, Nat.zero_le _⟩ dX8_laysLeft_65 (fun r65 I65 J65 hv => ?_)
    refine a_ifz_eq 141 dX8_laysLeft_68 rfl (fun hc => ?_) (fun hc => ?_)
    · replace hv := hv.1 hc
      refine a_iinc 4 (v5 + 1) [(5, .int (v5 + 1)), (0, .ref (ga g 118)), (1, .int v1), (2, .int (bI b2)), (4, .int v4)] dX8_laysLeft_141 rfl rfl (Nat.le_of_ble_eq_true rfl) rfl ?_
      refine a_goto 52 dX8_laysLeft_144 rfl ?_
      exact a_sub [1, 2, 3, 4, 0] rfl hv
    · replace hv := hv.2 hc
      refine a_iconst (v := 0) dX8_laysLeft_71 (by decide) ?_
      refine a_istore [(6, .int 0), (0, .ref (ga g 118)), (1, .int v1), (2, .int (bI b2)), (4, .int v4), (5, .int v5)] dX8_laysLeft_72 (Nat.le_of_ble_eq_true rfl) rfl ?_
      exact a_sub [1, 2, 3, 4, 5, 0] rfl hv
def VC_X8_laysLeft_41 (g : GT) (d : Nat) (v1 : Int32) (b2 : Bool) (v4 : Int32) (I : IT) (J : JT) (P : IT → JT → Prop) : Prop :=
  ((v4 = 0 → P I J) ∧ (¬ v4 = 0 → (Lp_X8_laysLeft_52 g d v1 b2 0 0 I J P)))
set_option maxRecDepth 4000 in
theorem w_X8_laysLeft_41 {g : GT} {d : Nat} {v1 : Int32} {b2 : Bool} {v4 : Int32} {I : IT} {J : JT} {P : IT → JT → Prop} (hv : VC_X8_laysLeft_41 g d v1 b2 v4 I J P) : Lp_X8_laysLeft_41 g d v1 b2 v4 I J P := by
  unfold VC_X8_laysLeft_41 at hv
  unfold Lp_X8_laysLeft_41
  refine a_iload 3 dX8_laysLeft_41 rfl ?_
  refine a_if_eq 150 dX8_laysLeft_43 rfl (fun hc => ?_) (fun hc => ?_)
  · replace hv := hv.1 hc
    exact a_vret rfl dX8_laysLeft_150 hv
  · replace hv := hv.2 hc
    refine a_iconst (v := 0) dX8_laysLeft_46 (by decide) ?_
    refine a_istore [(4, .int 0), (0, .ref (ga g 118)), (1, .int v1), (2, .int (bI b2))] dX8_laysLeft_47 (Nat.le_of_ble_eq_true rfl) rfl ?_
    refine a_iconst (v := 0) dX8_laysLeft_49 (by decide) ?_
    refine a_istore [(5, .int 0), (4, .int 0), (0, .ref (ga g 118)), (1, .int v1), (2, .int (bI b2))] dX8_laysLeft_50 (Nat.le_of_ble_eq_true rfl) rfl ?_
    exact a_sub [2, 3, 4, 1, 0] rfl hv
def VC_X8_laysLeft_3 (g : GT) (d : Nat) (v1 : Int32) (b2 : Bool) (v3 : Int32) (v4 : Int32) (I : IT) (J : JT) (P : IT → JT → Prop) : Prop :=
  ((192 ≤ v4 → (Lp_X8_laysLeft_41 g d v1 b2 1 I J P)) ∧ (¬ 192 ≤ v4 → ((¬ (v4 / 4) = v3 → (vp_in v4 192 ∧ (Lp_X8_laysLeft_3 g d v1 b2 v3 (v4 + 1) (sI I 124 v4.toNatClampNeg 1000000) J P))) ∧ ((v4 / 4) = v3 → (vp_in v4 192 ∧ (Lp_X8_laysLeft_3 g d v1 b2 v3 (v4 + 1) (sI I 124 v4.toNatClampNeg 0) J P))))))
set_option maxRecDepth 4000 in
theorem w_X8_laysLeft_3 {g : GT} {d : Nat} {v1 : Int32} {b2 : Bool} {v3 : Int32} {v4 : Int32} {I : IT} {J : JT} {P : IT → JT → Prop} (hv : VC_X8_laysLeft_3 g d v1 b2 v3 v4 I J P) : Lp_X8_laysLeft_3 g d v1 b2 v3 v4 I J P := by
  unfold VC_X8_laysLeft_3 at hv
  unfold Lp_X8_laysLeft_3
  refine a_iload 4 dX8_laysLeft_3 rfl ?_
  refine a_sipush (v := 192) dX8_laysLeft_5 (by decide) ?_
  refine a_icmp_ge 38 dX8_laysLeft_8 rfl (fun hc => ?_) (fun hc => ?_)
  · replace hv := hv.1 hc
    refine a_iconst (v := 1) dX8_laysLeft_38 (by decide) ?_
    refine a_istore [(4, .int 1), (0, .ref (ga g 118)), (1, .int v1), (2, .int (bI b2)), (3, .int v3)] dX8_laysLeft_39 (Nat.le_of_ble_eq_true rfl) rfl ?_
    exact a_sub [1, 2, 3, 0] rfl hv
  · replace hv := hv.2 hc
    refine a_aload_n 0 dX8_laysLeft_11 rfl rfl ?_
    refine a_getR (r := 124) G_X8_26 sh_118 rfl dX8_laysLeft_12 ?_
    refine a_iload 4 dX8_laysLeft_15 rfl ?_
    refine a_iload 4 dX8_laysLeft_17 rfl ?_
    refine a_iconst (v := 4) dX8_laysLeft_19 (by decide) ?_
    refine a_idiv dX8_laysLeft_20 (by decide) ?_
    refine a_iload_n 3 dX8_laysLeft_21 rfl rfl ?_
    refine a_icmp_ne 29 dX8_laysLeft_22 rfl (fun hc => ?_) (fun hc => ?_)
    · replace hv := hv.1 hc
      refine a_ldc (v := 1000000) dX8_laysLeft_29 ct_X8_165 ?_
      refine a_iast sh_124 hv.1 dX8_laysLeft_31 ?_
      replace hv := hv.2
      refine a_iinc 4 (v4 + 1) [(4, .int (v4 + 1)), (0, .ref (ga g 118)), (1, .int v1), (2, .int (bI b2)), (3, .int v3)] dX8_laysLeft_32 rfl rfl (Nat.le_of_ble_eq_true rfl) rfl ?_
      refine a_goto 3 dX8_laysLeft_35 rfl ?_
      exact a_sub [1, 2, 3, 4, 0] rfl hv
    · replace hv := hv.2 hc
      refine a_iconst (v := 0) dX8_laysLeft_25 (by decide) ?_
      refine a_goto 31 dX8_laysLeft_26 rfl ?_
      refine a_iast sh_124 hv.1 dX8_laysLeft_31 ?_
      replace hv := hv.2
      refine a_iinc 4 (v4 + 1) [(4, .int (v4 + 1)), (0, .ref (ga g 118)), (1, .int v1), (2, .int (bI b2)), (3, .int v3)] dX8_laysLeft_32 rfl rfl (Nat.le_of_ble_eq_true rfl) rfl ?_
      refine a_goto 3 dX8_laysLeft_35 rfl ?_
      exact a_sub [1, 2, 3, 4, 0] rfl hv
def VC_X8_laysLeft (g : GT) (d : Nat) (v1 : Int32) (b2 : Bool) (v3 : Int32) (I : IT) (J : JT) (P : IT → JT → Prop) : Prop :=
  (Lp_X8_laysLeft_3 g d v1 b2 v3 0 I J P)
set_option maxRecDepth 4000 in
theorem w_X8_laysLeft {g : GT} {d : Nat} {v1 : Int32} {b2 : Bool} {v3 : Int32} {I : IT} {J : JT} {P : IT → JT → Prop} (hv : VC_X8_laysLeft g d v1 b2 v3 I J P) : SemV g d M_X8_laysLeft [.ref (ga g 118), .int v1, .int (bI b2), .int v3] I J P := by
  unfold VC_X8_laysLeft at hv
  refine sem_intro (by decide +kernel) rfl (Nat.le_of_ble_eq_true rfl) ?_
  show AW _ 0 0 0 [(0, .ref (ga g 118)), (1, .int v1), (2, .int (bI b2)), (3, .int v3)] [] (cW g I J)
  refine a_iconst (v := 0) dX8_laysLeft_0 (by decide) ?_
  refine a_istore [(4, .int 0), (0, .ref (ga g 118)), (1, .int v1), (2, .int (bI b2)), (3, .int v3)] dX8_laysLeft_1 (Nat.le_of_ble_eq_true rfl) rfl ?_
  exact a_sub [1, 2, 3, 4, 0] rfl hv
def Lp_X8_course_129 (g : GT) (d : Nat) (v1 : Int32) (v4 : Int32) (b5 : Bool) (v6 : Int32) (v7 : Int32) (v8 : Int32) (v9 : Int32) (I : IT) (J : JT) (P : Int32 → IT → JT → Prop) : Prop := AW (kM g d M_X8_course 0 0 (qI g P)) 0 0 129 [(0, .ref (ga g 118)), (1, .int v1), (4, .int v4), (5, .int (bI b5)), (6, .int v6), (7, .int v7), (8, .int v8), (9, .int v9)] [] (cW g I J)
def Lp_X8_course_139 (g : GT) (d : Nat) (v1 : Int32) (v4 : Int32) (b5 : Bool) (v6 : Int32) (v7 : Int32) (v8 : Int32) (v9 : Int32) (I : IT) (J : JT) (P : Int32 → IT → JT → Prop) : Prop := AW (kM g d M_X8_course 0 0 (qI g P)) 0 0 139 [(0, .ref (ga g 118)), (1, .int v1), (4, .int v4), (5, .int (bI b5)), (6, .int v6), (7, .int v7), (8, .int v8), (9, .int v9)] [] (cW g I J)
def VC_X8_course_139 (g : GT) (d : Nat) (v1 : Int32) (v4 : Int32) (b5 : Bool) (v6 : Int32) (v7 : Int32) (v8 : Int32) (v9 : Int32) (I : IT) (J : JT) (P : Int32 → IT → JT → Prop) : Prop :=
  (SemI g (d - 1) M_X8_leads [.ref (ga g 118), .int v1, .int (bI b5), .int v6, .int v8] I J (fun r147 I147 J147 => ((r147 < 0 → (Lp_X8_course_139 g d v1 v4 b5 v6 v7 (v8 + 1) v9 I147 J147 P)) ∧ (¬ r147 < 0 → (SemI g (d - 1) M_X8_leads [.ref (ga g 118), .int v1, .int (bI b5), .int v6, .int v8] I147 J147 (fun r165 I165 J165 => (vp_in r165 192 ∧ (((I165 124 r165.toNatClampNeg) = ((v7 - v9) - 1) → (SemI g (d - 1) M_X8_leads [.ref (ga g 118), .int v1, .int (bI b5), .int v6, .int v8] I165 J165 (fun r193 I193 J193 => (Lp_X8_course_129 g d v1 v4 b5 r193 v7 v8 (v9 + 1) I193 J193 P)))) ∧ (¬ (I165 124 r165.toNatClampNeg) = ((v7 - v9) - 1) → (Lp_X8_course_139 g d v1 v4 b5 v6 v7 (v8 + 1) v9 I165 J165 P))))))))))
set_option maxRecDepth 4000 in
theorem w_X8_course_139 {g : GT} {d : Nat} {v1 : Int32} {v4 : Int32} {b5 : Bool} {v6 : Int32} {v7 : Int32} {v8 : Int32} {v9 : Int32} {I : IT} {J : JT} {P : Int32 → IT → JT → Prop} (hd : 1 ≤ d) (hv : VC_X8_course_139 g d v1 v4 b5 v6 v7 v8 v9 I J P) : Lp_X8_course_139 g d v1 v4 b5 v6 v7 v8 v9 I J P := by
  unfold VC_X8_course_139 at hv
  unfold Lp_X8_course_139
  refine a_aload_n 0 dX8_course_139 rfl rfl ?_
  refine a_iload_n 1 dX8_course_140 rfl rfl ?_
  refine a_iload 3 dX8_course_141 rfl ?_
  refine a_iload 4 dX8_course_143 rfl ?_
  refine a_iload 6 dX8_course_145 rfl ?_
  refine c_VI (As := [.int v1, .int (bI b5), .int v6, .int v8]) (rest := []) hv K_X8_166 sh_118 rfl rfl rfl (Nat.le_of_ble_eq_true rfl) (rok (by omega) (Nat.le_of_ble_eq_true rfl)) ⟨Nat.zero_le _, Nat.zero_le _⟩ dX8_course_147 (fun r147 I147 J147 hv => ?_)
  refine a_if_lt 179 dX8_course_150 rfl (fun hc => ?_) (fun hc => ?_)
  · replace hv := hv.1 hc
    refine a_iinc 6 (v8 + 1) [(8, .int (v8 + 1)), (0, .ref (ga g 118)), (1, .int v1), (4, .int v4), (5, .int (bI b5)), (6, .int v6), (7, .int v7), (9, .int v9)] dX8_course_179 rfl rfl (Nat.le_of_ble_eq_true rfl) rfl ?_
    refine a_goto 139 dX8_course_182 rfl ?_
    exact a_sub [1, 2, 3, 4, 5, 6, 0, 7] rfl hv
  · replace hv := hv.2 hc
    refine a_aload_n 0 dX8_course_153 rfl rfl ?_
    refine a_getR (r := 124) G_X8_26 sh_118 rfl dX8_course_154 ?_
    refine a_aload_n 0 dX8_course_157 rfl rfl ?_
    refine a_iload_n 1 dX8_course_158 rfl rfl ?_
    refine a_iload 3 dX8_course_159 rfl ?_
    refine a_iload 4 dX8_course_161 rfl ?_
    refine a_iload 6 dX8_course_163 rfl ?_
    refine c_VI (As := [.int v1, .int (bI b5), .int v6, .int v8]) (rest := [.ref (ga g 124)]) hv K_X8_166 sh_118 rfl rfl rfl (Nat.le_of_ble_eq_true rfl) (rok (by omega) (Nat.le_of_ble_eq_true rfl)) ⟨Nat.zero_le _, Nat.zero_le _⟩ dX8_course_165 (fun r165 I165 J165 hv => ?_)
    refine a_iald sh_124 hv.1 dX8_course_168 ?_
    replace hv := hv.2
    refine a_iload 5 dX8_course_169 rfl ?_
    refine a_iload 7 dX8_course_171 rfl ?_
    refine a_isub dX8_course_173 ?_
    refine a_iconst (v := 1) dX8_course_174 (by decide) ?_
    refine a_isub dX8_course_175 ?_
    refine a_icmp_eq 185 dX8_course_176 rfl (fun hc => ?_) (fun hc => ?_)
    · replace hv := hv.1 hc
      refine a_aload_n 0 dX8_course_185 rfl rfl ?_
      refine a_iload_n 1 dX8_course_186 rfl rfl ?_
      refine a_iload 3 dX8_course_187 rfl ?_
      refine a_iload 4 dX8_course_189 rfl ?_
      refine a_iload 6 dX8_course_191 rfl ?_
      refine c_VI (As := [.int v1, .int (bI b5), .int v6, .int v8]) (rest := []) hv K_X8_166 sh_118 rfl rfl rfl (Nat.le_of_ble_eq_true rfl) (rok (by omega) (Nat.le_of_ble_eq_true rfl)) ⟨Nat.zero_le _, Nat.zero_le _⟩ dX8_course_193 (fun r193 I193 J193 hv => ?_)
      refine a_istore [(6, .int r193), (0, .ref (ga g 118)), (1, .int v1), (4, .int v4), (5, .int (bI b5)), (7, .int v7), (8, .int v8), (9, .int v9)] dX8_course_196 (Nat.le_of_ble_eq_true rfl) rfl ?_
      refine a_iinc 7 (v9 + 1) [(9, .int (v9 + 1)), (6, .int r193), (0, .ref (ga g 118)), (1, .int v1), (4, .int v4), (5, .int (bI b5)), (7, .int v7), (8, .int v8)] dX8_course_198 rfl rfl (Nat.le_of_ble_eq_true rfl) rfl ?_
      refine a_goto 129 dX8_course_201 rfl ?_
      exact a_sub [2, 3, 4, 5, 1, 6, 7, 0] rfl hv
    · replace hv := hv.2 hc
      refine a_iinc 6 (v8 + 1) [(8, .int (v8 + 1)), (0, .ref (ga g 118)), (1, .int v1), (4, .int v4), (5, .int (bI b5)), (6, .int v6), (7, .int v7), (9, .int v9)] dX8_course_179 rfl rfl (Nat.le_of_ble_eq_true rfl) rfl ?_
      refine a_goto 139 dX8_course_182 rfl ?_
      exact a_sub [1, 2, 3, 4, 5, 6, 0, 7] rfl hv
def VC_X8_course_129 (g : GT) (d : Nat) (v1 : Int32) (v4 : Int32) (b5 : Bool) (v6 : Int32) (v7 : Int32) (v8 : Int32) (v9 : Int32) (I : IT) (J : JT) (P : Int32 → IT → JT → Prop) : Prop :=
  ((v4 < v9 → P v8 I J) ∧ (¬ v4 < v9 → (Lp_X8_course_139 g d v1 v4 b5 v6 v7 0 v9 I J P)))
set_option maxRecDepth 4000 in
theorem w_X8_course_129 {g : GT} {d : Nat} {v1 : Int32} {v4 : Int32} {b5 : Bool} {v6 : Int32} {v7 : Int32} {v8 : Int32} {v9 : Int32} {I : IT} {J : JT} {P : Int32 → IT → JT → Prop} (hv : VC_X8_course_129 g d v1 v4 b5 v6 v7 v8 v9 I J P) : Lp_X8_course_129 g d v1 v4 b5 v6 v7 v8 v9 I J P := by
  unfold VC_X8_course_129 at hv
  unfold Lp_X8_course_129
  refine a_iload 7 dX8_course_129 rfl ?_
  refine a_iload 2 dX8_course_131 rfl ?_
  refine a_icmp_gt 204 dX8_course_133 rfl (fun hc => ?_) (fun hc => ?_)
  · replace hv := hv.1 hc
    refine a_iload 6 dX8_course_204 rfl ?_
    exact a_iret rfl dX8_course_206 hv
  · replace hv := hv.2 hc
    refine a_iconst (v := 0) dX8_course_136 (by decide) ?_
    refine a_istore [(8, .int 0), (0, .ref (ga g 118)), (1, .int v1), (4, .int v4), (5, .int (bI b5)), (6, .int v6), (7, .int v7), (9, .int v9)] dX8_course_137 (Nat.le_of_ble_eq_true rfl) rfl ?_
    exact a_sub [1, 2, 3, 4, 5, 6, 0, 7] rfl hv
def VC_X8_course (g : GT) (d : Nat) (v1 : Int32) (v2 : Int32) (v3 : Int32) (v4 : Int32) (I : IT) (J : JT) (P : Int32 → IT → JT → Prop) : Prop :=
  (SemZ g (d - 1) M_X8_isShip [.ref (ga g 118), .int v1] I J (fun r2 I2 J2 => ((r2 = false → P (-1) I2 J2) ∧ (r2 = true → (SemZ g (d - 1) M_X8_isTeller [.int v2] I2 J2 (fun r9 I9 J9 => ((r9 = false → P (-1) I9 J9) ∧ (r9 = true → (SemZ g (d - 1) M_X8_isCell [.ref (ga g 118), .int v3] I9 J9 (fun r17 I17 J17 => ((r17 = false → P (-1) I17 J17) ∧ (r17 = true → (((-1) ≤ v4 → (vp_in (3 + v3) 952 ∧ ((¬ (I17 119 (3 + v3).toNatClampNeg) = 1 → (SemZ g (d - 1) M_X8_believesIn [.ref (ga g 118), .int 0, .int v1, .int v2] I17 J17 (fun r50 I50 J50 => (SemV g (d - 1) M_X8_laysLeft [.ref (ga g 118), .int v1, .int (bI r50), .int v3] I50 J50 (fun I60 J60 => (vp_in (58 + v1) 952 ∧ (vp_in (64 + v1) 952 ∧ (vp_in ((4 * (I60 119 (58 + v1).toNatClampNeg)) + (I60 119 (64 + v1).toNatClampNeg)) 192 ∧ (((I60 124 ((4 * (I60 119 (58 + v1).toNatClampNeg)) + (I60 119 (64 + v1).toNatClampNeg)).toNatClampNeg) < 1000000 → ((0 ≤ v4 → ((v4 < (I60 124 ((4 * (I60 119 (58 + v1).toNatClampNeg)) + (I60 119 (64 + v1).toNatClampNeg)).toNatClampNeg) → (Lp_X8_course_129 g d v1 v4 r50 ((4 * (I60 119 (58 + v1).toNatClampNeg)) + (I60 119 (64 + v1).toNatClampNeg)) (I60 124 ((4 * (I60 119 (58 + v1).toNatClampNeg)) + (I60 119 (64 + v1).toNatClampNeg)).toNatClampNeg) 0 0 I60 J60 P)) ∧ (¬ v4 < (I60 124 ((4 * (I60 119 (58 + v1).toNatClampNeg)) + (I60 119 (64 + v1).toNatClampNeg)).toNatClampNeg) → P (-4) I60 J60))) ∧ (¬ 0 ≤ v4 → P (I60 124 ((4 * (I60 119 (58 + v1).toNatClampNeg)) + (I60 119 (64 + v1).toNatClampNeg)).toNatClampNeg) I60 J60))) ∧ (¬ (I60 124 ((4 * (I60 119 (58 + v1).toNatClampNeg)) + (I60 119 (64 + v1).toNatClampNeg)).toNatClampNeg) < 1000000 → P (-4) I60 J60)))))))))) ∧ ((I17 119 (3 + v3).toNatClampNeg) = 1 → P (-2) I17 J17)))) ∧ (¬ (-1) ≤ v4 → P (-1) I17 J17))))))))))))))
set_option maxRecDepth 4000 in
theorem w_X8_course {g : GT} {d : Nat} {v1 : Int32} {v2 : Int32} {v3 : Int32} {v4 : Int32} {I : IT} {J : JT} {P : Int32 → IT → JT → Prop} (hd : 1 ≤ d) (hv : VC_X8_course g d v1 v2 v3 v4 I J P) : SemI g d M_X8_course [.ref (ga g 118), .int v1, .int v2, .int v3, .int v4] I J P := by
  unfold VC_X8_course at hv
  refine sem_intro (by decide +kernel) rfl (Nat.le_of_ble_eq_true rfl) ?_
  show AW _ 0 0 0 [(0, .ref (ga g 118)), (1, .int v1), (2, .int v2), (3, .int v3), (4, .int v4)] [] (cW g I J)
  refine a_aload_n 0 dX8_course_0 rfl rfl ?_
  refine a_iload_n 1 dX8_course_1 rfl rfl ?_
  refine c_VZ (As := [.int v1]) (rest := []) hv K_X8_103 sh_118 rfl rfl rfl (Nat.le_of_ble_eq_true rfl) (rok (by omega) (Nat.le_of_ble_eq_true rfl)) ⟨Nat.zero_le _, Nat.zero_le _⟩ dX8_course_2 (fun r2 I2 J2 hv => ?_)
  refine a_ifz_eq 29 dX8_course_5 rfl (fun hc => ?_) (fun hc => ?_)
  · replace hv := hv.1 hc
    refine a_iconst (v := (-1)) dX8_course_29 (by decide) ?_
    exact a_iret rfl dX8_course_30 hv
  · replace hv := hv.2 hc
    refine a_iload_n 2 dX8_course_8 rfl rfl ?_
    refine c_SZ (As := [.int v2]) (rest := []) hv K_X8_118 rfl rfl (Nat.le_of_ble_eq_true rfl) (rok (by omega) (Nat.le_of_ble_eq_true rfl)) ⟨Nat.zero_le _, Nat.zero_le _⟩ dX8_course_9 (fun r9 I9 J9 hv => ?_)
    refine a_ifz_eq 29 dX8_course_12 rfl (fun hc => ?_) (fun hc => ?_)
    · replace hv := hv.1 hc
      refine a_iconst (v := (-1)) dX8_course_29 (by decide) ?_
      exact a_iret rfl dX8_course_30 hv
    · replace hv := hv.2 hc
      refine a_aload_n 0 dX8_course_15 rfl rfl ?_
      refine a_iload_n 3 dX8_course_16 rfl rfl ?_
      refine c_VZ (As := [.int v3]) (rest := []) hv K_X8_112 sh_118 rfl rfl rfl (Nat.le_of_ble_eq_true rfl) (rok (by omega) (Nat.le_of_ble_eq_true rfl)) ⟨Nat.zero_le _, Nat.zero_le _⟩ dX8_course_17 (fun r17 I17 J17 hv => ?_)
      refine a_ifz_eq 29 dX8_course_20 rfl (fun hc => ?_) (fun hc => ?_)
      · replace hv := hv.1 hc
        refine a_iconst (v := (-1)) dX8_course_29 (by decide) ?_
        exact a_iret rfl dX8_course_30 hv
      · replace hv := hv.2 hc
        refine a_iload 4 dX8_course_23 rfl ?_
        refine a_iconst (v := (-1)) dX8_course_25 (by decide) ?_
        refine a_icmp_ge 31 dX8_course_26 rfl (fun hc => ?_) (fun hc => ?_)
        · replace hv := hv.1 hc
          refine a_aload_n 0 dX8_course_31 rfl rfl ?_
          refine a_getR (r := 119) G_X8_7 sh_118 rfl dX8_course_32 ?_
          refine a_iconst (v := 3) dX8_course_35 (by decide) ?_
          refine a_iload_n 3 dX8_course_36 rfl rfl ?_
          refine a_iadd dX8_course_37 ?_
          refine a_iald sh_119 hv.1 dX8_course_38 ?_
          replace hv := hv.2
          refine a_iconst (v := 1) dX8_course_39 (by decide) ?_
          refine a_icmp_ne 46 dX8_course_40 rfl (fun hc => ?_) (fun hc => ?_)
          · replace hv := hv.1 hc
            refine a_aload_n 0 dX8_course_46 rfl rfl ?_
            refine a_iconst (v := 0) dX8_course_47 (by decide) ?_
            refine a_iload_n 1 dX8_course_48 rfl rfl ?_
            refine a_iload_n 2 dX8_course_49 rfl rfl ?_
            refine c_VZ (As := [.int 0, .int v1, .int v2]) (rest := []) hv K_X8_136 sh_118 rfl rfl rfl (Nat.le_of_ble_eq_true rfl) (rok (by omega) (Nat.le_of_ble_eq_true rfl)) ⟨Nat.zero_le _, Nat.zero_le _⟩ dX8_course_50 (fun r50 I50 J50 hv => ?_)
            refine a_istore [(5, .int (bI r50)), (0, .ref (ga g 118)), (1, .int v1), (2, .int v2), (3, .int v3), (4, .int v4)] dX8_course_53 (Nat.le_of_ble_eq_true rfl) rfl ?_
            refine a_aload_n 1 dX8_course_55 rfl rfl ?_
            refine a_iload_n 2 dX8_course_56 rfl rfl ?_
            refine a_iload 0 dX8_course_57 rfl ?_
            refine a_iload_n 4 dX8_course_59 rfl rfl ?_
            refine c_VV (As := [.int v1, .int (bI r50), .int v3]) (rest := []) hv K_X8_170 sh_118 rfl rfl rfl (Nat.le_of_ble_eq_true rfl) (rok (by omega) (Nat.le_of_ble_eq_true rfl)) ⟨Nat.zero_le _, Nat.zero_le _⟩ dX8_course_60 (fun I60 J60 hv => ?_)
            refine a_iconst (v := 4) dX8_course_63 (by decide) ?_
            refine a_aload_n 1 dX8_course_64 rfl rfl ?_
            refine a_getR (r := 119) G_X8_7 sh_118 rfl dX8_course_65 ?_
            refine a_bipush (v := 58) dX8_course_68 (by decide) ?_
            refine a_iload_n 2 dX8_course_70 rfl rfl ?_
            refine a_iadd dX8_course_71 ?_
            refine a_iald sh_119 hv.1 dX8_course_72 ?_
            replace hv := hv.2
            refine a_imul dX8_course_73 ?_
            refine a_aload_n 1 dX8_course_74 rfl rfl ?_
            refine a_getR (r := 119) G_X8_7 sh_118 rfl dX8_course_75 ?_
            refine a_bipush (v := 64) dX8_course_78 (by decide) ?_
            refine a_iload_n 2 dX8_course_80 rfl rfl ?_
            refine a_iadd dX8_course_81 ?_
            refine a_iald sh_119 hv.1 dX8_course_82 ?_
            replace hv := hv.2
            refine a_iadd dX8_course_83 ?_
            refine a_istore [(6, .int ((4 * (I60 119 (58 + v1).toNatClampNeg)) + (I60 119 (64 + v1).toNatClampNeg))), (5, .int (bI r50)), (0, .ref (ga g 118)), (1, .int v1), (2, .int v2), (3, .int v3), (4, .int v4)] dX8_course_84 (Nat.le_of_ble_eq_true rfl) rfl ?_
            refine a_aload_n 2 dX8_course_86 rfl rfl ?_
            refine a_getR (r := 124) G_X8_26 sh_118 rfl dX8_course_87 ?_
            refine a_iload 0 dX8_course_90 rfl ?_
            refine a_iald sh_124 hv.1 dX8_course_92 ?_
            replace hv := hv.2
            refine a_istore [(7, .int (I60 124 ((4 * (I60 119 (58 + v1).toNatClampNeg)) + (I60 119 (64 + v1).toNatClampNeg)).toNatClampNeg)), (6, .int ((4 * (I60 119 (58 + v1).toNatClampNeg)) + (I60 119 (64 + v1).toNatClampNeg))), (5, .int (bI r50)), (0, .ref (ga g 118)), (1, .int v1), (2, .int v2), (3, .int v3), (4, .int v4)] dX8_course_93 (Nat.le_of_ble_eq_true rfl) rfl ?_
            refine a_iload 0 dX8_course_95 rfl ?_
            refine a_ldc (v := 1000000) dX8_course_97 ct_X8_165 ?_
            refine a_icmp_lt 105 dX8_course_99 rfl (fun hc => ?_) (fun hc => ?_)
            · replace hv := hv.1 hc
              refine a_iload 7 dX8_course_105 rfl ?_
              refine a_if_ge 113 dX8_course_107 rfl (fun hc => ?_) (fun hc => ?_)
              · replace hv := hv.1 hc
                refine a_iload 7 dX8_course_113 rfl ?_
                refine a_iload 0 dX8_course_115 rfl ?_
                refine a_icmp_lt 123 dX8_course_117 rfl (fun hc => ?_) (fun hc => ?_)
                · replace hv := hv.1 hc
                  refine a_iconst (v := 0) dX8_course_123 (by decide) ?_
                  refine a_istore [(8, .int 0), (7, .int (I60 124 ((4 * (I60 119 (58 + v1).toNatClampNeg)) + (I60 119 (64 + v1).toNatClampNeg)).toNatClampNeg)), (6, .int ((4 * (I60 119 (58 + v1).toNatClampNeg)) + (I60 119 (64 + v1).toNatClampNeg))), (5, .int (bI r50)), (0, .ref (ga g 118)), (1, .int v1), (2, .int v2), (3, .int v3), (4, .int v4)] dX8_course_124 (Nat.le_of_ble_eq_true rfl) rfl ?_
                  refine a_iconst (v := 0) dX8_course_126 (by decide) ?_
                  refine a_istore [(9, .int 0), (8, .int 0), (7, .int (I60 124 ((4 * (I60 119 (58 + v1).toNatClampNeg)) + (I60 119 (64 + v1).toNatClampNeg)).toNatClampNeg)), (6, .int ((4 * (I60 119 (58 + v1).toNatClampNeg)) + (I60 119 (64 + v1).toNatClampNeg))), (5, .int (bI r50)), (0, .ref (ga g 118)), (1, .int v1), (2, .int v2), (3, .int v3), (4, .int v4)] dX8_course_127 (Nat.le_of_ble_eq_true rfl) rfl ?_
                  exact a_sub [5, 6, 9, 4, 3, 2, 1, 0] rfl hv
                · replace hv := hv.2 hc
                  refine a_bipush (v := (-4)) dX8_course_120 (by decide) ?_
                  exact a_iret rfl dX8_course_122 hv
              · replace hv := hv.2 hc
                refine a_iload 0 dX8_course_110 rfl ?_
                exact a_iret rfl dX8_course_112 hv
            · replace hv := hv.2 hc
              refine a_bipush (v := (-4)) dX8_course_102 (by decide) ?_
              exact a_iret rfl dX8_course_104 hv
          · replace hv := hv.2 hc
            refine a_bipush (v := (-2)) dX8_course_43 (by decide) ?_
            exact a_iret rfl dX8_course_45 hv
        · replace hv := hv.2 hc
          refine a_iconst (v := (-1)) dX8_course_29 (by decide) ?_
          exact a_iret rfl dX8_course_30 hv
def Lp_X8_bestCrew_11 (g : GT) (d : Nat) (v1 : Int32) (v2 : Int32) (I : IT) (J : JT) (P : Int32 → IT → JT → Prop) : Prop := AW (kM g d M_X8_bestCrew 0 0 (qI g P)) 0 0 11 [(0, .ref (ga g 118)), (1, .int v1), (2, .int v2)] [] (cW g I J)
def Lp_X8_bestCrew_23 (g : GT) (d : Nat) (v1 : Int32) (v2 : Int32) (v3 : Int32) (v4 : Int32) (v5 : Int32) (I : IT) (J : JT) (P : Int32 → IT → JT → Prop) : Prop := AW (kM g d M_X8_bestCrew 0 0 (qI g P)) 0 0 23 [(0, .ref (ga g 118)), (1, .int v1), (2, .int v2), (3, .int v3), (4, .int v4), (5, .int v5)] [] (cW g I J)
def Lp_X8_bestCrew_152 (g : GT) (d : Nat) (v1 : Int32) (v2 : Int32) (v3 : Int32) (v5 : Int32) (I : IT) (J : JT) (P : Int32 → IT → JT → Prop) : Prop := AW (kM g d M_X8_bestCrew 0 0 (qI g P)) 0 0 152 [(0, .ref (ga g 118)), (1, .int v1), (2, .int v2), (3, .int v3), (5, .int v5)] [] (cW g I J)
def Lp_X8_bestCrew_105 (g : GT) (d : Nat) (v1 : Int32) (v2 : Int32) (v5 : Int32) (I : IT) (J : JT) (P : Int32 → IT → JT → Prop) : Prop := AW (kM g d M_X8_bestCrew 0 0 (qI g P)) 0 0 105 [(0, .ref (ga g 118)), (1, .int v1), (2, .int v2), (5, .int v5)] [] (cW g I J)
def VC_X8_bestCrew_105 (g : GT) (d : Nat) (v1 : Int32) (v2 : Int32) (v5 : Int32) (I : IT) (J : JT) (P : Int32 → IT → JT → Prop) : Prop :=
  (((I 119 0) ≤ v5 → (Lp_X8_bestCrew_11 g d v1 (v2 + (-1)) I J P)) ∧ (¬ (I 119 0) ≤ v5 → (vp_in v5 7 ∧ (vp_in v5 6 ∧ (Lp_X8_bestCrew_105 g d v1 v2 (v5 + 1) (sI I 126 v5.toNatClampNeg (I 125 v5.toNatClampNeg)) J P)))))
set_option maxRecDepth 4000 in
theorem w_X8_bestCrew_105 {g : GT} {d : Nat} {v1 : Int32} {v2 : Int32} {v5 : Int32} {I : IT} {J : JT} {P : Int32 → IT → JT → Prop} (hv : VC_X8_bestCrew_105 g d v1 v2 v5 I J P) : Lp_X8_bestCrew_105 g d v1 v2 v5 I J P := by
  unfold VC_X8_bestCrew_105 at hv
  unfold Lp_X8_bestCrew_105
  refine a_iload 3 dX8_bestCrew_105 rfl ?_
  refine a_aload_n 0 dX8_bestCrew_107 rfl rfl ?_
  refine a_getR (r := 119) G_X8_7 sh_118 rfl dX8_bestCrew_108 ?_
  refine a_iconst (v := 0) dX8_bestCrew_111 (by decide) ?_
  refine a_iald sh_119 (by unfold vp_in; decide) dX8_bestCrew_112 ?_
  refine a_icmp_ge 136 dX8_bestCrew_113 rfl (fun hc => ?_) (fun hc => ?_)
  · replace hv := hv.1 hc
    refine a_iinc 2 (v2 + (-1)) [(2, .int (v2 + (-1))), (0, .ref (ga g 118)), (1, .int v1), (5, .int v5)] dX8_bestCrew_136 rfl rfl (Nat.le_of_ble_eq_true rfl) rfl ?_
    refine a_goto 214 dX8_bestCrew_139 rfl ?_
    refine a_goto 11 dX8_bestCrew_214 rfl ?_
    exact a_sub [1, 2, 0] rfl hv
  · replace hv := hv.2 hc
    refine a_aload_n 0 dX8_bestCrew_116 rfl rfl ?_
    refine a_getR (r := 126) G_X8_32 sh_118 rfl dX8_bestCrew_117 ?_
    refine a_iload 3 dX8_bestCrew_120 rfl ?_
    refine a_aload_n 0 dX8_bestCrew_122 rfl rfl ?_
    refine a_getR (r := 125) G_X8_29 sh_118 rfl dX8_bestCrew_123 ?_
    refine a_iload 3 dX8_bestCrew_126 rfl ?_
    refine a_iald sh_125 hv.1 dX8_bestCrew_128 ?_
    replace hv := hv.2
    refine a_iast sh_126 hv.1 dX8_bestCrew_129 ?_
    replace hv := hv.2
    refine a_iinc 3 (v5 + 1) [(5, .int (v5 + 1)), (0, .ref (ga g 118)), (1, .int v1), (2, .int v2)] dX8_bestCrew_130 rfl rfl (Nat.le_of_ble_eq_true rfl) rfl ?_
    refine a_goto 105 dX8_bestCrew_133 rfl ?_
    exact a_sub [1, 2, 3, 0] rfl hv
def VC_X8_bestCrew_152 (g : GT) (d : Nat) (v1 : Int32) (v2 : Int32) (v3 : Int32) (v5 : Int32) (I : IT) (J : JT) (P : Int32 → IT → JT → Prop) : Prop :=
  ((4 ≤ v5 → (vp_in v2 7 ∧ ((v5 ≤ 4 → (vp_in (v2 + 1) 7 ∧ (Lp_X8_bestCrew_11 g d v1 (v2 + 1) (sI (sI I 125 v2.toNatClampNeg v5) 125 (v2 + 1).toNatClampNeg (-1)) J P))) ∧ (¬ v5 ≤ 4 → (Lp_X8_bestCrew_11 g d v1 (v2 + (-1)) (sI I 125 v2.toNatClampNeg v5) J P))))) ∧ (¬ 4 ≤ v5 → (SemZ g (d - 1) M_X8_has [.int v3, .int v5] I J (fun r161 I161 J161 => ((r161 = true → (Lp_X8_bestCrew_152 g d v1 v2 v3 (v5 + 1) I161 J161 P)) ∧ (r161 = false → (SemZ g (d - 1) M_X8_believesIn [.ref (ga g 118), .int 0, .int v2, .int v5] I161 J161 (fun r172 I172 J172 => ((r172 = true → (vp_in v2 7 ∧ ((v5 ≤ 4 → (vp_in (v2 + 1) 7 ∧ (Lp_X8_bestCrew_11 g d v1 (v2 + 1) (sI (sI I172 125 v2.toNatClampNeg v5) 125 (v2 + 1).toNatClampNeg (-1)) J172 P))) ∧ (¬ v5 ≤ 4 → (Lp_X8_bestCrew_11 g d v1 (v2 + (-1)) (sI I172 125 v2.toNatClampNeg v5) J172 P))))) ∧ (r172 = false → (Lp_X8_bestCrew_152 g d v1 v2 v3 (v5 + 1) I172 J172 P)))))))))))
set_option maxRecDepth 4000 in
theorem w_X8_bestCrew_152 {g : GT} {d : Nat} {v1 : Int32} {v2 : Int32} {v3 : Int32} {v5 : Int32} {I : IT} {J : JT} {P : Int32 → IT → JT → Prop} (hd : 1 ≤ d) (hv : VC_X8_bestCrew_152 g d v1 v2 v3 v5 I J P) : Lp_X8_bestCrew_152 g d v1 v2 v3 v5 I J P := by
  unfold VC_X8_bestCrew_152 at hv
  unfold Lp_X8_bestCrew_152
  refine a_iload 4 dX8_bestCrew_152 rfl ?_
  refine a_iconst (v := 4) dX8_bestCrew_154 (by decide) ?_
  refine a_icmp_ge 184 dX8_bestCrew_155 rfl (fun hc => ?_) (fun hc => ?_)
  · replace hv := hv.1 hc
    refine a_aload_n 0 dX8_bestCrew_184 rfl rfl ?_
    refine a_getR (r := 125) G_X8_29 sh_118 rfl dX8_bestCrew_185 ?_
    refine a_iload_n 2 dX8_bestCrew_188 rfl rfl ?_
    refine a_iload 4 dX8_bestCrew_189 rfl ?_
    refine a_iast sh_125 hv.1 dX8_bestCrew_191 ?_
    replace hv := hv.2
    refine a_iload 4 dX8_bestCrew_192 rfl ?_
    refine a_iconst (v := 4) dX8_bestCrew_194 (by decide) ?_
    refine a_icmp_le 204 dX8_bestCrew_195 rfl (fun hc => ?_) (fun hc => ?_)
    · replace hv := hv.1 hc
      refine a_iinc 2 (v2 + 1) [(2, .int (v2 + 1)), (0, .ref (ga g 118)), (1, .int v1), (3, .int v3), (5, .int v5)] dX8_bestCrew_204 rfl rfl (Nat.le_of_ble_eq_true rfl) rfl ?_
      refine a_aload_n 1 dX8_bestCrew_207 rfl rfl ?_
      refine a_getR (r := 125) G_X8_29 sh_118 rfl dX8_bestCrew_208 ?_
      refine a_iload_n 0 dX8_bestCrew_211 rfl rfl ?_
      refine a_iconst (v := (-1)) dX8_bestCrew_212 (by decide) ?_
      refine a_iast sh_125 hv.1 dX8_bestCrew_213 ?_
      replace hv := hv.2
      refine a_goto 11 dX8_bestCrew_214 rfl ?_
      exact a_sub [1, 2, 0] rfl hv
    · replace hv := hv.2 hc
      refine a_iinc 2 (v2 + (-1)) [(2, .int (v2 + (-1))), (0, .ref (ga g 118)), (1, .int v1), (3, .int v3), (5, .int v5)] dX8_bestCrew_198 rfl rfl (Nat.le_of_ble_eq_true rfl) rfl ?_
      refine a_goto 214 dX8_bestCrew_201 rfl ?_
      refine a_goto 11 dX8_bestCrew_214 rfl ?_
      exact a_sub [1, 2, 0] rfl hv
  · replace hv := hv.2 hc
    refine a_iload_n 3 dX8_bestCrew_158 rfl rfl ?_
    refine a_iload 4 dX8_bestCrew_159 rfl ?_
    refine c_SZ (As := [.int v3, .int v5]) (rest := []) hv K_X8_174 rfl rfl (Nat.le_of_ble_eq_true rfl) (rok (by omega) (Nat.le_of_ble_eq_true rfl)) ⟨Nat.zero_le _, Nat.zero_le _⟩ dX8_bestCrew_161 (fun r161 I161 J161 hv => ?_)
    refine a_ifz_ne 178 dX8_bestCrew_164 rfl (fun hc => ?_) (fun hc => ?_)
    · replace hv := hv.1 hc
      refine a_iinc 4 (v5 + 1) [(5, .int (v5 + 1)), (0, .ref (ga g 118)), (1, .int v1), (2, .int v2), (3, .int v3)] dX8_bestCrew_178 rfl rfl (Nat.le_of_ble_eq_true rfl) rfl ?_
      refine a_goto 152 dX8_bestCrew_181 rfl ?_
      exact a_sub [1, 2, 3, 4, 0] rfl hv
    · replace hv := hv.2 hc
      refine a_aload_n 0 dX8_bestCrew_167 rfl rfl ?_
      refine a_iconst (v := 0) dX8_bestCrew_168 (by decide) ?_
      refine a_iload_n 2 dX8_bestCrew_169 rfl rfl ?_
      refine a_iload 4 dX8_bestCrew_170 rfl ?_
      refine c_VZ (As := [.int 0, .int v2, .int v5]) (rest := []) hv K_X8_136 sh_118 rfl rfl rfl (Nat.le_of_ble_eq_true rfl) (rok (by omega) (Nat.le_of_ble_eq_true rfl)) ⟨Nat.zero_le _, Nat.zero_le _⟩ dX8_bestCrew_172 (fun r172 I172 J172 hv => ?_)
      refine a_ifz_ne 184 dX8_bestCrew_175 rfl (fun hc => ?_) (fun hc => ?_)
      · replace hv := hv.1 hc
        refine a_aload_n 0 dX8_bestCrew_184 rfl rfl ?_
        refine a_getR (r := 125) G_X8_29 sh_118 rfl dX8_bestCrew_185 ?_
        refine a_iload_n 2 dX8_bestCrew_188 rfl rfl ?_
        refine a_iload 4 dX8_bestCrew_189 rfl ?_
        refine a_iast sh_125 hv.1 dX8_bestCrew_191 ?_
        replace hv := hv.2
        refine a_iload 4 dX8_bestCrew_192 rfl ?_
        refine a_iconst (v := 4) dX8_bestCrew_194 (by decide) ?_
        refine a_icmp_le 204 dX8_bestCrew_195 rfl (fun hc => ?_) (fun hc => ?_)
        · replace hv := hv.1 hc
          refine a_iinc 2 (v2 + 1) [(2, .int (v2 + 1)), (0, .ref (ga g 118)), (1, .int v1), (3, .int v3), (5, .int v5)] dX8_bestCrew_204 rfl rfl (Nat.le_of_ble_eq_true rfl) rfl ?_
          refine a_aload_n 1 dX8_bestCrew_207 rfl rfl ?_
          refine a_getR (r := 125) G_X8_29 sh_118 rfl dX8_bestCrew_208 ?_
          refine a_iload_n 0 dX8_bestCrew_211 rfl rfl ?_
          refine a_iconst (v := (-1)) dX8_bestCrew_212 (by decide) ?_
          refine a_iast sh_125 hv.1 dX8_bestCrew_213 ?_
          replace hv := hv.2
          refine a_goto 11 dX8_bestCrew_214 rfl ?_
          exact a_sub [1, 2, 0] rfl hv
        · replace hv := hv.2 hc
          refine a_iinc 2 (v2 + (-1)) [(2, .int (v2 + (-1))), (0, .ref (ga g 118)), (1, .int v1), (3, .int v3), (5, .int v5)] dX8_bestCrew_198 rfl rfl (Nat.le_of_ble_eq_true rfl) rfl ?_
          refine a_goto 214 dX8_bestCrew_201 rfl ?_
          refine a_goto 11 dX8_bestCrew_214 rfl ?_
          exact a_sub [1, 2, 0] rfl hv
      · replace hv := hv.2 hc
        refine a_iinc 4 (v5 + 1) [(5, .int (v5 + 1)), (0, .ref (ga g 118)), (1, .int v1), (2, .int v2), (3, .int v3)] dX8_bestCrew_178 rfl rfl (Nat.le_of_ble_eq_true rfl) rfl ?_
        refine a_goto 152 dX8_bestCrew_181 rfl ?_
        exact a_sub [1, 2, 3, 4, 0] rfl hv
def VC_X8_bestCrew_23 (g : GT) (d : Nat) (v1 : Int32) (v2 : Int32) (v3 : Int32) (v4 : Int32) (v5 : Int32) (I : IT) (J : JT) (P : Int32 → IT → JT → Prop) : Prop :=
  ((v2 ≤ v5 → ((¬ v2 = (I 119 0) → (vp_in v2 7 ∧ (Lp_X8_bestCrew_152 g d v1 v2 v3 ((I 125 v2.toNatClampNeg) + 1) I J P))) ∧ (v2 = (I 119 0) → ((v4 ≤ v1 → (Lp_X8_bestCrew_11 g d v1 (v2 + (-1)) I J P)) ∧ (¬ v4 ≤ v1 → (Lp_X8_bestCrew_105 g d v4 v2 0 I J P)))))) ∧ (¬ v2 ≤ v5 → (vp_in v5 7 ∧ ((4 ≤ (I 125 v5.toNatClampNeg) → (vp_in v5 7 ∧ ((4 ≤ (I 125 v5.toNatClampNeg) → (Lp_X8_bestCrew_23 g d v1 v2 (v3 ||| 0) (v4 + 0) (v5 + 1) I J P)) ∧ (¬ 4 ≤ (I 125 v5.toNatClampNeg) → (Lp_X8_bestCrew_23 g d v1 v2 (v3 ||| 0) (v4 + 1) (v5 + 1) I J P))))) ∧ (¬ 4 ≤ (I 125 v5.toNatClampNeg) → (vp_in v5 7 ∧ (vp_in v5 7 ∧ ((4 ≤ (I 125 v5.toNatClampNeg) → (Lp_X8_bestCrew_23 g d v1 v2 (v3 ||| (1 <<< ((I 125 v5.toNatClampNeg) &&& 31))) (v4 + 0) (v5 + 1) I J P)) ∧ (¬ 4 ≤ (I 125 v5.toNatClampNeg) → (Lp_X8_bestCrew_23 g d v1 v2 (v3 ||| (1 <<< ((I 125 v5.toNatClampNeg) &&& 31))) (v4 + 1) (v5 + 1) I J P))))))))))
set_option maxRecDepth 4000 in
theorem w_X8_bestCrew_23 {g : GT} {d : Nat} {v1 : Int32} {v2 : Int32} {v3 : Int32} {v4 : Int32} {v5 : Int32} {I : IT} {J : JT} {P : Int32 → IT → JT → Prop} (hv : VC_X8_bestCrew_23 g d v1 v2 v3 v4 v5 I J P) : Lp_X8_bestCrew_23 g d v1 v2 v3 v4 v5 I J P := by
  unfold VC_X8_bestCrew_23 at hv
  unfold Lp_X8_bestCrew_23
  refine a_iload 5 dX8_bestCrew_23 rfl ?_
  refine a_iload_n 2 dX8_bestCrew_25 rfl rfl ?_
  refine a_icmp_ge 83 dX8_bestCrew_26 rfl (fun hc => ?_) (fun hc => ?_)
  · replace hv := hv.1 hc
    refine a_iload_n 2 dX8_bestCrew_83 rfl rfl ?_
    refine a_aload_n 0 dX8_bestCrew_84 rfl rfl ?_
    refine a_getR (r := 119) G_X8_7 sh_118 rfl dX8_bestCrew_85 ?_
    refine a_iconst (v := 0) dX8_bestCrew_88 (by decide) ?_
    refine a_iald sh_119 (by unfold vp_in; decide) dX8_bestCrew_89 ?_
    refine a_icmp_ne 142 dX8_bestCrew_90 rfl (fun hc => ?_) (fun hc => ?_)
    · replace hv := hv.1 hc
      refine a_aload_n 0 dX8_bestCrew_142 rfl rfl ?_
      refine a_getR (r := 125) G_X8_29 sh_118 rfl dX8_bestCrew_143 ?_
      refine a_iload_n 2 dX8_bestCrew_146 rfl rfl ?_
      refine a_iald sh_125 hv.1 dX8_bestCrew_147 ?_
      replace hv := hv.2
      refine a_iconst (v := 1) dX8_bestCrew_148 (by decide) ?_
      refine a_iadd dX8_bestCrew_149 ?_
      refine a_istore [(5, .int ((I 125 v2.toNatClampNeg) + 1)), (0, .ref (ga g 118)), (1, .int v1), (2, .int v2), (3, .int v3), (4, .int v4)] dX8_bestCrew_150 (Nat.le_of_ble_eq_true rfl) rfl ?_
      exact a_sub [1, 2, 3, 4, 0] rfl hv
    · replace hv := hv.2 hc
      refine a_iload 4 dX8_bestCrew_93 rfl ?_
      refine a_iload_n 1 dX8_bestCrew_95 rfl rfl ?_
      refine a_icmp_le 136 dX8_bestCrew_96 rfl (fun hc => ?_) (fun hc => ?_)
      · replace hv := hv.1 hc
        refine a_iinc 2 (v2 + (-1)) [(2, .int (v2 + (-1))), (0, .ref (ga g 118)), (1, .int v1), (3, .int v3), (4, .int v4), (5, .int v5)] dX8_bestCrew_136 rfl rfl (Nat.le_of_ble_eq_true rfl) rfl ?_
        refine a_goto 214 dX8_bestCrew_139 rfl ?_
        refine a_goto 11 dX8_bestCrew_214 rfl ?_
        exact a_sub [1, 2, 0] rfl hv
      · replace hv := hv.2 hc
        refine a_iload 4 dX8_bestCrew_99 rfl ?_
        refine a_istore_n [(1, .int v4), (0, .ref (ga g 118)), (2, .int v2), (3, .int v3), (4, .int v4), (5, .int v5)] dX8_bestCrew_101 rfl (Nat.le_of_ble_eq_true rfl) rfl ?_
        refine a_iconst (v := 0) dX8_bestCrew_102 (by decide) ?_
        refine a_istore [(5, .int 0), (1, .int v4), (0, .ref (ga g 118)), (2, .int v2), (3, .int v3), (4, .int v4)] dX8_bestCrew_103 (Nat.le_of_ble_eq_true rfl) rfl ?_
        exact a_sub [2, 1, 3, 0] rfl hv
  · replace hv := hv.2 hc
    refine a_iload_n 3 dX8_bestCrew_29 rfl rfl ?_
    refine a_aload_n 0 dX8_bestCrew_30 rfl rfl ?_
    refine a_getR (r := 125) G_X8_29 sh_118 rfl dX8_bestCrew_31 ?_
    refine a_iload 5 dX8_bestCrew_34 rfl ?_
    refine a_iald sh_125 hv.1 dX8_bestCrew_36 ?_
    replace hv := hv.2
    refine a_iconst (v := 4) dX8_bestCrew_37 (by decide) ?_
    refine a_icmp_ge 53 dX8_bestCrew_38 rfl (fun hc => ?_) (fun hc => ?_)
    · replace hv := hv.1 hc
      refine a_iconst (v := 0) dX8_bestCrew_53 (by decide) ?_
      refine a_ior dX8_bestCrew_54 ?_
      refine a_istore_n [(3, .int (v3 ||| 0)), (0, .ref (ga g 118)), (1, .int v1), (2, .int v2), (4, .int v4), (5, .int v5)] dX8_bestCrew_55 rfl (Nat.le_of_ble_eq_true rfl) rfl ?_
      refine a_iload 4 dX8_bestCrew_56 rfl ?_
      refine a_aload_n 1 dX8_bestCrew_58 rfl rfl ?_
      refine a_getR (r := 125) G_X8_29 sh_118 rfl dX8_bestCrew_59 ?_
      refine a_iload 5 dX8_bestCrew_62 rfl ?_
      refine a_iald sh_125 hv.1 dX8_bestCrew_64 ?_
      replace hv := hv.2
      refine a_iconst (v := 4) dX8_bestCrew_65 (by decide) ?_
      refine a_icmp_ge 73 dX8_bestCrew_66 rfl (fun hc => ?_) (fun hc => ?_)
      · replace hv := hv.1 hc
        refine a_iconst (v := 0) dX8_bestCrew_73 (by decide) ?_
        refine a_iadd dX8_bestCrew_74 ?_
        refine a_istore [(4, .int (v4 + 0)), (3, .int (v3 ||| 0)), (0, .ref (ga g 118)), (1, .int v1), (2, .int v2), (5, .int v5)] dX8_bestCrew_75 (Nat.le_of_ble_eq_true rfl) rfl ?_
        refine a_iinc 5 (v5 + 1) [(5, .int (v5 + 1)), (4, .int (v4 + 0)), (3, .int (v3 ||| 0)), (0, .ref (ga g 118)), (1, .int v1), (2, .int v2)] dX8_bestCrew_77 rfl rfl (Nat.le_of_ble_eq_true rfl) rfl ?_
        refine a_goto 23 dX8_bestCrew_80 rfl ?_
        exact a_sub [3, 4, 5, 2, 1, 0] rfl hv
      · replace hv := hv.2 hc
        refine a_iconst (v := 1) dX8_bestCrew_69 (by decide) ?_
        refine a_goto 74 dX8_bestCrew_70 rfl ?_
        refine a_iadd dX8_bestCrew_74 ?_
        refine a_istore [(4, .int (v4 + 1)), (3, .int (v3 ||| 0)), (0, .ref (ga g 118)), (1, .int v1), (2, .int v2), (5, .int v5)] dX8_bestCrew_75 (Nat.le_of_ble_eq_true rfl) rfl ?_
        refine a_iinc 5 (v5 + 1) [(5, .int (v5 + 1)), (4, .int (v4 + 1)), (3, .int (v3 ||| 0)), (0, .ref (ga g 118)), (1, .int v1), (2, .int v2)] dX8_bestCrew_77 rfl rfl (Nat.le_of_ble_eq_true rfl) rfl ?_
        refine a_goto 23 dX8_bestCrew_80 rfl ?_
        exact a_sub [3, 4, 5, 2, 1, 0] rfl hv
    · replace hv := hv.2 hc
      refine a_iconst (v := 1) dX8_bestCrew_41 (by decide) ?_
      refine a_aload_n 0 dX8_bestCrew_42 rfl rfl ?_
      refine a_getR (r := 125) G_X8_29 sh_118 rfl dX8_bestCrew_43 ?_
      refine a_iload 5 dX8_bestCrew_46 rfl ?_
      refine a_iald sh_125 hv.1 dX8_bestCrew_48 ?_
      replace hv := hv.2
      refine a_ishl dX8_bestCrew_49 ?_
      refine a_goto 54 dX8_bestCrew_50 rfl ?_
      refine a_ior dX8_bestCrew_54 ?_
      refine a_istore_n [(3, .int (v3 ||| (1 <<< ((I 125 v5.toNatClampNeg) &&& 31)))), (0, .ref (ga g 118)), (1, .int v1), (2, .int v2), (4, .int v4), (5, .int v5)] dX8_bestCrew_55 rfl (Nat.le_of_ble_eq_true rfl) rfl ?_
      refine a_iload 4 dX8_bestCrew_56 rfl ?_
      refine a_aload_n 1 dX8_bestCrew_58 rfl rfl ?_
      refine a_getR (r := 125) G_X8_29 sh_118 rfl dX8_bestCrew_59 ?_
      refine a_iload 5 dX8_bestCrew_62 rfl ?_
      refine a_iald sh_125 hv.1 dX8_bestCrew_64 ?_
      replace hv := hv.2
      refine a_iconst (v := 4) dX8_bestCrew_65 (by decide) ?_
      refine a_icmp_ge 73 dX8_bestCrew_66 rfl (fun hc => ?_) (fun hc => ?_)
      · replace hv := hv.1 hc
        refine a_iconst (v := 0) dX8_bestCrew_73 (by decide) ?_
        refine a_iadd dX8_bestCrew_74 ?_
        refine a_istore [(4, .int (v4 + 0)), (3, .int (v3 ||| (1 <<< ((I 125 v5.toNatClampNeg) &&& 31)))), (0, .ref (ga g 118)), (1, .int v1), (2, .int v2), (5, .int v5)] dX8_bestCrew_75 (Nat.le_of_ble_eq_true rfl) rfl ?_
        refine a_iinc 5 (v5 + 1) [(5, .int (v5 + 1)), (4, .int (v4 + 0)), (3, .int (v3 ||| (1 <<< ((I 125 v5.toNatClampNeg) &&& 31)))), (0, .ref (ga g 118)), (1, .int v1), (2, .int v2)] dX8_bestCrew_77 rfl rfl (Nat.le_of_ble_eq_true rfl) rfl ?_
        refine a_goto 23 dX8_bestCrew_80 rfl ?_
        exact a_sub [3, 4, 5, 2, 1, 0] rfl hv
      · replace hv := hv.2 hc
        refine a_iconst (v := 1) dX8_bestCrew_69 (by decide) ?_
        refine a_goto 74 dX8_bestCrew_70 rfl ?_
        refine a_iadd dX8_bestCrew_74 ?_
        refine a_istore [(4, .int (v4 + 1)), (3, .int (v3 ||| (1 <<< ((I 125 v5.toNatClampNeg) &&& 31)))), (0, .ref (ga g 118)), (1, .int v1), (2, .int v2), (5, .int v5)] dX8_bestCrew_75 (Nat.le_of_ble_eq_true rfl) rfl ?_
        refine a_iinc 5 (v5 + 1) [(5, .int (v5 + 1)), (4, .int (v4 + 1)), (3, .int (v3 ||| (1 <<< ((I 125 v5.toNatClampNeg) &&& 31)))), (0, .ref (ga g 118)), (1, .int v1), (2, .int v2)] dX8_bestCrew_77 rfl rfl (Nat.le_of_ble_eq_true rfl) rfl ?_
        refine a_goto 23 dX8_bestCrew_80 rfl ?_
        exact a_sub [3, 4, 5, 2, 1, 0] rfl hv
def VC_X8_bestCrew_11 (g : GT) (d : Nat) (v1 : Int32) (v2 : Int32) (I : IT) (J : JT) (P : Int32 → IT → JT → Prop) : Prop :=
  ((v2 < 0 → P v1 I J) ∧ (¬ v2 < 0 → (Lp_X8_bestCrew_23 g d v1 v2 0 0 0 I J P)))
set_option maxRecDepth 4000 in
theorem w_X8_bestCrew_11 {g : GT} {d : Nat} {v1 : Int32} {v2 : Int32} {I : IT} {J : JT} {P : Int32 → IT → JT → Prop} (hv : VC_X8_bestCrew_11 g d v1 v2 I J P) : Lp_X8_bestCrew_11 g d v1 v2 I J P := by
  unfold VC_X8_bestCrew_11 at hv
  unfold Lp_X8_bestCrew_11
  refine a_iload_n 2 dX8_bestCrew_11 rfl rfl ?_
  refine a_if_lt 217 dX8_bestCrew_12 rfl (fun hc => ?_) (fun hc => ?_)
  · replace hv := hv.1 hc
    refine a_iload_n 1 dX8_bestCrew_217 rfl rfl ?_
    exact a_iret rfl dX8_bestCrew_218 hv
  · replace hv := hv.2 hc
    refine a_iconst (v := 0) dX8_bestCrew_15 (by decide) ?_
    refine a_istore_n [(3, .int 0), (0, .ref (ga g 118)), (1, .int v1), (2, .int v2)] dX8_bestCrew_16 rfl (Nat.le_of_ble_eq_true rfl) rfl ?_
    refine a_iconst (v := 0) dX8_bestCrew_17 (by decide) ?_
    refine a_istore [(4, .int 0), (3, .int 0), (0, .ref (ga g 118)), (1, .int v1), (2, .int v2)] dX8_bestCrew_18 (Nat.le_of_ble_eq_true rfl) rfl ?_
    refine a_iconst (v := 0) dX8_bestCrew_20 (by decide) ?_
    refine a_istore [(5, .int 0), (4, .int 0), (3, .int 0), (0, .ref (ga g 118)), (1, .int v1), (2, .int v2)] dX8_bestCrew_21 (Nat.le_of_ble_eq_true rfl) rfl ?_
    exact a_sub [3, 4, 5, 2, 1, 0] rfl hv
def VC_X8_bestCrew (g : GT) (d : Nat)  (I : IT) (J : JT) (P : Int32 → IT → JT → Prop) : Prop :=
  (Lp_X8_bestCrew_11 g d (-1) 0 (sI I 125 0 (-1)) J P)
set_option maxRecDepth 4000 in
theorem w_X8_bestCrew {g : GT} {d : Nat}  {I : IT} {J : JT} {P : Int32 → IT → JT → Prop} (hv : VC_X8_bestCrew g d  I J P) : SemI g d M_X8_bestCrew [.ref (ga g 118)] I J P := by
  unfold VC_X8_bestCrew at hv
  refine sem_intro (by decide +kernel) rfl (Nat.le_of_ble_eq_true rfl) ?_
  show AW _ 0 0 0 [(0, .ref (ga g 118))] [] (cW g I J)
  refine a_iconst (v := (-1)) dX8_bestCrew_0 (by decide) ?_
  refine a_istore_n [(1, .int (-1)), (0, .ref (ga g 118))] dX8_bestCrew_1 rfl (Nat.le_of_ble_eq_true rfl) rfl ?_
  refine a_iconst (v := 0) dX8_bestCrew_2 (by decide) ?_
  refine a_istore_n [(2, .int 0), (1, .int (-1)), (0, .ref (ga g 118))] dX8_bestCrew_3 rfl (Nat.le_of_ble_eq_true rfl) rfl ?_
  refine a_aload_n 2 dX8_bestCrew_4 rfl rfl ?_
  refine a_getR (r := 125) G_X8_29 sh_118 rfl dX8_bestCrew_5 ?_
  refine a_iconst (v := 0) dX8_bestCrew_8 (by decide) ?_
  refine a_iconst (v := (-1)) dX8_bestCrew_9 (by decide) ?_
  refine a_iast sh_125 (by unfold vp_in; decide) dX8_bestCrew_10 ?_
  exact a_sub [2, 1, 0] rfl hv
def VC_X8_crew (g : GT) (d : Nat) (v1 : Int32) (I : IT) (J : JT) (P : Int32 → IT → JT → Prop) : Prop :=
  ((v1 = (-1) → (SemZ g (d - 1) M_X8_isFleet [.ref (ga g 118)] I J (fun r16 I16 J16 => ((r16 = true → (SemI g (d - 1) M_X8_bestCrew [.ref (ga g 118)] I16 J16 (fun r26 I26 J26 => ((¬ v1 = (-1) → (vp_in v1 6 ∧ ((¬ (I26 126 v1.toNatClampNeg) = 4 → (vp_in v1 6 ∧ P (I26 126 v1.toNatClampNeg) I26 J26)) ∧ ((I26 126 v1.toNatClampNeg) = 4 → P (-4) I26 J26)))) ∧ (v1 = (-1) → P r26 I26 J26))))) ∧ (r16 = false → P (-2) I16 J16))))) ∧ (¬ v1 = (-1) → (SemZ g (d - 1) M_X8_isShip [.ref (ga g 118), .int v1] I J (fun r7 I7 J7 => ((r7 = true → (SemZ g (d - 1) M_X8_isFleet [.ref (ga g 118)] I7 J7 (fun r16 I16 J16 => ((r16 = true → (SemI g (d - 1) M_X8_bestCrew [.ref (ga g 118)] I16 J16 (fun r26 I26 J26 => ((¬ v1 = (-1) → (vp_in v1 6 ∧ ((¬ (I26 126 v1.toNatClampNeg) = 4 → (vp_in v1 6 ∧ P (I26 126 v1.toNatClampNeg) I26 J26)) ∧ ((I26 126 v1.toNatClampNeg) = 4 → P (-4) I26 J26)))) ∧ (v1 = (-1) → P r26 I26 J26))))) ∧ (r16 = false → P (-2) I16 J16))))) ∧ (r7 = false → P (-1) I7 J7))))))
set_option maxRecDepth 4000 in
theorem w_X8_crew {g : GT} {d : Nat} {v1 : Int32} {I : IT} {J : JT} {P : Int32 → IT → JT → Prop} (hd : 1 ≤ d) (hv : VC_X8_crew g d v1 I J P) : SemI g d M_X8_crew [.ref (ga g 118), .int v1] I J P := by
  unfold VC_X8_crew at hv
  refine sem_intro (by decide +kernel) rfl (Nat.le_of_ble_eq_true rfl) ?_
  show AW _ 0 0 0 [(0, .ref (ga g 118)), (1, .int v1)] [] (cW g I J)
  refine a_iload_n 1 dX8_crew_0 rfl rfl ?_
  refine a_iconst (v := (-1)) dX8_crew_1 (by decide) ?_
  refine a_icmp_eq 15 dX8_crew_2 rfl (fun hc => ?_) (fun hc => ?_)
  · replace hv := hv.1 hc
    refine a_aload_n 0 dX8_crew_15 rfl rfl ?_
    refine c_VZ (As := []) (rest := []) hv K_X8_115 sh_118 rfl rfl rfl (Nat.le_of_ble_eq_true rfl) (rok (by omega) (Nat.le_of_ble_eq_true rfl)) ⟨Nat.zero_le _, Nat.zero_le _⟩ dX8_crew_16 (fun r16 I16 J16 hv => ?_)
    refine a_ifz_ne 25 dX8_crew_19 rfl (fun hc => ?_) (fun hc => ?_)
    · replace hv := hv.1 hc
      refine a_aload_n 0 dX8_crew_25 rfl rfl ?_
      refine c_VI (As := []) (rest := []) hv K_X8_177 sh_118 rfl rfl rfl (Nat.le_of_ble_eq_true rfl) (rok (by omega) (Nat.le_of_ble_eq_true rfl)) ⟨Nat.zero_le _, Nat.zero_le _⟩ dX8_crew_26 (fun r26 I26 J26 hv => ?_)
      refine a_istore_n [(2, .int r26), (0, .ref (ga g 118)), (1, .int v1)] dX8_crew_29 rfl (Nat.le_of_ble_eq_true rfl) rfl ?_
      refine a_iload_n 2 dX8_crew_30 rfl rfl ?_
      refine a_iconst (v := (-1)) dX8_crew_31 (by decide) ?_
      refine a_icmp_ne 39 dX8_crew_32 rfl (fun hc => ?_) (fun hc => ?_)
      · replace hv := hv.1 hc
        refine a_aload_n 1 dX8_crew_39 rfl rfl ?_
        refine a_getR (r := 126) G_X8_32 sh_118 rfl dX8_crew_40 ?_
        refine a_iload_n 2 dX8_crew_43 rfl rfl ?_
        refine a_iald sh_126 hv.1 dX8_crew_44 ?_
        replace hv := hv.2
        refine a_iconst (v := 4) dX8_crew_45 (by decide) ?_
        refine a_icmp_ne 54 dX8_crew_46 rfl (fun hc => ?_) (fun hc => ?_)
        · replace hv := hv.1 hc
          refine a_aload_n 1 dX8_crew_54 rfl rfl ?_
          refine a_getR (r := 126) G_X8_32 sh_118 rfl dX8_crew_55 ?_
          refine a_iload_n 2 dX8_crew_58 rfl rfl ?_
          refine a_iald sh_126 hv.1 dX8_crew_59 ?_
          replace hv := hv.2
          exact a_iret rfl dX8_crew_60 hv
        · replace hv := hv.2 hc
          refine a_bipush (v := (-4)) dX8_crew_49 (by decide) ?_
          refine a_goto 60 dX8_crew_51 rfl ?_
          exact a_iret rfl dX8_crew_60 hv
      · replace hv := hv.2 hc
        refine a_iload_n 0 dX8_crew_35 rfl rfl ?_
        refine a_goto 60 dX8_crew_36 rfl ?_
        exact a_iret rfl dX8_crew_60 hv
    · replace hv := hv.2 hc
      refine a_bipush (v := (-2)) dX8_crew_22 (by decide) ?_
      exact a_iret rfl dX8_crew_24 hv
  · replace hv := hv.2 hc
    refine a_aload_n 0 dX8_crew_5 rfl rfl ?_
    refine a_iload_n 1 dX8_crew_6 rfl rfl ?_
    refine c_VZ (As := [.int v1]) (rest := []) hv K_X8_103 sh_118 rfl rfl rfl (Nat.le_of_ble_eq_true rfl) (rok (by omega) (Nat.le_of_ble_eq_true rfl)) ⟨Nat.zero_le _, Nat.zero_le _⟩ dX8_crew_7 (fun r7 I7 J7 hv => ?_)
    refine a_ifz_ne 15 dX8_crew_10 rfl (fun hc => ?_) (fun hc => ?_)
    · replace hv := hv.1 hc
      refine a_aload_n 0 dX8_crew_15 rfl rfl ?_
      refine c_VZ (As := []) (rest := []) hv K_X8_115 sh_118 rfl rfl rfl (Nat.le_of_ble_eq_true rfl) (rok (by omega) (Nat.le_of_ble_eq_true rfl)) ⟨Nat.zero_le _, Nat.zero_le _⟩ dX8_crew_16 (fun r16 I16 J16 hv => ?_)
      refine a_ifz_ne 25 dX8_crew_19 rfl (fun hc => ?_) (fun hc => ?_)
      · replace hv := hv.1 hc
        refine a_aload_n 0 dX8_crew_25 rfl rfl ?_
        refine c_VI (As := []) (rest := []) hv K_X8_177 sh_118 rfl rfl rfl (Nat.le_of_ble_eq_true rfl) (rok (by omega) (Nat.le_of_ble_eq_true rfl)) ⟨Nat.zero_le _, Nat.zero_le _⟩ dX8_crew_26 (fun r26 I26 J26 hv => ?_)
        refine a_istore_n [(2, .int r26), (0, .ref (ga g 118)), (1, .int v1)] dX8_crew_29 rfl (Nat.le_of_ble_eq_true rfl) rfl ?_
        refine a_iload_n 2 dX8_crew_30 rfl rfl ?_
        refine a_iconst (v := (-1)) dX8_crew_31 (by decide) ?_
        refine a_icmp_ne 39 dX8_crew_32 rfl (fun hc => ?_) (fun hc => ?_)
        · replace hv := hv.1 hc
          refine a_aload_n 1 dX8_crew_39 rfl rfl ?_
          refine a_getR (r := 126) G_X8_32 sh_118 rfl dX8_crew_40 ?_
          refine a_iload_n 2 dX8_crew_43 rfl rfl ?_
          refine a_iald sh_126 hv.1 dX8_crew_44 ?_
          replace hv := hv.2
          refine a_iconst (v := 4) dX8_crew_45 (by decide) ?_
          refine a_icmp_ne 54 dX8_crew_46 rfl (fun hc => ?_) (fun hc => ?_)
          · replace hv := hv.1 hc
            refine a_aload_n 1 dX8_crew_54 rfl rfl ?_
            refine a_getR (r := 126) G_X8_32 sh_118 rfl dX8_crew_55 ?_
            refine a_iload_n 2 dX8_crew_58 rfl rfl ?_
            refine a_iald sh_126 hv.1 dX8_crew_59 ?_
            replace hv := hv.2
            exact a_iret rfl dX8_crew_60 hv
          · replace hv := hv.2 hc
            refine a_bipush (v := (-4)) dX8_crew_49 (by decide) ?_
            refine a_goto 60 dX8_crew_51 rfl ?_
            exact a_iret rfl dX8_crew_60 hv
        · replace hv := hv.2 hc
          refine a_iload_n 0 dX8_crew_35 rfl rfl ?_
          refine a_goto 60 dX8_crew_36 rfl ?_
          exact a_iret rfl dX8_crew_60 hv
      · replace hv := hv.2 hc
        refine a_bipush (v := (-2)) dX8_crew_22 (by decide) ?_
        exact a_iret rfl dX8_crew_24 hv
    · replace hv := hv.2 hc
      refine a_iconst (v := (-1)) dX8_crew_13 (by decide) ?_
      exact a_iret rfl dX8_crew_14 hv
def VC_X8_size (g : GT) (d : Nat) (v0 : Int32) (I : IT) (J : JT) (P : Int32 → IT → JT → Prop) : Prop :=
  ((0 ≤ v0 → P v0 I J) ∧ (¬ 0 ≤ v0 → P (-v0) I J))
set_option maxRecDepth 4000 in
theorem w_X8_size {g : GT} {d : Nat} {v0 : Int32} {I : IT} {J : JT} {P : Int32 → IT → JT → Prop} (hv : VC_X8_size g d v0 I J P) : SemI g d M_X8_size [.int v0] I J P := by
  unfold VC_X8_size at hv
  refine sem_intro (by decide +kernel) rfl (Nat.le_of_ble_eq_true rfl) ?_
  show AW _ 0 0 0 [(0, .int v0)] [] (cW g I J)
  refine a_iload_n 0 dX8_size_0 rfl rfl ?_
  refine a_if_ge 9 dX8_size_1 rfl (fun hc => ?_) (fun hc => ?_)
  · replace hv := hv.1 hc
    refine a_iload_n 0 dX8_size_9 rfl rfl ?_
    exact a_iret rfl dX8_size_10 hv
  · replace hv := hv.2 hc
    refine a_iload_n 0 dX8_size_4 rfl rfl ?_
    refine a_ineg dX8_size_5 ?_
    refine a_goto 10 dX8_size_6 rfl ?_
    exact a_iret rfl dX8_size_10 hv
def VC_X8_away (g : GT) (d : Nat) (v0 : Int32) (v1 : Int32) (I : IT) (J : JT) (P : Int32 → IT → JT → Prop) : Prop :=
  (SemI g (d - 1) M_X8_size [.int ((v0 / 8) - (v1 / 8))] I J (fun r9 I9 J9 => (SemI g (d - 1) M_X8_size [.int ((v0 - v0 / 8 * 8) - (v1 - v1 / 8 * 8))] I9 J9 (fun r21 I21 J21 => P (r9 + r21) I21 J21))))
set_option maxRecDepth 4000 in
theorem w_X8_away {g : GT} {d : Nat} {v0 : Int32} {v1 : Int32} {I : IT} {J : JT} {P : Int32 → IT → JT → Prop} (hd : 1 ≤ d) (hv : VC_X8_away g d v0 v1 I J P) : SemI g d M_X8_away [.int v0, .int v1] I J P := by
  unfold VC_X8_away at hv
  refine sem_intro (by decide +kernel) rfl (Nat.le_of_ble_eq_true rfl) ?_
  show AW _ 0 0 0 [(0, .int v0), (1, .int v1)] [] (cW g I J)
  refine a_iload_n 0 dX8_away_0 rfl rfl ?_
  refine a_bipush (v := 8) dX8_away_1 (by decide) ?_
  refine a_idiv dX8_away_3 (by decide) ?_
  refine a_iload_n 1 dX8_away_4 rfl rfl ?_
  refine a_bipush (v := 8) dX8_away_5 (by decide) ?_
  refine a_idiv dX8_away_7 (by decide) ?_
  refine a_isub dX8_away_8 ?_
  refine c_SI (As := [.int ((v0 / 8) - (v1 / 8))]) (rest := []) hv K_X8_180 rfl rfl (Nat.le_of_ble_eq_true rfl) (rok (by omega) (Nat.le_of_ble_eq_true rfl)) ⟨Nat.zero_le _, Nat.zero_le _⟩ dX8_away_9 (fun r9 I9 J9 hv => ?_)
  refine a_iload_n 0 dX8_away_12 rfl rfl ?_
  refine a_bipush (v := 8) dX8_away_13 (by decide) ?_
  refine a_irem dX8_away_15 (by decide) ?_
  refine a_iload_n 1 dX8_away_16 rfl rfl ?_
  refine a_bipush (v := 8) dX8_away_17 (by decide) ?_
  refine a_irem dX8_away_19 (by decide) ?_
  refine a_isub dX8_away_20 ?_
  refine c_SI (As := [.int ((v0 - v0 / 8 * 8) - (v1 - v1 / 8 * 8))]) (rest := [.int r9]) hv K_X8_180 rfl rfl (Nat.le_of_ble_eq_true rfl) (rok (by omega) (Nat.le_of_ble_eq_true rfl)) ⟨Nat.zero_le _, Nat.zero_le _⟩ dX8_away_21 (fun r21 I21 J21 hv => ?_)
  refine a_iadd dX8_away_24 ?_
  exact a_iret rfl dX8_away_25 hv
def Lp_X8_hearing_8 (g : GT) (d : Nat) (v2 : Int32) (v3 : Int32) (v4 : Int32) (b5 : Bool) (I : IT) (J : JT) (P : Int32 → IT → JT → Prop) : Prop := AW (kM g d M_X8_hearing 0 0 (qI g P)) 0 0 8 [(0, .ref (ga g 118)), (2, .int v2), (3, .int v3), (4, .int v4), (5, .int (bI b5))] [] (cW g I J)
def Lp_X8_hearing_20 (g : GT) (d : Nat) (v2 : Int32) (v3 : Int32) (v4 : Int32) (v6 : Int32) (v7 : Int32) (I : IT) (J : JT) (P : Int32 → IT → JT → Prop) : Prop := AW (kM g d M_X8_hearing 0 0 (qI g P)) 0 0 20 [(0, .ref (ga g 118)), (2, .int v2), (3, .int v3), (4, .int v4), (6, .int v6), (7, .int v7)] [] (cW g I J)
def Lp_X8_hearing_34 (g : GT) (d : Nat) (v2 : Int32) (v3 : Int32) (v4 : Int32) (v6 : Int32) (v7 : Int32) (v8 : Int32) (I : IT) (J : JT) (P : Int32 → IT → JT → Prop) : Prop := AW (kM g d M_X8_hearing 0 0 (qI g P)) 0 0 34 [(0, .ref (ga g 118)), (2, .int v2), (3, .int v3), (4, .int v4), (6, .int v6), (7, .int v7), (8, .int v8)] [] (cW g I J)
def VC_X8_hearing_34 (g : GT) (d : Nat) (v2 : Int32) (v3 : Int32) (v4 : Int32) (v6 : Int32) (v7 : Int32) (v8 : Int32) (I : IT) (J : JT) (P : Int32 → IT → JT → Prop) : Prop :=
  (((I 119 0) ≤ v8 → (Lp_X8_hearing_20 g d v2 v3 v4 v6 (v7 + 1) I J P)) ∧ (¬ (I 119 0) ≤ v8 → (SemZ g (d - 1) M_X8_has [.int v4, .int v7] I J (fun r51 I51 J51 => ((r51 = false → (Lp_X8_hearing_34 g d v2 v3 v4 (v6 ||| 0) v7 (v8 + 1) I51 J51 P)) ∧ (r51 = true → (SemZ g (d - 1) M_X8_has [.int v3, .int v8] I51 J51 (fun r60 I60 J60 => ((r60 = false → (Lp_X8_hearing_34 g d v2 v3 v4 (v6 ||| 0) v7 (v8 + 1) I60 J60 P)) ∧ (r60 = true → (vp_in (58 + v7) 952 ∧ (vp_in (58 + v8) 952 ∧ (SemI g (d - 1) M_X8_away [.int (I60 119 (58 + v7).toNatClampNeg), .int (I60 119 (58 + v8).toNatClampNeg)] I60 J60 (fun r86 I86 J86 => ((v2 < r86 → (Lp_X8_hearing_34 g d v2 v3 v4 (v6 ||| 0) v7 (v8 + 1) I86 J86 P)) ∧ (¬ v2 < r86 → (Lp_X8_hearing_34 g d v2 v3 v4 (v6 ||| (1 <<< (v8 &&& 31))) v7 (v8 + 1) I86 J86 P)))))))))))))))))
set_option maxRecDepth 4000 in
theorem w_X8_hearing_34 {g : GT} {d : Nat} {v2 : Int32} {v3 : Int32} {v4 : Int32} {v6 : Int32} {v7 : Int32} {v8 : Int32} {I : IT} {J : JT} {P : Int32 → IT → JT → Prop} (hd : 1 ≤ d) (hv : VC_X8_hearing_34 g d v2 v3 v4 v6 v7 v8 I J P) : Lp_X8_hearing_34 g d v2 v3 v4 v6 v7 v8 I J P := by
  unfold VC_X8_hearing_34 at hv
  unfold Lp_X8_hearing_34
  refine a_iload 6 dX8_hearing_34 rfl ?_
  refine a_aload_n 0 dX8_hearing_36 rfl rfl ?_
  refine a_getR (r := 119) G_X8_7 sh_118 rfl dX8_hearing_37 ?_
  refine a_iconst (v := 0) dX8_hearing_40 (by decide) ?_
  refine a_iald sh_119 (by unfold vp_in; decide) dX8_hearing_41 ?_
  refine a_icmp_ge 110 dX8_hearing_42 rfl (fun hc => ?_) (fun hc => ?_)
  · replace hv := hv.1 hc
    refine a_iinc 5 (v7 + 1) [(7, .int (v7 + 1)), (0, .ref (ga g 118)), (2, .int v2), (3, .int v3), (4, .int v4), (6, .int v6), (8, .int v8)] dX8_hearing_110 rfl rfl (Nat.le_of_ble_eq_true rfl) rfl ?_
    refine a_goto 20 dX8_hearing_113 rfl ?_
    exact a_sub [1, 2, 3, 4, 5, 0] rfl hv
  · replace hv := hv.2 hc
    refine a_iload 4 dX8_hearing_45 rfl ?_
    refine a_iload 3 dX8_hearing_47 rfl ?_
    refine a_iload 5 dX8_hearing_49 rfl ?_
    refine c_SZ (As := [.int v4, .int v7]) (rest := [.int v6]) hv K_X8_174 rfl rfl (Nat.le_of_ble_eq_true rfl) (rok (by omega) (Nat.le_of_ble_eq_true rfl)) ⟨Nat.zero_le _, Nat.zero_le _⟩ dX8_hearing_51 (fun r51 I51 J51 hv => ?_)
    refine a_ifz_eq 100 dX8_hearing_54 rfl (fun hc => ?_) (fun hc => ?_)
    · replace hv := hv.1 hc
      refine a_iconst (v := 0) dX8_hearing_100 (by decide) ?_
      refine a_ior dX8_hearing_101 ?_
      refine a_istore [(6, .int (v6 ||| 0)), (0, .ref (ga g 118)), (2, .int v2), (3, .int v3), (4, .int v4), (7, .int v7), (8, .int v8)] dX8_hearing_102 (Nat.le_of_ble_eq_true rfl) rfl ?_
      refine a_iinc 6 (v8 + 1) [(8, .int (v8 + 1)), (6, .int (v6 ||| 0)), (0, .ref (ga g 118)), (2, .int v2), (3, .int v3), (4, .int v4), (7, .int v7)] dX8_hearing_104 rfl rfl (Nat.le_of_ble_eq_true rfl) rfl ?_
      refine a_goto 34 dX8_hearing_107 rfl ?_
      exact a_sub [2, 3, 4, 5, 1, 6, 0] rfl hv
    · replace hv := hv.2 hc
      refine a_iload_n 2 dX8_hearing_57 rfl rfl ?_
      refine a_iload 6 dX8_hearing_58 rfl ?_
      refine c_SZ (As := [.int v3, .int v8]) (rest := [.int v6]) hv K_X8_174 rfl rfl (Nat.le_of_ble_eq_true rfl) (rok (by omega) (Nat.le_of_ble_eq_true rfl)) ⟨Nat.zero_le _, Nat.zero_le _⟩ dX8_hearing_60 (fun r60 I60 J60 hv => ?_)
      refine a_ifz_eq 100 dX8_hearing_63 rfl (fun hc => ?_) (fun hc => ?_)
      · replace hv := hv.1 hc
        refine a_iconst (v := 0) dX8_hearing_100 (by decide) ?_
        refine a_ior dX8_hearing_101 ?_
        refine a_istore [(6, .int (v6 ||| 0)), (0, .ref (ga g 118)), (2, .int v2), (3, .int v3), (4, .int v4), (7, .int v7), (8, .int v8)] dX8_hearing_102 (Nat.le_of_ble_eq_true rfl) rfl ?_
        refine a_iinc 6 (v8 + 1) [(8, .int (v8 + 1)), (6, .int (v6 ||| 0)), (0, .ref (ga g 118)), (2, .int v2), (3, .int v3), (4, .int v4), (7, .int v7)] dX8_hearing_104 rfl rfl (Nat.le_of_ble_eq_true rfl) rfl ?_
        refine a_goto 34 dX8_hearing_107 rfl ?_
        exact a_sub [2, 3, 4, 5, 1, 6, 0] rfl hv
      · replace hv := hv.2 hc
        refine a_aload_n 0 dX8_hearing_66 rfl rfl ?_
        refine a_getR (r := 119) G_X8_7 sh_118 rfl dX8_hearing_67 ?_
        refine a_bipush (v := 58) dX8_hearing_70 (by decide) ?_
        refine a_iload 5 dX8_hearing_72 rfl ?_
        refine a_iadd dX8_hearing_74 ?_
        refine a_iald sh_119 hv.1 dX8_hearing_75 ?_
        replace hv := hv.2
        refine a_aload_n 0 dX8_hearing_76 rfl rfl ?_
        refine a_getR (r := 119) G_X8_7 sh_118 rfl dX8_hearing_77 ?_
        refine a_bipush (v := 58) dX8_hearing_80 (by decide) ?_
        refine a_iload 6 dX8_hearing_82 rfl ?_
        refine a_iadd dX8_hearing_84 ?_
        refine a_iald sh_119 hv.1 dX8_hearing_85 ?_
        replace hv := hv.2
        refine c_SI (As := [.int (I60 119 (58 + v7).toNatClampNeg), .int (I60 119 (58 + v8).toNatClampNeg)]) (rest := [.int v6]) hv K_X8_183 rfl rfl (Nat.le_of_ble_eq_true rfl) (rok (by omega) (Nat.le_of_ble_eq_true rfl)) ⟨Nat.zero_le _, Nat.zero_le _⟩ dX8_hearing_86 (fun r86 I86 J86 hv => ?_)
        refine a_iload_n 1 dX8_hearing_89 rfl rfl ?_
        refine a_icmp_gt 100 dX8_hearing_90 rfl (fun hc => ?_) (fun hc => ?_)
        · replace hv := hv.1 hc
          refine a_iconst (v := 0) dX8_hearing_100 (by decide) ?_
          refine a_ior dX8_hearing_101 ?_
          refine a_istore [(6, .int (v6 ||| 0)), (0, .ref (ga g 118)), (2, .int v2), (3, .int v3), (4, .int v4), (7, .int v7), (8, .int v8)] dX8_hearing_102 (Nat.le_of_ble_eq_true rfl) rfl ?_
          refine a_iinc 6 (v8 + 1) [(8, .int (v8 + 1)), (6, .int (v6 ||| 0)), (0, .ref (ga g 118)), (2, .int v2), (3, .int v3), (4, .int v4), (7, .int v7)] dX8_hearing_104 rfl rfl (Nat.le_of_ble_eq_true rfl) rfl ?_
          refine a_goto 34 dX8_hearing_107 rfl ?_
          exact a_sub [2, 3, 4, 5, 1, 6, 0] rfl hv
        · replace hv := hv.2 hc
          refine a_iconst (v := 1) dX8_hearing_93 (by decide) ?_
          refine a_iload 6 dX8_hearing_94 rfl ?_
          refine a_ishl dX8_hearing_96 ?_
          refine a_goto 101 dX8_hearing_97 rfl ?_
          refine a_ior dX8_hearing_101 ?_
          refine a_istore [(6, .int (v6 ||| (1 <<< (v8 &&& 31)))), (0, .ref (ga g 118)), (2, .int v2), (3, .int v3), (4, .int v4), (7, .int v7), (8, .int v8)] dX8_hearing_102 (Nat.le_of_ble_eq_true rfl) rfl ?_
          refine a_iinc 6 (v8 + 1) [(8, .int (v8 + 1)), (6, .int (v6 ||| (1 <<< (v8 &&& 31)))), (0, .ref (ga g 118)), (2, .int v2), (3, .int v3), (4, .int v4), (7, .int v7)] dX8_hearing_104 rfl rfl (Nat.le_of_ble_eq_true rfl) rfl ?_
          refine a_goto 34 dX8_hearing_107 rfl ?_
          exact a_sub [2, 3, 4, 5, 1, 6, 0] rfl hv
def VC_X8_hearing_20 (g : GT) (d : Nat) (v2 : Int32) (v3 : Int32) (v4 : Int32) (v6 : Int32) (v7 : Int32) (I : IT) (J : JT) (P : Int32 → IT → JT → Prop) : Prop :=
  (((I 119 0) ≤ v7 → ((v6 = v4 → (Lp_X8_hearing_8 g d v2 v3 v6 false I J P)) ∧ (¬ v6 = v4 → (Lp_X8_hearing_8 g d v2 v3 v6 true I J P)))) ∧ (¬ (I 119 0) ≤ v7 → (Lp_X8_hearing_34 g d v2 v3 v4 v6 v7 0 I J P)))
set_option maxRecDepth 4000 in
theorem w_X8_hearing_20 {g : GT} {d : Nat} {v2 : Int32} {v3 : Int32} {v4 : Int32} {v6 : Int32} {v7 : Int32} {I : IT} {J : JT} {P : Int32 → IT → JT → Prop} (hv : VC_X8_hearing_20 g d v2 v3 v4 v6 v7 I J P) : Lp_X8_hearing_20 g d v2 v3 v4 v6 v7 I J P := by
  unfold VC_X8_hearing_20 at hv
  unfold Lp_X8_hearing_20
  refine a_iload 5 dX8_hearing_20 rfl ?_
  refine a_aload_n 0 dX8_hearing_22 rfl rfl ?_
  refine a_getR (r := 119) G_X8_7 sh_118 rfl dX8_hearing_23 ?_
  refine a_iconst (v := 0) dX8_hearing_26 (by decide) ?_
  refine a_iald sh_119 (by unfold vp_in; decide) dX8_hearing_27 ?_
  refine a_icmp_ge 116 dX8_hearing_28 rfl (fun hc => ?_) (fun hc => ?_)
  · replace hv := hv.1 hc
    refine a_iload 4 dX8_hearing_116 rfl ?_
    refine a_iload 3 dX8_hearing_118 rfl ?_
    refine a_icmp_eq 127 dX8_hearing_120 rfl (fun hc => ?_) (fun hc => ?_)
    · replace hv := hv.1 hc
      refine a_iconst (v := 0) dX8_hearing_127 (by decide) ?_
      refine a_istore [(5, .int (bI false)), (0, .ref (ga g 118)), (2, .int v2), (3, .int v3), (4, .int v4), (6, .int v6), (7, .int v7)] dX8_hearing_128 (Nat.le_of_ble_eq_true rfl) rfl ?_
      refine a_iload 5 dX8_hearing_130 rfl ?_
      refine a_istore [(4, .int v6), (5, .int (bI false)), (0, .ref (ga g 118)), (2, .int v2), (3, .int v3), (6, .int v6), (7, .int v7)] dX8_hearing_132 (Nat.le_of_ble_eq_true rfl) rfl ?_
      refine a_goto 8 dX8_hearing_134 rfl ?_
      exact a_sub [2, 3, 4, 0, 1] rfl hv
    · replace hv := hv.2 hc
      refine a_iconst (v := 1) dX8_hearing_123 (by decide) ?_
      refine a_goto 128 dX8_hearing_124 rfl ?_
      refine a_istore [(5, .int (bI true)), (0, .ref (ga g 118)), (2, .int v2), (3, .int v3), (4, .int v4), (6, .int v6), (7, .int v7)] dX8_hearing_128 (Nat.le_of_ble_eq_true rfl) rfl ?_
      refine a_iload 5 dX8_hearing_130 rfl ?_
      refine a_istore [(4, .int v6), (5, .int (bI true)), (0, .ref (ga g 118)), (2, .int v2), (3, .int v3), (6, .int v6), (7, .int v7)] dX8_hearing_132 (Nat.le_of_ble_eq_true rfl) rfl ?_
      refine a_goto 8 dX8_hearing_134 rfl ?_
      exact a_sub [2, 3, 4, 0, 1] rfl hv
  · replace hv := hv.2 hc
    refine a_iconst (v := 0) dX8_hearing_31 (by decide) ?_
    refine a_istore [(8, .int 0), (0, .ref (ga g 118)), (2, .int v2), (3, .int v3), (4, .int v4), (6, .int v6), (7, .int v7)] dX8_hearing_32 (Nat.le_of_ble_eq_true rfl) rfl ?_
    exact a_sub [1, 2, 3, 4, 5, 6, 0] rfl hv
def VC_X8_hearing_8 (g : GT) (d : Nat) (v2 : Int32) (v3 : Int32) (v4 : Int32) (b5 : Bool) (I : IT) (J : JT) (P : Int32 → IT → JT → Prop) : Prop :=
  ((b5 = false → P v4 I J) ∧ (b5 = true → (Lp_X8_hearing_20 g d v2 v3 v4 v4 0 I J P)))
set_option maxRecDepth 4000 in
theorem w_X8_hearing_8 {g : GT} {d : Nat} {v2 : Int32} {v3 : Int32} {v4 : Int32} {b5 : Bool} {I : IT} {J : JT} {P : Int32 → IT → JT → Prop} (hv : VC_X8_hearing_8 g d v2 v3 v4 b5 I J P) : Lp_X8_hearing_8 g d v2 v3 v4 b5 I J P := by
  unfold VC_X8_hearing_8 at hv
  unfold Lp_X8_hearing_8
  refine a_iload 4 dX8_hearing_8 rfl ?_
  refine a_ifz_eq 137 dX8_hearing_10 rfl (fun hc => ?_) (fun hc => ?_)
  · replace hv := hv.1 hc
    refine a_iload 3 dX8_hearing_137 rfl ?_
    exact a_iret rfl dX8_hearing_139 hv
  · replace hv := hv.2 hc
    refine a_iload 3 dX8_hearing_13 rfl ?_
    refine a_istore [(6, .int v4), (0, .ref (ga g 118)), (2, .int v2), (3, .int v3), (4, .int v4), (5, .int (bI b5))] dX8_hearing_15 (Nat.le_of_ble_eq_true rfl) rfl ?_
    refine a_iconst (v := 0) dX8_hearing_17 (by decide) ?_
    refine a_istore [(7, .int 0), (6, .int v4), (0, .ref (ga g 118)), (2, .int v2), (3, .int v3), (4, .int v4), (5, .int (bI b5))] dX8_hearing_18 (Nat.le_of_ble_eq_true rfl) rfl ?_
    exact a_sub [2, 3, 4, 5, 1, 0] rfl hv
def VC_X8_hearing (g : GT) (d : Nat) (v1 : Int32) (v2 : Int32) (v3 : Int32) (I : IT) (J : JT) (P : Int32 → IT → JT → Prop) : Prop :=
  (Lp_X8_hearing_8 g d v2 v3 (1 <<< (v1 &&& 31)) true I J P)
set_option maxRecDepth 4000 in
theorem w_X8_hearing {g : GT} {d : Nat} {v1 : Int32} {v2 : Int32} {v3 : Int32} {I : IT} {J : JT} {P : Int32 → IT → JT → Prop} (hv : VC_X8_hearing g d v1 v2 v3 I J P) : SemI g d M_X8_hearing [.ref (ga g 118), .int v1, .int v2, .int v3] I J P := by
  unfold VC_X8_hearing at hv
  refine sem_intro (by decide +kernel) rfl (Nat.le_of_ble_eq_true rfl) ?_
  show AW _ 0 0 0 [(0, .ref (ga g 118)), (1, .int v1), (2, .int v2), (3, .int v3)] [] (cW g I J)
  refine a_iconst (v := 1) dX8_hearing_0 (by decide) ?_
  refine a_iload_n 1 dX8_hearing_1 rfl rfl ?_
  refine a_ishl dX8_hearing_2 ?_
  refine a_istore [(4, .int (1 <<< (v1 &&& 31))), (0, .ref (ga g 118)), (1, .int v1), (2, .int v2), (3, .int v3)] dX8_hearing_3 (Nat.le_of_ble_eq_true rfl) rfl ?_
  refine a_iconst (v := 1) dX8_hearing_5 (by decide) ?_
  refine a_istore [(5, .int (bI true)), (4, .int (1 <<< (v1 &&& 31))), (0, .ref (ga g 118)), (1, .int v1), (2, .int v2), (3, .int v3)] dX8_hearing_6 (Nat.le_of_ble_eq_true rfl) rfl ?_
  exact a_sub [2, 4, 5, 1, 0] rfl hv
def VC_X8_hears (g : GT) (d : Nat) (v1 : Int32) (v2 : Int32) (I : IT) (J : JT) (P : Int32 → IT → JT → Prop) : Prop :=
  (SemZ g (d - 1) M_X8_isShip [.ref (ga g 118), .int v1] I J (fun r2 I2 J2 => ((r2 = false → P (-1) I2 J2) ∧ (r2 = true → (SemZ g (d - 1) M_X8_in [.long (v2.toInt64), .long 0, .long 12] I2 J2 (fun r14 I14 J14 => ((r14 = false → P (-1) I14 J14) ∧ (r14 = true → (SemI g (d - 1) M_X8_hearing [.ref (ga g 118), .int v1, .int v2, .int ((1 <<< ((I14 119 0) &&& 31)) - 1)] I14 J14 (fun r33 I33 J33 => P r33 I33 J33))))))))))
set_option maxRecDepth 4000 in
theorem w_X8_hears {g : GT} {d : Nat} {v1 : Int32} {v2 : Int32} {I : IT} {J : JT} {P : Int32 → IT → JT → Prop} (hd : 1 ≤ d) (hv : VC_X8_hears g d v1 v2 I J P) : SemI g d M_X8_hears [.ref (ga g 118), .int v1, .int v2] I J P := by
  unfold VC_X8_hears at hv
  refine sem_intro (by decide +kernel) rfl (Nat.le_of_ble_eq_true rfl) ?_
  show AW _ 0 0 0 [(0, .ref (ga g 118)), (1, .int v1), (2, .int v2)] [] (cW g I J)
  refine a_aload_n 0 dX8_hears_0 rfl rfl ?_
  refine a_iload_n 1 dX8_hears_1 rfl rfl ?_
  refine c_VZ (As := [.int v1]) (rest := []) hv K_X8_103 sh_118 rfl rfl rfl (Nat.le_of_ble_eq_true rfl) (rok (by omega) (Nat.le_of_ble_eq_true rfl)) ⟨Nat.zero_le _, Nat.zero_le _⟩ dX8_hears_2 (fun r2 I2 J2 hv => ?_)
  refine a_ifz_eq 39 dX8_hears_5 rfl (fun hc => ?_) (fun hc => ?_)
  · replace hv := hv.1 hc
    refine a_iconst (v := (-1)) dX8_hears_39 (by decide) ?_
    exact a_iret rfl dX8_hears_40 hv
  · replace hv := hv.2 hc
    refine a_iload_n 2 dX8_hears_8 rfl rfl ?_
    refine a_i2l dX8_hears_9 ?_
    refine a_lconst (v := 0) dX8_hears_10 (by decide) ?_
    refine a_ldc2 (v := 12) dX8_hears_11 cl_X8_186 ?_
    refine c_SZ (As := [.long (v2.toInt64), .long 0, .long 12]) (rest := []) hv K_X8_44 rfl rfl (Nat.le_of_ble_eq_true rfl) (rok (by omega) (Nat.le_of_ble_eq_true rfl)) ⟨Nat.zero_le _, Nat.zero_le _⟩ dX8_hears_14 (fun r14 I14 J14 hv => ?_)
    refine a_ifz_eq 39 dX8_hears_17 rfl (fun hc => ?_) (fun hc => ?_)
    · replace hv := hv.1 hc
      refine a_iconst (v := (-1)) dX8_hears_39 (by decide) ?_
      exact a_iret rfl dX8_hears_40 hv
    · replace hv := hv.2 hc
      refine a_aload_n 0 dX8_hears_20 rfl rfl ?_
      refine a_iload_n 1 dX8_hears_21 rfl rfl ?_
      refine a_iload_n 2 dX8_hears_22 rfl rfl ?_
      refine a_iconst (v := 1) dX8_hears_23 (by decide) ?_
      refine a_aload_n 0 dX8_hears_24 rfl rfl ?_
      refine a_getR (r := 119) G_X8_7 sh_118 rfl dX8_hears_25 ?_
      refine a_iconst (v := 0) dX8_hears_28 (by decide) ?_
      refine a_iald sh_119 (by unfold vp_in; decide) dX8_hears_29 ?_
      refine a_ishl dX8_hears_30 ?_
      refine a_iconst (v := 1) dX8_hears_31 (by decide) ?_
      refine a_isub dX8_hears_32 ?_
      refine c_VI (As := [.int v1, .int v2, .int ((1 <<< ((I14 119 0) &&& 31)) - 1)]) (rest := []) hv K_X8_188 sh_118 rfl rfl rfl (Nat.le_of_ble_eq_true rfl) (rok (by omega) (Nat.le_of_ble_eq_true rfl)) ⟨Nat.zero_le _, Nat.zero_le _⟩ dX8_hears_33 (fun r33 I33 J33 hv => ?_)
      refine a_goto 40 dX8_hears_36 rfl ?_
      exact a_iret rfl dX8_hears_40 hv
def Lp_X8_links_40 (g : GT) (d : Nat) (v1 : Int32) (v2 : Int32) (v3 : Int32) (v4 : Int32) (I : IT) (J : JT) (P : Int32 → IT → JT → Prop) : Prop := AW (kM g d M_X8_links 0 0 (qI g P)) 0 0 40 [(0, .ref (ga g 118)), (1, .int v1), (2, .int v2), (3, .int v3), (4, .int v4)] [] (cW g I J)
def Lp_X8_links_64 (g : GT) (d : Nat) (v1 : Int32) (v2 : Int32) (v3 : Int32) (v4 : Int32) (v5 : Int32) (v6 : Int32) (I : IT) (J : JT) (P : Int32 → IT → JT → Prop) : Prop := AW (kM g d M_X8_links 0 0 (qI g P)) 0 0 64 [(0, .ref (ga g 118)), (1, .int v1), (2, .int v2), (3, .int v3), (4, .int v4), (5, .int v5), (6, .int v6)] [] (cW g I J)
def VC_X8_links_64 (g : GT) (d : Nat) (v1 : Int32) (v2 : Int32) (v3 : Int32) (v4 : Int32) (v5 : Int32) (v6 : Int32) (I : IT) (J : JT) (P : Int32 → IT → JT → Prop) : Prop :=
  (((I 119 0) ≤ v6 → (Lp_X8_links_40 g d v1 v2 v3 (v4 + 1) I J P)) ∧ (¬ (I 119 0) ≤ v6 → ((v6 = v4 → (Lp_X8_links_64 g d v1 v2 (v3 ||| 0) v4 v5 (v6 + 1) I J P)) ∧ (¬ v6 = v4 → (SemI g (d - 1) M_X8_hearing [.ref (ga g 118), .int v6, .int v1, .int v2] I J (fun r87 I87 J87 => (SemI g (d - 1) M_X8_hearing [.ref (ga g 118), .int v6, .int v1, .int v5] I87 J87 (fun r99 I99 J99 => (((r87 &&& v5) = r99 → (Lp_X8_links_64 g d v1 v2 (v3 ||| 0) v4 v5 (v6 + 1) I99 J99 P)) ∧ (¬ (r87 &&& v5) = r99 → (Lp_X8_links_64 g d v1 v2 (v3 ||| (1 <<< (v4 &&& 31))) v4 v5 (v6 + 1) I99 J99 P)))))))))))
set_option maxRecDepth 4000 in
theorem w_X8_links_64 {g : GT} {d : Nat} {v1 : Int32} {v2 : Int32} {v3 : Int32} {v4 : Int32} {v5 : Int32} {v6 : Int32} {I : IT} {J : JT} {P : Int32 → IT → JT → Prop} (hd : 1 ≤ d) (hv : VC_X8_links_64 g d v1 v2 v3 v4 v5 v6 I J P) : Lp_X8_links_64 g d v1 v2 v3 v4 v5 v6 I J P := by
  unfold VC_X8_links_64 at hv
  unfold Lp_X8_links_64
  refine a_iload 6 dX8_links_64 rfl ?_
  refine a_aload_n 0 dX8_links_66 rfl rfl ?_
  refine a_getR (r := 119) G_X8_7 sh_118 rfl dX8_links_67 ?_
  refine a_iconst (v := 0) dX8_links_70 (by decide) ?_
  refine a_iald sh_119 (by unfold vp_in; decide) dX8_links_71 ?_
  refine a_icmp_ge 134 dX8_links_72 rfl (fun hc => ?_) (fun hc => ?_)
  · replace hv := hv.1 hc
    refine a_iinc 4 (v4 + 1) [(4, .int (v4 + 1)), (0, .ref (ga g 118)), (1, .int v1), (2, .int v2), (3, .int v3), (5, .int v5), (6, .int v6)] dX8_links_134 rfl rfl (Nat.le_of_ble_eq_true rfl) rfl ?_
    refine a_goto 40 dX8_links_137 rfl ?_
    exact a_sub [1, 2, 3, 4, 0] rfl hv
  · replace hv := hv.2 hc
    refine a_iload 6 dX8_links_75 rfl ?_
    refine a_iload 4 dX8_links_77 rfl ?_
    refine a_icmp_eq 109 dX8_links_79 rfl (fun hc => ?_) (fun hc => ?_)
    · replace hv := hv.1 hc
      refine a_iconst (v := 0) dX8_links_109 (by decide) ?_
      refine a_istore [(7, .int (bI false)), (0, .ref (ga g 118)), (1, .int v1), (2, .int v2), (3, .int v3), (4, .int v4), (5, .int v5), (6, .int v6)] dX8_links_110 (Nat.le_of_ble_eq_true rfl) rfl ?_
      refine a_iload_n 4 dX8_links_112 rfl rfl ?_
      refine a_iload 0 dX8_links_113 rfl ?_
      refine a_ifz_eq 125 dX8_links_115 rfl (fun _ => ?_) (fun hc => absurd hc (by decide))
      refine a_iconst (v := 0) dX8_links_125 (by decide) ?_
      refine a_ior dX8_links_126 ?_
      refine a_istore_n [(3, .int (v3 ||| 0)), (7, .int (bI false)), (0, .ref (ga g 118)), (1, .int v1), (2, .int v2), (4, .int v4), (5, .int v5), (6, .int v6)] dX8_links_127 rfl (Nat.le_of_ble_eq_true rfl) rfl ?_
      refine a_iinc 7 (v6 + 1) [(6, .int (v6 + 1)), (3, .int (v3 ||| 0)), (7, .int (bI false)), (0, .ref (ga g 118)), (1, .int v1), (2, .int v2), (4, .int v4), (5, .int v5)] dX8_links_128 rfl rfl (Nat.le_of_ble_eq_true rfl) rfl ?_
      refine a_goto 64 dX8_links_131 rfl ?_
      exact a_sub [3, 4, 5, 1, 6, 7, 0] rfl hv
    · replace hv := hv.2 hc
      refine a_aload_n 0 dX8_links_82 rfl rfl ?_
      refine a_iload 6 dX8_links_83 rfl ?_
      refine a_iload_n 1 dX8_links_85 rfl rfl ?_
      refine a_iload_n 2 dX8_links_86 rfl rfl ?_
      refine c_VI (As := [.int v6, .int v1, .int v2]) (rest := []) hv K_X8_188 sh_118 rfl rfl rfl (Nat.le_of_ble_eq_true rfl) (rok (by omega) (Nat.le_of_ble_eq_true rfl)) ⟨Nat.zero_le _, Nat.zero_le _⟩ dX8_links_87 (fun r87 I87 J87 hv => ?_)
      refine a_iload 5 dX8_links_90 rfl ?_
      refine a_iand dX8_links_92 ?_
      refine a_aload_n 0 dX8_links_93 rfl rfl ?_
      refine a_iload 6 dX8_links_94 rfl ?_
      refine a_iload_n 1 dX8_links_96 rfl rfl ?_
      refine a_iload 5 dX8_links_97 rfl ?_
      refine c_VI (As := [.int v6, .int v1, .int v5]) (rest := [.int (r87 &&& v5)]) hv K_X8_188 sh_118 rfl rfl rfl (Nat.le_of_ble_eq_true rfl) (rok (by omega) (Nat.le_of_ble_eq_true rfl)) ⟨Nat.zero_le _, Nat.zero_le _⟩ dX8_links_99 (fun r99 I99 J99 hv => ?_)
      refine a_icmp_eq 109 dX8_links_102 rfl (fun hc => ?_) (fun hc => ?_)
      · replace hv := hv.1 hc
        refine a_iconst (v := 0) dX8_links_109 (by decide) ?_
        refine a_istore [(7, .int (bI false)), (0, .ref (ga g 118)), (1, .int v1), (2, .int v2), (3, .int v3), (4, .int v4), (5, .int v5), (6, .int v6)] dX8_links_110 (Nat.le_of_ble_eq_true rfl) rfl ?_
        refine a_iload_n 4 dX8_links_112 rfl rfl ?_
        refine a_iload 0 dX8_links_113 rfl ?_
        refine a_ifz_eq 125 dX8_links_115 rfl (fun _ => ?_) (fun hc => absurd hc (by decide))
        refine a_iconst (v := 0) dX8_links_125 (by decide) ?_
        refine a_ior dX8_links_126 ?_
        refine a_istore_n [(3, .int (v3 ||| 0)), (7, .int (bI false)), (0, .ref (ga g 118)), (1, .int v1), (2, .int v2), (4, .int v4), (5, .int v5), (6, .int v6)] dX8_links_127 rfl (Nat.le_of_ble_eq_true rfl) rfl ?_
        refine a_iinc 7 (v6 + 1) [(6, .int (v6 + 1)), (3, .int (v3 ||| 0)), (7, .int (bI false)), (0, .ref (ga g 118)), (1, .int v1), (2, .int v2), (4, .int v4), (5, .int v5)] dX8_links_128 rfl rfl (Nat.le_of_ble_eq_true rfl) rfl ?_
        refine a_goto 64 dX8_links_131 rfl ?_
        exact a_sub [3, 4, 5, 1, 6, 7, 0] rfl hv
      · replace hv := hv.2 hc
        refine a_iconst (v := 1) dX8_links_105 (by decide) ?_
        refine a_goto 110 dX8_links_106 rfl ?_
        refine a_istore [(7, .int (bI true)), (0, .ref (ga g 118)), (1, .int v1), (2, .int v2), (3, .int v3), (4, .int v4), (5, .int v5), (6, .int v6)] dX8_links_110 (Nat.le_of_ble_eq_true rfl) rfl ?_
        refine a_iload_n 4 dX8_links_112 rfl rfl ?_
        refine a_iload 0 dX8_links_113 rfl ?_
        refine a_ifz_eq 125 dX8_links_115 rfl (fun hc => absurd hc (by decide)) (fun _ => ?_)
        refine a_iconst (v := 1) dX8_links_118 (by decide) ?_
        refine a_iload 5 dX8_links_119 rfl ?_
        refine a_ishl dX8_links_121 ?_
        refine a_goto 126 dX8_links_122 rfl ?_
        refine a_ior dX8_links_126 ?_
        refine a_istore_n [(3, .int (v3 ||| (1 <<< (v4 &&& 31)))), (7, .int (bI true)), (0, .ref (ga g 118)), (1, .int v1), (2, .int v2), (4, .int v4), (5, .int v5), (6, .int v6)] dX8_links_127 rfl (Nat.le_of_ble_eq_true rfl) rfl ?_
        refine a_iinc 7 (v6 + 1) [(6, .int (v6 + 1)), (3, .int (v3 ||| (1 <<< (v4 &&& 31)))), (7, .int (bI true)), (0, .ref (ga g 118)), (1, .int v1), (2, .int v2), (4, .int v4), (5, .int v5)] dX8_links_128 rfl rfl (Nat.le_of_ble_eq_true rfl) rfl ?_
        refine a_goto 64 dX8_links_131 rfl ?_
        exact a_sub [3, 4, 5, 1, 6, 7, 0] rfl hv
def VC_X8_links_40 (g : GT) (d : Nat) (v1 : Int32) (v2 : Int32) (v3 : Int32) (v4 : Int32) (I : IT) (J : JT) (P : Int32 → IT → JT → Prop) : Prop :=
  (((I 119 0) ≤ v4 → P v3 I J) ∧ (¬ (I 119 0) ≤ v4 → (Lp_X8_links_64 g d v1 v2 v3 v4 (v2 &&& ((1 <<< (v4 &&& 31)) ^^^ (-1))) 0 I J P)))
set_option maxRecDepth 4000 in
theorem w_X8_links_40 {g : GT} {d : Nat} {v1 : Int32} {v2 : Int32} {v3 : Int32} {v4 : Int32} {I : IT} {J : JT} {P : Int32 → IT → JT → Prop} (hv : VC_X8_links_40 g d v1 v2 v3 v4 I J P) : Lp_X8_links_40 g d v1 v2 v3 v4 I J P := by
  unfold VC_X8_links_40 at hv
  unfold Lp_X8_links_40
  refine a_iload 4 dX8_links_40 rfl ?_
  refine a_aload_n 0 dX8_links_42 rfl rfl ?_
  refine a_getR (r := 119) G_X8_7 sh_118 rfl dX8_links_43 ?_
  refine a_iconst (v := 0) dX8_links_46 (by decide) ?_
  refine a_iald sh_119 (by unfold vp_in; decide) dX8_links_47 ?_
  refine a_icmp_ge 140 dX8_links_48 rfl (fun hc => ?_) (fun hc => ?_)
  · replace hv := hv.1 hc
    refine a_iload_n 3 dX8_links_140 rfl rfl ?_
    exact a_iret rfl dX8_links_141 hv
  · replace hv := hv.2 hc
    refine a_iload_n 2 dX8_links_51 rfl rfl ?_
    refine a_iconst (v := 1) dX8_links_52 (by decide) ?_
    refine a_iload 4 dX8_links_53 rfl ?_
    refine a_ishl dX8_links_55 ?_
    refine a_iconst (v := (-1)) dX8_links_56 (by decide) ?_
    refine a_ixor dX8_links_57 ?_
    refine a_iand dX8_links_58 ?_
    refine a_istore [(5, .int (v2 &&& ((1 <<< (v4 &&& 31)) ^^^ (-1)))), (0, .ref (ga g 118)), (1, .int v1), (2, .int v2), (3, .int v3), (4, .int v4)] dX8_links_59 (Nat.le_of_ble_eq_true rfl) rfl ?_
    refine a_iconst (v := 0) dX8_links_61 (by decide) ?_
    refine a_istore [(6, .int 0), (5, .int (v2 &&& ((1 <<< (v4 &&& 31)) ^^^ (-1)))), (0, .ref (ga g 118)), (1, .int v1), (2, .int v2), (3, .int v3), (4, .int v4)] dX8_links_62 (Nat.le_of_ble_eq_true rfl) rfl ?_
    exact a_sub [2, 3, 4, 5, 6, 1, 0] rfl hv
def VC_X8_links (g : GT) (d : Nat) (v1 : Int32) (I : IT) (J : JT) (P : Int32 → IT → JT → Prop) : Prop :=
  (SemZ g (d - 1) M_X8_in [.long (v1.toInt64), .long 0, .long 12] I J (fun r6 I6 J6 => ((r6 = true → (SemZ g (d - 1) M_X8_isFleet [.ref (ga g 118)] I6 J6 (fun r15 I15 J15 => ((r15 = true → (Lp_X8_links_40 g d v1 ((1 <<< ((I15 119 0) &&& 31)) - 1) 0 0 I15 J15 P)) ∧ (r15 = false → P (-2) I15 J15))))) ∧ (r6 = false → P (-1) I6 J6))))
set_option maxRecDepth 4000 in
theorem w_X8_links {g : GT} {d : Nat} {v1 : Int32} {I : IT} {J : JT} {P : Int32 → IT → JT → Prop} (hd : 1 ≤ d) (hv : VC_X8_links g d v1 I J P) : SemI g d M_X8_links [.ref (ga g 118), .int v1] I J P := by
  unfold VC_X8_links at hv
  refine sem_intro (by decide +kernel) rfl (Nat.le_of_ble_eq_true rfl) ?_
  show AW _ 0 0 0 [(0, .ref (ga g 118)), (1, .int v1)] [] (cW g I J)
  refine a_iload_n 1 dX8_links_0 rfl rfl ?_
  refine a_i2l dX8_links_1 ?_
  refine a_lconst (v := 0) dX8_links_2 (by decide) ?_
  refine a_ldc2 (v := 12) dX8_links_3 cl_X8_186 ?_
  refine c_SZ (As := [.long (v1.toInt64), .long 0, .long 12]) (rest := []) hv K_X8_44 rfl rfl (Nat.le_of_ble_eq_true rfl) (rok (by omega) (Nat.le_of_ble_eq_true rfl)) ⟨Nat.zero_le _, Nat.zero_le _⟩ dX8_links_6 (fun r6 I6 J6 hv => ?_)
  refine a_ifz_ne 14 dX8_links_9 rfl (fun hc => ?_) (fun hc => ?_)
  · replace hv := hv.1 hc
    refine a_aload_n 0 dX8_links_14 rfl rfl ?_
    refine c_VZ (As := []) (rest := []) hv K_X8_115 sh_118 rfl rfl rfl (Nat.le_of_ble_eq_true rfl) (rok (by omega) (Nat.le_of_ble_eq_true rfl)) ⟨Nat.zero_le _, Nat.zero_le _⟩ dX8_links_15 (fun r15 I15 J15 hv => ?_)
    refine a_ifz_ne 24 dX8_links_18 rfl (fun hc => ?_) (fun hc => ?_)
    · replace hv := hv.1 hc
      refine a_iconst (v := 1) dX8_links_24 (by decide) ?_
      refine a_aload_n 0 dX8_links_25 rfl rfl ?_
      refine a_getR (r := 119) G_X8_7 sh_118 rfl dX8_links_26 ?_
      refine a_iconst (v := 0) dX8_links_29 (by decide) ?_
      refine a_iald sh_119 (by unfold vp_in; decide) dX8_links_30 ?_
      refine a_ishl dX8_links_31 ?_
      refine a_iconst (v := 1) dX8_links_32 (by decide) ?_
      refine a_isub dX8_links_33 ?_
      refine a_istore_n [(2, .int ((1 <<< ((I15 119 0) &&& 31)) - 1)), (0, .ref (ga g 118)), (1, .int v1)] dX8_links_34 rfl (Nat.le_of_ble_eq_true rfl) rfl ?_
      refine a_iconst (v := 0) dX8_links_35 (by decide) ?_
      refine a_istore_n [(3, .int 0), (2, .int ((1 <<< ((I15 119 0) &&& 31)) - 1)), (0, .ref (ga g 118)), (1, .int v1)] dX8_links_36 rfl (Nat.le_of_ble_eq_true rfl) rfl ?_
      refine a_iconst (v := 0) dX8_links_37 (by decide) ?_
      refine a_istore [(4, .int 0), (3, .int 0), (2, .int ((1 <<< ((I15 119 0) &&& 31)) - 1)), (0, .ref (ga g 118)), (1, .int v1)] dX8_links_38 (Nat.le_of_ble_eq_true rfl) rfl ?_
      exact a_sub [3, 4, 2, 1, 0] rfl hv
    · replace hv := hv.2 hc
      refine a_bipush (v := (-2)) dX8_links_21 (by decide) ?_
      exact a_iret rfl dX8_links_23 hv
  · replace hv := hv.2 hc
    refine a_iconst (v := (-1)) dX8_links_12 (by decide) ?_
    exact a_iret rfl dX8_links_13 hv
def Lp_X8_harbourFrom_5 (g : GT) (d : Nat) (v1 : Int32) (v2 : Int32) (v3 : Int32) (I : IT) (J : JT) (P : Int32 → IT → JT → Prop) : Prop := AW (kM g d M_X8_harbourFrom 0 0 (qI g P)) 0 0 5 [(0, .ref (ga g 118)), (1, .int v1), (2, .int v2), (3, .int v3)] [] (cW g I J)
def VC_X8_harbourFrom_5 (g : GT) (d : Nat) (v1 : Int32) (v2 : Int32) (v3 : Int32) (I : IT) (J : JT) (P : Int32 → IT → JT → Prop) : Prop :=
  ((48 ≤ v3 → P v2 I J) ∧ (¬ 48 ≤ v3 → (SemZ g (d - 1) M_X8_isCell [.ref (ga g 118), .int v3] I J (fun r13 I13 J13 => ((r13 = false → (Lp_X8_harbourFrom_5 g d v1 v2 (v3 + 1) I13 J13 P)) ∧ (r13 = true → (vp_in (3 + v3) 952 ∧ ((¬ (I13 119 (3 + v3).toNatClampNeg) = 2 → (Lp_X8_harbourFrom_5 g d v1 v2 (v3 + 1) I13 J13 P)) ∧ ((I13 119 (3 + v3).toNatClampNeg) = 2 → (SemI g (d - 1) M_X8_away [.int v1, .int v3] I13 J13 (fun r33 I33 J33 => ((v2 ≤ r33 → (Lp_X8_harbourFrom_5 g d v1 v2 (v3 + 1) I33 J33 P)) ∧ (¬ v2 ≤ r33 → (SemI g (d - 1) M_X8_away [.int v1, .int v3] I33 J33 (fun r54 I54 J54 => (Lp_X8_harbourFrom_5 g d v1 r54 (v3 + 1) I54 J54 P))))))))))))))))
set_option maxRecDepth 4000 in
theorem w_X8_harbourFrom_5 {g : GT} {d : Nat} {v1 : Int32} {v2 : Int32} {v3 : Int32} {I : IT} {J : JT} {P : Int32 → IT → JT → Prop} (hd : 1 ≤ d) (hv : VC_X8_harbourFrom_5 g d v1 v2 v3 I J P) : Lp_X8_harbourFrom_5 g d v1 v2 v3 I J P := by
  unfold VC_X8_harbourFrom_5 at hv
  unfold Lp_X8_harbourFrom_5
  refine a_iload_n 3 dX8_harbourFrom_5 rfl rfl ?_
  refine a_bipush (v := 48) dX8_harbourFrom_6 (by decide) ?_
  refine a_icmp_ge 68 dX8_harbourFrom_8 rfl (fun hc => ?_) (fun hc => ?_)
  · replace hv := hv.1 hc
    refine a_iload_n 2 dX8_harbourFrom_68 rfl rfl ?_
    exact a_iret rfl dX8_harbourFrom_69 hv
  · replace hv := hv.2 hc
    refine a_aload_n 0 dX8_harbourFrom_11 rfl rfl ?_
    refine a_iload_n 3 dX8_harbourFrom_12 rfl rfl ?_
    refine c_VZ (As := [.int v3]) (rest := []) hv K_X8_112 sh_118 rfl rfl rfl (Nat.le_of_ble_eq_true rfl) (rok (by omega) (Nat.le_of_ble_eq_true rfl)) ⟨Nat.zero_le _, Nat.zero_le _⟩ dX8_harbourFrom_13 (fun r13 I13 J13 hv => ?_)
    refine a_ifz_eq 44 dX8_harbourFrom_16 rfl (fun hc => ?_) (fun hc => ?_)
    · replace hv := hv.1 hc
      refine a_iconst (v := 0) dX8_harbourFrom_44 (by decide) ?_
      refine a_istore [(4, .int (bI false)), (0, .ref (ga g 118)), (1, .int v1), (2, .int v2), (3, .int v3)] dX8_harbourFrom_45 (Nat.le_of_ble_eq_true rfl) rfl ?_
      refine a_iload 0 dX8_harbourFrom_47 rfl ?_
      refine a_ifz_eq 60 dX8_harbourFrom_49 rfl (fun _ => ?_) (fun hc => absurd hc (by decide))
      refine a_iload_n 3 dX8_harbourFrom_60 rfl rfl ?_
      refine a_istore_n [(2, .int v2), (4, .int (bI false)), (0, .ref (ga g 118)), (1, .int v1), (3, .int v3)] dX8_harbourFrom_61 rfl (Nat.le_of_ble_eq_true rfl) rfl ?_
      refine a_iinc 4 (v3 + 1) [(3, .int (v3 + 1)), (2, .int v2), (4, .int (bI false)), (0, .ref (ga g 118)), (1, .int v1)] dX8_harbourFrom_62 rfl rfl (Nat.le_of_ble_eq_true rfl) rfl ?_
      refine a_goto 5 dX8_harbourFrom_65 rfl ?_
      exact a_sub [3, 4, 1, 0] rfl hv
    · replace hv := hv.2 hc
      refine a_aload_n 0 dX8_harbourFrom_19 rfl rfl ?_
      refine a_getR (r := 119) G_X8_7 sh_118 rfl dX8_harbourFrom_20 ?_
      refine a_iconst (v := 3) dX8_harbourFrom_23 (by decide) ?_
      refine a_iload_n 3 dX8_harbourFrom_24 rfl rfl ?_
      refine a_iadd dX8_harbourFrom_25 ?_
      refine a_iald sh_119 hv.1 dX8_harbourFrom_26 ?_
      replace hv := hv.2
      refine a_iconst (v := 2) dX8_harbourFrom_27 (by decide) ?_
      refine a_icmp_ne 44 dX8_harbourFrom_28 rfl (fun hc => ?_) (fun hc => ?_)
      · replace hv := hv.1 hc
        refine a_iconst (v := 0) dX8_harbourFrom_44 (by decide) ?_
        refine a_istore [(4, .int (bI false)), (0, .ref (ga g 118)), (1, .int v1), (2, .int v2), (3, .int v3)] dX8_harbourFrom_45 (Nat.le_of_ble_eq_true rfl) rfl ?_
        refine a_iload 0 dX8_harbourFrom_47 rfl ?_
        refine a_ifz_eq 60 dX8_harbourFrom_49 rfl (fun _ => ?_) (fun hc => absurd hc (by decide))
        refine a_iload_n 3 dX8_harbourFrom_60 rfl rfl ?_
        refine a_istore_n [(2, .int v2), (4, .int (bI false)), (0, .ref (ga g 118)), (1, .int v1), (3, .int v3)] dX8_harbourFrom_61 rfl (Nat.le_of_ble_eq_true rfl) rfl ?_
        refine a_iinc 4 (v3 + 1) [(3, .int (v3 + 1)), (2, .int v2), (4, .int (bI false)), (0, .ref (ga g 118)), (1, .int v1)] dX8_harbourFrom_62 rfl rfl (Nat.le_of_ble_eq_true rfl) rfl ?_
        refine a_goto 5 dX8_harbourFrom_65 rfl ?_
        exact a_sub [3, 4, 1, 0] rfl hv
      · replace hv := hv.2 hc
        refine a_iload_n 1 dX8_harbourFrom_31 rfl rfl ?_
        refine a_iload_n 3 dX8_harbourFrom_32 rfl rfl ?_
        refine c_SI (As := [.int v1, .int v3]) (rest := []) hv K_X8_183 rfl rfl (Nat.le_of_ble_eq_true rfl) (rok (by omega) (Nat.le_of_ble_eq_true rfl)) ⟨Nat.zero_le _, Nat.zero_le _⟩ dX8_harbourFrom_33 (fun r33 I33 J33 hv => ?_)
        refine a_iload_n 2 dX8_harbourFrom_36 rfl rfl ?_
        refine a_icmp_ge 44 dX8_harbourFrom_37 rfl (fun hc => ?_) (fun hc => ?_)
        · replace hv := hv.1 hc
          refine a_iconst (v := 0) dX8_harbourFrom_44 (by decide) ?_
          refine a_istore [(4, .int (bI false)), (0, .ref (ga g 118)), (1, .int v1), (2, .int v2), (3, .int v3)] dX8_harbourFrom_45 (Nat.le_of_ble_eq_true rfl) rfl ?_
          refine a_iload 0 dX8_harbourFrom_47 rfl ?_
          refine a_ifz_eq 60 dX8_harbourFrom_49 rfl (fun _ => ?_) (fun hc => absurd hc (by decide))
          refine a_iload_n 3 dX8_harbourFrom_60 rfl rfl ?_
          refine a_istore_n [(2, .int v2), (4, .int (bI false)), (0, .ref (ga g 118)), (1, .int v1), (3, .int v3)] dX8_harbourFrom_61 rfl (Nat.le_of_ble_eq_true rfl) rfl ?_
          refine a_iinc 4 (v3 + 1) [(3, .int (v3 + 1)), (2, .int v2), (4, .int (bI false)), (0, .ref (ga g 118)), (1, .int v1)] dX8_harbourFrom_62 rfl rfl (Nat.le_of_ble_eq_true rfl) rfl ?_
          refine a_goto 5 dX8_harbourFrom_65 rfl ?_
          exact a_sub [3, 4, 1, 0] rfl hv
        · replace hv := hv.2 hc
          refine a_iconst (v := 1) dX8_harbourFrom_40 (by decide) ?_
          refine a_goto 45 dX8_harbourFrom_41 rfl ?_
          refine a_istore [(4, .int (bI true)), (0, .ref (ga g 118)), (1, .int v1), (2, .int v2), (3, .int v3)] dX8_harbourFrom_45 (Nat.le_of_ble_eq_true rfl) rfl ?_
          refine a_iload 0 dX8_harbourFrom_47 rfl ?_
          refine a_ifz_eq 60 dX8_harbourFrom_49 rfl (fun hc => absurd hc (by decide)) (fun _ => ?_)
          refine a_iload_n 2 dX8_harbourFrom_52 rfl rfl ?_
          refine a_iload_n 4 dX8_harbourFrom_53 rfl rfl ?_
          refine c_SI (As := [.int v1, .int v3]) (rest := []) hv K_X8_183 rfl rfl (Nat.le_of_ble_eq_true rfl) (rok (by omega) (Nat.le_of_ble_eq_true rfl)) ⟨Nat.zero_le _, Nat.zero_le _⟩ dX8_harbourFrom_54 (fun r54 I54 J54 hv => ?_)
          refine a_goto 61 dX8_harbourFrom_57 rfl ?_
          refine a_istore_n [(2, .int r54), (4, .int (bI true)), (0, .ref (ga g 118)), (1, .int v1), (3, .int v3)] dX8_harbourFrom_61 rfl (Nat.le_of_ble_eq_true rfl) rfl ?_
          refine a_iinc 4 (v3 + 1) [(3, .int (v3 + 1)), (2, .int r54), (4, .int (bI true)), (0, .ref (ga g 118)), (1, .int v1)] dX8_harbourFrom_62 rfl rfl (Nat.le_of_ble_eq_true rfl) rfl ?_
          refine a_goto 5 dX8_harbourFrom_65 rfl ?_
          exact a_sub [3, 4, 1, 0] rfl hv
def VC_X8_harbourFrom (g : GT) (d : Nat) (v1 : Int32) (I : IT) (J : JT) (P : Int32 → IT → JT → Prop) : Prop :=
  (Lp_X8_harbourFrom_5 g d v1 1000000 0 I J P)
set_option maxRecDepth 4000 in
theorem w_X8_harbourFrom {g : GT} {d : Nat} {v1 : Int32} {I : IT} {J : JT} {P : Int32 → IT → JT → Prop} (hv : VC_X8_harbourFrom g d v1 I J P) : SemI g d M_X8_harbourFrom [.ref (ga g 118), .int v1] I J P := by
  unfold VC_X8_harbourFrom at hv
  refine sem_intro (by decide +kernel) rfl (Nat.le_of_ble_eq_true rfl) ?_
  show AW _ 0 0 0 [(0, .ref (ga g 118)), (1, .int v1)] [] (cW g I J)
  refine a_ldc (v := 1000000) dX8_harbourFrom_0 ct_X8_165 ?_
  refine a_istore_n [(2, .int 1000000), (0, .ref (ga g 118)), (1, .int v1)] dX8_harbourFrom_2 rfl (Nat.le_of_ble_eq_true rfl) rfl ?_
  refine a_iconst (v := 0) dX8_harbourFrom_3 (by decide) ?_
  refine a_istore_n [(3, .int 0), (2, .int 1000000), (0, .ref (ga g 118)), (1, .int v1)] dX8_harbourFrom_4 rfl (Nat.le_of_ble_eq_true rfl) rfl ?_
  exact a_sub [2, 3, 1, 0] rfl hv
def Lp_X8_talk_61 (g : GT) (d : Nat) (v1 : Int32) (v2 : Int32) (v3 : Int32) (v4 : Int32) (v5 : Int32) (v6 : Int32) (I : IT) (J : JT) (P : Int32 → IT → JT → Prop) : Prop := AW (kM g d M_X8_talk 0 0 (qI g P)) 0 0 61 [(0, .ref (ga g 118)), (1, .int v1), (2, .int v2), (3, .int v3), (4, .int v4), (5, .int v5), (6, .int v6)] [] (cW g I J)
def Lp_X8_talk_85 (g : GT) (d : Nat) (v1 : Int32) (v2 : Int32) (v3 : Int32) (v4 : Int32) (v5 : Int32) (v6 : Int32) (I : IT) (J : JT) (P : Int32 → IT → JT → Prop) : Prop := AW (kM g d M_X8_talk 0 0 (qI g P)) 0 0 85 [(0, .ref (ga g 118)), (1, .int v1), (2, .int v2), (3, .int v3), (4, .int v4), (5, .int v5), (6, .int v6)] [] (cW g I J)
def Lp_X8_talk_186 (g : GT) (d : Nat) (v5 : Int32) (v6 : Int32) (I : IT) (J : JT) (P : Int32 → IT → JT → Prop) : Prop := AW (kM g d M_X8_talk 0 0 (qI g P)) 0 0 186 [(0, .ref (ga g 118)), (5, .int v5), (6, .int v6)] [] (cW g I J)
def Lp_X8_talk_103 (g : GT) (d : Nat) (v1 : Int32) (v2 : Int32) (v3 : Int32) (v4 : Int32) (v5 : Int32) (v6 : Int32) (v7 : Int32) (v8 : Int32) (I : IT) (J : JT) (P : Int32 → IT → JT → Prop) : Prop := AW (kM g d M_X8_talk 0 0 (qI g P)) 0 0 103 [(0, .ref (ga g 118)), (1, .int v1), (2, .int v2), (3, .int v3), (4, .int v4), (5, .int v5), (6, .int v6), (7, .int v7), (8, .int v8)] [] (cW g I J)
def Lp_X8_talk_200 (g : GT) (d : Nat) (v5 : Int32) (v6 : Int32) (v7 : Int32) (I : IT) (J : JT) (P : Int32 → IT → JT → Prop) : Prop := AW (kM g d M_X8_talk 0 0 (qI g P)) 0 0 200 [(0, .ref (ga g 118)), (5, .int v5), (6, .int v6), (7, .int v7)] [] (cW g I J)
def Lp_X8_talk_221 (g : GT) (d : Nat) (v5 : Int32) (v6 : Int32) (v7 : Int32) (v8 : Int32) (v9 : Int32) (I : IT) (J : JT) (P : Int32 → IT → JT → Prop) : Prop := AW (kM g d M_X8_talk 0 0 (qI g P)) 0 0 221 [(0, .ref (ga g 118)), (5, .int v5), (6, .int v6), (7, .int v7), (8, .int v8), (9, .int v9)] [] (cW g I J)
def VC_X8_talk_221 (g : GT) (d : Nat) (v5 : Int32) (v6 : Int32) (v7 : Int32) (v8 : Int32) (v9 : Int32) (I : IT) (J : JT) (P : Int32 → IT → JT → Prop) : Prop :=
  ((3 ≤ v9 → (vp_in v7 729 ∧ (Lp_X8_talk_200 g d v5 v6 (v7 + 1) (sI I 127 v7.toNatClampNeg v8) J P))) ∧ (¬ 3 ≤ v9 → (vp_in ((3 * v7) + v9) 729 ∧ ((¬ (v6 - v6 / 2 * 2) = 0 → (((I 127 ((3 * v7) + v9).toNatClampNeg) ≤ v8 → (Lp_X8_talk_221 g d v5 v6 v7 v8 (v9 + 1) I J P)) ∧ (¬ (I 127 ((3 * v7) + v9).toNatClampNeg) ≤ v8 → (Lp_X8_talk_221 g d v5 v6 v7 (I 127 ((3 * v7) + v9).toNatClampNeg) (v9 + 1) I J P)))) ∧ ((v6 - v6 / 2 * 2) = 0 → ((v8 ≤ (I 127 ((3 * v7) + v9).toNatClampNeg) → (Lp_X8_talk_221 g d v5 v6 v7 v8 (v9 + 1) I J P)) ∧ (¬ v8 ≤ (I 127 ((3 * v7) + v9).toNatClampNeg) → (Lp_X8_talk_221 g d v5 v6 v7 (I 127 ((3 * v7) + v9).toNatClampNeg) (v9 + 1) I J P))))))))
set_option maxRecDepth 4000 in
theorem w_X8_talk_221 {g : GT} {d : Nat} {v5 : Int32} {v6 : Int32} {v7 : Int32} {v8 : Int32} {v9 : Int32} {I : IT} {J : JT} {P : Int32 → IT → JT → Prop} (hv : VC_X8_talk_221 g d v5 v6 v7 v8 v9 I J P) : Lp_X8_talk_221 g d v5 v6 v7 v8 v9 I J P := by
  unfold VC_X8_talk_221 at hv
  unfold Lp_X8_talk_221
  refine a_iload 5 dX8_talk_221 rfl ?_
  refine a_iconst (v := 3) dX8_talk_223 (by decide) ?_
  refine a_icmp_ge 287 dX8_talk_224 rfl (fun hc => ?_) (fun hc => ?_)
  · replace hv := hv.1 hc
    refine a_aload_n 0 dX8_talk_287 rfl rfl ?_
    refine a_getR (r := 127) G_X8_35 sh_118 rfl dX8_talk_288 ?_
    refine a_iload 3 dX8_talk_291 rfl ?_
    refine a_iload 4 dX8_talk_293 rfl ?_
    refine a_iast sh_127 hv.1 dX8_talk_295 ?_
    replace hv := hv.2
    refine a_iinc 3 (v7 + 1) [(7, .int (v7 + 1)), (0, .ref (ga g 118)), (5, .int v5), (6, .int v6), (8, .int v8), (9, .int v9)] dX8_talk_296 rfl rfl (Nat.le_of_ble_eq_true rfl) rfl ?_
    refine a_goto 200 dX8_talk_299 rfl ?_
    exact a_sub [1, 2, 3, 0] rfl hv
  · replace hv := hv.2 hc
    refine a_aload_n 0 dX8_talk_227 rfl rfl ?_
    refine a_getR (r := 127) G_X8_35 sh_118 rfl dX8_talk_228 ?_
    refine a_iconst (v := 3) dX8_talk_231 (by decide) ?_
    refine a_iload 3 dX8_talk_232 rfl ?_
    refine a_imul dX8_talk_234 ?_
    refine a_iload 5 dX8_talk_235 rfl ?_
    refine a_iadd dX8_talk_237 ?_
    refine a_iald sh_127 hv.1 dX8_talk_238 ?_
    replace hv := hv.2
    refine a_istore [(10, .int (I 127 ((3 * v7) + v9).toNatClampNeg)), (0, .ref (ga g 118)), (5, .int v5), (6, .int v6), (7, .int v7), (8, .int v8), (9, .int v9)] dX8_talk_239 (Nat.le_of_ble_eq_true rfl) rfl ?_
    refine a_iload 3 dX8_talk_241 rfl ?_
    refine a_iconst (v := 2) dX8_talk_243 (by decide) ?_
    refine a_irem dX8_talk_244 (by decide) ?_
    refine a_if_ne 265 dX8_talk_245 rfl (fun hc => ?_) (fun hc => ?_)
    · replace hv := hv.1 hc
      refine a_iload 0 dX8_talk_265 rfl ?_
      refine a_iload 5 dX8_talk_267 rfl ?_
      refine a_icmp_le 277 dX8_talk_269 rfl (fun hc => ?_) (fun hc => ?_)
      · replace hv := hv.1 hc
        refine a_iload 5 dX8_talk_277 rfl ?_
        refine a_istore [(8, .int v8), (10, .int (I 127 ((3 * v7) + v9).toNatClampNeg)), (0, .ref (ga g 118)), (5, .int v5), (6, .int v6), (7, .int v7), (9, .int v9)] dX8_talk_279 (Nat.le_of_ble_eq_true rfl) rfl ?_
        refine a_iinc 6 (v9 + 1) [(9, .int (v9 + 1)), (8, .int v8), (10, .int (I 127 ((3 * v7) + v9).toNatClampNeg)), (0, .ref (ga g 118)), (5, .int v5), (6, .int v6), (7, .int v7)] dX8_talk_281 rfl rfl (Nat.le_of_ble_eq_true rfl) rfl ?_
        refine a_goto 221 dX8_talk_284 rfl ?_
        exact a_sub [3, 4, 5, 6, 1, 0] rfl hv
      · replace hv := hv.2 hc
        refine a_iload 0 dX8_talk_272 rfl ?_
        refine a_goto 279 dX8_talk_274 rfl ?_
        refine a_istore [(8, .int (I 127 ((3 * v7) + v9).toNatClampNeg)), (10, .int (I 127 ((3 * v7) + v9).toNatClampNeg)), (0, .ref (ga g 118)), (5, .int v5), (6, .int v6), (7, .int v7), (9, .int v9)] dX8_talk_279 (Nat.le_of_ble_eq_true rfl) rfl ?_
        refine a_iinc 6 (v9 + 1) [(9, .int (v9 + 1)), (8, .int (I 127 ((3 * v7) + v9).toNatClampNeg)), (10, .int (I 127 ((3 * v7) + v9).toNatClampNeg)), (0, .ref (ga g 118)), (5, .int v5), (6, .int v6), (7, .int v7)] dX8_talk_281 rfl rfl (Nat.le_of_ble_eq_true rfl) rfl ?_
        refine a_goto 221 dX8_talk_284 rfl ?_
        exact a_sub [3, 4, 5, 6, 1, 0] rfl hv
    · replace hv := hv.2 hc
      refine a_iload 0 dX8_talk_248 rfl ?_
      refine a_iload 5 dX8_talk_250 rfl ?_
      refine a_icmp_ge 260 dX8_talk_252 rfl (fun hc => ?_) (fun hc => ?_)
      · replace hv := hv.1 hc
        refine a_iload 5 dX8_talk_260 rfl ?_
        refine a_goto 279 dX8_talk_262 rfl ?_
        refine a_istore [(8, .int v8), (10, .int (I 127 ((3 * v7) + v9).toNatClampNeg)), (0, .ref (ga g 118)), (5, .int v5), (6, .int v6), (7, .int v7), (9, .int v9)] dX8_talk_279 (Nat.le_of_ble_eq_true rfl) rfl ?_
        refine a_iinc 6 (v9 + 1) [(9, .int (v9 + 1)), (8, .int v8), (10, .int (I 127 ((3 * v7) + v9).toNatClampNeg)), (0, .ref (ga g 118)), (5, .int v5), (6, .int v6), (7, .int v7)] dX8_talk_281 rfl rfl (Nat.le_of_ble_eq_true rfl) rfl ?_
        refine a_goto 221 dX8_talk_284 rfl ?_
        exact a_sub [3, 4, 5, 6, 1, 0] rfl hv
      · replace hv := hv.2 hc
        refine a_iload 0 dX8_talk_255 rfl ?_
        refine a_goto 279 dX8_talk_257 rfl ?_
        refine a_istore [(8, .int (I 127 ((3 * v7) + v9).toNatClampNeg)), (10, .int (I 127 ((3 * v7) + v9).toNatClampNeg)), (0, .ref (ga g 118)), (5, .int v5), (6, .int v6), (7, .int v7), (9, .int v9)] dX8_talk_279 (Nat.le_of_ble_eq_true rfl) rfl ?_
        refine a_iinc 6 (v9 + 1) [(9, .int (v9 + 1)), (8, .int (I 127 ((3 * v7) + v9).toNatClampNeg)), (10, .int (I 127 ((3 * v7) + v9).toNatClampNeg)), (0, .ref (ga g 118)), (5, .int v5), (6, .int v6), (7, .int v7)] dX8_talk_281 rfl rfl (Nat.le_of_ble_eq_true rfl) rfl ?_
        refine a_goto 221 dX8_talk_284 rfl ?_
        exact a_sub [3, 4, 5, 6, 1, 0] rfl hv
def VC_X8_talk_200 (g : GT) (d : Nat) (v5 : Int32) (v6 : Int32) (v7 : Int32) (I : IT) (J : JT) (P : Int32 → IT → JT → Prop) : Prop :=
  ((v5 ≤ v7 → (Lp_X8_talk_186 g d v5 (v6 + (-1)) I J P)) ∧ (¬ v5 ≤ v7 → (vp_in (3 * v7) 729 ∧ (Lp_X8_talk_221 g d v5 v6 v7 (I 127 (3 * v7).toNatClampNeg) 1 I J P))))
set_option maxRecDepth 4000 in
theorem w_X8_talk_200 {g : GT} {d : Nat} {v5 : Int32} {v6 : Int32} {v7 : Int32} {I : IT} {J : JT} {P : Int32 → IT → JT → Prop} (hv : VC_X8_talk_200 g d v5 v6 v7 I J P) : Lp_X8_talk_200 g d v5 v6 v7 I J P := by
  unfold VC_X8_talk_200 at hv
  unfold Lp_X8_talk_200
  refine a_iload 3 dX8_talk_200 rfl ?_
  refine a_iload 1 dX8_talk_202 rfl ?_
  refine a_icmp_ge 302 dX8_talk_204 rfl (fun hc => ?_) (fun hc => ?_)
  · replace hv := hv.1 hc
    refine a_iinc 2 (v6 + (-1)) [(6, .int (v6 + (-1))), (0, .ref (ga g 118)), (5, .int v5), (7, .int v7)] dX8_talk_302 rfl rfl (Nat.le_of_ble_eq_true rfl) rfl ?_
    refine a_goto 186 dX8_talk_305 rfl ?_
    exact a_sub [1, 2, 0] rfl hv
  · replace hv := hv.2 hc
    refine a_aload_n 0 dX8_talk_207 rfl rfl ?_
    refine a_getR (r := 127) G_X8_35 sh_118 rfl dX8_talk_208 ?_
    refine a_iconst (v := 3) dX8_talk_211 (by decide) ?_
    refine a_iload 3 dX8_talk_212 rfl ?_
    refine a_imul dX8_talk_214 ?_
    refine a_iald sh_127 hv.1 dX8_talk_215 ?_
    replace hv := hv.2
    refine a_istore [(8, .int (I 127 (3 * v7).toNatClampNeg)), (0, .ref (ga g 118)), (5, .int v5), (6, .int v6), (7, .int v7)] dX8_talk_216 (Nat.le_of_ble_eq_true rfl) rfl ?_
    refine a_iconst (v := 1) dX8_talk_218 (by decide) ?_
    refine a_istore [(9, .int 1), (8, .int (I 127 (3 * v7).toNatClampNeg)), (0, .ref (ga g 118)), (5, .int v5), (6, .int v6), (7, .int v7)] dX8_talk_219 (Nat.le_of_ble_eq_true rfl) rfl ?_
    exact a_sub [2, 3, 4, 5, 1, 0] rfl hv
def VC_X8_talk_103 (g : GT) (d : Nat) (v1 : Int32) (v2 : Int32) (v3 : Int32) (v4 : Int32) (v5 : Int32) (v6 : Int32) (v7 : Int32) (v8 : Int32) (I : IT) (J : JT) (P : Int32 → IT → JT → Prop) : Prop :=
  (((2 * v4) ≤ v8 → (vp_in (378 + v1) 952 ∧ (SemI g (d - 1) M_X8_harbourFrom [.ref (ga g 118), .int (I 119 (378 + v1).toNatClampNeg)] I J (fun r168 I168 J168 => (vp_in v6 729 ∧ (Lp_X8_talk_85 g d v1 v2 v3 v4 v5 (v6 + 1) (sI I168 127 v6.toNatClampNeg r168) J168 P)))))) ∧ (¬ (2 * v4) ≤ v8 → ((¬ (v8 - v8 / 2 * 2) = 0 → (¬ (v7 / 3) = 0 ∧ (SemV g (d - 1) M_X8_says [.ref (ga g 118), .int 320, .int v1, .int v3, .int ((v6 / (v7 / 3)) - (v6 / (v7 / 3)) / 3 * 3)] I J (fun I142 J142 => (Lp_X8_talk_103 g d v1 v2 v3 v4 v5 v6 (v7 / 3) (v8 + 1) I142 J142 P))))) ∧ ((v8 - v8 / 2 * 2) = 0 → (¬ (v7 / 3) = 0 ∧ (SemV g (d - 1) M_X8_says [.ref (ga g 118), .int 320, .int v1, .int v2, .int ((v6 / (v7 / 3)) - (v6 / (v7 / 3)) / 3 * 3)] I J (fun I142 J142 => (Lp_X8_talk_103 g d v1 v2 v3 v4 v5 v6 (v7 / 3) (v8 + 1) I142 J142 P))))))))
set_option maxRecDepth 4000 in
theorem w_X8_talk_103 {g : GT} {d : Nat} {v1 : Int32} {v2 : Int32} {v3 : Int32} {v4 : Int32} {v5 : Int32} {v6 : Int32} {v7 : Int32} {v8 : Int32} {I : IT} {J : JT} {P : Int32 → IT → JT → Prop} (hd : 1 ≤ d) (hv : VC_X8_talk_103 g d v1 v2 v3 v4 v5 v6 v7 v8 I J P) : Lp_X8_talk_103 g d v1 v2 v3 v4 v5 v6 v7 v8 I J P := by
  unfold VC_X8_talk_103 at hv
  unfold Lp_X8_talk_103
  refine a_iload 8 dX8_talk_103 rfl ?_
  refine a_iconst (v := 2) dX8_talk_105 (by decide) ?_
  refine a_iload 4 dX8_talk_106 rfl ?_
  refine a_imul dX8_talk_108 ?_
  refine a_icmp_ge 151 dX8_talk_109 rfl (fun hc => ?_) (fun hc => ?_)
  · replace hv := hv.1 hc
    refine a_aload_n 0 dX8_talk_151 rfl rfl ?_
    refine a_getR (r := 127) G_X8_35 sh_118 rfl dX8_talk_152 ?_
    refine a_iload 6 dX8_talk_155 rfl ?_
    refine a_aload_n 0 dX8_talk_157 rfl rfl ?_
    refine a_aload_n 0 dX8_talk_158 rfl rfl ?_
    refine a_getR (r := 119) G_X8_7 sh_118 rfl dX8_talk_159 ?_
    refine a_sipush (v := 378) dX8_talk_162 (by decide) ?_
    refine a_iload_n 1 dX8_talk_165 rfl rfl ?_
    refine a_iadd dX8_talk_166 ?_
    refine a_iald sh_119 hv.1 dX8_talk_167 ?_
    replace hv := hv.2
    refine c_VI (As := [.int (I 119 (378 + v1).toNatClampNeg)]) (rest := [.int v6, .ref (ga g 127)]) hv K_X8_191 sh_118 rfl rfl rfl (Nat.le_of_ble_eq_true rfl) (rok (by omega) (Nat.le_of_ble_eq_true rfl)) ⟨Nat.zero_le _, Nat.zero_le _⟩ dX8_talk_168 (fun r168 I168 J168 hv => ?_)
    refine a_iast sh_127 hv.1 dX8_talk_171 ?_
    replace hv := hv.2
    refine a_iinc 6 (v6 + 1) [(6, .int (v6 + 1)), (0, .ref (ga g 118)), (1, .int v1), (2, .int v2), (3, .int v3), (4, .int v4), (5, .int v5), (7, .int v7), (8, .int v8)] dX8_talk_172 rfl rfl (Nat.le_of_ble_eq_true rfl) rfl ?_
    refine a_goto 85 dX8_talk_175 rfl ?_
    exact a_sub [1, 2, 3, 4, 5, 6, 0] rfl hv
  · replace hv := hv.2 hc
    refine a_iload 7 dX8_talk_112 rfl ?_
    refine a_iconst (v := 3) dX8_talk_114 (by decide) ?_
    refine a_idiv dX8_talk_115 (by decide) ?_
    refine a_istore [(7, .int (v7 / 3)), (0, .ref (ga g 118)), (1, .int v1), (2, .int v2), (3, .int v3), (4, .int v4), (5, .int v5), (6, .int v6), (8, .int v8)] dX8_talk_116 (Nat.le_of_ble_eq_true rfl) rfl ?_
    refine a_aload_n 1 dX8_talk_118 rfl rfl ?_
    refine a_sipush (v := 320) dX8_talk_119 (by decide) ?_
    refine a_iload_n 2 dX8_talk_122 rfl rfl ?_
    refine a_iload 8 dX8_talk_123 rfl ?_
    refine a_iconst (v := 2) dX8_talk_125 (by decide) ?_
    refine a_irem dX8_talk_126 (by decide) ?_
    refine a_if_ne 134 dX8_talk_127 rfl (fun hc => ?_) (fun hc => ?_)
    · replace hv := hv.1 hc
      refine a_iload_n 4 dX8_talk_134 rfl rfl ?_
      refine a_iload 7 dX8_talk_135 rfl ?_
      refine a_iload 0 dX8_talk_137 rfl ?_
      refine a_idiv dX8_talk_139 hv.1 ?_
      replace hv := hv.2
      refine a_iconst (v := 3) dX8_talk_140 (by decide) ?_
      refine a_irem dX8_talk_141 (by decide) ?_
      refine c_VV (As := [.int 320, .int v1, .int v3, .int ((v6 / (v7 / 3)) - (v6 / (v7 / 3)) / 3 * 3)]) (rest := []) hv K_X8_157 sh_118 rfl rfl rfl (Nat.le_of_ble_eq_true rfl) (rok (by omega) (Nat.le_of_ble_eq_true rfl)) ⟨Nat.zero_le _, Nat.zero_le _⟩ dX8_talk_142 (fun I142 J142 hv => ?_)
      refine a_iinc 8 (v8 + 1) [(8, .int (v8 + 1)), (7, .int (v7 / 3)), (0, .ref (ga g 118)), (1, .int v1), (2, .int v2), (3, .int v3), (4, .int v4), (5, .int v5), (6, .int v6)] dX8_talk_145 rfl rfl (Nat.le_of_ble_eq_true rfl) rfl ?_
      refine a_goto 103 dX8_talk_148 rfl ?_
      exact a_sub [2, 3, 4, 5, 6, 7, 8, 1, 0] rfl hv
    · replace hv := hv.2 hc
      refine a_iload_n 3 dX8_talk_130 rfl rfl ?_
      refine a_goto 135 dX8_talk_131 rfl ?_
      refine a_iload 7 dX8_talk_135 rfl ?_
      refine a_iload 0 dX8_talk_137 rfl ?_
      refine a_idiv dX8_talk_139 hv.1 ?_
      replace hv := hv.2
      refine a_iconst (v := 3) dX8_talk_140 (by decide) ?_
      refine a_irem dX8_talk_141 (by decide) ?_
      refine c_VV (As := [.int 320, .int v1, .int v2, .int ((v6 / (v7 / 3)) - (v6 / (v7 / 3)) / 3 * 3)]) (rest := []) hv K_X8_157 sh_118 rfl rfl rfl (Nat.le_of_ble_eq_true rfl) (rok (by omega) (Nat.le_of_ble_eq_true rfl)) ⟨Nat.zero_le _, Nat.zero_le _⟩ dX8_talk_142 (fun I142 J142 hv => ?_)
      refine a_iinc 8 (v8 + 1) [(8, .int (v8 + 1)), (7, .int (v7 / 3)), (0, .ref (ga g 118)), (1, .int v1), (2, .int v2), (3, .int v3), (4, .int v4), (5, .int v5), (6, .int v6)] dX8_talk_145 rfl rfl (Nat.le_of_ble_eq_true rfl) rfl ?_
      refine a_goto 103 dX8_talk_148 rfl ?_
      exact a_sub [2, 3, 4, 5, 6, 7, 8, 1, 0] rfl hv
def VC_X8_talk_186 (g : GT) (d : Nat) (v5 : Int32) (v6 : Int32) (I : IT) (J : JT) (P : Int32 → IT → JT → Prop) : Prop :=
  ((v6 < 0 → P (I 127 0) I J) ∧ (¬ v6 < 0 → (Lp_X8_talk_200 g d (v5 / 3) v6 0 I J P)))
set_option maxRecDepth 4000 in
theorem w_X8_talk_186 {g : GT} {d : Nat} {v5 : Int32} {v6 : Int32} {I : IT} {J : JT} {P : Int32 → IT → JT → Prop} (hv : VC_X8_talk_186 g d v5 v6 I J P) : Lp_X8_talk_186 g d v5 v6 I J P := by
  unfold VC_X8_talk_186 at hv
  unfold Lp_X8_talk_186
  refine a_iload 2 dX8_talk_186 rfl ?_
  refine a_if_lt 308 dX8_talk_188 rfl (fun hc => ?_) (fun hc => ?_)
  · replace hv := hv.1 hc
    refine a_aload_n 0 dX8_talk_308 rfl rfl ?_
    refine a_getR (r := 127) G_X8_35 sh_118 rfl dX8_talk_309 ?_
    refine a_iconst (v := 0) dX8_talk_312 (by decide) ?_
    refine a_iald sh_127 (by unfold vp_in; decide) dX8_talk_313 ?_
    exact a_iret rfl dX8_talk_314 hv
  · replace hv := hv.2 hc
    refine a_iload 1 dX8_talk_191 rfl ?_
    refine a_iconst (v := 3) dX8_talk_193 (by decide) ?_
    refine a_idiv dX8_talk_194 (by decide) ?_
    refine a_istore [(5, .int (v5 / 3)), (0, .ref (ga g 118)), (6, .int v6)] dX8_talk_195 (Nat.le_of_ble_eq_true rfl) rfl ?_
    refine a_iconst (v := 0) dX8_talk_197 (by decide) ?_
    refine a_istore [(7, .int 0), (5, .int (v5 / 3)), (0, .ref (ga g 118)), (6, .int v6)] dX8_talk_198 (Nat.le_of_ble_eq_true rfl) rfl ?_
    exact a_sub [2, 1, 3, 0] rfl hv
def VC_X8_talk_85 (g : GT) (d : Nat) (v1 : Int32) (v2 : Int32) (v3 : Int32) (v4 : Int32) (v5 : Int32) (v6 : Int32) (I : IT) (J : JT) (P : Int32 → IT → JT → Prop) : Prop :=
  ((v5 ≤ v6 → (Lp_X8_talk_186 g d v5 ((2 * v4) - 1) I J P)) ∧ (¬ v5 ≤ v6 → (SemV g (d - 1) M_X8_tries [.ref (ga g 118)] I J (fun I93 J93 => (Lp_X8_talk_103 g d v1 v2 v3 v4 v5 v6 v5 0 I93 J93 P)))))
set_option maxRecDepth 4000 in
theorem w_X8_talk_85 {g : GT} {d : Nat} {v1 : Int32} {v2 : Int32} {v3 : Int32} {v4 : Int32} {v5 : Int32} {v6 : Int32} {I : IT} {J : JT} {P : Int32 → IT → JT → Prop} (hd : 1 ≤ d) (hv : VC_X8_talk_85 g d v1 v2 v3 v4 v5 v6 I J P) : Lp_X8_talk_85 g d v1 v2 v3 v4 v5 v6 I J P := by
  unfold VC_X8_talk_85 at hv
  unfold Lp_X8_talk_85
  refine a_iload 6 dX8_talk_85 rfl ?_
  refine a_iload 5 dX8_talk_87 rfl ?_
  refine a_icmp_ge 178 dX8_talk_89 rfl (fun hc => ?_) (fun hc => ?_)
  · replace hv := hv.1 hc
    refine a_iconst (v := 2) dX8_talk_178 (by decide) ?_
    refine a_iload 4 dX8_talk_179 rfl ?_
    refine a_imul dX8_talk_181 ?_
    refine a_iconst (v := 1) dX8_talk_182 (by decide) ?_
    refine a_isub dX8_talk_183 ?_
    refine a_istore [(6, .int ((2 * v4) - 1)), (0, .ref (ga g 118)), (1, .int v1), (2, .int v2), (3, .int v3), (4, .int v4), (5, .int v5)] dX8_talk_184 (Nat.le_of_ble_eq_true rfl) rfl ?_
    exact a_sub [1, 6, 0] rfl hv
  · replace hv := hv.2 hc
    refine a_aload_n 0 dX8_talk_92 rfl rfl ?_
    refine c_VV (As := []) (rest := []) hv K_X8_194 sh_118 rfl rfl rfl (Nat.le_of_ble_eq_true rfl) (rok (by omega) (Nat.le_of_ble_eq_true rfl)) ⟨Nat.zero_le _, Nat.zero_le _⟩ dX8_talk_93 (fun I93 J93 hv => ?_)
    refine a_iload 5 dX8_talk_96 rfl ?_
    refine a_istore [(7, .int v5), (0, .ref (ga g 118)), (1, .int v1), (2, .int v2), (3, .int v3), (4, .int v4), (5, .int v5), (6, .int v6)] dX8_talk_98 (Nat.le_of_ble_eq_true rfl) rfl ?_
    refine a_iconst (v := 0) dX8_talk_100 (by decide) ?_
    refine a_istore [(8, .int 0), (7, .int v5), (0, .ref (ga g 118)), (1, .int v1), (2, .int v2), (3, .int v3), (4, .int v4), (5, .int v5), (6, .int v6)] dX8_talk_101 (Nat.le_of_ble_eq_true rfl) rfl ?_
    exact a_sub [2, 3, 4, 5, 6, 7, 8, 1, 0] rfl hv
def VC_X8_talk_61 (g : GT) (d : Nat) (v1 : Int32) (v2 : Int32) (v3 : Int32) (v4 : Int32) (v5 : Int32) (v6 : Int32) (I : IT) (J : JT) (P : Int32 → IT → JT → Prop) : Prop :=
  (((2 * v4) ≤ v6 → (Lp_X8_talk_85 g d v1 v2 v3 v4 v5 0 I J P)) ∧ (¬ (2 * v4) ≤ v6 → (Lp_X8_talk_61 g d v1 v2 v3 v4 (v5 * 3) (v6 + 1) I J P)))
set_option maxRecDepth 4000 in
theorem w_X8_talk_61 {g : GT} {d : Nat} {v1 : Int32} {v2 : Int32} {v3 : Int32} {v4 : Int32} {v5 : Int32} {v6 : Int32} {I : IT} {J : JT} {P : Int32 → IT → JT → Prop} (hv : VC_X8_talk_61 g d v1 v2 v3 v4 v5 v6 I J P) : Lp_X8_talk_61 g d v1 v2 v3 v4 v5 v6 I J P := by
  unfold VC_X8_talk_61 at hv
  unfold Lp_X8_talk_61
  refine a_iload 6 dX8_talk_61 rfl ?_
  refine a_iconst (v := 2) dX8_talk_63 (by decide) ?_
  refine a_iload 4 dX8_talk_64 rfl ?_
  refine a_imul dX8_talk_66 ?_
  refine a_icmp_ge 82 dX8_talk_67 rfl (fun hc => ?_) (fun hc => ?_)
  · replace hv := hv.1 hc
    refine a_iconst (v := 0) dX8_talk_82 (by decide) ?_
    refine a_istore [(6, .int 0), (0, .ref (ga g 118)), (1, .int v1), (2, .int v2), (3, .int v3), (4, .int v4), (5, .int v5)] dX8_talk_83 (Nat.le_of_ble_eq_true rfl) rfl ?_
    exact a_sub [1, 2, 3, 4, 5, 6, 0] rfl hv
  · replace hv := hv.2 hc
    refine a_iload 5 dX8_talk_70 rfl ?_
    refine a_iconst (v := 3) dX8_talk_72 (by decide) ?_
    refine a_imul dX8_talk_73 ?_
    refine a_istore [(5, .int (v5 * 3)), (0, .ref (ga g 118)), (1, .int v1), (2, .int v2), (3, .int v3), (4, .int v4), (6, .int v6)] dX8_talk_74 (Nat.le_of_ble_eq_true rfl) rfl ?_
    refine a_iinc 6 (v6 + 1) [(6, .int (v6 + 1)), (5, .int (v5 * 3)), (0, .ref (ga g 118)), (1, .int v1), (2, .int v2), (3, .int v3), (4, .int v4)] dX8_talk_76 rfl rfl (Nat.le_of_ble_eq_true rfl) rfl ?_
    refine a_goto 61 dX8_talk_79 rfl ?_
    exact a_sub [2, 3, 4, 5, 6, 1, 0] rfl hv
def VC_X8_talk (g : GT) (d : Nat) (v1 : Int32) (v2 : Int32) (v3 : Int32) (v4 : Int32) (I : IT) (J : JT) (P : Int32 → IT → JT → Prop) : Prop :=
  (SemZ g (d - 1) M_X8_isShip [.ref (ga g 118), .int v1] I J (fun r2 I2 J2 => ((r2 = false → P (-1) I2 J2) ∧ (r2 = true → (SemZ g (d - 1) M_X8_isTeller [.int v2] I2 J2 (fun r9 I9 J9 => ((r9 = false → P (-1) I9 J9) ∧ (r9 = true → (SemZ g (d - 1) M_X8_isTeller [.int v3] I9 J9 (fun r16 I16 J16 => ((r16 = false → P (-1) I16 J16) ∧ (r16 = true → ((v2 = v3 → P (-1) I16 J16) ∧ (¬ v2 = v3 → (SemZ g (d - 1) M_X8_in [.long (v4.toInt64), .long 0, .long 3] I16 J16 (fun r34 I34 J34 => ((r34 = true → (SemI g (d - 1) M_X8_harbourFrom [.ref (ga g 118), .int 0] I34 J34 (fun r44 I44 J44 => ((¬ r44 = 1000000 → (Lp_X8_talk_61 g d v1 v2 v3 v4 1 0 I44 J44 P)) ∧ (r44 = 1000000 → P (-4) I44 J44))))) ∧ (r34 = false → P (-1) I34 J34))))))))))))))))))
set_option maxRecDepth 4000 in
theorem w_X8_talk {g : GT} {d : Nat} {v1 : Int32} {v2 : Int32} {v3 : Int32} {v4 : Int32} {I : IT} {J : JT} {P : Int32 → IT → JT → Prop} (hd : 1 ≤ d) (hv : VC_X8_talk g d v1 v2 v3 v4 I J P) : SemI g d M_X8_talk [.ref (ga g 118), .int v1, .int v2, .int v3, .int v4] I J P := by
  unfold VC_X8_talk at hv
  refine sem_intro (by decide +kernel) rfl (Nat.le_of_ble_eq_true rfl) ?_
  show AW _ 0 0 0 [(0, .ref (ga g 118)), (1, .int v1), (2, .int v2), (3, .int v3), (4, .int v4)] [] (cW g I J)
  refine a_aload_n 0 dX8_talk_0 rfl rfl ?_
  refine a_iload_n 1 dX8_talk_1 rfl rfl ?_
  refine c_VZ (As := [.int v1]) (rest := []) hv K_X8_103 sh_118 rfl rfl rfl (Nat.le_of_ble_eq_true rfl) (rok (by omega) (Nat.le_of_ble_eq_true rfl)) ⟨Nat.zero_le _, Nat.zero_le _⟩ dX8_talk_2 (fun r2 I2 J2 hv => ?_)
  refine a_ifz_eq 40 dX8_talk_5 rfl (fun hc => ?_) (fun hc => ?_)
  · replace hv := hv.1 hc
    refine a_iconst (v := (-1)) dX8_talk_40 (by decide) ?_
    exact a_iret rfl dX8_talk_41 hv
  · replace hv := hv.2 hc
    refine a_iload_n 2 dX8_talk_8 rfl rfl ?_
    refine c_SZ (As := [.int v2]) (rest := []) hv K_X8_118 rfl rfl (Nat.le_of_ble_eq_true rfl) (rok (by omega) (Nat.le_of_ble_eq_true rfl)) ⟨Nat.zero_le _, Nat.zero_le _⟩ dX8_talk_9 (fun r9 I9 J9 hv => ?_)
    refine a_ifz_eq 40 dX8_talk_12 rfl (fun hc => ?_) (fun hc => ?_)
    · replace hv := hv.1 hc
      refine a_iconst (v := (-1)) dX8_talk_40 (by decide) ?_
      exact a_iret rfl dX8_talk_41 hv
    · replace hv := hv.2 hc
      refine a_iload_n 3 dX8_talk_15 rfl rfl ?_
      refine c_SZ (As := [.int v3]) (rest := []) hv K_X8_118 rfl rfl (Nat.le_of_ble_eq_true rfl) (rok (by omega) (Nat.le_of_ble_eq_true rfl)) ⟨Nat.zero_le _, Nat.zero_le _⟩ dX8_talk_16 (fun r16 I16 J16 hv => ?_)
      refine a_ifz_eq 40 dX8_talk_19 rfl (fun hc => ?_) (fun hc => ?_)
      · replace hv := hv.1 hc
        refine a_iconst (v := (-1)) dX8_talk_40 (by decide) ?_
        exact a_iret rfl dX8_talk_41 hv
      · replace hv := hv.2 hc
        refine a_iload_n 2 dX8_talk_22 rfl rfl ?_
        refine a_iload_n 3 dX8_talk_23 rfl rfl ?_
        refine a_icmp_eq 40 dX8_talk_24 rfl (fun hc => ?_) (fun hc => ?_)
        · replace hv := hv.1 hc
          refine a_iconst (v := (-1)) dX8_talk_40 (by decide) ?_
          exact a_iret rfl dX8_talk_41 hv
        · replace hv := hv.2 hc
          refine a_iload 4 dX8_talk_27 rfl ?_
          refine a_i2l dX8_talk_29 ?_
          refine a_lconst (v := 0) dX8_talk_30 (by decide) ?_
          refine a_ldc2 (v := 3) dX8_talk_31 cl_X8_48 ?_
          refine c_SZ (As := [.long (v4.toInt64), .long 0, .long 3]) (rest := []) hv K_X8_44 rfl rfl (Nat.le_of_ble_eq_true rfl) (rok (by omega) (Nat.le_of_ble_eq_true rfl)) ⟨Nat.zero_le _, Nat.zero_le _⟩ dX8_talk_34 (fun r34 I34 J34 hv => ?_)
          refine a_ifz_ne 42 dX8_talk_37 rfl (fun hc => ?_) (fun hc => ?_)
          · replace hv := hv.1 hc
            refine a_aload_n 0 dX8_talk_42 rfl rfl ?_
            refine a_iconst (v := 0) dX8_talk_43 (by decide) ?_
            refine c_VI (As := [.int 0]) (rest := []) hv K_X8_191 sh_118 rfl rfl rfl (Nat.le_of_ble_eq_true rfl) (rok (by omega) (Nat.le_of_ble_eq_true rfl)) ⟨Nat.zero_le _, Nat.zero_le _⟩ dX8_talk_44 (fun r44 I44 J44 hv => ?_)
            refine a_ldc (v := 1000000) dX8_talk_47 ct_X8_165 ?_
            refine a_icmp_ne 55 dX8_talk_49 rfl (fun hc => ?_) (fun hc => ?_)
            · replace hv := hv.1 hc
              refine a_iconst (v := 1) dX8_talk_55 (by decide) ?_
              refine a_istore [(5, .int 1), (0, .ref (ga g 118)), (1, .int v1), (2, .int v2), (3, .int v3), (4, .int v4)] dX8_talk_56 (Nat.le_of_ble_eq_true rfl) rfl ?_
              refine a_iconst (v := 0) dX8_talk_58 (by decide) ?_
              refine a_istore [(6, .int 0), (5, .int 1), (0, .ref (ga g 118)), (1, .int v1), (2, .int v2), (3, .int v3), (4, .int v4)] dX8_talk_59 (Nat.le_of_ble_eq_true rfl) rfl ?_
              exact a_sub [2, 3, 4, 5, 6, 1, 0] rfl hv
            · replace hv := hv.2 hc
              refine a_bipush (v := (-4)) dX8_talk_52 (by decide) ?_
              exact a_iret rfl dX8_talk_54 hv
          · replace hv := hv.2 hc
            refine a_iconst (v := (-1)) dX8_talk_40 (by decide) ?_
            exact a_iret rfl dX8_talk_41 hv
def Lp_X8_decades_57 (g : GT) (d : Nat) (v1 : Int32) (v3 : Int32) (y4 : Int64) (v6 : Int32) (I : IT) (J : JT) (P : Int32 → IT → JT → Prop) : Prop := AW (kM g d M_X8_decades 0 0 (qI g P)) 0 0 57 [(0, .ref (ga g 118)), (1, .int v1), (3, .int v3), (4, .long y4), (6, .int v6)] [] (cW g I J)
def VC_X8_decades_57 (g : GT) (d : Nat) (v1 : Int32) (v3 : Int32) (y4 : Int64) (v6 : Int32) (I : IT) (J : JT) (P : Int32 → IT → JT → Prop) : Prop :=
  ((v1 ≤ v6 → ((¬ v3 = 0 → (SemI g (d - 1) M_X8_creditAll [.ref (ga g 118), .int 320] I J (fun r187 I187 J187 => P r187 I187 J187))) ∧ (v3 = 0 → (SemI g (d - 1) M_X8_wormAll [.ref (ga g 118), .int 320] I J (fun r177 I177 J177 => P r177 I177 J177))))) ∧ (¬ v1 ≤ v6 → (¬ ((I 119 0).toInt64) = 0 ∧ (SemV g (d - 1) M_X8_says [.ref (ga g 118), .int 320, .int ((((y4 * 16807) - (y4 * 16807) / 2147483647 * 2147483647) - ((y4 * 16807) - (y4 * 16807) / 2147483647 * 2147483647) / ((I 119 0).toInt64) * ((I 119 0).toInt64)).toInt32), .int (((((y4 * 16807) - (y4 * 16807) / 2147483647 * 2147483647) / 16) - (((y4 * 16807) - (y4 * 16807) / 2147483647 * 2147483647) / 16) / 4 * 4).toInt32), .int (((((y4 * 16807) - (y4 * 16807) / 2147483647 * 2147483647) / 256) - (((y4 * 16807) - (y4 * 16807) / 2147483647 * 2147483647) / 256) / 3 * 3).toInt32)] I J (fun I116 J116 => ((¬ ((((y4 * 16807) - (y4 * 16807) / 2147483647 * 2147483647) / 4096) - (((y4 * 16807) - (y4 * 16807) / 2147483647 * 2147483647) / 4096) / 7 * 7) = 0 → (Lp_X8_decades_57 g d v1 v3 ((y4 * 16807) - (y4 * 16807) / 2147483647 * 2147483647) (v6 + 1) I116 J116 P)) ∧ (((((y4 * 16807) - (y4 * 16807) / 2147483647 * 2147483647) / 4096) - (((y4 * 16807) - (y4 * 16807) / 2147483647 * 2147483647) / 4096) / 7 * 7) = 0 → (vp_in (390 + ((((y4 * 16807) - (y4 * 16807) / 2147483647 * 2147483647) - ((y4 * 16807) - (y4 * 16807) / 2147483647 * 2147483647) / ((I 119 0).toInt64) * ((I 119 0).toInt64)).toInt32)) 952 ∧ (((I116 119 (390 + ((((y4 * 16807) - (y4 * 16807) / 2147483647 * 2147483647) - ((y4 * 16807) - (y4 * 16807) / 2147483647 * 2147483647) / ((I 119 0).toInt64) * ((I 119 0).toInt64)).toInt32)).toNatClampNeg) ≤ 0 → (Lp_X8_decades_57 g d v1 v3 ((y4 * 16807) - (y4 * 16807) / 2147483647 * 2147483647) (v6 + 1) I116 J116 P)) ∧ (¬ (I116 119 (390 + ((((y4 * 16807) - (y4 * 16807) / 2147483647 * 2147483647) - ((y4 * 16807) - (y4 * 16807) / 2147483647 * 2147483647) / ((I 119 0).toInt64) * ((I 119 0).toInt64)).toInt32)).toNatClampNeg) ≤ 0 → (vp_in (390 + ((((y4 * 16807) - (y4 * 16807) / 2147483647 * 2147483647) - ((y4 * 16807) - (y4 * 16807) / 2147483647 * 2147483647) / ((I 119 0).toInt64) * ((I 119 0).toInt64)).toInt32)) 952 ∧ (vp_in (390 + ((((y4 * 16807) - (y4 * 16807) / 2147483647 * 2147483647) - ((y4 * 16807) - (y4 * 16807) / 2147483647 * 2147483647) / ((I 119 0).toInt64) * ((I 119 0).toInt64)).toInt32)) 952 ∧ (Lp_X8_decades_57 g d v1 v3 ((y4 * 16807) - (y4 * 16807) / 2147483647 * 2147483647) (v6 + 1) (sI I116 119 (390 + ((((y4 * 16807) - (y4 * 16807) / 2147483647 * 2147483647) - ((y4 * 16807) - (y4 * 16807) / 2147483647 * 2147483647) / ((I 119 0).toInt64) * ((I 119 0).toInt64)).toInt32)).toNatClampNeg ((I116 119 (390 + ((((y4 * 16807) - (y4 * 16807) / 2147483647 * 2147483647) - ((y4 * 16807) - (y4 * 16807) / 2147483647 * 2147483647) / ((I 119 0).toInt64) * ((I 119 0).toInt64)).toInt32)).toNatClampNeg) - 1)) J116 P)))))))))))))
set_option maxRecDepth 4000 in
theorem w_X8_decades_57 {g : GT} {d : Nat} {v1 : Int32} {v3 : Int32} {y4 : Int64} {v6 : Int32} {I : IT} {J : JT} {P : Int32 → IT → JT → Prop} (hd : 1 ≤ d) (hv : VC_X8_decades_57 g d v1 v3 y4 v6 I J P) : Lp_X8_decades_57 g d v1 v3 y4 v6 I J P := by
  unfold VC_X8_decades_57 at hv
  unfold Lp_X8_decades_57
  refine a_iload 4 dX8_decades_57 rfl ?_
  refine a_iload_n 1 dX8_decades_59 rfl rfl ?_
  refine a_icmp_ge 169 dX8_decades_60 rfl (fun hc => ?_) (fun hc => ?_)
  · replace hv := hv.1 hc
    refine a_iload_n 2 dX8_decades_169 rfl rfl ?_
    refine a_if_ne 183 dX8_decades_170 rfl (fun hc => ?_) (fun hc => ?_)
    · replace hv := hv.1 hc
      refine a_aload_n 0 dX8_decades_183 rfl rfl ?_
      refine a_sipush (v := 320) dX8_decades_184 (by decide) ?_
      refine c_VI (As := [.int 320]) (rest := []) hv K_X8_218 sh_118 rfl rfl rfl (Nat.le_of_ble_eq_true rfl) (rok (by omega) (Nat.le_of_ble_eq_true rfl)) ⟨Nat.zero_le _, Nat.zero_le _⟩ dX8_decades_187 (fun r187 I187 J187 hv => ?_)
      exact a_iret rfl dX8_decades_190 hv
    · replace hv := hv.2 hc
      refine a_aload_n 0 dX8_decades_173 rfl rfl ?_
      refine a_sipush (v := 320) dX8_decades_174 (by decide) ?_
      refine c_VI (As := [.int 320]) (rest := []) hv K_X8_215 sh_118 rfl rfl rfl (Nat.le_of_ble_eq_true rfl) (rok (by omega) (Nat.le_of_ble_eq_true rfl)) ⟨Nat.zero_le _, Nat.zero_le _⟩ dX8_decades_177 (fun r177 I177 J177 hv => ?_)
      refine a_goto 190 dX8_decades_180 rfl ?_
      exact a_iret rfl dX8_decades_190 hv
  · replace hv := hv.2 hc
    refine a_lload 3 dX8_decades_63 rfl ?_
    refine a_ldc2 (v := 16807) dX8_decades_65 cl_X8_201 ?_
    refine a_lmul dX8_decades_68 ?_
    refine a_ldc2 (v := 2147483647) dX8_decades_69 cl_X8_203 ?_
    refine a_lrem dX8_decades_72 (by decide) ?_
    refine a_lstore [(4, .long ((y4 * 16807) - (y4 * 16807) / 2147483647 * 2147483647)), (0, .ref (ga g 118)), (1, .int v1), (3, .int v3), (6, .int v6)] dX8_decades_73 (Nat.le_of_ble_eq_true rfl) rfl ?_
    refine a_lload 0 dX8_decades_75 rfl ?_
    refine a_aload_n 1 dX8_decades_77 rfl rfl ?_
    refine a_getR (r := 119) G_X8_7 sh_118 rfl dX8_decades_78 ?_
    refine a_iconst (v := 0) dX8_decades_81 (by decide) ?_
    refine a_iald sh_119 (by unfold vp_in; decide) dX8_decades_82 ?_
    refine a_i2l dX8_decades_83 ?_
    refine a_lrem dX8_decades_84 hv.1 ?_
    replace hv := hv.2
    refine a_l2i dX8_decades_85 ?_
    refine a_istore [(7, .int ((((y4 * 16807) - (y4 * 16807) / 2147483647 * 2147483647) - ((y4 * 16807) - (y4 * 16807) / 2147483647 * 2147483647) / ((I 119 0).toInt64) * ((I 119 0).toInt64)).toInt32)), (4, .long ((y4 * 16807) - (y4 * 16807) / 2147483647 * 2147483647)), (0, .ref (ga g 118)), (1, .int v1), (3, .int v3), (6, .int v6)] dX8_decades_86 (Nat.le_of_ble_eq_true rfl) rfl ?_
    refine a_aload_n 2 dX8_decades_88 rfl rfl ?_
    refine a_sipush (v := 320) dX8_decades_89 (by decide) ?_
    refine a_iload 0 dX8_decades_92 rfl ?_
    refine a_lload 1 dX8_decades_94 rfl ?_
    refine a_ldc2 (v := 16) dX8_decades_96 cl_X8_205 ?_
    refine a_ldiv dX8_decades_99 (by decide) ?_
    refine a_ldc2 (v := 4) dX8_decades_100 cl_X8_207 ?_
    refine a_lrem dX8_decades_103 (by decide) ?_
    refine a_l2i dX8_decades_104 ?_
    refine a_lload 1 dX8_decades_105 rfl ?_
    refine a_ldc2 (v := 256) dX8_decades_107 cl_X8_209 ?_
    refine a_ldiv dX8_decades_110 (by decide) ?_
    refine a_ldc2 (v := 3) dX8_decades_111 cl_X8_48 ?_
    refine a_lrem dX8_decades_114 (by decide) ?_
    refine a_l2i dX8_decades_115 ?_
    refine c_VV (As := [.int 320, .int ((((y4 * 16807) - (y4 * 16807) / 2147483647 * 2147483647) - ((y4 * 16807) - (y4 * 16807) / 2147483647 * 2147483647) / ((I 119 0).toInt64) * ((I 119 0).toInt64)).toInt32), .int (((((y4 * 16807) - (y4 * 16807) / 2147483647 * 2147483647) / 16) - (((y4 * 16807) - (y4 * 16807) / 2147483647 * 2147483647) / 16) / 4 * 4).toInt32), .int (((((y4 * 16807) - (y4 * 16807) / 2147483647 * 2147483647) / 256) - (((y4 * 16807) - (y4 * 16807) / 2147483647 * 2147483647) / 256) / 3 * 3).toInt32)]) (rest := []) hv K_X8_157 sh_118 rfl rfl rfl (Nat.le_of_ble_eq_true rfl) (rok (by omega) (Nat.le_of_ble_eq_true rfl)) ⟨Nat.zero_le _, Nat.zero_le _⟩ dX8_decades_116 (fun I116 J116 hv => ?_)
    refine a_lload 1 dX8_decades_119 rfl ?_
    refine a_ldc2 (v := 4096) dX8_decades_121 cl_X8_211 ?_
    refine a_ldiv dX8_decades_124 (by decide) ?_
    refine a_ldc2 (v := 7) dX8_decades_125 cl_X8_213 ?_
    refine a_lrem dX8_decades_128 (by decide) ?_
    refine a_lconst (v := 0) dX8_decades_129 (by decide) ?_
    refine a_lcmp dX8_decades_130 ?_
    refine a_lcmp_ne 163 dX8_decades_131 rfl (fun hc => ?_) (fun hc => ?_)
    · replace hv := hv.1 hc
      refine a_iinc 5 (v6 + 1) [(6, .int (v6 + 1)), (7, .int ((((y4 * 16807) - (y4 * 16807) / 2147483647 * 2147483647) - ((y4 * 16807) - (y4 * 16807) / 2147483647 * 2147483647) / ((I 119 0).toInt64) * ((I 119 0).toInt64)).toInt32)), (4, .long ((y4 * 16807) - (y4 * 16807) / 2147483647 * 2147483647)), (0, .ref (ga g 118)), (1, .int v1), (3, .int v3)] dX8_decades_163 rfl rfl (Nat.le_of_ble_eq_true rfl) rfl ?_
      refine a_goto 57 dX8_decades_166 rfl ?_
      exact a_sub [3, 4, 5, 2, 0] rfl hv
    · replace hv := hv.2 hc
      refine a_aload_n 2 dX8_decades_134 rfl rfl ?_
      refine a_getR (r := 119) G_X8_7 sh_118 rfl dX8_decades_135 ?_
      refine a_sipush (v := 390) dX8_decades_138 (by decide) ?_
      refine a_iload 0 dX8_decades_141 rfl ?_
      refine a_iadd dX8_decades_143 ?_
      refine a_iald sh_119 hv.1 dX8_decades_144 ?_
      replace hv := hv.2
      refine a_if_le 163 dX8_decades_145 rfl (fun hc => ?_) (fun hc => ?_)
      · replace hv := hv.1 hc
        refine a_iinc 5 (v6 + 1) [(6, .int (v6 + 1)), (7, .int ((((y4 * 16807) - (y4 * 16807) / 2147483647 * 2147483647) - ((y4 * 16807) - (y4 * 16807) / 2147483647 * 2147483647) / ((I 119 0).toInt64) * ((I 119 0).toInt64)).toInt32)), (4, .long ((y4 * 16807) - (y4 * 16807) / 2147483647 * 2147483647)), (0, .ref (ga g 118)), (1, .int v1), (3, .int v3)] dX8_decades_163 rfl rfl (Nat.le_of_ble_eq_true rfl) rfl ?_
        refine a_goto 57 dX8_decades_166 rfl ?_
        exact a_sub [3, 4, 5, 2, 0] rfl hv
      · replace hv := hv.2 hc
        refine a_aload_n 2 dX8_decades_148 rfl rfl ?_
        refine a_getR (r := 119) G_X8_7 sh_118 rfl dX8_decades_149 ?_
        refine a_sipush (v := 390) dX8_decades_152 (by decide) ?_
        refine a_iload 0 dX8_decades_155 rfl ?_
        refine a_iadd dX8_decades_157 ?_
        refine a_dup2 dX8_decades_158 rfl rfl ?_
        refine a_iald sh_119 hv.1 dX8_decades_159 ?_
        replace hv := hv.2
        refine a_iconst (v := 1) dX8_decades_160 (by decide) ?_
        refine a_isub dX8_decades_161 ?_
        refine a_iast sh_119 hv.1 dX8_decades_162 ?_
        replace hv := hv.2
        refine a_iinc 5 (v6 + 1) [(6, .int (v6 + 1)), (7, .int ((((y4 * 16807) - (y4 * 16807) / 2147483647 * 2147483647) - ((y4 * 16807) - (y4 * 16807) / 2147483647 * 2147483647) / ((I 119 0).toInt64) * ((I 119 0).toInt64)).toInt32)), (4, .long ((y4 * 16807) - (y4 * 16807) / 2147483647 * 2147483647)), (0, .ref (ga g 118)), (1, .int v1), (3, .int v3)] dX8_decades_163 rfl rfl (Nat.le_of_ble_eq_true rfl) rfl ?_
        refine a_goto 57 dX8_decades_166 rfl ?_
        exact a_sub [3, 4, 5, 2, 0] rfl hv
def VC_X8_decades (g : GT) (d : Nat) (v1 : Int32) (v2 : Int32) (v3 : Int32) (I : IT) (J : JT) (P : Int32 → IT → JT → Prop) : Prop :=
  (SemZ g (d - 1) M_X8_in [.long (v1.toInt64), .long 0, .long 60] I J (fun r6 I6 J6 => ((r6 = false → P (-1) I6 J6) ∧ (r6 = true → (SemZ g (d - 1) M_X8_in [.long (v2.toInt64), .long 1, .long 999999] I6 J6 (fun r18 I18 J18 => ((r18 = false → P (-1) I18 J18) ∧ (r18 = true → (SemZ g (d - 1) M_X8_in [.long (v3.toInt64), .long 0, .long 1] I18 J18 (fun r28 I28 J28 => ((r28 = true → (SemZ g (d - 1) M_X8_isFleet [.ref (ga g 118)] I28 J28 (fun r37 I37 J37 => ((r37 = true → (SemV g (d - 1) M_X8_tries [.ref (ga g 118)] I37 J37 (fun I47 J47 => (Lp_X8_decades_57 g d v1 v3 (v2.toInt64) 0 I47 J47 P)))) ∧ (r37 = false → P (-2) I37 J37))))) ∧ (r28 = false → P (-1) I28 J28))))))))))))
set_option maxRecDepth 4000 in
theorem w_X8_decades {g : GT} {d : Nat} {v1 : Int32} {v2 : Int32} {v3 : Int32} {I : IT} {J : JT} {P : Int32 → IT → JT → Prop} (hd : 1 ≤ d) (hv : VC_X8_decades g d v1 v2 v3 I J P) : SemI g d M_X8_decades [.ref (ga g 118), .int v1, .int v2, .int v3] I J P := by
  unfold VC_X8_decades at hv
  refine sem_intro (by decide +kernel) rfl (Nat.le_of_ble_eq_true rfl) ?_
  show AW _ 0 0 0 [(0, .ref (ga g 118)), (1, .int v1), (2, .int v2), (3, .int v3)] [] (cW g I J)
  refine a_iload_n 1 dX8_decades_0 rfl rfl ?_
  refine a_i2l dX8_decades_1 ?_
  refine a_lconst (v := 0) dX8_decades_2 (by decide) ?_
  refine a_ldc2 (v := 60) dX8_decades_3 cl_X8_197 ?_
  refine c_SZ (As := [.long (v1.toInt64), .long 0, .long 60]) (rest := []) hv K_X8_44 rfl rfl (Nat.le_of_ble_eq_true rfl) (rok (by omega) (Nat.le_of_ble_eq_true rfl)) ⟨Nat.zero_le _, Nat.zero_le _⟩ dX8_decades_6 (fun r6 I6 J6 hv => ?_)
  refine a_ifz_eq 34 dX8_decades_9 rfl (fun hc => ?_) (fun hc => ?_)
  · replace hv := hv.1 hc
    refine a_iconst (v := (-1)) dX8_decades_34 (by decide) ?_
    exact a_iret rfl dX8_decades_35 hv
  · replace hv := hv.2 hc
    refine a_iload_n 2 dX8_decades_12 rfl rfl ?_
    refine a_i2l dX8_decades_13 ?_
    refine a_lconst (v := 1) dX8_decades_14 (by decide) ?_
    refine a_ldc2 (v := 999999) dX8_decades_15 cl_X8_199 ?_
    refine c_SZ (As := [.long (v2.toInt64), .long 1, .long 999999]) (rest := []) hv K_X8_44 rfl rfl (Nat.le_of_ble_eq_true rfl) (rok (by omega) (Nat.le_of_ble_eq_true rfl)) ⟨Nat.zero_le _, Nat.zero_le _⟩ dX8_decades_18 (fun r18 I18 J18 hv => ?_)
    refine a_ifz_eq 34 dX8_decades_21 rfl (fun hc => ?_) (fun hc => ?_)
    · replace hv := hv.1 hc
      refine a_iconst (v := (-1)) dX8_decades_34 (by decide) ?_
      exact a_iret rfl dX8_decades_35 hv
    · replace hv := hv.2 hc
      refine a_iload_n 3 dX8_decades_24 rfl rfl ?_
      refine a_i2l dX8_decades_25 ?_
      refine a_lconst (v := 0) dX8_decades_26 (by decide) ?_
      refine a_lconst (v := 1) dX8_decades_27 (by decide) ?_
      refine c_SZ (As := [.long (v3.toInt64), .long 0, .long 1]) (rest := []) hv K_X8_44 rfl rfl (Nat.le_of_ble_eq_true rfl) (rok (by omega) (Nat.le_of_ble_eq_true rfl)) ⟨Nat.zero_le _, Nat.zero_le _⟩ dX8_decades_28 (fun r28 I28 J28 hv => ?_)
      refine a_ifz_ne 36 dX8_decades_31 rfl (fun hc => ?_) (fun hc => ?_)
      · replace hv := hv.1 hc
        refine a_aload_n 0 dX8_decades_36 rfl rfl ?_
        refine c_VZ (As := []) (rest := []) hv K_X8_115 sh_118 rfl rfl rfl (Nat.le_of_ble_eq_true rfl) (rok (by omega) (Nat.le_of_ble_eq_true rfl)) ⟨Nat.zero_le _, Nat.zero_le _⟩ dX8_decades_37 (fun r37 I37 J37 hv => ?_)
        refine a_ifz_ne 46 dX8_decades_40 rfl (fun hc => ?_) (fun hc => ?_)
        · replace hv := hv.1 hc
          refine a_aload_n 0 dX8_decades_46 rfl rfl ?_
          refine c_VV (As := []) (rest := []) hv K_X8_194 sh_118 rfl rfl rfl (Nat.le_of_ble_eq_true rfl) (rok (by omega) (Nat.le_of_ble_eq_true rfl)) ⟨Nat.zero_le _, Nat.zero_le _⟩ dX8_decades_47 (fun I47 J47 hv => ?_)
          refine a_iload_n 2 dX8_decades_50 rfl rfl ?_
          refine a_i2l dX8_decades_51 ?_
          refine a_lstore [(4, .long (v2.toInt64)), (0, .ref (ga g 118)), (1, .int v1), (2, .int v2), (3, .int v3)] dX8_decades_52 (Nat.le_of_ble_eq_true rfl) rfl ?_
          refine a_iconst (v := 0) dX8_decades_54 (by decide) ?_
          refine a_istore [(6, .int 0), (4, .long (v2.toInt64)), (0, .ref (ga g 118)), (1, .int v1), (2, .int v2), (3, .int v3)] dX8_decades_55 (Nat.le_of_ble_eq_true rfl) rfl ?_
          exact a_sub [2, 3, 5, 1, 0] rfl hv
        · replace hv := hv.2 hc
          refine a_bipush (v := (-2)) dX8_decades_43 (by decide) ?_
          exact a_iret rfl dX8_decades_45 hv
      · replace hv := hv.2 hc
        refine a_iconst (v := (-1)) dX8_decades_34 (by decide) ?_
        exact a_iret rfl dX8_decades_35 hv
def Lp_X8_wormAll_4 (g : GT) (d : Nat) (v1 : Int32) (v2 : Int32) (v3 : Int32) (I : IT) (J : JT) (P : Int32 → IT → JT → Prop) : Prop := AW (kM g d M_X8_wormAll 0 0 (qI g P)) 0 0 4 [(0, .ref (ga g 118)), (1, .int v1), (2, .int v2), (3, .int v3)] [] (cW g I J)
def VC_X8_wormAll_4 (g : GT) (d : Nat) (v1 : Int32) (v2 : Int32) (v3 : Int32) (I : IT) (J : JT) (P : Int32 → IT → JT → Prop) : Prop :=
  (vp_in (v1 + 0) 952 ∧ (((I 119 (v1 + 0).toNatClampNeg) ≤ v3 → P v2 I J) ∧ (¬ (I 119 (v1 + 0).toNatClampNeg) ≤ v3 → (vp_in ((v1 + 70) + v3) 952 ∧ (Lp_X8_wormAll_4 g d v1 (v2 + (I 119 ((v1 + 70) + v3).toNatClampNeg)) (v3 + 1) I J P)))))
set_option maxRecDepth 4000 in
theorem w_X8_wormAll_4 {g : GT} {d : Nat} {v1 : Int32} {v2 : Int32} {v3 : Int32} {I : IT} {J : JT} {P : Int32 → IT → JT → Prop} (hv : VC_X8_wormAll_4 g d v1 v2 v3 I J P) : Lp_X8_wormAll_4 g d v1 v2 v3 I J P := by
  unfold VC_X8_wormAll_4 at hv
  unfold Lp_X8_wormAll_4
  refine a_iload_n 3 dX8_wormAll_4 rfl rfl ?_
  refine a_aload_n 0 dX8_wormAll_5 rfl rfl ?_
  refine a_getR (r := 119) G_X8_7 sh_118 rfl dX8_wormAll_6 ?_
  refine a_iload_n 1 dX8_wormAll_9 rfl rfl ?_
  refine a_iconst (v := 0) dX8_wormAll_10 (by decide) ?_
  refine a_iadd dX8_wormAll_11 ?_
  refine a_iald sh_119 hv.1 dX8_wormAll_12 ?_
  replace hv := hv.2
  refine a_icmp_ge 36 dX8_wormAll_13 rfl (fun hc => ?_) (fun hc => ?_)
  · replace hv := hv.1 hc
    refine a_iload_n 2 dX8_wormAll_36 rfl rfl ?_
    exact a_iret rfl dX8_wormAll_37 hv
  · replace hv := hv.2 hc
    refine a_iload_n 2 dX8_wormAll_16 rfl rfl ?_
    refine a_aload_n 0 dX8_wormAll_17 rfl rfl ?_
    refine a_getR (r := 119) G_X8_7 sh_118 rfl dX8_wormAll_18 ?_
    refine a_iload_n 1 dX8_wormAll_21 rfl rfl ?_
    refine a_bipush (v := 70) dX8_wormAll_22 (by decide) ?_
    refine a_iadd dX8_wormAll_24 ?_
    refine a_iload_n 3 dX8_wormAll_25 rfl rfl ?_
    refine a_iadd dX8_wormAll_26 ?_
    refine a_iald sh_119 hv.1 dX8_wormAll_27 ?_
    replace hv := hv.2
    refine a_iadd dX8_wormAll_28 ?_
    refine a_istore_n [(2, .int (v2 + (I 119 ((v1 + 70) + v3).toNatClampNeg))), (0, .ref (ga g 118)), (1, .int v1), (3, .int v3)] dX8_wormAll_29 rfl (Nat.le_of_ble_eq_true rfl) rfl ?_
    refine a_iinc 3 (v3 + 1) [(3, .int (v3 + 1)), (2, .int (v2 + (I 119 ((v1 + 70) + v3).toNatClampNeg))), (0, .ref (ga g 118)), (1, .int v1)] dX8_wormAll_30 rfl rfl (Nat.le_of_ble_eq_true rfl) rfl ?_
    refine a_goto 4 dX8_wormAll_33 rfl ?_
    exact a_sub [2, 3, 1, 0] rfl hv
def VC_X8_wormAll (g : GT) (d : Nat) (v1 : Int32) (I : IT) (J : JT) (P : Int32 → IT → JT → Prop) : Prop :=
  (Lp_X8_wormAll_4 g d v1 0 0 I J P)
set_option maxRecDepth 4000 in
theorem w_X8_wormAll {g : GT} {d : Nat} {v1 : Int32} {I : IT} {J : JT} {P : Int32 → IT → JT → Prop} (hv : VC_X8_wormAll g d v1 I J P) : SemI g d M_X8_wormAll [.ref (ga g 118), .int v1] I J P := by
  unfold VC_X8_wormAll at hv
  refine sem_intro (by decide +kernel) rfl (Nat.le_of_ble_eq_true rfl) ?_
  show AW _ 0 0 0 [(0, .ref (ga g 118)), (1, .int v1)] [] (cW g I J)
  refine a_iconst (v := 0) dX8_wormAll_0 (by decide) ?_
  refine a_istore_n [(2, .int 0), (0, .ref (ga g 118)), (1, .int v1)] dX8_wormAll_1 rfl (Nat.le_of_ble_eq_true rfl) rfl ?_
  refine a_iconst (v := 0) dX8_wormAll_2 (by decide) ?_
  refine a_istore_n [(3, .int 0), (2, .int 0), (0, .ref (ga g 118)), (1, .int v1)] dX8_wormAll_3 rfl (Nat.le_of_ble_eq_true rfl) rfl ?_
  exact a_sub [2, 3, 1, 0] rfl hv
def Lp_X8_creditAll_4 (g : GT) (d : Nat) (v1 : Int32) (v2 : Int32) (v3 : Int32) (I : IT) (J : JT) (P : Int32 → IT → JT → Prop) : Prop := AW (kM g d M_X8_creditAll 0 0 (qI g P)) 0 0 4 [(0, .ref (ga g 118)), (1, .int v1), (2, .int v2), (3, .int v3)] [] (cW g I J)
def VC_X8_creditAll_4 (g : GT) (d : Nat) (v1 : Int32) (v2 : Int32) (v3 : Int32) (I : IT) (J : JT) (P : Int32 → IT → JT → Prop) : Prop :=
  ((4 ≤ v3 → P v2 I J) ∧ (¬ 4 ≤ v3 → (vp_in ((v1 + 76) + v3) 952 ∧ (Lp_X8_creditAll_4 g d v1 (v2 + (I 119 ((v1 + 76) + v3).toNatClampNeg)) (v3 + 1) I J P))))
set_option maxRecDepth 4000 in
theorem w_X8_creditAll_4 {g : GT} {d : Nat} {v1 : Int32} {v2 : Int32} {v3 : Int32} {I : IT} {J : JT} {P : Int32 → IT → JT → Prop} (hv : VC_X8_creditAll_4 g d v1 v2 v3 I J P) : Lp_X8_creditAll_4 g d v1 v2 v3 I J P := by
  unfold VC_X8_creditAll_4 at hv
  unfold Lp_X8_creditAll_4
  refine a_iload_n 3 dX8_creditAll_4 rfl rfl ?_
  refine a_iconst (v := 4) dX8_creditAll_5 (by decide) ?_
  refine a_icmp_ge 29 dX8_creditAll_6 rfl (fun hc => ?_) (fun hc => ?_)
  · replace hv := hv.1 hc
    refine a_iload_n 2 dX8_creditAll_29 rfl rfl ?_
    exact a_iret rfl dX8_creditAll_30 hv
  · replace hv := hv.2 hc
    refine a_iload_n 2 dX8_creditAll_9 rfl rfl ?_
    refine a_aload_n 0 dX8_creditAll_10 rfl rfl ?_
    refine a_getR (r := 119) G_X8_7 sh_118 rfl dX8_creditAll_11 ?_
    refine a_iload_n 1 dX8_creditAll_14 rfl rfl ?_
    refine a_bipush (v := 76) dX8_creditAll_15 (by decide) ?_
    refine a_iadd dX8_creditAll_17 ?_
    refine a_iload_n 3 dX8_creditAll_18 rfl rfl ?_
    refine a_iadd dX8_creditAll_19 ?_
    refine a_iald sh_119 hv.1 dX8_creditAll_20 ?_
    replace hv := hv.2
    refine a_iadd dX8_creditAll_21 ?_
    refine a_istore_n [(2, .int (v2 + (I 119 ((v1 + 76) + v3).toNatClampNeg))), (0, .ref (ga g 118)), (1, .int v1), (3, .int v3)] dX8_creditAll_22 rfl (Nat.le_of_ble_eq_true rfl) rfl ?_
    refine a_iinc 3 (v3 + 1) [(3, .int (v3 + 1)), (2, .int (v2 + (I 119 ((v1 + 76) + v3).toNatClampNeg))), (0, .ref (ga g 118)), (1, .int v1)] dX8_creditAll_23 rfl rfl (Nat.le_of_ble_eq_true rfl) rfl ?_
    refine a_goto 4 dX8_creditAll_26 rfl ?_
    exact a_sub [2, 3, 1, 0] rfl hv
def VC_X8_creditAll (g : GT) (d : Nat) (v1 : Int32) (I : IT) (J : JT) (P : Int32 → IT → JT → Prop) : Prop :=
  (Lp_X8_creditAll_4 g d v1 0 0 I J P)
set_option maxRecDepth 4000 in
theorem w_X8_creditAll {g : GT} {d : Nat} {v1 : Int32} {I : IT} {J : JT} {P : Int32 → IT → JT → Prop} (hv : VC_X8_creditAll g d v1 I J P) : SemI g d M_X8_creditAll [.ref (ga g 118), .int v1] I J P := by
  unfold VC_X8_creditAll at hv
  refine sem_intro (by decide +kernel) rfl (Nat.le_of_ble_eq_true rfl) ?_
  show AW _ 0 0 0 [(0, .ref (ga g 118)), (1, .int v1)] [] (cW g I J)
  refine a_iconst (v := 0) dX8_creditAll_0 (by decide) ?_
  refine a_istore_n [(2, .int 0), (0, .ref (ga g 118)), (1, .int v1)] dX8_creditAll_1 rfl (Nat.le_of_ble_eq_true rfl) rfl ?_
  refine a_iconst (v := 0) dX8_creditAll_2 (by decide) ?_
  refine a_istore_n [(3, .int 0), (2, .int 0), (0, .ref (ga g 118)), (1, .int v1)] dX8_creditAll_3 rfl (Nat.le_of_ble_eq_true rfl) rfl ?_
  exact a_sub [2, 3, 1, 0] rfl hv
def VC_X8_isSheet (g : GT) (d : Nat) (v0 : Int32) (I : IT) (J : JT) (P : Bool → IT → JT → Prop) : Prop :=
  (SemZ g (d - 1) M_X8_in [.long (v0.toInt64), .long 0, .long 3] I J (fun r6 I6 J6 => P r6 I6 J6))
set_option maxRecDepth 4000 in
theorem w_X8_isSheet {g : GT} {d : Nat} {v0 : Int32} {I : IT} {J : JT} {P : Bool → IT → JT → Prop} (hd : 1 ≤ d) (hv : VC_X8_isSheet g d v0 I J P) : SemZ g d M_X8_isSheet [.int v0] I J P := by
  unfold VC_X8_isSheet at hv
  refine sem_intro (by decide +kernel) rfl (Nat.le_of_ble_eq_true rfl) ?_
  show AW _ 0 0 0 [(0, .int v0)] [] (cW g I J)
  refine a_iload_n 0 dX8_isSheet_0 rfl rfl ?_
  refine a_i2l dX8_isSheet_1 ?_
  refine a_lconst (v := 0) dX8_isSheet_2 (by decide) ?_
  refine a_ldc2 (v := 3) dX8_isSheet_3 cl_X8_48 ?_
  refine c_SZ (As := [.long (v0.toInt64), .long 0, .long 3]) (rest := []) hv K_X8_44 rfl rfl (Nat.le_of_ble_eq_true rfl) (rok (by omega) (Nat.le_of_ble_eq_true rfl)) ⟨Nat.zero_le _, Nat.zero_le _⟩ dX8_isSheet_6 (fun r6 I6 J6 hv => ?_)
  exact a_zret _ r6 rfl rfl dX8_isSheet_9 hv
def VC_X8_isLane (g : GT) (d : Nat) (v0 : Int32) (v1 : Int32) (I : IT) (J : JT) (P : Bool → IT → JT → Prop) : Prop :=
  (SemZ g (d - 1) M_X8_isSheet [.int v0] I J (fun r1 I1 J1 => ((r1 = false → P false I1 J1) ∧ (r1 = true → (SemZ g (d - 1) M_X8_in [.long (v1.toInt64), .long 0, .long 3] I1 J1 (fun r13 I13 J13 => ((r13 = false → P false I13 J13) ∧ (r13 = true → P true I13 J13))))))))
set_option maxRecDepth 4000 in
theorem w_X8_isLane {g : GT} {d : Nat} {v0 : Int32} {v1 : Int32} {I : IT} {J : JT} {P : Bool → IT → JT → Prop} (hd : 1 ≤ d) (hv : VC_X8_isLane g d v0 v1 I J P) : SemZ g d M_X8_isLane [.int v0, .int v1] I J P := by
  unfold VC_X8_isLane at hv
  refine sem_intro (by decide +kernel) rfl (Nat.le_of_ble_eq_true rfl) ?_
  show AW _ 0 0 0 [(0, .int v0), (1, .int v1)] [] (cW g I J)
  refine a_iload_n 0 dX8_isLane_0 rfl rfl ?_
  refine c_SZ (As := [.int v0]) (rest := []) hv K_X8_221 rfl rfl (Nat.le_of_ble_eq_true rfl) (rok (by omega) (Nat.le_of_ble_eq_true rfl)) ⟨Nat.zero_le _, Nat.zero_le _⟩ dX8_isLane_1 (fun r1 I1 J1 hv => ?_)
  refine a_ifz_eq 23 dX8_isLane_4 rfl (fun hc => ?_) (fun hc => ?_)
  · replace hv := hv.1 hc
    refine a_iconst (v := 0) dX8_isLane_23 (by decide) ?_
    exact a_zret _ false (by decide) rfl dX8_isLane_24 hv
  · replace hv := hv.2 hc
    refine a_iload_n 1 dX8_isLane_7 rfl rfl ?_
    refine a_i2l dX8_isLane_8 ?_
    refine a_lconst (v := 0) dX8_isLane_9 (by decide) ?_
    refine a_ldc2 (v := 3) dX8_isLane_10 cl_X8_48 ?_
    refine c_SZ (As := [.long (v1.toInt64), .long 0, .long 3]) (rest := []) hv K_X8_44 rfl rfl (Nat.le_of_ble_eq_true rfl) (rok (by omega) (Nat.le_of_ble_eq_true rfl)) ⟨Nat.zero_le _, Nat.zero_le _⟩ dX8_isLane_13 (fun r13 I13 J13 hv => ?_)
    refine a_ifz_eq 23 dX8_isLane_16 rfl (fun hc => ?_) (fun hc => ?_)
    · replace hv := hv.1 hc
      refine a_iconst (v := 0) dX8_isLane_23 (by decide) ?_
      exact a_zret _ false (by decide) rfl dX8_isLane_24 hv
    · replace hv := hv.2 hc
      refine a_iconst (v := 1) dX8_isLane_19 (by decide) ?_
      refine a_goto 24 dX8_isLane_20 rfl ?_
      exact a_zret _ true (by decide) rfl dX8_isLane_24 hv
def VC_X8_lowest (g : GT) (d : Nat) (v0 : Int32) (y1 : Int64) (I : IT) (J : JT) (P : Int64 → IT → JT → Prop) : Prop :=
  ((¬ v0 = 0 → ((¬ v0 = 1 → ((¬ v0 = 2 → P y1 I J) ∧ (v0 = 2 → P ((y1.toInt32).toInt64) I J))) ∧ (v0 = 1 → P (((y1.toInt32).toInt16.toInt32).toInt64) I J))) ∧ (v0 = 0 → P (((y1.toInt32).toInt8.toInt32).toInt64) I J))
set_option maxRecDepth 4000 in
theorem w_X8_lowest {g : GT} {d : Nat} {v0 : Int32} {y1 : Int64} {I : IT} {J : JT} {P : Int64 → IT → JT → Prop} (hv : VC_X8_lowest g d v0 y1 I J P) : SemL g d M_X8_lowest [.int v0, .long y1] I J P := by
  unfold VC_X8_lowest at hv
  refine sem_intro (by decide +kernel) rfl (Nat.le_of_ble_eq_true rfl) ?_
  show AW _ 0 0 0 [(0, .int v0), (1, .long y1)] [] (cW g I J)
  refine a_iload_n 0 dX8_lowest_0 rfl rfl ?_
  refine a_if_ne 11 dX8_lowest_1 rfl (fun hc => ?_) (fun hc => ?_)
  · replace hv := hv.1 hc
    refine a_iload_n 0 dX8_lowest_11 rfl rfl ?_
    refine a_iconst (v := 1) dX8_lowest_12 (by decide) ?_
    refine a_icmp_ne 23 dX8_lowest_13 rfl (fun hc => ?_) (fun hc => ?_)
    · replace hv := hv.1 hc
      refine a_iload_n 0 dX8_lowest_23 rfl rfl ?_
      refine a_iconst (v := 2) dX8_lowest_24 (by decide) ?_
      refine a_icmp_ne 34 dX8_lowest_25 rfl (fun hc => ?_) (fun hc => ?_)
      · replace hv := hv.1 hc
        refine a_lload_n 1 dX8_lowest_34 rfl rfl ?_
        exact a_lret rfl dX8_lowest_35 hv
      · replace hv := hv.2 hc
        refine a_lload_n 1 dX8_lowest_28 rfl rfl ?_
        refine a_l2i dX8_lowest_29 ?_
        refine a_i2l dX8_lowest_30 ?_
        refine a_goto 35 dX8_lowest_31 rfl ?_
        exact a_lret rfl dX8_lowest_35 hv
    · replace hv := hv.2 hc
      refine a_lload_n 1 dX8_lowest_16 rfl rfl ?_
      refine a_l2i dX8_lowest_17 ?_
      refine a_i2s dX8_lowest_18 ?_
      refine a_i2l dX8_lowest_19 ?_
      refine a_goto 35 dX8_lowest_20 rfl ?_
      exact a_lret rfl dX8_lowest_35 hv
  · replace hv := hv.2 hc
    refine a_lload_n 1 dX8_lowest_4 rfl rfl ?_
    refine a_l2i dX8_lowest_5 ?_
    refine a_i2b dX8_lowest_6 ?_
    refine a_i2l dX8_lowest_7 ?_
    refine a_goto 35 dX8_lowest_8 rfl ?_
    exact a_lret rfl dX8_lowest_35 hv
def VC_X8_against (g : GT) (d : Nat) (v1 : Int32) (v2 : Int32) (v3 : Int32) (v4 : Int32) (I : IT) (J : JT) (P : Int32 → IT → JT → Prop) : Prop :=
  (vp_in v1 4 ∧ ((0 ≤ (I 122 v1.toNatClampNeg) → (vp_in v1 4 ∧ (((I 123 v1.toNatClampNeg) = v2 → ((v3 < 0 → P (-13) I J) ∧ (¬ v3 < 0 → (vp_in v1 4 ∧ ((¬ ((I 122 v1.toNatClampNeg).toInt64) < ((v3.toInt64) + (v4.toInt64)) → P 0 I J) ∧ (((I 122 v1.toNatClampNeg).toInt64) < ((v3.toInt64) + (v4.toInt64)) → P (-13) I J)))))) ∧ (¬ (I 123 v1.toNatClampNeg) = v2 → P (-12) I J)))) ∧ (¬ 0 ≤ (I 122 v1.toNatClampNeg) → P (-11) I J)))
set_option maxRecDepth 4000 in
theorem w_X8_against {g : GT} {d : Nat} {v1 : Int32} {v2 : Int32} {v3 : Int32} {v4 : Int32} {I : IT} {J : JT} {P : Int32 → IT → JT → Prop} (hv : VC_X8_against g d v1 v2 v3 v4 I J P) : SemI g d M_X8_against [.ref (ga g 118), .int v1, .int v2, .int v3, .int v4] I J P := by
  unfold VC_X8_against at hv
  refine sem_intro (by decide +kernel) rfl (Nat.le_of_ble_eq_true rfl) ?_
  show AW _ 0 0 0 [(0, .ref (ga g 118)), (1, .int v1), (2, .int v2), (3, .int v3), (4, .int v4)] [] (cW g I J)
  refine a_aload_n 0 dX8_against_0 rfl rfl ?_
  refine a_getR (r := 122) G_X8_20 sh_118 rfl dX8_against_1 ?_
  refine a_iload_n 1 dX8_against_4 rfl rfl ?_
  refine a_iald sh_122 hv.1 dX8_against_5 ?_
  replace hv := hv.2
  refine a_if_ge 12 dX8_against_6 rfl (fun hc => ?_) (fun hc => ?_)
  · replace hv := hv.1 hc
    refine a_aload_n 0 dX8_against_12 rfl rfl ?_
    refine a_getR (r := 123) G_X8_23 sh_118 rfl dX8_against_13 ?_
    refine a_iload_n 1 dX8_against_16 rfl rfl ?_
    refine a_iald sh_123 hv.1 dX8_against_17 ?_
    replace hv := hv.2
    refine a_iload_n 2 dX8_against_18 rfl rfl ?_
    refine a_icmp_eq 25 dX8_against_19 rfl (fun hc => ?_) (fun hc => ?_)
    · replace hv := hv.1 hc
      refine a_iload_n 3 dX8_against_25 rfl rfl ?_
      refine a_if_lt 46 dX8_against_26 rfl (fun hc => ?_) (fun hc => ?_)
      · replace hv := hv.1 hc
        refine a_bipush (v := (-13)) dX8_against_46 (by decide) ?_
        refine a_goto 52 dX8_against_48 rfl ?_
        exact a_iret rfl dX8_against_52 hv
      · replace hv := hv.2 hc
        refine a_iload_n 3 dX8_against_29 rfl rfl ?_
        refine a_i2l dX8_against_30 ?_
        refine a_iload 4 dX8_against_31 rfl ?_
        refine a_i2l dX8_against_33 ?_
        refine a_ladd dX8_against_34 ?_
        refine a_aload_n 0 dX8_against_35 rfl rfl ?_
        refine a_getR (r := 122) G_X8_20 sh_118 rfl dX8_against_36 ?_
        refine a_iload_n 1 dX8_against_39 rfl rfl ?_
        refine a_iald sh_122 hv.1 dX8_against_40 ?_
        replace hv := hv.2
        refine a_i2l dX8_against_41 ?_
        refine a_lcmp dX8_against_42 ?_
        refine a_lcmp_le 51 dX8_against_43 rfl (fun hc => ?_) (fun hc => ?_)
        · replace hv := hv.1 hc
          refine a_iconst (v := 0) dX8_against_51 (by decide) ?_
          exact a_iret rfl dX8_against_52 hv
        · replace hv := hv.2 hc
          refine a_bipush (v := (-13)) dX8_against_46 (by decide) ?_
          refine a_goto 52 dX8_against_48 rfl ?_
          exact a_iret rfl dX8_against_52 hv
    · replace hv := hv.2 hc
      refine a_bipush (v := (-12)) dX8_against_22 (by decide) ?_
      exact a_iret rfl dX8_against_24 hv
  · replace hv := hv.2 hc
    refine a_bipush (v := (-11)) dX8_against_9 (by decide) ?_
    exact a_iret rfl dX8_against_11 hv
def Lp_X8_sheet_40 (g : GT) (d : Nat) (v1 : Int32) (v3 : Int32) (v4 : Int32) (I : IT) (J : JT) (P : Int32 → IT → JT → Prop) : Prop := AW (kM g d M_X8_sheet 0 0 (qI g P)) 0 0 40 [(0, .ref (ga g 118)), (1, .int v1), (3, .int v3), (4, .int v4)] [] (cW g I J)
def VC_X8_sheet_40 (g : GT) (d : Nat) (v1 : Int32) (v3 : Int32) (v4 : Int32) (I : IT) (J : JT) (P : Int32 → IT → JT → Prop) : Prop :=
  ((24 ≤ v4 → P v3 I J) ∧ (¬ 24 ≤ v4 → (vp_in ((24 * v1) + v4) 96 ∧ (Lp_X8_sheet_40 g d v1 v3 (v4 + 1) I (sJ J 121 ((24 * v1) + v4).toNatClampNeg 0) P))))
set_option maxRecDepth 4000 in
theorem w_X8_sheet_40 {g : GT} {d : Nat} {v1 : Int32} {v3 : Int32} {v4 : Int32} {I : IT} {J : JT} {P : Int32 → IT → JT → Prop} (hv : VC_X8_sheet_40 g d v1 v3 v4 I J P) : Lp_X8_sheet_40 g d v1 v3 v4 I J P := by
  unfold VC_X8_sheet_40 at hv
  unfold Lp_X8_sheet_40
  refine a_iload 3 dX8_sheet_40 rfl ?_
  refine a_bipush (v := 24) dX8_sheet_42 (by decide) ?_
  refine a_icmp_ge 66 dX8_sheet_44 rfl (fun hc => ?_) (fun hc => ?_)
  · replace hv := hv.1 hc
    refine a_iload_n 2 dX8_sheet_66 rfl rfl ?_
    exact a_iret rfl dX8_sheet_67 hv
  · replace hv := hv.2 hc
    refine a_aload_n 0 dX8_sheet_47 rfl rfl ?_
    refine a_getR (r := 121) G_X8_16 sh_118 rfl dX8_sheet_48 ?_
    refine a_bipush (v := 24) dX8_sheet_51 (by decide) ?_
    refine a_iload_n 1 dX8_sheet_53 rfl rfl ?_
    refine a_imul dX8_sheet_54 ?_
    refine a_iload 3 dX8_sheet_55 rfl ?_
    refine a_iadd dX8_sheet_57 ?_
    refine a_lconst (v := 0) dX8_sheet_58 (by decide) ?_
    refine a_last sh_121 hv.1 dX8_sheet_59 ?_
    replace hv := hv.2
    refine a_iinc 3 (v4 + 1) [(4, .int (v4 + 1)), (0, .ref (ga g 118)), (1, .int v1), (3, .int v3)] dX8_sheet_60 rfl rfl (Nat.le_of_ble_eq_true rfl) rfl ?_
    refine a_goto 40 dX8_sheet_63 rfl ?_
    exact a_sub [1, 2, 3, 0] rfl hv
def VC_X8_sheet (g : GT) (d : Nat) (v1 : Int32) (v2 : Int32) (v3 : Int32) (I : IT) (J : JT) (P : Int32 → IT → JT → Prop) : Prop :=
  (SemZ g (d - 1) M_X8_isLane [.int v1, .int v2] I J (fun r2 I2 J2 => ((r2 = false → P (-1) I2 J2) ∧ (r2 = true → ((v3 ≤ 24 → ((0 ≤ v3 → (vp_in v1 4 ∧ (vp_in v1 4 ∧ (Lp_X8_sheet_40 g d v1 v3 0 (sI (sI I2 122 v1.toNatClampNeg v3) 123 v1.toNatClampNeg v2) J2 P)))) ∧ (¬ 0 ≤ v3 → P (-14) I2 J2))) ∧ (¬ v3 ≤ 24 → P (-1) I2 J2))))))
set_option maxRecDepth 4000 in
theorem w_X8_sheet {g : GT} {d : Nat} {v1 : Int32} {v2 : Int32} {v3 : Int32} {I : IT} {J : JT} {P : Int32 → IT → JT → Prop} (hd : 1 ≤ d) (hv : VC_X8_sheet g d v1 v2 v3 I J P) : SemI g d M_X8_sheet [.ref (ga g 118), .int v1, .int v2, .int v3] I J P := by
  unfold VC_X8_sheet at hv
  refine sem_intro (by decide +kernel) rfl (Nat.le_of_ble_eq_true rfl) ?_
  show AW _ 0 0 0 [(0, .ref (ga g 118)), (1, .int v1), (2, .int v2), (3, .int v3)] [] (cW g I J)
  refine a_iload_n 1 dX8_sheet_0 rfl rfl ?_
  refine a_iload_n 2 dX8_sheet_1 rfl rfl ?_
  refine c_SZ (As := [.int v1, .int v2]) (rest := []) hv K_X8_224 rfl rfl (Nat.le_of_ble_eq_true rfl) (rok (by omega) (Nat.le_of_ble_eq_true rfl)) ⟨Nat.zero_le _, Nat.zero_le _⟩ dX8_sheet_2 (fun r2 I2 J2 hv => ?_)
  refine a_ifz_eq 14 dX8_sheet_5 rfl (fun hc => ?_) (fun hc => ?_)
  · replace hv := hv.1 hc
    refine a_iconst (v := (-1)) dX8_sheet_14 (by decide) ?_
    exact a_iret rfl dX8_sheet_15 hv
  · replace hv := hv.2 hc
    refine a_iload_n 3 dX8_sheet_8 rfl rfl ?_
    refine a_bipush (v := 24) dX8_sheet_9 (by decide) ?_
    refine a_icmp_le 16 dX8_sheet_11 rfl (fun hc => ?_) (fun hc => ?_)
    · replace hv := hv.1 hc
      refine a_iload_n 3 dX8_sheet_16 rfl rfl ?_
      refine a_if_ge 23 dX8_sheet_17 rfl (fun hc => ?_) (fun hc => ?_)
      · replace hv := hv.1 hc
        refine a_aload_n 0 dX8_sheet_23 rfl rfl ?_
        refine a_getR (r := 122) G_X8_20 sh_118 rfl dX8_sheet_24 ?_
        refine a_iload_n 1 dX8_sheet_27 rfl rfl ?_
        refine a_iload_n 3 dX8_sheet_28 rfl rfl ?_
        refine a_iast sh_122 hv.1 dX8_sheet_29 ?_
        replace hv := hv.2
        refine a_aload_n 0 dX8_sheet_30 rfl rfl ?_
        refine a_getR (r := 123) G_X8_23 sh_118 rfl dX8_sheet_31 ?_
        refine a_iload_n 1 dX8_sheet_34 rfl rfl ?_
        refine a_iload_n 2 dX8_sheet_35 rfl rfl ?_
        refine a_iast sh_123 hv.1 dX8_sheet_36 ?_
        replace hv := hv.2
        refine a_iconst (v := 0) dX8_sheet_37 (by decide) ?_
        refine a_istore [(4, .int 0), (0, .ref (ga g 118)), (1, .int v1), (2, .int v2), (3, .int v3)] dX8_sheet_38 (Nat.le_of_ble_eq_true rfl) rfl ?_
        exact a_sub [1, 2, 4, 0] rfl hv
      · replace hv := hv.2 hc
        refine a_bipush (v := (-14)) dX8_sheet_20 (by decide) ?_
        exact a_iret rfl dX8_sheet_22 hv
    · replace hv := hv.2 hc
      refine a_iconst (v := (-1)) dX8_sheet_14 (by decide) ?_
      exact a_iret rfl dX8_sheet_15 hv
def VC_X8_drop (g : GT) (d : Nat) (v1 : Int32) (I : IT) (J : JT) (P : Int32 → IT → JT → Prop) : Prop :=
  (SemZ g (d - 1) M_X8_isSheet [.int v1] I J (fun r1 I1 J1 => ((r1 = true → (vp_in v1 4 ∧ ((0 ≤ (I1 122 v1.toNatClampNeg) → (vp_in v1 4 ∧ (vp_in v1 4 ∧ P (I1 122 v1.toNatClampNeg) (sI I1 122 v1.toNatClampNeg (-1)) J1))) ∧ (¬ 0 ≤ (I1 122 v1.toNatClampNeg) → P (-11) I1 J1)))) ∧ (r1 = false → P (-1) I1 J1))))
set_option maxRecDepth 4000 in
theorem w_X8_drop {g : GT} {d : Nat} {v1 : Int32} {I : IT} {J : JT} {P : Int32 → IT → JT → Prop} (hd : 1 ≤ d) (hv : VC_X8_drop g d v1 I J P) : SemI g d M_X8_drop [.ref (ga g 118), .int v1] I J P := by
  unfold VC_X8_drop at hv
  refine sem_intro (by decide +kernel) rfl (Nat.le_of_ble_eq_true rfl) ?_
  show AW _ 0 0 0 [(0, .ref (ga g 118)), (1, .int v1)] [] (cW g I J)
  refine a_iload_n 1 dX8_drop_0 rfl rfl ?_
  refine c_SZ (As := [.int v1]) (rest := []) hv K_X8_221 rfl rfl (Nat.le_of_ble_eq_true rfl) (rok (by omega) (Nat.le_of_ble_eq_true rfl)) ⟨Nat.zero_le _, Nat.zero_le _⟩ dX8_drop_1 (fun r1 I1 J1 hv => ?_)
  refine a_ifz_ne 9 dX8_drop_4 rfl (fun hc => ?_) (fun hc => ?_)
  · replace hv := hv.1 hc
    refine a_aload_n 0 dX8_drop_9 rfl rfl ?_
    refine a_getR (r := 122) G_X8_20 sh_118 rfl dX8_drop_10 ?_
    refine a_iload_n 1 dX8_drop_13 rfl rfl ?_
    refine a_iald sh_122 hv.1 dX8_drop_14 ?_
    replace hv := hv.2
    refine a_if_ge 21 dX8_drop_15 rfl (fun hc => ?_) (fun hc => ?_)
    · replace hv := hv.1 hc
      refine a_aload_n 0 dX8_drop_21 rfl rfl ?_
      refine a_getR (r := 122) G_X8_20 sh_118 rfl dX8_drop_22 ?_
      refine a_iload_n 1 dX8_drop_25 rfl rfl ?_
      refine a_iald sh_122 hv.1 dX8_drop_26 ?_
      replace hv := hv.2
      refine a_istore_n [(2, .int (I1 122 v1.toNatClampNeg)), (0, .ref (ga g 118)), (1, .int v1)] dX8_drop_27 rfl (Nat.le_of_ble_eq_true rfl) rfl ?_
      refine a_aload_n 1 dX8_drop_28 rfl rfl ?_
      refine a_getR (r := 122) G_X8_20 sh_118 rfl dX8_drop_29 ?_
      refine a_iload_n 2 dX8_drop_32 rfl rfl ?_
      refine a_iconst (v := (-1)) dX8_drop_33 (by decide) ?_
      refine a_iast sh_122 hv.1 dX8_drop_34 ?_
      replace hv := hv.2
      refine a_iload_n 0 dX8_drop_35 rfl rfl ?_
      exact a_iret rfl dX8_drop_36 hv
    · replace hv := hv.2 hc
      refine a_bipush (v := (-11)) dX8_drop_18 (by decide) ?_
      exact a_iret rfl dX8_drop_20 hv
  · replace hv := hv.2 hc
    refine a_iconst (v := (-1)) dX8_drop_7 (by decide) ?_
    exact a_iret rfl dX8_drop_8 hv
def VC_X8_item (g : GT) (d : Nat) (v1 : Int32) (v2 : Int32) (v3 : Int32) (y4 : Int64) (I : IT) (J : JT) (P : Int64 → IT → JT → Prop) : Prop :=
  (SemZ g (d - 1) M_X8_isLane [.int v1, .int v2] I J (fun r2 I2 J2 => ((r2 = true → (SemI g (d - 1) M_X8_against [.ref (ga g 118), .int v1, .int v2, .int v3, .int 1] I2 J2 (fun r17 I17 J17 => ((0 ≤ r17 → (SemL g (d - 1) M_X8_lowest [.int v2, .long y4] I17 J17 (fun r44 I44 J44 => (vp_in ((24 * v1) + v3) 96 ∧ (SemL g (d - 1) M_X8_lowest [.int v2, .long y4] I44 (sJ J44 121 ((24 * v1) + v3).toNatClampNeg r44) (fun r51 I51 J51 => P r51 I51 J51)))))) ∧ (¬ 0 ≤ r17 → P (r17.toInt64) I17 J17))))) ∧ (r2 = false → P (-1) I2 J2))))
set_option maxRecDepth 4000 in
theorem w_X8_item {g : GT} {d : Nat} {v1 : Int32} {v2 : Int32} {v3 : Int32} {y4 : Int64} {I : IT} {J : JT} {P : Int64 → IT → JT → Prop} (hd : 1 ≤ d) (hv : VC_X8_item g d v1 v2 v3 y4 I J P) : SemL g d M_X8_item [.ref (ga g 118), .int v1, .int v2, .int v3, .long y4] I J P := by
  unfold VC_X8_item at hv
  refine sem_intro (by decide +kernel) rfl (Nat.le_of_ble_eq_true rfl) ?_
  show AW _ 0 0 0 [(0, .ref (ga g 118)), (1, .int v1), (2, .int v2), (3, .int v3), (4, .long y4)] [] (cW g I J)
  refine a_iload_n 1 dX8_item_0 rfl rfl ?_
  refine a_iload_n 2 dX8_item_1 rfl rfl ?_
  refine c_SZ (As := [.int v1, .int v2]) (rest := []) hv K_X8_224 rfl rfl (Nat.le_of_ble_eq_true rfl) (rok (by omega) (Nat.le_of_ble_eq_true rfl)) ⟨Nat.zero_le _, Nat.zero_le _⟩ dX8_item_2 (fun r2 I2 J2 hv => ?_)
  refine a_ifz_ne 12 dX8_item_5 rfl (fun hc => ?_) (fun hc => ?_)
  · replace hv := hv.1 hc
    refine a_aload_n 0 dX8_item_12 rfl rfl ?_
    refine a_iload_n 1 dX8_item_13 rfl rfl ?_
    refine a_iload_n 2 dX8_item_14 rfl rfl ?_
    refine a_iload_n 3 dX8_item_15 rfl rfl ?_
    refine a_iconst (v := 1) dX8_item_16 (by decide) ?_
    refine c_VI (As := [.int v1, .int v2, .int v3, .int 1]) (rest := []) hv K_X8_229 sh_118 rfl rfl rfl (Nat.le_of_ble_eq_true rfl) (rok (by omega) (Nat.le_of_ble_eq_true rfl)) ⟨Nat.zero_le _, Nat.zero_le _⟩ dX8_item_17 (fun r17 I17 J17 hv => ?_)
    refine a_istore [(6, .int r17), (0, .ref (ga g 118)), (1, .int v1), (2, .int v2), (3, .int v3), (4, .long y4)] dX8_item_20 (Nat.le_of_ble_eq_true rfl) rfl ?_
    refine a_iload 0 dX8_item_22 rfl ?_
    refine a_if_ge 31 dX8_item_24 rfl (fun hc => ?_) (fun hc => ?_)
    · replace hv := hv.1 hc
      refine a_aload_n 1 dX8_item_31 rfl rfl ?_
      refine a_getR (r := 121) G_X8_16 sh_118 rfl dX8_item_32 ?_
      refine a_bipush (v := 24) dX8_item_35 (by decide) ?_
      refine a_iload_n 2 dX8_item_37 rfl rfl ?_
      refine a_imul dX8_item_38 ?_
      refine a_iload_n 4 dX8_item_39 rfl rfl ?_
      refine a_iadd dX8_item_40 ?_
      refine a_iload_n 3 dX8_item_41 rfl rfl ?_
      refine a_lload 5 dX8_item_42 rfl ?_
      refine c_SL (As := [.int v2, .long y4]) (rest := [.int ((24 * v1) + v3), .ref (ga g 121)]) hv K_X8_233 rfl rfl (Nat.le_of_ble_eq_true rfl) (rok (by omega) (Nat.le_of_ble_eq_true rfl)) ⟨Nat.zero_le _, Nat.zero_le _⟩ dX8_item_44 (fun r44 I44 J44 hv => ?_)
      refine a_last sh_121 hv.1 dX8_item_47 ?_
      replace hv := hv.2
      refine a_iload_n 3 dX8_item_48 rfl rfl ?_
      refine a_lload 5 dX8_item_49 rfl ?_
      refine c_SL (As := [.int v2, .long y4]) (rest := []) hv K_X8_233 rfl rfl (Nat.le_of_ble_eq_true rfl) (rok (by omega) (Nat.le_of_ble_eq_true rfl)) ⟨Nat.zero_le _, Nat.zero_le _⟩ dX8_item_51 (fun r51 I51 J51 hv => ?_)
      exact a_lret rfl dX8_item_54 hv
    · replace hv := hv.2 hc
      refine a_iload 0 dX8_item_27 rfl ?_
      refine a_i2l dX8_item_29 ?_
      exact a_lret rfl dX8_item_30 hv
  · replace hv := hv.2 hc
    refine a_ldc2 (v := (-1)) dX8_item_8 cl_X8_227 ?_
    exact a_lret rfl dX8_item_11 hv
def Lp_X8_copy_110 (g : GT) (d : Nat) (v1 : Int32) (v2 : Int32) (v3 : Int32) (v4 : Int32) (v5 : Int32) (v6 : Int32) (I : IT) (J : JT) (P : Int32 → IT → JT → Prop) : Prop := AW (kM g d M_X8_copy 0 0 (qI g P)) 0 0 110 [(0, .ref (ga g 118)), (1, .int v1), (2, .int v2), (3, .int v3), (4, .int v4), (5, .int v5), (6, .int v6)] [] (cW g I J)
def Lp_X8_copy_147 (g : GT) (d : Nat) (v3 : Int32) (v4 : Int32) (v5 : Int32) (v6 : Int32) (I : IT) (J : JT) (P : Int32 → IT → JT → Prop) : Prop := AW (kM g d M_X8_copy 0 0 (qI g P)) 0 0 147 [(0, .ref (ga g 118)), (3, .int v3), (4, .int v4), (5, .int v5), (6, .int v6)] [] (cW g I J)
def VC_X8_copy_147 (g : GT) (d : Nat) (v3 : Int32) (v4 : Int32) (v5 : Int32) (v6 : Int32) (I : IT) (J : JT) (P : Int32 → IT → JT → Prop) : Prop :=
  ((v5 ≤ v6 → P v5 I J) ∧ (¬ v5 ≤ v6 → (vp_in v6 24 ∧ (vp_in (((24 * v3) + v4) + v6) 96 ∧ (Lp_X8_copy_147 g d v3 v4 v5 (v6 + 1) I (sJ J 121 (((24 * v3) + v4) + v6).toNatClampNeg (J 128 v6.toNatClampNeg)) P)))))
set_option maxRecDepth 4000 in
theorem w_X8_copy_147 {g : GT} {d : Nat} {v3 : Int32} {v4 : Int32} {v5 : Int32} {v6 : Int32} {I : IT} {J : JT} {P : Int32 → IT → JT → Prop} (hv : VC_X8_copy_147 g d v3 v4 v5 v6 I J P) : Lp_X8_copy_147 g d v3 v4 v5 v6 I J P := by
  unfold VC_X8_copy_147 at hv
  unfold Lp_X8_copy_147
  refine a_iload 4 dX8_copy_147 rfl ?_
  refine a_iload 3 dX8_copy_149 rfl ?_
  refine a_icmp_ge 182 dX8_copy_151 rfl (fun hc => ?_) (fun hc => ?_)
  · replace hv := hv.1 hc
    refine a_iload 3 dX8_copy_182 rfl ?_
    exact a_iret rfl dX8_copy_184 hv
  · replace hv := hv.2 hc
    refine a_aload_n 0 dX8_copy_154 rfl rfl ?_
    refine a_getR (r := 121) G_X8_16 sh_118 rfl dX8_copy_155 ?_
    refine a_bipush (v := 24) dX8_copy_158 (by decide) ?_
    refine a_iload_n 1 dX8_copy_160 rfl rfl ?_
    refine a_imul dX8_copy_161 ?_
    refine a_iload 2 dX8_copy_162 rfl ?_
    refine a_iadd dX8_copy_164 ?_
    refine a_iload 4 dX8_copy_165 rfl ?_
    refine a_iadd dX8_copy_167 ?_
    refine a_aload_n 0 dX8_copy_168 rfl rfl ?_
    refine a_getR (r := 128) G_X8_38 sh_118 rfl dX8_copy_169 ?_
    refine a_iload 4 dX8_copy_172 rfl ?_
    refine a_lald sh_128 hv.1 dX8_copy_174 ?_
    replace hv := hv.2
    refine a_last sh_121 hv.1 dX8_copy_175 ?_
    replace hv := hv.2
    refine a_iinc 4 (v6 + 1) [(6, .int (v6 + 1)), (0, .ref (ga g 118)), (3, .int v3), (4, .int v4), (5, .int v5)] dX8_copy_176 rfl rfl (Nat.le_of_ble_eq_true rfl) rfl ?_
    refine a_goto 147 dX8_copy_179 rfl ?_
    exact a_sub [1, 2, 3, 4, 0] rfl hv
def VC_X8_copy_110 (g : GT) (d : Nat) (v1 : Int32) (v2 : Int32) (v3 : Int32) (v4 : Int32) (v5 : Int32) (v6 : Int32) (I : IT) (J : JT) (P : Int32 → IT → JT → Prop) : Prop :=
  ((v5 ≤ v6 → (Lp_X8_copy_147 g d v3 v4 v5 0 I J P)) ∧ (¬ v5 ≤ v6 → (vp_in (((24 * v1) + v2) + v6) 96 ∧ (vp_in v6 24 ∧ (Lp_X8_copy_110 g d v1 v2 v3 v4 v5 (v6 + 1) I (sJ J 128 v6.toNatClampNeg (J 121 (((24 * v1) + v2) + v6).toNatClampNeg)) P)))))
set_option maxRecDepth 4000 in
theorem w_X8_copy_110 {g : GT} {d : Nat} {v1 : Int32} {v2 : Int32} {v3 : Int32} {v4 : Int32} {v5 : Int32} {v6 : Int32} {I : IT} {J : JT} {P : Int32 → IT → JT → Prop} (hv : VC_X8_copy_110 g d v1 v2 v3 v4 v5 v6 I J P) : Lp_X8_copy_110 g d v1 v2 v3 v4 v5 v6 I J P := by
  unfold VC_X8_copy_110 at hv
  unfold Lp_X8_copy_110
  refine a_iload 6 dX8_copy_110 rfl ?_
  refine a_iload 5 dX8_copy_112 rfl ?_
  refine a_icmp_ge 144 dX8_copy_114 rfl (fun hc => ?_) (fun hc => ?_)
  · replace hv := hv.1 hc
    refine a_iconst (v := 0) dX8_copy_144 (by decide) ?_
    refine a_istore [(6, .int 0), (0, .ref (ga g 118)), (1, .int v1), (2, .int v2), (3, .int v3), (4, .int v4), (5, .int v5)] dX8_copy_145 (Nat.le_of_ble_eq_true rfl) rfl ?_
    exact a_sub [1, 4, 5, 6, 0] rfl hv
  · replace hv := hv.2 hc
    refine a_aload_n 0 dX8_copy_117 rfl rfl ?_
    refine a_getR (r := 128) G_X8_38 sh_118 rfl dX8_copy_118 ?_
    refine a_iload 6 dX8_copy_121 rfl ?_
    refine a_aload_n 0 dX8_copy_123 rfl rfl ?_
    refine a_getR (r := 121) G_X8_16 sh_118 rfl dX8_copy_124 ?_
    refine a_bipush (v := 24) dX8_copy_127 (by decide) ?_
    refine a_iload_n 1 dX8_copy_129 rfl rfl ?_
    refine a_imul dX8_copy_130 ?_
    refine a_iload_n 2 dX8_copy_131 rfl rfl ?_
    refine a_iadd dX8_copy_132 ?_
    refine a_iload 6 dX8_copy_133 rfl ?_
    refine a_iadd dX8_copy_135 ?_
    refine a_lald sh_121 hv.1 dX8_copy_136 ?_
    replace hv := hv.2
    refine a_last sh_128 hv.1 dX8_copy_137 ?_
    replace hv := hv.2
    refine a_iinc 6 (v6 + 1) [(6, .int (v6 + 1)), (0, .ref (ga g 118)), (1, .int v1), (2, .int v2), (3, .int v3), (4, .int v4), (5, .int v5)] dX8_copy_138 rfl rfl (Nat.le_of_ble_eq_true rfl) rfl ?_
    refine a_goto 110 dX8_copy_141 rfl ?_
    exact a_sub [1, 2, 3, 4, 5, 6, 0] rfl hv
def VC_X8_copy (g : GT) (d : Nat) (v1 : Int32) (v2 : Int32) (v3 : Int32) (v4 : Int32) (v5 : Int32) (I : IT) (J : JT) (P : Int32 → IT → JT → Prop) : Prop :=
  (SemZ g (d - 1) M_X8_isSheet [.int v1] I J (fun r1 I1 J1 => ((r1 = false → P (-1) I1 J1) ∧ (r1 = true → (SemZ g (d - 1) M_X8_isSheet [.int v3] I1 J1 (fun r8 I8 J8 => ((r8 = true → (vp_in v1 4 ∧ (((I8 122 v1.toNatClampNeg) < 0 → P (-11) I8 J8) ∧ (¬ (I8 122 v1.toNatClampNeg) < 0 → (vp_in v3 4 ∧ ((0 ≤ (I8 122 v3.toNatClampNeg) → (vp_in v1 4 ∧ (vp_in v3 4 ∧ (((I8 123 v1.toNatClampNeg) = (I8 123 v3.toNatClampNeg) → ((v5 < 0 → P (-13) I8 J8) ∧ (¬ v5 < 0 → ((v2 < 0 → P (-13) I8 J8) ∧ (¬ v2 < 0 → ((v4 < 0 → P (-13) I8 J8) ∧ (¬ v4 < 0 → (vp_in v1 4 ∧ ((((I8 122 v1.toNatClampNeg).toInt64) < ((v2.toInt64) + (v5.toInt64)) → P (-13) I8 J8) ∧ (¬ ((I8 122 v1.toNatClampNeg).toInt64) < ((v2.toInt64) + (v5.toInt64)) → (vp_in v3 4 ∧ ((¬ ((I8 122 v3.toNatClampNeg).toInt64) < ((v4.toInt64) + (v5.toInt64)) → (Lp_X8_copy_110 g d v1 v2 v3 v4 v5 0 I8 J8 P)) ∧ (((I8 122 v3.toNatClampNeg).toInt64) < ((v4.toInt64) + (v5.toInt64)) → P (-13) I8 J8))))))))))))) ∧ (¬ (I8 123 v1.toNatClampNeg) = (I8 123 v3.toNatClampNeg) → P (-12) I8 J8))))) ∧ (¬ 0 ≤ (I8 122 v3.toNatClampNeg) → P (-11) I8 J8))))))) ∧ (r8 = false → P (-1) I8 J8))))))))
set_option maxRecDepth 4000 in
theorem w_X8_copy {g : GT} {d : Nat} {v1 : Int32} {v2 : Int32} {v3 : Int32} {v4 : Int32} {v5 : Int32} {I : IT} {J : JT} {P : Int32 → IT → JT → Prop} (hd : 1 ≤ d) (hv : VC_X8_copy g d v1 v2 v3 v4 v5 I J P) : SemI g d M_X8_copy [.ref (ga g 118), .int v1, .int v2, .int v3, .int v4, .int v5] I J P := by
  unfold VC_X8_copy at hv
  refine sem_intro (by decide +kernel) rfl (Nat.le_of_ble_eq_true rfl) ?_
  show AW _ 0 0 0 [(0, .ref (ga g 118)), (1, .int v1), (2, .int v2), (3, .int v3), (4, .int v4), (5, .int v5)] [] (cW g I J)
  refine a_iload_n 1 dX8_copy_0 rfl rfl ?_
  refine c_SZ (As := [.int v1]) (rest := []) hv K_X8_221 rfl rfl (Nat.le_of_ble_eq_true rfl) (rok (by omega) (Nat.le_of_ble_eq_true rfl)) ⟨Nat.zero_le _, Nat.zero_le _⟩ dX8_copy_1 (fun r1 I1 J1 hv => ?_)
  refine a_ifz_eq 14 dX8_copy_4 rfl (fun hc => ?_) (fun hc => ?_)
  · replace hv := hv.1 hc
    refine a_iconst (v := (-1)) dX8_copy_14 (by decide) ?_
    exact a_iret rfl dX8_copy_15 hv
  · replace hv := hv.2 hc
    refine a_iload_n 3 dX8_copy_7 rfl rfl ?_
    refine c_SZ (As := [.int v3]) (rest := []) hv K_X8_221 rfl rfl (Nat.le_of_ble_eq_true rfl) (rok (by omega) (Nat.le_of_ble_eq_true rfl)) ⟨Nat.zero_le _, Nat.zero_le _⟩ dX8_copy_8 (fun r8 I8 J8 hv => ?_)
    refine a_ifz_ne 16 dX8_copy_11 rfl (fun hc => ?_) (fun hc => ?_)
    · replace hv := hv.1 hc
      refine a_aload_n 0 dX8_copy_16 rfl rfl ?_
      refine a_getR (r := 122) G_X8_20 sh_118 rfl dX8_copy_17 ?_
      refine a_iload_n 1 dX8_copy_20 rfl rfl ?_
      refine a_iald sh_122 hv.1 dX8_copy_21 ?_
      replace hv := hv.2
      refine a_if_lt 34 dX8_copy_22 rfl (fun hc => ?_) (fun hc => ?_)
      · replace hv := hv.1 hc
        refine a_bipush (v := (-11)) dX8_copy_34 (by decide) ?_
        exact a_iret rfl dX8_copy_36 hv
      · replace hv := hv.2 hc
        refine a_aload_n 0 dX8_copy_25 rfl rfl ?_
        refine a_getR (r := 122) G_X8_20 sh_118 rfl dX8_copy_26 ?_
        refine a_iload_n 3 dX8_copy_29 rfl rfl ?_
        refine a_iald sh_122 hv.1 dX8_copy_30 ?_
        replace hv := hv.2
        refine a_if_ge 37 dX8_copy_31 rfl (fun hc => ?_) (fun hc => ?_)
        · replace hv := hv.1 hc
          refine a_aload_n 0 dX8_copy_37 rfl rfl ?_
          refine a_getR (r := 123) G_X8_23 sh_118 rfl dX8_copy_38 ?_
          refine a_iload_n 1 dX8_copy_41 rfl rfl ?_
          refine a_iald sh_123 hv.1 dX8_copy_42 ?_
          replace hv := hv.2
          refine a_aload_n 0 dX8_copy_43 rfl rfl ?_
          refine a_getR (r := 123) G_X8_23 sh_118 rfl dX8_copy_44 ?_
          refine a_iload_n 3 dX8_copy_47 rfl rfl ?_
          refine a_iald sh_123 hv.1 dX8_copy_48 ?_
          replace hv := hv.2
          refine a_icmp_eq 55 dX8_copy_49 rfl (fun hc => ?_) (fun hc => ?_)
          · replace hv := hv.1 hc
            refine a_iload 5 dX8_copy_55 rfl ?_
            refine a_if_lt 104 dX8_copy_57 rfl (fun hc => ?_) (fun hc => ?_)
            · replace hv := hv.1 hc
              refine a_bipush (v := (-13)) dX8_copy_104 (by decide) ?_
              exact a_iret rfl dX8_copy_106 hv
            · replace hv := hv.2 hc
              refine a_iload_n 2 dX8_copy_60 rfl rfl ?_
              refine a_if_lt 104 dX8_copy_61 rfl (fun hc => ?_) (fun hc => ?_)
              · replace hv := hv.1 hc
                refine a_bipush (v := (-13)) dX8_copy_104 (by decide) ?_
                exact a_iret rfl dX8_copy_106 hv
              · replace hv := hv.2 hc
                refine a_iload 4 dX8_copy_64 rfl ?_
                refine a_if_lt 104 dX8_copy_66 rfl (fun hc => ?_) (fun hc => ?_)
                · replace hv := hv.1 hc
                  refine a_bipush (v := (-13)) dX8_copy_104 (by decide) ?_
                  exact a_iret rfl dX8_copy_106 hv
                · replace hv := hv.2 hc
                  refine a_iload_n 2 dX8_copy_69 rfl rfl ?_
                  refine a_i2l dX8_copy_70 ?_
                  refine a_iload 5 dX8_copy_71 rfl ?_
                  refine a_i2l dX8_copy_73 ?_
                  refine a_ladd dX8_copy_74 ?_
                  refine a_aload_n 0 dX8_copy_75 rfl rfl ?_
                  refine a_getR (r := 122) G_X8_20 sh_118 rfl dX8_copy_76 ?_
                  refine a_iload_n 1 dX8_copy_79 rfl rfl ?_
                  refine a_iald sh_122 hv.1 dX8_copy_80 ?_
                  replace hv := hv.2
                  refine a_i2l dX8_copy_81 ?_
                  refine a_lcmp dX8_copy_82 ?_
                  refine a_lcmp_gt 104 dX8_copy_83 rfl (fun hc => ?_) (fun hc => ?_)
                  · replace hv := hv.1 hc
                    refine a_bipush (v := (-13)) dX8_copy_104 (by decide) ?_
                    exact a_iret rfl dX8_copy_106 hv
                  · replace hv := hv.2 hc
                    refine a_iload 4 dX8_copy_86 rfl ?_
                    refine a_i2l dX8_copy_88 ?_
                    refine a_iload 5 dX8_copy_89 rfl ?_
                    refine a_i2l dX8_copy_91 ?_
                    refine a_ladd dX8_copy_92 ?_
                    refine a_aload_n 0 dX8_copy_93 rfl rfl ?_
                    refine a_getR (r := 122) G_X8_20 sh_118 rfl dX8_copy_94 ?_
                    refine a_iload_n 3 dX8_copy_97 rfl rfl ?_
                    refine a_iald sh_122 hv.1 dX8_copy_98 ?_
                    replace hv := hv.2
                    refine a_i2l dX8_copy_99 ?_
                    refine a_lcmp dX8_copy_100 ?_
                    refine a_lcmp_le 107 dX8_copy_101 rfl (fun hc => ?_) (fun hc => ?_)
                    · replace hv := hv.1 hc
                      refine a_iconst (v := 0) dX8_copy_107 (by decide) ?_
                      refine a_istore [(6, .int 0), (0, .ref (ga g 118)), (1, .int v1), (2, .int v2), (3, .int v3), (4, .int v4), (5, .int v5)] dX8_copy_108 (Nat.le_of_ble_eq_true rfl) rfl ?_
                      exact a_sub [1, 2, 3, 4, 5, 6, 0] rfl hv
                    · replace hv := hv.2 hc
                      refine a_bipush (v := (-13)) dX8_copy_104 (by decide) ?_
                      exact a_iret rfl dX8_copy_106 hv
          · replace hv := hv.2 hc
            refine a_bipush (v := (-12)) dX8_copy_52 (by decide) ?_
            exact a_iret rfl dX8_copy_54 hv
        · replace hv := hv.2 hc
          refine a_bipush (v := (-11)) dX8_copy_34 (by decide) ?_
          exact a_iret rfl dX8_copy_36 hv
    · replace hv := hv.2 hc
      refine a_iconst (v := (-1)) dX8_copy_14 (by decide) ?_
      exact a_iret rfl dX8_copy_15 hv
def Lp_X8_areWords_6 (g : GT) (d : Nat) (v1 : Int32) (v2 : Int32) (v3 : Int32) (b4 : Bool) (v5 : Int32) (I : IT) (J : JT) (P : Bool → IT → JT → Prop) : Prop := AW (kM g d M_X8_areWords 0 0 (qZ g P)) 0 0 6 [(0, .ref (ga g 118)), (1, .int v1), (2, .int v2), (3, .int v3), (4, .int (bI b4)), (5, .int v5)] [] (cW g I J)
def VC_X8_areWords_6 (g : GT) (d : Nat) (v1 : Int32) (v2 : Int32) (v3 : Int32) (b4 : Bool) (v5 : Int32) (I : IT) (J : JT) (P : Bool → IT → JT → Prop) : Prop :=
  ((v2 ≤ v5 → P b4 I J) ∧ (¬ v2 ≤ v5 → ((b4 = false → (Lp_X8_areWords_6 g d v1 v2 v3 false (v5 + 1) I J P)) ∧ (b4 = true → (vp_in (v1 + (v3 * v5)) 96 ∧ (SemZ g (d - 1) M_X8_isWord [.long (J 121 (v1 + (v3 * v5)).toNatClampNeg)] I J (fun r28 I28 J28 => ((r28 = false → (Lp_X8_areWords_6 g d v1 v2 v3 false (v5 + 1) I28 J28 P)) ∧ (r28 = true → (Lp_X8_areWords_6 g d v1 v2 v3 true (v5 + 1) I28 J28 P))))))))))
set_option maxRecDepth 4000 in
theorem w_X8_areWords_6 {g : GT} {d : Nat} {v1 : Int32} {v2 : Int32} {v3 : Int32} {b4 : Bool} {v5 : Int32} {I : IT} {J : JT} {P : Bool → IT → JT → Prop} (hd : 1 ≤ d) (hv : VC_X8_areWords_6 g d v1 v2 v3 b4 v5 I J P) : Lp_X8_areWords_6 g d v1 v2 v3 b4 v5 I J P := by
  unfold VC_X8_areWords_6 at hv
  unfold Lp_X8_areWords_6
  refine a_iload 5 dX8_areWords_6 rfl ?_
  refine a_iload_n 2 dX8_areWords_8 rfl rfl ?_
  refine a_icmp_ge 47 dX8_areWords_9 rfl (fun hc => ?_) (fun hc => ?_)
  · replace hv := hv.1 hc
    refine a_iload 4 dX8_areWords_47 rfl ?_
    exact a_zret _ b4 rfl rfl dX8_areWords_49 hv
  · replace hv := hv.2 hc
    refine a_iload 4 dX8_areWords_12 rfl ?_
    refine a_ifz_eq 38 dX8_areWords_14 rfl (fun hc => ?_) (fun hc => ?_)
    · replace hv := hv.1 hc
      refine a_iconst (v := 0) dX8_areWords_38 (by decide) ?_
      refine a_istore [(4, .int (bI false)), (0, .ref (ga g 118)), (1, .int v1), (2, .int v2), (3, .int v3), (5, .int v5)] dX8_areWords_39 (Nat.le_of_ble_eq_true rfl) rfl ?_
      refine a_iinc 5 (v5 + 1) [(5, .int (v5 + 1)), (4, .int (bI false)), (0, .ref (ga g 118)), (1, .int v1), (2, .int v2), (3, .int v3)] dX8_areWords_41 rfl rfl (Nat.le_of_ble_eq_true rfl) rfl ?_
      refine a_goto 6 dX8_areWords_44 rfl ?_
      exact a_sub [2, 3, 4, 5, 1, 0] rfl hv
    · replace hv := hv.2 hc
      refine a_aload_n 0 dX8_areWords_17 rfl rfl ?_
      refine a_getR (r := 121) G_X8_16 sh_118 rfl dX8_areWords_18 ?_
      refine a_iload_n 1 dX8_areWords_21 rfl rfl ?_
      refine a_iload_n 3 dX8_areWords_22 rfl rfl ?_
      refine a_iload 5 dX8_areWords_23 rfl ?_
      refine a_imul dX8_areWords_25 ?_
      refine a_iadd dX8_areWords_26 ?_
      refine a_lald sh_121 hv.1 dX8_areWords_27 ?_
      replace hv := hv.2
      refine c_SZ (As := [.long (J 121 (v1 + (v3 * v5)).toNatClampNeg)]) (rest := []) hv K_X8_150 rfl rfl (Nat.le_of_ble_eq_true rfl) (rok (by omega) (Nat.le_of_ble_eq_true rfl)) ⟨Nat.zero_le _, Nat.zero_le _⟩ dX8_areWords_28 (fun r28 I28 J28 hv => ?_)
      refine a_ifz_eq 38 dX8_areWords_31 rfl (fun hc => ?_) (fun hc => ?_)
      · replace hv := hv.1 hc
        refine a_iconst (v := 0) dX8_areWords_38 (by decide) ?_
        refine a_istore [(4, .int (bI false)), (0, .ref (ga g 118)), (1, .int v1), (2, .int v2), (3, .int v3), (5, .int v5)] dX8_areWords_39 (Nat.le_of_ble_eq_true rfl) rfl ?_
        refine a_iinc 5 (v5 + 1) [(5, .int (v5 + 1)), (4, .int (bI false)), (0, .ref (ga g 118)), (1, .int v1), (2, .int v2), (3, .int v3)] dX8_areWords_41 rfl rfl (Nat.le_of_ble_eq_true rfl) rfl ?_
        refine a_goto 6 dX8_areWords_44 rfl ?_
        exact a_sub [2, 3, 4, 5, 1, 0] rfl hv
      · replace hv := hv.2 hc
        refine a_iconst (v := 1) dX8_areWords_34 (by decide) ?_
        refine a_goto 39 dX8_areWords_35 rfl ?_
        refine a_istore [(4, .int (bI true)), (0, .ref (ga g 118)), (1, .int v1), (2, .int v2), (3, .int v3), (5, .int v5)] dX8_areWords_39 (Nat.le_of_ble_eq_true rfl) rfl ?_
        refine a_iinc 5 (v5 + 1) [(5, .int (v5 + 1)), (4, .int (bI true)), (0, .ref (ga g 118)), (1, .int v1), (2, .int v2), (3, .int v3)] dX8_areWords_41 rfl rfl (Nat.le_of_ble_eq_true rfl) rfl ?_
        refine a_goto 6 dX8_areWords_44 rfl ?_
        exact a_sub [2, 3, 4, 5, 1, 0] rfl hv
def VC_X8_areWords (g : GT) (d : Nat) (v1 : Int32) (v2 : Int32) (v3 : Int32) (I : IT) (J : JT) (P : Bool → IT → JT → Prop) : Prop :=
  (Lp_X8_areWords_6 g d v1 v2 v3 true 0 I J P)
set_option maxRecDepth 4000 in
theorem w_X8_areWords {g : GT} {d : Nat} {v1 : Int32} {v2 : Int32} {v3 : Int32} {I : IT} {J : JT} {P : Bool → IT → JT → Prop} (hv : VC_X8_areWords g d v1 v2 v3 I J P) : SemZ g d M_X8_areWords [.ref (ga g 118), .int v1, .int v2, .int v3] I J P := by
  unfold VC_X8_areWords at hv
  refine sem_intro (by decide +kernel) rfl (Nat.le_of_ble_eq_true rfl) ?_
  show AW _ 0 0 0 [(0, .ref (ga g 118)), (1, .int v1), (2, .int v2), (3, .int v3)] [] (cW g I J)
  refine a_iconst (v := 1) dX8_areWords_0 (by decide) ?_
  refine a_istore [(4, .int (bI true)), (0, .ref (ga g 118)), (1, .int v1), (2, .int v2), (3, .int v3)] dX8_areWords_1 (Nat.le_of_ble_eq_true rfl) rfl ?_
  refine a_iconst (v := 0) dX8_areWords_3 (by decide) ?_
  refine a_istore [(5, .int 0), (4, .int (bI true)), (0, .ref (ga g 118)), (1, .int v1), (2, .int v2), (3, .int v3)] dX8_areWords_4 (Nat.le_of_ble_eq_true rfl) rfl ?_
  exact a_sub [2, 3, 4, 5, 1, 0] rfl hv
def Lp_X8_log_91 (g : GT) (d : Nat) (v1 : Int32) (v2 : Int32) (v6 : Int32) (v8 : Int32) (v9 : Int32) (I : IT) (J : JT) (P : Int32 → IT → JT → Prop) : Prop := AW (kM g d M_X8_log 0 0 (qI g P)) 0 0 91 [(0, .ref (ga g 118)), (1, .int v1), (2, .int v2), (6, .int v6), (8, .int v8), (9, .int v9)] [] (cW g I J)
def VC_X8_log_91 (g : GT) (d : Nat) (v1 : Int32) (v2 : Int32) (v6 : Int32) (v8 : Int32) (v9 : Int32) (I : IT) (J : JT) (P : Int32 → IT → JT → Prop) : Prop :=
  ((v6 ≤ v9 → P v6 I J) ∧ (¬ v6 ≤ v9 → (vp_in (v8 + v9) 96 ∧ (SemV g (d - 1) M_X8_says [.ref (ga g 118), .int 320, .int v1, .int v2, .int ((J 121 (v8 + v9).toNatClampNeg).toInt32)] I J (fun I115 J115 => (vp_in (378 + v1) 952 ∧ (vp_in (v8 + v9) 96 ∧ (Lp_X8_log_91 g d v1 v2 v6 v8 (v9 + 1) I115 (sJ J115 121 (v8 + v9).toNatClampNeg ((I115 119 (378 + v1).toNatClampNeg).toInt64)) P))))))))
set_option maxRecDepth 4000 in
theorem w_X8_log_91 {g : GT} {d : Nat} {v1 : Int32} {v2 : Int32} {v6 : Int32} {v8 : Int32} {v9 : Int32} {I : IT} {J : JT} {P : Int32 → IT → JT → Prop} (hd : 1 ≤ d) (hv : VC_X8_log_91 g d v1 v2 v6 v8 v9 I J P) : Lp_X8_log_91 g d v1 v2 v6 v8 v9 I J P := by
  unfold VC_X8_log_91 at hv
  unfold Lp_X8_log_91
  refine a_iload 5 dX8_log_91 rfl ?_
  refine a_iload 3 dX8_log_93 rfl ?_
  refine a_icmp_ge 145 dX8_log_95 rfl (fun hc => ?_) (fun hc => ?_)
  · replace hv := hv.1 hc
    refine a_iload 3 dX8_log_145 rfl ?_
    exact a_iret rfl dX8_log_147 hv
  · replace hv := hv.2 hc
    refine a_aload_n 0 dX8_log_98 rfl rfl ?_
    refine a_sipush (v := 320) dX8_log_99 (by decide) ?_
    refine a_iload_n 1 dX8_log_102 rfl rfl ?_
    refine a_iload_n 2 dX8_log_103 rfl rfl ?_
    refine a_aload_n 0 dX8_log_104 rfl rfl ?_
    refine a_getR (r := 121) G_X8_16 sh_118 rfl dX8_log_105 ?_
    refine a_iload 4 dX8_log_108 rfl ?_
    refine a_iload 5 dX8_log_110 rfl ?_
    refine a_iadd dX8_log_112 ?_
    refine a_lald sh_121 hv.1 dX8_log_113 ?_
    replace hv := hv.2
    refine a_l2i dX8_log_114 ?_
    refine c_VV (As := [.int 320, .int v1, .int v2, .int ((J 121 (v8 + v9).toNatClampNeg).toInt32)]) (rest := []) hv K_X8_157 sh_118 rfl rfl rfl (Nat.le_of_ble_eq_true rfl) (rok (by omega) (Nat.le_of_ble_eq_true rfl)) ⟨Nat.zero_le _, Nat.zero_le _⟩ dX8_log_115 (fun I115 J115 hv => ?_)
    refine a_aload_n 0 dX8_log_118 rfl rfl ?_
    refine a_getR (r := 121) G_X8_16 sh_118 rfl dX8_log_119 ?_
    refine a_iload 4 dX8_log_122 rfl ?_
    refine a_iload 5 dX8_log_124 rfl ?_
    refine a_iadd dX8_log_126 ?_
    refine a_aload_n 0 dX8_log_127 rfl rfl ?_
    refine a_getR (r := 119) G_X8_7 sh_118 rfl dX8_log_128 ?_
    refine a_sipush (v := 378) dX8_log_131 (by decide) ?_
    refine a_iload_n 1 dX8_log_134 rfl rfl ?_
    refine a_iadd dX8_log_135 ?_
    refine a_iald sh_119 hv.1 dX8_log_136 ?_
    replace hv := hv.2
    refine a_i2l dX8_log_137 ?_
    refine a_last sh_121 hv.1 dX8_log_138 ?_
    replace hv := hv.2
    refine a_iinc 5 (v9 + 1) [(9, .int (v9 + 1)), (0, .ref (ga g 118)), (1, .int v1), (2, .int v2), (6, .int v6), (8, .int v8)] dX8_log_139 rfl rfl (Nat.le_of_ble_eq_true rfl) rfl ?_
    refine a_goto 91 dX8_log_142 rfl ?_
    exact a_sub [1, 2, 3, 4, 5, 0] rfl hv
def VC_X8_log (g : GT) (d : Nat) (v1 : Int32) (v2 : Int32) (v3 : Int32) (v4 : Int32) (v5 : Int32) (v6 : Int32) (I : IT) (J : JT) (P : Int32 → IT → JT → Prop) : Prop :=
  (SemZ g (d - 1) M_X8_isShip [.ref (ga g 118), .int v1] I J (fun r2 I2 J2 => ((r2 = false → P (-1) I2 J2) ∧ (r2 = true → (SemZ g (d - 1) M_X8_isTeller [.int v2] I2 J2 (fun r9 I9 J9 => ((r9 = false → P (-1) I9 J9) ∧ (r9 = true → (SemZ g (d - 1) M_X8_isLane [.int v3, .int v4] I9 J9 (fun r18 I18 J18 => ((r18 = false → P (-1) I18 J18) ∧ (r18 = true → (SemZ g (d - 1) M_X8_in [.long (v6.toInt64), .long 1, .long 24] I18 J18 (fun r31 I31 J31 => ((r31 = true → (SemI g (d - 1) M_X8_against [.ref (ga g 118), .int v3, .int v4, .int v5, .int v6] I31 J31 (fun r47 I47 J47 => ((0 ≤ r47 → (SemZ g (d - 1) M_X8_areWords [.ref (ga g 118), .int ((24 * v3) + v5), .int v6, .int 1] I47 J47 (fun r75 I75 J75 => ((r75 = true → (SemV g (d - 1) M_X8_tries [.ref (ga g 118)] I75 J75 (fun I85 J85 => (Lp_X8_log_91 g d v1 v2 v6 ((24 * v3) + v5) 0 I85 J85 P)))) ∧ (r75 = false → P (-2) I75 J75))))) ∧ (¬ 0 ≤ r47 → P r47 I47 J47))))) ∧ (r31 = false → P (-1) I31 J31))))))))))))))))
set_option maxRecDepth 4000 in
theorem w_X8_log {g : GT} {d : Nat} {v1 : Int32} {v2 : Int32} {v3 : Int32} {v4 : Int32} {v5 : Int32} {v6 : Int32} {I : IT} {J : JT} {P : Int32 → IT → JT → Prop} (hd : 1 ≤ d) (hv : VC_X8_log g d v1 v2 v3 v4 v5 v6 I J P) : SemI g d M_X8_log [.ref (ga g 118), .int v1, .int v2, .int v3, .int v4, .int v5, .int v6] I J P := by
  unfold VC_X8_log at hv
  refine sem_intro (by decide +kernel) rfl (Nat.le_of_ble_eq_true rfl) ?_
  show AW _ 0 0 0 [(0, .ref (ga g 118)), (1, .int v1), (2, .int v2), (3, .int v3), (4, .int v4), (5, .int v5), (6, .int v6)] [] (cW g I J)
  refine a_aload_n 0 dX8_log_0 rfl rfl ?_
  refine a_iload_n 1 dX8_log_1 rfl rfl ?_
  refine c_VZ (As := [.int v1]) (rest := []) hv K_X8_103 sh_118 rfl rfl rfl (Nat.le_of_ble_eq_true rfl) (rok (by omega) (Nat.le_of_ble_eq_true rfl)) ⟨Nat.zero_le _, Nat.zero_le _⟩ dX8_log_2 (fun r2 I2 J2 hv => ?_)
  refine a_ifz_eq 37 dX8_log_5 rfl (fun hc => ?_) (fun hc => ?_)
  · replace hv := hv.1 hc
    refine a_iconst (v := (-1)) dX8_log_37 (by decide) ?_
    exact a_iret rfl dX8_log_38 hv
  · replace hv := hv.2 hc
    refine a_iload_n 2 dX8_log_8 rfl rfl ?_
    refine c_SZ (As := [.int v2]) (rest := []) hv K_X8_118 rfl rfl (Nat.le_of_ble_eq_true rfl) (rok (by omega) (Nat.le_of_ble_eq_true rfl)) ⟨Nat.zero_le _, Nat.zero_le _⟩ dX8_log_9 (fun r9 I9 J9 hv => ?_)
    refine a_ifz_eq 37 dX8_log_12 rfl (fun hc => ?_) (fun hc => ?_)
    · replace hv := hv.1 hc
      refine a_iconst (v := (-1)) dX8_log_37 (by decide) ?_
      exact a_iret rfl dX8_log_38 hv
    · replace hv := hv.2 hc
      refine a_iload_n 3 dX8_log_15 rfl rfl ?_
      refine a_iload 4 dX8_log_16 rfl ?_
      refine c_SZ (As := [.int v3, .int v4]) (rest := []) hv K_X8_224 rfl rfl (Nat.le_of_ble_eq_true rfl) (rok (by omega) (Nat.le_of_ble_eq_true rfl)) ⟨Nat.zero_le _, Nat.zero_le _⟩ dX8_log_18 (fun r18 I18 J18 hv => ?_)
      refine a_ifz_eq 37 dX8_log_21 rfl (fun hc => ?_) (fun hc => ?_)
      · replace hv := hv.1 hc
        refine a_iconst (v := (-1)) dX8_log_37 (by decide) ?_
        exact a_iret rfl dX8_log_38 hv
      · replace hv := hv.2 hc
        refine a_iload 6 dX8_log_24 rfl ?_
        refine a_i2l dX8_log_26 ?_
        refine a_lconst (v := 1) dX8_log_27 (by decide) ?_
        refine a_ldc2 (v := 24) dX8_log_28 cl_X8_237 ?_
        refine c_SZ (As := [.long (v6.toInt64), .long 1, .long 24]) (rest := []) hv K_X8_44 rfl rfl (Nat.le_of_ble_eq_true rfl) (rok (by omega) (Nat.le_of_ble_eq_true rfl)) ⟨Nat.zero_le _, Nat.zero_le _⟩ dX8_log_31 (fun r31 I31 J31 hv => ?_)
        refine a_ifz_ne 39 dX8_log_34 rfl (fun hc => ?_) (fun hc => ?_)
        · replace hv := hv.1 hc
          refine a_aload_n 0 dX8_log_39 rfl rfl ?_
          refine a_iload_n 3 dX8_log_40 rfl rfl ?_
          refine a_iload 4 dX8_log_41 rfl ?_
          refine a_iload 5 dX8_log_43 rfl ?_
          refine a_iload 6 dX8_log_45 rfl ?_
          refine c_VI (As := [.int v3, .int v4, .int v5, .int v6]) (rest := []) hv K_X8_229 sh_118 rfl rfl rfl (Nat.le_of_ble_eq_true rfl) (rok (by omega) (Nat.le_of_ble_eq_true rfl)) ⟨Nat.zero_le _, Nat.zero_le _⟩ dX8_log_47 (fun r47 I47 J47 hv => ?_)
          refine a_istore [(7, .int r47), (0, .ref (ga g 118)), (1, .int v1), (2, .int v2), (3, .int v3), (4, .int v4), (5, .int v5), (6, .int v6)] dX8_log_50 (Nat.le_of_ble_eq_true rfl) rfl ?_
          refine a_iload 0 dX8_log_52 rfl ?_
          refine a_if_ge 60 dX8_log_54 rfl (fun hc => ?_) (fun hc => ?_)
          · replace hv := hv.1 hc
            refine a_bipush (v := 24) dX8_log_60 (by decide) ?_
            refine a_iload_n 4 dX8_log_62 rfl rfl ?_
            refine a_imul dX8_log_63 ?_
            refine a_iload 6 dX8_log_64 rfl ?_
            refine a_iadd dX8_log_66 ?_
            refine a_istore [(8, .int ((24 * v3) + v5)), (7, .int r47), (0, .ref (ga g 118)), (1, .int v1), (2, .int v2), (3, .int v3), (4, .int v4), (5, .int v5), (6, .int v6)] dX8_log_67 (Nat.le_of_ble_eq_true rfl) rfl ?_
            refine a_aload_n 2 dX8_log_69 rfl rfl ?_
            refine a_iload 0 dX8_log_70 rfl ?_
            refine a_iload 8 dX8_log_72 rfl ?_
            refine a_iconst (v := 1) dX8_log_74 (by decide) ?_
            refine c_VZ (As := [.int ((24 * v3) + v5), .int v6, .int 1]) (rest := []) hv K_X8_239 sh_118 rfl rfl rfl (Nat.le_of_ble_eq_true rfl) (rok (by omega) (Nat.le_of_ble_eq_true rfl)) ⟨Nat.zero_le _, Nat.zero_le _⟩ dX8_log_75 (fun r75 I75 J75 hv => ?_)
            refine a_ifz_ne 84 dX8_log_78 rfl (fun hc => ?_) (fun hc => ?_)
            · replace hv := hv.1 hc
              refine a_aload_n 2 dX8_log_84 rfl rfl ?_
              refine c_VV (As := []) (rest := []) hv K_X8_194 sh_118 rfl rfl rfl (Nat.le_of_ble_eq_true rfl) (rok (by omega) (Nat.le_of_ble_eq_true rfl)) ⟨Nat.zero_le _, Nat.zero_le _⟩ dX8_log_85 (fun I85 J85 hv => ?_)
              refine a_iconst (v := 0) dX8_log_88 (by decide) ?_
              refine a_istore [(9, .int 0), (8, .int ((24 * v3) + v5)), (7, .int r47), (0, .ref (ga g 118)), (1, .int v1), (2, .int v2), (3, .int v3), (4, .int v4), (5, .int v5), (6, .int v6)] dX8_log_89 (Nat.le_of_ble_eq_true rfl) rfl ?_
              exact a_sub [3, 4, 5, 9, 1, 0] rfl hv
            · replace hv := hv.2 hc
              refine a_bipush (v := (-2)) dX8_log_81 (by decide) ?_
              exact a_iret rfl dX8_log_83 hv
          · replace hv := hv.2 hc
            refine a_iload 0 dX8_log_57 rfl ?_
            exact a_iret rfl dX8_log_59 hv
        · replace hv := hv.2 hc
          refine a_iconst (v := (-1)) dX8_log_37 (by decide) ?_
          exact a_iret rfl dX8_log_38 hv
def Lp_X8_rows_77 (g : GT) (d : Nat) (v1 : Int32) (v2 : Int32) (v3 : Int32) (v5 : Int32) (v6 : Int32) (v7 : Int32) (v9 : Int32) (v10 : Int32) (I : IT) (J : JT) (P : Int32 → IT → JT → Prop) : Prop := AW (kM g d M_X8_rows 0 0 (qI g P)) 0 0 77 [(0, .ref (ga g 118)), (1, .int v1), (2, .int v2), (3, .int v3), (5, .int v5), (6, .int v6), (7, .int v7), (9, .int v9), (10, .int v10)] [] (cW g I J)
def Lp_X8_rows_106 (g : GT) (d : Nat) (v1 : Int32) (v2 : Int32) (v3 : Int32) (v5 : Int32) (v6 : Int32) (v7 : Int32) (v9 : Int32) (v10 : Int32) (v11 : Int32) (v12 : Int32) (I : IT) (J : JT) (P : Int32 → IT → JT → Prop) : Prop := AW (kM g d M_X8_rows 0 0 (qI g P)) 0 0 106 [(0, .ref (ga g 118)), (1, .int v1), (2, .int v2), (3, .int v3), (5, .int v5), (6, .int v6), (7, .int v7), (9, .int v9), (10, .int v10), (11, .int v11), (12, .int v12)] [] (cW g I J)
def Lp_X8_rows_127 (g : GT) (d : Nat) (v1 : Int32) (v2 : Int32) (v3 : Int32) (v5 : Int32) (v6 : Int32) (v7 : Int32) (v9 : Int32) (v10 : Int32) (v11 : Int32) (v12 : Int32) (b13 : Bool) (v14 : Int32) (v15 : Int32) (I : IT) (J : JT) (P : Int32 → IT → JT → Prop) : Prop := AW (kM g d M_X8_rows 0 0 (qI g P)) 0 0 127 [(0, .ref (ga g 118)), (1, .int v1), (2, .int v2), (3, .int v3), (5, .int v5), (6, .int v6), (7, .int v7), (9, .int v9), (10, .int v10), (11, .int v11), (12, .int v12), (13, .int (bI b13)), (14, .int v14), (15, .int v15)] [] (cW g I J)
def Lp_X8_rows_204 (g : GT) (d : Nat) (v1 : Int32) (v2 : Int32) (v3 : Int32) (v5 : Int32) (v6 : Int32) (v7 : Int32) (v9 : Int32) (v10 : Int32) (v11 : Int32) (v12 : Int32) (b13 : Bool) (I : IT) (J : JT) (P : Int32 → IT → JT → Prop) : Prop := AW (kM g d M_X8_rows 0 0 (qI g P)) 0 0 204 [(0, .ref (ga g 118)), (1, .int v1), (2, .int v2), (3, .int v3), (5, .int v5), (6, .int v6), (7, .int v7), (9, .int v9), (10, .int v10), (11, .int v11), (12, .int v12), (13, .int (bI b13))] [] (cW g I J)
def VC_X8_rows_204 (g : GT) (d : Nat) (v1 : Int32) (v2 : Int32) (v3 : Int32) (v5 : Int32) (v6 : Int32) (v7 : Int32) (v9 : Int32) (v10 : Int32) (v11 : Int32) (v12 : Int32) (b13 : Bool) (I : IT) (J : JT) (P : Int32 → IT → JT → Prop) : Prop :=
  ((b13 = false → ((b13 = false → (Lp_X8_rows_106 g d v1 v2 v3 v5 v6 v7 v9 (v10 + 0) v11 (v12 + 1) I J P)) ∧ (b13 = true → (Lp_X8_rows_106 g d v1 v2 v3 v5 v6 v7 v9 (v10 + 1) v11 (v12 + 1) I J P)))) ∧ (b13 = true → ((¬ v10 = 0 → ((b13 = false → (Lp_X8_rows_106 g d v1 v2 v3 v5 v6 v7 v9 (v10 + 0) v11 (v12 + 1) I J P)) ∧ (b13 = true → (Lp_X8_rows_106 g d v1 v2 v3 v5 v6 v7 v9 (v10 + 1) v11 (v12 + 1) I J P)))) ∧ (v10 = 0 → ((b13 = false → (Lp_X8_rows_106 g d v1 v2 v3 v5 v6 v7 v9 (v10 + 0) v12 (v12 + 1) I J P)) ∧ (b13 = true → (Lp_X8_rows_106 g d v1 v2 v3 v5 v6 v7 v9 (v10 + 1) v12 (v12 + 1) I J P)))))))
set_option maxRecDepth 4000 in
theorem w_X8_rows_204 {g : GT} {d : Nat} {v1 : Int32} {v2 : Int32} {v3 : Int32} {v5 : Int32} {v6 : Int32} {v7 : Int32} {v9 : Int32} {v10 : Int32} {v11 : Int32} {v12 : Int32} {b13 : Bool} {I : IT} {J : JT} {P : Int32 → IT → JT → Prop} (hv : VC_X8_rows_204 g d v1 v2 v3 v5 v6 v7 v9 v10 v11 v12 b13 I J P) : Lp_X8_rows_204 g d v1 v2 v3 v5 v6 v7 v9 v10 v11 v12 b13 I J P := by
  unfold VC_X8_rows_204 at hv
  unfold Lp_X8_rows_204
  refine a_iload 11 dX8_rows_204 rfl ?_
  refine a_ifz_eq 219 dX8_rows_206 rfl (fun hc => ?_) (fun hc => ?_)
  · replace hv := hv.1 hc
    refine a_iload 9 dX8_rows_219 rfl ?_
    refine a_istore [(11, .int v11), (0, .ref (ga g 118)), (1, .int v1), (2, .int v2), (3, .int v3), (5, .int v5), (6, .int v6), (7, .int v7), (9, .int v9), (10, .int v10), (12, .int v12), (13, .int (bI b13))] dX8_rows_221 (Nat.le_of_ble_eq_true rfl) rfl ?_
    refine a_iload 9 dX8_rows_223 rfl ?_
    refine a_iload 11 dX8_rows_225 rfl ?_
    refine a_ifz_eq 234 dX8_rows_227 rfl (fun hc => ?_) (fun hc => ?_)
    · replace hv := hv.1 hc
      refine a_iconst (v := 0) dX8_rows_234 (by decide) ?_
      refine a_iadd dX8_rows_235 ?_
      refine a_istore [(10, .int (v10 + 0)), (11, .int v11), (0, .ref (ga g 118)), (1, .int v1), (2, .int v2), (3, .int v3), (5, .int v5), (6, .int v6), (7, .int v7), (9, .int v9), (12, .int v12), (13, .int (bI b13))] dX8_rows_236 (Nat.le_of_ble_eq_true rfl) rfl ?_
      refine a_iinc 10 (v12 + 1) [(12, .int (v12 + 1)), (10, .int (v10 + 0)), (11, .int v11), (0, .ref (ga g 118)), (1, .int v1), (2, .int v2), (3, .int v3), (5, .int v5), (6, .int v6), (7, .int v7), (9, .int v9), (13, .int (bI b13))] dX8_rows_238 rfl rfl (Nat.le_of_ble_eq_true rfl) rfl ?_
      refine a_goto 106 dX8_rows_241 rfl ?_
      exact a_sub [3, 4, 5, 6, 7, 8, 9, 10, 1, 2, 0] rfl hv
    · replace hv := hv.2 hc
      refine a_iconst (v := 1) dX8_rows_230 (by decide) ?_
      refine a_goto 235 dX8_rows_231 rfl ?_
      refine a_iadd dX8_rows_235 ?_
      refine a_istore [(10, .int (v10 + 1)), (11, .int v11), (0, .ref (ga g 118)), (1, .int v1), (2, .int v2), (3, .int v3), (5, .int v5), (6, .int v6), (7, .int v7), (9, .int v9), (12, .int v12), (13, .int (bI b13))] dX8_rows_236 (Nat.le_of_ble_eq_true rfl) rfl ?_
      refine a_iinc 10 (v12 + 1) [(12, .int (v12 + 1)), (10, .int (v10 + 1)), (11, .int v11), (0, .ref (ga g 118)), (1, .int v1), (2, .int v2), (3, .int v3), (5, .int v5), (6, .int v6), (7, .int v7), (9, .int v9), (13, .int (bI b13))] dX8_rows_238 rfl rfl (Nat.le_of_ble_eq_true rfl) rfl ?_
      refine a_goto 106 dX8_rows_241 rfl ?_
      exact a_sub [3, 4, 5, 6, 7, 8, 9, 10, 1, 2, 0] rfl hv
  · replace hv := hv.2 hc
    refine a_iload 8 dX8_rows_209 rfl ?_
    refine a_if_ne 219 dX8_rows_211 rfl (fun hc => ?_) (fun hc => ?_)
    · replace hv := hv.1 hc
      refine a_iload 9 dX8_rows_219 rfl ?_
      refine a_istore [(11, .int v11), (0, .ref (ga g 118)), (1, .int v1), (2, .int v2), (3, .int v3), (5, .int v5), (6, .int v6), (7, .int v7), (9, .int v9), (10, .int v10), (12, .int v12), (13, .int (bI b13))] dX8_rows_221 (Nat.le_of_ble_eq_true rfl) rfl ?_
      refine a_iload 9 dX8_rows_223 rfl ?_
      refine a_iload 11 dX8_rows_225 rfl ?_
      refine a_ifz_eq 234 dX8_rows_227 rfl (fun hc => ?_) (fun hc => ?_)
      · replace hv := hv.1 hc
        refine a_iconst (v := 0) dX8_rows_234 (by decide) ?_
        refine a_iadd dX8_rows_235 ?_
        refine a_istore [(10, .int (v10 + 0)), (11, .int v11), (0, .ref (ga g 118)), (1, .int v1), (2, .int v2), (3, .int v3), (5, .int v5), (6, .int v6), (7, .int v7), (9, .int v9), (12, .int v12), (13, .int (bI b13))] dX8_rows_236 (Nat.le_of_ble_eq_true rfl) rfl ?_
        refine a_iinc 10 (v12 + 1) [(12, .int (v12 + 1)), (10, .int (v10 + 0)), (11, .int v11), (0, .ref (ga g 118)), (1, .int v1), (2, .int v2), (3, .int v3), (5, .int v5), (6, .int v6), (7, .int v7), (9, .int v9), (13, .int (bI b13))] dX8_rows_238 rfl rfl (Nat.le_of_ble_eq_true rfl) rfl ?_
        refine a_goto 106 dX8_rows_241 rfl ?_
        exact a_sub [3, 4, 5, 6, 7, 8, 9, 10, 1, 2, 0] rfl hv
      · replace hv := hv.2 hc
        refine a_iconst (v := 1) dX8_rows_230 (by decide) ?_
        refine a_goto 235 dX8_rows_231 rfl ?_
        refine a_iadd dX8_rows_235 ?_
        refine a_istore [(10, .int (v10 + 1)), (11, .int v11), (0, .ref (ga g 118)), (1, .int v1), (2, .int v2), (3, .int v3), (5, .int v5), (6, .int v6), (7, .int v7), (9, .int v9), (12, .int v12), (13, .int (bI b13))] dX8_rows_236 (Nat.le_of_ble_eq_true rfl) rfl ?_
        refine a_iinc 10 (v12 + 1) [(12, .int (v12 + 1)), (10, .int (v10 + 1)), (11, .int v11), (0, .ref (ga g 118)), (1, .int v1), (2, .int v2), (3, .int v3), (5, .int v5), (6, .int v6), (7, .int v7), (9, .int v9), (13, .int (bI b13))] dX8_rows_238 rfl rfl (Nat.le_of_ble_eq_true rfl) rfl ?_
        refine a_goto 106 dX8_rows_241 rfl ?_
        exact a_sub [3, 4, 5, 6, 7, 8, 9, 10, 1, 2, 0] rfl hv
    · replace hv := hv.2 hc
      refine a_iload 10 dX8_rows_214 rfl ?_
      refine a_goto 221 dX8_rows_216 rfl ?_
      refine a_istore [(11, .int v12), (0, .ref (ga g 118)), (1, .int v1), (2, .int v2), (3, .int v3), (5, .int v5), (6, .int v6), (7, .int v7), (9, .int v9), (10, .int v10), (12, .int v12), (13, .int (bI b13))] dX8_rows_221 (Nat.le_of_ble_eq_true rfl) rfl ?_
      refine a_iload 9 dX8_rows_223 rfl ?_
      refine a_iload 11 dX8_rows_225 rfl ?_
      refine a_ifz_eq 234 dX8_rows_227 rfl (fun hc => ?_) (fun hc => ?_)
      · replace hv := hv.1 hc
        refine a_iconst (v := 0) dX8_rows_234 (by decide) ?_
        refine a_iadd dX8_rows_235 ?_
        refine a_istore [(10, .int (v10 + 0)), (11, .int v12), (0, .ref (ga g 118)), (1, .int v1), (2, .int v2), (3, .int v3), (5, .int v5), (6, .int v6), (7, .int v7), (9, .int v9), (12, .int v12), (13, .int (bI b13))] dX8_rows_236 (Nat.le_of_ble_eq_true rfl) rfl ?_
        refine a_iinc 10 (v12 + 1) [(12, .int (v12 + 1)), (10, .int (v10 + 0)), (11, .int v12), (0, .ref (ga g 118)), (1, .int v1), (2, .int v2), (3, .int v3), (5, .int v5), (6, .int v6), (7, .int v7), (9, .int v9), (13, .int (bI b13))] dX8_rows_238 rfl rfl (Nat.le_of_ble_eq_true rfl) rfl ?_
        refine a_goto 106 dX8_rows_241 rfl ?_
        exact a_sub [3, 4, 5, 6, 7, 8, 9, 10, 1, 2, 0] rfl hv
      · replace hv := hv.2 hc
        refine a_iconst (v := 1) dX8_rows_230 (by decide) ?_
        refine a_goto 235 dX8_rows_231 rfl ?_
        refine a_iadd dX8_rows_235 ?_
        refine a_istore [(10, .int (v10 + 1)), (11, .int v12), (0, .ref (ga g 118)), (1, .int v1), (2, .int v2), (3, .int v3), (5, .int v5), (6, .int v6), (7, .int v7), (9, .int v9), (12, .int v12), (13, .int (bI b13))] dX8_rows_236 (Nat.le_of_ble_eq_true rfl) rfl ?_
        refine a_iinc 10 (v12 + 1) [(12, .int (v12 + 1)), (10, .int (v10 + 1)), (11, .int v12), (0, .ref (ga g 118)), (1, .int v1), (2, .int v2), (3, .int v3), (5, .int v5), (6, .int v6), (7, .int v7), (9, .int v9), (13, .int (bI b13))] dX8_rows_238 rfl rfl (Nat.le_of_ble_eq_true rfl) rfl ?_
        refine a_goto 106 dX8_rows_241 rfl ?_
        exact a_sub [3, 4, 5, 6, 7, 8, 9, 10, 1, 2, 0] rfl hv
def VC_X8_rows_127 (g : GT) (d : Nat) (v1 : Int32) (v2 : Int32) (v3 : Int32) (v5 : Int32) (v6 : Int32) (v7 : Int32) (v9 : Int32) (v10 : Int32) (v11 : Int32) (v12 : Int32) (b13 : Bool) (v14 : Int32) (v15 : Int32) (I : IT) (J : JT) (P : Int32 → IT → JT → Prop) : Prop :=
  ((v6 ≤ v15 → (Lp_X8_rows_204 g d v1 v2 v3 v5 v6 v7 v9 v10 v11 v12 b13 I J P)) ∧ (¬ v6 ≤ v15 → ((b13 = false → (Lp_X8_rows_204 g d v1 v2 v3 v5 v6 v7 v9 v10 v11 v12 b13 I J P)) ∧ (b13 = true → (¬ (v14 / 3) = 0 ∧ (SemV g (d - 1) M_X8_says [.ref (ga g 118), .int 320, .int v1, .int v2, .int ((v12 / (v14 / 3)) - (v12 / (v14 / 3)) / 3 * 3)] I J (fun I158 J158 => (vp_in (378 + v1) 952 ∧ (vp_in (((24 * v3) + v5) + v15) 96 ∧ ((¬ ((I158 119 (378 + v1).toNatClampNeg).toInt64) = (J158 121 (((24 * v3) + v5) + v15).toNatClampNeg) → (Lp_X8_rows_127 g d v1 v2 v3 v5 v6 v7 v9 v10 v11 v12 false (v14 / 3) (v15 + 1) I158 J158 P)) ∧ (((I158 119 (378 + v1).toNatClampNeg).toInt64) = (J158 121 (((24 * v3) + v5) + v15).toNatClampNeg) → (Lp_X8_rows_127 g d v1 v2 v3 v5 v6 v7 v9 v10 v11 v12 true (v14 / 3) (v15 + 1) I158 J158 P))))))))))))
set_option maxRecDepth 4000 in
theorem w_X8_rows_127 {g : GT} {d : Nat} {v1 : Int32} {v2 : Int32} {v3 : Int32} {v5 : Int32} {v6 : Int32} {v7 : Int32} {v9 : Int32} {v10 : Int32} {v11 : Int32} {v12 : Int32} {b13 : Bool} {v14 : Int32} {v15 : Int32} {I : IT} {J : JT} {P : Int32 → IT → JT → Prop} (hd : 1 ≤ d) (hv : VC_X8_rows_127 g d v1 v2 v3 v5 v6 v7 v9 v10 v11 v12 b13 v14 v15 I J P) : Lp_X8_rows_127 g d v1 v2 v3 v5 v6 v7 v9 v10 v11 v12 b13 v14 v15 I J P := by
  unfold VC_X8_rows_127 at hv
  unfold Lp_X8_rows_127
  refine a_iload 13 dX8_rows_127 rfl ?_
  refine a_iload 5 dX8_rows_129 rfl ?_
  refine a_icmp_ge 204 dX8_rows_131 rfl (fun hc => ?_) (fun hc => ?_)
  · replace hv := hv.1 hc
    exact a_sub [0, 1, 2, 3, 4, 5, 6, 7, 8, 9, 10, 11] rfl hv
  · replace hv := hv.2 hc
    refine a_iload 11 dX8_rows_134 rfl ?_
    refine a_ifz_eq 204 dX8_rows_136 rfl (fun hc => ?_) (fun hc => ?_)
    · replace hv := hv.1 hc
      exact a_sub [0, 1, 2, 3, 4, 5, 6, 7, 8, 9, 10, 11] rfl hv
    · replace hv := hv.2 hc
      refine a_iload 12 dX8_rows_139 rfl ?_
      refine a_iconst (v := 3) dX8_rows_141 (by decide) ?_
      refine a_idiv dX8_rows_142 (by decide) ?_
      refine a_istore [(14, .int (v14 / 3)), (0, .ref (ga g 118)), (1, .int v1), (2, .int v2), (3, .int v3), (5, .int v5), (6, .int v6), (7, .int v7), (9, .int v9), (10, .int v10), (11, .int v11), (12, .int v12), (13, .int (bI b13)), (15, .int v15)] dX8_rows_143 (Nat.le_of_ble_eq_true rfl) rfl ?_
      refine a_aload_n 1 dX8_rows_145 rfl rfl ?_
      refine a_sipush (v := 320) dX8_rows_146 (by decide) ?_
      refine a_iload_n 2 dX8_rows_149 rfl rfl ?_
      refine a_iload_n 3 dX8_rows_150 rfl rfl ?_
      refine a_iload 11 dX8_rows_151 rfl ?_
      refine a_iload 0 dX8_rows_153 rfl ?_
      refine a_idiv dX8_rows_155 hv.1 ?_
      replace hv := hv.2
      refine a_iconst (v := 3) dX8_rows_156 (by decide) ?_
      refine a_irem dX8_rows_157 (by decide) ?_
      refine c_VV (As := [.int 320, .int v1, .int v2, .int ((v12 / (v14 / 3)) - (v12 / (v14 / 3)) / 3 * 3)]) (rest := []) hv K_X8_157 sh_118 rfl rfl rfl (Nat.le_of_ble_eq_true rfl) (rok (by omega) (Nat.le_of_ble_eq_true rfl)) ⟨Nat.zero_le _, Nat.zero_le _⟩ dX8_rows_158 (fun I158 J158 hv => ?_)
      refine a_aload_n 1 dX8_rows_161 rfl rfl ?_
      refine a_getR (r := 119) G_X8_7 sh_118 rfl dX8_rows_162 ?_
      refine a_sipush (v := 378) dX8_rows_165 (by decide) ?_
      refine a_iload_n 2 dX8_rows_168 rfl rfl ?_
      refine a_iadd dX8_rows_169 ?_
      refine a_iald sh_119 hv.1 dX8_rows_170 ?_
      replace hv := hv.2
      refine a_i2l dX8_rows_171 ?_
      refine a_aload_n 1 dX8_rows_172 rfl rfl ?_
      refine a_getR (r := 121) G_X8_16 sh_118 rfl dX8_rows_173 ?_
      refine a_bipush (v := 24) dX8_rows_176 (by decide) ?_
      refine a_iload_n 4 dX8_rows_178 rfl rfl ?_
      refine a_imul dX8_rows_179 ?_
      refine a_iload 5 dX8_rows_180 rfl ?_
      refine a_iadd dX8_rows_182 ?_
      refine a_iload 13 dX8_rows_183 rfl ?_
      refine a_iadd dX8_rows_185 ?_
      refine a_lald sh_121 hv.1 dX8_rows_186 ?_
      replace hv := hv.2
      refine a_lcmp dX8_rows_187 ?_
      refine a_lcmp_ne 195 dX8_rows_188 rfl (fun hc => ?_) (fun hc => ?_)
      · replace hv := hv.1 hc
        refine a_iconst (v := 0) dX8_rows_195 (by decide) ?_
        refine a_istore [(13, .int (bI false)), (14, .int (v14 / 3)), (0, .ref (ga g 118)), (1, .int v1), (2, .int v2), (3, .int v3), (5, .int v5), (6, .int v6), (7, .int v7), (9, .int v9), (10, .int v10), (11, .int v11), (12, .int v12), (15, .int v15)] dX8_rows_196 (Nat.le_of_ble_eq_true rfl) rfl ?_
        refine a_iinc 13 (v15 + 1) [(15, .int (v15 + 1)), (13, .int (bI false)), (14, .int (v14 / 3)), (0, .ref (ga g 118)), (1, .int v1), (2, .int v2), (3, .int v3), (5, .int v5), (6, .int v6), (7, .int v7), (9, .int v9), (10, .int v10), (11, .int v11), (12, .int v12)] dX8_rows_198 rfl rfl (Nat.le_of_ble_eq_true rfl) rfl ?_
        refine a_goto 127 dX8_rows_201 rfl ?_
        exact a_sub [3, 4, 5, 6, 7, 8, 9, 10, 11, 12, 13, 1, 2, 0] rfl hv
      · replace hv := hv.2 hc
        refine a_iconst (v := 1) dX8_rows_191 (by decide) ?_
        refine a_goto 196 dX8_rows_192 rfl ?_
        refine a_istore [(13, .int (bI true)), (14, .int (v14 / 3)), (0, .ref (ga g 118)), (1, .int v1), (2, .int v2), (3, .int v3), (5, .int v5), (6, .int v6), (7, .int v7), (9, .int v9), (10, .int v10), (11, .int v11), (12, .int v12), (15, .int v15)] dX8_rows_196 (Nat.le_of_ble_eq_true rfl) rfl ?_
        refine a_iinc 13 (v15 + 1) [(15, .int (v15 + 1)), (13, .int (bI true)), (14, .int (v14 / 3)), (0, .ref (ga g 118)), (1, .int v1), (2, .int v2), (3, .int v3), (5, .int v5), (6, .int v6), (7, .int v7), (9, .int v9), (10, .int v10), (11, .int v11), (12, .int v12)] dX8_rows_198 rfl rfl (Nat.le_of_ble_eq_true rfl) rfl ?_
        refine a_goto 127 dX8_rows_201 rfl ?_
        exact a_sub [3, 4, 5, 6, 7, 8, 9, 10, 11, 12, 13, 1, 2, 0] rfl hv
def VC_X8_rows_106 (g : GT) (d : Nat) (v1 : Int32) (v2 : Int32) (v3 : Int32) (v5 : Int32) (v6 : Int32) (v7 : Int32) (v9 : Int32) (v10 : Int32) (v11 : Int32) (v12 : Int32) (I : IT) (J : JT) (P : Int32 → IT → JT → Prop) : Prop :=
  ((v9 ≤ v12 → ((¬ v7 = 0 → P v11 I J) ∧ (v7 = 0 → P v10 I J))) ∧ (¬ v9 ≤ v12 → (SemV g (d - 1) M_X8_tries [.ref (ga g 118)] I J (fun I114 J114 => (Lp_X8_rows_127 g d v1 v2 v3 v5 v6 v7 v9 v10 v11 v12 true v9 0 I114 J114 P)))))
set_option maxRecDepth 4000 in
theorem w_X8_rows_106 {g : GT} {d : Nat} {v1 : Int32} {v2 : Int32} {v3 : Int32} {v5 : Int32} {v6 : Int32} {v7 : Int32} {v9 : Int32} {v10 : Int32} {v11 : Int32} {v12 : Int32} {I : IT} {J : JT} {P : Int32 → IT → JT → Prop} (hd : 1 ≤ d) (hv : VC_X8_rows_106 g d v1 v2 v3 v5 v6 v7 v9 v10 v11 v12 I J P) : Lp_X8_rows_106 g d v1 v2 v3 v5 v6 v7 v9 v10 v11 v12 I J P := by
  unfold VC_X8_rows_106 at hv
  unfold Lp_X8_rows_106
  refine a_iload 10 dX8_rows_106 rfl ?_
  refine a_iload 7 dX8_rows_108 rfl ?_
  refine a_icmp_ge 244 dX8_rows_110 rfl (fun hc => ?_) (fun hc => ?_)
  · replace hv := hv.1 hc
    refine a_iload 6 dX8_rows_244 rfl ?_
    refine a_if_ne 254 dX8_rows_246 rfl (fun hc => ?_) (fun hc => ?_)
    · replace hv := hv.1 hc
      refine a_iload 9 dX8_rows_254 rfl ?_
      exact a_iret rfl dX8_rows_256 hv
    · replace hv := hv.2 hc
      refine a_iload 8 dX8_rows_249 rfl ?_
      refine a_goto 256 dX8_rows_251 rfl ?_
      exact a_iret rfl dX8_rows_256 hv
  · replace hv := hv.2 hc
    refine a_aload_n 0 dX8_rows_113 rfl rfl ?_
    refine c_VV (As := []) (rest := []) hv K_X8_194 sh_118 rfl rfl rfl (Nat.le_of_ble_eq_true rfl) (rok (by omega) (Nat.le_of_ble_eq_true rfl)) ⟨Nat.zero_le _, Nat.zero_le _⟩ dX8_rows_114 (fun I114 J114 hv => ?_)
    refine a_iconst (v := 1) dX8_rows_117 (by decide) ?_
    refine a_istore [(13, .int (bI true)), (0, .ref (ga g 118)), (1, .int v1), (2, .int v2), (3, .int v3), (5, .int v5), (6, .int v6), (7, .int v7), (9, .int v9), (10, .int v10), (11, .int v11), (12, .int v12)] dX8_rows_118 (Nat.le_of_ble_eq_true rfl) rfl ?_
    refine a_iload 8 dX8_rows_120 rfl ?_
    refine a_istore [(14, .int v9), (13, .int (bI true)), (0, .ref (ga g 118)), (1, .int v1), (2, .int v2), (3, .int v3), (5, .int v5), (6, .int v6), (7, .int v7), (9, .int v9), (10, .int v10), (11, .int v11), (12, .int v12)] dX8_rows_122 (Nat.le_of_ble_eq_true rfl) rfl ?_
    refine a_iconst (v := 0) dX8_rows_124 (by decide) ?_
    refine a_istore [(15, .int 0), (14, .int v9), (13, .int (bI true)), (0, .ref (ga g 118)), (1, .int v1), (2, .int v2), (3, .int v3), (5, .int v5), (6, .int v6), (7, .int v7), (9, .int v9), (10, .int v10), (11, .int v11), (12, .int v12)] dX8_rows_125 (Nat.le_of_ble_eq_true rfl) rfl ?_
    exact a_sub [3, 4, 5, 6, 7, 8, 9, 10, 11, 12, 13, 2, 1, 0] rfl hv
def VC_X8_rows_77 (g : GT) (d : Nat) (v1 : Int32) (v2 : Int32) (v3 : Int32) (v5 : Int32) (v6 : Int32) (v7 : Int32) (v9 : Int32) (v10 : Int32) (I : IT) (J : JT) (P : Int32 → IT → JT → Prop) : Prop :=
  ((v6 ≤ v10 → (Lp_X8_rows_106 g d v1 v2 v3 v5 v6 v7 v9 0 (-4) 0 I J P)) ∧ (¬ v6 ≤ v10 → (Lp_X8_rows_77 g d v1 v2 v3 v5 v6 v7 (v9 * 3) (v10 + 1) I J P)))
set_option maxRecDepth 4000 in
theorem w_X8_rows_77 {g : GT} {d : Nat} {v1 : Int32} {v2 : Int32} {v3 : Int32} {v5 : Int32} {v6 : Int32} {v7 : Int32} {v9 : Int32} {v10 : Int32} {I : IT} {J : JT} {P : Int32 → IT → JT → Prop} (hv : VC_X8_rows_77 g d v1 v2 v3 v5 v6 v7 v9 v10 I J P) : Lp_X8_rows_77 g d v1 v2 v3 v5 v6 v7 v9 v10 I J P := by
  unfold VC_X8_rows_77 at hv
  unfold Lp_X8_rows_77
  refine a_iload 8 dX8_rows_77 rfl ?_
  refine a_iload 5 dX8_rows_79 rfl ?_
  refine a_icmp_ge 96 dX8_rows_81 rfl (fun hc => ?_) (fun hc => ?_)
  · replace hv := hv.1 hc
    refine a_iconst (v := 0) dX8_rows_96 (by decide) ?_
    refine a_istore [(10, .int 0), (0, .ref (ga g 118)), (1, .int v1), (2, .int v2), (3, .int v3), (5, .int v5), (6, .int v6), (7, .int v7), (9, .int v9)] dX8_rows_97 (Nat.le_of_ble_eq_true rfl) rfl ?_
    refine a_bipush (v := (-4)) dX8_rows_99 (by decide) ?_
    refine a_istore [(11, .int (-4)), (10, .int 0), (0, .ref (ga g 118)), (1, .int v1), (2, .int v2), (3, .int v3), (5, .int v5), (6, .int v6), (7, .int v7), (9, .int v9)] dX8_rows_101 (Nat.le_of_ble_eq_true rfl) rfl ?_
    refine a_iconst (v := 0) dX8_rows_103 (by decide) ?_
    refine a_istore [(12, .int 0), (11, .int (-4)), (10, .int 0), (0, .ref (ga g 118)), (1, .int v1), (2, .int v2), (3, .int v3), (5, .int v5), (6, .int v6), (7, .int v7), (9, .int v9)] dX8_rows_104 (Nat.le_of_ble_eq_true rfl) rfl ?_
    exact a_sub [3, 4, 5, 6, 7, 8, 9, 10, 2, 1, 0] rfl hv
  · replace hv := hv.2 hc
    refine a_iload 7 dX8_rows_84 rfl ?_
    refine a_iconst (v := 3) dX8_rows_86 (by decide) ?_
    refine a_imul dX8_rows_87 ?_
    refine a_istore [(9, .int (v9 * 3)), (0, .ref (ga g 118)), (1, .int v1), (2, .int v2), (3, .int v3), (5, .int v5), (6, .int v6), (7, .int v7), (10, .int v10)] dX8_rows_88 (Nat.le_of_ble_eq_true rfl) rfl ?_
    refine a_iinc 8 (v10 + 1) [(10, .int (v10 + 1)), (9, .int (v9 * 3)), (0, .ref (ga g 118)), (1, .int v1), (2, .int v2), (3, .int v3), (5, .int v5), (6, .int v6), (7, .int v7)] dX8_rows_90 rfl rfl (Nat.le_of_ble_eq_true rfl) rfl ?_
    refine a_goto 77 dX8_rows_93 rfl ?_
    exact a_sub [2, 3, 4, 5, 6, 7, 8, 1, 0] rfl hv
def VC_X8_rows (g : GT) (d : Nat) (v1 : Int32) (v2 : Int32) (v3 : Int32) (v4 : Int32) (v5 : Int32) (v6 : Int32) (v7 : Int32) (I : IT) (J : JT) (P : Int32 → IT → JT → Prop) : Prop :=
  (SemZ g (d - 1) M_X8_isShip [.ref (ga g 118), .int v1] I J (fun r2 I2 J2 => ((r2 = false → P (-1) I2 J2) ∧ (r2 = true → (SemZ g (d - 1) M_X8_isTeller [.int v2] I2 J2 (fun r9 I9 J9 => ((r9 = false → P (-1) I9 J9) ∧ (r9 = true → (SemZ g (d - 1) M_X8_isLane [.int v3, .int v4] I9 J9 (fun r18 I18 J18 => ((r18 = false → P (-1) I18 J18) ∧ (r18 = true → (SemZ g (d - 1) M_X8_in [.long (v6.toInt64), .long 1, .long 6] I18 J18 (fun r31 I31 J31 => ((r31 = false → P (-1) I31 J31) ∧ (r31 = true → (SemZ g (d - 1) M_X8_in [.long (v7.toInt64), .long 0, .long 1] I31 J31 (fun r42 I42 J42 => ((r42 = true → (SemI g (d - 1) M_X8_against [.ref (ga g 118), .int v3, .int v4, .int v5, .int v6] I42 J42 (fun r58 I58 J58 => ((0 ≤ r58 → (Lp_X8_rows_77 g d v1 v2 v3 v5 v6 v7 1 0 I58 J58 P)) ∧ (¬ 0 ≤ r58 → P r58 I58 J58))))) ∧ (r42 = false → P (-1) I42 J42))))))))))))))))))))
set_option maxRecDepth 4000 in
theorem w_X8_rows {g : GT} {d : Nat} {v1 : Int32} {v2 : Int32} {v3 : Int32} {v4 : Int32} {v5 : Int32} {v6 : Int32} {v7 : Int32} {I : IT} {J : JT} {P : Int32 → IT → JT → Prop} (hd : 1 ≤ d) (hv : VC_X8_rows g d v1 v2 v3 v4 v5 v6 v7 I J P) : SemI g d M_X8_rows [.ref (ga g 118), .int v1, .int v2, .int v3, .int v4, .int v5, .int v6, .int v7] I J P := by
  unfold VC_X8_rows at hv
  refine sem_intro (by decide +kernel) rfl (Nat.le_of_ble_eq_true rfl) ?_
  show AW _ 0 0 0 [(0, .ref (ga g 118)), (1, .int v1), (2, .int v2), (3, .int v3), (4, .int v4), (5, .int v5), (6, .int v6), (7, .int v7)] [] (cW g I J)
  refine a_aload_n 0 dX8_rows_0 rfl rfl ?_
  refine a_iload_n 1 dX8_rows_1 rfl rfl ?_
  refine c_VZ (As := [.int v1]) (rest := []) hv K_X8_103 sh_118 rfl rfl rfl (Nat.le_of_ble_eq_true rfl) (rok (by omega) (Nat.le_of_ble_eq_true rfl)) ⟨Nat.zero_le _, Nat.zero_le _⟩ dX8_rows_2 (fun r2 I2 J2 hv => ?_)
  refine a_ifz_eq 48 dX8_rows_5 rfl (fun hc => ?_) (fun hc => ?_)
  · replace hv := hv.1 hc
    refine a_iconst (v := (-1)) dX8_rows_48 (by decide) ?_
    exact a_iret rfl dX8_rows_49 hv
  · replace hv := hv.2 hc
    refine a_iload_n 2 dX8_rows_8 rfl rfl ?_
    refine c_SZ (As := [.int v2]) (rest := []) hv K_X8_118 rfl rfl (Nat.le_of_ble_eq_true rfl) (rok (by omega) (Nat.le_of_ble_eq_true rfl)) ⟨Nat.zero_le _, Nat.zero_le _⟩ dX8_rows_9 (fun r9 I9 J9 hv => ?_)
    refine a_ifz_eq 48 dX8_rows_12 rfl (fun hc => ?_) (fun hc => ?_)
    · replace hv := hv.1 hc
      refine a_iconst (v := (-1)) dX8_rows_48 (by decide) ?_
      exact a_iret rfl dX8_rows_49 hv
    · replace hv := hv.2 hc
      refine a_iload_n 3 dX8_rows_15 rfl rfl ?_
      refine a_iload 4 dX8_rows_16 rfl ?_
      refine c_SZ (As := [.int v3, .int v4]) (rest := []) hv K_X8_224 rfl rfl (Nat.le_of_ble_eq_true rfl) (rok (by omega) (Nat.le_of_ble_eq_true rfl)) ⟨Nat.zero_le _, Nat.zero_le _⟩ dX8_rows_18 (fun r18 I18 J18 hv => ?_)
      refine a_ifz_eq 48 dX8_rows_21 rfl (fun hc => ?_) (fun hc => ?_)
      · replace hv := hv.1 hc
        refine a_iconst (v := (-1)) dX8_rows_48 (by decide) ?_
        exact a_iret rfl dX8_rows_49 hv
      · replace hv := hv.2 hc
        refine a_iload 6 dX8_rows_24 rfl ?_
        refine a_i2l dX8_rows_26 ?_
        refine a_lconst (v := 1) dX8_rows_27 (by decide) ?_
        refine a_ldc2 (v := 6) dX8_rows_28 cl_X8_242 ?_
        refine c_SZ (As := [.long (v6.toInt64), .long 1, .long 6]) (rest := []) hv K_X8_44 rfl rfl (Nat.le_of_ble_eq_true rfl) (rok (by omega) (Nat.le_of_ble_eq_true rfl)) ⟨Nat.zero_le _, Nat.zero_le _⟩ dX8_rows_31 (fun r31 I31 J31 hv => ?_)
        refine a_ifz_eq 48 dX8_rows_34 rfl (fun hc => ?_) (fun hc => ?_)
        · replace hv := hv.1 hc
          refine a_iconst (v := (-1)) dX8_rows_48 (by decide) ?_
          exact a_iret rfl dX8_rows_49 hv
        · replace hv := hv.2 hc
          refine a_iload 7 dX8_rows_37 rfl ?_
          refine a_i2l dX8_rows_39 ?_
          refine a_lconst (v := 0) dX8_rows_40 (by decide) ?_
          refine a_lconst (v := 1) dX8_rows_41 (by decide) ?_
          refine c_SZ (As := [.long (v7.toInt64), .long 0, .long 1]) (rest := []) hv K_X8_44 rfl rfl (Nat.le_of_ble_eq_true rfl) (rok (by omega) (Nat.le_of_ble_eq_true rfl)) ⟨Nat.zero_le _, Nat.zero_le _⟩ dX8_rows_42 (fun r42 I42 J42 hv => ?_)
          refine a_ifz_ne 50 dX8_rows_45 rfl (fun hc => ?_) (fun hc => ?_)
          · replace hv := hv.1 hc
            refine a_aload_n 0 dX8_rows_50 rfl rfl ?_
            refine a_iload_n 3 dX8_rows_51 rfl rfl ?_
            refine a_iload 4 dX8_rows_52 rfl ?_
            refine a_iload 5 dX8_rows_54 rfl ?_
            refine a_iload 6 dX8_rows_56 rfl ?_
            refine c_VI (As := [.int v3, .int v4, .int v5, .int v6]) (rest := []) hv K_X8_229 sh_118 rfl rfl rfl (Nat.le_of_ble_eq_true rfl) (rok (by omega) (Nat.le_of_ble_eq_true rfl)) ⟨Nat.zero_le _, Nat.zero_le _⟩ dX8_rows_58 (fun r58 I58 J58 hv => ?_)
            refine a_istore [(8, .int r58), (0, .ref (ga g 118)), (1, .int v1), (2, .int v2), (3, .int v3), (4, .int v4), (5, .int v5), (6, .int v6), (7, .int v7)] dX8_rows_61 (Nat.le_of_ble_eq_true rfl) rfl ?_
            refine a_iload 0 dX8_rows_63 rfl ?_
            refine a_if_ge 71 dX8_rows_65 rfl (fun hc => ?_) (fun hc => ?_)
            · replace hv := hv.1 hc
              refine a_iconst (v := 1) dX8_rows_71 (by decide) ?_
              refine a_istore [(9, .int 1), (8, .int r58), (0, .ref (ga g 118)), (1, .int v1), (2, .int v2), (3, .int v3), (4, .int v4), (5, .int v5), (6, .int v6), (7, .int v7)] dX8_rows_72 (Nat.le_of_ble_eq_true rfl) rfl ?_
              refine a_iconst (v := 0) dX8_rows_74 (by decide) ?_
              refine a_istore [(10, .int 0), (9, .int 1), (8, .int r58), (0, .ref (ga g 118)), (1, .int v1), (2, .int v2), (3, .int v3), (4, .int v4), (5, .int v5), (6, .int v6), (7, .int v7)] dX8_rows_75 (Nat.le_of_ble_eq_true rfl) rfl ?_
              exact a_sub [3, 4, 5, 6, 8, 9, 10, 1, 0] rfl hv
            · replace hv := hv.2 hc
              refine a_iload 0 dX8_rows_68 rfl ?_
              exact a_iret rfl dX8_rows_70 hv
          · replace hv := hv.2 hc
            refine a_iconst (v := (-1)) dX8_rows_48 (by decide) ?_
            exact a_iret rfl dX8_rows_49 hv
def Lp_X8_isSo_21 (g : GT) (d : Nat) (v1 : Int32) (v2 : Int32) (v4 : Int32) (v5 : Int32) (b6 : Bool) (v7 : Int32) (I : IT) (J : JT) (P : Bool → IT → JT → Prop) : Prop := AW (kM g d M_X8_isSo 0 0 (qZ g P)) 0 0 21 [(0, .ref (ga g 118)), (1, .int v1), (2, .int v2), (4, .int v4), (5, .int v5), (6, .int (bI b6)), (7, .int v7)] [] (cW g I J)
def VC_X8_isSo_21 (g : GT) (d : Nat) (v1 : Int32) (v2 : Int32) (v4 : Int32) (v5 : Int32) (b6 : Bool) (v7 : Int32) (I : IT) (J : JT) (P : Bool → IT → JT → Prop) : Prop :=
  ((v5 ≤ v7 → P b6 I J) ∧ (¬ v5 ≤ v7 → ((b6 = false → P b6 I J) ∧ (b6 = true → (vp_in (v4 + (2 * v7)) 96 ∧ (SemV g (d - 1) M_X8_says [.ref (ga g 118), .int 320, .int v1, .int v2, .int ((J 121 (v4 + (2 * v7)).toNatClampNeg).toInt32)] I J (fun I52 J52 => (vp_in (378 + v1) 952 ∧ (vp_in ((v4 + (2 * v7)) + 1) 96 ∧ ((¬ ((I52 119 (378 + v1).toNatClampNeg).toInt64) = (J52 121 ((v4 + (2 * v7)) + 1).toNatClampNeg) → (Lp_X8_isSo_21 g d v1 v2 v4 v5 false (v7 + 1) I52 J52 P)) ∧ (((I52 119 (378 + v1).toNatClampNeg).toInt64) = (J52 121 ((v4 + (2 * v7)) + 1).toNatClampNeg) → (Lp_X8_isSo_21 g d v1 v2 v4 v5 true (v7 + 1) I52 J52 P))))))))))))
set_option maxRecDepth 4000 in
theorem w_X8_isSo_21 {g : GT} {d : Nat} {v1 : Int32} {v2 : Int32} {v4 : Int32} {v5 : Int32} {b6 : Bool} {v7 : Int32} {I : IT} {J : JT} {P : Bool → IT → JT → Prop} (hd : 1 ≤ d) (hv : VC_X8_isSo_21 g d v1 v2 v4 v5 b6 v7 I J P) : Lp_X8_isSo_21 g d v1 v2 v4 v5 b6 v7 I J P := by
  unfold VC_X8_isSo_21 at hv
  unfold Lp_X8_isSo_21
  refine a_iload 6 dX8_isSo_21 rfl ?_
  refine a_iload 4 dX8_isSo_23 rfl ?_
  refine a_icmp_ge 97 dX8_isSo_25 rfl (fun hc => ?_) (fun hc => ?_)
  · replace hv := hv.1 hc
    refine a_iload 5 dX8_isSo_97 rfl ?_
    exact a_zret _ b6 rfl rfl dX8_isSo_99 hv
  · replace hv := hv.2 hc
    refine a_iload 5 dX8_isSo_28 rfl ?_
    refine a_ifz_eq 97 dX8_isSo_30 rfl (fun hc => ?_) (fun hc => ?_)
    · replace hv := hv.1 hc
      refine a_iload 5 dX8_isSo_97 rfl ?_
      exact a_zret _ b6 rfl rfl dX8_isSo_99 hv
    · replace hv := hv.2 hc
      refine a_aload_n 0 dX8_isSo_33 rfl rfl ?_
      refine a_sipush (v := 320) dX8_isSo_34 (by decide) ?_
      refine a_iload_n 1 dX8_isSo_37 rfl rfl ?_
      refine a_iload_n 2 dX8_isSo_38 rfl rfl ?_
      refine a_aload_n 0 dX8_isSo_39 rfl rfl ?_
      refine a_getR (r := 121) G_X8_16 sh_118 rfl dX8_isSo_40 ?_
      refine a_iload 3 dX8_isSo_43 rfl ?_
      refine a_iconst (v := 2) dX8_isSo_45 (by decide) ?_
      refine a_iload 6 dX8_isSo_46 rfl ?_
      refine a_imul dX8_isSo_48 ?_
      refine a_iadd dX8_isSo_49 ?_
      refine a_lald sh_121 hv.1 dX8_isSo_50 ?_
      replace hv := hv.2
      refine a_l2i dX8_isSo_51 ?_
      refine c_VV (As := [.int 320, .int v1, .int v2, .int ((J 121 (v4 + (2 * v7)).toNatClampNeg).toInt32)]) (rest := []) hv K_X8_157 sh_118 rfl rfl rfl (Nat.le_of_ble_eq_true rfl) (rok (by omega) (Nat.le_of_ble_eq_true rfl)) ⟨Nat.zero_le _, Nat.zero_le _⟩ dX8_isSo_52 (fun I52 J52 hv => ?_)
      refine a_aload_n 0 dX8_isSo_55 rfl rfl ?_
      refine a_getR (r := 119) G_X8_7 sh_118 rfl dX8_isSo_56 ?_
      refine a_sipush (v := 378) dX8_isSo_59 (by decide) ?_
      refine a_iload_n 1 dX8_isSo_62 rfl rfl ?_
      refine a_iadd dX8_isSo_63 ?_
      refine a_iald sh_119 hv.1 dX8_isSo_64 ?_
      replace hv := hv.2
      refine a_i2l dX8_isSo_65 ?_
      refine a_aload_n 0 dX8_isSo_66 rfl rfl ?_
      refine a_getR (r := 121) G_X8_16 sh_118 rfl dX8_isSo_67 ?_
      refine a_iload 3 dX8_isSo_70 rfl ?_
      refine a_iconst (v := 2) dX8_isSo_72 (by decide) ?_
      refine a_iload 6 dX8_isSo_73 rfl ?_
      refine a_imul dX8_isSo_75 ?_
      refine a_iadd dX8_isSo_76 ?_
      refine a_iconst (v := 1) dX8_isSo_77 (by decide) ?_
      refine a_iadd dX8_isSo_78 ?_
      refine a_lald sh_121 hv.1 dX8_isSo_79 ?_
      replace hv := hv.2
      refine a_lcmp dX8_isSo_80 ?_
      refine a_lcmp_ne 88 dX8_isSo_81 rfl (fun hc => ?_) (fun hc => ?_)
      · replace hv := hv.1 hc
        refine a_iconst (v := 0) dX8_isSo_88 (by decide) ?_
        refine a_istore [(6, .int (bI false)), (0, .ref (ga g 118)), (1, .int v1), (2, .int v2), (4, .int v4), (5, .int v5), (7, .int v7)] dX8_isSo_89 (Nat.le_of_ble_eq_true rfl) rfl ?_
        refine a_iinc 6 (v7 + 1) [(7, .int (v7 + 1)), (6, .int (bI false)), (0, .ref (ga g 118)), (1, .int v1), (2, .int v2), (4, .int v4), (5, .int v5)] dX8_isSo_91 rfl rfl (Nat.le_of_ble_eq_true rfl) rfl ?_
        refine a_goto 21 dX8_isSo_94 rfl ?_
        exact a_sub [2, 3, 4, 5, 6, 1, 0] rfl hv
      · replace hv := hv.2 hc
        refine a_iconst (v := 1) dX8_isSo_84 (by decide) ?_
        refine a_goto 89 dX8_isSo_85 rfl ?_
        refine a_istore [(6, .int (bI true)), (0, .ref (ga g 118)), (1, .int v1), (2, .int v2), (4, .int v4), (5, .int v5), (7, .int v7)] dX8_isSo_89 (Nat.le_of_ble_eq_true rfl) rfl ?_
        refine a_iinc 6 (v7 + 1) [(7, .int (v7 + 1)), (6, .int (bI true)), (0, .ref (ga g 118)), (1, .int v1), (2, .int v2), (4, .int v4), (5, .int v5)] dX8_isSo_91 rfl rfl (Nat.le_of_ble_eq_true rfl) rfl ?_
        refine a_goto 21 dX8_isSo_94 rfl ?_
        exact a_sub [2, 3, 4, 5, 6, 1, 0] rfl hv
def VC_X8_isSo (g : GT) (d : Nat) (v1 : Int32) (v2 : Int32) (v3 : Int32) (v4 : Int32) (v5 : Int32) (I : IT) (J : JT) (P : Bool → IT → JT → Prop) : Prop :=
  (SemV g (d - 1) M_X8_tries [.ref (ga g 118)] I J (fun I1 J1 => (vp_in (371 + v1) 952 ∧ (Lp_X8_isSo_21 g d v1 v2 v4 v5 true 0 (sI I1 119 (371 + v1).toNatClampNeg v3) J1 P))))
set_option maxRecDepth 4000 in
theorem w_X8_isSo {g : GT} {d : Nat} {v1 : Int32} {v2 : Int32} {v3 : Int32} {v4 : Int32} {v5 : Int32} {I : IT} {J : JT} {P : Bool → IT → JT → Prop} (hd : 1 ≤ d) (hv : VC_X8_isSo g d v1 v2 v3 v4 v5 I J P) : SemZ g d M_X8_isSo [.ref (ga g 118), .int v1, .int v2, .int v3, .int v4, .int v5] I J P := by
  unfold VC_X8_isSo at hv
  refine sem_intro (by decide +kernel) rfl (Nat.le_of_ble_eq_true rfl) ?_
  show AW _ 0 0 0 [(0, .ref (ga g 118)), (1, .int v1), (2, .int v2), (3, .int v3), (4, .int v4), (5, .int v5)] [] (cW g I J)
  refine a_aload_n 0 dX8_isSo_0 rfl rfl ?_
  refine c_VV (As := []) (rest := []) hv K_X8_194 sh_118 rfl rfl rfl (Nat.le_of_ble_eq_true rfl) (rok (by omega) (Nat.le_of_ble_eq_true rfl)) ⟨Nat.zero_le _, Nat.zero_le _⟩ dX8_isSo_1 (fun I1 J1 hv => ?_)
  refine a_aload_n 0 dX8_isSo_4 rfl rfl ?_
  refine a_getR (r := 119) G_X8_7 sh_118 rfl dX8_isSo_5 ?_
  refine a_sipush (v := 371) dX8_isSo_8 (by decide) ?_
  refine a_iload_n 1 dX8_isSo_11 rfl rfl ?_
  refine a_iadd dX8_isSo_12 ?_
  refine a_iload_n 3 dX8_isSo_13 rfl rfl ?_
  refine a_iast sh_119 hv.1 dX8_isSo_14 ?_
  replace hv := hv.2
  refine a_iconst (v := 1) dX8_isSo_15 (by decide) ?_
  refine a_istore [(6, .int (bI true)), (0, .ref (ga g 118)), (1, .int v1), (2, .int v2), (3, .int v3), (4, .int v4), (5, .int v5)] dX8_isSo_16 (Nat.le_of_ble_eq_true rfl) rfl ?_
  refine a_iconst (v := 0) dX8_isSo_18 (by decide) ?_
  refine a_istore [(7, .int 0), (6, .int (bI true)), (0, .ref (ga g 118)), (1, .int v1), (2, .int v2), (3, .int v3), (4, .int v4), (5, .int v5)] dX8_isSo_19 (Nat.le_of_ble_eq_true rfl) rfl ?_
  exact a_sub [2, 3, 4, 6, 7, 1, 0] rfl hv
def Lp_X8_bestTry_11 (g : GT) (d : Nat) (v1 : Int32) (v2 : Int32) (v3 : Int32) (v4 : Int32) (v5 : Int32) (v6 : Int32) (v7 : Int32) (v8 : Int32) (I : IT) (J : JT) (P : Int32 → IT → JT → Prop) : Prop := AW (kM g d M_X8_bestTry 0 0 (qI g P)) 0 0 11 [(0, .ref (ga g 118)), (1, .int v1), (2, .int v2), (3, .int v3), (4, .int v4), (5, .int v5), (6, .int v6), (7, .int v7), (8, .int v8)] [] (cW g I J)
def Lp_X8_bestTry_25 (g : GT) (d : Nat) (v1 : Int32) (v2 : Int32) (v3 : Int32) (v4 : Int32) (v5 : Int32) (v6 : Int32) (v7 : Int32) (v8 : Int32) (v9 : Int32) (I : IT) (J : JT) (P : Int32 → IT → JT → Prop) : Prop := AW (kM g d M_X8_bestTry 0 0 (qI g P)) 0 0 25 [(0, .ref (ga g 118)), (1, .int v1), (2, .int v2), (3, .int v3), (4, .int v4), (5, .int v5), (6, .int v6), (7, .int v7), (8, .int v8), (9, .int v9)] [] (cW g I J)
def Lp_X8_bestTry_103 (g : GT) (d : Nat) (v1 : Int32) (v2 : Int32) (v3 : Int32) (v4 : Int32) (v5 : Int32) (v6 : Int32) (v7 : Int32) (v8 : Int32) (v9 : Int32) (v10 : Int32) (I : IT) (J : JT) (P : Int32 → IT → JT → Prop) : Prop := AW (kM g d M_X8_bestTry 0 0 (qI g P)) 0 0 103 [(0, .ref (ga g 118)), (1, .int v1), (2, .int v2), (3, .int v3), (4, .int v4), (5, .int v5), (6, .int v6), (7, .int v7), (8, .int v8), (9, .int v9), (10, .int v10)] [] (cW g I J)
def Lp_X8_bestTry_115 (g : GT) (d : Nat) (v1 : Int32) (v2 : Int32) (v3 : Int32) (v4 : Int32) (v5 : Int32) (v6 : Int32) (v7 : Int32) (v8 : Int32) (v9 : Int32) (v10 : Int32) (v11 : Int32) (v12 : Int32) (I : IT) (J : JT) (P : Int32 → IT → JT → Prop) : Prop := AW (kM g d M_X8_bestTry 0 0 (qI g P)) 0 0 115 [(0, .ref (ga g 118)), (1, .int v1), (2, .int v2), (3, .int v3), (4, .int v4), (5, .int v5), (6, .int v6), (7, .int v7), (8, .int v8), (9, .int v9), (10, .int v10), (11, .int v11), (12, .int v12)] [] (cW g I J)
def VC_X8_bestTry_115 (g : GT) (d : Nat) (v1 : Int32) (v2 : Int32) (v3 : Int32) (v4 : Int32) (v5 : Int32) (v6 : Int32) (v7 : Int32) (v8 : Int32) (v9 : Int32) (v10 : Int32) (v11 : Int32) (v12 : Int32) (I : IT) (J : JT) (P : Int32 → IT → JT → Prop) : Prop :=
  ((5 < v12 → ((v11 ≤ v9 → (Lp_X8_bestTry_103 g d v1 v2 v3 v4 v5 v6 v7 v8 v9 (v10 + 1) I J P)) ∧ (¬ v11 ≤ v9 → (Lp_X8_bestTry_103 g d v1 v2 v3 v4 v5 v6 v7 v8 v11 (v10 + 1) I J P)))) ∧ (¬ 5 < v12 → (SemZ g (d - 1) M_X8_has [.int v5, .int v10] I J (fun r127 I127 J127 => ((r127 = false → (Lp_X8_bestTry_115 g d v1 v2 v3 v4 v5 v6 v7 v8 v9 v10 (v11 + 0) (v12 + 1) I127 J127 P)) ∧ (r127 = true → (SemZ g (d - 1) M_X8_has [.int v5, .int v12] I127 J127 (fun r137 I137 J137 => ((r137 = false → (Lp_X8_bestTry_115 g d v1 v2 v3 v4 v5 v6 v7 v8 v9 v10 (v11 + 0) (v12 + 1) I137 J137 P)) ∧ (r137 = true → (vp_in v10 6 ∧ (vp_in v12 6 ∧ ((¬ (I137 129 v10.toNatClampNeg) = (I137 129 v12.toNatClampNeg) → (Lp_X8_bestTry_115 g d v1 v2 v3 v4 v5 v6 v7 v8 v9 v10 (v11 + 0) (v12 + 1) I137 J137 P)) ∧ ((I137 129 v10.toNatClampNeg) = (I137 129 v12.toNatClampNeg) → (Lp_X8_bestTry_115 g d v1 v2 v3 v4 v5 v6 v7 v8 v9 v10 (v11 + 1) (v12 + 1) I137 J137 P)))))))))))))))
set_option maxRecDepth 4000 in
theorem w_X8_bestTry_115 {g : GT} {d : Nat} {v1 : Int32} {v2 : Int32} {v3 : Int32} {v4 : Int32} {v5 : Int32} {v6 : Int32} {v7 : Int32} {v8 : Int32} {v9 : Int32} {v10 : Int32} {v11 : Int32} {v12 : Int32} {I : IT} {J : JT} {P : Int32 → IT → JT → Prop} (hd : 1 ≤ d) (hv : VC_X8_bestTry_115 g d v1 v2 v3 v4 v5 v6 v7 v8 v9 v10 v11 v12 I J P) : Lp_X8_bestTry_115 g d v1 v2 v3 v4 v5 v6 v7 v8 v9 v10 v11 v12 I J P := by
  unfold VC_X8_bestTry_115 at hv
  unfold Lp_X8_bestTry_115
  refine a_iload 12 dX8_bestTry_115 rfl ?_
  refine a_iconst (v := 5) dX8_bestTry_117 (by decide) ?_
  refine a_icmp_gt 174 dX8_bestTry_118 rfl (fun hc => ?_) (fun hc => ?_)
  · replace hv := hv.1 hc
    refine a_iload 11 dX8_bestTry_174 rfl ?_
    refine a_iload 9 dX8_bestTry_176 rfl ?_
    refine a_icmp_le 186 dX8_bestTry_178 rfl (fun hc => ?_) (fun hc => ?_)
    · replace hv := hv.1 hc
      refine a_iload 9 dX8_bestTry_186 rfl ?_
      refine a_istore [(9, .int v9), (0, .ref (ga g 118)), (1, .int v1), (2, .int v2), (3, .int v3), (4, .int v4), (5, .int v5), (6, .int v6), (7, .int v7), (8, .int v8), (10, .int v10), (11, .int v11), (12, .int v12)] dX8_bestTry_188 (Nat.le_of_ble_eq_true rfl) rfl ?_
      refine a_iinc 10 (v10 + 1) [(10, .int (v10 + 1)), (9, .int v9), (0, .ref (ga g 118)), (1, .int v1), (2, .int v2), (3, .int v3), (4, .int v4), (5, .int v5), (6, .int v6), (7, .int v7), (8, .int v8), (11, .int v11), (12, .int v12)] dX8_bestTry_190 rfl rfl (Nat.le_of_ble_eq_true rfl) rfl ?_
      refine a_goto 103 dX8_bestTry_193 rfl ?_
      exact a_sub [2, 3, 4, 5, 6, 7, 8, 9, 10, 1, 0] rfl hv
    · replace hv := hv.2 hc
      refine a_iload 11 dX8_bestTry_181 rfl ?_
      refine a_goto 188 dX8_bestTry_183 rfl ?_
      refine a_istore [(9, .int v11), (0, .ref (ga g 118)), (1, .int v1), (2, .int v2), (3, .int v3), (4, .int v4), (5, .int v5), (6, .int v6), (7, .int v7), (8, .int v8), (10, .int v10), (11, .int v11), (12, .int v12)] dX8_bestTry_188 (Nat.le_of_ble_eq_true rfl) rfl ?_
      refine a_iinc 10 (v10 + 1) [(10, .int (v10 + 1)), (9, .int v11), (0, .ref (ga g 118)), (1, .int v1), (2, .int v2), (3, .int v3), (4, .int v4), (5, .int v5), (6, .int v6), (7, .int v7), (8, .int v8), (11, .int v11), (12, .int v12)] dX8_bestTry_190 rfl rfl (Nat.le_of_ble_eq_true rfl) rfl ?_
      refine a_goto 103 dX8_bestTry_193 rfl ?_
      exact a_sub [2, 3, 4, 5, 6, 7, 8, 9, 10, 1, 0] rfl hv
  · replace hv := hv.2 hc
    refine a_iload 11 dX8_bestTry_121 rfl ?_
    refine a_iload 5 dX8_bestTry_123 rfl ?_
    refine a_iload 10 dX8_bestTry_125 rfl ?_
    refine c_SZ (As := [.int v5, .int v10]) (rest := [.int v11]) hv K_X8_174 rfl rfl (Nat.le_of_ble_eq_true rfl) (rok (by omega) (Nat.le_of_ble_eq_true rfl)) ⟨Nat.zero_le _, Nat.zero_le _⟩ dX8_bestTry_127 (fun r127 I127 J127 hv => ?_)
    refine a_ifz_eq 164 dX8_bestTry_130 rfl (fun hc => ?_) (fun hc => ?_)
    · replace hv := hv.1 hc
      refine a_iconst (v := 0) dX8_bestTry_164 (by decide) ?_
      refine a_iadd dX8_bestTry_165 ?_
      refine a_istore [(11, .int (v11 + 0)), (0, .ref (ga g 118)), (1, .int v1), (2, .int v2), (3, .int v3), (4, .int v4), (5, .int v5), (6, .int v6), (7, .int v7), (8, .int v8), (9, .int v9), (10, .int v10), (12, .int v12)] dX8_bestTry_166 (Nat.le_of_ble_eq_true rfl) rfl ?_
      refine a_iinc 12 (v12 + 1) [(12, .int (v12 + 1)), (11, .int (v11 + 0)), (0, .ref (ga g 118)), (1, .int v1), (2, .int v2), (3, .int v3), (4, .int v4), (5, .int v5), (6, .int v6), (7, .int v7), (8, .int v8), (9, .int v9), (10, .int v10)] dX8_bestTry_168 rfl rfl (Nat.le_of_ble_eq_true rfl) rfl ?_
      refine a_goto 115 dX8_bestTry_171 rfl ?_
      exact a_sub [2, 3, 4, 5, 6, 7, 8, 9, 10, 11, 12, 1, 0] rfl hv
    · replace hv := hv.2 hc
      refine a_iload 5 dX8_bestTry_133 rfl ?_
      refine a_iload 12 dX8_bestTry_135 rfl ?_
      refine c_SZ (As := [.int v5, .int v12]) (rest := [.int v11]) hv K_X8_174 rfl rfl (Nat.le_of_ble_eq_true rfl) (rok (by omega) (Nat.le_of_ble_eq_true rfl)) ⟨Nat.zero_le _, Nat.zero_le _⟩ dX8_bestTry_137 (fun r137 I137 J137 hv => ?_)
      refine a_ifz_eq 164 dX8_bestTry_140 rfl (fun hc => ?_) (fun hc => ?_)
      · replace hv := hv.1 hc
        refine a_iconst (v := 0) dX8_bestTry_164 (by decide) ?_
        refine a_iadd dX8_bestTry_165 ?_
        refine a_istore [(11, .int (v11 + 0)), (0, .ref (ga g 118)), (1, .int v1), (2, .int v2), (3, .int v3), (4, .int v4), (5, .int v5), (6, .int v6), (7, .int v7), (8, .int v8), (9, .int v9), (10, .int v10), (12, .int v12)] dX8_bestTry_166 (Nat.le_of_ble_eq_true rfl) rfl ?_
        refine a_iinc 12 (v12 + 1) [(12, .int (v12 + 1)), (11, .int (v11 + 0)), (0, .ref (ga g 118)), (1, .int v1), (2, .int v2), (3, .int v3), (4, .int v4), (5, .int v5), (6, .int v6), (7, .int v7), (8, .int v8), (9, .int v9), (10, .int v10)] dX8_bestTry_168 rfl rfl (Nat.le_of_ble_eq_true rfl) rfl ?_
        refine a_goto 115 dX8_bestTry_171 rfl ?_
        exact a_sub [2, 3, 4, 5, 6, 7, 8, 9, 10, 11, 12, 1, 0] rfl hv
      · replace hv := hv.2 hc
        refine a_aload_n 0 dX8_bestTry_143 rfl rfl ?_
        refine a_getR (r := 129) G_X8_41 sh_118 rfl dX8_bestTry_144 ?_
        refine a_iload 10 dX8_bestTry_147 rfl ?_
        refine a_iald sh_129 hv.1 dX8_bestTry_149 ?_
        replace hv := hv.2
        refine a_aload_n 0 dX8_bestTry_150 rfl rfl ?_
        refine a_getR (r := 129) G_X8_41 sh_118 rfl dX8_bestTry_151 ?_
        refine a_iload 12 dX8_bestTry_154 rfl ?_
        refine a_iald sh_129 hv.1 dX8_bestTry_156 ?_
        replace hv := hv.2
        refine a_icmp_ne 164 dX8_bestTry_157 rfl (fun hc => ?_) (fun hc => ?_)
        · replace hv := hv.1 hc
          refine a_iconst (v := 0) dX8_bestTry_164 (by decide) ?_
          refine a_iadd dX8_bestTry_165 ?_
          refine a_istore [(11, .int (v11 + 0)), (0, .ref (ga g 118)), (1, .int v1), (2, .int v2), (3, .int v3), (4, .int v4), (5, .int v5), (6, .int v6), (7, .int v7), (8, .int v8), (9, .int v9), (10, .int v10), (12, .int v12)] dX8_bestTry_166 (Nat.le_of_ble_eq_true rfl) rfl ?_
          refine a_iinc 12 (v12 + 1) [(12, .int (v12 + 1)), (11, .int (v11 + 0)), (0, .ref (ga g 118)), (1, .int v1), (2, .int v2), (3, .int v3), (4, .int v4), (5, .int v5), (6, .int v6), (7, .int v7), (8, .int v8), (9, .int v9), (10, .int v10)] dX8_bestTry_168 rfl rfl (Nat.le_of_ble_eq_true rfl) rfl ?_
          refine a_goto 115 dX8_bestTry_171 rfl ?_
          exact a_sub [2, 3, 4, 5, 6, 7, 8, 9, 10, 11, 12, 1, 0] rfl hv
        · replace hv := hv.2 hc
          refine a_iconst (v := 1) dX8_bestTry_160 (by decide) ?_
          refine a_goto 165 dX8_bestTry_161 rfl ?_
          refine a_iadd dX8_bestTry_165 ?_
          refine a_istore [(11, .int (v11 + 1)), (0, .ref (ga g 118)), (1, .int v1), (2, .int v2), (3, .int v3), (4, .int v4), (5, .int v5), (6, .int v6), (7, .int v7), (8, .int v8), (9, .int v9), (10, .int v10), (12, .int v12)] dX8_bestTry_166 (Nat.le_of_ble_eq_true rfl) rfl ?_
          refine a_iinc 12 (v12 + 1) [(12, .int (v12 + 1)), (11, .int (v11 + 1)), (0, .ref (ga g 118)), (1, .int v1), (2, .int v2), (3, .int v3), (4, .int v4), (5, .int v5), (6, .int v6), (7, .int v7), (8, .int v8), (9, .int v9), (10, .int v10)] dX8_bestTry_168 rfl rfl (Nat.le_of_ble_eq_true rfl) rfl ?_
          refine a_goto 115 dX8_bestTry_171 rfl ?_
          exact a_sub [2, 3, 4, 5, 6, 7, 8, 9, 10, 11, 12, 1, 0] rfl hv
def VC_X8_bestTry_103 (g : GT) (d : Nat) (v1 : Int32) (v2 : Int32) (v3 : Int32) (v4 : Int32) (v5 : Int32) (v6 : Int32) (v7 : Int32) (v8 : Int32) (v9 : Int32) (v10 : Int32) (I : IT) (J : JT) (P : Int32 → IT → JT → Prop) : Prop :=
  ((5 < v10 → ((v7 ≤ v9 → ((v7 ≤ v9 → (Lp_X8_bestTry_11 g d v1 v2 v3 v4 v5 v6 v7 (v8 + 1) I J P)) ∧ (¬ v7 ≤ v9 → (Lp_X8_bestTry_11 g d v1 v2 v3 v4 v5 v6 v9 (v8 + 1) I J P)))) ∧ (¬ v7 ≤ v9 → ((v7 ≤ v9 → (Lp_X8_bestTry_11 g d v1 v2 v3 v4 v5 v8 v7 (v8 + 1) I J P)) ∧ (¬ v7 ≤ v9 → (Lp_X8_bestTry_11 g d v1 v2 v3 v4 v5 v8 v9 (v8 + 1) I J P)))))) ∧ (¬ 5 < v10 → (Lp_X8_bestTry_115 g d v1 v2 v3 v4 v5 v6 v7 v8 v9 v10 0 1 I J P)))
set_option maxRecDepth 4000 in
theorem w_X8_bestTry_103 {g : GT} {d : Nat} {v1 : Int32} {v2 : Int32} {v3 : Int32} {v4 : Int32} {v5 : Int32} {v6 : Int32} {v7 : Int32} {v8 : Int32} {v9 : Int32} {v10 : Int32} {I : IT} {J : JT} {P : Int32 → IT → JT → Prop} (hv : VC_X8_bestTry_103 g d v1 v2 v3 v4 v5 v6 v7 v8 v9 v10 I J P) : Lp_X8_bestTry_103 g d v1 v2 v3 v4 v5 v6 v7 v8 v9 v10 I J P := by
  unfold VC_X8_bestTry_103 at hv
  unfold Lp_X8_bestTry_103
  refine a_iload 10 dX8_bestTry_103 rfl ?_
  refine a_iconst (v := 5) dX8_bestTry_105 (by decide) ?_
  refine a_icmp_gt 196 dX8_bestTry_106 rfl (fun hc => ?_) (fun hc => ?_)
  · replace hv := hv.1 hc
    refine a_iload 9 dX8_bestTry_196 rfl ?_
    refine a_iload 7 dX8_bestTry_198 rfl ?_
    refine a_icmp_ge 208 dX8_bestTry_200 rfl (fun hc => ?_) (fun hc => ?_)
    · replace hv := hv.1 hc
      refine a_iload 6 dX8_bestTry_208 rfl ?_
      refine a_istore [(6, .int v6), (0, .ref (ga g 118)), (1, .int v1), (2, .int v2), (3, .int v3), (4, .int v4), (5, .int v5), (7, .int v7), (8, .int v8), (9, .int v9), (10, .int v10)] dX8_bestTry_210 (Nat.le_of_ble_eq_true rfl) rfl ?_
      refine a_iload 9 dX8_bestTry_212 rfl ?_
      refine a_iload 7 dX8_bestTry_214 rfl ?_
      refine a_icmp_ge 224 dX8_bestTry_216 rfl (fun hc => ?_) (fun hc => ?_)
      · replace hv := hv.1 hc
        refine a_iload 7 dX8_bestTry_224 rfl ?_
        refine a_istore [(7, .int v7), (6, .int v6), (0, .ref (ga g 118)), (1, .int v1), (2, .int v2), (3, .int v3), (4, .int v4), (5, .int v5), (8, .int v8), (9, .int v9), (10, .int v10)] dX8_bestTry_226 (Nat.le_of_ble_eq_true rfl) rfl ?_
        refine a_iinc 8 (v8 + 1) [(8, .int (v8 + 1)), (7, .int v7), (6, .int v6), (0, .ref (ga g 118)), (1, .int v1), (2, .int v2), (3, .int v3), (4, .int v4), (5, .int v5), (9, .int v9), (10, .int v10)] dX8_bestTry_228 rfl rfl (Nat.le_of_ble_eq_true rfl) rfl ?_
        refine a_goto 11 dX8_bestTry_231 rfl ?_
        exact a_sub [3, 4, 5, 6, 7, 8, 2, 1, 0] rfl hv
      · replace hv := hv.2 hc
        refine a_iload 9 dX8_bestTry_219 rfl ?_
        refine a_goto 226 dX8_bestTry_221 rfl ?_
        refine a_istore [(7, .int v9), (6, .int v6), (0, .ref (ga g 118)), (1, .int v1), (2, .int v2), (3, .int v3), (4, .int v4), (5, .int v5), (8, .int v8), (9, .int v9), (10, .int v10)] dX8_bestTry_226 (Nat.le_of_ble_eq_true rfl) rfl ?_
        refine a_iinc 8 (v8 + 1) [(8, .int (v8 + 1)), (7, .int v9), (6, .int v6), (0, .ref (ga g 118)), (1, .int v1), (2, .int v2), (3, .int v3), (4, .int v4), (5, .int v5), (9, .int v9), (10, .int v10)] dX8_bestTry_228 rfl rfl (Nat.le_of_ble_eq_true rfl) rfl ?_
        refine a_goto 11 dX8_bestTry_231 rfl ?_
        exact a_sub [3, 4, 5, 6, 7, 8, 2, 1, 0] rfl hv
    · replace hv := hv.2 hc
      refine a_iload 8 dX8_bestTry_203 rfl ?_
      refine a_goto 210 dX8_bestTry_205 rfl ?_
      refine a_istore [(6, .int v8), (0, .ref (ga g 118)), (1, .int v1), (2, .int v2), (3, .int v3), (4, .int v4), (5, .int v5), (7, .int v7), (8, .int v8), (9, .int v9), (10, .int v10)] dX8_bestTry_210 (Nat.le_of_ble_eq_true rfl) rfl ?_
      refine a_iload 9 dX8_bestTry_212 rfl ?_
      refine a_iload 7 dX8_bestTry_214 rfl ?_
      refine a_icmp_ge 224 dX8_bestTry_216 rfl (fun hc => ?_) (fun hc => ?_)
      · replace hv := hv.1 hc
        refine a_iload 7 dX8_bestTry_224 rfl ?_
        refine a_istore [(7, .int v7), (6, .int v8), (0, .ref (ga g 118)), (1, .int v1), (2, .int v2), (3, .int v3), (4, .int v4), (5, .int v5), (8, .int v8), (9, .int v9), (10, .int v10)] dX8_bestTry_226 (Nat.le_of_ble_eq_true rfl) rfl ?_
        refine a_iinc 8 (v8 + 1) [(8, .int (v8 + 1)), (7, .int v7), (6, .int v8), (0, .ref (ga g 118)), (1, .int v1), (2, .int v2), (3, .int v3), (4, .int v4), (5, .int v5), (9, .int v9), (10, .int v10)] dX8_bestTry_228 rfl rfl (Nat.le_of_ble_eq_true rfl) rfl ?_
        refine a_goto 11 dX8_bestTry_231 rfl ?_
        exact a_sub [3, 4, 5, 6, 7, 8, 2, 1, 0] rfl hv
      · replace hv := hv.2 hc
        refine a_iload 9 dX8_bestTry_219 rfl ?_
        refine a_goto 226 dX8_bestTry_221 rfl ?_
        refine a_istore [(7, .int v9), (6, .int v8), (0, .ref (ga g 118)), (1, .int v1), (2, .int v2), (3, .int v3), (4, .int v4), (5, .int v5), (8, .int v8), (9, .int v9), (10, .int v10)] dX8_bestTry_226 (Nat.le_of_ble_eq_true rfl) rfl ?_
        refine a_iinc 8 (v8 + 1) [(8, .int (v8 + 1)), (7, .int v9), (6, .int v8), (0, .ref (ga g 118)), (1, .int v1), (2, .int v2), (3, .int v3), (4, .int v4), (5, .int v5), (9, .int v9), (10, .int v10)] dX8_bestTry_228 rfl rfl (Nat.le_of_ble_eq_true rfl) rfl ?_
        refine a_goto 11 dX8_bestTry_231 rfl ?_
        exact a_sub [3, 4, 5, 6, 7, 8, 2, 1, 0] rfl hv
  · replace hv := hv.2 hc
    refine a_iconst (v := 0) dX8_bestTry_109 (by decide) ?_
    refine a_istore [(11, .int 0), (0, .ref (ga g 118)), (1, .int v1), (2, .int v2), (3, .int v3), (4, .int v4), (5, .int v5), (6, .int v6), (7, .int v7), (8, .int v8), (9, .int v9), (10, .int v10)] dX8_bestTry_110 (Nat.le_of_ble_eq_true rfl) rfl ?_
    refine a_iconst (v := 1) dX8_bestTry_112 (by decide) ?_
    refine a_istore [(12, .int 1), (11, .int 0), (0, .ref (ga g 118)), (1, .int v1), (2, .int v2), (3, .int v3), (4, .int v4), (5, .int v5), (6, .int v6), (7, .int v7), (8, .int v8), (9, .int v9), (10, .int v10)] dX8_bestTry_113 (Nat.le_of_ble_eq_true rfl) rfl ?_
    exact a_sub [2, 3, 4, 5, 6, 7, 8, 9, 10, 11, 12, 1, 0] rfl hv
def VC_X8_bestTry_25 (g : GT) (d : Nat) (v1 : Int32) (v2 : Int32) (v3 : Int32) (v4 : Int32) (v5 : Int32) (v6 : Int32) (v7 : Int32) (v8 : Int32) (v9 : Int32) (I : IT) (J : JT) (P : Int32 → IT → JT → Prop) : Prop :=
  ((5 < v9 → (Lp_X8_bestTry_103 g d v1 v2 v3 v4 v5 v6 v7 v8 0 1 I J P)) ∧ (¬ 5 < v9 → (SemZ g (d - 1) M_X8_has [.int v5, .int v9] I J (fun r35 I35 J35 => ((r35 = false → (Lp_X8_bestTry_25 g d v1 v2 v3 v4 v5 v6 v7 v8 (v9 + 1) I35 J35 P)) ∧ (r35 = true → (SemZ g (d - 1) M_X8_isSo [.ref (ga g 118), .int v1, .int v2, .int v9, .int v3, .int v4] I35 J35 (fun r49 I49 J49 => (SemV g (d - 1) M_X8_says [.ref (ga g 118), .int 320, .int v1, .int v2, .int v8] I49 J49 (fun I62 J62 => ((r49 = false → (vp_in v9 6 ∧ (Lp_X8_bestTry_25 g d v1 v2 v3 v4 v5 v6 v7 v8 (v9 + 1) (sI I62 129 v9.toNatClampNeg (-1)) J62 P))) ∧ (r49 = true → (vp_in (378 + v1) 952 ∧ (vp_in v9 6 ∧ (Lp_X8_bestTry_25 g d v1 v2 v3 v4 v5 v6 v7 v8 (v9 + 1) (sI I62 129 v9.toNatClampNeg (I62 119 (378 + v1).toNatClampNeg)) J62 P)))))))))))))))
set_option maxRecDepth 4000 in
theorem w_X8_bestTry_25 {g : GT} {d : Nat} {v1 : Int32} {v2 : Int32} {v3 : Int32} {v4 : Int32} {v5 : Int32} {v6 : Int32} {v7 : Int32} {v8 : Int32} {v9 : Int32} {I : IT} {J : JT} {P : Int32 → IT → JT → Prop} (hd : 1 ≤ d) (hv : VC_X8_bestTry_25 g d v1 v2 v3 v4 v5 v6 v7 v8 v9 I J P) : Lp_X8_bestTry_25 g d v1 v2 v3 v4 v5 v6 v7 v8 v9 I J P := by
  unfold VC_X8_bestTry_25 at hv
  unfold Lp_X8_bestTry_25
  refine a_iload 9 dX8_bestTry_25 rfl ?_
  refine a_iconst (v := 5) dX8_bestTry_27 (by decide) ?_
  refine a_icmp_gt 97 dX8_bestTry_28 rfl (fun hc => ?_) (fun hc => ?_)
  · replace hv := hv.1 hc
    refine a_iconst (v := 0) dX8_bestTry_97 (by decide) ?_
    refine a_istore [(9, .int 0), (0, .ref (ga g 118)), (1, .int v1), (2, .int v2), (3, .int v3), (4, .int v4), (5, .int v5), (6, .int v6), (7, .int v7), (8, .int v8)] dX8_bestTry_98 (Nat.le_of_ble_eq_true rfl) rfl ?_
    refine a_iconst (v := 1) dX8_bestTry_100 (by decide) ?_
    refine a_istore [(10, .int 1), (9, .int 0), (0, .ref (ga g 118)), (1, .int v1), (2, .int v2), (3, .int v3), (4, .int v4), (5, .int v5), (6, .int v6), (7, .int v7), (8, .int v8)] dX8_bestTry_101 (Nat.le_of_ble_eq_true rfl) rfl ?_
    exact a_sub [2, 3, 4, 5, 6, 7, 8, 9, 10, 1, 0] rfl hv
  · replace hv := hv.2 hc
    refine a_iload 5 dX8_bestTry_31 rfl ?_
    refine a_iload 9 dX8_bestTry_33 rfl ?_
    refine c_SZ (As := [.int v5, .int v9]) (rest := []) hv K_X8_174 rfl rfl (Nat.le_of_ble_eq_true rfl) (rok (by omega) (Nat.le_of_ble_eq_true rfl)) ⟨Nat.zero_le _, Nat.zero_le _⟩ dX8_bestTry_35 (fun r35 I35 J35 hv => ?_)
    refine a_ifz_eq 91 dX8_bestTry_38 rfl (fun hc => ?_) (fun hc => ?_)
    · replace hv := hv.1 hc
      refine a_iinc 9 (v9 + 1) [(9, .int (v9 + 1)), (0, .ref (ga g 118)), (1, .int v1), (2, .int v2), (3, .int v3), (4, .int v4), (5, .int v5), (6, .int v6), (7, .int v7), (8, .int v8)] dX8_bestTry_91 rfl rfl (Nat.le_of_ble_eq_true rfl) rfl ?_
      refine a_goto 25 dX8_bestTry_94 rfl ?_
      exact a_sub [1, 2, 3, 4, 5, 6, 7, 8, 9, 0] rfl hv
    · replace hv := hv.2 hc
      refine a_aload_n 0 dX8_bestTry_41 rfl rfl ?_
      refine a_iload_n 1 dX8_bestTry_42 rfl rfl ?_
      refine a_iload_n 2 dX8_bestTry_43 rfl rfl ?_
      refine a_iload 9 dX8_bestTry_44 rfl ?_
      refine a_iload_n 3 dX8_bestTry_46 rfl rfl ?_
      refine a_iload 4 dX8_bestTry_47 rfl ?_
      refine c_VZ (As := [.int v1, .int v2, .int v9, .int v3, .int v4]) (rest := []) hv K_X8_244 sh_118 rfl rfl rfl (Nat.le_of_ble_eq_true rfl) (rok (by omega) (Nat.le_of_ble_eq_true rfl)) ⟨Nat.zero_le _, Nat.zero_le _⟩ dX8_bestTry_49 (fun r49 I49 J49 hv => ?_)
      refine a_istore [(10, .int (bI r49)), (0, .ref (ga g 118)), (1, .int v1), (2, .int v2), (3, .int v3), (4, .int v4), (5, .int v5), (6, .int v6), (7, .int v7), (8, .int v8), (9, .int v9)] dX8_bestTry_52 (Nat.le_of_ble_eq_true rfl) rfl ?_
      refine a_aload_n 1 dX8_bestTry_54 rfl rfl ?_
      refine a_sipush (v := 320) dX8_bestTry_55 (by decide) ?_
      refine a_iload_n 2 dX8_bestTry_58 rfl rfl ?_
      refine a_iload_n 3 dX8_bestTry_59 rfl rfl ?_
      refine a_iload 9 dX8_bestTry_60 rfl ?_
      refine c_VV (As := [.int 320, .int v1, .int v2, .int v8]) (rest := []) hv K_X8_157 sh_118 rfl rfl rfl (Nat.le_of_ble_eq_true rfl) (rok (by omega) (Nat.le_of_ble_eq_true rfl)) ⟨Nat.zero_le _, Nat.zero_le _⟩ dX8_bestTry_62 (fun I62 J62 hv => ?_)
      refine a_aload_n 1 dX8_bestTry_65 rfl rfl ?_
      refine a_getR (r := 129) G_X8_41 sh_118 rfl dX8_bestTry_66 ?_
      refine a_iload 10 dX8_bestTry_69 rfl ?_
      refine a_iload 0 dX8_bestTry_71 rfl ?_
      refine a_ifz_eq 89 dX8_bestTry_73 rfl (fun hc => ?_) (fun hc => ?_)
      · replace hv := hv.1 hc
        refine a_iconst (v := (-1)) dX8_bestTry_89 (by decide) ?_
        refine a_iast sh_129 hv.1 dX8_bestTry_90 ?_
        replace hv := hv.2
        refine a_iinc 10 (v9 + 1) [(9, .int (v9 + 1)), (10, .int (bI r49)), (0, .ref (ga g 118)), (1, .int v1), (2, .int v2), (3, .int v3), (4, .int v4), (5, .int v5), (6, .int v6), (7, .int v7), (8, .int v8)] dX8_bestTry_91 rfl rfl (Nat.le_of_ble_eq_true rfl) rfl ?_
        refine a_goto 25 dX8_bestTry_94 rfl ?_
        exact a_sub [2, 3, 4, 5, 6, 7, 8, 9, 10, 0] rfl hv
      · replace hv := hv.2 hc
        refine a_aload_n 1 dX8_bestTry_76 rfl rfl ?_
        refine a_getR (r := 119) G_X8_7 sh_118 rfl dX8_bestTry_77 ?_
        refine a_sipush (v := 378) dX8_bestTry_80 (by decide) ?_
        refine a_iload_n 2 dX8_bestTry_83 rfl rfl ?_
        refine a_iadd dX8_bestTry_84 ?_
        refine a_iald sh_119 hv.1 dX8_bestTry_85 ?_
        replace hv := hv.2
        refine a_goto 90 dX8_bestTry_86 rfl ?_
        refine a_iast sh_129 hv.1 dX8_bestTry_90 ?_
        replace hv := hv.2
        refine a_iinc 10 (v9 + 1) [(9, .int (v9 + 1)), (10, .int (bI r49)), (0, .ref (ga g 118)), (1, .int v1), (2, .int v2), (3, .int v3), (4, .int v4), (5, .int v5), (6, .int v6), (7, .int v7), (8, .int v8)] dX8_bestTry_91 rfl rfl (Nat.le_of_ble_eq_true rfl) rfl ?_
        refine a_goto 25 dX8_bestTry_94 rfl ?_
        exact a_sub [2, 3, 4, 5, 6, 7, 8, 9, 10, 0] rfl hv
def VC_X8_bestTry_11 (g : GT) (d : Nat) (v1 : Int32) (v2 : Int32) (v3 : Int32) (v4 : Int32) (v5 : Int32) (v6 : Int32) (v7 : Int32) (v8 : Int32) (I : IT) (J : JT) (P : Int32 → IT → JT → Prop) : Prop :=
  ((3 ≤ v8 → P v6 I J) ∧ (¬ 3 ≤ v8 → ((v5 ≤ 0 → P v6 I J) ∧ (¬ v5 ≤ 0 → (Lp_X8_bestTry_25 g d v1 v2 v3 v4 v5 v6 v7 v8 1 I J P)))))
set_option maxRecDepth 4000 in
theorem w_X8_bestTry_11 {g : GT} {d : Nat} {v1 : Int32} {v2 : Int32} {v3 : Int32} {v4 : Int32} {v5 : Int32} {v6 : Int32} {v7 : Int32} {v8 : Int32} {I : IT} {J : JT} {P : Int32 → IT → JT → Prop} (hv : VC_X8_bestTry_11 g d v1 v2 v3 v4 v5 v6 v7 v8 I J P) : Lp_X8_bestTry_11 g d v1 v2 v3 v4 v5 v6 v7 v8 I J P := by
  unfold VC_X8_bestTry_11 at hv
  unfold Lp_X8_bestTry_11
  refine a_iload 8 dX8_bestTry_11 rfl ?_
  refine a_iconst (v := 3) dX8_bestTry_13 (by decide) ?_
  refine a_icmp_ge 234 dX8_bestTry_14 rfl (fun hc => ?_) (fun hc => ?_)
  · replace hv := hv.1 hc
    refine a_iload 6 dX8_bestTry_234 rfl ?_
    exact a_iret rfl dX8_bestTry_236 hv
  · replace hv := hv.2 hc
    refine a_iload 5 dX8_bestTry_17 rfl ?_
    refine a_if_le 234 dX8_bestTry_19 rfl (fun hc => ?_) (fun hc => ?_)
    · replace hv := hv.1 hc
      refine a_iload 6 dX8_bestTry_234 rfl ?_
      exact a_iret rfl dX8_bestTry_236 hv
    · replace hv := hv.2 hc
      refine a_iconst (v := 1) dX8_bestTry_22 (by decide) ?_
      refine a_istore [(9, .int 1), (0, .ref (ga g 118)), (1, .int v1), (2, .int v2), (3, .int v3), (4, .int v4), (5, .int v5), (6, .int v6), (7, .int v7), (8, .int v8)] dX8_bestTry_23 (Nat.le_of_ble_eq_true rfl) rfl ?_
      exact a_sub [1, 2, 3, 4, 5, 6, 7, 8, 9, 0] rfl hv
def VC_X8_bestTry (g : GT) (d : Nat) (v1 : Int32) (v2 : Int32) (v3 : Int32) (v4 : Int32) (v5 : Int32) (I : IT) (J : JT) (P : Int32 → IT → JT → Prop) : Prop :=
  (Lp_X8_bestTry_11 g d v1 v2 v3 v4 v5 (-4) 1000000 0 I J P)
set_option maxRecDepth 4000 in
theorem w_X8_bestTry {g : GT} {d : Nat} {v1 : Int32} {v2 : Int32} {v3 : Int32} {v4 : Int32} {v5 : Int32} {I : IT} {J : JT} {P : Int32 → IT → JT → Prop} (hv : VC_X8_bestTry g d v1 v2 v3 v4 v5 I J P) : SemI g d M_X8_bestTry [.ref (ga g 118), .int v1, .int v2, .int v3, .int v4, .int v5] I J P := by
  unfold VC_X8_bestTry at hv
  refine sem_intro (by decide +kernel) rfl (Nat.le_of_ble_eq_true rfl) ?_
  show AW _ 0 0 0 [(0, .ref (ga g 118)), (1, .int v1), (2, .int v2), (3, .int v3), (4, .int v4), (5, .int v5)] [] (cW g I J)
  refine a_bipush (v := (-4)) dX8_bestTry_0 (by decide) ?_
  refine a_istore [(6, .int (-4)), (0, .ref (ga g 118)), (1, .int v1), (2, .int v2), (3, .int v3), (4, .int v4), (5, .int v5)] dX8_bestTry_2 (Nat.le_of_ble_eq_true rfl) rfl ?_
  refine a_ldc (v := 1000000) dX8_bestTry_4 ct_X8_165 ?_
  refine a_istore [(7, .int 1000000), (6, .int (-4)), (0, .ref (ga g 118)), (1, .int v1), (2, .int v2), (3, .int v3), (4, .int v4), (5, .int v5)] dX8_bestTry_6 (Nat.le_of_ble_eq_true rfl) rfl ?_
  refine a_iconst (v := 0) dX8_bestTry_8 (by decide) ?_
  refine a_istore [(8, .int 0), (7, .int 1000000), (6, .int (-4)), (0, .ref (ga g 118)), (1, .int v1), (2, .int v2), (3, .int v3), (4, .int v4), (5, .int v5)] dX8_bestTry_9 (Nat.le_of_ble_eq_true rfl) rfl ?_
  exact a_sub [3, 4, 5, 6, 7, 8, 2, 1, 0] rfl hv
def Lp_X8_kinds_103 (g : GT) (d : Nat) (v1 : Int32) (v2 : Int32) (v6 : Int32) (v7 : Int32) (v9 : Int32) (v10 : Int32) (v11 : Int32) (I : IT) (J : JT) (P : Int32 → IT → JT → Prop) : Prop := AW (kM g d M_X8_kinds 0 0 (qI g P)) 0 0 103 [(0, .ref (ga g 118)), (1, .int v1), (2, .int v2), (6, .int v6), (7, .int v7), (9, .int v9), (10, .int v10), (11, .int v11)] [] (cW g I J)
def VC_X8_kinds_103 (g : GT) (d : Nat) (v1 : Int32) (v2 : Int32) (v6 : Int32) (v7 : Int32) (v9 : Int32) (v10 : Int32) (v11 : Int32) (I : IT) (J : JT) (P : Int32 → IT → JT → Prop) : Prop :=
  ((5 < v11 → ((¬ v7 = 0 → (SemI g (d - 1) M_X8_bestTry [.ref (ga g 118), .int v1, .int v2, .int v9, .int v6, .int v10] I J (fun r162 I162 J162 => P r162 I162 J162))) ∧ (v7 = 0 → P v10 I J))) ∧ (¬ 5 < v11 → (SemZ g (d - 1) M_X8_isSo [.ref (ga g 118), .int v1, .int v2, .int v11, .int v9, .int v6] I J (fun r120 I120 J120 => ((r120 = false → (Lp_X8_kinds_103 g d v1 v2 v6 v7 v9 (v10 ||| 0) (v11 + 1) I120 J120 P)) ∧ (r120 = true → (Lp_X8_kinds_103 g d v1 v2 v6 v7 v9 (v10 ||| (1 <<< (v11 &&& 31))) (v11 + 1) I120 J120 P)))))))
set_option maxRecDepth 4000 in
theorem w_X8_kinds_103 {g : GT} {d : Nat} {v1 : Int32} {v2 : Int32} {v6 : Int32} {v7 : Int32} {v9 : Int32} {v10 : Int32} {v11 : Int32} {I : IT} {J : JT} {P : Int32 → IT → JT → Prop} (hd : 1 ≤ d) (hv : VC_X8_kinds_103 g d v1 v2 v6 v7 v9 v10 v11 I J P) : Lp_X8_kinds_103 g d v1 v2 v6 v7 v9 v10 v11 I J P := by
  unfold VC_X8_kinds_103 at hv
  unfold Lp_X8_kinds_103
  refine a_iload 7 dX8_kinds_103 rfl ?_
  refine a_iconst (v := 5) dX8_kinds_105 (by decide) ?_
  refine a_icmp_gt 143 dX8_kinds_106 rfl (fun hc => ?_) (fun hc => ?_)
  · replace hv := hv.1 hc
    refine a_iload 4 dX8_kinds_143 rfl ?_
    refine a_if_ne 153 dX8_kinds_145 rfl (fun hc => ?_) (fun hc => ?_)
    · replace hv := hv.1 hc
      refine a_aload_n 0 dX8_kinds_153 rfl rfl ?_
      refine a_iload_n 1 dX8_kinds_154 rfl rfl ?_
      refine a_iload_n 2 dX8_kinds_155 rfl rfl ?_
      refine a_iload 5 dX8_kinds_156 rfl ?_
      refine a_iload 3 dX8_kinds_158 rfl ?_
      refine a_iload 6 dX8_kinds_160 rfl ?_
      refine c_VI (As := [.int v1, .int v2, .int v9, .int v6, .int v10]) (rest := []) hv K_X8_250 sh_118 rfl rfl rfl (Nat.le_of_ble_eq_true rfl) (rok (by omega) (Nat.le_of_ble_eq_true rfl)) ⟨Nat.zero_le _, Nat.zero_le _⟩ dX8_kinds_162 (fun r162 I162 J162 hv => ?_)
      exact a_iret rfl dX8_kinds_165 hv
    · replace hv := hv.2 hc
      refine a_iload 6 dX8_kinds_148 rfl ?_
      refine a_goto 165 dX8_kinds_150 rfl ?_
      exact a_iret rfl dX8_kinds_165 hv
  · replace hv := hv.2 hc
    refine a_iload 6 dX8_kinds_109 rfl ?_
    refine a_aload_n 0 dX8_kinds_111 rfl rfl ?_
    refine a_iload_n 1 dX8_kinds_112 rfl rfl ?_
    refine a_iload_n 2 dX8_kinds_113 rfl rfl ?_
    refine a_iload 7 dX8_kinds_114 rfl ?_
    refine a_iload 5 dX8_kinds_116 rfl ?_
    refine a_iload 3 dX8_kinds_118 rfl ?_
    refine c_VZ (As := [.int v1, .int v2, .int v11, .int v9, .int v6]) (rest := [.int v10]) hv K_X8_244 sh_118 rfl rfl rfl (Nat.le_of_ble_eq_true rfl) (rok (by omega) (Nat.le_of_ble_eq_true rfl)) ⟨Nat.zero_le _, Nat.zero_le _⟩ dX8_kinds_120 (fun r120 I120 J120 hv => ?_)
    refine a_ifz_eq 133 dX8_kinds_123 rfl (fun hc => ?_) (fun hc => ?_)
    · replace hv := hv.1 hc
      refine a_iconst (v := 0) dX8_kinds_133 (by decide) ?_
      refine a_ior dX8_kinds_134 ?_
      refine a_istore [(10, .int (v10 ||| 0)), (0, .ref (ga g 118)), (1, .int v1), (2, .int v2), (6, .int v6), (7, .int v7), (9, .int v9), (11, .int v11)] dX8_kinds_135 (Nat.le_of_ble_eq_true rfl) rfl ?_
      refine a_iinc 7 (v11 + 1) [(11, .int (v11 + 1)), (10, .int (v10 ||| 0)), (0, .ref (ga g 118)), (1, .int v1), (2, .int v2), (6, .int v6), (7, .int v7), (9, .int v9)] dX8_kinds_137 rfl rfl (Nat.le_of_ble_eq_true rfl) rfl ?_
      refine a_goto 103 dX8_kinds_140 rfl ?_
      exact a_sub [2, 3, 4, 5, 6, 7, 1, 0] rfl hv
    · replace hv := hv.2 hc
      refine a_iconst (v := 1) dX8_kinds_126 (by decide) ?_
      refine a_iload 7 dX8_kinds_127 rfl ?_
      refine a_ishl dX8_kinds_129 ?_
      refine a_goto 134 dX8_kinds_130 rfl ?_
      refine a_ior dX8_kinds_134 ?_
      refine a_istore [(10, .int (v10 ||| (1 <<< (v11 &&& 31)))), (0, .ref (ga g 118)), (1, .int v1), (2, .int v2), (6, .int v6), (7, .int v7), (9, .int v9), (11, .int v11)] dX8_kinds_135 (Nat.le_of_ble_eq_true rfl) rfl ?_
      refine a_iinc 7 (v11 + 1) [(11, .int (v11 + 1)), (10, .int (v10 ||| (1 <<< (v11 &&& 31)))), (0, .ref (ga g 118)), (1, .int v1), (2, .int v2), (6, .int v6), (7, .int v7), (9, .int v9)] dX8_kinds_137 rfl rfl (Nat.le_of_ble_eq_true rfl) rfl ?_
      refine a_goto 103 dX8_kinds_140 rfl ?_
      exact a_sub [2, 3, 4, 5, 6, 7, 1, 0] rfl hv
def VC_X8_kinds (g : GT) (d : Nat) (v1 : Int32) (v2 : Int32) (v3 : Int32) (v4 : Int32) (v5 : Int32) (v6 : Int32) (v7 : Int32) (I : IT) (J : JT) (P : Int32 → IT → JT → Prop) : Prop :=
  (SemZ g (d - 1) M_X8_isShip [.ref (ga g 118), .int v1] I J (fun r2 I2 J2 => ((r2 = false → P (-1) I2 J2) ∧ (r2 = true → (SemZ g (d - 1) M_X8_isTeller [.int v2] I2 J2 (fun r9 I9 J9 => ((r9 = false → P (-1) I9 J9) ∧ (r9 = true → (SemZ g (d - 1) M_X8_isLane [.int v3, .int v4] I9 J9 (fun r18 I18 J18 => ((r18 = false → P (-1) I18 J18) ∧ (r18 = true → (SemZ g (d - 1) M_X8_in [.long (v6.toInt64), .long 1, .long 10] I18 J18 (fun r31 I31 J31 => ((r31 = false → P (-1) I31 J31) ∧ (r31 = true → (SemZ g (d - 1) M_X8_in [.long (v7.toInt64), .long 0, .long 1] I31 J31 (fun r42 I42 J42 => ((r42 = true → (SemI g (d - 1) M_X8_against [.ref (ga g 118), .int v3, .int v4, .int v5, .int (2 * v6)] I42 J42 (fun r60 I60 J60 => ((0 ≤ r60 → (SemZ g (d - 1) M_X8_areWords [.ref (ga g 118), .int ((24 * v3) + v5), .int v6, .int 2] I60 J60 (fun r88 I88 J88 => ((r88 = true → (Lp_X8_kinds_103 g d v1 v2 v6 v7 ((24 * v3) + v5) 0 1 I88 J88 P)) ∧ (r88 = false → P (-2) I88 J88))))) ∧ (¬ 0 ≤ r60 → P r60 I60 J60))))) ∧ (r42 = false → P (-1) I42 J42))))))))))))))))))))
set_option maxRecDepth 4000 in
theorem w_X8_kinds {g : GT} {d : Nat} {v1 : Int32} {v2 : Int32} {v3 : Int32} {v4 : Int32} {v5 : Int32} {v6 : Int32} {v7 : Int32} {I : IT} {J : JT} {P : Int32 → IT → JT → Prop} (hd : 1 ≤ d) (hv : VC_X8_kinds g d v1 v2 v3 v4 v5 v6 v7 I J P) : SemI g d M_X8_kinds [.ref (ga g 118), .int v1, .int v2, .int v3, .int v4, .int v5, .int v6, .int v7] I J P := by
  unfold VC_X8_kinds at hv
  refine sem_intro (by decide +kernel) rfl (Nat.le_of_ble_eq_true rfl) ?_
  show AW _ 0 0 0 [(0, .ref (ga g 118)), (1, .int v1), (2, .int v2), (3, .int v3), (4, .int v4), (5, .int v5), (6, .int v6), (7, .int v7)] [] (cW g I J)
  refine a_aload_n 0 dX8_kinds_0 rfl rfl ?_
  refine a_iload_n 1 dX8_kinds_1 rfl rfl ?_
  refine c_VZ (As := [.int v1]) (rest := []) hv K_X8_103 sh_118 rfl rfl rfl (Nat.le_of_ble_eq_true rfl) (rok (by omega) (Nat.le_of_ble_eq_true rfl)) ⟨Nat.zero_le _, Nat.zero_le _⟩ dX8_kinds_2 (fun r2 I2 J2 hv => ?_)
  refine a_ifz_eq 48 dX8_kinds_5 rfl (fun hc => ?_) (fun hc => ?_)
  · replace hv := hv.1 hc
    refine a_iconst (v := (-1)) dX8_kinds_48 (by decide) ?_
    exact a_iret rfl dX8_kinds_49 hv
  · replace hv := hv.2 hc
    refine a_iload_n 2 dX8_kinds_8 rfl rfl ?_
    refine c_SZ (As := [.int v2]) (rest := []) hv K_X8_118 rfl rfl (Nat.le_of_ble_eq_true rfl) (rok (by omega) (Nat.le_of_ble_eq_true rfl)) ⟨Nat.zero_le _, Nat.zero_le _⟩ dX8_kinds_9 (fun r9 I9 J9 hv => ?_)
    refine a_ifz_eq 48 dX8_kinds_12 rfl (fun hc => ?_) (fun hc => ?_)
    · replace hv := hv.1 hc
      refine a_iconst (v := (-1)) dX8_kinds_48 (by decide) ?_
      exact a_iret rfl dX8_kinds_49 hv
    · replace hv := hv.2 hc
      refine a_iload_n 3 dX8_kinds_15 rfl rfl ?_
      refine a_iload 4 dX8_kinds_16 rfl ?_
      refine c_SZ (As := [.int v3, .int v4]) (rest := []) hv K_X8_224 rfl rfl (Nat.le_of_ble_eq_true rfl) (rok (by omega) (Nat.le_of_ble_eq_true rfl)) ⟨Nat.zero_le _, Nat.zero_le _⟩ dX8_kinds_18 (fun r18 I18 J18 hv => ?_)
      refine a_ifz_eq 48 dX8_kinds_21 rfl (fun hc => ?_) (fun hc => ?_)
      · replace hv := hv.1 hc
        refine a_iconst (v := (-1)) dX8_kinds_48 (by decide) ?_
        exact a_iret rfl dX8_kinds_49 hv
      · replace hv := hv.2 hc
        refine a_iload 6 dX8_kinds_24 rfl ?_
        refine a_i2l dX8_kinds_26 ?_
        refine a_lconst (v := 1) dX8_kinds_27 (by decide) ?_
        refine a_ldc2 (v := 10) dX8_kinds_28 cl_X8_248 ?_
        refine c_SZ (As := [.long (v6.toInt64), .long 1, .long 10]) (rest := []) hv K_X8_44 rfl rfl (Nat.le_of_ble_eq_true rfl) (rok (by omega) (Nat.le_of_ble_eq_true rfl)) ⟨Nat.zero_le _, Nat.zero_le _⟩ dX8_kinds_31 (fun r31 I31 J31 hv => ?_)
        refine a_ifz_eq 48 dX8_kinds_34 rfl (fun hc => ?_) (fun hc => ?_)
        · replace hv := hv.1 hc
          refine a_iconst (v := (-1)) dX8_kinds_48 (by decide) ?_
          exact a_iret rfl dX8_kinds_49 hv
        · replace hv := hv.2 hc
          refine a_iload 7 dX8_kinds_37 rfl ?_
          refine a_i2l dX8_kinds_39 ?_
          refine a_lconst (v := 0) dX8_kinds_40 (by decide) ?_
          refine a_lconst (v := 1) dX8_kinds_41 (by decide) ?_
          refine c_SZ (As := [.long (v7.toInt64), .long 0, .long 1]) (rest := []) hv K_X8_44 rfl rfl (Nat.le_of_ble_eq_true rfl) (rok (by omega) (Nat.le_of_ble_eq_true rfl)) ⟨Nat.zero_le _, Nat.zero_le _⟩ dX8_kinds_42 (fun r42 I42 J42 hv => ?_)
          refine a_ifz_ne 50 dX8_kinds_45 rfl (fun hc => ?_) (fun hc => ?_)
          · replace hv := hv.1 hc
            refine a_aload_n 0 dX8_kinds_50 rfl rfl ?_
            refine a_iload_n 3 dX8_kinds_51 rfl rfl ?_
            refine a_iload 4 dX8_kinds_52 rfl ?_
            refine a_iload 5 dX8_kinds_54 rfl ?_
            refine a_iconst (v := 2) dX8_kinds_56 (by decide) ?_
            refine a_iload 6 dX8_kinds_57 rfl ?_
            refine a_imul dX8_kinds_59 ?_
            refine c_VI (As := [.int v3, .int v4, .int v5, .int (2 * v6)]) (rest := []) hv K_X8_229 sh_118 rfl rfl rfl (Nat.le_of_ble_eq_true rfl) (rok (by omega) (Nat.le_of_ble_eq_true rfl)) ⟨Nat.zero_le _, Nat.zero_le _⟩ dX8_kinds_60 (fun r60 I60 J60 hv => ?_)
            refine a_istore [(8, .int r60), (0, .ref (ga g 118)), (1, .int v1), (2, .int v2), (3, .int v3), (4, .int v4), (5, .int v5), (6, .int v6), (7, .int v7)] dX8_kinds_63 (Nat.le_of_ble_eq_true rfl) rfl ?_
            refine a_iload 0 dX8_kinds_65 rfl ?_
            refine a_if_ge 73 dX8_kinds_67 rfl (fun hc => ?_) (fun hc => ?_)
            · replace hv := hv.1 hc
              refine a_bipush (v := 24) dX8_kinds_73 (by decide) ?_
              refine a_iload_n 4 dX8_kinds_75 rfl rfl ?_
              refine a_imul dX8_kinds_76 ?_
              refine a_iload 6 dX8_kinds_77 rfl ?_
              refine a_iadd dX8_kinds_79 ?_
              refine a_istore [(9, .int ((24 * v3) + v5)), (8, .int r60), (0, .ref (ga g 118)), (1, .int v1), (2, .int v2), (3, .int v3), (4, .int v4), (5, .int v5), (6, .int v6), (7, .int v7)] dX8_kinds_80 (Nat.le_of_ble_eq_true rfl) rfl ?_
              refine a_aload_n 2 dX8_kinds_82 rfl rfl ?_
              refine a_iload 0 dX8_kinds_83 rfl ?_
              refine a_iload 8 dX8_kinds_85 rfl ?_
              refine a_iconst (v := 2) dX8_kinds_87 (by decide) ?_
              refine c_VZ (As := [.int ((24 * v3) + v5), .int v6, .int 2]) (rest := []) hv K_X8_239 sh_118 rfl rfl rfl (Nat.le_of_ble_eq_true rfl) (rok (by omega) (Nat.le_of_ble_eq_true rfl)) ⟨Nat.zero_le _, Nat.zero_le _⟩ dX8_kinds_88 (fun r88 I88 J88 hv => ?_)
              refine a_ifz_ne 97 dX8_kinds_91 rfl (fun hc => ?_) (fun hc => ?_)
              · replace hv := hv.1 hc
                refine a_iconst (v := 0) dX8_kinds_97 (by decide) ?_
                refine a_istore [(10, .int 0), (9, .int ((24 * v3) + v5)), (8, .int r60), (0, .ref (ga g 118)), (1, .int v1), (2, .int v2), (3, .int v3), (4, .int v4), (5, .int v5), (6, .int v6), (7, .int v7)] dX8_kinds_98 (Nat.le_of_ble_eq_true rfl) rfl ?_
                refine a_iconst (v := 1) dX8_kinds_100 (by decide) ?_
                refine a_istore [(11, .int 1), (10, .int 0), (9, .int ((24 * v3) + v5)), (8, .int r60), (0, .ref (ga g 118)), (1, .int v1), (2, .int v2), (3, .int v3), (4, .int v4), (5, .int v5), (6, .int v6), (7, .int v7)] dX8_kinds_101 (Nat.le_of_ble_eq_true rfl) rfl ?_
                exact a_sub [4, 5, 6, 10, 11, 2, 1, 0] rfl hv
              · replace hv := hv.2 hc
                refine a_bipush (v := (-2)) dX8_kinds_94 (by decide) ?_
                exact a_iret rfl dX8_kinds_96 hv
            · replace hv := hv.2 hc
              refine a_iload 0 dX8_kinds_70 rfl ?_
              exact a_iret rfl dX8_kinds_72 hv
          · replace hv := hv.2 hc
            refine a_iconst (v := (-1)) dX8_kinds_48 (by decide) ?_
            exact a_iret rfl dX8_kinds_49 hv
def Lp_X8_fog_119 (g : GT) (d : Nat) (v1 : Int32) (v2 : Int32) (v4 : Int32) (v5 : Int32) (v6 : Int32) (v7 : Int32) (v9 : Int32) (v10 : Int32) (v11 : Int32) (v12 : Int32) (I : IT) (J : JT) (P : Int32 → IT → JT → Prop) : Prop := AW (kM g d M_X8_fog 0 0 (qI g P)) 0 0 119 [(0, .ref (ga g 118)), (1, .int v1), (2, .int v2), (4, .int v4), (5, .int v5), (6, .int v6), (7, .int v7), (9, .int v9), (10, .int v10), (11, .int v11), (12, .int v12)] [] (cW g I J)
def Lp_X8_fog_142 (g : GT) (d : Nat) (v1 : Int32) (v2 : Int32) (v4 : Int32) (v5 : Int32) (v6 : Int32) (v7 : Int32) (v9 : Int32) (v10 : Int32) (v11 : Int32) (v12 : Int32) (I : IT) (J : JT) (P : Int32 → IT → JT → Prop) : Prop := AW (kM g d M_X8_fog 0 0 (qI g P)) 0 0 142 [(0, .ref (ga g 118)), (1, .int v1), (2, .int v2), (4, .int v4), (5, .int v5), (6, .int v6), (7, .int v7), (9, .int v9), (10, .int v10), (11, .int v11), (12, .int v12)] [] (cW g I J)
def Lp_X8_fog_281 (g : GT) (d : Nat) (v7 : Int32) (v10 : Int32) (v11 : Int32) (v12 : Int32) (v13 : Int32) (I : IT) (J : JT) (P : Int32 → IT → JT → Prop) : Prop := AW (kM g d M_X8_fog 0 0 (qI g P)) 0 0 281 [(7, .int v7), (10, .int v10), (11, .int v11), (12, .int v12), (13, .int v13)] [] (cW g I J)
def Lp_X8_fog_161 (g : GT) (d : Nat) (v1 : Int32) (v2 : Int32) (v4 : Int32) (v5 : Int32) (v6 : Int32) (v7 : Int32) (v9 : Int32) (v10 : Int32) (v11 : Int32) (v12 : Int32) (v13 : Int32) (v14 : Int32) (I : IT) (J : JT) (P : Int32 → IT → JT → Prop) : Prop := AW (kM g d M_X8_fog 0 0 (qI g P)) 0 0 161 [(0, .ref (ga g 118)), (1, .int v1), (2, .int v2), (4, .int v4), (5, .int v5), (6, .int v6), (7, .int v7), (9, .int v9), (10, .int v10), (11, .int v11), (12, .int v12), (13, .int v13), (14, .int v14)] [] (cW g I J)
def VC_X8_fog_161 (g : GT) (d : Nat) (v1 : Int32) (v2 : Int32) (v4 : Int32) (v5 : Int32) (v6 : Int32) (v7 : Int32) (v9 : Int32) (v10 : Int32) (v11 : Int32) (v12 : Int32) (v13 : Int32) (v14 : Int32) (I : IT) (J : JT) (P : Int32 → IT → JT → Prop) : Prop :=
  ((v4 ≤ v14 → (vp_in (378 + v1) 952 ∧ ((¬ (I 119 (378 + v1).toNatClampNeg) = v5 → (Lp_X8_fog_142 g d v1 v2 v4 v5 v6 v7 v9 (v10 + 0) v11 (v12 + 1) I J P)) ∧ ((I 119 (378 + v1).toNatClampNeg) = v5 → (Lp_X8_fog_142 g d v1 v2 v4 v5 v6 v7 v9 (v10 + v13) v11 (v12 + 1) I J P))))) ∧ (¬ v4 ≤ v14 → (SemZ g (d - 1) M_X8_has [.int v12, .int v14] I J (fun r174 I174 J174 => ((r174 = false → (SemZ g (d - 1) M_X8_has [.int v12, .int v14] I174 J174 (fun r197 I197 J197 => ((r197 = false → (vp_in (v9 + v14) 96 ∧ (SemV g (d - 1) M_X8_says [.ref (ga g 118), .int 320, .int v1, .int v2, .int ((J197 121 (v9 + v14).toNatClampNeg).toInt32)] I197 J197 (fun I232 J232 => (Lp_X8_fog_161 g d v1 v2 v4 v5 v6 v7 v9 v10 v11 v12 (v13 * (10 - v6)) (v14 + 1) I232 J232 P))))) ∧ (r197 = true → (SemZ g (d - 1) M_X8_goes [.ref (ga g 118), .int 320, .int v1] I197 J197 (fun r208 I208 J208 => (Lp_X8_fog_161 g d v1 v2 v4 v5 v6 v7 v9 v10 v11 v12 (v13 * (10 - v6)) (v14 + 1) I208 J208 P)))))))) ∧ (r174 = true → (SemZ g (d - 1) M_X8_has [.int v12, .int v14] I174 J174 (fun r197 I197 J197 => ((r197 = false → (vp_in (v9 + v14) 96 ∧ (SemV g (d - 1) M_X8_says [.ref (ga g 118), .int 320, .int v1, .int v2, .int ((J197 121 (v9 + v14).toNatClampNeg).toInt32)] I197 J197 (fun I232 J232 => (Lp_X8_fog_161 g d v1 v2 v4 v5 v6 v7 v9 v10 v11 v12 (v13 * v6) (v14 + 1) I232 J232 P))))) ∧ (r197 = true → (SemZ g (d - 1) M_X8_goes [.ref (ga g 118), .int 320, .int v1] I197 J197 (fun r208 I208 J208 => (Lp_X8_fog_161 g d v1 v2 v4 v5 v6 v7 v9 v10 v11 v12 (v13 * v6) (v14 + 1) I208 J208 P)))))))))))))
set_option maxRecDepth 4000 in
theorem w_X8_fog_161 {g : GT} {d : Nat} {v1 : Int32} {v2 : Int32} {v4 : Int32} {v5 : Int32} {v6 : Int32} {v7 : Int32} {v9 : Int32} {v10 : Int32} {v11 : Int32} {v12 : Int32} {v13 : Int32} {v14 : Int32} {I : IT} {J : JT} {P : Int32 → IT → JT → Prop} (hd : 1 ≤ d) (hv : VC_X8_fog_161 g d v1 v2 v4 v5 v6 v7 v9 v10 v11 v12 v13 v14 I J P) : Lp_X8_fog_161 g d v1 v2 v4 v5 v6 v7 v9 v10 v11 v12 v13 v14 I J P := by
  unfold VC_X8_fog_161 at hv
  unfold Lp_X8_fog_161
  refine a_iload 12 dX8_fog_161 rfl ?_
  refine a_iload 3 dX8_fog_163 rfl ?_
  refine a_icmp_ge 241 dX8_fog_165 rfl (fun hc => ?_) (fun hc => ?_)
  · replace hv := hv.1 hc
    refine a_iload 8 dX8_fog_241 rfl ?_
    refine a_aload_n 0 dX8_fog_243 rfl rfl ?_
    refine a_getR (r := 119) G_X8_7 sh_118 rfl dX8_fog_244 ?_
    refine a_sipush (v := 378) dX8_fog_247 (by decide) ?_
    refine a_iload_n 1 dX8_fog_250 rfl rfl ?_
    refine a_iadd dX8_fog_251 ?_
    refine a_iald sh_119 hv.1 dX8_fog_252 ?_
    replace hv := hv.2
    refine a_iload 4 dX8_fog_253 rfl ?_
    refine a_icmp_ne 263 dX8_fog_255 rfl (fun hc => ?_) (fun hc => ?_)
    · replace hv := hv.1 hc
      refine a_iconst (v := 0) dX8_fog_263 (by decide) ?_
      refine a_iadd dX8_fog_264 ?_
      refine a_istore [(10, .int (v10 + 0)), (0, .ref (ga g 118)), (1, .int v1), (2, .int v2), (4, .int v4), (5, .int v5), (6, .int v6), (7, .int v7), (9, .int v9), (11, .int v11), (12, .int v12), (13, .int v13), (14, .int v14)] dX8_fog_265 (Nat.le_of_ble_eq_true rfl) rfl ?_
      refine a_iinc 10 (v12 + 1) [(12, .int (v12 + 1)), (10, .int (v10 + 0)), (0, .ref (ga g 118)), (1, .int v1), (2, .int v2), (4, .int v4), (5, .int v5), (6, .int v6), (7, .int v7), (9, .int v9), (11, .int v11), (13, .int v13), (14, .int v14)] dX8_fog_267 rfl rfl (Nat.le_of_ble_eq_true rfl) rfl ?_
      refine a_goto 142 dX8_fog_270 rfl ?_
      exact a_sub [2, 3, 4, 5, 6, 7, 8, 9, 1, 10, 0] rfl hv
    · replace hv := hv.2 hc
      refine a_iload 11 dX8_fog_258 rfl ?_
      refine a_goto 264 dX8_fog_260 rfl ?_
      refine a_iadd dX8_fog_264 ?_
      refine a_istore [(10, .int (v10 + v13)), (0, .ref (ga g 118)), (1, .int v1), (2, .int v2), (4, .int v4), (5, .int v5), (6, .int v6), (7, .int v7), (9, .int v9), (11, .int v11), (12, .int v12), (13, .int v13), (14, .int v14)] dX8_fog_265 (Nat.le_of_ble_eq_true rfl) rfl ?_
      refine a_iinc 10 (v12 + 1) [(12, .int (v12 + 1)), (10, .int (v10 + v13)), (0, .ref (ga g 118)), (1, .int v1), (2, .int v2), (4, .int v4), (5, .int v5), (6, .int v6), (7, .int v7), (9, .int v9), (11, .int v11), (13, .int v13), (14, .int v14)] dX8_fog_267 rfl rfl (Nat.le_of_ble_eq_true rfl) rfl ?_
      refine a_goto 142 dX8_fog_270 rfl ?_
      exact a_sub [2, 3, 4, 5, 6, 7, 8, 9, 1, 10, 0] rfl hv
  · replace hv := hv.2 hc
    refine a_iload 11 dX8_fog_168 rfl ?_
    refine a_iload 10 dX8_fog_170 rfl ?_
    refine a_iload 12 dX8_fog_172 rfl ?_
    refine c_SZ (As := [.int v12, .int v14]) (rest := [.int v13]) hv K_X8_174 rfl rfl (Nat.le_of_ble_eq_true rfl) (rok (by omega) (Nat.le_of_ble_eq_true rfl)) ⟨Nat.zero_le _, Nat.zero_le _⟩ dX8_fog_174 (fun r174 I174 J174 hv => ?_)
    refine a_ifz_eq 185 dX8_fog_177 rfl (fun hc => ?_) (fun hc => ?_)
    · replace hv := hv.1 hc
      refine a_bipush (v := 10) dX8_fog_185 (by decide) ?_
      refine a_iload 5 dX8_fog_187 rfl ?_
      refine a_isub dX8_fog_189 ?_
      refine a_imul dX8_fog_190 ?_
      refine a_istore [(13, .int (v13 * (10 - v6))), (0, .ref (ga g 118)), (1, .int v1), (2, .int v2), (4, .int v4), (5, .int v5), (6, .int v6), (7, .int v7), (9, .int v9), (10, .int v10), (11, .int v11), (12, .int v12), (14, .int v14)] dX8_fog_191 (Nat.le_of_ble_eq_true rfl) rfl ?_
      refine a_iload 11 dX8_fog_193 rfl ?_
      refine a_iload 12 dX8_fog_195 rfl ?_
      refine c_SZ (As := [.int v12, .int v14]) (rest := []) hv K_X8_174 rfl rfl (Nat.le_of_ble_eq_true rfl) (rok (by omega) (Nat.le_of_ble_eq_true rfl)) ⟨Nat.zero_le _, Nat.zero_le _⟩ dX8_fog_197 (fun r197 I197 J197 hv => ?_)
      refine a_ifz_eq 215 dX8_fog_200 rfl (fun hc => ?_) (fun hc => ?_)
      · replace hv := hv.1 hc
        refine a_aload_n 1 dX8_fog_215 rfl rfl ?_
        refine a_sipush (v := 320) dX8_fog_216 (by decide) ?_
        refine a_iload_n 2 dX8_fog_219 rfl rfl ?_
        refine a_iload_n 3 dX8_fog_220 rfl rfl ?_
        refine a_aload_n 1 dX8_fog_221 rfl rfl ?_
        refine a_getR (r := 121) G_X8_16 sh_118 rfl dX8_fog_222 ?_
        refine a_iload 8 dX8_fog_225 rfl ?_
        refine a_iload 12 dX8_fog_227 rfl ?_
        refine a_iadd dX8_fog_229 ?_
        refine a_lald sh_121 hv.1 dX8_fog_230 ?_
        replace hv := hv.2
        refine a_l2i dX8_fog_231 ?_
        refine c_VV (As := [.int 320, .int v1, .int v2, .int ((J197 121 (v9 + v14).toNatClampNeg).toInt32)]) (rest := []) hv K_X8_157 sh_118 rfl rfl rfl (Nat.le_of_ble_eq_true rfl) (rok (by omega) (Nat.le_of_ble_eq_true rfl)) ⟨Nat.zero_le _, Nat.zero_le _⟩ dX8_fog_232 (fun I232 J232 hv => ?_)
        refine a_iinc 12 (v14 + 1) [(14, .int (v14 + 1)), (13, .int (v13 * (10 - v6))), (0, .ref (ga g 118)), (1, .int v1), (2, .int v2), (4, .int v4), (5, .int v5), (6, .int v6), (7, .int v7), (9, .int v9), (10, .int v10), (11, .int v11), (12, .int v12)] dX8_fog_235 rfl rfl (Nat.le_of_ble_eq_true rfl) rfl ?_
        refine a_goto 161 dX8_fog_238 rfl ?_
        exact a_sub [2, 3, 4, 5, 6, 7, 8, 9, 10, 11, 12, 1, 0] rfl hv
      · replace hv := hv.2 hc
        refine a_aload_n 1 dX8_fog_203 rfl rfl ?_
        refine a_sipush (v := 320) dX8_fog_204 (by decide) ?_
        refine a_iload_n 2 dX8_fog_207 rfl rfl ?_
        refine c_VZ (As := [.int 320, .int v1]) (rest := []) hv K_X8_142 sh_118 rfl rfl rfl (Nat.le_of_ble_eq_true rfl) (rok (by omega) (Nat.le_of_ble_eq_true rfl)) ⟨Nat.zero_le _, Nat.zero_le _⟩ dX8_fog_208 (fun r208 I208 J208 hv => ?_)
        refine a_pop dX8_fog_211 rfl ?_
        refine a_goto 235 dX8_fog_212 rfl ?_
        refine a_iinc 12 (v14 + 1) [(14, .int (v14 + 1)), (13, .int (v13 * (10 - v6))), (0, .ref (ga g 118)), (1, .int v1), (2, .int v2), (4, .int v4), (5, .int v5), (6, .int v6), (7, .int v7), (9, .int v9), (10, .int v10), (11, .int v11), (12, .int v12)] dX8_fog_235 rfl rfl (Nat.le_of_ble_eq_true rfl) rfl ?_
        refine a_goto 161 dX8_fog_238 rfl ?_
        exact a_sub [2, 3, 4, 5, 6, 7, 8, 9, 10, 11, 12, 1, 0] rfl hv
    · replace hv := hv.2 hc
      refine a_iload 5 dX8_fog_180 rfl ?_
      refine a_goto 190 dX8_fog_182 rfl ?_
      refine a_imul dX8_fog_190 ?_
      refine a_istore [(13, .int (v13 * v6)), (0, .ref (ga g 118)), (1, .int v1), (2, .int v2), (4, .int v4), (5, .int v5), (6, .int v6), (7, .int v7), (9, .int v9), (10, .int v10), (11, .int v11), (12, .int v12), (14, .int v14)] dX8_fog_191 (Nat.le_of_ble_eq_true rfl) rfl ?_
      refine a_iload 11 dX8_fog_193 rfl ?_
      refine a_iload 12 dX8_fog_195 rfl ?_
      refine c_SZ (As := [.int v12, .int v14]) (rest := []) hv K_X8_174 rfl rfl (Nat.le_of_ble_eq_true rfl) (rok (by omega) (Nat.le_of_ble_eq_true rfl)) ⟨Nat.zero_le _, Nat.zero_le _⟩ dX8_fog_197 (fun r197 I197 J197 hv => ?_)
      refine a_ifz_eq 215 dX8_fog_200 rfl (fun hc => ?_) (fun hc => ?_)
      · replace hv := hv.1 hc
        refine a_aload_n 1 dX8_fog_215 rfl rfl ?_
        refine a_sipush (v := 320) dX8_fog_216 (by decide) ?_
        refine a_iload_n 2 dX8_fog_219 rfl rfl ?_
        refine a_iload_n 3 dX8_fog_220 rfl rfl ?_
        refine a_aload_n 1 dX8_fog_221 rfl rfl ?_
        refine a_getR (r := 121) G_X8_16 sh_118 rfl dX8_fog_222 ?_
        refine a_iload 8 dX8_fog_225 rfl ?_
        refine a_iload 12 dX8_fog_227 rfl ?_
        refine a_iadd dX8_fog_229 ?_
        refine a_lald sh_121 hv.1 dX8_fog_230 ?_
        replace hv := hv.2
        refine a_l2i dX8_fog_231 ?_
        refine c_VV (As := [.int 320, .int v1, .int v2, .int ((J197 121 (v9 + v14).toNatClampNeg).toInt32)]) (rest := []) hv K_X8_157 sh_118 rfl rfl rfl (Nat.le_of_ble_eq_true rfl) (rok (by omega) (Nat.le_of_ble_eq_true rfl)) ⟨Nat.zero_le _, Nat.zero_le _⟩ dX8_fog_232 (fun I232 J232 hv => ?_)
        refine a_iinc 12 (v14 + 1) [(14, .int (v14 + 1)), (13, .int (v13 * v6)), (0, .ref (ga g 118)), (1, .int v1), (2, .int v2), (4, .int v4), (5, .int v5), (6, .int v6), (7, .int v7), (9, .int v9), (10, .int v10), (11, .int v11), (12, .int v12)] dX8_fog_235 rfl rfl (Nat.le_of_ble_eq_true rfl) rfl ?_
        refine a_goto 161 dX8_fog_238 rfl ?_
        exact a_sub [2, 3, 4, 5, 6, 7, 8, 9, 10, 11, 12, 1, 0] rfl hv
      · replace hv := hv.2 hc
        refine a_aload_n 1 dX8_fog_203 rfl rfl ?_
        refine a_sipush (v := 320) dX8_fog_204 (by decide) ?_
        refine a_iload_n 2 dX8_fog_207 rfl rfl ?_
        refine c_VZ (As := [.int 320, .int v1]) (rest := []) hv K_X8_142 sh_118 rfl rfl rfl (Nat.le_of_ble_eq_true rfl) (rok (by omega) (Nat.le_of_ble_eq_true rfl)) ⟨Nat.zero_le _, Nat.zero_le _⟩ dX8_fog_208 (fun r208 I208 J208 hv => ?_)
        refine a_pop dX8_fog_211 rfl ?_
        refine a_goto 235 dX8_fog_212 rfl ?_
        refine a_iinc 12 (v14 + 1) [(14, .int (v14 + 1)), (13, .int (v13 * v6)), (0, .ref (ga g 118)), (1, .int v1), (2, .int v2), (4, .int v4), (5, .int v5), (6, .int v6), (7, .int v7), (9, .int v9), (10, .int v10), (11, .int v11), (12, .int v12)] dX8_fog_235 rfl rfl (Nat.le_of_ble_eq_true rfl) rfl ?_
        refine a_goto 161 dX8_fog_238 rfl ?_
        exact a_sub [2, 3, 4, 5, 6, 7, 8, 9, 10, 11, 12, 1, 0] rfl hv
def VC_X8_fog_281 (g : GT) (d : Nat) (v7 : Int32) (v10 : Int32) (v11 : Int32) (v12 : Int32) (v13 : Int32) (I : IT) (J : JT) (P : Int32 → IT → JT → Prop) : Prop :=
  ((v13 = 0 → ((¬ v7 = 0 → (¬ v12 = 0 ∧ P (v11 / v12) I J)) ∧ (v7 = 0 → (¬ v12 = 0 ∧ P (v10 / v12) I J)))) ∧ (¬ v13 = 0 → (¬ v13 = 0 ∧ (Lp_X8_fog_281 g d v7 v10 v11 v13 (v12 - v12 / v13 * v13) I J P))))
set_option maxRecDepth 4000 in
theorem w_X8_fog_281 {g : GT} {d : Nat} {v7 : Int32} {v10 : Int32} {v11 : Int32} {v12 : Int32} {v13 : Int32} {I : IT} {J : JT} {P : Int32 → IT → JT → Prop} (hv : VC_X8_fog_281 g d v7 v10 v11 v12 v13 I J P) : Lp_X8_fog_281 g d v7 v10 v11 v12 v13 I J P := by
  unfold VC_X8_fog_281 at hv
  unfold Lp_X8_fog_281
  refine a_iload 4 dX8_fog_281 rfl ?_
  refine a_if_eq 304 dX8_fog_283 rfl (fun hc => ?_) (fun hc => ?_)
  · replace hv := hv.1 hc
    refine a_iload 0 dX8_fog_304 rfl ?_
    refine a_if_ne 317 dX8_fog_306 rfl (fun hc => ?_) (fun hc => ?_)
    · replace hv := hv.1 hc
      refine a_iload 2 dX8_fog_317 rfl ?_
      refine a_iload 3 dX8_fog_319 rfl ?_
      refine a_idiv dX8_fog_321 hv.1 ?_
      replace hv := hv.2
      exact a_iret rfl dX8_fog_322 hv
    · replace hv := hv.2 hc
      refine a_iload 1 dX8_fog_309 rfl ?_
      refine a_iload 3 dX8_fog_311 rfl ?_
      refine a_idiv dX8_fog_313 hv.1 ?_
      replace hv := hv.2
      refine a_goto 322 dX8_fog_314 rfl ?_
      exact a_iret rfl dX8_fog_322 hv
  · replace hv := hv.2 hc
    refine a_iload 3 dX8_fog_286 rfl ?_
    refine a_iload 4 dX8_fog_288 rfl ?_
    refine a_irem dX8_fog_290 hv.1 ?_
    replace hv := hv.2
    refine a_istore [(14, .int (v12 - v12 / v13 * v13)), (7, .int v7), (10, .int v10), (11, .int v11), (12, .int v12), (13, .int v13)] dX8_fog_291 (Nat.le_of_ble_eq_true rfl) rfl ?_
    refine a_iload 5 dX8_fog_293 rfl ?_
    refine a_istore [(12, .int v13), (14, .int (v12 - v12 / v13 * v13)), (7, .int v7), (10, .int v10), (11, .int v11), (13, .int v13)] dX8_fog_295 (Nat.le_of_ble_eq_true rfl) rfl ?_
    refine a_iload 1 dX8_fog_297 rfl ?_
    refine a_istore [(13, .int (v12 - v12 / v13 * v13)), (12, .int v13), (14, .int (v12 - v12 / v13 * v13)), (7, .int v7), (10, .int v10), (11, .int v11)] dX8_fog_299 (Nat.le_of_ble_eq_true rfl) rfl ?_
    refine a_goto 281 dX8_fog_301 rfl ?_
    exact a_sub [3, 4, 5, 1, 0] rfl hv
def VC_X8_fog_142 (g : GT) (d : Nat) (v1 : Int32) (v2 : Int32) (v4 : Int32) (v5 : Int32) (v6 : Int32) (v7 : Int32) (v9 : Int32) (v10 : Int32) (v11 : Int32) (v12 : Int32) (I : IT) (J : JT) (P : Int32 → IT → JT → Prop) : Prop :=
  (((1 <<< (v4 &&& 31)) ≤ v12 → (Lp_X8_fog_281 g d v7 v10 v11 v10 v11 I J P)) ∧ (¬ (1 <<< (v4 &&& 31)) ≤ v12 → (SemV g (d - 1) M_X8_tries [.ref (ga g 118)] I J (fun I155 J155 => (Lp_X8_fog_161 g d v1 v2 v4 v5 v6 v7 v9 v10 v11 v12 1 0 I155 J155 P)))))
set_option maxRecDepth 4000 in
theorem w_X8_fog_142 {g : GT} {d : Nat} {v1 : Int32} {v2 : Int32} {v4 : Int32} {v5 : Int32} {v6 : Int32} {v7 : Int32} {v9 : Int32} {v10 : Int32} {v11 : Int32} {v12 : Int32} {I : IT} {J : JT} {P : Int32 → IT → JT → Prop} (hd : 1 ≤ d) (hv : VC_X8_fog_142 g d v1 v2 v4 v5 v6 v7 v9 v10 v11 v12 I J P) : Lp_X8_fog_142 g d v1 v2 v4 v5 v6 v7 v9 v10 v11 v12 I J P := by
  unfold VC_X8_fog_142 at hv
  unfold Lp_X8_fog_142
  refine a_iload 10 dX8_fog_142 rfl ?_
  refine a_iconst (v := 1) dX8_fog_144 (by decide) ?_
  refine a_iload 3 dX8_fog_145 rfl ?_
  refine a_ishl dX8_fog_147 ?_
  refine a_icmp_ge 273 dX8_fog_148 rfl (fun hc => ?_) (fun hc => ?_)
  · replace hv := hv.1 hc
    refine a_iload 8 dX8_fog_273 rfl ?_
    refine a_istore [(12, .int v10), (0, .ref (ga g 118)), (1, .int v1), (2, .int v2), (4, .int v4), (5, .int v5), (6, .int v6), (7, .int v7), (9, .int v9), (10, .int v10), (11, .int v11)] dX8_fog_275 (Nat.le_of_ble_eq_true rfl) rfl ?_
    refine a_iload 10 dX8_fog_277 rfl ?_
    refine a_istore [(13, .int v11), (12, .int v10), (0, .ref (ga g 118)), (1, .int v1), (2, .int v2), (4, .int v4), (5, .int v5), (6, .int v6), (7, .int v7), (9, .int v9), (10, .int v10), (11, .int v11)] dX8_fog_279 (Nat.le_of_ble_eq_true rfl) rfl ?_
    exact a_sub [8, 10, 11, 1, 0] rfl hv
  · replace hv := hv.2 hc
    refine a_iconst (v := 1) dX8_fog_151 (by decide) ?_
    refine a_istore [(13, .int 1), (0, .ref (ga g 118)), (1, .int v1), (2, .int v2), (4, .int v4), (5, .int v5), (6, .int v6), (7, .int v7), (9, .int v9), (10, .int v10), (11, .int v11), (12, .int v12)] dX8_fog_152 (Nat.le_of_ble_eq_true rfl) rfl ?_
    refine a_aload_n 1 dX8_fog_154 rfl rfl ?_
    refine c_VV (As := []) (rest := []) hv K_X8_194 sh_118 rfl rfl rfl (Nat.le_of_ble_eq_true rfl) (rok (by omega) (Nat.le_of_ble_eq_true rfl)) ⟨Nat.zero_le _, Nat.zero_le _⟩ dX8_fog_155 (fun I155 J155 hv => ?_)
    refine a_iconst (v := 0) dX8_fog_158 (by decide) ?_
    refine a_istore [(14, .int 0), (13, .int 1), (0, .ref (ga g 118)), (1, .int v1), (2, .int v2), (4, .int v4), (5, .int v5), (6, .int v6), (7, .int v7), (9, .int v9), (10, .int v10), (11, .int v11), (12, .int v12)] dX8_fog_159 (Nat.le_of_ble_eq_true rfl) rfl ?_
    exact a_sub [2, 3, 4, 5, 6, 7, 8, 9, 10, 11, 12, 1, 0] rfl hv
def VC_X8_fog_119 (g : GT) (d : Nat) (v1 : Int32) (v2 : Int32) (v4 : Int32) (v5 : Int32) (v6 : Int32) (v7 : Int32) (v9 : Int32) (v10 : Int32) (v11 : Int32) (v12 : Int32) (I : IT) (J : JT) (P : Int32 → IT → JT → Prop) : Prop :=
  ((v4 ≤ v12 → (Lp_X8_fog_142 g d v1 v2 v4 v5 v6 v7 v9 v10 v11 0 I J P)) ∧ (¬ v4 ≤ v12 → (Lp_X8_fog_119 g d v1 v2 v4 v5 v6 v7 v9 v10 (v11 * 10) (v12 + 1) I J P)))
set_option maxRecDepth 4000 in
theorem w_X8_fog_119 {g : GT} {d : Nat} {v1 : Int32} {v2 : Int32} {v4 : Int32} {v5 : Int32} {v6 : Int32} {v7 : Int32} {v9 : Int32} {v10 : Int32} {v11 : Int32} {v12 : Int32} {I : IT} {J : JT} {P : Int32 → IT → JT → Prop} (hv : VC_X8_fog_119 g d v1 v2 v4 v5 v6 v7 v9 v10 v11 v12 I J P) : Lp_X8_fog_119 g d v1 v2 v4 v5 v6 v7 v9 v10 v11 v12 I J P := by
  unfold VC_X8_fog_119 at hv
  unfold Lp_X8_fog_119
  refine a_iload 10 dX8_fog_119 rfl ?_
  refine a_iload 3 dX8_fog_121 rfl ?_
  refine a_icmp_ge 139 dX8_fog_123 rfl (fun hc => ?_) (fun hc => ?_)
  · replace hv := hv.1 hc
    refine a_iconst (v := 0) dX8_fog_139 (by decide) ?_
    refine a_istore [(12, .int 0), (0, .ref (ga g 118)), (1, .int v1), (2, .int v2), (4, .int v4), (5, .int v5), (6, .int v6), (7, .int v7), (9, .int v9), (10, .int v10), (11, .int v11)] dX8_fog_140 (Nat.le_of_ble_eq_true rfl) rfl ?_
    exact a_sub [1, 2, 3, 4, 5, 6, 7, 8, 9, 10, 0] rfl hv
  · replace hv := hv.2 hc
    refine a_iload 9 dX8_fog_126 rfl ?_
    refine a_bipush (v := 10) dX8_fog_128 (by decide) ?_
    refine a_imul dX8_fog_130 ?_
    refine a_istore [(11, .int (v11 * 10)), (0, .ref (ga g 118)), (1, .int v1), (2, .int v2), (4, .int v4), (5, .int v5), (6, .int v6), (7, .int v7), (9, .int v9), (10, .int v10), (12, .int v12)] dX8_fog_131 (Nat.le_of_ble_eq_true rfl) rfl ?_
    refine a_iinc 10 (v12 + 1) [(12, .int (v12 + 1)), (11, .int (v11 * 10)), (0, .ref (ga g 118)), (1, .int v1), (2, .int v2), (4, .int v4), (5, .int v5), (6, .int v6), (7, .int v7), (9, .int v9), (10, .int v10)] dX8_fog_133 rfl rfl (Nat.le_of_ble_eq_true rfl) rfl ?_
    refine a_goto 119 dX8_fog_136 rfl ?_
    exact a_sub [2, 3, 4, 5, 6, 7, 8, 9, 10, 1, 0] rfl hv
def VC_X8_fog (g : GT) (d : Nat) (v1 : Int32) (v2 : Int32) (v3 : Int32) (v4 : Int32) (v5 : Int32) (v6 : Int32) (v7 : Int32) (I : IT) (J : JT) (P : Int32 → IT → JT → Prop) : Prop :=
  (SemZ g (d - 1) M_X8_isShip [.ref (ga g 118), .int v1] I J (fun r2 I2 J2 => ((r2 = false → P (-1) I2 J2) ∧ (r2 = true → (SemZ g (d - 1) M_X8_isTeller [.int v2] I2 J2 (fun r9 I9 J9 => ((r9 = false → P (-1) I9 J9) ∧ (r9 = true → (SemZ g (d - 1) M_X8_isSheet [.int v3] I9 J9 (fun r16 I16 J16 => ((r16 = false → P (-1) I16 J16) ∧ (r16 = true → (SemZ g (d - 1) M_X8_in [.long (v4.toInt64), .long 1, .long 6] I16 J16 (fun r29 I29 J29 => ((r29 = false → P (-1) I29 J29) ∧ (r29 = true → (SemZ g (d - 1) M_X8_isCell [.ref (ga g 118), .int v5] I29 J29 (fun r38 I38 J38 => ((r38 = false → P (-1) I38 J38) ∧ (r38 = true → (SemZ g (d - 1) M_X8_in [.long (v6.toInt64), .long 0, .long 10] I38 J38 (fun r51 I51 J51 => ((r51 = false → P (-1) I51 J51) ∧ (r51 = true → (SemZ g (d - 1) M_X8_in [.long (v7.toInt64), .long 0, .long 1] I51 J51 (fun r62 I62 J62 => ((r62 = true → (SemI g (d - 1) M_X8_against [.ref (ga g 118), .int v3, .int 0, .int 0, .int v4] I62 J62 (fun r76 I76 J76 => ((0 ≤ r76 → (SemZ g (d - 1) M_X8_areWords [.ref (ga g 118), .int (24 * v3), .int v4, .int 1] I76 J76 (fun r101 I101 J101 => ((r101 = true → (Lp_X8_fog_119 g d v1 v2 v4 v5 v6 v7 (24 * v3) 0 1 0 I101 J101 P)) ∧ (r101 = false → P (-2) I101 J101))))) ∧ (¬ 0 ≤ r76 → P r76 I76 J76))))) ∧ (r62 = false → P (-1) I62 J62))))))))))))))))))))))))))))
set_option maxRecDepth 4000 in
theorem w_X8_fog {g : GT} {d : Nat} {v1 : Int32} {v2 : Int32} {v3 : Int32} {v4 : Int32} {v5 : Int32} {v6 : Int32} {v7 : Int32} {I : IT} {J : JT} {P : Int32 → IT → JT → Prop} (hd : 1 ≤ d) (hv : VC_X8_fog g d v1 v2 v3 v4 v5 v6 v7 I J P) : SemI g d M_X8_fog [.ref (ga g 118), .int v1, .int v2, .int v3, .int v4, .int v5, .int v6, .int v7] I J P := by
  unfold VC_X8_fog at hv
  refine sem_intro (by decide +kernel) rfl (Nat.le_of_ble_eq_true rfl) ?_
  show AW _ 0 0 0 [(0, .ref (ga g 118)), (1, .int v1), (2, .int v2), (3, .int v3), (4, .int v4), (5, .int v5), (6, .int v6), (7, .int v7)] [] (cW g I J)
  refine a_aload_n 0 dX8_fog_0 rfl rfl ?_
  refine a_iload_n 1 dX8_fog_1 rfl rfl ?_
  refine c_VZ (As := [.int v1]) (rest := []) hv K_X8_103 sh_118 rfl rfl rfl (Nat.le_of_ble_eq_true rfl) (rok (by omega) (Nat.le_of_ble_eq_true rfl)) ⟨Nat.zero_le _, Nat.zero_le _⟩ dX8_fog_2 (fun r2 I2 J2 hv => ?_)
  refine a_ifz_eq 68 dX8_fog_5 rfl (fun hc => ?_) (fun hc => ?_)
  · replace hv := hv.1 hc
    refine a_iconst (v := (-1)) dX8_fog_68 (by decide) ?_
    exact a_iret rfl dX8_fog_69 hv
  · replace hv := hv.2 hc
    refine a_iload_n 2 dX8_fog_8 rfl rfl ?_
    refine c_SZ (As := [.int v2]) (rest := []) hv K_X8_118 rfl rfl (Nat.le_of_ble_eq_true rfl) (rok (by omega) (Nat.le_of_ble_eq_true rfl)) ⟨Nat.zero_le _, Nat.zero_le _⟩ dX8_fog_9 (fun r9 I9 J9 hv => ?_)
    refine a_ifz_eq 68 dX8_fog_12 rfl (fun hc => ?_) (fun hc => ?_)
    · replace hv := hv.1 hc
      refine a_iconst (v := (-1)) dX8_fog_68 (by decide) ?_
      exact a_iret rfl dX8_fog_69 hv
    · replace hv := hv.2 hc
      refine a_iload_n 3 dX8_fog_15 rfl rfl ?_
      refine c_SZ (As := [.int v3]) (rest := []) hv K_X8_221 rfl rfl (Nat.le_of_ble_eq_true rfl) (rok (by omega) (Nat.le_of_ble_eq_true rfl)) ⟨Nat.zero_le _, Nat.zero_le _⟩ dX8_fog_16 (fun r16 I16 J16 hv => ?_)
      refine a_ifz_eq 68 dX8_fog_19 rfl (fun hc => ?_) (fun hc => ?_)
      · replace hv := hv.1 hc
        refine a_iconst (v := (-1)) dX8_fog_68 (by decide) ?_
        exact a_iret rfl dX8_fog_69 hv
      · replace hv := hv.2 hc
        refine a_iload 4 dX8_fog_22 rfl ?_
        refine a_i2l dX8_fog_24 ?_
        refine a_lconst (v := 1) dX8_fog_25 (by decide) ?_
        refine a_ldc2 (v := 6) dX8_fog_26 cl_X8_242 ?_
        refine c_SZ (As := [.long (v4.toInt64), .long 1, .long 6]) (rest := []) hv K_X8_44 rfl rfl (Nat.le_of_ble_eq_true rfl) (rok (by omega) (Nat.le_of_ble_eq_true rfl)) ⟨Nat.zero_le _, Nat.zero_le _⟩ dX8_fog_29 (fun r29 I29 J29 hv => ?_)
        refine a_ifz_eq 68 dX8_fog_32 rfl (fun hc => ?_) (fun hc => ?_)
        · replace hv := hv.1 hc
          refine a_iconst (v := (-1)) dX8_fog_68 (by decide) ?_
          exact a_iret rfl dX8_fog_69 hv
        · replace hv := hv.2 hc
          refine a_aload_n 0 dX8_fog_35 rfl rfl ?_
          refine a_iload 5 dX8_fog_36 rfl ?_
          refine c_VZ (As := [.int v5]) (rest := []) hv K_X8_112 sh_118 rfl rfl rfl (Nat.le_of_ble_eq_true rfl) (rok (by omega) (Nat.le_of_ble_eq_true rfl)) ⟨Nat.zero_le _, Nat.zero_le _⟩ dX8_fog_38 (fun r38 I38 J38 hv => ?_)
          refine a_ifz_eq 68 dX8_fog_41 rfl (fun hc => ?_) (fun hc => ?_)
          · replace hv := hv.1 hc
            refine a_iconst (v := (-1)) dX8_fog_68 (by decide) ?_
            exact a_iret rfl dX8_fog_69 hv
          · replace hv := hv.2 hc
            refine a_iload 6 dX8_fog_44 rfl ?_
            refine a_i2l dX8_fog_46 ?_
            refine a_lconst (v := 0) dX8_fog_47 (by decide) ?_
            refine a_ldc2 (v := 10) dX8_fog_48 cl_X8_248 ?_
            refine c_SZ (As := [.long (v6.toInt64), .long 0, .long 10]) (rest := []) hv K_X8_44 rfl rfl (Nat.le_of_ble_eq_true rfl) (rok (by omega) (Nat.le_of_ble_eq_true rfl)) ⟨Nat.zero_le _, Nat.zero_le _⟩ dX8_fog_51 (fun r51 I51 J51 hv => ?_)
            refine a_ifz_eq 68 dX8_fog_54 rfl (fun hc => ?_) (fun hc => ?_)
            · replace hv := hv.1 hc
              refine a_iconst (v := (-1)) dX8_fog_68 (by decide) ?_
              exact a_iret rfl dX8_fog_69 hv
            · replace hv := hv.2 hc
              refine a_iload 7 dX8_fog_57 rfl ?_
              refine a_i2l dX8_fog_59 ?_
              refine a_lconst (v := 0) dX8_fog_60 (by decide) ?_
              refine a_lconst (v := 1) dX8_fog_61 (by decide) ?_
              refine c_SZ (As := [.long (v7.toInt64), .long 0, .long 1]) (rest := []) hv K_X8_44 rfl rfl (Nat.le_of_ble_eq_true rfl) (rok (by omega) (Nat.le_of_ble_eq_true rfl)) ⟨Nat.zero_le _, Nat.zero_le _⟩ dX8_fog_62 (fun r62 I62 J62 hv => ?_)
              refine a_ifz_ne 70 dX8_fog_65 rfl (fun hc => ?_) (fun hc => ?_)
              · replace hv := hv.1 hc
                refine a_aload_n 0 dX8_fog_70 rfl rfl ?_
                refine a_iload_n 3 dX8_fog_71 rfl rfl ?_
                refine a_iconst (v := 0) dX8_fog_72 (by decide) ?_
                refine a_iconst (v := 0) dX8_fog_73 (by decide) ?_
                refine a_iload 4 dX8_fog_74 rfl ?_
                refine c_VI (As := [.int v3, .int 0, .int 0, .int v4]) (rest := []) hv K_X8_229 sh_118 rfl rfl rfl (Nat.le_of_ble_eq_true rfl) (rok (by omega) (Nat.le_of_ble_eq_true rfl)) ⟨Nat.zero_le _, Nat.zero_le _⟩ dX8_fog_76 (fun r76 I76 J76 hv => ?_)
                refine a_istore [(8, .int r76), (0, .ref (ga g 118)), (1, .int v1), (2, .int v2), (3, .int v3), (4, .int v4), (5, .int v5), (6, .int v6), (7, .int v7)] dX8_fog_79 (Nat.le_of_ble_eq_true rfl) rfl ?_
                refine a_iload 0 dX8_fog_81 rfl ?_
                refine a_if_ge 89 dX8_fog_83 rfl (fun hc => ?_) (fun hc => ?_)
                · replace hv := hv.1 hc
                  refine a_bipush (v := 24) dX8_fog_89 (by decide) ?_
                  refine a_iload_n 4 dX8_fog_91 rfl rfl ?_
                  refine a_imul dX8_fog_92 ?_
                  refine a_istore [(9, .int (24 * v3)), (8, .int r76), (0, .ref (ga g 118)), (1, .int v1), (2, .int v2), (3, .int v3), (4, .int v4), (5, .int v5), (6, .int v6), (7, .int v7)] dX8_fog_93 (Nat.le_of_ble_eq_true rfl) rfl ?_
                  refine a_aload_n 2 dX8_fog_95 rfl rfl ?_
                  refine a_iload 0 dX8_fog_96 rfl ?_
                  refine a_iload 6 dX8_fog_98 rfl ?_
                  refine a_iconst (v := 1) dX8_fog_100 (by decide) ?_
                  refine c_VZ (As := [.int (24 * v3), .int v4, .int 1]) (rest := []) hv K_X8_239 sh_118 rfl rfl rfl (Nat.le_of_ble_eq_true rfl) (rok (by omega) (Nat.le_of_ble_eq_true rfl)) ⟨Nat.zero_le _, Nat.zero_le _⟩ dX8_fog_101 (fun r101 I101 J101 hv => ?_)
                  refine a_ifz_ne 110 dX8_fog_104 rfl (fun hc => ?_) (fun hc => ?_)
                  · replace hv := hv.1 hc
                    refine a_iconst (v := 0) dX8_fog_110 (by decide) ?_
                    refine a_istore [(10, .int 0), (9, .int (24 * v3)), (8, .int r76), (0, .ref (ga g 118)), (1, .int v1), (2, .int v2), (3, .int v3), (4, .int v4), (5, .int v5), (6, .int v6), (7, .int v7)] dX8_fog_111 (Nat.le_of_ble_eq_true rfl) rfl ?_
                    refine a_iconst (v := 1) dX8_fog_113 (by decide) ?_
                    refine a_istore [(11, .int 1), (10, .int 0), (9, .int (24 * v3)), (8, .int r76), (0, .ref (ga g 118)), (1, .int v1), (2, .int v2), (3, .int v3), (4, .int v4), (5, .int v5), (6, .int v6), (7, .int v7)] dX8_fog_114 (Nat.le_of_ble_eq_true rfl) rfl ?_
                    refine a_iconst (v := 0) dX8_fog_116 (by decide) ?_
                    refine a_istore [(12, .int 0), (11, .int 1), (10, .int 0), (9, .int (24 * v3)), (8, .int r76), (0, .ref (ga g 118)), (1, .int v1), (2, .int v2), (3, .int v3), (4, .int v4), (5, .int v5), (6, .int v6), (7, .int v7)] dX8_fog_117 (Nat.le_of_ble_eq_true rfl) rfl ?_
                    exact a_sub [5, 6, 7, 9, 10, 11, 12, 3, 2, 1, 0] rfl hv
                  · replace hv := hv.2 hc
                    refine a_bipush (v := (-2)) dX8_fog_107 (by decide) ?_
                    exact a_iret rfl dX8_fog_109 hv
                · replace hv := hv.2 hc
                  refine a_iload 0 dX8_fog_86 rfl ?_
                  exact a_iret rfl dX8_fog_88 hv
              · replace hv := hv.2 hc
                refine a_iconst (v := (-1)) dX8_fog_68 (by decide) ?_
                exact a_iret rfl dX8_fog_69 hv
def Lp_X8_harbours_4 (g : GT) (d : Nat) (v1 : Int32) (v2 : Int32) (I : IT) (J : JT) (P : Int32 → IT → JT → Prop) : Prop := AW (kM g d M_X8_harbours 0 0 (qI g P)) 0 0 4 [(0, .ref (ga g 118)), (1, .int v1), (2, .int v2)] [] (cW g I J)
def VC_X8_harbours_4 (g : GT) (d : Nat) (v1 : Int32) (v2 : Int32) (I : IT) (J : JT) (P : Int32 → IT → JT → Prop) : Prop :=
  ((48 ≤ v2 → P v1 I J) ∧ (¬ 48 ≤ v2 → (SemZ g (d - 1) M_X8_isCell [.ref (ga g 118), .int v2] I J (fun r13 I13 J13 => ((r13 = false → (Lp_X8_harbours_4 g d (v1 + 0) (v2 + 1) I13 J13 P)) ∧ (r13 = true → (vp_in (3 + v2) 952 ∧ ((¬ (I13 119 (3 + v2).toNatClampNeg) = 2 → (Lp_X8_harbours_4 g d (v1 + 0) (v2 + 1) I13 J13 P)) ∧ ((I13 119 (3 + v2).toNatClampNeg) = 2 → (Lp_X8_harbours_4 g d (v1 + 1) (v2 + 1) I13 J13 P))))))))))
set_option maxRecDepth 4000 in
theorem w_X8_harbours_4 {g : GT} {d : Nat} {v1 : Int32} {v2 : Int32} {I : IT} {J : JT} {P : Int32 → IT → JT → Prop} (hd : 1 ≤ d) (hv : VC_X8_harbours_4 g d v1 v2 I J P) : Lp_X8_harbours_4 g d v1 v2 I J P := by
  unfold VC_X8_harbours_4 at hv
  unfold Lp_X8_harbours_4
  refine a_iload_n 2 dX8_harbours_4 rfl rfl ?_
  refine a_bipush (v := 48) dX8_harbours_5 (by decide) ?_
  refine a_icmp_ge 44 dX8_harbours_7 rfl (fun hc => ?_) (fun hc => ?_)
  · replace hv := hv.1 hc
    refine a_iload_n 1 dX8_harbours_44 rfl rfl ?_
    exact a_iret rfl dX8_harbours_45 hv
  · replace hv := hv.2 hc
    refine a_iload_n 1 dX8_harbours_10 rfl rfl ?_
    refine a_aload_n 0 dX8_harbours_11 rfl rfl ?_
    refine a_iload_n 2 dX8_harbours_12 rfl rfl ?_
    refine c_VZ (As := [.int v2]) (rest := [.int v1]) hv K_X8_112 sh_118 rfl rfl rfl (Nat.le_of_ble_eq_true rfl) (rok (by omega) (Nat.le_of_ble_eq_true rfl)) ⟨Nat.zero_le _, Nat.zero_le _⟩ dX8_harbours_13 (fun r13 I13 J13 hv => ?_)
    refine a_ifz_eq 35 dX8_harbours_16 rfl (fun hc => ?_) (fun hc => ?_)
    · replace hv := hv.1 hc
      refine a_iconst (v := 0) dX8_harbours_35 (by decide) ?_
      refine a_iadd dX8_harbours_36 ?_
      refine a_istore_n [(1, .int (v1 + 0)), (0, .ref (ga g 118)), (2, .int v2)] dX8_harbours_37 rfl (Nat.le_of_ble_eq_true rfl) rfl ?_
      refine a_iinc 2 (v2 + 1) [(2, .int (v2 + 1)), (1, .int (v1 + 0)), (0, .ref (ga g 118))] dX8_harbours_38 rfl rfl (Nat.le_of_ble_eq_true rfl) rfl ?_
      refine a_goto 4 dX8_harbours_41 rfl ?_
      exact a_sub [2, 1, 0] rfl hv
    · replace hv := hv.2 hc
      refine a_aload_n 0 dX8_harbours_19 rfl rfl ?_
      refine a_getR (r := 119) G_X8_7 sh_118 rfl dX8_harbours_20 ?_
      refine a_iconst (v := 3) dX8_harbours_23 (by decide) ?_
      refine a_iload_n 2 dX8_harbours_24 rfl rfl ?_
      refine a_iadd dX8_harbours_25 ?_
      refine a_iald sh_119 hv.1 dX8_harbours_26 ?_
      replace hv := hv.2
      refine a_iconst (v := 2) dX8_harbours_27 (by decide) ?_
      refine a_icmp_ne 35 dX8_harbours_28 rfl (fun hc => ?_) (fun hc => ?_)
      · replace hv := hv.1 hc
        refine a_iconst (v := 0) dX8_harbours_35 (by decide) ?_
        refine a_iadd dX8_harbours_36 ?_
        refine a_istore_n [(1, .int (v1 + 0)), (0, .ref (ga g 118)), (2, .int v2)] dX8_harbours_37 rfl (Nat.le_of_ble_eq_true rfl) rfl ?_
        refine a_iinc 2 (v2 + 1) [(2, .int (v2 + 1)), (1, .int (v1 + 0)), (0, .ref (ga g 118))] dX8_harbours_38 rfl rfl (Nat.le_of_ble_eq_true rfl) rfl ?_
        refine a_goto 4 dX8_harbours_41 rfl ?_
        exact a_sub [2, 1, 0] rfl hv
      · replace hv := hv.2 hc
        refine a_iconst (v := 1) dX8_harbours_31 (by decide) ?_
        refine a_goto 36 dX8_harbours_32 rfl ?_
        refine a_iadd dX8_harbours_36 ?_
        refine a_istore_n [(1, .int (v1 + 1)), (0, .ref (ga g 118)), (2, .int v2)] dX8_harbours_37 rfl (Nat.le_of_ble_eq_true rfl) rfl ?_
        refine a_iinc 2 (v2 + 1) [(2, .int (v2 + 1)), (1, .int (v1 + 1)), (0, .ref (ga g 118))] dX8_harbours_38 rfl rfl (Nat.le_of_ble_eq_true rfl) rfl ?_
        refine a_goto 4 dX8_harbours_41 rfl ?_
        exact a_sub [2, 1, 0] rfl hv
def VC_X8_harbours (g : GT) (d : Nat)  (I : IT) (J : JT) (P : Int32 → IT → JT → Prop) : Prop :=
  (Lp_X8_harbours_4 g d 0 0 I J P)
set_option maxRecDepth 4000 in
theorem w_X8_harbours {g : GT} {d : Nat}  {I : IT} {J : JT} {P : Int32 → IT → JT → Prop} (hv : VC_X8_harbours g d  I J P) : SemI g d M_X8_harbours [.ref (ga g 118)] I J P := by
  unfold VC_X8_harbours at hv
  refine sem_intro (by decide +kernel) rfl (Nat.le_of_ble_eq_true rfl) ?_
  show AW _ 0 0 0 [(0, .ref (ga g 118))] [] (cW g I J)
  refine a_iconst (v := 0) dX8_harbours_0 (by decide) ?_
  refine a_istore_n [(1, .int 0), (0, .ref (ga g 118))] dX8_harbours_1 rfl (Nat.le_of_ble_eq_true rfl) rfl ?_
  refine a_iconst (v := 0) dX8_harbours_2 (by decide) ?_
  refine a_istore_n [(2, .int 0), (1, .int 0), (0, .ref (ga g 118))] dX8_harbours_3 rfl (Nat.le_of_ble_eq_true rfl) rfl ?_
  exact a_sub [2, 1, 0] rfl hv
def Lp_X8_inHarbour_4 (g : GT) (d : Nat) (v1 : Int32) (v2 : Int32) (I : IT) (J : JT) (P : Int32 → IT → JT → Prop) : Prop := AW (kM g d M_X8_inHarbour 0 0 (qI g P)) 0 0 4 [(0, .ref (ga g 118)), (1, .int v1), (2, .int v2)] [] (cW g I J)
def VC_X8_inHarbour_4 (g : GT) (d : Nat) (v1 : Int32) (v2 : Int32) (I : IT) (J : JT) (P : Int32 → IT → JT → Prop) : Prop :=
  (((I 119 0) ≤ v2 → P v1 I J) ∧ (¬ (I 119 0) ≤ v2 → (vp_in (58 + v2) 952 ∧ (vp_in (3 + (I 119 (58 + v2).toNatClampNeg)) 952 ∧ ((¬ (I 119 (3 + (I 119 (58 + v2).toNatClampNeg)).toNatClampNeg) = 2 → (Lp_X8_inHarbour_4 g d (v1 ||| 0) (v2 + 1) I J P)) ∧ ((I 119 (3 + (I 119 (58 + v2).toNatClampNeg)).toNatClampNeg) = 2 → (Lp_X8_inHarbour_4 g d (v1 ||| (1 <<< (v2 &&& 31))) (v2 + 1) I J P)))))))
set_option maxRecDepth 4000 in
theorem w_X8_inHarbour_4 {g : GT} {d : Nat} {v1 : Int32} {v2 : Int32} {I : IT} {J : JT} {P : Int32 → IT → JT → Prop} (hv : VC_X8_inHarbour_4 g d v1 v2 I J P) : Lp_X8_inHarbour_4 g d v1 v2 I J P := by
  unfold VC_X8_inHarbour_4 at hv
  unfold Lp_X8_inHarbour_4
  refine a_iload_n 2 dX8_inHarbour_4 rfl rfl ?_
  refine a_aload_n 0 dX8_inHarbour_5 rfl rfl ?_
  refine a_getR (r := 119) G_X8_7 sh_118 rfl dX8_inHarbour_6 ?_
  refine a_iconst (v := 0) dX8_inHarbour_9 (by decide) ?_
  refine a_iald sh_119 (by unfold vp_in; decide) dX8_inHarbour_10 ?_
  refine a_icmp_ge 50 dX8_inHarbour_11 rfl (fun hc => ?_) (fun hc => ?_)
  · replace hv := hv.1 hc
    refine a_iload_n 1 dX8_inHarbour_50 rfl rfl ?_
    exact a_iret rfl dX8_inHarbour_51 hv
  · replace hv := hv.2 hc
    refine a_iload_n 1 dX8_inHarbour_14 rfl rfl ?_
    refine a_aload_n 0 dX8_inHarbour_15 rfl rfl ?_
    refine a_getR (r := 119) G_X8_7 sh_118 rfl dX8_inHarbour_16 ?_
    refine a_iconst (v := 3) dX8_inHarbour_19 (by decide) ?_
    refine a_aload_n 0 dX8_inHarbour_20 rfl rfl ?_
    refine a_getR (r := 119) G_X8_7 sh_118 rfl dX8_inHarbour_21 ?_
    refine a_bipush (v := 58) dX8_inHarbour_24 (by decide) ?_
    refine a_iload_n 2 dX8_inHarbour_26 rfl rfl ?_
    refine a_iadd dX8_inHarbour_27 ?_
    refine a_iald sh_119 hv.1 dX8_inHarbour_28 ?_
    replace hv := hv.2
    refine a_iadd dX8_inHarbour_29 ?_
    refine a_iald sh_119 hv.1 dX8_inHarbour_30 ?_
    replace hv := hv.2
    refine a_iconst (v := 2) dX8_inHarbour_31 (by decide) ?_
    refine a_icmp_ne 41 dX8_inHarbour_32 rfl (fun hc => ?_) (fun hc => ?_)
    · replace hv := hv.1 hc
      refine a_iconst (v := 0) dX8_inHarbour_41 (by decide) ?_
      refine a_ior dX8_inHarbour_42 ?_
      refine a_istore_n [(1, .int (v1 ||| 0)), (0, .ref (ga g 118)), (2, .int v2)] dX8_inHarbour_43 rfl (Nat.le_of_ble_eq_true rfl) rfl ?_
      refine a_iinc 2 (v2 + 1) [(2, .int (v2 + 1)), (1, .int (v1 ||| 0)), (0, .ref (ga g 118))] dX8_inHarbour_44 rfl rfl (Nat.le_of_ble_eq_true rfl) rfl ?_
      refine a_goto 4 dX8_inHarbour_47 rfl ?_
      exact a_sub [2, 1, 0] rfl hv
    · replace hv := hv.2 hc
      refine a_iconst (v := 1) dX8_inHarbour_35 (by decide) ?_
      refine a_iload_n 2 dX8_inHarbour_36 rfl rfl ?_
      refine a_ishl dX8_inHarbour_37 ?_
      refine a_goto 42 dX8_inHarbour_38 rfl ?_
      refine a_ior dX8_inHarbour_42 ?_
      refine a_istore_n [(1, .int (v1 ||| (1 <<< (v2 &&& 31)))), (0, .ref (ga g 118)), (2, .int v2)] dX8_inHarbour_43 rfl (Nat.le_of_ble_eq_true rfl) rfl ?_
      refine a_iinc 2 (v2 + 1) [(2, .int (v2 + 1)), (1, .int (v1 ||| (1 <<< (v2 &&& 31)))), (0, .ref (ga g 118))] dX8_inHarbour_44 rfl rfl (Nat.le_of_ble_eq_true rfl) rfl ?_
      refine a_goto 4 dX8_inHarbour_47 rfl ?_
      exact a_sub [2, 1, 0] rfl hv
def VC_X8_inHarbour (g : GT) (d : Nat)  (I : IT) (J : JT) (P : Int32 → IT → JT → Prop) : Prop :=
  (Lp_X8_inHarbour_4 g d 0 0 I J P)
set_option maxRecDepth 4000 in
theorem w_X8_inHarbour {g : GT} {d : Nat}  {I : IT} {J : JT} {P : Int32 → IT → JT → Prop} (hv : VC_X8_inHarbour g d  I J P) : SemI g d M_X8_inHarbour [.ref (ga g 118)] I J P := by
  unfold VC_X8_inHarbour at hv
  refine sem_intro (by decide +kernel) rfl (Nat.le_of_ble_eq_true rfl) ?_
  show AW _ 0 0 0 [(0, .ref (ga g 118))] [] (cW g I J)
  refine a_iconst (v := 0) dX8_inHarbour_0 (by decide) ?_
  refine a_istore_n [(1, .int 0), (0, .ref (ga g 118))] dX8_inHarbour_1 rfl (Nat.le_of_ble_eq_true rfl) rfl ?_
  refine a_iconst (v := 0) dX8_inHarbour_2 (by decide) ?_
  refine a_istore_n [(2, .int 0), (1, .int 0), (0, .ref (ga g 118))] dX8_inHarbour_3 rfl (Nat.le_of_ble_eq_true rfl) rfl ?_
  exact a_sub [2, 1, 0] rfl hv
def VC_X8_count (g : GT) (d : Nat) (v1 : Int32) (I : IT) (J : JT) (P : Int32 → IT → JT → Prop) : Prop :=
  ((v1 = 0 → P (I 119 0) I J) ∧ (v1 = 1 → P (I 119 2) I J) ∧ (v1 = 2 → P (I 119 1) I J) ∧ (v1 = 3 → P (I 119 57) I J) ∧ (v1 = 4 → (SemI g (d - 1) M_X8_wormAll [.ref (ga g 118), .int 0] I J (fun r87 I87 J87 => P r87 I87 J87))) ∧ (v1 = 5 → (SemI g (d - 1) M_X8_creditAll [.ref (ga g 118), .int 0] I J (fun r93 I93 J93 => P r93 I93 J93))) ∧ (v1 = 6 → (SemI g (d - 1) M_X8_harbours [.ref (ga g 118)] I J (fun r98 I98 J98 => P r98 I98 J98))) ∧ (v1 = 7 → (SemI g (d - 1) M_X8_inHarbour [.ref (ga g 118)] I J (fun r103 I103 J103 => P r103 I103 J103))) ∧ (v1 = 8 → P (I 118 1) I J) ∧ (v1 = 9 → P (I 118 3) I J) ∧ (¬ v1 = 0 ∧ ¬ v1 = 1 ∧ ¬ v1 = 2 ∧ ¬ v1 = 3 ∧ ¬ v1 = 4 ∧ ¬ v1 = 5 ∧ ¬ v1 = 6 ∧ ¬ v1 = 7 ∧ ¬ v1 = 8 ∧ ¬ v1 = 9 → P (-1) I J))
set_option maxRecDepth 4000 in
theorem w_X8_count {g : GT} {d : Nat} {v1 : Int32} {I : IT} {J : JT} {P : Int32 → IT → JT → Prop} (hd : 1 ≤ d) (hv : VC_X8_count g d v1 I J P) : SemI g d M_X8_count [.ref (ga g 118), .int v1] I J P := by
  unfold VC_X8_count at hv
  refine sem_intro (by decide +kernel) rfl (Nat.le_of_ble_eq_true rfl) ?_
  show AW _ 0 0 0 [(0, .ref (ga g 118)), (1, .int v1)] [] (cW g I J)
  refine a_iload_n 1 dX8_count_0 rfl rfl ?_
  by_cases hq0 : v1 = 0
  · replace hv := hv.1 hq0
    refine a_tabIn (off := (55)) 56 dX8_count_1 (by rw [hq0]; decide) (by rw [hq0]; decide) (by rw [hq0]; decide) rfl ?_
    refine a_aload_n 0 dX8_count_56 rfl rfl ?_
    refine a_getR (r := 119) G_X8_7 sh_118 rfl dX8_count_57 ?_
    refine a_iconst (v := 0) dX8_count_60 (by decide) ?_
    refine a_iald sh_119 (by unfold vp_in; decide) dX8_count_61 ?_
    exact a_iret rfl dX8_count_62 hv
  · replace hv := hv.2
    by_cases hq1 : v1 = 1
    · replace hv := hv.1 hq1
      refine a_tabIn (off := (62)) 63 dX8_count_1 (by rw [hq1]; decide) (by rw [hq1]; decide) (by rw [hq1]; decide) rfl ?_
      refine a_aload_n 0 dX8_count_63 rfl rfl ?_
      refine a_getR (r := 119) G_X8_7 sh_118 rfl dX8_count_64 ?_
      refine a_iconst (v := 2) dX8_count_67 (by decide) ?_
      refine a_iald sh_119 (by unfold vp_in; decide) dX8_count_68 ?_
      exact a_iret rfl dX8_count_69 hv
    · replace hv := hv.2
      by_cases hq2 : v1 = 2
      · replace hv := hv.1 hq2
        refine a_tabIn (off := (69)) 70 dX8_count_1 (by rw [hq2]; decide) (by rw [hq2]; decide) (by rw [hq2]; decide) rfl ?_
        refine a_aload_n 0 dX8_count_70 rfl rfl ?_
        refine a_getR (r := 119) G_X8_7 sh_118 rfl dX8_count_71 ?_
        refine a_iconst (v := 1) dX8_count_74 (by decide) ?_
        refine a_iald sh_119 (by unfold vp_in; decide) dX8_count_75 ?_
        exact a_iret rfl dX8_count_76 hv
      · replace hv := hv.2
        by_cases hq3 : v1 = 3
        · replace hv := hv.1 hq3
          refine a_tabIn (off := (76)) 77 dX8_count_1 (by rw [hq3]; decide) (by rw [hq3]; decide) (by rw [hq3]; decide) rfl ?_
          refine a_aload_n 0 dX8_count_77 rfl rfl ?_
          refine a_getR (r := 119) G_X8_7 sh_118 rfl dX8_count_78 ?_
          refine a_bipush (v := 57) dX8_count_81 (by decide) ?_
          refine a_iald sh_119 (by unfold vp_in; decide) dX8_count_83 ?_
          exact a_iret rfl dX8_count_84 hv
        · replace hv := hv.2
          by_cases hq4 : v1 = 4
          · replace hv := hv.1 hq4
            refine a_tabIn (off := (84)) 85 dX8_count_1 (by rw [hq4]; decide) (by rw [hq4]; decide) (by rw [hq4]; decide) rfl ?_
            refine a_aload_n 0 dX8_count_85 rfl rfl ?_
            refine a_iconst (v := 0) dX8_count_86 (by decide) ?_
            refine c_VI (As := [.int 0]) (rest := []) hv K_X8_215 sh_118 rfl rfl rfl (Nat.le_of_ble_eq_true rfl) (rok (by omega) (Nat.le_of_ble_eq_true rfl)) ⟨Nat.zero_le _, Nat.zero_le _⟩ dX8_count_87 (fun r87 I87 J87 hv => ?_)
            exact a_iret rfl dX8_count_90 hv
          · replace hv := hv.2
            by_cases hq5 : v1 = 5
            · replace hv := hv.1 hq5
              refine a_tabIn (off := (90)) 91 dX8_count_1 (by rw [hq5]; decide) (by rw [hq5]; decide) (by rw [hq5]; decide) rfl ?_
              refine a_aload_n 0 dX8_count_91 rfl rfl ?_
              refine a_iconst (v := 0) dX8_count_92 (by decide) ?_
              refine c_VI (As := [.int 0]) (rest := []) hv K_X8_218 sh_118 rfl rfl rfl (Nat.le_of_ble_eq_true rfl) (rok (by omega) (Nat.le_of_ble_eq_true rfl)) ⟨Nat.zero_le _, Nat.zero_le _⟩ dX8_count_93 (fun r93 I93 J93 hv => ?_)
              exact a_iret rfl dX8_count_96 hv
            · replace hv := hv.2
              by_cases hq6 : v1 = 6
              · replace hv := hv.1 hq6
                refine a_tabIn (off := (96)) 97 dX8_count_1 (by rw [hq6]; decide) (by rw [hq6]; decide) (by rw [hq6]; decide) rfl ?_
                refine a_aload_n 0 dX8_count_97 rfl rfl ?_
                refine c_VI (As := []) (rest := []) hv K_X8_254 sh_118 rfl rfl rfl (Nat.le_of_ble_eq_true rfl) (rok (by omega) (Nat.le_of_ble_eq_true rfl)) ⟨Nat.zero_le _, Nat.zero_le _⟩ dX8_count_98 (fun r98 I98 J98 hv => ?_)
                exact a_iret rfl dX8_count_101 hv
              · replace hv := hv.2
                by_cases hq7 : v1 = 7
                · replace hv := hv.1 hq7
                  refine a_tabIn (off := (101)) 102 dX8_count_1 (by rw [hq7]; decide) (by rw [hq7]; decide) (by rw [hq7]; decide) rfl ?_
                  refine a_aload_n 0 dX8_count_102 rfl rfl ?_
                  refine c_VI (As := []) (rest := []) hv K_X8_257 sh_118 rfl rfl rfl (Nat.le_of_ble_eq_true rfl) (rok (by omega) (Nat.le_of_ble_eq_true rfl)) ⟨Nat.zero_le _, Nat.zero_le _⟩ dX8_count_103 (fun r103 I103 J103 hv => ?_)
                  exact a_iret rfl dX8_count_106 hv
                · replace hv := hv.2
                  by_cases hq8 : v1 = 8
                  · replace hv := hv.1 hq8
                    refine a_tabIn (off := (106)) 107 dX8_count_1 (by rw [hq8]; decide) (by rw [hq8]; decide) (by rw [hq8]; decide) rfl ?_
                    refine a_aload_n 0 dX8_count_107 rfl rfl ?_
                    refine a_getI G_X8_100 sh_118 rfl dX8_count_108 ?_
                    exact a_iret rfl dX8_count_111 hv
                  · replace hv := hv.2
                    by_cases hq9 : v1 = 9
                    · replace hv := hv.1 hq9
                      refine a_tabIn (off := (111)) 112 dX8_count_1 (by rw [hq9]; decide) (by rw [hq9]; decide) (by rw [hq9]; decide) rfl ?_
                      refine a_aload_n 0 dX8_count_112 rfl rfl ?_
                      refine a_getI G_X8_56 sh_118 rfl dX8_count_113 ?_
                      exact a_iret rfl dX8_count_116 hv
                    · replace hv := hv.2
                      replace hv := hv ⟨hq0, hq1, hq2, hq3, hq4, hq5, hq6, hq7, hq8, hq9⟩
                      refine a_tabOut 117 dX8_count_1 (by have q0 := tI_ne (c := 0) (n := 0) (by decide) hq0; have q1 := tI_ne (c := 1) (n := 1) (by decide) hq1; have q2 := tI_ne (c := 2) (n := 2) (by decide) hq2; have q3 := tI_ne (c := 3) (n := 3) (by decide) hq3; have q4 := tI_ne (c := 4) (n := 4) (by decide) hq4; have q5 := tI_ne (c := 5) (n := 5) (by decide) hq5; have q6 := tI_ne (c := 6) (n := 6) (by decide) hq6; have q7 := tI_ne (c := 7) (n := 7) (by decide) hq7; have q8 := tI_ne (c := 8) (n := 8) (by decide) hq8; have q9 := tI_ne (c := 9) (n := 9) (by decide) hq9; omega) rfl ?_
                      refine a_iconst (v := (-1)) dX8_count_117 (by decide) ?_
                      exact a_iret rfl dX8_count_118 hv
