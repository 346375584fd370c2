def VC_J0_indexOf_0f7a4 (g : GT) (d : Nat) (o0 : Nat) (v1 : Int32) (I : IT) (J : JT) (P : Int32 → IT → JT → Prop) : Prop :=
  (SemI g (d - 1) M_J0_indexOf_7cf53 [.ref (gR g (3 + o0)), .int v1, .int 0] I J (fun r3 I3 J3 => P r3 I3 J3))
set_option maxRecDepth 4000 in
theorem w_J0_indexOf_0f7a4 {g : GT} {d : Nat} {o0 : Nat} {v1 : Int32} {I : IT} {J : JT} {P : Int32 → IT → JT → Prop} (ho0 : o0 < 3) (hd : 1 ≤ d) (hv : VC_J0_indexOf_0f7a4 g d o0 v1 I J P) : SemI g d M_J0_indexOf_0f7a4 [.ref (gR g (3 + o0)), .int v1] I J P := by
  unfold VC_J0_indexOf_0f7a4 at hv
  refine sem_intro (by decide +kernel) rfl (Nat.le_of_ble_eq_true rfl) ?_
  show AW _ 0 0 0 [(0, .ref (gR g (3 + o0))), (1, .int v1)] [] (cW g I J)
  refine a_aload_n 0 dJ0_indexOf_0f7a4_0 rfl rfl ?_
  refine a_iload_n 1 dJ0_indexOf_0f7a4_1 rfl rfl ?_
  refine a_iconst (v := 0) dJ0_indexOf_0f7a4_2 (by decide) ?_
  refine c_strI (As := [.int v1, .int 0]) (rest := []) ho0 hv K_J0_633 rfl rfl rfl (Nat.le_of_ble_eq_true rfl) (rok (by omega) (Nat.le_of_ble_eq_true rfl)) ⟨Nat.zero_le _, Nat.zero_le _⟩ dJ0_indexOf_0f7a4_3 (fun r3 I3 J3 hv => ?_)
  exact a_iret rfl dJ0_indexOf_0f7a4_6 hv
def VC_J0_indexOf_7cf53 (g : GT) (d : Nat) (o0 : Nat) (v1 : Int32) (v2 : Int32) (I : IT) (J : JT) (P : Int32 → IT → JT → Prop) : Prop :=
  (SemZ g (d - 1) M_J0_isLatin1_aae02 [.ref (gR g (3 + o0))] I J (fun r1 I1 J1 => ((r1 = false → (SemI g (d - 1) M_J0_length_8abf5 [.ref (gR g (3 + o0))] I1 J1 (fun r30 I30 J30 => (SemI g (d - 1) M_J2_indexOf_4cfef [.ref (gR g (6 + o0)), .int v1, .int v2, .int r30] I30 J30 (fun r33 I33 J33 => P r33 I33 J33))))) ∧ (r1 = true → (SemI g (d - 1) M_J0_length_8abf5 [.ref (gR g (3 + o0))] I1 J1 (fun r14 I14 J14 => (SemI g (d - 1) M_J1_indexOf_4cfef [.ref (gR g (6 + o0)), .int v1, .int v2, .int r14] I14 J14 (fun r17 I17 J17 => P r17 I17 J17))))))))
set_option maxRecDepth 4000 in
theorem w_J0_indexOf_7cf53 {g : GT} {d : Nat} {o0 : Nat} {v1 : Int32} {v2 : Int32} {I : IT} {J : JT} {P : Int32 → IT → JT → Prop} (ho0 : o0 < 3) (hd : 1 ≤ d) (hv : VC_J0_indexOf_7cf53 g d o0 v1 v2 I J P) : SemI g d M_J0_indexOf_7cf53 [.ref (gR g (3 + o0)), .int v1, .int v2] I J P := by
  unfold VC_J0_indexOf_7cf53 at hv
  refine sem_intro (by decide +kernel) rfl (Nat.le_of_ble_eq_true rfl) ?_
  show AW _ 0 0 0 [(0, .ref (gR g (3 + o0))), (1, .int v1), (2, .int v2)] [] (cW g I J)
  refine a_aload_n 0 dJ0_indexOf_7cf53_0 rfl rfl ?_
  refine c_strZ (As := []) (rest := []) ho0 hv K_J0_492 rfl rfl rfl (Nat.le_of_ble_eq_true rfl) (rok (by omega) (Nat.le_of_ble_eq_true rfl)) ⟨Nat.zero_le _, Nat.zero_le _⟩ dJ0_indexOf_7cf53_1 (fun r1 I1 J1 hv => ?_)
  refine a_ifz_eq 23 dJ0_indexOf_7cf53_4 rfl (fun hc => ?_) (fun hc => ?_)
  · replace hv := hv.1 hc
    refine a_aload_n 0 dJ0_indexOf_7cf53_23 rfl rfl ?_
    refine a_value ho0 fk_value dJ0_indexOf_7cf53_24 ?_
    refine a_iload_n 1 dJ0_indexOf_7cf53_27 rfl rfl ?_
    refine a_iload_n 2 dJ0_indexOf_7cf53_28 rfl rfl ?_
    refine a_aload_n 0 dJ0_indexOf_7cf53_29 rfl rfl ?_
    refine c_strI (As := []) (rest := [.int v2, .int v1, .ref (gR g (6 + o0))]) ho0 hv K_J0_505 rfl rfl rfl (Nat.le_of_ble_eq_true rfl) (rok (by omega) (Nat.le_of_ble_eq_true rfl)) ⟨Nat.zero_le _, Nat.zero_le _⟩ dJ0_indexOf_7cf53_30 (fun r30 I30 J30 hv => ?_)
    refine c_SI (As := [.ref (gR g (6 + o0)), .int v1, .int v2, .int r30]) (rest := []) hv K_J0_640 rfl rfl (Nat.le_of_ble_eq_true rfl) (rok (by omega) (Nat.le_of_ble_eq_true rfl)) ⟨Nat.zero_le _, Nat.zero_le _⟩ dJ0_indexOf_7cf53_33 (fun r33 I33 J33 hv => ?_)
    exact a_iret rfl dJ0_indexOf_7cf53_36 hv
  · replace hv := hv.2 hc
    refine a_aload_n 0 dJ0_indexOf_7cf53_7 rfl rfl ?_
    refine a_value ho0 fk_value dJ0_indexOf_7cf53_8 ?_
    refine a_iload_n 1 dJ0_indexOf_7cf53_11 rfl rfl ?_
    refine a_iload_n 2 dJ0_indexOf_7cf53_12 rfl rfl ?_
    refine a_aload_n 0 dJ0_indexOf_7cf53_13 rfl rfl ?_
    refine c_strI (As := []) (rest := [.int v2, .int v1, .ref (gR g (6 + o0))]) ho0 hv K_J0_505 rfl rfl rfl (Nat.le_of_ble_eq_true rfl) (rok (by omega) (Nat.le_of_ble_eq_true rfl)) ⟨Nat.zero_le _, Nat.zero_le _⟩ dJ0_indexOf_7cf53_14 (fun r14 I14 J14 hv => ?_)
    refine c_SI (As := [.ref (gR g (6 + o0)), .int v1, .int v2, .int r14]) (rest := []) hv K_J0_637 rfl rfl (Nat.le_of_ble_eq_true rfl) (rok (by omega) (Nat.le_of_ble_eq_true rfl)) ⟨Nat.zero_le _, Nat.zero_le _⟩ dJ0_indexOf_7cf53_17 (fun r17 I17 J17 hv => ?_)
    refine a_goto 36 dJ0_indexOf_7cf53_20 rfl ?_
    exact a_iret rfl dJ0_indexOf_7cf53_36 hv
def VC_J0_isLatin1_aae02 (g : GT) (d : Nat) (o0 : Nat) (I : IT) (J : JT) (P : Bool → IT → JT → Prop) : Prop :=
  P true I J
set_option maxRecDepth 4000 in
theorem w_J0_isLatin1_aae02 {g : GT} {d : Nat} {o0 : Nat} {I : IT} {J : JT} {P : Bool → IT → JT → Prop} (ho0 : o0 < 3) (hv : VC_J0_isLatin1_aae02 g d o0 I J P) : SemZ g d M_J0_isLatin1_aae02 [.ref (gR g (3 + o0))] I J P := by
  unfold VC_J0_isLatin1_aae02 at hv
  refine sem_intro (by decide +kernel) rfl (Nat.le_of_ble_eq_true rfl) ?_
  show AW _ 0 0 0 [(0, .ref (gR g (3 + o0)))] [] (cW g I J)
  refine a_COMP fk_comp dJ0_isLatin1_aae02_0 ?_
  refine a_if_eq 17 dJ0_isLatin1_aae02_3 rfl (fun hc => absurd hc (by decide)) (fun _ => ?_)
  refine a_aload_n 0 dJ0_isLatin1_aae02_6 rfl rfl ?_
  refine a_coder ho0 fk_coder dJ0_isLatin1_aae02_7 ?_
  refine a_if_ne 17 dJ0_isLatin1_aae02_10 rfl (fun hc => absurd hc (by decide)) (fun _ => ?_)
  refine a_iconst (v := 1) dJ0_isLatin1_aae02_13 (by decide) ?_
  refine a_goto 18 dJ0_isLatin1_aae02_14 rfl ?_
  exact a_zret _ true (by decide) rfl dJ0_isLatin1_aae02_18 hv
def VC_J1_canEncode_9a6ad (g : GT) (d : Nat) (v0 : Int32) (I : IT) (J : JT) (P : Bool → IT → JT → Prop) : Prop :=
  ((v0 < 0 → P false I J) ∧ (¬ v0 < 0 → ((255 < v0 → P false I J) ∧ (¬ 255 < v0 → P true I J))))
set_option maxRecDepth 4000 in
theorem w_J1_canEncode_9a6ad {g : GT} {d : Nat} {v0 : Int32} {I : IT} {J : JT} {P : Bool → IT → JT → Prop} (hv : VC_J1_canEncode_9a6ad g d v0 I J P) : SemZ g d M_J1_canEncode_9a6ad [.int v0] I J P := by
  unfold VC_J1_canEncode_9a6ad at hv
  refine sem_intro (by decide +kernel) rfl (Nat.le_of_ble_eq_true rfl) ?_
  show AW _ 0 0 0 [(0, .int v0)] [] (cW g I J)
  refine a_iload_n 0 dJ1_canEncode_9a6ad_0 rfl rfl ?_
  refine a_if_lt 15 dJ1_canEncode_9a6ad_1 rfl (fun hc => ?_) (fun hc => ?_)
  · replace hv := hv.1 hc
    refine a_iconst (v := 0) dJ1_canEncode_9a6ad_15 (by decide) ?_
    exact a_zret _ false (by decide) rfl dJ1_canEncode_9a6ad_16 hv
  · replace hv := hv.2 hc
    refine a_iload_n 0 dJ1_canEncode_9a6ad_4 rfl rfl ?_
    refine a_sipush (v := 255) dJ1_canEncode_9a6ad_5 (by decide) ?_
    refine a_icmp_gt 15 dJ1_canEncode_9a6ad_8 rfl (fun hc => ?_) (fun hc => ?_)
    · replace hv := hv.1 hc
      refine a_iconst (v := 0) dJ1_canEncode_9a6ad_15 (by decide) ?_
      exact a_zret _ false (by decide) rfl dJ1_canEncode_9a6ad_16 hv
    · replace hv := hv.2 hc
      refine a_iconst (v := 1) dJ1_canEncode_9a6ad_11 (by decide) ?_
      refine a_goto 16 dJ1_canEncode_9a6ad_12 rfl ?_
      exact a_zret _ true (by decide) rfl dJ1_canEncode_9a6ad_16 hv
def VC_J1_indexOf_4cfef (g : GT) (d : Nat) (o0 : Nat) (v1 : Int32) (v2 : Int32) (v3 : Int32) (I : IT) (J : JT) (P : Int32 → IT → JT → Prop) : Prop :=
  (SemZ g (d - 1) M_J1_canEncode_9a6ad [.int v1] I J (fun r1 I1 J1 => ((r1 = true → (((if v2 < 0 then 0 else v2) < (if (Int32.ofNat (stN o0)) < v3 then (Int32.ofNat (stN o0)) else v3) → (SemI g (d - 1) M_J1_indexOfChar_4cfef [.ref (gR g (6 + o0)), .int v1, .int (if v2 < 0 then 0 else v2), .int (if (Int32.ofNat (stN o0)) < v3 then (Int32.ofNat (stN o0)) else v3)] I1 J1 (fun r33 I33 J33 => P r33 I33 J33))) ∧ (¬ (if v2 < 0 then 0 else v2) < (if (Int32.ofNat (stN o0)) < v3 then (Int32.ofNat (stN o0)) else v3) → P (-1) I1 J1))) ∧ (r1 = false → P (-1) I1 J1))))
set_option maxRecDepth 4000 in
theorem w_J1_indexOf_4cfef {g : GT} {d : Nat} {o0 : Nat} {v1 : Int32} {v2 : Int32} {v3 : Int32} {I : IT} {J : JT} {P : Int32 → IT → JT → Prop} (ho0 : o0 < 3) (hd : 1 ≤ d) (hv : VC_J1_indexOf_4cfef g d o0 v1 v2 v3 I J P) : SemI g d M_J1_indexOf_4cfef [.ref (gR g (6 + o0)), .int v1, .int v2, .int v3] I J P := by
  unfold VC_J1_indexOf_4cfef at hv
  refine sem_intro (by decide +kernel) rfl (Nat.le_of_ble_eq_true rfl) ?_
  show AW _ 0 0 0 [(0, .ref (gR g (6 + o0))), (1, .int v1), (2, .int v2), (3, .int v3)] [] (cW g I J)
  refine a_iload_n 1 dJ1_indexOf_4cfef_0 rfl rfl ?_
  refine c_SZ (As := [.int v1]) (rest := []) hv K_J1_88 rfl rfl (Nat.le_of_ble_eq_true rfl) (rok (by omega) (Nat.le_of_ble_eq_true rfl)) ⟨Nat.zero_le _, Nat.zero_le _⟩ dJ1_indexOf_4cfef_1 (fun r1 I1 J1 hv => ?_)
  refine a_ifz_ne 9 dJ1_indexOf_4cfef_4 rfl (fun hc => ?_) (fun hc => ?_)
  · replace hv := hv.1 hc
    refine a_iload_n 2 dJ1_indexOf_4cfef_9 rfl rfl ?_
    refine a_iconst (v := 0) dJ1_indexOf_4cfef_10 (by decide) ?_
    refine a_mmax K_J1_92.1.1 (rokM hd (Nat.le_of_ble_eq_true rfl)) ⟨Nat.zero_le _, Nat.zero_le _⟩ dJ1_indexOf_4cfef_11 ?_
    refine a_istore_n [(2, .int (if v2 < 0 then 0 else v2)), (0, .ref (gR g (6 + o0))), (1, .int v1), (3, .int v3)] dJ1_indexOf_4cfef_14 rfl (Nat.le_of_ble_eq_true rfl) rfl ?_
    refine a_iload_n 3 dJ1_indexOf_4cfef_15 rfl rfl ?_
    refine a_aload_n 1 dJ1_indexOf_4cfef_16 rfl rfl ?_
    refine a_blen ho0 dJ1_indexOf_4cfef_17 ?_
    refine a_mmin K_J1_38.1.1 (rokM hd (Nat.le_of_ble_eq_true rfl)) ⟨Nat.zero_le _, Nat.zero_le _⟩ dJ1_indexOf_4cfef_18 ?_
    refine a_istore_n [(3, .int (if (Int32.ofNat (stN o0)) < v3 then (Int32.ofNat (stN o0)) else v3)), (2, .int (if v2 < 0 then 0 else v2)), (0, .ref (gR g (6 + o0))), (1, .int v1)] dJ1_indexOf_4cfef_21 rfl (Nat.le_of_ble_eq_true rfl) rfl ?_
    refine a_iload_n 1 dJ1_indexOf_4cfef_22 rfl rfl ?_
    refine a_iload_n 0 dJ1_indexOf_4cfef_23 rfl rfl ?_
    refine a_icmp_lt 29 dJ1_indexOf_4cfef_24 rfl (fun hc => ?_) (fun hc => ?_)
    · replace hv := hv.1 hc
      refine a_aload_n 2 dJ1_indexOf_4cfef_29 rfl rfl ?_
      refine a_iload_n 3 dJ1_indexOf_4cfef_30 rfl rfl ?_
      refine a_iload_n 1 dJ1_indexOf_4cfef_31 rfl rfl ?_
      refine a_iload_n 0 dJ1_indexOf_4cfef_32 rfl rfl ?_
      refine c_SI (As := [.ref (gR g (6 + o0)), .int v1, .int (if v2 < 0 then 0 else v2), .int (if (Int32.ofNat (stN o0)) < v3 then (Int32.ofNat (stN o0)) else v3)]) (rest := []) hv K_J1_95 rfl rfl (Nat.le_of_ble_eq_true rfl) (rok (by omega) (Nat.le_of_ble_eq_true rfl)) ⟨Nat.zero_le _, Nat.zero_le _⟩ dJ1_indexOf_4cfef_33 (fun r33 I33 J33 hv => ?_)
      exact a_iret rfl dJ1_indexOf_4cfef_36 hv
    · replace hv := hv.2 hc
      refine a_iconst (v := (-1)) dJ1_indexOf_4cfef_27 (by decide) ?_
      exact a_iret rfl dJ1_indexOf_4cfef_28 hv
  · replace hv := hv.2 hc
    refine a_iconst (v := (-1)) dJ1_indexOf_4cfef_7 (by decide) ?_
    exact a_iret rfl dJ1_indexOf_4cfef_8 hv
def Lp_J1_indexOfChar_4cfef_7 (g : GT) (d : Nat) (o0 : Nat) (v3 : Int32) (v4 : Int32) (v5 : Int32) (I : IT) (J : JT) (P : Int32 → IT → JT → Prop) : Prop := AW (kM g d M_J1_indexOfChar_4cfef 0 0 (qI g P)) 0 0 7 [(0, .ref (gR g (6 + o0))), (3, .int v3), (4, .int v4), (5, .int v5)] [] (cW g I J)
def VC_J1_indexOfChar_4cfef_7 (g : GT) (d : Nat) (o0 : Nat) (v3 : Int32) (v4 : Int32) (v5 : Int32) (I : IT) (J : JT) (P : Int32 → IT → JT → Prop) : Prop :=
  ((v3 ≤ v5 → P (-1) I J) ∧ (¬ v3 ≤ v5 → (vp_in v5 (stN o0) ∧ ((¬ (stC o0 v5.toNatClampNeg) = v4 → (Lp_J1_indexOfChar_4cfef_7 g d o0 v3 v4 (v5 + 1) I J P)) ∧ ((stC o0 v5.toNatClampNeg) = v4 → P v5 I J)))))
set_option maxRecDepth 4000 in
theorem w_J1_indexOfChar_4cfef_7 {g : GT} {d : Nat} {o0 : Nat} {v3 : Int32} {v4 : Int32} {v5 : Int32} {I : IT} {J : JT} {P : Int32 → IT → JT → Prop} (ho0 : o0 < 3) (hv : VC_J1_indexOfChar_4cfef_7 g d o0 v3 v4 v5 I J P) : Lp_J1_indexOfChar_4cfef_7 g d o0 v3 v4 v5 I J P := by
  unfold VC_J1_indexOfChar_4cfef_7 at hv
  unfold Lp_J1_indexOfChar_4cfef_7
  refine a_iload 3 dJ1_indexOfChar_4cfef_7 rfl ?_
  refine a_iload_n 1 dJ1_indexOfChar_4cfef_9 rfl rfl ?_
  refine a_icmp_ge 31 dJ1_indexOfChar_4cfef_10 rfl (fun hc => ?_) (fun hc => ?_)
  · replace hv := hv.1 hc
    refine a_iconst (v := (-1)) dJ1_indexOfChar_4cfef_31 (by decide) ?_
    exact a_iret rfl dJ1_indexOfChar_4cfef_32 hv
  · replace hv := hv.2 hc
    refine a_aload_n 0 dJ1_indexOfChar_4cfef_13 rfl rfl ?_
    refine a_iload 3 dJ1_indexOfChar_4cfef_14 rfl ?_
    refine a_byt ho0 hv.1 dJ1_indexOfChar_4cfef_16 ?_
    replace hv := hv.2
    refine a_iload 2 dJ1_indexOfChar_4cfef_17 rfl ?_
    refine a_icmp_ne 25 dJ1_indexOfChar_4cfef_19 rfl (fun hc => ?_) (fun hc => ?_)
    · replace hv := hv.1 hc
      refine a_iinc 3 (v5 + 1) [(5, .int (v5 + 1)), (0, .ref (gR g (6 + o0))), (3, .int v3), (4, .int v4)] dJ1_indexOfChar_4cfef_25 rfl rfl (Nat.le_of_ble_eq_true rfl) rfl ?_
      refine a_goto 7 dJ1_indexOfChar_4cfef_28 rfl ?_
      exact a_sub [1, 2, 3, 0] rfl hv
    · replace hv := hv.2 hc
      refine a_iload 3 dJ1_indexOfChar_4cfef_22 rfl ?_
      exact a_iret rfl dJ1_indexOfChar_4cfef_24 hv
def VC_J1_indexOfChar_4cfef (g : GT) (d : Nat) (o0 : Nat) (v1 : Int32) (v2 : Int32) (v3 : Int32) (I : IT) (J : JT) (P : Int32 → IT → JT → Prop) : Prop :=
  (Lp_J1_indexOfChar_4cfef_7 g d o0 v3 (v1.toInt8.toInt32) v2 I J P)
set_option maxRecDepth 4000 in
theorem w_J1_indexOfChar_4cfef {g : GT} {d : Nat} {o0 : Nat} {v1 : Int32} {v2 : Int32} {v3 : Int32} {I : IT} {J : JT} {P : Int32 → IT → JT → Prop} (ho0 : o0 < 3) (hv : VC_J1_indexOfChar_4cfef g d o0 v1 v2 v3 I J P) : SemI g d M_J1_indexOfChar_4cfef [.ref (gR g (6 + o0)), .int v1, .int v2, .int v3] I J P := by
  unfold VC_J1_indexOfChar_4cfef at hv
  refine sem_intro (by decide +kernel) rfl (Nat.le_of_ble_eq_true rfl) ?_
  show AW _ 0 0 0 [(0, .ref (gR g (6 + o0))), (1, .int v1), (2, .int v2), (3, .int v3)] [] (cW g I J)
  refine a_iload_n 1 dJ1_indexOfChar_4cfef_0 rfl rfl ?_
  refine a_i2b dJ1_indexOfChar_4cfef_1 ?_
  refine a_istore [(4, .int (v1.toInt8.toInt32)), (0, .ref (gR g (6 + o0))), (1, .int v1), (2, .int v2), (3, .int v3)] dJ1_indexOfChar_4cfef_2 (Nat.le_of_ble_eq_true rfl) rfl ?_
  refine a_iload_n 3 dJ1_indexOfChar_4cfef_4 rfl rfl ?_
  refine a_istore [(5, .int v2), (4, .int (v1.toInt8.toInt32)), (0, .ref (gR g (6 + o0))), (1, .int v1), (2, .int v2), (3, .int v3)] dJ1_indexOfChar_4cfef_5 (Nat.le_of_ble_eq_true rfl) rfl ?_
  exact a_sub [2, 5, 1, 0] rfl hv
def Lp_J7_fill_d0a16_6 (g : GT) (d : Nat) (o0 n0 : Nat) (y1 : Int64) (v3 : Int32) (v4 : Int32) (I : IT) (J : JT) (P : IT → JT → Prop) : Prop := AW (kM g d M_J7_fill_d0a16 0 0 (qV g P)) 0 0 6 [(0, .ref (ga g o0)), (1, .long y1), (3, .int v3), (4, .int v4)] [] (cW g I J)
def VC_J7_fill_d0a16_6 (g : GT) (d : Nat) (o0 n0 : Nat) (y1 : Int64) (v3 : Int32) (v4 : Int32) (I : IT) (J : JT) (P : IT → JT → Prop) : Prop :=
  ((v4 ≤ v3 → P I J) ∧ (¬ v4 ≤ v3 → (vp_in v3 n0 ∧ (Lp_J7_fill_d0a16_6 g d o0 n0 y1 (v3 + 1) v4 I (sJ J o0 v3.toNatClampNeg y1) P))))
set_option maxRecDepth 4000 in
theorem w_J7_fill_d0a16_6 {g : GT} {d : Nat} {o0 n0 : Nat} {y1 : Int64} {v3 : Int32} {v4 : Int32} {I : IT} {J : JT} {P : IT → JT → Prop} (ho0 : shL[o0]? = some (.inl (1, n0, []))) (hv : VC_J7_fill_d0a16_6 g d o0 n0 y1 v3 v4 I J P) : Lp_J7_fill_d0a16_6 g d o0 n0 y1 v3 v4 I J P := by
  unfold VC_J7_fill_d0a16_6 at hv
  unfold Lp_J7_fill_d0a16_6
  refine a_iload_n 2 dJ7_fill_d0a16_6 rfl rfl ?_
  refine a_iload 3 dJ7_fill_d0a16_7 rfl ?_
  refine a_icmp_ge 22 dJ7_fill_d0a16_9 rfl (fun hc => ?_) (fun hc => ?_)
  · replace hv := hv.1 hc
    exact a_vret rfl dJ7_fill_d0a16_22 hv
  · replace hv := hv.2 hc
    refine a_aload_n 0 dJ7_fill_d0a16_12 rfl rfl ?_
    refine a_iload_n 2 dJ7_fill_d0a16_13 rfl rfl ?_
    refine a_lload_n 1 dJ7_fill_d0a16_14 rfl rfl ?_
    refine a_last ho0 hv.1 dJ7_fill_d0a16_15 ?_
    replace hv := hv.2
    refine a_iinc 2 (v3 + 1) [(3, .int (v3 + 1)), (0, .ref (ga g o0)), (1, .long y1), (4, .int v4)] dJ7_fill_d0a16_16 rfl rfl (Nat.le_of_ble_eq_true rfl) rfl ?_
    refine a_goto 6 dJ7_fill_d0a16_19 rfl ?_
    exact a_sub [1, 2, 0, 3] rfl hv
def VC_J7_fill_d0a16 (g : GT) (d : Nat) (o0 n0 : Nat) (y1 : Int64) (I : IT) (J : JT) (P : IT → JT → Prop) : Prop :=
  (Lp_J7_fill_d0a16_6 g d o0 n0 y1 0 (Int32.ofNat n0) I J P)
set_option maxRecDepth 4000 in
theorem w_J7_fill_d0a16 {g : GT} {d : Nat} {o0 n0 : Nat} {y1 : Int64} {I : IT} {J : JT} {P : IT → JT → Prop} (ho0 : shL[o0]? = some (.inl (1, n0, []))) (hv : VC_J7_fill_d0a16 g d o0 n0 y1 I J P) : SemV g d M_J7_fill_d0a16 [.ref (ga g o0), .long y1] I J P := by
  unfold VC_J7_fill_d0a16 at hv
  refine sem_intro (by decide +kernel) rfl (Nat.le_of_ble_eq_true rfl) ?_
  show AW _ 0 0 0 [(0, .ref (ga g o0)), (1, .long y1)] [] (cW g I J)
  refine a_iconst (v := 0) dJ7_fill_d0a16_0 (by decide) ?_
  refine a_istore_n [(3, .int 0), (0, .ref (ga g o0)), (1, .long y1)] dJ7_fill_d0a16_1 rfl (Nat.le_of_ble_eq_true rfl) rfl ?_
  refine a_aload_n 1 dJ7_fill_d0a16_2 rfl rfl ?_
  refine a_alen (Int32.ofNat n0) ho0 (by decide) rfl dJ7_fill_d0a16_3 ?_
  refine a_istore [(4, .int (Int32.ofNat n0)), (3, .int 0), (0, .ref (ga g o0)), (1, .long y1)] dJ7_fill_d0a16_4 (Nat.le_of_ble_eq_true rfl) rfl ?_
  exact a_sub [2, 3, 1, 0] rfl hv
def Lp_J7_fill_53178_5 (g : GT) (d : Nat) (o0 n0 : Nat) (v1 : Int32) (v2 : Int32) (v3 : Int32) (I : IT) (J : JT) (P : IT → JT → Prop) : Prop := AW (kM g d M_J7_fill_53178 0 0 (qV g P)) 0 0 5 [(0, .ref (ga g o0)), (1, .int v1), (2, .int v2), (3, .int v3)] [] (cW g I J)
def VC_J7_fill_53178_5 (g : GT) (d : Nat) (o0 n0 : Nat) (v1 : Int32) (v2 : Int32) (v3 : Int32) (I : IT) (J : JT) (P : IT → JT → Prop) : Prop :=
  ((v3 ≤ v2 → P I J) ∧ (¬ v3 ≤ v2 → (vp_in v2 n0 ∧ (Lp_J7_fill_53178_5 g d o0 n0 v1 (v2 + 1) v3 (sI I o0 v2.toNatClampNeg v1) J P))))
set_option maxRecDepth 4000 in
theorem w_J7_fill_53178_5 {g : GT} {d : Nat} {o0 n0 : Nat} {v1 : Int32} {v2 : Int32} {v3 : Int32} {I : IT} {J : JT} {P : IT → JT → Prop} (ho0 : shL[o0]? = some (.inl (0, n0, []))) (hv : VC_J7_fill_53178_5 g d o0 n0 v1 v2 v3 I J P) : Lp_J7_fill_53178_5 g d o0 n0 v1 v2 v3 I J P := by
  unfold VC_J7_fill_53178_5 at hv
  unfold Lp_J7_fill_53178_5
  refine a_iload_n 2 dJ7_fill_53178_5 rfl rfl ?_
  refine a_iload_n 3 dJ7_fill_53178_6 rfl rfl ?_
  refine a_icmp_ge 20 dJ7_fill_53178_7 rfl (fun hc => ?_) (fun hc => ?_)
  · replace hv := hv.1 hc
    exact a_vret rfl dJ7_fill_53178_20 hv
  · replace hv := hv.2 hc
    refine a_aload_n 0 dJ7_fill_53178_10 rfl rfl ?_
    refine a_iload_n 2 dJ7_fill_53178_11 rfl rfl ?_
    refine a_iload_n 1 dJ7_fill_53178_12 rfl rfl ?_
    refine a_iast ho0 hv.1 dJ7_fill_53178_13 ?_
    replace hv := hv.2
    refine a_iinc 2 (v2 + 1) [(2, .int (v2 + 1)), (0, .ref (ga g o0)), (1, .int v1), (3, .int v3)] dJ7_fill_53178_14 rfl rfl (Nat.le_of_ble_eq_true rfl) rfl ?_
    refine a_goto 5 dJ7_fill_53178_17 rfl ?_
    exact a_sub [1, 2, 0, 3] rfl hv
def VC_J7_fill_53178 (g : GT) (d : Nat) (o0 n0 : Nat) (v1 : Int32) (I : IT) (J : JT) (P : IT → JT → Prop) : Prop :=
  (Lp_J7_fill_53178_5 g d o0 n0 v1 0 (Int32.ofNat n0) I J P)
set_option maxRecDepth 4000 in
theorem w_J7_fill_53178 {g : GT} {d : Nat} {o0 n0 : Nat} {v1 : Int32} {I : IT} {J : JT} {P : IT → JT → Prop} (ho0 : shL[o0]? = some (.inl (0, n0, []))) (hv : VC_J7_fill_53178 g d o0 n0 v1 I J P) : SemV g d M_J7_fill_53178 [.ref (ga g o0), .int v1] I J P := by
  unfold VC_J7_fill_53178 at hv
  refine sem_intro (by decide +kernel) rfl (Nat.le_of_ble_eq_true rfl) ?_
  show AW _ 0 0 0 [(0, .ref (ga g o0)), (1, .int v1)] [] (cW g I J)
  refine a_iconst (v := 0) dJ7_fill_53178_0 (by decide) ?_
  refine a_istore_n [(2, .int 0), (0, .ref (ga g o0)), (1, .int v1)] dJ7_fill_53178_1 rfl (Nat.le_of_ble_eq_true rfl) rfl ?_
  refine a_aload_n 1 dJ7_fill_53178_2 rfl rfl ?_
  refine a_alen (Int32.ofNat n0) ho0 (by decide) rfl dJ7_fill_53178_3 ?_
  refine a_istore_n [(3, .int (Int32.ofNat n0)), (2, .int 0), (0, .ref (ga g o0)), (1, .int v1)] dJ7_fill_53178_4 rfl (Nat.le_of_ble_eq_true rfl) rfl ?_
  exact a_sub [2, 3, 1, 0] rfl hv
def VC_J0_length_8abf5 (g : GT) (d : Nat) (o0 : Nat) (I : IT) (J : JT) (P : Int32 → IT → JT → Prop) : Prop :=
  (SemI g (d - 1) M_J0_coder_7d493 [.ref (gR g (3 + o0))] I J (fun r6 I6 J6 => P ((Int32.ofNat (stN o0)) >>> (r6 &&& 31)) I6 J6))
set_option maxRecDepth 4000 in
theorem w_J0_length_8abf5 {g : GT} {d : Nat} {o0 : Nat} {I : IT} {J : JT} {P : Int32 → IT → JT → Prop} (ho0 : o0 < 3) (hd : 1 ≤ d) (hv : VC_J0_length_8abf5 g d o0 I J P) : SemI g d M_J0_length_8abf5 [.ref (gR g (3 + o0))] I J P := by
  unfold VC_J0_length_8abf5 at hv
  refine sem_intro (by decide +kernel) rfl (Nat.le_of_ble_eq_true rfl) ?_
  show AW _ 0 0 0 [(0, .ref (gR g (3 + o0)))] [] (cW g I J)
  refine a_aload_n 0 dJ0_length_8abf5_0 rfl rfl ?_
  refine a_value ho0 fk_value dJ0_length_8abf5_1 ?_
  refine a_blen ho0 dJ0_length_8abf5_4 ?_
  refine a_aload_n 0 dJ0_length_8abf5_5 rfl rfl ?_
  refine c_strI (As := []) (rest := [.int (Int32.ofNat (stN o0))]) ho0 hv K_J0_335 rfl rfl rfl (Nat.le_of_ble_eq_true rfl) (rok (by omega) (Nat.le_of_ble_eq_true rfl)) ⟨Nat.zero_le _, Nat.zero_le _⟩ dJ0_length_8abf5_6 (fun r6 I6 J6 hv => ?_)
  refine a_ishr dJ0_length_8abf5_9 ?_
  exact a_iret rfl dJ0_length_8abf5_10 hv
def VC_J0_coder_7d493 (g : GT) (d : Nat) (o0 : Nat) (I : IT) (J : JT) (P : Int32 → IT → JT → Prop) : Prop :=
  P 0 I J
set_option maxRecDepth 4000 in
theorem w_J0_coder_7d493 {g : GT} {d : Nat} {o0 : Nat} {I : IT} {J : JT} {P : Int32 → IT → JT → Prop} (ho0 : o0 < 3) (hv : VC_J0_coder_7d493 g d o0 I J P) : SemI g d M_J0_coder_7d493 [.ref (gR g (3 + o0))] I J P := by
  unfold VC_J0_coder_7d493 at hv
  refine sem_intro (by decide +kernel) rfl (Nat.le_of_ble_eq_true rfl) ?_
  show AW _ 0 0 0 [(0, .ref (gR g (3 + o0)))] [] (cW g I J)
  refine a_COMP fk_comp dJ0_coder_7d493_0 ?_
  refine a_if_eq 13 dJ0_coder_7d493_3 rfl (fun hc => absurd hc (by decide)) (fun _ => ?_)
  refine a_aload_n 0 dJ0_coder_7d493_6 rfl rfl ?_
  refine a_coder ho0 fk_coder dJ0_coder_7d493_7 ?_
  refine a_goto 14 dJ0_coder_7d493_10 rfl ?_
  exact a_bret rfl (by decide) dJ0_coder_7d493_14 hv
