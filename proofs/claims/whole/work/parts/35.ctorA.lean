set_option maxRecDepth 10000 in
set_option maxHeartbeats 4000000 in
theorem s_X6_init {g : GT} {d : Nat} {pre : va_W} {q0 : Nat} {r1 : Nat} (hd : 1 ≤ d) : Sem g d M_X6_init 1 4 [.ref q0, .ref r1] (pre ++ [(q0, .inr (6, [.null, .null, .int 0, .int 0, .int 0, .int 0]))]) (fun v ws => v = none ∧ ∃ q1 : Nat, ws = pre ++ [(q0, .inr (6, [.ref r1, .ref q1, .int 0, .int 0, .int 0, .int 0])), (q1, .inl (gA g 0, 4, .inl (fun _ => 0)))]) := by
  refine sem_intro (by decide +kernel) rfl (Nat.le_of_ble_eq_true rfl) ?_
  show AW _ 0 0 0 [(0, .ref q0), (1, .ref r1)] [] _
  replace hd : 1 ≤ d ∧ 1 ≤ d := ⟨by omega, hd⟩
  have hd2 := hd.2
  replace hd := hd.1
  refine a_aload_n 0 dX6_init_0 rfl rfl ?_
  refine a_objI oi_X6 (rokI hd (Nat.le_of_ble_eq_true rfl)) dX6_init_1 ?_
  refine a_aload_n 0 dX6_init_4 rfl rfl ?_
  refine a_iconst (v := 4) dX6_init_5 (by decide) ?_
  refine a_newI 4 (fun q1 => pre ++ [(q0, .inr (6, [.null, .null, .int 0, .int 0, .int 0, .int 0])), (q1, .inl (gA g 0, 4, .inl (fun _ => 0)))]) (by decide) (by decide) (by decide) (fun _ => List.append_assoc _ _ _) (by constructor <;> exact Nat.le_of_ble_eq_true rfl) dX6_init_6 (fun q1 => ?_)
  refine a_putF (pre.length + 0) (pre ++ [(q0, .inr (6, [.null, .ref q1, .int 0, .int 0, .int 0, .int 0])), (q1, .inl (gA g 0, 4, .inl (fun _ => 0)))]) F_X6_9 rfl (by rw [ap]; rfl) (Nat.le_of_ble_eq_true rfl) rfl rfl (by rw [ap_set]; rfl) dX6_init_8 ?_
  refine a_aload_n 0 dX6_init_11 rfl rfl ?_
  refine a_iconst (v := 0) dX6_init_12 (by decide) ?_
  refine a_putW (pre.length + 0) (pre ++ [(q0, .inr (6, [.null, .ref q1, .int 0, .int 0, .int 0, .int 0])), (q1, .inl (gA g 0, 4, .inl (fun _ => 0)))]) H_X6_15 (by rw [ap]; rfl) (Nat.le_of_ble_eq_true rfl) rfl rfl (by rw [ap_set]; rfl) dX6_init_13 ?_
  refine a_aload_n 0 dX6_init_16 rfl rfl ?_
  refine a_iconst (v := 0) dX6_init_17 (by decide) ?_
  refine a_putW (pre.length + 0) (pre ++ [(q0, .inr (6, [.null, .ref q1, .int 0, .int 0, .int 0, .int 0])), (q1, .inl (gA g 0, 4, .inl (fun _ => 0)))]) H_X6_19 (by rw [ap]; rfl) (Nat.le_of_ble_eq_true rfl) rfl rfl (by rw [ap_set]; rfl) dX6_init_18 ?_
  refine a_aload_n 0 dX6_init_21 rfl rfl ?_
  refine a_iconst (v := 0) dX6_init_22 (by decide) ?_
  refine a_putW (pre.length + 0) (pre ++ [(q0, .inr (6, [.null, .ref q1, .int 0, .int 0, .int 0, .int 0])), (q1, .inl (gA g 0, 4, .inl (fun _ => 0)))]) H_X6_22 (by rw [ap]; rfl) (Nat.le_of_ble_eq_true rfl) rfl rfl (by rw [ap_set]; rfl) dX6_init_23 ?_
  refine a_aload_n 0 dX6_init_26 rfl rfl ?_
  refine a_iconst (v := 0) dX6_init_27 (by decide) ?_
  refine a_putW (pre.length + 0) (pre ++ [(q0, .inr (6, [.null, .ref q1, .int 0, .int 0, .int 0, .int 0])), (q1, .inl (gA g 0, 4, .inl (fun _ => 0)))]) H_X6_25 (by rw [ap]; rfl) (Nat.le_of_ble_eq_true rfl) rfl rfl (by rw [ap_set]; rfl) dX6_init_28 ?_
  refine a_aload_n 0 dX6_init_31 rfl rfl ?_
  refine a_aload_n 1 dX6_init_32 rfl rfl ?_
  refine a_putF (pre.length + 0) (pre ++ [(q0, .inr (6, [.ref r1, .ref q1, .int 0, .int 0, .int 0, .int 0])), (q1, .inl (gA g 0, 4, .inl (fun _ => 0)))]) F_X6_28 rfl (by rw [ap]; rfl) (Nat.le_of_ble_eq_true rfl) rfl rfl (by rw [ap_set]; rfl) dX6_init_33 ?_
  exact a_vretW rfl dX6_init_36 ⟨rfl, q1, rfl⟩
set_option maxRecDepth 10000 in
set_option maxHeartbeats 4000000 in
theorem s_X3_init {g : GT} {d : Nat} {pre : va_W} {q0 : Nat} (hd : 1 ≤ d) : Sem g d M_X3_init 1 48 [.ref q0] (pre ++ [(q0, .inr (3, [.null, .int 0, .int 0]))]) (fun v ws => v = none ∧ ∃ q1 : Nat, ws = pre ++ [(q0, .inr (3, [.ref q1, .int 0, .int 0])), (q1, .inl (gA g 0, 48, .inl (fun _ => 0)))]) := by
  refine sem_intro (by decide +kernel) rfl (Nat.le_of_ble_eq_true rfl) ?_
  show AW _ 0 0 0 [(0, .ref q0)] [] _
  replace hd : 1 ≤ d ∧ 1 ≤ d := ⟨by omega, hd⟩
  have hd2 := hd.2
  replace hd := hd.1
  refine a_aload_n 0 dX3_init_0 rfl rfl ?_
  refine a_objI oi_X3 (rokI hd (Nat.le_of_ble_eq_true rfl)) dX3_init_1 ?_
  refine a_aload_n 0 dX3_init_4 rfl rfl ?_
  refine a_bipush (v := 48) dX3_init_5 (by decide) ?_
  refine a_newI 48 (fun q1 => pre ++ [(q0, .inr (3, [.null, .int 0, .int 0])), (q1, .inl (gA g 0, 48, .inl (fun _ => 0)))]) (by decide) (by decide) (by decide) (fun _ => List.append_assoc _ _ _) (by constructor <;> exact Nat.le_of_ble_eq_true rfl) dX3_init_7 (fun q1 => ?_)
  refine a_putF (pre.length + 0) (pre ++ [(q0, .inr (3, [.ref q1, .int 0, .int 0])), (q1, .inl (gA g 0, 48, .inl (fun _ => 0)))]) F_X3_9 rfl (by rw [ap]; rfl) (Nat.le_of_ble_eq_true rfl) rfl rfl (by rw [ap_set]; rfl) dX3_init_9 ?_
  refine a_aload_n 0 dX3_init_12 rfl rfl ?_
  refine a_iconst (v := 0) dX3_init_13 (by decide) ?_
  refine a_putW (pre.length + 0) (pre ++ [(q0, .inr (3, [.ref q1, .int 0, .int 0])), (q1, .inl (gA g 0, 48, .inl (fun _ => 0)))]) H_X3_15 (by rw [ap]; rfl) (Nat.le_of_ble_eq_true rfl) rfl rfl (by rw [ap_set]; rfl) dX3_init_14 ?_
  refine a_aload_n 0 dX3_init_17 rfl rfl ?_
  refine a_iconst (v := 0) dX3_init_18 (by decide) ?_
  refine a_putW (pre.length + 0) (pre ++ [(q0, .inr (3, [.ref q1, .int 0, .int 0])), (q1, .inl (gA g 0, 48, .inl (fun _ => 0)))]) H_X3_19 (by rw [ap]; rfl) (Nat.le_of_ble_eq_true rfl) rfl rfl (by rw [ap_set]; rfl) dX3_init_19 ?_
  exact a_vretW rfl dX3_init_22 ⟨rfl, q1, rfl⟩
set_option maxRecDepth 10000 in
set_option maxHeartbeats 4000000 in
theorem s_X2_init {g : GT} {d : Nat} {pre : va_W} {q0 : Nat} (hd : 2 ≤ d) : Sem g d M_X2_init 7 79 [.ref q0] (pre ++ [(q0, .inr (2, [.null, .null, .null, .null, .null, .null, .int 0, .int 0]))]) (fun v ws => v = none ∧ ∃ q1 q2 q3 q4 q5 q6 q7 : Nat, ws = pre ++ [(q0, .inr (2, [.ref q1, .ref q3, .ref q4, .ref q5, .ref q6, .ref q7, .int 0, .int 0])), (q1, .inr (3, [.ref q2, .int 0, .int 0])), (q2, .inl (gA g 0, 48, .inl (fun _ => 0))), (q3, .inl (gA g 0, 6, .inl (fun _ => 0))), (q4, .inl (gA g 0, 6, .inl (fun _ => 0))), (q5, .inl (gA g 0, 6, .inl (fun _ => 0))), (q6, .inl (gA g 0, 6, .inl (fun _ => 0))), (q7, .inl (gA g 0, 4, .inl (fun _ => 0)))]) := by
  refine sem_intro (by decide +kernel) rfl (Nat.le_of_ble_eq_true rfl) ?_
  show AW _ 0 0 0 [(0, .ref q0)] [] _
  replace hd : 1 ≤ d ∧ 2 ≤ d := ⟨by omega, hd⟩
  have hd2 := hd.2
  replace hd := hd.1
  refine a_aload_n 0 dX2_init_0 rfl rfl ?_
  refine a_objI oi_X2 (rokI hd (Nat.le_of_ble_eq_true rfl)) dX2_init_1 ?_
  refine a_aload_n 0 dX2_init_4 rfl rfl ?_
  refine a_new [.null, .int 0, .int 0] (fun q1 => pre ++ [(q0, .inr (2, [.null, .null, .null, .null, .null, .null, .int 0, .int 0])), (q1, .inr (3, [.null, .int 0, .int 0]))]) ck_X2_9 ib_X3 ini_X3 uw_X3 tyX3_ok rfl df_X3 (fun _ => List.append_assoc _ _ _) (by constructor <;> exact Nat.le_of_ble_eq_true rfl) dX2_init_5 (fun q1 => ?_)
  refine a_dup dX2_init_8 rfl ?_
  refine AW.spl (front := [(q0, .inr (2, [.null, .null, .null, .null, .null, .null, .int 0, .int 0]))]) (x := (q1, .inr (3, [.null, .int 0, .int 0]))) ?_
  refine AW.callIN (d := d - 1) (mc := 1) (ms := 48) (As := []) (rest := [.ref q1, .ref q0]) (s_X3_init (pre := (pre ++ [(q0, .inr (2, [.null, .null, .null, .null, .null, .null, .int 0, .int 0]))])) (d := d - 1) (by omega)) K_X2_11 rfl rfl (Nat.le_of_ble_eq_true rfl) (rok (by omega) (Nat.le_of_ble_eq_true rfl)) (by constructor <;> exact Nat.le_of_ble_eq_true rfl) dX2_init_9 (fun v es hp => ?_)
  obtain ⟨hv0, q2, hw0⟩ := hp
  subst hv0
  rw [hw0, List.append_assoc]
  show AW _ 2 51 12 [(0, .ref q0)] [.ref q1, .ref q0] (pre ++ [(q0, .inr (2, [.null, .null, .null, .null, .null, .null, .int 0, .int 0])), (q1, .inr (3, [.ref q2, .int 0, .int 0])), (q2, .inl (gA g 0, 48, .inl (fun _ => 0)))])
  refine a_putF (pre.length + 0) (pre ++ [(q0, .inr (2, [.ref q1, .null, .null, .null, .null, .null, .int 0, .int 0])), (q1, .inr (3, [.ref q2, .int 0, .int 0])), (q2, .inl (gA g 0, 48, .inl (fun _ => 0)))]) F_X2_12 rfl (by rw [ap]; rfl) (Nat.le_of_ble_eq_true rfl) rfl rfl (by rw [ap_set]; rfl) dX2_init_12 ?_
  refine a_aload_n 0 dX2_init_15 rfl rfl ?_
  refine a_bipush (v := 6) dX2_init_16 (by decide) ?_
  refine a_newI 6 (fun q3 => pre ++ [(q0, .inr (2, [.ref q1, .null, .null, .null, .null, .null, .int 0, .int 0])), (q1, .inr (3, [.ref q2, .int 0, .int 0])), (q2, .inl (gA g 0, 48, .inl (fun _ => 0))), (q3, .inl (gA g 0, 6, .inl (fun _ => 0)))]) (by decide) (by decide) (by decide) (fun _ => List.append_assoc _ _ _) (by constructor <;> exact Nat.le_of_ble_eq_true rfl) dX2_init_18 (fun q3 => ?_)
  refine a_putF (pre.length + 0) (pre ++ [(q0, .inr (2, [.ref q1, .ref q3, .null, .null, .null, .null, .int 0, .int 0])), (q1, .inr (3, [.ref q2, .int 0, .int 0])), (q2, .inl (gA g 0, 48, .inl (fun _ => 0))), (q3, .inl (gA g 0, 6, .inl (fun _ => 0)))]) F_X2_18 rfl (by rw [ap]; rfl) (Nat.le_of_ble_eq_true rfl) rfl rfl (by rw [ap_set]; rfl) dX2_init_20 ?_
  refine a_aload_n 0 dX2_init_23 rfl rfl ?_
  refine a_bipush (v := 6) dX2_init_24 (by decide) ?_
  refine a_newI 6 (fun q4 => pre ++ [(q0, .inr (2, [.ref q1, .ref q3, .null, .null, .null, .null, .int 0, .int 0])), (q1, .inr (3, [.ref q2, .int 0, .int 0])), (q2, .inl (gA g 0, 48, .inl (fun _ => 0))), (q3, .inl (gA g 0, 6, .inl (fun _ => 0))), (q4, .inl (gA g 0, 6, .inl (fun _ => 0)))]) (by decide) (by decide) (by decide) (fun _ => List.append_assoc _ _ _) (by constructor <;> exact Nat.le_of_ble_eq_true rfl) dX2_init_26 (fun q4 => ?_)
  refine a_putF (pre.length + 0) (pre ++ [(q0, .inr (2, [.ref q1, .ref q3, .ref q4, .null, .null, .null, .int 0, .int 0])), (q1, .inr (3, [.ref q2, .int 0, .int 0])), (q2, .inl (gA g 0, 48, .inl (fun _ => 0))), (q3, .inl (gA g 0, 6, .inl (fun _ => 0))), (q4, .inl (gA g 0, 6, .inl (fun _ => 0)))]) F_X2_22 rfl (by rw [ap]; rfl) (Nat.le_of_ble_eq_true rfl) rfl rfl (by rw [ap_set]; rfl) dX2_init_28 ?_
  refine a_aload_n 0 dX2_init_31 rfl rfl ?_
  refine a_bipush (v := 6) dX2_init_32 (by decide) ?_
  refine a_newI 6 (fun q5 => pre ++ [(q0, .inr (2, [.ref q1, .ref q3, .ref q4, .null, .null, .null, .int 0, .int 0])), (q1, .inr (3, [.ref q2, .int 0, .int 0])), (q2, .inl (gA g 0, 48, .inl (fun _ => 0))), (q3, .inl (gA g 0, 6, .inl (fun _ => 0))), (q4, .inl (gA g 0, 6, .inl (fun _ => 0))), (q5, .inl (gA g 0, 6, .inl (fun _ => 0)))]) (by decide) (by decide) (by decide) (fun _ => List.append_assoc _ _ _) (by constructor <;> exact Nat.le_of_ble_eq_true rfl) dX2_init_34 (fun q5 => ?_)
  refine a_putF (pre.length + 0) (pre ++ [(q0, .inr (2, [.ref q1, .ref q3, .ref q4, .ref q5, .null, .null, .int 0, .int 0])), (q1, .inr (3, [.ref q2, .int 0, .int 0])), (q2, .inl (gA g 0, 48, .inl (fun _ => 0))), (q3, .inl (gA g 0, 6, .inl (fun _ => 0))), (q4, .inl (gA g 0, 6, .inl (fun _ => 0))), (q5, .inl (gA g 0, 6, .inl (fun _ => 0)))]) F_X2_25 rfl (by rw [ap]; rfl) (Nat.le_of_ble_eq_true rfl) rfl rfl (by rw [ap_set]; rfl) dX2_init_36 ?_
  refine a_aload_n 0 dX2_init_39 rfl rfl ?_
  refine a_bipush (v := 6) dX2_init_40 (by decide) ?_
  refine a_newI 6 (fun q6 => pre ++ [(q0, .inr (2, [.ref q1, .ref q3, .ref q4, .ref q5, .null, .null, .int 0, .int 0])), (q1, .inr (3, [.ref q2, .int 0, .int 0])), (q2, .inl (gA g 0, 48, .inl (fun _ => 0))), (q3, .inl (gA g 0, 6, .inl (fun _ => 0))), (q4, .inl (gA g 0, 6, .inl (fun _ => 0))), (q5, .inl (gA g 0, 6, .inl (fun _ => 0))), (q6, .inl (gA g 0, 6, .inl (fun _ => 0)))]) (by decide) (by decide) (by decide) (fun _ => List.append_assoc _ _ _) (by constructor <;> exact Nat.le_of_ble_eq_true rfl) dX2_init_42 (fun q6 => ?_)
  refine a_putF (pre.length + 0) (pre ++ [(q0, .inr (2, [.ref q1, .ref q3, .ref q4, .ref q5, .ref q6, .null, .int 0, .int 0])), (q1, .inr (3, [.ref q2, .int 0, .int 0])), (q2, .inl (gA g 0, 48, .inl (fun _ => 0))), (q3, .inl (gA g 0, 6, .inl (fun _ => 0))), (q4, .inl (gA g 0, 6, .inl (fun _ => 0))), (q5, .inl (gA g 0, 6, .inl (fun _ => 0))), (q6, .inl (gA g 0, 6, .inl (fun _ => 0)))]) F_X2_28 rfl (by rw [ap]; rfl) (Nat.le_of_ble_eq_true rfl) rfl rfl (by rw [ap_set]; rfl) dX2_init_44 ?_
  refine a_aload_n 0 dX2_init_47 rfl rfl ?_
  refine a_iconst (v := 4) dX2_init_48 (by decide) ?_
  refine a_newI 4 (fun q7 => pre ++ [(q0, .inr (2, [.ref q1, .ref q3, .ref q4, .ref q5, .ref q6, .null, .int 0, .int 0])), (q1, .inr (3, [.ref q2, .int 0, .int 0])), (q2, .inl (gA g 0, 48, .inl (fun _ => 0))), (q3, .inl (gA g 0, 6, .inl (fun _ => 0))), (q4, .inl (gA g 0, 6, .inl (fun _ => 0))), (q5, .inl (gA g 0, 6, .inl (fun _ => 0))), (q6, .inl (gA g 0, 6, .inl (fun _ => 0))), (q7, .inl (gA g 0, 4, .inl (fun _ => 0)))]) (by decide) (by decide) (by decide) (fun _ => List.append_assoc _ _ _) (by constructor <;> exact Nat.le_of_ble_eq_true rfl) dX2_init_49 (fun q7 => ?_)
  refine a_putF (pre.length + 0) (pre ++ [(q0, .inr (2, [.ref q1, .ref q3, .ref q4, .ref q5, .ref q6, .ref q7, .int 0, .int 0])), (q1, .inr (3, [.ref q2, .int 0, .int 0])), (q2, .inl (gA g 0, 48, .inl (fun _ => 0))), (q3, .inl (gA g 0, 6, .inl (fun _ => 0))), (q4, .inl (gA g 0, 6, .inl (fun _ => 0))), (q5, .inl (gA g 0, 6, .inl (fun _ => 0))), (q6, .inl (gA g 0, 6, .inl (fun _ => 0))), (q7, .inl (gA g 0, 4, .inl (fun _ => 0)))]) F_X2_31 rfl (by rw [ap]; rfl) (Nat.le_of_ble_eq_true rfl) rfl rfl (by rw [ap_set]; rfl) dX2_init_51 ?_
  refine a_aload_n 0 dX2_init_54 rfl rfl ?_
  refine a_iconst (v := 0) dX2_init_55 (by decide) ?_
  refine a_putW (pre.length + 0) (pre ++ [(q0, .inr (2, [.ref q1, .ref q3, .ref q4, .ref q5, .ref q6, .ref q7, .int 0, .int 0])), (q1, .inr (3, [.ref q2, .int 0, .int 0])), (q2, .inl (gA g 0, 48, .inl (fun _ => 0))), (q3, .inl (gA g 0, 6, .inl (fun _ => 0))), (q4, .inl (gA g 0, 6, .inl (fun _ => 0))), (q5, .inl (gA g 0, 6, .inl (fun _ => 0))), (q6, .inl (gA g 0, 6, .inl (fun _ => 0))), (q7, .inl (gA g 0, 4, .inl (fun _ => 0)))]) H_X2_34 (by rw [ap]; rfl) (Nat.le_of_ble_eq_true rfl) rfl rfl (by rw [ap_set]; rfl) dX2_init_56 ?_
  refine a_aload_n 0 dX2_init_59 rfl rfl ?_
  refine a_iconst (v := 0) dX2_init_60 (by decide) ?_
  refine a_putW (pre.length + 0) (pre ++ [(q0, .inr (2, [.ref q1, .ref q3, .ref q4, .ref q5, .ref q6, .ref q7, .int 0, .int 0])), (q1, .inr (3, [.ref q2, .int 0, .int 0])), (q2, .inl (gA g 0, 48, .inl (fun _ => 0))), (q3, .inl (gA g 0, 6, .inl (fun _ => 0))), (q4, .inl (gA g 0, 6, .inl (fun _ => 0))), (q5, .inl (gA g 0, 6, .inl (fun _ => 0))), (q6, .inl (gA g 0, 6, .inl (fun _ => 0))), (q7, .inl (gA g 0, 4, .inl (fun _ => 0)))]) H_X2_38 (by rw [ap]; rfl) (Nat.le_of_ble_eq_true rfl) rfl rfl (by rw [ap_set]; rfl) dX2_init_61 ?_
  exact a_vretW rfl dX2_init_64 ⟨rfl, q1, q2, q3, q4, q5, q6, q7, rfl⟩
set_option maxRecDepth 10000 in
set_option maxHeartbeats 4000000 in
theorem s_X5_init {g : GT} {d : Nat} {pre : va_W} {q0 : Nat} (hd : 1 ≤ d) : Sem g d M_X5_init 1 130 [.ref q0] (pre ++ [(q0, .inr (5, [.null, .int 0, .int 0]))]) (fun v ws => v = none ∧ ∃ q1 : Nat, ws = pre ++ [(q0, .inr (5, [.ref q1, .int 0, .int 0])), (q1, .inl (gA g 0, 130, .inl (fun _ => 0)))]) := by
  refine sem_intro (by decide +kernel) rfl (Nat.le_of_ble_eq_true rfl) ?_
  show AW _ 0 0 0 [(0, .ref q0)] [] _
  replace hd : 1 ≤ d ∧ 1 ≤ d := ⟨by omega, hd⟩
  have hd2 := hd.2
  replace hd := hd.1
  refine a_aload_n 0 dX5_init_0 rfl rfl ?_
  refine a_objI oi_X5 (rokI hd (Nat.le_of_ble_eq_true rfl)) dX5_init_1 ?_
  refine a_aload_n 0 dX5_init_4 rfl rfl ?_
  refine a_sipush (v := 130) dX5_init_5 (by decide) ?_
  refine a_newI 130 (fun q1 => pre ++ [(q0, .inr (5, [.null, .int 0, .int 0])), (q1, .inl (gA g 0, 130, .inl (fun _ => 0)))]) (by decide) (by decide) (by decide) (fun _ => List.append_assoc _ _ _) (by constructor <;> exact Nat.le_of_ble_eq_true rfl) dX5_init_8 (fun q1 => ?_)
  refine a_putF (pre.length + 0) (pre ++ [(q0, .inr (5, [.ref q1, .int 0, .int 0])), (q1, .inl (gA g 0, 130, .inl (fun _ => 0)))]) F_X5_9 rfl (by rw [ap]; rfl) (Nat.le_of_ble_eq_true rfl) rfl rfl (by rw [ap_set]; rfl) dX5_init_10 ?_
  refine a_aload_n 0 dX5_init_13 rfl rfl ?_
  refine a_iconst (v := 0) dX5_init_14 (by decide) ?_
  refine a_putW (pre.length + 0) (pre ++ [(q0, .inr (5, [.ref q1, .int 0, .int 0])), (q1, .inl (gA g 0, 130, .inl (fun _ => 0)))]) H_X5_15 (by rw [ap]; rfl) (Nat.le_of_ble_eq_true rfl) rfl rfl (by rw [ap_set]; rfl) dX5_init_15 ?_
  refine a_aload_n 0 dX5_init_18 rfl rfl ?_
  refine a_iconst (v := 0) dX5_init_19 (by decide) ?_
  refine a_putW (pre.length + 0) (pre ++ [(q0, .inr (5, [.ref q1, .int 0, .int 0])), (q1, .inl (gA g 0, 130, .inl (fun _ => 0)))]) H_X5_19 (by rw [ap]; rfl) (Nat.le_of_ble_eq_true rfl) rfl rfl (by rw [ap_set]; rfl) dX5_init_20 ?_
  exact a_vretW rfl dX5_init_23 ⟨rfl, q1, rfl⟩
set_option maxRecDepth 10000 in
set_option maxHeartbeats 4000000 in
theorem s_X4_init {g : GT} {d : Nat} {pre : va_W} {q0 : Nat} (hd : 1 ≤ d) : Sem g d M_X4_init 1 24 [.ref q0] (pre ++ [(q0, .inr (4, [.null, .int 0, .int 0, .int 0]))]) (fun v ws => v = none ∧ ∃ q1 : Nat, ws = pre ++ [(q0, .inr (4, [.ref q1, .int 0, .int 0, .int 0])), (q1, .inl (gA g 1, 24, .inr (.inl (fun _ => 0))))]) := by
  refine sem_intro (by decide +kernel) rfl (Nat.le_of_ble_eq_true rfl) ?_
  show AW _ 0 0 0 [(0, .ref q0)] [] _
  replace hd : 1 ≤ d ∧ 1 ≤ d := ⟨by omega, hd⟩
  have hd2 := hd.2
  replace hd := hd.1
  refine a_aload_n 0 dX4_init_0 rfl rfl ?_
  refine a_objI oi_X4 (rokI hd (Nat.le_of_ble_eq_true rfl)) dX4_init_1 ?_
  refine a_aload_n 0 dX4_init_4 rfl rfl ?_
  refine a_bipush (v := 24) dX4_init_5 (by decide) ?_
  refine a_newJ 24 (fun q1 => pre ++ [(q0, .inr (4, [.null, .int 0, .int 0, .int 0])), (q1, .inl (gA g 1, 24, .inr (.inl (fun _ => 0))))]) (by decide) (by decide) (by decide) (fun _ => List.append_assoc _ _ _) (by constructor <;> exact Nat.le_of_ble_eq_true rfl) dX4_init_7 (fun q1 => ?_)
  refine a_putF (pre.length + 0) (pre ++ [(q0, .inr (4, [.ref q1, .int 0, .int 0, .int 0])), (q1, .inl (gA g 1, 24, .inr (.inl (fun _ => 0))))]) F_X4_9 rfl (by rw [ap]; rfl) (Nat.le_of_ble_eq_true rfl) rfl rfl (by rw [ap_set]; rfl) dX4_init_9 ?_
  refine a_aload_n 0 dX4_init_12 rfl rfl ?_
  refine a_iconst (v := 0) dX4_init_13 (by decide) ?_
  refine a_putW (pre.length + 0) (pre ++ [(q0, .inr (4, [.ref q1, .int 0, .int 0, .int 0])), (q1, .inl (gA g 1, 24, .inr (.inl (fun _ => 0))))]) H_X4_15 (by rw [ap]; rfl) (Nat.le_of_ble_eq_true rfl) rfl rfl (by rw [ap_set]; rfl) dX4_init_14 ?_
  refine a_aload_n 0 dX4_init_17 rfl rfl ?_
  refine a_iconst (v := 0) dX4_init_18 (by decide) ?_
  refine a_putW (pre.length + 0) (pre ++ [(q0, .inr (4, [.ref q1, .int 0, .int 0, .int 0])), (q1, .inl (gA g 1, 24, .inr (.inl (fun _ => 0))))]) H_X4_19 (by rw [ap]; rfl) (Nat.le_of_ble_eq_true rfl) rfl rfl (by rw [ap_set]; rfl) dX4_init_19 ?_
  refine a_aload_n 0 dX4_init_22 rfl rfl ?_
  refine a_iconst (v := 0) dX4_init_23 (by decide) ?_
  refine a_putW (pre.length + 0) (pre ++ [(q0, .inr (4, [.ref q1, .int 0, .int 0, .int 0])), (q1, .inl (gA g 1, 24, .inr (.inl (fun _ => 0))))]) H_X4_23 (by rw [ap]; rfl) (Nat.le_of_ble_eq_true rfl) rfl rfl (by rw [ap_set]; rfl) dX4_init_24 ?_
  exact a_vretW rfl dX4_init_27 ⟨rfl, q1, rfl⟩
set_option maxRecDepth 10000 in
set_option maxHeartbeats 4000000 in
theorem s_X1_init {g : GT} {d : Nat} {pre : va_W} {q0 : Nat} {r1 : Nat} (hd : 1 ≤ d) : Sem g d M_X1_init 4 768 [.ref q0, .ref r1] (pre ++ [(q0, .inr (1, [.null, .null, .null, .null, .null, .int 0]))]) (fun v ws => v = none ∧ ∃ q1 q2 q3 q4 : Nat, ws = pre ++ [(q0, .inr (1, [.ref r1, .ref q1, .ref q2, .ref q3, .ref q4, .int 0])), (q1, .inl (gA g 0, 192, .inl (fun _ => 0))), (q2, .inl (gA g 0, 192, .inl (fun _ => 0))), (q3, .inl (gA g 0, 192, .inl (fun _ => 0))), (q4, .inl (gA g 0, 192, .inl (fun _ => 0)))]) := by
  refine sem_intro (by decide +kernel) rfl (Nat.le_of_ble_eq_true rfl) ?_
  show AW _ 0 0 0 [(0, .ref q0), (1, .ref r1)] [] _
  replace hd : 1 ≤ d ∧ 1 ≤ d := ⟨by omega, hd⟩
  have hd2 := hd.2
  replace hd := hd.1
  refine a_aload_n 0 dX1_init_0 rfl rfl ?_
  refine a_objI oi_X1 (rokI hd (Nat.le_of_ble_eq_true rfl)) dX1_init_1 ?_
  refine a_aload_n 0 dX1_init_4 rfl rfl ?_
  refine a_sipush (v := 192) dX1_init_5 (by decide) ?_
  refine a_newI 192 (fun q1 => pre ++ [(q0, .inr (1, [.null, .null, .null, .null, .null, .int 0])), (q1, .inl (gA g 0, 192, .inl (fun _ => 0)))]) (by decide) (by decide) (by decide) (fun _ => List.append_assoc _ _ _) (by constructor <;> exact Nat.le_of_ble_eq_true rfl) dX1_init_8 (fun q1 => ?_)
  refine a_putF (pre.length + 0) (pre ++ [(q0, .inr (1, [.null, .ref q1, .null, .null, .null, .int 0])), (q1, .inl (gA g 0, 192, .inl (fun _ => 0)))]) F_X1_11 rfl (by rw [ap]; rfl) (Nat.le_of_ble_eq_true rfl) rfl rfl (by rw [ap_set]; rfl) dX1_init_10 ?_
  refine a_aload_n 0 dX1_init_13 rfl rfl ?_
  refine a_sipush (v := 192) dX1_init_14 (by decide) ?_
  refine a_newI 192 (fun q2 => pre ++ [(q0, .inr (1, [.null, .ref q1, .null, .null, .null, .int 0])), (q1, .inl (gA g 0, 192, .inl (fun _ => 0))), (q2, .inl (gA g 0, 192, .inl (fun _ => 0)))]) (by decide) (by decide) (by decide) (fun _ => List.append_assoc _ _ _) (by constructor <;> exact Nat.le_of_ble_eq_true rfl) dX1_init_17 (fun q2 => ?_)
  refine a_putF (pre.length + 0) (pre ++ [(q0, .inr (1, [.null, .ref q1, .ref q2, .null, .null, .int 0])), (q1, .inl (gA g 0, 192, .inl (fun _ => 0))), (q2, .inl (gA g 0, 192, .inl (fun _ => 0)))]) F_X1_15 rfl (by rw [ap]; rfl) (Nat.le_of_ble_eq_true rfl) rfl rfl (by rw [ap_set]; rfl) dX1_init_19 ?_
  refine a_aload_n 0 dX1_init_22 rfl rfl ?_
  refine a_sipush (v := 192) dX1_init_23 (by decide) ?_
  refine a_newI 192 (fun q3 => pre ++ [(q0, .inr (1, [.null, .ref q1, .ref q2, .null, .null, .int 0])), (q1, .inl (gA g 0, 192, .inl (fun _ => 0))), (q2, .inl (gA g 0, 192, .inl (fun _ => 0))), (q3, .inl (gA g 0, 192, .inl (fun _ => 0)))]) (by decide) (by decide) (by decide) (fun _ => List.append_assoc _ _ _) (by constructor <;> exact Nat.le_of_ble_eq_true rfl) dX1_init_26 (fun q3 => ?_)
  refine a_putF (pre.length + 0) (pre ++ [(q0, .inr (1, [.null, .ref q1, .ref q2, .ref q3, .null, .int 0])), (q1, .inl (gA g 0, 192, .inl (fun _ => 0))), (q2, .inl (gA g 0, 192, .inl (fun _ => 0))), (q3, .inl (gA g 0, 192, .inl (fun _ => 0)))]) F_X1_18 rfl (by rw [ap]; rfl) (Nat.le_of_ble_eq_true rfl) rfl rfl (by rw [ap_set]; rfl) dX1_init_28 ?_
  refine a_aload_n 0 dX1_init_31 rfl rfl ?_
  refine a_sipush (v := 192) dX1_init_32 (by decide) ?_
  refine a_newI 192 (fun q4 => pre ++ [(q0, .inr (1, [.null, .ref q1, .ref q2, .ref q3, .null, .int 0])), (q1, .inl (gA g 0, 192, .inl (fun _ => 0))), (q2, .inl (gA g 0, 192, .inl (fun _ => 0))), (q3, .inl (gA g 0, 192, .inl (fun _ => 0))), (q4, .inl (gA g 0, 192, .inl (fun _ => 0)))]) (by decide) (by decide) (by decide) (fun _ => List.append_assoc _ _ _) (by constructor <;> exact Nat.le_of_ble_eq_true rfl) dX1_init_35 (fun q4 => ?_)
  refine a_putF (pre.length + 0) (pre ++ [(q0, .inr (1, [.null, .ref q1, .ref q2, .ref q3, .ref q4, .int 0])), (q1, .inl (gA g 0, 192, .inl (fun _ => 0))), (q2, .inl (gA g 0, 192, .inl (fun _ => 0))), (q3, .inl (gA g 0, 192, .inl (fun _ => 0))), (q4, .inl (gA g 0, 192, .inl (fun _ => 0)))]) F_X1_21 rfl (by rw [ap]; rfl) (Nat.le_of_ble_eq_true rfl) rfl rfl (by rw [ap_set]; rfl) dX1_init_37 ?_
  refine a_aload_n 0 dX1_init_40 rfl rfl ?_
  refine a_iconst (v := 0) dX1_init_41 (by decide) ?_
  refine a_putW (pre.length + 0) (pre ++ [(q0, .inr (1, [.null, .ref q1, .ref q2, .ref q3, .ref q4, .int 0])), (q1, .inl (gA g 0, 192, .inl (fun _ => 0))), (q2, .inl (gA g 0, 192, .inl (fun _ => 0))), (q3, .inl (gA g 0, 192, .inl (fun _ => 0))), (q4, .inl (gA g 0, 192, .inl (fun _ => 0)))]) H_X1_24 (by rw [ap]; rfl) (Nat.le_of_ble_eq_true rfl) rfl rfl (by rw [ap_set]; rfl) dX1_init_42 ?_
  refine a_aload_n 0 dX1_init_45 rfl rfl ?_
  refine a_aload_n 1 dX1_init_46 rfl rfl ?_
  refine a_putF (pre.length + 0) (pre ++ [(q0, .inr (1, [.ref r1, .ref q1, .ref q2, .ref q3, .ref q4, .int 0])), (q1, .inl (gA g 0, 192, .inl (fun _ => 0))), (q2, .inl (gA g 0, 192, .inl (fun _ => 0))), (q3, .inl (gA g 0, 192, .inl (fun _ => 0))), (q4, .inl (gA g 0, 192, .inl (fun _ => 0)))]) F_X1_28 rfl (by rw [ap]; rfl) (Nat.le_of_ble_eq_true rfl) rfl rfl (by rw [ap_set]; rfl) dX1_init_47 ?_
  exact a_vretW rfl dX1_init_50 ⟨rfl, q1, q2, q3, q4, rfl⟩
