theorem a_sub {k : KT} {c0 s0 pc : Nat} {L L' : List (Nat × Value)} {S : List Value} {es : va_W} (ks : List Nat) (hL : lv_pick L ks = L') (h : AW k c0 s0 pc L' S es) : AW k c0 s0 pc L S es := by
  intro p e s m args below meth c C ls H locs hl hP hD hS
  exact h p e s m args below meth c C ls H locs (lv_sub hl ks hL) hP hD hS
def isV (o : Nat) : Prop := shL[o]? = some (.inr (6, [some 4, some (o + 1), none, none, none, none])) ∧ shL[o + 1]? = some (.inl (0, 4, []))
def isSea (o : Nat) : Prop := shL[o]? = some (.inr (3, [some (o + 1), none, none])) ∧ shL[o + 1]? = some (.inl (0, 48, []))
def isS (o : Nat) : Prop := shL[o]? = some (.inr (4, [some (o + 1), none, none, none])) ∧ shL[o + 1]? = some (.inl (1, 24, []))
def isF (o : Nat) : Prop := shL[o]? = some (.inr (2, [some (o + 1), some (o + 3), some (o + 4), some (o + 5), some (o + 6), some (o + 7), none, none])) ∧ shL[o + 1]? = some (.inr (3, [some (o + 2), none, none])) ∧ shL[o + 2]? = some (.inl (0, 48, [])) ∧ shL[o + 3]? = some (.inl (0, 6, [])) ∧ shL[o + 4]? = some (.inl (0, 6, [])) ∧ shL[o + 5]? = some (.inl (0, 6, [])) ∧ shL[o + 6]? = some (.inl (0, 6, [])) ∧ shL[o + 7]? = some (.inl (0, 4, []))
theorem isF_sea {o : Nat} (h : isF o) : isSea (o + 1) := ⟨h.2.1, h.2.2.1⟩
theorem isF_3 : isF 3 := ⟨sh_3, sh_4, sh_5, sh_6, sh_7, sh_8, sh_9, sh_10⟩
theorem isSea_4 : isSea 4 := ⟨sh_4, sh_5⟩
theorem isF_11 : isF 11 := ⟨sh_11, sh_12, sh_13, sh_14, sh_15, sh_16, sh_17, sh_18⟩
theorem isSea_12 : isSea 12 := ⟨sh_12, sh_13⟩
theorem isF_80 : isF 80 := ⟨sh_80, sh_81, sh_82, sh_83, sh_84, sh_85, sh_86, sh_87⟩
theorem isSea_81 : isSea 81 := ⟨sh_81, sh_82⟩
theorem isF_88 : isF 88 := ⟨sh_88, sh_89, sh_90, sh_91, sh_92, sh_93, sh_94, sh_95⟩
theorem isSea_89 : isSea 89 := ⟨sh_89, sh_90⟩
theorem isV_96 : isV 96 := ⟨sh_96, sh_97⟩
theorem isV_98 : isV 98 := ⟨sh_98, sh_99⟩
theorem isV_100 : isV 100 := ⟨sh_100, sh_101⟩
theorem isV_102 : isV 102 := ⟨sh_102, sh_103⟩
theorem isV_104 : isV 104 := ⟨sh_104, sh_105⟩
theorem isV_106 : isV 106 := ⟨sh_106, sh_107⟩
theorem isV_108 : isV 108 := ⟨sh_108, sh_109⟩
theorem isV_24 : isV 24 := ⟨sh_24, sh_25⟩
theorem isV_26 : isV 26 := ⟨sh_26, sh_27⟩
theorem isV_28 : isV 28 := ⟨sh_28, sh_29⟩
theorem isV_30 : isV 30 := ⟨sh_30, sh_31⟩
theorem isV_32 : isV 32 := ⟨sh_32, sh_33⟩
theorem isV_34 : isV 34 := ⟨sh_34, sh_35⟩
theorem isV_36 : isV 36 := ⟨sh_36, sh_37⟩
theorem isV_38 : isV 38 := ⟨sh_38, sh_39⟩
theorem isV_40 : isV 40 := ⟨sh_40, sh_41⟩
theorem isV_42 : isV 42 := ⟨sh_42, sh_43⟩
theorem isV_44 : isV 44 := ⟨sh_44, sh_45⟩
theorem isV_46 : isV 46 := ⟨sh_46, sh_47⟩
theorem isV_48 : isV 48 := ⟨sh_48, sh_49⟩
theorem isV_50 : isV 50 := ⟨sh_50, sh_51⟩
theorem isV_52 : isV 52 := ⟨sh_52, sh_53⟩
theorem isV_54 : isV 54 := ⟨sh_54, sh_55⟩
theorem isV_56 : isV 56 := ⟨sh_56, sh_57⟩
theorem isV_58 : isV 58 := ⟨sh_58, sh_59⟩
theorem isV_60 : isV 60 := ⟨sh_60, sh_61⟩
theorem isV_62 : isV 62 := ⟨sh_62, sh_63⟩
theorem isV_64 : isV 64 := ⟨sh_64, sh_65⟩
theorem isV_66 : isV 66 := ⟨sh_66, sh_67⟩
theorem isV_68 : isV 68 := ⟨sh_68, sh_69⟩
theorem isV_70 : isV 70 := ⟨sh_70, sh_71⟩
theorem isS_110 : isS 110 := ⟨sh_110, sh_111⟩
theorem isS_112 : isS 112 := ⟨sh_112, sh_113⟩
theorem isS_114 : isS 114 := ⟨sh_114, sh_115⟩
theorem isS_116 : isS 116 := ⟨sh_116, sh_117⟩
theorem isV_72 : ∀ i, i < 7 → isV (96 + 2 * i) := by
  intro i hi
  match i, hi with
  | 0, _ => exact isV_96
  | 1, _ => exact isV_98
  | 2, _ => exact isV_100
  | 3, _ => exact isV_102
  | 4, _ => exact isV_104
  | 5, _ => exact isV_106
  | 6, _ => exact isV_108
  | i + 7, hi => exact absurd hi (by omega)
theorem o_72 {i : Int32} (h : vp_in i 7) : isV (96 + 2 * i.toNatClampNeg) := isV_72 _ (Nat.not_le.mp fun q => h (Or.inr q))
theorem rr_72 : ∀ n, n < 7 → ([96, 98, 100, 102, 104, 106, 108] : List Nat)[n]? = some (96 + 2 * n) := by decide
theorem r_72 {i : Int32} (h : vp_in i 7) : ([96, 98, 100, 102, 104, 106, 108] : List Nat)[i.toNatClampNeg]? = some (96 + 2 * i.toNatClampNeg) := rr_72 _ (Nat.not_le.mp fun q => h (Or.inr q))
theorem isV_21 : ∀ i, i < 24 → isV (24 + 2 * i) := by
  intro i hi
  match i, hi with
  | 0, _ => exact isV_24
  | 1, _ => exact isV_26
  | 2, _ => exact isV_28
  | 3, _ => exact isV_30
  | 4, _ => exact isV_32
  | 5, _ => exact isV_34
  | 6, _ => exact isV_36
  | 7, _ => exact isV_38
  | 8, _ => exact isV_40
  | 9, _ => exact isV_42
  | 10, _ => exact isV_44
  | 11, _ => exact isV_46
  | 12, _ => exact isV_48
  | 13, _ => exact isV_50
  | 14, _ => exact isV_52
  | 15, _ => exact isV_54
  | 16, _ => exact isV_56
  | 17, _ => exact isV_58
  | 18, _ => exact isV_60
  | 19, _ => exact isV_62
  | 20, _ => exact isV_64
  | 21, _ => exact isV_66
  | 22, _ => exact isV_68
  | 23, _ => exact isV_70
  | i + 24, hi => exact absurd hi (by omega)
theorem o_21 {i : Int32} (h : vp_in i 24) : isV (24 + 2 * i.toNatClampNeg) := isV_21 _ (Nat.not_le.mp fun q => h (Or.inr q))
theorem rr_21 : ∀ n, n < 24 → ([24, 26, 28, 30, 32, 34, 36, 38, 40, 42, 44, 46, 48, 50, 52, 54, 56, 58, 60, 62, 64, 66, 68, 70] : List Nat)[n]? = some (24 + 2 * n) := by decide
theorem r_21 {i : Int32} (h : vp_in i 24) : ([24, 26, 28, 30, 32, 34, 36, 38, 40, 42, 44, 46, 48, 50, 52, 54, 56, 58, 60, 62, 64, 66, 68, 70] : List Nat)[i.toNatClampNeg]? = some (24 + 2 * i.toNatClampNeg) := rr_21 _ (Nat.not_le.mp fun q => h (Or.inr q))
theorem isF_19 : ∀ i, i < 2 → isF (80 + 8 * i) := by
  intro i hi
  match i, hi with
  | 0, _ => exact isF_80
  | 1, _ => exact isF_88
  | i + 2, hi => exact absurd hi (by omega)
theorem o_19 {i : Int32} (h : vp_in i 2) : isF (80 + 8 * i.toNatClampNeg) := isF_19 _ (Nat.not_le.mp fun q => h (Or.inr q))
theorem rr_19 : ∀ n, n < 2 → ([80, 88] : List Nat)[n]? = some (80 + 8 * n) := by decide
theorem r_19 {i : Int32} (h : vp_in i 2) : ([80, 88] : List Nat)[i.toNatClampNeg]? = some (80 + 8 * i.toNatClampNeg) := rr_19 _ (Nat.not_le.mp fun q => h (Or.inr q))
theorem isS_78 : ∀ i, i < 4 → isS (110 + 2 * i) := by
  intro i hi
  match i, hi with
  | 0, _ => exact isS_110
  | 1, _ => exact isS_112
  | 2, _ => exact isS_114
  | 3, _ => exact isS_116
  | i + 4, hi => exact absurd hi (by omega)
theorem o_78 {i : Int32} (h : vp_in i 4) : isS (110 + 2 * i.toNatClampNeg) := isS_78 _ (Nat.not_le.mp fun q => h (Or.inr q))
theorem rr_78 : ∀ n, n < 4 → ([110, 112, 114, 116] : List Nat)[n]? = some (110 + 2 * n) := by decide
theorem r_78 {i : Int32} (h : vp_in i 4) : ([110, 112, 114, 116] : List Nat)[i.toNatClampNeg]? = some (110 + 2 * i.toNatClampNeg) := rr_78 _ (Nat.not_le.mp fun q => h (Or.inr q))
theorem tI_ne {x c : Int32} {n : Int} (hc : c.toInt = n) (h : ¬ x = c) : x.toInt ≠ n := by
  intro q
  exact h (Int32.toInt_inj.mp (q.trans hc.symm))
theorem st_OVER : Cond.fieldLink RX7 316 "FigureHeads" "OVER" "[I" ∈ gtbl := gm 452 (by decide +kernel) rfl
def stN (i : Nat) : Nat := ([3, 5, 4] : List Nat).getD i 0
def stC (i j : Nat) : Int32 := (stB.getD i []).getD j 0
theorem nw_ROW : Cond.fieldLinkNest RX3 32 "FigureHeads" "ROW_STEP" "[I" "FigureHeads" ∈ nestW := by decide +kernel
theorem nw_COL : Cond.fieldLinkNest RX3 35 "FigureHeads" "COLUMN_STEP" "[I" "FigureHeads" ∈ nestW := by decide +kernel
theorem mk_ini : Cond.initialized "java/lang/Math" ∈ gtbl := ini_J9
theorem a_ldcS0 {k : KT} {c0 s0 pc : Nat} {L : List (Nat × Value)} {S : List Value} {es : va_W} (hO : kO k = RX5) (hd : decode (kC k) pc = .ok (.ldc 68, 2)) (h : AW k c0 s0 (pc + 2) L (.ref (gR k.1 3) :: S) es) : AW k c0 s0 pc L S es := by
  intro p e s m args below meth c C ls H locs hl hP hD hS
  exact va_ldcS C.1 C.2.1 (own := RX5) (by rw [← hO]; exact C.2.2.2.2.1) C.2.2.2.2.2.2.2.2.1.2.2.2.2.2.1.1 hd (h p e s m args below meth c C ls H locs hl hP hD hS)
theorem a_ldcS1 {k : KT} {c0 s0 pc : Nat} {L : List (Nat × Value)} {S : List Value} {es : va_W} (hO : kO k = RX5) (hd : decode (kC k) pc = .ok (.ldc 88, 2)) (h : AW k c0 s0 (pc + 2) L (.ref (gR k.1 4) :: S) es) : AW k c0 s0 pc L S es := by
  intro p e s m args below meth c C ls H locs hl hP hD hS
  exact va_ldcS C.1 C.2.1 (own := RX5) (by rw [← hO]; exact C.2.2.2.2.1) C.2.2.2.2.2.2.2.2.1.2.2.2.2.2.1.2.1 hd (h p e s m args below meth c C ls H locs hl hP hD hS)
theorem a_ldcS2 {k : KT} {c0 s0 pc : Nat} {L : List (Nat × Value)} {S : List Value} {es : va_W} (hO : kO k = RX5) (hd : decode (kC k) pc = .ok (.ldc 96, 2)) (h : AW k c0 s0 (pc + 2) L (.ref (gR k.1 5) :: S) es) : AW k c0 s0 pc L S es := by
  intro p e s m args below meth c C ls H locs hl hP hD hS
  exact va_ldcS C.1 C.2.1 (own := RX5) (by rw [← hO]; exact C.2.2.2.2.1) C.2.2.2.2.2.2.2.2.1.2.2.2.2.2.1.2.2 hd (h p e s m args below meth c C ls H locs hl hP hD hS)
theorem fk_coder : Cond.fieldLink RJ0 15 "java/lang/String" "coder" "B" ∈ gtbl := gm 1254 (by decide +kernel) rfl
theorem fk_value : Cond.fieldLink RJ0 9 "java/lang/String" "value" "[B" ∈ gtbl := gm 1255 (by decide +kernel) rfl
theorem fk_comp : Cond.fieldLink RJ0 38 "java/lang/String" "COMPACT_STRINGS" "Z" ∈ gtbl := gm 313 (by decide +kernel) rfl
theorem a_coder {k : KT} {c0 s0 pc : Nat} {L : List (Nat × Value)} {S : List Value} {es : va_W} {i idx : Nat} (hi : i < 3) (hw : Cond.fieldLink (kO k) idx "java/lang/String" "coder" "B" ∈ gtbl) (hd : decode (kC k) pc = .ok (.getfield idx, 3)) (h : AW k c0 s0 (pc + 3) L (.int 0 :: S) es) : AW k c0 s0 pc L (.ref (gR k.1 (3 + i)) :: S) es := by
  intro p e s m args below meth c C ls H locs hl hP hD hS
  exact vk_getf (A := gF k.1) C.1 C.2.1 (C.2.2.2.2.2.2.2.2.1.2.2.2.2.1.1 i hi).2.1 hS C.2.2.2.2.1 (C.2.2.2.2.2.2.1 _ hw) (fun _ h9 => h9) hd (h p e s m args below meth c C ls H locs hl hP hD hS)
theorem a_value {k : KT} {c0 s0 pc : Nat} {L : List (Nat × Value)} {S : List Value} {es : va_W} {i idx : Nat} (hi : i < 3) (hw : Cond.fieldLink (kO k) idx "java/lang/String" "value" "[B" ∈ gtbl) (hd : decode (kC k) pc = .ok (.getfield idx, 3)) (h : AW k c0 s0 (pc + 3) L (.ref (gR k.1 (6 + i)) :: S) es) : AW k c0 s0 pc L (.ref (gR k.1 (3 + i)) :: S) es := by
  intro p e s m args below meth c C ls H locs hl hP hD hS
  exact vk_getf (A := gF k.1) C.1 C.2.1 (C.2.2.2.2.2.2.2.2.1.2.2.2.2.1.1 i hi).2.2.1 hS C.2.2.2.2.1 (C.2.2.2.2.2.2.1 _ hw) (fun _ h9 => h9) hd (h p e s m args below meth c C ls H locs hl hP hD hS)
theorem a_COMP {k : KT} {c0 s0 pc : Nat} {L : List (Nat × Value)} {S : List Value} {es : va_W} {idx : Nat} (hw : Cond.fieldLink (kO k) idx "java/lang/String" "COMPACT_STRINGS" "Z" ∈ gtbl) (hd : decode (kC k) pc = .ok (.getstatic idx, 3)) (h : AW k c0 s0 (pc + 3) L (.int 1 :: S) es) : AW k c0 s0 pc L S es := by
  intro p e s m args below meth c C ls H locs hl hP hD hS
  exact va_gets (A := gF k.1) C.1 C.2.1 C.2.2.2.2.2.2.2.2.1.2.2.2.1 hS C.2.2.2.2.1 (C.2.2.2.2.2.2.1 _ hw) (fun _ h9 => h9) hd (h p e s m args below meth c C ls H locs hl hP hD hS)
theorem a_byt {k : KT} {c0 s0 pc : Nat} {L : List (Nat × Value)} {S : List Value} {es : va_W} {i : Nat} {j : Int32} (hi : i < 3) (hin : vp_in j (stN i)) (hd : decode (kC k) pc = .ok (.baload, 1)) (h : AW k c0 s0 (pc + 1) L (.int (stC i j.toNatClampNeg) :: S) es) : AW k c0 s0 pc L (.int j :: .ref (gR k.1 (6 + i)) :: S) es := by
  intro p e s m args below meth c C ls H locs hl hP hD hS
  exact va_tb (A := gF k.1) C.1 C.2.1 (C.2.2.2.2.2.2.2.2.1.2.2.2.2.1.1 i hi).2.2.2 hS hin rfl hd (h p e s m args below meth c C ls H locs hl hP hD hS)
theorem a_blen {k : KT} {c0 s0 pc : Nat} {L : List (Nat × Value)} {S : List Value} {es : va_W} {i : Nat} (hi : i < 3) (hd : decode (kC k) pc = .ok (.arraylength, 1)) (h : AW k c0 s0 (pc + 1) L (.int (Int32.ofNat (stN i)) :: S) es) : AW k c0 s0 pc L (.ref (gR k.1 (6 + i)) :: S) es := by
  intro p e s m args below meth c C ls H locs hl hP hD hS
  have hT := (C.2.2.2.2.2.2.2.2.1.2.2.2.2.1.1 i hi).2.2.2
  obtain ⟨cell, h1, h2, h3, h4, h5, h6, h7⟩ := hT
  exact W.alen C.1 C.2.1 (by rw [hS.2.1 _ (Array.getElem?_eq_some_iff.mp h1).1 h7]; exact h1) h2 h5 rfl rfl hd (h p e s m args below meth c C ls H locs hl hP hD hS)
theorem c_strI {k : KT} {c0 s0 pc idx n d i : Nat} {M : MT} {L : List (Nat × Value)} {S As rest : List Value} {I : IT} {J : JT} {P : Int32 → IT → JT → Prop} (hi : i < 3) (hM : SemI k.1 d M (.ref (gR k.1 (3 + i)) :: As) I J P) (hF : CFV (kO k) idx M n) (hC : M.1.cls = "java/lang/String") (hn : As.length = n) (hS : S = As.reverse ++ .ref (gR k.1 (3 + i)) :: rest) (hw : (rest.map fun v => v.category).sum ≤ 8) (hR : rOK k.2.1 d M.2.2.1) (hf : c0 ≤ k.2.1.cells ∧ s0 ≤ k.2.1.slots) (hd : decode (kC k) pc = .ok (.invokevirtual idx, 3)) (h : ∀ (r : Int32) (I : IT) (J : JT), P r I J → AW k c0 s0 (pc + 3) L (.int r :: rest) (cW k.1 I J)) : AW k c0 s0 pc L S (cW k.1 I J) := by
  refine AW.call (mc := 0) (ms := 0) (rest := rest) (Post := qI k.1 P) (av := (Value.ref (gR k.1 (3 + i)) :: As).toArray) (fun p e s m args below meth c C ls H locs hl hP hD hSS => ?_) (fun v es' hp => ?_)
  · obtain ⟨hx, hb, hr, hml, hown, hlk, hts, hK, hRo, -, -, hB0⟩ := C
    exact va_runV (As := As) (rest := rest) (b := gR k.1 (3 + i)) (nL := kN k) (Ts := gtbl) ⟨hx, hb, hml, hown, hts⟩ hM ⟨hF.1.B hts hR, hts _ hF.2.1, hts _ hF.2.2⟩ ⟨PreH.blind, by rw [hC]; exact vk_recv (adK := fun i => gR k.1 (3 + i)) hRo.2.2.2.2.1 hi hSS, fun U hU hW => ⟨rfl, PreH.of hP hD hB0 hK hRo hSS hU hW⟩⟩ rfl hn hl.1 hS (by show 2 * 0 + _ ≤ 8; omega) hd hf
  · obtain ⟨r, I1, J1, e1, e2, hp⟩ := hp
    rw [e1, e2]
    exact h r I1 J1 hp
theorem c_strZ {k : KT} {c0 s0 pc idx n d i : Nat} {M : MT} {L : List (Nat × Value)} {S As rest : List Value} {I : IT} {J : JT} {P : Bool → IT → JT → Prop} (hi : i < 3) (hM : SemZ k.1 d M (.ref (gR k.1 (3 + i)) :: As) I J P) (hF : CFV (kO k) idx M n) (hC : M.1.cls = "java/lang/String") (hn : As.length = n) (hS : S = As.reverse ++ .ref (gR k.1 (3 + i)) :: rest) (hw : (rest.map fun v => v.category).sum ≤ 8) (hR : rOK k.2.1 d M.2.2.1) (hf : c0 ≤ k.2.1.cells ∧ s0 ≤ k.2.1.slots) (hd : decode (kC k) pc = .ok (.invokevirtual idx, 3)) (h : ∀ (r : Bool) (I : IT) (J : JT), P r I J → AW k c0 s0 (pc + 3) L (.int (bI r) :: rest) (cW k.1 I J)) : AW k c0 s0 pc L S (cW k.1 I J) := by
  refine AW.call (mc := 0) (ms := 0) (rest := rest) (Post := qZ k.1 P) (av := (Value.ref (gR k.1 (3 + i)) :: As).toArray) (fun p e s m args below meth c C ls H locs hl hP hD hSS => ?_) (fun v es' hp => ?_)
  · obtain ⟨hx, hb, hr, hml, hown, hlk, hts, hK, hRo, -, -, hB0⟩ := C
    exact va_runV (As := As) (rest := rest) (b := gR k.1 (3 + i)) (nL := kN k) (Ts := gtbl) ⟨hx, hb, hml, hown, hts⟩ hM ⟨hF.1.B hts hR, hts _ hF.2.1, hts _ hF.2.2⟩ ⟨PreH.blind, by rw [hC]; exact vk_recv (adK := fun i => gR k.1 (3 + i)) hRo.2.2.2.2.1 hi hSS, fun U hU hW => ⟨rfl, PreH.of hP hD hB0 hK hRo hSS hU hW⟩⟩ rfl hn hl.1 hS (by show 2 * 0 + _ ≤ 8; omega) hd hf
  · obtain ⟨r, I1, J1, e1, e2, hp⟩ := hp
    rw [e1, e2]
    exact h r I1 J1 hp
abbrev M_J2_indexOf_4cfef : MT := (yJ2_indexOf_4cfef, cJ2_indexOf_4cfef, 4, (some .int), RJ2)
theorem K_J0_640 : CFS RJ0 640 M_J2_indexOf_4cfef 4 := ⟨⟨gm 338 (by decide +kernel) rfl, gm 340 (by decide +kernel) rfl, gm 13 (by decide +kernel) rfl, by decide +kernel, by decide +kernel⟩, gm 339 (by decide +kernel) rfl⟩
theorem mk_max_c : Cond.code Lib.Math.max.name Lib.Math.max.code 2 (some .int) ∈ gtbl := gm 331 (by decide +kernel) rfl
theorem mk_max_s : Cond.static Lib.Math.max.name ∈ gtbl := gm 330 (by decide +kernel) rfl
theorem a_mmax {k : KT} {c0 s0 pc : Nat} {L : List (Nat × Value)} {S : List Value} {es : va_W} {x y : Int32} {idx : Nat} (hw : Cond.methodLink (kO k) idx Lib.Math.max.name ∈ gtbl) (hR : 1 ≤ k.2.1.frames ∧ (S.map fun v => v.category).sum + 13 ≤ k.2.1.locals) (hf : c0 ≤ k.2.1.cells ∧ s0 ≤ k.2.1.slots) (hd : decode (kC k) pc = .ok (.invokestatic idx, 3)) (h : AW k c0 s0 (pc + 3) L (.int (if x < y then y else x) :: S) es) : AW k c0 s0 pc L (.int y :: .int x :: S) es := by
  intro p e s m args below meth c C ls H locs hl hP hD hS
  exact va_mmax C.1 C.2.1 (C.2.2.2.1.trans hl.1.symm) C.2.2.2.2.1 (C.2.2.2.2.2.2.1 _ hw) (C.2.2.2.2.2.2.1 _ mk_max_s) (C.2.2.2.2.2.2.1 _ mk_ini) (C.2.2.2.2.2.2.1 _ mk_max_c) hR.1 hR.2 hf.1 hf.2 hd (h p e s m args below meth c C ls H locs hl hP hD hS)
theorem mk_min_c : Cond.code Lib.Math.min.name Lib.Math.min.code 2 (some .int) ∈ gtbl := gm 334 (by decide +kernel) rfl
theorem mk_min_s : Cond.static Lib.Math.min.name ∈ gtbl := gm 333 (by decide +kernel) rfl
theorem a_mmin {k : KT} {c0 s0 pc : Nat} {L : List (Nat × Value)} {S : List Value} {es : va_W} {x y : Int32} {idx : Nat} (hw : Cond.methodLink (kO k) idx Lib.Math.min.name ∈ gtbl) (hR : 1 ≤ k.2.1.frames ∧ (S.map fun v => v.category).sum + 13 ≤ k.2.1.locals) (hf : c0 ≤ k.2.1.cells ∧ s0 ≤ k.2.1.slots) (hd : decode (kC k) pc = .ok (.invokestatic idx, 3)) (h : AW k c0 s0 (pc + 3) L (.int (if y < x then y else x) :: S) es) : AW k c0 s0 pc L (.int y :: .int x :: S) es := by
  intro p e s m args below meth c C ls H locs hl hP hD hS
  exact va_mmin C.1 C.2.1 (C.2.2.2.1.trans hl.1.symm) C.2.2.2.2.1 (C.2.2.2.2.2.2.1 _ hw) (C.2.2.2.2.2.2.1 _ mk_min_s) (C.2.2.2.2.2.2.1 _ mk_ini) (C.2.2.2.2.2.2.1 _ mk_min_c) hR.1 hR.2 hf.1 hf.2 hd (h p e s m args below meth c C ls H locs hl hP hD hS)
theorem mk_abs_c : Cond.code Lib.Math.abs.name Lib.Math.abs.code 1 (some .int) ∈ gtbl := gm 676 (by decide +kernel) rfl
theorem mk_abs_s : Cond.static Lib.Math.abs.name ∈ gtbl := gm 675 (by decide +kernel) rfl
theorem a_mabs {k : KT} {c0 s0 pc : Nat} {L : List (Nat × Value)} {S : List Value} {es : va_W} {x : Int32} {idx : Nat} (hw : Cond.methodLink (kO k) idx Lib.Math.abs.name ∈ gtbl) (hR : 1 ≤ k.2.1.frames ∧ (S.map fun v => v.category).sum + 13 ≤ k.2.1.locals) (hf : c0 ≤ k.2.1.cells ∧ s0 ≤ k.2.1.slots) (hd : decode (kC k) pc = .ok (.invokestatic idx, 3)) (h : AW k c0 s0 (pc + 3) L (.int (if 0 ≤ x then x else 0 - x) :: S) es) : AW k c0 s0 pc L (.int x :: S) es := by
  intro p e s m args below meth c C ls H locs hl hP hD hS
  exact va_mabs C.1 C.2.1 (C.2.2.2.1.trans hl.1.symm) C.2.2.2.2.1 (C.2.2.2.2.2.2.1 _ hw) (C.2.2.2.2.2.2.1 _ mk_abs_s) (C.2.2.2.2.2.2.1 _ mk_ini) (C.2.2.2.2.2.2.1 _ mk_abs_c) hR.1 hR.2 hf.1 hf.2 hd (h p e s m args below meth c C ls H locs hl hP hD hS)
theorem rokM {d mc ms : Nat} {S : List Value} (h : 1 ≤ d) (hs : (S.map fun v => v.category).sum ≤ 40) : 1 ≤ (rmD d mc ms).frames ∧ (S.map fun v => v.category).sum + 13 ≤ (rmD d mc ms).locals := ⟨h, by show _ ≤ 60 * d; omega⟩
theorem a_bret {g : GT} {d pc : Nat} {M : MT} {L : List (Nat × Value)} {I : IT} {J : JT} {x : Int32} {P : Int32 → IT → JT → Prop} (hr : M.2.2.2.1 = some .byte) (hn : narrow .byte (.int x) = .int x) (hd : decode M.2.1 pc = .ok (.ireturn, 1)) (h : P x I J) : AW (kM g d M 0 0 (qI g P)) 0 0 pc L [.int x] (cW g I J) := by
  intro p e s m args below meth c C ls H locs hl hP hD hS
  exact W.zret C.1 C.2.1 (C.2.2.1.trans hr) hn (fun t ht hW => ⟨_, _, rfl, ⟨x, I, J, rfl, rfl, h⟩, by rw [ht]; exact hP, hD, hS.F ht⟩) hS.2.2 hd C.2.2.2.2.2.1
abbrev M_J0_length_8abf5 : MT := (yJ0_length_8abf5, cJ0_length_8abf5, 1, (some .int), RJ0)
theorem K_J0_505 : CFV RJ0 505 M_J0_length_8abf5 0 := ⟨⟨gm 315 (by decide +kernel) rfl, gm 318 (by decide +kernel) rfl, ini_J0, by decide +kernel, by decide +kernel⟩, gm 316 (by decide +kernel) rfl, gm 317 (by decide +kernel) rfl⟩
abbrev M_J0_coder_7d493 : MT := (yJ0_coder_7d493, cJ0_coder_7d493, 1, (some .byte), RJ0)
theorem K_J0_335 : CFV RJ0 335 M_J0_coder_7d493 0 := ⟨⟨gm 319 (by decide +kernel) rfl, gm 322 (by decide +kernel) rfl, ini_J0, by decide +kernel, by decide +kernel⟩, gm 320 (by decide +kernel) rfl, gm 321 (by decide +kernel) rfl⟩
