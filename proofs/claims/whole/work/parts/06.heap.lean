abbrev IT : Type := Nat → Nat → Int32
abbrev JT : Type := Nat → Nat → Int64
abbrev SH : Type := (Nat × Nat × List Nat) ⊕ (Nat × List (Option Nat))
def shL : List SH := [.inr (7, [some 1, some 3, some 11, some 19, some 20, some 72, some 73, some 78, some 79]), .inr (5, [some 2, none, none]), .inl (0, 130, []), .inr (2, [some 4, some 6, some 7, some 8, some 9, some 10, none, none]), .inr (3, [some 5, none, none]), .inl (0, 48, []), .inl (0, 6, []), .inl (0, 6, []), .inl (0, 6, []), .inl (0, 6, []), .inl (0, 4, []), .inr (2, [some 12, some 14, some 15, some 16, some 17, some 18, none, none]), .inr (3, [some 13, none, none]), .inl (0, 48, []), .inl (0, 6, []), .inl (0, 6, []), .inl (0, 6, []), .inl (0, 6, []), .inl (0, 4, []), .inl (2, 2, [80, 88]), .inr (0, [some 21, some 22, some 23, none, none]), .inl (3, 24, [24, 26, 28, 30, 32, 34, 36, 38, 40, 42, 44, 46, 48, 50, 52, 54, 56, 58, 60, 62, 64, 66, 68, 70]), .inl (0, 24, []), .inl (0, 24, []), .inr (6, [some 4, some 25, none, none, none, none]), .inl (0, 4, []), .inr (6, [some 4, some 27, none, none, none, none]), .inl (0, 4, []), .inr (6, [some 4, some 29, none, none, none, none]), .inl (0, 4, []), .inr (6, [some 4, some 31, none, none, none, none]), .inl (0, 4, []), .inr (6, [some 4, some 33, none, none, none, none]), .inl (0, 4, []), .inr (6, [some 4, some 35, none, none, none, none]), .inl (0, 4, []), .inr (6, [some 4, some 37, none, none, none, none]), .inl (0, 4, []), .inr (6, [some 4, some 39, none, none, none, none]), .inl (0, 4, []), .inr (6, [some 4, some 41, none, none, none, none]), .inl (0, 4, []), .inr (6, [some 4, some 43, none, none, none, none]), .inl (0, 4, []), .inr (6, [some 4, some 45, none, none, none, none]), .inl (0, 4, []), .inr (6, [some 4, some 47, none, none, none, none]), .inl (0, 4, []), .inr (6, [some 4, some 49, none, none, none, none]), .inl (0, 4, []), .inr (6, [some 4, some 51, none, none, none, none]), .inl (0, 4, []), .inr (6, [some 4, some 53, none, none, none, none]), .inl (0, 4, []), .inr (6, [some 4, some 55, none, none, none, none]), .inl (0, 4, []), .inr (6, [some 4, some 57, none, none, none, none]), .inl (0, 4, []), .inr (6, [some 4, some 59, none, none, none, none]), .inl (0, 4, []), .inr (6, [some 4, some 61, none, none, none, none]), .inl (0, 4, []), .inr (6, [some 4, some 63, none, none, none, none]), .inl (0, 4, []), .inr (6, [some 4, some 65, none, none, none, none]), .inl (0, 4, []), .inr (6, [some 4, some 67, none, none, none, none]), .inl (0, 4, []), .inr (6, [some 4, some 69, none, none, none, none]), .inl (0, 4, []), .inr (6, [some 4, some 71, none, none, none, none]), .inl (0, 4, []), .inl (3, 7, [96, 98, 100, 102, 104, 106, 108]), .inr (1, [some 4, some 74, some 75, some 76, some 77, none]), .inl (0, 192, []), .inl (0, 192, []), .inl (0, 192, []), .inl (0, 192, []), .inl (4, 4, [110, 112, 114, 116]), .inl (0, 6, []), .inr (2, [some 81, some 83, some 84, some 85, some 86, some 87, none, none]), .inr (3, [some 82, none, none]), .inl (0, 48, []), .inl (0, 6, []), .inl (0, 6, []), .inl (0, 6, []), .inl (0, 6, []), .inl (0, 4, []), .inr (2, [some 89, some 91, some 92, some 93, some 94, some 95, none, none]), .inr (3, [some 90, none, none]), .inl (0, 48, []), .inl (0, 6, []), .inl (0, 6, []), .inl (0, 6, []), .inl (0, 6, []), .inl (0, 4, []), .inr (6, [some 4, some 97, none, none, none, none]), .inl (0, 4, []), .inr (6, [some 4, some 99, none, none, none, none]), .inl (0, 4, []), .inr (6, [some 4, some 101, none, none, none, none]), .inl (0, 4, []), .inr (6, [some 4, some 103, none, none, none, none]), .inl (0, 4, []), .inr (6, [some 4, some 105, none, none, none, none]), .inl (0, 4, []), .inr (6, [some 4, some 107, none, none, none, none]), .inl (0, 4, []), .inr (6, [some 4, some 109, none, none, none, none]), .inl (0, 4, []), .inr (4, [some 111, none, none, none]), .inl (1, 24, []), .inr (4, [some 113, none, none, none]), .inl (1, 24, []), .inr (4, [some 115, none, none, none]), .inl (1, 24, []), .inr (4, [some 117, none, none, none]), .inl (1, 24, []), .inr (8, [some 119, none, some 120, none, some 121, some 122, some 123, none, some 124, some 125, some 126, some 127, some 128, some 129]), .inl (0, 952, []), .inl (0, 130, []), .inl (1, 96, []), .inl (0, 4, []), .inl (0, 4, []), .inl (0, 192, []), .inl (0, 7, []), .inl (0, 6, []), .inl (0, 729, []), .inl (1, 24, []), .inl (0, 6, [])]
set_option maxRecDepth 4000 in
theorem shL_len : shL.length = 130 := rfl
theorem sh_0 : shL[0]? = some (.inr (7, [some 1, some 3, some 11, some 19, some 20, some 72, some 73, some 78, some 79])) := rfl
theorem sh_1 : shL[1]? = some (.inr (5, [some 2, none, none])) := rfl
theorem sh_2 : shL[2]? = some (.inl (0, 130, [])) := rfl
theorem sh_3 : shL[3]? = some (.inr (2, [some 4, some 6, some 7, some 8, some 9, some 10, none, none])) := rfl
theorem sh_4 : shL[4]? = some (.inr (3, [some 5, none, none])) := rfl
theorem sh_5 : shL[5]? = some (.inl (0, 48, [])) := rfl
theorem sh_6 : shL[6]? = some (.inl (0, 6, [])) := rfl
theorem sh_7 : shL[7]? = some (.inl (0, 6, [])) := rfl
theorem sh_8 : shL[8]? = some (.inl (0, 6, [])) := rfl
theorem sh_9 : shL[9]? = some (.inl (0, 6, [])) := rfl
theorem sh_10 : shL[10]? = some (.inl (0, 4, [])) := rfl
theorem sh_11 : shL[11]? = some (.inr (2, [some 12, some 14, some 15, some 16, some 17, some 18, none, none])) := rfl
theorem sh_12 : shL[12]? = some (.inr (3, [some 13, none, none])) := rfl
theorem sh_13 : shL[13]? = some (.inl (0, 48, [])) := rfl
theorem sh_14 : shL[14]? = some (.inl (0, 6, [])) := rfl
theorem sh_15 : shL[15]? = some (.inl (0, 6, [])) := rfl
theorem sh_16 : shL[16]? = some (.inl (0, 6, [])) := rfl
theorem sh_17 : shL[17]? = some (.inl (0, 6, [])) := rfl
theorem sh_18 : shL[18]? = some (.inl (0, 4, [])) := rfl
theorem sh_19 : shL[19]? = some (.inl (2, 2, [80, 88])) := rfl
theorem sh_20 : shL[20]? = some (.inr (0, [some 21, some 22, some 23, none, none])) := rfl
theorem sh_21 : shL[21]? = some (.inl (3, 24, [24, 26, 28, 30, 32, 34, 36, 38, 40, 42, 44, 46, 48, 50, 52, 54, 56, 58, 60, 62, 64, 66, 68, 70])) := rfl
theorem sh_22 : shL[22]? = some (.inl (0, 24, [])) := rfl
theorem sh_23 : shL[23]? = some (.inl (0, 24, [])) := rfl
theorem sh_24 : shL[24]? = some (.inr (6, [some 4, some 25, none, none, none, none])) := rfl
theorem sh_25 : shL[25]? = some (.inl (0, 4, [])) := rfl
theorem sh_26 : shL[26]? = some (.inr (6, [some 4, some 27, none, none, none, none])) := rfl
theorem sh_27 : shL[27]? = some (.inl (0, 4, [])) := rfl
theorem sh_28 : shL[28]? = some (.inr (6, [some 4, some 29, none, none, none, none])) := rfl
theorem sh_29 : shL[29]? = some (.inl (0, 4, [])) := rfl
theorem sh_30 : shL[30]? = some (.inr (6, [some 4, some 31, none, none, none, none])) := rfl
theorem sh_31 : shL[31]? = some (.inl (0, 4, [])) := rfl
theorem sh_32 : shL[32]? = some (.inr (6, [some 4, some 33, none, none, none, none])) := rfl
theorem sh_33 : shL[33]? = some (.inl (0, 4, [])) := rfl
theorem sh_34 : shL[34]? = some (.inr (6, [some 4, some 35, none, none, none, none])) := rfl
theorem sh_35 : shL[35]? = some (.inl (0, 4, [])) := rfl
theorem sh_36 : shL[36]? = some (.inr (6, [some 4, some 37, none, none, none, none])) := rfl
theorem sh_37 : shL[37]? = some (.inl (0, 4, [])) := rfl
theorem sh_38 : shL[38]? = some (.inr (6, [some 4, some 39, none, none, none, none])) := rfl
theorem sh_39 : shL[39]? = some (.inl (0, 4, [])) := rfl
theorem sh_40 : shL[40]? = some (.inr (6, [some 4, some 41, none, none, none, none])) := rfl
theorem sh_41 : shL[41]? = some (.inl (0, 4, [])) := rfl
theorem sh_42 : shL[42]? = some (.inr (6, [some 4, some 43, none, none, none, none])) := rfl
theorem sh_43 : shL[43]? = some (.inl (0, 4, [])) := rfl
theorem sh_44 : shL[44]? = some (.inr (6, [some 4, some 45, none, none, none, none])) := rfl
theorem sh_45 : shL[45]? = some (.inl (0, 4, [])) := rfl
theorem sh_46 : shL[46]? = some (.inr (6, [some 4, some 47, none, none, none, none])) := rfl
theorem sh_47 : shL[47]? = some (.inl (0, 4, [])) := rfl
theorem sh_48 : shL[48]? = some (.inr (6, [some 4, some 49, none, none, none, none])) := rfl
theorem sh_49 : shL[49]? = some (.inl (0, 4, [])) := rfl
theorem sh_50 : shL[50]? = some (.inr (6, [some 4, some 51, none, none, none, none])) := rfl
theorem sh_51 : shL[51]? = some (.inl (0, 4, [])) := rfl
theorem sh_52 : shL[52]? = some (.inr (6, [some 4, some 53, none, none, none, none])) := rfl
theorem sh_53 : shL[53]? = some (.inl (0, 4, [])) := rfl
theorem sh_54 : shL[54]? = some (.inr (6, [some 4, some 55, none, none, none, none])) := rfl
theorem sh_55 : shL[55]? = some (.inl (0, 4, [])) := rfl
theorem sh_56 : shL[56]? = some (.inr (6, [some 4, some 57, none, none, none, none])) := rfl
theorem sh_57 : shL[57]? = some (.inl (0, 4, [])) := rfl
theorem sh_58 : shL[58]? = some (.inr (6, [some 4, some 59, none, none, none, none])) := rfl
theorem sh_59 : shL[59]? = some (.inl (0, 4, [])) := rfl
theorem sh_60 : shL[60]? = some (.inr (6, [some 4, some 61, none, none, none, none])) := rfl
theorem sh_61 : shL[61]? = some (.inl (0, 4, [])) := rfl
theorem sh_62 : shL[62]? = some (.inr (6, [some 4, some 63, none, none, none, none])) := rfl
theorem sh_63 : shL[63]? = some (.inl (0, 4, [])) := rfl
theorem sh_64 : shL[64]? = some (.inr (6, [some 4, some 65, none, none, none, none])) := rfl
theorem sh_65 : shL[65]? = some (.inl (0, 4, [])) := rfl
theorem sh_66 : shL[66]? = some (.inr (6, [some 4, some 67, none, none, none, none])) := rfl
theorem sh_67 : shL[67]? = some (.inl (0, 4, [])) := rfl
theorem sh_68 : shL[68]? = some (.inr (6, [some 4, some 69, none, none, none, none])) := rfl
theorem sh_69 : shL[69]? = some (.inl (0, 4, [])) := rfl
theorem sh_70 : shL[70]? = some (.inr (6, [some 4, some 71, none, none, none, none])) := rfl
theorem sh_71 : shL[71]? = some (.inl (0, 4, [])) := rfl
theorem sh_72 : shL[72]? = some (.inl (3, 7, [96, 98, 100, 102, 104, 106, 108])) := rfl
theorem sh_73 : shL[73]? = some (.inr (1, [some 4, some 74, some 75, some 76, some 77, none])) := rfl
theorem sh_74 : shL[74]? = some (.inl (0, 192, [])) := rfl
theorem sh_75 : shL[75]? = some (.inl (0, 192, [])) := rfl
theorem sh_76 : shL[76]? = some (.inl (0, 192, [])) := rfl
theorem sh_77 : shL[77]? = some (.inl (0, 192, [])) := rfl
theorem sh_78 : shL[78]? = some (.inl (4, 4, [110, 112, 114, 116])) := rfl
theorem sh_79 : shL[79]? = some (.inl (0, 6, [])) := rfl
theorem sh_80 : shL[80]? = some (.inr (2, [some 81, some 83, some 84, some 85, some 86, some 87, none, none])) := rfl
theorem sh_81 : shL[81]? = some (.inr (3, [some 82, none, none])) := rfl
theorem sh_82 : shL[82]? = some (.inl (0, 48, [])) := rfl
theorem sh_83 : shL[83]? = some (.inl (0, 6, [])) := rfl
theorem sh_84 : shL[84]? = some (.inl (0, 6, [])) := rfl
theorem sh_85 : shL[85]? = some (.inl (0, 6, [])) := rfl
theorem sh_86 : shL[86]? = some (.inl (0, 6, [])) := rfl
theorem sh_87 : shL[87]? = some (.inl (0, 4, [])) := rfl
theorem sh_88 : shL[88]? = some (.inr (2, [some 89, some 91, some 92, some 93, some 94, some 95, none, none])) := rfl
theorem sh_89 : shL[89]? = some (.inr (3, [some 90, none, none])) := rfl
theorem sh_90 : shL[90]? = some (.inl (0, 48, [])) := rfl
theorem sh_91 : shL[91]? = some (.inl (0, 6, [])) := rfl
theorem sh_92 : shL[92]? = some (.inl (0, 6, [])) := rfl
theorem sh_93 : shL[93]? = some (.inl (0, 6, [])) := rfl
theorem sh_94 : shL[94]? = some (.inl (0, 6, [])) := rfl
theorem sh_95 : shL[95]? = some (.inl (0, 4, [])) := rfl
theorem sh_96 : shL[96]? = some (.inr (6, [some 4, some 97, none, none, none, none])) := rfl
theorem sh_97 : shL[97]? = some (.inl (0, 4, [])) := rfl
theorem sh_98 : shL[98]? = some (.inr (6, [some 4, some 99, none, none, none, none])) := rfl
theorem sh_99 : shL[99]? = some (.inl (0, 4, [])) := rfl
theorem sh_100 : shL[100]? = some (.inr (6, [some 4, some 101, none, none, none, none])) := rfl
theorem sh_101 : shL[101]? = some (.inl (0, 4, [])) := rfl
theorem sh_102 : shL[102]? = some (.inr (6, [some 4, some 103, none, none, none, none])) := rfl
theorem sh_103 : shL[103]? = some (.inl (0, 4, [])) := rfl
theorem sh_104 : shL[104]? = some (.inr (6, [some 4, some 105, none, none, none, none])) := rfl
theorem sh_105 : shL[105]? = some (.inl (0, 4, [])) := rfl
theorem sh_106 : shL[106]? = some (.inr (6, [some 4, some 107, none, none, none, none])) := rfl
theorem sh_107 : shL[107]? = some (.inl (0, 4, [])) := rfl
theorem sh_108 : shL[108]? = some (.inr (6, [some 4, some 109, none, none, none, none])) := rfl
theorem sh_109 : shL[109]? = some (.inl (0, 4, [])) := rfl
theorem sh_110 : shL[110]? = some (.inr (4, [some 111, none, none, none])) := rfl
theorem sh_111 : shL[111]? = some (.inl (1, 24, [])) := rfl
theorem sh_112 : shL[112]? = some (.inr (4, [some 113, none, none, none])) := rfl
theorem sh_113 : shL[113]? = some (.inl (1, 24, [])) := rfl
theorem sh_114 : shL[114]? = some (.inr (4, [some 115, none, none, none])) := rfl
theorem sh_115 : shL[115]? = some (.inl (1, 24, [])) := rfl
theorem sh_116 : shL[116]? = some (.inr (4, [some 117, none, none, none])) := rfl
theorem sh_117 : shL[117]? = some (.inl (1, 24, [])) := rfl
theorem sh_118 : shL[118]? = some (.inr (8, [some 119, none, some 120, none, some 121, some 122, some 123, none, some 124, some 125, some 126, some 127, some 128, some 129])) := rfl
theorem sh_119 : shL[119]? = some (.inl (0, 952, [])) := rfl
theorem sh_120 : shL[120]? = some (.inl (0, 130, [])) := rfl
theorem sh_121 : shL[121]? = some (.inl (1, 96, [])) := rfl
theorem sh_122 : shL[122]? = some (.inl (0, 4, [])) := rfl
theorem sh_123 : shL[123]? = some (.inl (0, 4, [])) := rfl
theorem sh_124 : shL[124]? = some (.inl (0, 192, [])) := rfl
theorem sh_125 : shL[125]? = some (.inl (0, 7, [])) := rfl
theorem sh_126 : shL[126]? = some (.inl (0, 6, [])) := rfl
theorem sh_127 : shL[127]? = some (.inl (0, 729, [])) := rfl
theorem sh_128 : shL[128]? = some (.inl (1, 24, [])) := rfl
theorem sh_129 : shL[129]? = some (.inl (0, 6, [])) := rfl

def fE (g : GT) (f : Nat → Int32) (j : Nat) (x : Option Nat) : Value := match x with
  | none => .int (f j)
  | some r => .ref (ga g r)
def cE (g : GT) (I : IT) (J : JT) (k : Nat) (x : SH) : va_E := match x with
  | .inl (0, n, _) => .inl (gA g 0, n, .inl (I k))
  | .inl (1, n, _) => .inl (gA g 1, n, .inr (.inl (J k)))
  | .inl (t + 2, n, rs) => .inl (gA g (t + 2), n, .inr (.inr (.inr (.inr (fun j => (rs[j]?).map (fun r => ga g r))))))
  | .inr (ci, fs) => .inr (ci, fs.mapIdx (fE g (I k)))
/-- the system's cells, with their whole numbers I and longs J -/
def cw (g : GT) (I : IT) (J : JT) : List va_E := shL.mapIdx (cE g I J)
def cW (g : GT) (I : IT) (J : JT) : va_W := WL (ga g) (cw g I J)
theorem cw_at {g : GT} {I : IT} {J : JT} {k : Nat} {x : SH} (h : shL[k]? = some x) : (cw g I J)[k]? = some (cE g I J k x) := by
  unfold cw; rw [List.getElem?_mapIdx, h]; rfl
theorem cw_len (g : GT) (I : IT) (J : JT) : (cw g I J).length = 130 := by
  unfold cw; rw [List.length_mapIdx, shL_len]
def sI (I : IT) (o j : Nat) (v : Int32) : IT := fun a => if a = o then upd (I o) j v else I a
def sJ (J : JT) (o j : Nat) (v : Int64) : JT := fun a => if a = o then vp_updL (J o) j v else J a
def cI (I : IT) (src dst sp dp n : Nat) : IT := fun a => if a = dst then va_cpy (I src) (I dst) sp dp n else I a
def cJ (J : JT) (src dst sp dp n : Nat) : JT := fun a => if a = dst then va_cpy (J src) (J dst) sp dp n else J a
theorem cE_I {g : GT} {I I' : IT} {J : JT} {k : Nat} {x : SH} (h : I' k = I k) : cE g I' J k x = cE g I J k x := by
  unfold cE; rw [h]
theorem cE_J {g : GT} {I : IT} {J J' : JT} {k : Nat} {x : SH} (h : J' k = J k) : cE g I J' k x = cE g I J k x := by
  unfold cE; rw [h]
/-- one cell is written: only the row of that cell is another -/
theorem cw_setI {g : GT} {I I' : IT} {J : JT} {o : Nat} {x : SH} {e : va_E} (hs : shL[o]? = some x) (hI : ∀ a, a ≠ o → I' a = I a) (he : cE g I' J o x = e) : (cw g I J).set o e = cw g I' J := by
  apply List.ext_getElem?
  intro i
  rw [List.getElem?_set, cw_len]
  by_cases h : o = i
  · subst h
    rw [if_pos rfl, cw_at hs, he]
    have h2 := (List.getElem?_eq_some_iff.mp hs).1
    rw [shL_len] at h2
    rw [if_pos h2]
  · rw [if_neg h]
    unfold cw
    rw [List.getElem?_mapIdx, List.getElem?_mapIdx]
    cases shL[i]? with
    | none => rfl
    | some y => exact congrArg some (cE_I (hI i (fun q => h q.symm))).symm
theorem cw_setJ {g : GT} {I : IT} {J J' : JT} {o : Nat} {x : SH} {e : va_E} (hs : shL[o]? = some x) (hJ : ∀ a, a ≠ o → J' a = J a) (he : cE g I J' o x = e) : (cw g I J).set o e = cw g I J' := by
  apply List.ext_getElem?
  intro i
  rw [List.getElem?_set, cw_len]
  by_cases h : o = i
  · subst h
    rw [if_pos rfl, cw_at hs, he]
    have h2 := (List.getElem?_eq_some_iff.mp hs).1
    rw [shL_len] at h2
    rw [if_pos h2]
  · rw [if_neg h]
    unfold cw
    rw [List.getElem?_mapIdx, List.getElem?_mapIdx]
    cases shL[i]? with
    | none => rfl
    | some y => exact congrArg some (cE_J (hJ i (fun q => h q.symm))).symm
theorem sI_ne {I : IT} {o j : Nat} {v : Int32} {a : Nat} (h : a ≠ o) : sI I o j v a = I a := by unfold sI; rw [if_neg h]
theorem sI_eq {I : IT} {o j : Nat} {v : Int32} : sI I o j v o = upd (I o) j v := by unfold sI; rw [if_pos rfl]
theorem sI_at {I : IT} {o j : Nat} {v : Int32} (a b : Nat) : sI I o j v a b = if a = o ∧ b = j then v else I a b := by
  unfold sI upd
  by_cases h : a = o
  · subst h
    by_cases h2 : b = j <;> simp [h2]
  · simp [h]
theorem sJ_ne {J : JT} {o j : Nat} {v : Int64} {a : Nat} (h : a ≠ o) : sJ J o j v a = J a := by unfold sJ; rw [if_neg h]
theorem sJ_eq {J : JT} {o j : Nat} {v : Int64} : sJ J o j v o = vp_updL (J o) j v := by unfold sJ; rw [if_pos rfl]
theorem sJ_at {J : JT} {o j : Nat} {v : Int64} (a b : Nat) : sJ J o j v a b = if a = o ∧ b = j then v else J a b := by
  unfold sJ vp_updL
  by_cases h : a = o
  · subst h
    by_cases h2 : b = j <;> simp [h2]
  · simp [h]
theorem fE_set {g : GT} {f : Nat → Int32} {fs : List (Option Nat)} {j : Nat} {v : Int32} (hj : fs[j]? = some none) : (fs.mapIdx (fE g f)).set j (.int v) = fs.mapIdx (fE g (upd f j v)) := by
  apply List.ext_getElem?
  intro i
  rw [List.getElem?_set, List.length_mapIdx, List.getElem?_mapIdx, List.getElem?_mapIdx]
  by_cases h : j = i
  · subst h
    have h2 := (List.getElem?_eq_some_iff.mp hj).1
    rw [if_pos rfl, if_pos h2, hj]
    show some (Value.int v) = some (Value.int (upd f j v j))
    unfold upd
    rw [if_pos rfl]
  · rw [if_neg h]
    cases fs[i]? with
    | none => rfl
    | some y =>
      cases y with
      | some r => rfl
      | none =>
        show some (Value.int (f i)) = some (Value.int (upd f j v i))
        unfold upd
        rw [if_neg (fun q => h q.symm)]
-- the words of a field
def FL (own : String) (idx ci j : Nat) : Prop := ∃ (C : String) (T : u_T) (N : Nat), clsL[ci]? = some (C, T, N) ∧ (∀ w ∈ u_ws C T N, w ∈ gtbl) ∧ j < N ∧ Cond.fieldLink own idx (T j).1 (T j).2.1 (T j).2.2.1 ∈ gtbl
def FP (own : String) (idx ci j : Nat) (ty : FieldType) : Prop := ∃ (C : String) (T : u_T) (N : Nat) (ty0 : Nat → FieldType), clsL[ci]? = some (C, T, N) ∧ (∀ w ∈ u_ws C T N, w ∈ gtbl) ∧ j < N ∧ Cond.fieldLink own idx (T j).1 (T j).2.1 (T j).2.2.1 ∈ gtbl ∧ (∀ k, k < N → parseFieldDescriptor (T k).2.2.1 = some (ty0 k)) ∧ (∀ a, a < N → ∀ b, b < N → a ≠ b → (T a).2.1 ≠ (T b).2.1) ∧ (T j).2.2.2 = false ∧ parseFieldDescriptor (T j).2.2.1 = some ty
theorem a_getI {k : KT} {c0 s0 pc : Nat} {L : List (Nat × Value)} {S : List Value} {I : IT} {J : JT} {o j ci idx : Nat} {fs : List (Option Nat)} (hf : FL (kO k) idx ci j) (hs : shL[o]? = some (.inr (ci, fs))) (hj : fs[j]? = some none) (hd : decode (kC k) pc = .ok (.getfield idx, 3)) (h : AW k c0 s0 (pc + 3) L (.int (I o j) :: S) (cW k.1 I J)) : AW k c0 s0 pc L (.ref (ga k.1 o) :: S) (cW k.1 I J) := by
  obtain ⟨CC, T, N, h1, h2, h3, h4⟩ := hf
  intro p e s m args below meth c C ls H locs hl hP hD hS
  exact va_get (C := CC) (T := T) (N := N) C.1 C.2.1 C.2.2.2.2.2.2.1 h2 C.2.2.2.2.1 C.2.2.2.2.2.2.2.1 hP o (WL_at (cw_at hs)) h1 j h3 (C.2.2.2.2.2.2.1 _ h4) (fun _ h9 => h9) (v := .int (I o j)) (by rw [List.getElem?_mapIdx, hj]; rfl) hd (h p e s m args below meth c C ls H locs hl hP hD hS)
theorem a_getR {k : KT} {c0 s0 pc : Nat} {L : List (Nat × Value)} {S : List Value} {I : IT} {J : JT} {o j ci idx r : Nat} {fs : List (Option Nat)} (hf : FL (kO k) idx ci j) (hs : shL[o]? = some (.inr (ci, fs))) (hj : fs[j]? = some (some r)) (hd : decode (kC k) pc = .ok (.getfield idx, 3)) (h : AW k c0 s0 (pc + 3) L (.ref (ga k.1 r) :: S) (cW k.1 I J)) : AW k c0 s0 pc L (.ref (ga k.1 o) :: S) (cW k.1 I J) := by
  obtain ⟨CC, T, N, h1, h2, h3, h4⟩ := hf
  intro p e s m args below meth c C ls H locs hl hP hD hS
  exact va_get (C := CC) (T := T) (N := N) C.1 C.2.1 C.2.2.2.2.2.2.1 h2 C.2.2.2.2.1 C.2.2.2.2.2.2.2.1 hP o (WL_at (cw_at hs)) h1 j h3 (C.2.2.2.2.2.2.1 _ h4) (fun _ h9 => h9) (v := .ref (ga k.1 r)) (by rw [List.getElem?_mapIdx, hj]; rfl) hd (h p e s m args below meth c C ls H locs hl hP hD hS)
theorem a_putI {k : KT} {c0 s0 pc : Nat} {L : List (Nat × Value)} {S : List Value} {I : IT} {J : JT} {o j ci idx : Nat} {fs : List (Option Nat)} {ty : FieldType} {v : Int32} (hf : FP (kO k) idx ci j ty) (hs : shL[o]? = some (.inr (ci, fs))) (hj : fs[j]? = some none) (hn : narrow ty (.int v) = .int v) (hfit : fits ty (.int v) = true) (hd : decode (kC k) pc = .ok (.putfield idx, 3)) (h : AW k c0 s0 (pc + 3) L S (cW k.1 (sI I o j v) J)) : AW k c0 s0 pc L (.int v :: .ref (ga k.1 o) :: S) (cW k.1 I J) := by
  obtain ⟨CC, T, N, ty0, h1, h2, h3, h4, h5, h6, h7, h8⟩ := hf
  intro p e s m args below meth c C ls H locs hl hP hD hS
  refine va_put (C := CC) (T := T) (N := N) (D := gD k.1) (A := gF k.1) C.1 C.2.1 C.2.2.2.2.2.2.1 h2 ty0 h5 h6 C.2.2.2.2.1 C.2.2.2.2.2.2.2.1 hP hD hS o (WL_at (cw_at hs)) h1 j h3 (C.2.2.2.2.2.2.1 _ h4) (fun _ h9 => h9) h7 (v := .int v) h8 hn hfit (by rw [List.length_mapIdx]; exact (List.getElem?_eq_some_iff.mp hj).1) hd ?_
  intro H1 locs1 hP1 hD1 hS1
  rw [cW, WL_set, fE_set hj, cw_setI (I' := sI I o j v) hs (fun a ha => sI_ne ha) (by unfold cE; rw [sI_eq])] at hP1 hD1
  exact h p e s m args below meth c C ls H1 locs1 hl hP1 hD1 hS1
