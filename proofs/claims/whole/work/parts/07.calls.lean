theorem a_iald {k : KT} {c0 s0 pc : Nat} {L : List (Nat × Value)} {S : List Value} {I : IT} {J : JT} {o n : Nat} {rs : List Nat} {i : Int32} (hs : shL[o]? = some (.inl (0, n, rs))) (hin : vp_in i n) (hd : decode (kC k) pc = .ok (.iaload, 1)) (h : AW k c0 s0 (pc + 1) L (.int (I o i.toNatClampNeg) :: S) (cW k.1 I J)) : AW k c0 s0 pc L (.int i :: .ref (ga k.1 o) :: S) (cW k.1 I J) := by
  intro p e s m args below meth c C ls H locs hl hP hD hS
  exact va_iald C.1 C.2.1 C.2.2.2.2.2.2.2.1 hP o 0 (WL_at (cw_at hs)) rfl hin hd (h p e s m args below meth c C ls H locs hl hP hD hS)
theorem a_iast {k : KT} {c0 s0 pc : Nat} {L : List (Nat × Value)} {S : List Value} {I : IT} {J : JT} {o n : Nat} {rs : List Nat} {i : Int32} {x : Int32} (hs : shL[o]? = some (.inl (0, n, rs))) (hin : vp_in i n) (hd : decode (kC k) pc = .ok (.iastore, 1)) (h : AW k c0 s0 (pc + 1) L S (cW k.1 (sI I o i.toNatClampNeg x) J)) : AW k c0 s0 pc L (.int x :: .int i :: .ref (ga k.1 o) :: S) (cW k.1 I J) := by
  intro p e s m args below meth c C ls H locs hl hP hD hS
  refine va_iast C.1 C.2.1 C.2.2.2.2.2.2.2.1 hP hD hS o 0 (WL_at (cw_at hs)) rfl hin hd ?_
  intro H1 locs1 hP1 hD1 hS1
  rw [cW, WL_set, cw_setI (I' := sI I o i.toNatClampNeg x) hs (fun a ha => sI_ne ha) (by unfold cE; rw [sI_eq])] at hP1 hD1
  exact h p e s m args below meth c C ls H1 locs1 hl hP1 hD1 hS1
theorem a_lald {k : KT} {c0 s0 pc : Nat} {L : List (Nat × Value)} {S : List Value} {I : IT} {J : JT} {o n : Nat} {rs : List Nat} {i : Int32} (hs : shL[o]? = some (.inl (1, n, rs))) (hin : vp_in i n) (hd : decode (kC k) pc = .ok (.laload, 1)) (h : AW k c0 s0 (pc + 1) L (.long (J o i.toNatClampNeg) :: S) (cW k.1 I J)) : AW k c0 s0 pc L (.int i :: .ref (ga k.1 o) :: S) (cW k.1 I J) := by
  intro p e s m args below meth c C ls H locs hl hP hD hS
  exact va_lald C.1 C.2.1 C.2.2.2.2.2.2.2.1 hP o 1 (WL_at (cw_at hs)) rfl hin hd (h p e s m args below meth c C ls H locs hl hP hD hS)
theorem a_last {k : KT} {c0 s0 pc : Nat} {L : List (Nat × Value)} {S : List Value} {I : IT} {J : JT} {o n : Nat} {rs : List Nat} {i : Int32} {x : Int64} (hs : shL[o]? = some (.inl (1, n, rs))) (hin : vp_in i n) (hd : decode (kC k) pc = .ok (.lastore, 1)) (h : AW k c0 s0 (pc + 1) L S (cW k.1 I (sJ J o i.toNatClampNeg x))) : AW k c0 s0 pc L (.long x :: .int i :: .ref (ga k.1 o) :: S) (cW k.1 I J) := by
  intro p e s m args below meth c C ls H locs hl hP hD hS
  refine va_last C.1 C.2.1 C.2.2.2.2.2.2.2.1 hP hD hS o 1 (WL_at (cw_at hs)) rfl hin hd ?_
  intro H1 locs1 hP1 hD1 hS1
  rw [cW, WL_set, cw_setJ (J' := sJ J o i.toNatClampNeg x) hs (fun a ha => sJ_ne ha) (by unfold cE; rw [sJ_eq])] at hP1 hD1
  exact h p e s m args below meth c C ls H1 locs1 hl hP1 hD1 hS1
theorem a_alen {k : KT} {c0 s0 pc : Nat} {L : List (Nat × Value)} {S : List Value} {I : IT} {J : JT} {o n t : Nat} {rs : List Nat} (v : Int32) (hs : shL[o]? = some (.inl (t, n, rs))) (ht : t < 5) (hv : Int32.ofNat n = v) (hd : decode (kC k) pc = .ok (.arraylength, 1)) (h : AW k c0 s0 (pc + 1) L (.int v :: S) (cW k.1 I J)) : AW k c0 s0 pc L (.ref (ga k.1 o) :: S) (cW k.1 I J) := by
  intro p e s m args below meth c C ls H locs hl hP hD hS
  have hw := WL_at (b := ga k.1) (cw_at (g := k.1) (I := I) (J := J) hs)
  have ht' : t = 0 ∨ t = 1 ∨ t = 2 ∨ t = 3 ∨ t = 4 := by omega
  rcases ht' with e | e | e | e | e
  · subst e; exact va_alen C.1 C.2.1 C.2.2.2.2.2.2.2.1 hP o 0 hw rfl hv hd (h p e s m args below meth c C ls H locs hl hP hD hS)
  · subst e; exact va_alen C.1 C.2.1 C.2.2.2.2.2.2.2.1 hP o 1 hw rfl hv hd (h p e s m args below meth c C ls H locs hl hP hD hS)
  · subst e; exact va_alen C.1 C.2.1 C.2.2.2.2.2.2.2.1 hP o 2 hw rfl hv hd (h p e s m args below meth c C ls H locs hl hP hD hS)
  · subst e; exact va_alen C.1 C.2.1 C.2.2.2.2.2.2.2.1 hP o 3 hw rfl hv hd (h p e s m args below meth c C ls H locs hl hP hD hS)
  · subst e; exact va_alen C.1 C.2.1 C.2.2.2.2.2.2.2.1 hP o 4 hw rfl hv hd (h p e s m args below meth c C ls H locs hl hP hD hS)
theorem a_aald {k : KT} {c0 s0 pc : Nat} {L : List (Nat × Value)} {S : List Value} {I : IT} {J : JT} {o n t r : Nat} {rs : List Nat} {i : Int32} (hs : shL[o]? = some (.inl (t + 2, n, rs))) (ht : t < 3) (hin : vp_in i n) (hr : rs[i.toNatClampNeg]? = some r) (hd : decode (kC k) pc = .ok (.aaload, 1)) (h : AW k c0 s0 (pc + 1) L (.ref (ga k.1 r) :: S) (cW k.1 I J)) : AW k c0 s0 pc L (.int i :: .ref (ga k.1 o) :: S) (cW k.1 I J) := by
  intro p e s m args below meth c C ls H locs hl hP hD hS
  have hw := WL_at (b := ga k.1) (cw_at (g := k.1) (I := I) (J := J) hs)
  have hv : va_rf ((rs[i.toNatClampNeg]?).map (fun r => ga k.1 r)) = .ref (ga k.1 r) := by rw [hr]; rfl
  have h' := (h p e s m args below meth c C ls H locs hl hP hD hS)
  rw [← hv] at h'
  have ht' : t = 0 ∨ t = 1 ∨ t = 2 := by omega
  rcases ht' with e | e | e
  · subst e; exact va_aldq C.1 C.2.1 C.2.2.2.2.2.2.2.1 hP o 2 hw rfl hin hd h'
  · subst e; exact va_aldq C.1 C.2.1 C.2.2.2.2.2.2.2.1 hP o 3 hw rfl hin hd h'
  · subst e; exact va_aldq C.1 C.2.1 C.2.2.2.2.2.2.2.1 hP o 4 hw rfl hin hd h'
theorem ac_nat : Cond.native arraycopyName ∈ gtbl := List.mem_filter.mpr ⟨List.mem_append_right _ (by decide +kernel), rfl⟩
theorem ac_sta : Cond.static arraycopyName ∈ gtbl := List.mem_filter.mpr ⟨List.mem_append_right _ (by decide +kernel), rfl⟩
theorem ac_ini : Cond.initialized "java/lang/System" ∈ gtbl := List.mem_filter.mpr ⟨List.mem_append_right _ (by decide +kernel), rfl⟩
theorem cI_ne {I : IT} {a b sp dp n x : Nat} (h : x ≠ b) : cI I a b sp dp n x = I x := by unfold cI; rw [if_neg h]
theorem cI_eq {I : IT} {a b sp dp n : Nat} : cI I a b sp dp n b = va_cpy (I a) (I b) sp dp n := by unfold cI; rw [if_pos rfl]
theorem a_copyI {k : KT} {c0 s0 pc : Nat} {L : List (Nat × Value)} {S : List Value} {I : IT} {J : JT} {a b na nb idx : Nat} {ra rb : List Nat} {sp dp n : Int32} (hl0 : Cond.methodLink (kO k) idx arraycopyName ∈ gtbl) (ha : shL[a]? = some (.inl (0, na, ra))) (hb : shL[b]? = some (.inl (0, nb, rb))) (h1 : ¬ sp < 0) (h2 : ¬ dp < 0) (h3 : ¬ n < 0) (h4 : sp.toNatClampNeg + n.toNatClampNeg ≤ na) (h5 : dp.toNatClampNeg + n.toNatClampNeg ≤ nb)
    (hR : 1 ≤ k.2.1.frames ∧ (S.map fun v => v.category).sum + 40 ≤ k.2.1.locals) (hd : decode (kC k) pc = .ok (.invokestatic idx, 3)) (h : AW k c0 s0 (pc + 3) L S (cW k.1 (cI I a b sp.toNatClampNeg dp.toNatClampNeg n.toNatClampNeg) J)) : AW k c0 s0 pc L (.int n :: .int dp :: .ref (ga k.1 b) :: .int sp :: .ref (ga k.1 a) :: S) (cW k.1 I J) := by
  intro p e s m args below meth c C ls H locs hl hP hD hS
  have hnf : nativeFrameWords "java/lang/System" "arraycopy" 5 + 11 ≤ 40 := by decide +kernel
  refine va_copyi C.1 C.2.1 (C.2.2.2.1.trans hl.1.symm) C.2.2.2.2.1 (C.2.2.2.2.2.2.1 _ hl0) (C.2.2.2.2.2.2.1 _ ac_nat) (C.2.2.2.2.2.2.1 _ ac_sta) (C.2.2.2.2.2.2.1 _ ac_ini) C.2.2.2.2.2.2.2.1 hP hD hS a b 0 0 (WL_at (cw_at ha)) (WL_at (cw_at hb)) rfl rfl (ty := .int) rfl h1 h2 h3 h4 h5 (fun _ _ => rfl) hR.1 (by omega) hd ?_
  intro H1 locs1 hP1 hD1 hS1
  rw [cW, WL_set, cw_setI (I' := cI I a b sp.toNatClampNeg dp.toNatClampNeg n.toNatClampNeg) hb (fun x hx => cI_ne hx) (by unfold cE; rw [cI_eq])] at hP1 hD1
  exact h p e s m args below meth c C ls H1 locs1 hl hP1 hD1 hS1
theorem cJ_ne {J : JT} {a b sp dp n x : Nat} (h : x ≠ b) : cJ J a b sp dp n x = J x := by unfold cJ; rw [if_neg h]
theorem cJ_eq {J : JT} {a b sp dp n : Nat} : cJ J a b sp dp n b = va_cpy (J a) (J b) sp dp n := by unfold cJ; rw [if_pos rfl]
theorem a_copyJ {k : KT} {c0 s0 pc : Nat} {L : List (Nat × Value)} {S : List Value} {I : IT} {J : JT} {a b na nb idx : Nat} {ra rb : List Nat} {sp dp n : Int32} (hl0 : Cond.methodLink (kO k) idx arraycopyName ∈ gtbl) (ha : shL[a]? = some (.inl (1, na, ra))) (hb : shL[b]? = some (.inl (1, nb, rb))) (h1 : ¬ sp < 0) (h2 : ¬ dp < 0) (h3 : ¬ n < 0) (h4 : sp.toNatClampNeg + n.toNatClampNeg ≤ na) (h5 : dp.toNatClampNeg + n.toNatClampNeg ≤ nb)
    (hR : 1 ≤ k.2.1.frames ∧ (S.map fun v => v.category).sum + 40 ≤ k.2.1.locals) (hd : decode (kC k) pc = .ok (.invokestatic idx, 3)) (h : AW k c0 s0 (pc + 3) L S (cW k.1 I (cJ J a b sp.toNatClampNeg dp.toNatClampNeg n.toNatClampNeg))) : AW k c0 s0 pc L (.int n :: .int dp :: .ref (ga k.1 b) :: .int sp :: .ref (ga k.1 a) :: S) (cW k.1 I J) := by
  intro p e s m args below meth c C ls H locs hl hP hD hS
  have hnf : nativeFrameWords "java/lang/System" "arraycopy" 5 + 11 ≤ 40 := by decide +kernel
  refine va_copyl C.1 C.2.1 (C.2.2.2.1.trans hl.1.symm) C.2.2.2.2.1 (C.2.2.2.2.2.2.1 _ hl0) (C.2.2.2.2.2.2.1 _ ac_nat) (C.2.2.2.2.2.2.1 _ ac_sta) (C.2.2.2.2.2.2.1 _ ac_ini) C.2.2.2.2.2.2.2.1 hP hD hS a b 1 1 (WL_at (cw_at ha)) (WL_at (cw_at hb)) rfl rfl (ty := .long) rfl h1 h2 h3 h4 h5 (fun _ _ => rfl) hR.1 (by omega) hd ?_
  intro H1 locs1 hP1 hD1 hS1
  rw [cW, WL_set, cw_setJ (J' := cJ J a b sp.toNatClampNeg dp.toNatClampNeg n.toNatClampNeg) hb (fun x hx => cJ_ne hx) (by unfold cE; rw [cJ_eq])] at hP1 hD1
  exact h p e s m args below meth c C ls H1 locs1 hl hP1 hD1 hS1
theorem a_OVER {k : KT} {c0 s0 pc : Nat} {L : List (Nat × Value)} {S : List Value} {I : IT} {J : JT} {idx : Nat} (hw : Cond.fieldLink (kO k) idx "FigureHeads" "OVER" "[I" ∈ gtbl) (hd : decode (kC k) pc = .ok (.getstatic idx, 3)) (h : AW k c0 s0 (pc + 3) L (.ref (gR k.1 0) :: S) (cW k.1 I J)) : AW k c0 s0 pc L S (cW k.1 I J) := by
  intro p e s m args below meth c C ls H locs hl hP hD hS
  exact va_gets (A := gF k.1) C.1 C.2.1 C.2.2.2.2.2.2.2.2.1.1.1 hS C.2.2.2.2.1 (C.2.2.2.2.2.2.1 _ hw) (fun _ h9 => h9) hd (h p e s m args below meth c C ls H locs hl hP hD hS)
theorem a_ROW {k : KT} {c0 s0 pc : Nat} {L : List (Nat × Value)} {S : List Value} {I : IT} {J : JT} {idx : Nat} (hw : Cond.fieldLinkNest (kO k) idx "FigureHeads" "ROW_STEP" "[I" "FigureHeads" ∈ nestW) (hd : decode (kC k) pc = .ok (.getstatic idx, 3)) (h : AW k c0 s0 (pc + 3) L (.ref (gR k.1 1) :: S) (cW k.1 I J)) : AW k c0 s0 pc L S (cW k.1 I J) := by
  intro p e s m args below meth c C ls H locs hl hP hD hS
  exact va_getsN (A := gF k.1) C.1 C.2.1 C.2.2.2.2.2.2.2.2.1.2.1.1 hS C.2.2.2.2.1 (va_Nw.use rfl (C.2.2.2.2.2.2.2.2.1.2.2.2.2.2.2.1 _ hw)) (fun _ h9 => h9) hd (h p e s m args below meth c C ls H locs hl hP hD hS)
theorem a_COL {k : KT} {c0 s0 pc : Nat} {L : List (Nat × Value)} {S : List Value} {I : IT} {J : JT} {idx : Nat} (hw : Cond.fieldLinkNest (kO k) idx "FigureHeads" "COLUMN_STEP" "[I" "FigureHeads" ∈ nestW) (hd : decode (kC k) pc = .ok (.getstatic idx, 3)) (h : AW k c0 s0 (pc + 3) L (.ref (gR k.1 2) :: S) (cW k.1 I J)) : AW k c0 s0 pc L S (cW k.1 I J) := by
  intro p e s m args below meth c C ls H locs hl hP hD hS
  exact va_getsN (A := gF k.1) C.1 C.2.1 C.2.2.2.2.2.2.2.2.1.2.2.1.1 hS C.2.2.2.2.1 (va_Nw.use rfl (C.2.2.2.2.2.2.2.2.1.2.2.2.2.2.2.1 _ hw)) (fun _ h9 => h9) hd (h p e s m args below meth c C ls H locs hl hP hD hS)
theorem a_OVERld {k : KT} {c0 s0 pc : Nat} {L : List (Nat × Value)} {S : List Value} {I : IT} {J : JT} {i : Int32} (hin : vp_in i 6) (hd : decode (kC k) pc = .ok (.iaload, 1)) (h : AW k c0 s0 (pc + 1) L (.int (ovr i.toNatClampNeg) :: S) (cW k.1 I J)) : AW k c0 s0 pc L (.int i :: .ref (gR k.1 0) :: S) (cW k.1 I J) := by
  intro p e s m args below meth c C ls H locs hl hP hD hS
  exact va_ti (A := gF k.1) C.1 C.2.1 C.2.2.2.2.2.2.2.2.1.1.2 hS hin rfl hd (h p e s m args below meth c C ls H locs hl hP hD hS)
theorem a_ROWld {k : KT} {c0 s0 pc : Nat} {L : List (Nat × Value)} {S : List Value} {I : IT} {J : JT} {i : Int32} (hin : vp_in i 4) (hd : decode (kC k) pc = .ok (.iaload, 1)) (h : AW k c0 s0 (pc + 1) L (.int (rst i.toNatClampNeg) :: S) (cW k.1 I J)) : AW k c0 s0 pc L (.int i :: .ref (gR k.1 1) :: S) (cW k.1 I J) := by
  intro p e s m args below meth c C ls H locs hl hP hD hS
  exact va_ti (A := gF k.1) C.1 C.2.1 C.2.2.2.2.2.2.2.2.1.2.1.2 hS hin rfl hd (h p e s m args below meth c C ls H locs hl hP hD hS)
theorem a_COLld {k : KT} {c0 s0 pc : Nat} {L : List (Nat × Value)} {S : List Value} {I : IT} {J : JT} {i : Int32} (hin : vp_in i 4) (hd : decode (kC k) pc = .ok (.iaload, 1)) (h : AW k c0 s0 (pc + 1) L (.int (cst i.toNatClampNeg) :: S) (cW k.1 I J)) : AW k c0 s0 pc L (.int i :: .ref (gR k.1 2) :: S) (cW k.1 I J) := by
  intro p e s m args below meth c C ls H locs hl hP hD hS
  exact va_ti (A := gF k.1) C.1 C.2.1 C.2.2.2.2.2.2.2.2.1.2.2.1.2 hS hin rfl hd (h p e s m args below meth c C ls H locs hl hP hD hS)
def bI (b : Bool) : Int32 := if b then 1 else 0
def qI (g : GT) (P : Int32 → IT → JT → Prop) : Option Value → va_W → Prop := fun v ws => ∃ (r : Int32) (I : IT) (J : JT), v = some (.int r) ∧ ws = cW g I J ∧ P r I J
def SemI (g : GT) (d : Nat) (M : MT) (args : List Value) (I : IT) (J : JT) (P : Int32 → IT → JT → Prop) : Prop := Sem g d M 0 0 args (cW g I J) (qI g P)
def qZ (g : GT) (P : Bool → IT → JT → Prop) : Option Value → va_W → Prop := fun v ws => ∃ (r : Bool) (I : IT) (J : JT), v = some (.int (bI r)) ∧ ws = cW g I J ∧ P r I J
def SemZ (g : GT) (d : Nat) (M : MT) (args : List Value) (I : IT) (J : JT) (P : Bool → IT → JT → Prop) : Prop := Sem g d M 0 0 args (cW g I J) (qZ g P)
def qL (g : GT) (P : Int64 → IT → JT → Prop) : Option Value → va_W → Prop := fun v ws => ∃ (r : Int64) (I : IT) (J : JT), v = some (.long r) ∧ ws = cW g I J ∧ P r I J
def SemL (g : GT) (d : Nat) (M : MT) (args : List Value) (I : IT) (J : JT) (P : Int64 → IT → JT → Prop) : Prop := Sem g d M 0 0 args (cW g I J) (qL g P)
def qR (g : GT) (P : Nat → IT → JT → Prop) : Option Value → va_W → Prop := fun v ws => ∃ (r : Nat) (I : IT) (J : JT), v = some (.ref (ga g r)) ∧ ws = cW g I J ∧ P r I J
def SemR (g : GT) (d : Nat) (M : MT) (args : List Value) (I : IT) (J : JT) (P : Nat → IT → JT → Prop) : Prop := Sem g d M 0 0 args (cW g I J) (qR g P)
def qV (g : GT) (P : IT → JT → Prop) : Option Value → va_W → Prop := fun v ws => ∃ (I : IT) (J : JT), v = none ∧ ws = cW g I J ∧ P I J
def SemV (g : GT) (d : Nat) (M : MT) (args : List Value) (I : IT) (J : JT) (P : IT → JT → Prop) : Prop := Sem g d M 0 0 args (cW g I J) (qV g P)
theorem a_iret {g : GT} {d pc : Nat} {M : MT} {L : List (Nat × Value)} {I : IT} {J : JT} {x : Int32} {P : Int32 → IT → JT → Prop} (hr : M.2.2.2.1 = some .int) (hd : decode M.2.1 pc = .ok (.ireturn, 1)) (h : P x I J) : AW (kM g d M 0 0 (qI g P)) 0 0 pc L [.int x] (cW g I J) := by
  intro p e s m args below meth c C ls H locs hl hP hD hS
  exact W.iret C.1 C.2.1 (C.2.2.1.trans hr) (fun t ht hW => ⟨_, _, rfl, ⟨x, I, J, rfl, rfl, h⟩, by rw [ht]; exact hP, hD, hS.F ht⟩) hS.2.2 hd C.2.2.2.2.2.1
theorem a_zret {g : GT} {d pc : Nat} {M : MT} {L : List (Nat × Value)} {I : IT} {J : JT} (x : Int32) (b : Bool) (hb : x = bI b) {P : Bool → IT → JT → Prop} (hr : M.2.2.2.1 = some .boolean) (hd : decode M.2.1 pc = .ok (.ireturn, 1)) (h : P b I J) : AW (kM g d M 0 0 (qZ g P)) 0 0 pc L [.int x] (cW g I J) := by
  subst hb
  intro p e s m args below meth c C ls H locs hl hP hD hS
  exact W.zret C.1 C.2.1 (C.2.2.1.trans hr) (by cases b <;> rfl) (fun t ht hW => ⟨_, _, rfl, ⟨b, I, J, rfl, rfl, h⟩, by rw [ht]; exact hP, hD, hS.F ht⟩) hS.2.2 hd C.2.2.2.2.2.1
theorem a_lret {g : GT} {d pc : Nat} {M : MT} {L : List (Nat × Value)} {I : IT} {J : JT} {x : Int64} {P : Int64 → IT → JT → Prop} (hr : M.2.2.2.1 = some .long) (hd : decode M.2.1 pc = .ok (.lreturn, 1)) (h : P x I J) : AW (kM g d M 0 0 (qL g P)) 0 0 pc L [.long x] (cW g I J) := by
  intro p e s m args below meth c C ls H locs hl hP hD hS
  exact W.lret C.1 C.2.1 (C.2.2.1.trans hr) (fun t ht hW => ⟨_, _, rfl, ⟨x, I, J, rfl, rfl, h⟩, by rw [ht]; exact hP, hD, hS.F ht⟩) hS.2.2 hd C.2.2.2.2.2.1
theorem a_aret {g : GT} {d pc : Nat} {M : MT} {L : List (Nat × Value)} {I : IT} {J : JT} {x : Nat} {cn : String} {P : Nat → IT → JT → Prop} (hr : M.2.2.2.1 = some (.object cn)) (hd : decode M.2.1 pc = .ok (.areturn, 1)) (h : P x I J) : AW (kM g d M 0 0 (qR g P)) 0 0 pc L [.ref (ga g x)] (cW g I J) := by
  intro p e s m args below meth c C ls H locs hl hP hD hS
  exact W.aret C.1 C.2.1 (C.2.2.1.trans hr) (Or.inl ⟨cn, rfl⟩) (Or.inr ⟨_, rfl⟩) (fun t ht hW => ⟨_, _, rfl, ⟨x, I, J, rfl, rfl, h⟩, by rw [ht]; exact hP, hD, hS.F ht⟩) hS.2.2 hd C.2.2.2.2.2.1
theorem a_vret {g : GT} {d pc : Nat} {M : MT} {L : List (Nat × Value)} {I : IT} {J : JT} {P : IT → JT → Prop} (hr : M.2.2.2.1 = none) (hd : decode M.2.1 pc = .ok (.return_, 1)) (h : P I J) : AW (kM g d M 0 0 (qV g P)) 0 0 pc L [] (cW g I J) := by
  intro p e s m args below meth c C ls H locs hl hP hD hS
  exact W.vret C.1 C.2.1 (C.2.2.1.trans hr) (fun t ht hW => ⟨_, _, rfl, ⟨I, J, rfl, rfl, h⟩, by rw [ht]; exact hP, hD, hS.F ht⟩) hS.2.2 hd C.2.2.2.2.2.1
theorem rok {d d' mL mc ms : Nat} (h : d' + 1 ≤ d) (hm : mL ≤ 41) : rOK (rmD d mc ms) d' mL := ⟨h, by show _ ≤ 60 * d; omega⟩
theorem rok1 {d mc ms : Nat} (h : 1 ≤ d) : 1 ≤ (rmD d mc ms).frames ∧ (([] : List Value).map fun v => v.category).sum + 40 ≤ (rmD d mc ms).locals := ⟨h, by show 0 + 40 ≤ 60 * d; omega⟩
theorem c_VI {k : KT} {c0 s0 pc idx n d : Nat} {M : MT} {L : List (Nat × Value)} {S As rest : List Value} {I : IT} {J : JT} {P : Int32 → IT → JT → Prop} {ci o : Nat} {fs : List (Option Nat)} {T : u_T} {N : Nat} (hM : SemI k.1 d M (.ref (ga k.1 o) :: As) I J P) (hF : CFV (kO k) idx M n) (hs : shL[o]? = some (.inr (ci, fs))) (hc : clsL[ci]? = some (M.1.cls, T, N)) (hn : As.length = n) (hS : S = As.reverse ++ .ref (ga k.1 o) :: rest) (hw : (rest.map fun v => v.category).sum ≤ 8) (hR : rOK k.2.1 d M.2.2.1) (hf : c0 ≤ k.2.1.cells ∧ s0 ≤ k.2.1.slots) (hd : decode (kC k) pc = .ok (.invokevirtual idx, 3)) (h : ∀ (r : Int32) (I : IT) (J : JT), P r I J → AW k c0 s0 (pc + 3) L (.int r :: rest) (cW k.1 I J)) : AW k c0 s0 pc L S (cW k.1 I J) := by
  refine AW.callV (mc := 0) (ms := 0) (o := ga k.1 o) hM hF o (WL_at (cw_at hs)) hc hn hS hw hR hf hd (fun v es' hp => ?_)
  obtain ⟨r, I1, J1, e1, e2, hp⟩ := hp
  rw [e1, e2]
  exact h r I1 J1 hp
theorem c_SI {k : KT} {c0 s0 pc idx n d : Nat} {M : MT} {L : List (Nat × Value)} {S As rest : List Value} {I : IT} {J : JT} {P : Int32 → IT → JT → Prop} (hM : SemI k.1 d M As I J P) (hF : CFS (kO k) idx M n) (hn : As.length = n) (hS : S = As.reverse ++ rest) (hw : (rest.map fun v => v.category).sum ≤ 8) (hR : rOK k.2.1 d M.2.2.1) (hf : c0 ≤ k.2.1.cells ∧ s0 ≤ k.2.1.slots) (hd : decode (kC k) pc = .ok (.invokestatic idx, 3)) (h : ∀ (r : Int32) (I : IT) (J : JT), P r I J → AW k c0 s0 (pc + 3) L (.int r :: rest) (cW k.1 I J)) : AW k c0 s0 pc L S (cW k.1 I J) := by
  refine AW.callS (mc := 0) (ms := 0) hM hF hn hS hw hR hf hd (fun v es' hp => ?_)
  obtain ⟨r, I1, J1, e1, e2, hp⟩ := hp
  rw [e1, e2]
  exact h r I1 J1 hp
theorem c_NI {k : KT} {c0 s0 pc idx n d : Nat} {M : MT} {L : List (Nat × Value)} {S As rest : List Value} {I : IT} {J : JT} {P : Int32 → IT → JT → Prop} (hM : SemI k.1 d M As I J P) (hF : CFSN (kO k) idx M n) (hn : As.length = n) (hS : S = As.reverse ++ rest) (hw : (rest.map fun v => v.category).sum ≤ 8) (hR : rOK k.2.1 d M.2.2.1) (hf : c0 ≤ k.2.1.cells ∧ s0 ≤ k.2.1.slots) (hd : decode (kC k) pc = .ok (.invokestatic idx, 3)) (h : ∀ (r : Int32) (I : IT) (J : JT), P r I J → AW k c0 s0 (pc + 3) L (.int r :: rest) (cW k.1 I J)) : AW k c0 s0 pc L S (cW k.1 I J) := by
  refine AW.callSN (mc := 0) (ms := 0) hM hF hn hS hw hR hf hd (fun v es' hp => ?_)
  obtain ⟨r, I1, J1, e1, e2, hp⟩ := hp
  rw [e1, e2]
  exact h r I1 J1 hp
theorem c_VZ {k : KT} {c0 s0 pc idx n d : Nat} {M : MT} {L : List (Nat × Value)} {S As rest : List Value} {I : IT} {J : JT} {P : Bool → IT → JT → Prop} {ci o : Nat} {fs : List (Option Nat)} {T : u_T} {N : Nat} (hM : SemZ k.1 d M (.ref (ga k.1 o) :: As) I J P) (hF : CFV (kO k) idx M n) (hs : shL[o]? = some (.inr (ci, fs))) (hc : clsL[ci]? = some (M.1.cls, T, N)) (hn : As.length = n) (hS : S = As.reverse ++ .ref (ga k.1 o) :: rest) (hw : (rest.map fun v => v.category).sum ≤ 8) (hR : rOK k.2.1 d M.2.2.1) (hf : c0 ≤ k.2.1.cells ∧ s0 ≤ k.2.1.slots) (hd : decode (kC k) pc = .ok (.invokevirtual idx, 3)) (h : ∀ (r : Bool) (I : IT) (J : JT), P r I J → AW k c0 s0 (pc + 3) L (.int (bI r) :: rest) (cW k.1 I J)) : AW k c0 s0 pc L S (cW k.1 I J) := by
  refine AW.callV (mc := 0) (ms := 0) (o := ga k.1 o) hM hF o (WL_at (cw_at hs)) hc hn hS hw hR hf hd (fun v es' hp => ?_)
  obtain ⟨r, I1, J1, e1, e2, hp⟩ := hp
  rw [e1, e2]
  exact h r I1 J1 hp
theorem c_SZ {k : KT} {c0 s0 pc idx n d : Nat} {M : MT} {L : List (Nat × Value)} {S As rest : List Value} {I : IT} {J : JT} {P : Bool → IT → JT → Prop} (hM : SemZ k.1 d M As I J P) (hF : CFS (kO k) idx M n) (hn : As.length = n) (hS : S = As.reverse ++ rest) (hw : (rest.map fun v => v.category).sum ≤ 8) (hR : rOK k.2.1 d M.2.2.1) (hf : c0 ≤ k.2.1.cells ∧ s0 ≤ k.2.1.slots) (hd : decode (kC k) pc = .ok (.invokestatic idx, 3)) (h : ∀ (r : Bool) (I : IT) (J : JT), P r I J → AW k c0 s0 (pc + 3) L (.int (bI r) :: rest) (cW k.1 I J)) : AW k c0 s0 pc L S (cW k.1 I J) := by
  refine AW.callS (mc := 0) (ms := 0) hM hF hn hS hw hR hf hd (fun v es' hp => ?_)
  obtain ⟨r, I1, J1, e1, e2, hp⟩ := hp
  rw [e1, e2]
  exact h r I1 J1 hp
theorem c_NZ {k : KT} {c0 s0 pc idx n d : Nat} {M : MT} {L : List (Nat × Value)} {S As rest : List Value} {I : IT} {J : JT} {P : Bool → IT → JT → Prop} (hM : SemZ k.1 d M As I J P) (hF : CFSN (kO k) idx M n) (hn : As.length = n) (hS : S = As.reverse ++ rest) (hw : (rest.map fun v => v.category).sum ≤ 8) (hR : rOK k.2.1 d M.2.2.1) (hf : c0 ≤ k.2.1.cells ∧ s0 ≤ k.2.1.slots) (hd : decode (kC k) pc = .ok (.invokestatic idx, 3)) (h : ∀ (r : Bool) (I : IT) (J : JT), P r I J → AW k c0 s0 (pc + 3) L (.int (bI r) :: rest) (cW k.1 I J)) : AW k c0 s0 pc L S (cW k.1 I J) := by
  refine AW.callSN (mc := 0) (ms := 0) hM hF hn hS hw hR hf hd (fun v es' hp => ?_)
  obtain ⟨r, I1, J1, e1, e2, hp⟩ := hp
  rw [e1, e2]
  exact h r I1 J1 hp
theorem c_VL {k : KT} {c0 s0 pc idx n d : Nat} {M : MT} {L : List (Nat × Value)} {S As rest : List Value} {I : IT} {J : JT} {P : Int64 → IT → JT → Prop} {ci o : Nat} {fs : List (Option Nat)} {T : u_T} {N : Nat} (hM : SemL k.1 d M (.ref (ga k.1 o) :: As) I J P) (hF : CFV (kO k) idx M n) (hs : shL[o]? = some (.inr (ci, fs))) (hc : clsL[ci]? = some (M.1.cls, T, N)) (hn : As.length = n) (hS : S = As.reverse ++ .ref (ga k.1 o) :: rest) (hw : (rest.map fun v => v.category).sum ≤ 8) (hR : rOK k.2.1 d M.2.2.1) (hf : c0 ≤ k.2.1.cells ∧ s0 ≤ k.2.1.slots) (hd : decode (kC k) pc = .ok (.invokevirtual idx, 3)) (h : ∀ (r : Int64) (I : IT) (J : JT), P r I J → AW k c0 s0 (pc + 3) L (.long r :: rest) (cW k.1 I J)) : AW k c0 s0 pc L S (cW k.1 I J) := by
  refine AW.callV (mc := 0) (ms := 0) (o := ga k.1 o) hM hF o (WL_at (cw_at hs)) hc hn hS hw hR hf hd (fun v es' hp => ?_)
  obtain ⟨r, I1, J1, e1, e2, hp⟩ := hp
  rw [e1, e2]
  exact h r I1 J1 hp
theorem c_SL {k : KT} {c0 s0 pc idx n d : Nat} {M : MT} {L : List (Nat × Value)} {S As rest : List Value} {I : IT} {J : JT} {P : Int64 → IT → JT → Prop} (hM : SemL k.1 d M As I J P) (hF : CFS (kO k) idx M n) (hn : As.length = n) (hS : S = As.reverse ++ rest) (hw : (rest.map fun v => v.category).sum ≤ 8) (hR : rOK k.2.1 d M.2.2.1) (hf : c0 ≤ k.2.1.cells ∧ s0 ≤ k.2.1.slots) (hd : decode (kC k) pc = .ok (.invokestatic idx, 3)) (h : ∀ (r : Int64) (I : IT) (J : JT), P r I J → AW k c0 s0 (pc + 3) L (.long r :: rest) (cW k.1 I J)) : AW k c0 s0 pc L S (cW k.1 I J) := by
  refine AW.callS (mc := 0) (ms := 0) hM hF hn hS hw hR hf hd (fun v es' hp => ?_)
  obtain ⟨r, I1, J1, e1, e2, hp⟩ := hp
  rw [e1, e2]
  exact h r I1 J1 hp
theorem c_NL {k : KT} {c0 s0 pc idx n d : Nat} {M : MT} {L : List (Nat × Value)} {S As rest : List Value} {I : IT} {J : JT} {P : Int64 → IT → JT → Prop} (hM : SemL k.1 d M As I J P) (hF : CFSN (kO k) idx M n) (hn : As.length = n) (hS : S = As.reverse ++ rest) (hw : (rest.map fun v => v.category).sum ≤ 8) (hR : rOK k.2.1 d M.2.2.1) (hf : c0 ≤ k.2.1.cells ∧ s0 ≤ k.2.1.slots) (hd : decode (kC k) pc = .ok (.invokestatic idx, 3)) (h : ∀ (r : Int64) (I : IT) (J : JT), P r I J → AW k c0 s0 (pc + 3) L (.long r :: rest) (cW k.1 I J)) : AW k c0 s0 pc L S (cW k.1 I J) := by
  refine AW.callSN (mc := 0) (ms := 0) hM hF hn hS hw hR hf hd (fun v es' hp => ?_)
  obtain ⟨r, I1, J1, e1, e2, hp⟩ := hp
  rw [e1, e2]
  exact h r I1 J1 hp
theorem c_VR {k : KT} {c0 s0 pc idx n d : Nat} {M : MT} {L : List (Nat × Value)} {S As rest : List Value} {I : IT} {J : JT} {P : Nat → IT → JT → Prop} {ci o : Nat} {fs : List (Option Nat)} {T : u_T} {N : Nat} (hM : SemR k.1 d M (.ref (ga k.1 o) :: As) I J P) (hF : CFV (kO k) idx M n) (hs : shL[o]? = some (.inr (ci, fs))) (hc : clsL[ci]? = some (M.1.cls, T, N)) (hn : As.length = n) (hS : S = As.reverse ++ .ref (ga k.1 o) :: rest) (hw : (rest.map fun v => v.category).sum ≤ 8) (hR : rOK k.2.1 d M.2.2.1) (hf : c0 ≤ k.2.1.cells ∧ s0 ≤ k.2.1.slots) (hd : decode (kC k) pc = .ok (.invokevirtual idx, 3)) (h : ∀ (r : Nat) (I : IT) (J : JT), P r I J → AW k c0 s0 (pc + 3) L (.ref (ga k.1 r) :: rest) (cW k.1 I J)) : AW k c0 s0 pc L S (cW k.1 I J) := by
  refine AW.callV (mc := 0) (ms := 0) (o := ga k.1 o) hM hF o (WL_at (cw_at hs)) hc hn hS hw hR hf hd (fun v es' hp => ?_)
  obtain ⟨r, I1, J1, e1, e2, hp⟩ := hp
  rw [e1, e2]
  exact h r I1 J1 hp
theorem c_SR {k : KT} {c0 s0 pc idx n d : Nat} {M : MT} {L : List (Nat × Value)} {S As rest : List Value} {I : IT} {J : JT} {P : Nat → IT → JT → Prop} (hM : SemR k.1 d M As I J P) (hF : CFS (kO k) idx M n) (hn : As.length = n) (hS : S = As.reverse ++ rest) (hw : (rest.map fun v => v.category).sum ≤ 8) (hR : rOK k.2.1 d M.2.2.1) (hf : c0 ≤ k.2.1.cells ∧ s0 ≤ k.2.1.slots) (hd : decode (kC k) pc = .ok (.invokestatic idx, 3)) (h : ∀ (r : Nat) (I : IT) (J : JT), P r I J → AW k c0 s0 (pc + 3) L (.ref (ga k.1 r) :: rest) (cW k.1 I J)) : AW k c0 s0 pc L S (cW k.1 I J) := by
  refine AW.callS (mc := 0) (ms := 0) hM hF hn hS hw hR hf hd (fun v es' hp => ?_)
  obtain ⟨r, I1, J1, e1, e2, hp⟩ := hp
  rw [e1, e2]
  exact h r I1 J1 hp
theorem c_NR {k : KT} {c0 s0 pc idx n d : Nat} {M : MT} {L : List (Nat × Value)} {S As rest : List Value} {I : IT} {J : JT} {P : Nat → IT → JT → Prop} (hM : SemR k.1 d M As I J P) (hF : CFSN (kO k) idx M n) (hn : As.length = n) (hS : S = As.reverse ++ rest) (hw : (rest.map fun v => v.category).sum ≤ 8) (hR : rOK k.2.1 d M.2.2.1) (hf : c0 ≤ k.2.1.cells ∧ s0 ≤ k.2.1.slots) (hd : decode (kC k) pc = .ok (.invokestatic idx, 3)) (h : ∀ (r : Nat) (I : IT) (J : JT), P r I J → AW k c0 s0 (pc + 3) L (.ref (ga k.1 r) :: rest) (cW k.1 I J)) : AW k c0 s0 pc L S (cW k.1 I J) := by
  refine AW.callSN (mc := 0) (ms := 0) hM hF hn hS hw hR hf hd (fun v es' hp => ?_)
  obtain ⟨r, I1, J1, e1, e2, hp⟩ := hp
  rw [e1, e2]
  exact h r I1 J1 hp
theorem c_VV {k : KT} {c0 s0 pc idx n d : Nat} {M : MT} {L : List (Nat × Value)} {S As rest : List Value} {I : IT} {J : JT} {P : IT → JT → Prop} {ci o : Nat} {fs : List (Option Nat)} {T : u_T} {N : Nat} (hM : SemV k.1 d M (.ref (ga k.1 o) :: As) I J P) (hF : CFV (kO k) idx M n) (hs : shL[o]? = some (.inr (ci, fs))) (hc : clsL[ci]? = some (M.1.cls, T, N)) (hn : As.length = n) (hS : S = As.reverse ++ .ref (ga k.1 o) :: rest) (hw : (rest.map fun v => v.category).sum ≤ 8) (hR : rOK k.2.1 d M.2.2.1) (hf : c0 ≤ k.2.1.cells ∧ s0 ≤ k.2.1.slots) (hd : decode (kC k) pc = .ok (.invokevirtual idx, 3)) (h : ∀ (I : IT) (J : JT), P I J → AW k c0 s0 (pc + 3) L rest (cW k.1 I J)) : AW k c0 s0 pc L S (cW k.1 I J) := by
  refine AW.callV (mc := 0) (ms := 0) (o := ga k.1 o) hM hF o (WL_at (cw_at hs)) hc hn hS hw hR hf hd (fun v es' hp => ?_)
  obtain ⟨I1, J1, e1, e2, hp⟩ := hp
  rw [e1, e2]
  exact h I1 J1 hp
theorem c_SV {k : KT} {c0 s0 pc idx n d : Nat} {M : MT} {L : List (Nat × Value)} {S As rest : List Value} {I : IT} {J : JT} {P : IT → JT → Prop} (hM : SemV k.1 d M As I J P) (hF : CFS (kO k) idx M n) (hn : As.length = n) (hS : S = As.reverse ++ rest) (hw : (rest.map fun v => v.category).sum ≤ 8) (hR : rOK k.2.1 d M.2.2.1) (hf : c0 ≤ k.2.1.cells ∧ s0 ≤ k.2.1.slots) (hd : decode (kC k) pc = .ok (.invokestatic idx, 3)) (h : ∀ (I : IT) (J : JT), P I J → AW k c0 s0 (pc + 3) L rest (cW k.1 I J)) : AW k c0 s0 pc L S (cW k.1 I J) := by
  refine AW.callS (mc := 0) (ms := 0) hM hF hn hS hw hR hf hd (fun v es' hp => ?_)
  obtain ⟨I1, J1, e1, e2, hp⟩ := hp
  rw [e1, e2]
  exact h I1 J1 hp
theorem c_NV {k : KT} {c0 s0 pc idx n d : Nat} {M : MT} {L : List (Nat × Value)} {S As rest : List Value} {I : IT} {J : JT} {P : IT → JT → Prop} (hM : SemV k.1 d M As I J P) (hF : CFSN (kO k) idx M n) (hn : As.length = n) (hS : S = As.reverse ++ rest) (hw : (rest.map fun v => v.category).sum ≤ 8) (hR : rOK k.2.1 d M.2.2.1) (hf : c0 ≤ k.2.1.cells ∧ s0 ≤ k.2.1.slots) (hd : decode (kC k) pc = .ok (.invokestatic idx, 3)) (h : ∀ (I : IT) (J : JT), P I J → AW k c0 s0 (pc + 3) L rest (cW k.1 I J)) : AW k c0 s0 pc L S (cW k.1 I J) := by
  refine AW.callSN (mc := 0) (ms := 0) hM hF hn hS hw hR hf hd (fun v es' hp => ?_)
  obtain ⟨I1, J1, e1, e2, hp⟩ := hp
  rw [e1, e2]
  exact h I1 J1 hp
theorem bI_0 (b : Bool) : bI b = 0 ↔ b = false := by cases b <;> decide
theorem a_ifz_eq {k : KT} {c0 s0 pc : Nat} {L : List (Nat × Value)} {S : List Value} {es : va_W} {b : Bool} {off : Int} (tgt : Nat) (hd : decode (kC k) pc = .ok (.ifCond .eq off, 3)) (ht : (pc : Int) + off = (tgt : Int)) (h1 : b = false → AW k c0 s0 tgt L S es) (h2 : b = true → AW k c0 s0 (pc + 3) L S es) : AW k c0 s0 pc L (.int (bI b) :: S) es :=
  a_if_eq tgt hd ht (fun q => h1 ((bI_0 b).mp q)) (fun q => h2 (by cases b <;> simp_all [bI]))
theorem a_ifz_ne {k : KT} {c0 s0 pc : Nat} {L : List (Nat × Value)} {S : List Value} {es : va_W} {b : Bool} {off : Int} (tgt : Nat) (hd : decode (kC k) pc = .ok (.ifCond .ne off, 3)) (ht : (pc : Int) + off = (tgt : Int)) (h1 : b = true → AW k c0 s0 tgt L S es) (h2 : b = false → AW k c0 s0 (pc + 3) L S es) : AW k c0 s0 pc L (.int (bI b) :: S) es :=
  a_if_ne tgt hd ht (fun q => h1 (by cases b <;> simp_all [bI])) (fun q => h2 ((bI_0 b).mp q))
theorem lgc_lt (x y : Int64) : lg_cmp x y < 0 ↔ x < y := by
  unfold lg_cmp
  by_cases h1 : x > y
  · rw [if_pos h1]; simp only [gt_iff_lt, Int64.lt_iff_toInt_lt] at h1 ⊢
    constructor
    · intro h; exact absurd h (by decide)
    · intro h; omega
  · rw [if_neg h1]
    by_cases h2 : x = y
    · subst h2; rw [if_pos rfl]; simp only [gt_iff_lt, Int64.lt_iff_toInt_lt]
      constructor
      · intro h; exact absurd h (by decide)
      · intro h; omega
    · rw [if_neg h2]
      constructor
      · intro _
        rw [gt_iff_lt] at h1
        rw [← Int64.toInt_inj] at h2
        rw [Int64.lt_iff_toInt_lt] at h1 ⊢
        omega
      · intro _; decide
theorem lgc_eq (x y : Int64) : lg_cmp x y = 0 ↔ x = y := by
  unfold lg_cmp
  by_cases h1 : x > y
  · rw [if_pos h1]
    constructor
    · intro h; exact absurd h (by decide)
    · intro h; subst h; simp only [gt_iff_lt, Int64.lt_iff_toInt_lt] at h1; omega
  · rw [if_neg h1]
    by_cases h2 : x = y
    · rw [if_pos h2]; exact ⟨fun _ => h2, fun _ => rfl⟩
    · rw [if_neg h2]; exact ⟨fun h => absurd h (by decide), fun h => absurd h h2⟩
theorem lgc_gt (x y : Int64) : 0 < lg_cmp x y ↔ y < x := by
  unfold lg_cmp
  by_cases h1 : x > y
  · rw [if_pos h1]; exact ⟨fun _ => h1, fun _ => by decide⟩
  · rw [if_neg h1]
    by_cases h2 : x = y
    · rw [if_pos h2]; exact ⟨fun h => absurd h (by decide), fun h => absurd h h1⟩
    · rw [if_neg h2]; exact ⟨fun h => absurd h (by decide), fun h => absurd h h1⟩
theorem a_lcmp_lt {k : KT} {c0 s0 pc : Nat} {L : List (Nat × Value)} {S : List Value} {es : va_W} {x y : Int64} {off : Int} (tgt : Nat) (hd : decode (kC k) pc = .ok (.ifCond .lt off, 3)) (ht : (pc : Int) + off = (tgt : Int)) (h1 : x < y → AW k c0 s0 tgt L S es) (h2 : ¬ x < y → AW k c0 s0 (pc + 3) L S es) : AW k c0 s0 pc L (.int (lg_cmp x y) :: S) es :=
  a_if_lt tgt hd ht (fun q => h1 ((lgc_lt x y).mp q)) (fun q => h2 (fun z => q ((lgc_lt x y).mpr z)))
theorem a_lcmp_gt {k : KT} {c0 s0 pc : Nat} {L : List (Nat × Value)} {S : List Value} {es : va_W} {x y : Int64} {off : Int} (tgt : Nat) (hd : decode (kC k) pc = .ok (.ifCond .gt off, 3)) (ht : (pc : Int) + off = (tgt : Int)) (h1 : y < x → AW k c0 s0 tgt L S es) (h2 : ¬ y < x → AW k c0 s0 (pc + 3) L S es) : AW k c0 s0 pc L (.int (lg_cmp x y) :: S) es :=
  a_if_gt tgt hd ht (fun q => h1 ((lgc_gt x y).mp q)) (fun q => h2 (fun z => q ((lgc_gt x y).mpr z)))
theorem a_lcmp_ge {k : KT} {c0 s0 pc : Nat} {L : List (Nat × Value)} {S : List Value} {es : va_W} {x y : Int64} {off : Int} (tgt : Nat) (hd : decode (kC k) pc = .ok (.ifCond .ge off, 3)) (ht : (pc : Int) + off = (tgt : Int)) (h1 : ¬ x < y → AW k c0 s0 tgt L S es) (h2 : x < y → AW k c0 s0 (pc + 3) L S es) : AW k c0 s0 pc L (.int (lg_cmp x y) :: S) es :=
  a_if_ge tgt hd ht (fun q => h1 (fun z => absurd ((lgc_lt x y).mpr z) (Int32.not_lt.mpr q))) (fun q => h2 ((lgc_lt x y).mp (Int32.not_le.mp q)))
theorem a_lcmp_le {k : KT} {c0 s0 pc : Nat} {L : List (Nat × Value)} {S : List Value} {es : va_W} {x y : Int64} {off : Int} (tgt : Nat) (hd : decode (kC k) pc = .ok (.ifCond .le off, 3)) (ht : (pc : Int) + off = (tgt : Int)) (h1 : ¬ y < x → AW k c0 s0 tgt L S es) (h2 : y < x → AW k c0 s0 (pc + 3) L S es) : AW k c0 s0 pc L (.int (lg_cmp x y) :: S) es :=
  a_if_le tgt hd ht (fun q => h1 (fun z => absurd ((lgc_gt x y).mpr z) (Int32.not_lt.mpr q))) (fun q => h2 ((lgc_gt x y).mp (Int32.not_le.mp q)))
theorem a_lcmp_ne {k : KT} {c0 s0 pc : Nat} {L : List (Nat × Value)} {S : List Value} {es : va_W} {x y : Int64} {off : Int} (tgt : Nat) (hd : decode (kC k) pc = .ok (.ifCond .ne off, 3)) (ht : (pc : Int) + off = (tgt : Int)) (h1 : ¬ x = y → AW k c0 s0 tgt L S es) (h2 : x = y → AW k c0 s0 (pc + 3) L S es) : AW k c0 s0 pc L (.int (lg_cmp x y) :: S) es :=
  a_if_ne tgt hd ht (fun q => h1 (fun z => q ((lgc_eq x y).mpr z))) (fun q => h2 ((lgc_eq x y).mp q))
theorem a_lcmp_eq {k : KT} {c0 s0 pc : Nat} {L : List (Nat × Value)} {S : List Value} {es : va_W} {x y : Int64} {off : Int} (tgt : Nat) (hd : decode (kC k) pc = .ok (.ifCond .eq off, 3)) (ht : (pc : Int) + off = (tgt : Int)) (h1 : x = y → AW k c0 s0 tgt L S es) (h2 : ¬ x = y → AW k c0 s0 (pc + 3) L S es) : AW k c0 s0 pc L (.int (lg_cmp x y) :: S) es :=
  a_if_eq tgt hd ht (fun q => h1 ((lgc_eq x y).mp q)) (fun q => h2 (fun z => q ((lgc_eq x y).mpr z)))
