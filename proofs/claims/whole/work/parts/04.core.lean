-- ===== the words that every method of the system may use =====
def gtbl : List Cond := lw_tbl.filter goodWord
theorem gm {w : Cond} (i : Nat) (h : tables_1[i]? = some w) (hg : goodWord w = true) : w ∈ gtbl :=
  List.mem_filter.mpr ⟨List.mem_append_right _ (List.mem_of_getElem? h), hg⟩
theorem gs {w : Cond} (i : Nat) (h : (k2_sels lw_privs)[i]? = some w) (hg : goodWord w = true) : w ∈ gtbl :=
  List.mem_filter.mpr ⟨List.mem_append_left _ (List.mem_of_getElem? h), hg⟩
theorem gtbl_good : ∀ w ∈ gtbl, goodWord w = true := fun _ h => (List.mem_filter.mp h).2
-- a method: name, bytes, locals, answer, its class
abbrev MT : Type := MethodName × ByteArray × Nat × Option FieldType × String
-- what is fixed for a run: launch, classes, array classes, old cells, the first of our cells
abbrev GT : Type := Launch × va_G × (Nat → ClassId) × (Nat → Nat) × Nat × (Nat → Nat)
abbrev gD (g : GT) : va_G := g.2.1
abbrev gA (g : GT) : Nat → ClassId := g.2.2.1
abbrev gR (g : GT) : Nat → Nat := g.2.2.2.1
abbrev gB (g : GT) : Nat := g.2.2.2.2.1
abbrev ga (g : GT) : Nat → Nat := g.2.2.2.2.2
def gF (g : GT) : Nat → Prop := fun q => gB g ≤ q
def clsL : List vw_C := [(RX0, TX0, 5), (RX1, TX1, 6), (RX2, TX2, 8), (RX3, TX3, 3), (RX4, TX4, 4), (RX5, TX5, 3), (RX6, TX6, 6), (RX7, TX7, 9), (RX8, TX8, 14)]
def tysL (g : GT) : List (ClassId × FieldType) := [(gA g 0, .int), (gA g 1, .long), (gA g 2, .object "FigureHeads$Fleet"), (gA g 3, .object "FigureHeads$Voyage"), (gA g 4, .object "FigureHeads$Sheet")]
def WL (b : Nat → Nat) (es : List va_E) : va_W := es.mapIdx (fun k e => (b k, e))
theorem WL_at {b : Nat → Nat} {es : List va_E} {k : Nat} {e : va_E} (h : es[k]? = some e) : (WL b es)[k]? = some (b k, e) := by
  unfold WL; rw [List.getElem?_mapIdx, h]; rfl
theorem WL_set {b : Nat → Nat} {es : List va_E} {k : Nat} {e : va_E} : (WL b es).set k (b k, e) = WL b (es.set k e) := by
  apply List.ext_getElem?
  intro i
  unfold WL
  rw [List.getElem?_set, List.getElem?_mapIdx, List.getElem?_mapIdx, List.getElem?_set, List.length_mapIdx]
  by_cases h : k = i
  · subst h
    by_cases h2 : k < es.length
    · simp [h2]
    · simp [h2]
  · simp [h]
def nestW : List Cond := [.methodLinkNest RX7 9 yX5_init RX7, .methodLinkNest RX7 18 yX2_init RX7, .methodLinkNest RX2 11 yX3_init RX7, .methodLinkNest RX7 67 yX4_init RX7, .methodLinkNest RX2 54 yX7_doubtBy RX7, .methodLinkNest RX6 49 yX7_doubtBy RX7, .methodLinkNest RX6 57 yX7_turned RX7, .methodLinkNest RX1 61 yX7_turned RX7, .methodLinkNest RX4 32 yX7_isWord RX7, .fieldLinkNest RX3 32 "FigureHeads" "ROW_STEP" "[I" "FigureHeads", .fieldLinkNest RX3 35 "FigureHeads" "COLUMN_STEP" "[I" "FigureHeads"]
theorem nestW_on : nestW.all (fun w => w.onTables) = true := by decide +kernel
def stB : List (List Int32) := [[46, 35, 111], [111, 103, 100, 116, 109], [110, 101, 115, 119]]
def ovr (j : Nat) : Int32 := ([-1, 0, 1, 0, 1, 2] : List Int32).getD j 0
def rst (j : Nat) : Int32 := ([-1, 0, 1, 0] : List Int32).getD j 0
def cst (j : Nat) : Int32 := ([0, 1, 0, -1] : List Int32).getD j 0
/-- what lies below our cells and is only read -/
def RoOK (g : GT) (U : State) (H : Heap) : Prop :=
  (va_Z "FigureHeads" "OVER" "[I" (.ref (gR g 0)) (gF g) U H ∧ va_T .int (gR g 0) 6 (fun j => .int (ovr j)) (gF g) U H) ∧
  (va_Z "FigureHeads" "ROW_STEP" "[I" (.ref (gR g 1)) (gF g) U H ∧ va_T .int (gR g 1) 4 (fun j => .int (rst j)) (gF g) U H) ∧
  (va_Z "FigureHeads" "COLUMN_STEP" "[I" (.ref (gR g 2)) (gF g) U H ∧ va_T .int (gR g 2) 4 (fun j => .int (cst j)) (gF g) U H) ∧
  va_Z "java/lang/String" "COMPACT_STRINGS" "Z" (.int 1) (gF g) U H ∧
  vk_S 3 [3, 5, 4] stB (fun i => gR g (3 + i)) (fun i => gR g (6 + i)) (gF g) U H ∧
  (vk_R RX5 68 ".#o" (gR g 3) U ∧ vk_R RX5 88 "ogdtm" (gR g 4) U ∧ vk_R RX5 96 "nesw" (gR g 5) U) ∧
  (∀ w ∈ nestW, va_Nw w U) ∧ va_AO "FigureHeads$Fleet" U ∧ va_AO "FigureHeads$Voyage" U ∧ va_AO "FigureHeads$Sheet" U
theorem nest_warm {s U : State} (hW : s.WarmedH U.vm) (h : ∀ w ∈ nestW, va_Nw w s) : ∀ w ∈ nestW, va_Nw w U := by
  intro w hw
  have h0 := h w hw
  simp only [nestW, List.mem_cons, List.not_mem_nil, or_false] at hw
  rcases hw with rfl | rfl | rfl | rfl | rfl | rfl | rfl | rfl | rfl | rfl | rfl
  all_goals first | exact va_Nw.warmM hW h0 | exact va_Nw.warmF hW h0
theorem RoOK.move {g : GT} {s U : State} {H : Heap} (h : RoOK g s H) (hW : s.WarmedH U.vm) : RoOK g U H := by
  obtain ⟨⟨a1, a2⟩, ⟨b1, b2⟩, ⟨c1, c2⟩, d, e, ⟨f1, f2, f3⟩, n, o1, o2, o3⟩ := h
  have ha := hW.alike
  exact ⟨⟨va_Z.moved ha a1, va_T.moved ha a2⟩, ⟨va_Z.moved ha b1, va_T.moved ha b2⟩, ⟨va_Z.moved ha c1, va_T.moved ha c2⟩, va_Z.moved ha d, vk_S.moved ha e, ⟨vk_R.warm hW f1, vk_R.warm hW f2, vk_R.warm hW f3⟩, nest_warm hW n, va_AO.moved ha o1, va_AO.moved ha o2, va_AO.moved ha o3⟩
theorem RoOK.same {g : GT} {s U : State} {H : Heap} (h : RoOK g s H) (hv : U.vm = s.vm) : RoOK g U H := by
  obtain ⟨⟨a1, a2⟩, ⟨b1, b2⟩, ⟨c1, c2⟩, d, e, ⟨f1, f2, f3⟩, n, o1, o2, o3⟩ := h
  have ha : s.vm.Alike U.vm := by rw [hv]; exact Vm.Alike.refl s.vm
  exact ⟨⟨va_Z.moved ha a1, va_T.moved ha a2⟩, ⟨va_Z.moved ha b1, va_T.moved ha b2⟩, ⟨va_Z.moved ha c1, va_T.moved ha c2⟩, va_Z.moved ha d, vk_S.moved ha e, ⟨vk_R.same hv f1, vk_R.same hv f2, vk_R.same hv f3⟩, fun w hw => va_Nw.same (List.all_eq_true.mp nestW_on w hw) hv.symm (n w hw), va_AO.moved ha o1, va_AO.moved ha o2, va_AO.moved ha o3⟩
theorem RoOK.kept {g : GT} {U : State} {H H1 : Heap} (h : RoOK g U H) (hq : ∀ a : Nat, a < H.size → ¬ gF g a → H1[a]? = H[a]?) : RoOK g U H1 := by
  obtain ⟨⟨a1, a2⟩, ⟨b1, b2⟩, ⟨c1, c2⟩, d, e, f, n⟩ := h
  exact ⟨⟨a1.kept hq, a2.kept hq⟩, ⟨b1.kept hq, b2.kept hq⟩, ⟨c1.kept hq, c2.kept hq⟩, d.kept hq, e.kept hq, f, n⟩
-- the judgement's fixed part: run, room, end, what else holds at the method's start, the method
abbrev KT : Type := GT × Room × (List Frame → Array Value → State → State → Prop) × (Array Value → State → Prop) × MT
abbrev kC (k : KT) : ByteArray := k.2.2.2.2.2.1
abbrev kN (k : KT) : Nat := k.2.2.2.2.2.2.1
abbrev kO (k : KT) : String := k.2.2.2.2.2.2.2.2
def Cx (k : KT) (p : Program) (s : State) (m : MethodId) (args : Array Value) (meth : Method) (c : Code) : Prop :=
  p.tables.exec = Jvm.exec ∧ c.code = kC k ∧ meth.sig.returnType = k.2.2.2.2.2.2.2.1 ∧ c.maxLocals = kN k ∧ s.vm.findClass (kO k) = some m.cls ∧ meth.locks = false ∧
  (∀ w ∈ gtbl, w.before args s = true) ∧ va_K (gD k.1) clsL (tysL k.1) s ∧ RoOK k.1 s s.heap ∧ k.2.2.2.1 args s ∧ meth.name = k.2.2.2.2.1.name ∧ gB k.1 ≤ s.heap.size
/-- from this point of the method, with these locals and this stack, over these cells, the machine comes to the end that is wanted -/
def AW (k : KT) (cells slots pc : Nat) (L : List (Nat × Value)) (S : List Value) (es : va_W) : Prop :=
  ∀ (p : Program) (e : Env) (s : State) (m : MethodId) (args : Array Value) (below : List Frame) (meth : Method) (c : Code), Cx k p s m args meth c →
  ∀ (ls : Array Slot) (H : Heap) (locs : List Loc), lv_has ls (kN k) L → va_P (gD k.1) clsL es H → va_D (gF k.1) es → va_S (gF k.1) s.heap H locs →
  W p k.1.1 e k.2.1 s m args below meth c H locs cells slots (k.2.2.1 below args s) (F0 m pc ls S)
def rmD (d mc ms : Nat) : Room := { frames := d, cells := mc, slots := ms, locals := 60 * d }
def QcD (g : GT) (Post : Option Value → va_W → Prop) : Array Value → State → Outcome → State → Prop := fun _ st o t =>
  ∃ (v : Option Value) (es' : va_W), o = .returned v ∧ Post v es' ∧ va_P (gD g) clsL es' t.heap ∧ va_D (gF g) es' ∧ va_F (gF g) st t
def PreH (g : GT) (es : va_W) (U : State) : Prop := va_P (gD g) clsL es U.heap ∧ va_D (gF g) es ∧ va_K (gD g) clsL (tysL g) U ∧ RoOK g U U.heap ∧ gB g ≤ U.heap.size
/-- a method's contract over the cells es -/
def Sem (g : GT) (d : Nat) (M : MT) (mc ms : Nat) (args : List Value) (es : va_W) (Post : Option Value → va_W → Prop) : Prop :=
  Met g.1 M.1 (Cond.code M.1 M.2.1 M.2.2.1 M.2.2.2.1 :: gtbl) (rmD d mc ms) (fun v U => v = args.toArray ∧ PreH g es U) (QcD g Post) mc ms (gF g)
abbrev kM (g : GT) (d : Nat) (M : MT) (mc ms : Nat) (Post : Option Value → va_W → Prop) : KT :=
  (g, rmD d mc ms, (fun below args s => MQ below (QcD g Post) args s mc ms (gF g)), (fun _ _ => True), M)
theorem sem_intro {g : GT} {d : Nat} {M : MT} {mc ms : Nat} {args : List Value} {es : va_W} {Post : Option Value → va_W → Prop} (hpl : plainName M.1.cls = true) (hc : M.1.cls = M.2.2.2.2) (hlen : (lg_sl args).length ≤ M.2.2.1)
    (h : AW (kM g d M mc ms Post) 0 0 0 (lv_args 0 args) [] es) : Sem g d M mc ms args es Post := by
  refine Met.ofW (cc := M.2.1) (maxL := M.2.2.1) (ret := M.2.2.2.1) hpl rfl ?_
  intro p e s m args' below meth c s₁ B hml hv
  obtain ⟨rfl, hP, hD, hK, hRo, hB⟩ := hv
  have hts := atoms_spec (ws := Cond.code M.1 M.2.1 M.2.2.1 M.2.2.2.1 :: gtbl) B.pre
  have hown : s.vm.findClass M.1.cls = some m.cls := findClass_of_methodNamed B.named
  rw [hc] at hown
  have hl := lv_entry args (n := M.2.2.1) hlen
  rw [lg_entry_eq]
  exact h p e s m _ below meth c ⟨B.exec, B.bytes, B.returns, hml, hown, B.notSynchronized, fun w hw => hts w (List.mem_cons_of_mem _ hw), hK, hRo, trivial, (name_of_methodNamed B.named B.method).1, hB⟩ _ s.heap [] hl hP hD va_S.rf
theorem PreH.of {g : GT} {es : va_W} {s U : State} {H : Heap} {locs : List Loc} (hP : va_P (gD g) clsL es H) (hD : va_D (gF g) es) (hB : gB g ≤ s.heap.size) (hK : va_K (gD g) clsL (tysL g) s) (hR : RoOK g s s.heap) (hS : va_S (gF g) s.heap H locs) (hU : U.heap = H) (hW : s.WarmedH U.vm) : PreH g es U := by
  refine ⟨by rw [hU]; exact hP, hD, va_K.moved hW.alike hK, ?_, by rw [hU]; exact Nat.le_trans hB hS.1⟩
  rw [hU]
  exact (hR.kept hS.2.1).move hW
theorem PreH.blind {g : GT} {es : va_W} {args : List Value} : FrameBlind (fun v U => v = args.toArray ∧ PreH g es U) := by
  intro a U gg mk h
  obtain ⟨h0, h1, h2, h3, h4, h5⟩ := h
  exact ⟨h0, h1, h2, va_K.moved (u := U) (U := U.calling gg mk a) (Vm.Alike.refl U.vm) h3, h4.same (U := U.calling gg mk a) rfl, h5⟩
/-- behind a call -/
theorem AW.call {k : KT} {c0 s0 pc mc ms : Nat} {L : List (Nat × Value)} {S rest : List Value} {es : va_W} {Post : Option Value → va_W → Prop} {av : Array Value}
    (hr : ∀ (p : Program) (e : Env) (s : State) (m : MethodId) (args : Array Value) (below : List Frame) (meth : Method) (c : Code), Cx k p s m args meth c →
      ∀ (ls : Array Slot) (H : Heap) (locs : List Loc), lv_has ls (kN k) L → va_P (gD k.1) clsL es H → va_D (gF k.1) es → va_S (gF k.1) s.heap H locs →
      va_Run p k.1.1 e k.2.1 s m args below meth c H locs c0 s0 mc ms (F0 m pc ls S) rest (QcD k.1 Post av) (gF k.1))
    (h : ∀ v es', Post v es' → AW k (c0 + mc) (s0 + ms) (pc + 3) L (v.toList ++ rest) es') : AW k c0 s0 pc L S es := by
  intro p e s m args below meth c C ls H locs hl hP hD hS
  intro T hT X
  obtain ⟨v, st₀, t, T', LL, h0, X', hL, e1, e2, ⟨v', es', hv, hp, hP', hD', hF⟩, st⟩ := hr p e s m args below meth c C ls H locs hl hP hD hS T hT X
  cases hv
  have hF1 : H.size ≤ t.heap.size := by rw [← h0]; exact hF.1
  have hF2 : ∀ q : Nat, q < H.size → ¬ gF k.1 q → t.heap[q]? = H[q]? := by rw [← h0]; exact hF.2
  obtain ⟨t2, a1, b1⟩ := h v es' hp p e s m args below meth c C ls T'.heap (locs ++ LL) hl (by rw [e1]; exact hP') hD'
    ⟨Nat.le_trans hS.1 (by rw [e1]; exact hF1), fun q h1 h2 => by rw [e1, hF2 q (Nat.lt_of_lt_of_le h1 hS.1) h2]; exact hS.2.1 q h1 h2, fun q hq => by
      rcases List.mem_append.mp hq with h | h
      · exact hS.2.2 q h
      · exact hL q h⟩ T' rfl X'
  exact ⟨t2, st t2 a1, b1⟩
-- the words of a call
def CF (own : String) (idx : Nat) (M : MT) (n : Nat) : Prop :=
  Cond.methodLink own idx M.1 ∈ gtbl ∧ Cond.code M.1 M.2.1 M.2.2.1 M.2.2.2.1 ∈ gtbl ∧ Cond.initialized M.1.cls ∈ gtbl ∧ (M.1.cls ≠ "java/lang/invoke/MethodHandle" ∧ M.1.cls ≠ "java/lang/invoke/VarHandle") ∧ (parseMethodDescriptor M.1.desc).map (fun d => d.parameters.length) = some n
def CFV (own : String) (idx : Nat) (M : MT) (n : Nat) : Prop := CF own idx M n ∧ Cond.instanceMethod M.1 ∈ gtbl ∧ Cond.selects M.1.cls M.1 M.1 ∈ gtbl
def CFS (own : String) (idx : Nat) (M : MT) (n : Nat) : Prop := CF own idx M n ∧ Cond.static M.1 ∈ gtbl
def CFI (own : String) (idx : Nat) (M : MT) (n : Nat) : Prop := CF own idx M n ∧ M.1.name = "<init>" ∧ Cond.instanceMethod M.1 ∈ gtbl ∧ M.2.2.2.1 = none
-- a nest mate's
def CFN (own : String) (idx : Nat) (M : MT) (n : Nat) : Prop :=
  Cond.methodLinkNest own idx M.1 RX7 ∈ nestW ∧ Cond.code M.1 M.2.1 M.2.2.1 M.2.2.2.1 ∈ gtbl ∧ Cond.initialized M.1.cls ∈ gtbl ∧ (M.1.cls ≠ "java/lang/invoke/MethodHandle" ∧ M.1.cls ≠ "java/lang/invoke/VarHandle") ∧ (parseMethodDescriptor M.1.desc).map (fun d => d.parameters.length) = some n
def CFSN (own : String) (idx : Nat) (M : MT) (n : Nat) : Prop := CFN own idx M n ∧ Cond.static M.1 ∈ gtbl
def CFIN (own : String) (idx : Nat) (M : MT) (n : Nat) : Prop := CFN own idx M n ∧ M.1.name = "<init>" ∧ Cond.instanceMethod M.1 ∈ gtbl ∧ M.2.2.2.1 = none
theorem ws_of {s : State} {args : Array Value} (M : MT) (hts : ∀ w ∈ gtbl, w.before args s = true) (hc : Cond.code M.1 M.2.1 M.2.2.1 M.2.2.2.1 ∈ gtbl) : ∀ w ∈ (Cond.code M.1 M.2.1 M.2.2.1 M.2.2.2.1 :: gtbl), ∀ (a' : Array Value) (U : State), s.WarmedH U.vm → w.before a' U = true := by
  intro w hw a' U hW
  have hw' : w ∈ gtbl := by
    rcases List.mem_cons.mp hw with h | h
    · rw [h]; exact hc
    · exact h
  exact word_at hW (good_of_word (gtbl_good w hw')) (hts w hw')
theorem len_of {y : MethodName} {n : Nat} (h2 : (parseMethodDescriptor y.desc).map (fun d => d.parameters.length) = some n) : ∀ sig, parseMethodDescriptor y.desc = some sig → n = sig.parameters.length := by
  intro sig h
  rw [h] at h2
  exact (Option.some.inj h2).symm
theorem CF.B {R : Room} {s : State} {args : Array Value} {own : String} {idx : Nat} {M : MT} {n d mc ms : Nat} (h : CF own idx M n) (hts : ∀ w ∈ gtbl, w.before args s = true) (hR : d + 1 ≤ R.frames ∧ 8 + (M.2.2.1 + 11) + 60 * d ≤ R.locals) :
    CallB R s args own idx M.1 M.2.1 M.2.2.1 M.2.2.2.1 (Cond.code M.1 M.2.1 M.2.2.1 M.2.2.2.1 :: gtbl) (rmD d mc ms) mc ms n :=
  ⟨rfl, rfl, hR.1, hR.2, ws_of M hts h.2.1, List.mem_cons_self, hts _ h.2.1, hts _ h.2.2.1, h.2.2.2.1, len_of h.2.2.2.2, hts _ h.1⟩
theorem CFN.B {R : Room} {s : State} {args : Array Value} {own : String} {idx : Nat} {M : MT} {n d mc ms : Nat} (h : CFN own idx M n) (hts : ∀ w ∈ gtbl, w.before args s = true) (hN : ∀ w ∈ nestW, va_Nw w s) (hR : d + 1 ≤ R.frames ∧ 8 + (M.2.2.1 + 11) + 60 * d ≤ R.locals) :
    va_CN R s args own idx M.1 RX7 M.2.1 M.2.2.1 M.2.2.2.1 (Cond.code M.1 M.2.1 M.2.2.1 M.2.2.2.1 :: gtbl) (rmD d mc ms) mc ms n :=
  ⟨⟨rfl, rfl, hR.1, hR.2, ws_of M hts h.2.1, List.mem_cons_self⟩, hts _ h.2.1, hts _ h.2.2.1, h.2.2.2.1, len_of h.2.2.2.2, va_Nw.use rfl (hN _ h.1)⟩
abbrev rOK (R : Room) (d mL : Nat) : Prop := d + 1 ≤ R.frames ∧ 8 + (mL + 11) + 60 * d ≤ R.locals
theorem AW.callV {k : KT} {c0 s0 pc mc ms idx n d ci o : Nat} {M : MT} {L : List (Nat × Value)} {S As rest : List Value} {es : va_W} {Post : Option Value → va_W → Prop} {fs : List Value} {T : u_T} {N : Nat}
    (hM : Sem k.1 d M mc ms (.ref (o) :: As) es Post) (hF : CFV (kO k) idx M n) (q0 : Nat) (he : es[q0]? = some (o, .inr (ci, fs))) (hc : clsL[ci]? = some (M.1.cls, T, N)) (hn : As.length = n) (hS : S = As.reverse ++ .ref (o) :: rest) (hw : (rest.map fun v => v.category).sum ≤ 8)
    (hR : rOK k.2.1 d M.2.2.1) (hf : c0 + mc ≤ k.2.1.cells ∧ s0 + ms ≤ k.2.1.slots) (hd : decode (kC k) pc = .ok (.invokevirtual idx, 3)) (h : ∀ v es', Post v es' → AW k (c0 + mc) (s0 + ms) (pc + 3) L (v.toList ++ rest) es') : AW k c0 s0 pc L S es := by
  refine AW.call (rest := rest) (av := (Value.ref (o) :: As).toArray) (fun p e s m args below meth c C ls H locs hl hP hD hSS => ?_) h
  obtain ⟨hx, hb, hr, hml, hown, hlk, hts, hK, hRo, -, -, hB0⟩ := C
  exact va_runV (As := As) (rest := rest) (b := o) (nL := kN k) (Ts := gtbl) ⟨hx, hb, hml, hown, hts⟩ hM ⟨hF.1.B hts hR, hts _ hF.2.1, hts _ hF.2.2⟩ ⟨PreH.blind, va_recv hK hP hc he, fun U hU hW => ⟨rfl, PreH.of hP hD hB0 hK hRo hSS hU hW⟩⟩ rfl hn hl.1 hS (by show 2 * 0 + _ ≤ 8; omega) hd hf
theorem AW.callS {k : KT} {c0 s0 pc mc ms idx n d : Nat} {M : MT} {L : List (Nat × Value)} {S As rest : List Value} {es : va_W} {Post : Option Value → va_W → Prop}
    (hM : Sem k.1 d M mc ms As es Post) (hF : CFS (kO k) idx M n) (hn : As.length = n) (hS : S = As.reverse ++ rest) (hw : (rest.map fun v => v.category).sum ≤ 8)
    (hR : rOK k.2.1 d M.2.2.1) (hf : c0 + mc ≤ k.2.1.cells ∧ s0 + ms ≤ k.2.1.slots) (hd : decode (kC k) pc = .ok (.invokestatic idx, 3)) (h : ∀ v es', Post v es' → AW k (c0 + mc) (s0 + ms) (pc + 3) L (v.toList ++ rest) es') : AW k c0 s0 pc L S es := by
  refine AW.call (rest := rest) (av := As.toArray) (fun p e s m args below meth c C ls H locs hl hP hD hSS => ?_) h
  obtain ⟨hx, hb, hr, hml, hown, hlk, hts, hK, hRo, -, -, hB0⟩ := C
  exact va_runS (As := As) (rest := rest) (nL := kN k) (Ts := gtbl) ⟨hx, hb, hml, hown, hts⟩ hM ⟨hF.1.B hts hR, hts _ hF.2⟩ ⟨PreH.blind, fun U hU hW => ⟨rfl, PreH.of hP hD hB0 hK hRo hSS hU hW⟩⟩ rfl hn hl.1 hS (by show 2 * 0 + _ ≤ 8; omega) hd hf
theorem AW.callSN {k : KT} {c0 s0 pc mc ms idx n d : Nat} {M : MT} {L : List (Nat × Value)} {S As rest : List Value} {es : va_W} {Post : Option Value → va_W → Prop}
    (hM : Sem k.1 d M mc ms As es Post) (hF : CFSN (kO k) idx M n) (hn : As.length = n) (hS : S = As.reverse ++ rest) (hw : (rest.map fun v => v.category).sum ≤ 8)
    (hR : rOK k.2.1 d M.2.2.1) (hf : c0 + mc ≤ k.2.1.cells ∧ s0 + ms ≤ k.2.1.slots) (hd : decode (kC k) pc = .ok (.invokestatic idx, 3)) (h : ∀ v es', Post v es' → AW k (c0 + mc) (s0 + ms) (pc + 3) L (v.toList ++ rest) es') : AW k c0 s0 pc L S es := by
  refine AW.call (rest := rest) (av := As.toArray) (fun p e s m args below meth c C ls H locs hl hP hD hSS => ?_) h
  obtain ⟨hx, hb, hr, hml, hown, hlk, hts, hK, hRo, -, -, hB0⟩ := C
  exact va_runSN (As := As) (rest := rest) (nL := kN k) (Ts := gtbl) (host := RX7) ⟨hx, hb, hml, hown, hts⟩ hM ⟨hF.1.B hts hRo.2.2.2.2.2.2.1 hR, hts _ hF.2, trivial⟩ ⟨PreH.blind, fun U hU hW => ⟨rfl, PreH.of hP hD hB0 hK hRo hSS hU hW⟩⟩ rfl hn hl.1 hS (by show 2 * 0 + _ ≤ 8; omega) hd hf
theorem AW.callI {k : KT} {c0 s0 pc mc ms idx n d o : Nat} {M : MT} {L : List (Nat × Value)} {S As rest : List Value} {es : va_W} {Post : Option Value → va_W → Prop}
    (hM : Sem k.1 d M mc ms (.ref (o) :: As) es Post) (hF : CFI (kO k) idx M n) (hn : As.length = n) (hS : S = As.reverse ++ .ref (o) :: rest) (hw : (rest.map fun v => v.category).sum ≤ 8)
    (hR : rOK k.2.1 d M.2.2.1) (hf : c0 + mc ≤ k.2.1.cells ∧ s0 + ms ≤ k.2.1.slots) (hd : decode (kC k) pc = .ok (.invokespecial idx, 3)) (h : ∀ v es', Post v es' → AW k (c0 + mc) (s0 + ms) (pc + 3) L (v.toList ++ rest) es') : AW k c0 s0 pc L S es := by
  refine AW.call (rest := rest) (av := (Value.ref (o) :: As).toArray) (fun p e s m args below meth c C ls H locs hl hP hD hSS => ?_) h
  obtain ⟨hx, hb, hr, hml, hown, hlk, hts, hK, hRo, -, -, hB0⟩ := C
  have hB := hF.1.B (R := k.2.1) (d := d) (mc := mc) (ms := ms) hts hR
  rw [hF.2.2.2] at hB
  have hM' := hM
  unfold Sem at hM'
  rw [hF.2.2.2] at hM'
  exact va_runI (As := As) (rest := rest) (b := o) (nL := kN k) (Ts := gtbl) ⟨hx, hb, hml, hown, hts⟩ hM' ⟨hB, hF.2.1, hts _ hF.2.2.1⟩ ⟨PreH.blind, fun U hU hW => ⟨rfl, PreH.of hP hD hB0 hK hRo hSS hU hW⟩⟩ rfl hn hl.1 hS (by show 2 * 0 + _ ≤ 8; omega) hd hf
theorem AW.callIN {k : KT} {c0 s0 pc mc ms idx n d o : Nat} {M : MT} {L : List (Nat × Value)} {S As rest : List Value} {es : va_W} {Post : Option Value → va_W → Prop}
    (hM : Sem k.1 d M mc ms (.ref (o) :: As) es Post) (hF : CFIN (kO k) idx M n) (hn : As.length = n) (hS : S = As.reverse ++ .ref (o) :: rest) (hw : (rest.map fun v => v.category).sum ≤ 8)
    (hR : rOK k.2.1 d M.2.2.1) (hf : c0 + mc ≤ k.2.1.cells ∧ s0 + ms ≤ k.2.1.slots) (hd : decode (kC k) pc = .ok (.invokespecial idx, 3)) (h : ∀ v es', Post v es' → AW k (c0 + mc) (s0 + ms) (pc + 3) L (v.toList ++ rest) es') : AW k c0 s0 pc L S es := by
  refine AW.call (rest := rest) (av := (Value.ref (o) :: As).toArray) (fun p e s m args below meth c C ls H locs hl hP hD hSS => ?_) h
  obtain ⟨hx, hb, hr, hml, hown, hlk, hts, hK, hRo, -, -, hB0⟩ := C
  have hB := hF.1.B (R := k.2.1) (d := d) (mc := mc) (ms := ms) hts hRo.2.2.2.2.2.2.1 hR
  rw [hF.2.2.2] at hB
  have hM' := hM
  unfold Sem at hM'
  rw [hF.2.2.2] at hM'
  exact va_runIN (As := As) (rest := rest) (b := o) (nL := kN k) (Ts := gtbl) (host := RX7) ⟨hx, hb, hml, hown, hts⟩ hM' ⟨hB, hF.2.1, hts _ hF.2.2.1⟩ ⟨PreH.blind, fun U hU hW => ⟨rfl, PreH.of hP hD hB0 hK hRo hSS hU hW⟩⟩ rfl hn hl.1 hS (by show 2 * 0 + _ ≤ 8; omega) hd hf
theorem AW.eq {k : KT} {c0 s0 pc : Nat} {L : List (Nat × Value)} {S : List Value} {es es' : va_W} (e : es = es') (h : AW k c0 s0 pc L S es') : AW k c0 s0 pc L S es := e ▸ h
