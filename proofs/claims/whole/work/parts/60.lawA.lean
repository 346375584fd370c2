/-! THE CLAIM OUT OF ONE WALK OF THE LAW'S BODY. Your part is whole_start (and what it stands on); all else here is the same for every law, but numbers. -/
def R_law : String := "FigureHeadsLaw"
def lw_P (b : Addr) (xs : List Int32) (args : Array Value) (s : State) : Prop := args = #[.ref b] ∧ s.IntsAt b xs ∧ xs.length ≤ 512 ∧ (Jvm.Cond.and given_1 narrow_1).before args s = true
def lw_Q (_ : Array Value) (s : State) (o : Outcome) (t : State) : Prop := o = .returned (some (.int 1)) ∧ Framed s o t [] 600000 7302250
def lw_Z (below : List Frame) (a : Array Value) (s : State) : State → Prop := fun t => ∃ o, t.status = .running ∧ Ended t below o ∧ lw_Q a s o t
/-- the law's own end, with 1 on the stack, nothing written that was there before, its room as the claim has it -/
theorem lw_ret {p : Program} {l : Launch} {e : Env} {s : State} {m : MethodId} {below : List Frame} {meth : Method} {c : Code} {b : Nat} (hx : p.tables.exec = Jvm.exec) (hb : c.code = code) (hr : meth.sig.returnType = ret) (hlocks : meth.locks = false) {pc : Nat} {H : Heap} {ls : Array Slot} (hdg : decode code pc = .ok (.ireturn, 1)) : W p l e room_1 s m #[Value.ref b] below meth c H [] 600000 7302250 (lw_Z below #[Value.ref b] s) (F0 m pc ls [.int 1]) := by
  intro T hT X
  obtain ⟨fs, hret, hrun, hended, hW, hframe⟩ := X.leave (v := some (.int 1)) (hlocks := hlocks) (fun h => by rw [hr] at h; cases h)
  have hmeth' : T.vm.method? m = some meth := X.method'
  refine ⟨T.setFrames fs, ?_, .returned (some (.int 1)), hrun, hended, rfl, ⟨_, rfl⟩, hW, hframe⟩
  jvm_step X.here [X.here.top, hx, hb, hdg, hmeth', hr, ret, narrow_b1]
  (try refine ⟨rfl, ?_⟩); (try refine ⟨rfl, ?_⟩)
  first | (intro acts; rw [hret _ acts rfl rfl rfl]) | rw [hret _ _ rfl rfl rfl]
  exact Steps.refl _
/-- what holds at the law's entry: the machine, the code, the tables' words (any of lw_tbl by 'hts w (by decide +kernel)'), the script of L ints xs at the cell b, what the Statement gives of the start (any of its parts by flat_of_before) -/
def lw_At (p : Program) (s : State) (m : MethodId) (meth : Method) (c : Code) (b L : Nat) (xs : Nat → Int32) : Prop :=
  p.tables.exec = Jvm.exec ∧ c.code = code ∧ meth.sig.returnType = ret ∧ c.maxLocals = 4 ∧ s.vm.findClass R_law = some m.cls ∧ (∀ w ∈ lw_tbl, w.before #[Value.ref b] s = true) ∧ va_X b L xs s s.heap ∧ b < s.heap.size ∧ meth.locks = false ∧ (Jvm.Cond.and given_1 narrow_1).before #[Value.ref b] s = true

abbrev M_L (nm : String) : MT := (⟨R_law, nm, ""⟩, code, 4, ret, R_law)
def XtL (g : GT) (b L : Nat) (xs : Nat → Int32) : Array Value → State → Prop := fun args s => args = #[Value.ref b] ∧ va_X b L xs s s.heap ∧ b < s.heap.size ∧ s.heap.size = gB g
abbrev kL (nm : String) (g : GT) (b L : Nat) (xs : Nat → Int32) : KT := (g, room_1, (fun below args s => lw_Z below args s), XtL g b L xs, M_L nm)
theorem a_sld {nm : String} {g : GT} {b LL : Nat} {xs : Nat → Int32} {c0 s0 pc : Nat} {L : List (Nat × Value)} {S : List Value} {es : va_W} {i : Int32} (hin : vp_in i LL) (hd : decode code pc = .ok (.iaload, 1)) (h : AW (kL nm g b LL xs) c0 s0 (pc + 1) L (.int (xs i.toNatClampNeg) :: S) es) : AW (kL nm g b LL xs) c0 s0 pc L (.int i :: .ref b :: S) es := by
  intro p e s m args below meth c C ls H locs hl hP hD hS
  obtain ⟨-, hX, hbl, hz⟩ := C.2.2.2.2.2.2.2.2.2.1
  exact va_sld (A := gF g) C.1 C.2.1 hX hbl (fun q => absurd q (by show ¬ gB g ≤ b; omega)) hS hin hd (h p e s m args below meth c C ls H locs hl hP hD hS)
theorem a_slen {nm : String} {g : GT} {b LL : Nat} {xs : Nat → Int32} {c0 s0 pc : Nat} {L : List (Nat × Value)} {S : List Value} {es : va_W} (hd : decode code pc = .ok (.arraylength, 1)) (h : AW (kL nm g b LL xs) c0 s0 (pc + 1) L (.int (Int32.ofNat LL) :: S) es) : AW (kL nm g b LL xs) c0 s0 pc L (.ref b :: S) es := by
  intro p e s m args below meth c C ls H locs hl hP hD hS
  obtain ⟨-, hX, hbl, hz⟩ := C.2.2.2.2.2.2.2.2.2.1
  exact va_slen (A := gF g) C.1 C.2.1 hX hbl (fun q => absurd q (by show ¬ gB g ≤ b; omega)) hS hd (h p e s m args below meth c C ls H locs hl hP hD hS)
theorem a_lret1 {nm : String} {g : GT} {b LL : Nat} {xs : Nat → Int32} {c0 s0 pc : Nat} {L : List (Nat × Value)} {es : va_W} (hc : c0 ≤ 600000) (hs : s0 ≤ 7302250) (hd : decode code pc = .ok (.ireturn, 1)) : AW (kL nm g b LL xs) c0 s0 pc L [.int 1] es := by
  intro p e s m args below meth c C ls H locs hl hP hD hS
  obtain ⟨ha, hX, hbl, hz⟩ := C.2.2.2.2.2.2.2.2.2.1
  subst ha
  refine va_forget (fun q hq => by rw [hz]; exact hS.2.2 q hq) ?_
  refine W.widen (k := 600000) (n := 7302250) hc hs ?_
  exact lw_ret C.1 C.2.1 C.2.2.1 C.2.2.2.2.2.1 hd
