theorem aw_int : Cond.arrayClass (newarray.typeOf .int) ∈ gtbl := gm 44 (by decide +kernel) rfl
theorem aw_long : Cond.arrayClass (newarray.typeOf .long) ∈ gtbl := gm 227 (by decide +kernel) rfl
theorem ap {pre l : va_W} (j : Nat) : (pre ++ l)[pre.length + j]? = l[j]? := by
  rw [List.getElem?_append_right (Nat.le_add_right _ _), Nat.add_sub_cancel_left]
theorem ap_set {pre l : va_W} (j : Nat) (x : Nat × va_E) : (pre ++ l).set (pre.length + j) x = pre ++ l.set j x := by
  rw [List.set_append, if_neg (Nat.not_lt.mpr (Nat.le_add_right _ _)), Nat.add_sub_cancel_left]
theorem a_new {k : KT} {c0 s0 pc : Nat} {L : List (Nat × Value)} {S : List Value} {ws : va_W} {idx ci N : Nat} {CC : String} {T : u_T} {ty : Nat → FieldType} (fs : List Value) (ws' : Nat → va_W) (hcl : Cond.classLink (kO k) idx CC ∈ gtbl) (hi : Cond.instantiable CC N ∈ gtbl) (hini : Cond.initialized CC ∈ gtbl) (hu : ∀ w ∈ u_ws CC T N, w ∈ gtbl) (hty : ∀ k, k < N → parseFieldDescriptor (T k).2.2.1 = some (ty k)) (hc : clsL[ci]? = some (CC, T, N)) (hfs : ∀ j, j < N → defaultValue (ty j) = vp_V fs j) (hw : ∀ q, ws ++ [(q, .inr (ci, fs))] = ws' q) (hR : c0 + 1 ≤ k.2.1.cells ∧ s0 + N ≤ k.2.1.slots) (hd : decode (kC k) pc = .ok (.new idx, 3)) (h : ∀ q, AW k (c0 + 1) (s0 + N) (pc + 3) L (.ref q :: S) (ws' q)) : AW k c0 s0 pc L S ws := by
  intro p e s m args below meth c C ls H locs hl hP hD hS
  refine va_new (T := T) (fs := fs) C.1 C.2.1 C.2.2.2.2.2.2.1 hu ty hty C.2.2.2.2.1 (C.2.2.2.2.2.2.1 _ hcl) (C.2.2.2.2.2.2.1 _ hi) (C.2.2.2.2.2.2.1 _ hini) C.2.2.2.2.2.2.2.1 hP hD hS (fun q hq => Nat.le_trans C.2.2.2.2.2.2.2.2.2.2.2 hq) hc hfs hR.1 hR.2 hd ?_
  intro q H1 hP1 hD1 hS1
  rw [hw] at hP1 hD1
  exact h q p e s m args below meth c C ls H1 locs hl hP1 hD1 hS1
theorem a_newI {k : KT} {c0 s0 pc : Nat} {L : List (Nat × Value)} {S : List Value} {ws : va_W} {n : Int32} (N : Nat) (ws' : Nat → va_W) (hn : ¬ n < 0) (hN : n.toNatClampNeg = N) (hb : N * 4 ≤ 536870912) (hw : ∀ q, ws ++ [(q, .inl (gA k.1 0, N, .inl (fun _ => 0)))] = ws' q) (hR : c0 + 1 ≤ k.2.1.cells ∧ s0 + N ≤ k.2.1.slots) (hd : decode (kC k) pc = .ok (.newarray .int, 2)) (h : ∀ q, AW k (c0 + 1) (s0 + N) (pc + 2) L (.ref q :: S) (ws' q)) : AW k c0 s0 pc L (.int n :: S) ws := by
  intro p e s m args below meth c C ls H locs hl hP hD hS
  refine va_newa (atype := .int) (ty := .int) (a0 := (N, .inl (fun _ => 0))) C.1 C.2.1 (C.2.2.2.2.2.2.1 _ aw_int) rfl C.2.2.2.2.2.2.2.1 hP hD hS (fun q hq => Nat.le_trans C.2.2.2.2.2.2.2.2.2.2.2 hq) (fun cA => rfl) hn hN hb hR.1 hR.2 hd ?_
  intro q cA H1 hK1 hP1 hD1 hS1
  have e1 : s.vm.findClass "[I" = some cA := (hK1.2 5 (cA, .int) rfl).2
  have e2 : s.vm.findClass "[I" = some (gA k.1 0) := (C.2.2.2.2.2.2.2.1.2 0 (gA k.1 0, .int) rfl).2
  have e3 : cA = gA k.1 0 := Option.some.inj (e1.symm.trans e2)
  subst e3
  rw [hw] at hP1 hD1
  exact h q p e s m args below meth c C ls H1 locs hl hP1 hD1 hS1
theorem a_newJ {k : KT} {c0 s0 pc : Nat} {L : List (Nat × Value)} {S : List Value} {ws : va_W} {n : Int32} (N : Nat) (ws' : Nat → va_W) (hn : ¬ n < 0) (hN : n.toNatClampNeg = N) (hb : N * 8 ≤ 536870912) (hw : ∀ q, ws ++ [(q, .inl (gA k.1 1, N, .inr (.inl (fun _ => 0))))] = ws' q) (hR : c0 + 1 ≤ k.2.1.cells ∧ s0 + N ≤ k.2.1.slots) (hd : decode (kC k) pc = .ok (.newarray .long, 2)) (h : ∀ q, AW k (c0 + 1) (s0 + N) (pc + 2) L (.ref q :: S) (ws' q)) : AW k c0 s0 pc L (.int n :: S) ws := by
  intro p e s m args below meth c C ls H locs hl hP hD hS
  refine va_newa (atype := .long) (ty := .long) (a0 := (N, .inr (.inl (fun _ => 0)))) C.1 C.2.1 (C.2.2.2.2.2.2.1 _ aw_long) rfl C.2.2.2.2.2.2.2.1 hP hD hS (fun q hq => Nat.le_trans C.2.2.2.2.2.2.2.2.2.2.2 hq) (fun cA => rfl) hn hN hb hR.1 hR.2 hd ?_
  intro q cA H1 hK1 hP1 hD1 hS1
  have e1 : s.vm.findClass "[J" = some cA := (hK1.2 5 (cA, .long) rfl).2
  have e2 : s.vm.findClass "[J" = some (gA k.1 1) := (C.2.2.2.2.2.2.2.1.2 1 (gA k.1 1, .long) rfl).2
  have e3 : cA = gA k.1 1 := Option.some.inj (e1.symm.trans e2)
  subst e3
  rw [hw] at hP1 hD1
  exact h q p e s m args below meth c C ls H1 locs hl hP1 hD1 hS1
theorem a_anew {k : KT} {c0 s0 pc : Nat} {L : List (Nat × Value)} {S : List Value} {ws : va_W} {idx : Nat} {n : Int32} (N t : Nat) (CC : String) (ws' : Nat → va_W) (hcl : Cond.classLink (kO k) idx CC ∈ gtbl) (hao : ∀ U, RoOK k.1 U U.heap → va_AO CC U) (ht : (tysL k.1)[t]? = some (gA k.1 t, .object CC)) (hn : ¬ n < 0) (hN : n.toNatClampNeg = N) (hb : N * 4 ≤ 536870912) (hw : ∀ q, ws ++ [(q, .inl (gA k.1 t, N, .inr (.inr (.inr (.inr (fun _ => none))))))] = ws' q) (hR : c0 + 1 ≤ k.2.1.cells ∧ s0 + N ≤ k.2.1.slots) (hd : decode (kC k) pc = .ok (.anewarray idx, 3)) (h : ∀ q, AW k (c0 + 1) (s0 + N) (pc + 3) L (.ref q :: S) (ws' q)) : AW k c0 s0 pc L (.int n :: S) ws := by
  intro p e s m args below meth c C ls H locs hl hP hD hS
  refine va_newq C.1 C.2.1 C.2.2.2.2.1 (C.2.2.2.2.2.2.1 _ hcl) (hao s C.2.2.2.2.2.2.2.2.1) C.2.2.2.2.2.2.2.1 hP hD hS (fun q hq => Nat.le_trans C.2.2.2.2.2.2.2.2.2.2.2 hq) hn hN hb hR.1 hR.2 hd ?_
  intro q cA H1 hK1 hP1 hD1 hS1
  obtain ⟨-, kA1, comp1, -, -, -, e1⟩ := hK1.2 5 (cA, .object CC) rfl
  obtain ⟨-, kA2, comp2, -, -, -, e2⟩ := C.2.2.2.2.2.2.2.1.2 t (gA k.1 t, .object CC) ht
  have e3 : cA = gA k.1 t := Option.some.inj (e1.symm.trans e2)
  subst e3
  rw [hw] at hP1 hD1
  exact h q p e s m args below meth c C ls H1 locs hl hP1 hD1 hS1
def FPf (own : String) (idx ci j : Nat) (ty : FieldType) : Prop := ∃ (T : u_T) (N : Nat) (ty0 : Nat → FieldType), clsL[ci]? = some (own, T, N) ∧ (∀ w ∈ u_ws own T N, w ∈ gtbl) ∧ j < N ∧ Cond.fieldLink own idx (T j).1 (T j).2.1 (T j).2.2.1 ∈ gtbl ∧ (∀ k, k < N → parseFieldDescriptor (T k).2.2.1 = some (ty0 k)) ∧ (∀ a, a < N → ∀ b, b < N → a ≠ b → (T a).2.1 ≠ (T b).2.1) ∧ (T j).2.2.2 = true ∧ (T j).1 = own ∧ parseFieldDescriptor (T j).2.2.1 = some ty
theorem a_putF {k : KT} {c0 s0 pc : Nat} {L : List (Nat × Value)} {S : List Value} {ws : va_W} {j ci idx a r : Nat} {fs : List Value} {ty : FieldType} (q0 : Nat) (ws' : va_W) (hf : FPf (kO k) idx ci j ty) (hi : k.2.2.2.2.1.name = "<init>") (he : ws[q0]? = some (a, .inr (ci, fs))) (hj : j < fs.length) (hn : narrow ty (.ref r) = .ref r) (hfit : fits ty (.ref r) = true) (hw : ws.set q0 (a, .inr (ci, fs.set j (.ref r))) = ws') (hd : decode (kC k) pc = .ok (.putfield idx, 3)) (h : AW k c0 s0 (pc + 3) L S ws') : AW k c0 s0 pc L (.ref r :: .ref a :: S) ws := by
  obtain ⟨T, N, ty0, h1, h2, h3, h4, h5, h6, h7, h8, h9⟩ := hf
  intro p e s m args below meth c C ls H locs hl hP hD hS
  refine va_putF (C := kO k) (T := T) (N := N) (D := gD k.1) (A := gF k.1) C.1 C.2.1 C.2.2.2.2.2.2.1 h2 ty0 h5 h6 C.2.2.2.2.1 C.2.2.2.2.2.2.2.1 hP hD hS q0 he h1 j h3 (C.2.2.2.2.2.2.1 _ h4) (fun _ h9 => h9) h7 (C.2.2.2.2.2.2.2.2.2.2.1.trans hi) h8 (v := .ref r) h9 hn hfit hj hd ?_
  intro H1 locs1 hP1 hD1 hS1
  rw [hw] at hP1 hD1
  exact h p e s m args below meth c C ls H1 locs1 hl hP1 hD1 hS1
theorem a_putW {k : KT} {c0 s0 pc : Nat} {L : List (Nat × Value)} {S : List Value} {ws : va_W} {j ci idx a : Nat} {fs : List Value} {ty : FieldType} {v : Int32} (q0 : Nat) (ws' : va_W) (hf : FP (kO k) idx ci j ty) (he : ws[q0]? = some (a, .inr (ci, fs))) (hj : j < fs.length) (hn : narrow ty (.int v) = .int v) (hfit : fits ty (.int v) = true) (hw : ws.set q0 (a, .inr (ci, fs.set j (.int v))) = ws') (hd : decode (kC k) pc = .ok (.putfield idx, 3)) (h : AW k c0 s0 (pc + 3) L S ws') : AW k c0 s0 pc L (.int v :: .ref a :: S) ws := by
  obtain ⟨CC, T, N, ty0, h1, h2, h3, h4, h5, h6, h7, h8⟩ := hf
  intro p e s m args below meth c C ls H locs hl hP hD hS
  refine va_put (C := CC) (T := T) (N := N) (D := gD k.1) (A := gF k.1) C.1 C.2.1 C.2.2.2.2.2.2.1 h2 ty0 h5 h6 C.2.2.2.2.1 C.2.2.2.2.2.2.2.1 hP hD hS q0 he h1 j h3 (C.2.2.2.2.2.2.1 _ h4) (fun _ h9 => h9) h7 (v := .int v) h8 hn hfit hj hd ?_
  intro H1 locs1 hP1 hD1 hS1
  rw [hw] at hP1 hD1
  exact h p e s m args below meth c C ls H1 locs1 hl hP1 hD1 hS1
theorem a_getW {k : KT} {c0 s0 pc : Nat} {L : List (Nat × Value)} {S : List Value} {ws : va_W} {j ci idx a : Nat} {fs : List Value} {v : Value} (q0 : Nat) (hf : FL (kO k) idx ci j) (he : ws[q0]? = some (a, .inr (ci, fs))) (hj : fs[j]? = some v) (hd : decode (kC k) pc = .ok (.getfield idx, 3)) (h : AW k c0 s0 (pc + 3) L (v :: S) ws) : AW k c0 s0 pc L (.ref a :: S) ws := by
  obtain ⟨CC, T, N, h1, h2, h3, h4⟩ := hf
  intro p e s m args below meth c C ls H locs hl hP hD hS
  exact va_get (C := CC) (T := T) (N := N) C.1 C.2.1 C.2.2.2.2.2.2.1 h2 C.2.2.2.2.1 C.2.2.2.2.2.2.2.1 hP q0 he h1 j h3 (C.2.2.2.2.2.2.1 _ h4) (fun _ h9 => h9) hj hd (h p e s m args below meth c C ls H locs hl hP hD hS)
theorem a_lenW {k : KT} {c0 s0 pc : Nat} {L : List (Nat × Value)} {S : List Value} {ws : va_W} {a n t : Nat} {CC : String} {f : Nat → Option Nat} (v : Int32) (q0 : Nat) (he : ws[q0]? = some (a, .inl (gA k.1 t, n, .inr (.inr (.inr (.inr f)))))) (ht : (tysL k.1)[t]? = some (gA k.1 t, .object CC)) (hv : Int32.ofNat n = v) (hd : decode (kC k) pc = .ok (.arraylength, 1)) (h : AW k c0 s0 (pc + 1) L (.int v :: S) ws) : AW k c0 s0 pc L (.ref a :: S) ws := by
  intro p e s m args below meth c C ls H locs hl hP hD hS
  exact va_alen C.1 C.2.1 C.2.2.2.2.2.2.2.1 hP q0 t he ht hv hd (h p e s m args below meth c C ls H locs hl hP hD hS)
theorem a_astW {k : KT} {c0 s0 pc : Nat} {L : List (Nat × Value)} {S : List Value} {ws : va_W} {a n t ci v : Nat} {i : Int32} {r : vw_C} {vs : List Value} {f : Nat → Option Nat} (q0 qk : Nat) (ws' : va_W) (he : ws[q0]? = some (a, .inl (gA k.1 t, n, .inr (.inr (.inr (.inr f)))))) (ht : (tysL k.1)[t]? = some (gA k.1 t, .object r.1)) (hv : ws[qk]? = some (v, .inr (ci, vs))) (hc : clsL[ci]? = some r) (hin : vp_in i n) (hw : ws.set q0 (a, .inl (gA k.1 t, n, .inr (.inr (.inr (.inr (va_up f i.toNatClampNeg (some v))))))) = ws') (hd : decode (kC k) pc = .ok (.aastore, 1)) (h : AW k c0 s0 (pc + 1) L S ws') : AW k c0 s0 pc L (.ref v :: .int i :: .ref a :: S) ws := by
  intro p e s m args below meth c C ls H locs hl hP hD hS
  refine va_astq C.1 C.2.1 C.2.2.2.2.2.2.2.1 hP hD hS q0 t qk ci he ht hv hc hin hd ?_
  intro H1 locs1 hP1 hD1 hS1
  rw [hw] at hP1 hD1
  exact h p e s m args below meth c C ls H1 locs1 hl hP1 hD1 hS1
theorem a_iastW {k : KT} {c0 s0 pc : Nat} {L : List (Nat × Value)} {S : List Value} {ws : va_W} {a n : Nat} {i x : Int32} {f : Nat → Int32} (q0 : Nat) (ws' : va_W) (he : ws[q0]? = some (a, .inl (gA k.1 0, n, .inl f))) (hin : vp_in i n) (hw : ws.set q0 (a, .inl (gA k.1 0, n, .inl (upd f i.toNatClampNeg x))) = ws') (hd : decode (kC k) pc = .ok (.iastore, 1)) (h : AW k c0 s0 (pc + 1) L S ws') : AW k c0 s0 pc L (.int x :: .int i :: .ref a :: S) ws := by
  intro p e s m args below meth c C ls H locs hl hP hD hS
  refine va_iast C.1 C.2.1 C.2.2.2.2.2.2.2.1 hP hD hS q0 0 he rfl hin hd ?_
  intro H1 locs1 hP1 hD1 hS1
  rw [hw] at hP1 hD1
  exact h p e s m args below meth c C ls H1 locs1 hl hP1 hD1 hS1
theorem oi_ins : Cond.instanceMethod objectInit ∈ gtbl := gm 24 (by decide +kernel) rfl
theorem oi_code : Cond.code objectInit ⟨#[0xb1]⟩ 1 none ∈ gtbl := gm 25 (by decide +kernel) rfl
theorem a_objI {k : KT} {c0 s0 pc : Nat} {L : List (Nat × Value)} {S : List Value} {ws : va_W} {idx a : Nat} (hlk : Cond.methodLink (kO k) idx objectInit ∈ gtbl) (hR : 1 ≤ k.2.1.frames ∧ (S.map fun v => v.category).sum + 12 ≤ k.2.1.locals) (hd : decode (kC k) pc = .ok (.invokespecial idx, 3)) (h : AW k c0 s0 (pc + 3) L S ws) : AW k c0 s0 pc L (.ref a :: S) ws := by
  intro p e s m args below meth c C ls H locs hl hP hD hS
  exact W.objInit C.1 C.2.1 C.2.2.2.2.1 (C.2.2.2.2.2.2.1 _ hlk) (C.2.2.2.2.2.2.1 _ oi_ins) (C.2.2.2.2.2.2.1 _ oi_code) rfl (hl.1.trans C.2.2.2.1.symm) rfl hd hR.1 (by show 2 * 0 + _ + 12 ≤ _; omega) (h p e s m args below meth c C ls H locs hl hP hD hS)
theorem a_vretW {g : GT} {d pc mc ms : Nat} {M : MT} {L : List (Nat × Value)} {ws : va_W} {Post : Option Value → va_W → Prop} (hr : M.2.2.2.1 = none) (hd : decode M.2.1 pc = .ok (.return_, 1)) (h : Post none ws) : AW (kM g d M mc ms Post) mc ms pc L [] ws := by
  intro p e s m args below meth c C ls H locs hl hP hD hS
  exact W.vret C.1 C.2.1 (C.2.2.1.trans hr) (fun t ht hW => ⟨_, _, rfl, h, by rw [ht]; exact hP, hD, hS.F ht⟩) hS.2.2 hd C.2.2.2.2.2.1
theorem AW.spl {k : KT} {c0 s0 pc : Nat} {L : List (Nat × Value)} {S : List Value} {pre front : va_W} {x : Nat × va_E} (h : AW k c0 s0 pc L S ((pre ++ front) ++ [x])) : AW k c0 s0 pc L S (pre ++ (front ++ [x])) := by
  rw [← List.append_assoc]; exact h
theorem rokI {d mc ms : Nat} {S : List Value} (h : 1 ≤ d) (hs : (S.map fun v => v.category).sum ≤ 40) : 1 ≤ (rmD d mc ms).frames ∧ (S.map fun v => v.category).sum + 12 ≤ (rmD d mc ms).locals := ⟨h, by show _ ≤ 60 * d; omega⟩
theorem ib_X0 : Cond.instantiable RX0 5 ∈ gtbl := gm 120 (by decide +kernel) rfl
theorem ib_X1 : Cond.instantiable RX1 6 ∈ gtbl := gm 176 (by decide +kernel) rfl
theorem ib_X2 : Cond.instantiable RX2 8 ∈ gtbl := gm 46 (by decide +kernel) rfl
theorem ib_X3 : Cond.instantiable RX3 3 ∈ gtbl := gm 52 (by decide +kernel) rfl
theorem ib_X4 : Cond.instantiable RX4 4 ∈ gtbl := gm 204 (by decide +kernel) rfl
theorem ib_X5 : Cond.instantiable RX5 3 ∈ gtbl := gm 27 (by decide +kernel) rfl
theorem ib_X6 : Cond.instantiable RX6 6 ∈ gtbl := gm 127 (by decide +kernel) rfl
theorem ib_X7 : Cond.instantiable RX7 9 ∈ gtbl := gm 19 (by decide +kernel) rfl
theorem ib_X8 : Cond.instantiable RX8 14 ∈ gtbl := gm 874 (by decide +kernel) rfl
theorem ck_X7_7 : Cond.classLink RX7 7 RX5 ∈ gtbl := gm 26 (by decide +kernel) rfl
theorem ck_X7_16 : Cond.classLink RX7 16 RX2 ∈ gtbl := gm 45 (by decide +kernel) rfl
theorem ck_X7_30 : Cond.classLink RX7 30 RX0 ∈ gtbl := gm 119 (by decide +kernel) rfl
theorem ck_X7_43 : Cond.classLink RX7 43 RX6 ∈ gtbl := gm 174 (by decide +kernel) rfl
theorem ck_X7_49 : Cond.classLink RX7 49 RX1 ∈ gtbl := gm 175 (by decide +kernel) rfl
theorem ck_X7_56 : Cond.classLink RX7 56 RX4 ∈ gtbl := gm 201 (by decide +kernel) rfl
theorem ck_X0_9 : Cond.classLink RX0 9 RX6 ∈ gtbl := gm 125 (by decide +kernel) rfl
theorem ck_X2_9 : Cond.classLink RX2 9 RX3 ∈ gtbl := gm 51 (by decide +kernel) rfl
theorem ck_L_7 : Cond.classLink RL 7 RX7 ∈ gtbl := gm 18 (by decide +kernel) rfl
theorem ck_L_10 : Cond.classLink RL 10 RX8 ∈ gtbl := gm 873 (by decide +kernel) rfl
theorem oi_X7 : Cond.methodLink RX7 1 objectInit ∈ gtbl := gm 23 (by decide +kernel) rfl
theorem oi_X0 : Cond.methodLink RX0 3 objectInit ∈ gtbl := gm 124 (by decide +kernel) rfl
theorem oi_X1 : Cond.methodLink RX1 3 objectInit ∈ gtbl := gm 180 (by decide +kernel) rfl
theorem oi_X2 : Cond.methodLink RX2 3 objectInit ∈ gtbl := gm 50 (by decide +kernel) rfl
theorem oi_X3 : Cond.methodLink RX3 3 objectInit ∈ gtbl := gm 56 (by decide +kernel) rfl
theorem oi_X4 : Cond.methodLink RX4 3 objectInit ∈ gtbl := gm 208 (by decide +kernel) rfl
theorem oi_X5 : Cond.methodLink RX5 3 objectInit ∈ gtbl := gm 31 (by decide +kernel) rfl
theorem oi_X6 : Cond.methodLink RX6 3 objectInit ∈ gtbl := gm 131 (by decide +kernel) rfl
theorem oi_X8 : Cond.methodLink RX8 1 objectInit ∈ gtbl := gm 878 (by decide +kernel) rfl
theorem F_X7_10 : FPf RX7 10 7 0 (.object "FigureHeads$Tape") := ⟨TX7, 9, tyX7, rfl, uw_X7, by decide, gm 228 (by decide +kernel) rfl, tyX7_ok, nmX7, rfl, rfl, by decide +kernel⟩
theorem F_X7_19 : FPf RX7 19 7 1 (.object "FigureHeads$Fleet") := ⟨TX7, 9, tyX7, rfl, uw_X7, by decide, gm 229 (by decide +kernel) rfl, tyX7_ok, nmX7, rfl, rfl, by decide +kernel⟩
theorem F_X7_23 : FPf RX7 23 7 2 (.object "FigureHeads$Fleet") := ⟨TX7, 9, tyX7, rfl, uw_X7, by decide, gm 230 (by decide +kernel) rfl, tyX7_ok, nmX7, rfl, rfl, by decide +kernel⟩
theorem F_X7_26 : FPf RX7 26 7 3 (.array (.object "FigureHeads$Fleet")) := ⟨TX7, 9, tyX7, rfl, uw_X7, by decide, gm 231 (by decide +kernel) rfl, tyX7_ok, nmX7, rfl, rfl, by decide +kernel⟩
theorem F_X7_39 : FPf RX7 39 7 4 (.object "FigureHeads$Acts") := ⟨TX7, 9, tyX7, rfl, uw_X7, by decide, gm 232 (by decide +kernel) rfl, tyX7_ok, nmX7, rfl, rfl, by decide +kernel⟩
theorem F_X7_45 : FPf RX7 45 7 5 (.array (.object "FigureHeads$Voyage")) := ⟨TX7, 9, tyX7, rfl, uw_X7, by decide, gm 233 (by decide +kernel) rfl, tyX7_ok, nmX7, rfl, rfl, by decide +kernel⟩
theorem F_X7_52 : FPf RX7 52 7 6 (.object "FigureHeads$Chart") := ⟨TX7, 9, tyX7, rfl, uw_X7, by decide, gm 234 (by decide +kernel) rfl, tyX7_ok, nmX7, rfl, rfl, by decide +kernel⟩
theorem F_X7_58 : FPf RX7 58 7 7 (.array (.object "FigureHeads$Sheet")) := ⟨TX7, 9, tyX7, rfl, uw_X7, by decide, gm 235 (by decide +kernel) rfl, tyX7_ok, nmX7, rfl, rfl, by decide +kernel⟩
theorem F_X7_62 : FPf RX7 62 7 8 (.array .int) := ⟨TX7, 9, tyX7, rfl, uw_X7, by decide, gm 236 (by decide +kernel) rfl, tyX7_ok, nmX7, rfl, rfl, by decide +kernel⟩
theorem F_X0_11 : FPf RX0 11 0 0 (.array (.object "FigureHeads$Voyage")) := ⟨TX0, 5, tyX0, rfl, uw_X0, by decide, gm 157 (by decide +kernel) rfl, tyX0_ok, nmX0, rfl, rfl, by decide +kernel⟩
theorem F_X0_17 : FPf RX0 17 0 1 (.array .int) := ⟨TX0, 5, tyX0, rfl, uw_X0, by decide, gm 158 (by decide +kernel) rfl, tyX0_ok, nmX0, rfl, rfl, by decide +kernel⟩
theorem F_X0_21 : FPf RX0 21 0 2 (.array .int) := ⟨TX0, 5, tyX0, rfl, uw_X0, by decide, gm 159 (by decide +kernel) rfl, tyX0_ok, nmX0, rfl, rfl, by decide +kernel⟩
theorem F_X1_11 : FPf RX1 11 1 1 (.array .int) := ⟨TX1, 6, tyX1, rfl, uw_X1, by decide, gm 182 (by decide +kernel) rfl, tyX1_ok, nmX1, rfl, rfl, by decide +kernel⟩
theorem F_X1_15 : FPf RX1 15 1 2 (.array .int) := ⟨TX1, 6, tyX1, rfl, uw_X1, by decide, gm 183 (by decide +kernel) rfl, tyX1_ok, nmX1, rfl, rfl, by decide +kernel⟩
theorem F_X1_18 : FPf RX1 18 1 3 (.array .int) := ⟨TX1, 6, tyX1, rfl, uw_X1, by decide, gm 184 (by decide +kernel) rfl, tyX1_ok, nmX1, rfl, rfl, by decide +kernel⟩
theorem F_X1_21 : FPf RX1 21 1 4 (.array .int) := ⟨TX1, 6, tyX1, rfl, uw_X1, by decide, gm 185 (by decide +kernel) rfl, tyX1_ok, nmX1, rfl, rfl, by decide +kernel⟩
theorem F_X1_28 : FPf RX1 28 1 0 (.object "FigureHeads$Sea") := ⟨TX1, 6, tyX1, rfl, uw_X1, by decide, gm 181 (by decide +kernel) rfl, tyX1_ok, nmX1, rfl, rfl, by decide +kernel⟩
theorem F_X2_12 : FPf RX2 12 2 0 (.object "FigureHeads$Sea") := ⟨TX2, 8, tyX2, rfl, uw_X2, by decide, gm 72 (by decide +kernel) rfl, tyX2_ok, nmX2, rfl, rfl, by decide +kernel⟩
theorem F_X2_18 : FPf RX2 18 2 1 (.array .int) := ⟨TX2, 8, tyX2, rfl, uw_X2, by decide, gm 75 (by decide +kernel) rfl, tyX2_ok, nmX2, rfl, rfl, by decide +kernel⟩
theorem F_X2_22 : FPf RX2 22 2 2 (.array .int) := ⟨TX2, 8, tyX2, rfl, uw_X2, by decide, gm 79 (by decide +kernel) rfl, tyX2_ok, nmX2, rfl, rfl, by decide +kernel⟩
theorem F_X2_25 : FPf RX2 25 2 3 (.array .int) := ⟨TX2, 8, tyX2, rfl, uw_X2, by decide, gm 83 (by decide +kernel) rfl, tyX2_ok, nmX2, rfl, rfl, by decide +kernel⟩
theorem F_X2_28 : FPf RX2 28 2 4 (.array .int) := ⟨TX2, 8, tyX2, rfl, uw_X2, by decide, gm 87 (by decide +kernel) rfl, tyX2_ok, nmX2, rfl, rfl, by decide +kernel⟩
theorem F_X2_31 : FPf RX2 31 2 5 (.array .int) := ⟨TX2, 8, tyX2, rfl, uw_X2, by decide, gm 91 (by decide +kernel) rfl, tyX2_ok, nmX2, rfl, rfl, by decide +kernel⟩
theorem F_X3_9 : FPf RX3 9 3 0 (.array .int) := ⟨TX3, 3, tyX3, rfl, uw_X3, by decide, gm 57 (by decide +kernel) rfl, tyX3_ok, nmX3, rfl, rfl, by decide +kernel⟩
theorem F_X4_9 : FPf RX4 9 4 0 (.array .long) := ⟨TX4, 4, tyX4, rfl, uw_X4, by decide, gm 209 (by decide +kernel) rfl, tyX4_ok, nmX4, rfl, rfl, by decide +kernel⟩
theorem F_X5_9 : FPf RX5 9 5 0 (.array .int) := ⟨TX5, 3, tyX5, rfl, uw_X5, by decide, gm 32 (by decide +kernel) rfl, tyX5_ok, nmX5, rfl, rfl, by decide +kernel⟩
theorem F_X6_9 : FPf RX6 9 6 1 (.array .int) := ⟨TX6, 6, tyX6, rfl, uw_X6, by decide, gm 133 (by decide +kernel) rfl, tyX6_ok, nmX6, rfl, rfl, by decide +kernel⟩
theorem F_X6_28 : FPf RX6 28 6 0 (.object "FigureHeads$Sea") := ⟨TX6, 6, tyX6, rfl, uw_X6, by decide, gm 132 (by decide +kernel) rfl, tyX6_ok, nmX6, rfl, rfl, by decide +kernel⟩
theorem F_X8_7 : FPf RX8 7 8 0 (.array .int) := ⟨TX8, 14, tyX8, rfl, uw_X8, by decide, gm 879 (by decide +kernel) rfl, tyX8_ok, nmX8, rfl, rfl, by decide +kernel⟩
theorem F_X8_13 : FPf RX8 13 8 2 (.array .int) := ⟨TX8, 14, tyX8, rfl, uw_X8, by decide, gm 881 (by decide +kernel) rfl, tyX8_ok, nmX8, rfl, rfl, by decide +kernel⟩
theorem F_X8_16 : FPf RX8 16 8 4 (.array .long) := ⟨TX8, 14, tyX8, rfl, uw_X8, by decide, gm 883 (by decide +kernel) rfl, tyX8_ok, nmX8, rfl, rfl, by decide +kernel⟩
theorem F_X8_20 : FPf RX8 20 8 5 (.array .int) := ⟨TX8, 14, tyX8, rfl, uw_X8, by decide, gm 884 (by decide +kernel) rfl, tyX8_ok, nmX8, rfl, rfl, by decide +kernel⟩
theorem F_X8_23 : FPf RX8 23 8 6 (.array .int) := ⟨TX8, 14, tyX8, rfl, uw_X8, by decide, gm 885 (by decide +kernel) rfl, tyX8_ok, nmX8, rfl, rfl, by decide +kernel⟩
theorem F_X8_26 : FPf RX8 26 8 8 (.array .int) := ⟨TX8, 14, tyX8, rfl, uw_X8, by decide, gm 887 (by decide +kernel) rfl, tyX8_ok, nmX8, rfl, rfl, by decide +kernel⟩
theorem F_X8_29 : FPf RX8 29 8 9 (.array .int) := ⟨TX8, 14, tyX8, rfl, uw_X8, by decide, gm 888 (by decide +kernel) rfl, tyX8_ok, nmX8, rfl, rfl, by decide +kernel⟩
theorem F_X8_32 : FPf RX8 32 8 10 (.array .int) := ⟨TX8, 14, tyX8, rfl, uw_X8, by decide, gm 889 (by decide +kernel) rfl, tyX8_ok, nmX8, rfl, rfl, by decide +kernel⟩
theorem F_X8_35 : FPf RX8 35 8 11 (.array .int) := ⟨TX8, 14, tyX8, rfl, uw_X8, by decide, gm 890 (by decide +kernel) rfl, tyX8_ok, nmX8, rfl, rfl, by decide +kernel⟩
theorem F_X8_38 : FPf RX8 38 8 12 (.array .long) := ⟨TX8, 14, tyX8, rfl, uw_X8, by decide, gm 891 (by decide +kernel) rfl, tyX8_ok, nmX8, rfl, rfl, by decide +kernel⟩
theorem F_X8_41 : FPf RX8 41 8 13 (.array .int) := ⟨TX8, 14, tyX8, rfl, uw_X8, by decide, gm 892 (by decide +kernel) rfl, tyX8_ok, nmX8, rfl, rfl, by decide +kernel⟩
theorem df_X0 : ∀ j, j < 5 → defaultValue (tyX0 j) = vp_V [.null, .null, .null, .int 0, .int 0] j := by
  intro j hj
  match j, hj with
  | 0, _ => rfl
  | 1, _ => rfl
  | 2, _ => rfl
  | 3, _ => rfl
  | 4, _ => rfl
  | j + 5, hj => exact absurd hj (by omega)
theorem df_X1 : ∀ j, j < 6 → defaultValue (tyX1 j) = vp_V [.null, .null, .null, .null, .null, .int 0] j := by
  intro j hj
  match j, hj with
  | 0, _ => rfl
  | 1, _ => rfl
  | 2, _ => rfl
  | 3, _ => rfl
  | 4, _ => rfl
  | 5, _ => rfl
  | j + 6, hj => exact absurd hj (by omega)
theorem df_X2 : ∀ j, j < 8 → defaultValue (tyX2 j) = vp_V [.null, .null, .null, .null, .null, .null, .int 0, .int 0] j := by
  intro j hj
  match j, hj with
  | 0, _ => rfl
  | 1, _ => rfl
  | 2, _ => rfl
  | 3, _ => rfl
  | 4, _ => rfl
  | 5, _ => rfl
  | 6, _ => rfl
  | 7, _ => rfl
  | j + 8, hj => exact absurd hj (by omega)
theorem df_X3 : ∀ j, j < 3 → defaultValue (tyX3 j) = vp_V [.null, .int 0, .int 0] j := by
  intro j hj
  match j, hj with
  | 0, _ => rfl
  | 1, _ => rfl
  | 2, _ => rfl
  | j + 3, hj => exact absurd hj (by omega)
theorem df_X4 : ∀ j, j < 4 → defaultValue (tyX4 j) = vp_V [.null, .int 0, .int 0, .int 0] j := by
  intro j hj
  match j, hj with
  | 0, _ => rfl
  | 1, _ => rfl
  | 2, _ => rfl
  | 3, _ => rfl
  | j + 4, hj => exact absurd hj (by omega)
theorem df_X5 : ∀ j, j < 3 → defaultValue (tyX5 j) = vp_V [.null, .int 0, .int 0] j := by
  intro j hj
  match j, hj with
  | 0, _ => rfl
  | 1, _ => rfl
  | 2, _ => rfl
  | j + 3, hj => exact absurd hj (by omega)
theorem df_X6 : ∀ j, j < 6 → defaultValue (tyX6 j) = vp_V [.null, .null, .int 0, .int 0, .int 0, .int 0] j := by
  intro j hj
  match j, hj with
  | 0, _ => rfl
  | 1, _ => rfl
  | 2, _ => rfl
  | 3, _ => rfl
  | 4, _ => rfl
  | 5, _ => rfl
  | j + 6, hj => exact absurd hj (by omega)
theorem df_X7 : ∀ j, j < 9 → defaultValue (tyX7 j) = vp_V [.null, .null, .null, .null, .null, .null, .null, .null, .null] j := by
  intro j hj
  match j, hj with
  | 0, _ => rfl
  | 1, _ => rfl
  | 2, _ => rfl
  | 3, _ => rfl
  | 4, _ => rfl
  | 5, _ => rfl
  | 6, _ => rfl
  | 7, _ => rfl
  | 8, _ => rfl
  | j + 9, hj => exact absurd hj (by omega)
theorem df_X8 : ∀ j, j < 14 → defaultValue (tyX8 j) = vp_V [.null, .int 0, .null, .int 0, .null, .null, .null, .int 0, .null, .null, .null, .null, .null, .null] j := by
  intro j hj
  match j, hj with
  | 0, _ => rfl
  | 1, _ => rfl
  | 2, _ => rfl
  | 3, _ => rfl
  | 4, _ => rfl
  | 5, _ => rfl
  | 6, _ => rfl
  | 7, _ => rfl
  | 8, _ => rfl
  | 9, _ => rfl
  | 10, _ => rfl
  | 11, _ => rfl
  | 12, _ => rfl
  | 13, _ => rfl
  | j + 14, hj => exact absurd hj (by omega)
