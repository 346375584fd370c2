-- ===== the law's entry: what the Statement gives of the start =====
def stTm (i : Nat) : Term := .string "FigureHeads$Tape" (([68, 88, 96] : List Nat).getD i 0)
abbrev gvL : List Cond := flatC (Jvm.Cond.and given_1 narrow_1)
theorem ro_OVER {args : Array Value} {s : State} {A : Nat → Prop} (hq : ∀ c ∈ gvL, c.before args s = true) (hts : ∀ w ∈ lw_tbl, w.before args s = true) (hA : ∀ a : Nat, a < s.heap.size → ¬ A a) : ∃ t : Nat, va_Z "FigureHeads" "OVER" "[I" (.ref t) A s s.heap ∧ va_T .int t 6 (fun j => .int (ovr j)) A s s.heap := by
  obtain ⟨t, h1, h2⟩ := va_Tof (tm := .static "FigureHeads" "OVER" "[I") (ty := .int) (N := 6) (f := fun j => .int (ovr j)) (A := A) (by decide) (hq _ (by decide +kernel)) (va_eqt (hq (Jvm.Cond.eq (Jvm.Term.length (Jvm.Term.static "FigureHeads" "OVER" "[I")) (Jvm.Term.int 6)) (by decide +kernel))) (fun j hj => by
    match j, hj with
    | 0, _ => exact va_eqt (hq (Jvm.Cond.eq (Jvm.Term.elem (Jvm.Term.static "FigureHeads" "OVER" "[I") (Jvm.Term.int 0)) (Jvm.Term.int (-1))) (by decide +kernel))
    | 1, _ => exact va_eqt (hq (Jvm.Cond.eq (Jvm.Term.elem (Jvm.Term.static "FigureHeads" "OVER" "[I") (Jvm.Term.int 1)) (Jvm.Term.int 0)) (by decide +kernel))
    | 2, _ => exact va_eqt (hq (Jvm.Cond.eq (Jvm.Term.elem (Jvm.Term.static "FigureHeads" "OVER" "[I") (Jvm.Term.int 2)) (Jvm.Term.int 1)) (by decide +kernel))
    | 3, _ => exact va_eqt (hq (Jvm.Cond.eq (Jvm.Term.elem (Jvm.Term.static "FigureHeads" "OVER" "[I") (Jvm.Term.int 3)) (Jvm.Term.int 0)) (by decide +kernel))
    | 4, _ => exact va_eqt (hq (Jvm.Cond.eq (Jvm.Term.elem (Jvm.Term.static "FigureHeads" "OVER" "[I") (Jvm.Term.int 4)) (Jvm.Term.int 1)) (by decide +kernel))
    | 5, _ => exact va_eqt (hq (Jvm.Cond.eq (Jvm.Term.elem (Jvm.Term.static "FigureHeads" "OVER" "[I") (Jvm.Term.int 5)) (Jvm.Term.int 2)) (by decide +kernel))
    | j + 6, hj => exact absurd hj (by omega)) hA
  exact ⟨t, va_Zref (hts (.laysStatic "FigureHeads" "OVER" "[I") (by decide +kernel)) (hts (.initialized "FigureHeads") (by decide +kernel)) h1 hA, h2⟩
theorem ro_ROW_STEP {args : Array Value} {s : State} {A : Nat → Prop} (hq : ∀ c ∈ gvL, c.before args s = true) (hts : ∀ w ∈ lw_tbl, w.before args s = true) (hA : ∀ a : Nat, a < s.heap.size → ¬ A a) : ∃ t : Nat, va_Z "FigureHeads" "ROW_STEP" "[I" (.ref t) A s s.heap ∧ va_T .int t 4 (fun j => .int (rst j)) A s s.heap := by
  obtain ⟨t, h1, h2⟩ := va_Tof (tm := .static "FigureHeads" "ROW_STEP" "[I") (ty := .int) (N := 4) (f := fun j => .int (rst j)) (A := A) (by decide) (hq _ (by decide +kernel)) (va_eqt (hq (Jvm.Cond.eq (Jvm.Term.length (Jvm.Term.static "FigureHeads" "ROW_STEP" "[I")) (Jvm.Term.int 4)) (by decide +kernel))) (fun j hj => by
    match j, hj with
    | 0, _ => exact va_eqt (hq (Jvm.Cond.eq (Jvm.Term.elem (Jvm.Term.static "FigureHeads" "ROW_STEP" "[I") (Jvm.Term.int 0)) (Jvm.Term.int (-1))) (by decide +kernel))
    | 1, _ => exact va_eqt (hq (Jvm.Cond.eq (Jvm.Term.elem (Jvm.Term.static "FigureHeads" "ROW_STEP" "[I") (Jvm.Term.int 1)) (Jvm.Term.int 0)) (by decide +kernel))
    | 2, _ => exact va_eqt (hq (Jvm.Cond.eq (Jvm.Term.elem (Jvm.Term.static "FigureHeads" "ROW_STEP" "[I") (Jvm.Term.int 2)) (Jvm.Term.int 1)) (by decide +kernel))
    | 3, _ => exact va_eqt (hq (Jvm.Cond.eq (Jvm.Term.elem (Jvm.Term.static "FigureHeads" "ROW_STEP" "[I") (Jvm.Term.int 3)) (Jvm.Term.int 0)) (by decide +kernel))
    | j + 4, hj => exact absurd hj (by omega)) hA
  exact ⟨t, va_Zref (hts (.laysStatic "FigureHeads" "ROW_STEP" "[I") (by decide +kernel)) (hts (.initialized "FigureHeads") (by decide +kernel)) h1 hA, h2⟩
theorem ro_COLUMN_STEP {args : Array Value} {s : State} {A : Nat → Prop} (hq : ∀ c ∈ gvL, c.before args s = true) (hts : ∀ w ∈ lw_tbl, w.before args s = true) (hA : ∀ a : Nat, a < s.heap.size → ¬ A a) : ∃ t : Nat, va_Z "FigureHeads" "COLUMN_STEP" "[I" (.ref t) A s s.heap ∧ va_T .int t 4 (fun j => .int (cst j)) A s s.heap := by
  obtain ⟨t, h1, h2⟩ := va_Tof (tm := .static "FigureHeads" "COLUMN_STEP" "[I") (ty := .int) (N := 4) (f := fun j => .int (cst j)) (A := A) (by decide) (hq _ (by decide +kernel)) (va_eqt (hq (Jvm.Cond.eq (Jvm.Term.length (Jvm.Term.static "FigureHeads" "COLUMN_STEP" "[I")) (Jvm.Term.int 4)) (by decide +kernel))) (fun j hj => by
    match j, hj with
    | 0, _ => exact va_eqt (hq (Jvm.Cond.eq (Jvm.Term.elem (Jvm.Term.static "FigureHeads" "COLUMN_STEP" "[I") (Jvm.Term.int 0)) (Jvm.Term.int 0)) (by decide +kernel))
    | 1, _ => exact va_eqt (hq (Jvm.Cond.eq (Jvm.Term.elem (Jvm.Term.static "FigureHeads" "COLUMN_STEP" "[I") (Jvm.Term.int 1)) (Jvm.Term.int 1)) (by decide +kernel))
    | 2, _ => exact va_eqt (hq (Jvm.Cond.eq (Jvm.Term.elem (Jvm.Term.static "FigureHeads" "COLUMN_STEP" "[I") (Jvm.Term.int 2)) (Jvm.Term.int 0)) (by decide +kernel))
    | 3, _ => exact va_eqt (hq (Jvm.Cond.eq (Jvm.Term.elem (Jvm.Term.static "FigureHeads" "COLUMN_STEP" "[I") (Jvm.Term.int 3)) (Jvm.Term.int (-1))) (by decide +kernel))
    | j + 4, hj => exact absurd hj (by omega)) hA
  exact ⟨t, va_Zref (hts (.laysStatic "FigureHeads" "COLUMN_STEP" "[I") (by decide +kernel)) (hts (.initialized "FigureHeads") (by decide +kernel)) h1 hA, h2⟩
theorem ro_strings {args : Array Value} {s : State} {A : Nat → Prop} (hq : ∀ c ∈ gvL, c.before args s = true) (hA : ∀ a : Nat, a < s.heap.size → ¬ A a) : ∃ adK adV : Nat → Nat, vk_S 3 [3, 5, 4] stB adK adV A s s.heap ∧ ∀ i : Nat, i < 3 → (stTm i).eval args s none [] s = some (.ref (adK i)) := by
  refine vk_Sof (tm := stTm) ?_ ?_ ?_ ?_ ?_ ?_ ?_ hA
  · intro i hi
    match i, hi with
    | 0, _ => decide
    | 1, _ => decide
    | 2, _ => decide
    | i + 3, hi => exact absurd hi (by omega)
  · intro i hi
    match i, hi with
    | 0, _ => exact hq (Jvm.Cond.exactly (Jvm.Term.string "FigureHeads$Tape" 68) "java/lang/String") (by decide +kernel)
    | 1, _ => exact hq (Jvm.Cond.exactly (Jvm.Term.string "FigureHeads$Tape" 88) "java/lang/String") (by decide +kernel)
    | 2, _ => exact hq (Jvm.Cond.exactly (Jvm.Term.string "FigureHeads$Tape" 96) "java/lang/String") (by decide +kernel)
    | i + 3, hi => exact absurd hi (by omega)
  · intro i hi
    match i, hi with
    | 0, _ => exact hq (Jvm.Cond.eq (Jvm.Term.field (Jvm.Term.string "FigureHeads$Tape" 68) "java/lang/String" "coder" "B") (Jvm.Term.int 0)) (by decide +kernel)
    | 1, _ => exact hq (Jvm.Cond.eq (Jvm.Term.field (Jvm.Term.string "FigureHeads$Tape" 88) "java/lang/String" "coder" "B") (Jvm.Term.int 0)) (by decide +kernel)
    | 2, _ => exact hq (Jvm.Cond.eq (Jvm.Term.field (Jvm.Term.string "FigureHeads$Tape" 96) "java/lang/String" "coder" "B") (Jvm.Term.int 0)) (by decide +kernel)
    | i + 3, hi => exact absurd hi (by omega)
  · intro i hi
    match i, hi with
    | 0, _ => exact hq (Jvm.Cond.arrayOf (Jvm.Term.field (Jvm.Term.string "FigureHeads$Tape" 68) "java/lang/String" "value" "[B") .byte) (by decide +kernel)
    | 1, _ => exact hq (Jvm.Cond.arrayOf (Jvm.Term.field (Jvm.Term.string "FigureHeads$Tape" 88) "java/lang/String" "value" "[B") .byte) (by decide +kernel)
    | 2, _ => exact hq (Jvm.Cond.arrayOf (Jvm.Term.field (Jvm.Term.string "FigureHeads$Tape" 96) "java/lang/String" "value" "[B") .byte) (by decide +kernel)
    | i + 3, hi => exact absurd hi (by omega)
  · intro i hi
    match i, hi with
    | 0, _ => exact hq (Jvm.Cond.eq (Jvm.Term.length (Jvm.Term.field (Jvm.Term.string "FigureHeads$Tape" 68) "java/lang/String" "value" "[B")) (Jvm.Term.int 3)) (by decide +kernel)
    | 1, _ => exact hq (Jvm.Cond.eq (Jvm.Term.length (Jvm.Term.field (Jvm.Term.string "FigureHeads$Tape" 88) "java/lang/String" "value" "[B")) (Jvm.Term.int 5)) (by decide +kernel)
    | 2, _ => exact hq (Jvm.Cond.eq (Jvm.Term.length (Jvm.Term.field (Jvm.Term.string "FigureHeads$Tape" 96) "java/lang/String" "value" "[B")) (Jvm.Term.int 4)) (by decide +kernel)
    | i + 3, hi => exact absurd hi (by omega)
  · intro i hi
    match i, hi with
    | 0, _ =>
      intro j hj
      match j, hj with
      | 0, _ => exact hq (Jvm.Cond.eq (Jvm.Term.elem (Jvm.Term.field (Jvm.Term.string "FigureHeads$Tape" 68) "java/lang/String" "value" "[B") (Jvm.Term.int 0)) (Jvm.Term.int 46)) (by decide +kernel)
      | 1, _ => exact hq (Jvm.Cond.eq (Jvm.Term.elem (Jvm.Term.field (Jvm.Term.string "FigureHeads$Tape" 68) "java/lang/String" "value" "[B") (Jvm.Term.int 1)) (Jvm.Term.int 35)) (by decide +kernel)
      | 2, _ => exact hq (Jvm.Cond.eq (Jvm.Term.elem (Jvm.Term.field (Jvm.Term.string "FigureHeads$Tape" 68) "java/lang/String" "value" "[B") (Jvm.Term.int 2)) (Jvm.Term.int 111)) (by decide +kernel)
      | j + 3, hj => exact absurd hj (by show ¬ j + 3 < 3; omega)
    | 1, _ =>
      intro j hj
      match j, hj with
      | 0, _ => exact hq (Jvm.Cond.eq (Jvm.Term.elem (Jvm.Term.field (Jvm.Term.string "FigureHeads$Tape" 88) "java/lang/String" "value" "[B") (Jvm.Term.int 0)) (Jvm.Term.int 111)) (by decide +kernel)
      | 1, _ => exact hq (Jvm.Cond.eq (Jvm.Term.elem (Jvm.Term.field (Jvm.Term.string "FigureHeads$Tape" 88) "java/lang/String" "value" "[B") (Jvm.Term.int 1)) (Jvm.Term.int 103)) (by decide +kernel)
      | 2, _ => exact hq (Jvm.Cond.eq (Jvm.Term.elem (Jvm.Term.field (Jvm.Term.string "FigureHeads$Tape" 88) "java/lang/String" "value" "[B") (Jvm.Term.int 2)) (Jvm.Term.int 100)) (by decide +kernel)
      | 3, _ => exact hq (Jvm.Cond.eq (Jvm.Term.elem (Jvm.Term.field (Jvm.Term.string "FigureHeads$Tape" 88) "java/lang/String" "value" "[B") (Jvm.Term.int 3)) (Jvm.Term.int 116)) (by decide +kernel)
      | 4, _ => exact hq (Jvm.Cond.eq (Jvm.Term.elem (Jvm.Term.field (Jvm.Term.string "FigureHeads$Tape" 88) "java/lang/String" "value" "[B") (Jvm.Term.int 4)) (Jvm.Term.int 109)) (by decide +kernel)
      | j + 5, hj => exact absurd hj (by show ¬ j + 5 < 5; omega)
    | 2, _ =>
      intro j hj
      match j, hj with
      | 0, _ => exact hq (Jvm.Cond.eq (Jvm.Term.elem (Jvm.Term.field (Jvm.Term.string "FigureHeads$Tape" 96) "java/lang/String" "value" "[B") (Jvm.Term.int 0)) (Jvm.Term.int 110)) (by decide +kernel)
      | 1, _ => exact hq (Jvm.Cond.eq (Jvm.Term.elem (Jvm.Term.field (Jvm.Term.string "FigureHeads$Tape" 96) "java/lang/String" "value" "[B") (Jvm.Term.int 1)) (Jvm.Term.int 101)) (by decide +kernel)
      | 2, _ => exact hq (Jvm.Cond.eq (Jvm.Term.elem (Jvm.Term.field (Jvm.Term.string "FigureHeads$Tape" 96) "java/lang/String" "value" "[B") (Jvm.Term.int 2)) (Jvm.Term.int 115)) (by decide +kernel)
      | 3, _ => exact hq (Jvm.Cond.eq (Jvm.Term.elem (Jvm.Term.field (Jvm.Term.string "FigureHeads$Tape" 96) "java/lang/String" "value" "[B") (Jvm.Term.int 3)) (Jvm.Term.int 119)) (by decide +kernel)
      | j + 4, hj => exact absurd hj (by show ¬ j + 4 < 4; omega)
    | i + 3, hi => exact absurd hi (by omega)
  · intro i j hi hj hne
    match i, hi, j, hj with
    | 0, _, 0, _ => exact absurd rfl hne
    | 0, _, 1, _ => exact Or.inl (hq (Jvm.Cond.not (Jvm.Cond.eq (Jvm.Term.string "FigureHeads$Tape" 68) (Jvm.Term.string "FigureHeads$Tape" 88))) (by decide +kernel))
    | 0, _, 2, _ => exact Or.inl (hq (Jvm.Cond.not (Jvm.Cond.eq (Jvm.Term.string "FigureHeads$Tape" 68) (Jvm.Term.string "FigureHeads$Tape" 96))) (by decide +kernel))
    | 1, _, 0, _ => exact Or.inr (hq (Jvm.Cond.not (Jvm.Cond.eq (Jvm.Term.string "FigureHeads$Tape" 68) (Jvm.Term.string "FigureHeads$Tape" 88))) (by decide +kernel))
    | 1, _, 1, _ => exact absurd rfl hne
    | 1, _, 2, _ => exact Or.inl (hq (Jvm.Cond.not (Jvm.Cond.eq (Jvm.Term.string "FigureHeads$Tape" 88) (Jvm.Term.string "FigureHeads$Tape" 96))) (by decide +kernel))
    | 2, _, 0, _ => exact Or.inr (hq (Jvm.Cond.not (Jvm.Cond.eq (Jvm.Term.string "FigureHeads$Tape" 68) (Jvm.Term.string "FigureHeads$Tape" 96))) (by decide +kernel))
    | 2, _, 1, _ => exact Or.inr (hq (Jvm.Cond.not (Jvm.Cond.eq (Jvm.Term.string "FigureHeads$Tape" 88) (Jvm.Term.string "FigureHeads$Tape" 96))) (by decide +kernel))
    | 2, _, 2, _ => exact absurd rfl hne
    | i + 3, hi, _, _ => exact absurd hi (by omega)
    | _, _, j + 3, hj => exact absurd hj (by omega)
theorem start_ctx {p : Program} {s : State} {m : MethodId} {meth : Method} {c : Code} (l : Launch) {b L : Nat} {xs : Nat → Int32} (C0 : lw_At p s m meth c b L xs) : ∃ (D : va_G) (A : Nat → ClassId) (R : Nat → Nat), ∀ ad : Nat → Nat, Cx (kL meth.name (l, D, A, R, s.heap.size, ad) b L xs) p s m #[Value.ref b] meth c := by
  obtain ⟨hx, hb, hr, hml, hown, hts, hX, hbl, hlocks, hgv⟩ := C0
  have hq := flat_of_before _ hgv
  have hA : ∀ a : Nat, a < s.heap.size → ¬ (fun q => s.heap.size ≤ q) a := fun a h => Nat.not_le.mpr h
  obtain ⟨t0, z0, y0⟩ := ro_OVER (A := fun q => s.heap.size ≤ q) hq hts hA
  obtain ⟨t1, z1, y1⟩ := ro_ROW_STEP (A := fun q => s.heap.size ≤ q) hq hts hA
  obtain ⟨t2, z2, y2⟩ := ro_COLUMN_STEP (A := fun q => s.heap.size ≤ q) hq hts hA
  obtain ⟨adK, adV, hst, hev⟩ := ro_strings (A := fun q => s.heap.size ≤ q) hq hA
  have hco : va_Z "java/lang/String" "COMPACT_STRINGS" "Z" (.int 1) (fun q => s.heap.size ≤ q) s s.heap := va_Zof (hts (.laysStatic "java/lang/String" "COMPACT_STRINGS" "Z") (by decide +kernel)) (hts (.initialized "java/lang/String") (by decide +kernel)) (va_eqi (hq (Jvm.Cond.eq (Jvm.Term.static "java/lang/String" "COMPACT_STRINGS" "Z") (Jvm.Term.int 1)) (by decide +kernel))) hA
  have hgt : ∀ w ∈ gtbl, w.before #[Value.ref b] s = true := fun w hw => hts w (List.mem_filter.mp hw).1
  obtain ⟨cX0, iX0, kX0⟩ := u_known (C := RX0) (T := TX0) (N := 5) (n := 5) hgt uw_X0 (hgt _ ib_X0)
  obtain ⟨cX1, iX1, kX1⟩ := u_known (C := RX1) (T := TX1) (N := 6) (n := 6) hgt uw_X1 (hgt _ ib_X1)
  obtain ⟨cX2, iX2, kX2⟩ := u_known (C := RX2) (T := TX2) (N := 8) (n := 8) hgt uw_X2 (hgt _ ib_X2)
  obtain ⟨cX3, iX3, kX3⟩ := u_known (C := RX3) (T := TX3) (N := 3) (n := 3) hgt uw_X3 (hgt _ ib_X3)
  obtain ⟨cX4, iX4, kX4⟩ := u_known (C := RX4) (T := TX4) (N := 4) (n := 4) hgt uw_X4 (hgt _ ib_X4)
  obtain ⟨cX5, iX5, kX5⟩ := u_known (C := RX5) (T := TX5) (N := 3) (n := 3) hgt uw_X5 (hgt _ ib_X5)
  obtain ⟨cX6, iX6, kX6⟩ := u_known (C := RX6) (T := TX6) (N := 6) (n := 6) hgt uw_X6 (hgt _ ib_X6)
  obtain ⟨cX7, iX7, kX7⟩ := u_known (C := RX7) (T := TX7) (N := 9) (n := 9) hgt uw_X7 (hgt _ ib_X7)
  obtain ⟨cX8, iX8, kX8⟩ := u_known (C := RX8) (T := TX8) (N := 14) (n := 14) hgt uw_X8 (hgt _ ib_X8)
  obtain ⟨aI, kI, mI, f1, f2, f3⟩ := Cond.arrayClass_spec (hts (.arrayClass .int) (by decide +kernel))
  obtain ⟨aJ, kJ, mJ, g1, g2, g3⟩ := Cond.arrayClass_spec (hts (.arrayClass .long) (by decide +kernel))
  have oF : va_AO "FigureHeads$Fleet" s := va_AO.of (hts (.arrayOver (.object "FigureHeads$Fleet")) (by decide +kernel))
  have oV : va_AO "FigureHeads$Voyage" s := va_AO.of (hts (.arrayOver (.object "FigureHeads$Voyage")) (by decide +kernel))
  have oS : va_AO "FigureHeads$Sheet" s := va_AO.of (hts (.arrayOver (.object "FigureHeads$Sheet")) (by decide +kernel))
  obtain ⟨pF, aF, kF, p1, -, p3, p4, p5⟩ := Cond.arrayOver_spec oF
  obtain ⟨pV, aV, kV, q1, -, q3, q4, q5⟩ := Cond.arrayOver_spec oV
  obtain ⟨pS, aS, kS, r1, -, r3, r4, r5⟩ := Cond.arrayOver_spec oS
  refine ⟨(fun k => ([cX0, cX1, cX2, cX3, cX4, cX5, cX6, cX7, cX8] : List ClassId).getD k cX0, fun k => ([iX0, iX1, iX2, iX3, iX4, iX5, iX6, iX7, iX8] : List (Nat → Nat)).getD k iX0), fun t => ([aI, aJ, aF, aV, aS] : List ClassId).getD t aI, fun n => if n = 0 then t0 else if n = 1 then t1 else if n = 2 then t2 else if n < 6 then adK (n - 3) else adV (n - 6), fun ad => ?_⟩
  refine ⟨hx, hb, hr, hml, hown, hlocks, hgt, ⟨fun k q hk => ?_, fun k q hk => ?_⟩, ⟨⟨z0, y0⟩, ⟨z1, y1⟩, ⟨z2, y2⟩, hco, ?_, ⟨?_, ?_, ?_⟩, fun w hw => ?_, oF, oV, oS⟩, ⟨rfl, hX, hbl, rfl⟩, ?_, Nat.le_refl _⟩
  · match k, hk with
    | 0, hk => cases hk; exact kX0
    | 1, hk => cases hk; exact kX1
    | 2, hk => cases hk; exact kX2
    | 3, hk => cases hk; exact kX3
    | 4, hk => cases hk; exact kX4
    | 5, hk => cases hk; exact kX5
    | 6, hk => cases hk; exact kX6
    | 7, hk => cases hk; exact kX7
    | 8, hk => cases hk; exact kX8
    | k + 9, hk => exact absurd hk (by simp [clsL])
  · match k, hk with
    | 0, hk => cases hk; exact ⟨fun n z => ⟨fun k h => (by cases h), kI, f2, mI, f3⟩, f1⟩
    | 1, hk => cases hk; exact ⟨fun n z => ⟨fun k h => (by cases h), kJ, g2, mJ, g3⟩, g1⟩
    | 2, hk => cases hk; exact ⟨fun n z => ⟨fun k h => (by cases h), kF, p3, pF, p4⟩, kF, pF, p3, p4, p1, p5⟩
    | 3, hk => cases hk; exact ⟨fun n z => ⟨fun k h => (by cases h), kV, q3, pV, q4⟩, kV, pV, q3, q4, q1, q5⟩
    | 4, hk => cases hk; exact ⟨fun n z => ⟨fun k h => (by cases h), kS, r3, pS, r4⟩, kS, pS, r3, r4, r1, r5⟩
    | k + 5, hk => exact absurd hk (by simp [tysL])
  · refine ⟨fun i hi => ?_, fun i j hi hj e => ?_⟩
    · have e1 : (if 3 + i = 0 then t0 else if 3 + i = 1 then t1 else if 3 + i = 2 then t2 else if 3 + i < 6 then adK (3 + i - 3) else adV (3 + i - 6)) = adK i := by
        rw [if_neg (by omega), if_neg (by omega), if_neg (by omega), if_pos (by omega)]; congr 1; omega
      have e2 : (if 6 + i = 0 then t0 else if 6 + i = 1 then t1 else if 6 + i = 2 then t2 else if 6 + i < 6 then adK (6 + i - 3) else adV (6 + i - 6)) = adV i := by
        rw [if_neg (by omega), if_neg (by omega), if_neg (by omega), if_neg (by omega)]; congr 1; omega
      show va_O "java/lang/String" (if 3 + i = 0 then t0 else if 3 + i = 1 then t1 else if 3 + i = 2 then t2 else if 3 + i < 6 then adK (3 + i - 3) else adV (3 + i - 6)) _ _ _ ∧ va_OF _ _ _ _ (if 3 + i = 0 then t0 else if 3 + i = 1 then t1 else if 3 + i = 2 then t2 else if 3 + i < 6 then adK (3 + i - 3) else adV (3 + i - 6)) _ _ _ ∧ va_OF _ _ _ (.ref (if 6 + i = 0 then t0 else if 6 + i = 1 then t1 else if 6 + i = 2 then t2 else if 6 + i < 6 then adK (6 + i - 3) else adV (6 + i - 6))) (if 3 + i = 0 then t0 else if 3 + i = 1 then t1 else if 3 + i = 2 then t2 else if 3 + i < 6 then adK (3 + i - 3) else adV (3 + i - 6)) _ _ _ ∧ va_T _ (if 6 + i = 0 then t0 else if 6 + i = 1 then t1 else if 6 + i = 2 then t2 else if 6 + i < 6 then adK (6 + i - 3) else adV (6 + i - 6)) _ _ _ _ _
      rw [e1, e2]
      exact hst.1 i hi
    · refine hst.2 i j hi hj ?_
      match i, hi, j, hj, e with
      | 0, _, 0, _, e => exact e
      | 0, _, 1, _, e => exact e
      | 0, _, 2, _, e => exact e
      | 1, _, 0, _, e => exact e
      | 1, _, 1, _, e => exact e
      | 1, _, 2, _, e => exact e
      | 2, _, 0, _, e => exact e
      | 2, _, 1, _, e => exact e
      | 2, _, 2, _, e => exact e
      | i + 3, hi, _, _, _ => exact absurd hi (by omega)
      | _, _, j + 3, hj, _ => exact absurd hj (by omega)
  · exact vk_R.of (A := #[Value.ref b]) (hts (.stringRef "FigureHeads$Tape" 68 ".#o") (by decide +kernel)) (hev 0 (by omega))
  · exact vk_R.of (A := #[Value.ref b]) (hts (.stringRef "FigureHeads$Tape" 88 "ogdtm") (by decide +kernel)) (hev 1 (by omega))
  · exact vk_R.of (A := #[Value.ref b]) (hts (.stringRef "FigureHeads$Tape" 96 "nesw") (by decide +kernel)) (hev 2 (by omega))
  · have hin : ∀ w ∈ nestW, w ∈ lw_tbl := by decide +kernel
    exact va_Nw.of (List.all_eq_true.mp nestW_on w hw) (hts w (hin w hw))
  · rfl
