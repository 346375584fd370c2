-- ===== a ship that hears =====
def mir (w : Nat) : Nat := if w = 1 then 2 else if w = 2 then 1 else w
def trn (k l w : Nat) : Nat := if (if k = 5 then mir w else w) = 1 then (l + 3) % 4 else if (if k = 5 then mir w else w) = 2 then (l + 1) % 4 else l
theorem t3 : ∀ l, l < 4 → (nI l + 3) - (nI l + 3) / 4 * 4 = nI ((l + 3) % 4) := by decide +kernel
theorem t1 : ∀ l, l < 4 → (nI l + 1) - (nI l + 1) / 4 * 4 = nI ((l + 1) % 4) := by decide +kernel
theorem t0 : ∀ l, l < 4 → (nI l + 0) - (nI l + 0) / 4 * 4 = nI l := by decide +kernel
theorem wU : ∀ w, w < 6 → (if nI w + 1 < 5 then nI w + 1 else 5) = nI (min 5 (w + 1)) := by decide +kernel
theorem cU : ∀ c, c < 10 → (if nI c + 1 < 9 then nI c + 1 else 9) = nI (min 9 (c + 1)) := by decide +kernel
theorem cD : ∀ c, c < 10 → (if 0 < nI c - 2 then nI c - 2 else 0) = nI (c - 2) := by decide +kernel
theorem cE1 : ∀ c, c < 10 → (if 0 < nI c - 1 then nI c - 1 else 0) = nI (c - 1) := by decide +kernel
def okV (F : NF) (v : Vy) : Prop := 1 ≤ v.1 ∧ v.1 ≤ 5 ∧ v.2.1 / 8 < F 1 ∧ v.2.1 % 8 < F 2 ∧ v.2.2.1 < 4 ∧ v.2.2.2.1 ≤ 5 ∧ ∀ t, t < 4 → v.2.2.2.2 t ≤ 9
def tru (v : Vy) (t : Nat) : Bool := decide (dbt v.1 v.2.2.2.1 t ≤ v.2.2.2.2 t)
def goV (F : NF) (v : Vy) : Bool × Vy := match nxt F v.2.1 v.2.2.1 with
  | none => (true, (v.1, v.2.1, v.2.2.1, min 5 (v.2.2.2.1 + 1), v.2.2.2.2))
  | some c => (false, (v.1, c, v.2.2.1, v.2.2.2.1, v.2.2.2.2))
def setl (v : Vy) (st : Bool) (t : Nat) : Vy := (v.1, v.2.1, v.2.2.1, v.2.2.2.1, fun u => if u = t then (if st then v.2.2.2.2 t - 2 else min 9 (v.2.2.2.2 t + 1)) else v.2.2.2.2 u)
def lookV (v : Vy) (l : Nat) : Vy := (v.1, v.2.1, l, v.2.2.2.1, v.2.2.2.2)
def hearV (F : NF) (v : Vy) (t w : Nat) : Vy := if tru v t then setl (goV F (lookV v (trn v.1 v.2.2.1 w))).2 (goV F (lookV v (trn v.1 v.2.2.1 w))).1 t else (goV F v).2
theorem trn_lt {k l w : Nat} (h : l < 4) : trn k l w < 4 := by unfold trn; (repeat' split) <;> omega
theorem nxt_ok {F : NF} {c l q : Nat} (h : nxt F c l = some q) (hW : okW F) : q / 8 < F 1 ∧ q % 8 < F 2 ∧ F (3 + q) ≠ 1 := by
  unfold nxt at h
  generalize rowO l (c / 8) = ro at h
  generalize colO l (c % 8) = co at h
  have hb := hW.2.1
  cases ro with
  | none => cases h
  | some r =>
    cases co with
    | none => cases h
    | some k =>
      unfold chk2 at h
      simp only at h
      split at h
      · rename_i hc
        cases h
        exact ⟨by omega, by omega, hc.2.2⟩
      · cases h
theorem okV_look {F : NF} {v : Vy} {l : Nat} (h : okV F v) (hl : l < 4) : okV F (lookV v l) := ⟨h.1, h.2.1, h.2.2.1, h.2.2.2.1, hl, h.2.2.2.2.2.1, h.2.2.2.2.2.2⟩
theorem okV_go {F : NF} {v : Vy} (h : okV F v) (hW : okW F) : okV F (goV F v).2 := by
  unfold goV
  split
  · exact ⟨h.1, h.2.1, h.2.2.1, h.2.2.2.1, h.2.2.2.2.1, by show min 5 _ ≤ 5; omega, h.2.2.2.2.2.2⟩
  · rename_i c hc
    obtain ⟨a, b, -⟩ := nxt_ok hc hW
    exact ⟨h.1, h.2.1, a, b, h.2.2.2.2.1, h.2.2.2.2.2.1, h.2.2.2.2.2.2⟩
theorem okV_set {F : NF} {v : Vy} {st : Bool} {t : Nat} (h : okV F v) : okV F (setl v st t) := by
  refine ⟨h.1, h.2.1, h.2.2.1, h.2.2.2.1, h.2.2.2.2.1, h.2.2.2.2.2.1, fun u hu => ?_⟩
  show (if u = t then (if st then v.2.2.2.2 t - 2 else min 9 (v.2.2.2.2 t + 1)) else v.2.2.2.2 u) ≤ 9
  split
  · rename_i e
    subst e
    have := h.2.2.2.2.2.2 u hu
    split <;> omega
  · exact h.2.2.2.2.2.2 u hu
theorem okV_hear {F : NF} {v : Vy} {t w : Nat} (h : okV F v) (hW : okW F) : okV F (hearV F v t w) := by
  unfold hearV
  split
  · exact okV_set (okV_go (okV_look h (trn_lt h.2.2.2.2.1)) hW)
  · exact okV_go h hW
section HEAR
variable {g : GT} {d : Nat} {I : IT} {J : JT}
theorem w3 {w : Nat} (hw : w < 3) : w = 0 ∨ w = 1 ∨ w = 2 := by omega
theorem s_X7_mirrored {w : Nat} {P : Int32 → IT → JT → Prop} (hw : w < 3) (h : P (nI (mir w)) I J) : SemI g d M_X7_mirrored [.int (nI w)] I J P := by
  refine w_X7_mirrored ?_
  unfold VC_X7_mirrored
  rcases w3 hw with rfl | rfl | rfl
  · exact ⟨fun _ => ⟨fun _ => h, fun q => absurd q (by decide)⟩, fun q => absurd q (by decide)⟩
  · exact ⟨fun q => absurd rfl q, fun _ => h⟩
  · exact ⟨fun _ => ⟨fun q => absurd rfl q, fun _ => h⟩, fun q => absurd q (by decide)⟩
theorem s_X7_turned {k l w : Nat} {P : Int32 → IT → JT → Prop} (hd : 1 ≤ d) (hk : k ≤ 5) (hl : l < 4) (hw : w < 3) (h : P (nI (trn k l w)) I J) : SemI g d M_X7_turned [.int (nI k), .int (nI l), .int (nI w)] I J P := by
  refine w_X7_turned hd ?_
  unfold VC_X7_turned
  rw [t3 l hl, t1 l hl]
  have last : ∀ m, m < 3 → P (nI (if m = 1 then (l + 3) % 4 else if m = 2 then (l + 1) % 4 else l)) I J → ((¬ nI m = 1 → ((¬ nI m = 2 → P (nI l) I J) ∧ (nI m = 2 → P (nI ((l + 1) % 4)) I J))) ∧ (nI m = 1 → P (nI ((l + 3) % 4)) I J)) := by
    intro m hm hh
    rcases w3 hm with rfl | rfl | rfl
    · exact ⟨fun _ => ⟨fun _ => hh, fun q => absurd q (by decide)⟩, fun q => absurd q (by decide)⟩
    · exact ⟨fun q => absurd rfl q, fun _ => hh⟩
    · exact ⟨fun _ => ⟨fun q => absurd rfl q, fun _ => hh⟩, fun q => absurd q (by decide)⟩
  unfold trn at h
  refine ⟨fun q => ?_, fun q => ?_⟩
  · rw [if_neg (fun z : k = 5 => q (by rw [z]; rfl))] at h
    exact last w hw h
  · have q5 : k = 5 := (nI_eq (b := 5) (by omega) (by omega)).mp q
    rw [if_pos q5] at h
    refine s_X7_mirrored hw ?_
    refine last (mir w) ?_ h
    unfold mir; split <;> (try split) <;> omega
theorem s_X6_trusts {o t : Nat} {F : NF} {v : Vy} {P : Bool → IT → JT → Prop} (hd : 1 ≤ d) (ho : isV o) (hC : CV I o v) (hv : okV F v) (ht : t < 4) (h : P (tru v t) I J) : SemZ g d M_X6_trusts [.ref (ga g o), .int (nI t)] I J P := by
  refine w_X6_trusts ho hd ?_
  unfold VC_X6_trusts
  rw [nI_cl (by omega), hC.1, hC.2.2.2.1, hC.2.2.2.2 t ht]
  refine ⟨vp_in_nI ht (by omega), s_X7_doubtBy ⟨hv.1, hv.2.1⟩ ht ?_⟩
  have hw := hv.2.2.2.2.2.1
  have hc := hv.2.2.2.2.2.2 t ht
  have hb : dbt v.1 v.2.2.2.1 t ≤ 10 := by unfold dbt; split <;> (try split) <;> (try split) <;> omega
  unfold tru at h
  refine ⟨fun q => ?_, fun q => ?_⟩
  · have q := (nI_ltI (by omega) (by omega)).mp q
    rw [decide_eq_false (by omega)] at h; exact h
  · have q : ¬ v.2.2.2.2 t < dbt v.1 v.2.2.2.1 t := fun z => q ((nI_ltI (by omega) (by omega)).mpr z)
    rw [decide_eq_true (by omega)] at h; exact h
theorem s_X6_beWormed {o : Nat} {v : Vy} {P : IT → JT → Prop} (hd : 1 ≤ d) (ho : isV o) (hC : CV I o v) (hw : v.2.2.2.1 ≤ 5) (h : ∀ I', CV I' o (v.1, v.2.1, v.2.2.1, min 5 (v.2.2.2.1 + 1), v.2.2.2.2) → (∀ a, a ≠ o → a ≠ o + 1 → I' a = I a) → P I' J) : SemV g d M_X6_beWormed [.ref (ga g o)] I J P := by
  refine w_X6_beWormed ho hd ?_
  unfold VC_X6_beWormed
  rw [hC.2.2.2.1, wU _ (by omega)]
  refine h _ ⟨?_, ?_, ?_, ?_, fun t ht => ?_⟩ (fun a h1 _ => sI_ne h1)
  · rw [sI_at, if_neg (by omega)]; exact hC.1
  · rw [sI_at, if_neg (by omega)]; exact hC.2.1
  · rw [sI_at, if_neg (by omega)]; exact hC.2.2.1
  · rw [sI_at, if_pos ⟨rfl, rfl⟩]
  · rw [sI_ne (by omega)]; exact hC.2.2.2.2 t ht
theorem s_X6_goOn {o : Nat} {F : NF} {v : Vy} {P : Bool → IT → JT → Prop} (hd : 2 ≤ d) (ho : isV o) (hC : CV I o v) (hS : SeaC I 4 F) (hW : okW F) (hv : okV F v) (h : ∀ I', CV I' o (goV F v).2 → (∀ a, a ≠ o → a ≠ o + 1 → I' a = I a) → P (goV F v).1 I' J) : SemZ g d M_X6_goOn [.ref (ga g o)] I J P := by
  refine w_X6_goOn ho (by omega) ?_
  unfold VC_X6_goOn
  rw [hC.2.1, hC.2.2.1]
  unfold goV at h
  refine s_X3_ahead (by omega) isSea_4 hS hW hv.2.2.1 hv.2.2.2.1 hv.2.2.2.2.1 (fun hn => ?_) (fun q hq => ?_)
  · rw [hn] at h
    refine ⟨fun z => absurd z (by decide), fun _ => ?_⟩
    exact s_X6_beWormed (by omega) ho hC hv.2.2.2.2.2.1 h
  · rw [hq] at h
    obtain ⟨b1, b2, -⟩ := nxt_ok hq hW
    have hb1 := hW.1
    refine ⟨fun _ => ?_, fun z => absurd (nI_pos' (by omega)) z⟩
    refine h _ ⟨?_, ?_, ?_, ?_, fun t ht => ?_⟩ (fun a h1 _ => sI_ne h1)
    · rw [sI_at, if_neg (by omega)]; exact hC.1
    · rw [sI_at, if_pos ⟨rfl, rfl⟩]
    · rw [sI_at, if_neg (by omega)]; exact hC.2.2.1
    · rw [sI_at, if_neg (by omega)]; exact hC.2.2.2.1
    · rw [sI_ne (by omega)]; exact hC.2.2.2.2 t ht
theorem s_X6_settle {o t : Nat} {F : NF} {v : Vy} {st : Bool} {P : IT → JT → Prop} (hd : 1 ≤ d) (ho : isV o) (hC : CV I o v) (hv : okV F v) (ht : t < 4) (h : ∀ I', CV I' o (setl v st t) → (∀ a, a ≠ o → a ≠ o + 1 → I' a = I a) → P I' J) : SemV g d M_X6_settle [.ref (ga g o), .int (nI t), .int (bI st)] I J P := by
  refine w_X6_settle ho hd ?_
  unfold VC_X6_settle
  have hc := hv.2.2.2.2.2.2 t ht
  rw [nI_cl (by omega), hC.2.2.2.2 t ht, cU _ (by omega), cD _ (by omega)]
  have fin : ∀ n : Nat, n = (if st then v.2.2.2.2 t - 2 else min 9 (v.2.2.2.2 t + 1)) → P (sI I (o + 1) t (nI n)) J := by
    intro n hn
    refine h _ ⟨?_, ?_, ?_, ?_, fun u hu => ?_⟩ (fun a _ h2 => sI_ne h2)
    · rw [sI_ne (by omega)]; exact hC.1
    · rw [sI_ne (by omega)]; exact hC.2.1
    · rw [sI_ne (by omega)]; exact hC.2.2.1
    · rw [sI_ne (by omega)]; exact hC.2.2.2.1
    · rw [sI_at]
      show _ = nI (if u = t then (if st then v.2.2.2.2 t - 2 else min 9 (v.2.2.2.2 t + 1)) else v.2.2.2.2 u)
      by_cases e : u = t
      · rw [if_pos ⟨rfl, e⟩, if_pos e, hn]
      · rw [if_neg (fun z => e z.2), if_neg e]; exact hC.2.2.2.2 u hu
  exact ⟨fun q => ⟨vp_in_nI ht (by omega), vp_in_nI ht (by omega), fin _ (by rw [q]; rfl)⟩, fun q => ⟨vp_in_nI ht (by omega), vp_in_nI ht (by omega), fin _ (by rw [q]; rfl)⟩⟩
theorem s_X6_hear {o t w : Nat} {F : NF} {v : Vy} {P : IT → JT → Prop} (hd : 3 ≤ d) (ho : isV o) (ho5 : 6 ≤ o) (hC : CV I o v) (hS : SeaC I 4 F) (hW : okW F) (hv : okV F v) (ht : t < 4) (hw : w < 3) (h : ∀ I', CV I' o (hearV F v t w) → (∀ a, a ≠ o → a ≠ o + 1 → I' a = I a) → P I' J) : SemV g d M_X6_hear [.ref (ga g o), .int (nI t), .int (nI w)] I J P := by
  refine w_X6_hear ho (by omega) ?_
  unfold VC_X6_hear
  refine s_X6_trusts (by omega) ho hC hv ht ⟨fun q => ?_, fun q => ?_⟩
  · unfold hearV at h
    rw [if_neg (by rw [q]; decide)] at h
    refine s_X6_goOn (by omega) ho hC hS hW hv (fun I1 h1 h2 => ⟨fun _ => h I1 h1 h2, fun z => (by rw [q] at z; cases z)⟩)
  · unfold hearV at h
    rw [if_pos q] at h
    rw [hC.1, hC.2.2.1]
    refine s_X7_turned (by omega) hv.2.1 hv.2.2.2.2.1 hw ?_
    have hC2 : CV (sI I o 4 (nI (trn v.1 v.2.2.1 w))) o (lookV v (trn v.1 v.2.2.1 w)) := by
      refine ⟨?_, ?_, ?_, ?_, fun t ht => ?_⟩
      · rw [sI_at, if_neg (by omega)]; exact hC.1
      · rw [sI_at, if_neg (by omega)]; exact hC.2.1
      · rw [sI_at, if_pos ⟨rfl, rfl⟩]; rfl
      · rw [sI_at, if_neg (by omega)]; exact hC.2.2.2.1
      · rw [sI_ne (by omega)]; exact hC.2.2.2.2 t ht
    have hl := okV_look (l := trn v.1 v.2.2.1 w) hv (trn_lt hv.2.2.2.2.1)
    refine s_X6_goOn (by omega) ho hC2 (hS.cg (sI_ne (by omega)) (sI_ne (by omega))) hW hl (fun I1 h1 h2 => ⟨fun z => (by rw [q] at z; cases z), fun _ => ?_⟩)
    refine s_X6_settle (by omega) ho h1 (okV_go hl hW) ht (fun I2 h3 h4 => h I2 h3 (fun a ha hb => ?_))
    rw [h4 a ha hb, h2 a ha hb, sI_ne ha]
end HEAR
