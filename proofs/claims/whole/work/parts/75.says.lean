-- ===== the reference: a ship of the region r hears =====
def MV (I : IT) (r s : Nat) (v : Vy) : Prop := I 119 (r + 51 + s) = nI v.1 ∧ I 119 (r + 58 + s) = nI v.2.1 ∧ I 119 (r + 64 + s) = nI v.2.2.1 ∧ I 119 (r + 70 + s) = nI v.2.2.2.1 ∧ ∀ t, t < 4 → I 119 (r + 76 + t) = nI (v.2.2.2.2 t)
/-- only this ship, the credit and the turn of the region r are written -/
def frS (I I' : IT) (r s : Nat) : Prop := (∀ a, a ≠ 119 → I' a = I a) ∧ ∀ j, j ≠ r + 57 → j ≠ r + 58 + s → j ≠ r + 64 + s → j ≠ r + 70 + s → (j < r + 76 ∨ r + 80 ≤ j) → I' 119 j = I 119 j
theorem frS.rf {I : IT} {r s : Nat} : frS I I r s := ⟨fun _ _ => rfl, fun _ _ _ _ _ _ => rfl⟩
theorem frS.tr {I I1 I2 : IT} {r s : Nat} (h : frS I I1 r s) (h2 : frS I1 I2 r s) : frS I I2 r s := ⟨fun a ha => (h2.1 a ha).trans (h.1 a ha), fun j a b c e f => (h2.2 j a b c e f).trans (h.2 j a b c e f)⟩
theorem frS.w {I : IT} {r s j : Nat} {x : Int32} (hj : j = r + 57 ∨ j = r + 58 + s ∨ j = r + 64 + s ∨ j = r + 70 + s ∨ (r + 76 ≤ j ∧ j < r + 80)) : frS I (sI I 119 j x) r s := by
  refine ⟨fun a ha => sI_ne ha, fun i h1 h2 h3 h4 h5 => ?_⟩
  rw [sI_at, if_neg (by omega)]
theorem frS.sea {I I' : IT} {r s : Nat} {F : NF} (h : frS I I' r s) (hs : s < 6) (hS : MSea I r F) : MSea I' r F := by
  refine ⟨?_, ?_, fun c hc => ?_⟩
  · rw [h.2 (r + 1) (by omega) (by omega) (by omega) (by omega) (by omega)]; exact hS.1
  · rw [h.2 (r + 2) (by omega) (by omega) (by omega) (by omega) (by omega)]; exact hS.2.1
  · rw [h.2 (r + 3 + c) (by omega) (by omega) (by omega) (by omega) (by omega)]; exact hS.2.2 c hc
theorem cP1 : ∀ c, c < 10 → (nI c + 1 ≤ 9 → 0 ≤ nI c + 1 ∧ nI c + 1 = nI (min 9 (c + 1))) ∧ (¬ nI c + 1 ≤ 9 → (9 : Int32) = nI (min 9 (c + 1))) := by decide +kernel
theorem cM2 : ∀ c, c < 10 → nI c + (-2) ≤ 9 ∧ (0 ≤ nI c + (-2) → nI c + (-2) = nI (c - 2)) ∧ (¬ 0 ≤ nI c + (-2) → (0 : Int32) = nI (c - 2)) := by decide +kernel
theorem cM1 : ∀ c, c < 10 → nI c + (-1) ≤ 9 ∧ (0 ≤ nI c + (-1) → nI c + (-1) = nI (c - 1)) ∧ (¬ 0 ≤ nI c + (-1) → (0 : Int32) = nI (c - 1)) := by decide +kernel
section SAYS
variable {g : GT} {d : Nat} {I : IT} {J : JT}
theorem s_X8_believesIn {r s t : Nat} {F : NF} {v : Vy} {P : Bool → IT → JT → Prop} (hd : 2 ≤ d) (hr : r ≤ 400) (hs : s < 6) (hM : MV I r s v) (hv : okV F v) (ht : t < 4) (h : P (tru v t) I J) : SemZ g d M_X8_believesIn [.ref (ga g 118), .int (nI r), .int (nI s), .int (nI t)] I J P := by
  refine w_X8_believesIn (by omega) ?_
  unfold VC_X8_believesIn
  rw [ix3 r 76 t 76 rfl, nI_cl (by omega), hM.2.2.2.2 t ht]
  refine ⟨vp_in_nI (by omega) (by omega), s_X8_doubtIn (by omega) (by omega) ⟨hv.1, hv.2.1⟩ ht hM.1 hM.2.2.2.1 ?_⟩
  have hw := hv.2.2.2.2.2.1
  have hc := hv.2.2.2.2.2.2 t ht
  have hb : dbt v.1 v.2.2.2.1 t ≤ 10 := by unfold dbt; split <;> (try split) <;> (try split) <;> omega
  unfold tru at h
  refine ⟨fun q => ?_, fun q => ?_⟩
  · have q := (nI_ltI (by omega) (by omega)).mp q
    rw [decide_eq_false (by omega)] at h; exact h
  · have q : ¬ v.2.2.2.2 t < dbt v.1 v.2.2.2.1 t := fun z => q ((nI_ltI (by omega) (by omega)).mpr z)
    rw [decide_eq_true (by omega)] at h; exact h
theorem s_X8_turned {r s w k l : Nat} {P : Int32 → IT → JT → Prop} (hr : r ≤ 400) (hs : s < 6) (e1 : I 119 (r + 51 + s) = nI k) (e2 : I 119 (r + 64 + s) = nI l) (hk : k ≤ 5) (hl : l < 4) (hw : w < 3) (h : P (nI (trn k l w)) I J) : SemI g d M_X8_turned [.ref (ga g 118), .int (nI r), .int (nI s), .int (nI w)] I J P := by
  refine w_X8_turned ?_
  unfold VC_X8_turned
  rw [ix3 r 51 s 51 rfl, ix3 r 64 s 64 rfl, nI_cl (by omega), nI_cl (by omega), e1, e2, t3 l hl, t1 l hl, t0 l hl]
  have p1 : vp_in (nI (r + 51 + s)) 952 := vp_in_nI (by omega) (by omega)
  have p2 : vp_in (nI (r + 64 + s)) 952 := vp_in_nI (by omega) (by omega)
  unfold trn at h
  refine ⟨p1, fun q => ⟨p2, ?_⟩, fun q => ?_⟩
  · rw [if_neg (fun z : k = 5 => q (by rw [z]; rfl))] at h
    rcases w3 hw with rfl | rfl | rfl
    · exact ⟨fun _ => ⟨fun _ => h, fun q => absurd q (by decide)⟩, fun q => absurd q (by decide)⟩
    · exact ⟨fun q => absurd rfl q, fun _ => h⟩
    · exact ⟨fun _ => ⟨fun q => absurd rfl q, fun _ => h⟩, fun q => absurd q (by decide)⟩
  · have q5 : k = 5 := (nI_eq (b := 5) (by omega) (by omega)).mp q
    rw [if_pos q5] at h
    rcases w3 hw with rfl | rfl | rfl
    · exact ⟨fun _ => ⟨p2, fun _ => ⟨fun _ => h, fun q => absurd q (by decide)⟩, fun q => absurd q (by decide)⟩, fun q => absurd (by decide) q⟩
    · exact ⟨fun q => absurd q (by decide), fun _ => ⟨p2, fun _ => ⟨fun q => absurd rfl q, fun _ => h⟩, fun q => absurd q (by decide)⟩⟩
    · exact ⟨fun q => absurd q (by decide), fun _ => ⟨p2, fun q => absurd rfl q, fun _ => h⟩⟩
theorem s_X8_wormed {r s w : Nat} {P : IT → JT → Prop} (hr : r ≤ 400) (hs : s < 6) (e : I 119 (r + 70 + s) = nI w) (hw : w ≤ 5) (h : P (sI I 119 (r + 70 + s) (nI (min 5 (w + 1)))) J) : SemV g d M_X8_wormed [.ref (ga g 118), .int (nI r), .int (nI s)] I J P := by
  refine w_X8_wormed ?_
  unfold VC_X8_wormed
  rw [ix3 r 70 s 70 rfl, nI_cl (by omega), e]
  have p1 : vp_in (nI (r + 70 + s)) 952 := vp_in_nI (by omega) (by omega)
  refine ⟨p1, fun q => ⟨p1, ?_⟩, fun q => ⟨p1, p1, ?_⟩⟩
  · have q : 5 ≤ w := (nI_leI (a := 5) (by omega) (by omega)).mp q
    rw [show min 5 (w + 1) = 5 from by omega] at h; exact h
  · have q : ¬ 5 ≤ w := fun z => q ((nI_leI (a := 5) (by omega) (by omega)).mpr z)
    rw [show min 5 (w + 1) = w + 1 from by omega] at h
    rw [nI_one]; exact h
theorem s_X8_goes {r s : Nat} {F : NF} {v : Vy} {P : Bool → IT → JT → Prop} (hd : 3 ≤ d) (hr : r ≤ 400) (hs : s < 6) (hM : MV I r s v) (hS : MSea I r F) (hW : okW F) (hv : okV F v) (h : ∀ I', MV I' r s (goV F v).2 → frS I I' r s → I' 119 (r + 57) = I 119 (r + 57) + 1 → P (goV F v).1 I' J) : SemZ g d M_X8_goes [.ref (ga g 118), .int (nI r), .int (nI s)] I J P := by
  refine w_X8_goes (by omega) ?_
  unfold VC_X8_goes
  rw [ix3 r 58 s 58 rfl, ix3 r 64 s 64 rfl, ix1 r 57 57 rfl, nI_cl (by omega), nI_cl (by omega), nI_cl (by omega), hM.2.1, hM.2.2.1]
  have p1 : vp_in (nI (r + 58 + s)) 952 := vp_in_nI (by omega) (by omega)
  refine ⟨p1, vp_in_nI (by omega) (by omega), ?_⟩
  unfold goV at h
  refine s_X8_nextOf (by omega) hr hS hW hv.2.2.1 hv.2.2.2.1 hv.2.2.2.2.1 (fun hn => ?_) (fun q hq => ?_)
  · rw [hn] at h
    refine ⟨vp_in_nI (by omega) (by omega), vp_in_nI (by omega) (by omega), fun z => absurd z (by decide), fun _ => ?_⟩
    have ew : sI I 119 (r + 57) (I 119 (r + 57) + 1) 119 (r + 70 + s) = nI v.2.2.2.1 := by rw [sI_at, if_neg (by omega)]; exact hM.2.2.2.1
    refine s_X8_wormed hr hs ew hv.2.2.2.2.2.1 ?_
    refine h _ ⟨?_, ?_, ?_, ?_, fun t ht => ?_⟩ (frS.tr (frS.w (by omega)) (frS.w (by omega))) ?_
    · rw [sI_at, if_neg (by omega), sI_at, if_neg (by omega)]; exact hM.1
    · rw [sI_at, if_neg (by omega), sI_at, if_neg (by omega)]; exact hM.2.1
    · rw [sI_at, if_neg (by omega), sI_at, if_neg (by omega)]; exact hM.2.2.1
    · rw [sI_at, if_pos ⟨rfl, rfl⟩]
    · rw [sI_at, if_neg (by omega), sI_at, if_neg (by omega)]; exact hM.2.2.2.2 t ht
    · rw [sI_at, if_neg (by omega), sI_at, if_pos ⟨rfl, rfl⟩]
  · rw [hq] at h
    obtain ⟨b1, b2, -⟩ := nxt_ok hq hW
    have hb1 := hW.1
    refine ⟨vp_in_nI (by omega) (by omega), vp_in_nI (by omega) (by omega), fun _ => ⟨p1, ?_⟩, fun z => absurd (nI_pos' (by omega)) z⟩
    refine h _ ⟨?_, ?_, ?_, ?_, fun t ht => ?_⟩ (frS.tr (frS.w (by omega)) (frS.w (by omega))) ?_
    · rw [sI_at, if_neg (by omega), sI_at, if_neg (by omega)]; exact hM.1
    · rw [sI_at, if_pos ⟨rfl, rfl⟩]
    · rw [sI_at, if_neg (by omega), sI_at, if_neg (by omega)]; exact hM.2.2.1
    · rw [sI_at, if_neg (by omega), sI_at, if_neg (by omega)]; exact hM.2.2.2.1
    · rw [sI_at, if_neg (by omega), sI_at, if_neg (by omega)]; exact hM.2.2.2.2 t ht
    · rw [sI_at, if_neg (by omega), sI_at, if_pos ⟨rfl, rfl⟩]
/-- credits(r, t, by), by +1, -2 or -1 -/
theorem s_X8_credits {r t c e : Nat} {b : Int32} {P : IT → JT → Prop} (hr : r ≤ 400) (ht : t < 4) (e1 : I 119 (r + 76 + t) = nI c) (hc : (nI c + b ≤ 9 → (0 ≤ nI c + b → nI c + b = nI e) ∧ (¬ 0 ≤ nI c + b → (0 : Int32) = nI e)) ∧ (¬ nI c + b ≤ 9 → (9 : Int32) = nI e)) (h : P (sI I 119 (r + 76 + t) (nI e)) J) : SemV g d M_X8_credits [.ref (ga g 118), .int (nI r), .int (nI t), .int b] I J P := by
  refine w_X8_credits ?_
  unfold VC_X8_credits
  rw [ix3 r 76 t 76 rfl, nI_cl (by omega), e1]
  have p1 : vp_in (nI (r + 76 + t)) 952 := vp_in_nI (by omega) (by omega)
  exact ⟨p1, fun q => ⟨fun q2 => ⟨p1, by rw [(hc.1 q).1 q2]; exact h⟩, fun q2 => ⟨p1, by rw [(hc.1 q).2 q2]; exact h⟩⟩, fun q => ⟨p1, by rw [hc.2 q]; exact h⟩⟩
theorem s_X8_settle {r s t : Nat} {F : NF} {v : Vy} {st : Bool} {P : IT → JT → Prop} (hr : r ≤ 400) (hs : s < 6) (ht : t < 4) (hM : MV I r s v) (hv : okV F v) (h : ∀ I', MV I' r s (setl v st t) → frS I I' r s → I' 119 (r + 57) = I 119 (r + 57) → P I' J) :
    ((st = false → SemV g d M_X8_credits [.ref (ga g 118), .int (nI r), .int (nI t), .int 1] I J P) ∧ (st = true → SemV g d M_X8_credits [.ref (ga g 118), .int (nI r), .int (nI t), .int (-2)] I J P)) := by
  have hc := hv.2.2.2.2.2.2 t ht
  have fin : ∀ n : Nat, n = (if st then v.2.2.2.2 t - 2 else min 9 (v.2.2.2.2 t + 1)) → P (sI I 119 (r + 76 + t) (nI n)) J := by
    intro n hn
    refine h _ ⟨?_, ?_, ?_, ?_, fun u hu => ?_⟩ (frS.w (by omega)) (by rw [sI_at, if_neg (by omega)])
    · rw [sI_at, if_neg (by omega)]; exact hM.1
    · rw [sI_at, if_neg (by omega)]; exact hM.2.1
    · rw [sI_at, if_neg (by omega)]; exact hM.2.2.1
    · rw [sI_at, if_neg (by omega)]; exact hM.2.2.2.1
    · rw [sI_at]
      show _ = nI (if u = t then (if st then v.2.2.2.2 t - 2 else min 9 (v.2.2.2.2 t + 1)) else v.2.2.2.2 u)
      by_cases e : u = t
      · rw [if_pos ⟨rfl, by omega⟩, if_pos e, hn]
      · rw [if_neg (by omega), if_neg e]; exact hM.2.2.2.2 u hu
  refine ⟨fun q => ?_, fun q => ?_⟩
  · have k1 := cP1 (v.2.2.2.2 t) (by omega)
    exact s_X8_credits hr ht (hM.2.2.2.2 t ht) ⟨fun z => ⟨fun _ => (k1.1 z).2, fun z2 => absurd (k1.1 z).1 z2⟩, k1.2⟩ (fin _ (by rw [q]; rfl))
  · have k1 := cM2 (v.2.2.2.2 t) (by omega)
    exact s_X8_credits hr ht (hM.2.2.2.2 t ht) ⟨fun _ => k1.2, fun z => absurd k1.1 z⟩ (fin _ (by rw [q]; rfl))
theorem s_X8_says {r s t w : Nat} {F : NF} {v : Vy} {P : IT → JT → Prop} (hd : 4 ≤ d) (hr : r ≤ 400) (hs : s < 6) (ht : t < 4) (hw : w < 3) (hM : MV I r s v) (hS : MSea I r F) (hW : okW F) (hv : okV F v) (h : ∀ I', MV I' r s (hearV F v t w) → frS I I' r s → I' 119 (r + 57) = I 119 (r + 57) + 1 → P I' J) : SemV g d M_X8_says [.ref (ga g 118), .int (nI r), .int (nI s), .int (nI t), .int (nI w)] I J P := by
  refine w_X8_says (by omega) ?_
  unfold VC_X8_says
  refine s_X8_believesIn (by omega) hr hs hM hv ht ⟨fun q => ?_, fun q => ?_⟩
  · unfold hearV at h
    rw [if_neg (by rw [q]; decide)] at h
    exact s_X8_goes (by omega) hr hs hM hS hW hv (fun I1 h1 h2 h3 => ⟨fun _ => h I1 h1 h2 h3, fun z => (by rw [q] at z; cases z)⟩)
  · unfold hearV at h
    rw [if_pos q] at h
    rw [ix3 r 64 s 64 rfl, nI_cl (by omega)]
    refine s_X8_turned hr hs hM.1 hM.2.2.1 hv.2.1 hv.2.2.2.2.1 hw ⟨vp_in_nI (by omega) (by omega), ?_⟩
    have hM2 : MV (sI I 119 (r + 64 + s) (nI (trn v.1 v.2.2.1 w))) r s (lookV v (trn v.1 v.2.2.1 w)) := by
      refine ⟨?_, ?_, ?_, ?_, fun t ht => ?_⟩
      · rw [sI_at, if_neg (by omega)]; exact hM.1
      · rw [sI_at, if_neg (by omega)]; exact hM.2.1
      · rw [sI_at, if_pos ⟨rfl, rfl⟩]; rfl
      · rw [sI_at, if_neg (by omega)]; exact hM.2.2.2.1
      · rw [sI_at, if_neg (by omega)]; exact hM.2.2.2.2 t ht
    have f0 : frS I (sI I 119 (r + 64 + s) (nI (trn v.1 v.2.2.1 w))) r s := frS.w (by omega)
    have hl := okV_look (l := trn v.1 v.2.2.1 w) hv (trn_lt hv.2.2.2.2.1)
    refine s_X8_goes (by omega) hr hs hM2 (f0.sea hs hS) hW hl (fun I1 h1 h2 h3 => ⟨fun z => (by rw [q] at z; cases z), fun _ => ?_⟩)
    refine s_X8_settle (F := F) hr hs ht h1 (okV_go hl hW) (fun I2 h4 h5 h6 => h I2 h4 (f0.tr (h2.tr h5)) ?_)
    rw [h6, h3, sI_at, if_neg (by omega)]
end SAYS
