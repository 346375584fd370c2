theorem s_X8_minds {g : GT} {d : Nat} {I : IT} {J : JT} {s : Nat} {F : NF} {A : List (Nat × NF)} {P : IT → JT → Prop} (hd : 1 ≤ d) (hA : RmA I A) (hl : A.length ≤ 24) (hM : MF I 0 F) (h : ∀ I', RmA I' (psh A s F) → (∀ a, a ≠ 118 → a ≠ 119 → I' a = I a) → (∀ j, j < 400 → I' 119 j = I 119 j) → (∀ j, j ≠ 1 → I' 118 j = I 118 j) → P I' J) : SemV g d M_X8_minds [.ref (ga g 118)] I J P := by
  refine w_X8_minds hd ?_
  unfold VC_X8_minds
  obtain ⟨h1, h2⟩ := hA
  rw [h1]
  have lt_of : ∀ {k s' : Nat} {F' : NF}, A[k]? = some (s', F') → k < A.length := fun q => (List.getElem?_eq_some_iff.mp q).1
  refine ⟨fun q => ?_, fun q => ?_⟩
  · have hn : A.length < 24 := by
      rcases Nat.lt_or_ge A.length 24 with z | z
      · exact z
      · exact absurd (by rw [show A.length = 24 from by omega]; rfl) q
    rw [show (400 : Int32) + 23 * nI A.length = nI (400 + 23 * A.length) from by rw [show (23 : Int32) = nI 23 from rfl, pk_mul, show (400 : Int32) = nI 400 from rfl, nI_add]]
    refine s_X8_bring (a := 57) (n := 23) (by omega) (by omega) (Or.inr (by omega)) ?_
    rw [brg_ne (by omega), h1, nI_one]
    refine h _ ⟨?_, fun i s' F' hi j hj => ?_⟩ (fun a h3 h4 => by rw [sI_ne h3, brg_ne h4]) (fun j hj => by rw [sI_ne (by omega), brg_at, if_neg (by omega)]) (fun j hj => by rw [sI_at, if_neg (by omega), brg_ne (by omega)])
    · rw [sI_at, if_pos ⟨rfl, rfl⟩, psh_len, show min 24 (A.length + 1) = A.length + 1 from by omega]
    · rw [psh_len, show min 24 (A.length + 1) = A.length + 1 from by omega, sI_ne (by omega), brg_at]
      obtain ⟨hi24, hi⟩ := psh_at hi
      rcases hi with ⟨rfl, rfl, rfl⟩ | ⟨k, rfl, hk⟩
      · rw [if_pos (by omega), show 57 + (400 + 23 * (A.length + 1 - 1 - 0) + j - (400 + 23 * A.length)) = 57 + j from by omega]
        exact hM.a0 (57 + j) (by omega)
      · have := lt_of hk
        rw [if_neg (by omega), show 400 + 23 * (A.length + 1 - 1 - (k + 1)) + j = 400 + 23 * (A.length - 1 - k) + j from by omega]
        exact h2 k s' F' hk j hj
  · have hn : A.length = 24 := (nI_eq (b := 24) (by omega) (by omega)).mp q
    refine s_X8_bring (a := 423) (b := 400) (n := 529) (by omega) (by omega) (Or.inl (by omega)) ?_
    have e1 : brg I 423 400 529 118 1 - 1 = nI 23 := by rw [brg_ne (by omega), h1, hn]; rfl
    rw [e1]
    have e2 : sI (brg I 423 400 529) 118 1 (nI 23) 118 1 = nI 23 := by rw [sI_at, if_pos ⟨rfl, rfl⟩]
    rw [e2]
    rw [show (400 : Int32) + 23 * nI 23 = nI 929 from by decide +kernel]
    refine s_X8_bring (a := 57) (b := 929) (n := 23) (by omega) (by omega) (Or.inr (by omega)) ?_
    have e3 : brg (sI (brg I 423 400 529) 118 1 (nI 23)) 57 929 23 118 1 + 1 = nI 24 := by rw [brg_ne (by omega), e2]; rfl
    rw [e3]
    refine h _ ⟨?_, fun i s' F' hi j hj => ?_⟩ (fun a h3 h4 => by rw [sI_ne h3, brg_ne h4, sI_ne h3, brg_ne h4]) (fun j hj => by rw [sI_ne (by omega), brg_at, if_neg (by omega), sI_ne (by omega), brg_at, if_neg (by omega)]) (fun j hj => by rw [sI_at, if_neg (by omega), brg_ne (by omega), sI_at, if_neg (by omega), brg_ne (by omega)])
    · rw [sI_at, if_pos ⟨rfl, rfl⟩, psh_len, hn]; rfl
    · rw [psh_len, hn, show min 24 (24 + 1) = 24 from rfl, sI_ne (by omega), brg_at]
      obtain ⟨hi24, hi⟩ := psh_at hi
      rcases hi with ⟨rfl, rfl, rfl⟩ | ⟨k, rfl, hk⟩
      · rw [if_pos (by omega), sI_ne (by omega), brg_at, if_neg (by omega), show 57 + (400 + 23 * (24 - 1 - 0) + j - 929) = 57 + j from by omega]
        exact hM.a0 (57 + j) (by omega)
      · rw [if_neg (by omega), sI_ne (by omega), brg_at, if_pos (by omega), show 423 + (400 + 23 * (24 - 1 - (k + 1)) + j - 400) = 400 + 23 * (A.length - 1 - k) + j from by omega]
        exact h2 k s' F' hk j hj
-- a ship put back
def putS (F : NF) (s : Nat) (v : Vy) : NF := fun j => if j = 58 + s then v.2.1 else if j = 64 + s then v.2.2.1 else if j = 70 + s then v.2.2.2.1 else if 76 ≤ j ∧ j < 80 then v.2.2.2.2 (j - 76) else F j
def tick (F : NF) : NF := fun j => if j = 57 then F 57 + 1 else F j
theorem putS_lo {F : NF} {s j : Nat} {v : Vy} (h : j < 58) : putS F s v j = F j := by unfold putS; rw [if_neg (by omega), if_neg (by omega), if_neg (by omega), if_neg (by omega)]
theorem putS_c {F : NF} {s u : Nat} {v : Vy} (hs : s < 6) (hu : u < 6) : putS F s v (58 + u) = if u = s then v.2.1 else F (58 + u) := by
  unfold putS
  by_cases e : u = s
  · rw [if_pos (by omega), if_pos e]
  · rw [if_neg (by omega), if_neg (by omega), if_neg (by omega), if_neg (by omega), if_neg e]
theorem putS_l {F : NF} {s u : Nat} {v : Vy} (hs : s < 6) (hu : u < 6) : putS F s v (64 + u) = if u = s then v.2.2.1 else F (64 + u) := by
  unfold putS
  by_cases e : u = s
  · rw [if_neg (by omega), if_pos (by omega), if_pos e]
  · rw [if_neg (by omega), if_neg (by omega), if_neg (by omega), if_neg (by omega), if_neg e]
theorem putS_w {F : NF} {s u : Nat} {v : Vy} (hs : s < 6) (hu : u < 6) : putS F s v (70 + u) = if u = s then v.2.2.2.1 else F (70 + u) := by
  unfold putS
  by_cases e : u = s
  · rw [if_neg (by omega), if_neg (by omega), if_pos (by omega), if_pos e]
  · rw [if_neg (by omega), if_neg (by omega), if_neg (by omega), if_neg (by omega), if_neg e]
theorem putS_t {F : NF} {s t : Nat} {v : Vy} (hs : s < 6) (ht : t < 4) : putS F s v (76 + t) = v.2.2.2.2 t := by
  unfold putS
  rw [if_neg (by omega), if_neg (by omega), if_neg (by omega), if_pos (by omega), Nat.add_sub_cancel_left]
theorem tick_ne {F : NF} {j : Nat} (h : j ≠ 57) : tick F j = F j := by unfold tick; rw [if_neg h]
theorem tick_57 {F : NF} : tick F 57 = F 57 + 1 := by unfold tick; rw [if_pos rfl]
theorem okF_put {F : NF} {s : Nat} {v : Vy} (hF : okF F) (hs : s < F 0) (hv : okV F v) : okF (putS F s v) := by
  have h6 := hF.1
  obtain ⟨a, b, c, e, f, k, l, m⟩ := hF
  refine ⟨?_, ?_, ?_, ?_, fun t ht => ?_, fun u hu => ?_, fun c hc => ?_, fun z => ?_⟩
  · rw [putS_lo (by omega)]; exact a
  · rw [putS_lo (by omega)]; exact b
  · rw [putS_lo (by omega)]; exact c
  · rw [putS_lo (by omega)]; exact e
  · rw [putS_t (by omega) ht]; exact hv.2.2.2.2.2.2 t ht
  · rw [putS_lo (by omega)] at hu
    obtain ⟨k1, k2, k3, k4, k5, k6⟩ := k u hu
    unfold okS
    rw [putS_c (by omega) (by omega), putS_l (by omega) (by omega), putS_w (by omega) (by omega), putS_lo (j := 51 + u) (by omega), putS_lo (j := 1) (by omega), putS_lo (j := 2) (by omega)]
    by_cases q : u = s
    · rw [if_pos q, if_pos q, if_pos q]
      exact ⟨k1, k2, hv.2.2.1, hv.2.2.2.1, hv.2.2.2.2.1, hv.2.2.2.2.2.1⟩
    · rw [if_neg q, if_neg q, if_neg q]
      exact ⟨k1, k2, k3, k4, k5, k6⟩
  · rw [putS_lo (by omega)]; exact l c hc
  · rw [putS_lo (by omega)] at z; omega
theorem okF_tick {F : NF} (hF : okF F) (h0 : 0 < F 0) (h : F 57 < 9999) : okF (tick F) := by
  obtain ⟨a, b, c, e, f, k, l, m⟩ := hF
  refine ⟨?_, ?_, ?_, ?_, fun t ht => ?_, fun u hu => ?_, fun c hc => ?_, fun z => ?_⟩
  · rw [tick_ne (by omega)]; exact a
  · rw [tick_ne (by omega)]; exact b
  · rw [tick_ne (by omega)]; exact c
  · rw [tick_57]; omega
  · rw [tick_ne (by omega)]; exact f t ht
  · rw [tick_ne (by omega)] at hu
    have := k u hu
    unfold okS at this ⊢
    rw [tick_ne (by omega), tick_ne (by omega), tick_ne (by omega), tick_ne (by omega), tick_ne (by omega), tick_ne (by omega)]
    exact this
  · rw [tick_ne (by omega)]; exact l c hc
  · rw [tick_ne (by omega)] at z; omega
theorem actR_put {F : NF} {s : Nat} {v : Vy} (hs : s < F 0) : actR s F (tick (putS F s v)) := by
  refine ⟨hs, fun j hj h1 h2 h3 h4 h5 => ?_⟩
  rw [tick_ne h1]
  unfold putS
  rw [if_neg h2, if_neg h3, if_neg h4, if_neg (by omega)]
section ACB
variable {g : GT} {d : Nat} {I : IT} {J : JT}
theorem s_X6_land {o p s : Nat} {F : NF} {v : Vy} {P : IT → JT → Prop} (hd : 1 ≤ d) (ho : isV o) (hp : isF p) (hop : p + 7 < o) (hC : FlC I p F) (hF : okF F) (hs : s < F 0) (hV : CV I o v) (hk : v.1 = F (51 + s)) (h : ∀ I', FlC I' p (putS F s v) → (∀ a, (a < p ∨ p + 7 < a) → I' a = I a) → P I' J) : SemV g d M_X6_land [.ref (ga g o), .ref (ga g p), .int (nI s)] I J P := by
  refine w_X6_land ho hp hd ?_
  unfold VC_X6_land
  have h6 := hF.1
  have hv : vp_in (nI s) 6 := vp_in_nI (by omega) (by omega)
  rw [nI_cl (by omega)]
  obtain ⟨b1, b2, b3, b4, b5, b6, b7⟩ := hC
  rw [sI_ne (show o ≠ p + 3 by omega), sI_ne (show o ≠ p + 4 by omega), sI_ne (show o ≠ p + 3 by omega), sI_ne (show o ≠ p + 5 by omega), sI_ne (show o ≠ p + 4 by omega), sI_ne (show o ≠ p + 3 by omega), hV.1, hV.2.1, hV.2.2.1, hV.2.2.2.1, hk]
  refine ⟨hv, hv, hv, hv, h _ ⟨?_, ?_, ?_, fun c h1 h2 => ?_, fun u hu => ?_, fun t ht => ?_, ?_⟩ (fun a ha => ?_)⟩
  · rw [putS_lo (by omega), cI_ne (by omega), sI_ne (by omega), sI_ne (by omega), sI_ne (by omega), sI_ne (by omega)]; exact b1
  · rw [putS_lo (by omega), cI_ne (by omega), sI_ne (by omega), sI_ne (by omega), sI_ne (by omega), sI_ne (by omega)]; exact b2
  · rw [putS_lo (by omega), cI_ne (by omega), sI_ne (by omega), sI_ne (by omega), sI_ne (by omega), sI_ne (by omega)]; exact b3
  · rw [putS_lo (by omega)] at h1 h2
    have hW := hF.W.1
    rw [putS_lo (by omega), cI_ne (by omega), sI_ne (by omega), sI_ne (by omega), sI_ne (by omega), sI_ne (by omega)]; exact b4 c h1 h2
  · rw [putS_lo (by omega)] at hu
    obtain ⟨k1, k2, k3, k4⟩ := b5 u hu
    rw [putS_lo (by omega), putS_c (by omega) (by omega), putS_l (by omega) (by omega), putS_w (by omega) (by omega)]
    refine ⟨?_, ?_, ?_, ?_⟩
    · rw [cI_ne (by omega), sI_ne (by omega), sI_ne (by omega), sI_ne (by omega), sI_at]
      by_cases q : u = s
      · rw [if_pos ⟨rfl, q⟩, q]
      · rw [if_neg (by omega)]; exact k1
    · rw [cI_ne (by omega), sI_ne (by omega), sI_ne (by omega), sI_at]
      by_cases q : u = s
      · rw [if_pos ⟨rfl, q⟩, if_pos q]
      · rw [if_neg (by omega), if_neg q, sI_ne (by omega)]; exact k2
    · rw [cI_ne (by omega), sI_ne (by omega), sI_at]
      by_cases q : u = s
      · rw [if_pos ⟨rfl, q⟩, if_pos q]
      · rw [if_neg (by omega), if_neg q, sI_ne (by omega), sI_ne (by omega)]; exact k3
    · rw [cI_ne (by omega), sI_at]
      by_cases q : u = s
      · rw [if_pos ⟨rfl, q⟩, if_pos q]
      · rw [if_neg (by omega), if_neg q, sI_ne (by omega), sI_ne (by omega), sI_ne (by omega)]; exact k4
  · rw [putS_t (by omega) ht, cI_at, if_pos rfl, cp0, if_pos ht, sI_ne (by omega), sI_ne (by omega), sI_ne (by omega), sI_ne (by omega)]; exact hV.2.2.2.2 t ht
  · rw [putS_lo (by omega), cI_ne (by omega), sI_ne (by omega), sI_ne (by omega), sI_ne (by omega), sI_ne (by omega)]; exact b7
  · rw [cI_ne (by omega), sI_ne (by omega), sI_ne (by omega), sI_ne (by omega), sI_ne (by omega)]
theorem s_X7_arrive {s : Nat} {F : NF} {v : Vy} {P : Int32 → IT → JT → Prop} (hd : 2 ≤ d) (hC : FlC I 3 F) (hF : okF F) (hs : s < F 0) (hV : CV I 96 v) (hk : v.1 = F (51 + s)) (h : ∀ I', FlC I' 3 (tick (putS F s v)) → (∀ a, (a < 3 ∨ 10 < a) → I' a = I a) → P (nI v.2.1) I' J) : SemI g d M_X7_arrive [.ref (ga g 0), .int (nI s), .ref (ga g 96)] I J P := by
  refine w_X7_arrive isV_96 (by omega) ?_
  unfold VC_X7_arrive
  refine s_X6_land (by omega) isV_96 isF_3 (by omega) hC hF hs hV hk (fun I1 a1 a2 => ?_)
  rw [sI_ne (a := 96) (by omega), a2 96 (by omega), hV.2.1]
  refine h _ ?_ (fun a ha => by rw [sI_ne (by omega), a2 a (by omega)])
  have h57 : F 57 ≤ 9999 := hF.2.2.2.1
  have e7 := a1.2.2.2.2.2.2
  rw [putS_lo (by omega)] at e7
  obtain ⟨b1, b2, b3, b4, b5, b6, b7⟩ := a1
  rw [e7, nI_one]
  refine ⟨?_, ?_, ?_, fun c h1 h2 => ?_, fun u hu => ?_, fun t ht => ?_, ?_⟩
  · rw [tick_ne (by omega), sI_at, if_neg (by omega)]; exact b1
  · rw [tick_ne (by omega), sI_ne (by omega)]; exact b2
  · rw [tick_ne (by omega), sI_ne (by omega)]; exact b3
  · rw [tick_ne (by omega)] at h1 h2
    have hW := hF.W.1
    rw [putS_lo (by omega)] at h1
    rw [tick_ne (by omega), sI_ne (by omega)]
    exact b4 c (by rw [putS_lo (by omega)]; exact h1) h2
  · rw [tick_ne (by omega)] at hu
    have hu' : u < F 0 := by rw [putS_lo (by omega)] at hu; exact hu
    have h6 := hF.1
    rw [tick_ne (by omega), tick_ne (by omega), tick_ne (by omega), tick_ne (by omega), sI_ne (by omega), sI_ne (by omega), sI_ne (by omega), sI_ne (by omega)]
    exact b5 u hu
  · rw [tick_ne (by omega), sI_ne (by omega)]; exact b6 t ht
  · rw [tick_57, sI_at, if_pos ⟨rfl, rfl⟩, putS_lo (by omega)]
end ACB
