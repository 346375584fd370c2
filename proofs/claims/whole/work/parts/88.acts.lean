-- ===== acts =====
def psh (A : List (Nat × NF)) (s : Nat) (F : NF) : List (Nat × NF) := ((s, F) :: A).take 24
abbrev setA (σ : ST) (A : List (Nat × NF)) : ST := (sF σ, sG0 σ, sG1 σ, A, sT σ, sS σ, sX σ)
theorem psh_len {A : List (Nat × NF)} {s : Nat} {F : NF} : (psh A s F).length = min 24 (A.length + 1) := by unfold psh; rw [List.length_take]; rfl
theorem psh_at {A : List (Nat × NF)} {s : Nat} {F : NF} {i s' : Nat} {F' : NF} (h : (psh A s F)[i]? = some (s', F')) : i < 24 ∧ ((i = 0 ∧ s' = s ∧ F' = F) ∨ ∃ k, i = k + 1 ∧ A[k]? = some (s', F')) := by
  unfold psh at h
  rw [List.getElem?_take] at h
  split at h
  · rename_i hi
    refine ⟨hi, ?_⟩
    cases i with
    | zero => simp at h; exact Or.inl ⟨rfl, h.1.symm, h.2.symm⟩
    | succ k => simp at h; exact Or.inr ⟨k, rfl, h⟩
  · cases h
theorem okA_take {G : NF} : ∀ {A : List (Nat × NF)} (n : Nat), okA G A → okA G (A.take n) := by
  intro A
  induction A generalizing G with
  | nil => intro n h; simp; exact h
  | cons a l ih =>
    intro n h
    cases n with
    | zero => simp [okA]
    | succ n =>
      obtain ⟨s, F⟩ := a
      rw [List.take_succ_cons]
      exact ⟨h.1, h.2.1, ih n h.2.2⟩
theorem psh_ok {σ : ST} {s : Nat} {F' : NF} (hk : okT σ) (hF : okF F') (ha : actR s (sF σ) F') : okT (F', sG0 σ, sG1 σ, psh (sA σ) s (sF σ), sT σ, sS σ, sX σ) := by
  obtain ⟨a, b, c, e, f, k, l, m⟩ := hk
  refine ⟨hF, b, c, ?_, ?_, k, l, m⟩
  · show (psh (sA σ) s (sF σ)).length ≤ 24
    rw [psh_len]; omega
  · show okA F' (psh (sA σ) s (sF σ))
    unfold psh
    rw [List.take_succ_cons]
    exact ⟨a, ha, okA_take 23 f⟩
theorem mn24 : ∀ n, n < 26 → (if nI n < 24 then nI n else 24) = nI (min 24 n) := by decide +kernel
section ACT
variable {g : GT} {d : Nat} {I : IT} {J : JT}
theorem s_X6_board {o p s : Nat} {F : NF} {P : IT → JT → Prop} (hd : 1 ≤ d) (ho : isV o) (hp : isF p) (hop : p + 7 < o) (hC : FlC I p F) (hF : okF F) (hs : s < F 0) (h : ∀ I', CV I' o (shipOf F s) → (∀ a, a ≠ o → a ≠ o + 1 → I' a = I a) → P I' J) : SemV g d M_X6_board [.ref (ga g o), .ref (ga g p), .int (nI s)] I J P := by
  refine w_X6_board ho hp hd ?_
  unfold VC_X6_board
  have h6 := hF.1
  have hv : vp_in (nI s) 6 := vp_in_nI (by omega) (by omega)
  obtain ⟨b1, b2, b3, b4⟩ := hC.2.2.2.2.1 s hs
  rw [nI_cl (by omega)]
  refine ⟨hv, hv, hv, hv, h _ ⟨?_, ?_, ?_, ?_, fun t ht => ?_⟩ (fun a h1 h2 => ?_)⟩
  · rw [cI_ne (by omega), sI_at, if_neg (by omega), sI_at, if_neg (by omega), sI_at, if_neg (by omega), sI_at, if_pos ⟨rfl, rfl⟩]; exact b1
  · rw [cI_ne (by omega), sI_at, if_neg (by omega), sI_at, if_neg (by omega), sI_at, if_pos ⟨rfl, rfl⟩, sI_ne (by omega)]; exact b2
  · rw [cI_ne (by omega), sI_at, if_neg (by omega), sI_at, if_pos ⟨rfl, rfl⟩, sI_ne (by omega), sI_ne (by omega)]; exact b3
  · rw [cI_ne (by omega), sI_at, if_pos ⟨rfl, rfl⟩, sI_ne (by omega), sI_ne (by omega), sI_ne (by omega)]; exact b4
  · rw [cI_at, if_pos rfl, cp0, if_pos ht, sI_ne (by omega), sI_ne (by omega), sI_ne (by omega), sI_ne (by omega)]; exact hC.2.2.2.2.2.1 t ht
  · rw [cI_ne h2, sI_ne h1, sI_ne h1, sI_ne h1, sI_ne h1]
theorem s_X0_keep {s : Nat} {F : NF} {A : List (Nat × NF)} {P : IT → JT → Prop} (hd : 2 ≤ d) (hA : RcA I A) (hl : A.length ≤ 24) (hC : FlC I 3 F) (hF : okF F) (hs : s < F 0) (h : ∀ I', RcA I' (psh A s F) → (∀ a, (a < 20 ∨ 71 < a) → I' a = I a) → P I' J) : SemV g d M_X0_keep [.ref (ga g 20), .ref (ga g 3), .int (nI s)] I J P := by
  refine w_X0_keep isF_3 (by omega) ?_
  unfold VC_X0_keep
  obtain ⟨h1, p, hp, h2, h3⟩ := hA
  have h6 := hF.1
  rw [h2, nI_cl (by omega)]
  refine ⟨vp_in_nI hp (by omega), s_X6_board (by omega) (isV_21 p hp) isF_3 (by omega) hC hF hs (fun I1 a1 a2 => ?_)⟩
  have e20 : I1 20 = I 20 := a2 20 (by omega) (by omega)
  have e4 : ∀ (x : Int32) (k : Nat), sI I1 22 k x 20 4 = nI p := fun x k => by rw [sI_ne (by omega), e20]; exact h2
  rw [e20, h2, nI_cl (by omega), e4, nI_cl (by omega)]
  have e7 : sI I1 22 p (nI s) 3 7 = nI (F 57) := by rw [sI_ne (by omega), a2 3 (by omega) (by omega)]; exact hC.2.2.2.2.2.2
  rw [e7]
  have e5 : sI (sI I1 22 p (nI s)) 23 p (nI (F 57)) 20 4 = nI p := by rw [sI_ne (by omega), e4]
  rw [e5, nI_one]
  have e24 : nI (p + 1) - nI (p + 1) / 24 * 24 = nI ((p + 1) % 24) := pk_rem (d := 24) (by omega) (by omega) (by omega)
  rw [e24]
  have e3 : sI (sI (sI I1 22 p (nI s)) 23 p (nI (F 57))) 20 4 (nI ((p + 1) % 24)) 20 3 = nI A.length := by rw [sI_at, if_neg (by omega), sI_ne (by omega), sI_ne (by omega), e20]; exact h1
  rw [e3, nI_one]
  have em := mn24 (A.length + 1) (by omega)
  refine ⟨vp_in_nI hp (by omega), vp_in_nI hp (by omega), ?_⟩
  rw [em]
  refine h _ ⟨?_, (p + 1) % 24, by omega, ?_, fun i s' F' hi => ?_⟩ (fun a ha => ?_)
  · rw [sI_at, if_pos ⟨rfl, rfl⟩, psh_len]
  · rw [sI_at, if_neg (by omega), sI_at, if_pos ⟨rfl, rfl⟩]
  · obtain ⟨hi24, hi⟩ := psh_at hi
    rcases hi with ⟨rfl, rfl, rfl⟩ | ⟨k, rfl, hk⟩
    · rw [show ((p + 1) % 24 + 23 - 0) % 24 = p from by omega]
      refine ⟨?_, ?_, a1.cg ?_ ?_⟩
      · rw [sI_ne (by omega), sI_ne (by omega), sI_ne (by omega), sI_at, if_pos ⟨rfl, rfl⟩]
      · rw [sI_ne (by omega), sI_ne (by omega), sI_at, if_pos ⟨rfl, rfl⟩]
      · rw [sI_ne (by omega), sI_ne (by omega), sI_ne (by omega), sI_ne (by omega)]
      · rw [sI_ne (by omega), sI_ne (by omega), sI_ne (by omega), sI_ne (by omega)]
    · obtain ⟨c1, c2, c3⟩ := h3 k s' F' hk
      rw [show ((p + 1) % 24 + 23 - (k + 1)) % 24 = (p + 23 - k) % 24 from by omega]
      have hm : (p + 23 - k) % 24 < 24 := Nat.mod_lt _ (by omega)
      have hne : (p + 23 - k) % 24 ≠ p := by omega
      generalize (p + 23 - k) % 24 = m at c1 c2 c3 hm hne
      refine ⟨?_, ?_, c3.cg ?_ ?_⟩
      · rw [sI_ne (by omega), sI_ne (by omega), sI_ne (by omega), sI_at, if_neg (by omega), a2 22 (by omega) (by omega)]; exact c1
      · rw [sI_ne (by omega), sI_ne (by omega), sI_at, if_neg (by omega), sI_ne (by omega), a2 23 (by omega) (by omega)]; exact c2
      · rw [sI_ne (by omega), sI_ne (by omega), sI_ne (by omega), sI_ne (by omega), a2 _ (by omega) (by omega)]
      · rw [sI_ne (by omega), sI_ne (by omega), sI_ne (by omega), sI_ne (by omega), a2 _ (by omega) (by omega)]
  · rw [sI_ne (by omega), sI_ne (by omega), sI_ne (by omega), sI_ne (by omega), a2 a (by omega) (by omega)]
end ACT
