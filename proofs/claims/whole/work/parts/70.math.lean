-- ===== the mathematics: a state, and what class and reference hold of it =====
abbrev NF : Type := Nat → Nat
/-- fleet, two images, the acts (newest first: ship, the fleet ahead of it), the tape (how many, which), the sheets (there, lane, length), their items -/
abbrev ST : Type := NF × NF × NF × List (Nat × NF) × (Nat × NF) × (Nat → Bool × Nat × Nat) × (Nat → Nat → Int64)
abbrev sF (σ : ST) : NF := σ.1
abbrev sG0 (σ : ST) : NF := σ.2.1
abbrev sG1 (σ : ST) : NF := σ.2.2.1
abbrev sA (σ : ST) : List (Nat × NF) := σ.2.2.2.1
abbrev sT (σ : ST) : Nat × NF := σ.2.2.2.2.1
abbrev sS (σ : ST) : Nat → Bool × Nat × Nat := σ.2.2.2.2.2.1
abbrev sX (σ : ST) : Nat → Nat → Int64 := σ.2.2.2.2.2.2
-- a ship with the tellers' credit: kind, cell, looking, worm, credit
abbrev Vy : Type := Nat × Nat × Nat × Nat × NF
def shipOf (F : NF) (s : Nat) : Vy := (F (51 + s), F (58 + s), F (64 + s), F (70 + s), fun t => F (76 + t))
-- the class' fleet at o, the reference's at r, the class' voyage at o
def FlC (I : IT) (o : Nat) (F : NF) : Prop :=
  I o 6 = nI (F 0) ∧ I (o + 1) 1 = nI (F 1) ∧ I (o + 1) 2 = nI (F 2) ∧ (∀ c, c / 8 < F 1 → c % 8 < F 2 → I (o + 2) c = nI (F (3 + c))) ∧
  (∀ s, s < F 0 → I (o + 3) s = nI (F (51 + s)) ∧ I (o + 4) s = nI (F (58 + s)) ∧ I (o + 5) s = nI (F (64 + s)) ∧ I (o + 6) s = nI (F (70 + s))) ∧
  (∀ t, t < 4 → I (o + 7) t = nI (F (76 + t))) ∧ I o 7 = nI (F 57)
def MF (I : IT) (r : Nat) (F : NF) : Prop := ∀ j, j < 80 → I 119 (r + j) = nI (F j)
def CV (I : IT) (o : Nat) (v : Vy) : Prop := I o 2 = nI v.1 ∧ I o 3 = nI v.2.1 ∧ I o 4 = nI v.2.2.1 ∧ I o 5 = nI v.2.2.2.1 ∧ ∀ t, t < 4 → I (o + 1) t = nI (v.2.2.2.2 t)
def okS (F : NF) (s : Nat) : Prop := 1 ≤ F (51 + s) ∧ F (51 + s) ≤ 5 ∧ F (58 + s) / 8 < F 1 ∧ F (58 + s) % 8 < F 2 ∧ F (64 + s) < 4 ∧ F (70 + s) ≤ 5
def okF (F : NF) : Prop := F 0 ≤ 6 ∧ F 1 ≤ 6 ∧ F 2 ≤ 8 ∧ F 57 ≤ 9999 ∧ (∀ t, t < 4 → F (76 + t) ≤ 9) ∧ (∀ s, s < F 0 → okS F s) ∧ (∀ c, c < 48 → F (3 + c) ≤ 2) ∧ (F 0 = 0 → ∀ j, j < 80 → F j = 0)
/-- G came out of F by an act of ship s -/
def actR (s : Nat) (F G : NF) : Prop := s < F 0 ∧ ∀ j, j < 80 → j ≠ 57 → j ≠ 58 + s → j ≠ 64 + s → j ≠ 70 + s → (j < 76) → G j = F j
def okA (G : NF) : List (Nat × NF) → Prop
  | [] => True
  | (s, F) :: l => okF F ∧ actR s F G ∧ okA F l
def okT (σ : ST) : Prop := okF (sF σ) ∧ okF (sG0 σ) ∧ okF (sG1 σ) ∧ (sA σ).length ≤ 24 ∧ okA (sF σ) (sA σ) ∧ (sT σ).1 ≤ 130 ∧ (∀ j, j < (sT σ).1 → (sT σ).2 j < 256) ∧ ∀ k, k < 4 → (sS σ k).2.1 < 4 ∧ (sS σ k).2.2 ≤ 24
def RcT (I : IT) (T : Nat × NF) : Prop := I 1 1 = nI T.1 ∧ ∀ j, j < T.1 → I 2 j = nI (T.2 j)
def RcA (I : IT) (A : List (Nat × NF)) : Prop := I 20 3 = nI A.length ∧ ∃ p, p < 24 ∧ I 20 4 = nI p ∧ ∀ i s F, A[i]? = some (s, F) → I 22 ((p + 23 - i) % 24) = nI s ∧ I 23 ((p + 23 - i) % 24) = nI (F 57) ∧ CV I (24 + 2 * ((p + 23 - i) % 24)) (shipOf F s)
def RcS (I : IT) (J : JT) (S : Nat → Bool × Nat × Nat) (X : Nat → Nat → Int64) : Prop := ∀ k, k < 4 → I (110 + 2 * k) 1 = bI (S k).1 ∧ I (110 + 2 * k) 2 = nI (S k).2.1 ∧ I (110 + 2 * k) 3 = nI (S k).2.2 ∧ ∀ i, i < 24 → J (111 + 2 * k) i = X k i
def RelC (I : IT) (J : JT) (σ : ST) : Prop := RcT I (sT σ) ∧ FlC I 3 (sF σ) ∧ FlC I 80 (sG0 σ) ∧ FlC I 88 (sG1 σ) ∧ RcA I (sA σ) ∧ RcS I J (sS σ) (sX σ)
def RmT (I : IT) (T : Nat × NF) : Prop := I 118 3 = nI T.1 ∧ ∀ j, j < T.1 → I 120 j = nI (T.2 j)
def RmA (I : IT) (A : List (Nat × NF)) : Prop := I 118 1 = nI A.length ∧ ∀ i s F, A[i]? = some (s, F) → ∀ j, j < 23 → I 119 (400 + 23 * (A.length - 1 - i) + j) = nI (F (57 + j))
def RmS (I : IT) (J : JT) (S : Nat → Bool × Nat × Nat) (X : Nat → Nat → Int64) : Prop := ∀ k, k < 4 → I 122 k = (if (S k).1 then nI (S k).2.2 else -1) ∧ I 123 k = nI (S k).2.1 ∧ ∀ i, i < 24 → J 121 (24 * k + i) = X k i
def RelM (I : IT) (J : JT) (σ : ST) : Prop := RmT I (sT σ) ∧ MF I 0 (sF σ) ∧ MF I 80 (sG0 σ) ∧ MF I 160 (sG1 σ) ∧ RmA I (sA σ) ∧ RmS I J (sS σ) (sX σ)
def Rel (I : IT) (J : JT) : Prop := ∃ σ, okT σ ∧ RelC I J σ ∧ RelM I J σ
-- frames: the other side's cells stay
def smM (I : IT) (J : JT) (I' : IT) (J' : JT) : Prop := (∀ a, 118 ≤ a → I' a = I a) ∧ ∀ a, 118 ≤ a → J' a = J a
def smC (I : IT) (J : JT) (I' : IT) (J' : JT) : Prop := (∀ a, a < 118 → I' a = I a) ∧ ∀ a, a < 118 → J' a = J a
theorem smM.rf {I : IT} {J : JT} : smM I J I J := ⟨fun _ _ => rfl, fun _ _ => rfl⟩
theorem smC.rf {I : IT} {J : JT} : smC I J I J := ⟨fun _ _ => rfl, fun _ _ => rfl⟩
theorem smM.tr {I I1 I2 : IT} {J J1 J2 : JT} (h : smM I J I1 J1) (h2 : smM I1 J1 I2 J2) : smM I J I2 J2 := ⟨fun a ha => (h2.1 a ha).trans (h.1 a ha), fun a ha => (h2.2 a ha).trans (h.2 a ha)⟩
theorem smC.tr {I I1 I2 : IT} {J J1 J2 : JT} (h : smC I J I1 J1) (h2 : smC I1 J1 I2 J2) : smC I J I2 J2 := ⟨fun a ha => (h2.1 a ha).trans (h.1 a ha), fun a ha => (h2.2 a ha).trans (h.2 a ha)⟩
theorem FlC.cg {I I' : IT} {o : Nat} {F : NF} (h : FlC I o F) (e : ∀ a, o ≤ a → a ≤ o + 7 → I' a = I a) : FlC I' o F := by
  unfold FlC at h ⊢
  rw [e o (by omega) (by omega), e (o + 1) (by omega) (by omega), e (o + 2) (by omega) (by omega), e (o + 3) (by omega) (by omega), e (o + 4) (by omega) (by omega), e (o + 5) (by omega) (by omega), e (o + 6) (by omega) (by omega), e (o + 7) (by omega) (by omega)]
  exact h
theorem CV.cg {I I' : IT} {o : Nat} {v : Vy} (h : CV I o v) (e : I' o = I o) (e2 : I' (o + 1) = I (o + 1)) : CV I' o v := by
  unfold CV at h ⊢; rw [e, e2]; exact h
theorem RcA.cg {I I' : IT} {A : List (Nat × NF)} (h : RcA I A) (e : ∀ a, 20 ≤ a → a ≤ 71 → I' a = I a) : RcA I' A := by
  obtain ⟨h1, p, hp, h2, h3⟩ := h
  refine ⟨by rw [e 20 (by omega) (by omega)]; exact h1, p, hp, by rw [e 20 (by omega) (by omega)]; exact h2, fun i s F hi => ?_⟩
  obtain ⟨a1, a2, a3⟩ := h3 i s F hi
  have hm : (p + 23 - i) % 24 < 24 := Nat.mod_lt _ (by omega)
  refine ⟨by rw [e 22 (by omega) (by omega)]; exact a1, by rw [e 23 (by omega) (by omega)]; exact a2, a3.cg (e _ (by omega) (by omega)) (e _ (by omega) (by omega))⟩
theorem RcS.cg {I I' : IT} {J J' : JT} {S : Nat → Bool × Nat × Nat} {X : Nat → Nat → Int64} (h : RcS I J S X) (e : ∀ a, 110 ≤ a → a ≤ 117 → I' a = I a) (e2 : ∀ a, 110 ≤ a → a ≤ 117 → J' a = J a) : RcS I' J' S X := by
  intro k hk
  obtain ⟨h1, h2, h3, h4⟩ := h k hk
  rw [e _ (by omega) (by omega), e2 _ (by omega) (by omega)]
  exact ⟨h1, h2, h3, h4⟩
theorem RelC.cg {I I' : IT} {J J' : JT} {σ : ST} (h : RelC I J σ) (e : smC I J I' J') : RelC I' J' σ := by
  obtain ⟨h1, h2, h3, h4, h5, h6⟩ := h
  refine ⟨?_, h2.cg (fun a _ _ => e.1 a (by omega)), h3.cg (fun a _ _ => e.1 a (by omega)), h4.cg (fun a _ _ => e.1 a (by omega)), h5.cg (fun a _ _ => e.1 a (by omega)), h6.cg (fun a _ _ => e.1 a (by omega)) (fun a _ _ => e.2 a (by omega))⟩
  unfold RcT; rw [e.1 1 (by omega), e.1 2 (by omega)]; exact h1
theorem RelM.cg {I I' : IT} {J J' : JT} {σ : ST} (h : RelM I J σ) (e : smM I J I' J') : RelM I' J' σ := by
  unfold RelM RmT MF RmA RmS at h ⊢
  rw [e.1 118 (by omega), e.1 119 (by omega), e.1 120 (by omega), e.1 122 (by omega), e.1 123 (by omega), e.2 121 (by omega)]
  exact h
/-- one method's two sides give its row of the law -/
theorem eqI_of {g : GT} {M7 M8 : MT} {args : List Value} (val : ST → Int32) (stp : ST → ST)
    (h7 : ∀ (σ : ST) (I : IT) (J : JT) (P : Int32 → IT → JT → Prop), okT σ → RelC I J σ → (∀ I' J', RelC I' J' (stp σ) → smM I J I' J' → P (val σ) I' J') → SemI g 40 M7 (.ref (ga g 0) :: args) I J P)
    (h8 : ∀ (σ : ST) (I : IT) (J : JT) (P : Int32 → IT → JT → Prop), okT σ → RelM I J σ → (∀ I' J', RelM I' J' (stp σ) → smC I J I' J' → P (val σ) I' J') → SemI g 40 M8 (.ref (ga g 118) :: args) I J P)
    (hok : ∀ σ, okT σ → okT (stp σ)) : EQI g Rel M7 M8 args := by
  intro I J hR
  obtain ⟨σ, h1, h2, h3⟩ := hR
  refine h7 σ I J _ h1 h2 (fun I1 J1 hc hs => ?_)
  refine h8 σ I1 J1 _ h1 (h3.cg hs) (fun I2 J2 hm hs2 => ⟨rfl, stp σ, hok σ h1, hc.cg hs2, hm⟩)
theorem eqL_of {g : GT} {M7 M8 : MT} {args : List Value} (val : ST → Int64) (stp : ST → ST)
    (h7 : ∀ (σ : ST) (I : IT) (J : JT) (P : Int64 → IT → JT → Prop), okT σ → RelC I J σ → (∀ I' J', RelC I' J' (stp σ) → smM I J I' J' → P (val σ) I' J') → SemL g 40 M7 (.ref (ga g 0) :: args) I J P)
    (h8 : ∀ (σ : ST) (I : IT) (J : JT) (P : Int64 → IT → JT → Prop), okT σ → RelM I J σ → (∀ I' J', RelM I' J' (stp σ) → smC I J I' J' → P (val σ) I' J') → SemL g 40 M8 (.ref (ga g 118) :: args) I J P)
    (hok : ∀ σ, okT σ → okT (stp σ)) : EQL g Rel M7 M8 args := by
  intro I J hR
  obtain ⟨σ, h1, h2, h3⟩ := hR
  refine h7 σ I J _ h1 h2 (fun I1 J1 hc hs => ?_)
  refine h8 σ I1 J1 _ h1 (h3.cg hs) (fun I2 J2 hm hs2 => ⟨rfl, stp σ, hok σ h1, hc.cg hs2, hm⟩)
-- ===== ranges =====
def inN (v : Int32) (N : Nat) : Bool := decide (0 ≤ v.toInt ∧ v.toInt < N)
theorem inN_t {v : Int32} {N : Nat} (h : inN v N = true) : vp_in v N := vp_in_iff.mpr (of_decide_eq_true h)
theorem inN_n {v : Int32} {N : Nat} (h : inN v N = true) (hN : N < 2 ^ 31) : ∃ n, n < N ∧ v = nI n := vp_in_of (inN_t h) hN
theorem inN_i {n N : Nat} (h : n < 2 ^ 31) : inN (nI n) N = decide (n < N) := by
  unfold inN
  rw [nI_toInt h]
  simp
theorem nI_cl {n : Nat} (h : n < 2 ^ 31) : (nI n).toNatClampNeg = n := nI_clamp h
