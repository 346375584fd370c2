-- ===== talk =====
def isH (F : NF) (c : Nat) : Bool := decide ((c / 8 < F 1 ∧ c % 8 < F 2) ∧ F (3 + c) = 2)
def hfr (F : NF) (c z : Nat) : Nat → Nat := accN (fun j m => if isH F j && decide (awy c j < m) then awy c j else m) z
theorem hfr_s {F : NF} {c z k : Nat} : hfr F c z (k + 1) = if isH F k && decide (awy c k < hfr F c z k) then awy c k else hfr F c z k := rfl
theorem hfr_d {F : NF} {c : Nat} (hc : c < 48) : ∀ k, k ≤ 48 → ((∀ j, j < k → isH F j = false) ∧ ∀ z, hfr F c z k = z) ∨ ((∃ j, j < k ∧ isH F j = true) ∧ hfr F c 14 k = hfr F c 1000000 k ∧ hfr F c 14 k < 14) := by
  intro k
  induction k with
  | zero => intro _; exact Or.inl ⟨fun j hj => absurd hj (by omega), fun _ => rfl⟩
  | succ k ih =>
    intro hk
    have hl := awy_lt hc (show k < 48 by omega)
    cases hH : isH F k with
    | false =>
      rcases ih (by omega) with ⟨a, b⟩ | ⟨⟨j, h1, h2⟩, b, c⟩
      · refine Or.inl ⟨fun j hj => ?_, fun z => ?_⟩
        · by_cases e : j = k
          · rw [e]; exact hH
          · exact a j (by omega)
        · rw [hfr_s, hH, Bool.false_and]; exact b z
      · refine Or.inr ⟨⟨j, by omega, h2⟩, ?_, ?_⟩
        · rw [hfr_s, hfr_s, hH, Bool.false_and]; exact b
        · rw [hfr_s, hH, Bool.false_and]; exact c
    | true =>
      refine Or.inr ⟨⟨k, by omega, hH⟩, ?_⟩
      rcases ih (by omega) with ⟨a, b⟩ | ⟨-, b, c⟩
      · rw [hfr_s, hfr_s, hH, Bool.true_and, Bool.true_and, b, b, decide_eq_true (by omega), decide_eq_true (by omega)]
        exact ⟨rfl, hl⟩
      · rw [hfr_s, hfr_s, hH, Bool.true_and, Bool.true_and, ← b]
        refine ⟨rfl, ?_⟩
        split <;> omega
theorem aHarb_0 {F : NF} : aHarb F = 0 ↔ ∀ j, j < 48 → isH F j = false := by
  have : ∀ k, k ≤ 48 → ∃ n, n ≤ k ∧ acc (fun c a => if (c / 8 < F 1 ∧ c % 8 < F 2) ∧ F (3 + c) = 2 then a + 1 else a) k = nI n ∧ (n = 0 ↔ ∀ j, j < k → isH F j = false) := by
    intro k
    induction k with
    | zero => intro _; exact ⟨0, Nat.le_refl _, rfl, ⟨fun _ j hj => absurd hj (by omega), fun _ => rfl⟩⟩
    | succ k ih =>
      intro hk
      obtain ⟨n, h1, h2, h3⟩ := ih (by omega)
      unfold acc
      rw [h2]
      by_cases e : (k / 8 < F 1 ∧ k % 8 < F 2) ∧ F (3 + k) = 2
      · rw [if_pos e, nI_one]
        refine ⟨n + 1, by omega, rfl, ⟨fun z => absurd z (by omega), fun z => ?_⟩⟩
        have := z k (by omega)
        rw [show isH F k = true from decide_eq_true e] at this
        cases this
      · rw [if_neg e]
        refine ⟨n, by omega, rfl, ⟨fun z j hj => ?_, fun z => h3.mpr (fun j hj => z j (by omega))⟩⟩
        by_cases e2 : j = k
        · rw [e2]; exact decide_eq_false e
        · exact h3.mp z j (by omega)
  obtain ⟨n, h1, h2, h3⟩ := this 48 (Nat.le_refl _)
  unfold aHarb
  rw [h2, ← h3]
  exact nI_eq (b := 0) (by omega) (by omega)
def hvl (F : NF) (c : Nat) : Nat := hfr F c 14 48
theorem hvl_le {F : NF} {c : Nat} (hc : c < 48) : hvl F c ≤ 14 := by
  unfold hvl
  rcases hfr_d (F := F) hc 48 (Nat.le_refl _) with ⟨-, b⟩ | ⟨-, -, b⟩
  · rw [b]; omega
  · omega
section HVL
variable {g : GT} {d : Nat} {I : IT} {J : JT}
theorem s_X3_awayFromHarbour {c : Nat} {F : NF} {P : Int32 → IT → JT → Prop} (hd : 2 ≤ d) (hS : SeaC I 4 F) (hW : okW F) (hc : c < 48) (h : P (nI (hvl F c)) I J) : SemI g d M_X3_awayFromHarbour [.ref (ga g 4), .int (nI c)] I J P := by
  refine w_X3_awayFromHarbour isSea_4 ?_
  unfold VC_X3_awayFromHarbour
  have le : ∀ k, hfr F c 14 k ≤ 14 := by
    intro k
    induction k with
    | zero => exact Nat.le_refl _
    | succ k ih =>
      rw [hfr_s]
      split
      · rename_i z
        have := of_decide_eq_true (Bool.and_eq_true_iff.mp z).2
        omega
      · exact ih
  refine upTo (Q := fun k => Lp_X3_awayFromHarbour_5 g d 4 (nI c) (nI (hfr F c 14 k)) (nI k) I J P) (N := 48) ?_ (fun k hk ih => ?_)
  · refine w_X3_awayFromHarbour_5 isSea_4 (by omega) ?_
    unfold VC_X3_awayFromHarbour_5
    exact ⟨fun _ => h, fun z => absurd (by decide) z⟩
  · refine w_X3_awayFromHarbour_5 isSea_4 (by omega) ?_
    unfold VC_X3_awayFromHarbour_5
    rw [nI_one]
    have l1 := le k
    have l2 := awy_lt hc hk
    rw [hfr_s] at ih
    unfold isH at ih
    refine ⟨fun z => absurd ((nI_leI (a := 48) (by omega) (by omega)).mp z) (by omega), fun _ => s_X3_at (by omega) isSea_4 hS hW ?_⟩
    rw [at2 hW hk]
    refine ⟨fun z => ?_, fun z => ?_⟩
    · rw [decide_eq_false z, Bool.false_and] at ih; exact ih
    · rw [decide_eq_true z, Bool.true_and] at ih
      refine s_X3_away (by omega) hc hk ?_
      by_cases e : awy c k < hfr F c 14 k
      · rw [if_pos ((nI_ltI (by omega) (by omega)).mpr e)]
        rw [decide_eq_true e] at ih; exact ih
      · rw [if_neg (fun z => e ((nI_ltI (by omega) (by omega)).mp z))]
        rw [decide_eq_false e] at ih; exact ih
theorem s_X8_harbourFrom {c : Nat} {F : NF} {P : Int32 → IT → JT → Prop} (hd : 3 ≤ d) (hM : MF I 0 F) (hW : okW F) (hc : c < 48) (h : P (nI (hfr F c 1000000 48)) I J) : SemI g d M_X8_harbourFrom [.ref (ga g 118), .int (nI c)] I J P := by
  refine w_X8_harbourFrom ?_
  unfold VC_X8_harbourFrom
  have le : ∀ k, hfr F c 1000000 k ≤ 1000000 := by
    intro k
    induction k with
    | zero => exact Nat.le_refl _
    | succ k ih =>
      rw [hfr_s]
      split
      · rename_i z
        have := of_decide_eq_true (Bool.and_eq_true_iff.mp z).2
        omega
      · exact ih
  refine upTo (Q := fun k => Lp_X8_harbourFrom_5 g d (nI c) (nI (hfr F c 1000000 k)) (nI k) I J P) (N := 48) ?_ (fun k hk ih => ?_)
  · refine w_X8_harbourFrom_5 (by omega) ?_
    unfold VC_X8_harbourFrom_5
    exact ⟨fun _ => h, fun z => absurd (by decide) z⟩
  · refine w_X8_harbourFrom_5 (by omega) ?_
    unfold VC_X8_harbourFrom_5
    rw [nI_one]
    have l1 := le k
    have l2 := awy_lt hc hk
    have hv := hW.2.2 k hk
    rw [hfr_s] at ih
    unfold isH at ih
    refine ⟨fun z => absurd ((nI_leI (a := 48) (by omega) (by omega)).mp z) (by omega), fun _ => ?_⟩
    refine s_X8_isCell (by omega) (hM.a0 1 (by omega)) (hM.a0 2 (by omega)) hW ?_
    rw [cOK_i (by omega), ix2 3 k 3 rfl, nI_cl (by omega), hM.a0 (3 + k) (by omega)]
    refine ⟨fun z => ?_, fun z => ⟨vp_in_nI (by omega) (by omega), fun y => ?_, fun y => ?_⟩⟩
    · rw [decide_eq_false (fun w => of_decide_eq_false z w.1), Bool.false_and] at ih; exact ih
    · rw [decide_eq_false (fun w => y (by rw [w.2]; rfl)), Bool.false_and] at ih; exact ih
    · rw [decide_eq_true ⟨of_decide_eq_true z, (nI_eq (b := 2) (by omega) (by omega)).mp y⟩, Bool.true_and] at ih
      refine s_X8_away (by omega) hc hk ⟨fun w => ?_, fun w => ?_⟩
      · have w := (nI_leI (by omega) (by omega)).mp w
        rw [decide_eq_false (by omega)] at ih; exact ih
      · have w : ¬ hfr F c 1000000 k ≤ awy c k := fun v => w ((nI_leI (by omega) (by omega)).mpr v)
        rw [decide_eq_true (by omega)] at ih
        exact s_X8_away (by omega) hc hk ih
end HVL
-- the tree
def tlr (a b k : Nat) : Nat := if k % 2 = 0 then a else b
def pk2 (l : Bool) (x y : Nat) : Nat := if l then (if x ≤ y then x else y) else (if y ≤ x then x else y)
def tv (F : NF) (a b : Nat) : Nat → Nat → Vy → Nat
  | 0, _, v => hvl F v.2.1
  | m + 1, k, v => pk2 (decide (k % 2 = 0)) (pk2 (decide (k % 2 = 0)) (tv F a b m (k + 1) (hearV F v (tlr a b k) 0)) (tv F a b m (k + 1) (hearV F v (tlr a b k) 1))) (tv F a b m (k + 1) (hearV F v (tlr a b k) 2))
theorem pk2_le {l : Bool} {x y n : Nat} (hx : x ≤ n) (hy : y ≤ n) : pk2 l x y ≤ n := by unfold pk2; (repeat' split) <;> omega
theorem okV.c48 {F : NF} {v : Vy} (h : okV F v) (hW : okW F) : v.2.1 < 48 := by
  have := h.2.2.1
  have := hW.1
  omega
theorem tv_le {F : NF} {a b : Nat} (hW : okW F) : ∀ m k v, okV F v → tv F a b m k v ≤ 14 := by
  intro m
  induction m with
  | zero => intro k v hv; exact hvl_le (hv.c48 hW)
  | succ m ih =>
    intro k v hv
    exact pk2_le (pk2_le (ih _ _ (okV_hear hv hW)) (ih _ _ (okV_hear hv hW))) (ih _ _ (okV_hear hv hW))
theorem tlr_lt {a b k : Nat} (ha : a < 4) (hb : b < 4) : tlr a b k < 4 := by unfold tlr; split <;> assumption
theorem r2 {k : Nat} (h : k < 2 ^ 31) : nI k - nI k / 2 * 2 = nI (k % 2) := pk_rem (d := 2) h (by omega) (by omega)
section TLK
variable {g : GT} {J : JT}
theorem s_X7_talked {a b K : Nat} {F : NF} (hW : okW F) (ha : a < 4) (hb : b < 4) (hK : K ≤ 6) : ∀ m d k v I (P : Int32 → IT → JT → Prop), k + m = K → m + 6 ≤ d → CV I (96 + 2 * k) v → SeaC I 4 F → okV F v → (∀ I', (∀ a, (a < 96 + 2 * k + 2 ∨ 109 < a) → I' a = I a) → P (nI (tv F a b m k v)) I' J) → SemI g d M_X7_talked [.ref (ga g 0), .int (nI k), .int (nI K), .int (nI a), .int (nI b)] I J P := by
  intro m
  induction m with
  | zero =>
    intro d k v I P hkn hd hC hS hv h
    refine w_X7_talked (by omega) ?_
    unfold VC_X7_talked
    refine s_X7_canGoDeeper (by omega) hK ⟨fun z => absurd (of_decide_eq_true z) (by omega), fun _ => ⟨vp_in_nI (by omega) (by omega), ?_⟩⟩
    rw [nI_cl (by omega), hC.2.1]
    exact s_X3_awayFromHarbour (by omega) hS hW (hv.c48 hW) (h I (fun _ _ => rfl))
  | succ m ih =>
    intro d k v I P hkn hd hC hS hv h
    refine w_X7_talked (by omega) ?_
    unfold VC_X7_talked
    refine s_X7_canGoDeeper (by omega) hK ⟨fun _ => ?_, fun z => absurd (of_decide_eq_false z) (by omega)⟩
    have hx : ∀ w, tv F a b m (k + 1) (hearV F v (tlr a b k) w) ≤ 14 := fun w => tv_le hW _ _ _ (okV_hear hv hW)
    have step : ∀ w v6 bst I1, w < 3 → (∀ a, (a < 96 + 2 * k + 2 ∨ 109 < a) → I1 a = I a) → ((v6 = -1 ∧ bst = tv F a b m (k + 1) (hearV F v (tlr a b k) w)) ∨ ∃ o, o ≤ 14 ∧ v6 = nI o ∧ bst = pk2 (decide (k % 2 = 0)) o (tv F a b m (k + 1) (hearV F v (tlr a b k) w))) → (∀ I2, (∀ a, (a < 96 + 2 * k + 2 ∨ 109 < a) → I2 a = I a) → Lp_X7_talked_48 g d (nI k) (nI K) (nI a) (nI b) (decide (k % 2 = 0)) (nI bst) (nI (w + 1)) I2 J P) → Lp_X7_talked_48 g d (nI k) (nI K) (nI a) (nI b) (decide (k % 2 = 0)) v6 (nI w) I1 J P := by
      intro w v6 bst I1 hw c1 hb6 nx
      refine w_X7_talked_48 (by omega) ?_
      unfold VC_X7_talked_48
      rw [nI_one, nI_one]
      refine ⟨fun z => absurd ((nI_leI (a := 3) (by omega) (by omega)).mp z) (by omega), fun _ => ?_⟩
      refine s_X7_nextVoyage (by omega) (by omega) (hC.cg (c1 _ (by omega)) (c1 _ (by omega))) (fun I2 b1 b2 => ⟨isV_72 (k + 1) (by omega), ?_⟩)
      have e2 : ∀ a, (a < 96 + 2 * k + 2 ∨ 109 < a) → I2 a = I a := fun a ha => by rw [b2 a (by omega) (by omega), c1 a ha]
      have hl := hx w
      generalize hxe : tv F a b m (k + 1) (hearV F v (tlr a b k) w) = x at hb6 hl
      have key : ∀ t, t < 4 → tv F a b m (k + 1) (hearV F v t w) = x → SemV g (d - 1) M_X6_hear [.ref (ga g (96 + 2 * (k + 1))), .int (nI t), .int (nI w)] I2 J (fun I72 J72 => (SemI g (d - 1) M_X7_talked [.ref (ga g 0), .int (nI (k + 1)), .int (nI K), .int (nI a), .int (nI b)] I72 J72 (fun r83 I83 J83 => ((v6 < 0 → (Lp_X7_talked_48 g d (nI k) (nI K) (nI a) (nI b) (decide (k % 2 = 0)) r83 (nI (w + 1)) I83 J83 P)) ∧ (¬ v6 < 0 → ((decide (k % 2 = 0) = false → ((r83 ≤ v6 → (Lp_X7_talked_48 g d (nI k) (nI K) (nI a) (nI b) (decide (k % 2 = 0)) v6 (nI (w + 1)) I83 J83 P)) ∧ (¬ r83 ≤ v6 → (Lp_X7_talked_48 g d (nI k) (nI K) (nI a) (nI b) (decide (k % 2 = 0)) r83 (nI (w + 1)) I83 J83 P)))) ∧ (decide (k % 2 = 0) = true → ((v6 ≤ r83 → (Lp_X7_talked_48 g d (nI k) (nI K) (nI a) (nI b) (decide (k % 2 = 0)) v6 (nI (w + 1)) I83 J83 P)) ∧ (¬ v6 ≤ r83 → (Lp_X7_talked_48 g d (nI k) (nI K) (nI a) (nI b) (decide (k % 2 = 0)) r83 (nI (w + 1)) I83 J83 P)))))))))) := by
        intro t ht et
        refine s_X6_hear (by omega) (isV_72 (k + 1) (by omega)) (by omega) b1 (hS.cg (e2 _ (by omega)) (e2 _ (by omega))) hW hv ht hw (fun I3 d1 d2 => ?_)
        have e3 : ∀ a, (a < 96 + 2 * k + 2 ∨ 109 < a) → I3 a = I a := fun a ha => by rw [d2 a (by omega) (by omega), e2 a ha]
        refine ih (d - 1) (k + 1) _ I3 _ (by omega) (by omega) d1 (hS.cg (e3 _ (by omega)) (e3 _ (by omega))) (okV_hear hv hW) (fun I4 f1 => ?_)
        have e4 : ∀ a, (a < 96 + 2 * k + 2 ∨ 109 < a) → I4 a = I a := fun a ha => by rw [f1 a (by omega), e3 a ha]
        rw [et]
        have nx := nx I4 e4
        rcases hb6 with ⟨rfl, rfl⟩ | ⟨o, ho, rfl, rfl⟩
        · exact ⟨fun _ => nx, fun z => absurd (by decide) z⟩
        · refine ⟨fun z => absurd z (nI_pos (by omega)), fun _ => ⟨fun z => ?_, fun z => ?_⟩⟩
          · rw [z] at nx ⊢
            unfold pk2 at nx
            rw [if_neg (by decide)] at nx
            refine ⟨fun y => ?_, fun y => ?_⟩
            · rw [if_pos ((nI_leI (by omega) (by omega)).mp y)] at nx; exact nx
            · rw [if_neg (fun w => y ((nI_leI (by omega) (by omega)).mpr w))] at nx; exact nx
          · rw [z] at nx ⊢
            unfold pk2 at nx
            rw [if_pos rfl] at nx
            refine ⟨fun y => ?_, fun y => ?_⟩
            · rw [if_pos ((nI_leI (by omega) (by omega)).mp y)] at nx; exact nx
            · rw [if_neg (fun w => y ((nI_leI (by omega) (by omega)).mpr w))] at nx; exact nx
      refine ⟨fun z => ?_, fun z => ?_⟩
      · exact key b hb (by rw [← hxe, show tlr a b k = b from if_neg (of_decide_eq_false z)])
      · exact key a ha (by rw [← hxe, show tlr a b k = a from if_pos (of_decide_eq_true z)])
    have fin : Lp_X7_talked_48 g d (nI k) (nI K) (nI a) (nI b) (decide (k % 2 = 0)) (-1) (nI 0) I J P := by
      refine step 0 (-1) _ I (by omega) (fun _ _ => rfl) (Or.inl ⟨rfl, rfl⟩) (fun I2 e2 => ?_)
      refine step 1 _ _ I2 (by omega) e2 (Or.inr ⟨_, hx 0, rfl, rfl⟩) (fun I3 e3 => ?_)
      refine step 2 _ _ I3 (by omega) e3 (Or.inr ⟨_, pk2_le (hx 0) (hx 1), rfl, rfl⟩) (fun I4 e4 => ?_)
      refine w_X7_talked_48 (by omega) ?_
      unfold VC_X7_talked_48
      exact ⟨fun _ => h I4 e4, fun z => absurd (nI_le (Nat.le_refl 3) (by omega)) z⟩
    rw [r2 (by omega)]
    refine ⟨fun z => ?_, fun z => ?_⟩
    · rw [decide_eq_false (fun y : k % 2 = 0 => z (by rw [y]; rfl))] at fin; exact fin
    · rw [decide_eq_true ((nI_eq (b := 0) (by omega) (by omega)).mp z)] at fin; exact fin
end TLK
-- the reference's tree, by codes
def pth (F : NF) (a b : Nat) (v : Vy) : Nat → Nat → Vy
  | 0 => fun _ => v
  | j + 1 => fun e => hearV F (pth F a b v j (e / 3)) (tlr a b j) (e % 3)
theorem pth_ok {F : NF} {a b : Nat} {v : Vy} (hv : okV F v) (hW : okW F) : ∀ j e, okV F (pth F a b v j e) := by
  intro j
  induction j with
  | zero => intro e; exact hv
  | succ j ih => intro e; exact okV_hear (ih _) hW
def lvl (F : NF) (a b : Nat) (v : Vy) (K j e : Nat) : Nat := tv F a b (K - j) j (pth F a b v j e)
theorem lvl_le {F : NF} {a b : Nat} {v : Vy} (hv : okV F v) (hW : okW F) (K j e : Nat) : lvl F a b v K j e ≤ 14 := tv_le hW _ _ _ (pth_ok hv hW j e)
theorem lvl_s {F : NF} {a b : Nat} {v : Vy} {K j e : Nat} (hj : j < K) : lvl F a b v K j e = pk2 (decide (j % 2 = 0)) (pk2 (decide (j % 2 = 0)) (lvl F a b v K (j + 1) (3 * e)) (lvl F a b v K (j + 1) (3 * e + 1))) (lvl F a b v K (j + 1) (3 * e + 2)) := by
  have p : ∀ w, w < 3 → pth F a b v (j + 1) (3 * e + w) = hearV F (pth F a b v j e) (tlr a b j) w := fun w hw => by
    show hearV F (pth F a b v j ((3 * e + w) / 3)) (tlr a b j) ((3 * e + w) % 3) = _
    rw [show (3 * e + w) / 3 = e from by omega, show (3 * e + w) % 3 = w from by omega]
  have p0 : pth F a b v (j + 1) (3 * e) = hearV F (pth F a b v j e) (tlr a b j) 0 := p 0 (by omega)
  unfold lvl
  rw [p 1 (by omega), p 2 (by omega), p0, show K - j = (K - (j + 1)) + 1 from by omega]
  rfl
theorem sub1 : ∀ k, k < 8 → nI k - 1 = nI k + (-1) := by decide +kernel
section TLM
variable {g : GT} {J : JT}
/-- the levels of the tree, from the leaves to its root -/
theorem talk_red {I : IT} {F : NF} {a b K : Nat} {v : Vy} {P : Int32 → IT → JT → Prop} (hW : okW F) (hv : okV F v) (hK : K ≤ 6) (h : ∀ I', frX I I' → P (nI (tv F a b K 0 v)) I' J) : ∀ k, k ≤ K → ∀ I1, frX I I1 → (∀ e, e < 3 ^ k → I1 127 e = nI (lvl F a b v K k e)) → Lp_X8_talk_186 g 40 (nI (3 ^ k)) (nI k + (-1)) I1 J P := by
  intro k
  induction k with
  | zero =>
    intro _ I1 f1 L1
    refine w_X8_talk_186 ?_
    unfold VC_X8_talk_186
    refine ⟨fun _ => ?_, fun z => absurd (by decide) z⟩
    rw [L1 0 (by decide)]
    exact h I1 f1
  | succ k ih =>
    intro hk I1 f1 L1
    have h9 : 3 ^ (k + 1) ≤ 729 := p3_le (by omega)
    have h3 : 3 ^ (k + 1) = 3 * 3 ^ k := by rw [Nat.pow_succ, Nat.mul_comm]
    refine w_X8_talk_186 ?_
    unfold VC_X8_talk_186
    rw [pk_m1, show nI (3 ^ (k + 1)) / 3 = nI (3 ^ k) from by rw [show (3 : Int32) = nI 3 from rfl, pk_div (by omega) (by omega) (by omega), Nat.pow_succ, Nat.mul_div_cancel _ (by omega)]]
    refine ⟨fun z => absurd z (nI_pos (by omega)), fun _ => ?_⟩
    refine upTo (Q := fun e => ∀ I2 : IT, frX I I2 → (∀ i, i < e → I2 127 i = nI (lvl F a b v K k i)) → (∀ i, e ≤ i → i < 3 ^ (k + 1) → I2 127 i = nI (lvl F a b v K (k + 1) i)) → Lp_X8_talk_200 g 40 (nI (3 ^ k)) (nI k) (nI e) I2 J P) (N := 3 ^ k) (fun I2 f2 A2 B2 => ?_) (fun e he ihe I2 f2 A2 B2 => ?_) I1 f1 (fun i hi => absurd hi (by omega)) (fun i _ hi => L1 i hi)
    · refine w_X8_talk_200 ?_
      unfold VC_X8_talk_200
      exact ⟨fun _ => ih (by omega) I2 f2 A2, fun z => absurd (nI_le (Nat.le_refl _) (by omega)) z⟩
    · have st : ∀ w x, w < 3 → x ≤ 14 → Lp_X8_talk_221 g 40 (nI (3 ^ k)) (nI k) (nI e) (nI (pk2 (decide (k % 2 = 0)) x (lvl F a b v K (k + 1) (3 * e + w)))) (nI (w + 1)) I2 J P → Lp_X8_talk_221 g 40 (nI (3 ^ k)) (nI k) (nI e) (nI x) (nI w) I2 J P := by
        intro w x hw hx nx
        refine w_X8_talk_221 ?_
        unfold VC_X8_talk_221
        have l1 := lvl_le (a := a) (b := b) hv hW K (k + 1) (3 * e + w)
        rw [r2 (by omega), show (3 : Int32) * nI e + nI w = nI (3 * e + w) from by rw [show (3 : Int32) = nI 3 from rfl, pk_mul, nI_add], nI_cl (n := 3 * e + w) (by omega), B2 (3 * e + w) (by omega) (by omega), nI_one w]
        refine ⟨fun z => absurd ((nI_leI (a := 3) (by omega) (by omega)).mp z) (by omega), fun _ => ⟨vp_in_nI (by omega) (by omega), fun z => ?_, fun z => ?_⟩⟩
        · rw [decide_eq_false (fun y : k % 2 = 0 => z (by rw [y]; rfl))] at nx
          unfold pk2 at nx
          rw [if_neg (by decide)] at nx
          refine ⟨fun y => ?_, fun y => ?_⟩
          · rw [if_pos ((nI_leI (by omega) (by omega)).mp y)] at nx; exact nx
          · rw [if_neg (fun u => y ((nI_leI (by omega) (by omega)).mpr u))] at nx; exact nx
        · rw [decide_eq_true ((nI_eq (b := 0) (by omega) (by omega)).mp z)] at nx
          unfold pk2 at nx
          rw [if_pos rfl] at nx
          refine ⟨fun y => ?_, fun y => ?_⟩
          · rw [if_pos ((nI_leI (by omega) (by omega)).mp y)] at nx; exact nx
          · rw [if_neg (fun u => y ((nI_leI (by omega) (by omega)).mpr u))] at nx; exact nx
      refine w_X8_talk_200 ?_
      unfold VC_X8_talk_200
      rw [show (3 : Int32) * nI e = nI (3 * e) from by rw [show (3 : Int32) = nI 3 from rfl, pk_mul], nI_cl (n := 3 * e) (by omega), B2 (3 * e) (by omega) (by omega)]
      refine ⟨fun z => absurd ((nI_leI (by omega) (by omega)).mp z) (by omega), fun _ => ⟨vp_in_nI (by omega) (by omega), ?_⟩⟩
      have l0 := lvl_le (a := a) (b := b) hv hW K (k + 1) (3 * e)
      have l1 := lvl_le (a := a) (b := b) hv hW K (k + 1) (3 * e + 1)
      refine st 1 _ (by omega) l0 (st 2 _ (by omega) (pk2_le l0 l1) ?_)
      rw [← lvl_s (by omega)]
      refine w_X8_talk_221 ?_
      unfold VC_X8_talk_221
      rw [nI_cl (n := e) (by omega), nI_one e]
      refine ⟨fun _ => ⟨vp_in_nI (by omega) (by omega), ihe _ (f2.tr (frX.w (by omega))) (fun i hi => ?_) (fun i hi hi2 => ?_)⟩, fun z => absurd (by decide) z⟩
      · rw [sI_at]
        by_cases q : i = e
        · rw [if_pos ⟨rfl, q⟩, q]
        · rw [if_neg (fun u => q u.2)]; exact A2 i (by omega)
      · rw [sI_at, if_neg (by omega)]; exact B2 i (by omega) hi2
/-- all codes, their leaves -/
theorem talk_all {I : IT} {F : NF} {s a b n : Nat} {P : Int32 → IT → JT → Prop} (hM : MF I 0 F) (hF : okF F) (hs : s < F 0) (ha : a < 4) (hb : b < 4) (hn : n ≤ 3) (hh : ∀ c, c < 48 → hfr F c 1000000 48 = hvl F c) (h : ∀ I', frX I I' → P (nI (tv F a b (2 * n) 0 (shipOf F s))) I' J) : Lp_X8_talk_61 g 40 (nI s) (nI a) (nI b) (nI n) 1 0 I J P := by
  have hW := hF.W
  have h6 := hF.1
  have hv := hF.ship hs
  have e2n : (2 : Int32) * nI n = nI (2 * n) := by rw [show (2 : Int32) = nI 2 from rfl, pk_mul]
  have h9 : 3 ^ (2 * n) ≤ 729 := p3_le (by omega)
  refine upTo (Q := fun k => Lp_X8_talk_61 g 40 (nI s) (nI a) (nI b) (nI n) (nI (3 ^ k)) (nI k) I J P) (N := 2 * n) ?_ (fun k hk ih => ?_)
  rotate_left
  · refine w_X8_talk_61 ?_
    unfold VC_X8_talk_61
    rw [e2n, nI_one k, show nI (3 ^ k) * 3 = nI (3 ^ (k + 1)) from by rw [show (3 : Int32) = nI 3 from rfl, pk_mul, Nat.pow_succ]]
    exact ⟨fun z => absurd ((nI_leI (by omega) (by omega)).mp z) (by omega), fun _ => ih⟩
  refine w_X8_talk_61 ?_
  unfold VC_X8_talk_61
  rw [e2n]
  refine ⟨fun _ => ?_, fun z => absurd (nI_le (Nat.le_refl _) (by omega)) z⟩
  refine upTo (Q := fun c => ∀ I1 : IT, frX I I1 → (∀ e, e < c → I1 127 e = nI (lvl F a b (shipOf F s) (2 * n) (2 * n) e)) → Lp_X8_talk_85 g 40 (nI s) (nI a) (nI b) (nI n) (nI (3 ^ (2 * n))) (nI c) I1 J P) (N := 3 ^ (2 * n)) (fun I1 f1 L1 => ?_) (fun c hc ih I1 f1 L1 => ?_) I frX.rf (fun e he => absurd he (by omega))
  · refine w_X8_talk_85 (by omega) ?_
    unfold VC_X8_talk_85
    rw [e2n, sub1 (2 * n) (by omega)]
    exact ⟨fun _ => talk_red hW hv (by omega) h (2 * n) (Nat.le_refl _) I1 f1 L1, fun z => absurd (nI_le (Nat.le_refl _) (by omega)) z⟩
  · refine w_X8_talk_85 (by omega) ?_
    unfold VC_X8_talk_85
    refine ⟨fun z => absurd ((nI_leI (by omega) (by omega)).mp z) (by omega), fun _ => s_X8_tries (by omega) (f1.F hM) (fun I2 b1 b2 => ?_)⟩
    have L2 : ∀ e, e < c → I2 127 e = nI (lvl F a b (shipOf F s) (2 * n) (2 * n) e) := fun e he => by rw [b2.1 127 (by omega)]; exact L1 e he
    refine upTo (Q := fun k => ∀ I3 : IT, frX I I3 → (∀ e, e < c → I3 127 e = nI (lvl F a b (shipOf F s) (2 * n) (2 * n) e)) → MV I3 320 s (pth F a b (shipOf F s) k (c / 3 ^ (2 * n - k))) → MSea I3 320 F → Lp_X8_talk_103 g 40 (nI s) (nI a) (nI b) (nI n) (nI (3 ^ (2 * n))) (nI c) (nI (3 ^ (2 * n - k))) (nI k) I3 J P) (N := 2 * n) (fun I3 f3 L3 m3 s3 => ?_) (fun k hk ihk I3 f3 L3 m3 s3 => ?_) I2 (f1.tr b2.x) L2 (b1.ship (by omega)) b1.sea
    · refine w_X8_talk_103 (by omega) ?_
      unfold VC_X8_talk_103
      rw [Nat.sub_self, Nat.pow_zero, Nat.div_one] at m3
      have c48 := (pth_ok (a := a) (b := b) hv hW (2 * n) c).c48 hW
      rw [e2n, ix2 378 s 378 rfl, nI_cl (n := 378 + s) (by omega), show I3 119 (378 + s) = nI (pth F a b (shipOf F s) (2 * n) c).2.1 from by have := m3.2.1; rwa [show 320 + 58 + s = 378 + s from by omega] at this, nI_cl (n := c) (by omega), nI_one c]
      refine ⟨fun _ => ⟨vp_in_nI (by omega) (by omega), s_X8_harbourFrom (by omega) (f3.F hM) hW c48 ⟨vp_in_nI (by omega) (by omega), ?_⟩⟩, fun z => absurd (nI_le (Nat.le_refl _) (by omega)) z⟩
      refine ih _ (f3.tr (frX.w (by omega))) (fun e he => ?_)
      rw [sI_at]
      by_cases q : e = c
      · rw [if_pos ⟨rfl, q⟩, q, hh _ c48]
        show _ = nI (tv F a b (2 * n - 2 * n) (2 * n) (pth F a b (shipOf F s) (2 * n) c))
        rw [Nat.sub_self]; rfl
      · rw [if_neg (fun u => q u.2)]; exact L3 e (by omega)
    · refine w_X8_talk_103 (by omega) ?_
      unfold VC_X8_talk_103
      obtain ⟨m, hm⟩ : ∃ m, 2 * n - k = m + 1 := ⟨2 * n - k - 1, by omega⟩
      have hm' : 2 * n - (k + 1) = m := by omega
      rw [hm] at m3 ⊢
      rw [hm'] at ihk
      have h9m : 3 ^ m ≤ 729 := p3_le (by omega)
      have h9m1 : 3 ^ (m + 1) ≤ 729 := p3_le (by omega)
      have h0m := p3_pos m
      have hdl : c / 3 ^ m < 2 ^ 31 := Nat.lt_of_le_of_lt (Nat.div_le_self _ _) (by omega)
      rw [e2n, r2 (by omega), show nI (3 ^ (m + 1)) / 3 = nI (3 ^ m) from by rw [show (3 : Int32) = nI 3 from rfl, pk_div (by omega) (by omega) (by omega), Nat.pow_succ, Nat.mul_div_cancel _ (by omega)], pk_div (a := c) (d := 3 ^ m) (by omega) h0m (by omega), show nI (c / 3 ^ m) - nI (c / 3 ^ m) / 3 * 3 = nI (c / 3 ^ m % 3) from by rw [show (3 : Int32) = nI 3 from rfl, pk_rem hdl (by omega) (by omega)], nI_one k]
      have ep : pth F a b (shipOf F s) (k + 1) (c / 3 ^ m) = hearV F (pth F a b (shipOf F s) k (c / 3 ^ (m + 1))) (tlr a b k) (c / 3 ^ m % 3) := by
        show hearV F (pth F a b (shipOf F s) k (c / 3 ^ m / 3)) (tlr a b k) (c / 3 ^ m % 3) = _
        rw [Nat.div_div_eq_div_mul, ← Nat.pow_succ]
      have body : ∀ t, t < 4 → tlr a b k = t → (¬ nI (3 ^ m) = 0 ∧ (SemV g (40 - 1) M_X8_says [.ref (ga g 118), .int 320, .int (nI s), .int (nI t), .int (nI (c / 3 ^ m % 3))] I3 J (fun I142 J142 => (Lp_X8_talk_103 g 40 (nI s) (nI a) (nI b) (nI n) (nI (3 ^ (2 * n))) (nI c) (nI (3 ^ m)) (nI (k + 1)) I142 J142 P)))) := by
        intro t ht et
        refine ⟨fun z => absurd ((nI_eq (b := 0) (by omega) (by omega)).mp z) (by omega), ?_⟩
        refine s_X8_says (r := 320) (by omega) (by omega) (by omega) ht (Nat.mod_lt _ (by omega)) m3 s3 hW (pth_ok hv hW k _) (fun I4 d1 d2 _ => ?_)
        refine ihk I4 (f3.tr (d2.t (by omega)).x) (fun e he => by rw [d2.1 127 (by omega)]; exact L3 e he) ?_ (d2.sea (by omega) s3)
        rw [ep, et]; exact d1
      refine ⟨fun z => absurd ((nI_leI (by omega) (by omega)).mp z) (by omega), fun _ => ⟨fun z => ?_, fun z => ?_⟩⟩
      · exact body b hb (if_neg (fun y => z (by rw [y]; rfl)))
      · exact body a ha (if_pos ((nI_eq (b := 0) (by omega) (by omega)).mp z))
end TLM
abbrev cTk (a b c n : Int32) (σ : ST) : Prop := inN a (sF σ 0) = true ∧ inN b 4 = true ∧ inN c 4 = true ∧ b ≠ c ∧ inN n 4 = true
def vTalk (a b c n : Int32) (σ : ST) : Int32 := if cTk a b c n σ then (if aHarb (sF σ) = 0 then -4 else nI (tv (sF σ) b.toNatClampNeg c.toNatClampNeg (2 * n.toNatClampNeg) 0 (shipOf (sF σ) a.toNatClampNeg))) else -1
theorem e_talk {g : GT} (a0 a1 a2 a3 : Int32) : EQI g Rel M_X7_talk M_X8_talk [.int a0, .int a1, .int a2, .int a3] := by
  refine eqI_of (vTalk a0 a1 a2 a3) id (fun σ I J P hk hC h => ?_) (fun σ I J P hk hM h => ?_) (fun _ h => h)
  · refine w_X7_talk (by omega) ?_
    unfold VC_X7_talk
    unfold vTalk at h
    have h6 := hk.1.1
    have hW := hk.1.W
    have bad : ¬ cTk a0 a1 a2 a3 σ → P (-1) I J := fun z => by rw [if_neg z] at h; exact h I J hC smM.rf
    refine s_X2_hasShip isF_3 hC.2.1 hk.1 ⟨fun z => bad (fun y => ff z y.1), fun p1 => ?_⟩
    refine s_X7_isTeller ⟨fun z => bad (fun y => ff z y.2.1), fun p2 => ?_⟩
    refine s_X7_isTeller ⟨fun z => bad (fun y => ff z y.2.2.1), fun p3 => ⟨fun z => bad (fun y => y.2.2.2.1 z), fun p4 => ?_⟩⟩
    rw [Int32.lt_iff_toInt_lt, Int32.le_iff_toInt_le, show (0 : Int32).toInt = 0 from by decide, show (3 : Int32).toInt = 3 from by decide]
    refine ⟨fun z => bad (fun y => by have := of_decide_eq_true y.2.2.2.2; omega), fun z1 => ⟨fun z2 => ?_, fun z => bad (fun y => by have := of_decide_eq_true y.2.2.2.2; omega)⟩⟩
    have p5 : inN a3 4 = true := decide_eq_true (by omega)
    rw [if_pos ⟨p1, p2, p3, p4, p5⟩] at h
    obtain ⟨s, hs, rfl⟩ := inN_n p1 (by omega)
    obtain ⟨a, ha, rfl⟩ := inN_n p2 (by omega)
    obtain ⟨b, hb, rfl⟩ := inN_n p3 (by omega)
    obtain ⟨n, hn, rfl⟩ := inN_n p5 (by omega)
    rw [nI_cl (n := s) (by omega), nI_cl (n := a) (by omega), nI_cl (n := b) (by omega), nI_cl (n := n) (by omega)] at h
    refine s_X3_harbours (by omega) isSea_4 hC.2.1.sea hW ⟨fun z => ?_, fun z => ?_⟩
    · rw [if_neg z] at h
      rw [show (2 : Int32) * nI n = nI (2 * n) from by rw [show (2 : Int32) = nI 2 from rfl, pk_mul]]
      refine s_X6_board (by omega) isV_96 isF_3 (by omega) hC.2.1 hk.1 hs (fun I1 b1 b2 => ?_)
      refine s_X7_talked hW ha hb (by omega) (2 * n) _ 0 (shipOf (sF σ) s) I1 _ (by omega) (by omega) b1 (hC.2.1.sea.cg (b2 _ (by omega) (by omega)) (b2 _ (by omega) (by omega))) (hk.1.ship hs) (fun I2 f2 => ?_)
      have kf : ∀ x, isK x → I2 x = I x := fun x hx => by
        have hx : x ≤ 10 ∨ (20 ≤ x ∧ x ≤ 71) ∨ (80 ≤ x ∧ x ≤ 95) ∨ 110 ≤ x := hx
        rw [f2 x (by omega), b2 x (by omega) (by omega)]
      exact h I2 J (hC.scr kf (fun _ _ _ => rfl)) ⟨fun x hx => kf x (Or.inr (Or.inr (Or.inr (by omega)))), fun _ _ => rfl⟩
    · rw [if_pos z] at h
      exact h I J hC smM.rf
  · refine w_X8_talk (by omega) ?_
    unfold VC_X8_talk
    unfold vTalk at h
    have h6 := hk.1.1
    have hW := hk.1.W
    have bad : ¬ cTk a0 a1 a2 a3 σ → P (-1) I J := fun z => by rw [if_neg z] at h; exact h I J hM smC.rf
    refine s_X8_isShip (by omega) hM.2.1 hk.1 ⟨fun z => bad (fun y => ff z y.1), fun p1 => ?_⟩
    refine s_X8_isTeller (by omega) ⟨fun z => bad (fun y => ff z y.2.1), fun p2 => ?_⟩
    refine s_X8_isTeller (by omega) ⟨fun z => bad (fun y => ff z y.2.2.1), fun p3 => ⟨fun z => bad (fun y => y.2.2.2.1 z), fun p4 => ?_⟩⟩
    refine s_X8_inN (n := 4) (by decide) ⟨fun p5 => ?_, fun z => bad (fun y => ff z y.2.2.2.2)⟩
    rw [if_pos ⟨p1, p2, p3, p4, p5⟩] at h
    obtain ⟨s, hs, rfl⟩ := inN_n p1 (by omega)
    obtain ⟨a, ha, rfl⟩ := inN_n p2 (by omega)
    obtain ⟨b, hb, rfl⟩ := inN_n p3 (by omega)
    obtain ⟨n, hn, rfl⟩ := inN_n p5 (by omega)
    rw [nI_cl (n := s) (by omega), nI_cl (n := a) (by omega), nI_cl (n := b) (by omega), nI_cl (n := n) (by omega)] at h
    refine s_X8_harbourFrom (c := 0) (by omega) hM.2.1 hW (by omega) ?_
    have d0 := hfr_d (F := sF σ) (c := 0) (by omega) 48 (Nat.le_refl _)
    have l0 : hfr (sF σ) 0 1000000 48 ≤ 1000000 := by
      rcases d0 with ⟨-, b⟩ | ⟨-, b, c⟩
      · rw [b]; omega
      · omega
    refine ⟨fun z => ?_, fun z => ?_⟩
    · have z : hfr (sF σ) 0 1000000 48 ≠ 1000000 := fun y => z (by rw [y]; rfl)
      have ex : ∃ j, j < 48 ∧ isH (sF σ) j = true := by
        rcases d0 with ⟨-, b⟩ | ⟨b, -⟩
        · exact absurd (b 1000000) z
        · exact b
      have nz : ¬ aHarb (sF σ) = 0 := fun y => by
        obtain ⟨j, j1, j2⟩ := ex
        exact ff (aHarb_0.mp y j j1) j2
      rw [if_neg nz] at h
      refine talk_all hM.2.1 hk.1 hs ha hb (by omega) (fun c hc => ?_) (fun I1 f1 => h I1 J (f1.M hM) f1.C)
      rcases hfr_d (F := sF σ) hc 48 (Nat.le_refl _) with ⟨b, -⟩ | ⟨-, b, -⟩
      · obtain ⟨j, j1, j2⟩ := ex
        exact (ff (b j j1) j2).elim
      · exact b.symm
    · have z : hfr (sF σ) 0 1000000 48 = 1000000 := (nI_eq (b := 1000000) (by omega) (by omega)).mp z
      have no : aHarb (sF σ) = 0 := by
        rcases d0 with ⟨b, -⟩ | ⟨-, b, c⟩
        · exact aHarb_0.mpr b
        · exact absurd z (by omega)
      rw [if_pos no] at h
      exact h I J hM smC.rf
