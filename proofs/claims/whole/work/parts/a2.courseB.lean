-- ===== courses: the class =====
def cs_l (κ : Nat) (tr : Bool) (x w : Nat) : Nat := if tr = true then trn κ (x % 4) w else x % 4
/-- from a place by a word to the next -/
def cs_n (F : NF) (κ : Nat) (tr : Bool) (x w : Nat) : Option Nat := (nxt F (x / 4) (cs_l κ tr x w)).map (fun c => 4 * c + cs_l κ tr x w)
def cs_v (F : NF) (x : Nat) : Prop := x / 4 / 8 < F 1 ∧ x / 4 % 8 < F 2
theorem cs_l_lt {κ : Nat} {tr : Bool} {x w : Nat} : cs_l κ tr x w < 4 := by
  unfold cs_l
  split
  · exact trn_lt (Nat.mod_lt _ (by omega))
  · exact Nat.mod_lt _ (by omega)
theorem cs_v_lt {F : NF} {x : Nat} (hW : okW F) (h : cs_v F x) : x < 192 := by
  have a := hW.1
  have b := h.1
  omega
theorem cs_n_v {F : NF} {κ x w y : Nat} {tr : Bool} (hW : okW F) (h : cs_n F κ tr x w = some y) : cs_v F y := by
  unfold cs_n at h
  cases hn : nxt F (x / 4) (cs_l κ tr x w) with
  | none => rw [hn] at h; cases h
  | some c =>
    rw [hn] at h
    have e : 4 * c + cs_l κ tr x w = y := Option.some.inj h
    obtain ⟨a, b, -⟩ := nxt_ok hn hW
    have l4 := cs_l_lt (κ := κ) (tr := tr) (x := x) (w := w)
    have e4 : y / 4 = c := by omega
    unfold cs_v
    rw [e4]
    exact ⟨a, b⟩
def cs_C (I : IT) (f : Nat) (Q K D : Nat → Nat) : Prop :=
  I 73 5 = nI f ∧ (∀ j, j < f → I 74 j = nI (Q j) ∧ I 77 (Q j) = nI (D j)) ∧ (∀ j, 1 ≤ j → j < f → I 75 (Q j) = nI (Q (K j / 3)) ∧ I 76 (Q j) = nI (K j % 3)) ∧ ∀ x, x < 192 → (∀ j, j < f → Q j ≠ x) → I 77 x = -1
def cs_F (I I' : IT) : Prop := ∀ a, a < 73 ∨ 77 < a → I' a = I a
section CSC
variable {g : GT} {d : Nat} {I : IT} {J : JT}
theorem s_fillI {o n : Nat} {y : Int32} {P : IT → JT → Prop} (ho : shL[o]? = some (.inl (0, n, []))) (hn : n < 2 ^ 31) (h : ∀ I', (∀ i, i < n → I' o i = y) → (∀ a, a ≠ o → I' a = I a) → P I' J) : SemV g d M_J7_fill_53178 [.ref (ga g o), .int y] I J P := by
  have loop : ∀ m k I1, k + m = n → (∀ i, i < k → I1 o i = y) → (∀ a, a ≠ o → I1 a = I a) → Lp_J7_fill_53178_5 g d o n y (nI k) (nI n) I1 J P := by
    intro m
    induction m with
    | zero =>
      intro k I1 hk h1 h2
      refine w_J7_fill_53178_5 ho ?_
      unfold VC_J7_fill_53178_5
      rw [show k = n from by omega] at h1 ⊢
      exact ⟨fun _ => h I1 h1 h2, fun q => absurd (nI_le (Nat.le_refl _) hn) q⟩
    | succ m ih =>
      intro k I1 hk h1 h2
      refine w_J7_fill_53178_5 ho ?_
      unfold VC_J7_fill_53178_5
      rw [nI_cl (by omega), nI_one]
      refine ⟨fun q => absurd ((nI_leI (by omega) (by omega)).mp q) (by omega), fun _ => ⟨vp_in_nI (by omega) hn, ih (k + 1) _ (by omega) (fun i hi => ?_) (fun a ha => by rw [sI_ne ha]; exact h2 a ha)⟩⟩
      rw [sI_at]
      by_cases q : i = k
      · rw [if_pos ⟨rfl, q⟩]
      · rw [if_neg (fun z => q z.2)]; exact h1 i (by omega)
  exact w_J7_fill_53178 ho (loop n 0 I (by omega) (fun i hi => absurd hi (by omega)) (fun _ _ => rfl))
theorem s_X1_markO {f x : Nat} {Q K D : Nat → Nat} {v2 v3 v4 : Int32} {P : IT → JT → Prop} (hC : cs_C I f Q K D) (hx : x < 192) (hD : ∀ j, j < f → D j < 2 ^ 31) (c : ∃ j, j < f ∧ Q j = x) (h : P I J) : SemV g d M_X1_mark [.ref (ga g 73), .int (nI x), .int v2, .int v3, .int v4] I J P := by
  refine w_X1_mark ?_
  unfold VC_X1_mark
  obtain ⟨j, hj, e⟩ := c
  have e7 : I 77 x = nI (D j) := by rw [← e]; exact (hC.2.1 j hj).2
  rw [nI_cl (n := x) (by omega), e7]
  exact ⟨vp_in_nI hx (by omega), fun _ => h, fun z => absurd (nI_pos' (hD j hj)) z⟩
theorem s_X1_markN {f x t dd : Nat} {Q K D : Nat → Nat} {v2 v3 : Int32} {P : IT → JT → Prop} (hC : cs_C I f Q K D) (hx : x < 192) (hf : f < 192) (hK : ∀ j, 1 ≤ j → j < f → K j / 3 < j) (c : ∀ j, j < f → Q j ≠ x) (hv : 1 ≤ f → v2 = nI (Q (t / 3)) ∧ v3 = nI (t % 3) ∧ t / 3 < f) (h : ∀ I', cs_C I' (f + 1) (cr_u Q f x) (cr_u K f t) (cr_u D f dd) → cs_F I I' → P I' J) : SemV g d M_X1_mark [.ref (ga g 73), .int (nI x), .int v2, .int v3, .int (nI dd)] I J P := by
  refine w_X1_mark ?_
  unfold VC_X1_mark
  have v : vp_in (nI x) 192 := vp_in_nI hx (by omega)
  rw [nI_cl (n := x) (by omega), hC.2.2.2 x hx c, hC.1, nI_cl (n := f) (by omega)]
  refine ⟨v, fun z => absurd z (by decide), fun _ => ⟨fun _ => ⟨vp_in_nI hf (by omega), v, v, v, ?_⟩, fun z => absurd (nI_lt (b := 192) hf (by omega)) z⟩⟩
  have e1 : sI I 74 f (nI x) 73 5 + 1 = nI (f + 1) := by rw [sI_ne (by omega), hC.1, nI_one]
  rw [e1]
  have uo : ∀ (q : Nat → Nat) (x j : Nat), j < f → cr_u q f x j = q j := fun q x j hj => if_neg (by omega)
  have ue : ∀ (q : Nat → Nat) (x : Nat), cr_u q f x f = x := fun q x => if_pos rfl
  refine h _ ⟨?_, fun j hj => ?_, fun j j1 hj => ?_, fun y hy cy => ?_⟩ (fun a ha => ?_)
  · rw [sI_ne (by omega), sI_ne (by omega), sI_ne (by omega), sI_at, if_pos ⟨rfl, rfl⟩]
  · by_cases z : j = f
    · rw [z, ue Q, ue D]
      refine ⟨?_, ?_⟩
      · rw [sI_ne (by omega), sI_ne (by omega), sI_ne (by omega), sI_ne (by omega), sI_at, if_pos ⟨rfl, rfl⟩]
      · rw [sI_at, if_pos ⟨rfl, rfl⟩]
    · have hj' : j < f := by omega
      rw [uo Q x j hj', uo D dd j hj']
      refine ⟨?_, ?_⟩
      · rw [sI_ne (by omega), sI_ne (by omega), sI_ne (by omega), sI_ne (by omega), sI_at, if_neg (fun y => z y.2)]; exact (hC.2.1 j hj').1
      · rw [sI_at, if_neg (fun y => c j hj' y.2), sI_ne (by omega), sI_ne (by omega), sI_ne (by omega), sI_ne (by omega)]; exact (hC.2.1 j hj').2
  · by_cases z : j = f
    · obtain ⟨e2, e3, e4⟩ := hv (by omega)
      rw [z, ue Q, ue K, uo Q x (t / 3) e4]
      refine ⟨?_, ?_⟩
      · rw [sI_ne (by omega), sI_ne (by omega), sI_at, if_pos ⟨rfl, rfl⟩]; exact e2
      · rw [sI_ne (by omega), sI_at, if_pos ⟨rfl, rfl⟩]; exact e3
    · have hj' : j < f := by omega
      have k3 := hK j j1 hj'
      rw [uo Q x j hj', uo K t j hj', uo Q x (K j / 3) (by omega)]
      refine ⟨?_, ?_⟩
      · rw [sI_ne (by omega), sI_ne (by omega), sI_at, if_neg (fun y => c j hj' y.2), sI_ne (by omega), sI_ne (by omega)]; exact (hC.2.2.1 j j1 hj').1
      · rw [sI_ne (by omega), sI_at, if_neg (fun y => c j hj' y.2), sI_ne (by omega), sI_ne (by omega), sI_ne (by omega)]; exact (hC.2.2.1 j j1 hj').2
  · have n1 : y ≠ x := fun z => cy f (by omega) (by rw [ue Q]; exact z.symm)
    rw [sI_at, if_neg (fun z => n1 z.2), sI_ne (by omega), sI_ne (by omega), sI_ne (by omega), sI_ne (by omega)]
    exact hC.2.2.2 y hy (fun j hj z => cy j (by omega) (by rw [uo Q x j hj]; exact z))
  · rw [sI_ne (by omega), sI_ne (by omega), sI_ne (by omega), sI_ne (by omega), sI_ne (by omega)]
theorem s_X1_spread {κ k f x0 : Nat} {tr : Bool} {F : NF} {Q K D : Nat → Nat} {P : IT → JT → Prop} (hd : 3 ≤ d) (hκ : κ ≤ 5) (hS : SeaC I 4 F) (hW : okW F) (hC : cs_C I f Q K D) (hB : cs_B (cs_n F κ tr) x0 f Q K D (3 * k)) (hV : ∀ j, j < f → cs_v F (Q j)) (hk : k < f) (h : ∀ I' f' Q' K' D', cs_C I' f' Q' K' D' → cs_B (cs_n F κ tr) x0 f' Q' K' D' (3 * (k + 1)) → (∀ j, j < f' → cs_v F (Q' j)) → f ≤ f' → (∀ j, j < f → Q' j = Q j) → cs_F I I' → P I' J) : SemV g d M_X1_spread [.ref (ga g 73), .int (nI (Q k)), .int (nI κ), .int (bI tr)] I J P := by
  refine w_X1_spread ?_
  unfold VC_X1_spread
  have hvk := hV k hk
  have hx := cs_v_lt hW hvk
  refine upTo (Q := fun w => ∀ (I1 : IT) (f1 : Nat) (Q1 K1 D1 : Nat → Nat), cs_C I1 f1 Q1 K1 D1 → cs_B (cs_n F κ tr) x0 f1 Q1 K1 D1 (3 * k + w) → (∀ j, j < f1 → cs_v F (Q1 j)) → f ≤ f1 → (∀ j, j < f → Q1 j = Q j) → cs_F I I1 → Lp_X1_spread_3 g d (nI (Q k)) (nI κ) tr (nI w) I1 J P) (N := 3) (fun I1 f1 Q1 K1 D1 c1 b1 v1 l1 s1 fr => ?_) (fun w hw ih I1 f1 Q1 K1 D1 c1 b1 v1 l1 s1 fr => ?_) I f Q K D hC hB hV (Nat.le_refl _) (fun _ _ => rfl) (fun _ _ => rfl)
  · refine w_X1_spread_3 (by omega) ?_
    unfold VC_X1_spread_3
    exact ⟨fun _ => h I1 f1 Q1 K1 D1 c1 (by rw [show 3 * (k + 1) = 3 * k + 3 from by omega]; exact b1) v1 l1 s1 fr, fun z => absurd (nI_le (Nat.le_refl 3) (by omega)) z⟩
  · refine w_X1_spread_3 (by omega) ?_
    unfold VC_X1_spread_3
    have e4 : nI (Q k) / 4 = nI (Q k / 4) := pk_div (d := 4) (by omega) (by omega) (by omega)
    have m4 : nI (Q k) - nI (Q k) / 4 * 4 = nI (Q k % 4) := pk_rem (d := 4) (by omega) (by omega) (by omega)
    rw [m4, e4, nI_one, nI_cl (n := Q k) (by omega)]
    have hS1 : SeaC I1 4 F := hS.cg (fr 4 (by omega)) (fr 5 (by omega))
    have hk1 : k < f1 := by omega
    have Qk : Q1 k = Q k := s1 k hk
    have body : ∀ l, cs_l κ tr (Q k) w = l → SemI g (d - 1) M_X3_ahead [.ref (ga g 4), .int (nI (Q k / 4)), .int (nI l)] I1 J (fun r39 I39 J39 => ((r39 < 0 → (Lp_X1_spread_3 g d (nI (Q k)) (nI κ) tr (nI (w + 1)) I39 J39 P)) ∧ (¬ r39 < 0 → (vp_in (nI (Q k)) 192 ∧ (SemV g (d - 1) M_X1_mark [.ref (ga g 73), .int ((4 * r39) + nI l), .int (nI (Q k)), .int (nI w), .int ((I39 77 (Q k)) + 1)] I39 J39 (fun I68 J68 => (Lp_X1_spread_3 g d (nI (Q k)) (nI κ) tr (nI (w + 1)) I68 J68 P))))))) := by
      intro l hl
      have hl4 : l < 4 := by rw [← hl]; exact cs_l_lt
      refine s_X3_ahead (by omega) isSea_4 hS1 hW hvk.1 hvk.2 hl4 (fun hn => ⟨fun _ => ?_, fun z => absurd (by decide) z⟩) (fun q hq => ?_)
      · have en : cs_n F κ tr (Q k) w = none := by unfold cs_n; rw [hl, hn]; rfl
        exact ih I1 f1 Q1 K1 D1 c1 (cs_skip b1 hw (fun y e => by rw [Qk, en] at e; cases e)) v1 l1 s1 fr
      · obtain ⟨q8, -, -⟩ := nxt_ok hq hW
        have w1 := hW.1
        refine ⟨fun z => absurd z (nI_pos (by omega)), fun _ => ⟨vp_in_nI hx (by omega), ?_⟩⟩
        have en : cs_n F κ tr (Q k) w = some (4 * q + l) := by unfold cs_n; rw [hl, hq]; rfl
        have vy := cs_n_v hW en
        have hy := cs_v_lt hW vy
        have e8 : 4 * nI q + nI l = nI (4 * q + l) := by rw [show (4 : Int32) = nI 4 from rfl, pk_mul, nI_add]
        have dk : I1 77 (Q k) = nI (D1 k) := by rw [← Qk]; exact (c1.2.1 k hk1).2
        rw [e8, dk, nI_one]
        have hf := cs_php 192 f1 Q1 (fun j hj => cs_v_lt hW (v1 j hj)) b1.2.2.2.1
        by_cases c : ∃ j, j < f1 ∧ Q1 j = 4 * q + l
        · refine s_X1_markO c1 hy (fun j hj => ?_) c (ih I1 f1 Q1 K1 D1 c1 (cs_skip b1 hw (fun y e => ?_)) v1 l1 s1 fr)
          · have := cs_le b1 j j (Nat.le_refl _) hj
            omega
          · rw [Qk, en] at e
            have e := Option.some.inj e
            obtain ⟨j, j1, j2⟩ := c
            exact ⟨j, j1, j2.trans e⟩
        · have c' : ∀ j, j < f1 → Q1 j ≠ 4 * q + l := fun j hj z => c ⟨j, hj, z⟩
          have nb := cs_new b1 hw hk1 (by rw [Qk]; exact en) c'
          have nv : ∀ j, j < f1 + 1 → cs_v F (cr_u Q1 f1 (4 * q + l) j) := fun j hj => by
            by_cases z : j = f1
            · have e5 : cr_u Q1 f1 (4 * q + l) j = 4 * q + l := if_pos z
              rw [e5]; exact vy
            · have e5 : cr_u Q1 f1 (4 * q + l) j = Q1 j := if_neg z
              rw [e5]; exact v1 j (by omega)
          have hf1 := cs_php 192 (f1 + 1) (cr_u Q1 f1 (4 * q + l)) (fun j hj => cs_v_lt hW (nv j hj)) nb.2.2.2.1
          refine s_X1_markN (t := 3 * k + w) (dd := D1 k + 1) c1 hy (by omega) (fun j a b => (b1.2.2.2.2.1 j a b).2.1) c' (fun _ => ⟨by rw [show (3 * k + w) / 3 = k from by omega, Qk], by rw [show (3 * k + w) % 3 = w from by omega], by omega⟩) (fun I' c2 f2 => ih I' (f1 + 1) _ _ _ c2 nb nv (by omega) (fun j hj => ?_) (fun a ha => (f2 a ha).trans (fr a ha)))
          have e5 : cr_u Q1 f1 (4 * q + l) j = Q1 j := if_neg (by omega)
          rw [e5]; exact s1 j hj
    refine ⟨fun z => absurd ((nI_leI (a := 3) (by omega) (by omega)).mp z) (by omega), fun _ => ⟨fun z => ?_, fun z => ?_⟩⟩
    · exact body (Q k % 4) (by unfold cs_l; rw [if_neg (by rw [z]; decide)])
    · exact s_X7_turned (by omega) hκ (Nat.mod_lt _ (by omega)) hw (body (trn κ (Q k % 4) w) (by unfold cs_l; rw [if_pos z]))
theorem s_X1_search {t c : Nat} {F : NF} {v : Vy} {P : Int32 → IT → JT → Prop} (hd : 4 ≤ d) (hCV : CV I 96 v) (hv : okV F v) (hS : SeaC I 4 F) (hW : okW F) (ht : t < 4) (hc : c < 48)
    (hN : ∀ I' f Q K D, cs_B (cs_n F v.1 (tru v t)) (4 * v.2.1 + v.2.2.1) f Q K D (3 * f) → (∀ j, j < f → ¬ Q j / 4 = c) → (∀ j, j < f → cs_v F (Q j)) → cs_F I I' → P (-4) I' J)
    (hG : ∀ I' f Q K D k, cs_C I' f Q K D → cs_B (cs_n F v.1 (tru v t)) (4 * v.2.1 + v.2.2.1) f Q K D (3 * k) → k < f → (∀ j, j < k → ¬ Q j / 4 = c) → Q k / 4 = c → (∀ j, j < f → cs_v F (Q j)) → cs_F I I' → P (nI (Q k)) I' J) : SemI g d M_X1_search [.ref (ga g 73), .ref (ga g 96), .int (nI t), .int (nI c)] I J P := by
  refine w_X1_search isV_96 (by omega) ?_
  unfold VC_X1_search
  refine s_fillI sh_77 (by omega) (fun I1 f1 f2 => ?_)
  have cv1 : CV I1 96 v := hCV.cg (f2 96 (by omega)) (f2 97 (by omega))
  refine s_X6_trusts (F := F) (by omega) isV_96 cv1 hv ht ?_
  have e3 : sI I1 73 5 0 96 3 = nI v.2.1 := by rw [sI_ne (by omega)]; exact cv1.2.1
  have e4 : sI I1 73 5 0 96 4 = nI v.2.2.1 := by rw [sI_ne (by omega)]; exact cv1.2.2.1
  have e5 : 4 * nI v.2.1 + nI v.2.2.1 = nI (4 * v.2.1 + v.2.2.1) := by rw [show (4 : Int32) = nI 4 from rfl, pk_mul, nI_add]
  rw [e3, e4, e5]
  have vx : cs_v F (4 * v.2.1 + v.2.2.1) := by
    have l4 := hv.2.2.2.2.1
    have e : (4 * v.2.1 + v.2.2.1) / 4 = v.2.1 := by omega
    unfold cs_v
    rw [e]
    exact ⟨hv.2.2.1, hv.2.2.2.1⟩
  have hx := cs_v_lt hW vx
  have c0 : cs_C (sI I1 73 5 0) 0 (fun _ => 0) (fun _ => 0) (fun _ => 0) := ⟨by rw [sI_at, if_pos ⟨rfl, rfl⟩]; rfl, fun j hj => absurd hj (by omega), fun j _ hj => absurd hj (by omega), fun x hx _ => by rw [sI_ne (by omega)]; exact f1 x hx⟩
  refine s_X1_markN (t := 0) (dd := 0) c0 hx (by omega) (fun j _ hj => absurd hj (by omega)) (fun j hj => absurd hj (by omega)) (fun z => absurd z (by omega)) (fun I2 c2 fr2 => ?_)
  have frI : cs_F I I2 := fun a ha => by rw [fr2 a ha, sI_ne (by omega), f2 a (by omega)]
  have B0 : cs_B (cs_n F v.1 (tru v t)) (4 * v.2.1 + v.2.2.1) (0 + 1) (cr_u (fun _ => 0) 0 (4 * v.2.1 + v.2.2.1)) (cr_u (fun _ => 0) 0 0) (cr_u (fun _ => 0) 0 0) (3 * 0) := ⟨by omega, if_pos rfl, if_pos rfl, fun i j h1 h2 => absurd h1 (by omega), fun j h1 h2 => absurd h1 (by omega), fun i j _ h1 h2 => absurd h1 (by omega), fun i w _ _ h => absurd h (by omega)⟩
  have loop : ∀ m k (I2 : IT) f (Q K D : Nat → Nat), k + m = 192 → k ≤ f → cs_C I2 f Q K D → cs_B (cs_n F v.1 (tru v t)) (4 * v.2.1 + v.2.2.1) f Q K D (3 * k) → (∀ j, j < k → ¬ Q j / 4 = c) → (∀ j, j < f → cs_v F (Q j)) → cs_F I I2 → Lp_X1_search_41 g d 96 (nI c) (tru v t) (nI k) I2 J P := by
    intro m
    induction m with
    | zero =>
      intro k I2 f Q K D hk hkf c2 b2 n2 v2 fr
      have hf := cs_php 192 f Q (fun j hj => cs_v_lt hW (v2 j hj)) b2.2.2.2.1
      have e : k = f := by omega
      subst e
      refine w_X1_search_41 isV_96 (by omega) ?_
      unfold VC_X1_search_41
      rw [c2.1]
      exact ⟨fun _ => hN I2 k Q K D b2 n2 v2 fr, fun z => absurd (nI_le (Nat.le_refl _) (by omega)) z⟩
    | succ m ih =>
      intro k I2 f Q K D hk hkf c2 b2 n2 v2 fr
      have hf := cs_php 192 f Q (fun j hj => cs_v_lt hW (v2 j hj)) b2.2.2.2.1
      by_cases e : k = f
      · subst e
        refine w_X1_search_41 isV_96 (by omega) ?_
        unfold VC_X1_search_41
        rw [c2.1]
        exact ⟨fun _ => hN I2 k Q K D b2 n2 v2 fr, fun z => absurd (nI_le (Nat.le_refl _) (by omega)) z⟩
      · have hk2 : k < f := by omega
        have hx := cs_v_lt hW (v2 k hk2)
        refine w_X1_search_41 isV_96 (by omega) ?_
        unfold VC_X1_search_41
        have e4 : nI (Q k) / 4 = nI (Q k / 4) := pk_div (d := 4) (by omega) (by omega) (by omega)
        rw [c2.1, nI_one, nI_cl (n := k) (by omega), (c2.2.1 k hk2).1, e4]
        refine ⟨fun z => absurd ((nI_leI (by omega) (by omega)).mp z) (by omega), fun _ => ⟨fun z => absurd ((nI_leI (a := 192) (by omega) (by omega)).mp z) (by omega), fun _ => ⟨vp_in_nI (by omega) (by omega), fun z => ?_, fun z => ?_⟩⟩⟩
        · have z : ¬ Q k / 4 = c := fun y => z (by rw [y])
          have ek : I2 96 2 = nI v.1 := by rw [fr 96 (by omega)]; exact hCV.1
          rw [ek]
          refine s_X1_spread (by omega) hv.2.1 (hS.cg (fr 4 (by omega)) (fr 5 (by omega))) hW c2 b2 v2 hk2 (fun I3 f3 Q3 K3 D3 c3 b3 v3 l3 s3 fr3 => ih (k + 1) I3 f3 Q3 K3 D3 (by omega) (by omega) c3 b3 (fun j hj => ?_) v3 (fun a ha => (fr3 a ha).trans (fr a ha)))
          rw [s3 j (by omega)]
          by_cases y : j = k
          · rw [y]; exact z
          · exact n2 j (by omega)
        · have z := (nI_eq (by omega) (by omega)).mp z
          exact hG I2 f Q K D k c2 b2 hk2 n2 z v2 fr
  refine loop 192 0 I2 (0 + 1) _ _ _ (by omega) (by omega) c2 B0 (fun j hj => absurd hj (by omega)) (fun j hj => ?_) frI
  have e6 : cr_u (fun _ => 0) 0 (4 * v.2.1 + v.2.2.1) j = 4 * v.2.1 + v.2.2.1 := if_pos (by omega)
  rw [e6]; exact vx
theorem s_X1_wordTo {nx : Nat → Nat → Option Nat} {x0 t f k kk : Nat} {Q K D : Nat → Nat} {P : Int32 → IT → JT → Prop} (hC : cs_C I f Q K D) (hB : cs_B nx x0 f Q K D t) (hk : k < f) (hf : f ≤ 192) (hQ : ∀ j, j < f → Q j < 192) (hkk : kk < 2 ^ 31) (h : P (if kk < D k then nI (K (cs_A K k (D k - kk - 1)) % 3) else -4) I J) : SemI g d M_X1_wordTo [.ref (ga g 73), .int (nI (Q k)), .int (nI kk)] I J P := by
  have dk := cs_le hB k k (Nat.le_refl _) hk
  refine w_X1_wordTo ?_
  unfold VC_X1_wordTo
  have q := hQ k hk
  have v : vp_in (nI (Q k)) 192 := vp_in_nI q (by omega)
  rw [nI_cl (n := Q k) (by omega), (hC.2.1 k hk).2]
  refine ⟨fun z => absurd z (nI_pos hkk), fun _ => ⟨v, fun z => ⟨v, ?_⟩, fun z => ?_⟩⟩
  · have z := (nI_ltI hkk (by omega)).mp z
    rw [if_pos z] at h
    refine upTo (Q := fun m => Lp_X1_wordTo_27 g d (nI kk) (nI (Q (cs_A K k m))) (nI (D k - m)) I J P) (N := D k - kk - 1) ?_ (fun m hm ih => ?_)
    · obtain ⟨i1, i2⟩ := cs_Ai hB hk (D k - kk - 1) (by omega)
      have h0 : cs_A K k (D k - kk - 1) ≠ 0 := fun y => by rw [y, hB.2.2.1] at i2; omega
      have q1 := hQ (cs_A K k (D k - kk - 1)) (by omega)
      refine w_X1_wordTo_27 ?_
      unfold VC_X1_wordTo_27
      rw [nI_one, nI_cl (n := Q (cs_A K k (D k - kk - 1))) (by omega), (hC.2.2.1 (cs_A K k (D k - kk - 1)) (by omega) (by omega)).2]
      exact ⟨fun _ => ⟨vp_in_nI q1 (by omega), h⟩, fun y => absurd (nI_le (by omega) (by omega)) y⟩
    · obtain ⟨i1, i2⟩ := cs_Ai hB hk m (by omega)
      obtain ⟨n0, eA, a2, -⟩ := cs_As hB hk (m := m) (by omega)
      have q1 := hQ (cs_A K k m) (by omega)
      refine w_X1_wordTo_27 ?_
      unfold VC_X1_wordTo_27
      have e : nI (D k - m) + (-1) = nI (D k - (m + 1)) := by rw [show D k - m = (D k - (m + 1)) + 1 from by omega, pk_m1]
      rw [e, nI_one, nI_cl (n := Q (cs_A K k m)) (by omega), (hC.2.2.1 (cs_A K k m) (by omega) (by omega)).1]
      exact ⟨fun y => absurd ((nI_leI (by omega) (by omega)).mp y) (by omega), fun _ => ⟨vp_in_nI q1 (by omega), ih⟩⟩
  · have z : ¬ kk < D k := fun y => z ((nI_ltI hkk (by omega)).mpr y)
    rw [if_neg z] at h; exact h
end CSC
-- what both must answer
abbrev cs_c (a b c k : Int32) (σ : ST) : Prop := inN a (sF σ 0) = true ∧ inN b 4 = true ∧ cOK c (sF σ) = true ∧ (-1 : Int32) ≤ k
def cs_X (F : NF) (s t c : Nat) (k r : Int32) : Prop :=
  (∃ f Q K D, cs_B (cs_n F (F (51 + s)) (tru (shipOf F s) t)) (4 * F (58 + s) + F (64 + s)) f Q K D (3 * f) ∧ (∀ j, j < f → ¬ Q j / 4 = c) ∧ (∀ j, j < f → cs_v F (Q j)) ∧ r = -4) ∨
  (∃ f Q K D m, cs_B (cs_n F (F (51 + s)) (tru (shipOf F s) t)) (4 * F (58 + s) + F (64 + s)) f Q K D (3 * m) ∧ m < f ∧ (∀ j, j < m → ¬ Q j / 4 = c) ∧ Q m / 4 = c ∧ (∀ j, j < f → cs_v F (Q j)) ∧ r = (if k < 0 then nI (D m) else if k.toNatClampNeg < D m then nI (K (cs_A K m (D m - k.toNatClampNeg - 1)) % 3) else -4))
def cs_R (a b c k r : Int32) (σ : ST) : Prop := (¬ cs_c a b c k σ ∧ r = -1) ∨ ∃ s t e, s < sF σ 0 ∧ t < 4 ∧ e < 48 ∧ e / 8 < sF σ 1 ∧ e % 8 < sF σ 2 ∧ a = nI s ∧ b = nI t ∧ c = nI e ∧ (-1 : Int32) ≤ k ∧ ((sF σ (3 + e) = 1 ∧ r = -2) ∨ (sF σ (3 + e) ≠ 1 ∧ cs_X (sF σ) s t e k r))
theorem le_lt0 {k : Int32} (h : 0 ≤ k) : ¬ k < 0 := by
  rw [Int32.lt_iff_toInt_lt]; rw [Int32.le_iff_toInt_le] at h; omega
theorem nle_lt0 {k : Int32} (h : ¬ 0 ≤ k) : k < 0 := by
  rw [Int32.lt_iff_toInt_lt]; rw [Int32.le_iff_toInt_le] at h; omega
theorem course7 {g : GT} {a0 a1 a2 a3 : Int32} {σ : ST} {I : IT} {J : JT} {P : Int32 → IT → JT → Prop} (hk : okT σ) (hC : RelC I J σ) (h : ∀ r I', cs_R a0 a1 a2 a3 r σ → RelC I' J σ → smM I J I' J → P r I' J) : SemI g 40 M_X7_course [.ref (ga g 0), .int a0, .int a1, .int a2, .int a3] I J P := by
  refine w_X7_course (by omega) ?_
  unfold VC_X7_course
  have keep : ∀ (r : Int32) (I' : IT), cs_R a0 a1 a2 a3 r σ → (∀ a, isK a → I' a = I a) → P r I' J := fun r I' hr hf => h r I' hr (hC.scr hf (fun _ _ _ => rfl)) ⟨fun a ha => hf a (Or.inr (Or.inr (Or.inr (by omega)))), fun _ _ => rfl⟩
  have bad : ¬ cs_c a0 a1 a2 a3 σ → P (-1) I J := fun z => keep (-1) I (Or.inl ⟨z, rfl⟩) (fun _ _ => rfl)
  have h6 := hk.1.1
  have hW := hk.1.W
  refine s_X2_hasShip isF_3 hC.2.1 hk.1 ⟨fun z => bad (fun y => ff z y.1), fun p1 => ?_⟩
  refine s_X7_isTeller ⟨fun z => bad (fun y => ff z y.2.1), fun p2 => ?_⟩
  refine s_X3_has isSea_4 hC.2.1.sea hW ⟨fun z => bad (fun y => ff z y.2.2.1), fun p3 => ?_⟩
  refine ⟨fun p4 => ?_, fun z => bad (fun y => z y.2.2.2)⟩
  refine s_X3_at (by omega) isSea_4 hC.2.1.sea hW ?_
  rw [if_pos p3]
  obtain ⟨s, hs, rfl⟩ := inN_n p1 (by omega)
  obtain ⟨t, ht, rfl⟩ := inN_n p2 (by omega)
  obtain ⟨c, hc, c1, c2, rfl⟩ := cOK_n p3 hW
  have hv2 := hW.2.2 c hc
  rw [nI_cl (n := c) (by omega)]
  refine ⟨fun z => ?_, fun z => ?_⟩
  · have z : sF σ (3 + c) ≠ 1 := fun y => z (by rw [y]; rfl)
    refine s_X6_board (by omega) isV_96 isF_3 (by omega) hC.2.1 hk.1 hs (fun I1 b1 b2 => ?_)
    have kf : ∀ I2 : IT, cs_F I1 I2 → ∀ a, isK a → I2 a = I a := fun I2 fr a ha => by
      have ha : a ≤ 10 ∨ (20 ≤ a ∧ a ≤ 71) ∨ (80 ≤ a ∧ a ≤ 95) ∨ 110 ≤ a := ha
      rw [fr a (by omega), b2 a (by omega) (by omega)]
    refine s_X1_search (F := sF σ) (v := shipOf (sF σ) s) (by omega) b1 (hk.1.ship hs) (hC.2.1.sea.cg (b2 4 (by omega) (by omega)) (b2 5 (by omega) (by omega))) hW ht hc (fun I2 f Q K D B n v fr => ?_) (fun I2 f Q K D k C B hkf n e v fr => ?_)
    · exact ⟨fun y => absurd y (by decide), fun _ => keep (-4) I2 (Or.inr ⟨s, t, c, hs, ht, hc, c1, c2, rfl, rfl, rfl, p4, Or.inr ⟨z, Or.inl ⟨f, Q, K, D, B, n, v, rfl⟩⟩⟩) (kf I2 fr)⟩
    · have hf := cs_php 192 f Q (fun j hj => cs_v_lt hW (v j hj)) B.2.2.2.1
      have q := cs_v_lt hW (v k hkf)
      refine ⟨fun _ => ⟨fun y => ?_, fun y => ?_⟩, fun y => absurd (nI_pos' (by omega)) y⟩
      · obtain ⟨kk, hkk, rfl⟩ := nI_of (le_lt0 y)
        refine s_X1_wordTo C B hkf hf (fun j hj => cs_v_lt hW (v j hj)) hkk (keep _ I2 (Or.inr ⟨s, t, c, hs, ht, hc, c1, c2, rfl, rfl, rfl, p4, Or.inr ⟨z, Or.inr ⟨f, Q, K, D, k, B, hkf, n, e, v, ?_⟩⟩⟩) (kf I2 fr))
        rw [if_neg (nI_pos hkk), nI_cl hkk]
      · rw [nI_cl (n := Q k) (by omega), (C.2.1 k hkf).2]
        refine ⟨vp_in_nI q (by omega), keep _ I2 (Or.inr ⟨s, t, c, hs, ht, hc, c1, c2, rfl, rfl, rfl, p4, Or.inr ⟨z, Or.inr ⟨f, Q, K, D, k, B, hkf, n, e, v, ?_⟩⟩⟩) (kf I2 fr)⟩
        rw [if_pos (nle_lt0 y)]
  · have z := (nI_eq (b := 1) (by omega) (by omega)).mp z
    exact keep (-2) I (Or.inr ⟨s, t, c, hs, ht, hc, c1, c2, rfl, rfl, rfl, p4, Or.inl ⟨z, rfl⟩⟩) (fun _ _ => rfl)
