-- ===== courses: the mathematics of the search =====
/-- from x a goal is reached by n words -/
def cs_r (nx : Nat → Nat → Option Nat) (gl : Nat → Prop) : Nat → Nat → Prop
  | 0 => gl
  | n + 1 => fun x => ∃ w y, w < 3 ∧ nx x w = some y ∧ cs_r nx gl n y
/-- places found: f of them, Q; found by 3 * (number of the place before) + word, K; how deep, D; all pairs below t are tried -/
def cs_B (nx : Nat → Nat → Option Nat) (x0 f : Nat) (Q K D : Nat → Nat) (t : Nat) : Prop :=
  0 < f ∧ Q 0 = x0 ∧ D 0 = 0 ∧ (∀ i j, i < j → j < f → Q i ≠ Q j) ∧
  (∀ j, 1 ≤ j → j < f → K j < t ∧ K j / 3 < j ∧ nx (Q (K j / 3)) (K j % 3) = some (Q j) ∧ D j = D (K j / 3) + 1) ∧
  (∀ i j, 1 ≤ i → i < j → j < f → K i < K j) ∧
  (∀ i w, i < f → w < 3 → 3 * i + w < t → ∀ y, nx (Q i) w = some y → ∃ j, j < f ∧ Q j = y ∧ (j = 0 ∨ K j ≤ 3 * i + w))
def cs_A (K : Nat → Nat) (k : Nat) : Nat → Nat
  | 0 => k
  | m + 1 => K (cs_A K k m) / 3
section CSP
variable {nx : Nat → Nat → Option Nat} {gl : Nat → Prop} {x0 f t k : Nat} {Q K D : Nat → Nat}
theorem cs_mono (h : cs_B nx x0 f Q K D t) : ∀ n i j, j ≤ n → i ≤ j → j < f → D i ≤ D j := by
  intro n
  induction n with
  | zero =>
    intro i j hj hi _
    have e : i = j := by omega
    subst e
    exact Nat.le_refl _
  | succ n ih =>
    intro i j hj hi hf
    by_cases e : i = j
    · exact Nat.le_of_eq (by rw [e])
    · by_cases e0 : i = 0
      · have := h.2.2.1
        rw [e0]; omega
      · obtain ⟨-, a2, -, a4⟩ := h.2.2.2.2.1 i (by omega) (by omega)
        obtain ⟨-, b2, -, b4⟩ := h.2.2.2.2.1 j (by omega) hf
        have c1 := h.2.2.2.2.2.1 i j (by omega) (by omega) hf
        have c2 := ih (K i / 3) (K j / 3) (by omega) (by omega) (by omega)
        omega
theorem cs_le (h : cs_B nx x0 f Q K D t) : ∀ n j, j ≤ n → j < f → D j ≤ j := by
  intro n
  induction n with
  | zero =>
    intro j hj _
    have e : j = 0 := by omega
    subst e
    exact Nat.le_of_eq h.2.2.1
  | succ n ih =>
    intro j hj hf
    by_cases e : j = 0
    · subst e; exact Nat.le_of_eq h.2.2.1
    · obtain ⟨-, b2, -, b4⟩ := h.2.2.2.2.1 j (by omega) hf
      have c2 := ih (K j / 3) (by omega) (by omega)
      omega
theorem cs_edge (h : cs_B nx x0 f Q K D t) {i w y : Nat} (hi : i < f) (hw : w < 3) (ht : 3 * i + w < t) (e : nx (Q i) w = some y) : ∃ j, j < f ∧ Q j = y ∧ D j ≤ D i + 1 ∧ (j = 0 ∨ K j ≤ 3 * i + w) := by
  obtain ⟨j, h1, h2, h3⟩ := h.2.2.2.2.2.2 i w hi hw ht y e
  refine ⟨j, h1, h2, ?_, h3⟩
  by_cases e0 : j = 0
  · have := h.2.2.1
    rw [e0]; omega
  · obtain ⟨-, a2, -, a4⟩ := h.2.2.2.2.1 j (by omega) h1
    have := cs_mono h i (K j / 3) i (Nat.le_refl _) (by omega) hi
    omega
theorem cs_low (h : cs_B nx x0 f Q K D (3 * k)) (hk : k < f) (hn : ∀ j, j < k → ¬ gl (Q j)) : ∀ n i, i < f → cs_r nx gl n (Q i) → D k ≤ D i + n := by
  intro n
  induction n with
  | zero =>
    intro i hi hr
    have : ¬ i < k := fun z => hn i z hr
    exact cs_mono h i k i (Nat.le_refl _) (by omega) hi
  | succ n ih =>
    intro i hi hr
    by_cases c : i < k
    · obtain ⟨w, y, hw, e, hr⟩ := hr
      obtain ⟨j, h1, h2, h3, -⟩ := cs_edge h hi hw (by omega) e
      rw [← h2] at hr
      have := ih j h1 hr
      omega
    · have := cs_mono h i k i (Nat.le_refl _) (by omega) hi
      omega
theorem cs_none (h : cs_B nx x0 f Q K D (3 * f)) (hn : ∀ j, j < f → ¬ gl (Q j)) : ∀ n i, i < f → ¬ cs_r nx gl n (Q i) := by
  intro n
  induction n with
  | zero => intro i hi hr; exact hn i hi hr
  | succ n ih =>
    intro i hi hr
    obtain ⟨w, y, hw, e, hr⟩ := hr
    obtain ⟨j, h1, h2, -⟩ := cs_edge h hi hw (by omega) e
    rw [← h2] at hr
    exact ih j h1 hr
theorem cs_Ai (h : cs_B nx x0 f Q K D t) (hk : k < f) : ∀ m, m ≤ D k → cs_A K k m ≤ k ∧ D (cs_A K k m) + m = D k := by
  intro m
  induction m with
  | zero => intro _; exact ⟨Nat.le_refl _, rfl⟩
  | succ m ih =>
    intro hm
    obtain ⟨i1, i2⟩ := ih (by omega)
    have h0 : cs_A K k m ≠ 0 := fun z => by rw [z, h.2.2.1] at i2; omega
    obtain ⟨-, a2, -, a4⟩ := h.2.2.2.2.1 (cs_A K k m) (by omega) (by omega)
    show K (cs_A K k m) / 3 ≤ k ∧ D (K (cs_A K k m) / 3) + (m + 1) = D k
    exact ⟨by omega, by omega⟩
theorem cs_As (h : cs_B nx x0 f Q K D t) (hk : k < f) {m : Nat} (hm : m + 1 ≤ D k) : cs_A K k m ≠ 0 ∧ cs_A K k (m + 1) = K (cs_A K k m) / 3 ∧ K (cs_A K k m) / 3 < cs_A K k m ∧ nx (Q (cs_A K k (m + 1))) (K (cs_A K k m) % 3) = some (Q (cs_A K k m)) := by
  obtain ⟨i1, i2⟩ := cs_Ai h hk m (by omega)
  have h0 : cs_A K k m ≠ 0 := fun z => by rw [z, h.2.2.1] at i2; omega
  obtain ⟨-, a2, a3, -⟩ := h.2.2.2.2.1 (cs_A K k m) (by omega) (by omega)
  exact ⟨h0, rfl, a2, a3⟩
theorem cs_Ar (h : cs_B nx x0 f Q K D t) (hk : k < f) (hg : gl (Q k)) : ∀ m, m ≤ D k → cs_r nx gl m (Q (cs_A K k m)) := by
  intro m
  induction m with
  | zero => intro _; exact hg
  | succ m ih =>
    intro hm
    obtain ⟨-, -, -, a3⟩ := cs_As h hk hm
    exact ⟨K (cs_A K k m) % 3, Q (cs_A K k m), Nat.mod_lt _ (by omega), a3, ih (by omega)⟩
theorem cs_Km (h : cs_B nx x0 f Q K D t) {a j : Nat} (h0 : a ≠ 0) (haj : a ≤ j) (hj : j < f) : K a ≤ K j := by
  by_cases e : a = j
  · exact Nat.le_of_eq (by rw [e])
  · exact Nat.le_of_lt (h.2.2.2.2.2.1 _ _ (by omega) (by omega) hj)
theorem cs_Am (h : cs_B nx x0 f Q K D (3 * k)) (hk : k < f) (hn : ∀ j, j < k → ¬ gl (Q j)) : ∀ m, m ≤ D k → ∀ i, i < f → D i + m ≤ D k → cs_r nx gl m (Q i) → cs_A K k m ≤ i := by
  intro m
  induction m with
  | zero =>
    intro _ i hi _ hr
    have : ¬ i < k := fun z => hn i z hr
    show k ≤ i
    omega
  | succ m ih =>
    intro hm i hi hd hr
    obtain ⟨j1, -⟩ := cs_Ai h hk (m + 1) hm
    by_cases c : i < k
    · obtain ⟨w, y, hw, e, hr⟩ := hr
      obtain ⟨j, h1, h2, h3, h4⟩ := cs_edge h hi hw (by omega) e
      rw [← h2] at hr
      have lo := ih (by omega) j h1 (by omega) hr
      obtain ⟨n0, eA, -, -⟩ := cs_As h hk hm
      have hK := cs_Km h n0 lo h1
      rw [eA]
      omega
    · omega
theorem cs_A0 (h : cs_B nx x0 f Q K D t) (hk : k < f) : cs_A K k (D k) = 0 := by
  obtain ⟨i1, i2⟩ := cs_Ai h hk (D k) (Nat.le_refl _)
  by_cases e : cs_A K k (D k) = 0
  · exact e
  · obtain ⟨-, -, -, a4⟩ := h.2.2.2.2.1 (cs_A K k (D k)) (by omega) (by omega)
    omega
theorem cs_dist {l : Nat → Nat} (h : cs_B nx x0 f Q K D (3 * k)) (hk : k < f) (hn : ∀ j, j < k → ¬ gl (Q j)) (hg : gl (Q k)) (L1 : ∀ j n, j < f → cs_r nx gl n (Q j) → l (Q j) ≤ n) (L2 : ∀ j, j < f → l (Q j) < 1000000 → cs_r nx gl (l (Q j)) (Q j)) (hf : f ≤ 192) : ∀ m, m ≤ D k → l (Q (cs_A K k m)) = m := by
  intro m hm
  obtain ⟨i1, i2⟩ := cs_Ai h hk m hm
  have dk := cs_le h k k (Nat.le_refl _) hk
  have a := L1 (cs_A K k m) m (by omega) (cs_Ar h hk hg m hm)
  have b := cs_low h hk hn (l (Q (cs_A K k m))) (cs_A K k m) (by omega) (L2 (cs_A K k m) (by omega) (by omega))
  omega
theorem cs_word {l : Nat → Nat} (h : cs_B nx x0 f Q K D (3 * k)) (hk : k < f) (hn : ∀ j, j < k → ¬ gl (Q j)) (L2 : ∀ j, j < f → l (Q j) < 1000000 → cs_r nx gl (l (Q j)) (Q j)) (hf : f ≤ 192) {m w y : Nat} (hm : m + 1 ≤ D k) (hw : w < K (cs_A K k m) % 3) (e : nx (Q (cs_A K k (m + 1))) w = some y) : l y ≠ m := by
  intro hl
  obtain ⟨n0, eA, a2, -⟩ := cs_As h hk hm
  obtain ⟨i1, i2⟩ := cs_Ai h hk (m + 1) hm
  obtain ⟨i3, i4⟩ := cs_Ai h hk m (by omega)
  have dk := cs_le h k k (Nat.le_refl _) hk
  obtain ⟨j, h1, h2, h3, h4⟩ := cs_edge h (i := cs_A K k (m + 1)) (by omega) (by omega) (by omega) e
  have e5 : l (Q j) = m := by rw [h2]; exact hl
  have hr := L2 j h1 (by omega)
  rw [e5] at hr
  have lo := cs_Am h hk hn m (by omega) j h1 (by omega) hr
  have hK := cs_Km h n0 lo h1
  omega
theorem cs_skip {i w : Nat} (h : cs_B nx x0 f Q K D (3 * i + w)) (hw : w < 3) (c : ∀ y, nx (Q i) w = some y → ∃ j, j < f ∧ Q j = y) : cs_B nx x0 f Q K D (3 * i + w + 1) := by
  obtain ⟨h1, h2, h3, h4, h5, h6, h7⟩ := h
  refine ⟨h1, h2, h3, h4, fun j a b => ?_, h6, fun i' w' a b c' y e => ?_⟩
  · obtain ⟨b1, b2⟩ := h5 j a b
    exact ⟨by omega, b2⟩
  · by_cases z : 3 * i' + w' < 3 * i + w
    · exact h7 i' w' a b z y e
    · have e1 : i' = i := by omega
      have e2 : w' = w := by omega
      rw [e1, e2] at e
      obtain ⟨j, j1, j2⟩ := c y e
      refine ⟨j, j1, j2, ?_⟩
      by_cases j0 : j = 0
      · exact Or.inl j0
      · have := (h5 j (by omega) j1).1
        exact Or.inr (by omega)
theorem cs_new {i w y : Nat} (h : cs_B nx x0 f Q K D (3 * i + w)) (hw : w < 3) (hi : i < f) (e : nx (Q i) w = some y) (c : ∀ j, j < f → Q j ≠ y) : cs_B nx x0 (f + 1) (cr_u Q f y) (cr_u K f (3 * i + w)) (cr_u D f (D i + 1)) (3 * i + w + 1) := by
  obtain ⟨h1, h2, h3, h4, h5, h6, h7⟩ := h
  have uo : ∀ (q : Nat → Nat) (x j : Nat), j < f → cr_u q f x j = q j := fun q x j hj => if_neg (by omega)
  have ue : ∀ (q : Nat → Nat) (x : Nat), cr_u q f x f = x := fun q x => if_pos rfl
  have d3 : (3 * i + w) / 3 = i := by omega
  have m3 : (3 * i + w) % 3 = w := by omega
  refine ⟨by omega, by rw [uo Q y 0 h1]; exact h2, by rw [uo D _ 0 h1]; exact h3, fun a b hab hb => ?_, fun j j1 j2 => ?_, fun a b a1 hab hb => ?_, fun i' w' a b c' y' e' => ?_⟩
  · by_cases z : b = f
    · rw [uo Q y a (by omega), z, ue Q]; exact c a (by omega)
    · rw [uo Q y a (by omega), uo Q y b (by omega)]; exact h4 a b hab (by omega)
  · by_cases z : j = f
    · rw [z, ue K, d3, m3, ue Q, uo Q y i hi, ue D, uo D _ i hi]
      exact ⟨by omega, hi, e, rfl⟩
    · obtain ⟨b1, b2, b3, b4⟩ := h5 j j1 (by omega)
      rw [uo K _ j (by omega), uo Q y j (by omega), uo D _ j (by omega), uo Q y (K j / 3) (by omega), uo D _ (K j / 3) (by omega)]
      exact ⟨by omega, b2, b3, b4⟩
  · by_cases z : b = f
    · rw [z, ue K, uo K _ a (by omega)]; exact (h5 a a1 (by omega)).1
    · rw [uo K _ a (by omega), uo K _ b (by omega)]; exact h6 a b a1 hab (by omega)
  · have hi' : i' < f := by omega
    rw [uo Q y i' hi'] at e'
    by_cases z : 3 * i' + w' < 3 * i + w
    · obtain ⟨j, j1, j2, j3⟩ := h7 i' w' hi' b z y' e'
      exact ⟨j, by omega, by rw [uo Q y j j1]; exact j2, by rw [uo K _ j j1]; exact j3⟩
    · have e1 : i' = i := by omega
      have e2 : w' = w := by omega
      rw [e1, e2, e] at e'
      have e3 := Option.some.inj e'
      exact ⟨f, by omega, by rw [ue Q]; exact e3, Or.inr (by rw [ue K]; omega)⟩
end CSP
theorem cs_php : ∀ n f (Q : Nat → Nat), (∀ j, j < f → Q j < n) → (∀ i j, i < j → j < f → Q i ≠ Q j) → f ≤ n := by
  intro n
  induction n with
  | zero =>
    intro f Q h1 _
    by_cases e : f = 0
    · omega
    · exact absurd (h1 0 (by omega)) (by omega)
  | succ n ih =>
    intro f Q h1 h2
    by_cases c : ∃ j, j < f ∧ Q j = n
    · obtain ⟨j0, hj, e⟩ := c
      have hh : f - 1 ≤ n := by
        refine ih (f - 1) (fun i => if i < j0 then Q i else Q (i + 1)) (fun j hj2 => ?_) (fun i j hij hj2 => ?_)
        · show (if j < j0 then Q j else Q (j + 1)) < n
          by_cases a : j < j0
          · rw [if_pos a]
            have b1 := h1 j (by omega)
            have b2 := h2 j j0 a hj
            omega
          · rw [if_neg a]
            have b1 := h1 (j + 1) (by omega)
            have b2 := h2 j0 (j + 1) (by omega) (by omega)
            omega
        · show (if i < j0 then Q i else Q (i + 1)) ≠ (if j < j0 then Q j else Q (j + 1))
          by_cases a : i < j0
          · by_cases b : j < j0
            · rw [if_pos a, if_pos b]; exact h2 i j hij (by omega)
            · rw [if_pos a, if_neg b]; exact h2 i (j + 1) (by omega) (by omega)
          · rw [if_neg a, if_neg (by omega)]; exact h2 (i + 1) (j + 1) (by omega) (by omega)
      omega
    · have := ih f Q (fun j hj => by
        have a := h1 j hj
        have b : Q j ≠ n := fun z => c ⟨j, hj, z⟩
        omega) h2
      omega
