-- ===== the start; the whole claim =====
def sig0 : ST := (fun _ => 0, fun _ => 0, fun _ => 0, [], (0, fun _ => 0), fun _ => (false, 0, 0), fun _ _ => 0)
theorem I0_z {a j : Nat} (h : a ≠ 122) : I0 a j = nI 0 := by unfold I0; rw [if_neg h]; rfl
theorem I0_m : ∀ k, k < 4 → I0 122 k = -1 := by decide +kernel
theorem okF0 : okF (fun _ => 0) := ⟨Nat.zero_le _, Nat.zero_le _, Nat.zero_le _, Nat.zero_le _, fun _ _ => Nat.zero_le _, fun s hs => absurd hs (Nat.not_lt_zero s), fun _ _ => Nat.zero_le _, fun _ _ _ => rfl⟩
theorem FlC0 {o : Nat} (h : o + 7 < 122) : FlC I0 o (fun _ => 0) :=
  ⟨I0_z (by omega), I0_z (by omega), I0_z (by omega), fun c hc _ => absurd hc (Nat.not_lt_zero _), fun s hs => absurd hs (Nat.not_lt_zero s), fun t _ => I0_z (by omega), I0_z (by omega)⟩
theorem rel0 : Rel I0 J0 := by
  refine ⟨sig0, ⟨okF0, okF0, okF0, Nat.zero_le _, trivial, Nat.zero_le _, fun j hj => absurd hj (Nat.not_lt_zero j), fun k _ => ⟨by show 0 < 4; omega, Nat.zero_le _⟩⟩, ⟨⟨I0_z (by omega), fun j hj => absurd hj (Nat.not_lt_zero j)⟩, FlC0 (by omega), FlC0 (by omega), FlC0 (by omega), ⟨I0_z (by omega), 0, by omega, I0_z (by omega), fun i s F hi => ?_⟩, fun k hk => ⟨?_, I0_z (by omega), I0_z (by omega), fun _ _ => rfl⟩⟩, ⟨⟨I0_z (by omega), fun j hj => absurd hj (Nat.not_lt_zero j)⟩, fun j _ => I0_z (by omega), fun j _ => I0_z (by omega), fun j _ => I0_z (by omega), ⟨I0_z (by omega), fun i s F hi => ?_⟩, fun k hk => ⟨?_, I0_z (by omega), fun _ _ => rfl⟩⟩⟩
  · have hi : ([] : List (Nat × NF))[i]? = some (s, F) := hi
    rw [List.getElem?_nil] at hi; cases hi
  · rw [I0_z (by omega)]; rfl
  · have hi : ([] : List (Nat × NF))[i]? = some (s, F) := hi
    rw [List.getElem?_nil] at hi; cases hi
  · rw [I0_m k hk]; rfl
