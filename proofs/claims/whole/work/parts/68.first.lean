/-! ===== the first state ===== -/
def a0 : ab := (fun _ => 0, fun _ _ => 0, fun _ _ => 0)
theorem wf_a0 : WF a0 := by
  refine ⟨Nat.zero_le _, fun j hj => absurd hj (Nat.not_lt_zero _), Nat.zero_le _, Nat.zero_le _, ⟨Nat.zero_le _, fun j hj => absurd hj (Nat.not_lt_zero _)⟩, ⟨Nat.zero_le _, fun j hj => absurd hj (Nat.not_lt_zero _)⟩, ⟨Nat.zero_le _, fun j hj => absurd hj (Nat.not_lt_zero _)⟩, ⟨Nat.zero_le _, fun j hj => absurd hj (Nat.not_lt_zero _)⟩, ⟨Nat.zero_le _, fun j hj => absurd hj (Nat.not_lt_zero _)⟩, ⟨Nat.zero_le _, fun j hj => absurd hj (Nat.not_lt_zero _)⟩, ⟨Nat.zero_le _, fun j hj => absurd hj (Nat.not_lt_zero _)⟩, fun s hs => ⟨Nat.zero_le _, Nat.zero_le _, Nat.zero_le _⟩⟩
theorem dd_a0 : dd a0 = 0 := by
  unfold dd
  rw [if_neg (show ¬ tbad a0 < a0.1 0 from Nat.not_lt_zero _), if_pos (show a0.1 0 = 0 ∨ a0.1 0 % 3 = 2 from Or.inl rfl)]
  rfl
theorem el_a0 : el a0 = 0 := by
  unfold el
  rw [dd_a0]
  rfl
theorem flt_a0 : tflt a0 = -1 := by
  unfold tflt
  rw [if_neg (show ¬ tbad a0 < a0.1 0 from Nat.not_lt_zero _), if_pos (show a0.1 0 = 0 ∨ a0.1 0 % 3 = 2 from Or.inl rfl)]
theorem inv0_first : Inv0 a0 s0_0 := by
  refine ⟨wf_a0, ⟨⟨rfl, fun j hj => absurd hj (Nat.not_lt_zero _), ?_, ?_, ?_, ?_⟩, ⟨rfl, rfl, rfl⟩, ⟨rfl, rfl, fun j hj => absurd hj (Nat.not_lt_zero _)⟩, ⟨rfl, rfl, fun j hj => absurd hj (Nat.not_lt_zero _)⟩, ⟨rfl, rfl, fun j hj => absurd hj (Nat.not_lt_zero _)⟩, ⟨rfl, rfl, fun j hj => absurd hj (Nat.not_lt_zero _)⟩, ⟨rfl, rfl, fun j hj => absurd hj (Nat.not_lt_zero _)⟩, ⟨rfl, rfl, fun j hj => absurd hj (Nat.not_lt_zero _)⟩, ⟨rfl, rfl, fun j hj => absurd hj (Nat.not_lt_zero _)⟩, fun s hs => ?_⟩, fun h => absurd h (by decide)⟩
  · rw [dd_a0]; rfl
  · rw [el_a0]; rfl
  · rw [flt_a0]; rfl
  · rw [dd_a0]; exact fun j hj => absurd hj (Nat.not_lt_zero _)
  · refine ⟨fun _ => ?_, fun h => absurd (show (0 : Nat) = 1 from h) (by decide)⟩
    match s, hs with
    | 0, _ => exact ⟨rfl, rfl⟩
    | 1, _ => exact ⟨rfl, rfl⟩
    | 2, _ => exact ⟨rfl, rfl⟩
    | 3, _ => exact ⟨rfl, rfl⟩
    | k + 4, h => omega
theorem inv1_first : Inv1 a0 s0_1 := by
  have z : ∀ {c : Nat} {f : Nat → Nat}, C1 s0_1 c 0 f := fun j hj => absurd hj (Nat.not_lt_zero _)
  exact ⟨wf_a0, ⟨rfl, z⟩, ⟨rfl, rfl, rfl⟩, ⟨rfl, z, z⟩, ⟨rfl, z⟩, ⟨rfl, z, z⟩, ⟨rfl, z, z, z⟩, ⟨rfl, z, z⟩, ⟨rfl, z, z⟩, ⟨rfl, z, z, z⟩, fun s hs => ⟨rfl, fun h => absurd (show (0 : Nat) = 1 from h) (by decide)⟩⟩
