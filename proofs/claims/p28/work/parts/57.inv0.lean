/-! the start -/
theorem inv_0 : Inv0 0 cs0 rs0 := by
  have up_ne : ∀ j : Nat, j ≠ 0 → upd (fun _ => (0 : Int32)) (0 : Int32).toNatClampNeg 8 j = 0 := fun j hj => pk_un hj
  refine ⟨⟨0, 0, 0, ⟨rfl, rfl, rfl⟩, ?_, ?_, fun w hw => absurd hw (Nat.not_lt_zero _), fun w hw => absurd hw (Nat.not_lt_zero _), fun w w' hw => absurd hw (Nat.not_lt_zero _), ?_, fun w hw => absurd hw (Nat.not_lt_zero _), fun w hw => absurd hw (Nat.not_lt_zero _), fun w hw => absurd hw (Nat.not_lt_zero _)⟩, ⟨0, 0, rfl, rfl, rfl, by omega, by omega, fun i hi => absurd hi (Nat.not_lt_zero _)⟩, ⟨0, Nat.zero_le _, rfl, rfl, fun i hi => absurd hi (Nat.not_lt_zero _)⟩, fun k hk => ⟨rfl, fun q => by cases q⟩⟩
  · exact ⟨Nat.zero_le _, Nat.zero_le _, fun w hw => absurd hw (Nat.not_lt_zero _), fun w hw => absurd hw (Nat.not_lt_zero _), fun i _ => b_0 i, fun i _ => b_0 i, fun k j hk => absurd hk (Nat.not_lt_zero _), fun k j hk => absurd hk (Nat.not_lt_zero _)⟩
  · exact ⟨Nat.zero_le _, ⟨8, by omega, by omega, rfl⟩, fun w hw => absurd hw (Nat.not_lt_zero _)⟩
  · exact ⟨rfl, up_ne 1 (by omega), up_ne 2 (by omega), up_ne 3 (by omega)⟩
