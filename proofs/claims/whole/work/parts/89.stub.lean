/-- stubs -/
theorem zOK_ok : zOK := sorry
/-- the law's script as the small machine's heap: object 0 -/
def h0 (L : Nat) (xs : Nat → Int32) : HP := ((1, 0, 0), fun _ => (6, (L : Int)), fun _ j => (xs j.toNat).toInt, fun _ _ => none)
/-- WHAT IS LEFT, of numbers alone: on every script the small machine comes to its end with 1, within the room -/
def PureOK : Prop := ∀ (L : Nat) (xs : Nat → Int32), L ≤ 3072 → ∃ (n : Nat) (hf : HP), ex n 315 0 (zpad 315 [.inr (.inl (some 0))]) [] (h0 L xs) = some (hf, .inl (some (.inl 1))) ∧ hf.1.2.1 ≤ 601024 ∧ hf.1.2.2 ≤ 7293034
theorem pure_ok : PureOK := sorry
