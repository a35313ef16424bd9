/-! plan: what the painter keeps; a line is added -/
section KEEP
variable {S : Nat × (Nat → Int32)} {I : zI} {J : zJ}
theorem s39 (h : ∀ i, i < 480 → zfit 2 (I 5 i) = true) : ∃ f g : Nat → Int32, zq S 39 [.ref 73, .ref 5, .ref 1] I J none (uc (uc I 74 f) 75 g) J ∧ (∀ i, i < 480 → f i = I 5 i) ∧ (∀ i, i < 26 → g i = I 1 i) := by
  have e1 : (uc I 74 (va_cpy (I 5) (I 74) (0 : Int32).toNatClampNeg (0 : Int32).toNatClampNeg (480 : Int32).toNatClampNeg)) 1 = I 1 := ucn rfl
  refine ⟨va_cpy (I 5) (I 74) (0 : Int32).toNatClampNeg (0 : Int32).toNatClampNeg (480 : Int32).toNatClampNeg, va_cpy (I 1) (I 75) (0 : Int32).toNatClampNeg (0 : Int32).toNatClampNeg (26 : Int32).toNatClampNeg, zq_of rfl ?_, ?_, ?_⟩
  · show zd S 39 0 [some (.ref 73), some (.ref 5), some (.ref 1)] [] I J (0, 0) = _
    have g6 : ∀ i, i < (480 : Int32).toNatClampNeg → zfit 2 (I 5 ((0 : Int32).toNatClampNeg + i)) = true := by
      intro i hi
      rw [show (0 : Int32).toNatClampNeg + i = i from Nat.zero_add i]
      exact h i hi
    rw [B39_0 (by decide) (by decide) (by decide) g6, B39_13 (by decide) (by decide) (by decide) (fun i hi => rfl), B39_25, e1, ucn (a := 74) (b := 75) rfl]
  · intro i hi
    show va_cpy (I 5) (I 74) 0 0 480 i = I 5 i
    rw [pk_cpy_in (Nat.zero_le _) (by omega), Nat.zero_add, Nat.sub_zero]
  · intro i hi
    show va_cpy (I 1) (I 75) 0 0 26 i = I 1 i
    rw [pk_cpy_in (Nat.zero_le _) (by omega), Nat.zero_add, Nat.sub_zero]
end KEEP
