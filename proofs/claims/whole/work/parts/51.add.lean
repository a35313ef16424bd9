/-! plan: a line is added -/
section ADD
variable {S : Nat × (Nat → Int32)} {I : zI} {J : zJ}
theorem s91 {s c : Nat} (x y z : Int32) (hs : s < 4) (hc : c < 2 ^ 30) (h : I (7 + 12 * s) 15 = nI c) : zq S 91 [.ref (7 + 12 * s), .int x, .int y, .int z] I J none (u2 (if c < 40 then u2 (u2 (u2 I (11 + 12 * s) c x) (12 + 12 * s) c y) (13 + 12 * s) c z else I) (7 + 12 * s) 15 (nI (c + 1))) J := by
  refine zq_of rfl ?_
  show zd S 91 0 [some (.ref (7 + 12 * s)), some (.int x), some (.int y), some (.int z)] [] I J (0, 0) = _
  have e40 : 40 ≤ nI c ↔ 40 ≤ c := nI_leI (a := 40) (by decide) (by omega)
  have hcl : (nI c).toNatClampNeg = c := nI_clamp (by omega)
  rw [B91_0 hs, h]
  by_cases h4 : c < 40
  · have hz : zin (nI c) 40 = true := zin_n h4 (by decide)
    have a1 : (u2 I (11 + 12 * s) c x) (7 + 12 * s) 15 = nI c := by rw [u2n (nbeq (by omega))]; exact h
    have a2 : (u2 (u2 I (11 + 12 * s) c x) (12 + 12 * s) c y) (7 + 12 * s) 15 = nI c := by rw [u2n (nbeq (by omega))]; exact a1
    have a3 : (u2 (u2 (u2 I (11 + 12 * s) c x) (12 + 12 * s) c y) (13 + 12 * s) c z) (7 + 12 * s) 15 = nI c := by rw [u2n (nbeq (by omega))]; exact a2
    rw [if_neg (fun g => by have := e40.mp g; omega), B91_9 hs (by rw [h]; exact hz), h, hcl, B91_19 hs (by rw [a1]; exact hz), a1, hcl, B91_29 hs (by rw [a2]; exact hz), a2, hcl, B91_39 hs, a3, nI_1, B91_49 hs, if_pos h4]
  · rw [if_pos (e40.mpr (by omega)), B91_39 hs, h, nI_1, B91_49 hs, if_neg h4]
end ADD
