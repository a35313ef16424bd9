/-! is it planned; cell, both -/
def plD (b : Int32) (c : Nat) (x : Int32) : Bool := !decide (b = 0) && (!decide (x < 0) && !decide (nI c ≤ x))
theorem plD_n {b : Int32} {c : Nat} {x : Int32} (hc : c < 2 ^ 31) (h : plD b c x = true) : ∃ s : Nat, s < c ∧ x = nI s := by
  unfold plD at h
  rw [Bool.and_eq_true, Bool.and_eq_true, Bool.not_eq_true', Bool.not_eq_true', Bool.not_eq_true', decide_eq_false_iff_not, decide_eq_false_iff_not, decide_eq_false_iff_not] at h
  rcases pk_ix x hc with h1 | h1 | h1
  · exact absurd h1 h.2.1
  · exact absurd h1 h.2.2
  · exact h1
def hasC (C R : Nat) (x y z : Int32) : Bool := !decide (x < 0) && (!decide (3 ≤ x) && (!decide (y < 0) && (!decide (nI C ≤ y) && (!decide (z < 0) && !decide (nI R ≤ z)))))
theorem hasC_n {C R : Nat} {x y z : Int32} (hC : C ≤ 4) (hR : R ≤ 16) (h : hasC C R x y z = true) : ∃ p c r : Nat, p < 3 ∧ c < C ∧ r < R ∧ x = nI p ∧ y = nI c ∧ z = nI r := by
  unfold hasC at h
  rw [Bool.and_eq_true, Bool.and_eq_true, Bool.and_eq_true, Bool.and_eq_true, Bool.and_eq_true, Bool.not_eq_true', Bool.not_eq_true', Bool.not_eq_true', Bool.not_eq_true', Bool.not_eq_true', Bool.not_eq_true', decide_eq_false_iff_not, decide_eq_false_iff_not, decide_eq_false_iff_not, decide_eq_false_iff_not, decide_eq_false_iff_not, decide_eq_false_iff_not] at h
  obtain ⟨h1, h2, h3, h4, h5, h6⟩ := h
  have e1 : ∃ p : Nat, p < 3 ∧ x = nI p := by
    rcases pk_ix x (n := 3) (by decide) with g | g | g
    · exact absurd g h1
    · exact absurd g h2
    · exact g
  have e2 : ∃ p : Nat, p < C ∧ y = nI p := by
    rcases pk_ix y (n := C) (by omega) with g | g | g
    · exact absurd g h3
    · exact absurd g h4
    · exact g
  have e3 : ∃ p : Nat, p < R ∧ z = nI p := by
    rcases pk_ix z (n := R) (by omega) with g | g | g
    · exact absurd g h5
    · exact absurd g h6
    · exact g
  obtain ⟨p, p1, p2⟩ := e1
  obtain ⟨c, c1, c2⟩ := e2
  obtain ⟨r, r1, r2⟩ := e3
  exact ⟨p, c, r, p1, c1, r1, p2, c2, r2⟩
section CELL
variable {S : Nat × (Nat → Int32)} {I : zI} {J : zJ}
theorem s17 {c : Nat} (x : Int32) (h : I 4 4 = nI c) : zq S 17 [.ref 0, .int x] I J (some (.int (bI (plD (I 0 9) c x)))) I J := by
  refine zq_of rfl ?_
  show zd S 17 0 [some (.ref 0), some (.int x)] [] I J (0, 0) = _
  unfold plD
  rw [B17_0]
  by_cases h1 : I 0 9 = 0
  · rw [if_pos h1, B17_26 rfl, decide_eq_true h1]; rfl
  · rw [if_neg h1, B17_7, decide_eq_false h1]
    by_cases h2 : x < 0
    · rw [if_pos h2, B17_26 rfl, decide_eq_true h2]; rfl
    · rw [if_neg h2, B17_11, h, decide_eq_false h2]
      by_cases h3 : nI c ≤ x
      · rw [if_pos h3, B17_26 rfl, decide_eq_true h3]; rfl
      · rw [if_neg h3, B17_22 rfl, decide_eq_false h3]; rfl
theorem s139 {c : Nat} (x : Int32) (h : I 76 13 = nI c) : zq S 139 [.ref 76, .int x] I J (some (.int (bI (plD (I 76 24) c x)))) I J := by
  refine zq_of rfl ?_
  show zd S 139 0 [some (.ref 76), some (.int x)] [] I J (0, 0) = _
  unfold plD
  rw [B139_0]
  by_cases h1 : I 76 24 = 0
  · rw [if_pos h1, B139_23 rfl, decide_eq_true h1]; rfl
  · rw [if_neg h1, B139_7, decide_eq_false h1]
    by_cases h2 : x < 0
    · rw [if_pos h2, B139_23 rfl, decide_eq_true h2]; rfl
    · rw [if_neg h2, B139_11, h, decide_eq_false h2]
      by_cases h3 : nI c ≤ x
      · rw [if_pos h3, B139_23 rfl, decide_eq_true h3]; rfl
      · rw [if_neg h3, B139_19 rfl, decide_eq_false h3]; rfl
theorem s82 {C R : Nat} (x y z : Int32) (hC : I 70 0 = nI C) (hR : I 70 1 = nI R) : zq S 82 [.ref 70, .int x, .int y, .int z] I J (some (.int (bI (hasC C R x y z)))) I J := by
  refine zq_of rfl ?_
  show zd S 82 0 [some (.ref 70), some (.int x), some (.int y), some (.int z)] [] I J (0, 0) = _
  unfold hasC
  rw [B82_0]
  by_cases h1 : x < 0
  · rw [if_pos h1, B82_37 rfl, decide_eq_true h1]; rfl
  · rw [if_neg h1, B82_4, decide_eq_false h1]
    by_cases h2 : 3 ≤ x
    · rw [if_pos h2, B82_37 rfl, decide_eq_true h2]; rfl
    · rw [if_neg h2, B82_9, decide_eq_false h2]
      by_cases h3 : y < 0
      · rw [if_pos h3, B82_37 rfl, decide_eq_true h3]; rfl
      · rw [if_neg h3, B82_13, decide_eq_false h3, hC]
        by_cases h4 : nI C ≤ y
        · rw [if_pos h4, B82_37 rfl, decide_eq_true h4]; rfl
        · rw [if_neg h4, B82_21, decide_eq_false h4]
          by_cases h5 : z < 0
          · rw [if_pos h5, B82_37 rfl, decide_eq_true h5]; rfl
          · rw [if_neg h5, B82_25, decide_eq_false h5, hR]
            by_cases h6 : nI R ≤ z
            · rw [if_pos h6, B82_37 rfl, decide_eq_true h6]; rfl
            · rw [if_neg h6, B82_33 rfl, decide_eq_false h6]; rfl
theorem s144 {C R : Nat} (x y z : Int32) (hC : I 76 0 = nI C) (hR : I 76 1 = nI R) : zq S 144 [.ref 76, .int x, .int y, .int z] I J (some (.int (bI (hasC C R x y z)))) I J := by
  refine zq_of rfl ?_
  show zd S 144 0 [some (.ref 76), some (.int x), some (.int y), some (.int z)] [] I J (0, 0) = _
  unfold hasC
  rw [B144_0]
  by_cases h1 : x < 0
  · rw [if_pos h1, B144_37 rfl, decide_eq_true h1]; rfl
  · rw [if_neg h1, B144_4, decide_eq_false h1]
    by_cases h2 : 3 ≤ x
    · rw [if_pos h2, B144_37 rfl, decide_eq_true h2]; rfl
    · rw [if_neg h2, B144_9, decide_eq_false h2]
      by_cases h3 : y < 0
      · rw [if_pos h3, B144_37 rfl, decide_eq_true h3]; rfl
      · rw [if_neg h3, B144_13, decide_eq_false h3, hC]
        by_cases h4 : nI C ≤ y
        · rw [if_pos h4, B144_37 rfl, decide_eq_true h4]; rfl
        · rw [if_neg h4, B144_21, decide_eq_false h4]
          by_cases h5 : z < 0
          · rw [if_pos h5, B144_37 rfl, decide_eq_true h5]; rfl
          · rw [if_neg h5, B144_25, decide_eq_false h5, hR]
            by_cases h6 : nI R ≤ z
            · rw [if_pos h6, B144_37 rfl, decide_eq_true h6]; rfl
            · rw [if_neg h6, B144_33 rfl, decide_eq_false h6]; rfl
/-- the place of a cell -/
def cAt (x y z : Int32) : Nat := 64 * x.toNatClampNeg + 16 * y.toNatClampNeg + z.toNatClampNeg
def cellR (g : Nat → Int32) (C R : Nat) (x y z : Int32) : Int32 := if hasC C R x y z = true then g (cAt x y z) else -1
theorem cAt_n {p c r : Nat} (hp : p < 3) (hc : c < 4) (hr : r < 16) : cAt (nI p) (nI c) (nI r) = 64 * p + 16 * c + r := by
  unfold cAt
  rw [nI_clamp (by omega), nI_clamp (by omega), nI_clamp (by omega)]
theorem s83 {p c r : Nat} (hp : p < 3) (hc : c < 4) (hr : r < 16) : zq S 83 [.ref 70, .int (nI p), .int (nI c), .int (nI r)] I J (some (.int (I 71 (64 * p + 16 * c + r)))) I J := by
  refine zq_of rfl ?_
  show zd S 83 0 [some (.ref 70), some (.int (nI p)), some (.int (nI c)), some (.int (nI r))] [] I J (0, 0) = _
  have e : (nI p * 4 + nI c) * 16 + nI r = nI (64 * p + 16 * c + r) := by
    rw [show (4 : Int32) = nI 4 from rfl, show (16 : Int32) = nI 16 from rfl, pk_mul, nI_add, pk_mul, nI_add]
    congr 1
    omega
  rw [B83_0 (by rw [e]; exact zin_n (by omega) (by decide)), e, nI_clamp (by omega)]
theorem s15 {C R : Nat} (x y z : Int32) (hC4 : C ≤ 4) (hR16 : R ≤ 16) (hC : I 70 0 = nI C) (hR : I 70 1 = nI R) : zq S 15 [.ref 0, .int x, .int y, .int z] I J (some (.int (cellR (I 71) C R x y z))) I J := by
  refine zq_of rfl ?_
  show zd S 15 0 [some (.ref 0), some (.int x), some (.int y), some (.int z)] [] I J (0, 0) = _
  unfold cellR
  rw [B15_0 ⟨rfl, rfl⟩ (s82 x y z hC hR), B15_13]
  cases h : hasC C R x y z with
  | false => rw [if_pos ((bI_0 _).mpr rfl), B15_32, if_neg (by decide)]
  | true =>
    obtain ⟨p, c, r, p1, c1, r1, rfl, rfl, rfl⟩ := hasC_n hC4 hR16 h
    rw [if_neg (by decide), B15_16 ⟨rfl, rfl⟩ (s83 p1 (by omega) (by omega)), B15_29, if_pos rfl, cAt_n p1 (by omega) (by omega)]
theorem s145 {C R : Nat} (x y z : Int32) (hC4 : C ≤ 4) (hR16 : R ≤ 16) (hC : I 76 0 = nI C) (hR : I 76 1 = nI R) : zq S 145 [.ref 76, .int x, .int y, .int z] I J (some (.int (cellR (I 105) C R x y z))) I J := by
  refine zq_of rfl ?_
  show zd S 145 0 [some (.ref 76), some (.int x), some (.int y), some (.int z)] [] I J (0, 0) = _
  unfold cellR
  rw [B145_0 ⟨rfl, rfl⟩ (s144 x y z hC hR), B145_7]
  cases h : hasC C R x y z with
  | false => rw [if_pos ((bI_0 _).mpr rfl), B145_29, if_neg (by decide)]
  | true =>
    obtain ⟨p, c, r, p1, c1, r1, rfl, rfl, rfl⟩ := hasC_n hC4 hR16 h
    have e : 64 * nI p + 16 * nI c + nI r = nI (64 * p + 16 * c + r) := by
      rw [show (64 : Int32) = nI 64 from rfl, show (16 : Int32) = nI 16 from rfl, pk_mul, pk_mul, nI_add, nI_add]
    rw [if_neg (by decide), B145_10 (by rw [e]; exact zin_n (by omega) (by decide)), e, nI_clamp (by omega), if_pos rfl, cAt_n p1 (by omega) (by omega)]
end CELL
