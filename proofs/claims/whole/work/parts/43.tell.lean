/-! held, lines, cost, both -/
def tellR (b : Int32) (c : Nat) (h : Nat → Int32) (x : Int32) : Int32 := if plD b c x = true then h x.toNatClampNeg else -1
def costR (b : Int32) (c : Nat) (Q : Nat → Nat) (K : Nat → Nat → Int32) (x y : Int32) : Int32 := if plD b c x = true then (if y < 0 then -1 else if nI (Q x.toNatClampNeg) ≤ y then -1 else K x.toNatClampNeg y.toNatClampNeg) else -1
section TELL
variable {S : Nat × (Nat → Int32)} {I : zI} {J : zJ} {c : Nat}
theorem s11 (x : Int32) (hc : c ≤ 4) (h : I 4 4 = nI c) : zq S 11 [.ref 0, .int x] I J (some (.int (tellR (I 0 9) c (fun s => I (7 + 12 * s) 14) x))) I J := by
  refine zq_of rfl ?_
  show zd S 11 0 [some (.ref 0), some (.int x)] [] I J (0, 0) = _
  unfold tellR
  rw [B11_0 ⟨rfl, rfl⟩ (s17 x h), B11_5]
  cases hp : plD (I 0 9) c x with
  | false => rw [if_pos ((bI_0 _).mpr rfl), B11_23, if_neg (by decide)]
  | true =>
    obtain ⟨s, s1, rfl⟩ := plD_n (by omega) hp
    have hs : s < 4 := by omega
    have hcl : (nI s).toNatClampNeg = s := nI_clamp (by omega)
    rw [if_neg (by decide), B11_8 hs (zin_n hs (by decide)) (by rw [hcl]; exact st4 hs), if_pos rfl, hcl]
theorem s140 (x : Int32) (hc : c ≤ 4) (h : I 76 13 = nI c) : zq S 140 [.ref 76, .int x] I J (some (.int (tellR (I 76 24) c (I 93) x))) I J := by
  refine zq_of rfl ?_
  show zd S 140 0 [some (.ref 76), some (.int x)] [] I J (0, 0) = _
  unfold tellR
  rw [B140_0 ⟨rfl, rfl⟩ (s139 x h), B140_5]
  cases hp : plD (I 76 24) c x with
  | false => rw [if_pos ((bI_0 _).mpr rfl), B140_17, if_neg (by decide)]
  | true =>
    obtain ⟨s, s1, rfl⟩ := plD_n (by omega) hp
    rw [if_neg (by decide), B140_8 (zin_n (by omega) (by decide)), if_pos rfl]
theorem s12 (x : Int32) (hc : c ≤ 4) (h : I 4 4 = nI c) : zq S 12 [.ref 0, .int x] I J (some (.int (tellR (I 0 9) c (fun s => if I (7 + 12 * s) 14 = 1 then 0 else I (7 + 12 * s) 15) x))) I J := by
  refine zq_of rfl ?_
  show zd S 12 0 [some (.ref 0), some (.int x), none] [] I J (0, 0) = _
  unfold tellR
  rw [B12_0 ⟨rfl, rfl⟩ (s17 x h), B12_5]
  cases hp : plD (I 0 9) c x with
  | false => rw [if_neg (not_not_intro ((bI_0 _).mpr rfl)), B12_8, if_neg Bool.false_ne_true]
  | true =>
    obtain ⟨s, s1, rfl⟩ := plD_n (by omega) hp
    have hs : s < 4 := by omega
    have hcl : (nI s).toNatClampNeg = s := nI_clamp (by omega)
    rw [if_pos (by decide), B12_10 hs (zin_n hs (by decide)) (by rw [hcl]; exact st4 hs), hcl, if_pos (rfl : true = true)]
    dsimp only
    by_cases h1 : I (7 + 12 * s) 14 = 1
    · rw [if_neg (not_not_intro h1), B12_28 hs, if_pos h1]
    · rw [if_pos h1, B12_32 hs, if_neg h1]
theorem s141 (x : Int32) (hc : c ≤ 4) (h : I 76 13 = nI c) : zq S 141 [.ref 76, .int x] I J (some (.int (tellR (I 76 24) c (I 94) x))) I J := by
  refine zq_of rfl ?_
  show zd S 141 0 [some (.ref 76), some (.int x)] [] I J (0, 0) = _
  unfold tellR
  rw [B141_0 ⟨rfl, rfl⟩ (s139 x h), B141_5]
  cases hp : plD (I 76 24) c x with
  | false => rw [if_pos ((bI_0 _).mpr rfl), B141_17, if_neg (by decide)]
  | true =>
    obtain ⟨s, s1, rfl⟩ := plD_n (by omega) hp
    rw [if_neg (by decide), B141_8 (zin_n (by omega) (by decide)), if_pos rfl]
theorem s13 {Q : Nat → Nat} (x y : Int32) (hc : c ≤ 4) (h : I 4 4 = nI c) (hQ : ∀ s, s < c → Q s ≤ 4 ∧ I (7 + 12 * s) 11 = nI (Q s)) : zq S 13 [.ref 0, .int x, .int y] I J (some (.int (costR (I 0 9) c Q (fun s => I (10 + 12 * s)) x y))) I J := by
  refine zq_of rfl ?_
  show zd S 13 0 [some (.ref 0), some (.int x), some (.int y)] [] I J (0, 0) = _
  unfold costR
  rw [B13_0 ⟨rfl, rfl⟩ (s17 x h), B13_5]
  cases hp : plD (I 0 9) c x with
  | false => rw [if_pos ((bI_0 _).mpr rfl), B13_28, if_neg Bool.false_ne_true]
  | true =>
    obtain ⟨s, s1, rfl⟩ := plD_n (by omega) hp
    have hs : s < 4 := by omega
    have hcl : (nI s).toNatClampNeg = s := nI_clamp (by omega)
    have hz : zin (nI s) 4 = true := zin_n hs (by decide)
    have h4 : ([7, 19, 31, 43] : List Nat)[(nI s).toNatClampNeg]? = some (7 + 12 * s) := by rw [hcl]; exact st4 hs
    obtain ⟨q4, q11⟩ := hQ s s1
    rw [if_neg (by decide), B13_8, if_pos (rfl : true = true)]
    by_cases h1 : y < 0
    · rw [if_pos h1, B13_28, if_pos h1]
    · rw [if_neg h1, B13_12 hs hz h4, q11, if_neg h1, hcl]
      by_cases h2 : nI (Q s) ≤ y
      · have h3 : ¬ y < nI (Q s) := Int32.not_lt.mpr h2
        rw [if_neg h3, B13_28, if_pos h2]
      · have h3 : y < nI (Q s) := Int32.not_le.mp h2
        have hy : ∃ j : Nat, j < Q s ∧ y = nI j := by
          rcases pk_ix y (n := Q s) (by omega) with g | g | g
          · exact absurd g h1
          · exact absurd g h2
          · exact g
        obtain ⟨j, j1, rfl⟩ := hy
        rw [if_pos h3, B13_30 hs hz h4 (zin_n (by omega) (by decide)), if_neg h2]
theorem s142 {Q : Nat → Nat} (x y : Int32) (hc : c ≤ 4) (h : I 76 13 = nI c) (hQ : ∀ s, s < c → Q s ≤ 4 ∧ I 88 s = nI (Q s)) : zq S 142 [.ref 76, .int x, .int y] I J (some (.int (costR (I 76 24) c Q (fun s p => I 98 (4 * s + p)) x y))) I J := by
  refine zq_of rfl ?_
  show zd S 142 0 [some (.ref 76), some (.int x), some (.int y)] [] I J (0, 0) = _
  unfold costR
  rw [B142_0 ⟨rfl, rfl⟩ (s139 x h), B142_5]
  cases hp : plD (I 76 24) c x with
  | false => rw [if_pos ((bI_0 _).mpr rfl), B142_35, if_neg Bool.false_ne_true]
  | true =>
    obtain ⟨s, s1, rfl⟩ := plD_n (by omega) hp
    have hs : s < 4 := by omega
    have hcl : (nI s).toNatClampNeg = s := nI_clamp (by omega)
    have hz : zin (nI s) 4 = true := zin_n hs (by decide)
    obtain ⟨q4, q88⟩ := hQ s s1
    rw [if_neg (by decide), B142_8, if_pos (rfl : true = true)]
    by_cases h1 : y < 0
    · rw [if_pos h1, B142_35, if_pos h1]
    · rw [if_neg h1, B142_12 hz, hcl, q88, if_neg h1]
      by_cases h2 : nI (Q s) ≤ y
      · rw [if_pos h2, B142_35, if_pos h2]
      · have hy : ∃ j : Nat, j < Q s ∧ y = nI j := by
          rcases pk_ix y (n := Q s) (by omega) with g | g | g
          · exact absurd g h1
          · exact absurd g h2
          · exact g
        obtain ⟨j, j1, rfl⟩ := hy
        have e : 4 * nI s + nI j = nI (4 * s + j) := by rw [show (4 : Int32) = nI 4 from rfl, pk_mul, nI_add]
        rw [if_neg h2, B142_22 (by rw [e]; exact zin_n (by omega) (by decide)), e, nI_clamp (by omega), if_neg h2, nI_clamp (by omega)]
end TELL
