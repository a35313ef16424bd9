/-! part, both -/
/-- what a part tells: 0 to 6 its fields, 7 to 10 its columns -/
def ptT (h g : Nat → Int32) (z : Int32) : Int32 := if z < 0 then -1 else if 10 < z then -1 else if z.toNatClampNeg < 7 then h (z.toNatClampNeg + 1) else g (z.toNatClampNeg - 7)
def partR (b : Int32) (c : Nat) (Q : Nat → Nat) (K : Nat → Nat → Int32 → Int32) (x y z : Int32) : Int32 := if plD b c x = true then (if y < 0 then -1 else if nI (Q x.toNatClampNeg) ≤ y then -1 else K x.toNatClampNeg y.toNatClampNeg z) else -1
theorem ptT_n {h g : Nat → Int32} {i : Nat} (hi : i < 11) : ptT h g (nI i) = if i < 7 then h (i + 1) else g (i - 7) := by
  have h1 : ¬ nI i < 0 := nI_pos (by omega)
  have h2 : ¬ (10 : Int32) < nI i := nI_nlt (a := 10) (b := i) (by omega) (by decide)
  unfold ptT
  rw [if_neg h1, if_neg h2, nI_clamp (by omega)]
theorem ix11 (z : Int32) : z < 0 ∨ 10 < z ∨ ∃ i : Nat, i < 11 ∧ z = nI i := by
  rcases pk_ix z (n := 11) (by decide) with g | g | g
  · exact Or.inl g
  · right
    left
    have h1 : (10 : Int32) < nI 11 := nI_lt (a := 10) (by decide) (by decide)
    exact Int32.lt_of_lt_of_le h1 g
  · exact Or.inr (Or.inr g)
section PART
variable {S : Nat × (Nat → Int32)} {I : zI} {J : zJ} {c : Nat}
theorem s50 {s p : Nat} (z : Int32) (hs : s < 4) (hp : p < 2) : zq S 50 [.ref (15 + 12 * s + 2 * p), .int z] I J (some (.int (ptT (I (15 + 12 * s + 2 * p)) (I (16 + 12 * s + 2 * p)) z))) I J := by
  refine zq_of rfl ?_
  show zd S 50 0 [some (.ref (15 + 12 * s + 2 * p)), some (.int z)] [] I J (0, 0) = _
  have far : ∀ z : Int32, z < 0 ∨ 10 < z → zd S 50 79 [some (.ref (15 + 12 * s + 2 * p)), some (.int z)] [] I J (0, 0) = some (some (.int (-1)), mk I J, (0, 0)) := by
    intro z hz
    rw [B50_79 hs hp]
    by_cases h7 : z < 7
    · rw [if_pos h7, B50_103 hs hp]
    · have h11 : 11 ≤ z := by
        rcases hz with hz | hz
        · exact absurd (Int32.lt_trans hz (by decide)) h7
        · rw [Int32.lt_iff_toInt_lt] at hz
          rw [Int32.le_iff_toInt_le]
          have e1 : (10 : Int32).toInt = 10 := by decide
          have e2 : (11 : Int32).toInt = 11 := by decide
          omega
      rw [if_neg h7, B50_85 hs hp, if_pos h11, B50_103 hs hp]
  rcases ix11 z with h | h | ⟨i, hi, rfl⟩
  · rw [B50_0_d hs hp (by rw [Int32.lt_iff_toInt_lt, Int32.toInt_zero] at h; omega), far z (Or.inl h)]
    unfold ptT
    rw [if_pos h]
  · have h0 : ¬ z < 0 := fun g => by
      have h1 : (10 : Int32) < 0 := Int32.lt_trans h g
      exact absurd h1 (by decide)
    rw [B50_0_d hs hp (by
      rw [Int32.lt_iff_toInt_lt] at h
      have e1 : (10 : Int32).toInt = 10 := by decide
      omega), far z (Or.inr h)]
    unfold ptT
    rw [if_neg h0, if_pos h]
  · rw [ptT_n hi]
    match i, hi with
    | 0, _ => rw [B50_0_0 (l1 := nI 0) hs hp rfl, B50_44 hs hp]; rfl
    | 1, _ => rw [B50_0_1 (l1 := nI 1) hs hp rfl, B50_49 hs hp]; rfl
    | 2, _ => rw [B50_0_2 (l1 := nI 2) hs hp rfl, B50_54 hs hp]; rfl
    | 3, _ => rw [B50_0_3 (l1 := nI 3) hs hp rfl, B50_59 hs hp]; rfl
    | 4, _ => rw [B50_0_4 (l1 := nI 4) hs hp rfl, B50_64 hs hp]; rfl
    | 5, _ => rw [B50_0_5 (l1 := nI 5) hs hp rfl, B50_69 hs hp]; rfl
    | 6, _ => rw [B50_0_6 (l1 := nI 6) hs hp rfl, B50_74 hs hp]; rfl
    | 7, _ => rw [B50_0_d hs hp (by decide), B50_79 hs hp, if_neg (by decide), B50_85 hs hp, if_neg (by decide), B50_91 hs hp (by decide)]; rfl
    | 8, _ => rw [B50_0_d hs hp (by decide), B50_79 hs hp, if_neg (by decide), B50_85 hs hp, if_neg (by decide), B50_91 hs hp (by decide)]; rfl
    | 9, _ => rw [B50_0_d hs hp (by decide), B50_79 hs hp, if_neg (by decide), B50_85 hs hp, if_neg (by decide), B50_91 hs hp (by decide)]; rfl
    | 10, _ => rw [B50_0_d hs hp (by decide), B50_79 hs hp, if_neg (by decide), B50_85 hs hp, if_neg (by decide), B50_91 hs hp (by decide)]; rfl
theorem s14 {Q : Nat → Nat} (x y z : Int32) (hc : c ≤ 4) (h : I 4 4 = nI c) (hQ : ∀ s, s < c → Q s ≤ 2 ∧ I (7 + 12 * s) 16 = nI (Q s)) : zq S 14 [.ref 0, .int x, .int y, .int z] I J (some (.int (partR (I 0 9) c Q (fun s p => ptT (I (15 + 12 * s + 2 * p)) (I (16 + 12 * s + 2 * p))) x y z))) I J := by
  refine zq_of rfl ?_
  show zd S 14 0 [some (.ref 0), some (.int x), some (.int y), some (.int z)] [] I J (0, 0) = _
  unfold partR
  rw [B14_0 ⟨rfl, rfl⟩ (s17 x h), B14_5]
  cases hp : plD (I 0 9) c x with
  | false => rw [if_pos ((bI_0 _).mpr rfl), B14_28, if_neg Bool.false_ne_true]
  | true =>
    obtain ⟨s, s1, rfl⟩ := plD_n (by omega) hp
    have hs : s < 4 := by omega
    have hcl : (nI s).toNatClampNeg = s := nI_clamp (by omega)
    have hz : zin (nI s) 4 = true := zin_n hs (by decide)
    have h4 : ([7, 19, 31, 43] : List Nat)[(nI s).toNatClampNeg]? = some (7 + 12 * s) := by rw [hcl]; exact st4 hs
    obtain ⟨q2, q16⟩ := hQ s s1
    rw [if_neg (by decide), B14_8, if_pos (rfl : true = true)]
    by_cases h1 : y < 0
    · rw [if_pos h1, B14_28, if_pos h1]
    · rw [if_neg h1, B14_12 hs hz h4, q16, if_neg h1, hcl]
      by_cases h2 : nI (Q s) ≤ y
      · have h3 : ¬ y < nI (Q s) := Int32.not_lt.mpr h2
        rw [if_neg h3, B14_28, if_pos h2]
      · have h3 : y < nI (Q s) := Int32.not_le.mp h2
        have hy : ∃ j : Nat, j < Q s ∧ y = nI j := by
          rcases pk_ix y (n := Q s) (by omega) with g | g | g
          · exact absurd g h1
          · exact absurd g h2
          · exact g
        obtain ⟨j, j1, rfl⟩ := hy
        have hj : j < 2 := by omega
        have hjc : (nI j).toNatClampNeg = j := nI_clamp (by omega)
        have hl : ([15 + 12 * s, 17 + 12 * s] : List Nat)[(nI j).toNatClampNeg]? = some (15 + 12 * s + 2 * j) := by
          rw [hjc]
          exact lt2 (P := fun j => ([15 + 12 * s, 17 + 12 * s] : List Nat)[j]? = some (15 + 12 * s + 2 * j)) rfl (by show some (17 + 12 * s) = some (15 + 12 * s + 2 * 1); congr 1; omega) hj
        rw [if_pos h3, B14_30 ⟨rfl, rfl⟩ hs hz h4 hj (zin_n hj (by decide)) hl (s50 z hs hj), B14_48, if_neg h2, hjc]
theorem s143 {Q : Nat → Nat} (x y z : Int32) (hc : c ≤ 4) (h : I 76 13 = nI c) (hQ : ∀ s, s < c → Q s ≤ 2 ∧ ∀ j, j < 2 → (I 103 (2 * s + j) = 0 ↔ Q s ≤ j)) : zq S 143 [.ref 76, .int x, .int y, .int z] I J (some (.int (partR (I 76 24) c Q (fun s p => ptT (fun e => I 104 (11 * (2 * s + p) + (e - 1))) (fun e => I 104 (11 * (2 * s + p) + (7 + e)))) x y z))) I J := by
  refine zq_of rfl ?_
  show zd S 143 0 [some (.ref 76), some (.int x), some (.int y), some (.int z), none] [] I J (0, 0) = _
  unfold partR
  rw [B143_0 ⟨rfl, rfl⟩ (s139 x h), B143_5]
  cases hp : plD (I 76 24) c x with
  | false => rw [if_pos ((bI_0 _).mpr rfl), B143_34, if_pos rfl, B143_70, if_neg Bool.false_ne_true]
  | true =>
    obtain ⟨s, s1, rfl⟩ := plD_n (by omega) hp
    have hs : s < 4 := by omega
    have hcl : (nI s).toNatClampNeg = s := nI_clamp (by omega)
    obtain ⟨q2, q3⟩ := hQ s s1
    rw [if_neg (by decide), B143_8, if_pos (rfl : true = true)]
    by_cases h1 : y < 0
    · rw [if_pos h1, B143_34, if_pos rfl, B143_70, if_pos h1]
    · rw [if_neg h1, B143_12, if_neg h1, hcl]
      by_cases h2 : 2 ≤ y
      · have h3 : nI (Q s) ≤ y := by
          have h4 : nI (Q s) ≤ nI 2 := nI_le q2 (by decide)
          exact Int32.le_trans h4 h2
        rw [if_pos h2, B143_34, if_pos rfl, B143_70, if_pos h3]
      · have hy : ∃ j : Nat, j < 2 ∧ y = nI j := by
          rcases pk_ix y (n := 2) (by decide) with g | g | g
          · exact absurd g h1
          · exact absurd g h2
          · exact g
        obtain ⟨j, j1, rfl⟩ := hy
        have hjc : (nI j).toNatClampNeg = j := nI_clamp (by omega)
        have e : 2 * nI s + nI j = nI (2 * s + j) := by rw [show (2 : Int32) = nI 2 from rfl, pk_mul, nI_add]
        have eq : nI (Q s) ≤ nI j ↔ Q s ≤ j := nI_leI (by omega) (by omega)
        have h3 := q3 j j1
        rw [if_neg h2, B143_17 (by rw [e]; exact zin_n (by omega) (by decide)), e, nI_clamp (by omega)]
        by_cases h4 : I 103 (2 * s + j) = 0
        · rw [if_pos h4, B143_34, if_pos rfl, B143_70, if_pos (eq.mpr (h3.mp h4))]
        · have hq : ¬ nI (Q s) ≤ nI j := fun g => h4 (h3.mpr (eq.mp g))
          rw [if_neg h4, B143_30, if_neg (by decide), B143_42, if_neg hq, hjc]
          show _ = some (some (Value.int (ptT (fun e => I 104 (11 * (2 * s + j) + (e - 1))) (fun e => I 104 (11 * (2 * s + j) + (7 + e))) z)), mk I J, (0, 0))
          rcases ix11 z with g | g | ⟨i, hi, rfl⟩
          · rw [if_pos g, B143_70]
            unfold ptT
            rw [if_pos g]
          · have h0 : ¬ z < 0 := fun g2 => by
              have g3 : (10 : Int32) < 0 := Int32.lt_trans g g2
              exact absurd g3 (by decide)
            rw [if_neg h0, B143_46, if_pos g, B143_70]
            unfold ptT
            rw [if_neg h0, if_pos g]
          · have g0 : ¬ nI i < 0 := nI_pos (by omega)
            have g1 : ¬ (10 : Int32) < nI i := nI_nlt (a := 10) (b := i) (by omega) (by decide)
            have e2 : 11 * nI (2 * s + j) + nI i = nI (11 * (2 * s + j) + i) := by rw [show (11 : Int32) = nI 11 from rfl, pk_mul, nI_add]
            rw [if_neg g0, B143_46, if_neg g1, B143_52 (by rw [e, e2]; exact zin_n (by omega) (by decide)), e, e2, nI_clamp (by omega), ptT_n hi]
            by_cases h7 : i < 7
            · rw [if_pos h7]
              rfl
            · rw [if_neg h7]
              show _ = some (some (Value.int (I 104 (11 * (2 * s + j) + (7 + (i - 7))))), mk I J, (0, 0))
              rw [show 7 + (i - 7) = i from by omega]
end PART
