/-! the calls that do not plan: both answer alike and what holds between them is kept -/
theorem okM_n {x w : Int32} (h : okM x w = true) : ∃ k b : Nat, k < 26 ∧ (x - 97).toNatClampNeg = k ∧ w = nI b ∧ 1 ≤ b ∧ b ≤ 9 := by
  unfold okM at h
  rw [Bool.and_eq_true, Bool.and_eq_true, Bool.not_eq_true', decide_eq_false_iff_not, decide_eq_true_eq] at h
  obtain ⟨h1, h2, h3⟩ := h
  have hw0 : ¬ w < 0 := by
    intro z
    rw [Int32.lt_iff_toInt_lt] at z h2
    have e0 : (0 : Int32).toInt = 0 := rfl
    have e1 : (1 : Int32).toInt = 1 := rfl
    omega
  obtain ⟨b, hb, rfl⟩ := nI_of hw0
  have hb1 : ¬ b < 1 := fun z => h2 ((nI_ltI (a := b) (b := 1) hb (by decide)).mpr z)
  have hb9 : b ≤ 9 := (nI_leI (a := b) (b := 9) hb (by decide)).mp h3
  obtain ⟨q, hq, rfl⟩ := isL_n x h1
  have e97 : nI (97 + q) - 97 = nI (97 + q - 97) := pk_sub (b := 97) (by omega)
  exact ⟨q, b, hq, by rw [e97, nI_clamp (by omega)]; omega, rfl, by omega, hb9⟩
section PAIRS
variable {S : Nat × (Nat → Int32)}
theorem p3 (x w : Int32) : zpair S Rl 3 96 [.int x, .int w] := by
  intro I J h
  refine ⟨_, _, _, _, _, s3 x w, s96 x w, ?_⟩
  cases hm : okM x w with
  | false =>
    exact h
  | true =>
    obtain ⟨k, b, hk, e1, rfl, b1, b9⟩ := okM_n hm
    obtain ⟨C, R, D, P, N, W, pn, pk, pv, T, h1, h2, h3, h4, h5, h6, h7⟩ := h
    rw [if_pos rfl, if_pos rfl, e1]
    have o : ∀ c, c ≠ 1 → c ≠ 77 → u2 (u2 I 1 k (nI b)) 77 k (nI b) c = I c := fun c a1 a2 => by rw [u2n (nbeq a2), u2n (nbeq a1)]
    refine ⟨C, R, D, P, N, fun j => if j = k then b else W j, pn, pk, pv, T, szR_u h1 (by rw [o 0 (by decide) (by decide)]) (by rw [o 55 (by decide) (by decide)]) (o 70 (by decide) (by decide)) (o 73 (by decide) (by decide)) (fun e _ => by rw [o 76 (by decide) (by decide)]), ?_, paR_u h3 (o 56 (by decide) (by decide)) (o 59 (by decide) (by decide)) rfl rfl (by rw [o 76 (by decide) (by decide)]) (o 79 (by decide) (by decide)) (o 80 (by decide) (by decide)) (o 81 (by decide) (by decide)), txR_u h4 (by rw [o 0 (by decide) (by decide)]) (by rw [o 76 (by decide) (by decide)]) (o 2 (by decide) (by decide)) (o 84 (by decide) (by decide)), ⟨?_, ?_⟩, msR_u h6 (by rw [o 61 (by decide) (by decide)]) (by rw [o 62 (by decide) (by decide)]) (fun t _ => by rw [o _ (by omega) (by omega)]) (o 71 (by decide) (by decide)) (o 105 (by decide) (by decide)), rsR_u h7 (by rw [o 0 (by decide) (by decide)]) (fun e _ => by rw [o 76 (by decide) (by decide)]) (fun c hc => o c (by omega) (by omega))⟩
    · intro j hj
      obtain ⟨w1, w2, w3, w4⟩ := h2 j hj
      have e1 : u2 (u2 I 1 k (nI b)) 77 k (nI b) 1 = u2 I 1 k (nI b) 1 := u2n rfl
      have e2 : ∀ q, q ≠ k → u2 (u2 I 1 k (nI b)) 77 k (nI b) 77 q = I 77 q := fun q hq => by rw [u2ne hq, u2n rfl]
      rw [e1]
      by_cases hjk : j = k
      · dsimp only
        rw [if_pos hjk, hjk]
        exact ⟨u2s, u2s, b1, b9⟩
      · dsimp only
        rw [if_neg hjk, u2ne hjk, e2 j hjk]
        exact ⟨w1, w2, w3, w4⟩
    · intro i hi
      rw [o 5 (by decide) (by decide)]
      exact h5.1 i hi
    · intro i hi
      rw [o 2 (by decide) (by decide)]
      exact h5.2 i hi
theorem p5 (a : Int64) (x : Int32) : zpair S Rl 5 104 [.long a, .int x] := by
  intro I J h
  have hR := h
  obtain ⟨v, hv, rfl⟩ := wb_of a
  obtain ⟨C, R, D, P, N, W, pn, pk, pv, T, h1, h2, h3, h4, h5, h6, h7⟩ := h
  obtain ⟨g, h', q5⟩ := s5 (S := S) (I := I) (J := J) (P := P) (pn := pn) (pk := pk) (pv := pv) x hv h3.1.1 h3.2.1.1 h3.2.1.2.1 h3.2.1.2.2.1 h3.2.1.2.2.2 h3.1.2.1 h3.1.2.2
  have o : ∀ c, c ≠ 3 → c ≠ 60 → uc (uc I 3 g) 60 h' c = I c := fun c a1 a2 => by rw [ucn (nbeq a2), ucn (nbeq a1)]
  obtain ⟨g2, h2', q104⟩ := s104 (S := S) (I := uc (uc I 3 g) 60 h') (J := J) (P := P) (pn := pn) (pk := pk) (pv := pv) x hv h3.1 (mPat_n h3.2.2 (by rw [o 76 (by decide) (by decide)]) (o 79 (by decide) (by decide)) (o 80 (by decide) (by decide)) (o 81 (by decide) (by decide)))
  refine ⟨_, _, _, _, _, q5, q104, ?_⟩
  have o : ∀ c, c ≠ 3 → c ≠ 60 → c ≠ 82 → c ≠ 83 → uc (uc (uc (uc I 3 g) 60 h') 82 g2) 83 h2' c = I c := fun c a1 a2 a3 a4 => by rw [ucn (nbeq a4), ucn (nbeq a3), o c a1 a2]
  generalize uc (uc (uc (uc I 3 g) 60 h') 82 g2) 83 h2' = I' at o
  have o' : ∀ c, c < 3 ∨ (3 < c ∧ c < 60) ∨ (60 < c ∧ c < 82) ∨ 83 < c → I' c = I c := fun c hc => o c (by omega) (by omega) (by omega) (by omega)
  refine ⟨C, R, D, P, N, W, pn, pk, pv, T, szR_u h1 (by rw [o' 0 (by omega)]) (by rw [o' 55 (by omega)]) (o' 70 (by omega)) (o' 73 (by omega)) (fun e _ => by rw [o' 76 (by omega)]), fun j hj => by rw [o' 1 (by omega), o' 77 (by omega)]; exact h2 j hj, paR_u h3 (o' 56 (by omega)) (o' 59 (by omega)) rfl rfl (by rw [o' 76 (by omega)]) (o' 79 (by omega)) (o' 80 (by omega)) (o' 81 (by omega)), txR_u h4 (by rw [o' 0 (by omega)]) (by rw [o' 76 (by omega)]) (o' 2 (by omega)) (o' 84 (by omega)), ⟨fun i hi => by rw [o' 5 (by omega)]; exact h5.1 i hi, fun i hi => by rw [o' 2 (by omega)]; exact h5.2 i hi⟩, msR_u h6 (by rw [o' 61 (by omega)]) (by rw [o' 62 (by omega)]) (fun t _ => by rw [o' _ (by omega)]) (o' 71 (by omega)) (o' 105 (by omega)), rsR_u h7 (by rw [o' 0 (by omega)]) (fun e _ => by rw [o' 76 (by omega)]) (fun c hc => o' c (by omega))⟩
theorem p7 : zpair S Rl 7 106 [] := by
  intro I J h
  obtain ⟨C, R, D, P, N, W, pn, pk, pv, T, h1, h2, h3, h4, h5, h6, h7⟩ := h
  have e : u2 I 0 8 0 76 12 = I 0 8 := by rw [u2n rfl, h4.1, h4.2.1]
  have q106 := s106 (S := S) (I := u2 I 0 8 0) (J := J)
  rw [e] at q106
  refine ⟨I 0 8, _, _, _, _, s7, q106, ?_⟩
  have o : ∀ c, c ≠ 0 → c ≠ 76 → u2 (u2 I 0 8 0) 76 12 0 c = I c := fun c a1 a2 => by rw [u2n (nbeq a2), u2n (nbeq a1)]
  have o0 : ∀ e, e ≠ 8 → u2 (u2 I 0 8 0) 76 12 0 0 e = I 0 e := fun e he => by rw [u2n rfl, u2ne he]
  have o7 : ∀ e, e ≠ 12 → u2 (u2 I 0 8 0) 76 12 0 76 e = I 76 e := fun e he => by rw [u2ne he, u2n rfl]
  refine ⟨C, R, D, P, 0, W, pn, pk, pv, T, szR_u h1 (o0 0 (by decide)) (by rw [o 55 (by decide) (by decide)]) (o 70 (by decide) (by decide)) (o 73 (by decide) (by decide)) (fun e _ => o7 e (by omega)), fun j hj => by rw [o 1 (by decide) (by decide), o 77 (by decide) (by decide)]; exact h2 j hj, paR_u h3 (o 56 (by decide) (by decide)) (o 59 (by decide) (by decide)) rfl rfl (o7 5 (by decide)) (o 79 (by decide) (by decide)) (o 80 (by decide) (by decide)) (o 81 (by decide) (by decide)), ?_, ⟨fun i hi => by rw [o 5 (by decide) (by decide)]; exact h5.1 i hi, fun i hi => by rw [o 2 (by decide) (by decide)]; exact h5.2 i hi⟩, msR_u h6 (by rw [o 61 (by decide) (by decide)]) (by rw [o 62 (by decide) (by decide)]) (fun t _ => by rw [o _ (by omega) (by omega)]) (o 71 (by decide) (by decide)) (o 105 (by decide) (by decide)), rsR_u h7 (o0 9 (by decide)) (fun e he => o7 e (by omega)) (fun c hc => o c (by omega) (by omega))⟩
  exact ⟨by rw [u2n rfl, u2s]; rfl, by rw [u2s]; rfl, fun i hi => absurd hi (Nat.not_lt_zero _), by omega, fun i hi => absurd hi (Nat.not_lt_zero _)⟩
theorem rs_f {C R D : Nat} {I : zI} (h : rsR C R D I) : I 4 5 = I 76 23 ∧ (∃ c, c ≤ 4 ∧ I 4 4 = nI c ∧ I 76 13 = nI c) ∧ I 0 9 = I 76 24 := by
  rcases h with ⟨a1, a2, a3, a4⟩ | ⟨T, N, b1, b2, b3, b4, b5⟩
  · exact ⟨a3, ⟨0, by decide, a1, a2⟩, a4.1.trans a4.2.1.symm⟩
  · refine ⟨b3.2.2.2.1.trans b4.1.symm, ⟨(rdR T N).2.1, (b3.2.2.2.2 b2).1, ?_, ?_⟩, ?_⟩
    · have := b3.2.2.1
      rw [if_pos b2] at this
      exact this
    · have := b4.2.1
      rw [if_pos b2] at this
      exact this
    · rcases b5 with b5 | ⟨p1, p2, _⟩
      · exact b5.1.trans b5.2.1.symm
      · exact p1.trans p2.symm
theorem p9 : zpair S Rl 9 117 [] := by
  intro I J h
  have hR := h
  obtain ⟨C, R, D, P, N, W, pn, pk, pv, T, h1, h2, h3, h4, h5, h6, h7⟩ := h
  have e := (rs_f h7).1
  exact ⟨I 4 5, _, _, _, _, s9, e ▸ s117, hR⟩
theorem p6 (a : Int64) (x : Int32) : zpair S Rl 6 105 [.long a, .int x] := by
  intro I J h
  have hR := h
  obtain ⟨v, hv, rfl⟩ := wb_of a
  obtain ⟨C, R, D, P, N, W, pn, pk, pv, T, h1, h2, h3, h4, h5, h6, h7⟩ := h
  obtain ⟨t1, t2, t3, t4⟩ := h4
  have q6 := s6 (S := S) (I := I) (J := J) x hv t4.1 t1
  cases hf : fedOk N v x with
  | false =>
    rw [hf, if_neg (by decide)] at q6
    have q105 := s105 (S := S) (I := I) (J := J) x hv t4.1 t2
    rw [hf, if_neg (by decide)] at q105
    exact ⟨_, _, _, _, _, q6, q105, hR⟩
  | true =>
    rw [hf, if_pos rfl] at q6
    generalize hI1 : u2 (uc I 2 (fedA (I 2) v x.toNatClampNeg N x.toNatClampNeg)) 0 8 (nI (N + x.toNatClampNeg)) = I1 at q6
    have i1 : ∀ c, c ≠ 0 → c ≠ 2 → I1 c = I c := fun c a1 a2 => by rw [← hI1, u2n (nbeq a1), ucn (nbeq a2)]
    have q105 := s105 (S := S) (I := I1) (J := J) x hv t4.1 (by rw [i1 76 (by decide) (by decide)]; exact t2)
    rw [hf, if_pos rfl, i1 84 (by decide) (by decide)] at q105
    generalize hI2 : u2 (uc I1 84 (fedA (I 84) v x.toNatClampNeg N x.toNatClampNeg)) 76 12 (nI (N + x.toNatClampNeg)) = I2 at q105
    refine ⟨_, _, _, _, _, q6, q105, ?_⟩
    have i2 : ∀ c, c ≠ 76 → c ≠ 84 → I2 c = I1 c := fun c a1 a2 => by rw [← hI2, u2n (nbeq a1), ucn (nbeq a2)]
    have o : ∀ c, c ≠ 0 → c ≠ 2 → c ≠ 76 → c ≠ 84 → I2 c = I c := fun c a1 a2 a3 a4 => by rw [i2 c a3 a4, i1 c a1 a2]
    have o0 : ∀ e, e ≠ 8 → I2 0 e = I 0 e := fun e he => by rw [i2 0 (by decide) (by decide), ← hI1, u2ne he, ucn rfl]
    have o7 : ∀ e, e ≠ 12 → I2 76 e = I 76 e := fun e he => by rw [← hI2, u2ne he, ucn rfl, i1 76 (by decide) (by decide)]
    unfold fedOk at hf
    rw [Bool.and_eq_true, Bool.and_eq_true, Bool.and_eq_true, Bool.not_eq_true', Bool.not_eq_true', decide_eq_false_iff_not, decide_eq_false_iff_not, decide_eq_true_eq] at hf
    obtain ⟨f1, f2, f3, f4⟩ := hf
    generalize x.toNatClampNeg = n at *
    have hb := okF_at n 0 f3
    have i22 : I2 2 = fedA (I 2) v n N n := by rw [i2 2 (by decide) (by decide), ← hI1, u2n rfl, uc_s]
    have i284 : I2 84 = fedA (I 84) v n N n := by rw [← hI2, u2n rfl, uc_s]
    refine ⟨C, R, D, P, N + n, W, pn, pk, pv, fun i => if i < N then T i else byt v n (i - N), szR_u h1 (o0 0 (by decide)) (by rw [o 55 (by decide) (by decide) (by decide) (by decide)]) (o 70 (by decide) (by decide) (by decide) (by decide)) (o 73 (by decide) (by decide) (by decide) (by decide)) (fun e _ => o7 e (by omega)), fun j hj => by rw [o 1 (by decide) (by decide) (by decide) (by decide), o 77 (by decide) (by decide) (by decide) (by decide)]; exact h2 j hj, paR_u h3 (o 56 (by decide) (by decide) (by decide) (by decide)) (o 59 (by decide) (by decide) (by decide) (by decide)) rfl rfl (o7 5 (by decide)) (o 79 (by decide) (by decide) (by decide) (by decide)) (o 80 (by decide) (by decide) (by decide) (by decide)) (o 81 (by decide) (by decide) (by decide) (by decide)), ⟨?_, ?_, ?_, ?_, ?_⟩, ⟨?_, ?_⟩, msR_u h6 (by rw [o 61 (by decide) (by decide) (by decide) (by decide)]) (by rw [o 62 (by decide) (by decide) (by decide) (by decide)]) (fun t _ => by rw [o _ (by omega) (by omega) (by omega) (by omega)]) (o 71 (by decide) (by decide) (by decide) (by decide)) (o 105 (by decide) (by decide) (by decide) (by decide)), rsR_u h7 (o0 9 (by decide)) (fun e he => o7 e (by omega)) (fun c hc => o c (by omega) (by omega) (by omega) (by omega))⟩
    · rw [i2 0 (by decide) (by decide), ← hI1, u2s]
    · rw [← hI2, u2s]
    · intro i hi
      rw [i22, i284]
      unfold fedA
      dsimp only
      by_cases hiN : i < N
      · rw [if_pos hiN, if_neg (fun z => by omega), if_neg (fun z => by omega)]
        exact t3 i hiN
      · rw [if_neg hiN, if_pos ⟨by omega, by omega⟩, if_pos ⟨by omega, by omega⟩]
        exact ⟨rfl, rfl⟩
    · exact f4
    · intro i hi
      dsimp only
      by_cases hiN : i < N
      · rw [if_pos hiN]
        exact t4.2 i hiN
      · rw [if_neg hiN]
        exact hb (i - N) (Nat.zero_le _) (by omega)
    · intro i hi
      rw [o 5 (by decide) (by decide) (by decide) (by decide)]
      exact h5.1 i hi
    · intro i hi
      rw [i22]
      unfold fedA
      by_cases hiN : N ≤ i ∧ i < N + n
      · rw [if_pos hiN]
        have := byt_lt v n (i - N)
        unfold zfit
        refine decide_eq_true ?_
        rw [nI_toInt (by omega)]
        omega
      · rw [if_neg hiN]
        exact h5.2 i hi
end PAIRS
