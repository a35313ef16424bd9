/-! pattern and read: both answer alike and what holds between them is kept -/
section PAIRS2
variable {S : Nat × (Nat → Int32)}
theorem p4 (a : Int64) (x : Int32) (b : Int64) : zpair S Rl 4 100 [.long a, .int x, .long b] := by
  intro I J h
  have hR := h
  obtain ⟨v, hv, rfl⟩ := wb_of a
  obtain ⟨u, hu, rfl⟩ := wb_of b
  obtain ⟨C, R, D, P, N, W, pn, pk, pv, T, h1, h2, h3, h4, h5, h6, h7⟩ := h
  obtain ⟨⟨k1, k2, k3⟩, ⟨c1, c2, c3, c4⟩, ⟨m1, m2, m3, m4⟩⟩ := h3
  have q4 := s4 (S := S) (I := I) (J := J) (P := P) (v := v) (u := u) (pk := pk) x hv hu k1 c1 c3 (fun p hp => rowN_64 (k2 p hp))
  by_cases hok : pOk v x u = true ∧ pAt pk P v x < 20
  · rw [if_pos hok, if_pos hok] at q4
    generalize hI1 : u2 (u2 I 59 (pAt pk P v x) x) 56 4 (nI (pSz pk P v x)) = I1 at q4
    generalize hJ1 : v2 (v2 J 57 (pAt pk P v x) (lN (pRow v x))) 58 (pAt pk P v x) (lN u) = J1 at q4
    have i1 : ∀ c, c ≠ 56 → c ≠ 59 → I1 c = I c := fun c a1 a2 => by rw [← hI1, u2n (nbeq a1), u2n (nbeq a2)]
    have q100 := s100 (S := S) (I := I1) (J := J1) (P := P) (v := v) (u := u) (pk := pk) (pn := pn) x hv hu k1 (by rw [i1 76 (by decide) (by decide)]; exact m1) k2 (fun p hp => by rw [i1 79 (by decide) (by decide)]; exact m2 p hp) (fun p hp i hi => by rw [i1 80 (by decide) (by decide)]; exact m3 p hp i hi)
    rw [if_pos hok, i1 80 (by decide) (by decide), i1 81 (by decide) (by decide)] at q100
    generalize hI2 : uc (uc (u2 (u2 I1 76 5 (nI (pSz pk P v x))) 79 (pAt pk P v x) x) 80 (fedA (I 80) v x.toNatClampNeg (6 * pAt pk P v x) x.toNatClampNeg)) 81 (fedA (I 81) u (x.toNatClampNeg + 1) (7 * pAt pk P v x) (x.toNatClampNeg + 1)) = I2 at q100
    refine ⟨_, _, _, _, _, q4, q100, ?_⟩
    have i2 : ∀ c, c ≠ 76 → c ≠ 79 → c ≠ 80 → c ≠ 81 → I2 c = I1 c := fun c a1 a2 a3 a4 => by rw [← hI2, ucn (nbeq a4), ucn (nbeq a3), u2n (nbeq a2), u2n (nbeq a1)]
    have o : ∀ c, c < 56 ∨ (59 < c ∧ c < 76) ∨ c = 77 ∨ c = 78 ∨ 81 < c → I2 c = I c := fun c hc => by rw [i2 c (by omega) (by omega) (by omega) (by omega), i1 c (by omega) (by omega)]
    have o7 : ∀ e, e ≠ 5 → I2 76 e = I 76 e := fun e he => by rw [← hI2, ucn rfl, ucn rfl, u2n rfl, u2ne he, i1 76 (by decide) (by decide)]
    have hpo := hok.1
    unfold pOk at hpo
    rw [Bool.and_eq_true] at hpo
    obtain ⟨n, n1, n6, rfl, g1, g2⟩ := sgOk_n hpo.1
    have hcl : (nI n).toNatClampNeg = n := nI_clamp (by omega)
    have hat := plc_le pk (pRow v (nI n)) P 0
    have hatP : pAt pk P v (nI n) ≤ P := by have := hat.1; unfold pAt; omega
    have hrow : pRow v (nI n) = v % 2 ^ (8 * n) := by unfold pRow; rw [hcl]
    have hsz : pSz pk P v (nI n) = if pAt pk P v (nI n) = P then P + 1 else P := rfl
    rw [hcl] at hI2
    have hok2 := hok.2
    generalize pAt pk P v (nI n) = q at *
    generalize pSz pk P v (nI n) = P' at *
    have hP' : P' ≤ 20 ∧ P ≤ P' ∧ (∀ p, p < P' → p = q ∨ p < P) := by
      rw [hsz]
      by_cases hq : q = P
      · rw [if_pos hq]
        exact ⟨by omega, by omega, fun p hp => by omega⟩
      · rw [if_neg hq]
        exact ⟨k1, Nat.le_refl _, fun p hp => Or.inr hp⟩
    have i56 : I2 56 4 = nI P' := by rw [i2 56 (by decide) (by decide) (by decide) (by decide), ← hI1, u2s]
    have i59 : ∀ p, I2 59 p = if p = q then nI n else I 59 p := fun p => by
      rw [i2 59 (by decide) (by decide) (by decide) (by decide), ← hI1, u2n rfl]
      by_cases hp : p = q
      · rw [if_pos hp, hp, u2s]
      · rw [if_neg hp, u2ne hp]
    have j57 : ∀ p, J1 57 p = if p = q then lN (pRow v (nI n)) else J 57 p := fun p => by
      rw [← hJ1, v2n rfl]
      by_cases hp : p = q
      · rw [if_pos hp, hp, v2s]
      · rw [if_neg hp, v2ne hp]
    have j58 : ∀ p, J1 58 p = if p = q then lN u else J 58 p := fun p => by
      rw [← hJ1]
      by_cases hp : p = q
      · rw [if_pos hp, hp, v2s]
      · rw [if_neg hp, v2ne hp, v2n rfl]
    have i79 : ∀ p, I2 79 p = if p = q then nI n else I 79 p := fun p => by
      rw [← hI2, ucn rfl, ucn rfl]
      by_cases hp : p = q
      · rw [if_pos hp, hp, u2s]
      · rw [if_neg hp, u2ne hp, u2n rfl, i1 79 (by decide) (by decide)]
    have i80 : I2 80 = fedA (I 80) v n (6 * q) n := by rw [← hI2, ucn rfl, uc_s]
    have i81 : I2 81 = fedA (I 81) u (n + 1) (7 * q) (n + 1) := by rw [← hI2, uc_s]
    have i765 : I2 76 5 = nI P' := by rw [← hI2, ucn rfl, ucn rfl, u2n rfl, u2s]
    refine ⟨C, R, D, P', N, W, fun p => if p = q then n else pn p, fun p => if p = q then pRow v (nI n) else pk p, fun p => if p = q then u else pv p, T, szR_u h1 (by rw [o 0 (by omega)]) (by rw [o 55 (by omega)]) (o 70 (by omega)) (o 73 (by omega)) (fun e _ => o7 e (by omega)), fun j hj => by rw [o 1 (by omega), o 77 (by omega)]; exact h2 j hj, ⟨⟨hP'.1, ?_, ?_⟩, ⟨i56, ?_, ?_, ?_⟩, ⟨i765, ?_, ?_, ?_⟩⟩, txR_u h4 (by rw [o 0 (by omega)]) (o7 12 (by decide)) (o 2 (by omega)) (o 84 (by omega)), ⟨fun i hi => by rw [o 5 (by omega)]; exact h5.1 i hi, fun i hi => by rw [o 2 (by omega)]; exact h5.2 i hi⟩, msR_u h6 (by rw [o 61 (by omega)]) (by rw [o 62 (by omega)]) (fun t _ => by rw [o _ (by omega)]) (o 71 (by omega)) (o 105 (by omega)), rsR_u h7 (by rw [o 0 (by omega)]) (fun e he => o7 e (by omega)) (fun c hc => o c (by omega))⟩
    · intro p hp
      dsimp only
      by_cases hpq : p = q
      · rw [if_pos hpq, if_pos hpq, hrow]
        exact rowN_of n1 n6 g1
      · rw [if_neg hpq, if_neg hpq]
        exact k2 p (by have := hP'.2.2 p hp; omega)
    · intro p hp
      dsimp only
      by_cases hpq : p = q
      · rw [if_pos hpq]
        exact hu
      · rw [if_neg hpq]
        exact k3 p (by have := hP'.2.2 p hp; omega)
    · intro p hp
      rw [i59]
      dsimp only
      by_cases hpq : p = q
      · rw [if_pos hpq, if_pos hpq]
      · rw [if_neg hpq, if_neg hpq]
        exact c2 p (by have := hP'.2.2 p hp; omega)
    · intro p hp
      rw [j57]
      dsimp only
      by_cases hpq : p = q
      · rw [if_pos hpq, if_pos hpq]
      · rw [if_neg hpq, if_neg hpq]
        exact c3 p (by have := hP'.2.2 p hp; omega)
    · intro p hp
      rw [j58]
      dsimp only
      by_cases hpq : p = q
      · rw [if_pos hpq, if_pos hpq]
      · rw [if_neg hpq, if_neg hpq]
        exact c4 p (by have := hP'.2.2 p hp; omega)
    · intro p hp
      rw [i79]
      dsimp only
      by_cases hpq : p = q
      · rw [if_pos hpq, if_pos hpq]
      · rw [if_neg hpq, if_neg hpq]
        exact m2 p (by have := hP'.2.2 p hp; omega)
    · intro p hp i hi
      dsimp only at hi
      rw [i80]
      unfold fedA
      dsimp only
      by_cases hpq : p = q
      · rw [if_pos hpq] at hi
        rw [if_pos hpq, if_pos hpq, hpq, if_pos ⟨by omega, by omega⟩, show 6 * q + i - 6 * q = i by omega, hrow, byt_mod hi]
      · rw [if_neg hpq] at hi
        have hpP : p < P := by have := hP'.2.2 p hp; omega
        have hn6 := (k2 p hpP).2.1
        rw [if_neg hpq, if_neg hpq, if_neg (fun z => by omega)]
        exact m3 p hpP i hi
    · intro p hp i hi
      dsimp only at hi
      rw [i81]
      unfold fedA
      dsimp only
      by_cases hpq : p = q
      · rw [if_pos hpq] at hi
        rw [if_pos hpq, if_pos hpq, hpq, if_pos ⟨by omega, by omega⟩, show 7 * q + i - 7 * q = i by omega]
      · rw [if_neg hpq] at hi
        have hpP : p < P := by have := hP'.2.2 p hp; omega
        have hn6 := (k2 p hpP).2.1
        rw [if_neg hpq, if_neg hpq, if_neg (fun z => by omega)]
        exact m4 p hpP i hi
  · rw [if_neg hok, if_neg hok] at q4
    have q100 := s100 (S := S) (I := I) (J := J) (P := P) (v := v) (u := u) (pk := pk) (pn := pn) x hv hu k1 m1 k2 m2 m3
    rw [if_neg hok] at q100
    exact ⟨_, _, _, _, _, q4, q100, hR⟩
theorem p8 : zpair S Rl 8 116 [] := by
  intro I J h
  obtain ⟨C, R, D, P, N, W, pn, pk, pv, T, h1, h2, h3, h4, h5, h6, h7⟩ := h
  obtain ⟨t1, t2, t3, t4⟩ := h4
  obtain ⟨I1, q8, a1, a2, a3, a4, a5, a6, a7⟩ := s8 (S := S) (I := I) (J := J) (T := T) (N := N) t4 t1 (fun i hi => (t3 i hi).1)
  have f1 : ∀ c, (0 < c ∧ c < 4) ∨ c = 6 ∨ (55 ≤ c ∧ c ≠ 71 ∧ c ≠ 72) → I1 c = I c := a6
  obtain ⟨I2, q116, b1, b2, b3, b4, b5, b6⟩ := s116 (S := S) (I := I1) (J := J) (T := T) (N := N) ⟨by rw [f1 76 (by omega)]; exact t2, fun i hi => by rw [f1 84 (by omega)]; exact (t3 i hi).2, t4⟩
  refine ⟨_, _, _, _, _, q8, q116, ?_⟩
  have g1 : ∀ c, c < 76 ∨ (76 < c ∧ c < 85) → I2 c = I1 c := fun c hc => b6 c (by omega) (by omega) (by omega) (by omega)
  have o : ∀ c, (0 < c ∧ c < 4) ∨ c = 6 ∨ (55 ≤ c ∧ c < 71) ∨ (72 < c ∧ c < 76) ∨ (76 < c ∧ c < 85) → I2 c = I c := fun c hc => by rw [g1 c (by omega), f1 c (by omega)]
  have o7 : ∀ e, e ≠ 13 → e ≠ 22 → e ≠ 23 → e ≠ 24 → I2 76 e = I 76 e := fun e e1 e2 e3 e4 => by rw [b3 e e1 e2 e3 e4, f1 76 (by omega)]
  have o0 : ∀ e, e ≠ 9 → I2 0 e = I 0 e := fun e he => by rw [g1 0 (by omega), a3, pk_un he]
  have o09 : I2 0 9 = 0 := by rw [g1 0 (by omega), a3, pk_us]
  have hze : zeR I2 := ⟨o09, b2, fun i hi => by rw [g1 71 (by omega)]; exact a4 i hi, b4⟩
  have hcr : cRd T N I2 := cRd_u a1 (g1 4 (by omega)) (g1 5 (by omega)) (fun t ht => ⟨g1 _ (by omega), g1 _ (by omega), fun e _ _ => by rw [g1 _ (by omega)]⟩)
  refine ⟨C, R, D, P, N, W, pn, pk, pv, T, szR_u h1 (o0 0 (by decide)) (by rw [o 55 (by omega)]) (o 70 (by omega)) (o 73 (by omega)) (fun e he => o7 e (by omega) (by omega) (by omega) (by omega)), fun j hj => by rw [o 1 (by omega), o 77 (by omega)]; exact h2 j hj, paR_u h3 (o 56 (by omega)) (o 59 (by omega)) rfl rfl (o7 5 (by decide) (by decide) (by decide) (by decide)) (o 79 (by omega)) (o 80 (by omega)) (o 81 (by omega)), txR_u ⟨t1, t2, t3, t4⟩ (o0 8 (by decide)) (o7 12 (by decide) (by decide) (by decide) (by decide)) (o 2 (by omega)) (o 84 (by omega)), ⟨fun i hi => ?_, fun i hi => by rw [o 2 (by omega)]; exact h5.2 i hi⟩, ⟨by rw [o 61 (by omega)]; exact h6.1, by rw [o 62 (by omega)]; exact h6.2.1, fun t ht => by rw [g1 _ (by omega), a7 t ht 0 (by omega)]; exact h6.2.2.1 t ht, fun i hi => by rw [hze.2.2.1 i hi, hze.2.2.2 i hi]⟩, ?_⟩
  · rw [g1 5 (by omega)]
    by_cases hiN : i < N
    · rw [a1.2.1 i hiN]
      have := (okT_i _).mp (t4.2 i hiN)
      unfold zfit
      refine decide_eq_true ?_
      rw [nI_toInt (by omega)]
      omega
    · rw [a2 i (by omega)]
      exact h5.1 i hi
  · cases hb : (rdR T N).1 with
    | false =>
      refine Or.inl ⟨?_, ?_, ?_, hze⟩
      · have := hcr.2.2.1
        rw [hb, if_neg (by decide)] at this
        exact this
      · have := b1.2.1
        rw [hb, if_neg (by decide)] at this
        exact this
      · rw [hcr.2.2.2.1, b1.1]
    | true => exact Or.inr ⟨T, N, t4, hb, hcr, b1, Or.inl hze⟩
end PAIRS2
