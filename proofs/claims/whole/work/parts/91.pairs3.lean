/-! plan, and what is asked about the plan -/
section PAIRS3
variable {S : Nat × (Nat → Int32)}
theorem s10_0 {I : zI} {J : zJ} (h : I 4 4 = 0) : zq S 10 [.ref 0] I J (some (.int (-1))) I J := by
  refine zq_of rfl ?_
  show zd S 10 0 [some (.ref 0), none, none, none, none] [] I J (0, 0) = _
  rw [B10_0, if_neg (not_not_intro h), B10_10]
theorem s138_n {I : zI} {J : zJ} (h : I 76 13 = 0) : zq S 138 [.ref 76] I J (some (.int (-1))) I J := by
  refine zq_of rfl ?_
  show zd S 138 0 [some (.ref 76), none, none] [] I J (0, 0) = _
  rw [B138_0, if_neg (not_not_intro h), B138_7]
theorem cRd_y {r : zE} {I : zI} (hb : (rdR (eT r) (eN r)).1 = true) (hc : cRd (eT r) (eN r) I) (h0 : ∀ t, t < 4 → I (7 + 12 * t) 0 = nI t) : cSy r I ∧ I 4 4 = nI (nS r) ∧ nS r ≤ 4 ∧ (∀ t, t < nS r → syB (eT r) (eN r) (aO r t) = true) ∧ (∀ t, t < nS r → I (7 + 12 * t) 9 = nI (aO r t + 2) ∧ I (7 + 12 * t) 10 = nI (wsA (eT r) (eN r) 4 (aO r t + 2))) := by
  obtain ⟨a1, a2, a3, a4, a5⟩ := hc
  rw [if_pos hb] at a3
  have a5 := a5 hb
  have h4 : nS r ≤ 4 := a5.1
  refine ⟨fun t ht => ?_, a3, h4, fun t ht => (a5.2 t ht).2.1, fun t ht => ?_⟩
  · obtain ⟨_, _, g⟩ := a5.2 t ht
    obtain ⟨g1, g2, g3, g4, g5, g6, g7, g8⟩ := g
    exact ⟨h0 t (by omega), g1, g4, g5, g6, g7, g8⟩
  · obtain ⟨_, _, g⟩ := a5.2 t ht
    obtain ⟨g1, g2, g3, g4, g5, g6, g7, g8⟩ := g
    exact ⟨g2, g3⟩
theorem mRd_y {r : zE} {I : zI} (hb : (rdR (eT r) (eN r)).1 = true) (hc : mRd (eT r) (eN r) I) : mSy r I ∧ I 76 13 = nI (nS r) ∧ ∀ t, t < nS r → parD (eT r) (eN r) (I 89) (I 90) (I 91) (I 92) (16 + t) 4 (aO r t + 2) := by
  obtain ⟨a1, a2, a3⟩ := hc
  rw [if_pos hb] at a2
  refine ⟨fun t ht => ?_, a2, fun t ht => (a3 hb t ht).2.2⟩
  obtain ⟨g1, ⟨g2, g3, g4, g5⟩, g6⟩ := a3 hb t ht
  exact ⟨g1, g2, g3, g4, g5⟩
theorem p10 : zpair S Rl 10 138 [] := by
  intro I J h
  have hR := h
  obtain ⟨C, R, D, P, N, W, pn, pk, pv, T, h1, h2, h3, h4, h5, h6, h7⟩ := h
  rcases h7 with ⟨a1, a2, a3, a4⟩ | ⟨T0, N0, b1, b2, b3, b4, b5⟩
  · exact ⟨_, _, _, _, _, s10_0 a1, s138_n a2, hR⟩
  · obtain ⟨z1, z2, z3, z4, z5, z6, z7, z8, z9, z10, z11⟩ := h1
    obtain ⟨r, er⟩ : ∃ r : zE, r = (D, W, P, pn, pk, pv, T0, N0) := ⟨_, rfl⟩
    have eDr : eD r = D := by rw [er]; rfl
    have eWr : eW r = W := by rw [er]; rfl
    have ePr : eP r = P := by rw [er]; rfl
    have enr : en r = pn := by rw [er]; rfl
    have ekr : ek r = pk := by rw [er]; rfl
    have evr : ev r = pv := by rw [er]; rfl
    have eTr : eT r = T0 := by rw [er]; rfl
    have eNr : eN r = N0 := by rw [er]; rfl
    rw [← eTr, ← eNr] at b1 b2 b3 b4
    obtain ⟨y1, y2, y3, y4, y5⟩ := cRd_y b2 b3 h6.2.2.1
    obtain ⟨w1, w2, w3⟩ := mRd_y b2 b4
    have hE : okE r := ⟨by rw [eDr]; exact z11, fun j hj => by rw [eWr]; exact (h2 j hj).2.2, by rw [ePr, enr, ekr, evr]; exact h3.1, b1⟩
    have hO' : okSt r := ⟨hE, b2, y3, y4⟩
    have hn0 : 0 < nS r := rdR_1 b2
    have hcE : cEn r I J := ⟨by rw [eDr]; exact z7, fun j hj => by rw [eWr]; exact (h2 j hj).1, by rw [ePr, enr, ekr, evr]; exact h3.2.1, b3.2.1, h6.1, h6.2.1⟩
    obtain ⟨I1, J1, q10, f1, f2, f3, f4, f5, f6, f7, f8, f9, f10, f11, f12, f13⟩ := s10 (S := S) (I := I) (J := J) (r := r) (C := C) (R := R) hO' hn0 hcE ⟨z1, z2, z9, z10⟩ y1 y2 h5.1
    have m1 : ∀ c, 75 < c → I1 c = I c := fun c hc => f1 c (by omega)
    have hmS : mSy r I1 := fun t ht => by
      rw [m1 85 (by decide), m1 86 (by decide), m1 87 (by decide), m1 88 (by decide), m1 89 (by decide), m1 90 (by decide), m1 91 (by decide), m1 92 (by decide)]
      exact w1 t ht
    obtain ⟨I2, q138, ⟨g1, g2⟩, g3, g4, g5, g6⟩ := s138 (S := S) (I := I1) (J := J1) (r := r) (C := C) (R := R) hO' hn0 (by rw [m1 76 (by decide), eDr]; exact z5) (fun j hj => by rw [m1 77 (by decide), eWr]; exact (h2 j hj).2.1) (by rw [ePr, enr, ekr, evr]; exact mPat_n h3.2.2 (by rw [m1 76 (by decide)]) (m1 79 (by decide)) (m1 80 (by decide)) (m1 81 (by decide))) ⟨by rw [m1 76 (by decide)]; exact z3, by rw [m1 76 (by decide)]; exact z4, z9, z10⟩ hmS (by rw [m1 76 (by decide)]; exact w2)
    refine ⟨_, _, _, _, _, q10, q138, ?_⟩
    have k1 : ∀ c, c < 76 → I2 c = I1 c := fun c hc => g1 c (by omega)
    have o : ∀ c, (0 < c ∧ c < 7) ∨ (55 < c ∧ c < 60) ∨ c = 70 ∨ c = 73 ∨ c = 77 ∨ (78 < c ∧ c < 82) ∨ (83 < c ∧ c < 93) → I2 c = I c := fun c hc => by rw [g1 c (by omega), f1 c (by omega)]
    have o7 : ∀ e, e ≠ 24 → e < 42 → I2 76 e = I 76 e := fun e e1 e2 => by rw [g2 e e1 (Or.inl e2), m1 76 (by decide)]
    have o0 : ∀ e, e ≠ 9 → I2 0 e = I 0 e := fun e he => by rw [k1 0 (by decide), f2, pk_un he]
    have o09 : I2 0 9 = 1 := by rw [k1 0 (by decide), f2, pk_us]
    have o8 : ∀ t, t < 4 → I2 (8 + 12 * t) = I (8 + 12 * t) ∧ I2 (9 + 12 * t) = I (9 + 12 * t) := fun t ht => by
      rw [k1 _ (by omega), k1 (9 + 12 * t) (by omega)]
      exact f7 t ht
    have o77 : ∀ t, t < 4 → ∀ e, e ≠ 14 → e ≠ 15 → e ≠ 16 → I2 (7 + 12 * t) e = I (7 + 12 * t) e := fun t ht e e1 e2 e3 => by
      rw [k1 _ (by omega)]
      exact f6 t ht e e1 e2 e3
    have G71 : eqG (I2 71) (simP r C R).1 := by rw [k1 71 (by decide)]; exact f10
    refine ⟨C, R, D, P, N, W, pn, pk, pv, T, ⟨by rw [o 70 (by omega)]; exact z1, by rw [o 70 (by omega)]; exact z2, by rw [o7 0 (by decide) (by decide)]; exact z3, by rw [o7 1 (by decide) (by decide)]; exact z4, by rw [o7 2 (by decide) (by decide)]; exact z5, by rw [o0 0 (by decide)]; exact z6, by rw [k1 55 (by decide), f3 1 (by decide)]; exact z7, by rw [o 73 (by omega)]; exact z8, z9, z10, z11⟩, fun j hj => by rw [o 1 (by omega), o 77 (by omega)]; exact h2 j hj, paR_u h3 (o 56 (by omega)) (o 59 (by omega)) (f8 57 (by omega)) (f8 58 (by omega)) (o7 5 (by decide) (by decide)) (o 79 (by omega)) (o 80 (by omega)) (o 81 (by omega)), txR_u h4 (o0 8 (by decide)) (o7 12 (by decide) (by decide)) (o 2 (by omega)) (o 84 (by omega)), ⟨fun i hi => by rw [o 5 (by omega)]; exact h5.1 i hi, fun i hi => by rw [o 2 (by omega)]; exact h5.2 i hi⟩, ⟨by rw [k1 61 (by decide), f4]; exact h6.1, by rw [k1 62 (by decide), f5]; exact h6.2.1, fun t ht => by rw [o77 t ht 0 (by decide) (by decide) (by decide)]; exact h6.2.2.1 t ht, fun i hi => by rw [G71 i hi, g5 i hi]⟩, ?_⟩
    refine Or.inr ⟨eT r, eN r, b1, b2, cRd_u b3 (o 4 (by omega)) (o 5 (by omega)) (fun t ht => ⟨(o8 t ht).1, (o8 t ht).2, fun e _ _ => o77 t ht e (by omega) (by omega) (by omega)⟩), mRd_u b4 (fun e he => o7 e (by omega) (by omega)) (fun c c1 c2 => o c (by omega)), Or.inr ⟨o09, g3, r, (simP r C R).2, rfl, rfl, hO', eDr, fun i hi => ?_, fun j hj => ⟨?_, g4 j hj⟩, fun i hi => ?_, fun t ht => ⟨cOK_u (f11 t ht) (fun j hj => k1 _ (by omega)), g6 t ht⟩, poK_P z10.1⟩⟩
    · rw [k1 74 (by decide), f12 i (by have := b1.1; omega)]
      exact b3.2.1 i hi
    · rw [k1 75 (by decide), f13 j hj, eWr]
      exact (h2 j hj).1
    · obtain ⟨v, v1, v2⟩ := gOK_P (r := r) (C := C) z10.1 i hi
      exact ⟨v, (G71 i hi).trans v1, v2⟩
end PAIRS3
