/-! what holds between the two objects -/
def szR (I : zI) (C R D : Nat) : Prop := I 70 0 = nI C ∧ I 70 1 = nI R ∧ I 76 0 = nI C ∧ I 76 1 = nI R ∧ I 76 2 = nI D ∧ I 0 0 = nI D ∧ I 55 1 = nI D ∧ I 73 0 = nI D ∧ (1 ≤ C ∧ C ≤ 4) ∧ (4 ≤ R ∧ R ≤ 16) ∧ (16 ≤ D ∧ D ≤ 60)
def wdR (I : zI) (W : Nat → Nat) : Prop := ∀ j, j < 26 → I 1 j = nI (W j) ∧ I 77 j = nI (W j) ∧ 1 ≤ W j ∧ W j ≤ 9
def paR (I : zI) (J : zJ) (P : Nat) (pn pk pv : Nat → Nat) : Prop := okP P pn pk pv ∧ cPat I J P pn pk pv ∧ mPat I P pn pk pv
def txR (I : zI) (T : Nat → Nat) (N : Nat) : Prop := I 0 8 = nI N ∧ I 76 12 = nI N ∧ (∀ i, i < N → I 2 i = nI (T i) ∧ I 84 i = nI (T i)) ∧ okX T N
def fiR (I : zI) : Prop := ∀ i, i < 480 → zfit 2 (I 5 i) = true
def msR (I : zI) : Prop := I 61 0 = 0 ∧ I 62 0 = 0 ∧ (∀ t, t < 4 → I (7 + 12 * t) 0 = nI t) ∧ eqG (I 71) (I 105)
/-- planned: what was planned, and how both hold it -/
def pnR (C R D : Nat) (r : zE) (o : Nat → Option zPl) (I : zI) : Prop := okSt r ∧ eD r = D ∧ (∀ i, i < eN r → I 74 i = nI (eT r i)) ∧ (∀ j, j < 26 → I 75 j = nI (eW r j) ∧ I 78 j = nI (eW r j)) ∧ gOK r o (I 71) ∧ (∀ t, t < nS r → cOK r t (o t) I ∧ mOK r t (o t) I) ∧ (∀ t u, o t = some u → pl0 C R (bO r t) (nO r t) (cO r t) (rO r t) u ∧ ∀ v, u.2.2.2.2.2.2 = some v → pl1 C R (bO r t) (nO r t) u.1 u.2.2.2.2.2.1 v)
def zeR (I : zI) : Prop := I 0 9 = 0 ∧ I 76 24 = 0 ∧ (∀ i, i < 192 → I 71 i = 0) ∧ (∀ i, i < 192 → I 105 i = 0)
def rsR (C R D : Nat) (I : zI) : Prop := (I 4 4 = 0 ∧ I 76 13 = 0 ∧ I 4 5 = I 76 23 ∧ zeR I) ∨ ∃ T N, okX T N ∧ (rdR T N).1 = true ∧ cRd T N I ∧ mRd T N I ∧ (zeR I ∨ (I 0 9 = 1 ∧ I 76 24 = 1 ∧ ∃ r o, eT r = T ∧ eN r = N ∧ pnR C R D r o I))
def Rl (I : zI) (J : zJ) : Prop := ∃ (C R D P N : Nat) (W pn pk pv T : Nat → Nat), szR I C R D ∧ wdR I W ∧ paR I J P pn pk pv ∧ txR I T N ∧ (fiR I ∧ ∀ i, i < 480 → zfit 2 (I 2 i) = true) ∧ msR I ∧ rsR C R D I
/-- each of these speaks of some cells only -/
theorem szR_u {I I' : zI} {C R D : Nat} (h : szR I C R D) (h0 : I' 0 0 = I 0 0) (h5 : I' 55 1 = I 55 1) (h7 : I' 70 = I 70) (h73 : I' 73 = I 73) (h76 : ∀ e, e < 3 → I' 76 e = I 76 e) : szR I' C R D := by
  unfold szR at h ⊢
  rw [h0, h5, h7, h73, h76 0 (by decide), h76 1 (by decide), h76 2 (by decide)]
  exact h
theorem mPat_n {I I' : zI} {P : Nat} {pn pk pv : Nat → Nat} (h : mPat I P pn pk pv) (h76 : I' 76 5 = I 76 5) (h79 : I' 79 = I 79) (h80 : I' 80 = I 80) (h81 : I' 81 = I 81) : mPat I' P pn pk pv := by
  unfold mPat at h ⊢
  rw [h76, h79, h80, h81]
  exact h
theorem paR_u {I I' : zI} {J J' : zJ} {P : Nat} {pn pk pv : Nat → Nat} (h : paR I J P pn pk pv) (h56 : I' 56 = I 56) (h59 : I' 59 = I 59) (h57 : J' 57 = J 57) (h58 : J' 58 = J 58) (h76 : I' 76 5 = I 76 5) (h79 : I' 79 = I 79) (h80 : I' 80 = I 80) (h81 : I' 81 = I 81) : paR I' J' P pn pk pv := by
  refine ⟨h.1, ?_, mPat_n h.2.2 h76 h79 h80 h81⟩
  have h2 := h.2.1
  unfold cPat at h2 ⊢
  rw [h56, h59, h57, h58]
  exact h2
theorem txR_u {I I' : zI} {T : Nat → Nat} {N : Nat} (h : txR I T N) (h0 : I' 0 8 = I 0 8) (h76 : I' 76 12 = I 76 12) (h2 : I' 2 = I 2) (h84 : I' 84 = I 84) : txR I' T N := by
  unfold txR at h ⊢
  rw [h0, h76, h2, h84]
  exact h
theorem msR_u {I I' : zI} (h : msR I) (h61 : I' 61 0 = I 61 0) (h62 : I' 62 0 = I 62 0) (h7 : ∀ t, t < 4 → I' (7 + 12 * t) 0 = I (7 + 12 * t) 0) (h71 : I' 71 = I 71) (h105 : I' 105 = I 105) : msR I' := by
  unfold msR at h ⊢
  rw [h61, h62, h71, h105]
  exact ⟨h.1, h.2.1, fun t ht => (h7 t ht).trans (h.2.2.1 t ht), h.2.2.2⟩
theorem cRd_u {T : Nat → Nat} {N : Nat} {I I' : zI} (h : cRd T N I) (h4 : I' 4 = I 4) (h5 : I' 5 = I 5) (h7 : ∀ t, t < 4 → I' (8 + 12 * t) = I (8 + 12 * t) ∧ I' (9 + 12 * t) = I (9 + 12 * t) ∧ ∀ e, 8 ≤ e → e < 14 → I' (7 + 12 * t) e = I (7 + 12 * t) e) : cRd T N I' := by
  obtain ⟨a1, a2, a3, a4, a5⟩ := h
  unfold cRd
  rw [h4, h5]
  refine ⟨a1, a2, a3, a4, fun hb => ⟨(a5 hb).1, fun t ht => ?_⟩⟩
  obtain ⟨b1, b2, b3⟩ := (a5 hb).2 t ht
  obtain ⟨g8, g9, g7⟩ := h7 t (by have := (a5 hb).1; omega)
  refine ⟨b1, b2, ?_⟩
  unfold cDone cStx cSt at b3 ⊢
  rw [g8, g9, g7 8 (by decide) (by decide), g7 9 (by decide) (by decide), g7 10 (by decide) (by decide), g7 11 (by decide) (by decide), g7 12 (by decide) (by decide), g7 13 (by decide) (by decide)]
  exact b3
theorem mRd_u {T : Nat → Nat} {N : Nat} {I I' : zI} (h : mRd T N I) (h76 : ∀ e, e = 13 ∨ e = 23 → I' 76 e = I 76 e) (hc : ∀ c, 84 < c → c < 93 → I' c = I c) : mRd T N I' := by
  unfold mRd at h ⊢
  rw [h76 13 (by omega), h76 23 (by omega), hc 85 (by omega) (by omega), hc 86 (by omega) (by omega), hc 87 (by omega) (by omega), hc 88 (by omega) (by omega), hc 89 (by omega) (by omega), hc 90 (by omega) (by omega), hc 91 (by omega) (by omega), hc 92 (by omega) (by omega)]
  exact h
theorem mOK_n {r : zE} {t : Nat} {o : Option zPl} {I I' : zI} (h : mOK r t o I) (hc : ∀ c, c = 93 ∨ c = 94 ∨ c = 95 ∨ c = 96 ∨ c = 97 ∨ c = 98 ∨ c = 103 ∨ c = 104 → I' c = I c) : mOK r t o I' := by
  unfold mOK mPtU mPt at h ⊢
  rw [hc 93 (by omega), hc 94 (by omega), hc 95 (by omega), hc 96 (by omega), hc 97 (by omega), hc 98 (by omega), hc 103 (by omega), hc 104 (by omega)]
  exact h
theorem zeR_u {I I' : zI} (h : zeR I) (h0 : I' 0 9 = I 0 9) (h76 : I' 76 24 = I 76 24) (h71 : I' 71 = I 71) (h105 : I' 105 = I 105) : zeR I' := by
  unfold zeR at h ⊢
  rw [h0, h76, h71, h105]
  exact h
theorem rsR_u {C R D : Nat} {I I' : zI} (h : rsR C R D I) (h0 : I' 0 9 = I 0 9) (h76 : ∀ e, e = 13 ∨ e = 23 ∨ e = 24 → I' 76 e = I 76 e) (hc : ∀ c, (3 < c ∧ c < 55) ∨ c = 71 ∨ c = 74 ∨ c = 75 ∨ c = 78 ∨ 84 < c → I' c = I c) : rsR C R D I' := by
  have hz : zeR I → zeR I' := fun hz => zeR_u hz h0 (h76 24 (by omega)) (hc 71 (by omega)) (hc 105 (by omega))
  rcases h with ⟨a1, a2, a3, a4⟩ | ⟨T, N, b1, b2, b3, b4, b5⟩
  · refine Or.inl ⟨by rw [hc 4 (by omega)]; exact a1, by rw [h76 13 (by omega)]; exact a2, by rw [hc 4 (by omega), h76 23 (by omega)]; exact a3, hz a4⟩
  · refine Or.inr ⟨T, N, b1, b2, cRd_u b3 (hc 4 (by omega)) (hc 5 (by omega)) (fun t ht => ⟨hc _ (by omega), hc _ (by omega), fun e _ _ => by rw [hc _ (by omega)]⟩), mRd_u b4 (fun e he => h76 e (by omega)) (fun c h1 _ => hc c (by omega)), ?_⟩
    rcases b5 with b5 | ⟨p1, p2, r, o, p3, p4, q1, q2, q3, q4, q5, q6, q7⟩
    · exact Or.inl (hz b5)
    · refine Or.inr ⟨h0.trans p1, (h76 24 (by omega)).trans p2, r, o, p3, p4, q1, q2, ?_, ?_, ?_, fun t ht => ⟨?_, ?_⟩, q7⟩
      · rw [hc 74 (by omega)]
        exact q3
      · rw [hc 75 (by omega), hc 78 (by omega)]
        exact q4
      · rw [hc 71 (by omega)]
        exact q5
      · have ht4 : t < 4 := by have := q1.2.2.1; omega
        exact cOK_u (q6 t ht).1 (fun j hj => hc _ (by omega))
      · exact mOK_n (q6 t ht).2 (fun c h1 => hc c (by omega))
/-- the places that planning finds are good ones -/
def poK (r : zE) (C R : Nat) (o : Nat → Option zPl) : Prop := ∀ t u, o t = some u → pl0 C R (bO r t) (nO r t) (cO r t) (rO r t) u ∧ ∀ v, u.2.2.2.2.2.2 = some v → pl1 C R (bO r t) (nO r t) u.1 u.2.2.2.2.2.1 v
theorem poK_1 {r : zE} {C R t : Nat} {st : zSt} (hR : 4 ≤ R) (h : poK r C R st.2) : poK r C R (sim1 r C R st t).2 := by
  unfold sim1
  by_cases h0 : hO r t = 0
  · rw [if_pos h0]
    cases hpl : plW st.1 C R (bO r t) (nO r t) (cO r t) (rO r t) with
    | none => exact h
    | some u =>
      dsimp only
      intro t' u' hu'
      dsimp only at hu'
      by_cases htt : t' = t
      · rw [if_pos htt] at hu'
        cases hu'
        rw [htt]
        exact plc_s (bO_n r t) hR hpl
      · rw [if_neg htt] at hu'
        exact h t' u' hu'
  · rw [if_neg h0]
    exact h
theorem poK_T {r : zE} {C R g : Nat} (hR : 4 ≤ R) : ∀ (m t : Nat) (st : zSt), poK r C R st.2 → poK r C R (simT r C R g t m st).2 := by
  intro m
  induction m with
  | zero => intro t st h; exact h
  | succ m ih =>
    intro t st h
    show poK r C R (simT r C R g (t + 1) m (if uO r t = g then sim1 r C R st t else st)).2
    refine ih (t + 1) _ ?_
    by_cases hu : uO r t = g
    · rw [if_pos hu]
      exact poK_1 hR h
    · rw [if_neg hu]
      exact h
theorem poK_O {r : zE} {C R : Nat} (hR : 4 ≤ R) : ∀ (g : Nat) (st : zSt), poK r C R st.2 → poK r C R (simO r C R g st).2 := by
  intro g
  induction g with
  | zero => intro st h; exact poK_T hR _ _ st h
  | succ g ih => intro st h; exact ih _ (poK_T hR _ _ st h)
theorem poK_P {r : zE} {C R : Nat} (hR : 4 ≤ R) : poK r C R (simP r C R).2 := poK_O hR 9 _ (fun t u hu => by cases hu)
