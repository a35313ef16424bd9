/-! what is asked about the plan; the start; all calls together -/
section PAIRS4
variable {S : Nat × (Nat → Int32)}
/-- what is known of the stories, and of the plan where there is one -/
theorem rs_p {C R D : Nat} {I : zI} (h0 : ∀ t, t < 4 → I (7 + 12 * t) 0 = nI t) (h : rsR C R D I) : ∃ (c : Nat) (Q : Nat → Nat), c ≤ 4 ∧ I 4 4 = nI c ∧ I 76 13 = nI c ∧ I 0 9 = I 76 24 ∧ (∀ t, t < c → Q t ≤ 4 ∧ I (7 + 12 * t) 11 = nI (Q t) ∧ I 88 t = nI (Q t)) ∧ ((zeR I) ∨ (I 0 9 = 1 ∧ ∃ r o, c = nS r ∧ pnR C R D r o I ∧ (∀ t, t < c → Q t = qO r t) ∧ (∀ t, t < nS r → I (7 + 12 * t) 9 = nI (aO r t + 2) ∧ I (7 + 12 * t) 10 = nI (wsA (eT r) (eN r) 4 (aO r t + 2))) ∧ mSy r I ∧ ∀ t, t < nS r → parD (eT r) (eN r) (I 89) (I 90) (I 91) (I 92) (16 + t) 4 (aO r t + 2))) := by
  have hf := rs_f h
  rcases h with ⟨a1, a2, a3, a4⟩ | ⟨T, N, b1, b2, b3, b4, b5⟩
  · exact ⟨0, fun _ => 0, by decide, a1, a2, hf.2.2, fun t ht => absurd ht (Nat.not_lt_zero _), Or.inl a4⟩
  · have key : ∀ r : zE, eT r = T → eN r = N → (nS r ≤ 4 ∧ I 4 4 = nI (nS r) ∧ I 76 13 = nI (nS r)) ∧ (∀ t, t < nS r → qO r t ≤ 4 ∧ I (7 + 12 * t) 11 = nI (qO r t) ∧ I 88 t = nI (qO r t)) ∧ (∀ t, t < nS r → I (7 + 12 * t) 9 = nI (aO r t + 2) ∧ I (7 + 12 * t) 10 = nI (wsA (eT r) (eN r) 4 (aO r t + 2))) ∧ mSy r I ∧ ∀ t, t < nS r → parD (eT r) (eN r) (I 89) (I 90) (I 91) (I 92) (16 + t) 4 (aO r t + 2) := by
      intro r e1 e2
      subst e1
      subst e2
      obtain ⟨y1, y2, y3, y4, y5⟩ := cRd_y b2 b3 h0
      obtain ⟨w1, w2, w3⟩ := mRd_y b2 b4
      exact ⟨⟨y3, y2, w2⟩, fun t ht => ⟨(sy_φ (y4 t ht)).1, (y1 t ht).2.2.1, (w1 t ht).2.2.2.1⟩, y5, w1, w3⟩
    rcases b5 with b5 | ⟨p1, p2, r, o, p3, p4, p5⟩
    · obtain ⟨k1, k2, k3, k4, k5⟩ := key (0, fun _ => 0, 0, fun _ => 0, fun _ => 0, fun _ => 0, T, N) rfl rfl
      exact ⟨nS (0, fun _ => 0, 0, fun _ => 0, fun _ => 0, fun _ => 0, T, N), qO (0, fun _ => 0, 0, fun _ => 0, fun _ => 0, fun _ => 0, T, N), k1.1, k1.2.1, k1.2.2, hf.2.2, k2, Or.inl b5⟩
    · obtain ⟨k1, k2, k3, k4, k5⟩ := key r p3 p4
      exact ⟨nS r, qO r, k1.1, k1.2.1, k1.2.2, hf.2.2, k2, Or.inr ⟨p1, r, o, rfl, p5, fun _ _ => rfl, k3, k4, k5⟩⟩
theorem plD_b {b : Int32} {c : Nat} {x : Int32} (h : plD b c x = true) : ¬ b = 0 := by
  unfold plD at h
  rw [Bool.and_eq_true, Bool.not_eq_true', decide_eq_false_iff_not] at h
  exact h.1
theorem tell_e {b : Int32} {c : Nat} {f g : Nat → Int32} (x : Int32) (hc : c ≤ 4) (h : ¬ b = 0 → ∀ s, s < c → f s = g s) : tellR b c f x = tellR b c g x := by
  unfold tellR
  cases hp : plD b c x with
  | false => rfl
  | true =>
    obtain ⟨s, s1, rfl⟩ := plD_n (by omega) hp
    rw [if_pos rfl, if_pos rfl, nI_clamp (by omega)]
    exact h (plD_b hp) s s1
theorem hd_1 {r : zE} {t : Nat} {o : Option zPl} : (nI (hdF r t o) = 1 ↔ faS r (fO r t) (qO r t) = true) := by
  have h3 : hdF r t o ≤ 3 := by
    unfold hdF
    have := hO_le (r := r) (t := t)
    split
    · split <;> omega
    · omega
  have e : nI (hdF r t o) = 1 ↔ hdF r t o = 1 := nI_eq (b := 1) (by omega) (by decide)
  rw [e]
  unfold hdF
  by_cases h0 : hO r t = 0
  · have hf := (hO_0 h0).1
    rw [if_pos h0, hf]
    constructor
    · intro h
      split at h <;> cases h
    · intro h
      cases h
  · rw [if_neg h0]
    unfold hO hF1
    cases hf : faS r (fO r t) (qO r t) with
    | true => exact ⟨fun _ => rfl, fun _ => if_pos rfl⟩
    | false =>
      rw [if_neg (by decide)]
      constructor
      · intro h
        split at h <;> cases h
      · intro h
        cases h
theorem p11 (a : Int32) : zpair S Rl 11 140 [.int a] := by
  intro I J h
  have hR := h
  obtain ⟨C, R, D, P, N, W, pn, pk, pv, T, h1, h2, h3, h4, h5, h6, h7⟩ := h
  obtain ⟨c, Q, c4, e1, e2, e3, e4, e5⟩ := rs_p h6.2.2.1 h7
  have q1 := s11 (S := S) (I := I) (J := J) a c4 e1
  have q2 := s140 (S := S) (I := I) (J := J) a c4 e2
  rw [← e3] at q2
  have e : tellR (I 0 9) c (fun s => I (7 + 12 * s) 14) a = tellR (I 0 9) c (I 93) a := tell_e a c4 (fun hb s hs => by
    rcases e5 with e5 | ⟨p1, r, o, rfl, ⟨_, _, _, _, _, ok, _⟩, _⟩
    · exact absurd e5.1 hb
    · exact (ok s hs).1.1.trans (ok s hs).2.1.symm)
  rw [e] at q1
  exact ⟨_, _, _, _, _, q1, q2, hR⟩
theorem p12 (a : Int32) : zpair S Rl 12 141 [.int a] := by
  intro I J h
  have hR := h
  obtain ⟨C, R, D, P, N, W, pn, pk, pv, T, h1, h2, h3, h4, h5, h6, h7⟩ := h
  obtain ⟨c, Q, c4, e1, e2, e3, e4, e5⟩ := rs_p h6.2.2.1 h7
  have q1 := s12 (S := S) (I := I) (J := J) a c4 e1
  have q2 := s141 (S := S) (I := I) (J := J) a c4 e2
  rw [← e3] at q2
  have e : tellR (I 0 9) c (fun s => if I (7 + 12 * s) 14 = 1 then 0 else I (7 + 12 * s) 15) a = tellR (I 0 9) c (I 94) a := tell_e a c4 (fun hb s hs => by
    rcases e5 with e5 | ⟨p1, r, o, rfl, ⟨_, _, _, _, _, ok, _⟩, _⟩
    · exact absurd e5.1 hb
    · obtain ⟨⟨k1, k2, _⟩, ⟨m1, m2, _⟩⟩ := ok s hs
      rw [k1, k2, m2]
      unfold lC1
      cases hf : faS r (fO r s) (qO r s) with
      | true =>
        rw [if_pos (hd_1.mpr hf), if_pos rfl]
        rfl
      | false =>
        have hne : ¬ nI (hdF r s (o s)) = 1 := fun z => by
          have := hd_1.mp z
          rw [hf] at this
          cases this
        rw [if_neg hne, if_neg (by decide)]
        rfl)
  rw [e] at q1
  exact ⟨_, _, _, _, _, q1, q2, hR⟩
theorem p13 (a b : Int32) : zpair S Rl 13 142 [.int a, .int b] := by
  intro I J h
  have hR := h
  obtain ⟨C, R, D, P, N, W, pn, pk, pv, T, h1, h2, h3, h4, h5, h6, h7⟩ := h
  obtain ⟨c, Q, c4, e1, e2, e3, e4, e5⟩ := rs_p h6.2.2.1 h7
  have q1 := s13 (S := S) (I := I) (J := J) (Q := Q) a b c4 e1 (fun s hs => ⟨(e4 s hs).1, (e4 s hs).2.1⟩)
  have q2 := s142 (S := S) (I := I) (J := J) (Q := Q) a b c4 e2 (fun s hs => ⟨(e4 s hs).1, (e4 s hs).2.2⟩)
  rw [← e3] at q2
  have e : costR (I 0 9) c Q (fun s => I (10 + 12 * s)) a b = costR (I 0 9) c Q (fun s p => I 98 (4 * s + p)) a b := by
    unfold costR
    cases hp : plD (I 0 9) c a with
    | false => rfl
    | true =>
      have hb := plD_b hp
      obtain ⟨s, s1, rfl⟩ := plD_n (by omega) hp
      rw [if_pos rfl, if_pos rfl, nI_clamp (by omega)]
      by_cases h1 : b < 0
      · rw [if_pos h1, if_pos h1]
      · rw [if_neg h1, if_neg h1]
        by_cases h2 : nI (Q s) ≤ b
        · rw [if_pos h2, if_pos h2]
        · obtain ⟨p, hp31, rfl⟩ := nI_of h1
          have hq4 := (e4 s s1).1
          have hpQ : p < Q s := Nat.not_le.mp (fun z => h2 (nI_le z (by omega)))
          rw [if_neg h2, if_neg h2, nI_clamp hp31]
          rcases e5 with e5 | ⟨p1, r, o, rfl, ⟨_, _, _, _, _, ok, _⟩, hQ, _⟩
          · exact absurd e5.1 hb
          · rw [hQ s s1] at hpQ
            exact ((ok s s1).1.2.2.2.2.1 p hpQ).trans ((ok s s1).2.2.2.2.1 p hpQ).symm
  rw [e] at q1
  exact ⟨_, _, _, _, _, q1, q2, hR⟩
theorem s14_0 {I : zI} {J : zJ} {c : Nat} (x y z : Int32) (h9 : I 0 9 = 0) (h : I 4 4 = nI c) : zq S 14 [.ref 0, .int x, .int y, .int z] I J (some (.int (-1))) I J := by
  refine zq_of rfl ?_
  show zd S 14 0 [some (.ref 0), some (.int x), some (.int y), some (.int z)] [] I J (0, 0) = _
  have hp : plD (I 0 9) c x = false := by unfold plD; rw [h9]; rfl
  rw [B14_0 ⟨rfl, rfl⟩ (s17 x h), B14_5, hp, if_pos ((bI_0 _).mpr rfl), B14_28]
theorem s143_0 {I : zI} {J : zJ} {c : Nat} (x y z : Int32) (h9 : I 76 24 = 0) (h : I 76 13 = nI c) : zq S 143 [.ref 76, .int x, .int y, .int z] I J (some (.int (-1))) I J := by
  refine zq_of rfl ?_
  show zd S 143 0 [some (.ref 76), some (.int x), some (.int y), some (.int z), none] [] I J (0, 0) = _
  have hp : plD (I 76 24) c x = false := by unfold plD; rw [h9]; rfl
  rw [B143_0 ⟨rfl, rfl⟩ (s139 x h), B143_5, hp, if_pos ((bI_0 _).mpr rfl), B143_34, if_pos rfl, B143_70]
/-- a part, told alike -/
theorem pt_e {I : zI} {cl q pg x y k h f m : Nat} {t : Nat → Nat} (hv : ptV I cl pg x y k h f m) (hc : ∀ c, c < 4 → I (cl + 1) c = nI (if c < k then t c else 0)) (hm : mPt I q pg x y k h f m t) (z : Int32) : ptT (I cl) (I (cl + 1)) z = ptT (fun e => I 104 (11 * q + (e - 1))) (fun e => I 104 (11 * q + (7 + e))) z := by
  obtain ⟨v1, v2, v3, v4, v5, v6, v7⟩ := hv
  obtain ⟨m1, m2, m3, m4, m5, m6, m7, m8, _⟩ := hm
  unfold ptT
  by_cases h1 : z < 0
  · rw [if_pos h1, if_pos h1]
  · rw [if_neg h1, if_neg h1]
    by_cases h2 : 10 < z
    · rw [if_pos h2, if_pos h2]
    · rw [if_neg h2, if_neg h2]
      obtain ⟨i, hi, rfl⟩ := nI_of h1
      have h10 : i ≤ 10 := Nat.not_lt.mp (fun z => h2 ((nI_ltI (a := 10) (b := i) (by decide) hi).mpr z))
      rw [nI_clamp hi]
      by_cases h7 : i < 7
      · rw [if_pos h7, if_pos h7]
        dsimp only
        rw [Nat.add_sub_cancel]
        have hh : i = 0 ∨ i = 1 ∨ i = 2 ∨ i = 3 ∨ i = 4 ∨ i = 5 ∨ i = 6 := by omega
        rcases hh with rfl | rfl | rfl | rfl | rfl | rfl | rfl
        · exact v1.trans m1.symm
        · exact v2.trans m2.symm
        · exact v3.trans m3.symm
        · exact v4.trans m4.symm
        · exact v5.trans m5.symm
        · exact v6.trans m6.symm
        · exact v7.trans m7.symm
      · rw [if_neg h7, if_neg h7]
        dsimp only
        have := m8 (i - 7) (by omega)
        rw [Nat.add_assoc] at this
        rw [this]
        exact hc (i - 7) (by omega)
theorem p14 (a b d : Int32) : zpair S Rl 14 143 [.int a, .int b, .int d] := by
  intro I J h
  have hR := h
  obtain ⟨C, R, D, P, N, W, pn, pk, pv, T, h1, h2, h3, h4, h5, h6, h7⟩ := h
  obtain ⟨c, Q, c4, e1, e2, e3, e4, e5⟩ := rs_p h6.2.2.1 h7
  rcases e5 with e5 | ⟨p1, r, o, rfl, ⟨_, _, _, _, _, ok, _⟩, _⟩
  · exact ⟨_, _, _, _, _, s14_0 a b d e5.1 e1, s143_0 a b d e5.2.1 e2, hR⟩
  · have hls : ∀ v : Option (Nat × Nat × Nat × Nat × Nat), lsF v ≤ 1 := fun v => by unfold lsF; split <;> omega
    have hpc : ∀ s, pcF (o s) ≤ 2 := fun s => by
      unfold pcF
      cases o s with
      | none => exact Nat.zero_le _
      | some u => have := hls u.2.2.2.2.2.2; show 1 + lsF u.2.2.2.2.2.2 ≤ 2; omega
    have q1 := s14 (S := S) (I := I) (J := J) (Q := fun s => pcF (o s)) a b d c4 e1 (fun s hs => ⟨hpc s, (ok s hs).1.2.2.1⟩)
    have q2 := s143 (S := S) (I := I) (J := J) (Q := fun s => pcF (o s)) a b d c4 e2 (fun s hs => by
      refine ⟨hpc s, fun j hj => ?_⟩
      obtain ⟨_, _, _, _, mu, mn⟩ := (ok s hs).2
      have hj2 : j = 0 ∨ j = 1 := by omega
      cases ho : o s with
      | none =>
        have := mn ho
        unfold pcF
        rcases hj2 with rfl | rfl
        · exact ⟨fun _ => Nat.zero_le _, fun _ => this.1⟩
        · exact ⟨fun _ => Nat.zero_le _, fun _ => this.2⟩
      | some u =>
        obtain ⟨u1, u2'⟩ := mu u ho
        have hp : pcF (some u) = 1 + lsF u.2.2.2.2.2.2 := rfl
        rw [hp]
        rcases hj2 with rfl | rfl
        · have : I 103 (2 * s + 0) = 1 := u1.1.2.2.2.2.2.2.2.2
          rw [this]
          exact ⟨fun z => absurd z (by decide), fun z => by omega⟩
        · cases hv : u.2.2.2.2.2.2 with
          | none =>
            rw [u2' hv]
            exact ⟨fun _ => (by show 1 + 0 ≤ 1; omega), fun _ => rfl⟩
          | some v =>
            have : I 103 (2 * s + 1) = 1 := (u1.2 v hv).2.2.2.2.2.2.2.2
            rw [this]
            exact ⟨fun z => absurd z (by decide), fun z => (by
              have z : 1 + 1 ≤ 1 := z
              omega)⟩)
    rw [← e3] at q2
    have e : partR (I 0 9) (nS r) (fun s => pcF (o s)) (fun s p => ptT (I (15 + 12 * s + 2 * p)) (I (16 + 12 * s + 2 * p))) a b d = partR (I 0 9) (nS r) (fun s => pcF (o s)) (fun s p => ptT (fun e => I 104 (11 * (2 * s + p) + (e - 1))) (fun e => I 104 (11 * (2 * s + p) + (7 + e)))) a b d := by
      unfold partR
      cases hp : plD (I 0 9) (nS r) a with
      | false => rfl
      | true =>
        obtain ⟨s, s1, rfl⟩ := plD_n (by omega) hp
        rw [if_pos rfl, if_pos rfl, nI_clamp (by omega)]
        by_cases h1 : b < 0
        · rw [if_pos h1, if_pos h1]
        · rw [if_neg h1, if_neg h1]
          by_cases h2 : nI (pcF (o s)) ≤ b
          · rw [if_pos h2, if_pos h2]
          · obtain ⟨p, hp31, rfl⟩ := nI_of h1
            have hp2 := hpc s
            have hpQ : p < pcF (o s) := Nat.not_le.mp (fun z => h2 (nI_le z (by omega)))
            rw [if_neg h2, if_neg h2, nI_clamp hp31]
            obtain ⟨_, _, _, _, _, cu⟩ := (ok s s1).1
            obtain ⟨_, _, _, _, mu, _⟩ := (ok s s1).2
            cases ho : o s with
            | none =>
              rw [ho] at hpQ
              exact absurd hpQ (Nat.not_lt_zero _)
            | some u =>
              have c1 := cu u ho
              have m1 := (mu u ho).1
              have hj2 : p = 0 ∨ p = 1 := by omega
              rcases hj2 with rfl | rfl
              · have := pt_e (I := I) (cl := 15 + 12 * s) (q := 2 * s) c1.1 (fun c hc => by rw [show 15 + 12 * s + 1 = 16 + 12 * s by omega]; exact c1.2.1 c hc) m1.1 d
                rw [show 15 + 12 * s + 1 = 16 + 12 * s by omega] at this
                exact this
              · cases hv : u.2.2.2.2.2.2 with
                | none =>
                  rw [ho] at hpQ
                  have hpQ : 1 < 1 + lsF u.2.2.2.2.2.2 := hpQ
                  rw [hv] at hpQ
                  exact absurd hpQ (by decide)
                | some v =>
                  have c2 := c1.2.2 v hv
                  have := pt_e (I := I) (cl := 17 + 12 * s) (q := 2 * s + 1) c2.1 (fun c hc => by rw [show 17 + 12 * s + 1 = 18 + 12 * s by omega]; exact c2.2 c hc) (m1.2 v hv) d
                  rw [show 17 + 12 * s + 1 = 18 + 12 * s by omega] at this
                  dsimp only
                  rw [show 15 + 12 * s + 2 * 1 = 17 + 12 * s by omega, show 16 + 12 * s + 2 * 1 = 18 + 12 * s by omega]
                  exact this
    rw [e] at q1
    exact ⟨_, _, _, _, _, q1, q2, hR⟩
theorem p15 (a b d : Int32) : zpair S Rl 15 145 [.int a, .int b, .int d] := by
  intro I J h
  have hR := h
  obtain ⟨C, R, D, P, N, W, pn, pk, pv, T, h1, h2, h3, h4, h5, h6, h7⟩ := h
  obtain ⟨z1, z2, z3, z4, z5, z6, z7, z8, z9, z10, z11⟩ := h1
  have q1 := s15 (S := S) (I := I) (J := J) a b d z9.2 z10.2 z1 z2
  have q2 := s145 (S := S) (I := I) (J := J) a b d z9.2 z10.2 z3 z4
  have e : cellR (I 71) C R a b d = cellR (I 105) C R a b d := by
    unfold cellR
    cases hh : hasC C R a b d with
    | false => rfl
    | true =>
      obtain ⟨p, c, r, p1, c1, r1, rfl, rfl, rfl⟩ := hasC_n z9.2 z10.2 hh
      rw [if_pos rfl, if_pos rfl, cAt_n p1 (by omega) (by omega)]
      exact h6.2.2.2 _ (by omega)
  rw [e] at q1
  exact ⟨_, _, _, _, _, q1, q2, hR⟩
theorem p16 (a b d w : Int32) : zpair S Rl 16 148 [.int a, .int b, .int d, .int w] := by
  intro I J h
  have hR := h
  obtain ⟨C, R, D, P, N, W, pn, pk, pv, T, h1, h2, h3, h4, h5, h6, h7⟩ := h
  obtain ⟨z1, z2, z3, z4, z5, z6, z7, z8, z9, z10, z11⟩ := h1
  obtain ⟨c, Q, c4, e1, e2, e3, e4, e5⟩ := rs_p h6.2.2.1 h7
  rcases e5 with e5 | ⟨p1, r, o, rfl, ⟨o1, o2, o3, o4, o5, ok, o7⟩, o8, o9, o10, o11⟩
  · exact ⟨_, _, _, _, _, s16_0 a b d w z9.2 z10.2 z1 z2 z6 e5.1 e1, s148_0 a b d w z9.2 z10.2 z3 z4 z5 e5.2.2.2, hR⟩
  · subst o2
    have hu : ∀ t u, o t = some u → u.2.2.1 ≤ 4 ∧ pg1 u < 3 := by
      intro t u ht
      obtain ⟨g1, g2⟩ := o7 t u ht
      obtain ⟨_, k2, k3, _⟩ := g1
      refine ⟨by have := z9.2; omega, ?_⟩
      unfold pg1
      cases hv : u.2.2.2.2.2.2 with
      | none => exact (by decide : 0 < 3)
      | some v => exact (g2 v hv).2.1
    have q1 := s16_1 (S := S) (I := I) (J := J) (r := r) (o := o) a b d w o1 z9.2 z10.2 z1 z2 z6 p1 e1 ⟨z8, o3, fun j hj => (o4 j hj).1, o9⟩ (fun t ht => (ok t ht).1) o5 hu
    have q2 := s148_1 (S := S) (I := I) (J := J) (r := r) (o := o) (G := I 71) a b d w o1 z9.2 z10.2 z3 z4 ⟨z5, fun j hj => (o4 j hj).2, fun t ht => ⟨(o10 t ht).2.2.2.2, o11 t ht⟩⟩ (fun t ht => (ok t ht).2) o5 (fun i hi => (h6.2.2.2 i hi).symm) hu
    exact ⟨_, _, _, _, _, q1, q2, hR⟩
theorem zcl_n {v : Int32} {a b : Nat} (hab : a ≤ b) (hb : b < 2 ^ 20) : ∃ c, zcl v (nI a) (nI b) = nI c ∧ a ≤ c ∧ c ≤ b := by
  unfold zcl
  by_cases h1 : nI a ≤ v
  · rw [if_pos h1]
    by_cases h2 : v ≤ nI b
    · rw [if_pos h2]
      have h0 : ¬ v < 0 := by
        intro z
        rw [Int32.lt_iff_toInt_lt] at z
        rw [Int32.le_iff_toInt_le, nI_toInt (by omega)] at h1
        have e0 : (0 : Int32).toInt = 0 := rfl
        omega
      obtain ⟨c, hc, rfl⟩ := nI_of h0
      exact ⟨c, rfl, (nI_leI (by omega) hc).mp h1, (nI_leI hc (by omega)).mp h2⟩
    · rw [if_neg h2]
      exact ⟨b, rfl, hab, Nat.le_refl _⟩
  · rw [if_neg h1]
    exact ⟨a, rfl, Nat.le_refl _, hab⟩
theorem zfit_0 : zfit 2 0 = true := by
  unfold zfit
  refine decide_eq_true ?_
  have : (0 : Int32).toInt = 0 := rfl
  omega
theorem Rl_0 (a b c : Int32) : Rl (I0 (zcl a 1 4) (zcl b 4 16) (zcl c 16 60)) J0 := by
  obtain ⟨C, eC, C1, C2⟩ := zcl_n (v := a) (a := 1) (b := 4) (by decide) (by decide)
  obtain ⟨R, eR, R1, R2⟩ := zcl_n (v := b) (a := 4) (b := 16) (by decide) (by decide)
  obtain ⟨D, eD', D1, D2⟩ := zcl_n (v := c) (a := 16) (b := 60) (by decide) (by decide)
  have eC : zcl a 1 4 = nI C := eC
  have eR : zcl b 4 16 = nI R := eR
  have eD' : zcl c 16 60 = nI D := eD'
  rw [eC, eR, eD']
  refine ⟨C, R, D, 0, 0, fun _ => 4, fun _ => 0, fun _ => 0, fun _ => 0, fun _ => 0, ⟨rfl, rfl, rfl, rfl, rfl, rfl, rfl, rfl, ⟨C1, C2⟩, ⟨R1, R2⟩, ⟨D1, D2⟩⟩, fun j hj => ⟨if_pos hj, if_pos hj, (by decide : 1 ≤ 4), (by decide : 4 ≤ 9)⟩, ⟨⟨by decide, fun p hp => absurd hp (Nat.not_lt_zero _), fun p hp => absurd hp (Nat.not_lt_zero _)⟩, ⟨rfl, fun p hp => absurd hp (Nat.not_lt_zero _), fun p hp => absurd hp (Nat.not_lt_zero _), fun p hp => absurd hp (Nat.not_lt_zero _)⟩, ⟨rfl, fun p hp => absurd hp (Nat.not_lt_zero _), fun p hp => absurd hp (Nat.not_lt_zero _), fun p hp => absurd hp (Nat.not_lt_zero _)⟩⟩, ⟨rfl, rfl, fun i hi => absurd hi (Nat.not_lt_zero _), Nat.zero_le _, fun i hi => absurd hi (Nat.not_lt_zero _)⟩, ⟨fun i _ => zfit_0, fun i _ => zfit_0⟩, ⟨rfl, rfl, fun t ht => ?_, fun i _ => rfl⟩, Or.inl ⟨rfl, rfl, rfl, rfl, rfl, fun i _ => rfl, fun i _ => rfl⟩⟩
  have hh : t = 0 ∨ t = 1 ∨ t = 2 ∨ t = 3 := by omega
  rcases hh with rfl | rfl | rfl | rfl
  · rfl
  · rfl
  · rfl
  · rfl
/-- ALL FOURTEEN -/
theorem ag_all (S : Nat × (Nat → Int32)) : zagree S Rl :=
  ⟨fun x b => p3 _ b, fun a n b => p4 a n b, fun a n => p5 a n, fun a n => p6 a n, p7, p8, p9, p10, fun a => p11 a, fun a => p12 a, fun a b => p13 a b, fun a b c => p14 a b c, fun a b c => p15 a b c, fun a b c d => p16 a b c d⟩
end PAIRS4
