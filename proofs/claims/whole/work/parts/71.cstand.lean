/-! plan: a story is placed, the call, the one side -/
/-- the parts of story s as the class holds them -/
def cPt (I : zI) (s : Nat) (bd : Nat → Bool) (n fc fr : Nat) (u : zPl) : Prop :=
  ptV I (15 + 12 * s) u.1 u.2.2.1 u.2.2.2.1 u.2.1 u.2.2.2.2.1 0 u.2.2.2.2.2.1 ∧ (∀ c, c < 4 → I (16 + 12 * s) c = nI (if c < u.2.1 then t0F bd n fc fr u.2.1 u.2.2.2.2.1 (lsF u.2.2.2.2.2.2) u.2.2.2.2.2.1 c else 0)) ∧
  (∀ v, u.2.2.2.2.2.2 = some v → ptV I (17 + 12 * s) v.1 v.2.2.1 v.2.2.2.1 v.2.1 v.2.2.2.2 u.2.2.2.2.2.1 (n - u.2.2.2.2.2.1) ∧ ∀ c, c < 4 → I (18 + 12 * s) c = nI (if c < v.2.1 then t1F bd n v.2.1 v.2.2.2.2 u.2.2.2.2.2.1 c else 0))
section CSTAND
variable {S : Nat × (Nat → Int32)} {s n fc fr C R : Nat} {bd : Nat → Bool}
theorem s60 {I : zI} {J : zJ} (hs : s < 4) (hP : cPl I J s n fc fr bd) (hS : cSh I C R) (hbn : bd n = false) (hn0 : 0 < n) (hnum : I (7 + 12 * s) 0 = nI s) (h14 : I (7 + 12 * s) 14 = 0) (h16 : I (7 + 12 * s) 16 = 0) :
    ∃ I' J', zq S 60 [.ref 65, .ref (7 + 12 * s)] I J none I' J' ∧ (∀ z, z ≠ 66 → z ≠ 67 → z ≠ 69 → z ≠ 71 → z ≠ 72 → z ≠ 7 + 12 * s → z ≠ 15 + 12 * s → z ≠ 16 + 12 * s → z ≠ 17 + 12 * s → z ≠ 18 + 12 * s → I' z = I z) ∧ (∀ e, e ≠ 14 → e ≠ 16 → I' (7 + 12 * s) e = I (7 + 12 * s) e) ∧ (∀ z, z ≠ 65 → z ≠ 68 → J' z = J z) ∧ tkI I' ∧
      (plW (I 71) C R bd n fc fr = none → I' 71 = I 71 ∧ I' (7 + 12 * s) 14 = 3 ∧ I' (7 + 12 * s) 16 = 0) ∧ (∀ u, plW (I 71) C R bd n fc fr = some u → plG s bd n fc fr (I 71) (I' 71) u ∧ I' (7 + 12 * s) 14 = 0 ∧ I' (7 + 12 * s) 16 = nI (1 + lsF u.2.2.2.2.2.2) ∧ cPt I' s bd n fc fr u) := by
  obtain ⟨S1, S2, S3, S4, S5⟩ := hS
  have hn := hP.1
  have h15 := hP.2.2.2.1
  have h40 : nI n ≤ 40 := nI_le (b := 40) hn (by decide)
  have hn1 : ¬ I (7 + 12 * s) 14 = 1 := by rw [h14]; decide
  obtain ⟨I1, q61, a1, a2, a3⟩ := s61 (S := S) (I := I) (J := J) (f := 0) (fst := 0) (q := 0) (fc' := fc) (fr' := fr) hs hP ⟨S1, S2, S3, S4, S5⟩ (Nat.zero_le _) (Nat.zero_le _) rfl rfl rfl
  have e15 : 15 + 12 * s + 2 * 0 = 15 + 12 * s := rfl
  rw [e15] at a1 a2 a3
  have hgo : zd S 60 0 [some (.ref 65), some (.ref (7 + 12 * s))] [] I J (0, 0) = zd S 60 40 [some (.ref 65), some (.ref (7 + 12 * s))] [.int (bI (fwF (I 71) C R (htF bd n 0 fc fr R) 0).isSome)] I1 J (0, 0) := by
    rw [B60_0 hs, if_pos hn1, B60_9 hs, h15, if_neg (nI_ne0 hn0 (by omega)), B60_16 hs, h15, if_pos h40, B60_33 ⟨rfl, rfl⟩ hs q61]
  have hG1 : I1 71 = I 71 := a1 71 (by omega) (by omega) (by omega) (by omega)
  have ht1 : tkI I1 := tkI_u S5 hG1 (a1 72 (by omega) (by omega) (by omega) (by omega))
  have h71 : I1 (7 + 12 * s) = I (7 + 12 * s) := a1 _ (by omega) (by omega) (by omega) (by omega)
  cases hw : fwF (I 71) C R (htF bd n 0 fc fr R) 0 with
  | some w =>
    have hpl : plW (I 71) C R bd n fc fr = some (w.1, w.2.1, w.2.2.1, w.2.2.2, hOf (htF bd n 0 fc fr R w.2.1), n, none) := by unfold plW; rw [hw]
    obtain ⟨b1, b2, b3, b4, b5, b6, b7, b8, b9, b10, _⟩ := (plc_s hbn S4.1 hpl).1
    dsimp only at b1 b2 b3 b4 b5 b6 b7 b8 b9 b10
    obtain ⟨h, g1, g2⟩ := a3 w hw
    have ho : hOf (htF bd n 0 fc fr R w.2.1) = h + 1 := by rw [g1]; rfl
    rw [ho] at b4 b5 b8 b9 hpl
    generalize hI2 : u2 I1 (7 + 12 * s) 16 1 = I2
    have i2o : ∀ z, z ≠ 7 + 12 * s → I2 z = I1 z := fun z hz => by rw [← hI2, u2n (nbeq hz)]
    have i2e : ∀ e, e ≠ 16 → I2 (7 + 12 * s) e = I (7 + 12 * s) e := fun e he => by rw [← hI2, u2ne he, h71]
    have i2s : I2 (7 + 12 * s) 16 = 1 := by rw [← hI2, u2s]
    have hP2 : cPl I2 J s n fc fr bd := cPl_u hP (i2e 15 (by decide)) (i2e 12 (by decide)) (i2e 13 (by decide)) rfl
    have hV2 : ptV I2 (15 + 12 * s) w.1 w.2.2.1 w.2.2.2 w.2.1 (h + 1) 0 n := by
      unfold ptV at g2 ⊢
      rw [i2o _ (by omega)]
      exact g2
    obtain ⟨I3, J3, q66, c1, c2, c3, c4, c5, c6⟩ := s66 (S := S) (I := I2) (J := J) (less := 0) hs hP2 hV2 (by rw [i2e 0 (by decide)]; exact hnum) b1 (by omega) b2 (by omega) b5 (by omega) b7 b6 b8 b9 b10 (tkI_u ht1 (i2o 71 (by omega)) (i2o 72 (by omega)))
    have hG2 : I2 71 = I 71 := (i2o 71 (by omega)).trans hG1
    rw [hG2] at c6
    have h7' : I3 (7 + 12 * s) = I2 (7 + 12 * s) := c1 _ (by omega) (by omega) (by omega) (by omega) (by omega)
    refine ⟨I3, J3, ?_, fun z d1 d2 d3 d4 d5 d6 d7 d8 _ _ => by rw [c1 z d1 d2 d4 d5 d8, i2o z d6, a1 z d1 d2 d3 d7], fun e e1 e2 => by rw [h7', i2e e e2], fun z _ d2 => c2 z d2, c3, (fun z => by rw [hpl] at z; cases z), fun u hu => ?_⟩
    · refine zq_of rfl (hgo.trans ?_)
      rw [hw, B60_40 hs, if_neg (show ¬ bI (some w).isSome = 0 from (by decide : ¬ bI true = 0)), B60_43 hs, hI2, B60_48 ⟨rfl, rfl⟩ hs q66, B60_54 hs]
    · rw [hpl] at hu
      cases hu
      refine ⟨⟨fun c r hc hr => (c6.1 c r hc hr).1 trivial, (fun v hv => by cases hv), fun i hi _ => c6.2 i hi⟩, by rw [h7', i2e 14 (by decide)]; exact h14, by rw [h7', i2s]; rfl, ?_, ?_, fun v hv => by cases hv⟩
      · unfold ptV at hV2 ⊢
        rw [c1 _ (by omega) (by omega) (by omega) (by omega) (by omega)]
        exact hV2
      · intro c hc
        dsimp only
        by_cases hck : c < w.2.1
        · rw [if_pos hck]
          exact c4 c hck
        · rw [if_neg hck]
          exact c5 c (by omega) hc
  | none =>
    have hP1 : cPl I1 J s n fc fr bd := cPl_u hP (by rw [h71]) (by rw [h71]) (by rw [h71]) rfl
    have hS1 : cSh I1 C R := cSh_u ⟨S1, S2, S3, S4, S5⟩ (a1 70 (by omega) (by omega) (by omega) (by omega)) hG1 (a1 72 (by omega) (by omega) (by omega) (by omega))
    obtain ⟨I2, J2, q63, b1, b2, b3⟩ := s63 (S := S) (I := I1) (J := J) hs hP1 hS1
    rw [hG1] at q63 b3
    have hgo2 : zd S 60 0 [some (.ref 65), some (.ref (7 + 12 * s))] [] I J (0, 0) = zd S 60 62 [some (.ref 65), some (.ref (7 + 12 * s))] [.int (bI (jmW (I 71) C R bd n fc fr).isSome)] I2 J2 (0, 0) := by
      rw [hgo, hw, B60_40 hs, if_pos (show bI (none : Option (Nat × Nat × Nat × Nat)).isSome = 0 from rfl), B60_57 ⟨rfl, rfl⟩ hs q63]
    have hG2 : I2 71 = I 71 := (b1 71 (by omega) (by omega) (by omega) (by omega) (by omega)).trans hG1
    have ht2 : tkI I2 := tkI_u ht1 (b1 71 (by omega) (by omega) (by omega) (by omega) (by omega)) (b1 72 (by omega) (by omega) (by omega) (by omega) (by omega))
    have h72 : I2 (7 + 12 * s) = I (7 + 12 * s) := (b1 _ (by omega) (by omega) (by omega) (by omega) (by omega)).trans h71
    cases hj : jmW (I 71) C R bd n fc fr with
    | none =>
      have hpl : plW (I 71) C R bd n fc fr = none := by unfold plW; rw [hw, hj]
      refine ⟨u2 I2 (7 + 12 * s) 14 3, J2, ?_, fun z d1 d2 d3 d4 d5 d6 d7 d8 d9 d10 => by rw [u2n (nbeq d6), b1 z d1 d2 d3 d7 d9, a1 z d1 d2 d3 d7], fun e e1 e2 => by rw [u2ne e1, h72], fun z d1 _ => b2 z d1, tkI_u ht2 (u2n (nbeq (by omega))) (u2n (nbeq (by omega))), fun _ => ⟨by rw [u2n (nbeq (by omega))]; exact hG2, u2s, by rw [u2ne (by decide), h72]; exact h16⟩, fun u hu => by rw [hpl] at hu; cases hu⟩
      refine zq_of rfl (hgo2.trans ?_)
      rw [hj, B60_62 hs, if_pos (show bI (none : Option (Nat × Nat × Nat × Nat × Nat × Nat × Nat × Nat × Nat × Nat)).isSome = 0 from rfl), B60_84 hs, B60_89 hs]
    | some w =>
      obtain ⟨pg, k, x, y, h, m, pg2, k2, x2, y2⟩ := w
      have hpl : plW (I 71) C R bd n fc fr = some (pg, k, x, y, h, m, some (pg2, k2, x2, y2, hOf (htF bd n m 0 0 R k2))) := by unfold plW; rw [hw, hj]
      obtain ⟨w0, h2, g1, g2⟩ := b3 _ hj
      dsimp only at w0 g1 g2
      have ho : hOf (htF bd n m 0 0 R k2) = h2 + 1 := by rw [g1]; rfl
      rw [ho] at hpl
      have hps := plc_s hbn S4.1 hpl
      obtain ⟨d1, d2, d3, d4, d5, d6, d7, d8, d9, d10, _⟩ := hps.1
      obtain ⟨f1, f2, f3, f4, f5, f6, f7, f8, f9⟩ := hps.2 _ rfl
      dsimp only at d1 d2 d3 d4 d5 d6 d7 d8 d9 d10 f1 f2 f3 f4 f5 f6 f7 f8 f9
      have hls : lsF (some (pg2, k2, x2, y2, h2 + 1)) = 1 := rfl
      rw [hls] at d8 d9
      generalize hI3 : u2 I2 (7 + 12 * s) 16 2 = I3
      have i3o : ∀ z, z ≠ 7 + 12 * s → I3 z = I2 z := fun z hz => by rw [← hI3, u2n (nbeq hz)]
      have i3e : ∀ e, e ≠ 16 → I3 (7 + 12 * s) e = I (7 + 12 * s) e := fun e he => by rw [← hI3, u2ne he, h72]
      have i3s : I3 (7 + 12 * s) 16 = 2 := by rw [← hI3, u2s]
      have hJ17 : J2 (7 + 12 * s) = J (7 + 12 * s) := b2 _ (by omega)
      have hP3 : cPl I3 J2 s n fc fr bd := cPl_u hP (i3e 15 (by decide)) (i3e 12 (by decide)) (i3e 13 (by decide)) (by rw [hJ17])
      have hV3 : ptV I3 (15 + 12 * s) pg x y k h 0 m := by
        unfold ptV at w0 ⊢
        rw [i3o _ (by omega)]
        exact w0
      have hV3b : ptV I3 (17 + 12 * s) pg2 x2 y2 k2 (h2 + 1) m (n - m) := by
        unfold ptV at g2 ⊢
        rw [i3o _ (by omega)]
        exact g2
      obtain ⟨I4, J4, q66, c1, c2, c3, c4, c5, c6⟩ := s66 (S := S) (I := I3) (J := J2) (less := 1) hs hP3 hV3 (by rw [i3e 0 (by decide)]; exact hnum) d1 (by omega) d2 (by omega) d5 (Nat.le_refl _) d7 d6 d8 d9 d10 (tkI_u ht2 (i3o 71 (by omega)) (i3o 72 (by omega)))
      have hG3 : I3 71 = I 71 := (i3o 71 (by omega)).trans hG2
      rw [hG3] at c6
      have h74 : I4 (7 + 12 * s) = I3 (7 + 12 * s) := c1 _ (by omega) (by omega) (by omega) (by omega) (by omega)
      have hP4 : cPl I4 J4 s n fc fr bd := cPl_u hP3 (by rw [h74]) (by rw [h74]) (by rw [h74]) (by rw [c2 _ (by omega)])
      have hV4b : ptV I4 (17 + 12 * s) pg2 x2 y2 k2 (h2 + 1) m (n - m) := by
        unfold ptV at hV3b ⊢
        rw [c1 _ (by omega) (by omega) (by omega) (by omega) (by omega)]
        exact hV3b
      have hgn : gdF bd n n = true := by unfold gdF; rw [hbn, decide_eq_true (Nat.le_refl _)]; rfl
      have emn : m + (n - m) = n := by omega
      obtain ⟨I5, J5, q67, k1, k2', k3, k4, k5, k6⟩ := s67 (S := S) (I := I4) (J := J4) hs hP4 hV4b (by rw [h74, i3e 0 (by decide)]; exact hnum) (by omega) f2 (by omega) f3 (by omega) f6 (by omega) f8 (by rw [emn]; exact f9) (by rw [emn]; exact hgn) c3
      rw [emn] at k4 k6
      have h75 : I5 (7 + 12 * s) = I4 (7 + 12 * s) := k1 _ (by omega) (by omega) (by omega) (by omega) (by omega)
      refine ⟨I5, J5, ?_, fun z e1 e2 e3 e4 e5 e6 e7 e8 e9 e10 => by rw [k1 z e1 e2 e4 e5 e10, c1 z e1 e2 e4 e5 e8, i3o z e6, b1 z e1 e2 e3 e7 e9, a1 z e1 e2 e3 e7], fun e e1 e2 => by rw [h75, h74, i3e e e2], fun z e1 e2 => by rw [k2' z e2, c2 z e2, b2 z e1], k3, (fun z => by rw [hpl] at z; cases z), fun u hu => ?_⟩
      · refine zq_of rfl (hgo2.trans ?_)
        rw [hj, B60_62 hs, if_neg (show ¬ bI (some (pg, k, x, y, h, m, pg2, k2, x2, y2)).isSome = 0 from (by decide : ¬ bI true = 0)), B60_65 hs, hI3, B60_70 ⟨rfl, rfl⟩ hs q66, B60_76 ⟨rfl, rfl⟩ hs q67, B60_81 hs]
      · rw [hpl] at hu
        cases hu
        refine ⟨⟨?_, ?_, ?_⟩, by rw [h75, h74, i3e 14 (by decide)]; exact h14, by rw [h75, h74, i3s]; rfl, ?_, ?_, ?_⟩
        · intro c r hc hr
          dsimp only at hc hr ⊢
          rw [k6.2 _ (fun c' r' hc' hr' => by omega)]
          exact (c6.1 c r hc hr).1 trivial
        · intro v hv c r hc hr
          cases hv
          exact (k6.1 c r hc hr).1 trivial
        · intro i hi hi2
          rw [k6.2 i (hi2 _ rfl), c6.2 i hi]
        · unfold ptV at hV3 ⊢
          rw [k1 _ (by omega) (by omega) (by omega) (by omega) (by omega), c1 _ (by omega) (by omega) (by omega) (by omega) (by omega)]
          exact hV3
        · intro c hc
          dsimp only
          rw [k1 _ (by omega) (by omega) (by omega) (by omega) (by omega)]
          by_cases hck : c < k
          · rw [if_pos hck]
            exact c4 c hck
          · rw [if_neg hck]
            exact c5 c (by omega) hc
        · intro v hv
          cases hv
          refine ⟨?_, fun c hc => ?_⟩
          · unfold ptV at hV4b ⊢
            rw [k1 _ (by omega) (by omega) (by omega) (by omega) (by omega)]
            exact hV4b
          · dsimp only
            by_cases hck : c < k2
            · rw [if_pos hck]
              exact k4 c hck
            · rw [if_neg hck]
              exact k5 c (by omega) hc
end CSTAND
