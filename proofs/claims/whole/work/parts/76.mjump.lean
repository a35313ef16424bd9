/-! plan: a story is placed, the other side -/
def mPtU (I : zI) (s : Nat) (bd : Nat → Bool) (n fc fr : Nat) (u : zPl) : Prop :=
  mPt I (2 * s) u.1 u.2.2.1 u.2.2.2.1 u.2.1 u.2.2.2.2.1 0 u.2.2.2.2.2.1 (t0F bd n fc fr u.2.1 u.2.2.2.2.1 (lsF u.2.2.2.2.2.2) u.2.2.2.2.2.1) ∧
  (∀ v, u.2.2.2.2.2.2 = some v → mPt I (2 * s + 1) v.1 v.2.2.1 v.2.2.2.1 v.2.1 v.2.2.2.2 u.2.2.2.2.2.1 (n - u.2.2.2.2.2.1) (t1F bd n v.2.1 v.2.2.2.2 u.2.2.2.2.2.1))
def frPU (I I' : zI) (s : Nat) : Prop := (∀ z, z ≠ 76 → z ≠ 103 → z ≠ 104 → z ≠ 105 → z ≠ 106 → z ≠ 107 → z ≠ 108 → z ≠ 109 → z ≠ 93 → I' z = I z) ∧ (∀ e, e < 42 ∨ 45 < e → I' 76 e = I 76 e) ∧ (∀ z, z < 2 * s ∨ 2 * s + 2 ≤ z → I' 103 z = I 103 z) ∧ (∀ z, z < 22 * s ∨ 22 * s + 22 ≤ z → I' 104 z = I 104 z) ∧ (∀ z, z ≠ s → I' 93 z = I 93 z)
theorem v0F_1 {b fc fr k h : Nat} {t li : Nat → Nat} {c r : Nat} : v0F b fc fr k h 1 t li c r = if c + 1 = k ∧ r + 1 = h then b + 82 else v0F b fc fr k h 0 t li c r := by
  unfold v0F
  have hz : ¬ (0 = 1 ∧ c + 1 = k ∧ r + 1 = h) := fun z => by omega
  by_cases hc : c + 1 = k ∧ r + 1 = h
  · rw [if_pos ⟨rfl, hc.1, hc.2⟩, if_pos hc]
  · rw [if_neg (fun z => hc z.2), if_neg hc, if_neg hz]
section MJUMP
variable {S : Nat × (Nat → Int32)} {k : zK} {s fc fr C R : Nat} {X : List (Nat × Nat × Nat × Nat)} {J : zJ}
/-- the parts of a story that jumps, from w -/
def uOf (X : List (Nat × Nat × Nat × Nat)) (R : Nat) (w : Nat × Nat × Nat × Nat × Nat × Nat × Nat × Nat × Nat × Nat) : zPl := (w.1, w.2.1, w.2.2.1, w.2.2.2.1, w.2.2.2.2.1, w.2.2.2.2.2.1, some (w.2.2.2.2.2.2.1, w.2.2.2.2.2.2.2.1, w.2.2.2.2.2.2.2.2.1, w.2.2.2.2.2.2.2.2.2, hOf (htF (bdL X) X.length w.2.2.2.2.2.1 0 0 R w.2.2.2.2.2.2.2.1)))
theorem s135 {I : zI} {pg x y k' : Nat} (hs : s < 4) (hP : mPl I s X fc fr) (hS : mSh I C R) (hpg : pg < 2) (hx : x ≤ 4) (hy : y < R) (hk0 : 0 < k') (hk : k' ≤ 4) (hfk : fc ≤ k') :
    ∃ I', zq S 135 [.ref 76, .int (nI s), .int (nI pg), .int (nI x), .int (nI y), .int (nI k')] I J (some (.int (bI (jmF (I 105) C R (bdL X) X.length fc fr pg k' y x).isSome))) I' J ∧ (jmF (I 105) C R (bdL X) X.length fc fr pg k' y x = none → fo130 I I') ∧ (∀ w, jmF (I 105) C R (bdL X) X.length fc fr pg k' y x = some w → frPU I I' s ∧ I' 93 = I 93 ∧ plG s (bdL X) X.length fc fr (I 105) (I' 105) (uOf X R w) ∧ mPtU I' s (bdL X) X.length fc fr (uOf X R w)) := by
  have hn := hP.1
  have hS' := hS
  obtain ⟨S1, S2, S3, S4⟩ := hS
  have zs : zin (nI s) 4 = true := zin_n hs (by decide)
  have cs : (nI s).toNatClampNeg = s := nI_clamp (by omega)
  have q133 := s133 (S := S) (J := J) (I := I) (pg := pg) (x := x) (y := y) (k' := k') hS' (by omega) hx hy hk
  have e1 : nI C < nI (x + k') ↔ C < x + k' := nI_ltI (by omega) (by omega)
  by_cases hxk : x + k' ≤ C
  · rw [if_pos hxk] at q133
    have hcl := cnF_le (p := rwF (I 105) pg x k') (R - y) y
    have hyh : y + cnF (rwF (I 105) pg x k') y (R - y) ≤ R := cnF_R hy
    unfold jmF
    generalize hh : cnF (rwF (I 105) pg x k') y (R - y) = h at q133 hcl hyh
    have e2 : nI h < 2 ↔ h < 2 := nI_ltI (b := 2) (by omega) (by decide)
    have hpre : zd S 135 0 [some (.ref 76), some (.int (nI s)), some (.int (nI pg)), some (.int (nI x)), some (.int (nI y)), some (.int (nI k')), none, none, none, none, none] [] I J (0, 0) = zd S 135 23 [some (.ref 76), some (.int (nI s)), some (.int (nI pg)), some (.int (nI x)), some (.int (nI y)), some (.int (nI k')), some (.int (nI h)), none, none, none, none] [] I J (0, 0) := by
      rw [B135_0 ⟨rfl, rfl⟩ q133, B135_10, S1, nI_add, if_neg (fun z => by have := e1.mp z; omega)]
    by_cases h2 : h < 2
    · rw [if_neg (fun z => by have := z.2.1; omega)]
      refine ⟨I, zq_of rfl (hpre.trans ?_), fun _ => ⟨fun _ _ _ _ _ _ => rfl, fun _ _ => rfl⟩, fun w hw => by cases hw⟩
      rw [B135_23, if_pos (e2.mpr h2), B135_41, if_pos (by decide), B135_70 rfl]
      rfl
    · obtain ⟨I1, q134, a1⟩ := s134 (S := S) (J := J) (I := I) (X := X) (fc := fc) (fr := fr) (k' := k') (h := h) hs hP hk (by omega) (by omega)
      have hpre2 : zd S 135 0 [some (.ref 76), some (.int (nI s)), some (.int (nI pg)), some (.int (nI x)), some (.int (nI y)), some (.int (nI k')), none, none, none, none, none] [] I J (0, 0) = zd S 135 38 [some (.ref 76), some (.int (nI s)), some (.int (nI pg)), some (.int (nI x)), some (.int (nI y)), some (.int (nI k')), some (.int (nI h)), none, none, none, none] [.int (nI ((if okH (h - 1) fc fr k' 1 = true then spF (bdL X) X.length fc fr k' h else none).getD 0))] I1 J (0, 0) := by
        rw [hpre, B135_23, if_neg (fun z => h2 (e2.mp z)), B135_29 ⟨rfl, rfl⟩ q134]
      have hf1 : fo130 I I1 := ⟨fun z b0 b1 b2 b3 _ => a1 z b1 b2 b3, fun e _ => by rw [a1 76 (by decide) (by decide) (by decide)]⟩
      have hno : ∀ o : Option Nat, o = none → zd S 135 38 [some (.ref 76), some (.int (nI s)), some (.int (nI pg)), some (.int (nI x)), some (.int (nI y)), some (.int (nI k')), some (.int (nI h)), none, none, none, none] [.int (nI (o.getD 0))] I1 J (0, 0) = some (some (.int (bI false)), mk I1 J, (0, 0)) := by
        rintro o rfl
        rw [B135_38, if_pos (show nI ((none : Option Nat).getD 0) = 0 from nI_0), B135_70 rfl]
        rfl
      cases hok : okH (h - 1) fc fr k' 1 with
      | false =>
        rw [if_neg (fun z => by have := z.2.2.2; cases this)]
        refine ⟨I1, zq_of rfl (hpre2.trans ?_), fun _ => hf1, fun w hw => by cases hw⟩
        rw [hok, if_neg (by decide)]
        exact hno none rfl
      | true =>
        rw [if_pos ⟨hxk, by omega, hfk, rfl⟩]
        cases hsp : spF (bdL X) X.length fc fr k' h with
        | none =>
          refine ⟨I1, zq_of rfl (hpre2.trans ?_), fun _ => hf1, fun w hw => by cases hw⟩
          rw [hok, if_pos rfl, hsp]
          exact hno none rfl
        | some m =>
          have hmb := gsF_b _ _ hsp
          have hmb2 := hmb.2.2
          rw [Bool.and_eq_true] at hmb2
          dsimp only
          have hP1 : mPl I1 s X fc fr := mPl_u hP (fun z hz => a1 z (by omega) (by omega) (by omega))
          have h76 : I1 76 = I 76 := a1 76 (by decide) (by decide) (by decide)
          have hS1 : mSh I1 C R := ⟨by rw [h76]; exact S1, by rw [h76]; exact S2, S3, S4⟩
          have hG1 : I1 105 = I 105 := a1 105 (by decide) (by decide) (by decide)
          obtain ⟨I2, q130, b1, b2, b3⟩ := s130 (S := S) (J := J) (I := I1) (X := X) (fc := fc) (fr := fr) (f := m) (fst := pg + 1) (fc' := 0) (fr' := 0) hs hP1 hS1 (by omega) hmb2.1 (by omega) (by omega) (by omega)
          rw [hG1] at q130 b3
          have hm0 : ¬ nI m = 0 := nI_ne0 (by omega) (by omega)
          have q130' : zq S 130 [.ref 76, .int (nI s), .int (nI m), .int (I1 94 (nI s).toNatClampNeg), .int 0, .int 0, .int (nI pg + 1)] I1 J (some (.int (bI (fwF (I 105) C R (htF (bdL X) X.length m 0 0 R) (pg + 1)).isSome))) I2 J := by
            rw [cs, hP1.2.2.2.1, nI_1]
            exact q130
          have hpre3 : zd S 135 0 [some (.ref 76), some (.int (nI s)), some (.int (nI pg)), some (.int (nI x)), some (.int (nI y)), some (.int (nI k')), none, none, none, none, none] [] I J (0, 0) = zd S 135 67 [some (.ref 76), some (.int (nI s)), some (.int (nI pg)), some (.int (nI x)), some (.int (nI y)), some (.int (nI k')), some (.int (nI h)), some (.int (nI m)), none, none, none] [.int (bI (fwF (I 105) C R (htF (bdL X) X.length m 0 0 R) (pg + 1)).isSome)] I2 J (0, 0) := by
            rw [hpre2, hok, if_pos rfl, hsp, show (some m).getD 0 = m from rfl, B135_38, if_neg hm0, B135_49 ⟨rfl, rfl⟩ zs q130']
          have hf2 : fo130 I I2 := ⟨fun z c0 c1 c2 c3 c4 => (b1.1 z c0 c1 c2 c3 c4).trans (a1 z c1 c2 c3), fun e he => by rw [b1.2 e he, h76]⟩
          cases hw : fwF (I 105) C R (htF (bdL X) X.length m 0 0 R) (pg + 1) with
          | none =>
            refine ⟨I2, zq_of rfl (hpre3.trans ?_), fun _ => hf2, fun w hw => by cases hw⟩
            rw [hw, B135_67, if_neg (not_not_intro (show bI (none : Option (Nat × Nat × Nat × Nat)).isSome = 0 from rfl)), B135_70 rfl]
            rfl
          | some w =>
            obtain ⟨pg2, k2, x2, y2⟩ := w
            obtain ⟨c1, c2, c3, c4⟩ := b3 _ hw
            dsimp only at c1 c2 c3 c4
            obtain ⟨d1, d2, d3, d4, h2', d5, d6, d7⟩ := fwF_s (by omega) hw
            dsimp only at d1 d2 d3 d4 d5 d6 d7
            have hhb := htF_b S4.1 d5
            have hft := hhb.2.2.2
            unfold ftB at hft
            rw [Bool.and_eq_true] at hft
            have h109 : I2 109 k2 = nI (h2' + 1) := by rw [b2 k2 d3 d4, d5]; rfl
            have z5 : zin (nI k2) 5 = true := zin_n (by omega) (by decide)
            have c5 : (nI k2).toNatClampNeg = k2 := nI_clamp (by omega)
            have hP2 : mPl I2 s X fc fr := mPl_u hP1 (fun z hz => b1.1 z (by omega) (by omega) (by omega) (by omega) (by omega))
            -- the rest's columns
            obtain ⟨I3, q126, g1, g2⟩ := s126 (S := S) (I := I2) (J := J) (k' := k2) (h := h2') (fc := 0) (fr := 0) (less := 0) (by omega) (by omega) (by omega) (by omega) (by omega)
            have hP3 : mPl I3 s X fc fr := mPl_u hP2 (fun z hz => g1 z (by omega))
            obtain ⟨I4, q127, k1, k2'⟩ := s127 (S := S) (J := J) (I := I3) (s := s) (f := m) (e := X.length) (k' := k2) (X := X) (fc := fc) (fr := fr) (rm := rmF h2' 0 0 k2 0) (gd := gdF (bdL X) X.length) ⟨hs, hP3, by omega, Nat.le_refl _, by omega, fun c hc => ⟨g2 hft.1 c hc, by have := rm_le (h := h2') (fc := 0) (fr := 0) (k := k2) (less := 0) (c := c); omega⟩, fiH_g hmb2.1 gd_n (Nat.le_refl _)⟩
            have k2'' := k2' hft.2
            have o4 : ∀ z, z ≠ 106 → z ≠ 107 → z ≠ 108 → I4 z = I2 z := fun z e1 e2 e3 => (k1 z e2 e3).trans (g1 z e1)
            have hP4 : mPl I4 s X fc fr := mPl_u hP2 (fun z hz => o4 z (by omega) (by omega) (by omega))
            have i476 : I4 76 = I2 76 := o4 76 (by decide) (by decide) (by decide)
            have i376 : I3 76 = I2 76 := g1 76 (by decide)
            have hF4 : fdV I4 pg2 x2 y2 k2 := ⟨by rw [i476]; exact c1, by rw [i476]; exact c2, by rw [i476]; exact c3, by rw [i476]; exact c4⟩
            have ht1 : inF (rmF h2' 0 0 k2 0) (gdF (bdL X) X.length) m X.length k2 = t1F (bdL X) X.length k2 (h2' + 1) m := rfl
            rw [ht1] at k2''
            have hfit1 : ∀ c, c < k2 → 1 + hiF 0 0 c + t1F (bdL X) X.length k2 (h2' + 1) m c ≤ h2' + 1 := by
              intro c hc
              have h3 := inF_le (rm := rmF h2' 0 0 k2 0) (gd := gdF (bdL X) X.length) (f := m) (e := X.length) (k := k2) (c := c)
              have h4 := rm_le (h := h2') (fc := 0) (fr := 0) (k := k2) (less := 0) (c := c)
              rw [ht1] at h3
              have : hiF 0 0 c = 0 := if_neg (Nat.not_lt_zero _)
              omega
            obtain ⟨I5, q132, l1, l2, l3, l4⟩ := s132 (S := S) (J := J) (I := I4) (s := s) (p := 1) (h := h2' + 1) (f := m) (e := X.length) (fc := 0) (fr := 0) (t := t1F (bdL X) X.length k2 (h2' + 1) m) hs (by decide) hF4 d2 (by omega) (by omega) (by omega) (by omega) (by omega) (by omega) (by omega) k2'' hfit1
            have i4109 : I4 109 k2 = nI (h2' + 1) := by rw [o4 109 (by decide) (by decide) (by decide)]; exact h109
            have q126' : zq S 126 [.ref 76, .int (I2 76 45), .int (I2 109 (I2 76 45).toNatClampNeg - 1), .int 0, .int 0, .int 0] I2 J (some (.int (bI (okH h2' 0 0 k2 0)))) I3 J := by
              rw [c4, c5, h109, show nI (h2' + 1) - 1 = nI (h2' + 1 - 1) from pk_sub (b := 1) (by omega)]
              exact q126
            have q127' : zq S 127 [.ref 76, .int (nI s), .int (nI m), .int (I3 94 (nI s).toNatClampNeg), .int (I3 76 45)] I3 J (some (.int (bI (pth (rmF h2' 0 0 k2 0) (gdF (bdL X) X.length) X.length 0 k2 m)))) I4 J := by
              rw [cs, hP3.2.2.2.1, i376, c4]
              exact q127
            have q132' : zq S 132 [.ref 76, .int (nI s), .int 1, .int (I4 109 (I4 76 45).toNatClampNeg), .int (nI m), .int (I4 94 (nI s).toNatClampNeg), .int 0, .int 0] I4 J none I5 J := by
              rw [i476, c4, c5, i4109, cs, hP4.2.2.2.1]
              exact q132
            have hpre4 : zd S 135 0 [some (.ref 76), some (.int (nI s)), some (.int (nI pg)), some (.int (nI x)), some (.int (nI y)), some (.int (nI k')), none, none, none, none, none] [] I J (0, 0) = zd S 135 155 [some (.ref 76), some (.int (nI s)), some (.int (nI pg)), some (.int (nI x)), some (.int (nI y)), some (.int (nI k')), some (.int (nI h)), some (.int (nI m)), none, some (.int 1), none] [] I5 J (0, 0) := by
              rw [hpre3, hw, B135_67, if_pos (show ¬ bI (some (pg2, k2, x2, y2)).isSome = 0 from (by decide : ¬ bI true = 0)), B135_72 ⟨rfl, rfl⟩ (by rw [c4]; exact z5) q126', hft.1, B135_100, if_neg (show ¬ bI true = 0 by decide), B135_103 ⟨rfl, rfl⟩ zs q127', hft.2, B135_120, if_neg (show ¬ bI true = 0 by decide), B135_123 ⟨rfl, rfl⟩ (by rw [i476, c4]; exact z5) zs q132']
            -- the first part
            generalize hI6 : u2 (u2 (u2 (u2 I5 76 42 (nI pg)) 76 43 (nI x)) 76 44 (nI y)) 76 45 (nI k') = I6
            have o6 : ∀ z, z ≠ 76 → I6 z = I5 z := fun z hz => by rw [← hI6, u2n (nbeq hz), u2n (nbeq hz), u2n (nbeq hz), u2n (nbeq hz)]
            have o6e : ∀ e, e < 42 ∨ 45 < e → I6 76 e = I5 76 e := fun e he => by rw [← hI6, u2ne (by omega), u2ne (by omega), u2ne (by omega), u2ne (by omega)]
            have hF6 : fdV I6 pg x y k' := by
              refine ⟨?_, ?_, ?_, ?_⟩
              · rw [← hI6, u2ne (by decide), u2ne (by decide), u2ne (by decide), u2s]
              · rw [← hI6, u2ne (by decide), u2ne (by decide), u2s]
              · rw [← hI6, u2ne (by decide), u2s]
              · rw [← hI6, u2s]
            have hP6 : mPl I6 s X fc fr := mPl_u hP4 (fun z hz => by rw [o6 z (by omega), l1 z (by omega) (by omega) (by omega)])
            obtain ⟨I7, r126, m1, m2⟩ := s126 (S := S) (I := I6) (J := J) (k' := k') (h := h - 1) (fc := fc) (fr := fr) (less := 1) hk (by omega) hP.2.1 hP.2.2.1 (Nat.le_refl _)
            have hP7 : mPl I7 s X fc fr := mPl_u hP6 (fun z hz => m1 z (by omega))
            obtain ⟨I8, r127, n1, n2⟩ := s127 (S := S) (J := J) (I := I7) (s := s) (f := 0) (e := m) (k' := k') (X := X) (fc := fc) (fr := fr) (rm := rmF (h - 1) fc fr k' 1) (gd := gdF (bdL X) X.length) ⟨hs, hP7, Nat.zero_le _, by omega, hk, fun c hc => ⟨m2 hok c hc, by have := rm_le (h := h - 1) (fc := fc) (fr := fr) (k := k') (less := 1) (c := c); omega⟩, fiH_g gd_0 hmb2.1 (by omega)⟩
            have n2' := n2 hmb2.2
            have ht0 : inF (rmF (h - 1) fc fr k' 1) (gdF (bdL X) X.length) 0 m k' = t0F (bdL X) X.length fc fr k' h 1 m := rfl
            rw [ht0] at n2'
            have o8 : ∀ z, z ≠ 106 → z ≠ 107 → z ≠ 108 → I8 z = I6 z := fun z e1 e2 e3 => (n1 z e2 e3).trans (m1 z e1)
            have hP8 : mPl I8 s X fc fr := mPl_u hP6 (fun z hz => o8 z (by omega) (by omega) (by omega))
            have i876 : I8 76 = I6 76 := o8 76 (by decide) (by decide) (by decide)
            have hF8 : fdV I8 pg x y k' := by
              unfold fdV at hF6 ⊢
              rw [i876]
              exact hF6
            have hfit0 : ∀ c, c < k' → t0F (bdL X) X.length fc fr k' h 1 m c + hiF fc fr c + (if c + 1 = k' then 1 else 0) ≤ h - 1 := by
              intro c hc
              have h3 := inF_le (rm := rmF (h - 1) fc fr k' 1) (gd := gdF (bdL X) X.length) (f := 0) (e := m) (k := k') (c := c)
              have h4 := rm_hi hok hc
              rw [ht0] at h3
              omega
            obtain ⟨I9, r132, p1, p2, p3, p4⟩ := s132 (S := S) (J := J) (I := I8) (s := s) (p := 0) (h := h) (f := 0) (e := m) (fc := fc) (fr := fr) (t := t0F (bdL X) X.length fc fr k' h 1 m) hs (by decide) hF8 (by omega) (by omega) (by omega) (by omega) (Nat.zero_le _) (by omega) hP.2.2.1 hP.2.1 n2' (fun c hc => by have := hfit0 c hc; omega)
            have r126' : zq S 126 [.ref 76, .int (nI k'), .int (nI h - 1), .int (I6 86 (nI s).toNatClampNeg), .int (I6 87 (nI s).toNatClampNeg), .int 1] I6 J (some (.int (bI (okH (h - 1) fc fr k' 1)))) I7 J := by
              rw [cs, hP6.2.2.2.2.1, hP6.2.2.2.2.2.1, show nI h - 1 = nI (h - 1) from pk_sub (b := 1) (by omega)]
              exact r126
            have r132' : zq S 132 [.ref 76, .int (nI s), .int 0, .int (nI h), .int 0, .int (nI m), .int (I8 86 (nI s).toNatClampNeg), .int (I8 87 (nI s).toNatClampNeg)] I8 J none I9 J := by
              rw [cs, hP8.2.2.2.2.1, hP8.2.2.2.2.2.1]
              exact r132
            have r127' : zq S 127 [.ref 76, .int (nI s), .int 0, .int (nI m), .int (nI k')] I7 J (some (.int (bI (pth (rmF (h - 1) fc fr k' 1) (gdF (bdL X) X.length) m 0 k' 0)))) I8 J := r127
            have eix : (64 * nI pg + 16 * (nI x + nI k' - 1) + nI y + nI h - 1 : Int32) = nI (64 * pg + 16 * (x + (k' - 1)) + (y + (h - 1))) := by
              rw [nI_add, show (1 : Int32) = nI 1 from rfl, pk_sub (by omega), show (64 : Int32) = nI 64 from rfl, show (16 : Int32) = nI 16 from rfl, pk_mul, pk_mul, nI_add, nI_add, nI_add, pk_sub (by omega)]
              congr 1
              omega
            have eb : (100 * (nI s + 1) + 82 : Int32) = nI (100 * (s + 1) + 82) := by rw [nI_1, show (100 : Int32) = nI 100 from rfl, pk_mul, show (82 : Int32) = nI 82 from rfl, nI_add]
            generalize hI10 : u2 I9 105 (64 * pg + 16 * (x + (k' - 1)) + (y + (h - 1))) (nI (100 * (s + 1) + 82)) = I10
            have o10 : ∀ z, z ≠ 105 → I10 z = I9 z := fun z hz => by rw [← hI10, u2n (nbeq hz)]
            refine ⟨I10, zq_of rfl (hpre4.trans ?_), (fun z => by cases z), fun w' hw' => ?_⟩
            · rw [B135_155, B135_160, B135_165, B135_171, hI6, B135_177 ⟨rfl, rfl⟩ zs zs r126', hok, B135_200, if_neg (show ¬ bI true = 0 by decide), B135_203 ⟨rfl, rfl⟩ r127', hmb2.2, B135_213, if_neg (show ¬ bI true = 0 by decide), B135_216 ⟨rfl, rfl⟩ zs zs r132', B135_246 (by rw [eix]; exact zin_n (by omega) (by decide)), eix, nI_clamp (by omega), eb, hI10, B135_282 rfl]
              rfl
            · cases hw'
              have hho : hOf (htF (bdL X) X.length m 0 0 R k2) = h2' + 1 := by rw [d5]; rfl
              have hu : uOf X R (pg, k', x, y, h, m, pg2, k2, x2, y2) = (pg, k', x, y, h, m, some (pg2, k2, x2, y2, h2' + 1)) := by
                unfold uOf
                dsimp only
                rw [hho]
              have huu : uOf X R ((fun w => (pg, k', x, y, h, m, w)) (pg2, k2, x2, y2)) = (pg, k', x, y, h, m, some (pg2, k2, x2, y2, h2' + 1)) := hu
              rw [huu]
              have hG8 : I8 105 = I5 105 := by rw [o8 105 (by decide) (by decide) (by decide), o6 105 (by decide)]
              have hG4 : I4 105 = I 105 := by rw [o4 105 (by decide) (by decide) (by decide), b1.1 105 (by decide) (by decide) (by decide) (by decide) (by decide), hG1]
              rw [hG8] at p4
              rw [hG4] at l4
              have hliT1 : ∀ c, liT m (t1F (bdL X) X.length k2 (h2' + 1) m) c = l1F (bdL X) X.length k2 (h2' + 1) m c := fun c => liT_F c
              have hliT0 : ∀ c, liT 0 (t0F (bdL X) X.length fc fr k' h 1 m) c = l0F (bdL X) X.length fc fr k' h 1 m c := fun c => liT_F c
              have hls : lsF (some (pg2, k2, x2, y2, h2' + 1)) = 1 := rfl
              refine ⟨⟨?_, ?_, ?_, ?_, ?_⟩, ?_, ⟨?_, ?_, ?_⟩, ?_, ?_⟩
              · intro z e0 e1 e2 e3 e4 e5 e6 e7 e8
                rw [o10 z e3, p1 z e1 e2 e3, o8 z e4 e5 e6, o6 z e0, l1 z e1 e2 e3, o4 z e4 e5 e6, b1.1 z e0 e4 e5 e6 e7, a1 z e4 e5 e6]
              · intro e he
                rw [o10 76 (by decide), p1 76 (by decide) (by decide) (by decide), i876, o6e e he, l1 76 (by decide) (by decide) (by decide), i476, b1.2 e he, h76]
              · intro z hz
                rw [o10 103 (by decide), p2.1 z (by omega), o8 103 (by decide) (by decide) (by decide), o6 103 (by decide), l2.1 z (by omega), o4 103 (by decide) (by decide) (by decide), b1.1 103 (by decide) (by decide) (by decide) (by decide) (by decide), a1 103 (by decide) (by decide) (by decide)]
              · intro z hz
                rw [o10 104 (by decide), p2.2 z (by omega), o8 104 (by decide) (by decide) (by decide), o6 104 (by decide), l2.2 z (by omega), o4 104 (by decide) (by decide) (by decide), b1.1 104 (by decide) (by decide) (by decide) (by decide) (by decide), a1 104 (by decide) (by decide) (by decide)]
              · intro z _
                rw [o10 93 (by decide), p1 93 (by decide) (by decide) (by decide), o8 93 (by decide) (by decide) (by decide), o6 93 (by decide), l1 93 (by decide) (by decide) (by decide), o4 93 (by decide) (by decide) (by decide), b1.1 93 (by decide) (by decide) (by decide) (by decide) (by decide), a1 93 (by decide) (by decide) (by decide)]
              · rw [o10 93 (by decide), p1 93 (by decide) (by decide) (by decide), o8 93 (by decide) (by decide) (by decide), o6 93 (by decide), l1 93 (by decide) (by decide) (by decide), o4 93 (by decide) (by decide) (by decide), b1.1 93 (by decide) (by decide) (by decide) (by decide) (by decide), a1 93 (by decide) (by decide) (by decide)]
              · intro c r hc hr
                dsimp only at hc hr ⊢
                rw [hls, v0F_1]
                by_cases hcr : c + 1 = k' ∧ r + 1 = h
                · rw [if_pos hcr, ← hI10, show c = k' - 1 by omega, show r = h - 1 by omega, u2s]
                · rw [if_neg hcr, ← hI10, u2ne (by omega), (p4.1 c r hc hr).1 trivial]
                  dsimp only
                  rw [vMF_0 (k' := k') (h := h)]
                  congr 1
                  unfold v0F
                  rw [hliT0]
              · intro v hv c r hc hr
                cases hv
                dsimp only at hc hr ⊢
                rw [← hI10, u2ne (by omega), p4.2 _ (fun c' r' hc' hr' => by omega), (l4.1 c r hc hr).1 trivial]
                dsimp only
                rw [vMF_1]
                congr 1
                unfold v1F
                rw [hliT1]
              · intro i hi hi2
                dsimp only at hi
                have hi3 := hi2 _ rfl
                dsimp only at hi3
                rw [← hI10, u2ne (hi (k' - 1) (h - 1) (by omega) (by omega)), p4.2 i hi, l4.2 i hi3]
              · have hmp : mPt I9 (2 * s + 0) pg x y k' h 0 (m - 0) (t0F (bdL X) X.length fc fr k' h 1 m) := p3
                rw [Nat.add_zero, Nat.sub_zero] at hmp
                unfold mPt at hmp ⊢
                rw [o10 104 (by decide), o10 103 (by decide)]
                exact hmp
              · intro v hv
                cases hv
                have hmp : mPt I5 (2 * s + 1) pg2 x2 y2 k2 (h2' + 1) m (X.length - m) (t1F (bdL X) X.length k2 (h2' + 1) m) := l3
                have e104 : ∀ j, j < 11 → I10 104 (11 * (2 * s + 1) + j) = I5 104 (11 * (2 * s + 1) + j) := fun j hj => by rw [o10 104 (by decide), p2.2 _ (by omega), o8 104 (by decide) (by decide) (by decide), o6 104 (by decide)]
                have e103 : I10 103 (2 * s + 1) = I5 103 (2 * s + 1) := by rw [o10 103 (by decide), p2.1 _ (by omega), o8 103 (by decide) (by decide) (by decide), o6 103 (by decide)]
                obtain ⟨t1, t2, t3, t4, t5, t6, t7, t8, t9⟩ := hmp
                refine ⟨?_, ?_, ?_, ?_, ?_, ?_, ?_, ?_, by rw [e103]; exact t9⟩
                · have := e104 0 (by omega)
                  rw [Nat.add_zero] at this
                  rw [this]
                  exact t1
                · rw [e104 1 (by omega)]
                  exact t2
                · rw [e104 2 (by omega)]
                  exact t3
                · rw [e104 3 (by omega)]
                  exact t4
                · rw [e104 4 (by omega)]
                  exact t5
                · rw [e104 5 (by omega)]
                  exact t6
                · rw [e104 6 (by omega)]
                  exact t7
                · intro c hc
                  have := e104 (7 + c) (by omega)
                  rw [show 11 * (2 * s + 1) + (7 + c) = 11 * (2 * s + 1) + 7 + c by omega] at this
                  rw [this]
                  exact t8 c hc
  · rw [if_neg hxk] at q133
    rw [jmF_0 hxk]
    refine ⟨I, zq_of rfl ?_, fun _ => ⟨fun _ _ _ _ _ _ => rfl, fun _ _ => rfl⟩, fun w hw => by cases hw⟩
    show zd S 135 0 [some (.ref 76), some (.int (nI s)), some (.int (nI pg)), some (.int (nI x)), some (.int (nI y)), some (.int (nI k')), none, none, none, none, none] [] I J (0, 0) = _
    rw [B135_0 ⟨rfl, rfl⟩ q133, B135_10, S1, nI_add, if_pos (e1.mpr (by omega)), B135_41, if_pos (by decide), B135_70 rfl]
    rfl
end MJUMP
