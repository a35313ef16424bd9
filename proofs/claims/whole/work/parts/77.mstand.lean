/-! plan: a story is placed, the call, the other side -/
section MSTAND
variable {S : Nat × (Nat → Int32)} {k : zK} {s fc fr C R : Nat} {X : List (Nat × Nat × Nat × Nat)} {J : zJ}
theorem fo130_r (I : zI) : fo130 I I := ⟨fun _ _ _ _ _ _ => rfl, fun _ _ => rfl⟩
theorem fo130_t {I I' I2 : zI} (h1 : fo130 I I') (h2 : fo130 I' I2) : fo130 I I2 := ⟨fun z a b c d e => (h2.1 z a b c d e).trans (h1.1 z a b c d e), fun e he => (h2.2 e he).trans (h1.2 e he)⟩
theorem frPU_t {I I' I2 : zI} (h1 : fo130 I I') (h2 : frPU I' I2 s) : frPU I I2 s :=
  ⟨fun z a b c d e f g h i => (h2.1 z a b c d e f g h i).trans (h1.1 z a e f g h), fun e he => (h2.2.1 e he).trans (h1.2 e he), fun z hz => by rw [h2.2.2.1 z hz, h1.1 103 (by decide) (by decide) (by decide) (by decide) (by decide)], fun z hz => by rw [h2.2.2.2.1 z hz, h1.1 104 (by decide) (by decide) (by decide) (by decide) (by decide)], fun z hz => by rw [h2.2.2.2.2 z hz, h1.1 93 (by decide) (by decide) (by decide) (by decide) (by decide)]⟩
theorem frPU_o {I I' : zI} (h1 : fo130 I I') : frPU I I' s :=
  ⟨fun z a b c d e f g h i => h1.1 z a e f g h, fun e he => h1.2 e he, fun z _ => by rw [h1.1 103 (by decide) (by decide) (by decide) (by decide) (by decide)], fun z _ => by rw [h1.1 104 (by decide) (by decide) (by decide) (by decide) (by decide)], fun z _ => by rw [h1.1 93 (by decide) (by decide) (by decide) (by decide) (by decide)]⟩
/-- after a jump was found -/
def jR (s fc fr R : Nat) (X : List (Nat × Nat × Nat × Nat)) (I I' : zI) (w : Nat × Nat × Nat × Nat × Nat × Nat × Nat × Nat × Nat × Nat) : Prop := frPU I I' s ∧ I' 93 = I 93 ∧ plG s (bdL X) X.length fc fr (I 105) (I' 105) (uOf X R w) ∧ mPtU I' s (bdL X) X.length fc fr (uOf X R w)
theorem jR_t {I I' I2 : zI} {w : Nat × Nat × Nat × Nat × Nat × Nat × Nat × Nat × Nat × Nat} (h1 : fo130 I I') (h2 : jR s fc fr R X I' I2 w) : jR s fc fr R X I I2 w := by
  obtain ⟨a, b, c, d⟩ := h2
  refine ⟨frPU_t h1 a, by rw [b, h1.1 93 (by decide) (by decide) (by decide) (by decide) (by decide)], ?_, d⟩
  rw [h1.1 105 (by decide) (by decide) (by decide) (by decide) (by decide)] at c
  exact c
theorem mSh_o {I I' : zI} (h : fo130 I I') (hS : mSh I C R) : mSh I' C R := ⟨by rw [h.2 0 (by omega)]; exact hS.1, by rw [h.2 1 (by omega)]; exact hS.2.1, hS.2.2.1, hS.2.2.2⟩
theorem mPl_o {I I' : zI} (h : fo130 I I') (hP : mPl I s X fc fr) : mPl I' s X fc fr := mPl_u hP (fun z hz => h.1 z (by omega) (by omega) (by omega) (by omega) (by omega))
theorem g136_x {I0 : zI} {pg y k' : Nat} (hs : s < 4) (hP : mPl I0 s X fc fr) (hS : mSh I0 C R) (hpg : pg < 2) (hk0 : 0 < k') (hk : k' ≤ C) (hfk : fc ≤ k') (hy : y < R) (hb : Nat.ble k.1 (mBu 136).1 = true ∧ Nat.ble k.2 (mBu 136).2 = true) : ∀ (m x : Nat) (I : zI), C = x + m → fo130 I0 I →
    (∃ w I', fsT (jmF (I0 105) C R (bdL X) X.length fc fr pg k' y) x m = some w ∧ zd S 136 42 [some (.ref 76), some (.int (nI s)), some (.int (nI pg)), some (.int (nI k')), some (.int (nI y)), some (.int (nI x))] [] I J k = some (some (.int 1), mk I' J, k) ∧ jR s fc fr R X I0 I' w) ∨ (∃ I' l5, fsT (jmF (I0 105) C R (bdL X) X.length fc fr pg k' y) x m = none ∧ zd S 136 42 [some (.ref 76), some (.int (nI s)), some (.int (nI pg)), some (.int (nI k')), some (.int (nI y)), some (.int (nI x))] [] I J k = zd S 136 73 [some (.ref 76), some (.int (nI s)), some (.int (nI pg)), some (.int (nI k')), some (.int (nI y)), some (.int l5)] [] I' J k ∧ fo130 I0 I') := by
  have hC := hS.2.2.1
  intro m
  induction m with
  | zero =>
    intro x I hm hj
    right
    refine ⟨I, nI x, rfl, ?_, hj⟩
    rw [B136_42, (mSh_o hj hS).1, if_pos (nI_le (by omega) (by omega))]
  | succ m ih =>
    intro x I hm hj
    have hSM := mSh_o hj hS
    have hG : I 105 = I0 105 := hj.1 105 (by decide) (by decide) (by decide) (by decide) (by decide)
    obtain ⟨I1, q135, r1, r2⟩ := s135 (S := S) (J := J) (I := I) (pg := pg) (x := x) (y := y) (k' := k') hs (mPl_o hj hP) hSM hpg (by omega) hy hk0 (by omega) hfk
    rw [hG] at q135 r1 r2
    rw [fsT_e, B136_42, hSM.1, if_neg (nI_ge (by omega) (by omega)), B136_51 hb q135, B136_62]
    cases hw : jmF (I0 105) C R (bdL X) X.length fc fr pg k' y x with
    | none =>
      rw [if_pos (show bI (none : Option (Nat × Nat × Nat × Nat × Nat × Nat × Nat × Nat × Nat × Nat)).isSome = 0 from rfl), B136_67, nI_1]
      exact ih (x + 1) I1 (by omega) (fo130_t hj (r1 hw))
    | some w =>
      left
      have h3 := r2 w hw
      refine ⟨w, I1, rfl, ?_, jR_t hj ⟨h3.1, h3.2.1, by rw [hG]; exact h3.2.2.1, h3.2.2.2⟩⟩
      rw [if_neg (show ¬ bI (some w).isSome = 0 from (by decide : ¬ bI true = 0)), B136_65 rfl]
theorem g136_y {I0 : zI} {pg k' : Nat} (hs : s < 4) (hP : mPl I0 s X fc fr) (hS : mSh I0 C R) (hpg : pg < 2) (hk0 : 0 < k') (hk : k' ≤ C) (hfk : fc ≤ k') (hb : Nat.ble k.1 (mBu 136).1 = true ∧ Nat.ble k.2 (mBu 136).2 = true) : ∀ (m y : Nat) (I : zI) (o5 : Option Value), R = y + m → fo130 I0 I →
    (∃ w I', fsT (jmY (I0 105) C R (bdL X) X.length fc fr pg k') y m = some w ∧ zd S 136 30 [some (.ref 76), some (.int (nI s)), some (.int (nI pg)), some (.int (nI k')), some (.int (nI y)), o5] [] I J k = some (some (.int 1), mk I' J, k) ∧ jR s fc fr R X I0 I' w) ∨ (∃ I' l4, fsT (jmY (I0 105) C R (bdL X) X.length fc fr pg k') y m = none ∧ zd S 136 30 [some (.ref 76), some (.int (nI s)), some (.int (nI pg)), some (.int (nI k')), some (.int (nI y)), o5] [] I J k = zd S 136 79 [some (.ref 76), some (.int (nI s)), some (.int (nI pg)), some (.int (nI k')), some (.int l4), none] [] I' J k ∧ fo130 I0 I') := by
  have hR := hS.2.2.2
  intro m
  induction m with
  | zero =>
    intro y I o5 hm hj
    right
    refine ⟨I, nI y, rfl, ?_, hj⟩
    rw [B136_30, (mSh_o hj hS).2.1, if_pos (nI_le (by omega) (by omega))]
  | succ m ih =>
    intro y I o5 hm hj
    rw [fsT_e, B136_30, (mSh_o hj hS).2.1, if_neg (nI_ge (by omega) (by omega)), B136_39, ← nI_0]
    rcases g136_x (S := S) (J := J) (k := k) (pg := pg) (y := y) (k' := k') hs hP hS hpg hk0 hk hfk (by omega) hb C 0 I (by omega) hj with ⟨w, I', a1, a2, a3⟩ | ⟨I', l5, a1, a2, a3⟩
    · left
      have : jmY (I0 105) C R (bdL X) X.length fc fr pg k' y = some w := a1
      rw [this]
      exact ⟨w, I', rfl, a2, a3⟩
    · have : jmY (I0 105) C R (bdL X) X.length fc fr pg k' y = none := a1
      rw [this, a2, B136_73, nI_1]
      exact ih (y + 1) I' (some (.int l5)) (by omega) a3
theorem jmK_0 {G : Nat → Int32} {pg k' : Nat} {bd : Nat → Bool} {n : Nat} (h : ¬ fc ≤ k') : jmK G C R bd n fc fr pg k' = none := by
  unfold jmK
  refine fsT_0 _ _ (fun y _ _ => ?_)
  unfold jmY
  refine fsT_0 _ _ (fun x _ _ => ?_)
  unfold jmF
  rw [if_neg (fun z => h z.2.2.1)]
theorem fdT_0 {α : Type} {f : Nat → Option α} : ∀ n, (∀ x, 1 ≤ x → x ≤ n → f x = none) → fdT f n = none
  | 0, _ => rfl
  | n + 1, h => by
    rw [fdT_e, h (n + 1) (by omega) (Nat.le_refl _)]
    exact fdT_0 n (fun x a b => h x a (by omega))
theorem g136_k {I0 : zI} {pg : Nat} (hs : s < 4) (hP : mPl I0 s X fc fr) (hS : mSh I0 C R) (hpg : pg < 2) (hb : Nat.ble k.1 (mBu 136).1 = true ∧ Nat.ble k.2 (mBu 136).2 = true) : ∀ (k' : Nat) (I : zI) (o4 : Option Value), k' ≤ C → fo130 I0 I →
    (∃ w I', fdT (jmK (I0 105) C R (bdL X) X.length fc fr pg) k' = some w ∧ zd S 136 12 [some (.ref 76), some (.int (nI s)), some (.int (nI pg)), some (.int (nI k')), o4, none] [] I J k = some (some (.int 1), mk I' J, k) ∧ jR s fc fr R X I0 I' w) ∨ (∃ I' l3, fdT (jmK (I0 105) C R (bdL X) X.length fc fr pg) k' = none ∧ zd S 136 12 [some (.ref 76), some (.int (nI s)), some (.int (nI pg)), some (.int (nI k')), o4, none] [] I J k = zd S 136 85 [some (.ref 76), some (.int (nI s)), some (.int (nI pg)), some (.int l3), none, none] [] I' J k ∧ fo130 I0 I') := by
  have hC := hS.2.2.1
  have zs : zin (nI s) 4 = true := zin_n hs (by decide)
  have cs : (nI s).toNatClampNeg = s := nI_clamp (by omega)
  intro k'
  induction k' with
  | zero =>
    intro I o4 _ hj
    right
    refine ⟨I, nI 0, rfl, ?_, hj⟩
    rw [B136_12, if_pos (show nI 0 < 1 by decide)]
  | succ k' ih =>
    intro I o4 hk hj
    have hn1 : ¬ nI (k' + 1) < 1 := nI_nlt (b := 1) (by omega) (by omega)
    have hfc9 := hP.2.1
    have ec : nI (k' + 1) < nI fc ↔ k' + 1 < fc := nI_ltI (by omega) (by omega)
    have hPM := mPl_o hj hP
    by_cases hfk : fc ≤ k' + 1
    · rw [fdT_e, B136_12, if_neg hn1, B136_17 zs, cs, hPM.2.2.2.2.1, if_neg (fun z => by have := ec.mp z; omega), B136_27, ← nI_0]
      rcases g136_y (S := S) (J := J) (k := k) (pg := pg) (k' := k' + 1) hs hP hS hpg (by omega) hk hfk hb R 0 I none (by omega) hj with ⟨w, I', a1, a2, a3⟩ | ⟨I', l5, a1, a2, a3⟩
      · left
        have : jmK (I0 105) C R (bdL X) X.length fc fr pg (k' + 1) = some w := a1
        rw [this]
        exact ⟨w, I', rfl, a2, a3⟩
      · have : jmK (I0 105) C R (bdL X) X.length fc fr pg (k' + 1) = none := a1
        rw [this, a2, B136_79, pk_m1]
        exact ih I' (some (.int l5)) (by omega) a3
    · right
      refine ⟨I, nI (k' + 1), fdT_0 _ (fun x _ h2 => jmK_0 (by omega)), ?_, hj⟩
      rw [B136_12, if_neg hn1, B136_17 zs, cs, hPM.2.2.2.2.1, if_pos (ec.mpr (by omega))]
theorem s136 {I : zI} (hs : s < 4) (hP : mPl I s X fc fr) (hS : mSh I C R) :
    ∃ I', zq S 136 [.ref 76, .int (nI s)] I J (some (.int (bI (jmW (I 105) C R (bdL X) X.length fc fr).isSome))) I' J ∧ (jmW (I 105) C R (bdL X) X.length fc fr = none → fo130 I I') ∧ (∀ w, jmW (I 105) C R (bdL X) X.length fc fr = some w → jR s fc fr R X I I' w) := by
  have hl : ∀ (m pg : Nat) (M : zI), 2 = pg + m → fo130 I M → (∃ w I', fsT (jmP (I 105) C R (bdL X) X.length fc fr) pg m = some w ∧ zd S 136 2 [some (.ref 76), some (.int (nI s)), some (.int (nI pg)), none, none, none] [] M J (0, 0) = some (some (.int 1), mk I' J, (0, 0)) ∧ jR s fc fr R X I I' w) ∨ (∃ I', fsT (jmP (I 105) C R (bdL X) X.length fc fr) pg m = none ∧ zd S 136 2 [some (.ref 76), some (.int (nI s)), some (.int (nI pg)), none, none, none] [] M J (0, 0) = some (some (.int 0), mk I' J, (0, 0)) ∧ fo130 I I') := by
    intro m
    induction m with
    | zero =>
      intro pg M hm h1
      right
      refine ⟨M, rfl, ?_, h1⟩
      have h3 : (2 : Int32) ≤ nI pg := nI_le (a := 2) (by omega) (by omega)
      rw [B136_2, if_pos h3, B136_91 rfl]
    | succ m ih =>
      intro pg M hm h1
      have h3 : ¬ (2 : Int32) ≤ nI pg := nI_ge (b := 2) (by omega) (by decide)
      rw [fsT_e, B136_2, if_neg h3, B136_7, (mSh_o h1 hS).1]
      rcases g136_k (S := S) (J := J) (k := (0, 0)) (pg := pg) hs hP hS (by omega) ⟨rfl, rfl⟩ C M none (Nat.le_refl _) h1 with ⟨w, I', a1, a2, a3⟩ | ⟨I', l5, a1, a2, a3⟩
      · left
        have : jmP (I 105) C R (bdL X) X.length fc fr pg = some w := a1
        rw [this]
        exact ⟨w, I', rfl, a2, a3⟩
      · have : jmP (I 105) C R (bdL X) X.length fc fr pg = none := a1
        rw [this, a2, B136_85, nI_1]
        exact ih (pg + 1) I' (by omega) a3
  have hst : zd S 136 0 [some (.ref 76), some (.int (nI s)), none, none, none, none] [] I J (0, 0) = zd S 136 2 [some (.ref 76), some (.int (nI s)), some (.int (nI 0)), none, none, none] [] I J (0, 0) := by
    rw [B136_0, ← nI_0]
  rcases hl 2 0 I (by omega) (fo130_r I) with ⟨w, I', a1, a2, a3⟩ | ⟨I', a1, a2, a3⟩
  · have hw : jmW (I 105) C R (bdL X) X.length fc fr = some w := a1
    rw [hw]
    refine ⟨I', zq_of rfl (hst.trans a2), (fun z => by cases z), fun w' hw' => ?_⟩
    cases hw'
    exact a3
  · have hw : jmW (I 105) C R (bdL X) X.length fc fr = none := a1
    rw [hw]
    exact ⟨I', zq_of rfl (hst.trans a2), fun _ => a3, fun w' hw' => by cases hw'⟩
theorem s137 {I : zI} (hs : s < 4) (hP : mPl I s X fc fr) (hS : mSh I C R) (h93 : I 93 s = 0) (hf0 : ∀ q, q < 2 → I 103 (2 * s + q) = 0) :
    ∃ I', zq S 137 [.ref 76, .int (nI s)] I J none I' J ∧ frPU I I' s ∧ (plW (I 105) C R (bdL X) X.length fc fr = none → I' 105 = I 105 ∧ I' 93 s = 3 ∧ I' 103 = I 103) ∧ (∀ u, plW (I 105) C R (bdL X) X.length fc fr = some u → plG s (bdL X) X.length fc fr (I 105) (I' 105) u ∧ I' 93 s = 0 ∧ mPtU I' s (bdL X) X.length fc fr u ∧ (u.2.2.2.2.2.2 = none → I' 103 (2 * s + 1) = 0)) := by
  have hn := hP.1
  have hS' := hS
  obtain ⟨S1, S2, S3, S4⟩ := hS
  have zs : zin (nI s) 4 = true := zin_n hs (by decide)
  have cs : (nI s).toNatClampNeg = s := nI_clamp (by omega)
  obtain ⟨I1, q130, b1, b2, b3⟩ := s130 (S := S) (J := J) (I := I) (X := X) (fc := fc) (fr := fr) (f := 0) (fst := 0) (fc' := fc) (fr' := fr) hs hP hS' (Nat.zero_le _) gd_0 (Nat.zero_le _) hP.2.1 hP.2.2.1
  have q130' : zq S 130 [.ref 76, .int (nI s), .int 0, .int (I 94 (nI s).toNatClampNeg), .int (I 86 (nI s).toNatClampNeg), .int (I 87 (nI s).toNatClampNeg), .int 0] I J (some (.int (bI (fwF (I 105) C R (htF (bdL X) X.length 0 fc fr R) 0).isSome))) I1 J := by
    rw [cs, hP.2.2.2.1, hP.2.2.2.2.1, hP.2.2.2.2.2.1]
    exact q130
  have hst : zd S 137 0 [some (.ref 76), some (.int (nI s)), none] [] I J (0, 0) = zd S 137 25 [some (.ref 76), some (.int (nI s)), none] [.int (bI (fwF (I 105) C R (htF (bdL X) X.length 0 fc fr R) 0).isSome)] I1 J (0, 0) := by
    rw [B137_0 ⟨rfl, rfl⟩ zs zs zs q130']
  have hP1 := mPl_o b1 hP
  have hS1 := mSh_o b1 hS'
  have hG1 : I1 105 = I 105 := b1.1 105 (by decide) (by decide) (by decide) (by decide) (by decide)
  have h931 : I1 93 = I 93 := b1.1 93 (by decide) (by decide) (by decide) (by decide) (by decide)
  have h1031 : I1 103 = I 103 := b1.1 103 (by decide) (by decide) (by decide) (by decide) (by decide)
  cases hw : fwF (I 105) C R (htF (bdL X) X.length 0 fc fr R) 0 with
  | some w =>
    obtain ⟨pg2, k2, x2, y2⟩ := w
    obtain ⟨c1, c2, c3, c4⟩ := b3 _ hw
    dsimp only at c1 c2 c3 c4
    obtain ⟨d1, d2, d3, d4, h2', d5, d6, d7⟩ := fwF_s (by omega) hw
    dsimp only at d1 d2 d3 d4 d5 d6 d7
    have hhb := htF_b S4.1 d5
    have hft := hhb.2.2.2
    unfold ftB at hft
    rw [Bool.and_eq_true] at hft
    have h109 : I1 109 k2 = nI (h2' + 1) := by rw [b2 k2 d3 d4, d5]; rfl
    have z5 : zin (nI k2) 5 = true := zin_n (by omega) (by decide)
    have c5 : (nI k2).toNatClampNeg = k2 := nI_clamp (by omega)
    obtain ⟨I3, q126, g1, g2⟩ := s126 (S := S) (I := I1) (J := J) (k' := k2) (h := h2') (fc := fc) (fr := fr) (less := 0) (by omega) (by omega) hP.2.1 hP.2.2.1 (by omega)
    have hP3 : mPl I3 s X fc fr := mPl_u hP1 (fun z hz => g1 z (by omega))
    obtain ⟨I4, q127, k1, k2'⟩ := s127 (S := S) (J := J) (I := I3) (s := s) (f := 0) (e := X.length) (k' := k2) (X := X) (fc := fc) (fr := fr) (rm := rmF h2' fc fr k2 0) (gd := gdF (bdL X) X.length) ⟨hs, hP3, Nat.zero_le _, Nat.le_refl _, by omega, fun c hc => ⟨g2 hft.1 c hc, by have := rm_le (h := h2') (fc := fc) (fr := fr) (k := k2) (less := 0) (c := c); omega⟩, fiH_g gd_0 gd_n (Nat.le_refl _)⟩
    have k2'' := k2' hft.2
    have ht0 : inF (rmF h2' fc fr k2 0) (gdF (bdL X) X.length) 0 X.length k2 = t0F (bdL X) X.length fc fr k2 (h2' + 1) 0 X.length := rfl
    rw [ht0] at k2''
    have o4 : ∀ z, z ≠ 106 → z ≠ 107 → z ≠ 108 → I4 z = I1 z := fun z e1 e2 e3 => (k1 z e2 e3).trans (g1 z e1)
    have hP4 : mPl I4 s X fc fr := mPl_u hP1 (fun z hz => o4 z (by omega) (by omega) (by omega))
    have i476 : I4 76 = I1 76 := o4 76 (by decide) (by decide) (by decide)
    have i376 : I3 76 = I1 76 := g1 76 (by decide)
    have hF4 : fdV I4 pg2 x2 y2 k2 := ⟨by rw [i476]; exact c1, by rw [i476]; exact c2, by rw [i476]; exact c3, by rw [i476]; exact c4⟩
    have hfit0 : ∀ c, c < k2 → 1 + hiF fc fr c + t0F (bdL X) X.length fc fr k2 (h2' + 1) 0 X.length c ≤ h2' + 1 := by
      intro c hc
      have h3 := inF_le (rm := rmF h2' fc fr k2 0) (gd := gdF (bdL X) X.length) (f := 0) (e := X.length) (k := k2) (c := c)
      have h4 := rm_hi hft.1 hc
      rw [ht0] at h3
      omega
    obtain ⟨I5, q132, l1, l2, l3, l4⟩ := s132 (S := S) (J := J) (I := I4) (s := s) (p := 0) (h := h2' + 1) (f := 0) (e := X.length) (fc := fc) (fr := fr) (t := t0F (bdL X) X.length fc fr k2 (h2' + 1) 0 X.length) hs (by decide) hF4 d2 (by omega) (by omega) (by omega) (Nat.zero_le _) (by omega) hP.2.2.1 hP.2.1 k2'' hfit0
    have i4109 : I4 109 k2 = nI (h2' + 1) := by rw [o4 109 (by decide) (by decide) (by decide)]; exact h109
    have q126' : zq S 126 [.ref 76, .int (I1 76 45), .int (I1 109 (I1 76 45).toNatClampNeg - 1), .int (I1 86 (nI s).toNatClampNeg), .int (I1 87 (nI s).toNatClampNeg), .int 0] I1 J (some (.int (bI (okH h2' fc fr k2 0)))) I3 J := by
      rw [c4, c5, h109, show nI (h2' + 1) - 1 = nI (h2' + 1 - 1) from pk_sub (b := 1) (by omega), cs, hP1.2.2.2.2.1, hP1.2.2.2.2.2.1]
      exact q126
    have q127' : zq S 127 [.ref 76, .int (nI s), .int 0, .int (I3 94 (nI s).toNatClampNeg), .int (I3 76 45)] I3 J (some (.int (bI (pth (rmF h2' fc fr k2 0) (gdF (bdL X) X.length) X.length 0 k2 0)))) I4 J := by
      rw [cs, hP3.2.2.2.1, i376, c4]
      exact q127
    have q132' : zq S 132 [.ref 76, .int (nI s), .int 0, .int (I4 109 (I4 76 45).toNatClampNeg), .int 0, .int (I4 94 (nI s).toNatClampNeg), .int (I4 86 (nI s).toNatClampNeg), .int (I4 87 (nI s).toNatClampNeg)] I4 J none I5 J := by
      rw [i476, c4, c5, i4109, cs, hP4.2.2.2.1, hP4.2.2.2.2.1, hP4.2.2.2.2.2.1]
      exact q132
    have hho : hOf (htF (bdL X) X.length 0 fc fr R k2) = h2' + 1 := by rw [d5]; rfl
    have hpl : plW (I 105) C R (bdL X) X.length fc fr = some (pg2, k2, x2, y2, h2' + 1, X.length, none) := by
      unfold plW
      rw [hw]
      dsimp only
      rw [hho]
    have hG4 : I4 105 = I 105 := (o4 105 (by decide) (by decide) (by decide)).trans hG1
    rw [hG4] at l4
    have hliT0 : ∀ c, liT 0 (t0F (bdL X) X.length fc fr k2 (h2' + 1) 0 X.length) c = l0F (bdL X) X.length fc fr k2 (h2' + 1) 0 X.length c := fun c => liT_F c
    refine ⟨I5, zq_of rfl (hst.trans ?_), ⟨?_, ?_, ?_, ?_, ?_⟩, (fun z => by rw [hpl] at z; cases z), fun u hu => ?_⟩
    · rw [hw, B137_25, if_neg (show ¬ bI (some (pg2, k2, x2, y2)).isSome = 0 from (by decide : ¬ bI true = 0)), B137_28 ⟨rfl, rfl⟩ (by rw [c4]; exact z5) zs zs q126', hft.1, B137_60, if_neg (show ¬ bI true = 0 by decide), B137_63 ⟨rfl, rfl⟩ zs q127', hft.2, B137_79, if_neg (show ¬ bI true = 0 by decide), B137_82 ⟨rfl, rfl⟩ (by rw [i476, c4]; exact z5) zs zs zs q132', B137_122]
    · intro z e0 e1 e2 e3 e4 e5 e6 e7 e8
      rw [l1 z e1 e2 e3, o4 z e4 e5 e6, b1.1 z e0 e4 e5 e6 e7]
    · intro e he
      rw [l1 76 (by decide) (by decide) (by decide), i476, b1.2 e he]
    · intro z hz
      rw [l2.1 z (by omega), o4 103 (by decide) (by decide) (by decide), h1031]
    · intro z hz
      rw [l2.2 z (by omega), o4 104 (by decide) (by decide) (by decide), b1.1 104 (by decide) (by decide) (by decide) (by decide) (by decide)]
    · intro z _
      rw [l1 93 (by decide) (by decide) (by decide), o4 93 (by decide) (by decide) (by decide), h931]
    · rw [hpl] at hu
      cases hu
      refine ⟨⟨?_, (fun v hv => by cases hv), fun i hi _ => l4.2 i hi⟩, ?_, ⟨?_, fun v hv => by cases hv⟩, fun _ => ?_⟩
      · intro c r hc hr
        rw [(l4.1 c r hc hr).1 trivial]
        dsimp only
        rw [vMF_0 (k' := k2) (h := h2' + 1)]
        congr 1
        unfold v0F
        rw [hliT0]
        rfl
      · rw [l1 93 (by decide) (by decide) (by decide), o4 93 (by decide) (by decide) (by decide), h931]
        exact h93
      · have hmp : mPt I5 (2 * s + 0) pg2 x2 y2 k2 (h2' + 1) 0 (X.length - 0) (t0F (bdL X) X.length fc fr k2 (h2' + 1) 0 X.length) := l3
        rw [Nat.add_zero, Nat.sub_zero] at hmp
        exact hmp
      · rw [l2.1 _ (by omega), o4 103 (by decide) (by decide) (by decide), h1031]
        exact hf0 1 (by decide)
  | none =>
    obtain ⟨I2, q136, r1, r2⟩ := s136 (S := S) (J := J) (I := I1) hs hP1 hS1
    rw [hG1] at q136 r1 r2
    have hgo : zd S 137 0 [some (.ref 76), some (.int (nI s)), none] [] I J (0, 0) = zd S 137 130 [some (.ref 76), some (.int (nI s)), none] [.int (bI (jmW (I 105) C R (bdL X) X.length fc fr).isSome)] I2 J (0, 0) := by
      rw [hst, hw, B137_25, if_pos (show bI (none : Option (Nat × Nat × Nat × Nat)).isSome = 0 from rfl), B137_125 ⟨rfl, rfl⟩ q136]
    cases hj : jmW (I 105) C R (bdL X) X.length fc fr with
    | none =>
      have hpl : plW (I 105) C R (bdL X) X.length fc fr = none := by unfold plW; rw [hw, hj]
      have hf := fo130_t b1 (r1 hj)
      have hfu := frPU_o (s := s) hf
      refine ⟨u2 I2 93 s 3, zq_of rfl (hgo.trans ?_), ⟨?_, ?_, ?_, ?_, ?_⟩, fun _ => ⟨?_, u2s, ?_⟩, fun u hu => by rw [hpl] at hu; cases hu⟩
      · rw [hj, B137_130, if_neg (not_not_intro (show bI (none : Option (Nat × Nat × Nat × Nat × Nat × Nat × Nat × Nat × Nat × Nat)).isSome = 0 from rfl)), B137_133 zs, cs, B137_140]
      · intro z e0 e1 e2 e3 e4 e5 e6 e7 e8
        rw [u2n (nbeq e8)]
        exact hfu.1 z e0 e1 e2 e3 e4 e5 e6 e7 e8
      · intro e he
        rw [u2n rfl]
        exact hfu.2.1 e he
      · intro z hz
        rw [u2n rfl]
        exact hfu.2.2.1 z hz
      · intro z hz
        rw [u2n rfl]
        exact hfu.2.2.2.1 z hz
      · intro z hz
        rw [u2ne hz]
        exact hfu.2.2.2.2 z hz
      · rw [u2n rfl]
        exact hf.1 105 (by decide) (by decide) (by decide) (by decide) (by decide)
      · rw [u2n rfl]
        exact hf.1 103 (by decide) (by decide) (by decide) (by decide) (by decide)
    | some w =>
      have hpl : plW (I 105) C R (bdL X) X.length fc fr = some (uOf X R w) := by unfold plW; rw [hw, hj]; rfl
      obtain ⟨t1, t2, t3, t4⟩ := jR_t b1 (by have := r2 w hj; unfold jR at this ⊢; exact this)
      refine ⟨I2, zq_of rfl (hgo.trans ?_), t1, (fun z => by rw [hpl] at z; cases z), fun u hu => ?_⟩
      · rw [hj, B137_130, if_pos (show ¬ bI (some w).isSome = 0 from (by decide : ¬ bI true = 0)), B137_140]
      · rw [hpl] at hu
        cases hu
        exact ⟨t3, by rw [t2]; exact h93, t4, fun z => by cases z⟩
end MSTAND
