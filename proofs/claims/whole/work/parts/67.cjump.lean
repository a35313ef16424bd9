/-! plan: jumps, the one side -/
/-- the two parts of a story that jumps stand as w says -/
def jV (I : zI) (s : Nat) (bd : Nat → Bool) (n R : Nat) (w : Nat × Nat × Nat × Nat × Nat × Nat × Nat × Nat × Nat × Nat) : Prop :=
  ptV I (15 + 12 * s) w.1 w.2.2.1 w.2.2.2.1 w.2.1 w.2.2.2.2.1 0 w.2.2.2.2.2.1 ∧ ∃ h, htF bd n w.2.2.2.2.2.1 0 0 R w.2.2.2.2.2.2.2.1 = some h ∧ ptV I (17 + 12 * s) w.2.2.2.2.2.2.1 w.2.2.2.2.2.2.2.2.1 w.2.2.2.2.2.2.2.2.2 w.2.2.2.2.2.2.2.1 (h + 1) w.2.2.2.2.2.1 (n - w.2.2.2.2.2.1)
def jH (G : Nat → Int32) (C R : Nat) (bd : Nat → Bool) (n pg : Nat) (J : zJ) : Prop := ∃ H, H < 2 ^ 41 ∧ J 65 3 = lN H ∧ ∀ m, H.testBit m = true → fwF G C R (htF bd n m 0 0 R) (pg + 1) = none
section CJUMP
variable {S : Nat × (Nat → Int32)} {k : zK} {s n fc fr C R : Nat} {bd : Nat → Bool}
theorem cnF_le {p : Nat → Bool} : ∀ (m y : Nat), cnF p y m ≤ m
  | 0, _ => Nat.le_refl _
  | m + 1, y => by
    unfold cnF
    split
    · have := cnF_le (p := p) m (y + 1)
      omega
    · omega
theorem s64 {I : zI} {J : zJ} {pg x y k' : Nat} (hs : s < 4) (hP : cPl I J s n fc fr bd) (hS : cSh I C R) (hpg : pg < 2) (hx : x + k' ≤ C) (hk0 : 0 < k') (hy : y < R) (hH : jH (I 71) C R bd n pg J) :
    ∃ I' J', zq S 64 [.ref 65, .ref (7 + 12 * s), .int (nI pg), .int (nI x), .int (nI y), .int (nI k')] I J (some (.int (bI (jmF (I 71) C R bd n fc fr pg k' y x).isSome))) I' J' ∧ (∀ c, c ≠ 66 → c ≠ 67 → c ≠ 69 → c ≠ 15 + 12 * s → c ≠ 17 + 12 * s → I' c = I c) ∧ (∀ c, c ≠ 65 → J' c = J c) ∧ (jmF (I 71) C R bd n fc fr pg k' y x = none → I' (15 + 12 * s) = I (15 + 12 * s) ∧ I' (17 + 12 * s) = I (17 + 12 * s) ∧ jH (I 71) C R bd n pg J') ∧ (∀ w, jmF (I 71) C R bd n fc fr pg k' y x = some w → jV I' s bd n R w) := by
  obtain ⟨S1, S2, S3, S4, S5⟩ := hS
  have hn := hP.1
  have q86 := s86 (S := S) (I := I) (J := J) (pg := pg) (x := x) (y := y) (k' := k') (R := R) (by omega) (by omega) S4.2 hy S2 S5
  have hcl := cnF_le (p := rwF (I 71) pg x k') (R - y) y
  unfold jmF
  generalize hh : cnF (rwF (I 71) pg x k') y (R - y) = h at q86 hcl
  have e2 : nI h < 2 ↔ h < 2 := nI_ltI (b := 2) (by omega) (by decide)
  have hst : zd S 64 0 [some (.ref 65), some (.ref (7 + 12 * s)), some (.int (nI pg)), some (.int (nI x)), some (.int (nI y)), some (.int (nI k')), none, none] [] I J (0, 0) = zd S 64 13 [some (.ref 65), some (.ref (7 + 12 * s)), some (.int (nI pg)), some (.int (nI x)), some (.int (nI y)), some (.int (nI k')), none, none] [.int (nI h)] I J (0, 0) := by
    rw [B64_0 ⟨rfl, rfl⟩ hs q86]
  by_cases h2 : h < 2
  · rw [if_neg (fun z => by have := z.2.1; omega)]
    refine ⟨I, J, zq_of rfl (hst.trans ?_), fun _ _ _ _ _ _ => rfl, fun _ _ => rfl, fun _ => ⟨rfl, rfl, hH⟩, fun w hw => by cases hw⟩
    rw [B64_13 hs, if_pos (e2.mpr h2), B64_40 hs rfl]
    rfl
  · have e1 : nI h - 1 = nI (h - 1) := pk_sub (b := 1) (by omega)
    obtain ⟨I1, q34, f1, f2, f3⟩ := s34 (S := S) (I := I) (J := J) (f := 0) (k' := k') (h := h - 1) (less := 1) hs hP (by omega) (by omega) (by omega) (Nat.le_refl _) (fc' := fc) rfl
    have q34' : zq S 34 [.ref 66, .ref (7 + 12 * s), .int 0, .int (nI k'), .int (nI h - 1), .int 1] I J (some (.int (bI (decide (fc ≤ k') && okH (h - 1) fc fr k' 1)))) I1 J := by
      rw [e1]
      exact q34
    have hgo : zd S 64 0 [some (.ref 65), some (.ref (7 + 12 * s)), some (.int (nI pg)), some (.int (nI x)), some (.int (nI y)), some (.int (nI k')), none, none] [] I J (0, 0) = zd S 64 37 [some (.ref 65), some (.ref (7 + 12 * s)), some (.int (nI pg)), some (.int (nI x)), some (.int (nI y)), some (.int (nI k')), some (.int (nI h)), none] [.int (bI (decide (fc ≤ k') && okH (h - 1) fc fr k' 1))] I1 J (0, 0) := by
      rw [hst, B64_13 hs, if_neg (fun z => h2 (e2.mp z)), B64_21 ⟨rfl, rfl⟩ hs q34']
    cases hb : (decide (fc ≤ k') && okH (h - 1) fc fr k' 1) with
    | false =>
      have hcond : ¬ (x + k' ≤ C ∧ 2 ≤ h ∧ fc ≤ k' ∧ okH (h - 1) fc fr k' 1 = true) := fun z => by
        rw [decide_eq_true z.2.2.1, z.2.2.2] at hb
        cases hb
      rw [if_neg hcond]
      refine ⟨I1, J, zq_of rfl (hgo.trans ?_), fun c a b _ _ _ => f1 c a b, fun _ _ => rfl, fun _ => ⟨f1 _ (by omega) (by omega), f1 _ (by omega) (by omega), hH⟩, fun w hw => by cases hw⟩
      rw [hb, B64_37 hs, if_neg (not_not_intro (show bI false = 0 from rfl)), B64_40 hs rfl]
      rfl
    | true =>
      have hb' := hb
      rw [Bool.and_eq_true, decide_eq_true_eq] at hb'
      have hcond : x + k' ≤ C ∧ 2 ≤ h ∧ fc ≤ k' ∧ okH (h - 1) fc fr k' 1 = true := ⟨hx, by omega, hb'.1, hb'.2⟩
      rw [if_pos hcond]
      obtain ⟨g1, g2⟩ := f3 hb
      have hP1 : cPl I1 J s n fc fr bd := cPl_u hP (by rw [f1 _ (by omega) (by omega)]) (by rw [f1 _ (by omega) (by omega)]) (by rw [f1 _ (by omega) (by omega)]) rfl
      have hG1 : I1 71 = I 71 := f1 71 (by decide) (by decide)
      have hS1 : cSh I1 C R := cSh_u ⟨S1, S2, S3, S4, S5⟩ (f1 70 (by decide) (by decide)) hG1 (f1 72 (by decide) (by decide))
      have q65 := s65 (S := S) (I := I1) (J := J) (k' := k') (rm := rmF (h - 1) fc fr k' 1) hs hP1 (by omega) hk0 (fun c _ => by have := rm_le (h := h - 1) (fc := fc) (fr := fr) (k := k') (less := 1) (c := c); omega) g1 g2
      have hsp : gsF (fun m => gdF bd n m && pth (rmF (h - 1) fc fr k' 1) (gdF bd n) m 0 k' 0) (n - 2) = spF bd n fc fr k' h := rfl
      rw [hsp] at q65
      have hgo2 : zd S 64 0 [some (.ref 65), some (.ref (7 + 12 * s)), some (.int (nI pg)), some (.int (nI x)), some (.int (nI y)), some (.int (nI k')), none, none] [] I J (0, 0) = zd S 64 47 [some (.ref 65), some (.ref (7 + 12 * s)), some (.int (nI pg)), some (.int (nI x)), some (.int (nI y)), some (.int (nI k')), some (.int (nI h)), none] [.int (oI (spF bd n fc fr k' h))] I1 J (0, 0) := by
        rw [hgo, hb, B64_37 hs, if_pos (show ¬ bI true = 0 by decide), B64_42 ⟨rfl, rfl⟩ hs q65]
      cases hsm : spF bd n fc fr k' h with
      | none =>
        refine ⟨I1, J, zq_of rfl (hgo2.trans ?_), fun c a b _ _ _ => f1 c a b, fun _ _ => rfl, fun _ => ⟨f1 _ (by omega) (by omega), f1 _ (by omega) (by omega), hH⟩, fun w hw => by cases hw⟩
        rw [hsm, B64_47 hs, if_pos (show oI none = -1 from rfl), B64_67 hs rfl]
        rfl
      | some m =>
        have hmb := gsF_b _ _ hsm
        have hne : ¬ oI (some m) = -1 := fun z => by
          have := (oI_m (o := some m) (fun v' hh => by cases hh; omega)).mp z
          cases this
        obtain ⟨H, H1, H2, H3⟩ := hH
        have p41 : (2 : Nat) ^ 41 < 2 ^ 64 := by decide
        have q22 : zq S 22 [.long (J 65 3), .int (nI m)] I1 J (some (.int (bI (hbt H m)))) I1 J := by
          rw [H2]
          exact s22 (by omega) (by omega)
        have hgo3 : zd S 64 0 [some (.ref 65), some (.ref (7 + 12 * s)), some (.int (nI pg)), some (.int (nI x)), some (.int (nI y)), some (.int (nI k')), none, none] [] I J (0, 0) = zd S 64 64 [some (.ref 65), some (.ref (7 + 12 * s)), some (.int (nI pg)), some (.int (nI x)), some (.int (nI y)), some (.int (nI k')), some (.int (nI h)), some (.int (nI m))] [.int (bI (hbt H m))] I1 J (0, 0) := by
          rw [hgo2, hsm, B64_47 hs, if_neg hne, show oI (some m) = nI m from rfl, B64_55 ⟨rfl, rfl⟩ hs q22]
        dsimp only
        cases hHm : hbt H m with
        | true =>
          have hnone := H3 m (by rw [← hbt_t]; exact hHm)
          rw [hnone]
          refine ⟨I1, J, zq_of rfl (hgo3.trans ?_), fun c a b _ _ _ => f1 c a b, fun _ _ => rfl, fun _ => ⟨f1 _ (by omega) (by omega), f1 _ (by omega) (by omega), H, H1, H2, H3⟩, fun w hw => by cases hw⟩
          rw [hHm, B64_64 hs, if_neg (show ¬ bI true = 0 by decide), B64_67 hs rfl]
          rfl
        | false =>
          have hm0 : ¬ m = 0 := by omega
          obtain ⟨I2, q61, r1, r2, r3⟩ := s61 (S := S) (I := I1) (J := J) (f := m) (fst := pg + 1) (q := 1) hs hP1 hS1 (by omega) (by omega) (by rw [if_neg hm0]) (fc' := 0) (fr' := 0) (by rw [if_neg hm0]) (by rw [if_neg hm0])
          rw [hG1] at q61 r2 r3
          have q61' : zq S 61 [.ref 65, .ref (7 + 12 * s), .int (nI m), .int (nI pg + 1)] I1 J (some (.int (bI (fwF (I 71) C R (htF bd n m 0 0 R) (pg + 1)).isSome))) I2 J := by
            rw [nI_1]
            exact q61
          have ec : 15 + 12 * s + 2 * 1 = 17 + 12 * s := by omega
          rw [ec] at r1 r2 r3
          have hgo4 : zd S 64 0 [some (.ref 65), some (.ref (7 + 12 * s)), some (.int (nI pg)), some (.int (nI x)), some (.int (nI y)), some (.int (nI k')), none, none] [] I J (0, 0) = zd S 64 79 [some (.ref 65), some (.ref (7 + 12 * s)), some (.int (nI pg)), some (.int (nI x)), some (.int (nI y)), some (.int (nI k')), some (.int (nI h)), some (.int (nI m))] [.int (bI (fwF (I 71) C R (htF bd n m 0 0 R) (pg + 1)).isSome)] I2 J (0, 0) := by
            rw [hgo3, hHm, B64_64 hs, if_pos (show bI false = 0 from rfl), B64_69 ⟨rfl, rfl⟩ hs q61']
          cases hw : fwF (I 71) C R (htF bd n m 0 0 R) (pg + 1) with
          | none =>
            have e1' : (1 : Int64) <<< ((nI m).toInt64 &&& 63) = lN (2 ^ m) := by
              have := wb_shl 1 (k := m) (by omega)
              rw [Nat.one_mul] at this
              exact this
            have hpm : 2 ^ m < 2 ^ 41 := wb_lt2 (by omega)
            refine ⟨I2, v2 J 65 3 (lN (H ||| 2 ^ m)), zq_of rfl (hgo4.trans ?_), fun c a b d _ e => (r1 c a b d e).trans (f1 c a b), fun c hc => v2n (nbeq hc), fun _ => ⟨?_, ?_, H ||| 2 ^ m, Nat.or_lt_two_pow H1 hpm, v2s, ?_⟩, fun w hw => by cases hw⟩
            · rw [hw, B64_79 hs, if_neg (not_not_intro (show bI (none : Option (Nat × Nat × Nat × Nat)).isSome = 0 from rfl)), B64_82 hs, H2, e1', wb_or (by omega) (by omega), B64_95 hs rfl]
              rfl
            · rw [r1 _ (by omega) (by omega) (by omega) (by omega), f1 _ (by omega) (by omega)]
            · rw [r2 hw, f1 _ (by omega) (by omega)]
            · intro m' hm'
              rw [Nat.testBit_or, Bool.or_eq_true, Nat.testBit_two_pow, decide_eq_true_eq] at hm'
              rcases hm' with h' | h'
              · exact H3 m' h'
              · rw [← h']
                exact hw
          | some w =>
            obtain ⟨h3, a1, a2⟩ := r3 w hw
            obtain ⟨I3, q48, u0, u1, u2', u3, u4, u5, u6⟩ := s48 (S := S) (I := I2) (J := J) (nI pg) (nI x) (nI y) (nI k') (nI h) hs (q := 0) (by decide)
            obtain ⟨I4, q49, t0, t1, t2, t3⟩ := s49 (S := S) (I := I3) (J := J) (nI 0) (nI m) hs (q := 0) (by decide)
            have ec0 : 15 + 12 * s + 2 * 0 = 15 + 12 * s := by omega
            rw [ec0] at u0 u1 u2' u3 u4 u5 u6 t0 t1 t2 t3
            refine ⟨I4, J, zq_of rfl (hgo4.trans ?_), fun c b1 b2 b3 b4 b5 => ?_, fun _ _ => rfl, (fun z => by cases z), fun w' hw' => ?_⟩
            · rw [hw, B64_79 hs, if_pos (show ¬ bI (some w).isSome = 0 from (by decide : ¬ bI true = 0)), B64_97 (p102x := 0) ⟨rfl, rfl⟩ hs (by decide) rfl rfl q48, B64_114 (p119x := 0) ⟨rfl, rfl⟩ hs (by decide) rfl rfl q49, B64_126 hs rfl]
              rfl
            · rw [t0 c b4, u0 c b4, r1 c b1 b2 b3 b5, f1 c b1 b2]
            · cases hw'
              refine ⟨⟨?_, ?_, ?_, ?_, ?_, t1, ?_⟩, h3, a1, ?_⟩
              · rw [t3 1 (by decide) (by decide)]
                exact u1
              · rw [t3 2 (by decide) (by decide)]
                exact u2'
              · rw [t3 3 (by decide) (by decide)]
                exact u3
              · rw [t3 4 (by decide) (by decide)]
                exact u4
              · rw [t3 5 (by decide) (by decide)]
                exact u5
              · rw [t2, pk_sub (Nat.zero_le _)]
                rfl
              · have e17 : I4 (17 + 12 * s) = I2 (17 + 12 * s) := by rw [t0 _ (by omega), u0 _ (by omega)]
                unfold ptV at a2 ⊢
                rw [e17]
                exact a2
/-- while no jump is found -/
def jS (s C R : Nat) (bd : Nat → Bool) (n pg : Nat) (I0 : zI) (J0 : zJ) (I : zI) (J : zJ) : Prop := (∀ c, c ≠ 66 → c ≠ 67 → c ≠ 69 → I c = I0 c) ∧ (∀ c, c ≠ 65 → J c = J0 c) ∧ jH (I0 71) C R bd n pg J
def jE (s C R : Nat) (bd : Nat → Bool) (n : Nat) (I0 : zI) (J0 : zJ) (w : Nat × Nat × Nat × Nat × Nat × Nat × Nat × Nat × Nat × Nat) (I : zI) (J : zJ) : Prop := (∀ c, c ≠ 66 → c ≠ 67 → c ≠ 69 → c ≠ 15 + 12 * s → c ≠ 17 + 12 * s → I c = I0 c) ∧ (∀ c, c ≠ 65 → J c = J0 c) ∧ jV I s bd n R w
theorem jmF_0 {G : Nat → Int32} {pg k' y x : Nat} (h : ¬ x + k' ≤ C) : jmF G C R bd n fc fr pg k' y x = none := by
  unfold jmF
  rw [if_neg (fun z => h z.1)]
theorem g63_x {I0 : zI} {J0 : zJ} {pg y k' : Nat} (hs : s < 4) (hP : cPl I0 J0 s n fc fr bd) (hS : cSh I0 C R) (hpg : pg < 2) (hk0 : 0 < k') (hk : k' ≤ C) (hy : y < R) (hb : Nat.ble k.1 (mBu 63).1 = true ∧ Nat.ble k.2 (mBu 63).2 = true) : ∀ (m x : Nat) (I : zI) (J : zJ), C = x + m → jS s C R bd n pg I0 J0 I J →
    (∃ w I' J', fsT (jmF (I0 71) C R bd n fc fr pg k' y) x m = some w ∧ zd S 63 43 [some (.ref 65), some (.ref (7 + 12 * s)), some (.int (nI pg)), some (.int (nI k')), some (.int (nI y)), some (.int (nI x))] [] I J k = some (some (.int 1), mk I' J', k) ∧ jE s C R bd n I0 J0 w I' J') ∨ (∃ I' J' l5, fsT (jmF (I0 71) C R bd n fc fr pg k' y) x m = none ∧ zd S 63 43 [some (.ref 65), some (.ref (7 + 12 * s)), some (.int (nI pg)), some (.int (nI k')), some (.int (nI y)), some (.int (nI x))] [] I J k = zd S 63 79 [some (.ref 65), some (.ref (7 + 12 * s)), some (.int (nI pg)), some (.int (nI k')), some (.int (nI y)), some (.int l5)] [] I' J' k ∧ jS s C R bd n pg I0 J0 I' J') := by
  have hC := hS.2.2.1
  intro m
  have hout : ∀ (m x : Nat) (I : zI) (J : zJ), x ≤ C → ¬ x + k' ≤ C → jS s C R bd n pg I0 J0 I J → ∃ I' J' l5, fsT (jmF (I0 71) C R bd n fc fr pg k' y) x m = none ∧ zd S 63 43 [some (.ref 65), some (.ref (7 + 12 * s)), some (.int (nI pg)), some (.int (nI k')), some (.int (nI y)), some (.int (nI x))] [] I J k = zd S 63 79 [some (.ref 65), some (.ref (7 + 12 * s)), some (.int (nI pg)), some (.int (nI k')), some (.int (nI y)), some (.int l5)] [] I' J' k ∧ jS s C R bd n pg I0 J0 I' J' := by
    intro m x I J hxc hx hj
    refine ⟨I, J, nI x, fsT_0 _ _ (fun z h1 h2 => jmF_0 (by omega)), ?_, hj⟩
    rw [B63_43 hs, hj.1 70 (by decide) (by decide) (by decide), hS.1, nI_add, if_pos (nI_lt (by omega) (by omega))]
  induction m with
  | zero => intro x I J hm hj; exact Or.inr (hout 0 x I J (by omega) (by omega) hj)
  | succ m ih =>
    intro x I J hm hj
    by_cases hx : x + k' ≤ C
    · have hPM : cPl I J s n fc fr bd := cPl_u hP (by rw [hj.1 _ (by omega) (by omega) (by omega)]) (by rw [hj.1 _ (by omega) (by omega) (by omega)]) (by rw [hj.1 _ (by omega) (by omega) (by omega)]) (by rw [hj.2.1 _ (by omega)])
      have hG : I 71 = I0 71 := hj.1 71 (by decide) (by decide) (by decide)
      have hSM : cSh I C R := cSh_u hS (hj.1 70 (by decide) (by decide) (by decide)) hG (hj.1 72 (by decide) (by decide) (by decide))
      obtain ⟨I1, J1, q64, r1, r2, r3, r4⟩ := s64 (S := S) (I := I) (J := J) (pg := pg) (x := x) (y := y) (k' := k') hs hPM hSM hpg hx hk0 hy (by rw [hG]; exact hj.2.2)
      rw [hG] at q64 r3 r4
      rw [fsT_e, B63_43 hs, hSM.1, nI_add, if_neg (nI_nlt (by omega) (by omega)), B63_57 hb hs q64, B63_68 hs]
      cases hw : jmF (I0 71) C R bd n fc fr pg k' y x with
      | none =>
        obtain ⟨a1, a2, a3⟩ := r3 hw
        rw [if_pos (show bI (none : Option (Nat × Nat × Nat × Nat × Nat × Nat × Nat × Nat × Nat × Nat)).isSome = 0 from rfl), B63_73 hs, nI_1]
        refine ih (x + 1) I1 J1 (by omega) ⟨fun c b1 b2 b3 => ?_, fun c hc => (r2 c hc).trans (hj.2.1 c hc), a3⟩
        by_cases h15 : c = 15 + 12 * s
        · rw [h15, a1]
          exact hj.1 _ (by omega) (by omega) (by omega)
        · by_cases h17 : c = 17 + 12 * s
          · rw [h17, a2]
            exact hj.1 _ (by omega) (by omega) (by omega)
          · rw [r1 c b1 b2 b3 h15 h17]
            exact hj.1 c b1 b2 b3
      | some w =>
        left
        refine ⟨w, I1, J1, rfl, ?_, fun c b1 b2 b3 b4 b5 => (r1 c b1 b2 b3 b4 b5).trans (hj.1 c b1 b2 b3), fun c hc => (r2 c hc).trans (hj.2.1 c hc), r4 w hw⟩
        rw [if_neg (show ¬ bI (some w).isSome = 0 from (by decide : ¬ bI true = 0)), B63_71 hs rfl]
    · exact Or.inr (hout (m + 1) x I J (by omega) hx hj)
theorem g63_y {I0 : zI} {J0 : zJ} {pg k' : Nat} (hs : s < 4) (hP : cPl I0 J0 s n fc fr bd) (hS : cSh I0 C R) (hpg : pg < 2) (hk0 : 0 < k') (hk : k' ≤ C) (hb : Nat.ble k.1 (mBu 63).1 = true ∧ Nat.ble k.2 (mBu 63).2 = true) : ∀ (m y : Nat) (I : zI) (J : zJ) (o5 : Option Value), R = y + m → jS s C R bd n pg I0 J0 I J →
    (∃ w I' J', fsT (jmY (I0 71) C R bd n fc fr pg k') y m = some w ∧ zd S 63 28 [some (.ref 65), some (.ref (7 + 12 * s)), some (.int (nI pg)), some (.int (nI k')), some (.int (nI y)), o5] [] I J k = some (some (.int 1), mk I' J', k) ∧ jE s C R bd n I0 J0 w I' J') ∨ (∃ I' J' l4, fsT (jmY (I0 71) C R bd n fc fr pg k') y m = none ∧ zd S 63 28 [some (.ref 65), some (.ref (7 + 12 * s)), some (.int (nI pg)), some (.int (nI k')), some (.int (nI y)), o5] [] I J k = zd S 63 85 [some (.ref 65), some (.ref (7 + 12 * s)), some (.int (nI pg)), some (.int (nI k')), some (.int l4), none] [] I' J' k ∧ jS s C R bd n pg I0 J0 I' J') := by
  have hR := hS.2.2.2.1
  intro m
  induction m with
  | zero =>
    intro y I J o5 hm hj
    right
    refine ⟨I, J, nI y, rfl, ?_, hj⟩
    rw [B63_28 hs, hj.1 70 (by decide) (by decide) (by decide), hS.2.1, if_pos (nI_le (by omega) (by omega))]
  | succ m ih =>
    intro y I J o5 hm hj
    rw [fsT_e, B63_28 hs, hj.1 70 (by decide) (by decide) (by decide), hS.2.1, if_neg (nI_ge (by omega) (by omega)), B63_40 hs, ← nI_0]
    rcases g63_x (S := S) (k := k) (pg := pg) (y := y) (k' := k') hs hP hS hpg hk0 hk (by omega) hb C 0 I J (by omega) hj with ⟨w, I', J', a1, a2, a3⟩ | ⟨I', J', l5, a1, a2, a3⟩
    · left
      have : jmY (I0 71) C R bd n fc fr pg k' y = some w := a1
      rw [this]
      exact ⟨w, I', J', rfl, a2, a3⟩
    · have : jmY (I0 71) C R bd n fc fr pg k' y = none := a1
      rw [this, a2, B63_79 hs, nI_1]
      exact ih (y + 1) I' J' (some (.int l5)) (by omega) a3
theorem g63_k {I0 : zI} {J0 : zJ} {pg : Nat} (hs : s < 4) (hP : cPl I0 J0 s n fc fr bd) (hS : cSh I0 C R) (hpg : pg < 2) (hb : Nat.ble k.1 (mBu 63).1 = true ∧ Nat.ble k.2 (mBu 63).2 = true) : ∀ (k' : Nat) (I : zI) (J : zJ) (o4 : Option Value), k' ≤ C → jS s C R bd n pg I0 J0 I J →
    (∃ w I' J', fdT (jmK (I0 71) C R bd n fc fr pg) k' = some w ∧ zd S 63 20 [some (.ref 65), some (.ref (7 + 12 * s)), some (.int (nI pg)), some (.int (nI k')), o4, none] [] I J k = some (some (.int 1), mk I' J', k) ∧ jE s C R bd n I0 J0 w I' J') ∨ (∃ I' J' l3, fdT (jmK (I0 71) C R bd n fc fr pg) k' = none ∧ zd S 63 20 [some (.ref 65), some (.ref (7 + 12 * s)), some (.int (nI pg)), some (.int (nI k')), o4, none] [] I J k = zd S 63 91 [some (.ref 65), some (.ref (7 + 12 * s)), some (.int (nI pg)), some (.int l3), none, none] [] I' J' k ∧ jS s C R bd n pg I0 J0 I' J') := by
  have hC := hS.2.2.1
  intro k'
  induction k' with
  | zero =>
    intro I J o4 _ hj
    right
    refine ⟨I, J, nI 0, rfl, ?_, hj⟩
    rw [B63_20 hs, if_pos (show nI 0 < 1 by decide)]
  | succ k' ih =>
    intro I J o4 hk hj
    have hn1 : ¬ nI (k' + 1) < 1 := nI_nlt (b := 1) (by omega) (by omega)
    rw [fdT_e, B63_20 hs, if_neg hn1, B63_25 hs, ← nI_0]
    rcases g63_y (S := S) (k := k) (pg := pg) (k' := k' + 1) hs hP hS hpg (by omega) hk hb R 0 I J none (by omega) hj with ⟨w, I', J', a1, a2, a3⟩ | ⟨I', J', l5, a1, a2, a3⟩
    · left
      have : jmK (I0 71) C R bd n fc fr pg (k' + 1) = some w := a1
      rw [this]
      exact ⟨w, I', J', rfl, a2, a3⟩
    · have : jmK (I0 71) C R bd n fc fr pg (k' + 1) = none := a1
      rw [this, a2, B63_85 hs, pk_m1]
      exact ih I' J' (some (.int l5)) (by omega) a3
theorem s63 {I : zI} {J : zJ} (hs : s < 4) (hP : cPl I J s n fc fr bd) (hS : cSh I C R) :
    ∃ I' J', zq S 63 [.ref 65, .ref (7 + 12 * s)] I J (some (.int (bI (jmW (I 71) C R bd n fc fr).isSome))) I' J' ∧ (∀ c, c ≠ 66 → c ≠ 67 → c ≠ 69 → c ≠ 15 + 12 * s → c ≠ 17 + 12 * s → I' c = I c) ∧ (∀ c, c ≠ 65 → J' c = J c) ∧ (∀ w, jmW (I 71) C R bd n fc fr = some w → jV I' s bd n R w) := by
  have hl : ∀ (m pg : Nat) (M : zI) (K : zJ) (o3 : Option Value), 2 = pg + m → (∀ c, c ≠ 66 → c ≠ 67 → c ≠ 69 → M c = I c) → (∀ c, c ≠ 65 → K c = J c) → (∃ w I' J', fsT (jmP (I 71) C R bd n fc fr) pg m = some w ∧ zd S 63 2 [some (.ref 65), some (.ref (7 + 12 * s)), some (.int (nI pg)), o3, none, none] [] M K (0, 0) = some (some (.int 1), mk I' J', (0, 0)) ∧ jE s C R bd n I J w I' J') ∨ (∃ I' J', fsT (jmP (I 71) C R bd n fc fr) pg m = none ∧ zd S 63 2 [some (.ref 65), some (.ref (7 + 12 * s)), some (.int (nI pg)), o3, none, none] [] M K (0, 0) = some (some (.int 0), mk I' J', (0, 0)) ∧ (∀ c, c ≠ 66 → c ≠ 67 → c ≠ 69 → I' c = I c) ∧ (∀ c, c ≠ 65 → J' c = J c)) := by
    intro m
    induction m with
    | zero =>
      intro pg M K o3 hm h1 h2
      right
      refine ⟨M, K, rfl, ?_, h1, h2⟩
      have h3 : (2 : Int32) ≤ nI pg := nI_le (a := 2) (by omega) (by omega)
      rw [B63_2 hs, if_pos h3, B63_97 hs rfl]
    | succ m ih =>
      intro pg M K o3 hm h1 h2
      have h3 : ¬ (2 : Int32) ≤ nI pg := nI_ge (b := 2) (by omega) (by decide)
      rw [fsT_e, B63_2 hs, if_neg h3, B63_7 hs, B63_12 hs, h1 70 (by decide) (by decide) (by decide), hS.1]
      have hj : jS s C R bd n pg I J M (v2 K 65 3 0) := ⟨h1, fun c hc => by rw [v2n (nbeq hc)]; exact h2 c hc, 0, by decide, v2s, fun m hm => by rw [Nat.zero_testBit] at hm; cases hm⟩
      rcases g63_k (S := S) (k := (0, 0)) (pg := pg) hs hP hS (by omega) ⟨rfl, rfl⟩ C M (v2 K 65 3 0) none (Nat.le_refl _) hj with ⟨w, I', J', a1, a2, a3⟩ | ⟨I', J', l5, a1, a2, a3⟩
      · left
        have : jmP (I 71) C R bd n fc fr pg = some w := a1
        rw [this]
        exact ⟨w, I', J', rfl, a2, a3⟩
      · have : jmP (I 71) C R bd n fc fr pg = none := a1
        rw [this, a2, B63_91 hs, nI_1]
        exact ih (pg + 1) I' J' (some (.int l5)) (by omega) a3.1 a3.2.1
  have hst : zd S 63 0 [some (.ref 65), some (.ref (7 + 12 * s)), none, none, none, none] [] I J (0, 0) = zd S 63 2 [some (.ref 65), some (.ref (7 + 12 * s)), some (.int (nI 0)), none, none, none] [] I J (0, 0) := by
    rw [B63_0 hs, ← nI_0]
  rcases hl 2 0 I J none (by omega) (fun _ _ _ _ => rfl) (fun _ _ => rfl) with ⟨w, I', J', a1, a2, a3⟩ | ⟨I', J', a1, a2, a3, a4⟩
  · have hw : jmW (I 71) C R bd n fc fr = some w := a1
    rw [hw]
    refine ⟨I', J', zq_of rfl (hst.trans a2), a3.1, a3.2.1, fun w' hw' => ?_⟩
    cases hw'
    exact a3.2.2
  · have hw : jmW (I 71) C R bd n fc fr = none := a1
    rw [hw]
    exact ⟨I', J', zq_of rfl (hst.trans a2), fun c b1 b2 b3 _ _ => a3 c b1 b2 b3, a4, fun w' hw' => by cases hw'⟩
end CJUMP
