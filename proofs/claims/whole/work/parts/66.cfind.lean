/-! plan: places are found, the one side -/
def cSh (I : zI) (C R : Nat) : Prop := I 70 0 = nI C ∧ I 70 1 = nI R ∧ (1 ≤ C ∧ C ≤ 4) ∧ (4 ≤ R ∧ R ≤ 16) ∧ tkI I
theorem cSh_u {I I' : zI} {C R : Nat} (h : cSh I C R) (h0 : I' 70 = I 70) (h1 : I' 71 = I 71) (h2 : I' 72 = I 72) : cSh I' C R := ⟨by rw [h0]; exact h.1, by rw [h0]; exact h.2.1, h.2.2.1, h.2.2.2.1, tkI_u h.2.2.2.2 h1 h2⟩
def hI1 (o : Option Nat) : Int32 := match o with
  | none => -1
  | some h => nI (h + 1)
def ptV (I : zI) (c pg x y k h f m : Nat) : Prop := I c 1 = nI pg ∧ I c 2 = nI x ∧ I c 3 = nI y ∧ I c 4 = nI k ∧ I c 5 = nI h ∧ I c 6 = nI f ∧ I c 7 = nI m
theorem lo_0 (fr k less c : Nat) : lo 0 fr k less c = lo 0 0 k less c := by
  unfold lo
  rw [if_neg (Nat.not_lt_zero _), if_neg (Nat.not_lt_zero _)]
theorem rm_0 (h fr k less : Nat) : rmF h 0 fr k less = rmF h 0 0 k less := by
  funext c
  unfold rmF
  rw [lo_0]
theorem okH_0 (h fr k less : Nat) : okH h 0 fr k less = okH h 0 0 k less := by
  unfold okH
  exact allT_c (fun t _ => by rw [lo_0])
theorem ft_0 (bd : Nat → Bool) (n f e fr k less : Nat) : ftB bd n f e 0 fr k less = ftB bd n f e 0 0 k less := by
  funext h
  unfold ftB
  rw [rm_0, okH_0]
theorem rm_le {h fc fr k less c : Nat} : rmF h fc fr k less c ≤ h := Nat.sub_le _ _
section CFIND
variable {S : Nat × (Nat → Int32)} {k : zK} {s n fc fr C R : Nat} {bd : Nat → Bool}
theorem s62 {I : zI} {J : zJ} {f k' fc' fr' : Nat} (hs : s < 4) (hP : cPl I J s n fc fr bd) (hS : cSh I C R) (hf : f ≤ 40) (hk : k' ≤ 4) (hfc : fc' = if f = 0 then fc else 0) (hfr : fr' = if f = 0 then fr else 0) :
    ∃ I', zq S 62 [.ref 65, .ref (7 + 12 * s), .int (nI f), .int (nI k')] I J (some (.int (hI1 (htF bd n f fc' fr' R k')))) I' J ∧ (∀ x, x ≠ 66 → x ≠ 67 → I' x = I x) := by
  have hft : ftB bd n f n fc' fr k' 0 = ftB bd n f n fc' fr' k' 0 := by
    by_cases h : f = 0
    · rw [if_pos h] at hfr
      rw [hfr]
    · rw [if_neg h] at hfr hfc
      rw [hfr, hfc, ft_0]
  have hl : ∀ (m h : Nat) (M : zI), R = h + m → 1 ≤ h → (∀ x, x ≠ 66 → x ≠ 67 → M x = I x) → ∃ I', zd S 62 3 [some (.ref 65), some (.ref (7 + 12 * s)), some (.int (nI f)), some (.int (nI k')), some (.int (nI h))] [] M J (0, 0) = some (some (.int (hI1 (if fc' ≤ k' then lhF (ftB bd n f n fc' fr' k' 0) h m else none))), mk I' J, (0, 0)) ∧ (∀ x, x ≠ 66 → x ≠ 67 → I' x = I x) := by
    intro m
    induction m with
    | zero =>
      intro h M hm h1 hM
      refine ⟨M, ?_, hM⟩
      have : (if fc' ≤ k' then lhF (ftB bd n f n fc' fr' k' 0) h 0 else none) = none := by split <;> rfl
      rw [this, B62_3 hs, hM 70 (by decide) (by decide), hS.2.1, if_pos (nI_le (by omega) (by have := hS.2.2.2.1; omega)), B62_64 hs]
      rfl
    | succ m ih =>
      intro h M hm h1 hM
      have hR := hS.2.2.2.1
      have hPM : cPl M J s n fc fr bd := cPl_u hP (by rw [hM _ (by omega) (by omega)]) (by rw [hM _ (by omega) (by omega)]) (by rw [hM _ (by omega) (by omega)]) rfl
      obtain ⟨M1, q34, f1, f2, f3⟩ := s34 (S := S) (I := M) (J := J) (f := f) (k' := k') (h := h) (less := 0) hs hPM (by omega) hk (by omega) (by omega) hfc
      have hM1 : ∀ x, x ≠ 66 → x ≠ 67 → M1 x = I x := fun x a b => (f1 x a b).trans (hM x a b)
      have hpre : zd S 62 3 [some (.ref 65), some (.ref (7 + 12 * s)), some (.int (nI f)), some (.int (nI k')), some (.int (nI h))] [] M J (0, 0) = zd S 62 28 [some (.ref 65), some (.ref (7 + 12 * s)), some (.int (nI f)), some (.int (nI k')), some (.int (nI h))] [.int (bI (decide (fc' ≤ k') && okH h fc' fr k' 0))] M1 J (0, 0) := by
        rw [B62_3 hs, hM 70 (by decide) (by decide), hS.2.1, if_neg (nI_ge (by omega) (by omega)), B62_15 ⟨rfl, rfl⟩ hs q34]
      have hstep : lhF (ftB bd n f n fc' fr' k' 0) h (m + 1) = if ftB bd n f n fc' fr' k' 0 h = true then some h else lhF (ftB bd n f n fc' fr' k' 0) (h + 1) m := rfl
      cases hb : (decide (fc' ≤ k') && okH h fc' fr k' 0) with
      | false =>
        obtain ⟨I', e, r⟩ := ih (h + 1) M1 (by omega) (by omega) hM1
        refine ⟨I', ?_, r⟩
        rw [hpre, hb, B62_28 hs, if_pos (show bI false = 0 from rfl), B62_58 hs, nI_1, e]
        by_cases hc : fc' ≤ k'
        · rw [decide_eq_true hc, Bool.true_and] at hb
          have : ftB bd n f n fc' fr' k' 0 h = false := by
            rw [← hft]
            unfold ftB
            rw [hb]
            rfl
          rw [if_pos hc, if_pos hc, hstep, this, if_neg (by decide)]
        · rw [if_neg hc, if_neg hc]
      | true =>
        have hb' := hb
        rw [Bool.and_eq_true, decide_eq_true_eq] at hb'
        obtain ⟨g1, g2⟩ := f3 hb
        have hPM1 : cPl M1 J s n fc fr bd := cPl_u hP (by rw [hM1 _ (by omega) (by omega)]) (by rw [hM1 _ (by omega) (by omega)]) (by rw [hM1 _ (by omega) (by omega)]) rfl
        obtain ⟨g, q93, gg1, gg2⟩ := s93 (S := S) (I := M1) (J := J) hs hPM1
        obtain ⟨E, q35, E1, E2⟩ := s35 (S := S) (I := M1) (J := J) (n := n) (bd := bd) (f := f) (k' := k') (g := g) (rm := rmF h fc' fr k' 0) hf hP.1 hk (fun c _ => by have := rm_le (h := h) (fc := fc') (fr := fr) (k := k') (less := 0) (c := c); omega) g1 g2 gg1 gg2
        have p41 : (2 : Nat) ^ 41 < 2 ^ 64 := by decide
        have q22 : zq S 22 [.long (lN E), .int (M1 (7 + 12 * s) 15)] M1 J (some (.int (bI (pth (rmF h fc' fr k' 0) (gdF bd n) n 0 k' f)))) M1 J := by
          rw [hPM1.2.2.2.1]
          have hbit : hbt E n = pth (rmF h fc' fr k' 0) (gdF bd n) n 0 k' f := b_ext2 (by rw [hbt_t, E2 n, pth_i])
          rw [← hbit]
          exact s22 (by omega) (by have := hP.1; omega)
        have hgo : zd S 62 3 [some (.ref 65), some (.ref (7 + 12 * s)), some (.int (nI f)), some (.int (nI k')), some (.int (nI h))] [] M J (0, 0) = zd S 62 50 [some (.ref 65), some (.ref (7 + 12 * s)), some (.int (nI f)), some (.int (nI k')), some (.int (nI h))] [.int (bI (pth (rmF h fc' fr k' 0) (gdF bd n) n 0 k' f))] M1 J (0, 0) := by
          rw [hpre, hb, B62_28 hs, if_neg (show ¬ bI true = 0 by decide), B62_31 ⟨rfl, rfl⟩ hs q93, B62_40 ⟨rfl, rfl⟩ hs q35, B62_43 ⟨rfl, rfl⟩ hs q22]
        have hftb : ftB bd n f n fc' fr' k' 0 h = pth (rmF h fc' fr k' 0) (gdF bd n) n 0 k' f := by
          rw [← hft]
          unfold ftB
          rw [hb'.2, Bool.true_and]
        rw [if_pos hb'.1, hstep, hftb]
        cases hp : pth (rmF h fc' fr k' 0) (gdF bd n) n 0 k' f with
        | true =>
          refine ⟨M1, ?_, hM1⟩
          rw [hgo, hp, B62_50 hs, if_neg (show ¬ bI true = 0 by decide), B62_53 hs, nI_1, if_pos rfl]
          rfl
        | false =>
          obtain ⟨I', e, r⟩ := ih (h + 1) M1 (by omega) (by omega) hM1
          refine ⟨I', ?_, r⟩
          rw [if_pos hb'.1] at e
          rw [hgo, hp, B62_50 hs, if_pos (show bI false = 0 from rfl), B62_58 hs, nI_1, e, if_neg (by decide)]
  obtain ⟨I', e, r⟩ := hl (R - 1) 1 I (by have := hS.2.2.2.1; omega) (Nat.le_refl _) (fun _ _ _ => rfl)
  refine ⟨I', ?_, r⟩
  refine zq_of rfl ?_
  show zd S 62 0 [some (.ref 65), some (.ref (7 + 12 * s)), some (.int (nI f)), some (.int (nI k')), none] [] I J (0, 0) = _
  rw [B62_0 hs]
  exact e
theorem htF_b {f fc' fr' k' h : Nat} (hR : 4 ≤ R) (h0 : htF bd n f fc' fr' R k' = some h) : 1 ≤ h ∧ h + 1 ≤ R ∧ fc' ≤ k' ∧ ftB bd n f n fc' fr' k' 0 h = true := by
  unfold htF at h0
  by_cases hc : fc' ≤ k'
  · rw [if_pos hc] at h0
    have := lhF_b _ _ _ h0
    exact ⟨this.1, by omega, hc, this.2.2⟩
  · rw [if_neg hc] at h0
    cases h0
theorem s61 {I : zI} {J : zJ} {f fst fc' fr' q : Nat} (hs : s < 4) (hP : cPl I J s n fc fr bd) (hS : cSh I C R) (hf : f ≤ n) (hfst : fst ≤ 3) (hq : q = if f = 0 then 0 else 1) (hfc : fc' = if f = 0 then fc else 0) (hfr : fr' = if f = 0 then fr else 0) :
    ∃ I', zq S 61 [.ref 65, .ref (7 + 12 * s), .int (nI f), .int (nI fst)] I J (some (.int (bI (fwF (I 71) C R (htF bd n f fc' fr' R) fst).isSome))) I' J ∧ (∀ x, x ≠ 66 → x ≠ 67 → x ≠ 69 → x ≠ 15 + 12 * s + 2 * q → I' x = I x) ∧ (fwF (I 71) C R (htF bd n f fc' fr' R) fst = none → I' (15 + 12 * s + 2 * q) = I (15 + 12 * s + 2 * q)) ∧ (∀ w, fwF (I 71) C R (htF bd n f fc' fr' R) fst = some w → ∃ h, htF bd n f fc' fr' R w.2.1 = some h ∧ ptV I' (15 + 12 * s + 2 * q) w.1 w.2.2.1 w.2.2.2 w.2.1 (h + 1) f (n - f)) := by
  have hq2 : q < 2 := by rw [hq]; split <;> omega
  have hn40 := hP.1
  obtain ⟨S1, S2, S3, S4, S5⟩ := hS
  have e0 : nI f = 0 ↔ f = 0 := by
    have := nI_eq (a := f) (b := 0) (by omega) (by decide)
    rw [nI_0] at this
    exact this
  have hst : zd S 61 0 [some (.ref 65), some (.ref (7 + 12 * s)), some (.int (nI f)), some (.int (nI fst)), none, none, none] [] I J (0, 0) = zd S 61 19 [some (.ref 65), some (.ref (7 + 12 * s)), some (.int (nI f)), some (.int (nI fst)), some (.ref (15 + 12 * s + 2 * q)), some (.int (nI 1)), none] [] I J (0, 0) := by
    rw [B61_0 hs]
    by_cases h : f = 0
    · rw [if_pos h] at hq
      subst hq
      rw [if_neg (not_not_intro (e0.mpr h)), B61_8 (p13x := 0) hs (by decide) rfl rfl]
      rfl
    · rw [if_neg h] at hq
      subst hq
      rw [if_pos (fun z => h (e0.mp z)), B61_12 (p13x := 1) hs (by decide) rfl (by show some (17 + 12 * s) = some (15 + 12 * s + 2 * 1); congr 1; omega)]
      rfl
  -- the heights
  have hH : ∀ (m kk : Nat) (M : zI), C + 1 = kk + m → 1 ≤ kk → (∀ x, x ≠ 66 → x ≠ 67 → x ≠ 69 → M x = I x) → (∀ k2, 1 ≤ k2 → k2 < kk → M 69 k2 = hI1 (htF bd n f fc' fr' R k2)) → ∃ M', zd S 61 19 [some (.ref 65), some (.ref (7 + 12 * s)), some (.int (nI f)), some (.int (nI fst)), some (.ref (15 + 12 * s + 2 * q)), some (.int (nI kk)), none] [] M J (0, 0) = zd S 61 55 [some (.ref 65), some (.ref (7 + 12 * s)), some (.int (nI f)), some (.int (nI fst)), some (.ref (15 + 12 * s + 2 * q)), some (.int (nI fst)), none] [] M' J (0, 0) ∧ (∀ x, x ≠ 66 → x ≠ 67 → x ≠ 69 → M' x = I x) ∧ (∀ k2, 1 ≤ k2 → k2 ≤ C → M' 69 k2 = hI1 (htF bd n f fc' fr' R k2)) := by
    intro m
    induction m with
    | zero =>
      intro kk M hm hk hM h69
      refine ⟨M, ?_, hM, fun k2 a b => h69 k2 a (by omega)⟩
      rw [B61_19 hs hq2, hM 70 (by decide) (by decide) (by decide), S1, if_pos (nI_lt (by omega) (by omega)), B61_52 hs hq2]
    | succ m ih =>
      intro kk M hm hk hM h69
      have hPM : cPl M J s n fc fr bd := cPl_u hP (by rw [hM _ (by omega) (by omega) (by omega)]) (by rw [hM _ (by omega) (by omega) (by omega)]) (by rw [hM _ (by omega) (by omega) (by omega)]) rfl
      have hSM : cSh M C R := cSh_u ⟨S1, S2, S3, S4, S5⟩ (hM 70 (by decide) (by decide) (by decide)) (hM 71 (by decide) (by decide) (by decide)) (hM 72 (by decide) (by decide) (by decide))
      obtain ⟨M1, q62, f1⟩ := s62 (S := S) (I := M) (J := J) (f := f) (k' := kk) hs hPM hSM (by omega) (by omega) hfc hfr
      obtain ⟨M', e, r1, r2⟩ := ih (kk + 1) (u2 M1 69 kk (hI1 (htF bd n f fc' fr' R kk))) (by omega) (by omega) (fun x a b c => by rw [u2n (nbeq c), f1 x a b]; exact hM x a b c) (fun k2 a b => by
        by_cases hkk : k2 = kk
        · rw [hkk, u2s]
        · rw [u2ne hkk, f1 69 (by decide) (by decide)]
          exact h69 k2 a (by omega))
      refine ⟨M', ?_, r1, r2⟩
      rw [B61_19 hs hq2, hM 70 (by decide) (by decide) (by decide), S1, if_neg (nI_nlt (by omega) (by omega)), B61_31 ⟨rfl, rfl⟩ hs hq2 q62, B61_45 hs hq2 (zin_n (by omega) (by decide)), nI_clamp (by omega), B61_46 hs hq2, nI_1]
      exact e
  obtain ⟨M, eH, M1, M2⟩ := hH C 1 I (by omega) (Nat.le_refl _) (fun _ _ _ _ => rfl) (fun k2 a b => by omega)
  have hG : M 71 = I 71 := M1 71 (by decide) (by decide) (by decide)
  have hSM : cSh M C R := cSh_u ⟨S1, S2, S3, S4, S5⟩ (M1 70 (by decide) (by decide) (by decide)) hG (M1 72 (by decide) (by decide) (by decide))
  have h15 : M (7 + 12 * s) 15 = nI n := by rw [M1 _ (by omega) (by omega) (by omega)]; exact hP.2.2.2.1
  -- one page
  have hK : ∀ (kk pg : Nat), kk ≤ C → pg < 3 → (∃ w h, fdT (fwK (I 71) C R (htF bd n f fc' fr' R) pg) kk = some w ∧ htF bd n f fc' fr' R w.2.1 = some h ∧ ∃ I', zd S 61 70 [some (.ref 65), some (.ref (7 + 12 * s)), some (.int (nI f)), none, some (.ref (15 + 12 * s + 2 * q)), some (.int (nI pg)), some (.int (nI kk))] [] M J (0, 0) = some (some (.int 1), mk I' J, (0, 0)) ∧ (∀ x, x ≠ 15 + 12 * s + 2 * q → I' x = M x) ∧ ptV I' (15 + 12 * s + 2 * q) w.1 w.2.2.1 w.2.2.2 w.2.1 (h + 1) f (n - f)) ∨ (fdT (fwK (I 71) C R (htF bd n f fc' fr' R) pg) kk = none ∧ zd S 61 70 [some (.ref 65), some (.ref (7 + 12 * s)), some (.int (nI f)), none, some (.ref (15 + 12 * s + 2 * q)), some (.int (nI pg)), some (.int (nI kk))] [] M J (0, 0) = zd S 61 128 [some (.ref 65), some (.ref (7 + 12 * s)), some (.int (nI f)), none, some (.ref (15 + 12 * s + 2 * q)), some (.int (nI pg)), some (.int (nI 0))] [] M J (0, 0)) := by
    intro kk
    induction kk with
    | zero =>
      intro pg _ hpg
      right
      refine ⟨rfl, ?_⟩
      rw [B61_70 hs hq2, if_pos (show nI 0 < 1 by decide)]
    | succ kk ih =>
      intro pg hkk hpg
      have hn1 : ¬ nI (kk + 1) < 1 := nI_nlt (b := 1) (by omega) (by omega)
      have z5 : zin (nI (kk + 1)) 5 = true := zin_n (by omega) (by decide)
      have c5 : (nI (kk + 1)).toNatClampNeg = kk + 1 := nI_clamp (by omega)
      have h69 := M2 (kk + 1) (by omega) hkk
      rw [B61_70 hs hq2, if_neg hn1, B61_76 hs hq2 z5, c5, h69, fdT_e]
      cases hh : htF bd n f fc' fr' R (kk + 1) with
      | none =>
        have hfw : fwK (I 71) C R (htF bd n f fc' fr' R) pg (kk + 1) = none := by unfold fwK; rw [hh]
        rw [hfw, if_pos (show hI1 none = -1 from rfl), B61_122 hs hq2, pk_m1]
        exact ih pg (by omega) hpg
      | some h =>
        have hhb := htF_b S4.1 hh
        have hne : ¬ hI1 (some h) = -1 := fun z => by
          have := (oI_m (o := some (h + 1)) (fun v' hh => by cases hh; omega)).mp z
          cases this
        obtain ⟨I1, q85, g1, g2, g3⟩ := s85 (S := S) (I := M) (J := J) (s := s) (q := q) (pg := pg) (k' := kk + 1) (h := h + 1) hs hq2 hpg S3.2 S4.2 (by omega) (by omega) (by omega) (by omega) hSM.1 hSM.2.1 hSM.2.2.2.2
        rw [hG] at q85 g2 g3
        rw [if_neg hne, B61_87 ⟨rfl, rfl⟩ hs hq2 z5 (by rw [c5, h69, hh]; exact q85), B61_107 hs hq2]
        cases hf' : fnd (I 71) C R pg (kk + 1) (h + 1) with
        | none =>
          have hfw : fwK (I 71) C R (htF bd n f fc' fr' R) pg (kk + 1) = none := by unfold fwK; rw [hh]; dsimp only; rw [hf']; rfl
          rw [hfw, if_pos (show bI (none : Option (Nat × Nat)).isSome = 0 from rfl), B61_122 hs hq2, pk_m1, g2 hf']
          exact ih pg (by omega) hpg
        | some xy =>
          have hfw : fwK (I 71) C R (htF bd n f fc' fr' R) pg (kk + 1) = some (pg, kk + 1, xy.1, xy.2) := by unfold fwK; rw [hh]; dsimp only; rw [hf']; rfl
          left
          rw [hfw]
          obtain ⟨u1, u2', u3, u4, u5, u6⟩ := g3 xy hf'
          obtain ⟨I2, q49, k1, k2, k3, k4⟩ := s49 (S := S) (I := I1) (J := J) (nI f) (nI n) hs hq2
          refine ⟨(pg, kk + 1, xy.1, xy.2), h, rfl, hh, I2, ?_, fun x hx => (k1 x hx).trans (g1 x hx), ?_⟩
          · have h15' : I1 (7 + 12 * s) 15 = nI n := by rw [g1 _ (by omega)]; exact h15
            rw [if_neg (show ¬ bI (some xy).isSome = 0 from (by decide : ¬ bI true = 0)), B61_110 ⟨rfl, rfl⟩ hs hq2 (by rw [h15']; exact q49), B61_120 hs hq2 rfl]
          · refine ⟨?_, ?_, ?_, ?_, ?_, k2, ?_⟩
            · rw [k4 1 (by decide) (by decide)]
              exact u1
            · rw [k4 2 (by decide) (by decide)]
              exact u2'
            · rw [k4 3 (by decide) (by decide)]
              exact u3
            · rw [k4 4 (by decide) (by decide)]
              exact u4
            · rw [k4 5 (by decide) (by decide)]
              exact u5
            · rw [k3, pk_sub hf]
  have hPg : ∀ (m pg : Nat) (o3 o6 : Option Value), 3 = pg + m → (∃ w h, fsT (fwP (I 71) C R (htF bd n f fc' fr' R)) pg m = some w ∧ htF bd n f fc' fr' R w.2.1 = some h ∧ ∃ I', zd S 61 55 [some (.ref 65), some (.ref (7 + 12 * s)), some (.int (nI f)), o3, some (.ref (15 + 12 * s + 2 * q)), some (.int (nI pg)), o6] [] M J (0, 0) = some (some (.int 1), mk I' J, (0, 0)) ∧ (∀ x, x ≠ 15 + 12 * s + 2 * q → I' x = M x) ∧ ptV I' (15 + 12 * s + 2 * q) w.1 w.2.2.1 w.2.2.2 w.2.1 (h + 1) f (n - f)) ∨ (fsT (fwP (I 71) C R (htF bd n f fc' fr' R)) pg m = none ∧ zd S 61 55 [some (.ref 65), some (.ref (7 + 12 * s)), some (.int (nI f)), o3, some (.ref (15 + 12 * s + 2 * q)), some (.int (nI pg)), o6] [] M J (0, 0) = some (some (.int 0), mk M J, (0, 0))) := by
    intro m
    induction m with
    | zero =>
      intro pg o3 o6 hm
      right
      refine ⟨rfl, ?_⟩
      have h3 : (3 : Int32) ≤ nI pg := nI_le (a := 3) (by omega) (by omega)
      rw [B61_55 hs hq2, if_pos h3, B61_134 hs hq2 rfl]
    | succ m ih =>
      intro pg o3 o6 hm
      have h3 : ¬ (3 : Int32) ≤ nI pg := nI_ge (b := 3) (by omega) (by decide)
      rw [B61_55 hs hq2, if_neg h3, B61_61 hs hq2, hSM.1, fsT_e]
      rcases hK C pg (Nat.le_refl _) (by omega) with ⟨w, h, a1, a2, I', a3, a4, a5⟩ | ⟨a1, a2⟩
      · left
        have : fwP (I 71) C R (htF bd n f fc' fr' R) pg = some w := a1
        rw [this]
        exact ⟨w, h, rfl, a2, I', a3, a4, a5⟩
      · have : fwP (I 71) C R (htF bd n f fc' fr' R) pg = none := a1
        rw [this, a2, B61_128 hs hq2, nI_1]
        exact ih (pg + 1) none (some (.int (nI 0))) (by omega)
  rcases hPg (3 - fst) fst (some (.int (nI fst))) none (by omega) with ⟨w, h, a1, a2, I', a3, a4, a5⟩ | ⟨a1, a2⟩
  · have hw : fwF (I 71) C R (htF bd n f fc' fr' R) fst = some w := a1
    rw [hw]
    refine ⟨I', zq_of rfl (hst.trans (eH.trans a3)), fun x b1 b2 b3 b4 => (a4 x b4).trans (M1 x b1 b2 b3), (fun z => by cases z), fun w' hw' => ?_⟩
    cases hw'
    exact ⟨h, a2, a5⟩
  · have hw : fwF (I 71) C R (htF bd n f fc' fr' R) fst = none := a1
    rw [hw]
    refine ⟨M, zq_of rfl (hst.trans (eH.trans a2)), fun x b1 b2 b3 _ => M1 x b1 b2 b3, fun _ => M1 _ (by omega) (by omega) (by omega), fun w' hw' => by cases hw'⟩
theorem s65 {I : zI} {J : zJ} {k' : Nat} {rm : Nat → Nat} (hs : s < 4) (hP : cPl I J s n fc fr bd) (hk : k' ≤ 4) (hk0 : 0 < k') (hr : ∀ c, c < k' → rm c ≤ 15) (h66 : I 66 2 = nI k') (h67 : ∀ c, c < k' → I 67 c = nI (rm c)) :
    zq S 65 [.ref 65, .ref (7 + 12 * s)] I J (some (.int (oI (gsF (fun m => gdF bd n m && pth rm (gdF bd n) m 0 k' 0) (n - 2))))) I J := by
  obtain ⟨g, q93, gg1, gg2⟩ := s93 (S := S) (I := I) (J := J) hs hP
  obtain ⟨E, q35, E1, E2⟩ := s35 (S := S) (I := I) (J := J) (n := n) (bd := bd) (f := 0) (k' := k') (g := g) (rm := rm) (by omega) hP.1 hk hr h66 h67 gg1 gg2
  have hn := hP.1
  have p41 : (2 : Nat) ^ 41 < 2 ^ 64 := by decide
  have hbit : ∀ m, hbt E m = (gdF bd n m && pth rm (gdF bd n) m 0 k' 0) := by
    intro m
    apply b_ext2
    rw [hbt_t, E2 m, Bool.and_eq_true, pth_i]
    constructor
    · intro h
      refine ⟨?_, h⟩
      obtain ⟨k2, rfl⟩ : ∃ k2, k' = k2 + 1 := ⟨k' - 1, by omega⟩
      exact h.1
    · intro h
      exact h.2
  have hl : ∀ (m : Nat) (o0 o1 : Option Value), m ≤ 40 → zd S 65 21 [o0, o1, some (.long (lN E)), none, some (.int (nI m))] [] I J (0, 0) = some (some (.int (oI (gsF (fun m => gdF bd n m && pth rm (gdF bd n) m 0 k' 0) m))), mk I J, (0, 0)) := by
    intro m
    induction m with
    | zero =>
      intro o0 o1 _
      rw [B65_21, if_pos (show nI 0 < 2 by decide), B65_45]
      rfl
    | succ m ih =>
      intro o0 o1 hm
      have h2 : nI (m + 1) < 2 ↔ m + 1 < 2 := nI_ltI (b := 2) (by omega) (by decide)
      have hg : gsF (fun m => gdF bd n m && pth rm (gdF bd n) m 0 k' 0) (m + 1) = if 2 ≤ m + 1 then (if (gdF bd n (m + 1) && pth rm (gdF bd n) (m + 1) 0 k' 0) = true then some (m + 1) else gsF (fun m => gdF bd n m && pth rm (gdF bd n) m 0 k' 0) m) else none := rfl
      rw [hg, B65_21]
      by_cases h : m + 1 < 2
      · rw [if_pos (h2.mpr h), B65_45, if_neg (by omega)]
        rfl
      · have q22 := s22 (S := S) (I := I) (J := J) (n := E) (j := m + 1) (by omega) (by omega)
        rw [hbit] at q22
        have h2' : 2 ≤ m + 1 := by omega
        rw [if_neg (fun z => h (h2.mp z)), B65_27 ⟨rfl, rfl⟩ q22, B65_33, if_pos h2']
        cases hb : (gdF bd n (m + 1) && pth rm (gdF bd n) (m + 1) 0 k' 0) with
        | true =>
          rw [if_neg (show ¬ bI true = 0 by decide), B65_36, if_pos rfl]
          rfl
        | false =>
          rw [if_pos (show bI false = 0 from rfl), B65_39, pk_m1, if_neg (by decide)]
          exact ih none none (by omega)
  refine zq_of rfl ?_
  show zd S 65 0 [some (.ref 65), some (.ref (7 + 12 * s)), none, none, none] [] I J (0, 0) = _
  rw [B65_0 ⟨rfl, rfl⟩ hs q93, ← nI_0, B65_9 ⟨rfl, rfl⟩ hs q35, B65_12 hs, hP.2.2.2.1]
  by_cases h2 : 2 ≤ n
  · rw [show nI n - 2 = nI (n - 2) from pk_sub (b := 2) h2]
    exact hl (n - 2) _ _ (by omega)
  · have hlt : nI n - 2 < 2 := by
      have : n = 0 ∨ n = 1 := by omega
      rcases this with h | h
      · rw [h]; decide
      · rw [h]; decide
    rw [B65_21, if_pos hlt, B65_45, show n - 2 = 0 by omega]
    rfl
end CFIND
