/-! plan: places are found, the other side -/
def mSh (I : zI) (C R : Nat) : Prop := I 76 0 = nI C ∧ I 76 1 = nI R ∧ (1 ≤ C ∧ C ≤ 4) ∧ (4 ≤ R ∧ R ≤ 16)
def hM1 (o : Option Nat) : Int32 := match o with
  | none => 0
  | some h => nI (h + 1)
theorem allT_f {f : Nat → Bool} {m : Nat} (h : allT f m = false) : ∀ n, m ≤ n → allT f n = false := by
  intro n
  induction n with
  | zero => intro hm; rw [show m = 0 by omega] at h; exact h
  | succ n ih =>
    intro hm
    by_cases he : m = n + 1
    · rw [← he]
      exact h
    · show (allT f n && f n) = false
      rw [ih (by omega)]
      rfl
section MFIND
variable {S : Nat × (Nat → Int32)} {k : zK} {s fc fr C R : Nat} {X : List (Nat × Nat × Nat × Nat)} {J : zJ}
theorem s128 {I : zI} {pg x y k' h : Nat} (hS : mSh I C R) (hp : pg < 3) (hx : x < 2 ^ 20) (hy : y < 2 ^ 20) (hk : k' < 2 ^ 20) (hh : h < 2 ^ 20) : zq S 128 [.ref 76, .int (nI pg), .int (nI x), .int (nI y), .int (nI k'), .int (nI h)] I J (some (.int (bI (frB (I 105) C R pg x y k' h)))) I J := by
  obtain ⟨S1, S2, S3, S4⟩ := hS
  refine zq_of rfl ?_
  show zd S 128 0 [some (.ref 76), some (.int (nI pg)), some (.int (nI x)), some (.int (nI y)), some (.int (nI k')), some (.int (nI h)), none, none, none] [] I J (0, 0) = _
  have e1 : nI C < nI (x + k') ↔ C < x + k' := nI_ltI (by omega) (by omega)
  have e2 : nI R < nI (y + h) ↔ R < y + h := nI_ltI (by omega) (by omega)
  have hout : (decide (x + k' ≤ C) && decide (y + h ≤ R)) = false → zd S 128 26 [some (.ref 76), some (.int (nI pg)), some (.int (nI x)), some (.int (nI y)), some (.int (nI k')), some (.int (nI h)), none, none, none] [] I J (0, 0) = some (some (.int (bI (frB (I 105) C R pg x y k' h))), mk I J, (0, 0)) := by
    intro hb
    have hf : frB (I 105) C R pg x y k' h = false := by
      unfold frB
      rw [hb]
      rfl
    rw [hf, B128_26, B128_32]
    by_cases hk0 : (nI x + nI k' : Int32) ≤ nI x
    · rw [if_pos hk0, B128_103 rfl]
      rfl
    · rw [if_neg hk0, B128_41, if_pos rfl, B128_103 rfl]
      rfl
  rw [B128_0, S1, nI_add]
  by_cases h1 : x + k' ≤ C
  · rw [if_neg (fun z => by have := e1.mp z; omega), B128_11, S2, nI_add]
    by_cases h2 : y + h ≤ R
    · rw [if_neg (fun z => by have := e2.mp z; omega), B128_22]
      have hfr : frB (I 105) C R pg x y k' h = allT (fun c => allT (fun r => decide (I 105 (64 * pg + 16 * (x + c) + (y + r)) = 0)) h) k' := by
        unfold frB
        rw [decide_eq_true h1, decide_eq_true h2]
        rfl
      rw [hfr]
      -- one column
      have hcol : ∀ (c : Nat), c < k' → ∀ (m r : Nat), h = r + m → allT (fun r => decide (I 105 (64 * pg + 16 * (x + c) + (y + r)) = 0)) r = true → ∃ l8, zd S 128 49 [some (.ref 76), some (.int (nI pg)), some (.int (nI x)), some (.int (nI y)), some (.int (nI k')), some (.int (nI h)), some (.int 1), some (.int (nI (x + c))), some (.int (nI (y + r)))] [] I J (0, 0) = zd S 128 97 [some (.ref 76), some (.int (nI pg)), some (.int (nI x)), some (.int (nI y)), some (.int (nI k')), some (.int (nI h)), some (.int (bI (allT (fun r => decide (I 105 (64 * pg + 16 * (x + c) + (y + r)) = 0)) h))), some (.int (nI (x + c))), some (.int l8)] [] I J (0, 0) := by
        intro c hc m
        induction m with
        | zero =>
          intro r hm ha
          refine ⟨nI (y + r), ?_⟩
          rw [B128_49, nI_add, if_pos (nI_le (by omega) (by omega)), show h = r by omega, ha]
          rfl
        | succ m ih =>
          intro r hm ha
          have ei : (64 * nI pg + 16 * nI (x + c) + nI (y + r) : Int32) = nI (64 * pg + 16 * (x + c) + (y + r)) := by rw [show (64 : Int32) = nI 64 from rfl, show (16 : Int32) = nI 16 from rfl, pk_mul, pk_mul, nI_add, nI_add]
          have hpre : zd S 128 49 [some (.ref 76), some (.int (nI pg)), some (.int (nI x)), some (.int (nI y)), some (.int (nI k')), some (.int (nI h)), some (.int 1), some (.int (nI (x + c))), some (.int (nI (y + r)))] [] I J (0, 0) = if ¬ I 105 (64 * pg + 16 * (x + c) + (y + r)) = 0 then zd S 128 88 [some (.ref 76), some (.int (nI pg)), some (.int (nI x)), some (.int (nI y)), some (.int (nI k')), some (.int (nI h)), some (.int 1), some (.int (nI (x + c))), some (.int (nI (y + r)))] [] I J (0, 0) else zd S 128 84 [some (.ref 76), some (.int (nI pg)), some (.int (nI x)), some (.int (nI y)), some (.int (nI k')), some (.int (nI h)), some (.int 1), some (.int (nI (x + c))), some (.int (nI (y + r)))] [] I J (0, 0) := by
            rw [B128_49, nI_add, if_neg (nI_ge (by omega) (by omega)), B128_58, if_neg (by decide), B128_63 (by rw [ei]; exact zin_n (by omega) (by decide)), ei, nI_clamp (by omega)]
          by_cases h0 : I 105 (64 * pg + 16 * (x + c) + (y + r)) = 0
          · obtain ⟨l8, e8⟩ := ih (r + 1) (by omega) (by
              show (allT (fun r => decide (I 105 (64 * pg + 16 * (x + c) + (y + r)) = 0)) r && decide (I 105 (64 * pg + 16 * (x + c) + (y + r)) = 0)) = true
              rw [ha, decide_eq_true h0]
              rfl)
            refine ⟨l8, ?_⟩
            rw [hpre, if_neg (not_not_intro h0), B128_84, nI_1]
            exact e8
          · have hf : allT (fun r => decide (I 105 (64 * pg + 16 * (x + c) + (y + r)) = 0)) h = false := allT_f (m := r + 1) (by
              show (allT (fun r => decide (I 105 (64 * pg + 16 * (x + c) + (y + r)) = 0)) r && decide (I 105 (64 * pg + 16 * (x + c) + (y + r)) = 0)) = false
              rw [decide_eq_false h0, Bool.and_false]) h (by omega)
            refine ⟨nI (y + r + 1), ?_⟩
            rw [hpre, if_pos h0, B128_88, nI_1, B128_49, hf]
            by_cases hend : (nI y + nI h : Int32) ≤ nI (y + r + 1)
            · rw [if_pos hend]
              rfl
            · rw [if_neg hend, B128_58, if_pos rfl]
              rfl
      have hl : ∀ (m c : Nat) (b : Bool), k' = c + m → b = allT (fun c => allT (fun r => decide (I 105 (64 * pg + 16 * (x + c) + (y + r)) = 0)) h) c → zd S 128 32 [some (.ref 76), some (.int (nI pg)), some (.int (nI x)), some (.int (nI y)), some (.int (nI k')), some (.int (nI h)), some (.int (bI b)), some (.int (nI (x + c))), none] [] I J (0, 0) = some (some (.int (bI (allT (fun c => allT (fun r => decide (I 105 (64 * pg + 16 * (x + c) + (y + r)) = 0)) h) k'))), mk I J, (0, 0)) := by
        intro m
        induction m with
        | zero =>
          intro c b hm hb
          rw [B128_32, nI_add, if_pos (nI_le (by omega) (by omega)), B128_103 (bI_z b), hb, show k' = c by omega]
        | succ m ih =>
          intro c b hm hb
          rw [B128_32, nI_add, if_neg (nI_ge (by omega) (by omega)), B128_41]
          cases b with
          | false =>
            rw [if_pos (show bI false = 0 from rfl), B128_103 rfl, allT_f hb.symm k' (by omega)]
          | true =>
            obtain ⟨l8, e8⟩ := hcol c (by omega) h 0 (by omega) rfl
            rw [Nat.add_zero] at e8
            rw [if_neg (show ¬ bI true = 0 by decide), B128_46]
            refine Eq.trans e8 ?_
            rw [B128_97, nI_1]
            refine ih (c + 1) _ (by omega) ?_
            show _ = (allT (fun c => allT (fun r => decide (I 105 (64 * pg + 16 * (x + c) + (y + r)) = 0)) h) c && allT (fun r => decide (I 105 (64 * pg + 16 * (x + c) + (y + r)) = 0)) h)
            rw [← hb, Bool.true_and]
      have := hl k' 0 true (by omega) rfl
      rw [Nat.add_zero] at this
      exact this
    · rw [if_pos (e2.mpr (by omega))]
      exact hout (by rw [decide_eq_false h2, Bool.and_false])
  · rw [if_pos (e1.mpr (by omega))]
    exact hout (by rw [decide_eq_false h1, Bool.false_and])
def fo76 (I I' : zI) : Prop := (∀ x, x ≠ 76 → I' x = I x) ∧ (∀ e, e < 42 ∨ 45 < e → I' 76 e = I 76 e)
theorem s129 {I : zI} {pg k' h : Nat} (hS : mSh I C R) (hp : pg < 3) (hk : k' ≤ 4) (hh : h ≤ 16) :
    ∃ I', zq S 129 [.ref 76, .int (nI pg), .int (nI k'), .int (nI h)] I J (some (.int (bI (fnd (I 105) C R pg k' h).isSome))) I' J ∧ fo76 I I' ∧ (fnd (I 105) C R pg k' h = none → I' = I) ∧ (∀ w, fnd (I 105) C R pg k' h = some w → I' 76 42 = nI pg ∧ I' 76 43 = nI w.1 ∧ I' 76 44 = nI w.2 ∧ I' 76 45 = nI k') := by
  obtain ⟨S1, S2, S3, S4⟩ := hS
  have hfound : ∀ (x y : Nat), ∃ I', zd S 129 38 [some (.ref 76), some (.int (nI pg)), some (.int (nI k')), some (.int (nI h)), some (.int (nI y)), some (.int (nI x))] [] I J (0, 0) = some (some (.int 1), mk I' J, (0, 0)) ∧ fo76 I I' ∧ I' 76 42 = nI pg ∧ I' 76 43 = nI x ∧ I' 76 44 = nI y ∧ I' 76 45 = nI k' := by
    intro x y
    refine ⟨u2 (u2 (u2 (u2 I 76 42 (nI pg)) 76 43 (nI x)) 76 44 (nI y)) 76 45 (nI k'), ?_, ⟨fun z hz => by rw [u2n (nbeq hz), u2n (nbeq hz), u2n (nbeq hz), u2n (nbeq hz)], fun e he => by rw [u2ne (by omega), u2ne (by omega), u2ne (by omega), u2ne (by omega)]⟩, ?_, ?_, ?_, ?_⟩
    · rw [B129_38, B129_43, B129_49, B129_55, B129_60 rfl]
    · rw [u2ne (by decide), u2ne (by decide), u2ne (by decide), u2s]
    · rw [u2ne (by decide), u2ne (by decide), u2s]
    · rw [u2ne (by decide), u2s]
    · rw [u2s]
  have hX : ∀ (m x y : Nat), C = x + m → y < R → (∃ xy, fsT (fnX (I 105) C R pg k' h y) x m = some xy ∧ xy.2 = y ∧ zd S 129 15 [some (.ref 76), some (.int (nI pg)), some (.int (nI k')), some (.int (nI h)), some (.int (nI y)), some (.int (nI x))] [] I J (0, 0) = zd S 129 38 [some (.ref 76), some (.int (nI pg)), some (.int (nI k')), some (.int (nI h)), some (.int (nI y)), some (.int (nI xy.1))] [] I J (0, 0)) ∨ (fsT (fnX (I 105) C R pg k' h y) x m = none ∧ ∃ l5, zd S 129 15 [some (.ref 76), some (.int (nI pg)), some (.int (nI k')), some (.int (nI h)), some (.int (nI y)), some (.int (nI x))] [] I J (0, 0) = zd S 129 68 [some (.ref 76), some (.int (nI pg)), some (.int (nI k')), some (.int (nI h)), some (.int (nI y)), some (.int l5)] [] I J (0, 0)) := by
    intro m
    induction m with
    | zero =>
      intro x y hm hy
      right
      refine ⟨rfl, nI x, ?_⟩
      rw [B129_15, S1, if_pos (nI_le (by omega) (by omega))]
    | succ m ih =>
      intro x y hm hy
      have q128 := s128 (S := S) (J := J) (I := I) (C := C) (R := R) (pg := pg) (x := x) (y := y) (k' := k') (h := h) ⟨S1, S2, S3, S4⟩ hp (by omega) (by omega) (by omega) (by omega)
      rw [fsT_e, B129_15, S1, if_neg (nI_ge (by omega) (by omega)), B129_24 ⟨rfl, rfl⟩ q128, B129_35]
      cases hf : frB (I 105) C R pg x y k' h with
      | true =>
        left
        have hfx : fnX (I 105) C R pg k' h y x = some (x, y) := by unfold fnX; rw [if_pos hf]
        rw [hfx]
        refine ⟨(x, y), rfl, rfl, ?_⟩
        rw [if_neg (show ¬ bI true = 0 by decide)]
      | false =>
        have hfx : fnX (I 105) C R pg k' h y x = none := by unfold fnX; rw [if_neg (by rw [hf]; decide)]
        rw [hfx, if_pos (show bI false = 0 from rfl), B129_62, nI_1]
        exact ih (x + 1) y (by omega) hy
  have hY : ∀ (m y : Nat) (o5 : Option Value), R = y + m → (∃ xy, fsT (fnY (I 105) C R pg k' h) y m = some xy ∧ zd S 129 3 [some (.ref 76), some (.int (nI pg)), some (.int (nI k')), some (.int (nI h)), some (.int (nI y)), o5] [] I J (0, 0) = zd S 129 38 [some (.ref 76), some (.int (nI pg)), some (.int (nI k')), some (.int (nI h)), some (.int (nI xy.2)), some (.int (nI xy.1))] [] I J (0, 0)) ∨ (fsT (fnY (I 105) C R pg k' h) y m = none ∧ zd S 129 3 [some (.ref 76), some (.int (nI pg)), some (.int (nI k')), some (.int (nI h)), some (.int (nI y)), o5] [] I J (0, 0) = some (some (.int 0), mk I J, (0, 0))) := by
    intro m
    induction m with
    | zero =>
      intro y o5 hm
      right
      refine ⟨rfl, ?_⟩
      rw [B129_3, S2, if_pos (nI_le (by omega) (by omega)), B129_74 rfl]
    | succ m ih =>
      intro y o5 hm
      rw [fsT_e, B129_3, S2, if_neg (nI_ge (by omega) (by omega)), B129_12, ← nI_0]
      rcases hX C 0 y (by omega) (by omega) with ⟨xy, x1, x2, x3⟩ | ⟨x1, l5, x2⟩
      · left
        have : fnY (I 105) C R pg k' h y = some xy := x1
        rw [this]
        exact ⟨xy, rfl, by rw [x3, x2]⟩
      · have : fnY (I 105) C R pg k' h y = none := x1
        rw [this, x2, B129_68, nI_1]
        exact ih (y + 1) (some (.int l5)) (by omega)
  have hst : zd S 129 0 [some (.ref 76), some (.int (nI pg)), some (.int (nI k')), some (.int (nI h)), none, none] [] I J (0, 0) = zd S 129 3 [some (.ref 76), some (.int (nI pg)), some (.int (nI k')), some (.int (nI h)), some (.int (nI 0)), none] [] I J (0, 0) := by
    rw [B129_0, ← nI_0]
  rcases hY R 0 none (by omega) with ⟨xy, x1, x2⟩ | ⟨x1, x2⟩
  · have hfn : fnd (I 105) C R pg k' h = some xy := x1
    obtain ⟨I', e, r0, r1, r2, r3, r4⟩ := hfound xy.1 xy.2
    rw [hfn]
    refine ⟨I', zq_of rfl (hst.trans (x2.trans e)), r0, (fun z => by cases z), fun w hw => ?_⟩
    cases hw
    exact ⟨r1, r2, r3, r4⟩
  · have hfn : fnd (I 105) C R pg k' h = none := x1
    rw [hfn]
    exact ⟨I, zq_of rfl (hst.trans x2), ⟨fun _ _ => rfl, fun _ _ => rfl⟩, fun _ => rfl, fun w hw => by cases hw⟩
/-- ends that may be: the first line, the last, and those that are not bad -/
theorem fiH_g {f e : Nat} (hf : gdF (bdL X) X.length f = true) (he : gdF (bdL X) X.length e = true) (hle : e ≤ X.length) : ∀ j, f ≤ j → j ≤ e → gdF (bdL X) X.length j = (decide (j = f) || (decide (j = e) || !bdL X j)) := by
  intro j h1 h2
  by_cases c1 : j = f
  · rw [c1, hf, decide_eq_true rfl, Bool.true_or]
  · rw [decide_eq_false c1, Bool.false_or]
    by_cases c2 : j = e
    · rw [c2, he, decide_eq_true rfl, Bool.true_or]
    · rw [decide_eq_false c2, Bool.false_or]
      unfold gdF
      rw [decide_eq_true (by omega : j ≤ X.length), Bool.true_and]
theorem gd_n : gdF (bdL X) X.length X.length = true := by
  unfold gdF
  rw [decide_eq_true (Nat.le_refl _), bdL_lt (Nat.le_refl _)]
  rfl
theorem gd_0 : gdF (bdL X) X.length 0 = true := by
  unfold gdF
  rw [decide_eq_true (Nat.zero_le _)]
  have : bdL X 0 = false := by
    unfold bdL
    cases X[0 - 1]? with
    | none => cases X[0]? <;> rfl
    | some u => cases X[0]? <;> rfl
  rw [this]
  rfl
def fo130 (I I' : zI) : Prop := (∀ x, x ≠ 76 → x ≠ 106 → x ≠ 107 → x ≠ 108 → x ≠ 109 → I' x = I x) ∧ (∀ e, e < 42 ∨ 45 < e → I' 76 e = I 76 e)
/-- the least heights -/
theorem g130_h {I0 : zI} {f kk fc' fr' : Nat} {l6 : Int32} (hs : s < 4) (hP : mPl I0 s X fc fr) (hS : mSh I0 C R) (hf : f ≤ X.length) (hgf : gdF (bdL X) X.length f = true) (hkk : kk ≤ 4) (hfc : fc' ≤ 9) (hfr : fr' ≤ 9) (hb : Nat.ble k.1 (mBu 130).1 = true ∧ Nat.ble k.2 (mBu 130).2 = true) : ∀ (h : Nat) (I : zI), h < R → (∀ x, x ≠ 106 → x ≠ 107 → x ≠ 108 → x ≠ 109 → I x = I0 x) → I 109 kk = hM1 (if fc' ≤ kk then lhF (ftB (bdL X) X.length f X.length fc' fr' kk 0) (h + 1) (R - (h + 1)) else none) →
    ∃ (I' : zI) (l8 : Int32), zd S 130 28 [some (.ref 76), some (.int (nI s)), some (.int (nI f)), some (.int (nI X.length)), some (.int (nI fc')), some (.int (nI fr')), some (.int l6), some (.int (nI kk)), some (.int (nI h)), none] [] I J k = zd S 130 108 [some (.ref 76), some (.int (nI s)), some (.int (nI f)), some (.int (nI X.length)), some (.int (nI fc')), some (.int (nI fr')), some (.int l6), some (.int (nI kk)), some (.int l8), none] [] I' J k ∧ (∀ x, x ≠ 106 → x ≠ 107 → x ≠ 108 → x ≠ 109 → I' x = I0 x) ∧ (∀ x, x ≠ kk → I' 109 x = I 109 x) ∧ I' 109 kk = hM1 (htF (bdL X) X.length f fc' fr' R kk) := by
  have hR := hS.2.2.2
  have hn := hP.1
  have z5 : zin (nI kk) 5 = true := zin_n (by omega) (by decide)
  have c5 : (nI kk).toNatClampNeg = kk := nI_clamp (by omega)
  intro h
  induction h with
  | zero =>
    intro I hh hI h9
    refine ⟨I, nI 0, ?_, hI, fun _ _ => rfl, ?_⟩
    · rw [B130_28, if_pos (show nI 0 < 1 by decide)]
    · rw [h9]
      unfold htF
      rw [Nat.zero_add]
  | succ h ih =>
    intro I hh hI h9
    have hn1 : ¬ nI (h + 1) < 1 := nI_nlt (b := 1) (by omega) (by omega)
    have ec : nI kk < nI fc' ↔ kk < fc' := nI_ltI (by omega) (by omega)
    by_cases hc : fc' ≤ kk
    · rw [if_pos hc] at h9
      obtain ⟨I1, q126, f1, f2⟩ := s126 (S := S) (I := I) (J := J) (k' := kk) (h := h + 1) (fc := fc') (fr := fr') (less := 0) hkk (by omega) hfc hfr (by omega)
      have hlh : lhF (ftB (bdL X) X.length f X.length fc' fr' kk 0) (h + 1) (R - (h + 1)) = if ftB (bdL X) X.length f X.length fc' fr' kk 0 (h + 1) = true then some (h + 1) else lhF (ftB (bdL X) X.length f X.length fc' fr' kk 0) (h + 1 + 1) (R - (h + 1 + 1)) := by
        rw [show R - (h + 1) = (R - (h + 1 + 1)) + 1 by omega]
        rfl
      have hpre : zd S 130 28 [some (.ref 76), some (.int (nI s)), some (.int (nI f)), some (.int (nI X.length)), some (.int (nI fc')), some (.int (nI fr')), some (.int l6), some (.int (nI kk)), some (.int (nI (h + 1))), none] [] I J k = zd S 130 54 [some (.ref 76), some (.int (nI s)), some (.int (nI f)), some (.int (nI X.length)), some (.int (nI fc')), some (.int (nI fr')), some (.int l6), some (.int (nI kk)), some (.int (nI (h + 1))), none] [.int (bI (okH (h + 1) fc' fr' kk 0))] I1 J k := by
        rw [B130_28, if_neg hn1, B130_34, if_neg (fun z => by have := ec.mp z; omega), B130_41 hb q126]
      -- the height is kept
      have hkeep : ∀ (M : zI), (∀ x, x ≠ 106 → x ≠ 107 → x ≠ 108 → M x = I x) → ftB (bdL X) X.length f X.length fc' fr' kk 0 (h + 1) = false → ∃ (I' : zI) (l8 : Int32), zd S 130 73 [some (.ref 76), some (.int (nI s)), some (.int (nI f)), some (.int (nI X.length)), some (.int (nI fc')), some (.int (nI fr')), some (.int l6), some (.int (nI kk)), some (.int (nI (h + 1))), none] [] M J k = zd S 130 108 [some (.ref 76), some (.int (nI s)), some (.int (nI f)), some (.int (nI X.length)), some (.int (nI fc')), some (.int (nI fr')), some (.int l6), some (.int (nI kk)), some (.int l8), none] [] I' J k ∧ (∀ x, x ≠ 106 → x ≠ 107 → x ≠ 108 → x ≠ 109 → I' x = I0 x) ∧ (∀ x, x ≠ kk → I' 109 x = I 109 x) ∧ I' 109 kk = hM1 (htF (bdL X) X.length f fc' fr' R kk) := by
        intro M hM hft
        have h109 : M 109 = I 109 := hM 109 (by decide) (by decide) (by decide)
        have hid : u2 M 109 kk (M 109 kk) = M := by
          unfold u2
          have : upd (M 109) kk (M 109 kk) = M 109 := by
            funext z
            unfold upd
            by_cases hz : z = kk
            · rw [if_pos hz, hz]
            · rw [if_neg hz]
          rw [this, uc_id]
        obtain ⟨I', l8, e8, r1, r2, r3⟩ := ih M (by omega) (fun x a b c d => (hM x a b c).trans (hI x a b c d)) (by rw [h109, h9, if_pos hc, hlh, hft, if_neg (by decide)])
        refine ⟨I', l8, ?_, r1, fun x hx => by rw [r2 x hx, h109], r3⟩
        rw [B130_73, if_pos (by decide), B130_94 z5 z5, c5, hid, B130_102, pk_m1]
        exact e8
      have hI1 : ∀ x, x ≠ 106 → x ≠ 107 → x ≠ 108 → I1 x = I x := fun x a _ _ => f1 x a
      cases hok : okH (h + 1) fc' fr' kk 0 with
      | false =>
        have hft : ftB (bdL X) X.length f X.length fc' fr' kk 0 (h + 1) = false := by
          unfold ftB
          rw [hok]
          rfl
        obtain ⟨I', l8, e8, r⟩ := hkeep I1 hI1 hft
        exact ⟨I', l8, by rw [hpre, hok, B130_54, if_pos (show bI false = 0 from rfl)]; exact e8, r⟩
      | true =>
        have hP1 : mPl I1 s X fc fr := mPl_u hP (fun x hx => by rw [f1 x (by omega)]; exact hI x (by omega) (by omega) (by omega) (by omega))
        obtain ⟨I2, q127, g1, g2⟩ := s127 (S := S) (J := J) (I := I1) (s := s) (f := f) (e := X.length) (k' := kk) (X := X) (fc := fc) (fr := fr) (rm := rmF (h + 1) fc' fr' kk 0) (gd := gdF (bdL X) X.length) ⟨hs, hP1, hf, Nat.le_refl _, hkk, fun c hc' => ⟨f2 hok c hc', by have := rm_le (h := h + 1) (fc := fc') (fr := fr') (k := kk) (less := 0) (c := c); omega⟩, fiH_g hgf gd_n (Nat.le_refl _)⟩
        have hI2 : ∀ x, x ≠ 106 → x ≠ 107 → x ≠ 108 → I2 x = I x := fun x a b c => (g1 x b c).trans (f1 x a)
        have hft : ftB (bdL X) X.length f X.length fc' fr' kk 0 (h + 1) = pth (rmF (h + 1) fc' fr' kk 0) (gdF (bdL X) X.length) X.length 0 kk f := by
          unfold ftB
          rw [hok, Bool.true_and]
        have hpre2 : zd S 130 28 [some (.ref 76), some (.int (nI s)), some (.int (nI f)), some (.int (nI X.length)), some (.int (nI fc')), some (.int (nI fr')), some (.int l6), some (.int (nI kk)), some (.int (nI (h + 1))), none] [] I J k = zd S 130 66 [some (.ref 76), some (.int (nI s)), some (.int (nI f)), some (.int (nI X.length)), some (.int (nI fc')), some (.int (nI fr')), some (.int l6), some (.int (nI kk)), some (.int (nI (h + 1))), none] [.int (bI (pth (rmF (h + 1) fc' fr' kk 0) (gdF (bdL X) X.length) X.length 0 kk f))] I2 J k := by
          rw [hpre, hok, B130_54, if_neg (show ¬ bI true = 0 by decide), B130_57 hb q127]
        cases hp : pth (rmF (h + 1) fc' fr' kk 0) (gdF (bdL X) X.length) X.length 0 kk f with
        | false =>
          obtain ⟨I', l8, e8, r⟩ := hkeep I2 hI2 (by rw [hft, hp])
          exact ⟨I', l8, by rw [hpre2, hp, B130_66, if_pos (show bI false = 0 from rfl)]; exact e8, r⟩
        | true =>
          obtain ⟨I', l8, e8, r1, r2, r3⟩ := ih (u2 I2 109 kk (nI (h + 1 + 1))) (by omega) (fun x a b c d => by rw [u2n (nbeq d), hI2 x a b c]; exact hI x a b c d) (by rw [u2s, if_pos hc, hlh, hft, hp, if_pos rfl]; rfl)
          refine ⟨I', l8, ?_, r1, fun x hx => by rw [r2 x hx, u2ne hx, hI2 109 (by decide) (by decide) (by decide)], r3⟩
          rw [hpre2, hp, B130_66, if_neg (show ¬ bI true = 0 by decide), B130_69, if_neg (by decide), B130_87 z5, c5, nI_1, B130_102, pk_m1]
          exact e8
    · refine ⟨I, nI (h + 1), ?_, hI, fun _ _ => rfl, ?_⟩
      · rw [B130_28, if_neg hn1, B130_34, if_pos (ec.mpr (by omega))]
      · rw [h9, if_neg hc]
        unfold htF
        rw [if_neg hc]
theorem s130 {I : zI} {f fst fc' fr' : Nat} (hs : s < 4) (hP : mPl I s X fc fr) (hS : mSh I C R) (hf : f ≤ X.length) (hgf : gdF (bdL X) X.length f = true) (hfst : fst ≤ 3) (hfc : fc' ≤ 9) (hfr : fr' ≤ 9) :
    ∃ I', zq S 130 [.ref 76, .int (nI s), .int (nI f), .int (nI X.length), .int (nI fc'), .int (nI fr'), .int (nI fst)] I J (some (.int (bI (fwF (I 105) C R (htF (bdL X) X.length f fc' fr' R) fst).isSome))) I' J ∧ fo130 I I' ∧ (∀ kk, 1 ≤ kk → kk ≤ C → I' 109 kk = hM1 (htF (bdL X) X.length f fc' fr' R kk)) ∧ (∀ w, fwF (I 105) C R (htF (bdL X) X.length f fc' fr' R) fst = some w → I' 76 42 = nI w.1 ∧ I' 76 43 = nI w.2.2.1 ∧ I' 76 44 = nI w.2.2.2 ∧ I' 76 45 = nI w.2.1) := by
  have hn := hP.1
  have hS' := hS
  obtain ⟨S1, S2, S3, S4⟩ := hS
  have hH : ∀ (m kk : Nat) (M : zI), C + 1 = kk + m → 1 ≤ kk → (∀ x, x ≠ 106 → x ≠ 107 → x ≠ 108 → x ≠ 109 → M x = I x) → (∀ k2, 1 ≤ k2 → k2 < kk → M 109 k2 = hM1 (htF (bdL X) X.length f fc' fr' R k2)) → ∃ M', zd S 130 3 [some (.ref 76), some (.int (nI s)), some (.int (nI f)), some (.int (nI X.length)), some (.int (nI fc')), some (.int (nI fr')), some (.int (nI fst)), some (.int (nI kk)), none, none] [] M J (0, 0) = zd S 130 118 [some (.ref 76), some (.int (nI s)), some (.int (nI f)), some (.int (nI X.length)), some (.int (nI fc')), some (.int (nI fr')), some (.int (nI fst)), some (.int (nI fst)), none, none] [] M' J (0, 0) ∧ (∀ x, x ≠ 106 → x ≠ 107 → x ≠ 108 → x ≠ 109 → M' x = I x) ∧ (∀ k2, 1 ≤ k2 → k2 ≤ C → M' 109 k2 = hM1 (htF (bdL X) X.length f fc' fr' R k2)) := by
    intro m
    induction m with
    | zero =>
      intro kk M hm hk hM h9
      refine ⟨M, ?_, hM, fun k2 a b => h9 k2 a (by omega)⟩
      rw [B130_3, hM 76 (by decide) (by decide) (by decide) (by decide), S1, if_pos (nI_lt (by omega) (by omega)), B130_114]
    | succ m ih =>
      intro kk M hm hk hM h9
      have z5 : zin (nI kk) 5 = true := zin_n (by omega) (by decide)
      have c5 : (nI kk).toNatClampNeg = kk := nI_clamp (by omega)
      have hM76 : (u2 M 109 kk 0) 76 1 = nI R := by rw [u2n rfl, hM 76 (by decide) (by decide) (by decide) (by decide)]; exact S2
      obtain ⟨M1, l8, e1, r1, r2, r3⟩ := g130_h (S := S) (J := J) (k := (0, 0)) (I0 := I) (l6 := nI fst) (kk := kk) hs hP hS' hf hgf (by omega) hfc hfr ⟨rfl, rfl⟩ (R - 1) (u2 M 109 kk 0) (by omega) (fun x a b c d => by rw [u2n (nbeq d)]; exact hM x a b c d) (by
        rw [u2s, show R - 1 + 1 = R by omega, Nat.sub_self]
        split <;> rfl)
      obtain ⟨M', e2, q1, q2⟩ := ih (kk + 1) M1 (by omega) (by omega) r1 (fun k2 a b => by
        by_cases hkk : k2 = kk
        · rw [hkk]
          exact r3
        · rw [r2 k2 hkk, u2ne hkk]
          exact h9 k2 a (by omega))
      refine ⟨M', ?_, q1, q2⟩
      rw [B130_3, hM 76 (by decide) (by decide) (by decide) (by decide), S1, if_neg (nI_nlt (by omega) (by omega)), B130_12 z5, c5, B130_20, hM76, show (1 : Int32) = nI 1 from rfl, pk_sub (by omega), e1, B130_108, nI_1]
      exact e2
  obtain ⟨M, eH, M1, M2⟩ := hH C 1 I (by omega) (Nat.le_refl _) (fun _ _ _ _ _ => rfl) (fun k2 a b => by omega)
  have hst : zd S 130 0 [some (.ref 76), some (.int (nI s)), some (.int (nI f)), some (.int (nI X.length)), some (.int (nI fc')), some (.int (nI fr')), some (.int (nI fst)), none, none, none] [] I J (0, 0) = zd S 130 118 [some (.ref 76), some (.int (nI s)), some (.int (nI f)), some (.int (nI X.length)), some (.int (nI fc')), some (.int (nI fr')), some (.int (nI fst)), some (.int (nI fst)), none, none] [] M J (0, 0) := by
    rw [B130_0, show (1 : Int32) = nI 1 from rfl]
    exact eH
  have hG : M 105 = I 105 := M1 105 (by decide) (by decide) (by decide) (by decide)
  have h76 : M 76 = I 76 := M1 76 (by decide) (by decide) (by decide) (by decide)
  have hSM : mSh M C R := ⟨by rw [h76]; exact S1, by rw [h76]; exact S2, S3, S4⟩
  have hK : ∀ (kk pg : Nat), kk ≤ C → pg < 3 → (∃ w, fdT (fwK (I 105) C R (htF (bdL X) X.length f fc' fr' R) pg) kk = some w ∧ ∃ I', zd S 130 130 [some (.ref 76), none, none, none, none, none, none, some (.int (nI pg)), some (.int (nI kk)), none] [] M J (0, 0) = some (some (.int 1), mk I' J, (0, 0)) ∧ fo76 M I' ∧ I' 76 42 = nI w.1 ∧ I' 76 43 = nI w.2.2.1 ∧ I' 76 44 = nI w.2.2.2 ∧ I' 76 45 = nI w.2.1) ∨ (fdT (fwK (I 105) C R (htF (bdL X) X.length f fc' fr' R) pg) kk = none ∧ zd S 130 130 [some (.ref 76), none, none, none, none, none, none, some (.int (nI pg)), some (.int (nI kk)), none] [] M J (0, 0) = zd S 130 172 [some (.ref 76), none, none, none, none, none, none, some (.int (nI pg)), some (.int (nI 0)), none] [] M J (0, 0)) := by
    intro kk
    induction kk with
    | zero =>
      intro pg _ hpg
      right
      refine ⟨rfl, ?_⟩
      rw [B130_130, if_pos (show nI 0 < 1 by decide)]
    | succ kk ih =>
      intro pg hkk hpg
      have hn1 : ¬ nI (kk + 1) < 1 := nI_nlt (b := 1) (by omega) (by omega)
      have z5 : zin (nI (kk + 1)) 5 = true := zin_n (by omega) (by decide)
      have c5 : (nI (kk + 1)).toNatClampNeg = kk + 1 := nI_clamp (by omega)
      have h9 := M2 (kk + 1) (by omega) hkk
      rw [B130_130, if_neg hn1, B130_136 z5, c5, h9, fdT_e]
      cases hh : htF (bdL X) X.length f fc' fr' R (kk + 1) with
      | none =>
        have hfw : fwK (I 105) C R (htF (bdL X) X.length f fc' fr' R) pg (kk + 1) = none := by unfold fwK; rw [hh]
        rw [hfw, if_pos (show hM1 none ≤ 0 by decide), B130_166, pk_m1]
        exact ih pg (by omega) hpg
      | some h =>
        have hhb := htF_b S4.1 hh
        have hne : ¬ hM1 (some h) ≤ 0 := nI_nle (n := h + 1) (by omega) (by omega)
        obtain ⟨I1, q129, g1, g2, g3⟩ := s129 (S := S) (J := J) (I := M) (pg := pg) (k' := kk + 1) (h := h + 1) hSM hpg (by omega) (by omega)
        rw [hG] at q129 g2 g3
        rw [if_neg hne, B130_146 ⟨rfl, rfl⟩ z5 (by rw [c5, h9, hh]; exact q129), B130_161]
        cases hf' : fnd (I 105) C R pg (kk + 1) (h + 1) with
        | none =>
          have hfw : fwK (I 105) C R (htF (bdL X) X.length f fc' fr' R) pg (kk + 1) = none := by unfold fwK; rw [hh]; dsimp only; rw [hf']; rfl
          rw [hfw, if_pos (show bI (none : Option (Nat × Nat)).isSome = 0 from rfl), B130_166, pk_m1, g2 hf']
          exact ih pg (by omega) hpg
        | some xy =>
          have hfw : fwK (I 105) C R (htF (bdL X) X.length f fc' fr' R) pg (kk + 1) = some (pg, kk + 1, xy.1, xy.2) := by unfold fwK; rw [hh]; dsimp only; rw [hf']; rfl
          left
          rw [hfw]
          obtain ⟨u1, u2', u3, u4⟩ := g3 xy hf'
          refine ⟨(pg, kk + 1, xy.1, xy.2), rfl, I1, ?_, g1, u1, u2', u3, u4⟩
          rw [if_neg (show ¬ bI (some xy).isSome = 0 from (by decide : ¬ bI true = 0)), B130_164 rfl]
  have hPg : ∀ (m pg : Nat) (o1 o2 o3 o4 o5 o6 o8 : Option Value), 3 = pg + m → (∃ w, fsT (fwP (I 105) C R (htF (bdL X) X.length f fc' fr' R)) pg m = some w ∧ ∃ I', zd S 130 118 [some (.ref 76), o1, o2, o3, o4, o5, o6, some (.int (nI pg)), o8, none] [] M J (0, 0) = some (some (.int 1), mk I' J, (0, 0)) ∧ fo76 M I' ∧ I' 76 42 = nI w.1 ∧ I' 76 43 = nI w.2.2.1 ∧ I' 76 44 = nI w.2.2.2 ∧ I' 76 45 = nI w.2.1) ∨ (fsT (fwP (I 105) C R (htF (bdL X) X.length f fc' fr' R)) pg m = none ∧ zd S 130 118 [some (.ref 76), o1, o2, o3, o4, o5, o6, some (.int (nI pg)), o8, none] [] M J (0, 0) = some (some (.int 0), mk M J, (0, 0))) := by
    intro m
    induction m with
    | zero =>
      intro pg o1 o2 o3 o4 o5 o6 o8 hm
      right
      refine ⟨rfl, ?_⟩
      have h3 : (3 : Int32) ≤ nI pg := nI_le (a := 3) (by omega) (by omega)
      rw [B130_118, if_pos h3, B130_178 rfl]
    | succ m ih =>
      intro pg o1 o2 o3 o4 o5 o6 o8 hm
      have h3 : ¬ (3 : Int32) ≤ nI pg := nI_ge (b := 3) (by omega) (by decide)
      rw [B130_118, if_neg h3, B130_124, hSM.1, fsT_e]
      rcases hK C pg (Nat.le_refl _) (by omega) with ⟨w, a1, I', a3, a4⟩ | ⟨a1, a2⟩
      · left
        have : fwP (I 105) C R (htF (bdL X) X.length f fc' fr' R) pg = some w := a1
        rw [this]
        exact ⟨w, rfl, I', a3, a4⟩
      · have : fwP (I 105) C R (htF (bdL X) X.length f fc' fr' R) pg = none := a1
        rw [this, a2, B130_172, nI_1]
        exact ih (pg + 1) none none none none none none (some (.int (nI 0))) (by omega)
  rcases hPg (3 - fst) fst (some (.int (nI s))) (some (.int (nI f))) (some (.int (nI X.length))) (some (.int (nI fc'))) (some (.int (nI fr'))) (some (.int (nI fst))) none (by omega) with ⟨w, a1, I', a3, a4, a5⟩ | ⟨a1, a2⟩
  · have hw : fwF (I 105) C R (htF (bdL X) X.length f fc' fr' R) fst = some w := a1
    rw [hw]
    refine ⟨I', zq_of rfl (hst.trans a3), ⟨fun x b1 b2 b3 b4 b5 => (a4.1 x b1).trans (M1 x b2 b3 b4 b5), fun e he => by rw [a4.2 e he, h76]⟩, fun kk a b => by rw [a4.1 109 (by decide)]; exact M2 kk a b, fun w' hw' => ?_⟩
    cases hw'
    exact a5
  · have hw : fwF (I 105) C R (htF (bdL X) X.length f fc' fr' R) fst = none := a1
    rw [hw]
    exact ⟨M, zq_of rfl (hst.trans a2), ⟨fun x _ b2 b3 b4 b5 => M1 x b2 b3 b4 b5, fun e _ => by rw [h76]⟩, M2, fun w' hw' => by cases hw'⟩
theorem s133 {I : zI} {pg x y k' : Nat} (hS : mSh I C R) (hp : pg < 3) (hx : x ≤ 4) (hy : y < R) (hk : k' ≤ 4) : zq S 133 [.ref 76, .int (nI pg), .int (nI x), .int (nI y), .int (nI k')] I J (some (.int (nI (if x + k' ≤ C then cnF (rwF (I 105) pg x k') y (R - y) else 0)))) I J := by
  have hS' := hS
  obtain ⟨S1, S2, S3, S4⟩ := hS
  have hl : ∀ (m i : Nat), R = y + i + m → zd S 133 3 [some (.ref 76), some (.int (nI pg)), some (.int (nI x)), some (.int (nI y)), some (.int (nI k')), some (.int (nI i))] [] I J (0, 0) = some (some (.int (nI (if x + k' ≤ C then i + cnF (rwF (I 105) pg x k') (y + i) m else i))), mk I J, (0, 0)) := by
    intro m
    induction m with
    | zero =>
      intro i hm
      rw [B133_3, S2, nI_add, if_pos (nI_le (by omega) (by omega)), B133_36]
      have : (if x + k' ≤ C then i + cnF (rwF (I 105) pg x k') (y + i) 0 else i) = i := by split <;> rfl
      rw [this]
    | succ m ih =>
      intro i hm
      have q128 := s128 (S := S) (J := J) (I := I) (C := C) (R := R) (pg := pg) (x := x) (y := y + i) (k' := k') (h := 1) hS' hp (by omega) (by omega) (by omega) (by omega)
      have hfr : x + k' ≤ C → frB (I 105) C R pg x (y + i) k' 1 = rwF (I 105) pg x k' (y + i) := by
        intro hx'
        unfold frB rwF
        rw [decide_eq_true hx', decide_eq_true (by omega : y + i + 1 ≤ R), Bool.true_and, Bool.true_and]
        refine allT_c (fun c _ => ?_)
        show (true && decide (I 105 (64 * pg + 16 * (x + c) + (y + i + 0)) = 0)) = _
        rw [Bool.true_and, Nat.add_zero]
      rw [B133_3, S2, nI_add, if_neg (nI_ge (by omega) (by omega)), B133_14 ⟨rfl, rfl⟩ (by rw [nI_add]; exact q128), B133_27]
      by_cases hx' : x + k' ≤ C
      · rw [hfr hx', if_pos hx']
        unfold cnF
        cases rwF (I 105) pg x k' (y + i) with
        | true =>
          have := ih (i + 1) (by omega)
          rw [if_pos hx'] at this
          rw [if_neg (show ¬ bI true = 0 by decide), B133_30, nI_1, this, if_pos rfl, show y + (i + 1) = y + i + 1 by omega, show i + 1 + cnF (rwF (I 105) pg x k') (y + i + 1) m = i + (cnF (rwF (I 105) pg x k') (y + i + 1) m + 1) by omega]
        | false =>
          rw [if_pos (show bI false = 0 from rfl), B133_36, if_neg (by decide)]
          rfl
      · have hff : frB (I 105) C R pg x (y + i) k' 1 = false := by
          unfold frB
          rw [decide_eq_false hx']
          rfl
        rw [hff, if_pos (show bI false = 0 from rfl), B133_36, if_neg hx']
  refine zq_of rfl ?_
  show zd S 133 0 [some (.ref 76), some (.int (nI pg)), some (.int (nI x)), some (.int (nI y)), some (.int (nI k')), none] [] I J (0, 0) = _
  have h := hl (R - y) 0 (by omega)
  rw [Nat.zero_add, Nat.add_zero] at h
  rw [B133_0, ← nI_0]
  exact h
theorem s134 {I : zI} {k' h : Nat} (hs : s < 4) (hP : mPl I s X fc fr) (hk : k' ≤ 4) (hh : 1 ≤ h) (hh2 : h ≤ 16) :
    ∃ I', zq S 134 [.ref 76, .int (nI s), .int (nI k'), .int (nI h)] I J (some (.int (nI ((if okH (h - 1) fc fr k' 1 = true then spF (bdL X) X.length fc fr k' h else none).getD 0)))) I' J ∧ (∀ x, x ≠ 106 → x ≠ 107 → x ≠ 108 → I' x = I x) := by
  have hn := hP.1
  have zs : zin (nI s) 4 = true := zin_n hs (by decide)
  have cs : (nI s).toNatClampNeg = s := nI_clamp (by omega)
  obtain ⟨I1, q126, f1, f2⟩ := s126 (S := S) (I := I) (J := J) (k' := k') (h := h - 1) (fc := fc) (fr := fr) (less := 1) hk (by omega) hP.2.1 hP.2.2.1 (Nat.le_refl _)
  have hP1 : mPl I1 s X fc fr := mPl_u hP (fun x hx => f1 x (by omega))
  have e1 : nI h - 1 = nI (h - 1) := pk_sub (b := 1) (by omega)
  have hst : zd S 134 0 [some (.ref 76), some (.int (nI s)), some (.int (nI k')), some (.int (nI h)), none, none] [] I J (0, 0) = zd S 134 33 [some (.ref 76), some (.int (nI s)), some (.int (nI k')), some (.int (nI h)), some (.int (bI (okH (h - 1) fc fr k' 1))), some (.int (nI X.length - 2))] [] I1 J (0, 0) := by
    rw [B134_0 ⟨rfl, rfl⟩ zs zs (by rw [cs, hP.2.2.2.2.1, hP.2.2.2.2.2.1, e1]; exact q126), B134_21 zs, cs, hP1.2.2.2.1]
  have hsm : ∀ (x : Int32) (M : zI) (o3 : Option Value) (l4 : Int32), x < 2 → zd S 134 33 [some (.ref 76), some (.int (nI s)), some (.int (nI k')), o3, some (.int l4), some (.int x)] [] M J (0, 0) = some (some (.int (nI 0)), mk M J, (0, 0)) := by
    intro x M o3 l4 hx
    rw [B134_33, if_pos hx, B134_75]
    rfl
  cases hok : okH (h - 1) fc fr k' 1 with
  | false =>
    refine ⟨I1, zq_of rfl (hst.trans ?_), fun x a _ _ => f1 x a⟩
    rw [hok, if_neg (by decide)]
    by_cases hx : nI X.length - 2 < 2
    · exact hsm _ _ _ _ hx
    · rw [B134_33, if_neg hx, B134_39, if_pos (show bI false = 0 from rfl), B134_75]
      rfl
  | true =>
    have hl : ∀ (m : Nat) (M : zI) (o3 : Option Value), m ≤ X.length - 2 → (∀ x, x ≠ 107 → x ≠ 108 → M x = I1 x) → ∃ I', zd S 134 33 [some (.ref 76), some (.int (nI s)), some (.int (nI k')), o3, some (.int (bI true)), some (.int (nI m))] [] M J (0, 0) = some (some (.int (nI ((gsF (fun m => gdF (bdL X) X.length m && pth (rmF (h - 1) fc fr k' 1) (gdF (bdL X) X.length) m 0 k' 0) m).getD 0))), mk I' J, (0, 0)) ∧ (∀ x, x ≠ 107 → x ≠ 108 → I' x = I1 x) := by
      intro m
      induction m with
      | zero =>
        intro M o3 _ hM
        exact ⟨M, hsm _ _ _ _ (show nI 0 < 2 by decide), hM⟩
      | succ m ih =>
        intro M o3 hm hM
        have hg : gsF (fun m => gdF (bdL X) X.length m && pth (rmF (h - 1) fc fr k' 1) (gdF (bdL X) X.length) m 0 k' 0) (m + 1) = if 2 ≤ m + 1 then (if (gdF (bdL X) X.length (m + 1) && pth (rmF (h - 1) fc fr k' 1) (gdF (bdL X) X.length) (m + 1) 0 k' 0) = true then some (m + 1) else gsF (fun m => gdF (bdL X) X.length m && pth (rmF (h - 1) fc fr k' 1) (gdF (bdL X) X.length) m 0 k' 0) m) else none := rfl
        have h2 : nI (m + 1) < 2 ↔ m + 1 < 2 := nI_ltI (b := 2) (by omega) (by decide)
        rw [hg]
        by_cases hlt : m + 1 < 2
        · refine ⟨M, ?_, hM⟩
          rw [hsm _ _ _ _ (h2.mpr hlt), if_neg (by omega)]
          rfl
        · have hge2 : 2 ≤ m + 1 := by omega
          have hPM : mPl M s X fc fr := mPl_u hP1 (fun x hx => hM x (by omega) (by omega))
          have q125 := s125 (S := S) (I := M) (J := J) (i := m + 1) hs hPM (by omega) (by omega)
          have hgd : gdF (bdL X) X.length (m + 1) = !bdL X (m + 1) := by
            unfold gdF
            rw [decide_eq_true (by omega : m + 1 ≤ X.length), Bool.true_and]
          have hpre : zd S 134 33 [some (.ref 76), some (.int (nI s)), some (.int (nI k')), o3, some (.int (bI true)), some (.int (nI (m + 1)))] [] M J (0, 0) = zd S 134 51 [some (.ref 76), some (.int (nI s)), some (.int (nI k')), none, some (.int (bI true)), some (.int (nI (m + 1)))] [.int (bI (bdL X (m + 1)))] M J (0, 0) := by
            rw [B134_33, if_neg (fun z => hlt (h2.mp z)), B134_39, if_neg (show ¬ bI true = 0 by decide), B134_44 ⟨rfl, rfl⟩ q125]
          rw [if_pos hge2]
          cases hb : bdL X (m + 1) with
          | true =>
            obtain ⟨I', e, r⟩ := ih M none (by omega) hM
            refine ⟨I', ?_, r⟩
            rw [hpre, hb, B134_51, if_pos (show ¬ bI true = 0 by decide), B134_69, pk_m1, hgd, hb]
            exact e
          | false =>
            have hgt : gdF (bdL X) X.length (m + 1) = true := by rw [hgd, hb]; rfl
            obtain ⟨M1, q127, g1, g2⟩ := s127 (S := S) (J := J) (I := M) (s := s) (f := 0) (e := m + 1) (k' := k') (X := X) (fc := fc) (fr := fr) (rm := rmF (h - 1) fc fr k' 1) (gd := gdF (bdL X) X.length) ⟨hs, hPM, Nat.zero_le _, by omega, hk, fun c hc => ⟨by rw [hM 106 (by decide) (by decide)]; exact f2 hok c hc, by have := rm_le (h := h - 1) (fc := fc) (fr := fr) (k := k') (less := 1) (c := c); omega⟩, fiH_g gd_0 hgt (by omega)⟩
            have hM1 : ∀ x, x ≠ 107 → x ≠ 108 → M1 x = I1 x := fun x a b => (g1 x a b).trans (hM x a b)
            have q127' : zq S 127 [.ref 76, .int (nI s), .int 0, .int (nI (m + 1)), .int (nI k')] M J (some (.int (bI (pth (rmF (h - 1) fc fr k' 1) (gdF (bdL X) X.length) (m + 1) 0 k' 0)))) M1 J := q127
            have hpre2 : zd S 134 33 [some (.ref 76), some (.int (nI s)), some (.int (nI k')), o3, some (.int (bI true)), some (.int (nI (m + 1)))] [] M J (0, 0) = zd S 134 63 [some (.ref 76), some (.int (nI s)), some (.int (nI k')), none, some (.int (bI true)), some (.int (nI (m + 1)))] [.int (bI (pth (rmF (h - 1) fc fr k' 1) (gdF (bdL X) X.length) (m + 1) 0 k' 0))] M1 J (0, 0) := by
              rw [hpre, hb, B134_51, if_neg (not_not_intro (show bI false = 0 from rfl)), B134_54 ⟨rfl, rfl⟩ q127']
            rw [hgt, Bool.true_and]
            cases hp : pth (rmF (h - 1) fc fr k' 1) (gdF (bdL X) X.length) (m + 1) 0 k' 0 with
            | true =>
              refine ⟨M1, ?_, hM1⟩
              rw [hpre2, hp, B134_63, if_neg (show ¬ bI true = 0 by decide), B134_66, if_pos rfl]
              rfl
            | false =>
              obtain ⟨I', e, r⟩ := ih M1 none (by omega) hM1
              refine ⟨I', ?_, r⟩
              rw [hpre2, hp, B134_63, if_pos (show bI false = 0 from rfl), B134_69, pk_m1, if_neg (by decide)]
              exact e
    rw [if_pos rfl]
    by_cases h2 : 2 ≤ X.length
    · obtain ⟨I', e, r⟩ := hl (X.length - 2) I1 (some (.int (nI h))) (Nat.le_refl _) (fun _ _ _ => rfl)
      refine ⟨I', zq_of rfl (hst.trans ?_), fun x a b c => (r x b c).trans (f1 x a)⟩
      rw [hok, show nI X.length - 2 = nI (X.length - 2) from pk_sub (b := 2) h2]
      exact e
    · refine ⟨I1, zq_of rfl (hst.trans ?_), fun x a _ _ => f1 x a⟩
      have hlt : nI X.length - 2 < 2 := by
        have : X.length = 0 ∨ X.length = 1 := by omega
        rcases this with h | h
        · rw [h]; decide
        · rw [h]; decide
      rw [hok, hsm _ _ _ _ hlt]
      unfold spF
      rw [show X.length - 2 = 0 by omega]
      rfl
end MFIND
