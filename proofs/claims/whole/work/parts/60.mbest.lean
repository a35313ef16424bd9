/-! plan: the best breaks, the other side -/
def mcF (D w q : Nat) : Option Nat := if D < w then none else if q = 2 then (if 2 ≤ D - w then some ((D - w - 2) * (D - w - 2) + 100) else none) else if q = 3 then some 0 else some ((D - w) * (D - w))
theorem mc_cst {D w q v : Nat} (hw : ¬ D < w) (hq : q ≠ 0) : cstF D w q (some v) = (mcF D w q).map (fun x => (if q = 3 then 0 else v) + x) := by
  have h : q = 2 ∨ q = 3 ∨ (q ≠ 2 ∧ q ≠ 3) := by omega
  rcases h with rfl | rfl | ⟨h2, h3⟩
  · unfold cstF mcF
    rw [if_neg hw, if_neg hq, if_pos rfl, if_pos rfl]
    by_cases h3 : 2 ≤ D - w
    · rw [if_pos h3, if_pos h3]
      show some (v + (D - w - 2) * (D - w - 2) + 100) = some (v + ((D - w - 2) * (D - w - 2) + 100))
      rw [Nat.add_assoc]
    · rw [if_neg h3, if_neg h3]
      rfl
  · unfold cstF mcF
    rw [if_neg hw]
    rfl
  · unfold cstF mcF
    rw [if_neg hw, if_neg hq, if_neg h2, if_neg h2, if_neg h3, if_neg h3, if_neg h3]
    rfl
theorem dw_n {D w : Nat} (hD : D ≤ 60) (h : D < w) (hw : w < 2 ^ 20) : ¬ (0 : Int32) ≤ nI D - nI w ∧ ¬ (0 : Int32) ≤ nI D - nI w - 2 := by
  have h1 : (nI D - nI w).toInt = (D : Int) - w := pk_sub_toInt (by omega) (by omega)
  constructor
  · intro z
    rw [Int32.le_iff_toInt_le, h1] at z
    have : (0 : Int32).toInt = 0 := rfl
    omega
  · intro z
    rw [Int32.le_iff_toInt_le, Int32.toInt_sub, h1] at z
    have h0 : (0 : Int32).toInt = 0 := rfl
    have h2 : (2 : Int32).toInt = 2 := rfl
    rw [h2, Int.bmod_eq_of_le (by omega) (by omega)] at z
    omega
section MBEST
variable {S : Nat × (Nat → Int32)} {J : zJ} {k : zK} {D l p : Nat} {W c Q : Nat → Nat}
theorem s122 {I : zI} {w t : Nat} (hD : D ≤ 60) (hw : w < 2 ^ 20) (ht : t ≤ 192) (hl : l ≤ 192) (h2 : I 76 2 = nI D) (h100 : I 100 t = bI (isE (Q t))) (hQ : Q t = 1 ∨ Q t = 2 ∨ Q t = 3) (hlt : t = l ↔ Q t = 3) :
    zq S 122 [.ref 76, .int (nI w), .int (nI t), .int (nI l)] I J (some (.int (oI (mcF D w (Q t))))) I J := by
  refine zq_of rfl ?_
  show zd S 122 0 [some (.ref 76), some (.int (nI w)), some (.int (nI t)), some (.int (nI l)), none] [] I J (0, 0) = _
  have hz : zin (nI t) 193 = true := zin_n (by omega) (by decide)
  have etl : nI t = nI l ↔ t = l := nI_eq (by omega) (by omega)
  rw [B122_0 hz, nI_clamp (by omega), h100, h2]
  unfold mcF
  by_cases hq : Q t = 2
  · have hE : isE (Q t) = false := by rw [hq]; rfl
    rw [hE, if_pos (show bI false = 0 from rfl), B122_19]
    by_cases hdw : D < w
    · rw [if_pos hdw, if_neg (dw_n hD hdw hw).2, B122_28]
      rfl
    · rw [if_neg hdw, if_pos hq, pk_sub (by omega)]
      have e2 : (0 : Int32) ≤ nI (D - w) - 2 ↔ 2 ≤ D - w := le2 _ (by omega)
      by_cases h3 : 2 ≤ D - w
      · have hne : ¬ nI t = nI l := fun z => by have := hlt.mp (etl.mp z); omega
        rw [if_pos h3, if_pos (e2.mpr h3), B122_30, if_pos hne, B122_39 hz, nI_clamp (by omega), h100, hE, if_pos (show bI false = 0 from rfl), B122_57]
        rw [show nI (D - w) - 2 = nI (D - w - 2) from pk_sub (b := 2) h3, pk_mul, show (100 : Int32) = nI 100 from rfl, nI_add]
        rfl
      · rw [if_neg h3, if_neg (fun z => h3 (e2.mp z)), B122_28]
        rfl
  · have hE : isE (Q t) = true := by
      rcases hQ with h | h | h
      · rw [h]; rfl
      · exact absurd h hq
      · rw [h]; rfl
    have s0 : ∀ x : Int32, x - 0 = x := fun x => by simp
    rw [hE, if_neg (show ¬ bI true = 0 by decide), B122_15, s0]
    by_cases hdw : D < w
    · rw [if_pos hdw, if_neg (dw_n hD hdw hw).1, B122_28]
      rfl
    · rw [if_neg hdw, if_neg hq, pk_sub (by omega), if_pos (nI_pos' (by omega)), B122_30]
      by_cases h3 : Q t = 3
      · rw [if_pos h3, if_neg (not_not_intro (etl.mpr (hlt.mpr h3))), B122_35]
        rfl
      · have hne : ¬ nI t = nI l := fun z => h3 (hlt.mp (etl.mp z))
        have a0 : ∀ x : Int32, x + 0 = x := fun x => by simp
        rw [if_neg h3, if_pos hne, B122_39 hz, nI_clamp (by omega), h100, hE, if_neg (show ¬ bI true = 0 by decide), B122_53, pk_mul, a0]
        rfl
theorem xb_c {j : Nat} (hj : 0 < j) : xbF W c Q j = xcF W c Q j + (if Q j = 1 then 3 else 0) := by
  obtain ⟨j', rfl⟩ : ∃ j', j = j' + 1 := ⟨j - 1, by omega⟩
  rfl
theorem xb_m : ∀ (j f : Nat), f < j → xbF W c Q f ≤ xcF W c Q j := by
  intro j
  induction j with
  | zero => intro f h; omega
  | succ j ih =>
    intro f h
    show xbF W c Q f ≤ xbF W c Q j + W (c j - 97)
    by_cases hf : f = j
    · rw [hf]
      omega
    · have h1 := ih f (by omega)
      have h2 := xb_c (W := W) (c := c) (Q := Q) (j := j) (by omega)
      omega
theorem xc_b {n : Nat} (hW : ∀ j, j < n → W (c j - 97) ≤ 9) : ∀ j, j ≤ n → xcF W c Q j ≤ 12 * j ∧ xbF W c Q j ≤ 12 * j := by
  intro j
  induction j with
  | zero => intro _; exact ⟨Nat.le_refl _, Nat.le_refl _⟩
  | succ j ih =>
    intro h
    have h1 := ih (by omega)
    have h2 := hW j (by omega)
    have h3 : xcF W c Q (j + 1) = xbF W c Q j + W (c j - 97) := rfl
    have h4 := xb_c (W := W) (c := c) (Q := Q) (j := j + 1) (by omega)
    have h5 : (if Q (j + 1) = 1 then 3 else 0) ≤ 3 := by split <;> omega
    omega
def bV (b : Option (Nat × Nat)) (I : zI) (f : Nat) : Prop := I 101 f = oI (b.map Prod.fst) ∧ (∀ x, b = some x → I 102 f = nI x.2) ∧ (∀ x, b = some x → x.1 < 2 ^ 30)
def wB (f t : Nat) (xb xc : Nat → Nat) : Nat := if t = f + 1 then 0 else xc (t - 1) - xb f
/-- what the inner loop of the breaks stands on -/
def mbH (D l p f : Nat) (W c Q : Nat → Nat) (r : Nat → Option Nat) (I0 : zI) : Prop :=
  I0 76 2 = nI D ∧ (∀ j, j < l → I0 89 (192 * p + j) = nI (c j) ∧ 97 ≤ c j ∧ c j ≤ 122) ∧ (∀ j, j < 26 → I0 78 j = nI (W j)) ∧ (∀ j, j ≤ l → I0 99 j = bI (decide (Q j ≠ 0)) ∧ I0 100 j = bI (isE (Q j))) ∧ (∀ t, f < t → t < l → I0 101 t = oI (r t) ∧ ∀ v, r t = some v → v < 2 ^ 29) ∧ I0 101 l = 0 ∧ Q l = 3 ∧ (∀ j, j < l → Q j ≤ 2) ∧ (∀ j, j < 26 → W j ≤ 9)
theorem g123_s {f t : Nat} {r : Nat → Option Nat} {b : Option (Nat × Nat)} {I0 I : zI} (hD : D ≤ 60) (hl : l ≤ 192) (hp : p < 20) (H : mbH D l p f W c Q r I0) (hft : f < t) (htl : t ≤ l) (hbg : f = 0 ∨ Q f ≠ 0) (hw : wB f t (xbF W c Q) (xcF W c Q) ≤ D)
    (hI : ∀ x, x ≠ 101 → x ≠ 102 → I x = I0 x) (h101 : ∀ x, x ≠ f → I 101 x = I0 101 x ∧ I 102 x = I0 102 x) (hV : bV b I f) (hb : Nat.ble k.1 (mBu 123).1 = true ∧ Nat.ble k.2 (mBu 123).2 = true) :
    ∃ I', zd S 123 42 [some (.ref 76), some (.int (nI p)), some (.int (nI l)), some (.int (nI f)), some (.int (nI (wB f t (xbF W c Q) (xcF W c Q)))), some (.int (nI t)), none] [] I J k = zd S 123 42 [some (.ref 76), some (.int (nI p)), some (.int (nI l)), some (.int (nI f)), some (.int (nI (xcF W c Q t - xbF W c Q f))), some (.int (nI (t + 1))), none] [] I' J k
      ∧ (∀ x, x ≠ 101 → x ≠ 102 → I' x = I0 x) ∧ (∀ x, x ≠ f → I' 101 x = I0 101 x ∧ I' 102 x = I0 102 x) ∧ bV (if D < xcF W c Q t - xbF W c Q f then b else chN t (cstF D (xcF W c Q t - xbF W c Q f) (Q t) (r t)) b) I' f := by
  obtain ⟨H1, H2, H3, H4, H5, H6, H7, H8, H9⟩ := H
  have hWc : ∀ j, j < l → W (c j - 97) ≤ 9 := fun j hj => H9 _ (by have := (H2 j hj).2; omega)
  have hxb := xc_b (W := W) (c := c) (Q := Q) hWc
  obtain ⟨t', rfl⟩ : ∃ t', t = t' + 1 := ⟨t - 1, by omega⟩
  have hc := H2 t' (by omega)
  have hxm := xb_m (W := W) (c := c) (Q := Q) (t' + 1) f hft
  have hxl := (hxb (t' + 1) htl).1
  have hxt : xcF W c Q (t' + 1) = xbF W c Q t' + W (c t' - 97) := rfl
  generalize hg : xcF W c Q (t' + 1) - xbF W c Q f = g
  have h76 : I 76 2 = nI D := by rw [hI 76 (by decide) (by decide)]; exact H1
  have ei : (192 * nI p + nI (t' + 1) - 1 : Int32) = nI (192 * p + t') := by
    rw [show (192 : Int32) = nI 192 from rfl, pk_mul, nI_add, show (1 : Int32) = nI 1 from rfl, pk_sub (by omega)]
    congr 1
  have e89 : I 89 (192 * p + t') = nI (c t') := by rw [hI 89 (by decide) (by decide)]; exact hc.1
  have e97 : nI (c t') - 97 = nI (c t' - 97) := pk_sub (b := 97) hc.2.1
  have e78 : I 78 (c t' - 97) = nI (W (c t' - 97)) := by rw [hI 78 (by decide) (by decide)]; exact H3 _ (by omega)
  have e99 : ∀ j, j ≤ l → I 99 j = bI (decide (Q j ≠ 0)) ∧ I 100 j = bI (isE (Q j)) := fun j hj => by rw [hI 99 (by decide) (by decide), hI 100 (by decide) (by decide)]; exact H4 j hj
  have hQt : Q (t' + 1) ≤ 3 := by
    by_cases h : t' + 1 = l
    · rw [h, H7]
      exact Nat.le_refl _
    · have := H8 (t' + 1) (by omega)
      omega
  have hg20 : g < 2 ^ 20 := by omega
  have zt : zin (nI (t' + 1)) 193 = true := zin_n (by omega) (by decide)
  have zf : zin (nI f) 193 = true := zin_n (by omega) (by decide)
  have ct : (nI (t' + 1)).toNatClampNeg = t' + 1 := nI_clamp (by omega)
  have cf : (nI f).toNatClampNeg = f := nI_clamp (by omega)
  -- to 70
  have h1 : zd S 123 42 [some (.ref 76), some (.int (nI p)), some (.int (nI l)), some (.int (nI f)), some (.int (nI (wB f (t' + 1) (xbF W c Q) (xcF W c Q)))), some (.int (nI (t' + 1))), none] [] I J k = zd S 123 70 [some (.ref 76), some (.int (nI p)), some (.int (nI l)), some (.int (nI f)), some (.int (nI (wB f (t' + 1) (xbF W c Q) (xcF W c Q)))), some (.int (nI (t' + 1))), none] [] I J k := by
    rw [B123_42, if_neg (nI_nlt (by omega) (by omega)), B123_48, h76, if_neg (nI_nlt (by omega) (by omega)), B123_57]
    by_cases hf0 : f = 0
    · rw [hf0, if_pos nI_0]
    · have hq0 : Q f ≠ 0 := by
        rcases hbg with h | h
        · exact absurd h hf0
        · exact h
      rw [if_neg (nI_ne0 (by omega) (by omega)), B123_61 zf, cf, (e99 f (by omega)).1, decide_eq_true hq0, if_neg (show ¬ bI true = 0 by decide)]
  -- to 116/120 with the new width
  have htail : ∀ v : Int32, v = nI g → (if I 99 (t' + 1) = 0 then zd S 123 156 [some (.ref 76), some (.int (nI p)), some (.int (nI l)), some (.int (nI f)), some (.int v), some (.int (nI (t' + 1))), none] [] I J k else zd S 123 134 [some (.ref 76), some (.int (nI p)), some (.int (nI l)), some (.int (nI f)), some (.int v), some (.int (nI (t' + 1))), none] [] I J k) = (if I 99 (t' + 1) = 0 then zd S 123 156 [some (.ref 76), some (.int (nI p)), some (.int (nI l)), some (.int (nI f)), some (.int (nI g)), some (.int (nI (t' + 1))), none] [] I J k else zd S 123 134 [some (.ref 76), some (.int (nI p)), some (.int (nI l)), some (.int (nI f)), some (.int (nI g)), some (.int (nI (t' + 1))), none] [] I J k) := by
    rintro v rfl
    rfl
  have h2 : zd S 123 70 [some (.ref 76), some (.int (nI p)), some (.int (nI l)), some (.int (nI f)), some (.int (nI (wB f (t' + 1) (xbF W c Q) (xcF W c Q)))), some (.int (nI (t' + 1))), none] [] I J k = (if I 99 (t' + 1) = 0 then zd S 123 156 [some (.ref 76), some (.int (nI p)), some (.int (nI l)), some (.int (nI f)), some (.int (nI g)), some (.int (nI (t' + 1))), none] [] I J k else zd S 123 134 [some (.ref 76), some (.int (nI p)), some (.int (nI l)), some (.int (nI f)), some (.int (nI g)), some (.int (nI (t' + 1))), none] [] I J k) := by
    have a0 : ∀ x : Int32, x + 0 = x := fun x => by simp
    rw [B123_70 (by rw [ei]; exact zin_n (by omega) (by decide)) (by rw [ei, nI_clamp (by omega), e89, e97]; exact zin_n (by omega) (by decide)), ei, nI_clamp (n := 192 * p + t') (by omega), e89, e97, nI_clamp (n := c t' - 97) (by omega), e78, nI_1, nI_add]
    by_cases htf : t' + 1 = f + 1
    · have hw0 : wB f (t' + 1) (xbF W c Q) (xcF W c Q) = 0 := if_pos htf
      have htf' : t' = f := by omega
      rw [if_pos (nI_le (by omega) (by omega)), B123_120 zt, ct, hw0]
      refine htail _ ?_
      rw [a0]
      congr 1
      rw [← hg, hxt, htf']
      omega
    · have hw0 : wB f (t' + 1) (xbF W c Q) (xcF W c Q) = xcF W c Q t' - xbF W c Q f := by
        unfold wB
        rw [if_neg htf, show t' + 1 - 1 = t' by omega]
      have hxm' := xb_m (W := W) (c := c) (Q := Q) t' f (by omega)
      have hxbt := xb_c (W := W) (c := c) (Q := Q) (j := t') (by omega)
      have e1 : (nI (t' + 1) - 1 : Int32) = nI t' := by rw [show (1 : Int32) = nI 1 from rfl, pk_sub (by omega)]; rfl
      rw [if_neg (nI_ge (by omega) (by omega)), B123_104 (by rw [e1]; exact zin_n (by omega) (by decide)), e1, nI_clamp (n := t') (by omega), (e99 t' (by omega)).2, hw0]
      by_cases hq1 : Q t' = 1
      · rw [if_pos hq1] at hxbt
        rw [hq1, if_neg (show ¬ bI (isE 1) = 0 by decide), B123_116 zt, ct]
        refine htail _ ?_
        rw [show (3 : Int32) = nI 3 from rfl, nI_add]
        congr 1
        omega
      · rw [if_neg hq1] at hxbt
        have hE : isE (Q t') = false := by
          have := H8 t' (by omega)
          unfold isE
          rw [decide_eq_false hq1, decide_eq_false (by omega)]
          rfl
        rw [hE, if_pos (show bI false = 0 from rfl), B123_120 zt, ct]
        refine htail _ ?_
        rw [a0]
        congr 1
        omega
  -- no line ends here
  have hno : ∀ x : Int32, zd S 123 216 [some (.ref 76), some (.int (nI p)), some (.int (nI l)), some (.int (nI f)), some (.int (nI g)), some (.int (nI (t' + 1))), some (.int x)] [] I J k = zd S 123 42 [some (.ref 76), some (.int (nI p)), some (.int (nI l)), some (.int (nI f)), some (.int (nI g)), some (.int (nI (t' + 1 + 1))), none] [] I J k := by
    intro x
    rw [B123_216, nI_1]
  have h156 : zd S 123 156 [some (.ref 76), some (.int (nI p)), some (.int (nI l)), some (.int (nI f)), some (.int (nI g)), some (.int (nI (t' + 1))), none] [] I J k = zd S 123 42 [some (.ref 76), some (.int (nI p)), some (.int (nI l)), some (.int (nI f)), some (.int (nI g)), some (.int (nI (t' + 1 + 1))), none] [] I J k := by
    rw [B123_156, if_pos (by decide), hno]
  rw [h1, h2, (e99 (t' + 1) htl).1]
  by_cases hq0 : Q (t' + 1) = 0
  · refine ⟨I, ?_, hI, h101, ?_⟩
    · rw [hq0, if_pos (show bI (decide (0 ≠ 0)) = 0 by decide), h156]
    · have : (if D < g then b else chN (t' + 1) (cstF D g (Q (t' + 1)) (r (t' + 1))) b) = b := by
        rw [hq0, cst0]
        by_cases h : D < g
        · rw [if_pos h]
        · rw [if_neg h]
          rfl
      rw [this]
      exact hV
  · rw [decide_eq_true hq0, if_neg (show ¬ bI true = 0 by decide), B123_134 zt, ct, (h101 (t' + 1) (by omega)).1]
    -- the rest behind it
    have hrest : (∃ v, I0 101 (t' + 1) = nI v ∧ v < 2 ^ 29 ∧ (Q (t' + 1) = 3 ∧ v = 0 ∨ Q (t' + 1) ≠ 3 ∧ r (t' + 1) = some v)) ∨ (I0 101 (t' + 1) = -1 ∧ r (t' + 1) = none ∧ Q (t' + 1) ≠ 3) := by
      by_cases hl' : t' + 1 = l
      · left
        refine ⟨0, by rw [hl', H6]; rfl, by decide, Or.inl ⟨by rw [hl', H7], rfl⟩⟩
      · have h5 := H5 (t' + 1) (by omega) (by omega)
        have h8 := H8 (t' + 1) (by omega)
        cases hr : r (t' + 1) with
        | none =>
          right
          refine ⟨by rw [h5.1, hr]; rfl, rfl, by omega⟩
        | some v =>
          left
          exact ⟨v, by rw [h5.1, hr]; rfl, h5.2 v hr, Or.inr ⟨by omega, rfl⟩⟩
    rcases hrest with ⟨v, v1, v2', v3⟩ | ⟨n1, n2, n3⟩
    · have hcst : ¬ D < g → cstF D g (Q (t' + 1)) (r (t' + 1)) = (mcF D g (Q (t' + 1))).map (fun x => v + x) := by
        intro hdg
        rcases v3 with ⟨v3, v4⟩ | ⟨v3, v4⟩
        · rw [v3, v4]
          unfold mcF
          rw [if_neg hdg]
          rfl
        · rw [v4, mc_cst hdg hq0, if_neg v3]
      have q122 := s122 (S := S) (J := J) (I := I) (D := D) (l := l) (Q := Q) (w := g) (t := t' + 1) hD hg20 (by omega) hl h76 (e99 (t' + 1) htl).2 (by omega) ⟨fun h => by rw [h, H7], fun h => by
        by_cases h' : t' + 1 = l
        · exact h'
        · have := H8 (t' + 1) (by omega)
          omega⟩
      rw [v1, if_neg (nI_pos (by omega)), B123_144 hb q122, B123_153]
      cases hmc : mcF D g (Q (t' + 1)) with
      | none =>
        refine ⟨I, ?_, hI, h101, ?_⟩
        · rw [if_pos (show oI none < 0 by decide), hno]
        · have : (if D < g then b else chN (t' + 1) (cstF D g (Q (t' + 1)) (r (t' + 1))) b) = b := by
            by_cases h : D < g
            · rw [if_pos h]
            · rw [if_neg h, hcst h, hmc]
              rfl
          rw [this]
          exact hV
      | some x =>
        have hdg : ¬ D < g := by
          intro h
          unfold mcF at hmc
          rw [if_pos h] at hmc
          cases hmc
        have hx : x ≤ 3700 := by
          have hsq : (D - g) * (D - g) ≤ 60 * 60 := Nat.mul_le_mul (by omega) (by omega)
          have hsq2 : (D - g - 2) * (D - g - 2) ≤ 60 * 60 := Nat.mul_le_mul (by omega) (by omega)
          unfold mcF at hmc
          rw [if_neg hdg] at hmc
          repeat' split at hmc
          all_goals first | cases hmc | skip
          all_goals omega
        have hox : oI (some x) = nI x := rfl
        have hcs2 : cstF D g (Q (t' + 1)) (r (t' + 1)) = some (v + x) := by rw [hcst hdg, hmc]; rfl
        have hxv : nI x + nI v = nI (v + x) := by rw [nI_add, Nat.add_comm]
        rw [hox, if_neg (nI_pos (by omega)), B123_164 zf, cf, hV.1, if_neg hdg, hcs2]
        have hset : ∃ I', zd S 123 192 [some (.ref 76), some (.int (nI p)), some (.int (nI l)), some (.int (nI f)), some (.int (nI g)), some (.int (nI (t' + 1))), some (.int (nI x))] [] I J k = zd S 123 42 [some (.ref 76), some (.int (nI p)), some (.int (nI l)), some (.int (nI f)), some (.int (nI g)), some (.int (nI (t' + 1 + 1))), none] [] I' J k ∧ (∀ x, x ≠ 101 → x ≠ 102 → I' x = I0 x) ∧ (∀ x, x ≠ f → I' 101 x = I0 101 x ∧ I' 102 x = I0 102 x) ∧ bV (some (v + x, t' + 1)) I' f := by
          refine ⟨u2 (u2 I 101 f (nI (v + x))) 102 f (nI (t' + 1)), ?_, fun y a1 a2 => by rw [u2n (nbeq a2), u2n (nbeq a1)]; exact hI y a1 a2, ?_, ?_, ?_, ?_⟩
          · rw [B123_192 zt zf, ct, cf, (h101 (t' + 1) (by omega)).1, v1, hxv, B123_208 zf, cf, B123_216, nI_1]
          · intro y hy
            rw [u2n rfl, u2ne hy, u2ne hy, u2n rfl]
            exact h101 y hy
          · rw [u2n rfl, u2s]
            rfl
          · intro y hy
            cases hy
            rw [u2s]
          · intro y hy
            cases hy
            show v + x < 2 ^ 30
            omega
        cases hb' : b with
        | none =>
          obtain ⟨I', e, r1, r2, r3⟩ := hset
          refine ⟨I', ?_, r1, r2, r3⟩
          rw [if_pos (show oI ((none : Option (Nat × Nat)).map Prod.fst) < 0 by decide)]
          exact e
        | some y =>
          have hyb := hV.2.2 y hb'
          have hoy : oI ((some y).map Prod.fst) = nI y.1 := rfl
          have e1 : nI y.1 < nI (v + x) ↔ y.1 < v + x := nI_ltI (by omega) (by omega)
          rw [hoy, if_neg (nI_pos (by omega)), B123_173 zt zf, ct, cf, (h101 (t' + 1) (by omega)).1, v1, hxv, hV.1, hb', hoy]
          have hch : chN (t' + 1) (some (v + x)) (some y) = if y.1 < v + x then some y else some (v + x, t' + 1) := rfl
          rw [hch]
          by_cases hlt : y.1 < v + x
          · refine ⟨I, ?_, hI, h101, ?_⟩
            · rw [if_pos (e1.mpr hlt), hno]
            · rw [if_pos hlt, ← hb']
              exact hV
          · obtain ⟨I', e, r1, r2, r3⟩ := hset
            refine ⟨I', ?_, r1, r2, ?_⟩
            · rw [if_neg (fun z => hlt (e1.mp z))]
              exact e
            · rw [if_neg hlt]
              exact r3
    · refine ⟨I, ?_, hI, h101, ?_⟩
      · rw [n1, if_pos (by decide), h156]
      · have : (if D < g then b else chN (t' + 1) (cstF D g (Q (t' + 1)) (r (t' + 1))) b) = b := by
          by_cases h : D < g
          · rw [if_pos h]
          · rw [if_neg h, n2]
            have hz : cstF D g (Q (t' + 1)) none = none := by
              unfold cstF
              rw [if_neg hq0]
              by_cases h2 : Q (t' + 1) = 2
              · rw [if_pos h2]
                split <;> rfl
              · rw [if_neg h2, if_neg n3]
                rfl
            rw [hz]
            rfl
        rw [this]
        exact hV
theorem g123_i {f : Nat} {r : Nat → Option Nat} {I0 : zI} (hD : D ≤ 60) (hl : l ≤ 192) (hp : p < 20) (H : mbH D l p f W c Q r I0) (hfl : f < l) (hbg : f = 0 ∨ Q f ≠ 0) (hb : Nat.ble k.1 (mBu 123).1 = true ∧ Nat.ble k.2 (mBu 123).2 = true) :
    ∀ (m t w : Nat) (b : Option (Nat × Nat)) (I : zI), l + 1 = t + m → f < t → (D < w ∧ w < 2 ^ 20 ∧ f + 1 < t ∧ w = xcF W c Q (t - 1) - xbF W c Q f ∨ w = wB f t (xbF W c Q) (xcF W c Q) ∧ w ≤ D) → (∀ x, x ≠ 101 → x ≠ 102 → I x = I0 x) → (∀ x, x ≠ f → I 101 x = I0 101 x ∧ I 102 x = I0 102 x) → bV b I f →
      ∃ (I' : zI) (l4 l5 : Int32), zd S 123 42 [some (.ref 76), some (.int (nI p)), some (.int (nI l)), some (.int (nI f)), some (.int (nI w)), some (.int (nI t)), none] [] I J k = zd S 123 222 [some (.ref 76), some (.int (nI p)), some (.int (nI l)), some (.int (nI f)), some (.int l4), some (.int l5), none] [] I' J k
        ∧ (∀ x, x ≠ 101 → x ≠ 102 → I' x = I0 x) ∧ (∀ x, x ≠ f → I' 101 x = I0 101 x ∧ I' 102 x = I0 102 x) ∧ bV (if D < w then b else chL D (fun t => xcF W c Q t - xbF W c Q f) Q r t m b) I' f := by
  intro m
  induction m with
  | zero =>
    intro t w b I hm hft hw hI h101 hV
    refine ⟨I, nI w, nI t, ?_, hI, h101, ?_⟩
    · rw [B123_42, if_pos (nI_lt (by omega) (by omega))]
    · have : (if D < w then b else chL D (fun t => xcF W c Q t - xbF W c Q f) Q r t 0 b) = b := by split <;> rfl
      rw [this]
      exact hV
  | succ m ih =>
    intro t w b I hm hft hw hI h101 hV
    rcases hw with ⟨hw1, hw2, hw3, _⟩ | ⟨hw1, hw2⟩
    · have h76 : I 76 2 = nI D := by rw [hI 76 (by decide) (by decide)]; exact H.1
      refine ⟨I, nI w, nI t, ?_, hI, h101, ?_⟩
      · rw [B123_42, if_neg (nI_nlt (by omega) (by omega)), B123_48, h76, if_pos (nI_lt hw1 (by omega))]
      · rw [if_pos hw1]
        exact hV
    · obtain ⟨I1, e1, f1, f2, f3⟩ := g123_s (S := S) (J := J) (k := k) (t := t) hD hl hp H hft (by omega) hbg (by rw [← hw1]; exact hw2) hI h101 hV hb
      have hWc : ∀ j, j < l → W (c j - 97) ≤ 9 := fun j hj => H.2.2.2.2.2.2.2.2 _ (by have := (H.2.1 j hj).2; omega)
      have hxl := (xc_b (W := W) (c := c) (Q := Q) hWc t (by omega)).1
      obtain ⟨I2, l4, l5, e2, g1, g2, g3⟩ := ih (t + 1) (xcF W c Q t - xbF W c Q f) _ I1 (by omega) (by omega) (by
        by_cases h : D < xcF W c Q t - xbF W c Q f
        · left
          exact ⟨h, by omega, by omega, rfl⟩
        · right
          refine ⟨?_, by omega⟩
          unfold wB
          rw [if_neg (by omega)]
          rfl) f1 f2 f3
      refine ⟨I2, l4, l5, ?_, g1, g2, ?_⟩
      · rw [hw1, e1, e2]
      · rw [if_neg (by omega), chL]
        by_cases h : D < xcF W c Q t - xbF W c Q f
        · rw [if_pos h, if_pos h] at g3
          rw [if_pos h]
          exact g3
        · rw [if_neg h, if_neg h] at g3
          rw [if_neg h]
          exact g3
end MBEST
