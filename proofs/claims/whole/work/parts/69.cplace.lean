/-! plan: a story is placed, the one side -/
/-- what stands in the cells of part 0 and of part 1 -/
def v0F (b fc fr k h less : Nat) (t li : Nat → Nat) (c r : Nat) : Nat := if less = 1 ∧ c + 1 = k ∧ r + 1 = h then b + 82 else if r = 0 then b + 80 else if r ≤ hiF fc fr c then b + 81 else if r < 1 + hiF fc fr c + t c then b + (li c + (r - (1 + hiF fc fr c))) else 90
def v1F (b : Nat) (t li : Nat → Nat) (c r : Nat) : Nat := if r = 0 then (if c = 0 then b + 83 else 90) else if r < 1 + t c then b + (li c + (r - 1)) else 90
section CPLACE
variable {S : Nat × (Nat → Int32)} {s n fc fr C R : Nat} {bd : Nat → Bool} {k : zK}
/-- the lines of a part are shared out -/
theorem s68 {I : zI} {J : zJ} {q pg x y k' h f m less fc' : Nat} (hs : s < 4) (hq : q < 2) (hP : cPl I J s n fc fr bd) (hV : ptV I (15 + 12 * s + 2 * q) pg x y k' h f m) (hk : k' ≤ 4) (hk0 : 0 < k') (hh0 : 0 < h) (hh : h ≤ 16) (hl : less ≤ 1) (hfm : f + m ≤ n) (hfc : fc' = if f = 0 then fc else 0) (hok : (decide (fc' ≤ k') && okH (h - 1) fc' fr k' less) = true) (hpt : pth (rmF (h - 1) fc' fr k' less) (gdF bd n) (f + m) 0 k' f = true) (hge : gdF bd n (f + m) = true) :
    ∃ I' J', zq S 68 [.ref 65, .ref (7 + 12 * s), .ref (15 + 12 * s + 2 * q), .int (nI less)] I J none I' J' ∧ (∀ z, z ≠ 66 → z ≠ 67 → z ≠ 16 + 12 * s + 2 * q → I' z = I z) ∧ (∀ z, z ≠ 68 → J' z = J z) ∧ (∀ c, c < k' → I' (16 + 12 * s + 2 * q) c = nI (inF (rmF (h - 1) fc' fr k' less) (gdF bd n) f (f + m) k' c)) ∧ (∀ c, k' ≤ c → c < 4 → I' (16 + 12 * s + 2 * q) c = 0) := by
  have hn := hP.1
  obtain ⟨v1, v2, v3, v4, v5, v6, v7⟩ := hV
  obtain ⟨I1, q34, f1, f2, f3⟩ := s34 (S := S) (I := I) (J := J) (f := f) (k' := k') (h := h - 1) (less := less) hs hP (by omega) hk (by omega) hl hfc
  obtain ⟨g1, g2⟩ := f3 hok
  rw [hok] at q34
  have hP1 : cPl I1 J s n fc fr bd := cPl_u hP (by rw [f1 _ (by omega) (by omega)]) (by rw [f1 _ (by omega) (by omega)]) (by rw [f1 _ (by omega) (by omega)]) rfl
  obtain ⟨g, q93, gg1, gg2⟩ := s93 (S := S) (I := I1) (J := J) hs hP1
  obtain ⟨I2, J2, q36, a1, a2, a3, a4⟩ := s36 (S := S) (I := I1) (J := J) (s := s) (q := q) (f := f) (e := f + m) (k' := k') (g := g) (rm := rmF (h - 1) fc' fr k' less) (gd := gdF bd n) hs hq (by omega) hk hk0 (fun c _ => by have := rm_le (h := h - 1) (fc := fc') (fr := fr) (k := k') (less := less) (c := c); omega) g1 g2 gg1 gg2 hge hpt
  refine ⟨I2, J2, ?_, fun z b1 b2 b3 => (a1 z b3).trans (f1 z b1 b2), a2, a3, a4⟩
  refine zq_of rfl ?_
  show zd S 68 0 [some (.ref 65), some (.ref (7 + 12 * s)), some (.ref (15 + 12 * s + 2 * q)), some (.int (nI less))] [] I J (0, 0) = _
  have e5 : nI h - 1 = nI (h - 1) := pk_sub (b := 1) (by omega)
  have w6 : I1 (15 + 12 * s + 2 * q) 6 = nI f := by rw [f1 _ (by omega) (by omega)]; exact v6
  have w7 : I1 (15 + 12 * s + 2 * q) 7 = nI m := by rw [f1 _ (by omega) (by omega)]; exact v7
  rw [B68_0 ⟨rfl, rfl⟩ hs hs hq (by rw [v6, v4, v5, e5]; exact q34), B68_23 hs hs hq, if_neg (show ¬ bI true = 0 by decide), B68_26 ⟨rfl, rfl⟩ hs hs hq q93, w6, w7, nI_add, B68_47 ⟨rfl, rfl⟩ hs hs hq q36, B68_54 hs hs hq]
theorem g66_h {I : zI} {J : zJ} {pg x y k' h f m b : Nat} {l2 : Int32} (hs : s < 4) (hV : ptV I (15 + 12 * s) pg x y k' h f m) (hp : pg < 3) (hx : x + k' ≤ 4) (hy : y + h ≤ 16) (hh0 : 0 < h) (hb0 : 0 < b) (hb : b < 2 ^ 20) : ∀ (m' c : Nat) (M : zI), k' = c + m' → fr71 I M → tkI M → gUp pg x y k' h (I 71) (M 71) (fun c' r' => c' < c ∧ r' = 0) (fun _ _ => nI (b + 80)) → ∃ (M' : zI), zd S 66 33 [some (.ref 65), some (.ref (7 + 12 * s)), some (.int l2), some (.ref (15 + 12 * s + 2 * 0)), some (.int (nI b)), some (.int (nI c)), none] [] M J (0, 0) = zd S 66 78 [some (.ref 65), some (.ref (7 + 12 * s)), some (.int l2), some (.ref (15 + 12 * s + 2 * 0)), some (.int (nI b)), some (.int (nI 0)), none] [] M' J (0, 0) ∧ fr71 I M' ∧ tkI M' ∧ gUp pg x y k' h (I 71) (M' 71) (fun _ r' => r' = 0) (fun _ _ => nI (b + 80)) := by
  obtain ⟨v1, v2, v3, v4, _, _, _⟩ := hV
  have e0 : 15 + 12 * s + 2 * 0 = 15 + 12 * s := rfl
  intro m'
  induction m' with
  | zero =>
    intro c M hm hf ht hu
    have hc : k' = c := by omega
    refine ⟨M, ?_, hf, ht, ?_⟩
    · rw [B66_33 hs (by decide), e0, hf _ (by omega) (by omega), v4, hc, if_pos (nI_le (Nat.le_refl _) (by omega)), ← e0, B66_75 hs (by decide), nI_0]
    · refine ⟨fun c' r' hc' hr' => ?_, hu.2⟩
      have := hu.1 c' r' hc' hr'
      exact ⟨fun z => this.1 ⟨by omega, z⟩, fun z => this.2 (fun w => z w.2)⟩
  | succ m' ih =>
    intro c M hm hf ht hu
    have e1 : M (15 + 12 * s) 1 = nI pg := by rw [hf _ (by omega) (by omega)]; exact v1
    have e2 : M (15 + 12 * s) 2 = nI x := by rw [hf _ (by omega) (by omega)]; exact v2
    have e3 : M (15 + 12 * s) 3 = nI y := by rw [hf _ (by omega) (by omega)]; exact v3
    obtain ⟨M1, q84, a1, a2, a3, a4⟩ := p84 (S := S) (I := M) (J := J) (pg := pg) (x := x) (y := y) (k' := k') (h := h) (c := c) (r := 0) (w := nI (b + 80)) hp hx hy (by omega) hh0 (nI_ne0 (by omega) (by omega)) ht
    have q84' : zq S 84 [.ref 70, .int (M (15 + 12 * s + 2 * 0) 1), .int (M (15 + 12 * s + 2 * 0) 2 + nI c), .int (M (15 + 12 * s + 2 * 0) 3), .int (nI b + 80)] M J none M1 J := by
      rw [e0, e1, e2, e3, nI_add, show (80 : Int32) = nI 80 from rfl, nI_add]
      exact q84
    obtain ⟨M', e, b1, b2, b3⟩ := ih (c + 1) M1 (by omega) (fun z c1 c2 => (a1 z c1 c2).trans (hf z c1 c2)) a2 (gUp_s hu (by omega) hh0 hy a3 a4 (fun c' r' _ _ => by omega))
    refine ⟨M', ?_, b1, b2, b3⟩
    rw [B66_33 hs (by decide), e0, hf _ (by omega) (by omega), v4, if_neg (nI_ge (by omega) (by omega)), ← e0, B66_42 ⟨rfl, rfl⟩ hs (by decide) q84', B66_69 hs (by decide), nI_1]
    exact e
theorem g66_f {I : zI} {J : zJ} {pg x y k' h f m b : Nat} {l2 : Int32} (hs : s < 4) (hV : ptV I (15 + 12 * s) pg x y k' h f m) (hp : pg < 3) (hx : x + k' ≤ 4) (hy : y + h ≤ 16) (hb0 : 0 < b) (hb : b < 2 ^ 20) (hfc : fc ≤ k') (hfr : ∀ c, c < fc → fr + 1 ≤ h) (hfr9 : fr ≤ 9) (h12 : I (7 + 12 * s) 12 = nI fc) (h13 : I (7 + 12 * s) 13 = nI fr) (ht0 : tkI I) :
    ∃ (M' : zI), zd S 66 78 [some (.ref 65), some (.ref (7 + 12 * s)), some (.int l2), some (.ref (15 + 12 * s + 2 * 0)), some (.int (nI b)), some (.int (nI 0)), none] [] I J (0, 0) = zd S 66 141 [some (.ref 65), some (.ref (7 + 12 * s)), some (.int l2), some (.ref (15 + 12 * s + 2 * 0)), some (.int (nI b)), some (.int (nI fc)), none] [] M' J (0, 0) ∧ fr71 I M' ∧ tkI M' ∧ gUp pg x y k' h (I 71) (M' 71) (fun c r => c < fc ∧ 1 ≤ r ∧ r ≤ fr) (fun _ _ => nI (b + 81)) := by
  obtain ⟨v1, v2, v3, v4, _, _, _⟩ := hV
  have e0 : 15 + 12 * s + 2 * 0 = 15 + 12 * s := rfl
  have hR : ∀ (m' c r : Nat) (M : zI), c < fc → fr + 1 = r + m' → 1 ≤ r → fr71 I M → tkI M → gUp pg x y k' h (I 71) (M 71) (fun c' r' => (c' < c ∧ 1 ≤ r' ∧ r' ≤ fr) ∨ (c' = c ∧ 1 ≤ r' ∧ r' < r)) (fun _ _ => nI (b + 81)) → ∃ (M' : zI) (l6 : Int32), zd S 66 90 [some (.ref 65), some (.ref (7 + 12 * s)), some (.int l2), some (.ref (15 + 12 * s + 2 * 0)), some (.int (nI b)), some (.int (nI c)), some (.int (nI r))] [] M J (0, 0) = zd S 66 135 [some (.ref 65), some (.ref (7 + 12 * s)), some (.int l2), some (.ref (15 + 12 * s + 2 * 0)), some (.int (nI b)), some (.int (nI c)), some (.int l6)] [] M' J (0, 0) ∧ fr71 I M' ∧ tkI M' ∧ gUp pg x y k' h (I 71) (M' 71) (fun c' r' => c' < c + 1 ∧ 1 ≤ r' ∧ r' ≤ fr) (fun _ _ => nI (b + 81)) := by
    intro m'
    induction m' with
    | zero =>
      intro c r M hc hm hr1 hf ht hu
      refine ⟨M, nI r, ?_, hf, ht, ?_⟩
      · rw [B66_90 hs (by decide), hf _ (by omega) (by omega), h13, if_pos (nI_lt (by omega) (by omega))]
      · refine ⟨fun c' r' hc' hr' => ?_, hu.2⟩
        have := hu.1 c' r' hc' hr'
        exact ⟨fun z => this.1 (by omega), fun z => this.2 (by omega)⟩
    | succ m' ih =>
      intro c r M hc hm hr1 hf ht hu
      have hfr' := hfr c hc
      have e1 : M (15 + 12 * s) 1 = nI pg := by rw [hf _ (by omega) (by omega)]; exact v1
      have e2 : M (15 + 12 * s) 2 = nI x := by rw [hf _ (by omega) (by omega)]; exact v2
      have e3 : M (15 + 12 * s) 3 = nI y := by rw [hf _ (by omega) (by omega)]; exact v3
      obtain ⟨M1, q84, a1, a2, a3, a4⟩ := p84 (S := S) (I := M) (J := J) (pg := pg) (x := x) (y := y) (k' := k') (h := h) (c := c) (r := r) (w := nI (b + 81)) hp hx hy (by omega) (by omega) (nI_ne0 (by omega) (by omega)) ht
      have q84' : zq S 84 [.ref 70, .int (M (15 + 12 * s + 2 * 0) 1), .int (M (15 + 12 * s + 2 * 0) 2 + nI c), .int (M (15 + 12 * s + 2 * 0) 3 + nI r), .int (nI b + 81)] M J none M1 J := by
        rw [e0, e1, e2, e3, nI_add, nI_add, show (81 : Int32) = nI 81 from rfl, nI_add]
        exact q84
      obtain ⟨M', l6, e, b1, b2, b3⟩ := ih c (r + 1) M1 hc (by omega) (by omega) (fun z c1 c2 => (a1 z c1 c2).trans (hf z c1 c2)) a2 (gUp_s hu (by omega) (by omega) hy a3 a4 (fun c' r' _ _ => by omega))
      refine ⟨M', l6, ?_, b1, b2, b3⟩
      rw [B66_90 hs (by decide), hf _ (by omega) (by omega), h13, if_neg (nI_nlt (by omega) (by omega)), B66_99 ⟨rfl, rfl⟩ hs (by decide) q84', B66_129 hs (by decide), nI_1]
      exact e
  have hC : ∀ (m' c : Nat) (M : zI) (o6 : Option Value), fc = c + m' → fr71 I M → tkI M → gUp pg x y k' h (I 71) (M 71) (fun c' r' => c' < c ∧ 1 ≤ r' ∧ r' ≤ fr) (fun _ _ => nI (b + 81)) → ∃ (M' : zI), zd S 66 78 [some (.ref 65), some (.ref (7 + 12 * s)), some (.int l2), some (.ref (15 + 12 * s + 2 * 0)), some (.int (nI b)), some (.int (nI c)), o6] [] M J (0, 0) = zd S 66 141 [some (.ref 65), some (.ref (7 + 12 * s)), some (.int l2), some (.ref (15 + 12 * s + 2 * 0)), some (.int (nI b)), some (.int (nI fc)), none] [] M' J (0, 0) ∧ fr71 I M' ∧ tkI M' ∧ gUp pg x y k' h (I 71) (M' 71) (fun c r => c < fc ∧ 1 ≤ r ∧ r ≤ fr) (fun _ _ => nI (b + 81)) := by
    intro m'
    induction m' with
    | zero =>
      intro c M o6 hm hf ht hu
      have hc : fc = c := by omega
      refine ⟨M, ?_, hf, ht, by rw [hc]; exact hu⟩
      rw [B66_78 hs (by decide), hf _ (by omega) (by omega), h12, hc, if_pos (nI_le (Nat.le_refl _) (by omega))]
    | succ m' ih =>
      intro c M o6 hm hf ht hu
      obtain ⟨M1, l6, e1, a1, a2, a3⟩ := hR fr c 1 M (by omega) (by omega) (Nat.le_refl _) hf ht (by
        refine ⟨fun c' r' hc' hr' => ?_, hu.2⟩
        have := hu.1 c' r' hc' hr'
        exact ⟨fun z => this.1 (by omega), fun z => this.2 (by omega)⟩)
      obtain ⟨M', e2, b1, b2, b3⟩ := ih (c + 1) M1 (some (.int l6)) (by omega) a1 a2 a3
      refine ⟨M', ?_, b1, b2, b3⟩
      rw [B66_78 hs (by decide), hf _ (by omega) (by omega), h12, if_neg (nI_ge (by omega) (by omega)), B66_87 hs (by decide), show (1 : Int32) = nI 1 from rfl]
      refine Eq.trans e1 ?_
      rw [B66_135 hs (by decide), nI_1]
      exact e2
  exact hC fc 0 I none (by omega) (fun _ _ _ => rfl) ht0 (gUp_0 (fun c r _ _ hh => absurd hh.1 (Nat.not_lt_zero _)))
theorem lo_hi {h c k' less : Nat} (hok : okH h fc fr k' less = true) (hc : c < k') : hiF fc fr c + (if c + 1 = k' then less else 0) ≤ h := by
  unfold okH at hok
  have := allT_i.mp hok c hc
  exact of_decide_eq_true this
theorem rm_hi {h c k' less : Nat} (hok : okH h fc fr k' less = true) (hc : c < k') : rmF h fc fr k' less c + hiF fc fr c + (if c + 1 = k' then less else 0) = h := by
  have := lo_hi hok hc
  unfold rmF lo
  unfold hiF at this ⊢
  omega
theorem s66 {I : zI} {J : zJ} {pg x y k' h m less : Nat} (hs : s < 4) (hP : cPl I J s n fc fr bd) (hV : ptV I (15 + 12 * s) pg x y k' h 0 m) (hnum : I (7 + 12 * s) 0 = nI s) (hp : pg < 3) (hx : x + k' ≤ 4) (hk0 : 0 < k') (hy : y + h ≤ 16) (hh0 : 2 ≤ h) (hl : less ≤ 1) (hm : m ≤ n) (hfc : fc ≤ k') (hok : okH (h - 1) fc fr k' less = true) (hpt : pth (rmF (h - 1) fc fr k' less) (gdF bd n) m 0 k' 0 = true) (hge : gdF bd n m = true) (ht : tkI I) :
    ∃ I' J', zq S 66 [.ref 65, .ref (7 + 12 * s), .int (nI less)] I J none I' J' ∧ (∀ z, z ≠ 66 → z ≠ 67 → z ≠ 71 → z ≠ 72 → z ≠ 16 + 12 * s → I' z = I z) ∧ (∀ z, z ≠ 68 → J' z = J z) ∧ tkI I' ∧ (∀ c, c < k' → I' (16 + 12 * s) c = nI (inF (rmF (h - 1) fc fr k' less) (gdF bd n) 0 m k' c)) ∧ (∀ c, k' ≤ c → c < 4 → I' (16 + 12 * s) c = 0)
      ∧ gUp pg x y k' h (I 71) (I' 71) (fun _ _ => True) (fun c r => nI (v0F (100 * (s + 1)) fc fr k' h less (inF (rmF (h - 1) fc fr k' less) (gdF bd n) 0 m k') (liF (rmF (h - 1) fc fr k' less) (gdF bd n) 0 m k') c r)) := by
  have hn := hP.1
  have e0 : 15 + 12 * s + 2 * 0 = 15 + 12 * s := rfl
  have e0' : 16 + 12 * s + 2 * 0 = 16 + 12 * s := rfl
  obtain ⟨I1, J1, q68, a1, a2, a3, a4⟩ := s68 (S := S) (I := I) (J := J) (q := 0) (f := 0) (m := m) (less := less) (fc' := fc) hs (by decide) hP (by rw [e0]; exact hV) (by omega) hk0 (by omega) (by omega) hl (by omega) rfl (by rw [decide_eq_true hfc, Bool.true_and]; exact hok) (by rw [Nat.zero_add]; exact hpt) (by rw [Nat.zero_add]; exact hge)
  rw [Nat.zero_add] at a3
  rw [e0'] at a1 a3 a4
  generalize hT : inF (rmF (h - 1) fc fr k' less) (gdF bd n) 0 m k' = t at a3
  have htc : ∀ c, c < k' → t c + hiF fc fr c + (if c + 1 = k' then less else 0) ≤ h - 1 := by
    intro c hc
    have h1 := rm_hi hok hc
    have h2 := inF_le (rm := rmF (h - 1) fc fr k' less) (gd := gdF bd n) (f := 0) (e := m) (k := k') (c := c)
    rw [hT] at h2
    omega
  have hV1 : ptV I1 (15 + 12 * s) pg x y k' h 0 m := by
    unfold ptV at hV ⊢
    rw [a1 _ (by omega) (by omega) (by omega)]
    exact hV
  have ht1 : tkI I1 := tkI_u ht (a1 71 (by omega) (by omega) (by omega)) (a1 72 (by omega) (by omega) (by omega))
  have hG1 : I1 71 = I 71 := a1 71 (by omega) (by omega) (by omega)
  have eb : (100 * (I (7 + 12 * s) 0 + 1) : Int32) = nI (100 * (s + 1)) := by rw [hnum, nI_1, show (100 : Int32) = nI 100 from rfl, pk_mul]
  generalize hbb : 100 * (s + 1) = b at eb
  have hb0 : 0 < b := by omega
  have hb20 : b < 2 ^ 20 := by omega
  -- nothing
  obtain ⟨I2, q69, b1, b2, b3⟩ := s69 (S := S) (I := I1) (J := J1) (s := s) (q := 0) hs (by decide) (by rw [e0]; exact hV1) hp hx hy ht1
  have up : ∀ {A B : zI}, fr71 A B → ptV A (15 + 12 * s) pg x y k' h 0 m → ptV B (15 + 12 * s) pg x y k' h 0 m := by
    intro A B hAB hv
    unfold ptV at hv ⊢
    rw [hAB _ (by omega) (by omega)]
    exact hv
  have hV2 := up b1 hV1
  -- the headline
  obtain ⟨I3, e3, c1, c2, c3⟩ := g66_h (S := S) (I := I2) (J := J1) (l2 := nI less) (b := b) hs hV2 hp hx hy (by omega) hb0 hb20 k' 0 I2 (by omega) (fun _ _ _ => rfl) b2 (gUp_0 (fun c r _ _ hh => absurd hh.1 (Nat.not_lt_zero _)))
  have hV3 := up c1 hV2
  -- the figure
  have o7 : ∀ {A B : zI}, fr71 A B → B (7 + 12 * s) = A (7 + 12 * s) := fun hAB => hAB _ (by omega) (by omega)
  have hs3 : I3 (7 + 12 * s) = I (7 + 12 * s) := by rw [o7 c1, o7 b1, a1 _ (by omega) (by omega) (by omega)]
  have h12 : I3 (7 + 12 * s) 12 = nI fc := by rw [hs3]; exact hP.2.2.2.2.1
  have h13 : I3 (7 + 12 * s) 13 = nI fr := by rw [hs3]; exact hP.2.2.2.2.2.1
  have hfrh : ∀ c, c < fc → fr + 1 ≤ h := by
    intro c hc
    have h1 := lo_hi hok (by omega : c < k')
    unfold hiF at h1
    rw [if_pos hc] at h1
    omega
  obtain ⟨I4, e4, d1, d2, d3⟩ := g66_f (S := S) (I := I3) (J := J1) (l2 := nI less) (b := b) (fc := fc) (fr := fr) hs hV3 hp hx hy hb0 hb20 hfc hfrh hP.2.2.1 h12 h13 c2
  have hV4 := up d1 hV3
  -- the lines
  have h16 : ∀ {A B : zI}, fr71 A B → B (16 + 12 * s) = A (16 + 12 * s) := fun hAB => hAB _ (by omega) (by omega)
  have hs4 : I4 (7 + 12 * s) = I (7 + 12 * s) := by rw [o7 d1, hs3]
  obtain ⟨I5, q70, f1, f2, f3⟩ := s70 (S := S) (I := I4) (J := J1) (s := s) (q := 0) (b := b) (fc := fc) (fr := fr) (t := t) hs (by decide) (by rw [e0]; exact hV4) hp hx hy d2 hb0 hb20 (by omega) hP.2.1 hP.2.2.1 (fun c hc => by rw [e0', h16 d1, h16 c1, h16 b1]; exact a3 c hc) (fun c hc => by have := htc c hc; omega)
  have q70' : zq S 70 [.ref 65, .ref (15 + 12 * s + 2 * 0), .int (nI b), .int (I4 (7 + 12 * s) 12), .int (I4 (7 + 12 * s) 13)] I4 J1 none I5 J1 := by
    rw [hs4, hP.2.2.2.2.1, hP.2.2.2.2.2.1]
    exact q70
  have hgo : zd S 66 0 [some (.ref 65), some (.ref (7 + 12 * s)), some (.int (nI less)), none, none, none, none] [] I J (0, 0) = zd S 66 156 [some (.ref 65), some (.ref (7 + 12 * s)), some (.int (nI less)), some (.ref (15 + 12 * s + 2 * 0)), some (.int (nI b)), some (.int (nI fc)), none] [] I5 J1 (0, 0) := by
    rw [B66_0 (p5x := 0) ⟨rfl, rfl⟩ hs (by decide) rfl rfl q68, eb, B66_25 ⟨rfl, rfl⟩ hs (by decide) q69, B66_30 hs (by decide), ← nI_0, e3, e4, B66_141 ⟨rfl, rfl⟩ hs (by decide) q70']
  have hli : ∀ c, liT 0 t c = liF (rmF (h - 1) fc fr k' less) (gdF bd n) 0 m k' c := fun c => by rw [← hT]; exact liT_F c
  -- the cells so far
  have hu2 : gUp pg x y k' h (I 71) (I2 71) (fun _ _ => True) (fun _ _ => 90) := by rw [← hG1]; exact b3
  have hu5 : gUp pg x y k' h (I 71) (I5 71) (fun _ _ => True) (fun c r => nI (v0F b fc fr k' h 0 t (liF (rmF (h - 1) fc fr k' less) (gdF bd n) 0 m k') c r)) := by
    have u3 : gUp pg x y k' h (I 71) (I3 71) (fun _ _ => True) (fun c r => if r = 0 then nI (b + 80) else 90) :=
      gUp_t hu2 c3 (fun c r _ _ hr => ⟨trivial, by rw [if_pos hr]⟩) (fun c r _ _ hr _ => ⟨trivial, by rw [if_neg hr]⟩) (fun c r _ _ _ hn => absurd trivial hn)
    have u4 : gUp pg x y k' h (I 71) (I4 71) (fun _ _ => True) (fun c r => if r = 0 then nI (b + 80) else if r ≤ hiF fc fr c then nI (b + 81) else 90) := by
      refine gUp_t u3 d3 (fun c r _ _ hr => ⟨trivial, ?_⟩) (fun c r _ _ hr _ => ⟨trivial, ?_⟩) (fun c r _ _ _ hn => absurd trivial hn)
      · have : r ≤ hiF fc fr c := by unfold hiF; rw [if_pos hr.1]; exact hr.2.2
        rw [if_neg (by omega), if_pos this]
      · by_cases h0 : r = 0
        · rw [if_pos h0, if_pos h0]
        · have : ¬ r ≤ hiF fc fr c := by
            unfold hiF
            by_cases hcf : c < fc
            · rw [if_pos hcf]
              intro z
              exact hr ⟨hcf, by omega, z⟩
            · rw [if_neg hcf]
              omega
          rw [if_neg h0, if_neg h0, if_neg this]
    refine gUp_t u4 f3 (fun c r _ _ hr => ⟨trivial, ?_⟩) (fun c r _ _ hr _ => ⟨trivial, ?_⟩) (fun c r _ _ _ hn => absurd trivial hn)
    · unfold v0F
      rw [if_neg (by omega), if_neg (by omega), if_neg (by omega), if_pos hr.2, hli]
    · unfold v0F
      rw [if_neg (by omega)]
      by_cases h0 : r = 0
      · rw [if_pos h0, if_pos h0]
      · rw [if_neg h0, if_neg h0]
        by_cases h1 : r ≤ hiF fc fr c
        · rw [if_pos h1, if_pos h1]
        · rw [if_neg h1, if_neg h1, if_neg (fun z => hr ⟨by omega, z⟩)]
          rfl
  have hfr5 : ∀ z, z ≠ 66 → z ≠ 67 → z ≠ 71 → z ≠ 72 → z ≠ 16 + 12 * s → I5 z = I z := fun z g1 g2 g3 g4 g5 => by rw [f1 z g3 g4, d1 z g3 g4, c1 z g3 g4, b1 z g3 g4, a1 z g1 g2 g5]
  have h165 : I5 (16 + 12 * s) = I1 (16 + 12 * s) := by rw [h16 f1, h16 d1, h16 c1, h16 b1]
  by_cases hl1 : less = 0
  · refine ⟨I5, J1, ?_, hfr5, a2, f2, fun c hc => by rw [h165]; exact a3 c hc, fun c u v => by rw [h165]; exact a4 c u v, ?_⟩
    · refine zq_of rfl (hgo.trans ?_)
      rw [hl1, B66_156 hs (by decide), if_pos (by decide), B66_198 hs (by decide)]
    · rw [hl1] at hu5 ⊢
      exact hu5
  · have hl1' : less = 1 := by omega
    obtain ⟨I6, q84, k1, k2, k3, k4⟩ := p84 (S := S) (I := I5) (J := J1) (pg := pg) (x := x) (y := y) (k' := k') (h := h) (c := k' - 1) (r := h - 1) (w := nI (b + 82)) hp hx hy (by omega) (by omega) (nI_ne0 (by omega) (by omega)) f2
    have hV5 := up f1 hV4
    obtain ⟨w1, w2, w3, w4, w5, _, _⟩ := hV5
    have q84' : zq S 84 [.ref 70, .int (I5 (15 + 12 * s + 2 * 0) 1), .int (I5 (15 + 12 * s + 2 * 0) 2 + I5 (15 + 12 * s + 2 * 0) 4 - 1), .int (I5 (15 + 12 * s + 2 * 0) 3 + I5 (15 + 12 * s + 2 * 0) 5 - 1), .int (nI b + 82)] I5 J1 none I6 J1 := by
      rw [e0, w1, w2, w3, w4, w5, nI_add, nI_add, show (1 : Int32) = nI 1 from rfl, pk_sub (by omega), pk_sub (by omega), show (82 : Int32) = nI 82 from rfl, nI_add, show x + k' - 1 = x + (k' - 1) by omega, show y + h - 1 = y + (h - 1) by omega]
      exact q84
    refine ⟨I6, J1, ?_, fun z g1 g2 g3 g4 g5 => by rw [k1 z g3 g4]; exact hfr5 z g1 g2 g3 g4 g5, a2, k2, fun c hc => by rw [h16 k1, h165]; exact a3 c hc, fun c u v => by rw [h16 k1, h165]; exact a4 c u v, ?_⟩
    · refine zq_of rfl (hgo.trans ?_)
      rw [hl1', B66_156 hs (by decide), if_neg (by decide), ← hl1', B66_160 ⟨rfl, rfl⟩ hs (by decide) q84', B66_198 hs (by decide)]
    · have u6 : gUp pg x y k' h (I5 71) (I6 71) (fun c r => c + 1 = k' ∧ r + 1 = h) (fun _ _ => nI (b + 82)) := by
        refine gUp_s (P := fun _ _ => False) (c0 := k' - 1) (r0 := h - 1) (gUp_0 (fun _ _ _ _ z => z)) (by omega) (by omega) hy k3 k4 (fun c r hc hr => ?_)
        constructor
        · intro z
          exact Or.inr ⟨by omega, by omega⟩
        · rintro (z | z)
          · exact absurd z (fun z => z)
          · exact ⟨by omega, by omega⟩
      refine gUp_t hu5 u6 (fun c r _ _ hr => ⟨trivial, ?_⟩) (fun c r _ _ hr _ => ⟨trivial, ?_⟩) (fun c r _ _ _ hn => absurd trivial hn)
      · unfold v0F
        rw [if_pos ⟨hl1', hr.1, hr.2⟩]
      · unfold v0F
        have hz : ¬ (0 = 1 ∧ c + 1 = k' ∧ r + 1 = h) := fun z => by omega
        rw [if_neg (fun z => hr z.2), if_neg hz]
theorem s67 {I : zI} {J : zJ} {pg x y k' h f m : Nat} (hs : s < 4) (hP : cPl I J s n fc fr bd) (hV : ptV I (17 + 12 * s) pg x y k' h f m) (hnum : I (7 + 12 * s) 0 = nI s) (hf0 : f ≠ 0) (hp : pg < 3) (hx : x + k' ≤ 4) (hk0 : 0 < k') (hy : y + h ≤ 16) (hh0 : 2 ≤ h) (hfm : f + m ≤ n) (hok : okH (h - 1) 0 0 k' 0 = true) (hpt : pth (rmF (h - 1) 0 0 k' 0) (gdF bd n) (f + m) 0 k' f = true) (hge : gdF bd n (f + m) = true) (ht : tkI I) :
    ∃ I' J', zq S 67 [.ref 65, .ref (7 + 12 * s)] I J none I' J' ∧ (∀ z, z ≠ 66 → z ≠ 67 → z ≠ 71 → z ≠ 72 → z ≠ 18 + 12 * s → I' z = I z) ∧ (∀ z, z ≠ 68 → J' z = J z) ∧ tkI I' ∧ (∀ c, c < k' → I' (18 + 12 * s) c = nI (inF (rmF (h - 1) 0 0 k' 0) (gdF bd n) f (f + m) k' c)) ∧ (∀ c, k' ≤ c → c < 4 → I' (18 + 12 * s) c = 0)
      ∧ gUp pg x y k' h (I 71) (I' 71) (fun _ _ => True) (fun c r => nI (v1F (100 * (s + 1)) (inF (rmF (h - 1) 0 0 k' 0) (gdF bd n) f (f + m) k') (liF (rmF (h - 1) 0 0 k' 0) (gdF bd n) f (f + m) k') c r)) := by
  have hn := hP.1
  have e0 : 15 + 12 * s + 2 * 1 = 17 + 12 * s := by omega
  have e0' : 16 + 12 * s + 2 * 1 = 18 + 12 * s := by omega
  obtain ⟨I1, J1, q68, a1, a2, a3, a4⟩ := s68 (S := S) (I := I) (J := J) (q := 1) (f := f) (m := m) (less := 0) (fc' := 0) hs (by decide) hP (by rw [e0]; exact hV) (by omega) hk0 (by omega) (by omega) (by omega) (by omega) (by rw [if_neg hf0]) (by rw [decide_eq_true (Nat.zero_le _), Bool.true_and, okH_0]; exact hok) (by rw [rm_0]; exact hpt) hge
  rw [rm_0] at a3
  rw [e0'] at a1 a3 a4
  generalize hT : inF (rmF (h - 1) 0 0 k' 0) (gdF bd n) f (f + m) k' = t at a3
  have htc : ∀ c, c < k' → t c ≤ h - 1 := by
    intro c hc
    have h1 := rm_le (h := h - 1) (fc := 0) (fr := 0) (k := k') (less := 0) (c := c)
    have h2 := inF_le (rm := rmF (h - 1) 0 0 k' 0) (gd := gdF bd n) (f := f) (e := f + m) (k := k') (c := c)
    rw [hT] at h2
    omega
  have hV1 : ptV I1 (17 + 12 * s) pg x y k' h f m := by
    unfold ptV at hV ⊢
    rw [a1 _ (by omega) (by omega) (by omega)]
    exact hV
  have ht1 : tkI I1 := tkI_u ht (a1 71 (by omega) (by omega) (by omega)) (a1 72 (by omega) (by omega) (by omega))
  have hG1 : I1 71 = I 71 := a1 71 (by omega) (by omega) (by omega)
  have eb : (100 * (I (7 + 12 * s) 0 + 1) : Int32) = nI (100 * (s + 1)) := by rw [hnum, nI_1, show (100 : Int32) = nI 100 from rfl, pk_mul]
  generalize hbb : 100 * (s + 1) = b at eb
  obtain ⟨I2, q69, b1, b2, b3⟩ := s69 (S := S) (I := I1) (J := J1) (s := s) (q := 1) hs (by decide) (by rw [e0]; exact hV1) hp hx hy ht1
  have up : ∀ {A B : zI}, fr71 A B → ptV A (17 + 12 * s) pg x y k' h f m → ptV B (17 + 12 * s) pg x y k' h f m := by
    intro A B hAB hv
    unfold ptV at hv ⊢
    rw [hAB _ (by omega) (by omega)]
    exact hv
  have hV2 := up b1 hV1
  obtain ⟨w1, w2, w3, w4, w5, _, _⟩ := hV2
  obtain ⟨I3, q84, c1, c2, c3, c4⟩ := p84 (S := S) (I := I2) (J := J1) (pg := pg) (x := x) (y := y) (k' := k') (h := h) (c := 0) (r := 0) (w := nI (b + 83)) hp hx hy hk0 (by omega) (nI_ne0 (by omega) (by omega)) b2
  have q84' : zq S 84 [.ref 70, .int (I2 (15 + 12 * s + 2 * 1) 1), .int (I2 (15 + 12 * s + 2 * 1) 2), .int (I2 (15 + 12 * s + 2 * 1) 3), .int (nI b + 83)] I2 J1 none I3 J1 := by
    rw [e0, w1, w2, w3, show (83 : Int32) = nI 83 from rfl, nI_add]
    exact q84
  have hV3 := up c1 (up b1 hV1)
  have h16 : ∀ {A B : zI}, fr71 A B → B (18 + 12 * s) = A (18 + 12 * s) := fun hAB => hAB _ (by omega) (by omega)
  have hhi : ∀ c, hiF 0 0 c = 0 := fun c => if_neg (Nat.not_lt_zero _)
  obtain ⟨I4, q70, d1, d2, d3⟩ := s70 (S := S) (I := I3) (J := J1) (s := s) (q := 1) (b := b) (fc := 0) (fr := 0) (t := t) hs (by decide) (by rw [e0]; exact hV3) hp hx hy c2 (by omega) (by omega) (by omega) (by omega) (by omega) (fun c hc => by rw [e0', h16 c1, h16 b1]; exact a3 c hc) (fun c hc => by have := htc c hc; rw [hhi]; omega)
  have hli : ∀ c, liT f t c = liF (rmF (h - 1) 0 0 k' 0) (gdF bd n) f (f + m) k' c := fun c => by rw [← hT]; exact liT_F c
  have hu2 : gUp pg x y k' h (I 71) (I2 71) (fun _ _ => True) (fun _ _ => 90) := by rw [← hG1]; exact b3
  have u3' : gUp pg x y k' h (I2 71) (I3 71) (fun c r => c = 0 ∧ r = 0) (fun _ _ => nI (b + 83)) :=
    gUp_s (P := fun _ _ => False) (c0 := 0) (r0 := 0) (gUp_0 (fun _ _ _ _ z => z)) hk0 (by omega) hy c3 c4 (fun c r _ _ => ⟨fun z => Or.inr z, fun z => by rcases z with z | z; exact absurd z (fun z => z); exact z⟩)
  have u3 : gUp pg x y k' h (I 71) (I3 71) (fun _ _ => True) (fun c r => if c = 0 ∧ r = 0 then nI (b + 83) else 90) :=
    gUp_t hu2 u3' (fun c r _ _ hr => ⟨trivial, by rw [if_pos hr]⟩) (fun c r _ _ hr _ => ⟨trivial, by rw [if_neg hr]⟩) (fun c r _ _ _ hn => absurd trivial hn)
  refine ⟨I4, J1, ?_, fun z g1 g2 g3 g4 g5 => by rw [d1 z g3 g4, c1 z g3 g4, b1 z g3 g4, a1 z g1 g2 g5], a2, d2, fun c hc => by rw [h16 d1, h16 c1, h16 b1]; exact a3 c hc, fun c u v => by rw [h16 d1, h16 c1, h16 b1]; exact a4 c u v, ?_⟩
  · refine zq_of rfl ?_
    show zd S 67 0 [some (.ref 65), some (.ref (7 + 12 * s)), none, none] [] I J (0, 0) = _
    rw [B67_0 (p5x := 1) ⟨rfl, rfl⟩ hs (by decide) rfl (by show some (17 + 12 * s) = some (15 + 12 * s + 2 * 1); congr 1; omega) q68, eb, B67_24 ⟨rfl, rfl⟩ hs (by decide) q69, B67_29 ⟨rfl, rfl⟩ hs (by decide) q84', B67_52 ⟨rfl, rfl⟩ hs (by decide) q70, B67_60 hs (by decide)]
  · refine gUp_t u3 d3 (fun c r _ _ hr => ⟨trivial, ?_⟩) (fun c r _ _ hr _ => ⟨trivial, ?_⟩) (fun c r _ _ _ hn => absurd trivial hn)
    · rw [hhi] at hr
      unfold v1F
      rw [if_neg (by omega), if_pos (by omega), hli, hhi]
    · rw [hhi] at hr
      unfold v1F
      by_cases h0 : r = 0
      · rw [if_pos h0]
        by_cases hc0 : c = 0
        · rw [if_pos hc0, if_pos ⟨hc0, h0⟩]
        · rw [if_neg hc0, if_neg (fun z => hc0 z.1)]
          rfl
      · rw [if_neg h0, if_neg (by omega), if_neg (fun z => h0 z.2)]
        rfl
end CPLACE
