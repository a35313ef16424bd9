/-! plan: do the lines fill the columns, the other side -/
theorem anyT_f {f : Nat → Bool} {t : Nat} : ∀ n, t ≤ n → (∀ x, t ≤ x → x < n → f x = false) → anyT f n = anyT f t := by
  intro n
  induction n with
  | zero => intro h _; rw [show t = 0 by omega]
  | succ n ih =>
    intro h hf
    by_cases ht : t = n + 1
    · rw [ht]
    · show (anyT f n || f n) = _
      rw [ih (by omega) (fun x a b => hf x a (by omega)), hf n (by omega) (by omega), Bool.or_false]
theorem grT_f {f : Nat → Bool} {t : Nat} : ∀ n, t ≤ n → (∀ x, t ≤ x → x < n → f x = false) → grT f n = grT f t := by
  intro n
  induction n with
  | zero => intro h _; rw [show t = 0 by omega]
  | succ n ih =>
    intro h hf
    by_cases ht : t = n + 1
    · rw [ht]
    · show (if f n = true then n else grT f n) = _
      rw [hf n (by omega) (by omega), if_neg (by decide), ih (by omega) (fun x a b => hf x a (by omega))]
section MFILL
variable {S : Nat × (Nat → Int32)} {k : zK} {s fc fr f e k' : Nat} {X : List (Nat × Nat × Nat × Nat)} {rm : Nat → Nat} {gd : Nat → Bool} {J : zJ}
/-- what the filling stands on -/
def fiH (s f e k' : Nat) (X : List (Nat × Nat × Nat × Nat)) (fc fr : Nat) (rm : Nat → Nat) (gd : Nat → Bool) (I0 : zI) : Prop := s < 4 ∧ mPl I0 s X fc fr ∧ f ≤ e ∧ e ≤ X.length ∧ k' ≤ 4 ∧ (∀ c, c < k' → I0 106 c = nI (rm c) ∧ rm c ≤ 15) ∧ (∀ j, f ≤ j → j ≤ e → gd j = (decide (j = f) || (decide (j = e) || !bdL X j)))
/-- a place that a column may end at: to 98 or to 102 -/
theorem g127_g {I0 I : zI} {c i t can : Nat} {cn : Int32} (H : fiH s f e k' X fc fr rm gd I0) (hI : ∀ x, x ≠ 107 → x ≠ 108 → I x = I0 x) (hi : f ≤ i) (ht : i + t ≤ e) (hb : Nat.ble k.1 (mBu 127).1 = true ∧ Nat.ble k.2 (mBu 127).2 = true) :
    zd S 127 69 [some (.ref 76), some (.int (nI s)), some (.int (nI f)), some (.int (nI e)), some (.int (nI k')), some (.int (nI c)), some (.int (nI i)), some (.int cn), some (.int (nI t)), none, none] [] I J k = if gd (i + t) = true then zd S 127 98 [some (.ref 76), some (.int (nI s)), some (.int (nI f)), some (.int (nI e)), some (.int (nI k')), some (.int (nI c)), some (.int (nI i)), some (.int cn), some (.int (nI t)), some (.int (nI (i + t))), none] [] I J k else zd S 127 102 [some (.ref 76), some (.int (nI s)), some (.int (nI f)), some (.int (nI e)), some (.int (nI k')), some (.int (nI c)), some (.int (nI i)), some (.int cn), some (.int (nI t)), some (.int (nI (i + t))), none] [] I J k := by
  obtain ⟨h1, h2, h3, h4, h5, h6, h7⟩ := H
  have hn := h2.1
  have e1 : nI (i + t) = nI f ↔ i + t = f := nI_eq (by omega) (by omega)
  have e2 : nI (i + t) = nI e ↔ i + t = e := nI_eq (by omega) (by omega)
  rw [B127_69, nI_add, h7 (i + t) (by omega) ht]
  by_cases c1 : i + t = f
  · rw [if_pos (e1.mpr c1), decide_eq_true c1, Bool.true_or, if_pos rfl]
  · rw [if_neg (fun z => c1 (e1.mp z)), B127_82, decide_eq_false c1, Bool.false_or]
    by_cases c2 : i + t = e
    · rw [if_pos (e2.mpr c2), decide_eq_true c2, Bool.true_or, if_pos rfl]
    · have q125 := s125 (S := S) (I := I) (J := J) (i := i + t) h1 (mPl_u h2 (fun x hx => hI x (by omega) (by omega))) (by omega) (by omega)
      rw [if_neg (fun z => c2 (e2.mp z)), B127_88 hb q125, B127_95, decide_eq_false c2, Bool.false_or]
      cases bdL X (i + t) with
      | true => rw [if_pos (show ¬ bI true = 0 by decide), if_neg (by decide)]
      | false => rw [if_neg (not_not_intro (show bI false = 0 from rfl)), if_pos (by decide)]
theorem g127_t {I0 I : zI} {c i : Nat} (H : fiH s f e k' X fc fr rm gd I0) (hI : ∀ x, x ≠ 107 → x ≠ 108 → I x = I0 x) (hc : c < k') (hi : f ≤ i) (hie : i ≤ e) (hR : ∀ j, f ≤ j → j ≤ e → I 108 (41 * (c + 1) + j) = bI (pth rm gd e (c + 1) (k' - c - 1) j)) (hb : Nat.ble k.1 (mBu 127).1 = true ∧ Nat.ble k.2 (mBu 127).2 = true) : ∀ (m t : Nat), rm c + 1 = t + m →
    ∃ l8, zd S 127 41 [some (.ref 76), some (.int (nI s)), some (.int (nI f)), some (.int (nI e)), some (.int (nI k')), some (.int (nI c)), some (.int (nI i)), some (.int (bI (anyT (fun t => gd (i + t) && pth rm gd e (c + 1) (k' - c - 1) (i + t)) t))), some (.int (nI t)), none, none] [] I J k = zd S 127 146 [some (.ref 76), some (.int (nI s)), some (.int (nI f)), some (.int (nI e)), some (.int (nI k')), some (.int (nI c)), some (.int (nI i)), some (.int (bI (anyT (fun t => gd (i + t) && pth rm gd e (c + 1) (k' - c - 1) (i + t)) (rm c + 1)))), some (.int l8), none, none] [] I J k := by
  have H' := H
  obtain ⟨h1, h2, h3, h4, h5, h6, h7⟩ := H
  have hn := h2.1
  have hrm := h6 c hc
  have h106 : I 106 c = nI (rm c) := by rw [hI 106 (by decide) (by decide)]; exact hrm.1
  have zc : zin (nI c) 4 = true := zin_n (by omega) (by decide)
  have cc : (nI c).toNatClampNeg = c := nI_clamp (by omega)
  intro m
  induction m with
  | zero =>
    intro t hm
    refine ⟨nI t, ?_⟩
    rw [B127_41, if_neg (nI_ge hc (by omega)), B127_48 zc, cc, h106, if_pos (nI_lt (by omega) (by omega)), show t = rm c + 1 by omega]
  | succ m ih =>
    intro t hm
    by_cases hte : i + t ≤ e
    · obtain ⟨l8, e8⟩ := ih (t + 1) (by omega)
      refine ⟨l8, ?_⟩
      rw [← e8, B127_41, if_neg (nI_ge hc (by omega)), B127_48 zc, cc, h106, if_neg (nI_nlt (by omega) (by omega)), B127_60, nI_add, if_neg (nI_nlt (by omega) (by omega)), g127_g (c := c) (can := 0) H' hI hi hte hb]
      have hany : anyT (fun t => gd (i + t) && pth rm gd e (c + 1) (k' - c - 1) (i + t)) (t + 1) = (anyT (fun t => gd (i + t) && pth rm gd e (c + 1) (k' - c - 1) (i + t)) t || (gd (i + t) && pth rm gd e (c + 1) (k' - c - 1) (i + t))) := rfl
      rw [hany]
      have ei : (41 * (nI c + 1) + nI (i + t) : Int32) = nI (41 * (c + 1) + (i + t)) := by rw [nI_1, show (41 : Int32) = nI 41 from rfl, pk_mul, nI_add]
      have h108 := hR (i + t) (by omega) hte
      cases hcan : anyT (fun t => gd (i + t) && pth rm gd e (c + 1) (k' - c - 1) (i + t)) t with
      | true =>
        rw [Bool.true_or]
        cases gd (i + t) with
        | true => rw [if_pos rfl, B127_98, if_pos (show ¬ bI true = 0 by decide), B127_133, nI_1]; rfl
        | false => rw [if_neg (by decide), B127_102, if_pos (show ¬ bI true = 0 by decide), B127_133, nI_1]; rfl
      | false =>
        rw [Bool.false_or]
        cases gd (i + t) with
        | false => rw [if_neg (by decide), B127_102, if_neg (not_not_intro (show bI false = 0 from rfl)), B127_110, if_pos rfl, B127_137, nI_1, Bool.false_and]; rfl
        | true =>
          rw [if_pos rfl, B127_98, if_neg (not_not_intro (show bI false = 0 from rfl)), B127_110, if_neg (by decide), B127_115 (by rw [ei]; exact zin_n (by omega) (by decide)), ei, nI_clamp (by omega), h108, Bool.true_and]
          cases pth rm gd e (c + 1) (k' - c - 1) (i + t) with
          | true => rw [if_neg (show ¬ bI true = 0 by decide), B127_133, nI_1]; rfl
          | false => rw [if_pos (show bI false = 0 from rfl), B127_137, nI_1]; rfl
    · refine ⟨nI t, ?_⟩
      rw [B127_41, if_neg (nI_ge hc (by omega)), B127_48 zc, cc, h106, if_neg (nI_nlt (by omega) (by omega)), B127_60, nI_add, if_pos (nI_lt (by omega) (by omega)), anyT_f (f := fun t => gd (i + t) && pth rm gd e (c + 1) (k' - c - 1) (i + t)) (t := t) (rm c + 1) (by omega) (fun x h8 _ => by
        cases hp : pth rm gd e (c + 1) (k' - c - 1) (i + x) with
        | false => exact Bool.and_false _
        | true => exact absurd (pth_le _ _ _ hp) (by omega))]
/-- one row of what can be reached -/
theorem g127_r {I0 : zI} {c : Nat} (H : fiH s f e k' X fc fr rm gd I0) (hc : c ≤ k') (hb : Nat.ble k.1 (mBu 127).1 = true ∧ Nat.ble k.2 (mBu 127).2 = true) : ∀ (m i : Nat) (I : zI) (o7 : Option Value), e + 1 = i + m → f ≤ i → (∀ x, x ≠ 107 → x ≠ 108 → I x = I0 x) → (c < k' → ∀ j, f ≤ j → j ≤ e → I 108 (41 * (c + 1) + j) = bI (pth rm gd e (c + 1) (k' - c - 1) j)) → (∀ j, f ≤ j → j < i → I 108 (41 * c + j) = bI (pth rm gd e c (k' - c) j)) →
    ∃ (I' : zI) (l6 : Int32), zd S 127 12 [some (.ref 76), some (.int (nI s)), some (.int (nI f)), some (.int (nI e)), some (.int (nI k')), some (.int (nI c)), some (.int (nI i)), o7, none, none, none] [] I J k = zd S 127 167 [some (.ref 76), some (.int (nI s)), some (.int (nI f)), some (.int (nI e)), some (.int (nI k')), some (.int (nI c)), some (.int l6), none, none, none, none] [] I' J k ∧ (∀ x, x ≠ 108 → I' x = I x) ∧ (∀ x, x < 41 * c + f ∨ 41 * c + e < x → I' 108 x = I 108 x) ∧ (∀ j, f ≤ j → j ≤ e → I' 108 (41 * c + j) = bI (pth rm gd e c (k' - c) j)) := by
  have H' := H
  obtain ⟨h1, h2, h3, h4, h5, h6, h7⟩ := H
  have hn := h2.1
  have eck : nI c = nI k' ↔ c = k' := nI_eq (by omega) (by omega)
  intro m
  induction m with
  | zero =>
    intro i I o7 hm hi hI hR hD
    refine ⟨I, nI i, ?_, fun _ _ => rfl, fun _ _ => rfl, fun j a b => hD j a (by omega)⟩
    rw [B127_12, if_pos (nI_lt (by omega) (by omega))]
  | succ m ih =>
    intro i I o7 hm hi hI hR hD
    have eie : nI i = nI e ↔ i = e := nI_eq (by omega) (by omega)
    -- the cell
    have hcell : ∃ l8, zd S 127 12 [some (.ref 76), some (.int (nI s)), some (.int (nI f)), some (.int (nI e)), some (.int (nI k')), some (.int (nI c)), some (.int (nI i)), o7, none, none, none] [] I J k = zd S 127 146 [some (.ref 76), some (.int (nI s)), some (.int (nI f)), some (.int (nI e)), some (.int (nI k')), some (.int (nI c)), some (.int (nI i)), some (.int (bI (pth rm gd e c (k' - c) i))), some (.int l8), none, none] [] I J k := by
      by_cases hck : c = k'
      · refine ⟨0, ?_⟩
        have hp : pth rm gd e c (k' - c) i = decide (i = e) := by rw [hck, Nat.sub_self]; rfl
        rw [B127_12, if_neg (nI_nlt (by omega) (by omega)), B127_18, if_neg (not_not_intro (eck.mpr hck)), B127_25, hp]
        by_cases hie : i = e
        · rw [if_neg (not_not_intro (eie.mpr hie)), decide_eq_true hie, B127_31, B127_41, if_pos (nI_le (by omega) (by omega))]
          rfl
        · rw [if_pos (fun z => hie (eie.mp z)), decide_eq_false hie, B127_35, B127_41, if_pos (nI_le (by omega) (by omega))]
          rfl
      · have hclt : c < k' := by omega
        obtain ⟨l8, e8⟩ := g127_t (S := S) (J := J) (k := k) (c := c) (i := i) H' hI hclt hi (by omega) (hR hclt) hb (rm c + 1) 0 (by omega)
        refine ⟨l8, ?_⟩
        have hp : pth rm gd e c (k' - c) i = anyT (fun t => gd (i + t) && pth rm gd e (c + 1) (k' - c - 1) (i + t)) (rm c + 1) := by
          rw [show k' - c = (k' - c - 1) + 1 by omega]
          rfl
        rw [B127_12, if_neg (nI_nlt (by omega) (by omega)), B127_18, if_pos (fun z => hck (eck.mp z)), B127_35, hp]
        exact e8
    obtain ⟨l8, e8⟩ := hcell
    have ei : (41 * nI c + nI i : Int32) = nI (41 * c + i) := by rw [show (41 : Int32) = nI 41 from rfl, pk_mul, nI_add]
    obtain ⟨I', l6, e9, r1, r2, r3⟩ := ih (i + 1) (u2 I 108 (41 * c + i) (bI (pth rm gd e c (k' - c) i))) (some (.int (bI (pth rm gd e c (k' - c) i)))) (by omega) (by omega) (fun x a b => by rw [u2n (nbeq b)]; exact hI x a b) (fun hclt j a b => by rw [u2ne (by omega)]; exact hR hclt j a b) (fun j a b => by
      by_cases hj : j = i
      · rw [hj, u2s]
      · rw [u2ne (by omega)]
        exact hD j a (by omega))
    refine ⟨I', l6, ?_, fun x hx => by rw [r1 x hx, u2n (nbeq hx)], fun x hx => by rw [r2 x hx, u2ne (by omega)], r3⟩
    rw [e8, B127_146 (by rw [ei]; exact zin_n (by omega) (by decide)), ei, nI_clamp (by omega), nar_b, B127_161, nI_1]
    exact e9
theorem g127_c {I0 : zI} (H : fiH s f e k' X fc fr rm gd I0) (hb : Nat.ble k.1 (mBu 127).1 = true ∧ Nat.ble k.2 (mBu 127).2 = true) : ∀ (c : Nat) (I : zI) (o6 : Option Value), c ≤ k' → (∀ x, x ≠ 107 → x ≠ 108 → I x = I0 x) → (∀ c', c < c' → c' ≤ k' → ∀ j, f ≤ j → j ≤ e → I 108 (41 * c' + j) = bI (pth rm gd e c' (k' - c') j)) →
    ∃ (I' : zI), zd S 127 4 [some (.ref 76), some (.int (nI s)), some (.int (nI f)), some (.int (nI e)), some (.int (nI k')), some (.int (nI c)), o6, none, none, none, none] [] I J k = zd S 127 179 [some (.ref 76), some (.int (nI s)), some (.int (nI f)), some (.int (nI e)), some (.int (nI k')), some (.int (nI f)), some (.int (nI 0)), none, none, none, none] [] I' J k ∧ (∀ x, x ≠ 108 → I' x = I x) ∧ (∀ c', c' ≤ k' → ∀ j, f ≤ j → j ≤ e → I' 108 (41 * c' + j) = bI (pth rm gd e c' (k' - c') j)) := by
  have H' := H
  obtain ⟨h1, h2, h3, h4, h5, h6, h7⟩ := H
  have hn := h2.1
  have hrow : ∀ (c : Nat) (I : zI) (o6 : Option Value), c ≤ k' → (∀ x, x ≠ 107 → x ≠ 108 → I x = I0 x) → (∀ c', c < c' → c' ≤ k' → ∀ j, f ≤ j → j ≤ e → I 108 (41 * c' + j) = bI (pth rm gd e c' (k' - c') j)) → ∃ (I' : zI) (l6 : Int32), zd S 127 4 [some (.ref 76), some (.int (nI s)), some (.int (nI f)), some (.int (nI e)), some (.int (nI k')), some (.int (nI c)), o6, none, none, none, none] [] I J k = zd S 127 4 [some (.ref 76), some (.int (nI s)), some (.int (nI f)), some (.int (nI e)), some (.int (nI k')), some (.int (nI c + (-1))), some (.int l6), none, none, none, none] [] I' J k ∧ (∀ x, x ≠ 108 → I' x = I x) ∧ (∀ c', c ≤ c' → c' ≤ k' → ∀ j, f ≤ j → j ≤ e → I' 108 (41 * c' + j) = bI (pth rm gd e c' (k' - c') j)) := by
    intro c I o6 hc hI hR
    obtain ⟨I', l6, e1, r1, r2, r3⟩ := g127_r (S := S) (J := J) (k := k) (c := c) H' hc hb (e + 1 - f) f I none (by omega) (Nat.le_refl _) hI (fun hclt j a b => by
      have := hR (c + 1) (by omega) (by omega) j a b
      rwa [show k' - (c + 1) = k' - c - 1 by omega] at this) (fun j a b => by omega)
    refine ⟨I', l6, ?_, r1, fun c' h8 h9 j a b => ?_⟩
    · rw [B127_4, if_neg (nI_pos (by omega)), B127_9, e1, B127_167]
    · by_cases hcc : c' = c
      · rw [hcc]
        exact r3 j a b
      · rw [r2 _ (by omega)]
        exact hR c' (by omega) h9 j a b
  intro c
  induction c with
  | zero =>
    intro I o6 hc hI hR
    obtain ⟨I', l6, e1, r1, r2⟩ := hrow 0 I o6 hc hI hR
    refine ⟨I', ?_, r1, fun c' h8 => r2 c' (Nat.zero_le _) h8⟩
    rw [e1, B127_4, if_pos (show nI 0 + -1 < 0 by decide), B127_173, nI_0]
  | succ c ih =>
    intro I o6 hc hI hR
    obtain ⟨I1, l6, e1, r1, r2⟩ := hrow (c + 1) I o6 hc hI hR
    obtain ⟨I', e2, q1, q2⟩ := ih I1 (some (.int l6)) (by omega) (fun x a b => (r1 x b).trans (hI x a b)) (fun c' a b => r2 c' (by omega) b)
    refine ⟨I', ?_, fun x hx => (q1 x hx).trans (r1 x hx), q2⟩
    rw [e1, pk_m1]
    exact e2
/-- how many lines one column takes -/
theorem g127_k {I0 : zI} {c i : Nat} (H : fiH s f e k' X fc fr rm gd I0) (hc : c < k') (hi : f ≤ i) (hie : i ≤ e) (hb : Nat.ble k.1 (mBu 127).1 = true ∧ Nat.ble k.2 (mBu 127).2 = true) : ∀ (m t : Nat) (I : zI), rm c + 1 = t + m → (∀ x, x ≠ 107 → x ≠ 108 → I x = I0 x) → (∀ j, f ≤ j → j ≤ e → I 108 (41 * (c + 1) + j) = bI (pth rm gd e (c + 1) (k' - c - 1) j)) → I 107 c = nI (grT (fun t => gd (i + t) && pth rm gd e (c + 1) (k' - c - 1) (i + t)) t) →
    ∃ (I' : zI) (l7 : Int32), zd S 127 206 [some (.ref 76), some (.int (nI s)), some (.int (nI f)), some (.int (nI e)), some (.int (nI k')), some (.int (nI i)), some (.int (nI c)), some (.int (nI t)), none, none, none] [] I J k = zd S 127 311 [some (.ref 76), some (.int (nI s)), some (.int (nI f)), some (.int (nI e)), some (.int (nI k')), some (.int (nI i)), some (.int (nI c)), some (.int l7), none, none, none] [] I' J k ∧ (∀ x, x ≠ 107 → I' x = I x) ∧ (∀ x, x ≠ c → I' 107 x = I 107 x) ∧ I' 107 c = nI (tkF rm gd e k' c i) := by
  have H' := H
  obtain ⟨h1, h2, h3, h4, h5, h6, h7⟩ := H
  have hn := h2.1
  have hrm := h6 c hc
  have zc : zin (nI c) 4 = true := zin_n (by omega) (by decide)
  have cc : (nI c).toNatClampNeg = c := nI_clamp (by omega)
  intro m
  induction m with
  | zero =>
    intro t I hm hI hR h107
    refine ⟨I, nI t, ?_, fun _ _ => rfl, fun _ _ => rfl, by rw [h107, show t = rm c + 1 by omega]; rfl⟩
    rw [B127_206 zc, cc, hI 106 (by decide) (by decide), hrm.1, if_pos (nI_lt (by omega) (by omega))]
  | succ m ih =>
    intro t I hm hI hR h107
    by_cases hte : i + t ≤ e
    · have hgr : grT (fun t => gd (i + t) && pth rm gd e (c + 1) (k' - c - 1) (i + t)) (t + 1) = if (gd (i + t) && pth rm gd e (c + 1) (k' - c - 1) (i + t)) = true then t else grT (fun t => gd (i + t) && pth rm gd e (c + 1) (k' - c - 1) (i + t)) t := rfl
      have ei : (41 * (nI c + 1) + nI (i + t) : Int32) = nI (41 * (c + 1) + (i + t)) := by rw [nI_1, show (41 : Int32) = nI 41 from rfl, pk_mul, nI_add]
      have h108 := hR (i + t) (by omega) hte
      have e1 : nI (i + t) = nI f ↔ i + t = f := nI_eq (by omega) (by omega)
      have e2 : nI (i + t) = nI e ↔ i + t = e := nI_eq (by omega) (by omega)
      have hidc : u2 I 107 c (I 107 c) = I := by
        unfold u2
        have : upd (I 107) c (I 107 c) = I 107 := by
          funext z
          unfold upd
          by_cases hz : z = c
          · rw [if_pos hz, hz]
          · rw [if_neg hz]
        rw [this, uc_id]
      -- keep
      have hkeep : (gd (i + t) && pth rm gd e (c + 1) (k' - c - 1) (i + t)) = false → ∀ l9 : Int32, ∃ (I' : zI) (l7 : Int32), zd S 127 297 [some (.ref 76), some (.int (nI s)), some (.int (nI f)), some (.int (nI e)), some (.int (nI k')), some (.int (nI i)), some (.int (nI c)), some (.int (nI t)), some (.int (nI (i + t))), some (.int l9), none] [.int (nI c), .ref 107] I J k = zd S 127 311 [some (.ref 76), some (.int (nI s)), some (.int (nI f)), some (.int (nI e)), some (.int (nI k')), some (.int (nI i)), some (.int (nI c)), some (.int l7), none, none, none] [] I' J k ∧ (∀ x, x ≠ 107 → I' x = I x) ∧ (∀ x, x ≠ c → I' 107 x = I 107 x) ∧ I' 107 c = nI (tkF rm gd e k' c i) := by
        intro hf l9
        obtain ⟨I', l7, e9, r1, r2, r3⟩ := ih (t + 1) I (by omega) hI hR (by rw [hgr, hf, if_neg (by decide)]; exact h107)
        refine ⟨I', l7, ?_, r1, r2, r3⟩
        rw [B127_297 zc zc, cc, hidc, B127_305, nI_1]
        exact e9
      have hset : (gd (i + t) && pth rm gd e (c + 1) (k' - c - 1) (i + t)) = true → ∃ (I' : zI) (l7 : Int32), zd S 127 292 [some (.ref 76), some (.int (nI s)), some (.int (nI f)), some (.int (nI e)), some (.int (nI k')), some (.int (nI i)), some (.int (nI c)), some (.int (nI t)), some (.int (nI (i + t))), some (.int 1), none] [.int (nI c), .ref 107] I J k = zd S 127 311 [some (.ref 76), some (.int (nI s)), some (.int (nI f)), some (.int (nI e)), some (.int (nI k')), some (.int (nI i)), some (.int (nI c)), some (.int l7), none, none, none] [] I' J k ∧ (∀ x, x ≠ 107 → I' x = I x) ∧ (∀ x, x ≠ c → I' 107 x = I 107 x) ∧ I' 107 c = nI (tkF rm gd e k' c i) := by
        intro hf
        obtain ⟨I', l7, e9, r1, r2, r3⟩ := ih (t + 1) (u2 I 107 c (nI t)) (by omega) (fun x a b => by rw [u2n (nbeq a)]; exact hI x a b) (fun j a b => by rw [u2n rfl]; exact hR j a b) (by rw [hgr, hf, if_pos rfl, u2s])
        refine ⟨I', l7, ?_, fun x hx => by rw [r1 x hx, u2n (nbeq hx)], fun x hx => by rw [r2 x hx, u2ne hx], r3⟩
        rw [B127_292 zc, cc, B127_305, nI_1]
        exact e9
      have hto : zd S 127 206 [some (.ref 76), some (.int (nI s)), some (.int (nI f)), some (.int (nI e)), some (.int (nI k')), some (.int (nI i)), some (.int (nI c)), some (.int (nI t)), none, none, none] [] I J k = if gd (i + t) = true then zd S 127 256 [some (.ref 76), some (.int (nI s)), some (.int (nI f)), some (.int (nI e)), some (.int (nI k')), some (.int (nI i)), some (.int (nI c)), some (.int (nI t)), some (.int (nI (i + t))), none, none] [] I J k else zd S 127 260 [some (.ref 76), some (.int (nI s)), some (.int (nI f)), some (.int (nI e)), some (.int (nI k')), some (.int (nI i)), some (.int (nI c)), some (.int (nI t)), some (.int (nI (i + t))), none, none] [] I J k := by
        rw [B127_206 zc, cc, hI 106 (by decide) (by decide), hrm.1, if_neg (nI_nlt (by omega) (by omega)), B127_218, nI_add, if_neg (nI_nlt (by omega) (by omega)), B127_227, nI_add, h7 (i + t) (by omega) hte]
        by_cases c1 : i + t = f
        · rw [if_pos (e1.mpr c1), decide_eq_true c1, Bool.true_or, if_pos rfl]
        · rw [if_neg (fun z => c1 (e1.mp z)), B127_240, decide_eq_false c1, Bool.false_or]
          by_cases c2 : i + t = e
          · rw [if_pos (e2.mpr c2), decide_eq_true c2, Bool.true_or, if_pos rfl]
          · have q125 := s125 (S := S) (I := I) (J := J) (i := i + t) h1 (mPl_u h2 (fun x hx => hI x (by omega) (by omega))) (by omega) (by omega)
            rw [if_neg (fun z => c2 (e2.mp z)), B127_246 hb q125, B127_253, decide_eq_false c2, Bool.false_or]
            cases bdL X (i + t) with
            | true => rw [if_pos (show ¬ bI true = 0 by decide), if_neg (by decide)]
            | false => rw [if_neg (not_not_intro (show bI false = 0 from rfl)), if_pos (by decide)]
      rw [hto]
      cases hg : gd (i + t) with
      | false =>
        rw [if_neg (by decide), B127_260, if_pos (by decide)]
        exact hkeep (by rw [hg]; rfl) 0
      | true =>
        rw [if_pos rfl, B127_256, if_neg (by decide), B127_274 (by rw [ei]; exact zin_n (by omega) (by decide)), ei, nI_clamp (by omega), h108]
        cases hp : pth rm gd e (c + 1) (k' - c - 1) (i + t) with
        | false =>
          rw [if_pos (show bI false = 0 from rfl)]
          exact hkeep (by rw [hg, hp]; rfl) 1
        | true =>
          rw [if_neg (show ¬ bI true = 0 by decide)]
          exact hset (by rw [hg, hp]; rfl)
    · refine ⟨I, nI t, ?_, fun _ _ => rfl, fun _ _ => rfl, ?_⟩
      · rw [B127_206 zc, cc, hI 106 (by decide) (by decide), hrm.1, if_neg (nI_nlt (by omega) (by omega)), B127_218, nI_add, if_pos (nI_lt (by omega) (by omega))]
      · rw [h107]
        unfold tkF
        rw [grT_f (f := fun t => gd (i + t) && pth rm gd e (c + 1) (k' - c - 1) (i + t)) (t := t) (rm c + 1) (by omega) (fun x h8 _ => by
          cases hp : pth rm gd e (c + 1) (k' - c - 1) (i + x) with
          | false => exact Bool.and_false _
          | true => exact absurd (pth_le _ _ _ hp) (by omega))]
theorem s127 {I : zI} (H : fiH s f e k' X fc fr rm gd I) :
    ∃ I', zq S 127 [.ref 76, .int (nI s), .int (nI f), .int (nI e), .int (nI k')] I J (some (.int (bI (pth rm gd e 0 k' f)))) I' J ∧ (∀ x, x ≠ 107 → x ≠ 108 → I' x = I x) ∧ (pth rm gd e 0 k' f = true → ∀ c, c < k' → I' 107 c = nI (inF rm gd f e k' c)) := by
  have H' := H
  obtain ⟨h1, h2, h3, h4, h5, h6, h7⟩ := H
  have hn := h2.1
  obtain ⟨I1, e1, r1, r2⟩ := g127_c (S := S) (J := J) (k := (0, 0)) H' ⟨rfl, rfl⟩ k' I none (Nat.le_refl _) (fun _ _ _ => rfl) (fun c' a b => by omega)
  have hst : zd S 127 0 [some (.ref 76), some (.int (nI s)), some (.int (nI f)), some (.int (nI e)), some (.int (nI k')), none, none, none, none, none, none] [] I J (0, 0) = zd S 127 179 [some (.ref 76), some (.int (nI s)), some (.int (nI f)), some (.int (nI e)), some (.int (nI k')), some (.int (nI f)), some (.int (nI 0)), none, none, none, none] [] I1 J (0, 0) := by
    rw [B127_0]
    exact e1
  have zf : zin (nI f) 205 = true := zin_n (by omega) (by decide)
  have cf : (nI f).toNatClampNeg = f := nI_clamp (by omega)
  have hfin : ∀ (I2 : zI) (l5 l6 : Int32), (∀ x, x ≠ 107 → I2 x = I1 x) → zd S 127 329 [some (.ref 76), some (.int (nI s)), some (.int (nI f)), some (.int (nI e)), some (.int (nI k')), some (.int l5), some (.int l6), none, none, none, none] [] I2 J (0, 0) = some (some (.int (bI (pth rm gd e 0 k' f))), mk I2 J, (0, 0)) := by
    intro I2 l5 l6 hI2
    have h8 : I2 108 f = bI (pth rm gd e 0 k' f) := by
      rw [hI2 108 (by decide)]
      have := r2 0 (Nat.zero_le _) f (Nat.le_refl _) h3
      rw [Nat.mul_zero, Nat.zero_add] at this
      exact this
    rw [B127_329 zf (by rw [cf, h8]; exact bI_z _), cf, h8]
  cases hp : pth rm gd e 0 k' f with
  | false =>
    refine ⟨I1, zq_of rfl (hst.trans ?_), fun x a b => r1 x b, fun z => by cases z⟩
    have h8 : I1 108 f = bI false := by
      have := r2 0 (Nat.zero_le _) f (Nat.le_refl _) h3
      rw [Nat.mul_zero, Nat.zero_add, Nat.sub_zero, hp] at this
      exact this
    have := hfin I1 (nI f) (nI 0) (fun _ _ => rfl)
    rw [hp] at this
    rw [B127_179]
    by_cases hk0 : k' ≤ 0
    · rw [if_pos (nI_le hk0 (by omega))]
      exact this
    · rw [if_neg (nI_ge (by omega) (by omega)), B127_186 zf, cf, h8, if_pos (show bI false = 0 from rfl)]
      exact this
  | true =>
    have hl : ∀ (m c : Nat) (M : zI), k' = c + m → (∀ x, x ≠ 107 → M x = I1 x) → (∀ c', c' < c → M 107 c' = nI (inF rm gd f e k' c')) → ∃ I', zd S 127 179 [some (.ref 76), some (.int (nI s)), some (.int (nI f)), some (.int (nI e)), some (.int (nI k')), some (.int (nI (liF rm gd f e k' c))), some (.int (nI c)), none, none, none, none] [] M J (0, 0) = some (some (.int (bI true)), mk I' J, (0, 0)) ∧ (∀ x, x ≠ 107 → I' x = I1 x) ∧ (∀ c', c' < k' → I' 107 c' = nI (inF rm gd f e k' c')) := by
      intro m
      induction m with
      | zero =>
        intro c M hm hM h9
        have hc : k' = c := by omega
        refine ⟨M, ?_, hM, fun c' h => h9 c' (by omega)⟩
        rw [B127_179, if_pos (nI_le (by omega) (by omega)), hfin M _ _ hM, hp]
      | succ m ih =>
        intro c M hm hM h9
        have hli := liF_p hp c (by omega)
        have zc : zin (nI c) 4 = true := zin_n (by omega) (by decide)
        have cc : (nI c).toNatClampNeg = c := nI_clamp (by omega)
        have h8 : M 108 f = bI true := by
          rw [hM 108 (by decide)]
          have := r2 0 (Nat.zero_le _) f (Nat.le_refl _) h3
          rw [Nat.mul_zero, Nat.zero_add, Nat.sub_zero, hp] at this
          exact this
        obtain ⟨M1, l7, e2, q1, q2, q3⟩ := g127_k (S := S) (J := J) (k := (0, 0)) (c := c) (i := liF rm gd f e k' c) H' (by omega) hli.2.1 hli.2.2 ⟨rfl, rfl⟩ (rm c + 1) 0 (u2 M 107 c 0) (by omega) (fun x a b => by rw [u2n (nbeq a), hM x a, r1 x b]) (fun j a b => by
          rw [u2n rfl, hM 108 (by decide)]
          have := r2 (c + 1) (by omega) j a b
          rwa [show k' - (c + 1) = k' - c - 1 by omega] at this) (by rw [u2s]; rfl)
        obtain ⟨I', e3, t1, t2⟩ := ih (c + 1) M1 (by omega) (fun x hx => by rw [q1 x hx, u2n (nbeq hx)]; exact hM x hx) (fun c' hc' => by
          by_cases hcc : c' = c
          · rw [hcc]
            exact q3
          · rw [q2 c' hcc, u2ne hcc]
            exact h9 c' (by omega))
        refine ⟨I', ?_, t1, t2⟩
        rw [B127_179, if_neg (nI_ge (by omega) (by omega)), B127_186 zf, cf, h8, if_neg (show ¬ bI true = 0 by decide), B127_195 zc, cc, B127_203]
        refine Eq.trans e2 ?_
        rw [B127_311 zc, cc, q3, nI_add, nI_1]
        exact e3
    obtain ⟨I', e3, t1, t2⟩ := hl k' 0 I1 (by omega) (fun _ _ => rfl) (fun c' h => absurd h (Nat.not_lt_zero _))
    exact ⟨I', zq_of rfl (hst.trans e3), fun x a b => (t1 x a).trans (r1 x b), fun _ => t2⟩
end MFILL
