/-! plan: columns and their rooms, the one side -/
theorem tb_mul (a t j : Nat) : (a * 2 ^ t).testBit j = (decide (t ≤ j) && a.testBit (j - t)) := by
  rw [← Nat.shiftLeft_eq, Nat.testBit_shiftLeft]
theorem tb_div (a t j : Nat) : (a / 2 ^ t).testBit j = a.testBit (t + j) := by
  rw [← Nat.shiftRight_eq_div_pow, Nat.testBit_shiftRight]
theorem tb_lt {a m j : Nat} (h : a < 2 ^ m) (hj : a.testBit j = true) : j < m := by
  rcases Nat.lt_or_ge j m with h1 | h1
  · exact h1
  · rw [Nat.testBit_lt_two_pow (Nat.lt_of_lt_of_le h (Nat.pow_le_pow_right (by decide) h1))] at hj
    cases hj
theorem lt_tb {a m : Nat} (h : ∀ j, a.testBit j = true → j < m) : a < 2 ^ m := by
  apply Nat.lt_pow_two_of_testBit
  intro j hj
  cases hb : a.testBit j with
  | false => rfl
  | true => have := h j hb; omega
theorem b_ext2 {a b : Bool} (h : a = true ↔ b = true) : a = b := by
  cases a <;> cases b
  · rfl
  · exact (h.mpr rfl)
  · exact (h.mp rfl).symm
  · rfl
theorem wb_xor2 {a b : Nat} (ha : a < 2 ^ 64) (hb : b < 2 ^ 64) : lN a ^^^ lN b = lN (a ^^^ b) := by
  apply wb_inj
  rw [Int64.toBitVec_xor]
  apply BitVec.eq_of_toNat_eq
  rw [BitVec.toNat_xor, wb_tn ha, wb_tn hb, wb_tn (Nat.xor_lt_two_pow ha hb)]
/-- a story as its places need it: lines, bad breaks, figure -/
def cPl (I : zI) (J : zJ) (s n fc fr : Nat) (bd : Nat → Bool) : Prop := n ≤ 40 ∧ fc ≤ 9 ∧ fr ≤ 9 ∧ I (7 + 12 * s) 15 = nI n ∧ I (7 + 12 * s) 12 = nI fc ∧ I (7 + 12 * s) 13 = nI fr ∧ ∃ b, b < 2 ^ 40 ∧ J (7 + 12 * s) 17 = lN b ∧ ∀ i, hbt b i = bd i
theorem cPl_u {I I' : zI} {J J' : zJ} {s n fc fr : Nat} {bd : Nat → Bool} (h : cPl I J s n fc fr bd) (h1 : I' (7 + 12 * s) 15 = I (7 + 12 * s) 15) (h2 : I' (7 + 12 * s) 12 = I (7 + 12 * s) 12) (h3 : I' (7 + 12 * s) 13 = I (7 + 12 * s) 13) (h4 : J' (7 + 12 * s) 17 = J (7 + 12 * s) 17) : cPl I' J' s n fc fr bd := by
  obtain ⟨a1, a2, a3, a4, a5, a6, b, b1, b2, b3⟩ := h
  exact ⟨a1, a2, a3, h1.trans a4, h2.trans a5, h3.trans a6, b, b1, h4.trans b2, b3⟩
theorem sub2 {h a b : Nat} (hh : h < 2 ^ 20) (ha : a < 2 ^ 20) (hb : b < 2 ^ 20) : (0 ≤ nI h - nI a - nI b ↔ a + b ≤ h) ∧ (a + b ≤ h → nI h - nI a - nI b = nI (h - (a + b))) := by
  have h1 : (nI h - nI a).toInt = (h : Int) - a := pk_sub_toInt (by omega) (by omega)
  have h2 : (nI h - nI a - nI b).toInt = (h : Int) - a - b := by
    rw [Int32.toInt_sub, h1, nI_toInt (by omega), Int.bmod_eq_of_le (by omega) (by omega)]
  constructor
  · rw [Int32.le_iff_toInt_le, h2]
    have : (0 : Int32).toInt = 0 := rfl
    omega
  · intro hle
    apply Int32.toInt_inj.mp
    rw [h2, nI_toInt (by omega)]
    omega
section CCOLS
variable {S : Nat × (Nat → Int32)} {k : zK} {s n fc fr : Nat} {bd : Nat → Bool}
theorem s93 {I : zI} {J : zJ} (hs : s < 4) (h : cPl I J s n fc fr bd) : ∃ g, zq S 93 [.ref (7 + 12 * s)] I J (some (.long (lN g))) I J ∧ g < 2 ^ 41 ∧ ∀ j, g.testBit j = gdF bd n j := by
  obtain ⟨a1, a2, a3, a4, a5, a6, b, b1, b2, b3⟩ := h
  have hb64 : b < 2 ^ 64 := Nat.lt_trans b1 (by decide)
  have hg : ∀ j, ((2 ^ (n + 1) - 1) &&& (b ^^^ (2 ^ 64 - 1))).testBit j = gdF bd n j := by
    intro j
    rw [Nat.testBit_and, Nat.testBit_xor, Nat.testBit_two_pow_sub_one, Nat.testBit_two_pow_sub_one, ← hbt_t, b3]
    unfold gdF
    by_cases hj : j ≤ n
    · rw [decide_eq_true (by omega : j < n + 1), decide_eq_true hj, decide_eq_true (by omega : j < 64)]
      cases bd j <;> rfl
    · rw [decide_eq_false (by omega : ¬ j < n + 1), decide_eq_false hj]
      rfl
  refine ⟨(2 ^ (n + 1) - 1) &&& (b ^^^ (2 ^ 64 - 1)), ?_, ?_, hg⟩
  · refine zq_of rfl ?_
    show zd S 93 0 [some (.ref (7 + 12 * s))] [] I J (0, 0) = _
    have e1 : (1 : Int64) <<< (((nI n + 1) : Int32).toInt64 &&& 63) = lN (2 ^ (n + 1)) := by
      rw [nI_1]
      have := wb_shl 1 (k := n + 1) (by omega)
      rw [Nat.one_mul] at this
      exact this
    have p1 : 2 ^ (n + 1) < 2 ^ 64 := wb_lt2 (by omega)
    have e2 : lN (2 ^ (n + 1)) - 1 = lN (2 ^ (n + 1) - 1) := lN_sub (b := 1) (Nat.two_pow_pos _)
    have e3 : (-1 : Int64) = lN (2 ^ 64 - 1) := by decide +kernel
    rw [B93_0 hs, a4, b2, e1, e2, e3, wb_xor2 hb64 (by decide), wb_and (by omega) (Nat.xor_lt_two_pow hb64 (by decide))]
  · apply lt_tb
    intro j hj
    rw [hg] at hj
    unfold gdF at hj
    rw [Bool.and_eq_true, decide_eq_true_eq] at hj
    omega
theorem g34_l {k' h fc' less : Nat} {J : zJ} {I0 : zI} (hs : s < 4) (hk : k' ≤ 4) (hh : h < 2 ^ 20) (hfc : fc' ≤ 9) (hfr : fr ≤ 9) (hl : less ≤ 1) (h13 : I0 (7 + 12 * s) 13 = nI fr) : ∀ (m c : Nat) (I : zI), k' = c + m → (∀ x, x ≠ 67 → I x = I0 x) →
    ∃ (I' : zI) (v : Bool), zd S 34 30 [some (.ref 66), some (.ref (7 + 12 * s)), none, some (.int (nI k')), some (.int (nI h)), some (.int (nI less)), some (.int (nI fc')), some (.int (nI c))] [] I J k = some (some (.int (bI v)), mk I' J, k) ∧ (v = true ↔ ∀ x, c ≤ x → x < k' → lo fc' fr k' less x ≤ h) ∧ (∀ x, x ≠ 67 → I' x = I x) ∧ (∀ x, x < c → I' 67 x = I 67 x) ∧ (v = true → ∀ x, c ≤ x → x < k' → I' 67 x = nI (rmF h fc' fr k' less x)) := by
  intro m
  induction m with
  | zero =>
    intro c I hm hI
    have hc : k' = c := by omega
    subst hc
    refine ⟨I, true, ?_, ⟨fun _ x h1 h2 => by omega, fun _ => rfl⟩, fun _ _ => rfl, fun _ _ => rfl, fun _ x h1 h2 => by omega⟩
    rw [B34_30 hs, if_pos (nI_le (Nat.le_refl _) (by omega)), B34_94 hs rfl]
    rfl
  | succ m ih =>
    intro c I hm hI
    have zc : zin (nI c) 4 = true := zin_n (by omega) (by decide)
    have cc : (nI c).toNatClampNeg = c := nI_clamp (by omega)
    have h13' : I (7 + 12 * s) 13 = nI fr := by rw [hI _ (by omega)]; exact h13
    have e1 : nI fc' ≤ nI c ↔ fc' ≤ c := nI_leI (by omega) (by omega)
    have ek : nI k' - 1 = nI (k' - 1) := pk_sub (b := 1) (by omega)
    have e2 : nI c = nI (k' - 1) ↔ c + 1 = k' := by
      rw [nI_eq (by omega) (by omega)]
      omega
    -- the room
    have hroom : ∃ a b : Nat, a ≤ 9 ∧ b ≤ 1 ∧ lo fc' fr k' less c = a + b ∧ zd S 34 36 [some (.ref 66), some (.ref (7 + 12 * s)), none, some (.int (nI k')), some (.int (nI h)), some (.int (nI less)), some (.int (nI fc')), some (.int (nI c))] [] I J k = zd S 34 76 [some (.ref 66), some (.ref (7 + 12 * s)), none, some (.int (nI k')), some (.int (nI h)), some (.int (nI less)), some (.int (nI fc')), some (.int (nI c))] [] (u2 I 67 c (nI h - nI a - nI b)) J k := by
      refine ⟨if c < fc' then fr else 0, if c + 1 = k' then less else 0, by split <;> omega, by split <;> omega, rfl, ?_⟩
      rw [B34_36 hs]
      by_cases hf : c < fc'
      · rw [if_neg (fun z => by have := e1.mp z; omega), if_pos hf, B34_51 hs, h13', ek]
        by_cases hl' : c + 1 = k'
        · rw [if_neg (not_not_intro (e2.mpr hl')), if_pos hl', B34_68 hs zc, cc]
        · rw [if_pos (fun z => hl' (e2.mp z)), if_neg hl', B34_73 hs zc, cc]
          rfl
      · rw [if_pos (e1.mpr (by omega)), if_neg hf, B34_58 hs, ek]
        by_cases hl' : c + 1 = k'
        · rw [if_neg (not_not_intro (e2.mpr hl')), if_pos hl', B34_68 hs zc, cc]
          rfl
        · rw [if_pos (fun z => hl' (e2.mp z)), if_neg hl', B34_73 hs zc, cc]
          rfl
    obtain ⟨a, b, ha, hb, hlo, hgo⟩ := hroom
    have hsub := sub2 (h := h) (a := a) (b := b) hh (by omega) (by omega)
    have e67 : (u2 I 67 c (nI h - nI a - nI b)) 67 c = nI h - nI a - nI b := u2s
    rw [B34_30 hs, if_neg (nI_ge (by omega) (by omega)), hgo, B34_76 hs zc, cc, e67]
    by_cases hle : a + b ≤ h
    · obtain ⟨I', v, e, r1, r2, r3, r4⟩ := ih (c + 1) (u2 I 67 c (nI h - nI a - nI b)) (by omega) (fun x hx => by rw [u2n (nbeq hx)]; exact hI x hx)
      refine ⟨I', v, ?_, ?_, fun x hx => by rw [r2 x hx, u2n (nbeq hx)], fun x hx => by rw [r3 x (by omega), u2ne (by omega)], ?_⟩
      · rw [if_pos (hsub.1.mpr hle), B34_88 hs, nI_1]
        exact e
      · rw [r1]
        constructor
        · intro q x h1 h2
          by_cases hx : x = c
          · rw [hx, hlo]
            exact hle
          · exact q x (by omega) h2
        · intro q x h1 h2
          exact q x (by omega) h2
      · intro hv x h1 h2
        by_cases hx : x = c
        · rw [r3 x (by omega), hx, u2s, hsub.2 hle]
          unfold rmF
          rw [hlo]
        · exact r4 hv x (by omega) h2
    · refine ⟨u2 I 67 c (nI h - nI a - nI b), false, ?_, ⟨fun q => by (cases q), fun q => ?_⟩, fun x hx => by rw [u2n (nbeq hx)], fun x hx => by rw [u2ne (by omega)], fun q => by cases q⟩
      · rw [if_neg (fun z => hle (hsub.1.mp z)), B34_86 hs rfl]
        rfl
      · exfalso
        have := q c (Nat.le_refl _) (by omega)
        rw [hlo] at this
        exact hle this
theorem s34 {I : zI} {J : zJ} {f k' h less : Nat} (hs : s < 4) (hP : cPl I J s n fc fr bd) (hf : f < 2 ^ 20) (hk : k' ≤ 4) (hh : h < 2 ^ 20) (hl : less ≤ 1) {fc' : Nat} (hfc : fc' = if f = 0 then fc else 0) :
    ∃ I', zq S 34 [.ref 66, .ref (7 + 12 * s), .int (nI f), .int (nI k'), .int (nI h), .int (nI less)] I J (some (.int (bI (decide (fc' ≤ k') && okH h fc' fr k' less)))) I' J ∧ (∀ x, x ≠ 66 → x ≠ 67 → I' x = I x) ∧ (∀ e, e ≠ 2 → I' 66 e = I 66 e) ∧ ((decide (fc' ≤ k') && okH h fc' fr k' less) = true → I' 66 2 = nI k' ∧ ∀ x, x < k' → I' 67 x = nI (rmF h fc' fr k' less x)) := by
  obtain ⟨a1, a2, a3, a4, a5, a6, _⟩ := hP
  have hfc9 : fc' ≤ 9 := by rw [hfc]; split <;> omega
  have e0 : nI f = 0 ↔ f = 0 := by
    have := nI_eq (a := f) (b := 0) (by omega) (by decide)
    rw [nI_0] at this
    exact this
  have hpre : zd S 34 0 [some (.ref 66), some (.ref (7 + 12 * s)), some (.int (nI f)), some (.int (nI k')), some (.int (nI h)), some (.int (nI less)), none, none] [] I J (0, 0) = if fc' ≤ k' then zd S 34 22 [some (.ref 66), some (.ref (7 + 12 * s)), none, some (.int (nI k')), some (.int (nI h)), some (.int (nI less)), some (.int (nI fc')), none] [] I J (0, 0) else zd S 34 20 [some (.ref 66), some (.ref (7 + 12 * s)), none, some (.int (nI k')), some (.int (nI h)), some (.int (nI less)), some (.int (nI fc')), none] [] I J (0, 0) := by
    rw [B34_0 hs]
    by_cases hf0 : f = 0
    · rw [if_pos hf0] at hfc
      subst hfc
      have ec : nI fc' ≤ nI k' ↔ fc' ≤ k' := nI_leI (by omega) (by omega)
      rw [if_neg (not_not_intro (e0.mpr hf0)), B34_4 hs, a5]
      by_cases hc : fc' ≤ k'
      · rw [if_pos (ec.mpr hc), if_pos hc]
      · rw [if_neg (fun z => hc (ec.mp z)), if_neg hc]
    · rw [if_neg hf0] at hfc
      subst hfc
      rw [if_pos (fun z => hf0 (e0.mp z)), B34_11 hs, if_pos (nI_pos' (by omega)), if_pos (Nat.zero_le _)]
      rfl
  by_cases hc : fc' ≤ k'
  · rw [if_pos hc] at hpre
    obtain ⟨I', v, e, r1, r2, r3, r4⟩ := g34_l (S := S) (k := (0, 0)) (J := J) (I0 := u2 I 66 2 (nI k')) (fr := fr) hs hk hh hfc9 a3 hl (by rw [u2n (nbeq (by omega))]; exact a6) k' 0 (u2 I 66 2 (nI k')) (by omega) (fun _ _ => rfl)
    have hv : v = okH h fc' fr k' less := b_ext2 (by
      rw [r1]
      unfold okH
      rw [allT_i]
      constructor
      · intro q t ht
        exact decide_eq_true (q t (Nat.zero_le _) ht)
      · intro q t _ ht
        exact of_decide_eq_true (q t ht))
    rw [decide_eq_true hc, Bool.true_and, ← hv]
    refine ⟨I', ?_, fun x h1 h2 => by rw [r2 x h2, u2n (nbeq h1)], fun e he => by rw [r2 66 (by decide), u2ne he], fun q => ⟨by rw [r2 66 (by decide), u2s], fun x hx => r4 q x (Nat.zero_le _) hx⟩⟩
    refine zq_of rfl ?_
    refine Eq.trans hpre ?_
    rw [B34_22 hs, B34_27 hs]
    exact e
  · rw [if_neg hc] at hpre
    rw [decide_eq_false hc, Bool.false_and]
    refine ⟨I, ?_, fun _ _ _ => rfl, fun _ _ => rfl, fun q => by cases q⟩
    refine zq_of rfl ?_
    refine Eq.trans hpre ?_
    rw [B34_20 hs rfl]
    rfl
theorem g35_i {E g c : Nat} {rm : Nat → Nat} {I : zI} {J : zJ} (hE : E < 2 ^ 41) (hr : rm c ≤ 15) (hc : c < 4) (h67 : I 67 c = nI (rm c)) : ∀ (m t A : Nat), rm c + 1 = t + m → A < 2 ^ 60 → (∀ j, A.testBit j = true ↔ ∃ i t', t' < t ∧ E.testBit i = true ∧ j = i + t') →
    ∃ (A' : Nat) (l9 : Int32), zd S 35 23 [some (.ref 66), none, some (.long (lN g)), none, some (.long (lN E)), none, some (.int (nI c)), some (.long (lN A)), none, some (.int (nI t))] [] I J k = zd S 35 51 [some (.ref 66), none, some (.long (lN g)), none, some (.long (lN E)), none, some (.int (nI c)), some (.long (lN A')), none, some (.int l9)] [] I J k ∧ A' < 2 ^ 60 ∧ (∀ j, A'.testBit j = true ↔ ∃ i t', t' ≤ rm c ∧ E.testBit i = true ∧ j = i + t') := by
  intro m
  induction m with
  | zero =>
    intro t A hm hA hb
    refine ⟨A, nI t, ?_, hA, fun j => by rw [hb j]; exact ⟨fun ⟨i, t', a, b, c⟩ => ⟨i, t', by omega, b, c⟩, fun ⟨i, t', a, b, c⟩ => ⟨i, t', by omega, b, c⟩⟩⟩
    rw [B35_23 (zin_n hc (by decide)), nI_clamp (by omega), h67, if_pos (nI_lt (by omega) (by omega))]
  | succ m ih =>
    intro t A hm hA hb
    have hsh : E * 2 ^ t < 2 ^ 60 := by
      apply lt_tb
      intro j hj
      rw [tb_mul, Bool.and_eq_true, decide_eq_true_eq] at hj
      have := tb_lt hE hj.2
      omega
    have hor := Nat.or_lt_two_pow hA hsh
    obtain ⟨A', l9, e, r1, r2⟩ := ih (t + 1) (A ||| E * 2 ^ t) (by omega) hor (by
      intro j
      rw [Nat.testBit_or, Bool.or_eq_true, hb j, tb_mul, Bool.and_eq_true, decide_eq_true_eq]
      constructor
      · rintro (⟨i, t', a, b, c⟩ | ⟨a, b⟩)
        · exact ⟨i, t', by omega, b, c⟩
        · exact ⟨j - t, t, by omega, b, by omega⟩
      · rintro ⟨i, t', a, b, c⟩
        by_cases ht : t' = t
        · refine Or.inr ⟨by omega, ?_⟩
          rw [show j - t = i by omega]
          exact b
        · exact Or.inl ⟨i, t', by omega, b, c⟩)
    refine ⟨A', l9, ?_, r1, r2⟩
    have p60 : (2 : Nat) ^ 60 < 2 ^ 64 := by decide
    rw [B35_23 (zin_n hc (by decide)), nI_clamp (by omega), h67, if_neg (nI_nlt (by omega) (by omega)), B35_35, wb_shl E (by omega), wb_or (by omega) (by omega), nI_1]
    exact e
theorem s35 {I : zI} {J : zJ} {f k' g : Nat} {rm : Nat → Nat} (hf : f ≤ 40) (hn : n ≤ 40) (hk : k' ≤ 4) (hr : ∀ c, c < k' → rm c ≤ 15) (h66 : I 66 2 = nI k') (h67 : ∀ c, c < k' → I 67 c = nI (rm c)) (hg : g < 2 ^ 41) (hgb : ∀ j, g.testBit j = gdF bd n j) :
    ∃ E, zq S 35 [.ref 66, .int (nI f), .long (lN g)] I J (some (.long (lN E))) I J ∧ E < 2 ^ 41 ∧ ∀ j, E.testBit j = true ↔ fwd rm (gdF bd n) f k' j := by
  have hl : ∀ (m c E : Nat) (o1 o7 o9 : Option Value), k' = c + m → E < 2 ^ 41 → (∀ j, E.testBit j = true ↔ fwd rm (gdF bd n) f c j) → ∃ E', zd S 35 8 [some (.ref 66), o1, some (.long (lN g)), none, some (.long (lN E)), none, some (.int (nI c)), o7, none, o9] [] I J (0, 0) = some (some (.long (lN E')), mk I J, (0, 0)) ∧ E' < 2 ^ 41 ∧ ∀ j, E'.testBit j = true ↔ fwd rm (gdF bd n) f k' j := by
    intro m
    induction m with
    | zero =>
      intro c E o1 o7 o9 hm hE hb
      have hc : k' = c := by omega
      subst hc
      refine ⟨E, ?_, hE, hb⟩
      rw [B35_8, h66, if_pos (nI_le (Nat.le_refl _) (by omega)), B35_63]
    | succ m ih =>
      intro c E o1 o7 o9 hm hE hb
      obtain ⟨A, l9, e1, r1, r2⟩ := g35_i (S := S) (k := (0, 0)) (I := I) (J := J) (g := g) (c := c) (rm := rm) hE (hr c (by omega)) (by omega) (h67 c (by omega)) (rm c + 1) 0 0 (by omega) (by decide) (by
        intro j
        rw [Nat.zero_testBit]
        constructor
        · intro q
          cases q
        · rintro ⟨i, t', a, b⟩
          omega)
      have hlt : A &&& g < 2 ^ 41 := Nat.and_lt_two_pow _ hg
      obtain ⟨E', e2, q1, q2⟩ := ih (c + 1) (A &&& g) none (some (.long (lN A))) (some (.int l9)) (by omega) hlt (by
        intro j
        rw [Nat.testBit_and, Bool.and_eq_true, r2 j, hgb j]
        constructor
        · rintro ⟨⟨i, t', a, b, c⟩, d⟩
          exact ⟨d, i, t', (hb i).mp b, a, c⟩
        · rintro ⟨d, i, t', b, a, c⟩
          exact ⟨⟨i, t', a, (hb i).mpr b, c⟩, d⟩)
      refine ⟨E', ?_, q1, q2⟩
      have p : (2 : Nat) ^ 60 < 2 ^ 64 := by decide
      have p2 : (2 : Nat) ^ 41 < 2 ^ 64 := by decide
      rw [B35_8, h66, if_neg (nI_ge (by omega) (by omega)), B35_17]
      refine Eq.trans e1 ?_
      rw [B35_51, wb_and (by omega) (by omega), nI_1]
      exact e2
  have p : 2 ^ f < 2 ^ 41 := wb_lt2 (by omega)
  obtain ⟨E, e, r1, r2⟩ := hl k' 0 (2 ^ f) (some (.int (nI f))) none none (by omega) p (by
    intro j
    rw [Nat.testBit_two_pow, decide_eq_true_eq]
    exact ⟨fun h => h.symm, fun h => Eq.symm h⟩)
  refine ⟨E, ?_, r1, r2⟩
  refine zq_of rfl ?_
  show zd S 35 0 [some (.ref 66), some (.int (nI f)), some (.long (lN g)), none, none, none, none, none, none, none] [] I J (0, 0) = _
  have e1 : (1 : Int64) <<< ((nI f).toInt64 &&& 63) = lN (2 ^ f) := by
    have := wb_shl 1 (k := f) (by omega)
    rw [Nat.one_mul] at this
    exact this
  rw [B35_0, e1]
  exact e
theorem s37 {I : zI} {J : zJ} {c i F : Nat} {rm : Nat → Nat} {p : Nat → Bool} (hc : c < 4) (hi : i ≤ 40) (hr : rm c ≤ 15) (h67 : I 67 c = nI (rm c)) (hF : F < 2 ^ 64) (h68 : J 68 (c + 1) = lN F) (hp : ∀ j, F.testBit j = p j) :
    zq S 37 [.ref 66, .int (nI c), .int (nI i)] I J (some (.int (nI (grT (fun t => p (i + t)) (rm c + 1))))) I J := by
  have hl : ∀ (t : Nat), t ≤ 15 → zd S 37 7 [some (.ref 66), some (.int (nI c)), some (.int (nI i)), some (.int (nI t))] [] I J (0, 0) = some (some (.int (nI (grT (fun t => p (i + t)) (t + 1)))), mk I J, (0, 0)) := by
    intro t
    induction t with
    | zero =>
      intro _
      have hg0 : grT (fun t => p (i + t)) (0 + 1) = 0 := by
        have := grT_lt (f := fun t => p (i + t)) 0
        omega
      rw [B37_7, if_pos (by decide), B37_36, hg0]
      rfl
    | succ t ih =>
      intro ht
      have q22 : zq S 22 [.long (J 68 (nI c + 1).toNatClampNeg), .int (nI i + nI (t + 1))] I J (some (.int (bI (p (i + (t + 1)))))) I J := by
        rw [nI_1, nI_clamp (by omega), h68, nI_add, ← hp, ← hbt_t]
        exact s22 hF (by omega)
      rw [B37_7, if_neg (nI_nle (by omega) (by omega)), B37_11 ⟨rfl, rfl⟩ (by rw [nI_1]; exact zin_n (by omega) (by decide)) q22, B37_25]
      have hg : grT (fun t => p (i + t)) (t + 1 + 1) = if p (i + (t + 1)) = true then t + 1 else grT (fun t => p (i + t)) (t + 1) := rfl
      rw [hg]
      cases hb : p (i + (t + 1)) with
      | true => rw [if_neg (show ¬ bI true = 0 by decide), B37_28, if_pos rfl]
      | false =>
        rw [if_pos (show bI false = 0 from rfl), B37_30, pk_m1, if_neg (by decide)]
        exact ih (by omega)
  refine zq_of rfl ?_
  show zd S 37 0 [some (.ref 66), some (.int (nI c)), some (.int (nI i)), none] [] I J (0, 0) = _
  rw [B37_0 (zin_n hc (by decide)), nI_clamp (by omega), h67]
  exact hl (rm c) hr
/-- the sets from which the columns from c on can be filled -/
def bkI (J : zJ) (rm : Nat → Nat) (gd : Nat → Bool) (e k' c : Nat) : Prop := ∃ F, F < 2 ^ 41 ∧ J 68 c = lN F ∧ ∀ j, F.testBit j = (gd j && pth rm gd e c (k' - c) j)
theorem g36_i {F g c q : Nat} {rm : Nat → Nat} {I : zI} {J : zJ} {l1 : Int32} (hs : s < 4) (hq : q < 2) (hF : F < 2 ^ 41) (hr : rm c ≤ 15) (hc : c < 4) (h67 : I 67 c = nI (rm c)) (h68 : J 68 (c + 1) = lN F) : ∀ (m t A : Nat), rm c + 1 = t + m → A < 2 ^ 41 → (∀ j, A.testBit j = true ↔ ∃ t', t' < t ∧ F.testBit (j + t') = true) →
    ∃ (A' : Nat) (l9 : Int32), zd S 36 31 [some (.ref 66), some (.int l1), none, some (.long (lN g)), none, some (.ref (16 + 12 * s + 2 * q)), some (.int (nI c)), some (.long (lN A)), none, some (.int (nI t))] [] I J k = zd S 36 66 [some (.ref 66), some (.int l1), none, some (.long (lN g)), none, some (.ref (16 + 12 * s + 2 * q)), some (.int (nI c)), some (.long (lN A')), none, some (.int l9)] [] I J k ∧ A' < 2 ^ 41 ∧ (∀ j, A'.testBit j = true ↔ ∃ t', t' ≤ rm c ∧ F.testBit (j + t') = true) := by
  intro m
  induction m with
  | zero =>
    intro t A hm hA hb
    refine ⟨A, nI t, ?_, hA, fun j => by rw [hb j]; exact ⟨fun ⟨t', a, b⟩ => ⟨t', by omega, b⟩, fun ⟨t', a, b⟩ => ⟨t', by omega, b⟩⟩⟩
    rw [B36_31 hs hq (zin_n hc (by decide)), nI_clamp (by omega), h67, if_pos (nI_lt (by omega) (by omega))]
  | succ m ih =>
    intro t A hm hA hb
    have hsh : F / 2 ^ t < 2 ^ 41 := Nat.lt_of_le_of_lt (Nat.div_le_self _ _) hF
    have hor := Nat.or_lt_two_pow hA hsh
    obtain ⟨A', l9, e, r1, r2⟩ := ih (t + 1) (A ||| F / 2 ^ t) (by omega) hor (by
      intro j
      rw [Nat.testBit_or, Bool.or_eq_true, hb j, tb_div]
      constructor
      · rintro (⟨t', a, b⟩ | a)
        · exact ⟨t', by omega, b⟩
        · exact ⟨t, by omega, by rw [Nat.add_comm]; exact a⟩
      · rintro ⟨t', a, b⟩
        by_cases ht : t' = t
        · refine Or.inr ?_
          rw [Nat.add_comm, ← ht]
          exact b
        · exact Or.inl ⟨t', by omega, b⟩)
    refine ⟨A', l9, ?_, r1, r2⟩
    have p41 : (2 : Nat) ^ 41 < 2 ^ 64 := by decide
    rw [B36_31 hs hq (zin_n hc (by decide)), nI_clamp (by omega), h67, if_neg (nI_nlt (by omega) (by omega)), B36_43 hs hq (by rw [nI_1]; exact zin_n (by omega) (by decide)), nI_1, nI_clamp (n := c + 1) (by omega), h68, wb_shr (by omega) (by omega), wb_or (by omega) (by omega), nI_1]
    exact e
theorem s36 {I : zI} {J : zJ} {f e k' g q : Nat} {rm : Nat → Nat} {gd : Nat → Bool} (hs : s < 4) (hq : q < 2) (he : e ≤ 40) (hk : k' ≤ 4) (hk0 : 0 < k') (hr : ∀ c, c < k' → rm c ≤ 15) (h66 : I 66 2 = nI k') (h67 : ∀ c, c < k' → I 67 c = nI (rm c)) (hg : g < 2 ^ 41) (hgb : ∀ j, g.testBit j = gd j) (hge : gd e = true) (hp : pth rm gd e 0 k' f = true) :
    ∃ I' J', zq S 36 [.ref 66, .int (nI f), .int (nI e), .long (lN g), .ref (16 + 12 * s + 2 * q)] I J none I' J' ∧ (∀ x, x ≠ 16 + 12 * s + 2 * q → I' x = I x) ∧ (∀ x, x ≠ 68 → J' x = J x) ∧ (∀ c, c < k' → I' (16 + 12 * s + 2 * q) c = nI (inF rm gd f e k' c)) ∧ (∀ c, k' ≤ c → c < 4 → I' (16 + 12 * s + 2 * q) c = 0) := by
  have p41 : (2 : Nat) ^ 41 < 2 ^ 64 := by decide
  -- backward
  have hback : ∀ (c : Nat) (J1 : zJ) (o2 o7 o9 : Option Value), c < k' → (∀ c', c < c' → c' ≤ k' → bkI J1 rm gd e k' c') → (∀ x, x ≠ 68 → J1 x = J x) → ∃ (J2 : zJ) (l6 : Int32), zd S 36 20 [some (.ref 66), some (.int (nI f)), o2, some (.long (lN g)), none, some (.ref (16 + 12 * s + 2 * q)), some (.int (nI c)), o7, none, o9] [] I J1 (0, 0) = zd S 36 83 [some (.ref 66), some (.int (nI f)), none, some (.long (lN g)), none, some (.ref (16 + 12 * s + 2 * q)), some (.int l6), none, none, none] [] I J2 (0, 0) ∧ (∀ c', 0 < c' → c' ≤ k' → bkI J2 rm gd e k' c') ∧ (∀ x, x ≠ 68 → J2 x = J x) := by
    intro c
    induction c with
    | zero =>
      intro J1 o2 o7 o9 hc hb hJ
      refine ⟨J1, nI 0, ?_, hb, hJ⟩
      rw [B36_20 hs hq, if_pos (by decide)]
    | succ c ih =>
      intro J1 o2 o7 o9 hc hb hJ
      obtain ⟨F, F1, F2, F3⟩ := hb (c + 1 + 1) (by omega) (by omega)
      obtain ⟨A, l9, e1, r1, r2⟩ := g36_i (S := S) (k := (0, 0)) (I := I) (J := J1) (g := g) (c := c + 1) (rm := rm) (l1 := nI f) hs hq F1 (hr _ hc) (by omega) (h67 _ hc) F2 (rm (c + 1) + 1) 0 0 (by omega) (by decide) (by
        intro j
        rw [Nat.zero_testBit]
        constructor
        · intro q
          cases q
        · rintro ⟨t', a, b⟩
          omega)
      have hlt : A &&& g < 2 ^ 41 := Nat.and_lt_two_pow _ hg
      obtain ⟨J2, l6, e2, q1, q2⟩ := ih (v2 J1 68 (c + 1) (lN (A &&& g))) none (some (.long (lN A))) (some (.int l9)) (by omega) (by
        intro c' h1 h2
        by_cases hcc : c' = c + 1
        · refine ⟨A &&& g, hlt, by rw [hcc, v2s], fun j => b_ext2 ?_⟩
          rw [Nat.testBit_and, hgb, Bool.and_eq_true, r2 j, Bool.and_eq_true, hcc, show k' - (c + 1) = (k' - (c + 1 + 1)) + 1 by omega]
          have hun : pth rm gd e (c + 1) (k' - (c + 1 + 1) + 1) j = anyT (fun t => gd (j + t) && pth rm gd e (c + 1 + 1) (k' - (c + 1 + 1)) (j + t)) (rm (c + 1) + 1) := rfl
          rw [hun, anyT_i]
          constructor
          · rintro ⟨⟨t', a, b⟩, d⟩
            rw [F3] at b
            exact ⟨d, t', by omega, b⟩
          · rintro ⟨d, t', a, b⟩
            refine ⟨⟨t', by omega, ?_⟩, d⟩
            rw [F3]
            exact b
        · obtain ⟨F', a, b, d⟩ := hb c' (by omega) h2
          exact ⟨F', a, by rw [v2ne hcc]; exact b, d⟩) (fun x hx => by rw [v2n (nbeq hx)]; exact hJ x hx)
      refine ⟨J2, l6, ?_, q1, q2⟩
      rw [B36_20 hs hq, if_neg (nI_nle (by omega) (by omega)), B36_25 hs hq]
      refine Eq.trans e1 ?_
      rw [B36_66 hs hq (zin_n (by omega) (by decide)), nI_clamp (by omega), wb_and (by omega) (by omega), B36_77 hs hq, pk_m1]
      exact e2
  have pe : 2 ^ e < 2 ^ 41 := wb_lt2 (by omega)
  obtain ⟨J2, l6, e2, q1, q2⟩ := hback (k' - 1) (v2 J 68 k' (lN (2 ^ e))) (some (.int (nI e))) none none (by omega) (by
    intro c' h1 h2
    have hcc : c' = k' := by omega
    refine ⟨2 ^ e, pe, by rw [hcc, v2s], fun j => ?_⟩
    rw [Nat.testBit_two_pow, hcc, Nat.sub_self]
    show decide (e = j) = (gd j && decide (j = e))
    by_cases hj : j = e
    · rw [hj, hge, decide_eq_true rfl]
      rfl
    · rw [decide_eq_false (fun z => hj z.symm), decide_eq_false hj, Bool.and_false]) (fun x hx => by rw [v2n (nbeq hx)])
  -- the columns are filled
  have q149 := s149 (S := S) (I := I) (J := J2) (x := 0) (shPa hs hq) (by decide)
  generalize hI1 : uc I (16 + 12 * s + 2 * q) (filA (I (16 + 12 * s + 2 * q)) 0 4) = I1 at q149
  have i1o : ∀ x, x ≠ 16 + 12 * s + 2 * q → I1 x = I x := fun x hx => by rw [← hI1, ucn (nbeq hx)]
  have i1z : ∀ c, c < 4 → I1 (16 + 12 * s + 2 * q) c = 0 := fun c hc => by rw [← hI1, uc_s]; exact if_pos hc
  have hfill : ∀ (m c : Nat) (M : zI) (o1 o3 : Option Value), k' = c + m → (∀ x, x ≠ 16 + 12 * s + 2 * q → M x = I x) → (∀ c', c' < c → M (16 + 12 * s + 2 * q) c' = nI (inF rm gd f e k' c')) → (∀ c', c ≤ c' → c' < 4 → M (16 + 12 * s + 2 * q) c' = 0) → ∃ I', zd S 36 95 [some (.ref 66), o1, none, o3, none, some (.ref (16 + 12 * s + 2 * q)), some (.int (nI (liF rm gd f e k' c))), some (.int (nI c)), none, none] [] M J2 (0, 0) = some (none, mk I' J2, (0, 0)) ∧ (∀ x, x ≠ 16 + 12 * s + 2 * q → I' x = I x) ∧ (∀ c, c < k' → I' (16 + 12 * s + 2 * q) c = nI (inF rm gd f e k' c)) ∧ (∀ c, k' ≤ c → c < 4 → I' (16 + 12 * s + 2 * q) c = 0) := by
    intro m
    induction m with
    | zero =>
      intro c M o1 o3 hm hM h1 h2
      have hc : k' = c := by omega
      subst hc
      refine ⟨M, ?_, hM, h1, h2⟩
      rw [B36_95 hs hq, hM 66 (by omega), h66, if_pos (nI_le (Nat.le_refl _) (by omega)), B36_133 hs hq]
    | succ m ih =>
      intro c M o1 o3 hm hM h1 h2
      obtain ⟨F, F1, F2, F3⟩ := q1 (c + 1) (by omega) (by omega)
      have hli := liF_p hp c (by omega)
      have q37 := s37 (S := S) (I := M) (J := J2) (c := c) (i := liF rm gd f e k' c) (rm := rm) (by omega) (by omega) (hr c (by omega)) (by rw [hM 67 (by omega)]; exact h67 c (by omega)) (by omega) F2 F3
      have hin : grT (fun t => gd (liF rm gd f e k' c + t) && pth rm gd e (c + 1) (k' - (c + 1)) (liF rm gd f e k' c + t)) (rm c + 1) = inF rm gd f e k' c := by
        unfold inF tkF
        rw [show k' - (c + 1) = k' - c - 1 by omega]
      rw [hin] at q37
      obtain ⟨I', e3, r1, r2, r3⟩ := ih (c + 1) (u2 M (16 + 12 * s + 2 * q) c (nI (inF rm gd f e k' c))) none none (by omega) (fun x hx => by rw [u2n (nbeq hx)]; exact hM x hx) (fun c' hc' => by
        by_cases hcc : c' = c
        · rw [hcc, u2s]
        · rw [u2ne hcc]
          exact h1 c' (by omega)) (fun c' a b => by rw [u2ne (by omega)]; exact h2 c' (by omega) b)
      refine ⟨I', ?_, r1, r2, r3⟩
      rw [B36_95 hs hq, hM 66 (by omega), h66, if_neg (nI_ge (by omega) (by omega)), B36_104 ⟨rfl, rfl⟩ hs hq q37, B36_116 hs hq (zin_n (by omega) (by decide)), nI_clamp (by omega), B36_117 hs hq (zin_n (by omega) (by decide)), nI_clamp (by omega), u2s, nI_add, nI_1]
      exact e3
  obtain ⟨I', e3, r1, r2, r3⟩ := hfill k' 0 I1 (some (.int (nI f))) (some (.long (lN g))) (by omega) i1o (fun c' h => absurd h (Nat.not_lt_zero _)) (fun c' _ h => i1z c' h)
  refine ⟨I', J2, ?_, r1, q2, r2, r3⟩
  refine zq_of rfl ?_
  show zd S 36 0 [some (.ref 66), some (.int (nI f)), some (.int (nI e)), some (.long (lN g)), none, some (.ref (16 + 12 * s + 2 * q)), none, none, none, none] [] I J (0, 0) = _
  have e1 : (1 : Int64) <<< ((nI e).toInt64 &&& 63) = lN (2 ^ e) := by
    have := wb_shl 1 (k := e) (by omega)
    rw [Nat.one_mul] at this
    exact this
  rw [B36_0 hs hq (by rw [h66]; exact zin_n (by omega) (by decide)), h66, nI_clamp (by omega), e1, B36_12 hs hq, h66, show (1 : Int32) = nI 1 from rfl, pk_sub (by omega)]
  refine Eq.trans e2 ?_
  rw [B36_83 ⟨rfl, rfl⟩ hs hq q149, B36_89 hs hq, ← nI_0]
  exact e3
end CCOLS
