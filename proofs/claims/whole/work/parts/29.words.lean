/-! reading: characters, words (the one side) -/
/-- character a of a text of N; behind the end it is 0 -/
def ch (T : Nat → Nat) (N a : Nat) : Nat := if a < N then T a else 0
def okX (T : Nat → Nat) (N : Nat) : Prop := N ≤ 480 ∧ ∀ i, i < N → okT (T i) = true
theorem ch_lt {T : Nat → Nat} {N : Nat} (h : okX T N) (a : Nat) : ch T N a < 127 := by
  unfold ch
  split
  · next hl =>
    have := (okT_i _).mp (h.2 a hl)
    omega
  · decide
theorem ch_in {T : Nat → Nat} {N a : Nat} (h : ch T N a ≠ 0) : a < N := by
  unfold ch at h
  by_cases hl : a < N
  · exact hl
  · rw [if_neg hl] at h
    exact absurd rfl h
/-- what next answers -/
def nx (T : Nat → Nat) (N a : Nat) : Int32 := if a < N then nI (T a) else -1
theorem nx_eq {T : Nat → Nat} {N a c : Nat} (h : okX T N) (hc : 0 < c) (hc2 : c < 256) : nx T N a = nI c ↔ ch T N a = c := by
  unfold nx ch
  by_cases hl : a < N
  · have := (okT_i _).mp (h.2 a hl)
    rw [if_pos hl, if_pos hl]
    exact nI_eq (by omega) (by omega)
  · rw [if_neg hl, if_neg hl]
    constructor
    · intro hx
      have h1 : (-1 : Int32) < 0 := by decide
      rw [hx] at h1
      exact absurd h1 (nI_pos (by omega))
    · intro hx
      omega
theorem nx_L {T : Nat → Nat} {N a : Nat} (h : okX T N) : isL (nx T N a) = isN (ch T N a) := by
  unfold nx ch
  by_cases hl : a < N
  · have := (okT_i _).mp (h.2 a hl)
    rw [if_pos hl, if_pos hl, isL_of _ (by omega)]
    rfl
  · rw [if_neg hl, if_neg hl]
    decide
/-- a digit that is not below l -/
def dg (l c : Nat) : Bool := decide (48 + l ≤ c) && decide (c ≤ 57)
theorem nx_d {T : Nat → Nat} {N a : Nat} (h : dg 0 (ch T N a) = true) : nx T N a = nI (ch T N a) := by
  unfold dg at h
  rw [Bool.and_eq_true, decide_eq_true_eq] at h
  have hl : a < N := ch_in (T := T) (by omega)
  unfold nx ch
  rw [if_pos hl, if_pos hl]
theorem dg_0 {l c : Nat} (h : dg l c = true) : dg 0 c = true := by
  unfold dg at *
  rw [Bool.and_eq_true, decide_eq_true_eq, decide_eq_true_eq] at *
  omega
/-- letters from a on, m at most -/
def rn (T : Nat → Nat) (N : Nat) : Nat → Nat → Nat
  | _, 0 => 0
  | a, m + 1 => if isN (ch T N a) = true then rn T N (a + 1) m + 1 else 0
theorem rn_le {T : Nat → Nat} {N : Nat} : ∀ (m a : Nat), rn T N a m ≤ m
  | 0, _ => Nat.le_refl _
  | m + 1, a => by
    unfold rn
    split
    · have := rn_le (T := T) (N := N) m (a + 1)
      omega
    · omega
theorem isN_in {T : Nat → Nat} {N a : Nat} (h : isN (ch T N a) = true) : a < N := ch_in (T := T) (by have := (isN_i _).mp h; omega)
theorem rn_N {T : Nat → Nat} {N : Nat} : ∀ (m a : Nat), a ≤ N → a + rn T N a m ≤ N
  | 0, _, h => h
  | m + 1, a, h => by
    unfold rn
    split
    · next hl =>
      have h1 := isN_in hl
      have := rn_N (T := T) (N := N) m (a + 1) (by omega)
      omega
    · omega
/-- a word stands at a: one letter at least, twelve at most -/
def wOk (T : Nat → Nat) (N a : Nat) : Bool := decide (0 < rn T N a 12) && !isN (ch T N (a + rn T N a 12))
/-- words from a on, m at most: is it right, where it ends, how long the words are -/
def wsB (T : Nat → Nat) (N : Nat) : Nat → Nat → Bool
  | 0, _ => false
  | m + 1, a => wOk T N a && (if ch T N (a + rn T N a 12) = 32 then wsB T N m (a + rn T N a 12 + 1) else true)
def wsA (T : Nat → Nat) (N : Nat) : Nat → Nat → Nat
  | 0, a => a
  | m + 1, a => if wOk T N a = true ∧ ch T N (a + rn T N a 12) = 32 then wsA T N m (a + rn T N a 12 + 1) else a + rn T N a 12
def wsL (T : Nat → Nat) (N : Nat) : Nat → Nat → List Nat
  | 0, _ => []
  | m + 1, a => rn T N a 12 :: (if ch T N (a + rn T N a 12) = 32 then wsL T N m (a + rn T N a 12 + 1) else [])
theorem wsA_N {T : Nat → Nat} {N : Nat} : ∀ (m a : Nat), a ≤ N → a ≤ wsA T N m a ∧ wsA T N m a ≤ N
  | 0, _, h => ⟨Nat.le_refl _, h⟩
  | m + 1, a, h => by
    have h1 := rn_N (T := T) (N := N) 12 a h
    unfold wsA
    split
    · next hc =>
      have hl : a + rn T N a 12 < N := ch_in (T := T) (by omega)
      have := wsA_N (T := T) (N := N) m (a + rn T N a 12 + 1) (by omega)
      omega
    · omega
/-- the reader's memory but for its place, and with place a -/
def cTx (I : zI) (T : Nat → Nat) (N : Nat) : Prop := I 4 2 = nI N ∧ (∀ i, i < N → I 5 i = nI (T i)) ∧ okX T N
def cA (I : zI) (a : Nat) : zI := u2 I 4 3 (nI a)
theorem cA_cA (I : zI) (a b : Nat) : cA (cA I a) b = cA I b := by
  show u2 (uc I 4 (upd (I 4) 3 (nI a))) 4 3 (nI b) = uc I 4 (upd (I 4) 3 (nI b))
  rw [u2uc]
  congr 1
  funext q
  unfold upd
  by_cases h : q = 3
  · rw [if_pos h, if_pos h]
  · rw [if_neg h, if_neg h, if_neg h]
theorem cA_u (I : zI) (a b : Nat) : u2 (cA I a) 4 3 (nI b) = cA I b := cA_cA I a b
theorem cA_3 (I : zI) (a : Nat) : cA I a 4 3 = nI a := u2s
theorem cA_f (I : zI) (a f : Nat) (h : Nat.beq f 3 = false) : cA I a 4 f = I 4 f := u2f h
theorem cA_n (I : zI) (a c : Nat) (h : Nat.beq c 4 = false) : cA I a c = I c := u2n h
section WORDS
variable {S : Nat × (Nat → Int32)} {I : zI} {J : zJ} {k : zK} {T : Nat → Nat} {N : Nat}
theorem s79 {a : Nat} (hx : cTx I T N) (ha : a < 2 ^ 31) : zq S 79 [.ref 4] (cA I a) J (some (.int (nx T N a))) (cA I a) J := by
  obtain ⟨h2, h5, hN, -⟩ := hx
  refine zq_of rfl ?_
  show zd S 79 0 [some (.ref 4)] [] (cA I a) J (0, 0) = _
  unfold nx
  rw [B79_0, cA_3, cA_f _ _ _ rfl, h2]
  by_cases hl : a < N
  · rw [if_neg (nI_ge hl (by omega)), B79_11 (by rw [cA_3]; exact zin_n (by omega) (by decide)), cA_3, nI_clamp ha, cA_n _ _ _ rfl, h5 a hl, if_pos hl]
  · rw [if_pos (nI_le (by omega) ha), B79_23, if_neg hl]
theorem s78 {a c : Nat} (hx : cTx I T N) (ha : a < 2 ^ 31) (hc : 0 < c) (hc2 : c < 256) : zq S 78 [.ref 4, .int (nI c)] (cA I a) J (some (.int (bI (decide (ch T N a = c))))) (cA I (if ch T N a = c then a + 1 else a)) J := by
  refine zq_of rfl ?_
  show zd S 78 0 [some (.ref 4), some (.int (nI c))] [] (cA I a) J (0, 0) = _
  have e := nx_eq (a := a) hx.2.2 hc hc2
  rw [B78_0 ⟨rfl, rfl⟩ (s79 hx ha), B78_4]
  by_cases h : ch T N a = c
  · rw [if_pos (e.mpr h), B78_10, B78_20 rfl, cA_3, nI_1, cA_u, if_pos h, decide_eq_true h]
    rfl
  · rw [if_neg (fun z => h (e.mp z)), B78_8 rfl, if_neg h, decide_eq_false h]
    rfl
theorem s20 {a l : Nat} (hx : okX T N) (hl : l ≤ 1) : zq S 20 [.int (nx T N a), .int (nI l)] I J (some (.int (bI (dg l (ch T N a))))) I J := by
  refine zq_of rfl ?_
  show zd S 20 0 [some (.int (nx T N a)), some (.int (nI l))] [] I J (0, 0) = _
  have e48 : (48 : Int32) + nI l = nI (48 + l) := nI_add 48 l
  unfold dg
  rw [B20_0, e48]
  by_cases hN : a < N
  · have hc := (okT_i _).mp (hx.2 a hN)
    have en : nx T N a = nI (ch T N a) := by unfold nx ch; rw [if_pos hN, if_pos hN]
    have hlt := ch_lt hx a
    have e1 : nI (ch T N a) < nI (48 + l) ↔ ch T N a < 48 + l := nI_ltI (by omega) (by omega)
    have e2 : 57 < nI (ch T N a) ↔ 57 < ch T N a := nI_ltI (a := 57) (by decide) (by omega)
    rw [en]
    by_cases h1 : ch T N a < 48 + l
    · rw [if_pos (e1.mpr h1), B20_18 rfl, decide_eq_false (by omega : ¬ 48 + l ≤ ch T N a)]
      rfl
    · rw [if_neg (fun z => h1 (e1.mp z)), B20_8, decide_eq_true (by omega : 48 + l ≤ ch T N a)]
      by_cases h2 : 57 < ch T N a
      · rw [if_pos (e2.mpr h2), B20_18 rfl, decide_eq_false (by omega : ¬ ch T N a ≤ 57)]
        rfl
      · rw [if_neg (fun z => h2 (e2.mp z)), B20_14 rfl, decide_eq_true (by omega : ch T N a ≤ 57)]
        rfl
  · have en : nx T N a = -1 := if_neg hN
    have ec : ch T N a = 0 := if_neg hN
    have hm : (-1 : Int32) < nI (48 + l) := by
      have h1 : (-1 : Int32) < 0 := by decide
      have h2 : (0 : Int32) ≤ nI (48 + l) := nI_pos' (by omega)
      exact Int32.lt_of_lt_of_le h1 h2
    rw [en, if_pos hm, B20_18 rfl, ec, decide_eq_false (by omega : ¬ 48 + l ≤ 0)]
    rfl
theorem s19x {a : Nat} (hx : okX T N) : zq S 19 [.int (nx T N a)] I J (some (.int (bI (isN (ch T N a))))) I J := by
  have := s19 (S := S) (I := I) (J := J) (nx T N a)
  rw [nx_L hx] at this
  exact this
theorem g77_l (hx : cTx I T N) (hb : Nat.ble k.1 (mBu 77).1 = true ∧ Nat.ble k.2 (mBu 77).2 = true) : ∀ (m i a : Nat), a < 2 ^ 30 → 12 = i + m →
    zd S 77 2 [some (.ref 4), some (.int (nI i))] [] (cA I a) J k = zd S 77 34 [some (.ref 4), some (.int (nI (i + rn T N a m)))] [] (cA I (a + rn T N a m)) J k := by
  intro m
  induction m with
  | zero =>
    intro i a ha hm
    have hi : i = 12 := by omega
    subst hi
    have h12 : (12 : Int32) ≤ nI 12 := nI_le (a := 12) (Nat.le_refl _) (by decide)
    rw [B77_2, if_pos h12]
    rfl
  | succ m ih =>
    intro i a ha hm
    have h12 : ¬ (12 : Int32) ≤ nI i := nI_ge (b := 12) (by omega) (by decide)
    rw [B77_2, if_neg h12, B77_8 hb (s79 hx (by omega)), B77_12 hb (s19x hx.2.2), B77_15]
    unfold rn
    cases h : isN (ch T N a) with
    | false =>
      rw [if_pos ((bI_0 _).mpr rfl), if_neg (by decide)]
      rfl
    | true =>
      have hN := isN_in h
      have := hx.2.2.1
      rw [if_neg (by decide), B77_18, B77_31, cA_3, nI_1, nI_1, cA_u, ih (i + 1) (a + 1) (by omega) (by omega), if_pos rfl, show i + 1 + rn T N (a + 1) m = i + (rn T N (a + 1) m + 1) from by omega, show a + 1 + rn T N (a + 1) m = a + (rn T N (a + 1) m + 1) from by omega]
theorem s77 {a : Nat} (hx : cTx I T N) (ha : a ≤ N) : zq S 77 [.ref 4] (cA I a) J (some (.int (bI (wOk T N a)))) (cA I (a + rn T N a 12)) J := by
  refine zq_of rfl ?_
  show zd S 77 0 [some (.ref 4), none] [] (cA I a) J (0, 0) = _
  have hN := hx.2.2.1
  have hl := rn_le (T := T) (N := N) 12 a
  have e0 : nI (rn T N a 12) ≤ 0 ↔ rn T N a 12 ≤ 0 := nI_leI (b := 0) (by omega) (by decide)
  rw [B77_0, show (0 : Int32) = nI 0 from rfl, g77_l hx ⟨rfl, rfl⟩ 12 0 a (by omega) (by omega), Nat.zero_add, B77_34]
  unfold wOk
  by_cases h0 : rn T N a 12 ≤ 0
  · rw [if_pos (e0.mpr h0), B77_52 rfl, decide_eq_false (by omega : ¬ 0 < rn T N a 12)]
    rfl
  · rw [if_neg (fun z => h0 (e0.mp z)), B77_38 ⟨rfl, rfl⟩ (s79 hx (by omega)), B77_42 ⟨rfl, rfl⟩ (s19x hx.2.2), B77_45, decide_eq_true (by omega : 0 < rn T N a 12)]
    cases isN (ch T N (a + rn T N a 12)) with
    | true => rw [if_pos (by decide), B77_52 rfl]; rfl
    | false => rw [if_neg (not_not_intro ((bI_0 _).mpr rfl)), B77_48 rfl]; rfl
theorem g76_l {M : Nat} (hM : M < 2 ^ 31) (hx : cTx I T N) (hb : Nat.ble k.1 (mBu 76).1 = true ∧ Nat.ble k.2 (mBu 76).2 = true) : ∀ (m i a : Nat), a ≤ N → M = i + m →
    zd S 76 2 [some (.ref 4), some (.int (nI M)), some (.int (nI i))] [] (cA I a) J k = some (some (.int (bI (wsB T N m a))), mk (cA I (wsA T N m a)) J, k) := by
  intro m
  induction m with
  | zero =>
    intro i a ha hm
    have hi : M = i := by omega
    subst hi
    rw [B76_2, if_pos (nI_le (Nat.le_refl _) hM), B76_33 rfl]
    rfl
  | succ m ih =>
    intro i a ha hm
    have hN := hx.2.2.1
    have h1 := rn_N (T := T) (N := N) 12 a ha
    rw [B76_2, if_neg (nI_ge (by omega) hM), B76_7 hb (s77 hx ha), B76_11]
    unfold wsB wsA
    cases hw : wOk T N a with
    | false =>
      have hcc : ¬ (false = true ∧ ch T N (a + rn T N a 12) = 32) := fun z => Bool.false_ne_true z.1
      rw [if_neg (not_not_intro ((bI_0 _).mpr rfl)), B76_14 rfl, if_neg hcc]
      rfl
    | true =>
      have h78 := s78 (S := S) (J := J) (c := 32) hx (by omega : a + rn T N a 12 < 2 ^ 31) (by decide) (by decide)
      rw [if_pos (by decide), B76_16 hb h78, B76_22, Bool.true_and]
      by_cases hc : ch T N (a + rn T N a 12) = 32
      · have hl : a + rn T N a 12 < N := ch_in (T := T) (by omega)
        have hcc : true = true ∧ ch T N (a + rn T N a 12) = 32 := ⟨rfl, hc⟩
        rw [decide_eq_true hc, if_pos (by decide), B76_27, nI_1, if_pos hc, if_pos hc, if_pos hcc, ih (i + 1) _ (by omega) (by omega)]
      · have hcc : ¬ (true = true ∧ ch T N (a + rn T N a 12) = 32) := fun z => hc z.2
        rw [decide_eq_false hc, if_neg (not_not_intro ((bI_0 _).mpr rfl)), B76_25 rfl, if_neg hc, if_neg hc, if_neg hcc]
        rfl
theorem s76 {M a : Nat} (hM : M < 2 ^ 31) (hx : cTx I T N) (ha : a ≤ N) : zq S 76 [.ref 4, .int (nI M)] (cA I a) J (some (.int (bI (wsB T N M a)))) (cA I (wsA T N M a)) J := by
  refine zq_of rfl ?_
  show zd S 76 0 [some (.ref 4), some (.int (nI M)), none] [] (cA I a) J (0, 0) = _
  rw [B76_0, show (0 : Int32) = nI 0 from rfl]
  exact g76_l hM hx ⟨rfl, rfl⟩ M 0 a ha (by omega)
end WORDS
