/-! signs and values of a pattern -/
def isN (c : Nat) : Bool := decide (97 ≤ c) && decide (c ≤ 122)
theorem isN_i (c : Nat) : isN c = true ↔ 97 ≤ c ∧ c ≤ 122 := by
  unfold isN
  simp
def okS (v n i : Nat) : Bool := isN (byt v n i) || (decide (byt v n i = 46) && (decide (i = 0) || decide (i = n - 1)))
def sgA (v n : Nat) : Nat → Nat → Bool
  | _, 0 => true
  | i, m + 1 => okS v n i && sgA v n (i + 1) m
def sgE (v n : Nat) : Nat → Nat → Bool
  | _, 0 => false
  | i, m + 1 => isN (byt v n i) || sgE v n (i + 1) m
def vlA (v n : Nat) : Nat → Nat → Bool
  | _, 0 => true
  | i, m + 1 => decide (byt v n i ≤ 9) && vlA v n (i + 1) m
theorem nI_n1 {n : Nat} (h : 1 ≤ n) : nI n - 1 = nI (n - 1) := by
  rw [show (1 : Int32) = nI 1 from rfl, pk_sub h]
section SIGNS
variable {S : Nat × (Nat → Int32)} {I : zI} {J : zJ} {k : zK}
theorem g56_s {v n i c : Nat} {h : Bool} (hn : 1 ≤ n ∧ n ≤ 8) (hi : i < n) (hc : c < 256) (hb : Nat.ble k.1 (mBu 56).1 = true ∧ Nat.ble k.2 (mBu 56).2 = true) :
    zd S 56 31 [some (.long (lN v)), none, some (.int (nI n)), some (.int (bI h)), some (.int (nI i)), none, none] [.int (nI c)] I J k =
      if isN c = true then zd S 56 18 [some (.long (lN v)), none, some (.int (nI n)), some (.int (bI true)), some (.int (nI (i + 1))), none, none] [] I J k
      else if c = 46 ∧ (i = 0 ∨ i = n - 1) then zd S 56 18 [some (.long (lN v)), none, some (.int (nI n)), some (.int (bI h)), some (.int (nI (i + 1))), none, none] [] I J k
      else some (some (.int (bI false)), mk I J, k) := by
  have e0 : nI i = 0 ↔ i = 0 := nI_eq (b := 0) (by omega) (by decide)
  have e1 : nI i = nI n - 1 ↔ i = n - 1 := by rw [nI_n1 hn.1]; exact nI_eq (by omega) (by omega)
  have e2 : nI c = 46 ↔ c = 46 := nI_eq (b := 46) (by omega) (by decide)
  have key : ∀ (d : Bool), (d = true ↔ (i = 0 ∨ i = n - 1)) → zd S 56 58 [some (.long (lN v)), none, some (.int (nI n)), some (.int (bI h)), some (.int (nI i)), some (.int (nI c)), some (.int (bI d))] [.int (bI (isL (nI c)))] I J k =
      if isN c = true then zd S 56 18 [some (.long (lN v)), none, some (.int (nI n)), some (.int (bI true)), some (.int (nI (i + 1))), none, none] [] I J k
      else if c = 46 ∧ (i = 0 ∨ i = n - 1) then zd S 56 18 [some (.long (lN v)), none, some (.int (nI n)), some (.int (bI h)), some (.int (nI (i + 1))), none, none] [] I J k
      else some (some (.int (bI false)), mk I J, k) := by
    intro d hd
    rw [B56_58, isL_of c (by omega), show (decide (97 ≤ c) && decide (c ≤ 122)) = isN c from rfl]
    cases hN : isN c with
    | true => rw [if_neg (by decide), B56_61, nI_1, if_pos rfl]; rfl
    | false =>
      rw [if_pos ((bI_0 _).mpr rfl), B56_66, if_neg (by decide : ¬ false = true)]
      by_cases h46 : c = 46
      · rw [if_neg (not_not_intro (e2.mpr h46)), B56_73]
        cases d with
        | true => rw [if_pos (by decide), B56_80, nI_1, if_pos ⟨h46, hd.mp rfl⟩]
        | false =>
          rw [if_neg (by decide), B56_78 rfl, if_neg (fun z => by have := hd.mpr z.2; cases this)]
          rfl
      · rw [if_pos (fun z => h46 (e2.mp z)), B56_78 rfl, if_neg (fun z => h46 z.1)]
        rfl
  rw [B56_31]
  by_cases h0 : i = 0
  · rw [if_pos (e0.mpr h0), B56_46 hb (s19 _)]
    exact key true ⟨fun _ => Or.inl h0, fun _ => rfl⟩
  · rw [if_neg (fun z => h0 (e0.mp z)), B56_38]
    by_cases h1 : i = n - 1
    · rw [if_neg (not_not_intro (e1.mpr h1)), B56_46 hb (s19 _)]
      exact key true ⟨fun _ => Or.inr h1, fun _ => rfl⟩
    · rw [if_pos (fun z => h1 (e1.mp z)), B56_50 hb (s19 _)]
      exact key false ⟨fun z => (by cases z), fun z => (by omega)⟩
theorem g56_l {v n : Nat} (hv : v < 2 ^ 64) (hn : 1 ≤ n ∧ n ≤ 8) (hb : Nat.ble k.1 (mBu 56).1 = true ∧ Nat.ble k.2 (mBu 56).2 = true) : ∀ (m i : Nat) (h : Bool), n = i + m →
    zd S 56 18 [some (.long (lN v)), none, some (.int (nI n)), some (.int (bI h)), some (.int (nI i)), none, none] [] I J k = some (some (.int (bI (sgA v n i m && (h || sgE v n i m)))), mk I J, k) := by
  intro m
  induction m with
  | zero =>
    intro i h hm
    have hi : n = i := by omega
    subst hi
    rw [B56_18, if_pos (nI_le (Nat.le_refl _) (by omega)), B56_86 (bI_z h)]
    cases h <;> rfl
  | succ m ih =>
    intro i h hm
    rw [B56_18, if_neg (nI_ge (by omega) (by omega)), B56_24 hb (s21 hv hn.2 (by omega)), g56_s hn (by omega) (byt_lt _ _ _) hb, ih (i + 1) true (by omega), ih (i + 1) h (by omega)]
    show _ = some (some (Value.int (bI ((okS v n i && sgA v n (i + 1) m) && (h || (isN (byt v n i) || sgE v n (i + 1) m))))), mk I J, k)
    unfold okS
    cases hN : isN (byt v n i) with
    | true => cases sgA v n (i + 1) m <;> cases h <;> rfl
    | false =>
      rw [if_neg (by decide : ¬ false = true)]
      by_cases h2 : byt v n i = 46 ∧ (i = 0 ∨ i = n - 1)
      · rw [if_pos h2, decide_eq_true h2.1]
        have e : (decide (i = 0) || decide (i = n - 1)) = true := by simp [h2.2]
        rw [e]
        rfl
      · rw [if_neg h2]
        have e : (decide (byt v n i = 46) && (decide (i = 0) || decide (i = n - 1))) = false := by
          by_cases h3 : byt v n i = 46
          · have h4 : ¬ (i = 0 ∨ i = n - 1) := fun z => h2 ⟨h3, z⟩
            rw [decide_eq_true h3, decide_eq_false (fun z => h4 (Or.inl z)), decide_eq_false (fun z => h4 (Or.inr z))]
            rfl
          · rw [decide_eq_false h3]
            rfl
        rw [e]
        rfl
/-- a pattern's signs are right: n of them, letters, at least one, dots at its ends alone -/
def sgOk (v : Nat) (x : Int32) : Bool := !decide (x < 1) && (decide (x ≤ 6) && (sgA v x.toNatClampNeg 0 x.toNatClampNeg && sgE v x.toNatClampNeg 0 x.toNatClampNeg))
theorem le6 {x : Int32} (h1 : ¬ x < 1) (h2 : x ≤ 6) : ∃ n : Nat, 1 ≤ n ∧ n ≤ 6 ∧ x = nI n := by
  rw [Int32.lt_iff_toInt_lt] at h1
  rw [Int32.le_iff_toInt_le] at h2
  have e1 : (1 : Int32).toInt = 1 := by decide
  have e8 : (6 : Int32).toInt = 6 := by decide
  rw [e1] at h1
  rw [e8] at h2
  obtain ⟨n, hn, rfl⟩ := nI_of (x := x) (by rw [Int32.lt_iff_toInt_lt, Int32.toInt_zero]; omega)
  rw [nI_toInt hn] at h1 h2
  exact ⟨n, by omega, by omega, rfl⟩
theorem s56 {v : Nat} (x : Int32) (hv : v < 2 ^ 64) : zq S 56 [.long (lN v), .int x] I J (some (.int (bI (sgOk v x)))) I J := by
  refine zq_of rfl ?_
  show zd S 56 0 [some (.long (lN v)), none, some (.int x), none, none, none, none] [] I J (0, 0) = _
  unfold sgOk
  rw [B56_0]
  by_cases h1 : x < 1
  · rw [if_pos h1, B56_11 rfl, decide_eq_true h1]; rfl
  · rw [if_neg h1, B56_5, decide_eq_false h1]
    by_cases h2 : x ≤ 6
    · obtain ⟨n, n1, n6, rfl⟩ := le6 h1 h2
      have := g56_l (S := S) (I := I) (J := J) (k := (0, 0)) hv ⟨n1, by omega⟩ ⟨rfl, rfl⟩ n 0 false (by omega)
      rw [if_pos h2, B56_13, decide_eq_true h2, nI_clamp (by omega)]
      refine this.trans ?_
      rfl
    · rw [if_neg h2, B56_11 rfl, decide_eq_false h2]; rfl
theorem g57_l {v n : Nat} (hv : v < 2 ^ 64) (hn : n ≤ 8) (hb : Nat.ble k.1 (mBu 57).1 = true ∧ Nat.ble k.2 (mBu 57).2 = true) : ∀ (m i : Nat), n = i + m →
    zd S 57 2 [some (.long (lN v)), none, some (.int (nI n)), some (.int (nI i))] [] I J k = some (some (.int (bI (vlA v n i m))), mk I J, k) := by
  intro m
  induction m with
  | zero =>
    intro i hm
    have hi : n = i := by omega
    subst hi
    rw [B57_2, if_pos (nI_le (Nat.le_refl _) (by omega)), B57_26 rfl]
    rfl
  | succ m ih =>
    intro i hm
    have e : nI (byt v n i) ≤ 9 ↔ byt v n i ≤ 9 := nI_leI (b := 9) (by have := byt_lt v n i; omega) (by decide)
    rw [B57_2, if_neg (nI_ge (by omega) (by omega)), B57_7 hb (s21 hv hn (by omega)), B57_13]
    show _ = some (some (Value.int (bI (decide (byt v n i ≤ 9) && vlA v n (i + 1) m))), mk I J, k)
    by_cases h : byt v n i ≤ 9
    · rw [if_pos (e.mpr h), B57_20, nI_1, ih (i + 1) (by omega), decide_eq_true h]
      rfl
    · rw [if_neg (fun z => h (e.mp z)), B57_18 rfl, decide_eq_false h]
      rfl
theorem s57 {v n : Nat} (hv : v < 2 ^ 64) (hn : n ≤ 8) : zq S 57 [.long (lN v), .int (nI n)] I J (some (.int (bI (vlA v n 0 n)))) I J := by
  refine zq_of rfl ?_
  show zd S 57 0 [some (.long (lN v)), none, some (.int (nI n)), none] [] I J (0, 0) = _
  rw [B57_0]
  exact g57_l hv hn ⟨rfl, rfl⟩ n 0 (by omega)
/-- the model's -/
theorem g98_l {v n : Nat} (hv : v < 2 ^ 64) (hn : 1 ≤ n ∧ n ≤ 8) (hb : Nat.ble k.1 (mBu 98).1 = true ∧ Nat.ble k.2 (mBu 98).2 = true) : ∀ (m i c : Nat) (g : Bool), n = i + m → c ≤ i →
    zd S 98 8 [some (.long (lN v)), none, some (.int (nI n)), some (.int (bI g)), some (.int (nI c)), some (.int (nI i)), none] [] I J k = some (some (.int (bI ((g && sgA v n i m) && (decide (0 < c) || sgE v n i m)))), mk I J, k) := by
  intro m
  induction m with
  | zero =>
    intro i c g hm hci
    have hi : n = i := by omega
    subst hi
    rw [B98_8, if_pos (nI_le (Nat.le_refl _) (by omega)), B98_86]
    cases g with
    | false => rw [if_pos (by decide), B98_99 rfl]; rfl
    | true =>
      have e : nI c ≤ 0 ↔ c ≤ 0 := nI_leI (b := 0) (by omega) (by decide)
      rw [if_neg (by decide), B98_90]
      by_cases h : c ≤ 0
      · rw [if_pos (e.mpr h), B98_99 rfl, decide_eq_false (by omega)]; rfl
      · rw [if_neg (fun z => h (e.mp z)), B98_95 rfl, decide_eq_true (by omega)]; rfl
  | succ m ih =>
    intro i c g hm hci
    have hc := byt_lt v n i
    have e0 : nI i = 0 ↔ i = 0 := nI_eq (b := 0) (by omega) (by decide)
    have e1 : nI i = nI n - 1 ↔ i = n - 1 := by rw [nI_n1 hn.1]; exact nI_eq (by omega) (by omega)
    have e2 : nI (byt v n i) = 46 ↔ byt v n i = 46 := nI_eq (b := 46) (by omega) (by decide)
    rw [B98_8, if_neg (nI_ge (by omega) (by omega)), B98_14 hb (s97 hv hn.2 (by omega)), B98_21 hb (s95 _), B98_28, isL_of _ (by omega), show (decide (97 ≤ byt v n i) && decide (byt v n i ≤ 122)) = isN (byt v n i) from rfl]
    show _ = some (some (Value.int (bI ((g && (okS v n i && sgA v n (i + 1) m)) && (decide (0 < c) || (isN (byt v n i) || sgE v n (i + 1) m))))), mk I J, k)
    have key : ∀ c', c' ≤ i + 1 → zd S 98 46 [some (.long (lN v)), none, some (.int (nI n)), some (.int (bI true)), some (.int (nI c')), some (.int (nI i)), some (.int (nI (byt v n i)))] [] I J k = some (some (.int (bI ((okS v n i && sgA v n (i + 1) m) && (decide (0 < c') || sgE v n (i + 1) m)))), mk I J, k) := by
      intro c' hc'
      rw [B98_46 hb (s95 _), B98_51, isL_of _ (by omega), show (decide (97 ≤ byt v n i) && decide (byt v n i ≤ 122)) = isN (byt v n i) from rfl]
      unfold okS
      cases hN : isN (byt v n i) with
      | true => rw [if_pos (by decide), B98_74, nI_1, show (1 : Int32) = bI true from rfl, ih (i + 1) c' true (by omega) hc']; rfl
      | false =>
        rw [if_neg (by decide), B98_54]
        by_cases h46 : byt v n i = 46
        · rw [if_neg (not_not_intro (e2.mpr h46)), B98_61, decide_eq_true h46]
          by_cases h0 : i = 0
          · rw [if_pos (e0.mpr h0), B98_74, nI_1, show (1 : Int32) = bI true from rfl, ih (i + 1) c' true (by omega) hc', decide_eq_true h0]; rfl
          · rw [if_neg (fun z => h0 (e0.mp z)), B98_66, decide_eq_false h0]
            by_cases h1 : i = n - 1
            · rw [if_neg (not_not_intro (e1.mpr h1)), B98_74, nI_1, show (1 : Int32) = bI true from rfl, ih (i + 1) c' true (by omega) hc', decide_eq_true h1]; rfl
            · rw [if_pos (fun z => h1 (e1.mp z)), B98_78, nI_1, show (0 : Int32) = bI false from rfl, ih (i + 1) c' false (by omega) hc', decide_eq_false h1]; rfl
        · rw [if_pos (fun z => h46 (e2.mp z)), B98_78, nI_1, show (0 : Int32) = bI false from rfl, ih (i + 1) c' false (by omega) hc', decide_eq_false h46]; rfl
    cases hN : isN (byt v n i) with
    | true =>
      rw [if_neg (by decide), B98_31, nI_1]
      cases g with
      | false => rw [if_pos (by decide), B98_78, nI_1, show (0 : Int32) = bI false from rfl, ih (i + 1) (c + 1) false (by omega) (by omega)]; rfl
      | true =>
        rw [if_neg (by decide), key (c + 1) (by omega), decide_eq_true (by omega : 0 < c + 1)]
        cases decide (0 < c) <;> rfl
    | false =>
      rw [if_pos (by decide), B98_38]
      cases g with
      | false => rw [if_pos (by decide), B98_78, nI_1, show (0 : Int32) = bI false from rfl, ih (i + 1) c false (by omega) (by omega)]; rfl
      | true =>
        rw [if_neg (by decide), key c (by omega)]
        rfl
theorem s98 {v n : Nat} (hv : v < 2 ^ 64) (hn : 1 ≤ n ∧ n ≤ 8) : zq S 98 [.long (lN v), .int (nI n)] I J (some (.int (bI (sgA v n 0 n && sgE v n 0 n)))) I J := by
  refine zq_of rfl ?_
  show zd S 98 0 [some (.long (lN v)), none, some (.int (nI n)), none, none, none, none] [] I J (0, 0) = _
  rw [B98_0]
  exact g98_l hv hn ⟨rfl, rfl⟩ n 0 0 true (by omega) (by omega)
end SIGNS
