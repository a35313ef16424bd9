/-! plan: where a word may be cut is marked -/
def hbt (n j : Nat) : Bool := decide (n / 2 ^ j % 2 = 1)
def mwA (f : Nat → Int32) (n a i : Nat) : Nat → Int32 := fun q => if (a + 1 ≤ q ∧ q < i) ∧ hbt n (q - a) = true then 2 else f q
theorem mwA_0 (f : Nat → Int32) (n a : Nat) : mwA f n a (a + 1) = f := by
  funext q
  unfold mwA
  rw [if_neg (fun z => by have := z.1; omega)]
theorem mwA_s (f : Nat → Int32) (n a i : Nat) (h : a + 1 ≤ i) : mwA f n a (i + 1) = if hbt n (i - a) = true then upd (mwA f n a i) i 2 else mwA f n a i := by
  by_cases hb : hbt n (i - a) = true
  · rw [if_pos hb]
    funext q
    unfold upd mwA
    by_cases hq : q = i
    · have hh : (a + 1 ≤ q ∧ q < i + 1) ∧ hbt n (q - a) = true := ⟨by omega, by rw [hq]; exact hb⟩
      rw [if_pos hq, if_pos hh]
    · rw [if_neg hq]
      by_cases h2 : (a + 1 ≤ q ∧ q < i) ∧ hbt n (q - a) = true
      · have hh : (a + 1 ≤ q ∧ q < i + 1) ∧ hbt n (q - a) = true := ⟨by have := h2.1; omega, h2.2⟩
        rw [if_pos h2, if_pos hh]
      · have hh : ¬ ((a + 1 ≤ q ∧ q < i + 1) ∧ hbt n (q - a) = true) := fun z => h2 ⟨by have := z.1; omega, z.2⟩
        rw [if_neg h2, if_neg hh]
  · rw [if_neg hb]
    funext q
    unfold mwA
    by_cases h2 : (a + 1 ≤ q ∧ q < i) ∧ hbt n (q - a) = true
    · have hh : (a + 1 ≤ q ∧ q < i + 1) ∧ hbt n (q - a) = true := ⟨by have := h2.1; omega, h2.2⟩
      rw [if_pos h2, if_pos hh]
    · have hh : ¬ ((a + 1 ≤ q ∧ q < i + 1) ∧ hbt n (q - a) = true) := fun z => by
        by_cases hq : q = i
        · exact hb (hq ▸ z.2)
        · exact h2 ⟨by have := z.1; omega, z.2⟩
      rw [if_neg h2, if_neg hh]
section MARK
variable {S : Nat × (Nat → Int32)} {I : zI} {J : zJ} {k : zK}
theorem s22 {n j : Nat} (hn : n < 2 ^ 64) (hj : j < 64) : zq S 22 [.long (lN n), .int (nI j)] I J (some (.int (bI (hbt n j)))) I J := by
  refine zq_of rfl ?_
  show zd S 22 0 [some (.long (lN n)), none, some (.int (nI j))] [] I J (0, 0) = _
  have e : lg_cmp (lN (n / 2 ^ j % 2)) 0 = 0 ↔ n / 2 ^ j % 2 = 0 := by
    rw [cmp0]
    exact lN_eq (b := 0) (by omega) (by decide)
  unfold hbt
  rw [B22_0, wb_bit hn hj]
  by_cases h : n / 2 ^ j % 2 = 0
  · rw [if_pos (e.mpr h), B22_14 rfl, decide_eq_false (by omega : ¬ n / 2 ^ j % 2 = 1)]
    rfl
  · rw [if_neg (fun z => h (e.mp z)), B22_10 rfl, decide_eq_true (by omega : n / 2 ^ j % 2 = 1)]
    rfl
theorem g27_l {a b n : Nat} (hab : a < b) (hb7 : b ≤ 207) (hba : b - a < 64) (hn : n < 2 ^ 31) (hb : Nat.ble k.1 (mBu 27).1 = true ∧ Nat.ble k.2 (mBu 27).2 = true) : ∀ (m i : Nat), a + 1 ≤ i → b = i + m →
    zd S 27 5 [some (.ref 55), some (.int (nI a)), some (.int (nI b)), some (.int (nI n)), some (.int (nI i))] [] (uc I 62 (mwA (I 62) n a i)) J k = some (none, mk (uc I 62 (upd (mwA (I 62) n a b) b 1)) J, k) := by
  intro m
  induction m with
  | zero =>
    intro i hi hm
    have hi : b = i := by omega
    subst hi
    rw [B27_5, if_pos (nI_le (Nat.le_refl _) (by omega)), B27_37 (zin_n (by omega) (by decide)), B27_44, nI_clamp (by omega), u2uc]
  | succ m ih =>
    intro i hi hm
    have hs := mwA_s (I 62) n a i hi
    have h22 : zq S 22 [.long (nI n).toInt64, .int (nI i - nI a)] (uc I 62 (mwA (I 62) n a i)) J (some (.int (bI (hbt n (i - a))))) (uc I 62 (mwA (I 62) n a i)) J := by
      rw [nI_l hn, pk_sub (by omega)]
      exact s22 (by omega) (by omega)
    rw [B27_5, if_neg (nI_ge (by omega) (by omega)), B27_11 hb h22, B27_20]
    cases hbt' : hbt n (i - a) with
    | false =>
      rw [hbt', if_neg (by decide)] at hs
      rw [if_pos ((bI_0 _).mpr rfl), B27_31, nI_1, ← hs]
      exact ih (i + 1) (by omega) (by omega)
    | true =>
      rw [hbt', if_pos rfl] at hs
      rw [if_neg (by decide), B27_23 (zin_n (by omega) (by decide)), B27_31, nI_1, nI_clamp (by omega), u2uc, ← hs]
      exact ih (i + 1) (by omega) (by omega)
theorem s27 {a b n : Nat} (hab : a < b) (hb7 : b ≤ 207) (hba : b - a < 64) (hn : n < 2 ^ 31) : zq S 27 [.ref 55, .int (nI a), .int (nI b), .int (nI n)] I J none (uc I 62 (upd (mwA (I 62) n a b) b 1)) J := by
  refine zq_of rfl ?_
  show zd S 27 0 [some (.ref 55), some (.int (nI a)), some (.int (nI b)), some (.int (nI n)), none] [] I J (0, 0) = _
  have hl := g27_l (S := S) (I := I) (J := J) (k := (0, 0)) hab hb7 hba hn ⟨rfl, rfl⟩ (b - (a + 1)) (a + 1) (Nat.le_refl _) (by omega)
  rw [mwA_0, uc_id] at hl
  rw [B27_0, nI_1]
  exact hl
end MARK
