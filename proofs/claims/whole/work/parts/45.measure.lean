/-! plan: what is forgotten and kept before it; the units before each character of a paragraph -/
def wu (W : Nat → Nat) (c : Nat) : Nat := if isN c = true then W (c - 97) else 3
def ub (W T : Nat → Nat) (a : Nat) : Nat → Nat
  | 0 => 0
  | i + 1 => ub W T a i + wu W (T (a + i))
def ubA (f : Nat → Int32) (W T : Nat → Nat) (a i : Nat) : Nat → Int32 := fun q => if q ≤ i then nI (ub W T a q) else f q
theorem ubA_0 {f : Nat → Int32} (W T : Nat → Nat) (a : Nat) (h : f 0 = nI 0) : ubA f W T a 0 = f := by
  funext q
  unfold ubA
  by_cases hq : q ≤ 0
  · have : q = 0 := by omega
    rw [if_pos hq, this, h]
    rfl
  · rw [if_neg hq]
theorem ubA_s (f : Nat → Int32) (W T : Nat → Nat) (a i : Nat) : upd (ubA f W T a i) (i + 1) (nI (ub W T a i + wu W (T (a + i)))) = ubA f W T a (i + 1) := by
  funext q
  unfold upd ubA
  by_cases h : q = i + 1
  · rw [if_pos h, if_pos (by omega), h]
    rfl
  · rw [if_neg h]
    by_cases h2 : q ≤ i
    · rw [if_pos h2, if_pos (by omega)]
    · rw [if_neg h2, if_neg (by omega)]
section MEASURE
variable {S : Nat × (Nat → Int32)} {I : zI} {J : zJ} {k : zK}
theorem s90 {s : Nat} (hs : s < 4) : zq S 90 [.ref (7 + 12 * s)] I J none (u2 (u2 (u2 I (7 + 12 * s) 14 0) (7 + 12 * s) 15 0) (7 + 12 * s) 16 0) (v2 J (7 + 12 * s) 17 0) := by
  refine zq_of rfl ?_
  show zd S 90 0 [some (.ref (7 + 12 * s))] [] I J (0, 0) = _
  rw [B90_0 hs, B90_5 hs, B90_10 hs, B90_15 hs, B90_20 hs]
theorem g25_l {W T : Nat → Nat} {a L : Nat} (hL : L ≤ 207) (ha : a + L ≤ 480) (h6 : I 55 6 = nI L) (h5 : ∀ i, i < L → I 5 (a + i) = nI (T (a + i))) (hT : ∀ i, i < L → T (a + i) < 256) (hW : ∀ j, j < 26 → I 1 j = nI (W j)) (hb : Nat.ble k.1 (mBu 25).1 = true ∧ Nat.ble k.2 (mBu 25).2 = true) : ∀ (m i : Nat), L = i + m →
    zd S 25 3 [some (.ref 55), some (.ref 5), some (.int (nI a)), some (.ref 1), some (.int (nI i)), none] [] (uc I 61 (ubA (I 61) W T a i)) J k = some (none, mk (uc I 61 (ubA (I 61) W T a L)) J, k) := by
  intro m
  induction m with
  | zero =>
    intro i hm
    have hi : L = i := by omega
    subst hi
    rw [B25_3, ucn rfl, h6, if_pos (nI_le (Nat.le_refl _) (by omega)), B25_62]
  | succ m ih =>
    intro i hm
    have hc := hT i (by omega)
    have hcl : (nI a + nI i).toNatClampNeg = a + i := by rw [nI_add, nI_clamp (by omega)]
    have e5 : (uc I 61 (ubA (I 61) W T a i)) 5 (nI a + nI i).toNatClampNeg = nI (T (a + i)) := by rw [hcl, ucn rfl, h5 i (by omega)]
    have e61 : (uc I 61 (ubA (I 61) W T a i)) 61 (nI i).toNatClampNeg = nI (ub W T a i) := by
      rw [uc_s, nI_clamp (by omega)]
      exact if_pos (Nat.le_refl _)
    have hq : zq S 19 [.int ((uc I 61 (ubA (I 61) W T a i)) 5 (nI a + nI i).toNatClampNeg)] (uc I 61 (ubA (I 61) W T a i)) J (some (.int (bI (isN (T (a + i)))))) (uc I 61 (ubA (I 61) W T a i)) J := by
      rw [e5]
      exact s19n hc
    have hs := ubA_s (I 61) W T a i
    have hz : zin (nI i + 1) 208 = true := by rw [nI_1]; exact zin_n (by omega) (by decide)
    rw [B25_3, ucn rfl, h6, if_neg (nI_ge (by omega) (by omega)), B25_12 hb (by rw [nI_add]; exact zin_n (by omega) (by decide)) (zin_n (by omega) (by decide)) hq, e5, e61, B25_40]
    cases hn : isN (T (a + i)) with
    | false =>
      have hw : wu W (T (a + i)) = 3 := if_neg (by rw [hn]; decide)
      rw [hw] at hs
      rw [if_pos ((bI_0 _).mpr rfl), B25_53 hz, nI_1, nI_clamp (by omega), show (3 : Int32) = nI 3 from rfl, nI_add, u2uc, hs, B25_56, nI_1]
      exact ih (i + 1) (by omega)
    | true =>
      have hr := (isN_i _).mp hn
      have hw : wu W (T (a + i)) = W (T (a + i) - 97) := if_pos hn
      rw [hw] at hs
      have e97 : nI (T (a + i)) - 97 = nI (T (a + i) - 97) := pk_sub (b := 97) (by omega)
      have e1 : (uc I 61 (ubA (I 61) W T a i)) 1 (T (a + i) - 97) = nI (W (T (a + i) - 97)) := by rw [ucn rfl, hW _ (by omega)]
      rw [if_neg (by decide), B25_43 (by rw [e97]; exact zin_n (by omega) (by decide)) hz, e97, nI_clamp (n := T (a + i) - 97) (by omega), e1, nI_1, nI_clamp (by omega), nI_add, u2uc, hs, B25_56, nI_1]
      exact ih (i + 1) (by omega)
theorem s25 {W T : Nat → Nat} {a L : Nat} (hL : L ≤ 207) (ha : a + L ≤ 480) (h6 : I 55 6 = nI L) (h0 : I 61 0 = nI 0) (h5 : ∀ i, i < L → I 5 (a + i) = nI (T (a + i))) (hT : ∀ i, i < L → T (a + i) < 256) (hW : ∀ j, j < 26 → I 1 j = nI (W j)) :
    zq S 25 [.ref 55, .ref 5, .int (nI a), .ref 1] I J none (uc I 61 (ubA (I 61) W T a L)) J := by
  refine zq_of rfl ?_
  show zd S 25 0 [some (.ref 55), some (.ref 5), some (.int (nI a)), some (.ref 1), none, none] [] I J (0, 0) = _
  have hl := g25_l (S := S) (J := J) (k := (0, 0)) hL ha h6 h5 hT hW ⟨rfl, rfl⟩ L 0 (by omega)
  rw [ubA_0 W T a h0, uc_id] at hl
  rw [B25_0]
  exact hl
end MEASURE
