/-! reading: characters, words (the other side) -/
def mTx (I : zI) (T : Nat → Nat) (N : Nat) : Prop := I 76 12 = nI N ∧ (∀ i, i < N → I 84 i = nI (T i)) ∧ okX T N
/-- the memory with place a, fault w, and letters, word ends, word counts, letter counts -/
def mA (I : zI) (a : Nat) (w : Int32) (f g p q : Nat → Int32) : zI := uc (uc (uc (uc (uc I 76 (upd (upd (I 76) 22 (nI a)) 23 w)) 89 f) 90 g) 91 p) 92 q
theorem upd_upd (f : Nat → Int32) (i : Nat) (x y : Int32) : upd (upd f i x) i y = upd f i y := by
  funext q
  unfold upd
  by_cases h : q = i
  · rw [if_pos h, if_pos h]
  · rw [if_neg h, if_neg h, if_neg h]
theorem upd_comm (f : Nat → Int32) {i j : Nat} (x y : Int32) (h : i ≠ j) : upd (upd f i x) j y = upd (upd f j y) i x := by
  funext q
  unfold upd
  by_cases h1 : q = j
  · rw [if_pos h1, if_neg (by omega), if_pos h1]
  · rw [if_neg h1]
    by_cases h2 : q = i
    · rw [if_pos h2, if_pos h2]
    · rw [if_neg h2, if_neg h2, if_neg h1]
theorem u2_uc {I : zI} {c b e : Nat} {f : Nat → Int32} {x : Int32} (h : Nat.beq c b = false) : u2 (uc I b f) c e x = uc (u2 I c e x) b f := by
  unfold u2
  rw [ucn h, uc_comm (Ne.symm (Nat.ne_of_beq_eq_false h))]
section MA
variable {I : zI} {a : Nat} {w : Int32} {f g p q : Nat → Int32}
theorem mA_22 (b : Nat) : u2 (mA I a w f g p q) 76 22 (nI b) = mA I b w f g p q := by
  unfold mA
  rw [u2_uc rfl, u2_uc rfl, u2_uc rfl, u2_uc rfl, u2uc, upd_comm _ _ _ (by decide), upd_upd, upd_comm _ _ _ (by decide)]
theorem mA_23 (x : Int32) : u2 (mA I a w f g p q) 76 23 x = mA I a x f g p q := by
  unfold mA
  rw [u2_uc rfl, u2_uc rfl, u2_uc rfl, u2_uc rfl, u2uc, upd_upd]
theorem mA_89 (i : Nat) (x : Int32) : u2 (mA I a w f g p q) 89 i x = mA I a w (upd f i x) g p q := by
  unfold mA
  rw [u2_uc rfl, u2_uc rfl, u2_uc rfl, u2uc]
theorem mA_90 (i : Nat) (x : Int32) : u2 (mA I a w f g p q) 90 i x = mA I a w f (upd g i x) p q := by
  unfold mA
  rw [u2_uc rfl, u2_uc rfl, u2uc]
theorem mA_91 (i : Nat) (x : Int32) : u2 (mA I a w f g p q) 91 i x = mA I a w f g (upd p i x) q := by
  unfold mA
  rw [u2_uc rfl, u2uc]
theorem mA_92 (i : Nat) (x : Int32) : u2 (mA I a w f g p q) 92 i x = mA I a w f g p (upd q i x) := by
  unfold mA
  rw [u2uc]
theorem mA_a : mA I a w f g p q 76 22 = nI a := by
  unfold mA
  rw [ucn rfl, ucn rfl, ucn rfl, ucn rfl, uc_s, pk_un (by decide), pk_us]
theorem mA_w : mA I a w f g p q 76 23 = w := by
  unfold mA
  rw [ucn rfl, ucn rfl, ucn rfl, ucn rfl, uc_s, pk_us]
theorem mA_f (e : Nat) (h1 : Nat.beq e 22 = false) (h2 : Nat.beq e 23 = false) : mA I a w f g p q 76 e = I 76 e := by
  unfold mA
  rw [ucn rfl, ucn rfl, ucn rfl, ucn rfl, uc_s, pk_un (Nat.ne_of_beq_eq_false h2), pk_un (Nat.ne_of_beq_eq_false h1)]
theorem mA_84 : mA I a w f g p q 84 = I 84 := by
  unfold mA
  rw [ucn rfl, ucn rfl, ucn rfl, ucn rfl, ucn rfl]
theorem mA_r91 : mA I a w f g p q 91 = p := by
  unfold mA
  rw [ucn rfl, uc_s]
theorem mA_r92 : mA I a w f g p q 92 = q := by
  unfold mA
  rw [uc_s]
end MA
theorem rn_stop {T : Nat → Nat} {N : Nat} : ∀ (m a : Nat), rn T N a m < m → isN (ch T N (a + rn T N a m)) = false
  | 0, _, h => absurd h (by omega)
  | m + 1, a, h => by
    unfold rn at h ⊢
    cases hc : isN (ch T N a) with
    | true =>
      rw [hc, if_pos rfl] at h
      rw [if_pos rfl, show a + (rn T N (a + 1) m + 1) = a + 1 + rn T N (a + 1) m from by omega]
      exact rn_stop m (a + 1) (by omega)
    | false =>
      rw [if_neg (by decide), Nat.add_zero]
      exact hc
/-- letters from a on, put at b -/
def ltA (f : Nat → Int32) (T : Nat → Nat) (N a b i : Nat) : Nat → Int32 := fun q => if b ≤ q ∧ q < b + i then nI (ch T N (a + (q - b))) else f q
theorem ltA_0 (f : Nat → Int32) (T : Nat → Nat) (N a b : Nat) : ltA f T N a b 0 = f := by
  funext q
  unfold ltA
  rw [if_neg (by omega)]
theorem ltA_s (f : Nat → Int32) (T : Nat → Nat) (N a b i : Nat) : upd (ltA f T N a b i) (b + i) (nI (ch T N (a + i))) = ltA f T N a b (i + 1) := by
  funext q
  unfold upd ltA
  by_cases h : q = b + i
  · subst h
    rw [if_pos rfl, if_pos (by omega), Nat.add_sub_cancel_left]
  · rw [if_neg h]
    by_cases h2 : b ≤ q ∧ q < b + i
    · rw [if_pos h2, if_pos (by omega)]
    · rw [if_neg h2, if_neg (by omega)]
section MWORDS
variable {S : Nat × (Nat → Int32)} {I : zI} {J : zJ} {k : zK} {T : Nat → Nat} {N : Nat} {f g p q : Nat → Int32}
theorem s107 {a : Nat} {w : Int32} (hx : mTx I T N) (ha : a < 2 ^ 31) : zq S 107 [.ref 76] (mA I a w f g p q) J (some (.int (nI (ch T N a)))) (mA I a w f g p q) J := by
  obtain ⟨h2, h5, hN, -⟩ := hx
  refine zq_of rfl ?_
  show zd S 107 0 [some (.ref 76)] [] _ J (0, 0) = _
  unfold ch
  rw [B107_0, mA_a, mA_f _ rfl rfl, h2]
  by_cases hl : a < N
  · rw [if_neg (nI_ge hl (by omega)), B107_11 (by rw [mA_a]; exact zin_n (by omega) (by decide)), mA_a, nI_clamp ha, mA_84, h5 a hl, if_pos hl]
  · rw [if_pos (nI_le (by omega) ha), B107_23, if_neg hl]
    rfl
theorem s108 {a : Nat} : zq S 108 [.ref 76] (mA I a (-1) f g p q) J none (mA I a (nI a) f g p q) J := by
  refine zq_of rfl ?_
  show zd S 108 0 [some (.ref 76)] [] _ J (0, 0) = _
  rw [B108_0, mA_w, if_neg (by decide), B108_8, B108_22, mA_a, mA_23]
theorem s109 {a lo hi : Nat} (hx : mTx I T N) (ha : a < 2 ^ 31) (hlo : lo < 256) (hhi : hi < 256) : zq S 109 [.ref 76, .int (nI lo), .int (nI hi)] (mA I a (-1) f g p q) J (some (.int (nI (ch T N a)))) (if lo ≤ ch T N a ∧ ch T N a ≤ hi then mA I (a + 1) (-1) f g p q else mA I a (nI a) f g p q) J := by
  refine zq_of rfl ?_
  show zd S 109 0 [some (.ref 76), some (.int (nI lo)), some (.int (nI hi)), none] [] _ J (0, 0) = _
  have hc := ch_lt hx.2.2 a
  have e1 : nI (ch T N a) < nI lo ↔ ch T N a < lo := nI_ltI (by omega) (by omega)
  have e2 : nI (ch T N a) ≤ nI hi ↔ ch T N a ≤ hi := nI_leI (by omega) (by omega)
  rw [B109_0 ⟨rfl, rfl⟩ (s107 hx ha), B109_4]
  by_cases h1 : ch T N a < lo
  · have hn : ¬ (lo ≤ ch T N a ∧ ch T N a ≤ hi) := by omega
    rw [if_pos (e1.mpr h1), B109_15 ⟨rfl, rfl⟩ s108, B109_19, if_neg hn]
  · rw [if_neg (fun z => h1 (e1.mp z)), B109_10]
    by_cases h2 : ch T N a ≤ hi
    · have hn : lo ≤ ch T N a ∧ ch T N a ≤ hi := by omega
      rw [if_pos (e2.mpr h2), B109_22, B109_32, mA_a, nI_1, mA_22, if_pos hn]
    · have hn : ¬ (lo ≤ ch T N a ∧ ch T N a ≤ hi) := by omega
      rw [if_neg (fun z => h2 (e2.mp z)), B109_15 ⟨rfl, rfl⟩ s108, B109_19, if_neg hn]
theorem s95x {a : Nat} (hx : okX T N) : zq S 95 [.int (nI (ch T N a))] I J (some (.int (bI (isN (ch T N a))))) I J := s95n (by have := ch_lt hx a; omega)
/-- what a word's end leaves: the place, the fault -/
def wdW (T : Nat → Nat) (N a : Nat) : Int32 := if isN (ch T N (a + rn T N a 12)) = true then nI (a + rn T N a 12) else -1
theorem g110_l {P n : Nat} (hx : mTx I T N) (hP : P < 20) (hn : n ≤ 180) (hb : Nat.ble k.1 (mBu 110).1 = true ∧ Nat.ble k.2 (mBu 110).2 = true) (a : Nat) (ha : a ≤ N) : ∀ (m i : Nat), 12 = i + m → i + rn T N (a + i) m = rn T N a 12 → a + i ≤ N →
    zd S 110 2 [some (.ref 76), some (.int (nI P)), some (.int (nI i))] [] (mA I (a + i) (-1) (ltA f T N a (192 * P + n) i) g p (upd q P (nI (n + i)))) J k
      = zd S 110 79 [some (.ref 76), some (.int (nI P)), some (.int (nI (rn T N a 12)))] [] (mA I (a + rn T N a 12) (wdW T N a) (ltA f T N a (192 * P + n) (rn T N a 12)) g p (upd q P (nI (n + rn T N a 12)))) J k := by
  intro m
  have hN := hx.2.2.1
  have hz : zin (nI P) 20 = true := zin_n hP (by decide)
  have hc : (nI P).toNatClampNeg = P := nI_clamp (by omega)
  induction m with
  | zero =>
    intro i hm hr hi
    have hi12 : i = 12 := by omega
    subst hi12
    have hr' : rn T N a 12 = 12 := by
      rw [← hr]
      rfl
    unfold wdW
    rw [hr', B110_2, mA_w, if_neg (by decide), B110_9 hb (s107 hx (by omega)), B110_13 hb (s95x hx.2.2), B110_16]
    cases h : isN (ch T N (a + 12)) with
    | false => rw [if_pos ((bI_0 _).mpr rfl), if_neg (by decide)]
    | true =>
      have h12 : nI 12 = 12 := rfl
      rw [if_neg (by decide), B110_19, if_neg (not_not_intro h12), B110_25 hb s108, B110_29, B110_2, mA_w, if_pos (nI_pos' (by omega)), if_pos rfl]
  | succ m ih =>
    intro i hm hr hi
    rw [B110_2, mA_w, if_neg (by decide), B110_9 hb (s107 hx (by omega)), B110_13 hb (s95x hx.2.2), B110_16]
    have hrn : rn T N (a + i) (m + 1) = if isN (ch T N (a + i)) = true then rn T N (a + i + 1) m + 1 else 0 := rfl
    rw [hrn] at hr
    cases h : isN (ch T N (a + i)) with
    | false =>
      rw [h, if_neg (by decide), Nat.add_zero] at hr
      unfold wdW
      rw [if_pos ((bI_0 _).mpr rfl), ← hr, h, if_neg (by decide)]
    | true =>
      have hin := isN_in h
      rw [h, if_pos rfl] at hr
      have e12 : ¬ nI i = 12 := fun z => by have := (nI_eq (b := 12) (by omega) (by decide)).mp z; omega
      have e192 : 192 * nI P + nI (n + i) = nI (192 * P + n + i) := by rw [show (192 : Int32) = nI 192 from rfl, pk_mul, nI_add]; congr 1; omega
      rw [if_neg (by decide), B110_19, if_pos e12, B110_32 hb hz (s107 hx (by omega)), mA_r92, hc, pk_us, e192, B110_52 (zin_n (by omega) (by decide)), nI_clamp (by omega), mA_89, ltA_s, B110_53 hz hz, mA_r92, hc, pk_us, nI_1, mA_92, upd_upd, B110_63, mA_a, nI_1, nI_1, mA_22, B110_76]
      exact ih (i + 1) (by omega) (by rw [← hr, show a + (i + 1) = a + i + 1 from by omega]; omega) (by omega)
theorem s110 {P n w a : Nat} (hx : mTx I T N) (hP : P < 20) (hn : n ≤ 180) (hw : w < 16) (ha : a ≤ N) (hp : p P = nI w) (hq : q P = nI n) :
    zq S 110 [.ref 76, .int (nI P)] (mA I a (-1) f g p q) J none (mA I (a + rn T N a 12) (wdW T N a) (ltA f T N a (192 * P + n) (rn T N a 12)) (upd g (16 * P + w) (nI (n + rn T N a 12))) (upd p P (nI (w + 1))) (upd q P (nI (n + rn T N a 12)))) J := by
  refine zq_of rfl ?_
  show zd S 110 0 [some (.ref 76), some (.int (nI P)), none] [] _ J (0, 0) = _
  have hz : zin (nI P) 20 = true := zin_n hP (by decide)
  have hc : (nI P).toNatClampNeg = P := nI_clamp (by omega)
  have e16 : 16 * nI P + nI w = nI (16 * P + w) := by rw [show (16 : Int32) = nI 16 from rfl, pk_mul, nI_add]
  have hl := g110_l (S := S) (J := J) (k := (0, 0)) (f := f) (g := g) (p := p) (q := q) (n := n) hx hP hn ⟨rfl, rfl⟩ a ha 12 0 (by omega) (by rw [Nat.add_zero, Nat.zero_add]) ha
  have hqq : upd q P (nI (n + 0)) = q := by
    funext x
    unfold upd
    by_cases h : x = P
    · rw [if_pos h, h, hq]
      rfl
    · rw [if_neg h]
  rw [ltA_0, hqq] at hl
  rw [B110_0]
  refine Eq.trans hl ?_
  rw [B110_79 hz hz (by rw [mA_r91, hc, hp, e16]; exact zin_n (by omega) (by decide)), mA_r91, mA_r92, hc, hp, e16, nI_clamp (by omega), pk_us, mA_90, B110_101 hz hz, B110_111, mA_r91, hc, hp, nI_1, mA_91]
end MWORDS
