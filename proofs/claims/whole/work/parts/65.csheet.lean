/-! plan: the sheets, the one side -/
theorem i_or {a b : Nat} (ha : a < 2 ^ 32) (hb : b < 2 ^ 32) : nI a ||| nI b = nI (a ||| b) := by
  apply Int32.toBitVec_inj.mp
  rw [Int32.toBitVec_or]
  apply BitVec.eq_of_toNat_eq
  rw [BitVec.toNat_or, pk_tn ha, pk_tn hb, pk_tn (Nat.or_lt_two_pow ha hb)]
theorem i_and {a b : Nat} (ha : a < 2 ^ 32) (hb : b < 2 ^ 32) : nI a &&& nI b = nI (a &&& b) := by
  apply Int32.toBitVec_inj.mp
  rw [Int32.toBitVec_and]
  apply BitVec.eq_of_toNat_eq
  rw [BitVec.toNat_and, pk_tn ha, pk_tn hb, pk_tn (Nat.and_lt_two_pow _ hb)]
theorem i_shl1 : ∀ r, r < 17 → (1 : Int32) <<< (nI r &&& 31) = nI (2 ^ r) := by decide +kernel
theorem i_shlw : ∀ h, h < 17 → ∀ y, y < 17 → y + h ≤ 16 → nI (2 ^ h - 1) <<< (nI y &&& 31) = nI ((2 ^ h - 1) * 2 ^ y) := by decide +kernel
/-- a cell's place -/
theorem pl_i {pg c r : Nat} : ((nI pg * 4 + nI c) * 16 + nI r : Int32) = nI (64 * pg + 16 * c + r) := by
  rw [show (4 : Int32) = nI 4 from rfl, show (16 : Int32) = nI 16 from rfl, pk_mul, nI_add, pk_mul, nI_add]
  congr 1
  omega
theorem pl_c {pg c : Nat} : (nI pg * 4 + nI c : Int32) = nI (4 * pg + c) := by
  rw [show (4 : Int32) = nI 4 from rfl, pk_mul, nI_add, Nat.mul_comm]
/-- what is taken is what holds something -/
def tkI (I : zI) : Prop := ∀ p, p < 12 → ∃ t, t < 2 ^ 16 ∧ I 72 p = nI t ∧ ∀ r, r < 16 → t.testBit r = decide (I 71 (16 * p + r) ≠ 0)
theorem tkI_u {I I' : zI} (h : tkI I) (h1 : I' 71 = I 71) (h2 : I' 72 = I 72) : tkI I' := by
  intro p hp
  obtain ⟨t, a, b, c⟩ := h p hp
  exact ⟨t, a, by rw [h2]; exact b, fun r hr => by rw [h1]; exact c r hr⟩
section CSHEET
variable {S : Nat × (Nat → Int32)} {k : zK} {s q : Nat}
theorem s84 {I : zI} {J : zJ} {pg c r : Nat} {x : Int32} (hp : pg < 3) (hc : c < 4) (hr : r < 16) (hx : x ≠ 0) (ht : tkI I) :
    ∃ I', zq S 84 [.ref 70, .int (nI pg), .int (nI c), .int (nI r), .int x] I J none I' J ∧ (∀ y, y ≠ 71 → y ≠ 72 → I' y = I y) ∧ I' 71 = upd (I 71) (64 * pg + 16 * c + r) x ∧ tkI I' := by
  obtain ⟨t, t1, t2, t3⟩ := ht (4 * pg + c) (by omega)
  have hor : t ||| 2 ^ r < 2 ^ 16 := Nat.or_lt_two_pow t1 (wb_lt2 hr)
  have p16 : (2 : Nat) ^ 16 < 2 ^ 32 := by decide
  have pr : 2 ^ r < 2 ^ 16 := wb_lt2 hr
  refine ⟨u2 (u2 I 71 (64 * pg + 16 * c + r) x) 72 (4 * pg + c) (nI (t ||| 2 ^ r)), ?_, fun y h1 h2 => by rw [u2n (nbeq h2), u2n (nbeq h1)], ?_, ?_⟩
  · refine zq_of rfl ?_
    show zd S 84 0 [some (.ref 70), some (.int (nI pg)), some (.int (nI c)), some (.int (nI r)), some (.int x)] [] I J (0, 0) = _
    have zc : zin (nI (4 * pg + c)) 12 = true := zin_n (by omega) (by decide)
    have e72 : (u2 I 71 (64 * pg + 16 * c + r) x) 72 (4 * pg + c) = nI t := by rw [u2n rfl]; exact t2
    rw [B84_0 (by rw [pl_i]; exact zin_n (by omega) (by decide)), pl_i, nI_clamp (by omega), B84_17 (by rw [pl_c]; exact zc) (by rw [pl_c]; exact zc), pl_c, nI_clamp (by omega), e72, i_shl1 r (by omega), i_or (by omega) (by omega), B84_33]
  · rw [u2n rfl]
    exact uc_s _ _ _
  · intro p hp'
    have e71 : (u2 (u2 I 71 (64 * pg + 16 * c + r) x) 72 (4 * pg + c) (nI (t ||| 2 ^ r))) 71 = upd (I 71) (64 * pg + 16 * c + r) x := by
      rw [u2n rfl]
      exact uc_s _ _ _
    rw [e71]
    by_cases hpp : p = 4 * pg + c
    · refine ⟨t ||| 2 ^ r, hor, by rw [hpp, u2s], fun r' hr' => ?_⟩
      rw [Nat.testBit_or, Nat.testBit_two_pow, t3 r' hr', hpp]
      by_cases hrr : r' = r
      · rw [hrr, show 16 * (4 * pg + c) + r = 64 * pg + 16 * c + r by omega, pk_us, decide_eq_true hx, decide_eq_true rfl, Bool.or_true]
      · rw [pk_un (by omega), decide_eq_false (fun z : r = r' => hrr z.symm), Bool.or_false]
    · obtain ⟨t', a, b, d⟩ := ht p hp'
      refine ⟨t', a, by rw [u2ne hpp, u2n rfl]; exact b, fun r' hr' => ?_⟩
      rw [pk_un (by omega)]
      exact d r' hr'
theorem s87 {I : zI} {J : zJ} {pg x k' : Nat} (hp : pg < 3) (hxk : x + k' ≤ 4) (ht : tkI I) : ∃ t, zq S 87 [.ref 70, .int (nI pg), .int (nI x), .int (nI k')] I J (some (.int (nI t))) I J ∧ t < 2 ^ 16 ∧ ∀ r, r < 16 → t.testBit r = !rwF (I 71) pg x k' r := by
  have p16 : (2 : Nat) ^ 16 < 2 ^ 32 := by decide
  have hl : ∀ (m i t : Nat), k' = i + m → t < 2 ^ 16 → (∀ r, r < 16 → t.testBit r = !rwF (I 71) pg x i r) → ∃ t', zd S 87 6 [some (.ref 70), some (.int (nI pg)), some (.int (nI x)), some (.int (nI k')), some (.int (nI t)), some (.int (nI (x + i)))] [] I J (0, 0) = some (some (.int (nI t')), mk I J, (0, 0)) ∧ t' < 2 ^ 16 ∧ ∀ r, r < 16 → t'.testBit r = !rwF (I 71) pg x k' r := by
    intro m
    induction m with
    | zero =>
      intro i t hm ht1 hb
      have hi : k' = i := by omega
      subst hi
      refine ⟨t, ?_, ht1, hb⟩
      rw [B87_6, nI_add, if_pos (nI_le (Nat.le_refl _) (by omega)), B87_36]
    | succ m ih =>
      intro i t hm ht1 hb
      obtain ⟨u, u1, u2', u3⟩ := ht (4 * pg + (x + i)) (by omega)
      obtain ⟨t', e, r1, r2⟩ := ih (i + 1) (t ||| u) (by omega) (Nat.or_lt_two_pow ht1 u1) (by
        intro r hr
        rw [Nat.testBit_or, hb r hr, u3 r hr]
        show _ = !(allT (fun c => decide (I 71 (64 * pg + 16 * (x + c) + r) = 0)) i && decide (I 71 (64 * pg + 16 * (x + i) + r) = 0))
        rw [show 16 * (4 * pg + (x + i)) + r = 64 * pg + 16 * (x + i) + r by omega]
        unfold rwF
        by_cases h0 : I 71 (64 * pg + 16 * (x + i) + r) = 0
        · rw [decide_eq_true h0, decide_eq_false (not_not_intro h0), Bool.or_false, Bool.and_true]
        · rw [decide_eq_false h0, decide_eq_true h0, Bool.or_true, Bool.and_false]
          rfl)
      refine ⟨t', ?_, r1, r2⟩
      rw [B87_6, nI_add, if_neg (nI_ge (by omega) (by omega)), B87_14 (by rw [pl_c]; exact zin_n (by omega) (by decide)), pl_c, nI_clamp (by omega), u2', i_or (by omega) (by omega), nI_1]
      exact e
  obtain ⟨t, e, r1, r2⟩ := hl k' 0 0 (by omega) (by decide) (by
    intro r hr
    rw [Nat.zero_testBit]
    rfl)
  refine ⟨t, ?_, r1, r2⟩
  refine zq_of rfl ?_
  show zd S 87 0 [some (.ref 70), some (.int (nI pg)), some (.int (nI x)), some (.int (nI k')), none, none] [] I J (0, 0) = _
  rw [B87_0, ← nI_0]
  exact e
theorem s48 {I : zI} {J : zJ} (l1 l2 l3 l4 l5 : Int32) (hs : s < 4) (hq : q < 2) : ∃ I', zq S 48 [.ref (15 + 12 * s + 2 * q), .int l1, .int l2, .int l3, .int l4, .int l5] I J none I' J ∧ (∀ x, x ≠ 15 + 12 * s + 2 * q → I' x = I x) ∧ I' (15 + 12 * s + 2 * q) 1 = l1 ∧ I' (15 + 12 * s + 2 * q) 2 = l2 ∧ I' (15 + 12 * s + 2 * q) 3 = l3 ∧ I' (15 + 12 * s + 2 * q) 4 = l4 ∧ I' (15 + 12 * s + 2 * q) 5 = l5 ∧ (∀ e, e = 0 ∨ 5 < e → I' (15 + 12 * s + 2 * q) e = I (15 + 12 * s + 2 * q) e) := by
  refine ⟨u2 (u2 (u2 (u2 (u2 I (15 + 12 * s + 2 * q) 1 l1) (15 + 12 * s + 2 * q) 2 l2) (15 + 12 * s + 2 * q) 3 l3) (15 + 12 * s + 2 * q) 4 l4) (15 + 12 * s + 2 * q) 5 l5, ?_, fun x hx => by rw [u2n (nbeq hx), u2n (nbeq hx), u2n (nbeq hx), u2n (nbeq hx), u2n (nbeq hx)], ?_, ?_, ?_, ?_, ?_, ?_⟩
  · refine zq_of rfl ?_
    show zd S 48 0 [some (.ref (15 + 12 * s + 2 * q)), some (.int l1), some (.int l2), some (.int l3), some (.int l4), some (.int l5)] [] I J (0, 0) = _
    rw [B48_0 hs hq, B48_5 hs hq, B48_10 hs hq, B48_15 hs hq, B48_21 hs hq, B48_27 hs hq]
  · rw [u2ne (by decide), u2ne (by decide), u2ne (by decide), u2ne (by decide), u2s]
  · rw [u2ne (by decide), u2ne (by decide), u2ne (by decide), u2s]
  · rw [u2ne (by decide), u2ne (by decide), u2s]
  · rw [u2ne (by decide), u2s]
  · rw [u2s]
  · intro e he
    rw [u2ne (by omega), u2ne (by omega), u2ne (by omega), u2ne (by omega), u2ne (by omega)]
theorem s49 {I : zI} {J : zJ} (l1 l2 : Int32) (hs : s < 4) (hq : q < 2) : ∃ I', zq S 49 [.ref (15 + 12 * s + 2 * q), .int l1, .int l2] I J none I' J ∧ (∀ x, x ≠ 15 + 12 * s + 2 * q → I' x = I x) ∧ I' (15 + 12 * s + 2 * q) 6 = l1 ∧ I' (15 + 12 * s + 2 * q) 7 = l2 - l1 ∧ (∀ e, e ≠ 6 → e ≠ 7 → I' (15 + 12 * s + 2 * q) e = I (15 + 12 * s + 2 * q) e) := by
  refine ⟨u2 (u2 I (15 + 12 * s + 2 * q) 6 l1) (15 + 12 * s + 2 * q) 7 (l2 - l1), ?_, fun x hx => by rw [u2n (nbeq hx), u2n (nbeq hx)], ?_, ?_, ?_⟩
  · refine zq_of rfl ?_
    show zd S 49 0 [some (.ref (15 + 12 * s + 2 * q)), some (.int l1), some (.int l2)] [] I J (0, 0) = _
    rw [B49_0 hs hq, B49_5 hs hq, B49_12 hs hq]
  · rw [u2ne (by decide), u2s]
  · rw [u2s]
  · intro e h1 h2
    rw [u2ne h2, u2ne h1]
theorem s86 {I : zI} {J : zJ} {pg x y k' R : Nat} (hp : pg < 3) (hxk : x + k' ≤ 4) (hR : R ≤ 16) (hy : y < R) (h70 : I 70 1 = nI R) (ht : tkI I) : zq S 86 [.ref 70, .int (nI pg), .int (nI x), .int (nI y), .int (nI k')] I J (some (.int (nI (cnF (rwF (I 71) pg x k') y (R - y))))) I J := by
  obtain ⟨t, q87, t1, t2⟩ := s87 (S := S) (I := I) (J := J) hp hxk ht
  have hl : ∀ (m i : Nat) (o1 o2 o4 : Option Value), R = y + i + m → zd S 86 13 [some (.ref 70), o1, o2, some (.int (nI y)), o4, some (.int (nI t)), some (.int (nI i))] [] I J (0, 0) = some (some (.int (nI (i + cnF (rwF (I 71) pg x k') (y + i) m))), mk I J, (0, 0)) := by
    intro m
    induction m with
    | zero =>
      intro i o1 o2 o4 hm
      rw [B86_13, h70, nI_add, if_pos (nI_le (by omega) (by omega)), B86_43]
      rfl
    | succ m ih =>
      intro i o1 o2 o4 hm
      have q22 : zq S 22 [.long (nI t).toInt64, .int (nI y + nI i)] I J (some (.int (bI (!rwF (I 71) pg x k' (y + i))))) I J := by
        rw [nI_l (by omega), nI_add, ← t2 (y + i) (by omega), ← hbt_t]
        exact s22 (by omega) (by omega)
      rw [B86_13, h70, nI_add, if_neg (nI_ge (by omega) (by omega)), B86_24 ⟨rfl, rfl⟩ q22, B86_34]
      unfold cnF
      cases hb : rwF (I 71) pg x k' (y + i) with
      | true =>
        rw [if_neg (not_not_intro (show bI (!true) = 0 from rfl)), B86_37, nI_1, if_pos rfl, ih (i + 1) none none none (by omega), show y + (i + 1) = y + i + 1 by omega, show i + 1 + cnF (rwF (I 71) pg x k') (y + i + 1) m = i + (cnF (rwF (I 71) pg x k') (y + i + 1) m + 1) by omega]
      | false =>
        rw [if_pos (show ¬ bI (!false) = 0 by decide), B86_43, if_neg (by decide)]
        rfl
  refine zq_of rfl ?_
  show zd S 86 0 [some (.ref 70), some (.int (nI pg)), some (.int (nI x)), some (.int (nI y)), some (.int (nI k')), none, none] [] I J (0, 0) = _
  have h := hl (R - y) 0 (some (.int (nI pg))) (some (.int (nI x))) (some (.int (nI k'))) (by omega)
  rw [Nat.zero_add, Nat.add_zero] at h
  rw [B86_0 ⟨rfl, rfl⟩ q87, B86_8, ← nI_0]
  exact h
theorem frB_t {G : Nat → Int32} {C R pg x y k' h t : Nat} (hx : x + k' ≤ C) (hy : y + h ≤ R) (hR : R ≤ 16) (t1 : t < 2 ^ 16) (t2 : ∀ r, r < 16 → t.testBit r = !rwF G pg x k' r) : t &&& ((2 ^ h - 1) * 2 ^ y) = 0 ↔ frB G C R pg x y k' h = true := by
  have hfr : frB G C R pg x y k' h = true ↔ ∀ r, r < h → rwF G pg x k' (y + r) = true := by
    unfold frB rwF
    rw [decide_eq_true hx, decide_eq_true hy, Bool.true_and, Bool.true_and, allT_i]
    constructor
    · intro q r hr
      rw [allT_i]
      intro c hc
      exact (allT_i.mp (q c hc)) r hr
    · intro q c hc
      rw [allT_i]
      intro r hr
      exact (allT_i.mp (q r hr)) c hc
  rw [hfr]
  constructor
  · intro h0 r hr
    have h1 : (t &&& ((2 ^ h - 1) * 2 ^ y)).testBit (y + r) = false := by rw [h0, Nat.zero_testBit]
    rw [Nat.testBit_and, tb_mul, decide_eq_true (by omega : y ≤ y + r), Nat.testBit_two_pow_sub_one, show y + r - y = r by omega, decide_eq_true hr, Bool.true_and, Bool.and_true, t2 (y + r) (by omega)] at h1
    cases hb : rwF G pg x k' (y + r) with
    | true => rfl
    | false => rw [hb] at h1; cases h1
  · intro hq
    apply Nat.eq_of_testBit_eq
    intro j
    rw [Nat.zero_testBit, Nat.testBit_and, tb_mul, Nat.testBit_two_pow_sub_one]
    by_cases h1 : y ≤ j ∧ j - y < h
    · have h2 := hq (j - y) h1.2
      rw [show y + (j - y) = j by omega] at h2
      rw [t2 j (by omega), h2]
      rfl
    · by_cases h3 : y ≤ j
      · rw [decide_eq_false (by omega : ¬ j - y < h), Bool.and_false, Bool.and_false]
      · rw [decide_eq_false h3, Bool.false_and, Bool.and_false]
theorem s85 {I : zI} {J : zJ} {pg k' h C R : Nat} (hs : s < 4) (hq : q < 2) (hp : pg < 3) (hC : C ≤ 4) (hR : R ≤ 16) (hh : h ≤ 16) (hh0 : 0 < h) (hk : k' ≤ 4) (hk0 : 0 < k') (h700 : I 70 0 = nI C) (h701 : I 70 1 = nI R) (ht : tkI I) :
    ∃ I', zq S 85 [.ref 70, .ref (15 + 12 * s + 2 * q), .int (nI pg), .int (nI k'), .int (nI h)] I J (some (.int (bI (fnd (I 71) C R pg k' h).isSome))) I' J ∧ (∀ x, x ≠ 15 + 12 * s + 2 * q → I' x = I x) ∧ (fnd (I 71) C R pg k' h = none → I' = I) ∧ (∀ w, fnd (I 71) C R pg k' h = some w → I' (15 + 12 * s + 2 * q) 1 = nI pg ∧ I' (15 + 12 * s + 2 * q) 2 = nI w.1 ∧ I' (15 + 12 * s + 2 * q) 3 = nI w.2 ∧ I' (15 + 12 * s + 2 * q) 4 = nI k' ∧ I' (15 + 12 * s + 2 * q) 5 = nI h ∧ (∀ e, e = 0 ∨ 5 < e → I' (15 + 12 * s + 2 * q) e = I (15 + 12 * s + 2 * q) e)) := by
  have p16 : (2 : Nat) ^ 16 < 2 ^ 32 := by decide
  have e1 : ((1 : Int32) <<< (nI h &&& 31)) - 1 = nI (2 ^ h - 1) := by
    rw [i_shl1 h (by omega)]
    exact pk_sub (b := 1) (Nat.two_pow_pos h)
  have hpw : 2 ^ h ≤ 2 ^ 16 := Nat.pow_le_pow_right (by decide) hh
  -- a found place
  have hfound : ∀ (x y : Nat), frB (I 71) C R pg x y k' h = true → ∃ I', zd S 85 54 [some (.ref 70), some (.ref (15 + 12 * s + 2 * q)), some (.int (nI pg)), some (.int (nI k')), some (.int (nI h)), some (.int (nI (2 ^ h - 1))), some (.int (nI y)), some (.int (nI x))] [] I J (0, 0) = some (some (.int 1), mk I' J, (0, 0)) ∧ (∀ x, x ≠ 15 + 12 * s + 2 * q → I' x = I x) ∧ I' (15 + 12 * s + 2 * q) 1 = nI pg ∧ I' (15 + 12 * s + 2 * q) 2 = nI x ∧ I' (15 + 12 * s + 2 * q) 3 = nI y ∧ I' (15 + 12 * s + 2 * q) 4 = nI k' ∧ I' (15 + 12 * s + 2 * q) 5 = nI h ∧ (∀ e, e = 0 ∨ 5 < e → I' (15 + 12 * s + 2 * q) e = I (15 + 12 * s + 2 * q) e) := by
    intro x y hf
    obtain ⟨I', q48, r0, r1, r2, r3, r4, r5, r6⟩ := s48 (S := S) (I := I) (J := J) (nI pg) (nI x) (nI y) (nI k') (nI h) hs hq
    exact ⟨I', by rw [B85_54 ⟨rfl, rfl⟩ hs hq q48, B85_66 hs hq rfl], r0, r1, r2, r3, r4, r5, r6⟩
  -- a row
  have hX : ∀ (m x y : Nat), C = x + m → y + h ≤ R → (∃ xy, fsT (fnX (I 71) C R pg k' h y) x m = some xy ∧ xy.2 = y ∧ frB (I 71) C R pg xy.1 y k' h = true ∧ zd S 85 26 [some (.ref 70), some (.ref (15 + 12 * s + 2 * q)), some (.int (nI pg)), some (.int (nI k')), some (.int (nI h)), some (.int (nI (2 ^ h - 1))), some (.int (nI y)), some (.int (nI x))] [] I J (0, 0) = zd S 85 54 [some (.ref 70), some (.ref (15 + 12 * s + 2 * q)), some (.int (nI pg)), some (.int (nI k')), some (.int (nI h)), some (.int (nI (2 ^ h - 1))), some (.int (nI y)), some (.int (nI xy.1))] [] I J (0, 0)) ∨ (fsT (fnX (I 71) C R pg k' h y) x m = none ∧ ∃ l7, zd S 85 26 [some (.ref 70), some (.ref (15 + 12 * s + 2 * q)), some (.int (nI pg)), some (.int (nI k')), some (.int (nI h)), some (.int (nI (2 ^ h - 1))), some (.int (nI y)), some (.int (nI x))] [] I J (0, 0) = zd S 85 74 [some (.ref 70), some (.ref (15 + 12 * s + 2 * q)), some (.int (nI pg)), some (.int (nI k')), some (.int (nI h)), some (.int (nI (2 ^ h - 1))), some (.int (nI y)), some (.int l7)] [] I J (0, 0)) := by
    intro m
    have hout : ∀ (m x y : Nat), x ≤ 4 → ¬ x + k' ≤ C → fsT (fnX (I 71) C R pg k' h y) x m = none ∧ ∃ l7, zd S 85 26 [some (.ref 70), some (.ref (15 + 12 * s + 2 * q)), some (.int (nI pg)), some (.int (nI k')), some (.int (nI h)), some (.int (nI (2 ^ h - 1))), some (.int (nI y)), some (.int (nI x))] [] I J (0, 0) = zd S 85 74 [some (.ref 70), some (.ref (15 + 12 * s + 2 * q)), some (.int (nI pg)), some (.int (nI k')), some (.int (nI h)), some (.int (nI (2 ^ h - 1))), some (.int (nI y)), some (.int l7)] [] I J (0, 0) := by
      intro m x y hx4 hx
      refine ⟨fsT_0 m x (fun z h1 h2 => ?_), nI x, ?_⟩
      · unfold fnX frB
        rw [decide_eq_false (by omega : ¬ z + k' ≤ C)]
        rfl
      · rw [B85_26 hs hq, h700, nI_add, if_pos (nI_lt (by omega) (by omega))]
    induction m with
    | zero =>
      intro x y hm hy
      exact Or.inr (hout 0 x y (by omega) (by omega))
    | succ m ih =>
      intro x y hm hy
      by_cases hx : x + k' ≤ C
      · obtain ⟨t, q87, t1, t2⟩ := s87 (S := S) (I := I) (J := J) (pg := pg) (x := x) (k' := k') hp (by omega) ht
        have hiff := frB_t (G := I 71) (C := C) (R := R) (pg := pg) hx hy hR t1 t2
        have hwl : (2 ^ h - 1) * 2 ^ y < 2 ^ 16 := by
          apply lt_tb
          intro j hj
          rw [tb_mul, Nat.testBit_two_pow_sub_one, Bool.and_eq_true, decide_eq_true_eq, decide_eq_true_eq] at hj
          omega
        have ez : nI t &&& (nI (2 ^ h - 1) <<< (nI y &&& 31)) = 0 ↔ frB (I 71) C R pg x y k' h = true := by
          rw [i_shlw h (by omega) y (by omega) (by omega), i_and (by omega) (by omega), ← hiff]
          have hl : t &&& (2 ^ h - 1) * 2 ^ y < 2 ^ 16 := Nat.and_lt_two_pow _ hwl
          have := nI_eq (a := t &&& (2 ^ h - 1) * 2 ^ y) (b := 0) (by omega) (by decide)
          rw [nI_0] at this
          exact this
        have hpre : zd S 85 26 [some (.ref 70), some (.ref (15 + 12 * s + 2 * q)), some (.int (nI pg)), some (.int (nI k')), some (.int (nI h)), some (.int (nI (2 ^ h - 1))), some (.int (nI y)), some (.int (nI x))] [] I J (0, 0) = if ¬ (nI t &&& (nI (2 ^ h - 1) <<< (nI y &&& 31))) = 0 then zd S 85 68 [some (.ref 70), some (.ref (15 + 12 * s + 2 * q)), some (.int (nI pg)), some (.int (nI k')), some (.int (nI h)), some (.int (nI (2 ^ h - 1))), some (.int (nI y)), some (.int (nI x))] [] I J (0, 0) else zd S 85 54 [some (.ref 70), some (.ref (15 + 12 * s + 2 * q)), some (.int (nI pg)), some (.int (nI k')), some (.int (nI h)), some (.int (nI (2 ^ h - 1))), some (.int (nI y)), some (.int (nI x))] [] I J (0, 0) := by
          rw [B85_26 hs hq, h700, nI_add, if_neg (nI_nlt (by omega) (by omega)), B85_37 ⟨rfl, rfl⟩ hs hq q87, B85_45 hs hq]
        rw [hpre, fsT_e]
        by_cases hf : frB (I 71) C R pg x y k' h = true
        · left
          refine ⟨(x, y), ?_, rfl, hf, ?_⟩
          · unfold fnX
            rw [if_pos hf]
          · rw [if_neg (not_not_intro (ez.mpr hf))]
        · have hfn : fnX (I 71) C R pg k' h y x = none := if_neg hf
          rw [hfn, if_pos (fun z => hf (ez.mp z)), B85_68 hs hq, nI_1]
          exact ih (x + 1) y (by omega) hy
      · exact Or.inr (hout (m + 1) x y (by omega) hx)
  have hY : ∀ (m y : Nat) (o7 : Option Value), R = y + m → (∃ xy, fsT (fnY (I 71) C R pg k' h) y m = some xy ∧ frB (I 71) C R pg xy.1 xy.2 k' h = true ∧ zd S 85 11 [some (.ref 70), some (.ref (15 + 12 * s + 2 * q)), some (.int (nI pg)), some (.int (nI k')), some (.int (nI h)), some (.int (nI (2 ^ h - 1))), some (.int (nI y)), o7] [] I J (0, 0) = zd S 85 54 [some (.ref 70), some (.ref (15 + 12 * s + 2 * q)), some (.int (nI pg)), some (.int (nI k')), some (.int (nI h)), some (.int (nI (2 ^ h - 1))), some (.int (nI xy.2)), some (.int (nI xy.1))] [] I J (0, 0)) ∨ (fsT (fnY (I 71) C R pg k' h) y m = none ∧ zd S 85 11 [some (.ref 70), some (.ref (15 + 12 * s + 2 * q)), some (.int (nI pg)), some (.int (nI k')), some (.int (nI h)), some (.int (nI (2 ^ h - 1))), some (.int (nI y)), o7] [] I J (0, 0) = some (some (.int 0), mk I J, (0, 0))) := by
    intro m
    have hout : ∀ (m y : Nat) (o7 : Option Value), y ≤ 16 → ¬ y + h ≤ R → fsT (fnY (I 71) C R pg k' h) y m = none ∧ zd S 85 11 [some (.ref 70), some (.ref (15 + 12 * s + 2 * q)), some (.int (nI pg)), some (.int (nI k')), some (.int (nI h)), some (.int (nI (2 ^ h - 1))), some (.int (nI y)), o7] [] I J (0, 0) = some (some (.int 0), mk I J, (0, 0)) := by
      intro m y o7 hy4 hy
      refine ⟨fsT_0 m y (fun z h1 h2 => fsT_0 _ _ (fun x _ _ => ?_)), ?_⟩
      · unfold fnX frB
        rw [decide_eq_false (by omega : ¬ z + h ≤ R), Bool.and_false]
        rfl
      · rw [B85_11 hs hq, h701, nI_add, if_pos (nI_lt (by omega) (by omega)), B85_80 hs hq rfl]
    induction m with
    | zero =>
      intro y o7 hm
      exact Or.inr (hout 0 y o7 (by omega) (by omega))
    | succ m ih =>
      intro y o7 hm
      by_cases hy : y + h ≤ R
      · have hpre : zd S 85 11 [some (.ref 70), some (.ref (15 + 12 * s + 2 * q)), some (.int (nI pg)), some (.int (nI k')), some (.int (nI h)), some (.int (nI (2 ^ h - 1))), some (.int (nI y)), o7] [] I J (0, 0) = zd S 85 26 [some (.ref 70), some (.ref (15 + 12 * s + 2 * q)), some (.int (nI pg)), some (.int (nI k')), some (.int (nI h)), some (.int (nI (2 ^ h - 1))), some (.int (nI y)), some (.int (nI 0))] [] I J (0, 0) := by
          rw [B85_11 hs hq, h701, nI_add, if_neg (nI_nlt (by omega) (by omega)), B85_23 hs hq, ← nI_0]
        rw [hpre, fsT_e]
        rcases hX C 0 y (by omega) hy with ⟨xy, x1, x2, x3, x4⟩ | ⟨x1, l7, x2⟩
        · left
          have : fnY (I 71) C R pg k' h y = some xy := x1
          rw [this]
          exact ⟨xy, rfl, by rw [x2]; exact x3, by rw [x4, x2]⟩
        · have : fnY (I 71) C R pg k' h y = none := x1
          rw [this, x2, B85_74 hs hq, nI_1]
          exact ih (y + 1) (some (.int l7)) (by omega)
      · exact Or.inr (hout (m + 1) y o7 (by omega) hy)
  have hst : zd S 85 0 [some (.ref 70), some (.ref (15 + 12 * s + 2 * q)), some (.int (nI pg)), some (.int (nI k')), some (.int (nI h)), none, none, none] [] I J (0, 0) = zd S 85 11 [some (.ref 70), some (.ref (15 + 12 * s + 2 * q)), some (.int (nI pg)), some (.int (nI k')), some (.int (nI h)), some (.int (nI (2 ^ h - 1))), some (.int (nI 0)), none] [] I J (0, 0) := by
    rw [B85_0 hs hq, e1, nI_0]
  rcases hY R 0 none (by omega) with ⟨xy, x1, x2, x3⟩ | ⟨x1, x2⟩
  · have hfn : fnd (I 71) C R pg k' h = some xy := x1
    obtain ⟨I', e, r0, r1, r2, r3, r4, r5, r6⟩ := hfound xy.1 xy.2 x2
    rw [hfn]
    refine ⟨I', zq_of rfl (hst.trans (x3.trans e)), r0, (fun z => by cases z), fun w hw => ?_⟩
    cases hw
    exact ⟨r1, r2, r3, r4, r5, r6⟩
  · have hfn : fnd (I 71) C R pg k' h = none := x1
    rw [hfn]
    exact ⟨I, zq_of rfl (hst.trans x2), fun _ _ => rfl, fun _ => rfl, fun w hw => by cases hw⟩
end CSHEET
