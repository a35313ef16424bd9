/-! leaves: letters, bytes, widths, the text's end -/
def bI (b : Bool) : Int32 := match b with
  | true => 1
  | false => 0
theorem bI_0 (b : Bool) : bI b = 0 ↔ b = false := by cases b <;> decide
theorem bI_z (b : Bool) : zrt 2 (.int (bI b)) = true := by cases b <;> decide
def isL (x : Int32) : Bool := !decide (x < 97) && !decide (122 < x)
theorem ucn {α : Type} {I : Nat → Nat → α} {a b : Nat} {g : Nat → α} (h : Nat.beq b a = false) : uc I a g b = I b := if_neg (Nat.ne_of_beq_eq_false h)
theorem u2n {I : zI} {a f b : Nat} {x : Int32} (h : Nat.beq b a = false) : u2 I a f x b = I b := ucn h
theorem u2s {I : zI} {a f : Nat} {x : Int32} : u2 I a f x a f = x := by unfold u2; rw [uc_s, pk_us]
theorem u2f {I : zI} {a f g : Nat} {x : Int32} (h : Nat.beq g f = false) : u2 I a f x a g = I a g := by unfold u2; rw [uc_s, pk_un (Nat.ne_of_beq_eq_false h)]
theorem u2ne {I : zI} {a f g : Nat} {x : Int32} (h : g ≠ f) : u2 I a f x a g = I a g := by unfold u2; rw [uc_s, pk_un h]
theorem u2uc {I : zI} {a f : Nat} {x : Int32} {g : Nat → Int32} : u2 (uc I a g) a f x = uc I a (upd g f x) := by
  unfold u2
  rw [uc_s]
  funext b
  unfold uc
  by_cases h : b = a
  · rw [if_pos h, if_pos h]
  · rw [if_neg h, if_neg h, if_neg h]
theorem uc_id {α : Type} {I : Nat → Nat → α} {a : Nat} : uc I a (I a) = I := by
  funext b
  unfold uc
  by_cases h : b = a
  · rw [if_pos h, h]
  · rw [if_neg h]
theorem v2n {J : zJ} {a f b : Nat} {x : Int64} (h : Nat.beq b a = false) : v2 J a f x b = J b := ucn h
theorem v2s {J : zJ} {a f : Nat} {x : Int64} : v2 J a f x a f = x := by unfold v2; rw [uc_s, pk_uLs]
theorem v2ne {J : zJ} {a f g : Nat} {x : Int64} (h : g ≠ f) : v2 J a f x a g = J a g := by unfold v2; rw [uc_s, pk_uLn h]
section LEAF
variable {S : Nat × (Nat → Int32)} {I : zI} {J : zJ}
theorem s19 (x : Int32) : zq S 19 [.int x] I J (some (.int (bI (isL x)))) I J := by
  refine zq_of rfl ?_
  show zd S 19 0 [some (.int x)] [] I J (0, 0) = _
  unfold isL
  rw [B19_0]
  by_cases h1 : x < 97
  · rw [if_pos h1, B19_16 rfl, decide_eq_true h1]
    rfl
  · rw [if_neg h1, B19_6, decide_eq_false h1]
    by_cases h2 : 122 < x
    · rw [if_pos h2, B19_16 rfl, decide_eq_true h2]
      rfl
    · rw [if_neg h2, B19_12 rfl, decide_eq_false h2]
      rfl
theorem s95 (x : Int32) : zq S 95 [.int x] I J (some (.int (bI (isL x)))) I J := by
  refine zq_of rfl ?_
  show zd S 95 0 [some (.int x)] [] I J (0, 0) = _
  unfold isL
  rw [B95_0]
  by_cases h1 : x < 97
  · rw [if_pos h1, B95_16 rfl, decide_eq_true h1]
    rfl
  · rw [if_neg h1, B95_6, decide_eq_false h1]
    by_cases h2 : 122 < x
    · rw [if_pos h2, B95_16 rfl, decide_eq_true h2]
      rfl
    · rw [if_neg h2, B95_12 rfl, decide_eq_false h2]
      rfl
theorem isL_n (x : Int32) (h : isL x = true) : ∃ q : Nat, q < 26 ∧ x = nI (97 + q) := by
  unfold isL at h
  rw [Bool.and_eq_true, Bool.not_eq_true', Bool.not_eq_true', decide_eq_false_iff_not, decide_eq_false_iff_not] at h
  obtain ⟨h1, h2⟩ := h
  have e1 : (97 : Int32).toInt = 97 := by decide
  have e2 : (122 : Int32).toInt = 122 := by decide
  rw [Int32.lt_iff_toInt_lt, e1] at h1
  rw [Int32.lt_iff_toInt_lt, e2] at h2
  obtain ⟨q, hq, rfl⟩ := nI_of (x := x) (by rw [Int32.lt_iff_toInt_lt, Int32.toInt_zero]; omega)
  rw [nI_toInt hq] at h1 h2
  exact ⟨q - 97, by omega, by congr 1; omega⟩
theorem isL_of (c : Nat) (hc : c < 2 ^ 31) : isL (nI c) = (decide (97 ≤ c) && decide (c ≤ 122)) := by
  unfold isL
  have e1 : (nI c < 97) ↔ c < 97 := nI_ltI hc (by decide)
  have e2 : (122 < nI c) ↔ 122 < c := nI_ltI (by decide) hc
  by_cases h1 : c < 97
  · rw [decide_eq_true (e1.mpr h1), decide_eq_false (by omega : ¬ 97 ≤ c)]
    rfl
  · rw [decide_eq_false (fun z => h1 (e1.mp z)), decide_eq_true (by omega : 97 ≤ c)]
    by_cases h2 : 122 < c
    · rw [decide_eq_true (e2.mpr h2), decide_eq_false (by omega : ¬ c ≤ 122)]
      rfl
    · rw [decide_eq_false (fun z => h2 (e2.mp z)), decide_eq_true (by omega : c ≤ 122)]
      rfl
/-- metric, both -/
def okM (x w : Int32) : Bool := isL x && (!decide (w < 1) && decide (w ≤ 9))
theorem s3 (x w : Int32) : zq S 3 [.ref 0, .int x, .int w] I J (some (.int (bI (okM x w)))) (if okM x w then u2 I 1 (x - 97).toNatClampNeg w else I) J := by
  refine zq_of rfl ?_
  show zd S 3 0 [some (.ref 0), some (.int x), some (.int w)] [] I J (0, 0) = _
  unfold okM
  rw [B3_0 ⟨rfl, rfl⟩ (s19 x), B3_4]
  cases hL : isL x with
  | false => rw [if_pos ((bI_0 _).mpr rfl), B3_18 rfl]; rfl
  | true =>
    rw [if_neg (by decide), B3_7]
    by_cases h1 : w < 1
    · rw [if_pos h1, B3_18 rfl, decide_eq_true h1]; rfl
    · rw [if_neg h1, B3_12, decide_eq_false h1]
      by_cases h2 : w ≤ 9
      · obtain ⟨q, hq, rfl⟩ := isL_n x hL
        have e : nI (97 + q) - 97 = nI q := by
          rw [show (97 : Int32) = nI 97 from rfl, pk_sub (by omega)]
          congr 1
          omega
        rw [if_pos h2, B3_20 (by rw [e]; exact zin_n hq (by decide)), B3_30 rfl, decide_eq_true h2]
        rfl
      · rw [if_neg h2, B3_18 rfl, decide_eq_false h2]; rfl
theorem s96 (x w : Int32) : zq S 96 [.ref 76, .int x, .int w] I J (some (.int (bI (okM x w)))) (if okM x w then u2 I 77 (x - 97).toNatClampNeg w else I) J := by
  refine zq_of rfl ?_
  show zd S 96 0 [some (.ref 76), some (.int x), some (.int w)] [] I J (0, 0) = _
  unfold okM
  rw [B96_0 ⟨rfl, rfl⟩ (s95 x), B96_4]
  cases hL : isL x with
  | false => rw [if_pos ((bI_0 _).mpr rfl), B96_18 rfl]; rfl
  | true =>
    rw [if_neg (by decide), B96_7]
    by_cases h1 : w < 1
    · rw [if_pos h1, B96_18 rfl, decide_eq_true h1]; rfl
    · rw [if_neg h1, B96_12, decide_eq_false h1]
      by_cases h2 : w ≤ 9
      · obtain ⟨q, hq, rfl⟩ := isL_n x hL
        have e : nI (97 + q) - 97 = nI q := by
          rw [show (97 : Int32) = nI 97 from rfl, pk_sub (by omega)]
          congr 1
          omega
        rw [if_pos h2, B96_20 (by rw [e]; exact zin_n hq (by decide)), B96_30 rfl, decide_eq_true h2]
        rfl
      · rw [if_neg h2, B96_18 rfl, decide_eq_false h2]; rfl
/-- clear, fault, both -/
theorem s7 : zq S 7 [.ref 0] I J (some (.int (I 0 8))) (u2 I 0 8 0) J := by
  refine zq_of rfl ?_
  show zd S 7 0 [some (.ref 0), none] [] I J (0, 0) = _
  rw [B7_0, B7_10]
theorem s106 : zq S 106 [.ref 76] I J (some (.int (I 76 12))) (u2 I 76 12 0) J := by
  refine zq_of rfl ?_
  show zd S 106 0 [some (.ref 76), none] [] I J (0, 0) = _
  rw [B106_0, B106_10]
theorem s9 : zq S 9 [.ref 0] I J (some (.int (I 4 5))) I J := by
  refine zq_of rfl ?_
  show zd S 9 0 [some (.ref 0)] [] I J (0, 0) = _
  rw [B9_0]
theorem s117 : zq S 117 [.ref 76] I J (some (.int (I 76 23))) I J := by
  refine zq_of rfl ?_
  show zd S 117 0 [some (.ref 76)] [] I J (0, 0) = _
  rw [B117_0]
/-- byte i, from the highest on, of the n lowest bytes -/
def byt (v n i : Nat) : Nat := v / 2 ^ (8 * (n - 1 - i)) % 256
theorem byt_lt (v n i : Nat) : byt v n i < 256 := Nat.mod_lt _ (by decide)
theorem byt_sh {n i : Nat} (hn : n ≤ 8) (hi : i < n) : (8 * ((nI n - 1) - nI i) : Int32) = nI (8 * (n - 1 - i)) := by
  rw [show (1 : Int32) = nI 1 from rfl, pk_sub (by omega), pk_sub (by omega), show (8 : Int32) = nI 8 from rfl, pk_mul]
theorem s21 {v n i : Nat} (hv : v < 2 ^ 64) (hn : n ≤ 8) (hi : i < n) : zq S 21 [.long (lN v), .int (nI n), .int (nI i)] I J (some (.int (nI (byt v n i)))) I J := by
  refine zq_of rfl ?_
  show zd S 21 0 [some (.long (lN v)), none, some (.int (nI n)), some (.int (nI i))] [] I J (0, 0) = _
  rw [B21_0, byt_sh hn hi, wb_shr hv (by omega), lN_i, pk_and _ 8 (by decide)]
  have e : (nI (v / 2 ^ (8 * (n - 1 - i)))).toBitVec.toNat % 2 ^ 8 = byt v n i := by
    show (BitVec.ofNat 32 (v / 2 ^ (8 * (n - 1 - i)))).toNat % 2 ^ 8 = _
    rw [BitVec.toNat_ofNat]
    unfold byt
    omega
  rw [e]
theorem sshr_and {v k : Nat} (hv : v < 2 ^ 64) (hk : k ≤ 56) : (lN v >>> ((nI k).toInt64 &&& 63)) &&& 255 = lN (v / 2 ^ k % 256) := by
  rw [wb_c k (by omega)]
  apply wb_inj
  rw [Int64.toBitVec_and, Int64.toBitVec_shiftRight, wb_tb, wb_tb, wb_tb]
  show (BitVec.ofNat 64 v).sshiftRight ((BitVec.ofNat 64 k).smod 64).toNat &&& 255#64 = _
  rw [wb_sm k (by omega), BitVec.toNat_ofNat, Nat.mod_eq_of_lt (by omega : k < 2 ^ 64)]
  apply BitVec.eq_of_getLsbD_eq
  intro i hi
  have h255 : (255#64).getLsbD i = decide (i < 8) := (by decide +kernel : ∀ i, i < 64 → (255#64).getLsbD i = decide (i < 8)) i hi
  rw [BitVec.getLsbD_and, h255, BitVec.getLsbD_sshiftRight, BitVec.getLsbD_ofNat, BitVec.getLsbD_ofNat, show (256 : Nat) = 2 ^ 8 from rfl, Nat.testBit_mod_two_pow, Nat.testBit_div_two_pow]
  by_cases h8 : i < 8
  · have h1 : k + i < 64 := by omega
    simp [h8, h1, hi, Nat.add_comm]
  · simp [h8]
theorem s97 {v n i : Nat} (hv : v < 2 ^ 64) (hn : n ≤ 8) (hi : i < n) : zq S 97 [.long (lN v), .int (nI n), .int (nI i)] I J (some (.int (nI (byt v n i)))) I J := by
  refine zq_of rfl ?_
  show zd S 97 0 [some (.long (lN v)), none, some (.int (nI n)), some (.int (nI i))] [] I J (0, 0) = _
  rw [B97_0, byt_sh hn hi, sshr_and hv (by omega), lN_i]
  rfl
end LEAF
