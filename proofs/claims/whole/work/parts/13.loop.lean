/-! the law's loop: where each call of the two objects answers alike and keeps what holds between them, the law answers true -/
/-- both objects are asked: the answers are one, and Rel holds behind them -/
def zpair (S : Nat × (Nat → Int32)) (Rel : zI → zJ → Prop) (jx jm : Nat) (vs : List Value) : Prop :=
  ∀ I J, Rel I J → ∃ (v : Int32) (I1 : zI) (J1 : zJ) (I2 : zI) (J2 : zJ), zq S jx (.ref 0 :: vs) I J (some (.int v)) I1 J1 ∧ zq S jm (.ref 76 :: vs) I1 J1 (some (.int v)) I2 J2 ∧ Rel I2 J2
def zagree (S : Nat × (Nat → Int32)) (Rel : zI → zJ → Prop) : Prop :=
  (∀ (x : Int32) (b : Int32), zpair S Rel 3 96 [.int (x.toUInt32 % 65536).toInt32, .int b]) ∧
  (∀ (a : Int64) (n : Int32) (b : Int64), zpair S Rel 4 100 [.long a, .int n, .long b]) ∧
  (∀ (a : Int64) (n : Int32), zpair S Rel 5 104 [.long a, .int n]) ∧
  (∀ (a : Int64) (n : Int32), zpair S Rel 6 105 [.long a, .int n]) ∧
  (zpair S Rel 7 106 []) ∧
  (zpair S Rel 8 116 []) ∧
  (zpair S Rel 9 117 []) ∧
  (zpair S Rel 10 138 []) ∧
  (∀ (a : Int32), zpair S Rel 11 140 [.int a]) ∧
  (∀ (a : Int32), zpair S Rel 12 141 [.int a]) ∧
  (∀ (a b : Int32), zpair S Rel 13 142 [.int a, .int b]) ∧
  (∀ (a b c : Int32), zpair S Rel 14 143 [.int a, .int b, .int c]) ∧
  (∀ (a b c : Int32), zpair S Rel 15 145 [.int a, .int b, .int c]) ∧
  (∀ (a b c d : Int32), zpair S Rel 16 148 [.int a, .int b, .int c, .int d])
theorem zin_n {a n : Nat} (h : a < n) (hn : n < 2 ^ 31) : zin (nI a) n = true := by
  unfold zin
  rw [decide_eq_true_eq, nI_toInt (by omega)]
  omega
theorem nI_6 (i : Nat) : nI i + 6 = nI (i + 6) := by
  rw [show (6 : Int32) = nI 6 from rfl, nI_add]
theorem nI_k (i : Nat) : nI i + 1 = nI (i + 1) ∧ nI i + 2 = nI (i + 2) ∧ nI i + 3 = nI (i + 3) ∧ nI i + 4 = nI (i + 4) ∧ nI i + 5 = nI (i + 5) := by
  refine ⟨nI_1 i, ?_, ?_, ?_, ?_⟩
  · rw [show (2 : Int32) = nI 2 from rfl, nI_add]
  · rw [show (3 : Int32) = nI 3 from rfl, nI_add]
  · rw [show (4 : Int32) = nI 4 from rfl, nI_add]
  · rw [show (5 : Int32) = nI 5 from rfl, nI_add]
theorem zcase (x : Int32) : (∃ c : Nat, c < 14 ∧ x &&& 15 = nI c) ∨ ((x &&& 15).toInt < 0 ∨ 13 < (x &&& 15).toInt) := by
  obtain ⟨j, hj, e⟩ := pk_andE x (m := 15) 4 (by decide)
  by_cases h : j < 14
  · exact Or.inl ⟨j, h, e⟩
  · right
    right
    rw [e, nI_toInt (by omega)]
    omega
theorem lw_lp {S : Nat × (Nat → Int32)} {Rel : zI → zJ → Prop} {k : zK} (hL : S.1 ≤ 3075) (hb : Nat.ble k.1 (mBu 0).1 = true ∧ Nat.ble k.2 (mBu 0).2 = true) (hA : zagree S Rel) :
    ∀ (m i : Nat) (I : zI) (J : zJ), Rel I J → S.1 + 6 < i + 6 * m + 6 → i < 4000 → ∃ I' J', zd S 0 48 [some (.float 0), some (.ref 0), some (.ref 76), some (.int (nI i))] [] I J k = some (some (.int 1), mk I' J', k) := by
  obtain ⟨P0, P1, P2, P3, P4, P5, P6, P7, P8, P9, P10, P11, P12, P13⟩ := hA
  intro m
  induction m with
  | zero =>
    intro i I J hR hm hi
    refine ⟨I, J, ?_⟩
    rw [B0_48, if_pos, B0_672 rfl]
    rw [Int32.lt_iff_toInt_lt, show (Int32.ofNat S.1 - 6 : Int32) = nI S.1 - nI 6 from rfl, pk_sub_toInt (by omega) (by omega), nI_toInt (by omega)]
    omega
  | succ m ih =>
    intro i I J hR hm hi
    by_cases hx : S.1 < i + 6
    · refine ⟨I, J, ?_⟩
      rw [B0_48, if_pos, B0_672 rfl]
      rw [Int32.lt_iff_toInt_lt, show (Int32.ofNat S.1 - 6 : Int32) = nI S.1 - nI 6 from rfl, pk_sub_toInt (by omega) (by omega), nI_toInt (by omega)]
      omega
    · have hc : ¬ (Int32.ofNat S.1 - 6) < nI i := by
        rw [Int32.lt_iff_toInt_lt, show (Int32.ofNat S.1 - 6 : Int32) = nI S.1 - nI 6 from rfl, pk_sub_toInt (by omega) (by omega), nI_toInt (by omega)]
        omega
      obtain ⟨k1, k2, k3, k4, k5⟩ := nI_k i
      have h0 : zin (nI i) S.1 = true := zin_n (by omega) (by omega)
      have h1 : zin (nI i + 1) S.1 = true := by rw [k1]; exact zin_n (by omega) (by omega)
      have h2 : zin (nI i + 2) S.1 = true := by rw [k2]; exact zin_n (by omega) (by omega)
      have h3 : zin (nI i + 3) S.1 = true := by rw [k3]; exact zin_n (by omega) (by omega)
      have h4 : zin (nI i + 4) S.1 = true := by rw [k4]; exact zin_n (by omega) (by omega)
      have h5 : zin (nI i + 5) S.1 = true := by rw [k5]; exact zin_n (by omega) (by omega)
      have go : ∀ (I2 : zI) (J2 : zJ), Rel I2 J2 → ∃ I' J', zd S 0 666 [some (.float 0), some (.ref 0), some (.ref 76), some (.int (nI i))] [] I2 J2 k = some (some (.int 1), mk I' J', k) := by
        intro I2 J2 hR2
        rw [B0_666, nI_6]
        exact ih (i + 6) I2 J2 hR2 (by omega) (by omega)
      rw [B0_48, if_neg hc]
      rcases zcase (S.2 (nI i).toNatClampNeg) with ⟨c, hc14, e⟩ | e
      · match c, hc14 with
        | 0, _ =>
          obtain ⟨v, I1, J1, I2, J2, q1, q2, hR2⟩ := P0 _ _ I J hR
          rw [B0_57_0 h0 e, B0_132 hb h1 h2 q1, B0_147 hb h1 h2 q2, B0_162, if_pos rfl]
          exact go I2 J2 hR2
        | 1, _ =>
          obtain ⟨v, I1, J1, I2, J2, q1, q2, hR2⟩ := P1 _ _ _ I J hR
          rw [B0_57_1 h0 e, B0_167 hb h1 h2 h3 h4 h5 q1, B0_216 hb h1 h2 h3 h4 h5 q2, B0_265, if_pos rfl]
          exact go I2 J2 hR2
        | 2, _ =>
          obtain ⟨v, I1, J1, I2, J2, q1, q2, hR2⟩ := P2 _ _ I J hR
          rw [B0_57_2 h0 e, B0_270 hb h1 h2 h3 q1, B0_299 hb h1 h2 h3 q2, B0_328, if_pos rfl]
          exact go I2 J2 hR2
        | 3, _ =>
          obtain ⟨v, I1, J1, I2, J2, q1, q2, hR2⟩ := P3 _ _ I J hR
          rw [B0_57_3 h0 e, B0_333 hb h1 h2 h3 q1, B0_362 hb h1 h2 h3 q2, B0_391, if_pos rfl]
          exact go I2 J2 hR2
        | 4, _ =>
          obtain ⟨v, I1, J1, I2, J2, q1, q2, hR2⟩ := P4 I J hR
          rw [B0_57_4 h0 e, B0_396 hb  q1, B0_400 hb  q2, B0_404, if_pos rfl]
          exact go I2 J2 hR2
        | 5, _ =>
          obtain ⟨v, I1, J1, I2, J2, q1, q2, hR2⟩ := P5 I J hR
          rw [B0_57_5 h0 e, B0_409 hb  q1, B0_413 hb  q2, B0_417, if_pos rfl]
          exact go I2 J2 hR2
        | 6, _ =>
          obtain ⟨v, I1, J1, I2, J2, q1, q2, hR2⟩ := P6 I J hR
          rw [B0_57_6 h0 e, B0_422 hb  q1, B0_426 hb  q2, B0_430, if_pos rfl]
          exact go I2 J2 hR2
        | 7, _ =>
          obtain ⟨v, I1, J1, I2, J2, q1, q2, hR2⟩ := P7 I J hR
          rw [B0_57_7 h0 e, B0_435 hb  q1, B0_439 hb  q2, B0_443, if_pos rfl]
          exact go I2 J2 hR2
        | 8, _ =>
          obtain ⟨v, I1, J1, I2, J2, q1, q2, hR2⟩ := P8 _ I J hR
          rw [B0_57_8 h0 e, B0_448 hb h1 q1, B0_457 hb h1 q2, B0_466, if_pos rfl]
          exact go I2 J2 hR2
        | 9, _ =>
          obtain ⟨v, I1, J1, I2, J2, q1, q2, hR2⟩ := P9 _ I J hR
          rw [B0_57_9 h0 e, B0_471 hb h1 q1, B0_480 hb h1 q2, B0_489, if_pos rfl]
          exact go I2 J2 hR2
        | 10, _ =>
          obtain ⟨v, I1, J1, I2, J2, q1, q2, hR2⟩ := P10 _ _ I J hR
          rw [B0_57_10 h0 e, B0_494 hb h1 h2 q1, B0_508 hb h1 h2 q2, B0_522, if_pos rfl]
          exact go I2 J2 hR2
        | 11, _ =>
          obtain ⟨v, I1, J1, I2, J2, q1, q2, hR2⟩ := P11 _ _ _ I J hR
          rw [B0_57_11 h0 e, B0_527 hb h1 h2 h3 q1, B0_546 hb h1 h2 h3 q2, B0_565, if_pos rfl]
          exact go I2 J2 hR2
        | 12, _ =>
          obtain ⟨v, I1, J1, I2, J2, q1, q2, hR2⟩ := P12 _ _ _ I J hR
          rw [B0_57_12 h0 e, B0_570 hb h1 h2 h3 q1, B0_589 hb h1 h2 h3 q2, B0_608, if_pos rfl]
          exact go I2 J2 hR2
        | 13, _ =>
          obtain ⟨v, I1, J1, I2, J2, q1, q2, hR2⟩ := P13 _ _ _ _ I J hR
          rw [B0_57_13 h0 e, B0_613 hb h1 h2 h3 h4 q1, B0_637 hb h1 h2 h3 h4 q2, B0_661, if_pos rfl]
          exact go I2 J2 hR2
      · rw [B0_57_d h0 e]
        exact go I J hR
