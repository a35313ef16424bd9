/-! feed -/
theorem nbeq {a b : Nat} (h : a ≠ b) : Nat.beq a b = false := by
  cases hb : Nat.beq a b with
  | true => exact absurd (Nat.eq_of_beq_eq_true hb) h
  | false => rfl
def okT (c : Nat) : Bool := decide (c = 10) || (decide (32 ≤ c) && decide (c ≤ 126))
theorem okT_i (c : Nat) : okT c = true ↔ c = 10 ∨ (32 ≤ c ∧ c ≤ 126) := by
  unfold okT
  simp
/-- from byte i on all are characters that may be fed -/
def okF (v n : Nat) : Nat → Nat → Bool
  | _, 0 => true
  | i, m + 1 => okT (byt v n i) && okF v n (i + 1) m
theorem okF_at {v n : Nat} : ∀ (m i : Nat), okF v n i m = true → ∀ q, i ≤ q → q < i + m → okT (byt v n q) = true
  | 0, i, _, q, h1, h2 => by omega
  | m + 1, i, h, q, h1, h2 => by
    unfold okF at h
    rw [Bool.and_eq_true] at h
    by_cases hq : q = i
    · rw [hq]; exact h.1
    · exact okF_at m (i + 1) h.2 q (by omega) (by omega)
theorem chn {b : Nat} (h : b < 65536) : vp_nar .char ((nI b).toUInt32 % 65536).toInt32 = nI b := by
  rw [pk_vc, pk_char, pk_tn (by omega), Nat.mod_eq_of_lt h]
/-- what an array holds behind the bytes that were put at N -/
def fedA (f : Nat → Int32) (v n N i : Nat) : Nat → Int32 := fun q => if N ≤ q ∧ q < N + i then nI (byt v n (q - N)) else f q
theorem fedA_0 (f : Nat → Int32) (v n N : Nat) : fedA f v n N 0 = f := by
  funext q
  unfold fedA
  rw [if_neg (by omega)]
theorem fedA_s (f : Nat → Int32) (v n N i : Nat) : upd (fedA f v n N i) (N + i) (nI (byt v n i)) = fedA f v n N (i + 1) := by
  funext q
  unfold upd fedA
  by_cases h : q = N + i
  · subst h
    rw [if_pos rfl, if_pos (by omega), Nat.add_sub_cancel_left]
  · rw [if_neg h]
    by_cases h2 : N ≤ q ∧ q < N + i
    · rw [if_pos h2, if_pos (by omega)]
    · rw [if_neg h2, if_neg (by omega)]
section FEED
variable {S : Nat × (Nat → Int32)} {I : zI} {J : zJ} {k : zK}
theorem f6_c {v n i c : Nat} (hc : c < 256) : zd S 6 29 [some (.ref 0), some (.long (lN v)), none, some (.int (nI n)), some (.int (nI i)), none] [.int (nI c)] I J k = if okT c = true then zd S 6 16 [some (.ref 0), some (.long (lN v)), none, some (.int (nI n)), some (.int (nI (i + 1))), none] [] I J k else some (some (.int (-1)), mk I J, k) := by
  have e1 : nI c = 10 ↔ c = 10 := nI_eq (b := 10) (by omega) (by decide)
  have e2 : nI c < 32 ↔ c < 32 := nI_ltI (b := 32) (by omega) (by decide)
  have e3 : nI c ≤ 126 ↔ c ≤ 126 := nI_leI (b := 126) (by omega) (by decide)
  have e4 := okT_i c
  rw [B6_29]
  by_cases h1 : c = 10
  · rw [if_pos (e1.mpr h1), B6_54, nI_1, if_pos (e4.mpr (Or.inl h1))]
  · rw [if_neg (fun z => h1 (e1.mp z)), B6_38]
    by_cases h2 : c < 32
    · rw [if_pos (e2.mpr h2), B6_52, if_neg (fun z => by have := e4.mp z; omega)]
    · rw [if_neg (fun z => h2 (e2.mp z)), B6_45]
      by_cases h3 : c ≤ 126
      · rw [if_pos (e3.mpr h3), B6_54, nI_1, if_pos (e4.mpr (by omega))]
      · rw [if_neg (fun z => h3 (e3.mp z)), B6_52, if_neg (fun z => by have := e4.mp z; omega)]
theorem f6_l {v n : Nat} (hv : v < 2 ^ 64) (hn : n ≤ 8) (hb : Nat.ble k.1 (mBu 6).1 = true ∧ Nat.ble k.2 (mBu 6).2 = true) : ∀ (m i : Nat), n = i + m → zd S 6 16 [some (.ref 0), some (.long (lN v)), none, some (.int (nI n)), some (.int (nI i)), none] [] I J k = if okF v n i m = true then zd S 6 60 [some (.ref 0), some (.long (lN v)), none, some (.int (nI n)), some (.int (nI n)), none] [] I J k else some (some (.int (-1)), mk I J, k) := by
  intro m
  induction m with
  | zero =>
    intro i hm
    have hi : n = i := by omega
    subst hi
    rw [B6_16, if_pos (nI_le (Nat.le_refl _) (by omega)), if_pos (show okF v n n 0 = true from rfl)]
  | succ m ih =>
    intro i hm
    rw [B6_16, if_neg (nI_ge (by omega) (by omega)), B6_22 hb (s21 hv hn (by omega)), f6_c (byt_lt _ _ _), ih (i + 1) (by omega)]
    rw [show okF v n i (m + 1) = (okT (byt v n i) && okF v n (i + 1) m) from rfl]
    cases okT (byt v n i) <;> simp
theorem f105_c {v n i c : Nat} (hc : c < 256) : zd S 105 29 [some (.ref 76), some (.long (lN v)), none, some (.int (nI n)), some (.int (nI i)), none] [.int (nI c)] I J k = if okT c = true then zd S 105 16 [some (.ref 76), some (.long (lN v)), none, some (.int (nI n)), some (.int (nI (i + 1))), none] [] I J k else some (some (.int (-1)), mk I J, k) := by
  have e1 : nI c = 10 ↔ c = 10 := nI_eq (b := 10) (by omega) (by decide)
  have e2 : nI c < 32 ↔ c < 32 := nI_ltI (b := 32) (by omega) (by decide)
  have e3 : nI c ≤ 126 ↔ c ≤ 126 := nI_leI (b := 126) (by omega) (by decide)
  have e4 := okT_i c
  rw [B105_29]
  by_cases h1 : c = 10
  · rw [if_pos (e1.mpr h1), B105_54, nI_1, if_pos (e4.mpr (Or.inl h1))]
  · rw [if_neg (fun z => h1 (e1.mp z)), B105_38]
    by_cases h2 : c < 32
    · rw [if_pos (e2.mpr h2), B105_52, if_neg (fun z => by have := e4.mp z; omega)]
    · rw [if_neg (fun z => h2 (e2.mp z)), B105_45]
      by_cases h3 : c ≤ 126
      · rw [if_pos (e3.mpr h3), B105_54, nI_1, if_pos (e4.mpr (by omega))]
      · rw [if_neg (fun z => h3 (e3.mp z)), B105_52, if_neg (fun z => by have := e4.mp z; omega)]
theorem f105_l {v n : Nat} (hv : v < 2 ^ 64) (hn : n ≤ 8) (hb : Nat.ble k.1 (mBu 105).1 = true ∧ Nat.ble k.2 (mBu 105).2 = true) : ∀ (m i : Nat), n = i + m → zd S 105 16 [some (.ref 76), some (.long (lN v)), none, some (.int (nI n)), some (.int (nI i)), none] [] I J k = if okF v n i m = true then zd S 105 60 [some (.ref 76), some (.long (lN v)), none, some (.int (nI n)), some (.int (nI n)), none] [] I J k else some (some (.int (-1)), mk I J, k) := by
  intro m
  induction m with
  | zero =>
    intro i hm
    have hi : n = i := by omega
    subst hi
    rw [B105_16, if_pos (nI_le (Nat.le_refl _) (by omega)), if_pos (show okF v n n 0 = true from rfl)]
  | succ m ih =>
    intro i hm
    rw [B105_16, if_neg (nI_ge (by omega) (by omega)), B105_22 hb (s97 hv hn (by omega)), f105_c (byt_lt _ _ _), ih (i + 1) (by omega)]
    rw [show okF v n i (m + 1) = (okT (byt v n i) && okF v n (i + 1) m) from rfl]
    cases okT (byt v n i) <;> simp
theorem f6_w {v n N : Nat} (hv : v < 2 ^ 64) (hn : n ≤ 8) (hN : N + n ≤ 480) (hI : I 0 8 = nI N) (hb : Nat.ble k.1 (mBu 6).1 = true ∧ Nat.ble k.2 (mBu 6).2 = true) : ∀ (m i : Nat), n = i + m → zd S 6 78 [some (.ref 0), some (.long (lN v)), none, some (.int (nI n)), some (.int (nI i)), none] [] (uc I 2 (fedA (I 2) v n N i)) J k = some (some (.int (nI (N + n))), mk (u2 (uc I 2 (fedA (I 2) v n N n)) 0 8 (nI (N + n))) J, k) := by
  intro m
  induction m with
  | zero =>
    intro i hm
    have hi : n = i := by omega
    subst hi
    rw [B6_78, if_pos (nI_le (Nat.le_refl _) (by omega)), B6_110, B6_120, u2s, ucn rfl, hI, nI_add]
  | succ m ih =>
    intro i hm
    rw [B6_78, if_neg (nI_ge (by omega) (by omega)), B6_84 hb (s21 hv hn (by omega)), ucn rfl, hI, nI_add, B6_102 (zin_n (by omega) (by decide)), B6_104, nI_1, nI_clamp (by omega), chn (by have := byt_lt v n i; omega), u2uc, fedA_s]
    exact ih (i + 1) (by omega)
/-- what feed answers -/
def fedR (N : Nat) (v : Nat) (x : Int32) : Int32 := if x < 1 ∨ 8 < x then -1 else if okF v x.toNatClampNeg 0 x.toNatClampNeg = true then (if N + x.toNatClampNeg ≤ 480 then nI (N + x.toNatClampNeg) else -2) else -1
def fedOk (N : Nat) (v : Nat) (x : Int32) : Bool := !decide (x < 1) && (!decide (8 < x) && (okF v x.toNatClampNeg 0 x.toNatClampNeg && decide (N + x.toNatClampNeg ≤ 480)))
theorem le8 {x : Int32} (h1 : ¬ x < 1) (h2 : x ≤ 8) : ∃ n : Nat, 1 ≤ n ∧ n ≤ 8 ∧ x = nI n := by
  rw [Int32.lt_iff_toInt_lt] at h1
  rw [Int32.le_iff_toInt_le] at h2
  have e1 : (1 : Int32).toInt = 1 := by decide
  have e8 : (8 : Int32).toInt = 8 := by decide
  rw [e1] at h1
  rw [e8] at h2
  obtain ⟨n, hn, rfl⟩ := nI_of (x := x) (by rw [Int32.lt_iff_toInt_lt, Int32.toInt_zero]; omega)
  rw [nI_toInt hn] at h1 h2
  exact ⟨n, by omega, by omega, rfl⟩
theorem s6 {v N : Nat} (x : Int32) (hv : v < 2 ^ 64) (hN : N ≤ 480) (hI : I 0 8 = nI N) : zq S 6 [.ref 0, .long (lN v), .int x] I J (some (.int (fedR N v x))) (if fedOk N v x = true then u2 (uc I 2 (fedA (I 2) v x.toNatClampNeg N x.toNatClampNeg)) 0 8 (nI (N + x.toNatClampNeg)) else I) J := by
  refine zq_of rfl ?_
  show zd S 6 0 [some (.ref 0), some (.long (lN v)), none, some (.int x), none, none] [] I J (0, 0) = _
  unfold fedR fedOk
  rw [B6_0]
  by_cases h1 : x < 1
  · rw [if_pos h1, B6_11, if_pos (Or.inl h1), decide_eq_true h1]; rfl
  · rw [if_neg h1, B6_5]
    by_cases h2 : x ≤ 8
    · obtain ⟨n, n1, n8, rfl⟩ := le8 h1 h2
      have h3 : ¬ 8 < nI n := Int32.not_lt.mpr h2
      have h5 : ¬ (nI n < 1 ∨ 8 < nI n) := fun z => z.elim h1 h3
      rw [if_pos h2, B6_13, show (0 : Int32) = nI 0 from rfl, f6_l hv n8 ⟨rfl, rfl⟩ n 0 (by omega), if_neg h5, nI_clamp (by omega), decide_eq_false h1, decide_eq_false h3]
      cases hk : okF v n 0 n with
      | false => rfl
      | true =>
        rw [if_pos rfl, if_pos rfl, B6_60, hI, nI_add]
        have e : nI (N + n) ≤ 480 ↔ N + n ≤ 480 := nI_leI (b := 480) (by omega) (by decide)
        by_cases h4 : N + n ≤ 480
        · have hw := f6_w (S := S) (I := I) (J := J) (k := (0, 0)) hv n8 h4 hI ⟨rfl, rfl⟩ n 0 (by omega)
          rw [fedA_0, uc_id] at hw
          rw [if_pos (e.mpr h4), B6_75, show (0 : Int32) = nI 0 from rfl, hw, if_pos h4, decide_eq_true h4]
          rfl
        · rw [if_neg (fun z => h4 (e.mp z)), B6_72, if_neg h4, decide_eq_false h4]
          rfl
    · have h3 : 8 < x := Int32.not_le.mp h2
      rw [if_neg h2, B6_11, if_pos (Or.inr h3), decide_eq_false h1, decide_eq_true h3]; rfl
theorem f105_w {v n N : Nat} (hv : v < 2 ^ 64) (hn : n ≤ 8) (hN : N + n ≤ 480) (hb : Nat.ble k.1 (mBu 105).1 = true ∧ Nat.ble k.2 (mBu 105).2 = true) : ∀ (m i : Nat), n = i + m → zd S 105 78 [some (.ref 76), some (.long (lN v)), none, some (.int (nI n)), some (.int (nI i)), none] [] (u2 (uc I 84 (fedA (I 84) v n N i)) 76 12 (nI (N + i))) J k = some (some (.int (nI (N + n))), mk (u2 (uc I 84 (fedA (I 84) v n N n)) 76 12 (nI (N + n))) J, k) := by
  intro m
  induction m with
  | zero =>
    intro i hm
    have hi : n = i := by omega
    subst hi
    rw [B105_78, if_pos (nI_le (Nat.le_refl _) (by omega)), B105_116, u2s]
  | succ m ih =>
    intro i hm
    rw [B105_78, if_neg (nI_ge (by omega) (by omega)), B105_84 hb (s97 hv hn (by omega)), u2s, B105_99 (zin_n (by omega) (by decide)), B105_100, B105_110, nI_1, nI_clamp (by omega)]
    have e : u2 (u2 (u2 (uc I 84 (fedA (I 84) v n N i)) 76 12 (nI (N + i))) 84 (N + i) (nI (byt v n i))) 76 12 (u2 (u2 (uc I 84 (fedA (I 84) v n N i)) 76 12 (nI (N + i))) 84 (N + i) (nI (byt v n i)) 76 12 + 1) = u2 (uc I 84 (fedA (I 84) v n N (i + 1))) 76 12 (nI (N + (i + 1))) := by
      rw [u2n (b := 76) (a := 84) rfl, u2s, nI_1, ← fedA_s, ← u2uc]
      funext a q
      by_cases h76 : a = 76
      · subst h76
        by_cases hq : q = 12
        · subst hq
          rw [u2s, u2s]
          rfl
        · rw [u2ne hq, u2ne hq, u2n (b := 76) (a := 84) rfl, u2ne hq, u2n (b := 76) (a := 84) rfl]
      · have hb1 : Nat.beq a 76 = false := nbeq h76
        rw [u2n hb1, u2n hb1]
        by_cases h84 : a = 84
        · subst h84
          by_cases hq : q = N + i
          · subst hq
            rw [u2s, u2s]
          · rw [u2ne hq, u2ne hq, u2n hb1]
        · have hb2 : Nat.beq a 84 = false := nbeq h84
          rw [u2n hb2, u2n hb2, u2n hb1]
    rw [e]
    exact ih (i + 1) (by omega)
theorem s105 {v N : Nat} (x : Int32) (hv : v < 2 ^ 64) (hN : N ≤ 480) (hI : I 76 12 = nI N) : zq S 105 [.ref 76, .long (lN v), .int x] I J (some (.int (fedR N v x))) (if fedOk N v x = true then u2 (uc I 84 (fedA (I 84) v x.toNatClampNeg N x.toNatClampNeg)) 76 12 (nI (N + x.toNatClampNeg)) else I) J := by
  refine zq_of rfl ?_
  show zd S 105 0 [some (.ref 76), some (.long (lN v)), none, some (.int x), none, none] [] I J (0, 0) = _
  unfold fedR fedOk
  rw [B105_0]
  by_cases h1 : x < 1
  · rw [if_pos h1, B105_11, if_pos (Or.inl h1), decide_eq_true h1]; rfl
  · rw [if_neg h1, B105_5]
    by_cases h2 : x ≤ 8
    · obtain ⟨n, n1, n8, rfl⟩ := le8 h1 h2
      have h3 : ¬ 8 < nI n := Int32.not_lt.mpr h2
      have h5 : ¬ (nI n < 1 ∨ 8 < nI n) := fun z => z.elim h1 h3
      rw [if_pos h2, B105_13, show (0 : Int32) = nI 0 from rfl, f105_l hv n8 ⟨rfl, rfl⟩ n 0 (by omega), if_neg h5, nI_clamp (by omega), decide_eq_false h1, decide_eq_false h3]
      cases hk : okF v n 0 n with
      | false => rfl
      | true =>
        rw [if_pos rfl, if_pos rfl, B105_60, hI, nI_add]
        have e : nI (N + n) ≤ 480 ↔ N + n ≤ 480 := nI_leI (b := 480) (by omega) (by decide)
        by_cases h4 : N + n ≤ 480
        · have hw := f105_w (S := S) (I := I) (J := J) (k := (0, 0)) hv n8 h4 ⟨rfl, rfl⟩ n 0 (by omega)
          have e0 : u2 I 76 12 (nI (N + 0)) = I := by
            funext a q
            by_cases h76 : a = 76
            · subst h76
              by_cases hq : q = 12
              · subst hq
                rw [u2s, hI]
                rfl
              · rw [u2ne hq]
            · rw [u2n (nbeq h76)]
          rw [fedA_0, uc_id, e0] at hw
          rw [if_pos (e.mpr h4), B105_75, show (0 : Int32) = nI 0 from rfl, hw, if_pos h4, decide_eq_true h4]
          rfl
        · rw [if_neg (fun z => h4 (e.mp z)), B105_72, if_neg h4, decide_eq_false h4]
          rfl
    · have h3 : 8 < x := Int32.not_le.mp h2
      rw [if_neg h2, B105_11, if_pos (Or.inr h3), decide_eq_false h1, decide_eq_true h3]; rfl
end FEED
