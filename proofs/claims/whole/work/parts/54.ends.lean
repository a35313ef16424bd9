/-! plan: where lines may end, the one side -/
theorem hbt_0 (j : Nat) : hbt 0 j = false := by
  unfold hbt
  rw [Nat.zero_div]
  rfl
theorem hbt_sm {g : Nat → Nat} : ∀ (m k j : Nat), hbt (sm g k m) j = (decide (k ≤ j) && (decide (j < k + m) && decide (g (j + 1) % 2 = 1)))
  | 0, k, j => by
    show hbt 0 j = _
    rw [hbt_0]
    by_cases h : k ≤ j
    · rw [decide_eq_false (by omega : ¬ j < k + 0), Bool.false_and, Bool.and_false]
    · rw [decide_eq_false h, Bool.false_and]
  | m + 1, k, j => by
    have ih := hbt_sm (g := g) m (k + 1) j
    have hd : ∀ (m k : Nat), sm g k m % 2 ^ k = 0 := by
      intro m
      induction m with
      | zero => intro k; exact Nat.zero_mod _
      | succ m ihm =>
        intro k
        show (g (k + 1) % 2 * 2 ^ k + sm g (k + 1) m) % 2 ^ k = 0
        have h1 := ihm (k + 1)
        have h2 : 2 ^ k ∣ sm g (k + 1) m := Nat.dvd_trans ⟨2, by rw [Nat.pow_succ]⟩ (Nat.dvd_of_mod_eq_zero h1)
        exact Nat.mod_eq_zero_of_dvd (Nat.dvd_add ⟨_, Nat.mul_comm _ _⟩ h2)
    show hbt (g (k + 1) % 2 * 2 ^ k + sm g (k + 1) m) j = _
    obtain ⟨z, hz⟩ : 2 ^ (k + 1) ∣ sm g (k + 1) m := Nat.dvd_of_mod_eq_zero (hd m (k + 1))
    have hp : 0 < 2 ^ k := Nat.two_pow_pos k
    rcases Nat.lt_trichotomy j k with h | h | h
    · rw [decide_eq_false (by omega : ¬ k ≤ j), Bool.false_and]
      unfold hbt
      have p1 : 2 ^ k = 2 ^ j * (2 * 2 ^ (k - j - 1)) := by
        rw [wb_pw (a := j) (b := k) (by omega), show k - j = (k - j - 1) + 1 by omega, Nat.pow_succ, show k - j - 1 + 1 - 1 = k - j - 1 by omega, Nat.mul_comm (2 ^ (k - j - 1)) 2]
      have e : g (k + 1) % 2 * 2 ^ k + sm g (k + 1) m = 2 ^ j * (2 * (g (k + 1) % 2 * 2 ^ (k - j - 1) + z * 2 * 2 ^ (k - j - 1))) := by
        rw [hz, Nat.pow_succ, p1]
        generalize 2 ^ j = u
        generalize 2 ^ (k - j - 1) = w
        simp only [Nat.mul_add, Nat.mul_comm, Nat.mul_left_comm, Nat.mul_assoc]
      rw [e, Nat.mul_div_cancel_left _ (Nat.two_pow_pos j)]
      exact decide_eq_false (by omega)
    · subst h
      rw [decide_eq_true (Nat.le_refl _), decide_eq_true (by omega : j < j + (m + 1)), Bool.true_and, Bool.true_and]
      unfold hbt
      congr 1
      rw [hz, Nat.pow_succ, show g (j + 1) % 2 * 2 ^ j + 2 ^ j * 2 * z = 2 ^ j * (g (j + 1) % 2 + 2 * z) by rw [Nat.mul_add, Nat.mul_comm (2 ^ j) (g (j + 1) % 2), Nat.mul_assoc], Nat.mul_div_cancel_left _ hp]
      apply propext
      omega
    · have e : (g (k + 1) % 2 * 2 ^ k + sm g (k + 1) m) / 2 ^ j = sm g (k + 1) m / 2 ^ j := by
        have hsmall : g (k + 1) % 2 * 2 ^ k < 2 ^ (k + 1) := by
          have : g (k + 1) % 2 * 2 ^ k ≤ 1 * 2 ^ k := Nat.mul_le_mul_right _ (by omega)
          rw [Nat.pow_succ]
          omega
        rw [wb_pw (a := k + 1) (b := j) (by omega), ← Nat.div_div_eq_div_mul, ← Nat.div_div_eq_div_mul, hz, Nat.add_mul_div_left _ _ (Nat.two_pow_pos _), Nat.div_eq_of_lt hsmall, Nat.mul_div_cancel_left _ (Nat.two_pow_pos _), Nat.zero_add]
      have e2 : hbt (g (k + 1) % 2 * 2 ^ k + sm g (k + 1) m) j = hbt (sm g (k + 1) m) j := by unfold hbt; rw [e]
      rw [e2, ih, decide_eq_true (by omega : k + 1 ≤ j), decide_eq_true (by omega : k ≤ j), Bool.true_and, Bool.true_and]
      congr 1
      by_cases h3 : j < k + 1 + m
      · rw [decide_eq_true h3, decide_eq_true (by omega : j < k + (m + 1))]
      · rw [decide_eq_false h3, decide_eq_false (by omega : ¬ j < k + (m + 1))]
theorem hbt_cut {g : Nat → Nat} {n j : Nat} (hj : j < n) : hbt (cutS g n) j = isC g n j := by
  unfold cutS isC
  rw [hbt_sm]
  by_cases h : 2 ≤ j
  · rw [decide_eq_true h, Bool.true_and, Bool.true_and]
    congr 1
    by_cases h3 : j + 2 ≤ n
    · rw [decide_eq_true h3, decide_eq_true (by omega : j < 2 + (n - 3))]
    · rw [decide_eq_false h3, decide_eq_false (by omega : ¬ j < 2 + (n - 3))]
  · rw [decide_eq_false h, Bool.false_and, Bool.false_and]
theorem sm_lt {g : Nat → Nat} : ∀ (m k : Nat), sm g k m < 2 ^ (k + m)
  | 0, k => Nat.two_pow_pos _
  | m + 1, k => by
    have h := sm_lt (g := g) m (k + 1)
    show g (k + 1) % 2 * 2 ^ k + sm g (k + 1) m < 2 ^ (k + (m + 1))
    have h2 : g (k + 1) % 2 * 2 ^ k ≤ 1 * 2 ^ k := Nat.mul_le_mul_right _ (by omega)
    have hd : 2 ^ (k + 1) ∣ sm g (k + 1) m := by
      have : ∀ (m k : Nat), 2 ^ k ∣ sm g k m := by
        intro m
        induction m with
        | zero => intro k; exact ⟨0, rfl⟩
        | succ m ih =>
          intro k
          exact Nat.dvd_add ⟨_, Nat.mul_comm _ _⟩ (Nat.dvd_trans ⟨2, by rw [Nat.pow_succ]⟩ (ih (k + 1)))
      exact this m (k + 1)
    obtain ⟨z, hz⟩ := hd
    rw [show k + (m + 1) = k + 1 + m by omega] at *
    rw [hz] at h ⊢
    rw [Nat.pow_add 2 (k + 1) m] at h ⊢
    have hz2 : z + 1 ≤ 2 ^ m := Nat.lt_of_mul_lt_mul_left h
    have := Nat.mul_le_mul_left (2 ^ (k + 1)) hz2
    have hp := Nat.two_pow_pos k
    rw [Nat.pow_succ] at *
    rw [Nat.mul_add] at this
    omega
theorem cutS_lt {g : Nat → Nat} {n : Nat} (h : n ≤ 12) : cutS g n < 2 ^ 31 := by
  unfold cutS
  have h1 := sm_lt (g := g) (n - 3) 2
  have : 2 ^ (2 + (n - 3)) ≤ 2 ^ 30 := Nat.pow_le_pow_right (by decide) (by omega)
  omega
section ENDS
variable {S : Nat × (Nat → Int32)} {J : zJ} {k : zK} {P nt a : Nat} {pn pk pv c T : Nat → Nat} {I0 : zI}
theorem g26_i {A n : Nat} (hA : A + n ≤ nt) (hnt : nt ≤ 207) (ha : a + nt ≤ 480) (h6 : I0 55 6 = nI nt) (h5 : ∀ i, i < nt → I0 5 (a + i) = nI (T (a + i))) (hw : ∀ i, i < n → isN (T (a + A + i)) = true) (hT : ∀ i, i < nt → T (a + i) < 256) : ∀ (m i : Nat) (I : zI), A + n = i + m → 0 < i → A ≤ i → (∀ c, c ≠ 60 → c ≠ 62 → I c = I0 c) →
    ∃ I', zd S 26 5 [some (.ref 55), some (.ref 5), some (.int (nI a)), some (.int (nI A)), some (.int (nI i))] [] I J k = zd S 26 5 [some (.ref 55), some (.ref 5), some (.int (nI a)), some (.int (nI A)), some (.int (nI (A + n)))] [] I' J k ∧ (∀ c, c ≠ 62 → I' c = I c) ∧ (∀ x, x < i ∨ A + n ≤ x → I' 62 x = I 62 x) ∧ (∀ x, i ≤ x → x < A + n → I' 62 x = 0) := by
  intro m
  induction m with
  | zero =>
    intro i I hm h0 hi hI
    refine ⟨I, ?_, fun _ _ => rfl, fun _ _ => rfl, fun x h1 h2 => by omega⟩
    rw [show A + n = i by omega]
  | succ m ih =>
    intro i I hm h0 hi hI
    have h55 : I 55 6 = nI nt := by rw [hI 55 (by decide) (by decide)]; exact h6
    have h55' : (u2 I 62 i 0) 55 6 = nI nt := by rw [u2n rfl]; exact h55
    have h5' : (u2 I 62 i 0) 5 (a + i) = nI (T (a + i)) := by rw [u2n rfl, hI 5 (by decide) (by decide)]; exact h5 i (by omega)
    have hl : isN (T (a + i)) = true := by
      have := hw (i - A) (by omega)
      rwa [show a + A + (i - A) = a + i by omega] at this
    have hne : ¬ nI (T (a + i)) = 32 := by
      intro z
      have hh := (isN_i _).mp hl
      have := (nI_eq (b := 32) (by omega) (by decide)).mp z
      omega
    have hne2 : ¬ nI i = nI nt := fun z => by have := (nI_eq (by omega) (by omega)).mp z; omega
    obtain ⟨I', e, f1, f2, f3⟩ := ih (i + 1) (u2 I 62 i 0) (by omega) (by omega) (by omega) (fun c h1 h2 => by rw [u2n (nbeq h2)]; exact hI c h1 h2)
    refine ⟨I', ?_, fun c h => by rw [f1 c h, u2n (nbeq h)], ?_, ?_⟩
    · rw [B26_5, h55, if_neg (nI_nlt (by omega) (by omega)), B26_14 (zin_n (by omega) (by decide)), nI_clamp (by omega), B26_22, h55', if_neg hne2, B26_31 (by rw [nI_add]; exact zin_n (by omega) (by decide)), nI_add, nI_clamp (by omega), h5', if_pos hne, B26_69, nI_1]
      exact e
    · intro x hx
      rw [f2 x (by omega), u2ne (by omega)]
    · intro x h1 h2
      by_cases hx : x = i
      · rw [f2 x (by omega), hx, u2s]
      · exact f3 x (by omega) h2
theorem g26_w {A n : Nat} (hn0 : 0 < n) (hn : n ≤ 12) (hA : A + n ≤ nt) (hnt : nt ≤ 207) (ha : a + nt ≤ 480) (h6 : I0 55 6 = nI nt) (h5 : ∀ i, i < nt → I0 5 (a + i) = nI (T (a + i))) {o : Nat} (hw : ∀ i, i < n → T (a + A + i) = c (o + i)) (hT : ∀ i, i < nt → T (a + i) < 256) (hend : A + n = nt ∨ T (a + A + n) = 32) (hO : okP P pn pk pv) (hP : cPat I0 J P pn pk pv) (hb : Nat.ble k.1 (mBu 26).1 = true ∧ Nat.ble k.2 (mBu 26).2 = true) (I : zI) (hI : ∀ c, c ≠ 60 → c ≠ 62 → I c = I0 c) :
    ∃ I', zd S 26 5 [some (.ref 55), some (.ref 5), some (.int (nI a)), some (.int (nI A)), some (.int (nI (A + n)))] [] I J k = zd S 26 5 [some (.ref 55), some (.ref 5), some (.int (nI a)), some (.int (nI (A + n + 1))), some (.int (nI (A + n + 1)))] [] I' J k ∧ (∀ c, c ≠ 60 → c ≠ 62 → I' c = I c) ∧ (∀ x, x ≤ A ∨ A + n < x → I' 62 x = I 62 x) ∧ (∀ j, 0 < j → j < n → I' 62 (A + j) = if isC (gW P pn pk pv c o n) n j = true then 2 else I 62 (A + j)) ∧ I' 62 (A + n) = 1 := by
  have h55 : I 55 6 = nI nt := by rw [hI 55 (by decide) (by decide)]; exact h6
  have h55' : (u2 I 62 (A + n) 0) 55 6 = nI nt := by rw [u2n rfl]; exact h55
  have q53 : zq S 53 [.ref 56, .ref 5, .int (nI a + nI A), .int (nI a + nI (A + n))] (u2 I 62 (A + n) 0) J (some (.int (nI (cutS (gW P pn pk pv c o n) n)))) (uc (u2 I 62 (A + n) 0) 60 (gI (gW P pn pk pv c o n) ((u2 I 62 (A + n) 0) 60))) J := by
    rw [nI_add, nI_add]
    refine s53 (n1 := 480) rfl rfl (by decide) (by omega) (by omega) (by omega) (by omega) ?_ ?_ hO.1 ?_ ?_ hP.2.2.1 hP.2.2.2 hO.2.1 hO.2.2
    · intro i hi
      rw [u2n rfl, hI 5 (by decide) (by decide), show a + A + i = a + (A + i) by omega, h5 _ (by omega), ← hw i hi, show a + (A + i) = a + A + i by omega]
    · intro i hi
      rw [← hw i hi, show a + A + i = a + (A + i) by omega]
      exact hT _ (by omega)
    · rw [u2n rfl, hI 56 (by decide) (by decide)]
      exact hP.1
    · intro p hp
      rw [u2n rfl, hI 59 (by decide) (by decide)]
      exact hP.2.1 p hp
  generalize hM : uc (u2 I 62 (A + n) 0) 60 (gI (gW P pn pk pv c o n) ((u2 I 62 (A + n) 0) 60)) = M at q53
  have m62 : M 62 = upd (I 62) (A + n) 0 := by
    rw [← hM, ucn rfl]
    exact uc_s _ _ _
  have mo : ∀ c, c ≠ 60 → c ≠ 62 → M c = I c := fun c h1 h2 => by rw [← hM, ucn (nbeq h1), u2n (nbeq h2)]
  have q27 := s27 (S := S) (I := M) (J := J) (a := A) (b := A + n) (n := cutS (gW P pn pk pv c o n) n) (by omega) (by omega) (by omega) (cutS_lt hn)
  refine ⟨uc M 62 (upd (mwA (M 62) (cutS (gW P pn pk pv c o n) n) A (A + n)) (A + n) 1), ?_, ?_, ?_, ?_, ?_⟩
  · rw [B26_5, h55, if_neg (nI_nlt (by omega) (by omega)), B26_14 (zin_n (by omega) (by decide)), nI_clamp (by omega), B26_22, h55']
    have hgo : zd S 26 42 [some (.ref 55), some (.ref 5), some (.int (nI a)), some (.int (nI A)), some (.int (nI (A + n)))] [] (u2 I 62 (A + n) 0) J k = zd S 26 5 [some (.ref 55), some (.ref 5), some (.int (nI a)), some (.int (nI (A + n + 1))), some (.int (nI (A + n + 1)))] [] (uc M 62 (upd (mwA (M 62) (cutS (gW P pn pk pv c o n) n) A (A + n)) (A + n) 1)) J k := by
      rw [B26_42 hb q53, B26_61 hb q27, B26_64, nI_1]
    by_cases he : A + n = nt
    · rw [if_pos (by rw [he]), hgo]
    · have hne2 : ¬ nI (A + n) = nI nt := fun z => by have := (nI_eq (by omega) (by omega)).mp z; omega
      have h32 : T (a + (A + n)) = 32 := by
        rcases hend with h | h
        · exact absurd h he
        · rw [show a + (A + n) = a + A + n by omega]
          exact h
      have h5' : (u2 I 62 (A + n) 0) 5 (a + (A + n)) = 32 := by
        rw [u2n rfl, hI 5 (by decide) (by decide), h5 _ (by omega), h32]
        rfl
      rw [if_neg hne2, B26_31 (by rw [nI_add]; exact zin_n (by omega) (by decide)), nI_add, nI_clamp (by omega), h5', if_neg (not_not_intro rfl), hgo]
  · intro c h1 h2
    rw [ucn (nbeq h2)]
    exact mo c h1 h2
  · intro x hx
    rw [uc_s, pk_un (by omega)]
    unfold mwA
    rw [if_neg (fun z => by have := z.1; omega), m62, pk_un (by omega)]
  · intro j h0 hj
    rw [uc_s, pk_un (by omega)]
    unfold mwA
    rw [show A + j - A = j by omega, hbt_cut hj]
    by_cases hc : isC (gW P pn pk pv c o n) n j = true
    · rw [if_pos hc, if_pos ⟨by omega, hc⟩]
    · rw [if_neg hc, if_neg (fun z => hc z.2), m62, pk_un (by omega)]
  · rw [uc_s, pk_us]
theorem g26_l (hnt : nt ≤ 207) (ha : a + nt ≤ 480) (h6 : I0 55 6 = nI nt) (h5 : ∀ i, i < nt → I0 5 (a + i) = nI (T (a + i))) (hT : ∀ i, i < nt → T (a + i) < 256) (hO : okP P pn pk pv) (hP : cPat I0 J P pn pk pv) (hb : Nat.ble k.1 (mBu 26).1 = true ∧ Nat.ble k.2 (mBu 26).2 = true) : ∀ (L : List Nat) (A o i : Nat) (I : zI), posL L → L ≠ [] → txW T c L (a + A) o → nt = A + L.sum + (L.length - 1) → (i = A ∨ i = A + 1) → 0 < i → (∀ c, c ≠ 60 → c ≠ 62 → I c = I0 c) →
    ∃ I', zd S 26 5 [some (.ref 55), some (.ref 5), some (.int (nI a)), some (.int (nI A)), some (.int (nI i))] [] I J k = some (none, mk I' J, k) ∧ (∀ c, c ≠ 60 → c ≠ 62 → I' c = I c) ∧ (∀ x, x < i → I' 62 x = I 62 x) ∧ (i = A → I' 62 A = 0) ∧ (∀ j, 0 < j → j ≤ L.sum → I' 62 (A + cpL L j) = nI (qd P pn pk pv c L o j)) ∧ (∀ j, 0 < j → j < L.sum → qd P pn pk pv c L o j = 1 → I' 62 (A + bpL L j) = 0) := by
  intro L
  induction L with
  | nil => intro A o i I _ h; exact absurd rfl h
  | cons n L ih =>
    intro A o i I hp _ ht hn hi h0 hI
    have hpn := posL_c hp
    rw [sum_c, len_c] at hn
    obtain ⟨I1, e1, f1, f2, f3⟩ := g26_i (S := S) (J := J) (k := k) (A := A) (n := n) (by omega) hnt ha h6 h5 (fun j hj => by rw [(ht.1 j hj).1]; exact (ht.1 j hj).2) hT (A + n - i) i I (by omega) h0 (by omega) hI
    have hI1 : ∀ c, c ≠ 60 → c ≠ 62 → I1 c = I0 c := fun c a1 a2 => (f1 c a2).trans (hI c a1 a2)
    have hend : A + n = nt ∨ T (a + A + n) = 32 := by
      by_cases hL : L = []
      · subst hL
        left
        rw [hn]
        simp
      · exact Or.inr (ht.2 hL).1
    obtain ⟨I2, e2, g1, g2, g3, g4⟩ := g26_w (S := S) (J := J) (k := k) (A := A) (n := n) (c := c) (o := o) (by omega) (by omega) (by omega) hnt ha h6 h5 (fun j hj => (ht.1 j hj).1) hT hend hO hP hb I1 hI1
    have hI2 : ∀ c, c ≠ 60 → c ≠ 62 → I2 c = I0 c := fun c a1 a2 => (g1 c a1 a2).trans (hI1 c a1 a2)
    have w1 : ∀ j, 0 < j → j < n → I2 62 (A + j) = if isC (gW P pn pk pv c o n) n j = true then 2 else 0 := by
      intro j j0 j1
      rw [g3 j j0 j1, f3 (A + j) (by omega) (by omega)]
    have w0 : i = A → I2 62 A = 0 := fun q => by rw [g2 A (by omega), f3 A (by omega) (by omega)]
    have wl : ∀ x, x < i → I2 62 x = I 62 x := fun x hx => by rw [g2 x (by omega), f2 x (by omega)]
    by_cases hL : L = []
    · subst hL
      have hnt' : A + n = nt := by rw [hn]; simp
      have h55 : I2 55 6 = nI nt := by rw [hI2 55 (by decide) (by decide)]; exact h6
      refine ⟨u2 I2 62 nt 3, ?_, fun c a1 a2 => by rw [u2n (nbeq a2), g1 c a1 a2, f1 c a2], fun x hx => by rw [u2ne (by omega), wl x hx], fun q => by rw [u2ne (by omega), w0 q], ?_, ?_⟩
      · rw [e1, e2, B26_5, h55, if_pos (nI_lt (by omega) (by omega)), B26_75 (by rw [h55]; exact zin_n (by omega) (by decide)), h55, nI_clamp (by omega), B26_85]
      · intro j j0 j1
        rw [sum_c] at j1
        have j1 : j ≤ n := by simpa using j1
        have hc : cpL [n] j = j := if_pos j1
        rw [hc]
        unfold qd
        by_cases hj : j < n
        · rw [u2ne (by omega), w1 j j0 hj, if_pos hj]
          split <;> rfl
        · have hj' : j = n := by omega
          rw [if_neg hj, if_pos hj', hj', hnt', u2s]
          rfl
      · intro j j0 j1 hq
        rw [sum_c] at j1
        have j1 : j < n := by simpa using j1
        exfalso
        unfold qd at hq
        rw [if_pos j1] at hq
        split at hq <;> omega
    · have hlen : L.length ≠ 0 := fun z => hL (List.length_eq_zero_iff.mp z)
      have ht2 := (ht.2 hL).2
      rw [show a + A + n + 1 = a + (A + n + 1) by omega] at ht2
      obtain ⟨I3, e3, k1, k2, k3, k4, k5⟩ := ih (A + n + 1) (o + n) (A + n + 1) I2 hpn.2 hL ht2 (by omega) (Or.inl rfl) (by omega) hI2
      have hE : L.isEmpty = false := isE_f (Nat.pos_of_ne_zero (fun z => hL (posL_0 hpn.2 z)))
      refine ⟨I3, by rw [e1, e2, e3], fun c a1 a2 => by rw [k1 c a1 a2, g1 c a1 a2, f1 c a2], fun x hx => by rw [k2 x (by omega), wl x hx], fun q => by rw [k2 A (by omega), w0 q], ?_, ?_⟩
      · intro j j0 j1
        rw [sum_c] at j1
        unfold cpL qd
        by_cases hj : j < n
        · rw [if_pos (by omega), if_pos hj, k2 _ (by omega), w1 j j0 hj]
          split <;> rfl
        · rw [if_neg hj]
          by_cases hj' : j = n
          · rw [if_pos (by omega), if_pos hj', hj', k2 _ (by omega), g4, hE]
            rfl
          · rw [if_neg (by omega), if_neg hj', show A + (n + 1 + cpL L (j - n)) = A + n + 1 + cpL L (j - n) by omega]
            exact k4 (j - n) (by omega) (by omega)
      · intro j j0 j1 hq
        rw [sum_c] at j1
        unfold qd at hq
        unfold bpL
        by_cases hj : j < n
        · rw [if_pos hj] at hq
          split at hq <;> omega
        · rw [if_neg hj] at hq ⊢
          by_cases hj' : j = n
          · rw [hj', Nat.sub_self, bpL_0 hpn.2]
            exact k3 rfl
          · rw [if_neg hj'] at hq
            rw [show A + (n + 1 + bpL L (j - n)) = A + n + 1 + bpL L (j - n) by omega]
            exact k5 (j - n) (by omega) (by omega) hq
theorem s26 {L : List Nat} {I : zI} (hp : posL L) (hne : L ≠ []) (ht : txW T c L a 0) (hn : nt = L.sum + (L.length - 1)) (hnt : nt ≤ 207) (ha : a + nt ≤ 480) (h6 : I 55 6 = nI nt) (h5 : ∀ i, i < nt → I 5 (a + i) = nI (T (a + i))) (hT : ∀ i, i < nt → T (a + i) < 256) (hO : okP P pn pk pv) (hP : cPat I J P pn pk pv) :
    ∃ I', zq S 26 [.ref 55, .ref 5, .int (nI a)] I J none I' J ∧ (∀ c, c ≠ 60 → c ≠ 62 → I' c = I c) ∧ I' 62 0 = I 62 0 ∧ (∀ j, 0 < j → j ≤ L.sum → I' 62 (cpL L j) = nI (qd P pn pk pv c L 0 j)) ∧ (∀ j, 0 < j → j < L.sum → qd P pn pk pv c L 0 j = 1 → I' 62 (bpL L j) = 0) := by
  obtain ⟨I', e, k1, k2, k3, k4, k5⟩ := g26_l (S := S) (J := J) (k := (0, 0)) hnt ha h6 h5 hT hO hP ⟨rfl, rfl⟩ L 0 0 1 I hp hne ht (by omega) (Or.inr rfl) (by omega) (fun _ _ _ => rfl)
  refine ⟨I', ?_, k1, k2 0 (by omega), ?_, ?_⟩
  · refine zq_of rfl ?_
    show zd S 26 0 [some (.ref 55), some (.ref 5), some (.int (nI a)), none, none] [] I J (0, 0) = _
    rw [B26_0]
    exact e
  · intro j j0 j1
    have := k4 j j0 j1
    rwa [Nat.zero_add] at this
  · intro j j0 j1 hq
    have := k5 j j0 j1 hq
    rwa [Nat.zero_add] at this
end ENDS
