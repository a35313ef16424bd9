/-! the model keeps a pattern -/
theorem byt_mod {v n i : Nat} (hi : i < n) : byt (v % 2 ^ (8 * n)) n i = byt v n i := by
  unfold byt
  have e : 2 ^ (8 * n) = 2 ^ (8 * (n - 1 - i)) * 2 ^ (8 * (i + 1)) := by
    rw [← Nat.pow_add]
    congr 1
    omega
  rw [e, Nat.mod_mul_right_div_self, Nat.mod_mod_of_dvd]
  exact ⟨2 ^ (8 * i), by rw [show (256 : Nat) = 2 ^ 8 from rfl, ← Nat.pow_add]; congr 1; omega⟩
theorem byt_eq {a b n : Nat} : ∀ j, j ≤ n → (∀ i, i < j → byt a n i = byt b n i) → a / 2 ^ (8 * (n - j)) % 2 ^ (8 * j) = b / 2 ^ (8 * (n - j)) % 2 ^ (8 * j) := by
  intro j
  induction j with
  | zero => intro _ _; rw [Nat.mul_zero, Nat.pow_zero, Nat.mod_one, Nat.mod_one]
  | succ j ih =>
    intro hj h
    have h1 := ih (by omega) (fun i hi => h i (by omega))
    have h2 := h j (by omega)
    unfold byt at h2
    have e1 : n - 1 - j = n - (j + 1) := by omega
    rw [e1] at h2
    have e2 : 2 ^ (8 * (j + 1)) = 256 * 2 ^ (8 * j) := by rw [show (256 : Nat) = 2 ^ 8 from rfl, ← Nat.pow_add]; congr 1; omega
    have e3 : ∀ x, x / 2 ^ (8 * (n - (j + 1))) / 256 = x / 2 ^ (8 * (n - j)) := by
      intro x
      rw [Nat.div_div_eq_div_mul, show (256 : Nat) = 2 ^ 8 from rfl, ← Nat.pow_add]
      congr 2
      omega
    rw [e2, Nat.mod_mul, Nat.mod_mul, e3, e3, h1, h2]
def bq (a b n : Nat) : Nat → Nat → Bool
  | _, 0 => true
  | i, m + 1 => decide (byt a n i = byt b n i) && bq a b n (i + 1) m
theorem bq_i {a b n : Nat} : ∀ (m i : Nat), bq a b n i m = true ↔ ∀ q, i ≤ q → q < i + m → byt a n q = byt b n q
  | 0, i => ⟨fun _ q h1 h2 => by omega, fun _ => rfl⟩
  | m + 1, i => by
    show (decide (byt a n i = byt b n i) && bq a b n (i + 1) m) = true ↔ _
    rw [Bool.and_eq_true, decide_eq_true_eq, bq_i m (i + 1)]
    constructor
    · intro ⟨h1, h2⟩ q h3 h4
      by_cases hq : q = i
      · rw [hq]; exact h1
      · exact h2 q (by omega) (by omega)
    · intro h
      exact ⟨h i (Nat.le_refl _) (by omega), fun q h1 h2 => h q (by omega) (by omega)⟩
theorem sgA_at {v n : Nat} : ∀ (m i : Nat), sgA v n i m = true → ∀ q, i ≤ q → q < i + m → okS v n q = true
  | 0, i, _, q, h1, h2 => by omega
  | m + 1, i, h, q, h1, h2 => by
    unfold sgA at h
    rw [Bool.and_eq_true] at h
    by_cases hq : q = i
    · rw [hq]; exact h.1
    · exact sgA_at m (i + 1) h.2 q (by omega) (by omega)
theorem okS_lo {v n i : Nat} (h : okS v n i = true) : byt v n i = 46 ∨ (97 ≤ byt v n i ∧ byt v n i ≤ 122) := by
  unfold okS at h
  rw [Bool.or_eq_true] at h
  rcases h with h | h
  · exact Or.inr ((isN_i _).mp h)
  · rw [Bool.and_eq_true, decide_eq_true_eq] at h
    exact Or.inl h.1
/-- a row of n signs: below 2^8n, not below 2^8(n-1) -/
def rowN (r n : Nat) : Prop := 1 ≤ n ∧ n ≤ 6 ∧ 2 ^ (8 * (n - 1)) ≤ r ∧ r < 2 ^ (8 * n)
theorem rowN_of {v n : Nat} (n1 : 1 ≤ n) (n6 : n ≤ 6) (h : sgA v n 0 n = true) : rowN (v % 2 ^ (8 * n)) n := by
  refine ⟨n1, n6, ?_, Nat.mod_lt _ (Nat.two_pow_pos _)⟩
  have h0 := okS_lo (sgA_at n 0 h 0 (Nat.le_refl _) (by omega))
  rw [← byt_mod (by omega : 0 < n)] at h0
  unfold byt at h0
  rw [Nat.sub_zero] at h0
  refine Nat.not_lt.mp fun hl => ?_
  rw [Nat.div_eq_of_lt hl] at h0
  omega
theorem rowN_n {r n m : Nat} (h : rowN r n) (h' : rowN r m) : n = m := by
  obtain ⟨a1, a2, a3, a4⟩ := h
  obtain ⟨b1, b2, b3, b4⟩ := h'
  by_cases h1 : n < m
  · exfalso
    have : 2 ^ (8 * n) ≤ 2 ^ (8 * (m - 1)) := Nat.pow_le_pow_right (by decide) (by omega)
    omega
  · by_cases h2 : m < n
    · exfalso
      have : 2 ^ (8 * m) ≤ 2 ^ (8 * (n - 1)) := Nat.pow_le_pow_right (by decide) (by omega)
      omega
    · omega
theorem rowN_64 {r n : Nat} (h : rowN r n) : r < 2 ^ 64 := by
  obtain ⟨_, a2, _, a4⟩ := h
  exact Nat.lt_of_lt_of_le a4 (Nat.pow_le_pow_right (by decide) (by omega))
theorem pat_eq {r m v n : Nat} (hr : rowN r m) (n1 : 1 ≤ n) (n6 : n ≤ 6) (h : sgA v n 0 n = true) : (decide (m = n) && bq r v n 0 n) = decide (r = v % 2 ^ (8 * n)) := by
  have hrow := rowN_of n1 n6 h
  by_cases he : r = v % 2 ^ (8 * n)
  · have hm : m = n := rowN_n hr (he ▸ hrow)
    rw [decide_eq_true he, decide_eq_true hm, (bq_i n 0).mpr (fun q _ hq => by rw [he]; exact byt_mod (by omega))]
    rfl
  · rw [decide_eq_false he, Bool.and_eq_false_iff]
    by_cases hm : m = n
    · right
      subst hm
      cases hb : bq r v m 0 m with
      | false => rfl
      | true =>
        exfalso
        have := byt_eq (a := r) (b := v) m (Nat.le_refl _) (fun i hi => (bq_i m 0).mp hb i (Nat.zero_le _) (by omega))
        rw [Nat.sub_self, Nat.mul_zero, Nat.pow_zero, Nat.div_one, Nat.div_one, Nat.mod_eq_of_lt hr.2.2.2] at this
        exact he this
    · left
      exact decide_eq_false hm
theorem uc_comm {α : Type} {I : Nat → Nat → α} {a b : Nat} {f g : Nat → α} (h : a ≠ b) : uc (uc I a f) b g = uc (uc I b g) a f := by
  funext c
  unfold uc
  by_cases h1 : c = b
  · rw [if_pos h1, if_neg (by omega), if_pos h1]
  · rw [if_neg h1]
    by_cases h2 : c = a
    · rw [if_pos h2, if_pos h2]
    · rw [if_neg h2, if_neg h2, if_neg h1]
section MPAT
variable {S : Nat × (Nat → Int32)} {I : zI} {J : zJ} {k : zK}
theorem g99_l {v n p r : Nat} (hv : v < 2 ^ 64) (hn : n ≤ 6) (hp : p < 20) (hI : ∀ i, i < n → I 80 (6 * p + i) = nI (byt r n i)) (hb : Nat.ble k.1 (mBu 99).1 = true ∧ Nat.ble k.2 (mBu 99).2 = true) : ∀ (m i : Nat), n = i + m →
    zd S 99 21 [some (.ref 76), some (.int (nI p)), some (.long (lN v)), none, some (.int (nI n)), some (.int (bI true)), some (.int (nI i))] [] I J k = some (some (.int (bI (bq r v n i m))), mk I J, k) := by
  intro m
  induction m with
  | zero =>
    intro i hm
    have hi : n = i := by omega
    subst hi
    rw [B99_21, if_pos (nI_le (Nat.le_refl _) (by omega)), B99_69 rfl]
    rfl
  | succ m ih =>
    intro i hm
    have e6 : 6 * nI p + nI i = nI (6 * p + i) := by rw [show (6 : Int32) = nI 6 from rfl, pk_mul, nI_add]
    have ee : nI (byt r n i) = nI (byt v n i) ↔ byt r n i = byt v n i := nI_eq (by have := byt_lt r n i; omega) (by have := byt_lt v n i; omega)
    rw [B99_21, if_neg (nI_ge (by omega) (by omega)), B99_28, if_neg (by decide), B99_33 hb (by rw [e6]; exact zin_n (by omega) (by decide)) (s97 hv (by omega) (by omega)), e6, nI_clamp (by omega), hI i (by omega), B99_53]
    show _ = some (some (Value.int (bI (decide (byt r n i = byt v n i) && bq r v n (i + 1) m))), mk I J, k)
    by_cases h : byt r n i = byt v n i
    · rw [if_neg (not_not_intro (ee.mpr h)), B99_56, nI_1, show (1 : Int32) = bI true from rfl, ih (i + 1) (by omega), decide_eq_true h]
      rfl
    · rw [if_pos (fun z => h (ee.mp z)), B99_60, B99_21, decide_eq_false h]
      by_cases hx : nI n ≤ nI i + 1
      · rw [if_pos hx, B99_69 rfl]; rfl
      · rw [if_neg hx, B99_28, if_pos (by decide), B99_69 rfl]; rfl
theorem s99 {v n p r m : Nat} (hv : v < 2 ^ 64) (n1 : 1 ≤ n) (n6 : n ≤ 6) (hsg : sgA v n 0 n = true) (hp : p < 20) (hr : rowN r m) (h79 : I 79 p = nI m) (h80 : ∀ i, i < m → I 80 (6 * p + i) = nI (byt r m i)) : zq S 99 [.ref 76, .int (nI p), .long (lN v), .int (nI n)] I J (some (.int (bI (decide (r = v % 2 ^ (8 * n)))))) I J := by
  refine zq_of rfl ?_
  show zd S 99 0 [some (.ref 76), some (.int (nI p)), some (.long (lN v)), none, some (.int (nI n)), none, none] [] I J (0, 0) = _
  have ee : nI m = nI n ↔ m = n := nI_eq (by have := hr.2.1; omega) (by omega)
  rw [B99_0 (zin_n hp (by decide)), nI_clamp (by omega), h79, ← pat_eq hr n1 n6 hsg]
  by_cases h : m = n
  · subst h
    rw [if_neg (not_not_intro rfl), B99_11, show (1 : Int32) = bI true from rfl, show (0 : Int32) = nI 0 from rfl, g99_l hv n6 hp h80 ⟨rfl, rfl⟩ m 0 (by omega), decide_eq_true rfl]
    rfl
  · rw [if_pos (fun z => h (ee.mp z)), B99_15, B99_21, decide_eq_false h]
    by_cases hx : nI n ≤ 0
    · rw [if_pos hx, B99_69 rfl]; rfl
    · rw [if_neg hx, B99_28, if_pos (by decide), B99_69 rfl]; rfl
/-- the values -/
theorem g100_v {v u n : Nat} (hu : u < 2 ^ 64) (hn : n ≤ 6) (hb : Nat.ble k.1 (mBu 100).1 = true ∧ Nat.ble k.2 (mBu 100).2 = true) : ∀ (m i : Nat), n + 1 = i + m →
    zd S 100 24 [some (.ref 76), some (.long (lN v)), none, some (.int (nI n)), some (.long (lN u)), none, some (.int (nI i)), none] [] I J k = if vlA u (n + 1) i m = true then zd S 100 53 [some (.ref 76), some (.long (lN v)), none, some (.int (nI n)), some (.long (lN u)), none, some (.int (nI (n + 1))), none] [] I J k else some (some (.int (-1)), mk I J, k) := by
  intro m
  induction m with
  | zero =>
    intro i hm
    have hi : i = n + 1 := by omega
    subst hi
    rw [B100_24, if_pos (nI_lt (by omega) (by omega)), if_pos (show vlA u (n + 1) (n + 1) 0 = true from rfl)]
  | succ m ih =>
    intro i hm
    have e : nI (byt u (n + 1) i) ≤ 9 ↔ byt u (n + 1) i ≤ 9 := nI_leI (b := 9) (by have := byt_lt u (n + 1) i; omega) (by decide)
    have h97 : zq S 97 [.long (lN u), .int (nI n + 1), .int (nI i)] I J (some (.int (nI (byt u (n + 1) i)))) I J := by
      rw [nI_1]
      exact s97 hu (by omega) (by omega)
    rw [B100_24, if_neg (nI_nlt (by omega) (by omega)), B100_30 hb h97, B100_40, show vlA u (n + 1) i (m + 1) = (decide (byt u (n + 1) i ≤ 9) && vlA u (n + 1) (i + 1) m) from rfl]
    by_cases h : byt u (n + 1) i ≤ 9
    · rw [if_pos (e.mpr h), B100_47, nI_1, ih (i + 1) (by omega), decide_eq_true h]
      rfl
    · rw [if_neg (fun z => h (e.mp z)), B100_45, decide_eq_false h]
      rfl
/-- the place -/
theorem g100_p {P v u n : Nat} {pk pn : Nat → Nat} (hv : v < 2 ^ 64) (n1 : 1 ≤ n) (n6 : n ≤ 6) (hsg : sgA v n 0 n = true) (hP : P ≤ 20) (h5 : I 76 5 = nI P) (hr : ∀ p, p < P → rowN (pk p) (pn p)) (h79 : ∀ p, p < P → I 79 p = nI (pn p)) (h80 : ∀ p, p < P → ∀ i, i < pn p → I 80 (6 * p + i) = nI (byt (pk p) (pn p) i)) (hb : Nat.ble k.1 (mBu 100).1 = true ∧ Nat.ble k.2 (mBu 100).2 = true) : ∀ (m i : Nat), P = i + m →
    zd S 100 56 [some (.ref 76), some (.long (lN v)), none, some (.int (nI n)), some (.long (lN u)), none, some (.int (nI i)), none] [] I J k = zd S 100 82 [some (.ref 76), some (.long (lN v)), none, some (.int (nI n)), some (.long (lN u)), none, some (.int (nI (plc pk (v % 2 ^ (8 * n)) i m))), none] [] I J k := by
  intro m
  induction m with
  | zero =>
    intro i hm
    have hi : P = i := by omega
    subst hi
    rw [B100_56, h5, if_pos (nI_le (Nat.le_refl _) (by omega))]
    rfl
  | succ m ih =>
    intro i hm
    rw [B100_56, h5, if_neg (nI_ge (by omega) (by omega)), B100_65 hb (s99 hv n1 n6 hsg (by omega) (hr i (by omega)) (h79 i (by omega)) (h80 i (by omega))), B100_73]
    rw [show plc pk (v % 2 ^ (8 * n)) i (m + 1) = (if pk i = v % 2 ^ (8 * n) then i else plc pk (v % 2 ^ (8 * n)) (i + 1) m) from rfl]
    by_cases h : pk i = v % 2 ^ (8 * n)
    · rw [decide_eq_true h, if_pos (by decide), if_pos h]
    · rw [decide_eq_false h, if_neg (by decide), B100_76, nI_1, ih (i + 1) (by omega), if_neg h]
end MPAT
