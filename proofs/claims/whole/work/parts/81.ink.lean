/-! ink: what is seen at unit x of a line: letters k .. t - 1, w their widths, E the word ends -/
def ikF (w c : Nat → Nat) (E : Nat → Bool) (x each t : Nat) : Nat → Nat → Nat → Nat → Option Nat × Nat
  | 0, _, en, _ => (none, en)
  | m + 1, j, en, ex => if x < en + w j then (some (c j), en) else if j + 1 < t ∧ E (j + 1) = true then (if x < en + w j + each + (if 0 < ex then 1 else 0) then (some 0, en) else ikF w c E x each t m (j + 1) (en + w j + each + (if 0 < ex then 1 else 0)) (ex - 1)) else ikF w c E x each t m (j + 1) (en + w j) ex
def ttF (w : Nat → Nat) (E : Nat → Bool) (each t : Nat) : Nat → Nat → Nat → Nat
  | 0, _, _ => 0
  | m + 1, j, ex => w j + (if j + 1 < t ∧ E (j + 1) = true then each + (if 0 < ex then 1 else 0) + ttF w E each t m (j + 1) (ex - 1) else ttF w E each t m (j + 1) ex)
theorem ik_n {w c : Nat → Nat} {E : Nat → Bool} {x each t : Nat} : ∀ (m j en ex : Nat), (ikF w c E x each t m j en ex).1 = none → en ≤ x → (ikF w c E x each t m j en ex).2 = en + ttF w E each t m j ex ∧ en + ttF w E each t m j ex ≤ x := by
  intro m
  induction m with
  | zero => intro j en ex _ h; exact ⟨rfl, h⟩
  | succ m ih =>
    intro j en ex h hx
    unfold ikF at h ⊢
    unfold ttF
    by_cases h1 : x < en + w j
    · rw [if_pos h1] at h
      cases h
    · rw [if_neg h1] at h ⊢
      by_cases h2 : j + 1 < t ∧ E (j + 1) = true
      · rw [if_pos h2] at h ⊢
        rw [if_pos h2]
        by_cases h3 : x < en + w j + each + (if 0 < ex then 1 else 0)
        · rw [if_pos h3] at h
          cases h
        · rw [if_neg h3] at h ⊢
          have := ih _ _ _ h (by omega)
          exact ⟨by rw [this.1]; omega, by omega⟩
      · rw [if_neg h2] at h ⊢
        rw [if_neg h2]
        have := ih _ _ _ h (by omega)
        exact ⟨by rw [this.1]; omega, by omega⟩
theorem ik_s {w c : Nat → Nat} {E : Nat → Bool} {x each t v : Nat} : ∀ (m j en ex : Nat), (ikF w c E x each t m j en ex).1 = some v → x < en + ttF w E each t m j ex := by
  intro m
  induction m with
  | zero => intro j en ex h; cases h
  | succ m ih =>
    intro j en ex h
    unfold ikF at h
    unfold ttF
    by_cases h1 : x < en + w j
    · omega
    · rw [if_neg h1] at h
      by_cases h2 : j + 1 < t ∧ E (j + 1) = true
      · rw [if_pos h2] at h
        rw [if_pos h2]
        by_cases h3 : x < en + w j + each + (if 0 < ex then 1 else 0)
        · omega
        · rw [if_neg h3] at h
          have := ih _ _ _ h
          omega
      · rw [if_neg h2] at h
        rw [if_neg h2]
        have := ih _ _ _ h
        omega
def swF (w : Nat → Nat) : Nat → Nat → Nat
  | 0, _ => 0
  | m + 1, j => w j + swF w m (j + 1)
def scF (E : Nat → Bool) (t : Nat) : Nat → Nat → Nat
  | 0, _ => 0
  | m + 1, j => (if j + 1 < t ∧ E (j + 1) = true then 1 else 0) + scF E t m (j + 1)
theorem tt_s {w : Nat → Nat} {E : Nat → Bool} {each t : Nat} : ∀ (m j ex : Nat), ttF w E each t m j ex = swF w m j + each * scF E t m j + min ex (scF E t m j) := by
  intro m
  induction m with
  | zero => intro j ex; show 0 = 0 + each * 0 + min ex 0; rw [Nat.mul_zero, Nat.min_zero]
  | succ m ih =>
    intro j ex
    unfold ttF swF scF
    by_cases h2 : j + 1 < t ∧ E (j + 1) = true
    · rw [if_pos h2, if_pos h2, ih, Nat.mul_add, Nat.mul_one]
      generalize each * scF E t m (j + 1) = z
      have : (if 0 < ex then 1 else 0) + min (ex - 1) (scF E t m (j + 1)) = min ex (1 + scF E t m (j + 1)) := by
        by_cases h : 0 < ex
        · rw [if_pos h]
          omega
        · rw [if_neg h]
          omega
      omega
    · rw [if_neg h2, if_neg h2, ih, Nat.zero_add]
      omega
/-- the ends of words -/
def weL : List Nat → Nat → Bool
  | [], _ => false
  | n :: L, k => decide (k = n) || (decide (n < k) && weL L (k - n))
theorem weL_q {P : Nat} {pn pk pv c : Nat → Nat} : ∀ (L : List Nat) (o k : Nat), posL L → k ≤ L.sum → isE (qd P pn pk pv c L o k) = weL L k
  | [], _, _, _, _ => rfl
  | n :: L, o, k, hp, hk => by
    have hn := posL_c hp
    rw [sum_c] at hk
    unfold qd weL
    by_cases h1 : k < n
    · rw [if_pos h1, decide_eq_false (by omega : ¬ k = n), decide_eq_false (by omega : ¬ n < k)]
      split <;> rfl
    · rw [if_neg h1]
      by_cases h2 : k = n
      · rw [if_pos h2, decide_eq_true h2]
        cases L.isEmpty <;> rfl
      · rw [if_neg h2, decide_eq_false h2, decide_eq_true (by omega : n < k), Bool.false_or, Bool.true_and]
        exact weL_q L (o + n) (k - n) hn.2 (by omega)
theorem weL_a : ∀ (L : List Nat) (k : Nat), posL L → anyT (fun j => decide ((L.take (j + 1)).sum = k)) L.length = weL L k
  | [], _, _ => rfl
  | n :: L, k, hp => by
    have hn := posL_c hp
    apply b_ext2
    rw [anyT_i]
    unfold weL
    rw [Bool.or_eq_true, Bool.and_eq_true, decide_eq_true_eq, decide_eq_true_eq, ← weL_a L (k - n) hn.2, anyT_i]
    constructor
    · rintro ⟨j, hj, he⟩
      have he := of_decide_eq_true he
      rw [List.take_succ_cons, sum_c] at he
      cases j with
      | zero =>
        left
        have : (List.take 0 L).sum = 0 := rfl
        omega
      | succ j =>
        rw [len_c] at hj
        right
        have hpos : 1 ≤ (L.take (j + 1)).sum := by
          cases L with
          | nil => simp at hj
          | cons n' L' =>
            have := (posL_c hn.2).1
            rw [List.take_succ_cons, sum_c]
            omega
        exact ⟨by omega, j, by omega, decide_eq_true (by omega)⟩
    · rintro (h | ⟨h1, j, hj, he⟩)
      · refine ⟨0, by rw [len_c]; omega, decide_eq_true ?_⟩
        rw [List.take_succ_cons, sum_c]
        have : (List.take 0 L).sum = 0 := rfl
        omega
      · have he := of_decide_eq_true he
        refine ⟨j + 1, by rw [len_c]; omega, decide_eq_true ?_⟩
        rw [List.take_succ_cons, sum_c]
        omega
/-- a counter that goes below zero -/
def exC (z : Int32) (ex b : Nat) : Prop := z.toInt.toNat = ex ∧ -(b : Int) ≤ z.toInt ∧ z.toInt < 2 ^ 20
theorem exC_n {ex : Nat} (h : ex < 2 ^ 20) : exC (nI ex) ex 0 := by
  unfold exC
  rw [nI_toInt (by omega)]
  omega
theorem exC_0 {z : Int32} {ex b : Nat} (h : exC z ex b) : z ≤ 0 ↔ ¬ 0 < ex := by
  unfold exC at h
  rw [Int32.le_iff_toInt_le]
  have : (0 : Int32).toInt = 0 := rfl
  omega
theorem exC_d {z : Int32} {ex b : Nat} (h : exC z ex b) (hb : b < 2 ^ 20) : exC (z + (-1)) (ex - 1) (b + 1) := by
  unfold exC at h ⊢
  have h1 : (z + (-1)).toInt = z.toInt - 1 := by
    rw [Int32.toInt_add, show (-1 : Int32).toInt = -1 from rfl, Int.bmod_eq_of_le (by omega) (by omega)]
    rfl
  rw [h1]
  omega
