/-! plan: a paragraph by the lengths of its words; letters c, patterns P pn pk pv -/
def gW (P : Nat) (pn pk pv c : Nat → Nat) (o n : Nat) : Nat → Nat := gal (dw (fun i => c (o + i)) n) pn pk pv P (n + 2)
def qd (P : Nat) (pn pk pv c : Nat → Nat) : List Nat → Nat → Nat → Nat
  | [], _, _ => 0
  | n :: L, o, k => if k < n then (if isC (gW P pn pk pv c o n) n k = true then 2 else 0) else if k = n then (if L.isEmpty = true then 3 else 1) else qd P pn pk pv c L (o + n) (k - n)
def cpL : List Nat → Nat → Nat
  | [], k => k
  | n :: L, k => if k ≤ n then k else n + 1 + cpL L (k - n)
def bpL : List Nat → Nat → Nat
  | [], k => k
  | n :: L, k => if k < n then k else n + 1 + bpL L (k - n)
def posL (L : List Nat) : Prop := ∀ n ∈ L, 1 ≤ n ∧ n ≤ 12
theorem posL_c {n : Nat} {L : List Nat} (h : posL (n :: L)) : (1 ≤ n ∧ n ≤ 12) ∧ posL L := ⟨h n (List.mem_cons_self ..), fun x hx => h x (List.mem_cons_of_mem _ hx)⟩
theorem sum_c (n : Nat) (L : List Nat) : (n :: L).sum = n + L.sum := List.sum_cons
theorem len_c (n : Nat) (L : List Nat) : (n :: L).length = L.length + 1 := rfl
theorem posL_0 {L : List Nat} (h : posL L) (h0 : L.sum = 0) : L = [] := by
  cases L with
  | nil => rfl
  | cons n L =>
    have := (posL_c h).1
    rw [sum_c] at h0
    omega
theorem posL_12 : ∀ {L : List Nat}, posL L → L.sum ≤ 12 * L.length ∧ L.length ≤ L.sum
  | [], _ => ⟨Nat.le_refl _, Nat.le_refl _⟩
  | n :: L, h => by
    have h1 := (posL_c h).1
    have h2 := posL_12 (posL_c h).2
    rw [sum_c, len_c]
    omega
section PARA
variable {P : Nat} {pn pk pv c : Nat → Nat}
theorem cb_1 : ∀ (L : List Nat) (k : Nat), k < L.sum → cpL L (k + 1) = bpL L k + 1
  | [], k, h => by simp at h
  | n :: L, k, h => by
    rw [sum_c] at h
    unfold cpL bpL
    by_cases hk : k < n
    · rw [if_pos (by omega), if_pos hk]
    · rw [if_neg (by omega), if_neg hk, show k + 1 - n = (k - n) + 1 by omega, cb_1 L (k - n) (by omega)]
      omega
theorem bpL_0 {L : List Nat} (h : posL L) : bpL L 0 = 0 := by
  cases L with
  | nil => rfl
  | cons n L =>
    have := (posL_c h).1
    exact if_pos (by omega)
theorem isE_f {L : List Nat} (h : 0 < L.sum) : L.isEmpty = false := by
  cases L with
  | nil => simp at h
  | cons n L => rfl
theorem cb_2 : ∀ (L : List Nat) (o k : Nat), posL L → 0 < k → k < L.sum → bpL L k = cpL L k + (if qd P pn pk pv c L o k = 1 then 1 else 0)
  | [], _, k, _, _, h => by simp at h
  | n :: L, o, k, hp, h0, h => by
    have hn := posL_c hp
    rw [sum_c] at h
    unfold cpL bpL qd
    by_cases hk : k < n
    · rw [if_pos hk, if_pos (by omega), if_pos hk, if_neg (by split <;> omega)]
      rfl
    · rw [if_neg hk, if_neg hk]
      by_cases hk2 : k = n
      · rw [if_pos (by omega), if_pos hk2, isE_f (by omega), if_pos (by decide), hk2, Nat.sub_self, bpL_0 hn.2]
      · rw [if_neg (by omega), if_neg hk2, cb_2 L (o + n) (k - n) hn.2 (by omega) (by omega)]
        omega
theorem cpL_l : ∀ (L : List Nat), posL L → cpL L L.sum = L.sum + (L.length - 1)
  | [], _ => rfl
  | n :: L, hp => by
    have hn := posL_c hp
    rw [sum_c, len_c]
    unfold cpL
    by_cases h : L.sum = 0
    · have := posL_0 hn.2 h
      subst this
      rw [if_pos (by simp)]
      rfl
    · have hl : L.length ≠ 0 := by
        intro z
        have := List.length_eq_zero_iff.mp z
        subst this
        exact h rfl
      rw [if_neg (by omega), show n + L.sum - n = L.sum by omega, cpL_l L hn.2]
      omega
theorem qd_l : ∀ (L : List Nat) (o : Nat), posL L → L ≠ [] → qd P pn pk pv c L o L.sum = 3
  | [], _, _, h => absurd rfl h
  | n :: L, o, hp, _ => by
    have hn := posL_c hp
    rw [sum_c]
    unfold qd
    rw [if_neg (by omega)]
    by_cases h : L = []
    · subst h
      exact if_pos (by simp)
    · have hs : L.sum ≠ 0 := fun z => h (posL_0 hn.2 z)
      rw [if_neg (by omega), show n + L.sum - n = L.sum by omega, qd_l L (o + n) hn.2 h]
theorem qd_le : ∀ (L : List Nat) (o k : Nat), posL L → k < L.sum → qd P pn pk pv c L o k ≤ 2
  | [], _, k, _, h => by simp at h
  | n :: L, o, k, hp, h => by
    have hn := posL_c hp
    rw [sum_c] at h
    unfold qd
    by_cases hk : k < n
    · rw [if_pos hk]
      split <;> omega
    · rw [if_neg hk]
      by_cases hk2 : k = n
      · rw [if_pos hk2, isE_f (by omega), if_neg (by decide)]
        omega
      · rw [if_neg hk2]
        exact qd_le L (o + n) (k - n) hn.2 (by omega)
theorem qd_0 {L : List Nat} {o : Nat} (hp : posL L) : qd P pn pk pv c L o 0 = 0 := by
  cases L with
  | nil => rfl
  | cons n L =>
    have := (posL_c hp).1
    unfold qd
    rw [if_pos (by omega)]
    rfl
theorem okB_L {L : List Nat} {o : Nat} (hp : posL L) (hne : L ≠ []) : okB L.sum (L.sum + (L.length - 1)) (qd P pn pk pv c L o) (cpL L) (bpL L) :=
  ⟨Nat.pos_of_ne_zero (fun z => hne (posL_0 hp z)), bpL_0 hp, fun k hk => cb_1 L k hk, fun k h0 hk => cb_2 L o k hp h0 hk, cpL_l L hp, qd_l L o hp hne, fun k _ hk => qd_le L o k hp hk, qd_0 hp⟩
end PARA
/-- a paragraph's characters from A on are these words of the letters from o on -/
def txW (T c : Nat → Nat) : List Nat → Nat → Nat → Prop
  | [], _, _ => True
  | n :: L, A, o => (∀ i, i < n → T (A + i) = c (o + i) ∧ isN (c (o + i)) = true) ∧ (L ≠ [] → T (A + n) = 32 ∧ txW T c L (A + n + 1) (o + n))
theorem wsL_ne {T : Nat → Nat} {N m a : Nat} : wsL T N (m + 1) a ≠ [] := by
  unfold wsL
  exact List.cons_ne_nil _ _
theorem wsB_p {T : Nat → Nat} {N : Nat} : ∀ (m a : Nat), wsB T N m a = true → posL (wsL T N m a) ∧ (wsL T N m a).length ≤ m ∧ wsA T N m a = a + (wsL T N m a).sum + ((wsL T N m a).length - 1)
  | 0, a, h => by cases h
  | m + 1, a, h => by
    unfold wsB at h
    rw [Bool.and_eq_true] at h
    have hw := h.1
    unfold wOk at hw
    rw [Bool.and_eq_true, decide_eq_true_eq] at hw
    have h12 := rn_le (T := T) (N := N) 12 a
    unfold wsL wsA
    by_cases hc : ch T N (a + rn T N a 12) = 32
    · have h2 := h.2
      rw [if_pos hc] at h2
      obtain ⟨i1, i2, i3⟩ := wsB_p m _ h2
      rw [if_pos hc, if_pos ⟨h.1, hc⟩]
      refine ⟨?_, ?_, ?_⟩
      · intro n hn
        rcases List.mem_cons.mp hn with rfl | hn
        · omega
        · exact i1 n hn
      · rw [len_c]
        omega
      · rw [i3, sum_c, len_c]
        have hm : (wsL T N m (a + rn T N a 12 + 1)).length ≠ 0 := by
          cases m with
          | zero => cases h2
          | succ m => rw [Ne, List.length_eq_zero_iff]; exact wsL_ne
        omega
    · rw [if_neg hc, if_neg (fun z => hc z.2)]
      refine ⟨?_, ?_, ?_⟩
      · intro n hn
        rcases List.mem_cons.mp hn with rfl | hn
        · omega
        · cases hn
      · rw [len_c]
        show 0 + 1 ≤ m + 1
        omega
      · rw [sum_c, len_c]
        rfl
theorem rn_i {T : Nat → Nat} {N : Nat} : ∀ (m a i : Nat), i < rn T N a m → isN (ch T N (a + i)) = true
  | 0, a, i, h => by cases h
  | m + 1, a, i, h => by
    unfold rn at h
    by_cases hc : isN (ch T N a) = true
    · rw [if_pos hc] at h
      cases i with
      | zero => exact hc
      | succ i =>
        have := rn_i (T := T) (N := N) m (a + 1) i (by omega)
        rw [show a + (i + 1) = a + 1 + i by omega]
        exact this
    · rw [if_neg hc] at h
      cases h
theorem ch_T {T : Nat → Nat} {N a : Nat} (h : a < N) : ch T N a = T a := if_pos h
theorem txW_of {T c : Nat → Nat} {N : Nat} : ∀ (m a o : Nat), wsB T N m a = true → (∀ i, i < (wsL T N m a).sum → c (o + i) = wsC T N m a i) → txW T c (wsL T N m a) a o
  | 0, a, o, h, _ => by cases h
  | m + 1, a, o, h, hc => by
    unfold wsB at h
    rw [Bool.and_eq_true] at h
    unfold wsL
    unfold wsL at hc
    rw [sum_c] at hc
    refine ⟨?_, ?_⟩
    · intro i hi
      have h1 := hc i (by omega)
      unfold wsC at h1
      rw [if_pos hi] at h1
      have h2 := rn_i 12 a i hi
      have h3 := isN_in h2
      rw [h1, ch_T h3]
      rw [ch_T h3] at h2
      exact ⟨rfl, h2⟩
    · intro hne
      by_cases h32 : ch T N (a + rn T N a 12) = 32
      · have h2 := h.2
        rw [if_pos h32] at h2
        rw [if_pos h32] at hc ⊢
        have hin : a + rn T N a 12 < N := ch_in (T := T) (by omega)
        refine ⟨by rw [ch_T hin] at h32; exact h32, txW_of m _ _ h2 ?_⟩
        intro i hi
        have h1 := hc (rn T N a 12 + i) (by omega)
        unfold wsC at h1
        rw [if_neg (by omega), show rn T N a 12 + i - rn T N a 12 = i by omega] at h1
        rw [← h1]
        congr 1
        omega
      · rw [if_neg h32] at hne
        exact absurd rfl hne
theorem tx_b {T c : Nat → Nat} : ∀ (L : List Nat) (A o k : Nat), txW T c L A o → posL L → k < L.sum → T (A + bpL L k) = c (o + k) ∧ isN (c (o + k)) = true
  | [], _, _, k, _, _, h => by simp at h
  | n :: L, A, o, k, ht, hp, h => by
    have hn := posL_c hp
    rw [sum_c] at h
    unfold bpL
    by_cases hk : k < n
    · rw [if_pos hk]
      exact ht.1 k hk
    · have hne : L ≠ [] := by
        rintro rfl
        simp at h
        omega
      have h2 := tx_b L _ _ (k - n) (ht.2 hne).2 hn.2 (by omega)
      rw [show o + n + (k - n) = o + k by omega] at h2
      rw [if_neg hk, ← h2.1, show A + (n + 1 + bpL L (k - n)) = A + n + 1 + bpL L (k - n) by omega]
      exact ⟨rfl, by rw [h2.1]; exact h2.2⟩
theorem tx_c {P : Nat} {pn pk pv T c : Nat → Nat} : ∀ (L : List Nat) (A o o' k : Nat), txW T c L A o → posL L → qd P pn pk pv c L o' k = 1 → T (A + cpL L k) = 32
  | [], _, _, _, k, _, _, h => by cases h
  | n :: L, A, o, o', k, ht, hp, h => by
    have hn := posL_c hp
    unfold qd at h
    unfold cpL
    by_cases hk : k < n
    · rw [if_pos hk] at h
      split at h <;> omega
    · rw [if_neg hk] at h
      by_cases hk2 : k = n
      · rw [if_pos hk2] at h
        rw [if_pos (by omega), hk2]
        refine (ht.2 ?_).1
        rintro rfl
        cases h
      · rw [if_neg hk2] at h
        have hne : L ≠ [] := by
          rintro rfl
          cases h
        rw [if_neg (by omega), show A + (n + 1 + cpL L (k - n)) = A + n + 1 + cpL L (k - n) by omega]
        exact tx_c L _ _ _ _ (ht.2 hne).2 hn.2 h
/-- the units before letter k, and behind the k-th -/
def xbF (W c Q : Nat → Nat) : Nat → Nat
  | 0 => 0
  | k + 1 => xbF W c Q k + W (c k - 97) + (if Q (k + 1) = 1 then 3 else 0)
def xcF (W c Q : Nat → Nat) : Nat → Nat
  | 0 => 0
  | k + 1 => xbF W c Q k + W (c k - 97)
theorem ub_x {W T c Q cp bp : Nat → Nat} {a l n : Nat} (ok : okB l n Q cp bp) (h1 : ∀ k, k < l → T (a + bp k) = c k ∧ isN (c k) = true) (h2 : ∀ k, 0 < k → k < l → Q k = 1 → T (a + cp k) = 32) : ∀ k, (k < l → ub W T a (bp k) = xbF W c Q k) ∧ (0 < k → k ≤ l → ub W T a (cp k) = xcF W c Q k) := by
  obtain ⟨o1, o2, o3, o4, o5, o6, o7, o8⟩ := ok
  intro k
  induction k with
  | zero =>
    refine ⟨fun _ => ?_, fun h => by omega⟩
    rw [o2]
    rfl
  | succ k ih =>
    have hc : k + 1 ≤ l → ub W T a (cp (k + 1)) = xcF W c Q (k + 1) := by
      intro hk
      have hk' := h1 k (by omega)
      rw [o3 k (by omega)]
      show ub W T a (bp k) + wu W (T (a + bp k)) = xbF W c Q k + W (c k - 97)
      rw [ih.1 (by omega), hk'.1]
      unfold wu
      rw [if_pos hk'.2]
    refine ⟨fun hk => ?_, fun _ hk => hc hk⟩
    rw [o4 (k + 1) (by omega) hk]
    show _ = xbF W c Q k + W (c k - 97) + (if Q (k + 1) = 1 then 3 else 0)
    have hcc : ub W T a (cp (k + 1)) = xbF W c Q k + W (c k - 97) := hc (by omega)
    by_cases hq : Q (k + 1) = 1
    · rw [if_pos hq, if_pos hq]
      show ub W T a (cp (k + 1)) + wu W (T (a + cp (k + 1))) = _
      rw [hcc, h2 (k + 1) (by omega) hk hq]
      rfl
    · rw [if_neg hq, if_neg hq]
      exact hcc
/-- each character is a letter's or a space's -/
theorem okB_pos {l n : Nat} {Q cp bp : Nat → Nat} (ok : okB l n Q cp bp) : ∀ i, i < n → (∃ k, k < l ∧ i = bp k) ∨ (∃ k, 0 < k ∧ k < l ∧ Q k = 1 ∧ i = cp k) := by
  obtain ⟨o1, o2, o3, o4, o5, o6, o7, o8⟩ := ok
  intro i
  induction i with
  | zero => intro _; exact Or.inl ⟨0, o1, o2.symm⟩
  | succ i ih =>
    intro hi
    rcases ih (by omega) with ⟨k, hk, rfl⟩ | ⟨k, h0, hk, hq, rfl⟩
    · have hc := o3 k hk
      by_cases hl : k + 1 = l
      · rw [hl, o5] at hc
        omega
      · have hb := o4 (k + 1) (by omega) (by omega)
        by_cases hq : Q (k + 1) = 1
        · exact Or.inr ⟨k + 1, by omega, by omega, hq, by omega⟩
        · rw [if_neg hq] at hb
          exact Or.inl ⟨k + 1, by omega, by omega⟩
    · have hb := o4 k h0 hk
      rw [if_pos hq] at hb
      exact Or.inl ⟨k, hk, by omega⟩
theorem okB_bm {l n : Nat} {Q cp bp : Nat → Nat} (ok : okB l n Q cp bp) : ∀ j k, k + j < l → bp k + j ≤ bp (k + j) := by
  obtain ⟨o1, o2, o3, o4, o5, o6, o7, o8⟩ := ok
  intro j k
  induction j with
  | zero => intro _; exact Nat.le_refl _
  | succ j ih =>
    intro h
    have h1 := ih (by omega)
    have h2 := o3 (k + j) (by omega)
    have h3 := o4 (k + j + 1) (by omega) (by omega)
    rw [show k + (j + 1) = k + j + 1 by omega]
    omega
theorem okB_lt {l n : Nat} {Q cp bp : Nat → Nat} (ok : okB l n Q cp bp) {j k : Nat} (h : j < k) (hk : k < l) : bp j < bp k := by
  have := okB_bm ok (k - j) j (by omega)
  rw [show j + (k - j) = k by omega] at this
  omega
theorem okB_bn {l n : Nat} {Q cp bp : Nat → Nat} (ok : okB l n Q cp bp) {k : Nat} (hk : k < l) : bp k < cp (k + 1) ∧ cp (k + 1) ≤ n := by
  have h1 := ok.2.2.1 k hk
  have h2 := okB_bm ok (l - 1 - k) k (by omega)
  rw [show k + (l - 1 - k) = l - 1 by omega] at h2
  have h3 := ok.2.2.1 (l - 1) (by omega)
  rw [show l - 1 + 1 = l by omega, ok.2.2.2.2.1] at h3
  omega
