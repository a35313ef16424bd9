/-! cuts: the other side's values are the same -/
def stA (d : Nat → Nat) (n r pl : Nat) : Nat → Nat → Bool
  | _, 0 => true
  | i, m + 1 => decide (d (pl + i) = byt r n i) && stA d n r pl (i + 1) m
theorem stA_i {d : Nat → Nat} {n r pl : Nat} : ∀ (m i : Nat), stA d n r pl i m = true ↔ ∀ q, i ≤ q → q < i + m → d (pl + q) = byt r n q
  | 0, i => ⟨fun _ q h1 h2 => by omega, fun _ => rfl⟩
  | m + 1, i => by
    show (decide (d (pl + i) = byt r n i) && stA d n r pl (i + 1) m) = true ↔ _
    rw [Bool.and_eq_true, decide_eq_true_eq, stA_i m (i + 1)]
    constructor
    · intro ⟨h1, h2⟩ q h3 h4
      by_cases hq : q = i
      · rw [hq]; exact h1
      · exact h2 q (by omega) (by omega)
    · intro h
      exact ⟨h i (Nat.le_refl _) (by omega), fun q h1 h2 => h q (by omega) (by omega)⟩
def st (d : Nat → Nat) (L n r pl : Nat) : Bool := decide (pl + n ≤ L + 2) && stA d n r pl 0 n
def mp (d : Nat → Nat) (L n r u : Nat) : Nat → Nat → (Nat → Nat) → (Nat → Nat)
  | _, 0, g => g
  | pl, m + 1, g => mp d L n r u (pl + 1) m (if st d L n r pl = true then rs g u n pl (n + 1) else g)
def mq (d : Nat → Nat) (L : Nat) (pn pk pv : Nat → Nat) : Nat → Nat → (Nat → Nat) → (Nat → Nat)
  | _, 0, g => g
  | i, m + 1, g => mq d L pn pk pv (i + 1) m (mp d L (pn i) (pk i) (pv i) 0 (L + 2) g)
theorem mp_lt {d : Nat → Nat} {L n r u : Nat} : ∀ (m i : Nat) (g : Nat → Nat), (∀ q, g q < 256) → ∀ q, mp d L n r u i m g q < 256
  | 0, _, _, h, q => h q
  | m + 1, i, g, h, q => by
    unfold mp
    refine mp_lt m (i + 1) _ ?_ q
    intro q
    split
    · exact rs_lt h q
    · exact h q
theorem mq_lt {d : Nat → Nat} {L : Nat} {pn pk pv : Nat → Nat} : ∀ (m i : Nat) (g : Nat → Nat), (∀ q, g q < 256) → ∀ q, mq d L pn pk pv i m g q < 256
  | 0, _, _, h, q => h q
  | m + 1, i, g, h, q => by
    unfold mq
    exact mq_lt m (i + 1) _ (mp_lt _ _ _ h) q
/-- place q is raised to t at least, by the pattern that stands at pl -/
def hit (u n pl q t : Nat) : Prop := pl ≤ q ∧ q < pl + (n + 1) ∧ t ≤ byt u (n + 1) (q - pl)
theorem rs_i {g : Nat → Nat} {u n b q t : Nat} : t ≤ rs g u n b (n + 1) q ↔ t ≤ g q ∨ hit u n b q t := by
  unfold rs hit
  by_cases h : b ≤ q ∧ q < b + (n + 1)
  · rw [if_pos h]
    constructor
    · intro h2
      by_cases h3 : t ≤ g q
      · exact Or.inl h3
      · exact Or.inr ⟨h.1, h.2, by omega⟩
    · intro h2
      rcases h2 with h2 | h2 <;> omega
  · rw [if_neg h]
    constructor
    · exact Or.inl
    · intro h2
      rcases h2 with h2 | h2
      · exact h2
      · exact absurd ⟨h2.1, h2.2.1⟩ h
theorem rp_i {w e : Nat} {pn pk pv : Nat → Nat} {q t : Nat} : ∀ (m i : Nat) (g : Nat → Nat), t ≤ rp w e pn pk pv i m g q ↔ t ≤ g q ∨ ∃ p, i ≤ p ∧ p < i + m ∧ mt w e (pn p) (pk p) = true ∧ hit (pv p) (pn p) (e - pn p) q t
  | 0, i, g => ⟨Or.inl, fun h => by
      rcases h with h | ⟨p, h1, h2, -⟩
      · exact h
      · omega⟩
  | m + 1, i, g => by
    show t ≤ rp w e pn pk pv (i + 1) m (if mt w e (pn i) (pk i) = true then rs g (pv i) (pn i) (e - pn i) (pn i + 1) else g) q ↔ _
    rw [rp_i m (i + 1)]
    constructor
    · intro h
      rcases h with h | ⟨p, h1, h2, h3⟩
      · by_cases hm : mt w e (pn i) (pk i) = true
        · rw [if_pos hm, rs_i] at h
          rcases h with h | h
          · exact Or.inl h
          · exact Or.inr ⟨i, Nat.le_refl _, by omega, hm, h⟩
        · rw [if_neg hm] at h
          exact Or.inl h
      · exact Or.inr ⟨p, by omega, by omega, h3⟩
    · intro h
      rcases h with h | ⟨p, h1, h2, h3, h4⟩
      · left
        by_cases hm : mt w e (pn i) (pk i) = true
        · rw [if_pos hm, rs_i]
          exact Or.inl h
        · rw [if_neg hm]
          exact h
      · by_cases hp : p = i
        · subst hp
          left
          rw [if_pos h3, rs_i]
          exact Or.inr h4
        · exact Or.inr ⟨p, by omega, by omega, h3, h4⟩
theorem gal_i {d pn pk pv : Nat → Nat} {P q t : Nat} (ht : 1 ≤ t) : ∀ (i : Nat), t ≤ gal d pn pk pv P i q ↔ ∃ e p, 1 ≤ e ∧ e ≤ i ∧ p < P ∧ mt (win d e) e (pn p) (pk p) = true ∧ hit (pv p) (pn p) (e - pn p) q t
  | 0 => ⟨fun h => by
      have h0 : t ≤ 0 := h
      omega, fun ⟨e, p, h1, h2, _⟩ => by omega⟩
  | i + 1 => by
    show t ≤ rp (win d (i + 1)) (i + 1) pn pk pv 0 P (gal d pn pk pv P i) q ↔ _
    rw [rp_i, gal_i ht i]
    constructor
    · intro h
      rcases h with ⟨e, p, h1, h2, h3⟩ | ⟨p, h1, h2, h3⟩
      · exact ⟨e, p, h1, by omega, h3⟩
      · exact ⟨i + 1, p, by omega, Nat.le_refl _, by omega, h3⟩
    · intro ⟨e, p, h1, h2, h3, h4⟩
      by_cases he : e = i + 1
      · subst he
        exact Or.inr ⟨p, Nat.zero_le _, by omega, h4⟩
      · exact Or.inl ⟨e, p, h1, by omega, h3, h4⟩
theorem mp_i {d : Nat → Nat} {L n r u q t : Nat} : ∀ (m i : Nat) (g : Nat → Nat), t ≤ mp d L n r u i m g q ↔ t ≤ g q ∨ ∃ pl, i ≤ pl ∧ pl < i + m ∧ st d L n r pl = true ∧ hit u n pl q t
  | 0, i, g => ⟨Or.inl, fun h => by
      rcases h with h | ⟨p, h1, h2, -⟩
      · exact h
      · omega⟩
  | m + 1, i, g => by
    show t ≤ mp d L n r u (i + 1) m (if st d L n r i = true then rs g u n i (n + 1) else g) q ↔ _
    rw [mp_i m (i + 1)]
    constructor
    · intro h
      rcases h with h | ⟨p, h1, h2, h3⟩
      · by_cases hm : st d L n r i = true
        · rw [if_pos hm, rs_i] at h
          rcases h with h | h
          · exact Or.inl h
          · exact Or.inr ⟨i, Nat.le_refl _, by omega, hm, h⟩
        · rw [if_neg hm] at h
          exact Or.inl h
      · exact Or.inr ⟨p, by omega, by omega, h3⟩
    · intro h
      rcases h with h | ⟨p, h1, h2, h3, h4⟩
      · left
        by_cases hm : st d L n r i = true
        · rw [if_pos hm, rs_i]
          exact Or.inl h
        · rw [if_neg hm]
          exact h
      · by_cases hp : p = i
        · subst hp
          left
          rw [if_pos h3, rs_i]
          exact Or.inr h4
        · exact Or.inr ⟨p, by omega, by omega, h3, h4⟩
theorem mq_i {d : Nat → Nat} {L : Nat} {pn pk pv : Nat → Nat} {q t : Nat} : ∀ (m i : Nat) (g : Nat → Nat), t ≤ mq d L pn pk pv i m g q ↔ t ≤ g q ∨ ∃ p pl, i ≤ p ∧ p < i + m ∧ pl < L + 2 ∧ st d L (pn p) (pk p) pl = true ∧ hit (pv p) (pn p) pl q t
  | 0, i, g => ⟨Or.inl, fun h => by
      rcases h with h | ⟨p, _, h1, h2, -⟩
      · exact h
      · omega⟩
  | m + 1, i, g => by
    show t ≤ mq d L pn pk pv (i + 1) m (mp d L (pn i) (pk i) (pv i) 0 (L + 2) g) q ↔ _
    rw [mq_i m (i + 1), mp_i]
    constructor
    · intro h
      rcases h with (h | ⟨pl, h1, h2, h3⟩) | ⟨p, pl, h1, h2, h3⟩
      · exact Or.inl h
      · exact Or.inr ⟨i, pl, Nat.le_refl _, by omega, by omega, h3⟩
      · exact Or.inr ⟨p, pl, by omega, by omega, h3⟩
    · intro h
      rcases h with h | ⟨p, pl, h1, h2, h3, h4⟩
      · exact Or.inl (Or.inl h)
      · by_cases hp : p = i
        · subst hp
          exact Or.inl (Or.inr ⟨pl, Nat.zero_le _, by omega, h4⟩)
        · exact Or.inr ⟨p, pl, by omega, by omega, h3, h4⟩
/-- what the window holds -/
theorem win_b {d : Nat → Nat} (hd : ∀ i, d i < 256) : ∀ (j e : Nat), j < 8 → j < e → win d e / 2 ^ (8 * j) % 256 = d (e - 1 - j)
  | 0, e + 1, _, _ => by
    show (win d e * 256 + d e) % 2 ^ 64 / 2 ^ (8 * 0) % 256 = d (e + 1 - 1 - 0)
    rw [Nat.mul_zero, Nat.pow_zero, Nat.div_one, Nat.sub_zero, Nat.add_sub_cancel]
    have := hd e
    omega
  | j + 1, e + 1, h1, h2 => by
    show (win d e * 256 + d e) % 2 ^ 64 / 2 ^ (8 * (j + 1)) % 256 = d (e + 1 - 1 - (j + 1))
    have h := win_b hd j e (by omega) (by omega)
    have e1 : 2 ^ 64 = 2 ^ (8 * (j + 1)) * (256 * 2 ^ (64 - 8 * (j + 2))) := by
      rw [show (256 : Nat) = 2 ^ 8 from rfl, ← Nat.pow_add, ← Nat.pow_add]
      congr 1
      omega
    have e2 : 2 ^ (8 * (j + 1)) = 256 * 2 ^ (8 * j) := by
      rw [show (256 : Nat) = 2 ^ 8 from rfl, ← Nat.pow_add]
      congr 1
      omega
    have e3 : (win d e * 256 + d e) / 256 = win d e := by
      have := hd e
      omega
    rw [e1, Nat.mod_mul_right_div_self, Nat.mod_mul_right_mod, e2, ← Nat.div_div_eq_div_mul, e3, h]
    congr 1
    omega
  | _, 0, _, h => by omega
theorem mt_i {d : Nat → Nat} (hd : ∀ i, d i < 256) {e n r : Nat} (hr : rowN r n) : mt (win d e) e n r = true ↔ n ≤ e ∧ stA d n r (e - n) 0 n = true := by
  obtain ⟨n1, n6, r1, r2⟩ := hr
  unfold mt
  rw [Bool.and_eq_true, decide_eq_true_eq, decide_eq_true_eq, stA_i]
  have hw : n ≤ e → ∀ i, i < n → byt (win d e) n i = d (e - n + i) := by
    intro he i hi
    unfold byt
    rw [win_b hd _ _ (by omega) (by omega)]
    congr 1
    omega
  constructor
  · intro ⟨h1, h2⟩
    refine ⟨h1, fun q _ hq => ?_⟩
    rw [← hw h1 q (by omega), ← byt_mod (by omega : q < n), h2]
  · intro ⟨h1, h2⟩
    refine ⟨h1, ?_⟩
    have := byt_eq (a := win d e) (b := r) n (Nat.le_refl _) (fun i hi => by rw [hw h1 i hi]; exact h2 i (Nat.zero_le _) (by omega))
    rw [Nat.sub_self, Nat.mul_zero, Nat.pow_zero, Nat.div_one, Nat.div_one, Nat.mod_eq_of_lt r2] at this
    exact this
theorem gal_mq {d pn pk pv : Nat → Nat} {P L : Nat} (hd : ∀ i, d i < 256) (hr : ∀ p, p < P → rowN (pk p) (pn p)) : gal d pn pk pv P (L + 2) = mq d L pn pk pv 0 P (fun _ => 0) := by
  funext q
  have key : ∀ t, 1 ≤ t → (t ≤ gal d pn pk pv P (L + 2) q ↔ t ≤ mq d L pn pk pv 0 P (fun _ => 0) q) := by
    intro t ht
    rw [gal_i ht, mq_i]
    constructor
    · intro ⟨e, p, h1, h2, h3, h4, h5⟩
      have hm := (mt_i hd (hr p h3)).mp h4
      have n1 := (hr p h3).1
      refine Or.inr ⟨p, e - pn p, Nat.zero_le _, by omega, by omega, ?_, h5⟩
      unfold st
      rw [Bool.and_eq_true, decide_eq_true_eq]
      exact ⟨by omega, hm.2⟩
    · intro h
      rcases h with h | ⟨p, pl, h1, h2, h3, h4, h5⟩
      · omega
      · have n1 := (hr p (by omega)).1
        unfold st at h4
        rw [Bool.and_eq_true, decide_eq_true_eq] at h4
        have e1 : pl + pn p - pn p = pl := by omega
        refine ⟨pl + pn p, p, by omega, by omega, by omega, ?_, ?_⟩
        · rw [mt_i hd (hr p (by omega)), e1]
          exact ⟨by omega, h4.2⟩
        · rw [e1]
          exact h5
  refine Nat.le_antisymm ?_ ?_
  · by_cases h : 1 ≤ gal d pn pk pv P (L + 2) q
    · exact (key _ h).mp (Nat.le_refl _)
    · omega
  · by_cases h : 1 ≤ mq d L pn pk pv 0 P (fun _ => 0) q
    · exact (key _ h).mpr (Nat.le_refl _)
    · omega
