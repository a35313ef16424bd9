/-! the cuts of a word: the one side -/
/-- the word's signs with a dot at either end -/
def dw (t : Nat → Nat) (L i : Nat) : Nat := if i = 0 ∨ i = L + 1 then 46 else t (i - 1)
def win (d : Nat → Nat) : Nat → Nat
  | 0 => 0
  | i + 1 => (win d i * 256 + d i) % 2 ^ 64
theorem win_lt (d : Nat → Nat) : ∀ i, win d i < 2 ^ 64
  | 0 => (by decide : 0 < 2 ^ 64)
  | i + 1 => Nat.mod_lt _ (by decide)
def gal (d : Nat → Nat) (pn pk pv : Nat → Nat) (P : Nat) : Nat → (Nat → Nat)
  | 0 => fun _ => 0
  | i + 1 => rp (win d (i + 1)) (i + 1) pn pk pv 0 P (gal d pn pk pv P i)
theorem gal_lt {d pn pk pv : Nat → Nat} {P : Nat} : ∀ (i q : Nat), gal d pn pk pv P i q < 256
  | 0, q => by show 0 < 256; decide
  | i + 1, q => rp_lt P 0 _ (gal_lt i) q
theorem win_or {w b : Nat} (hb : b < 256) : (lN w <<< ((8 : Int32).toInt64 &&& 63)) ||| (nI b).toInt64 = lN ((w * 256 + b) % 2 ^ 64) := by
  have e : 2 ^ 8 * (w % 2 ^ 56) < 2 ^ 64 := by omega
  rw [show (8 : Int32) = nI 8 from rfl, wb_shl w (by decide), nI_l (by omega), wb_mod (w * 2 ^ 8), show w * 2 ^ 8 % 2 ^ 64 = 2 ^ 8 * (w % 2 ^ 56) from by omega, wb_or e (by omega), ← Nat.two_pow_add_eq_or_of_lt (i := 8) hb]
  congr 1
  omega
/-- the sum of the powers of the places, from k on, m of them, whose value is odd -/
def sm (g : Nat → Nat) : Nat → Nat → Nat
  | _, 0 => 0
  | k, m + 1 => g (k + 1) % 2 * 2 ^ k + sm g (k + 1) m
theorem lm2 : ∀ L, L < 13 → ∀ k, k < 17 → (nI L - 2 < nI k ↔ L < k + 2) := by decide +kernel
theorem sm_or {s b j : Nat} (hs : s < 2 ^ j) (hb : b < 2) (hj : j < 30) : nI s ||| (nI b <<< (nI j &&& 31)) = nI (s + b * 2 ^ j) := by
  have h2 : 2 ^ j ≤ 2 ^ 29 := Nat.pow_le_pow_right (by decide) (by omega)
  have h3 : b * 2 ^ j ≤ 1 * 2 ^ j := Nat.mul_le_mul_right _ (by omega)
  rw [pk_shlN _ j (s_l j (by omega)) (by omega)]
  apply Int32.toBitVec_inj.mp
  apply BitVec.eq_of_toNat_eq
  rw [Int32.toBitVec_or, BitVec.toNat_or, pk_tn (by omega), pk_tn (by omega), pk_tn (by omega), Nat.mul_comm b, Nat.or_comm, ← Nat.two_pow_add_eq_or_of_lt hs]
  omega
section CUTS
variable {S : Nat × (Nat → Int32)} {I : zI} {J : zJ} {k : zK}
theorem g53_l {P L c n1 a : Nat} {pn pk pv t : Nat → Nat} {f : Nat → Int32} (hc : zShL[c]? = some (.inr (.inl (2, n1)))) (hc6 : Nat.beq c 60 = false) (hn1 : n1 < 2 ^ 31) (hL : L ≤ 12) (ha : a + L ≤ n1) (ht : ∀ i, i < L → I c (a + i) = nI (t i)) (ht2 : ∀ i, i < L → t i < 256)
    (hP : P ≤ 20) (h4 : I 56 4 = nI P) (h59 : ∀ p, p < P → I 59 p = nI (pn p)) (h57 : ∀ p, p < P → J 57 p = lN (pk p)) (h58 : ∀ p, p < P → J 58 p = lN (pv p)) (hr : ∀ p, p < P → rowN (pk p) (pn p)) (hv : ∀ p, p < P → pv p < 2 ^ 64) (hb : Nat.ble k.1 (mBu 53).1 = true ∧ Nat.ble k.2 (mBu 53).2 = true) : ∀ (m i : Nat) (o : Option Value), L + 2 = i + m →
    zd S 53 24 [some (.ref 56), some (.ref c), some (.int (nI a)), o, some (.int (nI L)), some (.long (lN (win (dw t L) i))), none, some (.int (nI i)), none] [] (uc I 60 (gI (gal (dw t L) pn pk pv P i) f)) J k
      = zd S 53 97 [some (.ref 56), some (.ref c), some (.int (nI a)), none, some (.int (nI L)), some (.long (lN (win (dw t L) (L + 2)))), none, some (.int (nI (L + 2))), none] [] (uc I 60 (gI (gal (dw t L) pn pk pv P (L + 2)) f)) J k := by
  intro m
  induction m with
  | zero =>
    intro i o hm
    have hi : i = L + 2 := by omega
    subst hi
    rw [B53_24 hc, show nI L + 2 = nI (L + 2) from (nI_k L).2.1, if_pos (nI_le (Nat.le_refl _) (by omega))]
  | succ m ih =>
    intro i o hm
    have hd : dw t L i < 256 := by
      unfold dw
      split
      · decide
      · exact ht2 _ (by omega)
    have h54 : ∀ (x : Int64), x = lN (win (dw t L) (i + 1)) → zq S 54 [.ref 56, .long x, .int (nI i + 1)] (uc I 60 (gI (gal (dw t L) pn pk pv P i) f)) J none (uc I 60 (gI (gal (dw t L) pn pk pv P (i + 1)) f)) J := by
      intro x hx
      rw [hx, nI_1]
      exact s54 (gal_lt i) hP (win_lt _ _) (by omega) h4 h59 h57 h58 hr hv
    have e0 : nI i = 0 ↔ i = 0 := nI_eq (b := 0) (by omega) (by decide)
    have eL : nI i = nI L + 1 ↔ i = L + 1 := by rw [nI_1]; exact nI_eq (by omega) (by omega)
    have hst : lN (win (dw t L) i) <<< ((8 : Int32).toInt64 &&& 63) ||| (nI (dw t L i)).toInt64 = lN (win (dw t L) (i + 1)) := win_or hd
    have edge : dw t L i = 46 → zd S 53 47 [some (.ref 56), some (.ref c), some (.int (nI a)), none, some (.int (nI L)), some (.long (lN (win (dw t L) i))), none, some (.int (nI i)), none] [] (uc I 60 (gI (gal (dw t L) pn pk pv P i) f)) J k
      = zd S 53 97 [some (.ref 56), some (.ref c), some (.int (nI a)), none, some (.int (nI L)), some (.long (lN (win (dw t L) (L + 2)))), none, some (.int (nI (L + 2))), none] [] (uc I 60 (gI (gal (dw t L) pn pk pv P (L + 2)) f)) J k := by
      intro h46
      rw [h46] at hst
      have hst' : lN (win (dw t L) i) <<< ((8 : Int32).toInt64 &&& 63) ||| (46 : Int32).toInt64 = lN (win (dw t L) (i + 1)) := hst
      rw [B53_47 hc, if_neg (by decide), B53_64 hb hc (h54 _ hst'), hst', B53_91 hc, nI_1]
      exact ih (i + 1) none (by omega)
    rw [B53_24 hc, show nI L + 2 = nI (L + 2) from (nI_k L).2.1, if_neg (nI_ge (by omega) (by omega)), B53_33 hc]
    by_cases h0 : i = 0
    · rw [if_pos (e0.mpr h0)]
      exact edge (if_pos (Or.inl h0))
    · rw [if_neg (fun z => h0 (e0.mp z)), B53_38 hc]
      by_cases h1 : i = L + 1
      · rw [if_neg (not_not_intro (eL.mpr h1))]
        exact edge (if_pos (Or.inr h1))
      · have hdt : dw t L i = t (i - 1) := if_neg (by omega)
        have ei : nI a + nI i - 1 = nI (a + (i - 1)) := by
          rw [nI_add, nI_n1 (by omega)]
          congr 1
          omega
        have hrd : (uc I 60 (gI (gal (dw t L) pn pk pv P i) f)) c (nI a + nI i - 1).toNatClampNeg = nI (dw t L i) := by
          rw [ucn hc6, ei, nI_clamp (by omega), ht _ (by omega), hdt]
        have h54' : zq S 54 [.ref 56, .long (lN (win (dw t L) i) <<< ((8 : Int32).toInt64 &&& 63) ||| ((uc I 60 (gI (gal (dw t L) pn pk pv P i) f)) c (nI a + nI i - 1).toNatClampNeg).toInt64), .int (nI i + 1)] (uc I 60 (gI (gal (dw t L) pn pk pv P i) f)) J none (uc I 60 (gI (gal (dw t L) pn pk pv P (i + 1)) f)) J := h54 _ (by rw [hrd, hst])
        rw [if_pos (fun z => h1 (eL.mp z)), B53_51 hc, if_pos rfl, B53_69 hb hc (by rw [ei]; exact zin_n (by omega) hn1) h54', hrd, hst, B53_91 hc, nI_1]
        exact ih (i + 1) none (by omega)
theorem g53_s {L : Nat} {g : Nat → Nat} {f : Nat → Int32} (hg : ∀ q, g q < 256) (hL : L ≤ 12) : ∀ (m j s : Nat) (o1 o2 o5 : Option Value), 2 ≤ j → s < 2 ^ j → L - 1 = j + m ∨ (m = 0 ∧ L - 1 ≤ j ∧ j < 17) →
    zd S 53 103 [some (.ref 56), o1, o2, none, some (.int (nI L)), o5, none, some (.int (nI s)), some (.int (nI j))] [] (uc I 60 (gI g f)) J k = some (some (.int (nI (s + sm g j m))), mk (uc I 60 (gI g f)) J, k) := by
  intro m
  induction m with
  | zero =>
    intro j s o1 o2 o5 hj hs hm
    rw [B53_103, if_pos ((lm2 L (by omega) j (by omega)).mpr (by omega)), B53_137]
    rfl
  | succ m ih =>
    intro j s o1 o2 o5 hj hs hm
    have hlt : ¬ nI L - 2 < nI j := fun z => by have := (lm2 L (by omega) j (by omega)).mp z; omega
    have hp : 2 ^ (j + 1) = 2 ^ j + 2 ^ j := by rw [Nat.pow_succ]; omega
    have h3 : g (j + 1) % 2 * 2 ^ j ≤ 1 * 2 ^ j := Nat.mul_le_mul_right _ (by omega)
    have e1 : nI (g (j + 1)) &&& 1 = nI (g (j + 1) % 2) := pk_andN (by have := hg (j + 1); omega) 1 rfl
    rw [B53_103, if_neg hlt, B53_112 (by rw [nI_1]; exact zin_n (by omega) (by decide)), nI_1, nI_clamp (by omega), uc_s, gI_at (by omega), e1, sm_or hs (by omega) (by omega), ih (j + 1) _ _ _ _ (by omega) (by omega) (by omega), Nat.add_assoc]
    rfl
/-- what the cuts of a word sum up to -/
def cutS (g : Nat → Nat) (L : Nat) : Nat := sm g 2 (L - 3)
theorem s53 {P L c n1 a b : Nat} {pn pk pv t : Nat → Nat} (hc : zShL[c]? = some (.inr (.inl (2, n1)))) (hc6 : Nat.beq c 60 = false) (hn1 : n1 < 2 ^ 31) (hab : a ≤ b) (hb2 : b < 2 ^ 31) (hLd : L = min (b - a) 12) (ha : a + L ≤ n1) (ht : ∀ i, i < L → I c (a + i) = nI (t i)) (ht2 : ∀ i, i < L → t i < 256)
    (hP : P ≤ 20) (h4 : I 56 4 = nI P) (h59 : ∀ p, p < P → I 59 p = nI (pn p)) (h57 : ∀ p, p < P → J 57 p = lN (pk p)) (h58 : ∀ p, p < P → J 58 p = lN (pv p)) (hr : ∀ p, p < P → rowN (pk p) (pn p)) (hv : ∀ p, p < P → pv p < 2 ^ 64) :
    zq S 53 [.ref 56, .ref c, .int (nI a), .int (nI b)] I J (some (.int (nI (cutS (gal (dw t L) pn pk pv P (L + 2)) L)))) (uc I 60 (gI (gal (dw t L) pn pk pv P (L + 2)) (I 60))) J := by
  refine zq_of rfl ?_
  show zd S 53 0 [some (.ref 56), some (.ref c), some (.int (nI a)), some (.int (nI b)), none, none, none, none, none] [] I J (0, 0) = _
  have eL : (if 12 < nI b - nI a then 12 else nI b - nI a) = nI L := by
    rw [pk_sub hab]
    have : (12 : Int32) < nI (b - a) ↔ 12 < b - a := nI_ltI (a := 12) (by decide) (by omega)
    by_cases h : 12 < b - a
    · rw [if_pos (this.mpr h), hLd, Nat.min_eq_right (by omega)]
      rfl
    · rw [if_neg (fun z => h (this.mp z)), hLd, Nat.min_eq_left (by omega)]
  have hl := g53_l (S := S) (I := I) (J := J) (k := (0, 0)) (f := I 60) hc hc6 hn1 (by omega : L ≤ 12) ha ht ht2 hP h4 h59 h57 h58 hr hv ⟨rfl, rfl⟩ (L + 2) 0 (some (.int (nI b))) (by omega)
  have h0 : zq S 149 [.ref 60, .int 0] I J none (uc I 60 (gI (gal (dw t L) pn pk pv P 0) (I 60))) J := s149 (c := 60) (n := 15) rfl (by decide)
  have hs := g53_s (S := S) (J := J) (I := I) (k := (0, 0)) (L := L) (f := I 60) (gal_lt (d := dw t L) (pn := pn) (pk := pk) (pv := pv) (P := P) (L + 2)) (by omega) (L - 3) 2 0 (some (.ref c)) (some (.int (nI a))) (some (.long (lN (win (dw t L) (L + 2))))) (by omega) (by decide) (by omega)
  rw [Nat.zero_add] at hs
  rw [B53_0 ⟨rfl, rfl⟩ hc h0, eL, B53_18 hc]
  exact hl.trans (by rw [B53_97 hc]; exact hs)
end CUTS
