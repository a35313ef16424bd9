/-! values of a word's places: what raises them -/
def filA (f : Nat → Int32) (x : Int32) (i : Nat) : Nat → Int32 := fun q => if q < i then x else f q
theorem filA_0 (f : Nat → Int32) (x : Int32) : filA f x 0 = f := by
  funext q
  unfold filA
  rw [if_neg (by omega)]
theorem filA_s (f : Nat → Int32) (x : Int32) (i : Nat) : upd (filA f x i) i x = filA f x (i + 1) := by
  funext q
  unfold upd filA
  by_cases h : q = i
  · rw [if_pos h, if_pos (by omega)]
  · rw [if_neg h]
    by_cases h2 : q < i
    · rw [if_pos h2, if_pos (by omega)]
    · rw [if_neg h2, if_neg (by omega)]
/-- fifteen values, as an array has them -/
def gI (g : Nat → Nat) (f : Nat → Int32) : Nat → Int32 := fun q => if q < 15 then nI (g q) else f q
theorem gI_at {g : Nat → Nat} {f : Nat → Int32} {q : Nat} (h : q < 15) : gI g f q = nI (g q) := if_pos h
theorem gI_0 (f : Nat → Int32) : filA f 0 15 = gI (fun _ => 0) f := rfl
/-- the n + 1 values of u raise the places from b on, i of them -/
def rs (g : Nat → Nat) (u n b i : Nat) : Nat → Nat := fun q => if b ≤ q ∧ q < b + i then max (g q) (byt u (n + 1) (q - b)) else g q
theorem rs_0 (g : Nat → Nat) (u n b : Nat) : rs g u n b 0 = g := by
  funext q
  unfold rs
  rw [if_neg (by omega)]
theorem rs_at (g : Nat → Nat) (u n b i : Nat) : rs g u n b i (b + i) = g (b + i) := by
  unfold rs
  rw [if_neg (by omega)]
theorem rs_lt {g : Nat → Nat} {u n b i : Nat} (h : ∀ q, g q < 256) (q : Nat) : rs g u n b i q < 256 := by
  unfold rs
  split
  · have := h q
    have := byt_lt u (n + 1) (q - b)
    omega
  · exact h q
theorem rs_s (g : Nat → Nat) (f : Nat → Int32) (u n b i : Nat) (h : b + i < 15) : upd (gI (rs g u n b i) f) (b + i) (nI (max (g (b + i)) (byt u (n + 1) i))) = gI (rs g u n b (i + 1)) f := by
  funext q
  unfold upd gI
  by_cases hq : q = b + i
  · subst hq
    rw [if_pos rfl, if_pos h]
    unfold rs
    rw [if_pos (by omega), Nat.add_sub_cancel_left]
  · rw [if_neg hq]
    unfold rs
    by_cases h2 : b ≤ q ∧ q < b + i
    · rw [if_pos h2, if_pos (by omega : b ≤ q ∧ q < b + (i + 1))]
    · rw [if_neg h2, if_neg (by omega : ¬ (b ≤ q ∧ q < b + (i + 1)))]
theorem mx_n {a b : Nat} (ha : a < 2 ^ 31) (hb : b < 2 ^ 31) : (if nI a < nI b then nI b else nI a) = nI (max a b) := by
  by_cases h : a < b
  · rw [if_pos (nI_lt h hb), Nat.max_eq_right (by omega)]
  · rw [if_neg (nI_nlt (by omega) ha), Nat.max_eq_left (by omega)]
/-- the window's last signs are the row -/
def mt (w e n r : Nat) : Bool := decide (n ≤ e) && decide (w % 2 ^ (8 * n) = r)
def rp (w e : Nat) (pn pk pv : Nat → Nat) : Nat → Nat → (Nat → Nat) → (Nat → Nat)
  | _, 0, g => g
  | i, m + 1, g => rp w e pn pk pv (i + 1) m (if mt w e (pn i) (pk i) = true then rs g (pv i) (pn i) (e - pn i) (pn i + 1) else g)
theorem rp_lt {w e : Nat} {pn pk pv : Nat → Nat} : ∀ (m i : Nat) (g : Nat → Nat), (∀ q, g q < 256) → ∀ q, rp w e pn pk pv i m g q < 256
  | 0, _, _, h, q => h q
  | m + 1, i, g, h, q => by
    unfold rp
    refine rp_lt m (i + 1) _ ?_ q
    intro q
    split
    · exact rs_lt h q
    · exact h q
section RAISE
variable {S : Nat × (Nat → Int32)} {I : zI} {J : zJ} {k : zK}
theorem g149_l {c n : Nat} {x : Int32} (hc : zShL[c]? = some (.inr (.inl (0, n)))) (hn : n < 2 ^ 31) : ∀ (m i : Nat), n = i + m →
    zd S 149 5 [some (.ref c), some (.int x), some (.int (nI i)), some (.int (nI n))] [] (uc I c (filA (I c) x i)) J k = some (none, mk (uc I c (filA (I c) x n)) J, k) := by
  intro m
  induction m with
  | zero =>
    intro i hm
    have hi : n = i := by omega
    subst hi
    rw [B149_5 hc, if_pos (nI_le (Nat.le_refl _) hn), B149_20 hc]
  | succ m ih =>
    intro i hm
    rw [B149_5 hc, if_neg (nI_ge (by omega) hn), B149_10 hc (zin_n (by omega) hn), B149_14 hc, nI_clamp (by omega), nI_1, u2uc, filA_s]
    exact ih (i + 1) (by omega)
theorem s149 {c n : Nat} {x : Int32} (hc : zShL[c]? = some (.inr (.inl (0, n)))) (hn : n < 2 ^ 31) : zq S 149 [.ref c, .int x] I J none (uc I c (filA (I c) x n)) J := by
  refine zq_of rfl ?_
  show zd S 149 0 [some (.ref c), some (.int x), none, none] [] I J (0, 0) = _
  have := g149_l (S := S) (I := I) (J := J) (k := (0, 0)) (x := x) hc hn n 0 (by omega)
  rw [filA_0, uc_id] at this
  rw [B149_0 hc]
  exact this
theorem g54_i {w e n p u : Nat} {g : Nat → Nat} {f : Nat → Int32} (hg : ∀ q, g q < 256) (hn : n ≤ 6) (he : n ≤ e) (he2 : e ≤ 14) (hp : p < 20) (hJ : J 58 p = lN u) (hu : u < 2 ^ 64) (hb : Nat.ble k.1 (mBu 54).1 = true ∧ Nat.ble k.2 (mBu 54).2 = true) : ∀ (m i : Nat), n + 1 = i + m → ∀ o : Option Value,
    zd S 54 48 [some (.ref 56), some (.long (lN w)), none, some (.int (nI e)), some (.int (nI p)), some (.int (nI n)), some (.int (nI i)), o] [] (uc I 60 (gI (rs g u n (e - n) i) f)) J k
      = zd S 54 3 [some (.ref 56), some (.long (lN w)), none, some (.int (nI e)), some (.int (nI (p + 1))), none, none, none] [] (uc I 60 (gI (rs g u n (e - n) (n + 1)) f)) J k := by
  intro m
  induction m with
  | zero =>
    intro i hm o
    have hi : i = n + 1 := by omega
    subst hi
    rw [B54_48, if_pos (nI_lt (by omega) (by omega)), B54_108, nI_1]
  | succ m ih =>
    intro i hm o
    have e1 : nI e - nI n + nI i = nI (e - n + i) := by rw [pk_sub he, nI_add]
    have h21 : zq S 21 [.long (J 58 (nI p).toNatClampNeg), .int (nI n + 1), .int (nI i)] (uc I 60 (gI (rs g u n (e - n) i) f)) J (some (.int (nI (byt u (n + 1) i)))) (uc I 60 (gI (rs g u n (e - n) i) f)) J := by
      rw [nI_1, nI_clamp (by omega), hJ]
      exact s21 hu (by omega) (by omega)
    have hz : zin (nI e - nI n + nI i) 15 = true := by rw [e1]; exact zin_n (by omega) (by decide)
    have hx : (if nI (g (e - n + i)) < nI (byt u (n + 1) i) then nI (byt u (n + 1) i) else nI (g (e - n + i))) = nI (max (g (e - n + i)) (byt u (n + 1) i)) := mx_n (by have := hg (e - n + i); omega) (by have := byt_lt u (n + 1) i; omega)
    rw [B54_48, if_neg (nI_nlt (by omega) (by omega)), B54_55 hb (zin_n hp (by decide)) h21, B54_71 hb hz hz, e1, nI_clamp (by omega), B54_102, nI_1, uc_s, gI_at (by omega), rs_at, hx, u2uc, rs_s _ _ _ _ _ _ (by omega)]
    exact ih (i + 1) (by omega) _
theorem g54_l {P w e : Nat} {pn pk pv : Nat → Nat} {f : Nat → Int32} (hP : P ≤ 20) (hw : w < 2 ^ 64) (he2 : e ≤ 14) (h4 : I 56 4 = nI P) (h59 : ∀ p, p < P → I 59 p = nI (pn p)) (h57 : ∀ p, p < P → J 57 p = lN (pk p)) (h58 : ∀ p, p < P → J 58 p = lN (pv p)) (hr : ∀ p, p < P → rowN (pk p) (pn p)) (hv : ∀ p, p < P → pv p < 2 ^ 64) (hb : Nat.ble k.1 (mBu 54).1 = true ∧ Nat.ble k.2 (mBu 54).2 = true) : ∀ (m i : Nat) (g : Nat → Nat), (∀ q, g q < 256) → P = i + m →
    zd S 54 3 [some (.ref 56), some (.long (lN w)), none, some (.int (nI e)), some (.int (nI i)), none, none, none] [] (uc I 60 (gI g f)) J k = some (none, mk (uc I 60 (gI (rp w e pn pk pv i m g) f)) J, k) := by
  intro m
  induction m with
  | zero =>
    intro i g hg hm
    have hi : P = i := by omega
    subst hi
    rw [B54_3, ucn rfl, h4, if_pos (nI_le (Nat.le_refl _) (by omega)), B54_114]
    rfl
  | succ m ih =>
    intro i g hg hm
    obtain ⟨n1, n6, -, -⟩ := hr i (by omega)
    have h64 := rowN_64 (hr i (by omega))
    have hz : zin (nI i) 20 = true := zin_n (by omega) (by decide)
    rw [B54_3, ucn rfl, h4, if_neg (nI_ge (by omega) (by omega)), B54_12 hz, ucn rfl, nI_clamp (by omega), h59 i (by omega)]
    show _ = some (none, mk (uc I 60 (gI (rp w e pn pk pv (i + 1) m (if mt w e (pn i) (pk i) = true then rs g (pv i) (pn i) (e - pn i) (pn i + 1) else g)) f)) J, k)
    by_cases h1 : pn i ≤ e
    · rw [if_neg (nI_nlt h1 (by omega)), B54_27 hb (s58 n6), B54_33 hz, nI_clamp (by omega), h57 i (by omega), wb_mask hw (by omega)]
      have ec : lg_cmp (lN (w % 2 ^ (8 * pn i))) (lN (pk i)) = 0 ↔ w % 2 ^ (8 * pn i) = pk i := by
        rw [cmp0]
        constructor
        · intro h
          have : (lN (w % 2 ^ (8 * pn i))).toBitVec.toNat = (lN (pk i)).toBitVec.toNat := by rw [h]
          rwa [wb_tn (Nat.lt_of_le_of_lt (Nat.mod_le _ _) hw), wb_tn h64] at this
        · intro h; rw [h]
      by_cases h2 : w % 2 ^ (8 * pn i) = pk i
      · have hm1 : mt w e (pn i) (pk i) = true := by unfold mt; rw [decide_eq_true h1, decide_eq_true h2]; rfl
        have hI := g54_i (S := S) (I := I) (w := w) (f := f) hg n6 h1 he2 (by omega : i < 20) (h58 i (by omega)) (hv i (by omega)) hb (pn i + 1) 0 (by omega) none
        rw [rs_0] at hI
        rw [if_neg (not_not_intro (ec.mpr h2)), B54_45, show (0 : Int32) = nI 0 from rfl, hI, if_pos hm1]
        exact ih (i + 1) _ (fun q => rs_lt hg q) (by omega)
      · have hm1 : ¬ mt w e (pn i) (pk i) = true := by unfold mt; rw [decide_eq_false h2, Bool.and_false]; exact Bool.false_ne_true
        rw [if_pos (fun z => h2 (ec.mp z)), B54_108, nI_1, if_neg hm1]
        exact ih (i + 1) _ hg (by omega)
    · have hm1 : ¬ mt w e (pn i) (pk i) = true := by unfold mt; rw [decide_eq_false h1, Bool.false_and]; exact Bool.false_ne_true
      rw [if_pos (nI_lt (by omega) (by omega)), B54_108, nI_1, if_neg hm1]
      exact ih (i + 1) _ hg (by omega)
theorem s54 {P w e : Nat} {pn pk pv : Nat → Nat} {g : Nat → Nat} {f : Nat → Int32} (hg : ∀ q, g q < 256) (hP : P ≤ 20) (hw : w < 2 ^ 64) (he2 : e ≤ 14) (h4 : I 56 4 = nI P) (h59 : ∀ p, p < P → I 59 p = nI (pn p)) (h57 : ∀ p, p < P → J 57 p = lN (pk p)) (h58 : ∀ p, p < P → J 58 p = lN (pv p)) (hr : ∀ p, p < P → rowN (pk p) (pn p)) (hv : ∀ p, p < P → pv p < 2 ^ 64) :
    zq S 54 [.ref 56, .long (lN w), .int (nI e)] (uc I 60 (gI g f)) J none (uc I 60 (gI (rp w e pn pk pv 0 P g) f)) J := by
  refine zq_of rfl ?_
  show zd S 54 0 [some (.ref 56), some (.long (lN w)), none, some (.int (nI e)), none, none, none, none] [] _ J (0, 0) = _
  rw [B54_0, show (0 : Int32) = nI 0 from rfl]
  exact g54_l hP hw he2 h4 h59 h57 h58 hr hv ⟨rfl, rfl⟩ P 0 g hg (by omega)
end RAISE
