/-! a pattern is kept -/
theorem cmp0 (x y : Int64) : lg_cmp x y = 0 ↔ x = y := by
  unfold lg_cmp
  by_cases h1 : x > y
  · rw [if_pos h1]
    constructor
    · intro h; exact absurd h (by decide)
    · intro h
      subst h
      exact absurd h1 (by rw [gt_iff_lt, Int64.lt_iff_toInt_lt]; omega)
  · rw [if_neg h1]
    by_cases h2 : x = y
    · rw [if_pos h2]; exact ⟨fun _ => h2, fun _ => rfl⟩
    · rw [if_neg h2]
      constructor
      · intro h; exact absurd h (by decide)
      · intro h; exact absurd h h2
/-- the first place from i on, of m, that holds the row; else the place behind them -/
def plc (pk : Nat → Nat) (row : Nat) : Nat → Nat → Nat
  | i, 0 => i
  | i, m + 1 => if pk i = row then i else plc pk row (i + 1) m
theorem plc_le (pk : Nat → Nat) (row : Nat) : ∀ (m i : Nat), plc pk row i m ≤ i + m ∧ i ≤ plc pk row i m
  | 0, i => ⟨Nat.le_refl _, Nat.le_refl _⟩
  | m + 1, i => by
    unfold plc
    split
    · omega
    · have := plc_le pk row m (i + 1)
      omega
section PUT
variable {S : Nat × (Nat → Int32)} {I : zI} {J : zJ} {k : zK}
theorem s58 {n : Nat} (hn : n ≤ 6) : zq S 58 [.int (nI n)] I J (some (.long (lN (2 ^ (8 * n) - 1)))) I J := by
  refine zq_of rfl ?_
  show zd S 58 0 [some (.int (nI n))] [] I J (0, 0) = _
  rw [B58_0, show (8 : Int32) = nI 8 from rfl, pk_mul, show (1 : Int64) = lN 1 from rfl, wb_shl 1 (by omega), Nat.one_mul, lN_sub (Nat.one_le_two_pow)]
theorem g55_l {P row : Nat} {pk : Nat → Nat} (hP : P ≤ 20) (hI : I 56 4 = nI P) (hJ : ∀ p, p < P → J 57 p = lN (pk p)) (hk : ∀ p, p < P → pk p < 2 ^ 64) (hr : row < 2 ^ 64) : ∀ (m i : Nat), P = i + m →
    zd S 55 2 [some (.ref 56), some (.long (lN row)), none, some (.int (nI i))] [] I J k = some (some (.int (nI (plc pk row i m))), mk I J, k) := by
  intro m
  induction m with
  | zero =>
    intro i hm
    have hi : P = i := by omega
    subst hi
    rw [B55_2, hI, if_pos (nI_le (Nat.le_refl _) (by omega)), B55_29, hI]
    rfl
  | succ m ih =>
    intro i hm
    rw [B55_2, hI, if_neg (nI_ge (by omega) (by omega)), B55_10 (zin_n (by omega) (by decide)), nI_clamp (by omega), hJ i (by omega)]
    have e : lg_cmp (lN (pk i)) (lN row) = 0 ↔ pk i = row := by
      rw [cmp0]
      constructor
      · intro h
        have : (lN (pk i)).toBitVec.toNat = (lN row).toBitVec.toNat := by rw [h]
        rwa [wb_tn (hk i (by omega)), wb_tn hr] at this
      · intro h; rw [h]
    unfold plc
    by_cases h : pk i = row
    · rw [if_neg (not_not_intro (e.mpr h)), B55_21, if_pos h]
    · rw [if_pos (fun z => h (e.mp z)), B55_23, nI_1, ih (i + 1) (by omega), if_neg h]
theorem s55 {P row : Nat} {pk : Nat → Nat} (hP : P ≤ 20) (hI : I 56 4 = nI P) (hJ : ∀ p, p < P → J 57 p = lN (pk p)) (hk : ∀ p, p < P → pk p < 2 ^ 64) (hr : row < 2 ^ 64) : zq S 55 [.ref 56, .long (lN row)] I J (some (.int (nI (plc pk row 0 P)))) I J := by
  refine zq_of rfl ?_
  show zd S 55 0 [some (.ref 56), some (.long (lN row)), none, none] [] I J (0, 0) = _
  rw [B55_0]
  exact g55_l hP hI hJ hk hr P 0 (by omega)
/-- may it be kept -/
def pOk (v : Nat) (x : Int32) (u : Nat) : Bool := sgOk v x && vlA u (x.toNatClampNeg + 1) 0 (x.toNatClampNeg + 1)
def pRow (v : Nat) (x : Int32) : Nat := v % 2 ^ (8 * x.toNatClampNeg)
def pAt (pk : Nat → Nat) (P v : Nat) (x : Int32) : Nat := plc pk (pRow v x) 0 P
def pSz (pk : Nat → Nat) (P v : Nat) (x : Int32) : Nat := if pAt pk P v x = P then P + 1 else P
def pR (pk : Nat → Nat) (P v : Nat) (x : Int32) (u : Nat) : Int32 := if pOk v x u = true then (if pAt pk P v x < 20 then nI (pSz pk P v x) else -2) else -1
theorem sgOk_n {v : Nat} {x : Int32} (h : sgOk v x = true) : ∃ n, 1 ≤ n ∧ n ≤ 6 ∧ x = nI n ∧ sgA v n 0 n = true ∧ sgE v n 0 n = true := by
  unfold sgOk at h
  rw [Bool.and_eq_true, Bool.and_eq_true, Bool.and_eq_true, Bool.not_eq_true', decide_eq_false_iff_not, decide_eq_true_eq] at h
  obtain ⟨n, n1, n6, rfl⟩ := le6 h.1 h.2.1
  rw [nI_clamp (by omega)] at h
  exact ⟨n, n1, n6, rfl, h.2.2.1, h.2.2.2⟩
theorem s52 {P v u : Nat} {pk : Nat → Nat} (x : Int32) (hv : v < 2 ^ 64) (hu : u < 2 ^ 64) (hP : P ≤ 20) (hI : I 56 4 = nI P) (hJ : ∀ p, p < P → J 57 p = lN (pk p)) (hk : ∀ p, p < P → pk p < 2 ^ 64) :
    zq S 52 [.ref 56, .long (lN v), .int x, .long (lN u)] I J (some (.int (pR pk P v x u))) (if pOk v x u = true ∧ pAt pk P v x < 20 then u2 (u2 I 59 (pAt pk P v x) x) 56 4 (nI (pSz pk P v x)) else I) (if pOk v x u = true ∧ pAt pk P v x < 20 then v2 (v2 J 57 (pAt pk P v x) (lN (pRow v x))) 58 (pAt pk P v x) (lN u) else J) := by
  refine zq_of rfl ?_
  show zd S 52 0 [some (.ref 56), some (.long (lN v)), none, some (.int x), some (.long (lN u)), none, none, none, none] [] I J (0, 0) = _
  unfold pR
  rw [B52_0 ⟨rfl, rfl⟩ (s56 x hv), B52_5]
  cases hs : sgOk v x with
  | false =>
    have hp : pOk v x u = false := by unfold pOk; rw [hs]; rfl
    rw [if_pos ((bI_0 _).mpr rfl), B52_19, hp, if_neg (by decide), if_neg (by simp), if_neg (by simp)]
  | true =>
    obtain ⟨n, n1, n6, rfl, -, -⟩ := sgOk_n hs
    have hn : (nI n).toNatClampNeg = n := nI_clamp (by omega)
    have hp : pOk v (nI n) u = vlA u (n + 1) 0 (n + 1) := by unfold pOk; rw [hs, hn]; rfl
    have h57 : zq S 57 [.long (lN u), .int (nI n + 1)] I J (some (.int (bI (vlA u (n + 1) 0 (n + 1))))) I J := by
      rw [nI_1]
      exact s57 hu (by omega)
    rw [if_neg (by decide), B52_8 ⟨rfl, rfl⟩ h57, B52_16, hp]
    cases hw : vlA u (n + 1) 0 (n + 1) with
    | false => rw [if_neg (by decide), B52_19, if_neg (by decide), if_neg (by simp), if_neg (by simp)]
    | true =>
      have hrow : pRow v (nI n) = v % 2 ^ (8 * n) := by unfold pRow; rw [hn]
      have hrl : pRow v (nI n) < 2 ^ 64 := by rw [hrow]; exact Nat.lt_of_le_of_lt (Nat.mod_le _ _) hv
      have hat := plc_le pk (pRow v (nI n)) P 0
      have hae : pAt pk P v (nI n) = plc pk (pRow v (nI n)) 0 P := rfl
      have h55 : zq S 55 [.ref 56, .long (lN v &&& lN (2 ^ (8 * n) - 1))] I J (some (.int (nI (plc pk (pRow v (nI n)) 0 P)))) I J := by
        rw [wb_mask hv (by omega), ← hrow]
        exact s55 hP hI hJ hk hrl
      rw [if_pos (by decide), B52_21 ⟨rfl, rfl⟩ (s58 n6), B52_26 ⟨rfl, rfl⟩ h55, B52_35, ← hae, wb_mask hv (by omega), ← hrow]
      rw [← hae] at hat
      have e20 : nI (pAt pk P v (nI n)) < 20 ↔ pAt pk P v (nI n) < 20 := nI_ltI (b := 20) (by omega) (by decide)
      by_cases h20 : pAt pk P v (nI n) < 20
      · have hc : (nI (pAt pk P v (nI n))).toNatClampNeg = pAt pk P v (nI n) := nI_clamp (by omega)
        have hz : zin (nI (pAt pk P v (nI n))) 20 = true := zin_n h20 (by decide)
        have e : (if nI P < nI (pAt pk P v (nI n) + 1) then nI (pAt pk P v (nI n) + 1) else nI P) = nI (pSz pk P v (nI n)) := by
          unfold pSz
          by_cases hq : pAt pk P v (nI n) = P
          · rw [if_pos hq, if_pos (nI_lt (by omega) (by omega)), hq]
          · rw [if_neg hq, if_neg (nI_nlt (by omega) (by omega))]
        have ht : true = true ∧ pAt pk P v (nI n) < 20 := ⟨rfl, h20⟩
        rw [if_pos (e20.mpr h20), B52_47 hz, B52_56 hz, B52_64 hz, B52_73 ⟨rfl, rfl⟩, B52_88, u2s, hc, u2n rfl, hI, nI_1, e, if_pos ht, if_pos ht, if_pos (rfl : true = true), if_pos h20]
      · rw [if_neg (fun z => h20 (e20.mp z)), B52_44, if_pos (rfl : true = true), if_neg h20, if_neg (fun z => h20 z.2), if_neg (fun z => h20 z.2)]
theorem s4 {P v u : Nat} {pk : Nat → Nat} (x : Int32) (hv : v < 2 ^ 64) (hu : u < 2 ^ 64) (hP : P ≤ 20) (hI : I 56 4 = nI P) (hJ : ∀ p, p < P → J 57 p = lN (pk p)) (hk : ∀ p, p < P → pk p < 2 ^ 64) :
    zq S 4 [.ref 0, .long (lN v), .int x, .long (lN u)] I J (some (.int (pR pk P v x u))) (if pOk v x u = true ∧ pAt pk P v x < 20 then u2 (u2 I 59 (pAt pk P v x) x) 56 4 (nI (pSz pk P v x)) else I) (if pOk v x u = true ∧ pAt pk P v x < 20 then v2 (v2 J 57 (pAt pk P v x) (lN (pRow v x))) 58 (pAt pk P v x) (lN u) else J) := by
  refine zq_of rfl ?_
  show zd S 4 0 [some (.ref 0), some (.long (lN v)), none, some (.int x), some (.long (lN u)), none] [] I J (0, 0) = _
  rw [B4_0 ⟨rfl, rfl⟩ (s52 x hv hu hP hI hJ hk), B4_14]
end PUT
