/-! the sum of the cuts, the other side -/
def isC (g : Nat → Nat) (n j : Nat) : Bool := decide (2 ≤ j) && (decide (j + 2 ≤ n) && decide (g (j + 1) % 2 = 1))
def smc (g : Nat → Nat) (n : Nat) : Nat → Nat → Nat
  | _, 0 => 0
  | j, m + 1 => (if isC g n j = true then 2 ^ j else 0) + smc g n (j + 1) m
theorem smc_i {g : Nat → Nat} {n : Nat} : ∀ (m j : Nat), 2 ≤ j → n = j + m → smc g n j m = sm g j (m - 1)
  | 0, j, _, _ => rfl
  | 1, j, _, h => by
    show (if isC g n j = true then 2 ^ j else 0) + 0 = 0
    have : isC g n j = false := by unfold isC; rw [decide_eq_false (by omega : ¬ j + 2 ≤ n), Bool.false_and, Bool.and_false]
    rw [this, if_neg (by decide)]
  | m + 2, j, h2, h => by
    show (if isC g n j = true then 2 ^ j else 0) + smc g n (j + 1) (m + 1) = g (j + 1) % 2 * 2 ^ j + sm g (j + 1) m
    rw [smc_i (m + 1) (j + 1) (by omega) (by omega)]
    show (if isC g n j = true then 2 ^ j else 0) + sm g (j + 1) m = _
    congr 1
    have hc : isC g n j = decide (g (j + 1) % 2 = 1) := by unfold isC; rw [decide_eq_true h2, decide_eq_true (by omega : j + 2 ≤ n)]; rfl
    rw [hc]
    by_cases ho : g (j + 1) % 2 = 1
    · rw [decide_eq_true ho, if_pos rfl, ho, Nat.one_mul]
    · rw [decide_eq_false ho, if_neg (by decide), show g (j + 1) % 2 = 0 from by omega, Nat.zero_mul]
theorem smc_1 {g : Nat → Nat} {n : Nat} (hn : 1 ≤ n) : smc g n 1 (n - 1) = cutS g n := by
  unfold cutS
  by_cases h : n = 1
  · subst h
    rfl
  · obtain ⟨m, rfl⟩ : ∃ m, n = m + 2 := ⟨n - 2, by omega⟩
    show (if isC g (m + 2) 1 = true then 2 ^ 1 else 0) + smc g (m + 2) 2 m = _
    rw [smc_i m 2 (by omega) (by omega), show isC g (m + 2) 1 = false from rfl, if_neg (by decide), Nat.zero_add]
    rfl
section MSUM
variable {S : Nat × (Nat → Int32)} {I : zI} {J : zJ} {k : zK}
theorem s103 {g : Nat → Nat} {n j : Nat} (hj : j ≤ n) (hn : n ≤ 12) (hg : ∀ q, g q < 256) (h83 : ∀ q, q < 15 → I 83 q = nI (g q)) : zq S 103 [.ref 76, .int (nI j), .int (nI n)] I J (some (.int (bI (isC g n j)))) I J := by
  refine zq_of rfl ?_
  show zd S 103 0 [some (.ref 76), some (.int (nI j)), some (.int (nI n))] [] I J (0, 0) = _
  have e1 : nI j < 2 ↔ j < 2 := nI_ltI (b := 2) (by omega) (by decide)
  have e2 : nI n - nI j < 2 ↔ n - j < 2 := by rw [pk_sub hj]; exact nI_ltI (b := 2) (by omega) (by decide)
  unfold isC
  rw [B103_0]
  by_cases h1 : j < 2
  · rw [if_pos (e1.mpr h1), B103_30 rfl, decide_eq_false (by omega : ¬ 2 ≤ j)]
    rfl
  · rw [if_neg (fun z => h1 (e1.mp z)), B103_5, decide_eq_true (by omega : 2 ≤ j)]
    by_cases h2 : n - j < 2
    · rw [if_pos (e2.mpr h2), B103_30 rfl, decide_eq_false (by omega : ¬ j + 2 ≤ n)]
      rfl
    · have hb := hg (j + 1)
      have er : nI (g (j + 1)) - nI (g (j + 1)) / 2 * 2 = nI (g (j + 1) % 2) := pk_rem (d := 2) (by omega) (by decide) (by decide)
      have e3 : nI (g (j + 1) % 2) = 1 ↔ g (j + 1) % 2 = 1 := nI_eq (b := 1) (by omega) (by decide)
      rw [if_neg (fun z => h2 (e2.mp z)), B103_12 (by rw [nI_1]; exact zin_n (by omega) (by decide)), decide_eq_true (by omega : j + 2 ≤ n), nI_1, nI_clamp (by omega), h83 _ (by omega), er]
      by_cases h3 : g (j + 1) % 2 = 1
      · rw [if_neg (not_not_intro (e3.mpr h3)), B103_26 rfl, decide_eq_true h3]
        rfl
      · rw [if_pos (fun z => h3 (e3.mp z)), B103_30 rfl, decide_eq_false h3]
        rfl
theorem g104_s {g : Nat → Nat} {n : Nat} (hn : n ≤ 12) (hg : ∀ q, g q < 256) (h83 : ∀ q, q < 15 → I 83 q = nI (g q)) (hb : Nat.ble k.1 (mBu 104).1 = true ∧ Nat.ble k.2 (mBu 104).2 = true) : ∀ (m j s : Nat) (o : Option Value), n = j + m →
    zd S 104 85 [some (.ref 76), o, none, some (.int (nI n)), some (.int (nI s)), some (.int (nI j))] [] I J k = some (some (.int (nI (s + smc g n j m))), mk I J, k) := by
  intro m
  induction m with
  | zero =>
    intro j s o hm
    have hi : n = j := by omega
    subst hi
    rw [B104_85, if_pos (nI_le (Nat.le_refl _) (by omega)), B104_121]
    rfl
  | succ m ih =>
    intro j s o hm
    have e1 : (1 : Int32) <<< (nI j &&& 31) = nI (2 ^ j) := by
      have h2 : 2 ^ j ≤ 2 ^ 12 := Nat.pow_le_pow_right (by decide) (by omega)
      have := pk_shlN (n := 1) (nI j &&& 31) j (s_l j (by omega)) (by omega)
      rw [Nat.one_mul] at this
      exact this
    rw [B104_85, if_neg (nI_ge (by omega) (by omega)), B104_91 hb (s103 (by omega) hn hg h83), B104_98]
    show _ = some (some (Value.int (nI (s + ((if isC g n j = true then 2 ^ j else 0) + smc g n (j + 1) m)))), mk I J, k)
    cases hc : isC g n j with
    | true => rw [if_neg (by decide), B104_101, e1, nI_add, nI_1, ih (j + 1) _ _ (by omega), if_pos rfl, Nat.add_assoc]
    | false => rw [if_pos ((bI_0 _).mpr rfl), B104_111, nI_1, ih (j + 1) _ _ (by omega), if_neg (by decide), Nat.zero_add]
theorem g104_l {v n : Nat} (hv : v < 2 ^ 64) (hn : n ≤ 8) (hb : Nat.ble k.1 (mBu 104).1 = true ∧ Nat.ble k.2 (mBu 104).2 = true) : ∀ (m i : Nat), n = i + m →
    zd S 104 16 [some (.ref 76), some (.long (lN v)), none, some (.int (nI n)), some (.int (nI i)), none] [] I J k = if lA v n i m = true then zd S 104 46 [some (.ref 76), some (.long (lN v)), none, some (.int (nI n)), some (.int (nI 0)), none] [] I J k else some (some (.int (-1)), mk I J, k) := by
  intro m
  induction m with
  | zero =>
    intro i hm
    have hi : n = i := by omega
    subst hi
    rw [B104_16, if_pos (nI_le (Nat.le_refl _) (by omega)), B104_43, if_pos (show lA v n n 0 = true from rfl)]
    rfl
  | succ m ih =>
    intro i hm
    rw [B104_16, if_neg (nI_ge (by omega) (by omega)), B104_22 hb (s97 hv hn (by omega)), B104_29 hb (s95n (byt_lt _ _ _)), B104_32, show lA v n i (m + 1) = (isN (byt v n i) && lA v n (i + 1) m) from rfl]
    cases h : isN (byt v n i) with
    | false => rw [if_neg (by decide), B104_35, if_neg (by simp)]
    | true => rw [if_pos (by decide), B104_37, nI_1, ih (i + 1) (by omega), Bool.true_and]
theorem g104_w {v n : Nat} (hv : v < 2 ^ 64) (hn : n ≤ 8) (hb : Nat.ble k.1 (mBu 104).1 = true ∧ Nat.ble k.2 (mBu 104).2 = true) : ∀ (m i : Nat), n = i + m →
    zd S 104 46 [some (.ref 76), some (.long (lN v)), none, some (.int (nI n)), some (.int (nI i)), none] [] (uc I 82 (fedA (I 82) v n 1 i)) J k = zd S 104 74 [some (.ref 76), some (.long (lN v)), none, some (.int (nI n)), some (.int (nI n)), none] [] (uc I 82 (fedA (I 82) v n 1 n)) J k := by
  intro m
  induction m with
  | zero =>
    intro i hm
    have hi : n = i := by omega
    subst hi
    rw [B104_46, if_pos (nI_le (Nat.le_refl _) (by omega))]
  | succ m ih =>
    intro i hm
    have e1 : 1 + nI i = nI (1 + i) := nI_add 1 i
    rw [B104_46, if_neg (nI_ge (by omega) (by omega)), B104_52 hb (s97 hv hn (by omega)), e1, B104_67 (zin_n (by omega) (by decide)), B104_68, nI_1, nI_clamp (by omega), u2uc, fedA_s]
    exact ih (i + 1) (by omega)
theorem s104 {P v : Nat} {pn pk pv : Nat → Nat} (x : Int32) (hv : v < 2 ^ 64) (hO : okP P pn pk pv) (hM : mPat I P pn pk pv) :
    ∃ g h : Nat → Int32, zq S 104 [.ref 76, .long (lN v), .int x] I J (some (.int (cutR pn pk pv P v x))) (uc (uc I 82 g) 83 h) J := by
  have hid : uc (uc I 82 (I 82)) 83 (I 83) = I := by rw [uc_id, uc_id]
  by_cases h1 : x < 1
  · refine ⟨I 82, I 83, zq_of rfl ?_⟩
    show zd S 104 0 [some (.ref 76), some (.long (lN v)), none, some (.int x), none, none] [] I J (0, 0) = _
    unfold cutR
    rw [B104_0, if_pos h1, B104_11, hid, if_pos (Or.inl h1)]
  · by_cases h2 : x ≤ 8
    · obtain ⟨n, n1, n8, rfl⟩ := le8 h1 h2
      have hn : (nI n).toNatClampNeg = n := nI_clamp (by omega)
      have hl := g104_l (S := S) (I := I) (J := J) (k := (0, 0)) hv n8 ⟨rfl, rfl⟩ n 0 (by omega)
      have hgo : ∀ I' r, zd S 104 16 [some (.ref 76), some (.long (lN v)), none, some (.int (nI n)), some (.int (nI 0)), none] [] I J (0, 0) = some (r, mk I' J, (0, 0)) → zq S 104 [.ref 76, .long (lN v), .int (nI n)] I J r I' J := by
        intro I' r h
        refine zq_of rfl ?_
        show zd S 104 0 [some (.ref 76), some (.long (lN v)), none, some (.int (nI n)), none, none] [] I J (0, 0) = _
        rw [B104_0, if_neg h1, B104_5, if_pos h2, B104_13]
        exact h
      have hneg : ¬ (nI n < 1 ∨ ¬ nI n ≤ 8) := fun z => z.elim h1 (fun y => y h2)
      unfold cutR
      rw [if_neg hneg, hn]
      cases hc : lA v n 0 n with
      | false =>
        refine ⟨I 82, I 83, hgo _ _ ?_⟩
        rw [hl, hc, if_neg (by decide), if_neg (by decide), hid]
      | true =>
        have hw := g104_w (S := S) (I := I) (J := J) (k := (0, 0)) hv n8 ⟨rfl, rfl⟩ n 0 (by omega)
        rw [fedA_0, uc_id] at hw
        have ht : ∀ i, i < n → (uc I 82 (fedA (I 82) v n 1 n)) 82 (i + 1) = nI ((fun i => byt v n i) i) := by
          intro i hi
          rw [uc_s]
          unfold fedA
          rw [if_pos (by omega), Nat.add_sub_cancel]
        have h102 := s102 (S := S) (I := uc I 82 (fedA (I 82) v n 1 n)) (J := J) (L := n) (P := P) (pn := pn) (pk := pk) (pv := pv) (t := fun i => byt v n i) (fun i => byt_lt v n i) (by omega) hO (mPat_u hM (by decide) (by decide) (by decide) (by decide)) ht
        have euc : ∀ f g : Nat → Int32, uc (uc I 82 f) 82 g = uc I 82 g := by
          intro f g
          funext b
          unfold uc
          by_cases hb : b = 82
          · rw [if_pos hb, if_pos hb]
          · rw [if_neg hb, if_neg hb, if_neg hb]
        rw [euc] at h102
        have h83 : ∀ (G : Nat → Nat) (A : zI) (f : Nat → Int32), ∀ q, q < 15 → (uc A 83 (gI G f)) 83 q = nI (G q) := by
          intro G A f q hq
          rw [uc_s, gI_at hq]
        refine ⟨dotA ((uc I 82 (fedA (I 82) v n 1 n)) 82) n, gI (gal (dw (fun i => byt v n i) n) pn pk pv P (n + 2)) ((uc I 82 (fedA (I 82) v n 1 n)) 83), hgo _ _ ?_⟩
        have hs := g104_s (S := S) (I := uc (uc I 82 (dotA ((uc I 82 (fedA (I 82) v n 1 n)) 82) n)) 83 (gI (gal (dw (fun i => byt v n i) n) pn pk pv P (n + 2)) ((uc I 82 (fedA (I 82) v n 1 n)) 83))) (J := J) (k := (0, 0)) (n := n) (g := gal (dw (fun i => byt v n i) n) pn pk pv P (n + 2)) (by omega) (gal_lt _) (h83 _ _ _) ⟨rfl, rfl⟩ (n - 1) 1 0 (some (.long (lN v))) (by omega)
        rw [smc_1 n1, Nat.zero_add] at hs
        rw [hl, hc, if_pos rfl, if_pos rfl, hw, B104_74 ⟨rfl, rfl⟩ h102, B104_79]
        exact hs
    · refine ⟨I 82, I 83, zq_of rfl ?_⟩
      show zd S 104 0 [some (.ref 76), some (.long (lN v)), none, some (.int x), none, none] [] I J (0, 0) = _
      unfold cutR
      rw [B104_0, if_neg h1, B104_5, if_neg h2, B104_11, hid, if_pos (Or.inr h2)]
end MSUM
