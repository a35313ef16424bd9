/-! cuts of the other side -/
/-- the patterns, as either side keeps them -/
def okP (P : Nat) (pn pk pv : Nat → Nat) : Prop := P ≤ 20 ∧ (∀ p, p < P → rowN (pk p) (pn p)) ∧ (∀ p, p < P → pv p < 2 ^ 64)
def cPat (I : zI) (J : zJ) (P : Nat) (pn pk pv : Nat → Nat) : Prop := I 56 4 = nI P ∧ (∀ p, p < P → I 59 p = nI (pn p)) ∧ (∀ p, p < P → J 57 p = lN (pk p)) ∧ (∀ p, p < P → J 58 p = lN (pv p))
def mPat (I : zI) (P : Nat) (pn pk pv : Nat → Nat) : Prop := I 76 5 = nI P ∧ (∀ p, p < P → I 79 p = nI (pn p)) ∧ (∀ p, p < P → ∀ i, i < pn p → I 80 (6 * p + i) = nI (byt (pk p) (pn p) i)) ∧ (∀ p, p < P → ∀ i, i < pn p + 1 → I 81 (7 * p + i) = nI (byt (pv p) (pn p + 1) i))
theorem mPat_u {I : zI} {P : Nat} {pn pk pv : Nat → Nat} {c : Nat} {f : Nat → Int32} (h : mPat I P pn pk pv) (h1 : c ≠ 76) (h2 : c ≠ 79) (h3 : c ≠ 80) (h4 : c ≠ 81) : mPat (uc I c f) P pn pk pv := by
  obtain ⟨a1, a2, a3, a4⟩ := h
  refine ⟨?_, ?_, ?_, ?_⟩
  · rw [ucn (nbeq (Ne.symm h1))]; exact a1
  · rw [ucn (nbeq (Ne.symm h2))]; exact a2
  · rw [ucn (nbeq (Ne.symm h3))]; exact a3
  · rw [ucn (nbeq (Ne.symm h4))]; exact a4
section MCUTS
variable {S : Nat × (Nat → Int32)} {I : zI} {J : zJ} {k : zK}
theorem g101_l {d : Nat → Nat} {L n r pl p : Nat} (hd : ∀ i, d i < 256) (hL : L ≤ 12) (hn : n ≤ 6) (hp : p < 20) (hpl : pl + n ≤ L + 2) (h79 : I 79 p = nI n) (h80 : ∀ i, i < n → I 80 (6 * p + i) = nI (byt r n i)) (h82 : ∀ i, i < L + 2 → I 82 i = nI (d i)) : ∀ (m i : Nat), n = i + m →
    zd S 101 24 [some (.ref 76), some (.int (nI p)), some (.int (nI pl)), none, some (.int (bI true)), some (.int (nI i))] [] I J k = some (some (.int (bI (stA d n r pl i m))), mk I J, k) := by
  intro m
  have hz : zin (nI p) 20 = true := zin_n hp (by decide)
  have hq : (nI p).toNatClampNeg = p := nI_clamp (by omega)
  induction m with
  | zero =>
    intro i hm
    have hi : n = i := by omega
    subst hi
    rw [B101_24 hz, hq, h79, if_pos (nI_le (Nat.le_refl _) (by omega)), B101_77 (bI_z _)]
    rfl
  | succ m ih =>
    intro i hm
    have e6 : 6 * nI p + nI i = nI (6 * p + i) := by rw [show (6 : Int32) = nI 6 from rfl, pk_mul, nI_add]
    have ee : nI (d (pl + i)) = nI (byt r n i) ↔ d (pl + i) = byt r n i := nI_eq (by have := hd (pl + i); omega) (by have := byt_lt r n i; omega)
    rw [B101_24 hz, hq, h79, if_neg (nI_ge (by omega) (by omega)), B101_35, if_neg (by decide), B101_40 (by rw [nI_add]; exact zin_n (by omega) (by decide)) (by rw [e6]; exact zin_n (by omega) (by decide)), e6, nI_add, nI_clamp (by omega), nI_clamp (by omega), h82 _ (by omega), h80 _ (by omega)]
    show _ = some (some (Value.int (bI (decide (d (pl + i) = byt r n i) && stA d n r pl (i + 1) m))), mk I J, k)
    by_cases h : d (pl + i) = byt r n i
    · rw [if_neg (not_not_intro (ee.mpr h)), B101_64, nI_1, show (1 : Int32) = bI true from rfl, ih (i + 1) (by omega), decide_eq_true h]
      rfl
    · rw [if_pos (fun z => h (ee.mp z)), B101_68, B101_24 hz, hq, h79, decide_eq_false h]
      by_cases hx : nI n ≤ nI i + 1
      · rw [if_pos hx, B101_77 rfl]; rfl
      · rw [if_neg hx, B101_35, if_pos rfl, B101_77 rfl]; rfl
theorem s101 {d : Nat → Nat} {L n r pl p : Nat} (hd : ∀ i, d i < 256) (hL : L ≤ 12) (n1 : 1 ≤ n) (hn : n ≤ 6) (hp : p < 20) (hpl : pl < L + 2) (h79 : I 79 p = nI n) (h80 : ∀ i, i < n → I 80 (6 * p + i) = nI (byt r n i)) (h82 : ∀ i, i < L + 2 → I 82 i = nI (d i)) :
    zq S 101 [.ref 76, .int (nI p), .int (nI pl), .int (nI L)] I J (some (.int (bI (st d L n r pl)))) I J := by
  refine zq_of rfl ?_
  show zd S 101 0 [some (.ref 76), some (.int (nI p)), some (.int (nI pl)), some (.int (nI L)), none, none] [] I J (0, 0) = _
  have hz : zin (nI p) 20 = true := zin_n hp (by decide)
  have hq : (nI p).toNatClampNeg = p := nI_clamp (by omega)
  have e2 : nI L + 2 < nI pl + nI n ↔ L + 2 < pl + n := by rw [(nI_k L).2.1, nI_add]; exact nI_ltI (by omega) (by omega)
  unfold st
  rw [B101_0 hz, hq, h79]
  by_cases h : L + 2 < pl + n
  · rw [if_pos (e2.mpr h), B101_18, B101_24 hz, hq, h79, if_neg (nI_nle (by omega : 0 < n) (by omega)), B101_35, if_pos rfl, B101_77 rfl, decide_eq_false (by omega : ¬ pl + n ≤ L + 2)]
    rfl
  · rw [if_neg (fun z => h (e2.mp z)), B101_14, decide_eq_true (by omega : pl + n ≤ L + 2), Bool.true_and]
    exact g101_l hd hL hn hp (by omega) h79 h80 h82 n 0 (by omega)
/-- the values of one pattern at one place -/
theorem g102_i {L p pl n u : Nat} {g : Nat → Nat} {f : Nat → Int32} (hg : ∀ q, g q < 256) (hL : L ≤ 12) (hn : n ≤ 6) (hp : p < 20) (hpl : pl + n ≤ L + 2) (h79 : I 79 p = nI n) (h81 : ∀ i, i < n + 1 → I 81 (7 * p + i) = nI (byt u (n + 1) i)) : ∀ (m i : Nat), n + 1 = i + m →
    zd S 102 70 [some (.ref 76), some (.int (nI L)), some (.int (nI p)), some (.int (nI pl)), some (.int (bI true)), some (.int (nI i)), none] [] (uc I 83 (gI (rs g u n pl i) f)) J k
      = zd S 102 51 [some (.ref 76), some (.int (nI L)), some (.int (nI p)), some (.int (nI (pl + 1))), none, none, none] [] (uc I 83 (gI (rs g u n pl (n + 1)) f)) J k := by
  intro m
  have hz : zin (nI p) 20 = true := zin_n hp (by decide)
  have hq : (nI p).toNatClampNeg = p := nI_clamp (by omega)
  induction m with
  | zero =>
    intro i hm
    have hi : i = n + 1 := by omega
    subst hi
    rw [B102_70 hz, hq, ucn rfl, h79, if_pos (nI_lt (by omega) (by omega)), B102_143, nI_1]
  | succ m ih =>
    intro i hm
    have e7 : 7 * nI p + nI i = nI (7 * p + i) := by rw [show (7 : Int32) = nI 7 from rfl, pk_mul, nI_add]
    have hz1 : zin (7 * nI p + nI i) 140 = true := by rw [e7]; exact zin_n (by omega) (by decide)
    have hz2 : zin (nI pl + nI i) 15 = true := by rw [nI_add]; exact zin_n (by omega) (by decide)
    have hz3 : zin (nI (pl + i)) 15 = true := zin_n (by omega) (by decide)
    have c1 : (nI (7 * p + i)).toNatClampNeg = 7 * p + i := nI_clamp (by omega)
    have c2 : (nI (pl + i)).toNatClampNeg = pl + i := nI_clamp (by omega)
    have h1 : (uc I 83 (gI (rs g u n pl i) f)) 81 (7 * p + i) = nI (byt u (n + 1) i) := by rw [ucn rfl]; exact h81 i (by omega)
    have h2 : (uc I 83 (gI (rs g u n pl i) f)) 83 (pl + i) = nI (g (pl + i)) := by rw [uc_s, gI_at (by omega), rs_at]
    have hb1 := byt_lt u (n + 1) i
    have hb2 := hg (pl + i)
    have ee : nI (byt u (n + 1) i) ≤ nI (g (pl + i)) ↔ byt u (n + 1) i ≤ g (pl + i) := nI_leI (by omega) (by omega)
    have hs := rs_s g f u n pl i (by omega)
    rw [B102_70 hz, hq, ucn rfl, h79, if_neg (nI_nlt (by omega) (by omega)), B102_81, if_neg (by decide), B102_86 hz1 hz2, e7, nI_add, c1, c2, h1, h2]
    by_cases h : byt u (n + 1) i ≤ g (pl + i)
    · rw [Nat.max_eq_left h] at hs
      rw [if_pos (ee.mpr h), B102_127 hz2 hz3, nI_add, c2, h2, B102_137, nI_1, u2uc, hs]
      exact ih (i + 1) (by omega)
    · rw [Nat.max_eq_right (by omega)] at hs
      rw [if_neg (fun z => h (ee.mp z)), B102_122 hz3, c2, B102_137, nI_1, u2uc, hs]
      exact ih (i + 1) (by omega)
theorem g102_p {d : Nat → Nat} {L p n r u : Nat} {f : Nat → Int32} (hd : ∀ i, d i < 256) (hL : L ≤ 12) (n1 : 1 ≤ n) (hn : n ≤ 6) (hp : p < 20) (h79 : I 79 p = nI n) (h80 : ∀ i, i < n → I 80 (6 * p + i) = nI (byt r n i)) (h81 : ∀ i, i < n + 1 → I 81 (7 * p + i) = nI (byt u (n + 1) i)) (h82 : ∀ i, i < L + 2 → I 82 i = nI (d i)) (hb : Nat.ble k.1 (mBu 102).1 = true ∧ Nat.ble k.2 (mBu 102).2 = true) : ∀ (m pl : Nat) (g : Nat → Nat), (∀ q, g q < 256) → L + 2 = pl + m →
    zd S 102 51 [some (.ref 76), some (.int (nI L)), some (.int (nI p)), some (.int (nI pl)), none, none, none] [] (uc I 83 (gI g f)) J k
      = zd S 102 149 [some (.ref 76), some (.int (nI L)), some (.int (nI p)), some (.int (nI (L + 2))), none, none, none] [] (uc I 83 (gI (mp d L n r u pl m g) f)) J k := by
  intro m
  induction m with
  | zero =>
    intro pl g hg hm
    have hi : pl = L + 2 := by omega
    subst hi
    rw [B102_51, (nI_k L).2.1, if_pos (nI_le (Nat.le_refl _) (by omega))]
    rfl
  | succ m ih =>
    intro pl g hg hm
    have hz : zin (nI p) 20 = true := zin_n hp (by decide)
    have hq : (nI p).toNatClampNeg = p := nI_clamp (by omega)
    have h101 : zq S 101 [.ref 76, .int (nI p), .int (nI pl), .int (nI L)] (uc I 83 (gI g f)) J (some (.int (bI (st d L n r pl)))) (uc I 83 (gI g f)) J :=
      s101 hd hL n1 hn hp (by omega) ((congrFun (ucn rfl) _).trans h79) (fun i hi => (congrFun (ucn rfl) _).trans (h80 i hi)) (fun i hi => (congrFun (ucn rfl) _).trans (h82 i hi))
    rw [B102_51, (nI_k L).2.1, if_neg (nI_ge (by omega) (by omega)), B102_58 hb h101, B102_65]
    show _ = zd S 102 149 [some (.ref 76), some (.int (nI L)), some (.int (nI p)), some (.int (nI (L + 2))), none, none, none] [] (uc I 83 (gI (mp d L n r u (pl + 1) m (if st d L n r pl = true then rs g u n pl (n + 1) else g)) f)) J k
    cases hs : st d L n r pl with
    | true =>
      have hle : pl + n ≤ L + 2 := by
        unfold st at hs
        rw [Bool.and_eq_true, decide_eq_true_eq] at hs
        exact hs.1
      have hI := g102_i (S := S) (I := I) (J := J) (k := k) (u := u) (f := f) hg hL hn hp hle h79 h81 (n + 1) 0 (by omega)
      rw [rs_0] at hI
      rw [show (0 : Int32) = nI 0 from rfl, hI, if_pos rfl]
      exact ih (pl + 1) _ (fun q => rs_lt hg q) (by omega)
    | false =>
      rw [B102_70 hz, hq, ucn rfl, h79, if_neg (nI_pos (by omega : n < 2 ^ 31)), B102_81, if_pos ((bI_0 _).mpr rfl), B102_143, nI_1, if_neg (by decide)]
      exact ih (pl + 1) _ hg (by omega)
theorem g102_q {d : Nat → Nat} {L P : Nat} {pn pk pv : Nat → Nat} {f : Nat → Int32} (hd : ∀ i, d i < 256) (hL : L ≤ 12) (hO : okP P pn pk pv) (hM : mPat I P pn pk pv) (h82 : ∀ i, i < L + 2 → I 82 i = nI (d i)) (hb : Nat.ble k.1 (mBu 102).1 = true ∧ Nat.ble k.2 (mBu 102).2 = true) : ∀ (m i : Nat) (g : Nat → Nat) (o : Option Value), (∀ q, g q < 256) → P = i + m →
    zd S 102 41 [some (.ref 76), some (.int (nI L)), some (.int (nI i)), o, none, none, none] [] (uc I 83 (gI g f)) J k = some (none, mk (uc I 83 (gI (mq d L pn pk pv i m g) f)) J, k) := by
  intro m
  obtain ⟨hP, hr, hv⟩ := hO
  induction m with
  | zero =>
    intro i g o hg hm
    have hi : P = i := by omega
    subst hi
    rw [B102_41, ucn rfl, hM.1, if_pos (nI_le (Nat.le_refl _) (by omega)), B102_155]
    rfl
  | succ m ih =>
    intro i g o hg hm
    obtain ⟨n1, n6, -, -⟩ := hr i (by omega)
    rw [B102_41, ucn rfl, hM.1, if_neg (nI_ge (by omega) (by omega)), B102_49, show (0 : Int32) = nI 0 from rfl,
      g102_p hd hL n1 n6 (by omega) (hM.2.1 i (by omega)) (hM.2.2.1 i (by omega)) (hM.2.2.2 i (by omega)) h82 hb (L + 2) 0 g hg (by omega), B102_149, nI_1]
    exact ih (i + 1) _ _ (mp_lt _ _ _ hg) (by omega)
theorem g102_f {L : Nat} : ∀ (m i : Nat), 15 = i + m →
    zd S 102 20 [some (.ref 76), some (.int (nI L)), some (.int (nI i)), none, none, none, none] [] (uc I 83 (filA (I 83) 0 i)) J k = zd S 102 41 [some (.ref 76), some (.int (nI L)), some (.int (nI 0)), none, none, none, none] [] (uc I 83 (gI (fun _ => 0) (I 83))) J k := by
  intro m
  induction m with
  | zero =>
    intro i hm
    have hi : i = 15 := by omega
    subst hi
    have h15 : (15 : Int32) ≤ nI 15 := nI_le (a := 15) (Nat.le_refl _) (by decide)
    rw [B102_20, if_pos h15, B102_39]
    rfl
  | succ m ih =>
    intro i hm
    have h15 : ¬ (15 : Int32) ≤ nI i := nI_ge (b := 15) (by omega) (by decide)
    rw [B102_20, if_neg h15, B102_26 (zin_n (by omega) (by decide)), B102_33, nI_1, nI_clamp (by omega), u2uc, filA_s]
    exact ih (i + 1) (by omega)
/-- the dotted word -/
def dotA (f : Nat → Int32) (L : Nat) : Nat → Int32 := upd (upd f 0 46) (L + 1) 46
theorem dotA_at {f : Nat → Int32} {L : Nat} {t : Nat → Nat} (h : ∀ i, i < L → f (i + 1) = nI (t i)) (i : Nat) (hi : i < L + 2) : dotA f L i = nI (dw t L i) := by
  unfold dotA dw upd
  by_cases h1 : i = L + 1
  · rw [if_pos h1, if_pos (Or.inr h1)]
    rfl
  · rw [if_neg h1]
    by_cases h0 : i = 0
    · rw [if_pos h0, if_pos (Or.inl h0)]
      rfl
    · have := h (i - 1) (by omega)
      rw [show i - 1 + 1 = i from by omega] at this
      rw [if_neg h0, if_neg (by omega), this]
theorem s102 {L P : Nat} {pn pk pv t : Nat → Nat} (ht2 : ∀ i, t i < 256) (hL : L ≤ 12) (hO : okP P pn pk pv) (hM : mPat I P pn pk pv) (ht : ∀ i, i < L → I 82 (i + 1) = nI (t i)) :
    zq S 102 [.ref 76, .int (nI L)] I J none (uc (uc I 82 (dotA (I 82) L)) 83 (gI (gal (dw t L) pn pk pv P (L + 2)) (I 83))) J := by
  refine zq_of rfl ?_
  show zd S 102 0 [some (.ref 76), some (.int (nI L)), none, none, none, none, none] [] I J (0, 0) = _
  have hd : ∀ i, dw t L i < 256 := by
    intro i
    unfold dw
    split
    · decide
    · exact ht2 _
  have eM : u2 (u2 I 82 0 46) 82 (L + 1) 46 = uc I 82 (dotA (I 82) L) := by
    show u2 (uc I 82 (upd (I 82) 0 46)) 82 (L + 1) 46 = _
    rw [u2uc]
    rfl
  have h83 : (uc I 82 (dotA (I 82) L)) 83 = I 83 := ucn rfl
  have hf := g102_f (S := S) (I := uc I 82 (dotA (I 82) L)) (J := J) (k := (0, 0)) (L := L) 15 0 (by omega)
  rw [filA_0, uc_id, h83] at hf
  have hq := g102_q (S := S) (I := uc I 82 (dotA (I 82) L)) (J := J) (k := (0, 0)) (f := I 83) hd hL hO (mPat_u hM (by decide) (by decide) (by decide) (by decide)) (fun i hi => by rw [uc_s]; exact dotA_at ht i hi) ⟨rfl, rfl⟩ P 0 (fun _ => 0) none (fun _ => by show 0 < 256; decide) (by omega)
  rw [B102_0 rfl, B102_8 (by rw [nI_1]; exact zin_n (by omega) (by decide)), B102_18, nI_1, nI_clamp (by omega), show (0 : Int32).toNatClampNeg = 0 from rfl, eM, gal_mq hd hO.2.1]
  exact hf.trans hq
end MCUTS
