/-! reading: figures, parts of a story (the other side) -/
def mR (I : zI) (e5 e6 e7 e8 : Nat → Int32) : zI := uc (uc (uc (uc I 85 e5) 86 e6) 87 e7) 88 e8
section MR
variable {I : zI} {a : Nat} {w : Int32} {f g p q e5 e6 e7 e8 : Nat → Int32} {T : Nat → Nat} {N : Nat}
theorem mA_c (c e : Nat) (x : Int32) (h1 : Nat.beq c 76 = false) (h1' : Nat.beq 76 c = false) (h2 : Nat.beq c 89 = false) (h3 : Nat.beq c 90 = false) (h4 : Nat.beq c 91 = false) (h5 : Nat.beq c 92 = false) : u2 (mA I a w f g p q) c e x = mA (u2 I c e x) a w f g p q := by
  unfold mA
  rw [u2_uc h5, u2_uc h4, u2_uc h3, u2_uc h2, u2_uc h1, u2n h1']
theorem mA_o (c : Nat) (h1 : Nat.beq c 76 = false) (h2 : Nat.beq c 89 = false) (h3 : Nat.beq c 90 = false) (h4 : Nat.beq c 91 = false) (h5 : Nat.beq c 92 = false) : mA I a w f g p q c = I c := by
  unfold mA
  rw [ucn h5, ucn h4, ucn h3, ucn h2, ucn h1]
theorem mR_85 (s : Nat) (x : Int32) : u2 (mA (mR I e5 e6 e7 e8) a w f g p q) 85 s x = mA (mR I (upd e5 s x) e6 e7 e8) a w f g p q := by
  rw [mA_c _ _ _ rfl rfl rfl rfl rfl rfl]
  congr 1
  unfold mR
  rw [u2_uc rfl, u2_uc rfl, u2_uc rfl, u2uc]
theorem mR_86 (s : Nat) (x : Int32) : u2 (mA (mR I e5 e6 e7 e8) a w f g p q) 86 s x = mA (mR I e5 (upd e6 s x) e7 e8) a w f g p q := by
  rw [mA_c _ _ _ rfl rfl rfl rfl rfl rfl]
  congr 1
  unfold mR
  rw [u2_uc rfl, u2_uc rfl, u2uc]
theorem mR_87 (s : Nat) (x : Int32) : u2 (mA (mR I e5 e6 e7 e8) a w f g p q) 87 s x = mA (mR I e5 e6 (upd e7 s x) e8) a w f g p q := by
  rw [mA_c _ _ _ rfl rfl rfl rfl rfl rfl]
  congr 1
  unfold mR
  rw [u2_uc rfl, u2uc]
theorem mR_88 (s : Nat) (x : Int32) : u2 (mA (mR I e5 e6 e7 e8) a w f g p q) 88 s x = mA (mR I e5 e6 e7 (upd e8 s x)) a w f g p q := by
  rw [mA_c _ _ _ rfl rfl rfl rfl rfl rfl]
  congr 1
  unfold mR
  rw [u2uc]
theorem mR_r86 : mA (mR I e5 e6 e7 e8) a w f g p q 86 = e6 := by
  rw [mA_o _ rfl rfl rfl rfl rfl]
  unfold mR
  rw [ucn rfl, ucn rfl, uc_s]
theorem mR_r88 : mA (mR I e5 e6 e7 e8) a w f g p q 88 = e8 := by
  rw [mA_o _ rfl rfl rfl rfl rfl]
  unfold mR
  rw [uc_s]
theorem mR_tx (hx : mTx I T N) : mTx (mR I e5 e6 e7 e8) T N := by
  obtain ⟨h2, h5, hN⟩ := hx
  unfold mR
  refine ⟨?_, ?_, hN⟩
  · rw [ucn rfl, ucn rfl, ucn rfl, ucn rfl]; exact h2
  · rw [ucn rfl, ucn rfl, ucn rfl, ucn rfl]; exact h5
end MR
theorem wsL_len {T : Nat → Nat} {N : Nat} : ∀ (m a : Nat), (wsL T N m a).length ≤ m
  | 0, _ => Nat.le_refl _
  | m + 1, a => by
    show (rn T N a 12 :: (if ch T N (a + rn T N a 12) = 32 then wsL T N m (a + rn T N a 12 + 1) else [])).length ≤ m + 1
    rw [List.length_cons]
    split
    · have := wsL_len (T := T) (N := N) m (a + rn T N a 12 + 1)
      omega
    · rw [List.length_nil]
      omega
theorem wsL_sum {T : Nat → Nat} {N : Nat} : ∀ (m a : Nat), (wsL T N m a).sum ≤ 12 * m
  | 0, _ => Nat.le_refl _
  | m + 1, a => by
    show (rn T N a 12 :: (if ch T N (a + rn T N a 12) = 32 then wsL T N m (a + rn T N a 12 + 1) else [])).sum ≤ 12 * (m + 1)
    rw [List.sum_cons]
    have hr := rn_le (T := T) (N := N) 12 a
    split
    · have := wsL_sum (T := T) (N := N) m (a + rn T N a 12 + 1)
      omega
    · rw [List.sum_nil]
      omega
/-- row P holds the words that stand from a on, M at most -/
def parD (T : Nat → Nat) (N : Nat) (f g p q : Nat → Int32) (P M a : Nat) : Prop := p P = nI (wsL T N M a).length ∧ q P = nI (wsL T N M a).sum ∧ (∀ j, j < (wsL T N M a).length → g (16 * P + j) = nI ((wsL T N M a).take (j + 1)).sum) ∧ (∀ i, i < (wsL T N M a).sum → f (192 * P + i) = nI (wsC T N M a i))
/-- row P is as it was -/
def parS (f g p q f' g' p' q' : Nat → Int32) (P : Nat) : Prop := p' P = p P ∧ q' P = q P ∧ (∀ j, j < 16 → g' (16 * P + j) = g (16 * P + j)) ∧ (∀ i, i < 192 → f' (192 * P + i) = f (192 * P + i))
theorem parS_r {f g p q : Nat → Int32} {P : Nat} : parS f g p q f g p q P := ⟨rfl, rfl, fun _ _ => rfl, fun _ _ => rfl⟩
theorem parS_t {f g p q f' g' p' q' f2 g2 p2 q2 : Nat → Int32} {P : Nat} (h1 : parS f g p q f' g' p' q' P) (h2 : parS f' g' p' q' f2 g2 p2 q2 P) : parS f g p q f2 g2 p2 q2 P :=
  ⟨h2.1.trans h1.1, h2.2.1.trans h1.2.1, fun j hj => (h2.2.2.1 j hj).trans (h1.2.2.1 j hj), fun i hi => (h2.2.2.2 i hi).trans (h1.2.2.2 i hi)⟩
theorem parS_F {f g p q f' g' p' q' : Nat → Int32} {P P' : Nat} (h : wF P 0 0 f g p q f' g' p' q') (hp : P' ≠ P) : parS f g p q f' g' p' q' P' := by
  obtain ⟨h1, h2, h3, h4⟩ := h
  refine ⟨h3 _ hp, h4 _ hp, ?_, ?_⟩
  · intro j hj
    exact h2 _ (by omega)
  · intro i hi
    exact h1 _ (by omega)
theorem parD_S {T : Nat → Nat} {N : Nat} {f g p q f' g' p' q' : Nat → Int32} {P M a : Nat} (hM : M ≤ 16) (h : parD T N f g p q P M a) (hs : parS f g p q f' g' p' q' P) : parD T N f' g' p' q' P M a := by
  obtain ⟨h1, h2, h3, h4⟩ := h
  obtain ⟨s1, s2, s3, s4⟩ := hs
  have hl := wsL_len (T := T) (N := N) M a
  have hm := wsL_sum (T := T) (N := N) M a
  refine ⟨s1.trans h1, s2.trans h2, ?_, ?_⟩
  · intro j hj
    rw [s3 j (by omega)]
    exact h3 j hj
  · intro i hi
    rw [s4 i (by omega)]
    exact h4 i hi
theorem parD_D {T : Nat → Nat} {N P M a a' : Nat} {f' g' p' q' : Nat → Int32} (h : wD T N P 0 0 M a a' f' g' p' q') : parD T N f' g' p' q' P M a := by
  obtain ⟨-, h2, h3, h4, h5⟩ := h
  rw [Nat.zero_add] at h2 h3
  refine ⟨h2, h3, ?_, ?_⟩
  · intro j hj
    have := h4 j hj
    rw [Nat.add_zero, Nat.zero_add] at this
    exact this
  · intro i hi
    have := h5 i hi
    rw [Nat.add_zero] at this
    exact this
/-- story s as it was read so far -/
def mSt (T : Nat → Nat) (N : Nat) (f g p q e6 e7 e8 : Nat → Int32) (s qn fc fr : Nat) (Fs : Nat → Nat) : Prop := e6 s = nI fc ∧ e7 s = nI fr ∧ e8 s = nI qn ∧ (∀ x, x < qn → parD T N f g p q (4 * s + x) 16 (Fs x))
def frM (s : Nat) (f g p q e6 e7 e8 f' g' p' q' e6' e7' e8' : Nat → Int32) : Prop := (∀ x, x ≠ s → e6' x = e6 x ∧ e7' x = e7 x ∧ e8' x = e8 x) ∧ (∀ P, P < 4 * s ∨ 4 * s + 4 ≤ P → parS f g p q f' g' p' q' P)
def ptW (T : Nat → Nat) (N q fc a : Nat) : Int32 := if ptB T N q fc a = true then -1 else nI (ptA T N q fc a)
def figW (T : Nat → Nat) (N a : Nat) : Int32 := if figB T N a = true then -1 else nI (figA T N a)
section MPART
variable {S : Nat × (Nat → Int32)} {I : zI} {J : zJ} {k : zK} {T : Nat → Nat} {N s : Nat} {f g p q e5 e6 e7 e8 : Nat → Int32}
theorem s112 {a : Nat} (hs : s < 4) (hx : mTx I T N) (ha : a ≤ N) (h0 : e6 s = 0) : ∃ (a' : Nat) (x y : Int32), zq S 112 [.ref 76, .int (nI s)] (mA (mR I e5 e6 e7 e8) a (-1) f g p q) J none (mA (mR I e5 (upd e6 s x) (upd e7 s y) e8) a' (figW T N a) f g p q) J
    ∧ (figB T N a = true → a' = figA T N a ∧ x = nI (ch T N (a + 1) - 48) ∧ y = nI (ch T N (a + 2) - 48)) ∧ a' < 2 ^ 31 := by
  have hN := hx.2.2.1
  have hz : zin (nI s) 4 = true := zin_n hs (by decide)
  have hc : (nI s).toNatClampNeg = s := nI_clamp (by omega)
  have hX : mTx (mR I e5 e6 e7 e8) T N := mR_tx hx
  have dd : ∀ x, dg 1 (ch T N x) = true ↔ 49 ≤ ch T N x ∧ ch T N x ≤ 57 := by
    intro x
    unfold dg
    rw [Bool.and_eq_true, decide_eq_true_eq, decide_eq_true_eq]
  have go : ∀ (I' : zI), zd S 112 24 [some (.ref 76), some (.int (nI s)), none, none, none] [] (mA (mR I e5 e6 e7 e8) (a + 1) (-1) f g p q) J (0, 0) = some (none, mk I' J, (0, 0)) → zq S 112 [.ref 76, .int (nI s)] (mA (mR I e5 e6 e7 e8) a (-1) f g p q) J none I' J := by
    intro I' hh
    refine zq_of rfl ?_
    show zd S 112 0 [some (.ref 76), some (.int (nI s)), none, none, none] [] _ J (0, 0) = _
    rw [B112_0 hz, hc, mR_r86, h0, if_pos (by decide), B112_14, mA_a, nI_1, mA_22]
    exact hh
  have t1 := s109 (S := S) (J := J) (lo := 49) (hi := 57) (f := f) (g := g) (p := p) (q := q) hX (by omega : a + 1 < 2 ^ 31) (by decide) (by decide)
  have t2 := s109 (S := S) (J := J) (lo := 49) (hi := 57) (f := f) (g := g) (p := p) (q := q) hX (by omega : a + 2 < 2 ^ 31) (by decide) (by decide)
  have t3 := s109 (S := S) (J := J) (lo := 10) (hi := 10) (f := f) (g := g) (p := p) (q := q) hX (by omega : a + 3 < 2 ^ 31) (by decide) (by decide)
  cases d1 : dg 1 (ch T N (a + 1)) with
  | false =>
    have hn : ¬ (49 ≤ ch T N (a + 1) ∧ ch T N (a + 1) ≤ 57) := fun z => by rw [(dd _).mpr z] at d1; cases d1
    have hB : figB T N a = false := by unfold figB; rw [d1]; rfl
    have hA : figA T N a = a + 1 := by unfold figA; rw [d1, if_neg (by decide)]
    have hW : figW T N a = nI (a + 1) := by unfold figW; rw [hB, if_neg (by decide), hA]
    rw [if_neg hn] at t1
    refine ⟨a + 1, nI (ch T N (a + 1)) - 48, 0 - 48, go _ ?_, (fun z => by rw [hB] at z; cases z), by omega⟩
    rw [B112_24 ⟨rfl, rfl⟩ t1, B112_32, mA_w, if_pos (nI_pos' (by omega)), B112_51, mA_w, if_pos (nI_pos' (by omega)), B112_71 hz, hc, mR_86, B112_84 hz, hc, mR_87, B112_94, hW]
  | true =>
    have hn := (dd _).mp d1
    have hv1 := (dg_v d1).1
    rw [if_pos hn] at t1
    cases d2 : dg 1 (ch T N (a + 2)) with
    | false =>
      have hn2 : ¬ (49 ≤ ch T N (a + 2) ∧ ch T N (a + 2) ≤ 57) := fun z => by rw [(dd _).mpr z] at d2; cases d2
      have hB : figB T N a = false := by unfold figB; rw [d1, d2]; rfl
      have hA : figA T N a = a + 2 := by unfold figA; rw [d1, if_pos rfl, d2, if_neg (by decide)]
      have hW : figW T N a = nI (a + 2) := by unfold figW; rw [hB, if_neg (by decide), hA]
      rw [if_neg hn2] at t2
      refine ⟨a + 2, nI (ch T N (a + 1)) - 48, nI (ch T N (a + 2)) - 48, go _ ?_, (fun z => by rw [hB] at z; cases z), by omega⟩
      rw [B112_24 ⟨rfl, rfl⟩ t1, B112_32, mA_w, if_neg (by decide), B112_40 ⟨rfl, rfl⟩ t2, B112_48, mA_w, if_pos (nI_pos' (by omega)), B112_71 hz, hc, mR_86, B112_84 hz, hc, mR_87, B112_94, hW]
    | true =>
      have hn2 := (dd _).mp d2
      have hv2 := (dg_v d2).1
      rw [if_pos hn2] at t2
      by_cases h10 : ch T N (a + 3) = 10
      · have hB : figB T N a = true := by unfold figB; rw [d1, d2, decide_eq_true h10]; rfl
        have hA : figA T N a = a + 4 := by unfold figA; rw [d1, if_pos rfl, d2, if_pos rfl, if_pos h10]
        have hW : figW T N a = -1 := by unfold figW; rw [hB, if_pos rfl]
        have hn3 : 10 ≤ ch T N (a + 3) ∧ ch T N (a + 3) ≤ 10 := by omega
        rw [if_pos hn3] at t3
        refine ⟨a + 4, nI (ch T N (a + 1)) - 48, nI (ch T N (a + 2)) - 48, go _ ?_, (fun _ => ⟨hA.symm, hv1, hv2⟩), by omega⟩
        rw [B112_24 ⟨rfl, rfl⟩ t1, B112_32, mA_w, if_neg (by decide), B112_40 ⟨rfl, rfl⟩ t2, B112_48, mA_w, if_neg (by decide), B112_60 ⟨rfl, rfl⟩ t3, B112_68 hz, hc, mR_86, B112_84 hz, hc, mR_87, B112_94, hW]
      · have hB : figB T N a = false := by unfold figB; rw [d1, d2, decide_eq_false h10]; rfl
        have hA : figA T N a = a + 3 := by unfold figA; rw [d1, if_pos rfl, d2, if_pos rfl, if_neg h10]
        have hW : figW T N a = nI (a + 3) := by unfold figW; rw [hB, if_neg (by decide), hA]
        have hn3 : ¬ (10 ≤ ch T N (a + 3) ∧ ch T N (a + 3) ≤ 10) := by omega
        rw [if_neg hn3] at t3
        refine ⟨a + 3, nI (ch T N (a + 1)) - 48, nI (ch T N (a + 2)) - 48, go _ ?_, (fun z => by rw [hB] at z; cases z), by omega⟩
        rw [B112_24 ⟨rfl, rfl⟩ t1, B112_32, mA_w, if_neg (by decide), B112_40 ⟨rfl, rfl⟩ t2, B112_48, mA_w, if_neg (by decide), B112_60 ⟨rfl, rfl⟩ t3, B112_68 hz, hc, mR_86, B112_84 hz, hc, mR_87, B112_94, hW]
theorem s113 {a qn fc fr : Nat} {Fs : Nat → Nat} (hs : s < 4) (hx : mTx I T N) (ha : a ≤ N) (hq : qn ≤ 4) (hfc : fc ≤ 9) (hm : mSt T N f g p q e6 e7 e8 s qn fc fr Fs) :
    ∃ (a' : Nat) (f' g' p' q' e6' e7' e8' : Nat → Int32), zq S 113 [.ref 76, .int (nI s)] (mA (mR I e5 e6 e7 e8) a (-1) f g p q) J none (mA (mR I e5 e6' e7' e8') a' (ptW T N qn fc a) f' g' p' q') J
      ∧ frM s f g p q e6 e7 e8 f' g' p' q' e6' e7' e8' ∧ (ptB T N qn fc a = true → a' = ptA T N qn fc a ∧ mSt T N f' g' p' q' e6' e7' e8' s (ptQ T N qn a) (ptC T N fc a) (ptR T N fr a) (ptF T N qn a Fs)) ∧ a' < 2 ^ 31 := by
  have hN := hx.2.2.1
  have hz : zin (nI s) 4 = true := zin_n hs (by decide)
  have hc : (nI s).toNatClampNeg = s := nI_clamp (by omega)
  have hX : mTx (mR I e5 e6 e7 e8) T N := mR_tx hx
  have hch := ch_lt hx.2.2 a
  obtain ⟨m6, m7, m8, mD⟩ := hm
  have e61 : nI (ch T N a) = 61 ↔ ch T N a = 61 := nI_eq (b := 61) (by omega) (by decide)
  have frR : frM s f g p q e6 e7 e8 f g p q e6 e7 e8 := ⟨fun _ _ => ⟨rfl, rfl, rfl⟩, fun _ _ => parS_r⟩
  by_cases h61 : ch T N a = 61
  · have hB : ptB T N qn fc a = (decide (fc = 0) && figB T N a) := if_pos h61
    have hA : ptA T N qn fc a = if fc = 0 then figA T N a else a := if_pos h61
    by_cases h0 : fc = 0
    · obtain ⟨a', x, y, hz1, hd, hlt⟩ := s112 (S := S) (J := J) (e5 := e5) (e6 := e6) (e7 := e7) (e8 := e8) (f := f) (g := g) (p := p) (q := q) hs hx ha (by rw [m6, h0]; rfl)
      rw [h0] at hB hA ⊢
      rw [if_pos rfl] at hA
      rw [decide_eq_true rfl, Bool.true_and] at hB
      have hW : ptW T N qn 0 a = figW T N a := by unfold ptW figW; rw [hB, hA]
      refine ⟨a', f, g, p, q, upd e6 s x, upd e7 s y, e8, zq_of rfl ?_, ⟨fun z hzs => ⟨pk_un hzs, pk_un hzs, rfl⟩, fun _ _ => parS_r⟩, ?_, hlt⟩
      · show zd S 113 0 [some (.ref 76), some (.int (nI s))] [] _ J (0, 0) = _
        rw [B113_0 ⟨rfl, rfl⟩ (s107 hX (by omega)), B113_4, if_neg (not_not_intro (e61.mpr h61)), B113_9 ⟨rfl, rfl⟩ hz1, B113_14, hW]
      · intro hb
        rw [hB] at hb
        obtain ⟨da, dx, dy⟩ := hd hb
        unfold ptQ ptC ptR
        rw [if_pos h61, if_pos h61, if_pos h61]
        refine ⟨by rw [hA]; exact da, by rw [pk_us]; exact dx, by rw [pk_us]; exact dy, m8, ?_⟩
        intro z hzq
        have : ptF T N qn a Fs z = Fs z := if_pos h61
        rw [this]
        exact mD z hzq
    · have hB' : ptB T N qn fc a = false := by rw [hB, decide_eq_false h0]; rfl
      have hW : ptW T N qn fc a = nI a := by unfold ptW; rw [hB', if_neg (by decide), hA, if_neg h0]
      have e0 : ¬ nI fc ≤ 0 := nI_nle (by omega) (by omega)
      refine ⟨a, f, g, p, q, e6, e7, e8, zq_of rfl ?_, frR, (fun z => by rw [hB'] at z; cases z), by omega⟩
      have h112 : zq S 112 [.ref 76, .int (nI s)] (mA (mR I e5 e6 e7 e8) a (-1) f g p q) J none (mA (mR I e5 e6 e7 e8) a (nI a) f g p q) J := by
        refine zq_of rfl ?_
        show zd S 112 0 [some (.ref 76), some (.int (nI s)), none, none, none] [] _ J (0, 0) = _
        rw [B112_0 hz, hc, mR_r86, m6, if_neg e0, B112_9 ⟨rfl, rfl⟩ s108, B112_13]
      show zd S 113 0 [some (.ref 76), some (.int (nI s))] [] _ J (0, 0) = _
      rw [B113_0 ⟨rfl, rfl⟩ (s107 hX (by omega)), B113_4, if_neg (not_not_intro (e61.mpr h61)), B113_9 ⟨rfl, rfl⟩ h112, B113_14, hW]
  · have hB : ptB T N qn fc a = (decide (qn < 4) && wdK T N 16 a) := if_neg h61
    have hA : ptA T N qn fc a = if qn < 4 then (if wdK T N 16 a = true then wsA T N 16 a + 1 else wsA T N 16 a) else a := if_neg h61
    have e4 : 4 ≤ nI qn ↔ 4 ≤ qn := nI_leI (a := 4) (by decide) (by omega)
    have start : zd S 113 0 [some (.ref 76), some (.int (nI s))] [] (mA (mR I e5 e6 e7 e8) a (-1) f g p q) J (0, 0) = zd S 113 24 [some (.ref 76), some (.int (nI s))] [.int (bI (isN (ch T N a)))] (mA (mR I e5 e6 e7 e8) a (-1) f g p q) J (0, 0) := by
      rw [B113_0 ⟨rfl, rfl⟩ (s107 hX (by omega)), B113_4, if_pos (fun z => h61 (e61.mp z)), B113_17 ⟨rfl, rfl⟩ (s107 hX (by omega)), B113_21 ⟨rfl, rfl⟩ (s95x hx.2.2)]
    have fail : ptB T N qn fc a = false → ptA T N qn fc a = a → zd S 113 0 [some (.ref 76), some (.int (nI s))] [] (mA (mR I e5 e6 e7 e8) a (-1) f g p q) J (0, 0) = zd S 113 66 [some (.ref 76), some (.int (nI s))] [] (mA (mR I e5 e6 e7 e8) a (-1) f g p q) J (0, 0) →
        ∃ (a' : Nat) (f' g' p' q' e6' e7' e8' : Nat → Int32), zq S 113 [.ref 76, .int (nI s)] (mA (mR I e5 e6 e7 e8) a (-1) f g p q) J none (mA (mR I e5 e6' e7' e8') a' (ptW T N qn fc a) f' g' p' q') J
      ∧ frM s f g p q e6 e7 e8 f' g' p' q' e6' e7' e8' ∧ (ptB T N qn fc a = true → a' = ptA T N qn fc a ∧ mSt T N f' g' p' q' e6' e7' e8' s (ptQ T N qn a) (ptC T N fc a) (ptR T N fr a) (ptF T N qn a Fs)) ∧ a' < 2 ^ 31 := by
      intro hB' hA' hgo
      have hW : ptW T N qn fc a = nI a := by unfold ptW; rw [hB', if_neg (by decide), hA']
      refine ⟨a, f, g, p, q, e6, e7, e8, zq_of rfl ?_, frR, (fun z => by rw [hB'] at z; cases z), by omega⟩
      show zd S 113 0 [some (.ref 76), some (.int (nI s))] [] _ J (0, 0) = _
      rw [hgo, B113_66 ⟨rfl, rfl⟩ s108, B113_70, hW]
    cases hl : isN (ch T N a) with
    | false =>
      have h0 : rn T N a 12 = 0 := by
        have := rn_pos (T := T) (N := N) (a := a)
        rw [hl] at this
        by_cases hp0 : 0 < rn T N a 12
        · exact absurd (this.mp hp0) (by decide)
        · omega
      have hok : wOk T N a = false := by unfold wOk; rw [h0]; rfl
      have hk : wdK T N 16 a = false := by unfold wdK wsB; rw [hok]; rfl
      have hA16 : wsA T N 16 a = a := by
        unfold wsA
        have hcc : ¬ (false = true ∧ ch T N (a + rn T N a 12) = 32) := fun z => Bool.false_ne_true z.1
        rw [hok, if_neg hcc, h0]
        rfl
      refine fail ?_ ?_ ?_
      · rw [hB, hk, Bool.and_false]
      · rw [hA, hk, if_neg Bool.false_ne_true, hA16]
        split <;> rfl
      · rw [start, hl, B113_24, if_pos ((bI_0 _).mpr rfl)]
    | true =>
      by_cases h4 : qn < 4
      · obtain ⟨a', f', g', p', q', hE, hF, hD, hlt⟩ := s111 (S := S) (J := J) (I := mR I e5 e6 e7 e8) (P := 4 * s + qn) (M := 16) (a := a) (f := f) (g := g) (p := p) (q := q) (by decide) hX (by omega) ha
        have eP : 4 * nI s + nI qn = nI (4 * s + qn) := by rw [show (4 : Int32) = nI 4 from rfl, pk_mul, nI_add]
        have h111 : zq S 111 [.ref 76, .int (4 * nI s + (mA (mR I e5 e6 e7 e8) a (-1) f g p q) 88 (nI s).toNatClampNeg), .int 16] (mA (mR I e5 e6 e7 e8) a (-1) f g p q) J none (mA (mR I e5 e6 e7 e8) a' (wdsW T N 16 a) f' g' p' q') J := by
          rw [hc, mR_r88, m8, eP]
          exact hE
        rw [decide_eq_true h4, Bool.true_and] at hB
        rw [if_pos h4] at hA
        have hW : ptW T N qn fc a = wdsW T N 16 a := by
          unfold ptW wdsW
          rw [hB, hA]
          cases wdK T N 16 a with
          | true => rfl
          | false => rw [if_neg (by decide), if_neg (by decide), if_neg (by decide)]
        refine ⟨a', f', g', p', q', e6, e7, upd e8 s (nI (qn + 1)), zq_of rfl ?_, ⟨fun z hzs => ⟨rfl, rfl, pk_un hzs⟩, fun P hP => parS_F hF (by omega)⟩, ?_, hlt⟩
        · show zd S 113 0 [some (.ref 76), some (.int (nI s))] [] _ J (0, 0) = _
          rw [start, hl, B113_24, if_neg (by decide), B113_27 hz, hc, mR_r88, m8, if_neg (fun z => by have := e4.mp z; omega), B113_37 ⟨rfl, rfl⟩ hz h111, B113_53 hz hz, hc, mR_r88, m8, nI_1, mR_88, B113_63, hW]
        · intro hb
          rw [hB] at hb
          have hd := hD hb
          unfold ptQ ptC ptR
          rw [if_neg h61, if_neg h61, if_neg h61]
          refine ⟨by rw [hA, if_pos hb]; exact hd.1, m6, m7, pk_us, ?_⟩
          intro z hzq
          by_cases hzz : z = qn
          · have : ptF T N qn a Fs z = a := by
              unfold ptF
              rw [if_neg h61, if_pos hzz]
            rw [this, hzz]
            exact parD_D hd
          · have : ptF T N qn a Fs z = Fs z := by
              unfold ptF
              rw [if_neg h61, if_neg hzz]
            rw [this]
            exact parD_S (by decide) (mD z (by omega)) (parS_F hF (by omega))
      · refine fail ?_ ?_ ?_
        · rw [hB, decide_eq_false h4]; rfl
        · rw [hA, if_neg h4]
        · rw [start, hl, B113_24, if_neg (by decide), B113_27 hz, hc, mR_r88, m8, if_pos (e4.mpr (by omega))]
end MPART
