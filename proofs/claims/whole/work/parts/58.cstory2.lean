/-! plan: a story is broken into lines, the one side -/
def cEn (r : zE) (I : zI) (J : zJ) : Prop := I 55 1 = nI (eD r) ∧ (∀ j, j < 26 → I 1 j = nI (eW r j)) ∧ cPat I J (eP r) (en r) (ek r) (ev r) ∧ (∀ i, i < eN r → I 5 i = nI (eT r i)) ∧ I 61 0 = 0 ∧ I 62 0 = 0
def stB (r : zE) (Fs : Nat → Nat) (s p : Nat) (I : zI) (J : zJ) : Prop :=
  I (7 + 12 * s) 16 = 0 ∧ I (7 + 12 * s) 14 = (if faS r Fs p = true then 1 else 0) ∧ I (7 + 12 * s) 15 = nI (lnS r Fs p).length ∧
  (∀ j x, (lnS r Fs p)[j]? = some x → j < 40 → I (11 + 12 * s) j = nI (Fs x.1 + bpL (pL r (Fs x.1)) x.2.1) ∧ I (12 + 12 * s) j = nI (Fs x.1 + cpL (pL r (Fs x.1)) x.2.2.1) ∧ I (13 + 12 * s) j = nI (pQ r (Fs x.1) x.2.2.1)) ∧
  (∀ x, x < p → I (10 + 12 * s) x = oI ((pB r (Fs x) 0).map Prod.fst)) ∧
  (∃ b, b < 2 ^ 40 ∧ J (7 + 12 * s) 17 = lN b ∧ ((lnS r Fs p).length ≤ 40 → ∀ i, hbt b i = bdL (lnS r Fs p) i))
def fB (s : Nat) (I I' : zI) (J J' : zJ) : Prop := (∀ c, c ≠ 7 + 12 * s → c ≠ 10 + 12 * s → c ≠ 11 + 12 * s → c ≠ 12 + 12 * s → c ≠ 13 + 12 * s → c ≠ 55 → c ≠ 60 → c ≠ 61 → c ≠ 62 → c ≠ 63 → c ≠ 64 → I' c = I c) ∧ (∀ e, e ≠ 6 → I' 55 e = I 55 e) ∧ (∀ e, e ≠ 14 → e ≠ 15 → e ≠ 16 → I' (7 + 12 * s) e = I (7 + 12 * s) e) ∧ I' 61 0 = I 61 0 ∧ I' 62 0 = I 62 0 ∧ (∀ c, c ≠ 7 + 12 * s → J' c = J c)
theorem fB_t {s : Nat} {I I' I2 : zI} {J J' J2 : zJ} (h1 : fB s I I' J J') (h2 : fB s I' I2 J' J2) : fB s I I2 J J2 :=
  ⟨fun c a1 a2 a3 a4 a5 a6 a7 a8 a9 b1 b2 => (h2.1 c a1 a2 a3 a4 a5 a6 a7 a8 a9 b1 b2).trans (h1.1 c a1 a2 a3 a4 a5 a6 a7 a8 a9 b1 b2), fun e h => (h2.2.1 e h).trans (h1.2.1 e h), fun e a1 a2 a3 => (h2.2.2.1 e a1 a2 a3).trans (h1.2.2.1 e a1 a2 a3), h2.2.2.2.1.trans h1.2.2.2.1, h2.2.2.2.2.1.trans h1.2.2.2.2.1, fun c h => (h2.2.2.2.2.2 c h).trans (h1.2.2.2.2.2 c h)⟩
theorem cEn_f {r : zE} {s : Nat} {I I' : zI} {J J' : zJ} (hs : s < 4) (h : cEn r I J) (hf : fB s I I' J J') : cEn r I' J' := by
  obtain ⟨a1, a2, ⟨a3, a4, a5, a6⟩, a7, a8, a9⟩ := h
  obtain ⟨f1, f2, f3, f4, f5, f6⟩ := hf
  have g : ∀ c, c < 7 ∨ c = 56 ∨ c = 59 → I' c = I c := fun c hc => f1 c (by omega) (by omega) (by omega) (by omega) (by omega) (by omega) (by omega) (by omega) (by omega) (by omega) (by omega)
  refine ⟨(f2 1 (by decide)).trans a1, fun j hj => by rw [g 1 (by omega)]; exact a2 j hj, ⟨by rw [g 56 (by omega)]; exact a3, fun p hp => by rw [g 59 (by omega)]; exact a4 p hp, fun p hp => by rw [f6 57 (by omega)]; exact a5 p hp, fun p hp => by rw [f6 58 (by omega)]; exact a6 p hp⟩, fun i hi => by rw [g 5 (by omega)]; exact a7 i hi, f4.trans a8, f5.trans a9⟩
/-- a paragraph that was read -/
def okPa (r : zE) (a : Nat) : Prop := wdK (eT r) (eN r) 16 a = true ∧ a ≤ eN r
theorem okPa_i {r : zE} {a : Nat} (hr : okE r) (h : okPa r a) : posL (pL r a) ∧ pL r a ≠ [] ∧ txW (eT r) (pC r a) (pL r a) a 0 ∧ (pL r a).length ≤ 16 ∧ wsA (eT r) (eN r) 16 a = a + (pl r a + ((pL r a).length - 1)) ∧ a + (pl r a + ((pL r a).length - 1)) ≤ eN r ∧ eN r ≤ 480 ∧ pl r a + ((pL r a).length - 1) ≤ 207 := by
  have h1 := h.1
  unfold wdK at h1
  rw [Bool.and_eq_true] at h1
  obtain ⟨p1, p2, p3⟩ := wsB_p 16 a h1.1
  have p1' : posL (pL r a) := p1
  have p4 := posL_12 p1'
  have hN := wsA_N (T := eT r) (N := eN r) 16 a h.2
  have p2' : (pL r a).length ≤ 16 := p2
  have p3' : wsA (eT r) (eN r) 16 a = a + (pL r a).sum + ((pL r a).length - 1) := p3
  unfold pl
  refine ⟨p1', wsL_ne, ?_, p2', by omega, by omega, hr.2.2.2.1, by omega⟩
  refine txW_of 16 a 0 h1.1 (fun i _ => ?_)
  rw [Nat.zero_add]
  rfl
theorem ub_m {W T : Nat → Nat} {a : Nat} : ∀ i j, i ≤ j → ub W T a i ≤ ub W T a j := by
  intro i j h
  induction h with
  | refl => exact Nat.le_refl _
  | step _ ih => exact Nat.le_trans ih (Nat.le_add_right _ _)
theorem ub_b {W T : Nat → Nat} {a : Nat} (hW : ∀ j, j < 26 → W j ≤ 9) : ∀ i, ub W T a i ≤ 9 * i := by
  intro i
  induction i with
  | zero => exact Nat.le_refl _
  | succ i ih =>
    have : wu W (T (a + i)) ≤ 9 := by
      unfold wu
      by_cases h : isN (T (a + i)) = true
      · rw [if_pos h]
        exact hW _ (by have := (isN_i _).mp h; omega)
      · rw [if_neg h]
        decide
    show ub W T a i + wu W (T (a + i)) ≤ _
    omega
section CSTORY2
variable {S : Nat × (Nat → Int32)} {k : zK} {r : zE} {Fs : Nat → Nat} {s q : Nat}
theorem faS_s (r : zE) (Fs : Nat → Nat) (p : Nat) : faS r Fs (p + 1) = (faS r Fs p || (pB r (Fs p) 0).isNone) := rfl
theorem lnS_s (r : zE) (Fs : Nat → Nat) (p : Nat) : lnS r Fs (p + 1) = lnS r Fs p ++ (pF r (Fs p)).map (fun x => (p, x.1, x.2, pl r (Fs p))) := rfl
theorem pF_none {a : Nat} (h : pB r a 0 = none) : pF r a = [] := by
  unfold pF
  cases hl : pl r a with
  | zero => rfl
  | succ l => rw [foL_e, if_pos (by omega), h]
theorem lnS_len (hr : okE r) : ∀ p, (∀ x, x < p → okPa r (Fs x)) → (lnS r Fs p).length ≤ 192 * p := by
  intro p
  induction p with
  | zero => intro _; exact Nat.le_refl _
  | succ p ih =>
    intro h
    have h1 := ih (fun x hx => h x (by omega))
    have h2 := okPa_i hr (h p (by omega))
    have h3 := foL_len (pB_g hr h2.1 h2.2.1) (pl r (Fs p)) 0 (Nat.zero_le _)
    have h4 := posL_12 h2.1
    rw [lnS_s, List.length_append, List.length_map]
    unfold pF
    have h5 : pl r (Fs p) = (pL r (Fs p)).sum := rfl
    omega
theorem g24_p {p : Nat} (hs : s < 4) (hr : okE r) (hq : q ≤ 4) (hp : p < q) (hPa : ∀ x, x < q → okPa r (Fs x)) (hb : Nat.ble k.1 (mBu 24).1 = true ∧ Nat.ble k.2 (mBu 24).2 = true) {I : zI} {J : zJ} (hE : cEn r I J) (h8 : ∀ x, x < q → I (8 + 12 * s) x = nI (Fs x)) (h9 : ∀ x, x < q → I (9 + 12 * s) x = nI (wsA (eT r) (eN r) 16 (Fs x))) (hst : stB r Fs s p I J) :
    ∃ I' J', zd S 24 16 [some (.ref 55), some (.ref (7 + 12 * s)), some (.ref 5), some (.ref 1), some (.int (nI p)), none] [] I J k = zd S 24 7 [some (.ref 55), some (.ref (7 + 12 * s)), some (.ref 5), some (.ref 1), some (.int (nI (p + 1))), none] [] I' J' k ∧ fB s I I' J J' ∧ stB r Fs s (p + 1) I' J' := by
  obtain ⟨E1, E2, E3, E4, E5, E6⟩ := hE
  have hPp := hPa p hp
  generalize haa : Fs p = a at hPp
  obtain ⟨P1, P2, P3, P4, P5, P6, P7, P8⟩ := okPa_i hr hPp
  generalize hnt : pl r a + ((pL r a).length - 1) = nt at P5 P6 P8
  have ok : okB (pl r a) nt (pQ r a) (cpL (pL r a)) (bpL (pL r a)) := by
    rw [← hnt]
    exact okB_L P1 P2
  have hz4 : zin (nI p) 4 = true := zin_n (by omega) (by decide)
  have hcp : (nI p).toNatClampNeg = p := nI_clamp (by omega)
  have hT : ∀ i, i < nt → eT r (a + i) < 256 := by
    intro i hi
    have h3 : a + i < eN r := by omega
    have := (okT_i _).mp (hr.2.2.2.2 (a + i) h3)
    omega
  -- 16: the length
  have hlen : (if (207 : Int32) < I (9 + 12 * s) p - I (8 + 12 * s) p then (207 : Int32) else I (9 + 12 * s) p - I (8 + 12 * s) p) = nI nt := by
    rw [h9 p hp, h8 p hp, haa, P5, pk_sub (by omega), show a + nt - a = nt by omega]
    exact if_neg (nI_nlt (a := 207) (b := nt) (by omega) (by omega))
  generalize hI1 : u2 I 55 6 (nI nt) = I1
  have i1o : ∀ c, c ≠ 55 → I1 c = I c := fun c h => by rw [← hI1, u2n (nbeq h)]
  have i1f : ∀ e, e ≠ 6 → I1 55 e = I 55 e := fun e h => by rw [← hI1, u2ne h]
  have i16 : I1 55 6 = nI nt := by rw [← hI1, u2s]
  have h5 : ∀ i, i < nt → I1 5 (a + i) = nI (eT r (a + i)) := fun i hi => by rw [i1o 5 (by decide)]; exact E4 _ (by omega)
  -- 25
  have q25 := s25 (S := S) (I := I1) (J := J) (W := eW r) (T := eT r) (a := a) (L := nt) P8 (by omega) i16 (by rw [i1o 61 (by decide)]; exact E5) h5 hT (fun j hj => by rw [i1o 1 (by decide)]; exact E2 j hj)
  generalize hI2 : uc I1 61 (ubA (I1 61) (eW r) (eT r) a nt) = I2 at q25
  have i2o : ∀ c, c ≠ 61 → I2 c = I1 c := fun c h => by rw [← hI2, ucn (nbeq h)]
  have i2u : ∀ t, t ≤ nt → I2 61 t = nI (ub (eW r) (eT r) a t) := fun t ht => by rw [← hI2, uc_s]; exact if_pos ht
  -- 26
  have hP2 : cPat I2 J (eP r) (en r) (ek r) (ev r) := ⟨by rw [i2o 56 (by decide), i1o 56 (by decide)]; exact E3.1, fun p hp => by rw [i2o 59 (by decide), i1o 59 (by decide)]; exact E3.2.1 p hp, E3.2.2.1, E3.2.2.2⟩
  obtain ⟨I3, q26, i3o, i30, i3c, i3b⟩ := s26 (S := S) (I := I2) (J := J) (L := pL r a) (c := pC r a) (T := eT r) (a := a) (nt := nt) P1 P2 P3 hnt.symm P8 (by omega) (by rw [i2o 55 (by decide)]; exact i16) (fun i hi => by rw [i2o 5 (by decide)]; exact h5 i hi) hT hr.2.2.1 hP2
  -- 28
  have hux := ub_x (W := eW r) (T := eT r) (c := pC r a) (a := a) ok (fun j hj => by have := tx_b (pL r a) a 0 j P3 P1 hj; rwa [Nat.zero_add] at this) (fun j _ hj hq => tx_c (pL r a) a 0 0 j P3 P1 hq)
  have h62 : I3 62 0 = 0 := by rw [i30, i2o 62 (by decide), i1o 62 (by decide)]; exact E6
  have hub := ub_b (W := eW r) (T := eT r) (a := a) (fun j hj => (hr.2.1 j hj).2) nt
  have h12 := posL_12 P1
  have hpl : pl r a = (pL r a).sum := rfl
  obtain ⟨I4, q28, i4o, i4v⟩ := s28 (S := S) (I := I3) (J := J) (D := eD r) (xb := pxb r a) (xc := pxc r a) (U := ub (eW r) (eT r) a) ok (by omega) P8 hr.1.2
    (by rw [i3o 55 (by decide) (by decide), i2o 55 (by decide), i1f 1 (by decide)]; exact E1) (by rw [i3o 55 (by decide) (by decide), i2o 55 (by decide)]; exact i16) (fun t ht => by rw [i3o 61 (by decide) (by decide)]; exact i2u t ht) ub_m (by omega) (fun j hj => (hux j).1 hj) (fun j j0 hj => (hux j).2 j0 hj) i3c i3b h62
  -- the cost is kept
  generalize hI5 : u2 I4 (10 + 12 * s) p (oI ((bsL (eD r) (pl r a) (pxb r a) (pxc r a) (pQ r a) 0).map Prod.fst)) = I5
  have i5o : ∀ c, c ≠ 10 + 12 * s → I5 c = I4 c := fun c h => by rw [← hI5, u2n (nbeq h)]
  have i5p : I5 (10 + 12 * s) p = oI ((pB r a 0).map Prod.fst) := by rw [← hI5, u2s]; rfl
  have i5q : ∀ x, x ≠ p → I5 (10 + 12 * s) x = I4 (10 + 12 * s) x := fun x h => by rw [← hI5, u2ne h]
  have o45 : ∀ c, c ≠ 10 + 12 * s → c ≠ 55 → c ≠ 60 → c ≠ 61 → c ≠ 62 → c ≠ 63 → c ≠ 64 → I5 c = I c := fun c a1 a2 a3 a4 a5 a6 a7 => by rw [i5o c a1, i4o c a6 a7, i3o c a3 a5, i2o c a4, i1o c a2]
  have o55 : ∀ e, e ≠ 6 → I5 55 e = I 55 e := fun e h => by rw [i5o 55 (by omega), i4o 55 (by decide) (by decide), i3o 55 (by decide) (by decide), i2o 55 (by decide), i1f e h]
  have o10 : ∀ x, x ≠ p → I5 (10 + 12 * s) x = I (10 + 12 * s) x := fun x h => by rw [i5q x h, i4o _ (by omega) (by omega), i3o _ (by omega) (by omega), i2o _ (by omega), i1o _ (by omega)]
  have o61 : I5 61 0 = I 61 0 := by
    rw [i5o 61 (by omega), i4o 61 (by decide) (by decide), i3o 61 (by decide) (by decide), i2u 0 (Nat.zero_le _), E5]
    rfl
  have o62 : I5 62 0 = I 62 0 := by rw [i5o 62 (by omega), i4o 62 (by decide) (by decide), h62, E6]
  have hgo : zd S 24 16 [some (.ref 55), some (.ref (7 + 12 * s)), some (.ref 5), some (.ref 1), some (.int (nI p)), none] [] I J k = zd S 24 71 [some (.ref 55), some (.ref (7 + 12 * s)), some (.ref 5), some (.ref 1), some (.int (nI p)), some (.int (nI a))] [] I5 J k := by
    rw [B24_16 hb hs hz4 hz4, hcp, hlen, h8 p hp, haa, hI1, B24_45 hb hs q25, B24_53 hb hs q26, B24_60 hb hs q28, B24_70 hs hz4, hcp, hI5]
  obtain ⟨t1, t2, t3, t4, t5, b, b1, b2, b3⟩ := hst
  rw [hgo, B24_71 hs hz4, hcp, i5p]
  have hlnl := lnS_len (Fs := Fs) hr p (fun x hx => hPa x (by omega))
  cases hB : pB r a 0 with
  | none =>
    refine ⟨u2 I5 (7 + 12 * s) 14 1, J, ?_, ⟨?_, ?_, ?_, ?_, ?_, fun _ _ => rfl⟩, ?_⟩
    · rw [if_neg (not_not_intro (show oI (Option.map Prod.fst (none : Option (Nat × Nat))) = -1 from rfl)), B24_82 hs, B24_87 hs, nI_1]
    · intro c a1 a2 a3 a4 a5 a6 a7 a8 a9 b1 b2
      rw [u2n (nbeq a1)]
      exact o45 c a2 a6 a7 a8 a9 b1 b2
    · intro e he
      rw [u2n (nbeq (by omega))]
      exact o55 e he
    · intro e a1 a2 a3
      rw [u2ne a1, o45 _ (by omega) (by omega) (by omega) (by omega) (by omega) (by omega) (by omega)]
    · rw [u2n (nbeq (by omega))]
      exact o61
    · rw [u2n (nbeq (by omega))]
      exact o62
    · have hF : pF r a = [] := pF_none hB
      have hL : lnS r Fs (p + 1) = lnS r Fs p := by rw [lnS_s, haa, hF]; exact List.append_nil _
      have o7 : ∀ e, I5 (7 + 12 * s) e = I (7 + 12 * s) e := fun e => by rw [o45 _ (by omega) (by omega) (by omega) (by omega) (by omega) (by omega) (by omega)]
      refine ⟨?_, ?_, ?_, ?_, ?_, b, b1, b2, ?_⟩
      · rw [u2ne (by decide), o7]
        exact t1
      · rw [u2s, faS_s, haa, hB]
        show _ = if (faS r Fs p || true) = true then (1 : Int32) else 0
        rw [Bool.or_true, if_pos rfl]
      · rw [u2ne (by decide), o7, hL]
        exact t3
      · intro j x hx hj
        rw [hL] at hx
        rw [u2n (nbeq (by omega)), u2n (nbeq (by omega)), u2n (nbeq (by omega)), o45 (11 + 12 * s) (by omega) (by omega) (by omega) (by omega) (by omega) (by omega) (by omega), o45 (12 + 12 * s) (by omega) (by omega) (by omega) (by omega) (by omega) (by omega) (by omega), o45 (13 + 12 * s) (by omega) (by omega) (by omega) (by omega) (by omega) (by omega) (by omega)]
        exact t4 j x hx hj
      · intro x hx
        rw [u2n (nbeq (by omega))]
        by_cases hxp : x = p
        · rw [hxp, i5p, haa]
        · rw [o10 x hxp]
          exact t5 x (by omega)
      · rw [hL]
        exact b3
  | some y =>
    have hbv : y.1 < 2 ^ 31 := by
      have h1 := (bsL_b hr.1.2 (pl r a) 0 (by omega) y hB).1
      have : 3700 * pl r a ≤ 3700 * 207 := Nat.mul_le_mul_left _ (by omega)
      omega
    have hne : ¬ oI ((some y).map Prod.fst) = -1 := fun z => by
      have := (oI_m (o := some y.1) (fun v' hh => by cases hh; omega)).mp z
      cases this
    have hQ3 : ∀ j, 0 < j → j ≤ pl r a → pQ r a j ≤ 3 := by
      intro j j0 jl
      by_cases h : j = pl r a
      · rw [h, ok.2.2.2.2.2.1]
        exact Nat.le_refl _
      · have := ok.2.2.2.2.2.2.1 j j0 (by omega)
        omega
    have hg := pB_g hr P1 P2
    obtain ⟨I6, J6, b', q32, r0, j1, j2, j3, j4⟩ := s32 (S := S) (I := I5) (J := J) (s := s) (a := a) (c := (lnS r Fs p).length) (b := b) (B := pB r a) hs ok P8 (by omega) hg
      (fun j x hj hx hxl => by
        have h1 := (bsL_t hj hx).1
        have h2 := ok.2.2.2.2.2.2.1 x.2 (by have := (hg j x hj hx).1; omega) hxl
        omega)
      (by rw [i5o 55 (by omega), i4o 55 (by decide) (by decide), i3o 55 (by decide) (by decide), i2o 55 (by decide)]; exact i16)
      (fun j j0 jl => by rw [i5o 62 (by omega), i4o 62 (by decide) (by decide)]; exact i3c j j0 jl) hQ3
      (fun j x hj hbg hx => by rw [i5o 64 (by omega)]; exact (i4v j hj (Nat.zero_le _) hbg).2 x hx)
      (by omega) (by rw [o45 _ (by omega) (by omega) (by omega) (by omega) (by omega) (by omega) (by omega)]; exact t3) (by rw [hB]; rfl) b1 b2
    obtain ⟨r1, r2, r3, r4, r5⟩ := r0
    have hFF : foL (pB r a) (pl r a) (pl r a) 0 = pF r a := rfl
    rw [hFF] at r3 r5 j4
    have hL : lnS r Fs (p + 1) = lnS r Fs p ++ (pF r a).map (fun x => (p, x.1, x.2, pl r a)) := by rw [lnS_s, haa]
    have hLl : (lnS r Fs (p + 1)).length = (lnS r Fs p).length + (pF r a).length := by rw [hL, List.length_append, List.length_map]
    have o7 : ∀ e, I5 (7 + 12 * s) e = I (7 + 12 * s) e := fun e => by rw [o45 _ (by omega) (by omega) (by omega) (by omega) (by omega) (by omega) (by omega)]
    refine ⟨I6, J6, ?_, ⟨?_, ?_, ?_, ?_, ?_, j1⟩, ?_⟩
    · rw [if_pos hne, B24_90 hb hs q32, B24_97 hs, nI_1]
    · intro c a1 a2 a3 a4 a5 a6 a7 a8 a9 b1 b2
      rw [r1 c a1 a3 a4 a5]
      exact o45 c a2 a6 a7 a8 a9 b1 b2
    · intro e he
      rw [r1 55 (by omega) (by omega) (by omega) (by omega)]
      exact o55 e he
    · intro e a1 a2 a3
      rw [r2 e a2, o7]
    · rw [r1 61 (by omega) (by omega) (by omega) (by omega)]
      exact o61
    · rw [r1 62 (by omega) (by omega) (by omega) (by omega)]
      exact o62
    · refine ⟨?_, ?_, ?_, ?_, ?_, b', j3, j2, ?_⟩
      · rw [r2 16 (by decide), o7]
        exact t1
      · rw [r2 14 (by decide), o7, t2, faS_s, haa, hB]
        show _ = if (faS r Fs p || false) = true then (1 : Int32) else 0
        rw [Bool.or_false]
      · rw [r3, hLl]
      · intro j x hx hj
        rw [hL] at hx
        by_cases hjl : j < (lnS r Fs p).length
        · rw [List.getElem?_append_left hjl] at hx
          obtain ⟨u1, u2', u3⟩ := r4 j hjl
          rw [u1, u2', u3, o45 (11 + 12 * s) (by omega) (by omega) (by omega) (by omega) (by omega) (by omega) (by omega), o45 (12 + 12 * s) (by omega) (by omega) (by omega) (by omega) (by omega) (by omega) (by omega), o45 (13 + 12 * s) (by omega) (by omega) (by omega) (by omega) (by omega) (by omega) (by omega)]
          exact t4 j x hx hj
        · rw [List.getElem?_append_right (by omega), List.getElem?_map] at hx
          cases hz : (pF r a)[j - (lnS r Fs p).length]? with
          | none => rw [hz] at hx; cases hx
          | some z =>
            rw [hz] at hx
            have hx' : (p, z.1, z.2, pl r a) = x := Option.some.inj hx
            have h5 := r5 _ z hz (by omega)
            rw [show (lnS r Fs p).length + (j - (lnS r Fs p).length) = j by omega] at h5
            rw [← hx']
            dsimp only
            rw [haa]
            exact h5
      · intro x hx
        rw [r1 _ (by omega) (by omega) (by omega) (by omega)]
        by_cases hxp : x = p
        · rw [hxp, i5p, haa, hB]
        · rw [o10 x hxp]
          exact t5 x (by omega)
      · intro h40 i
        rw [j4 (by rw [← hLl]; exact h40) i, hL, bdL_p (fun u hu => lnS_p p u hu) (fun i x hx => by
          have := foL_i hg (pl r a) 0 (by omega) (fun _ => by rw [hB]; rfl) i x hx
          exact ⟨this.1, this.2.1, this.2.2.1⟩) i, b3 (by omega) i]
theorem g24_l (hs : s < 4) (hr : okE r) (hq : q ≤ 4) (hPa : ∀ x, x < q → okPa r (Fs x)) (hb : Nat.ble k.1 (mBu 24).1 = true ∧ Nat.ble k.2 (mBu 24).2 = true) : ∀ (m p : Nat) (I : zI) (J : zJ), q = p + m → cEn r I J → I (7 + 12 * s) 11 = nI q → (∀ x, x < q → I (8 + 12 * s) x = nI (Fs x)) → (∀ x, x < q → I (9 + 12 * s) x = nI (wsA (eT r) (eN r) 16 (Fs x))) → stB r Fs s p I J →
    ∃ I' J', zd S 24 7 [some (.ref 55), some (.ref (7 + 12 * s)), some (.ref 5), some (.ref 1), some (.int (nI p)), none] [] I J k = some (none, mk I' J', k) ∧ fB s I I' J J' ∧ stB r Fs s q I' J' := by
  intro m
  induction m with
  | zero =>
    intro p I J hm hE h11 h8 h9 hst
    have hpq : q = p := by omega
    subst hpq
    refine ⟨I, J, ?_, ⟨fun _ _ _ _ _ _ _ _ _ _ _ _ => rfl, fun _ _ => rfl, fun _ _ _ _ => rfl, rfl, rfl, fun _ _ => rfl⟩, hst⟩
    rw [B24_7 hs, h11, if_pos (nI_le (Nat.le_refl _) (by omega)), B24_103 hs]
  | succ m ih =>
    intro p I J hm hE h11 h8 h9 hst
    obtain ⟨I1, J1, e1, f1, st1⟩ := g24_p (S := S) (k := k) (p := p) hs hr hq (by omega) hPa hb hE h8 h9 hst
    have g8 : ∀ c, c = 8 + 12 * s ∨ c = 9 + 12 * s → I1 c = I c := fun c hc => f1.1 c (by omega) (by omega) (by omega) (by omega) (by omega) (by omega) (by omega) (by omega) (by omega) (by omega) (by omega)
    obtain ⟨I2, J2, e2, f2, st2⟩ := ih (p + 1) I1 J1 (by omega) (cEn_f hs hE f1) (by rw [f1.2.2.1 11 (by decide) (by decide) (by decide)]; exact h11) (fun x hx => by rw [g8 _ (Or.inl rfl)]; exact h8 x hx) (fun x hx => by rw [g8 _ (Or.inr rfl)]; exact h9 x hx) st1
    refine ⟨I2, J2, ?_, fB_t f1 f2, st2⟩
    rw [B24_7 hs, h11, if_neg (nI_ge (by omega) (by omega)), e1, e2]
theorem s24 {I : zI} {J : zJ} (hs : s < 4) (hr : okE r) (hq : q ≤ 4) (hPa : ∀ x, x < q → okPa r (Fs x)) (hE : cEn r I J) (h11 : I (7 + 12 * s) 11 = nI q) (h8 : ∀ x, x < q → I (8 + 12 * s) x = nI (Fs x)) (h9 : ∀ x, x < q → I (9 + 12 * s) x = nI (wsA (eT r) (eN r) 16 (Fs x))) :
    ∃ I' J', zq S 24 [.ref 55, .ref (7 + 12 * s), .ref 5, .ref 1] I J none I' J' ∧ fB s I I' J J' ∧ stB r Fs s q I' J' := by
  have q90 := s90 (S := S) (I := I) (J := J) hs
  generalize hI1 : u2 (u2 (u2 I (7 + 12 * s) 14 0) (7 + 12 * s) 15 0) (7 + 12 * s) 16 0 = I1 at q90
  generalize hJ1 : v2 J (7 + 12 * s) 17 0 = J1 at q90
  have f1 : fB s I I1 J J1 := by
    refine ⟨?_, ?_, ?_, ?_, ?_, ?_⟩
    · intro c a1 _ _ _ _ _ _ _ _ _ _
      rw [← hI1, u2n (nbeq a1), u2n (nbeq a1), u2n (nbeq a1)]
    · intro e _
      rw [← hI1, u2n (nbeq (by omega)), u2n (nbeq (by omega)), u2n (nbeq (by omega))]
    · intro e a1 a2 a3
      rw [← hI1, u2ne a3, u2ne a2, u2ne a1]
    · rw [← hI1, u2n (nbeq (by omega)), u2n (nbeq (by omega)), u2n (nbeq (by omega))]
    · rw [← hI1, u2n (nbeq (by omega)), u2n (nbeq (by omega)), u2n (nbeq (by omega))]
    · intro c hc
      rw [← hJ1, v2n (nbeq hc)]
  have st0 : stB r Fs s 0 I1 J1 := by
    refine ⟨?_, ?_, ?_, (fun j x hx => by cases hx), (fun x hx => absurd hx (Nat.not_lt_zero _)), 0, (by decide), ?_, fun _ i => ?_⟩
    · rw [← hI1, u2s]
    · rw [← hI1, u2ne (by decide), u2ne (by decide), u2s]
      rfl
    · rw [← hI1, u2ne (by decide), u2s]
      rfl
    · rw [← hJ1, v2s]
      rfl
    · rw [hbt_0, bdL_lt (Nat.zero_le _)]
  have g8 : ∀ c, c = 8 + 12 * s ∨ c = 9 + 12 * s → I1 c = I c := fun c hc => f1.1 c (by omega) (by omega) (by omega) (by omega) (by omega) (by omega) (by omega) (by omega) (by omega) (by omega) (by omega)
  obtain ⟨I2, J2, e2, f2, st2⟩ := g24_l (S := S) (k := (0, 0)) hs hr hq hPa ⟨rfl, rfl⟩ q 0 I1 J1 (by omega) (cEn_f hs hE f1) (by rw [f1.2.2.1 11 (by decide) (by decide) (by decide)]; exact h11) (fun x hx => by rw [g8 _ (Or.inl rfl)]; exact h8 x hx) (fun x hx => by rw [g8 _ (Or.inr rfl)]; exact h9 x hx) st0
  refine ⟨I2, J2, ?_, fB_t f1 f2, st2⟩
  refine zq_of rfl ?_
  show zd S 24 0 [some (.ref 55), some (.ref (7 + 12 * s)), some (.ref 5), some (.ref 1), none, none] [] I J (0, 0) = _
  rw [B24_0 ⟨rfl, rfl⟩ hs q90, B24_4 hs]
  exact e2
end CSTORY2
