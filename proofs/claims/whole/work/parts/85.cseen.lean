/-! ink, the one side: what is seen at a unit of a cell -/
def sgF (a pg x : Nat) : Nat := if x = 0 then a else if x = 1 then 49 + pg else 0
def pg1 (u : zPl) : Nat := match u.2.2.2.2.2.2 with
  | none => 0
  | some v => v.1
def hlW (r : zE) (t : Nat) : Nat → Nat := wsC (eT r) (eN r) 4 (aO r t + 2)
def hlL (r : zE) (t : Nat) : List Nat := wsL (eT r) (eN r) 4 (aO r t + 2)
def hdL (r : zE) (t x : Nat) : Nat := (ikF (fun j => eW r (hlW r t j - 97)) (hlW r t) (weL (hlL r t)) x 3 (hlL r t).sum (hlL r t).sum 0 0 0).1.getD 0
def lnL (r : zE) (t j x : Nat) : Nat := match (LO r t)[j]? with
  | some u => lkF (fun i => eW r (pC r (fO r t u.1) i - 97)) (pC r (fO r t u.1)) (weL (pL r (fO r t u.1))) (eD r) (pQ r (fO r t u.1) u.2.2.1) x u.2.1 u.2.2.1
  | none => 0
def ikV (r : zE) (t : Nat) (u : zPl) (col kk x : Nat) : Nat := if kk = 80 then hdL r t (eD r * (col - u.2.2.1) + x) else if kk = 81 then 35 else if kk = 82 then sgF 62 (pg1 u) x else if kk = 83 then sgF 60 u.1 x else lnL r t kk x
def ikC (r : zE) (o : Nat → Option zPl) (G : Nat → Int32) (i x : Nat) : Nat := if (G i).toNatClampNeg < 100 then 0 else match o ((G i).toNatClampNeg / 100 - 1) with
  | none => 0
  | some u => ikV r ((G i).toNatClampNeg / 100 - 1) u (i % 64 / 16) ((G i).toNatClampNeg % 100) x
def inkR (C R D : Nat) (F : Nat → Nat → Nat) (x y z w : Int32) : Int32 := if hasC C R x y z = true ∧ ¬ w < 0 ∧ w < nI D then nI (F (cAt x y z) w.toNatClampNeg) else -1
/-- which kinds a cell of story t has -/
def kdK (r : zE) (t : Nat) (u : zPl) (col kk : Nat) : Prop := (kk = 80 ∧ u.2.2.1 ≤ col) ∨ kk = 81 ∨ (kk = 82 ∧ u.2.2.2.2.2.2.isSome = true) ∨ (kk = 83 ∧ u.2.2.2.2.2.2.isSome = true) ∨ kk < nO r t
theorem cv_k {r : zE} {o : Nat → Option zPl} {i v : Nat} (h : cvOK r o i v) : (v < 100) ∨ ∃ t u kk, t < nS r ∧ hO r t = 0 ∧ o t = some u ∧ kk < 100 ∧ v = 100 * (t + 1) + kk ∧ kdK r t u (i % 64 / 16) kk := by
  rcases h with h | h | ⟨t, u, h1, h2, h3, h4⟩
  · exact Or.inl (by omega)
  · exact Or.inl (by omega)
  · have hn := (hO_0 h2).2.2
    right
    rcases h4 with h4 | h4 | h4 | h4 | ⟨j, hj, h4⟩
    · exact ⟨t, u, 80, h1, h2, h3, by decide, h4.1, Or.inl ⟨rfl, h4.2⟩⟩
    · exact ⟨t, u, 81, h1, h2, h3, by decide, h4, Or.inr (Or.inl rfl)⟩
    · exact ⟨t, u, 82, h1, h2, h3, by decide, h4.1, Or.inr (Or.inr (Or.inl ⟨rfl, h4.2⟩))⟩
    · exact ⟨t, u, 83, h1, h2, h3, by decide, h4.1, Or.inr (Or.inr (Or.inr (Or.inl ⟨rfl, h4.2⟩)))⟩
    · exact ⟨t, u, j, h1, h2, h3, by omega, h4, Or.inr (Or.inr (Or.inr (Or.inr hj)))⟩
/-- what the class's painter stands on -/
def cPn (r : zE) (I : zI) : Prop := I 73 0 = nI (eD r) ∧ (∀ i, i < eN r → I 74 i = nI (eT r i)) ∧ (∀ j, j < 26 → I 75 j = nI (eW r j)) ∧ (∀ t, t < nS r → I (7 + 12 * t) 9 = nI (aO r t + 2) ∧ I (7 + 12 * t) 10 = nI (wsA (eT r) (eN r) 4 (aO r t + 2)))
theorem hl_i {r : zE} (h : okSt r) {t : Nat} (ht : t < nS r) : wsB (eT r) (eN r) 4 (aO r t + 2) = true ∧ aO r t + 2 ≤ eN r ∧ posL (hlL r t) ∧ hlL r t ≠ [] ∧ 0 < (hlL r t).sum ∧ (hlL r t).sum ≤ 48 ∧ (hlL r t).length ≤ 4 ∧ wsA (eT r) (eN r) 4 (aO r t + 2) = aO r t + 2 + cpL (hlL r t) (hlL r t).sum := by
  have h1 := syA_ok (h.2.2.2 t ht)
  have hw := h1.2.2.1
  unfold wdK at hw
  rw [Bool.and_eq_true] at hw
  obtain ⟨p1, p2, p3⟩ := wsB_p 4 _ hw.1
  have p1' : posL (hlL r t) := p1
  have p2' : (hlL r t).length ≤ 4 := p2
  have hne : hlL r t ≠ [] := wsL_ne
  have h12 := posL_12 p1'
  have hs : (hlL r t).sum ≠ 0 := fun z => hne (posL_0 p1' z)
  have p3' : wsA (eT r) (eN r) 4 (aO r t + 2) = aO r t + 2 + (hlL r t).sum + ((hlL r t).length - 1) := p3
  refine ⟨hw.1, h1.2.2.2.2.2.2.2, p1', hne, by omega, by omega, p2', ?_⟩
  rw [p3', cpL_l (hlL r t) p1']
  omega
section CSEEN
variable {S : Nat × (Nat → Int32)} {I : zI} {J : zJ} {r : zE}
theorem s41 {a pg x : Nat} (ha : a < 2 ^ 20) (hx : x < 2 ^ 20) : zq S 41 [.int (nI a), .int (nI pg), .int (nI x)] I J (some (.int (nI (sgF a pg x)))) I J := by
  refine zq_of rfl ?_
  show zd S 41 0 [some (.int (nI a)), some (.int (nI pg)), some (.int (nI x))] [] I J (0, 0) = _
  unfold sgF
  rw [B41_0]
  by_cases h0 : x = 0
  · have e : nI x = 0 := by rw [h0]; rfl
    rw [if_pos h0, if_neg (not_not_intro e), B41_4]
  · rw [if_neg h0, if_pos (nI_ne0 (by omega) (by omega)), B41_6]
    by_cases h1 : x = 1
    · have e : nI x = 1 := by rw [h1]; rfl
      rw [if_pos h1, if_neg (not_not_intro e), B41_11, show (49 : Int32) = nI 49 from rfl, nI_add]
    · have e : ¬ nI x = 1 := fun z => h1 ((nI_eq (a := x) (b := 1) (by omega) (by omega)).mp z)
      rw [if_neg h1, if_pos e, B41_18]
      rfl
theorem s40 {t col kk x : Nat} {u : zPl} (hO' : okSt r) (ht : t < nS r) (hP : cPn r I) (hK : cOK r t (some u) I) (h0 : hO r t = 0) (hk : kdK r t u col kk) (hc : col < 4) (hx : x < eD r) (hu : u.2.2.1 ≤ 4 ∧ pg1 u < 3) :
    zq S 40 [.ref 73, .ref (7 + 12 * t), .int (nI kk), .int (nI col), .int (nI x)] I J (some (.int (nI (ikV r t u col kk x)))) I J := by
  have ht4 : t < 4 := by have := hO'.2.2.1; omega
  have hD6 := hO'.1.1.2
  obtain ⟨P1, P2, P3, P4⟩ := hP
  obtain ⟨K1, K2, K3, K4, K5, K6⟩ := hK
  have K6 := K6 u rfl
  have hn := (hO_0 h0).2.2
  refine zq_of rfl ?_
  show zd S 40 0 [some (.ref 73), some (.ref (7 + 12 * t)), some (.int (nI kk)), some (.int (nI col)), some (.int (nI x)), none] [] I J (0, 0) = _
  unfold ikV
  rcases hk with ⟨rfl, hk⟩ | rfl | ⟨rfl, hk⟩ | ⟨rfl, hk⟩ | hk
  · obtain ⟨g1, g2, g3, g4, g5, g6, g7, g8⟩ := hl_i hO' ht
    obtain ⟨w1, w2⟩ := rw_of (I := I) (r := r) (M := 4) (a := aO r t + 2) (f := 0) (t := (hlL r t).sum) hO'.1 g1 g2 P2 P3 (Nat.le_refl _)
    have w2 := w2 g5
    have hb0 : aO r t + 2 + bpL (hlL r t) 0 = aO r t + 2 := by rw [bpL_0 g3]
    have hex : eD r * (col - u.2.2.1) + x < 2 ^ 20 := by
      have : eD r * (col - u.2.2.1) ≤ 60 * 4 := Nat.mul_le_mul hD6 (by omega)
      omega
    have q43 := s43 (S := S) (J := J) (x := eD r * (col - u.2.2.1) + x) (Sp := 0) (G := 0) w1 g5 hex (by omega) (by omega) (fun _ => rfl) (by omega)
    have hw2 : aO r t + 2 + bpL (hlL r t) ((hlL r t).sum - 1) + 1 = wsA (eT r) (eN r) 4 (aO r t + 2) := by rw [g8]; exact w2
    have e1 : aO r t + 2 + bpL (wsL (eT r) (eN r) 4 (aO r t + 2)) 0 = aO r t + 2 := hb0
    have e2 : aO r t + 2 + bpL (wsL (eT r) (eN r) 4 (aO r t + 2)) ((hlL r t).sum - 1) + 1 = wsA (eT r) (eN r) 4 (aO r t + 2) := hw2
    rw [e1, e2] at q43
    have K2' : I (15 + 12 * t + 2 * 0) 2 = nI u.2.2.1 := K6.1.2.1
    have em : (nI col - I (15 + 12 * t + 2 * 0) 2) * I 73 0 + nI x = nI (eD r * (col - u.2.2.1) + x) := by
      rw [K2', P1, pk_sub hk, pk_mul, nI_add, Nat.mul_comm]
    rw [if_pos rfl, B40_0_80 ht4 (show nI 80 = 80 from rfl), B40_32 (p38x := 0) ⟨rfl, rfl⟩ ht4 (by decide) rfl rfl (by rw [(P4 t ht).1, (P4 t ht).2, em]; exact q43), B40_69 ht4]
    rfl
  · rw [if_neg (by decide), if_pos rfl, B40_0_81 ht4 (show nI 81 = 81 from rfl), B40_70 ht4]
    rfl
  · rw [if_neg (by decide), if_neg (by decide), if_pos rfl, B40_0_82 ht4 (show nI 82 = 82 from rfl)]
    cases hv : u.2.2.2.2.2.2 with
    | none => rw [hv] at hk; cases hk
    | some v =>
      have hv1 := (K6.2.2 v hv).1.1
      have hp1 : pg1 u = v.1 := by unfold pg1; rw [hv]
      have e1 : I (15 + 12 * t + 2 * 1) 1 = nI v.1 := by rw [show 15 + 12 * t + 2 * 1 = 17 + 12 * t by omega]; exact hv1
      have q41 := s41 (S := S) (I := I) (J := J) (a := 62) (pg := v.1) (x := x) (by decide) (by omega)
      rw [B40_73 (p80x := 1) ⟨rfl, rfl⟩ ht4 (by decide) rfl (by show some (17 + 12 * t) = some (15 + 12 * t + 2 * 1); congr 1; omega) (by rw [e1]; exact q41), B40_89 ht4, hp1]
  · rw [if_neg (by decide), if_neg (by decide), if_neg (by decide), if_pos rfl, B40_0_83 ht4 (show nI 83 = 83 from rfl)]
    have e1 : I (15 + 12 * t + 2 * 0) 1 = nI u.1 := K6.1.1
    have q41 := s41 (S := S) (I := I) (J := J) (a := 60) (pg := u.1) (x := x) (by decide) (by omega)
    rw [B40_90 (p97x := 0) ⟨rfl, rfl⟩ ht4 (by decide) rfl rfl (by rw [e1]; exact q41), B40_106 ht4]
  · have hk40 : kk < 40 := by omega
    have hkl : kk < (LO r t).length := hk
    have hel : (LO r t)[kk]? = some (LO r t)[kk] := List.getElem?_eq_getElem hkl
    have hmem : (LO r t)[kk] ∈ LO r t := List.getElem_mem hkl
    generalize hz : (LO r t)[kk] = z at hel hmem
    obtain ⟨k1, k2, k3, k4, k5⟩ := okSt_i hO' ht
    obtain ⟨n1, n2, n3, n4, n5, n6, n7, n8, n9⟩ := ln_of (Fs := fO r t) (p := qO r t) hO'.1 k4 hmem
    obtain ⟨l1, l2, l3⟩ := K4 kk z hel hk40
    have hpa := k4 z.1 n1
    have hwb : wsB (eT r) (eN r) 16 (fO r t z.1) = true := by
      have := hpa.1
      unfold wdK at this
      rw [Bool.and_eq_true] at this
      exact this.1
    obtain ⟨w1, w2⟩ := rw_of (I := I) (r := r) (M := 16) (a := fO r t z.1) (f := z.2.1) (t := z.2.2.1) hO'.1 hwb hpa.2 P2 P3 n3
    have w2 := w2 (by omega)
    have q42 := s42 (S := S) (J := J) (s := t) (i := kk) (x := x) (D := eD r) (q := pQ r (fO r t z.1) z.2.2.1) ht4 hk40 w1 n2 (by omega) (by omega) P1 hD6 l1 (by rw [l2]; exact congrArg nI w2.symm) l3 n5 n9
    have hel' : lnL r t kk x = lkF (fun i => eW r (pC r (fO r t z.1) i - 97)) (pC r (fO r t z.1)) (weL (pL r (fO r t z.1))) (eD r) (pQ r (fO r t z.1) z.2.2.1) x z.2.1 z.2.2.1 := by
      unfold lnL
      rw [hel]
    rw [if_neg (by omega), if_neg (by omega), if_neg (by omega), if_neg (by omega), hel', B40_0_d ht4 (Or.inl (by rw [nI_toInt (by omega)]; omega)), B40_107 ht4, if_neg (show ¬ (40 : Int32) ≤ nI kk from nI_ge (b := 40) (by omega) (by omega)), B40_113 ⟨rfl, rfl⟩ ht4 q42, B40_121 ht4]
    rfl
theorem s16_0 {C R D : Nat} (x y z w : Int32) (hC4 : C ≤ 4) (hR16 : R ≤ 16) (hC : I 70 0 = nI C) (hR : I 70 1 = nI R) (hD : I 0 0 = nI D) (h9 : I 0 9 = 0) {n : Nat} (h4 : I 4 4 = nI n) : zq S 16 [.ref 0, .int x, .int y, .int z, .int w] I J (some (.int (inkR C R D (fun _ _ => 0) x y z w))) I J := by
  refine zq_of rfl ?_
  show zd S 16 0 [some (.ref 0), some (.int x), some (.int y), some (.int z), some (.int w), none, none] [] I J (0, 0) = _
  unfold inkR
  rw [B16_0 ⟨rfl, rfl⟩ (s82 x y z hC hR), B16_13]
  cases h : hasC C R x y z with
  | false => rw [if_pos ((bI_0 _).mpr rfl), B16_30, if_neg (fun q => by cases q.1)]
  | true =>
    obtain ⟨p, c, rr, p1, c1, r1, rfl, rfl, rfl⟩ := hasC_n hC4 hR16 h
    rw [if_neg (by decide), B16_16]
    by_cases h1 : w < 0
    · rw [if_pos h1, B16_30, if_neg (fun q => q.2.1 h1)]
    · rw [if_neg h1, B16_21, hD]
      by_cases h2 : w < nI D
      · have hp : plD (I 0 9) n ((I 71 (64 * p + 16 * c + rr)) / 100 - 1) = false := by
          unfold plD
          rw [h9]
          rfl
        have q17 := s17 (S := S) (I := I) (J := J) ((I 71 (64 * p + 16 * c + rr)) / 100 - 1) h4
        rw [hp] at q17
        rw [if_pos h2, if_pos ⟨rfl, h1, h2⟩, B16_32 ⟨rfl, rfl⟩ (s83 p1 (by omega) (by omega)), B16_45 ⟨rfl, rfl⟩ q17, B16_62, if_neg (not_not_intro (show bI false = 0 from rfl)), B16_65]
        rfl
      · rw [if_neg h2, B16_30, if_neg (fun q => h2 q.2.2)]
theorem ix4c {t : Nat} (ht : t < 4) : ([7, 19, 31, 43] : List Nat)[t]? = some (7 + 12 * t) := ix4 ht
theorem s16_1 {C R : Nat} {o : Nat → Option zPl} (x y z w : Int32) (hO' : okSt r) (hC4 : C ≤ 4) (hR16 : R ≤ 16) (hC : I 70 0 = nI C) (hR : I 70 1 = nI R) (hD : I 0 0 = nI (eD r)) (h9 : I 0 9 = 1) (h4 : I 4 4 = nI (nS r)) (hP : cPn r I) (hK : ∀ t, t < nS r → cOK r t (o t) I) (hG : gOK r o (I 71)) (hu : ∀ t u, o t = some u → u.2.2.1 ≤ 4 ∧ pg1 u < 3) :
    zq S 16 [.ref 0, .int x, .int y, .int z, .int w] I J (some (.int (inkR C R (eD r) (ikC r o (I 71)) x y z w))) I J := by
  refine zq_of rfl ?_
  show zd S 16 0 [some (.ref 0), some (.int x), some (.int y), some (.int z), some (.int w), none, none] [] I J (0, 0) = _
  unfold inkR
  rw [B16_0 ⟨rfl, rfl⟩ (s82 x y z hC hR), B16_13]
  cases h : hasC C R x y z with
  | false => rw [if_pos ((bI_0 _).mpr rfl), B16_30, if_neg (fun q => by cases q.1)]
  | true =>
    obtain ⟨p, c, rr, p1, c1, r1, rfl, rfl, rfl⟩ := hasC_n hC4 hR16 h
    rw [if_neg (by decide), B16_16]
    by_cases h1 : w < 0
    · rw [if_pos h1, B16_30, if_neg (fun q => q.2.1 h1)]
    · rw [if_neg h1, B16_21, hD]
      by_cases h2 : w < nI (eD r)
      · obtain ⟨x', hx31, rfl⟩ := nI_of h1
        have hD6 := hO'.1.1.2
        have hx' : x' < eD r := (nI_ltI hx31 (by omega)).mp h2
        obtain ⟨v, g1, g2⟩ := hG (64 * p + 16 * c + rr) (by omega)
        have hcol : (64 * p + 16 * c + rr) % 64 / 16 = c := by omega
        rw [if_pos h2, if_pos ⟨rfl, h1, h2⟩, B16_32 ⟨rfl, rfl⟩ (s83 p1 (by omega) (by omega)), cAt_n p1 (by omega) (by omega), nI_clamp hx31]
        have q17 := s17 (S := S) (I := I) (J := J) ((I 71 (64 * p + 16 * c + rr)) / 100 - 1) h4
        rw [B16_45 ⟨rfl, rfl⟩ q17, B16_62]
        unfold ikC
        rw [g1]
        have hn4 := hO'.2.2.1
        rcases cv_k g2 with hv | ⟨t, u, kk, t1, t2, t3, t4, rfl, t6⟩
        · have hd : nI v / 100 - 1 = -1 := by
            have : nI v / 100 = nI (v / 100) := pk_div (d := 100) (by omega) (by decide) (by decide)
            rw [this, Nat.div_eq_of_lt hv]
            rfl
          have hp : plD (I 0 9) (nS r) (nI v / 100 - 1) = false := by
            unfold plD
            rw [hd, decide_eq_true (show (-1 : Int32) < 0 by decide), Bool.not_true, Bool.false_and, Bool.and_false]
          rw [hp, if_neg (not_not_intro (show bI false = 0 from rfl)), B16_65, nI_clamp (by omega), if_pos hv]
          rfl
        · have hd1 : (100 * (t + 1) + kk) / 100 = t + 1 := by omega
          have hd2 : (100 * (t + 1) + kk) % 100 = kk := by omega
          have hdv : nI (100 * (t + 1) + kk) / 100 = nI (t + 1) := by
            have : nI (100 * (t + 1) + kk) / 100 = nI ((100 * (t + 1) + kk) / 100) := pk_div (d := 100) (by omega) (by decide) (by decide)
            rw [this, hd1]
          have hd : nI (100 * (t + 1) + kk) / 100 - 1 = nI t := by rw [hdv, nI_pred]
          have hm : nI (100 * (t + 1) + kk) - nI (100 * (t + 1) + kk) / 100 * 100 = nI kk := by
            rw [hdv, show (100 : Int32) = nI 100 from rfl, pk_mul, pk_sub (by omega)]
            congr 1
            omega
          have hp : plD (I 0 9) (nS r) (nI t) = true := by
            unfold plD
            rw [h9, decide_eq_false (show ¬ (1 : Int32) = 0 by decide), decide_eq_false (nI_pos (by omega)), decide_eq_false (nI_ge (by omega) (by omega))]
            rfl
          have q40 := s40 (S := S) (J := J) (u := u) (col := c) (kk := kk) (x := x') hO' t1 hP (by rw [← t3]; exact hK t t1) t2 (by rw [hcol] at t6; exact t6) (by omega) hx' (hu t u t3)
          rw [hd, hp, if_pos (show ¬ bI true = 0 by decide), B16_67 (s80x := t) ⟨rfl, rfl⟩ (by omega) (zin_n (by omega) (by decide)) (by rw [nI_clamp (by omega)]; exact ix4 (by omega)) (by rw [hm]; exact q40), B16_92, nI_clamp (by omega), if_neg (by omega), hd1, hd2, Nat.add_sub_cancel, t3, hcol]
      · rw [if_neg h2, B16_30, if_neg (fun q => h2 q.2.2)]
end CSEEN
