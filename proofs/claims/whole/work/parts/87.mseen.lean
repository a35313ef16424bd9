/-! ink, the other side: what is seen at a unit of a cell -/
def mPn (r : zE) (I : zI) : Prop := I 76 2 = nI (eD r) ∧ (∀ j, j < 26 → I 78 j = nI (eW r j)) ∧ (∀ t, t < nS r → (∀ x, x < qO r t → parD (eT r) (eN r) (I 89) (I 90) (I 91) (I 92) (4 * t + x) 16 (fO r t x)) ∧ parD (eT r) (eN r) (I 89) (I 90) (I 91) (I 92) (16 + t) 4 (aO r t + 2))
theorem rm_of {I : zI} {r : zE} {M a p : Nat} (hr : okE r) (hM : M ≤ 16) (hw : wsB (eT r) (eN r) M a = true) (h78 : ∀ j, j < 26 → I 78 j = nI (eW r j)) (hD : parD (eT r) (eN r) (I 89) (I 90) (I 91) (I 92) p M a) :
    rwM I p (wsL (eT r) (eN r) M a).sum (wsL (eT r) (eN r) M a) (fun j => eW r (wsC (eT r) (eN r) M a j - 97)) (wsC (eT r) (eN r) M a) := by
  obtain ⟨p1, p2, p3⟩ := wsB_p M a hw
  obtain ⟨d1, d2, d3, d4⟩ := hD
  have h12 := posL_12 p1
  have hx := txW_of M a 0 hw (c := wsC (eT r) (eN r) M a) (fun i _ => by rw [Nat.zero_add])
  refine ⟨d1, d2, rfl, by omega, p1, by omega, d3, fun i hi => ?_⟩
  have h1 := tx_b _ a 0 i hx p1 hi
  rw [Nat.zero_add] at h1
  have h3 := (isN_i _).mp h1.2
  have h4 := hr.2.1 (wsC (eT r) (eN r) M a i - 97) (by omega)
  exact ⟨d4 i hi, h1.2, h78 _ (by omega), h4.2⟩
section MSEEN
variable {S : Nat × (Nat → Int32)} {I : zI} {J : zJ} {r : zE}
theorem s148_0 {C R D : Nat} (x y z w : Int32) (hC4 : C ≤ 4) (hR16 : R ≤ 16) (hC : I 76 0 = nI C) (hR : I 76 1 = nI R) (hD : I 76 2 = nI D) (hG : ∀ i, i < 192 → I 105 i = 0) : zq S 148 [.ref 76, .int x, .int y, .int z, .int w] I J (some (.int (inkR C R D (fun _ _ => 0) x y z w))) I J := by
  refine zq_of rfl ?_
  show zd S 148 0 [some (.ref 76), some (.int x), some (.int y), some (.int z), some (.int w), none, none, none, none] [] I J (0, 0) = _
  unfold inkR
  rw [B148_0 ⟨rfl, rfl⟩ (s144 x y z hC hR), B148_7]
  cases h : hasC C R x y z with
  | false => rw [if_pos ((bI_0 _).mpr rfl), B148_24, if_neg (fun q => by cases q.1)]
  | true =>
    have q145 := s145 (S := S) (I := I) (J := J) x y z hC4 hR16 hC hR
    obtain ⟨p, c, rr, p1, c1, r1, rfl, rfl, rfl⟩ := hasC_n hC4 hR16 h
    have hcr : cellR (I 105) C R (nI p) (nI c) (nI rr) = 0 := by
      unfold cellR
      rw [if_pos h, cAt_n p1 (by omega) (by omega)]
      exact hG _ (by omega)
    rw [hcr] at q145
    rw [if_neg (by decide), B148_10]
    by_cases h1 : w < 0
    · rw [if_pos h1, B148_24, if_neg (fun q => q.2.1 h1)]
    · rw [if_neg h1, B148_15, hD]
      by_cases h2 : w < nI D
      · rw [if_pos h2, if_pos ⟨rfl, h1, h2⟩, B148_26 ⟨rfl, rfl⟩ q145, B148_33, if_pos rfl, B148_63]
        rfl
      · rw [if_neg h2, B148_24, if_neg (fun q => h2 q.2.2)]
theorem cv_k2 {r : zE} {o : Nat → Option zPl} {i v : Nat} (h : cvOK r o i v) : (v = 0 ∨ v = 90) ∨ ∃ t u kk, t < nS r ∧ hO r t = 0 ∧ o t = some u ∧ kk < 90 ∧ v = 100 * (t + 1) + kk ∧ kdK r t u (i % 64 / 16) kk := by
  rcases h with h | h | h
  · exact Or.inl (Or.inl h)
  · exact Or.inl (Or.inr h)
  · obtain ⟨t, u, h1, h2, h3, h4⟩ := h
    have hn := (hO_0 h2).2.2
    right
    rcases h4 with h4 | h4 | h4 | h4 | ⟨j, hj, h4⟩
    · exact ⟨t, u, 80, h1, h2, h3, by decide, h4.1, Or.inl ⟨rfl, h4.2⟩⟩
    · exact ⟨t, u, 81, h1, h2, h3, by decide, h4, Or.inr (Or.inl rfl)⟩
    · exact ⟨t, u, 82, h1, h2, h3, by decide, h4.1, Or.inr (Or.inr (Or.inl ⟨rfl, h4.2⟩))⟩
    · exact ⟨t, u, 83, h1, h2, h3, by decide, h4.1, Or.inr (Or.inr (Or.inr (Or.inl ⟨rfl, h4.2⟩)))⟩
    · exact ⟨t, u, j, h1, h2, h3, by omega, h4, Or.inr (Or.inr (Or.inr (Or.inr hj)))⟩
/-- from a story's cell on -/
theorem g148_k {k : zK} {t col kk x : Nat} {u : zPl} {l1 l3 l5 : Int32} (hO' : okSt r) (ht : t < nS r) (hP : mPn r I) (hK : mOK r t (some u) I) (h0 : hO r t = 0) (hk : kdK r t u col kk) (hc : col < 4) (hx : x < eD r) (hu : u.2.2.1 ≤ 4 ∧ pg1 u < 3) (hb : Nat.ble k.1 (mBu 148).1 = true ∧ Nat.ble k.2 (mBu 148).2 = true) :
    zd S 148 65 [some (.ref 76), some (.int l1), some (.int (nI col)), some (.int l3), some (.int (nI x)), some (.int l5), some (.int (nI t)), some (.int (nI kk)), none] [] I J k = some (some (.int (nI (ikV r t u col kk x))), mk I J, k) := by
  have ht4 : t < 4 := by have := hO'.2.2.1; omega
  have hD6 := hO'.1.1.2
  obtain ⟨P1, P2, P3⟩ := hP
  obtain ⟨K1, K2, K3, K4, K5, _⟩ := hK
  have K5 := (K5 u rfl).1
  have hn := (hO_0 h0).2.2
  have e22 : (22 : Int32) * nI t = nI (22 * t) := by rw [show (22 : Int32) = nI 22 from rfl, pk_mul]
  unfold ikV
  rcases hk with ⟨rfl, hk⟩ | rfl | ⟨rfl, hk⟩ | ⟨rfl, hk⟩ | hk
  · obtain ⟨g1, g2, g3, g4, g5, g6, g7, g8⟩ := hl_i hO' ht
    have hM := rm_of (I := I) (r := r) (M := 4) (a := aO r t + 2) (p := 16 + t) hO'.1 (by decide) g1 P2 (P3 t ht).2
    have hex : eD r * (col - u.2.2.1) + x < 2 ^ 20 := by
      have : eD r * (col - u.2.2.1) ≤ 60 * 4 := Nat.mul_le_mul hD6 (by omega)
      omega
    have e104 : I 104 (22 * t + 1) = nI u.2.2.1 := by
      have := K5.1.2.1
      rw [show 11 * (2 * t) + 1 = 22 * t + 1 by omega] at this
      exact this
    have e1 : (22 : Int32) * nI t + 1 = nI (22 * t + 1) := by rw [e22, nI_1]
    have e2 : (16 : Int32) + nI t = nI (16 + t) := by rw [show (16 : Int32) = nI 16 from rfl, nI_add]
    have hwe : weL (hlL r t) (hlL r t).sum = true := by
      have h1 := weL_q (P := eP r) (pn := en r) (pk := ek r) (pv := ev r) (c := hlW r t) (hlL r t) 0 (hlL r t).sum g3 (Nat.le_refl _)
      rw [← h1, qd_l (hlL r t) 0 g3 g4]
      rfl
    have e4 : I 76 2 * (nI col - I 104 (22 * t + 1)) = nI (eD r * (col - u.2.2.1)) := by rw [P1, e104, pk_sub hk, pk_mul]
    have q146 := s146 (S := S) (J := J) (x := eD r * (col - u.2.2.1) + x) (each := 3) (ex := 0) (f := 0) (t := (hlL r t).sum) hM (by omega) (Nat.zero_le _) (Nat.le_refl _) hex (by decide) (by decide)
    have him : imF (ikF (fun j => eW r (wsC (eT r) (eN r) 4 (aO r t + 2) j - 97)) (wsC (eT r) (eN r) 4 (aO r t + 2)) (weL (wsL (eT r) (eN r) 4 (aO r t + 2))) (eD r * (col - u.2.2.1) + x) 3 (hlL r t).sum ((hlL r t).sum - 0) 0 0 0) (weL (wsL (eT r) (eN r) 4 (aO r t + 2)) (hlL r t).sum) (eD r * (col - u.2.2.1) + x) = hdL r t (eD r * (col - u.2.2.1) + x) := by
      have : weL (wsL (eT r) (eN r) 4 (aO r t + 2)) (hlL r t).sum = true := hwe
      rw [this]
      unfold imF hdL
      show (match (ikF (fun j => eW r (hlW r t j - 97)) (hlW r t) (weL (hlL r t)) (eD r * (col - u.2.2.1) + x) 3 (hlL r t).sum (hlL r t).sum 0 0 0).1 with
        | some v => v
        | none => if true = false ∧ _ then 45 else 0) = _
      cases (ikF (fun j => eW r (hlW r t j - 97)) (hlW r t) (weL (hlL r t)) (eD r * (col - u.2.2.1) + x) 3 (hlL r t).sum (hlL r t).sum 0 0 0).1 with
      | some v => rfl
      | none => exact if_neg (fun q => by cases q.1)
    rw [him] at q146
    have h92 : I 92 (16 + t) = nI (hlL r t).sum := hM.2.1
    rw [B148_65, if_neg (not_not_intro (show nI 80 = 80 from rfl)), B148_72 hb (by rw [e1]; exact zin_n (by omega) (by decide)) (by rw [e2]; exact zin_n (by omega) (by decide)) (by rw [e1, e2, nI_clamp (by omega), nI_clamp (by omega), h92, e4, nI_add]; exact q146), B148_120, if_pos rfl]
  · rw [B148_65, if_pos (by decide), B148_121, if_neg (not_not_intro (show nI 81 = 81 from rfl)), B148_128, if_neg (by decide), if_pos rfl]
    rfl
  · cases hv : u.2.2.2.2.2.2 with
    | none => rw [hv] at hk; cases hk
    | some v =>
      have hp1 : pg1 u = v.1 := by unfold pg1; rw [hv]
      have e104 : I 104 (22 * t + 11) = nI v.1 := by
        have := (K5.2 v hv).1
        rw [show 11 * (2 * t + 1) = 22 * t + 11 by omega] at this
        exact this
      have e1 : nI (22 * t) + 11 = nI (22 * t + 11) := by rw [show (11 : Int32) = nI 11 from rfl, nI_add]
      rw [if_neg (show ¬ (82 : Nat) = 80 by decide), if_neg (show ¬ (82 : Nat) = 81 by decide), if_pos rfl, hp1]
      rw [B148_65, if_pos (by decide), B148_121, if_pos (by decide), B148_131, if_neg (by decide), B148_138, if_neg (not_not_intro (show nI 82 = 82 from rfl)), e22, B148_156 (by rw [e1]; exact zin_n (by omega) (by decide)), e1, nI_clamp (by omega), e104]
      unfold sgF
      by_cases hx0 : x = 0
      · have e : nI x = 0 := by rw [hx0]; rfl
        rw [if_neg (not_not_intro e), B148_172, if_neg (not_not_intro (show nI 82 = 82 from rfl)), B148_179, if_pos hx0]
        rfl
      · rw [if_pos (nI_ne0 (by omega) (by omega)), B148_189, if_neg hx0]
        by_cases h1 : x = 1
        · have e : nI x = 1 := by rw [h1]; rfl
          rw [if_neg (not_not_intro e), B148_195, if_pos h1, show (49 : Int32) = nI 49 from rfl, nI_add]
        · have e : ¬ nI x = 1 := fun z => h1 ((nI_eq (a := x) (b := 1) (by omega) (by omega)).mp z)
          rw [if_pos e, B148_200, if_neg h1]
          rfl
  · have e104 : I 104 (22 * t + 0) = nI u.1 := by
      have := K5.1.1
      rw [show 11 * (2 * t) = 22 * t + 0 by omega] at this
      exact this
    have e1 : nI (22 * t) + 0 = nI (22 * t + 0) := by rw [show (0 : Int32) = nI 0 from rfl, nI_add]
    rw [if_neg (show ¬ (83 : Nat) = 80 by decide), if_neg (show ¬ (83 : Nat) = 81 by decide), if_neg (show ¬ (83 : Nat) = 82 by decide), if_pos rfl]
    rw [B148_65, if_pos (by decide), B148_121, if_pos (by decide), B148_131, if_neg (by decide), B148_138, if_pos (by decide), e22, B148_161 (by rw [e1]; exact zin_n (by omega) (by decide)), e1, nI_clamp (by omega), e104]
    unfold sgF
    by_cases hx0 : x = 0
    · have e : nI x = 0 := by rw [hx0]; rfl
      rw [if_neg (not_not_intro e), B148_172, if_pos (by decide), B148_184, if_pos hx0]
      rfl
    · rw [if_pos (nI_ne0 (by omega) (by omega)), B148_189, if_neg hx0]
      by_cases h1 : x = 1
      · have e : nI x = 1 := by rw [h1]; rfl
        rw [if_neg (not_not_intro e), B148_195, if_pos h1, show (49 : Int32) = nI 49 from rfl, nI_add]
      · have e : ¬ nI x = 1 := fun z => h1 ((nI_eq (a := x) (b := 1) (by omega) (by omega)).mp z)
        rw [if_pos e, B148_200, if_neg h1]
        rfl
  · have hk40 : kk < 40 := by omega
    have hkl : kk < (LO r t).length := hk
    have hel : (LO r t)[kk]? = some (LO r t)[kk] := List.getElem?_eq_getElem hkl
    have hmem : (LO r t)[kk] ∈ LO r t := List.getElem_mem hkl
    generalize hz : (LO r t)[kk] = z at hel hmem
    obtain ⟨k1, k2, k3, k4, k5⟩ := okSt_i hO' ht
    obtain ⟨n1, n2, n3, n4, n5, n6, n7, n8, n9⟩ := ln_of (Fs := fO r t) (p := qO r t) hO'.1 k4 hmem
    obtain ⟨l1, l2, l3⟩ := K3 kk z hel (by omega)
    have hpa := k4 z.1 n1
    have hwb : wsB (eT r) (eN r) 16 (fO r t z.1) = true := by
      have := hpa.1
      unfold wdK at this
      rw [Bool.and_eq_true] at this
      exact this.1
    have hM := rm_of (I := I) (r := r) (M := 16) (a := fO r t z.1) (p := 4 * t + z.1) hO'.1 (by decide) hwb P2 ((P3 t ht).1 z.1 n1)
    have q147 := s147 (S := S) (J := J) (a := 41 * t + kk) (x := x) (D := eD r) (q := pQ r (fO r t z.1) z.2.2.1) (f := z.2.1) (t := z.2.2.1) hM (by omega) (by omega) n2 n3 (by omega) P1 hD6 l1 l2 l3 n7 n6 n5 n8 n9
    have hel' : lnL r t kk x = lkF (fun i => eW r (pC r (fO r t z.1) i - 97)) (pC r (fO r t z.1)) (weL (pL r (fO r t z.1))) (eD r) (pQ r (fO r t z.1) z.2.2.1) x z.2.1 z.2.2.1 := by
      unfold lnL
      rw [hel]
    have e41 : (41 : Int32) * nI t + nI kk = nI (41 * t + kk) := by rw [show (41 : Int32) = nI 41 from rfl, pk_mul, nI_add]
    have n80 : ¬ nI kk = 80 := fun z => by have := (nI_eq (a := kk) (b := 80) (by omega) (by omega)).mp z; omega
    have n81 : ¬ nI kk = 81 := fun z => by have := (nI_eq (a := kk) (b := 81) (by omega) (by omega)).mp z; omega
    have n82 : nI kk ≤ 81 := nI_le (b := 81) (by omega) (by omega)
    rw [if_neg (by omega), if_neg (by omega), if_neg (by omega), if_neg (by omega), hel', B148_65, if_pos n80, B148_121, if_pos n81, B148_131, if_pos n82, B148_202 hb (by rw [e41]; exact q147), B148_216]
    rfl
theorem s148_1 {C R : Nat} {o : Nat → Option zPl} {G : Nat → Int32} (x y z w : Int32) (hO' : okSt r) (hC4 : C ≤ 4) (hR16 : R ≤ 16) (hC : I 76 0 = nI C) (hR : I 76 1 = nI R) (hP : mPn r I) (hK : ∀ t, t < nS r → mOK r t (o t) I) (hG : gOK r o G) (hGe : eqG (I 105) G) (hu : ∀ t u, o t = some u → u.2.2.1 ≤ 4 ∧ pg1 u < 3) :
    zq S 148 [.ref 76, .int x, .int y, .int z, .int w] I J (some (.int (inkR C R (eD r) (ikC r o G) x y z w))) I J := by
  refine zq_of rfl ?_
  show zd S 148 0 [some (.ref 76), some (.int x), some (.int y), some (.int z), some (.int w), none, none, none, none] [] I J (0, 0) = _
  unfold inkR
  rw [B148_0 ⟨rfl, rfl⟩ (s144 x y z hC hR), B148_7]
  cases h : hasC C R x y z with
  | false => rw [if_pos ((bI_0 _).mpr rfl), B148_24, if_neg (fun q => by cases q.1)]
  | true =>
    have q145 := s145 (S := S) (I := I) (J := J) x y z hC4 hR16 hC hR
    obtain ⟨p, c, rr, p1, c1, r1, rfl, rfl, rfl⟩ := hasC_n hC4 hR16 h
    obtain ⟨v, g1, g2⟩ := hG (64 * p + 16 * c + rr) (by omega)
    have hcr : cellR (I 105) C R (nI p) (nI c) (nI rr) = nI v := by
      unfold cellR
      rw [if_pos h, cAt_n p1 (by omega) (by omega), hGe _ (by omega)]
      exact g1
    rw [hcr] at q145
    rw [if_neg (by decide), B148_10]
    by_cases h1 : w < 0
    · rw [if_pos h1, B148_24, if_neg (fun q => q.2.1 h1)]
    · rw [if_neg h1, B148_15, hP.1]
      by_cases h2 : w < nI (eD r)
      · obtain ⟨x', hx31, rfl⟩ := nI_of h1
        have hD6 := hO'.1.1.2
        have hx' : x' < eD r := (nI_ltI hx31 (by omega)).mp h2
        have hcol : (64 * p + 16 * c + rr) % 64 / 16 = c := by omega
        rw [if_pos h2, if_pos ⟨rfl, h1, h2⟩, B148_26 ⟨rfl, rfl⟩ q145, B148_33, cAt_n p1 (by omega) (by omega), nI_clamp hx31]
        unfold ikC
        rw [g1]
        have hn4 := hO'.2.2.1
        rcases cv_k2 g2 with (rfl | rfl) | ⟨t, u, kk, t1, t2, t3, t4, rfl, t6⟩
        · rw [if_pos (show nI 0 = 0 from rfl), B148_63, nI_clamp (by decide), if_pos (by decide)]
          rfl
        · rw [if_neg (by decide), B148_56, if_neg (by decide), B148_63, nI_clamp (by decide), if_pos (by decide)]
          rfl
        · have hd1 : (100 * (t + 1) + kk) / 100 = t + 1 := by omega
          have hd2 : (100 * (t + 1) + kk) % 100 = kk := by omega
          have hdv : nI (100 * (t + 1) + kk) / 100 = nI (t + 1) := by
            have : nI (100 * (t + 1) + kk) / 100 = nI ((100 * (t + 1) + kk) / 100) := pk_div (d := 100) (by omega) (by decide) (by decide)
            rw [this, hd1]
          have hd : nI (100 * (t + 1) + kk) / 100 - 1 = nI t := by rw [hdv, nI_pred]
          have hm : nI (100 * (t + 1) + kk) - nI (100 * (t + 1) + kk) / 100 * 100 = nI kk := by
            rw [hdv, show (100 : Int32) = nI 100 from rfl, pk_mul, pk_sub (by omega)]
            congr 1
            omega
          have n90 : ¬ nI kk = 90 := fun z => by have := (nI_eq (a := kk) (b := 90) (by omega) (by omega)).mp z; omega
          rw [if_neg (nI_ne0 (by omega) (by omega)), hd, hm, B148_56, if_pos n90, g148_k (u := u) hO' t1 hP (by rw [← t3]; exact hK t t1) t2 (by rw [hcol] at t6; exact t6) (by omega) hx' (hu t u t3) ⟨rfl, rfl⟩, nI_clamp (by omega), if_neg (by omega), hd1, hd2, Nat.add_sub_cancel, t3, hcol]
      · rw [if_neg h2, B148_24, if_neg (fun q => h2 q.2.2)]
end MSEEN
