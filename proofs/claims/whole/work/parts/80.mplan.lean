/-! plan: the call, the other side -/
theorem foL_s {B : Nat → Option (Nat × Nat)} {l m k : Nat} {x : Nat × Nat} (h : x ∈ foL B l m k) : k < l ∧ (B k).isSome = true := by
  cases m with
  | zero => cases h
  | succ m =>
    rw [foL_e] at h
    by_cases hk : k < l
    · rw [if_pos hk] at h
      cases hb : B k with
      | none => rw [hb] at h; cases h
      | some y => exact ⟨hk, rfl⟩
    · rw [if_neg hk] at h
      cases h
theorem lnS_i {r : zE} {Fs : Nat → Nat} (hr : okE r) : ∀ (p : Nat), (∀ x, x < p → okPa r (Fs x)) → ∀ u, u ∈ lnS r Fs p → u.1 < p ∧ u.2.2.2 = pl r (Fs u.1) ∧ u.2.1 < u.2.2.1 ∧ u.2.2.1 ≤ u.2.2.2 ∧ u.2.2.2 ≤ 192 := by
  intro p
  induction p with
  | zero => intro _ u hu; cases hu
  | succ p ih =>
    intro hPa u hu
    rw [lnS_s] at hu
    rcases List.mem_append.mp hu with hu | hu
    · have := ih (fun x hx => hPa x (by omega)) u hu
      exact ⟨by omega, this.2⟩
    · obtain ⟨x, hx, rfl⟩ := List.mem_map.mp hu
      obtain ⟨P1, P2, _, P4, _⟩ := okPa_i hr (hPa p (by omega))
      have h12 := posL_12 P1
      have hplS : pl r (Fs p) = (pL r (Fs p)).sum := rfl
      have hs := foL_s hx
      obtain ⟨i, hi⟩ := List.mem_iff_getElem?.mp hx
      have := foL_i (pB_g hr P1 P2) (pl r (Fs p)) 0 (by omega) (fun _ => hs.2) i x hi
      exact ⟨Nat.lt_succ_self p, rfl, this.2.2.2.1, this.2.2.2.2, by show pl r (Fs p) ≤ 192; omega⟩
/-- the model's stories as they were read -/
def mSy (r : zE) (I : zI) : Prop := ∀ t, t < nS r → I 85 t = nI (uO r t) ∧ I 86 t = nI (cO r t) ∧ I 87 t = nI (rO r t) ∧ I 88 t = nI (qO r t) ∧ ∀ x, x < qO r t → parD (eT r) (eN r) (I 89) (I 90) (I 91) (I 92) (4 * t + x) 16 (fO r t x)
/-- lines are laid -/
def mLy (r : zE) (t : Nat) (I : zI) : Prop := I 93 t = nI (hO r t) ∧ I 94 t = nI (lC1 r (fO r t) (qO r t)) ∧ (∀ j x, (LO r t)[j]? = some x → j < 41 → I 95 (41 * t + j) = nI (4 * t + x.1) ∧ I 96 (41 * t + j) = nI x.2.1 ∧ I 97 (41 * t + j) = nI x.2.2.1) ∧ (∀ p, p < qO r t → I 98 (4 * t + p) = oI ((pB r (fO r t p) 0).map Prod.fst))
def fQ (I I' : zI) : Prop := (∀ z, z < 76 ∨ z = 77 ∨ (78 < z ∧ z < 82) ∨ (83 < z ∧ z < 93) → I' z = I z) ∧ (∀ e, e ≠ 24 → e < 42 ∨ 45 < e → I' 76 e = I 76 e)
theorem mSy_q {r : zE} {I I' : zI} (h : mSy r I) (hf : fQ I I') : mSy r I' := by
  intro t ht
  have g : ∀ z, 83 < z ∧ z < 93 → I' z = I z := fun z hz => hf.1 z (by omega)
  rw [g 85 (by omega), g 86 (by omega), g 87 (by omega), g 88 (by omega), g 89 (by omega), g 90 (by omega), g 91 (by omega), g 92 (by omega)]
  exact h t ht
section MPLAN
variable {S : Nat × (Nat → Int32)} {k : zK} {r : zE} {C R : Nat} {J : zJ}
theorem mPl_of {I : zI} {t : Nat} (hO' : okSt r) (ht : t < nS r) (hY : mSy r I) (hL : mLy r t I) (h0 : hO r t = 0) : mPl I t (LO r t) (cO r t) (rO r t) := by
  obtain ⟨k1, k2, k3, k4, k5⟩ := okSt_i hO' ht
  obtain ⟨y1, y2, y3, y4, y5⟩ := hY t ht
  obtain ⟨hfa, hn0, hn40⟩ := hO_0 h0
  refine ⟨hn40, k2, k3, ?_, y2, y3, fun j x hx => ?_⟩
  · rw [hL.2.1]
    unfold lC1
    rw [hfa]
    rfl
  · have hj : j < (LO r t).length := (List.getElem?_eq_some_iff.mp hx).1
    have hnn : nO r t = (LO r t).length := rfl
    have hm := lnS_i hO'.1 (qO r t) k4 x (List.mem_iff_getElem?.mpr ⟨j, hx⟩)
    have h3 := hL.2.2.1 j x hx (by omega)
    refine ⟨⟨h3.1, h3.2.1, h3.2.2, ?_⟩, by omega, by omega, by omega, by omega⟩
    rw [(y5 x.1 hm.1).2.1, hm.2.1]
    rfl
theorem mLy_M {I I' : zI} {t s : Nat} (hts : t ≠ s) (h : mLy r t I) (hq : qO r t ≤ 4) (hf : fM s I I') : mLy r t I' := by
  obtain ⟨a1, a2, a3, a4⟩ := h
  refine ⟨by rw [(hf.2.1 t hts).1]; exact a1, by rw [(hf.2.1 t hts).2]; exact a2, fun j x hx hj => ?_, fun p hp => by rw [hf.2.2.2 _ (by omega)]; exact a4 p hp⟩
  have := hf.2.2.1 (41 * t + j) (by omega)
  rw [this.1, this.2.1, this.2.2]
  exact a3 j x hx hj
/-- all lines are laid -/
theorem g138_l {I0 : zI} (hO' : okSt r) (hE : mEn r I0) (hY : mSy r I0) (h13 : I0 76 13 = nI (nS r)) (hb : Nat.ble k.1 (mBu 138).1 = true ∧ Nat.ble k.2 (mBu 138).2 = true) : ∀ (m t : Nat) (I : zI), nS r = t + m → (∀ x, x < 82 ∨ (83 < x ∧ x < 93) ∨ 102 < x → I x = I0 x) → (∀ t', t' < t → mLy r t' I) →
    ∃ (I' : zI) (l1 : Int32), zd S 138 46 [some (.ref 76), some (.int (nI t)), none] [] I J k = zd S 138 65 [some (.ref 76), some (.int l1), none] [] I' J k ∧ (∀ x, x < 82 ∨ (83 < x ∧ x < 93) ∨ 102 < x → I' x = I0 x) ∧ (∀ t', t' < nS r → mLy r t' I') := by
  have hn4 := hO'.2.2.1
  intro m
  induction m with
  | zero =>
    intro t I hm hI hL
    refine ⟨I, nI t, ?_, hI, fun t' ht' => hL t' (by omega)⟩
    rw [B138_46, hI 76 (by omega), h13, if_pos (nI_le (by omega) (by omega))]
  | succ m ih =>
    intro t I hm hI hL
    have ht : t < nS r := by omega
    obtain ⟨k1, k2, k3, k4, k5⟩ := okSt_i hO' ht
    have hEI : mEn r I := by
      obtain ⟨a1, a2, a3, a4, a5, a6⟩ := hE
      have g : ∀ x, x < 82 → I x = I0 x := fun x hx => hI x (by omega)
      exact ⟨by rw [g 76 (by omega)]; exact a1, fun j hj => by rw [g 78 (by omega)]; exact a2 j hj, by rw [g 76 (by omega)]; exact a3, fun p hp => by rw [g 79 (by omega)]; exact a4 p hp, fun p hp i hi => by rw [g 80 (by omega)]; exact a5 p hp i hi, fun p hp i hi => by rw [g 81 (by omega)]; exact a6 p hp i hi⟩
    obtain ⟨y1, y2, y3, y4, y5⟩ := hY t ht
    have g : ∀ z, 83 < z ∧ z < 93 → I z = I0 z := fun z hz => hI z (by omega)
    obtain ⟨I1, q124, f1, f2, f3, f4, f5⟩ := s124 (S := S) (J := J) (I := I) (s := t) (q := qO r t) (Fs := fO r t) (by omega) hO'.1 k1 k4 hEI (by rw [g 88 (by omega)]; exact y4) (fun x hx => by rw [g 89 (by omega), g 90 (by omega), g 91 (by omega), g 92 (by omega)]; exact y5 x hx)
    obtain ⟨I', l1, e, r1, r2⟩ := ih (t + 1) I1 (by omega) (fun x hx => (f1.1 x hx).trans (hI x hx)) (fun t' ht' => by
      by_cases htt : t' = t
      · rw [htt]
        exact ⟨f2, f3, f4, f5⟩
      · exact mLy_M htt (hL t' (by omega)) (okSt_i hO' (by omega)).1 f1)
    refine ⟨I', l1, ?_, r1, r2⟩
    rw [B138_46, hI 76 (by omega), h13, if_neg (nI_ge (by omega) (by omega)), B138_54 hb q124, B138_59, nI_1]
    exact e
def mL (r : zE) (g t0 : Nat) (st : zSt) (I0 I : zI) : Prop := ((∀ z, z ≠ 76 → z ≠ 93 → z < 103 → I z = I0 z) ∧ (∀ e, e < 42 ∨ 45 < e → I 76 e = I0 76 e)) ∧ eqG (I 105) st.1 ∧ (∀ t, t < nS r → dnF r g t0 t = true → mOK r t (st.2 t) I) ∧ (∀ t, t < nS r → dnF r g t0 t = false → mLy r t I ∧ I 103 (2 * t) = 0 ∧ I 103 (2 * t + 1) = 0) ∧ (∀ t, dnF r g t0 t = false → st.2 t = none)
theorem mOK_U {t s : Nat} {o : Option zPl} {I I' : zI} (hts : t ≠ s) (h : mOK r t o I) (hf : frPU I I' s) : mOK r t o I' := by
  obtain ⟨F1, F2, F3, F4, F5⟩ := hf
  have g : ∀ z, 93 < z → z < 103 → I' z = I z := fun z a b => F1 z (by omega) (by omega) (by omega) (by omega) (by omega) (by omega) (by omega) (by omega) (by omega)
  obtain ⟨a1, a2, a3, a4, a5, a6⟩ := h
  refine ⟨by rw [F5 t hts]; exact a1, by rw [g 94 (by omega) (by omega)]; exact a2, fun j x hx hj => by rw [g 95 (by omega) (by omega), g 96 (by omega) (by omega), g 97 (by omega) (by omega)]; exact a3 j x hx hj, fun p hp => by rw [g 98 (by omega) (by omega)]; exact a4 p hp, fun u hu => ?_, fun ho => by rw [F3 _ (by omega), F3 _ (by omega)]; exact a6 ho⟩
  have h5 := a5 u hu
  have e : ∀ q, q = 2 * t ∨ q = 2 * t + 1 → ∀ pg x y k h f m tt, mPt I q pg x y k h f m tt → mPt I' q pg x y k h f m tt := by
    intro q hq pg x y k h f m tt hm
    have e4 : ∀ j, j < 11 → I' 104 (11 * q + j) = I 104 (11 * q + j) := fun j hj => F4 _ (by omega)
    obtain ⟨b1, b2, b3, b4, b5, b6, b7, b8, b9⟩ := hm
    have e40 := e4 0 (by omega)
    rw [Nat.add_zero] at e40
    refine ⟨by rw [e40]; exact b1, by rw [e4 1 (by omega)]; exact b2, by rw [e4 2 (by omega)]; exact b3, by rw [e4 3 (by omega)]; exact b4, by rw [e4 4 (by omega)]; exact b5, by rw [e4 5 (by omega)]; exact b6, by rw [e4 6 (by omega)]; exact b7, fun c hc => ?_, by rw [F3 q (by omega)]; exact b9⟩
    have := e4 (7 + c) (by omega)
    rw [show 11 * q + (7 + c) = 11 * q + 7 + c by omega] at this
    rw [this]
    exact b8 c hc
  refine ⟨⟨e _ (Or.inl rfl) _ _ _ _ _ _ _ _ h5.1.1, fun v hv => e _ (Or.inr rfl) _ _ _ _ _ _ _ _ (h5.1.2 v hv)⟩, fun hn => by rw [F3 _ (by omega)]; exact h5.2 hn⟩
theorem g138_t {I0 : zI} {g : Nat} (hO' : okSt r) (hS : mSh I0 C R) (hY : mSy r I0) (h13 : I0 76 13 = nI (nS r)) (hg : g ≤ 9) (hb : Nat.ble k.1 (mBu 138).1 = true ∧ Nat.ble k.2 (mBu 138).2 = true) : ∀ (m t : Nat) (st : zSt) (I : zI), nS r = t + m → mL r g t st I0 I →
    ∃ (I' : zI) (l2 : Int32), zd S 138 74 [some (.ref 76), some (.int (nI g)), some (.int (nI t))] [] I J k = zd S 138 112 [some (.ref 76), some (.int (nI g)), some (.int l2)] [] I' J k ∧ mL r g (nS r) (simT r C R g t m st) I0 I' := by
  have hn4 := hO'.2.2.1
  intro m
  induction m with
  | zero =>
    intro t st I hm hL
    have ht : nS r = t := by omega
    refine ⟨I, nI t, ?_, by rw [ht]; exact hL⟩
    rw [B138_74, hL.1.2 13 (by omega), h13, if_pos (nI_le (by omega) (by omega))]
  | succ m ih =>
    intro t st I hm hL
    have hL' := hL
    obtain ⟨⟨L1, L1e⟩, L2, L3, L4, L5⟩ := hL
    have ht : t < nS r := by omega
    have zt : zin (nI t) 4 = true := zin_n (by omega) (by decide)
    have ct : (nI t).toNatClampNeg = t := nI_clamp (by omega)
    have hYI : mSy r I := by
      intro t' ht'
      rw [L1 85 (by omega) (by omega) (by omega), L1 86 (by omega) (by omega) (by omega), L1 87 (by omega) (by omega) (by omega), L1 88 (by omega) (by omega) (by omega), L1 89 (by omega) (by omega) (by omega), L1 90 (by omega) (by omega) (by omega), L1 91 (by omega) (by omega) (by omega), L1 92 (by omega) (by omega) (by omega)]
      exact hY t' ht'
    have hu9 := (okSt_i hO' ht).2.2.2.2
    have eu : nI (uO r t) = nI g ↔ uO r t = g := nI_eq (by omega) (by omega)
    have h85 : I 85 t = nI (uO r t) := (hYI t ht).1
    have hpre : zd S 138 74 [some (.ref 76), some (.int (nI g)), some (.int (nI t))] [] I J k = if ¬ nI (uO r t) = nI g then zd S 138 106 [some (.ref 76), some (.int (nI g)), some (.int (nI t))] [] I J k else zd S 138 92 [some (.ref 76), some (.int (nI g)), some (.int (nI t))] [] I J k := by
      rw [B138_74, L1e 13 (by omega), h13, if_neg (nI_ge (by omega) (by omega)), B138_82 zt, ct, h85]
    by_cases hug : uO r t = g
    · have hst : simT r C R g t (m + 1) st = simT r C R g (t + 1) m (sim1 r C R st t) := by
        show simT r C R g (t + 1) m (if uO r t = g then sim1 r C R st t else st) = _
        rw [if_pos hug]
      have hd : dnF r g t t = false := by
        cases hb' : dnF r g t t with
        | false => rfl
        | true => have := dnF_i.mp hb'; omega
      have hdn : ∀ t', dnF r g (t + 1) t' = true ↔ dnF r g t t' = true ∨ t' = t := by
        intro t'
        rw [dnF_i, dnF_i]
        constructor
        · rintro (q | q)
          · exact Or.inl (Or.inl q)
          · by_cases htt : t' = t
            · exact Or.inr htt
            · exact Or.inl (Or.inr ⟨q.1, by omega⟩)
        · rintro ((q | q) | q)
          · exact Or.inl q
          · exact Or.inr ⟨q.1, by omega⟩
          · exact Or.inr ⟨by rw [q]; exact hug, by omega⟩
      have hdf : ∀ t', dnF r g (t + 1) t' = false → dnF r g t t' = false ∧ t' ≠ t := by
        intro t' h
        refine ⟨?_, fun q => ?_⟩
        · cases hb' : dnF r g t t' with
          | false => rfl
          | true =>
            rw [(hdn t').mpr (Or.inl hb')] at h
            cases h
        · rw [(hdn t').mpr (Or.inr q)] at h
          cases h
      have hdt : ∀ t', t' ≠ t → dnF r g (t + 1) t' = true → dnF r g t t' = true := by
        intro t' htt h
        rcases (hdn t').mp h with q | q
        · exact q
        · exact absurd q htt
      obtain ⟨hly, z1, z2⟩ := L4 t ht hd
      have ho := L5 t hd
      have hle2 := hO_le (r := r) (t := t)
      have e0 : nI (hO r t) = 0 ↔ hO r t = 0 := by
        have := nI_eq (a := hO r t) (b := 0) (by omega) (by decide)
        rw [nI_0] at this
        exact this
      rw [hst, hpre, if_neg (not_not_intro (eu.mpr hug)), B138_92 zt, ct, hly.1]
      by_cases h0 : hO r t = 0
      · have hP := mPl_of hO' ht hYI hly h0
        have hSI : mSh I C R := ⟨by rw [L1e 0 (by omega)]; exact hS.1, by rw [L1e 1 (by omega)]; exact hS.2.1, hS.2.2.1, hS.2.2.2⟩
        obtain ⟨I1, q137, f1, f2, f3⟩ := s137 (S := S) (J := J) (I := I) (s := t) (by omega) hP hSI (by rw [hly.1, h0]; rfl) (fun q hq => by
          have : q = 0 ∨ q = 1 := by omega
          rcases this with h | h
          · rw [h, Nat.add_zero]
            exact z1
          · rw [h]
            exact z2)
        have hpc : plW (I 105) C R (bdL (LO r t)) (LO r t).length (cO r t) (rO r t) = plW st.1 C R (bO r t) (nO r t) (cO r t) (rO r t) := plc_c L2 hS.2.2.1.2 hS.2.2.2.2
        have F1 := f1.1
        have g1 : ∀ z, 93 < z → z < 103 → I1 z = I z := fun z a b => F1 z (by omega) (by omega) (by omega) (by omega) (by omega) (by omega) (by omega) (by omega) (by omega)
        have hb1 : (∀ z, z ≠ 76 → z ≠ 93 → z < 103 → I1 z = I0 z) ∧ (∀ e, e < 42 ∨ 45 < e → I1 76 e = I0 76 e) := ⟨fun z a b c => (F1 z a (by omega) (by omega) (by omega) (by omega) (by omega) (by omega) (by omega) b).trans (L1 z a b c), fun e he => (f1.2.1 e he).trans (L1e e he)⟩
        have hrest : eqG (I1 105) (sim1 r C R st t).1 → mOK r t ((sim1 r C R st t).2 t) I1 → mL r g (t + 1) (sim1 r C R st t) I0 I1 := by
          intro hG1 hok1
          refine ⟨hb1, hG1, fun t' ht' hd' => ?_, fun t' ht' hd' => ?_, fun t' hd' => ?_⟩
          · by_cases htt : t' = t
            · rw [htt]
              exact hok1
            · rw [sim1_o htt]
              exact mOK_U htt (L3 t' ht' (hdt t' htt hd')) f1
          · have h2 := hdf t' hd'
            obtain ⟨w1, w2, w3⟩ := L4 t' ht' h2.1
            refine ⟨⟨by rw [f1.2.2.2.2 t' h2.2]; exact w1.1, by rw [g1 94 (by omega) (by omega)]; exact w1.2.1, fun j x hx hj => by rw [g1 95 (by omega) (by omega), g1 96 (by omega) (by omega), g1 97 (by omega) (by omega)]; exact w1.2.2.1 j x hx hj, fun p hp => by rw [g1 98 (by omega) (by omega)]; exact w1.2.2.2 p hp⟩, by rw [f1.2.2.1 _ (by omega)]; exact w2, by rw [f1.2.2.1 _ (by omega)]; exact w3⟩
          · have h2 := hdf t' hd'
            rw [sim1_o h2.2]
            exact L5 t' h2.1
        have hlin : I1 94 t = nI (lC1 r (fO r t) (qO r t)) ∧ (∀ j x, (LO r t)[j]? = some x → j < 41 → I1 95 (41 * t + j) = nI (4 * t + x.1) ∧ I1 96 (41 * t + j) = nI x.2.1 ∧ I1 97 (41 * t + j) = nI x.2.2.1) ∧ (∀ p, p < qO r t → I1 98 (4 * t + p) = oI ((pB r (fO r t p) 0).map Prod.fst)) := ⟨by rw [g1 94 (by omega) (by omega)]; exact hly.2.1, fun j x hx hj => by rw [g1 95 (by omega) (by omega), g1 96 (by omega) (by omega), g1 97 (by omega) (by omega)]; exact hly.2.2.1 j x hx hj, fun p hp => by rw [g1 98 (by omega) (by omega)]; exact hly.2.2.2 p hp⟩
        have hnext : mL r g (t + 1) (sim1 r C R st t) I0 I1 := by
          cases hpl : plW st.1 C R (bO r t) (nO r t) (cO r t) (rO r t) with
          | none =>
            have hs1 : sim1 r C R st t = st := by unfold sim1; rw [if_pos h0, hpl]
            obtain ⟨v1, v2, v3⟩ := f2 (hpc.trans hpl)
            refine hrest (by rw [hs1, v1]; exact L2) ?_
            rw [hs1, ho]
            refine ⟨?_, hlin.1, hlin.2.1, hlin.2.2, (fun u hu => by cases hu), fun _ => by rw [v3]; exact ⟨z1, z2⟩⟩
            rw [v2]
            unfold hdF
            rw [if_pos h0]
            rfl
          | some u =>
            obtain ⟨v1, v2, v3, v4⟩ := f3 u (hpc.trans hpl)
            have hps := plc_s (bO_n r t) hS.2.2.2.1 hpl
            have hs1 : sim1 r C R st t = (stG t (bO r t) (nO r t) (cO r t) (rO r t) u st.1, fun t' => if t' = t then some u else st.2 t') := by unfold sim1; rw [if_pos h0, hpl]
            refine hrest (by rw [hs1]; exact stG_p hS.2.2.1.2 hS.2.2.2.2 hps.1 hps.2 L2 v1) ?_
            rw [hs1]
            dsimp only
            rw [if_pos rfl]
            refine ⟨?_, hlin.1, hlin.2.1, hlin.2.2, fun u' hu' => ?_, fun hh => by cases hh⟩
            · rw [v2]
              unfold hdF
              rw [if_pos h0]
              rfl
            · cases hu'
              exact ⟨v3, v4⟩
        obtain ⟨I', l2, e, hr⟩ := ih (t + 1) (sim1 r C R st t) I1 (by omega) hnext
        refine ⟨I', l2, ?_, hr⟩
        rw [if_neg (not_not_intro (e0.mpr h0)), B138_101 hb q137, B138_106, nI_1]
        exact e
      · have hs1 : sim1 r C R st t = st := by unfold sim1; rw [if_neg h0]
        rw [hs1]
        have hnext : mL r g (t + 1) st I0 I := by
          refine ⟨⟨L1, L1e⟩, L2, fun t' ht' hd' => ?_, fun t' ht' hd' => L4 t' ht' (hdf t' hd').1, fun t' hd' => L5 t' (hdf t' hd').1⟩
          by_cases htt : t' = t
          · rw [htt, ho]
            refine ⟨?_, hly.2.1, hly.2.2.1, hly.2.2.2, (fun u hu => by cases hu), fun _ => ⟨z1, z2⟩⟩
            rw [hly.1]
            unfold hdF
            rw [if_neg h0]
          · exact L3 t' ht' (hdt t' htt hd')
        obtain ⟨I', l2, e, hr⟩ := ih (t + 1) st I (by omega) hnext
        refine ⟨I', l2, ?_, hr⟩
        rw [if_pos (fun z => h0 (e0.mp z)), B138_106, nI_1]
        exact e
    · have hst : simT r C R g t (m + 1) st = simT r C R g (t + 1) m st := by
        show simT r C R g (t + 1) m (if uO r t = g then sim1 r C R st t else st) = _
        rw [if_neg hug]
      have hdn : ∀ t', dnF r g (t + 1) t' = dnF r g t t' := by
        intro t'
        apply b_ext2
        rw [dnF_i, dnF_i]
        constructor
        · rintro (q | q)
          · exact Or.inl q
          · refine Or.inr ⟨q.1, ?_⟩
            by_cases htt : t' = t
            · rw [htt] at q
              exact absurd q.1 hug
            · omega
        · rintro (q | q)
          · exact Or.inl q
          · exact Or.inr ⟨q.1, by omega⟩
      obtain ⟨I', l2, e, hr⟩ := ih (t + 1) st I (by omega) ⟨⟨L1, L1e⟩, L2, fun t' h1 h2 => L3 t' h1 (by rw [← hdn]; exact h2), fun t' h1 h2 => L4 t' h1 (by rw [← hdn]; exact h2), fun t' h1 => L5 t' (by rw [← hdn]; exact h1)⟩
      rw [hst]
      refine ⟨I', l2, ?_, hr⟩
      rw [hpre, if_pos (fun z => hug (eu.mp z)), B138_106, nI_1]
      exact e
theorem g138_u {I0 : zI} (hO' : okSt r) (hS : mSh I0 C R) (hY : mSy r I0) (h13 : I0 76 13 = nI (nS r)) (hb : Nat.ble k.1 (mBu 138).1 = true ∧ Nat.ble k.2 (mBu 138).2 = true) : ∀ (g : Nat) (st : zSt) (I : zI) (o2 : Option Value), g ≤ 9 → mL r g 0 st I0 I →
    ∃ (I' : zI) (l1 : Int32), zd S 138 68 [some (.ref 76), some (.int (nI g)), o2] [] I J k = zd S 138 118 [some (.ref 76), some (.int l1), none] [] I' J k ∧ ((∀ z, z ≠ 76 → z ≠ 93 → z < 103 → I' z = I0 z) ∧ (∀ e, e < 42 ∨ 45 < e → I' 76 e = I0 76 e)) ∧ eqG (I' 105) (simO r C R g st).1 ∧ (∀ t, t < nS r → mOK r t ((simO r C R g st).2 t) I') := by
  have hn4 := hO'.2.2.1
  have hin : ∀ (g : Nat) (st : zSt) (I : zI) (o2 : Option Value), g ≤ 9 → mL r g 0 st I0 I → ∃ (I' : zI) (l2 : Int32), zd S 138 68 [some (.ref 76), some (.int (nI g)), o2] [] I J k = zd S 138 68 [some (.ref 76), some (.int (nI g + (-1))), some (.int l2)] [] I' J k ∧ mL r g (nS r) (simT r C R g 0 (nS r) st) I0 I' := by
    intro g st I o2 hg hL
    obtain ⟨I', l2, e, hL'⟩ := g138_t (S := S) (J := J) (k := k) hO' hS hY h13 hg hb (nS r) 0 st I (by omega) hL
    refine ⟨I', l2, ?_, hL'⟩
    rw [B138_68, if_neg (nI_pos (by omega)), B138_72, ← nI_0, e, B138_112]
  intro g
  induction g with
  | zero =>
    intro st I o2 hg hL
    obtain ⟨I', l2, e, L1, L2, L3, L4, L5⟩ := hin 0 st I o2 hg hL
    have hall : ∀ t, t < nS r → dnF r 0 (nS r) t = true := fun t ht => dnF_i.mpr (by omega)
    refine ⟨I', nI 0 + (-1), ?_, L1, L2, fun t ht => L3 t ht (hall t ht)⟩
    rw [e, B138_68, if_pos (show nI 0 + -1 < 0 by decide)]
  | succ g ih =>
    intro st I o2 hg hL
    obtain ⟨I1, l2, e1, L1, L2, L3, L4, L5⟩ := hin (g + 1) st I o2 hg hL
    have hdn : ∀ t, t < nS r → dnF r g 0 t = dnF r (g + 1) (nS r) t := by
      intro t ht
      apply b_ext2
      rw [dnF_i, dnF_i]
      omega
    have hdn2 : ∀ t, dnF r g 0 t = false → dnF r (g + 1) (nS r) t = false := by
      intro t hd
      cases hb' : dnF r (g + 1) (nS r) t with
      | false => rfl
      | true =>
        have : dnF r g 0 t = true := dnF_i.mpr (by have := dnF_i.mp hb'; omega)
        rw [this] at hd
        cases hd
    obtain ⟨I', l1, e2, hr⟩ := ih (simT r C R (g + 1) 0 (nS r) st) I1 (some (.int l2)) (by omega) ⟨L1, L2, fun t h1 h2 => L3 t h1 (by rw [← hdn t h1]; exact h2), fun t h1 h2 => L4 t h1 (by rw [← hdn t h1]; exact h2), fun t h1 => L5 t (hdn2 t h1)⟩
    refine ⟨I', l1, ?_, hr⟩
    rw [e1, pk_m1]
    exact e2
theorem g138_w {I0 : zI} : ∀ (m j : Nat) (I : zI), 26 = j + m → (∀ z, z ≠ 78 → I z = I0 z) → (∀ j', j' < j → I 78 j' = I0 77 j') → ∃ (I' : zI) (l1 : Int32), zd S 138 20 [some (.ref 76), some (.int (nI j)), none] [] I J k = zd S 138 44 [some (.ref 76), some (.int l1), none] [] I' J k ∧ (∀ z, z ≠ 78 → I' z = I0 z) ∧ (∀ j', j' < 26 → I' 78 j' = I0 77 j') := by
  intro m
  induction m with
  | zero =>
    intro j I hm hI hj
    have h26 : (26 : Int32) ≤ nI j := nI_le (a := 26) (by omega) (by omega)
    refine ⟨I, nI j, ?_, hI, fun j' h' => hj j' (by omega)⟩
    rw [B138_20, if_pos h26]
  | succ m ih =>
    intro j I hm hI hj
    have h26 : ¬ (26 : Int32) ≤ nI j := nI_ge (b := 26) (by omega) (by decide)
    have zj : zin (nI j) 26 = true := zin_n (by omega) (by decide)
    obtain ⟨I', l1, e, r1, r2⟩ := ih (j + 1) (u2 I 78 j (I0 77 j)) (by omega) (fun z hz => by rw [u2n (nbeq hz)]; exact hI z hz) (fun j' h' => by
      by_cases hjj : j' = j
      · rw [hjj, u2s]
      · rw [u2ne hjj]
        exact hj j' (by omega))
    refine ⟨I', l1, ?_, r1, r2⟩
    rw [B138_20, if_neg h26, B138_26 zj zj, nI_clamp (by omega), hI 77 (by decide), B138_38, nI_1]
    exact e
theorem g138_n {I : zI} {st : zSt} (hn4 : nS r ≤ 4) (h13 : I 76 13 = nI (nS r)) (h93 : ∀ t, t < nS r → I 93 t = nI (hdF r t (st.2 t))) : ∀ (m t p : Nat), nS r = t + m → p = cnT (fun t => hd0 r st t) t → zd S 138 122 [some (.ref 76), some (.int (nI p)), some (.int (nI t))] [] I J k = some (some (.int (nI (cnT (fun t => hd0 r st t) (nS r)))), mk I J, k) := by
  intro m
  induction m with
  | zero =>
    intro t p hm hp
    rw [B138_122, h13, if_pos (nI_le (by omega) (by omega)), B138_153, hp, show t = nS r by omega]
  | succ m ih =>
    intro t p hm hp
    have zt : zin (nI t) 4 = true := zin_n (by omega) (by decide)
    have hhd3 : hdF r t (st.2 t) ≤ 3 := by
      unfold hdF
      have := hO_le (r := r) (t := t)
      split
      · split <;> omega
      · omega
    have e0 : nI (hdF r t (st.2 t)) = 0 ↔ hdF r t (st.2 t) = 0 := by
      have := nI_eq (a := hdF r t (st.2 t)) (b := 0) (by omega) (by decide)
      rw [nI_0] at this
      exact this
    have hcs : cnT (fun t => hd0 r st t) (t + 1) = cnT (fun t => hd0 r st t) t + (if hd0 r st t = true then 1 else 0) := rfl
    rw [B138_122, h13, if_neg (nI_ge (by omega) (by omega)), B138_130 zt, nI_clamp (by omega), h93 t (by omega)]
    by_cases hz : hdF r t (st.2 t) = 0
    · rw [if_neg (not_not_intro (e0.mpr hz)), B138_139, nI_1, nI_1]
      refine ih (t + 1) (p + 1) (by omega) ?_
      rw [hcs, show hd0 r st t = true from decide_eq_true hz, if_pos rfl, hp]
    · rw [if_pos (fun z => hz (e0.mp z)), B138_145, nI_1]
      refine ih (t + 1) p (by omega) ?_
      rw [hcs, show hd0 r st t = false from decide_eq_false hz, if_neg (by decide), hp]
      rfl
theorem s138 {I : zI} (hO' : okSt r) (hn0 : 0 < nS r) (hD : I 76 2 = nI (eD r)) (hW : ∀ j, j < 26 → I 77 j = nI (eW r j)) (hM : mPat I (eP r) (en r) (ek r) (ev r)) (hS : mSh I C R) (hY : mSy r I) (h13 : I 76 13 = nI (nS r)) :
    ∃ I', zq S 138 [.ref 76] I J (some (.int (nI (cnT (fun t => hd0 r (simP r C R) t) (nS r))))) I' J ∧ fQ I I' ∧ I' 76 24 = 1 ∧ (∀ j, j < 26 → I' 78 j = nI (eW r j)) ∧ eqG (I' 105) (simP r C R).1 ∧ (∀ t, t < nS r → mOK r t ((simP r C R).2 t) I') := by
  have hn4 := hO'.2.2.1
  have q115 := s115 (S := S) (I := I) (J := J)
  generalize hI1 : uc (uc I 105 (filA (I 105) 0 192)) 103 (filA (I 103) 0 8) = I1 at q115
  have o1 : ∀ z, z ≠ 103 → z ≠ 105 → I1 z = I z := fun z a b => by rw [← hI1, ucn (nbeq a), ucn (nbeq b)]
  have i105 : ∀ i, i < 192 → I1 105 i = 0 := fun i hi => by rw [← hI1, ucn rfl, uc_s]; exact if_pos hi
  have i103 : ∀ i, i < 8 → I1 103 i = 0 := fun i hi => by rw [← hI1, uc_s]; exact if_pos hi
  generalize hI2 : u2 I1 76 24 1 = I2
  have o2 : ∀ z, z ≠ 76 → I2 z = I1 z := fun z a => by rw [← hI2, u2n (nbeq a)]
  have o2e : ∀ e, e ≠ 24 → I2 76 e = I 76 e := fun e he => by rw [← hI2, u2ne he, o1 76 (by decide) (by decide)]
  have i224 : I2 76 24 = 1 := by rw [← hI2, u2s]
  obtain ⟨I3, l1, e3, o3, w3⟩ := g138_w (S := S) (J := J) (k := (0, 0)) (I0 := I2) 26 0 I2 (by omega) (fun _ _ => rfl) (fun j' h => absurd h (Nat.not_lt_zero _))
  have w3' : ∀ j, j < 26 → I3 78 j = nI (eW r j) := fun j hj => by rw [w3 j hj, o2 77 (by decide), o1 77 (by decide) (by decide)]; exact hW j hj
  have o30 : ∀ z, z ≠ 76 → z ≠ 78 → z ≠ 103 → z ≠ 105 → I3 z = I z := fun z a b c d => by rw [o3 z b, o2 z a, o1 z c d]
  have o3e : ∀ e, e ≠ 24 → I3 76 e = I 76 e := fun e he => by rw [o3 76 (by decide), o2e e he]
  have hE3 : mEn r I3 := by
    obtain ⟨a3, a4, a5, a6⟩ := hM
    exact ⟨by rw [o3e 2 (by decide)]; exact hD, w3', by rw [o3e 5 (by decide)]; exact a3, fun p hp => by rw [o30 79 (by decide) (by decide) (by decide) (by decide)]; exact a4 p hp, fun p hp i hi => by rw [o30 80 (by decide) (by decide) (by decide) (by decide)]; exact a5 p hp i hi, fun p hp i hi => by rw [o30 81 (by decide) (by decide) (by decide) (by decide)]; exact a6 p hp i hi⟩
  have hY3 : mSy r I3 := by
    intro t ht
    rw [o30 85 (by decide) (by decide) (by decide) (by decide), o30 86 (by decide) (by decide) (by decide) (by decide), o30 87 (by decide) (by decide) (by decide) (by decide), o30 88 (by decide) (by decide) (by decide) (by decide), o30 89 (by decide) (by decide) (by decide) (by decide), o30 90 (by decide) (by decide) (by decide) (by decide), o30 91 (by decide) (by decide) (by decide) (by decide), o30 92 (by decide) (by decide) (by decide) (by decide)]
    exact hY t ht
  obtain ⟨I4, l4, e4, o4, ly4⟩ := g138_l (S := S) (J := J) (k := (0, 0)) (I0 := I3) hO' hE3 hY3 (by rw [o3e 13 (by decide)]; exact h13) ⟨rfl, rfl⟩ (nS r) 0 I3 (by omega) (fun _ _ => rfl) (fun t' h => absurd h (Nat.not_lt_zero _))
  have h76 : I4 76 = I3 76 := o4 76 (by omega)
  have hS4 : mSh I4 C R := ⟨by rw [h76, o3e 0 (by decide)]; exact hS.1, by rw [h76, o3e 1 (by decide)]; exact hS.2.1, hS.2.2.1, hS.2.2.2⟩
  have hY4 : mSy r I4 := by
    intro t ht
    rw [o4 85 (by omega), o4 86 (by omega), o4 87 (by omega), o4 88 (by omega), o4 89 (by omega), o4 90 (by omega), o4 91 (by omega), o4 92 (by omega)]
    exact hY3 t ht
  have i4105 : ∀ i, i < 192 → I4 105 i = 0 := fun i hi => by rw [o4 105 (by omega), o3 105 (by decide), o2 105 (by decide)]; exact i105 i hi
  have i4103 : ∀ i, i < 8 → I4 103 i = 0 := fun i hi => by rw [o4 103 (by omega), o3 103 (by decide), o2 103 (by decide)]; exact i103 i hi
  have hd0' : ∀ t, t < nS r → dnF r 9 0 t = false := by
    intro t ht
    have := (okSt_i hO' ht).2.2.2.2
    cases hb' : dnF r 9 0 t with
    | false => rfl
    | true => have := dnF_i.mp hb'; omega
  obtain ⟨I5, l5, e5, ⟨F1, F2⟩, G5, ok5⟩ := g138_u (S := S) (J := J) (k := (0, 0)) (I0 := I4) hO' hS4 hY4 (by rw [h76, o3e 13 (by decide)]; exact h13) ⟨rfl, rfl⟩ 9 (fun _ => 0, fun _ => none) I4 none (Nat.le_refl _) ⟨⟨fun _ _ _ _ => rfl, fun _ _ => rfl⟩, fun i hi => i4105 i hi, fun t ht hd => (by rw [hd0' t ht] at hd; cases hd), fun t ht _ => ⟨ly4 t ht, i4103 _ (by omega), i4103 _ (by omega)⟩, fun _ _ => rfl⟩
  have h513 : I5 76 13 = nI (nS r) := by rw [F2 13 (by omega), h76, o3e 13 (by decide)]; exact h13
  have hfin := g138_n (S := S) (J := J) (k := (0, 0)) (I := I5) (st := simP r C R) hn4 h513 (fun t ht => (ok5 t ht).1) (nS r) 0 0 (by omega) rfl
  have hn0' : ¬ I 76 13 = 0 := by rw [h13]; exact nI_ne0 hn0 (by omega)
  refine ⟨I5, zq_of rfl ?_, ⟨fun z hz => ?_, fun e he he2 => ?_⟩, ?_, fun j hj => ?_, G5, ok5⟩
  · show zd S 138 0 [some (.ref 76), none, none] [] I J (0, 0) = _
    rw [B138_0, if_pos hn0', B138_9 ⟨rfl, rfl⟩ q115, B138_13, hI2, B138_18, ← nI_0, e3, B138_44, ← nI_0, e4, B138_65, show (9 : Int32) = nI 9 from rfl, e5, B138_118, ← nI_0]
    exact hfin
  · rw [F1 z (by omega) (by omega) (by omega), o4 z (by omega), o30 z (by omega) (by omega) (by omega) (by omega)]
  · rw [F2 e he2, h76, o3e e he]
  · rw [F2 24 (by omega), h76, o3 76 (by decide)]
    exact i224
  · rw [F1 78 (by decide) (by decide) (by decide), o4 78 (by omega)]
    exact w3' j hj
end MPLAN
