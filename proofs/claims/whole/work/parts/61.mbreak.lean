/-! plan: a story is broken into lines, the other side -/
def mEn (r : zE) (I : zI) : Prop := I 76 2 = nI (eD r) ∧ (∀ j, j < 26 → I 78 j = nI (eW r j)) ∧ mPat I (eP r) (en r) (ek r) (ev r)
def bsM (r : zE) (a : Nat) (I : zI) (f : Nat) : Prop := ∀ t, f ≤ t → t < pl r a → I 101 t = oI ((pB r a t).map Prod.fst) ∧ ∀ x, pB r a t = some x → I 102 t = nI x.2
theorem pB_v {r : zE} {a : Nat} (hr : okE r) (hl : pl r a ≤ 192) {t : Nat} {x : Nat × Nat} (h : pB r a t = some x) : x.1 < 2 ^ 29 := by
  by_cases hq : t ≤ pl r a
  · have := (bsL_b hr.1.2 (pl r a - t) t (by omega) x h).1
    have : 3700 * (pl r a - t) ≤ 3700 * 207 := Nat.mul_le_mul_left _ (by omega)
    omega
  · unfold pB bsL at h
    rw [show pl r a - t = 0 by omega] at h
    cases h
section MBREAK
variable {S : Nat × (Nat → Int32)} {J : zJ} {k : zK} {r : zE} {p a : Nat}
theorem g123_l {I0 : zI} (hr : okE r) (hPa : okPa r a) (hp : p < 20) (hb : Nat.ble k.1 (mBu 123).1 = true ∧ Nat.ble k.2 (mBu 123).2 = true) (h76 : I0 76 2 = nI (eD r)) (h78 : ∀ j, j < 26 → I0 78 j = nI (eW r j)) (h89 : ∀ j, j < pl r a → I0 89 (192 * p + j) = nI (pC r a j)) (h99 : ∀ j, j ≤ pl r a → I0 99 j = bI (decide (pQ r a j ≠ 0)) ∧ I0 100 j = bI (isE (pQ r a j))) :
    ∀ (f : Nat) (I : zI), f < pl r a → (∀ x, x ≠ 101 → x ≠ 102 → I x = I0 x) → I 101 (pl r a) = 0 → bsM r a I (f + 1) → ∃ I', zd S 123 23 [some (.ref 76), some (.int (nI p)), some (.int (nI (pl r a))), some (.int (nI f)), none, none, none] [] I J k = some (none, mk I' J, k) ∧ (∀ x, x ≠ 101 → x ≠ 102 → I' x = I0 x) ∧ bsM r a I' 0 := by
  obtain ⟨P1, P2, P3, P4, P5, P6, P7, P8⟩ := okPa_i hr hPa
  have h12 := posL_12 P1
  have hplS : pl r a = (pL r a).sum := rfl
  have hl : pl r a ≤ 192 := by omega
  have ok : okB (pl r a) (pl r a + ((pL r a).length - 1)) (pQ r a) (cpL (pL r a)) (bpL (pL r a)) := okB_L P1 P2
  have hstep : ∀ (f : Nat) (I : zI), f < pl r a → (∀ x, x ≠ 101 → x ≠ 102 → I x = I0 x) → I 101 (pl r a) = 0 → bsM r a I (f + 1) → ∃ I', zd S 123 23 [some (.ref 76), some (.int (nI p)), some (.int (nI (pl r a))), some (.int (nI f)), none, none, none] [] I J k = zd S 123 23 [some (.ref 76), some (.int (nI p)), some (.int (nI (pl r a))), some (.int (nI f + (-1))), none, none, none] [] I' J k ∧ (∀ x, x ≠ 101 → x ≠ 102 → I' x = I0 x) ∧ I' 101 (pl r a) = 0 ∧ bsM r a I' f := by
    intro f I hf hI hl0 hv
    have zf : zin (nI f) 193 = true := zin_n (by omega) (by decide)
    have cf : (nI f).toNatClampNeg = f := nI_clamp (by omega)
    generalize hM : u2 I 101 f (-1) = M
    have mo : ∀ x, x ≠ 101 → M x = I x := fun x h => by rw [← hM, u2n (nbeq h)]
    have m1 : ∀ x, x ≠ f → M 101 x = I 101 x := fun x h => by rw [← hM, u2ne h]
    have mf : M 101 f = -1 := by rw [← hM, u2s]
    have h1 : zd S 123 23 [some (.ref 76), some (.int (nI p)), some (.int (nI (pl r a))), some (.int (nI f)), none, none, none] [] I J k = zd S 123 42 [some (.ref 76), some (.int (nI p)), some (.int (nI (pl r a))), some (.int (nI f)), some (.int (nI 0)), some (.int (nI (f + 1))), none] [] M J k := by
      rw [B123_23, if_neg (nI_pos (by omega)), B123_27 zf, cf, B123_34, nI_1, hM]
      rfl
    have hM0 : ∀ x, x ≠ 101 → x ≠ 102 → M x = I0 x := fun x a1 a2 => (mo x a1).trans (hI x a1 a2)
    by_cases hbg : f = 0 ∨ pQ r a f = 1 ∨ pQ r a f = 2
    · have H : mbH (eD r) (pl r a) p f (eW r) (pC r a) (pQ r a) (fun t => (pB r a t).map Prod.fst) M := by
        refine ⟨by rw [hM0 76 (by decide) (by decide)]; exact h76, fun j hj => ?_, fun j hj => by rw [hM0 78 (by decide) (by decide)]; exact h78 j hj, fun j hj => by rw [hM0 99 (by decide) (by decide), hM0 100 (by decide) (by decide)]; exact h99 j hj, fun t h1 h2 => ?_, by rw [m1 _ (by omega)]; exact hl0, ok.2.2.2.2.2.1, fun j hj => ?_, fun j hj => (hr.2.1 j hj).2⟩
        · have := (tx_b (pL r a) a 0 j P3 P1 hj).2
          rw [Nat.zero_add] at this
          have h2 := (isN_i _).mp this
          refine ⟨by rw [hM0 89 (by decide) (by decide)]; exact h89 j hj, h2.1, h2.2⟩
        · rw [m1 t (by omega)]
          refine ⟨(hv t (by omega) h2).1, fun v hvv => ?_⟩
          dsimp only at hvv
          cases hx : pB r a t with
          | none => rw [hx] at hvv; cases hvv
          | some x =>
            rw [hx] at hvv
            cases hvv
            exact pB_v hr hl hx
        · by_cases h0 : j = 0
          · rw [h0, ok.2.2.2.2.2.2.2]
            omega
          · exact ok.2.2.2.2.2.2.1 j (by omega) hj
      obtain ⟨I', l4, l5, e, f1, f2, f3⟩ := g123_i (S := S) (J := J) (k := k) hr.1.2 hl hp H hf (by omega) hb (pl r a - f) (f + 1) 0 none M (by omega) (by omega) (Or.inr ⟨(if_pos rfl).symm, Nat.zero_le _⟩) (fun _ _ _ => rfl) (fun _ _ => ⟨rfl, rfl⟩) ⟨mf, fun x hx => (by cases hx), fun x hx => (by cases hx)⟩
      have hbs : (if eD r < 0 then none else chL (eD r) (fun t => xcF (eW r) (pC r a) (pQ r a) t - xbF (eW r) (pC r a) (pQ r a) f) (pQ r a) (fun t => (pB r a t).map Prod.fst) (f + 1) (pl r a - f) none) = pB r a f := by
        rw [if_neg (by omega)]
        have h := bsL_e (D := eD r) (xb := pxb r a) (xc := pxc r a) (Q := pQ r a) hf
        rw [if_pos hbg] at h
        exact h.symm
      rw [hbs] at f3
      refine ⟨I', ?_, fun x a1 a2 => (f1 x a1 a2).trans (hM0 x a1 a2), ?_, ?_⟩
      · rw [h1, e, B123_222]
      · rw [(f2 _ (by omega)).1, m1 _ (by omega)]
        exact hl0
      · intro t ht htl
        by_cases htf : t = f
        · rw [htf]
          exact ⟨f3.1, f3.2.1⟩
        · have h2 := f2 t htf
          have h3 := hv t (by omega) htl
          rw [h2.1, h2.2, m1 t htf, mo 102 (by decide)]
          exact h3
    · refine ⟨M, ?_, hM0, by rw [m1 _ (by omega)]; exact hl0, ?_⟩
      · have hq0 : pQ r a f = 0 := by
          have : 0 < f := by omega
          have := ok.2.2.2.2.2.2.1 f this hf
          omega
        have e99 : M 99 f = 0 := by rw [hM0 99 (by decide) (by decide), (h99 f (by omega)).1, hq0]; rfl
        rw [h1, B123_42, if_neg (nI_nlt (by omega) (by omega)), B123_48, hM0 76 (by decide) (by decide), h76, if_neg (nI_nlt (by omega) (by have := hr.1.2; omega)), B123_57, if_neg (nI_ne0 (by omega) (by omega)), B123_61 zf, cf, e99, if_pos rfl, B123_222]
      · intro t ht htl
        by_cases htf : t = f
        · have hn : pB r a f = none := by
            unfold pB
            rw [bsL_e hf, if_neg hbg]
          rw [htf, hn, mf]
          exact ⟨rfl, fun x hx => by cases hx⟩
        · rw [m1 t htf, mo 102 (by decide)]
          exact hv t (by omega) htl
  have hend : ∀ (x : Int32) (I : zI), x < 0 → zd S 123 23 [some (.ref 76), some (.int (nI p)), some (.int (nI (pl r a))), some (.int x), none, none, none] [] I J k = some (none, mk I J, k) := by
    intro x I hx
    rw [B123_23, if_pos hx, B123_228]
  intro f
  induction f with
  | zero =>
    intro I hf hI hl0 hv
    obtain ⟨I', e, f1, f2, f3⟩ := hstep 0 I hf hI hl0 hv
    exact ⟨I', by rw [e, hend _ _ (by decide)], f1, f3⟩
  | succ f ih =>
    intro I hf hI hl0 hv
    obtain ⟨I1, e1, f1, f2, f3⟩ := hstep (f + 1) I hf hI hl0 hv
    obtain ⟨I', e, g1, g2⟩ := ih I1 (by omega) f1 f2 f3
    refine ⟨I', ?_, g1, g2⟩
    rw [e1, pk_m1]
    exact e
theorem s123 {I : zI} (hr : okE r) (hPa : okPa r a) (hp : p < 20) (hE : mEn r I) (hD : parD (eT r) (eN r) (I 89) (I 90) (I 91) (I 92) p 16 a) :
    ∃ I', zq S 123 [.ref 76, .int (nI p)] I J none I' J ∧ (∀ x, x ≠ 82 → x ≠ 83 → x ≠ 99 → x ≠ 100 → x ≠ 101 → x ≠ 102 → I' x = I x) ∧ bsM r a I' 0 := by
  obtain ⟨P1, P2, P3, P4, P5, P6, P7, P8⟩ := okPa_i hr hPa
  have h12 := posL_12 P1
  have hplS : pl r a = (pL r a).sum := rfl
  have hl : pl r a ≤ 192 := by omega
  have hl0 : 0 < pl r a := Nat.pos_of_ne_zero (fun z => P2 (posL_0 P1 z))
  obtain ⟨I1, q118, f1, f2⟩ := s118 (S := S) (J := J) (I := I) (p := p) (a := a) hr.2.2.2 hp hr.2.2.1 hE.2.2 P1 P4 hD
  have h92 : I 92 p = nI (pl r a) := hD.2.1
  generalize hM : u2 I1 101 (pl r a) 0 = M
  have mo : ∀ x, x ≠ 101 → M x = I1 x := fun x h => by rw [← hM, u2n (nbeq h)]
  have ml : M 101 (pl r a) = 0 := by rw [← hM, u2s]
  have hM0 : ∀ x, x ≠ 82 → x ≠ 83 → x ≠ 99 → x ≠ 100 → x ≠ 101 → x ≠ 102 → M x = I x := fun x a1 a2 a3 a4 a5 a6 => (mo x a5).trans (f1 x a1 a2 a3 a4)
  obtain ⟨I', e, g1, g2⟩ := g123_l (S := S) (J := J) (k := (0, 0)) (I0 := M) (p := p) hr hPa hp ⟨rfl, rfl⟩ (by rw [hM0 76 (by decide) (by decide) (by decide) (by decide) (by decide) (by decide)]; exact hE.1) (fun j hj => by rw [hM0 78 (by decide) (by decide) (by decide) (by decide) (by decide) (by decide)]; exact hE.2.1 j hj)
    (fun j hj => by rw [hM0 89 (by decide) (by decide) (by decide) (by decide) (by decide) (by decide)]; exact hD.2.2.2 j hj) (fun j hj => by rw [mo 99 (by decide), mo 100 (by decide)]; exact f2 j hj) (pl r a - 1) M (by omega) (fun _ _ _ => rfl) ml (fun t h1 h2 => by omega)
  refine ⟨I', ?_, fun x a1 a2 a3 a4 a5 a6 => (g1 x a5 a6).trans (hM0 x a1 a2 a3 a4 a5 a6), g2⟩
  refine zq_of rfl ?_
  show zd S 123 0 [some (.ref 76), some (.int (nI p)), none, none, none, none, none] [] I J (0, 0) = _
  rw [B123_0 ⟨rfl, rfl⟩ (zin_n hp (by decide)) q118, nI_clamp (by omega), h92, B123_12 (zin_n (by omega) (by decide)), nI_clamp (by omega), hM, B123_19, show (1 : Int32) = nI 1 from rfl, pk_sub (by omega)]
  exact e
end MBREAK
