/-! plan: the lines of a story are laid, the other side -/
def stM (r : zE) (Fs : Nat → Nat) (s p : Nat) (I : zI) : Prop :=
  I 93 s = (if faS r Fs p = true then 1 else 0) ∧ I 94 s = nI (lnS r Fs p).length ∧
  (∀ j x, (lnS r Fs p)[j]? = some x → j < 41 → I 95 (41 * s + j) = nI (4 * s + x.1) ∧ I 96 (41 * s + j) = nI x.2.1 ∧ I 97 (41 * s + j) = nI x.2.2.1) ∧
  (∀ x, x < p → I 98 (4 * s + x) = oI ((pB r (Fs x) 0).map Prod.fst))
def fM (s : Nat) (I I' : zI) : Prop := (∀ x, x < 82 ∨ (83 < x ∧ x < 93) ∨ 102 < x → I' x = I x) ∧ (∀ x, x ≠ s → I' 93 x = I 93 x ∧ I' 94 x = I 94 x) ∧ (∀ x, x < 41 * s ∨ 41 * s + 41 ≤ x → I' 95 x = I 95 x ∧ I' 96 x = I 96 x ∧ I' 97 x = I 97 x) ∧ (∀ x, x < 4 * s ∨ 4 * s + 4 ≤ x → I' 98 x = I 98 x)
theorem fM_r (s : Nat) (I : zI) : fM s I I := ⟨fun _ _ => rfl, fun _ _ => ⟨rfl, rfl⟩, fun _ _ => ⟨rfl, rfl, rfl⟩, fun _ _ => rfl⟩
theorem fM_t {s : Nat} {I I' I2 : zI} (h1 : fM s I I') (h2 : fM s I' I2) : fM s I I2 :=
  ⟨fun x hx => (h2.1 x hx).trans (h1.1 x hx), fun x hx => ⟨(h2.2.1 x hx).1.trans (h1.2.1 x hx).1, (h2.2.1 x hx).2.trans (h1.2.1 x hx).2⟩, fun x hx => ⟨(h2.2.2.1 x hx).1.trans (h1.2.2.1 x hx).1, (h2.2.2.1 x hx).2.1.trans (h1.2.2.1 x hx).2.1, (h2.2.2.1 x hx).2.2.trans (h1.2.2.1 x hx).2.2⟩, fun x hx => (h2.2.2.2 x hx).trans (h1.2.2.2 x hx)⟩
theorem mEn_f {r : zE} {s : Nat} {I I' : zI} (h : mEn r I) (hf : fM s I I') : mEn r I' := by
  obtain ⟨a1, a2, a3, a4, a5, a6⟩ := h
  have g : ∀ x, x < 82 → I' x = I x := fun x hx => hf.1 x (Or.inl hx)
  exact ⟨by rw [g 76 (by omega)]; exact a1, fun j hj => by rw [g 78 (by omega)]; exact a2 j hj, by rw [g 76 (by omega)]; exact a3, fun p hp => by rw [g 79 (by omega)]; exact a4 p hp, fun p hp i hi => by rw [g 80 (by omega)]; exact a5 p hp i hi, fun p hp i hi => by rw [g 81 (by omega)]; exact a6 p hp i hi⟩
section MLAY
variable {S : Nat × (Nat → Int32)} {J : zJ} {k : zK} {r : zE} {Fs : Nat → Nat} {s q : Nat}
/-- the lines of one paragraph -/
theorem g124_w {l p : Nat} {B : Nat → Option (Nat × Nat)} {l2 : Int32} (hs : s < 4) (hp : p < 20) (hl : l ≤ 192) (hg : gdB B l) {I0 : zI} (h92 : I0 92 p = nI l) (h102 : ∀ t x, t < l → B t = some x → I0 102 t = nI x.2) :
    ∀ (m t c : Nat) (I : zI), l ≤ t + m → t ≤ l → c + (l - t) < 2 ^ 20 → (t < l → (B t).isSome = true) → (∀ x, x ≠ 94 → x ≠ 95 → x ≠ 96 → x ≠ 97 → I x = I0 x) → I 94 s = nI c →
      ∃ (I' : zI) (l4 : Int32), zd S 124 95 [some (.ref 76), some (.int (nI s)), some (.int l2), some (.int (nI p)), some (.int (nI t)), none] [] I J k = zd S 124 183 [some (.ref 76), some (.int (nI s)), some (.int l2), some (.int (nI p)), some (.int l4), none] [] I' J k ∧ (∀ x, x ≠ 94 → x ≠ 95 → x ≠ 96 → x ≠ 97 → I' x = I x) ∧ (∀ x, x ≠ s → I' 94 x = I 94 x) ∧ I' 94 s = nI (c + (foL B l m t).length) ∧
        (∀ x, x < 41 * s + c ∨ 41 * s + 41 ≤ x → I' 95 x = I 95 x ∧ I' 96 x = I 96 x ∧ I' 97 x = I 97 x) ∧ (∀ j x, (foL B l m t)[j]? = some x → c + j < 41 → I' 95 (41 * s + (c + j)) = nI p ∧ I' 96 (41 * s + (c + j)) = nI x.1 ∧ I' 97 (41 * s + (c + j)) = nI x.2) := by
  have zs : zin (nI s) 4 = true := zin_n hs (by decide)
  have cs : (nI s).toNatClampNeg = s := nI_clamp (by omega)
  have zp : zin (nI p) 20 = true := zin_n hp (by decide)
  have cp' : (nI p).toNatClampNeg = p := nI_clamp (by omega)
  have hex : ∀ (m t c : Nat) (I : zI), l ≤ t → t ≤ l → (∀ x, x ≠ 94 → x ≠ 95 → x ≠ 96 → x ≠ 97 → I x = I0 x) → I 94 s = nI c → ∃ (I' : zI) (l4 : Int32), zd S 124 95 [some (.ref 76), some (.int (nI s)), some (.int l2), some (.int (nI p)), some (.int (nI t)), none] [] I J k = zd S 124 183 [some (.ref 76), some (.int (nI s)), some (.int l2), some (.int (nI p)), some (.int l4), none] [] I' J k ∧ (∀ x, x ≠ 94 → x ≠ 95 → x ≠ 96 → x ≠ 97 → I' x = I x) ∧ (∀ x, x ≠ s → I' 94 x = I 94 x) ∧ I' 94 s = nI (c + (foL B l m t).length) ∧
        (∀ x, x < 41 * s + c ∨ 41 * s + 41 ≤ x → I' 95 x = I 95 x ∧ I' 96 x = I 96 x ∧ I' 97 x = I 97 x) ∧ (∀ j x, (foL B l m t)[j]? = some x → c + j < 41 → I' 95 (41 * s + (c + j)) = nI p ∧ I' 96 (41 * s + (c + j)) = nI x.1 ∧ I' 97 (41 * s + (c + j)) = nI x.2) := by
    intro m t c I h1 h2 hI h94
    rw [foL_0 m t h1]
    refine ⟨I, nI t, ?_, fun _ _ _ _ _ => rfl, fun _ _ => rfl, h94, fun _ _ => ⟨rfl, rfl, rfl⟩, fun j x hx => by cases hx⟩
    rw [B124_95 zp, cp', hI 92 (by decide) (by decide) (by decide) (by decide), h92, if_pos (nI_le h1 (by omega))]
  intro m
  induction m with
  | zero => intro t c I h1 h2 _ _ hI h94; exact hex 0 t c I (by omega) h2 hI h94
  | succ m ih =>
    intro t c I h1 h2 hc hsm hI h94
    by_cases ht : t < l
    · have hsm' := hsm ht
      cases hB : B t with
      | none => rw [hB] at hsm'; cases hsm'
      | some x =>
        have hx := hg t x ht hB
        have hfo : foL B l (m + 1) t = (t, x.2) :: foL B l m x.2 := by rw [foL_e, if_pos ht, hB]
        have zt : zin (nI t) 193 = true := zin_n (by omega) (by decide)
        have ct : (nI t).toNatClampNeg = t := nI_clamp (by omega)
        have h92' : I 92 p = nI l := by rw [hI 92 (by decide) (by decide) (by decide) (by decide)]; exact h92
        have e102 : I 102 t = nI x.2 := by rw [hI 102 (by decide) (by decide) (by decide) (by decide)]; exact h102 t x ht hB
        have hgo : ∃ M : zI, zd S 124 95 [some (.ref 76), some (.int (nI s)), some (.int l2), some (.int (nI p)), some (.int (nI t)), none] [] I J k = zd S 124 95 [some (.ref 76), some (.int (nI s)), some (.int l2), some (.int (nI p)), some (.int (nI x.2)), none] [] M J k ∧ (∀ x, x ≠ 94 → x ≠ 95 → x ≠ 96 → x ≠ 97 → M x = I x) ∧ (∀ x, x ≠ s → M 94 x = I 94 x) ∧ M 94 s = nI (c + 1) ∧ (∀ x, x ≠ 41 * s + c ∨ 41 ≤ c → M 95 x = I 95 x ∧ M 96 x = I 96 x ∧ M 97 x = I 97 x) ∧ (c < 41 → M 95 (41 * s + c) = nI p ∧ M 96 (41 * s + c) = nI t ∧ M 97 (41 * s + c) = nI x.2) := by
          have e1 : (41 : Int32) ≤ nI c ↔ 41 ≤ c := nI_leI (a := 41) (by decide) (by omega)
          have a1 : nI c + 1 = nI (c + 1) := nI_1 c
          rw [B124_95 zp, cp', h92', if_neg (nI_ge ht (by omega)), B124_106 zs, cs, h94]
          by_cases h41 : 41 ≤ c
          · refine ⟨u2 I 94 s (nI (c + 1)), ?_, fun y b1 _ _ _ => by rw [u2n (nbeq b1)], fun y hy => by rw [u2ne hy], by rw [u2s], fun y _ => by rw [u2n rfl, u2n rfl, u2n rfl]; exact ⟨rfl, rfl, rfl⟩, fun h => by omega⟩
            have e102' : (u2 I 94 s (nI (c + 1))) 102 t = nI x.2 := by rw [u2n rfl]; exact e102
            rw [if_pos (e1.mpr h41), B124_161 zs zs, cs, h94, a1, B124_171 zt, ct, e102']
          · have ei : (41 * nI s + nI c : Int32) = nI (41 * s + c) := by rw [show (41 : Int32) = nI 41 from rfl, pk_mul, nI_add]
            have zi : zin (nI (41 * s + c)) 164 = true := zin_n (by omega) (by decide)
            have ci : (nI (41 * s + c)).toNatClampNeg = 41 * s + c := nI_clamp (by omega)
            have e102a : (u2 (u2 I 95 (41 * s + c) (nI p)) 96 (41 * s + c) (nI t)) 102 t = nI x.2 := by rw [u2n rfl, u2n rfl]; exact e102
            generalize hM : u2 (u2 (u2 I 95 (41 * s + c) (nI p)) 96 (41 * s + c) (nI t)) 97 (41 * s + c) (nI x.2) = M
            have m94 : M 94 s = nI c := by rw [← hM, u2n rfl, u2n rfl, u2n rfl]; exact h94
            have m102 : M 102 t = nI x.2 := by rw [← hM, u2n rfl]; exact e102a
            have m102' : (u2 M 94 s (nI (c + 1))) 102 t = nI x.2 := by rw [u2n rfl]; exact m102
            refine ⟨u2 M 94 s (nI (c + 1)), ?_, fun y b1 b2 b3 b4 => by rw [u2n (nbeq b1), ← hM, u2n (nbeq b4), u2n (nbeq b3), u2n (nbeq b2)], fun y hy => by rw [u2ne hy, ← hM, u2n rfl, u2n rfl, u2n rfl], by rw [u2s], ?_, ?_⟩
            · rw [if_neg (fun z => h41 (e1.mp z)), B124_117 zs (by rw [cs, h94, ei]; exact zi), cs, h94, ei, ci, B124_138 zi, ci, B124_147 zt zi, ct, ci, e102a, hM, B124_161 zs zs, cs, m94, a1, B124_171 zt, ct, m102']
            · intro y hy
              rw [u2n rfl, u2n rfl, u2n rfl, ← hM, u2n rfl, u2n rfl, u2ne (by omega), u2n rfl, u2ne (by omega), u2n rfl, u2ne (by omega), u2n rfl, u2n rfl]
              exact ⟨rfl, rfl, rfl⟩
            · intro _
              rw [u2n rfl, u2n rfl, u2n rfl, ← hM, u2n rfl, u2n rfl, u2s, u2n rfl, u2s, u2s]
              exact ⟨rfl, rfl, rfl⟩
        obtain ⟨M, e1, m1, m2, m3, m4, m5⟩ := hgo
        obtain ⟨I', l4, e2, k1, k2, k3, k4, k5⟩ := ih x.2 (c + 1) M (by omega) hx.2.1 (by omega) hx.2.2 (fun y b1 b2 b3 b4 => (m1 y b1 b2 b3 b4).trans (hI y b1 b2 b3 b4)) m3
        rw [hfo]
        refine ⟨I', l4, by rw [e1, e2], fun y b1 b2 b3 b4 => (k1 y b1 b2 b3 b4).trans (m1 y b1 b2 b3 b4), fun y hy => (k2 y hy).trans (m2 y hy), ?_, ?_, ?_⟩
        · rw [k3]
          show nI (c + 1 + (foL B l m x.2).length) = nI (c + ((foL B l m x.2).length + 1))
          congr 1
          omega
        · intro y hy
          have h3 := k4 y (by omega)
          by_cases hcc : y = 41 * s + c
          · have h5 := m4 y (Or.inr (by omega))
            exact ⟨h3.1.trans h5.1, h3.2.1.trans h5.2.1, h3.2.2.trans h5.2.2⟩
          · have h5 := m4 y (Or.inl hcc)
            exact ⟨h3.1.trans h5.1, h3.2.1.trans h5.2.1, h3.2.2.trans h5.2.2⟩
        · intro j y hy hj
          cases j with
          | zero =>
            have hy' : (t, x.2) = y := Option.some.inj hy
            have h3 := k4 (41 * s + c) (by omega)
            have h5 := m5 (by omega)
            rw [← hy', Nat.add_zero]
            exact ⟨h3.1.trans h5.1, h3.2.1.trans h5.2.1, h3.2.2.trans h5.2.2⟩
          | succ j =>
            have := k5 j y hy (by omega)
            rw [show c + 1 + j = c + (j + 1) by omega] at this
            exact this
    · exact hex (m + 1) t c I (by omega) h2 hI h94
theorem g124_p {p : Nat} {o3 o4 : Option Value} (hs : s < 4) (hr : okE r) (hq : q ≤ 4) (hp : p < q) (hPa : ∀ x, x < q → okPa r (Fs x)) (hb : Nat.ble k.1 (mBu 124).1 = true ∧ Nat.ble k.2 (mBu 124).2 = true) {I : zI} (hE : mEn r I) (h88 : I 88 s = nI q) (hD : ∀ x, x < q → parD (eT r) (eN r) (I 89) (I 90) (I 91) (I 92) (4 * s + x) 16 (Fs x)) (hst : stM r Fs s p I) :
    ∃ (I' : zI) (o3' o4' : Option Value), zd S 124 16 [some (.ref 76), some (.int (nI s)), some (.int (nI p)), o3, o4, none] [] I J k = zd S 124 16 [some (.ref 76), some (.int (nI s)), some (.int (nI (p + 1))), o3', o4', none] [] I' J k ∧ fM s I I' ∧ stM r Fs s (p + 1) I' := by
  have hPp := hPa p hp
  have hDp := hD p hp
  generalize haa : Fs p = a at hPp hDp
  obtain ⟨P1, P2, P3, P4, P5, P6, P7, P8⟩ := okPa_i hr hPp
  have h12 := posL_12 P1
  have hplS : pl r a = (pL r a).sum := rfl
  have hl : pl r a ≤ 192 := by omega
  have hl0 : 0 < pl r a := Nat.pos_of_ne_zero (fun z => P2 (posL_0 P1 z))
  have zs : zin (nI s) 4 = true := zin_n hs (by decide)
  have cs : (nI s).toNatClampNeg = s := nI_clamp (by omega)
  have zp : zin (nI (4 * s + p)) 20 = true := zin_n (by omega) (by decide)
  have cp' : (nI (4 * s + p)).toNatClampNeg = 4 * s + p := nI_clamp (by omega)
  have ei : (4 * nI s + nI p : Int32) = nI (4 * s + p) := by rw [show (4 : Int32) = nI 4 from rfl, pk_mul, nI_add]
  obtain ⟨I1, q123, f1, f2⟩ := s123 (S := S) (J := J) (r := r) (I := I) (p := 4 * s + p) (a := a) hr hPp (by omega) hE hDp
  have e101 := (f2 0 (Nat.le_refl _) hl0).1
  obtain ⟨t1, t2, t3, t4⟩ := hst
  have hlnl := lnS_len (Fs := Fs) hr p (fun x hx => hPa x (by omega))
  have g1 : ∀ x, x < 82 ∨ (83 < x ∧ x < 99) ∨ 102 < x → I1 x = I x := fun x hx => f1 x (by omega) (by omega) (by omega) (by omega) (by omega) (by omega)
  have c0 : (0 : Int32).toNatClampNeg = 0 := rfl
  generalize hI2 : u2 I1 98 (4 * s + p) (oI ((pB r a 0).map Prod.fst)) = I2
  have i2o : ∀ x, x ≠ 98 → I2 x = I1 x := fun x h => by rw [← hI2, u2n (nbeq h)]
  have i2p : I2 98 (4 * s + p) = oI ((pB r a 0).map Prod.fst) := by rw [← hI2, u2s]
  have i2q : ∀ x, x ≠ 4 * s + p → I2 98 x = I1 98 x := fun x h => by rw [← hI2, u2ne h]
  have e101' : I2 101 0 = oI ((pB r a 0).map Prod.fst) := by rw [i2o 101 (by decide)]; exact e101
  have hgo : zd S 124 16 [some (.ref 76), some (.int (nI s)), some (.int (nI p)), o3, o4, none] [] I J k = zd S 124 49 [some (.ref 76), some (.int (nI s)), some (.int (nI p)), some (.int (nI (4 * s + p))), none, none] [] I2 J k := by
    rw [B124_16 zs, cs, h88, if_neg (nI_ge (by omega) (by omega)), B124_26 hb (by rw [ei]; exact q123), ei, B124_37 rfl (zin_n (by omega) (by decide)), cp', c0, e101, hI2]
  rw [hgo, B124_49 rfl, c0, e101']
  cases hB : pB r a 0 with
  | none =>
    have h0 : ¬ (0 : Int32) ≤ oI ((none : Option (Nat × Nat)).map Prod.fst) := by decide
    generalize hI3 : u2 I2 93 s 1 = I3
    have i3o : ∀ x, x ≠ 93 → I3 x = I2 x := fun x h => by rw [← hI3, u2n (nbeq h)]
    have e101'' : I3 101 0 = oI ((none : Option (Nat × Nat)).map Prod.fst) := by rw [i3o 101 (by decide), e101', hB]
    have h92 : I3 92 (4 * s + p) = nI (pl r a) := by rw [i3o 92 (by decide), i2o 92 (by decide), g1 92 (by omega)]; exact hDp.2.1
    have hF : pF r a = [] := pF_none hB
    have hL : lnS r Fs (p + 1) = lnS r Fs p := by rw [lnS_s, haa, hF]; exact List.append_nil _
    refine ⟨I3, some (.int (nI (4 * s + p))), some (.int (nI (pl r a))), ?_, ⟨?_, ?_, ?_, ?_⟩, ?_, ?_, ?_, ?_⟩
    · rw [if_neg h0, B124_63 zs, cs, hI3, B124_74 rfl, c0, e101'', if_neg h0, B124_83 zp, cp', h92, B124_95 zp, cp', h92, if_pos (nI_le (Nat.le_refl _) (by omega)), B124_183, nI_1]
    · intro x hx
      rw [i3o x (by omega), i2o x (by omega), g1 x (by omega)]
    · intro x hx
      rw [← hI3, u2ne hx, u2n rfl, i2o 93 (by decide), i2o 94 (by decide), g1 93 (by omega), g1 94 (by omega)]
      exact ⟨rfl, rfl⟩
    · intro x _
      rw [i3o 95 (by decide), i3o 96 (by decide), i3o 97 (by decide), i2o 95 (by decide), i2o 96 (by decide), i2o 97 (by decide), g1 95 (by omega), g1 96 (by omega), g1 97 (by omega)]
      exact ⟨rfl, rfl, rfl⟩
    · intro x hx
      rw [i3o 98 (by decide), i2q x (by omega), g1 98 (by omega)]
    · rw [← hI3, u2s, faS_s, haa, hB]
      show _ = if (faS r Fs p || true) = true then (1 : Int32) else 0
      rw [Bool.or_true, if_pos rfl]
    · rw [i3o 94 (by decide), i2o 94 (by decide), g1 94 (by omega), hL]
      exact t2
    · intro j x hx hj
      rw [hL] at hx
      rw [i3o 95 (by decide), i3o 96 (by decide), i3o 97 (by decide), i2o 95 (by decide), i2o 96 (by decide), i2o 97 (by decide), g1 95 (by omega), g1 96 (by omega), g1 97 (by omega)]
      exact t3 j x hx hj
    · intro x hx
      rw [i3o 98 (by decide)]
      by_cases hxp : x = p
      · rw [hxp, i2p, haa]
      · rw [i2q _ (by omega), g1 98 (by omega)]
        exact t4 x (by omega)
  | some y =>
    have hyv := pB_v hr hl hB
    have h0 : (0 : Int32) ≤ oI ((some y).map Prod.fst) := nI_pos' (n := y.1) (by omega)
    have hg := pB_g hr P1 P2
    have id93 : u2 I2 93 s (I2 93 s) = I2 := by
      unfold u2
      have : upd (I2 93) s (I2 93 s) = I2 93 := by
        funext z
        unfold upd
        by_cases hz : z = s
        · rw [if_pos hz, hz]
        · rw [if_neg hz]
      rw [this, uc_id]
    have e101'' : I2 101 0 = oI ((some y).map Prod.fst) := by rw [e101', hB]
    have h92 : I2 92 (4 * s + p) = nI (pl r a) := by rw [i2o 92 (by decide), g1 92 (by omega)]; exact hDp.2.1
    obtain ⟨I', l4, e2, k1, k2, k3, k4, k5⟩ := g124_w (S := S) (J := J) (k := k) (l2 := nI p) (p := 4 * s + p) (l := pl r a) (B := pB r a) hs (by omega) hl hg (I0 := I2) h92 (fun t x ht hx => by rw [i2o 102 (by decide)]; exact (f2 t (Nat.zero_le _) ht).2 x hx) (pl r a) 0 (lnS r Fs p).length I2 (by omega) (Nat.zero_le _) (by omega) (fun _ => by rw [hB]; rfl) (fun _ _ _ _ _ => rfl) (by rw [i2o 94 (by decide), g1 94 (by omega)]; exact t2)
    have hFF : foL (pB r a) (pl r a) (pl r a) 0 = pF r a := rfl
    rw [hFF] at k3 k5
    have hL : lnS r Fs (p + 1) = lnS r Fs p ++ (pF r a).map (fun x => (p, x.1, x.2, pl r a)) := by rw [lnS_s, haa]
    have hLl : (lnS r Fs (p + 1)).length = (lnS r Fs p).length + (pF r a).length := by rw [hL, List.length_append, List.length_map]
    refine ⟨I', some (.int (nI (4 * s + p))), some (.int l4), ?_, ⟨?_, ?_, ?_, ?_⟩, ?_, ?_, ?_, ?_⟩
    · rw [if_pos h0, B124_67 zs zs, cs, id93, B124_74 rfl, c0, e101'', if_pos h0, B124_92, ← nI_0, e2, B124_183, nI_1]
    · intro x hx
      rw [k1 x (by omega) (by omega) (by omega) (by omega), i2o x (by omega), g1 x (by omega)]
    · intro x hx
      rw [k1 93 (by decide) (by decide) (by decide) (by decide), k2 x hx, i2o 93 (by decide), i2o 94 (by decide), g1 93 (by omega), g1 94 (by omega)]
      exact ⟨rfl, rfl⟩
    · intro x hx
      have h3 := k4 x (by omega)
      rw [h3.1, h3.2.1, h3.2.2, i2o 95 (by decide), i2o 96 (by decide), i2o 97 (by decide), g1 95 (by omega), g1 96 (by omega), g1 97 (by omega)]
      exact ⟨rfl, rfl, rfl⟩
    · intro x hx
      rw [k1 98 (by decide) (by decide) (by decide) (by decide), i2q x (by omega), g1 98 (by omega)]
    · rw [k1 93 (by decide) (by decide) (by decide) (by decide), i2o 93 (by decide), g1 93 (by omega), t1, faS_s, haa, hB]
      show _ = if (faS r Fs p || false) = true then (1 : Int32) else 0
      rw [Bool.or_false]
    · rw [k3, hLl]
    · intro j x hx hj
      rw [hL] at hx
      by_cases hjl : j < (lnS r Fs p).length
      · rw [List.getElem?_append_left hjl] at hx
        have h3 := k4 (41 * s + j) (by omega)
        rw [h3.1, h3.2.1, h3.2.2, i2o 95 (by decide), i2o 96 (by decide), i2o 97 (by decide), g1 95 (by omega), g1 96 (by omega), g1 97 (by omega)]
        exact t3 j x hx hj
      · rw [List.getElem?_append_right (by omega), List.getElem?_map] at hx
        cases hz : (pF r a)[j - (lnS r Fs p).length]? with
        | none => rw [hz] at hx; cases hx
        | some z =>
          rw [hz] at hx
          have hx' : (p, z.1, z.2, pl r a) = x := Option.some.inj hx
          have h5 := k5 _ z hz (by omega)
          rw [show (lnS r Fs p).length + (j - (lnS r Fs p).length) = j by omega] at h5
          rw [← hx']
          exact h5
    · intro x hx
      rw [k1 98 (by decide) (by decide) (by decide) (by decide)]
      by_cases hxp : x = p
      · rw [hxp, i2p, haa]
      · rw [i2q _ (by omega), g1 98 (by omega)]
        exact t4 x (by omega)
/-- why a story is held after its lines are laid, and its lines' number -/
def hF1 (r : zE) (Fs : Nat → Nat) (q : Nat) : Nat := if faS r Fs q = true then 1 else if (lnS r Fs q).length = 0 ∨ 40 < (lnS r Fs q).length then 2 else 0
def lC1 (r : zE) (Fs : Nat → Nat) (q : Nat) : Nat := if faS r Fs q = true then 0 else (lnS r Fs q).length
theorem s124 {I : zI} (hs : s < 4) (hr : okE r) (hq : q ≤ 4) (hPa : ∀ x, x < q → okPa r (Fs x)) (hE : mEn r I) (h88 : I 88 s = nI q) (hD : ∀ x, x < q → parD (eT r) (eN r) (I 89) (I 90) (I 91) (I 92) (4 * s + x) 16 (Fs x)) :
    ∃ I', zq S 124 [.ref 76, .int (nI s)] I J none I' J ∧ fM s I I' ∧ I' 93 s = nI (hF1 r Fs q) ∧ I' 94 s = nI (lC1 r Fs q) ∧ (∀ j x, (lnS r Fs q)[j]? = some x → j < 41 → I' 95 (41 * s + j) = nI (4 * s + x.1) ∧ I' 96 (41 * s + j) = nI x.2.1 ∧ I' 97 (41 * s + j) = nI x.2.2.1) ∧ (∀ x, x < q → I' 98 (4 * s + x) = oI ((pB r (Fs x) 0).map Prod.fst)) := by
  have zs : zin (nI s) 4 = true := zin_n hs (by decide)
  have cs : (nI s).toNatClampNeg = s := nI_clamp (by omega)
  have hlp : ∀ (m p : Nat) (I : zI) (o3 o4 : Option Value), q = p + m → mEn r I → I 88 s = nI q → (∀ x, x < q → parD (eT r) (eN r) (I 89) (I 90) (I 91) (I 92) (4 * s + x) 16 (Fs x)) → stM r Fs s p I → ∃ I' : zI, zd S 124 16 [some (.ref 76), some (.int (nI s)), some (.int (nI p)), o3, o4, none] [] I J (0, 0) = zd S 124 189 [some (.ref 76), some (.int (nI s)), some (.int (nI q)), none, none, none] [] I' J (0, 0) ∧ fM s I I' ∧ stM r Fs s q I' := by
    intro m
    induction m with
    | zero =>
      intro p I o3 o4 hm _ h88 _ hst
      have hpq : q = p := by omega
      subst hpq
      refine ⟨I, ?_, fM_r s I, hst⟩
      rw [B124_16 zs, cs, h88, if_pos (nI_le (Nat.le_refl _) (by omega))]
    | succ m ih =>
      intro p I o3 o4 hm hE h88 hD hst
      obtain ⟨I1, o3', o4', e1, f1, st1⟩ := g124_p (S := S) (J := J) (k := (0, 0)) (p := p) (o3 := o3) (o4 := o4) hs hr hq (by omega) hPa ⟨rfl, rfl⟩ hE h88 hD hst
      have g : ∀ x, 83 < x ∧ x < 93 → I1 x = I x := fun x hx => f1.1 x (Or.inr (Or.inl hx))
      obtain ⟨I2, e2, f2, st2⟩ := ih (p + 1) I1 o3' o4' (by omega) (mEn_f hE f1) (by rw [g 88 (by omega)]; exact h88) (fun x hx => by rw [g 89 (by omega), g 90 (by omega), g 91 (by omega), g 92 (by omega)]; exact hD x hx) st1
      exact ⟨I2, by rw [e1, e2], fM_t f1 f2, st2⟩
  generalize hI1 : u2 (u2 I 94 s 0) 93 s 0 = I1
  have f1 : fM s I I1 := by
    refine ⟨fun x hx => by rw [← hI1, u2n (nbeq (by omega)), u2n (nbeq (by omega))], fun x hx => ?_, fun x _ => ?_, fun x _ => ?_⟩
    · rw [← hI1, u2ne hx, u2n rfl, u2n rfl, u2ne hx]
      exact ⟨rfl, rfl⟩
    · rw [← hI1, u2n rfl, u2n rfl, u2n rfl, u2n rfl, u2n rfl, u2n rfl]
      exact ⟨rfl, rfl, rfl⟩
    · rw [← hI1, u2n rfl, u2n rfl]
  have st0 : stM r Fs s 0 I1 := by
    refine ⟨?_, ?_, (fun j x hx => by cases hx), (fun x hx => absurd hx (Nat.not_lt_zero _))⟩
    · rw [← hI1, u2s]
      rfl
    · rw [← hI1, u2n rfl, u2s]
      rfl
  have g : ∀ x, 83 < x ∧ x < 93 → I1 x = I x := fun x hx => f1.1 x (Or.inr (Or.inl hx))
  obtain ⟨I2, e2, f2, t1, t2, t3, t4⟩ := hlp q 0 I1 none none (by omega) (mEn_f hE f1) (by rw [g 88 (by omega)]; exact h88) (fun x hx => by rw [g 89 (by omega), g 90 (by omega), g 91 (by omega), g 92 (by omega)]; exact hD x hx) st0
  have hlnl := lnS_len (Fs := Fs) hr q hPa
  have hstart : zd S 124 0 [some (.ref 76), some (.int (nI s)), none, none, none, none] [] I J (0, 0) = zd S 124 189 [some (.ref 76), some (.int (nI s)), some (.int (nI q)), none, none, none] [] I2 J (0, 0) := by
    rw [B124_0 zs, cs, B124_7 zs, cs, B124_14, hI1]
    exact e2
  have hfin : ∀ (a b : Int32), fM s I2 (u2 (u2 I2 94 s a) 93 s b) := by
    intro a b
    refine ⟨fun x hx => by rw [u2n (nbeq (by omega)), u2n (nbeq (by omega))], fun x hx => ?_, fun x _ => ?_, fun x _ => ?_⟩
    · rw [u2ne hx, u2n rfl, u2n rfl, u2ne hx]
      exact ⟨rfl, rfl⟩
    · rw [u2n rfl, u2n rfl, u2n rfl, u2n rfl, u2n rfl, u2n rfl]
      exact ⟨rfl, rfl, rfl⟩
    · rw [u2n rfl, u2n rfl]
  have hout : ∀ (a b : Int32), zd S 124 189 [some (.ref 76), some (.int (nI s)), some (.int (nI q)), none, none, none] [] I2 J (0, 0) = some (none, mk (u2 (u2 I2 94 s a) 93 s b) J, (0, 0)) → a = nI (lC1 r Fs q) → b = nI (hF1 r Fs q) → ∃ I', zq S 124 [.ref 76, .int (nI s)] I J none I' J ∧ fM s I I' ∧ I' 93 s = nI (hF1 r Fs q) ∧ I' 94 s = nI (lC1 r Fs q) ∧ (∀ j x, (lnS r Fs q)[j]? = some x → j < 41 → I' 95 (41 * s + j) = nI (4 * s + x.1) ∧ I' 96 (41 * s + j) = nI x.2.1 ∧ I' 97 (41 * s + j) = nI x.2.2.1) ∧ (∀ x, x < q → I' 98 (4 * s + x) = oI ((pB r (Fs x) 0).map Prod.fst)) := by
    intro a b he ha hb'
    refine ⟨_, zq_of rfl (hstart.trans he), fM_t f1 (fM_t f2 (hfin a b)), by rw [u2s, hb'], by rw [u2n rfl, u2s, ha], ?_, ?_⟩
    · intro j x hx hj
      rw [u2n rfl, u2n rfl, u2n rfl, u2n rfl, u2n rfl, u2n rfl]
      exact t3 j x hx hj
    · intro x hx
      rw [u2n rfl, u2n rfl]
      exact t4 x hx
  have c93 : ∀ a : Int32, (u2 I2 94 s a) 93 s = I2 93 s := fun a => by rw [u2n rfl]
  have c94 : ∀ a : Int32, (u2 I2 94 s a) 94 s = a := fun a => u2s
  cases hfa : faS r Fs q with
  | true =>
    rw [hfa, if_pos rfl] at t1
    refine hout 0 1 ?_ (by unfold lC1; rw [hfa]; rfl) (by unfold hF1; rw [hfa]; rfl)
    rw [B124_189 zs, cs, t1, if_neg (not_not_intro rfl), B124_204 zs, cs, B124_215 zs, cs, c93, t1, if_neg (not_not_intro rfl), B124_230 zs, cs, B124_260]
  | false =>
    rw [hfa, if_neg (by decide)] at t1
    have hn1 : ¬ (0 : Int32) = 1 := by decide
    have hl : lC1 r Fs q = (lnS r Fs q).length := by unfold lC1; rw [hfa]; rfl
    have hpre : zd S 124 189 [some (.ref 76), some (.int (nI s)), some (.int (nI q)), none, none, none] [] I2 J (0, 0) = zd S 124 234 [some (.ref 76), some (.int (nI s)), none, none, none, none] [.int (nI s), .ref 93] (u2 I2 94 s (nI (lnS r Fs q).length)) J (0, 0) := by
      rw [B124_189 zs, cs, t1, if_pos hn1, B124_208 zs zs, cs, t2, B124_215 zs, cs, c93, t1, if_pos hn1]
    have e40 : nI (lnS r Fs q).length ≤ 40 ↔ (lnS r Fs q).length ≤ 40 := nI_leI (b := 40) (by omega) (by decide)
    by_cases h0 : (lnS r Fs q).length = 0
    · refine hout (nI (lnS r Fs q).length) 2 ?_ (by rw [hl]) (by unfold hF1; rw [hfa, if_neg (by decide), if_pos (Or.inl h0)]; rfl)
      rw [hpre, B124_234 zs, cs, c94, h0, if_pos nI_0, B124_254 zs, cs, B124_260]
    · by_cases h40 : (lnS r Fs q).length ≤ 40
      · refine hout (nI (lnS r Fs q).length) 0 ?_ (by rw [hl]) (by unfold hF1; rw [hfa, if_neg (by decide), if_neg (by omega)]; rfl)
        rw [hpre, B124_234 zs, cs, c94, if_neg (nI_ne0 (by omega) (by omega)), B124_243 zs, cs, c94, if_pos (e40.mpr h40), B124_258 zs, cs, B124_260]
      · refine hout (nI (lnS r Fs q).length) 2 ?_ (by rw [hl]) (by unfold hF1; rw [hfa, if_neg (by decide), if_pos (Or.inr (by omega))]; rfl)
        rw [hpre, B124_234 zs, cs, c94, if_neg (nI_ne0 (by omega) (by omega)), B124_243 zs, cs, c94, if_neg (fun z => h40 (e40.mp z)), B124_254 zs, cs, B124_260]
end MLAY
