/-! read, the call of the one side -/
theorem cA_self {I : zI} {a : Nat} (h : I 4 3 = nI a) : cA I a = I := by
  show uc I 4 (upd (I 4) 3 (nI a)) = I
  have : upd (I 4) 3 (nI a) = I 4 := by
    funext q
    unfold upd
    by_cases hq : q = 3
    · rw [if_pos hq, hq, h]
    · rw [if_neg hq]
  rw [this, uc_id]
theorem rdl_c {T : Nat → Nat} {N : Nat} : ∀ (m : Nat) (b : Bool) (c a : Nat) (E : Nat → Nat), c ≤ (rdl T N m b c a E).2.1
  | 0, _, _, _, _ => Nat.le_refl _
  | m + 1, b, c, a, E => by
    unfold rdl
    split
    · split
      · have := rdl_c (T := T) (N := N) m (syB T N a) (c + 1) (syA T N a) (fun t => if t = c then a else E t)
        omega
      · show c ≤ c + 1
        omega
    · exact Nat.le_refl _
theorem rdR_1 {T : Nat → Nat} {N : Nat} (h : (rdR T N).1 = true) : 1 ≤ (rdR T N).2.1 := by
  unfold rdR at *
  by_cases hN : 0 < N
  · have e : rdl T N 5 (decide (0 < N)) 0 0 (fun _ => 0) = rdl T N 4 (syB T N 0) 1 (syA T N 0) (fun t => if t = 0 then 0 else 0) := by
      show (if decide (0 < N) = true ∧ 0 < N then (if 0 < 4 then rdl T N 4 (syB T N 0) (0 + 1) (syA T N 0) (fun t => if t = 0 then 0 else 0) else (false, 0 + 1, 0, fun _ => 0)) else (decide (0 < N), 0, 0, fun _ => 0)) = _
      rw [if_pos ⟨decide_eq_true hN, hN⟩, if_pos (by decide)]
    rw [e]
    exact rdl_c 4 _ 1 _ _
  · have e : rdl T N 5 (decide (0 < N)) 0 0 (fun _ => 0) = (decide (0 < N), 0, 0, fun _ => 0) := if_neg (fun z => hN z.2)
    rw [e] at h
    exact absurd (of_decide_eq_true h) hN
def cRd (T : Nat → Nat) (N : Nat) (I : zI) : Prop := I 4 2 = nI N ∧ (∀ i, i < N → I 5 i = nI (T i)) ∧ I 4 4 = nI (if (rdR T N).1 = true then (rdR T N).2.1 else 0) ∧ I 4 5 = (if (rdR T N).1 = true then -1 else nI (rdR T N).2.2.1) ∧ ((rdR T N).1 = true → (rdR T N).2.1 ≤ 4 ∧ ∀ t, t < (rdR T N).2.1 → cDn T N I t ((rdR T N).2.2.2 t))
def frD (I I' : zI) : Prop := (∀ c, c < 4 ∨ c = 6 ∨ 55 ≤ c → I' c = I c) ∧ (∀ t, t < 4 → ∀ e, e < 8 ∨ 13 < e → I' (7 + 12 * t) e = I (7 + 12 * t) e)
theorem zfit_c {c : Nat} (h : c < 65536) : zfit 2 (nI c) = true := by
  show decide (0 ≤ (nI c).toInt ∧ (nI c).toInt < 65536) = true
  rw [nI_toInt (by omega)]
  exact decide_eq_true ⟨by omega, by omega⟩
section CREADS
variable {S : Nat × (Nat → Int32)} {I : zI} {J : zJ} {k : zK} {T : Nat → Nat} {N : Nat}
theorem s72 (hX : okX T N) (h2 : ∀ i, i < N → I 2 i = nI (T i)) : ∃ I' : zI, zq S 72 [.ref 4, .ref 2, .int (nI N)] I J none I' J ∧ frD I I' ∧ cRd T N I' ∧ (∀ i, N ≤ i → I' 5 i = I 5 i) := by
  have hN := hX.1
  generalize hI1 : u2 I 4 2 (nI N) = I1
  generalize hI2 : u2 (u2 (u2 (uc I1 5 (va_cpy (I1 2) (I1 5) 0 0 N)) 4 3 0) 4 4 0) 4 5 (-1) = I2
  have a2 : I1 4 2 = nI N := by rw [← hI1, u2s]
  have b2 : I2 4 2 = nI N := by rw [← hI2, u2f rfl, u2f rfl, u2f rfl, ucn rfl, a2]
  have b3 : I2 4 3 = nI 0 := by rw [← hI2, u2f rfl, u2f rfl, u2s]; rfl
  have b4 : I2 4 4 = nI 0 := by rw [← hI2, u2f rfl, u2s]; rfl
  have b5 : I2 4 5 = -1 := by rw [← hI2, u2s]
  have c2 : ∀ i, i < N → I1 2 i = nI (T i) := by rw [← hI1, u2n rfl]; exact h2
  have bk : ∀ i, i < N → I2 5 i = nI (T i) := by
    intro i hi
    rw [← hI2, u2n rfl, u2n rfl, u2n rfl, uc_s, pk_cpy_in (Nat.zero_le _) (by omega), Nat.zero_add, Nat.sub_zero, c2 i hi]
  have bo : ∀ i, N ≤ i → I2 5 i = I 5 i := by
    intro i hi
    rw [← hI2, u2n rfl, u2n rfl, u2n rfl, uc_s, pk_cpy_out (by omega), ← hI1, u2n rfl]
  have hx : cTx I2 T N := ⟨b2, bk, hX⟩
  have frI : ∀ c, c < 4 ∨ c = 6 ∨ 6 < c → I2 c = I c := by
    intro c hc
    rw [← hI2, u2n (nbeq (by omega)), u2n (nbeq (by omega)), u2n (nbeq (by omega)), ucn (nbeq (by omega)), ← hI1, u2n (nbeq (by omega))]
  obtain ⟨I', i, hE, hx', hf, h4, hD⟩ := g72_l (S := S) (J := J) (k := (0, 0)) ⟨rfl, rfl⟩ 5 (decide (0 < N)) 0 0 (fun _ => 0) I2 hx b4 (by omega) (by decide) (fun _ => ⟨by omega, by omega, fun t ht => by omega⟩)
  have hr : rdl T N 5 (decide (0 < N)) 0 0 (fun _ => 0) = rdR T N := rfl
  rw [hr, cA_self b3] at hE
  rw [hr] at h4 hD
  have start : zd S 72 0 [some (.ref 4), some (.ref 2), some (.int (nI N)), none, none] [] I J (0, 0) = zd S 72 123 [some (.ref 4), none, none, some (.int (bI (rdR T N).1)), some (.int (nI i))] [] (cA I' (rdR T N).2.2.1) J (0, 0) := by
    have e480 : (if 480 < nI N then 480 else nI N) = nI N := if_neg (fun hh => by
      have := (nI_ltI (a := 480) (b := N) (by decide) (by omega)).mp hh
      omega)
    have g3 : 0 ≤ (I1 4 2).toInt := by rw [a2, nI_toInt (by omega)]; omega
    have g4 : (0 : Int32).toNatClampNeg + (I1 4 2).toNatClampNeg ≤ 480 := by rw [a2, nI_clamp (by omega)]; show 0 + N ≤ 480; omega
    have g6 : ∀ j, j < (I1 4 2).toNatClampNeg → zfit 2 (I1 2 ((0 : Int32).toNatClampNeg + j)) = true := by
      intro j hj
      rw [a2, nI_clamp (by omega)] at hj
      rw [show (0 : Int32).toNatClampNeg + j = j from Nat.zero_add j, c2 j hj]
      have := (okT_i _).mp (hX.2 j hj)
      exact zfit_c (by omega)
    rw [B72_0 ⟨rfl, rfl⟩, e480, hI1, B72_11 g3 g4 g4 g6, a2, nI_clamp (by omega), show (0 : Int32).toNatClampNeg = 0 from rfl, B72_25, B72_30, B72_35, hI2, B72_40, b2, ← hE]
    by_cases h0 : 0 < N
    · rw [if_neg (nI_nle h0 (by omega)), B72_47, decide_eq_true h0]; rfl
    · have hN0 : N = 0 := by omega
      subst hN0
      rw [if_pos (by decide), B72_51]
      rfl
  have frT : ∀ t, t < 4 → ∀ e, e < 8 ∨ 13 < e → I' (7 + 12 * t) e = I (7 + 12 * t) e := by
    intro t ht e he
    rw [hf.2.1 t ht e he, frI _ (by omega)]
  cases hR : (rdR T N).1 with
  | true =>
    refine ⟨cA I' (rdR T N).2.2.1, zq_of rfl ?_, ⟨?_, ?_⟩, ?_, ?_⟩
    · show zd S 72 0 [some (.ref 4), some (.ref 2), some (.int (nI N)), none, none] [] I J (0, 0) = _
      rw [start, B72_123, hR, if_pos (by decide), B72_140]
    · intro c hc
      rw [cA_n _ _ _ (nbeq (by omega)), hf.1 c (by omega), frI c (by omega)]
    · intro t ht e he
      rw [cA_n _ _ _ (nbeq (by omega))]
      exact frT t ht e he
    · refine ⟨?_, ?_, ?_, ?_, ?_⟩
      · rw [cA_f _ _ _ rfl]; exact hx'.1
      · rw [cA_n _ _ _ rfl]; exact hx'.2.1
      · rw [cA_f _ _ _ rfl, h4, hR, if_pos rfl]
      · rw [cA_f _ _ _ rfl, hf.2.2 5 (by decide) (by decide), b5, hR, if_pos rfl]
      · intro h
        obtain ⟨d1, d2⟩ := hD h
        refine ⟨d1, fun t ht => ?_⟩
        have := d2 t ht
        unfold cDn at *
        rw [cA_n _ _ _ (nbeq (by omega)), cA_n _ _ _ (nbeq (by omega)), cA_n _ _ _ (nbeq (by omega))]
        exact this
    · intro j hj
      rw [cA_n _ _ _ rfl, hf.1 5 (by omega)]
      exact bo j hj
  | false =>
    refine ⟨u2 (u2 (cA I' (rdR T N).2.2.1) 4 4 0) 4 5 (nI (rdR T N).2.2.1), zq_of rfl ?_, ⟨?_, ?_⟩, ?_, ?_⟩
    · show zd S 72 0 [some (.ref 4), some (.ref 2), some (.int (nI N)), none, none] [] I J (0, 0) = _
      rw [start, B72_123, hR, if_neg (not_not_intro ((bI_0 _).mpr rfl)), B72_127, B72_132, u2f rfl, cA_3, B72_140]
    · intro c hc
      rw [u2n (nbeq (by omega)), u2n (nbeq (by omega)), cA_n _ _ _ (nbeq (by omega)), hf.1 c (by omega), frI c (by omega)]
    · intro t ht e he
      rw [u2n (nbeq (by omega)), u2n (nbeq (by omega)), cA_n _ _ _ (nbeq (by omega))]
      exact frT t ht e he
    · refine ⟨?_, ?_, ?_, ?_, ?_⟩
      · rw [u2f rfl, u2f rfl, cA_f _ _ _ rfl]; exact hx'.1
      · rw [u2n rfl, u2n rfl, cA_n _ _ _ rfl]; exact hx'.2.1
      · rw [u2f rfl, u2s, hR, if_neg (by decide)]; rfl
      · rw [u2s, hR, if_neg (by decide)]
      · intro h
        rw [hR] at h
        cases h
    · intro j hj
      rw [u2n rfl, u2n rfl, cA_n _ _ _ rfl, hf.1 5 (by omega)]
      exact bo j hj
theorem s81 : ∃ f g : Nat → Int32, zq S 81 [.ref 70] I J none (uc (uc I 71 f) 72 g) J ∧ (∀ i, i < 192 → f i = 0) ∧ (∀ i, i < 12 → g i = 0) := by
  obtain ⟨n1, h1, k1⟩ : ∃ n1, zShL[71]? = some (.inr (.inl (0, n1))) ∧ n1 < 2 ^ 31 ∧ 192 ≤ n1 := ⟨_, rfl, by decide, by decide⟩
  obtain ⟨n2, h2, k2⟩ : ∃ n2, zShL[72]? = some (.inr (.inl (0, n2))) ∧ n2 < 2 ^ 31 ∧ 12 ≤ n2 := ⟨_, rfl, by decide, by decide⟩
  have e : uc I 71 (filA (I 71) 0 n1) 72 = I 72 := ucn rfl
  have q2 := s149 (S := S) (I := uc I 71 (filA (I 71) 0 n1)) (J := J) (x := 0) h2 k2.1
  rw [e] at q2
  refine ⟨filA (I 71) 0 n1, filA (I 72) 0 n2, zq_of rfl ?_, fun i hi => if_pos (by omega), fun i hi => if_pos (by omega)⟩
  show zd S 81 0 [some (.ref 70)] [] I J (0, 0) = _
  rw [B81_0 ⟨rfl, rfl⟩ (s149 h1 k1.1), B81_8 ⟨rfl, rfl⟩ q2, B81_16]
theorem s8 (hX : okX T N) (h0 : I 0 8 = nI N) (h2 : ∀ i, i < N → I 2 i = nI (T i)) : ∃ I' : zI, zq S 8 [.ref 0] I J (some (.int (if (rdR T N).1 = true then nI (rdR T N).2.1 else -1))) I' J
    ∧ cRd T N I' ∧ (∀ i, N ≤ i → I' 5 i = I 5 i) ∧ I' 0 = upd (I 0) 9 0 ∧ (∀ i, i < 192 → I' 71 i = 0) ∧ (∀ i, i < 12 → I' 72 i = 0) ∧ (∀ c, (0 < c ∧ c < 4) ∨ c = 6 ∨ (55 ≤ c ∧ c ≠ 71 ∧ c ≠ 72) → I' c = I c) ∧ (∀ t, t < 4 → ∀ e, e < 8 ∨ 13 < e → I' (7 + 12 * t) e = I (7 + 12 * t) e) := by
  obtain ⟨f, g, hw, hf, hg⟩ := s81 (S := S) (I := I) (J := J)
  have w0 : ∀ c, c ≠ 71 → c ≠ 72 → (uc (uc I 71 f) 72 g) c = I c := fun c h1 h2 => by rw [ucn (nbeq h2), ucn (nbeq h1)]
  obtain ⟨I', hz, ⟨F1, F2⟩, hc, hk⟩ := s72 (S := S) (J := J) (I := u2 (uc (uc I 71 f) 72 g) 0 9 0) hX (by
    intro i hi
    rw [u2n rfl, w0 2 (by decide) (by decide)]
    exact h2 i hi)
  have e08 : (u2 (uc (uc I 71 f) 72 g) 0 9 0) 0 8 = nI N := by rw [u2f rfl, w0 0 (by decide) (by decide)]; exact h0
  have e0 : (u2 (uc (uc I 71 f) 72 g) 0 9 0) 0 = upd (I 0) 9 0 := by
    unfold u2
    rw [uc_s, w0 0 (by decide) (by decide)]
  have h72 : zq S 72 [.ref 4, .ref 2, .int ((u2 (uc (uc I 71 f) 72 g) 0 9 0) 0 8)] (u2 (uc (uc I 71 f) 72 g) 0 9 0) J none I' J := by rw [e08]; exact hz
  refine ⟨I', zq_of rfl ?_, hc, ?_, ?_, ?_, ?_, ?_, ?_⟩
  · show zd S 8 0 [some (.ref 0)] [] I J (0, 0) = _
    rw [B8_0 ⟨rfl, rfl⟩ hw, B8_10, B8_15 ⟨rfl, rfl⟩ h72, B8_30, hc.2.2.1]
    cases hR : (rdR T N).1 with
    | true =>
      have h1 := rdR_1 hR
      have h4 := (hc.2.2.2.2 hR).1
      have hne : ¬ nI (rdR T N).2.1 = 0 := nI_ne0 (by omega) (by omega)
      rw [if_pos rfl, if_pos hne, B8_44, hc.2.2.1, hR, if_pos rfl, if_pos rfl]
    | false =>
      have hne : ¬ ¬ nI (if false = true then (rdR T N).2.1 else 0) = 0 := not_not_intro nI_0
      rw [if_neg hne, B8_40, if_neg Bool.false_ne_true]
  · intro i hi
    rw [hk i hi, u2n rfl, w0 5 (by decide) (by decide)]
  · rw [F1 0 (by omega), e0]
  · intro i hi
    rw [F1 71 (by omega), u2n rfl, ucn rfl, uc_s]
    exact hf i hi
  · intro i hi
    rw [F1 72 (by omega), u2n rfl, uc_s]
    exact hg i hi
  · intro c hcc
    rw [F1 c (by omega), u2n (nbeq (by omega)), w0 c (by omega) (by omega)]
  · intro t ht e he
    rw [F2 t ht e he, u2n (nbeq (by omega)), w0 _ (by omega) (by omega)]
end CREADS
