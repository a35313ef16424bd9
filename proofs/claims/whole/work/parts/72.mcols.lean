/-! plan: columns and their rooms, the other side -/
def mPl (I : zI) (s : Nat) (X : List (Nat × Nat × Nat × Nat)) (fc fr : Nat) : Prop := X.length ≤ 40 ∧ fc ≤ 9 ∧ fr ≤ 9 ∧ I 94 s = nI X.length ∧ I 86 s = nI fc ∧ I 87 s = nI fr ∧ (∀ j x, X[j]? = some x → (I 95 (41 * s + j) = nI (4 * s + x.1) ∧ I 96 (41 * s + j) = nI x.2.1 ∧ I 97 (41 * s + j) = nI x.2.2.1 ∧ I 92 (4 * s + x.1) = nI x.2.2.2) ∧ x.1 < 4 ∧ x.2.1 < 2 ^ 20 ∧ x.2.2.1 < 2 ^ 20 ∧ x.2.2.2 < 2 ^ 20)
theorem mPl_u {I I' : zI} {s : Nat} {X : List (Nat × Nat × Nat × Nat)} {fc fr : Nat} (h : mPl I s X fc fr) (hI : ∀ x, x = 86 ∨ x = 87 ∨ x = 92 ∨ x = 94 ∨ x = 95 ∨ x = 96 ∨ x = 97 → I' x = I x) : mPl I' s X fc fr := by
  obtain ⟨a1, a2, a3, a4, a5, a6, a7⟩ := h
  refine ⟨a1, a2, a3, by rw [hI 94 (by omega)]; exact a4, by rw [hI 86 (by omega)]; exact a5, by rw [hI 87 (by omega)]; exact a6, fun j x hx => ?_⟩
  rw [hI 95 (by omega), hI 96 (by omega), hI 97 (by omega), hI 92 (by omega)]
  exact a7 j x hx
section MCOLS
variable {S : Nat × (Nat → Int32)} {k : zK} {s fc fr : Nat} {X : List (Nat × Nat × Nat × Nat)}
theorem s125 {I : zI} {J : zJ} {i : Nat} (hs : s < 4) (hP : mPl I s X fc fr) (h0 : 0 < i) (hi : i < X.length) : zq S 125 [.ref 76, .int (nI s), .int (nI i)] I J (some (.int (bI (bdL X i)))) I J := by
  obtain ⟨a1, a2, a3, a4, a5, a6, a7⟩ := hP
  have hu : X[i - 1]? = some (X[i - 1]) := List.getElem?_eq_getElem (by omega)
  have hv : X[i]? = some (X[i]) := List.getElem?_eq_getElem hi
  obtain ⟨⟨u1, u2', u3, u4⟩, u5, u6, u7, u8⟩ := a7 _ _ hu
  obtain ⟨⟨v1, v2', v3, v4⟩, v5, v6, v7, v8⟩ := a7 _ _ hv
  have hb : bdL X i = (decide ((X[i - 1]).1 = (X[i]).1) && (decide ((X[i - 1]).2.1 = 0) || decide ((X[i]).2.2.1 = (X[i]).2.2.2))) := by
    unfold bdL
    rw [hu, hv]
    dsimp only
    rw [decide_eq_true h0, Bool.true_and]
  have e1 : (41 * nI s + nI i - 1 : Int32) = nI (41 * s + (i - 1)) := by
    rw [show (41 : Int32) = nI 41 from rfl, pk_mul, nI_add, show (1 : Int32) = nI 1 from rfl, pk_sub (by omega)]
    congr 1
    omega
  have e2 : (nI (41 * s + (i - 1)) + 1 : Int32) = nI (41 * s + i) := by
    rw [nI_1]
    congr 1
    omega
  have z1 : zin (nI (41 * s + (i - 1))) 164 = true := zin_n (by omega) (by decide)
  have z2 : zin (nI (41 * s + i)) 164 = true := zin_n (by omega) (by decide)
  have c1 : (nI (41 * s + (i - 1))).toNatClampNeg = 41 * s + (i - 1) := nI_clamp (by omega)
  have c2 : (nI (41 * s + i)).toNatClampNeg = 41 * s + i := nI_clamp (by omega)
  have q1 : nI (4 * s + (X[i - 1]).1) = nI (4 * s + (X[i]).1) ↔ (X[i - 1]).1 = (X[i]).1 := by
    rw [nI_eq (by omega) (by omega)]
    omega
  have q2 : nI (X[i - 1]).2.1 = 0 ↔ (X[i - 1]).2.1 = 0 := by
    have := nI_eq (a := (X[i - 1]).2.1) (b := 0) (by omega) (by decide)
    rw [nI_0] at this
    exact this
  have q3 : nI (X[i]).2.2.1 = nI (X[i]).2.2.2 ↔ (X[i]).2.2.1 = (X[i]).2.2.2 := nI_eq (by omega) (by omega)
  refine zq_of rfl ?_
  show zd S 125 0 [some (.ref 76), some (.int (nI s)), some (.int (nI i)), none, none, none] [] I J (0, 0) = _
  rw [hb, B125_0 (by rw [e1]; exact z1) (by rw [e1, e2]; exact z2), e1, e2, c1, c2, u1, v1]
  by_cases h1 : (X[i - 1]).1 = (X[i]).1
  · rw [if_neg (not_not_intro (q1.mpr h1)), decide_eq_true h1, B125_30, if_neg (by decide), B125_42 z1, c1, u2']
    by_cases h2 : (X[i - 1]).2.1 = 0
    · rw [if_pos (q2.mpr h2), decide_eq_true h2, B125_73 rfl]
      rfl
    · rw [if_neg (fun z => h2 (q2.mp z)), decide_eq_false h2, B125_51 z2 z2 (by rw [c2, v1]; exact zin_n (by omega) (by decide)), c2, v1, nI_clamp (by omega), v3, v4]
      by_cases h3 : (X[i]).2.2.1 = (X[i]).2.2.2
      · rw [if_neg (not_not_intro (q3.mpr h3)), decide_eq_true h3, B125_73 rfl]
        rfl
      · rw [if_pos (fun z => h3 (q3.mp z)), decide_eq_false h3, B125_77 rfl]
        rfl
  · rw [if_pos (fun z => h1 (q1.mp z)), decide_eq_false h1, B125_34, if_pos (by decide), B125_77 rfl]
    rfl
theorem g126_l {k' h less : Nat} {J : zJ} (hk : k' ≤ 4) (hh : h < 2 ^ 20) (hfc : fc ≤ 9) (hfr : fr ≤ 9) (hl : less ≤ 1) : ∀ (m c : Nat) (b : Bool) (I : zI), k' = c + m → (b = true → ∀ x, x < c → lo fc fr k' less x ≤ h ∧ I 106 x = nI (rmF h fc fr k' less x)) →
    ∃ (I' : zI) (v : Bool), zd S 126 6 [some (.ref 76), some (.int (nI k')), some (.int (nI h)), some (.int (nI fc)), some (.int (nI fr)), some (.int (nI less)), some (.int (bI b)), some (.int (nI c))] [] I J k = some (some (.int (bI v)), mk I' J, k) ∧ (v = true ↔ b = true ∧ ∀ x, c ≤ x → x < k' → lo fc fr k' less x ≤ h) ∧ (∀ x, x ≠ 106 → I' x = I x) ∧ (v = true → ∀ x, x < k' → I' 106 x = nI (rmF h fc fr k' less x)) := by
  intro m
  induction m with
  | zero =>
    intro c b I hm hb
    have hc : k' = c := by omega
    subst hc
    refine ⟨I, b, ?_, ⟨fun h => ⟨h, fun x h1 h2 => by omega⟩, fun h => h.1⟩, fun _ _ => rfl, fun h x hx => (hb h x hx).2⟩
    rw [B126_6, if_pos (nI_le (Nat.le_refl _) (by omega)), B126_76 (bI_z b)]
  | succ m ih =>
    intro c b I hm hb
    have zc : zin (nI c) 4 = true := zin_n (by omega) (by decide)
    have cc : (nI c).toNatClampNeg = c := nI_clamp (by omega)
    have e1 : nI fc ≤ nI c ↔ fc ≤ c := nI_leI (by omega) (by omega)
    have ek : nI k' - 1 = nI (k' - 1) := pk_sub (b := 1) (by omega)
    have e2 : nI c = nI (k' - 1) ↔ c + 1 = k' := by
      rw [nI_eq (by omega) (by omega)]
      omega
    have hroom : ∃ a b' : Nat, a ≤ 9 ∧ b' ≤ 1 ∧ lo fc fr k' less c = a + b' ∧ zd S 126 12 [some (.ref 76), some (.int (nI k')), some (.int (nI h)), some (.int (nI fc)), some (.int (nI fr)), some (.int (nI less)), some (.int (bI b)), some (.int (nI c))] [] I J k = zd S 126 48 [some (.ref 76), some (.int (nI k')), some (.int (nI h)), some (.int (nI fc)), some (.int (nI fr)), some (.int (nI less)), some (.int (bI b)), some (.int (nI c))] [] (u2 I 106 c (nI h - nI a - nI b')) J k := by
      refine ⟨if c < fc then fr else 0, if c + 1 = k' then less else 0, by split <;> omega, by split <;> omega, rfl, ?_⟩
      rw [B126_12]
      by_cases hf : c < fc
      · rw [if_neg (fun z => by have := e1.mp z; omega), if_pos hf, B126_25, ek]
        by_cases hl' : c + 1 = k'
        · rw [if_neg (not_not_intro (e2.mpr hl')), if_pos hl', B126_40 zc, cc]
        · rw [if_pos (fun z => hl' (e2.mp z)), if_neg hl', B126_45 zc, cc]
          rfl
      · rw [if_pos (e1.mpr (by omega)), if_neg hf, B126_30, ek]
        by_cases hl' : c + 1 = k'
        · rw [if_neg (not_not_intro (e2.mpr hl')), if_pos hl', B126_40 zc, cc]
          rfl
        · rw [if_pos (fun z => hl' (e2.mp z)), if_neg hl', B126_45 zc, cc]
          rfl
    obtain ⟨a, b', ha, hb', hlo, hgo⟩ := hroom
    have hsub := sub2 (h := h) (a := a) (b := b') hh (by omega) (by omega)
    have e67 : (u2 I 106 c (nI h - nI a - nI b')) 106 c = nI h - nI a - nI b' := u2s
    have hlt : nI h - nI a - nI b' < 0 ↔ ¬ a + b' ≤ h := by
      rw [← hsub.1]
      rw [Int32.lt_iff_toInt_lt, Int32.le_iff_toInt_le]
      omega
    have hgood : ∃ g : Bool, zd S 126 6 [some (.ref 76), some (.int (nI k')), some (.int (nI h)), some (.int (nI fc)), some (.int (nI fr)), some (.int (nI less)), some (.int (bI b)), some (.int (nI c))] [] I J k = zd S 126 6 [some (.ref 76), some (.int (nI k')), some (.int (nI h)), some (.int (nI fc)), some (.int (nI fr)), some (.int (nI less)), some (.int (bI g)), some (.int (nI (c + 1)))] [] (u2 I 106 c (nI h - nI a - nI b')) J k ∧ (g = true ↔ b = true ∧ a + b' ≤ h) := by
      cases b with
      | false =>
        refine ⟨false, ?_, ⟨fun z => (by cases z), fun z => z.1⟩⟩
        rw [B126_6, if_neg (nI_ge (by omega) (by omega)), hgo, B126_48, if_pos (show bI false = 0 from rfl), B126_67, nI_1]
        rfl
      | true =>
        by_cases hle : a + b' ≤ h
        · refine ⟨true, ?_, ⟨fun _ => ⟨rfl, hle⟩, fun _ => rfl⟩⟩
          rw [B126_6, if_neg (nI_ge (by omega) (by omega)), hgo, B126_48, if_neg (show ¬ bI true = 0 by decide), B126_53 zc, cc, e67, if_neg (fun z => (hlt.mp z) hle), B126_63, nI_1]
          rfl
        · refine ⟨false, ?_, ⟨fun z => (by cases z), fun z => absurd z.2 hle⟩⟩
          rw [B126_6, if_neg (nI_ge (by omega) (by omega)), hgo, B126_48, if_neg (show ¬ bI true = 0 by decide), B126_53 zc, cc, e67, if_pos (hlt.mpr hle), B126_67, nI_1]
          rfl
    obtain ⟨g, hg1, hg2⟩ := hgood
    obtain ⟨I', v, e, r1, r2, r3⟩ := ih (c + 1) g (u2 I 106 c (nI h - nI a - nI b')) (by omega) (fun hgt x hx => by
      have h3 := hg2.mp hgt
      by_cases hxc : x = c
      · rw [hxc, hlo, u2s, hsub.2 h3.2]
        refine ⟨h3.2, ?_⟩
        unfold rmF
        rw [hlo]
      · rw [u2ne hxc]
        exact hb h3.1 x (by omega))
    refine ⟨I', v, hg1.trans e, ?_, fun x hx => by rw [r2 x hx, u2n (nbeq hx)], r3⟩
    rw [r1, hg2]
    constructor
    · rintro ⟨⟨z1, z2⟩, z3⟩
      refine ⟨z1, fun x h1 h2 => ?_⟩
      by_cases hxc : x = c
      · rw [hxc, hlo]
        exact z2
      · exact z3 x (by omega) h2
    · rintro ⟨z1, z2⟩
      refine ⟨⟨z1, ?_⟩, fun x h1 h2 => z2 x (by omega) h2⟩
      have := z2 c (Nat.le_refl _) (by omega)
      rw [hlo] at this
      exact this
theorem s126 {I : zI} {J : zJ} {k' h less : Nat} (hk : k' ≤ 4) (hh : h < 2 ^ 20) (hfc : fc ≤ 9) (hfr : fr ≤ 9) (hl : less ≤ 1) :
    ∃ I', zq S 126 [.ref 76, .int (nI k'), .int (nI h), .int (nI fc), .int (nI fr), .int (nI less)] I J (some (.int (bI (okH h fc fr k' less)))) I' J ∧ (∀ x, x ≠ 106 → I' x = I x) ∧ (okH h fc fr k' less = true → ∀ x, x < k' → I' 106 x = nI (rmF h fc fr k' less x)) := by
  obtain ⟨I', v, e, r1, r2, r3⟩ := g126_l (S := S) (k := (0, 0)) (J := J) (fc := fc) (fr := fr) hk hh hfc hfr hl k' 0 true I (by omega) (fun _ x hx => absurd hx (Nat.not_lt_zero _))
  have hv : v = okH h fc fr k' less := b_ext2 (by
    rw [r1]
    unfold okH
    rw [allT_i]
    constructor
    · intro q t ht
      exact decide_eq_true (q.2 t (Nat.zero_le _) ht)
    · intro q
      exact ⟨rfl, fun t _ ht => of_decide_eq_true (q t ht)⟩)
  rw [hv] at e r3
  refine ⟨I', ?_, r2, r3⟩
  refine zq_of rfl ?_
  show zd S 126 0 [some (.ref 76), some (.int (nI k')), some (.int (nI h)), some (.int (nI fc)), some (.int (nI fr)), some (.int (nI less)), none, none] [] I J (0, 0) = _
  rw [B126_0, ← nI_0]
  exact e
end MCOLS
