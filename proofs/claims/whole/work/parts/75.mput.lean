/-! plan: a part's cells are set, the other side -/
def mPt (I : zI) (q pg x y k h f m : Nat) (t : Nat → Nat) : Prop := I 104 (11 * q) = nI pg ∧ I 104 (11 * q + 1) = nI x ∧ I 104 (11 * q + 2) = nI y ∧ I 104 (11 * q + 3) = nI k ∧ I 104 (11 * q + 4) = nI h ∧ I 104 (11 * q + 5) = nI f ∧ I 104 (11 * q + 6) = nI m ∧ (∀ c, c < 4 → I 104 (11 * q + 7 + c) = nI (if c < k then t c else 0)) ∧ I 103 q = 1
def fdV (I : zI) (pg x y k : Nat) : Prop := I 76 42 = nI pg ∧ I 76 43 = nI x ∧ I 76 44 = nI y ∧ I 76 45 = nI k
/-- what else the parts' rows hold stays -/
def frPt (I I' : zI) (q : Nat) : Prop := (∀ x, x ≠ q → I' 103 x = I 103 x) ∧ (∀ x, x < 11 * q ∨ 11 * q + 11 ≤ x → I' 104 x = I 104 x)
section MPUT
variable {S : Nat × (Nat → Int32)} {k : zK} {J : zJ} {s q pg x y k' h f m : Nat}
theorem s131 {I : zI} {p e : Nat} {t : Nat → Nat} (hs : s < 4) (hp : p < 2) (hF : fdV I pg x y k') (hk : k' ≤ 4) (hfe : f ≤ e) (ht : ∀ c, c < k' → I 107 c = nI (t c)) :
    ∃ I', zq S 131 [.ref 76, .int (nI s), .int (nI p), .int (nI h), .int (nI f), .int (nI e)] I J none I' J ∧ (∀ z, z ≠ 103 → z ≠ 104 → I' z = I z) ∧ frPt I I' (2 * s + p) ∧ mPt I' (2 * s + p) pg x y k' h f (e - f) t := by
  obtain ⟨F1, F2, F3, F4⟩ := hF
  have hq8 : 2 * s + p < 8 := by omega
  generalize hq : 2 * s + p = q at hq8
  have eq1 : (2 * nI s + nI p : Int32) = nI q := by rw [show (2 : Int32) = nI 2 from rfl, pk_mul, nI_add, hq]
  have e11 : (11 * nI q : Int32) = nI (11 * q) := by rw [show (11 : Int32) = nI 11 from rfl, pk_mul]
  have ej : ∀ j : Nat, (nI (11 * q) + nI j : Int32) = nI (11 * q + j) := fun j => nI_add _ _
  have zj : ∀ j : Nat, j < 11 → zin (nI (11 * q + j)) 88 = true := fun j hj => zin_n (by omega) (by decide)
  have cj : ∀ j : Nat, j < 11 → (nI (11 * q + j)).toNatClampNeg = 11 * q + j := fun j hj => nI_clamp (by omega)
  have nar1 : vp_nar .boolean 1 = 1 := rfl
  generalize hM0 : u2 I 103 q 1 = M0
  have m0o : ∀ z, z ≠ 103 → M0 z = I z := fun z hz => by rw [← hM0, u2n (nbeq hz)]
  generalize hM1 : u2 M0 104 (11 * q) (nI pg) = M1
  generalize hM2 : u2 M1 104 (11 * q + 1) (nI x) = M2
  generalize hM3 : u2 M2 104 (11 * q + 2) (nI y) = M3
  generalize hM4 : u2 M3 104 (11 * q + 3) (nI k') = M4
  generalize hM5 : u2 M4 104 (11 * q + 4) (nI h) = M5
  generalize hM6 : u2 M5 104 (11 * q + 5) (nI f) = M6
  generalize hM7 : u2 M6 104 (11 * q + 6) (nI (e - f)) = M7
  have o7 : ∀ z, z ≠ 103 → z ≠ 104 → M7 z = I z := fun z h1 h2 => by rw [← hM7, u2n (nbeq h2), ← hM6, u2n (nbeq h2), ← hM5, u2n (nbeq h2), ← hM4, u2n (nbeq h2), ← hM3, u2n (nbeq h2), ← hM2, u2n (nbeq h2), ← hM1, u2n (nbeq h2), m0o z h1]
  have m76 : M0 76 = I 76 := m0o 76 (by decide)
  have m176 : M1 76 = I 76 := by rw [← hM1, u2n rfl, m76]
  have m276 : M2 76 = I 76 := by rw [← hM2, u2n rfl, m176]
  have m376 : M3 76 = I 76 := by rw [← hM3, u2n rfl, m276]
  have hpre : zd S 131 0 [some (.ref 76), some (.int (nI s)), some (.int (nI p)), some (.int (nI h)), some (.int (nI f)), some (.int (nI e)), none, none] [] I J (0, 0) = zd S 131 125 [some (.ref 76), some (.int (nI s)), some (.int (nI p)), some (.int (nI h)), some (.int (nI f)), some (.int (nI e)), some (.int (nI q)), some (.int (nI 0))] [] M7 J (0, 0) := by
    have z0 := zj 0 (by omega)
    have c0 := cj 0 (by omega)
    rw [Nat.add_zero] at z0 c0
    rw [B131_0 (by rw [eq1]; exact zin_n hq8 (by decide)), eq1, nI_clamp (by omega), nar1, hM0, B131_15 (by rw [e11]; exact z0), e11, c0, m76, F1, hM1, B131_29 (by rw [e11, show (1 : Int32) = nI 1 from rfl, ej]; exact zj 1 (by omega)), e11, show (1 : Int32) = nI 1 from rfl, ej, cj 1 (by omega), m176, F2, hM2]
    rw [B131_45 (by rw [e11, show (2 : Int32) = nI 2 from rfl, ej]; exact zj 2 (by omega)), e11, show (2 : Int32) = nI 2 from rfl, ej, cj 2 (by omega), m276, F3, hM3]
    rw [B131_61 (by rw [e11, show (3 : Int32) = nI 3 from rfl, ej]; exact zj 3 (by omega)), e11, show (3 : Int32) = nI 3 from rfl, ej, cj 3 (by omega), m376, F4, hM4]
    rw [B131_77 (by rw [e11, show (4 : Int32) = nI 4 from rfl, ej]; exact zj 4 (by omega)), e11, show (4 : Int32) = nI 4 from rfl, ej, cj 4 (by omega), hM5]
    rw [B131_90 (by rw [e11, show (5 : Int32) = nI 5 from rfl, ej]; exact zj 5 (by omega)), e11, show (5 : Int32) = nI 5 from rfl, ej, cj 5 (by omega), hM6]
    rw [B131_104 (by rw [e11, show (6 : Int32) = nI 6 from rfl, ej]; exact zj 6 (by omega)), e11, show (6 : Int32) = nI 6 from rfl, ej, cj 6 (by omega), pk_sub hfe, hM7, B131_122, nI_0]
  have hl : ∀ (m' c : Nat) (M : zI) (o1 o2 o3 o4 o5 : Option Value), 4 = c + m' → (∀ z, z ≠ 104 → M z = M7 z) → (∀ z, z < 11 * q + 7 ∨ 11 * q + 11 ≤ z → M 104 z = M7 104 z) → (∀ c', c' < c → M 104 (11 * q + 7 + c') = nI (if c' < k' then t c' else 0)) → ∃ I', zd S 131 125 [some (.ref 76), o1, o2, o3, o4, o5, some (.int (nI q)), some (.int (nI c))] [] M J (0, 0) = some (none, mk I' J, (0, 0)) ∧ (∀ z, z ≠ 104 → I' z = M7 z) ∧ (∀ z, z < 11 * q + 7 ∨ 11 * q + 11 ≤ z → I' 104 z = M7 104 z) ∧ (∀ c', c' < 4 → I' 104 (11 * q + 7 + c') = nI (if c' < k' then t c' else 0)) := by
    intro m'
    induction m' with
    | zero =>
      intro c M o1 o2 o3 o4 o5 hm h1 h2 h3
      refine ⟨M, ?_, h1, h2, fun c' hc => h3 c' (by omega)⟩
      have h4 : (4 : Int32) ≤ nI c := nI_le (a := 4) (by omega) (by omega)
      rw [B131_125, if_pos h4, B131_173]
    | succ m' ih =>
      intro c M o1 o2 o3 o4 o5 hm h1 h2 h3
      have h4 : ¬ (4 : Int32) ≤ nI c := nI_ge (b := 4) (by omega) (by decide)
      have m45 : M 76 45 = nI k' := by rw [h1 76 (by decide), o7 76 (by decide) (by decide)]; exact F4
      have ei : (11 * nI q + 7 + nI c : Int32) = nI (11 * q + 7 + c) := by rw [e11, show (7 : Int32) = nI 7 from rfl, nI_add, nI_add]
      have zi : zin (nI (11 * q + 7 + c)) 88 = true := zin_n (by omega) (by decide)
      have ci : (nI (11 * q + 7 + c)).toNatClampNeg = 11 * q + 7 + c := nI_clamp (by omega)
      have ekc : nI k' ≤ nI c ↔ k' ≤ c := nI_leI (by omega) (by omega)
      obtain ⟨I', e1, r1, r2, r3⟩ := ih (c + 1) (u2 M 104 (11 * q + 7 + c) (nI (if c < k' then t c else 0))) none none none none none (by omega) (fun z hz => by rw [u2n (nbeq hz)]; exact h1 z hz) (fun z hz => by rw [u2ne (by omega)]; exact h2 z hz) (fun c' hc' => by
        by_cases hcc : c' = c
        · rw [hcc, u2s]
        · rw [u2ne (by omega)]
          exact h3 c' (by omega))
      refine ⟨I', ?_, r1, r2, r3⟩
      rw [B131_125, if_neg h4, B131_131, m45, ei]
      by_cases hck : c < k'
      · have m107 : M 107 c = nI (t c) := by rw [h1 107 (by decide), o7 107 (by decide) (by decide)]; exact ht c hck
        rw [if_pos hck] at e1
        rw [if_neg (fun z => by have := ekc.mp z; omega), B131_155 (zin_n (by omega) (by decide)) zi, ci, nI_clamp (by omega), m107, B131_167, nI_1]
        exact e1
      · rw [if_neg hck] at e1
        rw [if_pos (ekc.mpr (by omega)), B131_165 zi, ci, B131_167, nI_1]
        exact e1
  obtain ⟨I', e1, r1, r2, r3⟩ := hl 4 0 M7 (some (.int (nI s))) (some (.int (nI p))) (some (.int (nI h))) (some (.int (nI f))) (some (.int (nI e))) (by omega) (fun _ _ => rfl) (fun _ _ => rfl) (fun c' hc => absurd hc (Nat.not_lt_zero _))
  refine ⟨I', zq_of rfl (hpre.trans e1), fun z h1 h2 => by rw [r1 z h2, o7 z h1 h2], ⟨fun z hz => ?_, fun z hz => ?_⟩, ?_, ?_, ?_, ?_, ?_, ?_, ?_, r3, ?_⟩
  · rw [r1 103 (by decide), ← hM7, u2n rfl, ← hM6, u2n rfl, ← hM5, u2n rfl, ← hM4, u2n rfl, ← hM3, u2n rfl, ← hM2, u2n rfl, ← hM1, u2n rfl, ← hM0, u2ne hz]
  · rw [r2 z (by omega), ← hM7, u2ne (by omega), ← hM6, u2ne (by omega), ← hM5, u2ne (by omega), ← hM4, u2ne (by omega), ← hM3, u2ne (by omega), ← hM2, u2ne (by omega), ← hM1, u2ne (by omega), m0o 104 (by decide)]
  · rw [r2 _ (by omega), ← hM7, u2ne (by omega), ← hM6, u2ne (by omega), ← hM5, u2ne (by omega), ← hM4, u2ne (by omega), ← hM3, u2ne (by omega), ← hM2, u2ne (by omega), ← hM1, u2s]
  · rw [r2 _ (by omega), ← hM7, u2ne (by omega), ← hM6, u2ne (by omega), ← hM5, u2ne (by omega), ← hM4, u2ne (by omega), ← hM3, u2ne (by omega), ← hM2, u2s]
  · rw [r2 _ (by omega), ← hM7, u2ne (by omega), ← hM6, u2ne (by omega), ← hM5, u2ne (by omega), ← hM4, u2ne (by omega), ← hM3, u2s]
  · rw [r2 _ (by omega), ← hM7, u2ne (by omega), ← hM6, u2ne (by omega), ← hM5, u2ne (by omega), ← hM4, u2s]
  · rw [r2 _ (by omega), ← hM7, u2ne (by omega), ← hM6, u2ne (by omega), ← hM5, u2s]
  · rw [r2 _ (by omega), ← hM7, u2ne (by omega), ← hM6, u2s]
  · rw [r2 _ (by omega), ← hM7, u2s]
  · rw [r1 103 (by decide), ← hM7, u2n rfl, ← hM6, u2n rfl, ← hM5, u2n rfl, ← hM4, u2n rfl, ← hM3, u2n rfl, ← hM2, u2n rfl, ← hM1, u2n rfl, ← hM0, u2s]
/-- what a part's cells hold: its head, its figure, its lines -/
def vMF (b p fc fr : Nat) (t li : Nat → Nat) (c r : Nat) : Nat := if 1 + hiF fc fr c ≤ r ∧ r < 1 + hiF fc fr c + t c then b + (li c + (r - (1 + hiF fc fr c))) else if r = 0 then (if p = 0 then b + 80 else if c = 0 then b + 83 else 90) else if r ≤ hiF fc fr c then b + 81 else 90
def fr105 (I I' : zI) : Prop := ∀ z, z ≠ 105 → I' z = I z
theorem g132_c {I : zI} {b p fc fr c : Nat} {t : Nat → Nat} (hF : fdV I pg x y k') (hp : pg < 3) (hx : x + k' ≤ 4) (hy : y + h ≤ 16) (hh0 : 0 < h) (hpp : p < 2) (hb : b < 2 ^ 20) (hf20 : f < 2 ^ 20) (hfr : fr ≤ 9) (hfc : fc ≤ 9) (hc : c < k') (ht : I 107 c = nI (t c)) (hfit : 1 + hiF fc fr c + t c ≤ h) (hli : liT f t c < 2 ^ 20) (o1 o4 o5 o11 o12 o13 : Option Value) :
    ∃ (I' : zI) (o11' o12' o13' : Option Value), zd S 132 26 [some (.ref 76), o1, some (.int (nI p)), some (.int (nI h)), o4, o5, some (.int (nI fc)), some (.int (nI fr)), some (.int (nI b)), some (.int (nI (liT f t c))), some (.int (nI c)), o11, o12, o13] [] I J k = zd S 132 26 [some (.ref 76), none, some (.int (nI p)), some (.int (nI h)), none, none, some (.int (nI fc)), some (.int (nI fr)), some (.int (nI b)), some (.int (nI (liT f t (c + 1)))), some (.int (nI (c + 1))), o11', o12', o13'] [] I' J k ∧ fr105 I I' ∧ gUp pg x y k' h (I 105) (I' 105) (fun c' _ => c' = c) (fun c r => nI (vMF b p fc fr t (liT f t) c r)) := by
  obtain ⟨F1, F2, F3, F4⟩ := hF
  generalize hat : 64 * pg + 16 * (x + c) + y = at0
  have hat0 : at0 + h ≤ 192 := by omega
  have eat : (64 * nI pg + 16 * (nI x + nI c) + nI y : Int32) = nI at0 := by
    rw [nI_add, show (64 : Int32) = nI 64 from rfl, show (16 : Int32) = nI 16 from rfl, pk_mul, pk_mul, nI_add, nI_add, hat]
  have ecf : nI fc ≤ nI c ↔ fc ≤ c := nI_leI (by omega) (by omega)
  have ek : ¬ nI k' ≤ nI c := nI_ge hc (by omega)
  generalize hhi : hiF fc fr c = hi at hfit
  have hhi9 : hi ≤ 9 := by rw [← hhi]; unfold hiF; split <;> omega
  have hpre : zd S 132 26 [some (.ref 76), o1, some (.int (nI p)), some (.int (nI h)), o4, o5, some (.int (nI fc)), some (.int (nI fr)), some (.int (nI b)), some (.int (nI (liT f t c))), some (.int (nI c)), o11, o12, o13] [] I J k = zd S 132 78 [some (.ref 76), none, some (.int (nI p)), some (.int (nI h)), none, none, some (.int (nI fc)), some (.int (nI fr)), some (.int (nI b)), some (.int (nI (liT f t c))), some (.int (nI c)), some (.int (nI at0)), some (.int (nI hi)), some (.int (nI 0))] [] I J k := by
    rw [B132_26, F4, if_neg ek, B132_35, F1, F2, F3, eat]
    unfold hiF at hhi
    by_cases hcf : c < fc
    · rw [if_pos hcf] at hhi
      rw [if_neg (fun z => by have := ecf.mp z; omega), B132_67, ← hhi, nI_0]
    · rw [if_neg hcf] at hhi
      rw [if_pos (ecf.mpr (by omega)), B132_72, ← hhi, nI_0]
  -- phase 1
  have h1 : ∀ (m' r : Nat) (M : zI), h = r + m' → fr105 I M → gUp pg x y k' h (I 105) (M 105) (fun c' r' => c' = c ∧ r' < r) (fun _ r => nI (if 0 < r ∧ r ≤ hi then b + 81 else 90)) → ∃ (M' : zI) (l13 : Int32), zd S 132 78 [some (.ref 76), none, some (.int (nI p)), some (.int (nI h)), none, none, some (.int (nI fc)), some (.int (nI fr)), some (.int (nI b)), some (.int (nI (liT f t c))), some (.int (nI c)), some (.int (nI at0)), some (.int (nI hi)), some (.int (nI r))] [] M J k = zd S 132 122 [some (.ref 76), none, some (.int (nI p)), some (.int (nI h)), none, none, some (.int (nI fc)), some (.int (nI fr)), some (.int (nI b)), some (.int (nI (liT f t c))), some (.int (nI c)), some (.int (nI at0)), some (.int (nI hi)), some (.int l13)] [] M' J k ∧ fr105 I M' ∧ gUp pg x y k' h (I 105) (M' 105) (fun c' _ => c' = c) (fun _ r => nI (if 0 < r ∧ r ≤ hi then b + 81 else 90)) := by
    intro m'
    induction m' with
    | zero =>
      intro r M hm hfr' hu
      refine ⟨M, nI r, ?_, hfr', ⟨fun c' r' hc' hr' => ?_, hu.2⟩⟩
      · rw [B132_78, if_pos (nI_le (by omega) (by omega))]
      · have := hu.1 c' r' hc' hr'
        exact ⟨fun z => this.1 ⟨z, by omega⟩, fun z => this.2 (fun w => z w.1)⟩
    | succ m' ih =>
      intro r M hm hfr' hu
      have eI : (nI at0 + nI r : Int32) = nI (at0 + r) := nI_add _ _
      have zI' : zin (nI (at0 + r)) 192 = true := zin_n (by omega) (by decide)
      have cI : (nI (at0 + r)).toNatClampNeg = at0 + r := nI_clamp (by omega)
      have eix : at0 + r = 64 * pg + 16 * (x + c) + (y + r) := by omega
      obtain ⟨M', l13, e1, r1, r2⟩ := ih (r + 1) (u2 M 105 (at0 + r) (nI (if 0 < r ∧ r ≤ hi then b + 81 else 90))) (by omega) (fun z hz => by rw [u2n (nbeq hz)]; exact hfr' z hz) (gUp_s (c0 := c) (r0 := r) hu hc (by omega) hy (by rw [← eix, u2s]) (fun i hi' => by rw [← eix] at hi'; rw [u2ne hi']) (fun c' r' _ _ => by omega))
      refine ⟨M', l13, ?_, r1, r2⟩
      rw [B132_78, if_neg (nI_ge (by omega) (by omega)), B132_84, eI]
      by_cases hr0 : r = 0
      · rw [if_neg (by omega)] at e1
        rw [if_pos (show nI r ≤ 0 by rw [hr0]; decide), B132_113 zI', cI, B132_116, nI_1]
        exact e1
      · have en : nI hi < nI r ↔ hi < r := nI_ltI (by omega) (by omega)
        rw [if_neg (nI_nle (by omega) (by omega)), B132_98]
        by_cases hrh : r ≤ hi
        · rw [if_pos ⟨by omega, hrh⟩] at e1
          rw [if_neg (fun z => by have := en.mp z; omega), B132_105 zI', cI, show (81 : Int32) = nI 81 from rfl, nI_add, B132_116, nI_1]
          exact e1
        · rw [if_neg (fun z => hrh z.2)] at e1
          rw [if_pos (en.mpr (by omega)), B132_113 zI', cI, B132_116, nI_1]
          exact e1
  obtain ⟨M1, l13, e1, a1, a2⟩ := h1 h 0 I (by omega) (fun _ _ => rfl) (gUp_0 (fun c' r' _ _ z => absurd z.2 (Nat.not_lt_zero _)))
  -- phase 2
  have eix0 : at0 = 64 * pg + 16 * (x + c) + (y + 0) := by omega
  have z0 : zin (nI at0) 192 = true := zin_n (by omega) (by decide)
  have c0 : (nI at0).toNatClampNeg = at0 := nI_clamp (by omega)
  generalize hhead : (if p = 0 then b + 80 else if c = 0 then b + 83 else 90) = hd
  generalize hM2 : u2 M1 105 at0 (nI hd) = M2
  have h2 : zd S 132 122 [some (.ref 76), none, some (.int (nI p)), some (.int (nI h)), none, none, some (.int (nI fc)), some (.int (nI fr)), some (.int (nI b)), some (.int (nI (liT f t c))), some (.int (nI c)), some (.int (nI at0)), some (.int (nI hi)), some (.int l13)] [] M1 J k = zd S 132 159 [some (.ref 76), none, some (.int (nI p)), some (.int (nI h)), none, none, some (.int (nI fc)), some (.int (nI fr)), some (.int (nI b)), some (.int (nI (liT f t c))), some (.int (nI c)), some (.int (nI at0)), some (.int (nI hi)), some (.int (nI 0))] [] M2 J k := by
    have ep : nI p = 0 ↔ p = 0 := by
      have := nI_eq (a := p) (b := 0) (by omega) (by decide)
      rw [nI_0] at this
      exact this
    have ec : nI c = 0 ↔ c = 0 := by
      have := nI_eq (a := c) (b := 0) (by omega) (by decide)
      rw [nI_0] at this
      exact this
    rw [B132_122]
    by_cases hp0 : p = 0
    · rw [if_pos hp0] at hhead
      rw [if_neg (not_not_intro (ep.mpr hp0)), B132_132 z0, c0, show (80 : Int32) = nI 80 from rfl, nI_add, hhead, hM2, B132_156, nI_0]
    · rw [if_neg hp0] at hhead
      rw [if_pos (fun z => hp0 (ep.mp z)), B132_140]
      by_cases hc0 : c = 0
      · rw [if_pos hc0] at hhead
        rw [if_neg (not_not_intro (ec.mpr hc0)), B132_145 z0, c0, show (83 : Int32) = nI 83 from rfl, nI_add, hhead, hM2, B132_156, nI_0]
      · rw [if_neg hc0] at hhead
        rw [if_pos (fun z => hc0 (ec.mp z)), B132_153 z0, c0, show (90 : Int32) = nI 90 from rfl, hhead, hM2, B132_156, nI_0]
  have a2' : gUp pg x y k' h (M1 105) (M2 105) (fun c' r' => c' = c ∧ r' = 0) (fun _ _ => nI hd) :=
    gUp_s (P := fun _ _ => False) (c0 := c) (r0 := 0) (gUp_0 (fun _ _ _ _ z => z)) hc hh0 hy (by rw [← eix0, ← hM2, u2s]) (fun i hi' => by rw [← eix0] at hi'; rw [← hM2, u2ne hi']) (fun c' r' _ _ => ⟨fun z => Or.inr z, fun z => by rcases z with z | z; exact absurd z (fun z => z); exact z⟩)
  have f2 : fr105 I M2 := fun z hz => by rw [← hM2, u2n (nbeq hz)]; exact a1 z hz
  -- phase 3
  have h3 : ∀ (m' i : Nat) (M : zI), t c = i + m' → fr105 I M → gUp pg x y k' h (M2 105) (M 105) (fun c' r' => c' = c ∧ 1 + hi ≤ r' ∧ r' < 1 + hi + i) (fun c r => nI (b + (liT f t c + (r - (1 + hi))))) → ∃ (M' : zI) (l13 : Int32), zd S 132 159 [some (.ref 76), none, some (.int (nI p)), some (.int (nI h)), none, none, some (.int (nI fc)), some (.int (nI fr)), some (.int (nI b)), some (.int (nI (liT f t c + i))), some (.int (nI c)), some (.int (nI at0)), some (.int (nI hi)), some (.int (nI i))] [] M J k = zd S 132 200 [some (.ref 76), none, some (.int (nI p)), some (.int (nI h)), none, none, some (.int (nI fc)), some (.int (nI fr)), some (.int (nI b)), some (.int (nI (liT f t (c + 1)))), some (.int (nI c)), some (.int (nI at0)), some (.int (nI hi)), some (.int l13)] [] M' J k ∧ fr105 I M' ∧ gUp pg x y k' h (M2 105) (M' 105) (fun c' r' => c' = c ∧ 1 + hi ≤ r' ∧ r' < 1 + hi + t c) (fun c r => nI (b + (liT f t c + (r - (1 + hi))))) := by
    intro m'
    induction m' with
    | zero =>
      intro i M hm hfr' hu
      have hti : t c = i := by omega
      refine ⟨M, nI i, ?_, hfr', by rw [hti]; exact hu⟩
      rw [B132_159 (zin_n (by omega) (by decide)), nI_clamp (by omega), hfr' 107 (by decide), ht, hti, if_pos (nI_le (Nat.le_refl _) (by omega)), show liT f t (c + 1) = liT f t c + i from by show liT f t c + t c = _; rw [hti]]
    | succ m' ih =>
      intro i M hm hfr' hu
      have eI : (nI at0 + 1 + nI hi + nI i : Int32) = nI (at0 + 1 + hi + i) := by rw [show (1 : Int32) = nI 1 from rfl, nI_add, nI_add, nI_add]
      have cI : (nI (at0 + 1 + hi + i)).toNatClampNeg = at0 + 1 + hi + i := nI_clamp (by omega)
      have eix : at0 + 1 + hi + i = 64 * pg + 16 * (x + c) + (y + (1 + hi + i)) := by omega
      obtain ⟨M', l13', e1', r1, r2⟩ := ih (i + 1) (u2 M 105 (at0 + 1 + hi + i) (nI (b + (liT f t c + i)))) (by omega) (fun z hz => by rw [u2n (nbeq hz)]; exact hfr' z hz) (gUp_s (c0 := c) (r0 := 1 + hi + i) hu hc (by omega) hy (by rw [← eix, u2s, show 1 + hi + i - (1 + hi) = i by omega]) (fun z hi' => by rw [← eix] at hi'; rw [u2ne hi']) (fun c' r' _ _ => by omega))
      refine ⟨M', l13', ?_, r1, r2⟩
      rw [B132_159 (zin_n (by omega) (by decide)), nI_clamp (by omega), hfr' 107 (by decide), ht, if_neg (nI_ge (by omega) (by omega)), B132_171 (by rw [eI]; exact zin_n (by omega) (by decide)), eI, cI, nI_add, B132_191, nI_1, nI_1]
      exact e1'
  obtain ⟨M3, l13', e3, b1, b2⟩ := h3 (t c) 0 M2 (by omega) f2 (gUp_0 (fun c' r' _ _ z => by omega))
  rw [Nat.add_zero] at e3
  refine ⟨M3, some (.int (nI at0)), some (.int (nI hi)), some (.int l13'), ?_, b1, ?_⟩
  · rw [hpre]
    refine Eq.trans e1 ?_
    rw [h2, e3, B132_200, nI_1]
  · have u12 : gUp pg x y k' h (I 105) (M2 105) (fun c' _ => c' = c) (fun c' r => nI (if r = 0 then hd else if r ≤ hi then b + 81 else 90)) := by
      refine gUp_t a2 a2' (fun c' r _ _ z => ⟨z.1, by rw [if_pos z.2]⟩) (fun c' r _ _ z w => ⟨w, ?_⟩) (fun c' r _ _ _ w => w)
      have hr0 : ¬ r = 0 := fun q => z ⟨w, q⟩
      rw [if_neg hr0]
      congr 1
      by_cases hrh : r ≤ hi
      · rw [if_pos hrh, if_pos ⟨by omega, hrh⟩]
      · rw [if_neg hrh, if_neg (fun q => hrh q.2)]
    refine gUp_t u12 b2 (fun c' r _ _ z => ⟨z.1, ?_⟩) (fun c' r _ _ z w => ⟨w, ?_⟩) (fun c' r _ _ _ w => w)
    · obtain ⟨rfl, z2⟩ := z
      unfold vMF
      rw [hhi, if_pos z2]
    · subst w
      unfold vMF
      rw [hhi, if_neg (fun q => z ⟨rfl, q⟩), hhead]
theorem s132 {I : zI} {p e fc fr : Nat} {t : Nat → Nat} (hs : s < 4) (hpp : p < 2) (hF : fdV I pg x y k') (hp : pg < 3) (hx : x + k' ≤ 4) (hy : y + h ≤ 16) (hh0 : 0 < h) (hfe : f ≤ e) (he : e < 2 ^ 19) (hfr : fr ≤ 9) (hfc : fc ≤ 9) (ht : ∀ c, c < k' → I 107 c = nI (t c)) (hfit : ∀ c, c < k' → 1 + hiF fc fr c + t c ≤ h) :
    ∃ I', zq S 132 [.ref 76, .int (nI s), .int (nI p), .int (nI h), .int (nI f), .int (nI e), .int (nI fc), .int (nI fr)] I J none I' J ∧ (∀ z, z ≠ 103 → z ≠ 104 → z ≠ 105 → I' z = I z) ∧ frPt I I' (2 * s + p) ∧ mPt I' (2 * s + p) pg x y k' h f (e - f) t ∧ gUp pg x y k' h (I 105) (I' 105) (fun _ _ => True) (fun c r => nI (vMF (100 * (s + 1)) p fc fr t (liT f t) c r)) := by
  obtain ⟨I1, q131, a1, a2, a3⟩ := s131 (S := S) (J := J) (I := I) (h := h) (t := t) hs hpp hF (by omega) hfe ht
  have hF1 : fdV I1 pg x y k' := by
    unfold fdV at hF ⊢
    rw [a1 76 (by decide) (by decide)]
    exact hF
  have hlb : ∀ c, c ≤ k' → liT f t c ≤ f + 16 * c := by
    intro c
    induction c with
    | zero => intro _; exact Nat.le_refl _
    | succ c ih =>
      intro hc
      have := ih (by omega)
      have := hfit c (by omega)
      show liT f t c + t c ≤ _
      omega
  have eb : (100 * (nI s + 1) : Int32) = nI (100 * (s + 1)) := by rw [nI_1, show (100 : Int32) = nI 100 from rfl, pk_mul]
  have hl : ∀ (m' c : Nat) (M : zI) (o1 o4 o5 o11 o12 o13 : Option Value), k' = c + m' → fr105 I1 M → gUp pg x y k' h (I1 105) (M 105) (fun c' _ => c' < c) (fun c r => nI (vMF (100 * (s + 1)) p fc fr t (liT f t) c r)) → ∃ I', zd S 132 26 [some (.ref 76), o1, some (.int (nI p)), some (.int (nI h)), o4, o5, some (.int (nI fc)), some (.int (nI fr)), some (.int (nI (100 * (s + 1)))), some (.int (nI (liT f t c))), some (.int (nI c)), o11, o12, o13] [] M J (0, 0) = some (none, mk I' J, (0, 0)) ∧ fr105 I1 I' ∧ gUp pg x y k' h (I1 105) (I' 105) (fun _ _ => True) (fun c r => nI (vMF (100 * (s + 1)) p fc fr t (liT f t) c r)) := by
    intro m'
    induction m' with
    | zero =>
      intro c M o1 o4 o5 o11 o12 o13 hm hfr' hu
      have hck : k' = c := by omega
      refine ⟨M, ?_, hfr', ⟨fun c' r' hc' hr' => ?_, hu.2⟩⟩
      · rw [B132_26, hfr' 76 (by decide), hF1.2.2.2, if_pos (nI_le (by omega) (by omega)), B132_206]
      · have := hu.1 c' r' hc' hr'
        exact ⟨fun _ => this.1 (by omega), fun z => absurd trivial z⟩
    | succ m' ih =>
      intro c M o1 o4 o5 o11 o12 o13 hm hfr' hu
      have hFM : fdV M pg x y k' := by
        unfold fdV at hF1 ⊢
        rw [hfr' 76 (by decide)]
        exact hF1
      obtain ⟨M1, p11, p12, p13, e1, b1, b2⟩ := g132_c (S := S) (J := J) (k := (0, 0)) (I := M) (b := 100 * (s + 1)) (p := p) (fc := fc) (fr := fr) (c := c) (t := t) (f := f) (h := h) hFM hp hx hy hh0 hpp (by omega) (by omega) hfr hfc (by omega) (by rw [hfr' 107 (by decide), a1 107 (by decide) (by decide)]; exact ht c (by omega)) (hfit c (by omega)) (by have := hlb c (by omega); omega) o1 o4 o5 o11 o12 o13
      obtain ⟨I', e2, r1, r2⟩ := ih (c + 1) M1 none none none p11 p12 p13 (by omega) (fun z hz => (b1 z hz).trans (hfr' z hz)) (gUp_t hu b2 (fun c' r _ _ z => ⟨by omega, rfl⟩) (fun c' r _ _ z w => ⟨by omega, rfl⟩) (fun c' r _ _ z w => by omega))
      exact ⟨I', by rw [e1]; exact e2, r1, r2⟩
  obtain ⟨I', e1, r1, r2⟩ := hl k' 0 I1 (some (.int (nI s))) (some (.int (nI f))) (some (.int (nI e))) none none none (by omega) (fun _ _ => rfl) (gUp_0 (fun c' r _ _ z => absurd z (Nat.not_lt_zero _)))
  rw [a1 105 (by decide) (by decide)] at r2
  refine ⟨I', ?_, fun z h1 h2 h3 => by rw [r1 z h3, a1 z h1 h2], ⟨fun z hz => by rw [r1 103 (by decide)]; exact a2.1 z hz, fun z hz => by rw [r1 104 (by decide)]; exact a2.2 z hz⟩, ?_, r2⟩
  · refine zq_of rfl ?_
    show zd S 132 0 [some (.ref 76), some (.int (nI s)), some (.int (nI p)), some (.int (nI h)), some (.int (nI f)), some (.int (nI e)), some (.int (nI fc)), some (.int (nI fr)), none, none, none, none, none, none] [] I J (0, 0) = _
    rw [B132_0 ⟨rfl, rfl⟩ q131, B132_11, eb, ← nI_0]
    exact e1
  · unfold mPt at a3 ⊢
    rw [r1 103 (by decide), r1 104 (by decide)]
    exact a3
theorem vMF_0 {b fc fr k' h : Nat} {t li : Nat → Nat} {c r : Nat} : vMF b 0 fc fr t li c r = v0F b fc fr k' h 0 t li c r := by
  unfold vMF v0F
  rw [if_neg (fun z : 0 = 1 ∧ _ => by omega)]
  by_cases h1 : 1 + hiF fc fr c ≤ r ∧ r < 1 + hiF fc fr c + t c
  · rw [if_pos h1, if_neg (by omega), if_neg (by omega), if_pos h1.2]
  · rw [if_neg h1]
    by_cases h0 : r = 0
    · rw [if_pos h0, if_pos h0, if_pos rfl]
    · rw [if_neg h0, if_neg h0]
      by_cases h2 : r ≤ hiF fc fr c
      · rw [if_pos h2, if_pos h2]
      · rw [if_neg h2, if_neg h2, if_neg (fun z => h1 ⟨by omega, z⟩)]
theorem vMF_1 {b : Nat} {t li : Nat → Nat} {c r : Nat} : vMF b 1 0 0 t li c r = v1F b t li c r := by
  unfold vMF v1F
  have hhi : hiF 0 0 c = 0 := if_neg (Nat.not_lt_zero _)
  rw [hhi]
  by_cases h0 : r = 0
  · rw [if_neg (by omega), if_pos h0, if_pos h0, if_neg (by decide)]
  · by_cases h1 : r < 1 + t c
    · rw [if_pos ⟨by omega, by omega⟩, if_neg h0, if_pos h1]
    · have hz : ¬ r ≤ 0 := by omega
      rw [if_neg (by omega), if_neg h0, if_neg hz, if_neg h0, if_neg h1]
end MPUT
