/-! plan: the least cost, the one side -/
def lfM (x : Int32) : Option Nat := if x = -1 ∨ ¬ x.toNatClampNeg < 2 ^ 29 then none else some x.toNatClampNeg
theorem lfM_b {x : Int32} {v : Nat} (h : lfM x = some v) : v < 2 ^ 29 := by
  unfold lfM at h
  by_cases hx : x = -1 ∨ ¬ x.toNatClampNeg < 2 ^ 29
  · rw [if_pos hx] at h
    cases h
  · rw [if_neg hx] at h
    cases h
    by_cases h2 : x.toNatClampNeg < 2 ^ 29
    · exact h2
    · exact absurd (Or.inr h2) hx
theorem lfM_o {o : Option Nat} (h : ∀ v, o = some v → v < 2 ^ 29) : lfM (oI o) = o := by
  unfold lfM
  cases o with
  | none => exact if_pos (Or.inl rfl)
  | some v =>
    have hv := h v rfl
    have h1 : ¬ oI (some v) = -1 := fun z => by
      have := (oI_m (o := some v) (fun v' hh => by cases hh; omega)).mp z
      cases this
    have h2 : (oI (some v)).toNatClampNeg = v := nI_clamp (n := v) (by omega)
    rw [h2, if_neg (fun z => by rcases z with z | z; exact h1 z; exact z hv)]
theorem okB_e {l n : Nat} {Q cp bp : Nat → Nat} (ok : okB l n Q cp bp) {t : Nat} (ht : t ≤ n) : (∃ k, 0 < k ∧ k ≤ l ∧ t = cp k) ∨ t = 0 ∨ (∃ k, 0 < k ∧ k < l ∧ Q k = 1 ∧ t = bp k) := by
  by_cases hn : t = n
  · exact Or.inl ⟨l, ok.1, Nat.le_refl _, by rw [hn, ok.2.2.2.2.1]⟩
  · rcases okB_pos ok t (by omega) with ⟨k, hk, h⟩ | ⟨k, h0, hk, hq, h⟩
    · by_cases h0 : k = 0
      · subst h0
        exact Or.inr (Or.inl (by rw [h, ok.2.1]))
      · have hb := ok.2.2.2.1 k (by omega) hk
        by_cases hq : Q k = 1
        · exact Or.inr (Or.inr ⟨k, by omega, hk, hq, h⟩)
        · rw [if_neg hq] at hb
          exact Or.inl ⟨k, by omega, by omega, by omega⟩
    · exact Or.inl ⟨k, h0, by omega, h⟩
def lcI (D l : Nat) (xb xc Q cp bp : Nat → Nat) (I : zI) (i : Nat) : Prop := ∀ k, k < l → i ≤ bp k → k = 0 ∨ Q k = 1 ∨ Q k = 2 → I 63 (bp k) = oI ((bsL D l xb xc Q k).map Prod.fst) ∧ ∀ x, bsL D l xb xc Q k = some x → I 64 (bp k) = nI (cp x.2)
section LEAST
variable {S : Nat × (Nat → Int32)} {J : zJ} {k : zK} {D l nt : Nat} {xb xc Q cp bp U : Nat → Nat} {I0 : zI}
theorem g28_c (ok : okB l nt Q cp bp) (hl : l ≤ 207) (hnt : nt ≤ 207) (hD : D ≤ 60) (h1 : I0 55 1 = nI D) (h6 : I0 55 6 = nI nt) (hU : ∀ t, t ≤ nt → I0 61 t = nI (U t)) (hUm : ∀ i j, i ≤ j → U i ≤ U j) (hU3 : U nt < 2 ^ 30) (hxb : ∀ j, j < l → U (bp j) = xb j) (hxc : ∀ j, 0 < j → j ≤ l → U (cp j) = xc j) (he : ∀ j, 0 < j → j ≤ l → I0 62 (cp j) = nI (Q j)) (he0 : ∀ j, 0 < j → j < l → Q j = 1 → I0 62 (bp j) = 0) (he00 : I0 62 0 = 0)
    {j : Nat} (hj : j < l) (hbg : j = 0 ∨ Q j = 1 ∨ Q j = 2) (I : zI) (hI : ∀ c, c ≠ 63 → c ≠ 64 → I c = I0 c) (hv : lcI D l xb xc Q cp bp I (bp j + 1)) :
    ∃ I', zq S 29 [.ref 55, .int (nI (bp j))] I J none I' J ∧ (∀ c, c ≠ 63 → c ≠ 64 → I' c = I c) ∧ lcI D l xb xc Q cp bp I' (bp j) := by
  have hbn := okB_bn ok hj
  have hbv : ∀ q v, (bsL D l xb xc Q q).map Prod.fst = some v → v < 2 ^ 29 := by
    intro q v hq
    cases hb : bsL D l xb xc Q q with
    | none => rw [hb] at hq; cases hq
    | some x =>
      rw [hb] at hq
      cases hq
      by_cases hql : q ≤ l
      · have := (bsL_b hD (l - q) q (by omega) x hb).1
        have : 3700 * (l - q) ≤ 3700 * 207 := Nat.mul_le_mul_left _ (by omega)
        omega
      · unfold bsL at hb
        rw [show l - q = 0 by omega] at hb
        cases hb
  have hQ3 : ∀ t, 0 < t → t ≤ l → Q t ≤ 3 := by
    intro t t0 tl
    by_cases h : t = l
    · rw [h, ok.2.2.2.2.2.1]
      exact Nat.le_refl _
    · have := ok.2.2.2.2.2.2.1 t t0 (by omega)
      omega
  have hev : ∀ t, t ≤ nt → ∃ v, v ≤ 3 ∧ I0 62 t = nI v := by
    intro t ht
    rcases okB_e ok ht with ⟨q, q0, ql, rfl⟩ | rfl | ⟨q, q0, ql, qq, rfl⟩
    · exact ⟨Q q, hQ3 q q0 ql, he q q0 ql⟩
    · exact ⟨0, by omega, he00⟩
    · exact ⟨0, by omega, he0 q q0 ql qq⟩
  generalize hE : (fun t => (I0 62 t).toNatClampNeg) = e
  have e1 : ∀ t, t ≤ nt → I0 62 t = nI (e t) ∧ e t ≤ 3 := by
    intro t ht
    obtain ⟨v, v3, hvv⟩ := hev t ht
    have : e t = v := by rw [← hE]; dsimp only; rw [hvv, nI_clamp (by omega)]
    rw [this]
    exact ⟨hvv, v3⟩
  have ec : ∀ q, 0 < q → q ≤ l → e (cp q) = Q q := by
    intro q q0 ql
    rw [← hE]
    dsimp only
    rw [he q q0 ql, nI_clamp (by have := hQ3 q q0 ql; omega)]
  have eb : ∀ q, 0 < q → q < l → Q q = 1 → e (bp q) = 0 := by
    intro q q0 ql qq
    rw [← hE]
    dsimp only
    rw [he0 q q0 ql qq]
    rfl
  have e00 : e 0 = 0 := by
    rw [← hE]
    dsimp only
    rw [he00]
    rfl
  have enx : ∀ q, 0 < q → q < l → Q q = 1 ∨ Q q = 2 → nxB e (cp q) = bp q := by
    intro q q0 ql hq
    have hb := ok.2.2.2.1 q q0 ql
    unfold nxB
    rw [ec q q0 (by omega)]
    rcases hq with hq | hq
    · rw [if_neg (by omega), hb, if_pos hq]
    · rw [if_pos hq, hb, if_neg (by omega)]
      rfl
  have epos : ∀ t, t ≤ nt → e t = 1 ∨ e t = 2 → ∃ q, 0 < q ∧ q < l ∧ t = cp q ∧ (Q q = 1 ∨ Q q = 2) := by
    intro t ht h
    rcases okB_e ok ht with ⟨q, q0, ql, rfl⟩ | rfl | ⟨q, q0, ql, qq, rfl⟩
    · rw [ec q q0 ql] at h
      by_cases hql : q = l
      · rw [hql, ok.2.2.2.2.2.1] at h
        omega
      · exact ⟨q, q0, by omega, rfl, h⟩
    · rw [e00] at h
      omega
    · rw [eb q q0 ql qq] at h
      omega
  have hcb : ∀ q, 0 < q → q < l → cp q ≤ bp q := by
    intro q q0 ql
    have := ok.2.2.2.1 q q0 ql
    omega
  have hbq : ∀ q, q < l → bp q < nt := fun q hq => by have := okB_bn ok hq; omega
  have hfq : ∀ q, 0 < q → q < l → bp j < cp q → I 63 (bp q) = oI (lfM (I 63 (bp q))) ∧ lfM (I 63 (bp q)) = (bsL D l xb xc Q q).map Prod.fst ∨ ¬ (Q q = 1 ∨ Q q = 2) := by
    intro q q0 ql hq
    by_cases hh : Q q = 1 ∨ Q q = 2
    · left
      have h3 := (hv q ql (by have := hcb q q0 ql; omega) (Or.inr hh)).1
      rw [h3, lfM_o (hbv q)]
      exact ⟨rfl, rfl⟩
    · exact Or.inr hh
  have q29 := s29 (S := S) (I := I) (J := J) (D := D) (f := bp j) (n := nt) (U := U) (e := e) (lf := fun q => lfM (I 63 q)) hD (by omega) (by omega) (by rw [hI 55 (by decide) (by decide)]; exact h1) (by rw [hI 55 (by decide) (by decide)]; exact h6)
    (fun t h2 h3 => ⟨hUm _ _ h2, by have := hUm t nt h3; omega, by rw [hI 61 (by decide) (by decide)]; exact hU t h3⟩)
    (fun t h2 h3 => by rw [hI 62 (by decide) (by decide)]; exact e1 t h3)
    (fun t h2 h3 h4 => by
      obtain ⟨q, q0, ql, rfl, hq⟩ := epos t h3 h4
      rw [enx q q0 ql hq]
      have := hbq q ql
      refine ⟨by omega, ?_⟩
      rcases hfq q q0 ql h2 with h | h
      · exact h.1
      · exact absurd hq h)
    (fun q v hq => lfM_b hq)
  have hz := chz_L (D := D) (f := bp j) (U := U) (e := e) (lf := fun q => lfM (I 63 q)) (r := fun t => if bp j < cp t then (bsL D l xb xc Q t).map Prod.fst else lfM (I 63 (nxB e (cp t)))) (y0 := I 64 (bp j)) ok ec eb (fun t ht => hUm _ _ (by have := okB_bn ok ht; omega))
    (fun t t0 tl hq => by
      by_cases hh : bp j < cp t
      · rw [if_pos hh, enx t t0 tl hq]
        rcases hfq t t0 tl hh with h | h
        · exact h.2
        · exact absurd hq h
      · rw [if_neg hh])
    (l - (j + 1)) (j + 1) none (by omega) (by omega) (by omega)
  have hcj := ok.2.2.1 j hj
  have hcm : ∀ t, j < t → t ≤ l → bp j < cp t := by
    intro t h2 h3
    obtain ⟨t', rfl⟩ : ∃ t', t = t' + 1 := ⟨t - 1, by omega⟩
    have h4 := ok.2.2.1 t' (by omega)
    by_cases h5 : j = t'
    · subst h5
      omega
    · have := okB_lt ok (j := j) (k := t') (by omega) (by omega)
      omega
  have hbs : chL D (fun t => U (cp t) - U (bp j)) Q (fun t => if bp j < cp t then (bsL D l xb xc Q t).map Prod.fst else lfM (I 63 (nxB e (cp t)))) (j + 1) (l - (j + 1) + 1) none = bsL D l xb xc Q j := by
    rw [bsL_e hj, if_pos hbg, show l - j = l - (j + 1) + 1 by omega]
    refine chL_c _ _ _ (fun q h2 h3 => ⟨?_, rfl, ?_⟩)
    · rw [hxc q (by omega) (by omega), hxb j hj]
    · rw [if_pos (hcm q (by omega) (by omega))]
  rw [hbs, hcj] at hz
  have hz' : chz D U e (fun q => lfM (I 63 q)) (bp j) (bp j + 1) (nt - bp j) none (I 64 (bp j)) = ((bsL D l xb xc Q j).map Prod.fst, yb cp (I 64 (bp j)) (bsL D l xb xc Q j)) := by
    rw [← hz, show nt + 1 - (bp j + 1) = nt - bp j by omega]
    rfl
  rw [hz'] at q29
  refine ⟨_, q29, fun c h2 h3 => by rw [ucn (nbeq h3), ucn (nbeq h2)], ?_⟩
  intro q ql hq hb
  by_cases hqj : q = j
  · subst hqj
    refine ⟨by rw [ucn rfl, uc_s, pk_us], ?_⟩
    intro x hx
    rw [uc_s, pk_us, hx]
    rfl
  · have hne : bp q ≠ bp j := by
      rcases Nat.lt_or_gt_of_ne hqj with h | h
      · have := okB_lt ok h hj
        omega
      · have := okB_lt ok h ql
        omega
    have h3 := hv q ql (by omega) hb
    rw [ucn rfl, uc_s, pk_un hne, uc_s, pk_un hne]
    exact h3
theorem g28_l (ok : okB l nt Q cp bp) (hl : l ≤ 207) (hnt : nt ≤ 207) (hD : D ≤ 60) (h1 : I0 55 1 = nI D) (h6 : I0 55 6 = nI nt) (hU : ∀ t, t ≤ nt → I0 61 t = nI (U t)) (hUm : ∀ i j, i ≤ j → U i ≤ U j) (hU3 : U nt < 2 ^ 30) (hxb : ∀ j, j < l → U (bp j) = xb j) (hxc : ∀ j, 0 < j → j ≤ l → U (cp j) = xc j) (he : ∀ j, 0 < j → j ≤ l → I0 62 (cp j) = nI (Q j)) (he0 : ∀ j, 0 < j → j < l → Q j = 1 → I0 62 (bp j) = 0) (he00 : I0 62 0 = 0) (hb : Nat.ble k.1 (mBu 28).1 = true ∧ Nat.ble k.2 (mBu 28).2 = true) :
    ∀ (i : Nat) (I : zI), i < nt → (∀ c, c ≠ 63 → c ≠ 64 → I c = I0 c) → lcI D l xb xc Q cp bp I (i + 1) → ∃ I', zd S 28 7 [some (.ref 55), some (.int (nI i)), none] [] I J k = some (some (.int (I' 63 0)), mk I' J, k) ∧ (∀ c, c ≠ 63 → c ≠ 64 → I' c = I0 c) ∧ lcI D l xb xc Q cp bp I' 0 := by
  intro i
  have hfin : ∀ I : zI, ∀ x : Int32, x < 0 → (∀ c, c ≠ 63 → c ≠ 64 → I c = I0 c) → lcI D l xb xc Q cp bp I 0 → ∃ I', zd S 28 7 [some (.ref 55), some (.int x), none] [] I J k = some (some (.int (I' 63 0)), mk I' J, k) ∧ (∀ c, c ≠ 63 → c ≠ 64 → I' c = I0 c) ∧ lcI D l xb xc Q cp bp I' 0 := by
    intro I x hx hI hv
    refine ⟨I, ?_, hI, hv⟩
    rw [B28_7, if_pos hx, B28_58 rfl]
    rfl
  have hQ2 : ∀ q, 0 < q → q < l → Q q ≤ 2 := fun q q0 ql => ok.2.2.2.2.2.2.1 q q0 ql
  have hgo : ∀ (i : Nat) (I : zI) (l2 : Int32), (∀ c, c ≠ 63 → c ≠ 64 → I c = I0 c) → lcI D l xb xc Q cp bp I i → (∀ I'' : zI, (∀ c, c ≠ 63 → c ≠ 64 → I'' c = I0 c) → lcI D l xb xc Q cp bp I'' i → ∃ I', zd S 28 7 [some (.ref 55), some (.int (nI i + (-1))), none] [] I'' J k = some (some (.int (I' 63 0)), mk I' J, k) ∧ (∀ c, c ≠ 63 → c ≠ 64 → I' c = I0 c) ∧ lcI D l xb xc Q cp bp I' 0) →
      ∃ I', zd S 28 52 [some (.ref 55), some (.int (nI i)), some (.int l2)] [] I J k = some (some (.int (I' 63 0)), mk I' J, k) ∧ (∀ c, c ≠ 63 → c ≠ 64 → I' c = I0 c) ∧ lcI D l xb xc Q cp bp I' 0 := by
    intro i I l2 hI hv hn
    obtain ⟨I', e, r⟩ := hn I hI hv
    exact ⟨I', by rw [B28_52]; exact e, r⟩
  -- one character
  have hstep : ∀ (i : Nat) (I : zI), i < nt → (∀ c, c ≠ 63 → c ≠ 64 → I c = I0 c) → lcI D l xb xc Q cp bp I (i + 1) → (∀ I'' : zI, (∀ c, c ≠ 63 → c ≠ 64 → I'' c = I0 c) → lcI D l xb xc Q cp bp I'' i → ∃ I', zd S 28 7 [some (.ref 55), some (.int (nI i + (-1))), none] [] I'' J k = some (some (.int (I' 63 0)), mk I' J, k) ∧ (∀ c, c ≠ 63 → c ≠ 64 → I' c = I0 c) ∧ lcI D l xb xc Q cp bp I' 0) →
      ∃ I', zd S 28 7 [some (.ref 55), some (.int (nI i)), none] [] I J k = some (some (.int (I' 63 0)), mk I' J, k) ∧ (∀ c, c ≠ 63 → c ≠ 64 → I' c = I0 c) ∧ lcI D l xb xc Q cp bp I' 0 := by
    intro i I hi hI hv hn
    have h62 : ∀ t, I 62 t = I0 62 t := fun t => by rw [hI 62 (by decide) (by decide)]
    have hyes : ∀ j, j < l → i = bp j → j = 0 ∨ Q j = 1 ∨ Q j = 2 → ∃ I', zd S 28 37 [some (.ref 55), some (.int (nI i)), none] [] I J k = some (some (.int (I' 63 0)), mk I' J, k) ∧ (∀ c, c ≠ 63 → c ≠ 64 → I' c = I0 c) ∧ lcI D l xb xc Q cp bp I' 0 := by
      intro j hj hij hbg
      subst hij
      obtain ⟨I1, q1, f1, v1⟩ := g28_c (S := S) (J := J) ok hl hnt hD h1 h6 hU hUm hU3 hxb hxc he he0 he00 hj hbg I hI hv
      obtain ⟨I', e, r⟩ := hgo (bp j) I1 1 (fun c a b => (f1 c a b).trans (hI c a b)) v1 hn
      exact ⟨I', by rw [B28_37, if_neg (by decide), B28_47 hb q1]; exact e, r⟩
    have hno : (∀ j, j < l → i = bp j → ¬ (j = 0 ∨ Q j = 1 ∨ Q j = 2)) → ∃ I', zd S 28 41 [some (.ref 55), some (.int (nI i)), none] [] I J k = some (some (.int (I' 63 0)), mk I' J, k) ∧ (∀ c, c ≠ 63 → c ≠ 64 → I' c = I0 c) ∧ lcI D l xb xc Q cp bp I' 0 := by
      intro hnb
      have hv' : lcI D l xb xc Q cp bp I i := by
        intro q ql hq hb
        by_cases h : i = bp q
        · exact absurd hb (hnb q ql h)
        · exact hv q ql (by omega) hb
      obtain ⟨I', e, r⟩ := hgo i I 0 hI hv' hn
      exact ⟨I', by rw [B28_41, if_pos rfl]; exact e, r⟩
    rw [B28_7, if_neg (nI_pos (by omega)), B28_11]
    by_cases hi0 : i = 0
    · subst hi0
      rw [if_pos nI_0]
      exact hyes 0 ok.1 ok.2.1.symm (Or.inl rfl)
    · have hne : ¬ nI i = 0 := nI_ne0 (by omega) (by omega)
      have hz1 : zin (nI i - 1) 208 = true := by rw [show (1 : Int32) = nI 1 from rfl, pk_sub (by omega)]; exact zin_n (by omega) (by decide)
      have hc1 : (nI i - 1).toNatClampNeg = i - 1 := by rw [show (1 : Int32) = nI 1 from rfl, pk_sub (by omega), nI_clamp (by omega)]
      rw [if_neg hne, B28_15 (zin_n (by omega) (by decide)), nI_clamp (by omega), h62]
      rcases okB_pos ok i hi with ⟨j, hj, hij⟩ | ⟨j, j0, hj, hq, hij⟩
      · have j0 : 0 < j := by
          rcases Nat.eq_zero_or_pos j with h | h
          · rw [h, ok.2.1] at hij
            exact absurd hij hi0
          · exact h
        have hb1 := ok.2.2.2.1 j j0 hj
        by_cases hq : Q j = 1
        · rw [if_pos hq] at hb1
          have e1 : I0 62 i = 0 := by rw [hij]; exact he0 j j0 hj hq
          have e2 : I0 62 (i - 1) = 1 := by rw [show i - 1 = cp j by omega, he j j0 (by omega), hq]; rfl
          rw [e1, if_neg (by decide), B28_25 hz1, hc1, h62, e2, if_neg (by decide)]
          exact hyes j hj hij (Or.inr (Or.inl hq))
        · rw [if_neg hq] at hb1
          have e1 : I0 62 i = nI (Q j) := by rw [show i = cp j by omega]; exact he j j0 (by omega)
          by_cases hq2 : Q j = 2
          · rw [e1, hq2, if_pos (show nI 2 = 2 from rfl)]
            exact hyes j hj hij (Or.inr (Or.inr hq2))
          · have hq0 : Q j = 0 := by have := hQ2 j j0 hj; omega
            have e2 : ¬ I0 62 (i - 1) = 1 := by
              obtain ⟨j', rfl⟩ : ∃ j', j = j' + 1 := ⟨j - 1, by omega⟩
              have h3 := ok.2.2.1 j' (by omega)
              have h4 : i - 1 = bp j' := by omega
              rw [h4]
              by_cases h5 : j' = 0
              · rw [h5, ok.2.1, he00]
                decide
              · have h6 := ok.2.2.2.1 j' (by omega) (by omega)
                by_cases h7 : Q j' = 1
                · rw [he0 j' (by omega) (by omega) h7]
                  decide
                · rw [if_neg h7] at h6
                  rw [show bp j' = cp j' by omega, he j' (by omega) (by omega)]
                  intro z
                  have := hQ2 j' (by omega) (by omega)
                  exact h7 ((nI_eq (b := 1) (by omega) (by decide)).mp z)
            rw [e1, hq0, if_neg (by decide), B28_25 hz1, hc1, h62, if_pos e2]
            refine hno (fun j2 hj2 hij2 => ?_)
            have : j2 = j := by
              rcases Nat.lt_trichotomy j2 j with h | h | h
              · have := okB_lt ok h hj
                omega
              · exact h
              · have := okB_lt ok h hj2
                omega
            rw [this]
            omega
      · have e1 : I0 62 i = 1 := by rw [hij, he j j0 (by omega), hq]; rfl
        have hnb : ∀ j2, j2 < l → i = bp j2 → False := by
          intro j2 hj2 h
          have hb1 := ok.2.2.2.1 j j0 hj
          rw [if_pos hq] at hb1
          obtain ⟨j', rfl⟩ : ∃ j', j = j' + 1 := ⟨j - 1, by omega⟩
          have h3 := ok.2.2.1 j' (by omega)
          rcases Nat.lt_or_ge j' j2 with h5 | h5
          · by_cases h6 : j2 = j' + 1
            · rw [h6] at h
              omega
            · have := okB_lt ok (j := j' + 1) (k := j2) (by omega) hj2
              omega
          · by_cases h6 : j2 = j'
            · rw [h6] at h
              omega
            · have := okB_lt ok (j := j2) (k := j') (by omega) (by omega)
              omega
        have e2 : ¬ I0 62 (i - 1) = 1 := by
          obtain ⟨j', rfl⟩ : ∃ j', j = j' + 1 := ⟨j - 1, by omega⟩
          have h3 := ok.2.2.1 j' (by omega)
          have h4 : i - 1 = bp j' := by omega
          rw [h4]
          by_cases h5 : j' = 0
          · rw [h5, ok.2.1, he00]
            decide
          · have h6 := ok.2.2.2.1 j' (by omega) (by omega)
            by_cases h7 : Q j' = 1
            · rw [he0 j' (by omega) (by omega) h7]
              decide
            · rw [if_neg h7] at h6
              rw [show bp j' = cp j' by omega, he j' (by omega) (by omega)]
              intro z
              have := hQ2 j' (by omega) (by omega)
              exact h7 ((nI_eq (b := 1) (by omega) (by decide)).mp z)
        rw [e1, if_neg (by decide), B28_25 hz1, hc1, h62, if_pos e2]
        exact hno (fun j2 hj2 h => absurd h (fun h => hnb j2 hj2 h))
  induction i with
  | zero =>
    intro I hi hI hv
    exact hstep 0 I hi hI hv (fun I'' hI'' hv'' => hfin I'' _ (by decide) hI'' hv'')
  | succ i ih =>
    intro I hi hI hv
    refine hstep (i + 1) I hi hI hv (fun I'' hI'' hv'' => ?_)
    rw [pk_m1]
    exact ih I'' (by omega) hI'' hv''
theorem s28 {I : zI} (ok : okB l nt Q cp bp) (hl : l ≤ 207) (hnt : nt ≤ 207) (hD : D ≤ 60) (h1 : I 55 1 = nI D) (h6 : I 55 6 = nI nt) (hU : ∀ t, t ≤ nt → I 61 t = nI (U t)) (hUm : ∀ i j, i ≤ j → U i ≤ U j) (hU3 : U nt < 2 ^ 30) (hxb : ∀ j, j < l → U (bp j) = xb j) (hxc : ∀ j, 0 < j → j ≤ l → U (cp j) = xc j) (he : ∀ j, 0 < j → j ≤ l → I 62 (cp j) = nI (Q j)) (he0 : ∀ j, 0 < j → j < l → Q j = 1 → I 62 (bp j) = 0) (he00 : I 62 0 = 0) :
    ∃ I', zq S 28 [.ref 55] I J (some (.int (oI ((bsL D l xb xc Q 0).map Prod.fst)))) I' J ∧ (∀ c, c ≠ 63 → c ≠ 64 → I' c = I c) ∧ lcI D l xb xc Q cp bp I' 0 := by
  have hbn := okB_bn ok ok.1
  have hvac : lcI D l xb xc Q cp bp I (nt - 1 + 1) := by
    intro q ql hq
    have := okB_bn ok ql
    omega
  obtain ⟨I', e, f, v⟩ := g28_l (S := S) (J := J) (k := (0, 0)) ok hl hnt hD h1 h6 hU hUm hU3 hxb hxc he he0 he00 ⟨rfl, rfl⟩ (nt - 1) I (by omega) (fun _ _ _ => rfl) hvac
  have h0 := (v 0 ok.1 (Nat.zero_le _) (Or.inl rfl)).1
  rw [ok.2.1] at h0
  refine ⟨I', ?_, f, v⟩
  refine zq_of rfl ?_
  show zd S 28 0 [some (.ref 55), none, none] [] I J (0, 0) = _
  rw [B28_0, h6, show (1 : Int32) = nI 1 from rfl, pk_sub (by omega), e, h0]
end LEAST
