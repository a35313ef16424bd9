/-! plan: where lines may end, the other side -/
theorem wsC_lt {T : Nat → Nat} {N : Nat} (h : okX T N) : ∀ (m a i : Nat), wsC T N m a i < 127
  | 0, _, _ => Nat.zero_lt_succ _
  | m + 1, a, i => by
    unfold wsC
    split
    · exact ch_lt h _
    · exact wsC_lt h m _ _
theorem nar_b (b : Bool) : vp_nar .boolean (bI b) = bI b := by cases b <;> rfl
section MENDS
variable {S : Nat × (Nat → Int32)} {J : zJ} {k : zK} {P p : Nat} {pn pk pv c : Nat → Nat} {I0 : zI}
theorem g118_z {l1 : Int32} : ∀ (m i : Nat) (I : zI), 193 = i + m →
    ∃ I', zd S 118 2 [some (.ref 76), some (.int l1), some (.int (nI i)), none, none, none] [] I J k = zd S 118 33 [some (.ref 76), some (.int l1), some (.int (nI 0)), some (.int (nI 0)), none, none] [] I' J k ∧ (∀ x, x ≠ 99 → x ≠ 100 → I' x = I x) ∧ (∀ x, i ≤ x → x < 193 → I' 99 x = 0 ∧ I' 100 x = 0) ∧ (∀ x, x < i → I' 99 x = I 99 x ∧ I' 100 x = I 100 x) := by
  intro m
  induction m with
  | zero =>
    intro i I hm
    refine ⟨I, ?_, fun _ _ _ => rfl, fun x h1 h2 => by omega, fun _ _ => ⟨rfl, rfl⟩⟩
    have h : (192 : Int32) < nI i := nI_lt (a := 192) (by omega) (by omega)
    rw [B118_2, if_pos h, B118_29]
    rfl
  | succ m ih =>
    intro i I hm
    have h : ¬ (192 : Int32) < nI i := nI_nlt (a := 192) (b := i) (by omega) (by omega)
    have hz : zin (nI i) 193 = true := zin_n (by omega) (by decide)
    obtain ⟨I', e, f1, f2, f3⟩ := ih (i + 1) (u2 (u2 I 99 i (vp_nar .boolean 0)) 100 i (vp_nar .boolean 0)) (by omega)
    refine ⟨I', ?_, fun x h1 h2 => by rw [f1 x h1 h2, u2n (nbeq h2), u2n (nbeq h1)], ?_, ?_⟩
    · rw [B118_2, if_neg h, B118_9 hz, nI_clamp (by omega), B118_16 hz, nI_clamp (by omega), B118_23, nI_1]
      exact e
    · intro x h1 h2
      by_cases hx : x = i
      · have := f3 x (by omega)
        rw [this.1, this.2, hx, u2n rfl, u2s, u2s]
        exact ⟨rfl, rfl⟩
      · exact f2 x (by omega) h2
    · intro x hx
      have := f3 x (by omega)
      rw [this.1, this.2, u2n rfl, u2ne (by omega), u2ne (by omega), u2n rfl]
      exact ⟨rfl, rfl⟩
theorem g118_d {o n w : Nat} (hp : p < 20) (hn : n ≤ 12) (ho : o + n ≤ 192) (h89 : ∀ i, i < n → I0 89 (192 * p + o + i) = nI (c (o + i))) : ∀ (m i : Nat) (I : zI), n = i + m → (∀ x, x ≠ 82 → x ≠ 83 → x ≠ 99 → x ≠ 100 → I x = I0 x) →
    ∃ I', zd S 118 61 [some (.ref 76), some (.int (nI p)), some (.int (nI o)), some (.int (nI w)), some (.int (nI n)), some (.int (nI i))] [] I J k = zd S 118 98 [some (.ref 76), some (.int (nI p)), some (.int (nI o)), some (.int (nI w)), some (.int (nI n)), some (.int (nI n))] [] I' J k ∧ (∀ x, x ≠ 82 → I' x = I x) ∧ (∀ x, i ≤ x → x < n → I' 82 (x + 1) = nI (c (o + x))) ∧ (∀ x, x < i → I' 82 (x + 1) = I 82 (x + 1)) := by
  intro m
  induction m with
  | zero =>
    intro i I hm hI
    have hi : n = i := by omega
    subst hi
    refine ⟨I, ?_, fun _ _ => rfl, fun x h1 h2 => by omega, fun _ _ => rfl⟩
    rw [B118_61, if_pos (nI_le (Nat.le_refl _) (by omega))]
  | succ m ih =>
    intro i I hm hI
    have ei : (192 * nI p + nI o + nI i : Int32) = nI (192 * p + o + i) := by rw [show (192 : Int32) = nI 192 from rfl, pk_mul, nI_add, nI_add]
    have e1 : (1 + nI i : Int32) = nI (i + 1) := by rw [show (1 : Int32) = nI 1 from rfl, nI_add, Nat.add_comm]
    have h89' : I 89 (192 * p + o + i) = nI (c (o + i)) := by rw [hI 89 (by decide) (by decide) (by decide) (by decide)]; exact h89 i (by omega)
    obtain ⟨I', e, f1, f2, f3⟩ := ih (i + 1) (u2 I 82 (i + 1) (nI (c (o + i)))) (by omega) (fun x a1 a2 a3 a4 => by rw [u2n (nbeq a1)]; exact hI x a1 a2 a3 a4)
    refine ⟨I', ?_, fun x h => by rw [f1 x h, u2n (nbeq h)], ?_, ?_⟩
    · rw [B118_61, if_neg (nI_ge (by omega) (by omega)), B118_68 (by rw [ei]; exact zin_n (by omega) (by decide)) (by rw [e1]; exact zin_n (by omega) (by decide)), ei, e1, nI_clamp (by omega), nI_clamp (by omega), h89', B118_92, nI_1]
      exact e
    · intro x h1 h2
      by_cases hx : x = i
      · rw [f3 x (by omega), hx, u2s]
      · exact f2 x (by omega) h2
    · intro x hx
      rw [f3 x (by omega), u2ne (by omega)]
theorem g118_c {o n w : Nat} {g : Nat → Nat} (hn : n ≤ 12) (ho : o + n ≤ 192) (hg : ∀ q, g q < 256) (hb : Nat.ble k.1 (mBu 118).1 = true ∧ Nat.ble k.2 (mBu 118).2 = true) : ∀ (m i : Nat) (I : zI), n = i + m → 0 < i → (∀ q, q < 15 → I 83 q = nI (g q)) →
    ∃ I', zd S 118 107 [some (.ref 76), some (.int (nI p)), some (.int (nI o)), some (.int (nI w)), some (.int (nI n)), some (.int (nI i))] [] I J k = zd S 118 137 [some (.ref 76), some (.int (nI p)), some (.int (nI o)), some (.int (nI w)), some (.int (nI n)), some (.int (nI n))] [] I' J k ∧ (∀ x, x ≠ 99 → I' x = I x) ∧ (∀ x, i ≤ x → x < n → I' 99 (o + x) = bI (isC g n x)) ∧ (∀ x, x < o + i ∨ o + n ≤ x → I' 99 x = I 99 x) := by
  intro m
  induction m with
  | zero =>
    intro i I hm h0 h83
    have hi : n = i := by omega
    subst hi
    refine ⟨I, ?_, fun _ _ => rfl, fun x h1 h2 => by omega, fun _ _ => rfl⟩
    rw [B118_107, if_pos (nI_le (Nat.le_refl _) (by omega))]
  | succ m ih =>
    intro i I hm h0 h83
    have q103 := s103 (S := S) (I := I) (J := J) (g := g) (n := n) (j := i) (by omega) hn hg h83
    obtain ⟨I', e, f1, f2, f3⟩ := ih (i + 1) (u2 I 99 (o + i) (bI (isC g n i))) (by omega) (by omega) (fun q hq => by rw [u2n rfl]; exact h83 q hq)
    refine ⟨I', ?_, fun x h => by rw [f1 x h, u2n (nbeq h)], ?_, ?_⟩
    · rw [B118_107, if_neg (nI_ge (by omega) (by omega)), B118_114 hb q103, nI_add, B118_130 (zin_n (by omega) (by decide)), nI_clamp (by omega), nar_b, B118_131, nI_1]
      exact e
    · intro x h1 h2
      by_cases hx : x = i
      · rw [f3 (o + x) (by omega), hx, u2s]
      · exact f2 x (by omega) h2
    · intro x hx
      rw [f3 x (by omega), u2ne (by omega)]
def isE (q : Nat) : Bool := decide (q = 1) || decide (q = 3)
theorem g118_w (hp : p < 20) (hc : ∀ i, c i < 256) (hO : okP P pn pk pv) (hM : mPat I0 P pn pk pv) (hb : Nat.ble k.1 (mBu 118).1 = true ∧ Nat.ble k.2 (mBu 118).2 = true) {wn : Nat} (hw : wn ≤ 16) (h91 : I0 91 p = nI wn) :
    ∀ (L : List Nat) (o w : Nat) (I : zI) (o4 o5 : Option Value), posL L → wn = w + L.length → o + L.sum ≤ 192 → (∀ j, j < L.length → I0 90 (16 * p + (w + j)) = nI (o + (L.take (j + 1)).sum)) → (∀ i, i < L.sum → I0 89 (192 * p + o + i) = nI (c (o + i))) → (∀ x, x ≠ 82 → x ≠ 83 → x ≠ 99 → x ≠ 100 → I x = I0 x) → (∀ x, o < x → x < 193 → I 99 x = 0 ∧ I 100 x = 0) →
      ∃ I', zd S 118 33 [some (.ref 76), some (.int (nI p)), some (.int (nI o)), some (.int (nI w)), o4, o5] [] I J k = some (none, mk I' J, k) ∧ (∀ x, x ≠ 82 → x ≠ 83 → x ≠ 99 → x ≠ 100 → I' x = I x) ∧ (∀ x, x ≤ o → I' 99 x = I 99 x ∧ I' 100 x = I 100 x) ∧ (∀ j, 0 < j → j ≤ L.sum → I' 99 (o + j) = bI (decide (qd P pn pk pv c L o j ≠ 0)) ∧ I' 100 (o + j) = bI (isE (qd P pn pk pv c L o j))) := by
  intro L
  induction L with
  | nil =>
    intro o w I o4 o5 _ hw' _ _ _ hI _
    have hww : w = wn := by have h2 : ([] : List Nat).length = 0 := rfl; omega
    refine ⟨I, ?_, fun _ _ _ _ _ => rfl, fun _ _ => ⟨rfl, rfl⟩, fun j h1 h2 => by simp at h2; omega⟩
    have h91' : I 91 p = nI wn := by rw [hI 91 (by decide) (by decide) (by decide) (by decide)]; exact h91
    rw [B118_33 (zin_n hp (by decide)), nI_clamp (by omega), h91', hww, if_pos (nI_le (Nat.le_refl _) (by omega)), B118_162]
  | cons n L ih =>
    intro o w I o4 o5 hpos hw' hos h90 h89 hI h0
    have hpn := posL_c hpos
    rw [sum_c] at hos
    rw [len_c] at hw'
    have h91' : I 91 p = nI wn := by rw [hI 91 (by decide) (by decide) (by decide) (by decide)]; exact h91
    have h90' : I 90 (16 * p + w) = nI (o + n) := by
      rw [hI 90 (by decide) (by decide) (by decide) (by decide)]
      have := h90 0 (by rw [len_c]; omega)
      rw [Nat.add_zero] at this
      rw [this]
      simp
    have ei : (16 * nI p + nI w : Int32) = nI (16 * p + w) := by rw [show (16 : Int32) = nI 16 from rfl, pk_mul, nI_add]
    have e89 : ∀ i, i < n → I0 89 (192 * p + o + i) = nI (c (o + i)) := fun i hi => h89 i (by rw [sum_c]; omega)
    obtain ⟨I1, e1, f1, f2, _⟩ := g118_d (S := S) (J := J) (k := k) (c := c) (w := w) hp hpn.1.2 (by omega) e89 n 0 I (by omega) hI
    have hM1 : mPat I1 P pn pk pv := by
      have g : ∀ x, x ≠ 82 → x ≠ 83 → x ≠ 99 → x ≠ 100 → I1 x = I0 x := fun x a1 a2 a3 a4 => (f1 x a1).trans (hI x a1 a2 a3 a4)
      refine ⟨by rw [g 76 (by decide) (by decide) (by decide) (by decide)]; exact hM.1, fun q hq => by rw [g 79 (by decide) (by decide) (by decide) (by decide)]; exact hM.2.1 q hq, fun q hq i hi => by rw [g 80 (by decide) (by decide) (by decide) (by decide)]; exact hM.2.2.1 q hq i hi, fun q hq i hi => by rw [g 81 (by decide) (by decide) (by decide) (by decide)]; exact hM.2.2.2 q hq i hi⟩
    have q102 := s102 (S := S) (I := I1) (J := J) (L := n) (t := fun i => c (o + i)) (fun i => hc _) hpn.1.2 hO hM1 (fun i hi => f2 i (Nat.zero_le _) hi)
    generalize hI2 : uc (uc I1 82 (dotA (I1 82) n)) 83 (gI (gal (dw (fun i => c (o + i)) n) pn pk pv P (n + 2)) (I1 83)) = I2 at q102
    have i2o : ∀ x, x ≠ 82 → x ≠ 83 → I2 x = I1 x := fun x a1 a2 => by rw [← hI2, ucn (nbeq a2), ucn (nbeq a1)]
    have i2g : ∀ q, q < 15 → I2 83 q = nI (gW P pn pk pv c o n q) := fun q hq => by rw [← hI2, uc_s, gI_at hq]; rfl
    obtain ⟨I3, e3, k1, k2, k3⟩ := g118_c (S := S) (J := J) (k := k) (p := p) (w := w) (o := o) (n := n) (g := gW P pn pk pv c o n) hpn.1.2 (by omega) (fun q => gal_lt _ _) hb (n - 1) 1 I2 (by omega) (by omega) i2g
    generalize hI4 : u2 (u2 I3 99 (o + n) (vp_nar .boolean 1)) 100 (o + n) (vp_nar .boolean 1) = I4
    have i4o : ∀ x, x ≠ 99 → x ≠ 100 → I4 x = I3 x := fun x a1 a2 => by rw [← hI4, u2n (nbeq a2), u2n (nbeq a1)]
    have i499 : ∀ x, x ≠ o + n → I4 99 x = I3 99 x := fun x hx => by rw [← hI4, u2n rfl, u2ne hx]
    have i499s : I4 99 (o + n) = 1 := by rw [← hI4, u2n rfl, u2s]; rfl
    have i410 : ∀ x, x ≠ o + n → I4 100 x = I3 100 x := fun x hx => by rw [← hI4, u2ne hx, u2n rfl]
    have i410s : I4 100 (o + n) = 1 := by rw [← hI4, u2s]; rfl
    have i4I : ∀ x, x ≠ 82 → x ≠ 83 → x ≠ 99 → x ≠ 100 → I4 x = I x := fun x a1 a2 a3 a4 => by rw [i4o x a3 a4, k1 x a3, i2o x a1 a2, f1 x a1]
    have i3_100 : ∀ x, I3 100 x = I 100 x := fun x => by rw [k1 100 (by decide), i2o 100 (by decide) (by decide), f1 100 (by decide)]
    have i3_99 : ∀ x, x < o + 1 ∨ o + n ≤ x → I3 99 x = I 99 x := fun x hx => by rw [k3 x hx, i2o 99 (by decide) (by decide), f1 99 (by decide)]
    have hstep : zd S 118 33 [some (.ref 76), some (.int (nI p)), some (.int (nI o)), some (.int (nI w)), o4, o5] [] I J k = zd S 118 33 [some (.ref 76), some (.int (nI p)), some (.int (nI (o + n))), some (.int (nI (w + 1))), some (.int (nI n)), some (.int (nI n))] [] I4 J k := by
      rw [B118_33 (zin_n hp (by decide)), nI_clamp (by omega), h91', if_neg (nI_ge (by omega) (by omega)), B118_43 (by rw [ei]; exact zin_n (by omega) (by decide)), ei, nI_clamp (by omega), h90', pk_sub (by omega), show o + n - o = n by omega, ← nI_0, e1, B118_98 hb q102, B118_104, show (1 : Int32) = nI 1 from rfl, e3, B118_137 (by rw [nI_add]; exact zin_n (by omega) (by decide)), nI_add, nI_clamp (by omega), B118_149 (zin_n (by omega) (by decide)), nI_clamp (by omega), B118_156, nI_1, hI4]
    obtain ⟨I5, e5, r1, r2, r3⟩ := ih (o + n) (w + 1) I4 (some (.int (nI n))) (some (.int (nI n))) hpn.2 (by omega) (by omega)
      (fun j hj => by
        have := h90 (j + 1) (by rw [len_c]; omega)
        rw [List.take_succ_cons, sum_c] at this
        rw [show w + 1 + j = w + (j + 1) by omega, this]
        congr 1
        omega)
      (fun i hi => by
        have := h89 (n + i) (by rw [sum_c]; omega)
        rw [show 192 * p + (o + n) + i = 192 * p + o + (n + i) by omega, show o + n + i = o + (n + i) by omega]
        exact this)
      (fun x a1 a2 a3 a4 => (i4I x a1 a2 a3 a4).trans (hI x a1 a2 a3 a4))
      (fun x h1 h2 => by
        rw [i499 x (by omega), i410 x (by omega), i3_99 x (by omega), i3_100 x]
        exact h0 x (by omega) h2)
    refine ⟨I5, by rw [hstep, e5], fun x a1 a2 a3 a4 => (r1 x a1 a2 a3 a4).trans (i4I x a1 a2 a3 a4), ?_, ?_⟩
    · intro x hx
      have h2 := r2 x (by omega)
      rw [h2.1, h2.2, i499 x (by omega), i410 x (by omega), i3_99 x (by omega), i3_100 x]
      exact ⟨rfl, rfl⟩
    · intro j j0 j1
      rw [sum_c] at j1
      unfold qd
      by_cases hj : j < n
      · have h2 := r2 (o + j) (by omega)
        have h3 := k2 j (by omega) hj
        have h4 := h0 (o + j) (by omega) (by omega)
        rw [if_pos hj, h2.1, h2.2, i499 _ (by omega), i410 _ (by omega), h3, i3_100, h4.2]
        cases hcs : isC (gW P pn pk pv c o n) n j with
        | true => exact ⟨rfl, rfl⟩
        | false => exact ⟨rfl, rfl⟩
      · rw [if_neg hj]
        by_cases hj' : j = n
        · have h2 := r2 (o + j) (by omega)
          rw [if_pos hj', h2.1, h2.2, hj', i499s, i410s]
          cases L.isEmpty with
          | true => exact ⟨rfl, rfl⟩
          | false => exact ⟨rfl, rfl⟩
        · rw [if_neg hj']
          have := r3 (j - n) (by omega) (by omega)
          rw [show o + n + (j - n) = o + j by omega] at this
          exact this
theorem s118 {T : Nat → Nat} {N a : Nat} {I : zI} (hX : okX T N) (hp : p < 20) (hO : okP P pn pk pv) (hM : mPat I P pn pk pv) (hpos : posL (wsL T N 16 a)) (hlen : (wsL T N 16 a).length ≤ 16) (hD : parD T N (I 89) (I 90) (I 91) (I 92) p 16 a) :
    ∃ I', zq S 118 [.ref 76, .int (nI p)] I J none I' J ∧ (∀ x, x ≠ 82 → x ≠ 83 → x ≠ 99 → x ≠ 100 → I' x = I x) ∧ (∀ j, j ≤ (wsL T N 16 a).sum → I' 99 j = bI (decide (qd P pn pk pv (wsC T N 16 a) (wsL T N 16 a) 0 j ≠ 0)) ∧ I' 100 j = bI (isE (qd P pn pk pv (wsC T N 16 a) (wsL T N 16 a) 0 j))) := by
  obtain ⟨d1, d2, d3, d4⟩ := hD
  obtain ⟨I1, e1, f1, f2, _⟩ := g118_z (S := S) (J := J) (k := (0, 0)) (l1 := nI p) 193 0 I (by omega)
  have g1 : ∀ x, x ≠ 82 → x ≠ 83 → x ≠ 99 → x ≠ 100 → I1 x = I x := fun x _ _ a3 a4 => f1 x a3 a4
  have h12 := posL_12 hpos
  obtain ⟨I2, e2, k1, k2, k3⟩ := g118_w (S := S) (J := J) (k := (0, 0)) (p := p) (c := wsC T N 16 a) (I0 := I) hp (fun i => by have := wsC_lt hX 16 a i; omega) hO hM ⟨rfl, rfl⟩ hlen d1 (wsL T N 16 a) 0 0 I1 none none hpos (by omega) (by omega)
    (fun j hj => by rw [Nat.zero_add, Nat.zero_add]; exact d3 j hj) (fun i hi => by rw [Nat.add_zero, Nat.zero_add]; exact d4 i hi) g1 (fun x _ h2 => f2 x (Nat.zero_le _) h2)
  refine ⟨I2, ?_, fun x a1 a2 a3 a4 => (k1 x a1 a2 a3 a4).trans (g1 x a1 a2 a3 a4), ?_⟩
  · refine zq_of rfl ?_
    show zd S 118 0 [some (.ref 76), some (.int (nI p)), none, none, none, none] [] I J (0, 0) = _
    rw [B118_0, ← nI_0, e1, e2]
  · intro j hj
    by_cases h0 : j = 0
    · subst h0
      have h2 := k2 0 (Nat.le_refl _)
      have h3 := f2 0 (Nat.le_refl _) (by omega)
      rw [h2.1, h2.2, h3.1, h3.2, qd_0 hpos]
      exact ⟨rfl, rfl⟩
    · have := k3 j (by omega) hj
      rw [Nat.zero_add] at this
      exact this
end MENDS
