/-! plan: the lines of a paragraph are added, the one side -/
section CBREAK
variable {S : Nat × (Nat → Int32)} {I : zI} {J : zJ} {k : zK}
theorem s92 {s f c b : Nat} (hs : s < 4) (hc : c < 2 ^ 30) (hf : f < 2 ^ 30) (h0 : 0 < c) (hb : b < 2 ^ 40) (h15 : I (7 + 12 * s) 15 = nI c) (h17 : J (7 + 12 * s) 17 = lN b) :
    ∃ J' b', zq S 92 [.ref (7 + 12 * s), .int (nI f)] I J none I J' ∧ (∀ x, x ≠ 7 + 12 * s → J' x = J x) ∧ J' (7 + 12 * s) 17 = lN b' ∧ b' < 2 ^ 40 ∧ (c ≤ 40 → ∀ i, hbt b' i = (hbt b i || (decide (f + 2 ≤ c) && (decide (i = f + 1) || decide (i + 1 = c))))) := by
  have e1 : nI c - 1 = nI (c - 1) := pk_sub (b := 1) (by omega)
  have e2 : nI (c - 1) ≤ nI f ↔ c - 1 ≤ f := nI_leI (by omega) (by omega)
  have e3 : (40 : Int32) ≤ nI (c - 1) ↔ 40 ≤ c - 1 := nI_leI (a := 40) (by decide) (by omega)
  have hg : zd S 92 0 [some (.ref (7 + 12 * s)), some (.int (nI f)), none] [] I J (0, 0) = if c - 1 ≤ f ∨ 40 ≤ c - 1 then some (none, mk I J, (0, 0)) else some (none, mk I (v2 J (7 + 12 * s) 17 (lN (b ||| (2 ^ (f + 1) ||| 2 ^ (c - 1))))), (0, 0)) := by
    rw [B92_0 hs, h15, e1]
    by_cases h1 : c - 1 ≤ f
    · rw [if_pos (e2.mpr h1), if_pos (Or.inl h1), B92_36 hs]
    · rw [if_neg (fun z => h1 (e2.mp z)), B92_12 hs]
      by_cases h2 : 40 ≤ c - 1
      · rw [if_pos (e3.mpr h2), if_pos (Or.inr h2), B92_36 hs]
      · have p1 : 2 ^ (f + 1) < 2 ^ 64 := wb_lt2 (by omega)
        have p2 : 2 ^ (c - 1) < 2 ^ 64 := wb_lt2 (by omega)
        have p3 : 2 ^ (f + 1) ||| 2 ^ (c - 1) < 2 ^ 64 := Nat.or_lt_two_pow p1 p2
        have s1 : (1 : Int64) <<< (((nI f + 1) : Int32).toInt64 &&& 63) = lN (2 ^ (f + 1)) := by
          rw [nI_1]
          have := wb_shl 1 (k := f + 1) (by omega)
          rw [Nat.one_mul] at this
          exact this
        have s2 : (1 : Int64) <<< ((nI (c - 1)).toInt64 &&& 63) = lN (2 ^ (c - 1)) := by
          have := wb_shl 1 (k := c - 1) (by omega)
          rw [Nat.one_mul] at this
          exact this
        rw [if_neg (fun z => h2 (e3.mp z)), if_neg (by omega), B92_18 hs, B92_36 hs, h17, s1, s2, wb_or p1 p2, wb_or (by have : b < 2 ^ 64 := Nat.lt_trans hb (by decide); exact this) p3]
  by_cases hcd : c - 1 ≤ f ∨ 40 ≤ c - 1
  · rw [if_pos hcd] at hg
    refine ⟨J, b, zq_of rfl hg, fun _ _ => rfl, h17, hb, fun h40 i => ?_⟩
    rw [decide_eq_false (by omega : ¬ f + 2 ≤ c), Bool.false_and, Bool.or_false]
  · rw [if_neg hcd] at hg
    refine ⟨_, b ||| (2 ^ (f + 1) ||| 2 ^ (c - 1)), zq_of rfl hg, fun x hx => v2n (nbeq hx), v2s, ?_, fun h40 i => ?_⟩
    · exact Nat.or_lt_two_pow hb (Nat.or_lt_two_pow (wb_lt2 (by omega)) (wb_lt2 (by omega)))
    · rw [hbt_t, hbt_t, Nat.testBit_or, Nat.testBit_or, Nat.testBit_two_pow, Nat.testBit_two_pow, decide_eq_true (by omega : f + 2 ≤ c), Bool.true_and]
      congr 1
      congr 1
      · apply decide_eq_decide.mpr
        omega
      · apply decide_eq_decide.mpr
        omega
/-- what is kept of story s and what stands in its lines from c on -/
def lnC (I I' : zI) (s a c : Nat) (L : List Nat) (Q : Nat → Nat) (X : List (Nat × Nat)) : Prop :=
  (∀ x, x ≠ 7 + 12 * s → x ≠ 11 + 12 * s → x ≠ 12 + 12 * s → x ≠ 13 + 12 * s → I' x = I x) ∧ (∀ e, e ≠ 15 → I' (7 + 12 * s) e = I (7 + 12 * s) e) ∧ I' (7 + 12 * s) 15 = nI (c + X.length) ∧
  (∀ j, j < c → I' (11 + 12 * s) j = I (11 + 12 * s) j ∧ I' (12 + 12 * s) j = I (12 + 12 * s) j ∧ I' (13 + 12 * s) j = I (13 + 12 * s) j) ∧
  (∀ j x, X[j]? = some x → c + j < 40 → I' (11 + 12 * s) (c + j) = nI (a + bpL L x.1) ∧ I' (12 + 12 * s) (c + j) = nI (a + cpL L x.2) ∧ I' (13 + 12 * s) (c + j) = nI (Q x.2))
theorem g32_l {s a l nt f : Nat} {L : List Nat} {Q : Nat → Nat} {B : Nat → Option (Nat × Nat)} (hs : s < 4) (ok : okB l nt Q (cpL L) (bpL L)) (hnt : nt ≤ 207) (ha : a < 2 ^ 20) (hg : gdB B l) (hQ : ∀ q x, q < l → B q = some x → x.2 < l → Q x.2 = 1 ∨ Q x.2 = 2)
    (hb : Nat.ble k.1 (mBu 32).1 = true ∧ Nat.ble k.2 (mBu 32).2 = true) {I0 : zI} (h6 : I0 55 6 = nI nt) (he : ∀ j, 0 < j → j ≤ l → I0 62 (cpL L j) = nI (Q j)) (hQ3 : ∀ j, 0 < j → j ≤ l → Q j ≤ 3) (h64 : ∀ q x, q < l → (q = 0 ∨ Q q = 1 ∨ Q q = 2) → B q = some x → I0 64 (bpL L q) = nI (cpL L x.2)) :
    ∀ (m q i c : Nat) (I : zI) (o : Option Value), l ≤ q + m → i ≤ q → q ≤ l → c + (l - q) < 2 ^ 20 → (q < l → (B q).isSome = true ∧ (q = 0 ∨ Q q = 1 ∨ Q q = 2)) → (∀ x, x ≠ 7 + 12 * s → x ≠ 11 + 12 * s → x ≠ 12 + 12 * s → x ≠ 13 + 12 * s → I x = I0 x) → I (7 + 12 * s) 15 = nI c →
      ∃ (I' : zI) (l4 l5 : Int32), zd S 32 11 [some (.ref 55), some (.ref (7 + 12 * s)), some (.int (nI a)), some (.int (nI f)), some (.int (nI (if q < l then bpL L q else nt + 1))), some (.int (nI i)), o] [] I J k = zd S 32 71 [some (.ref 55), some (.ref (7 + 12 * s)), some (.int (nI a)), some (.int (nI f)), some (.int l4), some (.int l5), none] [] I' J k ∧ lnC I I' s a c L Q (foL B l m q) := by
  have hex : ∀ (q i c m : Nat) (I : zI) (o : Option Value), ¬ q < l → i < 2 ^ 30 → (∀ x, x ≠ 7 + 12 * s → x ≠ 11 + 12 * s → x ≠ 12 + 12 * s → x ≠ 13 + 12 * s → I x = I0 x) → I (7 + 12 * s) 15 = nI c → ∃ (I' : zI) (l4 l5 : Int32), zd S 32 11 [some (.ref 55), some (.ref (7 + 12 * s)), some (.int (nI a)), some (.int (nI f)), some (.int (nI (if q < l then bpL L q else nt + 1))), some (.int (nI i)), o] [] I J k = zd S 32 71 [some (.ref 55), some (.ref (7 + 12 * s)), some (.int (nI a)), some (.int (nI f)), some (.int l4), some (.int l5), none] [] I' J k ∧ lnC I I' s a c L Q (foL B l m q) := by
    intro q i c m I o hq hi hI h15
    have h55 : I 55 6 = nI nt := by rw [hI 55 (by omega) (by omega) (by omega) (by omega)]; exact h6
    rw [foL_0 m q (by omega)]
    refine ⟨I, nI (nt + 1), nI i, ?_, fun _ _ _ _ _ => rfl, fun _ _ => rfl, h15, fun _ _ => ⟨rfl, rfl, rfl⟩, fun j x hx => by cases hx⟩
    · rw [if_neg hq, B32_11 hs, h55]
      by_cases h : nI nt ≤ nI i
      · rw [if_pos h]
      · rw [if_neg h, B32_20 hs, h55, if_pos (nI_le (by omega) (by omega))]
  intro m
  induction m with
  | zero =>
    intro q i c I o hl hi hq hc _ hI h15
    exact hex q i c 0 I o (by omega) (by have := ok.1; have h2 := okB_bn ok ok.1; have := okB_bm ok (l - 1) 0 (by omega); rw [Nat.zero_add] at this; have h5 := okB_bn ok (k := l - 1) (by omega); omega) hI h15
  | succ m ih =>
    intro q i c I o hl hi hq hc hsm hI h15
    have hln : l ≤ nt := by
      have h1 := okB_bm ok (l - 1) 0 (by have := ok.1; omega)
      rw [Nat.zero_add] at h1
      have h5 := okB_bn ok (k := l - 1) (by have := ok.1; omega)
      omega
    by_cases hql : q < l
    · obtain ⟨hs1, hbg⟩ := hsm hql
      cases hbq : B q with
      | none => rw [hbq] at hs1; cases hs1
      | some x =>
        have hx := hg q x hql hbq
        have hbn := okB_bn ok hql
        have h55 : I 55 6 = nI nt := by rw [hI 55 (by omega) (by omega) (by omega) (by omega)]; exact h6
        have hto : I 64 (bpL L q) = nI (cpL L x.2) := by rw [hI 64 (by omega) (by omega) (by omega) (by omega)]; exact h64 q x hql hbg hbq
        have hcn : cpL L x.2 ≤ nt := by
          have h1 := okB_bn ok (k := x.2 - 1) (by omega)
          rw [show x.2 - 1 + 1 = x.2 by omega] at h1
          exact h1.2
        have hen : I 62 (cpL L x.2) = nI (Q x.2) := by rw [hI 62 (by omega) (by omega) (by omega) (by omega)]; exact he _ (by omega) (by omega)
        have q91 := s91 (S := S) (I := I) (J := J) (nI a + nI (bpL L q)) (nI a + nI (cpL L x.2)) (nI (Q x.2)) hs (by omega) h15
        generalize hM : u2 (if c < 40 then u2 (u2 (u2 I (11 + 12 * s) c (nI a + nI (bpL L q))) (12 + 12 * s) c (nI a + nI (cpL L x.2))) (13 + 12 * s) c (nI (Q x.2)) else I) (7 + 12 * s) 15 (nI (c + 1)) = M at q91
        have m0 : ∀ y, y ≠ 7 + 12 * s → y ≠ 11 + 12 * s → y ≠ 12 + 12 * s → y ≠ 13 + 12 * s → M y = I y := by
          intro y a1 a2 a3 a4
          rw [← hM, u2n (nbeq a1)]
          split
          · rw [u2n (nbeq a4), u2n (nbeq a3), u2n (nbeq a2)]
          · rfl
        have m15 : M (7 + 12 * s) 15 = nI (c + 1) := by rw [← hM, u2s]
        have m7 : ∀ e, e ≠ 15 → M (7 + 12 * s) e = I (7 + 12 * s) e := by
          intro e h
          rw [← hM, u2ne h]
          split
          · rw [u2n (nbeq (by omega)), u2n (nbeq (by omega)), u2n (nbeq (by omega))]
          · rfl
        have mj : ∀ j, j ≠ c → M (11 + 12 * s) j = I (11 + 12 * s) j ∧ M (12 + 12 * s) j = I (12 + 12 * s) j ∧ M (13 + 12 * s) j = I (13 + 12 * s) j := by
          intro j h
          rw [← hM, u2n (nbeq (by omega)), u2n (nbeq (by omega)), u2n (nbeq (by omega))]
          split
          · rw [u2n (a := 13 + 12 * s) (b := 11 + 12 * s) (nbeq (by omega)), u2n (a := 12 + 12 * s) (b := 11 + 12 * s) (nbeq (by omega)), u2n (a := 13 + 12 * s) (b := 12 + 12 * s) (nbeq (by omega)), u2ne h, u2ne h, u2ne h]
            rw [u2n (a := 11 + 12 * s) (b := 12 + 12 * s) (nbeq (by omega)), u2n (a := 12 + 12 * s) (b := 13 + 12 * s) (nbeq (by omega)), u2n (a := 11 + 12 * s) (b := 13 + 12 * s) (nbeq (by omega))]
            exact ⟨rfl, rfl, rfl⟩
          · exact ⟨rfl, rfl, rfl⟩
        have mc : c < 40 → M (11 + 12 * s) c = nI (a + bpL L q) ∧ M (12 + 12 * s) c = nI (a + cpL L x.2) ∧ M (13 + 12 * s) c = nI (Q x.2) := by
          intro h
          rw [← hM, u2n (nbeq (by omega)), u2n (nbeq (by omega)), u2n (nbeq (by omega)), if_pos h]
          rw [u2n (a := 13 + 12 * s) (b := 11 + 12 * s) (nbeq (by omega)), u2n (a := 12 + 12 * s) (b := 11 + 12 * s) (nbeq (by omega)), u2n (a := 13 + 12 * s) (b := 12 + 12 * s) (nbeq (by omega)), u2s, u2s, u2s, nI_add, nI_add]
          exact ⟨rfl, rfl, rfl⟩
        have hM0 : ∀ y, y ≠ 7 + 12 * s → y ≠ 11 + 12 * s → y ≠ 12 + 12 * s → y ≠ 13 + 12 * s → M y = I0 y := fun y a1 a2 a3 a4 => (m0 y a1 a2 a3 a4).trans (hI y a1 a2 a3 a4)
        have hmx : x.2 < l → (B x.2).isSome = true ∧ (x.2 = 0 ∨ Q x.2 = 1 ∨ Q x.2 = 2) := fun h => ⟨hx.2.2 h, Or.inr (hQ q x hql hbq h)⟩
        obtain ⟨I', l4, l5, e, r0, r1, r2, r3, r4⟩ := ih x.2 (i + 1) (c + 1) M (some (.int (nI (cpL L x.2)))) (by omega) (by omega) hx.2.1 (by omega) hmx hM0 m15
        have q31 : zq S 31 [.ref 55, .int (nI (cpL L x.2))] M J (some (.int (nI (if x.2 < l then bpL L x.2 else nt + 1)))) M J := by
          have h31 := s31 (S := S) (I := M) (J := J) (e := fun _ => Q x.2) (t := cpL L x.2) (by omega) (by rw [m0 62 (by omega) (by omega) (by omega) (by omega)]; exact hen) (hQ3 _ (by omega) (by omega))
          have hnx : nxB (fun _ => Q x.2) (cpL L x.2) = if x.2 < l then bpL L x.2 else nt + 1 := by
            unfold nxB
            dsimp only
            by_cases h : x.2 < l
            · have hb1 := ok.2.2.2.1 x.2 (by omega) h
              rw [if_pos h, hb1]
              rcases hQ q x hql hbq h with h2 | h2
              · rw [h2]
                rfl
              · rw [h2]
                rfl
            · have hxl : x.2 = l := by omega
              rw [if_neg h, hxl, ok.2.2.2.2.2.1, ok.2.2.2.2.1]
              rfl
          rw [hnx] at h31
          exact h31
        have hz1 : zin (nI (bpL L q)) 208 = true := zin_n (by omega) (by decide)
        have hc1 : (nI (bpL L q)).toNatClampNeg = bpL L q := nI_clamp (by omega)
        have hc2 : (nI (cpL L x.2)).toNatClampNeg = cpL L x.2 := nI_clamp (by omega)
        refine ⟨I', l4, l5, ?_, ?_⟩
        · rw [if_pos hql, B32_11 hs, h55, if_neg (nI_ge (by omega) (by omega)), B32_20 hs, h55, if_neg (nI_ge (by omega) (by omega))]
          rw [B32_29 (I3 := M) (J4 := J) hb hs hz1 (by rw [hc1, hto]; exact zin_n (by omega) (by decide)) (by rw [hc1, hto, hc2, hen]; exact q91), hc1, hto, B32_57 hb hs q31, B32_63 hs, nI_1]
          exact e
        · have hfo : foL B l (m + 1) q = (q, x.2) :: foL B l m x.2 := by rw [foL_e, if_pos hql, hbq]
          rw [hfo]
          refine ⟨fun y a1 a2 a3 a4 => (r0 y a1 a2 a3 a4).trans (m0 y a1 a2 a3 a4), fun e h => (r1 e h).trans (m7 e h), ?_, ?_, ?_⟩
          · rw [r2]
            show nI (c + 1 + (foL B l m x.2).length) = nI (c + ((foL B l m x.2).length + 1))
            congr 1
            omega
          · intro j hj
            have := r3 j (by omega)
            have h2 := mj j (by omega)
            exact ⟨this.1.trans h2.1, this.2.1.trans h2.2.1, this.2.2.trans h2.2.2⟩
          · intro j y hy h40
            cases j with
            | zero =>
              have hy' : (q, x.2) = y := Option.some.inj hy
              have h2 := r3 c (by omega)
              have h3 := mc (by omega)
              rw [← hy']
              exact ⟨h2.1.trans h3.1, h2.2.1.trans h3.2.1, h2.2.2.trans h3.2.2⟩
            | succ j =>
              have := r4 j y hy (by omega)
              rw [show c + 1 + j = c + (j + 1) by omega] at this
              exact this
    · exact hex q i c (m + 1) I o hql (by omega) hI h15
theorem s32 {s a l nt c b : Nat} {L : List Nat} {Q : Nat → Nat} {B : Nat → Option (Nat × Nat)} (hs : s < 4) (ok : okB l nt Q (cpL L) (bpL L)) (hnt : nt ≤ 207) (ha : a < 2 ^ 20) (hg : gdB B l) (hQ : ∀ q x, q < l → B q = some x → x.2 < l → Q x.2 = 1 ∨ Q x.2 = 2)
    (h6 : I 55 6 = nI nt) (he : ∀ j, 0 < j → j ≤ l → I 62 (cpL L j) = nI (Q j)) (hQ3 : ∀ j, 0 < j → j ≤ l → Q j ≤ 3) (h64 : ∀ q x, q < l → (q = 0 ∨ Q q = 1 ∨ Q q = 2) → B q = some x → I 64 (bpL L q) = nI (cpL L x.2)) (hc : c < 2 ^ 19) (h15 : I (7 + 12 * s) 15 = nI c) (hB : (B 0).isSome = true) (hb : b < 2 ^ 40) (h17 : J (7 + 12 * s) 17 = lN b) :
    ∃ I' J' b', zq S 32 [.ref 55, .ref (7 + 12 * s), .int (nI a)] I J none I' J' ∧ lnC I I' s a c L Q (foL B l l 0) ∧ (∀ x, x ≠ 7 + 12 * s → J' x = J x) ∧ J' (7 + 12 * s) 17 = lN b' ∧ b' < 2 ^ 40 ∧ (c + (foL B l l 0).length ≤ 40 → ∀ i, hbt b' i = (hbt b i || (decide (2 ≤ (foL B l l 0).length) && (decide (i = c + 1) || decide (i + 1 = c + (foL B l l 0).length))))) := by
  have hln : l ≤ nt := by
    have h1 := okB_bm ok (l - 1) 0 (by have := ok.1; omega)
    rw [Nat.zero_add] at h1
    have h5 := okB_bn ok (k := l - 1) (by have := ok.1; omega)
    omega
  obtain ⟨I', l4, l5, e, r⟩ := g32_l (S := S) (J := J) (k := (0, 0)) (f := c) hs ok hnt ha hg hQ ⟨rfl, rfl⟩ h6 he hQ3 h64 l 0 0 c I none (by omega) (by omega) (by omega) (by omega) (fun _ => ⟨hB, Or.inl rfl⟩) (fun _ _ _ _ _ => rfl) h15
  have hlen := foL_len hg l 0 (Nat.zero_le _)
  have hpos : 0 < (foL B l l 0).length := by
    obtain ⟨l', hl'⟩ : ∃ l', l = l' + 1 := ⟨l - 1, by have := ok.1; omega⟩
    cases hb0 : B 0 with
    | none => rw [hb0] at hB; cases hB
    | some x =>
      have h := foL_e B l l' 0
      rw [← hl', if_pos ok.1, hb0] at h
      rw [h]
      exact Nat.succ_pos _
  obtain ⟨J', b', q92, j1, j2, j3, j4⟩ := s92 (S := S) (I := I') (J := J) (f := c) hs (c := c + (foL B l l 0).length) (by omega) (by omega) (by omega) hb r.2.2.1 h17
  refine ⟨I', J', b', ?_, r, j1, j2, j3, fun h i => ?_⟩
  · refine zq_of rfl ?_
    show zd S 32 0 [some (.ref 55), some (.ref (7 + 12 * s)), some (.int (nI a)), none, none, none, none] [] I J (0, 0) = _
    rw [if_pos ok.1, ok.2.1] at e
    rw [B32_0 hs, h15]
    refine Eq.trans e ?_
    rw [B32_71 ⟨rfl, rfl⟩ hs q92, B32_76 hs]
  · rw [j4 h i]
    congr 1
    congr 1
    apply decide_eq_decide.mpr
    omega
end CBREAK
