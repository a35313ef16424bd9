/-! reading: a story (the one side) -/
/-- the place, the paragraphs, the figure, the paragraphs' places -/
def pst (T : Nat → Nat) (N : Nat) (x : Nat × Nat × Nat × Nat × (Nat → Nat)) : Nat × Nat × Nat × Nat × (Nat → Nat) := (ptA T N x.2.1 x.2.2.1 x.1, ptQ T N x.2.1 x.1, ptC T N x.2.2.1 x.1, ptR T N x.2.2.2.1 x.1, ptF T N x.2.1 x.1 x.2.2.2.2)
def psB (T : Nat → Nat) (N : Nat) (x : Nat × Nat × Nat × Nat × (Nat → Nat)) : Bool := ptB T N x.2.1 x.2.2.1 x.1
/-- parts, while there are more -/
def lp (T : Nat → Nat) (N : Nat) : Nat → Bool → Nat × Nat × Nat × Nat × (Nat → Nat) → Bool × (Nat × Nat × Nat × Nat × (Nat → Nat))
  | 0, b, x => (b, x)
  | m + 1, b, x => if b = true ∧ x.1 < N ∧ ch T N x.1 ≠ 35 then lp T N m (psB T N x) (pst T N x) else (b, x)
def okσ (N : Nat) (x : Nat × Nat × Nat × Nat × (Nat → Nat)) : Prop := x.1 ≤ N ∧ x.2.1 ≤ 4 ∧ x.2.2.1 ≤ 9
theorem pst_ok {T : Nat → Nat} {N : Nat} {x : Nat × Nat × Nat × Nat × (Nat → Nat)} (hx : okσ N x) (h : psB T N x = true) : okσ N (pst T N x) ∧ x.1 < (pst T N x).1 := by
  obtain ⟨a, q, fc, fr, F⟩ := x
  obtain ⟨h1, h2, h3⟩ := hx
  have h1 : a ≤ N := h1
  have h2 : q ≤ 4 := h2
  have h3 : fc ≤ 9 := h3
  have h : ptB T N q fc a = true := h
  show (ptA T N q fc a ≤ N ∧ ptQ T N q a ≤ 4 ∧ ptC T N fc a ≤ 9) ∧ a < ptA T N q fc a
  unfold ptB at h
  unfold ptA ptQ ptC
  by_cases h61 : ch T N a = 61
  · rw [if_pos h61] at h
    rw [if_pos h61, if_pos h61, if_pos h61]
    rw [Bool.and_eq_true, decide_eq_true_eq] at h
    obtain ⟨h0, hf⟩ := h
    unfold figB at hf
    rw [Bool.and_eq_true, Bool.and_eq_true, decide_eq_true_eq] at hf
    obtain ⟨d1, d2, d3⟩ := hf
    have hin : a + 3 < N := ch_in (T := T) (by omega)
    unfold figA
    rw [if_pos h0, if_pos d1, if_pos d2, if_pos d3]
    have := (dg_v d1).2.2
    omega
  · rw [if_neg h61] at h
    rw [if_neg h61, if_neg h61, if_neg h61]
    rw [Bool.and_eq_true, decide_eq_true_eq] at h
    obtain ⟨h4, hk⟩ := h
    have hw := wsA_N (T := T) (N := N) 16 a h1
    have hk' := hk
    unfold wdK at hk'
    rw [Bool.and_eq_true, decide_eq_true_eq] at hk'
    have hin : wsA T N 16 a < N := ch_in (T := T) (by omega)
    rw [if_pos h4, if_pos hk]
    omega
def cStx (T : Nat → Nat) (N : Nat) (h F G : Nat → Int32) (u hf ht : Nat) (x : Nat × Nat × Nat × Nat × (Nat → Nat)) : Prop := cSt T N h F G u hf ht x.2.1 x.2.2.1 x.2.2.2.1 x.2.2.2.2
section CSTORY
variable {S : Nat × (Nat → Int32)} {I : zI} {J : zJ} {k : zK} {T : Nat → Nat} {N s : Nat}
theorem g73_l {u hf ht : Nat} (hs : s < 4) (hx : cTx I T N) (hb : Nat.ble k.1 (mBu 73).1 = true ∧ Nat.ble k.2 (mBu 73).2 = true) : ∀ (m : Nat) (b : Bool) (x : Nat × Nat × Nat × Nat × (Nat → Nat)) (i : Nat) (h F G : Nat → Int32), (b = true → okσ N x ∧ i ≤ x.1 ∧ N ≤ x.1 + m ∧ cStx T N h F G u hf ht x) → i < 2 ^ 30 →
    ∃ h' F' G' : Nat → Int32, zd S 73 101 [some (.ref 4), some (.ref (7 + 12 * s)), some (.int (bI b)), some (.int (nI i))] [] (cA (cS I s h F G) x.1) J k = some (some (.int (bI (lp T N m b x).1)), mk (cA (cS I s h' F' G') (lp T N m b x).2.1) J, k)
      ∧ ((lp T N m b x).1 = true → okσ N (lp T N m b x).2 ∧ cStx T N h' F' G' u hf ht (lp T N m b x).2) ∧ (∀ e, e < 8 ∨ 13 < e → h' e = h e) := by
  intro m
  have hN := hx.2.2.1
  have h2 : ∀ (h F G : Nat → Int32) (a : Nat), cA (cS I s h F G) a 4 2 = nI N := by
    intro h F G a
    rw [cA_f _ _ _ rfl, cS_n 4 (by omega) (by omega) (by omega)]
    exact hx.1
  have stop : ∀ (x : Nat × Nat × Nat × Nat × (Nat → Nat)) (i : Nat) (h F G : Nat → Int32), zd S 73 101 [some (.ref 4), some (.ref (7 + 12 * s)), some (.int (bI false)), some (.int (nI i))] [] (cA (cS I s h F G) x.1) J k = some (some (.int (bI false)), mk (cA (cS I s h F G) x.1) J, k) := by
    intro x i h F G
    rw [B73_101 hs]
    by_cases hh : (cA (cS I s h F G) x.1) 4 2 ≤ nI i
    · rw [if_pos hh, B73_145 hs (bI_z _)]
    · rw [if_neg hh, B73_109 hs, if_pos ((bI_0 _).mpr rfl), B73_145 hs (bI_z _)]
  have out : ∀ (b : Bool) (x : Nat × Nat × Nat × Nat × (Nat → Nat)) (i : Nat) (h F G : Nat → Int32), b = true → okσ N x → i ≤ x.1 → ¬ (x.1 < N ∧ ch T N x.1 ≠ 35) → zd S 73 101 [some (.ref 4), some (.ref (7 + 12 * s)), some (.int (bI b)), some (.int (nI i))] [] (cA (cS I s h F G) x.1) J k = some (some (.int (bI b)), mk (cA (cS I s h F G) x.1) J, k) := by
    intro b x i h F G hbt hok hi hno
    have hxN := hok.1
    have e35 : nx T N x.1 = 35 ↔ ch T N x.1 = 35 := nx_eq (c := 35) hx.2.2 (by decide) (by decide)
    rw [B73_101 hs, h2]
    by_cases hNi : N ≤ i
    · rw [if_pos (nI_le hNi (by omega)), B73_145 hs (bI_z _)]
    · rw [if_neg (nI_ge (by omega) (by omega)), B73_109 hs, hbt, if_neg (by decide), B73_113 hs, h2, cA_3]
      by_cases hl : x.1 < N
      · have hc : ch T N x.1 = 35 := by
          by_cases hc : ch T N x.1 = 35
          · exact hc
          · exact absurd ⟨hl, hc⟩ hno
        rw [if_neg (nI_ge hl (by omega)), B73_124 hb hs (s79 (cS_tx hx) (by omega)), B73_128 hs, if_pos (e35.mpr hc), B73_145 hs (bI_z true)]
      · rw [if_pos (nI_le (by omega) (by omega)), B73_145 hs (bI_z true)]
  induction m with
  | zero =>
    intro b x i h F G hpre hi
    refine ⟨h, F, G, ?_, ?_, fun _ _ => rfl⟩
    · cases b with
      | false => exact stop x i h F G
      | true =>
        obtain ⟨hok, hix, hm, hc⟩ := hpre rfl
        exact out true x i h F G rfl hok hix (by omega)
    · intro hb1
      obtain ⟨hok, hix, hm, hc⟩ := hpre hb1
      exact ⟨hok, hc⟩
  | succ m ih =>
    intro b x i h F G hpre hi
    cases b with
    | false =>
      have hl : lp T N (m + 1) false x = (false, x) := if_neg (fun z => Bool.false_ne_true z.1)
      refine ⟨h, F, G, ?_, ?_, fun _ _ => rfl⟩
      · rw [hl]; exact stop x i h F G
      · intro hb1
        rw [hl] at hb1
        cases hb1
    | true =>
      obtain ⟨hok, hix, hm, hc⟩ := hpre rfl
      by_cases hgo : x.1 < N ∧ ch T N x.1 ≠ 35
      · have hl : lp T N (m + 1) true x = lp T N m (psB T N x) (pst T N x) := if_pos ⟨rfl, hgo⟩
        have e35 : nx T N x.1 = 35 ↔ ch T N x.1 = 35 := nx_eq (c := 35) hx.2.2 (by decide) (by decide)
        obtain ⟨h', F', G', hz, hd, hfr⟩ := s74 (S := S) (J := J) (a := x.1) (h := h) (F := F) (G := G) hs hx hok.1 hok.2.1 hok.2.2 hc
        obtain ⟨h2', F2', G2', hE, hD, hfr2⟩ := ih (psB T N x) (pst T N x) (i + 1) h' F' G' (fun hbt => by
          obtain ⟨o1, o2⟩ := pst_ok hok hbt
          exact ⟨o1, by omega, by omega, hd hbt⟩) (by omega)
        refine ⟨h2', F2', G2', ?_, ?_, fun e he => (hfr2 e he).trans (hfr e he)⟩
        · rw [hl, B73_101 hs, h2, if_neg (nI_ge (by omega) (by omega)), B73_109 hs, if_neg (by decide), B73_113 hs, h2, cA_3, if_neg (nI_ge hgo.1 (by omega)), B73_124 hb hs (s79 (cS_tx hx) (by omega)), B73_128 hs, if_neg (fun z => hgo.2 (e35.mp z)), B73_133 hb hs hz, B73_138 hs, nI_1]
          exact hE
        · rw [hl]; exact hD
      · have hl : lp T N (m + 1) true x = (true, x) := if_neg (fun z => hgo z.2)
        refine ⟨h, F, G, ?_, ?_, fun _ _ => rfl⟩
        · rw [hl]; exact out true x i h F G rfl hok hix hgo
        · intro _
          rw [hl]
          exact ⟨hok, hc⟩
end CSTORY
