/-! reading: a whole story, all stories (the one side) -/
/-- a story from a on: is it right, where it ends or fails, its urgency, headline, parts -/
def syX (T : Nat → Nat) (N a : Nat) : Nat × Nat × Nat × Nat × (Nat → Nat) := (wsA T N 4 (a + 2) + 1, 0, 0, 0, fun _ => 0)
def syL (T : Nat → Nat) (N a : Nat) : Bool × (Nat × Nat × Nat × Nat × (Nat → Nat)) := lp T N N (psB T N (syX T N a)) (pst T N (syX T N a))
def syB (T : Nat → Nat) (N a : Nat) : Bool := decide (ch T N a = 35) && (dg 0 (ch T N (a + 1)) && (wdK T N 4 (a + 2) && (syL T N a).1))
def syA (T : Nat → Nat) (N a : Nat) : Nat := if ch T N a = 35 then (if dg 0 (ch T N (a + 1)) = true then (if wdK T N 4 (a + 2) = true then (syL T N a).2.1 else wsA T N 4 (a + 2)) else a + 1) else a
/-- story s holds what was read from a on -/
def cDone (T : Nat → Nat) (N : Nat) (h F G : Nat → Int32) (a : Nat) : Prop := cStx T N h F G (ch T N (a + 1) - 48) (a + 2) (wsA T N 4 (a + 2)) (syL T N a).2
theorem syA_ok {T : Nat → Nat} {N a : Nat} (h : syB T N a = true) : a < N ∧ dg 0 (ch T N (a + 1)) = true ∧ wdK T N 4 (a + 2) = true ∧ (syL T N a).1 = true ∧ ch T N a = 35 ∧ syA T N a = (syL T N a).2.1 ∧ wsA T N 4 (a + 2) < N ∧ a + 2 ≤ N := by
  unfold syB at h
  rw [Bool.and_eq_true, Bool.and_eq_true, Bool.and_eq_true, decide_eq_true_eq] at h
  obtain ⟨h1, h2, h3, h4⟩ := h
  have hk := h3
  unfold wdK at hk
  rw [Bool.and_eq_true, decide_eq_true_eq] at hk
  have hd := h2
  unfold dg at hd
  rw [Bool.and_eq_true, decide_eq_true_eq] at hd
  have i1 : a + 1 < N := ch_in (T := T) (by omega)
  have i2 : wsA T N 4 (a + 2) < N := ch_in (T := T) (by omega)
  refine ⟨by omega, h2, h3, h4, h1, ?_, i2, by omega⟩
  unfold syA
  rw [if_pos h1, if_pos h2, if_pos h3]
section CREAD
variable {S : Nat × (Nat → Int32)} {I : zI} {J : zJ} {k : zK} {T : Nat → Nat} {N s : Nat}
theorem s89 {h F G : Nat → Int32} {a : Nat} (hs : s < 4) : zq S 89 [.ref (7 + 12 * s)] (cA (cS I s h F G) a) J none (cA (cS I s (upd (upd (upd h 11 0) 12 0) 13 0) F G) a) J := by
  refine zq_of rfl ?_
  show zd S 89 0 [some (.ref (7 + 12 * s))] [] _ J (0, 0) = _
  rw [B89_0 hs, cS_7, B89_5 hs, cS_7, B89_10 hs, cS_7, B89_15 hs]
theorem s73 {h F G : Nat → Int32} {a : Nat} (hs : s < 4) (hx : cTx I T N) (ha : a ≤ N) :
    ∃ h' F' G' : Nat → Int32, zq S 73 [.ref 4, .ref (7 + 12 * s)] (cA (cS I s h F G) a) J (some (.int (bI (syB T N a)))) (cA (cS I s h' F' G') (syA T N a)) J
      ∧ (syB T N a = true → okσ N (syL T N a).2 ∧ cDone T N h' F' G' a) ∧ (∀ e, e < 8 ∨ 13 < e → h' e = h e) := by
  have hN := hx.2.2.1
  have hX := hx.2.2
  have e0 : ∀ x y : Nat, ∀ h F G : Nat → Int32, zq S 20 [.int (nx T N x), .int 0] (cA (cS I s h F G) y) J (some (.int (bI (dg 0 (ch T N x))))) (cA (cS I s h F G) y) J := fun x y h F G => s20 (l := 0) hX (by decide)
  have h35 := s78 (S := S) (J := J) (c := 35) (I := cS I s (upd (upd (upd h 11 0) 12 0) 13 0) F G) (cS_tx hx) (by omega : a < 2 ^ 31) (by decide) (by decide)
  have start : zd S 73 0 [some (.ref 4), some (.ref (7 + 12 * s)), none, none] [] (cA (cS I s h F G) a) J (0, 0) = zd S 73 10 [some (.ref 4), some (.ref (7 + 12 * s)), none, none] [.int (bI (decide (ch T N a = 35)))] (cA (cS I s (upd (upd (upd h 11 0) 12 0) 13 0) F G) (if ch T N a = 35 then a + 1 else a)) J (0, 0) := by
    rw [B73_0 ⟨rfl, rfl⟩ hs (s89 hs), B73_4 ⟨rfl, rfl⟩ hs h35]
  by_cases c1 : ch T N a = 35
  · have i0 : a < N := ch_in (T := T) (by omega)
    rw [decide_eq_true c1, if_pos c1] at start
    cases c2 : dg 0 (ch T N (a + 1)) with
    | false =>
      have hB : syB T N a = false := by unfold syB; rw [decide_eq_true c1, c2]; rfl
      have hA : syA T N a = a + 1 := by unfold syA; rw [if_pos c1, c2, if_neg (by decide)]
      refine ⟨upd (upd (upd h 11 0) 12 0) 13 0, F, G, zq_of rfl ?_, (fun z => by rw [hB] at z; cases z), fun e he => by rw [pk_un (by omega), pk_un (by omega), pk_un (by omega)]⟩
      show zd S 73 0 [some (.ref 4), some (.ref (7 + 12 * s)), none, none] [] _ J (0, 0) = _
      rw [start, B73_10 hs, if_neg (by decide), B73_13 ⟨rfl, rfl⟩ hs (s79 (cS_tx hx) (by omega)), B73_17 ⟨rfl, rfl⟩ hs (e0 _ _ _ _ _), B73_21 hs, c2, if_neg (not_not_intro ((bI_0 _).mpr rfl)), B73_24 hs rfl, hB, hA]
      rfl
    | true =>
      have hd := c2
      unfold dg at hd
      rw [Bool.and_eq_true, decide_eq_true_eq, decide_eq_true_eq] at hd
      have i1 : a + 1 < N := ch_in (T := T) (by omega)
      have n1 : nx T N (a + 1) - 48 = nI (ch T N (a + 1) - 48) := by rw [nx_d c2]; exact pk_sub (b := 48) (by omega)
      have hw := wsA_N (T := T) (N := N) 4 (a + 2) (by omega)
      generalize hh1 : upd (upd (upd (upd (upd h 11 0) 12 0) 13 0) 8 (nI (ch T N (a + 1) - 48))) 9 (nI (a + 2)) = h1 at *
      have hf1 : ∀ e, e < 8 ∨ 13 < e → h1 e = h e := fun e he => by rw [← hh1, pk_un (by omega), pk_un (by omega), pk_un (by omega), pk_un (by omega), pk_un (by omega)]
      have h76 := s76 (S := S) (J := J) (M := 4) (I := cS I s h1 F G) (by decide) (cS_tx hx) (by omega : a + 2 ≤ N)
      have step : zd S 73 0 [some (.ref 4), some (.ref (7 + 12 * s)), none, none] [] (cA (cS I s h F G) a) J (0, 0) = zd S 73 60 [some (.ref 4), some (.ref (7 + 12 * s)), none, none] [.int (bI (wsB T N 4 (a + 2)))] (cA (cS I s h1 F G) (wsA T N 4 (a + 2))) J (0, 0) := by
        rw [start, B73_10 hs, if_neg (by decide), B73_13 ⟨rfl, rfl⟩ hs (s79 (cS_tx hx) (by omega)), B73_17 ⟨rfl, rfl⟩ hs (e0 _ _ _ _ _), B73_21 hs, c2, if_pos (by decide), B73_26 ⟨rfl, rfl⟩ hs (s79 (cS_tx hx) (by omega)), B73_31 hs, n1, cS_7, B73_37 hs, cA_3, nI_1, cA_u, B73_47 hs, cA_3, cS_7, show a + 1 + 1 = a + 2 from rfl, hh1, B73_55 ⟨rfl, rfl⟩ hs h76]
      cases w1 : wsB T N 4 (a + 2) with
      | false =>
        have hk : wdK T N 4 (a + 2) = false := by unfold wdK; rw [w1]; rfl
        have hB : syB T N a = false := by unfold syB; rw [decide_eq_true c1, c2, hk]; rfl
        have hA : syA T N a = wsA T N 4 (a + 2) := by unfold syA; rw [if_pos c1, c2, if_pos rfl, hk, if_neg (by decide)]
        refine ⟨h1, F, G, zq_of rfl ?_, (fun z => by rw [hB] at z; cases z), hf1⟩
        show zd S 73 0 [some (.ref 4), some (.ref (7 + 12 * s)), none, none] [] _ J (0, 0) = _
        rw [step, B73_60 hs, w1, if_neg (not_not_intro ((bI_0 _).mpr rfl)), B73_63 hs rfl, hB, hA]
        rfl
      | true =>
        generalize hh2 : upd h1 10 (nI (wsA T N 4 (a + 2))) = h2 at *
        have hf2 : ∀ e, e < 8 ∨ 13 < e → h2 e = h e := fun e he => by rw [← hh2, pk_un (by omega)]; exact hf1 e he
        have h78 := s78 (S := S) (J := J) (c := 10) (I := cS I s h2 F G) (cS_tx hx) (by omega : wsA T N 4 (a + 2) < 2 ^ 31) (by decide) (by decide)
        have step2 : zd S 73 0 [some (.ref 4), some (.ref (7 + 12 * s)), none, none] [] (cA (cS I s h F G) a) J (0, 0) = zd S 73 79 [some (.ref 4), some (.ref (7 + 12 * s)), none, none] [.int (bI (decide (ch T N (wsA T N 4 (a + 2)) = 10)))] (cA (cS I s h2 F G) (if ch T N (wsA T N 4 (a + 2)) = 10 then wsA T N 4 (a + 2) + 1 else wsA T N 4 (a + 2))) J (0, 0) := by
          rw [step, B73_60 hs, w1, if_pos (by decide), B73_65 hs, cA_3, cS_7, hh2, B73_73 ⟨rfl, rfl⟩ hs h78]
        by_cases c10 : ch T N (wsA T N 4 (a + 2)) = 10
        · have hk : wdK T N 4 (a + 2) = true := by unfold wdK; rw [w1, decide_eq_true c10]; rfl
          have i2 : wsA T N 4 (a + 2) < N := ch_in (T := T) (by omega)
          have hB : syB T N a = (syL T N a).1 := by unfold syB; rw [decide_eq_true c1, c2, hk]; rfl
          have hA : syA T N a = (syL T N a).2.1 := by unfold syA; rw [if_pos c1, c2, if_pos rfl, hk, if_pos rfl]
          have hc0 : cSt T N h2 F G (ch T N (a + 1) - 48) (a + 2) (wsA T N 4 (a + 2)) 0 0 0 (fun _ => 0) := by
            subst hh2
            subst hh1
            refine ⟨?_, ?_, ?_, ?_, ?_, ?_, ?_, ?_⟩
            · rw [pk_un (by decide), pk_un (by decide), pk_us]
            · rw [pk_un (by decide), pk_us]
            · rw [pk_us]
            · rw [pk_un (by decide), pk_un (by decide), pk_un (by decide), pk_un (by decide), pk_un (by decide), pk_us]; rfl
            · rw [pk_un (by decide), pk_un (by decide), pk_un (by decide), pk_un (by decide), pk_us]; rfl
            · rw [pk_un (by decide), pk_un (by decide), pk_un (by decide), pk_us]; rfl
            · intro x hxx; omega
            · intro x hxx; omega
          rw [decide_eq_true c10, if_pos c10] at step2
          obtain ⟨h3, F3, G3, hz, hd3, hf3⟩ := s74 (S := S) (J := J) (a := wsA T N 4 (a + 2) + 1) (h := h2) (F := F) (G := G) hs hx (by omega) (by omega) (by omega) hc0
          have hokx : okσ N (syX T N a) := ⟨by show wsA T N 4 (a + 2) + 1 ≤ N; omega, by show 0 ≤ 4; omega, by show 0 ≤ 9; omega⟩
          have hlt : (pst T N (syX T N a)).1 < 2 ^ 30 := by
            show ptA T N 0 0 (wsA T N 4 (a + 2) + 1) < 2 ^ 30
            have hw2 := wsA_N (T := T) (N := N) 16 (wsA T N 4 (a + 2) + 1) (by omega)
            unfold ptA figA
            repeat' split
            all_goals omega
          obtain ⟨h4, F4, G4, hE, hD, hf4⟩ := g73_l (S := S) (J := J) (k := (0, 0)) (u := ch T N (a + 1) - 48) (hf := a + 2) (ht := wsA T N 4 (a + 2)) hs hx ⟨rfl, rfl⟩ N (psB T N (syX T N a)) (pst T N (syX T N a)) (pst T N (syX T N a)).1 h3 F3 G3 (fun hbt => ⟨(pst_ok hokx hbt).1, Nat.le_refl _, by omega, hd3 hbt⟩) hlt
          have h74 : zq S 74 [.ref 4, .ref (7 + 12 * s)] (cA (cS I s h2 F G) (wsA T N 4 (a + 2) + 1)) J (some (.int (bI (psB T N (syX T N a))))) (cA (cS I s h3 F3 G3) (pst T N (syX T N a)).1) J := hz
          refine ⟨h4, F4, G4, zq_of rfl ?_, ?_, fun e he => (hf4 e he).trans ((hf3 e he).trans (hf2 e he))⟩
          · show zd S 73 0 [some (.ref 4), some (.ref (7 + 12 * s)), none, none] [] _ J (0, 0) = _
            rw [step2, B73_79 hs, if_neg (by decide), B73_82 ⟨rfl, rfl⟩ hs h74, B73_87 hs, hB, hA]
            refine Eq.trans ?_ hE
            cases psB T N (syX T N a) with
            | false => rw [if_pos ((bI_0 _).mpr rfl), B73_94 hs, cA_3]; rfl
            | true => rw [if_neg (by decide), B73_90 hs, cA_3]; rfl
          · intro hb
            rw [hB] at hb
            exact hD hb
        · have hk : wdK T N 4 (a + 2) = false := by unfold wdK; rw [w1, decide_eq_false c10]; rfl
          have hB : syB T N a = false := by unfold syB; rw [decide_eq_true c1, c2, hk]; rfl
          have hA : syA T N a = wsA T N 4 (a + 2) := by unfold syA; rw [if_pos c1, c2, if_pos rfl, hk, if_neg (by decide)]
          rw [decide_eq_false c10, if_neg c10] at step2
          refine ⟨h2, F, G, zq_of rfl ?_, (fun z => by rw [hB] at z; cases z), hf2⟩
          show zd S 73 0 [some (.ref 4), some (.ref (7 + 12 * s)), none, none] [] _ J (0, 0) = _
          have e2 : cA (cS I s h2 F G) (wsA T N 4 (a + 2)) 4 2 = nI N := by
            rw [cA_f _ _ _ rfl, cS_n 4 (by omega) (by omega) (by omega)]
            exact hx.1
          rw [step2, B73_79 hs, if_pos ((bI_0 _).mpr rfl), B73_94 hs, B73_101 hs, hB, hA]
          by_cases hq : cA (cS I s h2 F G) (wsA T N 4 (a + 2)) 4 2 ≤ cA (cS I s h2 F G) (wsA T N 4 (a + 2)) 4 3
          · rw [if_pos hq, B73_145 hs rfl]; rfl
          · rw [if_neg hq, B73_109 hs, if_pos rfl, B73_145 hs rfl]; rfl
  · have hB : syB T N a = false := by unfold syB; rw [decide_eq_false c1]; rfl
    have hA : syA T N a = a := by unfold syA; rw [if_neg c1]
    rw [decide_eq_false c1, if_neg c1] at start
    refine ⟨upd (upd (upd h 11 0) 12 0) 13 0, F, G, zq_of rfl ?_, (fun z => by rw [hB] at z; cases z), fun e he => by rw [pk_un (by omega), pk_un (by omega), pk_un (by omega)]⟩
    show zd S 73 0 [some (.ref 4), some (.ref (7 + 12 * s)), none, none] [] _ J (0, 0) = _
    rw [start, B73_10 hs, if_pos ((bI_0 _).mpr rfl), B73_24 hs rfl, hB, hA]
    rfl
end CREAD
