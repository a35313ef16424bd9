/-! reading: figures, parts of a story (the one side) -/
def figB (T : Nat → Nat) (N a : Nat) : Bool := dg 1 (ch T N (a + 1)) && (dg 1 (ch T N (a + 2)) && decide (ch T N (a + 3) = 10))
def figA (T : Nat → Nat) (N a : Nat) : Nat := if dg 1 (ch T N (a + 1)) = true then (if dg 1 (ch T N (a + 2)) = true then (if ch T N (a + 3) = 10 then a + 4 else a + 3) else a + 2) else a + 1
def ptB (T : Nat → Nat) (N q fc a : Nat) : Bool := if ch T N a = 61 then decide (fc = 0) && figB T N a else decide (q < 4) && wdK T N 16 a
def ptA (T : Nat → Nat) (N q fc a : Nat) : Nat := if ch T N a = 61 then (if fc = 0 then figA T N a else a) else if q < 4 then (if wdK T N 16 a = true then wsA T N 16 a + 1 else wsA T N 16 a) else a
def ptQ (T : Nat → Nat) (N q a : Nat) : Nat := if ch T N a = 61 then q else q + 1
def ptF (T : Nat → Nat) (N q a : Nat) (F : Nat → Nat) : Nat → Nat := fun x => if ch T N a = 61 then F x else if x = q then a else F x
def ptC (T : Nat → Nat) (N fc a : Nat) : Nat := if ch T N a = 61 then ch T N (a + 1) - 48 else fc
def ptR (T : Nat → Nat) (N fr a : Nat) : Nat := if ch T N a = 61 then ch T N (a + 2) - 48 else fr
/-- the memory of story s -/
def cS (I : zI) (s : Nat) (h F G : Nat → Int32) : zI := uc (uc (uc I (7 + 12 * s) h) (8 + 12 * s) F) (9 + 12 * s) G
def cSt (T : Nat → Nat) (N : Nat) (h F G : Nat → Int32) (u hf ht q fc fr : Nat) (Fs : Nat → Nat) : Prop := h 8 = nI u ∧ h 9 = nI hf ∧ h 10 = nI ht ∧ h 11 = nI q ∧ h 12 = nI fc ∧ h 13 = nI fr ∧ (∀ x, x < q → F x = nI (Fs x)) ∧ (∀ x, x < q → G x = nI (wsA T N 16 (Fs x)))
section CS
variable {I : zI} {s a : Nat} {h F G : Nat → Int32} {T : Nat → Nat} {N : Nat}
theorem cS_n (c : Nat) (h1 : c ≠ 7 + 12 * s) (h2 : c ≠ 8 + 12 * s) (h3 : c ≠ 9 + 12 * s) : cS I s h F G c = I c := by
  unfold cS
  rw [ucn (nbeq h3), ucn (nbeq h2), ucn (nbeq h1)]
theorem cS_tx (hx : cTx I T N) : cTx (cS I s h F G) T N := by
  obtain ⟨h2, h5, hN⟩ := hx
  refine ⟨?_, ?_, hN⟩
  · rw [cS_n 4 (by omega) (by omega) (by omega)]; exact h2
  · rw [cS_n 5 (by omega) (by omega) (by omega)]; exact h5
theorem cA_c (I : zI) (a c e : Nat) (x : Int32) (hc : c ≠ 4) : u2 (cA I a) c e x = cA (u2 I c e x) a := by
  unfold cA
  show u2 (uc I 4 (upd (I 4) 3 (nI a))) c e x = uc (u2 I c e x) 4 (upd ((u2 I c e x) 4) 3 (nI a))
  rw [u2_uc (nbeq hc), u2n (nbeq (Ne.symm hc))]
theorem cS_7 (e : Nat) (x : Int32) : u2 (cA (cS I s h F G) a) (7 + 12 * s) e x = cA (cS I s (upd h e x) F G) a := by
  rw [cA_c _ _ _ _ _ (by omega)]
  congr 1
  unfold cS
  rw [u2_uc (nbeq (by omega)), u2_uc (nbeq (by omega)), u2uc]
theorem cS_8 (e : Nat) (x : Int32) : u2 (cA (cS I s h F G) a) (8 + 12 * s) e x = cA (cS I s h (upd F e x) G) a := by
  rw [cA_c _ _ _ _ _ (by omega)]
  congr 1
  unfold cS
  rw [u2_uc (nbeq (by omega)), u2uc]
theorem cS_9 (e : Nat) (x : Int32) : u2 (cA (cS I s h F G) a) (9 + 12 * s) e x = cA (cS I s h F (upd G e x)) a := by
  rw [cA_c _ _ _ _ _ (by omega)]
  congr 1
  unfold cS
  rw [u2uc]
theorem cS_r (e : Nat) : cA (cS I s h F G) a (7 + 12 * s) e = h e := by
  rw [cA_n _ _ _ (nbeq (by omega))]
  unfold cS
  rw [ucn (nbeq (by omega)), ucn (nbeq (by omega)), uc_s]
end CS
theorem dg_v {c : Nat} (h : dg 1 c = true) : nI c - 48 = nI (c - 48) ∧ 1 ≤ c - 48 ∧ c - 48 ≤ 9 := by
  unfold dg at h
  rw [Bool.and_eq_true, decide_eq_true_eq, decide_eq_true_eq] at h
  exact ⟨pk_sub (b := 48) (by omega), by omega, by omega⟩
section CPART
variable {S : Nat × (Nat → Int32)} {I : zI} {J : zJ} {k : zK} {T : Nat → Nat} {N s : Nat}
theorem s75 {a : Nat} {h F G : Nat → Int32} (hs : s < 4) (hx : cTx I T N) (ha : a ≤ N) : ∃ h' : Nat → Int32, zq S 75 [.ref 4, .ref (7 + 12 * s)] (cA (cS I s h F G) a) J (some (.int (bI (figB T N a)))) (cA (cS I s h' F G) (figA T N a)) J
    ∧ (figB T N a = true → h' = upd (upd h 12 (nI (ch T N (a + 1) - 48))) 13 (nI (ch T N (a + 2) - 48))) ∧ (∀ e, e < 8 ∨ 13 < e → h' e = h e) := by
  have hN := hx.2.2.1
  have hX := hx.2.2
  have go : ∀ (I' : zI) r, zd S 75 10 [some (.ref 4), some (.ref (7 + 12 * s))] [] (cA (cS I s h F G) (a + 1)) J (0, 0) = some (r, mk I' J, (0, 0)) → zq S 75 [.ref 4, .ref (7 + 12 * s)] (cA (cS I s h F G) a) J r I' J := by
    intro I' r hh
    refine zq_of rfl ?_
    show zd S 75 0 [some (.ref 4), some (.ref (7 + 12 * s))] [] _ J (0, 0) = _
    rw [B75_0 hs, cA_3, nI_1, cA_u]
    exact hh
  have e1 : ∀ x y : Nat, ∀ h : Nat → Int32, zq S 20 [.int (nx T N x), .int 1] (cA (cS I s h F G) y) J (some (.int (bI (dg 1 (ch T N x))))) (cA (cS I s h F G) y) J := fun x y h => s20 (l := 1) hX (by decide)
  unfold figB figA
  cases d1 : dg 1 (ch T N (a + 1)) with
  | false =>
    refine ⟨h, go _ _ ?_, (fun z => by cases z), fun _ _ => rfl⟩
    rw [B75_10 ⟨rfl, rfl⟩ hs (s79 (cS_tx hx) (by omega)), B75_14 ⟨rfl, rfl⟩ hs (e1 _ _ _), B75_18 hs, d1, if_neg (not_not_intro ((bI_0 _).mpr rfl)), B75_21 hs rfl, if_neg (by decide)]
    rfl
  | true =>
    obtain ⟨v1, -, -⟩ := dg_v d1
    have n1 : nx T N (a + 1) - 48 = nI (ch T N (a + 1) - 48) := by rw [nx_d (dg_0 d1)]; exact v1
    have step1 : zd S 75 10 [some (.ref 4), some (.ref (7 + 12 * s))] [] (cA (cS I s h F G) (a + 1)) J (0, 0) = zd S 75 44 [some (.ref 4), some (.ref (7 + 12 * s))] [] (cA (cS I s (upd h 12 (nI (ch T N (a + 1) - 48))) F G) (a + 2)) J (0, 0) := by
      rw [B75_10 ⟨rfl, rfl⟩ hs (s79 (cS_tx hx) (by omega)), B75_14 ⟨rfl, rfl⟩ hs (e1 _ _ _), B75_18 hs, d1, if_pos (by decide), B75_23 ⟨rfl, rfl⟩ hs (s79 (cS_tx hx) (by omega)), B75_28 hs, n1, cS_7, B75_34 hs, cA_3, nI_1, cA_u]
    rw [if_pos rfl, Bool.true_and]
    cases d2 : dg 1 (ch T N (a + 2)) with
    | false =>
      refine ⟨upd h 12 (nI (ch T N (a + 1) - 48)), go _ _ ?_, (fun z => by cases z), fun e he => pk_un (by omega)⟩
      rw [step1, B75_44 ⟨rfl, rfl⟩ hs (s79 (cS_tx hx) (by omega)), B75_48 ⟨rfl, rfl⟩ hs (e1 _ _ _), B75_52 hs, d2, if_neg (not_not_intro ((bI_0 _).mpr rfl)), B75_55 hs rfl, if_neg (by decide)]
      rfl
    | true =>
      obtain ⟨v2, -, -⟩ := dg_v d2
      have n2 : nx T N (a + 2) - 48 = nI (ch T N (a + 2) - 48) := by rw [nx_d (dg_0 d2)]; exact v2
      have h78 := s78 (S := S) (J := J) (c := 10) (I := cS I s (upd (upd h 12 (nI (ch T N (a + 1) - 48))) 13 (nI (ch T N (a + 2) - 48))) F G) (cS_tx hx) (by omega : a + 3 < 2 ^ 31) (by decide) (by decide)
      refine ⟨upd (upd h 12 (nI (ch T N (a + 1) - 48))) 13 (nI (ch T N (a + 2) - 48)), go _ _ ?_, (fun _ => rfl), fun e he => by rw [pk_un (by omega), pk_un (by omega)]⟩
      rw [step1, B75_44 ⟨rfl, rfl⟩ hs (s79 (cS_tx hx) (by omega)), B75_48 ⟨rfl, rfl⟩ hs (e1 _ _ _), B75_52 hs, d2, if_pos (by decide), B75_57 ⟨rfl, rfl⟩ hs (s79 (cS_tx hx) (by omega)), B75_62 hs, n2, cS_7, B75_68 hs, cA_3, nI_1, cA_u, B75_78 ⟨rfl, rfl⟩ hs h78, B75_84 hs (bI_z _), if_pos rfl, Bool.true_and]
theorem s74 {a u hf ht q fc fr : Nat} {Fs : Nat → Nat} {h F G : Nat → Int32} (hs : s < 4) (hx : cTx I T N) (ha : a ≤ N) (hq : q ≤ 4) (hfc : fc ≤ 9) (hc : cSt T N h F G u hf ht q fc fr Fs) :
    ∃ h' F' G' : Nat → Int32, zq S 74 [.ref 4, .ref (7 + 12 * s)] (cA (cS I s h F G) a) J (some (.int (bI (ptB T N q fc a)))) (cA (cS I s h' F' G') (ptA T N q fc a)) J
      ∧ (ptB T N q fc a = true → cSt T N h' F' G' u hf ht (ptQ T N q a) (ptC T N fc a) (ptR T N fr a) (ptF T N q a Fs)) ∧ (∀ e, e < 8 ∨ 13 < e → h' e = h e) := by
  have hN := hx.2.2.1
  have hX := hx.2.2
  obtain ⟨c8, c9, c10, c11, c12, c13, cF, cG⟩ := hc
  have e61 : nx T N a = 61 ↔ ch T N a = 61 := nx_eq (c := 61) hX (by decide) (by decide)
  have hw := wsA_N (T := T) (N := N) 16 a ha
  by_cases h61 : ch T N a = 61
  · have hB : ptB T N q fc a = (decide (fc = 0) && figB T N a) := if_pos h61
    have hA : ptA T N q fc a = if fc = 0 then figA T N a else a := if_pos h61
    have e0 : nI fc = 0 ↔ fc = 0 := nI_eq (b := 0) (by omega) (by decide)
    by_cases h0 : fc = 0
    · obtain ⟨h', hz, hd, hfr⟩ := s75 (S := S) (J := J) (h := h) (F := F) (G := G) hs hx ha
      refine ⟨h', F, G, zq_of rfl ?_, ?_, hfr⟩
      · show zd S 74 0 [some (.ref 4), some (.ref (7 + 12 * s))] [] _ J (0, 0) = _
        rw [B74_0 ⟨rfl, rfl⟩ hs (s79 (cS_tx hx) (by omega)), B74_4 hs, if_neg (not_not_intro (e61.mpr h61)), B74_9 hs, cS_r, c12, if_neg (not_not_intro (e0.mpr h0)), B74_16 ⟨rfl, rfl⟩ hs hz, B74_21 hs, hB, hA, if_pos h0, decide_eq_true h0, Bool.true_and]
        cases figB T N a with
        | false => rw [if_pos ((bI_0 _).mpr rfl), B74_28 hs rfl]; rfl
        | true => rw [if_neg (by decide), B74_24 hs rfl]; rfl
      · intro hb
        rw [hB, Bool.and_eq_true] at hb
        rw [hd hb.2]
        unfold ptQ ptC ptR ptF
        rw [if_pos h61, if_pos h61, if_pos h61]
        refine ⟨?_, ?_, ?_, ?_, ?_, ?_, ?_, ?_⟩
        · rw [pk_un (by decide), pk_un (by decide)]; exact c8
        · rw [pk_un (by decide), pk_un (by decide)]; exact c9
        · rw [pk_un (by decide), pk_un (by decide)]; exact c10
        · rw [pk_un (by decide), pk_un (by decide)]; exact c11
        · rw [pk_un (by decide), pk_us]
        · rw [pk_us]
        · intro x hxq
          dsimp only
          rw [if_pos h61]
          exact cF x hxq
        · intro x hxq
          dsimp only
          rw [if_pos h61]
          exact cG x hxq
    · refine ⟨h, F, G, zq_of rfl ?_, (fun hb => by rw [hB, decide_eq_false h0] at hb; cases hb), fun _ _ => rfl⟩
      show zd S 74 0 [some (.ref 4), some (.ref (7 + 12 * s))] [] _ J (0, 0) = _
      rw [B74_0 ⟨rfl, rfl⟩ hs (s79 (cS_tx hx) (by omega)), B74_4 hs, if_neg (not_not_intro (e61.mpr h61)), B74_9 hs, cS_r, c12, if_pos (fun z => h0 (e0.mp z)), B74_28 hs rfl, hB, hA, if_neg h0, decide_eq_false h0]
      rfl
  · have hB : ptB T N q fc a = (decide (q < 4) && wdK T N 16 a) := if_neg h61
    have hA : ptA T N q fc a = if q < 4 then (if wdK T N 16 a = true then wsA T N 16 a + 1 else wsA T N 16 a) else a := if_neg h61
    have e4 : nI q < 4 ↔ q < 4 := nI_ltI (b := 4) (by omega) (by decide)
    by_cases h4 : q < 4
    · have hz : zin (nI q) 4 = true := zin_n h4 (by decide)
      have hcl : (nI q).toNatClampNeg = q := nI_clamp (by omega)
      have h76 := s76 (S := S) (J := J) (M := 16) (I := cS I s h (upd F q (nI a)) G) (by decide) (cS_tx hx) ha
      have start : zd S 74 0 [some (.ref 4), some (.ref (7 + 12 * s))] [] (cA (cS I s h F G) a) J (0, 0) = zd S 74 59 [some (.ref 4), some (.ref (7 + 12 * s))] [.int (bI (wsB T N 16 a))] (cA (cS I s h (upd F q (nI a)) G) (wsA T N 16 a)) J (0, 0) := by
        rw [B74_0 ⟨rfl, rfl⟩ hs (s79 (cS_tx hx) (by omega)), B74_4 hs, if_pos (fun z => h61 (e61.mp z)), B74_30 hs, cS_r, c11, if_pos (e4.mpr h4), B74_40 hs (by rw [cS_r, c11]; exact hz), cS_r, c11, hcl, cA_3, cS_8, B74_53 ⟨rfl, rfl⟩ hs h76]
      rw [hB, hA, if_pos h4, decide_eq_true h4, Bool.true_and]
      cases hw1 : wsB T N 16 a with
      | false =>
        have hk : wdK T N 16 a = false := by unfold wdK; rw [hw1]; rfl
        refine ⟨h, upd F q (nI a), G, zq_of rfl ?_, (fun hb => by rw [hk] at hb; cases hb), fun _ _ => rfl⟩
        show zd S 74 0 [some (.ref 4), some (.ref (7 + 12 * s))] [] _ J (0, 0) = _
        rw [start, B74_59 hs, hw1, if_neg (not_not_intro ((bI_0 _).mpr rfl)), B74_62 hs rfl, hk, if_neg (by decide)]
        rfl
      | true =>
        have hk : wdK T N 16 a = decide (ch T N (wsA T N 16 a) = 10) := by unfold wdK; rw [hw1]; rfl
        have h78 := s78 (S := S) (J := J) (c := 10) (I := cS I s (upd h 11 (nI (q + 1))) (upd F q (nI a)) (upd G q (nI (wsA T N 16 a)))) (cS_tx hx) (by omega : wsA T N 16 a < 2 ^ 31) (by decide) (by decide)
        refine ⟨upd h 11 (nI (q + 1)), upd F q (nI a), upd G q (nI (wsA T N 16 a)), zq_of rfl ?_, ?_, fun e he => pk_un (by omega)⟩
        · show zd S 74 0 [some (.ref 4), some (.ref (7 + 12 * s))] [] _ J (0, 0) = _
          rw [start, B74_59 hs, hw1, if_pos (by decide), B74_64 hs (by rw [cS_r, c11]; exact hz), cS_r, c11, hcl, cA_3, cS_9, B74_77 hs, cS_r, c11, nI_1, cS_7, B74_87 ⟨rfl, rfl⟩ hs h78, B74_93 hs (bI_z _), hk]
          by_cases h10 : ch T N (wsA T N 16 a) = 10
          · rw [decide_eq_true h10, if_pos h10, if_pos rfl]
          · rw [decide_eq_false h10, if_neg h10, if_neg (by decide)]
        · intro _
          unfold ptQ ptC ptR ptF
          rw [if_neg h61, if_neg h61, if_neg h61]
          refine ⟨?_, ?_, ?_, ?_, ?_, ?_, ?_, ?_⟩
          · rw [pk_un (by decide)]; exact c8
          · rw [pk_un (by decide)]; exact c9
          · rw [pk_un (by decide)]; exact c10
          · rw [pk_us]
          · rw [pk_un (by decide)]; exact c12
          · rw [pk_un (by decide)]; exact c13
          · intro x hxq
            dsimp only
            rw [if_neg h61]
            unfold upd
            by_cases hxx : x = q
            · rw [if_pos hxx, if_pos hxx]
            · rw [if_neg hxx, if_neg hxx]
              exact cF x (by omega)
          · intro x hxq
            dsimp only
            rw [if_neg h61]
            unfold upd
            by_cases hxx : x = q
            · rw [if_pos hxx, if_pos hxx]
            · rw [if_neg hxx, if_neg hxx]
              exact cG x (by omega)
    · refine ⟨h, F, G, zq_of rfl ?_, (fun hb => by rw [hB, decide_eq_false h4] at hb; cases hb), fun _ _ => rfl⟩
      show zd S 74 0 [some (.ref 4), some (.ref (7 + 12 * s))] [] _ J (0, 0) = _
      rw [B74_0 ⟨rfl, rfl⟩ hs (s79 (cS_tx hx) (by omega)), B74_4 hs, if_pos (fun z => h61 (e61.mp z)), B74_30 hs, cS_r, c11, if_neg (fun z => h4 (e4.mp z)), B74_38 hs rfl, hB, hA, if_neg h4, decide_eq_false h4]
      rfl
end CPART
