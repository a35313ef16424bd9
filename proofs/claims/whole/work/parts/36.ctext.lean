/-! reading: the whole text (the one side) -/
def rdl (T : Nat → Nat) (N : Nat) : Nat → Bool → Nat → Nat → (Nat → Nat) → Bool × Nat × Nat × (Nat → Nat)
  | 0, b, c, a, E => (b, c, a, E)
  | m + 1, b, c, a, E => if b = true ∧ a < N then (if c < 4 then rdl T N m (syB T N a) (c + 1) (syA T N a) (fun t => if t = c then a else E t) else (false, c + 1, a, E)) else (b, c, a, E)
/-- what reading finds: right or not, how many stories, where it stopped, where the stories stand -/
def rdR (T : Nat → Nat) (N : Nat) : Bool × Nat × Nat × (Nat → Nat) := rdl T N 5 (decide (0 < N)) 0 0 (fun _ => 0)
def cDn (T : Nat → Nat) (N : Nat) (I : zI) (t a : Nat) : Prop := okσ N (syL T N a).2 ∧ syB T N a = true ∧ cDone T N (I (7 + 12 * t)) (I (8 + 12 * t)) (I (9 + 12 * t)) a
def frC (I I' : zI) : Prop := (∀ c, c < 4 ∨ c = 5 ∨ c = 6 ∨ 55 ≤ c → I' c = I c) ∧ (∀ t, t < 4 → ∀ e, e < 8 ∨ 13 < e → I' (7 + 12 * t) e = I (7 + 12 * t) e) ∧ (∀ f, f ≠ 3 → f ≠ 4 → I' 4 f = I 4 f)
theorem frC_r (I : zI) : frC I I := ⟨fun _ _ => rfl, fun _ _ _ _ => rfl, fun _ _ _ => rfl⟩
theorem frC_t {I I' I2 : zI} (h1 : frC I I') (h2 : frC I' I2) : frC I I2 := ⟨fun c hc => (h2.1 c hc).trans (h1.1 c hc), fun t ht e he => (h2.2.1 t ht e he).trans (h1.2.1 t ht e he), fun f h3 h4 => (h2.2.2 f h3 h4).trans (h1.2.2 f h3 h4)⟩
theorem cA_4 (I : zI) (a : Nat) (x : Int32) : u2 (cA I a) 4 4 x = cA (u2 I 4 4 x) a := by
  show u2 (uc I 4 (upd (I 4) 3 (nI a))) 4 4 x = u2 (uc I 4 (upd (I 4) 4 x)) 4 3 (nI a)
  rw [u2uc, u2uc, upd_comm _ _ _ (by decide)]
theorem cS_id (I : zI) (s : Nat) : cS I s (I (7 + 12 * s)) (I (8 + 12 * s)) (I (9 + 12 * s)) = I := by
  unfold cS
  rw [uc_id, uc_id, uc_id]
theorem st4 {s : Nat} (hs : s < 4) : ([7, 19, 31, 43] : List Nat)[s]? = some (7 + 12 * s) := lt4 (P := fun s => ([7, 19, 31, 43] : List Nat)[s]? = some (7 + 12 * s)) rfl rfl rfl rfl hs
theorem dg_in {T : Nat → Nat} {N l a : Nat} (h : dg l (ch T N a) = true) : a < N := by
  unfold dg at h
  rw [Bool.and_eq_true, decide_eq_true_eq] at h
  exact ch_in (T := T) (by omega)
theorem wdK_in {T : Nat → Nat} {N m a : Nat} (h : wdK T N m a = true) : wsA T N m a < N := by
  unfold wdK at h
  rw [Bool.and_eq_true, decide_eq_true_eq] at h
  exact ch_in (T := T) (by omega)
theorem ptA_N {T : Nat → Nat} {N q fc a : Nat} (h : a ≤ N) : ptA T N q fc a ≤ N := by
  have hw := wsA_N (T := T) (N := N) 16 a h
  unfold ptA figA
  by_cases h61 : ch T N a = 61
  · have i0 : a < N := ch_in (T := T) (by omega)
    rw [if_pos h61]
    by_cases h0 : fc = 0
    · rw [if_pos h0]
      by_cases d1 : dg 1 (ch T N (a + 1)) = true
      · have i1 := dg_in d1
        rw [if_pos d1]
        by_cases d2 : dg 1 (ch T N (a + 2)) = true
        · have i2 := dg_in d2
          rw [if_pos d2]
          by_cases d3 : ch T N (a + 3) = 10
          · have i3 : a + 3 < N := ch_in (T := T) (by omega)
            rw [if_pos d3]
            omega
          · rw [if_neg d3]
            omega
        · rw [if_neg d2]
          omega
      · rw [if_neg d1]
        omega
    · rw [if_neg h0]
      exact h
  · rw [if_neg h61]
    by_cases h4 : q < 4
    · rw [if_pos h4]
      by_cases hk : wdK T N 16 a = true
      · have := wdK_in hk
        rw [if_pos hk]
        omega
      · rw [if_neg hk]
        omega
    · rw [if_neg h4]
      exact h
theorem lp_N {T : Nat → Nat} {N : Nat} : ∀ (m : Nat) (b : Bool) (x : Nat × Nat × Nat × Nat × (Nat → Nat)), x.1 ≤ N → (lp T N m b x).2.1 ≤ N
  | 0, _, _, h => h
  | m + 1, b, x, h => by
    unfold lp
    split
    · exact lp_N m _ _ (ptA_N h)
    · exact h
theorem syA_N {T : Nat → Nat} {N a : Nat} (h : a ≤ N) : syA T N a ≤ N := by
  unfold syA
  by_cases c1 : ch T N a = 35
  · have i0 : a < N := ch_in (T := T) (by omega)
    rw [if_pos c1]
    by_cases c2 : dg 0 (ch T N (a + 1)) = true
    · have i1 := dg_in c2
      have hw := wsA_N (T := T) (N := N) 4 (a + 2) (by omega)
      rw [if_pos c2]
      by_cases c3 : wdK T N 4 (a + 2) = true
      · have i3 := wdK_in c3
        rw [if_pos c3]
        exact lp_N N _ _ (ptA_N (by show wsA T N 4 (a + 2) + 1 ≤ N; omega))
      · rw [if_neg c3]
        omega
    · rw [if_neg c2]
      omega
  · rw [if_neg c1]
    exact h
section CTEXT
variable {S : Nat × (Nat → Int32)} {J : zJ} {k : zK} {T : Nat → Nat} {N : Nat}
theorem g72_l (hb : Nat.ble k.1 (mBu 72).1 = true ∧ Nat.ble k.2 (mBu 72).2 = true) : ∀ (m : Nat) (b : Bool) (c a : Nat) (E : Nat → Nat) (I : zI), cTx I T N → I 4 4 = nI c → c + m = 5 → a < 2 ^ 31 → (b = true → c ≤ 4 ∧ a ≤ N ∧ ∀ t, t < c → cDn T N I t (E t)) →
    ∃ (I' : zI) (i : Nat), zd S 72 56 [some (.ref 4), none, none, some (.int (bI b)), some (.int (nI c))] [] (cA I a) J k = zd S 72 123 [some (.ref 4), none, none, some (.int (bI (rdl T N m b c a E).1)), some (.int (nI i))] [] (cA I' (rdl T N m b c a E).2.2.1) J k
      ∧ cTx I' T N ∧ frC I I' ∧ I' 4 4 = nI (rdl T N m b c a E).2.1 ∧ ((rdl T N m b c a E).1 = true → (rdl T N m b c a E).2.1 ≤ 4 ∧ ∀ t, t < (rdl T N m b c a E).2.1 → cDn T N I' t ((rdl T N m b c a E).2.2.2 t)) := by
  intro m
  induction m with
  | zero =>
    intro b c a E I hx h4 hc ha hpre
    have hc5 : c = 5 := by omega
    subst hc5
    refine ⟨I, 5, ?_, hx, frC_r I, h4, ?_⟩
    · have h5 : (4 : Int32) < nI 5 := nI_lt (a := 4) (by decide) (by decide)
      rw [B72_56, if_pos h5]
      rfl
    · intro hb1
      have := (hpre hb1).1
      omega
  | succ m ih =>
    intro b c a E I hx h4 hc ha hpre
    have hN := hx.2.2.1
    have h5 : ¬ (4 : Int32) < nI c := nI_nlt (a := 4) (b := c) (by omega) (by decide)
    have h2 : (cA I a) 4 2 = nI N := (cA_f _ _ _ rfl).trans hx.1
    have h44 : (cA I a) 4 4 = nI c := (cA_f _ _ _ rfl).trans h4
    cases b with
    | false =>
      have hl : rdl T N (m + 1) false c a E = (false, c, a, E) := if_neg (fun z => Bool.false_ne_true z.1)
      refine ⟨I, c, ?_, hx, frC_r I, ?_, ?_⟩
      · rw [hl, B72_56, if_neg h5, B72_62, if_pos ((bI_0 _).mpr rfl)]
      · rw [hl]; exact h4
      · intro hb1
        rw [hl] at hb1
        cases hb1
    | true =>
      obtain ⟨hc4, haN, hdn⟩ := hpre rfl
      by_cases hl : a < N
      · have hlt : ¬ nI N ≤ nI a := nI_ge hl (by omega)
        by_cases hcc : c < 4
        · have hr : rdl T N (m + 1) true c a E = rdl T N m (syB T N a) (c + 1) (syA T N a) (fun t => if t = c then a else E t) := by
            show (if true = true ∧ a < N then (if c < 4 then rdl T N m (syB T N a) (c + 1) (syA T N a) (fun t => if t = c then a else E t) else (false, c + 1, a, E)) else (true, c, a, E)) = _
            rw [if_pos ⟨rfl, hl⟩, if_pos hcc]
          obtain ⟨h', F', G', hz, hd, hfr⟩ := s73 (S := S) (J := J) (I := I) (a := a) (h := I (7 + 12 * c)) (F := I (8 + 12 * c)) (G := I (9 + 12 * c)) hcc hx (by omega)
          rw [cS_id] at hz
          have hx2 : cTx (u2 (cS I c h' F' G') 4 4 (nI (c + 1))) T N := by
            obtain ⟨y1, y2, y3⟩ := cS_tx (s := c) (h := h') (F := F') (G := G') hx
            refine ⟨?_, ?_, y3⟩
            · rw [u2f rfl]; exact y1
            · rw [u2n rfl]; exact y2
          have hcell : ∀ x, x ≠ 4 → (u2 (cS I c h' F' G') 4 4 (nI (c + 1))) x = cS I c h' F' G' x := fun x hxx => u2n (nbeq hxx)
          have h7 : cS I c h' F' G' (7 + 12 * c) = h' := by unfold cS; rw [ucn (nbeq (by omega)), ucn (nbeq (by omega)), uc_s]
          have h8 : cS I c h' F' G' (8 + 12 * c) = F' := by unfold cS; rw [ucn (nbeq (by omega)), uc_s]
          have h9 : cS I c h' F' G' (9 + 12 * c) = G' := by unfold cS; rw [uc_s]
          have hAlt : syA T N a < 2 ^ 31 := by
            have := syA_N (T := T) (N := N) (a := a) haN
            omega
          have hfrI : frC I (u2 (cS I c h' F' G') 4 4 (nI (c + 1))) := by
            refine ⟨?_, ?_, ?_⟩
            · intro x hxx
              rw [hcell x (by omega), cS_n x (by omega) (by omega) (by omega)]
            · intro t ht e he
              rw [hcell _ (by omega)]
              by_cases htc : t = c
              · subst htc
                rw [h7]
                exact hfr e he
              · rw [cS_n _ (by omega) (by omega) (by omega)]
            · intro f h3 h4'
              rw [u2ne h4', cS_n 4 (by omega) (by omega) (by omega)]
          obtain ⟨I', i, hE, hx', hf', h4', hD'⟩ := ih (syB T N a) (c + 1) (syA T N a) (fun t => if t = c then a else E t) (u2 (cS I c h' F' G') 4 4 (nI (c + 1))) hx2 u2s (by omega) hAlt (by
            intro hbt
            obtain ⟨o1, o2⟩ := hd hbt
            obtain ⟨q1, q2, q3, q4, q5, q6, q7, q8⟩ := syA_ok hbt
            refine ⟨by omega, by rw [q6]; exact o1.1, ?_⟩
            intro t ht
            show cDn T N _ t (if t = c then a else E t)
            unfold cDn
            by_cases htc : t = c
            · subst htc
              rw [if_pos rfl, hcell _ (by omega), hcell _ (by omega), hcell _ (by omega), h7, h8, h9]
              exact ⟨o1, hbt, o2⟩
            · rw [if_neg htc, hcell _ (by omega), hcell _ (by omega), hcell _ (by omega), cS_n _ (by omega) (by omega) (by omega), cS_n _ (by omega) (by omega) (by omega), cS_n _ (by omega) (by omega) (by omega)]
              exact hdn t (by omega))
          have hz' : zq S 73 [.ref 4, .ref (7 + 12 * c)] (cA I a) J (some (.int (bI (syB T N a)))) (cA (cS I c h' F' G') (syA T N a)) J := hz
          have h44' : (cA (cS I c h' F' G') (syA T N a)) 4 4 = nI c := by
            rw [cA_f _ _ _ rfl, cS_n 4 (by omega) (by omega) (by omega)]
            exact h4
          refine ⟨I', i, ?_, hx', frC_t hfrI hf', ?_, ?_⟩
          · have h40 : ¬ (4 : Int32) ≤ nI c := nI_ge (b := 4) hcc (by decide)
            rw [hr, ← hE, B72_56, if_neg h5, B72_62, if_neg (by decide), B72_66, h2, cA_3, if_neg hlt, B72_77, h44, if_neg h40, B72_85 hb hcc (by rw [h44]; exact zin_n hcc (by decide)) (by rw [h44, nI_clamp (by omega)]; exact st4 hcc) hz', B72_98]
            cases syB T N a with
            | false => rw [if_pos ((bI_0 _).mpr rfl), B72_105, h44', nI_1, cA_4, B72_117, nI_1]; rfl
            | true => rw [if_neg (by decide), B72_101, h44', nI_1, cA_4, B72_117, nI_1]; rfl
          · rw [hr]; exact h4'
          · rw [hr]; exact hD'
        · have hr : rdl T N (m + 1) true c a E = (false, c + 1, a, E) := by
            show (if true = true ∧ a < N then (if c < 4 then rdl T N m (syB T N a) (c + 1) (syA T N a) (fun t => if t = c then a else E t) else (false, c + 1, a, E)) else (true, c, a, E)) = _
            rw [if_pos ⟨rfl, hl⟩, if_neg hcc]
          have hc44 : c = 4 := by omega
          refine ⟨u2 I 4 4 (nI (c + 1)), c + 1, ?_, ?_, ?_, ?_, ?_⟩
          · have h6 : (4 : Int32) < nI (c + 1) := nI_lt (a := 4) (by omega) (by omega)
            have h40 : (4 : Int32) ≤ nI c := nI_le (a := 4) (by omega) (by omega)
            rw [hr, B72_56, if_neg h5, B72_62, if_neg (by decide), B72_66, h2, cA_3, if_neg hlt, B72_77, h44, if_pos h40, B72_105, h44, nI_1, cA_4, B72_117, nI_1, B72_56, if_pos h6]
            rfl
          · refine ⟨?_, ?_, hx.2.2⟩
            · rw [u2f rfl]; exact hx.1
            · rw [u2n rfl]; exact hx.2.1
          · refine ⟨?_, ?_, ?_⟩
            · intro x hxx
              rw [u2n (nbeq (by omega))]
            · intro t ht e he
              rw [u2n (nbeq (by omega))]
            · intro f h3 h4'
              rw [u2ne h4']
          · rw [hr, u2s]
          · intro hb1
            rw [hr] at hb1
            cases hb1
      · have hr : rdl T N (m + 1) true c a E = (true, c, a, E) := if_neg (fun z => hl z.2)
        refine ⟨I, c, ?_, hx, frC_r I, ?_, ?_⟩
        · rw [hr, B72_56, if_neg h5, B72_62, if_neg (by decide), B72_66, h2, cA_3, if_pos (nI_le (by omega) ha)]
        · rw [hr]; exact h4
        · intro _
          rw [hr]
          exact ⟨hc4, hdn⟩
end CTEXT
