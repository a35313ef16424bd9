/-! reading: rows of words (the other side) -/
/-- letter i of the words from a on -/
def wsC (T : Nat → Nat) (N : Nat) : Nat → Nat → Nat → Nat
  | 0, _, _ => 0
  | m + 1, a, i => if i < rn T N a 12 then ch T N (a + i) else wsC T N m (a + rn T N a 12 + 1) (i - rn T N a 12)
/-- words and the line's end behind them -/
def wdK (T : Nat → Nat) (N m a : Nat) : Bool := wsB T N m a && decide (ch T N (wsA T N m a) = 10)
def wdsW (T : Nat → Nat) (N m a : Nat) : Int32 := if wdK T N m a = true then -1 else nI (wsA T N m a)
def wF (P w n : Nat) (f g p q f' g' p' q' : Nat → Int32) : Prop := (∀ x, x < 192 * P + n ∨ 192 * P + 192 ≤ x → f' x = f x) ∧ (∀ x, x < 16 * P + w ∨ 16 * P + 16 ≤ x → g' x = g x) ∧ (∀ x, x ≠ P → p' x = p x) ∧ (∀ x, x ≠ P → q' x = q x)
def wD (T : Nat → Nat) (N P w n m a a' : Nat) (f' g' p' q' : Nat → Int32) : Prop := a' = wsA T N m a + 1 ∧ p' P = nI (w + (wsL T N m a).length) ∧ q' P = nI (n + (wsL T N m a).sum) ∧ (∀ j, j < (wsL T N m a).length → g' (16 * P + w + j) = nI (n + ((wsL T N m a).take (j + 1)).sum)) ∧ (∀ i, i < (wsL T N m a).sum → f' (192 * P + n + i) = nI (wsC T N m a i))
theorem wF_r {P w n : Nat} {f g p q : Nat → Int32} : wF P w n f g p q f g p q := ⟨fun _ _ => rfl, fun _ _ => rfl, fun _ _ => rfl, fun _ _ => rfl⟩
theorem rn_pos {T : Nat → Nat} {N a : Nat} : 0 < rn T N a 12 ↔ isN (ch T N a) = true := by
  show 0 < (if isN (ch T N a) = true then rn T N (a + 1) 11 + 1 else 0) ↔ _
  cases isN (ch T N a) with
  | true => rw [if_pos rfl]; exact ⟨fun _ => rfl, fun _ => by omega⟩
  | false => rw [if_neg (by decide)]; exact ⟨fun h => absurd h (by omega), fun h => absurd h (by decide)⟩
section MREAD
variable {S : Nat × (Nat → Int32)} {I : zI} {J : zJ} {k : zK} {T : Nat → Nat} {N : Nat}
theorem g111_f {P M a : Nat} {f g p q : Nat → Int32} (ha : a < 2 ^ 31) (hb : Nat.ble k.1 (mBu 111).1 = true ∧ Nat.ble k.2 (mBu 111).2 = true) :
    zd S 111 47 [some (.ref 76), some (.int (nI P)), some (.int (nI M)), some (.int 1), none] [] (mA I a (-1) f g p q) J k = some (none, mk (mA I a (nI a) f g p q) J, k) := by
  rw [B111_47 hb s108, B111_51, B111_16, mA_w, if_pos (nI_pos' ha), B111_105, mA_w, if_pos (nI_pos' ha), B111_122]
theorem g111_l {P M : Nat} (hM : M ≤ 16) (hx : mTx I T N) (hP : P < 20) (hb : Nat.ble k.1 (mBu 111).1 = true ∧ Nat.ble k.2 (mBu 111).2 = true) : ∀ (m w n a : Nat) (f g p q : Nat → Int32), M = w + m → n ≤ 12 * w → a ≤ N → p P = nI w → q P = nI n →
    ∃ (a' : Nat) (f' g' p' q' : Nat → Int32), zd S 111 16 [some (.ref 76), some (.int (nI P)), some (.int (nI M)), some (.int 1), none] [] (mA I a (-1) f g p q) J k = some (none, mk (mA I a' (wdsW T N m a) f' g' p' q') J, k)
      ∧ wF P w n f g p q f' g' p' q' ∧ (wdK T N m a = true → wD T N P w n m a a' f' g' p' q') ∧ a' < 2 ^ 31 := by
  intro m
  have hN := hx.2.2.1
  have hz : zin (nI P) 20 = true := zin_n hP (by decide)
  have hc : (nI P).toNatClampNeg = P := nI_clamp (by omega)
  induction m with
  | zero =>
    intro w n a f g p q hm hn ha hp hq
    have hw : M = w := by omega
    subst hw
    have hk : wdK T N 0 a = false := rfl
    have hW : wdsW T N 0 a = nI a := if_neg (by rw [hk]; decide)
    refine ⟨a, f, g, p, q, ?_, wF_r, (fun h => by rw [hk] at h; cases h), by omega⟩
    rw [hW, B111_16, mA_w, if_neg (by decide), B111_23, if_neg (by decide), B111_27 hb (s107 hx (by omega)), B111_31 hb (s95x hx.2.2), B111_34]
    cases h : isN (ch T N a) with
    | false => rw [if_pos ((bI_0 _).mpr rfl), g111_f (by omega) hb]
    | true => rw [if_neg (by decide), B111_37 hz, mA_r91, hc, hp, if_neg (not_not_intro rfl), g111_f (by omega) hb]
  | succ m ih =>
    intro w n a f g p q hm hn ha hp hq
    have hr1 := rn_N (T := T) (N := N) 12 a ha
    have hr2 := rn_le (T := T) (N := N) 12 a
    cases h : isN (ch T N a) with
    | false =>
      have h0 : rn T N a 12 = 0 := by
        have := rn_pos (T := T) (N := N) (a := a)
        rw [h] at this
        by_cases hp0 : 0 < rn T N a 12
        · exact absurd (this.mp hp0) (by decide)
        · omega
      have hok : wOk T N a = false := by unfold wOk; rw [h0]; rfl
      have hk : wdK T N (m + 1) a = false := by unfold wdK wsB; rw [hok]; rfl
      have hA : wsA T N (m + 1) a = a := by
        unfold wsA
        have hcc : ¬ (false = true ∧ ch T N (a + rn T N a 12) = 32) := fun z => Bool.false_ne_true z.1
        rw [hok, if_neg hcc, h0]
        rfl
      have hW : wdsW T N (m + 1) a = nI a := by unfold wdsW; rw [hk, if_neg (by decide), hA]
      refine ⟨a, f, g, p, q, ?_, wF_r, (fun h => by rw [hk] at h; cases h), by omega⟩
      rw [hW, B111_16, mA_w, if_neg (by decide), B111_23, if_neg (by decide), B111_27 hb (s107 hx (by omega)), B111_31 hb (s95x hx.2.2), B111_34, h, if_pos ((bI_0 _).mpr rfl), g111_f (by omega) hb]
    | true =>
      have hpos : 0 < rn T N a 12 := rn_pos.mpr h
      have eM : ¬ nI w = nI M := fun z => by have := (nI_eq (by omega) (by omega)).mp z; omega
      have hc2 := ch_lt hx.2.2 (a + rn T N a 12)
      have e32 : nI (ch T N (a + rn T N a 12)) = 32 ↔ ch T N (a + rn T N a 12) = 32 := nI_eq (b := 32) (by omega) (by decide)
      have start : zd S 111 16 [some (.ref 76), some (.int (nI P)), some (.int (nI M)), some (.int 1), none] [] (mA I a (-1) f g p q) J k
          = if ¬ nI (ch T N (a + rn T N a 12)) = 32 then zd S 111 72 [some (.ref 76), some (.int (nI P)), some (.int (nI M)), some (.int 1), none] [] (mA I (a + rn T N a 12) (wdW T N a) (ltA f T N a (192 * P + n) (rn T N a 12)) (upd g (16 * P + w) (nI (n + rn T N a 12))) (upd p P (nI (w + 1))) (upd q P (nI (n + rn T N a 12)))) J k
            else zd S 111 68 [some (.ref 76), some (.int (nI P)), some (.int (nI M)), some (.int 1), none] [] (mA I (a + rn T N a 12) (wdW T N a) (ltA f T N a (192 * P + n) (rn T N a 12)) (upd g (16 * P + w) (nI (n + rn T N a 12))) (upd p P (nI (w + 1))) (upd q P (nI (n + rn T N a 12)))) J k := by
        rw [B111_16, mA_w, if_neg (by decide), B111_23, if_neg (by decide), B111_27 hb (s107 hx (by omega)), B111_31 hb (s95x hx.2.2), B111_34, h, if_neg (by decide), B111_37 hz, mA_r91, hc, hp, if_pos eM, B111_54 hb (s110 hx hP (by omega) (by omega) ha hp hq), B111_59 hb (s107 hx (by omega)), B111_63]
      have hF : wF P w n f g p q (ltA f T N a (192 * P + n) (rn T N a 12)) (upd g (16 * P + w) (nI (n + rn T N a 12))) (upd p P (nI (w + 1))) (upd q P (nI (n + rn T N a 12))) := by
        refine ⟨?_, ?_, ?_, ?_⟩
        · intro x hxx
          unfold ltA
          rw [if_neg (by omega)]
        · intro x hxx
          exact pk_un (by omega)
        · intro x hxx
          exact pk_un hxx
        · intro x hxx
          exact pk_un hxx
      by_cases hs : ch T N (a + rn T N a 12) = 32
      · have hnl : isN (ch T N (a + rn T N a 12)) = false := by rw [hs]; rfl
        have hok : wOk T N a = true := by unfold wOk; rw [decide_eq_true hpos, hnl]; rfl
        have hWd : wdW T N a = -1 := by unfold wdW; rw [hnl, if_neg (by decide)]
        have hin : a + rn T N a 12 < N := ch_in (T := T) (by omega)
        have hB : wsB T N (m + 1) a = wsB T N m (a + rn T N a 12 + 1) := by
          show (wOk T N a && (if ch T N (a + rn T N a 12) = 32 then wsB T N m (a + rn T N a 12 + 1) else true)) = _
          rw [hok, if_pos hs, Bool.true_and]
        have hA : wsA T N (m + 1) a = wsA T N m (a + rn T N a 12 + 1) := if_pos ⟨hok, hs⟩
        have hL : wsL T N (m + 1) a = rn T N a 12 :: wsL T N m (a + rn T N a 12 + 1) := by
          show rn T N a 12 :: (if ch T N (a + rn T N a 12) = 32 then wsL T N m (a + rn T N a 12 + 1) else []) = _
          rw [if_pos hs]
        have hK : wdK T N (m + 1) a = wdK T N m (a + rn T N a 12 + 1) := by unfold wdK; rw [hB, hA]
        have hW : wdsW T N (m + 1) a = wdsW T N m (a + rn T N a 12 + 1) := by unfold wdsW; rw [hK, hA]
        obtain ⟨a', f', g', p', q', hE, ⟨F1, F2, F3, F4⟩, hD, hlt⟩ := ih (w + 1) (n + rn T N a 12) (a + rn T N a 12 + 1) (ltA f T N a (192 * P + n) (rn T N a 12)) (upd g (16 * P + w) (nI (n + rn T N a 12))) (upd p P (nI (w + 1))) (upd q P (nI (n + rn T N a 12))) (by omega) (by omega) (by omega) pk_us pk_us
        refine ⟨a', f', g', p', q', ?_, ?_, ?_, hlt⟩
        · rw [start, if_neg (not_not_intro (e32.mpr hs)), B111_68, if_neg (by decide), B111_79, mA_w, hWd, if_neg (by decide), B111_86, mA_a, nI_1, mA_22, B111_102, hW]
          exact hE
        · obtain ⟨H1, H2, H3, H4⟩ := hF
          refine ⟨?_, ?_, ?_, ?_⟩
          · intro x hxx
            rw [F1 x (by omega), H1 x hxx]
          · intro x hxx
            rw [F2 x (by omega), H2 x hxx]
          · intro x hxx
            rw [F3 x hxx, H3 x hxx]
          · intro x hxx
            rw [F4 x hxx, H4 x hxx]
        · intro hk
          rw [hK] at hk
          obtain ⟨D1, D2, D3, D4, D5⟩ := hD hk
          refine ⟨?_, ?_, ?_, ?_, ?_⟩
          · rw [hA]; exact D1
          · rw [hL, D2, List.length_cons]; congr 1; omega
          · rw [hL, D3, List.sum_cons]; congr 1; omega
          · intro j hj
            rw [hL] at hj ⊢
            rw [List.length_cons] at hj
            rw [List.take_succ_cons, List.sum_cons]
            cases j with
            | zero =>
              rw [F2 _ (by omega), Nat.add_zero, pk_us, List.take_zero]
              rfl
            | succ j =>
              have := D4 j (by omega)
              rw [show 16 * P + w + (j + 1) = 16 * P + (w + 1) + j from by omega, this]
              congr 1
              omega
          · intro i hi
            rw [hL, List.sum_cons] at hi
            show f' (192 * P + n + i) = nI (if i < rn T N a 12 then ch T N (a + i) else wsC T N m (a + rn T N a 12 + 1) (i - rn T N a 12))
            by_cases hlt : i < rn T N a 12
            · rw [if_pos hlt, F1 _ (by omega)]
              unfold ltA
              rw [if_pos (by omega), show 192 * P + n + i - (192 * P + n) = i from by omega]
            · have := D5 (i - rn T N a 12) (by omega)
              rw [if_neg hlt, ← this]
              congr 1
              omega
      · have hL : wsL T N (m + 1) a = [rn T N a 12] := by
          show rn T N a 12 :: (if ch T N (a + rn T N a 12) = 32 then wsL T N m (a + rn T N a 12 + 1) else []) = _
          rw [if_neg hs]
        have hA : wsA T N (m + 1) a = a + rn T N a 12 := if_neg (fun z => hs z.2)
        have hB : wsB T N (m + 1) a = wOk T N a := by
          show (wOk T N a && (if ch T N (a + rn T N a 12) = 32 then wsB T N m (a + rn T N a 12 + 1) else true)) = _
          rw [if_neg hs, Bool.and_true]
        have stepA : zd S 111 16 [some (.ref 76), some (.int (nI P)), some (.int (nI M)), some (.int 1), none] [] (mA I a (-1) f g p q) J k
            = zd S 111 16 [some (.ref 76), some (.int (nI P)), some (.int (nI M)), some (.int 0), none] [] (mA I (a + rn T N a 12) (wdW T N a) (ltA f T N a (192 * P + n) (rn T N a 12)) (upd g (16 * P + w) (nI (n + rn T N a 12))) (upd p P (nI (w + 1))) (upd q P (nI (n + rn T N a 12)))) J k := by
          rw [start, if_pos (fun z => hs (e32.mp z)), B111_72, if_pos rfl, B111_95, mA_a, mA_22, B111_102]
        cases hnl : isN (ch T N (a + rn T N a 12)) with
        | true =>
          have hok : wOk T N a = false := by unfold wOk; rw [hnl]; exact Bool.and_false _
          have hk : wdK T N (m + 1) a = false := by unfold wdK; rw [hB, hok]; rfl
          have hWd : wdW T N a = nI (a + rn T N a 12) := by unfold wdW; rw [hnl, if_pos rfl]
          have hW : wdsW T N (m + 1) a = nI (a + rn T N a 12) := by unfold wdsW; rw [hk, if_neg (by decide), hA]
          refine ⟨a + rn T N a 12, _, _, _, _, ?_, hF, (fun h => by rw [hk] at h; cases h), by omega⟩
          rw [stepA, hWd, hW, B111_16, mA_w, if_pos (nI_pos' (by omega)), B111_105, mA_w, if_pos (nI_pos' (by omega)), B111_122]
        | false =>
          have hok : wOk T N a = true := by unfold wOk; rw [decide_eq_true hpos, hnl]; rfl
          have hWd : wdW T N a = -1 := by unfold wdW; rw [hnl, if_neg (by decide)]
          have hK : wdK T N (m + 1) a = decide (ch T N (a + rn T N a 12) = 10) := by unfold wdK; rw [hB, hok, hA, Bool.true_and]
          have h109 := s109 (S := S) (J := J) (lo := 10) (hi := 10) (f := ltA f T N a (192 * P + n) (rn T N a 12)) (g := upd g (16 * P + w) (nI (n + rn T N a 12))) (p := upd p P (nI (w + 1))) (q := upd q P (nI (n + rn T N a 12))) hx (by omega : a + rn T N a 12 < 2 ^ 31) (by decide) (by decide)
          have hend : zd S 111 16 [some (.ref 76), some (.int (nI P)), some (.int (nI M)), some (.int 1), none] [] (mA I a (-1) f g p q) J k = some (none, mk (if 10 ≤ ch T N (a + rn T N a 12) ∧ ch T N (a + rn T N a 12) ≤ 10 then mA I (a + rn T N a 12 + 1) (-1) (ltA f T N a (192 * P + n) (rn T N a 12)) (upd g (16 * P + w) (nI (n + rn T N a 12))) (upd p P (nI (w + 1))) (upd q P (nI (n + rn T N a 12))) else mA I (a + rn T N a 12) (nI (a + rn T N a 12)) (ltA f T N a (192 * P + n) (rn T N a 12)) (upd g (16 * P + w) (nI (n + rn T N a 12))) (upd p P (nI (w + 1))) (upd q P (nI (n + rn T N a 12)))) J, k) := by
            rw [stepA, hWd, B111_16, mA_w, if_neg (by decide), B111_23, if_pos rfl, B111_105, mA_w, if_neg (by decide), B111_112 hb h109, B111_120]
          by_cases h10 : ch T N (a + rn T N a 12) = 10
          · have hW : wdsW T N (m + 1) a = -1 := by unfold wdsW; rw [hK, decide_eq_true h10, if_pos rfl]
            have hcc : 10 ≤ ch T N (a + rn T N a 12) ∧ ch T N (a + rn T N a 12) ≤ 10 := by omega
            rw [if_pos hcc] at hend
            refine ⟨a + rn T N a 12 + 1, _, _, _, _, by rw [hW]; exact hend, hF, (fun _ => ⟨by rw [hA], ?_, ?_, ?_, ?_⟩), by omega⟩
            · rw [hL, pk_us]; rfl
            · rw [hL, pk_us]; rfl
            · intro j hj
              rw [hL] at hj ⊢
              have hj0 : j = 0 := by rw [List.length_singleton] at hj; omega
              subst hj0
              rw [Nat.add_zero, pk_us]
              rfl
            · intro i hi
              rw [hL, show ([rn T N a 12] : List Nat).sum = rn T N a 12 from by simp] at hi
              show _ = nI (if i < rn T N a 12 then ch T N (a + i) else wsC T N m (a + rn T N a 12 + 1) (i - rn T N a 12))
              rw [if_pos hi]
              unfold ltA
              rw [if_pos (by omega), show 192 * P + n + i - (192 * P + n) = i from by omega]
          · have hk : wdK T N (m + 1) a = false := by rw [hK, decide_eq_false h10]
            have hW : wdsW T N (m + 1) a = nI (a + rn T N a 12) := by unfold wdsW; rw [hk, if_neg (by decide), hA]
            have hcc : ¬ (10 ≤ ch T N (a + rn T N a 12) ∧ ch T N (a + rn T N a 12) ≤ 10) := by omega
            rw [if_neg hcc] at hend
            exact ⟨a + rn T N a 12, _, _, _, _, by rw [hW]; exact hend, hF, (fun h => by rw [hk] at h; cases h), by omega⟩
theorem s111 {P M a : Nat} {f g p q : Nat → Int32} (hM : M ≤ 16) (hx : mTx I T N) (hP : P < 20) (ha : a ≤ N) :
    ∃ (a' : Nat) (f' g' p' q' : Nat → Int32), zq S 111 [.ref 76, .int (nI P), .int (nI M)] (mA I a (-1) f g p q) J none (mA I a' (wdsW T N M a) f' g' p' q') J
      ∧ wF P 0 0 f g p q f' g' p' q' ∧ (wdK T N M a = true → wD T N P 0 0 M a a' f' g' p' q') ∧ a' < 2 ^ 31 := by
  have hz : zin (nI P) 20 = true := zin_n hP (by decide)
  have hc : (nI P).toNatClampNeg = P := nI_clamp (by omega)
  obtain ⟨a', f', g', p', q', hE, ⟨F1, F2, F3, F4⟩, hD, hlt⟩ := g111_l (S := S) (J := J) (k := (0, 0)) hM hx hP ⟨rfl, rfl⟩ M 0 0 a f g (upd p P 0) (upd q P 0) (by omega) (by omega) ha pk_us pk_us
  refine ⟨a', f', g', p', q', zq_of rfl ?_, ⟨F1, F2, fun x hxx => by rw [F3 x hxx, pk_un hxx], fun x hxx => by rw [F4 x hxx, pk_un hxx]⟩, hD, hlt⟩
  show zd S 111 0 [some (.ref 76), some (.int (nI P)), some (.int (nI M)), none, none] [] _ J (0, 0) = _
  rw [B111_0 hz, B111_7 hz, B111_14, hc, mA_91, mA_92]
  exact hE
end MREAD
