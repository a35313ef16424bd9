/-! reading: a whole story (the other side) -/
def sOk (T : Nat → Nat) (N c a : Nat) : Bool := decide (c < 4) && syB T N a
def sW (T : Nat → Nat) (N c a : Nat) : Int32 := if sOk T N c a = true then -1 else nI (if c < 4 then syA T N a else a)
def mDone (T : Nat → Nat) (N : Nat) (f g p q e5 e6 e7 e8 : Nat → Int32) (c a : Nat) : Prop := e5 c = nI (ch T N (a + 1) - 48) ∧ mStx T N f g p q e6 e7 e8 c (syL T N a).2 ∧ parD T N f g p q (16 + c) 4 (a + 2)
def frS (c : Nat) (f g p q e5 e6 e7 e8 f' g' p' q' e5' e6' e7' e8' : Nat → Int32) : Prop := (∀ x, x ≠ c → e5' x = e5 x ∧ e6' x = e6 x ∧ e7' x = e7 x ∧ e8' x = e8 x) ∧ (∀ P, (P < 4 * c ∨ 4 * c + 4 ≤ P) → P ≠ 16 + c → parS f g p q f' g' p' q' P)
section MSTORIES
variable {S : Nat × (Nat → Int32)} {I : zI} {J : zJ} {T : Nat → Nat} {N c : Nat} {f g p q e5 e6 e7 e8 : Nat → Int32}
theorem s114 {a : Nat} (hc : c ≤ 4) (hx : mTx I T N) (h13 : I 76 13 = nI c) (ha : a ≤ N) :
    ∃ (a' : Nat) (y : Int32) (f' g' p' q' e5' e6' e7' e8' : Nat → Int32), zq S 114 [.ref 76] (mA (mR I e5 e6 e7 e8) a (-1) f g p q) J none (mA (mR (u2 I 76 13 y) e5' e6' e7' e8') a' (sW T N c a) f' g' p' q') J
      ∧ frS c f g p q e5 e6 e7 e8 f' g' p' q' e5' e6' e7' e8' ∧ a' < 2 ^ 31 ∧ (sOk T N c a = true → a' = syA T N a ∧ y = nI (c + 1) ∧ mDone T N f' g' p' q' e5' e6' e7' e8' c a) := by
  have hN := hx.2.2.1
  have hX : mTx (mR I e5 e6 e7 e8) T N := mR_tx hx
  have hch := ch_lt hx.2.2 a
  have e35 : nI (ch T N a) = 35 ↔ ch T N a = 35 := nI_eq (b := 35) (by omega) (by decide)
  have frR : frS c f g p q e5 e6 e7 e8 f g p q e5 e6 e7 e8 := ⟨fun _ _ => ⟨rfl, rfl, rfl, rfl⟩, fun _ _ _ => parS_r⟩
  have hid : u2 I 76 13 (nI c) = I := by
    have : upd (I 76) 13 (nI c) = I 76 := by
      funext z
      unfold upd
      by_cases hz : z = 13
      · rw [if_pos hz, hz, h13]
      · rw [if_neg hz]
    show uc I 76 (upd (I 76) 13 (nI c)) = I
    rw [this, uc_id]
  have fail : sOk T N c a = false → sW T N c a = nI a → zd S 114 0 [some (.ref 76), none, none, none] [] (mA (mR I e5 e6 e7 e8) a (-1) f g p q) J (0, 0) = zd S 114 17 [some (.ref 76), none, none, none] [] (mA (mR I e5 e6 e7 e8) a (-1) f g p q) J (0, 0) →
      ∃ (a' : Nat) (y : Int32) (f' g' p' q' e5' e6' e7' e8' : Nat → Int32), zq S 114 [.ref 76] (mA (mR I e5 e6 e7 e8) a (-1) f g p q) J none (mA (mR (u2 I 76 13 y) e5' e6' e7' e8') a' (sW T N c a) f' g' p' q') J
      ∧ frS c f g p q e5 e6 e7 e8 f' g' p' q' e5' e6' e7' e8' ∧ a' < 2 ^ 31 ∧ (sOk T N c a = true → a' = syA T N a ∧ y = nI (c + 1) ∧ mDone T N f' g' p' q' e5' e6' e7' e8' c a) := by
    intro hB hW hgo
    refine ⟨a, nI c, f, g, p, q, e5, e6, e7, e8, zq_of rfl ?_, frR, by omega, fun z => by rw [hB] at z; cases z⟩
    show zd S 114 0 [some (.ref 76), none, none, none] [] _ J (0, 0) = _
    rw [hgo, B114_17 ⟨rfl, rfl⟩ s108, B114_21, hW, hid]
  by_cases c1 : ch T N a = 35
  · by_cases hc4 : c < 4
    · have i0 : a < N := ch_in (T := T) (by omega)
      have hz : zin (nI c) 4 = true := zin_n hc4 (by decide)
      have hcl : (nI c).toNatClampNeg = c := nI_clamp (by omega)
      have n4 : ¬ nI c = 4 := fun z => by have := (nI_eq (b := 4) (by omega) (by decide)).mp z; omega
      have hok : sOk T N c a = syB T N a := by unfold sOk; rw [decide_eq_true hc4, Bool.true_and]
      have t1 := s109 (S := S) (J := J) (lo := 48) (hi := 57) (f := f) (g := g) (p := p) (q := q) hX (by omega : a + 1 < 2 ^ 31) (by decide) (by decide)
      have start : ∀ (b : Nat) (w : Int32), zq S 109 [.ref 76, .int 48, .int 57] (mA (mR I e5 e6 e7 e8) (a + 1) (-1) f g p q) J (some (.int (nI (ch T N (a + 1))))) (mA (mR I e5 e6 e7 e8) b w f g p q) J → zd S 114 0 [some (.ref 76), none, none, none] [] (mA (mR I e5 e6 e7 e8) a (-1) f g p q) J (0, 0) = zd S 114 77 [some (.ref 76), some (.int (nI c)), some (.int (nI (ch T N (a + 1)))), none] [] (mA (mR I (upd e5 c (nI (ch T N (a + 1)) - 48)) (upd e6 c 0) (upd e7 c 0) (upd e8 c 0)) b w f g p q) J (0, 0) := by
        intro b w hq
        rw [B114_0 ⟨rfl, rfl⟩ (s107 hX (by omega)), B114_4, if_neg (not_not_intro (e35.mpr c1)), B114_9, mA_r13, h13, if_pos n4, B114_22, mA_r13, h13, mA_a, nI_1, mA_22, B114_37 ⟨rfl, rfl⟩ hq, B114_45 hz, hcl, mR_85, B114_56 hz, hcl, mR_86, B114_63 hz, hcl, mR_87, B114_70 hz, hcl, mR_88]
      have fr1 : ∀ (v : Int32), ∀ x, x ≠ c → upd e5 c v x = e5 x ∧ upd e6 c 0 x = e6 x ∧ upd e7 c 0 x = e7 x ∧ upd e8 c 0 x = e8 x := fun v x hxx => ⟨pk_un hxx, pk_un hxx, pk_un hxx, pk_un hxx⟩
      cases c2 : dg 0 (ch T N (a + 1)) with
      | false =>
        have hn : ¬ (48 ≤ ch T N (a + 1) ∧ ch T N (a + 1) ≤ 57) := fun z => by
          have : dg 0 (ch T N (a + 1)) = true := by unfold dg; rw [decide_eq_true (by omega : 48 + 0 ≤ ch T N (a + 1)), decide_eq_true z.2]; rfl
          rw [this] at c2
          cases c2
        rw [if_neg hn] at t1
        have hB : syB T N a = false := by unfold syB; rw [c2]; simp
        have hA : syA T N a = a + 1 := by unfold syA; rw [if_pos c1, c2, if_neg (by decide)]
        have hW : sW T N c a = nI (a + 1) := by unfold sW; rw [hok, hB, if_neg (by decide), if_pos hc4, hA]
        have h0 : (0 : Int32) ≤ nI (a + 1) := nI_pos' (by omega)
        refine ⟨a + 1, nI (c + 1), f, g, p, q, upd e5 c (nI (ch T N (a + 1)) - 48), upd e6 c 0, upd e7 c 0, upd e8 c 0, zq_of rfl ?_, ⟨fr1 _, fun _ _ _ => parS_r⟩, by omega, fun z => by rw [hok, hB] at z; cases z⟩
        show zd S 114 0 [some (.ref 76), none, none, none] [] _ J (0, 0) = _
        rw [start _ _ t1, B114_77, mA_w, if_pos h0, B114_93, B114_95, mA_w, if_pos h0, B114_140, mA_r13, h13, nI_1, mA_13, B114_150, hW]
      | true =>
        have hd := c2
        unfold dg at hd
        rw [Bool.and_eq_true, decide_eq_true_eq, decide_eq_true_eq] at hd
        have i1 := dg_in c2
        have hn : 48 ≤ ch T N (a + 1) ∧ ch T N (a + 1) ≤ 57 := by omega
        rw [if_pos hn] at t1
        have v1 : nI (ch T N (a + 1)) - 48 = nI (ch T N (a + 1) - 48) := pk_sub (b := 48) (by omega)
        rw [v1] at start
        obtain ⟨a1, f1, g1, p1, q1, hE1, hF1, hD1, hl1⟩ := s111 (S := S) (J := J) (I := mR I (upd e5 c (nI (ch T N (a + 1) - 48))) (upd e6 c 0) (upd e7 c 0) (upd e8 c 0)) (P := 16 + c) (M := 4) (a := a + 2) (f := f) (g := g) (p := p) (q := q) (by decide) (mR_tx hx) (by omega) (by omega)
        have e16 : 16 + nI c = nI (16 + c) := nI_add 16 c
        have h111 : zq S 111 [.ref 76, .int (16 + nI c), .int 4] (mA (mR I (upd e5 c (nI (ch T N (a + 1) - 48))) (upd e6 c 0) (upd e7 c 0) (upd e8 c 0)) (a + 2) (-1) f g p q) J none (mA (mR I (upd e5 c (nI (ch T N (a + 1) - 48))) (upd e6 c 0) (upd e7 c 0) (upd e8 c 0)) a1 (wdsW T N 4 (a + 2)) f1 g1 p1 q1) J := by
          rw [e16]
          exact hE1
        have step : zd S 114 0 [some (.ref 76), none, none, none] [] (mA (mR I e5 e6 e7 e8) a (-1) f g p q) J (0, 0) = zd S 114 95 [some (.ref 76), some (.int (nI c)), none, some (.int 1)] [] (mA (mR I (upd e5 c (nI (ch T N (a + 1) - 48))) (upd e6 c 0) (upd e7 c 0) (upd e8 c 0)) a1 (wdsW T N 4 (a + 2)) f1 g1 p1 q1) J (0, 0) := by
          rw [start _ _ t1, B114_77, mA_w, if_neg (by decide), B114_84 ⟨rfl, rfl⟩ h111, B114_93]
        cases c3 : wdK T N 4 (a + 2) with
        | false =>
          have hw := wsA_N (T := T) (N := N) 4 (a + 2) (by omega)
          have hB : syB T N a = false := by unfold syB; rw [c3]; simp
          have hA : syA T N a = wsA T N 4 (a + 2) := by unfold syA; rw [if_pos c1, c2, if_pos rfl, c3, if_neg (by decide)]
          have hW : sW T N c a = nI (wsA T N 4 (a + 2)) := by unfold sW; rw [hok, hB, if_neg (by decide), if_pos hc4, hA]
          have hW2 : wdsW T N 4 (a + 2) = nI (wsA T N 4 (a + 2)) := by unfold wdsW; rw [c3, if_neg (by decide)]
          have h0 : (0 : Int32) ≤ nI (wsA T N 4 (a + 2)) := nI_pos' (by omega)
          refine ⟨a1, nI (c + 1), f1, g1, p1, q1, upd e5 c (nI (ch T N (a + 1) - 48)), upd e6 c 0, upd e7 c 0, upd e8 c 0, zq_of rfl ?_, ⟨fr1 _, fun P _ hP => parS_F hF1 hP⟩, hl1, fun z => by rw [hok, hB] at z; cases z⟩
          show zd S 114 0 [some (.ref 76), none, none, none] [] _ J (0, 0) = _
          rw [step, hW2, B114_95, mA_w, if_pos h0, B114_140, mA_r13, h13, nI_1, mA_13, B114_150, hW]
        | true =>
          obtain hd1 := hD1 c3
          have i3 := wdK_in c3
          have ha1 : a1 = wsA T N 4 (a + 2) + 1 := hd1.1
          have hW2 : wdsW T N 4 (a + 2) = -1 := by unfold wdsW; rw [c3, if_pos rfl]
          have hB : syB T N a = (syL T N a).1 := by unfold syB; rw [decide_eq_true c1, c2, c3]; rfl
          have hA : syA T N a = (syL T N a).2.1 := by unfold syA; rw [if_pos c1, c2, if_pos rfl, c3, if_pos rfl]
          have hm0 : mSt T N f1 g1 p1 q1 (upd e6 c 0) (upd e7 c 0) (upd e8 c 0) c 0 0 0 (fun _ => 0) := ⟨pk_us, pk_us, pk_us, fun x hxx => by omega⟩
          obtain ⟨a2, f2, g2, p2, q2, e62, e72, e82, hz2, hf2, hd2, hl2⟩ := s113 (S := S) (J := J) (I := I) (e5 := upd e5 c (nI (ch T N (a + 1) - 48))) (a := a1) hc4 hx (by omega) (by omega) (by omega) hm0
          have hokx : okσ N (syX T N a) := ⟨by show wsA T N 4 (a + 2) + 1 ≤ N; omega, by show 0 ≤ 4; omega, by show 0 ≤ 9; omega⟩
          rw [ha1] at hz2 hd2
          have hz2' : zq S 113 [.ref 76, .int (nI c)] (mA (mR I (upd e5 c (nI (ch T N (a + 1) - 48))) (upd e6 c 0) (upd e7 c 0) (upd e8 c 0)) (wsA T N 4 (a + 2) + 1) (-1) f1 g1 p1 q1) J none (mA (mR I (upd e5 c (nI (ch T N (a + 1) - 48))) e62 e72 e82) a2 (bW (psB T N (syX T N a)) (pst T N (syX T N a)).1) f2 g2 p2 q2) J := hz2
          obtain ⟨a3, l, f3, g3, p3, q3, e63, e73, e83, hE, hF, hL, hD⟩ := g114_l (S := S) (J := J) (k := (0, 0)) (e5 := upd e5 c (nI (ch T N (a + 1) - 48))) hc4 hx ⟨rfl, rfl⟩ N (psB T N (syX T N a)) (pst T N (syX T N a)) a2 1 f2 g2 p2 q2 e62 e72 e82 (ptA_N (by show wsA T N 4 (a + 2) + 1 ≤ N; omega)) hl2 (fun hbt => by
            obtain ⟨o1, o2⟩ := pst_ok hokx hbt
            obtain ⟨d1, d2⟩ := hd2 hbt
            exact ⟨d1, o1, by omega, d2⟩)
          have hfr := frM_t hf2 hF
          have hW : sW T N c a = bW (syL T N a).1 (syL T N a).2.1 := by unfold sW bW; rw [hok, hB, if_pos hc4, hA]
          refine ⟨a3, nI (c + 1), f3, g3, p3, q3, upd e5 c (nI (ch T N (a + 1) - 48)), e63, e73, e83, zq_of rfl ?_, ⟨?_, ?_⟩, hL, ?_⟩
          · show zd S 114 0 [some (.ref 76), none, none, none] [] _ J (0, 0) = _
            rw [step, hW2, ha1, B114_95, mA_w, if_neg (by decide), B114_102, if_neg (by decide), B114_106 ⟨rfl, rfl⟩ hz2']
            refine Eq.trans hE ?_
            rw [B114_140, mA_r13, h13, nI_1, mA_13, B114_150, hW]
            rfl
          · intro x hxx
            obtain ⟨m1, m2, m3⟩ := hfr.1 x hxx
            exact ⟨pk_un hxx, by rw [m1, pk_un hxx], by rw [m2, pk_un hxx], by rw [m3, pk_un hxx]⟩
          · intro P hP hP2
            exact parS_t (parS_F hF1 hP2) (hfr.2 P hP)
          · intro hb
            rw [hok, hB] at hb
            obtain ⟨d1, d2⟩ := hD hb
            refine ⟨by rw [hA]; exact d1, rfl, pk_us, d2, ?_⟩
            exact parD_S (by decide) (parD_D hd1) (hfr.2 (16 + c) (by omega))
    · have hc4' : c = 4 := by omega
      have hB : sOk T N c a = false := by unfold sOk; rw [decide_eq_false hc4]; rfl
      have e4 : nI c = 4 := by rw [hc4']; rfl
      refine fail hB ?_ ?_
      · unfold sW; rw [hB, if_neg (by decide), if_neg hc4]
      · rw [B114_0 ⟨rfl, rfl⟩ (s107 hX (by omega)), B114_4, if_neg (not_not_intro (e35.mpr c1)), B114_9, mA_r13, h13, if_neg (not_not_intro e4)]
  · have hB : syB T N a = false := by unfold syB; rw [decide_eq_false c1]; rfl
    have hA : syA T N a = a := by unfold syA; rw [if_neg c1]
    have hok : sOk T N c a = false := by unfold sOk; rw [hB, Bool.and_false]
    refine fail hok ?_ ?_
    · unfold sW
      rw [hok, if_neg (by decide), hA]
      split <;> rfl
    · rw [B114_0 ⟨rfl, rfl⟩ (s107 hX (by omega)), B114_4, if_pos (fun z => c1 (e35.mp z))]
end MSTORIES
