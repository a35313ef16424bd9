/-! read, the call of the other side -/
theorem lp_ok {T : Nat → Nat} {N : Nat} : ∀ (m : Nat) (b : Bool) (x : Nat × Nat × Nat × Nat × (Nat → Nat)), (b = true → okσ N x) → (lp T N m b x).1 = true → okσ N (lp T N m b x).2
  | 0, _, _, h, hb => h hb
  | m + 1, b, x, h, hb => by
    unfold lp at hb ⊢
    by_cases hc : b = true ∧ x.1 < N ∧ ch T N x.1 ≠ 35
    · rw [if_pos hc] at hb ⊢
      exact lp_ok m _ _ (fun hp => (pst_ok (h hc.1) hp).1) hb
    · rw [if_neg hc] at hb ⊢
      exact h hb
theorem syL_ok {T : Nat → Nat} {N a : Nat} (h : syB T N a = true) : okσ N (syL T N a).2 := by
  obtain ⟨q1, q2, q3, q4, q5, q6, q7, q8⟩ := syA_ok h
  have hokx : okσ N (syX T N a) := ⟨by show wsA T N 4 (a + 2) + 1 ≤ N; omega, by show 0 ≤ 4; omega, by show 0 ≤ 9; omega⟩
  exact lp_ok N _ _ (fun hp => (pst_ok hokx hp).1) q4
theorem mDone_k {T : Nat → Nat} {N t c a : Nat} {f g p q e5 e6 e7 e8 f' g' p' q' e5' e6' e7' e8' : Nat → Int32} (ht : t < c) (hc : c < 4) (hs : syB T N a = true) (hf : frS c f g p q e5 e6 e7 e8 f' g' p' q' e5' e6' e7' e8') (h : mDone T N f g p q e5 e6 e7 e8 t a) : mDone T N f' g' p' q' e5' e6' e7' e8' t a := by
  obtain ⟨d1, ⟨d2, d3, d4, d5⟩, d6⟩ := h
  obtain ⟨m5, m6, m7, m8⟩ := hf.1 t (by omega)
  have hq := (syL_ok hs).2.1
  refine ⟨m5.trans d1, ⟨m6.trans d2, m7.trans d3, m8.trans d4, fun x hx => ?_⟩, ?_⟩
  · exact parD_S (by decide) (d5 x hx) (hf.2 (4 * t + x) (by omega) (by omega))
  · exact parD_S (by decide) d6 (hf.2 (16 + t) (by omega) (by omega))
theorem mA_self {I : zI} {a : Nat} {w : Int32} (h1 : I 76 22 = nI a) (h2 : I 76 23 = w) : mA (mR I (I 85) (I 86) (I 87) (I 88)) a w (I 89) (I 90) (I 91) (I 92) = I := by
  have h : mR I (I 85) (I 86) (I 87) (I 88) = I := by
    unfold mR
    rw [uc_id, uc_id, uc_id, uc_id]
  have h3 : upd (upd (I 76) 22 (nI a)) 23 w = I 76 := by
    funext z
    unfold upd
    by_cases h23 : z = 23
    · rw [if_pos h23, h23, h2]
    · rw [if_neg h23]
      by_cases h22 : z = 22
      · rw [if_pos h22, h22, h1]
      · rw [if_neg h22]
  rw [h]
  unfold mA
  rw [h3, uc_id, uc_id, uc_id, uc_id, uc_id]
section MREADS
variable {S : Nat × (Nat → Int32)} {J : zJ} {k : zK} {T : Nat → Nat} {N : Nat}
theorem g115_a {I : zI} : ∀ (m i : Nat), 192 = i + m → zd S 115 2 [some (.ref 76), some (.int (nI i))] [] (uc I 105 (filA (I 105) 0 i)) J k = zd S 115 24 [some (.ref 76), some (.int (nI 0))] [] (uc I 105 (filA (I 105) 0 192)) J k := by
  intro m
  induction m with
  | zero =>
    intro i hm
    have hi : i = 192 := by omega
    subst hi
    have h1 : (192 : Int32) ≤ nI 192 := nI_le (a := 192) (Nat.le_refl _) (by decide)
    rw [B115_2, if_pos h1, B115_22]
    rfl
  | succ m ih =>
    intro i hm
    have h1 : ¬ (192 : Int32) ≤ nI i := nI_ge (b := 192) (by omega) (by decide)
    rw [B115_2, if_neg h1, B115_9 (zin_n (by omega) (by decide)), B115_16, nI_1, nI_clamp (by omega), u2uc, filA_s]
    exact ih (i + 1) (by omega)
theorem g115_b {I : zI} : ∀ (m i : Nat), 8 = i + m → zd S 115 24 [some (.ref 76), some (.int (nI i))] [] (uc I 103 (filA (I 103) 0 i)) J k = some (none, mk (uc I 103 (filA (I 103) 0 8)) J, k) := by
  intro m
  induction m with
  | zero =>
    intro i hm
    have hi : i = 8 := by omega
    subst hi
    have h1 : (8 : Int32) ≤ nI 8 := nI_le (a := 8) (Nat.le_refl _) (by decide)
    rw [B115_24, if_pos h1, B115_43]
  | succ m ih =>
    intro i hm
    have h1 : ¬ (8 : Int32) ≤ nI i := nI_ge (b := 8) (by omega) (by decide)
    have hv : vp_nar .boolean 0 = 0 := rfl
    rw [B115_24, if_neg h1, B115_30 (zin_n (by omega) (by decide)), B115_37, nI_1, nI_clamp (by omega), hv, u2uc, filA_s]
    exact ih (i + 1) (by omega)
theorem s115 {I : zI} : zq S 115 [.ref 76] I J none (uc (uc I 105 (filA (I 105) 0 192)) 103 (filA (I 103) 0 8)) J := by
  refine zq_of rfl ?_
  show zd S 115 0 [some (.ref 76), none] [] I J (0, 0) = _
  have h1 := g115_a (S := S) (J := J) (k := (0, 0)) (I := I) 192 0 (by omega)
  have h2 := g115_b (S := S) (J := J) (k := (0, 0)) (I := uc I 105 (filA (I 105) 0 192)) 8 0 (by omega)
  rw [filA_0, uc_id] at h1 h2
  have e : uc I 105 (filA (I 105) 0 192) 103 = I 103 := ucn rfl
  rw [e] at h2
  rw [B115_0]
  exact h1.trans h2
theorem g116_l (hb : Nat.ble k.1 (mBu 116).1 = true ∧ Nat.ble k.2 (mBu 116).2 = true) : ∀ (m : Nat) (b : Bool) (c a : Nat) (E : Nat → Nat) (I : zI) (a' : Nat) (l1 : Int32) (f g p q e5 e6 e7 e8 : Nat → Int32), mTx I T N → c + m = 5 → a ≤ N → a' < 2 ^ 31 → (b = true → a' = a ∧ c ≤ 4 ∧ I 76 13 = nI c ∧ ∀ t, t < c → syB T N (E t) = true ∧ mDone T N f g p q e5 e6 e7 e8 t (E t)) →
    ∃ (y : Int32) (a2 : Nat) (l : Int32) (f' g' p' q' e5' e6' e7' e8' : Nat → Int32), zd S 116 41 [some (.ref 76), some (.int l1)] [] (mA (mR I e5 e6 e7 e8) a' (bW b a) f g p q) J k = zd S 116 61 [some (.ref 76), some (.int l)] [] (mA (mR (u2 I 76 13 y) e5' e6' e7' e8') a2 (bW (rdl T N m b c a E).1 (rdl T N m b c a E).2.2.1) f' g' p' q') J k
      ∧ (rdl T N m b c a E).2.2.1 ≤ N ∧ ((rdl T N m b c a E).1 = true → y = nI (rdl T N m b c a E).2.1 ∧ ∀ t, t < (rdl T N m b c a E).2.1 → mDone T N f' g' p' q' e5' e6' e7' e8' t ((rdl T N m b c a E).2.2.2 t)) := by
  intro m
  have hid : ∀ I : zI, u2 I 76 13 (I 76 13) = I := by
    intro I
    have : upd (I 76) 13 (I 76 13) = I 76 := by
      funext z
      unfold upd
      by_cases hz : z = 13
      · rw [if_pos hz, hz]
      · rw [if_neg hz]
    show uc I 76 (upd (I 76) 13 (I 76 13)) = I
    rw [this, uc_id]
  have stop : ∀ (a : Nat) (I : zI) (a' : Nat) (l1 : Int32) (f g p q e5 e6 e7 e8 : Nat → Int32), mTx I T N → a ≤ N → ∃ l : Int32, zd S 116 41 [some (.ref 76), some (.int l1)] [] (mA (mR I e5 e6 e7 e8) a' (bW false a) f g p q) J k = zd S 116 61 [some (.ref 76), some (.int l)] [] (mA (mR I e5 e6 e7 e8) a' (bW false a) f g p q) J k := by
    intro a I a' l1 f g p q e5 e6 e7 e8 hx ha
    have hN := hx.2.2.1
    have hw : bW false a = nI a := if_neg (by decide)
    have h0 : 0 ≤ bW false a := by rw [hw]; exact nI_pos' (by omega)
    rw [B116_41, mA_r12, hx.1, mA_a]
    by_cases h1 : nI N ≤ nI a'
    · refine ⟨0, ?_⟩
      rw [if_pos h1, B116_56, B116_26, mA_w, if_pos h0]
    · refine ⟨1, ?_⟩
      rw [if_neg h1, B116_52, B116_26, mA_w, if_pos h0]
  induction m with
  | zero =>
    intro b c a E I a' l1 f g p q e5 e6 e7 e8 hx hc ha ha' hpre
    cases b with
    | true => have := (hpre rfl).2.1; omega
    | false =>
      obtain ⟨l, hl⟩ := stop a I a' l1 f g p q e5 e6 e7 e8 hx ha
      refine ⟨I 76 13, a', l, f, g, p, q, e5, e6, e7, e8, ?_, ha, fun h => by cases h⟩
      rw [hid]
      exact hl
  | succ m ih =>
    intro b c a E I a' l1 f g p q e5 e6 e7 e8 hx hc ha ha' hpre
    have hN := hx.2.2.1
    cases b with
    | false =>
      have hr : rdl T N (m + 1) false c a E = (false, c, a, E) := if_neg (fun z => Bool.false_ne_true z.1)
      obtain ⟨l, hl⟩ := stop a I a' l1 f g p q e5 e6 e7 e8 hx ha
      rw [hr]
      refine ⟨I 76 13, a', l, f, g, p, q, e5, e6, e7, e8, ?_, ha, fun h => by cases h⟩
      rw [hid]
      exact hl
    | true =>
      obtain ⟨h1, hc4, h13, hdn⟩ := hpre rfl
      subst h1
      have hw : bW true a' = -1 := if_pos rfl
      by_cases hl : a' < N
      · have hlt : ¬ nI N ≤ nI a' := nI_ge hl (by omega)
        obtain ⟨a1, y1, f1, g1, p1, q1, e51, e61, e71, e81, hz, hfr, hl1, hd⟩ := s114 (S := S) (J := J) (e5 := e5) (e6 := e6) (e7 := e7) (e8 := e8) (f := f) (g := g) (p := p) (q := q) (a := a') hc4 hx h13 ha
        have step : zd S 116 41 [some (.ref 76), some (.int l1)] [] (mA (mR I e5 e6 e7 e8) a' (bW true a') f g p q) J k = zd S 116 41 [some (.ref 76), some (.int 1)] [] (mA (mR (u2 I 76 13 y1) e51 e61 e71 e81) a1 (sW T N c a') f1 g1 p1 q1) J k := by
          rw [hw, B116_41, mA_r12, hx.1, mA_a, if_neg hlt, B116_52, B116_26, mA_w, if_neg (by decide), B116_33, if_neg (by decide), B116_37 hb hz]
        have hx1 : mTx (u2 I 76 13 y1) T N := ⟨by rw [u2f rfl]; exact hx.1, by rw [u2n rfl]; exact hx.2.1, hx.2.2⟩
        by_cases hcc : c < 4
        · have hr : rdl T N (m + 1) true c a' E = rdl T N m (syB T N a') (c + 1) (syA T N a') (fun t => if t = c then a' else E t) := by
            show (if true = true ∧ a' < N then (if c < 4 then rdl T N m (syB T N a') (c + 1) (syA T N a') (fun t => if t = c then a' else E t) else (false, c + 1, a', E)) else (true, c, a', E)) = _
            rw [if_pos ⟨rfl, hl⟩, if_pos hcc]
          have hok : sOk T N c a' = syB T N a' := by unfold sOk; rw [decide_eq_true hcc, Bool.true_and]
          have hsW : sW T N c a' = bW (syB T N a') (syA T N a') := by unfold sW bW; rw [hok, if_pos hcc]
          obtain ⟨y, a2, l, f2, g2, p2, q2, e52, e62, e72, e82, hE, hle, hD⟩ := ih (syB T N a') (c + 1) (syA T N a') (fun t => if t = c then a' else E t) (u2 I 76 13 y1) a1 1 f1 g1 p1 q1 e51 e61 e71 e81 hx1 (by omega) (syA_N ha) hl1 (by
            intro hbt
            obtain ⟨d1, d2, d3⟩ := hd (by rw [hok]; exact hbt)
            refine ⟨d1, by omega, by rw [u2s]; exact d2, ?_⟩
            intro t ht
            show syB T N (if t = c then a' else E t) = true ∧ mDone T N f1 g1 p1 q1 e51 e61 e71 e81 t (if t = c then a' else E t)
            by_cases htc : t = c
            · rw [if_pos htc, htc]
              exact ⟨hbt, d3⟩
            · rw [if_neg htc]
              obtain ⟨z1, z2⟩ := hdn t (by omega)
              exact ⟨z1, mDone_k (by omega) hcc z1 hfr z2⟩)
          rw [hr]
          refine ⟨y, a2, l, f2, g2, p2, q2, e52, e62, e72, e82, ?_, hle, hD⟩
          have hu : ∀ z : Int32, u2 (u2 I 76 13 y1) 76 13 z = u2 I 76 13 z := by
            intro z
            show u2 (uc I 76 (upd (I 76) 13 y1)) 76 13 z = uc I 76 (upd (I 76) 13 z)
            rw [u2uc, upd_upd]
          rw [hu] at hE
          rw [step, hsW]
          exact hE
        · have hr : rdl T N (m + 1) true c a' E = (false, c + 1, a', E) := by
            show (if true = true ∧ a' < N then (if c < 4 then rdl T N m (syB T N a') (c + 1) (syA T N a') (fun t => if t = c then a' else E t) else (false, c + 1, a', E)) else (true, c, a', E)) = _
            rw [if_pos ⟨rfl, hl⟩, if_neg hcc]
          have hok : sOk T N c a' = false := by unfold sOk; rw [decide_eq_false hcc]; rfl
          have hsW : sW T N c a' = bW false a' := by unfold sW bW; rw [hok, if_neg hcc]
          obtain ⟨l, hl2⟩ := stop a' (u2 I 76 13 y1) a1 1 f1 g1 p1 q1 e51 e61 e71 e81 hx1 ha
          rw [hr]
          refine ⟨y1, a1, l, f1, g1, p1, q1, e51, e61, e71, e81, ?_, ha, fun h => by cases h⟩
          rw [step, hsW]
          exact hl2
      · have hr : rdl T N (m + 1) true c a' E = (true, c, a', E) := if_neg (fun z => hl z.2)
        rw [hr]
        refine ⟨I 76 13, a', 0, f, g, p, q, e5, e6, e7, e8, ?_, ha, fun _ => ⟨h13, fun t ht => (hdn t ht).2⟩⟩
        rw [hid, hw, B116_41, mA_r12, hx.1, mA_a, if_pos (nI_le (by omega) ha'), B116_56, B116_26, mA_w, if_neg (by decide), B116_33, if_pos rfl]
end MREADS
