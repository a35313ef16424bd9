/-! read, the call of the other side, whole -/
def mRd (T : Nat → Nat) (N : Nat) (I : zI) : Prop := I 76 23 = (if (rdR T N).1 = true then -1 else nI (rdR T N).2.2.1) ∧ I 76 13 = nI (if (rdR T N).1 = true then (rdR T N).2.1 else 0) ∧ ((rdR T N).1 = true → ∀ t, t < (rdR T N).2.1 → mDone T N (I 89) (I 90) (I 91) (I 92) (I 85) (I 86) (I 87) (I 88) t ((rdR T N).2.2.2 t))
section MREAD2
variable {I : zI} {a : Nat} {w : Int32} {f g p q e5 e6 e7 e8 : Nat → Int32}
theorem mA_89r : mA (mR I e5 e6 e7 e8) a w f g p q 89 = f ∧ mA (mR I e5 e6 e7 e8) a w f g p q 90 = g ∧ mA (mR I e5 e6 e7 e8) a w f g p q 91 = p ∧ mA (mR I e5 e6 e7 e8) a w f g p q 92 = q := by
  unfold mA
  refine ⟨?_, ?_, ?_, ?_⟩
  · rw [ucn rfl, ucn rfl, ucn rfl, uc_s]
  · rw [ucn rfl, ucn rfl, uc_s]
  · rw [ucn rfl, uc_s]
  · rw [uc_s]
theorem mA_85r : mA (mR I e5 e6 e7 e8) a w f g p q 85 = e5 ∧ mA (mR I e5 e6 e7 e8) a w f g p q 86 = e6 ∧ mA (mR I e5 e6 e7 e8) a w f g p q 87 = e7 ∧ mA (mR I e5 e6 e7 e8) a w f g p q 88 = e8 := by
  rw [mA_o 85 rfl rfl rfl rfl rfl, mA_o 86 rfl rfl rfl rfl rfl, mA_o 87 rfl rfl rfl rfl rfl, mA_o 88 rfl rfl rfl rfl rfl]
  unfold mR
  refine ⟨?_, ?_, ?_, ?_⟩
  · rw [ucn rfl, ucn rfl, ucn rfl, uc_s]
  · rw [ucn rfl, ucn rfl, uc_s]
  · rw [ucn rfl, uc_s]
  · rw [uc_s]
theorem mA_oo (c : Nat) (h1 : c ≠ 76) (h2 : c < 85 ∨ 92 < c) : mA (mR I e5 e6 e7 e8) a w f g p q c = I c := by
  rw [mA_o c (nbeq h1) (nbeq (by omega)) (nbeq (by omega)) (nbeq (by omega)) (nbeq (by omega))]
  unfold mR
  rw [ucn (nbeq (by omega)), ucn (nbeq (by omega)), ucn (nbeq (by omega)), ucn (nbeq (by omega))]
end MREAD2
section MREAD3
variable {S : Nat × (Nat → Int32)} {J : zJ} {T : Nat → Nat} {N : Nat} {I : zI}
theorem s116 (hx : mTx I T N) : ∃ I' : zI, zq S 116 [.ref 76] I J (some (.int (if (rdR T N).1 = true then nI (rdR T N).2.1 else -1))) I' J
    ∧ mRd T N I' ∧ I' 76 24 = 0 ∧ (∀ e, e ≠ 13 → e ≠ 22 → e ≠ 23 → e ≠ 24 → I' 76 e = I 76 e) ∧ (∀ i, i < 192 → I' 105 i = 0) ∧ (∀ i, i < 8 → I' 103 i = 0) ∧ (∀ c, c ≠ 76 → (c < 85 ∨ 92 < c) → c ≠ 103 → c ≠ 105 → I' c = I c) := by
  have hN := hx.2.2.1
  generalize hI1 : u2 (u2 (u2 (u2 I 76 13 0) 76 24 0) 76 22 0) 76 23 (-1) = I1
  generalize hI2 : uc (uc I1 105 (filA (I1 105) 0 192)) 103 (filA (I1 103) 0 8) = I2
  have a76 : I2 76 = I1 76 := by rw [← hI2, ucn rfl, ucn rfl]
  have b22 : I2 76 22 = nI 0 := by rw [a76, ← hI1, u2f rfl, u2s]; rfl
  have b23 : I2 76 23 = -1 := by rw [a76, ← hI1, u2s]
  have b13 : I2 76 13 = nI 0 := by rw [a76, ← hI1, u2f rfl, u2f rfl, u2f rfl, u2s]; rfl
  have b24 : I2 76 24 = 0 := by rw [a76, ← hI1, u2f rfl, u2f rfl, u2s]
  have bo : ∀ e, e ≠ 13 → e ≠ 22 → e ≠ 23 → e ≠ 24 → I2 76 e = I 76 e := by
    intro e h1 h2 h3 h4
    rw [a76, ← hI1, u2ne h3, u2ne h2, u2ne h4, u2ne h1]
  have bc : ∀ c, c ≠ 76 → c ≠ 103 → c ≠ 105 → I2 c = I c := by
    intro c h1 h2 h3
    rw [← hI2, ucn (nbeq h2), ucn (nbeq h3), ← hI1, u2n (nbeq h1), u2n (nbeq h1), u2n (nbeq h1), u2n (nbeq h1)]
  have bz1 : ∀ i, i < 192 → I2 105 i = 0 := by
    intro i hi
    rw [← hI2, ucn rfl, uc_s]
    exact if_pos hi
  have bz2 : ∀ i, i < 8 → I2 103 i = 0 := by
    intro i hi
    rw [← hI2, uc_s]
    exact if_pos hi
  have hx2 : mTx I2 T N := ⟨by rw [bo 12 (by decide) (by decide) (by decide) (by decide)]; exact hx.1, by rw [bc 84 (by decide) (by decide) (by decide)]; exact hx.2.1, hx.2.2⟩
  have hself := mA_self (I := I2) b22 b23
  obtain ⟨a1, y1, f1, g1, p1, q1, e51, e61, e71, e81, hz, hfr, hl1, hd⟩ := s114 (S := S) (J := J) (c := 0) (e5 := I2 85) (e6 := I2 86) (e7 := I2 87) (e8 := I2 88) (f := I2 89) (g := I2 90) (p := I2 91) (q := I2 92) (a := 0) (by decide) hx2 b13 (Nat.zero_le _)
  rw [hself] at hz
  have hok : sOk T N 0 0 = syB T N 0 := by unfold sOk; rw [decide_eq_true (by decide : 0 < 4), Bool.true_and]
  have hsW : sW T N 0 0 = bW (syB T N 0) (syA T N 0) := by unfold sW bW; rw [hok, if_pos (by decide : 0 < 4)]
  have hx3 : mTx (u2 I2 76 13 y1) T N := ⟨by rw [u2f rfl]; exact hx2.1, by rw [u2n rfl]; exact hx2.2.1, hx2.2.2⟩
  obtain ⟨y, a2, l, f2, g2, p2, q2, e52, e62, e72, e82, hE, hle, hD⟩ := g116_l (S := S) (J := J) (k := (0, 0)) ⟨rfl, rfl⟩ 4 (syB T N 0) 1 (syA T N 0) (fun t => if t = 0 then 0 else 0) (u2 I2 76 13 y1) a1 1 f1 g1 p1 q1 e51 e61 e71 e81 hx3 (by decide) (syA_N (Nat.zero_le _)) hl1 (by
    intro hbt
    obtain ⟨d1, d2, d3⟩ := hd (by rw [hok]; exact hbt)
    refine ⟨d1, by decide, by rw [u2s]; exact d2, ?_⟩
    intro t ht
    have ht0 : t = 0 := by omega
    subst ht0
    exact ⟨hbt, d3⟩)
  have hu : ∀ z : Int32, u2 (u2 I2 76 13 y1) 76 13 z = u2 I2 76 13 z := by
    intro z
    show u2 (uc I2 76 (upd (I2 76) 13 y1)) 76 13 z = uc I2 76 (upd (I2 76) 13 z)
    rw [u2uc, upd_upd]
  rw [hu] at hE
  have hRE : (rdl T N 4 (syB T N 0) 1 (syA T N 0) (fun t => if t = 0 then 0 else 0)).1 = (rdR T N).1 ∧ (rdl T N 4 (syB T N 0) 1 (syA T N 0) (fun t => if t = 0 then 0 else 0)).2.2.1 = (rdR T N).2.2.1 ∧ ((rdR T N).1 = true → rdl T N 4 (syB T N 0) 1 (syA T N 0) (fun t => if t = 0 then 0 else 0) = rdR T N) := by
    by_cases h0 : 0 < N
    · have e : rdR T N = rdl T N 4 (syB T N 0) 1 (syA T N 0) (fun t => if t = 0 then 0 else 0) := by
        show (if decide (0 < N) = true ∧ 0 < N then (if 0 < 4 then rdl T N 4 (syB T N 0) (0 + 1) (syA T N 0) (fun t => if t = 0 then 0 else 0) else (false, 0 + 1, 0, fun _ => 0)) else (decide (0 < N), 0, 0, fun _ => 0)) = _
        rw [if_pos ⟨decide_eq_true h0, h0⟩, if_pos (by decide)]
      rw [e]
      exact ⟨rfl, rfl, fun _ => rfl⟩
    · have e : rdR T N = (decide (0 < N), 0, 0, fun _ => 0) := if_neg (fun z => h0 z.2)
      have c0 : ch T N 0 = 0 := if_neg h0
      have hB : syB T N 0 = false := by unfold syB; rw [c0]; rfl
      have hA : syA T N 0 = 0 := by unfold syA; rw [c0, if_neg (by decide)]
      have e2 : rdl T N 4 false 1 0 (fun t => if t = 0 then 0 else 0) = (false, 1, 0, (fun t => if t = 0 then 0 else 0)) := if_neg (fun z => Bool.false_ne_true z.1)
      rw [hB, hA, e2, e, decide_eq_false h0]
      exact ⟨rfl, rfl, fun z => by cases z⟩
  rw [hRE.1, hRE.2.1] at hE
  have start : zd S 116 0 [some (.ref 76), none] [] I J (0, 0) = zd S 116 61 [some (.ref 76), some (.int l)] [] (mA (mR (u2 I2 76 13 y) e52 e62 e72 e82) a2 (bW (rdR T N).1 (rdR T N).2.2.1) f2 g2 p2 q2) J (0, 0) := by
    have h115 := s115 (S := S) (J := J) (I := I1)
    rw [hI2] at h115
    rw [B116_0, B116_5, B116_10, B116_15, hI1, B116_20 ⟨rfl, rfl⟩ h115, B116_24, B116_26, b23, if_neg (by decide), B116_33, if_neg (by decide), B116_37 ⟨rfl, rfl⟩ hz, hsW]
    exact hE
  have frm : ∀ (z : Int32) (w : Int32), (mA (mR (u2 I2 76 13 z) e52 e62 e72 e82) a2 w f2 g2 p2 q2) 76 24 = 0 ∧ (∀ e, e ≠ 13 → e ≠ 22 → e ≠ 23 → e ≠ 24 → (mA (mR (u2 I2 76 13 z) e52 e62 e72 e82) a2 w f2 g2 p2 q2) 76 e = I 76 e) ∧ (∀ i, i < 192 → (mA (mR (u2 I2 76 13 z) e52 e62 e72 e82) a2 w f2 g2 p2 q2) 105 i = 0) ∧ (∀ i, i < 8 → (mA (mR (u2 I2 76 13 z) e52 e62 e72 e82) a2 w f2 g2 p2 q2) 103 i = 0) ∧ (∀ c, c ≠ 76 → (c < 85 ∨ 92 < c) → c ≠ 103 → c ≠ 105 → (mA (mR (u2 I2 76 13 z) e52 e62 e72 e82) a2 w f2 g2 p2 q2) c = I c) := by
    intro z w
    refine ⟨?_, ?_, ?_, ?_, ?_⟩
    · rw [mA_f _ rfl rfl, mR_76, u2f rfl]; exact b24
    · intro e h1 h2 h3 h4
      rw [mA_f _ (nbeq h2) (nbeq h3), mR_76, u2ne h1]
      exact bo e h1 h2 h3 h4
    · intro i hi
      rw [mA_oo 105 (by decide) (by decide), u2n rfl]
      exact bz1 i hi
    · intro i hi
      rw [mA_oo 103 (by decide) (by decide), u2n rfl]
      exact bz2 i hi
    · intro c h1 h2 h3 h4
      rw [mA_oo c h1 h2, u2n (nbeq h1)]
      exact bc c h1 h3 h4
  cases hR : (rdR T N).1 with
  | true =>
    have hre := hRE.2.2 hR
    rw [hre] at hD
    obtain ⟨dy, dd⟩ := hD hR
    have hw : bW true (rdR T N).2.2.1 = -1 := if_pos rfl
    rw [hR, hw] at start
    refine ⟨_, zq_of rfl ?_, ⟨?_, ?_, ?_⟩, frm y (-1)⟩
    · show zd S 116 0 [some (.ref 76), none] [] I J (0, 0) = _
      rw [start, B116_61, mA_w, if_neg (by decide), B116_69, mA_r13, u2s, mA_13, B116_80, mA_w, if_neg (by decide), B116_87, mA_r13, u2s, dy, if_pos rfl]
      have hu2 : u2 (u2 I2 76 13 (nI (rdR T N).2.1)) 76 13 (nI (rdR T N).2.1) = u2 I2 76 13 (nI (rdR T N).2.1) := by
        show u2 (uc I2 76 (upd (I2 76) 13 (nI (rdR T N).2.1))) 76 13 (nI (rdR T N).2.1) = uc I2 76 (upd (I2 76) 13 (nI (rdR T N).2.1))
        rw [u2uc, upd_upd]
      rw [hu2]
    · rw [mA_w, hR, if_pos rfl]
    · rw [mA_r13, u2s, hR, if_pos rfl]; exact dy
    · intro _ t ht
      rw [mA_89r.1, mA_89r.2.1, mA_89r.2.2.1, mA_89r.2.2.2, mA_85r.1, mA_85r.2.1, mA_85r.2.2.1, mA_85r.2.2.2]
      exact dd t ht
  | false =>
    have hw : bW false (rdR T N).2.2.1 = nI (rdR T N).2.2.1 := if_neg (by decide)
    have hle2 : (rdR T N).2.2.1 ≤ N := by rw [← hRE.2.1]; exact hle
    have h0 : (0 : Int32) ≤ nI (rdR T N).2.2.1 := nI_pos' (by omega)
    rw [hR, hw] at start
    refine ⟨_, zq_of rfl ?_, ⟨?_, ?_, ?_⟩, frm 0 (nI (rdR T N).2.2.1)⟩
    · show zd S 116 0 [some (.ref 76), none] [] I J (0, 0) = _
      have hu2 : u2 (u2 I2 76 13 y) 76 13 0 = u2 I2 76 13 0 := by
        show u2 (uc I2 76 (upd (I2 76) 13 y)) 76 13 0 = uc I2 76 (upd (I2 76) 13 0)
        rw [u2uc, upd_upd]
      rw [start, B116_61, mA_w, if_pos h0, B116_76, mA_13, hu2, B116_80, mA_w, if_pos h0, B116_94, if_neg Bool.false_ne_true]
    · rw [mA_w, hR, if_neg Bool.false_ne_true]
    · rw [mA_r13, u2s, hR, if_neg Bool.false_ne_true]; rfl
    · intro h
      rw [hR] at h
      cases h
end MREAD3
