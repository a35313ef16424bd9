/-! reading: a story (the other side) -/
theorem ucuc {α : Type} {I : Nat → Nat → α} {c : Nat} {f g : Nat → α} : uc (uc I c f) c g = uc I c g := by
  funext b
  unfold uc
  by_cases h : b = c
  · rw [if_pos h, if_pos h]
  · rw [if_neg h, if_neg h, if_neg h]
section M13
variable {I : zI} {a : Nat} {w : Int32} {f g p q e5 e6 e7 e8 : Nat → Int32}
theorem mA_13 (x : Int32) : u2 (mA (mR I e5 e6 e7 e8) a w f g p q) 76 13 x = mA (mR (u2 I 76 13 x) e5 e6 e7 e8) a w f g p q := by
  have h1 : mR (u2 I 76 13 x) e5 e6 e7 e8 = u2 (mR I e5 e6 e7 e8) 76 13 x := by
    unfold mR
    rw [u2_uc rfl, u2_uc rfl, u2_uc rfl, u2_uc rfl]
  rw [h1]
  generalize mR I e5 e6 e7 e8 = K
  unfold mA
  rw [u2_uc rfl, u2_uc rfl, u2_uc rfl, u2_uc rfl, u2uc]
  have h2 : u2 K 76 13 x = uc K 76 (upd (K 76) 13 x) := rfl
  rw [h2, uc_s, ucuc, upd_comm _ _ _ (by decide : 23 ≠ 13), upd_comm _ _ _ (by decide : 22 ≠ 13)]
theorem mR_76 : mR I e5 e6 e7 e8 76 = I 76 := by
  unfold mR
  rw [ucn rfl, ucn rfl, ucn rfl, ucn rfl]
theorem mA_r13 : mA (mR I e5 e6 e7 e8) a w f g p q 76 13 = I 76 13 := by
  rw [mA_f _ rfl rfl, mR_76]
theorem mA_r12 : mA (mR I e5 e6 e7 e8) a w f g p q 76 12 = I 76 12 := by
  rw [mA_f _ rfl rfl, mR_76]
end M13
def mStx (T : Nat → Nat) (N : Nat) (f g p q e6 e7 e8 : Nat → Int32) (s : Nat) (x : Nat × Nat × Nat × Nat × (Nat → Nat)) : Prop := mSt T N f g p q e6 e7 e8 s x.2.1 x.2.2.1 x.2.2.2.1 x.2.2.2.2
theorem frM_r {s : Nat} {f g p q e6 e7 e8 : Nat → Int32} : frM s f g p q e6 e7 e8 f g p q e6 e7 e8 := ⟨fun _ _ => ⟨rfl, rfl, rfl⟩, fun _ _ => parS_r⟩
theorem frM_t {s : Nat} {f g p q e6 e7 e8 f' g' p' q' e6' e7' e8' f2 g2 p2 q2 e62 e72 e82 : Nat → Int32} (h1 : frM s f g p q e6 e7 e8 f' g' p' q' e6' e7' e8') (h2 : frM s f' g' p' q' e6' e7' e8' f2 g2 p2 q2 e62 e72 e82) : frM s f g p q e6 e7 e8 f2 g2 p2 q2 e62 e72 e82 :=
  ⟨fun x hx => ⟨(h2.1 x hx).1.trans (h1.1 x hx).1, (h2.1 x hx).2.1.trans (h1.1 x hx).2.1, (h2.1 x hx).2.2.trans (h1.1 x hx).2.2⟩, fun P hP => parS_t (h1.2 P hP) (h2.2 P hP)⟩
/-- the fault after parts -/
def bW (b : Bool) (a : Nat) : Int32 := if b = true then -1 else nI a
section MSTORY
variable {S : Nat × (Nat → Int32)} {I : zI} {J : zJ} {k : zK} {T : Nat → Nat} {N c : Nat} {e5 : Nat → Int32}
theorem g114_l (hc : c < 4) (hx : mTx I T N) (hb : Nat.ble k.1 (mBu 114).1 = true ∧ Nat.ble k.2 (mBu 114).2 = true) : ∀ (m : Nat) (b : Bool) (x : Nat × Nat × Nat × Nat × (Nat → Nat)) (a' : Nat) (l3 : Int32) (f g p q e6 e7 e8 : Nat → Int32), x.1 ≤ N → a' < 2 ^ 31 → (b = true → a' = x.1 ∧ okσ N x ∧ N ≤ x.1 + m ∧ mStx T N f g p q e6 e7 e8 c x) →
    ∃ (a2 : Nat) (l : Int32) (f' g' p' q' e6' e7' e8' : Nat → Int32), zd S 114 111 [some (.ref 76), some (.int (nI c)), none, some (.int l3)] [] (mA (mR I e5 e6 e7 e8) a' (bW b x.1) f g p q) J k = zd S 114 140 [some (.ref 76), some (.int (nI c)), none, some (.int l)] [] (mA (mR I e5 e6' e7' e8') a2 (bW (lp T N m b x).1 (lp T N m b x).2.1) f' g' p' q') J k
      ∧ frM c f g p q e6 e7 e8 f' g' p' q' e6' e7' e8' ∧ a2 < 2 ^ 31 ∧ ((lp T N m b x).1 = true → a2 = (lp T N m b x).2.1 ∧ mStx T N f' g' p' q' e6' e7' e8' c (lp T N m b x).2) := by
  intro m
  have hN := hx.2.2.1
  have stop : ∀ (x : Nat × Nat × Nat × Nat × (Nat → Nat)) (a' : Nat) (l3 : Int32) (f g p q e6 e7 e8 : Nat → Int32), x.1 ≤ N → a' < 2 ^ 31 → ∃ l : Int32, zd S 114 111 [some (.ref 76), some (.int (nI c)), none, some (.int l3)] [] (mA (mR I e5 e6 e7 e8) a' (bW false x.1) f g p q) J k = zd S 114 140 [some (.ref 76), some (.int (nI c)), none, some (.int l)] [] (mA (mR I e5 e6 e7 e8) a' (bW false x.1) f g p q) J k := by
    intro x a' l3 f g p q e6 e7 e8 hxN ha'
    have hw : bW false x.1 = nI x.1 := if_neg (by decide)
    have h0 : 0 ≤ bW false x.1 := by rw [hw]; exact nI_pos' (by omega)
    have hch := ch_lt hx.2.2 a'
    rw [B114_111, mA_r12, hx.1, mA_a]
    by_cases h1 : nI N ≤ nI a'
    · refine ⟨0, ?_⟩
      rw [if_pos h1, B114_135, B114_95, mA_w, if_pos h0]
    · rw [if_neg h1, B114_122 hb (s107 (mR_tx hx) ha'), B114_126]
      by_cases h2 : nI (ch T N a') = 35
      · refine ⟨0, ?_⟩
        rw [if_pos h2, B114_135, B114_95, mA_w, if_pos h0]
      · refine ⟨1, ?_⟩
        rw [if_neg h2, B114_131, B114_95, mA_w, if_pos h0]
  have out : ∀ (x : Nat × Nat × Nat × Nat × (Nat → Nat)) (l3 : Int32) (f g p q e6 e7 e8 : Nat → Int32), x.1 ≤ N → ¬ (x.1 < N ∧ ch T N x.1 ≠ 35) → zd S 114 111 [some (.ref 76), some (.int (nI c)), none, some (.int l3)] [] (mA (mR I e5 e6 e7 e8) x.1 (bW true x.1) f g p q) J k = zd S 114 140 [some (.ref 76), some (.int (nI c)), none, some (.int 0)] [] (mA (mR I e5 e6 e7 e8) x.1 (bW true x.1) f g p q) J k := by
    intro x l3 f g p q e6 e7 e8 hxN hno
    have hw : bW true x.1 = -1 := if_pos rfl
    have hch := ch_lt hx.2.2 x.1
    have e35 : nI (ch T N x.1) = 35 ↔ ch T N x.1 = 35 := nI_eq (b := 35) (by omega) (by decide)
    rw [hw, B114_111, mA_r12, hx.1, mA_a]
    by_cases hl : x.1 < N
    · have hc35 : ch T N x.1 = 35 := by
        by_cases hq : ch T N x.1 = 35
        · exact hq
        · exact absurd ⟨hl, hq⟩ hno
      rw [if_neg (nI_ge hl (by omega)), B114_122 hb (s107 (mR_tx hx) (by omega)), B114_126, if_pos (e35.mpr hc35), B114_135, B114_95, mA_w, if_neg (by decide), B114_102, if_pos rfl]
    · rw [if_pos (nI_le (by omega) (by omega)), B114_135, B114_95, mA_w, if_neg (by decide), B114_102, if_pos rfl]
  induction m with
  | zero =>
    intro b x a' l3 f g p q e6 e7 e8 hxN ha' hpre
    cases b with
    | false =>
      obtain ⟨l, hl⟩ := stop x a' l3 f g p q e6 e7 e8 hxN ha'
      exact ⟨a', l, f, g, p, q, e6, e7, e8, hl, frM_r, ha', fun h => by cases h⟩
    | true =>
      obtain ⟨h1, h2, h3, h4⟩ := hpre rfl
      subst h1
      exact ⟨x.1, 0, f, g, p, q, e6, e7, e8, out x l3 f g p q e6 e7 e8 hxN (by omega), frM_r, ha', fun _ => ⟨rfl, h4⟩⟩
  | succ m ih =>
    intro b x a' l3 f g p q e6 e7 e8 hxN ha' hpre
    cases b with
    | false =>
      have hl : lp T N (m + 1) false x = (false, x) := if_neg (fun z => Bool.false_ne_true z.1)
      obtain ⟨l, hl2⟩ := stop x a' l3 f g p q e6 e7 e8 hxN ha'
      rw [hl]
      exact ⟨a', l, f, g, p, q, e6, e7, e8, hl2, frM_r, ha', fun h => by cases h⟩
    | true =>
      obtain ⟨h1, h2, h3, h4⟩ := hpre rfl
      subst h1
      by_cases hgo : x.1 < N ∧ ch T N x.1 ≠ 35
      · have hl : lp T N (m + 1) true x = lp T N m (psB T N x) (pst T N x) := if_pos ⟨rfl, hgo⟩
        have hch := ch_lt hx.2.2 x.1
        have e35 : nI (ch T N x.1) = 35 ↔ ch T N x.1 = 35 := nI_eq (b := 35) (by omega) (by decide)
        have hw : bW true x.1 = -1 := if_pos rfl
        obtain ⟨a1, f1, g1, p1, q1, e61, e71, e81, hz, hfr, hd, hlt⟩ := s113 (S := S) (J := J) (e5 := e5) (a := x.1) hc hx hxN h2.2.1 h2.2.2 h4
        obtain ⟨a2, l, f2, g2, p2, q2, e62, e72, e82, hE, hF, hL, hD⟩ := ih (psB T N x) (pst T N x) a1 1 f1 g1 p1 q1 e61 e71 e81 (ptA_N hxN) hlt (fun hbt => by
          obtain ⟨o1, o2⟩ := pst_ok h2 hbt
          obtain ⟨d1, d2⟩ := hd hbt
          exact ⟨d1, o1, by omega, d2⟩)
        have hz' : zq S 113 [.ref 76, .int (nI c)] (mA (mR I e5 e6 e7 e8) x.1 (-1) f g p q) J none (mA (mR I e5 e61 e71 e81) a1 (bW (psB T N x) (pst T N x).1) f1 g1 p1 q1) J := hz
        rw [hl]
        refine ⟨a2, l, f2, g2, p2, q2, e62, e72, e82, ?_, frM_t hfr hF, hL, hD⟩
        rw [hw, B114_111, mA_r12, hx.1, mA_a, if_neg (nI_ge hgo.1 (by omega)), B114_122 hb (s107 (mR_tx hx) (by omega)), B114_126, if_neg (fun z => hgo.2 (e35.mp z)), B114_131, B114_95, mA_w, if_neg (by decide), B114_102, if_neg (by decide), B114_106 hb hz']
        exact hE
      · have hl : lp T N (m + 1) true x = (true, x) := if_neg (fun z => hgo z.2)
        rw [hl]
        exact ⟨x.1, 0, f, g, p, q, e6, e7, e8, out x l3 f g p q e6 e7 e8 hxN hgo, frM_r, ha', fun _ => ⟨rfl, h4⟩⟩
end MSTORY
