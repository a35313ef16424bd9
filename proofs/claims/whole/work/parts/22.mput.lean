/-! the model's pattern, whole -/
theorem fedA_again {f : Nat → Int32} {v n N : Nat} (h : 1 ≤ n) : upd (fedA f v n N n) N (nI (byt v n 0)) = fedA f v n N n := by
  funext q
  unfold upd fedA
  by_cases hq : q = N
  · subst hq
    rw [if_pos rfl, if_pos (by omega), Nat.sub_self]
  · rw [if_neg hq]
section MPUT
variable {S : Nat × (Nat → Int32)} {I : zI} {J : zJ} {k : zK}
theorem g100_w {v u n p sz : Nat} (hv : v < 2 ^ 64) (hu : u < 2 ^ 64) (n1 : 1 ≤ n) (n6 : n ≤ 6) (hp : p < 20) (h5 : I 76 5 = nI sz) (hb : Nat.ble k.1 (mBu 100).1 = true ∧ Nat.ble k.2 (mBu 100).2 = true) : ∀ (m i : Nat), n + 1 = i + m →
    zd S 100 129 [some (.ref 76), some (.long (lN v)), none, some (.int (nI n)), some (.long (lN u)), none, some (.int (nI p)), some (.int (nI i))] [] (uc (uc I 80 (fedA (I 80) v n (6 * p) (min i n))) 81 (fedA (I 81) u (n + 1) (7 * p) i)) J k
      = some (some (.int (nI sz)), mk (uc (uc I 80 (fedA (I 80) v n (6 * p) n)) 81 (fedA (I 81) u (n + 1) (7 * p) (n + 1))) J, k) := by
  intro m
  induction m with
  | zero =>
    intro i hm
    have hi : i = n + 1 := by omega
    subst hi
    rw [B100_129, if_pos (nI_lt (by omega) (by omega)), B100_204, ucn rfl, ucn rfl, h5, Nat.min_eq_right (by omega)]
  | succ m ih =>
    intro i hm
    have e7 : 7 * nI p + nI i = nI (7 * p + i) := by rw [show (7 : Int32) = nI 7 from rfl, pk_mul, nI_add]
    have h97 : ∀ (I' : zI), zq S 97 [.long (lN u), .int (nI n + 1), .int (nI i)] I' J (some (.int (nI (byt u (n + 1) i)))) I' J := by
      intro I'
      rw [nI_1]
      exact s97 hu (by omega) (by omega)
    have h7 : ∀ (f : Nat → Int32), u2 (uc (uc I 80 f) 81 (fedA (I 81) u (n + 1) (7 * p) i)) 81 (7 * p + i) (nI (byt u (n + 1) i)) = uc (uc I 80 f) 81 (fedA (I 81) u (n + 1) (7 * p) (i + 1)) := by
      intro f
      rw [u2uc, fedA_s]
    have h8 : ∀ (f g : Nat → Int32) (q : Nat) (x : Int32), u2 (uc (uc I 80 f) 81 g) 80 q x = uc (uc I 80 (upd f q x)) 81 g := by
      intro f g q x
      rw [uc_comm (by decide), u2uc, uc_comm (by decide)]
    rw [B100_129, if_neg (nI_nlt (by omega) (by omega)), B100_135]
    by_cases hi : i = n
    · subst hi
      have e6 : 6 * nI p + 0 = nI (6 * p) := by rw [show (6 : Int32) = nI 6 from rfl, show (0 : Int32) = nI 0 from rfl, pk_mul, nI_add]; rfl
      have h0 : ∀ (I' : zI), zq S 97 [.long (lN v), .int (nI i), .int 0] I' J (some (.int (nI (byt v i 0)))) I' J := fun I' => s97 (i := 0) hv (by omega) (by omega)
      have hle : nI i ≤ nI i := nI_le (Nat.le_refl _) (by omega)
      rw [if_pos hle, B100_155, if_pos hle, B100_170 hb (h0 _), e6, B100_174 (zin_n (by omega) (by decide)), B100_175 hb (h97 _), e7, B100_197 (zin_n (by omega) (by decide)), B100_198, nI_1, nI_clamp (by omega), nI_clamp (by omega), h8, Nat.min_self, fedA_again n1, h7]
      have := ih (i + 1) (by omega)
      rw [Nat.min_eq_right (by omega)] at this
      exact this
    · have e6 : 6 * nI p + nI i = nI (6 * p + i) := by rw [show (6 : Int32) = nI 6 from rfl, pk_mul, nI_add]
      have hlt : ¬ nI n ≤ nI i := nI_ge (by omega) (by omega)
      rw [if_neg hlt, B100_150, if_neg hlt, B100_165 hb (s97 hv (by omega) (by omega)), e6, B100_174 (zin_n (by omega) (by decide)), B100_175 hb (h97 _), e7, B100_197 (zin_n (by omega) (by decide)), B100_198, nI_1, nI_clamp (by omega), nI_clamp (by omega), h8, Nat.min_eq_left (by omega), fedA_s, h7]
      have := ih (i + 1) (by omega)
      rw [Nat.min_eq_left (by omega)] at this
      exact this
theorem s100 {P v u : Nat} {pk pn : Nat → Nat} (x : Int32) (hv : v < 2 ^ 64) (hu : u < 2 ^ 64) (hP : P ≤ 20) (h5 : I 76 5 = nI P) (hr : ∀ p, p < P → rowN (pk p) (pn p)) (h79 : ∀ p, p < P → I 79 p = nI (pn p)) (h80 : ∀ p, p < P → ∀ i, i < pn p → I 80 (6 * p + i) = nI (byt (pk p) (pn p) i)) :
    zq S 100 [.ref 76, .long (lN v), .int x, .long (lN u)] I J (some (.int (pR pk P v x u))) (if pOk v x u = true ∧ pAt pk P v x < 20 then uc (uc (u2 (u2 I 76 5 (nI (pSz pk P v x))) 79 (pAt pk P v x) x) 80 (fedA (I 80) v x.toNatClampNeg (6 * pAt pk P v x) x.toNatClampNeg)) 81 (fedA (I 81) u (x.toNatClampNeg + 1) (7 * pAt pk P v x) (x.toNatClampNeg + 1)) else I) J := by
  refine zq_of rfl ?_
  show zd S 100 0 [some (.ref 76), some (.long (lN v)), none, some (.int x), some (.long (lN u)), none, none, none] [] I J (0, 0) = _
  unfold pR
  have hbad : sgOk v x = false → pOk v x u = false := fun h => by unfold pOk; rw [h]; rfl
  rw [B100_0]
  by_cases h1 : x < 1
  · have hs : sgOk v x = false := by unfold sgOk; rw [decide_eq_true h1]; rfl
    rw [if_pos h1, B100_19, hbad hs, if_neg (by decide), if_neg (by simp)]
  · rw [if_neg h1, B100_5]
    by_cases h2 : x ≤ 6
    · obtain ⟨n, n1, n6, rfl⟩ := le6 h1 h2
      have hn : (nI n).toNatClampNeg = n := nI_clamp (by omega)
      have hsg : sgOk v (nI n) = (sgA v n 0 n && sgE v n 0 n) := by unfold sgOk; rw [decide_eq_false h1, decide_eq_true h2, hn]; rfl
      rw [if_neg (Int32.not_lt.mpr h2), B100_11 ⟨rfl, rfl⟩ (s98 hv ⟨n1, by omega⟩), ← hsg, B100_16]
      cases hs : sgOk v (nI n) with
      | false => rw [if_neg (by decide), B100_19, hbad hs, if_neg (by decide), if_neg (by simp)]
      | true =>
        have hA : sgA v n 0 n = true := by rw [hs] at hsg; exact (Bool.and_eq_true _ _ ▸ hsg.symm : _ ∧ _).1
        have hp : pOk v (nI n) u = vlA u (n + 1) 0 (n + 1) := by unfold pOk; rw [hs, hn]; rfl
        rw [if_pos (by decide), B100_21, show (0 : Int32) = nI 0 from rfl, g100_v hu n6 ⟨rfl, rfl⟩ (n + 1) 0 (by omega), hp]
        cases hw : vlA u (n + 1) 0 (n + 1) with
        | false => rw [if_neg (by decide), if_neg (by decide), if_neg (by simp)]
        | true =>
          have hrow : pRow v (nI n) = v % 2 ^ (8 * n) := by unfold pRow; rw [hn]
          have hae : pAt pk P v (nI n) = plc pk (v % 2 ^ (8 * n)) 0 P := by unfold pAt; rw [hrow]
          have hat := plc_le pk (v % 2 ^ (8 * n)) P 0
          rw [← hae] at hat
          rw [if_pos (rfl : true = true), B100_53, show (0 : Int32) = nI 0 from rfl, g100_p hv n1 n6 hA hP h5 hr h79 h80 ⟨rfl, rfl⟩ P 0 (by omega), ← hae, B100_82, if_pos (rfl : true = true)]
          have e20 : nI (pAt pk P v (nI n)) = 20 ↔ pAt pk P v (nI n) = 20 := nI_eq (b := 20) (by omega) (by decide)
          by_cases h20 : pAt pk P v (nI n) < 20
          · have hz : zin (nI (pAt pk P v (nI n))) 20 = true := zin_n h20 (by decide)
            have ht : true = true ∧ pAt pk P v (nI n) < 20 := ⟨rfl, h20⟩
            have key : ∀ I2 : zI, I2 = u2 I 76 5 (nI (pSz pk P v (nI n))) → zd S 100 118 [some (.ref 76), some (.long (lN v)), none, some (.int (nI n)), some (.long (lN u)), none, some (.int (nI (pAt pk P v (nI n)))), none] [] I2 J (0, 0) = some (some (.int (nI (pSz pk P v (nI n)))), mk (uc (uc (u2 (u2 I 76 5 (nI (pSz pk P v (nI n)))) 79 (pAt pk P v (nI n)) (nI n)) 80 (fedA (I 80) v n (6 * pAt pk P v (nI n)) n)) 81 (fedA (I 81) u (n + 1) (7 * pAt pk P v (nI n)) (n + 1))) J, (0, 0)) := by
              intro I2 hI2
              subst hI2
              have hw := g100_w (S := S) (I := u2 (u2 I 76 5 (nI (pSz pk P v (nI n)))) 79 (pAt pk P v (nI n)) (nI n)) (J := J) (k := (0, 0)) hv hu n1 n6 h20 (sz := pSz pk P v (nI n)) (by rw [u2n rfl, u2s]) ⟨rfl, rfl⟩ (n + 1) 0 (by omega)
              rw [Nat.zero_min, fedA_0, fedA_0, uc_id, uc_id, u2n (b := 80) (a := 79) rfl, u2n (b := 80) (a := 76) rfl, u2n (b := 81) (a := 79) rfl, u2n (b := 81) (a := 76) rfl] at hw
              rw [B100_118 hz, B100_126, nI_clamp (by omega), show (0 : Int32) = nI 0 from rfl, hw]
            rw [if_pos (fun z => by have := e20.mp z; omega), B100_92, h5, if_pos ht, if_pos h20, hn]
            by_cases hq : pAt pk P v (nI n) = P
            · have hz : pSz pk P v (nI n) = P + 1 := if_pos hq
              rw [if_neg (not_not_intro (by rw [hq])), B100_102, h5, nI_1]
              exact key _ (by rw [hz])
            · have hz : pSz pk P v (nI n) = P := if_neg hq
              have en : ¬ nI (pAt pk P v (nI n)) = nI P := fun z => hq ((nI_eq (by omega) (by omega)).mp z)
              rw [if_pos en, B100_111, h5]
              exact key _ (by rw [hz])
          · rw [if_neg (not_not_intro (e20.mpr (by omega))), B100_89, if_neg h20, if_neg (fun z => h20 z.2)]
    · have hs : sgOk v x = false := by unfold sgOk; rw [decide_eq_false h1, decide_eq_false h2]; rfl
      rw [if_pos (Int32.not_le.mp h2), B100_19, hbad hs, if_neg (by decide), if_neg (by simp)]
end MPUT
