/-! cuts, the call of the one side -/
def lA (v n : Nat) : Nat → Nat → Bool
  | _, 0 => true
  | i, m + 1 => isN (byt v n i) && lA v n (i + 1) m
theorem lA_at {v n : Nat} : ∀ (m i : Nat), lA v n i m = true → ∀ q, i ≤ q → q < i + m → isN (byt v n q) = true
  | 0, i, _, q, h1, h2 => by omega
  | m + 1, i, h, q, h1, h2 => by
    unfold lA at h
    rw [Bool.and_eq_true] at h
    by_cases hq : q = i
    · rw [hq]; exact h.1
    · exact lA_at m (i + 1) h.2 q (by omega) (by omega)
/-- what cuts answers -/
def cutR (pn pk pv : Nat → Nat) (P v : Nat) (x : Int32) : Int32 := if x < 1 ∨ ¬ x ≤ 8 then -1 else if lA v x.toNatClampNeg 0 x.toNatClampNeg = true then nI (cutS (gal (dw (fun i => byt v x.toNatClampNeg i) x.toNatClampNeg) pn pk pv P (x.toNatClampNeg + 2)) x.toNatClampNeg) else -1
section CCUTS
variable {S : Nat × (Nat → Int32)} {I : zI} {J : zJ} {k : zK}
theorem s19n {c : Nat} (hc : c < 256) : zq S 19 [.int (nI c)] I J (some (.int (bI (isN c)))) I J := by
  have := s19 (S := S) (I := I) (J := J) (nI c)
  rw [isL_of c (by omega)] at this
  exact this
theorem s95n {c : Nat} (hc : c < 256) : zq S 95 [.int (nI c)] I J (some (.int (bI (isN c)))) I J := by
  have := s95 (S := S) (I := I) (J := J) (nI c)
  rw [isL_of c (by omega)] at this
  exact this
theorem g5_l {v n : Nat} (hv : v < 2 ^ 64) (hn : n ≤ 8) (hb : Nat.ble k.1 (mBu 5).1 = true ∧ Nat.ble k.2 (mBu 5).2 = true) : ∀ (m i : Nat) (o : Option Value), n = i + m → ∃ g : Nat → Int32,
    zd S 5 16 [some (.ref 0), some (.long (lN v)), none, some (.int (nI n)), some (.int (nI i)), o] [] (uc I 3 (fedA (I 3) v n 0 i)) J k = if lA v n i m = true then zd S 5 57 [some (.ref 0), some (.long (lN v)), none, some (.int (nI n)), some (.int (nI n)), none] [] (uc I 3 (fedA (I 3) v n 0 n)) J k else some (some (.int (-1)), mk (uc I 3 g) J, k) := by
  intro m
  induction m with
  | zero =>
    intro i o hm
    have hi : n = i := by omega
    subst hi
    refine ⟨I 3, ?_⟩
    rw [B5_16, if_pos (nI_le (Nat.le_refl _) (by omega)), if_pos (show lA v n n 0 = true from rfl)]
  | succ m ih =>
    intro i o hm
    have hs := fedA_s (I 3) v n 0 i
    rw [Nat.zero_add] at hs
    rw [B5_16, if_neg (nI_ge (by omega) (by omega)), B5_22 hb (s21 hv hn (by omega)), B5_29 hb (s19n (byt_lt _ _ _)), B5_36, show lA v n i (m + 1) = (isN (byt v n i) && lA v n (i + 1) m) from rfl]
    cases h : isN (byt v n i) with
    | false =>
      refine ⟨fedA (I 3) v n 0 i, ?_⟩
      rw [if_neg (by decide), B5_39, if_neg (by simp)]
    | true =>
      rw [if_pos (by decide), B5_41 (zin_n (by omega) (by decide)), B5_51, nI_1, nI_clamp (by omega), chn (by have := byt_lt v n i; omega), u2uc, hs, Bool.true_and]
      exact ih (i + 1) _ (by omega)
theorem s5 {P v : Nat} {pn pk pv : Nat → Nat} (x : Int32) (hv : v < 2 ^ 64) (hP : P ≤ 20) (h4 : I 56 4 = nI P) (h59 : ∀ p, p < P → I 59 p = nI (pn p)) (h57 : ∀ p, p < P → J 57 p = lN (pk p)) (h58 : ∀ p, p < P → J 58 p = lN (pv p)) (hr : ∀ p, p < P → rowN (pk p) (pn p)) (hu : ∀ p, p < P → pv p < 2 ^ 64) :
    ∃ g h : Nat → Int32, zq S 5 [.ref 0, .long (lN v), .int x] I J (some (.int (cutR pn pk pv P v x))) (uc (uc I 3 g) 60 h) J := by
  have hid : ∀ I' : zI, uc (uc I' 3 (I' 3)) 60 (I' 60) = I' := fun I' => by rw [uc_id, uc_id]
  have h60 : ∀ g : Nat → Int32, uc (uc I 3 g) 60 (I 60) = uc I 3 g := fun g => by
    have : (uc I 3 g) 60 = I 60 := ucn rfl
    rw [← this, uc_id]
  by_cases h1 : x < 1
  · refine ⟨I 3, I 60, zq_of rfl ?_⟩
    show zd S 5 0 [some (.ref 0), some (.long (lN v)), none, some (.int x), none, none] [] I J (0, 0) = _
    unfold cutR
    rw [B5_0, if_pos h1, B5_11, hid, if_pos (Or.inl h1)]
  · by_cases h2 : x ≤ 8
    · obtain ⟨n, n1, n8, rfl⟩ := le8 h1 h2
      have hn : (nI n).toNatClampNeg = n := nI_clamp (by omega)
      obtain ⟨g, hg⟩ := g5_l (S := S) (I := I) (J := J) (k := (0, 0)) hv n8 ⟨rfl, rfl⟩ n 0 none (by omega)
      rw [fedA_0, uc_id] at hg
      have hgo : ∀ I' r, zd S 5 16 [some (.ref 0), some (.long (lN v)), none, some (.int (nI n)), some (.int (nI 0)), none] [] I J (0, 0) = some (r, mk I' J, (0, 0)) → zq S 5 [.ref 0, .long (lN v), .int (nI n)] I J r I' J := by
        intro I' r h
        refine zq_of rfl ?_
        show zd S 5 0 [some (.ref 0), some (.long (lN v)), none, some (.int (nI n)), none, none] [] I J (0, 0) = _
        rw [B5_0, if_neg h1, B5_5, if_pos h2, B5_13]
        exact h
      have hneg : ¬ (nI n < 1 ∨ ¬ nI n ≤ 8) := fun z => z.elim h1 (fun y => y h2)
      unfold cutR
      rw [if_neg hneg, hn]
      cases hl : lA v n 0 n with
      | false =>
        refine ⟨g, I 60, hgo _ _ ?_⟩
        rw [hg, hl, if_neg (by decide), if_neg (by decide), h60]
      | true =>
        have ht : ∀ i, i < n → (uc I 3 (fedA (I 3) v n 0 n)) 3 (0 + i) = nI ((fun i => byt v n i) i) := by
          intro i hi
          rw [uc_s]
          unfold fedA
          rw [if_pos (by omega), Nat.zero_add, Nat.sub_zero]
        have h53 := s53 (S := S) (I := uc I 3 (fedA (I 3) v n 0 n)) (J := J) (L := n) (c := 3) (n1 := 8) (a := 0) (b := n) (t := fun i => byt v n i) (P := P) (pn := pn) (pk := pk) (pv := pv) rfl rfl (by decide) (Nat.zero_le _) (by omega) (by omega) (by omega) ht (fun i _ => byt_lt v n i) hP ((congrFun (ucn rfl) _).trans h4) (fun p hp => (congrFun (ucn rfl) _).trans (h59 p hp)) h57 h58 hr hu
        refine ⟨fedA (I 3) v n 0 n, gI (gal (dw (fun i => byt v n i) n) pn pk pv P (n + 2)) ((uc I 3 (fedA (I 3) v n 0 n)) 60), hgo _ _ ?_⟩
        rw [hg, hl, if_pos rfl, if_pos rfl, B5_57 ⟨rfl, rfl⟩ h53, B5_73]
    · refine ⟨I 3, I 60, zq_of rfl ?_⟩
      show zd S 5 0 [some (.ref 0), some (.long (lN v)), none, some (.int x), none, none] [] I J (0, 0) = _
      unfold cutR
      rw [B5_0, if_neg h1, B5_5, if_neg h2, B5_11, hid, if_pos (Or.inr h2)]
end CCUTS
