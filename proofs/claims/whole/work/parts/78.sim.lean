/-! plan: all stories, as one function: the cells and each story's parts -/
def aO (r : zE) (t : Nat) : Nat := (rdR (eT r) (eN r)).2.2.2 t
def xO (r : zE) (t : Nat) : Nat × Nat × Nat × Nat × (Nat → Nat) := (syL (eT r) (eN r) (aO r t)).2
def uO (r : zE) (t : Nat) : Nat := ch (eT r) (eN r) (aO r t + 1) - 48
def qO (r : zE) (t : Nat) : Nat := (xO r t).2.1
def cO (r : zE) (t : Nat) : Nat := (xO r t).2.2.1
def rO (r : zE) (t : Nat) : Nat := (xO r t).2.2.2.1
def fO (r : zE) (t : Nat) : Nat → Nat := (xO r t).2.2.2.2
def LO (r : zE) (t : Nat) : List (Nat × Nat × Nat × Nat) := lnS r (fO r t) (qO r t)
def bO (r : zE) (t : Nat) : Nat → Bool := bdL (LO r t)
def nO (r : zE) (t : Nat) : Nat := (LO r t).length
def hO (r : zE) (t : Nat) : Nat := hF1 r (fO r t) (qO r t)
def nS (r : zE) : Nat := (rdR (eT r) (eN r)).2.1
/-- is this cell in the place of a part: page, columns, x, y, height -/
def inR (pg k x y h i : Nat) : Bool := decide (i / 64 = pg) && (decide (x ≤ i % 64 / 16) && (decide (i % 64 / 16 < x + k) && (decide (y ≤ i % 16) && decide (i % 16 < y + h))))
theorem inR_i {pg k x y h i : Nat} : inR pg k x y h i = true ↔ i / 64 = pg ∧ x ≤ i % 64 / 16 ∧ i % 64 / 16 < x + k ∧ y ≤ i % 16 ∧ i % 16 < y + h := by
  unfold inR
  rw [Bool.and_eq_true, Bool.and_eq_true, Bool.and_eq_true, Bool.and_eq_true, decide_eq_true_eq, decide_eq_true_eq, decide_eq_true_eq, decide_eq_true_eq, decide_eq_true_eq]
theorem inR_x {pg k x y h c r : Nat} (hx : x + k ≤ 4) (hy : y + h ≤ 16) (hc : c < k) (hr : r < h) : inR pg k x y h (64 * pg + 16 * (x + c) + (y + r)) = true := by
  rw [inR_i]
  omega
theorem inR_c {pg k x y h i : Nat} (hi : inR pg k x y h i = true) : i % 64 / 16 - x < k ∧ i % 16 - y < h ∧ i = 64 * pg + 16 * (x + (i % 64 / 16 - x)) + (y + (i % 16 - y)) := by
  have h1 := inR_i.mp hi
  omega
def stG (s : Nat) (bd : Nat → Bool) (n fc fr : Nat) (u : zPl) (G : Nat → Int32) : Nat → Int32 := fun i =>
  if inR u.1 u.2.1 u.2.2.1 u.2.2.2.1 u.2.2.2.2.1 i = true then nI (v0F (100 * (s + 1)) fc fr u.2.1 u.2.2.2.2.1 (lsF u.2.2.2.2.2.2) (t0F bd n fc fr u.2.1 u.2.2.2.2.1 (lsF u.2.2.2.2.2.2) u.2.2.2.2.2.1) (l0F bd n fc fr u.2.1 u.2.2.2.2.1 (lsF u.2.2.2.2.2.2) u.2.2.2.2.2.1) (i % 64 / 16 - u.2.2.1) (i % 16 - u.2.2.2.1))
  else match u.2.2.2.2.2.2 with
    | none => G i
    | some v => if inR v.1 v.2.1 v.2.2.1 v.2.2.2.1 v.2.2.2.2 i = true then nI (v1F (100 * (s + 1)) (t1F bd n v.2.1 v.2.2.2.2 u.2.2.2.2.2.1) (l1F bd n v.2.1 v.2.2.2.2 u.2.2.2.2.2.1) (i % 64 / 16 - v.2.2.1) (i % 16 - v.2.2.2.1)) else G i
theorem stG_p {s C R n fc fr : Nat} {bd : Nat → Bool} {u : zPl} {G G' H : Nat → Int32} (hC : C ≤ 4) (hR : R ≤ 16) (h0 : pl0 C R bd n fc fr u) (h1 : ∀ v, u.2.2.2.2.2.2 = some v → pl1 C R bd n u.1 u.2.2.2.2.2.1 v) (hG : eqG G H) (hp : plG s bd n fc fr G G' u) : eqG G' (stG s bd n fc fr u H) := by
  obtain ⟨a1, a2, a3, a4, a5, _⟩ := h0
  intro i hi
  unfold stG
  cases hA : inR u.1 u.2.1 u.2.2.1 u.2.2.2.1 u.2.2.2.2.1 i with
  | true =>
    have hc := inR_c hA
    rw [if_pos rfl]
    have := hp.1 _ _ hc.1 hc.2.1
    rw [← hc.2.2] at this
    exact this
  | false =>
    rw [if_neg (by decide)]
    have n1 : ∀ c r, c < u.2.1 → r < u.2.2.2.2.1 → i ≠ 64 * u.1 + 16 * (u.2.2.1 + c) + (u.2.2.2.1 + r) := by
      intro c r hc hr he
      have := inR_x (pg := u.1) (x := u.2.2.1) (y := u.2.2.2.1) (by omega) (by omega) hc hr
      rw [← he, hA] at this
      cases this
    cases hv : u.2.2.2.2.2.2 with
    | none =>
      dsimp only
      rw [hp.2.2 i n1 (fun v hv' => by rw [hv] at hv'; cases hv')]
      exact hG i hi
    | some v =>
      dsimp only
      obtain ⟨b1, b2, b3, b4, b5, _⟩ := h1 v hv
      cases hB : inR v.1 v.2.1 v.2.2.1 v.2.2.2.1 v.2.2.2.2 i with
      | true =>
        have hc := inR_c hB
        rw [if_pos rfl]
        have := hp.2.1 v hv _ _ hc.1 hc.2.1
        rw [← hc.2.2] at this
        exact this
      | false =>
        rw [if_neg (by decide)]
        rw [hp.2.2 i n1 (fun v' hv' c r hc hr he => by
          rw [hv] at hv'
          cases hv'
          have := inR_x (pg := v.1) (x := v.2.2.1) (y := v.2.2.2.1) (by omega) (by omega) hc hr
          rw [← he, hB] at this
          cases this)]
        exact hG i hi
abbrev zSt : Type := (Nat → Int32) × (Nat → Option zPl)
def sim1 (r : zE) (C R : Nat) (st : zSt) (t : Nat) : zSt := if hO r t = 0 then (match plW st.1 C R (bO r t) (nO r t) (cO r t) (rO r t) with
  | none => st
  | some u => (stG t (bO r t) (nO r t) (cO r t) (rO r t) u st.1, fun t' => if t' = t then some u else st.2 t')) else st
def simT (r : zE) (C R g : Nat) : Nat → Nat → zSt → zSt
  | _, 0, st => st
  | t, m + 1, st => simT r C R g (t + 1) m (if uO r t = g then sim1 r C R st t else st)
def simO (r : zE) (C R : Nat) : Nat → zSt → zSt
  | 0, st => simT r C R 0 0 (nS r) st
  | g + 1, st => simO r C R g (simT r C R (g + 1) 0 (nS r) st)
/-- why a story is held in the end, and how many parts it has -/
def hdF (r : zE) (t : Nat) (o : Option zPl) : Nat := if hO r t = 0 then (if o.isSome = true then 0 else 3) else hO r t
def pcF (o : Option zPl) : Nat := match o with
  | none => 0
  | some u => 1 + lsF u.2.2.2.2.2.2
/-- a story that was planned, as the class holds it -/
def cOK (r : zE) (t : Nat) (o : Option zPl) (I : zI) : Prop :=
  I (7 + 12 * t) 14 = nI (hdF r t o) ∧ I (7 + 12 * t) 15 = nI (nO r t) ∧ I (7 + 12 * t) 16 = nI (pcF o) ∧
  (∀ j x, (LO r t)[j]? = some x → j < 40 → I (11 + 12 * t) j = nI (fO r t x.1 + bpL (pL r (fO r t x.1)) x.2.1) ∧ I (12 + 12 * t) j = nI (fO r t x.1 + cpL (pL r (fO r t x.1)) x.2.2.1) ∧ I (13 + 12 * t) j = nI (pQ r (fO r t x.1) x.2.2.1)) ∧
  (∀ p, p < qO r t → I (10 + 12 * t) p = oI ((pB r (fO r t p) 0).map Prod.fst)) ∧ (∀ u, o = some u → cPt I t (bO r t) (nO r t) (cO r t) (rO r t) u)
/-- and as the model holds it -/
def mOK (r : zE) (t : Nat) (o : Option zPl) (I : zI) : Prop :=
  I 93 t = nI (hdF r t o) ∧ I 94 t = nI (lC1 r (fO r t) (qO r t)) ∧
  (∀ j x, (LO r t)[j]? = some x → j < 41 → I 95 (41 * t + j) = nI (4 * t + x.1) ∧ I 96 (41 * t + j) = nI x.2.1 ∧ I 97 (41 * t + j) = nI x.2.2.1) ∧
  (∀ p, p < qO r t → I 98 (4 * t + p) = oI ((pB r (fO r t p) 0).map Prod.fst)) ∧ (∀ u, o = some u → mPtU I t (bO r t) (nO r t) (cO r t) (rO r t) u ∧ (u.2.2.2.2.2.2 = none → I 103 (2 * t + 1) = 0)) ∧ (o = none → I 103 (2 * t) = 0 ∧ I 103 (2 * t + 1) = 0)
/-- the stories that were read -/
def okSt (r : zE) : Prop := okE r ∧ (rdR (eT r) (eN r)).1 = true ∧ nS r ≤ 4 ∧ ∀ t, t < nS r → syB (eT r) (eN r) (aO r t) = true
theorem okSt_i {r : zE} (h : okSt r) {t : Nat} (ht : t < nS r) : qO r t ≤ 4 ∧ cO r t ≤ 9 ∧ rO r t ≤ 9 ∧ (∀ x, x < qO r t → okPa r (fO r t x)) ∧ uO r t ≤ 9 := by
  have h1 := h.2.2.2 t ht
  have h2 := sy_φ h1
  have h3 := (syA_ok h1).2.1
  unfold dg at h3
  rw [Bool.and_eq_true, decide_eq_true_eq, decide_eq_true_eq] at h3
  refine ⟨h2.1, h2.2.1, h2.2.2.1, fun x hx => h2.2.2.2 x hx, ?_⟩
  unfold uO
  have : aO r t + 1 = aO r t + 1 := rfl
  omega
theorem hO_0 {r : zE} {t : Nat} (h : hO r t = 0) : faS r (fO r t) (qO r t) = false ∧ 0 < nO r t ∧ nO r t ≤ 40 := by
  unfold hO hF1 at h
  cases hf : faS r (fO r t) (qO r t) with
  | true =>
    rw [hf, if_pos rfl] at h
    cases h
  | false =>
    rw [hf, if_neg (by decide)] at h
    by_cases hc : (lnS r (fO r t) (qO r t)).length = 0 ∨ 40 < (lnS r (fO r t) (qO r t)).length
    · rw [if_pos hc] at h
      cases h
    · unfold nO LO
      exact ⟨rfl, by omega, by omega⟩
theorem hO_le {r : zE} {t : Nat} : hO r t ≤ 2 := by
  unfold hO hF1
  split
  · omega
  · split <;> omega
theorem bO_n (r : zE) (t : Nat) : bO r t (nO r t) = false := bdL_lt (Nat.le_refl _)
section CPLAN
variable {S : Nat × (Nat → Int32)}
/-- a story that is not placed at all -/
theorem s60_1 {s : Nat} {I : zI} {J : zJ} (hs : s < 4) (h14 : I (7 + 12 * s) 14 = 1) : zq S 60 [.ref 65, .ref (7 + 12 * s)] I J none I J := by
  refine zq_of rfl ?_
  show zd S 60 0 [some (.ref 65), some (.ref (7 + 12 * s))] [] I J (0, 0) = _
  rw [B60_0 hs, if_neg (not_not_intro h14), B60_8 hs]
theorem s60_2 {s n : Nat} {I : zI} {J : zJ} (hs : s < 4) (h14 : I (7 + 12 * s) 14 = 0) (h15 : I (7 + 12 * s) 15 = nI n) (hn : n < 2 ^ 20) (hc : n = 0 ∨ 40 < n) : zq S 60 [.ref 65, .ref (7 + 12 * s)] I J none (u2 I (7 + 12 * s) 14 2) J := by
  refine zq_of rfl ?_
  show zd S 60 0 [some (.ref 65), some (.ref (7 + 12 * s))] [] I J (0, 0) = _
  have h1 : ¬ I (7 + 12 * s) 14 = 1 := by rw [h14]; decide
  rw [B60_0 hs, if_pos h1, B60_9 hs, h15]
  by_cases h0 : n = 0
  · rw [h0, if_pos nI_0, B60_25 hs, B60_30 hs]
  · have h40 : ¬ nI n ≤ 40 := nI_ge (b := n) (a := 40) (by omega) (by omega)
    rw [if_neg (nI_ne0 (by omega) (by omega)), B60_16 hs, h15, if_neg h40, B60_25 hs, B60_30 hs]
/-- what the planning of one story leaves alone -/
def fS (t : Nat) (I I' : zI) (J J' : zJ) : Prop := (∀ c, c < 7 ∨ (55 < c ∧ c < 60) ∨ c = 70 ∨ 72 < c → I' c = I c) ∧ (∀ e, e ≠ 6 → I' 55 e = I 55 e) ∧ I' 61 0 = I 61 0 ∧ I' 62 0 = I 62 0 ∧ (∀ t', t' < 4 → t' ≠ t → ∀ j, j < 12 → I' (7 + 12 * t' + j) = I (7 + 12 * t' + j)) ∧ (∀ e, e ≠ 14 → e ≠ 15 → e ≠ 16 → I' (7 + 12 * t) e = I (7 + 12 * t) e) ∧ I' (8 + 12 * t) = I (8 + 12 * t) ∧ I' (9 + 12 * t) = I (9 + 12 * t) ∧ (∀ c, c = 57 ∨ c = 58 → J' c = J c)
theorem g10_s {r : zE} {C R t : Nat} {st : zSt} {I : zI} {J : zJ} (hO' : okSt r) (ht : t < nS r) (hE : cEn r I J) (hS : cSh I C R) (hnum : I (7 + 12 * t) 0 = nI t) (h11 : I (7 + 12 * t) 11 = nI (qO r t)) (h12 : I (7 + 12 * t) 12 = nI (cO r t)) (h13 : I (7 + 12 * t) 13 = nI (rO r t)) (h8 : ∀ x, x < qO r t → I (8 + 12 * t) x = nI (fO r t x)) (h9 : ∀ x, x < qO r t → I (9 + 12 * t) x = nI (wsA (eT r) (eN r) 16 (fO r t x))) (hG : eqG (I 71) st.1) (ho : st.2 t = none) :
    ∃ I1 J1 I2 J2, zq S 24 [.ref 55, .ref (7 + 12 * t), .ref 5, .ref 1] I J none I1 J1 ∧ zq S 60 [.ref 65, .ref (7 + 12 * t)] I1 J1 none I2 J2 ∧ fS t I I2 J J2 ∧ tkI I2 ∧ eqG (I2 71) (sim1 r C R st t).1 ∧ cOK r t ((sim1 r C R st t).2 t) I2 := by
  have ht4 : t < 4 := by have := hO'.2.2.1; omega
  obtain ⟨k1, k2, k3, k4, k5⟩ := okSt_i hO' ht
  obtain ⟨I1, J1, q24, f1, st1⟩ := s24 (S := S) (I := I) (J := J) (s := t) (q := qO r t) (Fs := fO r t) ht4 hO'.1 k1 k4 hE h11 h8 h9
  obtain ⟨t1, t2, t3, t4, t5, b, b1, b2, b3⟩ := st1
  have hlen := lnS_len (Fs := fO r t) hO'.1 (qO r t) k4
  have hnO : (lnS r (fO r t) (qO r t)).length = nO r t := rfl
  obtain ⟨F1, F2, F3, F4, F5, F6⟩ := f1
  have fa : ∀ c, c < 7 ∨ (55 < c ∧ c < 60) ∨ 64 < c → I1 c = I c := fun c hc => F1 c (by omega) (by omega) (by omega) (by omega) (by omega) (by omega) (by omega) (by omega) (by omega) (by omega) (by omega)
  have fb : ∀ t', t' < 4 → t' ≠ t → ∀ j, j < 12 → I1 (7 + 12 * t' + j) = I (7 + 12 * t' + j) := fun t' h1 h2 j hj => F1 _ (by omega) (by omega) (by omega) (by omega) (by omega) (by omega) (by omega) (by omega) (by omega) (by omega) (by omega)
  have f8 : I1 (8 + 12 * t) = I (8 + 12 * t) := F1 _ (by omega) (by omega) (by omega) (by omega) (by omega) (by omega) (by omega) (by omega) (by omega) (by omega) (by omega)
  have f9 : I1 (9 + 12 * t) = I (9 + 12 * t) := F1 _ (by omega) (by omega) (by omega) (by omega) (by omega) (by omega) (by omega) (by omega) (by omega) (by omega) (by omega)
  have hG1 : I1 71 = I 71 := fa 71 (by omega)
  have ht1 : tkI I1 := tkI_u hS.2.2.2.2 hG1 (fa 72 (by omega))
  -- the same memory but the reason
  have hrest : ∀ (I2 : zI) (J2 : zJ), (∀ z, z ≠ 7 + 12 * t → I2 z = I1 z) → (∀ e, e ≠ 14 → I2 (7 + 12 * t) e = I1 (7 + 12 * t) e) → J2 = J1 → fS t I I2 J J2 ∧ tkI I2 := by
    intro I2 J2 g1 g2 g3
    refine ⟨⟨fun c hc => by rw [g1 c (by omega), fa c (by omega)], fun e he => by rw [g1 55 (by omega), F2 e he], by rw [g1 61 (by omega), F4], by rw [g1 62 (by omega), F5], fun t' h1 h2 j hj => by rw [g1 _ (by omega), fb t' h1 h2 j hj], fun e e1 e2 e3 => by rw [g2 e e1, F3 e e1 e2 e3], by rw [g1 _ (by omega), f8], by rw [g1 _ (by omega), f9], fun c hc => by rw [g3, F6 c (by omega)]⟩, tkI_u ht1 (g1 71 (by omega)) (g1 72 (by omega))⟩
  by_cases h0 : hO r t = 0
  · obtain ⟨hfa, hn0, hn40⟩ := hO_0 h0
    rw [hfa, if_neg (by decide)] at t2
    rw [hnO] at t3 b3
    have hP : cPl I1 J1 t (nO r t) (cO r t) (rO r t) (bO r t) := ⟨hn40, k2, k3, t3, by rw [F3 12 (by decide) (by decide) (by decide)]; exact h12, by rw [F3 13 (by decide) (by decide) (by decide)]; exact h13, b, b1, b2, fun i => b3 hn40 i⟩
    have hS1 : cSh I1 C R := cSh_u hS (fa 70 (by omega)) hG1 (fa 72 (by omega))
    obtain ⟨I2, J2, q60, g1, g2, g3, g4, g5, g6⟩ := s60 (S := S) (I := I1) (J := J1) ht4 hP hS1 (bO_n r t) hn0 (by rw [F3 0 (by decide) (by decide) (by decide)]; exact hnum) t2 t1
    rw [hG1] at g5 g6
    have hpc : plW (I 71) C R (bO r t) (nO r t) (cO r t) (rO r t) = plW st.1 C R (bO r t) (nO r t) (cO r t) (rO r t) := plc_c hG hS.2.2.1.2 hS.2.2.2.1.2
    have hfs : fS t I I2 J J2 := by
      refine ⟨fun c hc => by rw [g1 c (by omega) (by omega) (by omega) (by omega) (by omega) (by omega) (by omega) (by omega) (by omega) (by omega), fa c (by omega)], fun e he => by rw [g1 55 (by omega) (by omega) (by omega) (by omega) (by omega) (by omega) (by omega) (by omega) (by omega) (by omega), F2 e he], by rw [g1 61 (by omega) (by omega) (by omega) (by omega) (by omega) (by omega) (by omega) (by omega) (by omega) (by omega), F4], by rw [g1 62 (by omega) (by omega) (by omega) (by omega) (by omega) (by omega) (by omega) (by omega) (by omega) (by omega), F5], fun t' h1 h2 j hj => by rw [g1 _ (by omega) (by omega) (by omega) (by omega) (by omega) (by omega) (by omega) (by omega) (by omega) (by omega), fb t' h1 h2 j hj], fun e e1 e2 e3 => by rw [g2 e e1 e3, F3 e e1 e2 e3], by rw [g1 _ (by omega) (by omega) (by omega) (by omega) (by omega) (by omega) (by omega) (by omega) (by omega) (by omega), f8], by rw [g1 _ (by omega) (by omega) (by omega) (by omega) (by omega) (by omega) (by omega) (by omega) (by omega) (by omega), f9], fun c hc => by rw [g3 c (by omega) (by omega), F6 c (by omega)]⟩
    have g15 : I2 (7 + 12 * t) 15 = nI (nO r t) := by rw [g2 15 (by decide) (by decide)]; exact t3
    have gl : ∀ c, c = 10 + 12 * t ∨ c = 11 + 12 * t ∨ c = 12 + 12 * t ∨ c = 13 + 12 * t → I2 c = I1 c := fun c hc => g1 c (by omega) (by omega) (by omega) (by omega) (by omega) (by omega) (by omega) (by omega) (by omega) (by omega)
    have glines : ∀ j x, (LO r t)[j]? = some x → j < 40 → I2 (11 + 12 * t) j = nI (fO r t x.1 + bpL (pL r (fO r t x.1)) x.2.1) ∧ I2 (12 + 12 * t) j = nI (fO r t x.1 + cpL (pL r (fO r t x.1)) x.2.2.1) ∧ I2 (13 + 12 * t) j = nI (pQ r (fO r t x.1) x.2.2.1) := by
      intro j x hx hj
      rw [gl _ (by omega), gl (12 + 12 * t) (by omega), gl (13 + 12 * t) (by omega)]
      exact t4 j x hx hj
    have gcost : ∀ p, p < qO r t → I2 (10 + 12 * t) p = oI ((pB r (fO r t p) 0).map Prod.fst) := fun p hp => by rw [gl _ (by omega)]; exact t5 p hp
    refine ⟨I1, J1, I2, J2, q24, q60, hfs, g4, ?_⟩
    unfold sim1
    rw [if_pos h0]
    cases hpl : plW st.1 C R (bO r t) (nO r t) (cO r t) (rO r t) with
    | none =>
      have := g5 (hpc.trans hpl)
      dsimp only
      rw [ho]
      refine ⟨by rw [this.1]; exact hG, ?_, g15, ?_, glines, gcost, fun u hu => by cases hu⟩
      · rw [this.2.1]
        unfold hdF
        rw [if_pos h0]
        rfl
      · rw [this.2.2]
        rfl
    | some u =>
      have h6 := g6 u (hpc.trans hpl)
      have hps := plc_s (bO_n r t) hS.2.2.2.1.1 hpl
      dsimp only
      rw [if_pos rfl]
      refine ⟨stG_p hS.2.2.1.2 hS.2.2.2.1.2 hps.1 hps.2 hG h6.1, ?_, g15, h6.2.2.1, glines, gcost, fun u' hu' => ?_⟩
      · rw [h6.2.1]
        unfold hdF
        rw [if_pos h0]
        rfl
      · cases hu'
        exact h6.2.2.2
  · have hsim : sim1 r C R st t = st := by unfold sim1; rw [if_neg h0]
    rw [hsim, ho]
    rw [hnO] at t3
    cases hfa : faS r (fO r t) (qO r t) with
    | true =>
      rw [hfa, if_pos rfl] at t2
      have hhd : hdF r t none = 1 := by
        unfold hdF
        rw [if_neg h0]
        unfold hO hF1
        rw [hfa]
        rfl
      obtain ⟨r1, r2⟩ := hrest I1 J1 (fun _ _ => rfl) (fun _ _ => rfl) rfl
      refine ⟨I1, J1, I1, J1, q24, s60_1 ht4 t2, r1, r2, by rw [hG1]; exact hG, ?_, t3, ?_, t4, t5, fun u hu => by cases hu⟩
      · rw [t2, hhd]
        rfl
      · rw [t1]
        rfl
    | false =>
      rw [hfa, if_neg (by decide)] at t2
      have hc : nO r t = 0 ∨ 40 < nO r t := by
        by_cases hc : nO r t = 0 ∨ 40 < nO r t
        · exact hc
        · exfalso
          apply h0
          unfold hO hF1
          rw [hfa, if_neg (by decide), hnO, if_neg hc]
      have hhd : hdF r t none = 2 := by
        unfold hdF
        rw [if_neg h0]
        unfold hO hF1
        rw [hfa, if_neg (by decide), hnO, if_pos hc]
      obtain ⟨r1, r2⟩ := hrest (u2 I1 (7 + 12 * t) 14 2) J1 (fun z hz => u2n (nbeq hz)) (fun e he => u2ne he) rfl
      refine ⟨I1, J1, u2 I1 (7 + 12 * t) 14 2, J1, q24, s60_2 ht4 t2 t3 (by omega) hc, r1, r2, by rw [u2n (nbeq (by omega)), hG1]; exact hG, ?_, by rw [u2ne (by decide)]; exact t3, by rw [u2ne (by decide), t1]; rfl, ?_, ?_, fun u hu => by cases hu⟩
      · rw [u2s, hhd]
        rfl
      · intro j x hx hj
        rw [u2n (nbeq (by omega)), u2n (nbeq (by omega)), u2n (nbeq (by omega))]
        exact t4 j x hx hj
      · intro p hp
        rw [u2n (nbeq (by omega))]
        exact t5 p hp
end CPLAN
