/-! plan: where a story stands, as one function of the cells; it looks at the 192 cells alone -/
theorem fsT_c {α : Type} {f g : Nat → Option α} : ∀ (m i : Nat), (∀ x, i ≤ x → x < i + m → f x = g x) → fsT f i m = fsT g i m
  | 0, _, _ => rfl
  | m + 1, i, h => by
    rw [fsT_e, fsT_e, h i (Nat.le_refl _) (by omega), fsT_c m (i + 1) (fun x a b => h x (by omega) (by omega))]
theorem fdT_c {α : Type} {f g : Nat → Option α} : ∀ (n : Nat), (∀ x, 1 ≤ x → x ≤ n → f x = g x) → fdT f n = fdT g n
  | 0, _ => rfl
  | n + 1, h => by
    rw [fdT_e, fdT_e, h (n + 1) (by omega) (Nat.le_refl _), fdT_c n (fun x a b => h x a (by omega))]
def eqG (G H : Nat → Int32) : Prop := ∀ i, i < 192 → G i = H i
section PLC
variable {G H : Nat → Int32} {C R n fc fr : Nat} {bd : Nat → Bool}
theorem frB_c (hG : eqG G H) (hC : C ≤ 4) (hR : R ≤ 16) {pg x y k h : Nat} (hp : pg < 3) : frB G C R pg x y k h = frB H C R pg x y k h := by
  unfold frB
  by_cases h1 : x + k ≤ C ∧ y + h ≤ R
  · congr 1
    refine allT_c (fun c hc => allT_c (fun r hr => ?_))
    rw [hG _ (by omega)]
  · have : (decide (x + k ≤ C) && decide (y + h ≤ R)) = false := by
      cases hb : (decide (x + k ≤ C) && decide (y + h ≤ R)) with
      | false => rfl
      | true =>
        rw [Bool.and_eq_true, decide_eq_true_eq, decide_eq_true_eq] at hb
        exact absurd hb h1
    rw [this]
    rfl
theorem fnd_c (hG : eqG G H) (hC : C ≤ 4) (hR : R ≤ 16) {pg k h : Nat} (hp : pg < 3) : fnd G C R pg k h = fnd H C R pg k h := by
  unfold fnd
  refine fsT_c _ _ (fun y _ _ => ?_)
  unfold fnY
  refine fsT_c _ _ (fun x _ _ => ?_)
  unfold fnX
  rw [frB_c hG hC hR hp]
theorem fwF_c (hG : eqG G H) (hC : C ≤ 4) (hR : R ≤ 16) {ht : Nat → Option Nat} {fst : Nat} : fwF G C R ht fst = fwF H C R ht fst := by
  unfold fwF
  refine fsT_c _ _ (fun pg h1 h2 => ?_)
  unfold fwP
  refine fdT_c _ (fun k _ _ => ?_)
  unfold fwK
  cases ht k with
  | none => rfl
  | some h =>
    dsimp only
    rw [fnd_c hG hC hR (by omega)]
theorem cnF_c {p p' : Nat → Bool} : ∀ (m y : Nat), (∀ r, y ≤ r → r < y + m → p r = p' r) → cnF p y m = cnF p' y m
  | 0, _, _ => rfl
  | m + 1, y, h => by
    unfold cnF
    rw [h y (Nat.le_refl _) (by omega), cnF_c m (y + 1) (fun r a b => h r (by omega) (by omega))]
theorem jmF_c (hG : eqG G H) (hC : C ≤ 4) (hR : R ≤ 16) {pg k y x : Nat} (hp : pg < 3) (hy : y < R) : jmF G C R bd n fc fr pg k y x = jmF H C R bd n fc fr pg k y x := by
  by_cases hx : x + k ≤ C
  · have : cnF (rwF G pg x k) y (R - y) = cnF (rwF H pg x k) y (R - y) := by
      refine cnF_c _ _ (fun r h1 h2 => ?_)
      unfold rwF
      refine allT_c (fun c hc => ?_)
      rw [hG _ (by omega)]
    unfold jmF
    rw [this]
    split
    · split
      · rfl
      · rw [fwF_c hG hC hR]
    · rfl
  · rw [jmF_0 hx, jmF_0 hx]
theorem jmW_c (hG : eqG G H) (hC : C ≤ 4) (hR : R ≤ 16) : jmW G C R bd n fc fr = jmW H C R bd n fc fr := by
  unfold jmW
  refine fsT_c _ _ (fun pg _ h2 => ?_)
  unfold jmP
  refine fdT_c _ (fun k _ _ => ?_)
  unfold jmK
  refine fsT_c _ _ (fun y _ h4 => ?_)
  unfold jmY
  exact fsT_c _ _ (fun x _ _ => jmF_c hG hC hR (by omega) (by omega))
theorem fnd_s {pg k h : Nat} {w : Nat × Nat} (hw : fnd G C R pg k h = some w) : w.1 + k ≤ C ∧ w.2 + h ≤ R ∧ frB G C R pg w.1 w.2 k h = true := by
  obtain ⟨y, _, _, hy⟩ := fsT_s _ _ _ hw
  obtain ⟨x, _, _, hx⟩ := fsT_s _ _ _ hy
  unfold fnX at hx
  by_cases hf : frB G C R pg x y k h = true
  · rw [if_pos hf] at hx
    cases hx
    have hf' := hf
    unfold frB at hf'
    rw [Bool.and_eq_true, Bool.and_eq_true, decide_eq_true_eq, decide_eq_true_eq] at hf'
    exact ⟨hf'.1.1, hf'.1.2, hf⟩
  · rw [if_neg hf] at hx
    cases hx
theorem fwF_s {ht : Nat → Option Nat} {fst : Nat} (h3 : fst ≤ 3) {w : Nat × Nat × Nat × Nat} (hw : fwF G C R ht fst = some w) : fst ≤ w.1 ∧ w.1 < 3 ∧ 1 ≤ w.2.1 ∧ w.2.1 ≤ C ∧ ∃ h, ht w.2.1 = some h ∧ w.2.2.1 + w.2.1 ≤ C ∧ w.2.2.2 + (h + 1) ≤ R := by
  obtain ⟨pg, p1, p2, hp⟩ := fsT_s _ _ _ hw
  obtain ⟨k, k1, k2, hk⟩ := fdT_s _ _ hp
  unfold fwK at hk
  cases hh : ht k with
  | none => rw [hh] at hk; cases hk
  | some h =>
    rw [hh] at hk
    dsimp only at hk
    cases hf : fnd G C R pg k (h + 1) with
    | none => rw [hf] at hk; cases hk
    | some xy =>
      rw [hf] at hk
      cases hk
      have := fnd_s hf
      exact ⟨p1, (by show pg < 3; omega), k1, k2, h, hh, this.1, this.2.1⟩
theorem jmF_s {pg k y x : Nat} {w : Nat × Nat × Nat × Nat × Nat × Nat × Nat × Nat × Nat × Nat} (hw : jmF G C R bd n fc fr pg k y x = some w) : w.1 = pg ∧ w.2.1 = k ∧ w.2.2.1 = x ∧ w.2.2.2.1 = y ∧ w.2.2.2.2.1 = cnF (rwF G pg x k) y (R - y) ∧ x + k ≤ C ∧ 2 ≤ w.2.2.2.2.1 ∧ fc ≤ k ∧ okH (w.2.2.2.2.1 - 1) fc fr k 1 = true ∧ spF bd n fc fr k w.2.2.2.2.1 = some w.2.2.2.2.2.1 ∧ fwF G C R (htF bd n w.2.2.2.2.2.1 0 0 R) (pg + 1) = some w.2.2.2.2.2.2 := by
  unfold jmF at hw
  by_cases hc : x + k ≤ C ∧ 2 ≤ cnF (rwF G pg x k) y (R - y) ∧ fc ≤ k ∧ okH (cnF (rwF G pg x k) y (R - y) - 1) fc fr k 1 = true
  · rw [if_pos hc] at hw
    cases hs : spF bd n fc fr k (cnF (rwF G pg x k) y (R - y)) with
    | none => rw [hs] at hw; cases hw
    | some m =>
      rw [hs] at hw
      dsimp only at hw
      cases hf : fwF G C R (htF bd n m 0 0 R) (pg + 1) with
      | none => rw [hf] at hw; cases hw
      | some w' =>
        rw [hf] at hw
        cases hw
        exact ⟨rfl, rfl, rfl, rfl, rfl, hc.1, hc.2.1, hc.2.2.1, hc.2.2.2, hs, hf⟩
  · rw [if_neg hc] at hw
    cases hw
theorem jmW_s {w : Nat × Nat × Nat × Nat × Nat × Nat × Nat × Nat × Nat × Nat} (hw : jmW G C R bd n fc fr = some w) : w.1 < 2 ∧ 1 ≤ w.2.1 ∧ w.2.1 ≤ C ∧ w.2.2.2.1 < R ∧ jmF G C R bd n fc fr w.1 w.2.1 w.2.2.2.1 w.2.2.1 = some w := by
  obtain ⟨pg, p1, p2, hp⟩ := fsT_s _ _ _ hw
  obtain ⟨k, k1, k2, hk⟩ := fdT_s _ _ hp
  obtain ⟨y, y1, y2, hy⟩ := fsT_s _ _ _ hk
  obtain ⟨x, x1, x2, hx⟩ := fsT_s _ _ _ hy
  have h := jmF_s hx
  rw [h.1, h.2.1, h.2.2.1, h.2.2.2.1]
  exact ⟨by omega, k1, k2, by omega, hx⟩
/-- the parts of a story that was placed: page, columns, x, y, height, lines; the rest's place -/
abbrev zPl : Type := Nat × Nat × Nat × Nat × Nat × Nat × Option (Nat × Nat × Nat × Nat × Nat)
def hOf (o : Option Nat) : Nat := o.getD 0 + 1
def plW (G : Nat → Int32) (C R : Nat) (bd : Nat → Bool) (n fc fr : Nat) : Option zPl := match fwF G C R (htF bd n 0 fc fr R) 0 with
  | some w => some (w.1, w.2.1, w.2.2.1, w.2.2.2, hOf (htF bd n 0 fc fr R w.2.1), n, none)
  | none => match jmW G C R bd n fc fr with
    | some w => some (w.1, w.2.1, w.2.2.1, w.2.2.2.1, w.2.2.2.2.1, w.2.2.2.2.2.1, some (w.2.2.2.2.2.2.1, w.2.2.2.2.2.2.2.1, w.2.2.2.2.2.2.2.2.1, w.2.2.2.2.2.2.2.2.2, hOf (htF bd n w.2.2.2.2.2.1 0 0 R w.2.2.2.2.2.2.2.1)))
    | none => none
theorem plc_c (hG : eqG G H) (hC : C ≤ 4) (hR : R ≤ 16) : plW G C R bd n fc fr = plW H C R bd n fc fr := by
  unfold plW
  rw [fwF_c hG hC hR, jmW_c hG hC hR]
/-- lines before each column, lines in each column: of part 0 and of part 1 -/
def t0F (bd : Nat → Bool) (n fc fr k h less m : Nat) : Nat → Nat := inF (rmF (h - 1) fc fr k less) (gdF bd n) 0 m k
def l0F (bd : Nat → Bool) (n fc fr k h less m : Nat) : Nat → Nat := liF (rmF (h - 1) fc fr k less) (gdF bd n) 0 m k
def t1F (bd : Nat → Bool) (n k h m : Nat) : Nat → Nat := inF (rmF (h - 1) 0 0 k 0) (gdF bd n) m n k
def l1F (bd : Nat → Bool) (n k h m : Nat) : Nat → Nat := liF (rmF (h - 1) 0 0 k 0) (gdF bd n) m n k
def lsF (o : Option (Nat × Nat × Nat × Nat × Nat)) : Nat := if o.isSome = true then 1 else 0
/-- what holds of the parts: they fit -/
def pl0 (C R : Nat) (bd : Nat → Bool) (n fc fr : Nat) (u : zPl) : Prop := u.1 < 3 ∧ 1 ≤ u.2.1 ∧ u.2.2.1 + u.2.1 ≤ C ∧ u.2.2.2.1 + u.2.2.2.2.1 ≤ R ∧ 2 ≤ u.2.2.2.2.1 ∧ fc ≤ u.2.1 ∧ u.2.2.2.2.2.1 ≤ n ∧ okH (u.2.2.2.2.1 - 1) fc fr u.2.1 (lsF u.2.2.2.2.2.2) = true ∧ pth (rmF (u.2.2.2.2.1 - 1) fc fr u.2.1 (lsF u.2.2.2.2.2.2)) (gdF bd n) u.2.2.2.2.2.1 0 u.2.1 0 = true ∧ gdF bd n u.2.2.2.2.2.1 = true ∧ (u.2.2.2.2.2.2 = none → u.2.2.2.2.2.1 = n)
def pl1 (C R : Nat) (bd : Nat → Bool) (n pg m : Nat) (v : Nat × Nat × Nat × Nat × Nat) : Prop := pg < v.1 ∧ v.1 < 3 ∧ 1 ≤ v.2.1 ∧ v.2.2.1 + v.2.1 ≤ C ∧ v.2.2.2.1 + v.2.2.2.2 ≤ R ∧ 2 ≤ v.2.2.2.2 ∧ 2 ≤ m ∧ okH (v.2.2.2.2 - 1) 0 0 v.2.1 0 = true ∧ pth (rmF (v.2.2.2.2 - 1) 0 0 v.2.1 0) (gdF bd n) n 0 v.2.1 m = true
theorem cnF_R {p : Nat → Bool} {y : Nat} (hy : y < R) : y + cnF p y (R - y) ≤ R := by
  have := cnF_le (p := p) (R - y) y
  omega
theorem plc_s (hbn : bd n = false) (hR : 4 ≤ R) {u : zPl} (hu : plW G C R bd n fc fr = some u) : pl0 C R bd n fc fr u ∧ ∀ v, u.2.2.2.2.2.2 = some v → pl1 C R bd n u.1 u.2.2.2.2.2.1 v := by
  have hgn : gdF bd n n = true := by unfold gdF; rw [hbn, decide_eq_true (Nat.le_refl _)]; rfl
  unfold plW at hu
  cases hw : fwF G C R (htF bd n 0 fc fr R) 0 with
  | some w =>
    rw [hw] at hu
    dsimp only at hu
    cases hu
    obtain ⟨a1, a2, a3, a4, h, a5, a6, a7⟩ := fwF_s (Nat.zero_le _) hw
    have hb := htF_b hR a5
    have hf := hb.2.2.2
    unfold ftB at hf
    rw [Bool.and_eq_true] at hf
    have ho : hOf (htF bd n 0 fc fr R w.2.1) = h + 1 := by rw [a5]; rfl
    refine ⟨⟨a2, a3, a6, ?_, ?_, hb.2.2.1, Nat.le_refl _, ?_, ?_, hgn, fun _ => rfl⟩, fun v hv => by cases hv⟩
    · dsimp only
      rw [ho]
      exact a7
    · dsimp only
      rw [ho]
      omega
    · dsimp only
      rw [ho]
      exact hf.1
    · dsimp only
      rw [ho]
      exact hf.2
  | none =>
    rw [hw] at hu
    dsimp only at hu
    cases hj : jmW G C R bd n fc fr with
    | none => rw [hj] at hu; cases hu
    | some w =>
      rw [hj] at hu
      dsimp only at hu
      cases hu
      obtain ⟨b1, b2, b3, b4, b5⟩ := jmW_s hj
      obtain ⟨_, _, _, _, c5, c6, c7, c8, c9, c10, c11⟩ := jmF_s b5
      have hsp := gsF_b _ _ c10
      have hsp2 := hsp.2.2
      rw [Bool.and_eq_true] at hsp2
      obtain ⟨a1, a2, a3, a4, h, a5, a6, a7⟩ := fwF_s (by omega) c11
      have hb := htF_b hR a5
      have hf := hb.2.2.2
      unfold ftB at hf
      rw [Bool.and_eq_true] at hf
      have ho : hOf (htF bd n w.2.2.2.2.2.1 0 0 R w.2.2.2.2.2.2.2.1) = h + 1 := by rw [a5]; rfl
      refine ⟨⟨(by show w.1 < 3; omega), b2, c6, ?_, c7, c8, (by show w.2.2.2.2.2.1 ≤ n; have := hsp.2.1; omega), c9, hsp2.2, hsp2.1, (fun z => by cases z)⟩, fun v hv => ?_⟩
      · dsimp only
        rw [c5]
        exact cnF_R b4
      · cases hv
        refine ⟨by dsimp only; omega, a2, a3, a6, ?_, ?_, hsp.1, ?_, ?_⟩
        · dsimp only
          rw [ho]
          exact a7
        · dsimp only
          rw [ho]
          omega
        · dsimp only
          rw [ho]
          exact hf.1
        · dsimp only
          rw [ho]
          exact hf.2
/-- the cells after a story was placed -/
def plG (s : Nat) (bd : Nat → Bool) (n fc fr : Nat) (G G' : Nat → Int32) (u : zPl) : Prop :=
  (∀ c r, c < u.2.1 → r < u.2.2.2.2.1 → G' (64 * u.1 + 16 * (u.2.2.1 + c) + (u.2.2.2.1 + r)) = nI (v0F (100 * (s + 1)) fc fr u.2.1 u.2.2.2.2.1 (lsF u.2.2.2.2.2.2) (t0F bd n fc fr u.2.1 u.2.2.2.2.1 (lsF u.2.2.2.2.2.2) u.2.2.2.2.2.1) (l0F bd n fc fr u.2.1 u.2.2.2.2.1 (lsF u.2.2.2.2.2.2) u.2.2.2.2.2.1) c r)) ∧
  (∀ v, u.2.2.2.2.2.2 = some v → ∀ c r, c < v.2.1 → r < v.2.2.2.2 → G' (64 * v.1 + 16 * (v.2.2.1 + c) + (v.2.2.2.1 + r)) = nI (v1F (100 * (s + 1)) (t1F bd n v.2.1 v.2.2.2.2 u.2.2.2.2.2.1) (l1F bd n v.2.1 v.2.2.2.2 u.2.2.2.2.2.1) c r)) ∧
  (∀ i, (∀ c r, c < u.2.1 → r < u.2.2.2.2.1 → i ≠ 64 * u.1 + 16 * (u.2.2.1 + c) + (u.2.2.2.1 + r)) → (∀ v, u.2.2.2.2.2.2 = some v → ∀ c r, c < v.2.1 → r < v.2.2.2.2 → i ≠ 64 * v.1 + 16 * (v.2.2.1 + c) + (v.2.2.2.1 + r)) → G' i = G i)
theorem plG_e {s : Nat} {G' H' : Nat → Int32} {u : zPl} (hG : eqG G H) (h1 : plG s bd n fc fr G G' u) (h2 : plG s bd n fc fr H H' u) : eqG G' H' := by
  intro i hi
  by_cases ha : ∃ c r, c < u.2.1 ∧ r < u.2.2.2.2.1 ∧ i = 64 * u.1 + 16 * (u.2.2.1 + c) + (u.2.2.2.1 + r)
  · obtain ⟨c, r, hc, hr, rfl⟩ := ha
    rw [h1.1 c r hc hr, h2.1 c r hc hr]
  · by_cases hb : ∃ v, u.2.2.2.2.2.2 = some v ∧ ∃ c r, c < v.2.1 ∧ r < v.2.2.2.2 ∧ i = 64 * v.1 + 16 * (v.2.2.1 + c) + (v.2.2.2.1 + r)
    · obtain ⟨v, hv, c, r, hc, hr, rfl⟩ := hb
      rw [h1.2.1 v hv c r hc hr, h2.2.1 v hv c r hc hr]
    · have n1 : ∀ c r, c < u.2.1 → r < u.2.2.2.2.1 → i ≠ 64 * u.1 + 16 * (u.2.2.1 + c) + (u.2.2.2.1 + r) := fun c r hc hr hh => ha ⟨c, r, hc, hr, hh⟩
      have n2 : ∀ v, u.2.2.2.2.2.2 = some v → ∀ c r, c < v.2.1 → r < v.2.2.2.2 → i ≠ 64 * v.1 + 16 * (v.2.2.1 + c) + (v.2.2.2.1 + r) := fun v hv c r hc hr hh => hb ⟨v, hv, c, r, hc, hr, hh⟩
      rw [h1.2.2 i n1 n2, h2.2.2 i n1 n2, hG i hi]
end PLC
