/-! plan: a story's lines by letters: (paragraph, letters before, letters behind, letters of the paragraph) -/
def foL (B : Nat → Option (Nat × Nat)) (l : Nat) : Nat → Nat → List (Nat × Nat)
  | 0, _ => []
  | m + 1, k => if k < l then (match B k with
    | none => []
    | some x => (k, x.2) :: foL B l m x.2) else []
/-- measure, widths, patterns, text -/
abbrev zE : Type := Nat × (Nat → Nat) × Nat × (Nat → Nat) × (Nat → Nat) × (Nat → Nat) × (Nat → Nat) × Nat
def eD (r : zE) : Nat := r.1
def eW (r : zE) : Nat → Nat := r.2.1
def eP (r : zE) : Nat := r.2.2.1
def en (r : zE) : Nat → Nat := r.2.2.2.1
def ek (r : zE) : Nat → Nat := r.2.2.2.2.1
def ev (r : zE) : Nat → Nat := r.2.2.2.2.2.1
def eT (r : zE) : Nat → Nat := r.2.2.2.2.2.2.1
def eN (r : zE) : Nat := r.2.2.2.2.2.2.2
def okE (r : zE) : Prop := (16 ≤ eD r ∧ eD r ≤ 60) ∧ (∀ j, j < 26 → 1 ≤ eW r j ∧ eW r j ≤ 9) ∧ okP (eP r) (en r) (ek r) (ev r) ∧ okX (eT r) (eN r)
def pL (r : zE) (a : Nat) : List Nat := wsL (eT r) (eN r) 16 a
def pC (r : zE) (a : Nat) : Nat → Nat := wsC (eT r) (eN r) 16 a
def pQ (r : zE) (a : Nat) : Nat → Nat := qd (eP r) (en r) (ek r) (ev r) (pC r a) (pL r a) 0
def pl (r : zE) (a : Nat) : Nat := (pL r a).sum
def pxb (r : zE) (a : Nat) : Nat → Nat := xbF (eW r) (pC r a) (pQ r a)
def pxc (r : zE) (a : Nat) : Nat → Nat := xcF (eW r) (pC r a) (pQ r a)
def pB (r : zE) (a : Nat) : Nat → Option (Nat × Nat) := bsL (eD r) (pl r a) (pxb r a) (pxc r a) (pQ r a)
def pF (r : zE) (a : Nat) : List (Nat × Nat) := foL (pB r a) (pl r a) (pl r a) 0
def lnS (r : zE) (Fs : Nat → Nat) : Nat → List (Nat × Nat × Nat × Nat)
  | 0 => []
  | p + 1 => lnS r Fs p ++ (pF r (Fs p)).map (fun x => (p, x.1, x.2, pl r (Fs p)))
def faS (r : zE) (Fs : Nat → Nat) : Nat → Bool
  | 0 => false
  | p + 1 => faS r Fs p || (pB r (Fs p) 0).isNone
def bdL (X : List (Nat × Nat × Nat × Nat)) (i : Nat) : Bool := match X[i - 1]?, X[i]? with
  | some u, some v => decide (0 < i) && (decide (u.1 = v.1) && (decide (u.2.1 = 0) || decide (v.2.2.1 = v.2.2.2)))
  | _, _ => false
/-- what makes the chain of lines go on to the end -/
def gdB (B : Nat → Option (Nat × Nat)) (l : Nat) : Prop := ∀ k x, k < l → B k = some x → k < x.2 ∧ x.2 ≤ l ∧ (x.2 < l → (B x.2).isSome = true)
theorem foL_e (B : Nat → Option (Nat × Nat)) (l m k : Nat) : foL B l (m + 1) k = if k < l then (match B k with
    | none => []
    | some x => (k, x.2) :: foL B l m x.2) else [] := rfl
theorem foL_len {B : Nat → Option (Nat × Nat)} {l : Nat} (hg : gdB B l) : ∀ (m k : Nat), k ≤ l → k + (foL B l m k).length ≤ l := by
  intro m
  induction m with
  | zero => intro k hk; exact hk
  | succ m ih =>
    intro k hk
    rw [foL_e]
    by_cases h : k < l
    · rw [if_pos h]
      cases hb : B k with
      | none => exact hk
      | some x =>
        have := hg k x h hb
        have h2 := ih x.2 this.2.1
        show k + ((foL B l m x.2).length + 1) ≤ l
        omega
    · rw [if_neg h]
      exact hk
theorem foL_0 {B : Nat → Option (Nat × Nat)} {l : Nat} : ∀ (m k : Nat), l ≤ k → foL B l m k = [] := by
  intro m k h
  cases m with
  | zero => rfl
  | succ m => rw [foL_e, if_neg (by omega)]
/-- the i-th line: it begins at 0 only as the first, it ends at l only as the last -/
theorem foL_i {B : Nat → Option (Nat × Nat)} {l : Nat} (hg : gdB B l) : ∀ (m k : Nat), l ≤ k + m → (k < l → (B k).isSome = true) → ∀ i x, (foL B l m k)[i]? = some x → (i = 0 → x.1 = k) ∧ (0 < i → k < x.1) ∧ (x.2 = l ↔ i + 1 = (foL B l m k).length) ∧ x.1 < x.2 ∧ x.2 ≤ l := by
  intro m
  induction m with
  | zero => intro k _ _ i x hx; cases hx
  | succ m ih =>
    intro k hl hs i x hx
    rw [foL_e] at hx ⊢
    by_cases h : k < l
    · rw [if_pos h] at hx ⊢
      cases hb : B k with
      | none =>
        have := hs h
        rw [hb] at this
        cases this
      | some y =>
        rw [hb] at hx
        have hy := hg k y h hb
        cases i with
        | zero =>
          have hx' : (k, y.2) = x := Option.some.inj hx
          rw [← hx']
          refine ⟨fun _ => rfl, fun z => by omega, ?_, hy.1, hy.2.1⟩
          show y.2 = l ↔ 0 + 1 = (foL B l m y.2).length + 1
          constructor
          · intro z
            rw [foL_0 m y.2 (by omega)]
            rfl
          · intro z
            by_cases h2 : y.2 = l
            · exact h2
            · exfalso
              have h3 := hy.2.2 (by omega)
              cases m with
              | zero => omega
              | succ m =>
                rw [foL_e, if_pos (by omega)] at z
                cases hb2 : B y.2 with
                | none => rw [hb2] at h3; cases h3
                | some w =>
                  rw [hb2] at z
                  have z' : 0 + 1 = ((foL B l m w.2).length + 1) + 1 := z
                  omega
        | succ i =>
          have hx' : (foL B l m y.2)[i]? = some x := hx
          have hi := ih y.2 (by omega) hy.2.2 i x hx'
          refine ⟨fun z => by omega, fun _ => ?_, ?_, hi.2.2.2.1, hi.2.2.2.2⟩
          · cases i with
            | zero => rw [hi.1 rfl]; exact hy.1
            | succ i => have := hi.2.1 (by omega); omega
          · rw [hi.2.2.1]
            show i + 1 = (foL B l m y.2).length ↔ i + 1 + 1 = (foL B l m y.2).length + 1
            omega
    · rw [if_neg h] at hx
      cases hx
theorem pB_g {r : zE} {a : Nat} (hr : okE r) (hp : posL (pL r a)) (hne : pL r a ≠ []) : gdB (pB r a) (pl r a) := by
  intro k x hk hx
  have h1 := bsL_b hr.1.2 (pl r a - k) k (by omega) x hx
  refine ⟨h1.2.2, h1.2.1, fun h => ?_⟩
  have h2 := bsL_t hk hx
  rcases h2.2 with h3 | h3
  · have := qd_le (P := eP r) (pn := en r) (pk := ek r) (pv := ev r) (c := pC r a) (pL r a) 0 x.2 hp h
    have h4 : pQ r a x.2 ≤ 2 := this
    omega
  · exact h3
theorem hbt_t (n j : Nat) : hbt n j = n.testBit j := by
  unfold hbt
  rw [Nat.testBit_eq_decide_div_mod_eq]
theorem bdL_lt {X : List (Nat × Nat × Nat × Nat)} {i : Nat} (h : X.length ≤ i) : bdL X i = false := by
  unfold bdL
  rw [List.getElem?_eq_none h]
  cases X[i - 1]? <;> rfl
theorem bdL_ap {X Y : List (Nat × Nat × Nat × Nat)} {i : Nat} (h : i < X.length) : bdL (X ++ Y) i = bdL X i := by
  unfold bdL
  rw [List.getElem?_append_left h, List.getElem?_append_left (by omega : i - 1 < X.length)]
/-- the lines of one more paragraph: what is bad there -/
theorem bdL_p {X : List (Nat × Nat × Nat × Nat)} {Z : List (Nat × Nat)} {p l : Nat} (hX : ∀ u, u ∈ X → u.1 < p) (hZ : ∀ i x, Z[i]? = some x → (i = 0 → x.1 = 0) ∧ (0 < i → 0 < x.1) ∧ (x.2 = l ↔ i + 1 = Z.length)) (i : Nat) :
    bdL (X ++ Z.map (fun x => (p, x.1, x.2, l))) i = (bdL X i || (decide (2 ≤ Z.length) && (decide (i = X.length + 1) || decide (i + 1 = X.length + Z.length)))) := by
  by_cases h1 : i < X.length
  · rw [bdL_ap h1]
    by_cases h2 : 2 ≤ Z.length
    · rw [decide_eq_false (by omega : ¬ i = X.length + 1), decide_eq_false (by omega : ¬ i + 1 = X.length + Z.length), Bool.or_self, Bool.and_false, Bool.or_false]
    · rw [decide_eq_false h2, Bool.false_and, Bool.or_false]
  · rw [bdL_lt (X := X) (by omega), Bool.false_or]
    by_cases h2 : i < X.length + Z.length
    · obtain ⟨j, rfl⟩ : ∃ j, i = X.length + j := ⟨i - X.length, by omega⟩
      have hj : j < Z.length := by omega
      have hz : Z[j]? = some (Z[j]) := List.getElem?_eq_getElem hj
      have hzj := hZ j _ hz
      have e1 : (X ++ Z.map (fun x => (p, x.1, x.2, l)))[X.length + j]? = some (p, (Z[j]).1, (Z[j]).2, l) := by
        rw [List.getElem?_append_right (by omega), show X.length + j - X.length = j by omega, List.getElem?_map, hz]
        rfl
      unfold bdL
      rw [e1]
      by_cases h0 : j = 0
      · subst h0
        have hr : (decide (2 ≤ Z.length) && (decide (X.length + 0 = X.length + 1) || decide (X.length + 0 + 1 = X.length + Z.length))) = false := by
          by_cases h3 : 2 ≤ Z.length
          · rw [decide_eq_false (by omega : ¬ X.length + 0 = X.length + 1), decide_eq_false (by omega : ¬ X.length + 0 + 1 = X.length + Z.length), Bool.or_self, Bool.and_false]
          · rw [decide_eq_false h3, Bool.false_and]
        rw [hr]
        by_cases hl : X.length = 0
        · cases hh : (X ++ Z.map (fun x => (p, x.1, x.2, l)))[X.length + 0 - 1]? with
          | none => rfl
          | some u =>
            dsimp only
            rw [decide_eq_false (by omega), Bool.false_and]
        · have hl2 : X.length + 0 - 1 < X.length := by omega
          rw [List.getElem?_append_left hl2, List.getElem?_eq_getElem hl2]
          dsimp only
          have := hX _ (List.getElem_mem hl2)
          rw [decide_eq_false (by omega : ¬ (X[X.length + 0 - 1]).1 = p), Bool.false_and, Bool.and_false]
      · obtain ⟨j', rfl⟩ : ∃ j', j = j' + 1 := ⟨j - 1, by omega⟩
        have hj' : j' < Z.length := by omega
        have hz' : Z[j']? = some (Z[j']) := List.getElem?_eq_getElem hj'
        have hzj' := hZ j' _ hz'
        have e2 : (X ++ Z.map (fun x => (p, x.1, x.2, l)))[X.length + (j' + 1) - 1]? = some (p, (Z[j']).1, (Z[j']).2, l) := by
          rw [show X.length + (j' + 1) - 1 = X.length + j' by omega, List.getElem?_append_right (by omega), show X.length + j' - X.length = j' by omega, List.getElem?_map, hz']
          rfl
        rw [e2]
        dsimp only
        rw [decide_eq_true (by omega : 0 < X.length + (j' + 1)), decide_eq_true (rfl : p = p), decide_eq_true (by omega : 2 ≤ Z.length), Bool.true_and, Bool.true_and, Bool.true_and]
        have c1 : decide ((Z[j']).1 = 0) = decide (X.length + (j' + 1) = X.length + 1) := by
          by_cases h3 : j' = 0
          · rw [decide_eq_true (hzj'.1 h3), decide_eq_true (by omega)]
          · rw [decide_eq_false (by have := hzj'.2.1 (by omega); omega), decide_eq_false (by omega)]
        have c2 : decide ((Z[j' + 1]).2 = l) = decide (X.length + (j' + 1) + 1 = X.length + Z.length) := by
          by_cases h3 : (Z[j' + 1]).2 = l
          · have := hzj.2.2.mp h3
            rw [decide_eq_true h3, decide_eq_true (by omega)]
          · rw [decide_eq_false h3, decide_eq_false (fun q => h3 (hzj.2.2.mpr (by omega)))]
        rw [c1, c2]
    · rw [bdL_lt (by rw [List.length_append, List.length_map]; omega)]
      by_cases h3 : 2 ≤ Z.length
      · rw [decide_eq_false (by omega : ¬ i = X.length + 1), decide_eq_false (by omega : ¬ i + 1 = X.length + Z.length), Bool.or_self, Bool.and_false]
      · rw [decide_eq_false h3, Bool.false_and]
theorem lnS_p {r : zE} {Fs : Nat → Nat} : ∀ (p : Nat) (u : Nat × Nat × Nat × Nat), u ∈ lnS r Fs p → u.1 < p
  | 0, u, h => by cases h
  | p + 1, u, h => by
    rcases List.mem_append.mp h with h | h
    · have := lnS_p p u h
      omega
    · obtain ⟨x, _, rfl⟩ := List.mem_map.mp h
      exact Nat.lt_succ_self p
/-- the paragraphs and figures that were read -/
def okφ (T : Nat → Nat) (N : Nat) (x : Nat × Nat × Nat × Nat × (Nat → Nat)) : Prop := x.2.1 ≤ 4 ∧ x.2.2.1 ≤ 9 ∧ x.2.2.2.1 ≤ 9 ∧ ∀ j, j < x.2.1 → wdK T N 16 (x.2.2.2.2 j) = true ∧ x.2.2.2.2 j ≤ N
theorem pst_φ {T : Nat → Nat} {N : Nat} {x : Nat × Nat × Nat × Nat × (Nat → Nat)} (h : okφ T N x) (hb : psB T N x = true) : okφ T N (pst T N x) := by
  obtain ⟨a, q, fc, fr, F⟩ := x
  obtain ⟨h1, h2, h3, h4⟩ := h
  dsimp only at h1 h2 h3 h4
  unfold psB ptB at hb
  dsimp only at hb
  unfold pst okφ ptQ ptC ptR ptF
  dsimp only
  by_cases hc : ch T N a = 61
  · rw [if_pos hc] at hb
    rw [Bool.and_eq_true] at hb
    have hf := hb.2
    unfold figB at hf
    rw [Bool.and_eq_true, Bool.and_eq_true] at hf
    have f1 := hf.1
    have f2 := hf.2.1
    unfold dg at f1 f2
    rw [Bool.and_eq_true, decide_eq_true_eq, decide_eq_true_eq] at f1 f2
    rw [if_pos hc, if_pos hc, if_pos hc]
    refine ⟨h1, by omega, by omega, fun j hj => ?_⟩
    rw [if_pos hc]
    exact h4 j hj
  · rw [if_neg hc] at hb
    rw [Bool.and_eq_true, decide_eq_true_eq] at hb
    rw [if_neg hc, if_neg hc, if_neg hc]
    refine ⟨by omega, h2, h3, fun j hj => ?_⟩
    rw [if_neg hc]
    by_cases hjq : j = q
    · rw [if_pos hjq]
      refine ⟨hb.2, ?_⟩
      have hw := hb.2
      unfold wdK at hw
      rw [Bool.and_eq_true] at hw
      have hw2 := hw.1
      unfold wsB wOk at hw2
      rw [Bool.and_eq_true, Bool.and_eq_true, decide_eq_true_eq] at hw2
      have := isN_in (rn_pos.mp hw2.1.1)
      omega
    · rw [if_neg hjq]
      exact h4 j (by omega)
theorem lp_φ {T : Nat → Nat} {N : Nat} : ∀ (m : Nat) (b : Bool) (x : Nat × Nat × Nat × Nat × (Nat → Nat)), (b = true → okφ T N x) → (lp T N m b x).1 = true → okφ T N (lp T N m b x).2 := by
  intro m
  induction m with
  | zero => intro b x h hb; exact h hb
  | succ m ih =>
    intro b x h hb
    rw [lp] at hb ⊢
    by_cases hc : b = true ∧ x.1 < N ∧ ch T N x.1 ≠ 35
    · rw [if_pos hc] at hb ⊢
      exact ih _ _ (fun hp => pst_φ (h hc.1) hp) hb
    · rw [if_neg hc] at hb ⊢
      exact h hb
theorem sy_φ {T : Nat → Nat} {N a : Nat} (h : syB T N a = true) : okφ T N (syL T N a).2 := by
  have h1 := (syA_ok h).2.2.2.1
  unfold syL at h1 ⊢
  refine lp_φ _ _ _ (fun hp => pst_φ ?_ hp) h1
  exact ⟨Nat.zero_le _, Nat.zero_le _, Nat.zero_le _, fun j hj => absurd hj (Nat.not_lt_zero _)⟩
