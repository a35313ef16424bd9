/-! plan: the best break, counted by letters. Q k: how a line may end behind k letters (0 not, 1 a word's end, 2 a cut, 3 the end);
cp k, bp k: the character behind the k-th letter, the character at which a line begins after k letters. -/
def chN (t : Nat) (o : Option Nat) (b : Option (Nat × Nat)) : Option (Nat × Nat) := match o, b with
  | none, b => b
  | some v, none => some (v, t)
  | some v, some (w, s) => if w < v then some (w, s) else some (v, t)
def chL (D : Nat) (g Q : Nat → Nat) (r : Nat → Option Nat) : Nat → Nat → Option (Nat × Nat) → Option (Nat × Nat)
  | _, 0, b => b
  | t, m + 1, b => if D < g t then b else chL D g Q r (t + 1) m (chN t (cstF D (g t) (Q t) (r t)) b)
def yb (h : Nat → Nat) (y0 : Int32) (b : Option (Nat × Nat)) : Int32 := match b with
  | none => y0
  | some x => nI (h x.2)
def okB (l n : Nat) (Q cp bp : Nat → Nat) : Prop := 0 < l ∧ bp 0 = 0 ∧ (∀ k, k < l → cp (k + 1) = bp k + 1) ∧ (∀ k, 0 < k → k < l → bp k = cp k + (if Q k = 1 then 1 else 0)) ∧ cp l = n ∧ Q l = 3 ∧ (∀ k, 0 < k → k < l → Q k ≤ 2) ∧ Q 0 = 0
theorem chz_e (D : Nat) (U e : Nat → Nat) (lf : Nat → Option Nat) (f t m : Nat) (b : Option Nat) (y : Int32) : chz D U e lf f t (m + 1) b y = if D < U t - U f then (b, y) else match cstF D (U t - U f) (e t) (lf (nxB e t)), b with
    | none, b => chz D U e lf f (t + 1) m b y
    | some v, none => chz D U e lf f (t + 1) m (some v) (nI t)
    | some v, some w => if w < v then chz D U e lf f (t + 1) m (some w) y else chz D U e lf f (t + 1) m (some v) (nI t) := rfl
theorem chz_1 {D f : Nat} {U e : Nat → Nat} {lf : Nat → Option Nat} {t m : Nat} {b : Option (Nat × Nat)} {y0 : Int32} {h : Nat → Nat} {s : Nat} (hs : h s = t) (hw : ¬ D < U t - U f) :
    chz D U e lf f t (m + 1) (b.map Prod.fst) (yb h y0 b) = chz D U e lf f (t + 1) m ((chN s (cstF D (U t - U f) (e t) (lf (nxB e t))) b).map Prod.fst) (yb h y0 (chN s (cstF D (U t - U f) (e t) (lf (nxB e t))) b)) := by
  rw [chz_e, if_neg hw]
  cases hc : cstF D (U t - U f) (e t) (lf (nxB e t)) with
  | none => rfl
  | some v =>
    cases b with
    | none =>
      show chz D U e lf f (t + 1) m (some v) (nI t) = chz D U e lf f (t + 1) m (some v) (nI (h s))
      rw [hs]
    | some x =>
      obtain ⟨w, s'⟩ := x
      show (if w < v then chz D U e lf f (t + 1) m (some w) (nI (h s')) else chz D U e lf f (t + 1) m (some v) (nI t)) = _
      unfold chN
      by_cases hx : w < v
      · rw [if_pos hx]
        dsimp only
        rw [if_pos hx]
        rfl
      · rw [if_neg hx]
        dsimp only
        rw [if_neg hx]
        show _ = chz D U e lf f (t + 1) m (some v) (nI (h s))
        rw [hs]
theorem cst0 {D w : Nat} {r : Option Nat} : cstF D w 0 r = none := rfl
theorem chz_L {D l n f : Nat} {U e Q cp bp : Nat → Nat} {lf r : Nat → Option Nat} {y0 : Int32} (ok : okB l n Q cp bp) (he : ∀ t, 0 < t → t ≤ l → e (cp t) = Q t) (he0 : ∀ t, 0 < t → t < l → Q t = 1 → e (bp t) = 0) (hU : ∀ t, t < l → U (bp t) ≤ U (cp (t + 1))) (hr : ∀ t, 0 < t → t < l → Q t = 1 ∨ Q t = 2 → lf (nxB e (cp t)) = r t) :
    ∀ (m t : Nat) (b : Option (Nat × Nat)), 0 < t → l = t + m → f < cp t →
      chz D U e lf f (cp t) (n + 1 - cp t) (b.map Prod.fst) (yb cp y0 b) = ((chL D (fun t => U (cp t) - U f) Q r t (m + 1) b).map Prod.fst, yb cp y0 (chL D (fun t => U (cp t) - U f) Q r t (m + 1) b)) := by
  obtain ⟨o1, o2, o3, o4, o5, o6, o7, o8⟩ := ok
  have hcst : ∀ t, 0 < t → t ≤ l → cstF D (U (cp t) - U f) (e (cp t)) (lf (nxB e (cp t))) = cstF D (U (cp t) - U f) (Q t) (r t) := by
    intro t h1 h2
    rw [he t h1 h2]
    by_cases hl : t = l
    · subst hl
      rw [o6]
      rfl
    · have h3 := o7 t h1 (by omega)
      by_cases h4 : Q t = 0
      · rw [h4]
        rfl
      · rw [hr t h1 (by omega) (by omega)]
  intro m
  induction m with
  | zero =>
    intro t b ht hm hf
    have htl : t = l := by omega
    subst htl
    rw [show n + 1 - cp t = 0 + 1 by omega]
    rw [chL]
    by_cases hw : D < U (cp t) - U f
    · rw [chz_e, if_pos hw, if_pos hw]
    · rw [chz_1 rfl hw, if_neg hw, hcst t ht (Nat.le_refl _)]
      rfl
  | succ m ih =>
    intro t b ht hm hf
    have hc1 := o3 t (by omega)
    have hb1 := o4 t ht (by omega)
    have hlast : ∀ j, t + 1 + j ≤ l → cp (t + 1) + j ≤ cp (t + 1 + j) := by
      intro j
      induction j with
      | zero => intro _; exact Nat.le_refl _
      | succ j ihj =>
        intro hj
        have h1 := ihj (by omega)
        have h2 := o3 (t + 1 + j) (by omega)
        have h3 := o4 (t + 1 + j) (by omega) (by omega)
        rw [show t + 1 + (j + 1) = t + 1 + j + 1 by omega]
        omega
    have hn : cp (t + 1) ≤ n := by
      have := hlast (l - (t + 1)) (by omega)
      rw [show t + 1 + (l - (t + 1)) = l by omega, o5] at this
      omega
    rw [chL]
    by_cases hw : D < U (cp t) - U f
    · rw [show n + 1 - cp t = (n - cp t) + 1 by omega, chz_e, if_pos hw, if_pos hw]
    · rw [if_neg hw]
      rw [show n + 1 - cp t = (n - cp t) + 1 by omega, chz_1 rfl hw, hcst t ht (by omega)]
      have hu := hU t (by omega)
      by_cases hq : Q t = 1
      · rw [if_pos hq] at hb1
        have e0 := he0 t ht (by omega) hq
        rw [← hb1]
        rw [show n - cp t = (n - bp t) + 1 by omega]
        by_cases hw2 : D < U (bp t) - U f
        · rw [chz_e, if_pos hw2]
          have hw3 : D < U (cp (t + 1)) - U f := by omega
          rw [chL, if_pos hw3]
        · have hz : ∀ b' : Option (Nat × Nat), chz D U e lf f (bp t) ((n - bp t) + 1) (b'.map Prod.fst) (yb cp y0 b') = chz D U e lf f (bp t + 1) (n - bp t) (b'.map Prod.fst) (yb cp y0 b') := by
            intro b'
            rw [chz_e, if_neg hw2, e0]
            rfl
          rw [hz, ← hc1, show n - bp t = n + 1 - cp (t + 1) by omega]
          exact ih (t + 1) _ (by omega) (by omega) (by omega)
      · rw [if_neg hq] at hb1
        rw [show cp t + 1 = cp (t + 1) by omega, show n - cp t = n + 1 - cp (t + 1) by omega]
        exact ih (t + 1) _ (by omega) (by omega) (by omega)
theorem chL_c {D : Nat} {g g' Q Q' : Nat → Nat} {r r' : Nat → Option Nat} : ∀ (m t : Nat) (b : Option (Nat × Nat)), (∀ q, t ≤ q → q < t + m → g q = g' q ∧ Q q = Q' q ∧ cstF D (g q) (Q q) (r q) = cstF D (g q) (Q q) (r' q)) → chL D g Q r t m b = chL D g' Q' r' t m b := by
  intro m
  induction m with
  | zero => intro t b _; rfl
  | succ m ih =>
    intro t b h
    obtain ⟨a1, a2, a3⟩ := h t (Nat.le_refl _) (by omega)
    rw [chL, chL, a3, a1, a2, ih (t + 1) _ (fun q h1 h2 => h q (by omega) (by omega))]
/-- the table of the best breaks, from the end on -/
def tbL (D l : Nat) (xb xc Q : Nat → Nat) : Nat → Nat → Option (Nat × Nat)
  | 0 => fun _ => none
  | m + 1 => fun k => if k + m + 1 = l then (if k = 0 ∨ Q k = 1 ∨ Q k = 2 then chL D (fun t => xc t - xb k) Q (fun t => (tbL D l xb xc Q m t).map Prod.fst) (k + 1) (m + 1) none else none) else tbL D l xb xc Q m k
def bsL (D l : Nat) (xb xc Q : Nat → Nat) (k : Nat) : Option (Nat × Nat) := tbL D l xb xc Q (l - k) k
theorem tbL_s {D l : Nat} {xb xc Q : Nat → Nat} : ∀ (m k : Nat), l ≤ k + m → tbL D l xb xc Q m k = bsL D l xb xc Q k := by
  intro m
  induction m with
  | zero =>
    intro k h
    unfold bsL
    rw [show l - k = 0 by omega]
  | succ m ih =>
    intro k h
    by_cases h2 : k + m + 1 = l
    · unfold bsL
      rw [show l - k = m + 1 by omega]
    · refine Eq.trans (if_neg h2) ?_
      exact ih k (by omega)
theorem bsL_e {D l : Nat} {xb xc Q : Nat → Nat} {k : Nat} (hk : k < l) : bsL D l xb xc Q k = if k = 0 ∨ Q k = 1 ∨ Q k = 2 then chL D (fun t => xc t - xb k) Q (fun t => (bsL D l xb xc Q t).map Prod.fst) (k + 1) (l - k) none else none := by
  obtain ⟨m, hm⟩ : ∃ m, l - k = m + 1 := ⟨l - k - 1, by omega⟩
  have : bsL D l xb xc Q k = tbL D l xb xc Q (m + 1) k := by unfold bsL; rw [hm]
  have h2 : k + m + 1 = l := by omega
  rw [this, hm]
  refine Eq.trans (if_pos h2) ?_
  by_cases h : k = 0 ∨ Q k = 1 ∨ Q k = 2
  · rw [if_pos h, if_pos h]
    refine chL_c _ _ _ (fun q h1 h2 => ⟨rfl, rfl, ?_⟩)
    rw [tbL_s m q (by omega)]
  · rw [if_neg h, if_neg h]
theorem cst_b {D w et B : Nat} {r : Option Nat} {v : Nat} (hD : D ≤ 60) (h : cstF D w et r = some v) (hr : ∀ u, r = some u → u ≤ B) : v ≤ B + 3700 := by
  have hsq : (D - w) * (D - w) ≤ 60 * 60 := Nat.mul_le_mul (by omega) (by omega)
  have hsq2 : (D - w - 2) * (D - w - 2) ≤ 60 * 60 := Nat.mul_le_mul (by omega) (by omega)
  unfold cstF at h
  cases r with
  | none =>
    repeat' split at h
    all_goals first | cases h | skip
    all_goals omega
  | some u =>
    have := hr u rfl
    repeat' split at h
    · cases h
    · have h' : u + (D - w - 2) * (D - w - 2) + 100 = v := Option.some.inj h
      omega
    · cases h
    · have h' : 0 = v := Option.some.inj h
      omega
    · have h' : u + (D - w) * (D - w) = v := Option.some.inj h
      omega
theorem chL_b {D B : Nat} {g Q : Nat → Nat} {r : Nat → Option Nat} (hD : D ≤ 60) : ∀ (m t : Nat) (b : Option (Nat × Nat)), (∀ q, t ≤ q → q < t + m → ∀ u, r q = some u → u ≤ B) → (∀ x, b = some x → x.1 ≤ B + 3700 ∧ x.2 < t + m) → ∀ x, chL D g Q r t m b = some x → x.1 ≤ B + 3700 ∧ x.2 < t + m := by
  intro m
  induction m with
  | zero => intro t b _ hb x hx; exact hb x hx
  | succ m ih =>
    intro t b hr hb x hx
    rw [chL] at hx
    split at hx
    · exact hb x hx
    · have := ih (t + 1) _ (fun q h1 h2 => hr q (by omega) (by omega)) ?_ x hx
      · exact ⟨this.1, by omega⟩
      · intro x' hx'
        unfold chN at hx'
        cases hc : cstF D (g t) (Q t) (r t) with
        | none =>
          rw [hc] at hx'
          have := hb x' hx'
          exact ⟨this.1, by omega⟩
        | some v =>
          have hv := cst_b hD hc (hr t (Nat.le_refl _) (by omega))
          rw [hc] at hx'
          cases b with
          | none =>
            cases hx'
            exact ⟨hv, by dsimp only; omega⟩
          | some y =>
            obtain ⟨w, s⟩ := y
            dsimp only at hx'
            split at hx'
            · cases hx'
              have := hb _ rfl
              exact ⟨this.1, by have := this.2; omega⟩
            · cases hx'
              exact ⟨hv, by dsimp only; omega⟩
/-- where a best line from k on ends: behind k, at an end that may be -/
theorem chL_t {D k : Nat} {g Q : Nat → Nat} {r : Nat → Option Nat} : ∀ (m t : Nat) (b : Option (Nat × Nat)), k < t → (∀ x, b = some x → k < x.2 ∧ Q x.2 ≠ 0 ∧ (Q x.2 = 3 ∨ (r x.2).isSome = true)) → ∀ x, chL D g Q r t m b = some x → k < x.2 ∧ Q x.2 ≠ 0 ∧ (Q x.2 = 3 ∨ (r x.2).isSome = true) := by
  intro m
  induction m with
  | zero => intro t b _ hb x hx; exact hb x hx
  | succ m ih =>
    intro t b hk hb x hx
    rw [chL] at hx
    split at hx
    · exact hb x hx
    · refine ih (t + 1) _ (by omega) ?_ x hx
      intro x' hx'
      have hcc : ∀ v, cstF D (g t) (Q t) (r t) = some v → Q t ≠ 0 ∧ (Q t = 3 ∨ (r t).isSome = true) := by
        intro v hv
        unfold cstF at hv
        cases hr : r t with
        | none =>
          rw [hr] at hv
          repeat' split at hv
          all_goals first | cases hv | skip
          all_goals exact ⟨by omega, Or.inl (by omega)⟩
        | some u =>
          refine ⟨?_, Or.inr rfl⟩
          intro h0
          rw [h0] at hv
          cases hv
      unfold chN at hx'
      cases hc : cstF D (g t) (Q t) (r t) with
      | none =>
        rw [hc] at hx'
        exact hb x' hx'
      | some v =>
        have hv := hcc v hc
        rw [hc] at hx'
        cases b with
        | none =>
          cases hx'
          exact ⟨hk, hv⟩
        | some y =>
          obtain ⟨w, s⟩ := y
          dsimp only at hx'
          split at hx'
          · cases hx'
            exact hb _ rfl
          · cases hx'
            exact ⟨hk, hv⟩
theorem bsL_b {D l : Nat} {xb xc Q : Nat → Nat} (hD : D ≤ 60) : ∀ (m k : Nat), l = k + m → ∀ x, bsL D l xb xc Q k = some x → x.1 ≤ 3700 * m ∧ x.2 ≤ l ∧ k < x.2 := by
  intro m
  induction m using Nat.strongRecOn with
  | ind m ih =>
    intro k hm x hx
    by_cases hk : k < l
    · rw [bsL_e hk] at hx
      split at hx
      · have h1 := chL_b (B := 3700 * (m - 1)) hD _ _ _ ?_ (fun x hx => by cases hx) x hx
        · have h2 := chL_t (k := k) _ _ _ (by omega) (fun x hx => by cases hx) x hx
          exact ⟨by omega, by omega, h2.1⟩
        · intro q h1 h2 u hu
          cases hb : bsL D l xb xc Q q with
          | none => rw [hb] at hu; cases hu
          | some y =>
            rw [hb] at hu
            cases hu
            have := (ih (l - q) (by omega) q (by omega) y hb).1
            have : 3700 * (l - q) ≤ 3700 * (m - 1) := Nat.mul_le_mul_left _ (by omega)
            omega
      · cases hx
    · have : l - k = 0 := by omega
      unfold bsL at hx
      rw [this] at hx
      cases hx
theorem bsL_t {D l : Nat} {xb xc Q : Nat → Nat} {k : Nat} (hk : k < l) {x : Nat × Nat} (hx : bsL D l xb xc Q k = some x) : Q x.2 ≠ 0 ∧ (Q x.2 = 3 ∨ (bsL D l xb xc Q x.2).isSome = true) := by
  rw [bsL_e hk] at hx
  split at hx
  · have h2 := chL_t (k := k) _ _ _ (by omega) (fun x hx => by cases hx) x hx
    refine ⟨h2.2.1, ?_⟩
    rcases h2.2.2 with h | h
    · exact Or.inl h
    · refine Or.inr ?_
      rwa [Option.isSome_map] at h
  · cases hx
