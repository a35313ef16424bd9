/-! ink: a line that was chosen is not wider than the measure; its letters in the text -/
theorem chL_w {D : Nat} {g Q : Nat → Nat} {r : Nat → Option Nat} : ∀ (m t : Nat) (b : Option (Nat × Nat)), (∀ x, b = some x → g x.2 + (if Q x.2 = 2 then 2 else 0) ≤ D) → ∀ x, chL D g Q r t m b = some x → g x.2 + (if Q x.2 = 2 then 2 else 0) ≤ D := by
  intro m
  induction m with
  | zero => intro t b hb x hx; exact hb x hx
  | succ m ih =>
    intro t b hb x hx
    rw [chL] at hx
    split at hx
    · exact hb x hx
    · rename_i hD
      refine ih (t + 1) _ ?_ x hx
      intro x' hx'
      have hcc : ∀ v, cstF D (g t) (Q t) (r t) = some v → g t + (if Q t = 2 then 2 else 0) ≤ D := by
        intro v hv
        unfold cstF at hv
        by_cases h2 : Q t = 2
        · rw [if_neg (by omega), if_pos h2] at hv
          rw [if_pos h2]
          by_cases h3 : 2 ≤ D - g t
          · omega
          · rw [if_neg h3] at hv
            cases hv
        · rw [if_neg h2]
          omega
      unfold chN at hx'
      cases hc : cstF D (g t) (Q t) (r t) with
      | none =>
        rw [hc] at hx'
        exact hb x' hx'
      | some v =>
        have hv := hcc v hc
        rw [hc] at hx'
        cases b with
        | none =>
          cases hx'
          exact hv
        | some y =>
          obtain ⟨w, s⟩ := y
          dsimp only at hx'
          split at hx'
          · cases hx'
            exact hb _ rfl
          · cases hx'
            exact hv
theorem bsL_w {D l : Nat} {xb xc Q : Nat → Nat} {k : Nat} (hk : k < l) {x : Nat × Nat} (hx : bsL D l xb xc Q k = some x) : xc x.2 - xb k + (if Q x.2 = 2 then 2 else 0) ≤ D := by
  rw [bsL_e hk] at hx
  split at hx
  · exact chL_w _ _ _ (fun x hx => by cases hx) x hx
  · cases hx
theorem foL_B {B : Nat → Option (Nat × Nat)} {l : Nat} : ∀ (m k : Nat) (x : Nat × Nat), x ∈ foL B l m k → x.1 < l ∧ ∃ y, B x.1 = some y ∧ y.2 = x.2 := by
  intro m
  induction m with
  | zero => intro k x hx; cases hx
  | succ m ih =>
    intro k x hx
    rw [foL_e] at hx
    by_cases hk : k < l
    · rw [if_pos hk] at hx
      cases hb : B k with
      | none => rw [hb] at hx; cases hx
      | some y =>
        rw [hb] at hx
        rcases List.mem_cons.mp hx with rfl | hx
        · exact ⟨hk, y, hb, rfl⟩
        · exact ih _ _ hx
    · rw [if_neg hk] at hx
      cases hx
theorem lnS_w {r : zE} {Fs : Nat → Nat} : ∀ (p : Nat) (u : Nat × Nat × Nat × Nat), u ∈ lnS r Fs p → pxc r (Fs u.1) u.2.2.1 - pxb r (Fs u.1) u.2.1 + (if pQ r (Fs u.1) u.2.2.1 = 2 then 2 else 0) ≤ eD r ∧ pQ r (Fs u.1) u.2.2.1 ≠ 0 := by
  intro p
  induction p with
  | zero => intro u hu; cases hu
  | succ p ih =>
    intro u hu
    rw [lnS_s] at hu
    rcases List.mem_append.mp hu with hu | hu
    · exact ih u hu
    · obtain ⟨x, hx, rfl⟩ := List.mem_map.mp hu
      obtain ⟨h1, y, h2, h3⟩ := foL_B _ _ _ hx
      have hw := bsL_w h1 h2
      have ht := (bsL_t h1 h2).1
      rw [h3] at hw ht
      exact ⟨hw, ht⟩
/-- units counted by letters -/
theorem xw_u {W c Q : Nat → Nat} {E : Nat → Bool} {t : Nat} : ∀ (m k : Nat), t = k + 1 + m → (∀ j, k < j → j < t → (E j = true ↔ Q j = 1)) → xbF W c Q k + (swF (fun j => W (c j - 97)) (m + 1) k + 3 * scF E t (m + 1) k) = xcF W c Q t := by
  intro m
  induction m with
  | zero =>
    intro k hm _
    have : t = k + 1 := by omega
    subst this
    rw [scF, if_neg (by omega)]
    show xbF W c Q k + (W (c k - 97) + 0 + 3 * (0 + 0)) = xbF W c Q k + W (c k - 97)
    omega
  | succ m ih =>
    intro k hm hE
    have h1 := ih (k + 1) (by omega) (fun j h1 h2 => hE j (by omega) h2)
    have h2 : xbF W c Q (k + 1) = xbF W c Q k + W (c k - 97) + (if Q (k + 1) = 1 then 3 else 0) := rfl
    have h3 : swF (fun j => W (c j - 97)) (m + 1 + 1) k = W (c k - 97) + swF (fun j => W (c j - 97)) (m + 1) (k + 1) := rfl
    have h5 := hE (k + 1) (by omega) (by omega)
    have h4 : 3 * scF E t (m + 1 + 1) k = (if Q (k + 1) = 1 then 3 else 0) + 3 * scF E t (m + 1) (k + 1) := by
      rw [scF]
      by_cases hq : Q (k + 1) = 1
      · rw [if_pos hq, if_pos ⟨by omega, h5.mpr hq⟩]
        omega
      · rw [if_neg hq, if_neg (fun z => hq (h5.mp z.2))]
        omega
    omega
/-- words from a on, in the painter's text -/
theorem rw_of {I : zI} {r : zE} {M a f t : Nat} (hr : okE r) (hw : wsB (eT r) (eN r) M a = true) (ha : a ≤ eN r) (h74 : ∀ i, i < eN r → I 74 i = nI (eT r i)) (h75 : ∀ j, j < 26 → I 75 j = nI (eW r j)) (ht : t ≤ (wsL (eT r) (eN r) M a).sum) :
    rwC I (fun j => eW r (wsC (eT r) (eN r) M a j - 97)) (wsC (eT r) (eN r) M a) (weL (wsL (eT r) (eN r) M a)) (fun j => a + bpL (wsL (eT r) (eN r) M a) j) f t ∧ (0 < t → a + bpL (wsL (eT r) (eN r) M a) (t - 1) + 1 = a + cpL (wsL (eT r) (eN r) M a) t) := by
  obtain ⟨p1, p2, p3⟩ := wsB_p M a hw
  have hN := wsA_N (T := eT r) (N := eN r) M a ha
  have hN4 : eN r ≤ 480 := hr.2.2.2.1
  have hx := txW_of M a 0 hw (c := wsC (eT r) (eN r) M a) (fun i _ => by rw [Nat.zero_add])
  by_cases hne : wsL (eT r) (eN r) M a = []
  · rw [hne] at ht
    have : t = 0 := by simpa using ht
    subst this
    exact ⟨⟨fun j _ h => absurd h (Nat.not_lt_zero _), fun j _ h => absurd h (Nat.not_lt_zero _)⟩, fun h => absurd h (Nat.lt_irrefl _)⟩
  have ok := okB_L (P := eP r) (pn := en r) (pk := ek r) (pv := ev r) (c := wsC (eT r) (eN r) M a) (o := 0) p1 hne
  generalize hL : wsL (eT r) (eN r) M a = L at *
  generalize hc : wsC (eT r) (eN r) M a = c at *
  have hl : ∀ j, j < t → a + bpL L j < eN r := by
    intro j hj
    have := okB_bn ok (k := j) (by omega)
    omega
  refine ⟨⟨fun j _ hj => ?_, fun j _ hj => ?_⟩, fun h0 => ?_⟩
  · have h1 := tx_b L a 0 j hx p1 (by omega)
    rw [Nat.zero_add] at h1
    have h2 := hl j hj
    have h3 := (isN_i _).mp h1.2
    have h4 := hr.2.1 (c j - 97) (by omega)
    exact ⟨by rw [h74 _ h2, h1.1], h1.2, by dsimp only; omega, h4.2, h75 _ (by omega)⟩
  · have h1 := cb_1 L j (by omega)
    have h2 := cb_2 (P := eP r) (pn := en r) (pk := ek r) (pv := ev r) (c := c) L 0 (j + 1) p1 (by omega) (by omega)
    have h3 := qd_le (P := eP r) (pn := en r) (pk := ek r) (pv := ev r) (c := c) L 0 (j + 1) p1 (by omega)
    have h4 := weL_q (P := eP r) (pn := en r) (pk := ek r) (pv := ev r) (c := c) L 0 (j + 1) p1 (by omega)
    have h5 : weL L (j + 1) = true ↔ qd (eP r) (en r) (ek r) (ev r) c L 0 (j + 1) = 1 := by
      rw [← h4]
      unfold isE
      rw [Bool.or_eq_true, decide_eq_true_eq, decide_eq_true_eq]
      omega
    constructor
    · dsimp only
      by_cases hq : qd (eP r) (en r) (ek r) (ev r) c L 0 (j + 1) = 1
      · rw [if_pos hq] at h2
        rw [if_pos (h5.mpr hq)]
        omega
      · rw [if_neg hq] at h2
        rw [if_neg (fun z => hq (h5.mp z))]
        omega
    · intro hE
      have h6 := tx_c (P := eP r) (pn := en r) (pk := ek r) (pv := ev r) (c := c) L a 0 0 (j + 1) hx p1 (h5.mp hE)
      have h7 := hl (j + 1) (by omega)
      rw [h1] at h6
      rw [show a + bpL L j + 1 = a + (bpL L j + 1) by omega, h74 _ (by omega), h6]
      rfl
  · have := cb_1 L (t - 1) (by omega)
    rw [show t - 1 + 1 = t by omega] at this
    omega
/-- a line: its letters, its end, its units -/
theorem ln_of {r : zE} {Fs : Nat → Nat} {p : Nat} {u : Nat × Nat × Nat × Nat} (hr : okE r) (hPa : ∀ x, x < p → okPa r (Fs x)) (hu : u ∈ lnS r Fs p) :
    u.1 < p ∧ u.2.1 < u.2.2.1 ∧ u.2.2.1 ≤ pl r (Fs u.1) ∧ pl r (Fs u.1) ≤ 192 ∧ pQ r (Fs u.1) u.2.2.1 ≤ 3 ∧ pQ r (Fs u.1) u.2.2.1 ≠ 0 ∧ (u.2.2.1 = pl r (Fs u.1) ↔ pQ r (Fs u.1) u.2.2.1 = 3) ∧ isE (pQ r (Fs u.1) u.2.2.1) = weL (pL r (Fs u.1)) u.2.2.1 ∧ uuF (fun j => eW r (pC r (Fs u.1) j - 97)) (weL (pL r (Fs u.1))) u.2.1 u.2.2.1 + (if pQ r (Fs u.1) u.2.2.1 = 2 then 2 else 0) ≤ eD r := by
  obtain ⟨h1, h2, h3, h4, h5⟩ := lnS_i hr p hPa u hu
  obtain ⟨h6, h7⟩ := lnS_w p u hu
  obtain ⟨P1, P2, _, P4, _⟩ := okPa_i hr (hPa u.1 h1)
  have hplS : pl r (Fs u.1) = (pL r (Fs u.1)).sum := rfl
  have hq3 := qd_l (P := eP r) (pn := en r) (pk := ek r) (pv := ev r) (c := pC r (Fs u.1)) (pL r (Fs u.1)) 0 P1 P2
  have hql : ∀ k, k < pl r (Fs u.1) → pQ r (Fs u.1) k ≤ 2 := fun k hk => qd_le (pL r (Fs u.1)) 0 k P1 hk
  have h3l : pQ r (Fs u.1) (pl r (Fs u.1)) = 3 := hq3
  have hwe : ∀ k, k ≤ pl r (Fs u.1) → isE (pQ r (Fs u.1) k) = weL (pL r (Fs u.1)) k := fun k hk => weL_q (pL r (Fs u.1)) 0 k P1 hk
  refine ⟨h1, h3, by omega, by omega, ?_, h7, ?_, hwe _ (by omega), ?_⟩
  · by_cases he : u.2.2.1 = pl r (Fs u.1)
    · rw [he, h3l]
      exact Nat.le_refl _
    · have := hql u.2.2.1 (by omega)
      omega
  · constructor
    · intro he
      rw [he, h3l]
    · intro he
      by_cases hlt : u.2.2.1 < pl r (Fs u.1)
      · have := hql _ hlt
        omega
      · omega
  · have hx := xw_u (W := eW r) (c := pC r (Fs u.1)) (Q := pQ r (Fs u.1)) (E := weL (pL r (Fs u.1))) (t := u.2.2.1) (u.2.2.1 - 1 - u.2.1) u.2.1 (by omega) (fun j hj1 hj2 => by
      rw [← hwe j (by omega)]
      have := hql j (by omega)
      unfold isE
      rw [Bool.or_eq_true, decide_eq_true_eq, decide_eq_true_eq]
      omega)
    rw [show u.2.2.1 - 1 - u.2.1 + 1 = u.2.2.1 - u.2.1 by omega] at hx
    have hx' : pxb r (Fs u.1) u.2.1 + uuF (fun j => eW r (pC r (Fs u.1) j - 97)) (weL (pL r (Fs u.1))) u.2.1 u.2.2.1 = pxc r (Fs u.1) u.2.2.1 := hx
    omega
