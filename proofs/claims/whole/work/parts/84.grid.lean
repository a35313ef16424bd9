/-! ink: what can stand in a cell -/
def cvOK (r : zE) (o : Nat → Option zPl) (i v : Nat) : Prop := v = 0 ∨ v = 90 ∨ ∃ t u, t < nS r ∧ hO r t = 0 ∧ o t = some u ∧ ((v = 100 * (t + 1) + 80 ∧ u.2.2.1 ≤ i % 64 / 16) ∨ v = 100 * (t + 1) + 81 ∨ (v = 100 * (t + 1) + 82 ∧ u.2.2.2.2.2.2.isSome = true) ∨ (v = 100 * (t + 1) + 83 ∧ u.2.2.2.2.2.2.isSome = true) ∨ ∃ j, j < nO r t ∧ v = 100 * (t + 1) + j)
def gOK (r : zE) (o : Nat → Option zPl) (G : Nat → Int32) : Prop := ∀ i, i < 192 → ∃ v, G i = nI v ∧ cvOK r o i v
theorem cv_m {r : zE} {o o' : Nat → Option zPl} {i v : Nat} (h : cvOK r o i v) (hm : ∀ t u, o t = some u → o' t = some u) : cvOK r o' i v := by
  rcases h with h | h | ⟨t, u, h1, h2, h3, h4⟩
  · exact Or.inl h
  · exact Or.inr (Or.inl h)
  · exact Or.inr (Or.inr ⟨t, u, h1, h2, hm t u h3, h4⟩)
/-- a line index that a part shows is one of the story's -/
theorem li_in {rm : Nat → Nat} {gd : Nat → Bool} {f e k c : Nat} (h : pth rm gd e 0 k f = true) (hc : c < k) : liF rm gd f e k c + inF rm gd f e k c ≤ e := by
  have := (liF_p h (c + 1) (by omega)).2.2
  rw [liF] at this
  exact this
theorem cv_0 {r : zE} {o : Nat → Option zPl} {C R t i : Nat} {u : zPl} (ht : t < nS r) (h0 : hO r t = 0) (hu : o t = some u) (hp : pl0 C R (bO r t) (nO r t) (cO r t) (rO r t) u) (hi : inR u.1 u.2.1 u.2.2.1 u.2.2.2.1 u.2.2.2.2.1 i = true) :
    cvOK r o i (v0F (100 * (t + 1)) (cO r t) (rO r t) u.2.1 u.2.2.2.2.1 (lsF u.2.2.2.2.2.2) (t0F (bO r t) (nO r t) (cO r t) (rO r t) u.2.1 u.2.2.2.2.1 (lsF u.2.2.2.2.2.2) u.2.2.2.2.2.1) (l0F (bO r t) (nO r t) (cO r t) (rO r t) u.2.1 u.2.2.2.2.1 (lsF u.2.2.2.2.2.2) u.2.2.2.2.2.1) (i % 64 / 16 - u.2.2.1) (i % 16 - u.2.2.2.1)) := by
  have hr := inR_i.mp hi
  have hc := inR_c hi
  obtain ⟨_, _, _, _, _, _, a7, _, a9, _⟩ := hp
  have hl := li_in a9 hc.1
  unfold v0F
  by_cases h1 : lsF u.2.2.2.2.2.2 = 1 ∧ i % 64 / 16 - u.2.2.1 + 1 = u.2.1 ∧ i % 16 - u.2.2.2.1 + 1 = u.2.2.2.2.1
  · rw [if_pos h1]
    refine Or.inr (Or.inr ⟨t, u, ht, h0, hu, Or.inr (Or.inr (Or.inl ⟨rfl, ?_⟩))⟩)
    have := h1.1
    unfold lsF at this
    cases hs : u.2.2.2.2.2.2.isSome with
    | true => rfl
    | false =>
      rw [hs, if_neg (by decide)] at this
      cases this
  · rw [if_neg h1]
    by_cases h2 : i % 16 - u.2.2.2.1 = 0
    · rw [if_pos h2]
      exact Or.inr (Or.inr ⟨t, u, ht, h0, hu, Or.inl ⟨rfl, hr.2.1⟩⟩)
    · rw [if_neg h2]
      by_cases h3 : i % 16 - u.2.2.2.1 ≤ hiF (cO r t) (rO r t) (i % 64 / 16 - u.2.2.1)
      · rw [if_pos h3]
        exact Or.inr (Or.inr ⟨t, u, ht, h0, hu, Or.inr (Or.inl rfl)⟩)
      · rw [if_neg h3]
        by_cases h4 : i % 16 - u.2.2.2.1 < 1 + hiF (cO r t) (rO r t) (i % 64 / 16 - u.2.2.1) + t0F (bO r t) (nO r t) (cO r t) (rO r t) u.2.1 u.2.2.2.2.1 (lsF u.2.2.2.2.2.2) u.2.2.2.2.2.1 (i % 64 / 16 - u.2.2.1)
        · rw [if_pos h4]
          refine Or.inr (Or.inr ⟨t, u, ht, h0, hu, Or.inr (Or.inr (Or.inr (Or.inr ⟨_, ?_, rfl⟩)))⟩)
          have hl' : l0F (bO r t) (nO r t) (cO r t) (rO r t) u.2.1 u.2.2.2.2.1 (lsF u.2.2.2.2.2.2) u.2.2.2.2.2.1 (i % 64 / 16 - u.2.2.1) + t0F (bO r t) (nO r t) (cO r t) (rO r t) u.2.1 u.2.2.2.2.1 (lsF u.2.2.2.2.2.2) u.2.2.2.2.2.1 (i % 64 / 16 - u.2.2.1) ≤ u.2.2.2.2.2.1 := hl
          omega
        · rw [if_neg h4]
          exact Or.inr (Or.inl rfl)
theorem cv_1 {r : zE} {o : Nat → Option zPl} {C R t i : Nat} {u : zPl} {v : Nat × Nat × Nat × Nat × Nat} (ht : t < nS r) (h0 : hO r t = 0) (hu : o t = some u) (hv : u.2.2.2.2.2.2 = some v) (hp : pl1 C R (bO r t) (nO r t) u.1 u.2.2.2.2.2.1 v) (hi : inR v.1 v.2.1 v.2.2.1 v.2.2.2.1 v.2.2.2.2 i = true) :
    cvOK r o i (v1F (100 * (t + 1)) (t1F (bO r t) (nO r t) v.2.1 v.2.2.2.2 u.2.2.2.2.2.1) (l1F (bO r t) (nO r t) v.2.1 v.2.2.2.2 u.2.2.2.2.2.1) (i % 64 / 16 - v.2.2.1) (i % 16 - v.2.2.2.1)) := by
  have hc := inR_c hi
  obtain ⟨_, _, _, _, _, _, _, _, a9⟩ := hp
  have hl := li_in a9 hc.1
  unfold v1F
  by_cases h1 : i % 16 - v.2.2.2.1 = 0
  · rw [if_pos h1]
    by_cases h2 : i % 64 / 16 - v.2.2.1 = 0
    · rw [if_pos h2]
      exact Or.inr (Or.inr ⟨t, u, ht, h0, hu, Or.inr (Or.inr (Or.inr (Or.inl ⟨rfl, by rw [hv]; rfl⟩)))⟩)
    · rw [if_neg h2]
      exact Or.inr (Or.inl rfl)
  · rw [if_neg h1]
    by_cases h2 : i % 16 - v.2.2.2.1 < 1 + t1F (bO r t) (nO r t) v.2.1 v.2.2.2.2 u.2.2.2.2.2.1 (i % 64 / 16 - v.2.2.1)
    · rw [if_pos h2]
      refine Or.inr (Or.inr ⟨t, u, ht, h0, hu, Or.inr (Or.inr (Or.inr (Or.inr ⟨_, ?_, rfl⟩)))⟩)
      have hl' : l1F (bO r t) (nO r t) v.2.1 v.2.2.2.2 u.2.2.2.2.2.1 (i % 64 / 16 - v.2.2.1) + t1F (bO r t) (nO r t) v.2.1 v.2.2.2.2 u.2.2.2.2.2.1 (i % 64 / 16 - v.2.2.1) ≤ nO r t := hl
      omega
    · rw [if_neg h2]
      exact Or.inr (Or.inl rfl)
theorem gOK_1 {r : zE} {C R t : Nat} {st : zSt} (hR : 4 ≤ R) (ht : t < nS r) (hn : st.2 t = none) (h : gOK r st.2 st.1) : gOK r (sim1 r C R st t).2 (sim1 r C R st t).1 := by
  unfold sim1
  by_cases h0 : hO r t = 0
  · rw [if_pos h0]
    cases hpl : plW st.1 C R (bO r t) (nO r t) (cO r t) (rO r t) with
    | none => exact h
    | some u =>
      have hps := plc_s (bO_n r t) hR hpl
      dsimp only
      have hm : ∀ t' u', st.2 t' = some u' → (fun t' => if t' = t then some u else st.2 t') t' = some u' := by
        intro t' u' hu'
        dsimp only
        by_cases htt : t' = t
        · rw [htt, hn] at hu'
          cases hu'
        · rw [if_neg htt]
          exact hu'
      have hu : (fun t' => if t' = t then some u else st.2 t') t = some u := if_pos rfl
      generalize (fun t' => if t' = t then some u else st.2 t') = o' at hm hu
      intro i hi
      unfold stG
      cases hA : inR u.1 u.2.1 u.2.2.1 u.2.2.2.1 u.2.2.2.2.1 i with
      | true =>
        rw [if_pos rfl]
        exact ⟨_, rfl, cv_0 ht h0 hu hps.1 hA⟩
      | false =>
        rw [if_neg (by decide)]
        cases hv : u.2.2.2.2.2.2 with
        | none =>
          dsimp only
          obtain ⟨v, g1, g2⟩ := h i hi
          exact ⟨v, g1, cv_m g2 hm⟩
        | some v =>
          dsimp only
          cases hB : inR v.1 v.2.1 v.2.2.1 v.2.2.2.1 v.2.2.2.2 i with
          | true =>
            rw [if_pos rfl]
            exact ⟨_, rfl, cv_1 ht h0 hu hv (hps.2 v hv) hB⟩
          | false =>
            rw [if_neg (by decide)]
            obtain ⟨v, g1, g2⟩ := h i hi
            exact ⟨v, g1, cv_m g2 hm⟩
  · rw [if_neg h0]
    exact h
def gIv (r : zE) (g t0 : Nat) (st : zSt) : Prop := gOK r st.2 st.1 ∧ ∀ t, dnF r g t0 t = false → st.2 t = none
theorem dn_s {r : zE} {g t t' : Nat} (h : dnF r g (t + 1) t' = false) : dnF r g t t' = false := by
  cases hb : dnF r g t t' with
  | false => rfl
  | true =>
    have : dnF r g (t + 1) t' = true := dnF_i.mpr (by have := dnF_i.mp hb; omega)
    rw [this] at h
    cases h
theorem gIv_T {r : zE} {C R g : Nat} (hR : 4 ≤ R) : ∀ (m t : Nat) (st : zSt), nS r = t + m → gIv r g t st → gIv r g (nS r) (simT r C R g t m st) := by
  intro m
  induction m with
  | zero =>
    intro t st hm h
    rw [show nS r = t by omega]
    exact h
  | succ m ih =>
    intro t st hm h
    show gIv r g (nS r) (simT r C R g (t + 1) m (if uO r t = g then sim1 r C R st t else st))
    refine ih (t + 1) _ (by omega) ?_
    by_cases hu : uO r t = g
    · rw [if_pos hu]
      have hd : dnF r g t t = false := by
        cases hb : dnF r g t t with
        | false => rfl
        | true => have := dnF_i.mp hb; omega
      refine ⟨gOK_1 hR (by omega) (h.2 t hd) h.1, fun t' hd' => ?_⟩
      have htt : t' ≠ t := by
        rintro rfl
        have : dnF r g (t' + 1) t' = true := dnF_i.mpr (Or.inr ⟨hu, by omega⟩)
        rw [this] at hd'
        cases hd'
      rw [sim1_o htt]
      exact h.2 t' (dn_s hd')
    · rw [if_neg hu]
      exact ⟨h.1, fun t' hd' => h.2 t' (dn_s hd')⟩
theorem gIv_O {r : zE} {C R : Nat} (hR : 4 ≤ R) : ∀ (g : Nat) (st : zSt), gIv r g 0 st → gOK r (simO r C R g st).2 (simO r C R g st).1 := by
  intro g
  induction g with
  | zero =>
    intro st h
    exact (gIv_T hR (nS r) 0 st (by omega) h).1
  | succ g ih =>
    intro st h
    have h1 := gIv_T (C := C) hR (nS r) 0 st (by omega) h
    refine ih _ ⟨h1.1, fun t hd => h1.2 t ?_⟩
    cases hb : dnF r (g + 1) (nS r) t with
    | false => rfl
    | true =>
      have : dnF r g 0 t = true := dnF_i.mpr (by have := dnF_i.mp hb; omega)
      rw [this] at hd
      cases hd
theorem gOK_P {r : zE} {C R : Nat} (hR : 4 ≤ R) : gOK r (simP r C R).2 (simP r C R).1 :=
  gIv_O hR 9 _ ⟨fun i _ => ⟨0, rfl, Or.inl rfl⟩, fun _ _ => rfl⟩
