/-! plan: the call, the one side -/
def cnT (p : Nat → Bool) : Nat → Nat
  | 0 => 0
  | n + 1 => cnT p n + (if p n = true then 1 else 0)
theorem cnT_c {p p' : Nat → Bool} : ∀ n, (∀ t, t < n → p t = p' t) → cnT p n = cnT p' n
  | 0, _ => rfl
  | n + 1, h => by
    show cnT p n + _ = cnT p' n + _
    rw [cnT_c n (fun t ht => h t (by omega)), h n (by omega)]
theorem cnT_u {p p' : Nat → Bool} {t : Nat} (hp : p t = false) : ∀ n, t < n → (∀ t', t' ≠ t → p' t' = p t') → cnT p' n = cnT p n + (if p' t = true then 1 else 0)
  | 0, h, _ => absurd h (Nat.not_lt_zero _)
  | n + 1, h, hu => by
    show cnT p' n + _ = cnT p n + _ + _
    by_cases ht : t = n
    · subst ht
      rw [cnT_c t (fun t' h' => hu t' (by omega)), hp]
      rfl
    · rw [cnT_u hp n (by omega) hu, hu n (fun q => ht q.symm)]
      omega
theorem cnT_le (p : Nat → Bool) : ∀ n, cnT p n ≤ n
  | 0 => Nat.le_refl _
  | n + 1 => by
    have := cnT_le p n
    show cnT p n + _ ≤ _
    split <;> omega
/-- which stories have had their turn before story t0 of urgency g -/
def dnF (r : zE) (g t0 t : Nat) : Bool := decide (g < uO r t) || (decide (uO r t = g) && decide (t < t0))
theorem dnF_i {r : zE} {g t0 t : Nat} : dnF r g t0 t = true ↔ g < uO r t ∨ (uO r t = g ∧ t < t0) := by
  unfold dnF
  rw [Bool.or_eq_true, Bool.and_eq_true, decide_eq_true_eq, decide_eq_true_eq, decide_eq_true_eq]
def hd0 (r : zE) (st : zSt) (t : Nat) : Bool := decide (hdF r t (st.2 t) = 0)
/-- what planning leaves alone, on the class's side -/
def fP (I I' : zI) (J J' : zJ) : Prop := (∀ c, c < 7 ∨ (55 < c ∧ c < 60) ∨ c = 70 ∨ 72 < c → I' c = I c) ∧ (∀ e, e ≠ 6 → I' 55 e = I 55 e) ∧ I' 61 0 = I 61 0 ∧ I' 62 0 = I 62 0 ∧ (∀ t, t < 4 → ∀ e, e ≠ 14 → e ≠ 15 → e ≠ 16 → I' (7 + 12 * t) e = I (7 + 12 * t) e) ∧ (∀ t, t < 4 → I' (8 + 12 * t) = I (8 + 12 * t) ∧ I' (9 + 12 * t) = I (9 + 12 * t)) ∧ (∀ c, c = 57 ∨ c = 58 → J' c = J c)
theorem fP_r (I : zI) (J : zJ) : fP I I J J := ⟨fun _ _ => rfl, fun _ _ => rfl, rfl, rfl, fun _ _ _ _ _ _ => rfl, fun _ _ => ⟨rfl, rfl⟩, fun _ _ => rfl⟩
theorem fP_s {t : Nat} {I I' I2 : zI} {J J' J2 : zJ} (ht : t < 4) (h1 : fP I I' J J') (h2 : fS t I' I2 J' J2) : fP I I2 J J2 := by
  obtain ⟨a1, a2, a3, a4, a5, a6, a7, a8, a9⟩ := h2
  refine ⟨fun c hc => (a1 c hc).trans (h1.1 c hc), fun e he => (a2 e he).trans (h1.2.1 e he), a3.trans h1.2.2.1, a4.trans h1.2.2.2.1, fun t' ht' e e1 e2 e3 => ?_, fun t' ht' => ?_, fun c hc => (a9 c hc).trans (h1.2.2.2.2.2.2 c hc)⟩
  · by_cases htt : t' = t
    · rw [htt, a6 e e1 e2 e3]
      exact h1.2.2.2.2.1 t ht e e1 e2 e3
    · have := a5 t' ht' htt 0 (by omega)
      rw [Nat.add_zero] at this
      rw [this]
      exact h1.2.2.2.2.1 t' ht' e e1 e2 e3
  · by_cases htt : t' = t
    · rw [htt, a7, a8]
      exact h1.2.2.2.2.2.1 t ht
    · have b1 := a5 t' ht' htt 1 (by omega)
      have b2 := a5 t' ht' htt 2 (by omega)
      rw [show 7 + 12 * t' + 1 = 8 + 12 * t' by omega] at b1
      rw [show 7 + 12 * t' + 2 = 9 + 12 * t' by omega] at b2
      rw [b1, b2]
      exact h1.2.2.2.2.2.1 t' ht'
theorem cEn_P {r : zE} {I I' : zI} {J J' : zJ} (h : cEn r I J) (hf : fP I I' J J') : cEn r I' J' := by
  obtain ⟨a1, a2, ⟨a3, a4, a5, a6⟩, a7, a8, a9⟩ := h
  have g : ∀ c, c < 7 ∨ (55 < c ∧ c < 60) ∨ c = 70 ∨ 72 < c → I' c = I c := hf.1
  exact ⟨(hf.2.1 1 (by decide)).trans a1, fun j hj => by rw [g 1 (by omega)]; exact a2 j hj, ⟨by rw [g 56 (by omega)]; exact a3, fun p hp => by rw [g 59 (by omega)]; exact a4 p hp, fun p hp => by rw [hf.2.2.2.2.2.2 57 (by omega)]; exact a5 p hp, fun p hp => by rw [hf.2.2.2.2.2.2 58 (by omega)]; exact a6 p hp⟩, fun i hi => by rw [g 5 (by omega)]; exact a7 i hi, hf.2.2.1.trans a8, hf.2.2.2.1.trans a9⟩
theorem cOK_u {r : zE} {t : Nat} {o : Option zPl} {I I' : zI} (h : cOK r t o I) (hu : ∀ j, j < 12 → I' (7 + 12 * t + j) = I (7 + 12 * t + j)) : cOK r t o I' := by
  have g : ∀ c, 7 + 12 * t ≤ c → c < 19 + 12 * t → I' c = I c := by
    intro c h1 h2
    have := hu (c - (7 + 12 * t)) (by omega)
    rw [show 7 + 12 * t + (c - (7 + 12 * t)) = c by omega] at this
    exact this
  obtain ⟨a1, a2, a3, a4, a5, a6⟩ := h
  refine ⟨by rw [g _ (by omega) (by omega)]; exact a1, by rw [g _ (by omega) (by omega)]; exact a2, by rw [g _ (by omega) (by omega)]; exact a3, fun j x hx hj => by rw [g (11 + 12 * t) (by omega) (by omega), g (12 + 12 * t) (by omega) (by omega), g (13 + 12 * t) (by omega) (by omega)]; exact a4 j x hx hj, fun p hp => by rw [g _ (by omega) (by omega)]; exact a5 p hp, fun u hu' => ?_⟩
  have h6 := a6 u hu'
  unfold cPt ptV at h6 ⊢
  rw [g (15 + 12 * t) (by omega) (by omega), g (16 + 12 * t) (by omega) (by omega), g (17 + 12 * t) (by omega) (by omega), g (18 + 12 * t) (by omega) (by omega)]
  exact h6
/-- the class's stories as they were read -/
def cSy (r : zE) (I : zI) : Prop := ∀ t, t < nS r → I (7 + 12 * t) 0 = nI t ∧ I (7 + 12 * t) 8 = nI (uO r t) ∧ I (7 + 12 * t) 11 = nI (qO r t) ∧ I (7 + 12 * t) 12 = nI (cO r t) ∧ I (7 + 12 * t) 13 = nI (rO r t) ∧ (∀ x, x < qO r t → I (8 + 12 * t) x = nI (fO r t x)) ∧ (∀ x, x < qO r t → I (9 + 12 * t) x = nI (wsA (eT r) (eN r) 16 (fO r t x)))
theorem cSy_P {r : zE} {I I' : zI} {J J' : zJ} (hn : nS r ≤ 4) (h : cSy r I) (hf : fP I I' J J') : cSy r I' := by
  intro t ht
  obtain ⟨a1, a2, a3, a4, a5, a6, a7⟩ := h t ht
  have g := hf.2.2.2.2.1 t (by omega)
  have g2 := hf.2.2.2.2.2.1 t (by omega)
  exact ⟨by rw [g 0 (by decide) (by decide) (by decide)]; exact a1, by rw [g 8 (by decide) (by decide) (by decide)]; exact a2, by rw [g 11 (by decide) (by decide) (by decide)]; exact a3, by rw [g 12 (by decide) (by decide) (by decide)]; exact a4, by rw [g 13 (by decide) (by decide) (by decide)]; exact a5, fun x hx => by rw [g2.1]; exact a6 x hx, fun x hx => by rw [g2.2]; exact a7 x hx⟩
def cL (r : zE) (C R g t0 p : Nat) (st : zSt) (I0 : zI) (J0 : zJ) (I : zI) (J : zJ) : Prop := fP I0 I J0 J ∧ tkI I ∧ eqG (I 71) st.1 ∧ (∀ t, t < nS r → dnF r g t0 t = true → cOK r t (st.2 t) I) ∧ (∀ t, dnF r g t0 t = false → st.2 t = none) ∧ p = cnT (fun t => dnF r g t0 t && hd0 r st t) (nS r)
theorem sim1_o {r : zE} {C R t t' : Nat} {st : zSt} (h : t' ≠ t) : (sim1 r C R st t).2 t' = st.2 t' := by
  unfold sim1
  split
  · split
    · rfl
    · exact if_neg h
  · rfl
theorem ix4 {t : Nat} (ht : t < 4) : ([7, 19, 31, 43] : List Nat)[t]? = some (7 + 12 * t) := lt4 (P := fun t => ([7, 19, 31, 43] : List Nat)[t]? = some (7 + 12 * t)) rfl rfl rfl rfl ht
section CPLAN2
variable {S : Nat × (Nat → Int32)} {k : zK} {r : zE} {C R : Nat} {I0 : zI} {J0 : zJ}
theorem g10_t {g : Nat} (hO' : okSt r) (hE : cEn r I0 J0) (hS : cSh I0 C R) (hY : cSy r I0) (h4 : I0 4 4 = nI (nS r)) (hg : g ≤ 9) (hb : Nat.ble k.1 (mBu 10).1 = true ∧ Nat.ble k.2 (mBu 10).2 = true) : ∀ (m t p : Nat) (st : zSt) (I : zI) (J : zJ), nS r = t + m → cL r C R g t p st I0 J0 I J →
    ∃ (I' : zI) (J' : zJ) (p' : Nat) (l3 : Int32), zd S 10 51 [some (.ref 0), some (.int (nI p)), some (.int (nI g)), some (.int (nI t)), none] [] I J k = zd S 10 133 [some (.ref 0), some (.int (nI p')), some (.int (nI g)), some (.int l3), none] [] I' J' k ∧ cL r C R g (nS r) p' (simT r C R g t m st) I0 J0 I' J' := by
  have hn4 := hO'.2.2.1
  intro m
  induction m with
  | zero =>
    intro t p st I J hm hL
    have ht : nS r = t := by omega
    refine ⟨I, J, p, nI t, ?_, by rw [ht]; exact hL⟩
    rw [B10_51, hL.1.1 4 (by omega), h4, if_pos (nI_le (by omega) (by omega))]
  | succ m ih =>
    intro t p st I J hm hL
    obtain ⟨L1, L2, L3, L4, L5, L6⟩ := hL
    have ht : t < nS r := by omega
    have ht4 : t < 4 := by omega
    obtain ⟨y1, y2, y3, y4, y5, y6, y7⟩ := cSy_P hn4 hY L1 t ht
    have hu9 := (okSt_i hO' ht).2.2.2.2
    have eu : nI (uO r t) = nI g ↔ uO r t = g := nI_eq (by omega) (by omega)
    have hpre : zd S 10 51 [some (.ref 0), some (.int (nI p)), some (.int (nI g)), some (.int (nI t)), none] [] I J k = if ¬ nI (uO r t) = nI g then zd S 10 127 [some (.ref 0), some (.int (nI p)), some (.int (nI g)), some (.int (nI t)), some (.ref (7 + 12 * t))] [] I J k else zd S 10 82 [some (.ref 0), some (.int (nI p)), some (.int (nI g)), some (.int (nI t)), some (.ref (7 + 12 * t))] [] I J k := by
      rw [B10_51, L1.1 4 (by omega), h4, if_neg (nI_ge (by omega) (by omega)), B10_62 (s70x := t) ht4 (zin_n ht4 (by decide)) (by rw [nI_clamp (by omega)]; exact ix4 ht4), y2]
    have hdt : dnF r g t t = false ↔ ¬ g < uO r t := by
      constructor
      · intro h q
        rw [dnF_i.mpr (Or.inl q)] at h
        cases h
      · intro h
        cases hb' : dnF r g t t with
        | false => rfl
        | true =>
          rcases dnF_i.mp hb' with q | q
          · exact absurd q h
          · omega
    by_cases hug : uO r t = g
    · have hst : simT r C R g t (m + 1) st = simT r C R g (t + 1) m (sim1 r C R st t) := by
        show simT r C R g (t + 1) m (if uO r t = g then sim1 r C R st t else st) = _
        rw [if_pos hug]
      have hd : dnF r g t t = false := hdt.mpr (by omega)
      obtain ⟨I1, J1, I2, J2, q24, q60, f1, f2, f3, f4⟩ := g10_s (S := S) (I := I) (J := J) (st := st) hO' ht (cEn_P hE L1) ⟨by rw [L1.1 70 (by omega)]; exact hS.1, by rw [L1.1 70 (by omega)]; exact hS.2.1, hS.2.2.1, hS.2.2.2.1, L2⟩ y1 y3 y4 y5 y6 y7 L3 (L5 t hd)
      have hdn : ∀ t', dnF r g (t + 1) t' = true ↔ dnF r g t t' = true ∨ t' = t := by
        intro t'
        rw [dnF_i, dnF_i]
        constructor
        · rintro (q | q)
          · exact Or.inl (Or.inl q)
          · by_cases htt : t' = t
            · exact Or.inr htt
            · exact Or.inl (Or.inr ⟨q.1, by omega⟩)
        · rintro ((q | q) | q)
          · exact Or.inl q
          · exact Or.inr ⟨q.1, by omega⟩
          · exact Or.inr ⟨by rw [q]; exact hug, by omega⟩
      have hp1 : cL r C R g (t + 1) (p + (if hd0 r (sim1 r C R st t) t = true then 1 else 0)) (sim1 r C R st t) I0 J0 I2 J2 := by
        refine ⟨fP_s ht4 L1 f1, f2, f3, fun t' ht' hd' => ?_, fun t' hd' => ?_, ?_⟩
        · by_cases htt : t' = t
          · rw [htt]
            exact f4
          · have h5 : dnF r g t t' = true := by
              rcases (hdn t').mp hd' with q | q
              · exact q
              · exact absurd q htt
            rw [sim1_o htt]
            exact cOK_u (L4 t' ht' h5) (f1.2.2.2.2.1 t' (by omega) htt)
        · have htt : t' ≠ t := fun q => by
            have := (hdn t').mpr (Or.inr q)
            rw [this] at hd'
            cases hd'
          rw [sim1_o htt]
          apply L5
          cases hb' : dnF r g t t' with
          | false => rfl
          | true =>
            have := (hdn t').mpr (Or.inl hb')
            rw [this] at hd'
            cases hd'
        · rw [L6]
          have h6 := cnT_u (p := fun t' => dnF r g t t' && hd0 r st t') (p' := fun t' => dnF r g (t + 1) t' && hd0 r (sim1 r C R st t) t') (t := t) (by rw [hd]; rfl) (nS r) ht (fun t' htt => by
            have e1 : dnF r g (t + 1) t' = dnF r g t t' := b_ext2 (by
              rw [hdn]
              exact ⟨fun q => by rcases q with q | q; exact q; exact absurd q htt, fun q => Or.inl q⟩)
            have e2 : hd0 r (sim1 r C R st t) t' = hd0 r st t' := by unfold hd0; rw [sim1_o htt]
            rw [e1, e2])
          rw [h6]
          congr 1
          have : dnF r g (t + 1) t = true := (hdn t).mpr (Or.inr rfl)
          rw [this, Bool.true_and]
      obtain ⟨I', J', p', l3, e, hL'⟩ := ih (t + 1) _ (sim1 r C R st t) I2 J2 (by omega) hp1
      rw [hst]
      refine ⟨I', J', p', l3, ?_, hL'⟩
      have h14 : I2 (7 + 12 * t) 14 = nI (hdF r t ((sim1 r C R st t).2 t)) := f4.1
      have hhd3 : hdF r t ((sim1 r C R st t).2 t) ≤ 3 := by
        unfold hdF
        have := hO_le (r := r) (t := t)
        split
        · split <;> omega
        · omega
      have e0 : nI (hdF r t ((sim1 r C R st t).2 t)) = 0 ↔ hdF r t ((sim1 r C R st t).2 t) = 0 := by
        have := nI_eq (a := hdF r t ((sim1 r C R st t).2 t)) (b := 0) (by omega) (by decide)
        rw [nI_0] at this
        exact this
      rw [hpre, if_neg (not_not_intro (eu.mpr hug)), B10_82 hb ht4 q24, B10_102 hb ht4 q60, B10_111 ht4, h14]
      by_cases hz : hdF r t ((sim1 r C R st t).2 t) = 0
      · have hh : hd0 r (sim1 r C R st t) t = true := decide_eq_true hz
        rw [hh, if_pos rfl] at e
        rw [if_neg (not_not_intro (e0.mpr hz)), B10_120 ht4, nI_1, nI_1]
        exact e
      · have hh : hd0 r (sim1 r C R st t) t = false := decide_eq_false hz
        have a0 : ∀ x : Int32, x + 0 = x := fun x => by simp
        rw [hh, if_neg (by decide), Nat.add_zero] at e
        rw [if_pos (fun z => hz (e0.mp z)), B10_124 ht4, a0, nI_1]
        exact e
    · have hst : simT r C R g t (m + 1) st = simT r C R g (t + 1) m st := by
        show simT r C R g (t + 1) m (if uO r t = g then sim1 r C R st t else st) = _
        rw [if_neg hug]
      have hdn : ∀ t', dnF r g (t + 1) t' = dnF r g t t' := by
        intro t'
        apply b_ext2
        rw [dnF_i, dnF_i]
        constructor
        · rintro (q | q)
          · exact Or.inl q
          · refine Or.inr ⟨q.1, ?_⟩
            by_cases htt : t' = t
            · rw [htt] at q
              exact absurd q.1 hug
            · omega
        · rintro (q | q)
          · exact Or.inl q
          · exact Or.inr ⟨q.1, by omega⟩
      obtain ⟨I', J', p', l3, e, hL'⟩ := ih (t + 1) p st I J (by omega) ⟨L1, L2, L3, fun t' h1 h2 => L4 t' h1 (by rw [← hdn]; exact h2), fun t' h1 => L5 t' (by rw [← hdn]; exact h1), by rw [L6]; exact cnT_c _ (fun t' _ => by rw [hdn])⟩
      rw [hst]
      refine ⟨I', J', p', l3, ?_, hL'⟩
      rw [hpre, if_pos (fun z => hug (eu.mp z)), B10_127 ht4, nI_1]
      exact e
/-- after the last story of urgency g comes the first of the next -/
theorem dnF_n {g t : Nat} (ht : t < nS r) : dnF r g (nS r) t = dnF r g (nS r) t := rfl
theorem g10_u (hO' : okSt r) (hE : cEn r I0 J0) (hS : cSh I0 C R) (hY : cSy r I0) (h4 : I0 4 4 = nI (nS r)) (hb : Nat.ble k.1 (mBu 10).1 = true ∧ Nat.ble k.2 (mBu 10).2 = true) : ∀ (g p : Nat) (st : zSt) (I : zI) (J : zJ) (o3 : Option Value), g ≤ 9 → cL r C R g 0 p st I0 J0 I J →
    ∃ (I' : zI) (J' : zJ) (p' : Nat) (l2 : Int32), zd S 10 45 [some (.ref 0), some (.int (nI p)), some (.int (nI g)), o3, none] [] I J k = zd S 10 139 [some (.ref 0), some (.int (nI p')), some (.int l2), none, none] [] I' J' k ∧ fP I0 I' J0 J' ∧ tkI I' ∧ eqG (I' 71) (simO r C R g st).1 ∧ (∀ t, t < nS r → cOK r t ((simO r C R g st).2 t) I') ∧ p' = cnT (fun t => hd0 r (simO r C R g st) t) (nS r) := by
  have hn4 := hO'.2.2.1
  have hin : ∀ (g p : Nat) (st : zSt) (I : zI) (J : zJ) (o3 : Option Value), g ≤ 9 → cL r C R g 0 p st I0 J0 I J → ∃ (I' : zI) (J' : zJ) (p' : Nat) (l3 : Int32), zd S 10 45 [some (.ref 0), some (.int (nI p)), some (.int (nI g)), o3, none] [] I J k = zd S 10 45 [some (.ref 0), some (.int (nI p')), some (.int (nI g + (-1))), some (.int l3), none] [] I' J' k ∧ cL r C R g (nS r) p' (simT r C R g 0 (nS r) st) I0 J0 I' J' := by
    intro g p st I J o3 hg hL
    obtain ⟨I', J', p', l3, e, hL'⟩ := g10_t (S := S) (k := k) hO' hE hS hY h4 hg hb (nS r) 0 p st I J (by omega) hL
    refine ⟨I', J', p', l3, ?_, hL'⟩
    rw [B10_45, if_neg (nI_pos (by omega)), B10_49, ← nI_0, e, B10_133]
  intro g
  induction g with
  | zero =>
    intro p st I J o3 hg hL
    obtain ⟨I', J', p', l3, e, L1, L2, L3, L4, L5, L6⟩ := hin 0 p st I J o3 hg hL
    have hall : ∀ t, t < nS r → dnF r 0 (nS r) t = true := fun t ht => dnF_i.mpr (by omega)
    refine ⟨I', J', p', nI 0 + (-1), ?_, L1, L2, L3, fun t ht => L4 t ht (hall t ht), ?_⟩
    · rw [e, B10_45, if_pos (show nI 0 + -1 < 0 by decide)]
    · rw [L6]
      exact cnT_c _ (fun t ht => by rw [hall t ht, Bool.true_and]; rfl)
  | succ g ih =>
    intro p st I J o3 hg hL
    obtain ⟨I1, J1, p1, l3, e1, L1, L2, L3, L4, L5, L6⟩ := hin (g + 1) p st I J o3 hg hL
    have hdn : ∀ t, t < nS r → dnF r g 0 t = dnF r (g + 1) (nS r) t := by
      intro t ht
      apply b_ext2
      rw [dnF_i, dnF_i]
      omega
    have hdn2 : ∀ t, dnF r g 0 t = false → dnF r (g + 1) (nS r) t = false := by
      intro t hd
      cases hb' : dnF r (g + 1) (nS r) t with
      | false => rfl
      | true =>
        have : dnF r g 0 t = true := dnF_i.mpr (by have := dnF_i.mp hb'; omega)
        rw [this] at hd
        cases hd
    obtain ⟨I', J', p', l2, e2, hr⟩ := ih p1 (simT r C R (g + 1) 0 (nS r) st) I1 J1 (some (.int l3)) (by omega) ⟨L1, L2, L3, fun t h1 h2 => L4 t h1 (by rw [← hdn t h1]; exact h2), fun t h1 => L5 t (hdn2 t h1), by rw [L6]; exact cnT_c _ (fun t ht => by rw [hdn t ht])⟩
    refine ⟨I', J', p', l2, ?_, hr⟩
    rw [e1, pk_m1]
    exact e2
end CPLAN2
section CPLAN3
variable {S : Nat × (Nat → Int32)} {r : zE} {C R : Nat}
/-- the cells and parts that planning comes to -/
def simP (r : zE) (C R : Nat) : zSt := simO r C R 9 (fun _ => 0, fun _ => none)
theorem s10 {I : zI} {J : zJ} (hO' : okSt r) (hn0 : 0 < nS r) (hE : cEn r I J) (h70 : I 70 0 = nI C ∧ I 70 1 = nI R ∧ (1 ≤ C ∧ C ≤ 4) ∧ (4 ≤ R ∧ R ≤ 16)) (hY : cSy r I) (h4 : I 4 4 = nI (nS r)) (hfit : ∀ i, i < 480 → zfit 2 (I 5 i) = true) :
    ∃ (I' : zI) (J' : zJ), zq S 10 [.ref 0] I J (some (.int (nI (cnT (fun t => hd0 r (simP r C R) t) (nS r))))) I' J' ∧ (∀ c, (0 < c ∧ c < 7) ∨ (55 < c ∧ c < 60) ∨ c = 70 ∨ c = 73 ∨ 75 < c → I' c = I c) ∧ I' 0 = upd (I 0) 9 1 ∧ (∀ e, e ≠ 6 → I' 55 e = I 55 e) ∧ I' 61 0 = I 61 0 ∧ I' 62 0 = I 62 0 ∧ (∀ t, t < 4 → ∀ e, e ≠ 14 → e ≠ 15 → e ≠ 16 → I' (7 + 12 * t) e = I (7 + 12 * t) e) ∧ (∀ t, t < 4 → I' (8 + 12 * t) = I (8 + 12 * t) ∧ I' (9 + 12 * t) = I (9 + 12 * t)) ∧ (∀ c, c = 57 ∨ c = 58 → J' c = J c) ∧ tkI I' ∧ eqG (I' 71) (simP r C R).1 ∧ (∀ t, t < nS r → cOK r t ((simP r C R).2 t) I') ∧ (∀ i, i < 480 → I' 74 i = I 5 i) ∧ (∀ j, j < 26 → I' 75 j = I 1 j) := by
  have hn4 := hO'.2.2.1
  obtain ⟨f, g, q81, hf, hg⟩ := s81 (S := S) (I := I) (J := J)
  generalize hI1 : uc (uc I 71 f) 72 g = I1 at q81
  have o1 : ∀ c, c ≠ 71 → c ≠ 72 → I1 c = I c := fun c a b => by rw [← hI1, ucn (nbeq b), ucn (nbeq a)]
  obtain ⟨f', g', q39, hf', hg'⟩ := s39 (S := S) (I := I1) (J := J) (fun i hi => by rw [o1 5 (by decide) (by decide)]; exact hfit i hi)
  generalize hI2 : uc (uc I1 74 f') 75 g' = I2 at q39
  have o2 : ∀ c, c ≠ 71 → c ≠ 72 → c ≠ 74 → c ≠ 75 → I2 c = I c := fun c a b d e => by rw [← hI2, ucn (nbeq e), ucn (nbeq d), o1 c a b]
  have i271 : ∀ i, i < 192 → I2 71 i = 0 := fun i hi => by rw [← hI2, ucn rfl, ucn rfl, ← hI1, ucn rfl, uc_s]; exact hf i hi
  have i272 : ∀ i, i < 12 → I2 72 i = 0 := fun i hi => by rw [← hI2, ucn rfl, ucn rfl, ← hI1, uc_s]; exact hg i hi
  have i274 : ∀ i, i < 480 → I2 74 i = I 5 i := fun i hi => by rw [← hI2, ucn rfl, uc_s, hf' i hi, o1 5 (by decide) (by decide)]
  have i275 : ∀ j, j < 26 → I2 75 j = I 1 j := fun j hj => by rw [← hI2, uc_s, hg' j hj, o1 1 (by decide) (by decide)]
  have htk : tkI I2 := by
    intro p hp
    refine ⟨0, by decide, by rw [i272 p hp]; rfl, fun r' hr' => ?_⟩
    rw [Nat.zero_testBit, i271 _ (by omega)]
    rfl
  have hE2 : cEn r I2 J := by
    obtain ⟨a1, a2, ⟨a3, a4, a5, a6⟩, a7, a8, a9⟩ := hE
    exact ⟨by rw [o2 55 (by decide) (by decide) (by decide) (by decide)]; exact a1, fun j hj => by rw [o2 1 (by decide) (by decide) (by decide) (by decide)]; exact a2 j hj, ⟨by rw [o2 56 (by decide) (by decide) (by decide) (by decide)]; exact a3, fun p hp => by rw [o2 59 (by decide) (by decide) (by decide) (by decide)]; exact a4 p hp, a5, a6⟩, fun i hi => by rw [o2 5 (by decide) (by decide) (by decide) (by decide)]; exact a7 i hi, by rw [o2 61 (by decide) (by decide) (by decide) (by decide)]; exact a8, by rw [o2 62 (by decide) (by decide) (by decide) (by decide)]; exact a9⟩
  have hY2 : cSy r I2 := by
    intro t ht
    rw [o2 (7 + 12 * t) (by omega) (by omega) (by omega) (by omega), o2 (8 + 12 * t) (by omega) (by omega) (by omega) (by omega), o2 (9 + 12 * t) (by omega) (by omega) (by omega) (by omega)]
    exact hY t ht
  have hS2 : cSh I2 C R := ⟨by rw [o2 70 (by decide) (by decide) (by decide) (by decide)]; exact h70.1, by rw [o2 70 (by decide) (by decide) (by decide) (by decide)]; exact h70.2.1, h70.2.2.1, h70.2.2.2, htk⟩
  have h42 : I2 4 4 = nI (nS r) := by rw [o2 4 (by decide) (by decide) (by decide) (by decide)]; exact h4
  have hd0' : ∀ t, t < nS r → dnF r 9 0 t = false := by
    intro t ht
    have := (okSt_i hO' ht).2.2.2.2
    cases hb' : dnF r 9 0 t with
    | false => rfl
    | true => have := dnF_i.mp hb'; omega
  obtain ⟨I3, J3, p', l2, e3, F, t3, G3, ok3, cnt3⟩ := g10_u (S := S) (k := (0, 0)) (I0 := I2) (J0 := J) hO' hE2 hS2 hY2 h42 ⟨rfl, rfl⟩ 9 0 (fun _ => 0, fun _ => none) I2 J none (Nat.le_refl _) ⟨fP_r I2 J, htk, fun i hi => i271 i hi, fun t ht hd => (by rw [hd0' t ht] at hd; cases hd), fun _ _ => rfl, by
    have : ∀ n, n ≤ nS r → cnT (fun t => dnF r 9 0 t && hd0 r (fun _ => 0, fun _ => none) t) n = 0 := by
      intro n
      induction n with
      | zero => intro _; rfl
      | succ n ih =>
        intro hn
        have hz : (dnF r 9 0 n && hd0 r (fun _ => 0, fun _ => none) n) = false := by rw [hd0' n (by omega)]; rfl
        show cnT (fun t => dnF r 9 0 t && hd0 r (fun _ => 0, fun _ => none) t) n + (if (dnF r 9 0 n && hd0 r (fun _ => 0, fun _ => none) n) = true then 1 else 0) = 0
        rw [ih (by omega), hz]
        rfl
    exact (this (nS r) (Nat.le_refl _)).symm⟩
  have hn0' : ¬ I 4 4 = 0 := by rw [h4]; exact nI_ne0 hn0 (by omega)
  refine ⟨u2 I3 0 9 1, J3, zq_of rfl ?_, fun c hc => ?_, ?_, fun e he => ?_, ?_, ?_, fun t ht e e1 e2 e3' => ?_, fun t ht => ?_, fun c hc => ?_, tkI_u t3 (u2n rfl) (u2n rfl), by rw [u2n rfl]; exact G3, fun t ht => cOK_u (ok3 t ht) (fun j hj => by rw [u2n (nbeq (by omega))]), fun i hi => ?_, fun j hj => ?_⟩
  · show zd S 10 0 [some (.ref 0), none, none, none, none] [] I J (0, 0) = _
    rw [B10_0, if_pos hn0', B10_12 ⟨rfl, rfl⟩ q81, B10_22 ⟨rfl, rfl⟩ q39, B10_40, ← nI_0, show (9 : Int32) = nI 9 from rfl, e3, B10_139, B10_144, cnt3]
    rfl
  · rw [u2n (nbeq (by omega)), F.1 c (by omega), o2 c (by omega) (by omega) (by omega) (by omega)]
  · have h0' : I3 0 = I 0 := by rw [F.1 0 (by omega), o2 0 (by decide) (by decide) (by decide) (by decide)]
    rw [← h0']
    exact uc_s _ _ _
  · rw [u2n rfl, F.2.1 e he, o2 55 (by decide) (by decide) (by decide) (by decide)]
  · rw [u2n rfl, F.2.2.1, o2 61 (by decide) (by decide) (by decide) (by decide)]
  · rw [u2n rfl, F.2.2.2.1, o2 62 (by decide) (by decide) (by decide) (by decide)]
  · rw [u2n (nbeq (by omega)), F.2.2.2.2.1 t ht e e1 e2 e3', o2 _ (by omega) (by omega) (by omega) (by omega)]
  · have := F.2.2.2.2.2.1 t ht
    rw [u2n (nbeq (by omega)), u2n (nbeq (by omega)), this.1, this.2, o2 _ (by omega) (by omega) (by omega) (by omega), o2 _ (by omega) (by omega) (by omega) (by omega)]
    exact ⟨rfl, rfl⟩
  · rw [F.2.2.2.2.2.2 c hc]
  · rw [u2n rfl, F.1 74 (by omega)]
    exact i274 i hi
  · rw [u2n rfl, F.1 75 (by omega)]
    exact i275 j hj
end CPLAN3
