/-! plan: the cost of a line and of what follows it -/
def oI (o : Option Nat) : Int32 := match o with
  | none => -1
  | some v => nI v
theorem oI_m {o : Option Nat} (h : ∀ v, o = some v → v < 2 ^ 31) : oI o = -1 ↔ o = none := by
  cases o with
  | none => exact ⟨fun _ => rfl, fun _ => rfl⟩
  | some v =>
    constructor
    · intro h1
      have h2 : nI v = -1 := h1
      have h3 : (-1 : Int32) < 0 := by decide
      rw [← h2] at h3
      exact absurd h3 (nI_pos (h v rfl))
    · intro h1
      cases h1
theorem le2 : ∀ x, x < 61 → (0 ≤ nI x - 2 ↔ 2 ≤ x) := by decide +kernel
/-- where the next line begins -/
def nxB (e : Nat → Nat) (t : Nat) : Nat := if e t = 2 then t else t + 1
/-- the cost from the line f..t on; w its width -/
def cstF (D w et : Nat) (r : Option Nat) : Option Nat := if et = 0 then none else if et = 2 then (if 2 ≤ D - w then r.map (fun v => v + (D - w - 2) * (D - w - 2) + 100) else none) else if et = 3 then some 0 else r.map (fun v => v + (D - w) * (D - w))
section COST
variable {S : Nat × (Nat → Int32)} {I : zI} {J : zJ}
theorem s31 {e : Nat → Nat} {t : Nat} (ht : t < 208) (he : I 62 t = nI (e t)) (he3 : e t ≤ 3) : zq S 31 [.ref 55, .int (nI t)] I J (some (.int (nI (nxB e t)))) I J := by
  refine zq_of rfl ?_
  show zd S 31 0 [some (.ref 55), some (.int (nI t))] [] I J (0, 0) = _
  have e2 : nI (e t) = 2 ↔ e t = 2 := nI_eq (b := 2) (by omega) (by decide)
  unfold nxB
  rw [B31_0 (zin_n ht (by decide)), nI_clamp (by omega), he]
  by_cases h : e t = 2
  · rw [if_neg (not_not_intro (e2.mpr h)), B31_10, if_pos h]
  · rw [if_pos (fun z => h (e2.mp z)), B31_14, nI_1, if_neg h]
theorem s30 {D f t : Nat} {U e : Nat → Nat} {r : Option Nat} (hD : D ≤ 60) (hf : f < 208) (ht : t < 208) (h1 : I 55 1 = nI D) (hU : U f ≤ U t) (hw : U t - U f ≤ D) (u1 : I 61 f = nI (U f)) (u2' : I 61 t = nI (U t)) (he : I 62 t = nI (e t)) (he3 : e t ≤ 3) (hr : e t = 1 ∨ e t = 2 → nxB e t < 208 ∧ I 63 (nxB e t) = oI r) (hrb : ∀ v, r = some v → v < 2 ^ 30) :
    zq S 30 [.ref 55, .int (nI f), .int (nI t)] I J (some (.int (oI (cstF D (U t - U f) (e t) r)))) I J := by
  refine zq_of rfl ?_
  show zd S 30 0 [some (.ref 55), some (.int (nI f)), some (.int (nI t)), none, none, none] [] I J (0, 0) = _
  have zt : zin (nI t) 208 = true := zin_n ht (by decide)
  have zf : zin (nI f) 208 = true := zin_n hf (by decide)
  have ct : (nI t).toNatClampNeg = t := nI_clamp (by omega)
  have cf : (nI f).toNatClampNeg = f := nI_clamp (by omega)
  have el : nI D - (nI (U t) - nI (U f)) = nI (D - (U t - U f)) := by rw [pk_sub hU, pk_sub hw]
  have e2 : nI (e t) = 2 ↔ e t = 2 := nI_eq (b := 2) (by omega) (by decide)
  have e0 : nI (e t) = 0 ↔ e t = 0 := nI_eq (b := 0) (by omega) (by decide)
  have e3 : nI (e t) = 3 ↔ e t = 3 := nI_eq (b := 3) (by omega) (by decide)
  have em := oI_m (o := r) (fun v hv => by have := hrb v hv; omega)
  unfold cstF
  rw [B30_0 zt zt zf, ct, cf, he, h1, u1, u2', el]
  by_cases h2 : e t = 2
  · have hn0 : ¬ e t = 0 := by omega
    have hle := le2 (D - (U t - U f)) (by omega)
    rw [if_neg (not_not_intro (e2.mpr h2)), B30_30, if_neg (fun z => hn0 (e0.mp z)), B30_42, if_neg hn0, if_pos h2]
    by_cases hl : 2 ≤ D - (U t - U f)
    · have es : nI (D - (U t - U f)) - 2 = nI (D - (U t - U f) - 2) := pk_sub (b := 2) hl
      obtain ⟨n1, n2⟩ := hr (Or.inr h2)
      rw [if_pos (hle.mpr hl), if_pos hl, B30_49, if_pos (fun z => by have := e3.mp z; omega), B30_56 ⟨rfl, rfl⟩ (s31 ht he he3), B30_65 (zin_n n1 (by decide)), nI_clamp (by omega), n2, es]
      cases r with
      | none => rw [if_neg (not_not_intro (em.mpr rfl)), B30_74]; rfl
      | some v =>
        have hne : ¬ oI (some v) = -1 := fun z => by cases em.mp z
        rw [if_pos hne, B30_78, if_neg (not_not_intro (e2.mpr h2)), B30_91]
        show some (some (Value.int (nI v + nI (D - (U t - U f) - 2) * nI (D - (U t - U f) - 2) + nI 100)), mk I J, (0, 0)) = _
        rw [pk_mul, nI_add, nI_add]
        rfl
    · rw [if_neg (fun z => hl (hle.mp z)), B30_47, if_neg hl]
      rfl
  · rw [if_pos (fun z => h2 (e2.mp z)), B30_34]
    have es : nI (D - (U t - U f)) - 0 = nI (D - (U t - U f)) := pk_sub (b := 0) (Nat.zero_le _)
    by_cases h0 : e t = 0
    · rw [if_pos (e0.mpr h0), B30_47, if_pos h0]
      rfl
    · rw [if_neg (fun z => h0 (e0.mp z)), B30_42, es, if_pos (nI_pos' (by omega)), B30_49, if_neg h0, if_neg h2]
      by_cases h3 : e t = 3
      · rw [if_neg (not_not_intro (e3.mpr h3)), B30_54, if_pos h3]
        rfl
      · obtain ⟨n1, n2⟩ := hr (Or.inl (by omega))
        rw [if_pos (fun z => h3 (e3.mp z)), B30_56 ⟨rfl, rfl⟩ (s31 ht he he3), B30_65 (zin_n n1 (by decide)), nI_clamp (by omega), n2, if_neg h3]
        cases r with
        | none => rw [if_neg (not_not_intro (em.mpr rfl)), B30_74]; rfl
        | some v =>
          have hne : ¬ oI (some v) = -1 := fun z => by cases em.mp z
          rw [if_pos hne, B30_78, if_pos (fun z => h2 (e2.mp z)), B30_96]
          show some (some (Value.int (nI v + nI (D - (U t - U f)) * nI (D - (U t - U f)) + nI 0)), mk I J, (0, 0)) = _
          rw [pk_mul, nI_add, nI_add]
          rfl
end COST
