/-! ink, the one side: the letters k .. t - 1 of a line lie at the places P, a space before each word but the first -/
def rwC (I : zI) (w c : Nat → Nat) (E : Nat → Bool) (P : Nat → Nat) (k t : Nat) : Prop :=
  (∀ j, k ≤ j → j < t → I 74 (P j) = nI (c j) ∧ isN (c j) = true ∧ P j < 480 ∧ w j ≤ 9 ∧ I 75 (c j - 97) = nI (w j)) ∧ (∀ j, k ≤ j → j + 1 < t → P (j + 1) = P j + 1 + (if E (j + 1) = true then 1 else 0) ∧ (E (j + 1) = true → I 74 (P j + 1) = 32))
section CINK
variable {S : Nat × (Nat → Int32)} {I : zI} {J : zJ} {k : zK} {w c P : Nat → Nat} {E : Nat → Bool} {f t : Nat}
theorem s46_l {j : Nat} (h : rwC I w c E P f t) (hj : f ≤ j) (hj2 : j < t) : zq S 46 [.ref 73, .int (I 74 (nI (P j)).toNatClampNeg)] I J (some (.int (nI (w j)))) I J := by
  obtain ⟨h1, h2, h3, h4, h5⟩ := h.1 j hj hj2
  have hr := (isN_i _).mp h2
  rw [nI_clamp (by omega), h1]
  refine zq_of rfl ?_
  show zd S 46 0 [some (.ref 73), some (.int (nI (c j)))] [] I J (0, 0) = _
  have e97 : nI (c j) - 97 = nI (c j - 97) := pk_sub (b := 97) (by omega)
  rw [B46_0 ⟨rfl, rfl⟩ (s19n (by omega)), h2, B46_4, if_neg (show ¬ bI true = 0 by decide), B46_7 (by rw [e97]; exact zin_n (by omega) (by decide)), e97, nI_clamp (by omega), h5]
theorem s46_s {x : Int32} (hx : x = 32) : zq S 46 [.ref 73, .int x] I J (some (.int 3)) I J := by
  subst hx
  refine zq_of rfl ?_
  show zd S 46 0 [some (.ref 73), some (.int 32)] [] I J (0, 0) = _
  have : zq S 19 [.int 32] I J (some (.int (bI (isN 32)))) I J := s19n (c := 32) (by decide)
  rw [B46_0 ⟨rfl, rfl⟩ this, B46_4, if_pos (show bI (isN 32) = 0 from rfl), B46_19]
theorem n32 {j : Nat} (h : rwC I w c E P f t) (hj : f ≤ j) (hj2 : j < t) : ¬ I 74 (nI (P j)).toNatClampNeg = 32 := by
  obtain ⟨h1, h2, h3, _⟩ := h.1 j hj hj2
  have hr := (isN_i _).mp h2
  rw [nI_clamp (by omega), h1, show (32 : Int32) = nI 32 from rfl, nI_eq (by omega) (by omega)]
  omega
theorem P_t {j : Nat} (h : rwC I w c E P f t) (hj : f ≤ j) (hj2 : j < t) : P j + 1 ≤ P (t - 1) + 1 ∧ P (t - 1) + 1 ≤ 480 := by
  have : ∀ m j, t = j + 1 + m → f ≤ j → P j ≤ P (t - 1) := by
    intro m
    induction m with
    | zero => intro j hm hj; rw [show t - 1 = j by omega]; exact Nat.le_refl _
    | succ m ih =>
      intro j hm hj
      have h1 := ih (j + 1) (by omega) (by omega)
      have h2 := (h.2 j hj (by omega)).1
      omega
  have h1 := this (t - 1 - j) j (by omega) hj
  have h2 := (h.1 (t - 1) (by omega) (by omega)).2.2.1
  omega
/-- the units of the letters and spaces -/
theorem g44_l (h : rwC I w c E P f t) (hb : Nat.ble k.1 (mBu 44).1 = true ∧ Nat.ble k.2 (mBu 44).2 = true) : ∀ (m j z : Nat) (o : Option Value), t = j + 1 + m → f ≤ j →
    zd S 44 5 [some (.ref 73), o, some (.int (nI (P (t - 1) + 1))), some (.int (nI z)), some (.int (nI (P j)))] [] I J k = some (some (.int (nI (z + swF w (m + 1) j + 3 * scF E t (m + 1) j))), mk I J, k) := by
  intro m
  induction m with
  | zero =>
    intro j z o hm hj
    have hp := P_t h hj (by omega)
    have hw := (h.1 j hj (by omega)).2.2.2.1
    have e : t - 1 = j := by omega
    rw [e] at hp ⊢
    rw [B44_5, if_neg (nI_ge (by omega) (by omega)), B44_11 hb (zin_n (by omega) (by decide)) (s46_l h hj (by omega)), B44_23, nI_1, nI_add, B44_5, if_pos (nI_le (Nat.le_refl _) (by omega)), B44_31]
    have : z + swF w (0 + 1) j + 3 * scF E t (0 + 1) j = z + w j := by
      unfold swF scF
      rw [if_neg (by omega)]
      show z + (w j + 0) + 3 * (0 + 0) = z + w j
      omega
    rw [this]
  | succ m ih =>
    intro j z o hm hj
    have hp := P_t h hj (by omega)
    have hp2 := P_t h (j := j + 1) (by omega) (by omega)
    have h2 := h.2 j hj (by omega)
    rw [B44_5, if_neg (nI_ge (by omega) (by omega)), B44_11 hb (zin_n (by omega) (by decide)) (s46_l h hj (by omega)), B44_23, nI_1, nI_add]
    cases hE : E (j + 1) with
    | false =>
      have e1 : P j + 1 = P (j + 1) := by rw [h2.1, hE]; rfl
      rw [e1, ih (j + 1) (z + w j) none (by omega) (by omega)]
      have : z + swF w (m + 1 + 1) j + 3 * scF E t (m + 1 + 1) j = z + w j + swF w (m + 1) (j + 1) + 3 * scF E t (m + 1) (j + 1) := by
        have a1 : swF w (m + 1 + 1) j = w j + swF w (m + 1) (j + 1) := rfl
        have a2 : scF E t (m + 1 + 1) j = 0 + scF E t (m + 1) (j + 1) := by
          rw [scF, if_neg (fun q => by rw [hE] at q; cases q.2)]
        omega
      rw [this]
    | true =>
      have e1 : P j + 1 + 1 = P (j + 1) := by rw [h2.1, hE]; rfl
      have h32 := h2.2 hE
      have q46 : zq S 46 [.ref 73, .int (I 74 (nI (P j + 1)).toNatClampNeg)] I J (some (.int 3)) I J := s46_s (by rw [nI_clamp (by omega)]; exact h32)
      rw [B44_5, if_neg (nI_ge (by omega) (by omega)), B44_11 hb (zin_n (by omega) (by decide)) q46, B44_23, nI_1, show (3 : Int32) = nI 3 from rfl, nI_add, e1, ih (j + 1) (z + w j + 3) none (by omega) (by omega)]
      have : z + swF w (m + 1 + 1) j + 3 * scF E t (m + 1 + 1) j = z + w j + 3 + swF w (m + 1) (j + 1) + 3 * scF E t (m + 1) (j + 1) := by
        have a1 : swF w (m + 1 + 1) j = w j + swF w (m + 1) (j + 1) := rfl
        have a2 : scF E t (m + 1 + 1) j = 1 + scF E t (m + 1) (j + 1) := by
          rw [scF, if_pos ⟨by omega, hE⟩]
        omega
      rw [this]
theorem s44 (h : rwC I w c E P f t) (hft : f < t) : zq S 44 [.ref 73, .int (nI (P f)), .int (nI (P (t - 1) + 1))] I J (some (.int (nI (swF w (t - f) f + 3 * scF E t (t - f) f)))) I J := by
  refine zq_of rfl ?_
  show zd S 44 0 [some (.ref 73), some (.int (nI (P f))), some (.int (nI (P (t - 1) + 1))), none, none] [] I J (0, 0) = _
  have := g44_l (S := S) (J := J) (k := (0, 0)) h ⟨rfl, rfl⟩ (t - 1 - f) f 0 (some (.int (nI (P f)))) (by omega) (Nat.le_refl _)
  rw [show t - 1 - f + 1 = t - f by omega, Nat.zero_add] at this
  rw [B44_0]
  exact this
theorem g45_l (h : rwC I w c E P f t) (hb : Nat.ble k.1 (mBu 45).1 = true ∧ Nat.ble k.2 (mBu 45).2 = true) : ∀ (m j z : Nat) (o : Option Value), t = j + 1 + m → f ≤ j →
    zd S 45 5 [some (.ref 73), o, some (.int (nI (P (t - 1) + 1))), some (.int (nI z)), some (.int (nI (P j)))] [] I J k = some (some (.int (nI (z + scF E t (m + 1) j))), mk I J, k) := by
  intro m
  have a0 : ∀ x : Int32, x + 0 = x := fun x => by simp
  induction m with
  | zero =>
    intro j z o hm hj
    have hp := P_t h hj (by omega)
    have e : t - 1 = j := by omega
    rw [e] at hp ⊢
    rw [B45_5, if_neg (nI_ge (by omega) (by omega)), B45_11 (zin_n (by omega) (by decide)), if_pos (n32 h hj (by omega)), B45_28, nI_1, a0, B45_5, if_pos (nI_le (Nat.le_refl _) (by omega)), B45_37]
    have : z + scF E t (0 + 1) j = z := by
      unfold scF
      rw [if_neg (by omega)]
      rfl
    rw [this]
  | succ m ih =>
    intro j z o hm hj
    have hp := P_t h hj (by omega)
    have hp2 := P_t h (j := j + 1) (by omega) (by omega)
    have h2 := h.2 j hj (by omega)
    rw [B45_5, if_neg (nI_ge (by omega) (by omega)), B45_11 (zin_n (by omega) (by decide)), if_pos (n32 h hj (by omega)), B45_28, nI_1, a0]
    cases hE : E (j + 1) with
    | false =>
      have e1 : P j + 1 = P (j + 1) := by rw [h2.1, hE]; rfl
      have a2 : scF E t (m + 1 + 1) j = 0 + scF E t (m + 1) (j + 1) := by
        rw [scF, if_neg (fun q => by rw [hE] at q; cases q.2)]
      rw [e1, ih (j + 1) z none (by omega) (by omega), a2, Nat.zero_add]
    | true =>
      have e1 : P j + 1 + 1 = P (j + 1) := by rw [h2.1, hE]; rfl
      have h32 : I 74 (nI (P j + 1)).toNatClampNeg = 32 := by rw [nI_clamp (by omega)]; exact h2.2 hE
      have a2 : scF E t (m + 1 + 1) j = 1 + scF E t (m + 1) (j + 1) := by
        rw [scF, if_pos ⟨by omega, hE⟩]
      rw [B45_5, if_neg (nI_ge (by omega) (by omega)), B45_11 (zin_n (by omega) (by decide)), if_neg (not_not_intro h32), B45_24, nI_1, nI_1, e1, ih (j + 1) (z + 1) none (by omega) (by omega), a2, Nat.add_assoc]
theorem s45 (h : rwC I w c E P f t) (hft : f < t) : zq S 45 [.ref 73, .int (nI (P f)), .int (nI (P (t - 1) + 1))] I J (some (.int (nI (scF E t (t - f) f)))) I J := by
  refine zq_of rfl ?_
  show zd S 45 0 [some (.ref 73), some (.int (nI (P f))), some (.int (nI (P (t - 1) + 1))), none, none] [] I J (0, 0) = _
  have := g45_l (S := S) (J := J) (k := (0, 0)) h ⟨rfl, rfl⟩ (t - 1 - f) f 0 (some (.int (nI (P f)))) (by omega) (Nat.le_refl _)
  rw [show t - 1 - f + 1 = t - f by omega, Nat.zero_add] at this
  rw [B45_0]
  exact this
/-- one unit of the row -/
theorem g43_l {x e0 : Nat} (h : rwC I w c E P f t) (hx : x < 2 ^ 20) (he : e0 ≤ 100) (ht : t ≤ 480) (hb : Nat.ble k.1 (mBu 43).1 = true ∧ Nat.ble k.2 (mBu 43).2 = true) : ∀ (m j en ex b : Nat) (z : Int32) (o1 o3 o4 o10 : Option Value), t = j + 1 + m → f ≤ j → en ≤ 200 * j → b ≤ j → exC z ex b →
    zd S 43 30 [some (.ref 73), o1, some (.int (nI (P (t - 1) + 1))), o3, o4, some (.int (nI x)), some (.int (nI e0)), some (.int z), some (.int (nI en)), some (.int (nI (P j))), o10] [] I J k = some (some (.int (nI ((ikF w c E x (3 + e0) t (m + 1) j en ex).1.getD 0))), mk I J, k) := by
  intro m
  induction m with
  | zero =>
    intro j en ex b z o1 o3 o4 o10 hm hj hen hbj hz
    have hp := P_t h hj (by omega)
    obtain ⟨h1, h2, h3, h4, h5⟩ := h.1 j hj (by omega)
    have e : t - 1 = j := by omega
    rw [e] at hp ⊢
    rw [B43_30, if_neg (nI_ge (by omega) (by omega)), B43_36 (zin_n (by omega) (by decide)), if_pos (n32 h hj (by omega)), B43_52 hb (zin_n (by omega) (by decide)) (s46_l h hj (by omega)), B43_68, if_pos rfl, nI_add, B43_97]
    unfold ikF
    by_cases hc : x < en + w j
    · rw [if_neg (nI_ge hc (by omega)), if_pos hc, B43_104, if_pos rfl, B43_113 (zin_n (by omega) (by decide)), nI_clamp (by omega), h1]
      rfl
    · rw [if_pos (nI_le (by omega) (by omega)), if_neg hc, if_neg (by omega), B43_121, nI_1, B43_30, if_pos (nI_le (Nat.le_refl _) (by omega)), B43_127]
      rfl
  | succ m ih =>
    intro j en ex b z o1 o3 o4 o10 hm hj hen hbj hz
    have hp := P_t h hj (by omega)
    have hp2 := P_t h (j := j + 1) (by omega) (by omega)
    obtain ⟨h1, h2, h3, h4, h5⟩ := h.1 j hj (by omega)
    have h2' := h.2 j hj (by omega)
    rw [B43_30, if_neg (nI_ge (by omega) (by omega)), B43_36 (zin_n (by omega) (by decide)), if_pos (n32 h hj (by omega)), B43_52 hb (zin_n (by omega) (by decide)) (s46_l h hj (by omega)), B43_68, if_pos rfl, nI_add, B43_97, ikF]
    by_cases hc : x < en + w j
    · rw [if_neg (nI_ge hc (by omega)), if_pos hc, B43_104, if_pos rfl, B43_113 (zin_n (by omega) (by decide)), nI_clamp (by omega), h1]
      rfl
    · rw [if_pos (nI_le (by omega) (by omega)), if_neg hc, B43_121, nI_1]
      cases hE : E (j + 1) with
      | false =>
        have e1 : P j + 1 = P (j + 1) := by rw [h2'.1, hE]; rfl
        rw [if_neg (fun q : j + 1 < t ∧ false = true => by cases q.2), e1]
        exact ih (j + 1) (en + w j) ex b z none none none (some (.int 0)) (by omega) (by omega) (by omega) (by omega) hz
      | true =>
        have e1 : P j + 1 + 1 = P (j + 1) := by rw [h2'.1, hE]; rfl
        have h32 : I 74 (nI (P j + 1)).toNatClampNeg = 32 := by rw [nI_clamp (by omega)]; exact h2'.2 hE
        rw [if_pos ⟨by omega, rfl⟩, B43_30, if_neg (nI_ge (by omega) (by omega)), B43_36 (zin_n (by omega) (by decide)), if_neg (not_not_intro h32), B43_48 hb (zin_n (by omega) (by decide)) (s46_s h32), B43_68, if_neg (by decide), B43_76, show (3 : Int32) = nI 3 from rfl, nI_add]
        have hz2 := exC_d hz (by omega)
        by_cases h0 : 0 < ex
        · rw [if_neg (fun q => (exC_0 hz).mp q h0), if_pos h0, B43_85, nI_1, nI_add, show en + w j + 3 + (e0 + 1) = en + w j + (3 + e0) + 1 by omega]
          by_cases hc2 : x < en + w j + (3 + e0) + 1
          · rw [if_neg (nI_ge hc2 (by omega)), if_pos hc2, B43_104, if_neg (by decide), B43_109]
            rfl
          · rw [if_pos (nI_le (by omega) (by omega)), if_neg hc2, B43_121, nI_1, e1]
            exact ih (j + 1) _ _ (b + 1) _ none none none (some (.int 1)) (by omega) (by omega) (by omega) (by omega) hz2
        · rw [if_pos ((exC_0 hz).mpr h0), if_neg h0, B43_89, show (0 : Int32) = nI 0 from rfl, nI_add, nI_add, show en + w j + 3 + (e0 + 0) = en + w j + (3 + e0) + 0 by omega]
          by_cases hc2 : x < en + w j + (3 + e0) + 0
          · rw [if_neg (nI_ge hc2 (by omega)), if_pos hc2, B43_104, if_neg (by decide), B43_109]
            rfl
          · rw [if_pos (nI_le (by omega) (by omega)), if_neg hc2, B43_121, nI_1, e1]
            exact ih (j + 1) _ _ (b + 1) _ none none none (some (.int 1)) (by omega) (by omega) (by omega) (by omega) hz2
theorem s43 {x Sp G : Nat} (h : rwC I w c E P f t) (hft : f < t) (hx : x < 2 ^ 20) (hS : Sp ≤ 60) (hG : G ≤ 480) (hG0 : G = 0 → Sp = 0) (ht : t ≤ 480) : zq S 43 [.ref 73, .int (nI (P f)), .int (nI (P (t - 1) + 1)), .int (nI Sp), .int (nI G), .int (nI x)] I J (some (.int (nI ((ikF w c E x (3 + Sp / G) t (t - f) f 0 (Sp % G)).1.getD 0)))) I J := by
  refine zq_of rfl ?_
  show zd S 43 0 [some (.ref 73), some (.int (nI (P f))), some (.int (nI (P (t - 1) + 1))), some (.int (nI Sp)), some (.int (nI G)), some (.int (nI x)), none, none, none, none, none] [] I J (0, 0) = _
  have hm := Nat.mod_le Sp G
  have hd := Nat.div_le_self Sp G
  have hl := g43_l (S := S) (J := J) (k := (0, 0)) (x := x) (e0 := Sp / G) h hx (by omega) ht ⟨rfl, rfl⟩ (t - 1 - f) f 0 (Sp % G) 0 (nI (Sp % G)) (some (.int (nI (P f)))) (some (.int (nI Sp))) (some (.int (nI G))) none (by omega) (Nat.le_refl _) (Nat.zero_le _) (Nat.zero_le _) (exC_n (by omega))
  rw [show t - 1 - f + 1 = t - f by omega] at hl
  rw [B43_0]
  by_cases h0 : G = 0
  · have := hG0 h0
    subst h0
    subst this
    have h00 : nI 0 ≤ 0 := nI_le (Nat.le_refl 0) (by decide)
    rw [if_pos h00, B43_12]
    exact hl
  · have hGn : ¬ nI G = 0 := nI_ne0 (by omega) (by omega)
    have h00 : ¬ nI G ≤ 0 := nI_nle (by omega) (by omega)
    rw [if_neg h00, B43_5 hGn]
    have e1 : nI Sp / nI G = nI (Sp / G) := pk_div (by omega) (by omega) (by omega)
    have e2 : nI Sp - nI (Sp / G) * nI G = nI (Sp % G) := by
      rw [pk_mul, pk_sub (Nat.div_mul_le_self _ _)]
      congr 1
      have := Nat.div_add_mod Sp G
      rw [Nat.mul_comm] at this
      omega
    rw [e1, e2]
    exact hl
/-- one unit of a line -/
def uuF (w : Nat → Nat) (E : Nat → Bool) (f t : Nat) : Nat := swF w (t - f) f + 3 * scF E t (t - f) f
def slF (w : Nat → Nat) (E : Nat → Bool) (D q f t : Nat) : Nat := if q = 3 ∨ scF E t (t - f) f = 0 then 0 else D - uuF w E f t - (if q = 2 then 2 else 0)
def lkX (w c : Nat → Nat) (E : Nat → Bool) (D q x f t : Nat) : Option Nat × Nat := ikF w c E x (3 + slF w E D q f t / scF E t (t - f) f) t (t - f) f 0 (slF w E D q f t % scF E t (t - f) f)
def lkF (w c : Nat → Nat) (E : Nat → Bool) (D q x f t : Nat) : Nat := match (lkX w c E D q x f t).1 with
  | some v => v
  | none => if q = 2 ∧ x < uuF w E f t + slF w E D q f t + 2 then 45 else 0
theorem sl_t (w : Nat → Nat) (E : Nat → Bool) (D q f t : Nat) : ttF w E (3 + slF w E D q f t / scF E t (t - f) f) t (t - f) f (slF w E D q f t % scF E t (t - f) f) = uuF w E f t + slF w E D q f t := by
  rw [tt_s]
  unfold uuF
  by_cases h0 : scF E t (t - f) f = 0
  · have : slF w E D q f t = 0 := if_pos (Or.inr h0)
    rw [this, h0]
    rfl
  · generalize scF E t (t - f) f = G at h0
    generalize slF w E D q f t = Sp
    have h1 := Nat.mod_lt Sp (Nat.pos_of_ne_zero h0)
    have h2 := Nat.div_add_mod Sp G
    rw [Nat.add_mul, Nat.min_eq_left (by omega), Nat.mul_comm (Sp / G) G]
    omega
theorem sc_le (E : Nat → Bool) (t : Nat) : ∀ m j, scF E t m j ≤ m
  | 0, _ => Nat.le_refl _
  | m + 1, j => by
    have := sc_le E t m (j + 1)
    unfold scF
    split <;> omega
theorem s42 {s i x D q : Nat} (hs : s < 4) (hi : i < 40) (h : rwC I w c E P f t) (hft : f < t) (ht : t ≤ 192) (hx : x < 2 ^ 20) (hD : I 73 0 = nI D) (hD6 : D ≤ 60) (h11 : I (11 + 12 * s) i = nI (P f)) (h12 : I (12 + 12 * s) i = nI (P (t - 1) + 1)) (h13 : I (13 + 12 * s) i = nI q) (hq : q ≤ 3) (hw : uuF w E f t + (if q = 2 then 2 else 0) ≤ D) :
    zq S 42 [.ref 73, .ref (7 + 12 * s), .int (nI i), .int (nI x)] I J (some (.int (nI (lkF w c E D q x f t)))) I J := by
  refine zq_of rfl ?_
  show zd S 42 0 [some (.ref 73), some (.ref (7 + 12 * s)), some (.int (nI i)), some (.int (nI x)), none, none, none, none, none, none] [] I J (0, 0) = _
  have hz : zin (nI i) 40 = true := zin_n hi (by decide)
  have hc : (nI i).toNatClampNeg = i := nI_clamp (by omega)
  have q44 := s44 (S := S) (J := J) h hft
  have q45 := s45 (S := S) (J := J) h hft
  have hu : swF w (t - f) f + 3 * scF E t (t - f) f = uuF w E f t := rfl
  rw [hu] at q44
  have hscl := sc_le E t (t - f) f
  have hG : uuF w E f t ≤ 60 := by omega
  generalize hy : (if q = 2 then 2 else 0) = y at hw
  have hy2 : y ≤ 2 := by rw [← hy]; split <;> omega
  have step : zd S 42 0 [some (.ref 73), some (.ref (7 + 12 * s)), some (.int (nI i)), some (.int (nI x)), none, none, none, none, none, none] [] I J (0, 0) = zd S 42 51 [some (.ref 73), some (.ref (7 + 12 * s)), some (.int (nI i)), some (.int (nI x)), some (.int (nI (P f))), some (.int (nI (P (t - 1) + 1))), some (.int (nI y)), some (.int (nI (uuF w E f t))), none, none] [.int (nI (scF E t (t - f) f))] I J (0, 0) := by
    rw [B42_0 hs hz hz hz, hc, h11, h12, h13]
    by_cases h2 : q = 2
    · have e2 : nI q = 2 := by rw [h2]; rfl
      rw [if_pos h2] at hy
      subst hy
      rw [if_neg (not_not_intro e2), B42_26 ⟨rfl, rfl⟩ hs q44, B42_41 ⟨rfl, rfl⟩ hs q45]
      rfl
    · have e2 : ¬ nI q = 2 := fun z => h2 ((nI_eq (a := q) (b := 2) (by omega) (by omega)).mp z)
      rw [if_neg h2] at hy
      subst hy
      rw [if_pos e2, B42_30 ⟨rfl, rfl⟩ hs q44, B42_41 ⟨rfl, rfl⟩ hs q45]
      rfl
  rw [step, B42_51 hs hz, hc, h13]
  have hsl : slF w E D q f t ≤ 60 := by unfold slF; split <;> omega
  have hsl2 : slF w E D q f t + uuF w E f t + y ≤ D := by
    unfold slF
    rw [hy]
    split <;> omega
  -- the end: with the spare units that there are
  have fin : ∀ (o1 o2 : Option Value), o1 = o1 → zd S 42 90 [some (.ref 73), some (.ref (7 + 12 * s)), some (.int (nI i)), some (.int (nI x)), some (.int (nI (P f))), some (.int (nI (P (t - 1) + 1))), some (.int (nI y)), some (.int (nI (uuF w E f t + slF w E D q f t))), some (.int (nI (scF E t (t - f) f))), some (.int (nI (slF w E D q f t)))] [] I J (0, 0) = some (some (.int (nI (lkF w c E D q x f t))), mk I J, (0, 0)) ∧ (if nI x < nI (uuF w E f t + slF w E D q f t) then zd S 42 112 [some (.ref 73), none, none, some (.int (nI x)), some (.int (nI (P f))), some (.int (nI (P (t - 1) + 1))), some (.int (nI y)), some (.int (nI (uuF w E f t + slF w E D q f t))), some (.int (nI (scF E t (t - f) f))), some (.int (nI (slF w E D q f t)))] [] I J (0, 0) else zd S 42 96 [some (.ref 73), none, none, some (.int (nI x)), some (.int (nI (P f))), some (.int (nI (P (t - 1) + 1))), some (.int (nI y)), some (.int (nI (uuF w E f t + slF w E D q f t))), some (.int (nI (scF E t (t - f) f))), some (.int (nI (slF w E D q f t)))] [] I J (0, 0)) = some (some (.int (nI (lkF w c E D q x f t))), mk I J, (0, 0)) := by
    intro o1 o2 _
    rw [B42_90 hs]
    rw [and_self]
    unfold lkF
    by_cases hlt : x < uuF w E f t + slF w E D q f t
    · rw [if_pos (nI_lt hlt (by omega)), B42_112 ⟨rfl, rfl⟩ (s43 h hft hx hsl (by omega) (fun h0 => if_pos (Or.inr h0)) (by omega)), B42_125]
      cases hk : (lkX w c E D q x f t).1 with
      | none =>
        have h1 := ik_n _ _ _ _ hk (Nat.zero_le _)
        rw [sl_t] at h1
        omega
      | some v =>
        have : (ikF w c E x (3 + slF w E D q f t / scF E t (t - f) f) t (t - f) f 0 (slF w E D q f t % scF E t (t - f) f)).1 = some v := hk
        rw [this]
        rfl
    · rw [if_neg (nI_nlt (by omega) (by omega)), B42_96, nI_add]
      cases hk : (lkX w c E D q x f t).1 with
      | some v =>
        have h1 := ik_s _ _ _ _ hk
        rw [sl_t] at h1
        omega
      | none =>
        dsimp only
        by_cases h2 : q = 2
        · rw [if_pos h2] at hy
          subst hy
          by_cases h3 : x < uuF w E f t + slF w E D q f t + 2
          · rw [if_neg (nI_ge h3 (by omega)), if_pos ⟨h2, h3⟩, B42_105]
            rfl
          · rw [if_pos (nI_le (by omega) (by omega)), if_neg (fun z => h3 z.2), B42_110]
            rfl
        · rw [if_neg h2] at hy
          subst hy
          rw [if_pos (nI_le (by omega) (by omega)), if_neg (fun z => h2 z.1), B42_110]
          rfl
  have fin := fin none none rfl
  by_cases h3 : q = 3
  · have e3 : nI q = 3 := by rw [h3]; rfl
    have z0 : slF w E D q f t = 0 := if_pos (Or.inl h3)
    have f1 := fin.1
    rw [z0] at f1
    rw [if_pos e3]
    exact f1
  · have e3 : ¬ nI q = 3 := fun z => h3 ((nI_eq (a := q) (b := 3) (by omega) (by omega)).mp z)
    rw [if_neg e3, B42_66 hs]
    by_cases hG0 : scF E t (t - f) f = 0
    · have z0 : slF w E D q f t = 0 := if_pos (Or.inr hG0)
      have hle : nI (scF E t (t - f) f) ≤ 0 := by rw [hG0]; exact nI_le (Nat.le_refl 0) (by decide)
      have f1 := fin.1
      rw [z0] at f1
      rw [if_pos hle]
      exact f1
    · have hle : ¬ nI (scF E t (t - f) f) ≤ 0 := nI_nle (by omega) (by omega)
      have z0 : slF w E D q f t = D - uuF w E f t - y := by
        unfold slF
        rw [if_neg (fun z => z.elim h3 hG0), hy]
      rw [if_neg hle, B42_71 hs, hD, pk_sub (by omega), pk_sub (by omega), nI_add, ← z0]
      exact fin.2
end CINK
