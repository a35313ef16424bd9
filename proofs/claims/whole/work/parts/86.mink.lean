/-! ink, the other side: a row of letters by its words' ends -/
def rwM (I : zI) (p l : Nat) (L : List Nat) (w c : Nat → Nat) : Prop :=
  I 91 p = nI L.length ∧ I 92 p = nI l ∧ l = L.sum ∧ l ≤ 192 ∧ posL L ∧ L.length ≤ 16 ∧ (∀ j, j < L.length → I 90 (16 * p + j) = nI (L.take (j + 1)).sum) ∧ (∀ i, i < l → I 89 (192 * p + i) = nI (c i) ∧ isN (c i) = true ∧ I 78 (c i - 97) = nI (w i) ∧ w i ≤ 9)
section MINK
variable {S : Nat × (Nat → Int32)} {I : zI} {J : zJ} {k : zK} {p l : Nat} {L : List Nat} {w c : Nat → Nat}
theorem take_le (L : List Nat) (n : Nat) : (L.take n).sum ≤ L.sum := by
  have := congrArg List.sum (List.take_append_drop n L)
  rw [List.sum_append] at this
  omega
theorem g119_l {q : Nat} (h : rwM I p l L w c) (hp : p < 20) (hq : q < 2 ^ 20) : ∀ (m j : Nat), L.length = j + m →
    zd S 119 5 [some (.ref 76), some (.int (nI p)), some (.int (nI q)), some (.int (bI (anyT (fun j => decide ((L.take (j + 1)).sum = q)) j))), some (.int (nI j))] [] I J k = some (some (.int (bI (anyT (fun j => decide ((L.take (j + 1)).sum = q)) L.length))), mk I J, k) := by
  obtain ⟨h1, h2, h3, h4, h5, h6, h7, h8⟩ := h
  have hz : zin (nI p) 20 = true := zin_n hp (by decide)
  intro m
  induction m with
  | zero =>
    intro j hm
    have hj : L.length = j := by omega
    rw [B119_5 hz, nI_clamp (by omega), h1, if_pos (nI_le (by omega) (by omega)), B119_48 (by cases anyT _ j <;> rfl), hj]
  | succ m ih =>
    intro j hm
    rw [B119_5 hz, nI_clamp (by omega), h1, if_neg (nI_ge (by omega) (by omega)), B119_16]
    have hs := ih (j + 1) (by omega)
    have ha : anyT (fun j => decide ((L.take (j + 1)).sum = q)) (j + 1) = (anyT (fun j => decide ((L.take (j + 1)).sum = q)) j || decide ((L.take (j + 1)).sum = q)) := rfl
    rw [ha] at hs
    cases hf : anyT (fun j => decide ((L.take (j + 1)).sum = q)) j with
    | true =>
      rw [hf, Bool.true_or] at hs
      rw [if_pos (show ¬ bI true = 0 by decide), B119_36, nI_1]
      exact hs
    | false =>
      rw [hf, Bool.false_or] at hs
      have hsl := take_le L (j + 1)
      have e : (16 : Int32) * nI p + nI j = nI (16 * p + j) := by rw [show (16 : Int32) = nI 16 from rfl, pk_mul, nI_add]
      rw [if_neg (not_not_intro (show bI false = 0 from rfl)), B119_20 (by rw [e]; exact zin_n (by omega) (by decide)), e, nI_clamp (by omega), h7 j (by omega)]
      by_cases hd : (L.take (j + 1)).sum = q
      · rw [decide_eq_true hd] at hs
        rw [if_neg (not_not_intro (by rw [hd])), B119_36, nI_1]
        exact hs
      · rw [decide_eq_false hd] at hs
        rw [if_pos (fun z => hd ((nI_eq (by omega) (by omega)).mp z)), B119_40, nI_1]
        exact hs
theorem s119 {q : Nat} (h : rwM I p l L w c) (hp : p < 20) (hq : q < 2 ^ 20) : zq S 119 [.ref 76, .int (nI p), .int (nI q)] I J (some (.int (bI (weL L q)))) I J := by
  refine zq_of rfl ?_
  show zd S 119 0 [some (.ref 76), some (.int (nI p)), some (.int (nI q)), none, none] [] I J (0, 0) = _
  have := g119_l (S := S) (J := J) (k := (0, 0)) (q := q) h hp hq L.length 0 (by omega)
  rw [weL_a L q h.2.2.2.2.1] at this
  rw [B119_0]
  exact this
theorem g120_l {t : Nat} (h : rwM I p l L w c) (hp : p < 20) (ht : t ≤ 192) (hb : Nat.ble k.1 (mBu 120).1 = true ∧ Nat.ble k.2 (mBu 120).2 = true) : ∀ (m j z : Nat) (o : Option Value), t = j + 1 + m →
    zd S 120 8 [some (.ref 76), some (.int (nI p)), o, some (.int (nI t)), some (.int (nI z)), some (.int (nI (j + 1)))] [] I J k = some (some (.int (nI (z + scF (weL L) t (m + 1) j))), mk I J, k) := by
  intro m
  induction m with
  | zero =>
    intro j z o hm
    rw [B120_8, if_pos (nI_le (by omega) (by omega)), B120_41, scF, if_neg (by omega)]
    rfl
  | succ m ih =>
    intro j z o hm
    rw [B120_8, if_neg (nI_ge (by omega) (by omega)), B120_14 hb (s119 h hp (by omega)), B120_21, scF]
    cases hE : weL L (j + 1) with
    | false =>
      rw [if_pos (show bI false = 0 from rfl), B120_31, nI_1, ih (j + 1) z none (by omega), if_neg (fun q : j + 1 < t ∧ false = true => by cases q.2), Nat.zero_add]
    | true =>
      rw [if_neg (show ¬ bI true = 0 by decide), B120_24, nI_1, nI_1, ih (j + 1) (z + 1) none (by omega), if_pos ⟨by omega, rfl⟩, Nat.add_assoc]
theorem s120 {f t : Nat} (h : rwM I p l L w c) (hp : p < 20) (hft : f < t) (ht : t ≤ 192) : zq S 120 [.ref 76, .int (nI p), .int (nI f), .int (nI t)] I J (some (.int (nI (scF (weL L) t (t - f) f)))) I J := by
  refine zq_of rfl ?_
  show zd S 120 0 [some (.ref 76), some (.int (nI p)), some (.int (nI f)), some (.int (nI t)), none, none] [] I J (0, 0) = _
  have := g120_l (S := S) (J := J) (k := (0, 0)) h hp ht ⟨rfl, rfl⟩ (t - 1 - f) f 0 (some (.int (nI f))) (by omega)
  rw [show t - 1 - f + 1 = t - f by omega, Nat.zero_add] at this
  rw [B120_0, nI_1]
  exact this
theorem mC {i : Nat} (h : rwM I p l L w c) (hp : p < 20) (hi : i < l) : zin (192 * nI p + nI i) 3840 = true ∧ I 89 (192 * nI p + nI i).toNatClampNeg = nI (c i) ∧ zin (nI (c i) - 97) 26 = true ∧ I 78 (nI (c i) - 97).toNatClampNeg = nI (w i) ∧ w i ≤ 9 := by
  obtain ⟨h1, h2, h3, h4, h5, h6, h7, h8⟩ := h
  obtain ⟨a1, a2, a3, a4⟩ := h8 i hi
  have hr := (isN_i _).mp a2
  have e : (192 : Int32) * nI p + nI i = nI (192 * p + i) := by rw [show (192 : Int32) = nI 192 from rfl, pk_mul, nI_add]
  have e97 : nI (c i) - 97 = nI (c i - 97) := pk_sub (b := 97) (by omega)
  rw [e, e97, nI_clamp (by omega), nI_clamp (by omega)]
  exact ⟨zin_n (by omega) (by decide), a1, zin_n (by omega) (by decide), a3, a4⟩
theorem g121_l {t : Nat} (h : rwM I p l L w c) (hp : p < 20) (ht : t ≤ l) : ∀ (m j z : Nat) (o : Option Value), t = j + m →
    zd S 121 29 [some (.ref 76), some (.int (nI p)), o, some (.int (nI t)), some (.int (nI z)), some (.int (nI j))] [] I J k = some (some (.int (nI (z + swF w m j))), mk I J, k) := by
  have hl := h.2.2.2.1
  intro m
  induction m with
  | zero =>
    intro j z o hm
    rw [B121_29, if_pos (nI_le (by omega) (by omega)), B121_67]
    rfl
  | succ m ih =>
    intro j z o hm
    obtain ⟨c1, c2, c3, c4, c5⟩ := mC h hp (i := j) (by omega)
    rw [B121_29, if_neg (nI_ge (by omega) (by omega)), B121_35 c1 (by rw [c2]; exact c3), c2, c4, nI_add, nI_1, ih (j + 1) (z + w j) none (by omega)]
    have : z + w j + swF w m (j + 1) = z + swF w (m + 1) j := by
      rw [swF]
      omega
    rw [this]
theorem s121 {f t : Nat} (h : rwM I p l L w c) (hp : p < 20) (hft : f < t) (ht : t ≤ l) : zq S 121 [.ref 76, .int (nI p), .int (nI f), .int (nI t)] I J (some (.int (nI (uuF w (weL L) f t + (if weL L t = true then 0 else 2))))) I J := by
  have hl := h.2.2.2.1
  refine zq_of rfl ?_
  show zd S 121 0 [some (.ref 76), some (.int (nI p)), some (.int (nI f)), some (.int (nI t)), none, none] [] I J (0, 0) = _
  rw [B121_0 ⟨rfl, rfl⟩ (s120 h hp hft (by omega)), B121_8 ⟨rfl, rfl⟩ (s119 h hp (by omega)), B121_15, show (3 : Int32) = nI 3 from rfl, pk_mul]
  unfold uuF
  cases hE : weL L t with
  | false =>
    rw [if_pos (show bI false = 0 from rfl), B121_22, show (2 : Int32) = nI 2 from rfl, nI_add, g121_l h hp ht (t - f) f _ _ (by omega)]
    have : 3 * scF (weL L) t (t - f) f + 2 + swF w (t - f) f = swF w (t - f) f + 3 * scF (weL L) t (t - f) f + (if false = true then 0 else 2) := by
      rw [if_neg (by decide)]
      omega
    rw [this]
  | true =>
    rw [if_neg (show ¬ bI true = 0 by decide), B121_18, show (0 : Int32) = nI 0 from rfl, nI_add, g121_l h hp ht (t - f) f _ _ (by omega)]
    have : 3 * scF (weL L) t (t - f) f + 0 + swF w (t - f) f = swF w (t - f) f + 3 * scF (weL L) t (t - f) f + (if true = true then 0 else 2) := by
      rw [if_pos rfl]
      omega
    rw [this]
/-- the unit itself -/
def imF (o : Option Nat × Nat) (e : Bool) (x : Nat) : Nat := match o.1 with
  | some v => v
  | none => if e = false ∧ x < o.2 + 2 then 45 else 0
theorem g146_l {x each t : Nat} (h : rwM I p l L w c) (hp : p < 20) (ht : t ≤ l) (hx : x < 2 ^ 20) (he : each ≤ 100) (hb : Nat.ble k.1 (mBu 146).1 = true ∧ Nat.ble k.2 (mBu 146).2 = true) : ∀ (m j en ex b : Nat) (z : Int32) (o2 o6 : Option Value), t = j + m → en ≤ 200 * j → b ≤ j → exC z ex b →
    zd S 146 10 [some (.ref 76), some (.int (nI p)), o2, some (.int (nI t)), some (.int (nI x)), some (.int (nI each)), o6, some (.int (nI en)), some (.int z), some (.int (nI j)), none] [] I J k = some (some (.int (nI (imF (ikF w c (weL L) x each t m j en ex) (weL L t) x))), mk I J, k) := by
  have hl := h.2.2.2.1
  intro m
  induction m with
  | zero =>
    intro j en ex b z o2 o6 hm hen hbj hz
    rw [B146_10, if_pos (nI_le (by omega) (by omega)), B146_112 hb (s119 h hp (by omega)), B146_118]
    unfold ikF imF
    dsimp only
    cases hE : weL L t with
    | true =>
      rw [if_pos (show ¬ bI true = 0 by decide), B146_135, if_neg (fun q : true = false ∧ _ => by cases q.1)]
      rfl
    | false =>
      rw [if_neg (not_not_intro (show bI false = 0 from rfl)), B146_121, show (2 : Int32) = nI 2 from rfl, nI_add]
      by_cases hc : x < en + 2
      · rw [if_neg (nI_ge hc (by omega)), B146_130, if_pos ⟨rfl, hc⟩]
        rfl
      · rw [if_pos (nI_le (by omega) (by omega)), B146_135, if_neg (fun q => hc q.2)]
        rfl
  | succ m ih =>
    intro j en ex b z o2 o6 hm hen hbj hz
    obtain ⟨c1, c2, c3, c4, c5⟩ := mC h hp (i := j) (by omega)
    rw [B146_10, if_neg (nI_ge (by omega) (by omega)), B146_16 c1 (by rw [c2]; exact c3), c2, c4, nI_add, ikF]
    by_cases hc : x < en + w j
    · rw [if_neg (nI_ge hc (by omega)), if_pos hc, B146_53]
      rfl
    · rw [if_pos (nI_le (by omega) (by omega)), if_neg hc, B146_56, nI_1]
      by_cases hj : j + 1 < t
      · rw [if_neg (nI_ge hj (by omega)), B146_64 hb (by rw [nI_1]; exact s119 h hp (by omega)), B146_73]
        cases hE : weL L (j + 1) with
        | false =>
          rw [if_pos (show bI false = 0 from rfl), if_neg (fun q : j + 1 < t ∧ false = true => by cases q.2), B146_106, nI_1]
          exact ih (j + 1) (en + w j) ex b z none none (by omega) (by omega) (by omega) hz
        | true =>
          have hz2 := exC_d hz (by omega)
          rw [if_neg (show ¬ bI true = 0 by decide), if_pos ⟨hj, rfl⟩, B146_76, nI_add]
          by_cases h0 : 0 < ex
          · rw [if_neg (fun q => (exC_0 hz).mp q h0), if_pos h0, B146_86, nI_1]
            by_cases hc2 : x < en + w j + each + 1
            · rw [if_neg (nI_ge hc2 (by omega)), if_pos hc2, B146_104]
              rfl
            · rw [if_pos (nI_le (by omega) (by omega)), if_neg hc2, B146_106, nI_1]
              exact ih (j + 1) _ _ (b + 1) _ none none (by omega) (by omega) (by omega) hz2
          · rw [if_pos ((exC_0 hz).mpr h0), if_neg h0, B146_90, show (0 : Int32) = nI 0 from rfl, nI_add]
            by_cases hc2 : x < en + w j + each + 0
            · rw [if_neg (nI_ge hc2 (by omega)), if_pos hc2, B146_104]
              rfl
            · rw [if_pos (nI_le (by omega) (by omega)), if_neg hc2, B146_106, nI_1]
              exact ih (j + 1) _ _ (b + 1) _ none none (by omega) (by omega) (by omega) hz2
      · rw [if_pos (nI_le (by omega) (by omega)), if_neg (fun q => hj q.1), B146_106, nI_1]
        exact ih (j + 1) (en + w j) ex b z none none (by omega) (by omega) (by omega) hz
theorem s146 {x each ex f t : Nat} (h : rwM I p l L w c) (hp : p < 20) (hft : f ≤ t) (ht : t ≤ l) (hx : x < 2 ^ 20) (he : each ≤ 100) (hex : ex < 2 ^ 20) : zq S 146 [.ref 76, .int (nI p), .int (nI f), .int (nI t), .int (nI x), .int (nI each), .int (nI ex)] I J (some (.int (nI (imF (ikF w c (weL L) x each t (t - f) f 0 ex) (weL L t) x)))) I J := by
  refine zq_of rfl ?_
  show zd S 146 0 [some (.ref 76), some (.int (nI p)), some (.int (nI f)), some (.int (nI t)), some (.int (nI x)), some (.int (nI each)), some (.int (nI ex)), none, none, none, none] [] I J (0, 0) = _
  have := g146_l (S := S) (J := J) (k := (0, 0)) (x := x) (each := each) h hp ht hx he ⟨rfl, rfl⟩ (t - f) f 0 ex 0 (nI ex) (some (.int (nI f))) (some (.int (nI ex))) (by omega) (Nat.zero_le _) (Nat.zero_le _) (exC_n hex)
  rw [B146_0]
  exact this
/-- one unit of a line -/
theorem s147 {a x D q f t : Nat} (h : rwM I p l L w c) (hp : p < 20) (ha : a < 164) (hft : f < t) (ht : t ≤ l) (hx : x < 2 ^ 20) (hD : I 76 2 = nI D) (hD6 : D ≤ 60) (h95 : I 95 a = nI p) (h96 : I 96 a = nI f) (h97 : I 97 a = nI t) (hq3 : t = l ↔ q = 3) (hq0 : q ≠ 0) (hq : q ≤ 3) (hE : isE q = weL L t) (hw : uuF w (weL L) f t + (if q = 2 then 2 else 0) ≤ D) :
    zq S 147 [.ref 76, .int (nI a), .int (nI x)] I J (some (.int (nI (lkF w c (weL L) D q x f t)))) I J := by
  have hl := h.2.2.2.1
  have h92 := h.2.1
  refine zq_of rfl ?_
  show zd S 147 0 [some (.ref 76), some (.int (nI a)), some (.int (nI x)), none, none, none, none] [] I J (0, 0) = _
  have hz : zin (nI a) 164 = true := zin_n ha (by decide)
  have hc : (nI a).toNatClampNeg = a := nI_clamp (by omega)
  have hzp : zin (nI p) 20 = true := zin_n hp (by decide)
  have hcp : (nI p).toNatClampNeg = p := nI_clamp (by omega)
  have hE2 : weL L t = false ↔ q = 2 := by
    rw [← hE]
    unfold isE
    have h123 : q = 1 ∨ q = 2 ∨ q = 3 := by omega
    rcases h123 with rfl | rfl | rfl
    · decide
    · decide
    · decide
  have hy : (if weL L t = true then 0 else 2) = (if q = 2 then 2 else 0) := by
    by_cases h2 : q = 2
    · rw [if_pos h2, hE2.mpr h2]
      rfl
    · rw [if_neg h2]
      cases hb : weL L t with
      | true => rfl
      | false => exact absurd (hE2.mp hb) h2
  have q120 := s120 (S := S) (J := J) h hp hft (by omega)
  have hG := sc_le (weL L) t (t - f) f
  have fin : ∀ each ex, each = 3 + slF w (weL L) D q f t / scF (weL L) t (t - f) f → ex = slF w (weL L) D q f t % scF (weL L) t (t - f) f → each ≤ 100 → ex < 2 ^ 20 → zq S 146 [.ref 76, .int (nI p), .int (nI f), .int (nI t), .int (nI x), .int (nI each), .int (nI ex)] I J (some (.int (nI (lkF w c (weL L) D q x f t)))) I J := by
    intro each ex e1 e2 he hex
    have q146 := s146 (S := S) (J := J) (x := x) (each := each) (ex := ex) h hp (f := f) (t := t) (by omega) ht hx he hex
    have : imF (ikF w c (weL L) x each t (t - f) f 0 ex) (weL L t) x = lkF w c (weL L) D q x f t := by
      subst e1
      subst e2
      show imF (lkX w c (weL L) D q x f t) (weL L t) x = _
      unfold lkF imF
      cases hk : (lkX w c (weL L) D q x f t).1 with
      | some v => rfl
      | none =>
        have h1 := ik_n _ _ _ _ hk (Nat.zero_le _)
        rw [sl_t, Nat.zero_add] at h1
        have h2 : (lkX w c (weL L) D q x f t).2 = uuF w (weL L) f t + slF w (weL L) D q f t := h1.1
        dsimp only
        rw [h2]
        by_cases hq2 : q = 2
        · rw [hE2.mpr hq2]
          by_cases h3 : x < uuF w (weL L) f t + slF w (weL L) D q f t + 2
          · rw [if_pos ⟨rfl, h3⟩, if_pos ⟨hq2, h3⟩]
          · rw [if_neg (fun z => h3 z.2), if_neg (fun z => h3 z.2)]
        · rw [if_neg (fun z => hq2 (hE2.mp z.1)), if_neg (fun z => hq2 z.1)]
    rw [this] at q146
    exact q146
  rw [B147_0 ⟨rfl, rfl⟩ hz hz hz (by rw [hc, h95, h96, h97]; exact q120), hc, h95, B147_24 hz hzp, hc, hcp, h97, h92]
  generalize hGe : scF (weL L) t (t - f) f = G at *
  have hfin0 : G = 0 ∨ q = 3 → slF w (weL L) D q f t = 0 := by
    intro hh
    unfold slF
    rw [hGe]
    exact if_pos hh.symm
  have hGn : G = 0 → nI G = 0 := fun z => by rw [z]; rfl
  have hGp : G ≠ 0 → ¬ nI G = 0 := fun z => nI_ne0 (by omega) (by omega)
  -- from the slack on
  have sl : ∀ s0 : Nat, s0 = slF w (weL L) D q f t → (G = 0 → zd S 147 79 [some (.ref 76), some (.int (nI a)), some (.int (nI x)), some (.int (nI p)), some (.int (nI G)), some (.int (nI s0)), none] [] I J (0, 0) = some (some (.int (nI (lkF w c (weL L) D q x f t))), mk I J, (0, 0))) ∧ (G ≠ 0 → zd S 147 83 [some (.ref 76), some (.int (nI a)), some (.int (nI x)), some (.int (nI p)), some (.int (nI G)), some (.int (nI s0)), none] [] I J (0, 0) = some (some (.int (nI (lkF w c (weL L) D q x f t))), mk I J, (0, 0))) := by
    intro s0 hs0
    have hs60 : s0 ≤ 60 := by
      rw [hs0]
      unfold slF
      split <;> omega
    constructor
    · intro hg
      have h00 : s0 = 0 := by rw [hs0]; exact hfin0 (Or.inl hg)
      have q146 := fin 3 0 (by rw [← hs0, h00, hg]) (by rw [← hs0, h00, hg]) (by omega) (by omega)
      have q146 : zq S 146 [.ref 76, .int (nI p), .int (nI f), .int (nI t), .int (nI x), .int 3, .int 0] I J (some (.int (nI (lkF w c (weL L) D q x f t)))) I J := q146
      rw [B147_79 hz hz, if_neg (not_not_intro (hGn hg)), hc, h96, h97, B147_114 ⟨rfl, rfl⟩ q146, B147_126]
    · intro hg
      have e1 : nI s0 / nI G = nI (s0 / G) := pk_div (by omega) (by omega) (by omega)
      have e2 : nI s0 - nI s0 / nI G * nI G = nI (s0 % G) := by
        rw [e1, pk_mul, pk_sub (Nat.div_mul_le_self _ _)]
        congr 1
        have := Nat.div_add_mod s0 G
        rw [Nat.mul_comm] at this
        omega
      have e3 : (3 : Int32) + nI s0 / nI G = nI (3 + s0 / G) := by rw [e1, show (3 : Int32) = nI 3 from rfl, nI_add]
      have hd := Nat.div_le_self s0 G
      have hm := Nat.mod_le s0 G
      have q146 := fin (3 + s0 / G) (s0 % G) (by rw [hs0]) (by rw [hs0]) (by omega) (by omega)
      rw [B147_83 (hGp hg) hz hz, if_pos (hGp hg), hc, h96, h97, e3, B147_118 ⟨rfl, rfl⟩ (hGp hg) (by rw [e2]; exact q146), B147_126]
  have z46 : (G = 0 ∨ q = 3) → zd S 147 46 [some (.ref 76), some (.int (nI a)), some (.int (nI x)), some (.int (nI p)), some (.int (nI G)), none, none] [] I J (0, 0) = some (some (.int (nI (lkF w c (weL L) D q x f t))), mk I J, (0, 0)) := by
    intro hh
    have s0 := sl 0 (hfin0 hh).symm
    rw [B147_46]
    by_cases hg : G = 0
    · rw [if_neg (not_not_intro (hGn hg))]
      exact s0.1 hg
    · rw [if_pos (hGp hg)]
      exact s0.2 hg
  by_cases h3 : q = 3
  · rw [if_pos (by rw [hq3.mpr h3])]
    exact z46 (Or.inr h3)
  · have : ¬ nI t = nI l := fun z => h3 (hq3.mp ((nI_eq (by omega) (by omega)).mp z))
    rw [if_neg this, B147_41]
    by_cases hg : G = 0
    · rw [if_neg (not_not_intro (hGn hg))]
      exact z46 (Or.inl hg)
    · have q121 := s121 (S := S) (J := J) h hp hft ht
      rw [hy] at q121
      have hs0 : D - (uuF w (weL L) f t + (if q = 2 then 2 else 0)) = slF w (weL L) D q f t := by
        unfold slF
        have hno : ¬ (q = 3 ∨ G = 0) := fun z => z.elim h3 hg
        rw [hGe, if_neg hno]
        omega
      rw [if_pos (hGp hg), B147_50 ⟨rfl, rfl⟩ hz hz (by rw [hc, h96, h97]; exact q121), B147_71, hD, pk_sub hw, hs0, if_pos (hGp hg)]
      exact (sl _ rfl).2 hg
end MINK
