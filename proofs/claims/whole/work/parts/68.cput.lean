/-! plan: a part's cells are set, the one side -/
/-- in the part's place the cells at P become v, all others stay -/
def gUp (pg x y k h : Nat) (G G' : Nat → Int32) (P : Nat → Nat → Prop) (v : Nat → Nat → Int32) : Prop := (∀ c r, c < k → r < h → (P c r → G' (64 * pg + 16 * (x + c) + (y + r)) = v c r) ∧ (¬ P c r → G' (64 * pg + 16 * (x + c) + (y + r)) = G (64 * pg + 16 * (x + c) + (y + r)))) ∧ (∀ i, (∀ c r, c < k → r < h → i ≠ 64 * pg + 16 * (x + c) + (y + r)) → G' i = G i)
theorem gUp_0 {pg x y k h : Nat} {G : Nat → Int32} {P : Nat → Nat → Prop} {v : Nat → Nat → Int32} (hP : ∀ c r, c < k → r < h → ¬ P c r) : gUp pg x y k h G G P v := ⟨fun c r hc hr => ⟨fun hp => absurd hp (hP c r hc hr), fun _ => rfl⟩, fun _ _ => rfl⟩
theorem gUp_s {pg x y k h c0 r0 : Nat} {G G' G2 : Nat → Int32} {P P' : Nat → Nat → Prop} {v : Nat → Nat → Int32} (hu : gUp pg x y k h G G' P v) (hc0 : c0 < k) (hr0 : r0 < h) (hy : y + h ≤ 16) (h1 : G2 (64 * pg + 16 * (x + c0) + (y + r0)) = v c0 r0) (h2 : ∀ i, i ≠ 64 * pg + 16 * (x + c0) + (y + r0) → G2 i = G' i) (hP : ∀ c r, c < k → r < h → (P' c r ↔ P c r ∨ (c = c0 ∧ r = r0))) : gUp pg x y k h G G2 P' v := by
  refine ⟨fun c r hc hr => ?_, fun i hi => ?_⟩
  · have h3 := hu.1 c r hc hr
    by_cases he : c = c0 ∧ r = r0
    · obtain ⟨rfl, rfl⟩ := he
      exact ⟨fun _ => h1, fun hn => absurd ((hP c r hc hr).mpr (Or.inr ⟨rfl, rfl⟩)) hn⟩
    · have hne : 64 * pg + 16 * (x + c) + (y + r) ≠ 64 * pg + 16 * (x + c0) + (y + r0) := by omega
      rw [h2 _ hne]
      constructor
      · intro hp
        rcases (hP c r hc hr).mp hp with hp | hp
        · exact h3.1 hp
        · exact absurd hp he
      · intro hn
        exact h3.2 (fun hp => hn ((hP c r hc hr).mpr (Or.inl hp)))
  · rw [h2 i (hi c0 r0 hc0 hr0)]
    exact hu.2 i hi
theorem gUp_t {pg x y k h : Nat} {G G' G2 : Nat → Int32} {P P' P2 : Nat → Nat → Prop} {v v' v2 : Nat → Nat → Int32} (hu : gUp pg x y k h G G' P v) (hu' : gUp pg x y k h G' G2 P' v') (h1 : ∀ c r, c < k → r < h → P' c r → P2 c r ∧ v2 c r = v' c r) (h2 : ∀ c r, c < k → r < h → ¬ P' c r → P c r → P2 c r ∧ v2 c r = v c r) (h3 : ∀ c r, c < k → r < h → ¬ P' c r → ¬ P c r → ¬ P2 c r) : gUp pg x y k h G G2 P2 v2 := by
  refine ⟨fun c r hc hr => ?_, fun i hi => (hu'.2 i hi).trans (hu.2 i hi)⟩
  have a := hu.1 c r hc hr
  have b := hu'.1 c r hc hr
  by_cases p' : P' c r
  · have := h1 c r hc hr p'
    exact ⟨fun _ => by rw [b.1 p', this.2], fun hn => absurd this.1 hn⟩
  · by_cases p : P c r
    · have := h2 c r hc hr p' p
      exact ⟨fun _ => by rw [b.2 p', a.1 p, this.2], fun hn => absurd this.1 hn⟩
    · have := h3 c r hc hr p' p
      exact ⟨fun hn => absurd hn this, fun _ => by rw [b.2 p', a.2 p]⟩
def liT (f : Nat) (t : Nat → Nat) : Nat → Nat
  | 0 => f
  | c + 1 => liT f t c + t c
theorem liT_F {rm : Nat → Nat} {gd : Nat → Bool} {f e k : Nat} : ∀ c, liT f (inF rm gd f e k) c = liF rm gd f e k c
  | 0 => rfl
  | c + 1 => by
    show liT f (inF rm gd f e k) c + inF rm gd f e k c = liF rm gd f e k c + tkF rm gd e k c (liF rm gd f e k c)
    rw [liT_F c]
    rfl
section CPUT
variable {S : Nat × (Nat → Int32)} {s q pg x y k' h f m : Nat} {k : zK}
theorem p84 {I : zI} {J : zJ} {c r : Nat} {w : Int32} (hp : pg < 3) (hx : x + k' ≤ 4) (hy : y + h ≤ 16) (hc : c < k') (hr : r < h) (hw : w ≠ 0) (ht : tkI I) : ∃ I', zq S 84 [.ref 70, .int (nI pg), .int (nI (x + c)), .int (nI (y + r)), .int w] I J none I' J ∧ (∀ z, z ≠ 71 → z ≠ 72 → I' z = I z) ∧ tkI I' ∧ I' 71 (64 * pg + 16 * (x + c) + (y + r)) = w ∧ (∀ i, i ≠ 64 * pg + 16 * (x + c) + (y + r) → I' 71 i = I 71 i) := by
  obtain ⟨I', q84, r1, r2, r3⟩ := s84 (S := S) (I := I) (J := J) (pg := pg) (c := x + c) (r := y + r) (x := w) hp (by omega) (by omega) hw ht
  refine ⟨I', q84, r1, r3, by rw [r2, pk_us], fun i hi => by rw [r2, pk_un hi]⟩
def fr71 (I I' : zI) : Prop := ∀ z, z ≠ 71 → z ≠ 72 → I' z = I z
theorem s69 {I : zI} {J : zJ} (hs : s < 4) (hq : q < 2) (hV : ptV I (15 + 12 * s + 2 * q) pg x y k' h f m) (hp : pg < 3) (hx : x + k' ≤ 4) (hy : y + h ≤ 16) (ht : tkI I) :
    ∃ I', zq S 69 [.ref 65, .ref (15 + 12 * s + 2 * q)] I J none I' J ∧ fr71 I I' ∧ tkI I' ∧ gUp pg x y k' h (I 71) (I' 71) (fun _ _ => True) (fun _ _ => 90) := by
  obtain ⟨v1, v2, v3, v4, v5, _, _⟩ := hV
  have hR : ∀ (m' c r : Nat) (M : zI), c < k' → h = r + m' → fr71 I M → tkI M → gUp pg x y k' h (I 71) (M 71) (fun c' r' => c' < c ∨ (c' = c ∧ r' < r)) (fun _ _ => 90) → ∃ (M' : zI) (l3 : Int32), zd S 69 12 [some (.ref 65), some (.ref (15 + 12 * s + 2 * q)), some (.int (nI c)), some (.int (nI r))] [] M J (0, 0) = zd S 69 51 [some (.ref 65), some (.ref (15 + 12 * s + 2 * q)), some (.int (nI c)), some (.int l3)] [] M' J (0, 0) ∧ fr71 I M' ∧ tkI M' ∧ gUp pg x y k' h (I 71) (M' 71) (fun c' _ => c' < c + 1) (fun _ _ => 90) := by
    intro m'
    induction m' with
    | zero =>
      intro c r M hc hm hf ht' hu
      refine ⟨M, nI r, ?_, hf, ht', ?_⟩
      · rw [B69_12 hs hq, hf _ (by omega) (by omega), v5, if_pos (nI_le (by omega) (by omega))]
      · refine ⟨fun c' r' hc' hr' => ?_, hu.2⟩
        have := hu.1 c' r' hc' hr'
        exact ⟨fun hp' => this.1 (by omega), fun hn => this.2 (by omega)⟩
    | succ m' ih =>
      intro c r M hc hm hf ht' hu
      have e1 : M (15 + 12 * s + 2 * q) 1 = nI pg := by rw [hf _ (by omega) (by omega)]; exact v1
      have e2 : M (15 + 12 * s + 2 * q) 2 = nI x := by rw [hf _ (by omega) (by omega)]; exact v2
      have e3 : M (15 + 12 * s + 2 * q) 3 = nI y := by rw [hf _ (by omega) (by omega)]; exact v3
      obtain ⟨M1, q84, a1, a2, a3, a4⟩ := p84 (S := S) (I := M) (J := J) (pg := pg) (x := x) (y := y) (k' := k') (h := h) (c := c) (r := r) (w := 90) hp hx hy hc (by omega) (by decide) ht'
      obtain ⟨M', l3, e, b1, b2, b3⟩ := ih c (r + 1) M1 hc (by omega) (fun z c1 c2 => (a1 z c1 c2).trans (hf z c1 c2)) a2 (gUp_s hu hc (by omega) hy a3 a4 (fun c' r' _ _ => by omega))
      refine ⟨M', l3, ?_, b1, b2, b3⟩
      rw [B69_12 hs hq, hf _ (by omega) (by omega), v5, if_neg (nI_ge (by omega) (by omega)), B69_20 ⟨rfl, rfl⟩ hs hq (by rw [e1, e2, e3, nI_add, nI_add]; exact q84), B69_45 hs hq, nI_1]
      exact e
  have hC : ∀ (m' c : Nat) (M : zI) (o3 : Option Value), k' = c + m' → fr71 I M → tkI M → gUp pg x y k' h (I 71) (M 71) (fun c' _ => c' < c) (fun _ _ => 90) → ∃ M', zd S 69 2 [some (.ref 65), some (.ref (15 + 12 * s + 2 * q)), some (.int (nI c)), o3] [] M J (0, 0) = some (none, mk M' J, (0, 0)) ∧ fr71 I M' ∧ tkI M' ∧ gUp pg x y k' h (I 71) (M' 71) (fun c' _ => c' < k') (fun _ _ => 90) := by
    intro m'
    induction m' with
    | zero =>
      intro c M o3 hm hf ht' hu
      have hc : k' = c := by omega
      refine ⟨M, ?_, hf, ht', by rw [hc] at hu ⊢; exact hu⟩
      rw [B69_2 hs hq, hf _ (by omega) (by omega), v4, hc, if_pos (nI_le (Nat.le_refl _) (by omega)), B69_57 hs hq]
    | succ m' ih =>
      intro c M o3 hm hf ht' hu
      obtain ⟨M1, l3, e1, a1, a2, a3⟩ := hR h c 0 M (by omega) (by omega) hf ht' (by
        refine ⟨fun c' r' hc' hr' => ?_, hu.2⟩
        have := hu.1 c' r' hc' hr'
        exact ⟨fun hp' => this.1 (by omega), fun hn => this.2 (by omega)⟩)
      obtain ⟨M', e2, b1, b2, b3⟩ := ih (c + 1) M1 (some (.int l3)) (by omega) a1 a2 a3
      refine ⟨M', ?_, b1, b2, b3⟩
      rw [B69_2 hs hq, hf _ (by omega) (by omega), v4, if_neg (nI_ge (by omega) (by omega)), B69_10 hs hq, ← nI_0]
      refine Eq.trans e1 ?_
      rw [B69_51 hs hq, nI_1]
      exact e2
  obtain ⟨M, e, a1, a2, a3⟩ := hC k' 0 I none (by omega) (fun _ _ _ => rfl) ht (gUp_0 (fun c r _ _ hh => absurd hh (Nat.not_lt_zero _)))
  refine ⟨M, ?_, a1, a2, ?_⟩
  · refine zq_of rfl ?_
    show zd S 69 0 [some (.ref 65), some (.ref (15 + 12 * s + 2 * q)), none, none] [] I J (0, 0) = _
    rw [B69_0 hs hq, ← nI_0]
    exact e
  · refine ⟨fun c r hc hr => ?_, a3.2⟩
    have := a3.1 c r hc hr
    exact ⟨fun _ => this.1 hc, fun hn => absurd trivial hn⟩
/-- the row behind which column c's lines begin -/
def hiF (fc fr c : Nat) : Nat := if c < fc then fr else 0
theorem s70 {I : zI} {J : zJ} {b fc fr : Nat} {t : Nat → Nat} (hs : s < 4) (hq : q < 2) (hV : ptV I (15 + 12 * s + 2 * q) pg x y k' h f m) (hp : pg < 3) (hx : x + k' ≤ 4) (hy : y + h ≤ 16) (ht : tkI I) (hb0 : 0 < b) (hb : b < 2 ^ 20) (hf20 : f < 2 ^ 20) (hfc : fc ≤ 9) (hfr : fr ≤ 9) (hI : ∀ c, c < k' → I (16 + 12 * s + 2 * q) c = nI (t c)) (hfit : ∀ c, c < k' → 1 + hiF fc fr c + t c ≤ h) :
    ∃ I', zq S 70 [.ref 65, .ref (15 + 12 * s + 2 * q), .int (nI b), .int (nI fc), .int (nI fr)] I J none I' J ∧ fr71 I I' ∧ tkI I' ∧ gUp pg x y k' h (I 71) (I' 71) (fun c r => 1 + hiF fc fr c ≤ r ∧ r < 1 + hiF fc fr c + t c) (fun c r => nI (b + (liT f t c + (r - (1 + hiF fc fr c))))) := by
  obtain ⟨v1, v2, v3, v4, v5, v6, _⟩ := hV
  have hlb : ∀ c, c ≤ k' → liT f t c ≤ f + 16 * c := by
    intro c
    induction c with
    | zero => intro _; exact Nat.le_refl _
    | succ c ih =>
      intro hc
      have := ih (by omega)
      have := hfit c (by omega)
      show liT f t c + t c ≤ _
      omega
  have hR : ∀ (m' c i : Nat) (M : zI), c < k' → t c = i + m' → fr71 I M → tkI M → gUp pg x y k' h (I 71) (M 71) (fun c' r' => (c' < c ∧ 1 + hiF fc fr c' ≤ r' ∧ r' < 1 + hiF fc fr c' + t c') ∨ (c' = c ∧ 1 + hiF fc fr c ≤ r' ∧ r' < 1 + hiF fc fr c + i)) (fun c r => nI (b + (liT f t c + (r - (1 + hiF fc fr c))))) → ∃ (M' : zI) (l8 : Int32), zd S 70 42 [some (.ref 65), some (.ref (15 + 12 * s + 2 * q)), some (.int (nI b)), some (.int (nI fc)), some (.int (nI fr)), some (.int (nI (liT f t c + i))), some (.int (nI c)), some (.int (nI (y + (1 + hiF fc fr c)))), some (.int (nI i))] [] M J (0, 0) = zd S 70 90 [some (.ref 65), some (.ref (15 + 12 * s + 2 * q)), some (.int (nI b)), some (.int (nI fc)), some (.int (nI fr)), some (.int (nI (liT f t (c + 1)))), some (.int (nI c)), some (.int (nI (y + (1 + hiF fc fr c)))), some (.int l8)] [] M' J (0, 0) ∧ fr71 I M' ∧ tkI M' ∧ gUp pg x y k' h (I 71) (M' 71) (fun c' r' => c' < c + 1 ∧ 1 + hiF fc fr c' ≤ r' ∧ r' < 1 + hiF fc fr c' + t c') (fun c r => nI (b + (liT f t c + (r - (1 + hiF fc fr c))))) := by
    intro m'
    induction m' with
    | zero =>
      intro c i M hc hm hf ht' hu
      have hfc' := hfit c hc
      refine ⟨M, nI i, ?_, hf, ht', ?_⟩
      · rw [B70_42 hs hq (zin_n (by omega) (by decide)), nI_clamp (by omega), hf _ (by omega) (by omega), hI c hc, if_pos (nI_le (by omega) (by omega)), show liT f t (c + 1) = liT f t c + i from by show liT f t c + t c = _; rw [hm]; rfl]
      · refine ⟨fun c' r' hc' hr' => ?_, hu.2⟩
        have := hu.1 c' r' hc' hr'
        by_cases hcc : c' = c
        · subst hcc
          exact ⟨fun hp' => this.1 (by omega), fun hn => this.2 (by omega)⟩
        · exact ⟨fun hp' => this.1 (Or.inl ⟨by omega, hp'.2⟩), fun hn => this.2 (fun z => by
            rcases z with z | z
            · exact hn ⟨by omega, z.2⟩
            · exact hcc z.1)⟩
    | succ m' ih =>
      intro c i M hc hm hf ht' hu
      have hfc' := hfit c hc
      have hl := hlb c (by omega)
      have e1 : M (15 + 12 * s + 2 * q) 1 = nI pg := by rw [hf _ (by omega) (by omega)]; exact v1
      have e2 : M (15 + 12 * s + 2 * q) 2 = nI x := by rw [hf _ (by omega) (by omega)]; exact v2
      obtain ⟨M1, q84, a1, a2, a3, a4⟩ := p84 (S := S) (I := M) (J := J) (pg := pg) (x := x) (y := y) (k' := k') (h := h) (c := c) (r := 1 + hiF fc fr c + i) (w := nI (b + (liT f t c + i))) hp hx hy hc (by omega) (nI_ne0 (by omega) (by omega)) ht'
      have q84' : zq S 84 [.ref 70, .int (M (15 + 12 * s + 2 * q) 1), .int (M (15 + 12 * s + 2 * q) 2 + nI c), .int (nI (y + (1 + hiF fc fr c)) + nI i), .int (nI b + nI (liT f t c + i))] M J none M1 J := by
        rw [e1, e2, nI_add, nI_add, nI_add, show y + (1 + hiF fc fr c) + i = y + (1 + hiF fc fr c + i) by omega]
        exact q84
      obtain ⟨M', l3, e, b1, b2, b3⟩ := ih c (i + 1) M1 hc (by omega) (fun z c1 c2 => (a1 z c1 c2).trans (hf z c1 c2)) a2 (gUp_s hu hc (by omega) hy (by rw [a3, show 1 + hiF fc fr c + i - (1 + hiF fc fr c) = i by omega]) a4 (fun c' r' _ _ => by
        by_cases hcc : c' = c
        · subst hcc
          omega
        · constructor
          · rintro (z | z)
            · exact Or.inl (Or.inl z)
            · exact absurd z.1 hcc
          · rintro ((z | z) | z)
            · exact Or.inl z
            · exact absurd z.1 hcc
            · exact absurd z.1 hcc))
      refine ⟨M', l3, ?_, b1, b2, b3⟩
      rw [B70_42 hs hq (zin_n (by omega) (by decide)), nI_clamp (by omega), hf _ (by omega) (by omega), hI c hc, if_neg (nI_ge (by omega) (by omega)), B70_54 ⟨rfl, rfl⟩ hs hq q84', B70_81 hs hq, nI_1, nI_1]
      exact e
  have hC : ∀ (m' c : Nat) (M : zI) (o7 o8 : Option Value), k' = c + m' → fr71 I M → tkI M → gUp pg x y k' h (I 71) (M 71) (fun c' r' => c' < c ∧ 1 + hiF fc fr c' ≤ r' ∧ r' < 1 + hiF fc fr c' + t c') (fun c r => nI (b + (liT f t c + (r - (1 + hiF fc fr c))))) → ∃ M', zd S 70 9 [some (.ref 65), some (.ref (15 + 12 * s + 2 * q)), some (.int (nI b)), some (.int (nI fc)), some (.int (nI fr)), some (.int (nI (liT f t c))), some (.int (nI c)), o7, o8] [] M J (0, 0) = some (none, mk M' J, (0, 0)) ∧ fr71 I M' ∧ tkI M' ∧ gUp pg x y k' h (I 71) (M' 71) (fun c' r' => c' < k' ∧ 1 + hiF fc fr c' ≤ r' ∧ r' < 1 + hiF fc fr c' + t c') (fun c r => nI (b + (liT f t c + (r - (1 + hiF fc fr c))))) := by
    intro m'
    induction m' with
    | zero =>
      intro c M o7 o8 hm hf ht' hu
      have hc : k' = c := by omega
      refine ⟨M, ?_, hf, ht', by rw [hc] at hu ⊢; exact hu⟩
      rw [B70_9 hs hq, hf _ (by omega) (by omega), v4, hc, if_pos (nI_le (Nat.le_refl _) (by omega)), B70_96 hs hq]
    | succ m' ih =>
      intro c M o7 o8 hm hf ht' hu
      obtain ⟨M1, l8, e1, a1, a2, a3⟩ := hR (t c) c 0 M (by omega) (by omega) hf ht' (by
        refine ⟨fun c' r' hc' hr' => ?_, hu.2⟩
        have := hu.1 c' r' hc' hr'
        exact ⟨fun hp' => this.1 (by
          rcases hp' with z | z
          · exact z
          · omega), fun hn => this.2 (fun z => hn (Or.inl z))⟩)
      obtain ⟨M', e2, b1, b2, b3⟩ := ih (c + 1) M1 (some (.int (nI (y + (1 + hiF fc fr c))))) (some (.int l8)) (by omega) a1 a2 a3
      have e3 : M (15 + 12 * s + 2 * q) 3 = nI y := by rw [hf _ (by omega) (by omega)]; exact v3
      have ec : nI fc ≤ nI c ↔ fc ≤ c := nI_leI (by omega) (by omega)
      rw [Nat.add_zero] at e1
      refine ⟨M', ?_, b1, b2, b3⟩
      have hpre : zd S 70 9 [some (.ref 65), some (.ref (15 + 12 * s + 2 * q)), some (.int (nI b)), some (.int (nI fc)), some (.int (nI fr)), some (.int (nI (liT f t c))), some (.int (nI c)), o7, o8] [] M J (0, 0) = zd S 70 42 [some (.ref 65), some (.ref (15 + 12 * s + 2 * q)), some (.int (nI b)), some (.int (nI fc)), some (.int (nI fr)), some (.int (nI (liT f t c))), some (.int (nI c)), some (.int (nI (y + (1 + hiF fc fr c)))), some (.int (nI 0))] [] M J (0, 0) := by
        rw [B70_9 hs hq, hf _ (by omega) (by omega), v4, if_neg (nI_ge (by omega) (by omega)), B70_18 hs hq]
        unfold hiF
        by_cases hcf : c < fc
        · rw [if_neg (fun z => by have := ec.mp z; omega), B70_30 hs hq, if_pos hcf, e3, show (1 : Int32) = nI 1 from rfl, nI_add, nI_add, Nat.add_assoc y 1 fr]
          rfl
        · have a0 : ∀ x : Int32, x + 0 = x := fun x => by simp
          rw [if_pos (ec.mpr (by omega)), B70_35 hs hq, if_neg hcf, e3, show (1 : Int32) = nI 1 from rfl, nI_add, a0]
          rfl
      rw [hpre]
      refine Eq.trans e1 ?_
      rw [B70_90 hs hq, nI_1]
      exact e2
  obtain ⟨M, e, a1, a2, a3⟩ := hC k' 0 I none none (by omega) (fun _ _ _ => rfl) ht (gUp_0 (fun c r _ _ hh => absurd hh.1 (Nat.not_lt_zero _)))
  refine ⟨M, ?_, a1, a2, ?_⟩
  · refine zq_of rfl ?_
    show zd S 70 0 [some (.ref 65), some (.ref (15 + 12 * s + 2 * q)), some (.int (nI b)), some (.int (nI fc)), some (.int (nI fr)), none, none, none, none] [] I J (0, 0) = _
    rw [B70_0 hs hq, v6, ← nI_0]
    exact e
  · refine ⟨fun c r hc hr => ?_, a3.2⟩
    have := a3.1 c r hc hr
    exact ⟨fun hp' => this.1 ⟨hc, hp'⟩, fun hn => this.2 (fun z => hn z.2)⟩
end CPUT
