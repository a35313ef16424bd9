/-! plan: places, as both sides find them. gd: may a column end before this line; rm: rooms of the columns; G: the cells -/
def anyT (f : Nat → Bool) : Nat → Bool
  | 0 => false
  | n + 1 => anyT f n || f n
def allT (f : Nat → Bool) : Nat → Bool
  | 0 => true
  | n + 1 => allT f n && f n
theorem anyT_i {f : Nat → Bool} : ∀ {n : Nat}, anyT f n = true ↔ ∃ t, t < n ∧ f t = true
  | 0 => ⟨(fun h => by cases h), fun ⟨t, h, _⟩ => absurd h (Nat.not_lt_zero _)⟩
  | n + 1 => by
    show (anyT f n || f n) = true ↔ _
    rw [Bool.or_eq_true, anyT_i]
    constructor
    · rintro (⟨t, h, h2⟩ | h)
      · exact ⟨t, by omega, h2⟩
      · exact ⟨n, by omega, h⟩
    · rintro ⟨t, h, h2⟩
      by_cases ht : t = n
      · rw [ht] at h2
        exact Or.inr h2
      · exact Or.inl ⟨t, by omega, h2⟩
theorem allT_i {f : Nat → Bool} : ∀ {n : Nat}, allT f n = true ↔ ∀ t, t < n → f t = true
  | 0 => ⟨fun _ t h => absurd h (Nat.not_lt_zero _), fun _ => rfl⟩
  | n + 1 => by
    show (allT f n && f n) = true ↔ _
    rw [Bool.and_eq_true, allT_i]
    constructor
    · rintro ⟨h, h2⟩ t ht
      by_cases he : t = n
      · rw [he]
        exact h2
      · exact h t (by omega)
    · intro h
      exact ⟨fun t ht => h t (by omega), h n (by omega)⟩
theorem allT_c {f g : Nat → Bool} {n : Nat} (h : ∀ t, t < n → f t = g t) : allT f n = allT g n := by
  induction n with
  | zero => rfl
  | succ n ih =>
    show (allT f n && f n) = (allT g n && g n)
    rw [ih (fun t ht => h t (by omega)), h n (by omega)]
theorem anyT_c {f g : Nat → Bool} {n : Nat} (h : ∀ t, t < n → f t = g t) : anyT f n = anyT g n := by
  induction n with
  | zero => rfl
  | succ n ih =>
    show (anyT f n || f n) = (anyT g n || g n)
    rw [ih (fun t ht => h t (by omega)), h n (by omega)]
/-- from line i on, through m columns from c on, to line e -/
def pth (rm : Nat → Nat) (gd : Nat → Bool) (e : Nat) : Nat → Nat → Nat → Bool
  | _, 0, i => decide (i = e)
  | c, m + 1, i => anyT (fun t => gd (i + t) && pth rm gd e (c + 1) m (i + t)) (rm c + 1)
def fwd (rm : Nat → Nat) (gd : Nat → Bool) (f : Nat) : Nat → Nat → Prop
  | 0, j => j = f
  | c + 1, j => gd j = true ∧ ∃ i t, fwd rm gd f c i ∧ t ≤ rm c ∧ j = i + t
theorem pth_f {rm : Nat → Nat} {gd : Nat → Bool} {f e : Nat} : ∀ (m c i : Nat), fwd rm gd f c i → pth rm gd e c m i = true → fwd rm gd f (c + m) e
  | 0, c, i, h, hp => by
    have : i = e := of_decide_eq_true hp
    rw [← this]
    exact h
  | m + 1, c, i, h, hp => by
    obtain ⟨t, ht, h2⟩ := anyT_i.mp hp
    rw [Bool.and_eq_true] at h2
    rw [show c + (m + 1) = c + 1 + m by omega]
    exact pth_f m (c + 1) (i + t) ⟨h2.1, i, t, h, by omega, rfl⟩ h2.2
theorem pth_b {rm : Nat → Nat} {gd : Nat → Bool} {f e : Nat} : ∀ (m c : Nat), fwd rm gd f (c + m) e → ∃ i, fwd rm gd f c i ∧ pth rm gd e c m i = true
  | 0, c, h => ⟨e, h, decide_eq_true rfl⟩
  | m + 1, c, h => by
    rw [show c + (m + 1) = c + 1 + m by omega] at h
    obtain ⟨i', ⟨h1, i, t, h2, h3, h4⟩, h5⟩ := pth_b m (c + 1) h
    refine ⟨i, h2, anyT_i.mpr ⟨t, by omega, ?_⟩⟩
    rw [Bool.and_eq_true, ← h4]
    exact ⟨h1, h5⟩
theorem pth_i {rm : Nat → Nat} {gd : Nat → Bool} {f e k : Nat} : pth rm gd e 0 k f = true ↔ fwd rm gd f k e := by
  constructor
  · intro h
    have := pth_f k 0 f rfl h
    rwa [Nat.zero_add] at this
  · intro h
    obtain ⟨i, h1, h2⟩ := pth_b (rm := rm) (gd := gd) (f := f) (e := e) k 0 (by rwa [Nat.zero_add])
    have h1 : i = f := h1
    rw [h1] at h2
    exact h2
theorem pth_le {rm : Nat → Nat} {gd : Nat → Bool} {e : Nat} : ∀ (m c i : Nat), pth rm gd e c m i = true → i ≤ e
  | 0, c, i, hp => by
    have : i = e := of_decide_eq_true hp
    omega
  | m + 1, c, i, hp => by
    obtain ⟨t, ht, h2⟩ := anyT_i.mp hp
    rw [Bool.and_eq_true] at h2
    have := pth_le m (c + 1) (i + t) h2.2
    omega
theorem pth_c {rm rm' : Nat → Nat} {gd gd' : Nat → Bool} {e : Nat} : ∀ (m c i : Nat), (∀ x, c ≤ x → x < c + m → rm x = rm' x) → (∀ j, i ≤ j → j ≤ e → gd j = gd' j) → pth rm gd e c m i = pth rm' gd' e c m i
  | 0, _, _, _, _ => rfl
  | m + 1, c, i, h1, h2 => by
    show anyT _ _ = anyT _ _
    rw [h1 c (Nat.le_refl _) (by omega)]
    refine anyT_c (fun t ht => ?_)
    have ih := pth_c (e := e) m (c + 1) (i + t) (fun x a b => h1 x (by omega) (by omega)) (fun j a b => h2 j (by omega) b)
    rw [ih]
    by_cases hj : i + t ≤ e
    · rw [h2 (i + t) (by omega) hj]
    · have : pth rm' gd' e (c + 1) m (i + t) = false := by
        cases hp : pth rm' gd' e (c + 1) m (i + t) with
        | false => rfl
        | true => exact absurd (pth_le m (c + 1) (i + t) hp) hj
      rw [this, Bool.and_false, Bool.and_false]
/-- what a column has less than the room -/
def lo (fc fr k less c : Nat) : Nat := (if c < fc then fr else 0) + (if c + 1 = k then less else 0)
def okH (h fc fr k less : Nat) : Bool := allT (fun c => decide (lo fc fr k less c ≤ h)) k
def rmF (h fc fr k less : Nat) : Nat → Nat := fun c => h - lo fc fr k less c
def gdF (bd : Nat → Bool) (n j : Nat) : Bool := decide (j ≤ n) && !bd j
def ftB (bd : Nat → Bool) (n f e fc fr k less h : Nat) : Bool := okH h fc fr k less && pth (rmF h fc fr k less) (gdF bd n) e 0 k f
def lhF (p : Nat → Bool) : Nat → Nat → Option Nat
  | _, 0 => none
  | h, m + 1 => if p h = true then some h else lhF p (h + 1) m
theorem lhF_b {p : Nat → Bool} : ∀ (m h x : Nat), lhF p h m = some x → h ≤ x ∧ x < h + m ∧ p x = true
  | 0, _, _, e => by cases e
  | m + 1, h, x, e => by
    unfold lhF at e
    by_cases hp : p h = true
    · rw [if_pos hp] at e
      cases e
      exact ⟨Nat.le_refl _, by omega, hp⟩
    · rw [if_neg hp] at e
      have := lhF_b m (h + 1) x e
      exact ⟨by omega, by omega, this.2.2⟩
/-- the least room with which the lines f .. n stand in k columns -/
def htF (bd : Nat → Bool) (n f fc fr R k : Nat) : Option Nat := if fc ≤ k then lhF (ftB bd n f n fc fr k 0) 1 (R - 1) else none
def frB (G : Nat → Int32) (C R pg x y k h : Nat) : Bool := (decide (x + k ≤ C) && decide (y + h ≤ R)) && allT (fun c => allT (fun r => decide (G (64 * pg + 16 * (x + c) + (y + r)) = 0)) h) k
def fsT {α : Type} (f : Nat → Option α) : Nat → Nat → Option α
  | _, 0 => none
  | i, m + 1 => match f i with
    | some r => some r
    | none => fsT f (i + 1) m
def fdT {α : Type} (f : Nat → Option α) : Nat → Option α
  | 0 => none
  | n + 1 => match f (n + 1) with
    | some r => some r
    | none => fdT f n
theorem fsT_e {α : Type} (f : Nat → Option α) (i m : Nat) : fsT f i (m + 1) = match f i with
    | some r => some r
    | none => fsT f (i + 1) m := rfl
theorem fdT_e {α : Type} (f : Nat → Option α) (n : Nat) : fdT f (n + 1) = match f (n + 1) with
    | some r => some r
    | none => fdT f n := rfl
theorem fsT_0 {α : Type} {f : Nat → Option α} : ∀ (m i : Nat), (∀ x, i ≤ x → x < i + m → f x = none) → fsT f i m = none
  | 0, _, _ => rfl
  | m + 1, i, h => by
    rw [fsT_e, h i (Nat.le_refl _) (by omega)]
    exact fsT_0 m (i + 1) (fun x a b => h x (by omega) (by omega))
theorem fsT_s {α : Type} {f : Nat → Option α} : ∀ (m i : Nat) (r : α), fsT f i m = some r → ∃ x, i ≤ x ∧ x < i + m ∧ f x = some r
  | 0, _, _, h => by cases h
  | m + 1, i, r, h => by
    rw [fsT_e] at h
    cases hf : f i with
    | some r' =>
      rw [hf] at h
      cases h
      exact ⟨i, Nat.le_refl _, by omega, hf⟩
    | none =>
      rw [hf] at h
      obtain ⟨x, a, b, c⟩ := fsT_s m (i + 1) r h
      exact ⟨x, by omega, by omega, c⟩
theorem fdT_s {α : Type} {f : Nat → Option α} : ∀ (n : Nat) (r : α), fdT f n = some r → ∃ x, 1 ≤ x ∧ x ≤ n ∧ f x = some r
  | 0, _, h => by cases h
  | n + 1, r, h => by
    rw [fdT_e] at h
    cases hf : f (n + 1) with
    | some r' =>
      rw [hf] at h
      cases h
      exact ⟨n + 1, by omega, Nat.le_refl _, hf⟩
    | none =>
      rw [hf] at h
      obtain ⟨x, a, b, c⟩ := fdT_s n r h
      exact ⟨x, a, by omega, c⟩
/-- the first free place on a page -/
def fnX (G : Nat → Int32) (C R pg k h y : Nat) (x : Nat) : Option (Nat × Nat) := if frB G C R pg x y k h = true then some (x, y) else none
def fnY (G : Nat → Int32) (C R pg k h : Nat) (y : Nat) : Option (Nat × Nat) := fsT (fnX G C R pg k h y) 0 C
def fnd (G : Nat → Int32) (C R pg k h : Nat) : Option (Nat × Nat) := fsT (fnY G C R pg k h) 0 R
/-- where the lines from f on stand together: page, columns, place -/
def fwK (G : Nat → Int32) (C R : Nat) (ht : Nat → Option Nat) (pg k : Nat) : Option (Nat × Nat × Nat × Nat) := match ht k with
  | none => none
  | some h => (fnd G C R pg k (h + 1)).map (fun xy => (pg, k, xy.1, xy.2))
def fwP (G : Nat → Int32) (C R : Nat) (ht : Nat → Option Nat) (pg : Nat) : Option (Nat × Nat × Nat × Nat) := fdT (fwK G C R ht pg) C
def fwF (G : Nat → Int32) (C R : Nat) (ht : Nat → Option Nat) (first : Nat) : Option (Nat × Nat × Nat × Nat) := fsT (fwP G C R ht) first (3 - first)
/-- rows that are free from y on -/
def rwF (G : Nat → Int32) (pg x k r : Nat) : Bool := allT (fun c => decide (G (64 * pg + 16 * (x + c) + r) = 0)) k
def cnF (p : Nat → Bool) : Nat → Nat → Nat
  | _, 0 => 0
  | y, m + 1 => if p y = true then cnF p (y + 1) m + 1 else 0
def gsF (p : Nat → Bool) : Nat → Option Nat
  | 0 => none
  | m + 1 => if 2 ≤ m + 1 then (if p (m + 1) = true then some (m + 1) else gsF p m) else none
theorem gsF_b {p : Nat → Bool} : ∀ (m x : Nat), gsF p m = some x → 2 ≤ x ∧ x ≤ m ∧ p x = true
  | 0, _, h => by cases h
  | m + 1, x, h => by
    unfold gsF at h
    by_cases h2 : 2 ≤ m + 1
    · rw [if_pos h2] at h
      by_cases hp : p (m + 1) = true
      · rw [if_pos hp] at h
        cases h
        exact ⟨h2, Nat.le_refl _, hp⟩
      · rw [if_neg hp] at h
        have := gsF_b m x h
        exact ⟨this.1, by omega, this.2.2⟩
    · rw [if_neg h2] at h
      cases h
def spF (bd : Nat → Bool) (n fc fr k h : Nat) : Option Nat := gsF (fun m => gdF bd n m && pth (rmF (h - 1) fc fr k 1) (gdF bd n) m 0 k 0) (n - 2)
/-- a jump from this place: the height, the lines of the first part, the place of the rest -/
def jmF (G : Nat → Int32) (C R : Nat) (bd : Nat → Bool) (n fc fr pg k y x : Nat) : Option (Nat × Nat × Nat × Nat × Nat × Nat × Nat × Nat × Nat × Nat) :=
  if x + k ≤ C ∧ 2 ≤ cnF (rwF G pg x k) y (R - y) ∧ fc ≤ k ∧ okH (cnF (rwF G pg x k) y (R - y) - 1) fc fr k 1 = true then
    (match spF bd n fc fr k (cnF (rwF G pg x k) y (R - y)) with
      | none => none
      | some m => (fwF G C R (htF bd n m 0 0 R) (pg + 1)).map (fun w => (pg, k, x, y, cnF (rwF G pg x k) y (R - y), m, w)))
  else none
def jmY (G : Nat → Int32) (C R : Nat) (bd : Nat → Bool) (n fc fr pg k y : Nat) : Option (Nat × Nat × Nat × Nat × Nat × Nat × Nat × Nat × Nat × Nat) := fsT (jmF G C R bd n fc fr pg k y) 0 C
def jmK (G : Nat → Int32) (C R : Nat) (bd : Nat → Bool) (n fc fr pg k : Nat) : Option (Nat × Nat × Nat × Nat × Nat × Nat × Nat × Nat × Nat × Nat) := fsT (jmY G C R bd n fc fr pg k) 0 R
def jmP (G : Nat → Int32) (C R : Nat) (bd : Nat → Bool) (n fc fr pg : Nat) : Option (Nat × Nat × Nat × Nat × Nat × Nat × Nat × Nat × Nat × Nat) := fdT (jmK G C R bd n fc fr pg) C
def jmW (G : Nat → Int32) (C R : Nat) (bd : Nat → Bool) (n fc fr : Nat) : Option (Nat × Nat × Nat × Nat × Nat × Nat × Nat × Nat × Nat × Nat) := fsT (jmP G C R bd n fc fr) 0 2
/-- how many lines each column takes: the most that let the rest be -/
def grT (f : Nat → Bool) : Nat → Nat
  | 0 => 0
  | n + 1 => if f n = true then n else grT f n
theorem grT_lt {f : Nat → Bool} : ∀ n, grT f (n + 1) ≤ n
  | 0 => by
    unfold grT
    split
    · exact Nat.le_refl _
    · exact Nat.le_refl _
  | n + 1 => by
    unfold grT
    split
    · exact Nat.le_refl _
    · have := grT_lt (f := f) n
      omega
theorem grT_c {f g : Nat → Bool} : ∀ {n : Nat}, (∀ t, t < n → f t = g t) → grT f n = grT g n
  | 0, _ => rfl
  | n + 1, h => by
    unfold grT
    rw [h n (by omega), grT_c (fun t ht => h t (by omega))]
def tkF (rm : Nat → Nat) (gd : Nat → Bool) (e k c i : Nat) : Nat := grT (fun t => gd (i + t) && pth rm gd e (c + 1) (k - c - 1) (i + t)) (rm c + 1)
def liF (rm : Nat → Nat) (gd : Nat → Bool) (f e k : Nat) : Nat → Nat
  | 0 => f
  | c + 1 => liF rm gd f e k c + tkF rm gd e k c (liF rm gd f e k c)
def inF (rm : Nat → Nat) (gd : Nat → Bool) (f e k c : Nat) : Nat := tkF rm gd e k c (liF rm gd f e k c)
theorem inF_le {rm : Nat → Nat} {gd : Nat → Bool} {f e k c : Nat} : inF rm gd f e k c ≤ rm c := by unfold inF tkF; exact grT_lt (rm c)
theorem grT_t {f : Nat → Bool} {n : Nat} (h : anyT f n = true) : f (grT f n) = true ∧ grT f n < n := by
  induction n with
  | zero => cases h
  | succ n ih =>
    unfold grT
    by_cases hf : f n = true
    · rw [if_pos hf]
      exact ⟨hf, by omega⟩
    · rw [if_neg hf]
      have h' : (anyT f n || f n) = true := h
      rw [Bool.or_eq_true] at h'
      rcases h' with h' | h'
      · have := ih h'
        exact ⟨this.1, by omega⟩
      · exact absurd h' hf
/-- the lines go on as long as there is a way -/
theorem liF_p {rm : Nat → Nat} {gd : Nat → Bool} {f e k : Nat} (h : pth rm gd e 0 k f = true) : ∀ c, c ≤ k → pth rm gd e c (k - c) (liF rm gd f e k c) = true ∧ f ≤ liF rm gd f e k c ∧ liF rm gd f e k c ≤ e
  | 0, _ => by
    have := pth_le k 0 f h
    exact ⟨h, Nat.le_refl _, this⟩
  | c + 1, hc => by
    have ih := liF_p h c (by omega)
    have h1 := ih.1
    rw [show k - c = (k - c - 1) + 1 by omega] at h1
    have h2 := grT_t (f := fun t => gd (liF rm gd f e k c + t) && pth rm gd e (c + 1) (k - c - 1) (liF rm gd f e k c + t)) (n := rm c + 1) h1
    rw [Bool.and_eq_true] at h2
    have h3 : liF rm gd f e k (c + 1) = liF rm gd f e k c + tkF rm gd e k c (liF rm gd f e k c) := rfl
    have h4 : pth rm gd e (c + 1) (k - (c + 1)) (liF rm gd f e k (c + 1)) = true := by
      rw [h3, show k - (c + 1) = k - c - 1 by omega]
      exact h2.1.2
    exact ⟨h4, by omega, pth_le _ _ _ h4⟩
