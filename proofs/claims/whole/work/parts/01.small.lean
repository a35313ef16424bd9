/-! The machine in small. Cells are numbered from 0 on in the order in which they are made; a reference is a cell's number;
the script, an old cell, is the value .float 0. An instruction is a partial function (zF), a call names a method by number,
a return gives its value or none. zev runs it with fuel; zD is what it comes to with fuel enough. -/
abbrev zL : Type := List (Option Value)
abbrev zM : Type := List va_E
abbrev zK : Type := Nat × Nat
abbrev zC : Type := Nat × zL × List Value × zM × zK
abbrev zF : Type := zL → List Value → zM → zK → Option zC
abbrev zO : Type := zF ⊕ (Nat × Nat × Nat) ⊕ Nat
abbrev zR : Type := Option Value × zM × zK
/-- the locals at the entry -/
def zsl : List Value → zL
  | [] => []
  | v :: vs => if v.category = 2 then some v :: none :: zsl vs else some v :: zsl vs
def zent (n : Nat) (vs : List Value) : zL := zsl vs ++ List.replicate (n - (zsl vs).length) none
/-- what a program is: the code, and for each method its locals, its cells, its slots -/
abbrev zP : Type := (Nat → Nat → Option zO) × (Nat → Nat) × (Nat → zK)
/-- the receiver of a virtual call is an object of its class -/
def zrc (v : Nat) (st : List Value) (n : Nat) (w : zM) : Bool := match v with
  | 0 => true
  | v + 1 => match (st.drop (n - 1)).head? with
    | some (.ref a) => (match w[a]? with
      | some (.inr (c', _)) => c' == v
      | _ => false)
    | _ => false
def zok (bj bi : zK) (ml n v : Nat) (st : List Value) (w : zM) (k : zK) : Bool :=
  decide (n ≤ st.length) && (zrc v st n w && (decide (((st.drop n).map fun x => x.category).sum ≤ 8) && (decide ((zsl (st.take n).reverse).length ≤ ml) && (decide (k.1 + bi.1 ≤ bj.1) && decide (k.2 + bi.2 ≤ bj.2)))))
/-- what a method may answer: 1 an int, 2 a boolean, 3 a long -/
def zrt (v : Nat) (x : Value) : Bool := match x with
  | .int y => v == 1 || (v == 2 && decide (y = 0 ∨ y = 1))
  | .long _ => v == 3
  | _ => false
def zre (v : Nat) (st : List Value) (w : zM) (k : zK) : Option zR :=
  if v = 0 then (match st with
    | [] => some (none, w, k)
    | _ => none)
  else (match st with
    | [x] => if zrt v x = true then some (some x, w, k) else none
    | _ => none)
def zev (P : zP) : Nat → Nat → Nat → zL → List Value → zM → zK → Option zR
  | 0, _, _, _, _, _, _ => none
  | f + 1, j, pc, ls, st, w, k => match P.1 j pc with
    | none => none
    | some (.inl g) => match g ls st w k with
      | none => none
      | some (pc', ls', st', w', k') => zev P f j pc' ls' st' w' k'
    | some (.inr (.inl (j', n, v))) =>
      if zok (P.2.2 j) (P.2.2 j') (P.2.1 j') n v st w k = true then
        match zev P f j' 0 (zent (P.2.1 j') (st.take n).reverse) [] w (0, 0) with
        | none => none
        | some (r, w', k') => if k' = P.2.2 j' then zev P f j (pc + 3) ls (r.toList ++ st.drop n) w' (k.1 + (P.2.2 j').1, k.2 + (P.2.2 j').2) else none
      else none
    | some (.inr (.inr v)) => zre v st w k
theorem zev_mono (P : zP) : ∀ (f j pc : Nat) (ls : zL) (st : List Value) (w : zM) (k : zK) (r : zR), zev P f j pc ls st w k = some r → zev P (f + 1) j pc ls st w k = some r := by
  intro f
  induction f with
  | zero => intro j pc ls st w k r h; cases h
  | succ f ih =>
    intro j pc ls st w k r h
    rw [zev] at h
    rw [zev]
    cases hc : P.1 j pc with
    | none => rw [hc] at h; cases h
    | some o =>
      rw [hc] at h
      rcases o with g | ⟨j', n, v⟩ | v
      · dsimp only at h ⊢
        cases hg : g ls st w k with
        | none => rw [hg] at h; cases h
        | some q =>
          obtain ⟨pc', ls', st', w', k'⟩ := q
          rw [hg] at h
          exact ih _ _ _ _ _ _ _ h
      · dsimp only at h ⊢
        split at h
        · rename_i hn
          rw [if_pos hn]
          cases he : zev P f j' 0 (zent (P.2.1 j') (st.take n).reverse) [] w (0, 0) with
          | none => rw [he] at h; cases h
          | some q =>
            obtain ⟨r', w', k'⟩ := q
            rw [he] at h
            rw [ih _ _ _ _ _ _ _ he]
            dsimp only at h ⊢
            split at h
            · rename_i hk
              rw [if_pos hk]
              exact ih _ _ _ _ _ _ _ h
            · cases h
        · cases h
      · exact h
theorem zev_le (P : zP) {f g j pc : Nat} {ls : zL} {st : List Value} {w : zM} {k : zK} {r : zR} (hfg : f ≤ g) (h : zev P f j pc ls st w k = some r) : zev P g j pc ls st w k = some r := by
  induction hfg with
  | refl => exact h
  | step _ ih => exact zev_mono P _ _ _ _ _ _ _ _ ih
theorem zev_det (P : zP) {f g j pc : Nat} {ls : zL} {st : List Value} {w : zM} {k : zK} {r r' : zR} (h : zev P f j pc ls st w k = some r) (h' : zev P g j pc ls st w k = some r') : r = r' := by
  have a := zev_le P (Nat.le_max_left f g) h
  have b := zev_le P (Nat.le_max_right f g) h'
  exact Option.some.inj (a.symm.trans b)
noncomputable def zD (P : zP) (j pc : Nat) (ls : zL) (st : List Value) (w : zM) (k : zK) : Option zR :=
  @dite _ (∃ r f, zev P f j pc ls st w k = some r) (Classical.propDecidable _) (fun h => some (Classical.choose h)) (fun _ => none)
theorem zD_iff (P : zP) {j pc : Nat} {ls : zL} {st : List Value} {w : zM} {k : zK} {r : zR} : zD P j pc ls st w k = some r ↔ ∃ f, zev P f j pc ls st w k = some r := by
  unfold zD
  constructor
  · intro h
    split at h
    · rename_i hx
      obtain ⟨f, hf⟩ := Classical.choose_spec hx
      cases h
      exact ⟨f, hf⟩
    · cases h
  · rintro ⟨f, hf⟩
    have hx : ∃ r f, zev P f j pc ls st w k = some r := ⟨r, f, hf⟩
    rw [dif_pos hx]
    obtain ⟨g, hg⟩ := Classical.choose_spec hx
    rw [zev_det P hg hf]
theorem zD_ext {a b : Option zR} (h : ∀ r, a = some r ↔ b = some r) : a = b := by
  cases a with
  | none =>
    cases b with
    | none => rfl
    | some y => exact absurd ((h y).mpr rfl) (by intro q; cases q)
  | some x => exact ((h x).mp rfl).symm
section ZD
variable {P : zP} {j pc : Nat} {ls : zL} {st : List Value} {w : zM} {k : zK}
/-- one instruction -/
theorem zD_i {g : zF} {c : zC} (h : P.1 j pc = some (.inl g)) (hg : g ls st w k = some c) : zD P j pc ls st w k = zD P j c.1 c.2.1 c.2.2.1 c.2.2.2.1 c.2.2.2.2 := by
  obtain ⟨pc', ls', st', w', k'⟩ := c
  refine zD_ext fun r => ?_
  rw [zD_iff, zD_iff]
  constructor
  · rintro ⟨f, hf⟩
    cases f with
    | zero => cases hf
    | succ f =>
      rw [zev, h] at hf
      dsimp only at hf
      rw [hg] at hf
      exact ⟨f, hf⟩
  · rintro ⟨f, hf⟩
    refine ⟨f + 1, ?_⟩
    rw [zev, h]
    dsimp only
    rw [hg]
    exact hf
theorem zD_n {g : zF} (h : P.1 j pc = some (.inl g)) (hg : g ls st w k = none) : zD P j pc ls st w k = none := by
  refine zD_ext fun r => ?_
  rw [zD_iff]
  constructor
  · rintro ⟨f, hf⟩
    cases f with
    | zero => cases hf
    | succ f =>
      rw [zev, h] at hf
      dsimp only at hf
      rw [hg] at hf
      cases hf
  · intro q; cases q
/-- what a call comes to: the answer, and the cells behind it -/
noncomputable def zm (P : zP) (j : Nat) (vs : List Value) (w : zM) : Option (Option Value × zM) :=
  (zD P j 0 (zent (P.2.1 j) vs) [] w (0, 0)).bind (fun q => if q.2.2 = P.2.2 j then some (q.1, q.2.1) else none)
/-- a call -/
theorem zD_c {j' n v : Nat} (h : P.1 j pc = some (.inr (.inl (j', n, v)))) (hn : zok (P.2.2 j) (P.2.2 j') (P.2.1 j') n v st w k = true) :
    zD P j pc ls st w k = (zm P j' (st.take n).reverse w).bind (fun q => zD P j (pc + 3) ls (q.1.toList ++ st.drop n) q.2 (k.1 + (P.2.2 j').1, k.2 + (P.2.2 j').2)) := by
  refine zD_ext fun r => ?_
  rw [zD_iff]
  constructor
  · rintro ⟨f, hf⟩
    cases f with
    | zero => cases hf
    | succ f =>
      rw [zev, h] at hf
      dsimp only at hf
      rw [if_pos hn] at hf
      cases he : zev P f j' 0 (zent (P.2.1 j') (st.take n).reverse) [] w (0, 0) with
      | none => rw [he] at hf; cases hf
      | some q =>
        obtain ⟨r', w', k'⟩ := q
        rw [he] at hf
        dsimp only at hf
        split at hf
        · rename_i hk
          have e1 : zm P j' (st.take n).reverse w = some (r', w') := by
            unfold zm
            rw [(zD_iff P).mpr ⟨f, he⟩, Option.bind_some, if_pos hk]
          rw [e1, Option.bind_some]
          exact (zD_iff P).mpr ⟨f, hf⟩
        · cases hf
  · intro hb
    unfold zm at hb
    cases he : zD P j' 0 (zent (P.2.1 j') (st.take n).reverse) [] w (0, 0) with
    | none => rw [he] at hb; cases hb
    | some q =>
      obtain ⟨r', w', k'⟩ := q
      rw [he, Option.bind_some] at hb
      dsimp only at hb
      split at hb
      · rename_i hk
        rw [Option.bind_some] at hb
        obtain ⟨f1, hf1⟩ := (zD_iff P).mp he
        obtain ⟨f2, hf2⟩ := (zD_iff P).mp hb
        refine ⟨max f1 f2 + 1, ?_⟩
        rw [zev, h]
        dsimp only
        rw [if_pos hn, zev_le P (Nat.le_max_left f1 f2) hf1]
        dsimp only
        rw [if_pos hk]
        exact zev_le P (Nat.le_max_right f1 f2) hf2
      · cases hb
/-- a return -/
theorem zD_rv (h : P.1 j pc = some (.inr (.inr 0))) : zD P j pc ls [] w k = some (none, w, k) := by
  refine (zD_iff P).mpr ⟨1, ?_⟩
  rw [zev, h]
  rfl
theorem zD_r1 {v : Nat} {x : Value} (h : P.1 j pc = some (.inr (.inr (v + 1)))) (hx : zrt (v + 1) x = true) : zD P j pc ls [x] w k = some (some x, w, k) := by
  refine (zD_iff P).mpr ⟨1, ?_⟩
  rw [zev, h]
  show zre (v + 1) [x] w k = _
  unfold zre
  rw [if_neg (Nat.succ_ne_zero v)]
  dsimp only
  rw [if_pos hx]
end ZD
