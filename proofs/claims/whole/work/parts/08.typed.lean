/-! Cells of known shape: only ints and longs change. I i f: the int in cell i, place f; J: the long. -/
abbrev zI : Type := Nat → Nat → Int32
abbrev zJ : Type := Nat → Nat → Int64
def fv (I : zI) (J : zJ) (i f : Nat) (x : Nat × Nat) : Value := match x.1 with
  | 0 => .int (I i f)
  | 1 => .long (J i f)
  | _ => .ref x.2
def fvs (I : zI) (J : zJ) (i : Nat) : Nat → List (Nat × Nat) → List Value
  | _, [] => []
  | f, x :: l => fv I J i f x :: fvs I J i (f + 1) l
def cel (I : zI) (J : zJ) (i : Nat) : zSh → va_E
  | .inl (ci, fl) => .inr (ci, fvs I J i 0 fl)
  | .inr (.inl (t, n)) => match t with
    | 1 => .inl (1, n, .inr (.inl (J i)))
    | t => .inl (t, n, .inl (I i))
  | .inr (.inr (t, rs)) => .inl (t, rs.length, .inr (.inr (.inr (.inr (fun q => rs[q]?)))))
def mkF (I : zI) (J : zJ) : Nat → List zSh → zM
  | _, [] => []
  | i, sh :: l => cel I J i sh :: mkF I J (i + 1) l
def mk (I : zI) (J : zJ) : zM := mkF I J 0 zShL
def uc {α : Type} (I : Nat → Nat → α) (i : Nat) (g : Nat → α) : Nat → Nat → α := fun a => if a = i then g else I a
def u2 (I : zI) (i f : Nat) (x : Int32) : zI := uc I i (upd (I i) f x)
def v2 (J : zJ) (i f : Nat) (x : Int64) : zJ := uc J i (vp_updL (J i) f x)
theorem uc_s {α : Type} (I : Nat → Nat → α) (i : Nat) (g : Nat → α) : uc I i g i = g := if_pos rfl
theorem uc_n {α : Type} (I : Nat → Nat → α) {i a : Nat} (g : Nat → α) (h : a ≠ i) : uc I i g a = I a := if_neg h
theorem fvs_get (I : zI) (J : zJ) (i : Nat) : ∀ (l : List (Nat × Nat)) (o f : Nat) (x : Nat × Nat), l[f]? = some x → (fvs I J i o l)[f]? = some (fv I J i (o + f) x)
  | [], _, _, _, h => by simp at h
  | y :: l, o, 0, x, h => by
    cases h
    rfl
  | y :: l, o, f + 1, x, h => by
    have := fvs_get I J i l (o + 1) f x h
    rw [show o + (f + 1) = o + 1 + f by omega]
    exact this
theorem fvs_len (I : zI) (J : zJ) (i : Nat) : ∀ (l : List (Nat × Nat)) (o : Nat), (fvs I J i o l).length = l.length
  | [], _ => rfl
  | _ :: l, o => congrArg (· + 1) (fvs_len I J i l (o + 1))
theorem mkF_get (I : zI) (J : zJ) : ∀ (l : List zSh) (o i : Nat) (x : zSh), l[i]? = some x → (mkF I J o l)[i]? = some (cel I J (o + i) x)
  | [], _, _, _, h => by simp at h
  | y :: l, o, 0, x, h => by
    cases h
    rfl
  | y :: l, o, i + 1, x, h => by
    have := mkF_get I J l (o + 1) i x h
    rw [show o + (i + 1) = o + 1 + i by omega]
    exact this
theorem mk_get {I : zI} {J : zJ} {i : Nat} {x : zSh} (h : zShL[i]? = some x) : (mk I J)[i]? = some (cel I J i x) := by
  have := mkF_get I J zShL 0 i x h
  rwa [Nat.zero_add] at this
theorem mkF_len (I : zI) (J : zJ) : ∀ (l : List zSh) (o : Nat), (mkF I J o l).length = l.length
  | [], _ => rfl
  | _ :: l, o => congrArg (· + 1) (mkF_len I J l (o + 1))
/-- cells that are told apart by what they hold -/
theorem mk_set {I I' : zI} {J J' : zJ} {i : Nat} {x : zSh} {e : va_E} (h : zShL[i]? = some x) (he : cel I' J' i x = e) (hI : ∀ a, a ≠ i → I' a = I a) (hJ : ∀ a, a ≠ i → J' a = J a) : (mk I J).set i e = mk I' J' := by
  have hl : i < zShL.length := (List.getElem?_eq_some_iff.mp h).1
  refine List.ext_getElem? fun a => ?_
  by_cases ha : i = a
  · subst ha
    rw [List.getElem?_set_self (by unfold mk; rw [mkF_len]; exact hl), mk_get h, he]
  · rw [List.getElem?_set_ne ha]
    by_cases hb : a < zShL.length
    · have hx := List.getElem?_eq_getElem hb
      rw [mk_get hx, mk_get hx]
      have e1 : I' a = I a := hI a (fun q => ha q.symm)
      have e2 : J' a = J a := hJ a (fun q => ha q.symm)
      have key : ∀ y : zSh, cel I' J' a y = cel I J a y := by
        intro y
        have kf : ∀ (l : List (Nat × Nat)) (o : Nat), fvs I' J' a o l = fvs I J a o l := by
          intro l
          induction l with
          | nil => intro o; rfl
          | cons z l ih =>
            intro o
            show fv I' J' a o z :: fvs I' J' a (o + 1) l = fv I J a o z :: fvs I J a (o + 1) l
            rw [ih]
            unfold fv
            rw [e1, e2]
        rcases y with ⟨ci, fl⟩ | ⟨t, n⟩ | ⟨t, rs⟩
        · show Sum.inr (ci, fvs I' J' a 0 fl) = Sum.inr (ci, fvs I J a 0 fl)
          rw [kf]
        · unfold cel
          rw [e1, e2]
        · rfl
      rw [key]
    · rw [List.getElem?_eq_none (by unfold mk; rw [mkF_len]; omega), List.getElem?_eq_none (by unfold mk; rw [mkF_len]; omega)]
theorem fvs_setI (I : zI) (J : zJ) (i : Nat) (q : Nat) (x : Int32) : ∀ (l : List (Nat × Nat)) (o f : Nat) (y : Nat), l[f]? = some (0, y) → o + f = q → fvs (u2 I i q x) J i o l = (fvs I J i o l).set f (.int x)
  | [], _, _, _, h, _ => by simp at h
  | z :: l, o, 0, y, h, hq => by
    cases h
    have hq : o = q := hq
    subst hq
    have kf : ∀ (l : List (Nat × Nat)) (o' : Nat), o < o' → fvs (u2 I i o x) J i o' l = fvs I J i o' l := by
      intro l
      induction l with
      | nil => intro o' _; rfl
      | cons z l ih =>
        intro o' ho
        show fv _ J i o' z :: fvs _ J i (o' + 1) l = fv I J i o' z :: fvs I J i (o' + 1) l
        rw [ih (o' + 1) (by omega)]
        congr 1
        unfold fv u2
        rw [uc_s, pk_un (by omega)]
    show fv (u2 I i o x) J i o (0, y) :: fvs (u2 I i o x) J i (o + 1) l = .int x :: fvs I J i (o + 1) l
    rw [kf l (o + 1) (by omega)]
    congr 1
    show Value.int (u2 I i o x i o) = _
    unfold u2
    rw [uc_s, pk_us]
  | z :: l, o, f + 1, y, h, hq => by
    have := fvs_setI I J i q x l (o + 1) f y h (by omega)
    show fv (u2 I i q x) J i o z :: fvs (u2 I i q x) J i (o + 1) l = fv I J i o z :: (fvs I J i (o + 1) l).set f (.int x)
    rw [this]
    congr 1
    unfold fv u2
    rw [uc_s, pk_un (by omega)]
theorem fvs_setJ (I : zI) (J : zJ) (i : Nat) (q : Nat) (x : Int64) : ∀ (l : List (Nat × Nat)) (o f : Nat) (y : Nat), l[f]? = some (1, y) → o + f = q → fvs I (v2 J i q x) i o l = (fvs I J i o l).set f (.long x)
  | [], _, _, _, h, _ => by simp at h
  | z :: l, o, 0, y, h, hq => by
    cases h
    have hq : o = q := hq
    subst hq
    have kf : ∀ (l : List (Nat × Nat)) (o' : Nat), o < o' → fvs I (v2 J i o x) i o' l = fvs I J i o' l := by
      intro l
      induction l with
      | nil => intro o' _; rfl
      | cons z l ih =>
        intro o' ho
        show fv I _ i o' z :: fvs I _ i (o' + 1) l = fv I J i o' z :: fvs I J i (o' + 1) l
        rw [ih (o' + 1) (by omega)]
        congr 1
        unfold fv v2
        rw [uc_s, pk_uLn (by omega)]
    show fv I (v2 J i o x) i o (1, y) :: fvs I (v2 J i o x) i (o + 1) l = .long x :: fvs I J i (o + 1) l
    rw [kf l (o + 1) (by omega)]
    congr 1
    show Value.long (v2 J i o x i o) = _
    unfold v2
    rw [uc_s, pk_uLs]
  | z :: l, o, f + 1, y, h, hq => by
    have := fvs_setJ I J i q x l (o + 1) f y h (by omega)
    show fv I (v2 J i q x) i o z :: fvs I (v2 J i q x) i (o + 1) l = fv I J i o z :: (fvs I J i (o + 1) l).set f (.long x)
    rw [this]
    congr 1
    unfold fv v2
    rw [uc_s, pk_uLn (by omega)]
/-- the program at the script S, the cells being I, J, nothing made -/
noncomputable def zd (S : Nat × (Nat → Int32)) (j pc : Nat) (ls : zL) (st : List Value) (I : zI) (J : zJ) (k : zK) : Option zR := zD (zPg S.1 S.2) j pc ls st (mk I J) k
/-- a call that comes to an answer -/
def zq (S : Nat × (Nat → Int32)) (j : Nat) (vs : List Value) (I : zI) (J : zJ) (r : Option Value) (I' : zI) (J' : zJ) : Prop := zm (zPg S.1 S.2) j vs (mk I J) = some (r, mk I' J')
section ZT
variable {S : Nat × (Nat → Int32)} {j pc : Nat} {ls : zL} {st : List Value} {I : zI} {J : zJ} {k : zK}
theorem zq_of {vs : List Value} {r : Option Value} {I' : zI} {J' : zJ} (hb : mBu j = (0, 0)) (h : zd S j 0 (zent (mMx j) vs) [] I J (0, 0) = some (r, mk I' J', (0, 0))) : zq S j vs I J r I' J' := by
  unfold zd at h
  unfold zq zm
  show (zD (zPg S.1 S.2) j 0 (zent (mMx j) vs) [] (mk I J) (0, 0)).bind _ = _
  rw [h, Option.bind_some]
  exact if_pos hb.symm
/-- the rest of a run, from an instruction on -/
noncomputable def zdg (S : Nat × (Nat → Int32)) (j : Nat) (g : zF) (ls : zL) (st : List Value) (I : zI) (J : zJ) (k : zK) : Option zR := match g ls st (mk I J) k with
  | some c => zD (zPg S.1 S.2) j c.1 c.2.1 c.2.2.1 c.2.2.2.1 c.2.2.2.2
  | none => none
theorem tt_f {g : zF} (h : (zPg S.1 S.2).1 j pc = some (.inl g)) : zd S j pc ls st I J k = zdg S j g ls st I J k := by
  unfold zd zdg
  cases hg : g ls st (mk I J) k with
  | none => exact zD_n h hg
  | some c => exact zD_i h hg
theorem tt_fk {m : List Bool} {g : zF} {ls' : zL} (h : (zPg S.1 S.2).1 j pc = some (.inl (i_k m g))) (he : zkl m ls = ls') : zd S j pc ls st I J k = zdg S j g ls' st I J k := by
  rw [tt_f h]
  unfold zdg i_k
  rw [he]
theorem tt_m {g : zF} {nx : Nat} {ls' : zL} {st' : List Value} {I' : zI} {J' : zJ} (hg : g ls st (mk I J) k = some (nx, ls', st', mk I' J', k)) : zdg S j g ls st I J k = zd S j nx ls' st' I' J' k := by
  unfold zdg
  rw [hg]
  rfl
theorem tt_0 {g : zF} {nx : Nat} {ls' : zL} {st' : List Value} (hg : g ls st (mk I J) k = some (nx, ls', st', mk I J, k)) : zdg S j g ls st I J k = zd S j nx ls' st' I J k := tt_m hg
theorem tt_c {v : Value} {nx : Nat} : zdg S j (i_c v nx) ls st I J k = zd S j nx ls (v :: st) I J k := tt_0 rfl
theorem tt_il {i nx : Nat} {x : Int32} (hl : ls[i]? = some (some (.int x))) : zdg S j (i_il i nx) ls st I J k = zd S j nx ls (.int x :: st) I J k := tt_0 (by unfold i_il; rw [hl])
theorem tt_ll {i nx : Nat} {x : Int64} (hl : ls[i]? = some (some (.long x))) : zdg S j (i_ll i nx) ls st I J k = zd S j nx ls (.long x :: st) I J k := tt_0 (by unfold i_ll; rw [hl])
theorem tt_al {i nx x : Nat} (hl : ls[i]? = some (some (.ref x))) : zdg S j (i_al i nx) ls st I J k = zd S j nx ls (.ref x :: st) I J k := tt_0 (by unfold i_al; rw [hl])
theorem tt_is {i nx : Nat} {x : Int32} {ls' : zL} (hl : Nat.ble (i + 1) ls.length = true) (he : (zclr ls i).set i (some (.int x)) = ls') : zdg S j (i_is i nx) ls (.int x :: st) I J k = zd S j nx ls' st I J k := tt_0 (by unfold i_is; dsimp only; rw [if_pos (show i < ls.length from Nat.le_of_ble_eq_true hl), he])
theorem tt_as {i nx x : Nat} {ls' : zL} (hl : Nat.ble (i + 1) ls.length = true) (he : (zclr ls i).set i (some (.ref x)) = ls') : zdg S j (i_as i nx) ls (.ref x :: st) I J k = zd S j nx ls' st I J k := tt_0 (by unfold i_as; dsimp only; rw [if_pos (show i < ls.length from Nat.le_of_ble_eq_true hl), he])
theorem tt_ls {i nx : Nat} {x : Int64} {ls' : zL} (hl : Nat.ble (i + 2) ls.length = true) (he : ((zclr ls i).set i (some (.long x))).set (i + 1) none = ls') : zdg S j (i_ls i nx) ls (.long x :: st) I J k = zd S j nx ls' st I J k := tt_0 (by unfold i_ls; dsimp only; rw [if_pos (show i + 1 < ls.length from Nat.le_of_ble_eq_true hl), he])
theorem tt_in {i nx : Nat} {x n : Int32} {ls' : zL} (hl : ls[i]? = some (some (.int x))) (he : (zclr ls i).set i (some (.int (x + n))) = ls') : zdg S j (i_in i n nx) ls st I J k = zd S j nx ls' st I J k := tt_0 (by unfold i_in; rw [hl]; dsimp only; rw [he])
theorem tt_bi {f : Int32 → Int32 → Int32} {nx : Nat} {x y : Int32} : zdg S j (i_bi f nx) ls (.int y :: .int x :: st) I J k = zd S j nx ls (.int (f x y) :: st) I J k := tt_0 rfl
theorem tt_bz {f : Int32 → Int32 → Int32} {nx : Nat} {x y : Int32} (hy : ¬ y = 0) : zdg S j (i_bz f nx) ls (.int y :: .int x :: st) I J k = zd S j nx ls (.int (f x y) :: st) I J k := tt_0 (by unfold i_bz; dsimp only; rw [if_neg hy])
theorem tt_ui {f : Int32 → Int32} {nx : Nat} {x : Int32} : zdg S j (i_ui f nx) ls (.int x :: st) I J k = zd S j nx ls (.int (f x) :: st) I J k := tt_0 rfl
theorem tt_i2l {nx : Nat} {x : Int32} : zdg S j (i_i2l nx) ls (.int x :: st) I J k = zd S j nx ls (.long x.toInt64 :: st) I J k := tt_0 rfl
theorem tt_l2i {nx : Nat} {x : Int64} : zdg S j (i_l2i nx) ls (.long x :: st) I J k = zd S j nx ls (.int x.toInt32 :: st) I J k := tt_0 rfl
theorem tt_bl {f : Int64 → Int64 → Int64} {nx : Nat} {x y : Int64} : zdg S j (i_bl f nx) ls (.long y :: .long x :: st) I J k = zd S j nx ls (.long (f x y) :: st) I J k := tt_0 rfl
theorem tt_sl {f : Int64 → Int32 → Int64} {nx : Nat} {x : Int64} {y : Int32} : zdg S j (i_sl f nx) ls (.int y :: .long x :: st) I J k = zd S j nx ls (.long (f x y) :: st) I J k := tt_0 rfl
theorem tt_cl {nx : Nat} {x y : Int64} : zdg S j (i_cl nx) ls (.long y :: .long x :: st) I J k = zd S j nx ls (.int (lg_cmp x y) :: st) I J k := tt_0 rfl
theorem tt_f1 {p : Int32 → Prop} {f : Int32 → Bool} {tg nx : Nat} {x : Int32} (d : Decidable (p x)) (hf : f x = decide (p x)) : zdg S j (i_f1 f tg nx) ls (.int x :: st) I J k = if p x then zd S j tg ls st I J k else zd S j nx ls st I J k := by
  by_cases hp : p x
  · rw [if_pos hp]
    exact tt_0 (by unfold i_f1; dsimp only; rw [hf, decide_eq_true hp]; rfl)
  · rw [if_neg hp]
    exact tt_0 (by unfold i_f1; dsimp only; rw [hf, decide_eq_false hp]; rfl)
theorem tt_f2 {p : Int32 → Int32 → Prop} {f : Int32 → Int32 → Bool} {tg nx : Nat} {x y : Int32} (d : Decidable (p x y)) (hf : f x y = decide (p x y)) : zdg S j (i_f2 f tg nx) ls (.int y :: .int x :: st) I J k = if p x y then zd S j tg ls st I J k else zd S j nx ls st I J k := by
  by_cases hp : p x y
  · rw [if_pos hp]
    exact tt_0 (by unfold i_f2; dsimp only; rw [hf, decide_eq_true hp]; rfl)
  · rw [if_neg hp]
    exact tt_0 (by unfold i_f2; dsimp only; rw [hf, decide_eq_false hp]; rfl)
theorem tt_go {tg : Nat} : zdg S j (i_go tg) ls st I J k = zd S j tg ls st I J k := tt_0 rfl
theorem tt_tsO {lo hi : Int} {tg : List Nat} {d : Nat} {x : Int32} (hx : x.toInt < lo ∨ hi < x.toInt) : zdg S j (i_ts lo hi tg d) ls (.int x :: st) I J k = zd S j d ls st I J k := tt_0 (by unfold i_ts; dsimp only; rw [if_pos hx])
theorem tt_tsI {lo hi : Int} {tg : List Nat} {d t : Nat} {x : Int32} (hx : ¬ (x.toInt < lo ∨ hi < x.toInt)) (ht : tg[(x.toInt - lo).toNat]? = some t) : zdg S j (i_ts lo hi tg d) ls (.int x :: st) I J k = zd S j t ls st I J k := tt_0 (by unfold i_ts; dsimp only; rw [if_neg hx, ht])
theorem tt_dup {v : Value} {nx : Nat} (hc : Nat.beq v.category 1 = true) : zdg S j (i_dup nx) ls (v :: st) I J k = zd S j nx ls (v :: v :: st) I J k := tt_0 (by unfold i_dup; dsimp only; rw [if_pos (Nat.eq_of_beq_eq_true hc)])
theorem tt_pop {v : Value} {nx : Nat} (hc : Nat.beq v.category 1 = true) : zdg S j (i_pop nx) ls (v :: st) I J k = zd S j nx ls st I J k := tt_0 (by unfold i_pop; dsimp only; rw [if_pos (Nat.eq_of_beq_eq_true hc)])
theorem tt_d2 {v u : Value} {nx : Nat} (hc : Nat.beq v.category 1 = true) (hc2 : Nat.beq u.category 1 = true) : zdg S j (i_d2 nx) ls (v :: u :: st) I J k = zd S j nx ls (v :: u :: v :: u :: st) I J k := tt_0 (by unfold i_d2; dsimp only; rw [if_pos ⟨Nat.eq_of_beq_eq_true hc, Nat.eq_of_beq_eq_true hc2⟩])
/-- fields -/
theorem tt_gf {ci q nx a : Nat} {fl : List (Nat × Nat)} {x : Nat × Nat} (hs : zShL[a]? = some (.inl (ci, fl))) (hx : fl[q]? = some x) : zdg S j (i_gf ci q nx) ls (.ref a :: st) I J k = zd S j nx ls (fv I J a q x :: st) I J k := tt_0 (by
  unfold i_gf
  dsimp only
  rw [mk_get hs]
  have := fvs_get I J a fl 0 q x hx
  rw [Nat.zero_add] at this
  show (if ci = ci then _ else none) = _
  rw [if_pos rfl, this])
theorem tt_gi {ci q nx a y : Nat} {fl : List (Nat × Nat)} (hs : zShL[a]? = some (.inl (ci, fl))) (hx : fl[q]? = some (0, y)) : zdg S j (i_gf ci q nx) ls (.ref a :: st) I J k = zd S j nx ls (.int (I a q) :: st) I J k := tt_gf hs hx
theorem tt_gj {ci q nx a y : Nat} {fl : List (Nat × Nat)} (hs : zShL[a]? = some (.inl (ci, fl))) (hx : fl[q]? = some (1, y)) : zdg S j (i_gf ci q nx) ls (.ref a :: st) I J k = zd S j nx ls (.long (J a q) :: st) I J k := tt_gf hs hx
theorem tt_gr {ci q nx a y : Nat} {fl : List (Nat × Nat)} (hs : zShL[a]? = some (.inl (ci, fl))) (hx : fl[q]? = some (2, y)) : zdg S j (i_gf ci q nx) ls (.ref a :: st) I J k = zd S j nx ls (.ref y :: st) I J k := tt_gf hs hx
theorem tt_pi {ci q nx a y : Nat} {fl : List (Nat × Nat)} {ok : Value → Bool} {x : Int32} (hs : zShL[a]? = some (.inl (ci, fl))) (hx : fl[q]? = some (0, y)) (ho : ok (.int x) = true) : zdg S j (i_pf ci q ok nx) ls (.int x :: .ref a :: st) I J k = zd S j nx ls st (u2 I a q x) J k := tt_m (by
  unfold i_pf
  dsimp only
  rw [mk_get hs]
  show (if ci = ci ∧ q < (fvs I J a 0 fl).length ∧ ok (.int x) = true then _ else none) = _
  rw [if_pos ⟨rfl, by rw [fvs_len]; exact (List.getElem?_eq_some_iff.mp hx).1, ho⟩]
  rw [mk_set (I' := u2 I a q x) (J' := J) hs (by show Sum.inr (ci, fvs (u2 I a q x) J a 0 fl) = _; rw [fvs_setI I J a q x fl 0 q y hx (Nat.zero_add q)]) (fun b hb => uc_n I _ hb) (fun b _ => rfl)])
theorem tt_pj {ci q nx a y : Nat} {fl : List (Nat × Nat)} {ok : Value → Bool} {x : Int64} (hs : zShL[a]? = some (.inl (ci, fl))) (hx : fl[q]? = some (1, y)) (ho : ok (.long x) = true) : zdg S j (i_pf ci q ok nx) ls (.long x :: .ref a :: st) I J k = zd S j nx ls st I (v2 J a q x) k := tt_m (by
  unfold i_pf
  dsimp only
  rw [mk_get hs]
  show (if ci = ci ∧ q < (fvs I J a 0 fl).length ∧ ok (.long x) = true then _ else none) = _
  rw [if_pos ⟨rfl, by rw [fvs_len]; exact (List.getElem?_eq_some_iff.mp hx).1, ho⟩]
  rw [mk_set (I' := I) (J' := v2 J a q x) hs (by show Sum.inr (ci, fvs I (v2 J a q x) a 0 fl) = _; rw [fvs_setJ I J a q x fl 0 q y hx (Nat.zero_add q)]) (fun b _ => rfl) (fun b hb => uc_n J _ hb)])
/-- arrays -/
theorem cel_a {i t n : Nat} (ht : t ≠ 1) : cel I J i (.inr (.inl (t, n))) = .inl (t, n, .inl (I i)) := by
  show (match t with
    | 1 => (Sum.inl (1, n, .inr (.inl (J i))) : va_E)
    | t => .inl (t, n, .inl (I i))) = _
  split
  · exact absurd rfl ht
  · rfl
theorem tt_ga {t n nx a : Nat} {i : Int32} (hs : zShL[a]? = some (.inr (.inl (t, n)))) (ht : Nat.beq t 1 = false) (hi : zin i n = true) : zdg S j (i_ga t nx) ls (.int i :: .ref a :: st) I J k = zd S j nx ls (.int (I a i.toNatClampNeg) :: st) I J k := tt_0 (by
  unfold i_ga
  dsimp only
  rw [mk_get hs, cel_a (Nat.ne_of_beq_eq_false ht)]
  dsimp only
  rw [if_pos ⟨rfl, hi⟩])
theorem tt_gl {n nx a : Nat} {i : Int32} (hs : zShL[a]? = some (.inr (.inl (1, n)))) (hi : zin i n = true) : zdg S j (i_gl nx) ls (.int i :: .ref a :: st) I J k = zd S j nx ls (.long (J a i.toNatClampNeg) :: st) I J k := tt_0 (by
  unfold i_gl
  dsimp only
  rw [mk_get hs]
  show (if 1 = 1 ∧ zin i n = true then _ else none) = _
  rw [if_pos ⟨rfl, hi⟩])
theorem tt_gq {t nx a q : Nat} {rs : List Nat} {i : Int32} (hs : zShL[a]? = some (.inr (.inr (t, rs)))) (hi : zin i rs.length = true) (hq : rs[i.toNatClampNeg]? = some q) : zdg S j (i_gq t nx) ls (.int i :: .ref a :: st) I J k = zd S j nx ls (.ref q :: st) I J k := tt_0 (by
  unfold i_gq
  dsimp only
  rw [mk_get hs]
  show (if t = t ∧ zin i rs.length = true then _ else none) = _
  rw [if_pos ⟨rfl, hi⟩]
  dsimp only
  rw [hq])
theorem tt_pa {t n nx a : Nat} {g : Int32 → Int32} {i x : Int32} (hs : zShL[a]? = some (.inr (.inl (t, n)))) (ht : Nat.beq t 1 = false) (hi : zin i n = true) : zdg S j (i_pa t g nx) ls (.int x :: .int i :: .ref a :: st) I J k = zd S j nx ls st (u2 I a i.toNatClampNeg (g x)) J k := tt_m (by
  unfold i_pa
  dsimp only
  rw [mk_get hs, cel_a (Nat.ne_of_beq_eq_false ht)]
  dsimp only
  rw [if_pos ⟨rfl, hi⟩]
  rw [mk_set (I' := u2 I a i.toNatClampNeg (g x)) (J' := J) hs (by rw [cel_a (Nat.ne_of_beq_eq_false ht)]; unfold u2; rw [uc_s]) (fun b hb => uc_n I _ hb) (fun b _ => rfl)])
theorem tt_pl {n nx a : Nat} {i : Int32} {x : Int64} (hs : zShL[a]? = some (.inr (.inl (1, n)))) (hi : zin i n = true) : zdg S j (i_pl nx) ls (.long x :: .int i :: .ref a :: st) I J k = zd S j nx ls st I (v2 J a i.toNatClampNeg x) k := tt_m (by
  unfold i_pl
  dsimp only
  rw [mk_get hs]
  show (if 1 = 1 ∧ zin i n = true then _ else none) = _
  rw [if_pos ⟨rfl, hi⟩]
  rw [mk_set hs (I' := I) (J' := v2 J a i.toNatClampNeg x) (by show Sum.inl (1, n, Sum.inr (Sum.inl (v2 J a i.toNatClampNeg x a))) = _; unfold v2; rw [uc_s]) (fun b _ => rfl) (fun b hb => uc_n J _ hb)])
theorem tt_le {n nx a : Nat} (hs : zShL[a]? = some (.inr (.inl (0, n)))) : zdg S j (i_le nx) ls (.ref a :: st) I J k = zd S j nx ls (.int (Int32.ofNat n) :: st) I J k := tt_0 (by
  unfold i_le
  dsimp only
  rw [mk_get hs]
  rfl)
theorem tt_mm {b : zK} {f : Int32 → Int32 → Int32} {nx : Nat} {x y : Int32} (hs : Nat.ble ((st.map fun v => v.category).sum) 8 = true) (hb : Nat.ble k.1 b.1 = true) (hb2 : Nat.ble k.2 b.2 = true) : zdg S j (i_mm b f nx) ls (.int y :: .int x :: st) I J k = zd S j nx ls (.int (f x y) :: st) I J k := tt_0 (by
  unfold i_mm
  dsimp only
  rw [if_pos ⟨Nat.le_of_ble_eq_true hs, Nat.le_of_ble_eq_true hb, Nat.le_of_ble_eq_true hb2⟩])
theorem tt_cp {t n0 n1 a q nx : Nat} {n dp sp : Int32} (hq : zShL[q]? = some (.inr (.inl (t, n0)))) (ha : zShL[a]? = some (.inr (.inl (t, n1)))) (ht : t = 0 ∨ t = 2) (h1 : 0 ≤ sp.toInt) (h2 : 0 ≤ dp.toInt) (h3 : 0 ≤ n.toInt) (h4 : sp.toNatClampNeg + n.toNatClampNeg ≤ n0) (h5 : dp.toNatClampNeg + n.toNatClampNeg ≤ n1) (h6 : ∀ i, i < n.toNatClampNeg → zfit t (I q (sp.toNatClampNeg + i)) = true) (hs : Nat.ble ((st.map fun v => v.category).sum) 8 = true) :
    zdg S j (i_cp nx) ls (.int n :: .int dp :: .ref a :: .int sp :: .ref q :: st) I J k = zd S j nx ls st (uc I a (va_cpy (I q) (I a) sp.toNatClampNeg dp.toNatClampNeg n.toNatClampNeg)) J k := tt_m (by
  have ht1 : t ≠ 1 := by omega
  unfold i_cp
  dsimp only
  rw [mk_get hq, mk_get ha, cel_a ht1, cel_a ht1]
  dsimp only
  rw [if_pos ⟨rfl, ht, h1, h2, h3, h4, h5, h6, Nat.le_of_ble_eq_true hs⟩]
  rw [mk_set (I' := uc I a (va_cpy (I q) (I a) sp.toNatClampNeg dp.toNatClampNeg n.toNatClampNeg)) (J' := J) ha (by rw [cel_a ht1, uc_s]) (fun b hb => uc_n I _ hb) (fun b _ => rfl)])
/-- a call with its answer -/
theorem tt_ca {j' n v : Nat} {vs : List Value} {r : Option Value} {I' : zI} {J' : zJ} (h : (zPg S.1 S.2).1 j pc = some (.inr (.inl (j', n, v)))) (hb : Nat.ble k.1 (mBu j).1 = true) (hb2 : Nat.ble k.2 (mBu j).2 = true) (hb' : mBu j' = (0, 0)) (hv : vs.length = n) (hm : Nat.ble (zsl vs).length (mMx j') = true) (hs : Nat.ble ((st.map fun v => v.category).sum) 8 = true) (hr : zrc v (vs.reverse ++ st) n (mk I J) = true) (hq : zq S j' vs I J r I' J') : zd S j pc ls (vs.reverse ++ st) I J k = zd S j (pc + 3) ls (r.toList ++ st) I' J' k := by
  unfold zq at hq
  unfold zd
  have e1 : (vs.reverse ++ st).take n = vs.reverse := by rw [List.take_append_of_le_length (by rw [List.length_reverse]; omega), List.take_of_length_le (by rw [List.length_reverse]; omega)]
  have e2 : (vs.reverse ++ st).drop n = st := by rw [← hv, ← List.length_reverse, List.drop_left]
  have h0' : (zPg S.1 S.2).2.2 j' = (0, 0) := hb'
  have hok : zok ((zPg S.1 S.2).2.2 j) ((zPg S.1 S.2).2.2 j') ((zPg S.1 S.2).2.1 j') n v (vs.reverse ++ st) (mk I J) k = true := by
    rw [h0']
    unfold zok
    rw [e1, e2, List.reverse_reverse, hr]
    have a1 : n ≤ (vs.reverse ++ st).length := by rw [List.length_append, List.length_reverse]; omega
    have a2 : (zsl vs).length ≤ (zPg S.1 S.2).2.1 j' := Nat.le_of_ble_eq_true hm
    have a3 : k.1 + 0 ≤ ((zPg S.1 S.2).2.2 j).1 := Nat.le_of_ble_eq_true hb
    have a4 : k.2 + 0 ≤ ((zPg S.1 S.2).2.2 j).2 := Nat.le_of_ble_eq_true hb2
    rw [decide_eq_true a1, decide_eq_true (Nat.le_of_ble_eq_true hs), decide_eq_true a2, decide_eq_true a3, decide_eq_true a4]
    rfl
  rw [zD_c h hok, e1, e2, List.reverse_reverse, hq, Option.bind_some, h0']
  rfl
theorem tt_cs {j' n : Nat} {vs : List Value} {r : Option Value} {I' : zI} {J' : zJ} (h : (zPg S.1 S.2).1 j pc = some (.inr (.inl (j', n, 0)))) (hb : Nat.ble k.1 (mBu j).1 = true) (hb2 : Nat.ble k.2 (mBu j).2 = true) (hb' : mBu j' = (0, 0)) (hv : vs.length = n) (hm : Nat.ble (zsl vs).length (mMx j') = true) (hs : Nat.ble ((st.map fun v => v.category).sum) 8 = true) (hq : zq S j' vs I J r I' J') : zd S j pc ls (vs.reverse ++ st) I J k = zd S j (pc + 3) ls (r.toList ++ st) I' J' k := tt_ca h hb hb2 hb' hv hm hs rfl hq
theorem tt_cv {j' n ci a : Nat} {fl : List (Nat × Nat)} {As : List Value} {r : Option Value} {I' : zI} {J' : zJ} (h : (zPg S.1 S.2).1 j pc = some (.inr (.inl (j', n, ci + 1)))) (hb : Nat.ble k.1 (mBu j).1 = true) (hb2 : Nat.ble k.2 (mBu j).2 = true) (hb' : mBu j' = (0, 0)) (hv : As.length + 1 = n) (hm : Nat.ble (zsl (.ref a :: As)).length (mMx j') = true) (hs : Nat.ble ((st.map fun v => v.category).sum) 8 = true) (hc : zShL[a]? = some (.inl (ci, fl))) (hq : zq S j' (.ref a :: As) I J r I' J') : zd S j pc ls (As.reverse ++ .ref a :: st) I J k = zd S j (pc + 3) ls (r.toList ++ st) I' J' k := by
  have e : As.reverse ++ .ref a :: st = (Value.ref a :: As).reverse ++ st := by rw [List.reverse_cons, List.append_assoc]; rfl
  rw [e]
  refine tt_ca h hb hb2 hb' hv hm hs ?_ hq
  unfold zrc
  dsimp only
  rw [← e]
  have hd : (As.reverse ++ .ref a :: st).drop (n - 1) = .ref a :: st := by
    rw [show n - 1 = As.reverse.length by rw [List.length_reverse]; omega, List.drop_left]
  rw [hd]
  show (match (mk I J)[a]? with
      | some (.inr (c', _)) => c' == ci
      | _ => false) = true
  rw [mk_get hc]
  exact beq_self_eq_true ci
theorem tt_rv (h : (zPg S.1 S.2).1 j pc = some (.inr (.inr 0))) : zd S j pc ls [] I J k = some (none, mk I J, k) := zD_rv h
theorem tt_r1 {v : Nat} {x : Value} (h : (zPg S.1 S.2).1 j pc = some (.inr (.inr (v + 1)))) (hx : zrt (v + 1) x = true) : zd S j pc ls [x] I J k = some (some x, mk I J, k) := zD_r1 h hx
end ZT
