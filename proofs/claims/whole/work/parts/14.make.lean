/-! The two objects are made. Memory is w, what was there, and l, what is new: references of the new ones are w.length and on. -/
noncomputable def zl (S : Nat × (Nat → Int32)) (j pc : Nat) (ls : zL) (st : List Value) (w l : zM) (k : zK) : Option zR := zD (zPg S.1 S.2) j pc ls st (w ++ l) k
section GG
variable {S : Nat × (Nat → Int32)} {j pc : Nat} {ls : zL} {st : List Value} {w l : zM} {k : zK}
theorem gg_0 {g : zF} {nx : Nat} {ls' : zL} {st' : List Value} (h : (zPg S.1 S.2).1 j pc = some (.inl g)) (hg : ∀ m : zM, g ls st m k = some (nx, ls', st', m, k)) : zl S j pc ls st w l k = zl S j nx ls' st' w l k := zD_i h (hg (w ++ l))
theorem gg_i {g : zF} {nx : Nat} {ls' : zL} {st' : List Value} {l' : zM} {k' : zK} (h : (zPg S.1 S.2).1 j pc = some (.inl g)) (hg : g ls st (w ++ l) k = some (nx, ls', st', w ++ l', k')) : zl S j pc ls st w l k = zl S j nx ls' st' w l' k' := zD_i h hg
theorem gg_at {i : Nat} : (w ++ l)[w.length + i]? = l[i]? := by
  rw [List.getElem?_append_right (Nat.le_add_right _ _), Nat.add_sub_cancel_left]
theorem gg_st {i : Nat} {x : va_E} : (w ++ l).set (w.length + i) x = w ++ l.set i x := by
  rw [List.set_append_right _ _ (Nat.le_add_right _ _), Nat.add_sub_cancel_left]
theorem gg_f2 {f : Int32 → Int32 → Bool} {tg nx : Nat} {x y : Int32} (h : (zPg S.1 S.2).1 j pc = some (.inl (i_f2 f tg nx))) (hf : f x y = false) : zl S j pc ls (.int y :: .int x :: st) w l k = zl S j nx ls st w l k := gg_i h (by unfold i_f2; dsimp only; rw [hf]; rfl)
theorem gg_f2t {f : Int32 → Int32 → Bool} {tg nx : Nat} {x y : Int32} (h : (zPg S.1 S.2).1 j pc = some (.inl (i_f2 f tg nx))) (hf : f x y = true) : zl S j pc ls (.int y :: .int x :: st) w l k = zl S j tg ls st w l k := gg_i h (by unfold i_f2; dsimp only; rw [hf]; rfl)
theorem gg_f2k {m : List Bool} {f : Int32 → Int32 → Bool} {tg nx : Nat} {x y : Int32} {ls' : zL} (h : (zPg S.1 S.2).1 j pc = some (.inl (i_k m (i_f2 f tg nx)))) (hf : f x y = false) (hk : zkl m ls = ls') : zl S j pc ls (.int y :: .int x :: st) w l k = zl S j nx ls' st w l k := gg_i h (by unfold i_k i_f2; dsimp only; rw [hf, hk]; rfl)
theorem gg_gf {i ci q nx : Nat} {fs : List Value} {v : Value} (h : (zPg S.1 S.2).1 j pc = some (.inl (i_gf ci q nx))) (hl : l[i]? = some (.inr (ci, fs))) (hq : fs[q]? = some v) : zl S j pc ls (.ref (w.length + i) :: st) w l k = zl S j nx ls (v :: st) w l k := gg_i h (by
  unfold i_gf
  dsimp only
  rw [gg_at, hl]
  dsimp only
  rw [if_pos rfl, hq])
theorem gg_pf {i ci q nx : Nat} {fs : List Value} {v : Value} {ok : Value → Bool} (h : (zPg S.1 S.2).1 j pc = some (.inl (i_pf ci q ok nx))) (hl : l[i]? = some (.inr (ci, fs))) (hq : Nat.ble (q + 1) fs.length = true) (ho : ok v = true) : zl S j pc ls (v :: .ref (w.length + i) :: st) w l k = zl S j nx ls st w (l.set i (.inr (ci, fs.set q v))) k := gg_i h (by
  unfold i_pf
  dsimp only
  rw [gg_at, hl]
  dsimp only
  rw [if_pos ⟨rfl, Nat.le_of_ble_eq_true hq, ho⟩, gg_st])
theorem gg_na {i t nx N : Nat} {b : zK} {n : Int32} {x : (Nat → Int32) ⊕ (Nat → Int64) ⊕ (Nat → UInt32) ⊕ (Nat → UInt64) ⊕ (Nat → Option Nat)} (h : (zPg S.1 S.2).1 j pc = some (.inl (i_na b t x nx))) (hi : l.length = i) (hn : 0 ≤ n.toInt ∧ n.toInt ≤ 65536) (hN : n.toNatClampNeg = N) (h1 : Nat.ble (k.1 + 1) b.1 = true) (h2 : Nat.ble (k.2 + N) b.2 = true) : zl S j pc ls (.int n :: st) w l k = zl S j nx ls (.ref (w.length + i) :: st) w (l ++ [.inl (t, N, x)]) (k.1 + 1, k.2 + N) := by
  subst hN
  exact gg_i h (by
    unfold i_na
    dsimp only
    rw [if_pos ⟨hn.1, hn.2, Nat.le_of_ble_eq_true h1, Nat.le_of_ble_eq_true h2⟩, List.length_append, hi, List.append_assoc])
theorem gg_nw {i ci N nx : Nat} {b : zK} {fs : List Value} (h : (zPg S.1 S.2).1 j pc = some (.inl (i_nw b ci N fs nx))) (hi : l.length = i) (h1 : Nat.ble (k.1 + 1) b.1 = true) (h2 : Nat.ble (k.2 + N) b.2 = true) : zl S j pc ls st w l k = zl S j nx ls (.ref (w.length + i) :: st) w (l ++ [.inr (ci, fs)]) (k.1 + 1, k.2 + N) := gg_i h (by
  unfold i_nw
  rw [if_pos ⟨Nat.le_of_ble_eq_true h1, Nat.le_of_ble_eq_true h2⟩, List.length_append, hi, List.append_assoc])
theorem gg_pq {i q t ci nx n N : Nat} {x : Int32} {f : Nat → Option Nat} {fs : List Value} (h : (zPg S.1 S.2).1 j pc = some (.inl (i_pq t ci nx))) (hl : l[i]? = some (.inl (t, n, .inr (.inr (.inr (.inr f)))))) (hq : l[q]? = some (.inr (ci, fs))) (hx : zin x n = true) (hN : x.toNatClampNeg = N) : zl S j pc ls (.ref (w.length + q) :: .int x :: .ref (w.length + i) :: st) w l k = zl S j nx ls st w (l.set i (.inl (t, n, .inr (.inr (.inr (.inr (va_up f N (some (w.length + q))))))))) k := by
  subst hN
  exact gg_i h (by
    unfold i_pq
    dsimp only
    rw [gg_at, gg_at, hl, hq]
    dsimp only
    rw [if_pos ⟨rfl, rfl, hx⟩, gg_st])
theorem gg_oi {nx a : Nat} (h : (zPg S.1 S.2).1 j pc = some (.inl (i_oi nx))) (hs : Nat.ble ((st.map fun v => v.category).sum) 8 = true) : zl S j pc ls (.ref a :: st) w l k = zl S j nx ls st w l k := gg_i h (by
  unfold i_oi
  dsimp only
  rw [if_pos (Nat.le_of_ble_eq_true hs)])
theorem gg_cs {j' n : Nat} {vs : List Value} {r : Option Value} {m' : zM} (h : (zPg S.1 S.2).1 j pc = some (.inr (.inl (j', n, 0)))) (hb' : mBu j' = (0, 0)) (hv : vs.length = n) (hm : Nat.ble (zsl vs).length (mMx j') = true) (hs : Nat.ble ((st.map fun v => v.category).sum) 8 = true) (h1 : Nat.ble k.1 (mBu j).1 = true) (h2 : Nat.ble k.2 (mBu j).2 = true) (hq : zm (zPg S.1 S.2) j' vs (w ++ l) = some (r, m')) : zl S j pc ls (vs.reverse ++ st) w l k = zD (zPg S.1 S.2) j (pc + 3) ls (r.toList ++ st) m' k := by
  unfold zl
  have e1 : (vs.reverse ++ st).take n = vs.reverse := by rw [List.take_append_of_le_length (by rw [List.length_reverse]; omega), List.take_of_length_le (by rw [List.length_reverse]; omega)]
  have e2 : (vs.reverse ++ st).drop n = st := by rw [← hv, ← List.length_reverse, List.drop_left]
  have h0' : (zPg S.1 S.2).2.2 j' = (0, 0) := hb'
  have hok : zok ((zPg S.1 S.2).2.2 j) ((zPg S.1 S.2).2.2 j') ((zPg S.1 S.2).2.1 j') n 0 (vs.reverse ++ st) (w ++ l) k = true := by
    rw [h0']
    unfold zok
    rw [e1, e2, List.reverse_reverse]
    have a1 : n ≤ (vs.reverse ++ st).length := by rw [List.length_append, List.length_reverse]; omega
    have a2 : (zsl vs).length ≤ (zPg S.1 S.2).2.1 j' := Nat.le_of_ble_eq_true hm
    have a3 : k.1 + 0 ≤ ((zPg S.1 S.2).2.2 j).1 := Nat.le_of_ble_eq_true h1
    have a4 : k.2 + 0 ≤ ((zPg S.1 S.2).2.2 j).2 := Nat.le_of_ble_eq_true h2
    rw [decide_eq_true a1, decide_eq_true (Nat.le_of_ble_eq_true hs), decide_eq_true a2, decide_eq_true a3, decide_eq_true a4]
    rfl
  rw [zD_c h hok, e1, e2, List.reverse_reverse, hq, Option.bind_some, h0']
  rfl
theorem gg_cc {j' n ci i : Nat} {As : List Value} {l0 : zM} {fs : List Value} {out : Nat → zM} (h : (zPg S.1 S.2).1 j pc = some (.inr (.inl (j', n, ci + 1)))) (hi : l0.length = i) (hm : ∀ w' : zM, zm (zPg S.1 S.2) j' (.ref w'.length :: As) (w' ++ [.inr (ci, fs)]) = some (none, w' ++ out w'.length)) (hn : As.length + 1 = n) (hz : Nat.ble (zsl As).length.succ (mMx j') = true) (hs : Nat.ble ((st.map fun v => v.category).sum) 8 = true) (h1 : Nat.ble (k.1 + (mBu j').1) (mBu j).1 = true) (h2 : Nat.ble (k.2 + (mBu j').2) (mBu j).2 = true) :
    zl S j pc ls (As.reverse ++ .ref (w.length + i) :: st) w (l0 ++ [.inr (ci, fs)]) k = zl S j (pc + 3) ls st w (l0 ++ out (w.length + i)) (k.1 + (mBu j').1, k.2 + (mBu j').2) := by
  have e : As.reverse ++ .ref (w.length + i) :: st = (Value.ref (w.length + i) :: As).reverse ++ st := by rw [List.reverse_cons, List.append_assoc]; rfl
  have e1 : ((Value.ref (w.length + i) :: As).reverse ++ st).take n = (Value.ref (w.length + i) :: As).reverse := by rw [List.take_append_of_le_length (by rw [List.length_reverse, List.length_cons]; omega), List.take_of_length_le (by rw [List.length_reverse, List.length_cons]; omega)]
  have e2 : ((Value.ref (w.length + i) :: As).reverse ++ st).drop n = st := by
    rw [show n = (Value.ref (w.length + i) :: As).reverse.length by rw [List.length_reverse, List.length_cons]; omega, List.drop_left]
  have e3 : w ++ (l0 ++ [.inr (ci, fs)]) = (w ++ l0) ++ [.inr (ci, fs)] := (List.append_assoc _ _ _).symm
  have e4 : (w ++ l0).length = w.length + i := by rw [List.length_append, hi]
  have hok : zok ((zPg S.1 S.2).2.2 j) ((zPg S.1 S.2).2.2 j') ((zPg S.1 S.2).2.1 j') n (ci + 1) ((Value.ref (w.length + i) :: As).reverse ++ st) (w ++ (l0 ++ [.inr (ci, fs)])) k = true := by
    unfold zok
    rw [e1, e2, List.reverse_reverse]
    have a1 : n ≤ ((Value.ref (w.length + i) :: As).reverse ++ st).length := by rw [List.length_append, List.length_reverse, List.length_cons]; omega
    have a2 : (zsl (Value.ref (w.length + i) :: As)).length ≤ (zPg S.1 S.2).2.1 j' := Nat.le_of_ble_eq_true hz
    have a3 : k.1 + ((zPg S.1 S.2).2.2 j').1 ≤ ((zPg S.1 S.2).2.2 j).1 := Nat.le_of_ble_eq_true h1
    have a4 : k.2 + ((zPg S.1 S.2).2.2 j').2 ≤ ((zPg S.1 S.2).2.2 j).2 := Nat.le_of_ble_eq_true h2
    have a5 : zrc (ci + 1) ((Value.ref (w.length + i) :: As).reverse ++ st) n (w ++ (l0 ++ [.inr (ci, fs)])) = true := by
      unfold zrc
      dsimp only
      rw [← e]
      have hd : (As.reverse ++ .ref (w.length + i) :: st).drop (n - 1) = .ref (w.length + i) :: st := by
        rw [show n - 1 = As.reverse.length by rw [List.length_reverse]; omega, List.drop_left]
      rw [hd]
      show (match (w ++ (l0 ++ [(Sum.inr (ci, fs) : va_E)]))[w.length + i]? with
        | some (.inr (c', _)) => c' == ci
        | _ => false) = true
      rw [gg_at, List.getElem?_append_right (by omega), hi, Nat.sub_self]
      exact beq_self_eq_true ci
    rw [decide_eq_true a1, a5, decide_eq_true (Nat.le_of_ble_eq_true hs), decide_eq_true a2, decide_eq_true a3, decide_eq_true a4]
    rfl
  unfold zl
  rw [e, zD_c h hok, e1, e2, List.reverse_reverse, e3, ← e4, hm (w ++ l0), Option.bind_some, List.append_assoc]
  rfl
theorem gg_ph {ci q nx : Nat} {fs fs' : List Value} {v : Value} {ok : Value → Bool} {t : zM} (h : (zPg S.1 S.2).1 j pc = some (.inl (i_pf ci q ok nx))) (hq : Nat.ble (q + 1) fs.length = true) (ho : ok v = true) (he : fs.set q v = fs') : zl S j pc ls (v :: .ref (w.length + 0) :: st) w (.inr (ci, fs) :: t) k = zl S j nx ls st w (.inr (ci, fs') :: t) k := by
  subst he
  exact gg_pf (i := 0) h rfl hq ho
theorem gg_nh {i t nx N : Nat} {b : zK} {n : Int32} {x : (Nat → Int32) ⊕ (Nat → Int64) ⊕ (Nat → UInt32) ⊕ (Nat → UInt64) ⊕ (Nat → Option Nat)} {a : va_E} {u : zM} (h : (zPg S.1 S.2).1 j pc = some (.inl (i_na b t x nx))) (hi : u.length + 1 = i) (hn : 0 ≤ n.toInt ∧ n.toInt ≤ 65536) (hN : n.toNatClampNeg = N) (h1 : Nat.ble (k.1 + 1) b.1 = true) (h2 : Nat.ble (k.2 + N) b.2 = true) : zl S j pc ls (.int n :: st) w (a :: u) k = zl S j nx ls (.ref (w.length + i) :: st) w (a :: (u ++ [.inl (t, N, x)])) (k.1 + 1, k.2 + N) := gg_na h hi hn hN h1 h2
theorem gg_wh {i ci N nx : Nat} {b : zK} {fs : List Value} {a : va_E} {u : zM} (h : (zPg S.1 S.2).1 j pc = some (.inl (i_nw b ci N fs nx))) (hi : u.length + 1 = i) (h1 : Nat.ble (k.1 + 1) b.1 = true) (h2 : Nat.ble (k.2 + N) b.2 = true) : zl S j pc ls st w (a :: u) k = zl S j nx ls (.ref (w.length + i) :: st) w (a :: (u ++ [.inr (ci, fs)])) (k.1 + 1, k.2 + N) := gg_nw h hi h1 h2
theorem gg_ch {j' n ci i : Nat} {As : List Value} {a : va_E} {u : zM} {fs : List Value} {out : Nat → zM} (h : (zPg S.1 S.2).1 j pc = some (.inr (.inl (j', n, ci + 1)))) (hi : u.length + 1 = i) (hm : ∀ w' : zM, zm (zPg S.1 S.2) j' (.ref w'.length :: As) (w' ++ [.inr (ci, fs)]) = some (none, w' ++ out w'.length)) (hn : As.length + 1 = n) (hz : Nat.ble (zsl As).length.succ (mMx j') = true) (hs : Nat.ble ((st.map fun v => v.category).sum) 8 = true) (h1 : Nat.ble (k.1 + (mBu j').1) (mBu j).1 = true) (h2 : Nat.ble (k.2 + (mBu j').2) (mBu j).2 = true) :
    zl S j pc ls (As.reverse ++ .ref (w.length + i) :: st) w (a :: (u ++ [.inr (ci, fs)])) k = zl S j (pc + 3) ls st w (a :: (u ++ out (w.length + i))) (k.1 + (mBu j').1, k.2 + (mBu j').2) := gg_cc (l0 := a :: u) h hi hm hn hz hs h1 h2
end GG
theorem set_same {w : zM} {a : Nat} {x : va_E} (h : w[a]? = some x) : w.set a x = w := by
  refine List.ext_getElem? fun i => ?_
  by_cases hi : a = i
  · subst hi
    rw [List.getElem?_set_self (List.getElem?_eq_some_iff.mp h).1, h]
  · rw [List.getElem?_set_ne hi]
/-- an array is filled -/
theorem zfill (S : Nat × (Nat → Int32)) (a n : Nat) (v : Int32) (hn : n < 2 ^ 31) : ∀ (m i : Nat) (f : Nat → Int32) (w : zM), n = i + m → w[a]? = some (.inl (0, n, .inl f)) → zD (zPg S.1 S.2) 149 5 [some (.ref a), some (.int v), some (.int (nI i)), some (.int (nI n))] [] w (0, 0) = some (none, w.set a (.inl (0, n, .inl (fun q => if i ≤ q ∧ q < n then v else f q))), (0, 0)) := by
  intro m
  induction m with
  | zero =>
    intro i f w hm hw
    have hni : n = i := by omega
    refine (zD_i rfl rfl).trans ?_
    refine (zD_i rfl rfl).trans ?_
    refine (zD_i (c := (20, _, [], w, (0, 0))) rfl (by unfold i_f2; dsimp only; rw [decide_eq_true (nI_le (by omega) (by omega))]; rfl)).trans ?_
    refine (zD_rv rfl).trans ?_
    have : (fun q => if i ≤ q ∧ q < n then v else f q) = f := by
      funext q
      rw [if_neg (by omega)]
    rw [this, set_same hw]
  | succ m ih =>
    intro i f w hm hw
    have hl : a < w.length := (List.getElem?_eq_some_iff.mp hw).1
    refine (zD_i rfl rfl).trans ?_
    refine (zD_i rfl rfl).trans ?_
    refine (zD_i (c := (10, _, [], w, (0, 0))) rfl (by unfold i_f2; dsimp only; rw [decide_eq_false (nI_ge (by omega) (by omega))]; rfl)).trans ?_
    refine (zD_i rfl rfl).trans ?_
    refine (zD_i rfl rfl).trans ?_
    refine (zD_i rfl rfl).trans ?_
    refine (zD_i (c := (14, _, [], w.set a (.inl (0, n, .inl (upd f i v))), (0, 0))) rfl (by
      unfold i_pa
      dsimp only
      rw [hw]
      dsimp only
      rw [if_pos ⟨rfl, zin_n (by omega) hn⟩, nI_clamp (by omega)])).trans ?_
    refine (zD_i rfl rfl).trans ?_
    refine (zD_i rfl rfl).trans ?_
    have h1 := ih (i + 1) (upd f i v) (w.set a (.inl (0, n, .inl (upd f i v)))) (by omega) (List.getElem?_set_self hl)
    rw [← nI_1] at h1
    refine h1.trans ?_
    have e : (fun q => if i + 1 ≤ q ∧ q < n then v else upd f i v q) = (fun q => if i ≤ q ∧ q < n then v else f q) := by
      funext q
      unfold upd
      by_cases hq : q = i
      · subst hq
        rw [if_neg (by omega), if_pos rfl, if_pos (by omega)]
      · by_cases h2 : i ≤ q ∧ q < n
        · rw [if_pos (by omega), if_pos h2]
        · rw [if_neg (by omega), if_neg hq, if_neg h2]
    rw [List.set_set, e]
theorem zfill0 (S : Nat × (Nat → Int32)) {a n : Nat} {v : Int32} (hn : n < 2 ^ 31) {f : Nat → Int32} {w : zM} (hw : w[a]? = some (.inl (0, n, .inl f))) : zm (zPg S.1 S.2) 149 [.ref a, .int v] w = some (none, w.set a (.inl (0, n, .inl (fun q => if q < n then v else f q)))) := by
  have key : zD (zPg S.1 S.2) 149 0 [some (.ref a), some (.int v), none, none] [] w (0, 0) = some (none, w.set a (.inl (0, n, .inl (fun q => if q < n then v else f q))), (0, 0)) := by
    refine (zD_i rfl rfl).trans ?_
    refine (zD_i rfl rfl).trans ?_
    refine (zD_i rfl rfl).trans ?_
    refine (zD_i (c := (4, _, [.int (nI n)], w, (0, 0))) rfl (by
      unfold i_le
      dsimp only
      rw [hw]
      rfl)).trans ?_
    refine (zD_i rfl rfl).trans ?_
    have := zfill S a n v hn n 0 f w (by omega) hw
    have e : (fun q => if 0 ≤ q ∧ q < n then v else f q) = (fun q => if q < n then v else f q) := by
      funext q
      by_cases h : q < n
      · rw [if_pos ⟨Nat.zero_le _, h⟩, if_pos h]
      · rw [if_neg (by omega), if_neg h]
    rw [e] at this
    exact this
  unfold zm
  show (zD (zPg S.1 S.2) 149 0 [some (.ref a), some (.int v), none, none] [] w (0, 0)).bind _ = _
  rw [key]
  rfl
theorem zwithin (S : Nat × (Nat → Int32)) (v a b : Int32) (w : zM) : zm (zPg S.1 S.2) 18 [.int v, .int a, .int b] w = some (some (.int (if a < (if v < b then v else b) then (if v < b then v else b) else a)), w) := by
  have key : zD (zPg S.1 S.2) 18 0 [some (.int v), some (.int a), some (.int b)] [] w (0, 0) = some (some (.int (if a < (if v < b then v else b) then (if v < b then v else b) else a)), w, (0, 0)) := by
    refine (zD_i rfl rfl).trans ?_
    refine (zD_i rfl rfl).trans ?_
    refine (zD_i rfl rfl).trans ?_
    refine (zD_i rfl rfl).trans ?_
    refine (zD_i rfl rfl).trans ?_
    exact zD_r1 rfl rfl
  unfold zm
  show (zD (zPg S.1 S.2) 18 0 [some (.int v), some (.int a), some (.int b)] [] w (0, 0)).bind _ = _
  rw [key]
  rfl
def mo4 (n : Nat) : zM := [.inr (4, [.ref (n + 1), .int 0, .int 0, .int 0, .int 0, .int 0, .int 0, .int 0]),
  .inl (0, 4, .inl (fun _ => 0))]
set_option maxHeartbeats 4000000 in
theorem mc4 (S : Nat × (Nat → Int32)) (w : zM) : zm (zPg S.1 S.2) 47 [.ref w.length] (w ++ [.inr (4, [.null, .int 0, .int 0, .int 0, .int 0, .int 0, .int 0, .int 0])]) = some (none, w ++ mo4 w.length) := by
  have key : zl S 47 0 [some (.ref (w.length + 0))] [] w [.inr (4, [.null, .int 0, .int 0, .int 0, .int 0, .int 0, .int 0, .int 0])] (0, 0) = some (none, w ++ mo4 w.length, mBu 47) := by
    refine (gg_0 rfl (fun _ => rfl)).trans ?_
    refine (gg_oi rfl rfl).trans ?_
    refine (gg_0 rfl (fun _ => rfl)).trans ?_
    refine (gg_0 rfl (fun _ => rfl)).trans ?_
    refine (gg_na (i := 1) (N := 4) rfl rfl (by decide) rfl rfl rfl).trans ?_
    refine (gg_pf (i := 0) rfl rfl rfl rfl).trans ?_
    exact (zD_rv rfl).trans rfl
  unfold zm
  show (zl S 47 0 [some (.ref (w.length + 0))] [] w [.inr (4, [.null, .int 0, .int 0, .int 0, .int 0, .int 0, .int 0, .int 0])] (0, 0)).bind _ = _
  rw [key]
  rfl
def mo9 (n : Nat) (a1 : Int32) : zM := [.inr (9, [.int a1, .ref (n + 1), .ref (n + 2), .ref (n + 3), .ref (n + 4), .ref (n + 5), .ref (n + 6), .ref (n + 7), .int 0, .int 0, .int 0, .int 0, .int 0, .int 0, .int 0, .int 0, .int 0, .long 0]),
  .inl (0, 4, .inl (fun _ => 0)),
  .inl (0, 4, .inl (fun _ => 0)),
  .inl (0, 4, .inl (fun _ => 0)),
  .inl (0, 40, .inl (fun _ => 0)),
  .inl (0, 40, .inl (fun _ => 0)),
  .inl (0, 40, .inl (fun _ => 0)),
  .inl (5, 2, .inr (.inr (.inr (.inr (va_up (va_up (fun _ => none) 0 (some (n + 8))) 1 (some (n + 10))))))),
  .inr (4, [.ref (n + 9), .int 0, .int 0, .int 0, .int 0, .int 0, .int 0, .int 0]),
  .inl (0, 4, .inl (fun _ => 0)),
  .inr (4, [.ref (n + 11), .int 0, .int 0, .int 0, .int 0, .int 0, .int 0, .int 0]),
  .inl (0, 4, .inl (fun _ => 0))]
set_option maxHeartbeats 4000000 in
theorem mc9 (S : Nat × (Nat → Int32)) (w : zM) (a1 : Int32) : zm (zPg S.1 S.2) 88 [.ref w.length, .int a1] (w ++ [.inr (9, [.int 0, .null, .null, .null, .null, .null, .null, .null, .int 0, .int 0, .int 0, .int 0, .int 0, .int 0, .int 0, .int 0, .int 0, .long 0])]) = some (none, w ++ mo9 w.length a1) := by
  have key : zl S 88 0 [some (.ref (w.length + 0)), some (.int a1)] [] w [.inr (9, [.int 0, .null, .null, .null, .null, .null, .null, .null, .int 0, .int 0, .int 0, .int 0, .int 0, .int 0, .int 0, .int 0, .int 0, .long 0])] (0, 0) = some (none, w ++ mo9 w.length a1, mBu 88) := by
    refine (gg_0 rfl (fun _ => rfl)).trans ?_
    refine (gg_oi rfl rfl).trans ?_
    refine (gg_0 rfl (fun _ => rfl)).trans ?_
    refine (gg_0 rfl (fun _ => rfl)).trans ?_
    refine (gg_na (i := 1) (N := 4) rfl rfl (by decide) rfl rfl rfl).trans ?_
    refine (gg_pf (i := 0) rfl rfl rfl rfl).trans ?_
    refine (gg_0 rfl (fun _ => rfl)).trans ?_
    refine (gg_0 rfl (fun _ => rfl)).trans ?_
    refine (gg_na (i := 2) (N := 4) rfl rfl (by decide) rfl rfl rfl).trans ?_
    refine (gg_pf (i := 0) rfl rfl rfl rfl).trans ?_
    refine (gg_0 rfl (fun _ => rfl)).trans ?_
    refine (gg_0 rfl (fun _ => rfl)).trans ?_
    refine (gg_na (i := 3) (N := 4) rfl rfl (by decide) rfl rfl rfl).trans ?_
    refine (gg_pf (i := 0) rfl rfl rfl rfl).trans ?_
    refine (gg_0 rfl (fun _ => rfl)).trans ?_
    refine (gg_0 rfl (fun _ => rfl)).trans ?_
    refine (gg_na (i := 4) (N := 40) rfl rfl (by decide) rfl rfl rfl).trans ?_
    refine (gg_pf (i := 0) rfl rfl rfl rfl).trans ?_
    refine (gg_0 rfl (fun _ => rfl)).trans ?_
    refine (gg_0 rfl (fun _ => rfl)).trans ?_
    refine (gg_na (i := 5) (N := 40) rfl rfl (by decide) rfl rfl rfl).trans ?_
    refine (gg_pf (i := 0) rfl rfl rfl rfl).trans ?_
    refine (gg_0 rfl (fun _ => rfl)).trans ?_
    refine (gg_0 rfl (fun _ => rfl)).trans ?_
    refine (gg_na (i := 6) (N := 40) rfl rfl (by decide) rfl rfl rfl).trans ?_
    refine (gg_pf (i := 0) rfl rfl rfl rfl).trans ?_
    refine (gg_0 rfl (fun _ => rfl)).trans ?_
    refine (gg_0 rfl (fun _ => rfl)).trans ?_
    refine (gg_na (i := 7) (N := 2) rfl rfl (by decide) rfl rfl rfl).trans ?_
    refine (gg_0 rfl (fun _ => rfl)).trans ?_
    refine (gg_0 rfl (fun _ => rfl)).trans ?_
    refine (gg_nw (i := 8) rfl rfl rfl rfl).trans ?_
    refine (gg_0 rfl (fun _ => rfl)).trans ?_
    refine (gg_cc (i := 8) (As := []) (out := fun n => mo4 n) rfl rfl (fun w' => mc4 S w') rfl rfl rfl rfl rfl).trans ?_
    refine (gg_pq (i := 7) (q := 8) (N := 0) rfl rfl rfl (by decide) (by decide)).trans ?_
    refine (gg_0 rfl (fun _ => rfl)).trans ?_
    refine (gg_0 rfl (fun _ => rfl)).trans ?_
    refine (gg_nw (i := 10) rfl rfl rfl rfl).trans ?_
    refine (gg_0 rfl (fun _ => rfl)).trans ?_
    refine (gg_cc (i := 10) (As := []) (out := fun n => mo4 n) rfl rfl (fun w' => mc4 S w') rfl rfl rfl rfl rfl).trans ?_
    refine (gg_pq (i := 7) (q := 10) (N := 1) rfl rfl rfl (by decide) (by decide)).trans ?_
    refine (gg_pf (i := 0) rfl rfl rfl rfl).trans ?_
    refine (gg_0 rfl (fun _ => rfl)).trans ?_
    refine (gg_0 rfl (fun _ => rfl)).trans ?_
    refine (gg_pf (i := 0) rfl rfl rfl rfl).trans ?_
    exact (zD_rv rfl).trans rfl
  unfold zm
  show (zl S 88 0 [some (.ref (w.length + 0)), some (.int a1)] [] w [.inr (9, [.int 0, .null, .null, .null, .null, .null, .null, .null, .int 0, .int 0, .int 0, .int 0, .int 0, .int 0, .int 0, .int 0, .int 0, .long 0])] (0, 0)).bind _ = _
  rw [key]
  rfl
def mo7 (n : Nat) : zM := [.inr (7, [.ref (n + 1), .ref (n + 2), .int 0, .int 0, .int 0, .int (-1)]),
  .inl (2, 480, .inl (fun _ => 0)),
  .inl (4, 4, .inr (.inr (.inr (.inr (va_up (va_up (va_up (va_up (fun _ => none) 0 (some (n + 3))) 1 (some (n + 15))) 2 (some (n + 27))) 3 (some (n + 39))))))),
  .inr (9, [.int 0, .ref (n + 4), .ref (n + 5), .ref (n + 6), .ref (n + 7), .ref (n + 8), .ref (n + 9), .ref (n + 10), .int 0, .int 0, .int 0, .int 0, .int 0, .int 0, .int 0, .int 0, .int 0, .long 0]),
  .inl (0, 4, .inl (fun _ => 0)),
  .inl (0, 4, .inl (fun _ => 0)),
  .inl (0, 4, .inl (fun _ => 0)),
  .inl (0, 40, .inl (fun _ => 0)),
  .inl (0, 40, .inl (fun _ => 0)),
  .inl (0, 40, .inl (fun _ => 0)),
  .inl (5, 2, .inr (.inr (.inr (.inr (va_up (va_up (fun _ => none) 0 (some (n + 11))) 1 (some (n + 13))))))),
  .inr (4, [.ref (n + 12), .int 0, .int 0, .int 0, .int 0, .int 0, .int 0, .int 0]),
  .inl (0, 4, .inl (fun _ => 0)),
  .inr (4, [.ref (n + 14), .int 0, .int 0, .int 0, .int 0, .int 0, .int 0, .int 0]),
  .inl (0, 4, .inl (fun _ => 0)),
  .inr (9, [.int (0 + 1), .ref (n + 16), .ref (n + 17), .ref (n + 18), .ref (n + 19), .ref (n + 20), .ref (n + 21), .ref (n + 22), .int 0, .int 0, .int 0, .int 0, .int 0, .int 0, .int 0, .int 0, .int 0, .long 0]),
  .inl (0, 4, .inl (fun _ => 0)),
  .inl (0, 4, .inl (fun _ => 0)),
  .inl (0, 4, .inl (fun _ => 0)),
  .inl (0, 40, .inl (fun _ => 0)),
  .inl (0, 40, .inl (fun _ => 0)),
  .inl (0, 40, .inl (fun _ => 0)),
  .inl (5, 2, .inr (.inr (.inr (.inr (va_up (va_up (fun _ => none) 0 (some (n + 23))) 1 (some (n + 25))))))),
  .inr (4, [.ref (n + 24), .int 0, .int 0, .int 0, .int 0, .int 0, .int 0, .int 0]),
  .inl (0, 4, .inl (fun _ => 0)),
  .inr (4, [.ref (n + 26), .int 0, .int 0, .int 0, .int 0, .int 0, .int 0, .int 0]),
  .inl (0, 4, .inl (fun _ => 0)),
  .inr (9, [.int ((0 + 1) + 1), .ref (n + 28), .ref (n + 29), .ref (n + 30), .ref (n + 31), .ref (n + 32), .ref (n + 33), .ref (n + 34), .int 0, .int 0, .int 0, .int 0, .int 0, .int 0, .int 0, .int 0, .int 0, .long 0]),
  .inl (0, 4, .inl (fun _ => 0)),
  .inl (0, 4, .inl (fun _ => 0)),
  .inl (0, 4, .inl (fun _ => 0)),
  .inl (0, 40, .inl (fun _ => 0)),
  .inl (0, 40, .inl (fun _ => 0)),
  .inl (0, 40, .inl (fun _ => 0)),
  .inl (5, 2, .inr (.inr (.inr (.inr (va_up (va_up (fun _ => none) 0 (some (n + 35))) 1 (some (n + 37))))))),
  .inr (4, [.ref (n + 36), .int 0, .int 0, .int 0, .int 0, .int 0, .int 0, .int 0]),
  .inl (0, 4, .inl (fun _ => 0)),
  .inr (4, [.ref (n + 38), .int 0, .int 0, .int 0, .int 0, .int 0, .int 0, .int 0]),
  .inl (0, 4, .inl (fun _ => 0)),
  .inr (9, [.int (((0 + 1) + 1) + 1), .ref (n + 40), .ref (n + 41), .ref (n + 42), .ref (n + 43), .ref (n + 44), .ref (n + 45), .ref (n + 46), .int 0, .int 0, .int 0, .int 0, .int 0, .int 0, .int 0, .int 0, .int 0, .long 0]),
  .inl (0, 4, .inl (fun _ => 0)),
  .inl (0, 4, .inl (fun _ => 0)),
  .inl (0, 4, .inl (fun _ => 0)),
  .inl (0, 40, .inl (fun _ => 0)),
  .inl (0, 40, .inl (fun _ => 0)),
  .inl (0, 40, .inl (fun _ => 0)),
  .inl (5, 2, .inr (.inr (.inr (.inr (va_up (va_up (fun _ => none) 0 (some (n + 47))) 1 (some (n + 49))))))),
  .inr (4, [.ref (n + 48), .int 0, .int 0, .int 0, .int 0, .int 0, .int 0, .int 0]),
  .inl (0, 4, .inl (fun _ => 0)),
  .inr (4, [.ref (n + 50), .int 0, .int 0, .int 0, .int 0, .int 0, .int 0, .int 0]),
  .inl (0, 4, .inl (fun _ => 0))]
set_option maxHeartbeats 4000000 in
theorem mc7 (S : Nat × (Nat → Int32)) (w : zM) : zm (zPg S.1 S.2) 71 [.ref w.length] (w ++ [.inr (7, [.null, .null, .int 0, .int 0, .int 0, .int 0])]) = some (none, w ++ mo7 w.length) := by
  have key : zl S 71 0 [some (.ref (w.length + 0)), none] [] w [.inr (7, [.null, .null, .int 0, .int 0, .int 0, .int 0])] (0, 0) = some (none, w ++ mo7 w.length, mBu 71) := by
    refine (gg_0 rfl (fun _ => rfl)).trans ?_
    refine (gg_oi rfl rfl).trans ?_
    refine (gg_0 rfl (fun _ => rfl)).trans ?_
    refine (gg_0 rfl (fun _ => rfl)).trans ?_
    refine (gg_na (i := 1) (N := 480) rfl rfl (by decide) rfl rfl rfl).trans ?_
    refine (gg_pf (i := 0) rfl rfl rfl rfl).trans ?_
    refine (gg_0 rfl (fun _ => rfl)).trans ?_
    refine (gg_0 rfl (fun _ => rfl)).trans ?_
    refine (gg_na (i := 2) (N := 4) rfl rfl (by decide) rfl rfl rfl).trans ?_
    refine (gg_pf (i := 0) rfl rfl rfl rfl).trans ?_
    refine (gg_0 rfl (fun _ => rfl)).trans ?_
    refine (gg_0 rfl (fun _ => rfl)).trans ?_
    refine (gg_pf (i := 0) rfl rfl rfl rfl).trans ?_
    refine (gg_0 rfl (fun _ => rfl)).trans ?_
    refine (gg_0 rfl (fun _ => rfl)).trans ?_
    refine (gg_0 rfl (fun _ => rfl)).trans ?_
    refine (gg_0 rfl (fun _ => rfl)).trans ?_
    refine (gg_f2 rfl (by decide)).trans ?_
    refine (gg_0 rfl (fun _ => rfl)).trans ?_
    refine (gg_gf (i := 0) rfl rfl rfl).trans ?_
    refine (gg_0 rfl (fun _ => rfl)).trans ?_
    refine (gg_nw (i := 3) rfl rfl rfl rfl).trans ?_
    refine (gg_0 rfl (fun _ => rfl)).trans ?_
    refine (gg_0 rfl (fun _ => rfl)).trans ?_
    refine (gg_cc (i := 3) (As := [.int 0]) (out := fun n => mo9 n 0) rfl rfl (fun w' => mc9 S w' 0) rfl rfl rfl rfl rfl).trans ?_
    refine (gg_pq (i := 2) (q := 3) (N := 0) rfl rfl rfl (by decide) (by decide)).trans ?_
    refine (gg_0 rfl (fun _ => rfl)).trans ?_
    refine (gg_0 rfl (fun _ => rfl)).trans ?_
    refine (gg_0 rfl (fun _ => rfl)).trans ?_
    refine (gg_0 rfl (fun _ => rfl)).trans ?_
    refine (gg_f2 rfl (by decide)).trans ?_
    refine (gg_0 rfl (fun _ => rfl)).trans ?_
    refine (gg_gf (i := 0) rfl rfl rfl).trans ?_
    refine (gg_0 rfl (fun _ => rfl)).trans ?_
    refine (gg_nw (i := 15) rfl rfl rfl rfl).trans ?_
    refine (gg_0 rfl (fun _ => rfl)).trans ?_
    refine (gg_0 rfl (fun _ => rfl)).trans ?_
    refine (gg_cc (i := 15) (As := [.int (0 + 1)]) (out := fun n => mo9 n (0 + 1)) rfl rfl (fun w' => mc9 S w' (0 + 1)) rfl rfl rfl rfl rfl).trans ?_
    refine (gg_pq (i := 2) (q := 15) (N := 1) rfl rfl rfl (by decide) (by decide)).trans ?_
    refine (gg_0 rfl (fun _ => rfl)).trans ?_
    refine (gg_0 rfl (fun _ => rfl)).trans ?_
    refine (gg_0 rfl (fun _ => rfl)).trans ?_
    refine (gg_0 rfl (fun _ => rfl)).trans ?_
    refine (gg_f2 rfl (by decide)).trans ?_
    refine (gg_0 rfl (fun _ => rfl)).trans ?_
    refine (gg_gf (i := 0) rfl rfl rfl).trans ?_
    refine (gg_0 rfl (fun _ => rfl)).trans ?_
    refine (gg_nw (i := 27) rfl rfl rfl rfl).trans ?_
    refine (gg_0 rfl (fun _ => rfl)).trans ?_
    refine (gg_0 rfl (fun _ => rfl)).trans ?_
    refine (gg_cc (i := 27) (As := [.int ((0 + 1) + 1)]) (out := fun n => mo9 n ((0 + 1) + 1)) rfl rfl (fun w' => mc9 S w' ((0 + 1) + 1)) rfl rfl rfl rfl rfl).trans ?_
    refine (gg_pq (i := 2) (q := 27) (N := 2) rfl rfl rfl (by decide) (by decide)).trans ?_
    refine (gg_0 rfl (fun _ => rfl)).trans ?_
    refine (gg_0 rfl (fun _ => rfl)).trans ?_
    refine (gg_0 rfl (fun _ => rfl)).trans ?_
    refine (gg_0 rfl (fun _ => rfl)).trans ?_
    refine (gg_f2 rfl (by decide)).trans ?_
    refine (gg_0 rfl (fun _ => rfl)).trans ?_
    refine (gg_gf (i := 0) rfl rfl rfl).trans ?_
    refine (gg_0 rfl (fun _ => rfl)).trans ?_
    refine (gg_nw (i := 39) rfl rfl rfl rfl).trans ?_
    refine (gg_0 rfl (fun _ => rfl)).trans ?_
    refine (gg_0 rfl (fun _ => rfl)).trans ?_
    refine (gg_cc (i := 39) (As := [.int (((0 + 1) + 1) + 1)]) (out := fun n => mo9 n (((0 + 1) + 1) + 1)) rfl rfl (fun w' => mc9 S w' (((0 + 1) + 1) + 1)) rfl rfl rfl rfl rfl).trans ?_
    refine (gg_pq (i := 2) (q := 39) (N := 3) rfl rfl rfl (by decide) (by decide)).trans ?_
    refine (gg_0 rfl (fun _ => rfl)).trans ?_
    refine (gg_0 rfl (fun _ => rfl)).trans ?_
    refine (gg_0 rfl (fun _ => rfl)).trans ?_
    refine (gg_0 rfl (fun _ => rfl)).trans ?_
    refine (gg_f2t rfl (by decide)).trans ?_
    exact (zD_rv rfl).trans rfl
  unfold zm
  show (zl S 71 0 [some (.ref (w.length + 0)), none] [] w [.inr (7, [.null, .null, .int 0, .int 0, .int 0, .int 0])] (0, 0)).bind _ = _
  rw [key]
  rfl
def mo5 (n : Nat) : zM := [.inr (5, [.ref (n + 1), .ref (n + 2), .ref (n + 3), .ref (n + 4), .int 0]),
  .inl (1, 20, .inr (.inl (fun _ => 0))),
  .inl (1, 20, .inr (.inl (fun _ => 0))),
  .inl (0, 20, .inl (fun _ => 0)),
  .inl (0, 15, .inl (fun _ => 0))]
set_option maxHeartbeats 4000000 in
theorem mc5 (S : Nat × (Nat → Int32)) (w : zM) : zm (zPg S.1 S.2) 51 [.ref w.length] (w ++ [.inr (5, [.null, .null, .null, .null, .int 0])]) = some (none, w ++ mo5 w.length) := by
  have key : zl S 51 0 [some (.ref (w.length + 0))] [] w [.inr (5, [.null, .null, .null, .null, .int 0])] (0, 0) = some (none, w ++ mo5 w.length, mBu 51) := by
    refine (gg_0 rfl (fun _ => rfl)).trans ?_
    refine (gg_oi rfl rfl).trans ?_
    refine (gg_0 rfl (fun _ => rfl)).trans ?_
    refine (gg_0 rfl (fun _ => rfl)).trans ?_
    refine (gg_na (i := 1) (N := 20) rfl rfl (by decide) rfl rfl rfl).trans ?_
    refine (gg_pf (i := 0) rfl rfl rfl rfl).trans ?_
    refine (gg_0 rfl (fun _ => rfl)).trans ?_
    refine (gg_0 rfl (fun _ => rfl)).trans ?_
    refine (gg_na (i := 2) (N := 20) rfl rfl (by decide) rfl rfl rfl).trans ?_
    refine (gg_pf (i := 0) rfl rfl rfl rfl).trans ?_
    refine (gg_0 rfl (fun _ => rfl)).trans ?_
    refine (gg_0 rfl (fun _ => rfl)).trans ?_
    refine (gg_na (i := 3) (N := 20) rfl rfl (by decide) rfl rfl rfl).trans ?_
    refine (gg_pf (i := 0) rfl rfl rfl rfl).trans ?_
    refine (gg_0 rfl (fun _ => rfl)).trans ?_
    refine (gg_0 rfl (fun _ => rfl)).trans ?_
    refine (gg_na (i := 4) (N := 15) rfl rfl (by decide) rfl rfl rfl).trans ?_
    refine (gg_pf (i := 0) rfl rfl rfl rfl).trans ?_
    exact (zD_rv rfl).trans rfl
  unfold zm
  show (zl S 51 0 [some (.ref (w.length + 0))] [] w [.inr (5, [.null, .null, .null, .null, .int 0])] (0, 0)).bind _ = _
  rw [key]
  rfl
def mo1 (n : Nat) (a1 : Int32) : zM := [.inr (1, [.ref (n + 1), .int a1, .ref (n + 6), .ref (n + 7), .ref (n + 8), .ref (n + 9), .int 0]),
  .inr (5, [.ref (n + 2), .ref (n + 3), .ref (n + 4), .ref (n + 5), .int 0]),
  .inl (1, 20, .inr (.inl (fun _ => 0))),
  .inl (1, 20, .inr (.inl (fun _ => 0))),
  .inl (0, 20, .inl (fun _ => 0)),
  .inl (0, 15, .inl (fun _ => 0)),
  .inl (0, 208, .inl (fun _ => 0)),
  .inl (0, 208, .inl (fun _ => 0)),
  .inl (0, 208, .inl (fun _ => 0)),
  .inl (0, 208, .inl (fun _ => 0))]
set_option maxHeartbeats 4000000 in
theorem mc1 (S : Nat × (Nat → Int32)) (w : zM) (a1 : Int32) : zm (zPg S.1 S.2) 23 [.ref w.length, .int a1] (w ++ [.inr (1, [.null, .int 0, .null, .null, .null, .null, .int 0])]) = some (none, w ++ mo1 w.length a1) := by
  have key : zl S 23 0 [some (.ref (w.length + 0)), some (.int a1)] [] w [.inr (1, [.null, .int 0, .null, .null, .null, .null, .int 0])] (0, 0) = some (none, w ++ mo1 w.length a1, mBu 23) := by
    refine (gg_0 rfl (fun _ => rfl)).trans ?_
    refine (gg_oi rfl rfl).trans ?_
    refine (gg_0 rfl (fun _ => rfl)).trans ?_
    refine (gg_nw (i := 1) rfl rfl rfl rfl).trans ?_
    refine (gg_0 rfl (fun _ => rfl)).trans ?_
    refine (gg_cc (i := 1) (As := []) (out := fun n => mo5 n) rfl rfl (fun w' => mc5 S w') rfl rfl rfl rfl rfl).trans ?_
    refine (gg_pf (i := 0) rfl rfl rfl rfl).trans ?_
    refine (gg_0 rfl (fun _ => rfl)).trans ?_
    refine (gg_0 rfl (fun _ => rfl)).trans ?_
    refine (gg_na (i := 6) (N := 208) rfl rfl (by decide) rfl rfl rfl).trans ?_
    refine (gg_pf (i := 0) rfl rfl rfl rfl).trans ?_
    refine (gg_0 rfl (fun _ => rfl)).trans ?_
    refine (gg_0 rfl (fun _ => rfl)).trans ?_
    refine (gg_na (i := 7) (N := 208) rfl rfl (by decide) rfl rfl rfl).trans ?_
    refine (gg_pf (i := 0) rfl rfl rfl rfl).trans ?_
    refine (gg_0 rfl (fun _ => rfl)).trans ?_
    refine (gg_0 rfl (fun _ => rfl)).trans ?_
    refine (gg_na (i := 8) (N := 208) rfl rfl (by decide) rfl rfl rfl).trans ?_
    refine (gg_pf (i := 0) rfl rfl rfl rfl).trans ?_
    refine (gg_0 rfl (fun _ => rfl)).trans ?_
    refine (gg_0 rfl (fun _ => rfl)).trans ?_
    refine (gg_na (i := 9) (N := 208) rfl rfl (by decide) rfl rfl rfl).trans ?_
    refine (gg_pf (i := 0) rfl rfl rfl rfl).trans ?_
    refine (gg_0 rfl (fun _ => rfl)).trans ?_
    refine (gg_0 rfl (fun _ => rfl)).trans ?_
    refine (gg_pf (i := 0) rfl rfl rfl rfl).trans ?_
    exact (zD_rv rfl).trans rfl
  unfold zm
  show (zl S 23 0 [some (.ref (w.length + 0)), some (.int a1)] [] w [.inr (1, [.null, .int 0, .null, .null, .null, .null, .int 0])] (0, 0)).bind _ = _
  rw [key]
  rfl
def mo2 (n : Nat) : zM := [.inr (2, [.ref (n + 1), .ref (n + 2), .int 0]),
  .inl (0, 4, .inl (fun _ => 0)),
  .inl (1, 5, .inr (.inl (fun _ => 0)))]
set_option maxHeartbeats 4000000 in
theorem mc2 (S : Nat × (Nat → Int32)) (w : zM) : zm (zPg S.1 S.2) 33 [.ref w.length] (w ++ [.inr (2, [.null, .null, .int 0])]) = some (none, w ++ mo2 w.length) := by
  have key : zl S 33 0 [some (.ref (w.length + 0))] [] w [.inr (2, [.null, .null, .int 0])] (0, 0) = some (none, w ++ mo2 w.length, mBu 33) := by
    refine (gg_0 rfl (fun _ => rfl)).trans ?_
    refine (gg_oi rfl rfl).trans ?_
    refine (gg_0 rfl (fun _ => rfl)).trans ?_
    refine (gg_0 rfl (fun _ => rfl)).trans ?_
    refine (gg_na (i := 1) (N := 4) rfl rfl (by decide) rfl rfl rfl).trans ?_
    refine (gg_pf (i := 0) rfl rfl rfl rfl).trans ?_
    refine (gg_0 rfl (fun _ => rfl)).trans ?_
    refine (gg_0 rfl (fun _ => rfl)).trans ?_
    refine (gg_na (i := 2) (N := 5) rfl rfl (by decide) rfl rfl rfl).trans ?_
    refine (gg_pf (i := 0) rfl rfl rfl rfl).trans ?_
    exact (zD_rv rfl).trans rfl
  unfold zm
  show (zl S 33 0 [some (.ref (w.length + 0))] [] w [.inr (2, [.null, .null, .int 0])] (0, 0)).bind _ = _
  rw [key]
  rfl
def mo8 (n : Nat) (a1 : Int32) (a2 : Int32) : zM := [.inr (8, [.int a1, .int a2, .ref (n + 1), .ref (n + 2)]),
  .inl (0, 192, .inl (fun _ => 0)),
  .inl (0, 12, .inl (fun _ => 0))]
set_option maxHeartbeats 4000000 in
theorem mc8 (S : Nat × (Nat → Int32)) (w : zM) (a1 : Int32) (a2 : Int32) : zm (zPg S.1 S.2) 80 [.ref w.length, .int a1, .int a2] (w ++ [.inr (8, [.int 0, .int 0, .null, .null])]) = some (none, w ++ mo8 w.length a1 a2) := by
  have key : zl S 80 0 [some (.ref (w.length + 0)), some (.int a1), some (.int a2)] [] w [.inr (8, [.int 0, .int 0, .null, .null])] (0, 0) = some (none, w ++ mo8 w.length a1 a2, mBu 80) := by
    refine (gg_0 rfl (fun _ => rfl)).trans ?_
    refine (gg_oi rfl rfl).trans ?_
    refine (gg_0 rfl (fun _ => rfl)).trans ?_
    refine (gg_0 rfl (fun _ => rfl)).trans ?_
    refine (gg_na (i := 1) (N := 192) rfl rfl (by decide) rfl rfl rfl).trans ?_
    refine (gg_pf (i := 0) rfl rfl rfl rfl).trans ?_
    refine (gg_0 rfl (fun _ => rfl)).trans ?_
    refine (gg_0 rfl (fun _ => rfl)).trans ?_
    refine (gg_na (i := 2) (N := 12) rfl rfl (by decide) rfl rfl rfl).trans ?_
    refine (gg_pf (i := 0) rfl rfl rfl rfl).trans ?_
    refine (gg_0 rfl (fun _ => rfl)).trans ?_
    refine (gg_0 rfl (fun _ => rfl)).trans ?_
    refine (gg_pf (i := 0) rfl rfl rfl rfl).trans ?_
    refine (gg_0 rfl (fun _ => rfl)).trans ?_
    refine (gg_0 rfl (fun _ => rfl)).trans ?_
    refine (gg_pf (i := 0) rfl rfl rfl rfl).trans ?_
    exact (zD_rv rfl).trans rfl
  unfold zm
  show (zl S 80 0 [some (.ref (w.length + 0)), some (.int a1), some (.int a2)] [] w [.inr (8, [.int 0, .int 0, .null, .null])] (0, 0)).bind _ = _
  rw [key]
  rfl
def mo6 (n : Nat) (a1 : Int32) (a2 : Int32) : zM := [.inr (6, [.ref (n + 5), .ref (n + 1), .ref (n + 4), .long 0]),
  .inr (2, [.ref (n + 2), .ref (n + 3), .int 0]),
  .inl (0, 4, .inl (fun _ => 0)),
  .inl (1, 5, .inr (.inl (fun _ => 0))),
  .inl (0, 5, .inl (fun _ => 0)),
  .inr (8, [.int a1, .int a2, .ref (n + 6), .ref (n + 7)]),
  .inl (0, 192, .inl (fun _ => 0)),
  .inl (0, 12, .inl (fun _ => 0))]
set_option maxHeartbeats 4000000 in
theorem mc6 (S : Nat × (Nat → Int32)) (w : zM) (a1 : Int32) (a2 : Int32) : zm (zPg S.1 S.2) 59 [.ref w.length, .int a1, .int a2] (w ++ [.inr (6, [.null, .null, .null, .long 0])]) = some (none, w ++ mo6 w.length a1 a2) := by
  have key : zl S 59 0 [some (.ref (w.length + 0)), some (.int a1), some (.int a2)] [] w [.inr (6, [.null, .null, .null, .long 0])] (0, 0) = some (none, w ++ mo6 w.length a1 a2, mBu 59) := by
    refine (gg_0 rfl (fun _ => rfl)).trans ?_
    refine (gg_oi rfl rfl).trans ?_
    refine (gg_0 rfl (fun _ => rfl)).trans ?_
    refine (gg_nw (i := 1) rfl rfl rfl rfl).trans ?_
    refine (gg_0 rfl (fun _ => rfl)).trans ?_
    refine (gg_cc (i := 1) (As := []) (out := fun n => mo2 n) rfl rfl (fun w' => mc2 S w') rfl rfl rfl rfl rfl).trans ?_
    refine (gg_pf (i := 0) rfl rfl rfl rfl).trans ?_
    refine (gg_0 rfl (fun _ => rfl)).trans ?_
    refine (gg_0 rfl (fun _ => rfl)).trans ?_
    refine (gg_na (i := 4) (N := 5) rfl rfl (by decide) rfl rfl rfl).trans ?_
    refine (gg_pf (i := 0) rfl rfl rfl rfl).trans ?_
    refine (gg_0 rfl (fun _ => rfl)).trans ?_
    refine (gg_nw (i := 5) rfl rfl rfl rfl).trans ?_
    refine (gg_0 rfl (fun _ => rfl)).trans ?_
    refine (gg_0 rfl (fun _ => rfl)).trans ?_
    refine (gg_0 rfl (fun _ => rfl)).trans ?_
    refine (gg_cc (i := 5) (As := [.int a1, .int a2]) (out := fun n => mo8 n a1 a2) rfl rfl (fun w' => mc8 S w' a1 a2) rfl rfl rfl rfl rfl).trans ?_
    refine (gg_pf (i := 0) rfl rfl rfl rfl).trans ?_
    exact (zD_rv rfl).trans rfl
  unfold zm
  show (zl S 59 0 [some (.ref (w.length + 0)), some (.int a1), some (.int a2)] [] w [.inr (6, [.null, .null, .null, .long 0])] (0, 0)).bind _ = _
  rw [key]
  rfl
def mo3 (n : Nat) (a1 : Int32) : zM := [.inr (3, [.int a1, .ref (n + 1), .ref (n + 2)]),
  .inl (2, 480, .inl (fun _ => 0)),
  .inl (0, 26, .inl (fun _ => 0))]
set_option maxHeartbeats 4000000 in
theorem mc3 (S : Nat × (Nat → Int32)) (w : zM) (a1 : Int32) : zm (zPg S.1 S.2) 38 [.ref w.length, .int a1] (w ++ [.inr (3, [.int 0, .null, .null])]) = some (none, w ++ mo3 w.length a1) := by
  have key : zl S 38 0 [some (.ref (w.length + 0)), some (.int a1)] [] w [.inr (3, [.int 0, .null, .null])] (0, 0) = some (none, w ++ mo3 w.length a1, mBu 38) := by
    refine (gg_0 rfl (fun _ => rfl)).trans ?_
    refine (gg_oi rfl rfl).trans ?_
    refine (gg_0 rfl (fun _ => rfl)).trans ?_
    refine (gg_0 rfl (fun _ => rfl)).trans ?_
    refine (gg_na (i := 1) (N := 480) rfl rfl (by decide) rfl rfl rfl).trans ?_
    refine (gg_pf (i := 0) rfl rfl rfl rfl).trans ?_
    refine (gg_0 rfl (fun _ => rfl)).trans ?_
    refine (gg_0 rfl (fun _ => rfl)).trans ?_
    refine (gg_na (i := 2) (N := 26) rfl rfl (by decide) rfl rfl rfl).trans ?_
    refine (gg_pf (i := 0) rfl rfl rfl rfl).trans ?_
    refine (gg_0 rfl (fun _ => rfl)).trans ?_
    refine (gg_0 rfl (fun _ => rfl)).trans ?_
    refine (gg_pf (i := 0) rfl rfl rfl rfl).trans ?_
    exact (zD_rv rfl).trans rfl
  unfold zm
  show (zl S 38 0 [some (.ref (w.length + 0)), some (.int a1)] [] w [.inr (3, [.int 0, .null, .null])] (0, 0)).bind _ = _
  rw [key]
  rfl
def mo0 (n : Nat) (a1 a2 a3 : Int32) : zM := [.inr (0, [.int (if 16 < (if a3 < 60 then a3 else 60) then (if a3 < 60 then a3 else 60) else 16), .ref (n + 1), .ref (n + 2), .ref (n + 3), .ref (n + 4), .ref (n + 55), .ref (n + 65), .ref (n + 73), .int 0, .int 0]),
  .inl (0, 26, .inl (fun q => if q < 26 then 4 else 0)),
  .inl (2, 480, .inl (fun _ => 0)),
  .inl (2, 8, .inl (fun _ => 0)),
  .inr (7, [.ref (n + 5), .ref (n + 6), .int 0, .int 0, .int 0, .int (-1)]),
  .inl (2, 480, .inl (fun _ => 0)),
  .inl (4, 4, .inr (.inr (.inr (.inr (va_up (va_up (va_up (va_up (fun _ => none) 0 (some (n + 7))) 1 (some (n + 19))) 2 (some (n + 31))) 3 (some (n + 43))))))),
  .inr (9, [.int 0, .ref (n + 8), .ref (n + 9), .ref (n + 10), .ref (n + 11), .ref (n + 12), .ref (n + 13), .ref (n + 14), .int 0, .int 0, .int 0, .int 0, .int 0, .int 0, .int 0, .int 0, .int 0, .long 0]),
  .inl (0, 4, .inl (fun _ => 0)),
  .inl (0, 4, .inl (fun _ => 0)),
  .inl (0, 4, .inl (fun _ => 0)),
  .inl (0, 40, .inl (fun _ => 0)),
  .inl (0, 40, .inl (fun _ => 0)),
  .inl (0, 40, .inl (fun _ => 0)),
  .inl (5, 2, .inr (.inr (.inr (.inr (va_up (va_up (fun _ => none) 0 (some (n + 15))) 1 (some (n + 17))))))),
  .inr (4, [.ref (n + 16), .int 0, .int 0, .int 0, .int 0, .int 0, .int 0, .int 0]),
  .inl (0, 4, .inl (fun _ => 0)),
  .inr (4, [.ref (n + 18), .int 0, .int 0, .int 0, .int 0, .int 0, .int 0, .int 0]),
  .inl (0, 4, .inl (fun _ => 0)),
  .inr (9, [.int (0 + 1), .ref (n + 20), .ref (n + 21), .ref (n + 22), .ref (n + 23), .ref (n + 24), .ref (n + 25), .ref (n + 26), .int 0, .int 0, .int 0, .int 0, .int 0, .int 0, .int 0, .int 0, .int 0, .long 0]),
  .inl (0, 4, .inl (fun _ => 0)),
  .inl (0, 4, .inl (fun _ => 0)),
  .inl (0, 4, .inl (fun _ => 0)),
  .inl (0, 40, .inl (fun _ => 0)),
  .inl (0, 40, .inl (fun _ => 0)),
  .inl (0, 40, .inl (fun _ => 0)),
  .inl (5, 2, .inr (.inr (.inr (.inr (va_up (va_up (fun _ => none) 0 (some (n + 27))) 1 (some (n + 29))))))),
  .inr (4, [.ref (n + 28), .int 0, .int 0, .int 0, .int 0, .int 0, .int 0, .int 0]),
  .inl (0, 4, .inl (fun _ => 0)),
  .inr (4, [.ref (n + 30), .int 0, .int 0, .int 0, .int 0, .int 0, .int 0, .int 0]),
  .inl (0, 4, .inl (fun _ => 0)),
  .inr (9, [.int ((0 + 1) + 1), .ref (n + 32), .ref (n + 33), .ref (n + 34), .ref (n + 35), .ref (n + 36), .ref (n + 37), .ref (n + 38), .int 0, .int 0, .int 0, .int 0, .int 0, .int 0, .int 0, .int 0, .int 0, .long 0]),
  .inl (0, 4, .inl (fun _ => 0)),
  .inl (0, 4, .inl (fun _ => 0)),
  .inl (0, 4, .inl (fun _ => 0)),
  .inl (0, 40, .inl (fun _ => 0)),
  .inl (0, 40, .inl (fun _ => 0)),
  .inl (0, 40, .inl (fun _ => 0)),
  .inl (5, 2, .inr (.inr (.inr (.inr (va_up (va_up (fun _ => none) 0 (some (n + 39))) 1 (some (n + 41))))))),
  .inr (4, [.ref (n + 40), .int 0, .int 0, .int 0, .int 0, .int 0, .int 0, .int 0]),
  .inl (0, 4, .inl (fun _ => 0)),
  .inr (4, [.ref (n + 42), .int 0, .int 0, .int 0, .int 0, .int 0, .int 0, .int 0]),
  .inl (0, 4, .inl (fun _ => 0)),
  .inr (9, [.int (((0 + 1) + 1) + 1), .ref (n + 44), .ref (n + 45), .ref (n + 46), .ref (n + 47), .ref (n + 48), .ref (n + 49), .ref (n + 50), .int 0, .int 0, .int 0, .int 0, .int 0, .int 0, .int 0, .int 0, .int 0, .long 0]),
  .inl (0, 4, .inl (fun _ => 0)),
  .inl (0, 4, .inl (fun _ => 0)),
  .inl (0, 4, .inl (fun _ => 0)),
  .inl (0, 40, .inl (fun _ => 0)),
  .inl (0, 40, .inl (fun _ => 0)),
  .inl (0, 40, .inl (fun _ => 0)),
  .inl (5, 2, .inr (.inr (.inr (.inr (va_up (va_up (fun _ => none) 0 (some (n + 51))) 1 (some (n + 53))))))),
  .inr (4, [.ref (n + 52), .int 0, .int 0, .int 0, .int 0, .int 0, .int 0, .int 0]),
  .inl (0, 4, .inl (fun _ => 0)),
  .inr (4, [.ref (n + 54), .int 0, .int 0, .int 0, .int 0, .int 0, .int 0, .int 0]),
  .inl (0, 4, .inl (fun _ => 0)),
  .inr (1, [.ref (n + 56), .int (if 16 < (if a3 < 60 then a3 else 60) then (if a3 < 60 then a3 else 60) else 16), .ref (n + 61), .ref (n + 62), .ref (n + 63), .ref (n + 64), .int 0]),
  .inr (5, [.ref (n + 57), .ref (n + 58), .ref (n + 59), .ref (n + 60), .int 0]),
  .inl (1, 20, .inr (.inl (fun _ => 0))),
  .inl (1, 20, .inr (.inl (fun _ => 0))),
  .inl (0, 20, .inl (fun _ => 0)),
  .inl (0, 15, .inl (fun _ => 0)),
  .inl (0, 208, .inl (fun _ => 0)),
  .inl (0, 208, .inl (fun _ => 0)),
  .inl (0, 208, .inl (fun _ => 0)),
  .inl (0, 208, .inl (fun _ => 0)),
  .inr (6, [.ref (n + 70), .ref (n + 66), .ref (n + 69), .long 0]),
  .inr (2, [.ref (n + 67), .ref (n + 68), .int 0]),
  .inl (0, 4, .inl (fun _ => 0)),
  .inl (1, 5, .inr (.inl (fun _ => 0))),
  .inl (0, 5, .inl (fun _ => 0)),
  .inr (8, [.int (if 1 < (if a1 < 4 then a1 else 4) then (if a1 < 4 then a1 else 4) else 1), .int (if 4 < (if a2 < 16 then a2 else 16) then (if a2 < 16 then a2 else 16) else 4), .ref (n + 71), .ref (n + 72)]),
  .inl (0, 192, .inl (fun _ => 0)),
  .inl (0, 12, .inl (fun _ => 0)),
  .inr (3, [.int (if 16 < (if a3 < 60 then a3 else 60) then (if a3 < 60 then a3 else 60) else 16), .ref (n + 74), .ref (n + 75)]),
  .inl (2, 480, .inl (fun _ => 0)),
  .inl (0, 26, .inl (fun _ => 0))]
set_option maxHeartbeats 4000000 in
theorem mc0 (S : Nat × (Nat → Int32)) (w : zM) (a1 a2 a3 : Int32) : zm (zPg S.1 S.2) 2 [.ref w.length, .int a1, .int a2, .int a3] (w ++ [.inr (0, [.int 0, .null, .null, .null, .null, .null, .null, .null, .int 0, .int 0])]) = some (none, w ++ mo0 w.length a1 a2 a3) := by
  have key : zl S 2 0 [some (.ref (w.length + 0)), some (.int a1), some (.int a2), some (.int a3)] [] w [.inr (0, [.int 0, .null, .null, .null, .null, .null, .null, .null, .int 0, .int 0])] (0, 0) = some (none, w ++ mo0 w.length a1 a2 a3, mBu 2) := by
    refine (gg_0 rfl (fun _ => rfl)).trans ?_
    refine (gg_oi rfl rfl).trans ?_
    refine (gg_0 rfl (fun _ => rfl)).trans ?_
    refine (gg_0 rfl (fun _ => rfl)).trans ?_
    refine (gg_nh (i := 1) (N := 26) rfl rfl (by decide) rfl rfl rfl).trans ?_
    refine (gg_ph (fs' := [.int 0, .ref (w.length + 1), .null, .null, .null, .null, .null, .null, .int 0, .int 0]) rfl rfl rfl rfl).trans ?_
    refine (gg_0 rfl (fun _ => rfl)).trans ?_
    refine (gg_0 rfl (fun _ => rfl)).trans ?_
    refine (gg_nh (i := 2) (N := 480) rfl rfl (by decide) rfl rfl rfl).trans ?_
    refine (gg_ph (fs' := [.int 0, .ref (w.length + 1), .ref (w.length + 2), .null, .null, .null, .null, .null, .int 0, .int 0]) rfl rfl rfl rfl).trans ?_
    refine (gg_0 rfl (fun _ => rfl)).trans ?_
    refine (gg_0 rfl (fun _ => rfl)).trans ?_
    refine (gg_nh (i := 3) (N := 8) rfl rfl (by decide) rfl rfl rfl).trans ?_
    refine (gg_ph (fs' := [.int 0, .ref (w.length + 1), .ref (w.length + 2), .ref (w.length + 3), .null, .null, .null, .null, .int 0, .int 0]) rfl rfl rfl rfl).trans ?_
    refine (gg_0 rfl (fun _ => rfl)).trans ?_
    refine (gg_wh (i := 4) rfl rfl rfl rfl).trans ?_
    refine (gg_0 rfl (fun _ => rfl)).trans ?_
    refine (gg_ch (i := 4) (As := []) (out := fun n => mo7 n) rfl rfl (fun w' => mc7 S w') rfl rfl rfl rfl rfl).trans ?_
    refine (gg_ph (fs' := [.int 0, .ref (w.length + 1), .ref (w.length + 2), .ref (w.length + 3), .ref (w.length + 4), .null, .null, .null, .int 0, .int 0]) rfl rfl rfl rfl).trans ?_
    refine (gg_0 rfl (fun _ => rfl)).trans ?_
    refine (gg_0 rfl (fun _ => rfl)).trans ?_
    refine (gg_0 rfl (fun _ => rfl)).trans ?_
    refine (gg_0 rfl (fun _ => rfl)).trans ?_
    refine (gg_cs (vs := [.int a3, .int 16, .int 60]) rfl rfl rfl rfl rfl rfl rfl (zwithin S _ _ _ _)).trans ?_
    refine (gg_ph (fs' := [.int (if 16 < (if a3 < 60 then a3 else 60) then (if a3 < 60 then a3 else 60) else 16), .ref (w.length + 1), .ref (w.length + 2), .ref (w.length + 3), .ref (w.length + 4), .null, .null, .null, .int 0, .int 0]) rfl rfl rfl rfl).trans ?_
    refine (gg_0 rfl (fun _ => rfl)).trans ?_
    refine (gg_wh (i := 55) rfl rfl rfl rfl).trans ?_
    refine (gg_0 rfl (fun _ => rfl)).trans ?_
    refine (gg_0 rfl (fun _ => rfl)).trans ?_
    refine (gg_gf (i := 0) rfl rfl rfl).trans ?_
    refine (gg_ch (i := 55) (As := [.int (if 16 < (if a3 < 60 then a3 else 60) then (if a3 < 60 then a3 else 60) else 16)]) (out := fun n => mo1 n (if 16 < (if a3 < 60 then a3 else 60) then (if a3 < 60 then a3 else 60) else 16)) rfl rfl (fun w' => mc1 S w' (if 16 < (if a3 < 60 then a3 else 60) then (if a3 < 60 then a3 else 60) else 16)) rfl rfl rfl rfl rfl).trans ?_
    refine (gg_ph (fs' := [.int (if 16 < (if a3 < 60 then a3 else 60) then (if a3 < 60 then a3 else 60) else 16), .ref (w.length + 1), .ref (w.length + 2), .ref (w.length + 3), .ref (w.length + 4), .ref (w.length + 55), .null, .null, .int 0, .int 0]) rfl rfl rfl rfl).trans ?_
    refine (gg_0 rfl (fun _ => rfl)).trans ?_
    refine (gg_wh (i := 65) rfl rfl rfl rfl).trans ?_
    refine (gg_0 rfl (fun _ => rfl)).trans ?_
    refine (gg_0 rfl (fun _ => rfl)).trans ?_
    refine (gg_0 rfl (fun _ => rfl)).trans ?_
    refine (gg_0 rfl (fun _ => rfl)).trans ?_
    refine (gg_cs (vs := [.int a1, .int 1, .int 4]) rfl rfl rfl rfl rfl rfl rfl (zwithin S _ _ _ _)).trans ?_
    refine (gg_0 rfl (fun _ => rfl)).trans ?_
    refine (gg_0 rfl (fun _ => rfl)).trans ?_
    refine (gg_0 rfl (fun _ => rfl)).trans ?_
    refine (gg_cs (vs := [.int a2, .int 4, .int 16]) rfl rfl rfl rfl rfl rfl rfl (zwithin S _ _ _ _)).trans ?_
    refine (gg_ch (i := 65) (As := [.int (if 1 < (if a1 < 4 then a1 else 4) then (if a1 < 4 then a1 else 4) else 1), .int (if 4 < (if a2 < 16 then a2 else 16) then (if a2 < 16 then a2 else 16) else 4)]) (out := fun n => mo6 n (if 1 < (if a1 < 4 then a1 else 4) then (if a1 < 4 then a1 else 4) else 1) (if 4 < (if a2 < 16 then a2 else 16) then (if a2 < 16 then a2 else 16) else 4)) rfl rfl (fun w' => mc6 S w' (if 1 < (if a1 < 4 then a1 else 4) then (if a1 < 4 then a1 else 4) else 1) (if 4 < (if a2 < 16 then a2 else 16) then (if a2 < 16 then a2 else 16) else 4)) rfl rfl rfl rfl rfl).trans ?_
    refine (gg_ph (fs' := [.int (if 16 < (if a3 < 60 then a3 else 60) then (if a3 < 60 then a3 else 60) else 16), .ref (w.length + 1), .ref (w.length + 2), .ref (w.length + 3), .ref (w.length + 4), .ref (w.length + 55), .ref (w.length + 65), .null, .int 0, .int 0]) rfl rfl rfl rfl).trans ?_
    refine (gg_0 rfl (fun _ => rfl)).trans ?_
    refine (gg_wh (i := 73) rfl rfl rfl rfl).trans ?_
    refine (gg_0 rfl (fun _ => rfl)).trans ?_
    refine (gg_0 rfl (fun _ => rfl)).trans ?_
    refine (gg_gf (i := 0) rfl rfl rfl).trans ?_
    refine (gg_ch (i := 73) (As := [.int (if 16 < (if a3 < 60 then a3 else 60) then (if a3 < 60 then a3 else 60) else 16)]) (out := fun n => mo3 n (if 16 < (if a3 < 60 then a3 else 60) then (if a3 < 60 then a3 else 60) else 16)) rfl rfl (fun w' => mc3 S w' (if 16 < (if a3 < 60 then a3 else 60) then (if a3 < 60 then a3 else 60) else 16)) rfl rfl rfl rfl rfl).trans ?_
    refine (gg_ph (fs' := [.int (if 16 < (if a3 < 60 then a3 else 60) then (if a3 < 60 then a3 else 60) else 16), .ref (w.length + 1), .ref (w.length + 2), .ref (w.length + 3), .ref (w.length + 4), .ref (w.length + 55), .ref (w.length + 65), .ref (w.length + 73), .int 0, .int 0]) rfl rfl rfl rfl).trans ?_
    refine (gg_0 rfl (fun _ => rfl)).trans ?_
    refine (gg_gf (i := 0) rfl rfl rfl).trans ?_
    refine (gg_0 rfl (fun _ => rfl)).trans ?_
    refine (gg_cs (vs := [.ref (w.length + 1), .int 4]) rfl rfl rfl rfl rfl rfl rfl (zfill0 S (by decide) (gg_at.trans rfl))).trans ?_
    rw [gg_st]
    exact (zD_rv rfl).trans rfl
  unfold zm
  show (zl S 2 0 [some (.ref (w.length + 0)), some (.int a1), some (.int a2), some (.int a3)] [] w [.inr (0, [.int 0, .null, .null, .null, .null, .null, .null, .null, .int 0, .int 0])] (0, 0)).bind _ = _
  rw [key]
  rfl
def mr10 : zM := [.inl (0, 26, .inl (fun _ => 0)),
  .inl (0, 20, .inl (fun _ => 0)),
  .inl (0, 120, .inl (fun _ => 0)),
  .inl (0, 140, .inl (fun _ => 0)),
  .inl (0, 14, .inl (fun _ => 0)),
  .inl (0, 15, .inl (fun _ => 0)),
  .inl (0, 480, .inl (fun _ => 0)),
  .inl (0, 4, .inl (fun _ => 0)),
  .inl (0, 4, .inl (fun _ => 0)),
  .inl (0, 4, .inl (fun _ => 0)),
  .inl (0, 4, .inl (fun _ => 0)),
  .inl (0, 3840, .inl (fun _ => 0)),
  .inl (0, 320, .inl (fun _ => 0)),
  .inl (0, 20, .inl (fun _ => 0)),
  .inl (0, 20, .inl (fun _ => 0)),
  .inl (0, 4, .inl (fun _ => 0)),
  .inl (0, 4, .inl (fun _ => 0)),
  .inl (0, 164, .inl (fun _ => 0)),
  .inl (0, 164, .inl (fun _ => 0)),
  .inl (0, 164, .inl (fun _ => 0)),
  .inl (0, 16, .inl (fun _ => 0)),
  .inl (3, 193, .inl (fun _ => 0)),
  .inl (3, 193, .inl (fun _ => 0)),
  .inl (0, 193, .inl (fun _ => 0)),
  .inl (0, 193, .inl (fun _ => 0)),
  .inl (3, 8, .inl (fun _ => 0)),
  .inl (0, 88, .inl (fun _ => 0)),
  .inl (0, 192, .inl (fun _ => 0)),
  .inl (0, 4, .inl (fun _ => 0)),
  .inl (0, 4, .inl (fun _ => 0)),
  .inl (3, 205, .inl (fun _ => 0)),
  .inl (0, 5, .inl (fun _ => 0))]
def mh10 (n : Nat) (c r d : Int32) : va_E := .inr (10, [.int c, .int r, .int d, .ref (n + 1), .ref (n + 2), .int 0, .ref (n + 3), .ref (n + 4), .ref (n + 5), .ref (n + 6), .ref (n + 7), .ref (n + 8), .int 0, .int 0, .ref (n + 9), .ref (n + 10), .ref (n + 11), .ref (n + 12), .ref (n + 13), .ref (n + 14), .ref (n + 15), .ref (n + 16), .int 0, .int (-1), .int 0, .ref (n + 17), .ref (n + 18), .ref (n + 19), .ref (n + 20), .ref (n + 21), .ref (n + 22), .ref (n + 23), .ref (n + 24), .ref (n + 25), .ref (n + 26), .ref (n + 27), .ref (n + 28), .ref (n + 29), .ref (n + 30), .ref (n + 31), .ref (n + 32), .ref (n + 33), .int 0, .int 0, .int 0, .int 0])
def mo10 (n : Nat) (c r d : Int32) (f : Nat → Int32) : zM := mh10 n c r d :: .inl (0, 26, .inl f) :: mr10
set_option maxHeartbeats 4000000 in
theorem md1 (S : Nat × (Nat → Int32)) (w : zM) (a1 a2 a3 : Int32) : zl S 94 0 [some (.ref (w.length + 0)), some (.int a1), some (.int a2), some (.int a3), none] [] w [.inr (10, [.int 0, .int 0, .int 0, .null, .null, .int 0, .null, .null, .null, .null, .null, .null, .int 0, .int 0, .null, .null, .null, .null, .null, .null, .null, .null, .int 0, .int 0, .int 0, .null, .null, .null, .null, .null, .null, .null, .null, .null, .null, .null, .null, .null, .null, .null, .null, .null, .int 0, .int 0, .int 0, .int 0])] (0, 0) = zl S 94 280 [some (.ref (w.length + 0)), some (.int a1), some (.int a2), some (.int a3), none] [.int 1, .int a1, .ref (w.length + 0)] w (mo10 w.length 0 0 0 (fun _ => 0)) (33, 6851) := by
  refine (gg_0 rfl (fun _ => rfl)).trans ?_
  refine (gg_oi rfl rfl).trans ?_
  refine (gg_0 rfl (fun _ => rfl)).trans ?_
  refine (gg_0 rfl (fun _ => rfl)).trans ?_
  refine (gg_nh (i := 1) (N := 26) rfl rfl (by decide) rfl rfl rfl).trans ?_
  refine (gg_ph (fs' := [.int 0, .int 0, .int 0, .ref (w.length + 1), .null, .int 0, .null, .null, .null, .null, .null, .null, .int 0, .int 0, .null, .null, .null, .null, .null, .null, .null, .null, .int 0, .int 0, .int 0, .null, .null, .null, .null, .null, .null, .null, .null, .null, .null, .null, .null, .null, .null, .null, .null, .null, .int 0, .int 0, .int 0, .int 0]) rfl rfl rfl rfl).trans ?_
  refine (gg_0 rfl (fun _ => rfl)).trans ?_
  refine (gg_0 rfl (fun _ => rfl)).trans ?_
  refine (gg_nh (i := 2) (N := 26) rfl rfl (by decide) rfl rfl rfl).trans ?_
  refine (gg_ph (fs' := [.int 0, .int 0, .int 0, .ref (w.length + 1), .ref (w.length + 2), .int 0, .null, .null, .null, .null, .null, .null, .int 0, .int 0, .null, .null, .null, .null, .null, .null, .null, .null, .int 0, .int 0, .int 0, .null, .null, .null, .null, .null, .null, .null, .null, .null, .null, .null, .null, .null, .null, .null, .null, .null, .int 0, .int 0, .int 0, .int 0]) rfl rfl rfl rfl).trans ?_
  refine (gg_0 rfl (fun _ => rfl)).trans ?_
  refine (gg_0 rfl (fun _ => rfl)).trans ?_
  refine (gg_nh (i := 3) (N := 20) rfl rfl (by decide) rfl rfl rfl).trans ?_
  refine (gg_ph (fs' := [.int 0, .int 0, .int 0, .ref (w.length + 1), .ref (w.length + 2), .int 0, .ref (w.length + 3), .null, .null, .null, .null, .null, .int 0, .int 0, .null, .null, .null, .null, .null, .null, .null, .null, .int 0, .int 0, .int 0, .null, .null, .null, .null, .null, .null, .null, .null, .null, .null, .null, .null, .null, .null, .null, .null, .null, .int 0, .int 0, .int 0, .int 0]) rfl rfl rfl rfl).trans ?_
  refine (gg_0 rfl (fun _ => rfl)).trans ?_
  refine (gg_0 rfl (fun _ => rfl)).trans ?_
  refine (gg_nh (i := 4) (N := 120) rfl rfl (by decide) rfl rfl rfl).trans ?_
  refine (gg_ph (fs' := [.int 0, .int 0, .int 0, .ref (w.length + 1), .ref (w.length + 2), .int 0, .ref (w.length + 3), .ref (w.length + 4), .null, .null, .null, .null, .int 0, .int 0, .null, .null, .null, .null, .null, .null, .null, .null, .int 0, .int 0, .int 0, .null, .null, .null, .null, .null, .null, .null, .null, .null, .null, .null, .null, .null, .null, .null, .null, .null, .int 0, .int 0, .int 0, .int 0]) rfl rfl rfl rfl).trans ?_
  refine (gg_0 rfl (fun _ => rfl)).trans ?_
  refine (gg_0 rfl (fun _ => rfl)).trans ?_
  refine (gg_nh (i := 5) (N := 140) rfl rfl (by decide) rfl rfl rfl).trans ?_
  refine (gg_ph (fs' := [.int 0, .int 0, .int 0, .ref (w.length + 1), .ref (w.length + 2), .int 0, .ref (w.length + 3), .ref (w.length + 4), .ref (w.length + 5), .null, .null, .null, .int 0, .int 0, .null, .null, .null, .null, .null, .null, .null, .null, .int 0, .int 0, .int 0, .null, .null, .null, .null, .null, .null, .null, .null, .null, .null, .null, .null, .null, .null, .null, .null, .null, .int 0, .int 0, .int 0, .int 0]) rfl rfl rfl rfl).trans ?_
  refine (gg_0 rfl (fun _ => rfl)).trans ?_
  refine (gg_0 rfl (fun _ => rfl)).trans ?_
  refine (gg_nh (i := 6) (N := 14) rfl rfl (by decide) rfl rfl rfl).trans ?_
  refine (gg_ph (fs' := [.int 0, .int 0, .int 0, .ref (w.length + 1), .ref (w.length + 2), .int 0, .ref (w.length + 3), .ref (w.length + 4), .ref (w.length + 5), .ref (w.length + 6), .null, .null, .int 0, .int 0, .null, .null, .null, .null, .null, .null, .null, .null, .int 0, .int 0, .int 0, .null, .null, .null, .null, .null, .null, .null, .null, .null, .null, .null, .null, .null, .null, .null, .null, .null, .int 0, .int 0, .int 0, .int 0]) rfl rfl rfl rfl).trans ?_
  refine (gg_0 rfl (fun _ => rfl)).trans ?_
  refine (gg_0 rfl (fun _ => rfl)).trans ?_
  refine (gg_nh (i := 7) (N := 15) rfl rfl (by decide) rfl rfl rfl).trans ?_
  refine (gg_ph (fs' := [.int 0, .int 0, .int 0, .ref (w.length + 1), .ref (w.length + 2), .int 0, .ref (w.length + 3), .ref (w.length + 4), .ref (w.length + 5), .ref (w.length + 6), .ref (w.length + 7), .null, .int 0, .int 0, .null, .null, .null, .null, .null, .null, .null, .null, .int 0, .int 0, .int 0, .null, .null, .null, .null, .null, .null, .null, .null, .null, .null, .null, .null, .null, .null, .null, .null, .null, .int 0, .int 0, .int 0, .int 0]) rfl rfl rfl rfl).trans ?_
  refine (gg_0 rfl (fun _ => rfl)).trans ?_
  refine (gg_0 rfl (fun _ => rfl)).trans ?_
  refine (gg_nh (i := 8) (N := 480) rfl rfl (by decide) rfl rfl rfl).trans ?_
  refine (gg_ph (fs' := [.int 0, .int 0, .int 0, .ref (w.length + 1), .ref (w.length + 2), .int 0, .ref (w.length + 3), .ref (w.length + 4), .ref (w.length + 5), .ref (w.length + 6), .ref (w.length + 7), .ref (w.length + 8), .int 0, .int 0, .null, .null, .null, .null, .null, .null, .null, .null, .int 0, .int 0, .int 0, .null, .null, .null, .null, .null, .null, .null, .null, .null, .null, .null, .null, .null, .null, .null, .null, .null, .int 0, .int 0, .int 0, .int 0]) rfl rfl rfl rfl).trans ?_
  refine (gg_0 rfl (fun _ => rfl)).trans ?_
  refine (gg_0 rfl (fun _ => rfl)).trans ?_
  refine (gg_nh (i := 9) (N := 4) rfl rfl (by decide) rfl rfl rfl).trans ?_
  refine (gg_ph (fs' := [.int 0, .int 0, .int 0, .ref (w.length + 1), .ref (w.length + 2), .int 0, .ref (w.length + 3), .ref (w.length + 4), .ref (w.length + 5), .ref (w.length + 6), .ref (w.length + 7), .ref (w.length + 8), .int 0, .int 0, .ref (w.length + 9), .null, .null, .null, .null, .null, .null, .null, .int 0, .int 0, .int 0, .null, .null, .null, .null, .null, .null, .null, .null, .null, .null, .null, .null, .null, .null, .null, .null, .null, .int 0, .int 0, .int 0, .int 0]) rfl rfl rfl rfl).trans ?_
  refine (gg_0 rfl (fun _ => rfl)).trans ?_
  refine (gg_0 rfl (fun _ => rfl)).trans ?_
  refine (gg_nh (i := 10) (N := 4) rfl rfl (by decide) rfl rfl rfl).trans ?_
  refine (gg_ph (fs' := [.int 0, .int 0, .int 0, .ref (w.length + 1), .ref (w.length + 2), .int 0, .ref (w.length + 3), .ref (w.length + 4), .ref (w.length + 5), .ref (w.length + 6), .ref (w.length + 7), .ref (w.length + 8), .int 0, .int 0, .ref (w.length + 9), .ref (w.length + 10), .null, .null, .null, .null, .null, .null, .int 0, .int 0, .int 0, .null, .null, .null, .null, .null, .null, .null, .null, .null, .null, .null, .null, .null, .null, .null, .null, .null, .int 0, .int 0, .int 0, .int 0]) rfl rfl rfl rfl).trans ?_
  refine (gg_0 rfl (fun _ => rfl)).trans ?_
  refine (gg_0 rfl (fun _ => rfl)).trans ?_
  refine (gg_nh (i := 11) (N := 4) rfl rfl (by decide) rfl rfl rfl).trans ?_
  refine (gg_ph (fs' := [.int 0, .int 0, .int 0, .ref (w.length + 1), .ref (w.length + 2), .int 0, .ref (w.length + 3), .ref (w.length + 4), .ref (w.length + 5), .ref (w.length + 6), .ref (w.length + 7), .ref (w.length + 8), .int 0, .int 0, .ref (w.length + 9), .ref (w.length + 10), .ref (w.length + 11), .null, .null, .null, .null, .null, .int 0, .int 0, .int 0, .null, .null, .null, .null, .null, .null, .null, .null, .null, .null, .null, .null, .null, .null, .null, .null, .null, .int 0, .int 0, .int 0, .int 0]) rfl rfl rfl rfl).trans ?_
  refine (gg_0 rfl (fun _ => rfl)).trans ?_
  refine (gg_0 rfl (fun _ => rfl)).trans ?_
  refine (gg_nh (i := 12) (N := 4) rfl rfl (by decide) rfl rfl rfl).trans ?_
  refine (gg_ph (fs' := [.int 0, .int 0, .int 0, .ref (w.length + 1), .ref (w.length + 2), .int 0, .ref (w.length + 3), .ref (w.length + 4), .ref (w.length + 5), .ref (w.length + 6), .ref (w.length + 7), .ref (w.length + 8), .int 0, .int 0, .ref (w.length + 9), .ref (w.length + 10), .ref (w.length + 11), .ref (w.length + 12), .null, .null, .null, .null, .int 0, .int 0, .int 0, .null, .null, .null, .null, .null, .null, .null, .null, .null, .null, .null, .null, .null, .null, .null, .null, .null, .int 0, .int 0, .int 0, .int 0]) rfl rfl rfl rfl).trans ?_
  refine (gg_0 rfl (fun _ => rfl)).trans ?_
  refine (gg_0 rfl (fun _ => rfl)).trans ?_
  refine (gg_nh (i := 13) (N := 3840) rfl rfl (by decide) rfl rfl rfl).trans ?_
  refine (gg_ph (fs' := [.int 0, .int 0, .int 0, .ref (w.length + 1), .ref (w.length + 2), .int 0, .ref (w.length + 3), .ref (w.length + 4), .ref (w.length + 5), .ref (w.length + 6), .ref (w.length + 7), .ref (w.length + 8), .int 0, .int 0, .ref (w.length + 9), .ref (w.length + 10), .ref (w.length + 11), .ref (w.length + 12), .ref (w.length + 13), .null, .null, .null, .int 0, .int 0, .int 0, .null, .null, .null, .null, .null, .null, .null, .null, .null, .null, .null, .null, .null, .null, .null, .null, .null, .int 0, .int 0, .int 0, .int 0]) rfl rfl rfl rfl).trans ?_
  refine (gg_0 rfl (fun _ => rfl)).trans ?_
  refine (gg_0 rfl (fun _ => rfl)).trans ?_
  refine (gg_nh (i := 14) (N := 320) rfl rfl (by decide) rfl rfl rfl).trans ?_
  refine (gg_ph (fs' := [.int 0, .int 0, .int 0, .ref (w.length + 1), .ref (w.length + 2), .int 0, .ref (w.length + 3), .ref (w.length + 4), .ref (w.length + 5), .ref (w.length + 6), .ref (w.length + 7), .ref (w.length + 8), .int 0, .int 0, .ref (w.length + 9), .ref (w.length + 10), .ref (w.length + 11), .ref (w.length + 12), .ref (w.length + 13), .ref (w.length + 14), .null, .null, .int 0, .int 0, .int 0, .null, .null, .null, .null, .null, .null, .null, .null, .null, .null, .null, .null, .null, .null, .null, .null, .null, .int 0, .int 0, .int 0, .int 0]) rfl rfl rfl rfl).trans ?_
  refine (gg_0 rfl (fun _ => rfl)).trans ?_
  refine (gg_0 rfl (fun _ => rfl)).trans ?_
  refine (gg_nh (i := 15) (N := 20) rfl rfl (by decide) rfl rfl rfl).trans ?_
  refine (gg_ph (fs' := [.int 0, .int 0, .int 0, .ref (w.length + 1), .ref (w.length + 2), .int 0, .ref (w.length + 3), .ref (w.length + 4), .ref (w.length + 5), .ref (w.length + 6), .ref (w.length + 7), .ref (w.length + 8), .int 0, .int 0, .ref (w.length + 9), .ref (w.length + 10), .ref (w.length + 11), .ref (w.length + 12), .ref (w.length + 13), .ref (w.length + 14), .ref (w.length + 15), .null, .int 0, .int 0, .int 0, .null, .null, .null, .null, .null, .null, .null, .null, .null, .null, .null, .null, .null, .null, .null, .null, .null, .int 0, .int 0, .int 0, .int 0]) rfl rfl rfl rfl).trans ?_
  refine (gg_0 rfl (fun _ => rfl)).trans ?_
  refine (gg_0 rfl (fun _ => rfl)).trans ?_
  refine (gg_nh (i := 16) (N := 20) rfl rfl (by decide) rfl rfl rfl).trans ?_
  refine (gg_ph (fs' := [.int 0, .int 0, .int 0, .ref (w.length + 1), .ref (w.length + 2), .int 0, .ref (w.length + 3), .ref (w.length + 4), .ref (w.length + 5), .ref (w.length + 6), .ref (w.length + 7), .ref (w.length + 8), .int 0, .int 0, .ref (w.length + 9), .ref (w.length + 10), .ref (w.length + 11), .ref (w.length + 12), .ref (w.length + 13), .ref (w.length + 14), .ref (w.length + 15), .ref (w.length + 16), .int 0, .int 0, .int 0, .null, .null, .null, .null, .null, .null, .null, .null, .null, .null, .null, .null, .null, .null, .null, .null, .null, .int 0, .int 0, .int 0, .int 0]) rfl rfl rfl rfl).trans ?_
  refine (gg_0 rfl (fun _ => rfl)).trans ?_
  refine (gg_0 rfl (fun _ => rfl)).trans ?_
  refine (gg_ph (fs' := [.int 0, .int 0, .int 0, .ref (w.length + 1), .ref (w.length + 2), .int 0, .ref (w.length + 3), .ref (w.length + 4), .ref (w.length + 5), .ref (w.length + 6), .ref (w.length + 7), .ref (w.length + 8), .int 0, .int 0, .ref (w.length + 9), .ref (w.length + 10), .ref (w.length + 11), .ref (w.length + 12), .ref (w.length + 13), .ref (w.length + 14), .ref (w.length + 15), .ref (w.length + 16), .int 0, .int (-1), .int 0, .null, .null, .null, .null, .null, .null, .null, .null, .null, .null, .null, .null, .null, .null, .null, .null, .null, .int 0, .int 0, .int 0, .int 0]) rfl rfl rfl rfl).trans ?_
  refine (gg_0 rfl (fun _ => rfl)).trans ?_
  refine (gg_0 rfl (fun _ => rfl)).trans ?_
  refine (gg_nh (i := 17) (N := 4) rfl rfl (by decide) rfl rfl rfl).trans ?_
  refine (gg_ph (fs' := [.int 0, .int 0, .int 0, .ref (w.length + 1), .ref (w.length + 2), .int 0, .ref (w.length + 3), .ref (w.length + 4), .ref (w.length + 5), .ref (w.length + 6), .ref (w.length + 7), .ref (w.length + 8), .int 0, .int 0, .ref (w.length + 9), .ref (w.length + 10), .ref (w.length + 11), .ref (w.length + 12), .ref (w.length + 13), .ref (w.length + 14), .ref (w.length + 15), .ref (w.length + 16), .int 0, .int (-1), .int 0, .ref (w.length + 17), .null, .null, .null, .null, .null, .null, .null, .null, .null, .null, .null, .null, .null, .null, .null, .null, .int 0, .int 0, .int 0, .int 0]) rfl rfl rfl rfl).trans ?_
  refine (gg_0 rfl (fun _ => rfl)).trans ?_
  refine (gg_0 rfl (fun _ => rfl)).trans ?_
  refine (gg_nh (i := 18) (N := 4) rfl rfl (by decide) rfl rfl rfl).trans ?_
  refine (gg_ph (fs' := [.int 0, .int 0, .int 0, .ref (w.length + 1), .ref (w.length + 2), .int 0, .ref (w.length + 3), .ref (w.length + 4), .ref (w.length + 5), .ref (w.length + 6), .ref (w.length + 7), .ref (w.length + 8), .int 0, .int 0, .ref (w.length + 9), .ref (w.length + 10), .ref (w.length + 11), .ref (w.length + 12), .ref (w.length + 13), .ref (w.length + 14), .ref (w.length + 15), .ref (w.length + 16), .int 0, .int (-1), .int 0, .ref (w.length + 17), .ref (w.length + 18), .null, .null, .null, .null, .null, .null, .null, .null, .null, .null, .null, .null, .null, .null, .null, .int 0, .int 0, .int 0, .int 0]) rfl rfl rfl rfl).trans ?_
  refine (gg_0 rfl (fun _ => rfl)).trans ?_
  refine (gg_0 rfl (fun _ => rfl)).trans ?_
  refine (gg_nh (i := 19) (N := 164) rfl rfl (by decide) rfl rfl rfl).trans ?_
  refine (gg_ph (fs' := [.int 0, .int 0, .int 0, .ref (w.length + 1), .ref (w.length + 2), .int 0, .ref (w.length + 3), .ref (w.length + 4), .ref (w.length + 5), .ref (w.length + 6), .ref (w.length + 7), .ref (w.length + 8), .int 0, .int 0, .ref (w.length + 9), .ref (w.length + 10), .ref (w.length + 11), .ref (w.length + 12), .ref (w.length + 13), .ref (w.length + 14), .ref (w.length + 15), .ref (w.length + 16), .int 0, .int (-1), .int 0, .ref (w.length + 17), .ref (w.length + 18), .ref (w.length + 19), .null, .null, .null, .null, .null, .null, .null, .null, .null, .null, .null, .null, .null, .null, .int 0, .int 0, .int 0, .int 0]) rfl rfl rfl rfl).trans ?_
  refine (gg_0 rfl (fun _ => rfl)).trans ?_
  refine (gg_0 rfl (fun _ => rfl)).trans ?_
  refine (gg_nh (i := 20) (N := 164) rfl rfl (by decide) rfl rfl rfl).trans ?_
  refine (gg_ph (fs' := [.int 0, .int 0, .int 0, .ref (w.length + 1), .ref (w.length + 2), .int 0, .ref (w.length + 3), .ref (w.length + 4), .ref (w.length + 5), .ref (w.length + 6), .ref (w.length + 7), .ref (w.length + 8), .int 0, .int 0, .ref (w.length + 9), .ref (w.length + 10), .ref (w.length + 11), .ref (w.length + 12), .ref (w.length + 13), .ref (w.length + 14), .ref (w.length + 15), .ref (w.length + 16), .int 0, .int (-1), .int 0, .ref (w.length + 17), .ref (w.length + 18), .ref (w.length + 19), .ref (w.length + 20), .null, .null, .null, .null, .null, .null, .null, .null, .null, .null, .null, .null, .null, .int 0, .int 0, .int 0, .int 0]) rfl rfl rfl rfl).trans ?_
  refine (gg_0 rfl (fun _ => rfl)).trans ?_
  refine (gg_0 rfl (fun _ => rfl)).trans ?_
  refine (gg_nh (i := 21) (N := 164) rfl rfl (by decide) rfl rfl rfl).trans ?_
  refine (gg_ph (fs' := [.int 0, .int 0, .int 0, .ref (w.length + 1), .ref (w.length + 2), .int 0, .ref (w.length + 3), .ref (w.length + 4), .ref (w.length + 5), .ref (w.length + 6), .ref (w.length + 7), .ref (w.length + 8), .int 0, .int 0, .ref (w.length + 9), .ref (w.length + 10), .ref (w.length + 11), .ref (w.length + 12), .ref (w.length + 13), .ref (w.length + 14), .ref (w.length + 15), .ref (w.length + 16), .int 0, .int (-1), .int 0, .ref (w.length + 17), .ref (w.length + 18), .ref (w.length + 19), .ref (w.length + 20), .ref (w.length + 21), .null, .null, .null, .null, .null, .null, .null, .null, .null, .null, .null, .null, .int 0, .int 0, .int 0, .int 0]) rfl rfl rfl rfl).trans ?_
  refine (gg_0 rfl (fun _ => rfl)).trans ?_
  refine (gg_0 rfl (fun _ => rfl)).trans ?_
  refine (gg_nh (i := 22) (N := 16) rfl rfl (by decide) rfl rfl rfl).trans ?_
  refine (gg_ph (fs' := [.int 0, .int 0, .int 0, .ref (w.length + 1), .ref (w.length + 2), .int 0, .ref (w.length + 3), .ref (w.length + 4), .ref (w.length + 5), .ref (w.length + 6), .ref (w.length + 7), .ref (w.length + 8), .int 0, .int 0, .ref (w.length + 9), .ref (w.length + 10), .ref (w.length + 11), .ref (w.length + 12), .ref (w.length + 13), .ref (w.length + 14), .ref (w.length + 15), .ref (w.length + 16), .int 0, .int (-1), .int 0, .ref (w.length + 17), .ref (w.length + 18), .ref (w.length + 19), .ref (w.length + 20), .ref (w.length + 21), .ref (w.length + 22), .null, .null, .null, .null, .null, .null, .null, .null, .null, .null, .null, .int 0, .int 0, .int 0, .int 0]) rfl rfl rfl rfl).trans ?_
  refine (gg_0 rfl (fun _ => rfl)).trans ?_
  refine (gg_0 rfl (fun _ => rfl)).trans ?_
  refine (gg_nh (i := 23) (N := 193) rfl rfl (by decide) rfl rfl rfl).trans ?_
  refine (gg_ph (fs' := [.int 0, .int 0, .int 0, .ref (w.length + 1), .ref (w.length + 2), .int 0, .ref (w.length + 3), .ref (w.length + 4), .ref (w.length + 5), .ref (w.length + 6), .ref (w.length + 7), .ref (w.length + 8), .int 0, .int 0, .ref (w.length + 9), .ref (w.length + 10), .ref (w.length + 11), .ref (w.length + 12), .ref (w.length + 13), .ref (w.length + 14), .ref (w.length + 15), .ref (w.length + 16), .int 0, .int (-1), .int 0, .ref (w.length + 17), .ref (w.length + 18), .ref (w.length + 19), .ref (w.length + 20), .ref (w.length + 21), .ref (w.length + 22), .ref (w.length + 23), .null, .null, .null, .null, .null, .null, .null, .null, .null, .null, .int 0, .int 0, .int 0, .int 0]) rfl rfl rfl rfl).trans ?_
  refine (gg_0 rfl (fun _ => rfl)).trans ?_
  refine (gg_0 rfl (fun _ => rfl)).trans ?_
  refine (gg_nh (i := 24) (N := 193) rfl rfl (by decide) rfl rfl rfl).trans ?_
  refine (gg_ph (fs' := [.int 0, .int 0, .int 0, .ref (w.length + 1), .ref (w.length + 2), .int 0, .ref (w.length + 3), .ref (w.length + 4), .ref (w.length + 5), .ref (w.length + 6), .ref (w.length + 7), .ref (w.length + 8), .int 0, .int 0, .ref (w.length + 9), .ref (w.length + 10), .ref (w.length + 11), .ref (w.length + 12), .ref (w.length + 13), .ref (w.length + 14), .ref (w.length + 15), .ref (w.length + 16), .int 0, .int (-1), .int 0, .ref (w.length + 17), .ref (w.length + 18), .ref (w.length + 19), .ref (w.length + 20), .ref (w.length + 21), .ref (w.length + 22), .ref (w.length + 23), .ref (w.length + 24), .null, .null, .null, .null, .null, .null, .null, .null, .null, .int 0, .int 0, .int 0, .int 0]) rfl rfl rfl rfl).trans ?_
  refine (gg_0 rfl (fun _ => rfl)).trans ?_
  refine (gg_0 rfl (fun _ => rfl)).trans ?_
  refine (gg_nh (i := 25) (N := 193) rfl rfl (by decide) rfl rfl rfl).trans ?_
  refine (gg_ph (fs' := [.int 0, .int 0, .int 0, .ref (w.length + 1), .ref (w.length + 2), .int 0, .ref (w.length + 3), .ref (w.length + 4), .ref (w.length + 5), .ref (w.length + 6), .ref (w.length + 7), .ref (w.length + 8), .int 0, .int 0, .ref (w.length + 9), .ref (w.length + 10), .ref (w.length + 11), .ref (w.length + 12), .ref (w.length + 13), .ref (w.length + 14), .ref (w.length + 15), .ref (w.length + 16), .int 0, .int (-1), .int 0, .ref (w.length + 17), .ref (w.length + 18), .ref (w.length + 19), .ref (w.length + 20), .ref (w.length + 21), .ref (w.length + 22), .ref (w.length + 23), .ref (w.length + 24), .ref (w.length + 25), .null, .null, .null, .null, .null, .null, .null, .null, .int 0, .int 0, .int 0, .int 0]) rfl rfl rfl rfl).trans ?_
  refine (gg_0 rfl (fun _ => rfl)).trans ?_
  refine (gg_0 rfl (fun _ => rfl)).trans ?_
  refine (gg_nh (i := 26) (N := 193) rfl rfl (by decide) rfl rfl rfl).trans ?_
  refine (gg_ph (fs' := [.int 0, .int 0, .int 0, .ref (w.length + 1), .ref (w.length + 2), .int 0, .ref (w.length + 3), .ref (w.length + 4), .ref (w.length + 5), .ref (w.length + 6), .ref (w.length + 7), .ref (w.length + 8), .int 0, .int 0, .ref (w.length + 9), .ref (w.length + 10), .ref (w.length + 11), .ref (w.length + 12), .ref (w.length + 13), .ref (w.length + 14), .ref (w.length + 15), .ref (w.length + 16), .int 0, .int (-1), .int 0, .ref (w.length + 17), .ref (w.length + 18), .ref (w.length + 19), .ref (w.length + 20), .ref (w.length + 21), .ref (w.length + 22), .ref (w.length + 23), .ref (w.length + 24), .ref (w.length + 25), .ref (w.length + 26), .null, .null, .null, .null, .null, .null, .null, .int 0, .int 0, .int 0, .int 0]) rfl rfl rfl rfl).trans ?_
  refine (gg_0 rfl (fun _ => rfl)).trans ?_
  refine (gg_0 rfl (fun _ => rfl)).trans ?_
  refine (gg_nh (i := 27) (N := 8) rfl rfl (by decide) rfl rfl rfl).trans ?_
  refine (gg_ph (fs' := [.int 0, .int 0, .int 0, .ref (w.length + 1), .ref (w.length + 2), .int 0, .ref (w.length + 3), .ref (w.length + 4), .ref (w.length + 5), .ref (w.length + 6), .ref (w.length + 7), .ref (w.length + 8), .int 0, .int 0, .ref (w.length + 9), .ref (w.length + 10), .ref (w.length + 11), .ref (w.length + 12), .ref (w.length + 13), .ref (w.length + 14), .ref (w.length + 15), .ref (w.length + 16), .int 0, .int (-1), .int 0, .ref (w.length + 17), .ref (w.length + 18), .ref (w.length + 19), .ref (w.length + 20), .ref (w.length + 21), .ref (w.length + 22), .ref (w.length + 23), .ref (w.length + 24), .ref (w.length + 25), .ref (w.length + 26), .ref (w.length + 27), .null, .null, .null, .null, .null, .null, .int 0, .int 0, .int 0, .int 0]) rfl rfl rfl rfl).trans ?_
  refine (gg_0 rfl (fun _ => rfl)).trans ?_
  refine (gg_0 rfl (fun _ => rfl)).trans ?_
  refine (gg_nh (i := 28) (N := 88) rfl rfl (by decide) rfl rfl rfl).trans ?_
  refine (gg_ph (fs' := [.int 0, .int 0, .int 0, .ref (w.length + 1), .ref (w.length + 2), .int 0, .ref (w.length + 3), .ref (w.length + 4), .ref (w.length + 5), .ref (w.length + 6), .ref (w.length + 7), .ref (w.length + 8), .int 0, .int 0, .ref (w.length + 9), .ref (w.length + 10), .ref (w.length + 11), .ref (w.length + 12), .ref (w.length + 13), .ref (w.length + 14), .ref (w.length + 15), .ref (w.length + 16), .int 0, .int (-1), .int 0, .ref (w.length + 17), .ref (w.length + 18), .ref (w.length + 19), .ref (w.length + 20), .ref (w.length + 21), .ref (w.length + 22), .ref (w.length + 23), .ref (w.length + 24), .ref (w.length + 25), .ref (w.length + 26), .ref (w.length + 27), .ref (w.length + 28), .null, .null, .null, .null, .null, .int 0, .int 0, .int 0, .int 0]) rfl rfl rfl rfl).trans ?_
  refine (gg_0 rfl (fun _ => rfl)).trans ?_
  refine (gg_0 rfl (fun _ => rfl)).trans ?_
  refine (gg_nh (i := 29) (N := 192) rfl rfl (by decide) rfl rfl rfl).trans ?_
  refine (gg_ph (fs' := [.int 0, .int 0, .int 0, .ref (w.length + 1), .ref (w.length + 2), .int 0, .ref (w.length + 3), .ref (w.length + 4), .ref (w.length + 5), .ref (w.length + 6), .ref (w.length + 7), .ref (w.length + 8), .int 0, .int 0, .ref (w.length + 9), .ref (w.length + 10), .ref (w.length + 11), .ref (w.length + 12), .ref (w.length + 13), .ref (w.length + 14), .ref (w.length + 15), .ref (w.length + 16), .int 0, .int (-1), .int 0, .ref (w.length + 17), .ref (w.length + 18), .ref (w.length + 19), .ref (w.length + 20), .ref (w.length + 21), .ref (w.length + 22), .ref (w.length + 23), .ref (w.length + 24), .ref (w.length + 25), .ref (w.length + 26), .ref (w.length + 27), .ref (w.length + 28), .ref (w.length + 29), .null, .null, .null, .null, .int 0, .int 0, .int 0, .int 0]) rfl rfl rfl rfl).trans ?_
  refine (gg_0 rfl (fun _ => rfl)).trans ?_
  refine (gg_0 rfl (fun _ => rfl)).trans ?_
  refine (gg_nh (i := 30) (N := 4) rfl rfl (by decide) rfl rfl rfl).trans ?_
  refine (gg_ph (fs' := [.int 0, .int 0, .int 0, .ref (w.length + 1), .ref (w.length + 2), .int 0, .ref (w.length + 3), .ref (w.length + 4), .ref (w.length + 5), .ref (w.length + 6), .ref (w.length + 7), .ref (w.length + 8), .int 0, .int 0, .ref (w.length + 9), .ref (w.length + 10), .ref (w.length + 11), .ref (w.length + 12), .ref (w.length + 13), .ref (w.length + 14), .ref (w.length + 15), .ref (w.length + 16), .int 0, .int (-1), .int 0, .ref (w.length + 17), .ref (w.length + 18), .ref (w.length + 19), .ref (w.length + 20), .ref (w.length + 21), .ref (w.length + 22), .ref (w.length + 23), .ref (w.length + 24), .ref (w.length + 25), .ref (w.length + 26), .ref (w.length + 27), .ref (w.length + 28), .ref (w.length + 29), .ref (w.length + 30), .null, .null, .null, .int 0, .int 0, .int 0, .int 0]) rfl rfl rfl rfl).trans ?_
  refine (gg_0 rfl (fun _ => rfl)).trans ?_
  refine (gg_0 rfl (fun _ => rfl)).trans ?_
  refine (gg_nh (i := 31) (N := 4) rfl rfl (by decide) rfl rfl rfl).trans ?_
  refine (gg_ph (fs' := [.int 0, .int 0, .int 0, .ref (w.length + 1), .ref (w.length + 2), .int 0, .ref (w.length + 3), .ref (w.length + 4), .ref (w.length + 5), .ref (w.length + 6), .ref (w.length + 7), .ref (w.length + 8), .int 0, .int 0, .ref (w.length + 9), .ref (w.length + 10), .ref (w.length + 11), .ref (w.length + 12), .ref (w.length + 13), .ref (w.length + 14), .ref (w.length + 15), .ref (w.length + 16), .int 0, .int (-1), .int 0, .ref (w.length + 17), .ref (w.length + 18), .ref (w.length + 19), .ref (w.length + 20), .ref (w.length + 21), .ref (w.length + 22), .ref (w.length + 23), .ref (w.length + 24), .ref (w.length + 25), .ref (w.length + 26), .ref (w.length + 27), .ref (w.length + 28), .ref (w.length + 29), .ref (w.length + 30), .ref (w.length + 31), .null, .null, .int 0, .int 0, .int 0, .int 0]) rfl rfl rfl rfl).trans ?_
  refine (gg_0 rfl (fun _ => rfl)).trans ?_
  refine (gg_0 rfl (fun _ => rfl)).trans ?_
  refine (gg_nh (i := 32) (N := 205) rfl rfl (by decide) rfl rfl rfl).trans ?_
  refine (gg_ph (fs' := [.int 0, .int 0, .int 0, .ref (w.length + 1), .ref (w.length + 2), .int 0, .ref (w.length + 3), .ref (w.length + 4), .ref (w.length + 5), .ref (w.length + 6), .ref (w.length + 7), .ref (w.length + 8), .int 0, .int 0, .ref (w.length + 9), .ref (w.length + 10), .ref (w.length + 11), .ref (w.length + 12), .ref (w.length + 13), .ref (w.length + 14), .ref (w.length + 15), .ref (w.length + 16), .int 0, .int (-1), .int 0, .ref (w.length + 17), .ref (w.length + 18), .ref (w.length + 19), .ref (w.length + 20), .ref (w.length + 21), .ref (w.length + 22), .ref (w.length + 23), .ref (w.length + 24), .ref (w.length + 25), .ref (w.length + 26), .ref (w.length + 27), .ref (w.length + 28), .ref (w.length + 29), .ref (w.length + 30), .ref (w.length + 31), .ref (w.length + 32), .null, .int 0, .int 0, .int 0, .int 0]) rfl rfl rfl rfl).trans ?_
  refine (gg_0 rfl (fun _ => rfl)).trans ?_
  refine (gg_0 rfl (fun _ => rfl)).trans ?_
  refine (gg_nh (i := 33) (N := 5) rfl rfl (by decide) rfl rfl rfl).trans ?_
  refine (gg_ph (fs' := [.int 0, .int 0, .int 0, .ref (w.length + 1), .ref (w.length + 2), .int 0, .ref (w.length + 3), .ref (w.length + 4), .ref (w.length + 5), .ref (w.length + 6), .ref (w.length + 7), .ref (w.length + 8), .int 0, .int 0, .ref (w.length + 9), .ref (w.length + 10), .ref (w.length + 11), .ref (w.length + 12), .ref (w.length + 13), .ref (w.length + 14), .ref (w.length + 15), .ref (w.length + 16), .int 0, .int (-1), .int 0, .ref (w.length + 17), .ref (w.length + 18), .ref (w.length + 19), .ref (w.length + 20), .ref (w.length + 21), .ref (w.length + 22), .ref (w.length + 23), .ref (w.length + 24), .ref (w.length + 25), .ref (w.length + 26), .ref (w.length + 27), .ref (w.length + 28), .ref (w.length + 29), .ref (w.length + 30), .ref (w.length + 31), .ref (w.length + 32), .ref (w.length + 33), .int 0, .int 0, .int 0, .int 0]) rfl rfl rfl rfl).trans ?_
  refine (gg_0 rfl (fun _ => rfl)).trans ?_
  refine (gg_0 rfl (fun _ => rfl)).trans ?_
  refine (gg_0 rfl (fun _ => rfl)).trans ?_
  rfl
def zcl (v lo hi : Int32) : Int32 := if lo ≤ v then (if v ≤ hi then v else hi) else lo
section MD
variable {S : Nat × (Nat → Int32)} {w l : zM} {k : zK} {a1 a2 a3 : Int32} {t : Value}
theorem gg_pfk {j pc : Nat} {ls ls' : zL} {st : List Value} {m : List Bool} {i ci q nx : Nat} {fs : List Value} {v : Value} {ok : Value → Bool} (h : (zPg S.1 S.2).1 j pc = some (.inl (i_k m (i_pf ci q ok nx)))) (hk : zkl m ls = ls') (hl : l[i]? = some (.inr (ci, fs))) (hq : Nat.ble (q + 1) fs.length = true) (ho : ok v = true) : zl S j pc ls (v :: .ref (w.length + i) :: st) w l k = zl S j nx ls' st w (l.set i (.inr (ci, fs.set q v))) k := gg_i h (by
  unfold i_k i_pf
  dsimp only
  rw [gg_at, hl, hk]
  dsimp only
  rw [if_pos ⟨rfl, Nat.le_of_ble_eq_true hq, ho⟩, gg_st])
theorem md2 : zl S 94 280 [some (.ref (w.length + 0)), some (.int a1), some (.int a2), some (.int a3), none] [.int 1, .int a1, t] w l k = zl S 94 297 [some (.ref (w.length + 0)), some (.int a1), some (.int a2), some (.int a3), none] [.int (zcl a1 1 4), t] w l k := by
  unfold zcl
  by_cases h1 : 1 ≤ a1
  · rw [if_pos h1]
    refine (gg_f2t rfl (decide_eq_true h1)).trans ?_
    refine (gg_0 rfl (fun _ => rfl)).trans ?_
    refine (gg_0 rfl (fun _ => rfl)).trans ?_
    by_cases h2 : a1 ≤ 4
    · rw [if_pos h2]
      refine (gg_f2t rfl (decide_eq_true h2)).trans ?_
      refine (gg_0 rfl (fun _ => rfl)).trans ?_
      rfl
    · rw [if_neg h2]
      refine (gg_f2 rfl (decide_eq_false h2)).trans ?_
      refine (gg_0 rfl (fun _ => rfl)).trans ?_
      refine (gg_0 rfl (fun _ => rfl)).trans ?_
      rfl
  · rw [if_neg h1]
    refine (gg_f2 rfl (decide_eq_false h1)).trans ?_
    refine (gg_0 rfl (fun _ => rfl)).trans ?_
    refine (gg_0 rfl (fun _ => rfl)).trans ?_
    rfl
theorem md3 {o : Option Value} : zl S 94 303 [some (.ref (w.length + 0)), o, some (.int a2), some (.int a3), none] [.int 4, .int a2, t] w l k = zl S 94 322 [some (.ref (w.length + 0)), o, some (.int a2), some (.int a3), none] [.int (zcl a2 4 16), t] w l k := by
  unfold zcl
  by_cases h1 : 4 ≤ a2
  · rw [if_pos h1]
    refine (gg_f2t rfl (decide_eq_true h1)).trans ?_
    refine (gg_0 rfl (fun _ => rfl)).trans ?_
    refine (gg_0 rfl (fun _ => rfl)).trans ?_
    by_cases h2 : a2 ≤ 16
    · rw [if_pos h2]
      refine (gg_f2t rfl (decide_eq_true h2)).trans ?_
      refine (gg_0 rfl (fun _ => rfl)).trans ?_
      rfl
    · rw [if_neg h2]
      refine (gg_f2 rfl (decide_eq_false h2)).trans ?_
      refine (gg_0 rfl (fun _ => rfl)).trans ?_
      refine (gg_0 rfl (fun _ => rfl)).trans ?_
      rfl
  · rw [if_neg h1]
    refine (gg_f2 rfl (decide_eq_false h1)).trans ?_
    refine (gg_0 rfl (fun _ => rfl)).trans ?_
    refine (gg_0 rfl (fun _ => rfl)).trans ?_
    rfl
theorem md4 {o o2 : Option Value} : zl S 94 329 [some (.ref (w.length + 0)), o, o2, some (.int a3), none] [.int 16, .int a3, t] w l k = zl S 94 349 [some (.ref (w.length + 0)), o, o2, some (.int a3), none] [.int (zcl a3 16 60), t] w l k := by
  unfold zcl
  by_cases h1 : 16 ≤ a3
  · rw [if_pos h1]
    refine (gg_f2t rfl (decide_eq_true h1)).trans ?_
    refine (gg_0 rfl (fun _ => rfl)).trans ?_
    refine (gg_0 rfl (fun _ => rfl)).trans ?_
    by_cases h2 : a3 ≤ 60
    · rw [if_pos h2]
      refine (gg_f2t rfl (decide_eq_true h2)).trans ?_
      refine (gg_0 rfl (fun _ => rfl)).trans ?_
      rfl
    · rw [if_neg h2]
      refine (gg_f2 rfl (decide_eq_false h2)).trans ?_
      refine (gg_0 rfl (fun _ => rfl)).trans ?_
      refine (gg_0 rfl (fun _ => rfl)).trans ?_
      rfl
  · rw [if_neg h1]
    refine (gg_f2 rfl (decide_eq_false h1)).trans ?_
    refine (gg_0 rfl (fun _ => rfl)).trans ?_
    refine (gg_0 rfl (fun _ => rfl)).trans ?_
    rfl
theorem md5 {c r d : Int32} : ∀ (m i : Nat) (f : Nat → Int32), 26 = i + m → zl S 94 355 [some (.ref (w.length + 0)), none, none, none, some (.int (nI i))] [] w (mo10 w.length c r d f) k = some (none, w ++ mo10 w.length c r d (fun q => if i ≤ q ∧ q < 26 then 4 else f q), k) := by
  intro m
  induction m with
  | zero =>
    intro i f hm
    have hi : i = 26 := by omega
    subst hi
    refine (gg_0 rfl (fun _ => rfl)).trans ?_
    refine (gg_0 rfl (fun _ => rfl)).trans ?_
    refine (gg_f2t rfl (by decide +kernel)).trans ?_
    refine (zD_rv rfl).trans ?_
    have : (fun q => if 26 ≤ q ∧ q < 26 then (4 : Int32) else f q) = f := by
      funext q
      rw [if_neg (by omega)]
    rw [this]
  | succ m ih =>
    intro i f hm
    refine (gg_0 rfl (fun _ => rfl)).trans ?_
    refine (gg_0 rfl (fun _ => rfl)).trans ?_
    refine (gg_f2 rfl (decide_eq_false (by rw [show (26 : Int32) = nI 26 from rfl]; exact nI_ge (by omega) (by omega)))).trans ?_
    refine (gg_0 rfl (fun _ => rfl)).trans ?_
    refine (gg_gf (i := 0) rfl rfl rfl).trans ?_
    refine (gg_0 rfl (fun _ => rfl)).trans ?_
    refine (gg_0 rfl (fun _ => rfl)).trans ?_
    have e : zl S 94 369 [some (.ref (w.length + 0)), none, none, none, some (.int (nI i))] [.int 4, .int (nI i), .ref (w.length + 1)] w (mo10 w.length c r d f) k = zl S 94 370 [some (.ref (w.length + 0)), none, none, none, some (.int (nI i))] [] w (mo10 w.length c r d (upd f i 4)) k := by
      refine gg_i rfl ?_
      unfold i_pa
      dsimp only
      rw [gg_at]
      show (if 0 = 0 ∧ zin (nI i) 26 = true then _ else none) = _
      rw [if_pos ⟨rfl, zin_n (by omega) (by omega)⟩, nI_clamp (by omega), gg_st]
      rfl
    refine e.trans ?_
    refine (gg_0 rfl (fun _ => rfl)).trans ?_
    refine (gg_0 rfl (fun _ => rfl)).trans ?_
    have h1 := ih (i + 1) (upd f i 4) (by omega)
    rw [← nI_1] at h1
    have e2 : (fun q => if i + 1 ≤ q ∧ q < 26 then 4 else upd f i 4 q) = (fun q => if i ≤ q ∧ q < 26 then 4 else f q) := by
      funext q
      unfold upd
      by_cases hq : q = i
      · subst hq
        rw [if_neg (by omega), if_pos rfl, if_pos (by omega)]
      · by_cases h2 : i ≤ q ∧ q < 26
        · rw [if_pos (by omega), if_pos h2]
        · rw [if_neg (by omega), if_neg hq, if_neg h2]
    rw [e2] at h1
    exact h1
end MD
set_option maxHeartbeats 4000000 in
theorem mc10 (S : Nat × (Nat → Int32)) (w : zM) (a1 a2 a3 : Int32) : zm (zPg S.1 S.2) 94 [.ref w.length, .int a1, .int a2, .int a3] (w ++ [.inr (10, [.int 0, .int 0, .int 0, .null, .null, .int 0, .null, .null, .null, .null, .null, .null, .int 0, .int 0, .null, .null, .null, .null, .null, .null, .null, .null, .int 0, .int 0, .int 0, .null, .null, .null, .null, .null, .null, .null, .null, .null, .null, .null, .null, .null, .null, .null, .null, .null, .int 0, .int 0, .int 0, .int 0])]) = some (none, w ++ mo10 w.length (zcl a1 1 4) (zcl a2 4 16) (zcl a3 16 60) (fun q => if q < 26 then 4 else 0)) := by
  have key : zl S 94 0 [some (.ref (w.length + 0)), some (.int a1), some (.int a2), some (.int a3), none] [] w [.inr (10, [.int 0, .int 0, .int 0, .null, .null, .int 0, .null, .null, .null, .null, .null, .null, .int 0, .int 0, .null, .null, .null, .null, .null, .null, .null, .null, .int 0, .int 0, .int 0, .null, .null, .null, .null, .null, .null, .null, .null, .null, .null, .null, .null, .null, .null, .null, .null, .null, .int 0, .int 0, .int 0, .int 0])] (0, 0) = some (none, w ++ mo10 w.length (zcl a1 1 4) (zcl a2 4 16) (zcl a3 16 60) (fun q => if q < 26 then 4 else 0), mBu 94) := by
    refine (md1 S w a1 a2 a3).trans ?_
    refine md2.trans ?_
    refine (gg_pfk (i := 0) rfl rfl rfl rfl rfl).trans ?_
    refine (gg_0 rfl (fun _ => rfl)).trans ?_
    refine (gg_0 rfl (fun _ => rfl)).trans ?_
    refine (gg_0 rfl (fun _ => rfl)).trans ?_
    refine md3.trans ?_
    refine (gg_pfk (i := 0) rfl rfl rfl rfl rfl).trans ?_
    refine (gg_0 rfl (fun _ => rfl)).trans ?_
    refine (gg_0 rfl (fun _ => rfl)).trans ?_
    refine (gg_0 rfl (fun _ => rfl)).trans ?_
    refine md4.trans ?_
    refine (gg_pfk (i := 0) rfl rfl rfl rfl rfl).trans ?_
    refine (gg_0 rfl (fun _ => rfl)).trans ?_
    refine (gg_0 rfl (fun _ => rfl)).trans ?_
    have h5 := md5 (S := S) (w := w) (k := mBu 94) (c := zcl a1 1 4) (r := zcl a2 4 16) (d := zcl a3 16 60) 26 0 (fun _ => 0) rfl
    have e2 : (fun q => if 0 ≤ q ∧ q < 26 then (4 : Int32) else 0) = (fun q => if q < 26 then 4 else 0) := by
      funext q
      by_cases h : q < 26
      · rw [if_pos ⟨Nat.zero_le _, h⟩, if_pos h]
      · rw [if_neg (by omega), if_neg h]
    rw [e2] at h5
    exact h5
  unfold zm
  show (zl S 94 0 [some (.ref (w.length + 0)), some (.int a1), some (.int a2), some (.int a3), none] [] w [.inr (10, [.int 0, .int 0, .int 0, .null, .null, .int 0, .null, .null, .null, .null, .null, .null, .int 0, .int 0, .null, .null, .null, .null, .null, .null, .null, .null, .int 0, .int 0, .int 0, .null, .null, .null, .null, .null, .null, .null, .null, .null, .null, .null, .null, .null, .null, .null, .null, .null, .int 0, .int 0, .int 0, .int 0])] (0, 0)).bind _ = _
  rw [key]
  rfl
