/-! what the small machine does, the machine does -/
def zv (base b : Nat) : Value → Value
  | .ref i => .ref (base + i)
  | .float _ => .ref b
  | v => v
theorem zv_cat (base b : Nat) (v : Value) : (zv base b v).category = v.category := by cases v <;> rfl
def zx (base : Nat) (x : (Nat → Int32) ⊕ (Nat → Int64) ⊕ (Nat → UInt32) ⊕ (Nat → UInt64) ⊕ (Nat → Option Nat)) : (Nat → Int32) ⊕ (Nat → Int64) ⊕ (Nat → UInt32) ⊕ (Nat → UInt64) ⊕ (Nat → Option Nat) := match x with
  | .inr (.inr (.inr (.inr f))) => .inr (.inr (.inr (.inr (fun j => (f j).map (fun i => base + i)))))
  | .inl f => .inl f
  | .inr (.inl f) => .inr (.inl f)
  | .inr (.inr (.inl f)) => .inr (.inr (.inl f))
  | .inr (.inr (.inr (.inl f))) => .inr (.inr (.inr (.inl f)))
def ze (base b : Nat) (tc : Nat → ClassId) : va_E → va_E
  | .inl (t, n, x) => .inl (tc t, n, zx base x)
  | .inr (ci, fs) => .inr (ci, fs.map (zv base b))
def zw (base b : Nat) (tc : Nat → ClassId) (w : zM) : va_W := w.mapIdx (fun i e => (base + i, ze base b tc e))
section ZW
variable {base b : Nat} {tc : Nat → ClassId} {w : zM}
theorem zw_get {i : Nat} {e : va_E} (h : w[i]? = some e) : (zw base b tc w)[i]? = some (base + i, ze base b tc e) := by
  unfold zw
  rw [List.getElem?_mapIdx, h]
  rfl
theorem zw_of {i : Nat} {q : Nat × va_E} (h : (zw base b tc w)[i]? = some q) : ∃ e, w[i]? = some e ∧ q = (base + i, ze base b tc e) := by
  unfold zw at h
  rw [List.getElem?_mapIdx] at h
  cases hw : w[i]? with
  | none => rw [hw] at h; cases h
  | some e => rw [hw] at h; exact ⟨e, rfl, (Option.some.inj h).symm⟩
theorem zw_D : va_D (fun q => base ≤ q) (zw base b tc w) := by
  refine ⟨fun i j x y hi hj hxy => ?_, fun i q hi => ?_⟩
  · obtain ⟨e, -, rfl⟩ := zw_of hi
    obtain ⟨e', -, rfl⟩ := zw_of hj
    have : base + i = base + j := hxy
    omega
  · obtain ⟨e, -, rfl⟩ := zw_of hi
    exact Nat.le_add_right base i
theorem zw_set (i : Nat) (e : va_E) : (zw base b tc w).set i (base + i, ze base b tc e) = zw base b tc (w.set i e) := by
  unfold zw
  rw [List.mapIdx_set]
theorem zw_push (e : va_E) : zw base b tc w ++ [(base + w.length, ze base b tc e)] = zw base b tc (w ++ [e]) := by
  unfold zw
  rw [List.mapIdx_concat]
theorem zw_len : (zw base b tc w).length = w.length := by
  unfold zw
  rw [List.length_mapIdx]
end ZW
/-- the locals -/
def zLo (base b nL : Nat) (ls : zL) (LS : Array Slot) : Prop := ls.length = nL ∧ ∃ lv, lv_has LS nL lv ∧ ∀ (i : Nat) (v : Value), ls[i]? = some (some v) → (i, zv base b v) ∈ lv
theorem zLo.at {base b nL : Nat} {ls : zL} {LS : Array Slot} (h : zLo base b nL ls LS) {i : Nat} {v : Value} (hi : ls[i]? = some (some v)) : LS[i]? = some (.val (zv base b v)) := by
  obtain ⟨-, lv, h1, h2⟩ := h
  exact h1.2.2 _ (h2 i v hi)
theorem zc2_iff (v : Value) : zc2 v = true ↔ v.category = 2 := by cases v <;> simp [zc2, Value.category]
theorem zclr_len (ls : zL) (i : Nat) : (zclr ls i).length = ls.length := by
  unfold zclr
  split
  · rfl
  · split
    · rename_i v _
      cases zc2 v
      · rfl
      · exact List.length_set
    · rfl
theorem zclr_at {ls : zL} {i k : Nat} {v : Value} (h : (zclr ls i)[k]? = some (some v)) : ls[k]? = some (some v) ∧ (k + 1 = i → ¬ v.category = 2) := by
  unfold zclr at h
  split at h
  · exact ⟨h, fun q => by omega⟩
  · rename_i i
    split at h
    · rename_i u hu
      cases hz : zc2 u with
      | true =>
        rw [hz] at h
        have h : (ls.set i none)[k]? = some (some v) := h
        by_cases hk : i = k
        · subst hk
          rw [List.getElem?_set_self (List.getElem?_eq_some_iff.mp hu).1] at h
          cases h
        · rw [List.getElem?_set_ne hk] at h
          exact ⟨h, fun q => by omega⟩
      | false =>
        rw [hz] at h
        have h : ls[k]? = some (some v) := h
        refine ⟨h, fun q hv => ?_⟩
        have hk : k = i := by omega
        subst hk
        have hvu : v = u := by
          have := h.symm.trans hu
          cases this
          rfl
        subst hvu
        rw [(zc2_iff v).mpr hv] at hz
        cases hz
    · rename_i hx
      refine ⟨h, fun q _ => ?_⟩
      have hk : k = i := by omega
      subst hk
      exact hx v h
theorem zLo.set1 {base b nL : Nat} {ls : zL} {LS' : Array Slot} {i : Nat} {v : Value} {lv : List (Nat × Value)} (hn : ls.length = nL) (h2 : ∀ (i : Nat) (v : Value), ls[i]? = some (some v) → (i, zv base b v) ∈ lv)
    (h' : lv_has LS' nL ((i, zv base b v) :: lv.filter (fun q => !(q.1 == i) && !(q.1 + 1 == i && q.2.category == 2)))) : zLo base b nL ((zclr ls i).set i (some v)) LS' := by
  refine ⟨by rw [List.length_set, zclr_len]; exact hn, _, h', fun k u hk => ?_⟩
  by_cases hki : i = k
  · subst hki
    have hl : i < (zclr ls i).length := by
      have := (List.getElem?_eq_some_iff.mp hk).1
      rwa [List.length_set] at this
    rw [List.getElem?_set_self hl] at hk
    cases hk
    exact List.mem_cons_self
  · rw [List.getElem?_set_ne hki] at hk
    obtain ⟨g1, g2⟩ := zclr_at hk
    refine List.mem_cons_of_mem _ (List.mem_filter.mpr ⟨h2 k u g1, ?_⟩)
    have e1 : (k == i) = false := beq_eq_false_iff_ne.mpr (fun q => hki q.symm)
    have e2 : (k + 1 == i && (zv base b u).category == 2) = false := by
      by_cases hk1 : k + 1 = i
      · rw [zv_cat, Bool.and_eq_false_iff]
        exact Or.inr (beq_eq_false_iff_ne.mpr (g2 hk1))
      · rw [Bool.and_eq_false_iff]
        exact Or.inl (beq_eq_false_iff_ne.mpr hk1)
    show (!(k == i) && !(k + 1 == i && (zv base b u).category == 2)) = true
    rw [e1, e2]
    rfl
theorem zLo.set2 {base b nL : Nat} {ls : zL} {LS' : Array Slot} {i : Nat} {v : Value} {lv : List (Nat × Value)} (hn : ls.length = nL) (h2 : ∀ (i : Nat) (v : Value), ls[i]? = some (some v) → (i, zv base b v) ∈ lv)
    (h' : lv_has LS' nL ((i, zv base b v) :: lv.filter (fun q => !(q.1 == i) && (!(q.1 == i + 1) && !(q.1 + 1 == i && q.2.category == 2))))) : zLo base b nL (((zclr ls i).set i (some v)).set (i + 1) none) LS' := by
  refine ⟨by rw [List.length_set, List.length_set, zclr_len]; exact hn, _, h', fun k u hk => ?_⟩
  have hk1 : ¬ i + 1 = k := by
    intro q
    subst q
    have hl := (List.getElem?_eq_some_iff.mp hk).1
    rw [List.length_set] at hl
    rw [List.getElem?_set_self hl] at hk
    cases hk
  rw [List.getElem?_set_ne hk1] at hk
  by_cases hki : i = k
  · subst hki
    have hl : i < (zclr ls i).length := by
      have := (List.getElem?_eq_some_iff.mp hk).1
      rwa [List.length_set] at this
    rw [List.getElem?_set_self hl] at hk
    cases hk
    exact List.mem_cons_self
  · rw [List.getElem?_set_ne hki] at hk
    obtain ⟨g1, g2⟩ := zclr_at hk
    refine List.mem_cons_of_mem _ (List.mem_filter.mpr ⟨h2 k u g1, ?_⟩)
    have e1 : (k == i) = false := beq_eq_false_iff_ne.mpr (fun q => hki q.symm)
    have e3 : (k == i + 1) = false := beq_eq_false_iff_ne.mpr (fun q => hk1 q.symm)
    have e2 : (k + 1 == i && (zv base b u).category == 2) = false := by
      by_cases hk1 : k + 1 = i
      · rw [zv_cat, Bool.and_eq_false_iff]
        exact Or.inr (beq_eq_false_iff_ne.mpr (g2 hk1))
      · rw [Bool.and_eq_false_iff]
        exact Or.inl (beq_eq_false_iff_ne.mpr hk1)
    show (!(k == i) && (!(k == i + 1) && !(k + 1 == i && (zv base b u).category == 2))) = true
    rw [e1, e2, e3]
    rfl
/-- the cells; what stands since the method's entry -/
def zH (base b : Nat) (tc : Nat → ClassId) (D : va_G) (w : zM) (s : State) (H : Heap) (locs : List Loc) : Prop :=
  va_P D zCl (zw base b tc w) H ∧ va_S (fun q => base ≤ q) s.heap H locs ∧ base ≤ s.heap.size
/-- words that hold of the tables beside the list: nest mates, arrays of objects -/
def zN (U : State) : Prop := (∀ x ∈ zFL, va_Nw (.fieldLinkNest x.1 x.2.1 x.2.2.1 x.2.2.2.1 x.2.2.2.2.1 x.2.2.2.2.2) U) ∧ (∀ x ∈ zML, va_Nw (.methodLinkNest x.1 x.2.1 x.2.2.1 x.2.2.2) U) ∧ ∀ x ∈ zAO, va_AO x U
theorem zN.same {u U : State} (h : u.vm = U.vm) (hN : zN u) : zN U := by
  refine ⟨fun x hx => (hN.1 x hx).same rfl h, fun x hx => (hN.2.1 x hx).same rfl h, fun x hx => ?_⟩
  refine va_AO.moved ?_ (hN.2.2 x hx)
  rw [h]
  exact Vm.Alike.refl _
theorem zN.warm {s U : State} (hW : s.WarmedH U.vm) (hN : zN s) : zN U :=
  ⟨fun x hx => (hN.1 x hx).warmF hW, fun x hx => (hN.2.1 x hx).warmM hW, fun x hx => (hN.2.2 x hx).moved hW.alike⟩
/-- where a walk stands: method j, entered at s -/
def zX (p : Program) (R : Room) (s : State) (m : MethodId) (args : Array Value) (meth : Method) (c : Code) (j base b L : Nat) (xs : Nat → Int32) (tc : Nat → ClassId) (D : va_G) (n0 : Nat) : Prop :=
  p.tables.exec = Jvm.exec ∧ c.code = mB j ∧ meth.sig.returnType = mRt j ∧ meth.locks = false ∧ c.maxLocals = mMx j ∧ s.vm.findClass (mOw j) = some m.cls ∧ meth.name = (mY j).name ∧ (∀ w ∈ zWS, w.before args s = true) ∧ zN s ∧ va_K D zCl (zTy tc) s ∧ R.cells = (mBu j).1 ∧ R.slots = (mBu j).2 ∧ mDp j ≤ R.frames ∧ 40 * mDp j ≤ R.locals ∧ s.heap.size = base + n0 ∧ va_X b L xs s s.heap ∧ b < base
/-- an instruction is sound -/
def zS (L : Nat) (xs : Nat → Int32) (j pc : Nat) (g : zF) : Prop :=
  ∀ (p : Program) (l : Launch) (e : Env) (R : Room) (s : State) (m : MethodId) (args : Array Value) (below : List Frame) (meth : Method) (c : Code) (base b : Nat) (tc : Nat → ClassId) (D : va_G) (n0 : Nat) (Q : State → Prop) (ls : zL) (st : List Value) (w : zM) (k : zK) (q : zC) (LS : Array Slot) (H : Heap) (locs : List Loc),
    zX p R s m args meth c j base b L xs tc D n0 → g ls st w k = some q → zLo base b (mMx j) ls LS → zH base b tc D w s H locs → w.length = n0 + k.1 →
    (∀ (LS' : Array Slot) (H' : Heap) (locs' : List Loc), zLo base b (mMx j) q.2.1 LS' → zH base b tc D q.2.2.2.1 s H' locs' → q.2.2.2.1.length = n0 + q.2.2.2.2.1 → W p l e R s m args below meth c H' locs' q.2.2.2.2.1 q.2.2.2.2.2 Q (F0 m q.1 LS' (q.2.2.1.map (zv base b)))) →
    W p l e R s m args below meth c H locs k.1 k.2 Q (F0 m pc LS (st.map (zv base b)))
/-- the heap is as large as the cells say -/
theorem zsized {p : Program} {l : Launch} {e : Env} {R : Room} {s : State} {m : MethodId} {args : Array Value} {below : List Frame} {meth : Method} {c : Code} {H : Heap} {locs : List Loc} {cells slots : Nat} {Q : State → Prop} {g : JFrame}
    (kk : H.size ≤ s.heap.size + cells → W p l e R s m args below meth c H locs cells slots Q g) : W p l e R s m args below meth c H locs cells slots Q g :=
  fun T hT X => kk (by rw [← hT]; exact X.heapSize) T hT X
theorem zH.size {base b : Nat} {tc : Nat → ClassId} {D : va_G} {w : zM} {s : State} {H : Heap} {locs : List Loc} {n0 kc : Nat} (h : zH base b tc D w s H locs) (hs : s.heap.size = base + n0) (hw : w.length = n0 + kc) (hz : H.size ≤ s.heap.size + kc) : H.size = base + w.length := by
  have h1 : base + w.length ≤ H.size := by
    by_cases hl : w.length = 0
    · have := h.2.1.1
      omega
    · have hi : w.length - 1 < w.length := by omega
      have hg := h.1 _ _ (zw_get (base := base) (b := b) (tc := tc) (List.getElem?_eq_getElem hi))
      have := hg.lt
      dsimp only at this
      omega
  omega
section ZOPS
variable {L : Nat} {xs : Nat → Int32} {j pc : Nat}
theorem zkl_len : ∀ (m : List Bool) (l : zL), (zkl m l).length = l.length
  | true :: m, _ :: l => congrArg (· + 1) (zkl_len m l)
  | false :: m, _ :: l => congrArg (· + 1) (zkl_len m l)
  | true :: _, [] => rfl
  | false :: _, [] => rfl
  | [], _ => rfl
theorem zkl_at : ∀ (m : List Bool) (l : zL) (i : Nat) (v : Value), (zkl m l)[i]? = some (some v) → l[i]? = some (some v)
  | true :: m, _ :: l, 0, v, h => by cases h
  | true :: m, _ :: l, i + 1, v, h => zkl_at m l i v h
  | false :: m, _ :: l, 0, v, h => h
  | false :: m, _ :: l, i + 1, v, h => zkl_at m l i v h
  | true :: _, [], _, _, h => h
  | false :: _, [], _, _, h => h
  | [], _, _, _, h => h
theorem zS_k {m : List Bool} {g : zF} (h : zS L xs j pc g) : zS L xs j pc (i_k m g) := by
  intro p l e R s mm args below meth c base b tc D n0 Q ls st w k q LS H locs hX hg hlo hH hw kk
  obtain ⟨hn, lv, h1, h2⟩ := hlo
  exact h p l e R s mm args below meth c base b tc D n0 Q (zkl m ls) st w k q LS H locs hX hg ⟨by rw [zkl_len]; exact hn, lv, h1, fun i v hi => h2 i v (zkl_at m ls i v hi)⟩ hH hw kk
theorem zS_iconst {n : Int} {v : Int32} (hd : decode (mB j) pc = .ok (.iconst n, 1)) (hv : Int32.ofInt n = v) : zS L xs j pc (i_c (.int v) (pc + 1)) := by
  intro p l e R s m args below meth c base b tc D n0 Q ls st w k q LS H locs hX hg hlo hH hw kk
  obtain ⟨hx, hb, hr, hlk, hml, hown, hnm, hts, hN, hK, hRc, hRs, hRf, hRl, hsz, hXs, hbb⟩ := hX
  unfold i_c at hg
  cases hg
  exact lv_iconst hx hb hd hv (kk _ _ _ hlo hH hw)
theorem zS_bipush {n : Int} {v : Int32} (hd : decode (mB j) pc = .ok (.bipush n, 2)) (hv : (Int8.ofInt n).toInt32 = v) : zS L xs j pc (i_c (.int v) (pc + 2)) := by
  intro p l e R s m args below meth c base b tc D n0 Q ls st w k q LS H locs hX hg hlo hH hw kk
  obtain ⟨hx, hb, hr, hlk, hml, hown, hnm, hts, hN, hK, hRc, hRs, hRf, hRl, hsz, hXs, hbb⟩ := hX
  unfold i_c at hg
  cases hg
  exact lv_bipush hx hb hd hv (kk _ _ _ hlo hH hw)
theorem zS_sipush {n : Int} {v : Int32} (hd : decode (mB j) pc = .ok (.sipush n, 3)) (hv : (Int16.ofInt n).toInt32 = v) : zS L xs j pc (i_c (.int v) (pc + 3)) := by
  intro p l e R s m args below meth c base b tc D n0 Q ls st w k q LS H locs hX hg hlo hH hw kk
  obtain ⟨hx, hb, hr, hlk, hml, hown, hnm, hts, hN, hK, hRc, hRs, hRf, hRl, hsz, hXs, hbb⟩ := hX
  unfold i_c at hg
  cases hg
  exact lv_sipush hx hb hd hv (kk _ _ _ hlo hH hw)
theorem zS_lconst {n : Fin 2} {v : Int64} (hd : decode (mB j) pc = .ok (.lconst n, 1)) (hv : Int64.ofNat (n : Nat) = v) : zS L xs j pc (i_c (.long v) (pc + 1)) := by
  intro p l e R s m args below meth c base b tc D n0 Q ls st w k q LS H locs hX hg hlo hH hw kk
  obtain ⟨hx, hb, hr, hlk, hml, hown, hnm, hts, hN, hK, hRc, hRs, hRf, hRl, hsz, hXs, hbb⟩ := hX
  unfold i_c at hg
  cases hg
  exact lv_lconst hx hb hd hv (kk _ _ _ hlo hH hw)
theorem zS_ldc {n : Nat} {v : Int32} (hd : decode (mB j) pc = .ok (.ldc n, 2)) (hc : Cond.constant (mOw j) n v ∈ zWS) : zS L xs j pc (i_c (.int v) (pc + 2)) := by
  intro p l e R s m args below meth c base b tc D n0 Q ls st w k q LS H locs hX hg hlo hH hw kk
  obtain ⟨hx, hb, hr, hlk, hml, hown, hnm, hts, hN, hK, hRc, hRs, hRf, hRl, hsz, hXs, hbb⟩ := hX
  unfold i_c at hg
  cases hg
  exact lv_ldc hx hb hown (hts _ hc) hd (kk _ _ _ hlo hH hw)
theorem zS_ldcw {n : Nat} {v : Int32} (hd : decode (mB j) pc = .ok (.ldc_w n, 3)) (hc : Cond.constant (mOw j) n v ∈ zWS) : zS L xs j pc (i_c (.int v) (pc + 3)) := by
  intro p l e R s m args below meth c base b tc D n0 Q ls st w k q LS H locs hX hg hlo hH hw kk
  obtain ⟨hx, hb, hr, hlk, hml, hown, hnm, hts, hN, hK, hRc, hRs, hRf, hRl, hsz, hXs, hbb⟩ := hX
  unfold i_c at hg
  cases hg
  exact lv_ldcw hx hb hown (hts _ hc) hd (kk _ _ _ hlo hH hw)
theorem zS_ldc2 {n : Nat} {v : Int64} (hd : decode (mB j) pc = .ok (.ldc2_w n, 3)) (hc : Cond.constantLong (mOw j) n v ∈ zWS) : zS L xs j pc (i_c (.long v) (pc + 3)) := by
  intro p l e R s m args below meth c base b tc D n0 Q ls st w k q LS H locs hX hg hlo hH hw kk
  obtain ⟨hx, hb, hr, hlk, hml, hown, hnm, hts, hN, hK, hRc, hRs, hRf, hRl, hsz, hXs, hbb⟩ := hX
  unfold i_c at hg
  cases hg
  exact lv_ldc2 hx hb hown (hts _ hc) hd (kk _ _ _ hlo hH hw)
theorem zS_iload_n {kn : Fin 4} {i : Nat} (hd : decode (mB j) pc = .ok (.iload_n kn, 1)) (hi : (kn : Nat) = i) : zS L xs j pc (i_il i (pc + 1)) := by
  intro p l e R s m args below meth c base b tc D n0 Q ls st w k q LS H locs hX hg hlo hH hw kk
  obtain ⟨hx, hb, hr, hlk, hml, hown, hnm, hts, hN, hK, hRc, hRs, hRf, hRl, hsz, hXs, hbb⟩ := hX
  unfold i_il at hg
  split at hg
  · rename_i x hl
    cases hg
    exact lv_iload_n hx hb hd hi (hlo.at hl) (kk _ _ _ hlo hH hw)
  · cases hg
theorem zS_iload {i : Nat} (hd : decode (mB j) pc = .ok (.iload i, 2))  : zS L xs j pc (i_il i (pc + 2)) := by
  intro p l e R s m args below meth c base b tc D n0 Q ls st w k q LS H locs hX hg hlo hH hw kk
  obtain ⟨hx, hb, hr, hlk, hml, hown, hnm, hts, hN, hK, hRc, hRs, hRf, hRl, hsz, hXs, hbb⟩ := hX
  unfold i_il at hg
  split at hg
  · rename_i x hl
    cases hg
    exact lv_iload hx hb hd (hlo.at hl) (kk _ _ _ hlo hH hw)
  · cases hg
theorem zS_lload_n {kn : Fin 4} {i : Nat} (hd : decode (mB j) pc = .ok (.lload_n kn, 1)) (hi : (kn : Nat) = i) : zS L xs j pc (i_ll i (pc + 1)) := by
  intro p l e R s m args below meth c base b tc D n0 Q ls st w k q LS H locs hX hg hlo hH hw kk
  obtain ⟨hx, hb, hr, hlk, hml, hown, hnm, hts, hN, hK, hRc, hRs, hRf, hRl, hsz, hXs, hbb⟩ := hX
  unfold i_ll at hg
  split at hg
  · rename_i x hl
    cases hg
    exact lv_lload_n hx hb hd hi (hlo.at hl) (kk _ _ _ hlo hH hw)
  · cases hg
theorem zS_lload {i : Nat} (hd : decode (mB j) pc = .ok (.lload i, 2))  : zS L xs j pc (i_ll i (pc + 2)) := by
  intro p l e R s m args below meth c base b tc D n0 Q ls st w k q LS H locs hX hg hlo hH hw kk
  obtain ⟨hx, hb, hr, hlk, hml, hown, hnm, hts, hN, hK, hRc, hRs, hRf, hRl, hsz, hXs, hbb⟩ := hX
  unfold i_ll at hg
  split at hg
  · rename_i x hl
    cases hg
    exact lv_lload hx hb hd (hlo.at hl) (kk _ _ _ hlo hH hw)
  · cases hg
theorem zS_aload_n {kn : Fin 4} {i : Nat} (hd : decode (mB j) pc = .ok (.aload_n kn, 1)) (hi : (kn : Nat) = i) : zS L xs j pc (i_al i (pc + 1)) := by
  intro p l e R s m args below meth c base b tc D n0 Q ls st w k q LS H locs hX hg hlo hH hw kk
  obtain ⟨hx, hb, hr, hlk, hml, hown, hnm, hts, hN, hK, hRc, hRs, hRf, hRl, hsz, hXs, hbb⟩ := hX
  unfold i_al at hg
  split at hg
  · rename_i x hl
    cases hg
    exact lv_aload_n hx hb hd hi (hlo.at hl) (kk _ _ _ hlo hH hw)
  · rename_i x hl
    cases hg
    exact lv_aload_n hx hb hd hi (hlo.at hl) (kk _ _ _ hlo hH hw)
  · cases hg
theorem zS_aload {i : Nat} (hd : decode (mB j) pc = .ok (.aload i, 2))  : zS L xs j pc (i_al i (pc + 2)) := by
  intro p l e R s m args below meth c base b tc D n0 Q ls st w k q LS H locs hX hg hlo hH hw kk
  obtain ⟨hx, hb, hr, hlk, hml, hown, hnm, hts, hN, hK, hRc, hRs, hRf, hRl, hsz, hXs, hbb⟩ := hX
  unfold i_al at hg
  split at hg
  · rename_i x hl
    cases hg
    exact lv_aload hx hb hd (hlo.at hl) (kk _ _ _ hlo hH hw)
  · rename_i x hl
    cases hg
    exact lv_aload hx hb hd (hlo.at hl) (kk _ _ _ hlo hH hw)
  · cases hg
theorem zS_istore_n {kn : Fin 4} {i : Nat} (hd : decode (mB j) pc = .ok (.istore_n kn, 1)) (hi : (kn : Nat) = i) : zS L xs j pc (i_is i (pc + 1)) := by
  intro p l e R s m args below meth c base b tc D n0 Q ls st w k q LS H locs hX hg hlo hH hw kk
  obtain ⟨hx, hb, hr, hlk, hml, hown, hnm, hts, hN, hK, hRc, hRs, hRf, hRl, hsz, hXs, hbb⟩ := hX
  unfold i_is at hg
  split at hg
  · split at hg
    · rename_i x r hlt
      cases hg
      obtain ⟨hn, lv, h1, h2⟩ := hlo
      refine lv_istore_n hx hb hd hi h1 (by rw [← hn]; exact hlt) rfl (fun LS' h' => kk _ _ _ (zLo.set1 hn h2 h') hH hw)
    · cases hg
  · cases hg
theorem zS_istore {i : Nat} (hd : decode (mB j) pc = .ok (.istore i, 2))  : zS L xs j pc (i_is i (pc + 2)) := by
  intro p l e R s m args below meth c base b tc D n0 Q ls st w k q LS H locs hX hg hlo hH hw kk
  obtain ⟨hx, hb, hr, hlk, hml, hown, hnm, hts, hN, hK, hRc, hRs, hRf, hRl, hsz, hXs, hbb⟩ := hX
  unfold i_is at hg
  split at hg
  · split at hg
    · rename_i x r hlt
      cases hg
      obtain ⟨hn, lv, h1, h2⟩ := hlo
      refine lv_istore hx hb hd h1 (by rw [← hn]; exact hlt) rfl (fun LS' h' => kk _ _ _ (zLo.set1 hn h2 h') hH hw)
    · cases hg
  · cases hg
theorem zS_astore_n {kn : Fin 4} {i : Nat} (hd : decode (mB j) pc = .ok (.astore_n kn, 1)) (hi : (kn : Nat) = i) : zS L xs j pc (i_as i (pc + 1)) := by
  intro p l e R s m args below meth c base b tc D n0 Q ls st w k q LS H locs hX hg hlo hH hw kk
  obtain ⟨hx, hb, hr, hlk, hml, hown, hnm, hts, hN, hK, hRc, hRs, hRf, hRl, hsz, hXs, hbb⟩ := hX
  unfold i_as at hg
  split at hg
  · split at hg
    · rename_i x r hlt
      cases hg
      obtain ⟨hn, lv, h1, h2⟩ := hlo
      refine lv_astore_n hx hb hd hi h1 (by rw [← hn]; exact hlt) rfl (fun LS' h' => kk _ _ _ (zLo.set1 hn h2 h') hH hw)
    · cases hg
  · cases hg
theorem zS_astore {i : Nat} (hd : decode (mB j) pc = .ok (.astore i, 2))  : zS L xs j pc (i_as i (pc + 2)) := by
  intro p l e R s m args below meth c base b tc D n0 Q ls st w k q LS H locs hX hg hlo hH hw kk
  obtain ⟨hx, hb, hr, hlk, hml, hown, hnm, hts, hN, hK, hRc, hRs, hRf, hRl, hsz, hXs, hbb⟩ := hX
  unfold i_as at hg
  split at hg
  · split at hg
    · rename_i x r hlt
      cases hg
      obtain ⟨hn, lv, h1, h2⟩ := hlo
      refine lv_astore hx hb hd h1 (by rw [← hn]; exact hlt) rfl (fun LS' h' => kk _ _ _ (zLo.set1 hn h2 h') hH hw)
    · cases hg
  · cases hg
theorem zS_lstore_n {kn : Fin 4} {i : Nat} (hd : decode (mB j) pc = .ok (.lstore_n kn, 1)) (hi : (kn : Nat) = i) : zS L xs j pc (i_ls i (pc + 1)) := by
  intro p l e R s m args below meth c base b tc D n0 Q ls st w k q LS H locs hX hg hlo hH hw kk
  obtain ⟨hx, hb, hr, hlk, hml, hown, hnm, hts, hN, hK, hRc, hRs, hRf, hRl, hsz, hXs, hbb⟩ := hX
  unfold i_ls at hg
  split at hg
  · split at hg
    · rename_i x r hlt
      cases hg
      obtain ⟨hn, lv, h1, h2⟩ := hlo
      refine lv_lstore_n hx hb hd hi h1 (by rw [← hn]; exact hlt) rfl (fun LS' h' => kk _ _ _ (zLo.set2 hn h2 h') hH hw)
    · cases hg
  · cases hg
theorem zS_lstore {i : Nat} (hd : decode (mB j) pc = .ok (.lstore i, 2))  : zS L xs j pc (i_ls i (pc + 2)) := by
  intro p l e R s m args below meth c base b tc D n0 Q ls st w k q LS H locs hX hg hlo hH hw kk
  obtain ⟨hx, hb, hr, hlk, hml, hown, hnm, hts, hN, hK, hRc, hRs, hRf, hRl, hsz, hXs, hbb⟩ := hX
  unfold i_ls at hg
  split at hg
  · split at hg
    · rename_i x r hlt
      cases hg
      obtain ⟨hn, lv, h1, h2⟩ := hlo
      refine lv_lstore hx hb hd h1 (by rw [← hn]; exact hlt) rfl (fun LS' h' => kk _ _ _ (zLo.set2 hn h2 h') hH hw)
    · cases hg
  · cases hg
theorem zS_iinc {i : Nat} {n : Int} {v : Int32} (hd : decode (mB j) pc = .ok (.iinc i n, 3)) (hv : Int32.ofInt n = v) : zS L xs j pc (i_in i v (pc + 3)) := by
  intro p l e R s m args below meth c base b tc D n0 Q ls st w k q LS H locs hX hg hlo hH hw kk
  obtain ⟨hx, hb, hr, hlk, hml, hown, hnm, hts, hN, hK, hRc, hRs, hRf, hRl, hsz, hXs, hbb⟩ := hX
  subst hv
  unfold i_in at hg
  split at hg
  · rename_i x hl
    cases hg
    obtain ⟨hn, lv, h1, h2⟩ := hlo
    obtain ⟨kx, hkx⟩ := List.getElem?_of_mem (h2 i _ hl)
    refine lv_iinc hx hb hd h1 hkx rfl (by rw [← hn]; exact (List.getElem?_eq_some_iff.mp hl).1) rfl (fun LS' h' => kk _ _ _ (zLo.set1 hn h2 h') hH hw)
  · cases hg
theorem zS_iadd (hd : decode (mB j) pc = .ok (.iadd, 1)) : zS L xs j pc (i_bi (fun x y => x + y) (pc + 1)) := by
  intro p l e R s m args below meth c base b tc D n0 Q ls st w k q LS H locs hX hg hlo hH hw kk
  obtain ⟨hx, hb, hr, hlk, hml, hown, hnm, hts, hN, hK, hRc, hRs, hRf, hRl, hsz, hXs, hbb⟩ := hX
  unfold i_bi at hg
  split at hg
  · cases hg
    exact lv_iadd hx hb hd (kk _ _ _ hlo hH hw)
  · cases hg
theorem zS_isub (hd : decode (mB j) pc = .ok (.isub, 1)) : zS L xs j pc (i_bi (fun x y => x - y) (pc + 1)) := by
  intro p l e R s m args below meth c base b tc D n0 Q ls st w k q LS H locs hX hg hlo hH hw kk
  obtain ⟨hx, hb, hr, hlk, hml, hown, hnm, hts, hN, hK, hRc, hRs, hRf, hRl, hsz, hXs, hbb⟩ := hX
  unfold i_bi at hg
  split at hg
  · cases hg
    exact lv_isub hx hb hd (kk _ _ _ hlo hH hw)
  · cases hg
theorem zS_imul (hd : decode (mB j) pc = .ok (.imul, 1)) : zS L xs j pc (i_bi (fun x y => x * y) (pc + 1)) := by
  intro p l e R s m args below meth c base b tc D n0 Q ls st w k q LS H locs hX hg hlo hH hw kk
  obtain ⟨hx, hb, hr, hlk, hml, hown, hnm, hts, hN, hK, hRc, hRs, hRf, hRl, hsz, hXs, hbb⟩ := hX
  unfold i_bi at hg
  split at hg
  · cases hg
    exact lv_imul hx hb hd (kk _ _ _ hlo hH hw)
  · cases hg
theorem zS_iand (hd : decode (mB j) pc = .ok (.iand, 1)) : zS L xs j pc (i_bi (fun x y => x &&& y) (pc + 1)) := by
  intro p l e R s m args below meth c base b tc D n0 Q ls st w k q LS H locs hX hg hlo hH hw kk
  obtain ⟨hx, hb, hr, hlk, hml, hown, hnm, hts, hN, hK, hRc, hRs, hRf, hRl, hsz, hXs, hbb⟩ := hX
  unfold i_bi at hg
  split at hg
  · cases hg
    exact lv_iand hx hb hd (kk _ _ _ hlo hH hw)
  · cases hg
theorem zS_ior (hd : decode (mB j) pc = .ok (.ior, 1)) : zS L xs j pc (i_bi (fun x y => x ||| y) (pc + 1)) := by
  intro p l e R s m args below meth c base b tc D n0 Q ls st w k q LS H locs hX hg hlo hH hw kk
  obtain ⟨hx, hb, hr, hlk, hml, hown, hnm, hts, hN, hK, hRc, hRs, hRf, hRl, hsz, hXs, hbb⟩ := hX
  unfold i_bi at hg
  split at hg
  · cases hg
    exact lv_ior hx hb hd (kk _ _ _ hlo hH hw)
  · cases hg
theorem zS_ixor (hd : decode (mB j) pc = .ok (.ixor, 1)) : zS L xs j pc (i_bi (fun x y => x ^^^ y) (pc + 1)) := by
  intro p l e R s m args below meth c base b tc D n0 Q ls st w k q LS H locs hX hg hlo hH hw kk
  obtain ⟨hx, hb, hr, hlk, hml, hown, hnm, hts, hN, hK, hRc, hRs, hRf, hRl, hsz, hXs, hbb⟩ := hX
  unfold i_bi at hg
  split at hg
  · cases hg
    exact lv_ixor hx hb hd (kk _ _ _ hlo hH hw)
  · cases hg
theorem zS_ishl (hd : decode (mB j) pc = .ok (.ishl, 1)) : zS L xs j pc (i_bi (fun x y => x <<< (y &&& 31)) (pc + 1)) := by
  intro p l e R s m args below meth c base b tc D n0 Q ls st w k q LS H locs hX hg hlo hH hw kk
  obtain ⟨hx, hb, hr, hlk, hml, hown, hnm, hts, hN, hK, hRc, hRs, hRf, hRl, hsz, hXs, hbb⟩ := hX
  unfold i_bi at hg
  split at hg
  · cases hg
    exact lv_ishl hx hb hd (kk _ _ _ hlo hH hw)
  · cases hg
theorem zS_ishr (hd : decode (mB j) pc = .ok (.ishr, 1)) : zS L xs j pc (i_bi (fun x y => x >>> (y &&& 31)) (pc + 1)) := by
  intro p l e R s m args below meth c base b tc D n0 Q ls st w k q LS H locs hX hg hlo hH hw kk
  obtain ⟨hx, hb, hr, hlk, hml, hown, hnm, hts, hN, hK, hRc, hRs, hRf, hRl, hsz, hXs, hbb⟩ := hX
  unfold i_bi at hg
  split at hg
  · cases hg
    exact lv_ishr hx hb hd (kk _ _ _ hlo hH hw)
  · cases hg
theorem zS_iushr (hd : decode (mB j) pc = .ok (.iushr, 1)) : zS L xs j pc (i_bi (fun x y => (x.toUInt32 >>> (y.toUInt32 &&& Int32.toUInt32 31)).toInt32) (pc + 1)) := by
  intro p l e R s m args below meth c base b tc D n0 Q ls st w k q LS H locs hX hg hlo hH hw kk
  obtain ⟨hx, hb, hr, hlk, hml, hown, hnm, hts, hN, hK, hRc, hRs, hRf, hRl, hsz, hXs, hbb⟩ := hX
  unfold i_bi at hg
  split at hg
  · cases hg
    exact lv_iushr hx hb hd rfl (kk _ _ _ hlo hH hw)
  · cases hg
theorem zS_idiv (hd : decode (mB j) pc = .ok (.idiv, 1)) : zS L xs j pc (i_bz (fun x y => x / y) (pc + 1)) := by
  intro p l e R s m args below meth c base b tc D n0 Q ls st w k q LS H locs hX hg hlo hH hw kk
  obtain ⟨hx, hb, hr, hlk, hml, hown, hnm, hts, hN, hK, hRc, hRs, hRf, hRl, hsz, hXs, hbb⟩ := hX
  unfold i_bz at hg
  split at hg
  · split at hg
    · cases hg
    · rename_i hne
      cases hg
      exact lv_idiv hx hb hd hne (kk _ _ _ hlo hH hw)
  · cases hg
theorem zS_irem (hd : decode (mB j) pc = .ok (.irem, 1)) : zS L xs j pc (i_bz (fun x y => x - x / y * y) (pc + 1)) := by
  intro p l e R s m args below meth c base b tc D n0 Q ls st w k q LS H locs hX hg hlo hH hw kk
  obtain ⟨hx, hb, hr, hlk, hml, hown, hnm, hts, hN, hK, hRc, hRs, hRf, hRl, hsz, hXs, hbb⟩ := hX
  unfold i_bz at hg
  split at hg
  · split at hg
    · cases hg
    · rename_i hne
      cases hg
      exact lv_irem hx hb hd hne (kk _ _ _ hlo hH hw)
  · cases hg
theorem zS_ineg (hd : decode (mB j) pc = .ok (.ineg, 1)) : zS L xs j pc (i_ui (fun x => -x) (pc + 1)) := by
  intro p l e R s m args below meth c base b tc D n0 Q ls st w k q LS H locs hX hg hlo hH hw kk
  obtain ⟨hx, hb, hr, hlk, hml, hown, hnm, hts, hN, hK, hRc, hRs, hRf, hRl, hsz, hXs, hbb⟩ := hX
  unfold i_ui at hg
  split at hg
  · cases hg
    exact lv_ineg hx hb hd (kk _ _ _ hlo hH hw)
  · cases hg
theorem zS_i2c (hd : decode (mB j) pc = .ok (.i2c, 1)) : zS L xs j pc (i_ui (fun x => (x.toUInt32 % 65536).toInt32) (pc + 1)) := by
  intro p l e R s m args below meth c base b tc D n0 Q ls st w k q LS H locs hX hg hlo hH hw kk
  obtain ⟨hx, hb, hr, hlk, hml, hown, hnm, hts, hN, hK, hRc, hRs, hRf, hRl, hsz, hXs, hbb⟩ := hX
  unfold i_ui at hg
  split at hg
  · cases hg
    exact lv_i2c hx hb hd rfl (kk _ _ _ hlo hH hw)
  · cases hg
theorem zS_i2b (hd : decode (mB j) pc = .ok (.i2b, 1)) : zS L xs j pc (i_ui (fun x => x.toInt8.toInt32) (pc + 1)) := by
  intro p l e R s m args below meth c base b tc D n0 Q ls st w k q LS H locs hX hg hlo hH hw kk
  obtain ⟨hx, hb, hr, hlk, hml, hown, hnm, hts, hN, hK, hRc, hRs, hRf, hRl, hsz, hXs, hbb⟩ := hX
  unfold i_ui at hg
  split at hg
  · cases hg
    exact lv_i2b hx hb hd rfl (kk _ _ _ hlo hH hw)
  · cases hg
theorem zS_i2s (hd : decode (mB j) pc = .ok (.i2s, 1)) : zS L xs j pc (i_ui (fun x => x.toInt16.toInt32) (pc + 1)) := by
  intro p l e R s m args below meth c base b tc D n0 Q ls st w k q LS H locs hX hg hlo hH hw kk
  obtain ⟨hx, hb, hr, hlk, hml, hown, hnm, hts, hN, hK, hRc, hRs, hRf, hRl, hsz, hXs, hbb⟩ := hX
  unfold i_ui at hg
  split at hg
  · cases hg
    exact lv_i2s hx hb hd rfl (kk _ _ _ hlo hH hw)
  · cases hg
theorem zS_i2l (hd : decode (mB j) pc = .ok (.i2l, 1)) : zS L xs j pc (i_i2l (pc + 1)) := by
  intro p l e R s m args below meth c base b tc D n0 Q ls st w k q LS H locs hX hg hlo hH hw kk
  obtain ⟨hx, hb, hr, hlk, hml, hown, hnm, hts, hN, hK, hRc, hRs, hRf, hRl, hsz, hXs, hbb⟩ := hX
  unfold i_i2l at hg
  split at hg
  · cases hg
    exact lv_i2l hx hb hd rfl (kk _ _ _ hlo hH hw)
  · cases hg
theorem zS_l2i (hd : decode (mB j) pc = .ok (.l2i, 1)) : zS L xs j pc (i_l2i (pc + 1)) := by
  intro p l e R s m args below meth c base b tc D n0 Q ls st w k q LS H locs hX hg hlo hH hw kk
  obtain ⟨hx, hb, hr, hlk, hml, hown, hnm, hts, hN, hK, hRc, hRs, hRf, hRl, hsz, hXs, hbb⟩ := hX
  unfold i_l2i at hg
  split at hg
  · cases hg
    exact lv_l2i hx hb hd rfl (kk _ _ _ hlo hH hw)
  · cases hg
theorem zS_lcmp (hd : decode (mB j) pc = .ok (.lcmp, 1)) : zS L xs j pc (i_cl (pc + 1)) := by
  intro p l e R s m args below meth c base b tc D n0 Q ls st w k q LS H locs hX hg hlo hH hw kk
  obtain ⟨hx, hb, hr, hlk, hml, hown, hnm, hts, hN, hK, hRc, hRs, hRf, hRl, hsz, hXs, hbb⟩ := hX
  unfold i_cl at hg
  split at hg
  · cases hg
    exact W.lcmp hx hb hd (kk _ _ _ hlo hH hw)
  · cases hg
theorem zS_ladd (hd : decode (mB j) pc = .ok (.ladd, 1)) : zS L xs j pc (i_bl (fun x y => x + y) (pc + 1)) := by
  intro p l e R s m args below meth c base b tc D n0 Q ls st w k q LS H locs hX hg hlo hH hw kk
  obtain ⟨hx, hb, hr, hlk, hml, hown, hnm, hts, hN, hK, hRc, hRs, hRf, hRl, hsz, hXs, hbb⟩ := hX
  unfold i_bl at hg
  split at hg
  · cases hg
    exact lv_ladd hx hb hd (kk _ _ _ hlo hH hw)
  · cases hg
theorem zS_lsub (hd : decode (mB j) pc = .ok (.lsub, 1)) : zS L xs j pc (i_bl (fun x y => x - y) (pc + 1)) := by
  intro p l e R s m args below meth c base b tc D n0 Q ls st w k q LS H locs hX hg hlo hH hw kk
  obtain ⟨hx, hb, hr, hlk, hml, hown, hnm, hts, hN, hK, hRc, hRs, hRf, hRl, hsz, hXs, hbb⟩ := hX
  unfold i_bl at hg
  split at hg
  · cases hg
    exact lv_lsub hx hb hd (kk _ _ _ hlo hH hw)
  · cases hg
theorem zS_lmul (hd : decode (mB j) pc = .ok (.lmul, 1)) : zS L xs j pc (i_bl (fun x y => x * y) (pc + 1)) := by
  intro p l e R s m args below meth c base b tc D n0 Q ls st w k q LS H locs hX hg hlo hH hw kk
  obtain ⟨hx, hb, hr, hlk, hml, hown, hnm, hts, hN, hK, hRc, hRs, hRf, hRl, hsz, hXs, hbb⟩ := hX
  unfold i_bl at hg
  split at hg
  · cases hg
    exact lv_lmul hx hb hd (kk _ _ _ hlo hH hw)
  · cases hg
theorem zS_land (hd : decode (mB j) pc = .ok (.land, 1)) : zS L xs j pc (i_bl (fun x y => x &&& y) (pc + 1)) := by
  intro p l e R s m args below meth c base b tc D n0 Q ls st w k q LS H locs hX hg hlo hH hw kk
  obtain ⟨hx, hb, hr, hlk, hml, hown, hnm, hts, hN, hK, hRc, hRs, hRf, hRl, hsz, hXs, hbb⟩ := hX
  unfold i_bl at hg
  split at hg
  · cases hg
    exact lv_land hx hb hd (kk _ _ _ hlo hH hw)
  · cases hg
theorem zS_lor (hd : decode (mB j) pc = .ok (.lor, 1)) : zS L xs j pc (i_bl (fun x y => x ||| y) (pc + 1)) := by
  intro p l e R s m args below meth c base b tc D n0 Q ls st w k q LS H locs hX hg hlo hH hw kk
  obtain ⟨hx, hb, hr, hlk, hml, hown, hnm, hts, hN, hK, hRc, hRs, hRf, hRl, hsz, hXs, hbb⟩ := hX
  unfold i_bl at hg
  split at hg
  · cases hg
    exact lv_lor hx hb hd (kk _ _ _ hlo hH hw)
  · cases hg
theorem zS_lxor (hd : decode (mB j) pc = .ok (.lxor, 1)) : zS L xs j pc (i_bl (fun x y => x ^^^ y) (pc + 1)) := by
  intro p l e R s m args below meth c base b tc D n0 Q ls st w k q LS H locs hX hg hlo hH hw kk
  obtain ⟨hx, hb, hr, hlk, hml, hown, hnm, hts, hN, hK, hRc, hRs, hRf, hRl, hsz, hXs, hbb⟩ := hX
  unfold i_bl at hg
  split at hg
  · cases hg
    exact lv_lxor hx hb hd (kk _ _ _ hlo hH hw)
  · cases hg
theorem zS_lshl (hd : decode (mB j) pc = .ok (.lshl, 1)) : zS L xs j pc (i_sl (fun x y => x <<< (y.toInt64 &&& 63)) (pc + 1)) := by
  intro p l e R s m args below meth c base b tc D n0 Q ls st w k q LS H locs hX hg hlo hH hw kk
  obtain ⟨hx, hb, hr, hlk, hml, hown, hnm, hts, hN, hK, hRc, hRs, hRf, hRl, hsz, hXs, hbb⟩ := hX
  unfold i_sl at hg
  split at hg
  · cases hg
    exact lv_lshl hx hb hd rfl (kk _ _ _ hlo hH hw)
  · cases hg
theorem zS_lshr (hd : decode (mB j) pc = .ok (.lshr, 1)) : zS L xs j pc (i_sl (fun x y => x >>> (y.toInt64 &&& 63)) (pc + 1)) := by
  intro p l e R s m args below meth c base b tc D n0 Q ls st w k q LS H locs hX hg hlo hH hw kk
  obtain ⟨hx, hb, hr, hlk, hml, hown, hnm, hts, hN, hK, hRc, hRs, hRf, hRl, hsz, hXs, hbb⟩ := hX
  unfold i_sl at hg
  split at hg
  · cases hg
    exact lv_lshr hx hb hd rfl (kk _ _ _ hlo hH hw)
  · cases hg
theorem zS_lushr (hd : decode (mB j) pc = .ok (.lushr, 1)) : zS L xs j pc (i_sl (fun x y => (x.toUInt64 >>> (y.toInt64.toUInt64 &&& Int64.toUInt64 63)).toInt64) (pc + 1)) := by
  intro p l e R s m args below meth c base b tc D n0 Q ls st w k q LS H locs hX hg hlo hH hw kk
  obtain ⟨hx, hb, hr, hlk, hml, hown, hnm, hts, hN, hK, hRc, hRs, hRf, hRl, hsz, hXs, hbb⟩ := hX
  unfold i_sl at hg
  split at hg
  · cases hg
    exact lv_lushr hx hb hd rfl (kk _ _ _ hlo hH hw)
  · cases hg
theorem zS_if_eq {off : Int} {tg : Nat} (hd : decode (mB j) pc = .ok (.ifCond .eq off, 3)) (ht : (pc : Int) + off = (tg : Int)) : zS L xs j pc (i_f1 (fun x => decide (x = 0)) tg (pc + 3)) := by
  intro p l e R s m args below meth c base b tc D n0 Q ls st w k q LS H locs hX hg hlo hH hw kk
  obtain ⟨hx, hb, hr, hlk, hml, hown, hnm, hts, hN, hK, hRc, hRs, hRf, hRl, hsz, hXs, hbb⟩ := hX
  unfold i_f1 at hg
  split at hg
  · rename_i x r
    cases hg
    have hk : W p l e R s m args below meth c H locs k.1 k.2 Q (F0 m (cond (decide (x = 0)) tg (pc + 3)) LS (r.map (zv base b))) := kk _ _ _ hlo hH hw
    refine lv_if_eq hx hb hd ht (fun h => ?_) (fun h => ?_)
    · rw [decide_eq_true h] at hk
      exact hk
    · rw [decide_eq_false h] at hk
      exact hk
  · cases hg
theorem zS_icmp_eq {off : Int} {tg : Nat} (hd : decode (mB j) pc = .ok (.if_icmp .eq off, 3)) (ht : (pc : Int) + off = (tg : Int)) : zS L xs j pc (i_f2 (fun x y => decide (x = y)) tg (pc + 3)) := by
  intro p l e R s m args below meth c base b tc D n0 Q ls st w k q LS H locs hX hg hlo hH hw kk
  obtain ⟨hx, hb, hr, hlk, hml, hown, hnm, hts, hN, hK, hRc, hRs, hRf, hRl, hsz, hXs, hbb⟩ := hX
  unfold i_f2 at hg
  split at hg
  · rename_i y x r
    cases hg
    have hk : W p l e R s m args below meth c H locs k.1 k.2 Q (F0 m (cond (decide (x = y)) tg (pc + 3)) LS (r.map (zv base b))) := kk _ _ _ hlo hH hw
    refine lv_icmp_eq hx hb hd ht (fun h => ?_) (fun h => ?_)
    · rw [decide_eq_true h] at hk
      exact hk
    · rw [decide_eq_false h] at hk
      exact hk
  · cases hg
theorem zS_if_ne {off : Int} {tg : Nat} (hd : decode (mB j) pc = .ok (.ifCond .ne off, 3)) (ht : (pc : Int) + off = (tg : Int)) : zS L xs j pc (i_f1 (fun x => decide (¬ x = 0)) tg (pc + 3)) := by
  intro p l e R s m args below meth c base b tc D n0 Q ls st w k q LS H locs hX hg hlo hH hw kk
  obtain ⟨hx, hb, hr, hlk, hml, hown, hnm, hts, hN, hK, hRc, hRs, hRf, hRl, hsz, hXs, hbb⟩ := hX
  unfold i_f1 at hg
  split at hg
  · rename_i x r
    cases hg
    have hk : W p l e R s m args below meth c H locs k.1 k.2 Q (F0 m (cond (decide (¬ x = 0)) tg (pc + 3)) LS (r.map (zv base b))) := kk _ _ _ hlo hH hw
    refine lv_if_ne hx hb hd ht (fun h => ?_) (fun h => ?_)
    · rw [decide_eq_true h] at hk
      exact hk
    · rw [decide_eq_false (fun z => z h)] at hk
      exact hk
  · cases hg
theorem zS_icmp_ne {off : Int} {tg : Nat} (hd : decode (mB j) pc = .ok (.if_icmp .ne off, 3)) (ht : (pc : Int) + off = (tg : Int)) : zS L xs j pc (i_f2 (fun x y => decide (¬ x = y)) tg (pc + 3)) := by
  intro p l e R s m args below meth c base b tc D n0 Q ls st w k q LS H locs hX hg hlo hH hw kk
  obtain ⟨hx, hb, hr, hlk, hml, hown, hnm, hts, hN, hK, hRc, hRs, hRf, hRl, hsz, hXs, hbb⟩ := hX
  unfold i_f2 at hg
  split at hg
  · rename_i y x r
    cases hg
    have hk : W p l e R s m args below meth c H locs k.1 k.2 Q (F0 m (cond (decide (¬ x = y)) tg (pc + 3)) LS (r.map (zv base b))) := kk _ _ _ hlo hH hw
    refine lv_icmp_ne hx hb hd ht (fun h => ?_) (fun h => ?_)
    · rw [decide_eq_true h] at hk
      exact hk
    · rw [decide_eq_false (fun z => z h)] at hk
      exact hk
  · cases hg
theorem zS_if_lt {off : Int} {tg : Nat} (hd : decode (mB j) pc = .ok (.ifCond .lt off, 3)) (ht : (pc : Int) + off = (tg : Int)) : zS L xs j pc (i_f1 (fun x => decide (x < 0)) tg (pc + 3)) := by
  intro p l e R s m args below meth c base b tc D n0 Q ls st w k q LS H locs hX hg hlo hH hw kk
  obtain ⟨hx, hb, hr, hlk, hml, hown, hnm, hts, hN, hK, hRc, hRs, hRf, hRl, hsz, hXs, hbb⟩ := hX
  unfold i_f1 at hg
  split at hg
  · rename_i x r
    cases hg
    have hk : W p l e R s m args below meth c H locs k.1 k.2 Q (F0 m (cond (decide (x < 0)) tg (pc + 3)) LS (r.map (zv base b))) := kk _ _ _ hlo hH hw
    refine lv_if_lt hx hb hd ht (fun h => ?_) (fun h => ?_)
    · rw [decide_eq_true h] at hk
      exact hk
    · rw [decide_eq_false h] at hk
      exact hk
  · cases hg
theorem zS_icmp_lt {off : Int} {tg : Nat} (hd : decode (mB j) pc = .ok (.if_icmp .lt off, 3)) (ht : (pc : Int) + off = (tg : Int)) : zS L xs j pc (i_f2 (fun x y => decide (x < y)) tg (pc + 3)) := by
  intro p l e R s m args below meth c base b tc D n0 Q ls st w k q LS H locs hX hg hlo hH hw kk
  obtain ⟨hx, hb, hr, hlk, hml, hown, hnm, hts, hN, hK, hRc, hRs, hRf, hRl, hsz, hXs, hbb⟩ := hX
  unfold i_f2 at hg
  split at hg
  · rename_i y x r
    cases hg
    have hk : W p l e R s m args below meth c H locs k.1 k.2 Q (F0 m (cond (decide (x < y)) tg (pc + 3)) LS (r.map (zv base b))) := kk _ _ _ hlo hH hw
    refine lv_icmp_lt hx hb hd ht (fun h => ?_) (fun h => ?_)
    · rw [decide_eq_true h] at hk
      exact hk
    · rw [decide_eq_false h] at hk
      exact hk
  · cases hg
theorem zS_if_ge {off : Int} {tg : Nat} (hd : decode (mB j) pc = .ok (.ifCond .ge off, 3)) (ht : (pc : Int) + off = (tg : Int)) : zS L xs j pc (i_f1 (fun x => decide (0 ≤ x)) tg (pc + 3)) := by
  intro p l e R s m args below meth c base b tc D n0 Q ls st w k q LS H locs hX hg hlo hH hw kk
  obtain ⟨hx, hb, hr, hlk, hml, hown, hnm, hts, hN, hK, hRc, hRs, hRf, hRl, hsz, hXs, hbb⟩ := hX
  unfold i_f1 at hg
  split at hg
  · rename_i x r
    cases hg
    have hk : W p l e R s m args below meth c H locs k.1 k.2 Q (F0 m (cond (decide (0 ≤ x)) tg (pc + 3)) LS (r.map (zv base b))) := kk _ _ _ hlo hH hw
    refine lv_if_ge hx hb hd ht (fun h => ?_) (fun h => ?_)
    · rw [decide_eq_true h] at hk
      exact hk
    · rw [decide_eq_false h] at hk
      exact hk
  · cases hg
theorem zS_icmp_ge {off : Int} {tg : Nat} (hd : decode (mB j) pc = .ok (.if_icmp .ge off, 3)) (ht : (pc : Int) + off = (tg : Int)) : zS L xs j pc (i_f2 (fun x y => decide (y ≤ x)) tg (pc + 3)) := by
  intro p l e R s m args below meth c base b tc D n0 Q ls st w k q LS H locs hX hg hlo hH hw kk
  obtain ⟨hx, hb, hr, hlk, hml, hown, hnm, hts, hN, hK, hRc, hRs, hRf, hRl, hsz, hXs, hbb⟩ := hX
  unfold i_f2 at hg
  split at hg
  · rename_i y x r
    cases hg
    have hk : W p l e R s m args below meth c H locs k.1 k.2 Q (F0 m (cond (decide (y ≤ x)) tg (pc + 3)) LS (r.map (zv base b))) := kk _ _ _ hlo hH hw
    refine lv_icmp_ge hx hb hd ht (fun h => ?_) (fun h => ?_)
    · rw [decide_eq_true h] at hk
      exact hk
    · rw [decide_eq_false h] at hk
      exact hk
  · cases hg
theorem zS_if_gt {off : Int} {tg : Nat} (hd : decode (mB j) pc = .ok (.ifCond .gt off, 3)) (ht : (pc : Int) + off = (tg : Int)) : zS L xs j pc (i_f1 (fun x => decide (0 < x)) tg (pc + 3)) := by
  intro p l e R s m args below meth c base b tc D n0 Q ls st w k q LS H locs hX hg hlo hH hw kk
  obtain ⟨hx, hb, hr, hlk, hml, hown, hnm, hts, hN, hK, hRc, hRs, hRf, hRl, hsz, hXs, hbb⟩ := hX
  unfold i_f1 at hg
  split at hg
  · rename_i x r
    cases hg
    have hk : W p l e R s m args below meth c H locs k.1 k.2 Q (F0 m (cond (decide (0 < x)) tg (pc + 3)) LS (r.map (zv base b))) := kk _ _ _ hlo hH hw
    refine lv_if_gt hx hb hd ht (fun h => ?_) (fun h => ?_)
    · rw [decide_eq_true h] at hk
      exact hk
    · rw [decide_eq_false h] at hk
      exact hk
  · cases hg
theorem zS_icmp_gt {off : Int} {tg : Nat} (hd : decode (mB j) pc = .ok (.if_icmp .gt off, 3)) (ht : (pc : Int) + off = (tg : Int)) : zS L xs j pc (i_f2 (fun x y => decide (y < x)) tg (pc + 3)) := by
  intro p l e R s m args below meth c base b tc D n0 Q ls st w k q LS H locs hX hg hlo hH hw kk
  obtain ⟨hx, hb, hr, hlk, hml, hown, hnm, hts, hN, hK, hRc, hRs, hRf, hRl, hsz, hXs, hbb⟩ := hX
  unfold i_f2 at hg
  split at hg
  · rename_i y x r
    cases hg
    have hk : W p l e R s m args below meth c H locs k.1 k.2 Q (F0 m (cond (decide (y < x)) tg (pc + 3)) LS (r.map (zv base b))) := kk _ _ _ hlo hH hw
    refine lv_icmp_gt hx hb hd ht (fun h => ?_) (fun h => ?_)
    · rw [decide_eq_true h] at hk
      exact hk
    · rw [decide_eq_false h] at hk
      exact hk
  · cases hg
theorem zS_if_le {off : Int} {tg : Nat} (hd : decode (mB j) pc = .ok (.ifCond .le off, 3)) (ht : (pc : Int) + off = (tg : Int)) : zS L xs j pc (i_f1 (fun x => decide (x ≤ 0)) tg (pc + 3)) := by
  intro p l e R s m args below meth c base b tc D n0 Q ls st w k q LS H locs hX hg hlo hH hw kk
  obtain ⟨hx, hb, hr, hlk, hml, hown, hnm, hts, hN, hK, hRc, hRs, hRf, hRl, hsz, hXs, hbb⟩ := hX
  unfold i_f1 at hg
  split at hg
  · rename_i x r
    cases hg
    have hk : W p l e R s m args below meth c H locs k.1 k.2 Q (F0 m (cond (decide (x ≤ 0)) tg (pc + 3)) LS (r.map (zv base b))) := kk _ _ _ hlo hH hw
    refine lv_if_le hx hb hd ht (fun h => ?_) (fun h => ?_)
    · rw [decide_eq_true h] at hk
      exact hk
    · rw [decide_eq_false h] at hk
      exact hk
  · cases hg
theorem zS_icmp_le {off : Int} {tg : Nat} (hd : decode (mB j) pc = .ok (.if_icmp .le off, 3)) (ht : (pc : Int) + off = (tg : Int)) : zS L xs j pc (i_f2 (fun x y => decide (x ≤ y)) tg (pc + 3)) := by
  intro p l e R s m args below meth c base b tc D n0 Q ls st w k q LS H locs hX hg hlo hH hw kk
  obtain ⟨hx, hb, hr, hlk, hml, hown, hnm, hts, hN, hK, hRc, hRs, hRf, hRl, hsz, hXs, hbb⟩ := hX
  unfold i_f2 at hg
  split at hg
  · rename_i y x r
    cases hg
    have hk : W p l e R s m args below meth c H locs k.1 k.2 Q (F0 m (cond (decide (x ≤ y)) tg (pc + 3)) LS (r.map (zv base b))) := kk _ _ _ hlo hH hw
    refine lv_icmp_le hx hb hd ht (fun h => ?_) (fun h => ?_)
    · rw [decide_eq_true h] at hk
      exact hk
    · rw [decide_eq_false h] at hk
      exact hk
  · cases hg
theorem zS_goto {off : Int} {tg : Nat} (hd : decode (mB j) pc = .ok (.goto off, 3)) (ht : (pc : Int) + off = (tg : Int)) : zS L xs j pc (i_go tg) := by
  intro p l e R s m args below meth c base b tc D n0 Q ls st w k q LS H locs hX hg hlo hH hw kk
  obtain ⟨hx, hb, hr, hlk, hml, hown, hnm, hts, hN, hK, hRc, hRs, hRf, hRl, hsz, hXs, hbb⟩ := hX
  unfold i_go at hg
  cases hg
  exact lv_goto hx hb hd ht (kk _ _ _ hlo hH hw)
theorem zS_tsw {dflt lo hi : Int} {offs : Array Int} {len : Nat} {tg : List Nat} {d : Nat} (hd : decode (mB j) pc = .ok (.tableswitch dflt lo hi offs, len)) (h0 : (pc : Int) + dflt = (d : Int)) (h1 : offs.toList.map (fun o => (pc : Int) + o) = tg.map (fun t : Nat => (t : Int))) : zS L xs j pc (i_ts lo hi tg d) := by
  intro p l e R s m args below meth c base b tc D n0 Q ls st w k q LS H locs hX hg hlo hH hw kk
  obtain ⟨hx, hb, hr, hlk, hml, hown, hnm, hts, hN, hK, hRc, hRs, hRf, hRl, hsz, hXs, hbb⟩ := hX
  unfold i_ts at hg
  split at hg
  · rename_i x r
    split at hg
    · rename_i h
      cases hg
      exact lv_tableOut hx hb hd h h0 (kk _ _ _ hlo hH hw)
    · rename_i h
      split at hg
      · rename_i t ht
        cases hg
        have e1 : (tg.map (fun t : Nat => (t : Int)))[(x.toInt - lo).toNat]? = some (t : Int) := by rw [List.getElem?_map, ht]; rfl
        rw [← h1, List.getElem?_map] at e1
        cases ho : offs.toList[(x.toInt - lo).toNat]? with
        | none => rw [ho] at e1; cases e1
        | some off =>
          rw [ho] at e1
          exact lv_tableIn hx hb hd (fun z => h (Or.inl z)) (fun z => h (Or.inr z)) (by rw [← Array.getElem?_toList]; exact ho) (Option.some.inj e1) (kk _ _ _ hlo hH hw)
      · cases hg
  · cases hg
theorem zS_dup (hd : decode (mB j) pc = .ok (.dup, 1)) : zS L xs j pc (i_dup (pc + 1)) := by
  intro p l e R s m args below meth c base b tc D n0 Q ls st w k q LS H locs hX hg hlo hH hw kk
  obtain ⟨hx, hb, hr, hlk, hml, hown, hnm, hts, hN, hK, hRc, hRs, hRf, hRl, hsz, hXs, hbb⟩ := hX
  unfold i_dup at hg
  split at hg
  · split at hg
    · rename_i h
      cases hg
      exact lv_dup hx hb hd (by rw [zv_cat]; exact h) (kk _ _ _ hlo hH hw)
    · cases hg
  · cases hg
theorem zS_pop (hd : decode (mB j) pc = .ok (.pop, 1)) : zS L xs j pc (i_pop (pc + 1)) := by
  intro p l e R s m args below meth c base b tc D n0 Q ls st w k q LS H locs hX hg hlo hH hw kk
  obtain ⟨hx, hb, hr, hlk, hml, hown, hnm, hts, hN, hK, hRc, hRs, hRf, hRl, hsz, hXs, hbb⟩ := hX
  unfold i_pop at hg
  split at hg
  · split at hg
    · rename_i h
      cases hg
      exact lv_pop hx hb hd (by rw [zv_cat]; exact h) (kk _ _ _ hlo hH hw)
    · cases hg
  · cases hg
theorem zS_dup_x1 (hd : decode (mB j) pc = .ok (.dup_x1, 1)) : zS L xs j pc (i_dx1 (pc + 1)) := by
  intro p l e R s m args below meth c base b tc D n0 Q ls st w k q LS H locs hX hg hlo hH hw kk
  obtain ⟨hx, hb, hr, hlk, hml, hown, hnm, hts, hN, hK, hRc, hRs, hRf, hRl, hsz, hXs, hbb⟩ := hX
  unfold i_dx1 at hg
  split at hg
  · split at hg
    · rename_i h
      cases hg
      exact lv_dup_x1 hx hb hd (by rw [zv_cat]; exact h.1) (by rw [zv_cat]; exact h.2) (kk _ _ _ hlo hH hw)
    · cases hg
  · cases hg
theorem zS_dup_x2 (hd : decode (mB j) pc = .ok (.dup_x2, 1)) : zS L xs j pc (i_dx2 (pc + 1)) := by
  intro p l e R s m args below meth c base b tc D n0 Q ls st w k q LS H locs hX hg hlo hH hw kk
  obtain ⟨hx, hb, hr, hlk, hml, hown, hnm, hts, hN, hK, hRc, hRs, hRf, hRl, hsz, hXs, hbb⟩ := hX
  unfold i_dx2 at hg
  split at hg
  · split at hg
    · rename_i h
      cases hg
      exact lv_dup_x2 hx hb hd (by rw [zv_cat]; exact h.1) (by rw [zv_cat]; exact h.2.1) (by rw [zv_cat]; exact h.2.2) (kk _ _ _ hlo hH hw)
    · cases hg
  · cases hg
theorem zS_dup2 (hd : decode (mB j) pc = .ok (.dup2, 1)) : zS L xs j pc (i_d2 (pc + 1)) := by
  intro p l e R s m args below meth c base b tc D n0 Q ls st w k q LS H locs hX hg hlo hH hw kk
  obtain ⟨hx, hb, hr, hlk, hml, hown, hnm, hts, hN, hK, hRc, hRs, hRf, hRl, hsz, hXs, hbb⟩ := hX
  unfold i_d2 at hg
  split at hg
  · split at hg
    · rename_i h
      cases hg
      exact lv_dup2_11 hx hb hd (by rw [zv_cat]; exact h.1) (by rw [zv_cat]; exact h.2) (kk _ _ _ hlo hH hw)
    · cases hg
  · cases hg
theorem zS_getf {ci f idx N : Nat} {C : String} {T : u_T} (hd : decode (mB j) pc = .ok (.getfield idx, 3)) (hcl : zCl[ci]? = some (C, T, N)) (hf : f < N) (hin : ∀ w ∈ u_ws C T N, w ∈ zWS) (hlink : Cond.fieldLink (mOw j) idx (T f).1 (T f).2.1 (T f).2.2.1 ∈ zWS) : zS L xs j pc (i_gf ci f (pc + 3)) := by
  intro p l e R s m args below meth c base b tc D n0 Q ls st w k q LS H locs hX hg hlo hH hw kk
  obtain ⟨hx, hb, hr, hlk, hml, hown, hnm, hts, hN, hK, hRc, hRs, hRf, hRl, hsz, hXs, hbb⟩ := hX
  unfold i_gf at hg
  split at hg
  · rename_i a r
    split at hg
    · rename_i c' fs ha
      split at hg
      · rename_i hc
        subst hc
        split at hg
        · rename_i v hv
          cases hg
          have ha2 := zw_get (base := base) (b := b) (tc := tc) ha
          exact va_get (D := D) hx hb hts hin hown hK hH.1 a (fs := fs.map (zv base b)) ha2 hcl f hf (hts _ hlink) (fun _ h => h) (v := zv base b v) (by rw [List.getElem?_map, hv]; rfl) hd (kk _ _ _ hlo hH hw)
        · cases hg
      · cases hg
    · cases hg
  · cases hg
theorem zS_putf {ci f idx N : Nat} {C : String} {T : u_T} {ty0 : Nat → FieldType} {ty : FieldType} {ok : Value → Bool} (hd : decode (mB j) pc = .ok (.putfield idx, 3)) (hcl : zCl[ci]? = some (C, T, N)) (hf : f < N) (hin : ∀ w ∈ u_ws C T N, w ∈ zWS) (hlink : Cond.fieldLink (mOw j) idx (T f).1 (T f).2.1 (T f).2.2.1 ∈ zWS) (hty : ∀ k, k < N → parseFieldDescriptor (T k).2.2.1 = some (ty0 k)) (hnm' : ∀ a, a < N → ∀ b, b < N → a ≠ b → (T a).2.1 ≠ (T b).2.1) (hfin : (T f).2.2.2 = false) (hpd : parseFieldDescriptor (T f).2.2.1 = some ty) (hok : ∀ base b v, ok v = true → narrow ty (zv base b v) = zv base b v ∧ fits ty (zv base b v) = true) : zS L xs j pc (i_pf ci f ok (pc + 3)) := by
  intro p l e R s m args below meth c base b tc D n0 Q ls st w k q LS H locs hX hg hlo hH hw kk
  obtain ⟨hx, hb, hr, hlk, hml, hown, hnm, hts, hN, hK, hRc, hRs, hRf, hRl, hsz, hXs, hbb⟩ := hX
  unfold i_pf at hg
  split at hg
  · rename_i v a r
    split at hg
    · rename_i c' fs ha
      split at hg
      · rename_i hc
        obtain ⟨hc, hfl, hov⟩ := hc
        subst hc
        cases hg
        have ha2 := zw_get (base := base) (b := b) (tc := tc) ha
        refine va_put (D := D) hx hb hts hin ty0 hty hnm' hown hK hH.1 zw_D hH.2.1 a (fs := fs.map (zv base b)) ha2 hcl f hf (hts _ hlink) (fun _ h => h) hfin (v := zv base b v) hpd (hok base b v hov).1 (hok base b v hov).2 (by rw [List.length_map]; exact hfl) hd (fun H1 locs1 hP1 hD1 hS1 => kk _ _ _ hlo ⟨?_, hS1, hH.2.2⟩ (by show (w.set a _).length = _; rw [List.length_set]; exact hw))
        rw [← zw_set]
        show va_P D zCl ((zw base b tc w).set a (base + a, .inr (c', (fs.set f v).map (zv base b)))) H1
        rw [List.map_set]
        exact hP1
      · cases hg
    · cases hg
  · cases hg
theorem zS_getfN {ci f idx N : Nat} {C : String} {T : u_T} {host : String} (hd : decode (mB j) pc = .ok (.getfield idx, 3)) (hcl : zCl[ci]? = some (C, T, N)) (hf : f < N) (hin : ∀ w ∈ u_ws C T N, w ∈ zWS) (hlink : (mOw j, idx, (T f).1, (T f).2.1, (T f).2.2.1, host) ∈ zFL) : zS L xs j pc (i_gf ci f (pc + 3)) := by
  intro p l e R s m args below meth c base b tc D n0 Q ls st w k q LS H locs hX hg hlo hH hw kk
  obtain ⟨hx, hb, hr, hlk, hml, hown, hnm, hts, hN, hK, hRc, hRs, hRf, hRl, hsz, hXs, hbb⟩ := hX
  unfold i_gf at hg
  split at hg
  · rename_i a r
    split at hg
    · rename_i c' fs ha
      split at hg
      · rename_i hc
        subst hc
        split at hg
        · rename_i v hv
          cases hg
          have ha2 := zw_get (base := base) (b := b) (tc := tc) ha
          exact va_getN (D := D) hx hb hts hin hown hK hH.1 a (fs := fs.map (zv base b)) ha2 hcl f hf (va_Nw.use rfl (hN.1 _ hlink)) (fun _ h => h) (v := zv base b v) (by rw [List.getElem?_map, hv]; rfl) hd (kk _ _ _ hlo hH hw)
        · cases hg
      · cases hg
    · cases hg
  · cases hg
theorem zS_putfN {ci f idx N : Nat} {C : String} {T : u_T} {host : String} {ty0 : Nat → FieldType} {ty : FieldType} {ok : Value → Bool} (hd : decode (mB j) pc = .ok (.putfield idx, 3)) (hcl : zCl[ci]? = some (C, T, N)) (hf : f < N) (hin : ∀ w ∈ u_ws C T N, w ∈ zWS) (hlink : (mOw j, idx, (T f).1, (T f).2.1, (T f).2.2.1, host) ∈ zFL) (hty : ∀ k, k < N → parseFieldDescriptor (T k).2.2.1 = some (ty0 k)) (hnm' : ∀ a, a < N → ∀ b, b < N → a ≠ b → (T a).2.1 ≠ (T b).2.1) (hfin : (T f).2.2.2 = false) (hpd : parseFieldDescriptor (T f).2.2.1 = some ty) (hok : ∀ base b v, ok v = true → narrow ty (zv base b v) = zv base b v ∧ fits ty (zv base b v) = true) : zS L xs j pc (i_pf ci f ok (pc + 3)) := by
  intro p l e R s m args below meth c base b tc D n0 Q ls st w k q LS H locs hX hg hlo hH hw kk
  obtain ⟨hx, hb, hr, hlk, hml, hown, hnm, hts, hN, hK, hRc, hRs, hRf, hRl, hsz, hXs, hbb⟩ := hX
  unfold i_pf at hg
  split at hg
  · rename_i v a r
    split at hg
    · rename_i c' fs ha
      split at hg
      · rename_i hc
        obtain ⟨hc, hfl, hov⟩ := hc
        subst hc
        cases hg
        have ha2 := zw_get (base := base) (b := b) (tc := tc) ha
        refine va_putN (D := D) hx hb hts hin ty0 hty hnm' hown hK hH.1 zw_D hH.2.1 a (fs := fs.map (zv base b)) ha2 hcl f hf (va_Nw.use rfl (hN.1 _ hlink)) (fun _ h => h) hfin (v := zv base b v) hpd (hok base b v hov).1 (hok base b v hov).2 (by rw [List.length_map]; exact hfl) hd (fun H1 locs1 hP1 hD1 hS1 => kk _ _ _ hlo ⟨?_, hS1, hH.2.2⟩ (by show (w.set a _).length = _; rw [List.length_set]; exact hw))
        rw [← zw_set]
        show va_P D zCl ((zw base b tc w).set a (base + a, .inr (c', (fs.set f v).map (zv base b)))) H1
        rw [List.map_set]
        exact hP1
      · cases hg
    · cases hg
  · cases hg
theorem zS_putfF {ci f idx N : Nat} {C : String} {T : u_T} {ty0 : Nat → FieldType} {ty : FieldType} {ok : Value → Bool} (hd : decode (mB j) pc = .ok (.putfield idx, 3)) (hcl : zCl[ci]? = some (C, T, N)) (hf : f < N) (hin : ∀ w ∈ u_ws C T N, w ∈ zWS) (hlink : Cond.fieldLink (mOw j) idx (T f).1 (T f).2.1 (T f).2.2.1 ∈ zWS) (hty : ∀ k, k < N → parseFieldDescriptor (T k).2.2.1 = some (ty0 k)) (hnm' : ∀ a, a < N → ∀ b, b < N → a ≠ b → (T a).2.1 ≠ (T b).2.1) (hfin : (T f).2.2.2 = true) (hini : (mY j).name = "<init>") (hdecl : (T f).1 = mOw j) (hpd : parseFieldDescriptor (T f).2.2.1 = some ty) (hok : ∀ base b v, ok v = true → narrow ty (zv base b v) = zv base b v ∧ fits ty (zv base b v) = true) : zS L xs j pc (i_pf ci f ok (pc + 3)) := by
  intro p l e R s m args below meth c base b tc D n0 Q ls st w k q LS H locs hX hg hlo hH hw kk
  obtain ⟨hx, hb, hr, hlk, hml, hown, hnm, hts, hN, hK, hRc, hRs, hRf, hRl, hsz, hXs, hbb⟩ := hX
  unfold i_pf at hg
  split at hg
  · rename_i v a r
    split at hg
    · rename_i c' fs ha
      split at hg
      · rename_i hc
        obtain ⟨hc, hfl, hov⟩ := hc
        subst hc
        cases hg
        have ha2 := zw_get (base := base) (b := b) (tc := tc) ha
        refine va_putF (D := D) hx hb hts hin ty0 hty hnm' hown hK hH.1 zw_D hH.2.1 a (fs := fs.map (zv base b)) ha2 hcl f hf (hts _ hlink) (fun _ h => h) hfin (hnm.trans hini) hdecl (v := zv base b v) hpd (hok base b v hov).1 (hok base b v hov).2 (by rw [List.length_map]; exact hfl) hd (fun H1 locs1 hP1 hD1 hS1 => kk _ _ _ hlo ⟨?_, hS1, hH.2.2⟩ (by show (w.set a _).length = _; rw [List.length_set]; exact hw))
        rw [← zw_set]
        show va_P D zCl ((zw base b tc w).set a (base + a, .inr (c', (fs.set f v).map (zv base b)))) H1
        rw [List.map_set]
        exact hP1
      · cases hg
    · cases hg
  · cases hg
theorem okI_ok (base b : Nat) (v : Value) (h : okI v = true) : narrow .int (zv base b v) = zv base b v ∧ fits .int (zv base b v) = true := by
  cases v with
  | int x => exact ⟨rfl, rfl⟩
  | _ => cases h
theorem okJ_ok (base b : Nat) (v : Value) (h : okJ v = true) : narrow .long (zv base b v) = zv base b v ∧ fits .long (zv base b v) = true := by
  cases v with
  | long x => exact ⟨rfl, rfl⟩
  | _ => cases h
theorem okZ_ok (base b : Nat) (v : Value) (h : okZ v = true) : narrow .boolean (zv base b v) = zv base b v ∧ fits .boolean (zv base b v) = true := by
  cases v with
  | int x =>
    rcases of_decide_eq_true h with rfl | rfl
    · show narrow .boolean (.int 0) = .int 0 ∧ fits .boolean (.int 0) = true
      exact ⟨by decide +kernel, by decide +kernel⟩
    · show narrow .boolean (.int 1) = .int 1 ∧ fits .boolean (.int 1) = true
      exact ⟨by decide +kernel, by decide +kernel⟩
  | _ => cases h
theorem okR_ok (C : String) (base b : Nat) (v : Value) (h : okR v = true) : narrow (.object C) (zv base b v) = zv base b v ∧ fits (.object C) (zv base b v) = true := by
  cases v with
  | ref x => exact ⟨rfl, rfl⟩
  | _ => cases h
theorem okA_ok (t : FieldType) (base b : Nat) (v : Value) (h : okR v = true) : narrow (.array t) (zv base b v) = zv base b v ∧ fits (.array t) (zv base b v) = true := by
  cases v with
  | ref x => exact ⟨rfl, rfl⟩
  | _ => cases h
theorem zin_vp {i : Int32} {n : Nat} (h : zin i n = true) : vp_in i n := vp_in_iff.mpr (of_decide_eq_true h)
theorem zS_iald (hd : decode (mB j) pc = .ok (.iaload, 1)) : zS L xs j pc (i_ga 0 (pc + 1)) := by
  intro p l e R s m args below meth c base b tc D n0 Q ls st w k q LS H locs hX hg hlo hH hw kk
  obtain ⟨hx, hb, hr, hlk, hml, hown, hnm, hts, hN, hK, hRc, hRs, hRf, hRl, hsz, hXs, hbb⟩ := hX
  unfold i_ga at hg
  split at hg
  · rename_i i a r
    split at hg
    · rename_i t' n f ha
      split at hg
      · rename_i hc
        obtain ⟨rfl, hi⟩ := hc
        cases hg
        have ha2 := zw_get (base := base) (b := b) (tc := tc) ha
        exact va_iald (D := D) hx hb hK hH.1 a 0 (f := f) ha2 rfl (zin_vp hi) hd (kk _ _ _ hlo hH hw)
      · cases hg
    · cases hg
  · cases hg
theorem zS_cald (hd : decode (mB j) pc = .ok (.caload, 1)) : zS L xs j pc (i_ga 2 (pc + 1)) := by
  intro p l e R s m args below meth c base b tc D n0 Q ls st w k q LS H locs hX hg hlo hH hw kk
  obtain ⟨hx, hb, hr, hlk, hml, hown, hnm, hts, hN, hK, hRc, hRs, hRf, hRl, hsz, hXs, hbb⟩ := hX
  unfold i_ga at hg
  split at hg
  · rename_i i a r
    split at hg
    · rename_i t' n f ha
      split at hg
      · rename_i hc
        obtain ⟨rfl, hi⟩ := hc
        cases hg
        have ha2 := zw_get (base := base) (b := b) (tc := tc) ha
        exact va_cald (D := D) hx hb hK hH.1 a 2 (f := f) ha2 rfl (zin_vp hi) hd (kk _ _ _ hlo hH hw)
      · cases hg
    · cases hg
  · cases hg
theorem zS_zald (hd : decode (mB j) pc = .ok (.baload, 1)) : zS L xs j pc (i_ga 3 (pc + 1)) := by
  intro p l e R s m args below meth c base b tc D n0 Q ls st w k q LS H locs hX hg hlo hH hw kk
  obtain ⟨hx, hb, hr, hlk, hml, hown, hnm, hts, hN, hK, hRc, hRs, hRf, hRl, hsz, hXs, hbb⟩ := hX
  unfold i_ga at hg
  split at hg
  · rename_i i a r
    split at hg
    · rename_i t' n f ha
      split at hg
      · rename_i hc
        obtain ⟨rfl, hi⟩ := hc
        cases hg
        have ha2 := zw_get (base := base) (b := b) (tc := tc) ha
        exact va_zald (D := D) hx hb hK hH.1 a 3 (f := f) ha2 rfl (zin_vp hi) hd (kk _ _ _ hlo hH hw)
      · cases hg
    · cases hg
  · cases hg
theorem zS_lald (hd : decode (mB j) pc = .ok (.laload, 1)) : zS L xs j pc (i_gl (pc + 1)) := by
  intro p l e R s m args below meth c base b tc D n0 Q ls st w k q LS H locs hX hg hlo hH hw kk
  obtain ⟨hx, hb, hr, hlk, hml, hown, hnm, hts, hN, hK, hRc, hRs, hRf, hRl, hsz, hXs, hbb⟩ := hX
  unfold i_gl at hg
  split at hg
  · rename_i i a r
    split at hg
    · rename_i t' n f ha
      split at hg
      · rename_i hc
        obtain ⟨rfl, hi⟩ := hc
        cases hg
        have ha2 := zw_get (base := base) (b := b) (tc := tc) ha
        exact va_lald (D := D) hx hb hK hH.1 a 1 (f := f) ha2 rfl (zin_vp hi) hd (kk _ _ _ hlo hH hw)
      · cases hg
    · cases hg
  · cases hg
theorem zS_aald4 (hd : decode (mB j) pc = .ok (.aaload, 1)) : zS L xs j pc (i_gq 4 (pc + 1)) := by
  intro p l e R s m args below meth c base b tc D n0 Q ls st w k q LS H locs hX hg hlo hH hw kk
  obtain ⟨hx, hb, hr, hlk, hml, hown, hnm, hts, hN, hK, hRc, hRs, hRf, hRl, hsz, hXs, hbb⟩ := hX
  unfold i_gq at hg
  split at hg
  · rename_i i a r
    split at hg
    · rename_i t' n f ha
      split at hg
      · rename_i hc
        obtain ⟨rfl, hi⟩ := hc
        split at hg
        · rename_i q hq
          cases hg
          have ha2 := zw_get (base := base) (b := b) (tc := tc) ha
          refine va_aldq (D := D) hx hb hK hH.1 a 4 (f := fun j => (f j).map (fun i => base + i)) ha2 rfl (zin_vp hi) hd ?_
          have hee : va_rf ((f i.toNatClampNeg).map (fun i => base + i)) = .ref (base + q) := by rw [hq]; rfl
          show W p l e R s m args below meth c H locs k.1 k.2 Q (F0 m (pc + 1) LS (va_rf ((f i.toNatClampNeg).map (fun i => base + i)) :: r.map (zv base b)))
          rw [hee]
          exact kk _ _ _ hlo hH hw
        · cases hg
      · cases hg
    · cases hg
  · cases hg
theorem zS_aald5 (hd : decode (mB j) pc = .ok (.aaload, 1)) : zS L xs j pc (i_gq 5 (pc + 1)) := by
  intro p l e R s m args below meth c base b tc D n0 Q ls st w k q LS H locs hX hg hlo hH hw kk
  obtain ⟨hx, hb, hr, hlk, hml, hown, hnm, hts, hN, hK, hRc, hRs, hRf, hRl, hsz, hXs, hbb⟩ := hX
  unfold i_gq at hg
  split at hg
  · rename_i i a r
    split at hg
    · rename_i t' n f ha
      split at hg
      · rename_i hc
        obtain ⟨rfl, hi⟩ := hc
        split at hg
        · rename_i q hq
          cases hg
          have ha2 := zw_get (base := base) (b := b) (tc := tc) ha
          refine va_aldq (D := D) hx hb hK hH.1 a 5 (f := fun j => (f j).map (fun i => base + i)) ha2 rfl (zin_vp hi) hd ?_
          have hee : va_rf ((f i.toNatClampNeg).map (fun i => base + i)) = .ref (base + q) := by rw [hq]; rfl
          show W p l e R s m args below meth c H locs k.1 k.2 Q (F0 m (pc + 1) LS (va_rf ((f i.toNatClampNeg).map (fun i => base + i)) :: r.map (zv base b)))
          rw [hee]
          exact kk _ _ _ hlo hH hw
        · cases hg
      · cases hg
    · cases hg
  · cases hg
theorem zS_iast (hd : decode (mB j) pc = .ok (.iastore, 1)) : zS L xs j pc (i_pa 0 (fun x => x) (pc + 1)) := by
  intro p l e R s m args below meth c base b tc D n0 Q ls st w k q LS H locs hX hg hlo hH hw kk
  obtain ⟨hx, hb, hr, hlk, hml, hown, hnm, hts, hN, hK, hRc, hRs, hRf, hRl, hsz, hXs, hbb⟩ := hX
  unfold i_pa at hg
  split at hg
  · rename_i x i a r
    split at hg
    · rename_i t' n f ha
      split at hg
      · rename_i hc
        obtain ⟨rfl, hi⟩ := hc
        cases hg
        have ha2 := zw_get (base := base) (b := b) (tc := tc) ha
        refine va_iast (D := D) hx hb hK hH.1 zw_D hH.2.1 a 0 (f := f) ha2 rfl (zin_vp hi) hd (fun H1 locs1 hP1 hD1 hS1 => kk _ _ _ hlo ⟨?_, hS1, hH.2.2⟩ (by show (w.set a _).length = _; rw [List.length_set]; exact hw))
        rw [← zw_set]
        exact hP1
      · cases hg
    · cases hg
  · cases hg
theorem zS_cast (hd : decode (mB j) pc = .ok (.castore, 1)) : zS L xs j pc (i_pa 2 (vp_nar .char) (pc + 1)) := by
  intro p l e R s m args below meth c base b tc D n0 Q ls st w k q LS H locs hX hg hlo hH hw kk
  obtain ⟨hx, hb, hr, hlk, hml, hown, hnm, hts, hN, hK, hRc, hRs, hRf, hRl, hsz, hXs, hbb⟩ := hX
  unfold i_pa at hg
  split at hg
  · rename_i x i a r
    split at hg
    · rename_i t' n f ha
      split at hg
      · rename_i hc
        obtain ⟨rfl, hi⟩ := hc
        cases hg
        have ha2 := zw_get (base := base) (b := b) (tc := tc) ha
        refine va_cast (D := D) hx hb hK hH.1 zw_D hH.2.1 a 2 (f := f) ha2 rfl (zin_vp hi) hd (fun H1 locs1 hP1 hD1 hS1 => kk _ _ _ hlo ⟨?_, hS1, hH.2.2⟩ (by show (w.set a _).length = _; rw [List.length_set]; exact hw))
        rw [← zw_set]
        exact hP1
      · cases hg
    · cases hg
  · cases hg
theorem zS_zast (hd : decode (mB j) pc = .ok (.bastore, 1)) : zS L xs j pc (i_pa 3 (vp_nar .boolean) (pc + 1)) := by
  intro p l e R s m args below meth c base b tc D n0 Q ls st w k q LS H locs hX hg hlo hH hw kk
  obtain ⟨hx, hb, hr, hlk, hml, hown, hnm, hts, hN, hK, hRc, hRs, hRf, hRl, hsz, hXs, hbb⟩ := hX
  unfold i_pa at hg
  split at hg
  · rename_i x i a r
    split at hg
    · rename_i t' n f ha
      split at hg
      · rename_i hc
        obtain ⟨rfl, hi⟩ := hc
        cases hg
        have ha2 := zw_get (base := base) (b := b) (tc := tc) ha
        refine va_zast (D := D) hx hb hK hH.1 zw_D hH.2.1 a 3 (f := f) ha2 rfl (zin_vp hi) hd (fun H1 locs1 hP1 hD1 hS1 => kk _ _ _ hlo ⟨?_, hS1, hH.2.2⟩ (by show (w.set a _).length = _; rw [List.length_set]; exact hw))
        rw [← zw_set]
        exact hP1
      · cases hg
    · cases hg
  · cases hg
theorem zS_last (hd : decode (mB j) pc = .ok (.lastore, 1)) : zS L xs j pc (i_pl (pc + 1)) := by
  intro p l e R s m args below meth c base b tc D n0 Q ls st w k q LS H locs hX hg hlo hH hw kk
  obtain ⟨hx, hb, hr, hlk, hml, hown, hnm, hts, hN, hK, hRc, hRs, hRf, hRl, hsz, hXs, hbb⟩ := hX
  unfold i_pl at hg
  split at hg
  · rename_i x i a r
    split at hg
    · rename_i t' n f ha
      split at hg
      · rename_i hc
        obtain ⟨rfl, hi⟩ := hc
        cases hg
        have ha2 := zw_get (base := base) (b := b) (tc := tc) ha
        refine va_last (D := D) hx hb hK hH.1 zw_D hH.2.1 a 1 (f := f) ha2 rfl (zin_vp hi) hd (fun H1 locs1 hP1 hD1 hS1 => kk _ _ _ hlo ⟨?_, hS1, hH.2.2⟩ (by show (w.set a _).length = _; rw [List.length_set]; exact hw))
        rw [← zw_set]
        exact hP1
      · cases hg
    · cases hg
  · cases hg
theorem zx_up (base : Nat) (f : Nat → Option Nat) (n q : Nat) : (fun j => (va_up f n (some q) j).map (fun i => base + i)) = va_up (fun j => (f j).map (fun i => base + i)) n (some (base + q)) := by
  funext j
  unfold va_up
  by_cases h : j = n
  · rw [if_pos h, if_pos h]; rfl
  · rw [if_neg h, if_neg h]
theorem zS_alen (hd : decode (mB j) pc = .ok (.arraylength, 1)) : zS L xs j pc (i_le (pc + 1)) := by
  intro p l e R s m args below meth c base b tc D n0 Q ls st w k q LS H locs hX hg hlo hH hw kk
  obtain ⟨hx, hb, hr, hlk, hml, hown, hnm, hts, hN, hK, hRc, hRs, hRf, hRl, hsz, hXs, hbb⟩ := hX
  unfold i_le at hg
  split at hg
  · rename_i a r
    split at hg
    · rename_i t' n y ha
      split at hg
      · rename_i hc
        subst hc
        cases hg
        have ha2 := zw_get (base := base) (b := b) (tc := tc) ha
        exact va_alen (D := D) hx hb hK hH.1 a 0 (x := (n, zx base y)) ha2 rfl (v := Int32.ofNat n) rfl hd (kk _ _ _ hlo hH hw)
      · cases hg
    · cases hg
  · cases hg
theorem zS_sld (hd : decode (mB j) pc = .ok (.iaload, 1)) : zS L xs j pc (i_sg L xs (pc + 1)) := by
  intro p l e R s m args below meth c base b tc D n0 Q ls st w k q LS H locs hX hg hlo hH hw kk
  obtain ⟨hx, hb, hr, hlk, hml, hown, hnm, hts, hN, hK, hRc, hRs, hRf, hRl, hsz, hXs, hbb⟩ := hX
  unfold i_sg at hg
  split at hg
  · split at hg
    · rename_i hi
      cases hg
      exact va_sld hx hb hXs (by omega) (Nat.not_le.mpr hbb) hH.2.1 (zin_vp hi) hd (kk _ _ _ hlo hH hw)
    · cases hg
  · cases hg
theorem zS_slen (hd : decode (mB j) pc = .ok (.arraylength, 1)) : zS L xs j pc (i_sn L (pc + 1)) := by
  intro p l e R s m args below meth c base b tc D n0 Q ls st w k q LS H locs hX hg hlo hH hw kk
  obtain ⟨hx, hb, hr, hlk, hml, hown, hnm, hts, hN, hK, hRc, hRs, hRf, hRl, hsz, hXs, hbb⟩ := hX
  unfold i_sn at hg
  split at hg
  · cases hg
    exact va_slen hx hb hXs (by omega) (Nat.not_le.mpr hbb) hH.2.1 hd (kk _ _ _ hlo hH hw)
  · cases hg
theorem zS_aast4 {ci N : Nat} {C : String} {T : u_T} (hd : decode (mB j) pc = .ok (.aastore, 1)) (hcl : zCl[ci]? = some (C, T, N)) (hC : ∀ tc : Nat → ClassId, (zTy tc)[4]? = some (tc 4, .object C)) : zS L xs j pc (i_pq 4 ci (pc + 1)) := by
  intro p l e R s m args below meth c base b tc D n0 Q ls st w k q LS H locs hX hg hlo hH hw kk
  obtain ⟨hx, hb, hr, hlk, hml, hown, hnm, hts, hN, hK, hRc, hRs, hRf, hRl, hsz, hXs, hbb⟩ := hX
  unfold i_pq at hg
  split at hg
  · rename_i q' i a r
    split at hg
    · rename_i t' n f c' fs ha hq
      split at hg
      · rename_i hc
        obtain ⟨rfl, rfl, hi⟩ := hc
        cases hg
        have ha2 := zw_get (base := base) (b := b) (tc := tc) ha
        have hq2 := zw_get (base := base) (b := b) (tc := tc) hq
        refine va_astq (D := D) hx hb hK hH.1 zw_D hH.2.1 a 4 q' c' (r := (C, T, N)) (f := fun j => (f j).map (fun i => base + i)) ha2 (hC tc) (vs := fs.map (zv base b)) hq2 hcl (zin_vp hi) hd (fun H1 locs1 hP1 hD1 hS1 => kk _ _ _ hlo ⟨?_, hS1, hH.2.2⟩ (by show (w.set a _).length = _; rw [List.length_set]; exact hw))
        rw [← zw_set]
        rw [← zx_up] at hP1
        exact hP1
      · cases hg
    · cases hg
  · cases hg
theorem zS_aast5 {ci N : Nat} {C : String} {T : u_T} (hd : decode (mB j) pc = .ok (.aastore, 1)) (hcl : zCl[ci]? = some (C, T, N)) (hC : ∀ tc : Nat → ClassId, (zTy tc)[5]? = some (tc 5, .object C)) : zS L xs j pc (i_pq 5 ci (pc + 1)) := by
  intro p l e R s m args below meth c base b tc D n0 Q ls st w k q LS H locs hX hg hlo hH hw kk
  obtain ⟨hx, hb, hr, hlk, hml, hown, hnm, hts, hN, hK, hRc, hRs, hRf, hRl, hsz, hXs, hbb⟩ := hX
  unfold i_pq at hg
  split at hg
  · rename_i q' i a r
    split at hg
    · rename_i t' n f c' fs ha hq
      split at hg
      · rename_i hc
        obtain ⟨rfl, rfl, hi⟩ := hc
        cases hg
        have ha2 := zw_get (base := base) (b := b) (tc := tc) ha
        have hq2 := zw_get (base := base) (b := b) (tc := tc) hq
        refine va_astq (D := D) hx hb hK hH.1 zw_D hH.2.1 a 5 q' c' (r := (C, T, N)) (f := fun j => (f j).map (fun i => base + i)) ha2 (hC tc) (vs := fs.map (zv base b)) hq2 hcl (zin_vp hi) hd (fun H1 locs1 hP1 hD1 hS1 => kk _ _ _ hlo ⟨?_, hS1, hH.2.2⟩ (by show (w.set a _).length = _; rw [List.length_set]; exact hw))
        rw [← zw_set]
        rw [← zx_up] at hP1
        exact hP1
      · cases hg
    · cases hg
  · cases hg
theorem zcat (base b : Nat) (r : List Value) : ((r.map (zv base b)).map fun v => v.category).sum = (r.map fun v => v.category).sum := by
  rw [List.map_map]
  congr 1
  refine List.map_congr_left fun v _ => ?_
  exact zv_cat base b v
/-- a new cell stands behind the others -/
theorem zfresh {base b q : Nat} {tc : Nat → ClassId} {D : va_G} {w : zM} {x : va_E} {H : Heap} (hP : va_P D zCl (zw base b tc w ++ [(q, x)]) H) (hD : va_D (fun q => base ≤ q) (zw base b tc w ++ [(q, x)])) (hz : H.size ≤ base + w.length + 1) : q = base + w.length := by
  have hl : (zw base b tc w ++ [(q, x)])[w.length]? = some (q, x) := by
    rw [List.getElem?_append_right (by rw [zw_len]; exact Nat.le_refl _), zw_len, Nat.sub_self]
    rfl
  have h1 : q < H.size := (hP _ _ hl).lt
  have h2 : base ≤ q := hD.2 _ _ hl
  by_cases hq : q < base + w.length
  · exfalso
    have hi : q - base < w.length := by omega
    have hg : (zw base b tc w ++ [(q, x)])[q - base]? = some (base + (q - base), ze base b tc w[q - base]) := by
      rw [List.getElem?_append_left (by rw [zw_len]; exact hi)]
      exact zw_get (List.getElem?_eq_getElem hi)
    have := hD.1 _ _ _ _ hg hl (by show base + (q - base) = q; omega)
    omega
  · omega
theorem zS_new {ci idx N : Nat} {C : String} {T : u_T} {ty : Nat → FieldType} {fs : List Value} (hd : decode (mB j) pc = .ok (.new idx, 3)) (hcl : zCl[ci]? = some (C, T, N)) (hin : ∀ w ∈ u_ws C T N, w ∈ zWS) (hty : ∀ k, k < N → parseFieldDescriptor (T k).2.2.1 = some (ty k)) (hlink : Cond.classLink (mOw j) idx C ∈ zWS) (hinst : Cond.instantiable C N ∈ zWS) (hini : Cond.initialized C ∈ zWS) (hfs : ∀ k, k < N → defaultValue (ty k) = vp_V fs k) (hzf : ∀ base b, fs.map (zv base b) = fs) : zS L xs j pc (i_nw (mBu j) ci N fs (pc + 3)) := by
  intro p l e R s m args below meth c base b tc D n0 Q ls st w k q LS H locs hX hg hlo hH hw kk
  obtain ⟨hx, hb, hr, hlk, hml, hown, hnm, hts, hN, hK, hRc, hRs, hRf, hRl, hsz, hXs, hbb⟩ := hX
  unfold i_nw at hg
  split at hg
  · rename_i hc
    cases hg
    refine va_new (D := D) (fs := fs) hx hb hts hin ty hty hown (hts _ hlink) (hts _ hinst) (hts _ hini) hK hH.1 zw_D hH.2.1 (fun q h => Nat.le_trans hH.2.2 h) hcl hfs (by rw [hRc]; exact hc.1) (by rw [hRs]; exact hc.2) hd (fun q0 H1 hP1 hD1 hS1 => zsized fun hz => ?_)
    have hq : q0 = base + w.length := zfresh hP1 hD1 (by omega)
    subst hq
    refine kk _ _ _ hlo ⟨?_, hS1, hH.2.2⟩ (by show (w ++ [_]).length = _; rw [List.length_append]; show w.length + 1 = n0 + (k.1 + 1); omega)
    rw [← zw_push]
    show va_P D zCl (zw base b tc w ++ [(base + w.length, .inr (ci, fs.map (zv base b)))]) H1
    rw [hzf]
    exact hP1
  · cases hg
theorem zS_newa {t : Nat} {atype : ArrayType} {ty : FieldType} {x : (Nat → Int32) ⊕ (Nat → Int64) ⊕ (Nat → UInt32) ⊕ (Nat → UInt64) ⊕ (Nat → Option Nat)} (hd : decode (mB j) pc = .ok (.newarray atype, 2)) (harr : Cond.arrayClass (newarray.typeOf atype) ∈ zWS) (hty : newarray.typeOf atype = ty) (hcb : componentBytes ty ≤ 8) (ht : ∀ tc : Nat → ClassId, (zTy tc)[t]? = some (tc t, ty)) (hx1 : ∀ base, zx base x = x) (hx2 : ∀ (cA : ClassId) (n : Nat), vp_cell cA (n, x) = arrV cA n (fun _ => defaultValue ty)) (hpr : ∀ (U : State) (cA : ClassId), va_RA U cA ty → U.vm.findClass ("[" ++ ty.toString) = some cA) : zS L xs j pc (i_na (mBu j) t x (pc + 2)) := by
  intro p l e R s m args below meth c base b tc D n0 Q ls st w k q LS H locs hX hg hlo hH hw kk
  obtain ⟨hx, hb, hr, hlk, hml, hown, hnm, hts, hN, hK, hRc, hRs, hRf, hRl, hsz, hXs, hbb⟩ := hX
  unfold i_na at hg
  split at hg
  · rename_i n r
    split at hg
    · rename_i hc
      obtain ⟨c1, c2, c3, c4⟩ := hc
      cases hg
      have hn : ¬ n < 0 := by
        rw [Int32.lt_iff_toInt_lt, Int32.toInt_zero]
        omega
      have hnn : n.toNatClampNeg ≤ 65536 := by
        show n.toInt.toNat ≤ 65536
        omega
      refine va_newa (D := D) (a0 := (n.toNatClampNeg, x)) hx hb (hts _ harr) hty hK hH.1 zw_D hH.2.1 (fun q h => Nat.le_trans hH.2.2 h) (fun cA => hx2 cA _) hn rfl (Nat.le_trans (Nat.mul_le_mul hnn hcb) (by decide)) (by rw [hRc]; exact c3) (by rw [hRs]; exact c4) hd (fun q0 cA H1 hK1 hP1 hD1 hS1 => zsized fun hz => ?_)
      have hcA : cA = tc t := by
        have g1 := (hK.2 t _ (ht tc)).2
        have g2 := (hK1.2 (zTy tc).length (cA, ty) (by rw [List.getElem?_append_right (Nat.le_refl _), Nat.sub_self]; rfl)).2
        exact Option.some.inj ((hpr s _ g2).symm.trans (hpr s _ g1))
      subst hcA
      have hq : q0 = base + w.length := zfresh hP1 hD1 (by omega)
      subst hq
      refine kk _ _ _ hlo ⟨?_, hS1, hH.2.2⟩ (by show (w ++ [_]).length = _; rw [List.length_append]; show w.length + 1 = n0 + (k.1 + 1); omega)
      rw [← zw_push]
      show va_P D zCl (zw base b tc w ++ [(base + w.length, .inl (tc t, n.toNatClampNeg, zx base x))]) H1
      rw [hx1]
      exact hP1
    · cases hg
  · cases hg
theorem zS_newq {t idx : Nat} {C : String} (hd : decode (mB j) pc = .ok (.anewarray idx, 3)) (hlink : Cond.classLink (mOw j) idx C ∈ zWS) (hov : C ∈ zAO) (ht : ∀ tc : Nat → ClassId, (zTy tc)[t]? = some (tc t, .object C)) : zS L xs j pc (i_na (mBu j) t (.inr (.inr (.inr (.inr (fun _ => none))))) (pc + 3)) := by
  intro p l e R s m args below meth c base b tc D n0 Q ls st w k q LS H locs hX hg hlo hH hw kk
  obtain ⟨hx, hb, hr, hlk, hml, hown, hnm, hts, hN, hK, hRc, hRs, hRf, hRl, hsz, hXs, hbb⟩ := hX
  unfold i_na at hg
  split at hg
  · rename_i n r
    split at hg
    · rename_i hc
      obtain ⟨c1, c2, c3, c4⟩ := hc
      cases hg
      have hn : ¬ n < 0 := by
        rw [Int32.lt_iff_toInt_lt, Int32.toInt_zero]
        omega
      have hnn : n.toNatClampNeg ≤ 65536 := by
        show n.toInt.toNat ≤ 65536
        omega
      refine va_newq (D := D) hx hb hown (hts _ hlink) (hN.2.2 _ hov) hK hH.1 zw_D hH.2.1 (fun q h => Nat.le_trans hH.2.2 h) hn rfl (Nat.le_trans (Nat.mul_le_mul_right 4 hnn) (by decide)) (by rw [hRc]; exact c3) (by rw [hRs]; exact c4) hd (fun q0 cA H1 hK1 hP1 hD1 hS1 => zsized fun hz => ?_)
      have hcA : cA = tc t := by
        obtain ⟨_, _, _, _, _, g1⟩ := (hK.2 t _ (ht tc)).2
        obtain ⟨_, _, _, _, _, g2⟩ := (hK1.2 (zTy tc).length (cA, .object C) (by rw [List.getElem?_append_right (Nat.le_refl _), Nat.sub_self]; rfl)).2
        exact Option.some.inj (g2.symm.trans g1)
      subst hcA
      have hq : q0 = base + w.length := zfresh hP1 hD1 (by omega)
      subst hq
      refine kk _ _ _ hlo ⟨?_, hS1, hH.2.2⟩ (by show (w ++ [_]).length = _; rw [List.length_append]; show w.length + 1 = n0 + (k.1 + 1); omega)
      rw [← zw_push]
      exact hP1
    · cases hg
  · cases hg
theorem zS_oinit {idx : Nat} (hd : decode (mB j) pc = .ok (.invokespecial idx, 3)) (hl : Cond.methodLink (mOw j) idx Lib.objectInit ∈ zWS) (hi : Cond.instanceMethod Lib.objectInit ∈ zWS) (hc : Cond.code Lib.objectInit ⟨#[0xb1]⟩ 1 none ∈ zWS) (hdp : 1 ≤ mDp j) : zS L xs j pc (i_oi (pc + 3)) := by
  intro p l e R s m args below meth c base b tc D n0 Q ls st w k q LS H locs hX hg hlo hH hw kk
  obtain ⟨hx, hb, hr, hlk, hml, hown, hnm, hts, hN, hK, hRc, hRs, hRf, hRl, hsz, hXs, hbb⟩ := hX
  unfold i_oi at hg
  split at hg
  · rename_i a r
    split at hg
    · rename_i hsum
      cases hg
      have hls : LS.size = c.maxLocals := by
        obtain ⟨-, lv, h1, -⟩ := hlo
        rw [hml]
        exact h1.1
      refine W.objInit hx hb hown (hts _ hl) (hts _ hi) (hts _ hc) rfl hls (a := base + a) (rest := r.map (zv base b)) rfl hd (Nat.le_trans hdp hRf) ?_ (kk _ _ _ hlo hH hw)
      have := lv_room (m := m) (pc := pc) (ls := LS) (rest := (.ref a :: r).map (zv base b)) (st := r.map (zv base b)) (by rw [zcat]; exact hsum)
      omega
    · cases hg
  · cases hg
theorem zS_mmax {idx : Nat} (hd : decode (mB j) pc = .ok (.invokestatic idx, 3)) (hl : Cond.methodLink (mOw j) idx Lib.Math.max.name ∈ zWS) (hs : Cond.static Lib.Math.max.name ∈ zWS) (hi : Cond.initialized "java/lang/Math" ∈ zWS) (hc : Cond.code Lib.Math.max.name Lib.Math.max.code 2 (some .int) ∈ zWS) (hdp : 1 ≤ mDp j) : zS L xs j pc (i_mm (mBu j) (fun x y => if x < y then y else x) (pc + 3)) := by
  intro p l e R s m args below meth c base b tc D n0 Q ls st w k q LS H locs hX hg hlo hH hw kk
  obtain ⟨hx, hb, hr, hlk, hml, hown, hnm, hts, hN, hK, hRc, hRs, hRf, hRl, hsz, hXs, hbb⟩ := hX
  unfold i_mm at hg
  split at hg
  · rename_i y x r
    split at hg
    · rename_i hsum
      obtain ⟨hsum, k1, k2⟩ := hsum
      cases hg
      have hls : c.maxLocals = LS.size := by
        obtain ⟨-, lv, h1, -⟩ := hlo
        rw [hml]
        exact h1.1.symm
      refine va_mmax hx hb hls hown (hts _ hl) (hts _ hs) (hts _ hi) (hts _ hc) (Nat.le_trans hdp hRf) (by rw [zcat]; omega) (by rw [hRc]; exact k1) (by rw [hRs]; exact k2) hd (kk _ _ _ hlo hH hw)
    · cases hg
  · cases hg
theorem zS_mmin {idx : Nat} (hd : decode (mB j) pc = .ok (.invokestatic idx, 3)) (hl : Cond.methodLink (mOw j) idx Lib.Math.min.name ∈ zWS) (hs : Cond.static Lib.Math.min.name ∈ zWS) (hi : Cond.initialized "java/lang/Math" ∈ zWS) (hc : Cond.code Lib.Math.min.name Lib.Math.min.code 2 (some .int) ∈ zWS) (hdp : 1 ≤ mDp j) : zS L xs j pc (i_mm (mBu j) (fun x y => if y < x then y else x) (pc + 3)) := by
  intro p l e R s m args below meth c base b tc D n0 Q ls st w k q LS H locs hX hg hlo hH hw kk
  obtain ⟨hx, hb, hr, hlk, hml, hown, hnm, hts, hN, hK, hRc, hRs, hRf, hRl, hsz, hXs, hbb⟩ := hX
  unfold i_mm at hg
  split at hg
  · rename_i y x r
    split at hg
    · rename_i hsum
      obtain ⟨hsum, k1, k2⟩ := hsum
      cases hg
      have hls : c.maxLocals = LS.size := by
        obtain ⟨-, lv, h1, -⟩ := hlo
        rw [hml]
        exact h1.1.symm
      refine va_mmin hx hb hls hown (hts _ hl) (hts _ hs) (hts _ hi) (hts _ hc) (Nat.le_trans hdp hRf) (by rw [zcat]; omega) (by rw [hRc]; exact k1) (by rw [hRs]; exact k2) hd (kk _ _ _ hlo hH hw)
    · cases hg
  · cases hg
theorem zfit_ok {x : Int32} : (zfit 0 x = true → fits .int (.int x) = true) ∧ (zfit 2 x = true → fits .char (.int x) = true) := by
  refine ⟨fun _ => rfl, fun h => ?_⟩
  have h := of_decide_eq_true h
  obtain ⟨q, hq, rfl⟩ := nI_of (x := x) (by rw [Int32.lt_iff_toInt_lt, Int32.toInt_zero]; omega)
  rw [nI_toInt hq] at h
  exact (pk_charN (q := q) (by omega)).2
theorem zS_acopy {idx : Nat} (hd : decode (mB j) pc = .ok (.invokestatic idx, 3)) (hl : Cond.methodLink (mOw j) idx arraycopyName ∈ zWS) (hnt : Cond.native arraycopyName ∈ zWS) (hs : Cond.static arraycopyName ∈ zWS) (hi : Cond.initialized "java/lang/System" ∈ zWS) (hdp : 1 ≤ mDp j) : zS L xs j pc (i_cp (pc + 3)) := by
  intro p l e R s m args below meth c base b tc D n0 Q ls st w k q LS H locs hX hg hlo hH hw kk
  obtain ⟨hx, hb, hr, hlk, hml, hown, hnm, hts, hN, hK, hRc, hRs, hRf, hRl, hsz, hXs, hbb⟩ := hX
  unfold i_cp at hg
  split at hg
  · rename_i n dp a sp q' r
    split at hg
    · rename_i t0 n0' f t1 n1 g hq ha
      split at hg
      · rename_i hc
        obtain ⟨rfl, ht, c1, c2, c3, c4, c5, c6, hsum⟩ := hc
        cases hg
        have hls : c.maxLocals = LS.size := by
          obtain ⟨-, lv, h1, -⟩ := hlo
          rw [hml]
          exact h1.1.symm
        have nn : ∀ z : Int32, 0 ≤ z.toInt → ¬ z < 0 := fun z hz => by
          rw [Int32.lt_iff_toInt_lt, Int32.toInt_zero]
          omega
        have hnw : nativeFrameWords "java/lang/System" "arraycopy" 5 = 7 := by decide +kernel
        have ha2 := zw_get (base := base) (b := b) (tc := tc) ha
        have hq2 := zw_get (base := base) (b := b) (tc := tc) hq
        rcases ht with rfl | rfl
        · refine va_copyi (D := D) hx hb hls hown (hts _ hl) (hts _ hnt) (hts _ hs) (hts _ hi) hK hH.1 zw_D hH.2.1 q' a 0 0 (f := f) (g := g) hq2 ha2 rfl rfl rfl (nn _ c1) (nn _ c2) (nn _ c3) c4 c5 (fun i hi' => zfit_ok.1 (c6 i hi')) (Nat.le_trans hdp hRf) (by rw [zcat, hnw]; omega) hd (fun H1 locs1 hP1 hD1 hS1 => kk _ _ _ hlo ⟨?_, hS1, hH.2.2⟩ (by show (w.set a _).length = _; rw [List.length_set]; exact hw))
          rw [← zw_set]
          exact hP1
        · refine va_copyi (D := D) hx hb hls hown (hts _ hl) (hts _ hnt) (hts _ hs) (hts _ hi) hK hH.1 zw_D hH.2.1 q' a 2 2 (f := f) (g := g) hq2 ha2 rfl rfl rfl (nn _ c1) (nn _ c2) (nn _ c3) c4 c5 (fun i hi' => zfit_ok.2 (c6 i hi')) (Nat.le_trans hdp hRf) (by rw [zcat, hnw]; omega) hd (fun H1 locs1 hP1 hD1 hS1 => kk _ _ _ hlo ⟨?_, hS1, hH.2.2⟩ (by show (w.set a _).length = _; rw [List.length_set]; exact hw))
          rw [← zw_set]
          exact hP1
      · cases hg
    · cases hg
  · cases hg
end ZOPS
