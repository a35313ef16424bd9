/-! calls, returns, and the walk of a method by the small machine -/
def mWs (j : Nat) : List Cond := Cond.code (mY j) (mB j) (mMx j) (mRt j) :: zWS
def mRm (j : Nat) : Room := { frames := mDp j, cells := (mBu j).1, slots := (mBu j).2, locals := 40 * mDp j }
def zB (base b L : Nat) (xs : Nat → Int32) (tc : Nat → ClassId) (D : va_G) (w : zM) (U : State) : Prop := U.heap.size = base + w.length ∧ va_P D zCl (zw base b tc w) U.heap ∧ va_K D zCl (zTy tc) U ∧ zN U ∧ va_X b L xs U U.heap ∧ b < base
def zQ (base b L : Nat) (xs : Nat → Int32) (tc : Nat → ClassId) (D : va_G) (r : Option Value) (w w' : zM) (mc : Nat) : Array Value → State → Outcome → State → Prop := fun _ st oc t => oc = .returned (r.map (zv base b)) ∧ zB base b L xs tc D w' t ∧ va_F (fun q => base ≤ q) st t ∧ w'.length = w.length + mc
/-- method j, called with vs where the cells are w, answers r and leaves w' -/
def zMet (l : Launch) (j base b L : Nat) (xs : Nat → Int32) (tc : Nat → ClassId) (D : va_G) (vs : List Value) (w : zM) (r : Option Value) (w' : zM) : Prop :=
  Met l (mY j) (mWs j) (mRm j) (va_Pc (vs.map (zv base b)) (zB base b L xs tc D w)) (zQ base b L xs tc D r w w' (mBu j).1) (mBu j).1 (mBu j).2 (fun q => base ≤ q)
theorem zB_blind {vs : List Value} {base b L : Nat} {xs : Nat → Int32} {tc : Nat → ClassId} {D : va_G} {w : zM} : FrameBlind (va_Pc vs (zB base b L xs tc D w)) := fun a U g mk h =>
  ⟨h.1, h.2.1, h.2.2.1, va_K.moved (u := U) (U := U.calling g mk a) (Vm.Alike.refl U.vm) h.2.2.2.1, zN.same (u := U) (U := U.calling g mk a) rfl h.2.2.2.2.1, va_X.moved (u := U) (U := U.calling g mk a) (Vm.Alike.refl U.vm) h.2.2.2.2.2.1, h.2.2.2.2.2.2⟩
theorem zGood {j : Nat} (h : Cond.code (mY j) (mB j) (mMx j) (mRt j) ∈ zWS) : GoodIn zWS (mWs j) := by
  intro w hw
  rcases List.mem_cons.mp hw with rfl | hw
  · exact ⟨h, zWS_ok _ h⟩
  · exact ⟨hw, zWS_ok _ hw⟩
section ZCALL
variable {p : Program} {l : Launch} {e : Env} {R : Room} {s : State} {m : MethodId} {args : Array Value} {below : List Frame} {meth : Method} {c : Code} {H : Heap} {locs : List Loc} {k1 k2 : Nat} {Q : State → Prop} {base b L : Nat} {xs : Nat → Int32} {tc : Nat → ClassId} {D : va_G}
theorem zaft {mc ms mc' pc : Nat} {LS : Array Slot} {st0 rest : List Value} {r : Option Value} {w w' : zM} {a : Array Value} (hr : va_Run p l e R s m args below meth c H locs k1 k2 mc ms (F0 m pc LS st0) rest (zQ base b L xs tc D r w w' mc' a) (fun q => base ≤ q)) (hS : va_S (fun q => base ≤ q) s.heap H locs) (hbs : base ≤ s.heap.size)
    (kk : ∀ (H' : Heap) (locs' : List Loc), zH base b tc D w' s H' locs' → w'.length = w.length + mc' → W p l e R s m args below meth c H' locs' (k1 + mc) (k2 + ms) Q (F0 m (pc + 3) LS ((r.map (zv base b)).toList ++ rest))) : W p l e R s m args below meth c H locs k1 k2 Q (F0 m pc LS st0) := by
  intro T hT X
  obtain ⟨v, st₀, t, T', LL, h0, X', hL, e1, e2, ⟨hv, hB, ⟨hz, hk⟩, hlen⟩, st⟩ := hr T hT X
  cases hv
  rw [h0] at hz hk
  obtain ⟨t2, a1, b1⟩ := kk T'.heap (locs ++ LL) ⟨by rw [e1]; exact hB.2.1, ⟨Nat.le_trans hS.1 (by rw [e1]; exact hz), fun q h1 h2 => by rw [e1, hk q (Nat.lt_of_lt_of_le h1 hS.1) h2]; exact hS.2.1 q h1 h2, fun q hq => by
      rcases List.mem_append.mp hq with h | h
      · exact hS.2.2 q h
      · exact hL q h⟩, hbs⟩ hlen T' rfl X'
  exact ⟨t2, st t2 a1, b1⟩
theorem zpre {vs : List Value} {w : zM} (hN : zN s) (hK : va_K D zCl (zTy tc) s) (hH : zH base b tc D w s H locs) (hXs : va_X b L xs s s.heap) (hbb : b < base) (hz : H.size = base + w.length) : ∀ U : State, U.heap = H → s.WarmedH U.vm → va_Pc (vs.map (zv base b)) (zB base b L xs tc D w) (vs.map (zv base b)).toArray U :=
  fun U hU hW => ⟨rfl, by rw [hU]; exact hz, by rw [hU]; exact hH.1, va_K.moved hW.alike hK, zN.warm hW hN, by rw [hU]; exact (hXs.kept (hH.2.1.2.1 b (Nat.lt_of_lt_of_le hbb hH.2.2) (Nat.not_le.mpr hbb))).moved hW.alike, hbb⟩
end ZCALL
/-- a call is sound -/
def zSc (L : Nat) (xs : Nat → Int32) (j pc j' n v : Nat) : Prop :=
  ∀ (p : Program) (l : Launch) (e : Env) (R : Room) (s : State) (m : MethodId) (args : Array Value) (below : List Frame) (meth : Method) (c : Code) (base b : Nat) (tc : Nat → ClassId) (D : va_G) (n0 : Nat) (Q : State → Prop) (ls : zL) (vs rest : List Value) (w w' : zM) (k : zK) (r : Option Value) (LS : Array Slot) (H : Heap) (locs : List Loc),
    zX p R s m args meth c j base b L xs tc D n0 → zMet l j' base b L xs tc D vs w r w' → vs.length = n → (v = 0 ∨ ∃ (a : Nat) (As : List Value) (fs : List Value), vs = .ref a :: As ∧ w[a]? = some (.inr (v - 1, fs))) → k.1 + (mBu j').1 ≤ (mBu j).1 → k.2 + (mBu j').2 ≤ (mBu j).2 → zLo base b (mMx j) ls LS → zH base b tc D w s H locs → H.size = base + w.length → (rest.map fun x => x.category).sum ≤ 8 →
    (∀ (H' : Heap) (locs' : List Loc), zH base b tc D w' s H' locs' → w'.length = w.length + (mBu j').1 → W p l e R s m args below meth c H' locs' (k.1 + (mBu j').1) (k.2 + (mBu j').2) Q (F0 m (pc + 3) LS ((r.map (zv base b)).toList ++ rest.map (zv base b)))) →
    W p l e R s m args below meth c H locs k.1 k.2 Q (F0 m pc LS ((vs.map (zv base b)).reverse ++ rest.map (zv base b)))
section ZSC
variable {L : Nat} {xs : Nat → Int32} {j pc j' idx n : Nat}
theorem zroom {R : Room} (hRf : mDp j ≤ R.frames) (hRl : 40 * mDp j ≤ R.locals) (hdp : mDp j' + 1 ≤ mDp j) (hmx : mMx j' ≤ 21) : (mRm j').frames + 1 ≤ R.frames ∧ 8 + (mMx j' + 11) + (mRm j').locals ≤ R.locals := by
  refine ⟨Nat.le_trans hdp hRf, ?_⟩
  show 8 + (mMx j' + 11) + 40 * mDp j' ≤ R.locals
  omega
theorem zc_static (hd : decode (mB j) pc = .ok (.invokestatic idx, 3)) (hcode : Cond.code (mY j') (mB j') (mMx j') (mRt j') ∈ zWS) (hl : Cond.methodLink (mOw j) idx (mY j') ∈ zWS) (hs : Cond.static (mY j') ∈ zWS) (hi : Cond.initialized (mY j').cls ∈ zWS)
    (hy : (mY j').cls ≠ "java/lang/invoke/MethodHandle" ∧ (mY j').cls ≠ "java/lang/invoke/VarHandle" ∧ (parseMethodDescriptor (mY j').desc).map (fun d => d.parameters.length) = some n) (hdp : mDp j' + 1 ≤ mDp j) (hmx : mMx j' ≤ 21) : zSc L xs j pc j' n 0 := by
  intro p l e R s m args below meth c base b tc D n0 Q ls vs rest w w' k r LS H locs hX hM hn hv h1 h2 hlo hH hz hsum kk
  obtain ⟨hx, hb, hr, hlk, hml, hown, hnm, hts, hN, hK, hRc, hRs, hRf, hRl, hsz, hXs, hbb⟩ := hX
  have hls : LS.size = mMx j := by
    obtain ⟨-, lv, g1, -⟩ := hlo
    exact g1.1
  refine zaft (va_runS (S := ⟨hx, hb, hml, hown, hts⟩) hM ⟨callB_of n hts (zGood hcode) rfl rfl rfl (hts _ hi) (hts _ hl) hy (zroom hRf hRl hdp hmx), hts _ hs⟩ (As := vs.map (zv base b)) (rest := rest.map (zv base b)) ⟨zB_blind, zpre hN hK hH hXs hbb hz⟩ rfl (by rw [List.length_map]; exact hn) hls rfl (lv_room (by rw [zcat]; exact hsum)) hd ⟨by rw [hRc]; exact h1, by rw [hRs]; exact h2⟩) hH.2.1 hH.2.2 kk
theorem zc_staticN {host : String} (hd : decode (mB j) pc = .ok (.invokestatic idx, 3)) (hcode : Cond.code (mY j') (mB j') (mMx j') (mRt j') ∈ zWS) (hl : (mOw j, idx, mY j', host) ∈ zML) (hs : Cond.static (mY j') ∈ zWS) (hi : Cond.initialized (mY j').cls ∈ zWS)
    (hy : (mY j').cls ≠ "java/lang/invoke/MethodHandle" ∧ (mY j').cls ≠ "java/lang/invoke/VarHandle" ∧ (parseMethodDescriptor (mY j').desc).map (fun d => d.parameters.length) = some n) (hdp : mDp j' + 1 ≤ mDp j) (hmx : mMx j' ≤ 21) : zSc L xs j pc j' n 0 := by
  intro p l e R s m args below meth c base b tc D n0 Q ls vs rest w w' k r LS H locs hX hM hn hv h1 h2 hlo hH hz hsum kk
  obtain ⟨hx, hb, hr, hlk, hml, hown, hnm, hts, hN, hK, hRc, hRs, hRf, hRl, hsz, hXs, hbb⟩ := hX
  have hls : LS.size = mMx j := by
    obtain ⟨-, lv, g1, -⟩ := hlo
    exact g1.1
  refine zaft (va_runSN (S := ⟨hx, hb, hml, hown, hts⟩) hM ⟨va_cnB n hts (zGood hcode) rfl rfl rfl (hN.2.1 _ hl) (hts _ hi) hy (zroom hRf hRl hdp hmx), hts _ hs, trivial⟩ (As := vs.map (zv base b)) (rest := rest.map (zv base b)) ⟨zB_blind, zpre hN hK hH hXs hbb hz⟩ rfl (by rw [List.length_map]; exact hn) hls rfl (lv_room (by rw [zcat]; exact hsum)) hd ⟨by rw [hRc]; exact h1, by rw [hRs]; exact h2⟩) hH.2.1 hH.2.2 kk
theorem zstk (base b a : Nat) (As rest : List Value) : ((Value.ref a :: As).map (zv base b)).reverse ++ rest = (As.map (zv base b)).reverse ++ .ref (base + a) :: rest := by
  show (zv base b (.ref a) :: As.map (zv base b)).reverse ++ rest = _
  rw [List.reverse_cons, List.append_assoc]
  rfl
theorem zc_init {ci N : Nat} {C : String} {T : u_T} (hd : decode (mB j) pc = .ok (.invokespecial idx, 3)) (hrt : mRt j' = none) (hcode : Cond.code (mY j') (mB j') (mMx j') (mRt j') ∈ zWS) (hl : Cond.methodLink (mOw j) idx (mY j') ∈ zWS) (hs : Cond.instanceMethod (mY j') ∈ zWS) (hi : Cond.initialized (mY j').cls ∈ zWS) (hnm' : (mY j').name = "<init>")
    (hy : (mY j').cls ≠ "java/lang/invoke/MethodHandle" ∧ (mY j').cls ≠ "java/lang/invoke/VarHandle" ∧ (parseMethodDescriptor (mY j').desc).map (fun d => d.parameters.length) = some n) (hdp : mDp j' + 1 ≤ mDp j) (hmx : mMx j' ≤ 21) : zSc L xs j pc j' (n + 1) (ci + 1) := by
  intro p l e R s m args below meth c base b tc D n0 Q ls vs rest w w' k r LS H locs hX hM hn hv h1 h2 hlo hH hz hsum kk
  obtain ⟨hx, hb, hr, hlk, hml, hown, hnm, hts, hN, hK, hRc, hRs, hRf, hRl, hsz, hXs, hbb⟩ := hX
  have hls : LS.size = mMx j := by
    obtain ⟨-, lv, g1, -⟩ := hlo
    exact g1.1
  rcases hv with hv | ⟨a, As, fs, rfl, ha⟩
  · omega
  have hcode' : Cond.code (mY j') (mB j') (mMx j') none ∈ zWS := hrt ▸ hcode
  rw [zstk]
  have hw' : mWs j' = Cond.code (mY j') (mB j') (mMx j') none :: zWS := by unfold mWs; rw [hrt]
  refine zaft (va_runI (S := ⟨hx, hb, hml, hown, hts⟩) hM ⟨callB_of n hts (zGood hcode) hw' rfl rfl (hts _ hi) (hts _ hl) hy (zroom hRf hRl hdp hmx), hnm', hts _ hs⟩ (b := base + a) (As := As.map (zv base b)) (rest := rest.map (zv base b)) ⟨zB_blind, zpre (vs := .ref a :: As) hN hK hH hXs hbb hz⟩ rfl (by rw [List.length_map]; exact Nat.succ.inj hn) hls rfl (lv_room (by rw [zcat]; exact hsum)) hd ⟨by rw [hRc]; exact h1, by rw [hRs]; exact h2⟩) hH.2.1 hH.2.2 kk
theorem zc_initN {ci N : Nat} {C host : String} {T : u_T} (hd : decode (mB j) pc = .ok (.invokespecial idx, 3)) (hrt : mRt j' = none) (hcode : Cond.code (mY j') (mB j') (mMx j') (mRt j') ∈ zWS) (hl : (mOw j, idx, mY j', host) ∈ zML) (hs : Cond.instanceMethod (mY j') ∈ zWS) (hi : Cond.initialized (mY j').cls ∈ zWS) (hnm' : (mY j').name = "<init>")
    (hy : (mY j').cls ≠ "java/lang/invoke/MethodHandle" ∧ (mY j').cls ≠ "java/lang/invoke/VarHandle" ∧ (parseMethodDescriptor (mY j').desc).map (fun d => d.parameters.length) = some n) (hdp : mDp j' + 1 ≤ mDp j) (hmx : mMx j' ≤ 21) : zSc L xs j pc j' (n + 1) (ci + 1) := by
  intro p l e R s m args below meth c base b tc D n0 Q ls vs rest w w' k r LS H locs hX hM hn hv h1 h2 hlo hH hz hsum kk
  obtain ⟨hx, hb, hr, hlk, hml, hown, hnm, hts, hN, hK, hRc, hRs, hRf, hRl, hsz, hXs, hbb⟩ := hX
  have hls : LS.size = mMx j := by
    obtain ⟨-, lv, g1, -⟩ := hlo
    exact g1.1
  rcases hv with hv | ⟨a, As, fs, rfl, ha⟩
  · omega
  rw [zstk]
  have hw' : mWs j' = Cond.code (mY j') (mB j') (mMx j') none :: zWS := by unfold mWs; rw [hrt]
  refine zaft (va_runIN (S := ⟨hx, hb, hml, hown, hts⟩) hM ⟨va_cnB n hts (zGood hcode) hw' rfl rfl (hN.2.1 _ hl) (hts _ hi) hy (zroom hRf hRl hdp hmx), hnm', hts _ hs⟩ (b := base + a) (As := As.map (zv base b)) (rest := rest.map (zv base b)) ⟨zB_blind, zpre (vs := .ref a :: As) hN hK hH hXs hbb hz⟩ rfl (by rw [List.length_map]; exact Nat.succ.inj hn) hls rfl (lv_room (by rw [zcat]; exact hsum)) hd ⟨by rw [hRc]; exact h1, by rw [hRs]; exact h2⟩) hH.2.1 hH.2.2 kk
theorem zc_virt {ci N : Nat} {C : String} {T : u_T} (hd : decode (mB j) pc = .ok (.invokevirtual idx, 3)) (hcl : zCl[ci]? = some (C, T, N)) (hcode : Cond.code (mY j') (mB j') (mMx j') (mRt j') ∈ zWS) (hl : Cond.methodLink (mOw j) idx (mY j') ∈ zWS) (hs : Cond.instanceMethod (mY j') ∈ zWS) (hse : Cond.selects C (mY j') (mY j') ∈ zWS) (hi : Cond.initialized (mY j').cls ∈ zWS)
    (hy : (mY j').cls ≠ "java/lang/invoke/MethodHandle" ∧ (mY j').cls ≠ "java/lang/invoke/VarHandle" ∧ (parseMethodDescriptor (mY j').desc).map (fun d => d.parameters.length) = some n) (hdp : mDp j' + 1 ≤ mDp j) (hmx : mMx j' ≤ 21) : zSc L xs j pc j' (n + 1) (ci + 1) := by
  intro p l e R s m args below meth c base b tc D n0 Q ls vs rest w w' k r LS H locs hX hM hn hv h1 h2 hlo hH hz hsum kk
  obtain ⟨hx, hb, hr, hlk, hml, hown, hnm, hts, hN, hK, hRc, hRs, hRf, hRl, hsz, hXs, hbb⟩ := hX
  have hls : LS.size = mMx j := by
    obtain ⟨-, lv, g1, -⟩ := hlo
    exact g1.1
  rcases hv with hv | ⟨a, As, fs, rfl, ha⟩
  · omega
  have ha2 := zw_get (base := base) (b := b) (tc := tc) ha
  have hrc := va_recv (q := (C, T, N)) (fs := fs.map (zv base b)) (ci := ci) hK hH.1 hcl ha2
  rw [zstk]
  refine zaft (va_runV (S := ⟨hx, hb, hml, hown, hts⟩) (C := C) hM ⟨callB_of n hts (zGood hcode) rfl rfl rfl (hts _ hi) (hts _ hl) hy (zroom hRf hRl hdp hmx), hts _ hs, hts _ hse⟩ (b := base + a) (As := As.map (zv base b)) (rest := rest.map (zv base b)) ⟨zB_blind, hrc, zpre (vs := .ref a :: As) hN hK hH hXs hbb hz⟩ rfl (by rw [List.length_map]; exact Nat.succ.inj hn) hls rfl (lv_room (by rw [zcat]; exact hsum)) hd ⟨by rw [hRc]; exact h1, by rw [hRs]; exact h2⟩) hH.2.1 hH.2.2 kk
theorem zc_virtN {ci N : Nat} {C host : String} {T : u_T} (hd : decode (mB j) pc = .ok (.invokevirtual idx, 3)) (hcl : zCl[ci]? = some (C, T, N)) (hcode : Cond.code (mY j') (mB j') (mMx j') (mRt j') ∈ zWS) (hl : (mOw j, idx, mY j', host) ∈ zML) (hs : Cond.instanceMethod (mY j') ∈ zWS) (hse : Cond.selects C (mY j') (mY j') ∈ zWS) (hi : Cond.initialized (mY j').cls ∈ zWS)
    (hy : (mY j').cls ≠ "java/lang/invoke/MethodHandle" ∧ (mY j').cls ≠ "java/lang/invoke/VarHandle" ∧ (parseMethodDescriptor (mY j').desc).map (fun d => d.parameters.length) = some n) (hdp : mDp j' + 1 ≤ mDp j) (hmx : mMx j' ≤ 21) : zSc L xs j pc j' (n + 1) (ci + 1) := by
  intro p l e R s m args below meth c base b tc D n0 Q ls vs rest w w' k r LS H locs hX hM hn hv h1 h2 hlo hH hz hsum kk
  obtain ⟨hx, hb, hr, hlk, hml, hown, hnm, hts, hN, hK, hRc, hRs, hRf, hRl, hsz, hXs, hbb⟩ := hX
  have hls : LS.size = mMx j := by
    obtain ⟨-, lv, g1, -⟩ := hlo
    exact g1.1
  rcases hv with hv | ⟨a, As, fs, rfl, ha⟩
  · omega
  have ha2 := zw_get (base := base) (b := b) (tc := tc) ha
  have hrc := va_recv (q := (C, T, N)) (fs := fs.map (zv base b)) (ci := ci) hK hH.1 hcl ha2
  rw [zstk]
  refine zaft (va_runVN (S := ⟨hx, hb, hml, hown, hts⟩) (C := C) hM ⟨va_cnB n hts (zGood hcode) rfl rfl rfl (hN.2.1 _ hl) (hts _ hi) hy (zroom hRf hRl hdp hmx), hts _ hs, hts _ hse⟩ (b := base + a) (As := As.map (zv base b)) (rest := rest.map (zv base b)) ⟨zB_blind, hrc, zpre (vs := .ref a :: As) hN hK hH hXs hbb hz⟩ rfl (by rw [List.length_map]; exact Nat.succ.inj hn) hls rfl (lv_room (by rw [zcat]; exact hsum)) hd ⟨by rw [hRc]; exact h1, by rw [hRs]; exact h2⟩) hH.2.1 hH.2.2 kk
end ZSC
/-- a return is sound -/
def zSr (j pc v : Nat) : Prop := (v = 0 → decode (mB j) pc = .ok (.return_, 1) ∧ mRt j = none) ∧ (v = 1 → decode (mB j) pc = .ok (.ireturn, 1) ∧ mRt j = some .int) ∧ (v = 2 → decode (mB j) pc = .ok (.ireturn, 1) ∧ mRt j = some .boolean) ∧ (v = 3 → decode (mB j) pc = .ok (.lreturn, 1) ∧ mRt j = some .long)
theorem zr_0 {j pc : Nat} (h : decode (mB j) pc = .ok (.return_, 1)) (hr : mRt j = none) : zSr j pc 0 := ⟨fun _ => ⟨h, hr⟩, fun q => (by cases q), fun q => (by cases q), fun q => (by cases q)⟩
theorem zr_1 {j pc : Nat} (h : decode (mB j) pc = .ok (.ireturn, 1)) (hr : mRt j = some .int) : zSr j pc 1 := ⟨fun q => (by cases q), fun _ => ⟨h, hr⟩, fun q => (by cases q), fun q => (by cases q)⟩
theorem zr_2 {j pc : Nat} (h : decode (mB j) pc = .ok (.ireturn, 1)) (hr : mRt j = some .boolean) : zSr j pc 2 := ⟨fun q => (by cases q), fun q => (by cases q), fun _ => ⟨h, hr⟩, fun q => (by cases q)⟩
theorem zr_3 {j pc : Nat} (h : decode (mB j) pc = .ok (.lreturn, 1)) (hr : mRt j = some .long) : zSr j pc 3 := ⟨fun q => (by cases q), fun q => (by cases q), fun q => (by cases q), fun _ => ⟨h, hr⟩⟩
def zVal (L : Nat) (xs : Nat → Int32) (j pc : Nat) : zO → Prop
  | .inl g => zS L xs j pc g
  | .inr (.inl (j', n, v)) => plainName (mY j').cls = true ∧ mOw j' = (mY j').cls ∧ zSc L xs j pc j' n v
  | .inr (.inr v) => zSr j pc v
theorem zsl_at (base b : Nat) : ∀ (vs : List Value) (o i : Nat) (v : Value), (zsl vs)[i]? = some (some v) → (o + i, zv base b v) ∈ lv_args o (vs.map (zv base b))
  | [], o, i, v, h => by simp [zsl] at h
  | u :: vs, o, i, v, h => by
    rw [List.map_cons]
    unfold zsl at h
    unfold lv_args
    rw [zv_cat]
    split at h
    · rename_i hc
      rw [if_pos hc]
      match i, h with
      | 0, h => cases h; exact List.mem_cons_self
      | 1, h => cases h
      | i + 2, h =>
        have := zsl_at base b vs (o + 2) i v h
        rw [show o + 2 + i = o + (i + 2) by omega] at this
        exact List.mem_cons_of_mem _ this
    · rename_i hc
      rw [if_neg hc]
      match i, h with
      | 0, h => cases h; exact List.mem_cons_self
      | i + 1, h =>
        have := zsl_at base b vs (o + 1) i v h
        rw [show o + 1 + i = o + (i + 1) by omega] at this
        exact List.mem_cons_of_mem _ this
theorem zsl_len (base b : Nat) : ∀ vs : List Value, (lg_sl (vs.map (zv base b))).length = (zsl vs).length
  | [] => rfl
  | u :: vs => by
    have ih := zsl_len base b vs
    rw [List.map_cons]
    unfold zsl
    have e : lg_sl (zv base b u :: vs.map (zv base b)) = (if (zv base b u).category = 2 then [.val (zv base b u), .second] else [.val (zv base b u)]) ++ lg_sl (vs.map (zv base b)) := rfl
    rw [e, zv_cat, List.length_append, ih]
    split
    · show 2 + _ = _ + 1 + 1
      omega
    · show 1 + _ = _ + 1
      omega
theorem zent_at {base b n : Nat} {vs : List Value} {i : Nat} {v : Value} (h : (zent n vs)[i]? = some (some v)) : (i, zv base b v) ∈ lv_args 0 (vs.map (zv base b)) := by
  unfold zent at h
  by_cases hi : i < (zsl vs).length
  · rw [List.getElem?_append_left hi] at h
    have := zsl_at base b vs 0 i v h
    rwa [Nat.zero_add] at this
  · rw [List.getElem?_append_right (by omega), List.getElem?_replicate] at h
    split at h
    · cases h
    · cases h
theorem zent_len {n : Nat} {vs : List Value} (h : (zsl vs).length ≤ n) : (zent n vs).length = n := by
  unfold zent
  rw [List.length_append, List.length_replicate]
  omega
theorem zok_of {bj bi k : zK} {ml n v : Nat} {st : List Value} {w : zM} (h : zok bj bi ml n v st w k = true) : n ≤ st.length ∧ zrc v st n w = true ∧ ((st.drop n).map fun x => x.category).sum ≤ 8 ∧ (zsl (st.take n).reverse).length ≤ ml ∧ k.1 + bi.1 ≤ bj.1 ∧ k.2 + bi.2 ≤ bj.2 := by
  unfold zok at h
  simp only [Bool.and_eq_true, decide_eq_true_eq] at h
  exact h
theorem zrc_of {v n : Nat} {st : List Value} {w : zM} (hn : n ≤ st.length) (h : zrc v st n w = true) (hn0 : v ≠ 0 → 0 < n) : v = 0 ∨ ∃ (a : Nat) (As : List Value) (fs : List Value), (st.take n).reverse = .ref a :: As ∧ w[a]? = some (.inr (v - 1, fs)) := by
  unfold zrc at h
  split at h
  · exact Or.inl rfl
  · rename_i v
    right
    have hn0 := hn0 (Nat.succ_ne_zero v)
    split at h
    · rename_i a ha
      split at h
      · rename_i c' fs hw
        have hc : c' = v := eq_of_beq h
        subst hc
        have e1 : st.take n = st.take (n - 1) ++ [.ref a] := by
          have e2 : n = n - 1 + 1 := by omega
          rw [List.head?_drop] at ha
          conv => lhs; rw [e2]
          rw [List.take_add_one, ha]
          rfl
        refine ⟨a, (st.take (n - 1)).reverse, fs, ?_, hw⟩
        rw [e1, List.reverse_append]
        rfl
      · cases h
    · cases h
/-- THE WALK -/
theorem zwalk (L : Nat) (xs : Nat → Int32) (hV : ∀ j pc o, (zPg L xs).1 j pc = some o → zVal L xs j pc o) (hn0 : ∀ j pc j' n v, (zPg L xs).1 j pc = some (.inr (.inl (j', n, v))) → v ≠ 0 → 0 < n) (l : Launch) : ∀ (f j pc : Nat) (ls : zL) (st : List Value) (w : zM) (k : zK) (r : Option Value) (w' : zM) (k' : zK), zev (zPg L xs) f j pc ls st w k = some (r, w', k') →
    ∀ (p : Program) (e : Env) (R : Room) (s : State) (m : MethodId) (args : Array Value) (below : List Frame) (meth : Method) (c : Code) (base b : Nat) (tc : Nat → ClassId) (D : va_G) (n0 : Nat) (Q : State → Prop) (LS : Array Slot) (H : Heap) (locs : List Loc),
    zX p R s m args meth c j base b L xs tc D n0 → zLo base b (mMx j) ls LS → zH base b tc D w s H locs → w.length = n0 + k.1 →
    (∀ (pc' v : Nat) (st' : List Value) (LS' : Array Slot) (H' : Heap) (locs' : List Loc), (zPg L xs).1 j pc' = some (.inr (.inr v)) → ((v = 0 ∧ st' = [] ∧ r = none) ∨ ∃ x, v ≠ 0 ∧ st' = [x] ∧ r = some x ∧ zrt v x = true) → zH base b tc D w' s H' locs' → w'.length = n0 + k'.1 → W p l e R s m args below meth c H' locs' k'.1 k'.2 Q (F0 m pc' LS' (st'.map (zv base b)))) →
    W p l e R s m args below meth c H locs k.1 k.2 Q (F0 m pc LS (st.map (zv base b))) := by
  intro f
  induction f with
  | zero => intro j pc ls st w k r w' k' h; cases h
  | succ f ih =>
    intro j pc ls st w k r w' k' h p e R s m args below meth c base b tc D n0 Q LS H locs hX hlo hH hw hret
    rw [zev] at h
    cases hc : (zPg L xs).1 j pc with
    | none => rw [hc] at h; cases h
    | some o =>
      rw [hc] at h
      have hval := hV j pc o hc
      rcases o with g | ⟨j', n, v⟩ | v
      · dsimp only at h
        cases hg : g ls st w k with
        | none => rw [hg] at h; cases h
        | some q =>
          obtain ⟨pc1, ls1, st1, w1, k1⟩ := q
          rw [hg] at h
          exact hval p l e R s m args below meth c base b tc D n0 Q ls st w k _ LS H locs hX hg hlo hH hw (fun LS' H' locs' a1 a2 a3 => ih _ _ _ _ _ _ _ _ _ h p e R s m args below meth c base b tc D n0 Q LS' H' locs' hX a1 a2 a3 hret)
      · dsimp only at h
        split at h
        · rename_i hzok
          obtain ⟨g1, g2, g3, g4, g5, g6⟩ := zok_of hzok
          obtain ⟨hpl, hoy, hsc⟩ := hval
          cases he : zev (zPg L xs) f j' 0 (zent ((zPg L xs).2.1 j') (st.take n).reverse) [] w (0, 0) with
          | none => rw [he] at h; cases h
          | some q =>
            obtain ⟨r1, w1, k1⟩ := q
            rw [he] at h
            dsimp only at h
            split at h
            · rename_i hk1
              have hM : zMet l j' base b L xs tc D (st.take n).reverse w r1 w1 := by
                refine Met.ofW (cc := mB j') (maxL := mMx j') (ret := mRt j') hpl rfl ?_
                intro p e s m args below meth c s₁ B hml hv
                obtain ⟨rfl, hsz, hP, hK, hN, hXs, hbb⟩ := hv
                have hts := atoms_spec (ws := mWs j') B.pre
                have hX2 : zX p (headSpec (mWs j') (mRm j')).room s m (((st.take n).reverse.map (zv base b)).toArray) meth c j' base b L xs tc D w.length :=
                  ⟨B.exec, B.bytes, B.returns, B.notSynchronized, hml, by rw [hoy]; exact findClass_of_methodNamed B.named, (name_of_methodNamed B.named B.method).1, fun w h => hts w (List.mem_cons_of_mem _ h), hN, hK, rfl, rfl, Nat.le_refl _, Nat.le_refl _, hsz, hXs, hbb⟩
                rw [lg_entry_eq]
                have hl := lv_entry ((st.take n).reverse.map (zv base b)) (n := mMx j') (by rw [zsl_len]; exact g4)
                have hb0 : base ≤ s.heap.size := by omega
                refine ih j' 0 _ [] w (0, 0) r1 w1 k1 he p e _ s m _ below meth c base b tc D w.length _ _ s.heap [] hX2 ⟨zent_len g4, _, hl, fun i v h => zent_at h⟩ ⟨hP, va_S.rf, hb0⟩ rfl ?_
                intro pc' v st' LS' H' locs' hcode hst hH' hw'
                have hVr : zSr j' pc' v := hV j' pc' _ hcode
                refine zsized fun hz => ?_
                have hsz2 := hH'.size hsz hw' hz
                have hk1' : k1 = mBu j' := hk1
                subst hk1'
                have hq : ∀ t : State, t.heap = H' → s.WarmedH t.vm → zB base b L xs tc D w1 t ∧ va_F (fun q => base ≤ q) s t ∧ w1.length = w.length + (mBu j').1 := fun t ht hW => ⟨⟨by rw [ht]; exact hsz2, by rw [ht]; exact hH'.1, va_K.moved hW.alike hK, zN.warm hW hN, by rw [ht]; exact (hXs.kept (hH'.2.1.2.1 b (Nat.lt_of_lt_of_le hbb hH'.2.2) (Nat.not_le.mpr hbb))).moved hW.alike, hbb⟩, hH'.2.1.F ht, hw'⟩
                rcases hst with ⟨rfl, rfl, rfl⟩ | ⟨x, hv0, rfl, rfl, hzr⟩
                · obtain ⟨d1, d2⟩ := hVr.1 rfl
                  exact W.vret B.exec B.bytes (by rw [B.returns]; exact d2) (fun t ht hW => ⟨rfl, hq t ht hW⟩) hH'.2.1.2.2 d1 B.notSynchronized
                · cases x with
                  | int y =>
                    unfold zrt at hzr
                    simp only [Bool.or_eq_true, Bool.and_eq_true, beq_iff_eq, decide_eq_true_eq] at hzr
                    rcases hzr with rfl | ⟨rfl, hy⟩
                    · obtain ⟨d1, d2⟩ := hVr.2.1 rfl
                      exact W.iret B.exec B.bytes (by rw [B.returns]; exact d2) (fun t ht hW => ⟨rfl, hq t ht hW⟩) hH'.2.1.2.2 d1 B.notSynchronized
                    · obtain ⟨d1, d2⟩ := hVr.2.2.1 rfl
                      have hny : narrow .boolean (.int y) = .int y := by
                        rcases hy with rfl | rfl
                        · decide +kernel
                        · decide +kernel
                      exact W.zret B.exec B.bytes (by rw [B.returns]; exact d2) hny (fun t ht hW => ⟨rfl, hq t ht hW⟩) hH'.2.1.2.2 d1 B.notSynchronized
                  | long y =>
                    have hv3 : v = 3 := by
                      unfold zrt at hzr
                      exact eq_of_beq hzr
                    subst hv3
                    obtain ⟨d1, d2⟩ := hVr.2.2.2 rfl
                    exact W.lret B.exec B.bytes (by rw [B.returns]; exact d2) (fun t ht hW => ⟨rfl, hq t ht hW⟩) hH'.2.1.2.2 d1 B.notSynchronized
                  | _ => cases hzr
              have hst : st.map (zv base b) = ((st.take n).reverse.map (zv base b)).reverse ++ (st.drop n).map (zv base b) := by
                rw [List.map_reverse, List.reverse_reverse, ← List.map_append, List.take_append_drop]
              rw [hst]
              refine zsized fun hz => ?_
              obtain ⟨hx, hb, hr', hlk, hml, hown, hnm, hts, hN, hK, hRc, hRs, hRf, hRl, hsz, hXs, hbb⟩ := id hX
              refine hsc p l e R s m args below meth c base b tc D n0 Q ls (st.take n).reverse (st.drop n) w w1 k r1 LS H locs hX hM (by rw [List.length_reverse, List.length_take]; omega) (zrc_of g1 g2 (hn0 j pc j' n v hc)) g5 g6 hlo hH (hH.size hsz hw hz) g3 (fun H' locs' a2 a3 => ?_)
              have hmap : (r1.map (zv base b)).toList ++ (st.drop n).map (zv base b) = (r1.toList ++ st.drop n).map (zv base b) := by
                cases r1 <;> simp
              rw [hmap]
              exact ih _ _ _ _ _ _ _ _ _ h p e R s m args below meth c base b tc D n0 Q LS H' locs' hX hlo a2 (by show w1.length = n0 + (k.1 + (mBu j').1); omega) hret
            · cases h
        · cases h
      · dsimp only at h
        unfold zre at h
        split at h
        · rename_i hv
          split at h
          · cases h
            exact hret pc v [] LS H locs hc (Or.inl ⟨hv, rfl, rfl⟩) hH hw
          · cases h
        · rename_i hv
          split at h
          · rename_i x
            split at h
            · rename_i hz
              cases h
              exact hret pc v [x] LS H locs hc (Or.inr ⟨x, hv, rfl, rfl, hz⟩) hH hw
            · cases h
          · cases h
