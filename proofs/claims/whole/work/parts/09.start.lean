/-! the law's start: the small machine's run gives the machine's -/
set_option maxRecDepth 1000000 in
set_option maxHeartbeats 4000000 in
theorem zhn0 (L : Nat) (xs : Nat → Int32) : ∀ j pc j' n v, (zPg L xs).1 j pc = some (.inr (.inl (j', n, v))) → v ≠ 0 → 0 < n := by
  have key : ∀ (l : List (List (Nat × zO))), (l.all fun t => t.all fun x => match x.2 with
      | .inr (.inl (_, n, v)) => v == 0 || decide (0 < n)
      | _ => true) = true → ∀ j pc j' n v, zlk (znt l j []) pc = some (.inr (.inl (j', n, v))) → v ≠ 0 → 0 < n := by
    intro l h j pc j' n v hz hv
    have hm : ∀ (l : List (List (Nat × zO))) (j : Nat) (x : Nat × zO), x ∈ znt l j [] → ∃ t ∈ l, x ∈ t := by
      intro l
      induction l with
      | nil => intro j x hx; cases hx
      | cons a l ih =>
        intro j x hx
        cases j with
        | zero => exact ⟨a, List.mem_cons_self, hx⟩
        | succ j =>
          obtain ⟨t, h1, h2⟩ := ih j x hx
          exact ⟨t, List.mem_cons_of_mem _ h1, h2⟩
    obtain ⟨t, h1, h2⟩ := hm l j _ (zlk_mem hz)
    have h3 := List.all_eq_true.mp (List.all_eq_true.mp h t h1) _ h2
    dsimp only at h3
    rw [Bool.or_eq_true] at h3
    rcases h3 with h3 | h3
    · exact absurd (eq_of_beq h3) hv
    · exact of_decide_eq_true h3
  have e : ((zTb L xs).all fun t => t.all fun x => match x.2 with
      | .inr (.inl (_, n, v)) => v == 0 || decide (0 < n)
      | _ => true) = true := rfl
  exact key (zTb L xs) e
theorem zN_of {s : State} {a : Array Value} (hts : ∀ w ∈ lw_tbl, w.before a s = true) : zN s := by
  have h1 : (zFL.all fun x => decide (Cond.fieldLinkNest x.1 x.2.1 x.2.2.1 x.2.2.2.1 x.2.2.2.2.1 x.2.2.2.2.2 ∈ tables_1)) = true := by decide +kernel
  have h2 : (zML.all fun x => decide (Cond.methodLinkNest x.1 x.2.1 x.2.2.1 x.2.2.2 ∈ tables_1)) = true := by decide +kernel
  have h3 : (zAO.all fun x => decide (Cond.arrayOver (.object x) ∈ tables_1)) = true := by decide +kernel
  refine ⟨fun x hx => ?_, fun x hx => ?_, fun x hx => ?_⟩
  · exact va_Nw.of rfl (hts _ (List.mem_append_right _ (of_decide_eq_true (List.all_eq_true.mp h1 x hx))))
  · exact va_Nw.of rfl (hts _ (List.mem_append_right _ (of_decide_eq_true (List.all_eq_true.mp h2 x hx))))
  · exact va_AO.of (hts _ (List.mem_append_right _ (of_decide_eq_true (List.all_eq_true.mp h3 x hx))))
theorem zcls (c : Nat) (q : vw_C) (h : zCl[c]? = some q) : (∀ w ∈ u_ws q.1 q.2.1 q.2.2, w ∈ zWS) ∧ Cond.instantiable q.1 q.2.2 ∈ zWS := by
  have hlt : c < 11 := (List.getElem?_eq_some_iff.mp h).1
  have hin : (zCl.all fun q => decide (Cond.instantiable q.1 q.2.2 ∈ tables_1)) = true := by decide +kernel
  have hi : Cond.instantiable q.1 q.2.2 ∈ zWS := List.mem_filter.mpr ⟨List.mem_append_right _ (of_decide_eq_true (List.all_eq_true.mp hin q (List.mem_of_getElem? h))), rfl⟩
  refine ⟨?_, hi⟩
  match c, hlt with
  | 0, _ => cases h; exact zi0
  | 1, _ => cases h; exact zi1
  | 2, _ => cases h; exact zi2
  | 3, _ => cases h; exact zi3
  | 4, _ => cases h; exact zi4
  | 5, _ => cases h; exact zi5
  | 6, _ => cases h; exact zi6
  | 7, _ => cases h; exact zi7
  | 8, _ => cases h; exact zi8
  | 9, _ => cases h; exact zi9
  | 10, _ => cases h; exact zi10
theorem zK_of {s : State} {a : Array Value} (hts : ∀ w ∈ zWS, w.before a s = true) (hN : zN s) : ∃ (D : va_G) (tc : Nat → ClassId), va_K D zCl (zTy tc) s := by
  have hk : ∀ c : Nat, ∃ (p : ClassId × (Nat → Nat)), ∀ q : vw_C, zCl[c]? = some q → u_Kn s q.1 q.2.1 q.2.2 p.1 p.2 := by
    intro c
    cases hc : zCl[c]? with
    | none => exact ⟨(0, fun _ => 0), fun q h => by cases h⟩
    | some q =>
      obtain ⟨h1, h2⟩ := zcls c q hc
      obtain ⟨cC, iS, hu⟩ := u_known hts h1 (hts _ h2)
      exact ⟨(cC, iS), fun q' h => by cases h; exact hu⟩
  have hp : ∀ ty : FieldType, (∀ (U : State) (cA : ClassId), U.vm.findClass ("[" ++ ty.toString) = some cA → va_RA U cA ty) → Cond.arrayClass ty ∈ zWS → ∃ cA : ClassId, ArrOfT s cA ty ∧ va_RA s cA ty := by
    intro ty hra hw
    obtain ⟨cA, kA, comp, h1, h2, h3⟩ := Cond.arrayClass_spec (hts _ hw)
    exact ⟨cA, fun n z => ⟨fun k h => (by cases h), kA, h2, comp, h3⟩, hra s cA h1⟩
  have ho : ∀ C : String, va_AO C s → ∃ cA : ClassId, ArrOfT s cA (.object C) ∧ va_RA s cA (.object C) := by
    intro C h
    obtain ⟨comp, c, k, h1, h2, h3, h4, h5⟩ := Cond.arrayOver_spec h
    exact ⟨c, fun n z => ⟨fun k' h => (by cases h), k, h3, comp, h4⟩, k, comp, h3, h4, h1, h5⟩
  obtain ⟨c0, g0⟩ := hp .int (fun _ _ h => h) (List.mem_filter.mpr ⟨List.mem_append_right _ (by decide +kernel), rfl⟩)
  obtain ⟨c1, g1⟩ := hp .long (fun _ _ h => h) (List.mem_filter.mpr ⟨List.mem_append_right _ (by decide +kernel), rfl⟩)
  obtain ⟨c2, g2⟩ := hp .char (fun _ _ h => h) (List.mem_filter.mpr ⟨List.mem_append_right _ (by decide +kernel), rfl⟩)
  obtain ⟨c3, g3⟩ := hp .boolean (fun _ _ h => h) (List.mem_filter.mpr ⟨List.mem_append_right _ (by decide +kernel), rfl⟩)
  obtain ⟨c4, g4⟩ := ho "EditionGrid$Story" (hN.2.2 _ (by decide))
  obtain ⟨c5, g5⟩ := ho "EditionGrid$Part" (hN.2.2 _ (by decide))
  refine ⟨(fun c => (Classical.choose (hk c)).1, fun c => (Classical.choose (hk c)).2), fun k => match k with
    | 0 => c0
    | 1 => c1
    | 2 => c2
    | 3 => c3
    | 4 => c4
    | _ => c5, fun c q hq => Classical.choose_spec (hk c) q hq, fun k q hk' => ?_⟩
  have hlt : k < 6 := (List.getElem?_eq_some_iff.mp hk').1
  match k, hlt with
  | 0, _ => cases hk'; exact g0
  | 1, _ => cases hk'; exact g1
  | 2, _ => cases hk'; exact g2
  | 3, _ => cases hk'; exact g3
  | 4, _ => cases hk'; exact g4
  | 5, _ => cases hk'; exact g5
/-! THE CLAIM OUT OF ONE WALK OF THE LAW'S BODY. Your part is whole_start (and what it stands on); all else here is the same for every law, but numbers. -/
def R_law : String := "EditionGridLaw"
def lw_P (b : Addr) (xs : List Int32) (args : Array Value) (s : State) : Prop := args = #[.ref b] ∧ s.IntsAt b xs ∧ xs.length ≤ 3075 ∧ (Jvm.Cond.and given_1 narrow_1).before args s = true
def lw_Q (_ : Array Value) (s : State) (o : Outcome) (t : State) : Prop := o = .returned (some (.int 1)) ∧ Framed s o t [] 600000 7302250
def lw_Z (below : List Frame) (a : Array Value) (s : State) : State → Prop := fun t => ∃ o, t.status = .running ∧ Ended t below o ∧ lw_Q a s o t
/-- the law's own end, with 1 on the stack, nothing written that was there before, its room as the claim has it -/
theorem lw_ret {p : Program} {l : Launch} {e : Env} {s : State} {m : MethodId} {below : List Frame} {meth : Method} {c : Code} {b : Nat} (hx : p.tables.exec = Jvm.exec) (hb : c.code = code) (hr : meth.sig.returnType = ret) (hlocks : meth.locks = false) {pc : Nat} {H : Heap} {ls : Array Slot} (hdg : decode code pc = .ok (.ireturn, 1)) : W p l e room_1 s m #[Value.ref b] below meth c H [] 600000 7302250 (lw_Z below #[Value.ref b] s) (F0 m pc ls [.int 1]) := by
  intro T hT X
  obtain ⟨fs, hret, hrun, hended, hW, hframe⟩ := X.leave (v := some (.int 1)) (hlocks := hlocks) (fun h => by rw [hr] at h; cases h)
  have hmeth' : T.vm.method? m = some meth := X.method'
  refine ⟨T.setFrames fs, ?_, .returned (some (.int 1)), hrun, hended, rfl, ⟨_, rfl⟩, hW, hframe⟩
  jvm_step X.here [X.here.top, hx, hb, hdg, hmeth', hr, ret, narrow_b1]
  (try refine ⟨rfl, ?_⟩); (try refine ⟨rfl, ?_⟩)
  first | (intro acts; rw [hret _ acts rfl rfl rfl]) | rw [hret _ _ rfl rfl rfl]
  exact Steps.refl _
/-- what holds at the law's entry: the machine, the code, the tables' words (any of lw_tbl by 'hts w (by decide +kernel)'), the script of L ints xs at the cell b, what the Statement gives of the start (any of its parts by flat_of_before) -/
def lw_At (p : Program) (s : State) (m : MethodId) (meth : Method) (c : Code) (b L : Nat) (xs : Nat → Int32) : Prop :=
  p.tables.exec = Jvm.exec ∧ c.code = code ∧ meth.sig.returnType = ret ∧ c.maxLocals = 4 ∧ s.vm.findClass R_law = some m.cls ∧ (∀ w ∈ lw_tbl, w.before #[Value.ref b] s = true) ∧ va_X b L xs s s.heap ∧ b < s.heap.size ∧ meth.locks = false ∧ (Jvm.Cond.and given_1 narrow_1).before #[Value.ref b] s = true ∧ meth.name = "law"
/-- the law's run, out of the small machine's -/
theorem zwhole {p : Program} {e : Env} {s : State} {m : MethodId} {below : List Frame} {meth : Method} {c : Code} (l : Launch) {b L : Nat} {xs : Nat → Int32} (C0 : lw_At p s m meth c b L xs) (hD : ∃ w' k', zD (zPg L xs) 0 0 [some (.float 0), none, none, none] [] [] (0, 0) = some (some (.int 1), w', k') ∧ k'.1 ≤ 600000 ∧ k'.2 ≤ 7302250) : W p l e room_1 s m #[Value.ref b] below meth c s.heap [] 0 0 (lw_Z below #[Value.ref b] s) (entryFrame m ([Value.ref b] : List Value).toArray 4) := by
  obtain ⟨hx, hb, hr, hml, hown, hts, hX, hbl, hlk, hgv, hnm⟩ := C0
  obtain ⟨w', k', hz, hk1, hk2⟩ := hD
  obtain ⟨f, hf⟩ := (zD_iff _).mp hz
  have hts2 : ∀ w ∈ zWS, w.before #[Value.ref b] s = true := fun w h => hts w (List.mem_filter.mp h).1
  have hN := zN_of hts
  obtain ⟨D, tc, hK⟩ := zK_of hts2 hN
  have hX0 : zX p room_1 s m #[Value.ref b] meth c 0 s.heap.size b L xs tc D 0 :=
    ⟨hx, hb, hr, hlk, hml, hown, hnm, hts2, hN, hK, rfl, rfl, by decide, by decide, rfl, hX, hbl⟩
  rw [lg_entry_eq]
  have hl := lv_entry ([Value.ref b]) (n := 4) (Nat.le_of_ble_eq_true rfl)
  refine zwalk L xs (zV L xs) (zhn0 L xs) l f 0 0 _ [] [] (0, 0) _ _ _ hf p e room_1 s m _ below meth c s.heap.size b tc D 0 _ _ s.heap [] hX0 ⟨rfl, _, hl, fun i v h => ?_⟩ ⟨fun k q h => by simp [zw] at h, va_S.rf, Nat.le_refl _⟩ rfl ?_
  · match i, h with
    | 0, h => cases h; exact List.mem_cons_self
    | 1, h => cases h
    | 2, h => cases h
    | 3, h => cases h
  · intro pc' v st' LS' H' locs' hcode hst hH' hw'
    have hVr : zSr 0 pc' v := zV L xs 0 pc' _ hcode
    rcases hst with ⟨-, -, h⟩ | ⟨y, hv0, rfl, hy, hzr⟩
    · cases h
    · cases hy
      unfold zrt at hzr
      simp only [Bool.or_eq_true, Bool.and_eq_true, beq_iff_eq, decide_eq_true_eq] at hzr
      rcases hzr with rfl | ⟨rfl, -⟩
      · exact absurd (hVr.2.1 rfl).2 (by decide)
      · obtain ⟨d1, -⟩ := hVr.2.2.1 rfl
        refine va_forget (fun q hq => hH'.2.1.2.2 q hq) (W.widen hk1 hk2 ?_)
        exact lw_ret hx hb hr hlk d1
