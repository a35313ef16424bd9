/-! the law's start: both objects are made, and the loop begins -/
/-- a place of the script, 0 where it has none -/
def zsc (S : Nat × (Nat → Int32)) (i : Nat) : Int32 := if i < S.1 then S.2 i else 0
theorem zcell (S : Nat × (Nat → Int32)) (hL : S.1 ≤ 3075) (i : Nat) (hi : i < 3) (w : zM) : zm (zPg S.1 S.2) 1 [.float 0, .int (nI i)] w = some (some (.int (zsc S i)), w) := by
  have key : zD (zPg S.1 S.2) 1 0 [some (.float 0), some (.int (nI i))] [] w (0, 0) = some (some (.int (zsc S i)), w, (0, 0)) := by
    refine (zD_i rfl rfl).trans ?_
    refine (zD_i rfl rfl).trans ?_
    refine (zD_i rfl rfl).trans ?_
    unfold zsc
    by_cases h : i < S.1
    · rw [if_pos h]
      refine (zD_i (c := (6, _, [], w, (0, 0))) rfl (by unfold i_f2; dsimp only; rw [decide_eq_false (show ¬ (Int32.ofNat S.1) ≤ nI i from nI_ge h (by omega))]; rfl)).trans ?_
      refine (zD_i rfl rfl).trans ?_
      refine (zD_i rfl rfl).trans ?_
      refine (zD_i (c := (9, _, [.int (S.2 i)], w, (0, 0))) rfl (by unfold i_sg; dsimp only; rw [if_pos (zin_n h (by omega)), nI_clamp (by omega)])).trans ?_
      refine (zD_i rfl rfl).trans ?_
      exact zD_r1 rfl rfl
    · rw [if_neg h]
      refine (zD_i (c := (12, _, [], w, (0, 0))) rfl (by unfold i_f2; dsimp only; rw [decide_eq_true (show (Int32.ofNat S.1) ≤ nI i from nI_le (by omega) (by omega))]; rfl)).trans ?_
      refine (zD_i rfl rfl).trans ?_
      exact zD_r1 rfl rfl
  unfold zm
  show (zD (zPg S.1 S.2) 1 0 [some (.float 0), some (.int (nI i))] [] w (0, 0)).bind _ = _
  rw [key]
  rfl
theorem wcl {v a b : Int32} (hab : a < b) : (if a < (if v < b then v else b) then (if v < b then v else b) else a) = zcl v a b := by
  unfold zcl
  rw [Int32.lt_iff_toInt_lt] at hab
  by_cases h1 : v < b
  · rw [if_pos h1]
    rw [Int32.lt_iff_toInt_lt] at h1
    by_cases h2 : a < v
    · rw [if_pos h2]
      rw [Int32.lt_iff_toInt_lt] at h2
      rw [if_pos (Int32.le_iff_toInt_le.mpr (by omega)), if_pos (Int32.le_iff_toInt_le.mpr (by omega))]
    · rw [if_neg h2]
      rw [Int32.lt_iff_toInt_lt] at h2
      by_cases h3 : a ≤ v
      · rw [if_pos h3]
        rw [Int32.le_iff_toInt_le] at h3
        rw [if_pos (Int32.le_iff_toInt_le.mpr (by omega))]
        exact Int32.toInt_inj.mp (by omega)
      · rw [if_neg h3]
  · rw [if_neg h1]
    rw [Int32.lt_iff_toInt_lt] at h1
    rw [if_pos (Int32.lt_iff_toInt_lt.mpr hab), if_pos (Int32.le_iff_toInt_le.mpr (by omega))]
    by_cases h2 : v ≤ b
    · rw [if_pos h2]
      rw [Int32.le_iff_toInt_le] at h2
      exact Int32.toInt_inj.mp (by omega)
    · rw [if_neg h2]
theorem rfun2 (a b : Nat) : va_up (va_up (fun _ => none) 0 (some a)) 1 (some b) = fun q => ([a, b] : List Nat)[q]? := by
  funext q
  match q with
  | 0 => rfl
  | 1 => rfl
  | q + 2 => rfl
theorem rfun4 (a b c d : Nat) : va_up (va_up (va_up (va_up (fun _ => none) 0 (some a)) 1 (some b)) 2 (some c)) 3 (some d) = fun q => ([a, b, c, d] : List Nat)[q]? := by
  funext q
  match q with
  | 0 => rfl
  | 1 => rfl
  | 2 => rfl
  | 3 => rfl
  | q + 4 => rfl
/-- what the ints are at the start: c columns, r rows, d the measure -/
def I0 (c r d : Int32) : zI := fun i => match i with
  | 0 => fun f => if f = 0 then d else 0
  | 1 => fun q => if q < 26 then 4 else 0
  | 4 => fun f => if f = 5 then -1 else 0
  | 19 => fun f => if f = 0 then 0 + 1 else 0
  | 31 => fun f => if f = 0 then 0 + 1 + 1 else 0
  | 43 => fun f => if f = 0 then 0 + 1 + 1 + 1 else 0
  | 55 => fun f => if f = 1 then d else 0
  | 70 => fun f => if f = 0 then c else if f = 1 then r else 0
  | 73 => fun f => if f = 0 then d else 0
  | 76 => fun f => if f = 0 then c else if f = 1 then r else if f = 2 then d else if f = 23 then -1 else 0
  | 77 => fun q => if q < 26 then 4 else 0
  | _ => fun _ => 0
def J0 : zJ := fun _ _ => 0
set_option maxHeartbeats 4000000 in
set_option maxRecDepth 100000 in
theorem mk_0 (a b c : Int32) : mo0 0 a b c ++ mo10 76 (zcl a 1 4) (zcl b 4 16) (zcl c 16 60) (fun q => if q < 26 then 4 else 0) = mk (I0 (zcl a 1 4) (zcl b 4 16) (zcl c 16 60)) J0 := by
  unfold mo0
  rw [wcl (v := c) (a := 16) (b := 60) (by decide), wcl (v := a) (a := 1) (b := 4) (by decide), wcl (v := b) (a := 4) (b := 16) (by decide)]
  rw [rfun2, rfun2, rfun2, rfun2, rfun4]
  rfl
set_option maxHeartbeats 4000000 in
set_option maxRecDepth 100000 in
theorem lw_in (S : Nat × (Nat → Int32)) (hL : S.1 ≤ 3075) : zD (zPg S.1 S.2) 0 0 [some (.float 0), none, none, none] [] [] (0, 0) = zd S 0 48 [some (.float 0), some (.ref 0), some (.ref 76), some (.int (nI 3))] [] (I0 (zcl (zsc S 0) 1 4) (zcl (zsc S 1) 4 16) (zcl (zsc S 2) 16 60)) J0 (110, 10272) := by
  unfold zd
  rw [← mk_0]
  show zl S 0 0 [some (.float 0), none, none, none] [] [] [] (0, 0) = _
  refine (gg_nw (i := 0) rfl rfl rfl rfl).trans ?_
  refine (gg_0 rfl (fun _ => rfl)).trans ?_
  refine (gg_0 rfl (fun _ => rfl)).trans ?_
  refine (gg_0 rfl (fun _ => rfl)).trans ?_
  refine (gg_cs (vs := [.float 0, .int (nI 0)]) rfl rfl rfl rfl rfl rfl rfl (zcell S hL 0 (by decide) _)).trans ?_
  refine (gg_0 rfl (fun _ => rfl)).trans ?_
  refine (gg_0 rfl (fun _ => rfl)).trans ?_
  refine (gg_cs (vs := [.float 0, .int (nI 1)]) rfl rfl rfl rfl rfl rfl rfl (zcell S hL 1 (by decide) _)).trans ?_
  refine (gg_0 rfl (fun _ => rfl)).trans ?_
  refine (gg_0 rfl (fun _ => rfl)).trans ?_
  refine (gg_cs (vs := [.float 0, .int (nI 2)]) rfl rfl rfl rfl rfl rfl rfl (zcell S hL 2 (by decide) _)).trans ?_
  refine (gg_cc (l0 := []) (i := 0) (As := [.int (zsc S 0), .int (zsc S 1), .int (zsc S 2)]) (out := fun n => mo0 n (zsc S 0) (zsc S 1) (zsc S 2)) rfl rfl (fun w' => mc0 S w' _ _ _) rfl rfl rfl rfl rfl).trans ?_
  refine (gg_0 rfl (fun _ => rfl)).trans ?_
  refine (gg_nw (i := 76) rfl rfl rfl rfl).trans ?_
  refine (gg_0 rfl (fun _ => rfl)).trans ?_
  refine (gg_0 rfl (fun _ => rfl)).trans ?_
  refine (gg_0 rfl (fun _ => rfl)).trans ?_
  refine (gg_cs (vs := [.float 0, .int (nI 0)]) rfl rfl rfl rfl rfl rfl rfl (zcell S hL 0 (by decide) _)).trans ?_
  refine (gg_0 rfl (fun _ => rfl)).trans ?_
  refine (gg_0 rfl (fun _ => rfl)).trans ?_
  refine (gg_cs (vs := [.float 0, .int (nI 1)]) rfl rfl rfl rfl rfl rfl rfl (zcell S hL 1 (by decide) _)).trans ?_
  refine (gg_0 rfl (fun _ => rfl)).trans ?_
  refine (gg_0 rfl (fun _ => rfl)).trans ?_
  refine (gg_cs (vs := [.float 0, .int (nI 2)]) rfl rfl rfl rfl rfl rfl rfl (zcell S hL 2 (by decide) _)).trans ?_
  refine (gg_cc (l0 := mo0 0 (zsc S 0) (zsc S 1) (zsc S 2)) (i := 76) (As := [.int (zsc S 0), .int (zsc S 1), .int (zsc S 2)]) (out := fun n => mo10 n (zcl (zsc S 0) 1 4) (zcl (zsc S 1) 4 16) (zcl (zsc S 2) 16 60) (fun q => if q < 26 then 4 else 0)) rfl rfl (fun w' => mc10 S w' _ _ _) rfl rfl rfl rfl rfl).trans ?_
  refine (gg_0 rfl (fun _ => rfl)).trans ?_
  refine (gg_0 rfl (fun _ => rfl)).trans ?_
  refine (gg_0 rfl (fun _ => rfl)).trans ?_
  rfl
/-- THE CLAIM OUT OF THE AGREEMENT: it is enough that the calls agree, from the start on -/
theorem lw_all {L : Nat} {xs : Nat → Int32} (hL : L ≤ 3075) (Rel : zI → zJ → Prop) (h0 : ∀ a b c, Rel (I0 (zcl a 1 4) (zcl b 4 16) (zcl c 16 60)) J0) (hA : zagree (L, xs) Rel) : ∃ w' k', zD (zPg L xs) 0 0 [some (.float 0), none, none, none] [] [] (0, 0) = some (some (.int 1), w', k') ∧ k'.1 ≤ 600000 ∧ k'.2 ≤ 7302250 := by
  obtain ⟨I', J', h⟩ := lw_lp (S := (L, xs)) (k := (110, 10272)) hL ⟨rfl, rfl⟩ hA 600 3 _ _ (h0 (zsc (L, xs) 0) (zsc (L, xs) 1) (zsc (L, xs) 2)) (by show L + 6 < _; omega) (by decide)
  exact ⟨mk I' J', (110, 10272), (lw_in (L, xs) hL).trans h, by decide, by decide⟩
