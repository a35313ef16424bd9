section LW
variable {S : Nat × (Nat → Int32)} {I : zI} {J : zJ} {k : zK} {j : Nat} {ls : zL} {st : List Value}
theorem tt_af {i nx : Nat} {x : UInt32} (hl : ls[i]? = some (some (.float x))) : zdg S j (i_al i nx) ls st I J k = zd S j nx ls (.float x :: st) I J k := tt_0 (by unfold i_al; rw [hl])
theorem tt_sg {nx : Nat} {i : Int32} {x : UInt32} (hi : zin i S.1 = true) : zdg S j (i_sg S.1 S.2 nx) ls (.int i :: .float x :: st) I J k = zd S j nx ls (.int (S.2 i.toNatClampNeg) :: st) I J k := tt_0 (by unfold i_sg; dsimp only; rw [if_pos hi])
theorem tt_sn {nx : Nat} {x : UInt32} : zdg S j (i_sn S.1 nx) ls (.float x :: st) I J k = zd S j nx ls (.int (Int32.ofNat S.1) :: st) I J k := tt_0 rfl
end LW
section BL
variable {S : Nat × (Nat → Int32)} {I : zI} {J : zJ} {k : zK}
set_option maxRecDepth 100000 in
theorem B0_48 {l3 : Int32}  : zd S 0 48 [some (.float 0), some (.ref 0), some (.ref 76), some (.int l3)] [] I J k = if ((Int32.ofNat S.1) - 6) < l3 then zd S 0 672 [some (.float 0), some (.ref 0), some (.ref 76), some (.int l3)] [] I J k else zd S 0 57 [some (.float 0), some (.ref 0), some (.ref 76), some (.int l3)] [] I J k := by
  refine (tt_fk rfl rfl).trans ?_
  refine (tt_il rfl).trans ?_
  refine (tt_f rfl).trans ?_
  refine (tt_af rfl).trans ?_
  refine (tt_f rfl).trans ?_
  refine tt_sn.trans ?_
  refine (tt_f rfl).trans ?_
  refine tt_c.trans ?_
  refine (tt_f rfl).trans ?_
  refine tt_bi.trans ?_
  refine (tt_f rfl).trans ?_
  exact tt_f2 (p := fun x y => y < x) inferInstance rfl
set_option maxRecDepth 100000 in
theorem B0_57_0 {l3 : Int32} (hi1 : zin l3 S.1 = true) (hx : ((S.2 l3.toNatClampNeg) &&& 15) = 0) : zd S 0 57 [some (.float 0), some (.ref 0), some (.ref 76), some (.int l3)] [] I J k = zd S 0 132 [some (.float 0), some (.ref 0), some (.ref 76), some (.int l3)] [] I J k := by
  refine (tt_f rfl).trans ?_
  refine (tt_af rfl).trans ?_
  refine (tt_f rfl).trans ?_
  refine (tt_il rfl).trans ?_
  refine (tt_f rfl).trans ?_
  refine (tt_sg hi1).trans ?_
  refine (tt_f rfl).trans ?_
  refine tt_c.trans ?_
  refine (tt_f rfl).trans ?_
  refine tt_bi.trans ?_
  refine (tt_f rfl).trans ?_
  rw [hx]
  exact tt_tsI (by decide) rfl
set_option maxRecDepth 100000 in
theorem B0_57_1 {l3 : Int32} (hi1 : zin l3 S.1 = true) (hx : ((S.2 l3.toNatClampNeg) &&& 15) = 1) : zd S 0 57 [some (.float 0), some (.ref 0), some (.ref 76), some (.int l3)] [] I J k = zd S 0 167 [some (.float 0), some (.ref 0), some (.ref 76), some (.int l3)] [] I J k := by
  refine (tt_f rfl).trans ?_
  refine (tt_af rfl).trans ?_
  refine (tt_f rfl).trans ?_
  refine (tt_il rfl).trans ?_
  refine (tt_f rfl).trans ?_
  refine (tt_sg hi1).trans ?_
  refine (tt_f rfl).trans ?_
  refine tt_c.trans ?_
  refine (tt_f rfl).trans ?_
  refine tt_bi.trans ?_
  refine (tt_f rfl).trans ?_
  rw [hx]
  exact tt_tsI (by decide) rfl
set_option maxRecDepth 100000 in
theorem B0_57_2 {l3 : Int32} (hi1 : zin l3 S.1 = true) (hx : ((S.2 l3.toNatClampNeg) &&& 15) = 2) : zd S 0 57 [some (.float 0), some (.ref 0), some (.ref 76), some (.int l3)] [] I J k = zd S 0 270 [some (.float 0), some (.ref 0), some (.ref 76), some (.int l3)] [] I J k := by
  refine (tt_f rfl).trans ?_
  refine (tt_af rfl).trans ?_
  refine (tt_f rfl).trans ?_
  refine (tt_il rfl).trans ?_
  refine (tt_f rfl).trans ?_
  refine (tt_sg hi1).trans ?_
  refine (tt_f rfl).trans ?_
  refine tt_c.trans ?_
  refine (tt_f rfl).trans ?_
  refine tt_bi.trans ?_
  refine (tt_f rfl).trans ?_
  rw [hx]
  exact tt_tsI (by decide) rfl
set_option maxRecDepth 100000 in
theorem B0_57_3 {l3 : Int32} (hi1 : zin l3 S.1 = true) (hx : ((S.2 l3.toNatClampNeg) &&& 15) = 3) : zd S 0 57 [some (.float 0), some (.ref 0), some (.ref 76), some (.int l3)] [] I J k = zd S 0 333 [some (.float 0), some (.ref 0), some (.ref 76), some (.int l3)] [] I J k := by
  refine (tt_f rfl).trans ?_
  refine (tt_af rfl).trans ?_
  refine (tt_f rfl).trans ?_
  refine (tt_il rfl).trans ?_
  refine (tt_f rfl).trans ?_
  refine (tt_sg hi1).trans ?_
  refine (tt_f rfl).trans ?_
  refine tt_c.trans ?_
  refine (tt_f rfl).trans ?_
  refine tt_bi.trans ?_
  refine (tt_f rfl).trans ?_
  rw [hx]
  exact tt_tsI (by decide) rfl
set_option maxRecDepth 100000 in
theorem B0_57_4 {l3 : Int32} (hi1 : zin l3 S.1 = true) (hx : ((S.2 l3.toNatClampNeg) &&& 15) = 4) : zd S 0 57 [some (.float 0), some (.ref 0), some (.ref 76), some (.int l3)] [] I J k = zd S 0 396 [some (.float 0), some (.ref 0), some (.ref 76), some (.int l3)] [] I J k := by
  refine (tt_f rfl).trans ?_
  refine (tt_af rfl).trans ?_
  refine (tt_f rfl).trans ?_
  refine (tt_il rfl).trans ?_
  refine (tt_f rfl).trans ?_
  refine (tt_sg hi1).trans ?_
  refine (tt_f rfl).trans ?_
  refine tt_c.trans ?_
  refine (tt_f rfl).trans ?_
  refine tt_bi.trans ?_
  refine (tt_f rfl).trans ?_
  rw [hx]
  exact tt_tsI (by decide) rfl
set_option maxRecDepth 100000 in
theorem B0_57_5 {l3 : Int32} (hi1 : zin l3 S.1 = true) (hx : ((S.2 l3.toNatClampNeg) &&& 15) = 5) : zd S 0 57 [some (.float 0), some (.ref 0), some (.ref 76), some (.int l3)] [] I J k = zd S 0 409 [some (.float 0), some (.ref 0), some (.ref 76), some (.int l3)] [] I J k := by
  refine (tt_f rfl).trans ?_
  refine (tt_af rfl).trans ?_
  refine (tt_f rfl).trans ?_
  refine (tt_il rfl).trans ?_
  refine (tt_f rfl).trans ?_
  refine (tt_sg hi1).trans ?_
  refine (tt_f rfl).trans ?_
  refine tt_c.trans ?_
  refine (tt_f rfl).trans ?_
  refine tt_bi.trans ?_
  refine (tt_f rfl).trans ?_
  rw [hx]
  exact tt_tsI (by decide) rfl
set_option maxRecDepth 100000 in
theorem B0_57_6 {l3 : Int32} (hi1 : zin l3 S.1 = true) (hx : ((S.2 l3.toNatClampNeg) &&& 15) = 6) : zd S 0 57 [some (.float 0), some (.ref 0), some (.ref 76), some (.int l3)] [] I J k = zd S 0 422 [some (.float 0), some (.ref 0), some (.ref 76), some (.int l3)] [] I J k := by
  refine (tt_f rfl).trans ?_
  refine (tt_af rfl).trans ?_
  refine (tt_f rfl).trans ?_
  refine (tt_il rfl).trans ?_
  refine (tt_f rfl).trans ?_
  refine (tt_sg hi1).trans ?_
  refine (tt_f rfl).trans ?_
  refine tt_c.trans ?_
  refine (tt_f rfl).trans ?_
  refine tt_bi.trans ?_
  refine (tt_f rfl).trans ?_
  rw [hx]
  exact tt_tsI (by decide) rfl
set_option maxRecDepth 100000 in
theorem B0_57_7 {l3 : Int32} (hi1 : zin l3 S.1 = true) (hx : ((S.2 l3.toNatClampNeg) &&& 15) = 7) : zd S 0 57 [some (.float 0), some (.ref 0), some (.ref 76), some (.int l3)] [] I J k = zd S 0 435 [some (.float 0), some (.ref 0), some (.ref 76), some (.int l3)] [] I J k := by
  refine (tt_f rfl).trans ?_
  refine (tt_af rfl).trans ?_
  refine (tt_f rfl).trans ?_
  refine (tt_il rfl).trans ?_
  refine (tt_f rfl).trans ?_
  refine (tt_sg hi1).trans ?_
  refine (tt_f rfl).trans ?_
  refine tt_c.trans ?_
  refine (tt_f rfl).trans ?_
  refine tt_bi.trans ?_
  refine (tt_f rfl).trans ?_
  rw [hx]
  exact tt_tsI (by decide) rfl
set_option maxRecDepth 100000 in
theorem B0_57_8 {l3 : Int32} (hi1 : zin l3 S.1 = true) (hx : ((S.2 l3.toNatClampNeg) &&& 15) = 8) : zd S 0 57 [some (.float 0), some (.ref 0), some (.ref 76), some (.int l3)] [] I J k = zd S 0 448 [some (.float 0), some (.ref 0), some (.ref 76), some (.int l3)] [] I J k := by
  refine (tt_f rfl).trans ?_
  refine (tt_af rfl).trans ?_
  refine (tt_f rfl).trans ?_
  refine (tt_il rfl).trans ?_
  refine (tt_f rfl).trans ?_
  refine (tt_sg hi1).trans ?_
  refine (tt_f rfl).trans ?_
  refine tt_c.trans ?_
  refine (tt_f rfl).trans ?_
  refine tt_bi.trans ?_
  refine (tt_f rfl).trans ?_
  rw [hx]
  exact tt_tsI (by decide) rfl
set_option maxRecDepth 100000 in
theorem B0_57_9 {l3 : Int32} (hi1 : zin l3 S.1 = true) (hx : ((S.2 l3.toNatClampNeg) &&& 15) = 9) : zd S 0 57 [some (.float 0), some (.ref 0), some (.ref 76), some (.int l3)] [] I J k = zd S 0 471 [some (.float 0), some (.ref 0), some (.ref 76), some (.int l3)] [] I J k := by
  refine (tt_f rfl).trans ?_
  refine (tt_af rfl).trans ?_
  refine (tt_f rfl).trans ?_
  refine (tt_il rfl).trans ?_
  refine (tt_f rfl).trans ?_
  refine (tt_sg hi1).trans ?_
  refine (tt_f rfl).trans ?_
  refine tt_c.trans ?_
  refine (tt_f rfl).trans ?_
  refine tt_bi.trans ?_
  refine (tt_f rfl).trans ?_
  rw [hx]
  exact tt_tsI (by decide) rfl
set_option maxRecDepth 100000 in
theorem B0_57_10 {l3 : Int32} (hi1 : zin l3 S.1 = true) (hx : ((S.2 l3.toNatClampNeg) &&& 15) = 10) : zd S 0 57 [some (.float 0), some (.ref 0), some (.ref 76), some (.int l3)] [] I J k = zd S 0 494 [some (.float 0), some (.ref 0), some (.ref 76), some (.int l3)] [] I J k := by
  refine (tt_f rfl).trans ?_
  refine (tt_af rfl).trans ?_
  refine (tt_f rfl).trans ?_
  refine (tt_il rfl).trans ?_
  refine (tt_f rfl).trans ?_
  refine (tt_sg hi1).trans ?_
  refine (tt_f rfl).trans ?_
  refine tt_c.trans ?_
  refine (tt_f rfl).trans ?_
  refine tt_bi.trans ?_
  refine (tt_f rfl).trans ?_
  rw [hx]
  exact tt_tsI (by decide) rfl
set_option maxRecDepth 100000 in
theorem B0_57_11 {l3 : Int32} (hi1 : zin l3 S.1 = true) (hx : ((S.2 l3.toNatClampNeg) &&& 15) = 11) : zd S 0 57 [some (.float 0), some (.ref 0), some (.ref 76), some (.int l3)] [] I J k = zd S 0 527 [some (.float 0), some (.ref 0), some (.ref 76), some (.int l3)] [] I J k := by
  refine (tt_f rfl).trans ?_
  refine (tt_af rfl).trans ?_
  refine (tt_f rfl).trans ?_
  refine (tt_il rfl).trans ?_
  refine (tt_f rfl).trans ?_
  refine (tt_sg hi1).trans ?_
  refine (tt_f rfl).trans ?_
  refine tt_c.trans ?_
  refine (tt_f rfl).trans ?_
  refine tt_bi.trans ?_
  refine (tt_f rfl).trans ?_
  rw [hx]
  exact tt_tsI (by decide) rfl
set_option maxRecDepth 100000 in
theorem B0_57_12 {l3 : Int32} (hi1 : zin l3 S.1 = true) (hx : ((S.2 l3.toNatClampNeg) &&& 15) = 12) : zd S 0 57 [some (.float 0), some (.ref 0), some (.ref 76), some (.int l3)] [] I J k = zd S 0 570 [some (.float 0), some (.ref 0), some (.ref 76), some (.int l3)] [] I J k := by
  refine (tt_f rfl).trans ?_
  refine (tt_af rfl).trans ?_
  refine (tt_f rfl).trans ?_
  refine (tt_il rfl).trans ?_
  refine (tt_f rfl).trans ?_
  refine (tt_sg hi1).trans ?_
  refine (tt_f rfl).trans ?_
  refine tt_c.trans ?_
  refine (tt_f rfl).trans ?_
  refine tt_bi.trans ?_
  refine (tt_f rfl).trans ?_
  rw [hx]
  exact tt_tsI (by decide) rfl
set_option maxRecDepth 100000 in
theorem B0_57_13 {l3 : Int32} (hi1 : zin l3 S.1 = true) (hx : ((S.2 l3.toNatClampNeg) &&& 15) = 13) : zd S 0 57 [some (.float 0), some (.ref 0), some (.ref 76), some (.int l3)] [] I J k = zd S 0 613 [some (.float 0), some (.ref 0), some (.ref 76), some (.int l3)] [] I J k := by
  refine (tt_f rfl).trans ?_
  refine (tt_af rfl).trans ?_
  refine (tt_f rfl).trans ?_
  refine (tt_il rfl).trans ?_
  refine (tt_f rfl).trans ?_
  refine (tt_sg hi1).trans ?_
  refine (tt_f rfl).trans ?_
  refine tt_c.trans ?_
  refine (tt_f rfl).trans ?_
  refine tt_bi.trans ?_
  refine (tt_f rfl).trans ?_
  rw [hx]
  exact tt_tsI (by decide) rfl
set_option maxRecDepth 100000 in
theorem B0_57_d {l3 : Int32} (hi1 : zin l3 S.1 = true) (hx : (((S.2 l3.toNatClampNeg) &&& 15)).toInt < 0 ∨ 13 < (((S.2 l3.toNatClampNeg) &&& 15)).toInt) : zd S 0 57 [some (.float 0), some (.ref 0), some (.ref 76), some (.int l3)] [] I J k = zd S 0 666 [some (.float 0), some (.ref 0), some (.ref 76), some (.int l3)] [] I J k := by
  refine (tt_f rfl).trans ?_
  refine (tt_af rfl).trans ?_
  refine (tt_f rfl).trans ?_
  refine (tt_il rfl).trans ?_
  refine (tt_f rfl).trans ?_
  refine (tt_sg hi1).trans ?_
  refine (tt_f rfl).trans ?_
  refine tt_c.trans ?_
  refine (tt_f rfl).trans ?_
  refine tt_bi.trans ?_
  refine (tt_f rfl).trans ?_
  exact tt_tsO hx
set_option maxRecDepth 100000 in
theorem B0_132 {l3 : Int32} {v3 : Int32} {I4 : zI} {J5 : zJ} (hb : Nat.ble k.1 (mBu 0).1 = true ∧ Nat.ble k.2 (mBu 0).2 = true) (hi1 : zin (l3 + 1) S.1 = true) (hi2 : zin (l3 + 2) S.1 = true) (hq : zq S 3 [.ref 0, .int (((S.2 (l3 + 1).toNatClampNeg)).toUInt32 % 65536).toInt32, .int (S.2 (l3 + 2).toNatClampNeg)] I J (some (.int v3)) I4 J5) : zd S 0 132 [some (.float 0), some (.ref 0), some (.ref 76), some (.int l3)] [] I J k = zd S 0 147 [some (.float 0), some (.ref 0), some (.ref 76), some (.int l3)] [.int v3] I4 J5 k := by
  refine (tt_f rfl).trans ?_
  refine (tt_al rfl).trans ?_
  refine (tt_f rfl).trans ?_
  refine (tt_af rfl).trans ?_
  refine (tt_f rfl).trans ?_
  refine (tt_il rfl).trans ?_
  refine (tt_f rfl).trans ?_
  refine tt_c.trans ?_
  refine (tt_f rfl).trans ?_
  refine tt_bi.trans ?_
  refine (tt_f rfl).trans ?_
  refine (tt_sg hi1).trans ?_
  refine (tt_f rfl).trans ?_
  refine tt_ui.trans ?_
  refine (tt_f rfl).trans ?_
  refine (tt_af rfl).trans ?_
  refine (tt_f rfl).trans ?_
  refine (tt_il rfl).trans ?_
  refine (tt_f rfl).trans ?_
  refine tt_c.trans ?_
  refine (tt_f rfl).trans ?_
  refine tt_bi.trans ?_
  refine (tt_f rfl).trans ?_
  refine (tt_sg hi2).trans ?_
  exact tt_cv (As := [.int (((S.2 (l3 + 1).toNatClampNeg)).toUInt32 % 65536).toInt32, .int (S.2 (l3 + 2).toNatClampNeg)]) rfl hb.1 hb.2 rfl rfl rfl rfl rfl hq
set_option maxRecDepth 100000 in
theorem B0_147 {l3 : Int32} {t0 : Int32} {v3 : Int32} {I4 : zI} {J5 : zJ} (hb : Nat.ble k.1 (mBu 0).1 = true ∧ Nat.ble k.2 (mBu 0).2 = true) (hi1 : zin (l3 + 1) S.1 = true) (hi2 : zin (l3 + 2) S.1 = true) (hq : zq S 96 [.ref 76, .int (((S.2 (l3 + 1).toNatClampNeg)).toUInt32 % 65536).toInt32, .int (S.2 (l3 + 2).toNatClampNeg)] I J (some (.int v3)) I4 J5) : zd S 0 147 [some (.float 0), some (.ref 0), some (.ref 76), some (.int l3)] [.int t0] I J k = zd S 0 162 [some (.float 0), some (.ref 0), some (.ref 76), some (.int l3)] [.int v3, .int t0] I4 J5 k := by
  refine (tt_f rfl).trans ?_
  refine (tt_al rfl).trans ?_
  refine (tt_f rfl).trans ?_
  refine (tt_af rfl).trans ?_
  refine (tt_f rfl).trans ?_
  refine (tt_il rfl).trans ?_
  refine (tt_f rfl).trans ?_
  refine tt_c.trans ?_
  refine (tt_f rfl).trans ?_
  refine tt_bi.trans ?_
  refine (tt_f rfl).trans ?_
  refine (tt_sg hi1).trans ?_
  refine (tt_f rfl).trans ?_
  refine tt_ui.trans ?_
  refine (tt_f rfl).trans ?_
  refine (tt_af rfl).trans ?_
  refine (tt_f rfl).trans ?_
  refine (tt_il rfl).trans ?_
  refine (tt_f rfl).trans ?_
  refine tt_c.trans ?_
  refine (tt_f rfl).trans ?_
  refine tt_bi.trans ?_
  refine (tt_f rfl).trans ?_
  refine (tt_sg hi2).trans ?_
  exact tt_cv (As := [.int (((S.2 (l3 + 1).toNatClampNeg)).toUInt32 % 65536).toInt32, .int (S.2 (l3 + 2).toNatClampNeg)]) rfl hb.1 hb.2 rfl rfl rfl rfl rfl hq
set_option maxRecDepth 100000 in
theorem B0_162 {l3 : Int32} {t0 : Int32} {t1 : Int32}  : zd S 0 162 [some (.float 0), some (.ref 0), some (.ref 76), some (.int l3)] [.int t1, .int t0] I J k = if t0 = t1 then zd S 0 666 [some (.float 0), some (.ref 0), some (.ref 76), some (.int l3)] [] I J k else zd S 0 165 [some (.float 0), some (.ref 0), some (.ref 76), some (.int l3)] [] I J k := by
  refine (tt_f rfl).trans ?_
  exact tt_f2 (p := fun x y => x = y) inferInstance rfl
set_option maxRecDepth 100000 in
theorem B0_165 {l3 : Int32} (hz : zrt 2 (.int 0) = true) : zd S 0 165 [some (.float 0), some (.ref 0), some (.ref 76), some (.int l3)] [] I J k = some ((some (.int 0)), mk I J, k) := by
  refine (tt_f rfl).trans ?_
  refine tt_c.trans ?_
  exact tt_r1 rfl hz
set_option maxRecDepth 100000 in
theorem B0_167 {l3 : Int32} {v6 : Int32} {I7 : zI} {J8 : zJ} (hb : Nat.ble k.1 (mBu 0).1 = true ∧ Nat.ble k.2 (mBu 0).2 = true) (hi1 : zin (l3 + 1) S.1 = true) (hi2 : zin (l3 + 2) S.1 = true) (hi3 : zin (l3 + 3) S.1 = true) (hi4 : zin (l3 + 4) S.1 = true) (hi5 : zin (l3 + 5) S.1 = true) (hq : zq S 4 [.ref 0, .long ((((S.2 (l3 + 1).toNatClampNeg)).toInt64 <<< ((32 : Int32).toInt64 &&& 63)) ||| (((S.2 (l3 + 2).toNatClampNeg)).toInt64 &&& 4294967295)), .int (S.2 (l3 + 3).toNatClampNeg), .long ((((S.2 (l3 + 4).toNatClampNeg)).toInt64 <<< ((32 : Int32).toInt64 &&& 63)) ||| (((S.2 (l3 + 5).toNatClampNeg)).toInt64 &&& 4294967295))] I J (some (.int v6)) I7 J8) : zd S 0 167 [some (.float 0), some (.ref 0), some (.ref 76), some (.int l3)] [] I J k = zd S 0 216 [some (.float 0), some (.ref 0), some (.ref 76), some (.int l3)] [.int v6] I7 J8 k := by
  refine (tt_f rfl).trans ?_
  refine (tt_al rfl).trans ?_
  refine (tt_f rfl).trans ?_
  refine (tt_af rfl).trans ?_
  refine (tt_f rfl).trans ?_
  refine (tt_il rfl).trans ?_
  refine (tt_f rfl).trans ?_
  refine tt_c.trans ?_
  refine (tt_f rfl).trans ?_
  refine tt_bi.trans ?_
  refine (tt_f rfl).trans ?_
  refine (tt_sg hi1).trans ?_
  refine (tt_f rfl).trans ?_
  refine tt_i2l.trans ?_
  refine (tt_f rfl).trans ?_
  refine tt_c.trans ?_
  refine (tt_f rfl).trans ?_
  refine tt_sl.trans ?_
  refine (tt_f rfl).trans ?_
  refine (tt_af rfl).trans ?_
  refine (tt_f rfl).trans ?_
  refine (tt_il rfl).trans ?_
  refine (tt_f rfl).trans ?_
  refine tt_c.trans ?_
  refine (tt_f rfl).trans ?_
  refine tt_bi.trans ?_
  refine (tt_f rfl).trans ?_
  refine (tt_sg hi2).trans ?_
  refine (tt_f rfl).trans ?_
  refine tt_i2l.trans ?_
  refine (tt_f rfl).trans ?_
  refine tt_c.trans ?_
  refine (tt_f rfl).trans ?_
  refine tt_bl.trans ?_
  refine (tt_f rfl).trans ?_
  refine tt_bl.trans ?_
  refine (tt_f rfl).trans ?_
  refine (tt_af rfl).trans ?_
  refine (tt_f rfl).trans ?_
  refine (tt_il rfl).trans ?_
  refine (tt_f rfl).trans ?_
  refine tt_c.trans ?_
  refine (tt_f rfl).trans ?_
  refine tt_bi.trans ?_
  refine (tt_f rfl).trans ?_
  refine (tt_sg hi3).trans ?_
  refine (tt_f rfl).trans ?_
  refine (tt_af rfl).trans ?_
  refine (tt_f rfl).trans ?_
  refine (tt_il rfl).trans ?_
  refine (tt_f rfl).trans ?_
  refine tt_c.trans ?_
  refine (tt_f rfl).trans ?_
  refine tt_bi.trans ?_
  refine (tt_f rfl).trans ?_
  refine (tt_sg hi4).trans ?_
  refine (tt_f rfl).trans ?_
  refine tt_i2l.trans ?_
  refine (tt_f rfl).trans ?_
  refine tt_c.trans ?_
  refine (tt_f rfl).trans ?_
  refine tt_sl.trans ?_
  refine (tt_f rfl).trans ?_
  refine (tt_af rfl).trans ?_
  refine (tt_f rfl).trans ?_
  refine (tt_il rfl).trans ?_
  refine (tt_f rfl).trans ?_
  refine tt_c.trans ?_
  refine (tt_f rfl).trans ?_
  refine tt_bi.trans ?_
  refine (tt_f rfl).trans ?_
  refine (tt_sg hi5).trans ?_
  refine (tt_f rfl).trans ?_
  refine tt_i2l.trans ?_
  refine (tt_f rfl).trans ?_
  refine tt_c.trans ?_
  refine (tt_f rfl).trans ?_
  refine tt_bl.trans ?_
  refine (tt_f rfl).trans ?_
  refine tt_bl.trans ?_
  exact tt_cv (As := [.long ((((S.2 (l3 + 1).toNatClampNeg)).toInt64 <<< ((32 : Int32).toInt64 &&& 63)) ||| (((S.2 (l3 + 2).toNatClampNeg)).toInt64 &&& 4294967295)), .int (S.2 (l3 + 3).toNatClampNeg), .long ((((S.2 (l3 + 4).toNatClampNeg)).toInt64 <<< ((32 : Int32).toInt64 &&& 63)) ||| (((S.2 (l3 + 5).toNatClampNeg)).toInt64 &&& 4294967295))]) rfl hb.1 hb.2 rfl rfl rfl rfl rfl hq
set_option maxRecDepth 100000 in
theorem B0_216 {l3 : Int32} {t0 : Int32} {v6 : Int32} {I7 : zI} {J8 : zJ} (hb : Nat.ble k.1 (mBu 0).1 = true ∧ Nat.ble k.2 (mBu 0).2 = true) (hi1 : zin (l3 + 1) S.1 = true) (hi2 : zin (l3 + 2) S.1 = true) (hi3 : zin (l3 + 3) S.1 = true) (hi4 : zin (l3 + 4) S.1 = true) (hi5 : zin (l3 + 5) S.1 = true) (hq : zq S 100 [.ref 76, .long ((((S.2 (l3 + 1).toNatClampNeg)).toInt64 <<< ((32 : Int32).toInt64 &&& 63)) ||| (((S.2 (l3 + 2).toNatClampNeg)).toInt64 &&& 4294967295)), .int (S.2 (l3 + 3).toNatClampNeg), .long ((((S.2 (l3 + 4).toNatClampNeg)).toInt64 <<< ((32 : Int32).toInt64 &&& 63)) ||| (((S.2 (l3 + 5).toNatClampNeg)).toInt64 &&& 4294967295))] I J (some (.int v6)) I7 J8) : zd S 0 216 [some (.float 0), some (.ref 0), some (.ref 76), some (.int l3)] [.int t0] I J k = zd S 0 265 [some (.float 0), some (.ref 0), some (.ref 76), some (.int l3)] [.int v6, .int t0] I7 J8 k := by
  refine (tt_f rfl).trans ?_
  refine (tt_al rfl).trans ?_
  refine (tt_f rfl).trans ?_
  refine (tt_af rfl).trans ?_
  refine (tt_f rfl).trans ?_
  refine (tt_il rfl).trans ?_
  refine (tt_f rfl).trans ?_
  refine tt_c.trans ?_
  refine (tt_f rfl).trans ?_
  refine tt_bi.trans ?_
  refine (tt_f rfl).trans ?_
  refine (tt_sg hi1).trans ?_
  refine (tt_f rfl).trans ?_
  refine tt_i2l.trans ?_
  refine (tt_f rfl).trans ?_
  refine tt_c.trans ?_
  refine (tt_f rfl).trans ?_
  refine tt_sl.trans ?_
  refine (tt_f rfl).trans ?_
  refine (tt_af rfl).trans ?_
  refine (tt_f rfl).trans ?_
  refine (tt_il rfl).trans ?_
  refine (tt_f rfl).trans ?_
  refine tt_c.trans ?_
  refine (tt_f rfl).trans ?_
  refine tt_bi.trans ?_
  refine (tt_f rfl).trans ?_
  refine (tt_sg hi2).trans ?_
  refine (tt_f rfl).trans ?_
  refine tt_i2l.trans ?_
  refine (tt_f rfl).trans ?_
  refine tt_c.trans ?_
  refine (tt_f rfl).trans ?_
  refine tt_bl.trans ?_
  refine (tt_f rfl).trans ?_
  refine tt_bl.trans ?_
  refine (tt_f rfl).trans ?_
  refine (tt_af rfl).trans ?_
  refine (tt_f rfl).trans ?_
  refine (tt_il rfl).trans ?_
  refine (tt_f rfl).trans ?_
  refine tt_c.trans ?_
  refine (tt_f rfl).trans ?_
  refine tt_bi.trans ?_
  refine (tt_f rfl).trans ?_
  refine (tt_sg hi3).trans ?_
  refine (tt_f rfl).trans ?_
  refine (tt_af rfl).trans ?_
  refine (tt_f rfl).trans ?_
  refine (tt_il rfl).trans ?_
  refine (tt_f rfl).trans ?_
  refine tt_c.trans ?_
  refine (tt_f rfl).trans ?_
  refine tt_bi.trans ?_
  refine (tt_f rfl).trans ?_
  refine (tt_sg hi4).trans ?_
  refine (tt_f rfl).trans ?_
  refine tt_i2l.trans ?_
  refine (tt_f rfl).trans ?_
  refine tt_c.trans ?_
  refine (tt_f rfl).trans ?_
  refine tt_sl.trans ?_
  refine (tt_f rfl).trans ?_
  refine (tt_af rfl).trans ?_
  refine (tt_f rfl).trans ?_
  refine (tt_il rfl).trans ?_
  refine (tt_f rfl).trans ?_
  refine tt_c.trans ?_
  refine (tt_f rfl).trans ?_
  refine tt_bi.trans ?_
  refine (tt_f rfl).trans ?_
  refine (tt_sg hi5).trans ?_
  refine (tt_f rfl).trans ?_
  refine tt_i2l.trans ?_
  refine (tt_f rfl).trans ?_
  refine tt_c.trans ?_
  refine (tt_f rfl).trans ?_
  refine tt_bl.trans ?_
  refine (tt_f rfl).trans ?_
  refine tt_bl.trans ?_
  exact tt_cv (As := [.long ((((S.2 (l3 + 1).toNatClampNeg)).toInt64 <<< ((32 : Int32).toInt64 &&& 63)) ||| (((S.2 (l3 + 2).toNatClampNeg)).toInt64 &&& 4294967295)), .int (S.2 (l3 + 3).toNatClampNeg), .long ((((S.2 (l3 + 4).toNatClampNeg)).toInt64 <<< ((32 : Int32).toInt64 &&& 63)) ||| (((S.2 (l3 + 5).toNatClampNeg)).toInt64 &&& 4294967295))]) rfl hb.1 hb.2 rfl rfl rfl rfl rfl hq
set_option maxRecDepth 100000 in
theorem B0_265 {l3 : Int32} {t0 : Int32} {t1 : Int32}  : zd S 0 265 [some (.float 0), some (.ref 0), some (.ref 76), some (.int l3)] [.int t1, .int t0] I J k = if t0 = t1 then zd S 0 666 [some (.float 0), some (.ref 0), some (.ref 76), some (.int l3)] [] I J k else zd S 0 268 [some (.float 0), some (.ref 0), some (.ref 76), some (.int l3)] [] I J k := by
  refine (tt_f rfl).trans ?_
  exact tt_f2 (p := fun x y => x = y) inferInstance rfl
set_option maxRecDepth 100000 in
theorem B0_268 {l3 : Int32} (hz : zrt 2 (.int 0) = true) : zd S 0 268 [some (.float 0), some (.ref 0), some (.ref 76), some (.int l3)] [] I J k = some ((some (.int 0)), mk I J, k) := by
  refine (tt_f rfl).trans ?_
  refine tt_c.trans ?_
  exact tt_r1 rfl hz
set_option maxRecDepth 100000 in
theorem B0_270 {l3 : Int32} {v4 : Int32} {I5 : zI} {J6 : zJ} (hb : Nat.ble k.1 (mBu 0).1 = true ∧ Nat.ble k.2 (mBu 0).2 = true) (hi1 : zin (l3 + 1) S.1 = true) (hi2 : zin (l3 + 2) S.1 = true) (hi3 : zin (l3 + 3) S.1 = true) (hq : zq S 5 [.ref 0, .long ((((S.2 (l3 + 1).toNatClampNeg)).toInt64 <<< ((32 : Int32).toInt64 &&& 63)) ||| (((S.2 (l3 + 2).toNatClampNeg)).toInt64 &&& 4294967295)), .int (S.2 (l3 + 3).toNatClampNeg)] I J (some (.int v4)) I5 J6) : zd S 0 270 [some (.float 0), some (.ref 0), some (.ref 76), some (.int l3)] [] I J k = zd S 0 299 [some (.float 0), some (.ref 0), some (.ref 76), some (.int l3)] [.int v4] I5 J6 k := by
  refine (tt_f rfl).trans ?_
  refine (tt_al rfl).trans ?_
  refine (tt_f rfl).trans ?_
  refine (tt_af rfl).trans ?_
  refine (tt_f rfl).trans ?_
  refine (tt_il rfl).trans ?_
  refine (tt_f rfl).trans ?_
  refine tt_c.trans ?_
  refine (tt_f rfl).trans ?_
  refine tt_bi.trans ?_
  refine (tt_f rfl).trans ?_
  refine (tt_sg hi1).trans ?_
  refine (tt_f rfl).trans ?_
  refine tt_i2l.trans ?_
  refine (tt_f rfl).trans ?_
  refine tt_c.trans ?_
  refine (tt_f rfl).trans ?_
  refine tt_sl.trans ?_
  refine (tt_f rfl).trans ?_
  refine (tt_af rfl).trans ?_
  refine (tt_f rfl).trans ?_
  refine (tt_il rfl).trans ?_
  refine (tt_f rfl).trans ?_
  refine tt_c.trans ?_
  refine (tt_f rfl).trans ?_
  refine tt_bi.trans ?_
  refine (tt_f rfl).trans ?_
  refine (tt_sg hi2).trans ?_
  refine (tt_f rfl).trans ?_
  refine tt_i2l.trans ?_
  refine (tt_f rfl).trans ?_
  refine tt_c.trans ?_
  refine (tt_f rfl).trans ?_
  refine tt_bl.trans ?_
  refine (tt_f rfl).trans ?_
  refine tt_bl.trans ?_
  refine (tt_f rfl).trans ?_
  refine (tt_af rfl).trans ?_
  refine (tt_f rfl).trans ?_
  refine (tt_il rfl).trans ?_
  refine (tt_f rfl).trans ?_
  refine tt_c.trans ?_
  refine (tt_f rfl).trans ?_
  refine tt_bi.trans ?_
  refine (tt_f rfl).trans ?_
  refine (tt_sg hi3).trans ?_
  exact tt_cv (As := [.long ((((S.2 (l3 + 1).toNatClampNeg)).toInt64 <<< ((32 : Int32).toInt64 &&& 63)) ||| (((S.2 (l3 + 2).toNatClampNeg)).toInt64 &&& 4294967295)), .int (S.2 (l3 + 3).toNatClampNeg)]) rfl hb.1 hb.2 rfl rfl rfl rfl rfl hq
set_option maxRecDepth 100000 in
theorem B0_299 {l3 : Int32} {t0 : Int32} {v4 : Int32} {I5 : zI} {J6 : zJ} (hb : Nat.ble k.1 (mBu 0).1 = true ∧ Nat.ble k.2 (mBu 0).2 = true) (hi1 : zin (l3 + 1) S.1 = true) (hi2 : zin (l3 + 2) S.1 = true) (hi3 : zin (l3 + 3) S.1 = true) (hq : zq S 104 [.ref 76, .long ((((S.2 (l3 + 1).toNatClampNeg)).toInt64 <<< ((32 : Int32).toInt64 &&& 63)) ||| (((S.2 (l3 + 2).toNatClampNeg)).toInt64 &&& 4294967295)), .int (S.2 (l3 + 3).toNatClampNeg)] I J (some (.int v4)) I5 J6) : zd S 0 299 [some (.float 0), some (.ref 0), some (.ref 76), some (.int l3)] [.int t0] I J k = zd S 0 328 [some (.float 0), some (.ref 0), some (.ref 76), some (.int l3)] [.int v4, .int t0] I5 J6 k := by
  refine (tt_f rfl).trans ?_
  refine (tt_al rfl).trans ?_
  refine (tt_f rfl).trans ?_
  refine (tt_af rfl).trans ?_
  refine (tt_f rfl).trans ?_
  refine (tt_il rfl).trans ?_
  refine (tt_f rfl).trans ?_
  refine tt_c.trans ?_
  refine (tt_f rfl).trans ?_
  refine tt_bi.trans ?_
  refine (tt_f rfl).trans ?_
  refine (tt_sg hi1).trans ?_
  refine (tt_f rfl).trans ?_
  refine tt_i2l.trans ?_
  refine (tt_f rfl).trans ?_
  refine tt_c.trans ?_
  refine (tt_f rfl).trans ?_
  refine tt_sl.trans ?_
  refine (tt_f rfl).trans ?_
  refine (tt_af rfl).trans ?_
  refine (tt_f rfl).trans ?_
  refine (tt_il rfl).trans ?_
  refine (tt_f rfl).trans ?_
  refine tt_c.trans ?_
  refine (tt_f rfl).trans ?_
  refine tt_bi.trans ?_
  refine (tt_f rfl).trans ?_
  refine (tt_sg hi2).trans ?_
  refine (tt_f rfl).trans ?_
  refine tt_i2l.trans ?_
  refine (tt_f rfl).trans ?_
  refine tt_c.trans ?_
  refine (tt_f rfl).trans ?_
  refine tt_bl.trans ?_
  refine (tt_f rfl).trans ?_
  refine tt_bl.trans ?_
  refine (tt_f rfl).trans ?_
  refine (tt_af rfl).trans ?_
  refine (tt_f rfl).trans ?_
  refine (tt_il rfl).trans ?_
  refine (tt_f rfl).trans ?_
  refine tt_c.trans ?_
  refine (tt_f rfl).trans ?_
  refine tt_bi.trans ?_
  refine (tt_f rfl).trans ?_
  refine (tt_sg hi3).trans ?_
  exact tt_cv (As := [.long ((((S.2 (l3 + 1).toNatClampNeg)).toInt64 <<< ((32 : Int32).toInt64 &&& 63)) ||| (((S.2 (l3 + 2).toNatClampNeg)).toInt64 &&& 4294967295)), .int (S.2 (l3 + 3).toNatClampNeg)]) rfl hb.1 hb.2 rfl rfl rfl rfl rfl hq
set_option maxRecDepth 100000 in
theorem B0_328 {l3 : Int32} {t0 : Int32} {t1 : Int32}  : zd S 0 328 [some (.float 0), some (.ref 0), some (.ref 76), some (.int l3)] [.int t1, .int t0] I J k = if t0 = t1 then zd S 0 666 [some (.float 0), some (.ref 0), some (.ref 76), some (.int l3)] [] I J k else zd S 0 331 [some (.float 0), some (.ref 0), some (.ref 76), some (.int l3)] [] I J k := by
  refine (tt_f rfl).trans ?_
  exact tt_f2 (p := fun x y => x = y) inferInstance rfl
set_option maxRecDepth 100000 in
theorem B0_331 {l3 : Int32} (hz : zrt 2 (.int 0) = true) : zd S 0 331 [some (.float 0), some (.ref 0), some (.ref 76), some (.int l3)] [] I J k = some ((some (.int 0)), mk I J, k) := by
  refine (tt_f rfl).trans ?_
  refine tt_c.trans ?_
  exact tt_r1 rfl hz
set_option maxRecDepth 100000 in
theorem B0_333 {l3 : Int32} {v4 : Int32} {I5 : zI} {J6 : zJ} (hb : Nat.ble k.1 (mBu 0).1 = true ∧ Nat.ble k.2 (mBu 0).2 = true) (hi1 : zin (l3 + 1) S.1 = true) (hi2 : zin (l3 + 2) S.1 = true) (hi3 : zin (l3 + 3) S.1 = true) (hq : zq S 6 [.ref 0, .long ((((S.2 (l3 + 1).toNatClampNeg)).toInt64 <<< ((32 : Int32).toInt64 &&& 63)) ||| (((S.2 (l3 + 2).toNatClampNeg)).toInt64 &&& 4294967295)), .int (S.2 (l3 + 3).toNatClampNeg)] I J (some (.int v4)) I5 J6) : zd S 0 333 [some (.float 0), some (.ref 0), some (.ref 76), some (.int l3)] [] I J k = zd S 0 362 [some (.float 0), some (.ref 0), some (.ref 76), some (.int l3)] [.int v4] I5 J6 k := by
  refine (tt_f rfl).trans ?_
  refine (tt_al rfl).trans ?_
  refine (tt_f rfl).trans ?_
  refine (tt_af rfl).trans ?_
  refine (tt_f rfl).trans ?_
  refine (tt_il rfl).trans ?_
  refine (tt_f rfl).trans ?_
  refine tt_c.trans ?_
  refine (tt_f rfl).trans ?_
  refine tt_bi.trans ?_
  refine (tt_f rfl).trans ?_
  refine (tt_sg hi1).trans ?_
  refine (tt_f rfl).trans ?_
  refine tt_i2l.trans ?_
  refine (tt_f rfl).trans ?_
  refine tt_c.trans ?_
  refine (tt_f rfl).trans ?_
  refine tt_sl.trans ?_
  refine (tt_f rfl).trans ?_
  refine (tt_af rfl).trans ?_
  refine (tt_f rfl).trans ?_
  refine (tt_il rfl).trans ?_
  refine (tt_f rfl).trans ?_
  refine tt_c.trans ?_
  refine (tt_f rfl).trans ?_
  refine tt_bi.trans ?_
  refine (tt_f rfl).trans ?_
  refine (tt_sg hi2).trans ?_
  refine (tt_f rfl).trans ?_
  refine tt_i2l.trans ?_
  refine (tt_f rfl).trans ?_
  refine tt_c.trans ?_
  refine (tt_f rfl).trans ?_
  refine tt_bl.trans ?_
  refine (tt_f rfl).trans ?_
  refine tt_bl.trans ?_
  refine (tt_f rfl).trans ?_
  refine (tt_af rfl).trans ?_
  refine (tt_f rfl).trans ?_
  refine (tt_il rfl).trans ?_
  refine (tt_f rfl).trans ?_
  refine tt_c.trans ?_
  refine (tt_f rfl).trans ?_
  refine tt_bi.trans ?_
  refine (tt_f rfl).trans ?_
  refine (tt_sg hi3).trans ?_
  exact tt_cv (As := [.long ((((S.2 (l3 + 1).toNatClampNeg)).toInt64 <<< ((32 : Int32).toInt64 &&& 63)) ||| (((S.2 (l3 + 2).toNatClampNeg)).toInt64 &&& 4294967295)), .int (S.2 (l3 + 3).toNatClampNeg)]) rfl hb.1 hb.2 rfl rfl rfl rfl rfl hq
set_option maxRecDepth 100000 in
theorem B0_362 {l3 : Int32} {t0 : Int32} {v4 : Int32} {I5 : zI} {J6 : zJ} (hb : Nat.ble k.1 (mBu 0).1 = true ∧ Nat.ble k.2 (mBu 0).2 = true) (hi1 : zin (l3 + 1) S.1 = true) (hi2 : zin (l3 + 2) S.1 = true) (hi3 : zin (l3 + 3) S.1 = true) (hq : zq S 105 [.ref 76, .long ((((S.2 (l3 + 1).toNatClampNeg)).toInt64 <<< ((32 : Int32).toInt64 &&& 63)) ||| (((S.2 (l3 + 2).toNatClampNeg)).toInt64 &&& 4294967295)), .int (S.2 (l3 + 3).toNatClampNeg)] I J (some (.int v4)) I5 J6) : zd S 0 362 [some (.float 0), some (.ref 0), some (.ref 76), some (.int l3)] [.int t0] I J k = zd S 0 391 [some (.float 0), some (.ref 0), some (.ref 76), some (.int l3)] [.int v4, .int t0] I5 J6 k := by
  refine (tt_f rfl).trans ?_
  refine (tt_al rfl).trans ?_
  refine (tt_f rfl).trans ?_
  refine (tt_af rfl).trans ?_
  refine (tt_f rfl).trans ?_
  refine (tt_il rfl).trans ?_
  refine (tt_f rfl).trans ?_
  refine tt_c.trans ?_
  refine (tt_f rfl).trans ?_
  refine tt_bi.trans ?_
  refine (tt_f rfl).trans ?_
  refine (tt_sg hi1).trans ?_
  refine (tt_f rfl).trans ?_
  refine tt_i2l.trans ?_
  refine (tt_f rfl).trans ?_
  refine tt_c.trans ?_
  refine (tt_f rfl).trans ?_
  refine tt_sl.trans ?_
  refine (tt_f rfl).trans ?_
  refine (tt_af rfl).trans ?_
  refine (tt_f rfl).trans ?_
  refine (tt_il rfl).trans ?_
  refine (tt_f rfl).trans ?_
  refine tt_c.trans ?_
  refine (tt_f rfl).trans ?_
  refine tt_bi.trans ?_
  refine (tt_f rfl).trans ?_
  refine (tt_sg hi2).trans ?_
  refine (tt_f rfl).trans ?_
  refine tt_i2l.trans ?_
  refine (tt_f rfl).trans ?_
  refine tt_c.trans ?_
  refine (tt_f rfl).trans ?_
  refine tt_bl.trans ?_
  refine (tt_f rfl).trans ?_
  refine tt_bl.trans ?_
  refine (tt_f rfl).trans ?_
  refine (tt_af rfl).trans ?_
  refine (tt_f rfl).trans ?_
  refine (tt_il rfl).trans ?_
  refine (tt_f rfl).trans ?_
  refine tt_c.trans ?_
  refine (tt_f rfl).trans ?_
  refine tt_bi.trans ?_
  refine (tt_f rfl).trans ?_
  refine (tt_sg hi3).trans ?_
  exact tt_cv (As := [.long ((((S.2 (l3 + 1).toNatClampNeg)).toInt64 <<< ((32 : Int32).toInt64 &&& 63)) ||| (((S.2 (l3 + 2).toNatClampNeg)).toInt64 &&& 4294967295)), .int (S.2 (l3 + 3).toNatClampNeg)]) rfl hb.1 hb.2 rfl rfl rfl rfl rfl hq
set_option maxRecDepth 100000 in
theorem B0_391 {l3 : Int32} {t0 : Int32} {t1 : Int32}  : zd S 0 391 [some (.float 0), some (.ref 0), some (.ref 76), some (.int l3)] [.int t1, .int t0] I J k = if t0 = t1 then zd S 0 666 [some (.float 0), some (.ref 0), some (.ref 76), some (.int l3)] [] I J k else zd S 0 394 [some (.float 0), some (.ref 0), some (.ref 76), some (.int l3)] [] I J k := by
  refine (tt_f rfl).trans ?_
  exact tt_f2 (p := fun x y => x = y) inferInstance rfl
set_option maxRecDepth 100000 in
theorem B0_394 {l3 : Int32} (hz : zrt 2 (.int 0) = true) : zd S 0 394 [some (.float 0), some (.ref 0), some (.ref 76), some (.int l3)] [] I J k = some ((some (.int 0)), mk I J, k) := by
  refine (tt_f rfl).trans ?_
  refine tt_c.trans ?_
  exact tt_r1 rfl hz
set_option maxRecDepth 100000 in
theorem B0_396 {l3 : Int32} {v1 : Int32} {I2 : zI} {J3 : zJ} (hb : Nat.ble k.1 (mBu 0).1 = true ∧ Nat.ble k.2 (mBu 0).2 = true) (hq : zq S 7 [.ref 0] I J (some (.int v1)) I2 J3) : zd S 0 396 [some (.float 0), some (.ref 0), some (.ref 76), some (.int l3)] [] I J k = zd S 0 400 [some (.float 0), some (.ref 0), some (.ref 76), some (.int l3)] [.int v1] I2 J3 k := by
  refine (tt_f rfl).trans ?_
  refine (tt_al rfl).trans ?_
  exact tt_cv (As := []) rfl hb.1 hb.2 rfl rfl rfl rfl rfl hq
set_option maxRecDepth 100000 in
theorem B0_400 {l3 : Int32} {t0 : Int32} {v1 : Int32} {I2 : zI} {J3 : zJ} (hb : Nat.ble k.1 (mBu 0).1 = true ∧ Nat.ble k.2 (mBu 0).2 = true) (hq : zq S 106 [.ref 76] I J (some (.int v1)) I2 J3) : zd S 0 400 [some (.float 0), some (.ref 0), some (.ref 76), some (.int l3)] [.int t0] I J k = zd S 0 404 [some (.float 0), some (.ref 0), some (.ref 76), some (.int l3)] [.int v1, .int t0] I2 J3 k := by
  refine (tt_f rfl).trans ?_
  refine (tt_al rfl).trans ?_
  exact tt_cv (As := []) rfl hb.1 hb.2 rfl rfl rfl rfl rfl hq
set_option maxRecDepth 100000 in
theorem B0_404 {l3 : Int32} {t0 : Int32} {t1 : Int32}  : zd S 0 404 [some (.float 0), some (.ref 0), some (.ref 76), some (.int l3)] [.int t1, .int t0] I J k = if t0 = t1 then zd S 0 666 [some (.float 0), some (.ref 0), some (.ref 76), some (.int l3)] [] I J k else zd S 0 407 [some (.float 0), some (.ref 0), some (.ref 76), some (.int l3)] [] I J k := by
  refine (tt_f rfl).trans ?_
  exact tt_f2 (p := fun x y => x = y) inferInstance rfl
set_option maxRecDepth 100000 in
theorem B0_407 {l3 : Int32} (hz : zrt 2 (.int 0) = true) : zd S 0 407 [some (.float 0), some (.ref 0), some (.ref 76), some (.int l3)] [] I J k = some ((some (.int 0)), mk I J, k) := by
  refine (tt_f rfl).trans ?_
  refine tt_c.trans ?_
  exact tt_r1 rfl hz
set_option maxRecDepth 100000 in
theorem B0_409 {l3 : Int32} {v1 : Int32} {I2 : zI} {J3 : zJ} (hb : Nat.ble k.1 (mBu 0).1 = true ∧ Nat.ble k.2 (mBu 0).2 = true) (hq : zq S 8 [.ref 0] I J (some (.int v1)) I2 J3) : zd S 0 409 [some (.float 0), some (.ref 0), some (.ref 76), some (.int l3)] [] I J k = zd S 0 413 [some (.float 0), some (.ref 0), some (.ref 76), some (.int l3)] [.int v1] I2 J3 k := by
  refine (tt_f rfl).trans ?_
  refine (tt_al rfl).trans ?_
  exact tt_cv (As := []) rfl hb.1 hb.2 rfl rfl rfl rfl rfl hq
set_option maxRecDepth 100000 in
theorem B0_413 {l3 : Int32} {t0 : Int32} {v1 : Int32} {I2 : zI} {J3 : zJ} (hb : Nat.ble k.1 (mBu 0).1 = true ∧ Nat.ble k.2 (mBu 0).2 = true) (hq : zq S 116 [.ref 76] I J (some (.int v1)) I2 J3) : zd S 0 413 [some (.float 0), some (.ref 0), some (.ref 76), some (.int l3)] [.int t0] I J k = zd S 0 417 [some (.float 0), some (.ref 0), some (.ref 76), some (.int l3)] [.int v1, .int t0] I2 J3 k := by
  refine (tt_f rfl).trans ?_
  refine (tt_al rfl).trans ?_
  exact tt_cv (As := []) rfl hb.1 hb.2 rfl rfl rfl rfl rfl hq
set_option maxRecDepth 100000 in
theorem B0_417 {l3 : Int32} {t0 : Int32} {t1 : Int32}  : zd S 0 417 [some (.float 0), some (.ref 0), some (.ref 76), some (.int l3)] [.int t1, .int t0] I J k = if t0 = t1 then zd S 0 666 [some (.float 0), some (.ref 0), some (.ref 76), some (.int l3)] [] I J k else zd S 0 420 [some (.float 0), some (.ref 0), some (.ref 76), some (.int l3)] [] I J k := by
  refine (tt_f rfl).trans ?_
  exact tt_f2 (p := fun x y => x = y) inferInstance rfl
set_option maxRecDepth 100000 in
theorem B0_420 {l3 : Int32} (hz : zrt 2 (.int 0) = true) : zd S 0 420 [some (.float 0), some (.ref 0), some (.ref 76), some (.int l3)] [] I J k = some ((some (.int 0)), mk I J, k) := by
  refine (tt_f rfl).trans ?_
  refine tt_c.trans ?_
  exact tt_r1 rfl hz
set_option maxRecDepth 100000 in
theorem B0_422 {l3 : Int32} {v1 : Int32} {I2 : zI} {J3 : zJ} (hb : Nat.ble k.1 (mBu 0).1 = true ∧ Nat.ble k.2 (mBu 0).2 = true) (hq : zq S 9 [.ref 0] I J (some (.int v1)) I2 J3) : zd S 0 422 [some (.float 0), some (.ref 0), some (.ref 76), some (.int l3)] [] I J k = zd S 0 426 [some (.float 0), some (.ref 0), some (.ref 76), some (.int l3)] [.int v1] I2 J3 k := by
  refine (tt_f rfl).trans ?_
  refine (tt_al rfl).trans ?_
  exact tt_cv (As := []) rfl hb.1 hb.2 rfl rfl rfl rfl rfl hq
set_option maxRecDepth 100000 in
theorem B0_426 {l3 : Int32} {t0 : Int32} {v1 : Int32} {I2 : zI} {J3 : zJ} (hb : Nat.ble k.1 (mBu 0).1 = true ∧ Nat.ble k.2 (mBu 0).2 = true) (hq : zq S 117 [.ref 76] I J (some (.int v1)) I2 J3) : zd S 0 426 [some (.float 0), some (.ref 0), some (.ref 76), some (.int l3)] [.int t0] I J k = zd S 0 430 [some (.float 0), some (.ref 0), some (.ref 76), some (.int l3)] [.int v1, .int t0] I2 J3 k := by
  refine (tt_f rfl).trans ?_
  refine (tt_al rfl).trans ?_
  exact tt_cv (As := []) rfl hb.1 hb.2 rfl rfl rfl rfl rfl hq
set_option maxRecDepth 100000 in
theorem B0_430 {l3 : Int32} {t0 : Int32} {t1 : Int32}  : zd S 0 430 [some (.float 0), some (.ref 0), some (.ref 76), some (.int l3)] [.int t1, .int t0] I J k = if t0 = t1 then zd S 0 666 [some (.float 0), some (.ref 0), some (.ref 76), some (.int l3)] [] I J k else zd S 0 433 [some (.float 0), some (.ref 0), some (.ref 76), some (.int l3)] [] I J k := by
  refine (tt_f rfl).trans ?_
  exact tt_f2 (p := fun x y => x = y) inferInstance rfl
set_option maxRecDepth 100000 in
theorem B0_433 {l3 : Int32} (hz : zrt 2 (.int 0) = true) : zd S 0 433 [some (.float 0), some (.ref 0), some (.ref 76), some (.int l3)] [] I J k = some ((some (.int 0)), mk I J, k) := by
  refine (tt_f rfl).trans ?_
  refine tt_c.trans ?_
  exact tt_r1 rfl hz
set_option maxRecDepth 100000 in
theorem B0_435 {l3 : Int32} {v1 : Int32} {I2 : zI} {J3 : zJ} (hb : Nat.ble k.1 (mBu 0).1 = true ∧ Nat.ble k.2 (mBu 0).2 = true) (hq : zq S 10 [.ref 0] I J (some (.int v1)) I2 J3) : zd S 0 435 [some (.float 0), some (.ref 0), some (.ref 76), some (.int l3)] [] I J k = zd S 0 439 [some (.float 0), some (.ref 0), some (.ref 76), some (.int l3)] [.int v1] I2 J3 k := by
  refine (tt_f rfl).trans ?_
  refine (tt_al rfl).trans ?_
  exact tt_cv (As := []) rfl hb.1 hb.2 rfl rfl rfl rfl rfl hq
set_option maxRecDepth 100000 in
theorem B0_439 {l3 : Int32} {t0 : Int32} {v1 : Int32} {I2 : zI} {J3 : zJ} (hb : Nat.ble k.1 (mBu 0).1 = true ∧ Nat.ble k.2 (mBu 0).2 = true) (hq : zq S 138 [.ref 76] I J (some (.int v1)) I2 J3) : zd S 0 439 [some (.float 0), some (.ref 0), some (.ref 76), some (.int l3)] [.int t0] I J k = zd S 0 443 [some (.float 0), some (.ref 0), some (.ref 76), some (.int l3)] [.int v1, .int t0] I2 J3 k := by
  refine (tt_f rfl).trans ?_
  refine (tt_al rfl).trans ?_
  exact tt_cv (As := []) rfl hb.1 hb.2 rfl rfl rfl rfl rfl hq
set_option maxRecDepth 100000 in
theorem B0_443 {l3 : Int32} {t0 : Int32} {t1 : Int32}  : zd S 0 443 [some (.float 0), some (.ref 0), some (.ref 76), some (.int l3)] [.int t1, .int t0] I J k = if t0 = t1 then zd S 0 666 [some (.float 0), some (.ref 0), some (.ref 76), some (.int l3)] [] I J k else zd S 0 446 [some (.float 0), some (.ref 0), some (.ref 76), some (.int l3)] [] I J k := by
  refine (tt_f rfl).trans ?_
  exact tt_f2 (p := fun x y => x = y) inferInstance rfl
set_option maxRecDepth 100000 in
theorem B0_446 {l3 : Int32} (hz : zrt 2 (.int 0) = true) : zd S 0 446 [some (.float 0), some (.ref 0), some (.ref 76), some (.int l3)] [] I J k = some ((some (.int 0)), mk I J, k) := by
  refine (tt_f rfl).trans ?_
  refine tt_c.trans ?_
  exact tt_r1 rfl hz
set_option maxRecDepth 100000 in
theorem B0_448 {l3 : Int32} {v2 : Int32} {I3 : zI} {J4 : zJ} (hb : Nat.ble k.1 (mBu 0).1 = true ∧ Nat.ble k.2 (mBu 0).2 = true) (hi1 : zin (l3 + 1) S.1 = true) (hq : zq S 11 [.ref 0, .int (S.2 (l3 + 1).toNatClampNeg)] I J (some (.int v2)) I3 J4) : zd S 0 448 [some (.float 0), some (.ref 0), some (.ref 76), some (.int l3)] [] I J k = zd S 0 457 [some (.float 0), some (.ref 0), some (.ref 76), some (.int l3)] [.int v2] I3 J4 k := by
  refine (tt_f rfl).trans ?_
  refine (tt_al rfl).trans ?_
  refine (tt_f rfl).trans ?_
  refine (tt_af rfl).trans ?_
  refine (tt_f rfl).trans ?_
  refine (tt_il rfl).trans ?_
  refine (tt_f rfl).trans ?_
  refine tt_c.trans ?_
  refine (tt_f rfl).trans ?_
  refine tt_bi.trans ?_
  refine (tt_f rfl).trans ?_
  refine (tt_sg hi1).trans ?_
  exact tt_cv (As := [.int (S.2 (l3 + 1).toNatClampNeg)]) rfl hb.1 hb.2 rfl rfl rfl rfl rfl hq
set_option maxRecDepth 100000 in
theorem B0_457 {l3 : Int32} {t0 : Int32} {v2 : Int32} {I3 : zI} {J4 : zJ} (hb : Nat.ble k.1 (mBu 0).1 = true ∧ Nat.ble k.2 (mBu 0).2 = true) (hi1 : zin (l3 + 1) S.1 = true) (hq : zq S 140 [.ref 76, .int (S.2 (l3 + 1).toNatClampNeg)] I J (some (.int v2)) I3 J4) : zd S 0 457 [some (.float 0), some (.ref 0), some (.ref 76), some (.int l3)] [.int t0] I J k = zd S 0 466 [some (.float 0), some (.ref 0), some (.ref 76), some (.int l3)] [.int v2, .int t0] I3 J4 k := by
  refine (tt_f rfl).trans ?_
  refine (tt_al rfl).trans ?_
  refine (tt_f rfl).trans ?_
  refine (tt_af rfl).trans ?_
  refine (tt_f rfl).trans ?_
  refine (tt_il rfl).trans ?_
  refine (tt_f rfl).trans ?_
  refine tt_c.trans ?_
  refine (tt_f rfl).trans ?_
  refine tt_bi.trans ?_
  refine (tt_f rfl).trans ?_
  refine (tt_sg hi1).trans ?_
  exact tt_cv (As := [.int (S.2 (l3 + 1).toNatClampNeg)]) rfl hb.1 hb.2 rfl rfl rfl rfl rfl hq
set_option maxRecDepth 100000 in
theorem B0_466 {l3 : Int32} {t0 : Int32} {t1 : Int32}  : zd S 0 466 [some (.float 0), some (.ref 0), some (.ref 76), some (.int l3)] [.int t1, .int t0] I J k = if t0 = t1 then zd S 0 666 [some (.float 0), some (.ref 0), some (.ref 76), some (.int l3)] [] I J k else zd S 0 469 [some (.float 0), some (.ref 0), some (.ref 76), some (.int l3)] [] I J k := by
  refine (tt_f rfl).trans ?_
  exact tt_f2 (p := fun x y => x = y) inferInstance rfl
set_option maxRecDepth 100000 in
theorem B0_469 {l3 : Int32} (hz : zrt 2 (.int 0) = true) : zd S 0 469 [some (.float 0), some (.ref 0), some (.ref 76), some (.int l3)] [] I J k = some ((some (.int 0)), mk I J, k) := by
  refine (tt_f rfl).trans ?_
  refine tt_c.trans ?_
  exact tt_r1 rfl hz
set_option maxRecDepth 100000 in
theorem B0_471 {l3 : Int32} {v2 : Int32} {I3 : zI} {J4 : zJ} (hb : Nat.ble k.1 (mBu 0).1 = true ∧ Nat.ble k.2 (mBu 0).2 = true) (hi1 : zin (l3 + 1) S.1 = true) (hq : zq S 12 [.ref 0, .int (S.2 (l3 + 1).toNatClampNeg)] I J (some (.int v2)) I3 J4) : zd S 0 471 [some (.float 0), some (.ref 0), some (.ref 76), some (.int l3)] [] I J k = zd S 0 480 [some (.float 0), some (.ref 0), some (.ref 76), some (.int l3)] [.int v2] I3 J4 k := by
  refine (tt_f rfl).trans ?_
  refine (tt_al rfl).trans ?_
  refine (tt_f rfl).trans ?_
  refine (tt_af rfl).trans ?_
  refine (tt_f rfl).trans ?_
  refine (tt_il rfl).trans ?_
  refine (tt_f rfl).trans ?_
  refine tt_c.trans ?_
  refine (tt_f rfl).trans ?_
  refine tt_bi.trans ?_
  refine (tt_f rfl).trans ?_
  refine (tt_sg hi1).trans ?_
  exact tt_cv (As := [.int (S.2 (l3 + 1).toNatClampNeg)]) rfl hb.1 hb.2 rfl rfl rfl rfl rfl hq
set_option maxRecDepth 100000 in
theorem B0_480 {l3 : Int32} {t0 : Int32} {v2 : Int32} {I3 : zI} {J4 : zJ} (hb : Nat.ble k.1 (mBu 0).1 = true ∧ Nat.ble k.2 (mBu 0).2 = true) (hi1 : zin (l3 + 1) S.1 = true) (hq : zq S 141 [.ref 76, .int (S.2 (l3 + 1).toNatClampNeg)] I J (some (.int v2)) I3 J4) : zd S 0 480 [some (.float 0), some (.ref 0), some (.ref 76), some (.int l3)] [.int t0] I J k = zd S 0 489 [some (.float 0), some (.ref 0), some (.ref 76), some (.int l3)] [.int v2, .int t0] I3 J4 k := by
  refine (tt_f rfl).trans ?_
  refine (tt_al rfl).trans ?_
  refine (tt_f rfl).trans ?_
  refine (tt_af rfl).trans ?_
  refine (tt_f rfl).trans ?_
  refine (tt_il rfl).trans ?_
  refine (tt_f rfl).trans ?_
  refine tt_c.trans ?_
  refine (tt_f rfl).trans ?_
  refine tt_bi.trans ?_
  refine (tt_f rfl).trans ?_
  refine (tt_sg hi1).trans ?_
  exact tt_cv (As := [.int (S.2 (l3 + 1).toNatClampNeg)]) rfl hb.1 hb.2 rfl rfl rfl rfl rfl hq
set_option maxRecDepth 100000 in
theorem B0_489 {l3 : Int32} {t0 : Int32} {t1 : Int32}  : zd S 0 489 [some (.float 0), some (.ref 0), some (.ref 76), some (.int l3)] [.int t1, .int t0] I J k = if t0 = t1 then zd S 0 666 [some (.float 0), some (.ref 0), some (.ref 76), some (.int l3)] [] I J k else zd S 0 492 [some (.float 0), some (.ref 0), some (.ref 76), some (.int l3)] [] I J k := by
  refine (tt_f rfl).trans ?_
  exact tt_f2 (p := fun x y => x = y) inferInstance rfl
set_option maxRecDepth 100000 in
theorem B0_492 {l3 : Int32} (hz : zrt 2 (.int 0) = true) : zd S 0 492 [some (.float 0), some (.ref 0), some (.ref 76), some (.int l3)] [] I J k = some ((some (.int 0)), mk I J, k) := by
  refine (tt_f rfl).trans ?_
  refine tt_c.trans ?_
  exact tt_r1 rfl hz
set_option maxRecDepth 100000 in
theorem B0_494 {l3 : Int32} {v3 : Int32} {I4 : zI} {J5 : zJ} (hb : Nat.ble k.1 (mBu 0).1 = true ∧ Nat.ble k.2 (mBu 0).2 = true) (hi1 : zin (l3 + 1) S.1 = true) (hi2 : zin (l3 + 2) S.1 = true) (hq : zq S 13 [.ref 0, .int (S.2 (l3 + 1).toNatClampNeg), .int (S.2 (l3 + 2).toNatClampNeg)] I J (some (.int v3)) I4 J5) : zd S 0 494 [some (.float 0), some (.ref 0), some (.ref 76), some (.int l3)] [] I J k = zd S 0 508 [some (.float 0), some (.ref 0), some (.ref 76), some (.int l3)] [.int v3] I4 J5 k := by
  refine (tt_f rfl).trans ?_
  refine (tt_al rfl).trans ?_
  refine (tt_f rfl).trans ?_
  refine (tt_af rfl).trans ?_
  refine (tt_f rfl).trans ?_
  refine (tt_il rfl).trans ?_
  refine (tt_f rfl).trans ?_
  refine tt_c.trans ?_
  refine (tt_f rfl).trans ?_
  refine tt_bi.trans ?_
  refine (tt_f rfl).trans ?_
  refine (tt_sg hi1).trans ?_
  refine (tt_f rfl).trans ?_
  refine (tt_af rfl).trans ?_
  refine (tt_f rfl).trans ?_
  refine (tt_il rfl).trans ?_
  refine (tt_f rfl).trans ?_
  refine tt_c.trans ?_
  refine (tt_f rfl).trans ?_
  refine tt_bi.trans ?_
  refine (tt_f rfl).trans ?_
  refine (tt_sg hi2).trans ?_
  exact tt_cv (As := [.int (S.2 (l3 + 1).toNatClampNeg), .int (S.2 (l3 + 2).toNatClampNeg)]) rfl hb.1 hb.2 rfl rfl rfl rfl rfl hq
set_option maxRecDepth 100000 in
theorem B0_508 {l3 : Int32} {t0 : Int32} {v3 : Int32} {I4 : zI} {J5 : zJ} (hb : Nat.ble k.1 (mBu 0).1 = true ∧ Nat.ble k.2 (mBu 0).2 = true) (hi1 : zin (l3 + 1) S.1 = true) (hi2 : zin (l3 + 2) S.1 = true) (hq : zq S 142 [.ref 76, .int (S.2 (l3 + 1).toNatClampNeg), .int (S.2 (l3 + 2).toNatClampNeg)] I J (some (.int v3)) I4 J5) : zd S 0 508 [some (.float 0), some (.ref 0), some (.ref 76), some (.int l3)] [.int t0] I J k = zd S 0 522 [some (.float 0), some (.ref 0), some (.ref 76), some (.int l3)] [.int v3, .int t0] I4 J5 k := by
  refine (tt_f rfl).trans ?_
  refine (tt_al rfl).trans ?_
  refine (tt_f rfl).trans ?_
  refine (tt_af rfl).trans ?_
  refine (tt_f rfl).trans ?_
  refine (tt_il rfl).trans ?_
  refine (tt_f rfl).trans ?_
  refine tt_c.trans ?_
  refine (tt_f rfl).trans ?_
  refine tt_bi.trans ?_
  refine (tt_f rfl).trans ?_
  refine (tt_sg hi1).trans ?_
  refine (tt_f rfl).trans ?_
  refine (tt_af rfl).trans ?_
  refine (tt_f rfl).trans ?_
  refine (tt_il rfl).trans ?_
  refine (tt_f rfl).trans ?_
  refine tt_c.trans ?_
  refine (tt_f rfl).trans ?_
  refine tt_bi.trans ?_
  refine (tt_f rfl).trans ?_
  refine (tt_sg hi2).trans ?_
  exact tt_cv (As := [.int (S.2 (l3 + 1).toNatClampNeg), .int (S.2 (l3 + 2).toNatClampNeg)]) rfl hb.1 hb.2 rfl rfl rfl rfl rfl hq
set_option maxRecDepth 100000 in
theorem B0_522 {l3 : Int32} {t0 : Int32} {t1 : Int32}  : zd S 0 522 [some (.float 0), some (.ref 0), some (.ref 76), some (.int l3)] [.int t1, .int t0] I J k = if t0 = t1 then zd S 0 666 [some (.float 0), some (.ref 0), some (.ref 76), some (.int l3)] [] I J k else zd S 0 525 [some (.float 0), some (.ref 0), some (.ref 76), some (.int l3)] [] I J k := by
  refine (tt_f rfl).trans ?_
  exact tt_f2 (p := fun x y => x = y) inferInstance rfl
set_option maxRecDepth 100000 in
theorem B0_525 {l3 : Int32} (hz : zrt 2 (.int 0) = true) : zd S 0 525 [some (.float 0), some (.ref 0), some (.ref 76), some (.int l3)] [] I J k = some ((some (.int 0)), mk I J, k) := by
  refine (tt_f rfl).trans ?_
  refine tt_c.trans ?_
  exact tt_r1 rfl hz
set_option maxRecDepth 100000 in
theorem B0_527 {l3 : Int32} {v4 : Int32} {I5 : zI} {J6 : zJ} (hb : Nat.ble k.1 (mBu 0).1 = true ∧ Nat.ble k.2 (mBu 0).2 = true) (hi1 : zin (l3 + 1) S.1 = true) (hi2 : zin (l3 + 2) S.1 = true) (hi3 : zin (l3 + 3) S.1 = true) (hq : zq S 14 [.ref 0, .int (S.2 (l3 + 1).toNatClampNeg), .int (S.2 (l3 + 2).toNatClampNeg), .int (S.2 (l3 + 3).toNatClampNeg)] I J (some (.int v4)) I5 J6) : zd S 0 527 [some (.float 0), some (.ref 0), some (.ref 76), some (.int l3)] [] I J k = zd S 0 546 [some (.float 0), some (.ref 0), some (.ref 76), some (.int l3)] [.int v4] I5 J6 k := by
  refine (tt_f rfl).trans ?_
  refine (tt_al rfl).trans ?_
  refine (tt_f rfl).trans ?_
  refine (tt_af rfl).trans ?_
  refine (tt_f rfl).trans ?_
  refine (tt_il rfl).trans ?_
  refine (tt_f rfl).trans ?_
  refine tt_c.trans ?_
  refine (tt_f rfl).trans ?_
  refine tt_bi.trans ?_
  refine (tt_f rfl).trans ?_
  refine (tt_sg hi1).trans ?_
  refine (tt_f rfl).trans ?_
  refine (tt_af rfl).trans ?_
  refine (tt_f rfl).trans ?_
  refine (tt_il rfl).trans ?_
  refine (tt_f rfl).trans ?_
  refine tt_c.trans ?_
  refine (tt_f rfl).trans ?_
  refine tt_bi.trans ?_
  refine (tt_f rfl).trans ?_
  refine (tt_sg hi2).trans ?_
  refine (tt_f rfl).trans ?_
  refine (tt_af rfl).trans ?_
  refine (tt_f rfl).trans ?_
  refine (tt_il rfl).trans ?_
  refine (tt_f rfl).trans ?_
  refine tt_c.trans ?_
  refine (tt_f rfl).trans ?_
  refine tt_bi.trans ?_
  refine (tt_f rfl).trans ?_
  refine (tt_sg hi3).trans ?_
  exact tt_cv (As := [.int (S.2 (l3 + 1).toNatClampNeg), .int (S.2 (l3 + 2).toNatClampNeg), .int (S.2 (l3 + 3).toNatClampNeg)]) rfl hb.1 hb.2 rfl rfl rfl rfl rfl hq
set_option maxRecDepth 100000 in
theorem B0_546 {l3 : Int32} {t0 : Int32} {v4 : Int32} {I5 : zI} {J6 : zJ} (hb : Nat.ble k.1 (mBu 0).1 = true ∧ Nat.ble k.2 (mBu 0).2 = true) (hi1 : zin (l3 + 1) S.1 = true) (hi2 : zin (l3 + 2) S.1 = true) (hi3 : zin (l3 + 3) S.1 = true) (hq : zq S 143 [.ref 76, .int (S.2 (l3 + 1).toNatClampNeg), .int (S.2 (l3 + 2).toNatClampNeg), .int (S.2 (l3 + 3).toNatClampNeg)] I J (some (.int v4)) I5 J6) : zd S 0 546 [some (.float 0), some (.ref 0), some (.ref 76), some (.int l3)] [.int t0] I J k = zd S 0 565 [some (.float 0), some (.ref 0), some (.ref 76), some (.int l3)] [.int v4, .int t0] I5 J6 k := by
  refine (tt_f rfl).trans ?_
  refine (tt_al rfl).trans ?_
  refine (tt_f rfl).trans ?_
  refine (tt_af rfl).trans ?_
  refine (tt_f rfl).trans ?_
  refine (tt_il rfl).trans ?_
  refine (tt_f rfl).trans ?_
  refine tt_c.trans ?_
  refine (tt_f rfl).trans ?_
  refine tt_bi.trans ?_
  refine (tt_f rfl).trans ?_
  refine (tt_sg hi1).trans ?_
  refine (tt_f rfl).trans ?_
  refine (tt_af rfl).trans ?_
  refine (tt_f rfl).trans ?_
  refine (tt_il rfl).trans ?_
  refine (tt_f rfl).trans ?_
  refine tt_c.trans ?_
  refine (tt_f rfl).trans ?_
  refine tt_bi.trans ?_
  refine (tt_f rfl).trans ?_
  refine (tt_sg hi2).trans ?_
  refine (tt_f rfl).trans ?_
  refine (tt_af rfl).trans ?_
  refine (tt_f rfl).trans ?_
  refine (tt_il rfl).trans ?_
  refine (tt_f rfl).trans ?_
  refine tt_c.trans ?_
  refine (tt_f rfl).trans ?_
  refine tt_bi.trans ?_
  refine (tt_f rfl).trans ?_
  refine (tt_sg hi3).trans ?_
  exact tt_cv (As := [.int (S.2 (l3 + 1).toNatClampNeg), .int (S.2 (l3 + 2).toNatClampNeg), .int (S.2 (l3 + 3).toNatClampNeg)]) rfl hb.1 hb.2 rfl rfl rfl rfl rfl hq
set_option maxRecDepth 100000 in
theorem B0_565 {l3 : Int32} {t0 : Int32} {t1 : Int32}  : zd S 0 565 [some (.float 0), some (.ref 0), some (.ref 76), some (.int l3)] [.int t1, .int t0] I J k = if t0 = t1 then zd S 0 666 [some (.float 0), some (.ref 0), some (.ref 76), some (.int l3)] [] I J k else zd S 0 568 [some (.float 0), some (.ref 0), some (.ref 76), some (.int l3)] [] I J k := by
  refine (tt_f rfl).trans ?_
  exact tt_f2 (p := fun x y => x = y) inferInstance rfl
set_option maxRecDepth 100000 in
theorem B0_568 {l3 : Int32} (hz : zrt 2 (.int 0) = true) : zd S 0 568 [some (.float 0), some (.ref 0), some (.ref 76), some (.int l3)] [] I J k = some ((some (.int 0)), mk I J, k) := by
  refine (tt_f rfl).trans ?_
  refine tt_c.trans ?_
  exact tt_r1 rfl hz
set_option maxRecDepth 100000 in
theorem B0_570 {l3 : Int32} {v4 : Int32} {I5 : zI} {J6 : zJ} (hb : Nat.ble k.1 (mBu 0).1 = true ∧ Nat.ble k.2 (mBu 0).2 = true) (hi1 : zin (l3 + 1) S.1 = true) (hi2 : zin (l3 + 2) S.1 = true) (hi3 : zin (l3 + 3) S.1 = true) (hq : zq S 15 [.ref 0, .int (S.2 (l3 + 1).toNatClampNeg), .int (S.2 (l3 + 2).toNatClampNeg), .int (S.2 (l3 + 3).toNatClampNeg)] I J (some (.int v4)) I5 J6) : zd S 0 570 [some (.float 0), some (.ref 0), some (.ref 76), some (.int l3)] [] I J k = zd S 0 589 [some (.float 0), some (.ref 0), some (.ref 76), some (.int l3)] [.int v4] I5 J6 k := by
  refine (tt_f rfl).trans ?_
  refine (tt_al rfl).trans ?_
  refine (tt_f rfl).trans ?_
  refine (tt_af rfl).trans ?_
  refine (tt_f rfl).trans ?_
  refine (tt_il rfl).trans ?_
  refine (tt_f rfl).trans ?_
  refine tt_c.trans ?_
  refine (tt_f rfl).trans ?_
  refine tt_bi.trans ?_
  refine (tt_f rfl).trans ?_
  refine (tt_sg hi1).trans ?_
  refine (tt_f rfl).trans ?_
  refine (tt_af rfl).trans ?_
  refine (tt_f rfl).trans ?_
  refine (tt_il rfl).trans ?_
  refine (tt_f rfl).trans ?_
  refine tt_c.trans ?_
  refine (tt_f rfl).trans ?_
  refine tt_bi.trans ?_
  refine (tt_f rfl).trans ?_
  refine (tt_sg hi2).trans ?_
  refine (tt_f rfl).trans ?_
  refine (tt_af rfl).trans ?_
  refine (tt_f rfl).trans ?_
  refine (tt_il rfl).trans ?_
  refine (tt_f rfl).trans ?_
  refine tt_c.trans ?_
  refine (tt_f rfl).trans ?_
  refine tt_bi.trans ?_
  refine (tt_f rfl).trans ?_
  refine (tt_sg hi3).trans ?_
  exact tt_cv (As := [.int (S.2 (l3 + 1).toNatClampNeg), .int (S.2 (l3 + 2).toNatClampNeg), .int (S.2 (l3 + 3).toNatClampNeg)]) rfl hb.1 hb.2 rfl rfl rfl rfl rfl hq
set_option maxRecDepth 100000 in
theorem B0_589 {l3 : Int32} {t0 : Int32} {v4 : Int32} {I5 : zI} {J6 : zJ} (hb : Nat.ble k.1 (mBu 0).1 = true ∧ Nat.ble k.2 (mBu 0).2 = true) (hi1 : zin (l3 + 1) S.1 = true) (hi2 : zin (l3 + 2) S.1 = true) (hi3 : zin (l3 + 3) S.1 = true) (hq : zq S 145 [.ref 76, .int (S.2 (l3 + 1).toNatClampNeg), .int (S.2 (l3 + 2).toNatClampNeg), .int (S.2 (l3 + 3).toNatClampNeg)] I J (some (.int v4)) I5 J6) : zd S 0 589 [some (.float 0), some (.ref 0), some (.ref 76), some (.int l3)] [.int t0] I J k = zd S 0 608 [some (.float 0), some (.ref 0), some (.ref 76), some (.int l3)] [.int v4, .int t0] I5 J6 k := by
  refine (tt_f rfl).trans ?_
  refine (tt_al rfl).trans ?_
  refine (tt_f rfl).trans ?_
  refine (tt_af rfl).trans ?_
  refine (tt_f rfl).trans ?_
  refine (tt_il rfl).trans ?_
  refine (tt_f rfl).trans ?_
  refine tt_c.trans ?_
  refine (tt_f rfl).trans ?_
  refine tt_bi.trans ?_
  refine (tt_f rfl).trans ?_
  refine (tt_sg hi1).trans ?_
  refine (tt_f rfl).trans ?_
  refine (tt_af rfl).trans ?_
  refine (tt_f rfl).trans ?_
  refine (tt_il rfl).trans ?_
  refine (tt_f rfl).trans ?_
  refine tt_c.trans ?_
  refine (tt_f rfl).trans ?_
  refine tt_bi.trans ?_
  refine (tt_f rfl).trans ?_
  refine (tt_sg hi2).trans ?_
  refine (tt_f rfl).trans ?_
  refine (tt_af rfl).trans ?_
  refine (tt_f rfl).trans ?_
  refine (tt_il rfl).trans ?_
  refine (tt_f rfl).trans ?_
  refine tt_c.trans ?_
  refine (tt_f rfl).trans ?_
  refine tt_bi.trans ?_
  refine (tt_f rfl).trans ?_
  refine (tt_sg hi3).trans ?_
  exact tt_cv (As := [.int (S.2 (l3 + 1).toNatClampNeg), .int (S.2 (l3 + 2).toNatClampNeg), .int (S.2 (l3 + 3).toNatClampNeg)]) rfl hb.1 hb.2 rfl rfl rfl rfl rfl hq
set_option maxRecDepth 100000 in
theorem B0_608 {l3 : Int32} {t0 : Int32} {t1 : Int32}  : zd S 0 608 [some (.float 0), some (.ref 0), some (.ref 76), some (.int l3)] [.int t1, .int t0] I J k = if t0 = t1 then zd S 0 666 [some (.float 0), some (.ref 0), some (.ref 76), some (.int l3)] [] I J k else zd S 0 611 [some (.float 0), some (.ref 0), some (.ref 76), some (.int l3)] [] I J k := by
  refine (tt_f rfl).trans ?_
  exact tt_f2 (p := fun x y => x = y) inferInstance rfl
set_option maxRecDepth 100000 in
theorem B0_611 {l3 : Int32} (hz : zrt 2 (.int 0) = true) : zd S 0 611 [some (.float 0), some (.ref 0), some (.ref 76), some (.int l3)] [] I J k = some ((some (.int 0)), mk I J, k) := by
  refine (tt_f rfl).trans ?_
  refine tt_c.trans ?_
  exact tt_r1 rfl hz
set_option maxRecDepth 100000 in
theorem B0_613 {l3 : Int32} {v5 : Int32} {I6 : zI} {J7 : zJ} (hb : Nat.ble k.1 (mBu 0).1 = true ∧ Nat.ble k.2 (mBu 0).2 = true) (hi1 : zin (l3 + 1) S.1 = true) (hi2 : zin (l3 + 2) S.1 = true) (hi3 : zin (l3 + 3) S.1 = true) (hi4 : zin (l3 + 4) S.1 = true) (hq : zq S 16 [.ref 0, .int (S.2 (l3 + 1).toNatClampNeg), .int (S.2 (l3 + 2).toNatClampNeg), .int (S.2 (l3 + 3).toNatClampNeg), .int (S.2 (l3 + 4).toNatClampNeg)] I J (some (.int v5)) I6 J7) : zd S 0 613 [some (.float 0), some (.ref 0), some (.ref 76), some (.int l3)] [] I J k = zd S 0 637 [some (.float 0), some (.ref 0), some (.ref 76), some (.int l3)] [.int v5] I6 J7 k := by
  refine (tt_f rfl).trans ?_
  refine (tt_al rfl).trans ?_
  refine (tt_f rfl).trans ?_
  refine (tt_af rfl).trans ?_
  refine (tt_f rfl).trans ?_
  refine (tt_il rfl).trans ?_
  refine (tt_f rfl).trans ?_
  refine tt_c.trans ?_
  refine (tt_f rfl).trans ?_
  refine tt_bi.trans ?_
  refine (tt_f rfl).trans ?_
  refine (tt_sg hi1).trans ?_
  refine (tt_f rfl).trans ?_
  refine (tt_af rfl).trans ?_
  refine (tt_f rfl).trans ?_
  refine (tt_il rfl).trans ?_
  refine (tt_f rfl).trans ?_
  refine tt_c.trans ?_
  refine (tt_f rfl).trans ?_
  refine tt_bi.trans ?_
  refine (tt_f rfl).trans ?_
  refine (tt_sg hi2).trans ?_
  refine (tt_f rfl).trans ?_
  refine (tt_af rfl).trans ?_
  refine (tt_f rfl).trans ?_
  refine (tt_il rfl).trans ?_
  refine (tt_f rfl).trans ?_
  refine tt_c.trans ?_
  refine (tt_f rfl).trans ?_
  refine tt_bi.trans ?_
  refine (tt_f rfl).trans ?_
  refine (tt_sg hi3).trans ?_
  refine (tt_f rfl).trans ?_
  refine (tt_af rfl).trans ?_
  refine (tt_f rfl).trans ?_
  refine (tt_il rfl).trans ?_
  refine (tt_f rfl).trans ?_
  refine tt_c.trans ?_
  refine (tt_f rfl).trans ?_
  refine tt_bi.trans ?_
  refine (tt_f rfl).trans ?_
  refine (tt_sg hi4).trans ?_
  exact tt_cv (As := [.int (S.2 (l3 + 1).toNatClampNeg), .int (S.2 (l3 + 2).toNatClampNeg), .int (S.2 (l3 + 3).toNatClampNeg), .int (S.2 (l3 + 4).toNatClampNeg)]) rfl hb.1 hb.2 rfl rfl rfl rfl rfl hq
set_option maxRecDepth 100000 in
theorem B0_637 {l3 : Int32} {t0 : Int32} {v5 : Int32} {I6 : zI} {J7 : zJ} (hb : Nat.ble k.1 (mBu 0).1 = true ∧ Nat.ble k.2 (mBu 0).2 = true) (hi1 : zin (l3 + 1) S.1 = true) (hi2 : zin (l3 + 2) S.1 = true) (hi3 : zin (l3 + 3) S.1 = true) (hi4 : zin (l3 + 4) S.1 = true) (hq : zq S 148 [.ref 76, .int (S.2 (l3 + 1).toNatClampNeg), .int (S.2 (l3 + 2).toNatClampNeg), .int (S.2 (l3 + 3).toNatClampNeg), .int (S.2 (l3 + 4).toNatClampNeg)] I J (some (.int v5)) I6 J7) : zd S 0 637 [some (.float 0), some (.ref 0), some (.ref 76), some (.int l3)] [.int t0] I J k = zd S 0 661 [some (.float 0), some (.ref 0), some (.ref 76), some (.int l3)] [.int v5, .int t0] I6 J7 k := by
  refine (tt_f rfl).trans ?_
  refine (tt_al rfl).trans ?_
  refine (tt_f rfl).trans ?_
  refine (tt_af rfl).trans ?_
  refine (tt_f rfl).trans ?_
  refine (tt_il rfl).trans ?_
  refine (tt_f rfl).trans ?_
  refine tt_c.trans ?_
  refine (tt_f rfl).trans ?_
  refine tt_bi.trans ?_
  refine (tt_f rfl).trans ?_
  refine (tt_sg hi1).trans ?_
  refine (tt_f rfl).trans ?_
  refine (tt_af rfl).trans ?_
  refine (tt_f rfl).trans ?_
  refine (tt_il rfl).trans ?_
  refine (tt_f rfl).trans ?_
  refine tt_c.trans ?_
  refine (tt_f rfl).trans ?_
  refine tt_bi.trans ?_
  refine (tt_f rfl).trans ?_
  refine (tt_sg hi2).trans ?_
  refine (tt_f rfl).trans ?_
  refine (tt_af rfl).trans ?_
  refine (tt_f rfl).trans ?_
  refine (tt_il rfl).trans ?_
  refine (tt_f rfl).trans ?_
  refine tt_c.trans ?_
  refine (tt_f rfl).trans ?_
  refine tt_bi.trans ?_
  refine (tt_f rfl).trans ?_
  refine (tt_sg hi3).trans ?_
  refine (tt_f rfl).trans ?_
  refine (tt_af rfl).trans ?_
  refine (tt_f rfl).trans ?_
  refine (tt_il rfl).trans ?_
  refine (tt_f rfl).trans ?_
  refine tt_c.trans ?_
  refine (tt_f rfl).trans ?_
  refine tt_bi.trans ?_
  refine (tt_f rfl).trans ?_
  refine (tt_sg hi4).trans ?_
  exact tt_cv (As := [.int (S.2 (l3 + 1).toNatClampNeg), .int (S.2 (l3 + 2).toNatClampNeg), .int (S.2 (l3 + 3).toNatClampNeg), .int (S.2 (l3 + 4).toNatClampNeg)]) rfl hb.1 hb.2 rfl rfl rfl rfl rfl hq
set_option maxRecDepth 100000 in
theorem B0_661 {l3 : Int32} {t0 : Int32} {t1 : Int32}  : zd S 0 661 [some (.float 0), some (.ref 0), some (.ref 76), some (.int l3)] [.int t1, .int t0] I J k = if t0 = t1 then zd S 0 666 [some (.float 0), some (.ref 0), some (.ref 76), some (.int l3)] [] I J k else zd S 0 664 [some (.float 0), some (.ref 0), some (.ref 76), some (.int l3)] [] I J k := by
  refine (tt_f rfl).trans ?_
  exact tt_f2 (p := fun x y => x = y) inferInstance rfl
set_option maxRecDepth 100000 in
theorem B0_664 {l3 : Int32} (hz : zrt 2 (.int 0) = true) : zd S 0 664 [some (.float 0), some (.ref 0), some (.ref 76), some (.int l3)] [] I J k = some ((some (.int 0)), mk I J, k) := by
  refine (tt_f rfl).trans ?_
  refine tt_c.trans ?_
  exact tt_r1 rfl hz
set_option maxRecDepth 100000 in
theorem B0_666 {l3 : Int32}  : zd S 0 666 [some (.float 0), some (.ref 0), some (.ref 76), some (.int l3)] [] I J k = zd S 0 48 [some (.float 0), some (.ref 0), some (.ref 76), some (.int (l3 + 6))] [] I J k := by
  refine (tt_fk rfl rfl).trans ?_
  refine (tt_in rfl rfl).trans ?_
  refine (tt_f rfl).trans ?_
  refine tt_go.trans ?_
  rfl
set_option maxRecDepth 100000 in
theorem B0_672 {l3 : Int32} (hz : zrt 2 (.int 1) = true) : zd S 0 672 [some (.float 0), some (.ref 0), some (.ref 76), some (.int l3)] [] I J k = some ((some (.int 1)), mk I J, k) := by
  refine (tt_f rfl).trans ?_
  refine tt_c.trans ?_
  exact tt_r1 rfl hz
end BL
