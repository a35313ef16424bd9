theorem d57_0 : decode (mB 57) 0 = .ok (.iconst 0, 1) := by decide +kernel
theorem d57_1 : decode (mB 57) 1 = .ok (.istore_n 3, 1) := by decide +kernel
theorem d57_2 : decode (mB 57) 2 = .ok (.iload_n 3, 1) := by decide +kernel
theorem d57_3 : decode (mB 57) 3 = .ok (.iload_n 2, 1) := by decide +kernel
theorem d57_4 : decode (mB 57) 4 = .ok (.if_icmp .ge 22, 3) := by decide +kernel
theorem d57_7 : decode (mB 57) 7 = .ok (.lload_n 0, 1) := by decide +kernel
theorem d57_8 : decode (mB 57) 8 = .ok (.iload_n 2, 1) := by decide +kernel
theorem d57_9 : decode (mB 57) 9 = .ok (.iload_n 3, 1) := by decide +kernel
theorem d57_10 : decode (mB 57) 10 = .ok (.invokestatic 63, 3) := by decide +kernel
theorem d57_13 : decode (mB 57) 13 = .ok (.bipush 9, 2) := by decide +kernel
theorem d57_15 : decode (mB 57) 15 = .ok (.if_icmp .le 5, 3) := by decide +kernel
theorem d57_18 : decode (mB 57) 18 = .ok (.iconst 0, 1) := by decide +kernel
theorem d57_19 : decode (mB 57) 19 = .ok (.ireturn, 1) := by decide +kernel
theorem d57_20 : decode (mB 57) 20 = .ok (.iinc 3 1, 3) := by decide +kernel
theorem d57_23 : decode (mB 57) 23 = .ok (.goto (-21), 3) := by decide +kernel
theorem d57_26 : decode (mB 57) 26 = .ok (.iconst 1, 1) := by decide +kernel
theorem d57_27 : decode (mB 57) 27 = .ok (.ireturn, 1) := by decide +kernel
theorem v57_0 (L : Nat) (xs : Nat → Int32) : zVal L xs 57 0 (.inl (i_c (.int 0) 1)) := zS_iconst d57_0 (by decide)
theorem v57_1 (L : Nat) (xs : Nat → Int32) : zVal L xs 57 1 (.inl (i_is 3 2)) := zS_istore_n d57_1 rfl
theorem v57_2 (L : Nat) (xs : Nat → Int32) : zVal L xs 57 2 (.inl (i_k [false, true, false, false] (i_il 3 3))) := zS_k (zS_iload_n d57_2 rfl)
theorem v57_3 (L : Nat) (xs : Nat → Int32) : zVal L xs 57 3 (.inl (i_il 2 4)) := zS_iload_n d57_3 rfl
theorem v57_4 (L : Nat) (xs : Nat → Int32) : zVal L xs 57 4 (.inl (i_f2 (fun x y => decide (y ≤ x)) 26 7)) := zS_icmp_ge d57_4 (by decide)
theorem v57_7 (L : Nat) (xs : Nat → Int32) : zVal L xs 57 7 (.inl (i_ll 0 8)) := zS_lload_n d57_7 rfl
theorem v57_8 (L : Nat) (xs : Nat → Int32) : zVal L xs 57 8 (.inl (i_il 2 9)) := zS_iload_n d57_8 rfl
theorem v57_9 (L : Nat) (xs : Nat → Int32) : zVal L xs 57 9 (.inl (i_il 3 10)) := zS_iload_n d57_9 rfl
theorem v57_10 (L : Nat) (xs : Nat → Int32) : zVal L xs 57 10 (.inr (.inl (21, 3, 0))) := ⟨by decide +kernel, by decide +kernel, zc_staticN (host := "EditionGrid") d57_10 w451 (by decide +kernel) w450 w73 ⟨by decide +kernel, by decide +kernel, by decide +kernel⟩ (by decide) (by decide)⟩
theorem v57_13 (L : Nat) (xs : Nat → Int32) : zVal L xs 57 13 (.inl (i_c (.int 9) 15)) := zS_bipush d57_13 (by decide)
theorem v57_15 (L : Nat) (xs : Nat → Int32) : zVal L xs 57 15 (.inl (i_f2 (fun x y => decide (x ≤ y)) 20 18)) := zS_icmp_le d57_15 (by decide)
theorem v57_18 (L : Nat) (xs : Nat → Int32) : zVal L xs 57 18 (.inl (i_c (.int 0) 19)) := zS_iconst d57_18 (by decide)
theorem v57_19 (L : Nat) (xs : Nat → Int32) : zVal L xs 57 19 (.inr (.inr 2)) := zr_2 d57_19 rfl
theorem v57_20 (L : Nat) (xs : Nat → Int32) : zVal L xs 57 20 (.inl (i_in 3 1 23)) := zS_iinc d57_20 (by decide)
theorem v57_23 (L : Nat) (xs : Nat → Int32) : zVal L xs 57 23 (.inl (i_go 2)) := zS_goto d57_23 (by decide)
theorem v57_26 (L : Nat) (xs : Nat → Int32) : zVal L xs 57 26 (.inl (i_c (.int 1) 27)) := zS_iconst d57_26 (by decide)
theorem v57_27 (L : Nat) (xs : Nat → Int32) : zVal L xs 57 27 (.inr (.inr 2)) := zr_2 d57_27 rfl
theorem vt57 (L : Nat) (xs : Nat → Int32) : zAll (fun x => zVal L xs 57 x.1 x.2) (tb57) := ⟨v57_0 L xs, v57_1 L xs, v57_2 L xs, v57_3 L xs, v57_4 L xs, v57_7 L xs, v57_8 L xs, v57_9 L xs, v57_10 L xs, v57_13 L xs, v57_15 L xs, v57_18 L xs, v57_19 L xs, v57_20 L xs, v57_23 L xs, v57_26 L xs, v57_27 L xs, trivial⟩
theorem d58_0 : decode (mB 58) 0 = .ok (.lconst 1, 1) := by decide +kernel
theorem d58_1 : decode (mB 58) 1 = .ok (.bipush 8, 2) := by decide +kernel
theorem d58_3 : decode (mB 58) 3 = .ok (.iload_n 0, 1) := by decide +kernel
theorem d58_4 : decode (mB 58) 4 = .ok (.imul, 1) := by decide +kernel
theorem d58_5 : decode (mB 58) 5 = .ok (.lshl, 1) := by decide +kernel
theorem d58_6 : decode (mB 58) 6 = .ok (.lconst 1, 1) := by decide +kernel
theorem d58_7 : decode (mB 58) 7 = .ok (.lsub, 1) := by decide +kernel
theorem d58_8 : decode (mB 58) 8 = .ok (.lreturn, 1) := by decide +kernel
theorem v58_0 (L : Nat) (xs : Nat → Int32) : zVal L xs 58 0 (.inl (i_c (.long 1) 1)) := zS_lconst d58_0 (by decide)
theorem v58_1 (L : Nat) (xs : Nat → Int32) : zVal L xs 58 1 (.inl (i_c (.int 8) 3)) := zS_bipush d58_1 (by decide)
theorem v58_3 (L : Nat) (xs : Nat → Int32) : zVal L xs 58 3 (.inl (i_il 0 4)) := zS_iload_n d58_3 rfl
theorem v58_4 (L : Nat) (xs : Nat → Int32) : zVal L xs 58 4 (.inl (i_bi (fun x y => x * y) 5)) := zS_imul d58_4
theorem v58_5 (L : Nat) (xs : Nat → Int32) : zVal L xs 58 5 (.inl (i_sl (fun x y => x <<< (y.toInt64 &&& 63)) 6)) := zS_lshl d58_5
theorem v58_6 (L : Nat) (xs : Nat → Int32) : zVal L xs 58 6 (.inl (i_c (.long 1) 7)) := zS_lconst d58_6 (by decide)
theorem v58_7 (L : Nat) (xs : Nat → Int32) : zVal L xs 58 7 (.inl (i_bl (fun x y => x - y) 8)) := zS_lsub d58_7
theorem v58_8 (L : Nat) (xs : Nat → Int32) : zVal L xs 58 8 (.inr (.inr 3)) := zr_3 d58_8 rfl
theorem vt58 (L : Nat) (xs : Nat → Int32) : zAll (fun x => zVal L xs 58 x.1 x.2) (tb58) := ⟨v58_0 L xs, v58_1 L xs, v58_3 L xs, v58_4 L xs, v58_5 L xs, v58_6 L xs, v58_7 L xs, v58_8 L xs, trivial⟩
theorem d59_0 : decode (mB 59) 0 = .ok (.aload_n 0, 1) := by decide +kernel
theorem d59_1 : decode (mB 59) 1 = .ok (.invokespecial 3, 3) := by decide +kernel
theorem d59_4 : decode (mB 59) 4 = .ok (.aload_n 0, 1) := by decide +kernel
theorem d59_5 : decode (mB 59) 5 = .ok (.new 9, 3) := by decide +kernel
theorem d59_8 : decode (mB 59) 8 = .ok (.dup, 1) := by decide +kernel
theorem d59_9 : decode (mB 59) 9 = .ok (.invokespecial 11, 3) := by decide +kernel
theorem d59_12 : decode (mB 59) 12 = .ok (.putfield 12, 3) := by decide +kernel
theorem d59_15 : decode (mB 59) 15 = .ok (.aload_n 0, 1) := by decide +kernel
theorem d59_16 : decode (mB 59) 16 = .ok (.iconst 5, 1) := by decide +kernel
theorem d59_17 : decode (mB 59) 17 = .ok (.newarray .int, 2) := by decide +kernel
theorem d59_19 : decode (mB 59) 19 = .ok (.putfield 18, 3) := by decide +kernel
theorem d59_22 : decode (mB 59) 22 = .ok (.aload_n 0, 1) := by decide +kernel
theorem d59_23 : decode (mB 59) 23 = .ok (.new 22, 3) := by decide +kernel
theorem d59_26 : decode (mB 59) 26 = .ok (.dup, 1) := by decide +kernel
theorem d59_27 : decode (mB 59) 27 = .ok (.iload_n 1, 1) := by decide +kernel
theorem d59_28 : decode (mB 59) 28 = .ok (.iload_n 2, 1) := by decide +kernel
theorem d59_29 : decode (mB 59) 29 = .ok (.invokespecial 24, 3) := by decide +kernel
theorem d59_32 : decode (mB 59) 32 = .ok (.putfield 27, 3) := by decide +kernel
theorem d59_35 : decode (mB 59) 35 = .ok (.return_, 1) := by decide +kernel
theorem v59_0 (L : Nat) (xs : Nat → Int32) : zVal L xs 59 0 (.inl (i_al 0 1)) := zS_aload_n d59_0 rfl
theorem v59_1 (L : Nat) (xs : Nat → Int32) : zVal L xs 59 1 (.inl (i_oi 4)) := zS_oinit d59_1 w329 w93 w94 (by decide)
theorem v59_4 (L : Nat) (xs : Nat → Int32) : zVal L xs 59 4 (.inl (i_al 0 5)) := zS_aload_n d59_4 rfl
theorem v59_5 (L : Nat) (xs : Nat → Int32) : zVal L xs 59 5 (.inl (i_nw (7, 225) 2 3 [.null, .null, .int 0] 8)) := zS_new (ty := cY2) d59_5 zcl2 zi2 zy2 w330 w331 w81 (by decide +kernel) (fun _ _ => rfl)
theorem v59_8 (L : Nat) (xs : Nat → Int32) : zVal L xs 59 8 (.inl (i_dup 9)) := zS_dup d59_8
theorem v59_9 (L : Nat) (xs : Nat → Int32) : zVal L xs 59 9 (.inr (.inl (33, 1, 3))) := ⟨by decide +kernel, by decide +kernel, zc_initN (host := "EditionGrid") (T := cT0) (C := "") (N := 0) d59_9 rfl w334 (by decide +kernel) w333 w81 rfl ⟨by decide +kernel, by decide +kernel, by decide +kernel⟩ (by decide) (by decide)⟩
theorem v59_12 (L : Nat) (xs : Nat → Int32) : zVal L xs 59 12 (.inl (i_pf 6 1 okR 15)) := zS_putfF (ty := .object "EditionGrid$Columns") d59_12 (zcl6) (by decide) zi6 w369 zy6 zn6 (by decide +kernel) (by decide +kernel) (by decide +kernel) (by decide +kernel) (okR_ok "EditionGrid$Columns")
theorem v59_15 (L : Nat) (xs : Nat → Int32) : zVal L xs 59 15 (.inl (i_al 0 16)) := zS_aload_n d59_15 rfl
theorem v59_16 (L : Nat) (xs : Nat → Int32) : zVal L xs 59 16 (.inl (i_c (.int 5) 17)) := zS_iconst d59_16 (by decide)
theorem v59_17 (L : Nat) (xs : Nat → Int32) : zVal L xs 59 17 (.inl (i_na (7, 225) 0 (.inl (fun _ => 0)) 19)) := zS_newa (ty := .int) d59_17 w150 rfl (by decide) (fun _ => rfl) (fun _ => rfl) (fun _ _ => rfl) (fun _ _ h => h)
theorem v59_19 (L : Nat) (xs : Nat → Int32) : zVal L xs 59 19 (.inl (i_pf 6 2 okR 22)) := zS_putfF (ty := .array .int) d59_19 (zcl6) (by decide) zi6 w370 zy6 zn6 (by decide +kernel) (by decide +kernel) (by decide +kernel) (by decide +kernel) (okA_ok (.int))
theorem v59_22 (L : Nat) (xs : Nat → Int32) : zVal L xs 59 22 (.inl (i_al 0 23)) := zS_aload_n d59_22 rfl
theorem v59_23 (L : Nat) (xs : Nat → Int32) : zVal L xs 59 23 (.inl (i_nw (7, 225) 8 4 [.int 0, .int 0, .null, .null] 26)) := zS_new (ty := cY8) d59_23 zcl8 zi8 zy8 w346 w347 w82 (by decide +kernel) (fun _ _ => rfl)
theorem v59_26 (L : Nat) (xs : Nat → Int32) : zVal L xs 59 26 (.inl (i_dup 27)) := zS_dup d59_26
theorem v59_27 (L : Nat) (xs : Nat → Int32) : zVal L xs 59 27 (.inl (i_il 1 28)) := zS_iload_n d59_27 rfl
theorem v59_28 (L : Nat) (xs : Nat → Int32) : zVal L xs 59 28 (.inl (i_il 2 29)) := zS_iload_n d59_28 rfl
theorem v59_29 (L : Nat) (xs : Nat → Int32) : zVal L xs 59 29 (.inr (.inl (80, 3, 9))) := ⟨by decide +kernel, by decide +kernel, zc_init (T := cT0) (C := "") (N := 0) d59_29 rfl w350 w348 w349 w82 rfl ⟨by decide +kernel, by decide +kernel, by decide +kernel⟩ (by decide) (by decide)⟩
theorem v59_32 (L : Nat) (xs : Nat → Int32) : zVal L xs 59 32 (.inl (i_pf 6 0 okR 35)) := zS_putfF (ty := .object "EditionGrid$Sheets") d59_32 (zcl6) (by decide) zi6 w367 zy6 zn6 (by decide +kernel) (by decide +kernel) (by decide +kernel) (by decide +kernel) (okR_ok "EditionGrid$Sheets")
theorem v59_35 (L : Nat) (xs : Nat → Int32) : zVal L xs 59 35 (.inr (.inr 0)) := zr_0 d59_35 rfl
theorem vt59 (L : Nat) (xs : Nat → Int32) : zAll (fun x => zVal L xs 59 x.1 x.2) (tb59) := ⟨v59_0 L xs, v59_1 L xs, v59_4 L xs, v59_5 L xs, v59_8 L xs, v59_9 L xs, v59_12 L xs, v59_15 L xs, v59_16 L xs, v59_17 L xs, v59_19 L xs, v59_22 L xs, v59_23 L xs, v59_26 L xs, v59_27 L xs, v59_28 L xs, v59_29 L xs, v59_32 L xs, v59_35 L xs, trivial⟩
theorem d60_0 : decode (mB 60) 0 = .ok (.aload_n 1, 1) := by decide +kernel
theorem d60_1 : decode (mB 60) 1 = .ok (.getfield 31, 3) := by decide +kernel
theorem d60_4 : decode (mB 60) 4 = .ok (.iconst 1, 1) := by decide +kernel
theorem d60_5 : decode (mB 60) 5 = .ok (.if_icmp .ne 4, 3) := by decide +kernel
theorem d60_8 : decode (mB 60) 8 = .ok (.return_, 1) := by decide +kernel
theorem d60_9 : decode (mB 60) 9 = .ok (.aload_n 1, 1) := by decide +kernel
theorem d60_10 : decode (mB 60) 10 = .ok (.getfield 37, 3) := by decide +kernel
theorem d60_13 : decode (mB 60) 13 = .ok (.ifCond .eq 12, 3) := by decide +kernel
theorem d60_16 : decode (mB 60) 16 = .ok (.aload_n 1, 1) := by decide +kernel
theorem d60_17 : decode (mB 60) 17 = .ok (.getfield 37, 3) := by decide +kernel
theorem d60_20 : decode (mB 60) 20 = .ok (.bipush 40, 2) := by decide +kernel
theorem d60_22 : decode (mB 60) 22 = .ok (.if_icmp .le 11, 3) := by decide +kernel
theorem d60_25 : decode (mB 60) 25 = .ok (.aload_n 1, 1) := by decide +kernel
theorem d60_26 : decode (mB 60) 26 = .ok (.iconst 2, 1) := by decide +kernel
theorem d60_27 : decode (mB 60) 27 = .ok (.putfield 31, 3) := by decide +kernel
theorem d60_30 : decode (mB 60) 30 = .ok (.goto 59, 3) := by decide +kernel
theorem d60_33 : decode (mB 60) 33 = .ok (.aload_n 0, 1) := by decide +kernel
theorem d60_34 : decode (mB 60) 34 = .ok (.aload_n 1, 1) := by decide +kernel
theorem d60_35 : decode (mB 60) 35 = .ok (.iconst 0, 1) := by decide +kernel
theorem d60_36 : decode (mB 60) 36 = .ok (.iconst 0, 1) := by decide +kernel
theorem d60_37 : decode (mB 60) 37 = .ok (.invokevirtual 40, 3) := by decide +kernel
theorem d60_40 : decode (mB 60) 40 = .ok (.ifCond .eq 17, 3) := by decide +kernel
theorem d60_43 : decode (mB 60) 43 = .ok (.aload_n 1, 1) := by decide +kernel
theorem d60_44 : decode (mB 60) 44 = .ok (.iconst 1, 1) := by decide +kernel
theorem d60_45 : decode (mB 60) 45 = .ok (.putfield 44, 3) := by decide +kernel
theorem d60_48 : decode (mB 60) 48 = .ok (.aload_n 0, 1) := by decide +kernel
theorem d60_49 : decode (mB 60) 49 = .ok (.aload_n 1, 1) := by decide +kernel
theorem d60_50 : decode (mB 60) 50 = .ok (.iconst 0, 1) := by decide +kernel
theorem d60_51 : decode (mB 60) 51 = .ok (.invokevirtual 47, 3) := by decide +kernel
theorem d60_54 : decode (mB 60) 54 = .ok (.goto 35, 3) := by decide +kernel
theorem d60_57 : decode (mB 60) 57 = .ok (.aload_n 0, 1) := by decide +kernel
theorem d60_58 : decode (mB 60) 58 = .ok (.aload_n 1, 1) := by decide +kernel
theorem d60_59 : decode (mB 60) 59 = .ok (.invokevirtual 51, 3) := by decide +kernel
theorem d60_62 : decode (mB 60) 62 = .ok (.ifCond .eq 22, 3) := by decide +kernel
theorem d60_65 : decode (mB 60) 65 = .ok (.aload_n 1, 1) := by decide +kernel
theorem d60_66 : decode (mB 60) 66 = .ok (.iconst 2, 1) := by decide +kernel
theorem d60_67 : decode (mB 60) 67 = .ok (.putfield 44, 3) := by decide +kernel
theorem d60_70 : decode (mB 60) 70 = .ok (.aload_n 0, 1) := by decide +kernel
theorem d60_71 : decode (mB 60) 71 = .ok (.aload_n 1, 1) := by decide +kernel
theorem d60_72 : decode (mB 60) 72 = .ok (.iconst 1, 1) := by decide +kernel
theorem d60_73 : decode (mB 60) 73 = .ok (.invokevirtual 47, 3) := by decide +kernel
theorem d60_76 : decode (mB 60) 76 = .ok (.aload_n 0, 1) := by decide +kernel
theorem d60_77 : decode (mB 60) 77 = .ok (.aload_n 1, 1) := by decide +kernel
theorem d60_78 : decode (mB 60) 78 = .ok (.invokevirtual 55, 3) := by decide +kernel
theorem d60_81 : decode (mB 60) 81 = .ok (.goto 8, 3) := by decide +kernel
theorem d60_84 : decode (mB 60) 84 = .ok (.aload_n 1, 1) := by decide +kernel
theorem d60_85 : decode (mB 60) 85 = .ok (.iconst 3, 1) := by decide +kernel
theorem d60_86 : decode (mB 60) 86 = .ok (.putfield 31, 3) := by decide +kernel
theorem d60_89 : decode (mB 60) 89 = .ok (.return_, 1) := by decide +kernel
theorem v60_0 (L : Nat) (xs : Nat → Int32) : zVal L xs 60 0 (.inl (i_al 1 1)) := zS_aload_n d60_0 rfl
theorem v60_1 (L : Nat) (xs : Nat → Int32) : zVal L xs 60 1 (.inl (i_gf 9 14 4)) := zS_getfN (host := "EditionGrid") d60_1 (zcl9) (by decide) zi9 (by decide +kernel)
theorem v60_4 (L : Nat) (xs : Nat → Int32) : zVal L xs 60 4 (.inl (i_c (.int 1) 5)) := zS_iconst d60_4 (by decide)
theorem v60_5 (L : Nat) (xs : Nat → Int32) : zVal L xs 60 5 (.inl (i_f2 (fun x y => decide (¬ x = y)) 9 8)) := zS_icmp_ne d60_5 (by decide)
theorem v60_8 (L : Nat) (xs : Nat → Int32) : zVal L xs 60 8 (.inr (.inr 0)) := zr_0 d60_8 rfl
theorem v60_9 (L : Nat) (xs : Nat → Int32) : zVal L xs 60 9 (.inl (i_al 1 10)) := zS_aload_n d60_9 rfl
theorem v60_10 (L : Nat) (xs : Nat → Int32) : zVal L xs 60 10 (.inl (i_gf 9 15 13)) := zS_getfN (host := "EditionGrid") d60_10 (zcl9) (by decide) zi9 (by decide +kernel)
theorem v60_13 (L : Nat) (xs : Nat → Int32) : zVal L xs 60 13 (.inl (i_f1 (fun x => decide (x = 0)) 25 16)) := zS_if_eq d60_13 (by decide)
theorem v60_16 (L : Nat) (xs : Nat → Int32) : zVal L xs 60 16 (.inl (i_al 1 17)) := zS_aload_n d60_16 rfl
theorem v60_17 (L : Nat) (xs : Nat → Int32) : zVal L xs 60 17 (.inl (i_gf 9 15 20)) := zS_getfN (host := "EditionGrid") d60_17 (zcl9) (by decide) zi9 (by decide +kernel)
theorem v60_20 (L : Nat) (xs : Nat → Int32) : zVal L xs 60 20 (.inl (i_c (.int 40) 22)) := zS_bipush d60_20 (by decide)
theorem v60_22 (L : Nat) (xs : Nat → Int32) : zVal L xs 60 22 (.inl (i_f2 (fun x y => decide (x ≤ y)) 33 25)) := zS_icmp_le d60_22 (by decide)
theorem v60_25 (L : Nat) (xs : Nat → Int32) : zVal L xs 60 25 (.inl (i_k [true, false] (i_al 1 26))) := zS_k (zS_aload_n d60_25 rfl)
theorem v60_26 (L : Nat) (xs : Nat → Int32) : zVal L xs 60 26 (.inl (i_c (.int 2) 27)) := zS_iconst d60_26 (by decide)
theorem v60_27 (L : Nat) (xs : Nat → Int32) : zVal L xs 60 27 (.inl (i_pf 9 14 okI 30)) := zS_putfN (host := "EditionGrid") (ty := .int) d60_27 (zcl9) (by decide) zi9 (by decide +kernel) zy9 zn9 (by decide +kernel) (by decide +kernel) okI_ok
theorem v60_30 (L : Nat) (xs : Nat → Int32) : zVal L xs 60 30 (.inl (i_go 89)) := zS_goto d60_30 (by decide)
theorem v60_33 (L : Nat) (xs : Nat → Int32) : zVal L xs 60 33 (.inl (i_al 0 34)) := zS_aload_n d60_33 rfl
theorem v60_34 (L : Nat) (xs : Nat → Int32) : zVal L xs 60 34 (.inl (i_al 1 35)) := zS_aload_n d60_34 rfl
theorem v60_35 (L : Nat) (xs : Nat → Int32) : zVal L xs 60 35 (.inl (i_c (.int 0) 36)) := zS_iconst d60_35 (by decide)
theorem v60_36 (L : Nat) (xs : Nat → Int32) : zVal L xs 60 36 (.inl (i_c (.int 0) 37)) := zS_iconst d60_36 (by decide)
theorem v60_37 (L : Nat) (xs : Nat → Int32) : zVal L xs 60 37 (.inr (.inl (61, 4, 7))) := ⟨by decide +kernel, by decide +kernel, zc_virt d60_37 zcl6 w614 w611 w613 w17 w80 ⟨by decide +kernel, by decide +kernel, by decide +kernel⟩ (by decide) (by decide)⟩
theorem v60_40 (L : Nat) (xs : Nat → Int32) : zVal L xs 60 40 (.inl (i_f1 (fun x => decide (x = 0)) 57 43)) := zS_if_eq d60_40 (by decide)
theorem v60_43 (L : Nat) (xs : Nat → Int32) : zVal L xs 60 43 (.inl (i_al 1 44)) := zS_aload_n d60_43 rfl
theorem v60_44 (L : Nat) (xs : Nat → Int32) : zVal L xs 60 44 (.inl (i_c (.int 1) 45)) := zS_iconst d60_44 (by decide)
theorem v60_45 (L : Nat) (xs : Nat → Int32) : zVal L xs 60 45 (.inl (i_pf 9 16 okI 48)) := zS_putfN (host := "EditionGrid") (ty := .int) d60_45 (zcl9) (by decide) zi9 (by decide +kernel) zy9 zn9 (by decide +kernel) (by decide +kernel) okI_ok
theorem v60_48 (L : Nat) (xs : Nat → Int32) : zVal L xs 60 48 (.inl (i_al 0 49)) := zS_aload_n d60_48 rfl
theorem v60_49 (L : Nat) (xs : Nat → Int32) : zVal L xs 60 49 (.inl (i_al 1 50)) := zS_aload_n d60_49 rfl
theorem v60_50 (L : Nat) (xs : Nat → Int32) : zVal L xs 60 50 (.inl (i_c (.int 0) 51)) := zS_iconst d60_50 (by decide)
theorem v60_51 (L : Nat) (xs : Nat → Int32) : zVal L xs 60 51 (.inr (.inl (66, 3, 7))) := ⟨by decide +kernel, by decide +kernel, zc_virt d60_51 zcl6 w652 w649 w651 w20 w80 ⟨by decide +kernel, by decide +kernel, by decide +kernel⟩ (by decide) (by decide)⟩
theorem v60_54 (L : Nat) (xs : Nat → Int32) : zVal L xs 60 54 (.inl (i_go 89)) := zS_goto d60_54 (by decide)
theorem v60_57 (L : Nat) (xs : Nat → Int32) : zVal L xs 60 57 (.inl (i_al 0 58)) := zS_aload_n d60_57 rfl
theorem v60_58 (L : Nat) (xs : Nat → Int32) : zVal L xs 60 58 (.inl (i_al 1 59)) := zS_aload_n d60_58 rfl
theorem v60_59 (L : Nat) (xs : Nat → Int32) : zVal L xs 60 59 (.inr (.inl (63, 2, 7))) := ⟨by decide +kernel, by decide +kernel, zc_virt d60_59 zcl6 w682 w679 w681 w25 w80 ⟨by decide +kernel, by decide +kernel, by decide +kernel⟩ (by decide) (by decide)⟩
theorem v60_62 (L : Nat) (xs : Nat → Int32) : zVal L xs 60 62 (.inl (i_f1 (fun x => decide (x = 0)) 84 65)) := zS_if_eq d60_62 (by decide)
theorem v60_65 (L : Nat) (xs : Nat → Int32) : zVal L xs 60 65 (.inl (i_al 1 66)) := zS_aload_n d60_65 rfl
theorem v60_66 (L : Nat) (xs : Nat → Int32) : zVal L xs 60 66 (.inl (i_c (.int 2) 67)) := zS_iconst d60_66 (by decide)
theorem v60_67 (L : Nat) (xs : Nat → Int32) : zVal L xs 60 67 (.inl (i_pf 9 16 okI 70)) := zS_putfN (host := "EditionGrid") (ty := .int) d60_67 (zcl9) (by decide) zi9 (by decide +kernel) zy9 zn9 (by decide +kernel) (by decide +kernel) okI_ok
theorem v60_70 (L : Nat) (xs : Nat → Int32) : zVal L xs 60 70 (.inl (i_al 0 71)) := zS_aload_n d60_70 rfl
theorem v60_71 (L : Nat) (xs : Nat → Int32) : zVal L xs 60 71 (.inl (i_al 1 72)) := zS_aload_n d60_71 rfl
theorem v60_72 (L : Nat) (xs : Nat → Int32) : zVal L xs 60 72 (.inl (i_c (.int 1) 73)) := zS_iconst d60_72 (by decide)
theorem v60_73 (L : Nat) (xs : Nat → Int32) : zVal L xs 60 73 (.inr (.inl (66, 3, 7))) := ⟨by decide +kernel, by decide +kernel, zc_virt d60_73 zcl6 w652 w649 w651 w20 w80 ⟨by decide +kernel, by decide +kernel, by decide +kernel⟩ (by decide) (by decide)⟩
theorem v60_76 (L : Nat) (xs : Nat → Int32) : zVal L xs 60 76 (.inl (i_al 0 77)) := zS_aload_n d60_76 rfl
theorem v60_77 (L : Nat) (xs : Nat → Int32) : zVal L xs 60 77 (.inl (i_al 1 78)) := zS_aload_n d60_77 rfl
theorem v60_78 (L : Nat) (xs : Nat → Int32) : zVal L xs 60 78 (.inr (.inl (67, 2, 7))) := ⟨by decide +kernel, by decide +kernel, zc_virt d60_78 zcl6 w700 w697 w699 w28 w80 ⟨by decide +kernel, by decide +kernel, by decide +kernel⟩ (by decide) (by decide)⟩
theorem v60_81 (L : Nat) (xs : Nat → Int32) : zVal L xs 60 81 (.inl (i_go 89)) := zS_goto d60_81 (by decide)
theorem v60_84 (L : Nat) (xs : Nat → Int32) : zVal L xs 60 84 (.inl (i_al 1 85)) := zS_aload_n d60_84 rfl
theorem v60_85 (L : Nat) (xs : Nat → Int32) : zVal L xs 60 85 (.inl (i_c (.int 3) 86)) := zS_iconst d60_85 (by decide)
theorem v60_86 (L : Nat) (xs : Nat → Int32) : zVal L xs 60 86 (.inl (i_pf 9 14 okI 89)) := zS_putfN (host := "EditionGrid") (ty := .int) d60_86 (zcl9) (by decide) zi9 (by decide +kernel) zy9 zn9 (by decide +kernel) (by decide +kernel) okI_ok
theorem v60_89 (L : Nat) (xs : Nat → Int32) : zVal L xs 60 89 (.inr (.inr 0)) := zr_0 d60_89 rfl
theorem vt60 (L : Nat) (xs : Nat → Int32) : zAll (fun x => zVal L xs 60 x.1 x.2) (tb60) := ⟨v60_0 L xs, v60_1 L xs, v60_4 L xs, v60_5 L xs, v60_8 L xs, v60_9 L xs, v60_10 L xs, v60_13 L xs, v60_16 L xs, v60_17 L xs, v60_20 L xs, v60_22 L xs, v60_25 L xs, v60_26 L xs, v60_27 L xs, v60_30 L xs, v60_33 L xs, v60_34 L xs, v60_35 L xs, v60_36 L xs, v60_37 L xs, v60_40 L xs, v60_43 L xs, v60_44 L xs, v60_45 L xs, v60_48 L xs, v60_49 L xs, v60_50 L xs, v60_51 L xs, v60_54 L xs, v60_57 L xs, v60_58 L xs, v60_59 L xs, v60_62 L xs, v60_65 L xs, v60_66 L xs, v60_67 L xs, v60_70 L xs, v60_71 L xs, v60_72 L xs, v60_73 L xs, v60_76 L xs, v60_77 L xs, v60_78 L xs, v60_81 L xs, v60_84 L xs, v60_85 L xs, v60_86 L xs, v60_89 L xs, trivial⟩
theorem d61_0 : decode (mB 61) 0 = .ok (.aload_n 1, 1) := by decide +kernel
theorem d61_1 : decode (mB 61) 1 = .ok (.getfield 59, 3) := by decide +kernel
theorem d61_4 : decode (mB 61) 4 = .ok (.iload_n 2, 1) := by decide +kernel
theorem d61_5 : decode (mB 61) 5 = .ok (.ifCond .ne 7, 3) := by decide +kernel
theorem d61_8 : decode (mB 61) 8 = .ok (.iconst 0, 1) := by decide +kernel
theorem d61_9 : decode (mB 61) 9 = .ok (.goto 4, 3) := by decide +kernel
theorem d61_12 : decode (mB 61) 12 = .ok (.iconst 1, 1) := by decide +kernel
theorem d61_13 : decode (mB 61) 13 = .ok (.aaload, 1) := by decide +kernel
theorem d61_14 : decode (mB 61) 14 = .ok (.astore 4, 2) := by decide +kernel
theorem d61_16 : decode (mB 61) 16 = .ok (.iconst 1, 1) := by decide +kernel
theorem d61_17 : decode (mB 61) 17 = .ok (.istore 5, 2) := by decide +kernel
theorem d61_19 : decode (mB 61) 19 = .ok (.iload 5, 2) := by decide +kernel
theorem d61_21 : decode (mB 61) 21 = .ok (.aload_n 0, 1) := by decide +kernel
theorem d61_22 : decode (mB 61) 22 = .ok (.getfield 27, 3) := by decide +kernel
theorem d61_25 : decode (mB 61) 25 = .ok (.getfield 63, 3) := by decide +kernel
theorem d61_28 : decode (mB 61) 28 = .ok (.if_icmp .gt 24, 3) := by decide +kernel
theorem d61_31 : decode (mB 61) 31 = .ok (.aload_n 0, 1) := by decide +kernel
theorem d61_32 : decode (mB 61) 32 = .ok (.getfield 18, 3) := by decide +kernel
theorem d61_35 : decode (mB 61) 35 = .ok (.iload 5, 2) := by decide +kernel
theorem d61_37 : decode (mB 61) 37 = .ok (.aload_n 0, 1) := by decide +kernel
theorem d61_38 : decode (mB 61) 38 = .ok (.aload_n 1, 1) := by decide +kernel
theorem d61_39 : decode (mB 61) 39 = .ok (.iload_n 2, 1) := by decide +kernel
theorem d61_40 : decode (mB 61) 40 = .ok (.iload 5, 2) := by decide +kernel
theorem d61_42 : decode (mB 61) 42 = .ok (.invokevirtual 65, 3) := by decide +kernel
theorem d61_45 : decode (mB 61) 45 = .ok (.iastore, 1) := by decide +kernel
theorem d61_46 : decode (mB 61) 46 = .ok (.iinc 5 1, 3) := by decide +kernel
theorem d61_49 : decode (mB 61) 49 = .ok (.goto (-30), 3) := by decide +kernel
theorem d61_52 : decode (mB 61) 52 = .ok (.iload_n 3, 1) := by decide +kernel
theorem d61_53 : decode (mB 61) 53 = .ok (.istore 5, 2) := by decide +kernel
theorem d61_55 : decode (mB 61) 55 = .ok (.iload 5, 2) := by decide +kernel
theorem d61_57 : decode (mB 61) 57 = .ok (.iconst 3, 1) := by decide +kernel
theorem d61_58 : decode (mB 61) 58 = .ok (.if_icmp .ge 76, 3) := by decide +kernel
theorem d61_61 : decode (mB 61) 61 = .ok (.aload_n 0, 1) := by decide +kernel
theorem d61_62 : decode (mB 61) 62 = .ok (.getfield 27, 3) := by decide +kernel
theorem d61_65 : decode (mB 61) 65 = .ok (.getfield 63, 3) := by decide +kernel
theorem d61_68 : decode (mB 61) 68 = .ok (.istore 6, 2) := by decide +kernel
theorem d61_70 : decode (mB 61) 70 = .ok (.iload 6, 2) := by decide +kernel
theorem d61_72 : decode (mB 61) 72 = .ok (.iconst 1, 1) := by decide +kernel
theorem d61_73 : decode (mB 61) 73 = .ok (.if_icmp .lt 55, 3) := by decide +kernel
theorem d61_76 : decode (mB 61) 76 = .ok (.aload_n 0, 1) := by decide +kernel
theorem d61_77 : decode (mB 61) 77 = .ok (.getfield 18, 3) := by decide +kernel
theorem d61_80 : decode (mB 61) 80 = .ok (.iload 6, 2) := by decide +kernel
theorem d61_82 : decode (mB 61) 82 = .ok (.iaload, 1) := by decide +kernel
theorem d61_83 : decode (mB 61) 83 = .ok (.iconst (-1), 1) := by decide +kernel
theorem d61_84 : decode (mB 61) 84 = .ok (.if_icmp .eq 38, 3) := by decide +kernel
theorem d61_87 : decode (mB 61) 87 = .ok (.aload_n 0, 1) := by decide +kernel
theorem d61_88 : decode (mB 61) 88 = .ok (.getfield 27, 3) := by decide +kernel
theorem d61_91 : decode (mB 61) 91 = .ok (.aload 4, 2) := by decide +kernel
theorem d61_93 : decode (mB 61) 93 = .ok (.iload 5, 2) := by decide +kernel
theorem d61_95 : decode (mB 61) 95 = .ok (.iload 6, 2) := by decide +kernel
theorem d61_97 : decode (mB 61) 97 = .ok (.aload_n 0, 1) := by decide +kernel
theorem d61_98 : decode (mB 61) 98 = .ok (.getfield 18, 3) := by decide +kernel
theorem d61_101 : decode (mB 61) 101 = .ok (.iload 6, 2) := by decide +kernel
theorem d61_103 : decode (mB 61) 103 = .ok (.iaload, 1) := by decide +kernel
theorem d61_104 : decode (mB 61) 104 = .ok (.invokevirtual 69, 3) := by decide +kernel
theorem d61_107 : decode (mB 61) 107 = .ok (.ifCond .eq 15, 3) := by decide +kernel
theorem d61_110 : decode (mB 61) 110 = .ok (.aload 4, 2) := by decide +kernel
theorem d61_112 : decode (mB 61) 112 = .ok (.iload_n 2, 1) := by decide +kernel
theorem d61_113 : decode (mB 61) 113 = .ok (.aload_n 1, 1) := by decide +kernel
theorem d61_114 : decode (mB 61) 114 = .ok (.getfield 37, 3) := by decide +kernel
theorem d61_117 : decode (mB 61) 117 = .ok (.invokevirtual 73, 3) := by decide +kernel
theorem d61_120 : decode (mB 61) 120 = .ok (.iconst 1, 1) := by decide +kernel
theorem d61_121 : decode (mB 61) 121 = .ok (.ireturn, 1) := by decide +kernel
theorem d61_122 : decode (mB 61) 122 = .ok (.iinc 6 (-1), 3) := by decide +kernel
theorem d61_125 : decode (mB 61) 125 = .ok (.goto (-55), 3) := by decide +kernel
theorem d61_128 : decode (mB 61) 128 = .ok (.iinc 5 1, 3) := by decide +kernel
theorem d61_131 : decode (mB 61) 131 = .ok (.goto (-76), 3) := by decide +kernel
theorem d61_134 : decode (mB 61) 134 = .ok (.iconst 0, 1) := by decide +kernel
theorem d61_135 : decode (mB 61) 135 = .ok (.ireturn, 1) := by decide +kernel
theorem v61_0 (L : Nat) (xs : Nat → Int32) : zVal L xs 61 0 (.inl (i_al 1 1)) := zS_aload_n d61_0 rfl
theorem v61_1 (L : Nat) (xs : Nat → Int32) : zVal L xs 61 1 (.inl (i_gf 9 7 4)) := zS_getfN (host := "EditionGrid") d61_1 (zcl9) (by decide) zi9 (by decide +kernel)
theorem v61_4 (L : Nat) (xs : Nat → Int32) : zVal L xs 61 4 (.inl (i_il 2 5)) := zS_iload_n d61_4 rfl
theorem v61_5 (L : Nat) (xs : Nat → Int32) : zVal L xs 61 5 (.inl (i_f1 (fun x => decide (¬ x = 0)) 12 8)) := zS_if_ne d61_5 (by decide)
theorem v61_8 (L : Nat) (xs : Nat → Int32) : zVal L xs 61 8 (.inl (i_c (.int 0) 9)) := zS_iconst d61_8 (by decide)
theorem v61_9 (L : Nat) (xs : Nat → Int32) : zVal L xs 61 9 (.inl (i_go 13)) := zS_goto d61_9 (by decide)
theorem v61_12 (L : Nat) (xs : Nat → Int32) : zVal L xs 61 12 (.inl (i_c (.int 1) 13)) := zS_iconst d61_12 (by decide)
theorem v61_13 (L : Nat) (xs : Nat → Int32) : zVal L xs 61 13 (.inl (i_k [false, false, false, false, true, true, true] (i_gq 5 14))) := zS_k (zS_aald5 d61_13)
theorem v61_14 (L : Nat) (xs : Nat → Int32) : zVal L xs 61 14 (.inl (i_as 4 16)) := zS_astore d61_14
theorem v61_16 (L : Nat) (xs : Nat → Int32) : zVal L xs 61 16 (.inl (i_c (.int 1) 17)) := zS_iconst d61_16 (by decide)
theorem v61_17 (L : Nat) (xs : Nat → Int32) : zVal L xs 61 17 (.inl (i_is 5 19)) := zS_istore d61_17
theorem v61_19 (L : Nat) (xs : Nat → Int32) : zVal L xs 61 19 (.inl (i_k [false, false, false, false, false, false, true] (i_il 5 21))) := zS_k (zS_iload d61_19)
theorem v61_21 (L : Nat) (xs : Nat → Int32) : zVal L xs 61 21 (.inl (i_al 0 22)) := zS_aload_n d61_21 rfl
theorem v61_22 (L : Nat) (xs : Nat → Int32) : zVal L xs 61 22 (.inl (i_gf 6 0 25)) := zS_getf d61_22 (zcl6) (by decide) zi6 w367
theorem v61_25 (L : Nat) (xs : Nat → Int32) : zVal L xs 61 25 (.inl (i_gf 8 0 28)) := zS_getfN (host := "EditionGrid") d61_25 (zcl8) (by decide) zi8 (by decide +kernel)
theorem v61_28 (L : Nat) (xs : Nat → Int32) : zVal L xs 61 28 (.inl (i_f2 (fun x y => decide (y < x)) 52 31)) := zS_icmp_gt d61_28 (by decide)
theorem v61_31 (L : Nat) (xs : Nat → Int32) : zVal L xs 61 31 (.inl (i_al 0 32)) := zS_aload_n d61_31 rfl
theorem v61_32 (L : Nat) (xs : Nat → Int32) : zVal L xs 61 32 (.inl (i_gf 6 2 35)) := zS_getf d61_32 (zcl6) (by decide) zi6 w370
theorem v61_35 (L : Nat) (xs : Nat → Int32) : zVal L xs 61 35 (.inl (i_il 5 37)) := zS_iload d61_35
theorem v61_37 (L : Nat) (xs : Nat → Int32) : zVal L xs 61 37 (.inl (i_al 0 38)) := zS_aload_n d61_37 rfl
theorem v61_38 (L : Nat) (xs : Nat → Int32) : zVal L xs 61 38 (.inl (i_al 1 39)) := zS_aload_n d61_38 rfl
theorem v61_39 (L : Nat) (xs : Nat → Int32) : zVal L xs 61 39 (.inl (i_il 2 40)) := zS_iload_n d61_39 rfl
theorem v61_40 (L : Nat) (xs : Nat → Int32) : zVal L xs 61 40 (.inl (i_il 5 42)) := zS_iload d61_40
theorem v61_42 (L : Nat) (xs : Nat → Int32) : zVal L xs 61 42 (.inr (.inl (62, 4, 7))) := ⟨by decide +kernel, by decide +kernel, zc_virt d61_42 zcl6 w618 w615 w617 w18 w80 ⟨by decide +kernel, by decide +kernel, by decide +kernel⟩ (by decide) (by decide)⟩
theorem v61_45 (L : Nat) (xs : Nat → Int32) : zVal L xs 61 45 (.inl (i_pa 0 (fun x => x) 46)) := zS_iast d61_45
theorem v61_46 (L : Nat) (xs : Nat → Int32) : zVal L xs 61 46 (.inl (i_in 5 1 49)) := zS_iinc d61_46 (by decide)
theorem v61_49 (L : Nat) (xs : Nat → Int32) : zVal L xs 61 49 (.inl (i_go 19)) := zS_goto d61_49 (by decide)
theorem v61_52 (L : Nat) (xs : Nat → Int32) : zVal L xs 61 52 (.inl (i_il 3 53)) := zS_iload_n d61_52 rfl
theorem v61_53 (L : Nat) (xs : Nat → Int32) : zVal L xs 61 53 (.inl (i_is 5 55)) := zS_istore d61_53
theorem v61_55 (L : Nat) (xs : Nat → Int32) : zVal L xs 61 55 (.inl (i_k [false, false, false, true, false, false, true] (i_il 5 57))) := zS_k (zS_iload d61_55)
theorem v61_57 (L : Nat) (xs : Nat → Int32) : zVal L xs 61 57 (.inl (i_c (.int 3) 58)) := zS_iconst d61_57 (by decide)
theorem v61_58 (L : Nat) (xs : Nat → Int32) : zVal L xs 61 58 (.inl (i_f2 (fun x y => decide (y ≤ x)) 134 61)) := zS_icmp_ge d61_58 (by decide)
theorem v61_61 (L : Nat) (xs : Nat → Int32) : zVal L xs 61 61 (.inl (i_al 0 62)) := zS_aload_n d61_61 rfl
theorem v61_62 (L : Nat) (xs : Nat → Int32) : zVal L xs 61 62 (.inl (i_gf 6 0 65)) := zS_getf d61_62 (zcl6) (by decide) zi6 w367
theorem v61_65 (L : Nat) (xs : Nat → Int32) : zVal L xs 61 65 (.inl (i_gf 8 0 68)) := zS_getfN (host := "EditionGrid") d61_65 (zcl8) (by decide) zi8 (by decide +kernel)
theorem v61_68 (L : Nat) (xs : Nat → Int32) : zVal L xs 61 68 (.inl (i_is 6 70)) := zS_istore d61_68
theorem v61_70 (L : Nat) (xs : Nat → Int32) : zVal L xs 61 70 (.inl (i_k [false, false, false, true, false, false, false] (i_il 6 72))) := zS_k (zS_iload d61_70)
theorem v61_72 (L : Nat) (xs : Nat → Int32) : zVal L xs 61 72 (.inl (i_c (.int 1) 73)) := zS_iconst d61_72 (by decide)
theorem v61_73 (L : Nat) (xs : Nat → Int32) : zVal L xs 61 73 (.inl (i_f2 (fun x y => decide (x < y)) 128 76)) := zS_icmp_lt d61_73 (by decide)
theorem v61_76 (L : Nat) (xs : Nat → Int32) : zVal L xs 61 76 (.inl (i_al 0 77)) := zS_aload_n d61_76 rfl
theorem v61_77 (L : Nat) (xs : Nat → Int32) : zVal L xs 61 77 (.inl (i_gf 6 2 80)) := zS_getf d61_77 (zcl6) (by decide) zi6 w370
theorem v61_80 (L : Nat) (xs : Nat → Int32) : zVal L xs 61 80 (.inl (i_il 6 82)) := zS_iload d61_80
theorem v61_82 (L : Nat) (xs : Nat → Int32) : zVal L xs 61 82 (.inl (i_ga 0 83)) := zS_iald d61_82
theorem v61_83 (L : Nat) (xs : Nat → Int32) : zVal L xs 61 83 (.inl (i_c (.int (-1)) 84)) := zS_iconst d61_83 (by decide)
theorem v61_84 (L : Nat) (xs : Nat → Int32) : zVal L xs 61 84 (.inl (i_f2 (fun x y => decide (x = y)) 122 87)) := zS_icmp_eq d61_84 (by decide)
theorem v61_87 (L : Nat) (xs : Nat → Int32) : zVal L xs 61 87 (.inl (i_al 0 88)) := zS_aload_n d61_87 rfl
theorem v61_88 (L : Nat) (xs : Nat → Int32) : zVal L xs 61 88 (.inl (i_gf 6 0 91)) := zS_getf d61_88 (zcl6) (by decide) zi6 w367
theorem v61_91 (L : Nat) (xs : Nat → Int32) : zVal L xs 61 91 (.inl (i_al 4 93)) := zS_aload d61_91
theorem v61_93 (L : Nat) (xs : Nat → Int32) : zVal L xs 61 93 (.inl (i_il 5 95)) := zS_iload d61_93
theorem v61_95 (L : Nat) (xs : Nat → Int32) : zVal L xs 61 95 (.inl (i_il 6 97)) := zS_iload d61_95
theorem v61_97 (L : Nat) (xs : Nat → Int32) : zVal L xs 61 97 (.inl (i_al 0 98)) := zS_aload_n d61_97 rfl
theorem v61_98 (L : Nat) (xs : Nat → Int32) : zVal L xs 61 98 (.inl (i_gf 6 2 101)) := zS_getf d61_98 (zcl6) (by decide) zi6 w370
theorem v61_101 (L : Nat) (xs : Nat → Int32) : zVal L xs 61 101 (.inl (i_il 6 103)) := zS_iload d61_101
theorem v61_103 (L : Nat) (xs : Nat → Int32) : zVal L xs 61 103 (.inl (i_ga 0 104)) := zS_iald d61_103
theorem v61_104 (L : Nat) (xs : Nat → Int32) : zVal L xs 61 104 (.inr (.inl (85, 5, 9))) := ⟨by decide +kernel, by decide +kernel, zc_virt d61_104 zcl8 w636 w633 w634 w635 w82 ⟨by decide +kernel, by decide +kernel, by decide +kernel⟩ (by decide) (by decide)⟩
theorem v61_107 (L : Nat) (xs : Nat → Int32) : zVal L xs 61 107 (.inl (i_f1 (fun x => decide (x = 0)) 122 110)) := zS_if_eq d61_107 (by decide)
theorem v61_110 (L : Nat) (xs : Nat → Int32) : zVal L xs 61 110 (.inl (i_al 4 112)) := zS_aload d61_110
theorem v61_112 (L : Nat) (xs : Nat → Int32) : zVal L xs 61 112 (.inl (i_il 2 113)) := zS_iload_n d61_112 rfl
theorem v61_113 (L : Nat) (xs : Nat → Int32) : zVal L xs 61 113 (.inl (i_al 1 114)) := zS_aload_n d61_113 rfl
theorem v61_114 (L : Nat) (xs : Nat → Int32) : zVal L xs 61 114 (.inl (i_gf 9 15 117)) := zS_getfN (host := "EditionGrid") d61_114 (zcl9) (by decide) zi9 (by decide +kernel)
theorem v61_117 (L : Nat) (xs : Nat → Int32) : zVal L xs 61 117 (.inr (.inl (49, 3, 5))) := ⟨by decide +kernel, by decide +kernel, zc_virt d61_117 zcl4 w648 w645 w646 w647 w76 ⟨by decide +kernel, by decide +kernel, by decide +kernel⟩ (by decide) (by decide)⟩
theorem v61_120 (L : Nat) (xs : Nat → Int32) : zVal L xs 61 120 (.inl (i_c (.int 1) 121)) := zS_iconst d61_120 (by decide)
theorem v61_121 (L : Nat) (xs : Nat → Int32) : zVal L xs 61 121 (.inr (.inr 2)) := zr_2 d61_121 rfl
theorem v61_122 (L : Nat) (xs : Nat → Int32) : zVal L xs 61 122 (.inl (i_k [false, false, false, true, false, false, false] (i_in 6 (-1) 125))) := zS_k (zS_iinc d61_122 (by decide))
theorem v61_125 (L : Nat) (xs : Nat → Int32) : zVal L xs 61 125 (.inl (i_go 70)) := zS_goto d61_125 (by decide)
theorem v61_128 (L : Nat) (xs : Nat → Int32) : zVal L xs 61 128 (.inl (i_in 5 1 131)) := zS_iinc d61_128 (by decide)
theorem v61_131 (L : Nat) (xs : Nat → Int32) : zVal L xs 61 131 (.inl (i_go 55)) := zS_goto d61_131 (by decide)
theorem v61_134 (L : Nat) (xs : Nat → Int32) : zVal L xs 61 134 (.inl (i_c (.int 0) 135)) := zS_iconst d61_134 (by decide)
theorem v61_135 (L : Nat) (xs : Nat → Int32) : zVal L xs 61 135 (.inr (.inr 2)) := zr_2 d61_135 rfl
theorem vt61 (L : Nat) (xs : Nat → Int32) : zAll (fun x => zVal L xs 61 x.1 x.2) (tb61) := ⟨v61_0 L xs, v61_1 L xs, v61_4 L xs, v61_5 L xs, v61_8 L xs, v61_9 L xs, v61_12 L xs, v61_13 L xs, v61_14 L xs, v61_16 L xs, v61_17 L xs, v61_19 L xs, v61_21 L xs, v61_22 L xs, v61_25 L xs, v61_28 L xs, v61_31 L xs, v61_32 L xs, v61_35 L xs, v61_37 L xs, v61_38 L xs, v61_39 L xs, v61_40 L xs, v61_42 L xs, v61_45 L xs, v61_46 L xs, v61_49 L xs, v61_52 L xs, v61_53 L xs, v61_55 L xs, v61_57 L xs, v61_58 L xs, v61_61 L xs, v61_62 L xs, v61_65 L xs, v61_68 L xs, v61_70 L xs, v61_72 L xs, v61_73 L xs, v61_76 L xs, v61_77 L xs, v61_80 L xs, v61_82 L xs, v61_83 L xs, v61_84 L xs, v61_87 L xs, v61_88 L xs, v61_91 L xs, v61_93 L xs, v61_95 L xs, v61_97 L xs, v61_98 L xs, v61_101 L xs, v61_103 L xs, v61_104 L xs, v61_107 L xs, v61_110 L xs, v61_112 L xs, v61_113 L xs, v61_114 L xs, v61_117 L xs, v61_120 L xs, v61_121 L xs, v61_122 L xs, v61_125 L xs, v61_128 L xs, v61_131 L xs, v61_134 L xs, v61_135 L xs, trivial⟩
theorem d62_0 : decode (mB 62) 0 = .ok (.iconst 1, 1) := by decide +kernel
theorem d62_1 : decode (mB 62) 1 = .ok (.istore 4, 2) := by decide +kernel
theorem d62_3 : decode (mB 62) 3 = .ok (.iload 4, 2) := by decide +kernel
theorem d62_5 : decode (mB 62) 5 = .ok (.aload_n 0, 1) := by decide +kernel
theorem d62_6 : decode (mB 62) 6 = .ok (.getfield 27, 3) := by decide +kernel
theorem d62_9 : decode (mB 62) 9 = .ok (.getfield 78, 3) := by decide +kernel
theorem d62_12 : decode (mB 62) 12 = .ok (.if_icmp .ge 52, 3) := by decide +kernel
theorem d62_15 : decode (mB 62) 15 = .ok (.aload_n 0, 1) := by decide +kernel
theorem d62_16 : decode (mB 62) 16 = .ok (.getfield 12, 3) := by decide +kernel
theorem d62_19 : decode (mB 62) 19 = .ok (.aload_n 1, 1) := by decide +kernel
theorem d62_20 : decode (mB 62) 20 = .ok (.iload_n 2, 1) := by decide +kernel
theorem d62_21 : decode (mB 62) 21 = .ok (.iload_n 3, 1) := by decide +kernel
theorem d62_22 : decode (mB 62) 22 = .ok (.iload 4, 2) := by decide +kernel
theorem d62_24 : decode (mB 62) 24 = .ok (.iconst 0, 1) := by decide +kernel
theorem d62_25 : decode (mB 62) 25 = .ok (.invokevirtual 81, 3) := by decide +kernel
theorem d62_28 : decode (mB 62) 28 = .ok (.ifCond .eq 30, 3) := by decide +kernel
theorem d62_31 : decode (mB 62) 31 = .ok (.aload_n 0, 1) := by decide +kernel
theorem d62_32 : decode (mB 62) 32 = .ok (.getfield 12, 3) := by decide +kernel
theorem d62_35 : decode (mB 62) 35 = .ok (.iload_n 2, 1) := by decide +kernel
theorem d62_36 : decode (mB 62) 36 = .ok (.aload_n 1, 1) := by decide +kernel
theorem d62_37 : decode (mB 62) 37 = .ok (.invokevirtual 85, 3) := by decide +kernel
theorem d62_40 : decode (mB 62) 40 = .ok (.invokevirtual 89, 3) := by decide +kernel
theorem d62_43 : decode (mB 62) 43 = .ok (.aload_n 1, 1) := by decide +kernel
theorem d62_44 : decode (mB 62) 44 = .ok (.getfield 37, 3) := by decide +kernel
theorem d62_47 : decode (mB 62) 47 = .ok (.invokestatic 93, 3) := by decide +kernel
theorem d62_50 : decode (mB 62) 50 = .ok (.ifCond .eq 8, 3) := by decide +kernel
theorem d62_53 : decode (mB 62) 53 = .ok (.iload 4, 2) := by decide +kernel
theorem d62_55 : decode (mB 62) 55 = .ok (.iconst 1, 1) := by decide +kernel
theorem d62_56 : decode (mB 62) 56 = .ok (.iadd, 1) := by decide +kernel
theorem d62_57 : decode (mB 62) 57 = .ok (.ireturn, 1) := by decide +kernel
theorem d62_58 : decode (mB 62) 58 = .ok (.iinc 4 1, 3) := by decide +kernel
theorem d62_61 : decode (mB 62) 61 = .ok (.goto (-58), 3) := by decide +kernel
theorem d62_64 : decode (mB 62) 64 = .ok (.iconst (-1), 1) := by decide +kernel
theorem d62_65 : decode (mB 62) 65 = .ok (.ireturn, 1) := by decide +kernel
theorem v62_0 (L : Nat) (xs : Nat → Int32) : zVal L xs 62 0 (.inl (i_c (.int 1) 1)) := zS_iconst d62_0 (by decide)
theorem v62_1 (L : Nat) (xs : Nat → Int32) : zVal L xs 62 1 (.inl (i_is 4 3)) := zS_istore d62_1
theorem v62_3 (L : Nat) (xs : Nat → Int32) : zVal L xs 62 3 (.inl (i_k [false, false, false, false, false] (i_il 4 5))) := zS_k (zS_iload d62_3)
theorem v62_5 (L : Nat) (xs : Nat → Int32) : zVal L xs 62 5 (.inl (i_al 0 6)) := zS_aload_n d62_5 rfl
theorem v62_6 (L : Nat) (xs : Nat → Int32) : zVal L xs 62 6 (.inl (i_gf 6 0 9)) := zS_getf d62_6 (zcl6) (by decide) zi6 w367
theorem v62_9 (L : Nat) (xs : Nat → Int32) : zVal L xs 62 9 (.inl (i_gf 8 1 12)) := zS_getfN (host := "EditionGrid") d62_9 (zcl8) (by decide) zi8 (by decide +kernel)
theorem v62_12 (L : Nat) (xs : Nat → Int32) : zVal L xs 62 12 (.inl (i_f2 (fun x y => decide (y ≤ x)) 64 15)) := zS_icmp_ge d62_12 (by decide)
theorem v62_15 (L : Nat) (xs : Nat → Int32) : zVal L xs 62 15 (.inl (i_al 0 16)) := zS_aload_n d62_15 rfl
theorem v62_16 (L : Nat) (xs : Nat → Int32) : zVal L xs 62 16 (.inl (i_gf 6 1 19)) := zS_getf d62_16 (zcl6) (by decide) zi6 w369
theorem v62_19 (L : Nat) (xs : Nat → Int32) : zVal L xs 62 19 (.inl (i_al 1 20)) := zS_aload_n d62_19 rfl
theorem v62_20 (L : Nat) (xs : Nat → Int32) : zVal L xs 62 20 (.inl (i_il 2 21)) := zS_iload_n d62_20 rfl
theorem v62_21 (L : Nat) (xs : Nat → Int32) : zVal L xs 62 21 (.inl (i_il 3 22)) := zS_iload_n d62_21 rfl
theorem v62_22 (L : Nat) (xs : Nat → Int32) : zVal L xs 62 22 (.inl (i_il 4 24)) := zS_iload d62_22
theorem v62_24 (L : Nat) (xs : Nat → Int32) : zVal L xs 62 24 (.inl (i_c (.int 0) 25)) := zS_iconst d62_24 (by decide)
theorem v62_25 (L : Nat) (xs : Nat → Int32) : zVal L xs 62 25 (.inr (.inl (34, 6, 3))) := ⟨by decide +kernel, by decide +kernel, zc_virt d62_25 zcl2 w622 w619 w620 w621 w81 ⟨by decide +kernel, by decide +kernel, by decide +kernel⟩ (by decide) (by decide)⟩
theorem v62_28 (L : Nat) (xs : Nat → Int32) : zVal L xs 62 28 (.inl (i_f1 (fun x => decide (x = 0)) 58 31)) := zS_if_eq d62_28 (by decide)
theorem v62_31 (L : Nat) (xs : Nat → Int32) : zVal L xs 62 31 (.inl (i_al 0 32)) := zS_aload_n d62_31 rfl
theorem v62_32 (L : Nat) (xs : Nat → Int32) : zVal L xs 62 32 (.inl (i_gf 6 1 35)) := zS_getf d62_32 (zcl6) (by decide) zi6 w369
theorem v62_35 (L : Nat) (xs : Nat → Int32) : zVal L xs 62 35 (.inl (i_il 2 36)) := zS_iload_n d62_35 rfl
theorem v62_36 (L : Nat) (xs : Nat → Int32) : zVal L xs 62 36 (.inl (i_al 1 37)) := zS_aload_n d62_36 rfl
theorem v62_37 (L : Nat) (xs : Nat → Int32) : zVal L xs 62 37 (.inr (.inl (93, 1, 10))) := ⟨by decide +kernel, by decide +kernel, zc_virt d62_37 zcl9 w626 w623 w624 w625 w75 ⟨by decide +kernel, by decide +kernel, by decide +kernel⟩ (by decide) (by decide)⟩
theorem v62_40 (L : Nat) (xs : Nat → Int32) : zVal L xs 62 40 (.inr (.inl (35, 3, 3))) := ⟨by decide +kernel, by decide +kernel, zc_virt d62_40 zcl2 w631 w628 w629 w630 w81 ⟨by decide +kernel, by decide +kernel, by decide +kernel⟩ (by decide) (by decide)⟩
theorem v62_43 (L : Nat) (xs : Nat → Int32) : zVal L xs 62 43 (.inl (i_al 1 44)) := zS_aload_n d62_43 rfl
theorem v62_44 (L : Nat) (xs : Nat → Int32) : zVal L xs 62 44 (.inl (i_gf 9 15 47)) := zS_getfN (host := "EditionGrid") d62_44 (zcl9) (by decide) zi9 (by decide +kernel)
theorem v62_47 (L : Nat) (xs : Nat → Int32) : zVal L xs 62 47 (.inr (.inl (22, 2, 0))) := ⟨by decide +kernel, by decide +kernel, zc_staticN (host := "EditionGrid") d62_47 w578 (by decide +kernel) w577 w73 ⟨by decide +kernel, by decide +kernel, by decide +kernel⟩ (by decide) (by decide)⟩
theorem v62_50 (L : Nat) (xs : Nat → Int32) : zVal L xs 62 50 (.inl (i_f1 (fun x => decide (x = 0)) 58 53)) := zS_if_eq d62_50 (by decide)
theorem v62_53 (L : Nat) (xs : Nat → Int32) : zVal L xs 62 53 (.inl (i_il 4 55)) := zS_iload d62_53
theorem v62_55 (L : Nat) (xs : Nat → Int32) : zVal L xs 62 55 (.inl (i_c (.int 1) 56)) := zS_iconst d62_55 (by decide)
theorem v62_56 (L : Nat) (xs : Nat → Int32) : zVal L xs 62 56 (.inl (i_bi (fun x y => x + y) 57)) := zS_iadd d62_56
theorem v62_57 (L : Nat) (xs : Nat → Int32) : zVal L xs 62 57 (.inr (.inr 1)) := zr_1 d62_57 rfl
theorem v62_58 (L : Nat) (xs : Nat → Int32) : zVal L xs 62 58 (.inl (i_k [false, false, false, false, false] (i_in 4 1 61))) := zS_k (zS_iinc d62_58 (by decide))
theorem v62_61 (L : Nat) (xs : Nat → Int32) : zVal L xs 62 61 (.inl (i_go 3)) := zS_goto d62_61 (by decide)
theorem v62_64 (L : Nat) (xs : Nat → Int32) : zVal L xs 62 64 (.inl (i_c (.int (-1)) 65)) := zS_iconst d62_64 (by decide)
theorem v62_65 (L : Nat) (xs : Nat → Int32) : zVal L xs 62 65 (.inr (.inr 1)) := zr_1 d62_65 rfl
theorem vt62 (L : Nat) (xs : Nat → Int32) : zAll (fun x => zVal L xs 62 x.1 x.2) (tb62) := ⟨v62_0 L xs, v62_1 L xs, v62_3 L xs, v62_5 L xs, v62_6 L xs, v62_9 L xs, v62_12 L xs, v62_15 L xs, v62_16 L xs, v62_19 L xs, v62_20 L xs, v62_21 L xs, v62_22 L xs, v62_24 L xs, v62_25 L xs, v62_28 L xs, v62_31 L xs, v62_32 L xs, v62_35 L xs, v62_36 L xs, v62_37 L xs, v62_40 L xs, v62_43 L xs, v62_44 L xs, v62_47 L xs, v62_50 L xs, v62_53 L xs, v62_55 L xs, v62_56 L xs, v62_57 L xs, v62_58 L xs, v62_61 L xs, v62_64 L xs, v62_65 L xs, trivial⟩
theorem d63_0 : decode (mB 63) 0 = .ok (.iconst 0, 1) := by decide +kernel
theorem d63_1 : decode (mB 63) 1 = .ok (.istore_n 2, 1) := by decide +kernel
theorem d63_2 : decode (mB 63) 2 = .ok (.iload_n 2, 1) := by decide +kernel
theorem d63_3 : decode (mB 63) 3 = .ok (.iconst 2, 1) := by decide +kernel
theorem d63_4 : decode (mB 63) 4 = .ok (.if_icmp .ge 93, 3) := by decide +kernel
theorem d63_7 : decode (mB 63) 7 = .ok (.aload_n 0, 1) := by decide +kernel
theorem d63_8 : decode (mB 63) 8 = .ok (.lconst 0, 1) := by decide +kernel
theorem d63_9 : decode (mB 63) 9 = .ok (.putfield 97, 3) := by decide +kernel
theorem d63_12 : decode (mB 63) 12 = .ok (.aload_n 0, 1) := by decide +kernel
theorem d63_13 : decode (mB 63) 13 = .ok (.getfield 27, 3) := by decide +kernel
theorem d63_16 : decode (mB 63) 16 = .ok (.getfield 63, 3) := by decide +kernel
theorem d63_19 : decode (mB 63) 19 = .ok (.istore_n 3, 1) := by decide +kernel
theorem d63_20 : decode (mB 63) 20 = .ok (.iload_n 3, 1) := by decide +kernel
theorem d63_21 : decode (mB 63) 21 = .ok (.iconst 1, 1) := by decide +kernel
theorem d63_22 : decode (mB 63) 22 = .ok (.if_icmp .lt 69, 3) := by decide +kernel
theorem d63_25 : decode (mB 63) 25 = .ok (.iconst 0, 1) := by decide +kernel
theorem d63_26 : decode (mB 63) 26 = .ok (.istore 4, 2) := by decide +kernel
theorem d63_28 : decode (mB 63) 28 = .ok (.iload 4, 2) := by decide +kernel
theorem d63_30 : decode (mB 63) 30 = .ok (.aload_n 0, 1) := by decide +kernel
theorem d63_31 : decode (mB 63) 31 = .ok (.getfield 27, 3) := by decide +kernel
theorem d63_34 : decode (mB 63) 34 = .ok (.getfield 78, 3) := by decide +kernel
theorem d63_37 : decode (mB 63) 37 = .ok (.if_icmp .ge 48, 3) := by decide +kernel
theorem d63_40 : decode (mB 63) 40 = .ok (.iconst 0, 1) := by decide +kernel
theorem d63_41 : decode (mB 63) 41 = .ok (.istore 5, 2) := by decide +kernel
theorem d63_43 : decode (mB 63) 43 = .ok (.iload 5, 2) := by decide +kernel
theorem d63_45 : decode (mB 63) 45 = .ok (.iload_n 3, 1) := by decide +kernel
theorem d63_46 : decode (mB 63) 46 = .ok (.iadd, 1) := by decide +kernel
theorem d63_47 : decode (mB 63) 47 = .ok (.aload_n 0, 1) := by decide +kernel
theorem d63_48 : decode (mB 63) 48 = .ok (.getfield 27, 3) := by decide +kernel
theorem d63_51 : decode (mB 63) 51 = .ok (.getfield 63, 3) := by decide +kernel
theorem d63_54 : decode (mB 63) 54 = .ok (.if_icmp .gt 25, 3) := by decide +kernel
theorem d63_57 : decode (mB 63) 57 = .ok (.aload_n 0, 1) := by decide +kernel
theorem d63_58 : decode (mB 63) 58 = .ok (.aload_n 1, 1) := by decide +kernel
theorem d63_59 : decode (mB 63) 59 = .ok (.iload_n 2, 1) := by decide +kernel
theorem d63_60 : decode (mB 63) 60 = .ok (.iload 5, 2) := by decide +kernel
theorem d63_62 : decode (mB 63) 62 = .ok (.iload 4, 2) := by decide +kernel
theorem d63_64 : decode (mB 63) 64 = .ok (.iload_n 3, 1) := by decide +kernel
theorem d63_65 : decode (mB 63) 65 = .ok (.invokevirtual 101, 3) := by decide +kernel
theorem d63_68 : decode (mB 63) 68 = .ok (.ifCond .eq 5, 3) := by decide +kernel
theorem d63_71 : decode (mB 63) 71 = .ok (.iconst 1, 1) := by decide +kernel
theorem d63_72 : decode (mB 63) 72 = .ok (.ireturn, 1) := by decide +kernel
theorem d63_73 : decode (mB 63) 73 = .ok (.iinc 5 1, 3) := by decide +kernel
theorem d63_76 : decode (mB 63) 76 = .ok (.goto (-33), 3) := by decide +kernel
theorem d63_79 : decode (mB 63) 79 = .ok (.iinc 4 1, 3) := by decide +kernel
theorem d63_82 : decode (mB 63) 82 = .ok (.goto (-54), 3) := by decide +kernel
theorem d63_85 : decode (mB 63) 85 = .ok (.iinc 3 (-1), 3) := by decide +kernel
theorem d63_88 : decode (mB 63) 88 = .ok (.goto (-68), 3) := by decide +kernel
theorem d63_91 : decode (mB 63) 91 = .ok (.iinc 2 1, 3) := by decide +kernel
theorem d63_94 : decode (mB 63) 94 = .ok (.goto (-92), 3) := by decide +kernel
theorem d63_97 : decode (mB 63) 97 = .ok (.iconst 0, 1) := by decide +kernel
theorem d63_98 : decode (mB 63) 98 = .ok (.ireturn, 1) := by decide +kernel
theorem v63_0 (L : Nat) (xs : Nat → Int32) : zVal L xs 63 0 (.inl (i_c (.int 0) 1)) := zS_iconst d63_0 (by decide)
theorem v63_1 (L : Nat) (xs : Nat → Int32) : zVal L xs 63 1 (.inl (i_is 2 2)) := zS_istore_n d63_1 rfl
theorem v63_2 (L : Nat) (xs : Nat → Int32) : zVal L xs 63 2 (.inl (i_k [false, false, false, true, true, true] (i_il 2 3))) := zS_k (zS_iload_n d63_2 rfl)
theorem v63_3 (L : Nat) (xs : Nat → Int32) : zVal L xs 63 3 (.inl (i_c (.int 2) 4)) := zS_iconst d63_3 (by decide)
theorem v63_4 (L : Nat) (xs : Nat → Int32) : zVal L xs 63 4 (.inl (i_f2 (fun x y => decide (y ≤ x)) 97 7)) := zS_icmp_ge d63_4 (by decide)
theorem v63_7 (L : Nat) (xs : Nat → Int32) : zVal L xs 63 7 (.inl (i_al 0 8)) := zS_aload_n d63_7 rfl
theorem v63_8 (L : Nat) (xs : Nat → Int32) : zVal L xs 63 8 (.inl (i_c (.long 0) 9)) := zS_lconst d63_8 (by decide)
theorem v63_9 (L : Nat) (xs : Nat → Int32) : zVal L xs 63 9 (.inl (i_pf 6 3 okJ 12)) := zS_putf (ty := .long) d63_9 (zcl6) (by decide) zi6 w371 zy6 zn6 (by decide +kernel) (by decide +kernel) okJ_ok
theorem v63_12 (L : Nat) (xs : Nat → Int32) : zVal L xs 63 12 (.inl (i_al 0 13)) := zS_aload_n d63_12 rfl
theorem v63_13 (L : Nat) (xs : Nat → Int32) : zVal L xs 63 13 (.inl (i_gf 6 0 16)) := zS_getf d63_13 (zcl6) (by decide) zi6 w367
theorem v63_16 (L : Nat) (xs : Nat → Int32) : zVal L xs 63 16 (.inl (i_gf 8 0 19)) := zS_getfN (host := "EditionGrid") d63_16 (zcl8) (by decide) zi8 (by decide +kernel)
theorem v63_19 (L : Nat) (xs : Nat → Int32) : zVal L xs 63 19 (.inl (i_is 3 20)) := zS_istore_n d63_19 rfl
theorem v63_20 (L : Nat) (xs : Nat → Int32) : zVal L xs 63 20 (.inl (i_k [false, false, false, false, true, true] (i_il 3 21))) := zS_k (zS_iload_n d63_20 rfl)
theorem v63_21 (L : Nat) (xs : Nat → Int32) : zVal L xs 63 21 (.inl (i_c (.int 1) 22)) := zS_iconst d63_21 (by decide)
theorem v63_22 (L : Nat) (xs : Nat → Int32) : zVal L xs 63 22 (.inl (i_f2 (fun x y => decide (x < y)) 91 25)) := zS_icmp_lt d63_22 (by decide)
theorem v63_25 (L : Nat) (xs : Nat → Int32) : zVal L xs 63 25 (.inl (i_c (.int 0) 26)) := zS_iconst d63_25 (by decide)
theorem v63_26 (L : Nat) (xs : Nat → Int32) : zVal L xs 63 26 (.inl (i_is 4 28)) := zS_istore d63_26
theorem v63_28 (L : Nat) (xs : Nat → Int32) : zVal L xs 63 28 (.inl (i_k [false, false, false, false, false, true] (i_il 4 30))) := zS_k (zS_iload d63_28)
theorem v63_30 (L : Nat) (xs : Nat → Int32) : zVal L xs 63 30 (.inl (i_al 0 31)) := zS_aload_n d63_30 rfl
theorem v63_31 (L : Nat) (xs : Nat → Int32) : zVal L xs 63 31 (.inl (i_gf 6 0 34)) := zS_getf d63_31 (zcl6) (by decide) zi6 w367
theorem v63_34 (L : Nat) (xs : Nat → Int32) : zVal L xs 63 34 (.inl (i_gf 8 1 37)) := zS_getfN (host := "EditionGrid") d63_34 (zcl8) (by decide) zi8 (by decide +kernel)
theorem v63_37 (L : Nat) (xs : Nat → Int32) : zVal L xs 63 37 (.inl (i_f2 (fun x y => decide (y ≤ x)) 85 40)) := zS_icmp_ge d63_37 (by decide)
theorem v63_40 (L : Nat) (xs : Nat → Int32) : zVal L xs 63 40 (.inl (i_c (.int 0) 41)) := zS_iconst d63_40 (by decide)
theorem v63_41 (L : Nat) (xs : Nat → Int32) : zVal L xs 63 41 (.inl (i_is 5 43)) := zS_istore d63_41
theorem v63_43 (L : Nat) (xs : Nat → Int32) : zVal L xs 63 43 (.inl (i_k [false, false, false, false, false, false] (i_il 5 45))) := zS_k (zS_iload d63_43)
theorem v63_45 (L : Nat) (xs : Nat → Int32) : zVal L xs 63 45 (.inl (i_il 3 46)) := zS_iload_n d63_45 rfl
theorem v63_46 (L : Nat) (xs : Nat → Int32) : zVal L xs 63 46 (.inl (i_bi (fun x y => x + y) 47)) := zS_iadd d63_46
theorem v63_47 (L : Nat) (xs : Nat → Int32) : zVal L xs 63 47 (.inl (i_al 0 48)) := zS_aload_n d63_47 rfl
theorem v63_48 (L : Nat) (xs : Nat → Int32) : zVal L xs 63 48 (.inl (i_gf 6 0 51)) := zS_getf d63_48 (zcl6) (by decide) zi6 w367
theorem v63_51 (L : Nat) (xs : Nat → Int32) : zVal L xs 63 51 (.inl (i_gf 8 0 54)) := zS_getfN (host := "EditionGrid") d63_51 (zcl8) (by decide) zi8 (by decide +kernel)
theorem v63_54 (L : Nat) (xs : Nat → Int32) : zVal L xs 63 54 (.inl (i_f2 (fun x y => decide (y < x)) 79 57)) := zS_icmp_gt d63_54 (by decide)
theorem v63_57 (L : Nat) (xs : Nat → Int32) : zVal L xs 63 57 (.inl (i_al 0 58)) := zS_aload_n d63_57 rfl
theorem v63_58 (L : Nat) (xs : Nat → Int32) : zVal L xs 63 58 (.inl (i_al 1 59)) := zS_aload_n d63_58 rfl
theorem v63_59 (L : Nat) (xs : Nat → Int32) : zVal L xs 63 59 (.inl (i_il 2 60)) := zS_iload_n d63_59 rfl
theorem v63_60 (L : Nat) (xs : Nat → Int32) : zVal L xs 63 60 (.inl (i_il 5 62)) := zS_iload d63_60
theorem v63_62 (L : Nat) (xs : Nat → Int32) : zVal L xs 63 62 (.inl (i_il 4 64)) := zS_iload d63_62
theorem v63_64 (L : Nat) (xs : Nat → Int32) : zVal L xs 63 64 (.inl (i_il 3 65)) := zS_iload_n d63_64 rfl
theorem v63_65 (L : Nat) (xs : Nat → Int32) : zVal L xs 63 65 (.inr (.inl (64, 6, 7))) := ⟨by decide +kernel, by decide +kernel, zc_virt d63_65 zcl6 w686 w683 w685 w26 w80 ⟨by decide +kernel, by decide +kernel, by decide +kernel⟩ (by decide) (by decide)⟩
theorem v63_68 (L : Nat) (xs : Nat → Int32) : zVal L xs 63 68 (.inl (i_f1 (fun x => decide (x = 0)) 73 71)) := zS_if_eq d63_68 (by decide)
theorem v63_71 (L : Nat) (xs : Nat → Int32) : zVal L xs 63 71 (.inl (i_c (.int 1) 72)) := zS_iconst d63_71 (by decide)
theorem v63_72 (L : Nat) (xs : Nat → Int32) : zVal L xs 63 72 (.inr (.inr 2)) := zr_2 d63_72 rfl
theorem v63_73 (L : Nat) (xs : Nat → Int32) : zVal L xs 63 73 (.inl (i_in 5 1 76)) := zS_iinc d63_73 (by decide)
theorem v63_76 (L : Nat) (xs : Nat → Int32) : zVal L xs 63 76 (.inl (i_go 43)) := zS_goto d63_76 (by decide)
theorem v63_79 (L : Nat) (xs : Nat → Int32) : zVal L xs 63 79 (.inl (i_in 4 1 82)) := zS_iinc d63_79 (by decide)
theorem v63_82 (L : Nat) (xs : Nat → Int32) : zVal L xs 63 82 (.inl (i_go 28)) := zS_goto d63_82 (by decide)
theorem v63_85 (L : Nat) (xs : Nat → Int32) : zVal L xs 63 85 (.inl (i_in 3 (-1) 88)) := zS_iinc d63_85 (by decide)
theorem v63_88 (L : Nat) (xs : Nat → Int32) : zVal L xs 63 88 (.inl (i_go 20)) := zS_goto d63_88 (by decide)
theorem v63_91 (L : Nat) (xs : Nat → Int32) : zVal L xs 63 91 (.inl (i_in 2 1 94)) := zS_iinc d63_91 (by decide)
theorem v63_94 (L : Nat) (xs : Nat → Int32) : zVal L xs 63 94 (.inl (i_go 2)) := zS_goto d63_94 (by decide)
theorem v63_97 (L : Nat) (xs : Nat → Int32) : zVal L xs 63 97 (.inl (i_c (.int 0) 98)) := zS_iconst d63_97 (by decide)
theorem v63_98 (L : Nat) (xs : Nat → Int32) : zVal L xs 63 98 (.inr (.inr 2)) := zr_2 d63_98 rfl
theorem vt63 (L : Nat) (xs : Nat → Int32) : zAll (fun x => zVal L xs 63 x.1 x.2) (tb63) := ⟨v63_0 L xs, v63_1 L xs, v63_2 L xs, v63_3 L xs, v63_4 L xs, v63_7 L xs, v63_8 L xs, v63_9 L xs, v63_12 L xs, v63_13 L xs, v63_16 L xs, v63_19 L xs, v63_20 L xs, v63_21 L xs, v63_22 L xs, v63_25 L xs, v63_26 L xs, v63_28 L xs, v63_30 L xs, v63_31 L xs, v63_34 L xs, v63_37 L xs, v63_40 L xs, v63_41 L xs, v63_43 L xs, v63_45 L xs, v63_46 L xs, v63_47 L xs, v63_48 L xs, v63_51 L xs, v63_54 L xs, v63_57 L xs, v63_58 L xs, v63_59 L xs, v63_60 L xs, v63_62 L xs, v63_64 L xs, v63_65 L xs, v63_68 L xs, v63_71 L xs, v63_72 L xs, v63_73 L xs, v63_76 L xs, v63_79 L xs, v63_82 L xs, v63_85 L xs, v63_88 L xs, v63_91 L xs, v63_94 L xs, v63_97 L xs, v63_98 L xs, trivial⟩
theorem d64_0 : decode (mB 64) 0 = .ok (.aload_n 0, 1) := by decide +kernel
theorem d64_1 : decode (mB 64) 1 = .ok (.getfield 27, 3) := by decide +kernel
theorem d64_4 : decode (mB 64) 4 = .ok (.iload_n 2, 1) := by decide +kernel
theorem d64_5 : decode (mB 64) 5 = .ok (.iload_n 3, 1) := by decide +kernel
theorem d64_6 : decode (mB 64) 6 = .ok (.iload 4, 2) := by decide +kernel
theorem d64_8 : decode (mB 64) 8 = .ok (.iload 5, 2) := by decide +kernel
theorem d64_10 : decode (mB 64) 10 = .ok (.invokevirtual 104, 3) := by decide +kernel
theorem d64_13 : decode (mB 64) 13 = .ok (.istore 6, 2) := by decide +kernel
theorem d64_15 : decode (mB 64) 15 = .ok (.iload 6, 2) := by decide +kernel
theorem d64_17 : decode (mB 64) 17 = .ok (.iconst 2, 1) := by decide +kernel
theorem d64_18 : decode (mB 64) 18 = .ok (.if_icmp .lt 22, 3) := by decide +kernel
theorem d64_21 : decode (mB 64) 21 = .ok (.aload_n 0, 1) := by decide +kernel
theorem d64_22 : decode (mB 64) 22 = .ok (.getfield 12, 3) := by decide +kernel
theorem d64_25 : decode (mB 64) 25 = .ok (.aload_n 1, 1) := by decide +kernel
theorem d64_26 : decode (mB 64) 26 = .ok (.iconst 0, 1) := by decide +kernel
theorem d64_27 : decode (mB 64) 27 = .ok (.iload 5, 2) := by decide +kernel
theorem d64_29 : decode (mB 64) 29 = .ok (.iload 6, 2) := by decide +kernel
theorem d64_31 : decode (mB 64) 31 = .ok (.iconst 1, 1) := by decide +kernel
theorem d64_32 : decode (mB 64) 32 = .ok (.isub, 1) := by decide +kernel
theorem d64_33 : decode (mB 64) 33 = .ok (.iconst 1, 1) := by decide +kernel
theorem d64_34 : decode (mB 64) 34 = .ok (.invokevirtual 81, 3) := by decide +kernel
theorem d64_37 : decode (mB 64) 37 = .ok (.ifCond .ne 5, 3) := by decide +kernel
theorem d64_40 : decode (mB 64) 40 = .ok (.iconst 0, 1) := by decide +kernel
theorem d64_41 : decode (mB 64) 41 = .ok (.ireturn, 1) := by decide +kernel
theorem d64_42 : decode (mB 64) 42 = .ok (.aload_n 0, 1) := by decide +kernel
theorem d64_43 : decode (mB 64) 43 = .ok (.aload_n 1, 1) := by decide +kernel
theorem d64_44 : decode (mB 64) 44 = .ok (.invokevirtual 108, 3) := by decide +kernel
theorem d64_47 : decode (mB 64) 47 = .ok (.istore 7, 2) := by decide +kernel
theorem d64_49 : decode (mB 64) 49 = .ok (.iload 7, 2) := by decide +kernel
theorem d64_51 : decode (mB 64) 51 = .ok (.iconst (-1), 1) := by decide +kernel
theorem d64_52 : decode (mB 64) 52 = .ok (.if_icmp .eq 15, 3) := by decide +kernel
theorem d64_55 : decode (mB 64) 55 = .ok (.aload_n 0, 1) := by decide +kernel
theorem d64_56 : decode (mB 64) 56 = .ok (.getfield 97, 3) := by decide +kernel
theorem d64_59 : decode (mB 64) 59 = .ok (.iload 7, 2) := by decide +kernel
theorem d64_61 : decode (mB 64) 61 = .ok (.invokestatic 93, 3) := by decide +kernel
theorem d64_64 : decode (mB 64) 64 = .ok (.ifCond .eq 5, 3) := by decide +kernel
theorem d64_67 : decode (mB 64) 67 = .ok (.iconst 0, 1) := by decide +kernel
theorem d64_68 : decode (mB 64) 68 = .ok (.ireturn, 1) := by decide +kernel
theorem d64_69 : decode (mB 64) 69 = .ok (.aload_n 0, 1) := by decide +kernel
theorem d64_70 : decode (mB 64) 70 = .ok (.aload_n 1, 1) := by decide +kernel
theorem d64_71 : decode (mB 64) 71 = .ok (.iload 7, 2) := by decide +kernel
theorem d64_73 : decode (mB 64) 73 = .ok (.iload_n 2, 1) := by decide +kernel
theorem d64_74 : decode (mB 64) 74 = .ok (.iconst 1, 1) := by decide +kernel
theorem d64_75 : decode (mB 64) 75 = .ok (.iadd, 1) := by decide +kernel
theorem d64_76 : decode (mB 64) 76 = .ok (.invokevirtual 40, 3) := by decide +kernel
theorem d64_79 : decode (mB 64) 79 = .ok (.ifCond .ne 18, 3) := by decide +kernel
theorem d64_82 : decode (mB 64) 82 = .ok (.aload_n 0, 1) := by decide +kernel
theorem d64_83 : decode (mB 64) 83 = .ok (.dup, 1) := by decide +kernel
theorem d64_84 : decode (mB 64) 84 = .ok (.getfield 97, 3) := by decide +kernel
theorem d64_87 : decode (mB 64) 87 = .ok (.lconst 1, 1) := by decide +kernel
theorem d64_88 : decode (mB 64) 88 = .ok (.iload 7, 2) := by decide +kernel
theorem d64_90 : decode (mB 64) 90 = .ok (.lshl, 1) := by decide +kernel
theorem d64_91 : decode (mB 64) 91 = .ok (.lor, 1) := by decide +kernel
theorem d64_92 : decode (mB 64) 92 = .ok (.putfield 97, 3) := by decide +kernel
theorem d64_95 : decode (mB 64) 95 = .ok (.iconst 0, 1) := by decide +kernel
theorem d64_96 : decode (mB 64) 96 = .ok (.ireturn, 1) := by decide +kernel
theorem d64_97 : decode (mB 64) 97 = .ok (.aload_n 1, 1) := by decide +kernel
theorem d64_98 : decode (mB 64) 98 = .ok (.getfield 59, 3) := by decide +kernel
theorem d64_101 : decode (mB 64) 101 = .ok (.iconst 0, 1) := by decide +kernel
theorem d64_102 : decode (mB 64) 102 = .ok (.aaload, 1) := by decide +kernel
theorem d64_103 : decode (mB 64) 103 = .ok (.iload_n 2, 1) := by decide +kernel
theorem d64_104 : decode (mB 64) 104 = .ok (.iload_n 3, 1) := by decide +kernel
theorem d64_105 : decode (mB 64) 105 = .ok (.iload 4, 2) := by decide +kernel
theorem d64_107 : decode (mB 64) 107 = .ok (.iload 5, 2) := by decide +kernel
theorem d64_109 : decode (mB 64) 109 = .ok (.iload 6, 2) := by decide +kernel
theorem d64_111 : decode (mB 64) 111 = .ok (.invokevirtual 112, 3) := by decide +kernel
theorem d64_114 : decode (mB 64) 114 = .ok (.aload_n 1, 1) := by decide +kernel
theorem d64_115 : decode (mB 64) 115 = .ok (.getfield 59, 3) := by decide +kernel
theorem d64_118 : decode (mB 64) 118 = .ok (.iconst 0, 1) := by decide +kernel
theorem d64_119 : decode (mB 64) 119 = .ok (.aaload, 1) := by decide +kernel
theorem d64_120 : decode (mB 64) 120 = .ok (.iconst 0, 1) := by decide +kernel
theorem d64_121 : decode (mB 64) 121 = .ok (.iload 7, 2) := by decide +kernel
theorem d64_123 : decode (mB 64) 123 = .ok (.invokevirtual 73, 3) := by decide +kernel
theorem d64_126 : decode (mB 64) 126 = .ok (.iconst 1, 1) := by decide +kernel
theorem d64_127 : decode (mB 64) 127 = .ok (.ireturn, 1) := by decide +kernel
theorem v64_0 (L : Nat) (xs : Nat → Int32) : zVal L xs 64 0 (.inl (i_al 0 1)) := zS_aload_n d64_0 rfl
theorem v64_1 (L : Nat) (xs : Nat → Int32) : zVal L xs 64 1 (.inl (i_gf 6 0 4)) := zS_getf d64_1 (zcl6) (by decide) zi6 w367
theorem v64_4 (L : Nat) (xs : Nat → Int32) : zVal L xs 64 4 (.inl (i_il 2 5)) := zS_iload_n d64_4 rfl
theorem v64_5 (L : Nat) (xs : Nat → Int32) : zVal L xs 64 5 (.inl (i_il 3 6)) := zS_iload_n d64_5 rfl
theorem v64_6 (L : Nat) (xs : Nat → Int32) : zVal L xs 64 6 (.inl (i_il 4 8)) := zS_iload d64_6
theorem v64_8 (L : Nat) (xs : Nat → Int32) : zVal L xs 64 8 (.inl (i_il 5 10)) := zS_iload d64_8
theorem v64_10 (L : Nat) (xs : Nat → Int32) : zVal L xs 64 10 (.inr (.inl (86, 5, 9))) := ⟨by decide +kernel, by decide +kernel, zc_virt d64_10 zcl8 w690 w687 w688 w689 w82 ⟨by decide +kernel, by decide +kernel, by decide +kernel⟩ (by decide) (by decide)⟩
theorem v64_13 (L : Nat) (xs : Nat → Int32) : zVal L xs 64 13 (.inl (i_is 6 15)) := zS_istore d64_13
theorem v64_15 (L : Nat) (xs : Nat → Int32) : zVal L xs 64 15 (.inl (i_il 6 17)) := zS_iload d64_15
theorem v64_17 (L : Nat) (xs : Nat → Int32) : zVal L xs 64 17 (.inl (i_c (.int 2) 18)) := zS_iconst d64_17 (by decide)
theorem v64_18 (L : Nat) (xs : Nat → Int32) : zVal L xs 64 18 (.inl (i_f2 (fun x y => decide (x < y)) 40 21)) := zS_icmp_lt d64_18 (by decide)
theorem v64_21 (L : Nat) (xs : Nat → Int32) : zVal L xs 64 21 (.inl (i_al 0 22)) := zS_aload_n d64_21 rfl
theorem v64_22 (L : Nat) (xs : Nat → Int32) : zVal L xs 64 22 (.inl (i_gf 6 1 25)) := zS_getf d64_22 (zcl6) (by decide) zi6 w369
theorem v64_25 (L : Nat) (xs : Nat → Int32) : zVal L xs 64 25 (.inl (i_al 1 26)) := zS_aload_n d64_25 rfl
theorem v64_26 (L : Nat) (xs : Nat → Int32) : zVal L xs 64 26 (.inl (i_c (.int 0) 27)) := zS_iconst d64_26 (by decide)
theorem v64_27 (L : Nat) (xs : Nat → Int32) : zVal L xs 64 27 (.inl (i_il 5 29)) := zS_iload d64_27
theorem v64_29 (L : Nat) (xs : Nat → Int32) : zVal L xs 64 29 (.inl (i_il 6 31)) := zS_iload d64_29
theorem v64_31 (L : Nat) (xs : Nat → Int32) : zVal L xs 64 31 (.inl (i_c (.int 1) 32)) := zS_iconst d64_31 (by decide)
theorem v64_32 (L : Nat) (xs : Nat → Int32) : zVal L xs 64 32 (.inl (i_bi (fun x y => x - y) 33)) := zS_isub d64_32
theorem v64_33 (L : Nat) (xs : Nat → Int32) : zVal L xs 64 33 (.inl (i_c (.int 1) 34)) := zS_iconst d64_33 (by decide)
theorem v64_34 (L : Nat) (xs : Nat → Int32) : zVal L xs 64 34 (.inr (.inl (34, 6, 3))) := ⟨by decide +kernel, by decide +kernel, zc_virt d64_34 zcl2 w622 w619 w620 w621 w81 ⟨by decide +kernel, by decide +kernel, by decide +kernel⟩ (by decide) (by decide)⟩
theorem v64_37 (L : Nat) (xs : Nat → Int32) : zVal L xs 64 37 (.inl (i_f1 (fun x => decide (¬ x = 0)) 42 40)) := zS_if_ne d64_37 (by decide)
theorem v64_40 (L : Nat) (xs : Nat → Int32) : zVal L xs 64 40 (.inl (i_k [true, true, true, true, true, true, true, true] (i_c (.int 0) 41))) := zS_k (zS_iconst d64_40 (by decide))
theorem v64_41 (L : Nat) (xs : Nat → Int32) : zVal L xs 64 41 (.inr (.inr 2)) := zr_2 d64_41 rfl
theorem v64_42 (L : Nat) (xs : Nat → Int32) : zVal L xs 64 42 (.inl (i_al 0 43)) := zS_aload_n d64_42 rfl
theorem v64_43 (L : Nat) (xs : Nat → Int32) : zVal L xs 64 43 (.inl (i_al 1 44)) := zS_aload_n d64_43 rfl
theorem v64_44 (L : Nat) (xs : Nat → Int32) : zVal L xs 64 44 (.inr (.inl (65, 2, 7))) := ⟨by decide +kernel, by decide +kernel, zc_virt d64_44 zcl6 w695 w692 w694 w27 w80 ⟨by decide +kernel, by decide +kernel, by decide +kernel⟩ (by decide) (by decide)⟩
theorem v64_47 (L : Nat) (xs : Nat → Int32) : zVal L xs 64 47 (.inl (i_is 7 49)) := zS_istore d64_47
theorem v64_49 (L : Nat) (xs : Nat → Int32) : zVal L xs 64 49 (.inl (i_il 7 51)) := zS_iload d64_49
theorem v64_51 (L : Nat) (xs : Nat → Int32) : zVal L xs 64 51 (.inl (i_c (.int (-1)) 52)) := zS_iconst d64_51 (by decide)
theorem v64_52 (L : Nat) (xs : Nat → Int32) : zVal L xs 64 52 (.inl (i_f2 (fun x y => decide (x = y)) 67 55)) := zS_icmp_eq d64_52 (by decide)
theorem v64_55 (L : Nat) (xs : Nat → Int32) : zVal L xs 64 55 (.inl (i_al 0 56)) := zS_aload_n d64_55 rfl
theorem v64_56 (L : Nat) (xs : Nat → Int32) : zVal L xs 64 56 (.inl (i_gf 6 3 59)) := zS_getf d64_56 (zcl6) (by decide) zi6 w371
theorem v64_59 (L : Nat) (xs : Nat → Int32) : zVal L xs 64 59 (.inl (i_il 7 61)) := zS_iload d64_59
theorem v64_61 (L : Nat) (xs : Nat → Int32) : zVal L xs 64 61 (.inr (.inl (22, 2, 0))) := ⟨by decide +kernel, by decide +kernel, zc_staticN (host := "EditionGrid") d64_61 w578 (by decide +kernel) w577 w73 ⟨by decide +kernel, by decide +kernel, by decide +kernel⟩ (by decide) (by decide)⟩
theorem v64_64 (L : Nat) (xs : Nat → Int32) : zVal L xs 64 64 (.inl (i_f1 (fun x => decide (x = 0)) 69 67)) := zS_if_eq d64_64 (by decide)
theorem v64_67 (L : Nat) (xs : Nat → Int32) : zVal L xs 64 67 (.inl (i_k [true, true, true, true, true, true, true, true] (i_c (.int 0) 68))) := zS_k (zS_iconst d64_67 (by decide))
theorem v64_68 (L : Nat) (xs : Nat → Int32) : zVal L xs 64 68 (.inr (.inr 2)) := zr_2 d64_68 rfl
theorem v64_69 (L : Nat) (xs : Nat → Int32) : zVal L xs 64 69 (.inl (i_al 0 70)) := zS_aload_n d64_69 rfl
theorem v64_70 (L : Nat) (xs : Nat → Int32) : zVal L xs 64 70 (.inl (i_al 1 71)) := zS_aload_n d64_70 rfl
theorem v64_71 (L : Nat) (xs : Nat → Int32) : zVal L xs 64 71 (.inl (i_il 7 73)) := zS_iload d64_71
theorem v64_73 (L : Nat) (xs : Nat → Int32) : zVal L xs 64 73 (.inl (i_il 2 74)) := zS_iload_n d64_73 rfl
theorem v64_74 (L : Nat) (xs : Nat → Int32) : zVal L xs 64 74 (.inl (i_c (.int 1) 75)) := zS_iconst d64_74 (by decide)
theorem v64_75 (L : Nat) (xs : Nat → Int32) : zVal L xs 64 75 (.inl (i_bi (fun x y => x + y) 76)) := zS_iadd d64_75
theorem v64_76 (L : Nat) (xs : Nat → Int32) : zVal L xs 64 76 (.inr (.inl (61, 4, 7))) := ⟨by decide +kernel, by decide +kernel, zc_virt d64_76 zcl6 w614 w611 w613 w17 w80 ⟨by decide +kernel, by decide +kernel, by decide +kernel⟩ (by decide) (by decide)⟩
theorem v64_79 (L : Nat) (xs : Nat → Int32) : zVal L xs 64 79 (.inl (i_f1 (fun x => decide (¬ x = 0)) 97 82)) := zS_if_ne d64_79 (by decide)
theorem v64_82 (L : Nat) (xs : Nat → Int32) : zVal L xs 64 82 (.inl (i_al 0 83)) := zS_aload_n d64_82 rfl
theorem v64_83 (L : Nat) (xs : Nat → Int32) : zVal L xs 64 83 (.inl (i_dup 84)) := zS_dup d64_83
theorem v64_84 (L : Nat) (xs : Nat → Int32) : zVal L xs 64 84 (.inl (i_gf 6 3 87)) := zS_getf d64_84 (zcl6) (by decide) zi6 w371
theorem v64_87 (L : Nat) (xs : Nat → Int32) : zVal L xs 64 87 (.inl (i_c (.long 1) 88)) := zS_lconst d64_87 (by decide)
theorem v64_88 (L : Nat) (xs : Nat → Int32) : zVal L xs 64 88 (.inl (i_il 7 90)) := zS_iload d64_88
theorem v64_90 (L : Nat) (xs : Nat → Int32) : zVal L xs 64 90 (.inl (i_sl (fun x y => x <<< (y.toInt64 &&& 63)) 91)) := zS_lshl d64_90
theorem v64_91 (L : Nat) (xs : Nat → Int32) : zVal L xs 64 91 (.inl (i_bl (fun x y => x ||| y) 92)) := zS_lor d64_91
theorem v64_92 (L : Nat) (xs : Nat → Int32) : zVal L xs 64 92 (.inl (i_pf 6 3 okJ 95)) := zS_putf (ty := .long) d64_92 (zcl6) (by decide) zi6 w371 zy6 zn6 (by decide +kernel) (by decide +kernel) okJ_ok
theorem v64_95 (L : Nat) (xs : Nat → Int32) : zVal L xs 64 95 (.inl (i_c (.int 0) 96)) := zS_iconst d64_95 (by decide)
theorem v64_96 (L : Nat) (xs : Nat → Int32) : zVal L xs 64 96 (.inr (.inr 2)) := zr_2 d64_96 rfl
theorem v64_97 (L : Nat) (xs : Nat → Int32) : zVal L xs 64 97 (.inl (i_al 1 98)) := zS_aload_n d64_97 rfl
theorem v64_98 (L : Nat) (xs : Nat → Int32) : zVal L xs 64 98 (.inl (i_gf 9 7 101)) := zS_getfN (host := "EditionGrid") d64_98 (zcl9) (by decide) zi9 (by decide +kernel)
theorem v64_101 (L : Nat) (xs : Nat → Int32) : zVal L xs 64 101 (.inl (i_c (.int 0) 102)) := zS_iconst d64_101 (by decide)
theorem v64_102 (L : Nat) (xs : Nat → Int32) : zVal L xs 64 102 (.inl (i_gq 5 103)) := zS_aald5 d64_102
theorem v64_103 (L : Nat) (xs : Nat → Int32) : zVal L xs 64 103 (.inl (i_il 2 104)) := zS_iload_n d64_103 rfl
theorem v64_104 (L : Nat) (xs : Nat → Int32) : zVal L xs 64 104 (.inl (i_il 3 105)) := zS_iload_n d64_104 rfl
theorem v64_105 (L : Nat) (xs : Nat → Int32) : zVal L xs 64 105 (.inl (i_il 4 107)) := zS_iload d64_105
theorem v64_107 (L : Nat) (xs : Nat → Int32) : zVal L xs 64 107 (.inl (i_il 5 109)) := zS_iload d64_107
theorem v64_109 (L : Nat) (xs : Nat → Int32) : zVal L xs 64 109 (.inl (i_il 6 111)) := zS_iload d64_109
theorem v64_111 (L : Nat) (xs : Nat → Int32) : zVal L xs 64 111 (.inr (.inl (48, 6, 5))) := ⟨by decide +kernel, by decide +kernel, zc_virt d64_111 zcl4 w644 w696 w642 w643 w76 ⟨by decide +kernel, by decide +kernel, by decide +kernel⟩ (by decide) (by decide)⟩
theorem v64_114 (L : Nat) (xs : Nat → Int32) : zVal L xs 64 114 (.inl (i_al 1 115)) := zS_aload_n d64_114 rfl
theorem v64_115 (L : Nat) (xs : Nat → Int32) : zVal L xs 64 115 (.inl (i_gf 9 7 118)) := zS_getfN (host := "EditionGrid") d64_115 (zcl9) (by decide) zi9 (by decide +kernel)
theorem v64_118 (L : Nat) (xs : Nat → Int32) : zVal L xs 64 118 (.inl (i_c (.int 0) 119)) := zS_iconst d64_118 (by decide)
theorem v64_119 (L : Nat) (xs : Nat → Int32) : zVal L xs 64 119 (.inl (i_gq 5 120)) := zS_aald5 d64_119
theorem v64_120 (L : Nat) (xs : Nat → Int32) : zVal L xs 64 120 (.inl (i_c (.int 0) 121)) := zS_iconst d64_120 (by decide)
theorem v64_121 (L : Nat) (xs : Nat → Int32) : zVal L xs 64 121 (.inl (i_il 7 123)) := zS_iload d64_121
theorem v64_123 (L : Nat) (xs : Nat → Int32) : zVal L xs 64 123 (.inr (.inl (49, 3, 5))) := ⟨by decide +kernel, by decide +kernel, zc_virt d64_123 zcl4 w648 w645 w646 w647 w76 ⟨by decide +kernel, by decide +kernel, by decide +kernel⟩ (by decide) (by decide)⟩
theorem v64_126 (L : Nat) (xs : Nat → Int32) : zVal L xs 64 126 (.inl (i_c (.int 1) 127)) := zS_iconst d64_126 (by decide)
theorem v64_127 (L : Nat) (xs : Nat → Int32) : zVal L xs 64 127 (.inr (.inr 2)) := zr_2 d64_127 rfl
theorem vt64 (L : Nat) (xs : Nat → Int32) : zAll (fun x => zVal L xs 64 x.1 x.2) (tb64) := ⟨v64_0 L xs, v64_1 L xs, v64_4 L xs, v64_5 L xs, v64_6 L xs, v64_8 L xs, v64_10 L xs, v64_13 L xs, v64_15 L xs, v64_17 L xs, v64_18 L xs, v64_21 L xs, v64_22 L xs, v64_25 L xs, v64_26 L xs, v64_27 L xs, v64_29 L xs, v64_31 L xs, v64_32 L xs, v64_33 L xs, v64_34 L xs, v64_37 L xs, v64_40 L xs, v64_41 L xs, v64_42 L xs, v64_43 L xs, v64_44 L xs, v64_47 L xs, v64_49 L xs, v64_51 L xs, v64_52 L xs, v64_55 L xs, v64_56 L xs, v64_59 L xs, v64_61 L xs, v64_64 L xs, v64_67 L xs, v64_68 L xs, v64_69 L xs, v64_70 L xs, v64_71 L xs, v64_73 L xs, v64_74 L xs, v64_75 L xs, v64_76 L xs, v64_79 L xs, v64_82 L xs, v64_83 L xs, v64_84 L xs, v64_87 L xs, v64_88 L xs, v64_90 L xs, v64_91 L xs, v64_92 L xs, v64_95 L xs, v64_96 L xs, v64_97 L xs, v64_98 L xs, v64_101 L xs, v64_102 L xs, v64_103 L xs, v64_104 L xs, v64_105 L xs, v64_107 L xs, v64_109 L xs, v64_111 L xs, v64_114 L xs, v64_115 L xs, v64_118 L xs, v64_119 L xs, v64_120 L xs, v64_121 L xs, v64_123 L xs, v64_126 L xs, v64_127 L xs, trivial⟩
theorem d65_0 : decode (mB 65) 0 = .ok (.aload_n 0, 1) := by decide +kernel
theorem d65_1 : decode (mB 65) 1 = .ok (.getfield 12, 3) := by decide +kernel
theorem d65_4 : decode (mB 65) 4 = .ok (.iconst 0, 1) := by decide +kernel
theorem d65_5 : decode (mB 65) 5 = .ok (.aload_n 1, 1) := by decide +kernel
theorem d65_6 : decode (mB 65) 6 = .ok (.invokevirtual 85, 3) := by decide +kernel
theorem d65_9 : decode (mB 65) 9 = .ok (.invokevirtual 89, 3) := by decide +kernel
theorem d65_12 : decode (mB 65) 12 = .ok (.lstore_n 2, 1) := by decide +kernel
theorem d65_13 : decode (mB 65) 13 = .ok (.aload_n 1, 1) := by decide +kernel
theorem d65_14 : decode (mB 65) 14 = .ok (.getfield 37, 3) := by decide +kernel
theorem d65_17 : decode (mB 65) 17 = .ok (.iconst 2, 1) := by decide +kernel
theorem d65_18 : decode (mB 65) 18 = .ok (.isub, 1) := by decide +kernel
theorem d65_19 : decode (mB 65) 19 = .ok (.istore 4, 2) := by decide +kernel
theorem d65_21 : decode (mB 65) 21 = .ok (.iload 4, 2) := by decide +kernel
theorem d65_23 : decode (mB 65) 23 = .ok (.iconst 2, 1) := by decide +kernel
theorem d65_24 : decode (mB 65) 24 = .ok (.if_icmp .lt 21, 3) := by decide +kernel
theorem d65_27 : decode (mB 65) 27 = .ok (.lload_n 2, 1) := by decide +kernel
theorem d65_28 : decode (mB 65) 28 = .ok (.iload 4, 2) := by decide +kernel
theorem d65_30 : decode (mB 65) 30 = .ok (.invokestatic 93, 3) := by decide +kernel
theorem d65_33 : decode (mB 65) 33 = .ok (.ifCond .eq 6, 3) := by decide +kernel
theorem d65_36 : decode (mB 65) 36 = .ok (.iload 4, 2) := by decide +kernel
theorem d65_38 : decode (mB 65) 38 = .ok (.ireturn, 1) := by decide +kernel
theorem d65_39 : decode (mB 65) 39 = .ok (.iinc 4 (-1), 3) := by decide +kernel
theorem d65_42 : decode (mB 65) 42 = .ok (.goto (-21), 3) := by decide +kernel
theorem d65_45 : decode (mB 65) 45 = .ok (.iconst (-1), 1) := by decide +kernel
theorem d65_46 : decode (mB 65) 46 = .ok (.ireturn, 1) := by decide +kernel
theorem v65_0 (L : Nat) (xs : Nat → Int32) : zVal L xs 65 0 (.inl (i_al 0 1)) := zS_aload_n d65_0 rfl
theorem v65_1 (L : Nat) (xs : Nat → Int32) : zVal L xs 65 1 (.inl (i_gf 6 1 4)) := zS_getf d65_1 (zcl6) (by decide) zi6 w369
theorem v65_4 (L : Nat) (xs : Nat → Int32) : zVal L xs 65 4 (.inl (i_c (.int 0) 5)) := zS_iconst d65_4 (by decide)
theorem v65_5 (L : Nat) (xs : Nat → Int32) : zVal L xs 65 5 (.inl (i_al 1 6)) := zS_aload_n d65_5 rfl
theorem v65_6 (L : Nat) (xs : Nat → Int32) : zVal L xs 65 6 (.inr (.inl (93, 1, 10))) := ⟨by decide +kernel, by decide +kernel, zc_virt d65_6 zcl9 w626 w623 w624 w625 w75 ⟨by decide +kernel, by decide +kernel, by decide +kernel⟩ (by decide) (by decide)⟩
theorem v65_9 (L : Nat) (xs : Nat → Int32) : zVal L xs 65 9 (.inr (.inl (35, 3, 3))) := ⟨by decide +kernel, by decide +kernel, zc_virt d65_9 zcl2 w631 w628 w629 w630 w81 ⟨by decide +kernel, by decide +kernel, by decide +kernel⟩ (by decide) (by decide)⟩
theorem v65_12 (L : Nat) (xs : Nat → Int32) : zVal L xs 65 12 (.inl (i_ls 2 13)) := zS_lstore_n d65_12 rfl
theorem v65_13 (L : Nat) (xs : Nat → Int32) : zVal L xs 65 13 (.inl (i_al 1 14)) := zS_aload_n d65_13 rfl
theorem v65_14 (L : Nat) (xs : Nat → Int32) : zVal L xs 65 14 (.inl (i_gf 9 15 17)) := zS_getfN (host := "EditionGrid") d65_14 (zcl9) (by decide) zi9 (by decide +kernel)
theorem v65_17 (L : Nat) (xs : Nat → Int32) : zVal L xs 65 17 (.inl (i_c (.int 2) 18)) := zS_iconst d65_17 (by decide)
theorem v65_18 (L : Nat) (xs : Nat → Int32) : zVal L xs 65 18 (.inl (i_bi (fun x y => x - y) 19)) := zS_isub d65_18
theorem v65_19 (L : Nat) (xs : Nat → Int32) : zVal L xs 65 19 (.inl (i_is 4 21)) := zS_istore d65_19
theorem v65_21 (L : Nat) (xs : Nat → Int32) : zVal L xs 65 21 (.inl (i_k [true, true, false, true, false] (i_il 4 23))) := zS_k (zS_iload d65_21)
theorem v65_23 (L : Nat) (xs : Nat → Int32) : zVal L xs 65 23 (.inl (i_c (.int 2) 24)) := zS_iconst d65_23 (by decide)
theorem v65_24 (L : Nat) (xs : Nat → Int32) : zVal L xs 65 24 (.inl (i_f2 (fun x y => decide (x < y)) 45 27)) := zS_icmp_lt d65_24 (by decide)
theorem v65_27 (L : Nat) (xs : Nat → Int32) : zVal L xs 65 27 (.inl (i_ll 2 28)) := zS_lload_n d65_27 rfl
theorem v65_28 (L : Nat) (xs : Nat → Int32) : zVal L xs 65 28 (.inl (i_il 4 30)) := zS_iload d65_28
theorem v65_30 (L : Nat) (xs : Nat → Int32) : zVal L xs 65 30 (.inr (.inl (22, 2, 0))) := ⟨by decide +kernel, by decide +kernel, zc_staticN (host := "EditionGrid") d65_30 w578 (by decide +kernel) w577 w73 ⟨by decide +kernel, by decide +kernel, by decide +kernel⟩ (by decide) (by decide)⟩
theorem v65_33 (L : Nat) (xs : Nat → Int32) : zVal L xs 65 33 (.inl (i_f1 (fun x => decide (x = 0)) 39 36)) := zS_if_eq d65_33 (by decide)
theorem v65_36 (L : Nat) (xs : Nat → Int32) : zVal L xs 65 36 (.inl (i_il 4 38)) := zS_iload d65_36
theorem v65_38 (L : Nat) (xs : Nat → Int32) : zVal L xs 65 38 (.inr (.inr 1)) := zr_1 d65_38 rfl
theorem v65_39 (L : Nat) (xs : Nat → Int32) : zVal L xs 65 39 (.inl (i_in 4 (-1) 42)) := zS_iinc d65_39 (by decide)
theorem v65_42 (L : Nat) (xs : Nat → Int32) : zVal L xs 65 42 (.inl (i_go 21)) := zS_goto d65_42 (by decide)
theorem v65_45 (L : Nat) (xs : Nat → Int32) : zVal L xs 65 45 (.inl (i_c (.int (-1)) 46)) := zS_iconst d65_45 (by decide)
theorem v65_46 (L : Nat) (xs : Nat → Int32) : zVal L xs 65 46 (.inr (.inr 1)) := zr_1 d65_46 rfl
theorem vt65 (L : Nat) (xs : Nat → Int32) : zAll (fun x => zVal L xs 65 x.1 x.2) (tb65) := ⟨v65_0 L xs, v65_1 L xs, v65_4 L xs, v65_5 L xs, v65_6 L xs, v65_9 L xs, v65_12 L xs, v65_13 L xs, v65_14 L xs, v65_17 L xs, v65_18 L xs, v65_19 L xs, v65_21 L xs, v65_23 L xs, v65_24 L xs, v65_27 L xs, v65_28 L xs, v65_30 L xs, v65_33 L xs, v65_36 L xs, v65_38 L xs, v65_39 L xs, v65_42 L xs, v65_45 L xs, v65_46 L xs, trivial⟩
theorem d66_0 : decode (mB 66) 0 = .ok (.aload_n 1, 1) := by decide +kernel
theorem d66_1 : decode (mB 66) 1 = .ok (.getfield 59, 3) := by decide +kernel
theorem d66_4 : decode (mB 66) 4 = .ok (.iconst 0, 1) := by decide +kernel
theorem d66_5 : decode (mB 66) 5 = .ok (.aaload, 1) := by decide +kernel
theorem d66_6 : decode (mB 66) 6 = .ok (.astore_n 3, 1) := by decide +kernel
theorem d66_7 : decode (mB 66) 7 = .ok (.bipush 100, 2) := by decide +kernel
theorem d66_9 : decode (mB 66) 9 = .ok (.aload_n 1, 1) := by decide +kernel
theorem d66_10 : decode (mB 66) 10 = .ok (.getfield 116, 3) := by decide +kernel
theorem d66_13 : decode (mB 66) 13 = .ok (.iconst 1, 1) := by decide +kernel
theorem d66_14 : decode (mB 66) 14 = .ok (.iadd, 1) := by decide +kernel
theorem d66_15 : decode (mB 66) 15 = .ok (.imul, 1) := by decide +kernel
theorem d66_16 : decode (mB 66) 16 = .ok (.istore 4, 2) := by decide +kernel
theorem d66_18 : decode (mB 66) 18 = .ok (.aload_n 0, 1) := by decide +kernel
theorem d66_19 : decode (mB 66) 19 = .ok (.aload_n 1, 1) := by decide +kernel
theorem d66_20 : decode (mB 66) 20 = .ok (.aload_n 3, 1) := by decide +kernel
theorem d66_21 : decode (mB 66) 21 = .ok (.iload_n 2, 1) := by decide +kernel
theorem d66_22 : decode (mB 66) 22 = .ok (.invokevirtual 119, 3) := by decide +kernel
theorem d66_25 : decode (mB 66) 25 = .ok (.aload_n 0, 1) := by decide +kernel
theorem d66_26 : decode (mB 66) 26 = .ok (.aload_n 3, 1) := by decide +kernel
theorem d66_27 : decode (mB 66) 27 = .ok (.invokevirtual 123, 3) := by decide +kernel
theorem d66_30 : decode (mB 66) 30 = .ok (.iconst 0, 1) := by decide +kernel
theorem d66_31 : decode (mB 66) 31 = .ok (.istore 5, 2) := by decide +kernel
theorem d66_33 : decode (mB 66) 33 = .ok (.iload 5, 2) := by decide +kernel
theorem d66_35 : decode (mB 66) 35 = .ok (.aload_n 3, 1) := by decide +kernel
theorem d66_36 : decode (mB 66) 36 = .ok (.getfield 127, 3) := by decide +kernel
theorem d66_39 : decode (mB 66) 39 = .ok (.if_icmp .ge 36, 3) := by decide +kernel
theorem d66_42 : decode (mB 66) 42 = .ok (.aload_n 0, 1) := by decide +kernel
theorem d66_43 : decode (mB 66) 43 = .ok (.getfield 27, 3) := by decide +kernel
theorem d66_46 : decode (mB 66) 46 = .ok (.aload_n 3, 1) := by decide +kernel
theorem d66_47 : decode (mB 66) 47 = .ok (.getfield 130, 3) := by decide +kernel
theorem d66_50 : decode (mB 66) 50 = .ok (.aload_n 3, 1) := by decide +kernel
theorem d66_51 : decode (mB 66) 51 = .ok (.getfield 133, 3) := by decide +kernel
theorem d66_54 : decode (mB 66) 54 = .ok (.iload 5, 2) := by decide +kernel
theorem d66_56 : decode (mB 66) 56 = .ok (.iadd, 1) := by decide +kernel
theorem d66_57 : decode (mB 66) 57 = .ok (.aload_n 3, 1) := by decide +kernel
theorem d66_58 : decode (mB 66) 58 = .ok (.getfield 136, 3) := by decide +kernel
theorem d66_61 : decode (mB 66) 61 = .ok (.iload 4, 2) := by decide +kernel
theorem d66_63 : decode (mB 66) 63 = .ok (.bipush 80, 2) := by decide +kernel
theorem d66_65 : decode (mB 66) 65 = .ok (.iadd, 1) := by decide +kernel
theorem d66_66 : decode (mB 66) 66 = .ok (.invokevirtual 139, 3) := by decide +kernel
theorem d66_69 : decode (mB 66) 69 = .ok (.iinc 5 1, 3) := by decide +kernel
theorem d66_72 : decode (mB 66) 72 = .ok (.goto (-39), 3) := by decide +kernel
theorem d66_75 : decode (mB 66) 75 = .ok (.iconst 0, 1) := by decide +kernel
theorem d66_76 : decode (mB 66) 76 = .ok (.istore 5, 2) := by decide +kernel
theorem d66_78 : decode (mB 66) 78 = .ok (.iload 5, 2) := by decide +kernel
theorem d66_80 : decode (mB 66) 80 = .ok (.aload_n 1, 1) := by decide +kernel
theorem d66_81 : decode (mB 66) 81 = .ok (.getfield 143, 3) := by decide +kernel
theorem d66_84 : decode (mB 66) 84 = .ok (.if_icmp .ge 57, 3) := by decide +kernel
theorem d66_87 : decode (mB 66) 87 = .ok (.iconst 1, 1) := by decide +kernel
theorem d66_88 : decode (mB 66) 88 = .ok (.istore 6, 2) := by decide +kernel
theorem d66_90 : decode (mB 66) 90 = .ok (.iload 6, 2) := by decide +kernel
theorem d66_92 : decode (mB 66) 92 = .ok (.aload_n 1, 1) := by decide +kernel
theorem d66_93 : decode (mB 66) 93 = .ok (.getfield 146, 3) := by decide +kernel
theorem d66_96 : decode (mB 66) 96 = .ok (.if_icmp .gt 39, 3) := by decide +kernel
theorem d66_99 : decode (mB 66) 99 = .ok (.aload_n 0, 1) := by decide +kernel
theorem d66_100 : decode (mB 66) 100 = .ok (.getfield 27, 3) := by decide +kernel
theorem d66_103 : decode (mB 66) 103 = .ok (.aload_n 3, 1) := by decide +kernel
theorem d66_104 : decode (mB 66) 104 = .ok (.getfield 130, 3) := by decide +kernel
theorem d66_107 : decode (mB 66) 107 = .ok (.aload_n 3, 1) := by decide +kernel
theorem d66_108 : decode (mB 66) 108 = .ok (.getfield 133, 3) := by decide +kernel
theorem d66_111 : decode (mB 66) 111 = .ok (.iload 5, 2) := by decide +kernel
theorem d66_113 : decode (mB 66) 113 = .ok (.iadd, 1) := by decide +kernel
theorem d66_114 : decode (mB 66) 114 = .ok (.aload_n 3, 1) := by decide +kernel
theorem d66_115 : decode (mB 66) 115 = .ok (.getfield 136, 3) := by decide +kernel
theorem d66_118 : decode (mB 66) 118 = .ok (.iload 6, 2) := by decide +kernel
theorem d66_120 : decode (mB 66) 120 = .ok (.iadd, 1) := by decide +kernel
theorem d66_121 : decode (mB 66) 121 = .ok (.iload 4, 2) := by decide +kernel
theorem d66_123 : decode (mB 66) 123 = .ok (.bipush 81, 2) := by decide +kernel
theorem d66_125 : decode (mB 66) 125 = .ok (.iadd, 1) := by decide +kernel
theorem d66_126 : decode (mB 66) 126 = .ok (.invokevirtual 139, 3) := by decide +kernel
theorem d66_129 : decode (mB 66) 129 = .ok (.iinc 6 1, 3) := by decide +kernel
theorem d66_132 : decode (mB 66) 132 = .ok (.goto (-42), 3) := by decide +kernel
theorem d66_135 : decode (mB 66) 135 = .ok (.iinc 5 1, 3) := by decide +kernel
theorem d66_138 : decode (mB 66) 138 = .ok (.goto (-60), 3) := by decide +kernel
theorem d66_141 : decode (mB 66) 141 = .ok (.aload_n 0, 1) := by decide +kernel
theorem d66_142 : decode (mB 66) 142 = .ok (.aload_n 3, 1) := by decide +kernel
theorem d66_143 : decode (mB 66) 143 = .ok (.iload 4, 2) := by decide +kernel
theorem d66_145 : decode (mB 66) 145 = .ok (.aload_n 1, 1) := by decide +kernel
theorem d66_146 : decode (mB 66) 146 = .ok (.getfield 143, 3) := by decide +kernel
theorem d66_149 : decode (mB 66) 149 = .ok (.aload_n 1, 1) := by decide +kernel
theorem d66_150 : decode (mB 66) 150 = .ok (.getfield 146, 3) := by decide +kernel
theorem d66_153 : decode (mB 66) 153 = .ok (.invokevirtual 149, 3) := by decide +kernel
theorem d66_156 : decode (mB 66) 156 = .ok (.iload_n 2, 1) := by decide +kernel
theorem d66_157 : decode (mB 66) 157 = .ok (.ifCond .le 41, 3) := by decide +kernel
theorem d66_160 : decode (mB 66) 160 = .ok (.aload_n 0, 1) := by decide +kernel
theorem d66_161 : decode (mB 66) 161 = .ok (.getfield 27, 3) := by decide +kernel
theorem d66_164 : decode (mB 66) 164 = .ok (.aload_n 3, 1) := by decide +kernel
theorem d66_165 : decode (mB 66) 165 = .ok (.getfield 130, 3) := by decide +kernel
theorem d66_168 : decode (mB 66) 168 = .ok (.aload_n 3, 1) := by decide +kernel
theorem d66_169 : decode (mB 66) 169 = .ok (.getfield 133, 3) := by decide +kernel
theorem d66_172 : decode (mB 66) 172 = .ok (.aload_n 3, 1) := by decide +kernel
theorem d66_173 : decode (mB 66) 173 = .ok (.getfield 127, 3) := by decide +kernel
theorem d66_176 : decode (mB 66) 176 = .ok (.iadd, 1) := by decide +kernel
theorem d66_177 : decode (mB 66) 177 = .ok (.iconst 1, 1) := by decide +kernel
theorem d66_178 : decode (mB 66) 178 = .ok (.isub, 1) := by decide +kernel
theorem d66_179 : decode (mB 66) 179 = .ok (.aload_n 3, 1) := by decide +kernel
theorem d66_180 : decode (mB 66) 180 = .ok (.getfield 136, 3) := by decide +kernel
theorem d66_183 : decode (mB 66) 183 = .ok (.aload_n 3, 1) := by decide +kernel
theorem d66_184 : decode (mB 66) 184 = .ok (.getfield 153, 3) := by decide +kernel
theorem d66_187 : decode (mB 66) 187 = .ok (.iadd, 1) := by decide +kernel
theorem d66_188 : decode (mB 66) 188 = .ok (.iconst 1, 1) := by decide +kernel
theorem d66_189 : decode (mB 66) 189 = .ok (.isub, 1) := by decide +kernel
theorem d66_190 : decode (mB 66) 190 = .ok (.iload 4, 2) := by decide +kernel
theorem d66_192 : decode (mB 66) 192 = .ok (.bipush 82, 2) := by decide +kernel
theorem d66_194 : decode (mB 66) 194 = .ok (.iadd, 1) := by decide +kernel
theorem d66_195 : decode (mB 66) 195 = .ok (.invokevirtual 139, 3) := by decide +kernel
theorem d66_198 : decode (mB 66) 198 = .ok (.return_, 1) := by decide +kernel
theorem v66_0 (L : Nat) (xs : Nat → Int32) : zVal L xs 66 0 (.inl (i_al 1 1)) := zS_aload_n d66_0 rfl
theorem v66_1 (L : Nat) (xs : Nat → Int32) : zVal L xs 66 1 (.inl (i_gf 9 7 4)) := zS_getfN (host := "EditionGrid") d66_1 (zcl9) (by decide) zi9 (by decide +kernel)
theorem v66_4 (L : Nat) (xs : Nat → Int32) : zVal L xs 66 4 (.inl (i_c (.int 0) 5)) := zS_iconst d66_4 (by decide)
theorem v66_5 (L : Nat) (xs : Nat → Int32) : zVal L xs 66 5 (.inl (i_gq 5 6)) := zS_aald5 d66_5
theorem v66_6 (L : Nat) (xs : Nat → Int32) : zVal L xs 66 6 (.inl (i_as 3 7)) := zS_astore_n d66_6 rfl
theorem v66_7 (L : Nat) (xs : Nat → Int32) : zVal L xs 66 7 (.inl (i_c (.int 100) 9)) := zS_bipush d66_7 (by decide)
theorem v66_9 (L : Nat) (xs : Nat → Int32) : zVal L xs 66 9 (.inl (i_al 1 10)) := zS_aload_n d66_9 rfl
theorem v66_10 (L : Nat) (xs : Nat → Int32) : zVal L xs 66 10 (.inl (i_gf 9 0 13)) := zS_getfN (host := "EditionGrid") d66_10 (zcl9) (by decide) zi9 (by decide +kernel)
theorem v66_13 (L : Nat) (xs : Nat → Int32) : zVal L xs 66 13 (.inl (i_c (.int 1) 14)) := zS_iconst d66_13 (by decide)
theorem v66_14 (L : Nat) (xs : Nat → Int32) : zVal L xs 66 14 (.inl (i_bi (fun x y => x + y) 15)) := zS_iadd d66_14
theorem v66_15 (L : Nat) (xs : Nat → Int32) : zVal L xs 66 15 (.inl (i_bi (fun x y => x * y) 16)) := zS_imul d66_15
theorem v66_16 (L : Nat) (xs : Nat → Int32) : zVal L xs 66 16 (.inl (i_is 4 18)) := zS_istore d66_16
theorem v66_18 (L : Nat) (xs : Nat → Int32) : zVal L xs 66 18 (.inl (i_al 0 19)) := zS_aload_n d66_18 rfl
theorem v66_19 (L : Nat) (xs : Nat → Int32) : zVal L xs 66 19 (.inl (i_al 1 20)) := zS_aload_n d66_19 rfl
theorem v66_20 (L : Nat) (xs : Nat → Int32) : zVal L xs 66 20 (.inl (i_al 3 21)) := zS_aload_n d66_20 rfl
theorem v66_21 (L : Nat) (xs : Nat → Int32) : zVal L xs 66 21 (.inl (i_il 2 22)) := zS_iload_n d66_21 rfl
theorem v66_22 (L : Nat) (xs : Nat → Int32) : zVal L xs 66 22 (.inr (.inl (68, 4, 7))) := ⟨by decide +kernel, by decide +kernel, zc_virt d66_22 zcl6 w656 w653 w655 w21 w80 ⟨by decide +kernel, by decide +kernel, by decide +kernel⟩ (by decide) (by decide)⟩
theorem v66_25 (L : Nat) (xs : Nat → Int32) : zVal L xs 66 25 (.inl (i_al 0 26)) := zS_aload_n d66_25 rfl
theorem v66_26 (L : Nat) (xs : Nat → Int32) : zVal L xs 66 26 (.inl (i_al 3 27)) := zS_aload_n d66_26 rfl
theorem v66_27 (L : Nat) (xs : Nat → Int32) : zVal L xs 66 27 (.inr (.inl (69, 2, 7))) := ⟨by decide +kernel, by decide +kernel, zc_virt d66_27 zcl6 w670 w667 w669 w23 w80 ⟨by decide +kernel, by decide +kernel, by decide +kernel⟩ (by decide) (by decide)⟩
theorem v66_30 (L : Nat) (xs : Nat → Int32) : zVal L xs 66 30 (.inl (i_c (.int 0) 31)) := zS_iconst d66_30 (by decide)
theorem v66_31 (L : Nat) (xs : Nat → Int32) : zVal L xs 66 31 (.inl (i_is 5 33)) := zS_istore d66_31
theorem v66_33 (L : Nat) (xs : Nat → Int32) : zVal L xs 66 33 (.inl (i_k [false, false, false, false, false, false, true] (i_il 5 35))) := zS_k (zS_iload d66_33)
theorem v66_35 (L : Nat) (xs : Nat → Int32) : zVal L xs 66 35 (.inl (i_al 3 36)) := zS_aload_n d66_35 rfl
theorem v66_36 (L : Nat) (xs : Nat → Int32) : zVal L xs 66 36 (.inl (i_gf 4 4 39)) := zS_getfN (host := "EditionGrid") d66_36 (zcl4) (by decide) zi4 (by decide +kernel)
theorem v66_39 (L : Nat) (xs : Nat → Int32) : zVal L xs 66 39 (.inl (i_f2 (fun x y => decide (y ≤ x)) 75 42)) := zS_icmp_ge d66_39 (by decide)
theorem v66_42 (L : Nat) (xs : Nat → Int32) : zVal L xs 66 42 (.inl (i_al 0 43)) := zS_aload_n d66_42 rfl
theorem v66_43 (L : Nat) (xs : Nat → Int32) : zVal L xs 66 43 (.inl (i_gf 6 0 46)) := zS_getf d66_43 (zcl6) (by decide) zi6 w367
theorem v66_46 (L : Nat) (xs : Nat → Int32) : zVal L xs 66 46 (.inl (i_al 3 47)) := zS_aload_n d66_46 rfl
theorem v66_47 (L : Nat) (xs : Nat → Int32) : zVal L xs 66 47 (.inl (i_gf 4 1 50)) := zS_getfN (host := "EditionGrid") d66_47 (zcl4) (by decide) zi4 (by decide +kernel)
theorem v66_50 (L : Nat) (xs : Nat → Int32) : zVal L xs 66 50 (.inl (i_al 3 51)) := zS_aload_n d66_50 rfl
theorem v66_51 (L : Nat) (xs : Nat → Int32) : zVal L xs 66 51 (.inl (i_gf 4 2 54)) := zS_getfN (host := "EditionGrid") d66_51 (zcl4) (by decide) zi4 (by decide +kernel)
theorem v66_54 (L : Nat) (xs : Nat → Int32) : zVal L xs 66 54 (.inl (i_il 5 56)) := zS_iload d66_54
theorem v66_56 (L : Nat) (xs : Nat → Int32) : zVal L xs 66 56 (.inl (i_bi (fun x y => x + y) 57)) := zS_iadd d66_56
theorem v66_57 (L : Nat) (xs : Nat → Int32) : zVal L xs 66 57 (.inl (i_al 3 58)) := zS_aload_n d66_57 rfl
theorem v66_58 (L : Nat) (xs : Nat → Int32) : zVal L xs 66 58 (.inl (i_gf 4 3 61)) := zS_getfN (host := "EditionGrid") d66_58 (zcl4) (by decide) zi4 (by decide +kernel)
theorem v66_61 (L : Nat) (xs : Nat → Int32) : zVal L xs 66 61 (.inl (i_il 4 63)) := zS_iload d66_61
theorem v66_63 (L : Nat) (xs : Nat → Int32) : zVal L xs 66 63 (.inl (i_c (.int 80) 65)) := zS_bipush d66_63 (by decide)
theorem v66_65 (L : Nat) (xs : Nat → Int32) : zVal L xs 66 65 (.inl (i_bi (fun x y => x + y) 66)) := zS_iadd d66_65
theorem v66_66 (L : Nat) (xs : Nat → Int32) : zVal L xs 66 66 (.inr (.inl (84, 5, 9))) := ⟨by decide +kernel, by decide +kernel, zc_virt d66_66 zcl8 w674 w671 w672 w673 w82 ⟨by decide +kernel, by decide +kernel, by decide +kernel⟩ (by decide) (by decide)⟩
theorem v66_69 (L : Nat) (xs : Nat → Int32) : zVal L xs 66 69 (.inl (i_in 5 1 72)) := zS_iinc d66_69 (by decide)
theorem v66_72 (L : Nat) (xs : Nat → Int32) : zVal L xs 66 72 (.inl (i_go 33)) := zS_goto d66_72 (by decide)
theorem v66_75 (L : Nat) (xs : Nat → Int32) : zVal L xs 66 75 (.inl (i_c (.int 0) 76)) := zS_iconst d66_75 (by decide)
theorem v66_76 (L : Nat) (xs : Nat → Int32) : zVal L xs 66 76 (.inl (i_is 5 78)) := zS_istore d66_76
theorem v66_78 (L : Nat) (xs : Nat → Int32) : zVal L xs 66 78 (.inl (i_k [false, false, false, false, false, false, true] (i_il 5 80))) := zS_k (zS_iload d66_78)
theorem v66_80 (L : Nat) (xs : Nat → Int32) : zVal L xs 66 80 (.inl (i_al 1 81)) := zS_aload_n d66_80 rfl
theorem v66_81 (L : Nat) (xs : Nat → Int32) : zVal L xs 66 81 (.inl (i_gf 9 12 84)) := zS_getfN (host := "EditionGrid") d66_81 (zcl9) (by decide) zi9 (by decide +kernel)
theorem v66_84 (L : Nat) (xs : Nat → Int32) : zVal L xs 66 84 (.inl (i_f2 (fun x y => decide (y ≤ x)) 141 87)) := zS_icmp_ge d66_84 (by decide)
theorem v66_87 (L : Nat) (xs : Nat → Int32) : zVal L xs 66 87 (.inl (i_c (.int 1) 88)) := zS_iconst d66_87 (by decide)
theorem v66_88 (L : Nat) (xs : Nat → Int32) : zVal L xs 66 88 (.inl (i_is 6 90)) := zS_istore d66_88
theorem v66_90 (L : Nat) (xs : Nat → Int32) : zVal L xs 66 90 (.inl (i_k [false, false, false, false, false, false, false] (i_il 6 92))) := zS_k (zS_iload d66_90)
theorem v66_92 (L : Nat) (xs : Nat → Int32) : zVal L xs 66 92 (.inl (i_al 1 93)) := zS_aload_n d66_92 rfl
theorem v66_93 (L : Nat) (xs : Nat → Int32) : zVal L xs 66 93 (.inl (i_gf 9 13 96)) := zS_getfN (host := "EditionGrid") d66_93 (zcl9) (by decide) zi9 (by decide +kernel)
theorem v66_96 (L : Nat) (xs : Nat → Int32) : zVal L xs 66 96 (.inl (i_f2 (fun x y => decide (y < x)) 135 99)) := zS_icmp_gt d66_96 (by decide)
theorem v66_99 (L : Nat) (xs : Nat → Int32) : zVal L xs 66 99 (.inl (i_al 0 100)) := zS_aload_n d66_99 rfl
theorem v66_100 (L : Nat) (xs : Nat → Int32) : zVal L xs 66 100 (.inl (i_gf 6 0 103)) := zS_getf d66_100 (zcl6) (by decide) zi6 w367
theorem v66_103 (L : Nat) (xs : Nat → Int32) : zVal L xs 66 103 (.inl (i_al 3 104)) := zS_aload_n d66_103 rfl
theorem v66_104 (L : Nat) (xs : Nat → Int32) : zVal L xs 66 104 (.inl (i_gf 4 1 107)) := zS_getfN (host := "EditionGrid") d66_104 (zcl4) (by decide) zi4 (by decide +kernel)
theorem v66_107 (L : Nat) (xs : Nat → Int32) : zVal L xs 66 107 (.inl (i_al 3 108)) := zS_aload_n d66_107 rfl
theorem v66_108 (L : Nat) (xs : Nat → Int32) : zVal L xs 66 108 (.inl (i_gf 4 2 111)) := zS_getfN (host := "EditionGrid") d66_108 (zcl4) (by decide) zi4 (by decide +kernel)
theorem v66_111 (L : Nat) (xs : Nat → Int32) : zVal L xs 66 111 (.inl (i_il 5 113)) := zS_iload d66_111
theorem v66_113 (L : Nat) (xs : Nat → Int32) : zVal L xs 66 113 (.inl (i_bi (fun x y => x + y) 114)) := zS_iadd d66_113
theorem v66_114 (L : Nat) (xs : Nat → Int32) : zVal L xs 66 114 (.inl (i_al 3 115)) := zS_aload_n d66_114 rfl
theorem v66_115 (L : Nat) (xs : Nat → Int32) : zVal L xs 66 115 (.inl (i_gf 4 3 118)) := zS_getfN (host := "EditionGrid") d66_115 (zcl4) (by decide) zi4 (by decide +kernel)
theorem v66_118 (L : Nat) (xs : Nat → Int32) : zVal L xs 66 118 (.inl (i_il 6 120)) := zS_iload d66_118
theorem v66_120 (L : Nat) (xs : Nat → Int32) : zVal L xs 66 120 (.inl (i_bi (fun x y => x + y) 121)) := zS_iadd d66_120
theorem v66_121 (L : Nat) (xs : Nat → Int32) : zVal L xs 66 121 (.inl (i_il 4 123)) := zS_iload d66_121
theorem v66_123 (L : Nat) (xs : Nat → Int32) : zVal L xs 66 123 (.inl (i_c (.int 81) 125)) := zS_bipush d66_123 (by decide)
theorem v66_125 (L : Nat) (xs : Nat → Int32) : zVal L xs 66 125 (.inl (i_bi (fun x y => x + y) 126)) := zS_iadd d66_125
theorem v66_126 (L : Nat) (xs : Nat → Int32) : zVal L xs 66 126 (.inr (.inl (84, 5, 9))) := ⟨by decide +kernel, by decide +kernel, zc_virt d66_126 zcl8 w674 w671 w672 w673 w82 ⟨by decide +kernel, by decide +kernel, by decide +kernel⟩ (by decide) (by decide)⟩
theorem v66_129 (L : Nat) (xs : Nat → Int32) : zVal L xs 66 129 (.inl (i_in 6 1 132)) := zS_iinc d66_129 (by decide)
theorem v66_132 (L : Nat) (xs : Nat → Int32) : zVal L xs 66 132 (.inl (i_go 90)) := zS_goto d66_132 (by decide)
theorem v66_135 (L : Nat) (xs : Nat → Int32) : zVal L xs 66 135 (.inl (i_in 5 1 138)) := zS_iinc d66_135 (by decide)
theorem v66_138 (L : Nat) (xs : Nat → Int32) : zVal L xs 66 138 (.inl (i_go 78)) := zS_goto d66_138 (by decide)
theorem v66_141 (L : Nat) (xs : Nat → Int32) : zVal L xs 66 141 (.inl (i_al 0 142)) := zS_aload_n d66_141 rfl
theorem v66_142 (L : Nat) (xs : Nat → Int32) : zVal L xs 66 142 (.inl (i_al 3 143)) := zS_aload_n d66_142 rfl
theorem v66_143 (L : Nat) (xs : Nat → Int32) : zVal L xs 66 143 (.inl (i_il 4 145)) := zS_iload d66_143
theorem v66_145 (L : Nat) (xs : Nat → Int32) : zVal L xs 66 145 (.inl (i_al 1 146)) := zS_aload_n d66_145 rfl
theorem v66_146 (L : Nat) (xs : Nat → Int32) : zVal L xs 66 146 (.inl (i_gf 9 12 149)) := zS_getfN (host := "EditionGrid") d66_146 (zcl9) (by decide) zi9 (by decide +kernel)
theorem v66_149 (L : Nat) (xs : Nat → Int32) : zVal L xs 66 149 (.inl (i_al 1 150)) := zS_aload_n d66_149 rfl
theorem v66_150 (L : Nat) (xs : Nat → Int32) : zVal L xs 66 150 (.inl (i_gf 9 13 153)) := zS_getfN (host := "EditionGrid") d66_150 (zcl9) (by decide) zi9 (by decide +kernel)
theorem v66_153 (L : Nat) (xs : Nat → Int32) : zVal L xs 66 153 (.inr (.inl (70, 5, 7))) := ⟨by decide +kernel, by decide +kernel, zc_virt d66_153 zcl6 w678 w675 w677 w24 w80 ⟨by decide +kernel, by decide +kernel, by decide +kernel⟩ (by decide) (by decide)⟩
theorem v66_156 (L : Nat) (xs : Nat → Int32) : zVal L xs 66 156 (.inl (i_il 2 157)) := zS_iload_n d66_156 rfl
theorem v66_157 (L : Nat) (xs : Nat → Int32) : zVal L xs 66 157 (.inl (i_f1 (fun x => decide (x ≤ 0)) 198 160)) := zS_if_le d66_157 (by decide)
theorem v66_160 (L : Nat) (xs : Nat → Int32) : zVal L xs 66 160 (.inl (i_al 0 161)) := zS_aload_n d66_160 rfl
theorem v66_161 (L : Nat) (xs : Nat → Int32) : zVal L xs 66 161 (.inl (i_gf 6 0 164)) := zS_getf d66_161 (zcl6) (by decide) zi6 w367
theorem v66_164 (L : Nat) (xs : Nat → Int32) : zVal L xs 66 164 (.inl (i_al 3 165)) := zS_aload_n d66_164 rfl
theorem v66_165 (L : Nat) (xs : Nat → Int32) : zVal L xs 66 165 (.inl (i_gf 4 1 168)) := zS_getfN (host := "EditionGrid") d66_165 (zcl4) (by decide) zi4 (by decide +kernel)
theorem v66_168 (L : Nat) (xs : Nat → Int32) : zVal L xs 66 168 (.inl (i_al 3 169)) := zS_aload_n d66_168 rfl
theorem v66_169 (L : Nat) (xs : Nat → Int32) : zVal L xs 66 169 (.inl (i_gf 4 2 172)) := zS_getfN (host := "EditionGrid") d66_169 (zcl4) (by decide) zi4 (by decide +kernel)
theorem v66_172 (L : Nat) (xs : Nat → Int32) : zVal L xs 66 172 (.inl (i_al 3 173)) := zS_aload_n d66_172 rfl
theorem v66_173 (L : Nat) (xs : Nat → Int32) : zVal L xs 66 173 (.inl (i_gf 4 4 176)) := zS_getfN (host := "EditionGrid") d66_173 (zcl4) (by decide) zi4 (by decide +kernel)
theorem v66_176 (L : Nat) (xs : Nat → Int32) : zVal L xs 66 176 (.inl (i_bi (fun x y => x + y) 177)) := zS_iadd d66_176
theorem v66_177 (L : Nat) (xs : Nat → Int32) : zVal L xs 66 177 (.inl (i_c (.int 1) 178)) := zS_iconst d66_177 (by decide)
theorem v66_178 (L : Nat) (xs : Nat → Int32) : zVal L xs 66 178 (.inl (i_bi (fun x y => x - y) 179)) := zS_isub d66_178
theorem v66_179 (L : Nat) (xs : Nat → Int32) : zVal L xs 66 179 (.inl (i_al 3 180)) := zS_aload_n d66_179 rfl
theorem v66_180 (L : Nat) (xs : Nat → Int32) : zVal L xs 66 180 (.inl (i_gf 4 3 183)) := zS_getfN (host := "EditionGrid") d66_180 (zcl4) (by decide) zi4 (by decide +kernel)
theorem v66_183 (L : Nat) (xs : Nat → Int32) : zVal L xs 66 183 (.inl (i_al 3 184)) := zS_aload_n d66_183 rfl
theorem v66_184 (L : Nat) (xs : Nat → Int32) : zVal L xs 66 184 (.inl (i_gf 4 5 187)) := zS_getfN (host := "EditionGrid") d66_184 (zcl4) (by decide) zi4 (by decide +kernel)
theorem v66_187 (L : Nat) (xs : Nat → Int32) : zVal L xs 66 187 (.inl (i_bi (fun x y => x + y) 188)) := zS_iadd d66_187
theorem v66_188 (L : Nat) (xs : Nat → Int32) : zVal L xs 66 188 (.inl (i_c (.int 1) 189)) := zS_iconst d66_188 (by decide)
theorem v66_189 (L : Nat) (xs : Nat → Int32) : zVal L xs 66 189 (.inl (i_bi (fun x y => x - y) 190)) := zS_isub d66_189
theorem v66_190 (L : Nat) (xs : Nat → Int32) : zVal L xs 66 190 (.inl (i_il 4 192)) := zS_iload d66_190
theorem v66_192 (L : Nat) (xs : Nat → Int32) : zVal L xs 66 192 (.inl (i_c (.int 82) 194)) := zS_bipush d66_192 (by decide)
theorem v66_194 (L : Nat) (xs : Nat → Int32) : zVal L xs 66 194 (.inl (i_bi (fun x y => x + y) 195)) := zS_iadd d66_194
theorem v66_195 (L : Nat) (xs : Nat → Int32) : zVal L xs 66 195 (.inr (.inl (84, 5, 9))) := ⟨by decide +kernel, by decide +kernel, zc_virt d66_195 zcl8 w674 w671 w672 w673 w82 ⟨by decide +kernel, by decide +kernel, by decide +kernel⟩ (by decide) (by decide)⟩
theorem v66_198 (L : Nat) (xs : Nat → Int32) : zVal L xs 66 198 (.inr (.inr 0)) := zr_0 d66_198 rfl
theorem vt66 (L : Nat) (xs : Nat → Int32) : zAll (fun x => zVal L xs 66 x.1 x.2) (tb66) := ⟨v66_0 L xs, v66_1 L xs, v66_4 L xs, v66_5 L xs, v66_6 L xs, v66_7 L xs, v66_9 L xs, v66_10 L xs, v66_13 L xs, v66_14 L xs, v66_15 L xs, v66_16 L xs, v66_18 L xs, v66_19 L xs, v66_20 L xs, v66_21 L xs, v66_22 L xs, v66_25 L xs, v66_26 L xs, v66_27 L xs, v66_30 L xs, v66_31 L xs, v66_33 L xs, v66_35 L xs, v66_36 L xs, v66_39 L xs, v66_42 L xs, v66_43 L xs, v66_46 L xs, v66_47 L xs, v66_50 L xs, v66_51 L xs, v66_54 L xs, v66_56 L xs, v66_57 L xs, v66_58 L xs, v66_61 L xs, v66_63 L xs, v66_65 L xs, v66_66 L xs, v66_69 L xs, v66_72 L xs, v66_75 L xs, v66_76 L xs, v66_78 L xs, v66_80 L xs, v66_81 L xs, v66_84 L xs, v66_87 L xs, v66_88 L xs, v66_90 L xs, v66_92 L xs, v66_93 L xs, v66_96 L xs, v66_99 L xs, v66_100 L xs, v66_103 L xs, v66_104 L xs, v66_107 L xs, v66_108 L xs, v66_111 L xs, v66_113 L xs, v66_114 L xs, v66_115 L xs, v66_118 L xs, v66_120 L xs, v66_121 L xs, v66_123 L xs, v66_125 L xs, v66_126 L xs, v66_129 L xs, v66_132 L xs, v66_135 L xs, v66_138 L xs, v66_141 L xs, v66_142 L xs, v66_143 L xs, v66_145 L xs, v66_146 L xs, v66_149 L xs, v66_150 L xs, v66_153 L xs, v66_156 L xs, v66_157 L xs, v66_160 L xs, v66_161 L xs, v66_164 L xs, v66_165 L xs, v66_168 L xs, v66_169 L xs, v66_172 L xs, v66_173 L xs, v66_176 L xs, v66_177 L xs, v66_178 L xs, v66_179 L xs, v66_180 L xs, v66_183 L xs, v66_184 L xs, v66_187 L xs, v66_188 L xs, v66_189 L xs, v66_190 L xs, v66_192 L xs, v66_194 L xs, v66_195 L xs, v66_198 L xs, trivial⟩
theorem d67_0 : decode (mB 67) 0 = .ok (.aload_n 1, 1) := by decide +kernel
theorem d67_1 : decode (mB 67) 1 = .ok (.getfield 59, 3) := by decide +kernel
theorem d67_4 : decode (mB 67) 4 = .ok (.iconst 1, 1) := by decide +kernel
theorem d67_5 : decode (mB 67) 5 = .ok (.aaload, 1) := by decide +kernel
theorem d67_6 : decode (mB 67) 6 = .ok (.astore_n 2, 1) := by decide +kernel
theorem d67_7 : decode (mB 67) 7 = .ok (.bipush 100, 2) := by decide +kernel
theorem d67_9 : decode (mB 67) 9 = .ok (.aload_n 1, 1) := by decide +kernel
theorem d67_10 : decode (mB 67) 10 = .ok (.getfield 116, 3) := by decide +kernel
theorem d67_13 : decode (mB 67) 13 = .ok (.iconst 1, 1) := by decide +kernel
theorem d67_14 : decode (mB 67) 14 = .ok (.iadd, 1) := by decide +kernel
theorem d67_15 : decode (mB 67) 15 = .ok (.imul, 1) := by decide +kernel
theorem d67_16 : decode (mB 67) 16 = .ok (.istore_n 3, 1) := by decide +kernel
theorem d67_17 : decode (mB 67) 17 = .ok (.aload_n 0, 1) := by decide +kernel
theorem d67_18 : decode (mB 67) 18 = .ok (.aload_n 1, 1) := by decide +kernel
theorem d67_19 : decode (mB 67) 19 = .ok (.aload_n 2, 1) := by decide +kernel
theorem d67_20 : decode (mB 67) 20 = .ok (.iconst 0, 1) := by decide +kernel
theorem d67_21 : decode (mB 67) 21 = .ok (.invokevirtual 119, 3) := by decide +kernel
theorem d67_24 : decode (mB 67) 24 = .ok (.aload_n 0, 1) := by decide +kernel
theorem d67_25 : decode (mB 67) 25 = .ok (.aload_n 2, 1) := by decide +kernel
theorem d67_26 : decode (mB 67) 26 = .ok (.invokevirtual 123, 3) := by decide +kernel
theorem d67_29 : decode (mB 67) 29 = .ok (.aload_n 0, 1) := by decide +kernel
theorem d67_30 : decode (mB 67) 30 = .ok (.getfield 27, 3) := by decide +kernel
theorem d67_33 : decode (mB 67) 33 = .ok (.aload_n 2, 1) := by decide +kernel
theorem d67_34 : decode (mB 67) 34 = .ok (.getfield 130, 3) := by decide +kernel
theorem d67_37 : decode (mB 67) 37 = .ok (.aload_n 2, 1) := by decide +kernel
theorem d67_38 : decode (mB 67) 38 = .ok (.getfield 133, 3) := by decide +kernel
theorem d67_41 : decode (mB 67) 41 = .ok (.aload_n 2, 1) := by decide +kernel
theorem d67_42 : decode (mB 67) 42 = .ok (.getfield 136, 3) := by decide +kernel
theorem d67_45 : decode (mB 67) 45 = .ok (.iload_n 3, 1) := by decide +kernel
theorem d67_46 : decode (mB 67) 46 = .ok (.bipush 83, 2) := by decide +kernel
theorem d67_48 : decode (mB 67) 48 = .ok (.iadd, 1) := by decide +kernel
theorem d67_49 : decode (mB 67) 49 = .ok (.invokevirtual 139, 3) := by decide +kernel
theorem d67_52 : decode (mB 67) 52 = .ok (.aload_n 0, 1) := by decide +kernel
theorem d67_53 : decode (mB 67) 53 = .ok (.aload_n 2, 1) := by decide +kernel
theorem d67_54 : decode (mB 67) 54 = .ok (.iload_n 3, 1) := by decide +kernel
theorem d67_55 : decode (mB 67) 55 = .ok (.iconst 0, 1) := by decide +kernel
theorem d67_56 : decode (mB 67) 56 = .ok (.iconst 0, 1) := by decide +kernel
theorem d67_57 : decode (mB 67) 57 = .ok (.invokevirtual 149, 3) := by decide +kernel
theorem d67_60 : decode (mB 67) 60 = .ok (.return_, 1) := by decide +kernel
theorem v67_0 (L : Nat) (xs : Nat → Int32) : zVal L xs 67 0 (.inl (i_al 1 1)) := zS_aload_n d67_0 rfl
theorem v67_1 (L : Nat) (xs : Nat → Int32) : zVal L xs 67 1 (.inl (i_gf 9 7 4)) := zS_getfN (host := "EditionGrid") d67_1 (zcl9) (by decide) zi9 (by decide +kernel)
theorem v67_4 (L : Nat) (xs : Nat → Int32) : zVal L xs 67 4 (.inl (i_c (.int 1) 5)) := zS_iconst d67_4 (by decide)
theorem v67_5 (L : Nat) (xs : Nat → Int32) : zVal L xs 67 5 (.inl (i_gq 5 6)) := zS_aald5 d67_5
theorem v67_6 (L : Nat) (xs : Nat → Int32) : zVal L xs 67 6 (.inl (i_as 2 7)) := zS_astore_n d67_6 rfl
theorem v67_7 (L : Nat) (xs : Nat → Int32) : zVal L xs 67 7 (.inl (i_c (.int 100) 9)) := zS_bipush d67_7 (by decide)
theorem v67_9 (L : Nat) (xs : Nat → Int32) : zVal L xs 67 9 (.inl (i_al 1 10)) := zS_aload_n d67_9 rfl
theorem v67_10 (L : Nat) (xs : Nat → Int32) : zVal L xs 67 10 (.inl (i_gf 9 0 13)) := zS_getfN (host := "EditionGrid") d67_10 (zcl9) (by decide) zi9 (by decide +kernel)
theorem v67_13 (L : Nat) (xs : Nat → Int32) : zVal L xs 67 13 (.inl (i_c (.int 1) 14)) := zS_iconst d67_13 (by decide)
theorem v67_14 (L : Nat) (xs : Nat → Int32) : zVal L xs 67 14 (.inl (i_bi (fun x y => x + y) 15)) := zS_iadd d67_14
theorem v67_15 (L : Nat) (xs : Nat → Int32) : zVal L xs 67 15 (.inl (i_bi (fun x y => x * y) 16)) := zS_imul d67_15
theorem v67_16 (L : Nat) (xs : Nat → Int32) : zVal L xs 67 16 (.inl (i_is 3 17)) := zS_istore_n d67_16 rfl
theorem v67_17 (L : Nat) (xs : Nat → Int32) : zVal L xs 67 17 (.inl (i_al 0 18)) := zS_aload_n d67_17 rfl
theorem v67_18 (L : Nat) (xs : Nat → Int32) : zVal L xs 67 18 (.inl (i_al 1 19)) := zS_aload_n d67_18 rfl
theorem v67_19 (L : Nat) (xs : Nat → Int32) : zVal L xs 67 19 (.inl (i_al 2 20)) := zS_aload_n d67_19 rfl
theorem v67_20 (L : Nat) (xs : Nat → Int32) : zVal L xs 67 20 (.inl (i_c (.int 0) 21)) := zS_iconst d67_20 (by decide)
theorem v67_21 (L : Nat) (xs : Nat → Int32) : zVal L xs 67 21 (.inr (.inl (68, 4, 7))) := ⟨by decide +kernel, by decide +kernel, zc_virt d67_21 zcl6 w656 w653 w655 w21 w80 ⟨by decide +kernel, by decide +kernel, by decide +kernel⟩ (by decide) (by decide)⟩
theorem v67_24 (L : Nat) (xs : Nat → Int32) : zVal L xs 67 24 (.inl (i_al 0 25)) := zS_aload_n d67_24 rfl
theorem v67_25 (L : Nat) (xs : Nat → Int32) : zVal L xs 67 25 (.inl (i_al 2 26)) := zS_aload_n d67_25 rfl
theorem v67_26 (L : Nat) (xs : Nat → Int32) : zVal L xs 67 26 (.inr (.inl (69, 2, 7))) := ⟨by decide +kernel, by decide +kernel, zc_virt d67_26 zcl6 w670 w667 w669 w23 w80 ⟨by decide +kernel, by decide +kernel, by decide +kernel⟩ (by decide) (by decide)⟩
theorem v67_29 (L : Nat) (xs : Nat → Int32) : zVal L xs 67 29 (.inl (i_al 0 30)) := zS_aload_n d67_29 rfl
theorem v67_30 (L : Nat) (xs : Nat → Int32) : zVal L xs 67 30 (.inl (i_gf 6 0 33)) := zS_getf d67_30 (zcl6) (by decide) zi6 w367
theorem v67_33 (L : Nat) (xs : Nat → Int32) : zVal L xs 67 33 (.inl (i_al 2 34)) := zS_aload_n d67_33 rfl
theorem v67_34 (L : Nat) (xs : Nat → Int32) : zVal L xs 67 34 (.inl (i_gf 4 1 37)) := zS_getfN (host := "EditionGrid") d67_34 (zcl4) (by decide) zi4 (by decide +kernel)
theorem v67_37 (L : Nat) (xs : Nat → Int32) : zVal L xs 67 37 (.inl (i_al 2 38)) := zS_aload_n d67_37 rfl
theorem v67_38 (L : Nat) (xs : Nat → Int32) : zVal L xs 67 38 (.inl (i_gf 4 2 41)) := zS_getfN (host := "EditionGrid") d67_38 (zcl4) (by decide) zi4 (by decide +kernel)
theorem v67_41 (L : Nat) (xs : Nat → Int32) : zVal L xs 67 41 (.inl (i_al 2 42)) := zS_aload_n d67_41 rfl
theorem v67_42 (L : Nat) (xs : Nat → Int32) : zVal L xs 67 42 (.inl (i_gf 4 3 45)) := zS_getfN (host := "EditionGrid") d67_42 (zcl4) (by decide) zi4 (by decide +kernel)
theorem v67_45 (L : Nat) (xs : Nat → Int32) : zVal L xs 67 45 (.inl (i_il 3 46)) := zS_iload_n d67_45 rfl
theorem v67_46 (L : Nat) (xs : Nat → Int32) : zVal L xs 67 46 (.inl (i_c (.int 83) 48)) := zS_bipush d67_46 (by decide)
theorem v67_48 (L : Nat) (xs : Nat → Int32) : zVal L xs 67 48 (.inl (i_bi (fun x y => x + y) 49)) := zS_iadd d67_48
theorem v67_49 (L : Nat) (xs : Nat → Int32) : zVal L xs 67 49 (.inr (.inl (84, 5, 9))) := ⟨by decide +kernel, by decide +kernel, zc_virt d67_49 zcl8 w674 w671 w672 w673 w82 ⟨by decide +kernel, by decide +kernel, by decide +kernel⟩ (by decide) (by decide)⟩
theorem v67_52 (L : Nat) (xs : Nat → Int32) : zVal L xs 67 52 (.inl (i_al 0 53)) := zS_aload_n d67_52 rfl
theorem v67_53 (L : Nat) (xs : Nat → Int32) : zVal L xs 67 53 (.inl (i_al 2 54)) := zS_aload_n d67_53 rfl
theorem v67_54 (L : Nat) (xs : Nat → Int32) : zVal L xs 67 54 (.inl (i_il 3 55)) := zS_iload_n d67_54 rfl
theorem v67_55 (L : Nat) (xs : Nat → Int32) : zVal L xs 67 55 (.inl (i_c (.int 0) 56)) := zS_iconst d67_55 (by decide)
theorem v67_56 (L : Nat) (xs : Nat → Int32) : zVal L xs 67 56 (.inl (i_c (.int 0) 57)) := zS_iconst d67_56 (by decide)
theorem v67_57 (L : Nat) (xs : Nat → Int32) : zVal L xs 67 57 (.inr (.inl (70, 5, 7))) := ⟨by decide +kernel, by decide +kernel, zc_virt d67_57 zcl6 w678 w675 w677 w24 w80 ⟨by decide +kernel, by decide +kernel, by decide +kernel⟩ (by decide) (by decide)⟩
theorem v67_60 (L : Nat) (xs : Nat → Int32) : zVal L xs 67 60 (.inr (.inr 0)) := zr_0 d67_60 rfl
theorem vt67 (L : Nat) (xs : Nat → Int32) : zAll (fun x => zVal L xs 67 x.1 x.2) (tb67) := ⟨v67_0 L xs, v67_1 L xs, v67_4 L xs, v67_5 L xs, v67_6 L xs, v67_7 L xs, v67_9 L xs, v67_10 L xs, v67_13 L xs, v67_14 L xs, v67_15 L xs, v67_16 L xs, v67_17 L xs, v67_18 L xs, v67_19 L xs, v67_20 L xs, v67_21 L xs, v67_24 L xs, v67_25 L xs, v67_26 L xs, v67_29 L xs, v67_30 L xs, v67_33 L xs, v67_34 L xs, v67_37 L xs, v67_38 L xs, v67_41 L xs, v67_42 L xs, v67_45 L xs, v67_46 L xs, v67_48 L xs, v67_49 L xs, v67_52 L xs, v67_53 L xs, v67_54 L xs, v67_55 L xs, v67_56 L xs, v67_57 L xs, v67_60 L xs, trivial⟩
theorem d68_0 : decode (mB 68) 0 = .ok (.aload_n 0, 1) := by decide +kernel
theorem d68_1 : decode (mB 68) 1 = .ok (.getfield 12, 3) := by decide +kernel
theorem d68_4 : decode (mB 68) 4 = .ok (.aload_n 1, 1) := by decide +kernel
theorem d68_5 : decode (mB 68) 5 = .ok (.aload_n 2, 1) := by decide +kernel
theorem d68_6 : decode (mB 68) 6 = .ok (.getfield 156, 3) := by decide +kernel
theorem d68_9 : decode (mB 68) 9 = .ok (.aload_n 2, 1) := by decide +kernel
theorem d68_10 : decode (mB 68) 10 = .ok (.getfield 127, 3) := by decide +kernel
theorem d68_13 : decode (mB 68) 13 = .ok (.aload_n 2, 1) := by decide +kernel
theorem d68_14 : decode (mB 68) 14 = .ok (.getfield 153, 3) := by decide +kernel
theorem d68_17 : decode (mB 68) 17 = .ok (.iconst 1, 1) := by decide +kernel
theorem d68_18 : decode (mB 68) 18 = .ok (.isub, 1) := by decide +kernel
theorem d68_19 : decode (mB 68) 19 = .ok (.iload_n 3, 1) := by decide +kernel
theorem d68_20 : decode (mB 68) 20 = .ok (.invokevirtual 81, 3) := by decide +kernel
theorem d68_23 : decode (mB 68) 23 = .ok (.ifCond .eq 31, 3) := by decide +kernel
theorem d68_26 : decode (mB 68) 26 = .ok (.aload_n 0, 1) := by decide +kernel
theorem d68_27 : decode (mB 68) 27 = .ok (.getfield 12, 3) := by decide +kernel
theorem d68_30 : decode (mB 68) 30 = .ok (.aload_n 2, 1) := by decide +kernel
theorem d68_31 : decode (mB 68) 31 = .ok (.getfield 156, 3) := by decide +kernel
theorem d68_34 : decode (mB 68) 34 = .ok (.aload_n 2, 1) := by decide +kernel
theorem d68_35 : decode (mB 68) 35 = .ok (.getfield 156, 3) := by decide +kernel
theorem d68_38 : decode (mB 68) 38 = .ok (.aload_n 2, 1) := by decide +kernel
theorem d68_39 : decode (mB 68) 39 = .ok (.getfield 159, 3) := by decide +kernel
theorem d68_42 : decode (mB 68) 42 = .ok (.iadd, 1) := by decide +kernel
theorem d68_43 : decode (mB 68) 43 = .ok (.aload_n 1, 1) := by decide +kernel
theorem d68_44 : decode (mB 68) 44 = .ok (.invokevirtual 85, 3) := by decide +kernel
theorem d68_47 : decode (mB 68) 47 = .ok (.aload_n 2, 1) := by decide +kernel
theorem d68_48 : decode (mB 68) 48 = .ok (.getfield 160, 3) := by decide +kernel
theorem d68_51 : decode (mB 68) 51 = .ok (.invokevirtual 163, 3) := by decide +kernel
theorem d68_54 : decode (mB 68) 54 = .ok (.return_, 1) := by decide +kernel
theorem v68_0 (L : Nat) (xs : Nat → Int32) : zVal L xs 68 0 (.inl (i_al 0 1)) := zS_aload_n d68_0 rfl
theorem v68_1 (L : Nat) (xs : Nat → Int32) : zVal L xs 68 1 (.inl (i_gf 6 1 4)) := zS_getf d68_1 (zcl6) (by decide) zi6 w369
theorem v68_4 (L : Nat) (xs : Nat → Int32) : zVal L xs 68 4 (.inl (i_al 1 5)) := zS_aload_n d68_4 rfl
theorem v68_5 (L : Nat) (xs : Nat → Int32) : zVal L xs 68 5 (.inl (i_al 2 6)) := zS_aload_n d68_5 rfl
theorem v68_6 (L : Nat) (xs : Nat → Int32) : zVal L xs 68 6 (.inl (i_gf 4 6 9)) := zS_getfN (host := "EditionGrid") d68_6 (zcl4) (by decide) zi4 (by decide +kernel)
theorem v68_9 (L : Nat) (xs : Nat → Int32) : zVal L xs 68 9 (.inl (i_al 2 10)) := zS_aload_n d68_9 rfl
theorem v68_10 (L : Nat) (xs : Nat → Int32) : zVal L xs 68 10 (.inl (i_gf 4 4 13)) := zS_getfN (host := "EditionGrid") d68_10 (zcl4) (by decide) zi4 (by decide +kernel)
theorem v68_13 (L : Nat) (xs : Nat → Int32) : zVal L xs 68 13 (.inl (i_al 2 14)) := zS_aload_n d68_13 rfl
theorem v68_14 (L : Nat) (xs : Nat → Int32) : zVal L xs 68 14 (.inl (i_gf 4 5 17)) := zS_getfN (host := "EditionGrid") d68_14 (zcl4) (by decide) zi4 (by decide +kernel)
theorem v68_17 (L : Nat) (xs : Nat → Int32) : zVal L xs 68 17 (.inl (i_c (.int 1) 18)) := zS_iconst d68_17 (by decide)
theorem v68_18 (L : Nat) (xs : Nat → Int32) : zVal L xs 68 18 (.inl (i_bi (fun x y => x - y) 19)) := zS_isub d68_18
theorem v68_19 (L : Nat) (xs : Nat → Int32) : zVal L xs 68 19 (.inl (i_il 3 20)) := zS_iload_n d68_19 rfl
theorem v68_20 (L : Nat) (xs : Nat → Int32) : zVal L xs 68 20 (.inr (.inl (34, 6, 3))) := ⟨by decide +kernel, by decide +kernel, zc_virt d68_20 zcl2 w622 w619 w620 w621 w81 ⟨by decide +kernel, by decide +kernel, by decide +kernel⟩ (by decide) (by decide)⟩
theorem v68_23 (L : Nat) (xs : Nat → Int32) : zVal L xs 68 23 (.inl (i_f1 (fun x => decide (x = 0)) 54 26)) := zS_if_eq d68_23 (by decide)
theorem v68_26 (L : Nat) (xs : Nat → Int32) : zVal L xs 68 26 (.inl (i_al 0 27)) := zS_aload_n d68_26 rfl
theorem v68_27 (L : Nat) (xs : Nat → Int32) : zVal L xs 68 27 (.inl (i_gf 6 1 30)) := zS_getf d68_27 (zcl6) (by decide) zi6 w369
theorem v68_30 (L : Nat) (xs : Nat → Int32) : zVal L xs 68 30 (.inl (i_al 2 31)) := zS_aload_n d68_30 rfl
theorem v68_31 (L : Nat) (xs : Nat → Int32) : zVal L xs 68 31 (.inl (i_gf 4 6 34)) := zS_getfN (host := "EditionGrid") d68_31 (zcl4) (by decide) zi4 (by decide +kernel)
theorem v68_34 (L : Nat) (xs : Nat → Int32) : zVal L xs 68 34 (.inl (i_al 2 35)) := zS_aload_n d68_34 rfl
theorem v68_35 (L : Nat) (xs : Nat → Int32) : zVal L xs 68 35 (.inl (i_gf 4 6 38)) := zS_getfN (host := "EditionGrid") d68_35 (zcl4) (by decide) zi4 (by decide +kernel)
theorem v68_38 (L : Nat) (xs : Nat → Int32) : zVal L xs 68 38 (.inl (i_al 2 39)) := zS_aload_n d68_38 rfl
theorem v68_39 (L : Nat) (xs : Nat → Int32) : zVal L xs 68 39 (.inl (i_gf 4 7 42)) := zS_getfN (host := "EditionGrid") d68_39 (zcl4) (by decide) zi4 (by decide +kernel)
theorem v68_42 (L : Nat) (xs : Nat → Int32) : zVal L xs 68 42 (.inl (i_bi (fun x y => x + y) 43)) := zS_iadd d68_42
theorem v68_43 (L : Nat) (xs : Nat → Int32) : zVal L xs 68 43 (.inl (i_al 1 44)) := zS_aload_n d68_43 rfl
theorem v68_44 (L : Nat) (xs : Nat → Int32) : zVal L xs 68 44 (.inr (.inl (93, 1, 10))) := ⟨by decide +kernel, by decide +kernel, zc_virt d68_44 zcl9 w626 w623 w624 w625 w75 ⟨by decide +kernel, by decide +kernel, by decide +kernel⟩ (by decide) (by decide)⟩
theorem v68_47 (L : Nat) (xs : Nat → Int32) : zVal L xs 68 47 (.inl (i_al 2 48)) := zS_aload_n d68_47 rfl
theorem v68_48 (L : Nat) (xs : Nat → Int32) : zVal L xs 68 48 (.inl (i_gf 4 0 51)) := zS_getfN (host := "EditionGrid") d68_48 (zcl4) (by decide) zi4 (by decide +kernel)
theorem v68_51 (L : Nat) (xs : Nat → Int32) : zVal L xs 68 51 (.inr (.inl (36, 5, 3))) := ⟨by decide +kernel, by decide +kernel, zc_virt d68_51 zcl2 w660 w657 w658 w659 w81 ⟨by decide +kernel, by decide +kernel, by decide +kernel⟩ (by decide) (by decide)⟩
theorem v68_54 (L : Nat) (xs : Nat → Int32) : zVal L xs 68 54 (.inr (.inr 0)) := zr_0 d68_54 rfl
theorem vt68 (L : Nat) (xs : Nat → Int32) : zAll (fun x => zVal L xs 68 x.1 x.2) (tb68) := ⟨v68_0 L xs, v68_1 L xs, v68_4 L xs, v68_5 L xs, v68_6 L xs, v68_9 L xs, v68_10 L xs, v68_13 L xs, v68_14 L xs, v68_17 L xs, v68_18 L xs, v68_19 L xs, v68_20 L xs, v68_23 L xs, v68_26 L xs, v68_27 L xs, v68_30 L xs, v68_31 L xs, v68_34 L xs, v68_35 L xs, v68_38 L xs, v68_39 L xs, v68_42 L xs, v68_43 L xs, v68_44 L xs, v68_47 L xs, v68_48 L xs, v68_51 L xs, v68_54 L xs, trivial⟩
theorem d69_0 : decode (mB 69) 0 = .ok (.iconst 0, 1) := by decide +kernel
theorem d69_1 : decode (mB 69) 1 = .ok (.istore_n 2, 1) := by decide +kernel
theorem d69_2 : decode (mB 69) 2 = .ok (.iload_n 2, 1) := by decide +kernel
theorem d69_3 : decode (mB 69) 3 = .ok (.aload_n 1, 1) := by decide +kernel
theorem d69_4 : decode (mB 69) 4 = .ok (.getfield 127, 3) := by decide +kernel
theorem d69_7 : decode (mB 69) 7 = .ok (.if_icmp .ge 50, 3) := by decide +kernel
theorem d69_10 : decode (mB 69) 10 = .ok (.iconst 0, 1) := by decide +kernel
theorem d69_11 : decode (mB 69) 11 = .ok (.istore_n 3, 1) := by decide +kernel
theorem d69_12 : decode (mB 69) 12 = .ok (.iload_n 3, 1) := by decide +kernel
theorem d69_13 : decode (mB 69) 13 = .ok (.aload_n 1, 1) := by decide +kernel
theorem d69_14 : decode (mB 69) 14 = .ok (.getfield 153, 3) := by decide +kernel
theorem d69_17 : decode (mB 69) 17 = .ok (.if_icmp .ge 34, 3) := by decide +kernel
theorem d69_20 : decode (mB 69) 20 = .ok (.aload_n 0, 1) := by decide +kernel
theorem d69_21 : decode (mB 69) 21 = .ok (.getfield 27, 3) := by decide +kernel
theorem d69_24 : decode (mB 69) 24 = .ok (.aload_n 1, 1) := by decide +kernel
theorem d69_25 : decode (mB 69) 25 = .ok (.getfield 130, 3) := by decide +kernel
theorem d69_28 : decode (mB 69) 28 = .ok (.aload_n 1, 1) := by decide +kernel
theorem d69_29 : decode (mB 69) 29 = .ok (.getfield 133, 3) := by decide +kernel
theorem d69_32 : decode (mB 69) 32 = .ok (.iload_n 2, 1) := by decide +kernel
theorem d69_33 : decode (mB 69) 33 = .ok (.iadd, 1) := by decide +kernel
theorem d69_34 : decode (mB 69) 34 = .ok (.aload_n 1, 1) := by decide +kernel
theorem d69_35 : decode (mB 69) 35 = .ok (.getfield 136, 3) := by decide +kernel
theorem d69_38 : decode (mB 69) 38 = .ok (.iload_n 3, 1) := by decide +kernel
theorem d69_39 : decode (mB 69) 39 = .ok (.iadd, 1) := by decide +kernel
theorem d69_40 : decode (mB 69) 40 = .ok (.bipush 90, 2) := by decide +kernel
theorem d69_42 : decode (mB 69) 42 = .ok (.invokevirtual 139, 3) := by decide +kernel
theorem d69_45 : decode (mB 69) 45 = .ok (.iinc 3 1, 3) := by decide +kernel
theorem d69_48 : decode (mB 69) 48 = .ok (.goto (-36), 3) := by decide +kernel
theorem d69_51 : decode (mB 69) 51 = .ok (.iinc 2 1, 3) := by decide +kernel
theorem d69_54 : decode (mB 69) 54 = .ok (.goto (-52), 3) := by decide +kernel
theorem d69_57 : decode (mB 69) 57 = .ok (.return_, 1) := by decide +kernel
theorem v69_0 (L : Nat) (xs : Nat → Int32) : zVal L xs 69 0 (.inl (i_c (.int 0) 1)) := zS_iconst d69_0 (by decide)
theorem v69_1 (L : Nat) (xs : Nat → Int32) : zVal L xs 69 1 (.inl (i_is 2 2)) := zS_istore_n d69_1 rfl
theorem v69_2 (L : Nat) (xs : Nat → Int32) : zVal L xs 69 2 (.inl (i_k [false, false, false, true] (i_il 2 3))) := zS_k (zS_iload_n d69_2 rfl)
theorem v69_3 (L : Nat) (xs : Nat → Int32) : zVal L xs 69 3 (.inl (i_al 1 4)) := zS_aload_n d69_3 rfl
theorem v69_4 (L : Nat) (xs : Nat → Int32) : zVal L xs 69 4 (.inl (i_gf 4 4 7)) := zS_getfN (host := "EditionGrid") d69_4 (zcl4) (by decide) zi4 (by decide +kernel)
theorem v69_7 (L : Nat) (xs : Nat → Int32) : zVal L xs 69 7 (.inl (i_f2 (fun x y => decide (y ≤ x)) 57 10)) := zS_icmp_ge d69_7 (by decide)
theorem v69_10 (L : Nat) (xs : Nat → Int32) : zVal L xs 69 10 (.inl (i_c (.int 0) 11)) := zS_iconst d69_10 (by decide)
theorem v69_11 (L : Nat) (xs : Nat → Int32) : zVal L xs 69 11 (.inl (i_is 3 12)) := zS_istore_n d69_11 rfl
theorem v69_12 (L : Nat) (xs : Nat → Int32) : zVal L xs 69 12 (.inl (i_k [false, false, false, false] (i_il 3 13))) := zS_k (zS_iload_n d69_12 rfl)
theorem v69_13 (L : Nat) (xs : Nat → Int32) : zVal L xs 69 13 (.inl (i_al 1 14)) := zS_aload_n d69_13 rfl
theorem v69_14 (L : Nat) (xs : Nat → Int32) : zVal L xs 69 14 (.inl (i_gf 4 5 17)) := zS_getfN (host := "EditionGrid") d69_14 (zcl4) (by decide) zi4 (by decide +kernel)
theorem v69_17 (L : Nat) (xs : Nat → Int32) : zVal L xs 69 17 (.inl (i_f2 (fun x y => decide (y ≤ x)) 51 20)) := zS_icmp_ge d69_17 (by decide)
theorem v69_20 (L : Nat) (xs : Nat → Int32) : zVal L xs 69 20 (.inl (i_al 0 21)) := zS_aload_n d69_20 rfl
theorem v69_21 (L : Nat) (xs : Nat → Int32) : zVal L xs 69 21 (.inl (i_gf 6 0 24)) := zS_getf d69_21 (zcl6) (by decide) zi6 w367
theorem v69_24 (L : Nat) (xs : Nat → Int32) : zVal L xs 69 24 (.inl (i_al 1 25)) := zS_aload_n d69_24 rfl
theorem v69_25 (L : Nat) (xs : Nat → Int32) : zVal L xs 69 25 (.inl (i_gf 4 1 28)) := zS_getfN (host := "EditionGrid") d69_25 (zcl4) (by decide) zi4 (by decide +kernel)
theorem v69_28 (L : Nat) (xs : Nat → Int32) : zVal L xs 69 28 (.inl (i_al 1 29)) := zS_aload_n d69_28 rfl
theorem v69_29 (L : Nat) (xs : Nat → Int32) : zVal L xs 69 29 (.inl (i_gf 4 2 32)) := zS_getfN (host := "EditionGrid") d69_29 (zcl4) (by decide) zi4 (by decide +kernel)
theorem v69_32 (L : Nat) (xs : Nat → Int32) : zVal L xs 69 32 (.inl (i_il 2 33)) := zS_iload_n d69_32 rfl
theorem v69_33 (L : Nat) (xs : Nat → Int32) : zVal L xs 69 33 (.inl (i_bi (fun x y => x + y) 34)) := zS_iadd d69_33
theorem v69_34 (L : Nat) (xs : Nat → Int32) : zVal L xs 69 34 (.inl (i_al 1 35)) := zS_aload_n d69_34 rfl
theorem v69_35 (L : Nat) (xs : Nat → Int32) : zVal L xs 69 35 (.inl (i_gf 4 3 38)) := zS_getfN (host := "EditionGrid") d69_35 (zcl4) (by decide) zi4 (by decide +kernel)
theorem v69_38 (L : Nat) (xs : Nat → Int32) : zVal L xs 69 38 (.inl (i_il 3 39)) := zS_iload_n d69_38 rfl
theorem v69_39 (L : Nat) (xs : Nat → Int32) : zVal L xs 69 39 (.inl (i_bi (fun x y => x + y) 40)) := zS_iadd d69_39
theorem v69_40 (L : Nat) (xs : Nat → Int32) : zVal L xs 69 40 (.inl (i_c (.int 90) 42)) := zS_bipush d69_40 (by decide)
theorem v69_42 (L : Nat) (xs : Nat → Int32) : zVal L xs 69 42 (.inr (.inl (84, 5, 9))) := ⟨by decide +kernel, by decide +kernel, zc_virt d69_42 zcl8 w674 w671 w672 w673 w82 ⟨by decide +kernel, by decide +kernel, by decide +kernel⟩ (by decide) (by decide)⟩
theorem v69_45 (L : Nat) (xs : Nat → Int32) : zVal L xs 69 45 (.inl (i_in 3 1 48)) := zS_iinc d69_45 (by decide)
theorem v69_48 (L : Nat) (xs : Nat → Int32) : zVal L xs 69 48 (.inl (i_go 12)) := zS_goto d69_48 (by decide)
theorem v69_51 (L : Nat) (xs : Nat → Int32) : zVal L xs 69 51 (.inl (i_in 2 1 54)) := zS_iinc d69_51 (by decide)
theorem v69_54 (L : Nat) (xs : Nat → Int32) : zVal L xs 69 54 (.inl (i_go 2)) := zS_goto d69_54 (by decide)
theorem v69_57 (L : Nat) (xs : Nat → Int32) : zVal L xs 69 57 (.inr (.inr 0)) := zr_0 d69_57 rfl
theorem vt69 (L : Nat) (xs : Nat → Int32) : zAll (fun x => zVal L xs 69 x.1 x.2) (tb69) := ⟨v69_0 L xs, v69_1 L xs, v69_2 L xs, v69_3 L xs, v69_4 L xs, v69_7 L xs, v69_10 L xs, v69_11 L xs, v69_12 L xs, v69_13 L xs, v69_14 L xs, v69_17 L xs, v69_20 L xs, v69_21 L xs, v69_24 L xs, v69_25 L xs, v69_28 L xs, v69_29 L xs, v69_32 L xs, v69_33 L xs, v69_34 L xs, v69_35 L xs, v69_38 L xs, v69_39 L xs, v69_40 L xs, v69_42 L xs, v69_45 L xs, v69_48 L xs, v69_51 L xs, v69_54 L xs, v69_57 L xs, trivial⟩
theorem d70_0 : decode (mB 70) 0 = .ok (.aload_n 1, 1) := by decide +kernel
theorem d70_1 : decode (mB 70) 1 = .ok (.getfield 156, 3) := by decide +kernel
theorem d70_4 : decode (mB 70) 4 = .ok (.istore 5, 2) := by decide +kernel
theorem d70_6 : decode (mB 70) 6 = .ok (.iconst 0, 1) := by decide +kernel
theorem d70_7 : decode (mB 70) 7 = .ok (.istore 6, 2) := by decide +kernel
theorem d70_9 : decode (mB 70) 9 = .ok (.iload 6, 2) := by decide +kernel
theorem d70_11 : decode (mB 70) 11 = .ok (.aload_n 1, 1) := by decide +kernel
theorem d70_12 : decode (mB 70) 12 = .ok (.getfield 127, 3) := by decide +kernel
theorem d70_15 : decode (mB 70) 15 = .ok (.if_icmp .ge 81, 3) := by decide +kernel
theorem d70_18 : decode (mB 70) 18 = .ok (.aload_n 1, 1) := by decide +kernel
theorem d70_19 : decode (mB 70) 19 = .ok (.getfield 136, 3) := by decide +kernel
theorem d70_22 : decode (mB 70) 22 = .ok (.iconst 1, 1) := by decide +kernel
theorem d70_23 : decode (mB 70) 23 = .ok (.iadd, 1) := by decide +kernel
theorem d70_24 : decode (mB 70) 24 = .ok (.iload 6, 2) := by decide +kernel
theorem d70_26 : decode (mB 70) 26 = .ok (.iload_n 3, 1) := by decide +kernel
theorem d70_27 : decode (mB 70) 27 = .ok (.if_icmp .ge 8, 3) := by decide +kernel
theorem d70_30 : decode (mB 70) 30 = .ok (.iload 4, 2) := by decide +kernel
theorem d70_32 : decode (mB 70) 32 = .ok (.goto 4, 3) := by decide +kernel
theorem d70_35 : decode (mB 70) 35 = .ok (.iconst 0, 1) := by decide +kernel
theorem d70_36 : decode (mB 70) 36 = .ok (.iadd, 1) := by decide +kernel
theorem d70_37 : decode (mB 70) 37 = .ok (.istore 7, 2) := by decide +kernel
theorem d70_39 : decode (mB 70) 39 = .ok (.iconst 0, 1) := by decide +kernel
theorem d70_40 : decode (mB 70) 40 = .ok (.istore 8, 2) := by decide +kernel
theorem d70_42 : decode (mB 70) 42 = .ok (.iload 8, 2) := by decide +kernel
theorem d70_44 : decode (mB 70) 44 = .ok (.aload_n 1, 1) := by decide +kernel
theorem d70_45 : decode (mB 70) 45 = .ok (.getfield 160, 3) := by decide +kernel
theorem d70_48 : decode (mB 70) 48 = .ok (.iload 6, 2) := by decide +kernel
theorem d70_50 : decode (mB 70) 50 = .ok (.iaload, 1) := by decide +kernel
theorem d70_51 : decode (mB 70) 51 = .ok (.if_icmp .ge 39, 3) := by decide +kernel
theorem d70_54 : decode (mB 70) 54 = .ok (.aload_n 0, 1) := by decide +kernel
theorem d70_55 : decode (mB 70) 55 = .ok (.getfield 27, 3) := by decide +kernel
theorem d70_58 : decode (mB 70) 58 = .ok (.aload_n 1, 1) := by decide +kernel
theorem d70_59 : decode (mB 70) 59 = .ok (.getfield 130, 3) := by decide +kernel
theorem d70_62 : decode (mB 70) 62 = .ok (.aload_n 1, 1) := by decide +kernel
theorem d70_63 : decode (mB 70) 63 = .ok (.getfield 133, 3) := by decide +kernel
theorem d70_66 : decode (mB 70) 66 = .ok (.iload 6, 2) := by decide +kernel
theorem d70_68 : decode (mB 70) 68 = .ok (.iadd, 1) := by decide +kernel
theorem d70_69 : decode (mB 70) 69 = .ok (.iload 7, 2) := by decide +kernel
theorem d70_71 : decode (mB 70) 71 = .ok (.iload 8, 2) := by decide +kernel
theorem d70_73 : decode (mB 70) 73 = .ok (.iadd, 1) := by decide +kernel
theorem d70_74 : decode (mB 70) 74 = .ok (.iload_n 2, 1) := by decide +kernel
theorem d70_75 : decode (mB 70) 75 = .ok (.iload 5, 2) := by decide +kernel
theorem d70_77 : decode (mB 70) 77 = .ok (.iadd, 1) := by decide +kernel
theorem d70_78 : decode (mB 70) 78 = .ok (.invokevirtual 139, 3) := by decide +kernel
theorem d70_81 : decode (mB 70) 81 = .ok (.iinc 5 1, 3) := by decide +kernel
theorem d70_84 : decode (mB 70) 84 = .ok (.iinc 8 1, 3) := by decide +kernel
theorem d70_87 : decode (mB 70) 87 = .ok (.goto (-45), 3) := by decide +kernel
theorem d70_90 : decode (mB 70) 90 = .ok (.iinc 6 1, 3) := by decide +kernel
theorem d70_93 : decode (mB 70) 93 = .ok (.goto (-84), 3) := by decide +kernel
theorem d70_96 : decode (mB 70) 96 = .ok (.return_, 1) := by decide +kernel
theorem v70_0 (L : Nat) (xs : Nat → Int32) : zVal L xs 70 0 (.inl (i_al 1 1)) := zS_aload_n d70_0 rfl
theorem v70_1 (L : Nat) (xs : Nat → Int32) : zVal L xs 70 1 (.inl (i_gf 4 6 4)) := zS_getfN (host := "EditionGrid") d70_1 (zcl4) (by decide) zi4 (by decide +kernel)
theorem v70_4 (L : Nat) (xs : Nat → Int32) : zVal L xs 70 4 (.inl (i_is 5 6)) := zS_istore d70_4
theorem v70_6 (L : Nat) (xs : Nat → Int32) : zVal L xs 70 6 (.inl (i_c (.int 0) 7)) := zS_iconst d70_6 (by decide)
theorem v70_7 (L : Nat) (xs : Nat → Int32) : zVal L xs 70 7 (.inl (i_is 6 9)) := zS_istore d70_7
theorem v70_9 (L : Nat) (xs : Nat → Int32) : zVal L xs 70 9 (.inl (i_k [false, false, false, false, false, false, false, true, true] (i_il 6 11))) := zS_k (zS_iload d70_9)
theorem v70_11 (L : Nat) (xs : Nat → Int32) : zVal L xs 70 11 (.inl (i_al 1 12)) := zS_aload_n d70_11 rfl
theorem v70_12 (L : Nat) (xs : Nat → Int32) : zVal L xs 70 12 (.inl (i_gf 4 4 15)) := zS_getfN (host := "EditionGrid") d70_12 (zcl4) (by decide) zi4 (by decide +kernel)
theorem v70_15 (L : Nat) (xs : Nat → Int32) : zVal L xs 70 15 (.inl (i_f2 (fun x y => decide (y ≤ x)) 96 18)) := zS_icmp_ge d70_15 (by decide)
theorem v70_18 (L : Nat) (xs : Nat → Int32) : zVal L xs 70 18 (.inl (i_al 1 19)) := zS_aload_n d70_18 rfl
theorem v70_19 (L : Nat) (xs : Nat → Int32) : zVal L xs 70 19 (.inl (i_gf 4 3 22)) := zS_getfN (host := "EditionGrid") d70_19 (zcl4) (by decide) zi4 (by decide +kernel)
theorem v70_22 (L : Nat) (xs : Nat → Int32) : zVal L xs 70 22 (.inl (i_c (.int 1) 23)) := zS_iconst d70_22 (by decide)
theorem v70_23 (L : Nat) (xs : Nat → Int32) : zVal L xs 70 23 (.inl (i_bi (fun x y => x + y) 24)) := zS_iadd d70_23
theorem v70_24 (L : Nat) (xs : Nat → Int32) : zVal L xs 70 24 (.inl (i_il 6 26)) := zS_iload d70_24
theorem v70_26 (L : Nat) (xs : Nat → Int32) : zVal L xs 70 26 (.inl (i_il 3 27)) := zS_iload_n d70_26 rfl
theorem v70_27 (L : Nat) (xs : Nat → Int32) : zVal L xs 70 27 (.inl (i_f2 (fun x y => decide (y ≤ x)) 35 30)) := zS_icmp_ge d70_27 (by decide)
theorem v70_30 (L : Nat) (xs : Nat → Int32) : zVal L xs 70 30 (.inl (i_il 4 32)) := zS_iload d70_30
theorem v70_32 (L : Nat) (xs : Nat → Int32) : zVal L xs 70 32 (.inl (i_go 36)) := zS_goto d70_32 (by decide)
theorem v70_35 (L : Nat) (xs : Nat → Int32) : zVal L xs 70 35 (.inl (i_c (.int 0) 36)) := zS_iconst d70_35 (by decide)
theorem v70_36 (L : Nat) (xs : Nat → Int32) : zVal L xs 70 36 (.inl (i_k [false, false, false, false, false, false, false, true, true] (i_bi (fun x y => x + y) 37))) := zS_k (zS_iadd d70_36)
theorem v70_37 (L : Nat) (xs : Nat → Int32) : zVal L xs 70 37 (.inl (i_is 7 39)) := zS_istore d70_37
theorem v70_39 (L : Nat) (xs : Nat → Int32) : zVal L xs 70 39 (.inl (i_c (.int 0) 40)) := zS_iconst d70_39 (by decide)
theorem v70_40 (L : Nat) (xs : Nat → Int32) : zVal L xs 70 40 (.inl (i_is 8 42)) := zS_istore d70_40
theorem v70_42 (L : Nat) (xs : Nat → Int32) : zVal L xs 70 42 (.inl (i_k [false, false, false, false, false, false, false, false, false] (i_il 8 44))) := zS_k (zS_iload d70_42)
theorem v70_44 (L : Nat) (xs : Nat → Int32) : zVal L xs 70 44 (.inl (i_al 1 45)) := zS_aload_n d70_44 rfl
theorem v70_45 (L : Nat) (xs : Nat → Int32) : zVal L xs 70 45 (.inl (i_gf 4 0 48)) := zS_getfN (host := "EditionGrid") d70_45 (zcl4) (by decide) zi4 (by decide +kernel)
theorem v70_48 (L : Nat) (xs : Nat → Int32) : zVal L xs 70 48 (.inl (i_il 6 50)) := zS_iload d70_48
theorem v70_50 (L : Nat) (xs : Nat → Int32) : zVal L xs 70 50 (.inl (i_ga 0 51)) := zS_iald d70_50
theorem v70_51 (L : Nat) (xs : Nat → Int32) : zVal L xs 70 51 (.inl (i_f2 (fun x y => decide (y ≤ x)) 90 54)) := zS_icmp_ge d70_51 (by decide)
theorem v70_54 (L : Nat) (xs : Nat → Int32) : zVal L xs 70 54 (.inl (i_al 0 55)) := zS_aload_n d70_54 rfl
theorem v70_55 (L : Nat) (xs : Nat → Int32) : zVal L xs 70 55 (.inl (i_gf 6 0 58)) := zS_getf d70_55 (zcl6) (by decide) zi6 w367
theorem v70_58 (L : Nat) (xs : Nat → Int32) : zVal L xs 70 58 (.inl (i_al 1 59)) := zS_aload_n d70_58 rfl
theorem v70_59 (L : Nat) (xs : Nat → Int32) : zVal L xs 70 59 (.inl (i_gf 4 1 62)) := zS_getfN (host := "EditionGrid") d70_59 (zcl4) (by decide) zi4 (by decide +kernel)
theorem v70_62 (L : Nat) (xs : Nat → Int32) : zVal L xs 70 62 (.inl (i_al 1 63)) := zS_aload_n d70_62 rfl
theorem v70_63 (L : Nat) (xs : Nat → Int32) : zVal L xs 70 63 (.inl (i_gf 4 2 66)) := zS_getfN (host := "EditionGrid") d70_63 (zcl4) (by decide) zi4 (by decide +kernel)
theorem v70_66 (L : Nat) (xs : Nat → Int32) : zVal L xs 70 66 (.inl (i_il 6 68)) := zS_iload d70_66
theorem v70_68 (L : Nat) (xs : Nat → Int32) : zVal L xs 70 68 (.inl (i_bi (fun x y => x + y) 69)) := zS_iadd d70_68
theorem v70_69 (L : Nat) (xs : Nat → Int32) : zVal L xs 70 69 (.inl (i_il 7 71)) := zS_iload d70_69
theorem v70_71 (L : Nat) (xs : Nat → Int32) : zVal L xs 70 71 (.inl (i_il 8 73)) := zS_iload d70_71
theorem v70_73 (L : Nat) (xs : Nat → Int32) : zVal L xs 70 73 (.inl (i_bi (fun x y => x + y) 74)) := zS_iadd d70_73
theorem v70_74 (L : Nat) (xs : Nat → Int32) : zVal L xs 70 74 (.inl (i_il 2 75)) := zS_iload_n d70_74 rfl
theorem v70_75 (L : Nat) (xs : Nat → Int32) : zVal L xs 70 75 (.inl (i_il 5 77)) := zS_iload d70_75
theorem v70_77 (L : Nat) (xs : Nat → Int32) : zVal L xs 70 77 (.inl (i_bi (fun x y => x + y) 78)) := zS_iadd d70_77
theorem v70_78 (L : Nat) (xs : Nat → Int32) : zVal L xs 70 78 (.inr (.inl (84, 5, 9))) := ⟨by decide +kernel, by decide +kernel, zc_virt d70_78 zcl8 w674 w671 w672 w673 w82 ⟨by decide +kernel, by decide +kernel, by decide +kernel⟩ (by decide) (by decide)⟩
theorem v70_81 (L : Nat) (xs : Nat → Int32) : zVal L xs 70 81 (.inl (i_in 5 1 84)) := zS_iinc d70_81 (by decide)
theorem v70_84 (L : Nat) (xs : Nat → Int32) : zVal L xs 70 84 (.inl (i_in 8 1 87)) := zS_iinc d70_84 (by decide)
theorem v70_87 (L : Nat) (xs : Nat → Int32) : zVal L xs 70 87 (.inl (i_go 42)) := zS_goto d70_87 (by decide)
theorem v70_90 (L : Nat) (xs : Nat → Int32) : zVal L xs 70 90 (.inl (i_in 6 1 93)) := zS_iinc d70_90 (by decide)
theorem v70_93 (L : Nat) (xs : Nat → Int32) : zVal L xs 70 93 (.inl (i_go 9)) := zS_goto d70_93 (by decide)
theorem v70_96 (L : Nat) (xs : Nat → Int32) : zVal L xs 70 96 (.inr (.inr 0)) := zr_0 d70_96 rfl
theorem vt70 (L : Nat) (xs : Nat → Int32) : zAll (fun x => zVal L xs 70 x.1 x.2) (tb70) := ⟨v70_0 L xs, v70_1 L xs, v70_4 L xs, v70_6 L xs, v70_7 L xs, v70_9 L xs, v70_11 L xs, v70_12 L xs, v70_15 L xs, v70_18 L xs, v70_19 L xs, v70_22 L xs, v70_23 L xs, v70_24 L xs, v70_26 L xs, v70_27 L xs, v70_30 L xs, v70_32 L xs, v70_35 L xs, v70_36 L xs, v70_37 L xs, v70_39 L xs, v70_40 L xs, v70_42 L xs, v70_44 L xs, v70_45 L xs, v70_48 L xs, v70_50 L xs, v70_51 L xs, v70_54 L xs, v70_55 L xs, v70_58 L xs, v70_59 L xs, v70_62 L xs, v70_63 L xs, v70_66 L xs, v70_68 L xs, v70_69 L xs, v70_71 L xs, v70_73 L xs, v70_74 L xs, v70_75 L xs, v70_77 L xs, v70_78 L xs, v70_81 L xs, v70_84 L xs, v70_87 L xs, v70_90 L xs, v70_93 L xs, v70_96 L xs, trivial⟩
theorem d71_0 : decode (mB 71) 0 = .ok (.aload_n 0, 1) := by decide +kernel
theorem d71_1 : decode (mB 71) 1 = .ok (.invokespecial 3, 3) := by decide +kernel
theorem d71_4 : decode (mB 71) 4 = .ok (.aload_n 0, 1) := by decide +kernel
theorem d71_5 : decode (mB 71) 5 = .ok (.sipush 480, 3) := by decide +kernel
theorem d71_8 : decode (mB 71) 8 = .ok (.newarray .char, 2) := by decide +kernel
theorem d71_10 : decode (mB 71) 10 = .ok (.putfield 9, 3) := by decide +kernel
theorem d71_13 : decode (mB 71) 13 = .ok (.aload_n 0, 1) := by decide +kernel
theorem d71_14 : decode (mB 71) 14 = .ok (.iconst 4, 1) := by decide +kernel
theorem d71_15 : decode (mB 71) 15 = .ok (.anewarray 15, 3) := by decide +kernel
theorem d71_18 : decode (mB 71) 18 = .ok (.putfield 17, 3) := by decide +kernel
theorem d71_21 : decode (mB 71) 21 = .ok (.aload_n 0, 1) := by decide +kernel
theorem d71_22 : decode (mB 71) 22 = .ok (.iconst (-1), 1) := by decide +kernel
theorem d71_23 : decode (mB 71) 23 = .ok (.putfield 21, 3) := by decide +kernel
theorem d71_26 : decode (mB 71) 26 = .ok (.iconst 0, 1) := by decide +kernel
theorem d71_27 : decode (mB 71) 27 = .ok (.istore_n 1, 1) := by decide +kernel
theorem d71_28 : decode (mB 71) 28 = .ok (.iload_n 1, 1) := by decide +kernel
theorem d71_29 : decode (mB 71) 29 = .ok (.iconst 4, 1) := by decide +kernel
theorem d71_30 : decode (mB 71) 30 = .ok (.if_icmp .ge 23, 3) := by decide +kernel
theorem d71_33 : decode (mB 71) 33 = .ok (.aload_n 0, 1) := by decide +kernel
theorem d71_34 : decode (mB 71) 34 = .ok (.getfield 17, 3) := by decide +kernel
theorem d71_37 : decode (mB 71) 37 = .ok (.iload_n 1, 1) := by decide +kernel
theorem d71_38 : decode (mB 71) 38 = .ok (.new 15, 3) := by decide +kernel
theorem d71_41 : decode (mB 71) 41 = .ok (.dup, 1) := by decide +kernel
theorem d71_42 : decode (mB 71) 42 = .ok (.iload_n 1, 1) := by decide +kernel
theorem d71_43 : decode (mB 71) 43 = .ok (.invokespecial 25, 3) := by decide +kernel
theorem d71_46 : decode (mB 71) 46 = .ok (.aastore, 1) := by decide +kernel
theorem d71_47 : decode (mB 71) 47 = .ok (.iinc 1 1, 3) := by decide +kernel
theorem d71_50 : decode (mB 71) 50 = .ok (.goto (-22), 3) := by decide +kernel
theorem d71_53 : decode (mB 71) 53 = .ok (.return_, 1) := by decide +kernel
theorem v71_0 (L : Nat) (xs : Nat → Int32) : zVal L xs 71 0 (.inl (i_al 0 1)) := zS_aload_n d71_0 rfl
theorem v71_1 (L : Nat) (xs : Nat → Int32) : zVal L xs 71 1 (.inl (i_oi 4)) := zS_oinit d71_1 w100 w93 w94 (by decide)
theorem v71_4 (L : Nat) (xs : Nat → Int32) : zVal L xs 71 4 (.inl (i_al 0 5)) := zS_aload_n d71_4 rfl
theorem v71_5 (L : Nat) (xs : Nat → Int32) : zVal L xs 71 5 (.inl (i_c (.int 480) 8)) := zS_sipush d71_5 (by decide)
theorem v71_8 (L : Nat) (xs : Nat → Int32) : zVal L xs 71 8 (.inl (i_na (50, 1188) 2 (.inl (fun _ => 0)) 10)) := zS_newa (ty := .char) d71_8 w151 rfl (by decide) (fun _ => rfl) (fun _ => rfl) (fun _ _ => rfl) (fun _ _ h => h)
theorem v71_10 (L : Nat) (xs : Nat → Int32) : zVal L xs 71 10 (.inl (i_pf 7 0 okR 13)) := zS_putfF (ty := .array .char) d71_10 (zcl7) (by decide) zi7 w240 zy7 zn7 (by decide +kernel) (by decide +kernel) (by decide +kernel) (by decide +kernel) (okA_ok (.char))
theorem v71_13 (L : Nat) (xs : Nat → Int32) : zVal L xs 71 13 (.inl (i_al 0 14)) := zS_aload_n d71_13 rfl
theorem v71_14 (L : Nat) (xs : Nat → Int32) : zVal L xs 71 14 (.inl (i_c (.int 4) 15)) := zS_iconst d71_14 (by decide)
theorem v71_15 (L : Nat) (xs : Nat → Int32) : zVal L xs 71 15 (.inl (i_na (50, 1188) 4 (.inr (.inr (.inr (.inr (fun _ => none))))) 18)) := zS_newq d71_15 w101 (by decide) (fun _ => rfl)
theorem v71_18 (L : Nat) (xs : Nat → Int32) : zVal L xs 71 18 (.inl (i_pf 7 1 okR 21)) := zS_putfF (ty := .array (.object "EditionGrid$Story")) d71_18 (zcl7) (by decide) zi7 w242 zy7 zn7 (by decide +kernel) (by decide +kernel) (by decide +kernel) (by decide +kernel) (okA_ok (.object "EditionGrid$Story"))
theorem v71_21 (L : Nat) (xs : Nat → Int32) : zVal L xs 71 21 (.inl (i_al 0 22)) := zS_aload_n d71_21 rfl
theorem v71_22 (L : Nat) (xs : Nat → Int32) : zVal L xs 71 22 (.inl (i_c (.int (-1)) 23)) := zS_iconst d71_22 (by decide)
theorem v71_23 (L : Nat) (xs : Nat → Int32) : zVal L xs 71 23 (.inl (i_pf 7 5 okI 26)) := zS_putf (ty := .int) d71_23 (zcl7) (by decide) zi7 w248 zy7 zn7 (by decide +kernel) (by decide +kernel) okI_ok
theorem v71_26 (L : Nat) (xs : Nat → Int32) : zVal L xs 71 26 (.inl (i_c (.int 0) 27)) := zS_iconst d71_26 (by decide)
theorem v71_27 (L : Nat) (xs : Nat → Int32) : zVal L xs 71 27 (.inl (i_is 1 28)) := zS_istore_n d71_27 rfl
theorem v71_28 (L : Nat) (xs : Nat → Int32) : zVal L xs 71 28 (.inl (i_k [false, false] (i_il 1 29))) := zS_k (zS_iload_n d71_28 rfl)
theorem v71_29 (L : Nat) (xs : Nat → Int32) : zVal L xs 71 29 (.inl (i_c (.int 4) 30)) := zS_iconst d71_29 (by decide)
theorem v71_30 (L : Nat) (xs : Nat → Int32) : zVal L xs 71 30 (.inl (i_f2 (fun x y => decide (y ≤ x)) 53 33)) := zS_icmp_ge d71_30 (by decide)
theorem v71_33 (L : Nat) (xs : Nat → Int32) : zVal L xs 71 33 (.inl (i_al 0 34)) := zS_aload_n d71_33 rfl
theorem v71_34 (L : Nat) (xs : Nat → Int32) : zVal L xs 71 34 (.inl (i_gf 7 1 37)) := zS_getf d71_34 (zcl7) (by decide) zi7 w242
theorem v71_37 (L : Nat) (xs : Nat → Int32) : zVal L xs 71 37 (.inl (i_il 1 38)) := zS_iload_n d71_37 rfl
theorem v71_38 (L : Nat) (xs : Nat → Int32) : zVal L xs 71 38 (.inl (i_nw (50, 1188) 9 18 [.int 0, .null, .null, .null, .null, .null, .null, .null, .int 0, .int 0, .int 0, .int 0, .int 0, .int 0, .int 0, .int 0, .int 0, .long 0] 41)) := zS_new (ty := cY9) d71_38 zcl9 zi9 zy9 w101 w103 w75 (by decide +kernel) (fun _ _ => rfl)
theorem v71_41 (L : Nat) (xs : Nat → Int32) : zVal L xs 71 41 (.inl (i_dup 42)) := zS_dup d71_41
theorem v71_42 (L : Nat) (xs : Nat → Int32) : zVal L xs 71 42 (.inl (i_il 1 43)) := zS_iload_n d71_42 rfl
theorem v71_43 (L : Nat) (xs : Nat → Int32) : zVal L xs 71 43 (.inr (.inl (88, 2, 10))) := ⟨by decide +kernel, by decide +kernel, zc_init (T := cT0) (C := "") (N := 0) d71_43 rfl w106 w104 w105 w75 rfl ⟨by decide +kernel, by decide +kernel, by decide +kernel⟩ (by decide) (by decide)⟩
theorem v71_46 (L : Nat) (xs : Nat → Int32) : zVal L xs 71 46 (.inl (i_pq 4 9 47)) := zS_aast4 d71_46 zcl9 (fun _ => rfl)
theorem v71_47 (L : Nat) (xs : Nat → Int32) : zVal L xs 71 47 (.inl (i_in 1 1 50)) := zS_iinc d71_47 (by decide)
theorem v71_50 (L : Nat) (xs : Nat → Int32) : zVal L xs 71 50 (.inl (i_go 28)) := zS_goto d71_50 (by decide)
theorem v71_53 (L : Nat) (xs : Nat → Int32) : zVal L xs 71 53 (.inr (.inr 0)) := zr_0 d71_53 rfl
theorem vt71 (L : Nat) (xs : Nat → Int32) : zAll (fun x => zVal L xs 71 x.1 x.2) (tb71) := ⟨v71_0 L xs, v71_1 L xs, v71_4 L xs, v71_5 L xs, v71_8 L xs, v71_10 L xs, v71_13 L xs, v71_14 L xs, v71_15 L xs, v71_18 L xs, v71_21 L xs, v71_22 L xs, v71_23 L xs, v71_26 L xs, v71_27 L xs, v71_28 L xs, v71_29 L xs, v71_30 L xs, v71_33 L xs, v71_34 L xs, v71_37 L xs, v71_38 L xs, v71_41 L xs, v71_42 L xs, v71_43 L xs, v71_46 L xs, v71_47 L xs, v71_50 L xs, v71_53 L xs, trivial⟩
theorem d72_0 : decode (mB 72) 0 = .ok (.aload_n 0, 1) := by decide +kernel
theorem d72_1 : decode (mB 72) 1 = .ok (.iload_n 2, 1) := by decide +kernel
theorem d72_2 : decode (mB 72) 2 = .ok (.sipush 480, 3) := by decide +kernel
theorem d72_5 : decode (mB 72) 5 = .ok (.invokestatic 28, 3) := by decide +kernel
theorem d72_8 : decode (mB 72) 8 = .ok (.putfield 34, 3) := by decide +kernel
theorem d72_11 : decode (mB 72) 11 = .ok (.aload_n 1, 1) := by decide +kernel
theorem d72_12 : decode (mB 72) 12 = .ok (.iconst 0, 1) := by decide +kernel
theorem d72_13 : decode (mB 72) 13 = .ok (.aload_n 0, 1) := by decide +kernel
theorem d72_14 : decode (mB 72) 14 = .ok (.getfield 9, 3) := by decide +kernel
theorem d72_17 : decode (mB 72) 17 = .ok (.iconst 0, 1) := by decide +kernel
theorem d72_18 : decode (mB 72) 18 = .ok (.aload_n 0, 1) := by decide +kernel
theorem d72_19 : decode (mB 72) 19 = .ok (.getfield 34, 3) := by decide +kernel
theorem d72_22 : decode (mB 72) 22 = .ok (.invokestatic 37, 3) := by decide +kernel
theorem d72_25 : decode (mB 72) 25 = .ok (.aload_n 0, 1) := by decide +kernel
theorem d72_26 : decode (mB 72) 26 = .ok (.iconst 0, 1) := by decide +kernel
theorem d72_27 : decode (mB 72) 27 = .ok (.putfield 43, 3) := by decide +kernel
theorem d72_30 : decode (mB 72) 30 = .ok (.aload_n 0, 1) := by decide +kernel
theorem d72_31 : decode (mB 72) 31 = .ok (.iconst 0, 1) := by decide +kernel
theorem d72_32 : decode (mB 72) 32 = .ok (.putfield 46, 3) := by decide +kernel
theorem d72_35 : decode (mB 72) 35 = .ok (.aload_n 0, 1) := by decide +kernel
theorem d72_36 : decode (mB 72) 36 = .ok (.iconst (-1), 1) := by decide +kernel
theorem d72_37 : decode (mB 72) 37 = .ok (.putfield 21, 3) := by decide +kernel
theorem d72_40 : decode (mB 72) 40 = .ok (.aload_n 0, 1) := by decide +kernel
theorem d72_41 : decode (mB 72) 41 = .ok (.getfield 34, 3) := by decide +kernel
theorem d72_44 : decode (mB 72) 44 = .ok (.ifCond .le 7, 3) := by decide +kernel
theorem d72_47 : decode (mB 72) 47 = .ok (.iconst 1, 1) := by decide +kernel
theorem d72_48 : decode (mB 72) 48 = .ok (.goto 4, 3) := by decide +kernel
theorem d72_51 : decode (mB 72) 51 = .ok (.iconst 0, 1) := by decide +kernel
theorem d72_52 : decode (mB 72) 52 = .ok (.istore_n 3, 1) := by decide +kernel
theorem d72_53 : decode (mB 72) 53 = .ok (.iconst 0, 1) := by decide +kernel
theorem d72_54 : decode (mB 72) 54 = .ok (.istore 4, 2) := by decide +kernel
theorem d72_56 : decode (mB 72) 56 = .ok (.iload 4, 2) := by decide +kernel
theorem d72_58 : decode (mB 72) 58 = .ok (.iconst 4, 1) := by decide +kernel
theorem d72_59 : decode (mB 72) 59 = .ok (.if_icmp .gt 64, 3) := by decide +kernel
theorem d72_62 : decode (mB 72) 62 = .ok (.iload_n 3, 1) := by decide +kernel
theorem d72_63 : decode (mB 72) 63 = .ok (.ifCond .eq 60, 3) := by decide +kernel
theorem d72_66 : decode (mB 72) 66 = .ok (.aload_n 0, 1) := by decide +kernel
theorem d72_67 : decode (mB 72) 67 = .ok (.getfield 43, 3) := by decide +kernel
theorem d72_70 : decode (mB 72) 70 = .ok (.aload_n 0, 1) := by decide +kernel
theorem d72_71 : decode (mB 72) 71 = .ok (.getfield 34, 3) := by decide +kernel
theorem d72_74 : decode (mB 72) 74 = .ok (.if_icmp .ge 49, 3) := by decide +kernel
theorem d72_77 : decode (mB 72) 77 = .ok (.aload_n 0, 1) := by decide +kernel
theorem d72_78 : decode (mB 72) 78 = .ok (.getfield 46, 3) := by decide +kernel
theorem d72_81 : decode (mB 72) 81 = .ok (.iconst 4, 1) := by decide +kernel
theorem d72_82 : decode (mB 72) 82 = .ok (.if_icmp .ge 23, 3) := by decide +kernel
theorem d72_85 : decode (mB 72) 85 = .ok (.aload_n 0, 1) := by decide +kernel
theorem d72_86 : decode (mB 72) 86 = .ok (.aload_n 0, 1) := by decide +kernel
theorem d72_87 : decode (mB 72) 87 = .ok (.getfield 17, 3) := by decide +kernel
theorem d72_90 : decode (mB 72) 90 = .ok (.aload_n 0, 1) := by decide +kernel
theorem d72_91 : decode (mB 72) 91 = .ok (.getfield 46, 3) := by decide +kernel
theorem d72_94 : decode (mB 72) 94 = .ok (.aaload, 1) := by decide +kernel
theorem d72_95 : decode (mB 72) 95 = .ok (.invokevirtual 49, 3) := by decide +kernel
theorem d72_98 : decode (mB 72) 98 = .ok (.ifCond .eq 7, 3) := by decide +kernel
theorem d72_101 : decode (mB 72) 101 = .ok (.iconst 1, 1) := by decide +kernel
theorem d72_102 : decode (mB 72) 102 = .ok (.goto 4, 3) := by decide +kernel
theorem d72_105 : decode (mB 72) 105 = .ok (.iconst 0, 1) := by decide +kernel
theorem d72_106 : decode (mB 72) 106 = .ok (.istore_n 3, 1) := by decide +kernel
theorem d72_107 : decode (mB 72) 107 = .ok (.aload_n 0, 1) := by decide +kernel
theorem d72_108 : decode (mB 72) 108 = .ok (.dup, 1) := by decide +kernel
theorem d72_109 : decode (mB 72) 109 = .ok (.getfield 46, 3) := by decide +kernel
theorem d72_112 : decode (mB 72) 112 = .ok (.iconst 1, 1) := by decide +kernel
theorem d72_113 : decode (mB 72) 113 = .ok (.iadd, 1) := by decide +kernel
theorem d72_114 : decode (mB 72) 114 = .ok (.putfield 46, 3) := by decide +kernel
theorem d72_117 : decode (mB 72) 117 = .ok (.iinc 4 1, 3) := by decide +kernel
theorem d72_120 : decode (mB 72) 120 = .ok (.goto (-64), 3) := by decide +kernel
theorem d72_123 : decode (mB 72) 123 = .ok (.iload_n 3, 1) := by decide +kernel
theorem d72_124 : decode (mB 72) 124 = .ok (.ifCond .ne 16, 3) := by decide +kernel
theorem d72_127 : decode (mB 72) 127 = .ok (.aload_n 0, 1) := by decide +kernel
theorem d72_128 : decode (mB 72) 128 = .ok (.iconst 0, 1) := by decide +kernel
theorem d72_129 : decode (mB 72) 129 = .ok (.putfield 46, 3) := by decide +kernel
theorem d72_132 : decode (mB 72) 132 = .ok (.aload_n 0, 1) := by decide +kernel
theorem d72_133 : decode (mB 72) 133 = .ok (.aload_n 0, 1) := by decide +kernel
theorem d72_134 : decode (mB 72) 134 = .ok (.getfield 43, 3) := by decide +kernel
theorem d72_137 : decode (mB 72) 137 = .ok (.putfield 21, 3) := by decide +kernel
theorem d72_140 : decode (mB 72) 140 = .ok (.return_, 1) := by decide +kernel
theorem v72_0 (L : Nat) (xs : Nat → Int32) : zVal L xs 72 0 (.inl (i_al 0 1)) := zS_aload_n d72_0 rfl
theorem v72_1 (L : Nat) (xs : Nat → Int32) : zVal L xs 72 1 (.inl (i_il 2 2)) := zS_iload_n d72_1 rfl
theorem v72_2 (L : Nat) (xs : Nat → Int32) : zVal L xs 72 2 (.inl (i_c (.int 480) 5)) := zS_sipush d72_2 (by decide)
theorem v72_5 (L : Nat) (xs : Nat → Int32) : zVal L xs 72 5 (.inl (i_mm (0, 0) (fun x y => if y < x then y else x) 8)) := zS_mmin d72_5 w500 w267 w77 w268 (by decide)
theorem v72_8 (L : Nat) (xs : Nat → Int32) : zVal L xs 72 8 (.inl (i_pf 7 2 okI 11)) := zS_putf (ty := .int) d72_8 (zcl7) (by decide) zi7 w244 zy7 zn7 (by decide +kernel) (by decide +kernel) okI_ok
theorem v72_11 (L : Nat) (xs : Nat → Int32) : zVal L xs 72 11 (.inl (i_al 1 12)) := zS_aload_n d72_11 rfl
theorem v72_12 (L : Nat) (xs : Nat → Int32) : zVal L xs 72 12 (.inl (i_c (.int 0) 13)) := zS_iconst d72_12 (by decide)
theorem v72_13 (L : Nat) (xs : Nat → Int32) : zVal L xs 72 13 (.inl (i_al 0 14)) := zS_aload_n d72_13 rfl
theorem v72_14 (L : Nat) (xs : Nat → Int32) : zVal L xs 72 14 (.inl (i_gf 7 0 17)) := zS_getf d72_14 (zcl7) (by decide) zi7 w240
theorem v72_17 (L : Nat) (xs : Nat → Int32) : zVal L xs 72 17 (.inl (i_c (.int 0) 18)) := zS_iconst d72_17 (by decide)
theorem v72_18 (L : Nat) (xs : Nat → Int32) : zVal L xs 72 18 (.inl (i_al 0 19)) := zS_aload_n d72_18 rfl
theorem v72_19 (L : Nat) (xs : Nat → Int32) : zVal L xs 72 19 (.inl (i_gf 7 2 22)) := zS_getf d72_19 (zcl7) (by decide) zi7 w244
theorem v72_22 (L : Nat) (xs : Nat → Int32) : zVal L xs 72 22 (.inl (i_cp 25)) := zS_acopy d72_22 w501 w503 w502 w86 (by decide)
theorem v72_25 (L : Nat) (xs : Nat → Int32) : zVal L xs 72 25 (.inl (i_al 0 26)) := zS_aload_n d72_25 rfl
theorem v72_26 (L : Nat) (xs : Nat → Int32) : zVal L xs 72 26 (.inl (i_c (.int 0) 27)) := zS_iconst d72_26 (by decide)
theorem v72_27 (L : Nat) (xs : Nat → Int32) : zVal L xs 72 27 (.inl (i_pf 7 3 okI 30)) := zS_putf (ty := .int) d72_27 (zcl7) (by decide) zi7 w245 zy7 zn7 (by decide +kernel) (by decide +kernel) okI_ok
theorem v72_30 (L : Nat) (xs : Nat → Int32) : zVal L xs 72 30 (.inl (i_al 0 31)) := zS_aload_n d72_30 rfl
theorem v72_31 (L : Nat) (xs : Nat → Int32) : zVal L xs 72 31 (.inl (i_c (.int 0) 32)) := zS_iconst d72_31 (by decide)
theorem v72_32 (L : Nat) (xs : Nat → Int32) : zVal L xs 72 32 (.inl (i_pf 7 4 okI 35)) := zS_putf (ty := .int) d72_32 (zcl7) (by decide) zi7 w246 zy7 zn7 (by decide +kernel) (by decide +kernel) okI_ok
theorem v72_35 (L : Nat) (xs : Nat → Int32) : zVal L xs 72 35 (.inl (i_al 0 36)) := zS_aload_n d72_35 rfl
theorem v72_36 (L : Nat) (xs : Nat → Int32) : zVal L xs 72 36 (.inl (i_c (.int (-1)) 37)) := zS_iconst d72_36 (by decide)
theorem v72_37 (L : Nat) (xs : Nat → Int32) : zVal L xs 72 37 (.inl (i_pf 7 5 okI 40)) := zS_putf (ty := .int) d72_37 (zcl7) (by decide) zi7 w248 zy7 zn7 (by decide +kernel) (by decide +kernel) okI_ok
theorem v72_40 (L : Nat) (xs : Nat → Int32) : zVal L xs 72 40 (.inl (i_al 0 41)) := zS_aload_n d72_40 rfl
theorem v72_41 (L : Nat) (xs : Nat → Int32) : zVal L xs 72 41 (.inl (i_gf 7 2 44)) := zS_getf d72_41 (zcl7) (by decide) zi7 w244
theorem v72_44 (L : Nat) (xs : Nat → Int32) : zVal L xs 72 44 (.inl (i_f1 (fun x => decide (x ≤ 0)) 51 47)) := zS_if_le d72_44 (by decide)
theorem v72_47 (L : Nat) (xs : Nat → Int32) : zVal L xs 72 47 (.inl (i_c (.int 1) 48)) := zS_iconst d72_47 (by decide)
theorem v72_48 (L : Nat) (xs : Nat → Int32) : zVal L xs 72 48 (.inl (i_go 52)) := zS_goto d72_48 (by decide)
theorem v72_51 (L : Nat) (xs : Nat → Int32) : zVal L xs 72 51 (.inl (i_c (.int 0) 52)) := zS_iconst d72_51 (by decide)
theorem v72_52 (L : Nat) (xs : Nat → Int32) : zVal L xs 72 52 (.inl (i_k [false, true, true, true, true] (i_is 3 53))) := zS_k (zS_istore_n d72_52 rfl)
theorem v72_53 (L : Nat) (xs : Nat → Int32) : zVal L xs 72 53 (.inl (i_c (.int 0) 54)) := zS_iconst d72_53 (by decide)
theorem v72_54 (L : Nat) (xs : Nat → Int32) : zVal L xs 72 54 (.inl (i_is 4 56)) := zS_istore d72_54
theorem v72_56 (L : Nat) (xs : Nat → Int32) : zVal L xs 72 56 (.inl (i_k [false, true, true, false, false] (i_il 4 58))) := zS_k (zS_iload d72_56)
theorem v72_58 (L : Nat) (xs : Nat → Int32) : zVal L xs 72 58 (.inl (i_c (.int 4) 59)) := zS_iconst d72_58 (by decide)
theorem v72_59 (L : Nat) (xs : Nat → Int32) : zVal L xs 72 59 (.inl (i_f2 (fun x y => decide (y < x)) 123 62)) := zS_icmp_gt d72_59 (by decide)
theorem v72_62 (L : Nat) (xs : Nat → Int32) : zVal L xs 72 62 (.inl (i_il 3 63)) := zS_iload_n d72_62 rfl
theorem v72_63 (L : Nat) (xs : Nat → Int32) : zVal L xs 72 63 (.inl (i_f1 (fun x => decide (x = 0)) 123 66)) := zS_if_eq d72_63 (by decide)
theorem v72_66 (L : Nat) (xs : Nat → Int32) : zVal L xs 72 66 (.inl (i_al 0 67)) := zS_aload_n d72_66 rfl
theorem v72_67 (L : Nat) (xs : Nat → Int32) : zVal L xs 72 67 (.inl (i_gf 7 3 70)) := zS_getf d72_67 (zcl7) (by decide) zi7 w245
theorem v72_70 (L : Nat) (xs : Nat → Int32) : zVal L xs 72 70 (.inl (i_al 0 71)) := zS_aload_n d72_70 rfl
theorem v72_71 (L : Nat) (xs : Nat → Int32) : zVal L xs 72 71 (.inl (i_gf 7 2 74)) := zS_getf d72_71 (zcl7) (by decide) zi7 w244
theorem v72_74 (L : Nat) (xs : Nat → Int32) : zVal L xs 72 74 (.inl (i_f2 (fun x y => decide (y ≤ x)) 123 77)) := zS_icmp_ge d72_74 (by decide)
theorem v72_77 (L : Nat) (xs : Nat → Int32) : zVal L xs 72 77 (.inl (i_al 0 78)) := zS_aload_n d72_77 rfl
theorem v72_78 (L : Nat) (xs : Nat → Int32) : zVal L xs 72 78 (.inl (i_gf 7 4 81)) := zS_getf d72_78 (zcl7) (by decide) zi7 w246
theorem v72_81 (L : Nat) (xs : Nat → Int32) : zVal L xs 72 81 (.inl (i_c (.int 4) 82)) := zS_iconst d72_81 (by decide)
theorem v72_82 (L : Nat) (xs : Nat → Int32) : zVal L xs 72 82 (.inl (i_f2 (fun x y => decide (y ≤ x)) 105 85)) := zS_icmp_ge d72_82 (by decide)
theorem v72_85 (L : Nat) (xs : Nat → Int32) : zVal L xs 72 85 (.inl (i_al 0 86)) := zS_aload_n d72_85 rfl
theorem v72_86 (L : Nat) (xs : Nat → Int32) : zVal L xs 72 86 (.inl (i_al 0 87)) := zS_aload_n d72_86 rfl
theorem v72_87 (L : Nat) (xs : Nat → Int32) : zVal L xs 72 87 (.inl (i_gf 7 1 90)) := zS_getf d72_87 (zcl7) (by decide) zi7 w242
theorem v72_90 (L : Nat) (xs : Nat → Int32) : zVal L xs 72 90 (.inl (i_al 0 91)) := zS_aload_n d72_90 rfl
theorem v72_91 (L : Nat) (xs : Nat → Int32) : zVal L xs 72 91 (.inl (i_gf 7 4 94)) := zS_getf d72_91 (zcl7) (by decide) zi7 w246
theorem v72_94 (L : Nat) (xs : Nat → Int32) : zVal L xs 72 94 (.inl (i_gq 4 95)) := zS_aald4 d72_94
theorem v72_95 (L : Nat) (xs : Nat → Int32) : zVal L xs 72 95 (.inr (.inl (73, 2, 8))) := ⟨by decide +kernel, by decide +kernel, zc_virt d72_95 zcl7 w507 w504 w506 w2 w74 ⟨by decide +kernel, by decide +kernel, by decide +kernel⟩ (by decide) (by decide)⟩
theorem v72_98 (L : Nat) (xs : Nat → Int32) : zVal L xs 72 98 (.inl (i_f1 (fun x => decide (x = 0)) 105 101)) := zS_if_eq d72_98 (by decide)
theorem v72_101 (L : Nat) (xs : Nat → Int32) : zVal L xs 72 101 (.inl (i_c (.int 1) 102)) := zS_iconst d72_101 (by decide)
theorem v72_102 (L : Nat) (xs : Nat → Int32) : zVal L xs 72 102 (.inl (i_go 106)) := zS_goto d72_102 (by decide)
theorem v72_105 (L : Nat) (xs : Nat → Int32) : zVal L xs 72 105 (.inl (i_k [false, true, true, true, false] (i_c (.int 0) 106))) := zS_k (zS_iconst d72_105 (by decide))
theorem v72_106 (L : Nat) (xs : Nat → Int32) : zVal L xs 72 106 (.inl (i_k [false, true, true, true, false] (i_is 3 107))) := zS_k (zS_istore_n d72_106 rfl)
theorem v72_107 (L : Nat) (xs : Nat → Int32) : zVal L xs 72 107 (.inl (i_al 0 108)) := zS_aload_n d72_107 rfl
theorem v72_108 (L : Nat) (xs : Nat → Int32) : zVal L xs 72 108 (.inl (i_dup 109)) := zS_dup d72_108
theorem v72_109 (L : Nat) (xs : Nat → Int32) : zVal L xs 72 109 (.inl (i_gf 7 4 112)) := zS_getf d72_109 (zcl7) (by decide) zi7 w246
theorem v72_112 (L : Nat) (xs : Nat → Int32) : zVal L xs 72 112 (.inl (i_c (.int 1) 113)) := zS_iconst d72_112 (by decide)
theorem v72_113 (L : Nat) (xs : Nat → Int32) : zVal L xs 72 113 (.inl (i_bi (fun x y => x + y) 114)) := zS_iadd d72_113
theorem v72_114 (L : Nat) (xs : Nat → Int32) : zVal L xs 72 114 (.inl (i_pf 7 4 okI 117)) := zS_putf (ty := .int) d72_114 (zcl7) (by decide) zi7 w246 zy7 zn7 (by decide +kernel) (by decide +kernel) okI_ok
theorem v72_117 (L : Nat) (xs : Nat → Int32) : zVal L xs 72 117 (.inl (i_in 4 1 120)) := zS_iinc d72_117 (by decide)
theorem v72_120 (L : Nat) (xs : Nat → Int32) : zVal L xs 72 120 (.inl (i_go 56)) := zS_goto d72_120 (by decide)
theorem v72_123 (L : Nat) (xs : Nat → Int32) : zVal L xs 72 123 (.inl (i_k [false, true, true, false, true] (i_il 3 124))) := zS_k (zS_iload_n d72_123 rfl)
theorem v72_124 (L : Nat) (xs : Nat → Int32) : zVal L xs 72 124 (.inl (i_f1 (fun x => decide (¬ x = 0)) 140 127)) := zS_if_ne d72_124 (by decide)
theorem v72_127 (L : Nat) (xs : Nat → Int32) : zVal L xs 72 127 (.inl (i_al 0 128)) := zS_aload_n d72_127 rfl
theorem v72_128 (L : Nat) (xs : Nat → Int32) : zVal L xs 72 128 (.inl (i_c (.int 0) 129)) := zS_iconst d72_128 (by decide)
theorem v72_129 (L : Nat) (xs : Nat → Int32) : zVal L xs 72 129 (.inl (i_pf 7 4 okI 132)) := zS_putf (ty := .int) d72_129 (zcl7) (by decide) zi7 w246 zy7 zn7 (by decide +kernel) (by decide +kernel) okI_ok
theorem v72_132 (L : Nat) (xs : Nat → Int32) : zVal L xs 72 132 (.inl (i_al 0 133)) := zS_aload_n d72_132 rfl
theorem v72_133 (L : Nat) (xs : Nat → Int32) : zVal L xs 72 133 (.inl (i_al 0 134)) := zS_aload_n d72_133 rfl
theorem v72_134 (L : Nat) (xs : Nat → Int32) : zVal L xs 72 134 (.inl (i_gf 7 3 137)) := zS_getf d72_134 (zcl7) (by decide) zi7 w245
theorem v72_137 (L : Nat) (xs : Nat → Int32) : zVal L xs 72 137 (.inl (i_pf 7 5 okI 140)) := zS_putf (ty := .int) d72_137 (zcl7) (by decide) zi7 w248 zy7 zn7 (by decide +kernel) (by decide +kernel) okI_ok
theorem v72_140 (L : Nat) (xs : Nat → Int32) : zVal L xs 72 140 (.inr (.inr 0)) := zr_0 d72_140 rfl
theorem vt72 (L : Nat) (xs : Nat → Int32) : zAll (fun x => zVal L xs 72 x.1 x.2) (tb72) := ⟨v72_0 L xs, v72_1 L xs, v72_2 L xs, v72_5 L xs, v72_8 L xs, v72_11 L xs, v72_12 L xs, v72_13 L xs, v72_14 L xs, v72_17 L xs, v72_18 L xs, v72_19 L xs, v72_22 L xs, v72_25 L xs, v72_26 L xs, v72_27 L xs, v72_30 L xs, v72_31 L xs, v72_32 L xs, v72_35 L xs, v72_36 L xs, v72_37 L xs, v72_40 L xs, v72_41 L xs, v72_44 L xs, v72_47 L xs, v72_48 L xs, v72_51 L xs, v72_52 L xs, v72_53 L xs, v72_54 L xs, v72_56 L xs, v72_58 L xs, v72_59 L xs, v72_62 L xs, v72_63 L xs, v72_66 L xs, v72_67 L xs, v72_70 L xs, v72_71 L xs, v72_74 L xs, v72_77 L xs, v72_78 L xs, v72_81 L xs, v72_82 L xs, v72_85 L xs, v72_86 L xs, v72_87 L xs, v72_90 L xs, v72_91 L xs, v72_94 L xs, v72_95 L xs, v72_98 L xs, v72_101 L xs, v72_102 L xs, v72_105 L xs, v72_106 L xs, v72_107 L xs, v72_108 L xs, v72_109 L xs, v72_112 L xs, v72_113 L xs, v72_114 L xs, v72_117 L xs, v72_120 L xs, v72_123 L xs, v72_124 L xs, v72_127 L xs, v72_128 L xs, v72_129 L xs, v72_132 L xs, v72_133 L xs, v72_134 L xs, v72_137 L xs, v72_140 L xs, trivial⟩
theorem d73_0 : decode (mB 73) 0 = .ok (.aload_n 1, 1) := by decide +kernel
theorem d73_1 : decode (mB 73) 1 = .ok (.invokevirtual 53, 3) := by decide +kernel
theorem d73_4 : decode (mB 73) 4 = .ok (.aload_n 0, 1) := by decide +kernel
theorem d73_5 : decode (mB 73) 5 = .ok (.bipush 35, 2) := by decide +kernel
theorem d73_7 : decode (mB 73) 7 = .ok (.invokevirtual 56, 3) := by decide +kernel
theorem d73_10 : decode (mB 73) 10 = .ok (.ifCond .eq 14, 3) := by decide +kernel
theorem d73_13 : decode (mB 73) 13 = .ok (.aload_n 0, 1) := by decide +kernel
theorem d73_14 : decode (mB 73) 14 = .ok (.invokevirtual 60, 3) := by decide +kernel
theorem d73_17 : decode (mB 73) 17 = .ok (.iconst 0, 1) := by decide +kernel
theorem d73_18 : decode (mB 73) 18 = .ok (.invokestatic 64, 3) := by decide +kernel
theorem d73_21 : decode (mB 73) 21 = .ok (.ifCond .ne 5, 3) := by decide +kernel
theorem d73_24 : decode (mB 73) 24 = .ok (.iconst 0, 1) := by decide +kernel
theorem d73_25 : decode (mB 73) 25 = .ok (.ireturn, 1) := by decide +kernel
theorem d73_26 : decode (mB 73) 26 = .ok (.aload_n 1, 1) := by decide +kernel
theorem d73_27 : decode (mB 73) 27 = .ok (.aload_n 0, 1) := by decide +kernel
theorem d73_28 : decode (mB 73) 28 = .ok (.invokevirtual 60, 3) := by decide +kernel
theorem d73_31 : decode (mB 73) 31 = .ok (.bipush 48, 2) := by decide +kernel
theorem d73_33 : decode (mB 73) 33 = .ok (.isub, 1) := by decide +kernel
theorem d73_34 : decode (mB 73) 34 = .ok (.putfield 68, 3) := by decide +kernel
theorem d73_37 : decode (mB 73) 37 = .ok (.aload_n 0, 1) := by decide +kernel
theorem d73_38 : decode (mB 73) 38 = .ok (.dup, 1) := by decide +kernel
theorem d73_39 : decode (mB 73) 39 = .ok (.getfield 43, 3) := by decide +kernel
theorem d73_42 : decode (mB 73) 42 = .ok (.iconst 1, 1) := by decide +kernel
theorem d73_43 : decode (mB 73) 43 = .ok (.iadd, 1) := by decide +kernel
theorem d73_44 : decode (mB 73) 44 = .ok (.putfield 43, 3) := by decide +kernel
theorem d73_47 : decode (mB 73) 47 = .ok (.aload_n 1, 1) := by decide +kernel
theorem d73_48 : decode (mB 73) 48 = .ok (.aload_n 0, 1) := by decide +kernel
theorem d73_49 : decode (mB 73) 49 = .ok (.getfield 43, 3) := by decide +kernel
theorem d73_52 : decode (mB 73) 52 = .ok (.putfield 71, 3) := by decide +kernel
theorem d73_55 : decode (mB 73) 55 = .ok (.aload_n 0, 1) := by decide +kernel
theorem d73_56 : decode (mB 73) 56 = .ok (.iconst 4, 1) := by decide +kernel
theorem d73_57 : decode (mB 73) 57 = .ok (.invokevirtual 74, 3) := by decide +kernel
theorem d73_60 : decode (mB 73) 60 = .ok (.ifCond .ne 5, 3) := by decide +kernel
theorem d73_63 : decode (mB 73) 63 = .ok (.iconst 0, 1) := by decide +kernel
theorem d73_64 : decode (mB 73) 64 = .ok (.ireturn, 1) := by decide +kernel
theorem d73_65 : decode (mB 73) 65 = .ok (.aload_n 1, 1) := by decide +kernel
theorem d73_66 : decode (mB 73) 66 = .ok (.aload_n 0, 1) := by decide +kernel
theorem d73_67 : decode (mB 73) 67 = .ok (.getfield 43, 3) := by decide +kernel
theorem d73_70 : decode (mB 73) 70 = .ok (.putfield 77, 3) := by decide +kernel
theorem d73_73 : decode (mB 73) 73 = .ok (.aload_n 0, 1) := by decide +kernel
theorem d73_74 : decode (mB 73) 74 = .ok (.bipush 10, 2) := by decide +kernel
theorem d73_76 : decode (mB 73) 76 = .ok (.invokevirtual 56, 3) := by decide +kernel
theorem d73_79 : decode (mB 73) 79 = .ok (.ifCond .eq 15, 3) := by decide +kernel
theorem d73_82 : decode (mB 73) 82 = .ok (.aload_n 0, 1) := by decide +kernel
theorem d73_83 : decode (mB 73) 83 = .ok (.aload_n 1, 1) := by decide +kernel
theorem d73_84 : decode (mB 73) 84 = .ok (.invokevirtual 80, 3) := by decide +kernel
theorem d73_87 : decode (mB 73) 87 = .ok (.ifCond .eq 7, 3) := by decide +kernel
theorem d73_90 : decode (mB 73) 90 = .ok (.iconst 1, 1) := by decide +kernel
theorem d73_91 : decode (mB 73) 91 = .ok (.goto 4, 3) := by decide +kernel
theorem d73_94 : decode (mB 73) 94 = .ok (.iconst 0, 1) := by decide +kernel
theorem d73_95 : decode (mB 73) 95 = .ok (.istore_n 2, 1) := by decide +kernel
theorem d73_96 : decode (mB 73) 96 = .ok (.aload_n 0, 1) := by decide +kernel
theorem d73_97 : decode (mB 73) 97 = .ok (.getfield 43, 3) := by decide +kernel
theorem d73_100 : decode (mB 73) 100 = .ok (.istore_n 3, 1) := by decide +kernel
theorem d73_101 : decode (mB 73) 101 = .ok (.iload_n 3, 1) := by decide +kernel
theorem d73_102 : decode (mB 73) 102 = .ok (.aload_n 0, 1) := by decide +kernel
theorem d73_103 : decode (mB 73) 103 = .ok (.getfield 34, 3) := by decide +kernel
theorem d73_106 : decode (mB 73) 106 = .ok (.if_icmp .ge 39, 3) := by decide +kernel
theorem d73_109 : decode (mB 73) 109 = .ok (.iload_n 2, 1) := by decide +kernel
theorem d73_110 : decode (mB 73) 110 = .ok (.ifCond .eq 35, 3) := by decide +kernel
theorem d73_113 : decode (mB 73) 113 = .ok (.aload_n 0, 1) := by decide +kernel
theorem d73_114 : decode (mB 73) 114 = .ok (.getfield 43, 3) := by decide +kernel
theorem d73_117 : decode (mB 73) 117 = .ok (.aload_n 0, 1) := by decide +kernel
theorem d73_118 : decode (mB 73) 118 = .ok (.getfield 34, 3) := by decide +kernel
theorem d73_121 : decode (mB 73) 121 = .ok (.if_icmp .ge 24, 3) := by decide +kernel
theorem d73_124 : decode (mB 73) 124 = .ok (.aload_n 0, 1) := by decide +kernel
theorem d73_125 : decode (mB 73) 125 = .ok (.invokevirtual 60, 3) := by decide +kernel
theorem d73_128 : decode (mB 73) 128 = .ok (.bipush 35, 2) := by decide +kernel
theorem d73_130 : decode (mB 73) 130 = .ok (.if_icmp .eq 15, 3) := by decide +kernel
theorem d73_133 : decode (mB 73) 133 = .ok (.aload_n 0, 1) := by decide +kernel
theorem d73_134 : decode (mB 73) 134 = .ok (.aload_n 1, 1) := by decide +kernel
theorem d73_135 : decode (mB 73) 135 = .ok (.invokevirtual 80, 3) := by decide +kernel
theorem d73_138 : decode (mB 73) 138 = .ok (.istore_n 2, 1) := by decide +kernel
theorem d73_139 : decode (mB 73) 139 = .ok (.iinc 3 1, 3) := by decide +kernel
theorem d73_142 : decode (mB 73) 142 = .ok (.goto (-41), 3) := by decide +kernel
theorem d73_145 : decode (mB 73) 145 = .ok (.iload_n 2, 1) := by decide +kernel
theorem d73_146 : decode (mB 73) 146 = .ok (.ireturn, 1) := by decide +kernel
theorem v73_0 (L : Nat) (xs : Nat → Int32) : zVal L xs 73 0 (.inl (i_al 1 1)) := zS_aload_n d73_0 rfl
theorem v73_1 (L : Nat) (xs : Nat → Int32) : zVal L xs 73 1 (.inr (.inl (89, 1, 10))) := ⟨by decide +kernel, by decide +kernel, zc_virt d73_1 zcl9 w511 w508 w509 w510 w75 ⟨by decide +kernel, by decide +kernel, by decide +kernel⟩ (by decide) (by decide)⟩
theorem v73_4 (L : Nat) (xs : Nat → Int32) : zVal L xs 73 4 (.inl (i_al 0 5)) := zS_aload_n d73_4 rfl
theorem v73_5 (L : Nat) (xs : Nat → Int32) : zVal L xs 73 5 (.inl (i_c (.int 35) 7)) := zS_bipush d73_5 (by decide)
theorem v73_7 (L : Nat) (xs : Nat → Int32) : zVal L xs 73 7 (.inr (.inl (78, 2, 8))) := ⟨by decide +kernel, by decide +kernel, zc_virt d73_7 zcl7 w515 w512 w514 w3 w74 ⟨by decide +kernel, by decide +kernel, by decide +kernel⟩ (by decide) (by decide)⟩
theorem v73_10 (L : Nat) (xs : Nat → Int32) : zVal L xs 73 10 (.inl (i_f1 (fun x => decide (x = 0)) 24 13)) := zS_if_eq d73_10 (by decide)
theorem v73_13 (L : Nat) (xs : Nat → Int32) : zVal L xs 73 13 (.inl (i_al 0 14)) := zS_aload_n d73_13 rfl
theorem v73_14 (L : Nat) (xs : Nat → Int32) : zVal L xs 73 14 (.inr (.inl (79, 1, 8))) := ⟨by decide +kernel, by decide +kernel, zc_virt d73_14 zcl7 w519 w516 w518 w4 w74 ⟨by decide +kernel, by decide +kernel, by decide +kernel⟩ (by decide) (by decide)⟩
theorem v73_17 (L : Nat) (xs : Nat → Int32) : zVal L xs 73 17 (.inl (i_c (.int 0) 18)) := zS_iconst d73_17 (by decide)
theorem v73_18 (L : Nat) (xs : Nat → Int32) : zVal L xs 73 18 (.inr (.inl (20, 2, 0))) := ⟨by decide +kernel, by decide +kernel, zc_staticN (host := "EditionGrid") d73_18 w522 (by decide +kernel) w521 w73 ⟨by decide +kernel, by decide +kernel, by decide +kernel⟩ (by decide) (by decide)⟩
theorem v73_21 (L : Nat) (xs : Nat → Int32) : zVal L xs 73 21 (.inl (i_f1 (fun x => decide (¬ x = 0)) 26 24)) := zS_if_ne d73_21 (by decide)
theorem v73_24 (L : Nat) (xs : Nat → Int32) : zVal L xs 73 24 (.inl (i_k [true, true, true, true] (i_c (.int 0) 25))) := zS_k (zS_iconst d73_24 (by decide))
theorem v73_25 (L : Nat) (xs : Nat → Int32) : zVal L xs 73 25 (.inr (.inr 2)) := zr_2 d73_25 rfl
theorem v73_26 (L : Nat) (xs : Nat → Int32) : zVal L xs 73 26 (.inl (i_al 1 27)) := zS_aload_n d73_26 rfl
theorem v73_27 (L : Nat) (xs : Nat → Int32) : zVal L xs 73 27 (.inl (i_al 0 28)) := zS_aload_n d73_27 rfl
theorem v73_28 (L : Nat) (xs : Nat → Int32) : zVal L xs 73 28 (.inr (.inl (79, 1, 8))) := ⟨by decide +kernel, by decide +kernel, zc_virt d73_28 zcl7 w519 w516 w518 w4 w74 ⟨by decide +kernel, by decide +kernel, by decide +kernel⟩ (by decide) (by decide)⟩
theorem v73_31 (L : Nat) (xs : Nat → Int32) : zVal L xs 73 31 (.inl (i_c (.int 48) 33)) := zS_bipush d73_31 (by decide)
theorem v73_33 (L : Nat) (xs : Nat → Int32) : zVal L xs 73 33 (.inl (i_bi (fun x y => x - y) 34)) := zS_isub d73_33
theorem v73_34 (L : Nat) (xs : Nat → Int32) : zVal L xs 73 34 (.inl (i_pf 9 8 okI 37)) := zS_putfN (host := "EditionGrid") (ty := .int) d73_34 (zcl9) (by decide) zi9 (by decide +kernel) zy9 zn9 (by decide +kernel) (by decide +kernel) okI_ok
theorem v73_37 (L : Nat) (xs : Nat → Int32) : zVal L xs 73 37 (.inl (i_al 0 38)) := zS_aload_n d73_37 rfl
theorem v73_38 (L : Nat) (xs : Nat → Int32) : zVal L xs 73 38 (.inl (i_dup 39)) := zS_dup d73_38
theorem v73_39 (L : Nat) (xs : Nat → Int32) : zVal L xs 73 39 (.inl (i_gf 7 3 42)) := zS_getf d73_39 (zcl7) (by decide) zi7 w245
theorem v73_42 (L : Nat) (xs : Nat → Int32) : zVal L xs 73 42 (.inl (i_c (.int 1) 43)) := zS_iconst d73_42 (by decide)
theorem v73_43 (L : Nat) (xs : Nat → Int32) : zVal L xs 73 43 (.inl (i_bi (fun x y => x + y) 44)) := zS_iadd d73_43
theorem v73_44 (L : Nat) (xs : Nat → Int32) : zVal L xs 73 44 (.inl (i_pf 7 3 okI 47)) := zS_putf (ty := .int) d73_44 (zcl7) (by decide) zi7 w245 zy7 zn7 (by decide +kernel) (by decide +kernel) okI_ok
theorem v73_47 (L : Nat) (xs : Nat → Int32) : zVal L xs 73 47 (.inl (i_al 1 48)) := zS_aload_n d73_47 rfl
theorem v73_48 (L : Nat) (xs : Nat → Int32) : zVal L xs 73 48 (.inl (i_al 0 49)) := zS_aload_n d73_48 rfl
theorem v73_49 (L : Nat) (xs : Nat → Int32) : zVal L xs 73 49 (.inl (i_gf 7 3 52)) := zS_getf d73_49 (zcl7) (by decide) zi7 w245
theorem v73_52 (L : Nat) (xs : Nat → Int32) : zVal L xs 73 52 (.inl (i_pf 9 9 okI 55)) := zS_putfN (host := "EditionGrid") (ty := .int) d73_52 (zcl9) (by decide) zi9 (by decide +kernel) zy9 zn9 (by decide +kernel) (by decide +kernel) okI_ok
theorem v73_55 (L : Nat) (xs : Nat → Int32) : zVal L xs 73 55 (.inl (i_al 0 56)) := zS_aload_n d73_55 rfl
theorem v73_56 (L : Nat) (xs : Nat → Int32) : zVal L xs 73 56 (.inl (i_c (.int 4) 57)) := zS_iconst d73_56 (by decide)
theorem v73_57 (L : Nat) (xs : Nat → Int32) : zVal L xs 73 57 (.inr (.inl (76, 2, 8))) := ⟨by decide +kernel, by decide +kernel, zc_virt d73_57 zcl7 w526 w523 w525 w5 w74 ⟨by decide +kernel, by decide +kernel, by decide +kernel⟩ (by decide) (by decide)⟩
theorem v73_60 (L : Nat) (xs : Nat → Int32) : zVal L xs 73 60 (.inl (i_f1 (fun x => decide (¬ x = 0)) 65 63)) := zS_if_ne d73_60 (by decide)
theorem v73_63 (L : Nat) (xs : Nat → Int32) : zVal L xs 73 63 (.inl (i_c (.int 0) 64)) := zS_iconst d73_63 (by decide)
theorem v73_64 (L : Nat) (xs : Nat → Int32) : zVal L xs 73 64 (.inr (.inr 2)) := zr_2 d73_64 rfl
theorem v73_65 (L : Nat) (xs : Nat → Int32) : zVal L xs 73 65 (.inl (i_al 1 66)) := zS_aload_n d73_65 rfl
theorem v73_66 (L : Nat) (xs : Nat → Int32) : zVal L xs 73 66 (.inl (i_al 0 67)) := zS_aload_n d73_66 rfl
theorem v73_67 (L : Nat) (xs : Nat → Int32) : zVal L xs 73 67 (.inl (i_gf 7 3 70)) := zS_getf d73_67 (zcl7) (by decide) zi7 w245
theorem v73_70 (L : Nat) (xs : Nat → Int32) : zVal L xs 73 70 (.inl (i_pf 9 10 okI 73)) := zS_putfN (host := "EditionGrid") (ty := .int) d73_70 (zcl9) (by decide) zi9 (by decide +kernel) zy9 zn9 (by decide +kernel) (by decide +kernel) okI_ok
theorem v73_73 (L : Nat) (xs : Nat → Int32) : zVal L xs 73 73 (.inl (i_al 0 74)) := zS_aload_n d73_73 rfl
theorem v73_74 (L : Nat) (xs : Nat → Int32) : zVal L xs 73 74 (.inl (i_c (.int 10) 76)) := zS_bipush d73_74 (by decide)
theorem v73_76 (L : Nat) (xs : Nat → Int32) : zVal L xs 73 76 (.inr (.inl (78, 2, 8))) := ⟨by decide +kernel, by decide +kernel, zc_virt d73_76 zcl7 w515 w512 w514 w3 w74 ⟨by decide +kernel, by decide +kernel, by decide +kernel⟩ (by decide) (by decide)⟩
theorem v73_79 (L : Nat) (xs : Nat → Int32) : zVal L xs 73 79 (.inl (i_f1 (fun x => decide (x = 0)) 94 82)) := zS_if_eq d73_79 (by decide)
theorem v73_82 (L : Nat) (xs : Nat → Int32) : zVal L xs 73 82 (.inl (i_al 0 83)) := zS_aload_n d73_82 rfl
theorem v73_83 (L : Nat) (xs : Nat → Int32) : zVal L xs 73 83 (.inl (i_al 1 84)) := zS_aload_n d73_83 rfl
theorem v73_84 (L : Nat) (xs : Nat → Int32) : zVal L xs 73 84 (.inr (.inl (74, 2, 8))) := ⟨by decide +kernel, by decide +kernel, zc_virt d73_84 zcl7 w535 w532 w534 w7 w74 ⟨by decide +kernel, by decide +kernel, by decide +kernel⟩ (by decide) (by decide)⟩
theorem v73_87 (L : Nat) (xs : Nat → Int32) : zVal L xs 73 87 (.inl (i_f1 (fun x => decide (x = 0)) 94 90)) := zS_if_eq d73_87 (by decide)
theorem v73_90 (L : Nat) (xs : Nat → Int32) : zVal L xs 73 90 (.inl (i_c (.int 1) 91)) := zS_iconst d73_90 (by decide)
theorem v73_91 (L : Nat) (xs : Nat → Int32) : zVal L xs 73 91 (.inl (i_go 95)) := zS_goto d73_91 (by decide)
theorem v73_94 (L : Nat) (xs : Nat → Int32) : zVal L xs 73 94 (.inl (i_k [false, false, true, true] (i_c (.int 0) 95))) := zS_k (zS_iconst d73_94 (by decide))
theorem v73_95 (L : Nat) (xs : Nat → Int32) : zVal L xs 73 95 (.inl (i_k [false, false, true, true] (i_is 2 96))) := zS_k (zS_istore_n d73_95 rfl)
theorem v73_96 (L : Nat) (xs : Nat → Int32) : zVal L xs 73 96 (.inl (i_al 0 97)) := zS_aload_n d73_96 rfl
theorem v73_97 (L : Nat) (xs : Nat → Int32) : zVal L xs 73 97 (.inl (i_gf 7 3 100)) := zS_getf d73_97 (zcl7) (by decide) zi7 w245
theorem v73_100 (L : Nat) (xs : Nat → Int32) : zVal L xs 73 100 (.inl (i_is 3 101)) := zS_istore_n d73_100 rfl
theorem v73_101 (L : Nat) (xs : Nat → Int32) : zVal L xs 73 101 (.inl (i_k [false, false, false, false] (i_il 3 102))) := zS_k (zS_iload_n d73_101 rfl)
theorem v73_102 (L : Nat) (xs : Nat → Int32) : zVal L xs 73 102 (.inl (i_al 0 103)) := zS_aload_n d73_102 rfl
theorem v73_103 (L : Nat) (xs : Nat → Int32) : zVal L xs 73 103 (.inl (i_gf 7 2 106)) := zS_getf d73_103 (zcl7) (by decide) zi7 w244
theorem v73_106 (L : Nat) (xs : Nat → Int32) : zVal L xs 73 106 (.inl (i_f2 (fun x y => decide (y ≤ x)) 145 109)) := zS_icmp_ge d73_106 (by decide)
theorem v73_109 (L : Nat) (xs : Nat → Int32) : zVal L xs 73 109 (.inl (i_il 2 110)) := zS_iload_n d73_109 rfl
theorem v73_110 (L : Nat) (xs : Nat → Int32) : zVal L xs 73 110 (.inl (i_f1 (fun x => decide (x = 0)) 145 113)) := zS_if_eq d73_110 (by decide)
theorem v73_113 (L : Nat) (xs : Nat → Int32) : zVal L xs 73 113 (.inl (i_al 0 114)) := zS_aload_n d73_113 rfl
theorem v73_114 (L : Nat) (xs : Nat → Int32) : zVal L xs 73 114 (.inl (i_gf 7 3 117)) := zS_getf d73_114 (zcl7) (by decide) zi7 w245
theorem v73_117 (L : Nat) (xs : Nat → Int32) : zVal L xs 73 117 (.inl (i_al 0 118)) := zS_aload_n d73_117 rfl
theorem v73_118 (L : Nat) (xs : Nat → Int32) : zVal L xs 73 118 (.inl (i_gf 7 2 121)) := zS_getf d73_118 (zcl7) (by decide) zi7 w244
theorem v73_121 (L : Nat) (xs : Nat → Int32) : zVal L xs 73 121 (.inl (i_f2 (fun x y => decide (y ≤ x)) 145 124)) := zS_icmp_ge d73_121 (by decide)
theorem v73_124 (L : Nat) (xs : Nat → Int32) : zVal L xs 73 124 (.inl (i_al 0 125)) := zS_aload_n d73_124 rfl
theorem v73_125 (L : Nat) (xs : Nat → Int32) : zVal L xs 73 125 (.inr (.inl (79, 1, 8))) := ⟨by decide +kernel, by decide +kernel, zc_virt d73_125 zcl7 w519 w516 w518 w4 w74 ⟨by decide +kernel, by decide +kernel, by decide +kernel⟩ (by decide) (by decide)⟩
theorem v73_128 (L : Nat) (xs : Nat → Int32) : zVal L xs 73 128 (.inl (i_c (.int 35) 130)) := zS_bipush d73_128 (by decide)
theorem v73_130 (L : Nat) (xs : Nat → Int32) : zVal L xs 73 130 (.inl (i_f2 (fun x y => decide (x = y)) 145 133)) := zS_icmp_eq d73_130 (by decide)
theorem v73_133 (L : Nat) (xs : Nat → Int32) : zVal L xs 73 133 (.inl (i_al 0 134)) := zS_aload_n d73_133 rfl
theorem v73_134 (L : Nat) (xs : Nat → Int32) : zVal L xs 73 134 (.inl (i_al 1 135)) := zS_aload_n d73_134 rfl
theorem v73_135 (L : Nat) (xs : Nat → Int32) : zVal L xs 73 135 (.inr (.inl (74, 2, 8))) := ⟨by decide +kernel, by decide +kernel, zc_virt d73_135 zcl7 w535 w532 w534 w7 w74 ⟨by decide +kernel, by decide +kernel, by decide +kernel⟩ (by decide) (by decide)⟩
theorem v73_138 (L : Nat) (xs : Nat → Int32) : zVal L xs 73 138 (.inl (i_is 2 139)) := zS_istore_n d73_138 rfl
theorem v73_139 (L : Nat) (xs : Nat → Int32) : zVal L xs 73 139 (.inl (i_in 3 1 142)) := zS_iinc d73_139 (by decide)
theorem v73_142 (L : Nat) (xs : Nat → Int32) : zVal L xs 73 142 (.inl (i_go 101)) := zS_goto d73_142 (by decide)
theorem v73_145 (L : Nat) (xs : Nat → Int32) : zVal L xs 73 145 (.inl (i_k [true, true, false, true] (i_il 2 146))) := zS_k (zS_iload_n d73_145 rfl)
theorem v73_146 (L : Nat) (xs : Nat → Int32) : zVal L xs 73 146 (.inr (.inr 2)) := zr_2 d73_146 rfl
theorem vt73 (L : Nat) (xs : Nat → Int32) : zAll (fun x => zVal L xs 73 x.1 x.2) (tb73) := ⟨v73_0 L xs, v73_1 L xs, v73_4 L xs, v73_5 L xs, v73_7 L xs, v73_10 L xs, v73_13 L xs, v73_14 L xs, v73_17 L xs, v73_18 L xs, v73_21 L xs, v73_24 L xs, v73_25 L xs, v73_26 L xs, v73_27 L xs, v73_28 L xs, v73_31 L xs, v73_33 L xs, v73_34 L xs, v73_37 L xs, v73_38 L xs, v73_39 L xs, v73_42 L xs, v73_43 L xs, v73_44 L xs, v73_47 L xs, v73_48 L xs, v73_49 L xs, v73_52 L xs, v73_55 L xs, v73_56 L xs, v73_57 L xs, v73_60 L xs, v73_63 L xs, v73_64 L xs, v73_65 L xs, v73_66 L xs, v73_67 L xs, v73_70 L xs, v73_73 L xs, v73_74 L xs, v73_76 L xs, v73_79 L xs, v73_82 L xs, v73_83 L xs, v73_84 L xs, v73_87 L xs, v73_90 L xs, v73_91 L xs, v73_94 L xs, v73_95 L xs, v73_96 L xs, v73_97 L xs, v73_100 L xs, v73_101 L xs, v73_102 L xs, v73_103 L xs, v73_106 L xs, v73_109 L xs, v73_110 L xs, v73_113 L xs, v73_114 L xs, v73_117 L xs, v73_118 L xs, v73_121 L xs, v73_124 L xs, v73_125 L xs, v73_128 L xs, v73_130 L xs, v73_133 L xs, v73_134 L xs, v73_135 L xs, v73_138 L xs, v73_139 L xs, v73_142 L xs, v73_145 L xs, v73_146 L xs, trivial⟩
theorem d74_0 : decode (mB 74) 0 = .ok (.aload_n 0, 1) := by decide +kernel
theorem d74_1 : decode (mB 74) 1 = .ok (.invokevirtual 60, 3) := by decide +kernel
theorem d74_4 : decode (mB 74) 4 = .ok (.bipush 61, 2) := by decide +kernel
theorem d74_6 : decode (mB 74) 6 = .ok (.if_icmp .ne 24, 3) := by decide +kernel
theorem d74_9 : decode (mB 74) 9 = .ok (.aload_n 1, 1) := by decide +kernel
theorem d74_10 : decode (mB 74) 10 = .ok (.getfield 83, 3) := by decide +kernel
theorem d74_13 : decode (mB 74) 13 = .ok (.ifCond .ne 15, 3) := by decide +kernel
theorem d74_16 : decode (mB 74) 16 = .ok (.aload_n 0, 1) := by decide +kernel
theorem d74_17 : decode (mB 74) 17 = .ok (.aload_n 1, 1) := by decide +kernel
theorem d74_18 : decode (mB 74) 18 = .ok (.invokevirtual 86, 3) := by decide +kernel
theorem d74_21 : decode (mB 74) 21 = .ok (.ifCond .eq 7, 3) := by decide +kernel
theorem d74_24 : decode (mB 74) 24 = .ok (.iconst 1, 1) := by decide +kernel
theorem d74_25 : decode (mB 74) 25 = .ok (.goto 4, 3) := by decide +kernel
theorem d74_28 : decode (mB 74) 28 = .ok (.iconst 0, 1) := by decide +kernel
theorem d74_29 : decode (mB 74) 29 = .ok (.ireturn, 1) := by decide +kernel
theorem d74_30 : decode (mB 74) 30 = .ok (.aload_n 1, 1) := by decide +kernel
theorem d74_31 : decode (mB 74) 31 = .ok (.getfield 89, 3) := by decide +kernel
theorem d74_34 : decode (mB 74) 34 = .ok (.iconst 4, 1) := by decide +kernel
theorem d74_35 : decode (mB 74) 35 = .ok (.if_icmp .lt 5, 3) := by decide +kernel
theorem d74_38 : decode (mB 74) 38 = .ok (.iconst 0, 1) := by decide +kernel
theorem d74_39 : decode (mB 74) 39 = .ok (.ireturn, 1) := by decide +kernel
theorem d74_40 : decode (mB 74) 40 = .ok (.aload_n 1, 1) := by decide +kernel
theorem d74_41 : decode (mB 74) 41 = .ok (.getfield 92, 3) := by decide +kernel
theorem d74_44 : decode (mB 74) 44 = .ok (.aload_n 1, 1) := by decide +kernel
theorem d74_45 : decode (mB 74) 45 = .ok (.getfield 89, 3) := by decide +kernel
theorem d74_48 : decode (mB 74) 48 = .ok (.aload_n 0, 1) := by decide +kernel
theorem d74_49 : decode (mB 74) 49 = .ok (.getfield 43, 3) := by decide +kernel
theorem d74_52 : decode (mB 74) 52 = .ok (.iastore, 1) := by decide +kernel
theorem d74_53 : decode (mB 74) 53 = .ok (.aload_n 0, 1) := by decide +kernel
theorem d74_54 : decode (mB 74) 54 = .ok (.bipush 16, 2) := by decide +kernel
theorem d74_56 : decode (mB 74) 56 = .ok (.invokevirtual 74, 3) := by decide +kernel
theorem d74_59 : decode (mB 74) 59 = .ok (.ifCond .ne 5, 3) := by decide +kernel
theorem d74_62 : decode (mB 74) 62 = .ok (.iconst 0, 1) := by decide +kernel
theorem d74_63 : decode (mB 74) 63 = .ok (.ireturn, 1) := by decide +kernel
theorem d74_64 : decode (mB 74) 64 = .ok (.aload_n 1, 1) := by decide +kernel
theorem d74_65 : decode (mB 74) 65 = .ok (.getfield 96, 3) := by decide +kernel
theorem d74_68 : decode (mB 74) 68 = .ok (.aload_n 1, 1) := by decide +kernel
theorem d74_69 : decode (mB 74) 69 = .ok (.getfield 89, 3) := by decide +kernel
theorem d74_72 : decode (mB 74) 72 = .ok (.aload_n 0, 1) := by decide +kernel
theorem d74_73 : decode (mB 74) 73 = .ok (.getfield 43, 3) := by decide +kernel
theorem d74_76 : decode (mB 74) 76 = .ok (.iastore, 1) := by decide +kernel
theorem d74_77 : decode (mB 74) 77 = .ok (.aload_n 1, 1) := by decide +kernel
theorem d74_78 : decode (mB 74) 78 = .ok (.dup, 1) := by decide +kernel
theorem d74_79 : decode (mB 74) 79 = .ok (.getfield 89, 3) := by decide +kernel
theorem d74_82 : decode (mB 74) 82 = .ok (.iconst 1, 1) := by decide +kernel
theorem d74_83 : decode (mB 74) 83 = .ok (.iadd, 1) := by decide +kernel
theorem d74_84 : decode (mB 74) 84 = .ok (.putfield 89, 3) := by decide +kernel
theorem d74_87 : decode (mB 74) 87 = .ok (.aload_n 0, 1) := by decide +kernel
theorem d74_88 : decode (mB 74) 88 = .ok (.bipush 10, 2) := by decide +kernel
theorem d74_90 : decode (mB 74) 90 = .ok (.invokevirtual 56, 3) := by decide +kernel
theorem d74_93 : decode (mB 74) 93 = .ok (.ireturn, 1) := by decide +kernel
theorem v74_0 (L : Nat) (xs : Nat → Int32) : zVal L xs 74 0 (.inl (i_al 0 1)) := zS_aload_n d74_0 rfl
theorem v74_1 (L : Nat) (xs : Nat → Int32) : zVal L xs 74 1 (.inr (.inl (79, 1, 8))) := ⟨by decide +kernel, by decide +kernel, zc_virt d74_1 zcl7 w519 w516 w518 w4 w74 ⟨by decide +kernel, by decide +kernel, by decide +kernel⟩ (by decide) (by decide)⟩
theorem v74_4 (L : Nat) (xs : Nat → Int32) : zVal L xs 74 4 (.inl (i_c (.int 61) 6)) := zS_bipush d74_4 (by decide)
theorem v74_6 (L : Nat) (xs : Nat → Int32) : zVal L xs 74 6 (.inl (i_f2 (fun x y => decide (¬ x = y)) 30 9)) := zS_icmp_ne d74_6 (by decide)
theorem v74_9 (L : Nat) (xs : Nat → Int32) : zVal L xs 74 9 (.inl (i_al 1 10)) := zS_aload_n d74_9 rfl
theorem v74_10 (L : Nat) (xs : Nat → Int32) : zVal L xs 74 10 (.inl (i_gf 9 12 13)) := zS_getfN (host := "EditionGrid") d74_10 (zcl9) (by decide) zi9 (by decide +kernel)
theorem v74_13 (L : Nat) (xs : Nat → Int32) : zVal L xs 74 13 (.inl (i_f1 (fun x => decide (¬ x = 0)) 28 16)) := zS_if_ne d74_13 (by decide)
theorem v74_16 (L : Nat) (xs : Nat → Int32) : zVal L xs 74 16 (.inl (i_al 0 17)) := zS_aload_n d74_16 rfl
theorem v74_17 (L : Nat) (xs : Nat → Int32) : zVal L xs 74 17 (.inl (i_al 1 18)) := zS_aload_n d74_17 rfl
theorem v74_18 (L : Nat) (xs : Nat → Int32) : zVal L xs 74 18 (.inr (.inl (75, 2, 8))) := ⟨by decide +kernel, by decide +kernel, zc_virt d74_18 zcl7 w539 w536 w538 w8 w74 ⟨by decide +kernel, by decide +kernel, by decide +kernel⟩ (by decide) (by decide)⟩
theorem v74_21 (L : Nat) (xs : Nat → Int32) : zVal L xs 74 21 (.inl (i_f1 (fun x => decide (x = 0)) 28 24)) := zS_if_eq d74_21 (by decide)
theorem v74_24 (L : Nat) (xs : Nat → Int32) : zVal L xs 74 24 (.inl (i_c (.int 1) 25)) := zS_iconst d74_24 (by decide)
theorem v74_25 (L : Nat) (xs : Nat → Int32) : zVal L xs 74 25 (.inl (i_go 29)) := zS_goto d74_25 (by decide)
theorem v74_28 (L : Nat) (xs : Nat → Int32) : zVal L xs 74 28 (.inl (i_k [true, true] (i_c (.int 0) 29))) := zS_k (zS_iconst d74_28 (by decide))
theorem v74_29 (L : Nat) (xs : Nat → Int32) : zVal L xs 74 29 (.inr (.inr 2)) := zr_2 d74_29 rfl
theorem v74_30 (L : Nat) (xs : Nat → Int32) : zVal L xs 74 30 (.inl (i_al 1 31)) := zS_aload_n d74_30 rfl
theorem v74_31 (L : Nat) (xs : Nat → Int32) : zVal L xs 74 31 (.inl (i_gf 9 11 34)) := zS_getfN (host := "EditionGrid") d74_31 (zcl9) (by decide) zi9 (by decide +kernel)
theorem v74_34 (L : Nat) (xs : Nat → Int32) : zVal L xs 74 34 (.inl (i_c (.int 4) 35)) := zS_iconst d74_34 (by decide)
theorem v74_35 (L : Nat) (xs : Nat → Int32) : zVal L xs 74 35 (.inl (i_f2 (fun x y => decide (x < y)) 40 38)) := zS_icmp_lt d74_35 (by decide)
theorem v74_38 (L : Nat) (xs : Nat → Int32) : zVal L xs 74 38 (.inl (i_c (.int 0) 39)) := zS_iconst d74_38 (by decide)
theorem v74_39 (L : Nat) (xs : Nat → Int32) : zVal L xs 74 39 (.inr (.inr 2)) := zr_2 d74_39 rfl
theorem v74_40 (L : Nat) (xs : Nat → Int32) : zVal L xs 74 40 (.inl (i_al 1 41)) := zS_aload_n d74_40 rfl
theorem v74_41 (L : Nat) (xs : Nat → Int32) : zVal L xs 74 41 (.inl (i_gf 9 1 44)) := zS_getfN (host := "EditionGrid") d74_41 (zcl9) (by decide) zi9 (by decide +kernel)
theorem v74_44 (L : Nat) (xs : Nat → Int32) : zVal L xs 74 44 (.inl (i_al 1 45)) := zS_aload_n d74_44 rfl
theorem v74_45 (L : Nat) (xs : Nat → Int32) : zVal L xs 74 45 (.inl (i_gf 9 11 48)) := zS_getfN (host := "EditionGrid") d74_45 (zcl9) (by decide) zi9 (by decide +kernel)
theorem v74_48 (L : Nat) (xs : Nat → Int32) : zVal L xs 74 48 (.inl (i_al 0 49)) := zS_aload_n d74_48 rfl
theorem v74_49 (L : Nat) (xs : Nat → Int32) : zVal L xs 74 49 (.inl (i_gf 7 3 52)) := zS_getf d74_49 (zcl7) (by decide) zi7 w245
theorem v74_52 (L : Nat) (xs : Nat → Int32) : zVal L xs 74 52 (.inl (i_pa 0 (fun x => x) 53)) := zS_iast d74_52
theorem v74_53 (L : Nat) (xs : Nat → Int32) : zVal L xs 74 53 (.inl (i_al 0 54)) := zS_aload_n d74_53 rfl
theorem v74_54 (L : Nat) (xs : Nat → Int32) : zVal L xs 74 54 (.inl (i_c (.int 16) 56)) := zS_bipush d74_54 (by decide)
theorem v74_56 (L : Nat) (xs : Nat → Int32) : zVal L xs 74 56 (.inr (.inl (76, 2, 8))) := ⟨by decide +kernel, by decide +kernel, zc_virt d74_56 zcl7 w526 w523 w525 w5 w74 ⟨by decide +kernel, by decide +kernel, by decide +kernel⟩ (by decide) (by decide)⟩
theorem v74_59 (L : Nat) (xs : Nat → Int32) : zVal L xs 74 59 (.inl (i_f1 (fun x => decide (¬ x = 0)) 64 62)) := zS_if_ne d74_59 (by decide)
theorem v74_62 (L : Nat) (xs : Nat → Int32) : zVal L xs 74 62 (.inl (i_c (.int 0) 63)) := zS_iconst d74_62 (by decide)
theorem v74_63 (L : Nat) (xs : Nat → Int32) : zVal L xs 74 63 (.inr (.inr 2)) := zr_2 d74_63 rfl
theorem v74_64 (L : Nat) (xs : Nat → Int32) : zVal L xs 74 64 (.inl (i_al 1 65)) := zS_aload_n d74_64 rfl
theorem v74_65 (L : Nat) (xs : Nat → Int32) : zVal L xs 74 65 (.inl (i_gf 9 2 68)) := zS_getfN (host := "EditionGrid") d74_65 (zcl9) (by decide) zi9 (by decide +kernel)
theorem v74_68 (L : Nat) (xs : Nat → Int32) : zVal L xs 74 68 (.inl (i_al 1 69)) := zS_aload_n d74_68 rfl
theorem v74_69 (L : Nat) (xs : Nat → Int32) : zVal L xs 74 69 (.inl (i_gf 9 11 72)) := zS_getfN (host := "EditionGrid") d74_69 (zcl9) (by decide) zi9 (by decide +kernel)
theorem v74_72 (L : Nat) (xs : Nat → Int32) : zVal L xs 74 72 (.inl (i_al 0 73)) := zS_aload_n d74_72 rfl
theorem v74_73 (L : Nat) (xs : Nat → Int32) : zVal L xs 74 73 (.inl (i_gf 7 3 76)) := zS_getf d74_73 (zcl7) (by decide) zi7 w245
theorem v74_76 (L : Nat) (xs : Nat → Int32) : zVal L xs 74 76 (.inl (i_pa 0 (fun x => x) 77)) := zS_iast d74_76
theorem v74_77 (L : Nat) (xs : Nat → Int32) : zVal L xs 74 77 (.inl (i_al 1 78)) := zS_aload_n d74_77 rfl
theorem v74_78 (L : Nat) (xs : Nat → Int32) : zVal L xs 74 78 (.inl (i_dup 79)) := zS_dup d74_78
theorem v74_79 (L : Nat) (xs : Nat → Int32) : zVal L xs 74 79 (.inl (i_gf 9 11 82)) := zS_getfN (host := "EditionGrid") d74_79 (zcl9) (by decide) zi9 (by decide +kernel)
theorem v74_82 (L : Nat) (xs : Nat → Int32) : zVal L xs 74 82 (.inl (i_c (.int 1) 83)) := zS_iconst d74_82 (by decide)
theorem v74_83 (L : Nat) (xs : Nat → Int32) : zVal L xs 74 83 (.inl (i_bi (fun x y => x + y) 84)) := zS_iadd d74_83
theorem v74_84 (L : Nat) (xs : Nat → Int32) : zVal L xs 74 84 (.inl (i_pf 9 11 okI 87)) := zS_putfN (host := "EditionGrid") (ty := .int) d74_84 (zcl9) (by decide) zi9 (by decide +kernel) zy9 zn9 (by decide +kernel) (by decide +kernel) okI_ok
theorem v74_87 (L : Nat) (xs : Nat → Int32) : zVal L xs 74 87 (.inl (i_al 0 88)) := zS_aload_n d74_87 rfl
theorem v74_88 (L : Nat) (xs : Nat → Int32) : zVal L xs 74 88 (.inl (i_c (.int 10) 90)) := zS_bipush d74_88 (by decide)
theorem v74_90 (L : Nat) (xs : Nat → Int32) : zVal L xs 74 90 (.inr (.inl (78, 2, 8))) := ⟨by decide +kernel, by decide +kernel, zc_virt d74_90 zcl7 w515 w512 w514 w3 w74 ⟨by decide +kernel, by decide +kernel, by decide +kernel⟩ (by decide) (by decide)⟩
theorem v74_93 (L : Nat) (xs : Nat → Int32) : zVal L xs 74 93 (.inr (.inr 2)) := zr_2 d74_93 rfl
theorem vt74 (L : Nat) (xs : Nat → Int32) : zAll (fun x => zVal L xs 74 x.1 x.2) (tb74) := ⟨v74_0 L xs, v74_1 L xs, v74_4 L xs, v74_6 L xs, v74_9 L xs, v74_10 L xs, v74_13 L xs, v74_16 L xs, v74_17 L xs, v74_18 L xs, v74_21 L xs, v74_24 L xs, v74_25 L xs, v74_28 L xs, v74_29 L xs, v74_30 L xs, v74_31 L xs, v74_34 L xs, v74_35 L xs, v74_38 L xs, v74_39 L xs, v74_40 L xs, v74_41 L xs, v74_44 L xs, v74_45 L xs, v74_48 L xs, v74_49 L xs, v74_52 L xs, v74_53 L xs, v74_54 L xs, v74_56 L xs, v74_59 L xs, v74_62 L xs, v74_63 L xs, v74_64 L xs, v74_65 L xs, v74_68 L xs, v74_69 L xs, v74_72 L xs, v74_73 L xs, v74_76 L xs, v74_77 L xs, v74_78 L xs, v74_79 L xs, v74_82 L xs, v74_83 L xs, v74_84 L xs, v74_87 L xs, v74_88 L xs, v74_90 L xs, v74_93 L xs, trivial⟩
theorem d75_0 : decode (mB 75) 0 = .ok (.aload_n 0, 1) := by decide +kernel
theorem d75_1 : decode (mB 75) 1 = .ok (.dup, 1) := by decide +kernel
theorem d75_2 : decode (mB 75) 2 = .ok (.getfield 43, 3) := by decide +kernel
theorem d75_5 : decode (mB 75) 5 = .ok (.iconst 1, 1) := by decide +kernel
theorem d75_6 : decode (mB 75) 6 = .ok (.iadd, 1) := by decide +kernel
theorem d75_7 : decode (mB 75) 7 = .ok (.putfield 43, 3) := by decide +kernel
theorem d75_10 : decode (mB 75) 10 = .ok (.aload_n 0, 1) := by decide +kernel
theorem d75_11 : decode (mB 75) 11 = .ok (.invokevirtual 60, 3) := by decide +kernel
theorem d75_14 : decode (mB 75) 14 = .ok (.iconst 1, 1) := by decide +kernel
theorem d75_15 : decode (mB 75) 15 = .ok (.invokestatic 64, 3) := by decide +kernel
theorem d75_18 : decode (mB 75) 18 = .ok (.ifCond .ne 5, 3) := by decide +kernel
theorem d75_21 : decode (mB 75) 21 = .ok (.iconst 0, 1) := by decide +kernel
theorem d75_22 : decode (mB 75) 22 = .ok (.ireturn, 1) := by decide +kernel
theorem d75_23 : decode (mB 75) 23 = .ok (.aload_n 1, 1) := by decide +kernel
theorem d75_24 : decode (mB 75) 24 = .ok (.aload_n 0, 1) := by decide +kernel
theorem d75_25 : decode (mB 75) 25 = .ok (.invokevirtual 60, 3) := by decide +kernel
theorem d75_28 : decode (mB 75) 28 = .ok (.bipush 48, 2) := by decide +kernel
theorem d75_30 : decode (mB 75) 30 = .ok (.isub, 1) := by decide +kernel
theorem d75_31 : decode (mB 75) 31 = .ok (.putfield 83, 3) := by decide +kernel
theorem d75_34 : decode (mB 75) 34 = .ok (.aload_n 0, 1) := by decide +kernel
theorem d75_35 : decode (mB 75) 35 = .ok (.dup, 1) := by decide +kernel
theorem d75_36 : decode (mB 75) 36 = .ok (.getfield 43, 3) := by decide +kernel
theorem d75_39 : decode (mB 75) 39 = .ok (.iconst 1, 1) := by decide +kernel
theorem d75_40 : decode (mB 75) 40 = .ok (.iadd, 1) := by decide +kernel
theorem d75_41 : decode (mB 75) 41 = .ok (.putfield 43, 3) := by decide +kernel
theorem d75_44 : decode (mB 75) 44 = .ok (.aload_n 0, 1) := by decide +kernel
theorem d75_45 : decode (mB 75) 45 = .ok (.invokevirtual 60, 3) := by decide +kernel
theorem d75_48 : decode (mB 75) 48 = .ok (.iconst 1, 1) := by decide +kernel
theorem d75_49 : decode (mB 75) 49 = .ok (.invokestatic 64, 3) := by decide +kernel
theorem d75_52 : decode (mB 75) 52 = .ok (.ifCond .ne 5, 3) := by decide +kernel
theorem d75_55 : decode (mB 75) 55 = .ok (.iconst 0, 1) := by decide +kernel
theorem d75_56 : decode (mB 75) 56 = .ok (.ireturn, 1) := by decide +kernel
theorem d75_57 : decode (mB 75) 57 = .ok (.aload_n 1, 1) := by decide +kernel
theorem d75_58 : decode (mB 75) 58 = .ok (.aload_n 0, 1) := by decide +kernel
theorem d75_59 : decode (mB 75) 59 = .ok (.invokevirtual 60, 3) := by decide +kernel
theorem d75_62 : decode (mB 75) 62 = .ok (.bipush 48, 2) := by decide +kernel
theorem d75_64 : decode (mB 75) 64 = .ok (.isub, 1) := by decide +kernel
theorem d75_65 : decode (mB 75) 65 = .ok (.putfield 99, 3) := by decide +kernel
theorem d75_68 : decode (mB 75) 68 = .ok (.aload_n 0, 1) := by decide +kernel
theorem d75_69 : decode (mB 75) 69 = .ok (.dup, 1) := by decide +kernel
theorem d75_70 : decode (mB 75) 70 = .ok (.getfield 43, 3) := by decide +kernel
theorem d75_73 : decode (mB 75) 73 = .ok (.iconst 1, 1) := by decide +kernel
theorem d75_74 : decode (mB 75) 74 = .ok (.iadd, 1) := by decide +kernel
theorem d75_75 : decode (mB 75) 75 = .ok (.putfield 43, 3) := by decide +kernel
theorem d75_78 : decode (mB 75) 78 = .ok (.aload_n 0, 1) := by decide +kernel
theorem d75_79 : decode (mB 75) 79 = .ok (.bipush 10, 2) := by decide +kernel
theorem d75_81 : decode (mB 75) 81 = .ok (.invokevirtual 56, 3) := by decide +kernel
theorem d75_84 : decode (mB 75) 84 = .ok (.ireturn, 1) := by decide +kernel
theorem v75_0 (L : Nat) (xs : Nat → Int32) : zVal L xs 75 0 (.inl (i_al 0 1)) := zS_aload_n d75_0 rfl
theorem v75_1 (L : Nat) (xs : Nat → Int32) : zVal L xs 75 1 (.inl (i_dup 2)) := zS_dup d75_1
theorem v75_2 (L : Nat) (xs : Nat → Int32) : zVal L xs 75 2 (.inl (i_gf 7 3 5)) := zS_getf d75_2 (zcl7) (by decide) zi7 w245
theorem v75_5 (L : Nat) (xs : Nat → Int32) : zVal L xs 75 5 (.inl (i_c (.int 1) 6)) := zS_iconst d75_5 (by decide)
theorem v75_6 (L : Nat) (xs : Nat → Int32) : zVal L xs 75 6 (.inl (i_bi (fun x y => x + y) 7)) := zS_iadd d75_6
theorem v75_7 (L : Nat) (xs : Nat → Int32) : zVal L xs 75 7 (.inl (i_pf 7 3 okI 10)) := zS_putf (ty := .int) d75_7 (zcl7) (by decide) zi7 w245 zy7 zn7 (by decide +kernel) (by decide +kernel) okI_ok
theorem v75_10 (L : Nat) (xs : Nat → Int32) : zVal L xs 75 10 (.inl (i_al 0 11)) := zS_aload_n d75_10 rfl
theorem v75_11 (L : Nat) (xs : Nat → Int32) : zVal L xs 75 11 (.inr (.inl (79, 1, 8))) := ⟨by decide +kernel, by decide +kernel, zc_virt d75_11 zcl7 w519 w516 w518 w4 w74 ⟨by decide +kernel, by decide +kernel, by decide +kernel⟩ (by decide) (by decide)⟩
theorem v75_14 (L : Nat) (xs : Nat → Int32) : zVal L xs 75 14 (.inl (i_c (.int 1) 15)) := zS_iconst d75_14 (by decide)
theorem v75_15 (L : Nat) (xs : Nat → Int32) : zVal L xs 75 15 (.inr (.inl (20, 2, 0))) := ⟨by decide +kernel, by decide +kernel, zc_staticN (host := "EditionGrid") d75_15 w522 (by decide +kernel) w521 w73 ⟨by decide +kernel, by decide +kernel, by decide +kernel⟩ (by decide) (by decide)⟩
theorem v75_18 (L : Nat) (xs : Nat → Int32) : zVal L xs 75 18 (.inl (i_f1 (fun x => decide (¬ x = 0)) 23 21)) := zS_if_ne d75_18 (by decide)
theorem v75_21 (L : Nat) (xs : Nat → Int32) : zVal L xs 75 21 (.inl (i_c (.int 0) 22)) := zS_iconst d75_21 (by decide)
theorem v75_22 (L : Nat) (xs : Nat → Int32) : zVal L xs 75 22 (.inr (.inr 2)) := zr_2 d75_22 rfl
theorem v75_23 (L : Nat) (xs : Nat → Int32) : zVal L xs 75 23 (.inl (i_al 1 24)) := zS_aload_n d75_23 rfl
theorem v75_24 (L : Nat) (xs : Nat → Int32) : zVal L xs 75 24 (.inl (i_al 0 25)) := zS_aload_n d75_24 rfl
theorem v75_25 (L : Nat) (xs : Nat → Int32) : zVal L xs 75 25 (.inr (.inl (79, 1, 8))) := ⟨by decide +kernel, by decide +kernel, zc_virt d75_25 zcl7 w519 w516 w518 w4 w74 ⟨by decide +kernel, by decide +kernel, by decide +kernel⟩ (by decide) (by decide)⟩
theorem v75_28 (L : Nat) (xs : Nat → Int32) : zVal L xs 75 28 (.inl (i_c (.int 48) 30)) := zS_bipush d75_28 (by decide)
theorem v75_30 (L : Nat) (xs : Nat → Int32) : zVal L xs 75 30 (.inl (i_bi (fun x y => x - y) 31)) := zS_isub d75_30
theorem v75_31 (L : Nat) (xs : Nat → Int32) : zVal L xs 75 31 (.inl (i_pf 9 12 okI 34)) := zS_putfN (host := "EditionGrid") (ty := .int) d75_31 (zcl9) (by decide) zi9 (by decide +kernel) zy9 zn9 (by decide +kernel) (by decide +kernel) okI_ok
theorem v75_34 (L : Nat) (xs : Nat → Int32) : zVal L xs 75 34 (.inl (i_al 0 35)) := zS_aload_n d75_34 rfl
theorem v75_35 (L : Nat) (xs : Nat → Int32) : zVal L xs 75 35 (.inl (i_dup 36)) := zS_dup d75_35
theorem v75_36 (L : Nat) (xs : Nat → Int32) : zVal L xs 75 36 (.inl (i_gf 7 3 39)) := zS_getf d75_36 (zcl7) (by decide) zi7 w245
theorem v75_39 (L : Nat) (xs : Nat → Int32) : zVal L xs 75 39 (.inl (i_c (.int 1) 40)) := zS_iconst d75_39 (by decide)
theorem v75_40 (L : Nat) (xs : Nat → Int32) : zVal L xs 75 40 (.inl (i_bi (fun x y => x + y) 41)) := zS_iadd d75_40
theorem v75_41 (L : Nat) (xs : Nat → Int32) : zVal L xs 75 41 (.inl (i_pf 7 3 okI 44)) := zS_putf (ty := .int) d75_41 (zcl7) (by decide) zi7 w245 zy7 zn7 (by decide +kernel) (by decide +kernel) okI_ok
theorem v75_44 (L : Nat) (xs : Nat → Int32) : zVal L xs 75 44 (.inl (i_al 0 45)) := zS_aload_n d75_44 rfl
theorem v75_45 (L : Nat) (xs : Nat → Int32) : zVal L xs 75 45 (.inr (.inl (79, 1, 8))) := ⟨by decide +kernel, by decide +kernel, zc_virt d75_45 zcl7 w519 w516 w518 w4 w74 ⟨by decide +kernel, by decide +kernel, by decide +kernel⟩ (by decide) (by decide)⟩
theorem v75_48 (L : Nat) (xs : Nat → Int32) : zVal L xs 75 48 (.inl (i_c (.int 1) 49)) := zS_iconst d75_48 (by decide)
theorem v75_49 (L : Nat) (xs : Nat → Int32) : zVal L xs 75 49 (.inr (.inl (20, 2, 0))) := ⟨by decide +kernel, by decide +kernel, zc_staticN (host := "EditionGrid") d75_49 w522 (by decide +kernel) w521 w73 ⟨by decide +kernel, by decide +kernel, by decide +kernel⟩ (by decide) (by decide)⟩
theorem v75_52 (L : Nat) (xs : Nat → Int32) : zVal L xs 75 52 (.inl (i_f1 (fun x => decide (¬ x = 0)) 57 55)) := zS_if_ne d75_52 (by decide)
theorem v75_55 (L : Nat) (xs : Nat → Int32) : zVal L xs 75 55 (.inl (i_c (.int 0) 56)) := zS_iconst d75_55 (by decide)
theorem v75_56 (L : Nat) (xs : Nat → Int32) : zVal L xs 75 56 (.inr (.inr 2)) := zr_2 d75_56 rfl
theorem v75_57 (L : Nat) (xs : Nat → Int32) : zVal L xs 75 57 (.inl (i_al 1 58)) := zS_aload_n d75_57 rfl
theorem v75_58 (L : Nat) (xs : Nat → Int32) : zVal L xs 75 58 (.inl (i_al 0 59)) := zS_aload_n d75_58 rfl
theorem v75_59 (L : Nat) (xs : Nat → Int32) : zVal L xs 75 59 (.inr (.inl (79, 1, 8))) := ⟨by decide +kernel, by decide +kernel, zc_virt d75_59 zcl7 w519 w516 w518 w4 w74 ⟨by decide +kernel, by decide +kernel, by decide +kernel⟩ (by decide) (by decide)⟩
theorem v75_62 (L : Nat) (xs : Nat → Int32) : zVal L xs 75 62 (.inl (i_c (.int 48) 64)) := zS_bipush d75_62 (by decide)
theorem v75_64 (L : Nat) (xs : Nat → Int32) : zVal L xs 75 64 (.inl (i_bi (fun x y => x - y) 65)) := zS_isub d75_64
theorem v75_65 (L : Nat) (xs : Nat → Int32) : zVal L xs 75 65 (.inl (i_pf 9 13 okI 68)) := zS_putfN (host := "EditionGrid") (ty := .int) d75_65 (zcl9) (by decide) zi9 (by decide +kernel) zy9 zn9 (by decide +kernel) (by decide +kernel) okI_ok
theorem v75_68 (L : Nat) (xs : Nat → Int32) : zVal L xs 75 68 (.inl (i_al 0 69)) := zS_aload_n d75_68 rfl
theorem v75_69 (L : Nat) (xs : Nat → Int32) : zVal L xs 75 69 (.inl (i_dup 70)) := zS_dup d75_69
theorem v75_70 (L : Nat) (xs : Nat → Int32) : zVal L xs 75 70 (.inl (i_gf 7 3 73)) := zS_getf d75_70 (zcl7) (by decide) zi7 w245
theorem v75_73 (L : Nat) (xs : Nat → Int32) : zVal L xs 75 73 (.inl (i_c (.int 1) 74)) := zS_iconst d75_73 (by decide)
theorem v75_74 (L : Nat) (xs : Nat → Int32) : zVal L xs 75 74 (.inl (i_bi (fun x y => x + y) 75)) := zS_iadd d75_74
theorem v75_75 (L : Nat) (xs : Nat → Int32) : zVal L xs 75 75 (.inl (i_pf 7 3 okI 78)) := zS_putf (ty := .int) d75_75 (zcl7) (by decide) zi7 w245 zy7 zn7 (by decide +kernel) (by decide +kernel) okI_ok
theorem v75_78 (L : Nat) (xs : Nat → Int32) : zVal L xs 75 78 (.inl (i_al 0 79)) := zS_aload_n d75_78 rfl
theorem v75_79 (L : Nat) (xs : Nat → Int32) : zVal L xs 75 79 (.inl (i_c (.int 10) 81)) := zS_bipush d75_79 (by decide)
theorem v75_81 (L : Nat) (xs : Nat → Int32) : zVal L xs 75 81 (.inr (.inl (78, 2, 8))) := ⟨by decide +kernel, by decide +kernel, zc_virt d75_81 zcl7 w515 w512 w514 w3 w74 ⟨by decide +kernel, by decide +kernel, by decide +kernel⟩ (by decide) (by decide)⟩
theorem v75_84 (L : Nat) (xs : Nat → Int32) : zVal L xs 75 84 (.inr (.inr 2)) := zr_2 d75_84 rfl
theorem vt75 (L : Nat) (xs : Nat → Int32) : zAll (fun x => zVal L xs 75 x.1 x.2) (tb75) := ⟨v75_0 L xs, v75_1 L xs, v75_2 L xs, v75_5 L xs, v75_6 L xs, v75_7 L xs, v75_10 L xs, v75_11 L xs, v75_14 L xs, v75_15 L xs, v75_18 L xs, v75_21 L xs, v75_22 L xs, v75_23 L xs, v75_24 L xs, v75_25 L xs, v75_28 L xs, v75_30 L xs, v75_31 L xs, v75_34 L xs, v75_35 L xs, v75_36 L xs, v75_39 L xs, v75_40 L xs, v75_41 L xs, v75_44 L xs, v75_45 L xs, v75_48 L xs, v75_49 L xs, v75_52 L xs, v75_55 L xs, v75_56 L xs, v75_57 L xs, v75_58 L xs, v75_59 L xs, v75_62 L xs, v75_64 L xs, v75_65 L xs, v75_68 L xs, v75_69 L xs, v75_70 L xs, v75_73 L xs, v75_74 L xs, v75_75 L xs, v75_78 L xs, v75_79 L xs, v75_81 L xs, v75_84 L xs, trivial⟩
theorem d76_0 : decode (mB 76) 0 = .ok (.iconst 0, 1) := by decide +kernel
theorem d76_1 : decode (mB 76) 1 = .ok (.istore_n 2, 1) := by decide +kernel
theorem d76_2 : decode (mB 76) 2 = .ok (.iload_n 2, 1) := by decide +kernel
theorem d76_3 : decode (mB 76) 3 = .ok (.iload_n 1, 1) := by decide +kernel
theorem d76_4 : decode (mB 76) 4 = .ok (.if_icmp .ge 29, 3) := by decide +kernel
theorem d76_7 : decode (mB 76) 7 = .ok (.aload_n 0, 1) := by decide +kernel
theorem d76_8 : decode (mB 76) 8 = .ok (.invokevirtual 102, 3) := by decide +kernel
theorem d76_11 : decode (mB 76) 11 = .ok (.ifCond .ne 5, 3) := by decide +kernel
theorem d76_14 : decode (mB 76) 14 = .ok (.iconst 0, 1) := by decide +kernel
theorem d76_15 : decode (mB 76) 15 = .ok (.ireturn, 1) := by decide +kernel
theorem d76_16 : decode (mB 76) 16 = .ok (.aload_n 0, 1) := by decide +kernel
theorem d76_17 : decode (mB 76) 17 = .ok (.bipush 32, 2) := by decide +kernel
theorem d76_19 : decode (mB 76) 19 = .ok (.invokevirtual 56, 3) := by decide +kernel
theorem d76_22 : decode (mB 76) 22 = .ok (.ifCond .ne 5, 3) := by decide +kernel
theorem d76_25 : decode (mB 76) 25 = .ok (.iconst 1, 1) := by decide +kernel
theorem d76_26 : decode (mB 76) 26 = .ok (.ireturn, 1) := by decide +kernel
theorem d76_27 : decode (mB 76) 27 = .ok (.iinc 2 1, 3) := by decide +kernel
theorem d76_30 : decode (mB 76) 30 = .ok (.goto (-28), 3) := by decide +kernel
theorem d76_33 : decode (mB 76) 33 = .ok (.iconst 0, 1) := by decide +kernel
theorem d76_34 : decode (mB 76) 34 = .ok (.ireturn, 1) := by decide +kernel
theorem v76_0 (L : Nat) (xs : Nat → Int32) : zVal L xs 76 0 (.inl (i_c (.int 0) 1)) := zS_iconst d76_0 (by decide)
theorem v76_1 (L : Nat) (xs : Nat → Int32) : zVal L xs 76 1 (.inl (i_is 2 2)) := zS_istore_n d76_1 rfl
theorem v76_2 (L : Nat) (xs : Nat → Int32) : zVal L xs 76 2 (.inl (i_k [false, false, false] (i_il 2 3))) := zS_k (zS_iload_n d76_2 rfl)
theorem v76_3 (L : Nat) (xs : Nat → Int32) : zVal L xs 76 3 (.inl (i_il 1 4)) := zS_iload_n d76_3 rfl
theorem v76_4 (L : Nat) (xs : Nat → Int32) : zVal L xs 76 4 (.inl (i_f2 (fun x y => decide (y ≤ x)) 33 7)) := zS_icmp_ge d76_4 (by decide)
theorem v76_7 (L : Nat) (xs : Nat → Int32) : zVal L xs 76 7 (.inl (i_al 0 8)) := zS_aload_n d76_7 rfl
theorem v76_8 (L : Nat) (xs : Nat → Int32) : zVal L xs 76 8 (.inr (.inl (77, 1, 8))) := ⟨by decide +kernel, by decide +kernel, zc_virt d76_8 zcl7 w530 w527 w529 w6 w74 ⟨by decide +kernel, by decide +kernel, by decide +kernel⟩ (by decide) (by decide)⟩
theorem v76_11 (L : Nat) (xs : Nat → Int32) : zVal L xs 76 11 (.inl (i_f1 (fun x => decide (¬ x = 0)) 16 14)) := zS_if_ne d76_11 (by decide)
theorem v76_14 (L : Nat) (xs : Nat → Int32) : zVal L xs 76 14 (.inl (i_c (.int 0) 15)) := zS_iconst d76_14 (by decide)
theorem v76_15 (L : Nat) (xs : Nat → Int32) : zVal L xs 76 15 (.inr (.inr 2)) := zr_2 d76_15 rfl
theorem v76_16 (L : Nat) (xs : Nat → Int32) : zVal L xs 76 16 (.inl (i_al 0 17)) := zS_aload_n d76_16 rfl
theorem v76_17 (L : Nat) (xs : Nat → Int32) : zVal L xs 76 17 (.inl (i_c (.int 32) 19)) := zS_bipush d76_17 (by decide)
theorem v76_19 (L : Nat) (xs : Nat → Int32) : zVal L xs 76 19 (.inr (.inl (78, 2, 8))) := ⟨by decide +kernel, by decide +kernel, zc_virt d76_19 zcl7 w515 w512 w514 w3 w74 ⟨by decide +kernel, by decide +kernel, by decide +kernel⟩ (by decide) (by decide)⟩
theorem v76_22 (L : Nat) (xs : Nat → Int32) : zVal L xs 76 22 (.inl (i_f1 (fun x => decide (¬ x = 0)) 27 25)) := zS_if_ne d76_22 (by decide)
theorem v76_25 (L : Nat) (xs : Nat → Int32) : zVal L xs 76 25 (.inl (i_c (.int 1) 26)) := zS_iconst d76_25 (by decide)
theorem v76_26 (L : Nat) (xs : Nat → Int32) : zVal L xs 76 26 (.inr (.inr 2)) := zr_2 d76_26 rfl
theorem v76_27 (L : Nat) (xs : Nat → Int32) : zVal L xs 76 27 (.inl (i_in 2 1 30)) := zS_iinc d76_27 (by decide)
theorem v76_30 (L : Nat) (xs : Nat → Int32) : zVal L xs 76 30 (.inl (i_go 2)) := zS_goto d76_30 (by decide)
theorem v76_33 (L : Nat) (xs : Nat → Int32) : zVal L xs 76 33 (.inl (i_c (.int 0) 34)) := zS_iconst d76_33 (by decide)
theorem v76_34 (L : Nat) (xs : Nat → Int32) : zVal L xs 76 34 (.inr (.inr 2)) := zr_2 d76_34 rfl
theorem vt76 (L : Nat) (xs : Nat → Int32) : zAll (fun x => zVal L xs 76 x.1 x.2) (tb76) := ⟨v76_0 L xs, v76_1 L xs, v76_2 L xs, v76_3 L xs, v76_4 L xs, v76_7 L xs, v76_8 L xs, v76_11 L xs, v76_14 L xs, v76_15 L xs, v76_16 L xs, v76_17 L xs, v76_19 L xs, v76_22 L xs, v76_25 L xs, v76_26 L xs, v76_27 L xs, v76_30 L xs, v76_33 L xs, v76_34 L xs, trivial⟩
theorem d77_0 : decode (mB 77) 0 = .ok (.iconst 0, 1) := by decide +kernel
theorem d77_1 : decode (mB 77) 1 = .ok (.istore_n 1, 1) := by decide +kernel
theorem d77_2 : decode (mB 77) 2 = .ok (.iload_n 1, 1) := by decide +kernel
theorem d77_3 : decode (mB 77) 3 = .ok (.bipush 12, 2) := by decide +kernel
theorem d77_5 : decode (mB 77) 5 = .ok (.if_icmp .ge 29, 3) := by decide +kernel
theorem d77_8 : decode (mB 77) 8 = .ok (.aload_n 0, 1) := by decide +kernel
theorem d77_9 : decode (mB 77) 9 = .ok (.invokevirtual 60, 3) := by decide +kernel
theorem d77_12 : decode (mB 77) 12 = .ok (.invokestatic 106, 3) := by decide +kernel
theorem d77_15 : decode (mB 77) 15 = .ok (.ifCond .eq 19, 3) := by decide +kernel
theorem d77_18 : decode (mB 77) 18 = .ok (.iinc 1 1, 3) := by decide +kernel
theorem d77_21 : decode (mB 77) 21 = .ok (.aload_n 0, 1) := by decide +kernel
theorem d77_22 : decode (mB 77) 22 = .ok (.dup, 1) := by decide +kernel
theorem d77_23 : decode (mB 77) 23 = .ok (.getfield 43, 3) := by decide +kernel
theorem d77_26 : decode (mB 77) 26 = .ok (.iconst 1, 1) := by decide +kernel
theorem d77_27 : decode (mB 77) 27 = .ok (.iadd, 1) := by decide +kernel
theorem d77_28 : decode (mB 77) 28 = .ok (.putfield 43, 3) := by decide +kernel
theorem d77_31 : decode (mB 77) 31 = .ok (.goto (-29), 3) := by decide +kernel
theorem d77_34 : decode (mB 77) 34 = .ok (.iload_n 1, 1) := by decide +kernel
theorem d77_35 : decode (mB 77) 35 = .ok (.ifCond .le 17, 3) := by decide +kernel
theorem d77_38 : decode (mB 77) 38 = .ok (.aload_n 0, 1) := by decide +kernel
theorem d77_39 : decode (mB 77) 39 = .ok (.invokevirtual 60, 3) := by decide +kernel
theorem d77_42 : decode (mB 77) 42 = .ok (.invokestatic 106, 3) := by decide +kernel
theorem d77_45 : decode (mB 77) 45 = .ok (.ifCond .ne 7, 3) := by decide +kernel
theorem d77_48 : decode (mB 77) 48 = .ok (.iconst 1, 1) := by decide +kernel
theorem d77_49 : decode (mB 77) 49 = .ok (.goto 4, 3) := by decide +kernel
theorem d77_52 : decode (mB 77) 52 = .ok (.iconst 0, 1) := by decide +kernel
theorem d77_53 : decode (mB 77) 53 = .ok (.ireturn, 1) := by decide +kernel
theorem v77_0 (L : Nat) (xs : Nat → Int32) : zVal L xs 77 0 (.inl (i_c (.int 0) 1)) := zS_iconst d77_0 (by decide)
theorem v77_1 (L : Nat) (xs : Nat → Int32) : zVal L xs 77 1 (.inl (i_is 1 2)) := zS_istore_n d77_1 rfl
theorem v77_2 (L : Nat) (xs : Nat → Int32) : zVal L xs 77 2 (.inl (i_k [false, false] (i_il 1 3))) := zS_k (zS_iload_n d77_2 rfl)
theorem v77_3 (L : Nat) (xs : Nat → Int32) : zVal L xs 77 3 (.inl (i_c (.int 12) 5)) := zS_bipush d77_3 (by decide)
theorem v77_5 (L : Nat) (xs : Nat → Int32) : zVal L xs 77 5 (.inl (i_f2 (fun x y => decide (y ≤ x)) 34 8)) := zS_icmp_ge d77_5 (by decide)
theorem v77_8 (L : Nat) (xs : Nat → Int32) : zVal L xs 77 8 (.inl (i_al 0 9)) := zS_aload_n d77_8 rfl
theorem v77_9 (L : Nat) (xs : Nat → Int32) : zVal L xs 77 9 (.inr (.inl (79, 1, 8))) := ⟨by decide +kernel, by decide +kernel, zc_virt d77_9 zcl7 w519 w516 w518 w4 w74 ⟨by decide +kernel, by decide +kernel, by decide +kernel⟩ (by decide) (by decide)⟩
theorem v77_12 (L : Nat) (xs : Nat → Int32) : zVal L xs 77 12 (.inr (.inl (19, 1, 0))) := ⟨by decide +kernel, by decide +kernel, zc_staticN (host := "EditionGrid") d77_12 w437 (by decide +kernel) w436 w73 ⟨by decide +kernel, by decide +kernel, by decide +kernel⟩ (by decide) (by decide)⟩
theorem v77_15 (L : Nat) (xs : Nat → Int32) : zVal L xs 77 15 (.inl (i_f1 (fun x => decide (x = 0)) 34 18)) := zS_if_eq d77_15 (by decide)
theorem v77_18 (L : Nat) (xs : Nat → Int32) : zVal L xs 77 18 (.inl (i_in 1 1 21)) := zS_iinc d77_18 (by decide)
theorem v77_21 (L : Nat) (xs : Nat → Int32) : zVal L xs 77 21 (.inl (i_al 0 22)) := zS_aload_n d77_21 rfl
theorem v77_22 (L : Nat) (xs : Nat → Int32) : zVal L xs 77 22 (.inl (i_dup 23)) := zS_dup d77_22
theorem v77_23 (L : Nat) (xs : Nat → Int32) : zVal L xs 77 23 (.inl (i_gf 7 3 26)) := zS_getf d77_23 (zcl7) (by decide) zi7 w245
theorem v77_26 (L : Nat) (xs : Nat → Int32) : zVal L xs 77 26 (.inl (i_c (.int 1) 27)) := zS_iconst d77_26 (by decide)
theorem v77_27 (L : Nat) (xs : Nat → Int32) : zVal L xs 77 27 (.inl (i_bi (fun x y => x + y) 28)) := zS_iadd d77_27
theorem v77_28 (L : Nat) (xs : Nat → Int32) : zVal L xs 77 28 (.inl (i_pf 7 3 okI 31)) := zS_putf (ty := .int) d77_28 (zcl7) (by decide) zi7 w245 zy7 zn7 (by decide +kernel) (by decide +kernel) okI_ok
theorem v77_31 (L : Nat) (xs : Nat → Int32) : zVal L xs 77 31 (.inl (i_go 2)) := zS_goto d77_31 (by decide)
theorem v77_34 (L : Nat) (xs : Nat → Int32) : zVal L xs 77 34 (.inl (i_k [false, false] (i_il 1 35))) := zS_k (zS_iload_n d77_34 rfl)
theorem v77_35 (L : Nat) (xs : Nat → Int32) : zVal L xs 77 35 (.inl (i_f1 (fun x => decide (x ≤ 0)) 52 38)) := zS_if_le d77_35 (by decide)
theorem v77_38 (L : Nat) (xs : Nat → Int32) : zVal L xs 77 38 (.inl (i_al 0 39)) := zS_aload_n d77_38 rfl
theorem v77_39 (L : Nat) (xs : Nat → Int32) : zVal L xs 77 39 (.inr (.inl (79, 1, 8))) := ⟨by decide +kernel, by decide +kernel, zc_virt d77_39 zcl7 w519 w516 w518 w4 w74 ⟨by decide +kernel, by decide +kernel, by decide +kernel⟩ (by decide) (by decide)⟩
theorem v77_42 (L : Nat) (xs : Nat → Int32) : zVal L xs 77 42 (.inr (.inl (19, 1, 0))) := ⟨by decide +kernel, by decide +kernel, zc_staticN (host := "EditionGrid") d77_42 w437 (by decide +kernel) w436 w73 ⟨by decide +kernel, by decide +kernel, by decide +kernel⟩ (by decide) (by decide)⟩
theorem v77_45 (L : Nat) (xs : Nat → Int32) : zVal L xs 77 45 (.inl (i_f1 (fun x => decide (¬ x = 0)) 52 48)) := zS_if_ne d77_45 (by decide)
theorem v77_48 (L : Nat) (xs : Nat → Int32) : zVal L xs 77 48 (.inl (i_c (.int 1) 49)) := zS_iconst d77_48 (by decide)
theorem v77_49 (L : Nat) (xs : Nat → Int32) : zVal L xs 77 49 (.inl (i_go 53)) := zS_goto d77_49 (by decide)
theorem v77_52 (L : Nat) (xs : Nat → Int32) : zVal L xs 77 52 (.inl (i_k [true, true] (i_c (.int 0) 53))) := zS_k (zS_iconst d77_52 (by decide))
theorem v77_53 (L : Nat) (xs : Nat → Int32) : zVal L xs 77 53 (.inr (.inr 2)) := zr_2 d77_53 rfl
theorem vt77 (L : Nat) (xs : Nat → Int32) : zAll (fun x => zVal L xs 77 x.1 x.2) (tb77) := ⟨v77_0 L xs, v77_1 L xs, v77_2 L xs, v77_3 L xs, v77_5 L xs, v77_8 L xs, v77_9 L xs, v77_12 L xs, v77_15 L xs, v77_18 L xs, v77_21 L xs, v77_22 L xs, v77_23 L xs, v77_26 L xs, v77_27 L xs, v77_28 L xs, v77_31 L xs, v77_34 L xs, v77_35 L xs, v77_38 L xs, v77_39 L xs, v77_42 L xs, v77_45 L xs, v77_48 L xs, v77_49 L xs, v77_52 L xs, v77_53 L xs, trivial⟩
theorem d78_0 : decode (mB 78) 0 = .ok (.aload_n 0, 1) := by decide +kernel
theorem d78_1 : decode (mB 78) 1 = .ok (.invokevirtual 60, 3) := by decide +kernel
theorem d78_4 : decode (mB 78) 4 = .ok (.iload_n 1, 1) := by decide +kernel
theorem d78_5 : decode (mB 78) 5 = .ok (.if_icmp .eq 5, 3) := by decide +kernel
theorem d78_8 : decode (mB 78) 8 = .ok (.iconst 0, 1) := by decide +kernel
theorem d78_9 : decode (mB 78) 9 = .ok (.ireturn, 1) := by decide +kernel
theorem d78_10 : decode (mB 78) 10 = .ok (.aload_n 0, 1) := by decide +kernel
theorem d78_11 : decode (mB 78) 11 = .ok (.dup, 1) := by decide +kernel
theorem d78_12 : decode (mB 78) 12 = .ok (.getfield 43, 3) := by decide +kernel
theorem d78_15 : decode (mB 78) 15 = .ok (.iconst 1, 1) := by decide +kernel
theorem d78_16 : decode (mB 78) 16 = .ok (.iadd, 1) := by decide +kernel
theorem d78_17 : decode (mB 78) 17 = .ok (.putfield 43, 3) := by decide +kernel
theorem d78_20 : decode (mB 78) 20 = .ok (.iconst 1, 1) := by decide +kernel
theorem d78_21 : decode (mB 78) 21 = .ok (.ireturn, 1) := by decide +kernel
theorem v78_0 (L : Nat) (xs : Nat → Int32) : zVal L xs 78 0 (.inl (i_al 0 1)) := zS_aload_n d78_0 rfl
theorem v78_1 (L : Nat) (xs : Nat → Int32) : zVal L xs 78 1 (.inr (.inl (79, 1, 8))) := ⟨by decide +kernel, by decide +kernel, zc_virt d78_1 zcl7 w519 w516 w518 w4 w74 ⟨by decide +kernel, by decide +kernel, by decide +kernel⟩ (by decide) (by decide)⟩
theorem v78_4 (L : Nat) (xs : Nat → Int32) : zVal L xs 78 4 (.inl (i_il 1 5)) := zS_iload_n d78_4 rfl
theorem v78_5 (L : Nat) (xs : Nat → Int32) : zVal L xs 78 5 (.inl (i_f2 (fun x y => decide (x = y)) 10 8)) := zS_icmp_eq d78_5 (by decide)
theorem v78_8 (L : Nat) (xs : Nat → Int32) : zVal L xs 78 8 (.inl (i_c (.int 0) 9)) := zS_iconst d78_8 (by decide)
theorem v78_9 (L : Nat) (xs : Nat → Int32) : zVal L xs 78 9 (.inr (.inr 2)) := zr_2 d78_9 rfl
theorem v78_10 (L : Nat) (xs : Nat → Int32) : zVal L xs 78 10 (.inl (i_al 0 11)) := zS_aload_n d78_10 rfl
theorem v78_11 (L : Nat) (xs : Nat → Int32) : zVal L xs 78 11 (.inl (i_dup 12)) := zS_dup d78_11
theorem v78_12 (L : Nat) (xs : Nat → Int32) : zVal L xs 78 12 (.inl (i_gf 7 3 15)) := zS_getf d78_12 (zcl7) (by decide) zi7 w245
theorem v78_15 (L : Nat) (xs : Nat → Int32) : zVal L xs 78 15 (.inl (i_c (.int 1) 16)) := zS_iconst d78_15 (by decide)
theorem v78_16 (L : Nat) (xs : Nat → Int32) : zVal L xs 78 16 (.inl (i_bi (fun x y => x + y) 17)) := zS_iadd d78_16
theorem v78_17 (L : Nat) (xs : Nat → Int32) : zVal L xs 78 17 (.inl (i_pf 7 3 okI 20)) := zS_putf (ty := .int) d78_17 (zcl7) (by decide) zi7 w245 zy7 zn7 (by decide +kernel) (by decide +kernel) okI_ok
theorem v78_20 (L : Nat) (xs : Nat → Int32) : zVal L xs 78 20 (.inl (i_c (.int 1) 21)) := zS_iconst d78_20 (by decide)
theorem v78_21 (L : Nat) (xs : Nat → Int32) : zVal L xs 78 21 (.inr (.inr 2)) := zr_2 d78_21 rfl
theorem vt78 (L : Nat) (xs : Nat → Int32) : zAll (fun x => zVal L xs 78 x.1 x.2) (tb78) := ⟨v78_0 L xs, v78_1 L xs, v78_4 L xs, v78_5 L xs, v78_8 L xs, v78_9 L xs, v78_10 L xs, v78_11 L xs, v78_12 L xs, v78_15 L xs, v78_16 L xs, v78_17 L xs, v78_20 L xs, v78_21 L xs, trivial⟩
theorem d79_0 : decode (mB 79) 0 = .ok (.aload_n 0, 1) := by decide +kernel
theorem d79_1 : decode (mB 79) 1 = .ok (.getfield 43, 3) := by decide +kernel
theorem d79_4 : decode (mB 79) 4 = .ok (.aload_n 0, 1) := by decide +kernel
theorem d79_5 : decode (mB 79) 5 = .ok (.getfield 34, 3) := by decide +kernel
theorem d79_8 : decode (mB 79) 8 = .ok (.if_icmp .ge 15, 3) := by decide +kernel
theorem d79_11 : decode (mB 79) 11 = .ok (.aload_n 0, 1) := by decide +kernel
theorem d79_12 : decode (mB 79) 12 = .ok (.getfield 9, 3) := by decide +kernel
theorem d79_15 : decode (mB 79) 15 = .ok (.aload_n 0, 1) := by decide +kernel
theorem d79_16 : decode (mB 79) 16 = .ok (.getfield 43, 3) := by decide +kernel
theorem d79_19 : decode (mB 79) 19 = .ok (.caload, 1) := by decide +kernel
theorem d79_20 : decode (mB 79) 20 = .ok (.goto 4, 3) := by decide +kernel
theorem d79_23 : decode (mB 79) 23 = .ok (.iconst (-1), 1) := by decide +kernel
theorem d79_24 : decode (mB 79) 24 = .ok (.ireturn, 1) := by decide +kernel
theorem v79_0 (L : Nat) (xs : Nat → Int32) : zVal L xs 79 0 (.inl (i_al 0 1)) := zS_aload_n d79_0 rfl
theorem v79_1 (L : Nat) (xs : Nat → Int32) : zVal L xs 79 1 (.inl (i_gf 7 3 4)) := zS_getf d79_1 (zcl7) (by decide) zi7 w245
theorem v79_4 (L : Nat) (xs : Nat → Int32) : zVal L xs 79 4 (.inl (i_al 0 5)) := zS_aload_n d79_4 rfl
theorem v79_5 (L : Nat) (xs : Nat → Int32) : zVal L xs 79 5 (.inl (i_gf 7 2 8)) := zS_getf d79_5 (zcl7) (by decide) zi7 w244
theorem v79_8 (L : Nat) (xs : Nat → Int32) : zVal L xs 79 8 (.inl (i_f2 (fun x y => decide (y ≤ x)) 23 11)) := zS_icmp_ge d79_8 (by decide)
theorem v79_11 (L : Nat) (xs : Nat → Int32) : zVal L xs 79 11 (.inl (i_al 0 12)) := zS_aload_n d79_11 rfl
theorem v79_12 (L : Nat) (xs : Nat → Int32) : zVal L xs 79 12 (.inl (i_gf 7 0 15)) := zS_getf d79_12 (zcl7) (by decide) zi7 w240
theorem v79_15 (L : Nat) (xs : Nat → Int32) : zVal L xs 79 15 (.inl (i_al 0 16)) := zS_aload_n d79_15 rfl
theorem v79_16 (L : Nat) (xs : Nat → Int32) : zVal L xs 79 16 (.inl (i_gf 7 3 19)) := zS_getf d79_16 (zcl7) (by decide) zi7 w245
theorem v79_19 (L : Nat) (xs : Nat → Int32) : zVal L xs 79 19 (.inl (i_ga 2 20)) := zS_cald d79_19
theorem v79_20 (L : Nat) (xs : Nat → Int32) : zVal L xs 79 20 (.inl (i_go 24)) := zS_goto d79_20 (by decide)
theorem v79_23 (L : Nat) (xs : Nat → Int32) : zVal L xs 79 23 (.inl (i_c (.int (-1)) 24)) := zS_iconst d79_23 (by decide)
theorem v79_24 (L : Nat) (xs : Nat → Int32) : zVal L xs 79 24 (.inr (.inr 1)) := zr_1 d79_24 rfl
theorem vt79 (L : Nat) (xs : Nat → Int32) : zAll (fun x => zVal L xs 79 x.1 x.2) (tb79) := ⟨v79_0 L xs, v79_1 L xs, v79_4 L xs, v79_5 L xs, v79_8 L xs, v79_11 L xs, v79_12 L xs, v79_15 L xs, v79_16 L xs, v79_19 L xs, v79_20 L xs, v79_23 L xs, v79_24 L xs, trivial⟩
theorem d80_0 : decode (mB 80) 0 = .ok (.aload_n 0, 1) := by decide +kernel
theorem d80_1 : decode (mB 80) 1 = .ok (.invokespecial 3, 3) := by decide +kernel
theorem d80_4 : decode (mB 80) 4 = .ok (.aload_n 0, 1) := by decide +kernel
theorem d80_5 : decode (mB 80) 5 = .ok (.sipush 192, 3) := by decide +kernel
theorem d80_8 : decode (mB 80) 8 = .ok (.newarray .int, 2) := by decide +kernel
theorem d80_10 : decode (mB 80) 10 = .ok (.putfield 9, 3) := by decide +kernel
theorem d80_13 : decode (mB 80) 13 = .ok (.aload_n 0, 1) := by decide +kernel
theorem d80_14 : decode (mB 80) 14 = .ok (.bipush 12, 2) := by decide +kernel
theorem d80_16 : decode (mB 80) 16 = .ok (.newarray .int, 2) := by decide +kernel
theorem d80_18 : decode (mB 80) 18 = .ok (.putfield 15, 3) := by decide +kernel
theorem d80_21 : decode (mB 80) 21 = .ok (.aload_n 0, 1) := by decide +kernel
theorem d80_22 : decode (mB 80) 22 = .ok (.iload_n 1, 1) := by decide +kernel
theorem d80_23 : decode (mB 80) 23 = .ok (.putfield 18, 3) := by decide +kernel
theorem d80_26 : decode (mB 80) 26 = .ok (.aload_n 0, 1) := by decide +kernel
theorem d80_27 : decode (mB 80) 27 = .ok (.iload_n 2, 1) := by decide +kernel
theorem d80_28 : decode (mB 80) 28 = .ok (.putfield 22, 3) := by decide +kernel
theorem d80_31 : decode (mB 80) 31 = .ok (.return_, 1) := by decide +kernel
theorem v80_0 (L : Nat) (xs : Nat → Int32) : zVal L xs 80 0 (.inl (i_al 0 1)) := zS_aload_n d80_0 rfl
theorem v80_1 (L : Nat) (xs : Nat → Int32) : zVal L xs 80 1 (.inl (i_oi 4)) := zS_oinit d80_1 w351 w93 w94 (by decide)
theorem v80_4 (L : Nat) (xs : Nat → Int32) : zVal L xs 80 4 (.inl (i_al 0 5)) := zS_aload_n d80_4 rfl
theorem v80_5 (L : Nat) (xs : Nat → Int32) : zVal L xs 80 5 (.inl (i_c (.int 192) 8)) := zS_sipush d80_5 (by decide)
theorem v80_8 (L : Nat) (xs : Nat → Int32) : zVal L xs 80 8 (.inl (i_na (2, 204) 0 (.inl (fun _ => 0)) 10)) := zS_newa (ty := .int) d80_8 w150 rfl (by decide) (fun _ => rfl) (fun _ => rfl) (fun _ _ => rfl) (fun _ _ h => h)
theorem v80_10 (L : Nat) (xs : Nat → Int32) : zVal L xs 80 10 (.inl (i_pf 8 2 okR 13)) := zS_putfF (ty := .array .int) d80_10 (zcl8) (by decide) zi8 w356 zy8 zn8 (by decide +kernel) (by decide +kernel) (by decide +kernel) (by decide +kernel) (okA_ok (.int))
theorem v80_13 (L : Nat) (xs : Nat → Int32) : zVal L xs 80 13 (.inl (i_al 0 14)) := zS_aload_n d80_13 rfl
theorem v80_14 (L : Nat) (xs : Nat → Int32) : zVal L xs 80 14 (.inl (i_c (.int 12) 16)) := zS_bipush d80_14 (by decide)
theorem v80_16 (L : Nat) (xs : Nat → Int32) : zVal L xs 80 16 (.inl (i_na (2, 204) 0 (.inl (fun _ => 0)) 18)) := zS_newa (ty := .int) d80_16 w150 rfl (by decide) (fun _ => rfl) (fun _ => rfl) (fun _ _ => rfl) (fun _ _ h => h)
theorem v80_18 (L : Nat) (xs : Nat → Int32) : zVal L xs 80 18 (.inl (i_pf 8 3 okR 21)) := zS_putfF (ty := .array .int) d80_18 (zcl8) (by decide) zi8 w357 zy8 zn8 (by decide +kernel) (by decide +kernel) (by decide +kernel) (by decide +kernel) (okA_ok (.int))
theorem v80_21 (L : Nat) (xs : Nat → Int32) : zVal L xs 80 21 (.inl (i_al 0 22)) := zS_aload_n d80_21 rfl
theorem v80_22 (L : Nat) (xs : Nat → Int32) : zVal L xs 80 22 (.inl (i_il 1 23)) := zS_iload_n d80_22 rfl
theorem v80_23 (L : Nat) (xs : Nat → Int32) : zVal L xs 80 23 (.inl (i_pf 8 0 okI 26)) := zS_putfF (ty := .int) d80_23 (zcl8) (by decide) zi8 w352 zy8 zn8 (by decide +kernel) (by decide +kernel) (by decide +kernel) (by decide +kernel) okI_ok
theorem v80_26 (L : Nat) (xs : Nat → Int32) : zVal L xs 80 26 (.inl (i_al 0 27)) := zS_aload_n d80_26 rfl
theorem v80_27 (L : Nat) (xs : Nat → Int32) : zVal L xs 80 27 (.inl (i_il 2 28)) := zS_iload_n d80_27 rfl
theorem v80_28 (L : Nat) (xs : Nat → Int32) : zVal L xs 80 28 (.inl (i_pf 8 1 okI 31)) := zS_putfF (ty := .int) d80_28 (zcl8) (by decide) zi8 w354 zy8 zn8 (by decide +kernel) (by decide +kernel) (by decide +kernel) (by decide +kernel) okI_ok
theorem v80_31 (L : Nat) (xs : Nat → Int32) : zVal L xs 80 31 (.inr (.inr 0)) := zr_0 d80_31 rfl
theorem vt80 (L : Nat) (xs : Nat → Int32) : zAll (fun x => zVal L xs 80 x.1 x.2) (tb80) := ⟨v80_0 L xs, v80_1 L xs, v80_4 L xs, v80_5 L xs, v80_8 L xs, v80_10 L xs, v80_13 L xs, v80_14 L xs, v80_16 L xs, v80_18 L xs, v80_21 L xs, v80_22 L xs, v80_23 L xs, v80_26 L xs, v80_27 L xs, v80_28 L xs, v80_31 L xs, trivial⟩
theorem d81_0 : decode (mB 81) 0 = .ok (.aload_n 0, 1) := by decide +kernel
theorem d81_1 : decode (mB 81) 1 = .ok (.getfield 9, 3) := by decide +kernel
theorem d81_4 : decode (mB 81) 4 = .ok (.iconst 0, 1) := by decide +kernel
theorem d81_5 : decode (mB 81) 5 = .ok (.invokestatic 25, 3) := by decide +kernel
theorem d81_8 : decode (mB 81) 8 = .ok (.aload_n 0, 1) := by decide +kernel
theorem d81_9 : decode (mB 81) 9 = .ok (.getfield 15, 3) := by decide +kernel
theorem d81_12 : decode (mB 81) 12 = .ok (.iconst 0, 1) := by decide +kernel
theorem d81_13 : decode (mB 81) 13 = .ok (.invokestatic 25, 3) := by decide +kernel
theorem d81_16 : decode (mB 81) 16 = .ok (.return_, 1) := by decide +kernel
theorem v81_0 (L : Nat) (xs : Nat → Int32) : zVal L xs 81 0 (.inl (i_al 0 1)) := zS_aload_n d81_0 rfl
theorem v81_1 (L : Nat) (xs : Nat → Int32) : zVal L xs 81 1 (.inl (i_gf 8 2 4)) := zS_getf d81_1 (zcl8) (by decide) zi8 w356
theorem v81_4 (L : Nat) (xs : Nat → Int32) : zVal L xs 81 4 (.inl (i_c (.int 0) 5)) := zS_iconst d81_4 (by decide)
theorem v81_5 (L : Nat) (xs : Nat → Int32) : zVal L xs 81 5 (.inr (.inl (149, 2, 0))) := ⟨by decide +kernel, by decide +kernel, zc_static d81_5 w399 w495 w398 w84 ⟨by decide +kernel, by decide +kernel, by decide +kernel⟩ (by decide) (by decide)⟩
theorem v81_8 (L : Nat) (xs : Nat → Int32) : zVal L xs 81 8 (.inl (i_al 0 9)) := zS_aload_n d81_8 rfl
theorem v81_9 (L : Nat) (xs : Nat → Int32) : zVal L xs 81 9 (.inl (i_gf 8 3 12)) := zS_getf d81_9 (zcl8) (by decide) zi8 w357
theorem v81_12 (L : Nat) (xs : Nat → Int32) : zVal L xs 81 12 (.inl (i_c (.int 0) 13)) := zS_iconst d81_12 (by decide)
theorem v81_13 (L : Nat) (xs : Nat → Int32) : zVal L xs 81 13 (.inr (.inl (149, 2, 0))) := ⟨by decide +kernel, by decide +kernel, zc_static d81_13 w399 w495 w398 w84 ⟨by decide +kernel, by decide +kernel, by decide +kernel⟩ (by decide) (by decide)⟩
theorem v81_16 (L : Nat) (xs : Nat → Int32) : zVal L xs 81 16 (.inr (.inr 0)) := zr_0 d81_16 rfl
theorem vt81 (L : Nat) (xs : Nat → Int32) : zAll (fun x => zVal L xs 81 x.1 x.2) (tb81) := ⟨v81_0 L xs, v81_1 L xs, v81_4 L xs, v81_5 L xs, v81_8 L xs, v81_9 L xs, v81_12 L xs, v81_13 L xs, v81_16 L xs, trivial⟩
theorem d82_0 : decode (mB 82) 0 = .ok (.iload_n 1, 1) := by decide +kernel
theorem d82_1 : decode (mB 82) 1 = .ok (.ifCond .lt 36, 3) := by decide +kernel
theorem d82_4 : decode (mB 82) 4 = .ok (.iload_n 1, 1) := by decide +kernel
theorem d82_5 : decode (mB 82) 5 = .ok (.iconst 3, 1) := by decide +kernel
theorem d82_6 : decode (mB 82) 6 = .ok (.if_icmp .ge 31, 3) := by decide +kernel
theorem d82_9 : decode (mB 82) 9 = .ok (.iload_n 2, 1) := by decide +kernel
theorem d82_10 : decode (mB 82) 10 = .ok (.ifCond .lt 27, 3) := by decide +kernel
theorem d82_13 : decode (mB 82) 13 = .ok (.iload_n 2, 1) := by decide +kernel
theorem d82_14 : decode (mB 82) 14 = .ok (.aload_n 0, 1) := by decide +kernel
theorem d82_15 : decode (mB 82) 15 = .ok (.getfield 18, 3) := by decide +kernel
theorem d82_18 : decode (mB 82) 18 = .ok (.if_icmp .ge 19, 3) := by decide +kernel
theorem d82_21 : decode (mB 82) 21 = .ok (.iload_n 3, 1) := by decide +kernel
theorem d82_22 : decode (mB 82) 22 = .ok (.ifCond .lt 15, 3) := by decide +kernel
theorem d82_25 : decode (mB 82) 25 = .ok (.iload_n 3, 1) := by decide +kernel
theorem d82_26 : decode (mB 82) 26 = .ok (.aload_n 0, 1) := by decide +kernel
theorem d82_27 : decode (mB 82) 27 = .ok (.getfield 22, 3) := by decide +kernel
theorem d82_30 : decode (mB 82) 30 = .ok (.if_icmp .ge 7, 3) := by decide +kernel
theorem d82_33 : decode (mB 82) 33 = .ok (.iconst 1, 1) := by decide +kernel
theorem d82_34 : decode (mB 82) 34 = .ok (.goto 4, 3) := by decide +kernel
theorem d82_37 : decode (mB 82) 37 = .ok (.iconst 0, 1) := by decide +kernel
theorem d82_38 : decode (mB 82) 38 = .ok (.ireturn, 1) := by decide +kernel
theorem v82_0 (L : Nat) (xs : Nat → Int32) : zVal L xs 82 0 (.inl (i_il 1 1)) := zS_iload_n d82_0 rfl
theorem v82_1 (L : Nat) (xs : Nat → Int32) : zVal L xs 82 1 (.inl (i_f1 (fun x => decide (x < 0)) 37 4)) := zS_if_lt d82_1 (by decide)
theorem v82_4 (L : Nat) (xs : Nat → Int32) : zVal L xs 82 4 (.inl (i_il 1 5)) := zS_iload_n d82_4 rfl
theorem v82_5 (L : Nat) (xs : Nat → Int32) : zVal L xs 82 5 (.inl (i_c (.int 3) 6)) := zS_iconst d82_5 (by decide)
theorem v82_6 (L : Nat) (xs : Nat → Int32) : zVal L xs 82 6 (.inl (i_f2 (fun x y => decide (y ≤ x)) 37 9)) := zS_icmp_ge d82_6 (by decide)
theorem v82_9 (L : Nat) (xs : Nat → Int32) : zVal L xs 82 9 (.inl (i_il 2 10)) := zS_iload_n d82_9 rfl
theorem v82_10 (L : Nat) (xs : Nat → Int32) : zVal L xs 82 10 (.inl (i_f1 (fun x => decide (x < 0)) 37 13)) := zS_if_lt d82_10 (by decide)
theorem v82_13 (L : Nat) (xs : Nat → Int32) : zVal L xs 82 13 (.inl (i_il 2 14)) := zS_iload_n d82_13 rfl
theorem v82_14 (L : Nat) (xs : Nat → Int32) : zVal L xs 82 14 (.inl (i_al 0 15)) := zS_aload_n d82_14 rfl
theorem v82_15 (L : Nat) (xs : Nat → Int32) : zVal L xs 82 15 (.inl (i_gf 8 0 18)) := zS_getf d82_15 (zcl8) (by decide) zi8 w352
theorem v82_18 (L : Nat) (xs : Nat → Int32) : zVal L xs 82 18 (.inl (i_f2 (fun x y => decide (y ≤ x)) 37 21)) := zS_icmp_ge d82_18 (by decide)
theorem v82_21 (L : Nat) (xs : Nat → Int32) : zVal L xs 82 21 (.inl (i_il 3 22)) := zS_iload_n d82_21 rfl
theorem v82_22 (L : Nat) (xs : Nat → Int32) : zVal L xs 82 22 (.inl (i_f1 (fun x => decide (x < 0)) 37 25)) := zS_if_lt d82_22 (by decide)
theorem v82_25 (L : Nat) (xs : Nat → Int32) : zVal L xs 82 25 (.inl (i_il 3 26)) := zS_iload_n d82_25 rfl
theorem v82_26 (L : Nat) (xs : Nat → Int32) : zVal L xs 82 26 (.inl (i_al 0 27)) := zS_aload_n d82_26 rfl
theorem v82_27 (L : Nat) (xs : Nat → Int32) : zVal L xs 82 27 (.inl (i_gf 8 1 30)) := zS_getf d82_27 (zcl8) (by decide) zi8 w354
theorem v82_30 (L : Nat) (xs : Nat → Int32) : zVal L xs 82 30 (.inl (i_f2 (fun x y => decide (y ≤ x)) 37 33)) := zS_icmp_ge d82_30 (by decide)
theorem v82_33 (L : Nat) (xs : Nat → Int32) : zVal L xs 82 33 (.inl (i_c (.int 1) 34)) := zS_iconst d82_33 (by decide)
theorem v82_34 (L : Nat) (xs : Nat → Int32) : zVal L xs 82 34 (.inl (i_go 38)) := zS_goto d82_34 (by decide)
theorem v82_37 (L : Nat) (xs : Nat → Int32) : zVal L xs 82 37 (.inl (i_k [true, true, true, true] (i_c (.int 0) 38))) := zS_k (zS_iconst d82_37 (by decide))
theorem v82_38 (L : Nat) (xs : Nat → Int32) : zVal L xs 82 38 (.inr (.inr 2)) := zr_2 d82_38 rfl
theorem vt82 (L : Nat) (xs : Nat → Int32) : zAll (fun x => zVal L xs 82 x.1 x.2) (tb82) := ⟨v82_0 L xs, v82_1 L xs, v82_4 L xs, v82_5 L xs, v82_6 L xs, v82_9 L xs, v82_10 L xs, v82_13 L xs, v82_14 L xs, v82_15 L xs, v82_18 L xs, v82_21 L xs, v82_22 L xs, v82_25 L xs, v82_26 L xs, v82_27 L xs, v82_30 L xs, v82_33 L xs, v82_34 L xs, v82_37 L xs, v82_38 L xs, trivial⟩
theorem d83_0 : decode (mB 83) 0 = .ok (.aload_n 0, 1) := by decide +kernel
theorem d83_1 : decode (mB 83) 1 = .ok (.getfield 9, 3) := by decide +kernel
theorem d83_4 : decode (mB 83) 4 = .ok (.iload_n 1, 1) := by decide +kernel
theorem d83_5 : decode (mB 83) 5 = .ok (.iconst 4, 1) := by decide +kernel
theorem d83_6 : decode (mB 83) 6 = .ok (.imul, 1) := by decide +kernel
theorem d83_7 : decode (mB 83) 7 = .ok (.iload_n 2, 1) := by decide +kernel
theorem d83_8 : decode (mB 83) 8 = .ok (.iadd, 1) := by decide +kernel
theorem d83_9 : decode (mB 83) 9 = .ok (.bipush 16, 2) := by decide +kernel
theorem d83_11 : decode (mB 83) 11 = .ok (.imul, 1) := by decide +kernel
theorem d83_12 : decode (mB 83) 12 = .ok (.iload_n 3, 1) := by decide +kernel
theorem d83_13 : decode (mB 83) 13 = .ok (.iadd, 1) := by decide +kernel
theorem d83_14 : decode (mB 83) 14 = .ok (.iaload, 1) := by decide +kernel
theorem d83_15 : decode (mB 83) 15 = .ok (.ireturn, 1) := by decide +kernel
theorem v83_0 (L : Nat) (xs : Nat → Int32) : zVal L xs 83 0 (.inl (i_al 0 1)) := zS_aload_n d83_0 rfl
theorem v83_1 (L : Nat) (xs : Nat → Int32) : zVal L xs 83 1 (.inl (i_gf 8 2 4)) := zS_getf d83_1 (zcl8) (by decide) zi8 w356
theorem v83_4 (L : Nat) (xs : Nat → Int32) : zVal L xs 83 4 (.inl (i_il 1 5)) := zS_iload_n d83_4 rfl
theorem v83_5 (L : Nat) (xs : Nat → Int32) : zVal L xs 83 5 (.inl (i_c (.int 4) 6)) := zS_iconst d83_5 (by decide)
theorem v83_6 (L : Nat) (xs : Nat → Int32) : zVal L xs 83 6 (.inl (i_bi (fun x y => x * y) 7)) := zS_imul d83_6
theorem v83_7 (L : Nat) (xs : Nat → Int32) : zVal L xs 83 7 (.inl (i_il 2 8)) := zS_iload_n d83_7 rfl
theorem v83_8 (L : Nat) (xs : Nat → Int32) : zVal L xs 83 8 (.inl (i_bi (fun x y => x + y) 9)) := zS_iadd d83_8
theorem v83_9 (L : Nat) (xs : Nat → Int32) : zVal L xs 83 9 (.inl (i_c (.int 16) 11)) := zS_bipush d83_9 (by decide)
theorem v83_11 (L : Nat) (xs : Nat → Int32) : zVal L xs 83 11 (.inl (i_bi (fun x y => x * y) 12)) := zS_imul d83_11
theorem v83_12 (L : Nat) (xs : Nat → Int32) : zVal L xs 83 12 (.inl (i_il 3 13)) := zS_iload_n d83_12 rfl
theorem v83_13 (L : Nat) (xs : Nat → Int32) : zVal L xs 83 13 (.inl (i_bi (fun x y => x + y) 14)) := zS_iadd d83_13
theorem v83_14 (L : Nat) (xs : Nat → Int32) : zVal L xs 83 14 (.inl (i_ga 0 15)) := zS_iald d83_14
theorem v83_15 (L : Nat) (xs : Nat → Int32) : zVal L xs 83 15 (.inr (.inr 1)) := zr_1 d83_15 rfl
theorem vt83 (L : Nat) (xs : Nat → Int32) : zAll (fun x => zVal L xs 83 x.1 x.2) (tb83) := ⟨v83_0 L xs, v83_1 L xs, v83_4 L xs, v83_5 L xs, v83_6 L xs, v83_7 L xs, v83_8 L xs, v83_9 L xs, v83_11 L xs, v83_12 L xs, v83_13 L xs, v83_14 L xs, v83_15 L xs, trivial⟩
theorem d84_0 : decode (mB 84) 0 = .ok (.aload_n 0, 1) := by decide +kernel
theorem d84_1 : decode (mB 84) 1 = .ok (.getfield 9, 3) := by decide +kernel
theorem d84_4 : decode (mB 84) 4 = .ok (.iload_n 1, 1) := by decide +kernel
theorem d84_5 : decode (mB 84) 5 = .ok (.iconst 4, 1) := by decide +kernel
theorem d84_6 : decode (mB 84) 6 = .ok (.imul, 1) := by decide +kernel
theorem d84_7 : decode (mB 84) 7 = .ok (.iload_n 2, 1) := by decide +kernel
theorem d84_8 : decode (mB 84) 8 = .ok (.iadd, 1) := by decide +kernel
theorem d84_9 : decode (mB 84) 9 = .ok (.bipush 16, 2) := by decide +kernel
theorem d84_11 : decode (mB 84) 11 = .ok (.imul, 1) := by decide +kernel
theorem d84_12 : decode (mB 84) 12 = .ok (.iload_n 3, 1) := by decide +kernel
theorem d84_13 : decode (mB 84) 13 = .ok (.iadd, 1) := by decide +kernel
theorem d84_14 : decode (mB 84) 14 = .ok (.iload 4, 2) := by decide +kernel
theorem d84_16 : decode (mB 84) 16 = .ok (.iastore, 1) := by decide +kernel
theorem d84_17 : decode (mB 84) 17 = .ok (.aload_n 0, 1) := by decide +kernel
theorem d84_18 : decode (mB 84) 18 = .ok (.getfield 15, 3) := by decide +kernel
theorem d84_21 : decode (mB 84) 21 = .ok (.iload_n 1, 1) := by decide +kernel
theorem d84_22 : decode (mB 84) 22 = .ok (.iconst 4, 1) := by decide +kernel
theorem d84_23 : decode (mB 84) 23 = .ok (.imul, 1) := by decide +kernel
theorem d84_24 : decode (mB 84) 24 = .ok (.iload_n 2, 1) := by decide +kernel
theorem d84_25 : decode (mB 84) 25 = .ok (.iadd, 1) := by decide +kernel
theorem d84_26 : decode (mB 84) 26 = .ok (.dup2, 1) := by decide +kernel
theorem d84_27 : decode (mB 84) 27 = .ok (.iaload, 1) := by decide +kernel
theorem d84_28 : decode (mB 84) 28 = .ok (.iconst 1, 1) := by decide +kernel
theorem d84_29 : decode (mB 84) 29 = .ok (.iload_n 3, 1) := by decide +kernel
theorem d84_30 : decode (mB 84) 30 = .ok (.ishl, 1) := by decide +kernel
theorem d84_31 : decode (mB 84) 31 = .ok (.ior, 1) := by decide +kernel
theorem d84_32 : decode (mB 84) 32 = .ok (.iastore, 1) := by decide +kernel
theorem d84_33 : decode (mB 84) 33 = .ok (.return_, 1) := by decide +kernel
theorem v84_0 (L : Nat) (xs : Nat → Int32) : zVal L xs 84 0 (.inl (i_al 0 1)) := zS_aload_n d84_0 rfl
theorem v84_1 (L : Nat) (xs : Nat → Int32) : zVal L xs 84 1 (.inl (i_gf 8 2 4)) := zS_getf d84_1 (zcl8) (by decide) zi8 w356
theorem v84_4 (L : Nat) (xs : Nat → Int32) : zVal L xs 84 4 (.inl (i_il 1 5)) := zS_iload_n d84_4 rfl
theorem v84_5 (L : Nat) (xs : Nat → Int32) : zVal L xs 84 5 (.inl (i_c (.int 4) 6)) := zS_iconst d84_5 (by decide)
theorem v84_6 (L : Nat) (xs : Nat → Int32) : zVal L xs 84 6 (.inl (i_bi (fun x y => x * y) 7)) := zS_imul d84_6
theorem v84_7 (L : Nat) (xs : Nat → Int32) : zVal L xs 84 7 (.inl (i_il 2 8)) := zS_iload_n d84_7 rfl
theorem v84_8 (L : Nat) (xs : Nat → Int32) : zVal L xs 84 8 (.inl (i_bi (fun x y => x + y) 9)) := zS_iadd d84_8
theorem v84_9 (L : Nat) (xs : Nat → Int32) : zVal L xs 84 9 (.inl (i_c (.int 16) 11)) := zS_bipush d84_9 (by decide)
theorem v84_11 (L : Nat) (xs : Nat → Int32) : zVal L xs 84 11 (.inl (i_bi (fun x y => x * y) 12)) := zS_imul d84_11
theorem v84_12 (L : Nat) (xs : Nat → Int32) : zVal L xs 84 12 (.inl (i_il 3 13)) := zS_iload_n d84_12 rfl
theorem v84_13 (L : Nat) (xs : Nat → Int32) : zVal L xs 84 13 (.inl (i_bi (fun x y => x + y) 14)) := zS_iadd d84_13
theorem v84_14 (L : Nat) (xs : Nat → Int32) : zVal L xs 84 14 (.inl (i_il 4 16)) := zS_iload d84_14
theorem v84_16 (L : Nat) (xs : Nat → Int32) : zVal L xs 84 16 (.inl (i_pa 0 (fun x => x) 17)) := zS_iast d84_16
theorem v84_17 (L : Nat) (xs : Nat → Int32) : zVal L xs 84 17 (.inl (i_al 0 18)) := zS_aload_n d84_17 rfl
theorem v84_18 (L : Nat) (xs : Nat → Int32) : zVal L xs 84 18 (.inl (i_gf 8 3 21)) := zS_getf d84_18 (zcl8) (by decide) zi8 w357
theorem v84_21 (L : Nat) (xs : Nat → Int32) : zVal L xs 84 21 (.inl (i_il 1 22)) := zS_iload_n d84_21 rfl
theorem v84_22 (L : Nat) (xs : Nat → Int32) : zVal L xs 84 22 (.inl (i_c (.int 4) 23)) := zS_iconst d84_22 (by decide)
theorem v84_23 (L : Nat) (xs : Nat → Int32) : zVal L xs 84 23 (.inl (i_bi (fun x y => x * y) 24)) := zS_imul d84_23
theorem v84_24 (L : Nat) (xs : Nat → Int32) : zVal L xs 84 24 (.inl (i_il 2 25)) := zS_iload_n d84_24 rfl
theorem v84_25 (L : Nat) (xs : Nat → Int32) : zVal L xs 84 25 (.inl (i_bi (fun x y => x + y) 26)) := zS_iadd d84_25
theorem v84_26 (L : Nat) (xs : Nat → Int32) : zVal L xs 84 26 (.inl (i_d2 27)) := zS_dup2 d84_26
theorem v84_27 (L : Nat) (xs : Nat → Int32) : zVal L xs 84 27 (.inl (i_ga 0 28)) := zS_iald d84_27
theorem v84_28 (L : Nat) (xs : Nat → Int32) : zVal L xs 84 28 (.inl (i_c (.int 1) 29)) := zS_iconst d84_28 (by decide)
theorem v84_29 (L : Nat) (xs : Nat → Int32) : zVal L xs 84 29 (.inl (i_il 3 30)) := zS_iload_n d84_29 rfl
theorem v84_30 (L : Nat) (xs : Nat → Int32) : zVal L xs 84 30 (.inl (i_bi (fun x y => x <<< (y &&& 31)) 31)) := zS_ishl d84_30
theorem v84_31 (L : Nat) (xs : Nat → Int32) : zVal L xs 84 31 (.inl (i_bi (fun x y => x ||| y) 32)) := zS_ior d84_31
theorem v84_32 (L : Nat) (xs : Nat → Int32) : zVal L xs 84 32 (.inl (i_pa 0 (fun x => x) 33)) := zS_iast d84_32
theorem v84_33 (L : Nat) (xs : Nat → Int32) : zVal L xs 84 33 (.inr (.inr 0)) := zr_0 d84_33 rfl
theorem vt84 (L : Nat) (xs : Nat → Int32) : zAll (fun x => zVal L xs 84 x.1 x.2) (tb84) := ⟨v84_0 L xs, v84_1 L xs, v84_4 L xs, v84_5 L xs, v84_6 L xs, v84_7 L xs, v84_8 L xs, v84_9 L xs, v84_11 L xs, v84_12 L xs, v84_13 L xs, v84_14 L xs, v84_16 L xs, v84_17 L xs, v84_18 L xs, v84_21 L xs, v84_22 L xs, v84_23 L xs, v84_24 L xs, v84_25 L xs, v84_26 L xs, v84_27 L xs, v84_28 L xs, v84_29 L xs, v84_30 L xs, v84_31 L xs, v84_32 L xs, v84_33 L xs, trivial⟩
theorem d85_0 : decode (mB 85) 0 = .ok (.iconst 1, 1) := by decide +kernel
theorem d85_1 : decode (mB 85) 1 = .ok (.iload 4, 2) := by decide +kernel
theorem d85_3 : decode (mB 85) 3 = .ok (.ishl, 1) := by decide +kernel
theorem d85_4 : decode (mB 85) 4 = .ok (.iconst 1, 1) := by decide +kernel
theorem d85_5 : decode (mB 85) 5 = .ok (.isub, 1) := by decide +kernel
theorem d85_6 : decode (mB 85) 6 = .ok (.istore 5, 2) := by decide +kernel
theorem d85_8 : decode (mB 85) 8 = .ok (.iconst 0, 1) := by decide +kernel
theorem d85_9 : decode (mB 85) 9 = .ok (.istore 6, 2) := by decide +kernel
theorem d85_11 : decode (mB 85) 11 = .ok (.iload 6, 2) := by decide +kernel
theorem d85_13 : decode (mB 85) 13 = .ok (.iload 4, 2) := by decide +kernel
theorem d85_15 : decode (mB 85) 15 = .ok (.iadd, 1) := by decide +kernel
theorem d85_16 : decode (mB 85) 16 = .ok (.aload_n 0, 1) := by decide +kernel
theorem d85_17 : decode (mB 85) 17 = .ok (.getfield 22, 3) := by decide +kernel
theorem d85_20 : decode (mB 85) 20 = .ok (.if_icmp .gt 60, 3) := by decide +kernel
theorem d85_23 : decode (mB 85) 23 = .ok (.iconst 0, 1) := by decide +kernel
theorem d85_24 : decode (mB 85) 24 = .ok (.istore 7, 2) := by decide +kernel
theorem d85_26 : decode (mB 85) 26 = .ok (.iload 7, 2) := by decide +kernel
theorem d85_28 : decode (mB 85) 28 = .ok (.iload_n 3, 1) := by decide +kernel
theorem d85_29 : decode (mB 85) 29 = .ok (.iadd, 1) := by decide +kernel
theorem d85_30 : decode (mB 85) 30 = .ok (.aload_n 0, 1) := by decide +kernel
theorem d85_31 : decode (mB 85) 31 = .ok (.getfield 18, 3) := by decide +kernel
theorem d85_34 : decode (mB 85) 34 = .ok (.if_icmp .gt 40, 3) := by decide +kernel
theorem d85_37 : decode (mB 85) 37 = .ok (.aload_n 0, 1) := by decide +kernel
theorem d85_38 : decode (mB 85) 38 = .ok (.iload_n 2, 1) := by decide +kernel
theorem d85_39 : decode (mB 85) 39 = .ok (.iload 7, 2) := by decide +kernel
theorem d85_41 : decode (mB 85) 41 = .ok (.iload_n 3, 1) := by decide +kernel
theorem d85_42 : decode (mB 85) 42 = .ok (.invokevirtual 31, 3) := by decide +kernel
theorem d85_45 : decode (mB 85) 45 = .ok (.iload 5, 2) := by decide +kernel
theorem d85_47 : decode (mB 85) 47 = .ok (.iload 6, 2) := by decide +kernel
theorem d85_49 : decode (mB 85) 49 = .ok (.ishl, 1) := by decide +kernel
theorem d85_50 : decode (mB 85) 50 = .ok (.iand, 1) := by decide +kernel
theorem d85_51 : decode (mB 85) 51 = .ok (.ifCond .ne 17, 3) := by decide +kernel
theorem d85_54 : decode (mB 85) 54 = .ok (.aload_n 1, 1) := by decide +kernel
theorem d85_55 : decode (mB 85) 55 = .ok (.iload_n 2, 1) := by decide +kernel
theorem d85_56 : decode (mB 85) 56 = .ok (.iload 7, 2) := by decide +kernel
theorem d85_58 : decode (mB 85) 58 = .ok (.iload 6, 2) := by decide +kernel
theorem d85_60 : decode (mB 85) 60 = .ok (.iload_n 3, 1) := by decide +kernel
theorem d85_61 : decode (mB 85) 61 = .ok (.iload 4, 2) := by decide +kernel
theorem d85_63 : decode (mB 85) 63 = .ok (.invokevirtual 35, 3) := by decide +kernel
theorem d85_66 : decode (mB 85) 66 = .ok (.iconst 1, 1) := by decide +kernel
theorem d85_67 : decode (mB 85) 67 = .ok (.ireturn, 1) := by decide +kernel
theorem d85_68 : decode (mB 85) 68 = .ok (.iinc 7 1, 3) := by decide +kernel
theorem d85_71 : decode (mB 85) 71 = .ok (.goto (-45), 3) := by decide +kernel
theorem d85_74 : decode (mB 85) 74 = .ok (.iinc 6 1, 3) := by decide +kernel
theorem d85_77 : decode (mB 85) 77 = .ok (.goto (-66), 3) := by decide +kernel
theorem d85_80 : decode (mB 85) 80 = .ok (.iconst 0, 1) := by decide +kernel
theorem d85_81 : decode (mB 85) 81 = .ok (.ireturn, 1) := by decide +kernel
theorem v85_0 (L : Nat) (xs : Nat → Int32) : zVal L xs 85 0 (.inl (i_c (.int 1) 1)) := zS_iconst d85_0 (by decide)
theorem v85_1 (L : Nat) (xs : Nat → Int32) : zVal L xs 85 1 (.inl (i_il 4 3)) := zS_iload d85_1
theorem v85_3 (L : Nat) (xs : Nat → Int32) : zVal L xs 85 3 (.inl (i_bi (fun x y => x <<< (y &&& 31)) 4)) := zS_ishl d85_3
theorem v85_4 (L : Nat) (xs : Nat → Int32) : zVal L xs 85 4 (.inl (i_c (.int 1) 5)) := zS_iconst d85_4 (by decide)
theorem v85_5 (L : Nat) (xs : Nat → Int32) : zVal L xs 85 5 (.inl (i_bi (fun x y => x - y) 6)) := zS_isub d85_5
theorem v85_6 (L : Nat) (xs : Nat → Int32) : zVal L xs 85 6 (.inl (i_is 5 8)) := zS_istore d85_6
theorem v85_8 (L : Nat) (xs : Nat → Int32) : zVal L xs 85 8 (.inl (i_c (.int 0) 9)) := zS_iconst d85_8 (by decide)
theorem v85_9 (L : Nat) (xs : Nat → Int32) : zVal L xs 85 9 (.inl (i_is 6 11)) := zS_istore d85_9
theorem v85_11 (L : Nat) (xs : Nat → Int32) : zVal L xs 85 11 (.inl (i_k [false, false, false, false, false, false, false, true] (i_il 6 13))) := zS_k (zS_iload d85_11)
theorem v85_13 (L : Nat) (xs : Nat → Int32) : zVal L xs 85 13 (.inl (i_il 4 15)) := zS_iload d85_13
theorem v85_15 (L : Nat) (xs : Nat → Int32) : zVal L xs 85 15 (.inl (i_bi (fun x y => x + y) 16)) := zS_iadd d85_15
theorem v85_16 (L : Nat) (xs : Nat → Int32) : zVal L xs 85 16 (.inl (i_al 0 17)) := zS_aload_n d85_16 rfl
theorem v85_17 (L : Nat) (xs : Nat → Int32) : zVal L xs 85 17 (.inl (i_gf 8 1 20)) := zS_getf d85_17 (zcl8) (by decide) zi8 w354
theorem v85_20 (L : Nat) (xs : Nat → Int32) : zVal L xs 85 20 (.inl (i_f2 (fun x y => decide (y < x)) 80 23)) := zS_icmp_gt d85_20 (by decide)
theorem v85_23 (L : Nat) (xs : Nat → Int32) : zVal L xs 85 23 (.inl (i_c (.int 0) 24)) := zS_iconst d85_23 (by decide)
theorem v85_24 (L : Nat) (xs : Nat → Int32) : zVal L xs 85 24 (.inl (i_is 7 26)) := zS_istore d85_24
theorem v85_26 (L : Nat) (xs : Nat → Int32) : zVal L xs 85 26 (.inl (i_k [false, false, false, false, false, false, false, false] (i_il 7 28))) := zS_k (zS_iload d85_26)
theorem v85_28 (L : Nat) (xs : Nat → Int32) : zVal L xs 85 28 (.inl (i_il 3 29)) := zS_iload_n d85_28 rfl
theorem v85_29 (L : Nat) (xs : Nat → Int32) : zVal L xs 85 29 (.inl (i_bi (fun x y => x + y) 30)) := zS_iadd d85_29
theorem v85_30 (L : Nat) (xs : Nat → Int32) : zVal L xs 85 30 (.inl (i_al 0 31)) := zS_aload_n d85_30 rfl
theorem v85_31 (L : Nat) (xs : Nat → Int32) : zVal L xs 85 31 (.inl (i_gf 8 0 34)) := zS_getf d85_31 (zcl8) (by decide) zi8 w352
theorem v85_34 (L : Nat) (xs : Nat → Int32) : zVal L xs 85 34 (.inl (i_f2 (fun x y => decide (y < x)) 74 37)) := zS_icmp_gt d85_34 (by decide)
theorem v85_37 (L : Nat) (xs : Nat → Int32) : zVal L xs 85 37 (.inl (i_al 0 38)) := zS_aload_n d85_37 rfl
theorem v85_38 (L : Nat) (xs : Nat → Int32) : zVal L xs 85 38 (.inl (i_il 2 39)) := zS_iload_n d85_38 rfl
theorem v85_39 (L : Nat) (xs : Nat → Int32) : zVal L xs 85 39 (.inl (i_il 7 41)) := zS_iload d85_39
theorem v85_41 (L : Nat) (xs : Nat → Int32) : zVal L xs 85 41 (.inl (i_il 3 42)) := zS_iload_n d85_41 rfl
theorem v85_42 (L : Nat) (xs : Nat → Int32) : zVal L xs 85 42 (.inr (.inl (87, 4, 9))) := ⟨by decide +kernel, by decide +kernel, zc_virt d85_42 zcl8 w640 w637 w639 w19 w82 ⟨by decide +kernel, by decide +kernel, by decide +kernel⟩ (by decide) (by decide)⟩
theorem v85_45 (L : Nat) (xs : Nat → Int32) : zVal L xs 85 45 (.inl (i_il 5 47)) := zS_iload d85_45
theorem v85_47 (L : Nat) (xs : Nat → Int32) : zVal L xs 85 47 (.inl (i_il 6 49)) := zS_iload d85_47
theorem v85_49 (L : Nat) (xs : Nat → Int32) : zVal L xs 85 49 (.inl (i_bi (fun x y => x <<< (y &&& 31)) 50)) := zS_ishl d85_49
theorem v85_50 (L : Nat) (xs : Nat → Int32) : zVal L xs 85 50 (.inl (i_bi (fun x y => x &&& y) 51)) := zS_iand d85_50
theorem v85_51 (L : Nat) (xs : Nat → Int32) : zVal L xs 85 51 (.inl (i_f1 (fun x => decide (¬ x = 0)) 68 54)) := zS_if_ne d85_51 (by decide)
theorem v85_54 (L : Nat) (xs : Nat → Int32) : zVal L xs 85 54 (.inl (i_al 1 55)) := zS_aload_n d85_54 rfl
theorem v85_55 (L : Nat) (xs : Nat → Int32) : zVal L xs 85 55 (.inl (i_il 2 56)) := zS_iload_n d85_55 rfl
theorem v85_56 (L : Nat) (xs : Nat → Int32) : zVal L xs 85 56 (.inl (i_il 7 58)) := zS_iload d85_56
theorem v85_58 (L : Nat) (xs : Nat → Int32) : zVal L xs 85 58 (.inl (i_il 6 60)) := zS_iload d85_58
theorem v85_60 (L : Nat) (xs : Nat → Int32) : zVal L xs 85 60 (.inl (i_il 3 61)) := zS_iload_n d85_60 rfl
theorem v85_61 (L : Nat) (xs : Nat → Int32) : zVal L xs 85 61 (.inl (i_il 4 63)) := zS_iload d85_61
theorem v85_63 (L : Nat) (xs : Nat → Int32) : zVal L xs 85 63 (.inr (.inl (48, 6, 5))) := ⟨by decide +kernel, by decide +kernel, zc_virt d85_63 zcl4 w644 w641 w642 w643 w76 ⟨by decide +kernel, by decide +kernel, by decide +kernel⟩ (by decide) (by decide)⟩
theorem v85_66 (L : Nat) (xs : Nat → Int32) : zVal L xs 85 66 (.inl (i_c (.int 1) 67)) := zS_iconst d85_66 (by decide)
theorem v85_67 (L : Nat) (xs : Nat → Int32) : zVal L xs 85 67 (.inr (.inr 2)) := zr_2 d85_67 rfl
theorem v85_68 (L : Nat) (xs : Nat → Int32) : zVal L xs 85 68 (.inl (i_in 7 1 71)) := zS_iinc d85_68 (by decide)
theorem v85_71 (L : Nat) (xs : Nat → Int32) : zVal L xs 85 71 (.inl (i_go 26)) := zS_goto d85_71 (by decide)
theorem v85_74 (L : Nat) (xs : Nat → Int32) : zVal L xs 85 74 (.inl (i_in 6 1 77)) := zS_iinc d85_74 (by decide)
theorem v85_77 (L : Nat) (xs : Nat → Int32) : zVal L xs 85 77 (.inl (i_go 11)) := zS_goto d85_77 (by decide)
theorem v85_80 (L : Nat) (xs : Nat → Int32) : zVal L xs 85 80 (.inl (i_c (.int 0) 81)) := zS_iconst d85_80 (by decide)
theorem v85_81 (L : Nat) (xs : Nat → Int32) : zVal L xs 85 81 (.inr (.inr 2)) := zr_2 d85_81 rfl
theorem vt85 (L : Nat) (xs : Nat → Int32) : zAll (fun x => zVal L xs 85 x.1 x.2) (tb85) := ⟨v85_0 L xs, v85_1 L xs, v85_3 L xs, v85_4 L xs, v85_5 L xs, v85_6 L xs, v85_8 L xs, v85_9 L xs, v85_11 L xs, v85_13 L xs, v85_15 L xs, v85_16 L xs, v85_17 L xs, v85_20 L xs, v85_23 L xs, v85_24 L xs, v85_26 L xs, v85_28 L xs, v85_29 L xs, v85_30 L xs, v85_31 L xs, v85_34 L xs, v85_37 L xs, v85_38 L xs, v85_39 L xs, v85_41 L xs, v85_42 L xs, v85_45 L xs, v85_47 L xs, v85_49 L xs, v85_50 L xs, v85_51 L xs, v85_54 L xs, v85_55 L xs, v85_56 L xs, v85_58 L xs, v85_60 L xs, v85_61 L xs, v85_63 L xs, v85_66 L xs, v85_67 L xs, v85_68 L xs, v85_71 L xs, v85_74 L xs, v85_77 L xs, v85_80 L xs, v85_81 L xs, trivial⟩
theorem d86_0 : decode (mB 86) 0 = .ok (.aload_n 0, 1) := by decide +kernel
theorem d86_1 : decode (mB 86) 1 = .ok (.iload_n 1, 1) := by decide +kernel
theorem d86_2 : decode (mB 86) 2 = .ok (.iload_n 2, 1) := by decide +kernel
theorem d86_3 : decode (mB 86) 3 = .ok (.iload 4, 2) := by decide +kernel
theorem d86_5 : decode (mB 86) 5 = .ok (.invokevirtual 31, 3) := by decide +kernel
theorem d86_8 : decode (mB 86) 8 = .ok (.istore 5, 2) := by decide +kernel
theorem d86_10 : decode (mB 86) 10 = .ok (.iconst 0, 1) := by decide +kernel
theorem d86_11 : decode (mB 86) 11 = .ok (.istore 6, 2) := by decide +kernel
theorem d86_13 : decode (mB 86) 13 = .ok (.iload_n 3, 1) := by decide +kernel
theorem d86_14 : decode (mB 86) 14 = .ok (.iload 6, 2) := by decide +kernel
theorem d86_16 : decode (mB 86) 16 = .ok (.iadd, 1) := by decide +kernel
theorem d86_17 : decode (mB 86) 17 = .ok (.aload_n 0, 1) := by decide +kernel
theorem d86_18 : decode (mB 86) 18 = .ok (.getfield 22, 3) := by decide +kernel
theorem d86_21 : decode (mB 86) 21 = .ok (.if_icmp .ge 22, 3) := by decide +kernel
theorem d86_24 : decode (mB 86) 24 = .ok (.iload 5, 2) := by decide +kernel
theorem d86_26 : decode (mB 86) 26 = .ok (.i2l, 1) := by decide +kernel
theorem d86_27 : decode (mB 86) 27 = .ok (.iload_n 3, 1) := by decide +kernel
theorem d86_28 : decode (mB 86) 28 = .ok (.iload 6, 2) := by decide +kernel
theorem d86_30 : decode (mB 86) 30 = .ok (.iadd, 1) := by decide +kernel
theorem d86_31 : decode (mB 86) 31 = .ok (.invokestatic 41, 3) := by decide +kernel
theorem d86_34 : decode (mB 86) 34 = .ok (.ifCond .ne 9, 3) := by decide +kernel
theorem d86_37 : decode (mB 86) 37 = .ok (.iinc 6 1, 3) := by decide +kernel
theorem d86_40 : decode (mB 86) 40 = .ok (.goto (-27), 3) := by decide +kernel
theorem d86_43 : decode (mB 86) 43 = .ok (.iload 6, 2) := by decide +kernel
theorem d86_45 : decode (mB 86) 45 = .ok (.ireturn, 1) := by decide +kernel
theorem v86_0 (L : Nat) (xs : Nat → Int32) : zVal L xs 86 0 (.inl (i_al 0 1)) := zS_aload_n d86_0 rfl
theorem v86_1 (L : Nat) (xs : Nat → Int32) : zVal L xs 86 1 (.inl (i_il 1 2)) := zS_iload_n d86_1 rfl
theorem v86_2 (L : Nat) (xs : Nat → Int32) : zVal L xs 86 2 (.inl (i_il 2 3)) := zS_iload_n d86_2 rfl
theorem v86_3 (L : Nat) (xs : Nat → Int32) : zVal L xs 86 3 (.inl (i_il 4 5)) := zS_iload d86_3
theorem v86_5 (L : Nat) (xs : Nat → Int32) : zVal L xs 86 5 (.inr (.inl (87, 4, 9))) := ⟨by decide +kernel, by decide +kernel, zc_virt d86_5 zcl8 w640 w637 w639 w19 w82 ⟨by decide +kernel, by decide +kernel, by decide +kernel⟩ (by decide) (by decide)⟩
theorem v86_8 (L : Nat) (xs : Nat → Int32) : zVal L xs 86 8 (.inl (i_is 5 10)) := zS_istore d86_8
theorem v86_10 (L : Nat) (xs : Nat → Int32) : zVal L xs 86 10 (.inl (i_c (.int 0) 11)) := zS_iconst d86_10 (by decide)
theorem v86_11 (L : Nat) (xs : Nat → Int32) : zVal L xs 86 11 (.inl (i_is 6 13)) := zS_istore d86_11
theorem v86_13 (L : Nat) (xs : Nat → Int32) : zVal L xs 86 13 (.inl (i_k [false, true, true, false, true, false, false] (i_il 3 14))) := zS_k (zS_iload_n d86_13 rfl)
theorem v86_14 (L : Nat) (xs : Nat → Int32) : zVal L xs 86 14 (.inl (i_il 6 16)) := zS_iload d86_14
theorem v86_16 (L : Nat) (xs : Nat → Int32) : zVal L xs 86 16 (.inl (i_bi (fun x y => x + y) 17)) := zS_iadd d86_16
theorem v86_17 (L : Nat) (xs : Nat → Int32) : zVal L xs 86 17 (.inl (i_al 0 18)) := zS_aload_n d86_17 rfl
theorem v86_18 (L : Nat) (xs : Nat → Int32) : zVal L xs 86 18 (.inl (i_gf 8 1 21)) := zS_getf d86_18 (zcl8) (by decide) zi8 w354
theorem v86_21 (L : Nat) (xs : Nat → Int32) : zVal L xs 86 21 (.inl (i_f2 (fun x y => decide (y ≤ x)) 43 24)) := zS_icmp_ge d86_21 (by decide)
theorem v86_24 (L : Nat) (xs : Nat → Int32) : zVal L xs 86 24 (.inl (i_il 5 26)) := zS_iload d86_24
theorem v86_26 (L : Nat) (xs : Nat → Int32) : zVal L xs 86 26 (.inl (i_i2l 27)) := zS_i2l d86_26
theorem v86_27 (L : Nat) (xs : Nat → Int32) : zVal L xs 86 27 (.inl (i_il 3 28)) := zS_iload_n d86_27 rfl
theorem v86_28 (L : Nat) (xs : Nat → Int32) : zVal L xs 86 28 (.inl (i_il 6 30)) := zS_iload d86_28
theorem v86_30 (L : Nat) (xs : Nat → Int32) : zVal L xs 86 30 (.inl (i_bi (fun x y => x + y) 31)) := zS_iadd d86_30
theorem v86_31 (L : Nat) (xs : Nat → Int32) : zVal L xs 86 31 (.inr (.inl (22, 2, 0))) := ⟨by decide +kernel, by decide +kernel, zc_staticN (host := "EditionGrid") d86_31 w578 (by decide +kernel) w577 w73 ⟨by decide +kernel, by decide +kernel, by decide +kernel⟩ (by decide) (by decide)⟩
theorem v86_34 (L : Nat) (xs : Nat → Int32) : zVal L xs 86 34 (.inl (i_f1 (fun x => decide (¬ x = 0)) 43 37)) := zS_if_ne d86_34 (by decide)
theorem v86_37 (L : Nat) (xs : Nat → Int32) : zVal L xs 86 37 (.inl (i_in 6 1 40)) := zS_iinc d86_37 (by decide)
theorem v86_40 (L : Nat) (xs : Nat → Int32) : zVal L xs 86 40 (.inl (i_go 13)) := zS_goto d86_40 (by decide)
theorem v86_43 (L : Nat) (xs : Nat → Int32) : zVal L xs 86 43 (.inl (i_k [true, true, true, true, true, true, false] (i_il 6 45))) := zS_k (zS_iload d86_43)
theorem v86_45 (L : Nat) (xs : Nat → Int32) : zVal L xs 86 45 (.inr (.inr 1)) := zr_1 d86_45 rfl
theorem vt86 (L : Nat) (xs : Nat → Int32) : zAll (fun x => zVal L xs 86 x.1 x.2) (tb86) := ⟨v86_0 L xs, v86_1 L xs, v86_2 L xs, v86_3 L xs, v86_5 L xs, v86_8 L xs, v86_10 L xs, v86_11 L xs, v86_13 L xs, v86_14 L xs, v86_16 L xs, v86_17 L xs, v86_18 L xs, v86_21 L xs, v86_24 L xs, v86_26 L xs, v86_27 L xs, v86_28 L xs, v86_30 L xs, v86_31 L xs, v86_34 L xs, v86_37 L xs, v86_40 L xs, v86_43 L xs, v86_45 L xs, trivial⟩
