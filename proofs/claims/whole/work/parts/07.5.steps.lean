theorem d131_0 : decode (mB 131) 0 = .ok (.iconst 2, 1) := by decide +kernel
theorem d131_1 : decode (mB 131) 1 = .ok (.iload_n 1, 1) := by decide +kernel
theorem d131_2 : decode (mB 131) 2 = .ok (.imul, 1) := by decide +kernel
theorem d131_3 : decode (mB 131) 3 = .ok (.iload_n 2, 1) := by decide +kernel
theorem d131_4 : decode (mB 131) 4 = .ok (.iadd, 1) := by decide +kernel
theorem d131_5 : decode (mB 131) 5 = .ok (.istore 6, 2) := by decide +kernel
theorem d131_7 : decode (mB 131) 7 = .ok (.aload_n 0, 1) := by decide +kernel
theorem d131_8 : decode (mB 131) 8 = .ok (.getfield 93, 3) := by decide +kernel
theorem d131_11 : decode (mB 131) 11 = .ok (.iload 6, 2) := by decide +kernel
theorem d131_13 : decode (mB 131) 13 = .ok (.iconst 1, 1) := by decide +kernel
theorem d131_14 : decode (mB 131) 14 = .ok (.bastore, 1) := by decide +kernel
theorem d131_15 : decode (mB 131) 15 = .ok (.aload_n 0, 1) := by decide +kernel
theorem d131_16 : decode (mB 131) 16 = .ok (.getfield 96, 3) := by decide +kernel
theorem d131_19 : decode (mB 131) 19 = .ok (.bipush 11, 2) := by decide +kernel
theorem d131_21 : decode (mB 131) 21 = .ok (.iload 6, 2) := by decide +kernel
theorem d131_23 : decode (mB 131) 23 = .ok (.imul, 1) := by decide +kernel
theorem d131_24 : decode (mB 131) 24 = .ok (.aload_n 0, 1) := by decide +kernel
theorem d131_25 : decode (mB 131) 25 = .ok (.getfield 222, 3) := by decide +kernel
theorem d131_28 : decode (mB 131) 28 = .ok (.iastore, 1) := by decide +kernel
theorem d131_29 : decode (mB 131) 29 = .ok (.aload_n 0, 1) := by decide +kernel
theorem d131_30 : decode (mB 131) 30 = .ok (.getfield 96, 3) := by decide +kernel
theorem d131_33 : decode (mB 131) 33 = .ok (.bipush 11, 2) := by decide +kernel
theorem d131_35 : decode (mB 131) 35 = .ok (.iload 6, 2) := by decide +kernel
theorem d131_37 : decode (mB 131) 37 = .ok (.imul, 1) := by decide +kernel
theorem d131_38 : decode (mB 131) 38 = .ok (.iconst 1, 1) := by decide +kernel
theorem d131_39 : decode (mB 131) 39 = .ok (.iadd, 1) := by decide +kernel
theorem d131_40 : decode (mB 131) 40 = .ok (.aload_n 0, 1) := by decide +kernel
theorem d131_41 : decode (mB 131) 41 = .ok (.getfield 225, 3) := by decide +kernel
theorem d131_44 : decode (mB 131) 44 = .ok (.iastore, 1) := by decide +kernel
theorem d131_45 : decode (mB 131) 45 = .ok (.aload_n 0, 1) := by decide +kernel
theorem d131_46 : decode (mB 131) 46 = .ok (.getfield 96, 3) := by decide +kernel
theorem d131_49 : decode (mB 131) 49 = .ok (.bipush 11, 2) := by decide +kernel
theorem d131_51 : decode (mB 131) 51 = .ok (.iload 6, 2) := by decide +kernel
theorem d131_53 : decode (mB 131) 53 = .ok (.imul, 1) := by decide +kernel
theorem d131_54 : decode (mB 131) 54 = .ok (.iconst 2, 1) := by decide +kernel
theorem d131_55 : decode (mB 131) 55 = .ok (.iadd, 1) := by decide +kernel
theorem d131_56 : decode (mB 131) 56 = .ok (.aload_n 0, 1) := by decide +kernel
theorem d131_57 : decode (mB 131) 57 = .ok (.getfield 228, 3) := by decide +kernel
theorem d131_60 : decode (mB 131) 60 = .ok (.iastore, 1) := by decide +kernel
theorem d131_61 : decode (mB 131) 61 = .ok (.aload_n 0, 1) := by decide +kernel
theorem d131_62 : decode (mB 131) 62 = .ok (.getfield 96, 3) := by decide +kernel
theorem d131_65 : decode (mB 131) 65 = .ok (.bipush 11, 2) := by decide +kernel
theorem d131_67 : decode (mB 131) 67 = .ok (.iload 6, 2) := by decide +kernel
theorem d131_69 : decode (mB 131) 69 = .ok (.imul, 1) := by decide +kernel
theorem d131_70 : decode (mB 131) 70 = .ok (.iconst 3, 1) := by decide +kernel
theorem d131_71 : decode (mB 131) 71 = .ok (.iadd, 1) := by decide +kernel
theorem d131_72 : decode (mB 131) 72 = .ok (.aload_n 0, 1) := by decide +kernel
theorem d131_73 : decode (mB 131) 73 = .ok (.getfield 231, 3) := by decide +kernel
theorem d131_76 : decode (mB 131) 76 = .ok (.iastore, 1) := by decide +kernel
theorem d131_77 : decode (mB 131) 77 = .ok (.aload_n 0, 1) := by decide +kernel
theorem d131_78 : decode (mB 131) 78 = .ok (.getfield 96, 3) := by decide +kernel
theorem d131_81 : decode (mB 131) 81 = .ok (.bipush 11, 2) := by decide +kernel
theorem d131_83 : decode (mB 131) 83 = .ok (.iload 6, 2) := by decide +kernel
theorem d131_85 : decode (mB 131) 85 = .ok (.imul, 1) := by decide +kernel
theorem d131_86 : decode (mB 131) 86 = .ok (.iconst 4, 1) := by decide +kernel
theorem d131_87 : decode (mB 131) 87 = .ok (.iadd, 1) := by decide +kernel
theorem d131_88 : decode (mB 131) 88 = .ok (.iload_n 3, 1) := by decide +kernel
theorem d131_89 : decode (mB 131) 89 = .ok (.iastore, 1) := by decide +kernel
theorem d131_90 : decode (mB 131) 90 = .ok (.aload_n 0, 1) := by decide +kernel
theorem d131_91 : decode (mB 131) 91 = .ok (.getfield 96, 3) := by decide +kernel
theorem d131_94 : decode (mB 131) 94 = .ok (.bipush 11, 2) := by decide +kernel
theorem d131_96 : decode (mB 131) 96 = .ok (.iload 6, 2) := by decide +kernel
theorem d131_98 : decode (mB 131) 98 = .ok (.imul, 1) := by decide +kernel
theorem d131_99 : decode (mB 131) 99 = .ok (.iconst 5, 1) := by decide +kernel
theorem d131_100 : decode (mB 131) 100 = .ok (.iadd, 1) := by decide +kernel
theorem d131_101 : decode (mB 131) 101 = .ok (.iload 4, 2) := by decide +kernel
theorem d131_103 : decode (mB 131) 103 = .ok (.iastore, 1) := by decide +kernel
theorem d131_104 : decode (mB 131) 104 = .ok (.aload_n 0, 1) := by decide +kernel
theorem d131_105 : decode (mB 131) 105 = .ok (.getfield 96, 3) := by decide +kernel
theorem d131_108 : decode (mB 131) 108 = .ok (.bipush 11, 2) := by decide +kernel
theorem d131_110 : decode (mB 131) 110 = .ok (.iload 6, 2) := by decide +kernel
theorem d131_112 : decode (mB 131) 112 = .ok (.imul, 1) := by decide +kernel
theorem d131_113 : decode (mB 131) 113 = .ok (.bipush 6, 2) := by decide +kernel
theorem d131_115 : decode (mB 131) 115 = .ok (.iadd, 1) := by decide +kernel
theorem d131_116 : decode (mB 131) 116 = .ok (.iload 5, 2) := by decide +kernel
theorem d131_118 : decode (mB 131) 118 = .ok (.iload 4, 2) := by decide +kernel
theorem d131_120 : decode (mB 131) 120 = .ok (.isub, 1) := by decide +kernel
theorem d131_121 : decode (mB 131) 121 = .ok (.iastore, 1) := by decide +kernel
theorem d131_122 : decode (mB 131) 122 = .ok (.iconst 0, 1) := by decide +kernel
theorem d131_123 : decode (mB 131) 123 = .ok (.istore 7, 2) := by decide +kernel
theorem d131_125 : decode (mB 131) 125 = .ok (.iload 7, 2) := by decide +kernel
theorem d131_127 : decode (mB 131) 127 = .ok (.iconst 4, 1) := by decide +kernel
theorem d131_128 : decode (mB 131) 128 = .ok (.if_icmp .ge 45, 3) := by decide +kernel
theorem d131_131 : decode (mB 131) 131 = .ok (.aload_n 0, 1) := by decide +kernel
theorem d131_132 : decode (mB 131) 132 = .ok (.getfield 96, 3) := by decide +kernel
theorem d131_135 : decode (mB 131) 135 = .ok (.bipush 11, 2) := by decide +kernel
theorem d131_137 : decode (mB 131) 137 = .ok (.iload 6, 2) := by decide +kernel
theorem d131_139 : decode (mB 131) 139 = .ok (.imul, 1) := by decide +kernel
theorem d131_140 : decode (mB 131) 140 = .ok (.bipush 7, 2) := by decide +kernel
theorem d131_142 : decode (mB 131) 142 = .ok (.iadd, 1) := by decide +kernel
theorem d131_143 : decode (mB 131) 143 = .ok (.iload 7, 2) := by decide +kernel
theorem d131_145 : decode (mB 131) 145 = .ok (.iadd, 1) := by decide +kernel
theorem d131_146 : decode (mB 131) 146 = .ok (.iload 7, 2) := by decide +kernel
theorem d131_148 : decode (mB 131) 148 = .ok (.aload_n 0, 1) := by decide +kernel
theorem d131_149 : decode (mB 131) 149 = .ok (.getfield 231, 3) := by decide +kernel
theorem d131_152 : decode (mB 131) 152 = .ok (.if_icmp .ge 13, 3) := by decide +kernel
theorem d131_155 : decode (mB 131) 155 = .ok (.aload_n 0, 1) := by decide +kernel
theorem d131_156 : decode (mB 131) 156 = .ok (.getfield 105, 3) := by decide +kernel
theorem d131_159 : decode (mB 131) 159 = .ok (.iload 7, 2) := by decide +kernel
theorem d131_161 : decode (mB 131) 161 = .ok (.iaload, 1) := by decide +kernel
theorem d131_162 : decode (mB 131) 162 = .ok (.goto 4, 3) := by decide +kernel
theorem d131_165 : decode (mB 131) 165 = .ok (.iconst 0, 1) := by decide +kernel
theorem d131_166 : decode (mB 131) 166 = .ok (.iastore, 1) := by decide +kernel
theorem d131_167 : decode (mB 131) 167 = .ok (.iinc 7 1, 3) := by decide +kernel
theorem d131_170 : decode (mB 131) 170 = .ok (.goto (-45), 3) := by decide +kernel
theorem d131_173 : decode (mB 131) 173 = .ok (.return_, 1) := by decide +kernel
theorem v131_0 (L : Nat) (xs : Nat → Int32) : zVal L xs 131 0 (.inl (i_c (.int 2) 1)) := zS_iconst d131_0 (by decide)
theorem v131_1 (L : Nat) (xs : Nat → Int32) : zVal L xs 131 1 (.inl (i_il 1 2)) := zS_iload_n d131_1 rfl
theorem v131_2 (L : Nat) (xs : Nat → Int32) : zVal L xs 131 2 (.inl (i_bi (fun x y => x * y) 3)) := zS_imul d131_2
theorem v131_3 (L : Nat) (xs : Nat → Int32) : zVal L xs 131 3 (.inl (i_il 2 4)) := zS_iload_n d131_3 rfl
theorem v131_4 (L : Nat) (xs : Nat → Int32) : zVal L xs 131 4 (.inl (i_bi (fun x y => x + y) 5)) := zS_iadd d131_4
theorem v131_5 (L : Nat) (xs : Nat → Int32) : zVal L xs 131 5 (.inl (i_is 6 7)) := zS_istore d131_5
theorem v131_7 (L : Nat) (xs : Nat → Int32) : zVal L xs 131 7 (.inl (i_al 0 8)) := zS_aload_n d131_7 rfl
theorem v131_8 (L : Nat) (xs : Nat → Int32) : zVal L xs 131 8 (.inl (i_gf 10 35 11)) := zS_getf d131_8 (zcl10) (by decide) zi10 w813
theorem v131_11 (L : Nat) (xs : Nat → Int32) : zVal L xs 131 11 (.inl (i_il 6 13)) := zS_iload d131_11
theorem v131_13 (L : Nat) (xs : Nat → Int32) : zVal L xs 131 13 (.inl (i_c (.int 1) 14)) := zS_iconst d131_13 (by decide)
theorem v131_14 (L : Nat) (xs : Nat → Int32) : zVal L xs 131 14 (.inl (i_pa 3 (vp_nar .boolean) 15)) := zS_zast d131_14
theorem v131_15 (L : Nat) (xs : Nat → Int32) : zVal L xs 131 15 (.inl (i_al 0 16)) := zS_aload_n d131_15 rfl
theorem v131_16 (L : Nat) (xs : Nat → Int32) : zVal L xs 131 16 (.inl (i_gf 10 36 19)) := zS_getf d131_16 (zcl10) (by decide) zi10 w814
theorem v131_19 (L : Nat) (xs : Nat → Int32) : zVal L xs 131 19 (.inl (i_c (.int 11) 21)) := zS_bipush d131_19 (by decide)
theorem v131_21 (L : Nat) (xs : Nat → Int32) : zVal L xs 131 21 (.inl (i_il 6 23)) := zS_iload d131_21
theorem v131_23 (L : Nat) (xs : Nat → Int32) : zVal L xs 131 23 (.inl (i_bi (fun x y => x * y) 24)) := zS_imul d131_23
theorem v131_24 (L : Nat) (xs : Nat → Int32) : zVal L xs 131 24 (.inl (i_al 0 25)) := zS_aload_n d131_24 rfl
theorem v131_25 (L : Nat) (xs : Nat → Int32) : zVal L xs 131 25 (.inl (i_gf 10 42 28)) := zS_getf d131_25 (zcl10) (by decide) zi10 w820
theorem v131_28 (L : Nat) (xs : Nat → Int32) : zVal L xs 131 28 (.inl (i_pa 0 (fun x => x) 29)) := zS_iast d131_28
theorem v131_29 (L : Nat) (xs : Nat → Int32) : zVal L xs 131 29 (.inl (i_al 0 30)) := zS_aload_n d131_29 rfl
theorem v131_30 (L : Nat) (xs : Nat → Int32) : zVal L xs 131 30 (.inl (i_gf 10 36 33)) := zS_getf d131_30 (zcl10) (by decide) zi10 w814
theorem v131_33 (L : Nat) (xs : Nat → Int32) : zVal L xs 131 33 (.inl (i_c (.int 11) 35)) := zS_bipush d131_33 (by decide)
theorem v131_35 (L : Nat) (xs : Nat → Int32) : zVal L xs 131 35 (.inl (i_il 6 37)) := zS_iload d131_35
theorem v131_37 (L : Nat) (xs : Nat → Int32) : zVal L xs 131 37 (.inl (i_bi (fun x y => x * y) 38)) := zS_imul d131_37
theorem v131_38 (L : Nat) (xs : Nat → Int32) : zVal L xs 131 38 (.inl (i_c (.int 1) 39)) := zS_iconst d131_38 (by decide)
theorem v131_39 (L : Nat) (xs : Nat → Int32) : zVal L xs 131 39 (.inl (i_bi (fun x y => x + y) 40)) := zS_iadd d131_39
theorem v131_40 (L : Nat) (xs : Nat → Int32) : zVal L xs 131 40 (.inl (i_al 0 41)) := zS_aload_n d131_40 rfl
theorem v131_41 (L : Nat) (xs : Nat → Int32) : zVal L xs 131 41 (.inl (i_gf 10 43 44)) := zS_getf d131_41 (zcl10) (by decide) zi10 w821
theorem v131_44 (L : Nat) (xs : Nat → Int32) : zVal L xs 131 44 (.inl (i_pa 0 (fun x => x) 45)) := zS_iast d131_44
theorem v131_45 (L : Nat) (xs : Nat → Int32) : zVal L xs 131 45 (.inl (i_al 0 46)) := zS_aload_n d131_45 rfl
theorem v131_46 (L : Nat) (xs : Nat → Int32) : zVal L xs 131 46 (.inl (i_gf 10 36 49)) := zS_getf d131_46 (zcl10) (by decide) zi10 w814
theorem v131_49 (L : Nat) (xs : Nat → Int32) : zVal L xs 131 49 (.inl (i_c (.int 11) 51)) := zS_bipush d131_49 (by decide)
theorem v131_51 (L : Nat) (xs : Nat → Int32) : zVal L xs 131 51 (.inl (i_il 6 53)) := zS_iload d131_51
theorem v131_53 (L : Nat) (xs : Nat → Int32) : zVal L xs 131 53 (.inl (i_bi (fun x y => x * y) 54)) := zS_imul d131_53
theorem v131_54 (L : Nat) (xs : Nat → Int32) : zVal L xs 131 54 (.inl (i_c (.int 2) 55)) := zS_iconst d131_54 (by decide)
theorem v131_55 (L : Nat) (xs : Nat → Int32) : zVal L xs 131 55 (.inl (i_bi (fun x y => x + y) 56)) := zS_iadd d131_55
theorem v131_56 (L : Nat) (xs : Nat → Int32) : zVal L xs 131 56 (.inl (i_al 0 57)) := zS_aload_n d131_56 rfl
theorem v131_57 (L : Nat) (xs : Nat → Int32) : zVal L xs 131 57 (.inl (i_gf 10 44 60)) := zS_getf d131_57 (zcl10) (by decide) zi10 w822
theorem v131_60 (L : Nat) (xs : Nat → Int32) : zVal L xs 131 60 (.inl (i_pa 0 (fun x => x) 61)) := zS_iast d131_60
theorem v131_61 (L : Nat) (xs : Nat → Int32) : zVal L xs 131 61 (.inl (i_al 0 62)) := zS_aload_n d131_61 rfl
theorem v131_62 (L : Nat) (xs : Nat → Int32) : zVal L xs 131 62 (.inl (i_gf 10 36 65)) := zS_getf d131_62 (zcl10) (by decide) zi10 w814
theorem v131_65 (L : Nat) (xs : Nat → Int32) : zVal L xs 131 65 (.inl (i_c (.int 11) 67)) := zS_bipush d131_65 (by decide)
theorem v131_67 (L : Nat) (xs : Nat → Int32) : zVal L xs 131 67 (.inl (i_il 6 69)) := zS_iload d131_67
theorem v131_69 (L : Nat) (xs : Nat → Int32) : zVal L xs 131 69 (.inl (i_bi (fun x y => x * y) 70)) := zS_imul d131_69
theorem v131_70 (L : Nat) (xs : Nat → Int32) : zVal L xs 131 70 (.inl (i_c (.int 3) 71)) := zS_iconst d131_70 (by decide)
theorem v131_71 (L : Nat) (xs : Nat → Int32) : zVal L xs 131 71 (.inl (i_bi (fun x y => x + y) 72)) := zS_iadd d131_71
theorem v131_72 (L : Nat) (xs : Nat → Int32) : zVal L xs 131 72 (.inl (i_al 0 73)) := zS_aload_n d131_72 rfl
theorem v131_73 (L : Nat) (xs : Nat → Int32) : zVal L xs 131 73 (.inl (i_gf 10 45 76)) := zS_getf d131_73 (zcl10) (by decide) zi10 w823
theorem v131_76 (L : Nat) (xs : Nat → Int32) : zVal L xs 131 76 (.inl (i_pa 0 (fun x => x) 77)) := zS_iast d131_76
theorem v131_77 (L : Nat) (xs : Nat → Int32) : zVal L xs 131 77 (.inl (i_al 0 78)) := zS_aload_n d131_77 rfl
theorem v131_78 (L : Nat) (xs : Nat → Int32) : zVal L xs 131 78 (.inl (i_gf 10 36 81)) := zS_getf d131_78 (zcl10) (by decide) zi10 w814
theorem v131_81 (L : Nat) (xs : Nat → Int32) : zVal L xs 131 81 (.inl (i_c (.int 11) 83)) := zS_bipush d131_81 (by decide)
theorem v131_83 (L : Nat) (xs : Nat → Int32) : zVal L xs 131 83 (.inl (i_il 6 85)) := zS_iload d131_83
theorem v131_85 (L : Nat) (xs : Nat → Int32) : zVal L xs 131 85 (.inl (i_bi (fun x y => x * y) 86)) := zS_imul d131_85
theorem v131_86 (L : Nat) (xs : Nat → Int32) : zVal L xs 131 86 (.inl (i_c (.int 4) 87)) := zS_iconst d131_86 (by decide)
theorem v131_87 (L : Nat) (xs : Nat → Int32) : zVal L xs 131 87 (.inl (i_bi (fun x y => x + y) 88)) := zS_iadd d131_87
theorem v131_88 (L : Nat) (xs : Nat → Int32) : zVal L xs 131 88 (.inl (i_il 3 89)) := zS_iload_n d131_88 rfl
theorem v131_89 (L : Nat) (xs : Nat → Int32) : zVal L xs 131 89 (.inl (i_pa 0 (fun x => x) 90)) := zS_iast d131_89
theorem v131_90 (L : Nat) (xs : Nat → Int32) : zVal L xs 131 90 (.inl (i_al 0 91)) := zS_aload_n d131_90 rfl
theorem v131_91 (L : Nat) (xs : Nat → Int32) : zVal L xs 131 91 (.inl (i_gf 10 36 94)) := zS_getf d131_91 (zcl10) (by decide) zi10 w814
theorem v131_94 (L : Nat) (xs : Nat → Int32) : zVal L xs 131 94 (.inl (i_c (.int 11) 96)) := zS_bipush d131_94 (by decide)
theorem v131_96 (L : Nat) (xs : Nat → Int32) : zVal L xs 131 96 (.inl (i_il 6 98)) := zS_iload d131_96
theorem v131_98 (L : Nat) (xs : Nat → Int32) : zVal L xs 131 98 (.inl (i_bi (fun x y => x * y) 99)) := zS_imul d131_98
theorem v131_99 (L : Nat) (xs : Nat → Int32) : zVal L xs 131 99 (.inl (i_c (.int 5) 100)) := zS_iconst d131_99 (by decide)
theorem v131_100 (L : Nat) (xs : Nat → Int32) : zVal L xs 131 100 (.inl (i_bi (fun x y => x + y) 101)) := zS_iadd d131_100
theorem v131_101 (L : Nat) (xs : Nat → Int32) : zVal L xs 131 101 (.inl (i_il 4 103)) := zS_iload d131_101
theorem v131_103 (L : Nat) (xs : Nat → Int32) : zVal L xs 131 103 (.inl (i_pa 0 (fun x => x) 104)) := zS_iast d131_103
theorem v131_104 (L : Nat) (xs : Nat → Int32) : zVal L xs 131 104 (.inl (i_al 0 105)) := zS_aload_n d131_104 rfl
theorem v131_105 (L : Nat) (xs : Nat → Int32) : zVal L xs 131 105 (.inl (i_gf 10 36 108)) := zS_getf d131_105 (zcl10) (by decide) zi10 w814
theorem v131_108 (L : Nat) (xs : Nat → Int32) : zVal L xs 131 108 (.inl (i_c (.int 11) 110)) := zS_bipush d131_108 (by decide)
theorem v131_110 (L : Nat) (xs : Nat → Int32) : zVal L xs 131 110 (.inl (i_il 6 112)) := zS_iload d131_110
theorem v131_112 (L : Nat) (xs : Nat → Int32) : zVal L xs 131 112 (.inl (i_bi (fun x y => x * y) 113)) := zS_imul d131_112
theorem v131_113 (L : Nat) (xs : Nat → Int32) : zVal L xs 131 113 (.inl (i_c (.int 6) 115)) := zS_bipush d131_113 (by decide)
theorem v131_115 (L : Nat) (xs : Nat → Int32) : zVal L xs 131 115 (.inl (i_bi (fun x y => x + y) 116)) := zS_iadd d131_115
theorem v131_116 (L : Nat) (xs : Nat → Int32) : zVal L xs 131 116 (.inl (i_il 5 118)) := zS_iload d131_116
theorem v131_118 (L : Nat) (xs : Nat → Int32) : zVal L xs 131 118 (.inl (i_il 4 120)) := zS_iload d131_118
theorem v131_120 (L : Nat) (xs : Nat → Int32) : zVal L xs 131 120 (.inl (i_bi (fun x y => x - y) 121)) := zS_isub d131_120
theorem v131_121 (L : Nat) (xs : Nat → Int32) : zVal L xs 131 121 (.inl (i_pa 0 (fun x => x) 122)) := zS_iast d131_121
theorem v131_122 (L : Nat) (xs : Nat → Int32) : zVal L xs 131 122 (.inl (i_c (.int 0) 123)) := zS_iconst d131_122 (by decide)
theorem v131_123 (L : Nat) (xs : Nat → Int32) : zVal L xs 131 123 (.inl (i_is 7 125)) := zS_istore d131_123
theorem v131_125 (L : Nat) (xs : Nat → Int32) : zVal L xs 131 125 (.inl (i_k [false, true, true, true, true, true, false, false] (i_il 7 127))) := zS_k (zS_iload d131_125)
theorem v131_127 (L : Nat) (xs : Nat → Int32) : zVal L xs 131 127 (.inl (i_c (.int 4) 128)) := zS_iconst d131_127 (by decide)
theorem v131_128 (L : Nat) (xs : Nat → Int32) : zVal L xs 131 128 (.inl (i_f2 (fun x y => decide (y ≤ x)) 173 131)) := zS_icmp_ge d131_128 (by decide)
theorem v131_131 (L : Nat) (xs : Nat → Int32) : zVal L xs 131 131 (.inl (i_al 0 132)) := zS_aload_n d131_131 rfl
theorem v131_132 (L : Nat) (xs : Nat → Int32) : zVal L xs 131 132 (.inl (i_gf 10 36 135)) := zS_getf d131_132 (zcl10) (by decide) zi10 w814
theorem v131_135 (L : Nat) (xs : Nat → Int32) : zVal L xs 131 135 (.inl (i_c (.int 11) 137)) := zS_bipush d131_135 (by decide)
theorem v131_137 (L : Nat) (xs : Nat → Int32) : zVal L xs 131 137 (.inl (i_il 6 139)) := zS_iload d131_137
theorem v131_139 (L : Nat) (xs : Nat → Int32) : zVal L xs 131 139 (.inl (i_bi (fun x y => x * y) 140)) := zS_imul d131_139
theorem v131_140 (L : Nat) (xs : Nat → Int32) : zVal L xs 131 140 (.inl (i_c (.int 7) 142)) := zS_bipush d131_140 (by decide)
theorem v131_142 (L : Nat) (xs : Nat → Int32) : zVal L xs 131 142 (.inl (i_bi (fun x y => x + y) 143)) := zS_iadd d131_142
theorem v131_143 (L : Nat) (xs : Nat → Int32) : zVal L xs 131 143 (.inl (i_il 7 145)) := zS_iload d131_143
theorem v131_145 (L : Nat) (xs : Nat → Int32) : zVal L xs 131 145 (.inl (i_bi (fun x y => x + y) 146)) := zS_iadd d131_145
theorem v131_146 (L : Nat) (xs : Nat → Int32) : zVal L xs 131 146 (.inl (i_il 7 148)) := zS_iload d131_146
theorem v131_148 (L : Nat) (xs : Nat → Int32) : zVal L xs 131 148 (.inl (i_al 0 149)) := zS_aload_n d131_148 rfl
theorem v131_149 (L : Nat) (xs : Nat → Int32) : zVal L xs 131 149 (.inl (i_gf 10 45 152)) := zS_getf d131_149 (zcl10) (by decide) zi10 w823
theorem v131_152 (L : Nat) (xs : Nat → Int32) : zVal L xs 131 152 (.inl (i_f2 (fun x y => decide (y ≤ x)) 165 155)) := zS_icmp_ge d131_152 (by decide)
theorem v131_155 (L : Nat) (xs : Nat → Int32) : zVal L xs 131 155 (.inl (i_al 0 156)) := zS_aload_n d131_155 rfl
theorem v131_156 (L : Nat) (xs : Nat → Int32) : zVal L xs 131 156 (.inl (i_gf 10 39 159)) := zS_getf d131_156 (zcl10) (by decide) zi10 w817
theorem v131_159 (L : Nat) (xs : Nat → Int32) : zVal L xs 131 159 (.inl (i_il 7 161)) := zS_iload d131_159
theorem v131_161 (L : Nat) (xs : Nat → Int32) : zVal L xs 131 161 (.inl (i_ga 0 162)) := zS_iald d131_161
theorem v131_162 (L : Nat) (xs : Nat → Int32) : zVal L xs 131 162 (.inl (i_go 166)) := zS_goto d131_162 (by decide)
theorem v131_165 (L : Nat) (xs : Nat → Int32) : zVal L xs 131 165 (.inl (i_c (.int 0) 166)) := zS_iconst d131_165 (by decide)
theorem v131_166 (L : Nat) (xs : Nat → Int32) : zVal L xs 131 166 (.inl (i_k [false, true, true, true, true, true, false, false] (i_pa 0 (fun x => x) 167))) := zS_k (zS_iast d131_166)
theorem v131_167 (L : Nat) (xs : Nat → Int32) : zVal L xs 131 167 (.inl (i_in 7 1 170)) := zS_iinc d131_167 (by decide)
theorem v131_170 (L : Nat) (xs : Nat → Int32) : zVal L xs 131 170 (.inl (i_go 125)) := zS_goto d131_170 (by decide)
theorem v131_173 (L : Nat) (xs : Nat → Int32) : zVal L xs 131 173 (.inr (.inr 0)) := zr_0 d131_173 rfl
theorem vt131 (L : Nat) (xs : Nat → Int32) : zAll (fun x => zVal L xs 131 x.1 x.2) (tb131) := ⟨v131_0 L xs, v131_1 L xs, v131_2 L xs, v131_3 L xs, v131_4 L xs, v131_5 L xs, v131_7 L xs, v131_8 L xs, v131_11 L xs, v131_13 L xs, v131_14 L xs, v131_15 L xs, v131_16 L xs, v131_19 L xs, v131_21 L xs, v131_23 L xs, v131_24 L xs, v131_25 L xs, v131_28 L xs, v131_29 L xs, v131_30 L xs, v131_33 L xs, v131_35 L xs, v131_37 L xs, v131_38 L xs, v131_39 L xs, v131_40 L xs, v131_41 L xs, v131_44 L xs, v131_45 L xs, v131_46 L xs, v131_49 L xs, v131_51 L xs, v131_53 L xs, v131_54 L xs, v131_55 L xs, v131_56 L xs, v131_57 L xs, v131_60 L xs, v131_61 L xs, v131_62 L xs, v131_65 L xs, v131_67 L xs, v131_69 L xs, v131_70 L xs, v131_71 L xs, v131_72 L xs, v131_73 L xs, v131_76 L xs, v131_77 L xs, v131_78 L xs, v131_81 L xs, v131_83 L xs, v131_85 L xs, v131_86 L xs, v131_87 L xs, v131_88 L xs, v131_89 L xs, v131_90 L xs, v131_91 L xs, v131_94 L xs, v131_96 L xs, v131_98 L xs, v131_99 L xs, v131_100 L xs, v131_101 L xs, v131_103 L xs, v131_104 L xs, v131_105 L xs, v131_108 L xs, v131_110 L xs, v131_112 L xs, v131_113 L xs, v131_115 L xs, v131_116 L xs, v131_118 L xs, v131_120 L xs, v131_121 L xs, v131_122 L xs, v131_123 L xs, v131_125 L xs, v131_127 L xs, v131_128 L xs, v131_131 L xs, v131_132 L xs, v131_135 L xs, v131_137 L xs, v131_139 L xs, v131_140 L xs, v131_142 L xs, v131_143 L xs, v131_145 L xs, v131_146 L xs, v131_148 L xs, v131_149 L xs, v131_152 L xs, v131_155 L xs, v131_156 L xs, v131_159 L xs, v131_161 L xs, v131_162 L xs, v131_165 L xs, v131_166 L xs, v131_167 L xs, v131_170 L xs, v131_173 L xs, trivial⟩
theorem d132_0 : decode (mB 132) 0 = .ok (.aload_n 0, 1) := by decide +kernel
theorem d132_1 : decode (mB 132) 1 = .ok (.iload_n 1, 1) := by decide +kernel
theorem d132_2 : decode (mB 132) 2 = .ok (.iload_n 2, 1) := by decide +kernel
theorem d132_3 : decode (mB 132) 3 = .ok (.iload_n 3, 1) := by decide +kernel
theorem d132_4 : decode (mB 132) 4 = .ok (.iload 4, 2) := by decide +kernel
theorem d132_6 : decode (mB 132) 6 = .ok (.iload 5, 2) := by decide +kernel
theorem d132_8 : decode (mB 132) 8 = .ok (.invokevirtual 244, 3) := by decide +kernel
theorem d132_11 : decode (mB 132) 11 = .ok (.bipush 100, 2) := by decide +kernel
theorem d132_13 : decode (mB 132) 13 = .ok (.iload_n 1, 1) := by decide +kernel
theorem d132_14 : decode (mB 132) 14 = .ok (.iconst 1, 1) := by decide +kernel
theorem d132_15 : decode (mB 132) 15 = .ok (.iadd, 1) := by decide +kernel
theorem d132_16 : decode (mB 132) 16 = .ok (.imul, 1) := by decide +kernel
theorem d132_17 : decode (mB 132) 17 = .ok (.istore 8, 2) := by decide +kernel
theorem d132_19 : decode (mB 132) 19 = .ok (.iload 4, 2) := by decide +kernel
theorem d132_21 : decode (mB 132) 21 = .ok (.istore 9, 2) := by decide +kernel
theorem d132_23 : decode (mB 132) 23 = .ok (.iconst 0, 1) := by decide +kernel
theorem d132_24 : decode (mB 132) 24 = .ok (.istore 10, 2) := by decide +kernel
theorem d132_26 : decode (mB 132) 26 = .ok (.iload 10, 2) := by decide +kernel
theorem d132_28 : decode (mB 132) 28 = .ok (.aload_n 0, 1) := by decide +kernel
theorem d132_29 : decode (mB 132) 29 = .ok (.getfield 231, 3) := by decide +kernel
theorem d132_32 : decode (mB 132) 32 = .ok (.if_icmp .ge 174, 3) := by decide +kernel
theorem d132_35 : decode (mB 132) 35 = .ok (.bipush 64, 2) := by decide +kernel
theorem d132_37 : decode (mB 132) 37 = .ok (.aload_n 0, 1) := by decide +kernel
theorem d132_38 : decode (mB 132) 38 = .ok (.getfield 222, 3) := by decide +kernel
theorem d132_41 : decode (mB 132) 41 = .ok (.imul, 1) := by decide +kernel
theorem d132_42 : decode (mB 132) 42 = .ok (.bipush 16, 2) := by decide +kernel
theorem d132_44 : decode (mB 132) 44 = .ok (.aload_n 0, 1) := by decide +kernel
theorem d132_45 : decode (mB 132) 45 = .ok (.getfield 225, 3) := by decide +kernel
theorem d132_48 : decode (mB 132) 48 = .ok (.iload 10, 2) := by decide +kernel
theorem d132_50 : decode (mB 132) 50 = .ok (.iadd, 1) := by decide +kernel
theorem d132_51 : decode (mB 132) 51 = .ok (.imul, 1) := by decide +kernel
theorem d132_52 : decode (mB 132) 52 = .ok (.iadd, 1) := by decide +kernel
theorem d132_53 : decode (mB 132) 53 = .ok (.aload_n 0, 1) := by decide +kernel
theorem d132_54 : decode (mB 132) 54 = .ok (.getfield 228, 3) := by decide +kernel
theorem d132_57 : decode (mB 132) 57 = .ok (.iadd, 1) := by decide +kernel
theorem d132_58 : decode (mB 132) 58 = .ok (.istore 11, 2) := by decide +kernel
theorem d132_60 : decode (mB 132) 60 = .ok (.iload 10, 2) := by decide +kernel
theorem d132_62 : decode (mB 132) 62 = .ok (.iload 6, 2) := by decide +kernel
theorem d132_64 : decode (mB 132) 64 = .ok (.if_icmp .ge 8, 3) := by decide +kernel
theorem d132_67 : decode (mB 132) 67 = .ok (.iload 7, 2) := by decide +kernel
theorem d132_69 : decode (mB 132) 69 = .ok (.goto 4, 3) := by decide +kernel
theorem d132_72 : decode (mB 132) 72 = .ok (.iconst 0, 1) := by decide +kernel
theorem d132_73 : decode (mB 132) 73 = .ok (.istore 12, 2) := by decide +kernel
theorem d132_75 : decode (mB 132) 75 = .ok (.iconst 0, 1) := by decide +kernel
theorem d132_76 : decode (mB 132) 76 = .ok (.istore 13, 2) := by decide +kernel
theorem d132_78 : decode (mB 132) 78 = .ok (.iload 13, 2) := by decide +kernel
theorem d132_80 : decode (mB 132) 80 = .ok (.iload_n 3, 1) := by decide +kernel
theorem d132_81 : decode (mB 132) 81 = .ok (.if_icmp .ge 41, 3) := by decide +kernel
theorem d132_84 : decode (mB 132) 84 = .ok (.aload_n 0, 1) := by decide +kernel
theorem d132_85 : decode (mB 132) 85 = .ok (.getfield 99, 3) := by decide +kernel
theorem d132_88 : decode (mB 132) 88 = .ok (.iload 11, 2) := by decide +kernel
theorem d132_90 : decode (mB 132) 90 = .ok (.iload 13, 2) := by decide +kernel
theorem d132_92 : decode (mB 132) 92 = .ok (.iadd, 1) := by decide +kernel
theorem d132_93 : decode (mB 132) 93 = .ok (.iload 13, 2) := by decide +kernel
theorem d132_95 : decode (mB 132) 95 = .ok (.ifCond .le 18, 3) := by decide +kernel
theorem d132_98 : decode (mB 132) 98 = .ok (.iload 13, 2) := by decide +kernel
theorem d132_100 : decode (mB 132) 100 = .ok (.iload 12, 2) := by decide +kernel
theorem d132_102 : decode (mB 132) 102 = .ok (.if_icmp .gt 11, 3) := by decide +kernel
theorem d132_105 : decode (mB 132) 105 = .ok (.iload 8, 2) := by decide +kernel
theorem d132_107 : decode (mB 132) 107 = .ok (.bipush 81, 2) := by decide +kernel
theorem d132_109 : decode (mB 132) 109 = .ok (.iadd, 1) := by decide +kernel
theorem d132_110 : decode (mB 132) 110 = .ok (.goto 5, 3) := by decide +kernel
theorem d132_113 : decode (mB 132) 113 = .ok (.bipush 90, 2) := by decide +kernel
theorem d132_115 : decode (mB 132) 115 = .ok (.iastore, 1) := by decide +kernel
theorem d132_116 : decode (mB 132) 116 = .ok (.iinc 13 1, 3) := by decide +kernel
theorem d132_119 : decode (mB 132) 119 = .ok (.goto (-41), 3) := by decide +kernel
theorem d132_122 : decode (mB 132) 122 = .ok (.aload_n 0, 1) := by decide +kernel
theorem d132_123 : decode (mB 132) 123 = .ok (.getfield 99, 3) := by decide +kernel
theorem d132_126 : decode (mB 132) 126 = .ok (.iload 11, 2) := by decide +kernel
theorem d132_128 : decode (mB 132) 128 = .ok (.iload_n 2, 1) := by decide +kernel
theorem d132_129 : decode (mB 132) 129 = .ok (.ifCond .ne 11, 3) := by decide +kernel
theorem d132_132 : decode (mB 132) 132 = .ok (.iload 8, 2) := by decide +kernel
theorem d132_134 : decode (mB 132) 134 = .ok (.bipush 80, 2) := by decide +kernel
theorem d132_136 : decode (mB 132) 136 = .ok (.iadd, 1) := by decide +kernel
theorem d132_137 : decode (mB 132) 137 = .ok (.goto 18, 3) := by decide +kernel
theorem d132_140 : decode (mB 132) 140 = .ok (.iload 10, 2) := by decide +kernel
theorem d132_142 : decode (mB 132) 142 = .ok (.ifCond .ne 11, 3) := by decide +kernel
theorem d132_145 : decode (mB 132) 145 = .ok (.iload 8, 2) := by decide +kernel
theorem d132_147 : decode (mB 132) 147 = .ok (.bipush 83, 2) := by decide +kernel
theorem d132_149 : decode (mB 132) 149 = .ok (.iadd, 1) := by decide +kernel
theorem d132_150 : decode (mB 132) 150 = .ok (.goto 5, 3) := by decide +kernel
theorem d132_153 : decode (mB 132) 153 = .ok (.bipush 90, 2) := by decide +kernel
theorem d132_155 : decode (mB 132) 155 = .ok (.iastore, 1) := by decide +kernel
theorem d132_156 : decode (mB 132) 156 = .ok (.iconst 0, 1) := by decide +kernel
theorem d132_157 : decode (mB 132) 157 = .ok (.istore 13, 2) := by decide +kernel
theorem d132_159 : decode (mB 132) 159 = .ok (.iload 13, 2) := by decide +kernel
theorem d132_161 : decode (mB 132) 161 = .ok (.aload_n 0, 1) := by decide +kernel
theorem d132_162 : decode (mB 132) 162 = .ok (.getfield 105, 3) := by decide +kernel
theorem d132_165 : decode (mB 132) 165 = .ok (.iload 10, 2) := by decide +kernel
theorem d132_167 : decode (mB 132) 167 = .ok (.iaload, 1) := by decide +kernel
theorem d132_168 : decode (mB 132) 168 = .ok (.if_icmp .ge 32, 3) := by decide +kernel
theorem d132_171 : decode (mB 132) 171 = .ok (.aload_n 0, 1) := by decide +kernel
theorem d132_172 : decode (mB 132) 172 = .ok (.getfield 99, 3) := by decide +kernel
theorem d132_175 : decode (mB 132) 175 = .ok (.iload 11, 2) := by decide +kernel
theorem d132_177 : decode (mB 132) 177 = .ok (.iconst 1, 1) := by decide +kernel
theorem d132_178 : decode (mB 132) 178 = .ok (.iadd, 1) := by decide +kernel
theorem d132_179 : decode (mB 132) 179 = .ok (.iload 12, 2) := by decide +kernel
theorem d132_181 : decode (mB 132) 181 = .ok (.iadd, 1) := by decide +kernel
theorem d132_182 : decode (mB 132) 182 = .ok (.iload 13, 2) := by decide +kernel
theorem d132_184 : decode (mB 132) 184 = .ok (.iadd, 1) := by decide +kernel
theorem d132_185 : decode (mB 132) 185 = .ok (.iload 8, 2) := by decide +kernel
theorem d132_187 : decode (mB 132) 187 = .ok (.iload 9, 2) := by decide +kernel
theorem d132_189 : decode (mB 132) 189 = .ok (.iadd, 1) := by decide +kernel
theorem d132_190 : decode (mB 132) 190 = .ok (.iastore, 1) := by decide +kernel
theorem d132_191 : decode (mB 132) 191 = .ok (.iinc 9 1, 3) := by decide +kernel
theorem d132_194 : decode (mB 132) 194 = .ok (.iinc 13 1, 3) := by decide +kernel
theorem d132_197 : decode (mB 132) 197 = .ok (.goto (-38), 3) := by decide +kernel
theorem d132_200 : decode (mB 132) 200 = .ok (.iinc 10 1, 3) := by decide +kernel
theorem d132_203 : decode (mB 132) 203 = .ok (.goto (-177), 3) := by decide +kernel
theorem d132_206 : decode (mB 132) 206 = .ok (.return_, 1) := by decide +kernel
theorem v132_0 (L : Nat) (xs : Nat → Int32) : zVal L xs 132 0 (.inl (i_al 0 1)) := zS_aload_n d132_0 rfl
theorem v132_1 (L : Nat) (xs : Nat → Int32) : zVal L xs 132 1 (.inl (i_il 1 2)) := zS_iload_n d132_1 rfl
theorem v132_2 (L : Nat) (xs : Nat → Int32) : zVal L xs 132 2 (.inl (i_il 2 3)) := zS_iload_n d132_2 rfl
theorem v132_3 (L : Nat) (xs : Nat → Int32) : zVal L xs 132 3 (.inl (i_il 3 4)) := zS_iload_n d132_3 rfl
theorem v132_4 (L : Nat) (xs : Nat → Int32) : zVal L xs 132 4 (.inl (i_il 4 6)) := zS_iload d132_4
theorem v132_6 (L : Nat) (xs : Nat → Int32) : zVal L xs 132 6 (.inl (i_il 5 8)) := zS_iload d132_6
theorem v132_8 (L : Nat) (xs : Nat → Int32) : zVal L xs 132 8 (.inr (.inl (131, 6, 11))) := ⟨by decide +kernel, by decide +kernel, zc_virt d132_8 zcl10 w1063 w1060 w1062 w60 w85 ⟨by decide +kernel, by decide +kernel, by decide +kernel⟩ (by decide) (by decide)⟩
theorem v132_11 (L : Nat) (xs : Nat → Int32) : zVal L xs 132 11 (.inl (i_c (.int 100) 13)) := zS_bipush d132_11 (by decide)
theorem v132_13 (L : Nat) (xs : Nat → Int32) : zVal L xs 132 13 (.inl (i_il 1 14)) := zS_iload_n d132_13 rfl
theorem v132_14 (L : Nat) (xs : Nat → Int32) : zVal L xs 132 14 (.inl (i_c (.int 1) 15)) := zS_iconst d132_14 (by decide)
theorem v132_15 (L : Nat) (xs : Nat → Int32) : zVal L xs 132 15 (.inl (i_bi (fun x y => x + y) 16)) := zS_iadd d132_15
theorem v132_16 (L : Nat) (xs : Nat → Int32) : zVal L xs 132 16 (.inl (i_bi (fun x y => x * y) 17)) := zS_imul d132_16
theorem v132_17 (L : Nat) (xs : Nat → Int32) : zVal L xs 132 17 (.inl (i_is 8 19)) := zS_istore d132_17
theorem v132_19 (L : Nat) (xs : Nat → Int32) : zVal L xs 132 19 (.inl (i_il 4 21)) := zS_iload d132_19
theorem v132_21 (L : Nat) (xs : Nat → Int32) : zVal L xs 132 21 (.inl (i_is 9 23)) := zS_istore d132_21
theorem v132_23 (L : Nat) (xs : Nat → Int32) : zVal L xs 132 23 (.inl (i_c (.int 0) 24)) := zS_iconst d132_23 (by decide)
theorem v132_24 (L : Nat) (xs : Nat → Int32) : zVal L xs 132 24 (.inl (i_is 10 26)) := zS_istore d132_24
theorem v132_26 (L : Nat) (xs : Nat → Int32) : zVal L xs 132 26 (.inl (i_k [false, true, false, false, true, true, false, false, false, false, false, true, true, true] (i_il 10 28))) := zS_k (zS_iload d132_26)
theorem v132_28 (L : Nat) (xs : Nat → Int32) : zVal L xs 132 28 (.inl (i_al 0 29)) := zS_aload_n d132_28 rfl
theorem v132_29 (L : Nat) (xs : Nat → Int32) : zVal L xs 132 29 (.inl (i_gf 10 45 32)) := zS_getf d132_29 (zcl10) (by decide) zi10 w823
theorem v132_32 (L : Nat) (xs : Nat → Int32) : zVal L xs 132 32 (.inl (i_f2 (fun x y => decide (y ≤ x)) 206 35)) := zS_icmp_ge d132_32 (by decide)
theorem v132_35 (L : Nat) (xs : Nat → Int32) : zVal L xs 132 35 (.inl (i_c (.int 64) 37)) := zS_bipush d132_35 (by decide)
theorem v132_37 (L : Nat) (xs : Nat → Int32) : zVal L xs 132 37 (.inl (i_al 0 38)) := zS_aload_n d132_37 rfl
theorem v132_38 (L : Nat) (xs : Nat → Int32) : zVal L xs 132 38 (.inl (i_gf 10 42 41)) := zS_getf d132_38 (zcl10) (by decide) zi10 w820
theorem v132_41 (L : Nat) (xs : Nat → Int32) : zVal L xs 132 41 (.inl (i_bi (fun x y => x * y) 42)) := zS_imul d132_41
theorem v132_42 (L : Nat) (xs : Nat → Int32) : zVal L xs 132 42 (.inl (i_c (.int 16) 44)) := zS_bipush d132_42 (by decide)
theorem v132_44 (L : Nat) (xs : Nat → Int32) : zVal L xs 132 44 (.inl (i_al 0 45)) := zS_aload_n d132_44 rfl
theorem v132_45 (L : Nat) (xs : Nat → Int32) : zVal L xs 132 45 (.inl (i_gf 10 43 48)) := zS_getf d132_45 (zcl10) (by decide) zi10 w821
theorem v132_48 (L : Nat) (xs : Nat → Int32) : zVal L xs 132 48 (.inl (i_il 10 50)) := zS_iload d132_48
theorem v132_50 (L : Nat) (xs : Nat → Int32) : zVal L xs 132 50 (.inl (i_bi (fun x y => x + y) 51)) := zS_iadd d132_50
theorem v132_51 (L : Nat) (xs : Nat → Int32) : zVal L xs 132 51 (.inl (i_bi (fun x y => x * y) 52)) := zS_imul d132_51
theorem v132_52 (L : Nat) (xs : Nat → Int32) : zVal L xs 132 52 (.inl (i_bi (fun x y => x + y) 53)) := zS_iadd d132_52
theorem v132_53 (L : Nat) (xs : Nat → Int32) : zVal L xs 132 53 (.inl (i_al 0 54)) := zS_aload_n d132_53 rfl
theorem v132_54 (L : Nat) (xs : Nat → Int32) : zVal L xs 132 54 (.inl (i_gf 10 44 57)) := zS_getf d132_54 (zcl10) (by decide) zi10 w822
theorem v132_57 (L : Nat) (xs : Nat → Int32) : zVal L xs 132 57 (.inl (i_bi (fun x y => x + y) 58)) := zS_iadd d132_57
theorem v132_58 (L : Nat) (xs : Nat → Int32) : zVal L xs 132 58 (.inl (i_is 11 60)) := zS_istore d132_58
theorem v132_60 (L : Nat) (xs : Nat → Int32) : zVal L xs 132 60 (.inl (i_il 10 62)) := zS_iload d132_60
theorem v132_62 (L : Nat) (xs : Nat → Int32) : zVal L xs 132 62 (.inl (i_il 6 64)) := zS_iload d132_62
theorem v132_64 (L : Nat) (xs : Nat → Int32) : zVal L xs 132 64 (.inl (i_f2 (fun x y => decide (y ≤ x)) 72 67)) := zS_icmp_ge d132_64 (by decide)
theorem v132_67 (L : Nat) (xs : Nat → Int32) : zVal L xs 132 67 (.inl (i_il 7 69)) := zS_iload d132_67
theorem v132_69 (L : Nat) (xs : Nat → Int32) : zVal L xs 132 69 (.inl (i_go 73)) := zS_goto d132_69 (by decide)
theorem v132_72 (L : Nat) (xs : Nat → Int32) : zVal L xs 132 72 (.inl (i_c (.int 0) 73)) := zS_iconst d132_72 (by decide)
theorem v132_73 (L : Nat) (xs : Nat → Int32) : zVal L xs 132 73 (.inl (i_k [false, true, false, false, true, true, false, false, false, false, false, false, true, true] (i_is 12 75))) := zS_k (zS_istore d132_73)
theorem v132_75 (L : Nat) (xs : Nat → Int32) : zVal L xs 132 75 (.inl (i_c (.int 0) 76)) := zS_iconst d132_75 (by decide)
theorem v132_76 (L : Nat) (xs : Nat → Int32) : zVal L xs 132 76 (.inl (i_is 13 78)) := zS_istore d132_76
theorem v132_78 (L : Nat) (xs : Nat → Int32) : zVal L xs 132 78 (.inl (i_k [false, true, false, false, true, true, false, false, false, false, false, false, false, false] (i_il 13 80))) := zS_k (zS_iload d132_78)
theorem v132_80 (L : Nat) (xs : Nat → Int32) : zVal L xs 132 80 (.inl (i_il 3 81)) := zS_iload_n d132_80 rfl
theorem v132_81 (L : Nat) (xs : Nat → Int32) : zVal L xs 132 81 (.inl (i_f2 (fun x y => decide (y ≤ x)) 122 84)) := zS_icmp_ge d132_81 (by decide)
theorem v132_84 (L : Nat) (xs : Nat → Int32) : zVal L xs 132 84 (.inl (i_al 0 85)) := zS_aload_n d132_84 rfl
theorem v132_85 (L : Nat) (xs : Nat → Int32) : zVal L xs 132 85 (.inl (i_gf 10 37 88)) := zS_getf d132_85 (zcl10) (by decide) zi10 w815
theorem v132_88 (L : Nat) (xs : Nat → Int32) : zVal L xs 132 88 (.inl (i_il 11 90)) := zS_iload d132_88
theorem v132_90 (L : Nat) (xs : Nat → Int32) : zVal L xs 132 90 (.inl (i_il 13 92)) := zS_iload d132_90
theorem v132_92 (L : Nat) (xs : Nat → Int32) : zVal L xs 132 92 (.inl (i_bi (fun x y => x + y) 93)) := zS_iadd d132_92
theorem v132_93 (L : Nat) (xs : Nat → Int32) : zVal L xs 132 93 (.inl (i_il 13 95)) := zS_iload d132_93
theorem v132_95 (L : Nat) (xs : Nat → Int32) : zVal L xs 132 95 (.inl (i_f1 (fun x => decide (x ≤ 0)) 113 98)) := zS_if_le d132_95 (by decide)
theorem v132_98 (L : Nat) (xs : Nat → Int32) : zVal L xs 132 98 (.inl (i_il 13 100)) := zS_iload d132_98
theorem v132_100 (L : Nat) (xs : Nat → Int32) : zVal L xs 132 100 (.inl (i_il 12 102)) := zS_iload d132_100
theorem v132_102 (L : Nat) (xs : Nat → Int32) : zVal L xs 132 102 (.inl (i_f2 (fun x y => decide (y < x)) 113 105)) := zS_icmp_gt d132_102 (by decide)
theorem v132_105 (L : Nat) (xs : Nat → Int32) : zVal L xs 132 105 (.inl (i_il 8 107)) := zS_iload d132_105
theorem v132_107 (L : Nat) (xs : Nat → Int32) : zVal L xs 132 107 (.inl (i_c (.int 81) 109)) := zS_bipush d132_107 (by decide)
theorem v132_109 (L : Nat) (xs : Nat → Int32) : zVal L xs 132 109 (.inl (i_bi (fun x y => x + y) 110)) := zS_iadd d132_109
theorem v132_110 (L : Nat) (xs : Nat → Int32) : zVal L xs 132 110 (.inl (i_go 115)) := zS_goto d132_110 (by decide)
theorem v132_113 (L : Nat) (xs : Nat → Int32) : zVal L xs 132 113 (.inl (i_k [false, true, false, false, true, true, false, false, false, false, false, false, false, false] (i_c (.int 90) 115))) := zS_k (zS_bipush d132_113 (by decide))
theorem v132_115 (L : Nat) (xs : Nat → Int32) : zVal L xs 132 115 (.inl (i_k [false, true, false, false, true, true, false, false, false, false, false, false, false, false] (i_pa 0 (fun x => x) 116))) := zS_k (zS_iast d132_115)
theorem v132_116 (L : Nat) (xs : Nat → Int32) : zVal L xs 132 116 (.inl (i_in 13 1 119)) := zS_iinc d132_116 (by decide)
theorem v132_119 (L : Nat) (xs : Nat → Int32) : zVal L xs 132 119 (.inl (i_go 78)) := zS_goto d132_119 (by decide)
theorem v132_122 (L : Nat) (xs : Nat → Int32) : zVal L xs 132 122 (.inl (i_al 0 123)) := zS_aload_n d132_122 rfl
theorem v132_123 (L : Nat) (xs : Nat → Int32) : zVal L xs 132 123 (.inl (i_gf 10 37 126)) := zS_getf d132_123 (zcl10) (by decide) zi10 w815
theorem v132_126 (L : Nat) (xs : Nat → Int32) : zVal L xs 132 126 (.inl (i_il 11 128)) := zS_iload d132_126
theorem v132_128 (L : Nat) (xs : Nat → Int32) : zVal L xs 132 128 (.inl (i_il 2 129)) := zS_iload_n d132_128 rfl
theorem v132_129 (L : Nat) (xs : Nat → Int32) : zVal L xs 132 129 (.inl (i_f1 (fun x => decide (¬ x = 0)) 140 132)) := zS_if_ne d132_129 (by decide)
theorem v132_132 (L : Nat) (xs : Nat → Int32) : zVal L xs 132 132 (.inl (i_il 8 134)) := zS_iload d132_132
theorem v132_134 (L : Nat) (xs : Nat → Int32) : zVal L xs 132 134 (.inl (i_c (.int 80) 136)) := zS_bipush d132_134 (by decide)
theorem v132_136 (L : Nat) (xs : Nat → Int32) : zVal L xs 132 136 (.inl (i_bi (fun x y => x + y) 137)) := zS_iadd d132_136
theorem v132_137 (L : Nat) (xs : Nat → Int32) : zVal L xs 132 137 (.inl (i_go 155)) := zS_goto d132_137 (by decide)
theorem v132_140 (L : Nat) (xs : Nat → Int32) : zVal L xs 132 140 (.inl (i_il 10 142)) := zS_iload d132_140
theorem v132_142 (L : Nat) (xs : Nat → Int32) : zVal L xs 132 142 (.inl (i_f1 (fun x => decide (¬ x = 0)) 153 145)) := zS_if_ne d132_142 (by decide)
theorem v132_145 (L : Nat) (xs : Nat → Int32) : zVal L xs 132 145 (.inl (i_il 8 147)) := zS_iload d132_145
theorem v132_147 (L : Nat) (xs : Nat → Int32) : zVal L xs 132 147 (.inl (i_c (.int 83) 149)) := zS_bipush d132_147 (by decide)
theorem v132_149 (L : Nat) (xs : Nat → Int32) : zVal L xs 132 149 (.inl (i_bi (fun x y => x + y) 150)) := zS_iadd d132_149
theorem v132_150 (L : Nat) (xs : Nat → Int32) : zVal L xs 132 150 (.inl (i_go 155)) := zS_goto d132_150 (by decide)
theorem v132_153 (L : Nat) (xs : Nat → Int32) : zVal L xs 132 153 (.inl (i_c (.int 90) 155)) := zS_bipush d132_153 (by decide)
theorem v132_155 (L : Nat) (xs : Nat → Int32) : zVal L xs 132 155 (.inl (i_k [false, true, false, false, true, true, false, false, false, false, false, false, false, true] (i_pa 0 (fun x => x) 156))) := zS_k (zS_iast d132_155)
theorem v132_156 (L : Nat) (xs : Nat → Int32) : zVal L xs 132 156 (.inl (i_c (.int 0) 157)) := zS_iconst d132_156 (by decide)
theorem v132_157 (L : Nat) (xs : Nat → Int32) : zVal L xs 132 157 (.inl (i_is 13 159)) := zS_istore d132_157
theorem v132_159 (L : Nat) (xs : Nat → Int32) : zVal L xs 132 159 (.inl (i_k [false, true, false, false, true, true, false, false, false, false, false, false, false, false] (i_il 13 161))) := zS_k (zS_iload d132_159)
theorem v132_161 (L : Nat) (xs : Nat → Int32) : zVal L xs 132 161 (.inl (i_al 0 162)) := zS_aload_n d132_161 rfl
theorem v132_162 (L : Nat) (xs : Nat → Int32) : zVal L xs 132 162 (.inl (i_gf 10 39 165)) := zS_getf d132_162 (zcl10) (by decide) zi10 w817
theorem v132_165 (L : Nat) (xs : Nat → Int32) : zVal L xs 132 165 (.inl (i_il 10 167)) := zS_iload d132_165
theorem v132_167 (L : Nat) (xs : Nat → Int32) : zVal L xs 132 167 (.inl (i_ga 0 168)) := zS_iald d132_167
theorem v132_168 (L : Nat) (xs : Nat → Int32) : zVal L xs 132 168 (.inl (i_f2 (fun x y => decide (y ≤ x)) 200 171)) := zS_icmp_ge d132_168 (by decide)
theorem v132_171 (L : Nat) (xs : Nat → Int32) : zVal L xs 132 171 (.inl (i_al 0 172)) := zS_aload_n d132_171 rfl
theorem v132_172 (L : Nat) (xs : Nat → Int32) : zVal L xs 132 172 (.inl (i_gf 10 37 175)) := zS_getf d132_172 (zcl10) (by decide) zi10 w815
theorem v132_175 (L : Nat) (xs : Nat → Int32) : zVal L xs 132 175 (.inl (i_il 11 177)) := zS_iload d132_175
theorem v132_177 (L : Nat) (xs : Nat → Int32) : zVal L xs 132 177 (.inl (i_c (.int 1) 178)) := zS_iconst d132_177 (by decide)
theorem v132_178 (L : Nat) (xs : Nat → Int32) : zVal L xs 132 178 (.inl (i_bi (fun x y => x + y) 179)) := zS_iadd d132_178
theorem v132_179 (L : Nat) (xs : Nat → Int32) : zVal L xs 132 179 (.inl (i_il 12 181)) := zS_iload d132_179
theorem v132_181 (L : Nat) (xs : Nat → Int32) : zVal L xs 132 181 (.inl (i_bi (fun x y => x + y) 182)) := zS_iadd d132_181
theorem v132_182 (L : Nat) (xs : Nat → Int32) : zVal L xs 132 182 (.inl (i_il 13 184)) := zS_iload d132_182
theorem v132_184 (L : Nat) (xs : Nat → Int32) : zVal L xs 132 184 (.inl (i_bi (fun x y => x + y) 185)) := zS_iadd d132_184
theorem v132_185 (L : Nat) (xs : Nat → Int32) : zVal L xs 132 185 (.inl (i_il 8 187)) := zS_iload d132_185
theorem v132_187 (L : Nat) (xs : Nat → Int32) : zVal L xs 132 187 (.inl (i_il 9 189)) := zS_iload d132_187
theorem v132_189 (L : Nat) (xs : Nat → Int32) : zVal L xs 132 189 (.inl (i_bi (fun x y => x + y) 190)) := zS_iadd d132_189
theorem v132_190 (L : Nat) (xs : Nat → Int32) : zVal L xs 132 190 (.inl (i_pa 0 (fun x => x) 191)) := zS_iast d132_190
theorem v132_191 (L : Nat) (xs : Nat → Int32) : zVal L xs 132 191 (.inl (i_in 9 1 194)) := zS_iinc d132_191 (by decide)
theorem v132_194 (L : Nat) (xs : Nat → Int32) : zVal L xs 132 194 (.inl (i_in 13 1 197)) := zS_iinc d132_194 (by decide)
theorem v132_197 (L : Nat) (xs : Nat → Int32) : zVal L xs 132 197 (.inl (i_go 159)) := zS_goto d132_197 (by decide)
theorem v132_200 (L : Nat) (xs : Nat → Int32) : zVal L xs 132 200 (.inl (i_in 10 1 203)) := zS_iinc d132_200 (by decide)
theorem v132_203 (L : Nat) (xs : Nat → Int32) : zVal L xs 132 203 (.inl (i_go 26)) := zS_goto d132_203 (by decide)
theorem v132_206 (L : Nat) (xs : Nat → Int32) : zVal L xs 132 206 (.inr (.inr 0)) := zr_0 d132_206 rfl
theorem vt132 (L : Nat) (xs : Nat → Int32) : zAll (fun x => zVal L xs 132 x.1 x.2) (tb132) := ⟨v132_0 L xs, v132_1 L xs, v132_2 L xs, v132_3 L xs, v132_4 L xs, v132_6 L xs, v132_8 L xs, v132_11 L xs, v132_13 L xs, v132_14 L xs, v132_15 L xs, v132_16 L xs, v132_17 L xs, v132_19 L xs, v132_21 L xs, v132_23 L xs, v132_24 L xs, v132_26 L xs, v132_28 L xs, v132_29 L xs, v132_32 L xs, v132_35 L xs, v132_37 L xs, v132_38 L xs, v132_41 L xs, v132_42 L xs, v132_44 L xs, v132_45 L xs, v132_48 L xs, v132_50 L xs, v132_51 L xs, v132_52 L xs, v132_53 L xs, v132_54 L xs, v132_57 L xs, v132_58 L xs, v132_60 L xs, v132_62 L xs, v132_64 L xs, v132_67 L xs, v132_69 L xs, v132_72 L xs, v132_73 L xs, v132_75 L xs, v132_76 L xs, v132_78 L xs, v132_80 L xs, v132_81 L xs, v132_84 L xs, v132_85 L xs, v132_88 L xs, v132_90 L xs, v132_92 L xs, v132_93 L xs, v132_95 L xs, v132_98 L xs, v132_100 L xs, v132_102 L xs, v132_105 L xs, v132_107 L xs, v132_109 L xs, v132_110 L xs, v132_113 L xs, v132_115 L xs, v132_116 L xs, v132_119 L xs, v132_122 L xs, v132_123 L xs, v132_126 L xs, v132_128 L xs, v132_129 L xs, v132_132 L xs, v132_134 L xs, v132_136 L xs, v132_137 L xs, v132_140 L xs, v132_142 L xs, v132_145 L xs, v132_147 L xs, v132_149 L xs, v132_150 L xs, v132_153 L xs, v132_155 L xs, v132_156 L xs, v132_157 L xs, v132_159 L xs, v132_161 L xs, v132_162 L xs, v132_165 L xs, v132_167 L xs, v132_168 L xs, v132_171 L xs, v132_172 L xs, v132_175 L xs, v132_177 L xs, v132_178 L xs, v132_179 L xs, v132_181 L xs, v132_182 L xs, v132_184 L xs, v132_185 L xs, v132_187 L xs, v132_189 L xs, v132_190 L xs, v132_191 L xs, v132_194 L xs, v132_197 L xs, v132_200 L xs, v132_203 L xs, v132_206 L xs, trivial⟩
theorem d133_0 : decode (mB 133) 0 = .ok (.iconst 0, 1) := by decide +kernel
theorem d133_1 : decode (mB 133) 1 = .ok (.istore 5, 2) := by decide +kernel
theorem d133_3 : decode (mB 133) 3 = .ok (.iload_n 3, 1) := by decide +kernel
theorem d133_4 : decode (mB 133) 4 = .ok (.iload 5, 2) := by decide +kernel
theorem d133_6 : decode (mB 133) 6 = .ok (.iadd, 1) := by decide +kernel
theorem d133_7 : decode (mB 133) 7 = .ok (.aload_n 0, 1) := by decide +kernel
theorem d133_8 : decode (mB 133) 8 = .ok (.getfield 117, 3) := by decide +kernel
theorem d133_11 : decode (mB 133) 11 = .ok (.if_icmp .ge 25, 3) := by decide +kernel
theorem d133_14 : decode (mB 133) 14 = .ok (.aload_n 0, 1) := by decide +kernel
theorem d133_15 : decode (mB 133) 15 = .ok (.iload_n 1, 1) := by decide +kernel
theorem d133_16 : decode (mB 133) 16 = .ok (.iload_n 2, 1) := by decide +kernel
theorem d133_17 : decode (mB 133) 17 = .ok (.iload_n 3, 1) := by decide +kernel
theorem d133_18 : decode (mB 133) 18 = .ok (.iload 5, 2) := by decide +kernel
theorem d133_20 : decode (mB 133) 20 = .ok (.iadd, 1) := by decide +kernel
theorem d133_21 : decode (mB 133) 21 = .ok (.iload 4, 2) := by decide +kernel
theorem d133_23 : decode (mB 133) 23 = .ok (.iconst 1, 1) := by decide +kernel
theorem d133_24 : decode (mB 133) 24 = .ok (.invokevirtual 218, 3) := by decide +kernel
theorem d133_27 : decode (mB 133) 27 = .ok (.ifCond .eq 9, 3) := by decide +kernel
theorem d133_30 : decode (mB 133) 30 = .ok (.iinc 5 1, 3) := by decide +kernel
theorem d133_33 : decode (mB 133) 33 = .ok (.goto (-30), 3) := by decide +kernel
theorem d133_36 : decode (mB 133) 36 = .ok (.iload 5, 2) := by decide +kernel
theorem d133_38 : decode (mB 133) 38 = .ok (.ireturn, 1) := by decide +kernel
theorem v133_0 (L : Nat) (xs : Nat → Int32) : zVal L xs 133 0 (.inl (i_c (.int 0) 1)) := zS_iconst d133_0 (by decide)
theorem v133_1 (L : Nat) (xs : Nat → Int32) : zVal L xs 133 1 (.inl (i_is 5 3)) := zS_istore d133_1
theorem v133_3 (L : Nat) (xs : Nat → Int32) : zVal L xs 133 3 (.inl (i_k [false, false, false, false, false, false] (i_il 3 4))) := zS_k (zS_iload_n d133_3 rfl)
theorem v133_4 (L : Nat) (xs : Nat → Int32) : zVal L xs 133 4 (.inl (i_il 5 6)) := zS_iload d133_4
theorem v133_6 (L : Nat) (xs : Nat → Int32) : zVal L xs 133 6 (.inl (i_bi (fun x y => x + y) 7)) := zS_iadd d133_6
theorem v133_7 (L : Nat) (xs : Nat → Int32) : zVal L xs 133 7 (.inl (i_al 0 8)) := zS_aload_n d133_7 rfl
theorem v133_8 (L : Nat) (xs : Nat → Int32) : zVal L xs 133 8 (.inl (i_gf 10 1 11)) := zS_getf d133_8 (zcl10) (by decide) zi10 w779
theorem v133_11 (L : Nat) (xs : Nat → Int32) : zVal L xs 133 11 (.inl (i_f2 (fun x y => decide (y ≤ x)) 36 14)) := zS_icmp_ge d133_11 (by decide)
theorem v133_14 (L : Nat) (xs : Nat → Int32) : zVal L xs 133 14 (.inl (i_al 0 15)) := zS_aload_n d133_14 rfl
theorem v133_15 (L : Nat) (xs : Nat → Int32) : zVal L xs 133 15 (.inl (i_il 1 16)) := zS_iload_n d133_15 rfl
theorem v133_16 (L : Nat) (xs : Nat → Int32) : zVal L xs 133 16 (.inl (i_il 2 17)) := zS_iload_n d133_16 rfl
theorem v133_17 (L : Nat) (xs : Nat → Int32) : zVal L xs 133 17 (.inl (i_il 3 18)) := zS_iload_n d133_17 rfl
theorem v133_18 (L : Nat) (xs : Nat → Int32) : zVal L xs 133 18 (.inl (i_il 5 20)) := zS_iload d133_18
theorem v133_20 (L : Nat) (xs : Nat → Int32) : zVal L xs 133 20 (.inl (i_bi (fun x y => x + y) 21)) := zS_iadd d133_20
theorem v133_21 (L : Nat) (xs : Nat → Int32) : zVal L xs 133 21 (.inl (i_il 4 23)) := zS_iload d133_21
theorem v133_23 (L : Nat) (xs : Nat → Int32) : zVal L xs 133 23 (.inl (i_c (.int 1) 24)) := zS_iconst d133_23 (by decide)
theorem v133_24 (L : Nat) (xs : Nat → Int32) : zVal L xs 133 24 (.inr (.inl (128, 6, 11))) := ⟨by decide +kernel, by decide +kernel, zc_virt d133_24 zcl10 w1055 w1052 w1054 w58 w85 ⟨by decide +kernel, by decide +kernel, by decide +kernel⟩ (by decide) (by decide)⟩
theorem v133_27 (L : Nat) (xs : Nat → Int32) : zVal L xs 133 27 (.inl (i_f1 (fun x => decide (x = 0)) 36 30)) := zS_if_eq d133_27 (by decide)
theorem v133_30 (L : Nat) (xs : Nat → Int32) : zVal L xs 133 30 (.inl (i_in 5 1 33)) := zS_iinc d133_30 (by decide)
theorem v133_33 (L : Nat) (xs : Nat → Int32) : zVal L xs 133 33 (.inl (i_go 3)) := zS_goto d133_33 (by decide)
theorem v133_36 (L : Nat) (xs : Nat → Int32) : zVal L xs 133 36 (.inl (i_k [true, true, true, true, true, false] (i_il 5 38))) := zS_k (zS_iload d133_36)
theorem v133_38 (L : Nat) (xs : Nat → Int32) : zVal L xs 133 38 (.inr (.inr 1)) := zr_1 d133_38 rfl
theorem vt133 (L : Nat) (xs : Nat → Int32) : zAll (fun x => zVal L xs 133 x.1 x.2) (tb133) := ⟨v133_0 L xs, v133_1 L xs, v133_3 L xs, v133_4 L xs, v133_6 L xs, v133_7 L xs, v133_8 L xs, v133_11 L xs, v133_14 L xs, v133_15 L xs, v133_16 L xs, v133_17 L xs, v133_18 L xs, v133_20 L xs, v133_21 L xs, v133_23 L xs, v133_24 L xs, v133_27 L xs, v133_30 L xs, v133_33 L xs, v133_36 L xs, v133_38 L xs, trivial⟩
theorem d134_0 : decode (mB 134) 0 = .ok (.aload_n 0, 1) := by decide +kernel
theorem d134_1 : decode (mB 134) 1 = .ok (.iload_n 2, 1) := by decide +kernel
theorem d134_2 : decode (mB 134) 2 = .ok (.iload_n 3, 1) := by decide +kernel
theorem d134_3 : decode (mB 134) 3 = .ok (.iconst 1, 1) := by decide +kernel
theorem d134_4 : decode (mB 134) 4 = .ok (.isub, 1) := by decide +kernel
theorem d134_5 : decode (mB 134) 5 = .ok (.aload_n 0, 1) := by decide +kernel
theorem d134_6 : decode (mB 134) 6 = .ok (.getfield 37, 3) := by decide +kernel
theorem d134_9 : decode (mB 134) 9 = .ok (.iload_n 1, 1) := by decide +kernel
theorem d134_10 : decode (mB 134) 10 = .ok (.iaload, 1) := by decide +kernel
theorem d134_11 : decode (mB 134) 11 = .ok (.aload_n 0, 1) := by decide +kernel
theorem d134_12 : decode (mB 134) 12 = .ok (.getfield 40, 3) := by decide +kernel
theorem d134_15 : decode (mB 134) 15 = .ok (.iload_n 1, 1) := by decide +kernel
theorem d134_16 : decode (mB 134) 16 = .ok (.iaload, 1) := by decide +kernel
theorem d134_17 : decode (mB 134) 17 = .ok (.iconst 1, 1) := by decide +kernel
theorem d134_18 : decode (mB 134) 18 = .ok (.invokevirtual 234, 3) := by decide +kernel
theorem d134_21 : decode (mB 134) 21 = .ok (.istore 4, 2) := by decide +kernel
theorem d134_23 : decode (mB 134) 23 = .ok (.aload_n 0, 1) := by decide +kernel
theorem d134_24 : decode (mB 134) 24 = .ok (.getfield 65, 3) := by decide +kernel
theorem d134_27 : decode (mB 134) 27 = .ok (.iload_n 1, 1) := by decide +kernel
theorem d134_28 : decode (mB 134) 28 = .ok (.iaload, 1) := by decide +kernel
theorem d134_29 : decode (mB 134) 29 = .ok (.iconst 2, 1) := by decide +kernel
theorem d134_30 : decode (mB 134) 30 = .ok (.isub, 1) := by decide +kernel
theorem d134_31 : decode (mB 134) 31 = .ok (.istore 5, 2) := by decide +kernel
theorem d134_33 : decode (mB 134) 33 = .ok (.iload 5, 2) := by decide +kernel
theorem d134_35 : decode (mB 134) 35 = .ok (.iconst 2, 1) := by decide +kernel
theorem d134_36 : decode (mB 134) 36 = .ok (.if_icmp .lt 39, 3) := by decide +kernel
theorem d134_39 : decode (mB 134) 39 = .ok (.iload 4, 2) := by decide +kernel
theorem d134_41 : decode (mB 134) 41 = .ok (.ifCond .eq 34, 3) := by decide +kernel
theorem d134_44 : decode (mB 134) 44 = .ok (.aload_n 0, 1) := by decide +kernel
theorem d134_45 : decode (mB 134) 45 = .ok (.iload_n 1, 1) := by decide +kernel
theorem d134_46 : decode (mB 134) 46 = .ok (.iload 5, 2) := by decide +kernel
theorem d134_48 : decode (mB 134) 48 = .ok (.invokevirtual 215, 3) := by decide +kernel
theorem d134_51 : decode (mB 134) 51 = .ok (.ifCond .ne 18, 3) := by decide +kernel
theorem d134_54 : decode (mB 134) 54 = .ok (.aload_n 0, 1) := by decide +kernel
theorem d134_55 : decode (mB 134) 55 = .ok (.iload_n 1, 1) := by decide +kernel
theorem d134_56 : decode (mB 134) 56 = .ok (.iconst 0, 1) := by decide +kernel
theorem d134_57 : decode (mB 134) 57 = .ok (.iload 5, 2) := by decide +kernel
theorem d134_59 : decode (mB 134) 59 = .ok (.iload_n 2, 1) := by decide +kernel
theorem d134_60 : decode (mB 134) 60 = .ok (.invokevirtual 237, 3) := by decide +kernel
theorem d134_63 : decode (mB 134) 63 = .ok (.ifCond .eq 6, 3) := by decide +kernel
theorem d134_66 : decode (mB 134) 66 = .ok (.iload 5, 2) := by decide +kernel
theorem d134_68 : decode (mB 134) 68 = .ok (.ireturn, 1) := by decide +kernel
theorem d134_69 : decode (mB 134) 69 = .ok (.iinc 5 (-1), 3) := by decide +kernel
theorem d134_72 : decode (mB 134) 72 = .ok (.goto (-39), 3) := by decide +kernel
theorem d134_75 : decode (mB 134) 75 = .ok (.iconst 0, 1) := by decide +kernel
theorem d134_76 : decode (mB 134) 76 = .ok (.ireturn, 1) := by decide +kernel
theorem v134_0 (L : Nat) (xs : Nat → Int32) : zVal L xs 134 0 (.inl (i_al 0 1)) := zS_aload_n d134_0 rfl
theorem v134_1 (L : Nat) (xs : Nat → Int32) : zVal L xs 134 1 (.inl (i_il 2 2)) := zS_iload_n d134_1 rfl
theorem v134_2 (L : Nat) (xs : Nat → Int32) : zVal L xs 134 2 (.inl (i_il 3 3)) := zS_iload_n d134_2 rfl
theorem v134_3 (L : Nat) (xs : Nat → Int32) : zVal L xs 134 3 (.inl (i_c (.int 1) 4)) := zS_iconst d134_3 (by decide)
theorem v134_4 (L : Nat) (xs : Nat → Int32) : zVal L xs 134 4 (.inl (i_bi (fun x y => x - y) 5)) := zS_isub d134_4
theorem v134_5 (L : Nat) (xs : Nat → Int32) : zVal L xs 134 5 (.inl (i_al 0 6)) := zS_aload_n d134_5 rfl
theorem v134_6 (L : Nat) (xs : Nat → Int32) : zVal L xs 134 6 (.inl (i_gf 10 15 9)) := zS_getf d134_6 (zcl10) (by decide) zi10 w793
theorem v134_9 (L : Nat) (xs : Nat → Int32) : zVal L xs 134 9 (.inl (i_il 1 10)) := zS_iload_n d134_9 rfl
theorem v134_10 (L : Nat) (xs : Nat → Int32) : zVal L xs 134 10 (.inl (i_ga 0 11)) := zS_iald d134_10
theorem v134_11 (L : Nat) (xs : Nat → Int32) : zVal L xs 134 11 (.inl (i_al 0 12)) := zS_aload_n d134_11 rfl
theorem v134_12 (L : Nat) (xs : Nat → Int32) : zVal L xs 134 12 (.inl (i_gf 10 16 15)) := zS_getf d134_12 (zcl10) (by decide) zi10 w794
theorem v134_15 (L : Nat) (xs : Nat → Int32) : zVal L xs 134 15 (.inl (i_il 1 16)) := zS_iload_n d134_15 rfl
theorem v134_16 (L : Nat) (xs : Nat → Int32) : zVal L xs 134 16 (.inl (i_ga 0 17)) := zS_iald d134_16
theorem v134_17 (L : Nat) (xs : Nat → Int32) : zVal L xs 134 17 (.inl (i_c (.int 1) 18)) := zS_iconst d134_17 (by decide)
theorem v134_18 (L : Nat) (xs : Nat → Int32) : zVal L xs 134 18 (.inr (.inl (126, 6, 11))) := ⟨by decide +kernel, by decide +kernel, zc_virt d134_18 zcl10 w1039 w1036 w1038 w54 w85 ⟨by decide +kernel, by decide +kernel, by decide +kernel⟩ (by decide) (by decide)⟩
theorem v134_21 (L : Nat) (xs : Nat → Int32) : zVal L xs 134 21 (.inl (i_is 4 23)) := zS_istore d134_21
theorem v134_23 (L : Nat) (xs : Nat → Int32) : zVal L xs 134 23 (.inl (i_al 0 24)) := zS_aload_n d134_23 rfl
theorem v134_24 (L : Nat) (xs : Nat → Int32) : zVal L xs 134 24 (.inl (i_gf 10 26 27)) := zS_getf d134_24 (zcl10) (by decide) zi10 w804
theorem v134_27 (L : Nat) (xs : Nat → Int32) : zVal L xs 134 27 (.inl (i_il 1 28)) := zS_iload_n d134_27 rfl
theorem v134_28 (L : Nat) (xs : Nat → Int32) : zVal L xs 134 28 (.inl (i_ga 0 29)) := zS_iald d134_28
theorem v134_29 (L : Nat) (xs : Nat → Int32) : zVal L xs 134 29 (.inl (i_c (.int 2) 30)) := zS_iconst d134_29 (by decide)
theorem v134_30 (L : Nat) (xs : Nat → Int32) : zVal L xs 134 30 (.inl (i_bi (fun x y => x - y) 31)) := zS_isub d134_30
theorem v134_31 (L : Nat) (xs : Nat → Int32) : zVal L xs 134 31 (.inl (i_is 5 33)) := zS_istore d134_31
theorem v134_33 (L : Nat) (xs : Nat → Int32) : zVal L xs 134 33 (.inl (i_k [false, false, false, true, false, false] (i_il 5 35))) := zS_k (zS_iload d134_33)
theorem v134_35 (L : Nat) (xs : Nat → Int32) : zVal L xs 134 35 (.inl (i_c (.int 2) 36)) := zS_iconst d134_35 (by decide)
theorem v134_36 (L : Nat) (xs : Nat → Int32) : zVal L xs 134 36 (.inl (i_f2 (fun x y => decide (x < y)) 75 39)) := zS_icmp_lt d134_36 (by decide)
theorem v134_39 (L : Nat) (xs : Nat → Int32) : zVal L xs 134 39 (.inl (i_il 4 41)) := zS_iload d134_39
theorem v134_41 (L : Nat) (xs : Nat → Int32) : zVal L xs 134 41 (.inl (i_f1 (fun x => decide (x = 0)) 75 44)) := zS_if_eq d134_41 (by decide)
theorem v134_44 (L : Nat) (xs : Nat → Int32) : zVal L xs 134 44 (.inl (i_al 0 45)) := zS_aload_n d134_44 rfl
theorem v134_45 (L : Nat) (xs : Nat → Int32) : zVal L xs 134 45 (.inl (i_il 1 46)) := zS_iload_n d134_45 rfl
theorem v134_46 (L : Nat) (xs : Nat → Int32) : zVal L xs 134 46 (.inl (i_il 5 48)) := zS_iload d134_46
theorem v134_48 (L : Nat) (xs : Nat → Int32) : zVal L xs 134 48 (.inr (.inl (125, 3, 11))) := ⟨by decide +kernel, by decide +kernel, zc_virt d134_48 zcl10 w1047 w1044 w1046 w56 w85 ⟨by decide +kernel, by decide +kernel, by decide +kernel⟩ (by decide) (by decide)⟩
theorem v134_51 (L : Nat) (xs : Nat → Int32) : zVal L xs 134 51 (.inl (i_f1 (fun x => decide (¬ x = 0)) 69 54)) := zS_if_ne d134_51 (by decide)
theorem v134_54 (L : Nat) (xs : Nat → Int32) : zVal L xs 134 54 (.inl (i_al 0 55)) := zS_aload_n d134_54 rfl
theorem v134_55 (L : Nat) (xs : Nat → Int32) : zVal L xs 134 55 (.inl (i_il 1 56)) := zS_iload_n d134_55 rfl
theorem v134_56 (L : Nat) (xs : Nat → Int32) : zVal L xs 134 56 (.inl (i_c (.int 0) 57)) := zS_iconst d134_56 (by decide)
theorem v134_57 (L : Nat) (xs : Nat → Int32) : zVal L xs 134 57 (.inl (i_il 5 59)) := zS_iload d134_57
theorem v134_59 (L : Nat) (xs : Nat → Int32) : zVal L xs 134 59 (.inl (i_il 2 60)) := zS_iload_n d134_59 rfl
theorem v134_60 (L : Nat) (xs : Nat → Int32) : zVal L xs 134 60 (.inr (.inl (127, 5, 11))) := ⟨by decide +kernel, by decide +kernel, zc_virt d134_60 zcl10 w1043 w1040 w1042 w55 w85 ⟨by decide +kernel, by decide +kernel, by decide +kernel⟩ (by decide) (by decide)⟩
theorem v134_63 (L : Nat) (xs : Nat → Int32) : zVal L xs 134 63 (.inl (i_f1 (fun x => decide (x = 0)) 69 66)) := zS_if_eq d134_63 (by decide)
theorem v134_66 (L : Nat) (xs : Nat → Int32) : zVal L xs 134 66 (.inl (i_il 5 68)) := zS_iload d134_66
theorem v134_68 (L : Nat) (xs : Nat → Int32) : zVal L xs 134 68 (.inr (.inr 1)) := zr_1 d134_68 rfl
theorem v134_69 (L : Nat) (xs : Nat → Int32) : zVal L xs 134 69 (.inl (i_k [false, false, false, true, false, false] (i_in 5 (-1) 72))) := zS_k (zS_iinc d134_69 (by decide))
theorem v134_72 (L : Nat) (xs : Nat → Int32) : zVal L xs 134 72 (.inl (i_go 33)) := zS_goto d134_72 (by decide)
theorem v134_75 (L : Nat) (xs : Nat → Int32) : zVal L xs 134 75 (.inl (i_k [true, true, true, true, true, true] (i_c (.int 0) 76))) := zS_k (zS_iconst d134_75 (by decide))
theorem v134_76 (L : Nat) (xs : Nat → Int32) : zVal L xs 134 76 (.inr (.inr 1)) := zr_1 d134_76 rfl
theorem vt134 (L : Nat) (xs : Nat → Int32) : zAll (fun x => zVal L xs 134 x.1 x.2) (tb134) := ⟨v134_0 L xs, v134_1 L xs, v134_2 L xs, v134_3 L xs, v134_4 L xs, v134_5 L xs, v134_6 L xs, v134_9 L xs, v134_10 L xs, v134_11 L xs, v134_12 L xs, v134_15 L xs, v134_16 L xs, v134_17 L xs, v134_18 L xs, v134_21 L xs, v134_23 L xs, v134_24 L xs, v134_27 L xs, v134_28 L xs, v134_29 L xs, v134_30 L xs, v134_31 L xs, v134_33 L xs, v134_35 L xs, v134_36 L xs, v134_39 L xs, v134_41 L xs, v134_44 L xs, v134_45 L xs, v134_46 L xs, v134_48 L xs, v134_51 L xs, v134_54 L xs, v134_55 L xs, v134_56 L xs, v134_57 L xs, v134_59 L xs, v134_60 L xs, v134_63 L xs, v134_66 L xs, v134_68 L xs, v134_69 L xs, v134_72 L xs, v134_75 L xs, v134_76 L xs, trivial⟩
theorem d135_0 : decode (mB 135) 0 = .ok (.aload_n 0, 1) := by decide +kernel
theorem d135_1 : decode (mB 135) 1 = .ok (.iload_n 2, 1) := by decide +kernel
theorem d135_2 : decode (mB 135) 2 = .ok (.iload_n 3, 1) := by decide +kernel
theorem d135_3 : decode (mB 135) 3 = .ok (.iload 4, 2) := by decide +kernel
theorem d135_5 : decode (mB 135) 5 = .ok (.iload 5, 2) := by decide +kernel
theorem d135_7 : decode (mB 135) 7 = .ok (.invokevirtual 248, 3) := by decide +kernel
theorem d135_10 : decode (mB 135) 10 = .ok (.istore 6, 2) := by decide +kernel
theorem d135_12 : decode (mB 135) 12 = .ok (.iload_n 3, 1) := by decide +kernel
theorem d135_13 : decode (mB 135) 13 = .ok (.iload 5, 2) := by decide +kernel
theorem d135_15 : decode (mB 135) 15 = .ok (.iadd, 1) := by decide +kernel
theorem d135_16 : decode (mB 135) 16 = .ok (.aload_n 0, 1) := by decide +kernel
theorem d135_17 : decode (mB 135) 17 = .ok (.getfield 114, 3) := by decide +kernel
theorem d135_20 : decode (mB 135) 20 = .ok (.if_icmp .gt 21, 3) := by decide +kernel
theorem d135_23 : decode (mB 135) 23 = .ok (.iload 6, 2) := by decide +kernel
theorem d135_25 : decode (mB 135) 25 = .ok (.iconst 2, 1) := by decide +kernel
theorem d135_26 : decode (mB 135) 26 = .ok (.if_icmp .lt 15, 3) := by decide +kernel
theorem d135_29 : decode (mB 135) 29 = .ok (.aload_n 0, 1) := by decide +kernel
theorem d135_30 : decode (mB 135) 30 = .ok (.iload_n 1, 1) := by decide +kernel
theorem d135_31 : decode (mB 135) 31 = .ok (.iload 5, 2) := by decide +kernel
theorem d135_33 : decode (mB 135) 33 = .ok (.iload 6, 2) := by decide +kernel
theorem d135_35 : decode (mB 135) 35 = .ok (.invokevirtual 252, 3) := by decide +kernel
theorem d135_38 : decode (mB 135) 38 = .ok (.goto 4, 3) := by decide +kernel
theorem d135_41 : decode (mB 135) 41 = .ok (.iconst 0, 1) := by decide +kernel
theorem d135_42 : decode (mB 135) 42 = .ok (.istore 7, 2) := by decide +kernel
theorem d135_44 : decode (mB 135) 44 = .ok (.iload 7, 2) := by decide +kernel
theorem d135_46 : decode (mB 135) 46 = .ok (.ifCond .eq 24, 3) := by decide +kernel
theorem d135_49 : decode (mB 135) 49 = .ok (.aload_n 0, 1) := by decide +kernel
theorem d135_50 : decode (mB 135) 50 = .ok (.iload_n 1, 1) := by decide +kernel
theorem d135_51 : decode (mB 135) 51 = .ok (.iload 7, 2) := by decide +kernel
theorem d135_53 : decode (mB 135) 53 = .ok (.aload_n 0, 1) := by decide +kernel
theorem d135_54 : decode (mB 135) 54 = .ok (.getfield 65, 3) := by decide +kernel
theorem d135_57 : decode (mB 135) 57 = .ok (.iload_n 1, 1) := by decide +kernel
theorem d135_58 : decode (mB 135) 58 = .ok (.iaload, 1) := by decide +kernel
theorem d135_59 : decode (mB 135) 59 = .ok (.iconst 0, 1) := by decide +kernel
theorem d135_60 : decode (mB 135) 60 = .ok (.iconst 0, 1) := by decide +kernel
theorem d135_61 : decode (mB 135) 61 = .ok (.iload_n 2, 1) := by decide +kernel
theorem d135_62 : decode (mB 135) 62 = .ok (.iconst 1, 1) := by decide +kernel
theorem d135_63 : decode (mB 135) 63 = .ok (.iadd, 1) := by decide +kernel
theorem d135_64 : decode (mB 135) 64 = .ok (.invokevirtual 255, 3) := by decide +kernel
theorem d135_67 : decode (mB 135) 67 = .ok (.ifCond .ne 5, 3) := by decide +kernel
theorem d135_70 : decode (mB 135) 70 = .ok (.iconst 0, 1) := by decide +kernel
theorem d135_71 : decode (mB 135) 71 = .ok (.ireturn, 1) := by decide +kernel
theorem d135_72 : decode (mB 135) 72 = .ok (.aload_n 0, 1) := by decide +kernel
theorem d135_73 : decode (mB 135) 73 = .ok (.getfield 222, 3) := by decide +kernel
theorem d135_76 : decode (mB 135) 76 = .ok (.istore 8, 2) := by decide +kernel
theorem d135_78 : decode (mB 135) 78 = .ok (.aload_n 0, 1) := by decide +kernel
theorem d135_79 : decode (mB 135) 79 = .ok (.aload_n 0, 1) := by decide +kernel
theorem d135_80 : decode (mB 135) 80 = .ok (.getfield 231, 3) := by decide +kernel
theorem d135_83 : decode (mB 135) 83 = .ok (.aload_n 0, 1) := by decide +kernel
theorem d135_84 : decode (mB 135) 84 = .ok (.getfield 111, 3) := by decide +kernel
theorem d135_87 : decode (mB 135) 87 = .ok (.aload_n 0, 1) := by decide +kernel
theorem d135_88 : decode (mB 135) 88 = .ok (.getfield 231, 3) := by decide +kernel
theorem d135_91 : decode (mB 135) 91 = .ok (.iaload, 1) := by decide +kernel
theorem d135_92 : decode (mB 135) 92 = .ok (.iconst 1, 1) := by decide +kernel
theorem d135_93 : decode (mB 135) 93 = .ok (.isub, 1) := by decide +kernel
theorem d135_94 : decode (mB 135) 94 = .ok (.iconst 0, 1) := by decide +kernel
theorem d135_95 : decode (mB 135) 95 = .ok (.iconst 0, 1) := by decide +kernel
theorem d135_96 : decode (mB 135) 96 = .ok (.iconst 0, 1) := by decide +kernel
theorem d135_97 : decode (mB 135) 97 = .ok (.invokevirtual 234, 3) := by decide +kernel
theorem d135_100 : decode (mB 135) 100 = .ok (.ifCond .eq 27, 3) := by decide +kernel
theorem d135_103 : decode (mB 135) 103 = .ok (.aload_n 0, 1) := by decide +kernel
theorem d135_104 : decode (mB 135) 104 = .ok (.iload_n 1, 1) := by decide +kernel
theorem d135_105 : decode (mB 135) 105 = .ok (.iload 7, 2) := by decide +kernel
theorem d135_107 : decode (mB 135) 107 = .ok (.aload_n 0, 1) := by decide +kernel
theorem d135_108 : decode (mB 135) 108 = .ok (.getfield 65, 3) := by decide +kernel
theorem d135_111 : decode (mB 135) 111 = .ok (.iload_n 1, 1) := by decide +kernel
theorem d135_112 : decode (mB 135) 112 = .ok (.iaload, 1) := by decide +kernel
theorem d135_113 : decode (mB 135) 113 = .ok (.aload_n 0, 1) := by decide +kernel
theorem d135_114 : decode (mB 135) 114 = .ok (.getfield 231, 3) := by decide +kernel
theorem d135_117 : decode (mB 135) 117 = .ok (.invokevirtual 237, 3) := by decide +kernel
theorem d135_120 : decode (mB 135) 120 = .ok (.ifCond .eq 7, 3) := by decide +kernel
theorem d135_123 : decode (mB 135) 123 = .ok (.iconst 1, 1) := by decide +kernel
theorem d135_124 : decode (mB 135) 124 = .ok (.goto 4, 3) := by decide +kernel
theorem d135_127 : decode (mB 135) 127 = .ok (.iconst 0, 1) := by decide +kernel
theorem d135_128 : decode (mB 135) 128 = .ok (.istore 9, 2) := by decide +kernel
theorem d135_130 : decode (mB 135) 130 = .ok (.aload_n 0, 1) := by decide +kernel
theorem d135_131 : decode (mB 135) 131 = .ok (.iload_n 1, 1) := by decide +kernel
theorem d135_132 : decode (mB 135) 132 = .ok (.iconst 1, 1) := by decide +kernel
theorem d135_133 : decode (mB 135) 133 = .ok (.aload_n 0, 1) := by decide +kernel
theorem d135_134 : decode (mB 135) 134 = .ok (.getfield 111, 3) := by decide +kernel
theorem d135_137 : decode (mB 135) 137 = .ok (.aload_n 0, 1) := by decide +kernel
theorem d135_138 : decode (mB 135) 138 = .ok (.getfield 231, 3) := by decide +kernel
theorem d135_141 : decode (mB 135) 141 = .ok (.iaload, 1) := by decide +kernel
theorem d135_142 : decode (mB 135) 142 = .ok (.iload 7, 2) := by decide +kernel
theorem d135_144 : decode (mB 135) 144 = .ok (.aload_n 0, 1) := by decide +kernel
theorem d135_145 : decode (mB 135) 145 = .ok (.getfield 65, 3) := by decide +kernel
theorem d135_148 : decode (mB 135) 148 = .ok (.iload_n 1, 1) := by decide +kernel
theorem d135_149 : decode (mB 135) 149 = .ok (.iaload, 1) := by decide +kernel
theorem d135_150 : decode (mB 135) 150 = .ok (.iconst 0, 1) := by decide +kernel
theorem d135_151 : decode (mB 135) 151 = .ok (.iconst 0, 1) := by decide +kernel
theorem d135_152 : decode (mB 135) 152 = .ok (.invokevirtual 259, 3) := by decide +kernel
theorem d135_155 : decode (mB 135) 155 = .ok (.aload_n 0, 1) := by decide +kernel
theorem d135_156 : decode (mB 135) 156 = .ok (.iload_n 2, 1) := by decide +kernel
theorem d135_157 : decode (mB 135) 157 = .ok (.putfield 222, 3) := by decide +kernel
theorem d135_160 : decode (mB 135) 160 = .ok (.aload_n 0, 1) := by decide +kernel
theorem d135_161 : decode (mB 135) 161 = .ok (.iload_n 3, 1) := by decide +kernel
theorem d135_162 : decode (mB 135) 162 = .ok (.putfield 225, 3) := by decide +kernel
theorem d135_165 : decode (mB 135) 165 = .ok (.aload_n 0, 1) := by decide +kernel
theorem d135_166 : decode (mB 135) 166 = .ok (.iload 4, 2) := by decide +kernel
theorem d135_168 : decode (mB 135) 168 = .ok (.putfield 228, 3) := by decide +kernel
theorem d135_171 : decode (mB 135) 171 = .ok (.aload_n 0, 1) := by decide +kernel
theorem d135_172 : decode (mB 135) 172 = .ok (.iload 5, 2) := by decide +kernel
theorem d135_174 : decode (mB 135) 174 = .ok (.putfield 231, 3) := by decide +kernel
theorem d135_177 : decode (mB 135) 177 = .ok (.aload_n 0, 1) := by decide +kernel
theorem d135_178 : decode (mB 135) 178 = .ok (.iload 5, 2) := by decide +kernel
theorem d135_180 : decode (mB 135) 180 = .ok (.iload 6, 2) := by decide +kernel
theorem d135_182 : decode (mB 135) 182 = .ok (.iconst 1, 1) := by decide +kernel
theorem d135_183 : decode (mB 135) 183 = .ok (.isub, 1) := by decide +kernel
theorem d135_184 : decode (mB 135) 184 = .ok (.aload_n 0, 1) := by decide +kernel
theorem d135_185 : decode (mB 135) 185 = .ok (.getfield 37, 3) := by decide +kernel
theorem d135_188 : decode (mB 135) 188 = .ok (.iload_n 1, 1) := by decide +kernel
theorem d135_189 : decode (mB 135) 189 = .ok (.iaload, 1) := by decide +kernel
theorem d135_190 : decode (mB 135) 190 = .ok (.aload_n 0, 1) := by decide +kernel
theorem d135_191 : decode (mB 135) 191 = .ok (.getfield 40, 3) := by decide +kernel
theorem d135_194 : decode (mB 135) 194 = .ok (.iload_n 1, 1) := by decide +kernel
theorem d135_195 : decode (mB 135) 195 = .ok (.iaload, 1) := by decide +kernel
theorem d135_196 : decode (mB 135) 196 = .ok (.iconst 1, 1) := by decide +kernel
theorem d135_197 : decode (mB 135) 197 = .ok (.invokevirtual 234, 3) := by decide +kernel
theorem d135_200 : decode (mB 135) 200 = .ok (.ifCond .eq 20, 3) := by decide +kernel
theorem d135_203 : decode (mB 135) 203 = .ok (.aload_n 0, 1) := by decide +kernel
theorem d135_204 : decode (mB 135) 204 = .ok (.iload_n 1, 1) := by decide +kernel
theorem d135_205 : decode (mB 135) 205 = .ok (.iconst 0, 1) := by decide +kernel
theorem d135_206 : decode (mB 135) 206 = .ok (.iload 7, 2) := by decide +kernel
theorem d135_208 : decode (mB 135) 208 = .ok (.iload 5, 2) := by decide +kernel
theorem d135_210 : decode (mB 135) 210 = .ok (.invokevirtual 237, 3) := by decide +kernel
theorem d135_213 : decode (mB 135) 213 = .ok (.ifCond .eq 7, 3) := by decide +kernel
theorem d135_216 : decode (mB 135) 216 = .ok (.iconst 1, 1) := by decide +kernel
theorem d135_217 : decode (mB 135) 217 = .ok (.goto 4, 3) := by decide +kernel
theorem d135_220 : decode (mB 135) 220 = .ok (.iconst 0, 1) := by decide +kernel
theorem d135_221 : decode (mB 135) 221 = .ok (.istore 10, 2) := by decide +kernel
theorem d135_223 : decode (mB 135) 223 = .ok (.aload_n 0, 1) := by decide +kernel
theorem d135_224 : decode (mB 135) 224 = .ok (.iload_n 1, 1) := by decide +kernel
theorem d135_225 : decode (mB 135) 225 = .ok (.iconst 0, 1) := by decide +kernel
theorem d135_226 : decode (mB 135) 226 = .ok (.iload 6, 2) := by decide +kernel
theorem d135_228 : decode (mB 135) 228 = .ok (.iconst 0, 1) := by decide +kernel
theorem d135_229 : decode (mB 135) 229 = .ok (.iload 7, 2) := by decide +kernel
theorem d135_231 : decode (mB 135) 231 = .ok (.aload_n 0, 1) := by decide +kernel
theorem d135_232 : decode (mB 135) 232 = .ok (.getfield 37, 3) := by decide +kernel
theorem d135_235 : decode (mB 135) 235 = .ok (.iload_n 1, 1) := by decide +kernel
theorem d135_236 : decode (mB 135) 236 = .ok (.iaload, 1) := by decide +kernel
theorem d135_237 : decode (mB 135) 237 = .ok (.aload_n 0, 1) := by decide +kernel
theorem d135_238 : decode (mB 135) 238 = .ok (.getfield 40, 3) := by decide +kernel
theorem d135_241 : decode (mB 135) 241 = .ok (.iload_n 1, 1) := by decide +kernel
theorem d135_242 : decode (mB 135) 242 = .ok (.iaload, 1) := by decide +kernel
theorem d135_243 : decode (mB 135) 243 = .ok (.invokevirtual 259, 3) := by decide +kernel
theorem d135_246 : decode (mB 135) 246 = .ok (.aload_n 0, 1) := by decide +kernel
theorem d135_247 : decode (mB 135) 247 = .ok (.getfield 99, 3) := by decide +kernel
theorem d135_250 : decode (mB 135) 250 = .ok (.bipush 64, 2) := by decide +kernel
theorem d135_252 : decode (mB 135) 252 = .ok (.iload_n 2, 1) := by decide +kernel
theorem d135_253 : decode (mB 135) 253 = .ok (.imul, 1) := by decide +kernel
theorem d135_254 : decode (mB 135) 254 = .ok (.bipush 16, 2) := by decide +kernel
theorem d135_256 : decode (mB 135) 256 = .ok (.iload_n 3, 1) := by decide +kernel
theorem d135_257 : decode (mB 135) 257 = .ok (.iload 5, 2) := by decide +kernel
theorem d135_259 : decode (mB 135) 259 = .ok (.iadd, 1) := by decide +kernel
theorem d135_260 : decode (mB 135) 260 = .ok (.iconst 1, 1) := by decide +kernel
theorem d135_261 : decode (mB 135) 261 = .ok (.isub, 1) := by decide +kernel
theorem d135_262 : decode (mB 135) 262 = .ok (.imul, 1) := by decide +kernel
theorem d135_263 : decode (mB 135) 263 = .ok (.iadd, 1) := by decide +kernel
theorem d135_264 : decode (mB 135) 264 = .ok (.iload 4, 2) := by decide +kernel
theorem d135_266 : decode (mB 135) 266 = .ok (.iadd, 1) := by decide +kernel
theorem d135_267 : decode (mB 135) 267 = .ok (.iload 6, 2) := by decide +kernel
theorem d135_269 : decode (mB 135) 269 = .ok (.iadd, 1) := by decide +kernel
theorem d135_270 : decode (mB 135) 270 = .ok (.iconst 1, 1) := by decide +kernel
theorem d135_271 : decode (mB 135) 271 = .ok (.isub, 1) := by decide +kernel
theorem d135_272 : decode (mB 135) 272 = .ok (.bipush 100, 2) := by decide +kernel
theorem d135_274 : decode (mB 135) 274 = .ok (.iload_n 1, 1) := by decide +kernel
theorem d135_275 : decode (mB 135) 275 = .ok (.iconst 1, 1) := by decide +kernel
theorem d135_276 : decode (mB 135) 276 = .ok (.iadd, 1) := by decide +kernel
theorem d135_277 : decode (mB 135) 277 = .ok (.imul, 1) := by decide +kernel
theorem d135_278 : decode (mB 135) 278 = .ok (.bipush 82, 2) := by decide +kernel
theorem d135_280 : decode (mB 135) 280 = .ok (.iadd, 1) := by decide +kernel
theorem d135_281 : decode (mB 135) 281 = .ok (.iastore, 1) := by decide +kernel
theorem d135_282 : decode (mB 135) 282 = .ok (.iconst 1, 1) := by decide +kernel
theorem d135_283 : decode (mB 135) 283 = .ok (.ireturn, 1) := by decide +kernel
theorem v135_0 (L : Nat) (xs : Nat → Int32) : zVal L xs 135 0 (.inl (i_al 0 1)) := zS_aload_n d135_0 rfl
theorem v135_1 (L : Nat) (xs : Nat → Int32) : zVal L xs 135 1 (.inl (i_il 2 2)) := zS_iload_n d135_1 rfl
theorem v135_2 (L : Nat) (xs : Nat → Int32) : zVal L xs 135 2 (.inl (i_il 3 3)) := zS_iload_n d135_2 rfl
theorem v135_3 (L : Nat) (xs : Nat → Int32) : zVal L xs 135 3 (.inl (i_il 4 5)) := zS_iload d135_3
theorem v135_5 (L : Nat) (xs : Nat → Int32) : zVal L xs 135 5 (.inl (i_il 5 7)) := zS_iload d135_5
theorem v135_7 (L : Nat) (xs : Nat → Int32) : zVal L xs 135 7 (.inr (.inl (133, 5, 11))) := ⟨by decide +kernel, by decide +kernel, zc_virt d135_7 zcl10 w1075 w1072 w1074 w63 w85 ⟨by decide +kernel, by decide +kernel, by decide +kernel⟩ (by decide) (by decide)⟩
theorem v135_10 (L : Nat) (xs : Nat → Int32) : zVal L xs 135 10 (.inl (i_is 6 12)) := zS_istore d135_10
theorem v135_12 (L : Nat) (xs : Nat → Int32) : zVal L xs 135 12 (.inl (i_il 3 13)) := zS_iload_n d135_12 rfl
theorem v135_13 (L : Nat) (xs : Nat → Int32) : zVal L xs 135 13 (.inl (i_il 5 15)) := zS_iload d135_13
theorem v135_15 (L : Nat) (xs : Nat → Int32) : zVal L xs 135 15 (.inl (i_bi (fun x y => x + y) 16)) := zS_iadd d135_15
theorem v135_16 (L : Nat) (xs : Nat → Int32) : zVal L xs 135 16 (.inl (i_al 0 17)) := zS_aload_n d135_16 rfl
theorem v135_17 (L : Nat) (xs : Nat → Int32) : zVal L xs 135 17 (.inl (i_gf 10 0 20)) := zS_getf d135_17 (zcl10) (by decide) zi10 w778
theorem v135_20 (L : Nat) (xs : Nat → Int32) : zVal L xs 135 20 (.inl (i_f2 (fun x y => decide (y < x)) 41 23)) := zS_icmp_gt d135_20 (by decide)
theorem v135_23 (L : Nat) (xs : Nat → Int32) : zVal L xs 135 23 (.inl (i_il 6 25)) := zS_iload d135_23
theorem v135_25 (L : Nat) (xs : Nat → Int32) : zVal L xs 135 25 (.inl (i_c (.int 2) 26)) := zS_iconst d135_25 (by decide)
theorem v135_26 (L : Nat) (xs : Nat → Int32) : zVal L xs 135 26 (.inl (i_f2 (fun x y => decide (x < y)) 41 29)) := zS_icmp_lt d135_26 (by decide)
theorem v135_29 (L : Nat) (xs : Nat → Int32) : zVal L xs 135 29 (.inl (i_al 0 30)) := zS_aload_n d135_29 rfl
theorem v135_30 (L : Nat) (xs : Nat → Int32) : zVal L xs 135 30 (.inl (i_il 1 31)) := zS_iload_n d135_30 rfl
theorem v135_31 (L : Nat) (xs : Nat → Int32) : zVal L xs 135 31 (.inl (i_il 5 33)) := zS_iload d135_31
theorem v135_33 (L : Nat) (xs : Nat → Int32) : zVal L xs 135 33 (.inl (i_il 6 35)) := zS_iload d135_33
theorem v135_35 (L : Nat) (xs : Nat → Int32) : zVal L xs 135 35 (.inr (.inl (134, 4, 11))) := ⟨by decide +kernel, by decide +kernel, zc_virt d135_35 zcl10 w1079 w1076 w1078 w64 w85 ⟨by decide +kernel, by decide +kernel, by decide +kernel⟩ (by decide) (by decide)⟩
theorem v135_38 (L : Nat) (xs : Nat → Int32) : zVal L xs 135 38 (.inl (i_go 42)) := zS_goto d135_38 (by decide)
theorem v135_41 (L : Nat) (xs : Nat → Int32) : zVal L xs 135 41 (.inl (i_k [false, false, false, false, false, false, false, true, true, true, true] (i_c (.int 0) 42))) := zS_k (zS_iconst d135_41 (by decide))
theorem v135_42 (L : Nat) (xs : Nat → Int32) : zVal L xs 135 42 (.inl (i_k [false, false, false, false, false, false, false, true, true, true, true] (i_is 7 44))) := zS_k (zS_istore d135_42)
theorem v135_44 (L : Nat) (xs : Nat → Int32) : zVal L xs 135 44 (.inl (i_il 7 46)) := zS_iload d135_44
theorem v135_46 (L : Nat) (xs : Nat → Int32) : zVal L xs 135 46 (.inl (i_f1 (fun x => decide (x = 0)) 70 49)) := zS_if_eq d135_46 (by decide)
theorem v135_49 (L : Nat) (xs : Nat → Int32) : zVal L xs 135 49 (.inl (i_al 0 50)) := zS_aload_n d135_49 rfl
theorem v135_50 (L : Nat) (xs : Nat → Int32) : zVal L xs 135 50 (.inl (i_il 1 51)) := zS_iload_n d135_50 rfl
theorem v135_51 (L : Nat) (xs : Nat → Int32) : zVal L xs 135 51 (.inl (i_il 7 53)) := zS_iload d135_51
theorem v135_53 (L : Nat) (xs : Nat → Int32) : zVal L xs 135 53 (.inl (i_al 0 54)) := zS_aload_n d135_53 rfl
theorem v135_54 (L : Nat) (xs : Nat → Int32) : zVal L xs 135 54 (.inl (i_gf 10 26 57)) := zS_getf d135_54 (zcl10) (by decide) zi10 w804
theorem v135_57 (L : Nat) (xs : Nat → Int32) : zVal L xs 135 57 (.inl (i_il 1 58)) := zS_iload_n d135_57 rfl
theorem v135_58 (L : Nat) (xs : Nat → Int32) : zVal L xs 135 58 (.inl (i_ga 0 59)) := zS_iald d135_58
theorem v135_59 (L : Nat) (xs : Nat → Int32) : zVal L xs 135 59 (.inl (i_c (.int 0) 60)) := zS_iconst d135_59 (by decide)
theorem v135_60 (L : Nat) (xs : Nat → Int32) : zVal L xs 135 60 (.inl (i_c (.int 0) 61)) := zS_iconst d135_60 (by decide)
theorem v135_61 (L : Nat) (xs : Nat → Int32) : zVal L xs 135 61 (.inl (i_il 2 62)) := zS_iload_n d135_61 rfl
theorem v135_62 (L : Nat) (xs : Nat → Int32) : zVal L xs 135 62 (.inl (i_c (.int 1) 63)) := zS_iconst d135_62 (by decide)
theorem v135_63 (L : Nat) (xs : Nat → Int32) : zVal L xs 135 63 (.inl (i_bi (fun x y => x + y) 64)) := zS_iadd d135_63
theorem v135_64 (L : Nat) (xs : Nat → Int32) : zVal L xs 135 64 (.inr (.inl (130, 7, 11))) := ⟨by decide +kernel, by decide +kernel, zc_virt d135_64 zcl10 w1035 w1032 w1034 w53 w85 ⟨by decide +kernel, by decide +kernel, by decide +kernel⟩ (by decide) (by decide)⟩
theorem v135_67 (L : Nat) (xs : Nat → Int32) : zVal L xs 135 67 (.inl (i_f1 (fun x => decide (¬ x = 0)) 72 70)) := zS_if_ne d135_67 (by decide)
theorem v135_70 (L : Nat) (xs : Nat → Int32) : zVal L xs 135 70 (.inl (i_k [true, true, true, true, true, true, true, true, true, true, true] (i_c (.int 0) 71))) := zS_k (zS_iconst d135_70 (by decide))
theorem v135_71 (L : Nat) (xs : Nat → Int32) : zVal L xs 135 71 (.inr (.inr 2)) := zr_2 d135_71 rfl
theorem v135_72 (L : Nat) (xs : Nat → Int32) : zVal L xs 135 72 (.inl (i_al 0 73)) := zS_aload_n d135_72 rfl
theorem v135_73 (L : Nat) (xs : Nat → Int32) : zVal L xs 135 73 (.inl (i_gf 10 42 76)) := zS_getf d135_73 (zcl10) (by decide) zi10 w820
theorem v135_76 (L : Nat) (xs : Nat → Int32) : zVal L xs 135 76 (.inl (i_is 8 78)) := zS_istore d135_76
theorem v135_78 (L : Nat) (xs : Nat → Int32) : zVal L xs 135 78 (.inl (i_al 0 79)) := zS_aload_n d135_78 rfl
theorem v135_79 (L : Nat) (xs : Nat → Int32) : zVal L xs 135 79 (.inl (i_al 0 80)) := zS_aload_n d135_79 rfl
theorem v135_80 (L : Nat) (xs : Nat → Int32) : zVal L xs 135 80 (.inl (i_gf 10 45 83)) := zS_getf d135_80 (zcl10) (by decide) zi10 w823
theorem v135_83 (L : Nat) (xs : Nat → Int32) : zVal L xs 135 83 (.inl (i_al 0 84)) := zS_aload_n d135_83 rfl
theorem v135_84 (L : Nat) (xs : Nat → Int32) : zVal L xs 135 84 (.inl (i_gf 10 41 87)) := zS_getf d135_84 (zcl10) (by decide) zi10 w819
theorem v135_87 (L : Nat) (xs : Nat → Int32) : zVal L xs 135 87 (.inl (i_al 0 88)) := zS_aload_n d135_87 rfl
theorem v135_88 (L : Nat) (xs : Nat → Int32) : zVal L xs 135 88 (.inl (i_gf 10 45 91)) := zS_getf d135_88 (zcl10) (by decide) zi10 w823
theorem v135_91 (L : Nat) (xs : Nat → Int32) : zVal L xs 135 91 (.inl (i_ga 0 92)) := zS_iald d135_91
theorem v135_92 (L : Nat) (xs : Nat → Int32) : zVal L xs 135 92 (.inl (i_c (.int 1) 93)) := zS_iconst d135_92 (by decide)
theorem v135_93 (L : Nat) (xs : Nat → Int32) : zVal L xs 135 93 (.inl (i_bi (fun x y => x - y) 94)) := zS_isub d135_93
theorem v135_94 (L : Nat) (xs : Nat → Int32) : zVal L xs 135 94 (.inl (i_c (.int 0) 95)) := zS_iconst d135_94 (by decide)
theorem v135_95 (L : Nat) (xs : Nat → Int32) : zVal L xs 135 95 (.inl (i_c (.int 0) 96)) := zS_iconst d135_95 (by decide)
theorem v135_96 (L : Nat) (xs : Nat → Int32) : zVal L xs 135 96 (.inl (i_c (.int 0) 97)) := zS_iconst d135_96 (by decide)
theorem v135_97 (L : Nat) (xs : Nat → Int32) : zVal L xs 135 97 (.inr (.inl (126, 6, 11))) := ⟨by decide +kernel, by decide +kernel, zc_virt d135_97 zcl10 w1039 w1036 w1038 w54 w85 ⟨by decide +kernel, by decide +kernel, by decide +kernel⟩ (by decide) (by decide)⟩
theorem v135_100 (L : Nat) (xs : Nat → Int32) : zVal L xs 135 100 (.inl (i_f1 (fun x => decide (x = 0)) 127 103)) := zS_if_eq d135_100 (by decide)
theorem v135_103 (L : Nat) (xs : Nat → Int32) : zVal L xs 135 103 (.inl (i_al 0 104)) := zS_aload_n d135_103 rfl
theorem v135_104 (L : Nat) (xs : Nat → Int32) : zVal L xs 135 104 (.inl (i_il 1 105)) := zS_iload_n d135_104 rfl
theorem v135_105 (L : Nat) (xs : Nat → Int32) : zVal L xs 135 105 (.inl (i_il 7 107)) := zS_iload d135_105
theorem v135_107 (L : Nat) (xs : Nat → Int32) : zVal L xs 135 107 (.inl (i_al 0 108)) := zS_aload_n d135_107 rfl
theorem v135_108 (L : Nat) (xs : Nat → Int32) : zVal L xs 135 108 (.inl (i_gf 10 26 111)) := zS_getf d135_108 (zcl10) (by decide) zi10 w804
theorem v135_111 (L : Nat) (xs : Nat → Int32) : zVal L xs 135 111 (.inl (i_il 1 112)) := zS_iload_n d135_111 rfl
theorem v135_112 (L : Nat) (xs : Nat → Int32) : zVal L xs 135 112 (.inl (i_ga 0 113)) := zS_iald d135_112
theorem v135_113 (L : Nat) (xs : Nat → Int32) : zVal L xs 135 113 (.inl (i_al 0 114)) := zS_aload_n d135_113 rfl
theorem v135_114 (L : Nat) (xs : Nat → Int32) : zVal L xs 135 114 (.inl (i_gf 10 45 117)) := zS_getf d135_114 (zcl10) (by decide) zi10 w823
theorem v135_117 (L : Nat) (xs : Nat → Int32) : zVal L xs 135 117 (.inr (.inl (127, 5, 11))) := ⟨by decide +kernel, by decide +kernel, zc_virt d135_117 zcl10 w1043 w1040 w1042 w55 w85 ⟨by decide +kernel, by decide +kernel, by decide +kernel⟩ (by decide) (by decide)⟩
theorem v135_120 (L : Nat) (xs : Nat → Int32) : zVal L xs 135 120 (.inl (i_f1 (fun x => decide (x = 0)) 127 123)) := zS_if_eq d135_120 (by decide)
theorem v135_123 (L : Nat) (xs : Nat → Int32) : zVal L xs 135 123 (.inl (i_c (.int 1) 124)) := zS_iconst d135_123 (by decide)
theorem v135_124 (L : Nat) (xs : Nat → Int32) : zVal L xs 135 124 (.inl (i_go 128)) := zS_goto d135_124 (by decide)
theorem v135_127 (L : Nat) (xs : Nat → Int32) : zVal L xs 135 127 (.inl (i_k [false, false, false, false, false, false, false, false, true, true, true] (i_c (.int 0) 128))) := zS_k (zS_iconst d135_127 (by decide))
theorem v135_128 (L : Nat) (xs : Nat → Int32) : zVal L xs 135 128 (.inl (i_k [false, false, false, false, false, false, false, false, true, true, true] (i_is 9 130))) := zS_k (zS_istore d135_128)
theorem v135_130 (L : Nat) (xs : Nat → Int32) : zVal L xs 135 130 (.inl (i_al 0 131)) := zS_aload_n d135_130 rfl
theorem v135_131 (L : Nat) (xs : Nat → Int32) : zVal L xs 135 131 (.inl (i_il 1 132)) := zS_iload_n d135_131 rfl
theorem v135_132 (L : Nat) (xs : Nat → Int32) : zVal L xs 135 132 (.inl (i_c (.int 1) 133)) := zS_iconst d135_132 (by decide)
theorem v135_133 (L : Nat) (xs : Nat → Int32) : zVal L xs 135 133 (.inl (i_al 0 134)) := zS_aload_n d135_133 rfl
theorem v135_134 (L : Nat) (xs : Nat → Int32) : zVal L xs 135 134 (.inl (i_gf 10 41 137)) := zS_getf d135_134 (zcl10) (by decide) zi10 w819
theorem v135_137 (L : Nat) (xs : Nat → Int32) : zVal L xs 135 137 (.inl (i_al 0 138)) := zS_aload_n d135_137 rfl
theorem v135_138 (L : Nat) (xs : Nat → Int32) : zVal L xs 135 138 (.inl (i_gf 10 45 141)) := zS_getf d135_138 (zcl10) (by decide) zi10 w823
theorem v135_141 (L : Nat) (xs : Nat → Int32) : zVal L xs 135 141 (.inl (i_ga 0 142)) := zS_iald d135_141
theorem v135_142 (L : Nat) (xs : Nat → Int32) : zVal L xs 135 142 (.inl (i_il 7 144)) := zS_iload d135_142
theorem v135_144 (L : Nat) (xs : Nat → Int32) : zVal L xs 135 144 (.inl (i_al 0 145)) := zS_aload_n d135_144 rfl
theorem v135_145 (L : Nat) (xs : Nat → Int32) : zVal L xs 135 145 (.inl (i_gf 10 26 148)) := zS_getf d135_145 (zcl10) (by decide) zi10 w804
theorem v135_148 (L : Nat) (xs : Nat → Int32) : zVal L xs 135 148 (.inl (i_il 1 149)) := zS_iload_n d135_148 rfl
theorem v135_149 (L : Nat) (xs : Nat → Int32) : zVal L xs 135 149 (.inl (i_ga 0 150)) := zS_iald d135_149
theorem v135_150 (L : Nat) (xs : Nat → Int32) : zVal L xs 135 150 (.inl (i_c (.int 0) 151)) := zS_iconst d135_150 (by decide)
theorem v135_151 (L : Nat) (xs : Nat → Int32) : zVal L xs 135 151 (.inl (i_c (.int 0) 152)) := zS_iconst d135_151 (by decide)
theorem v135_152 (L : Nat) (xs : Nat → Int32) : zVal L xs 135 152 (.inr (.inl (132, 8, 11))) := ⟨by decide +kernel, by decide +kernel, zc_virt d135_152 zcl10 w1059 w1056 w1058 w59 w85 ⟨by decide +kernel, by decide +kernel, by decide +kernel⟩ (by decide) (by decide)⟩
theorem v135_155 (L : Nat) (xs : Nat → Int32) : zVal L xs 135 155 (.inl (i_al 0 156)) := zS_aload_n d135_155 rfl
theorem v135_156 (L : Nat) (xs : Nat → Int32) : zVal L xs 135 156 (.inl (i_il 2 157)) := zS_iload_n d135_156 rfl
theorem v135_157 (L : Nat) (xs : Nat → Int32) : zVal L xs 135 157 (.inl (i_pf 10 42 okI 160)) := zS_putf (ty := .int) d135_157 (zcl10) (by decide) zi10 w820 zy10 zn10 (by decide +kernel) (by decide +kernel) okI_ok
theorem v135_160 (L : Nat) (xs : Nat → Int32) : zVal L xs 135 160 (.inl (i_al 0 161)) := zS_aload_n d135_160 rfl
theorem v135_161 (L : Nat) (xs : Nat → Int32) : zVal L xs 135 161 (.inl (i_il 3 162)) := zS_iload_n d135_161 rfl
theorem v135_162 (L : Nat) (xs : Nat → Int32) : zVal L xs 135 162 (.inl (i_pf 10 43 okI 165)) := zS_putf (ty := .int) d135_162 (zcl10) (by decide) zi10 w821 zy10 zn10 (by decide +kernel) (by decide +kernel) okI_ok
theorem v135_165 (L : Nat) (xs : Nat → Int32) : zVal L xs 135 165 (.inl (i_al 0 166)) := zS_aload_n d135_165 rfl
theorem v135_166 (L : Nat) (xs : Nat → Int32) : zVal L xs 135 166 (.inl (i_il 4 168)) := zS_iload d135_166
theorem v135_168 (L : Nat) (xs : Nat → Int32) : zVal L xs 135 168 (.inl (i_pf 10 44 okI 171)) := zS_putf (ty := .int) d135_168 (zcl10) (by decide) zi10 w822 zy10 zn10 (by decide +kernel) (by decide +kernel) okI_ok
theorem v135_171 (L : Nat) (xs : Nat → Int32) : zVal L xs 135 171 (.inl (i_al 0 172)) := zS_aload_n d135_171 rfl
theorem v135_172 (L : Nat) (xs : Nat → Int32) : zVal L xs 135 172 (.inl (i_il 5 174)) := zS_iload d135_172
theorem v135_174 (L : Nat) (xs : Nat → Int32) : zVal L xs 135 174 (.inl (i_pf 10 45 okI 177)) := zS_putf (ty := .int) d135_174 (zcl10) (by decide) zi10 w823 zy10 zn10 (by decide +kernel) (by decide +kernel) okI_ok
theorem v135_177 (L : Nat) (xs : Nat → Int32) : zVal L xs 135 177 (.inl (i_al 0 178)) := zS_aload_n d135_177 rfl
theorem v135_178 (L : Nat) (xs : Nat → Int32) : zVal L xs 135 178 (.inl (i_il 5 180)) := zS_iload d135_178
theorem v135_180 (L : Nat) (xs : Nat → Int32) : zVal L xs 135 180 (.inl (i_il 6 182)) := zS_iload d135_180
theorem v135_182 (L : Nat) (xs : Nat → Int32) : zVal L xs 135 182 (.inl (i_c (.int 1) 183)) := zS_iconst d135_182 (by decide)
theorem v135_183 (L : Nat) (xs : Nat → Int32) : zVal L xs 135 183 (.inl (i_bi (fun x y => x - y) 184)) := zS_isub d135_183
theorem v135_184 (L : Nat) (xs : Nat → Int32) : zVal L xs 135 184 (.inl (i_al 0 185)) := zS_aload_n d135_184 rfl
theorem v135_185 (L : Nat) (xs : Nat → Int32) : zVal L xs 135 185 (.inl (i_gf 10 15 188)) := zS_getf d135_185 (zcl10) (by decide) zi10 w793
theorem v135_188 (L : Nat) (xs : Nat → Int32) : zVal L xs 135 188 (.inl (i_il 1 189)) := zS_iload_n d135_188 rfl
theorem v135_189 (L : Nat) (xs : Nat → Int32) : zVal L xs 135 189 (.inl (i_ga 0 190)) := zS_iald d135_189
theorem v135_190 (L : Nat) (xs : Nat → Int32) : zVal L xs 135 190 (.inl (i_al 0 191)) := zS_aload_n d135_190 rfl
theorem v135_191 (L : Nat) (xs : Nat → Int32) : zVal L xs 135 191 (.inl (i_gf 10 16 194)) := zS_getf d135_191 (zcl10) (by decide) zi10 w794
theorem v135_194 (L : Nat) (xs : Nat → Int32) : zVal L xs 135 194 (.inl (i_il 1 195)) := zS_iload_n d135_194 rfl
theorem v135_195 (L : Nat) (xs : Nat → Int32) : zVal L xs 135 195 (.inl (i_ga 0 196)) := zS_iald d135_195
theorem v135_196 (L : Nat) (xs : Nat → Int32) : zVal L xs 135 196 (.inl (i_c (.int 1) 197)) := zS_iconst d135_196 (by decide)
theorem v135_197 (L : Nat) (xs : Nat → Int32) : zVal L xs 135 197 (.inr (.inl (126, 6, 11))) := ⟨by decide +kernel, by decide +kernel, zc_virt d135_197 zcl10 w1039 w1036 w1038 w54 w85 ⟨by decide +kernel, by decide +kernel, by decide +kernel⟩ (by decide) (by decide)⟩
theorem v135_200 (L : Nat) (xs : Nat → Int32) : zVal L xs 135 200 (.inl (i_f1 (fun x => decide (x = 0)) 220 203)) := zS_if_eq d135_200 (by decide)
theorem v135_203 (L : Nat) (xs : Nat → Int32) : zVal L xs 135 203 (.inl (i_al 0 204)) := zS_aload_n d135_203 rfl
theorem v135_204 (L : Nat) (xs : Nat → Int32) : zVal L xs 135 204 (.inl (i_il 1 205)) := zS_iload_n d135_204 rfl
theorem v135_205 (L : Nat) (xs : Nat → Int32) : zVal L xs 135 205 (.inl (i_c (.int 0) 206)) := zS_iconst d135_205 (by decide)
theorem v135_206 (L : Nat) (xs : Nat → Int32) : zVal L xs 135 206 (.inl (i_il 7 208)) := zS_iload d135_206
theorem v135_208 (L : Nat) (xs : Nat → Int32) : zVal L xs 135 208 (.inl (i_il 5 210)) := zS_iload d135_208
theorem v135_210 (L : Nat) (xs : Nat → Int32) : zVal L xs 135 210 (.inr (.inl (127, 5, 11))) := ⟨by decide +kernel, by decide +kernel, zc_virt d135_210 zcl10 w1043 w1040 w1042 w55 w85 ⟨by decide +kernel, by decide +kernel, by decide +kernel⟩ (by decide) (by decide)⟩
theorem v135_213 (L : Nat) (xs : Nat → Int32) : zVal L xs 135 213 (.inl (i_f1 (fun x => decide (x = 0)) 220 216)) := zS_if_eq d135_213 (by decide)
theorem v135_216 (L : Nat) (xs : Nat → Int32) : zVal L xs 135 216 (.inl (i_c (.int 1) 217)) := zS_iconst d135_216 (by decide)
theorem v135_217 (L : Nat) (xs : Nat → Int32) : zVal L xs 135 217 (.inl (i_go 221)) := zS_goto d135_217 (by decide)
theorem v135_220 (L : Nat) (xs : Nat → Int32) : zVal L xs 135 220 (.inl (i_k [false, false, false, false, false, false, false, false, true, true, true] (i_c (.int 0) 221))) := zS_k (zS_iconst d135_220 (by decide))
theorem v135_221 (L : Nat) (xs : Nat → Int32) : zVal L xs 135 221 (.inl (i_k [false, false, false, false, false, false, false, false, true, true, true] (i_is 10 223))) := zS_k (zS_istore d135_221)
theorem v135_223 (L : Nat) (xs : Nat → Int32) : zVal L xs 135 223 (.inl (i_al 0 224)) := zS_aload_n d135_223 rfl
theorem v135_224 (L : Nat) (xs : Nat → Int32) : zVal L xs 135 224 (.inl (i_il 1 225)) := zS_iload_n d135_224 rfl
theorem v135_225 (L : Nat) (xs : Nat → Int32) : zVal L xs 135 225 (.inl (i_c (.int 0) 226)) := zS_iconst d135_225 (by decide)
theorem v135_226 (L : Nat) (xs : Nat → Int32) : zVal L xs 135 226 (.inl (i_il 6 228)) := zS_iload d135_226
theorem v135_228 (L : Nat) (xs : Nat → Int32) : zVal L xs 135 228 (.inl (i_c (.int 0) 229)) := zS_iconst d135_228 (by decide)
theorem v135_229 (L : Nat) (xs : Nat → Int32) : zVal L xs 135 229 (.inl (i_il 7 231)) := zS_iload d135_229
theorem v135_231 (L : Nat) (xs : Nat → Int32) : zVal L xs 135 231 (.inl (i_al 0 232)) := zS_aload_n d135_231 rfl
theorem v135_232 (L : Nat) (xs : Nat → Int32) : zVal L xs 135 232 (.inl (i_gf 10 15 235)) := zS_getf d135_232 (zcl10) (by decide) zi10 w793
theorem v135_235 (L : Nat) (xs : Nat → Int32) : zVal L xs 135 235 (.inl (i_il 1 236)) := zS_iload_n d135_235 rfl
theorem v135_236 (L : Nat) (xs : Nat → Int32) : zVal L xs 135 236 (.inl (i_ga 0 237)) := zS_iald d135_236
theorem v135_237 (L : Nat) (xs : Nat → Int32) : zVal L xs 135 237 (.inl (i_al 0 238)) := zS_aload_n d135_237 rfl
theorem v135_238 (L : Nat) (xs : Nat → Int32) : zVal L xs 135 238 (.inl (i_gf 10 16 241)) := zS_getf d135_238 (zcl10) (by decide) zi10 w794
theorem v135_241 (L : Nat) (xs : Nat → Int32) : zVal L xs 135 241 (.inl (i_il 1 242)) := zS_iload_n d135_241 rfl
theorem v135_242 (L : Nat) (xs : Nat → Int32) : zVal L xs 135 242 (.inl (i_ga 0 243)) := zS_iald d135_242
theorem v135_243 (L : Nat) (xs : Nat → Int32) : zVal L xs 135 243 (.inr (.inl (132, 8, 11))) := ⟨by decide +kernel, by decide +kernel, zc_virt d135_243 zcl10 w1059 w1056 w1058 w59 w85 ⟨by decide +kernel, by decide +kernel, by decide +kernel⟩ (by decide) (by decide)⟩
theorem v135_246 (L : Nat) (xs : Nat → Int32) : zVal L xs 135 246 (.inl (i_al 0 247)) := zS_aload_n d135_246 rfl
theorem v135_247 (L : Nat) (xs : Nat → Int32) : zVal L xs 135 247 (.inl (i_gf 10 37 250)) := zS_getf d135_247 (zcl10) (by decide) zi10 w815
theorem v135_250 (L : Nat) (xs : Nat → Int32) : zVal L xs 135 250 (.inl (i_c (.int 64) 252)) := zS_bipush d135_250 (by decide)
theorem v135_252 (L : Nat) (xs : Nat → Int32) : zVal L xs 135 252 (.inl (i_il 2 253)) := zS_iload_n d135_252 rfl
theorem v135_253 (L : Nat) (xs : Nat → Int32) : zVal L xs 135 253 (.inl (i_bi (fun x y => x * y) 254)) := zS_imul d135_253
theorem v135_254 (L : Nat) (xs : Nat → Int32) : zVal L xs 135 254 (.inl (i_c (.int 16) 256)) := zS_bipush d135_254 (by decide)
theorem v135_256 (L : Nat) (xs : Nat → Int32) : zVal L xs 135 256 (.inl (i_il 3 257)) := zS_iload_n d135_256 rfl
theorem v135_257 (L : Nat) (xs : Nat → Int32) : zVal L xs 135 257 (.inl (i_il 5 259)) := zS_iload d135_257
theorem v135_259 (L : Nat) (xs : Nat → Int32) : zVal L xs 135 259 (.inl (i_bi (fun x y => x + y) 260)) := zS_iadd d135_259
theorem v135_260 (L : Nat) (xs : Nat → Int32) : zVal L xs 135 260 (.inl (i_c (.int 1) 261)) := zS_iconst d135_260 (by decide)
theorem v135_261 (L : Nat) (xs : Nat → Int32) : zVal L xs 135 261 (.inl (i_bi (fun x y => x - y) 262)) := zS_isub d135_261
theorem v135_262 (L : Nat) (xs : Nat → Int32) : zVal L xs 135 262 (.inl (i_bi (fun x y => x * y) 263)) := zS_imul d135_262
theorem v135_263 (L : Nat) (xs : Nat → Int32) : zVal L xs 135 263 (.inl (i_bi (fun x y => x + y) 264)) := zS_iadd d135_263
theorem v135_264 (L : Nat) (xs : Nat → Int32) : zVal L xs 135 264 (.inl (i_il 4 266)) := zS_iload d135_264
theorem v135_266 (L : Nat) (xs : Nat → Int32) : zVal L xs 135 266 (.inl (i_bi (fun x y => x + y) 267)) := zS_iadd d135_266
theorem v135_267 (L : Nat) (xs : Nat → Int32) : zVal L xs 135 267 (.inl (i_il 6 269)) := zS_iload d135_267
theorem v135_269 (L : Nat) (xs : Nat → Int32) : zVal L xs 135 269 (.inl (i_bi (fun x y => x + y) 270)) := zS_iadd d135_269
theorem v135_270 (L : Nat) (xs : Nat → Int32) : zVal L xs 135 270 (.inl (i_c (.int 1) 271)) := zS_iconst d135_270 (by decide)
theorem v135_271 (L : Nat) (xs : Nat → Int32) : zVal L xs 135 271 (.inl (i_bi (fun x y => x - y) 272)) := zS_isub d135_271
theorem v135_272 (L : Nat) (xs : Nat → Int32) : zVal L xs 135 272 (.inl (i_c (.int 100) 274)) := zS_bipush d135_272 (by decide)
theorem v135_274 (L : Nat) (xs : Nat → Int32) : zVal L xs 135 274 (.inl (i_il 1 275)) := zS_iload_n d135_274 rfl
theorem v135_275 (L : Nat) (xs : Nat → Int32) : zVal L xs 135 275 (.inl (i_c (.int 1) 276)) := zS_iconst d135_275 (by decide)
theorem v135_276 (L : Nat) (xs : Nat → Int32) : zVal L xs 135 276 (.inl (i_bi (fun x y => x + y) 277)) := zS_iadd d135_276
theorem v135_277 (L : Nat) (xs : Nat → Int32) : zVal L xs 135 277 (.inl (i_bi (fun x y => x * y) 278)) := zS_imul d135_277
theorem v135_278 (L : Nat) (xs : Nat → Int32) : zVal L xs 135 278 (.inl (i_c (.int 82) 280)) := zS_bipush d135_278 (by decide)
theorem v135_280 (L : Nat) (xs : Nat → Int32) : zVal L xs 135 280 (.inl (i_bi (fun x y => x + y) 281)) := zS_iadd d135_280
theorem v135_281 (L : Nat) (xs : Nat → Int32) : zVal L xs 135 281 (.inl (i_pa 0 (fun x => x) 282)) := zS_iast d135_281
theorem v135_282 (L : Nat) (xs : Nat → Int32) : zVal L xs 135 282 (.inl (i_c (.int 1) 283)) := zS_iconst d135_282 (by decide)
theorem v135_283 (L : Nat) (xs : Nat → Int32) : zVal L xs 135 283 (.inr (.inr 2)) := zr_2 d135_283 rfl
theorem vt135_0 (L : Nat) (xs : Nat → Int32) : zAll (fun x => zVal L xs 135 x.1 x.2) (tb135_0) := ⟨v135_0 L xs, v135_1 L xs, v135_2 L xs, v135_3 L xs, v135_5 L xs, v135_7 L xs, v135_10 L xs, v135_12 L xs, v135_13 L xs, v135_15 L xs, v135_16 L xs, v135_17 L xs, v135_20 L xs, v135_23 L xs, v135_25 L xs, v135_26 L xs, v135_29 L xs, v135_30 L xs, v135_31 L xs, v135_33 L xs, v135_35 L xs, v135_38 L xs, v135_41 L xs, v135_42 L xs, v135_44 L xs, v135_46 L xs, v135_49 L xs, v135_50 L xs, v135_51 L xs, v135_53 L xs, v135_54 L xs, v135_57 L xs, v135_58 L xs, v135_59 L xs, v135_60 L xs, v135_61 L xs, v135_62 L xs, v135_63 L xs, v135_64 L xs, v135_67 L xs, v135_70 L xs, v135_71 L xs, v135_72 L xs, v135_73 L xs, v135_76 L xs, v135_78 L xs, v135_79 L xs, v135_80 L xs, v135_83 L xs, v135_84 L xs, v135_87 L xs, v135_88 L xs, v135_91 L xs, v135_92 L xs, v135_93 L xs, v135_94 L xs, v135_95 L xs, v135_96 L xs, v135_97 L xs, v135_100 L xs, v135_103 L xs, v135_104 L xs, v135_105 L xs, v135_107 L xs, v135_108 L xs, v135_111 L xs, v135_112 L xs, v135_113 L xs, v135_114 L xs, v135_117 L xs, v135_120 L xs, v135_123 L xs, v135_124 L xs, v135_127 L xs, v135_128 L xs, v135_130 L xs, v135_131 L xs, v135_132 L xs, v135_133 L xs, v135_134 L xs, v135_137 L xs, v135_138 L xs, v135_141 L xs, v135_142 L xs, v135_144 L xs, v135_145 L xs, v135_148 L xs, v135_149 L xs, v135_150 L xs, v135_151 L xs, v135_152 L xs, v135_155 L xs, v135_156 L xs, v135_157 L xs, v135_160 L xs, v135_161 L xs, v135_162 L xs, v135_165 L xs, v135_166 L xs, v135_168 L xs, v135_171 L xs, v135_172 L xs, v135_174 L xs, v135_177 L xs, v135_178 L xs, v135_180 L xs, v135_182 L xs, v135_183 L xs, v135_184 L xs, v135_185 L xs, v135_188 L xs, v135_189 L xs, v135_190 L xs, v135_191 L xs, v135_194 L xs, v135_195 L xs, v135_196 L xs, v135_197 L xs, v135_200 L xs, v135_203 L xs, trivial⟩
theorem vt135_1 (L : Nat) (xs : Nat → Int32) : zAll (fun x => zVal L xs 135 x.1 x.2) (tb135_1) := ⟨v135_204 L xs, v135_205 L xs, v135_206 L xs, v135_208 L xs, v135_210 L xs, v135_213 L xs, v135_216 L xs, v135_217 L xs, v135_220 L xs, v135_221 L xs, v135_223 L xs, v135_224 L xs, v135_225 L xs, v135_226 L xs, v135_228 L xs, v135_229 L xs, v135_231 L xs, v135_232 L xs, v135_235 L xs, v135_236 L xs, v135_237 L xs, v135_238 L xs, v135_241 L xs, v135_242 L xs, v135_243 L xs, v135_246 L xs, v135_247 L xs, v135_250 L xs, v135_252 L xs, v135_253 L xs, v135_254 L xs, v135_256 L xs, v135_257 L xs, v135_259 L xs, v135_260 L xs, v135_261 L xs, v135_262 L xs, v135_263 L xs, v135_264 L xs, v135_266 L xs, v135_267 L xs, v135_269 L xs, v135_270 L xs, v135_271 L xs, v135_272 L xs, v135_274 L xs, v135_275 L xs, v135_276 L xs, v135_277 L xs, v135_278 L xs, v135_280 L xs, v135_281 L xs, v135_282 L xs, v135_283 L xs, trivial⟩
theorem vt135 (L : Nat) (xs : Nat → Int32) : zAll (fun x => zVal L xs 135 x.1 x.2) (tb135) := zAll_app (vt135_0 L xs) (vt135_1 L xs)
theorem d136_0 : decode (mB 136) 0 = .ok (.iconst 0, 1) := by decide +kernel
theorem d136_1 : decode (mB 136) 1 = .ok (.istore_n 2, 1) := by decide +kernel
theorem d136_2 : decode (mB 136) 2 = .ok (.iload_n 2, 1) := by decide +kernel
theorem d136_3 : decode (mB 136) 3 = .ok (.iconst 2, 1) := by decide +kernel
theorem d136_4 : decode (mB 136) 4 = .ok (.if_icmp .ge 87, 3) := by decide +kernel
theorem d136_7 : decode (mB 136) 7 = .ok (.aload_n 0, 1) := by decide +kernel
theorem d136_8 : decode (mB 136) 8 = .ok (.getfield 114, 3) := by decide +kernel
theorem d136_11 : decode (mB 136) 11 = .ok (.istore_n 3, 1) := by decide +kernel
theorem d136_12 : decode (mB 136) 12 = .ok (.iload_n 3, 1) := by decide +kernel
theorem d136_13 : decode (mB 136) 13 = .ok (.iconst 1, 1) := by decide +kernel
theorem d136_14 : decode (mB 136) 14 = .ok (.if_icmp .lt 71, 3) := by decide +kernel
theorem d136_17 : decode (mB 136) 17 = .ok (.iload_n 3, 1) := by decide +kernel
theorem d136_18 : decode (mB 136) 18 = .ok (.aload_n 0, 1) := by decide +kernel
theorem d136_19 : decode (mB 136) 19 = .ok (.getfield 37, 3) := by decide +kernel
theorem d136_22 : decode (mB 136) 22 = .ok (.iload_n 1, 1) := by decide +kernel
theorem d136_23 : decode (mB 136) 23 = .ok (.iaload, 1) := by decide +kernel
theorem d136_24 : decode (mB 136) 24 = .ok (.if_icmp .lt 61, 3) := by decide +kernel
theorem d136_27 : decode (mB 136) 27 = .ok (.iconst 0, 1) := by decide +kernel
theorem d136_28 : decode (mB 136) 28 = .ok (.istore 4, 2) := by decide +kernel
theorem d136_30 : decode (mB 136) 30 = .ok (.iload 4, 2) := by decide +kernel
theorem d136_32 : decode (mB 136) 32 = .ok (.aload_n 0, 1) := by decide +kernel
theorem d136_33 : decode (mB 136) 33 = .ok (.getfield 117, 3) := by decide +kernel
theorem d136_36 : decode (mB 136) 36 = .ok (.if_icmp .ge 43, 3) := by decide +kernel
theorem d136_39 : decode (mB 136) 39 = .ok (.iconst 0, 1) := by decide +kernel
theorem d136_40 : decode (mB 136) 40 = .ok (.istore 5, 2) := by decide +kernel
theorem d136_42 : decode (mB 136) 42 = .ok (.iload 5, 2) := by decide +kernel
theorem d136_44 : decode (mB 136) 44 = .ok (.aload_n 0, 1) := by decide +kernel
theorem d136_45 : decode (mB 136) 45 = .ok (.getfield 114, 3) := by decide +kernel
theorem d136_48 : decode (mB 136) 48 = .ok (.if_icmp .ge 25, 3) := by decide +kernel
theorem d136_51 : decode (mB 136) 51 = .ok (.aload_n 0, 1) := by decide +kernel
theorem d136_52 : decode (mB 136) 52 = .ok (.iload_n 1, 1) := by decide +kernel
theorem d136_53 : decode (mB 136) 53 = .ok (.iload_n 2, 1) := by decide +kernel
theorem d136_54 : decode (mB 136) 54 = .ok (.iload 5, 2) := by decide +kernel
theorem d136_56 : decode (mB 136) 56 = .ok (.iload 4, 2) := by decide +kernel
theorem d136_58 : decode (mB 136) 58 = .ok (.iload_n 3, 1) := by decide +kernel
theorem d136_59 : decode (mB 136) 59 = .ok (.invokevirtual 263, 3) := by decide +kernel
theorem d136_62 : decode (mB 136) 62 = .ok (.ifCond .eq 5, 3) := by decide +kernel
theorem d136_65 : decode (mB 136) 65 = .ok (.iconst 1, 1) := by decide +kernel
theorem d136_66 : decode (mB 136) 66 = .ok (.ireturn, 1) := by decide +kernel
theorem d136_67 : decode (mB 136) 67 = .ok (.iinc 5 1, 3) := by decide +kernel
theorem d136_70 : decode (mB 136) 70 = .ok (.goto (-28), 3) := by decide +kernel
theorem d136_73 : decode (mB 136) 73 = .ok (.iinc 4 1, 3) := by decide +kernel
theorem d136_76 : decode (mB 136) 76 = .ok (.goto (-46), 3) := by decide +kernel
theorem d136_79 : decode (mB 136) 79 = .ok (.iinc 3 (-1), 3) := by decide +kernel
theorem d136_82 : decode (mB 136) 82 = .ok (.goto (-70), 3) := by decide +kernel
theorem d136_85 : decode (mB 136) 85 = .ok (.iinc 2 1, 3) := by decide +kernel
theorem d136_88 : decode (mB 136) 88 = .ok (.goto (-86), 3) := by decide +kernel
theorem d136_91 : decode (mB 136) 91 = .ok (.iconst 0, 1) := by decide +kernel
theorem d136_92 : decode (mB 136) 92 = .ok (.ireturn, 1) := by decide +kernel
theorem v136_0 (L : Nat) (xs : Nat → Int32) : zVal L xs 136 0 (.inl (i_c (.int 0) 1)) := zS_iconst d136_0 (by decide)
theorem v136_1 (L : Nat) (xs : Nat → Int32) : zVal L xs 136 1 (.inl (i_is 2 2)) := zS_istore_n d136_1 rfl
theorem v136_2 (L : Nat) (xs : Nat → Int32) : zVal L xs 136 2 (.inl (i_k [false, false, false, true, true, true] (i_il 2 3))) := zS_k (zS_iload_n d136_2 rfl)
theorem v136_3 (L : Nat) (xs : Nat → Int32) : zVal L xs 136 3 (.inl (i_c (.int 2) 4)) := zS_iconst d136_3 (by decide)
theorem v136_4 (L : Nat) (xs : Nat → Int32) : zVal L xs 136 4 (.inl (i_f2 (fun x y => decide (y ≤ x)) 91 7)) := zS_icmp_ge d136_4 (by decide)
theorem v136_7 (L : Nat) (xs : Nat → Int32) : zVal L xs 136 7 (.inl (i_al 0 8)) := zS_aload_n d136_7 rfl
theorem v136_8 (L : Nat) (xs : Nat → Int32) : zVal L xs 136 8 (.inl (i_gf 10 0 11)) := zS_getf d136_8 (zcl10) (by decide) zi10 w778
theorem v136_11 (L : Nat) (xs : Nat → Int32) : zVal L xs 136 11 (.inl (i_is 3 12)) := zS_istore_n d136_11 rfl
theorem v136_12 (L : Nat) (xs : Nat → Int32) : zVal L xs 136 12 (.inl (i_k [false, false, false, false, true, true] (i_il 3 13))) := zS_k (zS_iload_n d136_12 rfl)
theorem v136_13 (L : Nat) (xs : Nat → Int32) : zVal L xs 136 13 (.inl (i_c (.int 1) 14)) := zS_iconst d136_13 (by decide)
theorem v136_14 (L : Nat) (xs : Nat → Int32) : zVal L xs 136 14 (.inl (i_f2 (fun x y => decide (x < y)) 85 17)) := zS_icmp_lt d136_14 (by decide)
theorem v136_17 (L : Nat) (xs : Nat → Int32) : zVal L xs 136 17 (.inl (i_il 3 18)) := zS_iload_n d136_17 rfl
theorem v136_18 (L : Nat) (xs : Nat → Int32) : zVal L xs 136 18 (.inl (i_al 0 19)) := zS_aload_n d136_18 rfl
theorem v136_19 (L : Nat) (xs : Nat → Int32) : zVal L xs 136 19 (.inl (i_gf 10 15 22)) := zS_getf d136_19 (zcl10) (by decide) zi10 w793
theorem v136_22 (L : Nat) (xs : Nat → Int32) : zVal L xs 136 22 (.inl (i_il 1 23)) := zS_iload_n d136_22 rfl
theorem v136_23 (L : Nat) (xs : Nat → Int32) : zVal L xs 136 23 (.inl (i_ga 0 24)) := zS_iald d136_23
theorem v136_24 (L : Nat) (xs : Nat → Int32) : zVal L xs 136 24 (.inl (i_f2 (fun x y => decide (x < y)) 85 27)) := zS_icmp_lt d136_24 (by decide)
theorem v136_27 (L : Nat) (xs : Nat → Int32) : zVal L xs 136 27 (.inl (i_c (.int 0) 28)) := zS_iconst d136_27 (by decide)
theorem v136_28 (L : Nat) (xs : Nat → Int32) : zVal L xs 136 28 (.inl (i_is 4 30)) := zS_istore d136_28
theorem v136_30 (L : Nat) (xs : Nat → Int32) : zVal L xs 136 30 (.inl (i_k [false, false, false, false, false, true] (i_il 4 32))) := zS_k (zS_iload d136_30)
theorem v136_32 (L : Nat) (xs : Nat → Int32) : zVal L xs 136 32 (.inl (i_al 0 33)) := zS_aload_n d136_32 rfl
theorem v136_33 (L : Nat) (xs : Nat → Int32) : zVal L xs 136 33 (.inl (i_gf 10 1 36)) := zS_getf d136_33 (zcl10) (by decide) zi10 w779
theorem v136_36 (L : Nat) (xs : Nat → Int32) : zVal L xs 136 36 (.inl (i_f2 (fun x y => decide (y ≤ x)) 79 39)) := zS_icmp_ge d136_36 (by decide)
theorem v136_39 (L : Nat) (xs : Nat → Int32) : zVal L xs 136 39 (.inl (i_c (.int 0) 40)) := zS_iconst d136_39 (by decide)
theorem v136_40 (L : Nat) (xs : Nat → Int32) : zVal L xs 136 40 (.inl (i_is 5 42)) := zS_istore d136_40
theorem v136_42 (L : Nat) (xs : Nat → Int32) : zVal L xs 136 42 (.inl (i_k [false, false, false, false, false, false] (i_il 5 44))) := zS_k (zS_iload d136_42)
theorem v136_44 (L : Nat) (xs : Nat → Int32) : zVal L xs 136 44 (.inl (i_al 0 45)) := zS_aload_n d136_44 rfl
theorem v136_45 (L : Nat) (xs : Nat → Int32) : zVal L xs 136 45 (.inl (i_gf 10 0 48)) := zS_getf d136_45 (zcl10) (by decide) zi10 w778
theorem v136_48 (L : Nat) (xs : Nat → Int32) : zVal L xs 136 48 (.inl (i_f2 (fun x y => decide (y ≤ x)) 73 51)) := zS_icmp_ge d136_48 (by decide)
theorem v136_51 (L : Nat) (xs : Nat → Int32) : zVal L xs 136 51 (.inl (i_al 0 52)) := zS_aload_n d136_51 rfl
theorem v136_52 (L : Nat) (xs : Nat → Int32) : zVal L xs 136 52 (.inl (i_il 1 53)) := zS_iload_n d136_52 rfl
theorem v136_53 (L : Nat) (xs : Nat → Int32) : zVal L xs 136 53 (.inl (i_il 2 54)) := zS_iload_n d136_53 rfl
theorem v136_54 (L : Nat) (xs : Nat → Int32) : zVal L xs 136 54 (.inl (i_il 5 56)) := zS_iload d136_54
theorem v136_56 (L : Nat) (xs : Nat → Int32) : zVal L xs 136 56 (.inl (i_il 4 58)) := zS_iload d136_56
theorem v136_58 (L : Nat) (xs : Nat → Int32) : zVal L xs 136 58 (.inl (i_il 3 59)) := zS_iload_n d136_58 rfl
theorem v136_59 (L : Nat) (xs : Nat → Int32) : zVal L xs 136 59 (.inr (.inl (135, 6, 11))) := ⟨by decide +kernel, by decide +kernel, zc_virt d136_59 zcl10 w1071 w1068 w1070 w62 w85 ⟨by decide +kernel, by decide +kernel, by decide +kernel⟩ (by decide) (by decide)⟩
theorem v136_62 (L : Nat) (xs : Nat → Int32) : zVal L xs 136 62 (.inl (i_f1 (fun x => decide (x = 0)) 67 65)) := zS_if_eq d136_62 (by decide)
theorem v136_65 (L : Nat) (xs : Nat → Int32) : zVal L xs 136 65 (.inl (i_c (.int 1) 66)) := zS_iconst d136_65 (by decide)
theorem v136_66 (L : Nat) (xs : Nat → Int32) : zVal L xs 136 66 (.inr (.inr 2)) := zr_2 d136_66 rfl
theorem v136_67 (L : Nat) (xs : Nat → Int32) : zVal L xs 136 67 (.inl (i_in 5 1 70)) := zS_iinc d136_67 (by decide)
theorem v136_70 (L : Nat) (xs : Nat → Int32) : zVal L xs 136 70 (.inl (i_go 42)) := zS_goto d136_70 (by decide)
theorem v136_73 (L : Nat) (xs : Nat → Int32) : zVal L xs 136 73 (.inl (i_in 4 1 76)) := zS_iinc d136_73 (by decide)
theorem v136_76 (L : Nat) (xs : Nat → Int32) : zVal L xs 136 76 (.inl (i_go 30)) := zS_goto d136_76 (by decide)
theorem v136_79 (L : Nat) (xs : Nat → Int32) : zVal L xs 136 79 (.inl (i_in 3 (-1) 82)) := zS_iinc d136_79 (by decide)
theorem v136_82 (L : Nat) (xs : Nat → Int32) : zVal L xs 136 82 (.inl (i_go 12)) := zS_goto d136_82 (by decide)
theorem v136_85 (L : Nat) (xs : Nat → Int32) : zVal L xs 136 85 (.inl (i_k [false, false, false, true, true, true] (i_in 2 1 88))) := zS_k (zS_iinc d136_85 (by decide))
theorem v136_88 (L : Nat) (xs : Nat → Int32) : zVal L xs 136 88 (.inl (i_go 2)) := zS_goto d136_88 (by decide)
theorem v136_91 (L : Nat) (xs : Nat → Int32) : zVal L xs 136 91 (.inl (i_c (.int 0) 92)) := zS_iconst d136_91 (by decide)
theorem v136_92 (L : Nat) (xs : Nat → Int32) : zVal L xs 136 92 (.inr (.inr 2)) := zr_2 d136_92 rfl
theorem vt136 (L : Nat) (xs : Nat → Int32) : zAll (fun x => zVal L xs 136 x.1 x.2) (tb136) := ⟨v136_0 L xs, v136_1 L xs, v136_2 L xs, v136_3 L xs, v136_4 L xs, v136_7 L xs, v136_8 L xs, v136_11 L xs, v136_12 L xs, v136_13 L xs, v136_14 L xs, v136_17 L xs, v136_18 L xs, v136_19 L xs, v136_22 L xs, v136_23 L xs, v136_24 L xs, v136_27 L xs, v136_28 L xs, v136_30 L xs, v136_32 L xs, v136_33 L xs, v136_36 L xs, v136_39 L xs, v136_40 L xs, v136_42 L xs, v136_44 L xs, v136_45 L xs, v136_48 L xs, v136_51 L xs, v136_52 L xs, v136_53 L xs, v136_54 L xs, v136_56 L xs, v136_58 L xs, v136_59 L xs, v136_62 L xs, v136_65 L xs, v136_66 L xs, v136_67 L xs, v136_70 L xs, v136_73 L xs, v136_76 L xs, v136_79 L xs, v136_82 L xs, v136_85 L xs, v136_88 L xs, v136_91 L xs, v136_92 L xs, trivial⟩
theorem d137_0 : decode (mB 137) 0 = .ok (.aload_n 0, 1) := by decide +kernel
theorem d137_1 : decode (mB 137) 1 = .ok (.iload_n 1, 1) := by decide +kernel
theorem d137_2 : decode (mB 137) 2 = .ok (.iconst 0, 1) := by decide +kernel
theorem d137_3 : decode (mB 137) 3 = .ok (.aload_n 0, 1) := by decide +kernel
theorem d137_4 : decode (mB 137) 4 = .ok (.getfield 65, 3) := by decide +kernel
theorem d137_7 : decode (mB 137) 7 = .ok (.iload_n 1, 1) := by decide +kernel
theorem d137_8 : decode (mB 137) 8 = .ok (.iaload, 1) := by decide +kernel
theorem d137_9 : decode (mB 137) 9 = .ok (.aload_n 0, 1) := by decide +kernel
theorem d137_10 : decode (mB 137) 10 = .ok (.getfield 37, 3) := by decide +kernel
theorem d137_13 : decode (mB 137) 13 = .ok (.iload_n 1, 1) := by decide +kernel
theorem d137_14 : decode (mB 137) 14 = .ok (.iaload, 1) := by decide +kernel
theorem d137_15 : decode (mB 137) 15 = .ok (.aload_n 0, 1) := by decide +kernel
theorem d137_16 : decode (mB 137) 16 = .ok (.getfield 40, 3) := by decide +kernel
theorem d137_19 : decode (mB 137) 19 = .ok (.iload_n 1, 1) := by decide +kernel
theorem d137_20 : decode (mB 137) 20 = .ok (.iaload, 1) := by decide +kernel
theorem d137_21 : decode (mB 137) 21 = .ok (.iconst 0, 1) := by decide +kernel
theorem d137_22 : decode (mB 137) 22 = .ok (.invokevirtual 255, 3) := by decide +kernel
theorem d137_25 : decode (mB 137) 25 = .ok (.ifCond .eq 100, 3) := by decide +kernel
theorem d137_28 : decode (mB 137) 28 = .ok (.aload_n 0, 1) := by decide +kernel
theorem d137_29 : decode (mB 137) 29 = .ok (.aload_n 0, 1) := by decide +kernel
theorem d137_30 : decode (mB 137) 30 = .ok (.getfield 231, 3) := by decide +kernel
theorem d137_33 : decode (mB 137) 33 = .ok (.aload_n 0, 1) := by decide +kernel
theorem d137_34 : decode (mB 137) 34 = .ok (.getfield 111, 3) := by decide +kernel
theorem d137_37 : decode (mB 137) 37 = .ok (.aload_n 0, 1) := by decide +kernel
theorem d137_38 : decode (mB 137) 38 = .ok (.getfield 231, 3) := by decide +kernel
theorem d137_41 : decode (mB 137) 41 = .ok (.iaload, 1) := by decide +kernel
theorem d137_42 : decode (mB 137) 42 = .ok (.iconst 1, 1) := by decide +kernel
theorem d137_43 : decode (mB 137) 43 = .ok (.isub, 1) := by decide +kernel
theorem d137_44 : decode (mB 137) 44 = .ok (.aload_n 0, 1) := by decide +kernel
theorem d137_45 : decode (mB 137) 45 = .ok (.getfield 37, 3) := by decide +kernel
theorem d137_48 : decode (mB 137) 48 = .ok (.iload_n 1, 1) := by decide +kernel
theorem d137_49 : decode (mB 137) 49 = .ok (.iaload, 1) := by decide +kernel
theorem d137_50 : decode (mB 137) 50 = .ok (.aload_n 0, 1) := by decide +kernel
theorem d137_51 : decode (mB 137) 51 = .ok (.getfield 40, 3) := by decide +kernel
theorem d137_54 : decode (mB 137) 54 = .ok (.iload_n 1, 1) := by decide +kernel
theorem d137_55 : decode (mB 137) 55 = .ok (.iaload, 1) := by decide +kernel
theorem d137_56 : decode (mB 137) 56 = .ok (.iconst 0, 1) := by decide +kernel
theorem d137_57 : decode (mB 137) 57 = .ok (.invokevirtual 234, 3) := by decide +kernel
theorem d137_60 : decode (mB 137) 60 = .ok (.ifCond .eq 26, 3) := by decide +kernel
theorem d137_63 : decode (mB 137) 63 = .ok (.aload_n 0, 1) := by decide +kernel
theorem d137_64 : decode (mB 137) 64 = .ok (.iload_n 1, 1) := by decide +kernel
theorem d137_65 : decode (mB 137) 65 = .ok (.iconst 0, 1) := by decide +kernel
theorem d137_66 : decode (mB 137) 66 = .ok (.aload_n 0, 1) := by decide +kernel
theorem d137_67 : decode (mB 137) 67 = .ok (.getfield 65, 3) := by decide +kernel
theorem d137_70 : decode (mB 137) 70 = .ok (.iload_n 1, 1) := by decide +kernel
theorem d137_71 : decode (mB 137) 71 = .ok (.iaload, 1) := by decide +kernel
theorem d137_72 : decode (mB 137) 72 = .ok (.aload_n 0, 1) := by decide +kernel
theorem d137_73 : decode (mB 137) 73 = .ok (.getfield 231, 3) := by decide +kernel
theorem d137_76 : decode (mB 137) 76 = .ok (.invokevirtual 237, 3) := by decide +kernel
theorem d137_79 : decode (mB 137) 79 = .ok (.ifCond .eq 7, 3) := by decide +kernel
theorem d137_82 : decode (mB 137) 82 = .ok (.iconst 1, 1) := by decide +kernel
theorem d137_83 : decode (mB 137) 83 = .ok (.goto 4, 3) := by decide +kernel
theorem d137_86 : decode (mB 137) 86 = .ok (.iconst 0, 1) := by decide +kernel
theorem d137_87 : decode (mB 137) 87 = .ok (.istore_n 2, 1) := by decide +kernel
theorem d137_88 : decode (mB 137) 88 = .ok (.aload_n 0, 1) := by decide +kernel
theorem d137_89 : decode (mB 137) 89 = .ok (.iload_n 1, 1) := by decide +kernel
theorem d137_90 : decode (mB 137) 90 = .ok (.iconst 0, 1) := by decide +kernel
theorem d137_91 : decode (mB 137) 91 = .ok (.aload_n 0, 1) := by decide +kernel
theorem d137_92 : decode (mB 137) 92 = .ok (.getfield 111, 3) := by decide +kernel
theorem d137_95 : decode (mB 137) 95 = .ok (.aload_n 0, 1) := by decide +kernel
theorem d137_96 : decode (mB 137) 96 = .ok (.getfield 231, 3) := by decide +kernel
theorem d137_99 : decode (mB 137) 99 = .ok (.iaload, 1) := by decide +kernel
theorem d137_100 : decode (mB 137) 100 = .ok (.iconst 0, 1) := by decide +kernel
theorem d137_101 : decode (mB 137) 101 = .ok (.aload_n 0, 1) := by decide +kernel
theorem d137_102 : decode (mB 137) 102 = .ok (.getfield 65, 3) := by decide +kernel
theorem d137_105 : decode (mB 137) 105 = .ok (.iload_n 1, 1) := by decide +kernel
theorem d137_106 : decode (mB 137) 106 = .ok (.iaload, 1) := by decide +kernel
theorem d137_107 : decode (mB 137) 107 = .ok (.aload_n 0, 1) := by decide +kernel
theorem d137_108 : decode (mB 137) 108 = .ok (.getfield 37, 3) := by decide +kernel
theorem d137_111 : decode (mB 137) 111 = .ok (.iload_n 1, 1) := by decide +kernel
theorem d137_112 : decode (mB 137) 112 = .ok (.iaload, 1) := by decide +kernel
theorem d137_113 : decode (mB 137) 113 = .ok (.aload_n 0, 1) := by decide +kernel
theorem d137_114 : decode (mB 137) 114 = .ok (.getfield 40, 3) := by decide +kernel
theorem d137_117 : decode (mB 137) 117 = .ok (.iload_n 1, 1) := by decide +kernel
theorem d137_118 : decode (mB 137) 118 = .ok (.iaload, 1) := by decide +kernel
theorem d137_119 : decode (mB 137) 119 = .ok (.invokevirtual 259, 3) := by decide +kernel
theorem d137_122 : decode (mB 137) 122 = .ok (.goto 18, 3) := by decide +kernel
theorem d137_125 : decode (mB 137) 125 = .ok (.aload_n 0, 1) := by decide +kernel
theorem d137_126 : decode (mB 137) 126 = .ok (.iload_n 1, 1) := by decide +kernel
theorem d137_127 : decode (mB 137) 127 = .ok (.invokevirtual 266, 3) := by decide +kernel
theorem d137_130 : decode (mB 137) 130 = .ok (.ifCond .ne 10, 3) := by decide +kernel
theorem d137_133 : decode (mB 137) 133 = .ok (.aload_n 0, 1) := by decide +kernel
theorem d137_134 : decode (mB 137) 134 = .ok (.getfield 62, 3) := by decide +kernel
theorem d137_137 : decode (mB 137) 137 = .ok (.iload_n 1, 1) := by decide +kernel
theorem d137_138 : decode (mB 137) 138 = .ok (.iconst 3, 1) := by decide +kernel
theorem d137_139 : decode (mB 137) 139 = .ok (.iastore, 1) := by decide +kernel
theorem d137_140 : decode (mB 137) 140 = .ok (.return_, 1) := by decide +kernel
theorem v137_0 (L : Nat) (xs : Nat → Int32) : zVal L xs 137 0 (.inl (i_al 0 1)) := zS_aload_n d137_0 rfl
theorem v137_1 (L : Nat) (xs : Nat → Int32) : zVal L xs 137 1 (.inl (i_il 1 2)) := zS_iload_n d137_1 rfl
theorem v137_2 (L : Nat) (xs : Nat → Int32) : zVal L xs 137 2 (.inl (i_c (.int 0) 3)) := zS_iconst d137_2 (by decide)
theorem v137_3 (L : Nat) (xs : Nat → Int32) : zVal L xs 137 3 (.inl (i_al 0 4)) := zS_aload_n d137_3 rfl
theorem v137_4 (L : Nat) (xs : Nat → Int32) : zVal L xs 137 4 (.inl (i_gf 10 26 7)) := zS_getf d137_4 (zcl10) (by decide) zi10 w804
theorem v137_7 (L : Nat) (xs : Nat → Int32) : zVal L xs 137 7 (.inl (i_il 1 8)) := zS_iload_n d137_7 rfl
theorem v137_8 (L : Nat) (xs : Nat → Int32) : zVal L xs 137 8 (.inl (i_ga 0 9)) := zS_iald d137_8
theorem v137_9 (L : Nat) (xs : Nat → Int32) : zVal L xs 137 9 (.inl (i_al 0 10)) := zS_aload_n d137_9 rfl
theorem v137_10 (L : Nat) (xs : Nat → Int32) : zVal L xs 137 10 (.inl (i_gf 10 15 13)) := zS_getf d137_10 (zcl10) (by decide) zi10 w793
theorem v137_13 (L : Nat) (xs : Nat → Int32) : zVal L xs 137 13 (.inl (i_il 1 14)) := zS_iload_n d137_13 rfl
theorem v137_14 (L : Nat) (xs : Nat → Int32) : zVal L xs 137 14 (.inl (i_ga 0 15)) := zS_iald d137_14
theorem v137_15 (L : Nat) (xs : Nat → Int32) : zVal L xs 137 15 (.inl (i_al 0 16)) := zS_aload_n d137_15 rfl
theorem v137_16 (L : Nat) (xs : Nat → Int32) : zVal L xs 137 16 (.inl (i_gf 10 16 19)) := zS_getf d137_16 (zcl10) (by decide) zi10 w794
theorem v137_19 (L : Nat) (xs : Nat → Int32) : zVal L xs 137 19 (.inl (i_il 1 20)) := zS_iload_n d137_19 rfl
theorem v137_20 (L : Nat) (xs : Nat → Int32) : zVal L xs 137 20 (.inl (i_ga 0 21)) := zS_iald d137_20
theorem v137_21 (L : Nat) (xs : Nat → Int32) : zVal L xs 137 21 (.inl (i_c (.int 0) 22)) := zS_iconst d137_21 (by decide)
theorem v137_22 (L : Nat) (xs : Nat → Int32) : zVal L xs 137 22 (.inr (.inl (130, 7, 11))) := ⟨by decide +kernel, by decide +kernel, zc_virt d137_22 zcl10 w1035 w1032 w1034 w53 w85 ⟨by decide +kernel, by decide +kernel, by decide +kernel⟩ (by decide) (by decide)⟩
theorem v137_25 (L : Nat) (xs : Nat → Int32) : zVal L xs 137 25 (.inl (i_f1 (fun x => decide (x = 0)) 125 28)) := zS_if_eq d137_25 (by decide)
theorem v137_28 (L : Nat) (xs : Nat → Int32) : zVal L xs 137 28 (.inl (i_al 0 29)) := zS_aload_n d137_28 rfl
theorem v137_29 (L : Nat) (xs : Nat → Int32) : zVal L xs 137 29 (.inl (i_al 0 30)) := zS_aload_n d137_29 rfl
theorem v137_30 (L : Nat) (xs : Nat → Int32) : zVal L xs 137 30 (.inl (i_gf 10 45 33)) := zS_getf d137_30 (zcl10) (by decide) zi10 w823
theorem v137_33 (L : Nat) (xs : Nat → Int32) : zVal L xs 137 33 (.inl (i_al 0 34)) := zS_aload_n d137_33 rfl
theorem v137_34 (L : Nat) (xs : Nat → Int32) : zVal L xs 137 34 (.inl (i_gf 10 41 37)) := zS_getf d137_34 (zcl10) (by decide) zi10 w819
theorem v137_37 (L : Nat) (xs : Nat → Int32) : zVal L xs 137 37 (.inl (i_al 0 38)) := zS_aload_n d137_37 rfl
theorem v137_38 (L : Nat) (xs : Nat → Int32) : zVal L xs 137 38 (.inl (i_gf 10 45 41)) := zS_getf d137_38 (zcl10) (by decide) zi10 w823
theorem v137_41 (L : Nat) (xs : Nat → Int32) : zVal L xs 137 41 (.inl (i_ga 0 42)) := zS_iald d137_41
theorem v137_42 (L : Nat) (xs : Nat → Int32) : zVal L xs 137 42 (.inl (i_c (.int 1) 43)) := zS_iconst d137_42 (by decide)
theorem v137_43 (L : Nat) (xs : Nat → Int32) : zVal L xs 137 43 (.inl (i_bi (fun x y => x - y) 44)) := zS_isub d137_43
theorem v137_44 (L : Nat) (xs : Nat → Int32) : zVal L xs 137 44 (.inl (i_al 0 45)) := zS_aload_n d137_44 rfl
theorem v137_45 (L : Nat) (xs : Nat → Int32) : zVal L xs 137 45 (.inl (i_gf 10 15 48)) := zS_getf d137_45 (zcl10) (by decide) zi10 w793
theorem v137_48 (L : Nat) (xs : Nat → Int32) : zVal L xs 137 48 (.inl (i_il 1 49)) := zS_iload_n d137_48 rfl
theorem v137_49 (L : Nat) (xs : Nat → Int32) : zVal L xs 137 49 (.inl (i_ga 0 50)) := zS_iald d137_49
theorem v137_50 (L : Nat) (xs : Nat → Int32) : zVal L xs 137 50 (.inl (i_al 0 51)) := zS_aload_n d137_50 rfl
theorem v137_51 (L : Nat) (xs : Nat → Int32) : zVal L xs 137 51 (.inl (i_gf 10 16 54)) := zS_getf d137_51 (zcl10) (by decide) zi10 w794
theorem v137_54 (L : Nat) (xs : Nat → Int32) : zVal L xs 137 54 (.inl (i_il 1 55)) := zS_iload_n d137_54 rfl
theorem v137_55 (L : Nat) (xs : Nat → Int32) : zVal L xs 137 55 (.inl (i_ga 0 56)) := zS_iald d137_55
theorem v137_56 (L : Nat) (xs : Nat → Int32) : zVal L xs 137 56 (.inl (i_c (.int 0) 57)) := zS_iconst d137_56 (by decide)
theorem v137_57 (L : Nat) (xs : Nat → Int32) : zVal L xs 137 57 (.inr (.inl (126, 6, 11))) := ⟨by decide +kernel, by decide +kernel, zc_virt d137_57 zcl10 w1039 w1036 w1038 w54 w85 ⟨by decide +kernel, by decide +kernel, by decide +kernel⟩ (by decide) (by decide)⟩
theorem v137_60 (L : Nat) (xs : Nat → Int32) : zVal L xs 137 60 (.inl (i_f1 (fun x => decide (x = 0)) 86 63)) := zS_if_eq d137_60 (by decide)
theorem v137_63 (L : Nat) (xs : Nat → Int32) : zVal L xs 137 63 (.inl (i_al 0 64)) := zS_aload_n d137_63 rfl
theorem v137_64 (L : Nat) (xs : Nat → Int32) : zVal L xs 137 64 (.inl (i_il 1 65)) := zS_iload_n d137_64 rfl
theorem v137_65 (L : Nat) (xs : Nat → Int32) : zVal L xs 137 65 (.inl (i_c (.int 0) 66)) := zS_iconst d137_65 (by decide)
theorem v137_66 (L : Nat) (xs : Nat → Int32) : zVal L xs 137 66 (.inl (i_al 0 67)) := zS_aload_n d137_66 rfl
theorem v137_67 (L : Nat) (xs : Nat → Int32) : zVal L xs 137 67 (.inl (i_gf 10 26 70)) := zS_getf d137_67 (zcl10) (by decide) zi10 w804
theorem v137_70 (L : Nat) (xs : Nat → Int32) : zVal L xs 137 70 (.inl (i_il 1 71)) := zS_iload_n d137_70 rfl
theorem v137_71 (L : Nat) (xs : Nat → Int32) : zVal L xs 137 71 (.inl (i_ga 0 72)) := zS_iald d137_71
theorem v137_72 (L : Nat) (xs : Nat → Int32) : zVal L xs 137 72 (.inl (i_al 0 73)) := zS_aload_n d137_72 rfl
theorem v137_73 (L : Nat) (xs : Nat → Int32) : zVal L xs 137 73 (.inl (i_gf 10 45 76)) := zS_getf d137_73 (zcl10) (by decide) zi10 w823
theorem v137_76 (L : Nat) (xs : Nat → Int32) : zVal L xs 137 76 (.inr (.inl (127, 5, 11))) := ⟨by decide +kernel, by decide +kernel, zc_virt d137_76 zcl10 w1043 w1040 w1042 w55 w85 ⟨by decide +kernel, by decide +kernel, by decide +kernel⟩ (by decide) (by decide)⟩
theorem v137_79 (L : Nat) (xs : Nat → Int32) : zVal L xs 137 79 (.inl (i_f1 (fun x => decide (x = 0)) 86 82)) := zS_if_eq d137_79 (by decide)
theorem v137_82 (L : Nat) (xs : Nat → Int32) : zVal L xs 137 82 (.inl (i_c (.int 1) 83)) := zS_iconst d137_82 (by decide)
theorem v137_83 (L : Nat) (xs : Nat → Int32) : zVal L xs 137 83 (.inl (i_go 87)) := zS_goto d137_83 (by decide)
theorem v137_86 (L : Nat) (xs : Nat → Int32) : zVal L xs 137 86 (.inl (i_k [false, false, true] (i_c (.int 0) 87))) := zS_k (zS_iconst d137_86 (by decide))
theorem v137_87 (L : Nat) (xs : Nat → Int32) : zVal L xs 137 87 (.inl (i_k [false, false, true] (i_is 2 88))) := zS_k (zS_istore_n d137_87 rfl)
theorem v137_88 (L : Nat) (xs : Nat → Int32) : zVal L xs 137 88 (.inl (i_al 0 89)) := zS_aload_n d137_88 rfl
theorem v137_89 (L : Nat) (xs : Nat → Int32) : zVal L xs 137 89 (.inl (i_il 1 90)) := zS_iload_n d137_89 rfl
theorem v137_90 (L : Nat) (xs : Nat → Int32) : zVal L xs 137 90 (.inl (i_c (.int 0) 91)) := zS_iconst d137_90 (by decide)
theorem v137_91 (L : Nat) (xs : Nat → Int32) : zVal L xs 137 91 (.inl (i_al 0 92)) := zS_aload_n d137_91 rfl
theorem v137_92 (L : Nat) (xs : Nat → Int32) : zVal L xs 137 92 (.inl (i_gf 10 41 95)) := zS_getf d137_92 (zcl10) (by decide) zi10 w819
theorem v137_95 (L : Nat) (xs : Nat → Int32) : zVal L xs 137 95 (.inl (i_al 0 96)) := zS_aload_n d137_95 rfl
theorem v137_96 (L : Nat) (xs : Nat → Int32) : zVal L xs 137 96 (.inl (i_gf 10 45 99)) := zS_getf d137_96 (zcl10) (by decide) zi10 w823
theorem v137_99 (L : Nat) (xs : Nat → Int32) : zVal L xs 137 99 (.inl (i_ga 0 100)) := zS_iald d137_99
theorem v137_100 (L : Nat) (xs : Nat → Int32) : zVal L xs 137 100 (.inl (i_c (.int 0) 101)) := zS_iconst d137_100 (by decide)
theorem v137_101 (L : Nat) (xs : Nat → Int32) : zVal L xs 137 101 (.inl (i_al 0 102)) := zS_aload_n d137_101 rfl
theorem v137_102 (L : Nat) (xs : Nat → Int32) : zVal L xs 137 102 (.inl (i_gf 10 26 105)) := zS_getf d137_102 (zcl10) (by decide) zi10 w804
theorem v137_105 (L : Nat) (xs : Nat → Int32) : zVal L xs 137 105 (.inl (i_il 1 106)) := zS_iload_n d137_105 rfl
theorem v137_106 (L : Nat) (xs : Nat → Int32) : zVal L xs 137 106 (.inl (i_ga 0 107)) := zS_iald d137_106
theorem v137_107 (L : Nat) (xs : Nat → Int32) : zVal L xs 137 107 (.inl (i_al 0 108)) := zS_aload_n d137_107 rfl
theorem v137_108 (L : Nat) (xs : Nat → Int32) : zVal L xs 137 108 (.inl (i_gf 10 15 111)) := zS_getf d137_108 (zcl10) (by decide) zi10 w793
theorem v137_111 (L : Nat) (xs : Nat → Int32) : zVal L xs 137 111 (.inl (i_il 1 112)) := zS_iload_n d137_111 rfl
theorem v137_112 (L : Nat) (xs : Nat → Int32) : zVal L xs 137 112 (.inl (i_ga 0 113)) := zS_iald d137_112
theorem v137_113 (L : Nat) (xs : Nat → Int32) : zVal L xs 137 113 (.inl (i_al 0 114)) := zS_aload_n d137_113 rfl
theorem v137_114 (L : Nat) (xs : Nat → Int32) : zVal L xs 137 114 (.inl (i_gf 10 16 117)) := zS_getf d137_114 (zcl10) (by decide) zi10 w794
theorem v137_117 (L : Nat) (xs : Nat → Int32) : zVal L xs 137 117 (.inl (i_il 1 118)) := zS_iload_n d137_117 rfl
theorem v137_118 (L : Nat) (xs : Nat → Int32) : zVal L xs 137 118 (.inl (i_ga 0 119)) := zS_iald d137_118
theorem v137_119 (L : Nat) (xs : Nat → Int32) : zVal L xs 137 119 (.inr (.inl (132, 8, 11))) := ⟨by decide +kernel, by decide +kernel, zc_virt d137_119 zcl10 w1059 w1056 w1058 w59 w85 ⟨by decide +kernel, by decide +kernel, by decide +kernel⟩ (by decide) (by decide)⟩
theorem v137_122 (L : Nat) (xs : Nat → Int32) : zVal L xs 137 122 (.inl (i_go 140)) := zS_goto d137_122 (by decide)
theorem v137_125 (L : Nat) (xs : Nat → Int32) : zVal L xs 137 125 (.inl (i_al 0 126)) := zS_aload_n d137_125 rfl
theorem v137_126 (L : Nat) (xs : Nat → Int32) : zVal L xs 137 126 (.inl (i_il 1 127)) := zS_iload_n d137_126 rfl
theorem v137_127 (L : Nat) (xs : Nat → Int32) : zVal L xs 137 127 (.inr (.inl (136, 2, 11))) := ⟨by decide +kernel, by decide +kernel, zc_virt d137_127 zcl10 w1067 w1064 w1066 w61 w85 ⟨by decide +kernel, by decide +kernel, by decide +kernel⟩ (by decide) (by decide)⟩
theorem v137_130 (L : Nat) (xs : Nat → Int32) : zVal L xs 137 130 (.inl (i_f1 (fun x => decide (¬ x = 0)) 140 133)) := zS_if_ne d137_130 (by decide)
theorem v137_133 (L : Nat) (xs : Nat → Int32) : zVal L xs 137 133 (.inl (i_al 0 134)) := zS_aload_n d137_133 rfl
theorem v137_134 (L : Nat) (xs : Nat → Int32) : zVal L xs 137 134 (.inl (i_gf 10 25 137)) := zS_getf d137_134 (zcl10) (by decide) zi10 w803
theorem v137_137 (L : Nat) (xs : Nat → Int32) : zVal L xs 137 137 (.inl (i_il 1 138)) := zS_iload_n d137_137 rfl
theorem v137_138 (L : Nat) (xs : Nat → Int32) : zVal L xs 137 138 (.inl (i_c (.int 3) 139)) := zS_iconst d137_138 (by decide)
theorem v137_139 (L : Nat) (xs : Nat → Int32) : zVal L xs 137 139 (.inl (i_pa 0 (fun x => x) 140)) := zS_iast d137_139
theorem v137_140 (L : Nat) (xs : Nat → Int32) : zVal L xs 137 140 (.inr (.inr 0)) := zr_0 d137_140 rfl
theorem vt137 (L : Nat) (xs : Nat → Int32) : zAll (fun x => zVal L xs 137 x.1 x.2) (tb137) := ⟨v137_0 L xs, v137_1 L xs, v137_2 L xs, v137_3 L xs, v137_4 L xs, v137_7 L xs, v137_8 L xs, v137_9 L xs, v137_10 L xs, v137_13 L xs, v137_14 L xs, v137_15 L xs, v137_16 L xs, v137_19 L xs, v137_20 L xs, v137_21 L xs, v137_22 L xs, v137_25 L xs, v137_28 L xs, v137_29 L xs, v137_30 L xs, v137_33 L xs, v137_34 L xs, v137_37 L xs, v137_38 L xs, v137_41 L xs, v137_42 L xs, v137_43 L xs, v137_44 L xs, v137_45 L xs, v137_48 L xs, v137_49 L xs, v137_50 L xs, v137_51 L xs, v137_54 L xs, v137_55 L xs, v137_56 L xs, v137_57 L xs, v137_60 L xs, v137_63 L xs, v137_64 L xs, v137_65 L xs, v137_66 L xs, v137_67 L xs, v137_70 L xs, v137_71 L xs, v137_72 L xs, v137_73 L xs, v137_76 L xs, v137_79 L xs, v137_82 L xs, v137_83 L xs, v137_86 L xs, v137_87 L xs, v137_88 L xs, v137_89 L xs, v137_90 L xs, v137_91 L xs, v137_92 L xs, v137_95 L xs, v137_96 L xs, v137_99 L xs, v137_100 L xs, v137_101 L xs, v137_102 L xs, v137_105 L xs, v137_106 L xs, v137_107 L xs, v137_108 L xs, v137_111 L xs, v137_112 L xs, v137_113 L xs, v137_114 L xs, v137_117 L xs, v137_118 L xs, v137_119 L xs, v137_122 L xs, v137_125 L xs, v137_126 L xs, v137_127 L xs, v137_130 L xs, v137_133 L xs, v137_134 L xs, v137_137 L xs, v137_138 L xs, v137_139 L xs, v137_140 L xs, trivial⟩
theorem d138_0 : decode (mB 138) 0 = .ok (.aload_n 0, 1) := by decide +kernel
theorem d138_1 : decode (mB 138) 1 = .ok (.getfield 183, 3) := by decide +kernel
theorem d138_4 : decode (mB 138) 4 = .ok (.ifCond .ne 5, 3) := by decide +kernel
theorem d138_7 : decode (mB 138) 7 = .ok (.iconst (-1), 1) := by decide +kernel
theorem d138_8 : decode (mB 138) 8 = .ok (.ireturn, 1) := by decide +kernel
theorem d138_9 : decode (mB 138) 9 = .ok (.aload_n 0, 1) := by decide +kernel
theorem d138_10 : decode (mB 138) 10 = .ok (.invokevirtual 193, 3) := by decide +kernel
theorem d138_13 : decode (mB 138) 13 = .ok (.aload_n 0, 1) := by decide +kernel
theorem d138_14 : decode (mB 138) 14 = .ok (.iconst 1, 1) := by decide +kernel
theorem d138_15 : decode (mB 138) 15 = .ok (.putfield 189, 3) := by decide +kernel
theorem d138_18 : decode (mB 138) 18 = .ok (.iconst 0, 1) := by decide +kernel
theorem d138_19 : decode (mB 138) 19 = .ok (.istore_n 1, 1) := by decide +kernel
theorem d138_20 : decode (mB 138) 20 = .ok (.iload_n 1, 1) := by decide +kernel
theorem d138_21 : decode (mB 138) 21 = .ok (.bipush 26, 2) := by decide +kernel
theorem d138_23 : decode (mB 138) 23 = .ok (.if_icmp .ge 21, 3) := by decide +kernel
theorem d138_26 : decode (mB 138) 26 = .ok (.aload_n 0, 1) := by decide +kernel
theorem d138_27 : decode (mB 138) 27 = .ok (.getfield 13, 3) := by decide +kernel
theorem d138_30 : decode (mB 138) 30 = .ok (.iload_n 1, 1) := by decide +kernel
theorem d138_31 : decode (mB 138) 31 = .ok (.aload_n 0, 1) := by decide +kernel
theorem d138_32 : decode (mB 138) 32 = .ok (.getfield 7, 3) := by decide +kernel
theorem d138_35 : decode (mB 138) 35 = .ok (.iload_n 1, 1) := by decide +kernel
theorem d138_36 : decode (mB 138) 36 = .ok (.iaload, 1) := by decide +kernel
theorem d138_37 : decode (mB 138) 37 = .ok (.iastore, 1) := by decide +kernel
theorem d138_38 : decode (mB 138) 38 = .ok (.iinc 1 1, 3) := by decide +kernel
theorem d138_41 : decode (mB 138) 41 = .ok (.goto (-21), 3) := by decide +kernel
theorem d138_44 : decode (mB 138) 44 = .ok (.iconst 0, 1) := by decide +kernel
theorem d138_45 : decode (mB 138) 45 = .ok (.istore_n 1, 1) := by decide +kernel
theorem d138_46 : decode (mB 138) 46 = .ok (.iload_n 1, 1) := by decide +kernel
theorem d138_47 : decode (mB 138) 47 = .ok (.aload_n 0, 1) := by decide +kernel
theorem d138_48 : decode (mB 138) 48 = .ok (.getfield 183, 3) := by decide +kernel
theorem d138_51 : decode (mB 138) 51 = .ok (.if_icmp .ge 14, 3) := by decide +kernel
theorem d138_54 : decode (mB 138) 54 = .ok (.aload_n 0, 1) := by decide +kernel
theorem d138_55 : decode (mB 138) 55 = .ok (.iload_n 1, 1) := by decide +kernel
theorem d138_56 : decode (mB 138) 56 = .ok (.invokevirtual 269, 3) := by decide +kernel
theorem d138_59 : decode (mB 138) 59 = .ok (.iinc 1 1, 3) := by decide +kernel
theorem d138_62 : decode (mB 138) 62 = .ok (.goto (-16), 3) := by decide +kernel
theorem d138_65 : decode (mB 138) 65 = .ok (.bipush 9, 2) := by decide +kernel
theorem d138_67 : decode (mB 138) 67 = .ok (.istore_n 1, 1) := by decide +kernel
theorem d138_68 : decode (mB 138) 68 = .ok (.iload_n 1, 1) := by decide +kernel
theorem d138_69 : decode (mB 138) 69 = .ok (.ifCond .lt 49, 3) := by decide +kernel
theorem d138_72 : decode (mB 138) 72 = .ok (.iconst 0, 1) := by decide +kernel
theorem d138_73 : decode (mB 138) 73 = .ok (.istore_n 2, 1) := by decide +kernel
theorem d138_74 : decode (mB 138) 74 = .ok (.iload_n 2, 1) := by decide +kernel
theorem d138_75 : decode (mB 138) 75 = .ok (.aload_n 0, 1) := by decide +kernel
theorem d138_76 : decode (mB 138) 76 = .ok (.getfield 183, 3) := by decide +kernel
theorem d138_79 : decode (mB 138) 79 = .ok (.if_icmp .ge 33, 3) := by decide +kernel
theorem d138_82 : decode (mB 138) 82 = .ok (.aload_n 0, 1) := by decide +kernel
theorem d138_83 : decode (mB 138) 83 = .ok (.getfield 34, 3) := by decide +kernel
theorem d138_86 : decode (mB 138) 86 = .ok (.iload_n 2, 1) := by decide +kernel
theorem d138_87 : decode (mB 138) 87 = .ok (.iaload, 1) := by decide +kernel
theorem d138_88 : decode (mB 138) 88 = .ok (.iload_n 1, 1) := by decide +kernel
theorem d138_89 : decode (mB 138) 89 = .ok (.if_icmp .ne 17, 3) := by decide +kernel
theorem d138_92 : decode (mB 138) 92 = .ok (.aload_n 0, 1) := by decide +kernel
theorem d138_93 : decode (mB 138) 93 = .ok (.getfield 62, 3) := by decide +kernel
theorem d138_96 : decode (mB 138) 96 = .ok (.iload_n 2, 1) := by decide +kernel
theorem d138_97 : decode (mB 138) 97 = .ok (.iaload, 1) := by decide +kernel
theorem d138_98 : decode (mB 138) 98 = .ok (.ifCond .ne 8, 3) := by decide +kernel
theorem d138_101 : decode (mB 138) 101 = .ok (.aload_n 0, 1) := by decide +kernel
theorem d138_102 : decode (mB 138) 102 = .ok (.iload_n 2, 1) := by decide +kernel
theorem d138_103 : decode (mB 138) 103 = .ok (.invokevirtual 272, 3) := by decide +kernel
theorem d138_106 : decode (mB 138) 106 = .ok (.iinc 2 1, 3) := by decide +kernel
theorem d138_109 : decode (mB 138) 109 = .ok (.goto (-35), 3) := by decide +kernel
theorem d138_112 : decode (mB 138) 112 = .ok (.iinc 1 (-1), 3) := by decide +kernel
theorem d138_115 : decode (mB 138) 115 = .ok (.goto (-47), 3) := by decide +kernel
theorem d138_118 : decode (mB 138) 118 = .ok (.iconst 0, 1) := by decide +kernel
theorem d138_119 : decode (mB 138) 119 = .ok (.istore_n 1, 1) := by decide +kernel
theorem d138_120 : decode (mB 138) 120 = .ok (.iconst 0, 1) := by decide +kernel
theorem d138_121 : decode (mB 138) 121 = .ok (.istore_n 2, 1) := by decide +kernel
theorem d138_122 : decode (mB 138) 122 = .ok (.iload_n 2, 1) := by decide +kernel
theorem d138_123 : decode (mB 138) 123 = .ok (.aload_n 0, 1) := by decide +kernel
theorem d138_124 : decode (mB 138) 124 = .ok (.getfield 183, 3) := by decide +kernel
theorem d138_127 : decode (mB 138) 127 = .ok (.if_icmp .ge 26, 3) := by decide +kernel
theorem d138_130 : decode (mB 138) 130 = .ok (.aload_n 0, 1) := by decide +kernel
theorem d138_131 : decode (mB 138) 131 = .ok (.getfield 62, 3) := by decide +kernel
theorem d138_134 : decode (mB 138) 134 = .ok (.iload_n 2, 1) := by decide +kernel
theorem d138_135 : decode (mB 138) 135 = .ok (.iaload, 1) := by decide +kernel
theorem d138_136 : decode (mB 138) 136 = .ok (.ifCond .ne 9, 3) := by decide +kernel
theorem d138_139 : decode (mB 138) 139 = .ok (.iload_n 1, 1) := by decide +kernel
theorem d138_140 : decode (mB 138) 140 = .ok (.iconst 1, 1) := by decide +kernel
theorem d138_141 : decode (mB 138) 141 = .ok (.iadd, 1) := by decide +kernel
theorem d138_142 : decode (mB 138) 142 = .ok (.goto 4, 3) := by decide +kernel
theorem d138_145 : decode (mB 138) 145 = .ok (.iload_n 1, 1) := by decide +kernel
theorem d138_146 : decode (mB 138) 146 = .ok (.istore_n 1, 1) := by decide +kernel
theorem d138_147 : decode (mB 138) 147 = .ok (.iinc 2 1, 3) := by decide +kernel
theorem d138_150 : decode (mB 138) 150 = .ok (.goto (-28), 3) := by decide +kernel
theorem d138_153 : decode (mB 138) 153 = .ok (.iload_n 1, 1) := by decide +kernel
theorem d138_154 : decode (mB 138) 154 = .ok (.ireturn, 1) := by decide +kernel
theorem v138_0 (L : Nat) (xs : Nat → Int32) : zVal L xs 138 0 (.inl (i_al 0 1)) := zS_aload_n d138_0 rfl
theorem v138_1 (L : Nat) (xs : Nat → Int32) : zVal L xs 138 1 (.inl (i_gf 10 13 4)) := zS_getf d138_1 (zcl10) (by decide) zi10 w791
theorem v138_4 (L : Nat) (xs : Nat → Int32) : zVal L xs 138 4 (.inl (i_f1 (fun x => decide (¬ x = 0)) 9 7)) := zS_if_ne d138_4 (by decide)
theorem v138_7 (L : Nat) (xs : Nat → Int32) : zVal L xs 138 7 (.inl (i_c (.int (-1)) 8)) := zS_iconst d138_7 (by decide)
theorem v138_8 (L : Nat) (xs : Nat → Int32) : zVal L xs 138 8 (.inr (.inr 1)) := zr_1 d138_8 rfl
theorem v138_9 (L : Nat) (xs : Nat → Int32) : zVal L xs 138 9 (.inl (i_al 0 10)) := zS_aload_n d138_9 rfl
theorem v138_10 (L : Nat) (xs : Nat → Int32) : zVal L xs 138 10 (.inr (.inl (115, 1, 11))) := ⟨by decide +kernel, by decide +kernel, zc_virt d138_10 zcl10 w971 w968 w970 w39 w85 ⟨by decide +kernel, by decide +kernel, by decide +kernel⟩ (by decide) (by decide)⟩
theorem v138_13 (L : Nat) (xs : Nat → Int32) : zVal L xs 138 13 (.inl (i_al 0 14)) := zS_aload_n d138_13 rfl
theorem v138_14 (L : Nat) (xs : Nat → Int32) : zVal L xs 138 14 (.inl (i_c (.int 1) 15)) := zS_iconst d138_14 (by decide)
theorem v138_15 (L : Nat) (xs : Nat → Int32) : zVal L xs 138 15 (.inl (i_pf 10 24 okZ 18)) := zS_putf (ty := .boolean) d138_15 (zcl10) (by decide) zi10 w802 zy10 zn10 (by decide +kernel) (by decide +kernel) okZ_ok
theorem v138_18 (L : Nat) (xs : Nat → Int32) : zVal L xs 138 18 (.inl (i_c (.int 0) 19)) := zS_iconst d138_18 (by decide)
theorem v138_19 (L : Nat) (xs : Nat → Int32) : zVal L xs 138 19 (.inl (i_is 1 20)) := zS_istore_n d138_19 rfl
theorem v138_20 (L : Nat) (xs : Nat → Int32) : zVal L xs 138 20 (.inl (i_k [false, false, true] (i_il 1 21))) := zS_k (zS_iload_n d138_20 rfl)
theorem v138_21 (L : Nat) (xs : Nat → Int32) : zVal L xs 138 21 (.inl (i_c (.int 26) 23)) := zS_bipush d138_21 (by decide)
theorem v138_23 (L : Nat) (xs : Nat → Int32) : zVal L xs 138 23 (.inl (i_f2 (fun x y => decide (y ≤ x)) 44 26)) := zS_icmp_ge d138_23 (by decide)
theorem v138_26 (L : Nat) (xs : Nat → Int32) : zVal L xs 138 26 (.inl (i_al 0 27)) := zS_aload_n d138_26 rfl
theorem v138_27 (L : Nat) (xs : Nat → Int32) : zVal L xs 138 27 (.inl (i_gf 10 4 30)) := zS_getf d138_27 (zcl10) (by decide) zi10 w782
theorem v138_30 (L : Nat) (xs : Nat → Int32) : zVal L xs 138 30 (.inl (i_il 1 31)) := zS_iload_n d138_30 rfl
theorem v138_31 (L : Nat) (xs : Nat → Int32) : zVal L xs 138 31 (.inl (i_al 0 32)) := zS_aload_n d138_31 rfl
theorem v138_32 (L : Nat) (xs : Nat → Int32) : zVal L xs 138 32 (.inl (i_gf 10 3 35)) := zS_getf d138_32 (zcl10) (by decide) zi10 w781
theorem v138_35 (L : Nat) (xs : Nat → Int32) : zVal L xs 138 35 (.inl (i_il 1 36)) := zS_iload_n d138_35 rfl
theorem v138_36 (L : Nat) (xs : Nat → Int32) : zVal L xs 138 36 (.inl (i_ga 0 37)) := zS_iald d138_36
theorem v138_37 (L : Nat) (xs : Nat → Int32) : zVal L xs 138 37 (.inl (i_pa 0 (fun x => x) 38)) := zS_iast d138_37
theorem v138_38 (L : Nat) (xs : Nat → Int32) : zVal L xs 138 38 (.inl (i_in 1 1 41)) := zS_iinc d138_38 (by decide)
theorem v138_41 (L : Nat) (xs : Nat → Int32) : zVal L xs 138 41 (.inl (i_go 20)) := zS_goto d138_41 (by decide)
theorem v138_44 (L : Nat) (xs : Nat → Int32) : zVal L xs 138 44 (.inl (i_c (.int 0) 45)) := zS_iconst d138_44 (by decide)
theorem v138_45 (L : Nat) (xs : Nat → Int32) : zVal L xs 138 45 (.inl (i_is 1 46)) := zS_istore_n d138_45 rfl
theorem v138_46 (L : Nat) (xs : Nat → Int32) : zVal L xs 138 46 (.inl (i_k [false, false, true] (i_il 1 47))) := zS_k (zS_iload_n d138_46 rfl)
theorem v138_47 (L : Nat) (xs : Nat → Int32) : zVal L xs 138 47 (.inl (i_al 0 48)) := zS_aload_n d138_47 rfl
theorem v138_48 (L : Nat) (xs : Nat → Int32) : zVal L xs 138 48 (.inl (i_gf 10 13 51)) := zS_getf d138_48 (zcl10) (by decide) zi10 w791
theorem v138_51 (L : Nat) (xs : Nat → Int32) : zVal L xs 138 51 (.inl (i_f2 (fun x y => decide (y ≤ x)) 65 54)) := zS_icmp_ge d138_51 (by decide)
theorem v138_54 (L : Nat) (xs : Nat → Int32) : zVal L xs 138 54 (.inl (i_al 0 55)) := zS_aload_n d138_54 rfl
theorem v138_55 (L : Nat) (xs : Nat → Int32) : zVal L xs 138 55 (.inl (i_il 1 56)) := zS_iload_n d138_55 rfl
theorem v138_56 (L : Nat) (xs : Nat → Int32) : zVal L xs 138 56 (.inr (.inl (124, 2, 11))) := ⟨by decide +kernel, by decide +kernel, zc_virt d138_56 zcl10 w1015 w1012 w1014 w48 w85 ⟨by decide +kernel, by decide +kernel, by decide +kernel⟩ (by decide) (by decide)⟩
theorem v138_59 (L : Nat) (xs : Nat → Int32) : zVal L xs 138 59 (.inl (i_in 1 1 62)) := zS_iinc d138_59 (by decide)
theorem v138_62 (L : Nat) (xs : Nat → Int32) : zVal L xs 138 62 (.inl (i_go 46)) := zS_goto d138_62 (by decide)
theorem v138_65 (L : Nat) (xs : Nat → Int32) : zVal L xs 138 65 (.inl (i_c (.int 9) 67)) := zS_bipush d138_65 (by decide)
theorem v138_67 (L : Nat) (xs : Nat → Int32) : zVal L xs 138 67 (.inl (i_is 1 68)) := zS_istore_n d138_67 rfl
theorem v138_68 (L : Nat) (xs : Nat → Int32) : zVal L xs 138 68 (.inl (i_k [false, false, true] (i_il 1 69))) := zS_k (zS_iload_n d138_68 rfl)
theorem v138_69 (L : Nat) (xs : Nat → Int32) : zVal L xs 138 69 (.inl (i_f1 (fun x => decide (x < 0)) 118 72)) := zS_if_lt d138_69 (by decide)
theorem v138_72 (L : Nat) (xs : Nat → Int32) : zVal L xs 138 72 (.inl (i_c (.int 0) 73)) := zS_iconst d138_72 (by decide)
theorem v138_73 (L : Nat) (xs : Nat → Int32) : zVal L xs 138 73 (.inl (i_is 2 74)) := zS_istore_n d138_73 rfl
theorem v138_74 (L : Nat) (xs : Nat → Int32) : zVal L xs 138 74 (.inl (i_k [false, false, false] (i_il 2 75))) := zS_k (zS_iload_n d138_74 rfl)
theorem v138_75 (L : Nat) (xs : Nat → Int32) : zVal L xs 138 75 (.inl (i_al 0 76)) := zS_aload_n d138_75 rfl
theorem v138_76 (L : Nat) (xs : Nat → Int32) : zVal L xs 138 76 (.inl (i_gf 10 13 79)) := zS_getf d138_76 (zcl10) (by decide) zi10 w791
theorem v138_79 (L : Nat) (xs : Nat → Int32) : zVal L xs 138 79 (.inl (i_f2 (fun x y => decide (y ≤ x)) 112 82)) := zS_icmp_ge d138_79 (by decide)
theorem v138_82 (L : Nat) (xs : Nat → Int32) : zVal L xs 138 82 (.inl (i_al 0 83)) := zS_aload_n d138_82 rfl
theorem v138_83 (L : Nat) (xs : Nat → Int32) : zVal L xs 138 83 (.inl (i_gf 10 14 86)) := zS_getf d138_83 (zcl10) (by decide) zi10 w792
theorem v138_86 (L : Nat) (xs : Nat → Int32) : zVal L xs 138 86 (.inl (i_il 2 87)) := zS_iload_n d138_86 rfl
theorem v138_87 (L : Nat) (xs : Nat → Int32) : zVal L xs 138 87 (.inl (i_ga 0 88)) := zS_iald d138_87
theorem v138_88 (L : Nat) (xs : Nat → Int32) : zVal L xs 138 88 (.inl (i_il 1 89)) := zS_iload_n d138_88 rfl
theorem v138_89 (L : Nat) (xs : Nat → Int32) : zVal L xs 138 89 (.inl (i_f2 (fun x y => decide (¬ x = y)) 106 92)) := zS_icmp_ne d138_89 (by decide)
theorem v138_92 (L : Nat) (xs : Nat → Int32) : zVal L xs 138 92 (.inl (i_al 0 93)) := zS_aload_n d138_92 rfl
theorem v138_93 (L : Nat) (xs : Nat → Int32) : zVal L xs 138 93 (.inl (i_gf 10 25 96)) := zS_getf d138_93 (zcl10) (by decide) zi10 w803
theorem v138_96 (L : Nat) (xs : Nat → Int32) : zVal L xs 138 96 (.inl (i_il 2 97)) := zS_iload_n d138_96 rfl
theorem v138_97 (L : Nat) (xs : Nat → Int32) : zVal L xs 138 97 (.inl (i_ga 0 98)) := zS_iald d138_97
theorem v138_98 (L : Nat) (xs : Nat → Int32) : zVal L xs 138 98 (.inl (i_f1 (fun x => decide (¬ x = 0)) 106 101)) := zS_if_ne d138_98 (by decide)
theorem v138_101 (L : Nat) (xs : Nat → Int32) : zVal L xs 138 101 (.inl (i_al 0 102)) := zS_aload_n d138_101 rfl
theorem v138_102 (L : Nat) (xs : Nat → Int32) : zVal L xs 138 102 (.inl (i_il 2 103)) := zS_iload_n d138_102 rfl
theorem v138_103 (L : Nat) (xs : Nat → Int32) : zVal L xs 138 103 (.inr (.inl (137, 2, 11))) := ⟨by decide +kernel, by decide +kernel, zc_virt d138_103 zcl10 w1031 w1028 w1030 w52 w85 ⟨by decide +kernel, by decide +kernel, by decide +kernel⟩ (by decide) (by decide)⟩
theorem v138_106 (L : Nat) (xs : Nat → Int32) : zVal L xs 138 106 (.inl (i_k [false, false, false] (i_in 2 1 109))) := zS_k (zS_iinc d138_106 (by decide))
theorem v138_109 (L : Nat) (xs : Nat → Int32) : zVal L xs 138 109 (.inl (i_go 74)) := zS_goto d138_109 (by decide)
theorem v138_112 (L : Nat) (xs : Nat → Int32) : zVal L xs 138 112 (.inl (i_in 1 (-1) 115)) := zS_iinc d138_112 (by decide)
theorem v138_115 (L : Nat) (xs : Nat → Int32) : zVal L xs 138 115 (.inl (i_go 68)) := zS_goto d138_115 (by decide)
theorem v138_118 (L : Nat) (xs : Nat → Int32) : zVal L xs 138 118 (.inl (i_c (.int 0) 119)) := zS_iconst d138_118 (by decide)
theorem v138_119 (L : Nat) (xs : Nat → Int32) : zVal L xs 138 119 (.inl (i_is 1 120)) := zS_istore_n d138_119 rfl
theorem v138_120 (L : Nat) (xs : Nat → Int32) : zVal L xs 138 120 (.inl (i_c (.int 0) 121)) := zS_iconst d138_120 (by decide)
theorem v138_121 (L : Nat) (xs : Nat → Int32) : zVal L xs 138 121 (.inl (i_is 2 122)) := zS_istore_n d138_121 rfl
theorem v138_122 (L : Nat) (xs : Nat → Int32) : zVal L xs 138 122 (.inl (i_k [false, false, false] (i_il 2 123))) := zS_k (zS_iload_n d138_122 rfl)
theorem v138_123 (L : Nat) (xs : Nat → Int32) : zVal L xs 138 123 (.inl (i_al 0 124)) := zS_aload_n d138_123 rfl
theorem v138_124 (L : Nat) (xs : Nat → Int32) : zVal L xs 138 124 (.inl (i_gf 10 13 127)) := zS_getf d138_124 (zcl10) (by decide) zi10 w791
theorem v138_127 (L : Nat) (xs : Nat → Int32) : zVal L xs 138 127 (.inl (i_f2 (fun x y => decide (y ≤ x)) 153 130)) := zS_icmp_ge d138_127 (by decide)
theorem v138_130 (L : Nat) (xs : Nat → Int32) : zVal L xs 138 130 (.inl (i_al 0 131)) := zS_aload_n d138_130 rfl
theorem v138_131 (L : Nat) (xs : Nat → Int32) : zVal L xs 138 131 (.inl (i_gf 10 25 134)) := zS_getf d138_131 (zcl10) (by decide) zi10 w803
theorem v138_134 (L : Nat) (xs : Nat → Int32) : zVal L xs 138 134 (.inl (i_il 2 135)) := zS_iload_n d138_134 rfl
theorem v138_135 (L : Nat) (xs : Nat → Int32) : zVal L xs 138 135 (.inl (i_ga 0 136)) := zS_iald d138_135
theorem v138_136 (L : Nat) (xs : Nat → Int32) : zVal L xs 138 136 (.inl (i_f1 (fun x => decide (¬ x = 0)) 145 139)) := zS_if_ne d138_136 (by decide)
theorem v138_139 (L : Nat) (xs : Nat → Int32) : zVal L xs 138 139 (.inl (i_il 1 140)) := zS_iload_n d138_139 rfl
theorem v138_140 (L : Nat) (xs : Nat → Int32) : zVal L xs 138 140 (.inl (i_c (.int 1) 141)) := zS_iconst d138_140 (by decide)
theorem v138_141 (L : Nat) (xs : Nat → Int32) : zVal L xs 138 141 (.inl (i_bi (fun x y => x + y) 142)) := zS_iadd d138_141
theorem v138_142 (L : Nat) (xs : Nat → Int32) : zVal L xs 138 142 (.inl (i_go 146)) := zS_goto d138_142 (by decide)
theorem v138_145 (L : Nat) (xs : Nat → Int32) : zVal L xs 138 145 (.inl (i_il 1 146)) := zS_iload_n d138_145 rfl
theorem v138_146 (L : Nat) (xs : Nat → Int32) : zVal L xs 138 146 (.inl (i_k [false, true, false] (i_is 1 147))) := zS_k (zS_istore_n d138_146 rfl)
theorem v138_147 (L : Nat) (xs : Nat → Int32) : zVal L xs 138 147 (.inl (i_in 2 1 150)) := zS_iinc d138_147 (by decide)
theorem v138_150 (L : Nat) (xs : Nat → Int32) : zVal L xs 138 150 (.inl (i_go 122)) := zS_goto d138_150 (by decide)
theorem v138_153 (L : Nat) (xs : Nat → Int32) : zVal L xs 138 153 (.inl (i_il 1 154)) := zS_iload_n d138_153 rfl
theorem v138_154 (L : Nat) (xs : Nat → Int32) : zVal L xs 138 154 (.inr (.inr 1)) := zr_1 d138_154 rfl
theorem vt138 (L : Nat) (xs : Nat → Int32) : zAll (fun x => zVal L xs 138 x.1 x.2) (tb138) := ⟨v138_0 L xs, v138_1 L xs, v138_4 L xs, v138_7 L xs, v138_8 L xs, v138_9 L xs, v138_10 L xs, v138_13 L xs, v138_14 L xs, v138_15 L xs, v138_18 L xs, v138_19 L xs, v138_20 L xs, v138_21 L xs, v138_23 L xs, v138_26 L xs, v138_27 L xs, v138_30 L xs, v138_31 L xs, v138_32 L xs, v138_35 L xs, v138_36 L xs, v138_37 L xs, v138_38 L xs, v138_41 L xs, v138_44 L xs, v138_45 L xs, v138_46 L xs, v138_47 L xs, v138_48 L xs, v138_51 L xs, v138_54 L xs, v138_55 L xs, v138_56 L xs, v138_59 L xs, v138_62 L xs, v138_65 L xs, v138_67 L xs, v138_68 L xs, v138_69 L xs, v138_72 L xs, v138_73 L xs, v138_74 L xs, v138_75 L xs, v138_76 L xs, v138_79 L xs, v138_82 L xs, v138_83 L xs, v138_86 L xs, v138_87 L xs, v138_88 L xs, v138_89 L xs, v138_92 L xs, v138_93 L xs, v138_96 L xs, v138_97 L xs, v138_98 L xs, v138_101 L xs, v138_102 L xs, v138_103 L xs, v138_106 L xs, v138_109 L xs, v138_112 L xs, v138_115 L xs, v138_118 L xs, v138_119 L xs, v138_120 L xs, v138_121 L xs, v138_122 L xs, v138_123 L xs, v138_124 L xs, v138_127 L xs, v138_130 L xs, v138_131 L xs, v138_134 L xs, v138_135 L xs, v138_136 L xs, v138_139 L xs, v138_140 L xs, v138_141 L xs, v138_142 L xs, v138_145 L xs, v138_146 L xs, v138_147 L xs, v138_150 L xs, v138_153 L xs, v138_154 L xs, trivial⟩
theorem d139_0 : decode (mB 139) 0 = .ok (.aload_n 0, 1) := by decide +kernel
theorem d139_1 : decode (mB 139) 1 = .ok (.getfield 189, 3) := by decide +kernel
theorem d139_4 : decode (mB 139) 4 = .ok (.ifCond .eq 19, 3) := by decide +kernel
theorem d139_7 : decode (mB 139) 7 = .ok (.iload_n 1, 1) := by decide +kernel
theorem d139_8 : decode (mB 139) 8 = .ok (.ifCond .lt 15, 3) := by decide +kernel
theorem d139_11 : decode (mB 139) 11 = .ok (.iload_n 1, 1) := by decide +kernel
theorem d139_12 : decode (mB 139) 12 = .ok (.aload_n 0, 1) := by decide +kernel
theorem d139_13 : decode (mB 139) 13 = .ok (.getfield 183, 3) := by decide +kernel
theorem d139_16 : decode (mB 139) 16 = .ok (.if_icmp .ge 7, 3) := by decide +kernel
theorem d139_19 : decode (mB 139) 19 = .ok (.iconst 1, 1) := by decide +kernel
theorem d139_20 : decode (mB 139) 20 = .ok (.goto 4, 3) := by decide +kernel
theorem d139_23 : decode (mB 139) 23 = .ok (.iconst 0, 1) := by decide +kernel
theorem d139_24 : decode (mB 139) 24 = .ok (.ireturn, 1) := by decide +kernel
theorem v139_0 (L : Nat) (xs : Nat → Int32) : zVal L xs 139 0 (.inl (i_al 0 1)) := zS_aload_n d139_0 rfl
theorem v139_1 (L : Nat) (xs : Nat → Int32) : zVal L xs 139 1 (.inl (i_gf 10 24 4)) := zS_getf d139_1 (zcl10) (by decide) zi10 w802
theorem v139_4 (L : Nat) (xs : Nat → Int32) : zVal L xs 139 4 (.inl (i_f1 (fun x => decide (x = 0)) 23 7)) := zS_if_eq d139_4 (by decide)
theorem v139_7 (L : Nat) (xs : Nat → Int32) : zVal L xs 139 7 (.inl (i_il 1 8)) := zS_iload_n d139_7 rfl
theorem v139_8 (L : Nat) (xs : Nat → Int32) : zVal L xs 139 8 (.inl (i_f1 (fun x => decide (x < 0)) 23 11)) := zS_if_lt d139_8 (by decide)
theorem v139_11 (L : Nat) (xs : Nat → Int32) : zVal L xs 139 11 (.inl (i_il 1 12)) := zS_iload_n d139_11 rfl
theorem v139_12 (L : Nat) (xs : Nat → Int32) : zVal L xs 139 12 (.inl (i_al 0 13)) := zS_aload_n d139_12 rfl
theorem v139_13 (L : Nat) (xs : Nat → Int32) : zVal L xs 139 13 (.inl (i_gf 10 13 16)) := zS_getf d139_13 (zcl10) (by decide) zi10 w791
theorem v139_16 (L : Nat) (xs : Nat → Int32) : zVal L xs 139 16 (.inl (i_f2 (fun x y => decide (y ≤ x)) 23 19)) := zS_icmp_ge d139_16 (by decide)
theorem v139_19 (L : Nat) (xs : Nat → Int32) : zVal L xs 139 19 (.inl (i_c (.int 1) 20)) := zS_iconst d139_19 (by decide)
theorem v139_20 (L : Nat) (xs : Nat → Int32) : zVal L xs 139 20 (.inl (i_go 24)) := zS_goto d139_20 (by decide)
theorem v139_23 (L : Nat) (xs : Nat → Int32) : zVal L xs 139 23 (.inl (i_k [true, true] (i_c (.int 0) 24))) := zS_k (zS_iconst d139_23 (by decide))
theorem v139_24 (L : Nat) (xs : Nat → Int32) : zVal L xs 139 24 (.inr (.inr 2)) := zr_2 d139_24 rfl
theorem vt139 (L : Nat) (xs : Nat → Int32) : zAll (fun x => zVal L xs 139 x.1 x.2) (tb139) := ⟨v139_0 L xs, v139_1 L xs, v139_4 L xs, v139_7 L xs, v139_8 L xs, v139_11 L xs, v139_12 L xs, v139_13 L xs, v139_16 L xs, v139_19 L xs, v139_20 L xs, v139_23 L xs, v139_24 L xs, trivial⟩
theorem d140_0 : decode (mB 140) 0 = .ok (.aload_n 0, 1) := by decide +kernel
theorem d140_1 : decode (mB 140) 1 = .ok (.iload_n 1, 1) := by decide +kernel
theorem d140_2 : decode (mB 140) 2 = .ok (.invokevirtual 275, 3) := by decide +kernel
theorem d140_5 : decode (mB 140) 5 = .ok (.ifCond .eq 12, 3) := by decide +kernel
theorem d140_8 : decode (mB 140) 8 = .ok (.aload_n 0, 1) := by decide +kernel
theorem d140_9 : decode (mB 140) 9 = .ok (.getfield 62, 3) := by decide +kernel
theorem d140_12 : decode (mB 140) 12 = .ok (.iload_n 1, 1) := by decide +kernel
theorem d140_13 : decode (mB 140) 13 = .ok (.iaload, 1) := by decide +kernel
theorem d140_14 : decode (mB 140) 14 = .ok (.goto 4, 3) := by decide +kernel
theorem d140_17 : decode (mB 140) 17 = .ok (.iconst (-1), 1) := by decide +kernel
theorem d140_18 : decode (mB 140) 18 = .ok (.ireturn, 1) := by decide +kernel
theorem v140_0 (L : Nat) (xs : Nat → Int32) : zVal L xs 140 0 (.inl (i_al 0 1)) := zS_aload_n d140_0 rfl
theorem v140_1 (L : Nat) (xs : Nat → Int32) : zVal L xs 140 1 (.inl (i_il 1 2)) := zS_iload_n d140_1 rfl
theorem v140_2 (L : Nat) (xs : Nat → Int32) : zVal L xs 140 2 (.inr (.inl (139, 2, 11))) := ⟨by decide +kernel, by decide +kernel, zc_virt d140_2 zcl10 w1087 w1084 w1086 w65 w85 ⟨by decide +kernel, by decide +kernel, by decide +kernel⟩ (by decide) (by decide)⟩
theorem v140_5 (L : Nat) (xs : Nat → Int32) : zVal L xs 140 5 (.inl (i_f1 (fun x => decide (x = 0)) 17 8)) := zS_if_eq d140_5 (by decide)
theorem v140_8 (L : Nat) (xs : Nat → Int32) : zVal L xs 140 8 (.inl (i_al 0 9)) := zS_aload_n d140_8 rfl
theorem v140_9 (L : Nat) (xs : Nat → Int32) : zVal L xs 140 9 (.inl (i_gf 10 25 12)) := zS_getf d140_9 (zcl10) (by decide) zi10 w803
theorem v140_12 (L : Nat) (xs : Nat → Int32) : zVal L xs 140 12 (.inl (i_il 1 13)) := zS_iload_n d140_12 rfl
theorem v140_13 (L : Nat) (xs : Nat → Int32) : zVal L xs 140 13 (.inl (i_ga 0 14)) := zS_iald d140_13
theorem v140_14 (L : Nat) (xs : Nat → Int32) : zVal L xs 140 14 (.inl (i_go 18)) := zS_goto d140_14 (by decide)
theorem v140_17 (L : Nat) (xs : Nat → Int32) : zVal L xs 140 17 (.inl (i_c (.int (-1)) 18)) := zS_iconst d140_17 (by decide)
theorem v140_18 (L : Nat) (xs : Nat → Int32) : zVal L xs 140 18 (.inr (.inr 1)) := zr_1 d140_18 rfl
theorem vt140 (L : Nat) (xs : Nat → Int32) : zAll (fun x => zVal L xs 140 x.1 x.2) (tb140) := ⟨v140_0 L xs, v140_1 L xs, v140_2 L xs, v140_5 L xs, v140_8 L xs, v140_9 L xs, v140_12 L xs, v140_13 L xs, v140_14 L xs, v140_17 L xs, v140_18 L xs, trivial⟩
theorem d141_0 : decode (mB 141) 0 = .ok (.aload_n 0, 1) := by decide +kernel
theorem d141_1 : decode (mB 141) 1 = .ok (.iload_n 1, 1) := by decide +kernel
theorem d141_2 : decode (mB 141) 2 = .ok (.invokevirtual 275, 3) := by decide +kernel
theorem d141_5 : decode (mB 141) 5 = .ok (.ifCond .eq 12, 3) := by decide +kernel
theorem d141_8 : decode (mB 141) 8 = .ok (.aload_n 0, 1) := by decide +kernel
theorem d141_9 : decode (mB 141) 9 = .ok (.getfield 65, 3) := by decide +kernel
theorem d141_12 : decode (mB 141) 12 = .ok (.iload_n 1, 1) := by decide +kernel
theorem d141_13 : decode (mB 141) 13 = .ok (.iaload, 1) := by decide +kernel
theorem d141_14 : decode (mB 141) 14 = .ok (.goto 4, 3) := by decide +kernel
theorem d141_17 : decode (mB 141) 17 = .ok (.iconst (-1), 1) := by decide +kernel
theorem d141_18 : decode (mB 141) 18 = .ok (.ireturn, 1) := by decide +kernel
theorem v141_0 (L : Nat) (xs : Nat → Int32) : zVal L xs 141 0 (.inl (i_al 0 1)) := zS_aload_n d141_0 rfl
theorem v141_1 (L : Nat) (xs : Nat → Int32) : zVal L xs 141 1 (.inl (i_il 1 2)) := zS_iload_n d141_1 rfl
theorem v141_2 (L : Nat) (xs : Nat → Int32) : zVal L xs 141 2 (.inr (.inl (139, 2, 11))) := ⟨by decide +kernel, by decide +kernel, zc_virt d141_2 zcl10 w1087 w1084 w1086 w65 w85 ⟨by decide +kernel, by decide +kernel, by decide +kernel⟩ (by decide) (by decide)⟩
theorem v141_5 (L : Nat) (xs : Nat → Int32) : zVal L xs 141 5 (.inl (i_f1 (fun x => decide (x = 0)) 17 8)) := zS_if_eq d141_5 (by decide)
theorem v141_8 (L : Nat) (xs : Nat → Int32) : zVal L xs 141 8 (.inl (i_al 0 9)) := zS_aload_n d141_8 rfl
theorem v141_9 (L : Nat) (xs : Nat → Int32) : zVal L xs 141 9 (.inl (i_gf 10 26 12)) := zS_getf d141_9 (zcl10) (by decide) zi10 w804
theorem v141_12 (L : Nat) (xs : Nat → Int32) : zVal L xs 141 12 (.inl (i_il 1 13)) := zS_iload_n d141_12 rfl
theorem v141_13 (L : Nat) (xs : Nat → Int32) : zVal L xs 141 13 (.inl (i_ga 0 14)) := zS_iald d141_13
theorem v141_14 (L : Nat) (xs : Nat → Int32) : zVal L xs 141 14 (.inl (i_go 18)) := zS_goto d141_14 (by decide)
theorem v141_17 (L : Nat) (xs : Nat → Int32) : zVal L xs 141 17 (.inl (i_c (.int (-1)) 18)) := zS_iconst d141_17 (by decide)
theorem v141_18 (L : Nat) (xs : Nat → Int32) : zVal L xs 141 18 (.inr (.inr 1)) := zr_1 d141_18 rfl
theorem vt141 (L : Nat) (xs : Nat → Int32) : zAll (fun x => zVal L xs 141 x.1 x.2) (tb141) := ⟨v141_0 L xs, v141_1 L xs, v141_2 L xs, v141_5 L xs, v141_8 L xs, v141_9 L xs, v141_12 L xs, v141_13 L xs, v141_14 L xs, v141_17 L xs, v141_18 L xs, trivial⟩
theorem d142_0 : decode (mB 142) 0 = .ok (.aload_n 0, 1) := by decide +kernel
theorem d142_1 : decode (mB 142) 1 = .ok (.iload_n 1, 1) := by decide +kernel
theorem d142_2 : decode (mB 142) 2 = .ok (.invokevirtual 275, 3) := by decide +kernel
theorem d142_5 : decode (mB 142) 5 = .ok (.ifCond .eq 30, 3) := by decide +kernel
theorem d142_8 : decode (mB 142) 8 = .ok (.iload_n 2, 1) := by decide +kernel
theorem d142_9 : decode (mB 142) 9 = .ok (.ifCond .lt 26, 3) := by decide +kernel
theorem d142_12 : decode (mB 142) 12 = .ok (.iload_n 2, 1) := by decide +kernel
theorem d142_13 : decode (mB 142) 13 = .ok (.aload_n 0, 1) := by decide +kernel
theorem d142_14 : decode (mB 142) 14 = .ok (.getfield 43, 3) := by decide +kernel
theorem d142_17 : decode (mB 142) 17 = .ok (.iload_n 1, 1) := by decide +kernel
theorem d142_18 : decode (mB 142) 18 = .ok (.iaload, 1) := by decide +kernel
theorem d142_19 : decode (mB 142) 19 = .ok (.if_icmp .ge 16, 3) := by decide +kernel
theorem d142_22 : decode (mB 142) 22 = .ok (.aload_n 0, 1) := by decide +kernel
theorem d142_23 : decode (mB 142) 23 = .ok (.getfield 77, 3) := by decide +kernel
theorem d142_26 : decode (mB 142) 26 = .ok (.iconst 4, 1) := by decide +kernel
theorem d142_27 : decode (mB 142) 27 = .ok (.iload_n 1, 1) := by decide +kernel
theorem d142_28 : decode (mB 142) 28 = .ok (.imul, 1) := by decide +kernel
theorem d142_29 : decode (mB 142) 29 = .ok (.iload_n 2, 1) := by decide +kernel
theorem d142_30 : decode (mB 142) 30 = .ok (.iadd, 1) := by decide +kernel
theorem d142_31 : decode (mB 142) 31 = .ok (.iaload, 1) := by decide +kernel
theorem d142_32 : decode (mB 142) 32 = .ok (.goto 4, 3) := by decide +kernel
theorem d142_35 : decode (mB 142) 35 = .ok (.iconst (-1), 1) := by decide +kernel
theorem d142_36 : decode (mB 142) 36 = .ok (.ireturn, 1) := by decide +kernel
theorem v142_0 (L : Nat) (xs : Nat → Int32) : zVal L xs 142 0 (.inl (i_al 0 1)) := zS_aload_n d142_0 rfl
theorem v142_1 (L : Nat) (xs : Nat → Int32) : zVal L xs 142 1 (.inl (i_il 1 2)) := zS_iload_n d142_1 rfl
theorem v142_2 (L : Nat) (xs : Nat → Int32) : zVal L xs 142 2 (.inr (.inl (139, 2, 11))) := ⟨by decide +kernel, by decide +kernel, zc_virt d142_2 zcl10 w1087 w1084 w1086 w65 w85 ⟨by decide +kernel, by decide +kernel, by decide +kernel⟩ (by decide) (by decide)⟩
theorem v142_5 (L : Nat) (xs : Nat → Int32) : zVal L xs 142 5 (.inl (i_f1 (fun x => decide (x = 0)) 35 8)) := zS_if_eq d142_5 (by decide)
theorem v142_8 (L : Nat) (xs : Nat → Int32) : zVal L xs 142 8 (.inl (i_il 2 9)) := zS_iload_n d142_8 rfl
theorem v142_9 (L : Nat) (xs : Nat → Int32) : zVal L xs 142 9 (.inl (i_f1 (fun x => decide (x < 0)) 35 12)) := zS_if_lt d142_9 (by decide)
theorem v142_12 (L : Nat) (xs : Nat → Int32) : zVal L xs 142 12 (.inl (i_il 2 13)) := zS_iload_n d142_12 rfl
theorem v142_13 (L : Nat) (xs : Nat → Int32) : zVal L xs 142 13 (.inl (i_al 0 14)) := zS_aload_n d142_13 rfl
theorem v142_14 (L : Nat) (xs : Nat → Int32) : zVal L xs 142 14 (.inl (i_gf 10 17 17)) := zS_getf d142_14 (zcl10) (by decide) zi10 w795
theorem v142_17 (L : Nat) (xs : Nat → Int32) : zVal L xs 142 17 (.inl (i_il 1 18)) := zS_iload_n d142_17 rfl
theorem v142_18 (L : Nat) (xs : Nat → Int32) : zVal L xs 142 18 (.inl (i_ga 0 19)) := zS_iald d142_18
theorem v142_19 (L : Nat) (xs : Nat → Int32) : zVal L xs 142 19 (.inl (i_f2 (fun x y => decide (y ≤ x)) 35 22)) := zS_icmp_ge d142_19 (by decide)
theorem v142_22 (L : Nat) (xs : Nat → Int32) : zVal L xs 142 22 (.inl (i_al 0 23)) := zS_aload_n d142_22 rfl
theorem v142_23 (L : Nat) (xs : Nat → Int32) : zVal L xs 142 23 (.inl (i_gf 10 30 26)) := zS_getf d142_23 (zcl10) (by decide) zi10 w808
theorem v142_26 (L : Nat) (xs : Nat → Int32) : zVal L xs 142 26 (.inl (i_c (.int 4) 27)) := zS_iconst d142_26 (by decide)
theorem v142_27 (L : Nat) (xs : Nat → Int32) : zVal L xs 142 27 (.inl (i_il 1 28)) := zS_iload_n d142_27 rfl
theorem v142_28 (L : Nat) (xs : Nat → Int32) : zVal L xs 142 28 (.inl (i_bi (fun x y => x * y) 29)) := zS_imul d142_28
theorem v142_29 (L : Nat) (xs : Nat → Int32) : zVal L xs 142 29 (.inl (i_il 2 30)) := zS_iload_n d142_29 rfl
theorem v142_30 (L : Nat) (xs : Nat → Int32) : zVal L xs 142 30 (.inl (i_bi (fun x y => x + y) 31)) := zS_iadd d142_30
theorem v142_31 (L : Nat) (xs : Nat → Int32) : zVal L xs 142 31 (.inl (i_ga 0 32)) := zS_iald d142_31
theorem v142_32 (L : Nat) (xs : Nat → Int32) : zVal L xs 142 32 (.inl (i_go 36)) := zS_goto d142_32 (by decide)
theorem v142_35 (L : Nat) (xs : Nat → Int32) : zVal L xs 142 35 (.inl (i_k [true, true, true] (i_c (.int (-1)) 36))) := zS_k (zS_iconst d142_35 (by decide))
theorem v142_36 (L : Nat) (xs : Nat → Int32) : zVal L xs 142 36 (.inr (.inr 1)) := zr_1 d142_36 rfl
theorem vt142 (L : Nat) (xs : Nat → Int32) : zAll (fun x => zVal L xs 142 x.1 x.2) (tb142) := ⟨v142_0 L xs, v142_1 L xs, v142_2 L xs, v142_5 L xs, v142_8 L xs, v142_9 L xs, v142_12 L xs, v142_13 L xs, v142_14 L xs, v142_17 L xs, v142_18 L xs, v142_19 L xs, v142_22 L xs, v142_23 L xs, v142_26 L xs, v142_27 L xs, v142_28 L xs, v142_29 L xs, v142_30 L xs, v142_31 L xs, v142_32 L xs, v142_35 L xs, v142_36 L xs, trivial⟩
theorem d143_0 : decode (mB 143) 0 = .ok (.aload_n 0, 1) := by decide +kernel
theorem d143_1 : decode (mB 143) 1 = .ok (.iload_n 1, 1) := by decide +kernel
theorem d143_2 : decode (mB 143) 2 = .ok (.invokevirtual 275, 3) := by decide +kernel
theorem d143_5 : decode (mB 143) 5 = .ok (.ifCond .eq 29, 3) := by decide +kernel
theorem d143_8 : decode (mB 143) 8 = .ok (.iload_n 2, 1) := by decide +kernel
theorem d143_9 : decode (mB 143) 9 = .ok (.ifCond .lt 25, 3) := by decide +kernel
theorem d143_12 : decode (mB 143) 12 = .ok (.iload_n 2, 1) := by decide +kernel
theorem d143_13 : decode (mB 143) 13 = .ok (.iconst 2, 1) := by decide +kernel
theorem d143_14 : decode (mB 143) 14 = .ok (.if_icmp .ge 20, 3) := by decide +kernel
theorem d143_17 : decode (mB 143) 17 = .ok (.aload_n 0, 1) := by decide +kernel
theorem d143_18 : decode (mB 143) 18 = .ok (.getfield 93, 3) := by decide +kernel
theorem d143_21 : decode (mB 143) 21 = .ok (.iconst 2, 1) := by decide +kernel
theorem d143_22 : decode (mB 143) 22 = .ok (.iload_n 1, 1) := by decide +kernel
theorem d143_23 : decode (mB 143) 23 = .ok (.imul, 1) := by decide +kernel
theorem d143_24 : decode (mB 143) 24 = .ok (.iload_n 2, 1) := by decide +kernel
theorem d143_25 : decode (mB 143) 25 = .ok (.iadd, 1) := by decide +kernel
theorem d143_26 : decode (mB 143) 26 = .ok (.baload, 1) := by decide +kernel
theorem d143_27 : decode (mB 143) 27 = .ok (.ifCond .eq 7, 3) := by decide +kernel
theorem d143_30 : decode (mB 143) 30 = .ok (.iconst 1, 1) := by decide +kernel
theorem d143_31 : decode (mB 143) 31 = .ok (.goto 4, 3) := by decide +kernel
theorem d143_34 : decode (mB 143) 34 = .ok (.iconst 0, 1) := by decide +kernel
theorem d143_35 : decode (mB 143) 35 = .ok (.istore 4, 2) := by decide +kernel
theorem d143_37 : decode (mB 143) 37 = .ok (.iload 4, 2) := by decide +kernel
theorem d143_39 : decode (mB 143) 39 = .ok (.ifCond .eq 31, 3) := by decide +kernel
theorem d143_42 : decode (mB 143) 42 = .ok (.iload_n 3, 1) := by decide +kernel
theorem d143_43 : decode (mB 143) 43 = .ok (.ifCond .lt 27, 3) := by decide +kernel
theorem d143_46 : decode (mB 143) 46 = .ok (.iload_n 3, 1) := by decide +kernel
theorem d143_47 : decode (mB 143) 47 = .ok (.bipush 10, 2) := by decide +kernel
theorem d143_49 : decode (mB 143) 49 = .ok (.if_icmp .gt 21, 3) := by decide +kernel
theorem d143_52 : decode (mB 143) 52 = .ok (.aload_n 0, 1) := by decide +kernel
theorem d143_53 : decode (mB 143) 53 = .ok (.getfield 96, 3) := by decide +kernel
theorem d143_56 : decode (mB 143) 56 = .ok (.bipush 11, 2) := by decide +kernel
theorem d143_58 : decode (mB 143) 58 = .ok (.iconst 2, 1) := by decide +kernel
theorem d143_59 : decode (mB 143) 59 = .ok (.iload_n 1, 1) := by decide +kernel
theorem d143_60 : decode (mB 143) 60 = .ok (.imul, 1) := by decide +kernel
theorem d143_61 : decode (mB 143) 61 = .ok (.iload_n 2, 1) := by decide +kernel
theorem d143_62 : decode (mB 143) 62 = .ok (.iadd, 1) := by decide +kernel
theorem d143_63 : decode (mB 143) 63 = .ok (.imul, 1) := by decide +kernel
theorem d143_64 : decode (mB 143) 64 = .ok (.iload_n 3, 1) := by decide +kernel
theorem d143_65 : decode (mB 143) 65 = .ok (.iadd, 1) := by decide +kernel
theorem d143_66 : decode (mB 143) 66 = .ok (.iaload, 1) := by decide +kernel
theorem d143_67 : decode (mB 143) 67 = .ok (.goto 4, 3) := by decide +kernel
theorem d143_70 : decode (mB 143) 70 = .ok (.iconst (-1), 1) := by decide +kernel
theorem d143_71 : decode (mB 143) 71 = .ok (.ireturn, 1) := by decide +kernel
theorem v143_0 (L : Nat) (xs : Nat → Int32) : zVal L xs 143 0 (.inl (i_al 0 1)) := zS_aload_n d143_0 rfl
theorem v143_1 (L : Nat) (xs : Nat → Int32) : zVal L xs 143 1 (.inl (i_il 1 2)) := zS_iload_n d143_1 rfl
theorem v143_2 (L : Nat) (xs : Nat → Int32) : zVal L xs 143 2 (.inr (.inl (139, 2, 11))) := ⟨by decide +kernel, by decide +kernel, zc_virt d143_2 zcl10 w1087 w1084 w1086 w65 w85 ⟨by decide +kernel, by decide +kernel, by decide +kernel⟩ (by decide) (by decide)⟩
theorem v143_5 (L : Nat) (xs : Nat → Int32) : zVal L xs 143 5 (.inl (i_f1 (fun x => decide (x = 0)) 34 8)) := zS_if_eq d143_5 (by decide)
theorem v143_8 (L : Nat) (xs : Nat → Int32) : zVal L xs 143 8 (.inl (i_il 2 9)) := zS_iload_n d143_8 rfl
theorem v143_9 (L : Nat) (xs : Nat → Int32) : zVal L xs 143 9 (.inl (i_f1 (fun x => decide (x < 0)) 34 12)) := zS_if_lt d143_9 (by decide)
theorem v143_12 (L : Nat) (xs : Nat → Int32) : zVal L xs 143 12 (.inl (i_il 2 13)) := zS_iload_n d143_12 rfl
theorem v143_13 (L : Nat) (xs : Nat → Int32) : zVal L xs 143 13 (.inl (i_c (.int 2) 14)) := zS_iconst d143_13 (by decide)
theorem v143_14 (L : Nat) (xs : Nat → Int32) : zVal L xs 143 14 (.inl (i_f2 (fun x y => decide (y ≤ x)) 34 17)) := zS_icmp_ge d143_14 (by decide)
theorem v143_17 (L : Nat) (xs : Nat → Int32) : zVal L xs 143 17 (.inl (i_al 0 18)) := zS_aload_n d143_17 rfl
theorem v143_18 (L : Nat) (xs : Nat → Int32) : zVal L xs 143 18 (.inl (i_gf 10 35 21)) := zS_getf d143_18 (zcl10) (by decide) zi10 w813
theorem v143_21 (L : Nat) (xs : Nat → Int32) : zVal L xs 143 21 (.inl (i_c (.int 2) 22)) := zS_iconst d143_21 (by decide)
theorem v143_22 (L : Nat) (xs : Nat → Int32) : zVal L xs 143 22 (.inl (i_il 1 23)) := zS_iload_n d143_22 rfl
theorem v143_23 (L : Nat) (xs : Nat → Int32) : zVal L xs 143 23 (.inl (i_bi (fun x y => x * y) 24)) := zS_imul d143_23
theorem v143_24 (L : Nat) (xs : Nat → Int32) : zVal L xs 143 24 (.inl (i_il 2 25)) := zS_iload_n d143_24 rfl
theorem v143_25 (L : Nat) (xs : Nat → Int32) : zVal L xs 143 25 (.inl (i_bi (fun x y => x + y) 26)) := zS_iadd d143_25
theorem v143_26 (L : Nat) (xs : Nat → Int32) : zVal L xs 143 26 (.inl (i_ga 3 27)) := zS_zald d143_26
theorem v143_27 (L : Nat) (xs : Nat → Int32) : zVal L xs 143 27 (.inl (i_f1 (fun x => decide (x = 0)) 34 30)) := zS_if_eq d143_27 (by decide)
theorem v143_30 (L : Nat) (xs : Nat → Int32) : zVal L xs 143 30 (.inl (i_c (.int 1) 31)) := zS_iconst d143_30 (by decide)
theorem v143_31 (L : Nat) (xs : Nat → Int32) : zVal L xs 143 31 (.inl (i_go 35)) := zS_goto d143_31 (by decide)
theorem v143_34 (L : Nat) (xs : Nat → Int32) : zVal L xs 143 34 (.inl (i_k [false, false, false, false, true] (i_c (.int 0) 35))) := zS_k (zS_iconst d143_34 (by decide))
theorem v143_35 (L : Nat) (xs : Nat → Int32) : zVal L xs 143 35 (.inl (i_k [false, false, false, false, true] (i_is 4 37))) := zS_k (zS_istore d143_35)
theorem v143_37 (L : Nat) (xs : Nat → Int32) : zVal L xs 143 37 (.inl (i_il 4 39)) := zS_iload d143_37
theorem v143_39 (L : Nat) (xs : Nat → Int32) : zVal L xs 143 39 (.inl (i_f1 (fun x => decide (x = 0)) 70 42)) := zS_if_eq d143_39 (by decide)
theorem v143_42 (L : Nat) (xs : Nat → Int32) : zVal L xs 143 42 (.inl (i_il 3 43)) := zS_iload_n d143_42 rfl
theorem v143_43 (L : Nat) (xs : Nat → Int32) : zVal L xs 143 43 (.inl (i_f1 (fun x => decide (x < 0)) 70 46)) := zS_if_lt d143_43 (by decide)
theorem v143_46 (L : Nat) (xs : Nat → Int32) : zVal L xs 143 46 (.inl (i_il 3 47)) := zS_iload_n d143_46 rfl
theorem v143_47 (L : Nat) (xs : Nat → Int32) : zVal L xs 143 47 (.inl (i_c (.int 10) 49)) := zS_bipush d143_47 (by decide)
theorem v143_49 (L : Nat) (xs : Nat → Int32) : zVal L xs 143 49 (.inl (i_f2 (fun x y => decide (y < x)) 70 52)) := zS_icmp_gt d143_49 (by decide)
theorem v143_52 (L : Nat) (xs : Nat → Int32) : zVal L xs 143 52 (.inl (i_al 0 53)) := zS_aload_n d143_52 rfl
theorem v143_53 (L : Nat) (xs : Nat → Int32) : zVal L xs 143 53 (.inl (i_gf 10 36 56)) := zS_getf d143_53 (zcl10) (by decide) zi10 w814
theorem v143_56 (L : Nat) (xs : Nat → Int32) : zVal L xs 143 56 (.inl (i_c (.int 11) 58)) := zS_bipush d143_56 (by decide)
theorem v143_58 (L : Nat) (xs : Nat → Int32) : zVal L xs 143 58 (.inl (i_c (.int 2) 59)) := zS_iconst d143_58 (by decide)
theorem v143_59 (L : Nat) (xs : Nat → Int32) : zVal L xs 143 59 (.inl (i_il 1 60)) := zS_iload_n d143_59 rfl
theorem v143_60 (L : Nat) (xs : Nat → Int32) : zVal L xs 143 60 (.inl (i_bi (fun x y => x * y) 61)) := zS_imul d143_60
theorem v143_61 (L : Nat) (xs : Nat → Int32) : zVal L xs 143 61 (.inl (i_il 2 62)) := zS_iload_n d143_61 rfl
theorem v143_62 (L : Nat) (xs : Nat → Int32) : zVal L xs 143 62 (.inl (i_bi (fun x y => x + y) 63)) := zS_iadd d143_62
theorem v143_63 (L : Nat) (xs : Nat → Int32) : zVal L xs 143 63 (.inl (i_bi (fun x y => x * y) 64)) := zS_imul d143_63
theorem v143_64 (L : Nat) (xs : Nat → Int32) : zVal L xs 143 64 (.inl (i_il 3 65)) := zS_iload_n d143_64 rfl
theorem v143_65 (L : Nat) (xs : Nat → Int32) : zVal L xs 143 65 (.inl (i_bi (fun x y => x + y) 66)) := zS_iadd d143_65
theorem v143_66 (L : Nat) (xs : Nat → Int32) : zVal L xs 143 66 (.inl (i_ga 0 67)) := zS_iald d143_66
theorem v143_67 (L : Nat) (xs : Nat → Int32) : zVal L xs 143 67 (.inl (i_go 71)) := zS_goto d143_67 (by decide)
theorem v143_70 (L : Nat) (xs : Nat → Int32) : zVal L xs 143 70 (.inl (i_k [true, true, true, true, true] (i_c (.int (-1)) 71))) := zS_k (zS_iconst d143_70 (by decide))
theorem v143_71 (L : Nat) (xs : Nat → Int32) : zVal L xs 143 71 (.inr (.inr 1)) := zr_1 d143_71 rfl
theorem vt143 (L : Nat) (xs : Nat → Int32) : zAll (fun x => zVal L xs 143 x.1 x.2) (tb143) := ⟨v143_0 L xs, v143_1 L xs, v143_2 L xs, v143_5 L xs, v143_8 L xs, v143_9 L xs, v143_12 L xs, v143_13 L xs, v143_14 L xs, v143_17 L xs, v143_18 L xs, v143_21 L xs, v143_22 L xs, v143_23 L xs, v143_24 L xs, v143_25 L xs, v143_26 L xs, v143_27 L xs, v143_30 L xs, v143_31 L xs, v143_34 L xs, v143_35 L xs, v143_37 L xs, v143_39 L xs, v143_42 L xs, v143_43 L xs, v143_46 L xs, v143_47 L xs, v143_49 L xs, v143_52 L xs, v143_53 L xs, v143_56 L xs, v143_58 L xs, v143_59 L xs, v143_60 L xs, v143_61 L xs, v143_62 L xs, v143_63 L xs, v143_64 L xs, v143_65 L xs, v143_66 L xs, v143_67 L xs, v143_70 L xs, v143_71 L xs, trivial⟩
theorem d144_0 : decode (mB 144) 0 = .ok (.iload_n 1, 1) := by decide +kernel
theorem d144_1 : decode (mB 144) 1 = .ok (.ifCond .lt 36, 3) := by decide +kernel
theorem d144_4 : decode (mB 144) 4 = .ok (.iload_n 1, 1) := by decide +kernel
theorem d144_5 : decode (mB 144) 5 = .ok (.iconst 3, 1) := by decide +kernel
theorem d144_6 : decode (mB 144) 6 = .ok (.if_icmp .ge 31, 3) := by decide +kernel
theorem d144_9 : decode (mB 144) 9 = .ok (.iload_n 2, 1) := by decide +kernel
theorem d144_10 : decode (mB 144) 10 = .ok (.ifCond .lt 27, 3) := by decide +kernel
theorem d144_13 : decode (mB 144) 13 = .ok (.iload_n 2, 1) := by decide +kernel
theorem d144_14 : decode (mB 144) 14 = .ok (.aload_n 0, 1) := by decide +kernel
theorem d144_15 : decode (mB 144) 15 = .ok (.getfield 114, 3) := by decide +kernel
theorem d144_18 : decode (mB 144) 18 = .ok (.if_icmp .ge 19, 3) := by decide +kernel
theorem d144_21 : decode (mB 144) 21 = .ok (.iload_n 3, 1) := by decide +kernel
theorem d144_22 : decode (mB 144) 22 = .ok (.ifCond .lt 15, 3) := by decide +kernel
theorem d144_25 : decode (mB 144) 25 = .ok (.iload_n 3, 1) := by decide +kernel
theorem d144_26 : decode (mB 144) 26 = .ok (.aload_n 0, 1) := by decide +kernel
theorem d144_27 : decode (mB 144) 27 = .ok (.getfield 117, 3) := by decide +kernel
theorem d144_30 : decode (mB 144) 30 = .ok (.if_icmp .ge 7, 3) := by decide +kernel
theorem d144_33 : decode (mB 144) 33 = .ok (.iconst 1, 1) := by decide +kernel
theorem d144_34 : decode (mB 144) 34 = .ok (.goto 4, 3) := by decide +kernel
theorem d144_37 : decode (mB 144) 37 = .ok (.iconst 0, 1) := by decide +kernel
theorem d144_38 : decode (mB 144) 38 = .ok (.ireturn, 1) := by decide +kernel
theorem v144_0 (L : Nat) (xs : Nat → Int32) : zVal L xs 144 0 (.inl (i_il 1 1)) := zS_iload_n d144_0 rfl
theorem v144_1 (L : Nat) (xs : Nat → Int32) : zVal L xs 144 1 (.inl (i_f1 (fun x => decide (x < 0)) 37 4)) := zS_if_lt d144_1 (by decide)
theorem v144_4 (L : Nat) (xs : Nat → Int32) : zVal L xs 144 4 (.inl (i_il 1 5)) := zS_iload_n d144_4 rfl
theorem v144_5 (L : Nat) (xs : Nat → Int32) : zVal L xs 144 5 (.inl (i_c (.int 3) 6)) := zS_iconst d144_5 (by decide)
theorem v144_6 (L : Nat) (xs : Nat → Int32) : zVal L xs 144 6 (.inl (i_f2 (fun x y => decide (y ≤ x)) 37 9)) := zS_icmp_ge d144_6 (by decide)
theorem v144_9 (L : Nat) (xs : Nat → Int32) : zVal L xs 144 9 (.inl (i_il 2 10)) := zS_iload_n d144_9 rfl
theorem v144_10 (L : Nat) (xs : Nat → Int32) : zVal L xs 144 10 (.inl (i_f1 (fun x => decide (x < 0)) 37 13)) := zS_if_lt d144_10 (by decide)
theorem v144_13 (L : Nat) (xs : Nat → Int32) : zVal L xs 144 13 (.inl (i_il 2 14)) := zS_iload_n d144_13 rfl
theorem v144_14 (L : Nat) (xs : Nat → Int32) : zVal L xs 144 14 (.inl (i_al 0 15)) := zS_aload_n d144_14 rfl
theorem v144_15 (L : Nat) (xs : Nat → Int32) : zVal L xs 144 15 (.inl (i_gf 10 0 18)) := zS_getf d144_15 (zcl10) (by decide) zi10 w778
theorem v144_18 (L : Nat) (xs : Nat → Int32) : zVal L xs 144 18 (.inl (i_f2 (fun x y => decide (y ≤ x)) 37 21)) := zS_icmp_ge d144_18 (by decide)
theorem v144_21 (L : Nat) (xs : Nat → Int32) : zVal L xs 144 21 (.inl (i_il 3 22)) := zS_iload_n d144_21 rfl
theorem v144_22 (L : Nat) (xs : Nat → Int32) : zVal L xs 144 22 (.inl (i_f1 (fun x => decide (x < 0)) 37 25)) := zS_if_lt d144_22 (by decide)
theorem v144_25 (L : Nat) (xs : Nat → Int32) : zVal L xs 144 25 (.inl (i_il 3 26)) := zS_iload_n d144_25 rfl
theorem v144_26 (L : Nat) (xs : Nat → Int32) : zVal L xs 144 26 (.inl (i_al 0 27)) := zS_aload_n d144_26 rfl
theorem v144_27 (L : Nat) (xs : Nat → Int32) : zVal L xs 144 27 (.inl (i_gf 10 1 30)) := zS_getf d144_27 (zcl10) (by decide) zi10 w779
theorem v144_30 (L : Nat) (xs : Nat → Int32) : zVal L xs 144 30 (.inl (i_f2 (fun x y => decide (y ≤ x)) 37 33)) := zS_icmp_ge d144_30 (by decide)
theorem v144_33 (L : Nat) (xs : Nat → Int32) : zVal L xs 144 33 (.inl (i_c (.int 1) 34)) := zS_iconst d144_33 (by decide)
theorem v144_34 (L : Nat) (xs : Nat → Int32) : zVal L xs 144 34 (.inl (i_go 38)) := zS_goto d144_34 (by decide)
theorem v144_37 (L : Nat) (xs : Nat → Int32) : zVal L xs 144 37 (.inl (i_k [true, true, true, true] (i_c (.int 0) 38))) := zS_k (zS_iconst d144_37 (by decide))
theorem v144_38 (L : Nat) (xs : Nat → Int32) : zVal L xs 144 38 (.inr (.inr 2)) := zr_2 d144_38 rfl
theorem vt144 (L : Nat) (xs : Nat → Int32) : zAll (fun x => zVal L xs 144 x.1 x.2) (tb144) := ⟨v144_0 L xs, v144_1 L xs, v144_4 L xs, v144_5 L xs, v144_6 L xs, v144_9 L xs, v144_10 L xs, v144_13 L xs, v144_14 L xs, v144_15 L xs, v144_18 L xs, v144_21 L xs, v144_22 L xs, v144_25 L xs, v144_26 L xs, v144_27 L xs, v144_30 L xs, v144_33 L xs, v144_34 L xs, v144_37 L xs, v144_38 L xs, trivial⟩
theorem d145_0 : decode (mB 145) 0 = .ok (.aload_n 0, 1) := by decide +kernel
theorem d145_1 : decode (mB 145) 1 = .ok (.iload_n 1, 1) := by decide +kernel
theorem d145_2 : decode (mB 145) 2 = .ok (.iload_n 2, 1) := by decide +kernel
theorem d145_3 : decode (mB 145) 3 = .ok (.iload_n 3, 1) := by decide +kernel
theorem d145_4 : decode (mB 145) 4 = .ok (.invokevirtual 278, 3) := by decide +kernel
theorem d145_7 : decode (mB 145) 7 = .ok (.ifCond .eq 22, 3) := by decide +kernel
theorem d145_10 : decode (mB 145) 10 = .ok (.aload_n 0, 1) := by decide +kernel
theorem d145_11 : decode (mB 145) 11 = .ok (.getfield 99, 3) := by decide +kernel
theorem d145_14 : decode (mB 145) 14 = .ok (.bipush 64, 2) := by decide +kernel
theorem d145_16 : decode (mB 145) 16 = .ok (.iload_n 1, 1) := by decide +kernel
theorem d145_17 : decode (mB 145) 17 = .ok (.imul, 1) := by decide +kernel
theorem d145_18 : decode (mB 145) 18 = .ok (.bipush 16, 2) := by decide +kernel
theorem d145_20 : decode (mB 145) 20 = .ok (.iload_n 2, 1) := by decide +kernel
theorem d145_21 : decode (mB 145) 21 = .ok (.imul, 1) := by decide +kernel
theorem d145_22 : decode (mB 145) 22 = .ok (.iadd, 1) := by decide +kernel
theorem d145_23 : decode (mB 145) 23 = .ok (.iload_n 3, 1) := by decide +kernel
theorem d145_24 : decode (mB 145) 24 = .ok (.iadd, 1) := by decide +kernel
theorem d145_25 : decode (mB 145) 25 = .ok (.iaload, 1) := by decide +kernel
theorem d145_26 : decode (mB 145) 26 = .ok (.goto 4, 3) := by decide +kernel
theorem d145_29 : decode (mB 145) 29 = .ok (.iconst (-1), 1) := by decide +kernel
theorem d145_30 : decode (mB 145) 30 = .ok (.ireturn, 1) := by decide +kernel
theorem v145_0 (L : Nat) (xs : Nat → Int32) : zVal L xs 145 0 (.inl (i_al 0 1)) := zS_aload_n d145_0 rfl
theorem v145_1 (L : Nat) (xs : Nat → Int32) : zVal L xs 145 1 (.inl (i_il 1 2)) := zS_iload_n d145_1 rfl
theorem v145_2 (L : Nat) (xs : Nat → Int32) : zVal L xs 145 2 (.inl (i_il 2 3)) := zS_iload_n d145_2 rfl
theorem v145_3 (L : Nat) (xs : Nat → Int32) : zVal L xs 145 3 (.inl (i_il 3 4)) := zS_iload_n d145_3 rfl
theorem v145_4 (L : Nat) (xs : Nat → Int32) : zVal L xs 145 4 (.inr (.inl (144, 4, 11))) := ⟨by decide +kernel, by decide +kernel, zc_virt d145_4 zcl10 w1107 w1104 w1106 w66 w85 ⟨by decide +kernel, by decide +kernel, by decide +kernel⟩ (by decide) (by decide)⟩
theorem v145_7 (L : Nat) (xs : Nat → Int32) : zVal L xs 145 7 (.inl (i_f1 (fun x => decide (x = 0)) 29 10)) := zS_if_eq d145_7 (by decide)
theorem v145_10 (L : Nat) (xs : Nat → Int32) : zVal L xs 145 10 (.inl (i_al 0 11)) := zS_aload_n d145_10 rfl
theorem v145_11 (L : Nat) (xs : Nat → Int32) : zVal L xs 145 11 (.inl (i_gf 10 37 14)) := zS_getf d145_11 (zcl10) (by decide) zi10 w815
theorem v145_14 (L : Nat) (xs : Nat → Int32) : zVal L xs 145 14 (.inl (i_c (.int 64) 16)) := zS_bipush d145_14 (by decide)
theorem v145_16 (L : Nat) (xs : Nat → Int32) : zVal L xs 145 16 (.inl (i_il 1 17)) := zS_iload_n d145_16 rfl
theorem v145_17 (L : Nat) (xs : Nat → Int32) : zVal L xs 145 17 (.inl (i_bi (fun x y => x * y) 18)) := zS_imul d145_17
theorem v145_18 (L : Nat) (xs : Nat → Int32) : zVal L xs 145 18 (.inl (i_c (.int 16) 20)) := zS_bipush d145_18 (by decide)
theorem v145_20 (L : Nat) (xs : Nat → Int32) : zVal L xs 145 20 (.inl (i_il 2 21)) := zS_iload_n d145_20 rfl
theorem v145_21 (L : Nat) (xs : Nat → Int32) : zVal L xs 145 21 (.inl (i_bi (fun x y => x * y) 22)) := zS_imul d145_21
theorem v145_22 (L : Nat) (xs : Nat → Int32) : zVal L xs 145 22 (.inl (i_bi (fun x y => x + y) 23)) := zS_iadd d145_22
theorem v145_23 (L : Nat) (xs : Nat → Int32) : zVal L xs 145 23 (.inl (i_il 3 24)) := zS_iload_n d145_23 rfl
theorem v145_24 (L : Nat) (xs : Nat → Int32) : zVal L xs 145 24 (.inl (i_bi (fun x y => x + y) 25)) := zS_iadd d145_24
theorem v145_25 (L : Nat) (xs : Nat → Int32) : zVal L xs 145 25 (.inl (i_ga 0 26)) := zS_iald d145_25
theorem v145_26 (L : Nat) (xs : Nat → Int32) : zVal L xs 145 26 (.inl (i_go 30)) := zS_goto d145_26 (by decide)
theorem v145_29 (L : Nat) (xs : Nat → Int32) : zVal L xs 145 29 (.inl (i_c (.int (-1)) 30)) := zS_iconst d145_29 (by decide)
theorem v145_30 (L : Nat) (xs : Nat → Int32) : zVal L xs 145 30 (.inr (.inr 1)) := zr_1 d145_30 rfl
theorem vt145 (L : Nat) (xs : Nat → Int32) : zAll (fun x => zVal L xs 145 x.1 x.2) (tb145) := ⟨v145_0 L xs, v145_1 L xs, v145_2 L xs, v145_3 L xs, v145_4 L xs, v145_7 L xs, v145_10 L xs, v145_11 L xs, v145_14 L xs, v145_16 L xs, v145_17 L xs, v145_18 L xs, v145_20 L xs, v145_21 L xs, v145_22 L xs, v145_23 L xs, v145_24 L xs, v145_25 L xs, v145_26 L xs, v145_29 L xs, v145_30 L xs, trivial⟩
theorem d146_0 : decode (mB 146) 0 = .ok (.iconst 0, 1) := by decide +kernel
theorem d146_1 : decode (mB 146) 1 = .ok (.istore 7, 2) := by decide +kernel
theorem d146_3 : decode (mB 146) 3 = .ok (.iload 6, 2) := by decide +kernel
theorem d146_5 : decode (mB 146) 5 = .ok (.istore 8, 2) := by decide +kernel
theorem d146_7 : decode (mB 146) 7 = .ok (.iload_n 2, 1) := by decide +kernel
theorem d146_8 : decode (mB 146) 8 = .ok (.istore 9, 2) := by decide +kernel
theorem d146_10 : decode (mB 146) 10 = .ok (.iload 9, 2) := by decide +kernel
theorem d146_12 : decode (mB 146) 12 = .ok (.iload_n 3, 1) := by decide +kernel
theorem d146_13 : decode (mB 146) 13 = .ok (.if_icmp .ge 99, 3) := by decide +kernel
theorem d146_16 : decode (mB 146) 16 = .ok (.aload_n 0, 1) := by decide +kernel
theorem d146_17 : decode (mB 146) 17 = .ok (.getfield 46, 3) := by decide +kernel
theorem d146_20 : decode (mB 146) 20 = .ok (.sipush 192, 3) := by decide +kernel
theorem d146_23 : decode (mB 146) 23 = .ok (.iload_n 1, 1) := by decide +kernel
theorem d146_24 : decode (mB 146) 24 = .ok (.imul, 1) := by decide +kernel
theorem d146_25 : decode (mB 146) 25 = .ok (.iload 9, 2) := by decide +kernel
theorem d146_27 : decode (mB 146) 27 = .ok (.iadd, 1) := by decide +kernel
theorem d146_28 : decode (mB 146) 28 = .ok (.iaload, 1) := by decide +kernel
theorem d146_29 : decode (mB 146) 29 = .ok (.istore 10, 2) := by decide +kernel
theorem d146_31 : decode (mB 146) 31 = .ok (.iload 7, 2) := by decide +kernel
theorem d146_33 : decode (mB 146) 33 = .ok (.aload_n 0, 1) := by decide +kernel
theorem d146_34 : decode (mB 146) 34 = .ok (.getfield 13, 3) := by decide +kernel
theorem d146_37 : decode (mB 146) 37 = .ok (.iload 10, 2) := by decide +kernel
theorem d146_39 : decode (mB 146) 39 = .ok (.bipush 97, 2) := by decide +kernel
theorem d146_41 : decode (mB 146) 41 = .ok (.isub, 1) := by decide +kernel
theorem d146_42 : decode (mB 146) 42 = .ok (.iaload, 1) := by decide +kernel
theorem d146_43 : decode (mB 146) 43 = .ok (.iadd, 1) := by decide +kernel
theorem d146_44 : decode (mB 146) 44 = .ok (.istore 7, 2) := by decide +kernel
theorem d146_46 : decode (mB 146) 46 = .ok (.iload 4, 2) := by decide +kernel
theorem d146_48 : decode (mB 146) 48 = .ok (.iload 7, 2) := by decide +kernel
theorem d146_50 : decode (mB 146) 50 = .ok (.if_icmp .ge 6, 3) := by decide +kernel
theorem d146_53 : decode (mB 146) 53 = .ok (.iload 10, 2) := by decide +kernel
theorem d146_55 : decode (mB 146) 55 = .ok (.ireturn, 1) := by decide +kernel
theorem d146_56 : decode (mB 146) 56 = .ok (.iload 9, 2) := by decide +kernel
theorem d146_58 : decode (mB 146) 58 = .ok (.iconst 1, 1) := by decide +kernel
theorem d146_59 : decode (mB 146) 59 = .ok (.iadd, 1) := by decide +kernel
theorem d146_60 : decode (mB 146) 60 = .ok (.iload_n 3, 1) := by decide +kernel
theorem d146_61 : decode (mB 146) 61 = .ok (.if_icmp .ge 45, 3) := by decide +kernel
theorem d146_64 : decode (mB 146) 64 = .ok (.aload_n 0, 1) := by decide +kernel
theorem d146_65 : decode (mB 146) 65 = .ok (.iload_n 1, 1) := by decide +kernel
theorem d146_66 : decode (mB 146) 66 = .ok (.iload 9, 2) := by decide +kernel
theorem d146_68 : decode (mB 146) 68 = .ok (.iconst 1, 1) := by decide +kernel
theorem d146_69 : decode (mB 146) 69 = .ok (.iadd, 1) := by decide +kernel
theorem d146_70 : decode (mB 146) 70 = .ok (.invokevirtual 199, 3) := by decide +kernel
theorem d146_73 : decode (mB 146) 73 = .ok (.ifCond .eq 33, 3) := by decide +kernel
theorem d146_76 : decode (mB 146) 76 = .ok (.iload 7, 2) := by decide +kernel
theorem d146_78 : decode (mB 146) 78 = .ok (.iload 5, 2) := by decide +kernel
theorem d146_80 : decode (mB 146) 80 = .ok (.iadd, 1) := by decide +kernel
theorem d146_81 : decode (mB 146) 81 = .ok (.iload 8, 2) := by decide +kernel
theorem d146_83 : decode (mB 146) 83 = .ok (.ifCond .le 7, 3) := by decide +kernel
theorem d146_86 : decode (mB 146) 86 = .ok (.iconst 1, 1) := by decide +kernel
theorem d146_87 : decode (mB 146) 87 = .ok (.goto 4, 3) := by decide +kernel
theorem d146_90 : decode (mB 146) 90 = .ok (.iconst 0, 1) := by decide +kernel
theorem d146_91 : decode (mB 146) 91 = .ok (.iadd, 1) := by decide +kernel
theorem d146_92 : decode (mB 146) 92 = .ok (.istore 7, 2) := by decide +kernel
theorem d146_94 : decode (mB 146) 94 = .ok (.iinc 8 (-1), 3) := by decide +kernel
theorem d146_97 : decode (mB 146) 97 = .ok (.iload 4, 2) := by decide +kernel
theorem d146_99 : decode (mB 146) 99 = .ok (.iload 7, 2) := by decide +kernel
theorem d146_101 : decode (mB 146) 101 = .ok (.if_icmp .ge 5, 3) := by decide +kernel
theorem d146_104 : decode (mB 146) 104 = .ok (.iconst 0, 1) := by decide +kernel
theorem d146_105 : decode (mB 146) 105 = .ok (.ireturn, 1) := by decide +kernel
theorem d146_106 : decode (mB 146) 106 = .ok (.iinc 9 1, 3) := by decide +kernel
theorem d146_109 : decode (mB 146) 109 = .ok (.goto (-99), 3) := by decide +kernel
theorem d146_112 : decode (mB 146) 112 = .ok (.aload_n 0, 1) := by decide +kernel
theorem d146_113 : decode (mB 146) 113 = .ok (.iload_n 1, 1) := by decide +kernel
theorem d146_114 : decode (mB 146) 114 = .ok (.iload_n 3, 1) := by decide +kernel
theorem d146_115 : decode (mB 146) 115 = .ok (.invokevirtual 199, 3) := by decide +kernel
theorem d146_118 : decode (mB 146) 118 = .ok (.ifCond .ne 17, 3) := by decide +kernel
theorem d146_121 : decode (mB 146) 121 = .ok (.iload 4, 2) := by decide +kernel
theorem d146_123 : decode (mB 146) 123 = .ok (.iload 7, 2) := by decide +kernel
theorem d146_125 : decode (mB 146) 125 = .ok (.iconst 2, 1) := by decide +kernel
theorem d146_126 : decode (mB 146) 126 = .ok (.iadd, 1) := by decide +kernel
theorem d146_127 : decode (mB 146) 127 = .ok (.if_icmp .ge 8, 3) := by decide +kernel
theorem d146_130 : decode (mB 146) 130 = .ok (.bipush 45, 2) := by decide +kernel
theorem d146_132 : decode (mB 146) 132 = .ok (.goto 4, 3) := by decide +kernel
theorem d146_135 : decode (mB 146) 135 = .ok (.iconst 0, 1) := by decide +kernel
theorem d146_136 : decode (mB 146) 136 = .ok (.ireturn, 1) := by decide +kernel
theorem v146_0 (L : Nat) (xs : Nat → Int32) : zVal L xs 146 0 (.inl (i_c (.int 0) 1)) := zS_iconst d146_0 (by decide)
theorem v146_1 (L : Nat) (xs : Nat → Int32) : zVal L xs 146 1 (.inl (i_is 7 3)) := zS_istore d146_1
theorem v146_3 (L : Nat) (xs : Nat → Int32) : zVal L xs 146 3 (.inl (i_il 6 5)) := zS_iload d146_3
theorem v146_5 (L : Nat) (xs : Nat → Int32) : zVal L xs 146 5 (.inl (i_is 8 7)) := zS_istore d146_5
theorem v146_7 (L : Nat) (xs : Nat → Int32) : zVal L xs 146 7 (.inl (i_il 2 8)) := zS_iload_n d146_7 rfl
theorem v146_8 (L : Nat) (xs : Nat → Int32) : zVal L xs 146 8 (.inl (i_is 9 10)) := zS_istore d146_8
theorem v146_10 (L : Nat) (xs : Nat → Int32) : zVal L xs 146 10 (.inl (i_k [false, false, true, false, false, false, true, false, false, false, true] (i_il 9 12))) := zS_k (zS_iload d146_10)
theorem v146_12 (L : Nat) (xs : Nat → Int32) : zVal L xs 146 12 (.inl (i_il 3 13)) := zS_iload_n d146_12 rfl
theorem v146_13 (L : Nat) (xs : Nat → Int32) : zVal L xs 146 13 (.inl (i_f2 (fun x y => decide (y ≤ x)) 112 16)) := zS_icmp_ge d146_13 (by decide)
theorem v146_16 (L : Nat) (xs : Nat → Int32) : zVal L xs 146 16 (.inl (i_al 0 17)) := zS_aload_n d146_16 rfl
theorem v146_17 (L : Nat) (xs : Nat → Int32) : zVal L xs 146 17 (.inl (i_gf 10 18 20)) := zS_getf d146_17 (zcl10) (by decide) zi10 w796
theorem v146_20 (L : Nat) (xs : Nat → Int32) : zVal L xs 146 20 (.inl (i_c (.int 192) 23)) := zS_sipush d146_20 (by decide)
theorem v146_23 (L : Nat) (xs : Nat → Int32) : zVal L xs 146 23 (.inl (i_il 1 24)) := zS_iload_n d146_23 rfl
theorem v146_24 (L : Nat) (xs : Nat → Int32) : zVal L xs 146 24 (.inl (i_bi (fun x y => x * y) 25)) := zS_imul d146_24
theorem v146_25 (L : Nat) (xs : Nat → Int32) : zVal L xs 146 25 (.inl (i_il 9 27)) := zS_iload d146_25
theorem v146_27 (L : Nat) (xs : Nat → Int32) : zVal L xs 146 27 (.inl (i_bi (fun x y => x + y) 28)) := zS_iadd d146_27
theorem v146_28 (L : Nat) (xs : Nat → Int32) : zVal L xs 146 28 (.inl (i_ga 0 29)) := zS_iald d146_28
theorem v146_29 (L : Nat) (xs : Nat → Int32) : zVal L xs 146 29 (.inl (i_is 10 31)) := zS_istore d146_29
theorem v146_31 (L : Nat) (xs : Nat → Int32) : zVal L xs 146 31 (.inl (i_il 7 33)) := zS_iload d146_31
theorem v146_33 (L : Nat) (xs : Nat → Int32) : zVal L xs 146 33 (.inl (i_al 0 34)) := zS_aload_n d146_33 rfl
theorem v146_34 (L : Nat) (xs : Nat → Int32) : zVal L xs 146 34 (.inl (i_gf 10 4 37)) := zS_getf d146_34 (zcl10) (by decide) zi10 w782
theorem v146_37 (L : Nat) (xs : Nat → Int32) : zVal L xs 146 37 (.inl (i_il 10 39)) := zS_iload d146_37
theorem v146_39 (L : Nat) (xs : Nat → Int32) : zVal L xs 146 39 (.inl (i_c (.int 97) 41)) := zS_bipush d146_39 (by decide)
theorem v146_41 (L : Nat) (xs : Nat → Int32) : zVal L xs 146 41 (.inl (i_bi (fun x y => x - y) 42)) := zS_isub d146_41
theorem v146_42 (L : Nat) (xs : Nat → Int32) : zVal L xs 146 42 (.inl (i_ga 0 43)) := zS_iald d146_42
theorem v146_43 (L : Nat) (xs : Nat → Int32) : zVal L xs 146 43 (.inl (i_bi (fun x y => x + y) 44)) := zS_iadd d146_43
theorem v146_44 (L : Nat) (xs : Nat → Int32) : zVal L xs 146 44 (.inl (i_is 7 46)) := zS_istore d146_44
theorem v146_46 (L : Nat) (xs : Nat → Int32) : zVal L xs 146 46 (.inl (i_il 4 48)) := zS_iload d146_46
theorem v146_48 (L : Nat) (xs : Nat → Int32) : zVal L xs 146 48 (.inl (i_il 7 50)) := zS_iload d146_48
theorem v146_50 (L : Nat) (xs : Nat → Int32) : zVal L xs 146 50 (.inl (i_f2 (fun x y => decide (y ≤ x)) 56 53)) := zS_icmp_ge d146_50 (by decide)
theorem v146_53 (L : Nat) (xs : Nat → Int32) : zVal L xs 146 53 (.inl (i_il 10 55)) := zS_iload d146_53
theorem v146_55 (L : Nat) (xs : Nat → Int32) : zVal L xs 146 55 (.inr (.inr 1)) := zr_1 d146_55 rfl
theorem v146_56 (L : Nat) (xs : Nat → Int32) : zVal L xs 146 56 (.inl (i_il 9 58)) := zS_iload d146_56
theorem v146_58 (L : Nat) (xs : Nat → Int32) : zVal L xs 146 58 (.inl (i_c (.int 1) 59)) := zS_iconst d146_58 (by decide)
theorem v146_59 (L : Nat) (xs : Nat → Int32) : zVal L xs 146 59 (.inl (i_bi (fun x y => x + y) 60)) := zS_iadd d146_59
theorem v146_60 (L : Nat) (xs : Nat → Int32) : zVal L xs 146 60 (.inl (i_il 3 61)) := zS_iload_n d146_60 rfl
theorem v146_61 (L : Nat) (xs : Nat → Int32) : zVal L xs 146 61 (.inl (i_f2 (fun x y => decide (y ≤ x)) 106 64)) := zS_icmp_ge d146_61 (by decide)
theorem v146_64 (L : Nat) (xs : Nat → Int32) : zVal L xs 146 64 (.inl (i_al 0 65)) := zS_aload_n d146_64 rfl
theorem v146_65 (L : Nat) (xs : Nat → Int32) : zVal L xs 146 65 (.inl (i_il 1 66)) := zS_iload_n d146_65 rfl
theorem v146_66 (L : Nat) (xs : Nat → Int32) : zVal L xs 146 66 (.inl (i_il 9 68)) := zS_iload d146_66
theorem v146_68 (L : Nat) (xs : Nat → Int32) : zVal L xs 146 68 (.inl (i_c (.int 1) 69)) := zS_iconst d146_68 (by decide)
theorem v146_69 (L : Nat) (xs : Nat → Int32) : zVal L xs 146 69 (.inl (i_bi (fun x y => x + y) 70)) := zS_iadd d146_69
theorem v146_70 (L : Nat) (xs : Nat → Int32) : zVal L xs 146 70 (.inr (.inl (119, 3, 11))) := ⟨by decide +kernel, by decide +kernel, zc_virt d146_70 zcl10 w1120 w1117 w1119 w68 w85 ⟨by decide +kernel, by decide +kernel, by decide +kernel⟩ (by decide) (by decide)⟩
theorem v146_73 (L : Nat) (xs : Nat → Int32) : zVal L xs 146 73 (.inl (i_f1 (fun x => decide (x = 0)) 106 76)) := zS_if_eq d146_73 (by decide)
theorem v146_76 (L : Nat) (xs : Nat → Int32) : zVal L xs 146 76 (.inl (i_il 7 78)) := zS_iload d146_76
theorem v146_78 (L : Nat) (xs : Nat → Int32) : zVal L xs 146 78 (.inl (i_il 5 80)) := zS_iload d146_78
theorem v146_80 (L : Nat) (xs : Nat → Int32) : zVal L xs 146 80 (.inl (i_bi (fun x y => x + y) 81)) := zS_iadd d146_80
theorem v146_81 (L : Nat) (xs : Nat → Int32) : zVal L xs 146 81 (.inl (i_il 8 83)) := zS_iload d146_81
theorem v146_83 (L : Nat) (xs : Nat → Int32) : zVal L xs 146 83 (.inl (i_f1 (fun x => decide (x ≤ 0)) 90 86)) := zS_if_le d146_83 (by decide)
theorem v146_86 (L : Nat) (xs : Nat → Int32) : zVal L xs 146 86 (.inl (i_c (.int 1) 87)) := zS_iconst d146_86 (by decide)
theorem v146_87 (L : Nat) (xs : Nat → Int32) : zVal L xs 146 87 (.inl (i_go 91)) := zS_goto d146_87 (by decide)
theorem v146_90 (L : Nat) (xs : Nat → Int32) : zVal L xs 146 90 (.inl (i_c (.int 0) 91)) := zS_iconst d146_90 (by decide)
theorem v146_91 (L : Nat) (xs : Nat → Int32) : zVal L xs 146 91 (.inl (i_k [false, false, true, false, false, false, true, true, false, false, true] (i_bi (fun x y => x + y) 92))) := zS_k (zS_iadd d146_91)
theorem v146_92 (L : Nat) (xs : Nat → Int32) : zVal L xs 146 92 (.inl (i_is 7 94)) := zS_istore d146_92
theorem v146_94 (L : Nat) (xs : Nat → Int32) : zVal L xs 146 94 (.inl (i_in 8 (-1) 97)) := zS_iinc d146_94 (by decide)
theorem v146_97 (L : Nat) (xs : Nat → Int32) : zVal L xs 146 97 (.inl (i_il 4 99)) := zS_iload d146_97
theorem v146_99 (L : Nat) (xs : Nat → Int32) : zVal L xs 146 99 (.inl (i_il 7 101)) := zS_iload d146_99
theorem v146_101 (L : Nat) (xs : Nat → Int32) : zVal L xs 146 101 (.inl (i_f2 (fun x y => decide (y ≤ x)) 106 104)) := zS_icmp_ge d146_101 (by decide)
theorem v146_104 (L : Nat) (xs : Nat → Int32) : zVal L xs 146 104 (.inl (i_c (.int 0) 105)) := zS_iconst d146_104 (by decide)
theorem v146_105 (L : Nat) (xs : Nat → Int32) : zVal L xs 146 105 (.inr (.inr 1)) := zr_1 d146_105 rfl
theorem v146_106 (L : Nat) (xs : Nat → Int32) : zVal L xs 146 106 (.inl (i_k [false, false, true, false, false, false, true, false, false, false, true] (i_in 9 1 109))) := zS_k (zS_iinc d146_106 (by decide))
theorem v146_109 (L : Nat) (xs : Nat → Int32) : zVal L xs 146 109 (.inl (i_go 10)) := zS_goto d146_109 (by decide)
theorem v146_112 (L : Nat) (xs : Nat → Int32) : zVal L xs 146 112 (.inl (i_al 0 113)) := zS_aload_n d146_112 rfl
theorem v146_113 (L : Nat) (xs : Nat → Int32) : zVal L xs 146 113 (.inl (i_il 1 114)) := zS_iload_n d146_113 rfl
theorem v146_114 (L : Nat) (xs : Nat → Int32) : zVal L xs 146 114 (.inl (i_il 3 115)) := zS_iload_n d146_114 rfl
theorem v146_115 (L : Nat) (xs : Nat → Int32) : zVal L xs 146 115 (.inr (.inl (119, 3, 11))) := ⟨by decide +kernel, by decide +kernel, zc_virt d146_115 zcl10 w1120 w1117 w1119 w68 w85 ⟨by decide +kernel, by decide +kernel, by decide +kernel⟩ (by decide) (by decide)⟩
theorem v146_118 (L : Nat) (xs : Nat → Int32) : zVal L xs 146 118 (.inl (i_f1 (fun x => decide (¬ x = 0)) 135 121)) := zS_if_ne d146_118 (by decide)
theorem v146_121 (L : Nat) (xs : Nat → Int32) : zVal L xs 146 121 (.inl (i_il 4 123)) := zS_iload d146_121
theorem v146_123 (L : Nat) (xs : Nat → Int32) : zVal L xs 146 123 (.inl (i_il 7 125)) := zS_iload d146_123
theorem v146_125 (L : Nat) (xs : Nat → Int32) : zVal L xs 146 125 (.inl (i_c (.int 2) 126)) := zS_iconst d146_125 (by decide)
theorem v146_126 (L : Nat) (xs : Nat → Int32) : zVal L xs 146 126 (.inl (i_bi (fun x y => x + y) 127)) := zS_iadd d146_126
theorem v146_127 (L : Nat) (xs : Nat → Int32) : zVal L xs 146 127 (.inl (i_f2 (fun x y => decide (y ≤ x)) 135 130)) := zS_icmp_ge d146_127 (by decide)
theorem v146_130 (L : Nat) (xs : Nat → Int32) : zVal L xs 146 130 (.inl (i_c (.int 45) 132)) := zS_bipush d146_130 (by decide)
theorem v146_132 (L : Nat) (xs : Nat → Int32) : zVal L xs 146 132 (.inl (i_go 136)) := zS_goto d146_132 (by decide)
theorem v146_135 (L : Nat) (xs : Nat → Int32) : zVal L xs 146 135 (.inl (i_k [true, true, true, true, true, true, true, true, true, true, true] (i_c (.int 0) 136))) := zS_k (zS_iconst d146_135 (by decide))
theorem v146_136 (L : Nat) (xs : Nat → Int32) : zVal L xs 146 136 (.inr (.inr 1)) := zr_1 d146_136 rfl
theorem vt146 (L : Nat) (xs : Nat → Int32) : zAll (fun x => zVal L xs 146 x.1 x.2) (tb146) := ⟨v146_0 L xs, v146_1 L xs, v146_3 L xs, v146_5 L xs, v146_7 L xs, v146_8 L xs, v146_10 L xs, v146_12 L xs, v146_13 L xs, v146_16 L xs, v146_17 L xs, v146_20 L xs, v146_23 L xs, v146_24 L xs, v146_25 L xs, v146_27 L xs, v146_28 L xs, v146_29 L xs, v146_31 L xs, v146_33 L xs, v146_34 L xs, v146_37 L xs, v146_39 L xs, v146_41 L xs, v146_42 L xs, v146_43 L xs, v146_44 L xs, v146_46 L xs, v146_48 L xs, v146_50 L xs, v146_53 L xs, v146_55 L xs, v146_56 L xs, v146_58 L xs, v146_59 L xs, v146_60 L xs, v146_61 L xs, v146_64 L xs, v146_65 L xs, v146_66 L xs, v146_68 L xs, v146_69 L xs, v146_70 L xs, v146_73 L xs, v146_76 L xs, v146_78 L xs, v146_80 L xs, v146_81 L xs, v146_83 L xs, v146_86 L xs, v146_87 L xs, v146_90 L xs, v146_91 L xs, v146_92 L xs, v146_94 L xs, v146_97 L xs, v146_99 L xs, v146_101 L xs, v146_104 L xs, v146_105 L xs, v146_106 L xs, v146_109 L xs, v146_112 L xs, v146_113 L xs, v146_114 L xs, v146_115 L xs, v146_118 L xs, v146_121 L xs, v146_123 L xs, v146_125 L xs, v146_126 L xs, v146_127 L xs, v146_130 L xs, v146_132 L xs, v146_135 L xs, v146_136 L xs, trivial⟩
theorem d147_0 : decode (mB 147) 0 = .ok (.aload_n 0, 1) := by decide +kernel
theorem d147_1 : decode (mB 147) 1 = .ok (.getfield 68, 3) := by decide +kernel
theorem d147_4 : decode (mB 147) 4 = .ok (.iload_n 1, 1) := by decide +kernel
theorem d147_5 : decode (mB 147) 5 = .ok (.iaload, 1) := by decide +kernel
theorem d147_6 : decode (mB 147) 6 = .ok (.istore_n 3, 1) := by decide +kernel
theorem d147_7 : decode (mB 147) 7 = .ok (.aload_n 0, 1) := by decide +kernel
theorem d147_8 : decode (mB 147) 8 = .ok (.iload_n 3, 1) := by decide +kernel
theorem d147_9 : decode (mB 147) 9 = .ok (.aload_n 0, 1) := by decide +kernel
theorem d147_10 : decode (mB 147) 10 = .ok (.getfield 71, 3) := by decide +kernel
theorem d147_13 : decode (mB 147) 13 = .ok (.iload_n 1, 1) := by decide +kernel
theorem d147_14 : decode (mB 147) 14 = .ok (.iaload, 1) := by decide +kernel
theorem d147_15 : decode (mB 147) 15 = .ok (.aload_n 0, 1) := by decide +kernel
theorem d147_16 : decode (mB 147) 16 = .ok (.getfield 74, 3) := by decide +kernel
theorem d147_19 : decode (mB 147) 19 = .ok (.iload_n 1, 1) := by decide +kernel
theorem d147_20 : decode (mB 147) 20 = .ok (.iaload, 1) := by decide +kernel
theorem d147_21 : decode (mB 147) 21 = .ok (.invokevirtual 202, 3) := by decide +kernel
theorem d147_24 : decode (mB 147) 24 = .ok (.istore 4, 2) := by decide +kernel
theorem d147_26 : decode (mB 147) 26 = .ok (.aload_n 0, 1) := by decide +kernel
theorem d147_27 : decode (mB 147) 27 = .ok (.getfield 74, 3) := by decide +kernel
theorem d147_30 : decode (mB 147) 30 = .ok (.iload_n 1, 1) := by decide +kernel
theorem d147_31 : decode (mB 147) 31 = .ok (.iaload, 1) := by decide +kernel
theorem d147_32 : decode (mB 147) 32 = .ok (.aload_n 0, 1) := by decide +kernel
theorem d147_33 : decode (mB 147) 33 = .ok (.getfield 55, 3) := by decide +kernel
theorem d147_36 : decode (mB 147) 36 = .ok (.iload_n 3, 1) := by decide +kernel
theorem d147_37 : decode (mB 147) 37 = .ok (.iaload, 1) := by decide +kernel
theorem d147_38 : decode (mB 147) 38 = .ok (.if_icmp .eq 8, 3) := by decide +kernel
theorem d147_41 : decode (mB 147) 41 = .ok (.iload 4, 2) := by decide +kernel
theorem d147_43 : decode (mB 147) 43 = .ok (.ifCond .ne 7, 3) := by decide +kernel
theorem d147_46 : decode (mB 147) 46 = .ok (.iconst 0, 1) := by decide +kernel
theorem d147_47 : decode (mB 147) 47 = .ok (.goto 25, 3) := by decide +kernel
theorem d147_50 : decode (mB 147) 50 = .ok (.aload_n 0, 1) := by decide +kernel
theorem d147_51 : decode (mB 147) 51 = .ok (.getfield 120, 3) := by decide +kernel
theorem d147_54 : decode (mB 147) 54 = .ok (.aload_n 0, 1) := by decide +kernel
theorem d147_55 : decode (mB 147) 55 = .ok (.iload_n 3, 1) := by decide +kernel
theorem d147_56 : decode (mB 147) 56 = .ok (.aload_n 0, 1) := by decide +kernel
theorem d147_57 : decode (mB 147) 57 = .ok (.getfield 71, 3) := by decide +kernel
theorem d147_60 : decode (mB 147) 60 = .ok (.iload_n 1, 1) := by decide +kernel
theorem d147_61 : decode (mB 147) 61 = .ok (.iaload, 1) := by decide +kernel
theorem d147_62 : decode (mB 147) 62 = .ok (.aload_n 0, 1) := by decide +kernel
theorem d147_63 : decode (mB 147) 63 = .ok (.getfield 74, 3) := by decide +kernel
theorem d147_66 : decode (mB 147) 66 = .ok (.iload_n 1, 1) := by decide +kernel
theorem d147_67 : decode (mB 147) 67 = .ok (.iaload, 1) := by decide +kernel
theorem d147_68 : decode (mB 147) 68 = .ok (.invokevirtual 281, 3) := by decide +kernel
theorem d147_71 : decode (mB 147) 71 = .ok (.isub, 1) := by decide +kernel
theorem d147_72 : decode (mB 147) 72 = .ok (.istore 5, 2) := by decide +kernel
theorem d147_74 : decode (mB 147) 74 = .ok (.iload 4, 2) := by decide +kernel
theorem d147_76 : decode (mB 147) 76 = .ok (.ifCond .ne 7, 3) := by decide +kernel
theorem d147_79 : decode (mB 147) 79 = .ok (.iconst 3, 1) := by decide +kernel
theorem d147_80 : decode (mB 147) 80 = .ok (.goto 10, 3) := by decide +kernel
theorem d147_83 : decode (mB 147) 83 = .ok (.iconst 3, 1) := by decide +kernel
theorem d147_84 : decode (mB 147) 84 = .ok (.iload 5, 2) := by decide +kernel
theorem d147_86 : decode (mB 147) 86 = .ok (.iload 4, 2) := by decide +kernel
theorem d147_88 : decode (mB 147) 88 = .ok (.idiv, 1) := by decide +kernel
theorem d147_89 : decode (mB 147) 89 = .ok (.iadd, 1) := by decide +kernel
theorem d147_90 : decode (mB 147) 90 = .ok (.istore 6, 2) := by decide +kernel
theorem d147_92 : decode (mB 147) 92 = .ok (.aload_n 0, 1) := by decide +kernel
theorem d147_93 : decode (mB 147) 93 = .ok (.iload_n 3, 1) := by decide +kernel
theorem d147_94 : decode (mB 147) 94 = .ok (.aload_n 0, 1) := by decide +kernel
theorem d147_95 : decode (mB 147) 95 = .ok (.getfield 71, 3) := by decide +kernel
theorem d147_98 : decode (mB 147) 98 = .ok (.iload_n 1, 1) := by decide +kernel
theorem d147_99 : decode (mB 147) 99 = .ok (.iaload, 1) := by decide +kernel
theorem d147_100 : decode (mB 147) 100 = .ok (.aload_n 0, 1) := by decide +kernel
theorem d147_101 : decode (mB 147) 101 = .ok (.getfield 74, 3) := by decide +kernel
theorem d147_104 : decode (mB 147) 104 = .ok (.iload_n 1, 1) := by decide +kernel
theorem d147_105 : decode (mB 147) 105 = .ok (.iaload, 1) := by decide +kernel
theorem d147_106 : decode (mB 147) 106 = .ok (.iload_n 2, 1) := by decide +kernel
theorem d147_107 : decode (mB 147) 107 = .ok (.iload 6, 2) := by decide +kernel
theorem d147_109 : decode (mB 147) 109 = .ok (.iload 4, 2) := by decide +kernel
theorem d147_111 : decode (mB 147) 111 = .ok (.ifCond .ne 7, 3) := by decide +kernel
theorem d147_114 : decode (mB 147) 114 = .ok (.iconst 0, 1) := by decide +kernel
theorem d147_115 : decode (mB 147) 115 = .ok (.goto 8, 3) := by decide +kernel
theorem d147_118 : decode (mB 147) 118 = .ok (.iload 5, 2) := by decide +kernel
theorem d147_120 : decode (mB 147) 120 = .ok (.iload 4, 2) := by decide +kernel
theorem d147_122 : decode (mB 147) 122 = .ok (.irem, 1) := by decide +kernel
theorem d147_123 : decode (mB 147) 123 = .ok (.invokevirtual 284, 3) := by decide +kernel
theorem d147_126 : decode (mB 147) 126 = .ok (.ireturn, 1) := by decide +kernel
theorem v147_0 (L : Nat) (xs : Nat → Int32) : zVal L xs 147 0 (.inl (i_al 0 1)) := zS_aload_n d147_0 rfl
theorem v147_1 (L : Nat) (xs : Nat → Int32) : zVal L xs 147 1 (.inl (i_gf 10 27 4)) := zS_getf d147_1 (zcl10) (by decide) zi10 w805
theorem v147_4 (L : Nat) (xs : Nat → Int32) : zVal L xs 147 4 (.inl (i_il 1 5)) := zS_iload_n d147_4 rfl
theorem v147_5 (L : Nat) (xs : Nat → Int32) : zVal L xs 147 5 (.inl (i_ga 0 6)) := zS_iald d147_5
theorem v147_6 (L : Nat) (xs : Nat → Int32) : zVal L xs 147 6 (.inl (i_is 3 7)) := zS_istore_n d147_6 rfl
theorem v147_7 (L : Nat) (xs : Nat → Int32) : zVal L xs 147 7 (.inl (i_al 0 8)) := zS_aload_n d147_7 rfl
theorem v147_8 (L : Nat) (xs : Nat → Int32) : zVal L xs 147 8 (.inl (i_il 3 9)) := zS_iload_n d147_8 rfl
theorem v147_9 (L : Nat) (xs : Nat → Int32) : zVal L xs 147 9 (.inl (i_al 0 10)) := zS_aload_n d147_9 rfl
theorem v147_10 (L : Nat) (xs : Nat → Int32) : zVal L xs 147 10 (.inl (i_gf 10 28 13)) := zS_getf d147_10 (zcl10) (by decide) zi10 w806
theorem v147_13 (L : Nat) (xs : Nat → Int32) : zVal L xs 147 13 (.inl (i_il 1 14)) := zS_iload_n d147_13 rfl
theorem v147_14 (L : Nat) (xs : Nat → Int32) : zVal L xs 147 14 (.inl (i_ga 0 15)) := zS_iald d147_14
theorem v147_15 (L : Nat) (xs : Nat → Int32) : zVal L xs 147 15 (.inl (i_al 0 16)) := zS_aload_n d147_15 rfl
theorem v147_16 (L : Nat) (xs : Nat → Int32) : zVal L xs 147 16 (.inl (i_gf 10 29 19)) := zS_getf d147_16 (zcl10) (by decide) zi10 w807
theorem v147_19 (L : Nat) (xs : Nat → Int32) : zVal L xs 147 19 (.inl (i_il 1 20)) := zS_iload_n d147_19 rfl
theorem v147_20 (L : Nat) (xs : Nat → Int32) : zVal L xs 147 20 (.inl (i_ga 0 21)) := zS_iald d147_20
theorem v147_21 (L : Nat) (xs : Nat → Int32) : zVal L xs 147 21 (.inr (.inl (120, 4, 11))) := ⟨by decide +kernel, by decide +kernel, zc_virt d147_21 zcl10 w1128 w1125 w1127 w70 w85 ⟨by decide +kernel, by decide +kernel, by decide +kernel⟩ (by decide) (by decide)⟩
theorem v147_24 (L : Nat) (xs : Nat → Int32) : zVal L xs 147 24 (.inl (i_is 4 26)) := zS_istore d147_24
theorem v147_26 (L : Nat) (xs : Nat → Int32) : zVal L xs 147 26 (.inl (i_al 0 27)) := zS_aload_n d147_26 rfl
theorem v147_27 (L : Nat) (xs : Nat → Int32) : zVal L xs 147 27 (.inl (i_gf 10 29 30)) := zS_getf d147_27 (zcl10) (by decide) zi10 w807
theorem v147_30 (L : Nat) (xs : Nat → Int32) : zVal L xs 147 30 (.inl (i_il 1 31)) := zS_iload_n d147_30 rfl
theorem v147_31 (L : Nat) (xs : Nat → Int32) : zVal L xs 147 31 (.inl (i_ga 0 32)) := zS_iald d147_31
theorem v147_32 (L : Nat) (xs : Nat → Int32) : zVal L xs 147 32 (.inl (i_al 0 33)) := zS_aload_n d147_32 rfl
theorem v147_33 (L : Nat) (xs : Nat → Int32) : zVal L xs 147 33 (.inl (i_gf 10 21 36)) := zS_getf d147_33 (zcl10) (by decide) zi10 w799
theorem v147_36 (L : Nat) (xs : Nat → Int32) : zVal L xs 147 36 (.inl (i_il 3 37)) := zS_iload_n d147_36 rfl
theorem v147_37 (L : Nat) (xs : Nat → Int32) : zVal L xs 147 37 (.inl (i_ga 0 38)) := zS_iald d147_37
theorem v147_38 (L : Nat) (xs : Nat → Int32) : zVal L xs 147 38 (.inl (i_f2 (fun x y => decide (x = y)) 46 41)) := zS_icmp_eq d147_38 (by decide)
theorem v147_41 (L : Nat) (xs : Nat → Int32) : zVal L xs 147 41 (.inl (i_il 4 43)) := zS_iload d147_41
theorem v147_43 (L : Nat) (xs : Nat → Int32) : zVal L xs 147 43 (.inl (i_f1 (fun x => decide (¬ x = 0)) 50 46)) := zS_if_ne d147_43 (by decide)
theorem v147_46 (L : Nat) (xs : Nat → Int32) : zVal L xs 147 46 (.inl (i_k [false, false, false, false, false, true, true] (i_c (.int 0) 47))) := zS_k (zS_iconst d147_46 (by decide))
theorem v147_47 (L : Nat) (xs : Nat → Int32) : zVal L xs 147 47 (.inl (i_go 72)) := zS_goto d147_47 (by decide)
theorem v147_50 (L : Nat) (xs : Nat → Int32) : zVal L xs 147 50 (.inl (i_al 0 51)) := zS_aload_n d147_50 rfl
theorem v147_51 (L : Nat) (xs : Nat → Int32) : zVal L xs 147 51 (.inl (i_gf 10 2 54)) := zS_getf d147_51 (zcl10) (by decide) zi10 w780
theorem v147_54 (L : Nat) (xs : Nat → Int32) : zVal L xs 147 54 (.inl (i_al 0 55)) := zS_aload_n d147_54 rfl
theorem v147_55 (L : Nat) (xs : Nat → Int32) : zVal L xs 147 55 (.inl (i_il 3 56)) := zS_iload_n d147_55 rfl
theorem v147_56 (L : Nat) (xs : Nat → Int32) : zVal L xs 147 56 (.inl (i_al 0 57)) := zS_aload_n d147_56 rfl
theorem v147_57 (L : Nat) (xs : Nat → Int32) : zVal L xs 147 57 (.inl (i_gf 10 28 60)) := zS_getf d147_57 (zcl10) (by decide) zi10 w806
theorem v147_60 (L : Nat) (xs : Nat → Int32) : zVal L xs 147 60 (.inl (i_il 1 61)) := zS_iload_n d147_60 rfl
theorem v147_61 (L : Nat) (xs : Nat → Int32) : zVal L xs 147 61 (.inl (i_ga 0 62)) := zS_iald d147_61
theorem v147_62 (L : Nat) (xs : Nat → Int32) : zVal L xs 147 62 (.inl (i_al 0 63)) := zS_aload_n d147_62 rfl
theorem v147_63 (L : Nat) (xs : Nat → Int32) : zVal L xs 147 63 (.inl (i_gf 10 29 66)) := zS_getf d147_63 (zcl10) (by decide) zi10 w807
theorem v147_66 (L : Nat) (xs : Nat → Int32) : zVal L xs 147 66 (.inl (i_il 1 67)) := zS_iload_n d147_66 rfl
theorem v147_67 (L : Nat) (xs : Nat → Int32) : zVal L xs 147 67 (.inl (i_ga 0 68)) := zS_iald d147_67
theorem v147_68 (L : Nat) (xs : Nat → Int32) : zVal L xs 147 68 (.inr (.inl (121, 4, 11))) := ⟨by decide +kernel, by decide +kernel, zc_virt d147_68 zcl10 w1132 w1129 w1131 w71 w85 ⟨by decide +kernel, by decide +kernel, by decide +kernel⟩ (by decide) (by decide)⟩
theorem v147_71 (L : Nat) (xs : Nat → Int32) : zVal L xs 147 71 (.inl (i_bi (fun x y => x - y) 72)) := zS_isub d147_71
theorem v147_72 (L : Nat) (xs : Nat → Int32) : zVal L xs 147 72 (.inl (i_k [false, false, false, false, false, true, true] (i_is 5 74))) := zS_k (zS_istore d147_72)
theorem v147_74 (L : Nat) (xs : Nat → Int32) : zVal L xs 147 74 (.inl (i_il 4 76)) := zS_iload d147_74
theorem v147_76 (L : Nat) (xs : Nat → Int32) : zVal L xs 147 76 (.inl (i_f1 (fun x => decide (¬ x = 0)) 83 79)) := zS_if_ne d147_76 (by decide)
theorem v147_79 (L : Nat) (xs : Nat → Int32) : zVal L xs 147 79 (.inl (i_c (.int 3) 80)) := zS_iconst d147_79 (by decide)
theorem v147_80 (L : Nat) (xs : Nat → Int32) : zVal L xs 147 80 (.inl (i_go 90)) := zS_goto d147_80 (by decide)
theorem v147_83 (L : Nat) (xs : Nat → Int32) : zVal L xs 147 83 (.inl (i_c (.int 3) 84)) := zS_iconst d147_83 (by decide)
theorem v147_84 (L : Nat) (xs : Nat → Int32) : zVal L xs 147 84 (.inl (i_il 5 86)) := zS_iload d147_84
theorem v147_86 (L : Nat) (xs : Nat → Int32) : zVal L xs 147 86 (.inl (i_il 4 88)) := zS_iload d147_86
theorem v147_88 (L : Nat) (xs : Nat → Int32) : zVal L xs 147 88 (.inl (i_bz (fun x y => x / y) 89)) := zS_idiv d147_88
theorem v147_89 (L : Nat) (xs : Nat → Int32) : zVal L xs 147 89 (.inl (i_bi (fun x y => x + y) 90)) := zS_iadd d147_89
theorem v147_90 (L : Nat) (xs : Nat → Int32) : zVal L xs 147 90 (.inl (i_k [false, false, false, false, false, false, true] (i_is 6 92))) := zS_k (zS_istore d147_90)
theorem v147_92 (L : Nat) (xs : Nat → Int32) : zVal L xs 147 92 (.inl (i_al 0 93)) := zS_aload_n d147_92 rfl
theorem v147_93 (L : Nat) (xs : Nat → Int32) : zVal L xs 147 93 (.inl (i_il 3 94)) := zS_iload_n d147_93 rfl
theorem v147_94 (L : Nat) (xs : Nat → Int32) : zVal L xs 147 94 (.inl (i_al 0 95)) := zS_aload_n d147_94 rfl
theorem v147_95 (L : Nat) (xs : Nat → Int32) : zVal L xs 147 95 (.inl (i_gf 10 28 98)) := zS_getf d147_95 (zcl10) (by decide) zi10 w806
theorem v147_98 (L : Nat) (xs : Nat → Int32) : zVal L xs 147 98 (.inl (i_il 1 99)) := zS_iload_n d147_98 rfl
theorem v147_99 (L : Nat) (xs : Nat → Int32) : zVal L xs 147 99 (.inl (i_ga 0 100)) := zS_iald d147_99
theorem v147_100 (L : Nat) (xs : Nat → Int32) : zVal L xs 147 100 (.inl (i_al 0 101)) := zS_aload_n d147_100 rfl
theorem v147_101 (L : Nat) (xs : Nat → Int32) : zVal L xs 147 101 (.inl (i_gf 10 29 104)) := zS_getf d147_101 (zcl10) (by decide) zi10 w807
theorem v147_104 (L : Nat) (xs : Nat → Int32) : zVal L xs 147 104 (.inl (i_il 1 105)) := zS_iload_n d147_104 rfl
theorem v147_105 (L : Nat) (xs : Nat → Int32) : zVal L xs 147 105 (.inl (i_ga 0 106)) := zS_iald d147_105
theorem v147_106 (L : Nat) (xs : Nat → Int32) : zVal L xs 147 106 (.inl (i_il 2 107)) := zS_iload_n d147_106 rfl
theorem v147_107 (L : Nat) (xs : Nat → Int32) : zVal L xs 147 107 (.inl (i_il 6 109)) := zS_iload d147_107
theorem v147_109 (L : Nat) (xs : Nat → Int32) : zVal L xs 147 109 (.inl (i_il 4 111)) := zS_iload d147_109
theorem v147_111 (L : Nat) (xs : Nat → Int32) : zVal L xs 147 111 (.inl (i_f1 (fun x => decide (¬ x = 0)) 118 114)) := zS_if_ne d147_111 (by decide)
theorem v147_114 (L : Nat) (xs : Nat → Int32) : zVal L xs 147 114 (.inl (i_c (.int 0) 115)) := zS_iconst d147_114 (by decide)
theorem v147_115 (L : Nat) (xs : Nat → Int32) : zVal L xs 147 115 (.inl (i_go 123)) := zS_goto d147_115 (by decide)
theorem v147_118 (L : Nat) (xs : Nat → Int32) : zVal L xs 147 118 (.inl (i_il 5 120)) := zS_iload d147_118
theorem v147_120 (L : Nat) (xs : Nat → Int32) : zVal L xs 147 120 (.inl (i_il 4 122)) := zS_iload d147_120
theorem v147_122 (L : Nat) (xs : Nat → Int32) : zVal L xs 147 122 (.inl (i_bz (fun x y => x - x / y * y) 123)) := zS_irem d147_122
theorem v147_123 (L : Nat) (xs : Nat → Int32) : zVal L xs 147 123 (.inr (.inl (146, 7, 11))) := ⟨by decide +kernel, by decide +kernel, zc_virt d147_123 zcl10 w1116 w1113 w1115 w67 w85 ⟨by decide +kernel, by decide +kernel, by decide +kernel⟩ (by decide) (by decide)⟩
theorem v147_126 (L : Nat) (xs : Nat → Int32) : zVal L xs 147 126 (.inr (.inr 1)) := zr_1 d147_126 rfl
theorem vt147 (L : Nat) (xs : Nat → Int32) : zAll (fun x => zVal L xs 147 x.1 x.2) (tb147) := ⟨v147_0 L xs, v147_1 L xs, v147_4 L xs, v147_5 L xs, v147_6 L xs, v147_7 L xs, v147_8 L xs, v147_9 L xs, v147_10 L xs, v147_13 L xs, v147_14 L xs, v147_15 L xs, v147_16 L xs, v147_19 L xs, v147_20 L xs, v147_21 L xs, v147_24 L xs, v147_26 L xs, v147_27 L xs, v147_30 L xs, v147_31 L xs, v147_32 L xs, v147_33 L xs, v147_36 L xs, v147_37 L xs, v147_38 L xs, v147_41 L xs, v147_43 L xs, v147_46 L xs, v147_47 L xs, v147_50 L xs, v147_51 L xs, v147_54 L xs, v147_55 L xs, v147_56 L xs, v147_57 L xs, v147_60 L xs, v147_61 L xs, v147_62 L xs, v147_63 L xs, v147_66 L xs, v147_67 L xs, v147_68 L xs, v147_71 L xs, v147_72 L xs, v147_74 L xs, v147_76 L xs, v147_79 L xs, v147_80 L xs, v147_83 L xs, v147_84 L xs, v147_86 L xs, v147_88 L xs, v147_89 L xs, v147_90 L xs, v147_92 L xs, v147_93 L xs, v147_94 L xs, v147_95 L xs, v147_98 L xs, v147_99 L xs, v147_100 L xs, v147_101 L xs, v147_104 L xs, v147_105 L xs, v147_106 L xs, v147_107 L xs, v147_109 L xs, v147_111 L xs, v147_114 L xs, v147_115 L xs, v147_118 L xs, v147_120 L xs, v147_122 L xs, v147_123 L xs, v147_126 L xs, trivial⟩
theorem d148_0 : decode (mB 148) 0 = .ok (.aload_n 0, 1) := by decide +kernel
theorem d148_1 : decode (mB 148) 1 = .ok (.iload_n 1, 1) := by decide +kernel
theorem d148_2 : decode (mB 148) 2 = .ok (.iload_n 2, 1) := by decide +kernel
theorem d148_3 : decode (mB 148) 3 = .ok (.iload_n 3, 1) := by decide +kernel
theorem d148_4 : decode (mB 148) 4 = .ok (.invokevirtual 278, 3) := by decide +kernel
theorem d148_7 : decode (mB 148) 7 = .ok (.ifCond .eq 17, 3) := by decide +kernel
theorem d148_10 : decode (mB 148) 10 = .ok (.iload 4, 2) := by decide +kernel
theorem d148_12 : decode (mB 148) 12 = .ok (.ifCond .lt 12, 3) := by decide +kernel
theorem d148_15 : decode (mB 148) 15 = .ok (.iload 4, 2) := by decide +kernel
theorem d148_17 : decode (mB 148) 17 = .ok (.aload_n 0, 1) := by decide +kernel
theorem d148_18 : decode (mB 148) 18 = .ok (.getfield 120, 3) := by decide +kernel
theorem d148_21 : decode (mB 148) 21 = .ok (.if_icmp .lt 5, 3) := by decide +kernel
theorem d148_24 : decode (mB 148) 24 = .ok (.iconst (-1), 1) := by decide +kernel
theorem d148_25 : decode (mB 148) 25 = .ok (.ireturn, 1) := by decide +kernel
theorem d148_26 : decode (mB 148) 26 = .ok (.aload_n 0, 1) := by decide +kernel
theorem d148_27 : decode (mB 148) 27 = .ok (.iload_n 1, 1) := by decide +kernel
theorem d148_28 : decode (mB 148) 28 = .ok (.iload_n 2, 1) := by decide +kernel
theorem d148_29 : decode (mB 148) 29 = .ok (.iload_n 3, 1) := by decide +kernel
theorem d148_30 : decode (mB 148) 30 = .ok (.invokevirtual 288, 3) := by decide +kernel
theorem d148_33 : decode (mB 148) 33 = .ok (.istore 5, 2) := by decide +kernel
theorem d148_35 : decode (mB 148) 35 = .ok (.iload 5, 2) := by decide +kernel
theorem d148_37 : decode (mB 148) 37 = .ok (.bipush 100, 2) := by decide +kernel
theorem d148_39 : decode (mB 148) 39 = .ok (.idiv, 1) := by decide +kernel
theorem d148_40 : decode (mB 148) 40 = .ok (.iconst 1, 1) := by decide +kernel
theorem d148_41 : decode (mB 148) 41 = .ok (.isub, 1) := by decide +kernel
theorem d148_42 : decode (mB 148) 42 = .ok (.istore 6, 2) := by decide +kernel
theorem d148_44 : decode (mB 148) 44 = .ok (.iload 5, 2) := by decide +kernel
theorem d148_46 : decode (mB 148) 46 = .ok (.bipush 100, 2) := by decide +kernel
theorem d148_48 : decode (mB 148) 48 = .ok (.irem, 1) := by decide +kernel
theorem d148_49 : decode (mB 148) 49 = .ok (.istore 7, 2) := by decide +kernel
theorem d148_51 : decode (mB 148) 51 = .ok (.iload 5, 2) := by decide +kernel
theorem d148_53 : decode (mB 148) 53 = .ok (.ifCond .eq 10, 3) := by decide +kernel
theorem d148_56 : decode (mB 148) 56 = .ok (.iload 7, 2) := by decide +kernel
theorem d148_58 : decode (mB 148) 58 = .ok (.bipush 90, 2) := by decide +kernel
theorem d148_60 : decode (mB 148) 60 = .ok (.if_icmp .ne 5, 3) := by decide +kernel
theorem d148_63 : decode (mB 148) 63 = .ok (.iconst 0, 1) := by decide +kernel
theorem d148_64 : decode (mB 148) 64 = .ok (.ireturn, 1) := by decide +kernel
theorem d148_65 : decode (mB 148) 65 = .ok (.iload 7, 2) := by decide +kernel
theorem d148_67 : decode (mB 148) 67 = .ok (.bipush 80, 2) := by decide +kernel
theorem d148_69 : decode (mB 148) 69 = .ok (.if_icmp .ne 52, 3) := by decide +kernel
theorem d148_72 : decode (mB 148) 72 = .ok (.aload_n 0, 1) := by decide +kernel
theorem d148_73 : decode (mB 148) 73 = .ok (.getfield 120, 3) := by decide +kernel
theorem d148_76 : decode (mB 148) 76 = .ok (.iload_n 2, 1) := by decide +kernel
theorem d148_77 : decode (mB 148) 77 = .ok (.aload_n 0, 1) := by decide +kernel
theorem d148_78 : decode (mB 148) 78 = .ok (.getfield 96, 3) := by decide +kernel
theorem d148_81 : decode (mB 148) 81 = .ok (.bipush 22, 2) := by decide +kernel
theorem d148_83 : decode (mB 148) 83 = .ok (.iload 6, 2) := by decide +kernel
theorem d148_85 : decode (mB 148) 85 = .ok (.imul, 1) := by decide +kernel
theorem d148_86 : decode (mB 148) 86 = .ok (.iconst 1, 1) := by decide +kernel
theorem d148_87 : decode (mB 148) 87 = .ok (.iadd, 1) := by decide +kernel
theorem d148_88 : decode (mB 148) 88 = .ok (.iaload, 1) := by decide +kernel
theorem d148_89 : decode (mB 148) 89 = .ok (.isub, 1) := by decide +kernel
theorem d148_90 : decode (mB 148) 90 = .ok (.imul, 1) := by decide +kernel
theorem d148_91 : decode (mB 148) 91 = .ok (.istore 8, 2) := by decide +kernel
theorem d148_93 : decode (mB 148) 93 = .ok (.aload_n 0, 1) := by decide +kernel
theorem d148_94 : decode (mB 148) 94 = .ok (.bipush 16, 2) := by decide +kernel
theorem d148_96 : decode (mB 148) 96 = .ok (.iload 6, 2) := by decide +kernel
theorem d148_98 : decode (mB 148) 98 = .ok (.iadd, 1) := by decide +kernel
theorem d148_99 : decode (mB 148) 99 = .ok (.iconst 0, 1) := by decide +kernel
theorem d148_100 : decode (mB 148) 100 = .ok (.aload_n 0, 1) := by decide +kernel
theorem d148_101 : decode (mB 148) 101 = .ok (.getfield 55, 3) := by decide +kernel
theorem d148_104 : decode (mB 148) 104 = .ok (.bipush 16, 2) := by decide +kernel
theorem d148_106 : decode (mB 148) 106 = .ok (.iload 6, 2) := by decide +kernel
theorem d148_108 : decode (mB 148) 108 = .ok (.iadd, 1) := by decide +kernel
theorem d148_109 : decode (mB 148) 109 = .ok (.iaload, 1) := by decide +kernel
theorem d148_110 : decode (mB 148) 110 = .ok (.iload 8, 2) := by decide +kernel
theorem d148_112 : decode (mB 148) 112 = .ok (.iload 4, 2) := by decide +kernel
theorem d148_114 : decode (mB 148) 114 = .ok (.iadd, 1) := by decide +kernel
theorem d148_115 : decode (mB 148) 115 = .ok (.iconst 3, 1) := by decide +kernel
theorem d148_116 : decode (mB 148) 116 = .ok (.iconst 0, 1) := by decide +kernel
theorem d148_117 : decode (mB 148) 117 = .ok (.invokevirtual 284, 3) := by decide +kernel
theorem d148_120 : decode (mB 148) 120 = .ok (.ireturn, 1) := by decide +kernel
theorem d148_121 : decode (mB 148) 121 = .ok (.iload 7, 2) := by decide +kernel
theorem d148_123 : decode (mB 148) 123 = .ok (.bipush 81, 2) := by decide +kernel
theorem d148_125 : decode (mB 148) 125 = .ok (.if_icmp .ne 6, 3) := by decide +kernel
theorem d148_128 : decode (mB 148) 128 = .ok (.bipush 35, 2) := by decide +kernel
theorem d148_130 : decode (mB 148) 130 = .ok (.ireturn, 1) := by decide +kernel
theorem d148_131 : decode (mB 148) 131 = .ok (.iload 7, 2) := by decide +kernel
theorem d148_133 : decode (mB 148) 133 = .ok (.bipush 81, 2) := by decide +kernel
theorem d148_135 : decode (mB 148) 135 = .ok (.if_icmp .le 67, 3) := by decide +kernel
theorem d148_138 : decode (mB 148) 138 = .ok (.bipush 49, 2) := by decide +kernel
theorem d148_140 : decode (mB 148) 140 = .ok (.aload_n 0, 1) := by decide +kernel
theorem d148_141 : decode (mB 148) 141 = .ok (.getfield 96, 3) := by decide +kernel
theorem d148_144 : decode (mB 148) 144 = .ok (.bipush 22, 2) := by decide +kernel
theorem d148_146 : decode (mB 148) 146 = .ok (.iload 6, 2) := by decide +kernel
theorem d148_148 : decode (mB 148) 148 = .ok (.imul, 1) := by decide +kernel
theorem d148_149 : decode (mB 148) 149 = .ok (.iload 7, 2) := by decide +kernel
theorem d148_151 : decode (mB 148) 151 = .ok (.bipush 82, 2) := by decide +kernel
theorem d148_153 : decode (mB 148) 153 = .ok (.if_icmp .ne 8, 3) := by decide +kernel
theorem d148_156 : decode (mB 148) 156 = .ok (.bipush 11, 2) := by decide +kernel
theorem d148_158 : decode (mB 148) 158 = .ok (.goto 4, 3) := by decide +kernel
theorem d148_161 : decode (mB 148) 161 = .ok (.iconst 0, 1) := by decide +kernel
theorem d148_162 : decode (mB 148) 162 = .ok (.iadd, 1) := by decide +kernel
theorem d148_163 : decode (mB 148) 163 = .ok (.iaload, 1) := by decide +kernel
theorem d148_164 : decode (mB 148) 164 = .ok (.iadd, 1) := by decide +kernel
theorem d148_165 : decode (mB 148) 165 = .ok (.istore 8, 2) := by decide +kernel
theorem d148_167 : decode (mB 148) 167 = .ok (.iload 4, 2) := by decide +kernel
theorem d148_169 : decode (mB 148) 169 = .ok (.ifCond .ne 20, 3) := by decide +kernel
theorem d148_172 : decode (mB 148) 172 = .ok (.iload 7, 2) := by decide +kernel
theorem d148_174 : decode (mB 148) 174 = .ok (.bipush 82, 2) := by decide +kernel
theorem d148_176 : decode (mB 148) 176 = .ok (.if_icmp .ne 8, 3) := by decide +kernel
theorem d148_179 : decode (mB 148) 179 = .ok (.bipush 62, 2) := by decide +kernel
theorem d148_181 : decode (mB 148) 181 = .ok (.goto 20, 3) := by decide +kernel
theorem d148_184 : decode (mB 148) 184 = .ok (.bipush 60, 2) := by decide +kernel
theorem d148_186 : decode (mB 148) 186 = .ok (.goto 15, 3) := by decide +kernel
theorem d148_189 : decode (mB 148) 189 = .ok (.iload 4, 2) := by decide +kernel
theorem d148_191 : decode (mB 148) 191 = .ok (.iconst 1, 1) := by decide +kernel
theorem d148_192 : decode (mB 148) 192 = .ok (.if_icmp .ne 8, 3) := by decide +kernel
theorem d148_195 : decode (mB 148) 195 = .ok (.iload 8, 2) := by decide +kernel
theorem d148_197 : decode (mB 148) 197 = .ok (.goto 4, 3) := by decide +kernel
theorem d148_200 : decode (mB 148) 200 = .ok (.iconst 0, 1) := by decide +kernel
theorem d148_201 : decode (mB 148) 201 = .ok (.ireturn, 1) := by decide +kernel
theorem d148_202 : decode (mB 148) 202 = .ok (.aload_n 0, 1) := by decide +kernel
theorem d148_203 : decode (mB 148) 203 = .ok (.bipush 41, 2) := by decide +kernel
theorem d148_205 : decode (mB 148) 205 = .ok (.iload 6, 2) := by decide +kernel
theorem d148_207 : decode (mB 148) 207 = .ok (.imul, 1) := by decide +kernel
theorem d148_208 : decode (mB 148) 208 = .ok (.iload 7, 2) := by decide +kernel
theorem d148_210 : decode (mB 148) 210 = .ok (.iadd, 1) := by decide +kernel
theorem d148_211 : decode (mB 148) 211 = .ok (.iload 4, 2) := by decide +kernel
theorem d148_213 : decode (mB 148) 213 = .ok (.invokevirtual 291, 3) := by decide +kernel
theorem d148_216 : decode (mB 148) 216 = .ok (.ireturn, 1) := by decide +kernel
theorem v148_0 (L : Nat) (xs : Nat → Int32) : zVal L xs 148 0 (.inl (i_al 0 1)) := zS_aload_n d148_0 rfl
theorem v148_1 (L : Nat) (xs : Nat → Int32) : zVal L xs 148 1 (.inl (i_il 1 2)) := zS_iload_n d148_1 rfl
theorem v148_2 (L : Nat) (xs : Nat → Int32) : zVal L xs 148 2 (.inl (i_il 2 3)) := zS_iload_n d148_2 rfl
theorem v148_3 (L : Nat) (xs : Nat → Int32) : zVal L xs 148 3 (.inl (i_il 3 4)) := zS_iload_n d148_3 rfl
theorem v148_4 (L : Nat) (xs : Nat → Int32) : zVal L xs 148 4 (.inr (.inl (144, 4, 11))) := ⟨by decide +kernel, by decide +kernel, zc_virt d148_4 zcl10 w1107 w1104 w1106 w66 w85 ⟨by decide +kernel, by decide +kernel, by decide +kernel⟩ (by decide) (by decide)⟩
theorem v148_7 (L : Nat) (xs : Nat → Int32) : zVal L xs 148 7 (.inl (i_f1 (fun x => decide (x = 0)) 24 10)) := zS_if_eq d148_7 (by decide)
theorem v148_10 (L : Nat) (xs : Nat → Int32) : zVal L xs 148 10 (.inl (i_il 4 12)) := zS_iload d148_10
theorem v148_12 (L : Nat) (xs : Nat → Int32) : zVal L xs 148 12 (.inl (i_f1 (fun x => decide (x < 0)) 24 15)) := zS_if_lt d148_12 (by decide)
theorem v148_15 (L : Nat) (xs : Nat → Int32) : zVal L xs 148 15 (.inl (i_il 4 17)) := zS_iload d148_15
theorem v148_17 (L : Nat) (xs : Nat → Int32) : zVal L xs 148 17 (.inl (i_al 0 18)) := zS_aload_n d148_17 rfl
theorem v148_18 (L : Nat) (xs : Nat → Int32) : zVal L xs 148 18 (.inl (i_gf 10 2 21)) := zS_getf d148_18 (zcl10) (by decide) zi10 w780
theorem v148_21 (L : Nat) (xs : Nat → Int32) : zVal L xs 148 21 (.inl (i_f2 (fun x y => decide (x < y)) 26 24)) := zS_icmp_lt d148_21 (by decide)
theorem v148_24 (L : Nat) (xs : Nat → Int32) : zVal L xs 148 24 (.inl (i_k [true, true, true, true, true, true, true, true, true] (i_c (.int (-1)) 25))) := zS_k (zS_iconst d148_24 (by decide))
theorem v148_25 (L : Nat) (xs : Nat → Int32) : zVal L xs 148 25 (.inr (.inr 1)) := zr_1 d148_25 rfl
theorem v148_26 (L : Nat) (xs : Nat → Int32) : zVal L xs 148 26 (.inl (i_al 0 27)) := zS_aload_n d148_26 rfl
theorem v148_27 (L : Nat) (xs : Nat → Int32) : zVal L xs 148 27 (.inl (i_il 1 28)) := zS_iload_n d148_27 rfl
theorem v148_28 (L : Nat) (xs : Nat → Int32) : zVal L xs 148 28 (.inl (i_il 2 29)) := zS_iload_n d148_28 rfl
theorem v148_29 (L : Nat) (xs : Nat → Int32) : zVal L xs 148 29 (.inl (i_il 3 30)) := zS_iload_n d148_29 rfl
theorem v148_30 (L : Nat) (xs : Nat → Int32) : zVal L xs 148 30 (.inr (.inl (145, 4, 11))) := ⟨by decide +kernel, by decide +kernel, zc_virt d148_30 zcl10 w1103 w1112 w1101 w1102 w85 ⟨by decide +kernel, by decide +kernel, by decide +kernel⟩ (by decide) (by decide)⟩
theorem v148_33 (L : Nat) (xs : Nat → Int32) : zVal L xs 148 33 (.inl (i_is 5 35)) := zS_istore d148_33
theorem v148_35 (L : Nat) (xs : Nat → Int32) : zVal L xs 148 35 (.inl (i_il 5 37)) := zS_iload d148_35
theorem v148_37 (L : Nat) (xs : Nat → Int32) : zVal L xs 148 37 (.inl (i_c (.int 100) 39)) := zS_bipush d148_37 (by decide)
theorem v148_39 (L : Nat) (xs : Nat → Int32) : zVal L xs 148 39 (.inl (i_bz (fun x y => x / y) 40)) := zS_idiv d148_39
theorem v148_40 (L : Nat) (xs : Nat → Int32) : zVal L xs 148 40 (.inl (i_c (.int 1) 41)) := zS_iconst d148_40 (by decide)
theorem v148_41 (L : Nat) (xs : Nat → Int32) : zVal L xs 148 41 (.inl (i_bi (fun x y => x - y) 42)) := zS_isub d148_41
theorem v148_42 (L : Nat) (xs : Nat → Int32) : zVal L xs 148 42 (.inl (i_is 6 44)) := zS_istore d148_42
theorem v148_44 (L : Nat) (xs : Nat → Int32) : zVal L xs 148 44 (.inl (i_il 5 46)) := zS_iload d148_44
theorem v148_46 (L : Nat) (xs : Nat → Int32) : zVal L xs 148 46 (.inl (i_c (.int 100) 48)) := zS_bipush d148_46 (by decide)
theorem v148_48 (L : Nat) (xs : Nat → Int32) : zVal L xs 148 48 (.inl (i_bz (fun x y => x - x / y * y) 49)) := zS_irem d148_48
theorem v148_49 (L : Nat) (xs : Nat → Int32) : zVal L xs 148 49 (.inl (i_is 7 51)) := zS_istore d148_49
theorem v148_51 (L : Nat) (xs : Nat → Int32) : zVal L xs 148 51 (.inl (i_il 5 53)) := zS_iload d148_51
theorem v148_53 (L : Nat) (xs : Nat → Int32) : zVal L xs 148 53 (.inl (i_f1 (fun x => decide (x = 0)) 63 56)) := zS_if_eq d148_53 (by decide)
theorem v148_56 (L : Nat) (xs : Nat → Int32) : zVal L xs 148 56 (.inl (i_il 7 58)) := zS_iload d148_56
theorem v148_58 (L : Nat) (xs : Nat → Int32) : zVal L xs 148 58 (.inl (i_c (.int 90) 60)) := zS_bipush d148_58 (by decide)
theorem v148_60 (L : Nat) (xs : Nat → Int32) : zVal L xs 148 60 (.inl (i_f2 (fun x y => decide (¬ x = y)) 65 63)) := zS_icmp_ne d148_60 (by decide)
theorem v148_63 (L : Nat) (xs : Nat → Int32) : zVal L xs 148 63 (.inl (i_k [true, true, true, true, true, true, true, true, true] (i_c (.int 0) 64))) := zS_k (zS_iconst d148_63 (by decide))
theorem v148_64 (L : Nat) (xs : Nat → Int32) : zVal L xs 148 64 (.inr (.inr 1)) := zr_1 d148_64 rfl
theorem v148_65 (L : Nat) (xs : Nat → Int32) : zVal L xs 148 65 (.inl (i_il 7 67)) := zS_iload d148_65
theorem v148_67 (L : Nat) (xs : Nat → Int32) : zVal L xs 148 67 (.inl (i_c (.int 80) 69)) := zS_bipush d148_67 (by decide)
theorem v148_69 (L : Nat) (xs : Nat → Int32) : zVal L xs 148 69 (.inl (i_f2 (fun x y => decide (¬ x = y)) 121 72)) := zS_icmp_ne d148_69 (by decide)
theorem v148_72 (L : Nat) (xs : Nat → Int32) : zVal L xs 148 72 (.inl (i_al 0 73)) := zS_aload_n d148_72 rfl
theorem v148_73 (L : Nat) (xs : Nat → Int32) : zVal L xs 148 73 (.inl (i_gf 10 2 76)) := zS_getf d148_73 (zcl10) (by decide) zi10 w780
theorem v148_76 (L : Nat) (xs : Nat → Int32) : zVal L xs 148 76 (.inl (i_il 2 77)) := zS_iload_n d148_76 rfl
theorem v148_77 (L : Nat) (xs : Nat → Int32) : zVal L xs 148 77 (.inl (i_al 0 78)) := zS_aload_n d148_77 rfl
theorem v148_78 (L : Nat) (xs : Nat → Int32) : zVal L xs 148 78 (.inl (i_gf 10 36 81)) := zS_getf d148_78 (zcl10) (by decide) zi10 w814
theorem v148_81 (L : Nat) (xs : Nat → Int32) : zVal L xs 148 81 (.inl (i_c (.int 22) 83)) := zS_bipush d148_81 (by decide)
theorem v148_83 (L : Nat) (xs : Nat → Int32) : zVal L xs 148 83 (.inl (i_il 6 85)) := zS_iload d148_83
theorem v148_85 (L : Nat) (xs : Nat → Int32) : zVal L xs 148 85 (.inl (i_bi (fun x y => x * y) 86)) := zS_imul d148_85
theorem v148_86 (L : Nat) (xs : Nat → Int32) : zVal L xs 148 86 (.inl (i_c (.int 1) 87)) := zS_iconst d148_86 (by decide)
theorem v148_87 (L : Nat) (xs : Nat → Int32) : zVal L xs 148 87 (.inl (i_bi (fun x y => x + y) 88)) := zS_iadd d148_87
theorem v148_88 (L : Nat) (xs : Nat → Int32) : zVal L xs 148 88 (.inl (i_ga 0 89)) := zS_iald d148_88
theorem v148_89 (L : Nat) (xs : Nat → Int32) : zVal L xs 148 89 (.inl (i_bi (fun x y => x - y) 90)) := zS_isub d148_89
theorem v148_90 (L : Nat) (xs : Nat → Int32) : zVal L xs 148 90 (.inl (i_bi (fun x y => x * y) 91)) := zS_imul d148_90
theorem v148_91 (L : Nat) (xs : Nat → Int32) : zVal L xs 148 91 (.inl (i_is 8 93)) := zS_istore d148_91
theorem v148_93 (L : Nat) (xs : Nat → Int32) : zVal L xs 148 93 (.inl (i_al 0 94)) := zS_aload_n d148_93 rfl
theorem v148_94 (L : Nat) (xs : Nat → Int32) : zVal L xs 148 94 (.inl (i_c (.int 16) 96)) := zS_bipush d148_94 (by decide)
theorem v148_96 (L : Nat) (xs : Nat → Int32) : zVal L xs 148 96 (.inl (i_il 6 98)) := zS_iload d148_96
theorem v148_98 (L : Nat) (xs : Nat → Int32) : zVal L xs 148 98 (.inl (i_bi (fun x y => x + y) 99)) := zS_iadd d148_98
theorem v148_99 (L : Nat) (xs : Nat → Int32) : zVal L xs 148 99 (.inl (i_c (.int 0) 100)) := zS_iconst d148_99 (by decide)
theorem v148_100 (L : Nat) (xs : Nat → Int32) : zVal L xs 148 100 (.inl (i_al 0 101)) := zS_aload_n d148_100 rfl
theorem v148_101 (L : Nat) (xs : Nat → Int32) : zVal L xs 148 101 (.inl (i_gf 10 21 104)) := zS_getf d148_101 (zcl10) (by decide) zi10 w799
theorem v148_104 (L : Nat) (xs : Nat → Int32) : zVal L xs 148 104 (.inl (i_c (.int 16) 106)) := zS_bipush d148_104 (by decide)
theorem v148_106 (L : Nat) (xs : Nat → Int32) : zVal L xs 148 106 (.inl (i_il 6 108)) := zS_iload d148_106
theorem v148_108 (L : Nat) (xs : Nat → Int32) : zVal L xs 148 108 (.inl (i_bi (fun x y => x + y) 109)) := zS_iadd d148_108
theorem v148_109 (L : Nat) (xs : Nat → Int32) : zVal L xs 148 109 (.inl (i_ga 0 110)) := zS_iald d148_109
theorem v148_110 (L : Nat) (xs : Nat → Int32) : zVal L xs 148 110 (.inl (i_il 8 112)) := zS_iload d148_110
theorem v148_112 (L : Nat) (xs : Nat → Int32) : zVal L xs 148 112 (.inl (i_il 4 114)) := zS_iload d148_112
theorem v148_114 (L : Nat) (xs : Nat → Int32) : zVal L xs 148 114 (.inl (i_bi (fun x y => x + y) 115)) := zS_iadd d148_114
theorem v148_115 (L : Nat) (xs : Nat → Int32) : zVal L xs 148 115 (.inl (i_c (.int 3) 116)) := zS_iconst d148_115 (by decide)
theorem v148_116 (L : Nat) (xs : Nat → Int32) : zVal L xs 148 116 (.inl (i_c (.int 0) 117)) := zS_iconst d148_116 (by decide)
theorem v148_117 (L : Nat) (xs : Nat → Int32) : zVal L xs 148 117 (.inr (.inl (146, 7, 11))) := ⟨by decide +kernel, by decide +kernel, zc_virt d148_117 zcl10 w1116 w1113 w1115 w67 w85 ⟨by decide +kernel, by decide +kernel, by decide +kernel⟩ (by decide) (by decide)⟩
theorem v148_120 (L : Nat) (xs : Nat → Int32) : zVal L xs 148 120 (.inr (.inr 1)) := zr_1 d148_120 rfl
theorem v148_121 (L : Nat) (xs : Nat → Int32) : zVal L xs 148 121 (.inl (i_il 7 123)) := zS_iload d148_121
theorem v148_123 (L : Nat) (xs : Nat → Int32) : zVal L xs 148 123 (.inl (i_c (.int 81) 125)) := zS_bipush d148_123 (by decide)
theorem v148_125 (L : Nat) (xs : Nat → Int32) : zVal L xs 148 125 (.inl (i_f2 (fun x y => decide (¬ x = y)) 131 128)) := zS_icmp_ne d148_125 (by decide)
theorem v148_128 (L : Nat) (xs : Nat → Int32) : zVal L xs 148 128 (.inl (i_c (.int 35) 130)) := zS_bipush d148_128 (by decide)
theorem v148_130 (L : Nat) (xs : Nat → Int32) : zVal L xs 148 130 (.inr (.inr 1)) := zr_1 d148_130 rfl
theorem v148_131 (L : Nat) (xs : Nat → Int32) : zVal L xs 148 131 (.inl (i_il 7 133)) := zS_iload d148_131
theorem v148_133 (L : Nat) (xs : Nat → Int32) : zVal L xs 148 133 (.inl (i_c (.int 81) 135)) := zS_bipush d148_133 (by decide)
theorem v148_135 (L : Nat) (xs : Nat → Int32) : zVal L xs 148 135 (.inl (i_f2 (fun x y => decide (x ≤ y)) 202 138)) := zS_icmp_le d148_135 (by decide)
theorem v148_138 (L : Nat) (xs : Nat → Int32) : zVal L xs 148 138 (.inl (i_c (.int 49) 140)) := zS_bipush d148_138 (by decide)
theorem v148_140 (L : Nat) (xs : Nat → Int32) : zVal L xs 148 140 (.inl (i_al 0 141)) := zS_aload_n d148_140 rfl
theorem v148_141 (L : Nat) (xs : Nat → Int32) : zVal L xs 148 141 (.inl (i_gf 10 36 144)) := zS_getf d148_141 (zcl10) (by decide) zi10 w814
theorem v148_144 (L : Nat) (xs : Nat → Int32) : zVal L xs 148 144 (.inl (i_c (.int 22) 146)) := zS_bipush d148_144 (by decide)
theorem v148_146 (L : Nat) (xs : Nat → Int32) : zVal L xs 148 146 (.inl (i_il 6 148)) := zS_iload d148_146
theorem v148_148 (L : Nat) (xs : Nat → Int32) : zVal L xs 148 148 (.inl (i_bi (fun x y => x * y) 149)) := zS_imul d148_148
theorem v148_149 (L : Nat) (xs : Nat → Int32) : zVal L xs 148 149 (.inl (i_il 7 151)) := zS_iload d148_149
theorem v148_151 (L : Nat) (xs : Nat → Int32) : zVal L xs 148 151 (.inl (i_c (.int 82) 153)) := zS_bipush d148_151 (by decide)
theorem v148_153 (L : Nat) (xs : Nat → Int32) : zVal L xs 148 153 (.inl (i_f2 (fun x y => decide (¬ x = y)) 161 156)) := zS_icmp_ne d148_153 (by decide)
theorem v148_156 (L : Nat) (xs : Nat → Int32) : zVal L xs 148 156 (.inl (i_c (.int 11) 158)) := zS_bipush d148_156 (by decide)
theorem v148_158 (L : Nat) (xs : Nat → Int32) : zVal L xs 148 158 (.inl (i_go 162)) := zS_goto d148_158 (by decide)
theorem v148_161 (L : Nat) (xs : Nat → Int32) : zVal L xs 148 161 (.inl (i_c (.int 0) 162)) := zS_iconst d148_161 (by decide)
theorem v148_162 (L : Nat) (xs : Nat → Int32) : zVal L xs 148 162 (.inl (i_k [true, true, true, true, false, true, true, false, true] (i_bi (fun x y => x + y) 163))) := zS_k (zS_iadd d148_162)
theorem v148_163 (L : Nat) (xs : Nat → Int32) : zVal L xs 148 163 (.inl (i_ga 0 164)) := zS_iald d148_163
theorem v148_164 (L : Nat) (xs : Nat → Int32) : zVal L xs 148 164 (.inl (i_bi (fun x y => x + y) 165)) := zS_iadd d148_164
theorem v148_165 (L : Nat) (xs : Nat → Int32) : zVal L xs 148 165 (.inl (i_is 8 167)) := zS_istore d148_165
theorem v148_167 (L : Nat) (xs : Nat → Int32) : zVal L xs 148 167 (.inl (i_il 4 169)) := zS_iload d148_167
theorem v148_169 (L : Nat) (xs : Nat → Int32) : zVal L xs 148 169 (.inl (i_f1 (fun x => decide (¬ x = 0)) 189 172)) := zS_if_ne d148_169 (by decide)
theorem v148_172 (L : Nat) (xs : Nat → Int32) : zVal L xs 148 172 (.inl (i_il 7 174)) := zS_iload d148_172
theorem v148_174 (L : Nat) (xs : Nat → Int32) : zVal L xs 148 174 (.inl (i_c (.int 82) 176)) := zS_bipush d148_174 (by decide)
theorem v148_176 (L : Nat) (xs : Nat → Int32) : zVal L xs 148 176 (.inl (i_f2 (fun x y => decide (¬ x = y)) 184 179)) := zS_icmp_ne d148_176 (by decide)
theorem v148_179 (L : Nat) (xs : Nat → Int32) : zVal L xs 148 179 (.inl (i_c (.int 62) 181)) := zS_bipush d148_179 (by decide)
theorem v148_181 (L : Nat) (xs : Nat → Int32) : zVal L xs 148 181 (.inl (i_go 201)) := zS_goto d148_181 (by decide)
theorem v148_184 (L : Nat) (xs : Nat → Int32) : zVal L xs 148 184 (.inl (i_c (.int 60) 186)) := zS_bipush d148_184 (by decide)
theorem v148_186 (L : Nat) (xs : Nat → Int32) : zVal L xs 148 186 (.inl (i_go 201)) := zS_goto d148_186 (by decide)
theorem v148_189 (L : Nat) (xs : Nat → Int32) : zVal L xs 148 189 (.inl (i_il 4 191)) := zS_iload d148_189
theorem v148_191 (L : Nat) (xs : Nat → Int32) : zVal L xs 148 191 (.inl (i_c (.int 1) 192)) := zS_iconst d148_191 (by decide)
theorem v148_192 (L : Nat) (xs : Nat → Int32) : zVal L xs 148 192 (.inl (i_f2 (fun x y => decide (¬ x = y)) 200 195)) := zS_icmp_ne d148_192 (by decide)
theorem v148_195 (L : Nat) (xs : Nat → Int32) : zVal L xs 148 195 (.inl (i_il 8 197)) := zS_iload d148_195
theorem v148_197 (L : Nat) (xs : Nat → Int32) : zVal L xs 148 197 (.inl (i_go 201)) := zS_goto d148_197 (by decide)
theorem v148_200 (L : Nat) (xs : Nat → Int32) : zVal L xs 148 200 (.inl (i_c (.int 0) 201)) := zS_iconst d148_200 (by decide)
theorem v148_201 (L : Nat) (xs : Nat → Int32) : zVal L xs 148 201 (.inr (.inr 1)) := zr_1 d148_201 rfl
theorem v148_202 (L : Nat) (xs : Nat → Int32) : zVal L xs 148 202 (.inl (i_al 0 203)) := zS_aload_n d148_202 rfl
theorem v148_203 (L : Nat) (xs : Nat → Int32) : zVal L xs 148 203 (.inl (i_c (.int 41) 205)) := zS_bipush d148_203 (by decide)
theorem v148_205 (L : Nat) (xs : Nat → Int32) : zVal L xs 148 205 (.inl (i_il 6 207)) := zS_iload d148_205
theorem v148_207 (L : Nat) (xs : Nat → Int32) : zVal L xs 148 207 (.inl (i_bi (fun x y => x * y) 208)) := zS_imul d148_207
theorem v148_208 (L : Nat) (xs : Nat → Int32) : zVal L xs 148 208 (.inl (i_il 7 210)) := zS_iload d148_208
theorem v148_210 (L : Nat) (xs : Nat → Int32) : zVal L xs 148 210 (.inl (i_bi (fun x y => x + y) 211)) := zS_iadd d148_210
theorem v148_211 (L : Nat) (xs : Nat → Int32) : zVal L xs 148 211 (.inl (i_il 4 213)) := zS_iload d148_211
theorem v148_213 (L : Nat) (xs : Nat → Int32) : zVal L xs 148 213 (.inr (.inl (147, 3, 11))) := ⟨by decide +kernel, by decide +kernel, zc_virt d148_213 zcl10 w1124 w1121 w1123 w69 w85 ⟨by decide +kernel, by decide +kernel, by decide +kernel⟩ (by decide) (by decide)⟩
theorem v148_216 (L : Nat) (xs : Nat → Int32) : zVal L xs 148 216 (.inr (.inr 1)) := zr_1 d148_216 rfl
theorem vt148 (L : Nat) (xs : Nat → Int32) : zAll (fun x => zVal L xs 148 x.1 x.2) (tb148) := ⟨v148_0 L xs, v148_1 L xs, v148_2 L xs, v148_3 L xs, v148_4 L xs, v148_7 L xs, v148_10 L xs, v148_12 L xs, v148_15 L xs, v148_17 L xs, v148_18 L xs, v148_21 L xs, v148_24 L xs, v148_25 L xs, v148_26 L xs, v148_27 L xs, v148_28 L xs, v148_29 L xs, v148_30 L xs, v148_33 L xs, v148_35 L xs, v148_37 L xs, v148_39 L xs, v148_40 L xs, v148_41 L xs, v148_42 L xs, v148_44 L xs, v148_46 L xs, v148_48 L xs, v148_49 L xs, v148_51 L xs, v148_53 L xs, v148_56 L xs, v148_58 L xs, v148_60 L xs, v148_63 L xs, v148_64 L xs, v148_65 L xs, v148_67 L xs, v148_69 L xs, v148_72 L xs, v148_73 L xs, v148_76 L xs, v148_77 L xs, v148_78 L xs, v148_81 L xs, v148_83 L xs, v148_85 L xs, v148_86 L xs, v148_87 L xs, v148_88 L xs, v148_89 L xs, v148_90 L xs, v148_91 L xs, v148_93 L xs, v148_94 L xs, v148_96 L xs, v148_98 L xs, v148_99 L xs, v148_100 L xs, v148_101 L xs, v148_104 L xs, v148_106 L xs, v148_108 L xs, v148_109 L xs, v148_110 L xs, v148_112 L xs, v148_114 L xs, v148_115 L xs, v148_116 L xs, v148_117 L xs, v148_120 L xs, v148_121 L xs, v148_123 L xs, v148_125 L xs, v148_128 L xs, v148_130 L xs, v148_131 L xs, v148_133 L xs, v148_135 L xs, v148_138 L xs, v148_140 L xs, v148_141 L xs, v148_144 L xs, v148_146 L xs, v148_148 L xs, v148_149 L xs, v148_151 L xs, v148_153 L xs, v148_156 L xs, v148_158 L xs, v148_161 L xs, v148_162 L xs, v148_163 L xs, v148_164 L xs, v148_165 L xs, v148_167 L xs, v148_169 L xs, v148_172 L xs, v148_174 L xs, v148_176 L xs, v148_179 L xs, v148_181 L xs, v148_184 L xs, v148_186 L xs, v148_189 L xs, v148_191 L xs, v148_192 L xs, v148_195 L xs, v148_197 L xs, v148_200 L xs, v148_201 L xs, v148_202 L xs, v148_203 L xs, v148_205 L xs, v148_207 L xs, v148_208 L xs, v148_210 L xs, v148_211 L xs, v148_213 L xs, v148_216 L xs, trivial⟩
theorem d149_0 : decode (mB 149) 0 = .ok (.iconst 0, 1) := by decide +kernel
theorem d149_1 : decode (mB 149) 1 = .ok (.istore_n 2, 1) := by decide +kernel
theorem d149_2 : decode (mB 149) 2 = .ok (.aload_n 0, 1) := by decide +kernel
theorem d149_3 : decode (mB 149) 3 = .ok (.arraylength, 1) := by decide +kernel
theorem d149_4 : decode (mB 149) 4 = .ok (.istore_n 3, 1) := by decide +kernel
theorem d149_5 : decode (mB 149) 5 = .ok (.iload_n 2, 1) := by decide +kernel
theorem d149_6 : decode (mB 149) 6 = .ok (.iload_n 3, 1) := by decide +kernel
theorem d149_7 : decode (mB 149) 7 = .ok (.if_icmp .ge 13, 3) := by decide +kernel
theorem d149_10 : decode (mB 149) 10 = .ok (.aload_n 0, 1) := by decide +kernel
theorem d149_11 : decode (mB 149) 11 = .ok (.iload_n 2, 1) := by decide +kernel
theorem d149_12 : decode (mB 149) 12 = .ok (.iload_n 1, 1) := by decide +kernel
theorem d149_13 : decode (mB 149) 13 = .ok (.iastore, 1) := by decide +kernel
theorem d149_14 : decode (mB 149) 14 = .ok (.iinc 2 1, 3) := by decide +kernel
theorem d149_17 : decode (mB 149) 17 = .ok (.goto (-12), 3) := by decide +kernel
theorem d149_20 : decode (mB 149) 20 = .ok (.return_, 1) := by decide +kernel
theorem v149_0 (L : Nat) (xs : Nat → Int32) : zVal L xs 149 0 (.inl (i_c (.int 0) 1)) := zS_iconst d149_0 (by decide)
theorem v149_1 (L : Nat) (xs : Nat → Int32) : zVal L xs 149 1 (.inl (i_is 2 2)) := zS_istore_n d149_1 rfl
theorem v149_2 (L : Nat) (xs : Nat → Int32) : zVal L xs 149 2 (.inl (i_al 0 3)) := zS_aload_n d149_2 rfl
theorem v149_3 (L : Nat) (xs : Nat → Int32) : zVal L xs 149 3 (.inl (i_le 4)) := zS_alen d149_3
theorem v149_4 (L : Nat) (xs : Nat → Int32) : zVal L xs 149 4 (.inl (i_is 3 5)) := zS_istore_n d149_4 rfl
theorem v149_5 (L : Nat) (xs : Nat → Int32) : zVal L xs 149 5 (.inl (i_k [false, false, false, false] (i_il 2 6))) := zS_k (zS_iload_n d149_5 rfl)
theorem v149_6 (L : Nat) (xs : Nat → Int32) : zVal L xs 149 6 (.inl (i_il 3 7)) := zS_iload_n d149_6 rfl
theorem v149_7 (L : Nat) (xs : Nat → Int32) : zVal L xs 149 7 (.inl (i_f2 (fun x y => decide (y ≤ x)) 20 10)) := zS_icmp_ge d149_7 (by decide)
theorem v149_10 (L : Nat) (xs : Nat → Int32) : zVal L xs 149 10 (.inl (i_al 0 11)) := zS_aload_n d149_10 rfl
theorem v149_11 (L : Nat) (xs : Nat → Int32) : zVal L xs 149 11 (.inl (i_il 2 12)) := zS_iload_n d149_11 rfl
theorem v149_12 (L : Nat) (xs : Nat → Int32) : zVal L xs 149 12 (.inl (i_il 1 13)) := zS_iload_n d149_12 rfl
theorem v149_13 (L : Nat) (xs : Nat → Int32) : zVal L xs 149 13 (.inl (i_pa 0 (fun x => x) 14)) := zS_iast d149_13
theorem v149_14 (L : Nat) (xs : Nat → Int32) : zVal L xs 149 14 (.inl (i_in 2 1 17)) := zS_iinc d149_14 (by decide)
theorem v149_17 (L : Nat) (xs : Nat → Int32) : zVal L xs 149 17 (.inl (i_go 5)) := zS_goto d149_17 (by decide)
theorem v149_20 (L : Nat) (xs : Nat → Int32) : zVal L xs 149 20 (.inr (.inr 0)) := zr_0 d149_20 rfl
theorem vt149 (L : Nat) (xs : Nat → Int32) : zAll (fun x => zVal L xs 149 x.1 x.2) (tb149) := ⟨v149_0 L xs, v149_1 L xs, v149_2 L xs, v149_3 L xs, v149_4 L xs, v149_5 L xs, v149_6 L xs, v149_7 L xs, v149_10 L xs, v149_11 L xs, v149_12 L xs, v149_13 L xs, v149_14 L xs, v149_17 L xs, v149_20 L xs, trivial⟩
def zAllJ (L : Nat) (xs : Nat → Int32) : List (List (Nat × zO)) → Nat → Prop
  | [], _ => True
  | t :: l, j => zAll (fun x => zVal L xs j x.1 x.2) t ∧ zAllJ L xs l (j + 1)
theorem zAllJ_at (L : Nat) (xs : Nat → Int32) : ∀ (l : List (List (Nat × zO))) (o j : Nat), zAllJ L xs l o → zAll (fun x => zVal L xs (o + j) x.1 x.2) (znt l j [])
  | [], _, _, _ => trivial
  | _ :: _, _, 0, h => h.1
  | _ :: l, o, j + 1, h => by
    have := zAllJ_at L xs l (o + 1) j h.2
    rw [show o + 1 + j = o + (j + 1) by omega] at this
    exact this
theorem zVt (L : Nat) (xs : Nat → Int32) : zAllJ L xs (zTb L xs) 0 := ⟨vt0 L xs, vt1 L xs, vt2 L xs, vt3 L xs, vt4 L xs, vt5 L xs, vt6 L xs, vt7 L xs, vt8 L xs, vt9 L xs, vt10 L xs, vt11 L xs, vt12 L xs, vt13 L xs, vt14 L xs, vt15 L xs, vt16 L xs, vt17 L xs, vt18 L xs, vt19 L xs, vt20 L xs, vt21 L xs, vt22 L xs, vt23 L xs, vt24 L xs, vt25 L xs, vt26 L xs, vt27 L xs, vt28 L xs, vt29 L xs, vt30 L xs, vt31 L xs, vt32 L xs, vt33 L xs, vt34 L xs, vt35 L xs, vt36 L xs, vt37 L xs, vt38 L xs, vt39 L xs, vt40 L xs, vt41 L xs, vt42 L xs, vt43 L xs, vt44 L xs, vt45 L xs, vt46 L xs, vt47 L xs, vt48 L xs, vt49 L xs, vt50 L xs, vt51 L xs, vt52 L xs, vt53 L xs, vt54 L xs, vt55 L xs, vt56 L xs, vt57 L xs, vt58 L xs, vt59 L xs, vt60 L xs, vt61 L xs, vt62 L xs, vt63 L xs, vt64 L xs, vt65 L xs, vt66 L xs, vt67 L xs, vt68 L xs, vt69 L xs, vt70 L xs, vt71 L xs, vt72 L xs, vt73 L xs, vt74 L xs, vt75 L xs, vt76 L xs, vt77 L xs, vt78 L xs, vt79 L xs, vt80 L xs, vt81 L xs, vt82 L xs, vt83 L xs, vt84 L xs, vt85 L xs, vt86 L xs, vt87 L xs, vt88 L xs, vt89 L xs, vt90 L xs, vt91 L xs, vt92 L xs, vt93 L xs, vt94 L xs, vt95 L xs, vt96 L xs, vt97 L xs, vt98 L xs, vt99 L xs, vt100 L xs, vt101 L xs, vt102 L xs, vt103 L xs, vt104 L xs, vt105 L xs, vt106 L xs, vt107 L xs, vt108 L xs, vt109 L xs, vt110 L xs, vt111 L xs, vt112 L xs, vt113 L xs, vt114 L xs, vt115 L xs, vt116 L xs, vt117 L xs, vt118 L xs, vt119 L xs, vt120 L xs, vt121 L xs, vt122 L xs, vt123 L xs, vt124 L xs, vt125 L xs, vt126 L xs, vt127 L xs, vt128 L xs, vt129 L xs, vt130 L xs, vt131 L xs, vt132 L xs, vt133 L xs, vt134 L xs, vt135 L xs, vt136 L xs, vt137 L xs, vt138 L xs, vt139 L xs, vt140 L xs, vt141 L xs, vt142 L xs, vt143 L xs, vt144 L xs, vt145 L xs, vt146 L xs, vt147 L xs, vt148 L xs, vt149 L xs, trivial⟩
/-- every step of the program is the machine's -/
theorem zV (L : Nat) (xs : Nat → Int32) (j pc : Nat) (o : zO) (h : (zPg L xs).1 j pc = some o) : zVal L xs j pc o := by
  have h1 := zAllJ_at L xs (zTb L xs) 0 j (zVt L xs)
  rw [Nat.zero_add] at h1
  exact zAll_mem h1 _ (zlk_mem h)
