/-! ===== what stands where in the program (printed by wip/whole/gen/fix.py) ===== -/
section
variable {L : Nat} {xs : Nat → Int32}
theorem lk_0_0 : (zPr L xs).1 0 0 = o_lload 0 1 := rfl
theorem lk_0_1 : (zPr L xs).1 0 1 = o_lload 0 1 := rfl
theorem lk_0_2 : (zPr L xs).1 0 2 = o_push (.int (1)) 1 := rfl
theorem lk_0_3 : (zPr L xs).1 0 3 = o_sop (fun x y => (x.toUInt64 >>> (y.toInt64.toUInt64 &&& Int64.toUInt64 63)).toInt64) := rfl
theorem lk_0_4 : (zPr L xs).1 0 4 = o_push (.long (6148914691236517205)) 3 := rfl
theorem lk_0_7 : (zPr L xs).1 0 7 = o_lop (fun x y => x &&& y) := rfl
theorem lk_0_8 : (zPr L xs).1 0 8 = o_lop (fun x y => x - y) := rfl
theorem lk_0_9 : (zPr L xs).1 0 9 = o_lstore 0 1 := rfl
theorem lk_0_10 : (zPr L xs).1 0 10 = o_lload 0 1 := rfl
theorem lk_0_11 : (zPr L xs).1 0 11 = o_push (.long (3689348814741910323)) 3 := rfl
theorem lk_0_14 : (zPr L xs).1 0 14 = o_lop (fun x y => x &&& y) := rfl
theorem lk_0_15 : (zPr L xs).1 0 15 = o_lload 0 1 := rfl
theorem lk_0_16 : (zPr L xs).1 0 16 = o_push (.int (2)) 1 := rfl
theorem lk_0_17 : (zPr L xs).1 0 17 = o_sop (fun x y => (x.toUInt64 >>> (y.toInt64.toUInt64 &&& Int64.toUInt64 63)).toInt64) := rfl
theorem lk_0_18 : (zPr L xs).1 0 18 = o_push (.long (3689348814741910323)) 3 := rfl
theorem lk_0_21 : (zPr L xs).1 0 21 = o_lop (fun x y => x &&& y) := rfl
theorem lk_0_22 : (zPr L xs).1 0 22 = o_lop (fun x y => x + y) := rfl
theorem lk_0_23 : (zPr L xs).1 0 23 = o_lstore 0 1 := rfl
theorem lk_0_24 : (zPr L xs).1 0 24 = o_lload 0 1 := rfl
theorem lk_0_25 : (zPr L xs).1 0 25 = o_lload 0 1 := rfl
theorem lk_0_26 : (zPr L xs).1 0 26 = o_push (.int (4)) 1 := rfl
theorem lk_0_27 : (zPr L xs).1 0 27 = o_sop (fun x y => (x.toUInt64 >>> (y.toInt64.toUInt64 &&& Int64.toUInt64 63)).toInt64) := rfl
theorem lk_0_28 : (zPr L xs).1 0 28 = o_lop (fun x y => x + y) := rfl
theorem lk_0_29 : (zPr L xs).1 0 29 = o_push (.long (1085102592571150095)) 3 := rfl
theorem lk_0_32 : (zPr L xs).1 0 32 = o_lop (fun x y => x &&& y) := rfl
theorem lk_0_33 : (zPr L xs).1 0 33 = o_lstore 0 1 := rfl
theorem lk_0_34 : (zPr L xs).1 0 34 = o_lload 0 1 := rfl
theorem lk_0_35 : (zPr L xs).1 0 35 = o_lload 0 1 := rfl
theorem lk_0_36 : (zPr L xs).1 0 36 = o_push (.int (8)) 2 := rfl
theorem lk_0_38 : (zPr L xs).1 0 38 = o_sop (fun x y => (x.toUInt64 >>> (y.toInt64.toUInt64 &&& Int64.toUInt64 63)).toInt64) := rfl
theorem lk_0_39 : (zPr L xs).1 0 39 = o_lop (fun x y => x + y) := rfl
theorem lk_0_40 : (zPr L xs).1 0 40 = o_lstore 0 1 := rfl
theorem lk_0_41 : (zPr L xs).1 0 41 = o_lload 0 1 := rfl
theorem lk_0_42 : (zPr L xs).1 0 42 = o_lload 0 1 := rfl
theorem lk_0_43 : (zPr L xs).1 0 43 = o_push (.int (16)) 2 := rfl
theorem lk_0_45 : (zPr L xs).1 0 45 = o_sop (fun x y => (x.toUInt64 >>> (y.toInt64.toUInt64 &&& Int64.toUInt64 63)).toInt64) := rfl
theorem lk_0_46 : (zPr L xs).1 0 46 = o_lop (fun x y => x + y) := rfl
theorem lk_0_47 : (zPr L xs).1 0 47 = o_lstore 0 1 := rfl
theorem lk_0_48 : (zPr L xs).1 0 48 = o_lload 0 1 := rfl
theorem lk_0_49 : (zPr L xs).1 0 49 = o_lload 0 1 := rfl
theorem lk_0_50 : (zPr L xs).1 0 50 = o_push (.int (32)) 2 := rfl
theorem lk_0_52 : (zPr L xs).1 0 52 = o_sop (fun x y => (x.toUInt64 >>> (y.toInt64.toUInt64 &&& Int64.toUInt64 63)).toInt64) := rfl
theorem lk_0_53 : (zPr L xs).1 0 53 = o_lop (fun x y => x + y) := rfl
theorem lk_0_54 : (zPr L xs).1 0 54 = o_lstore 0 1 := rfl
theorem lk_0_55 : (zPr L xs).1 0 55 = o_lload 0 1 := rfl
theorem lk_0_56 : (zPr L xs).1 0 56 = o_l2i := rfl
theorem lk_0_57 : (zPr L xs).1 0 57 = o_push (.int (127)) 2 := rfl
theorem lk_0_59 : (zPr L xs).1 0 59 = o_iop (fun x y => x &&& y) := rfl
theorem lk_0_60 : (zPr L xs).1 0 60 = o_iret (fun x => x) := rfl
theorem lk_1_0 : (zPr L xs).1 1 0 = o_aload 0 1 := rfl
theorem lk_1_1 : (zPr L xs).1 1 1 = o_aload 1 1 := rfl
theorem lk_1_2 : (zPr L xs).1 1 2 = o_push (.int (0)) 1 := rfl
theorem lk_1_3 : (zPr L xs).1 1 3 = o_aload 1 1 := rfl
theorem lk_1_4 : (zPr L xs).1 1 4 = o_alen := rfl
theorem lk_1_5 : (zPr L xs).1 1 5 = o_push .null 1 := rfl
theorem lk_1_6 : (zPr L xs).1 1 6 = o_cv 2 4 6 1 1 := rfl
theorem lk_1_9 : (zPr L xs).1 1 9 = o_vret := rfl
theorem lk_2_0 : (zPr L xs).1 2 0 = o_aload 0 1 := rfl
theorem lk_2_1 : (zPr L xs).1 2 1 = o_oini := rfl
theorem lk_2_4 : (zPr L xs).1 2 4 = o_iload 3 1 := rfl
theorem lk_2_5 : (zPr L xs).1 2 5 = o_ifne 27 := rfl
theorem lk_2_8 : (zPr L xs).1 2 8 = o_aload 0 1 := rfl
theorem lk_2_9 : (zPr L xs).1 2 9 = o_kref 53 41 2 := rfl
theorem lk_2_11 : (zPr L xs).1 2 11 = o_sval := rfl
theorem lk_2_14 : (zPr L xs).1 2 14 = o_pfR 1 50 := rfl
theorem lk_2_17 : (zPr L xs).1 2 17 = o_aload 0 1 := rfl
theorem lk_2_18 : (zPr L xs).1 2 18 = o_kref 53 41 2 := rfl
theorem lk_2_20 : (zPr L xs).1 2 20 = o_scod := rfl
theorem lk_2_23 : (zPr L xs).1 2 23 = o_pfI 1 51 (fun x => x.toInt8.toInt32) := rfl
theorem lk_2_26 : (zPr L xs).1 2 26 = o_vret := rfl
theorem lk_2_27 : (zPr L xs).1 2 27 = o_push (.int 1) 3 := rfl
theorem lk_2_30 : (zPr L xs).1 2 30 = o_ifeq 58 := rfl
theorem lk_2_33 : (zPr L xs).1 2 33 = o_aload 1 1 := rfl
theorem lk_2_34 : (zPr L xs).1 2 34 = o_iload 2 1 := rfl
theorem lk_2_35 : (zPr L xs).1 2 35 = o_iload 3 1 := rfl
theorem lk_2_36 : (zPr L xs).1 2 36 = o_cs 14 3 6 := rfl
theorem lk_2_39 : (zPr L xs).1 2 39 = o_astore 5 2 := rfl
theorem lk_2_41 : (zPr L xs).1 2 41 = o_aload 0 1 := rfl
theorem lk_2_42 : (zPr L xs).1 2 42 = o_aload 5 2 := rfl
theorem lk_2_44 : (zPr L xs).1 2 44 = o_iload 3 1 := rfl
theorem lk_2_45 : (zPr L xs).1 2 45 = o_cs 16 2 2 := rfl
theorem lk_2_48 : (zPr L xs).1 2 48 = o_pfI 1 51 (fun x => x.toInt8.toInt32) := rfl
theorem lk_2_51 : (zPr L xs).1 2 51 = o_aload 0 1 := rfl
theorem lk_2_52 : (zPr L xs).1 2 52 = o_aload 5 2 := rfl
theorem lk_2_54 : (zPr L xs).1 2 54 = o_pfR 1 50 := rfl
theorem lk_2_57 : (zPr L xs).1 2 57 = o_vret := rfl
theorem lk_2_58 : (zPr L xs).1 2 58 = o_aload 0 1 := rfl
theorem lk_2_59 : (zPr L xs).1 2 59 = o_push (.int (1)) 1 := rfl
theorem lk_2_60 : (zPr L xs).1 2 60 = o_pfI 1 51 (fun x => x.toInt8.toInt32) := rfl
theorem lk_2_63 : (zPr L xs).1 2 63 = o_aload 0 1 := rfl
theorem lk_2_64 : (zPr L xs).1 2 64 = o_aload 1 1 := rfl
theorem lk_2_65 : (zPr L xs).1 2 65 = o_iload 2 1 := rfl
theorem lk_2_66 : (zPr L xs).1 2 66 = o_iload 3 1 := rfl
theorem lk_2_70 : (zPr L xs).1 2 70 = o_pfR 1 50 := rfl
theorem lk_2_73 : (zPr L xs).1 2 73 = o_vret := rfl
theorem lk_3_0 : (zPr L xs).1 3 0 = o_aload 0 1 := rfl
theorem lk_3_1 : (zPr L xs).1 3 1 = o_sval := rfl
theorem lk_3_4 : (zPr L xs).1 3 4 = o_blen := rfl
theorem lk_3_5 : (zPr L xs).1 3 5 = o_aload 0 1 := rfl
theorem lk_3_6 : (zPr L xs).1 3 6 = o_cv 7 0 1 1 41 := rfl
theorem lk_3_9 : (zPr L xs).1 3 9 = o_iop (fun x y => x >>> (y &&& 31)) := rfl
theorem lk_3_10 : (zPr L xs).1 3 10 = o_iret (fun x => x) := rfl
theorem lk_4_0 : (zPr L xs).1 4 0 = o_aload 0 1 := rfl
theorem lk_4_1 : (zPr L xs).1 4 1 = o_cv 8 0 1 1 41 := rfl
theorem lk_4_4 : (zPr L xs).1 4 4 = o_ifeq 16 := rfl
theorem lk_4_7 : (zPr L xs).1 4 7 = o_aload 0 1 := rfl
theorem lk_4_8 : (zPr L xs).1 4 8 = o_sval := rfl
theorem lk_4_11 : (zPr L xs).1 4 11 = o_iload 1 1 := rfl
theorem lk_4_12 : (zPr L xs).1 4 12 = o_cs 10 2 2 := rfl
theorem lk_4_15 : (zPr L xs).1 4 15 = o_iret (fun x => x.toUInt32.toUInt16.toUInt32.toInt32) := rfl
theorem lk_4_16 : (zPr L xs).1 4 16 = o_aload 0 1 := rfl
theorem lk_4_17 : (zPr L xs).1 4 17 = o_sval := rfl
theorem lk_4_20 : (zPr L xs).1 4 20 = o_iload 1 1 := rfl
theorem lk_4_24 : (zPr L xs).1 4 24 = o_iret (fun x => x.toUInt32.toUInt16.toUInt32.toInt32) := rfl
theorem lk_5_0 : (zPr L xs).1 5 0 = o_aload 0 1 := rfl
theorem lk_5_1 : (zPr L xs).1 5 1 = o_iload 1 1 := rfl
theorem lk_5_2 : (zPr L xs).1 5 2 = o_push (.int (0)) 1 := rfl
theorem lk_5_3 : (zPr L xs).1 5 3 = o_cv 6 2 3 1 41 := rfl
theorem lk_5_6 : (zPr L xs).1 5 6 = o_iret (fun x => x) := rfl
theorem lk_6_0 : (zPr L xs).1 6 0 = o_aload 0 1 := rfl
theorem lk_6_1 : (zPr L xs).1 6 1 = o_cv 8 0 1 1 41 := rfl
theorem lk_6_4 : (zPr L xs).1 6 4 = o_ifeq 23 := rfl
theorem lk_6_7 : (zPr L xs).1 6 7 = o_aload 0 1 := rfl
theorem lk_6_8 : (zPr L xs).1 6 8 = o_sval := rfl
theorem lk_6_11 : (zPr L xs).1 6 11 = o_iload 1 1 := rfl
theorem lk_6_12 : (zPr L xs).1 6 12 = o_iload 2 1 := rfl
theorem lk_6_13 : (zPr L xs).1 6 13 = o_aload 0 1 := rfl
theorem lk_6_14 : (zPr L xs).1 6 14 = o_cv 3 0 1 1 41 := rfl
theorem lk_6_17 : (zPr L xs).1 6 17 = o_cs 12 4 4 := rfl
theorem lk_6_20 : (zPr L xs).1 6 20 = o_goto 36 := rfl
theorem lk_6_23 : (zPr L xs).1 6 23 = o_aload 0 1 := rfl
theorem lk_6_24 : (zPr L xs).1 6 24 = o_sval := rfl
theorem lk_6_27 : (zPr L xs).1 6 27 = o_iload 1 1 := rfl
theorem lk_6_28 : (zPr L xs).1 6 28 = o_iload 2 1 := rfl
theorem lk_6_29 : (zPr L xs).1 6 29 = o_aload 0 1 := rfl
theorem lk_6_30 : (zPr L xs).1 6 30 = o_cv 3 0 1 1 41 := rfl
theorem lk_6_36 : (zPr L xs).1 6 36 = o_iret (fun x => x) := rfl
theorem lk_7_0 : (zPr L xs).1 7 0 = o_push (.int 1) 3 := rfl
theorem lk_7_3 : (zPr L xs).1 7 3 = o_ifeq 13 := rfl
theorem lk_7_6 : (zPr L xs).1 7 6 = o_aload 0 1 := rfl
theorem lk_7_7 : (zPr L xs).1 7 7 = o_scod := rfl
theorem lk_7_10 : (zPr L xs).1 7 10 = o_goto 14 := rfl
theorem lk_7_13 : (zPr L xs).1 7 13 = o_push (.int (1)) 1 := rfl
theorem lk_7_14 : (zPr L xs).1 7 14 = o_iret (fun x => x.toInt8.toInt32) := rfl
theorem lk_8_0 : (zPr L xs).1 8 0 = o_push (.int 1) 3 := rfl
theorem lk_8_3 : (zPr L xs).1 8 3 = o_ifeq 17 := rfl
theorem lk_8_6 : (zPr L xs).1 8 6 = o_aload 0 1 := rfl
theorem lk_8_7 : (zPr L xs).1 8 7 = o_scod := rfl
theorem lk_8_10 : (zPr L xs).1 8 10 = o_ifne 17 := rfl
theorem lk_8_13 : (zPr L xs).1 8 13 = o_push (.int (1)) 1 := rfl
theorem lk_8_14 : (zPr L xs).1 8 14 = o_goto 18 := rfl
theorem lk_8_17 : (zPr L xs).1 8 17 = o_push (.int (0)) 1 := rfl
theorem lk_8_18 : (zPr L xs).1 8 18 = o_iret (fun x => x &&& 1) := rfl
theorem lk_9_0 : (zPr L xs).1 9 0 = o_iload 0 1 := rfl
theorem lk_9_1 : (zPr L xs).1 9 1 = o_iload 1 1 := rfl
theorem lk_9_2 : (zPr L xs).1 9 2 = o_push (.float 0) 3 := rfl
theorem lk_9_5 : (zPr L xs).1 9 5 = o_cs 17 3 3 := rfl
theorem lk_9_8 : (zPr L xs).1 9 8 = o_pop := rfl
theorem lk_9_9 : (zPr L xs).1 9 9 = o_vret := rfl
theorem lk_10_0 : (zPr L xs).1 10 0 = o_iload 1 1 := rfl
theorem lk_10_1 : (zPr L xs).1 10 1 = o_aload 0 1 := rfl
theorem lk_10_2 : (zPr L xs).1 10 2 = o_blen := rfl
theorem lk_10_3 : (zPr L xs).1 10 3 = o_cs 9 2 2 := rfl
theorem lk_10_6 : (zPr L xs).1 10 6 = o_aload 0 1 := rfl
theorem lk_10_7 : (zPr L xs).1 10 7 = o_iload 1 1 := rfl
theorem lk_10_8 : (zPr L xs).1 10 8 = o_bald := rfl
theorem lk_10_9 : (zPr L xs).1 10 9 = o_push (.int (255)) 3 := rfl
theorem lk_10_12 : (zPr L xs).1 10 12 = o_iop (fun x y => x &&& y) := rfl
theorem lk_10_13 : (zPr L xs).1 10 13 = o_iun (fun x => (x.toUInt32 % 65536).toInt32) := rfl
theorem lk_10_14 : (zPr L xs).1 10 14 = o_iret (fun x => x.toUInt32.toUInt16.toUInt32.toInt32) := rfl
theorem lk_11_0 : (zPr L xs).1 11 0 = o_iload 0 1 := rfl
theorem lk_11_1 : (zPr L xs).1 11 1 = o_iflt 15 := rfl
theorem lk_11_4 : (zPr L xs).1 11 4 = o_iload 0 1 := rfl
theorem lk_11_5 : (zPr L xs).1 11 5 = o_push (.int (255)) 3 := rfl
theorem lk_11_8 : (zPr L xs).1 11 8 = o_icgt 15 := rfl
theorem lk_11_11 : (zPr L xs).1 11 11 = o_push (.int (1)) 1 := rfl
theorem lk_11_12 : (zPr L xs).1 11 12 = o_goto 16 := rfl
theorem lk_11_15 : (zPr L xs).1 11 15 = o_push (.int (0)) 1 := rfl
theorem lk_11_16 : (zPr L xs).1 11 16 = o_iret (fun x => x &&& 1) := rfl
theorem lk_12_0 : (zPr L xs).1 12 0 = o_iload 1 1 := rfl
theorem lk_12_1 : (zPr L xs).1 12 1 = o_cs 11 1 1 := rfl
theorem lk_12_4 : (zPr L xs).1 12 4 = o_ifne 9 := rfl
theorem lk_12_7 : (zPr L xs).1 12 7 = o_push (.int (-1)) 1 := rfl
theorem lk_12_8 : (zPr L xs).1 12 8 = o_iret (fun x => x) := rfl
theorem lk_12_9 : (zPr L xs).1 12 9 = o_iload 2 1 := rfl
theorem lk_12_10 : (zPr L xs).1 12 10 = o_push (.int (0)) 1 := rfl
theorem lk_12_11 : (zPr L xs).1 12 11 = o_mx (fun x y => if x < y then y else x) := rfl
theorem lk_12_14 : (zPr L xs).1 12 14 = o_istore 2 1 := rfl
theorem lk_12_15 : (zPr L xs).1 12 15 = o_iload 3 1 := rfl
theorem lk_12_16 : (zPr L xs).1 12 16 = o_aload 0 1 := rfl
theorem lk_12_17 : (zPr L xs).1 12 17 = o_blen := rfl
theorem lk_12_18 : (zPr L xs).1 12 18 = o_mx (fun x y => if y < x then y else x) := rfl
theorem lk_12_21 : (zPr L xs).1 12 21 = o_istore 3 1 := rfl
theorem lk_12_22 : (zPr L xs).1 12 22 = o_iload 2 1 := rfl
theorem lk_12_23 : (zPr L xs).1 12 23 = o_iload 3 1 := rfl
theorem lk_12_24 : (zPr L xs).1 12 24 = o_iclt 29 := rfl
theorem lk_12_27 : (zPr L xs).1 12 27 = o_push (.int (-1)) 1 := rfl
theorem lk_12_28 : (zPr L xs).1 12 28 = o_iret (fun x => x) := rfl
theorem lk_12_29 : (zPr L xs).1 12 29 = o_aload 0 1 := rfl
theorem lk_12_30 : (zPr L xs).1 12 30 = o_iload 1 1 := rfl
theorem lk_12_31 : (zPr L xs).1 12 31 = o_iload 2 1 := rfl
theorem lk_12_32 : (zPr L xs).1 12 32 = o_iload 3 1 := rfl
theorem lk_12_33 : (zPr L xs).1 12 33 = o_cs 13 4 6 := rfl
theorem lk_12_36 : (zPr L xs).1 12 36 = o_iret (fun x => x) := rfl
theorem lk_13_0 : (zPr L xs).1 13 0 = o_iload 1 1 := rfl
theorem lk_13_1 : (zPr L xs).1 13 1 = o_iun (fun x => x.toInt8.toInt32) := rfl
theorem lk_13_2 : (zPr L xs).1 13 2 = o_istore 4 2 := rfl
theorem lk_13_4 : (zPr L xs).1 13 4 = o_iload 2 1 := rfl
theorem lk_13_5 : (zPr L xs).1 13 5 = o_istore 5 2 := rfl
theorem lk_13_7 : (zPr L xs).1 13 7 = o_iload 5 2 := rfl
theorem lk_13_9 : (zPr L xs).1 13 9 = o_iload 3 1 := rfl
theorem lk_13_10 : (zPr L xs).1 13 10 = o_icge 31 := rfl
theorem lk_13_13 : (zPr L xs).1 13 13 = o_aload 0 1 := rfl
theorem lk_13_14 : (zPr L xs).1 13 14 = o_iload 5 2 := rfl
theorem lk_13_16 : (zPr L xs).1 13 16 = o_bald := rfl
theorem lk_13_17 : (zPr L xs).1 13 17 = o_iload 4 2 := rfl
theorem lk_13_19 : (zPr L xs).1 13 19 = o_icne 25 := rfl
theorem lk_13_22 : (zPr L xs).1 13 22 = o_iload 5 2 := rfl
theorem lk_13_24 : (zPr L xs).1 13 24 = o_iret (fun x => x) := rfl
theorem lk_13_25 : (zPr L xs).1 13 25 = o_iinc 5 (1) := rfl
theorem lk_13_28 : (zPr L xs).1 13 28 = o_goto 7 := rfl
theorem lk_13_31 : (zPr L xs).1 13 31 = o_push (.int (-1)) 1 := rfl
theorem lk_13_32 : (zPr L xs).1 13 32 = o_iret (fun x => x) := rfl
theorem lk_14_0 : (zPr L xs).1 14 0 = o_iload 2 1 := rfl
theorem lk_14_1 : (zPr L xs).1 14 1 = o_newa 24 2 := rfl
theorem lk_14_3 : (zPr L xs).1 14 3 = o_astore 3 1 := rfl
theorem lk_14_4 : (zPr L xs).1 14 4 = o_aload 0 1 := rfl
theorem lk_14_5 : (zPr L xs).1 14 5 = o_iload 1 1 := rfl
theorem lk_14_6 : (zPr L xs).1 14 6 = o_aload 3 1 := rfl
theorem lk_14_7 : (zPr L xs).1 14 7 = o_push (.int (0)) 1 := rfl
theorem lk_14_8 : (zPr L xs).1 14 8 = o_iload 2 1 := rfl
theorem lk_14_9 : (zPr L xs).1 14 9 = o_cs 15 5 7 := rfl
theorem lk_14_12 : (zPr L xs).1 14 12 = o_istore 4 2 := rfl
theorem lk_14_14 : (zPr L xs).1 14 14 = o_iload 4 2 := rfl
theorem lk_14_16 : (zPr L xs).1 14 16 = o_iload 2 1 := rfl
theorem lk_14_17 : (zPr L xs).1 14 17 = o_iceq 57 := rfl
theorem lk_14_20 : (zPr L xs).1 14 20 = o_aload 0 1 := rfl
theorem lk_14_21 : (zPr L xs).1 14 21 = o_iload 1 1 := rfl
theorem lk_14_22 : (zPr L xs).1 14 22 = o_iload 2 1 := rfl
theorem lk_14_26 : (zPr L xs).1 14 26 = o_astore 5 2 := rfl
theorem lk_14_28 : (zPr L xs).1 14 28 = o_aload 5 2 := rfl
theorem lk_14_30 : (zPr L xs).1 14 30 = o_iload 4 2 := rfl
theorem lk_14_35 : (zPr L xs).1 14 35 = o_push (.int (255)) 3 := rfl
theorem lk_14_38 : (zPr L xs).1 14 38 = o_icgt 54 := rfl
theorem lk_14_41 : (zPr L xs).1 14 41 = o_aload 5 2 := rfl
theorem lk_14_43 : (zPr L xs).1 14 43 = o_push (.int (0)) 1 := rfl
theorem lk_14_44 : (zPr L xs).1 14 44 = o_aload 3 1 := rfl
theorem lk_14_45 : (zPr L xs).1 14 45 = o_push (.int (0)) 1 := rfl
theorem lk_14_46 : (zPr L xs).1 14 46 = o_iload 2 1 := rfl
theorem lk_14_50 : (zPr L xs).1 14 50 = o_iload 2 1 := rfl
theorem lk_14_51 : (zPr L xs).1 14 51 = o_iceq 57 := rfl
theorem lk_14_54 : (zPr L xs).1 14 54 = o_aload 5 2 := rfl
theorem lk_14_56 : (zPr L xs).1 14 56 = o_aret := rfl
theorem lk_14_57 : (zPr L xs).1 14 57 = o_aload 3 1 := rfl
theorem lk_14_58 : (zPr L xs).1 14 58 = o_aret := rfl
theorem lk_15_0 : (zPr L xs).1 15 0 = o_push (.int (0)) 1 := rfl
theorem lk_15_1 : (zPr L xs).1 15 1 = o_istore 5 2 := rfl
theorem lk_15_3 : (zPr L xs).1 15 3 = o_iload 5 2 := rfl
theorem lk_15_5 : (zPr L xs).1 15 5 = o_iload 4 2 := rfl
theorem lk_15_7 : (zPr L xs).1 15 7 = o_icge 44 := rfl
theorem lk_15_10 : (zPr L xs).1 15 10 = o_aload 0 1 := rfl
theorem lk_15_11 : (zPr L xs).1 15 11 = o_iload 1 1 := rfl
theorem lk_15_12 : (zPr L xs).1 15 12 = o_xald 22 := rfl
theorem lk_15_13 : (zPr L xs).1 15 13 = o_istore 6 2 := rfl
theorem lk_15_15 : (zPr L xs).1 15 15 = o_iload 6 2 := rfl
theorem lk_15_17 : (zPr L xs).1 15 17 = o_push (.int (255)) 3 := rfl
theorem lk_15_20 : (zPr L xs).1 15 20 = o_icle 26 := rfl
theorem lk_15_23 : (zPr L xs).1 15 23 = o_iload 5 2 := rfl
theorem lk_15_25 : (zPr L xs).1 15 25 = o_iret (fun x => x) := rfl
theorem lk_15_26 : (zPr L xs).1 15 26 = o_aload 2 1 := rfl
theorem lk_15_27 : (zPr L xs).1 15 27 = o_iload 3 1 := rfl
theorem lk_15_28 : (zPr L xs).1 15 28 = o_iload 6 2 := rfl
theorem lk_15_30 : (zPr L xs).1 15 30 = o_iun (fun x => x.toInt8.toInt32) := rfl
theorem lk_15_31 : (zPr L xs).1 15 31 = o_xast 24 (vp_nar .byte) := rfl
theorem lk_15_32 : (zPr L xs).1 15 32 = o_iinc 1 (1) := rfl
theorem lk_15_35 : (zPr L xs).1 15 35 = o_iinc 3 (1) := rfl
theorem lk_15_38 : (zPr L xs).1 15 38 = o_iinc 5 (1) := rfl
theorem lk_15_41 : (zPr L xs).1 15 41 = o_goto 3 := rfl
theorem lk_15_44 : (zPr L xs).1 15 44 = o_iload 4 2 := rfl
theorem lk_15_46 : (zPr L xs).1 15 46 = o_iret (fun x => x) := rfl
theorem lk_16_0 : (zPr L xs).1 16 0 = o_iload 1 1 := rfl
theorem lk_16_1 : (zPr L xs).1 16 1 = o_aload 0 1 := rfl
theorem lk_16_2 : (zPr L xs).1 16 2 = o_blen := rfl
theorem lk_16_3 : (zPr L xs).1 16 3 = o_iop (fun x y => x - y) := rfl
theorem lk_16_4 : (zPr L xs).1 16 4 = o_push (.int (31)) 2 := rfl
theorem lk_16_6 : (zPr L xs).1 16 6 = o_iop (fun x y => (x.toUInt32 >>> (y.toUInt32 &&& Int32.toUInt32 31)).toInt32) := rfl
theorem lk_16_7 : (zPr L xs).1 16 7 = o_iun (fun x => x.toInt8.toInt32) := rfl
theorem lk_16_8 : (zPr L xs).1 16 8 = o_iret (fun x => x.toInt8.toInt32) := rfl
theorem lk_17_0 : (zPr L xs).1 17 0 = o_iload 0 1 := rfl
theorem lk_17_1 : (zPr L xs).1 17 1 = o_iflt 9 := rfl
theorem lk_17_4 : (zPr L xs).1 17 4 = o_iload 0 1 := rfl
theorem lk_17_5 : (zPr L xs).1 17 5 = o_iload 1 1 := rfl
theorem lk_17_6 : (zPr L xs).1 17 6 = o_iclt 16 := rfl
theorem lk_17_9 : (zPr L xs).1 17 9 = o_aload 2 1 := rfl
theorem lk_17_10 : (zPr L xs).1 17 10 = o_iload 0 1 := rfl
theorem lk_17_11 : (zPr L xs).1 17 11 = o_iload 1 1 := rfl
theorem lk_17_16 : (zPr L xs).1 17 16 = o_iload 0 1 := rfl
theorem lk_17_17 : (zPr L xs).1 17 17 = o_iret (fun x => x) := rfl
theorem lk_18_0 : (zPr L xs).1 18 0 = o_aload 0 1 := rfl
theorem lk_18_1 : (zPr L xs).1 18 1 = o_oini := rfl
theorem lk_18_4 : (zPr L xs).1 18 4 = o_vret := rfl
theorem lk_19_0 : (zPr L xs).1 19 0 = o_aload 0 1 := rfl
theorem lk_19_1 : (zPr L xs).1 19 1 = o_oini := rfl
theorem lk_19_4 : (zPr L xs).1 19 4 = o_aload 0 1 := rfl
theorem lk_19_5 : (zPr L xs).1 19 5 = o_push (.int (10)) 2 := rfl
theorem lk_19_7 : (zPr L xs).1 19 7 = o_newa 31 3 := rfl
theorem lk_19_10 : (zPr L xs).1 19 10 = o_pfR 3 150 := rfl
theorem lk_19_13 : (zPr L xs).1 19 13 = o_vret := rfl
theorem lk_20_0 : (zPr L xs).1 20 0 = o_aload 0 1 := rfl
theorem lk_20_1 : (zPr L xs).1 20 1 = o_push (.int (1)) 1 := rfl
theorem lk_20_2 : (zPr L xs).1 20 2 = o_pfI 3 151 (fun x => x &&& 1) := rfl
theorem lk_20_5 : (zPr L xs).1 20 5 = o_aload 0 1 := rfl
theorem lk_20_6 : (zPr L xs).1 20 6 = o_iload 1 1 := rfl
theorem lk_20_7 : (zPr L xs).1 20 7 = o_pfI 3 152 (fun x => x) := rfl
theorem lk_20_10 : (zPr L xs).1 20 10 = o_aload 0 1 := rfl
theorem lk_20_11 : (zPr L xs).1 20 11 = o_push (.int (1)) 1 := rfl
theorem lk_20_12 : (zPr L xs).1 20 12 = o_pfI 3 153 (fun x => x) := rfl
theorem lk_20_15 : (zPr L xs).1 20 15 = o_aload 0 1 := rfl
theorem lk_20_16 : (zPr L xs).1 20 16 = o_push (.int (0)) 1 := rfl
theorem lk_20_17 : (zPr L xs).1 20 17 = o_pfI 3 154 (fun x => x) := rfl
theorem lk_20_20 : (zPr L xs).1 20 20 = o_vret := rfl
theorem lk_21_0 : (zPr L xs).1 21 0 = o_aload 0 1 := rfl
theorem lk_21_1 : (zPr L xs).1 21 1 = o_gfI 3 154 := rfl
theorem lk_21_4 : (zPr L xs).1 21 4 = o_push (.int (10)) 2 := rfl
theorem lk_21_6 : (zPr L xs).1 21 6 = o_icge 51 := rfl
theorem lk_21_9 : (zPr L xs).1 21 9 = o_aload 0 1 := rfl
theorem lk_21_10 : (zPr L xs).1 21 10 = o_gfR 3 150 := rfl
theorem lk_21_13 : (zPr L xs).1 21 13 = o_aload 0 1 := rfl
theorem lk_21_14 : (zPr L xs).1 21 14 = o_gfI 3 154 := rfl
theorem lk_21_17 : (zPr L xs).1 21 17 = o_new 4 4 := rfl
theorem lk_21_20 : (zPr L xs).1 21 20 = o_dup := rfl
theorem lk_21_21 : (zPr L xs).1 21 21 = o_aload 0 1 := rfl
theorem lk_21_22 : (zPr L xs).1 21 22 = o_gfI 3 153 := rfl
theorem lk_21_25 : (zPr L xs).1 21 25 = o_iload 1 1 := rfl
theorem lk_21_26 : (zPr L xs).1 21 26 = o_aload 2 1 := rfl
theorem lk_21_27 : (zPr L xs).1 21 27 = o_cv 23 3 4 4 4 := rfl
theorem lk_21_30 : (zPr L xs).1 21 30 = o_aast 31 4 := rfl
theorem lk_21_31 : (zPr L xs).1 21 31 = o_aload 0 1 := rfl
theorem lk_21_32 : (zPr L xs).1 21 32 = o_dup := rfl
theorem lk_21_33 : (zPr L xs).1 21 33 = o_gfI 3 154 := rfl
theorem lk_21_36 : (zPr L xs).1 21 36 = o_push (.int (1)) 1 := rfl
theorem lk_21_37 : (zPr L xs).1 21 37 = o_iop (fun x y => x + y) := rfl
theorem lk_21_38 : (zPr L xs).1 21 38 = o_pfI 3 154 (fun x => x) := rfl
theorem lk_21_41 : (zPr L xs).1 21 41 = o_aload 0 1 := rfl
theorem lk_21_42 : (zPr L xs).1 21 42 = o_dup := rfl
theorem lk_21_43 : (zPr L xs).1 21 43 = o_gfI 3 153 := rfl
theorem lk_21_46 : (zPr L xs).1 21 46 = o_push (.int (1)) 1 := rfl
theorem lk_21_47 : (zPr L xs).1 21 47 = o_iop (fun x y => x + y) := rfl
theorem lk_21_48 : (zPr L xs).1 21 48 = o_pfI 3 153 (fun x => x) := rfl
theorem lk_21_51 : (zPr L xs).1 21 51 = o_vret := rfl
theorem lk_22_0 : (zPr L xs).1 22 0 = o_push (.int (0)) 1 := rfl
theorem lk_22_1 : (zPr L xs).1 22 1 = o_istore 1 1 := rfl
theorem lk_22_2 : (zPr L xs).1 22 2 = o_push (.int (0)) 1 := rfl
theorem lk_22_3 : (zPr L xs).1 22 3 = o_istore 2 1 := rfl
theorem lk_22_4 : (zPr L xs).1 22 4 = o_iload 2 1 := rfl
theorem lk_22_5 : (zPr L xs).1 22 5 = o_aload 0 1 := rfl
theorem lk_22_6 : (zPr L xs).1 22 6 = o_gfI 3 154 := rfl
theorem lk_22_9 : (zPr L xs).1 22 9 = o_icge 53 := rfl
theorem lk_22_12 : (zPr L xs).1 22 12 = o_aload 0 1 := rfl
theorem lk_22_13 : (zPr L xs).1 22 13 = o_gfR 3 150 := rfl
theorem lk_22_16 : (zPr L xs).1 22 16 = o_iload 2 1 := rfl
theorem lk_22_17 : (zPr L xs).1 22 17 = o_aald 31 := rfl
theorem lk_22_18 : (zPr L xs).1 22 18 = o_astore 3 1 := rfl
theorem lk_22_19 : (zPr L xs).1 22 19 = o_aload 3 1 := rfl
theorem lk_22_20 : (zPr L xs).1 22 20 = o_gfI 4 202 := rfl
theorem lk_22_23 : (zPr L xs).1 22 23 = o_push (.int (8)) 2 := rfl
theorem lk_22_25 : (zPr L xs).1 22 25 = o_iop (fun x y => x &&& y) := rfl
theorem lk_22_26 : (zPr L xs).1 22 26 = o_ifeq 37 := rfl
theorem lk_22_29 : (zPr L xs).1 22 29 = o_aload 3 1 := rfl
theorem lk_22_30 : (zPr L xs).1 22 30 = o_push (.int (1)) 1 := rfl
theorem lk_22_31 : (zPr L xs).1 22 31 = o_pfI 4 203 (fun x => x &&& 1) := rfl
theorem lk_22_34 : (zPr L xs).1 22 34 = o_goto 47 := rfl
theorem lk_22_37 : (zPr L xs).1 22 37 = o_aload 0 1 := rfl
theorem lk_22_38 : (zPr L xs).1 22 38 = o_gfR 3 150 := rfl
theorem lk_22_41 : (zPr L xs).1 22 41 = o_iload 1 1 := rfl
theorem lk_22_42 : (zPr L xs).1 22 42 = o_aload 3 1 := rfl
theorem lk_22_43 : (zPr L xs).1 22 43 = o_aast 31 4 := rfl
theorem lk_22_44 : (zPr L xs).1 22 44 = o_iinc 1 (1) := rfl
theorem lk_22_47 : (zPr L xs).1 22 47 = o_iinc 2 (1) := rfl
theorem lk_22_50 : (zPr L xs).1 22 50 = o_goto 4 := rfl
theorem lk_22_53 : (zPr L xs).1 22 53 = o_aload 0 1 := rfl
theorem lk_22_54 : (zPr L xs).1 22 54 = o_iload 1 1 := rfl
theorem lk_22_55 : (zPr L xs).1 22 55 = o_pfI 3 154 (fun x => x) := rfl
theorem lk_22_58 : (zPr L xs).1 22 58 = o_vret := rfl
theorem lk_23_0 : (zPr L xs).1 23 0 = o_aload 0 1 := rfl
theorem lk_23_1 : (zPr L xs).1 23 1 = o_oini := rfl
theorem lk_23_4 : (zPr L xs).1 23 4 = o_aload 0 1 := rfl
theorem lk_23_5 : (zPr L xs).1 23 5 = o_iload 1 1 := rfl
theorem lk_23_6 : (zPr L xs).1 23 6 = o_pfI 4 200 (fun x => x) := rfl
theorem lk_23_9 : (zPr L xs).1 23 9 = o_aload 0 1 := rfl
theorem lk_23_10 : (zPr L xs).1 23 10 = o_iload 2 1 := rfl
theorem lk_23_11 : (zPr L xs).1 23 11 = o_pfI 4 202 (fun x => x) := rfl
theorem lk_23_14 : (zPr L xs).1 23 14 = o_aload 0 1 := rfl
theorem lk_23_15 : (zPr L xs).1 23 15 = o_aload 3 1 := rfl
theorem lk_23_16 : (zPr L xs).1 23 16 = o_pfR 4 201 := rfl
theorem lk_23_19 : (zPr L xs).1 23 19 = o_vret := rfl
theorem lk_24_0 : (zPr L xs).1 24 0 = o_aload 0 1 := rfl
theorem lk_24_1 : (zPr L xs).1 24 1 = o_oini := rfl
theorem lk_24_4 : (zPr L xs).1 24 4 = o_aload 0 1 := rfl
theorem lk_24_5 : (zPr L xs).1 24 5 = o_aload 1 1 := rfl
theorem lk_24_6 : (zPr L xs).1 24 6 = o_pfR 5 250 := rfl
theorem lk_24_9 : (zPr L xs).1 24 9 = o_aload 0 1 := rfl
theorem lk_24_10 : (zPr L xs).1 24 10 = o_iload 2 1 := rfl
theorem lk_24_11 : (zPr L xs).1 24 11 = o_pfI 5 251 (fun x => x) := rfl
theorem lk_24_14 : (zPr L xs).1 24 14 = o_aload 0 1 := rfl
theorem lk_24_15 : (zPr L xs).1 24 15 = o_aload 3 1 := rfl
theorem lk_24_16 : (zPr L xs).1 24 16 = o_pfR 5 252 := rfl
theorem lk_24_19 : (zPr L xs).1 24 19 = o_vret := rfl
theorem lk_25_0 : (zPr L xs).1 25 0 = o_new 2 10 := rfl
theorem lk_25_3 : (zPr L xs).1 25 3 = o_dup := rfl
theorem lk_25_4 : (zPr L xs).1 25 4 = o_cv 18 0 1 2 2 := rfl
theorem lk_25_7 : (zPr L xs).1 25 7 = o_astore 1 1 := rfl
theorem lk_25_8 : (zPr L xs).1 25 8 = o_aload 1 1 := rfl
theorem lk_25_9 : (zPr L xs).1 25 9 = o_aload 0 1 := rfl
theorem lk_25_10 : (zPr L xs).1 25 10 = o_push (.int (2)) 1 := rfl
theorem lk_25_11 : (zPr L xs).1 25 11 = o_push (.int (1)) 1 := rfl
theorem lk_25_12 : (zPr L xs).1 25 12 = o_cv 33 2 6 5 5 := rfl
theorem lk_25_15 : (zPr L xs).1 25 15 = o_pfR 2 100 := rfl
theorem lk_25_18 : (zPr L xs).1 25 18 = o_aload 0 1 := rfl
theorem lk_25_19 : (zPr L xs).1 25 19 = o_push (.int (32)) 2 := rfl
theorem lk_25_21 : (zPr L xs).1 25 21 = o_cv 41 1 2 5 5 := rfl
theorem lk_25_24 : (zPr L xs).1 25 24 = o_aload 1 1 := rfl
theorem lk_25_25 : (zPr L xs).1 25 25 = o_aload 0 1 := rfl
theorem lk_25_26 : (zPr L xs).1 25 26 = o_kref 20 41 2 := rfl
theorem lk_25_28 : (zPr L xs).1 25 28 = o_cv 42 1 3 5 5 := rfl
theorem lk_25_31 : (zPr L xs).1 25 31 = o_pfI 2 102 (fun x => x &&& 1) := rfl
theorem lk_25_34 : (zPr L xs).1 25 34 = o_aload 1 1 := rfl
theorem lk_25_35 : (zPr L xs).1 25 35 = o_aload 0 1 := rfl
theorem lk_25_36 : (zPr L xs).1 25 36 = o_cv 26 0 2 5 5 := rfl
theorem lk_25_39 : (zPr L xs).1 25 39 = o_pfR 2 101 := rfl
theorem lk_25_42 : (zPr L xs).1 25 42 = o_aload 1 1 := rfl
theorem lk_25_43 : (zPr L xs).1 25 43 = o_gfR 2 101 := rfl
theorem lk_25_46 : (zPr L xs).1 25 46 = o_ifnull 66 := rfl
theorem lk_25_49 : (zPr L xs).1 25 49 = o_aload 1 1 := rfl
theorem lk_25_50 : (zPr L xs).1 25 50 = o_gfI 2 102 := rfl
theorem lk_25_53 : (zPr L xs).1 25 53 = o_ifeq 68 := rfl
theorem lk_25_56 : (zPr L xs).1 25 56 = o_aload 1 1 := rfl
theorem lk_25_57 : (zPr L xs).1 25 57 = o_gfR 2 101 := rfl
theorem lk_25_60 : (zPr L xs).1 25 60 = o_gfK 40 (fun a => (zVb 0).getD a 0) := rfl
theorem lk_25_63 : (zPr L xs).1 25 63 = o_ifne 68 := rfl
theorem lk_25_66 : (zPr L xs).1 25 66 = o_push .null 1 := rfl
theorem lk_25_67 : (zPr L xs).1 25 67 = o_aret := rfl
theorem lk_25_68 : (zPr L xs).1 25 68 = o_aload 0 1 := rfl
theorem lk_25_69 : (zPr L xs).1 25 69 = o_aload 1 1 := rfl
theorem lk_25_70 : (zPr L xs).1 25 70 = o_cv 27 1 2 5 5 := rfl
theorem lk_25_73 : (zPr L xs).1 25 73 = o_aload 1 1 := rfl
theorem lk_25_74 : (zPr L xs).1 25 74 = o_aload 0 1 := rfl
theorem lk_25_75 : (zPr L xs).1 25 75 = o_gfI 5 255 := rfl
theorem lk_25_78 : (zPr L xs).1 25 78 = o_pfI 2 109 (fun x => x &&& 1) := rfl
theorem lk_25_81 : (zPr L xs).1 25 81 = o_aload 0 1 := rfl
theorem lk_25_82 : (zPr L xs).1 25 82 = o_gfI 5 254 := rfl
theorem lk_25_85 : (zPr L xs).1 25 85 = o_ifne 99 := rfl
theorem lk_25_88 : (zPr L xs).1 25 88 = o_aload 0 1 := rfl
theorem lk_25_89 : (zPr L xs).1 25 89 = o_gfI 5 253 := rfl
theorem lk_25_92 : (zPr L xs).1 25 92 = o_aload 0 1 := rfl
theorem lk_25_93 : (zPr L xs).1 25 93 = o_gfI 5 251 := rfl
theorem lk_25_96 : (zPr L xs).1 25 96 = o_icge 103 := rfl
theorem lk_25_99 : (zPr L xs).1 25 99 = o_push .null 1 := rfl
theorem lk_25_100 : (zPr L xs).1 25 100 = o_goto 104 := rfl
theorem lk_25_103 : (zPr L xs).1 25 103 = o_aload 1 1 := rfl
theorem lk_25_104 : (zPr L xs).1 25 104 = o_aret := rfl
theorem lk_26_0 : (zPr L xs).1 26 0 = o_push (.int (0)) 1 := rfl
theorem lk_26_1 : (zPr L xs).1 26 1 = o_istore 1 1 := rfl
theorem lk_26_2 : (zPr L xs).1 26 2 = o_iload 1 1 := rfl
theorem lk_26_3 : (zPr L xs).1 26 3 = o_kref (13) 43 3 := rfl
theorem lk_26_6 : (zPr L xs).1 26 6 = o_vlen := rfl
theorem lk_26_7 : (zPr L xs).1 26 7 = o_icge 37 := rfl
theorem lk_26_10 : (zPr L xs).1 26 10 = o_aload 0 1 := rfl
theorem lk_26_11 : (zPr L xs).1 26 11 = o_kref (13) 43 3 := rfl
theorem lk_26_14 : (zPr L xs).1 26 14 = o_iload 1 1 := rfl
theorem lk_26_15 : (zPr L xs).1 26 15 = o_vald := rfl
theorem lk_26_16 : (zPr L xs).1 26 16 = o_gfW := rfl
theorem lk_26_19 : (zPr L xs).1 26 19 = o_cv 42 1 3 5 5 := rfl
theorem lk_26_22 : (zPr L xs).1 26 22 = o_ifeq 31 := rfl
theorem lk_26_25 : (zPr L xs).1 26 25 = o_kref (13) 43 3 := rfl
theorem lk_26_28 : (zPr L xs).1 26 28 = o_iload 1 1 := rfl
theorem lk_26_29 : (zPr L xs).1 26 29 = o_vald := rfl
theorem lk_26_30 : (zPr L xs).1 26 30 = o_aret := rfl
theorem lk_26_31 : (zPr L xs).1 26 31 = o_iinc 1 (1) := rfl
theorem lk_26_34 : (zPr L xs).1 26 34 = o_goto 2 := rfl
theorem lk_26_37 : (zPr L xs).1 26 37 = o_push .null 1 := rfl
theorem lk_26_38 : (zPr L xs).1 26 38 = o_aret := rfl
theorem lk_27_0 : (zPr L xs).1 27 0 = o_kref (14) 44 3 := rfl
theorem lk_27_3 : (zPr L xs).1 27 3 = o_aload 1 1 := rfl
theorem lk_27_4 : (zPr L xs).1 27 4 = o_gfR 2 101 := rfl
theorem lk_27_7 : (zPr L xs).1 27 7 = o_ord := rfl
theorem lk_27_10 : (zPr L xs).1 27 10 = o_mald := rfl
theorem lk_27_11 : (zPr L xs).1 27 11 = o_tsw (1) (12) [72, 72, 72, 72, 83, 191, 232, 232, 232, 125, 162, 220] 232 := rfl
theorem lk_27_72 : (zPr L xs).1 27 72 = o_aload 1 1 := rfl
theorem lk_27_73 : (zPr L xs).1 27 73 = o_aload 0 1 := rfl
theorem lk_27_74 : (zPr L xs).1 27 74 = o_cv 28 0 2 5 5 := rfl
theorem lk_27_77 : (zPr L xs).1 27 77 = o_pfI 2 103 (fun x => x) := rfl
theorem lk_27_80 : (zPr L xs).1 27 80 = o_goto 232 := rfl
theorem lk_27_83 : (zPr L xs).1 27 83 = o_aload 1 1 := rfl
theorem lk_27_84 : (zPr L xs).1 27 84 = o_aload 0 1 := rfl
theorem lk_27_85 : (zPr L xs).1 27 85 = o_cv 28 0 2 5 5 := rfl
theorem lk_27_88 : (zPr L xs).1 27 88 = o_pfI 2 103 (fun x => x) := rfl
theorem lk_27_91 : (zPr L xs).1 27 91 = o_aload 0 1 := rfl
theorem lk_27_92 : (zPr L xs).1 27 92 = o_push (.int (32)) 2 := rfl
theorem lk_27_94 : (zPr L xs).1 27 94 = o_cv 41 1 2 5 5 := rfl
theorem lk_27_97 : (zPr L xs).1 27 97 = o_aload 1 1 := rfl
theorem lk_27_98 : (zPr L xs).1 27 98 = o_aload 0 1 := rfl
theorem lk_27_99 : (zPr L xs).1 27 99 = o_cv 31 0 3 5 5 := rfl
theorem lk_27_102 : (zPr L xs).1 27 102 = o_pfI 2 104 (fun x => x) := rfl
theorem lk_27_105 : (zPr L xs).1 27 105 = o_aload 0 1 := rfl
theorem lk_27_106 : (zPr L xs).1 27 106 = o_push (.int (32)) 2 := rfl
theorem lk_27_108 : (zPr L xs).1 27 108 = o_cv 41 1 2 5 5 := rfl
theorem lk_27_111 : (zPr L xs).1 27 111 = o_aload 1 1 := rfl
theorem lk_27_112 : (zPr L xs).1 27 112 = o_aload 0 1 := rfl
theorem lk_27_113 : (zPr L xs).1 27 113 = o_push (.int (6)) 2 := rfl
theorem lk_27_115 : (zPr L xs).1 27 115 = o_push (.int (0)) 1 := rfl
theorem lk_27_116 : (zPr L xs).1 27 116 = o_cv 33 2 6 5 5 := rfl
theorem lk_27_119 : (zPr L xs).1 27 119 = o_pfR 2 105 := rfl
theorem lk_27_122 : (zPr L xs).1 27 122 = o_goto 232 := rfl
theorem lk_27_125 : (zPr L xs).1 27 125 = o_aload 1 1 := rfl
theorem lk_27_126 : (zPr L xs).1 27 126 = o_aload 0 1 := rfl
theorem lk_27_127 : (zPr L xs).1 27 127 = o_aload 1 1 := rfl
theorem lk_27_128 : (zPr L xs).1 27 128 = o_gfI 2 102 := rfl
theorem lk_27_131 : (zPr L xs).1 27 131 = o_cv 37 1 8 5 5 := rfl
theorem lk_27_134 : (zPr L xs).1 27 134 = o_pfL 2 108 := rfl
theorem lk_27_137 : (zPr L xs).1 27 137 = o_aload 0 1 := rfl
theorem lk_27_138 : (zPr L xs).1 27 138 = o_push (.int (32)) 2 := rfl
theorem lk_27_140 : (zPr L xs).1 27 140 = o_cv 41 1 2 5 5 := rfl
theorem lk_27_143 : (zPr L xs).1 27 143 = o_aload 1 1 := rfl
theorem lk_27_144 : (zPr L xs).1 27 144 = o_aload 0 1 := rfl
theorem lk_27_145 : (zPr L xs).1 27 145 = o_cv 29 0 1 5 5 := rfl
theorem lk_27_148 : (zPr L xs).1 27 148 = o_pfI 2 106 (fun x => x) := rfl
theorem lk_27_151 : (zPr L xs).1 27 151 = o_aload 1 1 := rfl
theorem lk_27_152 : (zPr L xs).1 27 152 = o_aload 0 1 := rfl
theorem lk_27_153 : (zPr L xs).1 27 153 = o_cv 31 0 3 5 5 := rfl
theorem lk_27_156 : (zPr L xs).1 27 156 = o_pfI 2 104 (fun x => x) := rfl
theorem lk_27_159 : (zPr L xs).1 27 159 = o_goto 232 := rfl
theorem lk_27_162 : (zPr L xs).1 27 162 = o_aload 1 1 := rfl
theorem lk_27_163 : (zPr L xs).1 27 163 = o_aload 0 1 := rfl
theorem lk_27_164 : (zPr L xs).1 27 164 = o_aload 1 1 := rfl
theorem lk_27_165 : (zPr L xs).1 27 165 = o_gfI 2 102 := rfl
theorem lk_27_168 : (zPr L xs).1 27 168 = o_cv 37 1 8 5 5 := rfl
theorem lk_27_171 : (zPr L xs).1 27 171 = o_pfL 2 108 := rfl
theorem lk_27_174 : (zPr L xs).1 27 174 = o_aload 0 1 := rfl
theorem lk_27_175 : (zPr L xs).1 27 175 = o_push (.int (32)) 2 := rfl
theorem lk_27_177 : (zPr L xs).1 27 177 = o_cv 41 1 2 5 5 := rfl
theorem lk_27_180 : (zPr L xs).1 27 180 = o_aload 1 1 := rfl
theorem lk_27_181 : (zPr L xs).1 27 181 = o_aload 0 1 := rfl
theorem lk_27_182 : (zPr L xs).1 27 182 = o_cv 30 0 1 5 5 := rfl
theorem lk_27_185 : (zPr L xs).1 27 185 = o_pfI 2 107 (fun x => x) := rfl
theorem lk_27_188 : (zPr L xs).1 27 188 = o_goto 232 := rfl
theorem lk_27_191 : (zPr L xs).1 27 191 = o_aload 1 1 := rfl
theorem lk_27_192 : (zPr L xs).1 27 192 = o_aload 0 1 := rfl
theorem lk_27_193 : (zPr L xs).1 27 193 = o_aload 1 1 := rfl
theorem lk_27_194 : (zPr L xs).1 27 194 = o_gfI 2 102 := rfl
theorem lk_27_197 : (zPr L xs).1 27 197 = o_cv 37 1 8 5 5 := rfl
theorem lk_27_200 : (zPr L xs).1 27 200 = o_pfL 2 108 := rfl
theorem lk_27_203 : (zPr L xs).1 27 203 = o_aload 0 1 := rfl
theorem lk_27_204 : (zPr L xs).1 27 204 = o_push (.int (32)) 2 := rfl
theorem lk_27_206 : (zPr L xs).1 27 206 = o_cv 41 1 2 5 5 := rfl
theorem lk_27_209 : (zPr L xs).1 27 209 = o_aload 1 1 := rfl
theorem lk_27_210 : (zPr L xs).1 27 210 = o_aload 0 1 := rfl
theorem lk_27_211 : (zPr L xs).1 27 211 = o_cv 28 0 2 5 5 := rfl
theorem lk_27_214 : (zPr L xs).1 27 214 = o_pfI 2 103 (fun x => x) := rfl
theorem lk_27_217 : (zPr L xs).1 27 217 = o_goto 232 := rfl
theorem lk_27_220 : (zPr L xs).1 27 220 = o_aload 1 1 := rfl
theorem lk_27_221 : (zPr L xs).1 27 221 = o_aload 0 1 := rfl
theorem lk_27_222 : (zPr L xs).1 27 222 = o_push (.int (0)) 1 := rfl
theorem lk_27_223 : (zPr L xs).1 27 223 = o_cv 35 1 5 5 5 := rfl
theorem lk_27_226 : (zPr L xs).1 27 226 = o_pfL 2 108 := rfl
theorem lk_27_229 : (zPr L xs).1 27 229 = o_goto 232 := rfl
theorem lk_27_232 : (zPr L xs).1 27 232 = o_vret := rfl
theorem lk_28_0 : (zPr L xs).1 28 0 = o_aload 0 1 := rfl
theorem lk_28_1 : (zPr L xs).1 28 1 = o_cv 39 0 1 5 5 := rfl
theorem lk_28_4 : (zPr L xs).1 28 4 = o_istore 1 1 := rfl
theorem lk_28_5 : (zPr L xs).1 28 5 = o_iload 1 1 := rfl
theorem lk_28_6 : (zPr L xs).1 28 6 = o_push (.int (97)) 2 := rfl
theorem lk_28_8 : (zPr L xs).1 28 8 = o_iclt 17 := rfl
theorem lk_28_11 : (zPr L xs).1 28 11 = o_iload 1 1 := rfl
theorem lk_28_12 : (zPr L xs).1 28 12 = o_push (.int (101)) 2 := rfl
theorem lk_28_14 : (zPr L xs).1 28 14 = o_iclt 24 := rfl
theorem lk_28_17 : (zPr L xs).1 28 17 = o_aload 0 1 := rfl
theorem lk_28_18 : (zPr L xs).1 28 18 = o_push (.int (1)) 1 := rfl
theorem lk_28_19 : (zPr L xs).1 28 19 = o_pfI 5 254 (fun x => x &&& 1) := rfl
theorem lk_28_22 : (zPr L xs).1 28 22 = o_push (.int (0)) 1 := rfl
theorem lk_28_23 : (zPr L xs).1 28 23 = o_iret (fun x => x) := rfl
theorem lk_28_24 : (zPr L xs).1 28 24 = o_aload 0 1 := rfl
theorem lk_28_25 : (zPr L xs).1 28 25 = o_dup := rfl
theorem lk_28_26 : (zPr L xs).1 28 26 = o_gfI 5 253 := rfl
theorem lk_28_29 : (zPr L xs).1 28 29 = o_push (.int (1)) 1 := rfl
theorem lk_28_30 : (zPr L xs).1 28 30 = o_iop (fun x y => x + y) := rfl
theorem lk_28_31 : (zPr L xs).1 28 31 = o_pfI 5 253 (fun x => x) := rfl
theorem lk_28_34 : (zPr L xs).1 28 34 = o_iload 1 1 := rfl
theorem lk_28_35 : (zPr L xs).1 28 35 = o_push (.int (97)) 2 := rfl
theorem lk_28_37 : (zPr L xs).1 28 37 = o_iop (fun x y => x - y) := rfl
theorem lk_28_38 : (zPr L xs).1 28 38 = o_iret (fun x => x) := rfl
theorem lk_29_0 : (zPr L xs).1 29 0 = o_aload 0 1 := rfl
theorem lk_29_1 : (zPr L xs).1 29 1 = o_push (.int (43)) 2 := rfl
theorem lk_29_3 : (zPr L xs).1 29 3 = o_cv 40 1 2 5 5 := rfl
theorem lk_29_6 : (zPr L xs).1 29 6 = o_ifeq 11 := rfl
theorem lk_29_9 : (zPr L xs).1 29 9 = o_push (.int (1)) 1 := rfl
theorem lk_29_10 : (zPr L xs).1 29 10 = o_iret (fun x => x) := rfl
theorem lk_29_11 : (zPr L xs).1 29 11 = o_aload 0 1 := rfl
theorem lk_29_12 : (zPr L xs).1 29 12 = o_push (.int (45)) 2 := rfl
theorem lk_29_14 : (zPr L xs).1 29 14 = o_cv 40 1 2 5 5 := rfl
theorem lk_29_17 : (zPr L xs).1 29 17 = o_ifeq 24 := rfl
theorem lk_29_20 : (zPr L xs).1 29 20 = o_push (.int (2)) 1 := rfl
theorem lk_29_21 : (zPr L xs).1 29 21 = o_goto 25 := rfl
theorem lk_29_24 : (zPr L xs).1 29 24 = o_push (.int (0)) 1 := rfl
theorem lk_29_25 : (zPr L xs).1 29 25 = o_iret (fun x => x) := rfl
theorem lk_30_0 : (zPr L xs).1 30 0 = o_aload 0 1 := rfl
theorem lk_30_1 : (zPr L xs).1 30 1 = o_kref 22 41 2 := rfl
theorem lk_30_3 : (zPr L xs).1 30 3 = o_cv 42 1 3 5 5 := rfl
theorem lk_30_6 : (zPr L xs).1 30 6 = o_ifeq 11 := rfl
theorem lk_30_9 : (zPr L xs).1 30 9 = o_push (.int (0)) 1 := rfl
theorem lk_30_10 : (zPr L xs).1 30 10 = o_iret (fun x => x) := rfl
theorem lk_30_11 : (zPr L xs).1 30 11 = o_aload 0 1 := rfl
theorem lk_30_12 : (zPr L xs).1 30 12 = o_kref 23 41 2 := rfl
theorem lk_30_14 : (zPr L xs).1 30 14 = o_cv 42 1 3 5 5 := rfl
theorem lk_30_17 : (zPr L xs).1 30 17 = o_ifeq 22 := rfl
theorem lk_30_20 : (zPr L xs).1 30 20 = o_push (.int (1)) 1 := rfl
theorem lk_30_21 : (zPr L xs).1 30 21 = o_iret (fun x => x) := rfl
theorem lk_30_22 : (zPr L xs).1 30 22 = o_aload 0 1 := rfl
theorem lk_30_23 : (zPr L xs).1 30 23 = o_kref 24 41 2 := rfl
theorem lk_30_25 : (zPr L xs).1 30 25 = o_cv 42 1 3 5 5 := rfl
theorem lk_30_28 : (zPr L xs).1 30 28 = o_ifne 36 := rfl
theorem lk_30_31 : (zPr L xs).1 30 31 = o_aload 0 1 := rfl
theorem lk_30_32 : (zPr L xs).1 30 32 = o_push (.int (1)) 1 := rfl
theorem lk_30_33 : (zPr L xs).1 30 33 = o_pfI 5 254 (fun x => x &&& 1) := rfl
theorem lk_30_36 : (zPr L xs).1 30 36 = o_push (.int (2)) 1 := rfl
theorem lk_30_37 : (zPr L xs).1 30 37 = o_iret (fun x => x) := rfl
theorem lk_31_0 : (zPr L xs).1 31 0 = o_aload 0 1 := rfl
theorem lk_31_1 : (zPr L xs).1 31 1 = o_push (.int (40)) 2 := rfl
theorem lk_31_3 : (zPr L xs).1 31 3 = o_cv 41 1 2 5 5 := rfl
theorem lk_31_6 : (zPr L xs).1 31 6 = o_push (.int (0)) 1 := rfl
theorem lk_31_7 : (zPr L xs).1 31 7 = o_istore 1 1 := rfl
theorem lk_31_8 : (zPr L xs).1 31 8 = o_push (.int (0)) 1 := rfl
theorem lk_31_9 : (zPr L xs).1 31 9 = o_istore 2 1 := rfl
theorem lk_31_10 : (zPr L xs).1 31 10 = o_iload 2 1 := rfl
theorem lk_31_11 : (zPr L xs).1 31 11 = o_push (.int (48)) 2 := rfl
theorem lk_31_13 : (zPr L xs).1 31 13 = o_icge 45 := rfl
theorem lk_31_16 : (zPr L xs).1 31 16 = o_aload 0 1 := rfl
theorem lk_31_17 : (zPr L xs).1 31 17 = o_gfI 5 254 := rfl
theorem lk_31_20 : (zPr L xs).1 31 20 = o_ifne 45 := rfl
theorem lk_31_23 : (zPr L xs).1 31 23 = o_aload 0 1 := rfl
theorem lk_31_24 : (zPr L xs).1 31 24 = o_cv 39 0 1 5 5 := rfl
theorem lk_31_27 : (zPr L xs).1 31 27 = o_push (.int (41)) 2 := rfl
theorem lk_31_29 : (zPr L xs).1 31 29 = o_iceq 45 := rfl
theorem lk_31_32 : (zPr L xs).1 31 32 = o_iload 1 1 := rfl
theorem lk_31_33 : (zPr L xs).1 31 33 = o_aload 0 1 := rfl
theorem lk_31_34 : (zPr L xs).1 31 34 = o_cv 32 0 2 5 5 := rfl
theorem lk_31_37 : (zPr L xs).1 31 37 = o_iop (fun x y => x ||| y) := rfl
theorem lk_31_38 : (zPr L xs).1 31 38 = o_istore 1 1 := rfl
theorem lk_31_39 : (zPr L xs).1 31 39 = o_iinc 2 (1) := rfl
theorem lk_31_42 : (zPr L xs).1 31 42 = o_goto 10 := rfl
theorem lk_31_45 : (zPr L xs).1 31 45 = o_aload 0 1 := rfl
theorem lk_31_46 : (zPr L xs).1 31 46 = o_push (.int (41)) 2 := rfl
theorem lk_31_48 : (zPr L xs).1 31 48 = o_cv 41 1 2 5 5 := rfl
theorem lk_31_51 : (zPr L xs).1 31 51 = o_iload 1 1 := rfl
theorem lk_31_52 : (zPr L xs).1 31 52 = o_iret (fun x => x) := rfl
theorem lk_32_0 : (zPr L xs).1 32 0 = o_kref 21 41 2 := rfl
theorem lk_32_2 : (zPr L xs).1 32 2 = o_aload 0 1 := rfl
theorem lk_32_3 : (zPr L xs).1 32 3 = o_cv 39 0 1 5 5 := rfl
theorem lk_32_6 : (zPr L xs).1 32 6 = o_cv 5 1 2 1 41 := rfl
theorem lk_32_9 : (zPr L xs).1 32 9 = o_istore 1 1 := rfl
theorem lk_32_10 : (zPr L xs).1 32 10 = o_iload 1 1 := rfl
theorem lk_32_11 : (zPr L xs).1 32 11 = o_ifge 21 := rfl
theorem lk_32_14 : (zPr L xs).1 32 14 = o_aload 0 1 := rfl
theorem lk_32_15 : (zPr L xs).1 32 15 = o_push (.int (1)) 1 := rfl
theorem lk_32_16 : (zPr L xs).1 32 16 = o_pfI 5 254 (fun x => x &&& 1) := rfl
theorem lk_32_19 : (zPr L xs).1 32 19 = o_push (.int (0)) 1 := rfl
theorem lk_32_20 : (zPr L xs).1 32 20 = o_iret (fun x => x) := rfl
theorem lk_32_21 : (zPr L xs).1 32 21 = o_aload 0 1 := rfl
theorem lk_32_22 : (zPr L xs).1 32 22 = o_dup := rfl
theorem lk_32_23 : (zPr L xs).1 32 23 = o_gfI 5 253 := rfl
theorem lk_32_26 : (zPr L xs).1 32 26 = o_push (.int (1)) 1 := rfl
theorem lk_32_27 : (zPr L xs).1 32 27 = o_iop (fun x y => x + y) := rfl
theorem lk_32_28 : (zPr L xs).1 32 28 = o_pfI 5 253 (fun x => x) := rfl
theorem lk_32_31 : (zPr L xs).1 32 31 = o_push (.int (1)) 1 := rfl
theorem lk_32_32 : (zPr L xs).1 32 32 = o_iload 1 1 := rfl
theorem lk_32_33 : (zPr L xs).1 32 33 = o_iop (fun x y => x <<< (y &&& 31)) := rfl
theorem lk_32_34 : (zPr L xs).1 32 34 = o_iret (fun x => x) := rfl
theorem lk_33_0 : (zPr L xs).1 33 0 = o_push (.int (0)) 1 := rfl
theorem lk_33_1 : (zPr L xs).1 33 1 = o_istore 3 1 := rfl
theorem lk_33_2 : (zPr L xs).1 33 2 = o_iload 3 1 := rfl
theorem lk_33_3 : (zPr L xs).1 33 3 = o_iload 1 1 := rfl
theorem lk_33_4 : (zPr L xs).1 33 4 = o_icge 22 := rfl
theorem lk_33_7 : (zPr L xs).1 33 7 = o_aload 0 1 := rfl
theorem lk_33_8 : (zPr L xs).1 33 8 = o_iload 3 1 := rfl
theorem lk_33_9 : (zPr L xs).1 33 9 = o_iload 2 1 := rfl
theorem lk_33_10 : (zPr L xs).1 33 10 = o_cv 34 2 4 5 5 := rfl
theorem lk_33_13 : (zPr L xs).1 33 13 = o_ifeq 22 := rfl
theorem lk_33_16 : (zPr L xs).1 33 16 = o_iinc 3 (1) := rfl
theorem lk_33_19 : (zPr L xs).1 33 19 = o_goto 2 := rfl
theorem lk_33_22 : (zPr L xs).1 33 22 = o_iload 3 1 := rfl
theorem lk_33_23 : (zPr L xs).1 33 23 = o_newa 22 2 := rfl
theorem lk_33_25 : (zPr L xs).1 33 25 = o_astore 4 2 := rfl
theorem lk_33_27 : (zPr L xs).1 33 27 = o_push (.int (0)) 1 := rfl
theorem lk_33_28 : (zPr L xs).1 33 28 = o_istore 5 2 := rfl
theorem lk_33_30 : (zPr L xs).1 33 30 = o_iload 5 2 := rfl
theorem lk_33_32 : (zPr L xs).1 33 32 = o_iload 3 1 := rfl
theorem lk_33_33 : (zPr L xs).1 33 33 = o_icge 59 := rfl
theorem lk_33_36 : (zPr L xs).1 33 36 = o_aload 4 2 := rfl
theorem lk_33_38 : (zPr L xs).1 33 38 = o_iload 5 2 := rfl
theorem lk_33_40 : (zPr L xs).1 33 40 = o_aload 0 1 := rfl
theorem lk_33_41 : (zPr L xs).1 33 41 = o_gfR 5 250 := rfl
theorem lk_33_44 : (zPr L xs).1 33 44 = o_aload 0 1 := rfl
theorem lk_33_45 : (zPr L xs).1 33 45 = o_gfI 5 253 := rfl
theorem lk_33_48 : (zPr L xs).1 33 48 = o_iload 5 2 := rfl
theorem lk_33_50 : (zPr L xs).1 33 50 = o_iop (fun x y => x + y) := rfl
theorem lk_33_51 : (zPr L xs).1 33 51 = o_xald 22 := rfl
theorem lk_33_52 : (zPr L xs).1 33 52 = o_xast 22 (vp_nar .char) := rfl
theorem lk_33_53 : (zPr L xs).1 33 53 = o_iinc 5 (1) := rfl
theorem lk_33_56 : (zPr L xs).1 33 56 = o_goto 30 := rfl
theorem lk_33_59 : (zPr L xs).1 33 59 = o_aload 0 1 := rfl
theorem lk_33_60 : (zPr L xs).1 33 60 = o_dup := rfl
theorem lk_33_61 : (zPr L xs).1 33 61 = o_gfI 5 253 := rfl
theorem lk_33_64 : (zPr L xs).1 33 64 = o_iload 3 1 := rfl
theorem lk_33_65 : (zPr L xs).1 33 65 = o_iop (fun x y => x + y) := rfl
theorem lk_33_66 : (zPr L xs).1 33 66 = o_pfI 5 253 (fun x => x) := rfl
theorem lk_33_69 : (zPr L xs).1 33 69 = o_aload 0 1 := rfl
theorem lk_33_70 : (zPr L xs).1 33 70 = o_dup := rfl
theorem lk_33_71 : (zPr L xs).1 33 71 = o_gfI 5 254 := rfl
theorem lk_33_74 : (zPr L xs).1 33 74 = o_iload 3 1 := rfl
theorem lk_33_75 : (zPr L xs).1 33 75 = o_ifne 82 := rfl
theorem lk_33_78 : (zPr L xs).1 33 78 = o_push (.int (1)) 1 := rfl
theorem lk_33_79 : (zPr L xs).1 33 79 = o_goto 83 := rfl
theorem lk_33_82 : (zPr L xs).1 33 82 = o_push (.int (0)) 1 := rfl
theorem lk_33_83 : (zPr L xs).1 33 83 = o_iop (fun x y => x ||| y) := rfl
theorem lk_33_84 : (zPr L xs).1 33 84 = o_pfI 5 254 (fun x => x &&& 1) := rfl
theorem lk_33_87 : (zPr L xs).1 33 87 = o_new 1 4 := rfl
theorem lk_33_90 : (zPr L xs).1 33 90 = o_dup := rfl
theorem lk_33_91 : (zPr L xs).1 33 91 = o_aload 4 2 := rfl
theorem lk_33_93 : (zPr L xs).1 33 93 = o_cv 1 1 2 1 1 := rfl
theorem lk_33_96 : (zPr L xs).1 33 96 = o_aret := rfl
theorem lk_34_0 : (zPr L xs).1 34 0 = o_aload 0 1 := rfl
theorem lk_34_1 : (zPr L xs).1 34 1 = o_gfI 5 253 := rfl
theorem lk_34_4 : (zPr L xs).1 34 4 = o_iload 1 1 := rfl
theorem lk_34_5 : (zPr L xs).1 34 5 = o_iop (fun x y => x + y) := rfl
theorem lk_34_6 : (zPr L xs).1 34 6 = o_aload 0 1 := rfl
theorem lk_34_7 : (zPr L xs).1 34 7 = o_gfI 5 251 := rfl
theorem lk_34_10 : (zPr L xs).1 34 10 = o_icge 27 := rfl
theorem lk_34_13 : (zPr L xs).1 34 13 = o_aload 0 1 := rfl
theorem lk_34_14 : (zPr L xs).1 34 14 = o_gfR 5 250 := rfl
theorem lk_34_17 : (zPr L xs).1 34 17 = o_aload 0 1 := rfl
theorem lk_34_18 : (zPr L xs).1 34 18 = o_gfI 5 253 := rfl
theorem lk_34_21 : (zPr L xs).1 34 21 = o_iload 1 1 := rfl
theorem lk_34_22 : (zPr L xs).1 34 22 = o_iop (fun x y => x + y) := rfl
theorem lk_34_23 : (zPr L xs).1 34 23 = o_xald 22 := rfl
theorem lk_34_24 : (zPr L xs).1 34 24 = o_goto 28 := rfl
theorem lk_34_27 : (zPr L xs).1 34 27 = o_push (.int (0)) 1 := rfl
theorem lk_34_28 : (zPr L xs).1 34 28 = o_istore 3 1 := rfl
theorem lk_34_29 : (zPr L xs).1 34 29 = o_iload 3 1 := rfl
theorem lk_34_30 : (zPr L xs).1 34 30 = o_push (.int (97)) 2 := rfl
theorem lk_34_32 : (zPr L xs).1 34 32 = o_iclt 41 := rfl
theorem lk_34_35 : (zPr L xs).1 34 35 = o_iload 3 1 := rfl
theorem lk_34_36 : (zPr L xs).1 34 36 = o_push (.int (122)) 2 := rfl
theorem lk_34_38 : (zPr L xs).1 34 38 = o_icle 57 := rfl
theorem lk_34_41 : (zPr L xs).1 34 41 = o_iload 2 1 := rfl
theorem lk_34_42 : (zPr L xs).1 34 42 = o_ifeq 61 := rfl
theorem lk_34_45 : (zPr L xs).1 34 45 = o_iload 3 1 := rfl
theorem lk_34_46 : (zPr L xs).1 34 46 = o_push (.int (48)) 2 := rfl
theorem lk_34_48 : (zPr L xs).1 34 48 = o_iclt 61 := rfl
theorem lk_34_51 : (zPr L xs).1 34 51 = o_iload 3 1 := rfl
theorem lk_34_52 : (zPr L xs).1 34 52 = o_push (.int (57)) 2 := rfl
theorem lk_34_54 : (zPr L xs).1 34 54 = o_icgt 61 := rfl
theorem lk_34_57 : (zPr L xs).1 34 57 = o_push (.int (1)) 1 := rfl
theorem lk_34_58 : (zPr L xs).1 34 58 = o_goto 62 := rfl
theorem lk_34_61 : (zPr L xs).1 34 61 = o_push (.int (0)) 1 := rfl
theorem lk_34_62 : (zPr L xs).1 34 62 = o_iret (fun x => x &&& 1) := rfl
theorem lk_35_0 : (zPr L xs).1 35 0 = o_aload 0 1 := rfl
theorem lk_35_1 : (zPr L xs).1 35 1 = o_iload 1 1 := rfl
theorem lk_35_2 : (zPr L xs).1 35 2 = o_cv 36 1 4 5 5 := rfl
theorem lk_35_5 : (zPr L xs).1 35 5 = o_lstore 2 1 := rfl
theorem lk_35_6 : (zPr L xs).1 35 6 = o_push (.int (0)) 1 := rfl
theorem lk_35_7 : (zPr L xs).1 35 7 = o_istore 4 2 := rfl
theorem lk_35_9 : (zPr L xs).1 35 9 = o_iload 4 2 := rfl
theorem lk_35_11 : (zPr L xs).1 35 11 = o_push (.int (48)) 2 := rfl
theorem lk_35_13 : (zPr L xs).1 35 13 = o_icge 46 := rfl
theorem lk_35_16 : (zPr L xs).1 35 16 = o_aload 0 1 := rfl
theorem lk_35_17 : (zPr L xs).1 35 17 = o_gfI 5 254 := rfl
theorem lk_35_20 : (zPr L xs).1 35 20 = o_ifne 46 := rfl
theorem lk_35_23 : (zPr L xs).1 35 23 = o_aload 0 1 := rfl
theorem lk_35_24 : (zPr L xs).1 35 24 = o_push (.int (32)) 2 := rfl
theorem lk_35_26 : (zPr L xs).1 35 26 = o_cv 40 1 2 5 5 := rfl
theorem lk_35_29 : (zPr L xs).1 35 29 = o_ifeq 46 := rfl
theorem lk_35_32 : (zPr L xs).1 35 32 = o_lload 2 1 := rfl
theorem lk_35_33 : (zPr L xs).1 35 33 = o_aload 0 1 := rfl
theorem lk_35_34 : (zPr L xs).1 35 34 = o_iload 1 1 := rfl
theorem lk_35_35 : (zPr L xs).1 35 35 = o_cv 36 1 4 5 5 := rfl
theorem lk_35_38 : (zPr L xs).1 35 38 = o_lop (fun x y => x &&& y) := rfl
theorem lk_35_39 : (zPr L xs).1 35 39 = o_lstore 2 1 := rfl
theorem lk_35_40 : (zPr L xs).1 35 40 = o_iinc 4 (1) := rfl
theorem lk_35_43 : (zPr L xs).1 35 43 = o_goto 9 := rfl
theorem lk_35_46 : (zPr L xs).1 35 46 = o_lload 2 1 := rfl
theorem lk_35_47 : (zPr L xs).1 35 47 = o_lret := rfl
theorem lk_36_0 : (zPr L xs).1 36 0 = o_aload 0 1 := rfl
theorem lk_36_1 : (zPr L xs).1 36 1 = o_gfI 5 254 := rfl
theorem lk_36_4 : (zPr L xs).1 36 4 = o_ifne 13 := rfl
theorem lk_36_7 : (zPr L xs).1 36 7 = o_iload 1 1 := rfl
theorem lk_36_8 : (zPr L xs).1 36 8 = o_push (.int (8)) 2 := rfl
theorem lk_36_10 : (zPr L xs).1 36 10 = o_icle 20 := rfl
theorem lk_36_13 : (zPr L xs).1 36 13 = o_aload 0 1 := rfl
theorem lk_36_14 : (zPr L xs).1 36 14 = o_push (.int (1)) 1 := rfl
theorem lk_36_15 : (zPr L xs).1 36 15 = o_pfI 5 254 (fun x => x &&& 1) := rfl
theorem lk_36_18 : (zPr L xs).1 36 18 = o_push (.long 0) 1 := rfl
theorem lk_36_19 : (zPr L xs).1 36 19 = o_lret := rfl
theorem lk_36_20 : (zPr L xs).1 36 20 = o_aload 0 1 := rfl
theorem lk_36_21 : (zPr L xs).1 36 21 = o_kref 25 41 2 := rfl
theorem lk_36_23 : (zPr L xs).1 36 23 = o_cv 42 1 3 5 5 := rfl
theorem lk_36_26 : (zPr L xs).1 36 26 = o_ifeq 37 := rfl
theorem lk_36_29 : (zPr L xs).1 36 29 = o_aload 0 1 := rfl
theorem lk_36_30 : (zPr L xs).1 36 30 = o_gfR 5 252 := rfl
theorem lk_36_33 : (zPr L xs).1 36 33 = o_cv 65 0 1 8 8 := rfl
theorem lk_36_36 : (zPr L xs).1 36 36 = o_lret := rfl
theorem lk_36_37 : (zPr L xs).1 36 37 = o_aload 0 1 := rfl
theorem lk_36_38 : (zPr L xs).1 36 38 = o_kref 26 41 2 := rfl
theorem lk_36_40 : (zPr L xs).1 36 40 = o_cv 42 1 3 5 5 := rfl
theorem lk_36_43 : (zPr L xs).1 36 43 = o_ifeq 58 := rfl
theorem lk_36_46 : (zPr L xs).1 36 46 = o_aload 0 1 := rfl
theorem lk_36_47 : (zPr L xs).1 36 47 = o_gfR 5 252 := rfl
theorem lk_36_50 : (zPr L xs).1 36 50 = o_aload 0 1 := rfl
theorem lk_36_51 : (zPr L xs).1 36 51 = o_cv 32 0 2 5 5 := rfl
theorem lk_36_54 : (zPr L xs).1 36 54 = o_cv 67 1 5 8 8 := rfl
theorem lk_36_57 : (zPr L xs).1 36 57 = o_lret := rfl
theorem lk_36_58 : (zPr L xs).1 36 58 = o_aload 0 1 := rfl
theorem lk_36_59 : (zPr L xs).1 36 59 = o_kref 27 41 2 := rfl
theorem lk_36_61 : (zPr L xs).1 36 61 = o_cv 42 1 3 5 5 := rfl
theorem lk_36_64 : (zPr L xs).1 36 64 = o_ifeq 82 := rfl
theorem lk_36_67 : (zPr L xs).1 36 67 = o_aload 0 1 := rfl
theorem lk_36_68 : (zPr L xs).1 36 68 = o_gfR 5 252 := rfl
theorem lk_36_71 : (zPr L xs).1 36 71 = o_aload 0 1 := rfl
theorem lk_36_72 : (zPr L xs).1 36 72 = o_push (.int (6)) 2 := rfl
theorem lk_36_74 : (zPr L xs).1 36 74 = o_push (.int (0)) 1 := rfl
theorem lk_36_75 : (zPr L xs).1 36 75 = o_cv 33 2 6 5 5 := rfl
theorem lk_36_78 : (zPr L xs).1 36 78 = o_cv 68 1 5 8 8 := rfl
theorem lk_36_81 : (zPr L xs).1 36 81 = o_lret := rfl
theorem lk_36_82 : (zPr L xs).1 36 82 = o_aload 0 1 := rfl
theorem lk_36_83 : (zPr L xs).1 36 83 = o_kref 20 41 2 := rfl
theorem lk_36_85 : (zPr L xs).1 36 85 = o_cv 42 1 3 5 5 := rfl
theorem lk_36_88 : (zPr L xs).1 36 88 = o_ifeq 97 := rfl
theorem lk_36_91 : (zPr L xs).1 36 91 = o_aload 0 1 := rfl
theorem lk_36_92 : (zPr L xs).1 36 92 = o_push (.int (1)) 1 := rfl
theorem lk_36_93 : (zPr L xs).1 36 93 = o_cv 37 1 8 5 5 := rfl
theorem lk_36_96 : (zPr L xs).1 36 96 = o_lret := rfl
theorem lk_36_97 : (zPr L xs).1 36 97 = o_aload 0 1 := rfl
theorem lk_36_98 : (zPr L xs).1 36 98 = o_kref 28 41 2 := rfl
theorem lk_36_100 : (zPr L xs).1 36 100 = o_cv 42 1 3 5 5 := rfl
theorem lk_36_103 : (zPr L xs).1 36 103 = o_ifeq 126 := rfl
theorem lk_36_106 : (zPr L xs).1 36 106 = o_aload 0 1 := rfl
theorem lk_36_107 : (zPr L xs).1 36 107 = o_gfR 5 252 := rfl
theorem lk_36_110 : (zPr L xs).1 36 110 = o_cv 65 0 1 8 8 := rfl
theorem lk_36_113 : (zPr L xs).1 36 113 = o_aload 0 1 := rfl
theorem lk_36_114 : (zPr L xs).1 36 114 = o_iload 1 1 := rfl
theorem lk_36_115 : (zPr L xs).1 36 115 = o_push (.int (1)) 1 := rfl
theorem lk_36_116 : (zPr L xs).1 36 116 = o_iop (fun x y => x + y) := rfl
theorem lk_36_117 : (zPr L xs).1 36 117 = o_cv 36 1 4 5 5 := rfl
theorem lk_36_120 : (zPr L xs).1 36 120 = o_push (.long (-1)) 3 := rfl
theorem lk_36_123 : (zPr L xs).1 36 123 = o_lop (fun x y => x ^^^ y) := rfl
theorem lk_36_124 : (zPr L xs).1 36 124 = o_lop (fun x y => x &&& y) := rfl
theorem lk_36_125 : (zPr L xs).1 36 125 = o_lret := rfl
theorem lk_36_126 : (zPr L xs).1 36 126 = o_aload 0 1 := rfl
theorem lk_36_127 : (zPr L xs).1 36 127 = o_kref 29 41 2 := rfl
theorem lk_36_129 : (zPr L xs).1 36 129 = o_cv 42 1 3 5 5 := rfl
theorem lk_36_132 : (zPr L xs).1 36 132 = o_ifeq 159 := rfl
theorem lk_36_135 : (zPr L xs).1 36 135 = o_aload 0 1 := rfl
theorem lk_36_136 : (zPr L xs).1 36 136 = o_iload 1 1 := rfl
theorem lk_36_137 : (zPr L xs).1 36 137 = o_push (.int (1)) 1 := rfl
theorem lk_36_138 : (zPr L xs).1 36 138 = o_iop (fun x y => x + y) := rfl
theorem lk_36_139 : (zPr L xs).1 36 139 = o_cv 36 1 4 5 5 := rfl
theorem lk_36_142 : (zPr L xs).1 36 142 = o_lstore 2 1 := rfl
theorem lk_36_143 : (zPr L xs).1 36 143 = o_aload 0 1 := rfl
theorem lk_36_144 : (zPr L xs).1 36 144 = o_push (.int (32)) 2 := rfl
theorem lk_36_146 : (zPr L xs).1 36 146 = o_cv 41 1 2 5 5 := rfl
theorem lk_36_149 : (zPr L xs).1 36 149 = o_lload 2 1 := rfl
theorem lk_36_150 : (zPr L xs).1 36 150 = o_aload 0 1 := rfl
theorem lk_36_151 : (zPr L xs).1 36 151 = o_iload 1 1 := rfl
theorem lk_36_152 : (zPr L xs).1 36 152 = o_push (.int (1)) 1 := rfl
theorem lk_36_153 : (zPr L xs).1 36 153 = o_iop (fun x y => x + y) := rfl
theorem lk_36_154 : (zPr L xs).1 36 154 = o_cv 36 1 4 5 5 := rfl
theorem lk_36_157 : (zPr L xs).1 36 157 = o_lop (fun x y => x ||| y) := rfl
theorem lk_36_158 : (zPr L xs).1 36 158 = o_lret := rfl
theorem lk_36_159 : (zPr L xs).1 36 159 = o_aload 0 1 := rfl
theorem lk_36_160 : (zPr L xs).1 36 160 = o_push (.int (40)) 2 := rfl
theorem lk_36_162 : (zPr L xs).1 36 162 = o_cv 40 1 2 5 5 := rfl
theorem lk_36_165 : (zPr L xs).1 36 165 = o_ifeq 184 := rfl
theorem lk_36_168 : (zPr L xs).1 36 168 = o_aload 0 1 := rfl
theorem lk_36_169 : (zPr L xs).1 36 169 = o_iload 1 1 := rfl
theorem lk_36_170 : (zPr L xs).1 36 170 = o_push (.int (1)) 1 := rfl
theorem lk_36_171 : (zPr L xs).1 36 171 = o_iop (fun x y => x + y) := rfl
theorem lk_36_172 : (zPr L xs).1 36 172 = o_cv 35 1 5 5 5 := rfl
theorem lk_36_175 : (zPr L xs).1 36 175 = o_lstore 2 1 := rfl
theorem lk_36_176 : (zPr L xs).1 36 176 = o_aload 0 1 := rfl
theorem lk_36_177 : (zPr L xs).1 36 177 = o_push (.int (41)) 2 := rfl
theorem lk_36_179 : (zPr L xs).1 36 179 = o_cv 41 1 2 5 5 := rfl
theorem lk_36_182 : (zPr L xs).1 36 182 = o_lload 2 1 := rfl
theorem lk_36_183 : (zPr L xs).1 36 183 = o_lret := rfl
theorem lk_36_184 : (zPr L xs).1 36 184 = o_aload 0 1 := rfl
theorem lk_36_185 : (zPr L xs).1 36 185 = o_push (.int (0)) 1 := rfl
theorem lk_36_186 : (zPr L xs).1 36 186 = o_cv 37 1 8 5 5 := rfl
theorem lk_36_189 : (zPr L xs).1 36 189 = o_lret := rfl
theorem lk_37_0 : (zPr L xs).1 37 0 = o_push (.long 0) 1 := rfl
theorem lk_37_1 : (zPr L xs).1 37 1 = o_lstore 2 1 := rfl
theorem lk_37_2 : (zPr L xs).1 37 2 = o_push (.int (1)) 1 := rfl
theorem lk_37_3 : (zPr L xs).1 37 3 = o_istore 4 2 := rfl
theorem lk_37_5 : (zPr L xs).1 37 5 = o_push (.int (0)) 1 := rfl
theorem lk_37_6 : (zPr L xs).1 37 6 = o_istore 5 2 := rfl
theorem lk_37_8 : (zPr L xs).1 37 8 = o_iload 5 2 := rfl
theorem lk_37_10 : (zPr L xs).1 37 10 = o_push (.int (48)) 2 := rfl
theorem lk_37_12 : (zPr L xs).1 37 12 = o_icge 87 := rfl
theorem lk_37_15 : (zPr L xs).1 37 15 = o_iload 4 2 := rfl
theorem lk_37_17 : (zPr L xs).1 37 17 = o_ifeq 87 := rfl
theorem lk_37_20 : (zPr L xs).1 37 20 = o_aload 0 1 := rfl
theorem lk_37_21 : (zPr L xs).1 37 21 = o_iload 1 1 := rfl
theorem lk_37_22 : (zPr L xs).1 37 22 = o_cv 38 1 5 5 5 := rfl
theorem lk_37_25 : (zPr L xs).1 37 25 = o_istore 6 2 := rfl
theorem lk_37_27 : (zPr L xs).1 37 27 = o_aload 0 1 := rfl
theorem lk_37_28 : (zPr L xs).1 37 28 = o_push (.int (58)) 2 := rfl
theorem lk_37_30 : (zPr L xs).1 37 30 = o_cv 40 1 2 5 5 := rfl
theorem lk_37_33 : (zPr L xs).1 37 33 = o_ifeq 44 := rfl
theorem lk_37_36 : (zPr L xs).1 37 36 = o_aload 0 1 := rfl
theorem lk_37_37 : (zPr L xs).1 37 37 = o_iload 1 1 := rfl
theorem lk_37_38 : (zPr L xs).1 37 38 = o_cv 38 1 5 5 5 := rfl
theorem lk_37_41 : (zPr L xs).1 37 41 = o_goto 46 := rfl
theorem lk_37_44 : (zPr L xs).1 37 44 = o_iload 6 2 := rfl
theorem lk_37_46 : (zPr L xs).1 37 46 = o_istore 7 2 := rfl
theorem lk_37_48 : (zPr L xs).1 37 48 = o_lload 2 1 := rfl
theorem lk_37_49 : (zPr L xs).1 37 49 = o_aload 0 1 := rfl
theorem lk_37_50 : (zPr L xs).1 37 50 = o_gfR 5 252 := rfl
theorem lk_37_53 : (zPr L xs).1 37 53 = o_iload 6 2 := rfl
theorem lk_37_55 : (zPr L xs).1 37 55 = o_iload 7 2 := rfl
theorem lk_37_57 : (zPr L xs).1 37 57 = o_mx (fun x y => if y < x then y else x) := rfl
theorem lk_37_60 : (zPr L xs).1 37 60 = o_iload 6 2 := rfl
theorem lk_37_62 : (zPr L xs).1 37 62 = o_iload 7 2 := rfl
theorem lk_37_64 : (zPr L xs).1 37 64 = o_mx (fun x y => if x < y then y else x) := rfl
theorem lk_37_67 : (zPr L xs).1 37 67 = o_iload 1 1 := rfl
theorem lk_37_68 : (zPr L xs).1 37 68 = o_cv 66 3 8 8 8 := rfl
theorem lk_37_71 : (zPr L xs).1 37 71 = o_lop (fun x y => x ||| y) := rfl
theorem lk_37_72 : (zPr L xs).1 37 72 = o_lstore 2 1 := rfl
theorem lk_37_73 : (zPr L xs).1 37 73 = o_aload 0 1 := rfl
theorem lk_37_74 : (zPr L xs).1 37 74 = o_push (.int (44)) 2 := rfl
theorem lk_37_76 : (zPr L xs).1 37 76 = o_cv 40 1 2 5 5 := rfl
theorem lk_37_79 : (zPr L xs).1 37 79 = o_istore 4 2 := rfl
theorem lk_37_81 : (zPr L xs).1 37 81 = o_iinc 5 (1) := rfl
theorem lk_37_84 : (zPr L xs).1 37 84 = o_goto 8 := rfl
theorem lk_37_87 : (zPr L xs).1 37 87 = o_lload 2 1 := rfl
theorem lk_37_88 : (zPr L xs).1 37 88 = o_lret := rfl
theorem lk_38_0 : (zPr L xs).1 38 0 = o_push (.int (0)) 1 := rfl
theorem lk_38_1 : (zPr L xs).1 38 1 = o_istore 2 1 := rfl
theorem lk_38_2 : (zPr L xs).1 38 2 = o_aload 0 1 := rfl
theorem lk_38_3 : (zPr L xs).1 38 3 = o_push (.int (42)) 2 := rfl
theorem lk_38_5 : (zPr L xs).1 38 5 = o_cv 40 1 2 5 5 := rfl
theorem lk_38_8 : (zPr L xs).1 38 8 = o_ifeq 23 := rfl
theorem lk_38_11 : (zPr L xs).1 38 11 = o_aload 0 1 := rfl
theorem lk_38_12 : (zPr L xs).1 38 12 = o_gfR 5 252 := rfl
theorem lk_38_15 : (zPr L xs).1 38 15 = o_iload 1 1 := rfl
theorem lk_38_16 : (zPr L xs).1 38 16 = o_cv 64 1 2 8 8 := rfl
theorem lk_38_19 : (zPr L xs).1 38 19 = o_istore 2 1 := rfl
theorem lk_38_20 : (zPr L xs).1 38 20 = o_goto 93 := rfl
theorem lk_38_23 : (zPr L xs).1 38 23 = o_push (.int (0)) 1 := rfl
theorem lk_38_24 : (zPr L xs).1 38 24 = o_istore 3 1 := rfl
theorem lk_38_25 : (zPr L xs).1 38 25 = o_push (.int (0)) 1 := rfl
theorem lk_38_26 : (zPr L xs).1 38 26 = o_istore 4 2 := rfl
theorem lk_38_28 : (zPr L xs).1 38 28 = o_iload 4 2 := rfl
theorem lk_38_30 : (zPr L xs).1 38 30 = o_push (.int (3)) 1 := rfl
theorem lk_38_31 : (zPr L xs).1 38 31 = o_icge 84 := rfl
theorem lk_38_34 : (zPr L xs).1 38 34 = o_aload 0 1 := rfl
theorem lk_38_35 : (zPr L xs).1 38 35 = o_cv 39 0 1 5 5 := rfl
theorem lk_38_38 : (zPr L xs).1 38 38 = o_push (.int (48)) 2 := rfl
theorem lk_38_40 : (zPr L xs).1 38 40 = o_iclt 84 := rfl
theorem lk_38_43 : (zPr L xs).1 38 43 = o_aload 0 1 := rfl
theorem lk_38_44 : (zPr L xs).1 38 44 = o_cv 39 0 1 5 5 := rfl
theorem lk_38_47 : (zPr L xs).1 38 47 = o_push (.int (57)) 2 := rfl
theorem lk_38_49 : (zPr L xs).1 38 49 = o_icgt 84 := rfl
theorem lk_38_52 : (zPr L xs).1 38 52 = o_iload 2 1 := rfl
theorem lk_38_53 : (zPr L xs).1 38 53 = o_push (.int (10)) 2 := rfl
theorem lk_38_55 : (zPr L xs).1 38 55 = o_iop (fun x y => x * y) := rfl
theorem lk_38_56 : (zPr L xs).1 38 56 = o_aload 0 1 := rfl
theorem lk_38_57 : (zPr L xs).1 38 57 = o_cv 39 0 1 5 5 := rfl
theorem lk_38_60 : (zPr L xs).1 38 60 = o_iop (fun x y => x + y) := rfl
theorem lk_38_61 : (zPr L xs).1 38 61 = o_push (.int (48)) 2 := rfl
theorem lk_38_63 : (zPr L xs).1 38 63 = o_iop (fun x y => x - y) := rfl
theorem lk_38_64 : (zPr L xs).1 38 64 = o_istore 2 1 := rfl
theorem lk_38_65 : (zPr L xs).1 38 65 = o_aload 0 1 := rfl
theorem lk_38_66 : (zPr L xs).1 38 66 = o_dup := rfl
theorem lk_38_67 : (zPr L xs).1 38 67 = o_gfI 5 253 := rfl
theorem lk_38_70 : (zPr L xs).1 38 70 = o_push (.int (1)) 1 := rfl
theorem lk_38_71 : (zPr L xs).1 38 71 = o_iop (fun x y => x + y) := rfl
theorem lk_38_72 : (zPr L xs).1 38 72 = o_pfI 5 253 (fun x => x) := rfl
theorem lk_38_75 : (zPr L xs).1 38 75 = o_iinc 3 (1) := rfl
theorem lk_38_78 : (zPr L xs).1 38 78 = o_iinc 4 (1) := rfl
theorem lk_38_81 : (zPr L xs).1 38 81 = o_goto 28 := rfl
theorem lk_38_84 : (zPr L xs).1 38 84 = o_iload 3 1 := rfl
theorem lk_38_85 : (zPr L xs).1 38 85 = o_ifne 93 := rfl
theorem lk_38_88 : (zPr L xs).1 38 88 = o_aload 0 1 := rfl
theorem lk_38_89 : (zPr L xs).1 38 89 = o_push (.int (1)) 1 := rfl
theorem lk_38_90 : (zPr L xs).1 38 90 = o_pfI 5 254 (fun x => x &&& 1) := rfl
theorem lk_38_93 : (zPr L xs).1 38 93 = o_iload 1 1 := rfl
theorem lk_38_94 : (zPr L xs).1 38 94 = o_ifne 117 := rfl
theorem lk_38_97 : (zPr L xs).1 38 97 = o_iload 2 1 := rfl
theorem lk_38_98 : (zPr L xs).1 38 98 = o_ifeq 112 := rfl
theorem lk_38_101 : (zPr L xs).1 38 101 = o_iload 2 1 := rfl
theorem lk_38_102 : (zPr L xs).1 38 102 = o_aload 0 1 := rfl
theorem lk_38_103 : (zPr L xs).1 38 103 = o_gfR 5 252 := rfl
theorem lk_38_106 : (zPr L xs).1 38 106 = o_gfI 8 402 := rfl
theorem lk_38_109 : (zPr L xs).1 38 109 = o_icle 117 := rfl
theorem lk_38_112 : (zPr L xs).1 38 112 = o_aload 0 1 := rfl
theorem lk_38_113 : (zPr L xs).1 38 113 = o_push (.int (1)) 1 := rfl
theorem lk_38_114 : (zPr L xs).1 38 114 = o_pfI 5 255 (fun x => x &&& 1) := rfl
theorem lk_38_117 : (zPr L xs).1 38 117 = o_iload 2 1 := rfl
theorem lk_38_118 : (zPr L xs).1 38 118 = o_iret (fun x => x) := rfl
theorem lk_39_0 : (zPr L xs).1 39 0 = o_aload 0 1 := rfl
theorem lk_39_1 : (zPr L xs).1 39 1 = o_gfI 5 253 := rfl
theorem lk_39_4 : (zPr L xs).1 39 4 = o_aload 0 1 := rfl
theorem lk_39_5 : (zPr L xs).1 39 5 = o_gfI 5 251 := rfl
theorem lk_39_8 : (zPr L xs).1 39 8 = o_icge 23 := rfl
theorem lk_39_11 : (zPr L xs).1 39 11 = o_aload 0 1 := rfl
theorem lk_39_12 : (zPr L xs).1 39 12 = o_gfR 5 250 := rfl
theorem lk_39_15 : (zPr L xs).1 39 15 = o_aload 0 1 := rfl
theorem lk_39_16 : (zPr L xs).1 39 16 = o_gfI 5 253 := rfl
theorem lk_39_19 : (zPr L xs).1 39 19 = o_xald 22 := rfl
theorem lk_39_20 : (zPr L xs).1 39 20 = o_goto 24 := rfl
theorem lk_39_23 : (zPr L xs).1 39 23 = o_push (.int (0)) 1 := rfl
theorem lk_39_24 : (zPr L xs).1 39 24 = o_iret (fun x => x.toUInt32.toUInt16.toUInt32.toInt32) := rfl
theorem lk_40_0 : (zPr L xs).1 40 0 = o_aload 0 1 := rfl
theorem lk_40_1 : (zPr L xs).1 40 1 = o_gfI 5 253 := rfl
theorem lk_40_4 : (zPr L xs).1 40 4 = o_aload 0 1 := rfl
theorem lk_40_5 : (zPr L xs).1 40 5 = o_gfI 5 251 := rfl
theorem lk_40_8 : (zPr L xs).1 40 8 = o_icge 36 := rfl
theorem lk_40_11 : (zPr L xs).1 40 11 = o_aload 0 1 := rfl
theorem lk_40_12 : (zPr L xs).1 40 12 = o_gfR 5 250 := rfl
theorem lk_40_15 : (zPr L xs).1 40 15 = o_aload 0 1 := rfl
theorem lk_40_16 : (zPr L xs).1 40 16 = o_gfI 5 253 := rfl
theorem lk_40_19 : (zPr L xs).1 40 19 = o_xald 22 := rfl
theorem lk_40_20 : (zPr L xs).1 40 20 = o_iload 1 1 := rfl
theorem lk_40_21 : (zPr L xs).1 40 21 = o_icne 36 := rfl
theorem lk_40_24 : (zPr L xs).1 40 24 = o_aload 0 1 := rfl
theorem lk_40_25 : (zPr L xs).1 40 25 = o_dup := rfl
theorem lk_40_26 : (zPr L xs).1 40 26 = o_gfI 5 253 := rfl
theorem lk_40_29 : (zPr L xs).1 40 29 = o_push (.int (1)) 1 := rfl
theorem lk_40_30 : (zPr L xs).1 40 30 = o_iop (fun x y => x + y) := rfl
theorem lk_40_31 : (zPr L xs).1 40 31 = o_pfI 5 253 (fun x => x) := rfl
theorem lk_40_34 : (zPr L xs).1 40 34 = o_push (.int (1)) 1 := rfl
theorem lk_40_35 : (zPr L xs).1 40 35 = o_iret (fun x => x &&& 1) := rfl
theorem lk_40_36 : (zPr L xs).1 40 36 = o_push (.int (0)) 1 := rfl
theorem lk_40_37 : (zPr L xs).1 40 37 = o_iret (fun x => x &&& 1) := rfl
theorem lk_41_0 : (zPr L xs).1 41 0 = o_aload 0 1 := rfl
theorem lk_41_1 : (zPr L xs).1 41 1 = o_iload 1 1 := rfl
theorem lk_41_2 : (zPr L xs).1 41 2 = o_cv 40 1 2 5 5 := rfl
theorem lk_41_5 : (zPr L xs).1 41 5 = o_ifne 13 := rfl
theorem lk_41_8 : (zPr L xs).1 41 8 = o_aload 0 1 := rfl
theorem lk_41_9 : (zPr L xs).1 41 9 = o_push (.int (1)) 1 := rfl
theorem lk_41_10 : (zPr L xs).1 41 10 = o_pfI 5 254 (fun x => x &&& 1) := rfl
theorem lk_41_13 : (zPr L xs).1 41 13 = o_vret := rfl
theorem lk_42_0 : (zPr L xs).1 42 0 = o_aload 1 1 := rfl
theorem lk_42_1 : (zPr L xs).1 42 1 = o_cv 3 0 1 1 41 := rfl
theorem lk_42_4 : (zPr L xs).1 42 4 = o_aload 0 1 := rfl
theorem lk_42_5 : (zPr L xs).1 42 5 = o_gfI 5 251 := rfl
theorem lk_42_8 : (zPr L xs).1 42 8 = o_aload 0 1 := rfl
theorem lk_42_9 : (zPr L xs).1 42 9 = o_gfI 5 253 := rfl
theorem lk_42_12 : (zPr L xs).1 42 12 = o_iop (fun x y => x - y) := rfl
theorem lk_42_13 : (zPr L xs).1 42 13 = o_icle 18 := rfl
theorem lk_42_16 : (zPr L xs).1 42 16 = o_push (.int (0)) 1 := rfl
theorem lk_42_17 : (zPr L xs).1 42 17 = o_iret (fun x => x &&& 1) := rfl
theorem lk_42_18 : (zPr L xs).1 42 18 = o_push (.int (0)) 1 := rfl
theorem lk_42_19 : (zPr L xs).1 42 19 = o_istore 2 1 := rfl
theorem lk_42_20 : (zPr L xs).1 42 20 = o_iload 2 1 := rfl
theorem lk_42_21 : (zPr L xs).1 42 21 = o_aload 1 1 := rfl
theorem lk_42_22 : (zPr L xs).1 42 22 = o_cv 3 0 1 1 41 := rfl
theorem lk_42_25 : (zPr L xs).1 42 25 = o_icge 55 := rfl
theorem lk_42_28 : (zPr L xs).1 42 28 = o_aload 0 1 := rfl
theorem lk_42_29 : (zPr L xs).1 42 29 = o_gfR 5 250 := rfl
theorem lk_42_32 : (zPr L xs).1 42 32 = o_aload 0 1 := rfl
theorem lk_42_33 : (zPr L xs).1 42 33 = o_gfI 5 253 := rfl
theorem lk_42_36 : (zPr L xs).1 42 36 = o_iload 2 1 := rfl
theorem lk_42_37 : (zPr L xs).1 42 37 = o_iop (fun x y => x + y) := rfl
theorem lk_42_38 : (zPr L xs).1 42 38 = o_xald 22 := rfl
theorem lk_42_39 : (zPr L xs).1 42 39 = o_aload 1 1 := rfl
theorem lk_42_40 : (zPr L xs).1 42 40 = o_iload 2 1 := rfl
theorem lk_42_41 : (zPr L xs).1 42 41 = o_cv 4 1 2 1 41 := rfl
theorem lk_42_44 : (zPr L xs).1 42 44 = o_iceq 49 := rfl
theorem lk_42_47 : (zPr L xs).1 42 47 = o_push (.int (0)) 1 := rfl
theorem lk_42_48 : (zPr L xs).1 42 48 = o_iret (fun x => x &&& 1) := rfl
theorem lk_42_49 : (zPr L xs).1 42 49 = o_iinc 2 (1) := rfl
theorem lk_42_52 : (zPr L xs).1 42 52 = o_goto 20 := rfl
theorem lk_42_55 : (zPr L xs).1 42 55 = o_aload 0 1 := rfl
theorem lk_42_56 : (zPr L xs).1 42 56 = o_dup := rfl
theorem lk_42_57 : (zPr L xs).1 42 57 = o_gfI 5 253 := rfl
theorem lk_42_60 : (zPr L xs).1 42 60 = o_aload 1 1 := rfl
theorem lk_42_61 : (zPr L xs).1 42 61 = o_cv 3 0 1 1 41 := rfl
theorem lk_42_64 : (zPr L xs).1 42 64 = o_iop (fun x y => x + y) := rfl
theorem lk_42_65 : (zPr L xs).1 42 65 = o_pfI 5 253 (fun x => x) := rfl
theorem lk_42_68 : (zPr L xs).1 42 68 = o_push (.int (1)) 1 := rfl
theorem lk_42_69 : (zPr L xs).1 42 69 = o_iret (fun x => x &&& 1) := rfl
theorem lk_43_0 : (zPr L xs).1 43 0 = o_aload 0 1 := rfl
theorem lk_43_1 : (zPr L xs).1 43 1 = o_oini := rfl
theorem lk_43_4 : (zPr L xs).1 43 4 = o_aload 0 1 := rfl
theorem lk_43_5 : (zPr L xs).1 43 5 = o_push (.int (1024)) 3 := rfl
theorem lk_43_8 : (zPr L xs).1 43 8 = o_newa 22 2 := rfl
theorem lk_43_10 : (zPr L xs).1 43 10 = o_pfR 6 300 := rfl
theorem lk_43_13 : (zPr L xs).1 43 13 = o_vret := rfl
theorem lk_44_0 : (zPr L xs).1 44 0 = o_aload 0 1 := rfl
theorem lk_44_1 : (zPr L xs).1 44 1 = o_gfI 6 301 := rfl
theorem lk_44_4 : (zPr L xs).1 44 4 = o_push (.int (1024)) 3 := rfl
theorem lk_44_7 : (zPr L xs).1 44 7 = o_icge 30 := rfl
theorem lk_44_10 : (zPr L xs).1 44 10 = o_aload 0 1 := rfl
theorem lk_44_11 : (zPr L xs).1 44 11 = o_gfR 6 300 := rfl
theorem lk_44_14 : (zPr L xs).1 44 14 = o_aload 0 1 := rfl
theorem lk_44_15 : (zPr L xs).1 44 15 = o_gfI 6 301 := rfl
theorem lk_44_18 : (zPr L xs).1 44 18 = o_iload 1 1 := rfl
theorem lk_44_19 : (zPr L xs).1 44 19 = o_xast 22 (vp_nar .char) := rfl
theorem lk_44_20 : (zPr L xs).1 44 20 = o_aload 0 1 := rfl
theorem lk_44_21 : (zPr L xs).1 44 21 = o_dup := rfl
theorem lk_44_22 : (zPr L xs).1 44 22 = o_gfI 6 301 := rfl
theorem lk_44_25 : (zPr L xs).1 44 25 = o_push (.int (1)) 1 := rfl
theorem lk_44_26 : (zPr L xs).1 44 26 = o_iop (fun x y => x + y) := rfl
theorem lk_44_27 : (zPr L xs).1 44 27 = o_pfI 6 301 (fun x => x) := rfl
theorem lk_44_30 : (zPr L xs).1 44 30 = o_vret := rfl
theorem lk_45_0 : (zPr L xs).1 45 0 = o_push (.int (0)) 1 := rfl
theorem lk_45_1 : (zPr L xs).1 45 1 = o_istore 2 1 := rfl
theorem lk_45_2 : (zPr L xs).1 45 2 = o_iload 2 1 := rfl
theorem lk_45_3 : (zPr L xs).1 45 3 = o_aload 1 1 := rfl
theorem lk_45_4 : (zPr L xs).1 45 4 = o_cv 3 0 1 1 41 := rfl
theorem lk_45_7 : (zPr L xs).1 45 7 = o_icge 25 := rfl
theorem lk_45_10 : (zPr L xs).1 45 10 = o_aload 0 1 := rfl
theorem lk_45_11 : (zPr L xs).1 45 11 = o_aload 1 1 := rfl
theorem lk_45_12 : (zPr L xs).1 45 12 = o_iload 2 1 := rfl
theorem lk_45_13 : (zPr L xs).1 45 13 = o_cv 4 1 2 1 41 := rfl
theorem lk_45_16 : (zPr L xs).1 45 16 = o_cv 44 1 2 6 6 := rfl
theorem lk_45_19 : (zPr L xs).1 45 19 = o_iinc 2 (1) := rfl
theorem lk_45_22 : (zPr L xs).1 45 22 = o_goto 2 := rfl
theorem lk_45_25 : (zPr L xs).1 45 25 = o_vret := rfl
theorem lk_46_0 : (zPr L xs).1 46 0 = o_push (.int (1000000000)) 2 := rfl
theorem lk_46_2 : (zPr L xs).1 46 2 = o_istore 2 1 := rfl
theorem lk_46_3 : (zPr L xs).1 46 3 = o_iload 2 1 := rfl
theorem lk_46_4 : (zPr L xs).1 46 4 = o_ifle 39 := rfl
theorem lk_46_7 : (zPr L xs).1 46 7 = o_iload 1 1 := rfl
theorem lk_46_8 : (zPr L xs).1 46 8 = o_iload 2 1 := rfl
theorem lk_46_9 : (zPr L xs).1 46 9 = o_icge 17 := rfl
theorem lk_46_12 : (zPr L xs).1 46 12 = o_iload 2 1 := rfl
theorem lk_46_13 : (zPr L xs).1 46 13 = o_push (.int (1)) 1 := rfl
theorem lk_46_14 : (zPr L xs).1 46 14 = o_icne 31 := rfl
theorem lk_46_17 : (zPr L xs).1 46 17 = o_aload 0 1 := rfl
theorem lk_46_18 : (zPr L xs).1 46 18 = o_push (.int (48)) 2 := rfl
theorem lk_46_20 : (zPr L xs).1 46 20 = o_iload 1 1 := rfl
theorem lk_46_21 : (zPr L xs).1 46 21 = o_iload 2 1 := rfl
theorem lk_46_22 : (zPr L xs).1 46 22 = o_dop (fun x y => x / y) := rfl
theorem lk_46_23 : (zPr L xs).1 46 23 = o_push (.int (10)) 2 := rfl
theorem lk_46_25 : (zPr L xs).1 46 25 = o_dop (fun x y => x - x / y * y) := rfl
theorem lk_46_26 : (zPr L xs).1 46 26 = o_iop (fun x y => x + y) := rfl
theorem lk_46_27 : (zPr L xs).1 46 27 = o_iun (fun x => (x.toUInt32 % 65536).toInt32) := rfl
theorem lk_46_28 : (zPr L xs).1 46 28 = o_cv 44 1 2 6 6 := rfl
theorem lk_46_31 : (zPr L xs).1 46 31 = o_iload 2 1 := rfl
theorem lk_46_32 : (zPr L xs).1 46 32 = o_push (.int (10)) 2 := rfl
theorem lk_46_34 : (zPr L xs).1 46 34 = o_dop (fun x y => x / y) := rfl
theorem lk_46_35 : (zPr L xs).1 46 35 = o_istore 2 1 := rfl
theorem lk_46_36 : (zPr L xs).1 46 36 = o_goto 3 := rfl
theorem lk_46_39 : (zPr L xs).1 46 39 = o_vret := rfl
theorem lk_47_0 : (zPr L xs).1 47 0 = o_aload 0 1 := rfl
theorem lk_47_1 : (zPr L xs).1 47 1 = o_kref 31 41 2 := rfl
theorem lk_47_3 : (zPr L xs).1 47 3 = o_cv 45 1 3 6 6 := rfl
theorem lk_47_6 : (zPr L xs).1 47 6 = o_aload 0 1 := rfl
theorem lk_47_7 : (zPr L xs).1 47 7 = o_iload 1 1 := rfl
theorem lk_47_8 : (zPr L xs).1 47 8 = o_cv 46 1 3 6 6 := rfl
theorem lk_47_11 : (zPr L xs).1 47 11 = o_aload 0 1 := rfl
theorem lk_47_12 : (zPr L xs).1 47 12 = o_aload 2 1 := rfl
theorem lk_47_13 : (zPr L xs).1 47 13 = o_cv 45 1 3 6 6 := rfl
theorem lk_47_16 : (zPr L xs).1 47 16 = o_vret := rfl
theorem lk_48_0 : (zPr L xs).1 48 0 = o_aload 0 1 := rfl
theorem lk_48_1 : (zPr L xs).1 48 1 = o_iload 1 1 := rfl
theorem lk_48_2 : (zPr L xs).1 48 2 = o_aload 2 1 := rfl
theorem lk_48_3 : (zPr L xs).1 48 3 = o_cv 47 2 3 6 6 := rfl
theorem lk_48_6 : (zPr L xs).1 48 6 = o_aload 0 1 := rfl
theorem lk_48_7 : (zPr L xs).1 48 7 = o_push (.int (10)) 2 := rfl
theorem lk_48_9 : (zPr L xs).1 48 9 = o_cv 44 1 2 6 6 := rfl
theorem lk_48_12 : (zPr L xs).1 48 12 = o_vret := rfl
theorem lk_49_0 : (zPr L xs).1 49 0 = o_aload 0 1 := rfl
theorem lk_49_1 : (zPr L xs).1 49 1 = o_push (.int (40)) 2 := rfl
theorem lk_49_3 : (zPr L xs).1 49 3 = o_cv 44 1 2 6 6 := rfl
theorem lk_49_6 : (zPr L xs).1 49 6 = o_push (.int (0)) 1 := rfl
theorem lk_49_7 : (zPr L xs).1 49 7 = o_istore 2 1 := rfl
theorem lk_49_8 : (zPr L xs).1 49 8 = o_iload 2 1 := rfl
theorem lk_49_9 : (zPr L xs).1 49 9 = o_kref 35 41 2 := rfl
theorem lk_49_11 : (zPr L xs).1 49 11 = o_cv 3 0 1 1 41 := rfl
theorem lk_49_14 : (zPr L xs).1 49 14 = o_icge 41 := rfl
theorem lk_49_17 : (zPr L xs).1 49 17 = o_iload 1 1 := rfl
theorem lk_49_18 : (zPr L xs).1 49 18 = o_iload 2 1 := rfl
theorem lk_49_19 : (zPr L xs).1 49 19 = o_iop (fun x y => x >>> (y &&& 31)) := rfl
theorem lk_49_20 : (zPr L xs).1 49 20 = o_push (.int (1)) 1 := rfl
theorem lk_49_21 : (zPr L xs).1 49 21 = o_iop (fun x y => x &&& y) := rfl
theorem lk_49_22 : (zPr L xs).1 49 22 = o_ifeq 35 := rfl
theorem lk_49_25 : (zPr L xs).1 49 25 = o_aload 0 1 := rfl
theorem lk_49_26 : (zPr L xs).1 49 26 = o_kref 35 41 2 := rfl
theorem lk_49_28 : (zPr L xs).1 49 28 = o_iload 2 1 := rfl
theorem lk_49_29 : (zPr L xs).1 49 29 = o_cv 4 1 2 1 41 := rfl
theorem lk_49_32 : (zPr L xs).1 49 32 = o_cv 44 1 2 6 6 := rfl
theorem lk_49_35 : (zPr L xs).1 49 35 = o_iinc 2 (1) := rfl
theorem lk_49_38 : (zPr L xs).1 49 38 = o_goto 8 := rfl
theorem lk_49_41 : (zPr L xs).1 49 41 = o_aload 0 1 := rfl
theorem lk_49_42 : (zPr L xs).1 49 42 = o_push (.int (41)) 2 := rfl
theorem lk_49_44 : (zPr L xs).1 49 44 = o_cv 44 1 2 6 6 := rfl
theorem lk_49_47 : (zPr L xs).1 49 47 = o_vret := rfl
theorem lk_50_0 : (zPr L xs).1 50 0 = o_aload 0 1 := rfl
theorem lk_50_1 : (zPr L xs).1 50 1 = o_oini := rfl
theorem lk_50_4 : (zPr L xs).1 50 4 = o_aload 0 1 := rfl
theorem lk_50_5 : (zPr L xs).1 50 5 = o_push (.int (48)) 2 := rfl
theorem lk_50_7 : (zPr L xs).1 50 7 = o_newa 22 2 := rfl
theorem lk_50_9 : (zPr L xs).1 50 9 = o_pfR 7 350 := rfl
theorem lk_50_12 : (zPr L xs).1 50 12 = o_aload 0 1 := rfl
theorem lk_50_13 : (zPr L xs).1 50 13 = o_new 6 2 := rfl
theorem lk_50_16 : (zPr L xs).1 50 16 = o_dup := rfl
theorem lk_50_17 : (zPr L xs).1 50 17 = o_cv 43 0 1 6 6 := rfl
theorem lk_50_20 : (zPr L xs).1 50 20 = o_pfR 7 351 := rfl
theorem lk_50_23 : (zPr L xs).1 50 23 = o_aload 0 1 := rfl
theorem lk_50_24 : (zPr L xs).1 50 24 = o_new 8 4 := rfl
theorem lk_50_27 : (zPr L xs).1 50 27 = o_dup := rfl
theorem lk_50_28 : (zPr L xs).1 50 28 = o_cv 61 0 1 8 8 := rfl
theorem lk_50_31 : (zPr L xs).1 50 31 = o_pfR 7 352 := rfl
theorem lk_50_34 : (zPr L xs).1 50 34 = o_vret := rfl
theorem lk_51_0 : (zPr L xs).1 51 0 = o_aload 0 1 := rfl
theorem lk_51_1 : (zPr L xs).1 51 1 = o_aload 1 1 := rfl
theorem lk_51_2 : (zPr L xs).1 51 2 = o_pfR 7 355 := rfl
theorem lk_51_5 : (zPr L xs).1 51 5 = o_aload 0 1 := rfl
theorem lk_51_6 : (zPr L xs).1 51 6 = o_iload 2 1 := rfl
theorem lk_51_7 : (zPr L xs).1 51 7 = o_pfI 7 356 (fun x => x &&& 1) := rfl
theorem lk_51_10 : (zPr L xs).1 51 10 = o_aload 0 1 := rfl
theorem lk_51_11 : (zPr L xs).1 51 11 = o_gfR 7 352 := rfl
theorem lk_51_14 : (zPr L xs).1 51 14 = o_cv 62 0 1 8 8 := rfl
theorem lk_51_17 : (zPr L xs).1 51 17 = o_aload 0 1 := rfl
theorem lk_51_18 : (zPr L xs).1 51 18 = o_gfR 7 352 := rfl
theorem lk_51_21 : (zPr L xs).1 51 21 = o_aload 1 1 := rfl
theorem lk_51_22 : (zPr L xs).1 51 22 = o_cv 63 1 5 8 8 := rfl
theorem lk_51_25 : (zPr L xs).1 51 25 = o_pop := rfl
theorem lk_51_26 : (zPr L xs).1 51 26 = o_aload 0 1 := rfl
theorem lk_51_27 : (zPr L xs).1 51 27 = o_gfR 7 351 := rfl
theorem lk_51_30 : (zPr L xs).1 51 30 = o_aload 1 1 := rfl
theorem lk_51_31 : (zPr L xs).1 51 31 = o_gfI 3 154 := rfl
theorem lk_51_34 : (zPr L xs).1 51 34 = o_kref 30 41 2 := rfl
theorem lk_51_36 : (zPr L xs).1 51 36 = o_cv 48 2 3 6 6 := rfl
theorem lk_51_39 : (zPr L xs).1 51 39 = o_aload 0 1 := rfl
theorem lk_51_40 : (zPr L xs).1 51 40 = o_gfR 7 351 := rfl
theorem lk_51_43 : (zPr L xs).1 51 43 = o_aload 1 1 := rfl
theorem lk_51_44 : (zPr L xs).1 51 44 = o_gfI 3 152 := rfl
theorem lk_51_47 : (zPr L xs).1 51 47 = o_kref 32 41 2 := rfl
theorem lk_51_49 : (zPr L xs).1 51 49 = o_cv 48 2 3 6 6 := rfl
theorem lk_51_52 : (zPr L xs).1 51 52 = o_aload 0 1 := rfl
theorem lk_51_53 : (zPr L xs).1 51 53 = o_gfR 7 351 := rfl
theorem lk_51_56 : (zPr L xs).1 51 56 = o_aload 1 1 := rfl
theorem lk_51_57 : (zPr L xs).1 51 57 = o_gfI 3 153 := rfl
theorem lk_51_60 : (zPr L xs).1 51 60 = o_kref 33 41 2 := rfl
theorem lk_51_62 : (zPr L xs).1 51 62 = o_cv 48 2 3 6 6 := rfl
theorem lk_51_65 : (zPr L xs).1 51 65 = o_vret := rfl
theorem lk_52_0 : (zPr L xs).1 52 0 = o_aload 0 1 := rfl
theorem lk_52_1 : (zPr L xs).1 52 1 = o_push .null 1 := rfl
theorem lk_52_2 : (zPr L xs).1 52 2 = o_pfR 7 355 := rfl
theorem lk_52_5 : (zPr L xs).1 52 5 = o_aload 0 1 := rfl
theorem lk_52_6 : (zPr L xs).1 52 6 = o_push (.int (0)) 1 := rfl
theorem lk_52_7 : (zPr L xs).1 52 7 = o_pfI 7 356 (fun x => x &&& 1) := rfl
theorem lk_52_10 : (zPr L xs).1 52 10 = o_aload 0 1 := rfl
theorem lk_52_11 : (zPr L xs).1 52 11 = o_gfR 7 352 := rfl
theorem lk_52_14 : (zPr L xs).1 52 14 = o_cv 62 0 1 8 8 := rfl
theorem lk_52_17 : (zPr L xs).1 52 17 = o_vret := rfl
theorem lk_53_0 : (zPr L xs).1 53 0 = o_aload 0 1 := rfl
theorem lk_53_1 : (zPr L xs).1 53 1 = o_gfR 7 355 := rfl
theorem lk_53_4 : (zPr L xs).1 53 4 = o_ifnull 21 := rfl
theorem lk_53_7 : (zPr L xs).1 53 7 = o_aload 0 1 := rfl
theorem lk_53_8 : (zPr L xs).1 53 8 = o_gfI 7 356 := rfl
theorem lk_53_11 : (zPr L xs).1 53 11 = o_ifeq 21 := rfl
theorem lk_53_14 : (zPr L xs).1 53 14 = o_aload 0 1 := rfl
theorem lk_53_15 : (zPr L xs).1 53 15 = o_gfR 7 355 := rfl
theorem lk_53_18 : (zPr L xs).1 53 18 = o_cv 22 0 4 3 3 := rfl
theorem lk_53_21 : (zPr L xs).1 53 21 = o_vret := rfl
theorem lk_54_0 : (zPr L xs).1 54 0 = o_push (.int (0)) 1 := rfl
theorem lk_54_1 : (zPr L xs).1 54 1 = o_istore 2 1 := rfl
theorem lk_54_2 : (zPr L xs).1 54 2 = o_iload 2 1 := rfl
theorem lk_54_3 : (zPr L xs).1 54 3 = o_aload 0 1 := rfl
theorem lk_54_4 : (zPr L xs).1 54 4 = o_gfR 7 352 := rfl
theorem lk_54_7 : (zPr L xs).1 54 7 = o_gfI 8 402 := rfl
theorem lk_54_10 : (zPr L xs).1 54 10 = o_icge 105 := rfl
theorem lk_54_13 : (zPr L xs).1 54 13 = o_aload 1 1 := rfl
theorem lk_54_14 : (zPr L xs).1 54 14 = o_gfL 2 108 := rfl
theorem lk_54_17 : (zPr L xs).1 54 17 = o_iload 2 1 := rfl
theorem lk_54_18 : (zPr L xs).1 54 18 = o_sop (fun x y => x >>> (y.toInt64 &&& 63)) := rfl
theorem lk_54_19 : (zPr L xs).1 54 19 = o_push (.long 1) 1 := rfl
theorem lk_54_20 : (zPr L xs).1 54 20 = o_lop (fun x y => x &&& y) := rfl
theorem lk_54_21 : (zPr L xs).1 54 21 = o_push (.long 0) 1 := rfl
theorem lk_54_22 : (zPr L xs).1 54 22 = o_lcmp := rfl
theorem lk_54_23 : (zPr L xs).1 54 23 = o_ifeq 99 := rfl
theorem lk_54_26 : (zPr L xs).1 54 26 = o_aload 0 1 := rfl
theorem lk_54_27 : (zPr L xs).1 54 27 = o_gfR 7 352 := rfl
theorem lk_54_30 : (zPr L xs).1 54 30 = o_gfR 8 400 := rfl
theorem lk_54_33 : (zPr L xs).1 54 33 = o_iload 2 1 := rfl
theorem lk_54_34 : (zPr L xs).1 54 34 = o_aald 31 := rfl
theorem lk_54_35 : (zPr L xs).1 54 35 = o_astore 3 1 := rfl
theorem lk_54_36 : (zPr L xs).1 54 36 = o_aload 1 1 := rfl
theorem lk_54_37 : (zPr L xs).1 54 37 = o_gfI 2 106 := rfl
theorem lk_54_40 : (zPr L xs).1 54 40 = o_push (.int (1)) 1 := rfl
theorem lk_54_41 : (zPr L xs).1 54 41 = o_icne 60 := rfl
theorem lk_54_44 : (zPr L xs).1 54 44 = o_aload 3 1 := rfl
theorem lk_54_45 : (zPr L xs).1 54 45 = o_dup := rfl
theorem lk_54_46 : (zPr L xs).1 54 46 = o_gfI 4 202 := rfl
theorem lk_54_49 : (zPr L xs).1 54 49 = o_aload 1 1 := rfl
theorem lk_54_50 : (zPr L xs).1 54 50 = o_gfI 2 104 := rfl
theorem lk_54_53 : (zPr L xs).1 54 53 = o_iop (fun x y => x ||| y) := rfl
theorem lk_54_54 : (zPr L xs).1 54 54 = o_pfI 4 202 (fun x => x) := rfl
theorem lk_54_57 : (zPr L xs).1 54 57 = o_goto 94 := rfl
theorem lk_54_60 : (zPr L xs).1 54 60 = o_aload 1 1 := rfl
theorem lk_54_61 : (zPr L xs).1 54 61 = o_gfI 2 106 := rfl
theorem lk_54_64 : (zPr L xs).1 54 64 = o_push (.int (2)) 1 := rfl
theorem lk_54_65 : (zPr L xs).1 54 65 = o_icne 86 := rfl
theorem lk_54_68 : (zPr L xs).1 54 68 = o_aload 3 1 := rfl
theorem lk_54_69 : (zPr L xs).1 54 69 = o_dup := rfl
theorem lk_54_70 : (zPr L xs).1 54 70 = o_gfI 4 202 := rfl
theorem lk_54_73 : (zPr L xs).1 54 73 = o_aload 1 1 := rfl
theorem lk_54_74 : (zPr L xs).1 54 74 = o_gfI 2 104 := rfl
theorem lk_54_77 : (zPr L xs).1 54 77 = o_push (.int (-1)) 1 := rfl
theorem lk_54_78 : (zPr L xs).1 54 78 = o_iop (fun x y => x ^^^ y) := rfl
theorem lk_54_79 : (zPr L xs).1 54 79 = o_iop (fun x y => x &&& y) := rfl
theorem lk_54_80 : (zPr L xs).1 54 80 = o_pfI 4 202 (fun x => x) := rfl
theorem lk_54_83 : (zPr L xs).1 54 83 = o_goto 94 := rfl
theorem lk_54_86 : (zPr L xs).1 54 86 = o_aload 3 1 := rfl
theorem lk_54_87 : (zPr L xs).1 54 87 = o_aload 1 1 := rfl
theorem lk_54_88 : (zPr L xs).1 54 88 = o_gfI 2 104 := rfl
theorem lk_54_91 : (zPr L xs).1 54 91 = o_pfI 4 202 (fun x => x) := rfl
theorem lk_54_94 : (zPr L xs).1 54 94 = o_aload 0 1 := rfl
theorem lk_54_95 : (zPr L xs).1 54 95 = o_iload 2 1 := rfl
theorem lk_54_96 : (zPr L xs).1 54 96 = o_cv 60 1 2 7 7 := rfl
theorem lk_54_99 : (zPr L xs).1 54 99 = o_iinc 2 (1) := rfl
theorem lk_54_102 : (zPr L xs).1 54 102 = o_goto 2 := rfl
theorem lk_54_105 : (zPr L xs).1 54 105 = o_vret := rfl
theorem lk_55_0 : (zPr L xs).1 55 0 = o_push (.int (0)) 1 := rfl
theorem lk_55_1 : (zPr L xs).1 55 1 = o_istore 2 1 := rfl
theorem lk_55_2 : (zPr L xs).1 55 2 = o_iload 2 1 := rfl
theorem lk_55_3 : (zPr L xs).1 55 3 = o_aload 0 1 := rfl
theorem lk_55_4 : (zPr L xs).1 55 4 = o_gfR 7 352 := rfl
theorem lk_55_7 : (zPr L xs).1 55 7 = o_gfI 8 402 := rfl
theorem lk_55_10 : (zPr L xs).1 55 10 = o_icge 152 := rfl
theorem lk_55_13 : (zPr L xs).1 55 13 = o_aload 1 1 := rfl
theorem lk_55_14 : (zPr L xs).1 55 14 = o_gfL 2 108 := rfl
theorem lk_55_17 : (zPr L xs).1 55 17 = o_iload 2 1 := rfl
theorem lk_55_18 : (zPr L xs).1 55 18 = o_sop (fun x y => x >>> (y.toInt64 &&& 63)) := rfl
theorem lk_55_19 : (zPr L xs).1 55 19 = o_push (.long 1) 1 := rfl
theorem lk_55_20 : (zPr L xs).1 55 20 = o_lop (fun x y => x &&& y) := rfl
theorem lk_55_21 : (zPr L xs).1 55 21 = o_push (.long 0) 1 := rfl
theorem lk_55_22 : (zPr L xs).1 55 22 = o_lcmp := rfl
theorem lk_55_23 : (zPr L xs).1 55 23 = o_ifne 29 := rfl
theorem lk_55_26 : (zPr L xs).1 55 26 = o_goto 146 := rfl
theorem lk_55_29 : (zPr L xs).1 55 29 = o_aload 0 1 := rfl
theorem lk_55_30 : (zPr L xs).1 55 30 = o_gfR 7 352 := rfl
theorem lk_55_33 : (zPr L xs).1 55 33 = o_gfR 8 400 := rfl
theorem lk_55_36 : (zPr L xs).1 55 36 = o_iload 2 1 := rfl
theorem lk_55_37 : (zPr L xs).1 55 37 = o_aald 31 := rfl
theorem lk_55_38 : (zPr L xs).1 55 38 = o_astore 3 1 := rfl
theorem lk_55_39 : (zPr L xs).1 55 39 = o_aload 1 1 := rfl
theorem lk_55_40 : (zPr L xs).1 55 40 = o_gfI 2 107 := rfl
theorem lk_55_43 : (zPr L xs).1 55 43 = o_ifne 54 := rfl
theorem lk_55_46 : (zPr L xs).1 55 46 = o_aload 0 1 := rfl
theorem lk_55_47 : (zPr L xs).1 55 47 = o_iload 2 1 := rfl
theorem lk_55_48 : (zPr L xs).1 55 48 = o_cv 60 1 2 7 7 := rfl
theorem lk_55_51 : (zPr L xs).1 55 51 = o_goto 146 := rfl
theorem lk_55_54 : (zPr L xs).1 55 54 = o_aload 1 1 := rfl
theorem lk_55_55 : (zPr L xs).1 55 55 = o_gfI 2 107 := rfl
theorem lk_55_58 : (zPr L xs).1 55 58 = o_push (.int (1)) 1 := rfl
theorem lk_55_59 : (zPr L xs).1 55 59 = o_icne 97 := rfl
theorem lk_55_62 : (zPr L xs).1 55 62 = o_aload 0 1 := rfl
theorem lk_55_63 : (zPr L xs).1 55 63 = o_gfR 7 351 := rfl
theorem lk_55_66 : (zPr L xs).1 55 66 = o_iload 2 1 := rfl
theorem lk_55_67 : (zPr L xs).1 55 67 = o_push (.int (1)) 1 := rfl
theorem lk_55_68 : (zPr L xs).1 55 68 = o_iop (fun x y => x + y) := rfl
theorem lk_55_69 : (zPr L xs).1 55 69 = o_kref 34 41 2 := rfl
theorem lk_55_71 : (zPr L xs).1 55 71 = o_cv 47 2 3 6 6 := rfl
theorem lk_55_74 : (zPr L xs).1 55 74 = o_aload 0 1 := rfl
theorem lk_55_75 : (zPr L xs).1 55 75 = o_gfR 7 351 := rfl
theorem lk_55_78 : (zPr L xs).1 55 78 = o_aload 3 1 := rfl
theorem lk_55_79 : (zPr L xs).1 55 79 = o_gfI 4 200 := rfl
theorem lk_55_82 : (zPr L xs).1 55 82 = o_cv 46 1 3 6 6 := rfl
theorem lk_55_85 : (zPr L xs).1 55 85 = o_aload 0 1 := rfl
theorem lk_55_86 : (zPr L xs).1 55 86 = o_gfR 7 351 := rfl
theorem lk_55_89 : (zPr L xs).1 55 89 = o_push (.int (10)) 2 := rfl
theorem lk_55_91 : (zPr L xs).1 55 91 = o_cv 44 1 2 6 6 := rfl
theorem lk_55_94 : (zPr L xs).1 55 94 = o_goto 146 := rfl
theorem lk_55_97 : (zPr L xs).1 55 97 = o_aload 0 1 := rfl
theorem lk_55_98 : (zPr L xs).1 55 98 = o_gfR 7 351 := rfl
theorem lk_55_101 : (zPr L xs).1 55 101 = o_iload 2 1 := rfl
theorem lk_55_102 : (zPr L xs).1 55 102 = o_push (.int (1)) 1 := rfl
theorem lk_55_103 : (zPr L xs).1 55 103 = o_iop (fun x y => x + y) := rfl
theorem lk_55_104 : (zPr L xs).1 55 104 = o_kref 34 41 2 := rfl
theorem lk_55_106 : (zPr L xs).1 55 106 = o_cv 47 2 3 6 6 := rfl
theorem lk_55_109 : (zPr L xs).1 55 109 = o_aload 0 1 := rfl
theorem lk_55_110 : (zPr L xs).1 55 110 = o_gfR 7 351 := rfl
theorem lk_55_113 : (zPr L xs).1 55 113 = o_aload 3 1 := rfl
theorem lk_55_114 : (zPr L xs).1 55 114 = o_gfR 4 201 := rfl
theorem lk_55_117 : (zPr L xs).1 55 117 = o_cv 45 1 3 6 6 := rfl
theorem lk_55_120 : (zPr L xs).1 55 120 = o_aload 0 1 := rfl
theorem lk_55_121 : (zPr L xs).1 55 121 = o_gfR 7 351 := rfl
theorem lk_55_124 : (zPr L xs).1 55 124 = o_push (.int (10)) 2 := rfl
theorem lk_55_126 : (zPr L xs).1 55 126 = o_cv 44 1 2 6 6 := rfl
theorem lk_55_129 : (zPr L xs).1 55 129 = o_aload 0 1 := rfl
theorem lk_55_130 : (zPr L xs).1 55 130 = o_gfI 7 356 := rfl
theorem lk_55_133 : (zPr L xs).1 55 133 = o_ifeq 146 := rfl
theorem lk_55_136 : (zPr L xs).1 55 136 = o_aload 3 1 := rfl
theorem lk_55_137 : (zPr L xs).1 55 137 = o_dup := rfl
theorem lk_55_138 : (zPr L xs).1 55 138 = o_gfI 4 202 := rfl
theorem lk_55_141 : (zPr L xs).1 55 141 = o_push (.int (1)) 1 := rfl
theorem lk_55_142 : (zPr L xs).1 55 142 = o_iop (fun x y => x ||| y) := rfl
theorem lk_55_143 : (zPr L xs).1 55 143 = o_pfI 4 202 (fun x => x) := rfl
theorem lk_55_146 : (zPr L xs).1 55 146 = o_iinc 2 (1) := rfl
theorem lk_55_149 : (zPr L xs).1 55 149 = o_goto 2 := rfl
theorem lk_55_152 : (zPr L xs).1 55 152 = o_vret := rfl
theorem lk_56_0 : (zPr L xs).1 56 0 = o_push (.int (0)) 1 := rfl
theorem lk_56_1 : (zPr L xs).1 56 1 = o_istore 4 2 := rfl
theorem lk_56_3 : (zPr L xs).1 56 3 = o_iload 4 2 := rfl
theorem lk_56_5 : (zPr L xs).1 56 5 = o_aload 0 1 := rfl
theorem lk_56_6 : (zPr L xs).1 56 6 = o_gfR 7 352 := rfl
theorem lk_56_9 : (zPr L xs).1 56 9 = o_gfI 8 402 := rfl
theorem lk_56_12 : (zPr L xs).1 56 12 = o_icge 62 := rfl
theorem lk_56_15 : (zPr L xs).1 56 15 = o_lload 1 1 := rfl
theorem lk_56_16 : (zPr L xs).1 56 16 = o_iload 4 2 := rfl
theorem lk_56_18 : (zPr L xs).1 56 18 = o_sop (fun x y => x >>> (y.toInt64 &&& 63)) := rfl
theorem lk_56_19 : (zPr L xs).1 56 19 = o_push (.long 1) 1 := rfl
theorem lk_56_20 : (zPr L xs).1 56 20 = o_lop (fun x y => x &&& y) := rfl
theorem lk_56_21 : (zPr L xs).1 56 21 = o_push (.long 0) 1 := rfl
theorem lk_56_22 : (zPr L xs).1 56 22 = o_lcmp := rfl
theorem lk_56_23 : (zPr L xs).1 56 23 = o_ifeq 56 := rfl
theorem lk_56_26 : (zPr L xs).1 56 26 = o_aload 3 1 := rfl
theorem lk_56_27 : (zPr L xs).1 56 27 = o_aload 0 1 := rfl
theorem lk_56_28 : (zPr L xs).1 56 28 = o_gfR 7 352 := rfl
theorem lk_56_31 : (zPr L xs).1 56 31 = o_gfR 8 400 := rfl
theorem lk_56_34 : (zPr L xs).1 56 34 = o_iload 4 2 := rfl
theorem lk_56_36 : (zPr L xs).1 56 36 = o_aald 31 := rfl
theorem lk_56_37 : (zPr L xs).1 56 37 = o_gfI 4 202 := rfl
theorem lk_56_40 : (zPr L xs).1 56 40 = o_aload 0 1 := rfl
theorem lk_56_41 : (zPr L xs).1 56 41 = o_gfR 7 352 := rfl
theorem lk_56_44 : (zPr L xs).1 56 44 = o_gfR 8 400 := rfl
theorem lk_56_47 : (zPr L xs).1 56 47 = o_iload 4 2 := rfl
theorem lk_56_49 : (zPr L xs).1 56 49 = o_aald 31 := rfl
theorem lk_56_50 : (zPr L xs).1 56 50 = o_gfR 4 201 := rfl
theorem lk_56_53 : (zPr L xs).1 56 53 = o_cv 21 2 3 3 3 := rfl
theorem lk_56_56 : (zPr L xs).1 56 56 = o_iinc 4 (1) := rfl
theorem lk_56_59 : (zPr L xs).1 56 59 = o_goto 3 := rfl
theorem lk_56_62 : (zPr L xs).1 56 62 = o_vret := rfl
theorem lk_57_0 : (zPr L xs).1 57 0 = o_aload 0 1 := rfl
theorem lk_57_1 : (zPr L xs).1 57 1 = o_gfR 7 351 := rfl
theorem lk_57_4 : (zPr L xs).1 57 4 = o_kref 36 41 2 := rfl
theorem lk_57_6 : (zPr L xs).1 57 6 = o_cv 45 1 3 6 6 := rfl
theorem lk_57_9 : (zPr L xs).1 57 9 = o_push (.int (0)) 1 := rfl
theorem lk_57_10 : (zPr L xs).1 57 10 = o_istore 2 1 := rfl
theorem lk_57_11 : (zPr L xs).1 57 11 = o_iload 2 1 := rfl
theorem lk_57_12 : (zPr L xs).1 57 12 = o_aload 0 1 := rfl
theorem lk_57_13 : (zPr L xs).1 57 13 = o_gfR 7 352 := rfl
theorem lk_57_16 : (zPr L xs).1 57 16 = o_gfI 8 402 := rfl
theorem lk_57_19 : (zPr L xs).1 57 19 = o_icge 82 := rfl
theorem lk_57_22 : (zPr L xs).1 57 22 = o_aload 1 1 := rfl
theorem lk_57_23 : (zPr L xs).1 57 23 = o_gfL 2 108 := rfl
theorem lk_57_26 : (zPr L xs).1 57 26 = o_iload 2 1 := rfl
theorem lk_57_27 : (zPr L xs).1 57 27 = o_sop (fun x y => x >>> (y.toInt64 &&& 63)) := rfl
theorem lk_57_28 : (zPr L xs).1 57 28 = o_push (.long 1) 1 := rfl
theorem lk_57_29 : (zPr L xs).1 57 29 = o_lop (fun x y => x &&& y) := rfl
theorem lk_57_30 : (zPr L xs).1 57 30 = o_push (.long 0) 1 := rfl
theorem lk_57_31 : (zPr L xs).1 57 31 = o_lcmp := rfl
theorem lk_57_32 : (zPr L xs).1 57 32 = o_ifeq 76 := rfl
theorem lk_57_35 : (zPr L xs).1 57 35 = o_aload 0 1 := rfl
theorem lk_57_36 : (zPr L xs).1 57 36 = o_gfR 7 351 := rfl
theorem lk_57_39 : (zPr L xs).1 57 39 = o_push (.int (32)) 2 := rfl
theorem lk_57_41 : (zPr L xs).1 57 41 = o_cv 44 1 2 6 6 := rfl
theorem lk_57_44 : (zPr L xs).1 57 44 = o_aload 0 1 := rfl
theorem lk_57_45 : (zPr L xs).1 57 45 = o_gfR 7 351 := rfl
theorem lk_57_48 : (zPr L xs).1 57 48 = o_aload 1 1 := rfl
theorem lk_57_49 : (zPr L xs).1 57 49 = o_gfI 2 102 := rfl
theorem lk_57_52 : (zPr L xs).1 57 52 = o_ifeq 70 := rfl
theorem lk_57_55 : (zPr L xs).1 57 55 = o_aload 0 1 := rfl
theorem lk_57_56 : (zPr L xs).1 57 56 = o_gfR 7 352 := rfl
theorem lk_57_59 : (zPr L xs).1 57 59 = o_gfR 8 400 := rfl
theorem lk_57_62 : (zPr L xs).1 57 62 = o_iload 2 1 := rfl
theorem lk_57_63 : (zPr L xs).1 57 63 = o_aald 31 := rfl
theorem lk_57_64 : (zPr L xs).1 57 64 = o_gfI 4 200 := rfl
theorem lk_57_67 : (zPr L xs).1 57 67 = o_goto 73 := rfl
theorem lk_57_70 : (zPr L xs).1 57 70 = o_iload 2 1 := rfl
theorem lk_57_71 : (zPr L xs).1 57 71 = o_push (.int (1)) 1 := rfl
theorem lk_57_72 : (zPr L xs).1 57 72 = o_iop (fun x y => x + y) := rfl
theorem lk_57_73 : (zPr L xs).1 57 73 = o_cv 46 1 3 6 6 := rfl
theorem lk_57_76 : (zPr L xs).1 57 76 = o_iinc 2 (1) := rfl
theorem lk_57_79 : (zPr L xs).1 57 79 = o_goto 11 := rfl
theorem lk_57_82 : (zPr L xs).1 57 82 = o_aload 0 1 := rfl
theorem lk_57_83 : (zPr L xs).1 57 83 = o_gfR 7 351 := rfl
theorem lk_57_86 : (zPr L xs).1 57 86 = o_push (.int (10)) 2 := rfl
theorem lk_57_88 : (zPr L xs).1 57 88 = o_cv 44 1 2 6 6 := rfl
theorem lk_57_91 : (zPr L xs).1 57 91 = o_vret := rfl
theorem lk_58_0 : (zPr L xs).1 58 0 = o_aload 0 1 := rfl
theorem lk_58_1 : (zPr L xs).1 58 1 = o_gfR 7 355 := rfl
theorem lk_58_4 : (zPr L xs).1 58 4 = o_ifnon 8 := rfl
theorem lk_58_7 : (zPr L xs).1 58 7 = o_vret := rfl
theorem lk_58_8 : (zPr L xs).1 58 8 = o_iload 1 1 := rfl
theorem lk_58_9 : (zPr L xs).1 58 9 = o_ifeq 16 := rfl
theorem lk_58_12 : (zPr L xs).1 58 12 = o_aload 0 1 := rfl
theorem lk_58_13 : (zPr L xs).1 58 13 = o_cv 59 0 3 7 7 := rfl
theorem lk_58_16 : (zPr L xs).1 58 16 = o_aload 0 1 := rfl
theorem lk_58_17 : (zPr L xs).1 58 17 = o_gfR 7 352 := rfl
theorem lk_58_20 : (zPr L xs).1 58 20 = o_aload 0 1 := rfl
theorem lk_58_21 : (zPr L xs).1 58 21 = o_gfR 7 355 := rfl
theorem lk_58_24 : (zPr L xs).1 58 24 = o_cv 63 1 5 8 8 := rfl
theorem lk_58_27 : (zPr L xs).1 58 27 = o_ifeq 46 := rfl
theorem lk_58_30 : (zPr L xs).1 58 30 = o_aload 0 1 := rfl
theorem lk_58_31 : (zPr L xs).1 58 31 = o_gfR 7 351 := rfl
theorem lk_58_34 : (zPr L xs).1 58 34 = o_aload 0 1 := rfl
theorem lk_58_35 : (zPr L xs).1 58 35 = o_gfR 7 352 := rfl
theorem lk_58_38 : (zPr L xs).1 58 38 = o_gfI 8 402 := rfl
theorem lk_58_41 : (zPr L xs).1 58 41 = o_kref 30 41 2 := rfl
theorem lk_58_43 : (zPr L xs).1 58 43 = o_cv 48 2 3 6 6 := rfl
theorem lk_58_46 : (zPr L xs).1 58 46 = o_push (.int (0)) 1 := rfl
theorem lk_58_47 : (zPr L xs).1 58 47 = o_istore 2 1 := rfl
theorem lk_58_48 : (zPr L xs).1 58 48 = o_iload 2 1 := rfl
theorem lk_58_49 : (zPr L xs).1 58 49 = o_aload 0 1 := rfl
theorem lk_58_50 : (zPr L xs).1 58 50 = o_gfR 7 352 := rfl
theorem lk_58_53 : (zPr L xs).1 58 53 = o_gfI 8 402 := rfl
theorem lk_58_56 : (zPr L xs).1 58 56 = o_icge 109 := rfl
theorem lk_58_59 : (zPr L xs).1 58 59 = o_aload 0 1 := rfl
theorem lk_58_60 : (zPr L xs).1 58 60 = o_gfR 7 352 := rfl
theorem lk_58_63 : (zPr L xs).1 58 63 = o_gfR 8 400 := rfl
theorem lk_58_66 : (zPr L xs).1 58 66 = o_iload 2 1 := rfl
theorem lk_58_67 : (zPr L xs).1 58 67 = o_aald 31 := rfl
theorem lk_58_68 : (zPr L xs).1 58 68 = o_gfI 4 203 := rfl
theorem lk_58_71 : (zPr L xs).1 58 71 = o_ifne 103 := rfl
theorem lk_58_74 : (zPr L xs).1 58 74 = o_aload 0 1 := rfl
theorem lk_58_75 : (zPr L xs).1 58 75 = o_gfR 7 352 := rfl
theorem lk_58_78 : (zPr L xs).1 58 78 = o_gfR 8 400 := rfl
theorem lk_58_81 : (zPr L xs).1 58 81 = o_iload 2 1 := rfl
theorem lk_58_82 : (zPr L xs).1 58 82 = o_aald 31 := rfl
theorem lk_58_83 : (zPr L xs).1 58 83 = o_gfI 4 202 := rfl
theorem lk_58_86 : (zPr L xs).1 58 86 = o_aload 0 1 := rfl
theorem lk_58_87 : (zPr L xs).1 58 87 = o_gfR 7 352 := rfl
theorem lk_58_90 : (zPr L xs).1 58 90 = o_gfR 8 401 := rfl
theorem lk_58_93 : (zPr L xs).1 58 93 = o_iload 2 1 := rfl
theorem lk_58_94 : (zPr L xs).1 58 94 = o_xald 20 := rfl
theorem lk_58_95 : (zPr L xs).1 58 95 = o_iceq 103 := rfl
theorem lk_58_98 : (zPr L xs).1 58 98 = o_aload 0 1 := rfl
theorem lk_58_99 : (zPr L xs).1 58 99 = o_iload 2 1 := rfl
theorem lk_58_100 : (zPr L xs).1 58 100 = o_cv 60 1 2 7 7 := rfl
theorem lk_58_103 : (zPr L xs).1 58 103 = o_iinc 2 (1) := rfl
theorem lk_58_106 : (zPr L xs).1 58 106 = o_goto 48 := rfl
theorem lk_58_109 : (zPr L xs).1 58 109 = o_vret := rfl
theorem lk_59_0 : (zPr L xs).1 59 0 = o_push (.int (0)) 1 := rfl
theorem lk_59_1 : (zPr L xs).1 59 1 = o_istore 1 1 := rfl
theorem lk_59_2 : (zPr L xs).1 59 2 = o_push (.int (0)) 1 := rfl
theorem lk_59_3 : (zPr L xs).1 59 3 = o_istore 2 1 := rfl
theorem lk_59_4 : (zPr L xs).1 59 4 = o_iload 2 1 := rfl
theorem lk_59_5 : (zPr L xs).1 59 5 = o_aload 0 1 := rfl
theorem lk_59_6 : (zPr L xs).1 59 6 = o_gfR 7 352 := rfl
theorem lk_59_9 : (zPr L xs).1 59 9 = o_gfI 8 402 := rfl
theorem lk_59_12 : (zPr L xs).1 59 12 = o_icge 90 := rfl
theorem lk_59_15 : (zPr L xs).1 59 15 = o_aload 0 1 := rfl
theorem lk_59_16 : (zPr L xs).1 59 16 = o_gfR 7 352 := rfl
theorem lk_59_19 : (zPr L xs).1 59 19 = o_gfR 8 400 := rfl
theorem lk_59_22 : (zPr L xs).1 59 22 = o_iload 2 1 := rfl
theorem lk_59_23 : (zPr L xs).1 59 23 = o_aald 31 := rfl
theorem lk_59_24 : (zPr L xs).1 59 24 = o_gfI 4 203 := rfl
theorem lk_59_27 : (zPr L xs).1 59 27 = o_ifeq 45 := rfl
theorem lk_59_30 : (zPr L xs).1 59 30 = o_aload 0 1 := rfl
theorem lk_59_31 : (zPr L xs).1 59 31 = o_gfR 7 351 := rfl
theorem lk_59_34 : (zPr L xs).1 59 34 = o_iload 1 1 := rfl
theorem lk_59_35 : (zPr L xs).1 59 35 = o_push (.int (1)) 1 := rfl
theorem lk_59_36 : (zPr L xs).1 59 36 = o_iop (fun x y => x + y) := rfl
theorem lk_59_37 : (zPr L xs).1 59 37 = o_kref 37 41 2 := rfl
theorem lk_59_39 : (zPr L xs).1 59 39 = o_cv 48 2 3 6 6 := rfl
theorem lk_59_42 : (zPr L xs).1 59 42 = o_goto 84 := rfl
theorem lk_59_45 : (zPr L xs).1 59 45 = o_aload 0 1 := rfl
theorem lk_59_46 : (zPr L xs).1 59 46 = o_gfR 7 352 := rfl
theorem lk_59_49 : (zPr L xs).1 59 49 = o_gfR 8 400 := rfl
theorem lk_59_52 : (zPr L xs).1 59 52 = o_iload 1 1 := rfl
theorem lk_59_53 : (zPr L xs).1 59 53 = o_aload 0 1 := rfl
theorem lk_59_54 : (zPr L xs).1 59 54 = o_gfR 7 352 := rfl
theorem lk_59_57 : (zPr L xs).1 59 57 = o_gfR 8 400 := rfl
theorem lk_59_60 : (zPr L xs).1 59 60 = o_iload 2 1 := rfl
theorem lk_59_61 : (zPr L xs).1 59 61 = o_aald 31 := rfl
theorem lk_59_62 : (zPr L xs).1 59 62 = o_aast 31 4 := rfl
theorem lk_59_63 : (zPr L xs).1 59 63 = o_aload 0 1 := rfl
theorem lk_59_64 : (zPr L xs).1 59 64 = o_gfR 7 352 := rfl
theorem lk_59_67 : (zPr L xs).1 59 67 = o_gfR 8 401 := rfl
theorem lk_59_70 : (zPr L xs).1 59 70 = o_iload 1 1 := rfl
theorem lk_59_71 : (zPr L xs).1 59 71 = o_aload 0 1 := rfl
theorem lk_59_72 : (zPr L xs).1 59 72 = o_gfR 7 352 := rfl
theorem lk_59_75 : (zPr L xs).1 59 75 = o_gfR 8 401 := rfl
theorem lk_59_78 : (zPr L xs).1 59 78 = o_iload 2 1 := rfl
theorem lk_59_79 : (zPr L xs).1 59 79 = o_xald 20 := rfl
theorem lk_59_80 : (zPr L xs).1 59 80 = o_xast 20 (fun x => x) := rfl
theorem lk_59_81 : (zPr L xs).1 59 81 = o_iinc 1 (1) := rfl
theorem lk_59_84 : (zPr L xs).1 59 84 = o_iinc 2 (1) := rfl
theorem lk_59_87 : (zPr L xs).1 59 87 = o_goto 4 := rfl
theorem lk_59_90 : (zPr L xs).1 59 90 = o_aload 0 1 := rfl
theorem lk_59_91 : (zPr L xs).1 59 91 = o_gfR 7 352 := rfl
theorem lk_59_94 : (zPr L xs).1 59 94 = o_iload 1 1 := rfl
theorem lk_59_95 : (zPr L xs).1 59 95 = o_pfI 8 402 (fun x => x) := rfl
theorem lk_59_98 : (zPr L xs).1 59 98 = o_vret := rfl
theorem lk_60_0 : (zPr L xs).1 60 0 = o_aload 0 1 := rfl
theorem lk_60_1 : (zPr L xs).1 60 1 = o_gfR 7 352 := rfl
theorem lk_60_4 : (zPr L xs).1 60 4 = o_gfR 8 401 := rfl
theorem lk_60_7 : (zPr L xs).1 60 7 = o_iload 1 1 := rfl
theorem lk_60_8 : (zPr L xs).1 60 8 = o_aload 0 1 := rfl
theorem lk_60_9 : (zPr L xs).1 60 9 = o_gfR 7 352 := rfl
theorem lk_60_12 : (zPr L xs).1 60 12 = o_gfR 8 400 := rfl
theorem lk_60_15 : (zPr L xs).1 60 15 = o_iload 1 1 := rfl
theorem lk_60_16 : (zPr L xs).1 60 16 = o_aald 31 := rfl
theorem lk_60_17 : (zPr L xs).1 60 17 = o_gfI 4 202 := rfl
theorem lk_60_20 : (zPr L xs).1 60 20 = o_xast 20 (fun x => x) := rfl
theorem lk_60_21 : (zPr L xs).1 60 21 = o_aload 0 1 := rfl
theorem lk_60_22 : (zPr L xs).1 60 22 = o_gfR 7 351 := rfl
theorem lk_60_25 : (zPr L xs).1 60 25 = o_iload 1 1 := rfl
theorem lk_60_26 : (zPr L xs).1 60 26 = o_push (.int (1)) 1 := rfl
theorem lk_60_27 : (zPr L xs).1 60 27 = o_iop (fun x y => x + y) := rfl
theorem lk_60_28 : (zPr L xs).1 60 28 = o_kref 34 41 2 := rfl
theorem lk_60_30 : (zPr L xs).1 60 30 = o_cv 47 2 3 6 6 := rfl
theorem lk_60_33 : (zPr L xs).1 60 33 = o_aload 0 1 := rfl
theorem lk_60_34 : (zPr L xs).1 60 34 = o_gfR 7 351 := rfl
theorem lk_60_37 : (zPr L xs).1 60 37 = o_aload 0 1 := rfl
theorem lk_60_38 : (zPr L xs).1 60 38 = o_gfR 7 352 := rfl
theorem lk_60_41 : (zPr L xs).1 60 41 = o_gfR 8 401 := rfl
theorem lk_60_44 : (zPr L xs).1 60 44 = o_iload 1 1 := rfl
theorem lk_60_45 : (zPr L xs).1 60 45 = o_xald 20 := rfl
theorem lk_60_46 : (zPr L xs).1 60 46 = o_cv 49 1 3 6 6 := rfl
theorem lk_60_49 : (zPr L xs).1 60 49 = o_aload 0 1 := rfl
theorem lk_60_50 : (zPr L xs).1 60 50 = o_gfR 7 351 := rfl
theorem lk_60_53 : (zPr L xs).1 60 53 = o_push (.int (10)) 2 := rfl
theorem lk_60_55 : (zPr L xs).1 60 55 = o_cv 44 1 2 6 6 := rfl
theorem lk_60_58 : (zPr L xs).1 60 58 = o_vret := rfl
theorem lk_61_0 : (zPr L xs).1 61 0 = o_aload 0 1 := rfl
theorem lk_61_1 : (zPr L xs).1 61 1 = o_oini := rfl
theorem lk_61_4 : (zPr L xs).1 61 4 = o_aload 0 1 := rfl
theorem lk_61_5 : (zPr L xs).1 61 5 = o_push (.int (40)) 2 := rfl
theorem lk_61_7 : (zPr L xs).1 61 7 = o_newa 31 3 := rfl
theorem lk_61_10 : (zPr L xs).1 61 10 = o_pfR 8 400 := rfl
theorem lk_61_13 : (zPr L xs).1 61 13 = o_aload 0 1 := rfl
theorem lk_61_14 : (zPr L xs).1 61 14 = o_push (.int (40)) 2 := rfl
theorem lk_61_16 : (zPr L xs).1 61 16 = o_newa 20 2 := rfl
theorem lk_61_18 : (zPr L xs).1 61 18 = o_pfR 8 401 := rfl
theorem lk_61_21 : (zPr L xs).1 61 21 = o_vret := rfl
theorem lk_62_0 : (zPr L xs).1 62 0 = o_aload 0 1 := rfl
theorem lk_62_1 : (zPr L xs).1 62 1 = o_push (.int (0)) 1 := rfl
theorem lk_62_2 : (zPr L xs).1 62 2 = o_pfI 8 402 (fun x => x) := rfl
theorem lk_62_5 : (zPr L xs).1 62 5 = o_aload 0 1 := rfl
theorem lk_62_6 : (zPr L xs).1 62 6 = o_push (.int (0)) 1 := rfl
theorem lk_62_7 : (zPr L xs).1 62 7 = o_pfI 8 403 (fun x => x) := rfl
theorem lk_62_10 : (zPr L xs).1 62 10 = o_vret := rfl
theorem lk_63_0 : (zPr L xs).1 63 0 = o_push (.int (0)) 1 := rfl
theorem lk_63_1 : (zPr L xs).1 63 1 = o_istore 2 1 := rfl
theorem lk_63_2 : (zPr L xs).1 63 2 = o_push (.int (0)) 1 := rfl
theorem lk_63_3 : (zPr L xs).1 63 3 = o_istore 3 1 := rfl
theorem lk_63_4 : (zPr L xs).1 63 4 = o_iload 3 1 := rfl
theorem lk_63_5 : (zPr L xs).1 63 5 = o_aload 1 1 := rfl
theorem lk_63_6 : (zPr L xs).1 63 6 = o_gfI 3 154 := rfl
theorem lk_63_9 : (zPr L xs).1 63 9 = o_icge 93 := rfl
theorem lk_63_12 : (zPr L xs).1 63 12 = o_aload 1 1 := rfl
theorem lk_63_13 : (zPr L xs).1 63 13 = o_gfR 3 150 := rfl
theorem lk_63_16 : (zPr L xs).1 63 16 = o_iload 3 1 := rfl
theorem lk_63_17 : (zPr L xs).1 63 17 = o_aald 31 := rfl
theorem lk_63_18 : (zPr L xs).1 63 18 = o_astore 4 2 := rfl
theorem lk_63_20 : (zPr L xs).1 63 20 = o_aload 4 2 := rfl
theorem lk_63_22 : (zPr L xs).1 63 22 = o_gfI 4 200 := rfl
theorem lk_63_25 : (zPr L xs).1 63 25 = o_aload 0 1 := rfl
theorem lk_63_26 : (zPr L xs).1 63 26 = o_gfI 8 403 := rfl
theorem lk_63_29 : (zPr L xs).1 63 29 = o_icle 87 := rfl
theorem lk_63_32 : (zPr L xs).1 63 32 = o_aload 0 1 := rfl
theorem lk_63_33 : (zPr L xs).1 63 33 = o_gfI 8 402 := rfl
theorem lk_63_36 : (zPr L xs).1 63 36 = o_push (.int (40)) 2 := rfl
theorem lk_63_38 : (zPr L xs).1 63 38 = o_icge 87 := rfl
theorem lk_63_41 : (zPr L xs).1 63 41 = o_aload 0 1 := rfl
theorem lk_63_42 : (zPr L xs).1 63 42 = o_gfR 8 400 := rfl
theorem lk_63_45 : (zPr L xs).1 63 45 = o_aload 0 1 := rfl
theorem lk_63_46 : (zPr L xs).1 63 46 = o_gfI 8 402 := rfl
theorem lk_63_49 : (zPr L xs).1 63 49 = o_aload 4 2 := rfl
theorem lk_63_51 : (zPr L xs).1 63 51 = o_aast 31 4 := rfl
theorem lk_63_52 : (zPr L xs).1 63 52 = o_aload 0 1 := rfl
theorem lk_63_53 : (zPr L xs).1 63 53 = o_gfR 8 401 := rfl
theorem lk_63_56 : (zPr L xs).1 63 56 = o_aload 0 1 := rfl
theorem lk_63_57 : (zPr L xs).1 63 57 = o_gfI 8 402 := rfl
theorem lk_63_60 : (zPr L xs).1 63 60 = o_aload 4 2 := rfl
theorem lk_63_62 : (zPr L xs).1 63 62 = o_gfI 4 202 := rfl
theorem lk_63_65 : (zPr L xs).1 63 65 = o_xast 20 (fun x => x) := rfl
theorem lk_63_66 : (zPr L xs).1 63 66 = o_aload 0 1 := rfl
theorem lk_63_67 : (zPr L xs).1 63 67 = o_dup := rfl
theorem lk_63_68 : (zPr L xs).1 63 68 = o_gfI 8 402 := rfl
theorem lk_63_71 : (zPr L xs).1 63 71 = o_push (.int (1)) 1 := rfl
theorem lk_63_72 : (zPr L xs).1 63 72 = o_iop (fun x y => x + y) := rfl
theorem lk_63_73 : (zPr L xs).1 63 73 = o_pfI 8 402 (fun x => x) := rfl
theorem lk_63_76 : (zPr L xs).1 63 76 = o_aload 0 1 := rfl
theorem lk_63_77 : (zPr L xs).1 63 77 = o_aload 4 2 := rfl
theorem lk_63_79 : (zPr L xs).1 63 79 = o_gfI 4 200 := rfl
theorem lk_63_82 : (zPr L xs).1 63 82 = o_pfI 8 403 (fun x => x) := rfl
theorem lk_63_85 : (zPr L xs).1 63 85 = o_push (.int (1)) 1 := rfl
theorem lk_63_86 : (zPr L xs).1 63 86 = o_istore 2 1 := rfl
theorem lk_63_87 : (zPr L xs).1 63 87 = o_iinc 3 (1) := rfl
theorem lk_63_90 : (zPr L xs).1 63 90 = o_goto 4 := rfl
theorem lk_63_93 : (zPr L xs).1 63 93 = o_iload 2 1 := rfl
theorem lk_63_94 : (zPr L xs).1 63 94 = o_iret (fun x => x &&& 1) := rfl
theorem lk_64_0 : (zPr L xs).1 64 0 = o_iload 1 1 := rfl
theorem lk_64_1 : (zPr L xs).1 64 1 = o_ifeq 28 := rfl
theorem lk_64_4 : (zPr L xs).1 64 4 = o_aload 0 1 := rfl
theorem lk_64_5 : (zPr L xs).1 64 5 = o_gfI 8 402 := rfl
theorem lk_64_8 : (zPr L xs).1 64 8 = o_ifle 28 := rfl
theorem lk_64_11 : (zPr L xs).1 64 11 = o_aload 0 1 := rfl
theorem lk_64_12 : (zPr L xs).1 64 12 = o_gfR 8 400 := rfl
theorem lk_64_15 : (zPr L xs).1 64 15 = o_aload 0 1 := rfl
theorem lk_64_16 : (zPr L xs).1 64 16 = o_gfI 8 402 := rfl
theorem lk_64_19 : (zPr L xs).1 64 19 = o_push (.int (1)) 1 := rfl
theorem lk_64_20 : (zPr L xs).1 64 20 = o_iop (fun x y => x - y) := rfl
theorem lk_64_21 : (zPr L xs).1 64 21 = o_aald 31 := rfl
theorem lk_64_22 : (zPr L xs).1 64 22 = o_gfI 4 200 := rfl
theorem lk_64_25 : (zPr L xs).1 64 25 = o_goto 32 := rfl
theorem lk_64_28 : (zPr L xs).1 64 28 = o_aload 0 1 := rfl
theorem lk_64_29 : (zPr L xs).1 64 29 = o_gfI 8 402 := rfl
theorem lk_64_32 : (zPr L xs).1 64 32 = o_iret (fun x => x) := rfl
theorem lk_65_0 : (zPr L xs).1 65 0 = o_aload 0 1 := rfl
theorem lk_65_1 : (zPr L xs).1 65 1 = o_push (.int (1)) 1 := rfl
theorem lk_65_2 : (zPr L xs).1 65 2 = o_aload 0 1 := rfl
theorem lk_65_3 : (zPr L xs).1 65 3 = o_gfI 8 402 := rfl
theorem lk_65_6 : (zPr L xs).1 65 6 = o_push (.int (0)) 1 := rfl
theorem lk_65_7 : (zPr L xs).1 65 7 = o_cv 66 3 8 8 8 := rfl
theorem lk_65_10 : (zPr L xs).1 65 10 = o_lret := rfl
theorem lk_66_0 : (zPr L xs).1 66 0 = o_push (.long 0) 1 := rfl
theorem lk_66_1 : (zPr L xs).1 66 1 = o_lstore 4 2 := rfl
theorem lk_66_3 : (zPr L xs).1 66 3 = o_push (.int (0)) 1 := rfl
theorem lk_66_4 : (zPr L xs).1 66 4 = o_istore 6 2 := rfl
theorem lk_66_6 : (zPr L xs).1 66 6 = o_iload 6 2 := rfl
theorem lk_66_8 : (zPr L xs).1 66 8 = o_aload 0 1 := rfl
theorem lk_66_9 : (zPr L xs).1 66 9 = o_gfI 8 402 := rfl
theorem lk_66_12 : (zPr L xs).1 66 12 = o_icge 78 := rfl
theorem lk_66_15 : (zPr L xs).1 66 15 = o_iload 3 1 := rfl
theorem lk_66_16 : (zPr L xs).1 66 16 = o_ifeq 32 := rfl
theorem lk_66_19 : (zPr L xs).1 66 19 = o_aload 0 1 := rfl
theorem lk_66_20 : (zPr L xs).1 66 20 = o_gfR 8 400 := rfl
theorem lk_66_23 : (zPr L xs).1 66 23 = o_iload 6 2 := rfl
theorem lk_66_25 : (zPr L xs).1 66 25 = o_aald 31 := rfl
theorem lk_66_26 : (zPr L xs).1 66 26 = o_gfI 4 200 := rfl
theorem lk_66_29 : (zPr L xs).1 66 29 = o_goto 36 := rfl
theorem lk_66_32 : (zPr L xs).1 66 32 = o_iload 6 2 := rfl
theorem lk_66_34 : (zPr L xs).1 66 34 = o_push (.int (1)) 1 := rfl
theorem lk_66_35 : (zPr L xs).1 66 35 = o_iop (fun x y => x + y) := rfl
theorem lk_66_36 : (zPr L xs).1 66 36 = o_istore 7 2 := rfl
theorem lk_66_38 : (zPr L xs).1 66 38 = o_aload 0 1 := rfl
theorem lk_66_39 : (zPr L xs).1 66 39 = o_gfR 8 400 := rfl
theorem lk_66_42 : (zPr L xs).1 66 42 = o_iload 6 2 := rfl
theorem lk_66_44 : (zPr L xs).1 66 44 = o_aald 31 := rfl
theorem lk_66_45 : (zPr L xs).1 66 45 = o_gfI 4 203 := rfl
theorem lk_66_48 : (zPr L xs).1 66 48 = o_ifne 72 := rfl
theorem lk_66_51 : (zPr L xs).1 66 51 = o_iload 1 1 := rfl
theorem lk_66_52 : (zPr L xs).1 66 52 = o_iload 7 2 := rfl
theorem lk_66_54 : (zPr L xs).1 66 54 = o_icgt 72 := rfl
theorem lk_66_57 : (zPr L xs).1 66 57 = o_iload 7 2 := rfl
theorem lk_66_59 : (zPr L xs).1 66 59 = o_iload 2 1 := rfl
theorem lk_66_60 : (zPr L xs).1 66 60 = o_icgt 72 := rfl
theorem lk_66_63 : (zPr L xs).1 66 63 = o_lload 4 2 := rfl
theorem lk_66_65 : (zPr L xs).1 66 65 = o_push (.long 1) 1 := rfl
theorem lk_66_66 : (zPr L xs).1 66 66 = o_iload 6 2 := rfl
theorem lk_66_68 : (zPr L xs).1 66 68 = o_sop (fun x y => x <<< (y.toInt64 &&& 63)) := rfl
theorem lk_66_69 : (zPr L xs).1 66 69 = o_lop (fun x y => x ||| y) := rfl
theorem lk_66_70 : (zPr L xs).1 66 70 = o_lstore 4 2 := rfl
theorem lk_66_72 : (zPr L xs).1 66 72 = o_iinc 6 (1) := rfl
theorem lk_66_75 : (zPr L xs).1 66 75 = o_goto 6 := rfl
theorem lk_66_78 : (zPr L xs).1 66 78 = o_lload 4 2 := rfl
theorem lk_66_80 : (zPr L xs).1 66 80 = o_lret := rfl
theorem lk_67_0 : (zPr L xs).1 67 0 = o_push (.long 0) 1 := rfl
theorem lk_67_1 : (zPr L xs).1 67 1 = o_lstore 2 1 := rfl
theorem lk_67_2 : (zPr L xs).1 67 2 = o_push (.int (0)) 1 := rfl
theorem lk_67_3 : (zPr L xs).1 67 3 = o_istore 4 2 := rfl
theorem lk_67_5 : (zPr L xs).1 67 5 = o_iload 4 2 := rfl
theorem lk_67_7 : (zPr L xs).1 67 7 = o_aload 0 1 := rfl
theorem lk_67_8 : (zPr L xs).1 67 8 = o_gfI 8 402 := rfl
theorem lk_67_11 : (zPr L xs).1 67 11 = o_icge 55 := rfl
theorem lk_67_14 : (zPr L xs).1 67 14 = o_aload 0 1 := rfl
theorem lk_67_15 : (zPr L xs).1 67 15 = o_gfR 8 400 := rfl
theorem lk_67_18 : (zPr L xs).1 67 18 = o_iload 4 2 := rfl
theorem lk_67_20 : (zPr L xs).1 67 20 = o_aald 31 := rfl
theorem lk_67_21 : (zPr L xs).1 67 21 = o_gfI 4 203 := rfl
theorem lk_67_24 : (zPr L xs).1 67 24 = o_ifne 49 := rfl
theorem lk_67_27 : (zPr L xs).1 67 27 = o_aload 0 1 := rfl
theorem lk_67_28 : (zPr L xs).1 67 28 = o_gfR 8 400 := rfl
theorem lk_67_31 : (zPr L xs).1 67 31 = o_iload 4 2 := rfl
theorem lk_67_33 : (zPr L xs).1 67 33 = o_aald 31 := rfl
theorem lk_67_34 : (zPr L xs).1 67 34 = o_gfI 4 202 := rfl
theorem lk_67_37 : (zPr L xs).1 67 37 = o_iload 1 1 := rfl
theorem lk_67_38 : (zPr L xs).1 67 38 = o_iop (fun x y => x &&& y) := rfl
theorem lk_67_39 : (zPr L xs).1 67 39 = o_ifeq 49 := rfl
theorem lk_67_42 : (zPr L xs).1 67 42 = o_lload 2 1 := rfl
theorem lk_67_43 : (zPr L xs).1 67 43 = o_push (.long 1) 1 := rfl
theorem lk_67_44 : (zPr L xs).1 67 44 = o_iload 4 2 := rfl
theorem lk_67_46 : (zPr L xs).1 67 46 = o_sop (fun x y => x <<< (y.toInt64 &&& 63)) := rfl
theorem lk_67_47 : (zPr L xs).1 67 47 = o_lop (fun x y => x ||| y) := rfl
theorem lk_67_48 : (zPr L xs).1 67 48 = o_lstore 2 1 := rfl
theorem lk_67_49 : (zPr L xs).1 67 49 = o_iinc 4 (1) := rfl
theorem lk_67_52 : (zPr L xs).1 67 52 = o_goto 5 := rfl
theorem lk_67_55 : (zPr L xs).1 67 55 = o_lload 2 1 := rfl
theorem lk_67_56 : (zPr L xs).1 67 56 = o_lret := rfl
theorem lk_68_0 : (zPr L xs).1 68 0 = o_push (.long 0) 1 := rfl
theorem lk_68_1 : (zPr L xs).1 68 1 = o_lstore 2 1 := rfl
theorem lk_68_2 : (zPr L xs).1 68 2 = o_push (.int (0)) 1 := rfl
theorem lk_68_3 : (zPr L xs).1 68 3 = o_istore 4 2 := rfl
theorem lk_68_5 : (zPr L xs).1 68 5 = o_iload 4 2 := rfl
theorem lk_68_7 : (zPr L xs).1 68 7 = o_aload 0 1 := rfl
theorem lk_68_8 : (zPr L xs).1 68 8 = o_gfI 8 402 := rfl
theorem lk_68_11 : (zPr L xs).1 68 11 = o_icge 57 := rfl
theorem lk_68_14 : (zPr L xs).1 68 14 = o_aload 0 1 := rfl
theorem lk_68_15 : (zPr L xs).1 68 15 = o_gfR 8 400 := rfl
theorem lk_68_18 : (zPr L xs).1 68 18 = o_iload 4 2 := rfl
theorem lk_68_20 : (zPr L xs).1 68 20 = o_aald 31 := rfl
theorem lk_68_21 : (zPr L xs).1 68 21 = o_gfI 4 203 := rfl
theorem lk_68_24 : (zPr L xs).1 68 24 = o_ifne 51 := rfl
theorem lk_68_27 : (zPr L xs).1 68 27 = o_aload 0 1 := rfl
theorem lk_68_28 : (zPr L xs).1 68 28 = o_gfR 8 400 := rfl
theorem lk_68_31 : (zPr L xs).1 68 31 = o_iload 4 2 := rfl
theorem lk_68_33 : (zPr L xs).1 68 33 = o_aald 31 := rfl
theorem lk_68_34 : (zPr L xs).1 68 34 = o_gfR 4 201 := rfl
theorem lk_68_37 : (zPr L xs).1 68 37 = o_aload 1 1 := rfl
theorem lk_68_38 : (zPr L xs).1 68 38 = o_cs 69 2 4 := rfl
theorem lk_68_41 : (zPr L xs).1 68 41 = o_ifeq 51 := rfl
theorem lk_68_44 : (zPr L xs).1 68 44 = o_lload 2 1 := rfl
theorem lk_68_45 : (zPr L xs).1 68 45 = o_push (.long 1) 1 := rfl
theorem lk_68_46 : (zPr L xs).1 68 46 = o_iload 4 2 := rfl
theorem lk_68_48 : (zPr L xs).1 68 48 = o_sop (fun x y => x <<< (y.toInt64 &&& 63)) := rfl
theorem lk_68_49 : (zPr L xs).1 68 49 = o_lop (fun x y => x ||| y) := rfl
theorem lk_68_50 : (zPr L xs).1 68 50 = o_lstore 2 1 := rfl
theorem lk_68_51 : (zPr L xs).1 68 51 = o_iinc 4 (1) := rfl
theorem lk_68_54 : (zPr L xs).1 68 54 = o_goto 5 := rfl
theorem lk_68_57 : (zPr L xs).1 68 57 = o_lload 2 1 := rfl
theorem lk_68_58 : (zPr L xs).1 68 58 = o_lret := rfl
theorem lk_69_0 : (zPr L xs).1 69 0 = o_push (.int (0)) 1 := rfl
theorem lk_69_1 : (zPr L xs).1 69 1 = o_istore 2 1 := rfl
theorem lk_69_2 : (zPr L xs).1 69 2 = o_iload 2 1 := rfl
theorem lk_69_3 : (zPr L xs).1 69 3 = o_aload 1 1 := rfl
theorem lk_69_4 : (zPr L xs).1 69 4 = o_cv 3 0 1 1 41 := rfl
theorem lk_69_7 : (zPr L xs).1 69 7 = o_iop (fun x y => x + y) := rfl
theorem lk_69_8 : (zPr L xs).1 69 8 = o_aload 0 1 := rfl
theorem lk_69_9 : (zPr L xs).1 69 9 = o_cv 3 0 1 1 41 := rfl
theorem lk_69_12 : (zPr L xs).1 69 12 = o_icgt 62 := rfl
theorem lk_69_15 : (zPr L xs).1 69 15 = o_push (.int (0)) 1 := rfl
theorem lk_69_16 : (zPr L xs).1 69 16 = o_istore 3 1 := rfl
theorem lk_69_17 : (zPr L xs).1 69 17 = o_iload 3 1 := rfl
theorem lk_69_18 : (zPr L xs).1 69 18 = o_aload 1 1 := rfl
theorem lk_69_19 : (zPr L xs).1 69 19 = o_cv 3 0 1 1 41 := rfl
theorem lk_69_22 : (zPr L xs).1 69 22 = o_icge 46 := rfl
theorem lk_69_25 : (zPr L xs).1 69 25 = o_aload 0 1 := rfl
theorem lk_69_26 : (zPr L xs).1 69 26 = o_iload 2 1 := rfl
theorem lk_69_27 : (zPr L xs).1 69 27 = o_iload 3 1 := rfl
theorem lk_69_28 : (zPr L xs).1 69 28 = o_iop (fun x y => x + y) := rfl
theorem lk_69_29 : (zPr L xs).1 69 29 = o_cv 4 1 2 1 41 := rfl
theorem lk_69_32 : (zPr L xs).1 69 32 = o_aload 1 1 := rfl
theorem lk_69_33 : (zPr L xs).1 69 33 = o_iload 3 1 := rfl
theorem lk_69_34 : (zPr L xs).1 69 34 = o_cv 4 1 2 1 41 := rfl
theorem lk_69_37 : (zPr L xs).1 69 37 = o_icne 46 := rfl
theorem lk_69_40 : (zPr L xs).1 69 40 = o_iinc 3 (1) := rfl
theorem lk_69_43 : (zPr L xs).1 69 43 = o_goto 17 := rfl
theorem lk_69_46 : (zPr L xs).1 69 46 = o_iload 3 1 := rfl
theorem lk_69_47 : (zPr L xs).1 69 47 = o_aload 1 1 := rfl
theorem lk_69_48 : (zPr L xs).1 69 48 = o_cv 3 0 1 1 41 := rfl
theorem lk_69_51 : (zPr L xs).1 69 51 = o_icne 56 := rfl
theorem lk_69_54 : (zPr L xs).1 69 54 = o_push (.int (1)) 1 := rfl
theorem lk_69_55 : (zPr L xs).1 69 55 = o_iret (fun x => x &&& 1) := rfl
theorem lk_69_56 : (zPr L xs).1 69 56 = o_iinc 2 (1) := rfl
theorem lk_69_59 : (zPr L xs).1 69 59 = o_goto 2 := rfl
theorem lk_69_62 : (zPr L xs).1 69 62 = o_push (.int (0)) 1 := rfl
theorem lk_69_63 : (zPr L xs).1 69 63 = o_iret (fun x => x &&& 1) := rfl
theorem lk_70_0 : (zPr L xs).1 70 0 = o_aload 0 1 := rfl
theorem lk_70_1 : (zPr L xs).1 70 1 = o_oini := rfl
theorem lk_70_4 : (zPr L xs).1 70 4 = o_aload 0 1 := rfl
theorem lk_70_5 : (zPr L xs).1 70 5 = o_push (.int (4)) 1 := rfl
theorem lk_70_6 : (zPr L xs).1 70 6 = o_newa 32 3 := rfl
theorem lk_70_9 : (zPr L xs).1 70 9 = o_pfR 9 450 := rfl
theorem lk_70_12 : (zPr L xs).1 70 12 = o_push (.int (0)) 1 := rfl
theorem lk_70_13 : (zPr L xs).1 70 13 = o_istore 1 1 := rfl
theorem lk_70_14 : (zPr L xs).1 70 14 = o_iload 1 1 := rfl
theorem lk_70_15 : (zPr L xs).1 70 15 = o_push (.int (4)) 1 := rfl
theorem lk_70_16 : (zPr L xs).1 70 16 = o_icge 38 := rfl
theorem lk_70_19 : (zPr L xs).1 70 19 = o_aload 0 1 := rfl
theorem lk_70_20 : (zPr L xs).1 70 20 = o_gfR 9 450 := rfl
theorem lk_70_23 : (zPr L xs).1 70 23 = o_iload 1 1 := rfl
theorem lk_70_24 : (zPr L xs).1 70 24 = o_new 3 5 := rfl
theorem lk_70_27 : (zPr L xs).1 70 27 = o_dup := rfl
theorem lk_70_28 : (zPr L xs).1 70 28 = o_cv 19 0 1 3 3 := rfl
theorem lk_70_31 : (zPr L xs).1 70 31 = o_aast 32 3 := rfl
theorem lk_70_32 : (zPr L xs).1 70 32 = o_iinc 1 (1) := rfl
theorem lk_70_35 : (zPr L xs).1 70 35 = o_goto 14 := rfl
theorem lk_70_38 : (zPr L xs).1 70 38 = o_aload 0 1 := rfl
theorem lk_70_39 : (zPr L xs).1 70 39 = o_push (.int (3)) 1 := rfl
theorem lk_70_40 : (zPr L xs).1 70 40 = o_newa 33 3 := rfl
theorem lk_70_43 : (zPr L xs).1 70 43 = o_pfR 9 451 := rfl
theorem lk_70_46 : (zPr L xs).1 70 46 = o_push (.int (0)) 1 := rfl
theorem lk_70_47 : (zPr L xs).1 70 47 = o_istore 1 1 := rfl
theorem lk_70_48 : (zPr L xs).1 70 48 = o_iload 1 1 := rfl
theorem lk_70_49 : (zPr L xs).1 70 49 = o_push (.int (3)) 1 := rfl
theorem lk_70_50 : (zPr L xs).1 70 50 = o_icge 72 := rfl
theorem lk_70_53 : (zPr L xs).1 70 53 = o_aload 0 1 := rfl
theorem lk_70_54 : (zPr L xs).1 70 54 = o_gfR 9 451 := rfl
theorem lk_70_57 : (zPr L xs).1 70 57 = o_iload 1 1 := rfl
theorem lk_70_58 : (zPr L xs).1 70 58 = o_new 7 7 := rfl
theorem lk_70_61 : (zPr L xs).1 70 61 = o_dup := rfl
theorem lk_70_62 : (zPr L xs).1 70 62 = o_cv 50 0 1 7 7 := rfl
theorem lk_70_65 : (zPr L xs).1 70 65 = o_aast 33 7 := rfl
theorem lk_70_66 : (zPr L xs).1 70 66 = o_iinc 1 (1) := rfl
theorem lk_70_69 : (zPr L xs).1 70 69 = o_goto 48 := rfl
theorem lk_70_72 : (zPr L xs).1 70 72 = o_aload 0 1 := rfl
theorem lk_70_73 : (zPr L xs).1 70 73 = o_push (.int (1)) 1 := rfl
theorem lk_70_74 : (zPr L xs).1 70 74 = o_pfI 9 452 (fun x => x) := rfl
theorem lk_70_77 : (zPr L xs).1 70 77 = o_aload 0 1 := rfl
theorem lk_70_78 : (zPr L xs).1 70 78 = o_gfR 9 450 := rfl
theorem lk_70_81 : (zPr L xs).1 70 81 = o_push (.int (0)) 1 := rfl
theorem lk_70_82 : (zPr L xs).1 70 82 = o_aald 32 := rfl
theorem lk_70_83 : (zPr L xs).1 70 83 = o_aload 0 1 := rfl
theorem lk_70_84 : (zPr L xs).1 70 84 = o_gfI 9 452 := rfl
theorem lk_70_87 : (zPr L xs).1 70 87 = o_cv 20 1 2 3 3 := rfl
theorem lk_70_90 : (zPr L xs).1 70 90 = o_aload 0 1 := rfl
theorem lk_70_91 : (zPr L xs).1 70 91 = o_gfR 9 451 := rfl
theorem lk_70_94 : (zPr L xs).1 70 94 = o_push (.int (0)) 1 := rfl
theorem lk_70_95 : (zPr L xs).1 70 95 = o_aald 33 := rfl
theorem lk_70_96 : (zPr L xs).1 70 96 = o_push (.int (1)) 1 := rfl
theorem lk_70_97 : (zPr L xs).1 70 97 = o_pfI 7 353 (fun x => x &&& 1) := rfl
theorem lk_70_100 : (zPr L xs).1 70 100 = o_vret := rfl
theorem lk_71_0 : (zPr L xs).1 71 0 = o_aload 0 1 := rfl
theorem lk_71_1 : (zPr L xs).1 71 1 = o_iload 1 1 := rfl
theorem lk_71_2 : (zPr L xs).1 71 2 = o_cv 80 1 3 9 9 := rfl
theorem lk_71_5 : (zPr L xs).1 71 5 = o_astore 3 1 := rfl
theorem lk_71_6 : (zPr L xs).1 71 6 = o_push (.int (0)) 1 := rfl
theorem lk_71_7 : (zPr L xs).1 71 7 = o_istore 4 2 := rfl
theorem lk_71_9 : (zPr L xs).1 71 9 = o_push (.int (0)) 1 := rfl
theorem lk_71_10 : (zPr L xs).1 71 10 = o_istore 5 2 := rfl
theorem lk_71_12 : (zPr L xs).1 71 12 = o_iload 5 2 := rfl
theorem lk_71_14 : (zPr L xs).1 71 14 = o_push (.int (4)) 1 := rfl
theorem lk_71_15 : (zPr L xs).1 71 15 = o_icge 66 := rfl
theorem lk_71_18 : (zPr L xs).1 71 18 = o_iload 2 1 := rfl
theorem lk_71_19 : (zPr L xs).1 71 19 = o_iload 5 2 := rfl
theorem lk_71_21 : (zPr L xs).1 71 21 = o_cs 82 2 2 := rfl
theorem lk_71_24 : (zPr L xs).1 71 24 = o_ifeq 66 := rfl
theorem lk_71_27 : (zPr L xs).1 71 27 = o_iload 2 1 := rfl
theorem lk_71_28 : (zPr L xs).1 71 28 = o_iload 5 2 := rfl
theorem lk_71_30 : (zPr L xs).1 71 30 = o_cs 82 2 2 := rfl
theorem lk_71_33 : (zPr L xs).1 71 33 = o_push (.int (32)) 2 := rfl
theorem lk_71_35 : (zPr L xs).1 71 35 = o_iclt 49 := rfl
theorem lk_71_38 : (zPr L xs).1 71 38 = o_iload 2 1 := rfl
theorem lk_71_39 : (zPr L xs).1 71 39 = o_iload 5 2 := rfl
theorem lk_71_41 : (zPr L xs).1 71 41 = o_cs 82 2 2 := rfl
theorem lk_71_44 : (zPr L xs).1 71 44 = o_push (.int (126)) 2 := rfl
theorem lk_71_46 : (zPr L xs).1 71 46 = o_icle 57 := rfl
theorem lk_71_49 : (zPr L xs).1 71 49 = o_thr "java/lang/IllegalArgumentException" := rfl
theorem lk_71_57 : (zPr L xs).1 71 57 = o_iinc 4 (1) := rfl
theorem lk_71_60 : (zPr L xs).1 71 60 = o_iinc 5 (1) := rfl
theorem lk_71_63 : (zPr L xs).1 71 63 = o_goto 12 := rfl
theorem lk_71_66 : (zPr L xs).1 71 66 = o_aload 3 1 := rfl
theorem lk_71_67 : (zPr L xs).1 71 67 = o_gfI 7 354 := rfl
theorem lk_71_70 : (zPr L xs).1 71 70 = o_iload 4 2 := rfl
theorem lk_71_72 : (zPr L xs).1 71 72 = o_iop (fun x y => x + y) := rfl
theorem lk_71_73 : (zPr L xs).1 71 73 = o_push (.int (48)) 2 := rfl
theorem lk_71_75 : (zPr L xs).1 71 75 = o_icle 80 := rfl
theorem lk_71_78 : (zPr L xs).1 71 78 = o_push (.int (0)) 1 := rfl
theorem lk_71_79 : (zPr L xs).1 71 79 = o_iret (fun x => x &&& 1) := rfl
theorem lk_71_80 : (zPr L xs).1 71 80 = o_push (.int (0)) 1 := rfl
theorem lk_71_81 : (zPr L xs).1 71 81 = o_istore 5 2 := rfl
theorem lk_71_83 : (zPr L xs).1 71 83 = o_iload 5 2 := rfl
theorem lk_71_85 : (zPr L xs).1 71 85 = o_iload 4 2 := rfl
theorem lk_71_87 : (zPr L xs).1 71 87 = o_icge 122 := rfl
theorem lk_71_90 : (zPr L xs).1 71 90 = o_aload 3 1 := rfl
theorem lk_71_91 : (zPr L xs).1 71 91 = o_gfR 7 350 := rfl
theorem lk_71_94 : (zPr L xs).1 71 94 = o_aload 3 1 := rfl
theorem lk_71_95 : (zPr L xs).1 71 95 = o_gfI 7 354 := rfl
theorem lk_71_98 : (zPr L xs).1 71 98 = o_iload 2 1 := rfl
theorem lk_71_99 : (zPr L xs).1 71 99 = o_iload 5 2 := rfl
theorem lk_71_101 : (zPr L xs).1 71 101 = o_cs 82 2 2 := rfl
theorem lk_71_104 : (zPr L xs).1 71 104 = o_iun (fun x => (x.toUInt32 % 65536).toInt32) := rfl
theorem lk_71_105 : (zPr L xs).1 71 105 = o_xast 22 (vp_nar .char) := rfl
theorem lk_71_106 : (zPr L xs).1 71 106 = o_aload 3 1 := rfl
theorem lk_71_107 : (zPr L xs).1 71 107 = o_dup := rfl
theorem lk_71_108 : (zPr L xs).1 71 108 = o_gfI 7 354 := rfl
theorem lk_71_111 : (zPr L xs).1 71 111 = o_push (.int (1)) 1 := rfl
theorem lk_71_112 : (zPr L xs).1 71 112 = o_iop (fun x y => x + y) := rfl
theorem lk_71_113 : (zPr L xs).1 71 113 = o_pfI 7 354 (fun x => x) := rfl
theorem lk_71_116 : (zPr L xs).1 71 116 = o_iinc 5 (1) := rfl
theorem lk_71_119 : (zPr L xs).1 71 119 = o_goto 83 := rfl
theorem lk_71_122 : (zPr L xs).1 71 122 = o_push (.int (1)) 1 := rfl
theorem lk_71_123 : (zPr L xs).1 71 123 = o_iret (fun x => x &&& 1) := rfl
theorem lk_72_0 : (zPr L xs).1 72 0 = o_aload 0 1 := rfl
theorem lk_72_1 : (zPr L xs).1 72 1 = o_iload 1 1 := rfl
theorem lk_72_2 : (zPr L xs).1 72 2 = o_cv 80 1 3 9 9 := rfl
theorem lk_72_5 : (zPr L xs).1 72 5 = o_astore 2 1 := rfl
theorem lk_72_6 : (zPr L xs).1 72 6 = o_new 5 6 := rfl
theorem lk_72_9 : (zPr L xs).1 72 9 = o_dup := rfl
theorem lk_72_10 : (zPr L xs).1 72 10 = o_aload 2 1 := rfl
theorem lk_72_11 : (zPr L xs).1 72 11 = o_gfR 7 350 := rfl
theorem lk_72_14 : (zPr L xs).1 72 14 = o_aload 2 1 := rfl
theorem lk_72_15 : (zPr L xs).1 72 15 = o_gfI 7 354 := rfl
theorem lk_72_18 : (zPr L xs).1 72 18 = o_aload 2 1 := rfl
theorem lk_72_19 : (zPr L xs).1 72 19 = o_gfR 7 352 := rfl
theorem lk_72_22 : (zPr L xs).1 72 22 = o_cv 24 3 4 5 5 := rfl
theorem lk_72_25 : (zPr L xs).1 72 25 = o_astore 3 1 := rfl
theorem lk_72_26 : (zPr L xs).1 72 26 = o_aload 3 1 := rfl
theorem lk_72_27 : (zPr L xs).1 72 27 = o_cv 25 0 2 5 5 := rfl
theorem lk_72_30 : (zPr L xs).1 72 30 = o_astore 4 2 := rfl
theorem lk_72_32 : (zPr L xs).1 72 32 = o_aload 2 1 := rfl
theorem lk_72_33 : (zPr L xs).1 72 33 = o_push (.int (0)) 1 := rfl
theorem lk_72_34 : (zPr L xs).1 72 34 = o_pfI 7 354 (fun x => x) := rfl
theorem lk_72_37 : (zPr L xs).1 72 37 = o_aload 4 2 := rfl
theorem lk_72_39 : (zPr L xs).1 72 39 = o_ifnon 50 := rfl
theorem lk_72_42 : (zPr L xs).1 72 42 = o_thr "java/lang/IllegalArgumentException" := rfl
theorem lk_72_50 : (zPr L xs).1 72 50 = o_aload 2 1 := rfl
theorem lk_72_51 : (zPr L xs).1 72 51 = o_gfR 7 351 := rfl
theorem lk_72_54 : (zPr L xs).1 72 54 = o_push (.int (0)) 1 := rfl
theorem lk_72_55 : (zPr L xs).1 72 55 = o_pfI 6 301 (fun x => x) := rfl
theorem lk_72_58 : (zPr L xs).1 72 58 = o_aload 0 1 := rfl
theorem lk_72_59 : (zPr L xs).1 72 59 = o_aload 2 1 := rfl
theorem lk_72_60 : (zPr L xs).1 72 60 = o_aload 4 2 := rfl
theorem lk_72_62 : (zPr L xs).1 72 62 = o_cv 83 2 5 9 9 := rfl
theorem lk_72_65 : (zPr L xs).1 72 65 = o_istore 5 2 := rfl
theorem lk_72_67 : (zPr L xs).1 72 67 = o_iload 5 2 := rfl
theorem lk_72_69 : (zPr L xs).1 72 69 = o_ifne 107 := rfl
theorem lk_72_72 : (zPr L xs).1 72 72 = o_aload 0 1 := rfl
theorem lk_72_73 : (zPr L xs).1 72 73 = o_aload 2 1 := rfl
theorem lk_72_74 : (zPr L xs).1 72 74 = o_aload 4 2 := rfl
theorem lk_72_76 : (zPr L xs).1 72 76 = o_cv 85 2 4 9 9 := rfl
theorem lk_72_79 : (zPr L xs).1 72 79 = o_aload 2 1 := rfl
theorem lk_72_80 : (zPr L xs).1 72 80 = o_aload 4 2 := rfl
theorem lk_72_82 : (zPr L xs).1 72 82 = o_gfR 2 101 := rfl
theorem lk_72_85 : (zPr L xs).1 72 85 = o_gfK 40 (fun a => (zVb 3).getD a 0) := rfl
theorem lk_72_88 : (zPr L xs).1 72 88 = o_ifeq 99 := rfl
theorem lk_72_91 : (zPr L xs).1 72 91 = o_aload 4 2 := rfl
theorem lk_72_93 : (zPr L xs).1 72 93 = o_gfI 2 102 := rfl
theorem lk_72_96 : (zPr L xs).1 72 96 = o_ifeq 103 := rfl
theorem lk_72_99 : (zPr L xs).1 72 99 = o_push (.int (1)) 1 := rfl
theorem lk_72_100 : (zPr L xs).1 72 100 = o_goto 104 := rfl
theorem lk_72_103 : (zPr L xs).1 72 103 = o_push (.int (0)) 1 := rfl
theorem lk_72_104 : (zPr L xs).1 72 104 = o_cv 58 1 3 7 7 := rfl
theorem lk_72_107 : (zPr L xs).1 72 107 = o_aload 2 1 := rfl
theorem lk_72_108 : (zPr L xs).1 72 108 = o_gfR 7 351 := rfl
theorem lk_72_111 : (zPr L xs).1 72 111 = o_aload 4 2 := rfl
theorem lk_72_113 : (zPr L xs).1 72 113 = o_gfR 2 100 := rfl
theorem lk_72_116 : (zPr L xs).1 72 116 = o_cv 45 1 3 6 6 := rfl
theorem lk_72_119 : (zPr L xs).1 72 119 = o_aload 2 1 := rfl
theorem lk_72_120 : (zPr L xs).1 72 120 = o_gfR 7 351 := rfl
theorem lk_72_123 : (zPr L xs).1 72 123 = o_iload 5 2 := rfl
theorem lk_72_125 : (zPr L xs).1 72 125 = o_ifeq 133 := rfl
theorem lk_72_128 : (zPr L xs).1 72 128 = o_kref 38 41 2 := rfl
theorem lk_72_130 : (zPr L xs).1 72 130 = o_goto 135 := rfl
theorem lk_72_133 : (zPr L xs).1 72 133 = o_kref 39 41 2 := rfl
theorem lk_72_135 : (zPr L xs).1 72 135 = o_cv 45 1 3 6 6 := rfl
theorem lk_72_138 : (zPr L xs).1 72 138 = o_iload 5 2 := rfl
theorem lk_72_140 : (zPr L xs).1 72 140 = o_ifeq 147 := rfl
theorem lk_72_143 : (zPr L xs).1 72 143 = o_push (.int (1)) 1 := rfl
theorem lk_72_144 : (zPr L xs).1 72 144 = o_goto 148 := rfl
theorem lk_72_147 : (zPr L xs).1 72 147 = o_push (.int (0)) 1 := rfl
theorem lk_72_148 : (zPr L xs).1 72 148 = o_iret (fun x => x) := rfl
theorem lk_73_0 : (zPr L xs).1 73 0 = o_aload 0 1 := rfl
theorem lk_73_1 : (zPr L xs).1 73 1 = o_iload 1 1 := rfl
theorem lk_73_2 : (zPr L xs).1 73 2 = o_cv 79 1 2 9 9 := rfl
theorem lk_73_5 : (zPr L xs).1 73 5 = o_astore 2 1 := rfl
theorem lk_73_6 : (zPr L xs).1 73 6 = o_aload 2 1 := rfl
theorem lk_73_7 : (zPr L xs).1 73 7 = o_gfI 7 353 := rfl
theorem lk_73_10 : (zPr L xs).1 73 10 = o_ifeq 21 := rfl
theorem lk_73_13 : (zPr L xs).1 73 13 = o_thr "java/lang/IllegalStateException" := rfl
theorem lk_73_21 : (zPr L xs).1 73 21 = o_aload 2 1 := rfl
theorem lk_73_22 : (zPr L xs).1 73 22 = o_push (.int (1)) 1 := rfl
theorem lk_73_23 : (zPr L xs).1 73 23 = o_pfI 7 353 (fun x => x &&& 1) := rfl
theorem lk_73_26 : (zPr L xs).1 73 26 = o_aload 2 1 := rfl
theorem lk_73_27 : (zPr L xs).1 73 27 = o_push (.int (0)) 1 := rfl
theorem lk_73_28 : (zPr L xs).1 73 28 = o_pfI 7 354 (fun x => x) := rfl
theorem lk_73_31 : (zPr L xs).1 73 31 = o_vret := rfl
theorem lk_74_0 : (zPr L xs).1 74 0 = o_aload 0 1 := rfl
theorem lk_74_1 : (zPr L xs).1 74 1 = o_iload 1 1 := rfl
theorem lk_74_2 : (zPr L xs).1 74 2 = o_cv 79 1 2 9 9 := rfl
theorem lk_74_5 : (zPr L xs).1 74 5 = o_gfR 7 351 := rfl
theorem lk_74_8 : (zPr L xs).1 74 8 = o_gfI 6 301 := rfl
theorem lk_74_11 : (zPr L xs).1 74 11 = o_iret (fun x => x) := rfl
theorem lk_75_0 : (zPr L xs).1 75 0 = o_aload 0 1 := rfl
theorem lk_75_1 : (zPr L xs).1 75 1 = o_iload 1 1 := rfl
theorem lk_75_2 : (zPr L xs).1 75 2 = o_cv 79 1 2 9 9 := rfl
theorem lk_75_5 : (zPr L xs).1 75 5 = o_gfR 7 351 := rfl
theorem lk_75_8 : (zPr L xs).1 75 8 = o_astore 3 1 := rfl
theorem lk_75_9 : (zPr L xs).1 75 9 = o_iload 2 1 := rfl
theorem lk_75_10 : (zPr L xs).1 75 10 = o_iflt 21 := rfl
theorem lk_75_13 : (zPr L xs).1 75 13 = o_iload 2 1 := rfl
theorem lk_75_14 : (zPr L xs).1 75 14 = o_aload 3 1 := rfl
theorem lk_75_15 : (zPr L xs).1 75 15 = o_gfI 6 301 := rfl
theorem lk_75_18 : (zPr L xs).1 75 18 = o_iclt 29 := rfl
theorem lk_75_21 : (zPr L xs).1 75 21 = o_thr "java/lang/IndexOutOfBoundsException" := rfl
theorem lk_75_29 : (zPr L xs).1 75 29 = o_aload 3 1 := rfl
theorem lk_75_30 : (zPr L xs).1 75 30 = o_gfR 6 300 := rfl
theorem lk_75_33 : (zPr L xs).1 75 33 = o_iload 2 1 := rfl
theorem lk_75_34 : (zPr L xs).1 75 34 = o_xald 22 := rfl
theorem lk_75_35 : (zPr L xs).1 75 35 = o_iret (fun x => x.toUInt32.toUInt16.toUInt32.toInt32) := rfl
theorem lk_76_0 : (zPr L xs).1 76 0 = o_iload 1 1 := rfl
theorem lk_76_1 : (zPr L xs).1 76 1 = o_iflt 21 := rfl
theorem lk_76_4 : (zPr L xs).1 76 4 = o_iload 1 1 := rfl
theorem lk_76_5 : (zPr L xs).1 76 5 = o_push (.int (3)) 1 := rfl
theorem lk_76_6 : (zPr L xs).1 76 6 = o_icge 21 := rfl
theorem lk_76_9 : (zPr L xs).1 76 9 = o_aload 0 1 := rfl
theorem lk_76_10 : (zPr L xs).1 76 10 = o_gfR 9 451 := rfl
theorem lk_76_13 : (zPr L xs).1 76 13 = o_iload 1 1 := rfl
theorem lk_76_14 : (zPr L xs).1 76 14 = o_aald 33 := rfl
theorem lk_76_15 : (zPr L xs).1 76 15 = o_gfR 7 355 := rfl
theorem lk_76_18 : (zPr L xs).1 76 18 = o_ifnon 23 := rfl
theorem lk_76_21 : (zPr L xs).1 76 21 = o_push (.int (-1)) 1 := rfl
theorem lk_76_22 : (zPr L xs).1 76 22 = o_iret (fun x => x) := rfl
theorem lk_76_23 : (zPr L xs).1 76 23 = o_aload 0 1 := rfl
theorem lk_76_24 : (zPr L xs).1 76 24 = o_gfR 9 451 := rfl
theorem lk_76_27 : (zPr L xs).1 76 27 = o_iload 1 1 := rfl
theorem lk_76_28 : (zPr L xs).1 76 28 = o_aald 33 := rfl
theorem lk_76_29 : (zPr L xs).1 76 29 = o_gfR 7 352 := rfl
theorem lk_76_32 : (zPr L xs).1 76 32 = o_gfI 8 402 := rfl
theorem lk_76_35 : (zPr L xs).1 76 35 = o_iret (fun x => x) := rfl
theorem lk_77_0 : (zPr L xs).1 77 0 = o_aload 0 1 := rfl
theorem lk_77_1 : (zPr L xs).1 77 1 = o_iload 1 1 := rfl
theorem lk_77_2 : (zPr L xs).1 77 2 = o_cv 81 1 2 9 9 := rfl
theorem lk_77_5 : (zPr L xs).1 77 5 = o_ifeq 20 := rfl
theorem lk_77_8 : (zPr L xs).1 77 8 = o_aload 0 1 := rfl
theorem lk_77_9 : (zPr L xs).1 77 9 = o_gfR 9 450 := rfl
theorem lk_77_12 : (zPr L xs).1 77 12 = o_iload 1 1 := rfl
theorem lk_77_13 : (zPr L xs).1 77 13 = o_aald 32 := rfl
theorem lk_77_14 : (zPr L xs).1 77 14 = o_gfI 3 154 := rfl
theorem lk_77_17 : (zPr L xs).1 77 17 = o_goto 21 := rfl
theorem lk_77_20 : (zPr L xs).1 77 20 = o_push (.int (-1)) 1 := rfl
theorem lk_77_21 : (zPr L xs).1 77 21 = o_iret (fun x => x) := rfl
theorem lk_78_0 : (zPr L xs).1 78 0 = o_aload 0 1 := rfl
theorem lk_78_1 : (zPr L xs).1 78 1 = o_iload 1 1 := rfl
theorem lk_78_2 : (zPr L xs).1 78 2 = o_cv 81 1 2 9 9 := rfl
theorem lk_78_5 : (zPr L xs).1 78 5 = o_ifeq 25 := rfl
theorem lk_78_8 : (zPr L xs).1 78 8 = o_iload 2 1 := rfl
theorem lk_78_9 : (zPr L xs).1 78 9 = o_iflt 25 := rfl
theorem lk_78_12 : (zPr L xs).1 78 12 = o_iload 2 1 := rfl
theorem lk_78_13 : (zPr L xs).1 78 13 = o_aload 0 1 := rfl
theorem lk_78_14 : (zPr L xs).1 78 14 = o_gfR 9 450 := rfl
theorem lk_78_17 : (zPr L xs).1 78 17 = o_iload 1 1 := rfl
theorem lk_78_18 : (zPr L xs).1 78 18 = o_aald 32 := rfl
theorem lk_78_19 : (zPr L xs).1 78 19 = o_gfI 3 154 := rfl
theorem lk_78_22 : (zPr L xs).1 78 22 = o_iclt 33 := rfl
theorem lk_78_25 : (zPr L xs).1 78 25 = o_thr "java/util/NoSuchElementException" := rfl
theorem lk_78_33 : (zPr L xs).1 78 33 = o_aload 0 1 := rfl
theorem lk_78_34 : (zPr L xs).1 78 34 = o_gfR 9 450 := rfl
theorem lk_78_37 : (zPr L xs).1 78 37 = o_iload 1 1 := rfl
theorem lk_78_38 : (zPr L xs).1 78 38 = o_aald 32 := rfl
theorem lk_78_39 : (zPr L xs).1 78 39 = o_gfR 3 150 := rfl
theorem lk_78_42 : (zPr L xs).1 78 42 = o_iload 2 1 := rfl
theorem lk_78_43 : (zPr L xs).1 78 43 = o_aald 31 := rfl
theorem lk_78_44 : (zPr L xs).1 78 44 = o_astore 4 2 := rfl
theorem lk_78_46 : (zPr L xs).1 78 46 = o_iload 3 1 := rfl
theorem lk_78_47 : (zPr L xs).1 78 47 = o_tsw (0) (2) [72, 78, 84] 93 := rfl
theorem lk_78_72 : (zPr L xs).1 78 72 = o_aload 4 2 := rfl
theorem lk_78_74 : (zPr L xs).1 78 74 = o_gfI 4 200 := rfl
theorem lk_78_77 : (zPr L xs).1 78 77 = o_iret (fun x => x) := rfl
theorem lk_78_78 : (zPr L xs).1 78 78 = o_aload 4 2 := rfl
theorem lk_78_80 : (zPr L xs).1 78 80 = o_gfI 4 202 := rfl
theorem lk_78_83 : (zPr L xs).1 78 83 = o_iret (fun x => x) := rfl
theorem lk_78_84 : (zPr L xs).1 78 84 = o_aload 4 2 := rfl
theorem lk_78_86 : (zPr L xs).1 78 86 = o_gfR 4 201 := rfl
theorem lk_78_89 : (zPr L xs).1 78 89 = o_cv 3 0 1 1 41 := rfl
theorem lk_78_92 : (zPr L xs).1 78 92 = o_iret (fun x => x) := rfl
theorem lk_78_93 : (zPr L xs).1 78 93 = o_thr "java/util/NoSuchElementException" := rfl
theorem lk_79_0 : (zPr L xs).1 79 0 = o_iload 1 1 := rfl
theorem lk_79_1 : (zPr L xs).1 79 1 = o_iflt 9 := rfl
theorem lk_79_4 : (zPr L xs).1 79 4 = o_iload 1 1 := rfl
theorem lk_79_5 : (zPr L xs).1 79 5 = o_push (.int (3)) 1 := rfl
theorem lk_79_6 : (zPr L xs).1 79 6 = o_iclt 17 := rfl
theorem lk_79_9 : (zPr L xs).1 79 9 = o_thr "java/lang/IndexOutOfBoundsException" := rfl
theorem lk_79_17 : (zPr L xs).1 79 17 = o_aload 0 1 := rfl
theorem lk_79_18 : (zPr L xs).1 79 18 = o_gfR 9 451 := rfl
theorem lk_79_21 : (zPr L xs).1 79 21 = o_iload 1 1 := rfl
theorem lk_79_22 : (zPr L xs).1 79 22 = o_aald 33 := rfl
theorem lk_79_23 : (zPr L xs).1 79 23 = o_aret := rfl
theorem lk_80_0 : (zPr L xs).1 80 0 = o_aload 0 1 := rfl
theorem lk_80_1 : (zPr L xs).1 80 1 = o_iload 1 1 := rfl
theorem lk_80_2 : (zPr L xs).1 80 2 = o_cv 79 1 2 9 9 := rfl
theorem lk_80_5 : (zPr L xs).1 80 5 = o_astore 2 1 := rfl
theorem lk_80_6 : (zPr L xs).1 80 6 = o_aload 2 1 := rfl
theorem lk_80_7 : (zPr L xs).1 80 7 = o_gfI 7 353 := rfl
theorem lk_80_10 : (zPr L xs).1 80 10 = o_ifne 21 := rfl
theorem lk_80_13 : (zPr L xs).1 80 13 = o_thr "java/lang/IllegalStateException" := rfl
theorem lk_80_21 : (zPr L xs).1 80 21 = o_aload 2 1 := rfl
theorem lk_80_22 : (zPr L xs).1 80 22 = o_aret := rfl
theorem lk_81_0 : (zPr L xs).1 81 0 = o_iload 1 1 := rfl
theorem lk_81_1 : (zPr L xs).1 81 1 = o_iflt 25 := rfl
theorem lk_81_4 : (zPr L xs).1 81 4 = o_iload 1 1 := rfl
theorem lk_81_5 : (zPr L xs).1 81 5 = o_push (.int (4)) 1 := rfl
theorem lk_81_6 : (zPr L xs).1 81 6 = o_icge 25 := rfl
theorem lk_81_9 : (zPr L xs).1 81 9 = o_aload 0 1 := rfl
theorem lk_81_10 : (zPr L xs).1 81 10 = o_gfR 9 450 := rfl
theorem lk_81_13 : (zPr L xs).1 81 13 = o_iload 1 1 := rfl
theorem lk_81_14 : (zPr L xs).1 81 14 = o_aald 32 := rfl
theorem lk_81_15 : (zPr L xs).1 81 15 = o_gfI 3 151 := rfl
theorem lk_81_18 : (zPr L xs).1 81 18 = o_ifeq 25 := rfl
theorem lk_81_21 : (zPr L xs).1 81 21 = o_push (.int (1)) 1 := rfl
theorem lk_81_22 : (zPr L xs).1 81 22 = o_goto 26 := rfl
theorem lk_81_25 : (zPr L xs).1 81 25 = o_push (.int (0)) 1 := rfl
theorem lk_81_26 : (zPr L xs).1 81 26 = o_iret (fun x => x &&& 1) := rfl
theorem lk_82_0 : (zPr L xs).1 82 0 = o_iload 0 1 := rfl
theorem lk_82_1 : (zPr L xs).1 82 1 = o_push (.int (8)) 2 := rfl
theorem lk_82_3 : (zPr L xs).1 82 3 = o_iload 1 1 := rfl
theorem lk_82_4 : (zPr L xs).1 82 4 = o_iop (fun x y => x * y) := rfl
theorem lk_82_5 : (zPr L xs).1 82 5 = o_iop (fun x y => (x.toUInt32 >>> (y.toUInt32 &&& Int32.toUInt32 31)).toInt32) := rfl
theorem lk_82_6 : (zPr L xs).1 82 6 = o_push (.int (255)) 3 := rfl
theorem lk_82_9 : (zPr L xs).1 82 9 = o_iop (fun x y => x &&& y) := rfl
theorem lk_82_10 : (zPr L xs).1 82 10 = o_iret (fun x => x) := rfl
theorem lk_83_0 : (zPr L xs).1 83 0 = o_aload 2 1 := rfl
theorem lk_83_1 : (zPr L xs).1 83 1 = o_gfR 2 101 := rfl
theorem lk_83_4 : (zPr L xs).1 83 4 = o_astore 3 1 := rfl
theorem lk_83_5 : (zPr L xs).1 83 5 = o_aload 3 1 := rfl
theorem lk_83_6 : (zPr L xs).1 83 6 = o_gfK 40 (fun a => (zVb 1).getD a 0) := rfl
theorem lk_83_9 : (zPr L xs).1 83 9 = o_ifeq 19 := rfl
theorem lk_83_12 : (zPr L xs).1 83 12 = o_aload 1 1 := rfl
theorem lk_83_13 : (zPr L xs).1 83 13 = o_gfR 7 355 := rfl
theorem lk_83_16 : (zPr L xs).1 83 16 = o_ifnull 40 := rfl
theorem lk_83_19 : (zPr L xs).1 83 19 = o_aload 3 1 := rfl
theorem lk_83_20 : (zPr L xs).1 83 20 = o_gfK 40 (fun a => (zVb 2).getD a 0) := rfl
theorem lk_83_23 : (zPr L xs).1 83 23 = o_ifeq 33 := rfl
theorem lk_83_26 : (zPr L xs).1 83 26 = o_aload 1 1 := rfl
theorem lk_83_27 : (zPr L xs).1 83 27 = o_gfI 7 356 := rfl
theorem lk_83_30 : (zPr L xs).1 83 30 = o_ifeq 40 := rfl
theorem lk_83_33 : (zPr L xs).1 83 33 = o_aload 2 1 := rfl
theorem lk_83_34 : (zPr L xs).1 83 34 = o_gfI 2 109 := rfl
theorem lk_83_37 : (zPr L xs).1 83 37 = o_ifeq 42 := rfl
theorem lk_83_40 : (zPr L xs).1 83 40 = o_push (.int (1)) 1 := rfl
theorem lk_83_41 : (zPr L xs).1 83 41 = o_iret (fun x => x &&& 1) := rfl
theorem lk_83_42 : (zPr L xs).1 83 42 = o_aload 0 1 := rfl
theorem lk_83_43 : (zPr L xs).1 83 43 = o_gfR 9 450 := rfl
theorem lk_83_46 : (zPr L xs).1 83 46 = o_aload 2 1 := rfl
theorem lk_83_47 : (zPr L xs).1 83 47 = o_gfI 2 103 := rfl
theorem lk_83_50 : (zPr L xs).1 83 50 = o_aald 32 := rfl
theorem lk_83_51 : (zPr L xs).1 83 51 = o_astore 4 2 := rfl
theorem lk_83_53 : (zPr L xs).1 83 53 = o_kref (14) 44 3 := rfl
theorem lk_83_56 : (zPr L xs).1 83 56 = o_aload 3 1 := rfl
theorem lk_83_57 : (zPr L xs).1 83 57 = o_ord := rfl
theorem lk_83_60 : (zPr L xs).1 83 60 = o_mald := rfl
theorem lk_83_61 : (zPr L xs).1 83 61 = o_tsw (1) (6) [100, 106, 129, 129, 143, 169] 201 := rfl
theorem lk_83_100 : (zPr L xs).1 83 100 = o_aload 4 2 := rfl
theorem lk_83_102 : (zPr L xs).1 83 102 = o_gfI 3 151 := rfl
theorem lk_83_105 : (zPr L xs).1 83 105 = o_iret (fun x => x &&& 1) := rfl
theorem lk_83_106 : (zPr L xs).1 83 106 = o_aload 4 2 := rfl
theorem lk_83_108 : (zPr L xs).1 83 108 = o_gfI 3 151 := rfl
theorem lk_83_111 : (zPr L xs).1 83 111 = o_ifeq 123 := rfl
theorem lk_83_114 : (zPr L xs).1 83 114 = o_aload 0 1 := rfl
theorem lk_83_115 : (zPr L xs).1 83 115 = o_aload 4 2 := rfl
theorem lk_83_117 : (zPr L xs).1 83 117 = o_cv 84 1 3 9 9 := rfl
theorem lk_83_120 : (zPr L xs).1 83 120 = o_ifeq 127 := rfl
theorem lk_83_123 : (zPr L xs).1 83 123 = o_push (.int (1)) 1 := rfl
theorem lk_83_124 : (zPr L xs).1 83 124 = o_goto 128 := rfl
theorem lk_83_127 : (zPr L xs).1 83 127 = o_push (.int (0)) 1 := rfl
theorem lk_83_128 : (zPr L xs).1 83 128 = o_iret (fun x => x &&& 1) := rfl
theorem lk_83_129 : (zPr L xs).1 83 129 = o_aload 4 2 := rfl
theorem lk_83_131 : (zPr L xs).1 83 131 = o_gfI 3 151 := rfl
theorem lk_83_134 : (zPr L xs).1 83 134 = o_ifne 141 := rfl
theorem lk_83_137 : (zPr L xs).1 83 137 = o_push (.int (1)) 1 := rfl
theorem lk_83_138 : (zPr L xs).1 83 138 = o_goto 142 := rfl
theorem lk_83_141 : (zPr L xs).1 83 141 = o_push (.int (0)) 1 := rfl
theorem lk_83_142 : (zPr L xs).1 83 142 = o_iret (fun x => x &&& 1) := rfl
theorem lk_83_143 : (zPr L xs).1 83 143 = o_aload 4 2 := rfl
theorem lk_83_145 : (zPr L xs).1 83 145 = o_gfI 3 151 := rfl
theorem lk_83_148 : (zPr L xs).1 83 148 = o_ifeq 163 := rfl
theorem lk_83_151 : (zPr L xs).1 83 151 = o_aload 4 2 := rfl
theorem lk_83_153 : (zPr L xs).1 83 153 = o_gfI 3 154 := rfl
theorem lk_83_156 : (zPr L xs).1 83 156 = o_push (.int (1)) 1 := rfl
theorem lk_83_157 : (zPr L xs).1 83 157 = o_iop (fun x y => x + y) := rfl
theorem lk_83_158 : (zPr L xs).1 83 158 = o_push (.int (10)) 2 := rfl
theorem lk_83_160 : (zPr L xs).1 83 160 = o_icle 167 := rfl
theorem lk_83_163 : (zPr L xs).1 83 163 = o_push (.int (1)) 1 := rfl
theorem lk_83_164 : (zPr L xs).1 83 164 = o_goto 168 := rfl
theorem lk_83_167 : (zPr L xs).1 83 167 = o_push (.int (0)) 1 := rfl
theorem lk_83_168 : (zPr L xs).1 83 168 = o_iret (fun x => x &&& 1) := rfl
theorem lk_83_169 : (zPr L xs).1 83 169 = o_aload 4 2 := rfl
theorem lk_83_171 : (zPr L xs).1 83 171 = o_gfI 3 151 := rfl
theorem lk_83_174 : (zPr L xs).1 83 174 = o_ifeq 195 := rfl
theorem lk_83_177 : (zPr L xs).1 83 177 = o_aload 4 2 := rfl
theorem lk_83_179 : (zPr L xs).1 83 179 = o_gfI 3 154 := rfl
theorem lk_83_182 : (zPr L xs).1 83 182 = o_aload 2 1 := rfl
theorem lk_83_183 : (zPr L xs).1 83 183 = o_gfL 2 108 := rfl
theorem lk_83_186 : (zPr L xs).1 83 186 = o_cs 0 1 2 := rfl
theorem lk_83_189 : (zPr L xs).1 83 189 = o_iop (fun x y => x + y) := rfl
theorem lk_83_190 : (zPr L xs).1 83 190 = o_push (.int (10)) 2 := rfl
theorem lk_83_192 : (zPr L xs).1 83 192 = o_icle 199 := rfl
theorem lk_83_195 : (zPr L xs).1 83 195 = o_push (.int (1)) 1 := rfl
theorem lk_83_196 : (zPr L xs).1 83 196 = o_goto 200 := rfl
theorem lk_83_199 : (zPr L xs).1 83 199 = o_push (.int (0)) 1 := rfl
theorem lk_83_200 : (zPr L xs).1 83 200 = o_iret (fun x => x &&& 1) := rfl
theorem lk_83_201 : (zPr L xs).1 83 201 = o_push (.int (0)) 1 := rfl
theorem lk_83_202 : (zPr L xs).1 83 202 = o_iret (fun x => x &&& 1) := rfl
theorem lk_84_0 : (zPr L xs).1 84 0 = o_push (.int (0)) 1 := rfl
theorem lk_84_1 : (zPr L xs).1 84 1 = o_istore 2 1 := rfl
theorem lk_84_2 : (zPr L xs).1 84 2 = o_iload 2 1 := rfl
theorem lk_84_3 : (zPr L xs).1 84 3 = o_push (.int (3)) 1 := rfl
theorem lk_84_4 : (zPr L xs).1 84 4 = o_icge 28 := rfl
theorem lk_84_7 : (zPr L xs).1 84 7 = o_aload 0 1 := rfl
theorem lk_84_8 : (zPr L xs).1 84 8 = o_gfR 9 451 := rfl
theorem lk_84_11 : (zPr L xs).1 84 11 = o_iload 2 1 := rfl
theorem lk_84_12 : (zPr L xs).1 84 12 = o_aald 33 := rfl
theorem lk_84_13 : (zPr L xs).1 84 13 = o_gfR 7 355 := rfl
theorem lk_84_16 : (zPr L xs).1 84 16 = o_aload 1 1 := rfl
theorem lk_84_17 : (zPr L xs).1 84 17 = o_acne 22 := rfl
theorem lk_84_20 : (zPr L xs).1 84 20 = o_push (.int (1)) 1 := rfl
theorem lk_84_21 : (zPr L xs).1 84 21 = o_iret (fun x => x &&& 1) := rfl
theorem lk_84_22 : (zPr L xs).1 84 22 = o_iinc 2 (1) := rfl
theorem lk_84_25 : (zPr L xs).1 84 25 = o_goto 2 := rfl
theorem lk_84_28 : (zPr L xs).1 84 28 = o_push (.int (0)) 1 := rfl
theorem lk_84_29 : (zPr L xs).1 84 29 = o_iret (fun x => x &&& 1) := rfl
theorem lk_85_0 : (zPr L xs).1 85 0 = o_aload 0 1 := rfl
theorem lk_85_1 : (zPr L xs).1 85 1 = o_gfR 9 450 := rfl
theorem lk_85_4 : (zPr L xs).1 85 4 = o_aload 2 1 := rfl
theorem lk_85_5 : (zPr L xs).1 85 5 = o_gfI 2 103 := rfl
theorem lk_85_8 : (zPr L xs).1 85 8 = o_aald 32 := rfl
theorem lk_85_9 : (zPr L xs).1 85 9 = o_astore 3 1 := rfl
theorem lk_85_10 : (zPr L xs).1 85 10 = o_kref (14) 44 3 := rfl
theorem lk_85_13 : (zPr L xs).1 85 13 = o_aload 2 1 := rfl
theorem lk_85_14 : (zPr L xs).1 85 14 = o_gfR 2 101 := rfl
theorem lk_85_17 : (zPr L xs).1 85 17 = o_ord := rfl
theorem lk_85_20 : (zPr L xs).1 85 20 = o_mald := rfl
theorem lk_85_21 : (zPr L xs).1 85 21 = o_tsw (1) (12) [84, 105, 128, 137, 113, 192, 146, 157, 169, 176, 184, 204] 212 := rfl
theorem lk_85_84 : (zPr L xs).1 85 84 = o_aload 0 1 := rfl
theorem lk_85_85 : (zPr L xs).1 85 85 = o_dup := rfl
theorem lk_85_86 : (zPr L xs).1 85 86 = o_gfI 9 452 := rfl
theorem lk_85_89 : (zPr L xs).1 85 89 = o_push (.int (1)) 1 := rfl
theorem lk_85_90 : (zPr L xs).1 85 90 = o_iop (fun x y => x + y) := rfl
theorem lk_85_91 : (zPr L xs).1 85 91 = o_pfI 9 452 (fun x => x) := rfl
theorem lk_85_94 : (zPr L xs).1 85 94 = o_aload 3 1 := rfl
theorem lk_85_95 : (zPr L xs).1 85 95 = o_aload 0 1 := rfl
theorem lk_85_96 : (zPr L xs).1 85 96 = o_gfI 9 452 := rfl
theorem lk_85_99 : (zPr L xs).1 85 99 = o_cv 20 1 2 3 3 := rfl
theorem lk_85_102 : (zPr L xs).1 85 102 = o_goto 212 := rfl
theorem lk_85_105 : (zPr L xs).1 85 105 = o_aload 3 1 := rfl
theorem lk_85_106 : (zPr L xs).1 85 106 = o_push (.int (0)) 1 := rfl
theorem lk_85_107 : (zPr L xs).1 85 107 = o_pfI 3 151 (fun x => x &&& 1) := rfl
theorem lk_85_110 : (zPr L xs).1 85 110 = o_goto 212 := rfl
theorem lk_85_113 : (zPr L xs).1 85 113 = o_aload 3 1 := rfl
theorem lk_85_114 : (zPr L xs).1 85 114 = o_aload 2 1 := rfl
theorem lk_85_115 : (zPr L xs).1 85 115 = o_gfI 2 104 := rfl
theorem lk_85_118 : (zPr L xs).1 85 118 = o_aload 2 1 := rfl
theorem lk_85_119 : (zPr L xs).1 85 119 = o_gfR 2 105 := rfl
theorem lk_85_122 : (zPr L xs).1 85 122 = o_cv 21 2 3 3 3 := rfl
theorem lk_85_125 : (zPr L xs).1 85 125 = o_goto 212 := rfl
theorem lk_85_128 : (zPr L xs).1 85 128 = o_aload 1 1 := rfl
theorem lk_85_129 : (zPr L xs).1 85 129 = o_aload 3 1 := rfl
theorem lk_85_130 : (zPr L xs).1 85 130 = o_push (.int (1)) 1 := rfl
theorem lk_85_131 : (zPr L xs).1 85 131 = o_cv 51 2 3 7 7 := rfl
theorem lk_85_134 : (zPr L xs).1 85 134 = o_goto 212 := rfl
theorem lk_85_137 : (zPr L xs).1 85 137 = o_aload 1 1 := rfl
theorem lk_85_138 : (zPr L xs).1 85 138 = o_aload 3 1 := rfl
theorem lk_85_139 : (zPr L xs).1 85 139 = o_push (.int (0)) 1 := rfl
theorem lk_85_140 : (zPr L xs).1 85 140 = o_cv 51 2 3 7 7 := rfl
theorem lk_85_143 : (zPr L xs).1 85 143 = o_goto 212 := rfl
theorem lk_85_146 : (zPr L xs).1 85 146 = o_aload 1 1 := rfl
theorem lk_85_147 : (zPr L xs).1 85 147 = o_cv 53 0 1 7 7 := rfl
theorem lk_85_150 : (zPr L xs).1 85 150 = o_aload 1 1 := rfl
theorem lk_85_151 : (zPr L xs).1 85 151 = o_cv 52 0 1 7 7 := rfl
theorem lk_85_154 : (zPr L xs).1 85 154 = o_goto 212 := rfl
theorem lk_85_157 : (zPr L xs).1 85 157 = o_aload 1 1 := rfl
theorem lk_85_158 : (zPr L xs).1 85 158 = o_cv 52 0 1 7 7 := rfl
theorem lk_85_161 : (zPr L xs).1 85 161 = o_aload 1 1 := rfl
theorem lk_85_162 : (zPr L xs).1 85 162 = o_push (.int (0)) 1 := rfl
theorem lk_85_163 : (zPr L xs).1 85 163 = o_pfI 7 353 (fun x => x &&& 1) := rfl
theorem lk_85_166 : (zPr L xs).1 85 166 = o_goto 212 := rfl
theorem lk_85_169 : (zPr L xs).1 85 169 = o_aload 1 1 := rfl
theorem lk_85_170 : (zPr L xs).1 85 170 = o_cv 53 0 1 7 7 := rfl
theorem lk_85_173 : (zPr L xs).1 85 173 = o_goto 212 := rfl
theorem lk_85_176 : (zPr L xs).1 85 176 = o_aload 1 1 := rfl
theorem lk_85_177 : (zPr L xs).1 85 177 = o_aload 2 1 := rfl
theorem lk_85_178 : (zPr L xs).1 85 178 = o_cv 54 1 4 7 7 := rfl
theorem lk_85_181 : (zPr L xs).1 85 181 = o_goto 212 := rfl
theorem lk_85_184 : (zPr L xs).1 85 184 = o_aload 1 1 := rfl
theorem lk_85_185 : (zPr L xs).1 85 185 = o_aload 2 1 := rfl
theorem lk_85_186 : (zPr L xs).1 85 186 = o_cv 55 1 4 7 7 := rfl
theorem lk_85_189 : (zPr L xs).1 85 189 = o_goto 212 := rfl
theorem lk_85_192 : (zPr L xs).1 85 192 = o_aload 1 1 := rfl
theorem lk_85_193 : (zPr L xs).1 85 193 = o_aload 2 1 := rfl
theorem lk_85_194 : (zPr L xs).1 85 194 = o_gfL 2 108 := rfl
theorem lk_85_197 : (zPr L xs).1 85 197 = o_aload 3 1 := rfl
theorem lk_85_198 : (zPr L xs).1 85 198 = o_cv 56 2 5 7 7 := rfl
theorem lk_85_201 : (zPr L xs).1 85 201 = o_goto 212 := rfl
theorem lk_85_204 : (zPr L xs).1 85 204 = o_aload 1 1 := rfl
theorem lk_85_205 : (zPr L xs).1 85 205 = o_aload 2 1 := rfl
theorem lk_85_206 : (zPr L xs).1 85 206 = o_cv 57 1 3 7 7 := rfl
theorem lk_85_209 : (zPr L xs).1 85 209 = o_goto 212 := rfl
theorem lk_85_212 : (zPr L xs).1 85 212 = o_vret := rfl
theorem lk_86_0 : (zPr L xs).1 86 0 = o_aload 0 1 := rfl
theorem lk_86_1 : (zPr L xs).1 86 1 = o_oini := rfl
theorem lk_86_4 : (zPr L xs).1 86 4 = o_aload 0 1 := rfl
theorem lk_86_5 : (zPr L xs).1 86 5 = o_push (.int (4)) 1 := rfl
theorem lk_86_6 : (zPr L xs).1 86 6 = o_newa 23 2 := rfl
theorem lk_86_8 : (zPr L xs).1 86 8 = o_pfR 10 501 := rfl
theorem lk_86_11 : (zPr L xs).1 86 11 = o_aload 0 1 := rfl
theorem lk_86_12 : (zPr L xs).1 86 12 = o_push (.int (4)) 1 := rfl
theorem lk_86_13 : (zPr L xs).1 86 13 = o_newa 20 2 := rfl
theorem lk_86_15 : (zPr L xs).1 86 15 = o_pfR 10 502 := rfl
theorem lk_86_18 : (zPr L xs).1 86 18 = o_aload 0 1 := rfl
theorem lk_86_19 : (zPr L xs).1 86 19 = o_push (.int (4)) 1 := rfl
theorem lk_86_20 : (zPr L xs).1 86 20 = o_newa 20 2 := rfl
theorem lk_86_22 : (zPr L xs).1 86 22 = o_pfR 10 503 := rfl
theorem lk_86_25 : (zPr L xs).1 86 25 = o_aload 0 1 := rfl
theorem lk_86_26 : (zPr L xs).1 86 26 = o_push (.int (4)) 1 := rfl
theorem lk_86_27 : (zPr L xs).1 86 27 = o_newa 20 2 := rfl
theorem lk_86_29 : (zPr L xs).1 86 29 = o_pfR 10 504 := rfl
theorem lk_86_32 : (zPr L xs).1 86 32 = o_aload 0 1 := rfl
theorem lk_86_33 : (zPr L xs).1 86 33 = o_push (.int (40)) 2 := rfl
theorem lk_86_35 : (zPr L xs).1 86 35 = o_newa 20 2 := rfl
theorem lk_86_37 : (zPr L xs).1 86 37 = o_pfR 10 505 := rfl
theorem lk_86_40 : (zPr L xs).1 86 40 = o_aload 0 1 := rfl
theorem lk_86_41 : (zPr L xs).1 86 41 = o_push (.int (40)) 2 := rfl
theorem lk_86_43 : (zPr L xs).1 86 43 = o_newa 20 2 := rfl
theorem lk_86_45 : (zPr L xs).1 86 45 = o_pfR 10 506 := rfl
theorem lk_86_48 : (zPr L xs).1 86 48 = o_aload 0 1 := rfl
theorem lk_86_49 : (zPr L xs).1 86 49 = o_push (.int (40)) 2 := rfl
theorem lk_86_51 : (zPr L xs).1 86 51 = o_newa 20 2 := rfl
theorem lk_86_53 : (zPr L xs).1 86 53 = o_pfR 10 507 := rfl
theorem lk_86_56 : (zPr L xs).1 86 56 = o_aload 0 1 := rfl
theorem lk_86_57 : (zPr L xs).1 86 57 = o_push (.int (240)) 3 := rfl
theorem lk_86_60 : (zPr L xs).1 86 60 = o_newa 20 2 := rfl
theorem lk_86_62 : (zPr L xs).1 86 62 = o_pfR 10 508 := rfl
theorem lk_86_65 : (zPr L xs).1 86 65 = o_aload 0 1 := rfl
theorem lk_86_66 : (zPr L xs).1 86 66 = o_push (.int (1)) 1 := rfl
theorem lk_86_67 : (zPr L xs).1 86 67 = o_pfI 10 509 (fun x => x) := rfl
theorem lk_86_70 : (zPr L xs).1 86 70 = o_aload 0 1 := rfl
theorem lk_86_71 : (zPr L xs).1 86 71 = o_push (.int (3)) 1 := rfl
theorem lk_86_72 : (zPr L xs).1 86 72 = o_newa 23 2 := rfl
theorem lk_86_74 : (zPr L xs).1 86 74 = o_pfR 10 510 := rfl
theorem lk_86_77 : (zPr L xs).1 86 77 = o_aload 0 1 := rfl
theorem lk_86_78 : (zPr L xs).1 86 78 = o_push (.int (3)) 1 := rfl
theorem lk_86_79 : (zPr L xs).1 86 79 = o_newa 20 2 := rfl
theorem lk_86_81 : (zPr L xs).1 86 81 = o_pfR 10 511 := rfl
theorem lk_86_84 : (zPr L xs).1 86 84 = o_aload 0 1 := rfl
theorem lk_86_85 : (zPr L xs).1 86 85 = o_push (.int (3)) 1 := rfl
theorem lk_86_86 : (zPr L xs).1 86 86 = o_newa 23 2 := rfl
theorem lk_86_88 : (zPr L xs).1 86 88 = o_pfR 10 512 := rfl
theorem lk_86_91 : (zPr L xs).1 86 91 = o_aload 0 1 := rfl
theorem lk_86_92 : (zPr L xs).1 86 92 = o_push (.int (3)) 1 := rfl
theorem lk_86_93 : (zPr L xs).1 86 93 = o_newa 20 2 := rfl
theorem lk_86_95 : (zPr L xs).1 86 95 = o_pfR 10 513 := rfl
theorem lk_86_98 : (zPr L xs).1 86 98 = o_aload 0 1 := rfl
theorem lk_86_99 : (zPr L xs).1 86 99 = o_push (.int (120)) 2 := rfl
theorem lk_86_101 : (zPr L xs).1 86 101 = o_newa 20 2 := rfl
theorem lk_86_103 : (zPr L xs).1 86 103 = o_pfR 10 514 := rfl
theorem lk_86_106 : (zPr L xs).1 86 106 = o_aload 0 1 := rfl
theorem lk_86_107 : (zPr L xs).1 86 107 = o_push (.int (120)) 2 := rfl
theorem lk_86_109 : (zPr L xs).1 86 109 = o_newa 20 2 := rfl
theorem lk_86_111 : (zPr L xs).1 86 111 = o_pfR 10 515 := rfl
theorem lk_86_114 : (zPr L xs).1 86 114 = o_aload 0 1 := rfl
theorem lk_86_115 : (zPr L xs).1 86 115 = o_push (.int (144)) 3 := rfl
theorem lk_86_118 : (zPr L xs).1 86 118 = o_newa 20 2 := rfl
theorem lk_86_120 : (zPr L xs).1 86 120 = o_pfR 10 516 := rfl
theorem lk_86_123 : (zPr L xs).1 86 123 = o_aload 0 1 := rfl
theorem lk_86_124 : (zPr L xs).1 86 124 = o_push (.int (3)) 1 := rfl
theorem lk_86_125 : (zPr L xs).1 86 125 = o_newa 20 2 := rfl
theorem lk_86_127 : (zPr L xs).1 86 127 = o_pfR 10 517 := rfl
theorem lk_86_130 : (zPr L xs).1 86 130 = o_aload 0 1 := rfl
theorem lk_86_131 : (zPr L xs).1 86 131 = o_push (.int (6144)) 3 := rfl
theorem lk_86_134 : (zPr L xs).1 86 134 = o_newa 20 2 := rfl
theorem lk_86_136 : (zPr L xs).1 86 136 = o_pfR 10 518 := rfl
theorem lk_86_139 : (zPr L xs).1 86 139 = o_aload 0 1 := rfl
theorem lk_86_140 : (zPr L xs).1 86 140 = o_push (.int (3)) 1 := rfl
theorem lk_86_141 : (zPr L xs).1 86 141 = o_newa 20 2 := rfl
theorem lk_86_143 : (zPr L xs).1 86 143 = o_pfR 10 519 := rfl
theorem lk_86_146 : (zPr L xs).1 86 146 = o_aload 0 1 := rfl
theorem lk_86_147 : (zPr L xs).1 86 147 = o_push (.int (12)) 2 := rfl
theorem lk_86_149 : (zPr L xs).1 86 149 = o_newa 20 2 := rfl
theorem lk_86_151 : (zPr L xs).1 86 151 = o_pfR 10 536 := rfl
theorem lk_86_154 : (zPr L xs).1 86 154 = o_aload 0 1 := rfl
theorem lk_86_155 : (zPr L xs).1 86 155 = o_push (.int (12)) 2 := rfl
theorem lk_86_157 : (zPr L xs).1 86 157 = o_newa 20 2 := rfl
theorem lk_86_159 : (zPr L xs).1 86 159 = o_pfR 10 537 := rfl
theorem lk_86_162 : (zPr L xs).1 86 162 = o_aload 0 1 := rfl
theorem lk_86_163 : (zPr L xs).1 86 163 = o_push (.int (12)) 2 := rfl
theorem lk_86_165 : (zPr L xs).1 86 165 = o_newa 23 2 := rfl
theorem lk_86_167 : (zPr L xs).1 86 167 = o_pfR 10 538 := rfl
theorem lk_86_170 : (zPr L xs).1 86 170 = o_aload 0 1 := rfl
theorem lk_86_171 : (zPr L xs).1 86 171 = o_gfR 10 501 := rfl
theorem lk_86_174 : (zPr L xs).1 86 174 = o_push (.int (0)) 1 := rfl
theorem lk_86_175 : (zPr L xs).1 86 175 = o_push (.int (1)) 1 := rfl
theorem lk_86_176 : (zPr L xs).1 86 176 = o_xast 23 (vp_nar .boolean) := rfl
theorem lk_86_177 : (zPr L xs).1 86 177 = o_aload 0 1 := rfl
theorem lk_86_178 : (zPr L xs).1 86 178 = o_gfR 10 502 := rfl
theorem lk_86_181 : (zPr L xs).1 86 181 = o_push (.int (0)) 1 := rfl
theorem lk_86_182 : (zPr L xs).1 86 182 = o_push (.int (1)) 1 := rfl
theorem lk_86_183 : (zPr L xs).1 86 183 = o_xast 20 (fun x => x) := rfl
theorem lk_86_184 : (zPr L xs).1 86 184 = o_aload 0 1 := rfl
theorem lk_86_185 : (zPr L xs).1 86 185 = o_gfR 10 503 := rfl
theorem lk_86_188 : (zPr L xs).1 86 188 = o_push (.int (0)) 1 := rfl
theorem lk_86_189 : (zPr L xs).1 86 189 = o_push (.int (1)) 1 := rfl
theorem lk_86_190 : (zPr L xs).1 86 190 = o_xast 20 (fun x => x) := rfl
theorem lk_86_191 : (zPr L xs).1 86 191 = o_aload 0 1 := rfl
theorem lk_86_192 : (zPr L xs).1 86 192 = o_gfR 10 510 := rfl
theorem lk_86_195 : (zPr L xs).1 86 195 = o_push (.int (0)) 1 := rfl
theorem lk_86_196 : (zPr L xs).1 86 196 = o_push (.int (1)) 1 := rfl
theorem lk_86_197 : (zPr L xs).1 86 197 = o_xast 23 (vp_nar .boolean) := rfl
theorem lk_86_198 : (zPr L xs).1 86 198 = o_push (.int (0)) 1 := rfl
theorem lk_86_199 : (zPr L xs).1 86 199 = o_istore 1 1 := rfl
theorem lk_86_200 : (zPr L xs).1 86 200 = o_iload 1 1 := rfl
theorem lk_86_201 : (zPr L xs).1 86 201 = o_push (.int (3)) 1 := rfl
theorem lk_86_202 : (zPr L xs).1 86 202 = o_icge 218 := rfl
theorem lk_86_205 : (zPr L xs).1 86 205 = o_aload 0 1 := rfl
theorem lk_86_206 : (zPr L xs).1 86 206 = o_gfR 10 511 := rfl
theorem lk_86_209 : (zPr L xs).1 86 209 = o_iload 1 1 := rfl
theorem lk_86_210 : (zPr L xs).1 86 210 = o_push (.int (-1)) 1 := rfl
theorem lk_86_211 : (zPr L xs).1 86 211 = o_xast 20 (fun x => x) := rfl
theorem lk_86_212 : (zPr L xs).1 86 212 = o_iinc 1 (1) := rfl
theorem lk_86_215 : (zPr L xs).1 86 215 = o_goto 200 := rfl
theorem lk_86_218 : (zPr L xs).1 86 218 = o_vret := rfl
theorem lk_87_0 : (zPr L xs).1 87 0 = o_aload 0 1 := rfl
theorem lk_87_1 : (zPr L xs).1 87 1 = o_gfI 10 500 := rfl
theorem lk_87_4 : (zPr L xs).1 87 4 = o_iret (fun x => x) := rfl
theorem lk_88_0 : (zPr L xs).1 88 0 = o_iload 0 1 := rfl
theorem lk_88_1 : (zPr L xs).1 88 1 = o_iflt 13 := rfl
theorem lk_88_4 : (zPr L xs).1 88 4 = o_iload 0 1 := rfl
theorem lk_88_5 : (zPr L xs).1 88 5 = o_push (.int (3)) 1 := rfl
theorem lk_88_6 : (zPr L xs).1 88 6 = o_icge 13 := rfl
theorem lk_88_9 : (zPr L xs).1 88 9 = o_push (.int (1)) 1 := rfl
theorem lk_88_10 : (zPr L xs).1 88 10 = o_goto 14 := rfl
theorem lk_88_13 : (zPr L xs).1 88 13 = o_push (.int (0)) 1 := rfl
theorem lk_88_14 : (zPr L xs).1 88 14 = o_iret (fun x => x &&& 1) := rfl
theorem lk_89_0 : (zPr L xs).1 89 0 = o_iload 0 1 := rfl
theorem lk_89_1 : (zPr L xs).1 89 1 = o_ifne 8 := rfl
theorem lk_89_4 : (zPr L xs).1 89 4 = o_push (.long 0) 1 := rfl
theorem lk_89_5 : (zPr L xs).1 89 5 = o_goto 14 := rfl
theorem lk_89_8 : (zPr L xs).1 89 8 = o_iload 0 1 := rfl
theorem lk_89_9 : (zPr L xs).1 89 9 = o_i2l := rfl
theorem lk_89_10 : (zPr L xs).1 89 10 = o_push (.long (64)) 3 := rfl
theorem lk_89_13 : (zPr L xs).1 89 13 = o_lop (fun x y => x - y) := rfl
theorem lk_89_14 : (zPr L xs).1 89 14 = o_lret := rfl
theorem lk_90_0 : (zPr L xs).1 90 0 = o_iload 0 1 := rfl
theorem lk_90_1 : (zPr L xs).1 90 1 = o_cs 89 1 1 := rfl
theorem lk_90_4 : (zPr L xs).1 90 4 = o_push (.long (32)) 3 := rfl
theorem lk_90_7 : (zPr L xs).1 90 7 = o_lop (fun x y => x * y) := rfl
theorem lk_90_8 : (zPr L xs).1 90 8 = o_iload 1 1 := rfl
theorem lk_90_9 : (zPr L xs).1 90 9 = o_cs 89 1 1 := rfl
theorem lk_90_12 : (zPr L xs).1 90 12 = o_lop (fun x y => x + y) := rfl
theorem lk_90_13 : (zPr L xs).1 90 13 = o_lstore 7 2 := rfl
theorem lk_90_15 : (zPr L xs).1 90 15 = o_lload 7 2 := rfl
theorem lk_90_17 : (zPr L xs).1 90 17 = o_push (.long (32)) 3 := rfl
theorem lk_90_20 : (zPr L xs).1 90 20 = o_lop (fun x y => x * y) := rfl
theorem lk_90_21 : (zPr L xs).1 90 21 = o_iload 2 1 := rfl
theorem lk_90_22 : (zPr L xs).1 90 22 = o_cs 89 1 1 := rfl
theorem lk_90_25 : (zPr L xs).1 90 25 = o_lop (fun x y => x + y) := rfl
theorem lk_90_26 : (zPr L xs).1 90 26 = o_lstore 7 2 := rfl
theorem lk_90_28 : (zPr L xs).1 90 28 = o_lload 7 2 := rfl
theorem lk_90_30 : (zPr L xs).1 90 30 = o_push (.long (32)) 3 := rfl
theorem lk_90_33 : (zPr L xs).1 90 33 = o_lop (fun x y => x * y) := rfl
theorem lk_90_34 : (zPr L xs).1 90 34 = o_iload 3 1 := rfl
theorem lk_90_35 : (zPr L xs).1 90 35 = o_cs 89 1 1 := rfl
theorem lk_90_38 : (zPr L xs).1 90 38 = o_lop (fun x y => x + y) := rfl
theorem lk_90_39 : (zPr L xs).1 90 39 = o_lstore 7 2 := rfl
theorem lk_90_41 : (zPr L xs).1 90 41 = o_lload 7 2 := rfl
theorem lk_90_43 : (zPr L xs).1 90 43 = o_push (.long (32)) 3 := rfl
theorem lk_90_46 : (zPr L xs).1 90 46 = o_lop (fun x y => x * y) := rfl
theorem lk_90_47 : (zPr L xs).1 90 47 = o_iload 4 2 := rfl
theorem lk_90_49 : (zPr L xs).1 90 49 = o_cs 89 1 1 := rfl
theorem lk_90_52 : (zPr L xs).1 90 52 = o_lop (fun x y => x + y) := rfl
theorem lk_90_53 : (zPr L xs).1 90 53 = o_lstore 7 2 := rfl
theorem lk_90_55 : (zPr L xs).1 90 55 = o_lload 7 2 := rfl
theorem lk_90_57 : (zPr L xs).1 90 57 = o_push (.long (32)) 3 := rfl
theorem lk_90_60 : (zPr L xs).1 90 60 = o_lop (fun x y => x * y) := rfl
theorem lk_90_61 : (zPr L xs).1 90 61 = o_iload 5 2 := rfl
theorem lk_90_63 : (zPr L xs).1 90 63 = o_cs 89 1 1 := rfl
theorem lk_90_66 : (zPr L xs).1 90 66 = o_lop (fun x y => x + y) := rfl
theorem lk_90_67 : (zPr L xs).1 90 67 = o_lstore 7 2 := rfl
theorem lk_90_69 : (zPr L xs).1 90 69 = o_lload 7 2 := rfl
theorem lk_90_71 : (zPr L xs).1 90 71 = o_push (.long (32)) 3 := rfl
theorem lk_90_74 : (zPr L xs).1 90 74 = o_lop (fun x y => x * y) := rfl
theorem lk_90_75 : (zPr L xs).1 90 75 = o_iload 6 2 := rfl
theorem lk_90_77 : (zPr L xs).1 90 77 = o_cs 89 1 1 := rfl
theorem lk_90_80 : (zPr L xs).1 90 80 = o_lop (fun x y => x + y) := rfl
theorem lk_90_81 : (zPr L xs).1 90 81 = o_lret := rfl
theorem lk_91_0 : (zPr L xs).1 91 0 = o_iload 1 1 := rfl
theorem lk_91_1 : (zPr L xs).1 91 1 = o_aload 0 1 := rfl
theorem lk_91_2 : (zPr L xs).1 91 2 = o_gfR 10 517 := rfl
theorem lk_91_5 : (zPr L xs).1 91 5 = o_aload 0 1 := rfl
theorem lk_91_6 : (zPr L xs).1 91 6 = o_gfI 10 520 := rfl
theorem lk_91_9 : (zPr L xs).1 91 9 = o_xald 20 := rfl
theorem lk_91_10 : (zPr L xs).1 91 10 = o_icge 30 := rfl
theorem lk_91_13 : (zPr L xs).1 91 13 = o_aload 0 1 := rfl
theorem lk_91_14 : (zPr L xs).1 91 14 = o_gfR 10 516 := rfl
theorem lk_91_17 : (zPr L xs).1 91 17 = o_push (.int (48)) 2 := rfl
theorem lk_91_19 : (zPr L xs).1 91 19 = o_aload 0 1 := rfl
theorem lk_91_20 : (zPr L xs).1 91 20 = o_gfI 10 520 := rfl
theorem lk_91_23 : (zPr L xs).1 91 23 = o_iop (fun x y => x * y) := rfl
theorem lk_91_24 : (zPr L xs).1 91 24 = o_iload 1 1 := rfl
theorem lk_91_25 : (zPr L xs).1 91 25 = o_iop (fun x y => x + y) := rfl
theorem lk_91_26 : (zPr L xs).1 91 26 = o_xald 20 := rfl
theorem lk_91_27 : (zPr L xs).1 91 27 = o_goto 31 := rfl
theorem lk_91_30 : (zPr L xs).1 91 30 = o_push (.int (0)) 1 := rfl
theorem lk_91_31 : (zPr L xs).1 91 31 = o_iret (fun x => x) := rfl
theorem lk_92_0 : (zPr L xs).1 92 0 = o_iload 0 1 := rfl
theorem lk_92_1 : (zPr L xs).1 92 1 = o_push (.int (48)) 2 := rfl
theorem lk_92_3 : (zPr L xs).1 92 3 = o_iclt 16 := rfl
theorem lk_92_6 : (zPr L xs).1 92 6 = o_iload 0 1 := rfl
theorem lk_92_7 : (zPr L xs).1 92 7 = o_push (.int (57)) 2 := rfl
theorem lk_92_9 : (zPr L xs).1 92 9 = o_icgt 16 := rfl
theorem lk_92_12 : (zPr L xs).1 92 12 = o_push (.int (1)) 1 := rfl
theorem lk_92_13 : (zPr L xs).1 92 13 = o_goto 17 := rfl
theorem lk_92_16 : (zPr L xs).1 92 16 = o_push (.int (0)) 1 := rfl
theorem lk_92_17 : (zPr L xs).1 92 17 = o_iret (fun x => x &&& 1) := rfl
theorem lk_93_0 : (zPr L xs).1 93 0 = o_iload 0 1 := rfl
theorem lk_93_1 : (zPr L xs).1 93 1 = o_push (.int (97)) 2 := rfl
theorem lk_93_3 : (zPr L xs).1 93 3 = o_iclt 16 := rfl
theorem lk_93_6 : (zPr L xs).1 93 6 = o_iload 0 1 := rfl
theorem lk_93_7 : (zPr L xs).1 93 7 = o_push (.int (122)) 2 := rfl
theorem lk_93_9 : (zPr L xs).1 93 9 = o_icgt 16 := rfl
theorem lk_93_12 : (zPr L xs).1 93 12 = o_push (.int (1)) 1 := rfl
theorem lk_93_13 : (zPr L xs).1 93 13 = o_goto 17 := rfl
theorem lk_93_16 : (zPr L xs).1 93 16 = o_push (.int (0)) 1 := rfl
theorem lk_93_17 : (zPr L xs).1 93 17 = o_iret (fun x => x &&& 1) := rfl
theorem lk_94_0 : (zPr L xs).1 94 0 = o_iload 0 1 := rfl
theorem lk_94_1 : (zPr L xs).1 94 1 = o_push (.int (65)) 2 := rfl
theorem lk_94_3 : (zPr L xs).1 94 3 = o_iclt 16 := rfl
theorem lk_94_6 : (zPr L xs).1 94 6 = o_iload 0 1 := rfl
theorem lk_94_7 : (zPr L xs).1 94 7 = o_push (.int (90)) 2 := rfl
theorem lk_94_9 : (zPr L xs).1 94 9 = o_icgt 16 := rfl
theorem lk_94_12 : (zPr L xs).1 94 12 = o_push (.int (1)) 1 := rfl
theorem lk_94_13 : (zPr L xs).1 94 13 = o_goto 17 := rfl
theorem lk_94_16 : (zPr L xs).1 94 16 = o_push (.int (0)) 1 := rfl
theorem lk_94_17 : (zPr L xs).1 94 17 = o_iret (fun x => x &&& 1) := rfl
theorem lk_95_0 : (zPr L xs).1 95 0 = o_push (.long 0) 1 := rfl
theorem lk_95_1 : (zPr L xs).1 95 1 = o_lstore 1 1 := rfl
theorem lk_95_2 : (zPr L xs).1 95 2 = o_push (.int (0)) 1 := rfl
theorem lk_95_3 : (zPr L xs).1 95 3 = o_istore 3 1 := rfl
theorem lk_95_4 : (zPr L xs).1 95 4 = o_aload 0 1 := rfl
theorem lk_95_5 : (zPr L xs).1 95 5 = o_aload 0 1 := rfl
theorem lk_95_6 : (zPr L xs).1 95 6 = o_gfI 10 521 := rfl
theorem lk_95_9 : (zPr L xs).1 95 9 = o_cv 91 1 2 10 10 := rfl
theorem lk_95_12 : (zPr L xs).1 95 12 = o_cs 94 1 1 := rfl
theorem lk_95_15 : (zPr L xs).1 95 15 = o_ifeq 62 := rfl
theorem lk_95_18 : (zPr L xs).1 95 18 = o_iload 3 1 := rfl
theorem lk_95_19 : (zPr L xs).1 95 19 = o_push (.int (7)) 2 := rfl
theorem lk_95_21 : (zPr L xs).1 95 21 = o_icge 44 := rfl
theorem lk_95_24 : (zPr L xs).1 95 24 = o_lload 1 1 := rfl
theorem lk_95_25 : (zPr L xs).1 95 25 = o_push (.long (32)) 3 := rfl
theorem lk_95_28 : (zPr L xs).1 95 28 = o_lop (fun x y => x * y) := rfl
theorem lk_95_29 : (zPr L xs).1 95 29 = o_aload 0 1 := rfl
theorem lk_95_30 : (zPr L xs).1 95 30 = o_aload 0 1 := rfl
theorem lk_95_31 : (zPr L xs).1 95 31 = o_gfI 10 521 := rfl
theorem lk_95_34 : (zPr L xs).1 95 34 = o_cv 91 1 2 10 10 := rfl
theorem lk_95_37 : (zPr L xs).1 95 37 = o_cs 89 1 1 := rfl
theorem lk_95_40 : (zPr L xs).1 95 40 = o_lop (fun x y => x + y) := rfl
theorem lk_95_41 : (zPr L xs).1 95 41 = o_goto 45 := rfl
theorem lk_95_44 : (zPr L xs).1 95 44 = o_lload 1 1 := rfl
theorem lk_95_45 : (zPr L xs).1 95 45 = o_lstore 1 1 := rfl
theorem lk_95_46 : (zPr L xs).1 95 46 = o_iinc 3 (1) := rfl
theorem lk_95_49 : (zPr L xs).1 95 49 = o_aload 0 1 := rfl
theorem lk_95_50 : (zPr L xs).1 95 50 = o_dup := rfl
theorem lk_95_51 : (zPr L xs).1 95 51 = o_gfI 10 521 := rfl
theorem lk_95_54 : (zPr L xs).1 95 54 = o_push (.int (1)) 1 := rfl
theorem lk_95_55 : (zPr L xs).1 95 55 = o_iop (fun x y => x + y) := rfl
theorem lk_95_56 : (zPr L xs).1 95 56 = o_pfI 10 521 (fun x => x) := rfl
theorem lk_95_59 : (zPr L xs).1 95 59 = o_goto 4 := rfl
theorem lk_95_62 : (zPr L xs).1 95 62 = o_iload 3 1 := rfl
theorem lk_95_63 : (zPr L xs).1 95 63 = o_ifeq 72 := rfl
theorem lk_95_66 : (zPr L xs).1 95 66 = o_iload 3 1 := rfl
theorem lk_95_67 : (zPr L xs).1 95 67 = o_push (.int (7)) 2 := rfl
theorem lk_95_69 : (zPr L xs).1 95 69 = o_icle 76 := rfl
theorem lk_95_72 : (zPr L xs).1 95 72 = o_push (.long (-1)) 3 := rfl
theorem lk_95_75 : (zPr L xs).1 95 75 = o_lret := rfl
theorem lk_95_76 : (zPr L xs).1 95 76 = o_iload 3 1 := rfl
theorem lk_95_77 : (zPr L xs).1 95 77 = o_istore 4 2 := rfl
theorem lk_95_79 : (zPr L xs).1 95 79 = o_iload 4 2 := rfl
theorem lk_95_81 : (zPr L xs).1 95 81 = o_push (.int (7)) 2 := rfl
theorem lk_95_83 : (zPr L xs).1 95 83 = o_icge 98 := rfl
theorem lk_95_86 : (zPr L xs).1 95 86 = o_lload 1 1 := rfl
theorem lk_95_87 : (zPr L xs).1 95 87 = o_push (.long (32)) 3 := rfl
theorem lk_95_90 : (zPr L xs).1 95 90 = o_lop (fun x y => x * y) := rfl
theorem lk_95_91 : (zPr L xs).1 95 91 = o_lstore 1 1 := rfl
theorem lk_95_92 : (zPr L xs).1 95 92 = o_iinc 4 (1) := rfl
theorem lk_95_95 : (zPr L xs).1 95 95 = o_goto 79 := rfl
theorem lk_95_98 : (zPr L xs).1 95 98 = o_lload 1 1 := rfl
theorem lk_95_99 : (zPr L xs).1 95 99 = o_lret := rfl
theorem lk_96_0 : (zPr L xs).1 96 0 = o_aload 0 1 := rfl
theorem lk_96_1 : (zPr L xs).1 96 1 = o_aload 0 1 := rfl
theorem lk_96_2 : (zPr L xs).1 96 2 = o_gfI 10 521 := rfl
theorem lk_96_5 : (zPr L xs).1 96 5 = o_cv 91 1 2 10 10 := rfl
theorem lk_96_8 : (zPr L xs).1 96 8 = o_iload 1 1 := rfl
theorem lk_96_9 : (zPr L xs).1 96 9 = o_icne 25 := rfl
theorem lk_96_12 : (zPr L xs).1 96 12 = o_aload 0 1 := rfl
theorem lk_96_13 : (zPr L xs).1 96 13 = o_dup := rfl
theorem lk_96_14 : (zPr L xs).1 96 14 = o_gfI 10 521 := rfl
theorem lk_96_17 : (zPr L xs).1 96 17 = o_push (.int (1)) 1 := rfl
theorem lk_96_18 : (zPr L xs).1 96 18 = o_iop (fun x y => x + y) := rfl
theorem lk_96_19 : (zPr L xs).1 96 19 = o_pfI 10 521 (fun x => x) := rfl
theorem lk_96_22 : (zPr L xs).1 96 22 = o_goto 30 := rfl
theorem lk_96_25 : (zPr L xs).1 96 25 = o_aload 0 1 := rfl
theorem lk_96_26 : (zPr L xs).1 96 26 = o_push (.int (1)) 1 := rfl
theorem lk_96_27 : (zPr L xs).1 96 27 = o_pfI 10 522 (fun x => x &&& 1) := rfl
theorem lk_96_30 : (zPr L xs).1 96 30 = o_vret := rfl
theorem lk_97_0 : (zPr L xs).1 97 0 = o_aload 0 1 := rfl
theorem lk_97_1 : (zPr L xs).1 97 1 = o_aload 0 1 := rfl
theorem lk_97_2 : (zPr L xs).1 97 2 = o_gfI 10 521 := rfl
theorem lk_97_5 : (zPr L xs).1 97 5 = o_cv 91 1 2 10 10 := rfl
theorem lk_97_8 : (zPr L xs).1 97 8 = o_istore 1 1 := rfl
theorem lk_97_9 : (zPr L xs).1 97 9 = o_aload 0 1 := rfl
theorem lk_97_10 : (zPr L xs).1 97 10 = o_iload 1 1 := rfl
theorem lk_97_11 : (zPr L xs).1 97 11 = o_push (.int (97)) 2 := rfl
theorem lk_97_13 : (zPr L xs).1 97 13 = o_iop (fun x y => x - y) := rfl
theorem lk_97_14 : (zPr L xs).1 97 14 = o_pfI 10 526 (fun x => x) := rfl
theorem lk_97_17 : (zPr L xs).1 97 17 = o_aload 0 1 := rfl
theorem lk_97_18 : (zPr L xs).1 97 18 = o_aload 0 1 := rfl
theorem lk_97_19 : (zPr L xs).1 97 19 = o_gfI 10 522 := rfl
theorem lk_97_22 : (zPr L xs).1 97 22 = o_ifne 37 := rfl
theorem lk_97_25 : (zPr L xs).1 97 25 = o_iload 1 1 := rfl
theorem lk_97_26 : (zPr L xs).1 97 26 = o_push (.int (97)) 2 := rfl
theorem lk_97_28 : (zPr L xs).1 97 28 = o_iclt 37 := rfl
theorem lk_97_31 : (zPr L xs).1 97 31 = o_iload 1 1 := rfl
theorem lk_97_32 : (zPr L xs).1 97 32 = o_push (.int (100)) 2 := rfl
theorem lk_97_34 : (zPr L xs).1 97 34 = o_icle 41 := rfl
theorem lk_97_37 : (zPr L xs).1 97 37 = o_push (.int (1)) 1 := rfl
theorem lk_97_38 : (zPr L xs).1 97 38 = o_goto 42 := rfl
theorem lk_97_41 : (zPr L xs).1 97 41 = o_push (.int (0)) 1 := rfl
theorem lk_97_42 : (zPr L xs).1 97 42 = o_pfI 10 522 (fun x => x &&& 1) := rfl
theorem lk_97_45 : (zPr L xs).1 97 45 = o_aload 0 1 := rfl
theorem lk_97_46 : (zPr L xs).1 97 46 = o_dup := rfl
theorem lk_97_47 : (zPr L xs).1 97 47 = o_gfI 10 521 := rfl
theorem lk_97_50 : (zPr L xs).1 97 50 = o_push (.int (1)) 1 := rfl
theorem lk_97_51 : (zPr L xs).1 97 51 = o_iop (fun x y => x + y) := rfl
theorem lk_97_52 : (zPr L xs).1 97 52 = o_pfI 10 521 (fun x => x) := rfl
theorem lk_97_55 : (zPr L xs).1 97 55 = o_vret := rfl
theorem lk_98_0 : (zPr L xs).1 98 0 = o_iload 0 1 := rfl
theorem lk_98_1 : (zPr L xs).1 98 1 = o_push (.int (83)) 2 := rfl
theorem lk_98_3 : (zPr L xs).1 98 3 = o_icne 10 := rfl
theorem lk_98_6 : (zPr L xs).1 98 6 = o_push (.int (1)) 1 := rfl
theorem lk_98_7 : (zPr L xs).1 98 7 = o_goto 42 := rfl
theorem lk_98_10 : (zPr L xs).1 98 10 = o_iload 0 1 := rfl
theorem lk_98_11 : (zPr L xs).1 98 11 = o_push (.int (65)) 2 := rfl
theorem lk_98_13 : (zPr L xs).1 98 13 = o_icne 20 := rfl
theorem lk_98_16 : (zPr L xs).1 98 16 = o_push (.int (2)) 1 := rfl
theorem lk_98_17 : (zPr L xs).1 98 17 = o_goto 42 := rfl
theorem lk_98_20 : (zPr L xs).1 98 20 = o_iload 0 1 := rfl
theorem lk_98_21 : (zPr L xs).1 98 21 = o_push (.int (70)) 2 := rfl
theorem lk_98_23 : (zPr L xs).1 98 23 = o_icne 30 := rfl
theorem lk_98_26 : (zPr L xs).1 98 26 = o_push (.int (4)) 1 := rfl
theorem lk_98_27 : (zPr L xs).1 98 27 = o_goto 42 := rfl
theorem lk_98_30 : (zPr L xs).1 98 30 = o_iload 0 1 := rfl
theorem lk_98_31 : (zPr L xs).1 98 31 = o_push (.int (68)) 2 := rfl
theorem lk_98_33 : (zPr L xs).1 98 33 = o_icne 41 := rfl
theorem lk_98_36 : (zPr L xs).1 98 36 = o_push (.int (8)) 2 := rfl
theorem lk_98_38 : (zPr L xs).1 98 38 = o_goto 42 := rfl
theorem lk_98_41 : (zPr L xs).1 98 41 = o_push (.int (0)) 1 := rfl
theorem lk_98_42 : (zPr L xs).1 98 42 = o_iret (fun x => x) := rfl
theorem lk_99_0 : (zPr L xs).1 99 0 = o_aload 0 1 := rfl
theorem lk_99_1 : (zPr L xs).1 99 1 = o_push (.int (40)) 2 := rfl
theorem lk_99_3 : (zPr L xs).1 99 3 = o_cv 96 1 2 10 10 := rfl
theorem lk_99_6 : (zPr L xs).1 99 6 = o_aload 0 1 := rfl
theorem lk_99_7 : (zPr L xs).1 99 7 = o_push (.int (0)) 1 := rfl
theorem lk_99_8 : (zPr L xs).1 99 8 = o_pfI 10 529 (fun x => x) := rfl
theorem lk_99_11 : (zPr L xs).1 99 11 = o_aload 0 1 := rfl
theorem lk_99_12 : (zPr L xs).1 99 12 = o_aload 0 1 := rfl
theorem lk_99_13 : (zPr L xs).1 99 13 = o_gfI 10 521 := rfl
theorem lk_99_16 : (zPr L xs).1 99 16 = o_cv 91 1 2 10 10 := rfl
theorem lk_99_19 : (zPr L xs).1 99 19 = o_cs 98 1 1 := rfl
theorem lk_99_22 : (zPr L xs).1 99 22 = o_ifle 58 := rfl
theorem lk_99_25 : (zPr L xs).1 99 25 = o_aload 0 1 := rfl
theorem lk_99_26 : (zPr L xs).1 99 26 = o_aload 0 1 := rfl
theorem lk_99_27 : (zPr L xs).1 99 27 = o_gfI 10 529 := rfl
theorem lk_99_30 : (zPr L xs).1 99 30 = o_aload 0 1 := rfl
theorem lk_99_31 : (zPr L xs).1 99 31 = o_aload 0 1 := rfl
theorem lk_99_32 : (zPr L xs).1 99 32 = o_gfI 10 521 := rfl
theorem lk_99_35 : (zPr L xs).1 99 35 = o_cv 91 1 2 10 10 := rfl
theorem lk_99_38 : (zPr L xs).1 99 38 = o_cs 98 1 1 := rfl
theorem lk_99_41 : (zPr L xs).1 99 41 = o_iop (fun x y => x ||| y) := rfl
theorem lk_99_42 : (zPr L xs).1 99 42 = o_pfI 10 529 (fun x => x) := rfl
theorem lk_99_45 : (zPr L xs).1 99 45 = o_aload 0 1 := rfl
theorem lk_99_46 : (zPr L xs).1 99 46 = o_dup := rfl
theorem lk_99_47 : (zPr L xs).1 99 47 = o_gfI 10 521 := rfl
theorem lk_99_50 : (zPr L xs).1 99 50 = o_push (.int (1)) 1 := rfl
theorem lk_99_51 : (zPr L xs).1 99 51 = o_iop (fun x y => x + y) := rfl
theorem lk_99_52 : (zPr L xs).1 99 52 = o_pfI 10 521 (fun x => x) := rfl
theorem lk_99_55 : (zPr L xs).1 99 55 = o_goto 11 := rfl
theorem lk_99_58 : (zPr L xs).1 99 58 = o_aload 0 1 := rfl
theorem lk_99_59 : (zPr L xs).1 99 59 = o_push (.int (41)) 2 := rfl
theorem lk_99_61 : (zPr L xs).1 99 61 = o_cv 96 1 2 10 10 := rfl
theorem lk_99_64 : (zPr L xs).1 99 64 = o_vret := rfl
theorem lk_100_0 : (zPr L xs).1 100 0 = o_aload 0 1 := rfl
theorem lk_100_1 : (zPr L xs).1 100 1 = o_aload 0 1 := rfl
theorem lk_100_2 : (zPr L xs).1 100 2 = o_gfI 10 521 := rfl
theorem lk_100_5 : (zPr L xs).1 100 5 = o_pfI 10 531 (fun x => x) := rfl
theorem lk_100_8 : (zPr L xs).1 100 8 = o_aload 0 1 := rfl
theorem lk_100_9 : (zPr L xs).1 100 9 = o_aload 0 1 := rfl
theorem lk_100_10 : (zPr L xs).1 100 10 = o_gfI 10 521 := rfl
theorem lk_100_13 : (zPr L xs).1 100 13 = o_cv 91 1 2 10 10 := rfl
theorem lk_100_16 : (zPr L xs).1 100 16 = o_cs 93 1 1 := rfl
theorem lk_100_19 : (zPr L xs).1 100 19 = o_ifeq 35 := rfl
theorem lk_100_22 : (zPr L xs).1 100 22 = o_aload 0 1 := rfl
theorem lk_100_23 : (zPr L xs).1 100 23 = o_dup := rfl
theorem lk_100_24 : (zPr L xs).1 100 24 = o_gfI 10 521 := rfl
theorem lk_100_27 : (zPr L xs).1 100 27 = o_push (.int (1)) 1 := rfl
theorem lk_100_28 : (zPr L xs).1 100 28 = o_iop (fun x y => x + y) := rfl
theorem lk_100_29 : (zPr L xs).1 100 29 = o_pfI 10 521 (fun x => x) := rfl
theorem lk_100_32 : (zPr L xs).1 100 32 = o_goto 8 := rfl
theorem lk_100_35 : (zPr L xs).1 100 35 = o_aload 0 1 := rfl
theorem lk_100_36 : (zPr L xs).1 100 36 = o_aload 0 1 := rfl
theorem lk_100_37 : (zPr L xs).1 100 37 = o_gfI 10 521 := rfl
theorem lk_100_40 : (zPr L xs).1 100 40 = o_aload 0 1 := rfl
theorem lk_100_41 : (zPr L xs).1 100 41 = o_gfI 10 531 := rfl
theorem lk_100_44 : (zPr L xs).1 100 44 = o_iop (fun x y => x - y) := rfl
theorem lk_100_45 : (zPr L xs).1 100 45 = o_pfI 10 532 (fun x => x) := rfl
theorem lk_100_48 : (zPr L xs).1 100 48 = o_aload 0 1 := rfl
theorem lk_100_49 : (zPr L xs).1 100 49 = o_aload 0 1 := rfl
theorem lk_100_50 : (zPr L xs).1 100 50 = o_gfI 10 522 := rfl
theorem lk_100_53 : (zPr L xs).1 100 53 = o_ifne 73 := rfl
theorem lk_100_56 : (zPr L xs).1 100 56 = o_aload 0 1 := rfl
theorem lk_100_57 : (zPr L xs).1 100 57 = o_gfI 10 532 := rfl
theorem lk_100_60 : (zPr L xs).1 100 60 = o_push (.int (1)) 1 := rfl
theorem lk_100_61 : (zPr L xs).1 100 61 = o_iclt 73 := rfl
theorem lk_100_64 : (zPr L xs).1 100 64 = o_aload 0 1 := rfl
theorem lk_100_65 : (zPr L xs).1 100 65 = o_gfI 10 532 := rfl
theorem lk_100_68 : (zPr L xs).1 100 68 = o_push (.int (6)) 2 := rfl
theorem lk_100_70 : (zPr L xs).1 100 70 = o_icle 77 := rfl
theorem lk_100_73 : (zPr L xs).1 100 73 = o_push (.int (1)) 1 := rfl
theorem lk_100_74 : (zPr L xs).1 100 74 = o_goto 78 := rfl
theorem lk_100_77 : (zPr L xs).1 100 77 = o_push (.int (0)) 1 := rfl
theorem lk_100_78 : (zPr L xs).1 100 78 = o_pfI 10 522 (fun x => x &&& 1) := rfl
theorem lk_100_81 : (zPr L xs).1 100 81 = o_vret := rfl
theorem lk_101_0 : (zPr L xs).1 101 0 = o_aload 0 1 := rfl
theorem lk_101_1 : (zPr L xs).1 101 1 = o_aload 0 1 := rfl
theorem lk_101_2 : (zPr L xs).1 101 2 = o_gfI 10 521 := rfl
theorem lk_101_5 : (zPr L xs).1 101 5 = o_cv 91 1 2 10 10 := rfl
theorem lk_101_8 : (zPr L xs).1 101 8 = o_push (.int (42)) 2 := rfl
theorem lk_101_10 : (zPr L xs).1 101 10 = o_icne 24 := rfl
theorem lk_101_13 : (zPr L xs).1 101 13 = o_aload 0 1 := rfl
theorem lk_101_14 : (zPr L xs).1 101 14 = o_dup := rfl
theorem lk_101_15 : (zPr L xs).1 101 15 = o_gfI 10 521 := rfl
theorem lk_101_18 : (zPr L xs).1 101 18 = o_push (.int (1)) 1 := rfl
theorem lk_101_19 : (zPr L xs).1 101 19 = o_iop (fun x y => x + y) := rfl
theorem lk_101_20 : (zPr L xs).1 101 20 = o_pfI 10 521 (fun x => x) := rfl
theorem lk_101_23 : (zPr L xs).1 101 23 = o_vret := rfl
theorem lk_101_24 : (zPr L xs).1 101 24 = o_aload 0 1 := rfl
theorem lk_101_25 : (zPr L xs).1 101 25 = o_gfI 10 521 := rfl
theorem lk_101_28 : (zPr L xs).1 101 28 = o_istore 1 1 := rfl
theorem lk_101_29 : (zPr L xs).1 101 29 = o_aload 0 1 := rfl
theorem lk_101_30 : (zPr L xs).1 101 30 = o_aload 0 1 := rfl
theorem lk_101_31 : (zPr L xs).1 101 31 = o_gfI 10 521 := rfl
theorem lk_101_34 : (zPr L xs).1 101 34 = o_cv 91 1 2 10 10 := rfl
theorem lk_101_37 : (zPr L xs).1 101 37 = o_cs 92 1 1 := rfl
theorem lk_101_40 : (zPr L xs).1 101 40 = o_ifeq 56 := rfl
theorem lk_101_43 : (zPr L xs).1 101 43 = o_aload 0 1 := rfl
theorem lk_101_44 : (zPr L xs).1 101 44 = o_dup := rfl
theorem lk_101_45 : (zPr L xs).1 101 45 = o_gfI 10 521 := rfl
theorem lk_101_48 : (zPr L xs).1 101 48 = o_push (.int (1)) 1 := rfl
theorem lk_101_49 : (zPr L xs).1 101 49 = o_iop (fun x y => x + y) := rfl
theorem lk_101_50 : (zPr L xs).1 101 50 = o_pfI 10 521 (fun x => x) := rfl
theorem lk_101_53 : (zPr L xs).1 101 53 = o_goto 29 := rfl
theorem lk_101_56 : (zPr L xs).1 101 56 = o_aload 0 1 := rfl
theorem lk_101_57 : (zPr L xs).1 101 57 = o_aload 0 1 := rfl
theorem lk_101_58 : (zPr L xs).1 101 58 = o_gfI 10 522 := rfl
theorem lk_101_61 : (zPr L xs).1 101 61 = o_ifne 82 := rfl
theorem lk_101_64 : (zPr L xs).1 101 64 = o_aload 0 1 := rfl
theorem lk_101_65 : (zPr L xs).1 101 65 = o_gfI 10 521 := rfl
theorem lk_101_68 : (zPr L xs).1 101 68 = o_iload 1 1 := rfl
theorem lk_101_69 : (zPr L xs).1 101 69 = o_iceq 82 := rfl
theorem lk_101_72 : (zPr L xs).1 101 72 = o_aload 0 1 := rfl
theorem lk_101_73 : (zPr L xs).1 101 73 = o_gfI 10 521 := rfl
theorem lk_101_76 : (zPr L xs).1 101 76 = o_iload 1 1 := rfl
theorem lk_101_77 : (zPr L xs).1 101 77 = o_iop (fun x y => x - y) := rfl
theorem lk_101_78 : (zPr L xs).1 101 78 = o_push (.int (3)) 1 := rfl
theorem lk_101_79 : (zPr L xs).1 101 79 = o_icle 86 := rfl
theorem lk_101_82 : (zPr L xs).1 101 82 = o_push (.int (1)) 1 := rfl
theorem lk_101_83 : (zPr L xs).1 101 83 = o_goto 87 := rfl
theorem lk_101_86 : (zPr L xs).1 101 86 = o_push (.int (0)) 1 := rfl
theorem lk_101_87 : (zPr L xs).1 101 87 = o_pfI 10 522 (fun x => x &&& 1) := rfl
theorem lk_101_90 : (zPr L xs).1 101 90 = o_vret := rfl
theorem lk_102_0 : (zPr L xs).1 102 0 = o_aload 0 1 := rfl
theorem lk_102_1 : (zPr L xs).1 102 1 = o_aload 0 1 := rfl
theorem lk_102_2 : (zPr L xs).1 102 2 = o_gfI 10 521 := rfl
theorem lk_102_5 : (zPr L xs).1 102 5 = o_pfI 10 527 (fun x => x) := rfl
theorem lk_102_8 : (zPr L xs).1 102 8 = o_push (.int (1)) 1 := rfl
theorem lk_102_9 : (zPr L xs).1 102 9 = o_istore 1 1 := rfl
theorem lk_102_10 : (zPr L xs).1 102 10 = o_iload 1 1 := rfl
theorem lk_102_11 : (zPr L xs).1 102 11 = o_ifeq 95 := rfl
theorem lk_102_14 : (zPr L xs).1 102 14 = o_aload 0 1 := rfl
theorem lk_102_15 : (zPr L xs).1 102 15 = o_cv 101 0 2 10 10 := rfl
theorem lk_102_18 : (zPr L xs).1 102 18 = o_aload 0 1 := rfl
theorem lk_102_19 : (zPr L xs).1 102 19 = o_aload 0 1 := rfl
theorem lk_102_20 : (zPr L xs).1 102 20 = o_gfI 10 521 := rfl
theorem lk_102_23 : (zPr L xs).1 102 23 = o_cv 91 1 2 10 10 := rfl
theorem lk_102_26 : (zPr L xs).1 102 26 = o_push (.int (58)) 2 := rfl
theorem lk_102_28 : (zPr L xs).1 102 28 = o_icne 45 := rfl
theorem lk_102_31 : (zPr L xs).1 102 31 = o_aload 0 1 := rfl
theorem lk_102_32 : (zPr L xs).1 102 32 = o_dup := rfl
theorem lk_102_33 : (zPr L xs).1 102 33 = o_gfI 10 521 := rfl
theorem lk_102_36 : (zPr L xs).1 102 36 = o_push (.int (1)) 1 := rfl
theorem lk_102_37 : (zPr L xs).1 102 37 = o_iop (fun x y => x + y) := rfl
theorem lk_102_38 : (zPr L xs).1 102 38 = o_pfI 10 521 (fun x => x) := rfl
theorem lk_102_41 : (zPr L xs).1 102 41 = o_aload 0 1 := rfl
theorem lk_102_42 : (zPr L xs).1 102 42 = o_cv 101 0 2 10 10 := rfl
theorem lk_102_45 : (zPr L xs).1 102 45 = o_aload 0 1 := rfl
theorem lk_102_46 : (zPr L xs).1 102 46 = o_gfI 10 522 := rfl
theorem lk_102_49 : (zPr L xs).1 102 49 = o_ifne 69 := rfl
theorem lk_102_52 : (zPr L xs).1 102 52 = o_aload 0 1 := rfl
theorem lk_102_53 : (zPr L xs).1 102 53 = o_aload 0 1 := rfl
theorem lk_102_54 : (zPr L xs).1 102 54 = o_gfI 10 521 := rfl
theorem lk_102_57 : (zPr L xs).1 102 57 = o_cv 91 1 2 10 10 := rfl
theorem lk_102_60 : (zPr L xs).1 102 60 = o_push (.int (44)) 2 := rfl
theorem lk_102_62 : (zPr L xs).1 102 62 = o_icne 69 := rfl
theorem lk_102_65 : (zPr L xs).1 102 65 = o_push (.int (1)) 1 := rfl
theorem lk_102_66 : (zPr L xs).1 102 66 = o_goto 70 := rfl
theorem lk_102_69 : (zPr L xs).1 102 69 = o_push (.int (0)) 1 := rfl
theorem lk_102_70 : (zPr L xs).1 102 70 = o_istore 1 1 := rfl
theorem lk_102_71 : (zPr L xs).1 102 71 = o_aload 0 1 := rfl
theorem lk_102_72 : (zPr L xs).1 102 72 = o_iload 1 1 := rfl
theorem lk_102_73 : (zPr L xs).1 102 73 = o_ifeq 85 := rfl
theorem lk_102_76 : (zPr L xs).1 102 76 = o_aload 0 1 := rfl
theorem lk_102_77 : (zPr L xs).1 102 77 = o_gfI 10 521 := rfl
theorem lk_102_80 : (zPr L xs).1 102 80 = o_push (.int (1)) 1 := rfl
theorem lk_102_81 : (zPr L xs).1 102 81 = o_iop (fun x y => x + y) := rfl
theorem lk_102_82 : (zPr L xs).1 102 82 = o_goto 89 := rfl
theorem lk_102_85 : (zPr L xs).1 102 85 = o_aload 0 1 := rfl
theorem lk_102_86 : (zPr L xs).1 102 86 = o_gfI 10 521 := rfl
theorem lk_102_89 : (zPr L xs).1 102 89 = o_pfI 10 521 (fun x => x) := rfl
theorem lk_102_92 : (zPr L xs).1 102 92 = o_goto 10 := rfl
theorem lk_102_95 : (zPr L xs).1 102 95 = o_aload 0 1 := rfl
theorem lk_102_96 : (zPr L xs).1 102 96 = o_aload 0 1 := rfl
theorem lk_102_97 : (zPr L xs).1 102 97 = o_gfI 10 521 := rfl
theorem lk_102_100 : (zPr L xs).1 102 100 = o_pfI 10 528 (fun x => x) := rfl
theorem lk_102_103 : (zPr L xs).1 102 103 = o_vret := rfl
theorem lk_103_0 : (zPr L xs).1 103 0 = o_aload 0 1 := rfl
theorem lk_103_1 : (zPr L xs).1 103 1 = o_iload 1 1 := rfl
theorem lk_103_2 : (zPr L xs).1 103 2 = o_cv 91 1 2 10 10 := rfl
theorem lk_103_5 : (zPr L xs).1 103 5 = o_push (.int (42)) 2 := rfl
theorem lk_103_7 : (zPr L xs).1 103 7 = o_icne 12 := rfl
theorem lk_103_10 : (zPr L xs).1 103 10 = o_iload 2 1 := rfl
theorem lk_103_11 : (zPr L xs).1 103 11 = o_iret (fun x => x) := rfl
theorem lk_103_12 : (zPr L xs).1 103 12 = o_push (.int (0)) 1 := rfl
theorem lk_103_13 : (zPr L xs).1 103 13 = o_istore 3 1 := rfl
theorem lk_103_14 : (zPr L xs).1 103 14 = o_iload 1 1 := rfl
theorem lk_103_15 : (zPr L xs).1 103 15 = o_istore 4 2 := rfl
theorem lk_103_17 : (zPr L xs).1 103 17 = o_aload 0 1 := rfl
theorem lk_103_18 : (zPr L xs).1 103 18 = o_iload 4 2 := rfl
theorem lk_103_20 : (zPr L xs).1 103 20 = o_cv 91 1 2 10 10 := rfl
theorem lk_103_23 : (zPr L xs).1 103 23 = o_cs 92 1 1 := rfl
theorem lk_103_26 : (zPr L xs).1 103 26 = o_ifeq 50 := rfl
theorem lk_103_29 : (zPr L xs).1 103 29 = o_push (.int (10)) 2 := rfl
theorem lk_103_31 : (zPr L xs).1 103 31 = o_iload 3 1 := rfl
theorem lk_103_32 : (zPr L xs).1 103 32 = o_iop (fun x y => x * y) := rfl
theorem lk_103_33 : (zPr L xs).1 103 33 = o_aload 0 1 := rfl
theorem lk_103_34 : (zPr L xs).1 103 34 = o_iload 4 2 := rfl
theorem lk_103_36 : (zPr L xs).1 103 36 = o_cv 91 1 2 10 10 := rfl
theorem lk_103_39 : (zPr L xs).1 103 39 = o_iop (fun x y => x + y) := rfl
theorem lk_103_40 : (zPr L xs).1 103 40 = o_push (.int (48)) 2 := rfl
theorem lk_103_42 : (zPr L xs).1 103 42 = o_iop (fun x y => x - y) := rfl
theorem lk_103_43 : (zPr L xs).1 103 43 = o_istore 3 1 := rfl
theorem lk_103_44 : (zPr L xs).1 103 44 = o_iinc 4 (1) := rfl
theorem lk_103_47 : (zPr L xs).1 103 47 = o_goto 17 := rfl
theorem lk_103_50 : (zPr L xs).1 103 50 = o_iload 3 1 := rfl
theorem lk_103_51 : (zPr L xs).1 103 51 = o_iret (fun x => x) := rfl
theorem lk_104_0 : (zPr L xs).1 104 0 = o_iload 1 1 := rfl
theorem lk_104_1 : (zPr L xs).1 104 1 = o_istore 2 1 := rfl
theorem lk_104_2 : (zPr L xs).1 104 2 = o_aload 0 1 := rfl
theorem lk_104_3 : (zPr L xs).1 104 3 = o_iload 2 1 := rfl
theorem lk_104_4 : (zPr L xs).1 104 4 = o_cv 91 1 2 10 10 := rfl
theorem lk_104_7 : (zPr L xs).1 104 7 = o_push (.int (42)) 2 := rfl
theorem lk_104_9 : (zPr L xs).1 104 9 = o_icne 16 := rfl
theorem lk_104_12 : (zPr L xs).1 104 12 = o_iload 2 1 := rfl
theorem lk_104_13 : (zPr L xs).1 104 13 = o_push (.int (1)) 1 := rfl
theorem lk_104_14 : (zPr L xs).1 104 14 = o_iop (fun x y => x + y) := rfl
theorem lk_104_15 : (zPr L xs).1 104 15 = o_iret (fun x => x) := rfl
theorem lk_104_16 : (zPr L xs).1 104 16 = o_aload 0 1 := rfl
theorem lk_104_17 : (zPr L xs).1 104 17 = o_iload 2 1 := rfl
theorem lk_104_18 : (zPr L xs).1 104 18 = o_cv 91 1 2 10 10 := rfl
theorem lk_104_21 : (zPr L xs).1 104 21 = o_cs 92 1 1 := rfl
theorem lk_104_24 : (zPr L xs).1 104 24 = o_ifeq 33 := rfl
theorem lk_104_27 : (zPr L xs).1 104 27 = o_iinc 2 (1) := rfl
theorem lk_104_30 : (zPr L xs).1 104 30 = o_goto 16 := rfl
theorem lk_104_33 : (zPr L xs).1 104 33 = o_iload 2 1 := rfl
theorem lk_104_34 : (zPr L xs).1 104 34 = o_iret (fun x => x) := rfl
theorem lk_105_0 : (zPr L xs).1 105 0 = o_iload 1 1 := rfl
theorem lk_105_1 : (zPr L xs).1 105 1 = o_istore 5 2 := rfl
theorem lk_105_3 : (zPr L xs).1 105 3 = o_push (.int (0)) 1 := rfl
theorem lk_105_4 : (zPr L xs).1 105 4 = o_istore 6 2 := rfl
theorem lk_105_6 : (zPr L xs).1 105 6 = o_iload 5 2 := rfl
theorem lk_105_8 : (zPr L xs).1 105 8 = o_iload 2 1 := rfl
theorem lk_105_9 : (zPr L xs).1 105 9 = o_icge 119 := rfl
theorem lk_105_12 : (zPr L xs).1 105 12 = o_aload 0 1 := rfl
theorem lk_105_13 : (zPr L xs).1 105 13 = o_iload 5 2 := rfl
theorem lk_105_15 : (zPr L xs).1 105 15 = o_iload 4 2 := rfl
theorem lk_105_17 : (zPr L xs).1 105 17 = o_cv 103 2 5 10 10 := rfl
theorem lk_105_20 : (zPr L xs).1 105 20 = o_istore 7 2 := rfl
theorem lk_105_22 : (zPr L xs).1 105 22 = o_iload 7 2 := rfl
theorem lk_105_24 : (zPr L xs).1 105 24 = o_istore 8 2 := rfl
theorem lk_105_26 : (zPr L xs).1 105 26 = o_aload 0 1 := rfl
theorem lk_105_27 : (zPr L xs).1 105 27 = o_iload 5 2 := rfl
theorem lk_105_29 : (zPr L xs).1 105 29 = o_cv 104 1 3 10 10 := rfl
theorem lk_105_32 : (zPr L xs).1 105 32 = o_istore 5 2 := rfl
theorem lk_105_34 : (zPr L xs).1 105 34 = o_aload 0 1 := rfl
theorem lk_105_35 : (zPr L xs).1 105 35 = o_iload 5 2 := rfl
theorem lk_105_37 : (zPr L xs).1 105 37 = o_cv 91 1 2 10 10 := rfl
theorem lk_105_40 : (zPr L xs).1 105 40 = o_push (.int (58)) 2 := rfl
theorem lk_105_42 : (zPr L xs).1 105 42 = o_icne 67 := rfl
theorem lk_105_45 : (zPr L xs).1 105 45 = o_aload 0 1 := rfl
theorem lk_105_46 : (zPr L xs).1 105 46 = o_iload 5 2 := rfl
theorem lk_105_48 : (zPr L xs).1 105 48 = o_push (.int (1)) 1 := rfl
theorem lk_105_49 : (zPr L xs).1 105 49 = o_iop (fun x y => x + y) := rfl
theorem lk_105_50 : (zPr L xs).1 105 50 = o_iload 4 2 := rfl
theorem lk_105_52 : (zPr L xs).1 105 52 = o_cv 103 2 5 10 10 := rfl
theorem lk_105_55 : (zPr L xs).1 105 55 = o_istore 8 2 := rfl
theorem lk_105_57 : (zPr L xs).1 105 57 = o_aload 0 1 := rfl
theorem lk_105_58 : (zPr L xs).1 105 58 = o_iload 5 2 := rfl
theorem lk_105_60 : (zPr L xs).1 105 60 = o_push (.int (1)) 1 := rfl
theorem lk_105_61 : (zPr L xs).1 105 61 = o_iop (fun x y => x + y) := rfl
theorem lk_105_62 : (zPr L xs).1 105 62 = o_cv 104 1 3 10 10 := rfl
theorem lk_105_65 : (zPr L xs).1 105 65 = o_istore 5 2 := rfl
theorem lk_105_67 : (zPr L xs).1 105 67 = o_iload 6 2 := rfl
theorem lk_105_69 : (zPr L xs).1 105 69 = o_ifne 106 := rfl
theorem lk_105_72 : (zPr L xs).1 105 72 = o_iload 7 2 := rfl
theorem lk_105_74 : (zPr L xs).1 105 74 = o_iload 8 2 := rfl
theorem lk_105_76 : (zPr L xs).1 105 76 = o_icge 94 := rfl
theorem lk_105_79 : (zPr L xs).1 105 79 = o_iload 7 2 := rfl
theorem lk_105_81 : (zPr L xs).1 105 81 = o_iload 3 1 := rfl
theorem lk_105_82 : (zPr L xs).1 105 82 = o_icgt 110 := rfl
theorem lk_105_85 : (zPr L xs).1 105 85 = o_iload 3 1 := rfl
theorem lk_105_86 : (zPr L xs).1 105 86 = o_iload 8 2 := rfl
theorem lk_105_88 : (zPr L xs).1 105 88 = o_icgt 110 := rfl
theorem lk_105_91 : (zPr L xs).1 105 91 = o_goto 106 := rfl
theorem lk_105_94 : (zPr L xs).1 105 94 = o_iload 8 2 := rfl
theorem lk_105_96 : (zPr L xs).1 105 96 = o_iload 3 1 := rfl
theorem lk_105_97 : (zPr L xs).1 105 97 = o_icgt 110 := rfl
theorem lk_105_100 : (zPr L xs).1 105 100 = o_iload 3 1 := rfl
theorem lk_105_101 : (zPr L xs).1 105 101 = o_iload 7 2 := rfl
theorem lk_105_103 : (zPr L xs).1 105 103 = o_icgt 110 := rfl
theorem lk_105_106 : (zPr L xs).1 105 106 = o_push (.int (1)) 1 := rfl
theorem lk_105_107 : (zPr L xs).1 105 107 = o_goto 111 := rfl
theorem lk_105_110 : (zPr L xs).1 105 110 = o_push (.int (0)) 1 := rfl
theorem lk_105_111 : (zPr L xs).1 105 111 = o_istore 6 2 := rfl
theorem lk_105_113 : (zPr L xs).1 105 113 = o_iinc 5 (1) := rfl
theorem lk_105_116 : (zPr L xs).1 105 116 = o_goto 6 := rfl
theorem lk_105_119 : (zPr L xs).1 105 119 = o_iload 6 2 := rfl
theorem lk_105_121 : (zPr L xs).1 105 121 = o_iret (fun x => x &&& 1) := rfl
theorem lk_106_0 : (zPr L xs).1 106 0 = o_aload 0 1 := rfl
theorem lk_106_1 : (zPr L xs).1 106 1 = o_gfR 10 513 := rfl
theorem lk_106_4 : (zPr L xs).1 106 4 = o_aload 0 1 := rfl
theorem lk_106_5 : (zPr L xs).1 106 5 = o_gfI 10 520 := rfl
theorem lk_106_8 : (zPr L xs).1 106 8 = o_xald 20 := rfl
theorem lk_106_9 : (zPr L xs).1 106 9 = o_ifne 16 := rfl
theorem lk_106_12 : (zPr L xs).1 106 12 = o_push (.int (1)) 1 := rfl
theorem lk_106_13 : (zPr L xs).1 106 13 = o_goto 17 := rfl
theorem lk_106_16 : (zPr L xs).1 106 16 = o_push (.int (0)) 1 := rfl
theorem lk_106_17 : (zPr L xs).1 106 17 = o_istore 3 1 := rfl
theorem lk_106_18 : (zPr L xs).1 106 18 = o_iload 1 1 := rfl
theorem lk_106_19 : (zPr L xs).1 106 19 = o_istore 4 2 := rfl
theorem lk_106_21 : (zPr L xs).1 106 21 = o_iload 4 2 := rfl
theorem lk_106_23 : (zPr L xs).1 106 23 = o_iload 2 1 := rfl
theorem lk_106_24 : (zPr L xs).1 106 24 = o_icge 79 := rfl
theorem lk_106_27 : (zPr L xs).1 106 27 = o_aload 0 1 := rfl
theorem lk_106_28 : (zPr L xs).1 106 28 = o_iload 4 2 := rfl
theorem lk_106_30 : (zPr L xs).1 106 30 = o_push (.int (1)) 1 := rfl
theorem lk_106_31 : (zPr L xs).1 106 31 = o_cv 103 2 5 10 10 := rfl
theorem lk_106_34 : (zPr L xs).1 106 34 = o_istore 5 2 := rfl
theorem lk_106_36 : (zPr L xs).1 106 36 = o_iload 3 1 := rfl
theorem lk_106_37 : (zPr L xs).1 106 37 = o_ifne 60 := rfl
theorem lk_106_40 : (zPr L xs).1 106 40 = o_iload 5 2 := rfl
theorem lk_106_42 : (zPr L xs).1 106 42 = o_push (.int (1)) 1 := rfl
theorem lk_106_43 : (zPr L xs).1 106 43 = o_iclt 60 := rfl
theorem lk_106_46 : (zPr L xs).1 106 46 = o_iload 5 2 := rfl
theorem lk_106_48 : (zPr L xs).1 106 48 = o_aload 0 1 := rfl
theorem lk_106_49 : (zPr L xs).1 106 49 = o_gfR 10 513 := rfl
theorem lk_106_52 : (zPr L xs).1 106 52 = o_aload 0 1 := rfl
theorem lk_106_53 : (zPr L xs).1 106 53 = o_gfI 10 520 := rfl
theorem lk_106_56 : (zPr L xs).1 106 56 = o_xald 20 := rfl
theorem lk_106_57 : (zPr L xs).1 106 57 = o_icle 64 := rfl
theorem lk_106_60 : (zPr L xs).1 106 60 = o_push (.int (1)) 1 := rfl
theorem lk_106_61 : (zPr L xs).1 106 61 = o_goto 65 := rfl
theorem lk_106_64 : (zPr L xs).1 106 64 = o_push (.int (0)) 1 := rfl
theorem lk_106_65 : (zPr L xs).1 106 65 = o_istore 3 1 := rfl
theorem lk_106_66 : (zPr L xs).1 106 66 = o_aload 0 1 := rfl
theorem lk_106_67 : (zPr L xs).1 106 67 = o_iload 4 2 := rfl
theorem lk_106_69 : (zPr L xs).1 106 69 = o_cv 104 1 3 10 10 := rfl
theorem lk_106_72 : (zPr L xs).1 106 72 = o_push (.int (1)) 1 := rfl
theorem lk_106_73 : (zPr L xs).1 106 73 = o_iop (fun x y => x + y) := rfl
theorem lk_106_74 : (zPr L xs).1 106 74 = o_istore 4 2 := rfl
theorem lk_106_76 : (zPr L xs).1 106 76 = o_goto 21 := rfl
theorem lk_106_79 : (zPr L xs).1 106 79 = o_iload 3 1 := rfl
theorem lk_106_80 : (zPr L xs).1 106 80 = o_iret (fun x => x &&& 1) := rfl
theorem lk_107_0 : (zPr L xs).1 107 0 = o_aload 0 1 := rfl
theorem lk_107_1 : (zPr L xs).1 107 1 = o_gfR 10 513 := rfl
theorem lk_107_4 : (zPr L xs).1 107 4 = o_aload 0 1 := rfl
theorem lk_107_5 : (zPr L xs).1 107 5 = o_gfI 10 520 := rfl
theorem lk_107_8 : (zPr L xs).1 107 8 = o_xald 20 := rfl
theorem lk_107_9 : (zPr L xs).1 107 9 = o_ifne 16 := rfl
theorem lk_107_12 : (zPr L xs).1 107 12 = o_push (.int (0)) 1 := rfl
theorem lk_107_13 : (zPr L xs).1 107 13 = o_goto 40 := rfl
theorem lk_107_16 : (zPr L xs).1 107 16 = o_aload 0 1 := rfl
theorem lk_107_17 : (zPr L xs).1 107 17 = o_gfR 10 514 := rfl
theorem lk_107_20 : (zPr L xs).1 107 20 = o_push (.int (40)) 2 := rfl
theorem lk_107_22 : (zPr L xs).1 107 22 = o_aload 0 1 := rfl
theorem lk_107_23 : (zPr L xs).1 107 23 = o_gfI 10 520 := rfl
theorem lk_107_26 : (zPr L xs).1 107 26 = o_iop (fun x y => x * y) := rfl
theorem lk_107_27 : (zPr L xs).1 107 27 = o_aload 0 1 := rfl
theorem lk_107_28 : (zPr L xs).1 107 28 = o_gfR 10 513 := rfl
theorem lk_107_31 : (zPr L xs).1 107 31 = o_aload 0 1 := rfl
theorem lk_107_32 : (zPr L xs).1 107 32 = o_gfI 10 520 := rfl
theorem lk_107_35 : (zPr L xs).1 107 35 = o_xald 20 := rfl
theorem lk_107_36 : (zPr L xs).1 107 36 = o_iop (fun x y => x + y) := rfl
theorem lk_107_37 : (zPr L xs).1 107 37 = o_push (.int (1)) 1 := rfl
theorem lk_107_38 : (zPr L xs).1 107 38 = o_iop (fun x y => x - y) := rfl
theorem lk_107_39 : (zPr L xs).1 107 39 = o_xald 20 := rfl
theorem lk_107_40 : (zPr L xs).1 107 40 = o_iret (fun x => x) := rfl
theorem lk_108_0 : (zPr L xs).1 108 0 = o_iload 2 1 := rfl
theorem lk_108_1 : (zPr L xs).1 108 1 = o_ifeq 23 := rfl
theorem lk_108_4 : (zPr L xs).1 108 4 = o_aload 0 1 := rfl
theorem lk_108_5 : (zPr L xs).1 108 5 = o_gfR 10 514 := rfl
theorem lk_108_8 : (zPr L xs).1 108 8 = o_push (.int (40)) 2 := rfl
theorem lk_108_10 : (zPr L xs).1 108 10 = o_aload 0 1 := rfl
theorem lk_108_11 : (zPr L xs).1 108 11 = o_gfI 10 520 := rfl
theorem lk_108_14 : (zPr L xs).1 108 14 = o_iop (fun x y => x * y) := rfl
theorem lk_108_15 : (zPr L xs).1 108 15 = o_iload 1 1 := rfl
theorem lk_108_16 : (zPr L xs).1 108 16 = o_iop (fun x y => x + y) := rfl
theorem lk_108_17 : (zPr L xs).1 108 17 = o_push (.int (1)) 1 := rfl
theorem lk_108_18 : (zPr L xs).1 108 18 = o_iop (fun x y => x - y) := rfl
theorem lk_108_19 : (zPr L xs).1 108 19 = o_xald 20 := rfl
theorem lk_108_20 : (zPr L xs).1 108 20 = o_goto 24 := rfl
theorem lk_108_23 : (zPr L xs).1 108 23 = o_iload 1 1 := rfl
theorem lk_108_24 : (zPr L xs).1 108 24 = o_istore 3 1 := rfl
theorem lk_108_25 : (zPr L xs).1 108 25 = o_iload 2 1 := rfl
theorem lk_108_26 : (zPr L xs).1 108 26 = o_ifeq 36 := rfl
theorem lk_108_29 : (zPr L xs).1 108 29 = o_aload 0 1 := rfl
theorem lk_108_30 : (zPr L xs).1 108 30 = o_cv 107 0 1 10 10 := rfl
theorem lk_108_33 : (zPr L xs).1 108 33 = o_goto 45 := rfl
theorem lk_108_36 : (zPr L xs).1 108 36 = o_aload 0 1 := rfl
theorem lk_108_37 : (zPr L xs).1 108 37 = o_gfR 10 513 := rfl
theorem lk_108_40 : (zPr L xs).1 108 40 = o_aload 0 1 := rfl
theorem lk_108_41 : (zPr L xs).1 108 41 = o_gfI 10 520 := rfl
theorem lk_108_44 : (zPr L xs).1 108 44 = o_xald 20 := rfl
theorem lk_108_45 : (zPr L xs).1 108 45 = o_istore 4 2 := rfl
theorem lk_108_47 : (zPr L xs).1 108 47 = o_aload 0 1 := rfl
theorem lk_108_48 : (zPr L xs).1 108 48 = o_aload 0 1 := rfl
theorem lk_108_49 : (zPr L xs).1 108 49 = o_gfI 10 527 := rfl
theorem lk_108_52 : (zPr L xs).1 108 52 = o_aload 0 1 := rfl
theorem lk_108_53 : (zPr L xs).1 108 53 = o_gfI 10 528 := rfl
theorem lk_108_56 : (zPr L xs).1 108 56 = o_iload 3 1 := rfl
theorem lk_108_57 : (zPr L xs).1 108 57 = o_iload 4 2 := rfl
theorem lk_108_59 : (zPr L xs).1 108 59 = o_cv 105 4 9 10 10 := rfl
theorem lk_108_62 : (zPr L xs).1 108 62 = o_iret (fun x => x &&& 1) := rfl
theorem lk_109_0 : (zPr L xs).1 109 0 = o_aload 0 1 := rfl
theorem lk_109_1 : (zPr L xs).1 109 1 = o_gfR 10 511 := rfl
theorem lk_109_4 : (zPr L xs).1 109 4 = o_aload 0 1 := rfl
theorem lk_109_5 : (zPr L xs).1 109 5 = o_gfI 10 520 := rfl
theorem lk_109_8 : (zPr L xs).1 109 8 = o_xald 20 := rfl
theorem lk_109_9 : (zPr L xs).1 109 9 = o_istore 2 1 := rfl
theorem lk_109_10 : (zPr L xs).1 109 10 = o_push (.int (10)) 2 := rfl
theorem lk_109_12 : (zPr L xs).1 109 12 = o_iload 2 1 := rfl
theorem lk_109_13 : (zPr L xs).1 109 13 = o_iop (fun x y => x * y) := rfl
theorem lk_109_14 : (zPr L xs).1 109 14 = o_istore 3 1 := rfl
theorem lk_109_15 : (zPr L xs).1 109 15 = o_iload 3 1 := rfl
theorem lk_109_16 : (zPr L xs).1 109 16 = o_push (.int (10)) 2 := rfl
theorem lk_109_18 : (zPr L xs).1 109 18 = o_iload 2 1 := rfl
theorem lk_109_19 : (zPr L xs).1 109 19 = o_iop (fun x y => x * y) := rfl
theorem lk_109_20 : (zPr L xs).1 109 20 = o_aload 0 1 := rfl
theorem lk_109_21 : (zPr L xs).1 109 21 = o_gfR 10 504 := rfl
theorem lk_109_24 : (zPr L xs).1 109 24 = o_iload 2 1 := rfl
theorem lk_109_25 : (zPr L xs).1 109 25 = o_xald 20 := rfl
theorem lk_109_26 : (zPr L xs).1 109 26 = o_iop (fun x y => x + y) := rfl
theorem lk_109_27 : (zPr L xs).1 109 27 = o_icge 63 := rfl
theorem lk_109_30 : (zPr L xs).1 109 30 = o_aload 0 1 := rfl
theorem lk_109_31 : (zPr L xs).1 109 31 = o_gfR 10 505 := rfl
theorem lk_109_34 : (zPr L xs).1 109 34 = o_iload 3 1 := rfl
theorem lk_109_35 : (zPr L xs).1 109 35 = o_xald 20 := rfl
theorem lk_109_36 : (zPr L xs).1 109 36 = o_aload 0 1 := rfl
theorem lk_109_37 : (zPr L xs).1 109 37 = o_gfR 10 514 := rfl
theorem lk_109_40 : (zPr L xs).1 109 40 = o_push (.int (40)) 2 := rfl
theorem lk_109_42 : (zPr L xs).1 109 42 = o_aload 0 1 := rfl
theorem lk_109_43 : (zPr L xs).1 109 43 = o_gfI 10 520 := rfl
theorem lk_109_46 : (zPr L xs).1 109 46 = o_iop (fun x y => x * y) := rfl
theorem lk_109_47 : (zPr L xs).1 109 47 = o_iload 1 1 := rfl
theorem lk_109_48 : (zPr L xs).1 109 48 = o_iop (fun x y => x + y) := rfl
theorem lk_109_49 : (zPr L xs).1 109 49 = o_push (.int (1)) 1 := rfl
theorem lk_109_50 : (zPr L xs).1 109 50 = o_iop (fun x y => x - y) := rfl
theorem lk_109_51 : (zPr L xs).1 109 51 = o_xald 20 := rfl
theorem lk_109_52 : (zPr L xs).1 109 52 = o_icne 57 := rfl
theorem lk_109_55 : (zPr L xs).1 109 55 = o_iload 3 1 := rfl
theorem lk_109_56 : (zPr L xs).1 109 56 = o_iret (fun x => x) := rfl
theorem lk_109_57 : (zPr L xs).1 109 57 = o_iinc 3 (1) := rfl
theorem lk_109_60 : (zPr L xs).1 109 60 = o_goto 15 := rfl
theorem lk_109_63 : (zPr L xs).1 109 63 = o_push (.int (-1)) 1 := rfl
theorem lk_109_64 : (zPr L xs).1 109 64 = o_iret (fun x => x) := rfl
theorem lk_110_0 : (zPr L xs).1 110 0 = o_push (.int (0)) 1 := rfl
theorem lk_110_1 : (zPr L xs).1 110 1 = o_istore 2 1 := rfl
theorem lk_110_2 : (zPr L xs).1 110 2 = o_push (.int (0)) 1 := rfl
theorem lk_110_3 : (zPr L xs).1 110 3 = o_istore 3 1 := rfl
theorem lk_110_4 : (zPr L xs).1 110 4 = o_iload 3 1 := rfl
theorem lk_110_5 : (zPr L xs).1 110 5 = o_aload 0 1 := rfl
theorem lk_110_6 : (zPr L xs).1 110 6 = o_gfI 10 532 := rfl
theorem lk_110_9 : (zPr L xs).1 110 9 = o_iop (fun x y => x + y) := rfl
theorem lk_110_10 : (zPr L xs).1 110 10 = o_aload 0 1 := rfl
theorem lk_110_11 : (zPr L xs).1 110 11 = o_gfR 10 507 := rfl
theorem lk_110_14 : (zPr L xs).1 110 14 = o_iload 1 1 := rfl
theorem lk_110_15 : (zPr L xs).1 110 15 = o_xald 20 := rfl
theorem lk_110_16 : (zPr L xs).1 110 16 = o_icgt 101 := rfl
theorem lk_110_19 : (zPr L xs).1 110 19 = o_push (.int (1)) 1 := rfl
theorem lk_110_20 : (zPr L xs).1 110 20 = o_istore 4 2 := rfl
theorem lk_110_22 : (zPr L xs).1 110 22 = o_push (.int (0)) 1 := rfl
theorem lk_110_23 : (zPr L xs).1 110 23 = o_istore 5 2 := rfl
theorem lk_110_25 : (zPr L xs).1 110 25 = o_iload 5 2 := rfl
theorem lk_110_27 : (zPr L xs).1 110 27 = o_aload 0 1 := rfl
theorem lk_110_28 : (zPr L xs).1 110 28 = o_gfI 10 532 := rfl
theorem lk_110_31 : (zPr L xs).1 110 31 = o_icge 80 := rfl
theorem lk_110_34 : (zPr L xs).1 110 34 = o_iload 4 2 := rfl
theorem lk_110_36 : (zPr L xs).1 110 36 = o_ifeq 71 := rfl
theorem lk_110_39 : (zPr L xs).1 110 39 = o_aload 0 1 := rfl
theorem lk_110_40 : (zPr L xs).1 110 40 = o_gfR 10 508 := rfl
theorem lk_110_43 : (zPr L xs).1 110 43 = o_push (.int (6)) 2 := rfl
theorem lk_110_45 : (zPr L xs).1 110 45 = o_iload 1 1 := rfl
theorem lk_110_46 : (zPr L xs).1 110 46 = o_iop (fun x y => x * y) := rfl
theorem lk_110_47 : (zPr L xs).1 110 47 = o_iload 3 1 := rfl
theorem lk_110_48 : (zPr L xs).1 110 48 = o_iop (fun x y => x + y) := rfl
theorem lk_110_49 : (zPr L xs).1 110 49 = o_iload 5 2 := rfl
theorem lk_110_51 : (zPr L xs).1 110 51 = o_iop (fun x y => x + y) := rfl
theorem lk_110_52 : (zPr L xs).1 110 52 = o_xald 20 := rfl
theorem lk_110_53 : (zPr L xs).1 110 53 = o_aload 0 1 := rfl
theorem lk_110_54 : (zPr L xs).1 110 54 = o_aload 0 1 := rfl
theorem lk_110_55 : (zPr L xs).1 110 55 = o_gfI 10 531 := rfl
theorem lk_110_58 : (zPr L xs).1 110 58 = o_iload 5 2 := rfl
theorem lk_110_60 : (zPr L xs).1 110 60 = o_iop (fun x y => x + y) := rfl
theorem lk_110_61 : (zPr L xs).1 110 61 = o_cv 91 1 2 10 10 := rfl
theorem lk_110_64 : (zPr L xs).1 110 64 = o_icne 71 := rfl
theorem lk_110_67 : (zPr L xs).1 110 67 = o_push (.int (1)) 1 := rfl
theorem lk_110_68 : (zPr L xs).1 110 68 = o_goto 72 := rfl
theorem lk_110_71 : (zPr L xs).1 110 71 = o_push (.int (0)) 1 := rfl
theorem lk_110_72 : (zPr L xs).1 110 72 = o_istore 4 2 := rfl
theorem lk_110_74 : (zPr L xs).1 110 74 = o_iinc 5 (1) := rfl
theorem lk_110_77 : (zPr L xs).1 110 77 = o_goto 25 := rfl
theorem lk_110_80 : (zPr L xs).1 110 80 = o_iload 2 1 := rfl
theorem lk_110_81 : (zPr L xs).1 110 81 = o_ifne 89 := rfl
theorem lk_110_84 : (zPr L xs).1 110 84 = o_iload 4 2 := rfl
theorem lk_110_86 : (zPr L xs).1 110 86 = o_ifeq 93 := rfl
theorem lk_110_89 : (zPr L xs).1 110 89 = o_push (.int (1)) 1 := rfl
theorem lk_110_90 : (zPr L xs).1 110 90 = o_goto 94 := rfl
theorem lk_110_93 : (zPr L xs).1 110 93 = o_push (.int (0)) 1 := rfl
theorem lk_110_94 : (zPr L xs).1 110 94 = o_istore 2 1 := rfl
theorem lk_110_95 : (zPr L xs).1 110 95 = o_iinc 3 (1) := rfl
theorem lk_110_98 : (zPr L xs).1 110 98 = o_goto 4 := rfl
theorem lk_110_101 : (zPr L xs).1 110 101 = o_iload 2 1 := rfl
theorem lk_110_102 : (zPr L xs).1 110 102 = o_iret (fun x => x &&& 1) := rfl
theorem lk_111_0 : (zPr L xs).1 111 0 = o_aload 0 1 := rfl
theorem lk_111_1 : (zPr L xs).1 111 1 = o_aload 0 1 := rfl
theorem lk_111_2 : (zPr L xs).1 111 2 = o_gfI 10 521 := rfl
theorem lk_111_5 : (zPr L xs).1 111 5 = o_cv 91 1 2 10 10 := rfl
theorem lk_111_8 : (zPr L xs).1 111 8 = o_cs 94 1 1 := rfl
theorem lk_111_11 : (zPr L xs).1 111 11 = o_ifne 75 := rfl
theorem lk_111_14 : (zPr L xs).1 111 14 = o_aload 0 1 := rfl
theorem lk_111_15 : (zPr L xs).1 111 15 = o_cv 102 0 2 10 10 := rfl
theorem lk_111_18 : (zPr L xs).1 111 18 = o_aload 0 1 := rfl
theorem lk_111_19 : (zPr L xs).1 111 19 = o_aload 0 1 := rfl
theorem lk_111_20 : (zPr L xs).1 111 20 = o_gfI 10 523 := rfl
theorem lk_111_23 : (zPr L xs).1 111 23 = o_ifne 48 := rfl
theorem lk_111_26 : (zPr L xs).1 111 26 = o_aload 0 1 := rfl
theorem lk_111_27 : (zPr L xs).1 111 27 = o_gfI 10 522 := rfl
theorem lk_111_30 : (zPr L xs).1 111 30 = o_ifne 52 := rfl
theorem lk_111_33 : (zPr L xs).1 111 33 = o_aload 0 1 := rfl
theorem lk_111_34 : (zPr L xs).1 111 34 = o_aload 0 1 := rfl
theorem lk_111_35 : (zPr L xs).1 111 35 = o_gfI 10 527 := rfl
theorem lk_111_38 : (zPr L xs).1 111 38 = o_aload 0 1 := rfl
theorem lk_111_39 : (zPr L xs).1 111 39 = o_gfI 10 528 := rfl
theorem lk_111_42 : (zPr L xs).1 111 42 = o_cv 106 2 6 10 10 := rfl
theorem lk_111_45 : (zPr L xs).1 111 45 = o_ifeq 52 := rfl
theorem lk_111_48 : (zPr L xs).1 111 48 = o_push (.int (1)) 1 := rfl
theorem lk_111_49 : (zPr L xs).1 111 49 = o_goto 53 := rfl
theorem lk_111_52 : (zPr L xs).1 111 52 = o_push (.int (0)) 1 := rfl
theorem lk_111_53 : (zPr L xs).1 111 53 = o_pfI 10 523 (fun x => x &&& 1) := rfl
theorem lk_111_56 : (zPr L xs).1 111 56 = o_iload 1 1 := rfl
theorem lk_111_57 : (zPr L xs).1 111 57 = o_ifle 73 := rfl
theorem lk_111_60 : (zPr L xs).1 111 60 = o_aload 0 1 := rfl
theorem lk_111_61 : (zPr L xs).1 111 61 = o_iload 1 1 := rfl
theorem lk_111_62 : (zPr L xs).1 111 62 = o_push (.int (0)) 1 := rfl
theorem lk_111_63 : (zPr L xs).1 111 63 = o_cv 108 2 5 10 10 := rfl
theorem lk_111_66 : (zPr L xs).1 111 66 = o_ifeq 73 := rfl
theorem lk_111_69 : (zPr L xs).1 111 69 = o_push (.int (1)) 1 := rfl
theorem lk_111_70 : (zPr L xs).1 111 70 = o_goto 74 := rfl
theorem lk_111_73 : (zPr L xs).1 111 73 = o_push (.int (0)) 1 := rfl
theorem lk_111_74 : (zPr L xs).1 111 74 = o_iret (fun x => x &&& 1) := rfl
theorem lk_111_75 : (zPr L xs).1 111 75 = o_aload 0 1 := rfl
theorem lk_111_76 : (zPr L xs).1 111 76 = o_cv 95 0 5 10 10 := rfl
theorem lk_111_79 : (zPr L xs).1 111 79 = o_lstore 2 1 := rfl
theorem lk_111_80 : (zPr L xs).1 111 80 = o_lload 2 1 := rfl
theorem lk_111_81 : (zPr L xs).1 111 81 = o_push (.int (65)) 2 := rfl
theorem lk_111_83 : (zPr L xs).1 111 83 = o_push (.int (76)) 2 := rfl
theorem lk_111_85 : (zPr L xs).1 111 85 = o_push (.int (76)) 2 := rfl
theorem lk_111_87 : (zPr L xs).1 111 87 = o_push (.int (0)) 1 := rfl
theorem lk_111_88 : (zPr L xs).1 111 88 = o_push (.int (0)) 1 := rfl
theorem lk_111_89 : (zPr L xs).1 111 89 = o_push (.int (0)) 1 := rfl
theorem lk_111_90 : (zPr L xs).1 111 90 = o_push (.int (0)) 1 := rfl
theorem lk_111_91 : (zPr L xs).1 111 91 = o_cs 90 7 9 := rfl
theorem lk_111_94 : (zPr L xs).1 111 94 = o_lcmp := rfl
theorem lk_111_95 : (zPr L xs).1 111 95 = o_ifne 100 := rfl
theorem lk_111_98 : (zPr L xs).1 111 98 = o_push (.int (1)) 1 := rfl
theorem lk_111_99 : (zPr L xs).1 111 99 = o_iret (fun x => x &&& 1) := rfl
theorem lk_111_100 : (zPr L xs).1 111 100 = o_lload 2 1 := rfl
theorem lk_111_101 : (zPr L xs).1 111 101 = o_push (.int (72)) 2 := rfl
theorem lk_111_103 : (zPr L xs).1 111 103 = o_push (.int (65)) 2 := rfl
theorem lk_111_105 : (zPr L xs).1 111 105 = o_push (.int (83)) 2 := rfl
theorem lk_111_107 : (zPr L xs).1 111 107 = o_push (.int (0)) 1 := rfl
theorem lk_111_108 : (zPr L xs).1 111 108 = o_push (.int (0)) 1 := rfl
theorem lk_111_109 : (zPr L xs).1 111 109 = o_push (.int (0)) 1 := rfl
theorem lk_111_110 : (zPr L xs).1 111 110 = o_push (.int (0)) 1 := rfl
theorem lk_111_111 : (zPr L xs).1 111 111 = o_cs 90 7 9 := rfl
theorem lk_111_114 : (zPr L xs).1 111 114 = o_lcmp := rfl
theorem lk_111_115 : (zPr L xs).1 111 115 = o_ifne 194 := rfl
theorem lk_111_118 : (zPr L xs).1 111 118 = o_aload 0 1 := rfl
theorem lk_111_119 : (zPr L xs).1 111 119 = o_push (.int (32)) 2 := rfl
theorem lk_111_121 : (zPr L xs).1 111 121 = o_cv 96 1 2 10 10 := rfl
theorem lk_111_124 : (zPr L xs).1 111 124 = o_aload 0 1 := rfl
theorem lk_111_125 : (zPr L xs).1 111 125 = o_aload 0 1 := rfl
theorem lk_111_126 : (zPr L xs).1 111 126 = o_gfI 10 521 := rfl
theorem lk_111_129 : (zPr L xs).1 111 129 = o_cv 91 1 2 10 10 := rfl
theorem lk_111_132 : (zPr L xs).1 111 132 = o_cs 98 1 1 := rfl
theorem lk_111_135 : (zPr L xs).1 111 135 = o_istore 4 2 := rfl
theorem lk_111_137 : (zPr L xs).1 111 137 = o_aload 0 1 := rfl
theorem lk_111_138 : (zPr L xs).1 111 138 = o_aload 0 1 := rfl
theorem lk_111_139 : (zPr L xs).1 111 139 = o_gfI 10 522 := rfl
theorem lk_111_142 : (zPr L xs).1 111 142 = o_ifne 150 := rfl
theorem lk_111_145 : (zPr L xs).1 111 145 = o_iload 4 2 := rfl
theorem lk_111_147 : (zPr L xs).1 111 147 = o_ifne 154 := rfl
theorem lk_111_150 : (zPr L xs).1 111 150 = o_push (.int (1)) 1 := rfl
theorem lk_111_151 : (zPr L xs).1 111 151 = o_goto 155 := rfl
theorem lk_111_154 : (zPr L xs).1 111 154 = o_push (.int (0)) 1 := rfl
theorem lk_111_155 : (zPr L xs).1 111 155 = o_pfI 10 522 (fun x => x &&& 1) := rfl
theorem lk_111_158 : (zPr L xs).1 111 158 = o_aload 0 1 := rfl
theorem lk_111_159 : (zPr L xs).1 111 159 = o_dup := rfl
theorem lk_111_160 : (zPr L xs).1 111 160 = o_gfI 10 521 := rfl
theorem lk_111_163 : (zPr L xs).1 111 163 = o_push (.int (1)) 1 := rfl
theorem lk_111_164 : (zPr L xs).1 111 164 = o_iop (fun x y => x + y) := rfl
theorem lk_111_165 : (zPr L xs).1 111 165 = o_pfI 10 521 (fun x => x) := rfl
theorem lk_111_168 : (zPr L xs).1 111 168 = o_iload 1 1 := rfl
theorem lk_111_169 : (zPr L xs).1 111 169 = o_ifle 192 := rfl
theorem lk_111_172 : (zPr L xs).1 111 172 = o_aload 0 1 := rfl
theorem lk_111_173 : (zPr L xs).1 111 173 = o_gfR 10 506 := rfl
theorem lk_111_176 : (zPr L xs).1 111 176 = o_aload 0 1 := rfl
theorem lk_111_177 : (zPr L xs).1 111 177 = o_iload 1 1 := rfl
theorem lk_111_178 : (zPr L xs).1 111 178 = o_cv 109 1 4 10 10 := rfl
theorem lk_111_181 : (zPr L xs).1 111 181 = o_xald 20 := rfl
theorem lk_111_182 : (zPr L xs).1 111 182 = o_iload 4 2 := rfl
theorem lk_111_184 : (zPr L xs).1 111 184 = o_iop (fun x y => x &&& y) := rfl
theorem lk_111_185 : (zPr L xs).1 111 185 = o_ifle 192 := rfl
theorem lk_111_188 : (zPr L xs).1 111 188 = o_push (.int (1)) 1 := rfl
theorem lk_111_189 : (zPr L xs).1 111 189 = o_goto 193 := rfl
theorem lk_111_192 : (zPr L xs).1 111 192 = o_push (.int (0)) 1 := rfl
theorem lk_111_193 : (zPr L xs).1 111 193 = o_iret (fun x => x &&& 1) := rfl
theorem lk_111_194 : (zPr L xs).1 111 194 = o_lload 2 1 := rfl
theorem lk_111_195 : (zPr L xs).1 111 195 = o_push (.int (84)) 2 := rfl
theorem lk_111_197 : (zPr L xs).1 111 197 = o_push (.int (69)) 2 := rfl
theorem lk_111_199 : (zPr L xs).1 111 199 = o_push (.int (88)) 2 := rfl
theorem lk_111_201 : (zPr L xs).1 111 201 = o_push (.int (84)) 2 := rfl
theorem lk_111_203 : (zPr L xs).1 111 203 = o_push (.int (0)) 1 := rfl
theorem lk_111_204 : (zPr L xs).1 111 204 = o_push (.int (0)) 1 := rfl
theorem lk_111_205 : (zPr L xs).1 111 205 = o_push (.int (0)) 1 := rfl
theorem lk_111_206 : (zPr L xs).1 111 206 = o_cs 90 7 9 := rfl
theorem lk_111_209 : (zPr L xs).1 111 209 = o_lcmp := rfl
theorem lk_111_210 : (zPr L xs).1 111 210 = o_ifne 245 := rfl
theorem lk_111_213 : (zPr L xs).1 111 213 = o_aload 0 1 := rfl
theorem lk_111_214 : (zPr L xs).1 111 214 = o_push (.int (32)) 2 := rfl
theorem lk_111_216 : (zPr L xs).1 111 216 = o_cv 96 1 2 10 10 := rfl
theorem lk_111_219 : (zPr L xs).1 111 219 = o_aload 0 1 := rfl
theorem lk_111_220 : (zPr L xs).1 111 220 = o_cv 100 0 1 10 10 := rfl
theorem lk_111_223 : (zPr L xs).1 111 223 = o_iload 1 1 := rfl
theorem lk_111_224 : (zPr L xs).1 111 224 = o_ifle 243 := rfl
theorem lk_111_227 : (zPr L xs).1 111 227 = o_aload 0 1 := rfl
theorem lk_111_228 : (zPr L xs).1 111 228 = o_aload 0 1 := rfl
theorem lk_111_229 : (zPr L xs).1 111 229 = o_iload 1 1 := rfl
theorem lk_111_230 : (zPr L xs).1 111 230 = o_cv 109 1 4 10 10 := rfl
theorem lk_111_233 : (zPr L xs).1 111 233 = o_cv 110 1 6 10 10 := rfl
theorem lk_111_236 : (zPr L xs).1 111 236 = o_ifeq 243 := rfl
theorem lk_111_239 : (zPr L xs).1 111 239 = o_push (.int (1)) 1 := rfl
theorem lk_111_240 : (zPr L xs).1 111 240 = o_goto 244 := rfl
theorem lk_111_243 : (zPr L xs).1 111 243 = o_push (.int (0)) 1 := rfl
theorem lk_111_244 : (zPr L xs).1 111 244 = o_iret (fun x => x &&& 1) := rfl
theorem lk_111_245 : (zPr L xs).1 111 245 = o_lload 2 1 := rfl
theorem lk_111_246 : (zPr L xs).1 111 246 = o_push (.int (85)) 2 := rfl
theorem lk_111_248 : (zPr L xs).1 111 248 = o_push (.int (73)) 2 := rfl
theorem lk_111_250 : (zPr L xs).1 111 250 = o_push (.int (68)) 2 := rfl
theorem lk_111_252 : (zPr L xs).1 111 252 = o_push (.int (0)) 1 := rfl
theorem lk_111_253 : (zPr L xs).1 111 253 = o_push (.int (0)) 1 := rfl
theorem lk_111_254 : (zPr L xs).1 111 254 = o_push (.int (0)) 1 := rfl
theorem lk_111_255 : (zPr L xs).1 111 255 = o_push (.int (0)) 1 := rfl
theorem lk_111_256 : (zPr L xs).1 111 256 = o_cs 90 7 9 := rfl
theorem lk_111_259 : (zPr L xs).1 111 259 = o_lcmp := rfl
theorem lk_111_260 : (zPr L xs).1 111 260 = o_ifne 292 := rfl
theorem lk_111_263 : (zPr L xs).1 111 263 = o_aload 0 1 := rfl
theorem lk_111_264 : (zPr L xs).1 111 264 = o_push (.int (32)) 2 := rfl
theorem lk_111_266 : (zPr L xs).1 111 266 = o_cv 96 1 2 10 10 := rfl
theorem lk_111_269 : (zPr L xs).1 111 269 = o_aload 0 1 := rfl
theorem lk_111_270 : (zPr L xs).1 111 270 = o_cv 102 0 2 10 10 := rfl
theorem lk_111_273 : (zPr L xs).1 111 273 = o_iload 1 1 := rfl
theorem lk_111_274 : (zPr L xs).1 111 274 = o_ifle 290 := rfl
theorem lk_111_277 : (zPr L xs).1 111 277 = o_aload 0 1 := rfl
theorem lk_111_278 : (zPr L xs).1 111 278 = o_iload 1 1 := rfl
theorem lk_111_279 : (zPr L xs).1 111 279 = o_push (.int (1)) 1 := rfl
theorem lk_111_280 : (zPr L xs).1 111 280 = o_cv 108 2 5 10 10 := rfl
theorem lk_111_283 : (zPr L xs).1 111 283 = o_ifeq 290 := rfl
theorem lk_111_286 : (zPr L xs).1 111 286 = o_push (.int (1)) 1 := rfl
theorem lk_111_287 : (zPr L xs).1 111 287 = o_goto 291 := rfl
theorem lk_111_290 : (zPr L xs).1 111 290 = o_push (.int (0)) 1 := rfl
theorem lk_111_291 : (zPr L xs).1 111 291 = o_iret (fun x => x &&& 1) := rfl
theorem lk_111_292 : (zPr L xs).1 111 292 = o_aload 0 1 := rfl
theorem lk_111_293 : (zPr L xs).1 111 293 = o_push (.int (1)) 1 := rfl
theorem lk_111_294 : (zPr L xs).1 111 294 = o_pfI 10 522 (fun x => x &&& 1) := rfl
theorem lk_111_297 : (zPr L xs).1 111 297 = o_push (.int (0)) 1 := rfl
theorem lk_111_298 : (zPr L xs).1 111 298 = o_iret (fun x => x &&& 1) := rfl
theorem lk_112_0 : (zPr L xs).1 112 0 = o_aload 0 1 := rfl
theorem lk_112_1 : (zPr L xs).1 112 1 = o_dup := rfl
theorem lk_112_2 : (zPr L xs).1 112 2 = o_gfI 10 535 := rfl
theorem lk_112_5 : (zPr L xs).1 112 5 = o_push (.int (1)) 1 := rfl
theorem lk_112_6 : (zPr L xs).1 112 6 = o_iop (fun x y => x + y) := rfl
theorem lk_112_7 : (zPr L xs).1 112 7 = o_pfI 10 535 (fun x => x) := rfl
theorem lk_112_10 : (zPr L xs).1 112 10 = o_aload 0 1 := rfl
theorem lk_112_11 : (zPr L xs).1 112 11 = o_gfR 10 536 := rfl
theorem lk_112_14 : (zPr L xs).1 112 14 = o_aload 0 1 := rfl
theorem lk_112_15 : (zPr L xs).1 112 15 = o_gfI 10 535 := rfl
theorem lk_112_18 : (zPr L xs).1 112 18 = o_iload 1 1 := rfl
theorem lk_112_19 : (zPr L xs).1 112 19 = o_xast 20 (fun x => x) := rfl
theorem lk_112_20 : (zPr L xs).1 112 20 = o_aload 0 1 := rfl
theorem lk_112_21 : (zPr L xs).1 112 21 = o_gfR 10 537 := rfl
theorem lk_112_24 : (zPr L xs).1 112 24 = o_aload 0 1 := rfl
theorem lk_112_25 : (zPr L xs).1 112 25 = o_gfI 10 535 := rfl
theorem lk_112_28 : (zPr L xs).1 112 28 = o_push (.int (0)) 1 := rfl
theorem lk_112_29 : (zPr L xs).1 112 29 = o_xast 20 (fun x => x) := rfl
theorem lk_112_30 : (zPr L xs).1 112 30 = o_aload 0 1 := rfl
theorem lk_112_31 : (zPr L xs).1 112 31 = o_gfR 10 538 := rfl
theorem lk_112_34 : (zPr L xs).1 112 34 = o_aload 0 1 := rfl
theorem lk_112_35 : (zPr L xs).1 112 35 = o_gfI 10 535 := rfl
theorem lk_112_38 : (zPr L xs).1 112 38 = o_iload 1 1 := rfl
theorem lk_112_39 : (zPr L xs).1 112 39 = o_push (.int (2)) 1 := rfl
theorem lk_112_40 : (zPr L xs).1 112 40 = o_iceq 47 := rfl
theorem lk_112_43 : (zPr L xs).1 112 43 = o_push (.int (1)) 1 := rfl
theorem lk_112_44 : (zPr L xs).1 112 44 = o_goto 48 := rfl
theorem lk_112_47 : (zPr L xs).1 112 47 = o_push (.int (0)) 1 := rfl
theorem lk_112_48 : (zPr L xs).1 112 48 = o_xast 23 (vp_nar .boolean) := rfl
theorem lk_112_49 : (zPr L xs).1 112 49 = o_vret := rfl
theorem lk_113_0 : (zPr L xs).1 113 0 = o_push (.int (1)) 1 := rfl
theorem lk_113_1 : (zPr L xs).1 113 1 = o_istore 1 1 := rfl
theorem lk_113_2 : (zPr L xs).1 113 2 = o_iload 1 1 := rfl
theorem lk_113_3 : (zPr L xs).1 113 3 = o_ifeq 155 := rfl
theorem lk_113_6 : (zPr L xs).1 113 6 = o_aload 0 1 := rfl
theorem lk_113_7 : (zPr L xs).1 113 7 = o_gfI 10 522 := rfl
theorem lk_113_10 : (zPr L xs).1 113 10 = o_ifne 155 := rfl
theorem lk_113_13 : (zPr L xs).1 113 13 = o_aload 0 1 := rfl
theorem lk_113_14 : (zPr L xs).1 113 14 = o_aload 0 1 := rfl
theorem lk_113_15 : (zPr L xs).1 113 15 = o_gfI 10 535 := rfl
theorem lk_113_18 : (zPr L xs).1 113 18 = o_push (.int (8)) 2 := rfl
theorem lk_113_20 : (zPr L xs).1 113 20 = o_icle 27 := rfl
theorem lk_113_23 : (zPr L xs).1 113 23 = o_push (.int (1)) 1 := rfl
theorem lk_113_24 : (zPr L xs).1 113 24 = o_goto 28 := rfl
theorem lk_113_27 : (zPr L xs).1 113 27 = o_push (.int (0)) 1 := rfl
theorem lk_113_28 : (zPr L xs).1 113 28 = o_pfI 10 522 (fun x => x &&& 1) := rfl
theorem lk_113_31 : (zPr L xs).1 113 31 = o_aload 0 1 := rfl
theorem lk_113_32 : (zPr L xs).1 113 32 = o_gfI 10 521 := rfl
theorem lk_113_35 : (zPr L xs).1 113 35 = o_istore 2 1 := rfl
theorem lk_113_36 : (zPr L xs).1 113 36 = o_aload 0 1 := rfl
theorem lk_113_37 : (zPr L xs).1 113 37 = o_aload 0 1 := rfl
theorem lk_113_38 : (zPr L xs).1 113 38 = o_gfI 10 521 := rfl
theorem lk_113_41 : (zPr L xs).1 113 41 = o_cv 91 1 2 10 10 := rfl
theorem lk_113_44 : (zPr L xs).1 113 44 = o_push (.int (40)) 2 := rfl
theorem lk_113_46 : (zPr L xs).1 113 46 = o_icne 53 := rfl
theorem lk_113_49 : (zPr L xs).1 113 49 = o_push (.long 0) 1 := rfl
theorem lk_113_50 : (zPr L xs).1 113 50 = o_goto 57 := rfl
theorem lk_113_53 : (zPr L xs).1 113 53 = o_aload 0 1 := rfl
theorem lk_113_54 : (zPr L xs).1 113 54 = o_cv 95 0 5 10 10 := rfl
theorem lk_113_57 : (zPr L xs).1 113 57 = o_lstore 3 1 := rfl
theorem lk_113_58 : (zPr L xs).1 113 58 = o_lload 3 1 := rfl
theorem lk_113_59 : (zPr L xs).1 113 59 = o_push (.long 0) 1 := rfl
theorem lk_113_60 : (zPr L xs).1 113 60 = o_lcmp := rfl
theorem lk_113_61 : (zPr L xs).1 113 61 = o_ifne 82 := rfl
theorem lk_113_64 : (zPr L xs).1 113 64 = o_aload 0 1 := rfl
theorem lk_113_65 : (zPr L xs).1 113 65 = o_dup := rfl
theorem lk_113_66 : (zPr L xs).1 113 66 = o_gfI 10 521 := rfl
theorem lk_113_69 : (zPr L xs).1 113 69 = o_push (.int (1)) 1 := rfl
theorem lk_113_70 : (zPr L xs).1 113 70 = o_iop (fun x y => x + y) := rfl
theorem lk_113_71 : (zPr L xs).1 113 71 = o_pfI 10 521 (fun x => x) := rfl
theorem lk_113_74 : (zPr L xs).1 113 74 = o_aload 0 1 := rfl
theorem lk_113_75 : (zPr L xs).1 113 75 = o_push (.int (3)) 1 := rfl
theorem lk_113_76 : (zPr L xs).1 113 76 = o_cv 112 1 2 10 10 := rfl
theorem lk_113_79 : (zPr L xs).1 113 79 = o_goto 152 := rfl
theorem lk_113_82 : (zPr L xs).1 113 82 = o_lload 3 1 := rfl
theorem lk_113_83 : (zPr L xs).1 113 83 = o_push (.int (78)) 2 := rfl
theorem lk_113_85 : (zPr L xs).1 113 85 = o_push (.int (79)) 2 := rfl
theorem lk_113_87 : (zPr L xs).1 113 87 = o_push (.int (84)) 2 := rfl
theorem lk_113_89 : (zPr L xs).1 113 89 = o_push (.int (0)) 1 := rfl
theorem lk_113_90 : (zPr L xs).1 113 90 = o_push (.int (0)) 1 := rfl
theorem lk_113_91 : (zPr L xs).1 113 91 = o_push (.int (0)) 1 := rfl
theorem lk_113_92 : (zPr L xs).1 113 92 = o_push (.int (0)) 1 := rfl
theorem lk_113_93 : (zPr L xs).1 113 93 = o_cs 90 7 9 := rfl
theorem lk_113_96 : (zPr L xs).1 113 96 = o_lcmp := rfl
theorem lk_113_97 : (zPr L xs).1 113 97 = o_ifne 114 := rfl
theorem lk_113_100 : (zPr L xs).1 113 100 = o_aload 0 1 := rfl
theorem lk_113_101 : (zPr L xs).1 113 101 = o_push (.int (32)) 2 := rfl
theorem lk_113_103 : (zPr L xs).1 113 103 = o_cv 96 1 2 10 10 := rfl
theorem lk_113_106 : (zPr L xs).1 113 106 = o_aload 0 1 := rfl
theorem lk_113_107 : (zPr L xs).1 113 107 = o_push (.int (1)) 1 := rfl
theorem lk_113_108 : (zPr L xs).1 113 108 = o_cv 112 1 2 10 10 := rfl
theorem lk_113_111 : (zPr L xs).1 113 111 = o_goto 152 := rfl
theorem lk_113_114 : (zPr L xs).1 113 114 = o_lload 3 1 := rfl
theorem lk_113_115 : (zPr L xs).1 113 115 = o_push (.int (79)) 2 := rfl
theorem lk_113_117 : (zPr L xs).1 113 117 = o_push (.int (82)) 2 := rfl
theorem lk_113_119 : (zPr L xs).1 113 119 = o_push (.int (0)) 1 := rfl
theorem lk_113_120 : (zPr L xs).1 113 120 = o_push (.int (0)) 1 := rfl
theorem lk_113_121 : (zPr L xs).1 113 121 = o_push (.int (0)) 1 := rfl
theorem lk_113_122 : (zPr L xs).1 113 122 = o_push (.int (0)) 1 := rfl
theorem lk_113_123 : (zPr L xs).1 113 123 = o_push (.int (0)) 1 := rfl
theorem lk_113_124 : (zPr L xs).1 113 124 = o_cs 90 7 9 := rfl
theorem lk_113_127 : (zPr L xs).1 113 127 = o_lcmp := rfl
theorem lk_113_128 : (zPr L xs).1 113 128 = o_ifne 145 := rfl
theorem lk_113_131 : (zPr L xs).1 113 131 = o_aload 0 1 := rfl
theorem lk_113_132 : (zPr L xs).1 113 132 = o_push (.int (32)) 2 := rfl
theorem lk_113_134 : (zPr L xs).1 113 134 = o_cv 96 1 2 10 10 := rfl
theorem lk_113_137 : (zPr L xs).1 113 137 = o_aload 0 1 := rfl
theorem lk_113_138 : (zPr L xs).1 113 138 = o_push (.int (2)) 1 := rfl
theorem lk_113_139 : (zPr L xs).1 113 139 = o_cv 112 1 2 10 10 := rfl
theorem lk_113_142 : (zPr L xs).1 113 142 = o_goto 152 := rfl
theorem lk_113_145 : (zPr L xs).1 113 145 = o_aload 0 1 := rfl
theorem lk_113_146 : (zPr L xs).1 113 146 = o_iload 2 1 := rfl
theorem lk_113_147 : (zPr L xs).1 113 147 = o_pfI 10 521 (fun x => x) := rfl
theorem lk_113_150 : (zPr L xs).1 113 150 = o_push (.int (0)) 1 := rfl
theorem lk_113_151 : (zPr L xs).1 113 151 = o_istore 1 1 := rfl
theorem lk_113_152 : (zPr L xs).1 113 152 = o_goto 2 := rfl
theorem lk_113_155 : (zPr L xs).1 113 155 = o_vret := rfl
theorem lk_114_0 : (zPr L xs).1 114 0 = o_iload 1 1 := rfl
theorem lk_114_1 : (zPr L xs).1 114 1 = o_istore 2 1 := rfl
theorem lk_114_2 : (zPr L xs).1 114 2 = o_aload 0 1 := rfl
theorem lk_114_3 : (zPr L xs).1 114 3 = o_gfI 10 522 := rfl
theorem lk_114_6 : (zPr L xs).1 114 6 = o_ifne 254 := rfl
theorem lk_114_9 : (zPr L xs).1 114 9 = o_aload 0 1 := rfl
theorem lk_114_10 : (zPr L xs).1 114 10 = o_gfR 10 536 := rfl
theorem lk_114_13 : (zPr L xs).1 114 13 = o_aload 0 1 := rfl
theorem lk_114_14 : (zPr L xs).1 114 14 = o_gfI 10 535 := rfl
theorem lk_114_17 : (zPr L xs).1 114 17 = o_xald 20 := rfl
theorem lk_114_18 : (zPr L xs).1 114 18 = o_istore 3 1 := rfl
theorem lk_114_19 : (zPr L xs).1 114 19 = o_iload 3 1 := rfl
theorem lk_114_20 : (zPr L xs).1 114 20 = o_push (.int (1)) 1 := rfl
theorem lk_114_21 : (zPr L xs).1 114 21 = o_icne 47 := rfl
theorem lk_114_24 : (zPr L xs).1 114 24 = o_iload 2 1 := rfl
theorem lk_114_25 : (zPr L xs).1 114 25 = o_ifne 32 := rfl
theorem lk_114_28 : (zPr L xs).1 114 28 = o_push (.int (1)) 1 := rfl
theorem lk_114_29 : (zPr L xs).1 114 29 = o_goto 33 := rfl
theorem lk_114_32 : (zPr L xs).1 114 32 = o_push (.int (0)) 1 := rfl
theorem lk_114_33 : (zPr L xs).1 114 33 = o_istore 2 1 := rfl
theorem lk_114_34 : (zPr L xs).1 114 34 = o_aload 0 1 := rfl
theorem lk_114_35 : (zPr L xs).1 114 35 = o_dup := rfl
theorem lk_114_36 : (zPr L xs).1 114 36 = o_gfI 10 535 := rfl
theorem lk_114_39 : (zPr L xs).1 114 39 = o_push (.int (1)) 1 := rfl
theorem lk_114_40 : (zPr L xs).1 114 40 = o_iop (fun x y => x - y) := rfl
theorem lk_114_41 : (zPr L xs).1 114 41 = o_pfI 10 535 (fun x => x) := rfl
theorem lk_114_44 : (zPr L xs).1 114 44 = o_goto 251 := rfl
theorem lk_114_47 : (zPr L xs).1 114 47 = o_iload 3 1 := rfl
theorem lk_114_48 : (zPr L xs).1 114 48 = o_push (.int (2)) 1 := rfl
theorem lk_114_49 : (zPr L xs).1 114 49 = o_icne 139 := rfl
theorem lk_114_52 : (zPr L xs).1 114 52 = o_aload 0 1 := rfl
theorem lk_114_53 : (zPr L xs).1 114 53 = o_gfR 10 538 := rfl
theorem lk_114_56 : (zPr L xs).1 114 56 = o_aload 0 1 := rfl
theorem lk_114_57 : (zPr L xs).1 114 57 = o_gfI 10 535 := rfl
theorem lk_114_60 : (zPr L xs).1 114 60 = o_aload 0 1 := rfl
theorem lk_114_61 : (zPr L xs).1 114 61 = o_gfR 10 538 := rfl
theorem lk_114_64 : (zPr L xs).1 114 64 = o_aload 0 1 := rfl
theorem lk_114_65 : (zPr L xs).1 114 65 = o_gfI 10 535 := rfl
theorem lk_114_68 : (zPr L xs).1 114 68 = o_xald 23 := rfl
theorem lk_114_69 : (zPr L xs).1 114 69 = o_ifne 76 := rfl
theorem lk_114_72 : (zPr L xs).1 114 72 = o_iload 2 1 := rfl
theorem lk_114_73 : (zPr L xs).1 114 73 = o_ifeq 80 := rfl
theorem lk_114_76 : (zPr L xs).1 114 76 = o_push (.int (1)) 1 := rfl
theorem lk_114_77 : (zPr L xs).1 114 77 = o_goto 81 := rfl
theorem lk_114_80 : (zPr L xs).1 114 80 = o_push (.int (0)) 1 := rfl
theorem lk_114_81 : (zPr L xs).1 114 81 = o_xast 23 (vp_nar .boolean) := rfl
theorem lk_114_82 : (zPr L xs).1 114 82 = o_aload 0 1 := rfl
theorem lk_114_83 : (zPr L xs).1 114 83 = o_gfR 10 537 := rfl
theorem lk_114_86 : (zPr L xs).1 114 86 = o_aload 0 1 := rfl
theorem lk_114_87 : (zPr L xs).1 114 87 = o_gfI 10 535 := rfl
theorem lk_114_90 : (zPr L xs).1 114 90 = o_dup2 := rfl
theorem lk_114_91 : (zPr L xs).1 114 91 = o_xald 20 := rfl
theorem lk_114_92 : (zPr L xs).1 114 92 = o_push (.int (1)) 1 := rfl
theorem lk_114_93 : (zPr L xs).1 114 93 = o_iop (fun x y => x + y) := rfl
theorem lk_114_94 : (zPr L xs).1 114 94 = o_xast 20 (fun x => x) := rfl
theorem lk_114_95 : (zPr L xs).1 114 95 = o_aload 0 1 := rfl
theorem lk_114_96 : (zPr L xs).1 114 96 = o_gfR 10 537 := rfl
theorem lk_114_99 : (zPr L xs).1 114 99 = o_aload 0 1 := rfl
theorem lk_114_100 : (zPr L xs).1 114 100 = o_gfI 10 535 := rfl
theorem lk_114_103 : (zPr L xs).1 114 103 = o_xald 20 := rfl
theorem lk_114_104 : (zPr L xs).1 114 104 = o_push (.int (1)) 1 := rfl
theorem lk_114_105 : (zPr L xs).1 114 105 = o_icne 116 := rfl
theorem lk_114_108 : (zPr L xs).1 114 108 = o_aload 0 1 := rfl
theorem lk_114_109 : (zPr L xs).1 114 109 = o_push (.int (32)) 2 := rfl
theorem lk_114_111 : (zPr L xs).1 114 111 = o_cv 96 1 2 10 10 := rfl
theorem lk_114_114 : (zPr L xs).1 114 114 = o_push (.int (1)) 1 := rfl
theorem lk_114_115 : (zPr L xs).1 114 115 = o_iret (fun x => x &&& 1) := rfl
theorem lk_114_116 : (zPr L xs).1 114 116 = o_aload 0 1 := rfl
theorem lk_114_117 : (zPr L xs).1 114 117 = o_gfR 10 538 := rfl
theorem lk_114_120 : (zPr L xs).1 114 120 = o_aload 0 1 := rfl
theorem lk_114_121 : (zPr L xs).1 114 121 = o_gfI 10 535 := rfl
theorem lk_114_124 : (zPr L xs).1 114 124 = o_xald 23 := rfl
theorem lk_114_125 : (zPr L xs).1 114 125 = o_istore 2 1 := rfl
theorem lk_114_126 : (zPr L xs).1 114 126 = o_aload 0 1 := rfl
theorem lk_114_127 : (zPr L xs).1 114 127 = o_dup := rfl
theorem lk_114_128 : (zPr L xs).1 114 128 = o_gfI 10 535 := rfl
theorem lk_114_131 : (zPr L xs).1 114 131 = o_push (.int (1)) 1 := rfl
theorem lk_114_132 : (zPr L xs).1 114 132 = o_iop (fun x y => x - y) := rfl
theorem lk_114_133 : (zPr L xs).1 114 133 = o_pfI 10 535 (fun x => x) := rfl
theorem lk_114_136 : (zPr L xs).1 114 136 = o_goto 251 := rfl
theorem lk_114_139 : (zPr L xs).1 114 139 = o_aload 0 1 := rfl
theorem lk_114_140 : (zPr L xs).1 114 140 = o_gfR 10 538 := rfl
theorem lk_114_143 : (zPr L xs).1 114 143 = o_aload 0 1 := rfl
theorem lk_114_144 : (zPr L xs).1 114 144 = o_gfI 10 535 := rfl
theorem lk_114_147 : (zPr L xs).1 114 147 = o_aload 0 1 := rfl
theorem lk_114_148 : (zPr L xs).1 114 148 = o_gfR 10 538 := rfl
theorem lk_114_151 : (zPr L xs).1 114 151 = o_aload 0 1 := rfl
theorem lk_114_152 : (zPr L xs).1 114 152 = o_gfI 10 535 := rfl
theorem lk_114_155 : (zPr L xs).1 114 155 = o_xald 23 := rfl
theorem lk_114_156 : (zPr L xs).1 114 156 = o_ifeq 167 := rfl
theorem lk_114_159 : (zPr L xs).1 114 159 = o_iload 2 1 := rfl
theorem lk_114_160 : (zPr L xs).1 114 160 = o_ifeq 167 := rfl
theorem lk_114_163 : (zPr L xs).1 114 163 = o_push (.int (1)) 1 := rfl
theorem lk_114_164 : (zPr L xs).1 114 164 = o_goto 168 := rfl
theorem lk_114_167 : (zPr L xs).1 114 167 = o_push (.int (0)) 1 := rfl
theorem lk_114_168 : (zPr L xs).1 114 168 = o_xast 23 (vp_nar .boolean) := rfl
theorem lk_114_169 : (zPr L xs).1 114 169 = o_aload 0 1 := rfl
theorem lk_114_170 : (zPr L xs).1 114 170 = o_aload 0 1 := rfl
theorem lk_114_171 : (zPr L xs).1 114 171 = o_gfI 10 521 := rfl
theorem lk_114_174 : (zPr L xs).1 114 174 = o_cv 91 1 2 10 10 := rfl
theorem lk_114_177 : (zPr L xs).1 114 177 = o_push (.int (32)) 2 := rfl
theorem lk_114_179 : (zPr L xs).1 114 179 = o_icne 194 := rfl
theorem lk_114_182 : (zPr L xs).1 114 182 = o_aload 0 1 := rfl
theorem lk_114_183 : (zPr L xs).1 114 183 = o_dup := rfl
theorem lk_114_184 : (zPr L xs).1 114 184 = o_gfI 10 521 := rfl
theorem lk_114_187 : (zPr L xs).1 114 187 = o_push (.int (1)) 1 := rfl
theorem lk_114_188 : (zPr L xs).1 114 188 = o_iop (fun x y => x + y) := rfl
theorem lk_114_189 : (zPr L xs).1 114 189 = o_pfI 10 521 (fun x => x) := rfl
theorem lk_114_192 : (zPr L xs).1 114 192 = o_push (.int (1)) 1 := rfl
theorem lk_114_193 : (zPr L xs).1 114 193 = o_iret (fun x => x &&& 1) := rfl
theorem lk_114_194 : (zPr L xs).1 114 194 = o_iload 3 1 := rfl
theorem lk_114_195 : (zPr L xs).1 114 195 = o_ifne 225 := rfl
theorem lk_114_198 : (zPr L xs).1 114 198 = o_aload 0 1 := rfl
theorem lk_114_199 : (zPr L xs).1 114 199 = o_aload 0 1 := rfl
theorem lk_114_200 : (zPr L xs).1 114 200 = o_gfI 10 521 := rfl
theorem lk_114_203 : (zPr L xs).1 114 203 = o_aload 0 1 := rfl
theorem lk_114_204 : (zPr L xs).1 114 204 = o_gfR 10 517 := rfl
theorem lk_114_207 : (zPr L xs).1 114 207 = o_aload 0 1 := rfl
theorem lk_114_208 : (zPr L xs).1 114 208 = o_gfI 10 520 := rfl
theorem lk_114_211 : (zPr L xs).1 114 211 = o_xald 20 := rfl
theorem lk_114_212 : (zPr L xs).1 114 212 = o_icge 219 := rfl
theorem lk_114_215 : (zPr L xs).1 114 215 = o_push (.int (1)) 1 := rfl
theorem lk_114_216 : (zPr L xs).1 114 216 = o_goto 220 := rfl
theorem lk_114_219 : (zPr L xs).1 114 219 = o_push (.int (0)) 1 := rfl
theorem lk_114_220 : (zPr L xs).1 114 220 = o_pfI 10 522 (fun x => x &&& 1) := rfl
theorem lk_114_223 : (zPr L xs).1 114 223 = o_push (.int (0)) 1 := rfl
theorem lk_114_224 : (zPr L xs).1 114 224 = o_iret (fun x => x &&& 1) := rfl
theorem lk_114_225 : (zPr L xs).1 114 225 = o_aload 0 1 := rfl
theorem lk_114_226 : (zPr L xs).1 114 226 = o_push (.int (41)) 2 := rfl
theorem lk_114_228 : (zPr L xs).1 114 228 = o_cv 96 1 2 10 10 := rfl
theorem lk_114_231 : (zPr L xs).1 114 231 = o_aload 0 1 := rfl
theorem lk_114_232 : (zPr L xs).1 114 232 = o_gfR 10 538 := rfl
theorem lk_114_235 : (zPr L xs).1 114 235 = o_aload 0 1 := rfl
theorem lk_114_236 : (zPr L xs).1 114 236 = o_gfI 10 535 := rfl
theorem lk_114_239 : (zPr L xs).1 114 239 = o_xald 23 := rfl
theorem lk_114_240 : (zPr L xs).1 114 240 = o_istore 2 1 := rfl
theorem lk_114_241 : (zPr L xs).1 114 241 = o_aload 0 1 := rfl
theorem lk_114_242 : (zPr L xs).1 114 242 = o_dup := rfl
theorem lk_114_243 : (zPr L xs).1 114 243 = o_gfI 10 535 := rfl
theorem lk_114_246 : (zPr L xs).1 114 246 = o_push (.int (1)) 1 := rfl
theorem lk_114_247 : (zPr L xs).1 114 247 = o_iop (fun x y => x - y) := rfl
theorem lk_114_248 : (zPr L xs).1 114 248 = o_pfI 10 535 (fun x => x) := rfl
theorem lk_114_251 : (zPr L xs).1 114 251 = o_goto 2 := rfl
theorem lk_114_254 : (zPr L xs).1 114 254 = o_push (.int (0)) 1 := rfl
theorem lk_114_255 : (zPr L xs).1 114 255 = o_iret (fun x => x &&& 1) := rfl
theorem lk_115_0 : (zPr L xs).1 115 0 = o_aload 0 1 := rfl
theorem lk_115_1 : (zPr L xs).1 115 1 = o_aload 0 1 := rfl
theorem lk_115_2 : (zPr L xs).1 115 2 = o_gfI 10 534 := rfl
theorem lk_115_5 : (zPr L xs).1 115 5 = o_pfI 10 521 (fun x => x) := rfl
theorem lk_115_8 : (zPr L xs).1 115 8 = o_aload 0 1 := rfl
theorem lk_115_9 : (zPr L xs).1 115 9 = o_push (.int (-1)) 1 := rfl
theorem lk_115_10 : (zPr L xs).1 115 10 = o_pfI 10 535 (fun x => x) := rfl
theorem lk_115_13 : (zPr L xs).1 115 13 = o_aload 0 1 := rfl
theorem lk_115_14 : (zPr L xs).1 115 14 = o_push (.int (0)) 1 := rfl
theorem lk_115_15 : (zPr L xs).1 115 15 = o_cv 112 1 2 10 10 := rfl
theorem lk_115_18 : (zPr L xs).1 115 18 = o_push (.int (1)) 1 := rfl
theorem lk_115_19 : (zPr L xs).1 115 19 = o_istore 2 1 := rfl
theorem lk_115_20 : (zPr L xs).1 115 20 = o_iload 2 1 := rfl
theorem lk_115_21 : (zPr L xs).1 115 21 = o_ifeq 73 := rfl
theorem lk_115_24 : (zPr L xs).1 115 24 = o_aload 0 1 := rfl
theorem lk_115_25 : (zPr L xs).1 115 25 = o_cv 113 0 5 10 10 := rfl
theorem lk_115_28 : (zPr L xs).1 115 28 = o_aload 0 1 := rfl
theorem lk_115_29 : (zPr L xs).1 115 29 = o_gfI 10 522 := rfl
theorem lk_115_32 : (zPr L xs).1 115 32 = o_ifne 47 := rfl
theorem lk_115_35 : (zPr L xs).1 115 35 = o_aload 0 1 := rfl
theorem lk_115_36 : (zPr L xs).1 115 36 = o_iload 1 1 := rfl
theorem lk_115_37 : (zPr L xs).1 115 37 = o_cv 111 1 5 10 10 := rfl
theorem lk_115_40 : (zPr L xs).1 115 40 = o_ifeq 47 := rfl
theorem lk_115_43 : (zPr L xs).1 115 43 = o_push (.int (1)) 1 := rfl
theorem lk_115_44 : (zPr L xs).1 115 44 = o_goto 48 := rfl
theorem lk_115_47 : (zPr L xs).1 115 47 = o_push (.int (0)) 1 := rfl
theorem lk_115_48 : (zPr L xs).1 115 48 = o_istore 3 1 := rfl
theorem lk_115_49 : (zPr L xs).1 115 49 = o_aload 0 1 := rfl
theorem lk_115_50 : (zPr L xs).1 115 50 = o_gfI 10 522 := rfl
theorem lk_115_53 : (zPr L xs).1 115 53 = o_ifne 68 := rfl
theorem lk_115_56 : (zPr L xs).1 115 56 = o_aload 0 1 := rfl
theorem lk_115_57 : (zPr L xs).1 115 57 = o_iload 3 1 := rfl
theorem lk_115_58 : (zPr L xs).1 115 58 = o_cv 114 1 4 10 10 := rfl
theorem lk_115_61 : (zPr L xs).1 115 61 = o_ifeq 68 := rfl
theorem lk_115_64 : (zPr L xs).1 115 64 = o_push (.int (1)) 1 := rfl
theorem lk_115_65 : (zPr L xs).1 115 65 = o_goto 69 := rfl
theorem lk_115_68 : (zPr L xs).1 115 68 = o_push (.int (0)) 1 := rfl
theorem lk_115_69 : (zPr L xs).1 115 69 = o_istore 2 1 := rfl
theorem lk_115_70 : (zPr L xs).1 115 70 = o_goto 20 := rfl
theorem lk_115_73 : (zPr L xs).1 115 73 = o_aload 0 1 := rfl
theorem lk_115_74 : (zPr L xs).1 115 74 = o_gfR 10 538 := rfl
theorem lk_115_77 : (zPr L xs).1 115 77 = o_push (.int (0)) 1 := rfl
theorem lk_115_78 : (zPr L xs).1 115 78 = o_xald 23 := rfl
theorem lk_115_79 : (zPr L xs).1 115 79 = o_iret (fun x => x &&& 1) := rfl
theorem lk_116_0 : (zPr L xs).1 116 0 = o_lload 1 1 := rfl
theorem lk_116_1 : (zPr L xs).1 116 1 = o_push (.int (78)) 2 := rfl
theorem lk_116_3 : (zPr L xs).1 116 3 = o_push (.int (79)) 2 := rfl
theorem lk_116_5 : (zPr L xs).1 116 5 = o_push (.int (79)) 2 := rfl
theorem lk_116_7 : (zPr L xs).1 116 7 = o_push (.int (80)) 2 := rfl
theorem lk_116_9 : (zPr L xs).1 116 9 = o_push (.int (0)) 1 := rfl
theorem lk_116_10 : (zPr L xs).1 116 10 = o_push (.int (0)) 1 := rfl
theorem lk_116_11 : (zPr L xs).1 116 11 = o_push (.int (0)) 1 := rfl
theorem lk_116_12 : (zPr L xs).1 116 12 = o_cs 90 7 9 := rfl
theorem lk_116_15 : (zPr L xs).1 116 15 = o_lcmp := rfl
theorem lk_116_16 : (zPr L xs).1 116 16 = o_ifne 21 := rfl
theorem lk_116_19 : (zPr L xs).1 116 19 = o_push (.int (1)) 1 := rfl
theorem lk_116_20 : (zPr L xs).1 116 20 = o_iret (fun x => x) := rfl
theorem lk_116_21 : (zPr L xs).1 116 21 = o_lload 1 1 := rfl
theorem lk_116_22 : (zPr L xs).1 116 22 = o_push (.int (67)) 2 := rfl
theorem lk_116_24 : (zPr L xs).1 116 24 = o_push (.int (76)) 2 := rfl
theorem lk_116_26 : (zPr L xs).1 116 26 = o_push (.int (79)) 2 := rfl
theorem lk_116_28 : (zPr L xs).1 116 28 = o_push (.int (83)) 2 := rfl
theorem lk_116_30 : (zPr L xs).1 116 30 = o_push (.int (69)) 2 := rfl
theorem lk_116_32 : (zPr L xs).1 116 32 = o_push (.int (0)) 1 := rfl
theorem lk_116_33 : (zPr L xs).1 116 33 = o_push (.int (0)) 1 := rfl
theorem lk_116_34 : (zPr L xs).1 116 34 = o_cs 90 7 9 := rfl
theorem lk_116_37 : (zPr L xs).1 116 37 = o_lcmp := rfl
theorem lk_116_38 : (zPr L xs).1 116 38 = o_ifne 43 := rfl
theorem lk_116_41 : (zPr L xs).1 116 41 = o_push (.int (2)) 1 := rfl
theorem lk_116_42 : (zPr L xs).1 116 42 = o_iret (fun x => x) := rfl
theorem lk_116_43 : (zPr L xs).1 116 43 = o_lload 1 1 := rfl
theorem lk_116_44 : (zPr L xs).1 116 44 = o_push (.int (69)) 2 := rfl
theorem lk_116_46 : (zPr L xs).1 116 46 = o_push (.int (88)) 2 := rfl
theorem lk_116_48 : (zPr L xs).1 116 48 = o_push (.int (80)) 2 := rfl
theorem lk_116_50 : (zPr L xs).1 116 50 = o_push (.int (85)) 2 := rfl
theorem lk_116_52 : (zPr L xs).1 116 52 = o_push (.int (78)) 2 := rfl
theorem lk_116_54 : (zPr L xs).1 116 54 = o_push (.int (71)) 2 := rfl
theorem lk_116_56 : (zPr L xs).1 116 56 = o_push (.int (69)) 2 := rfl
theorem lk_116_58 : (zPr L xs).1 116 58 = o_cs 90 7 9 := rfl
theorem lk_116_61 : (zPr L xs).1 116 61 = o_lcmp := rfl
theorem lk_116_62 : (zPr L xs).1 116 62 = o_ifne 67 := rfl
theorem lk_116_65 : (zPr L xs).1 116 65 = o_push (.int (3)) 1 := rfl
theorem lk_116_66 : (zPr L xs).1 116 66 = o_iret (fun x => x) := rfl
theorem lk_116_67 : (zPr L xs).1 116 67 = o_lload 1 1 := rfl
theorem lk_116_68 : (zPr L xs).1 116 68 = o_push (.int (76)) 2 := rfl
theorem lk_116_70 : (zPr L xs).1 116 70 = o_push (.int (79)) 2 := rfl
theorem lk_116_72 : (zPr L xs).1 116 72 = o_push (.int (71)) 2 := rfl
theorem lk_116_74 : (zPr L xs).1 116 74 = o_push (.int (79)) 2 := rfl
theorem lk_116_76 : (zPr L xs).1 116 76 = o_push (.int (85)) 2 := rfl
theorem lk_116_78 : (zPr L xs).1 116 78 = o_push (.int (84)) 2 := rfl
theorem lk_116_80 : (zPr L xs).1 116 80 = o_push (.int (0)) 1 := rfl
theorem lk_116_81 : (zPr L xs).1 116 81 = o_cs 90 7 9 := rfl
theorem lk_116_84 : (zPr L xs).1 116 84 = o_lcmp := rfl
theorem lk_116_85 : (zPr L xs).1 116 85 = o_ifne 90 := rfl
theorem lk_116_88 : (zPr L xs).1 116 88 = o_push (.int (4)) 1 := rfl
theorem lk_116_89 : (zPr L xs).1 116 89 = o_iret (fun x => x) := rfl
theorem lk_116_90 : (zPr L xs).1 116 90 = o_lload 1 1 := rfl
theorem lk_116_91 : (zPr L xs).1 116 91 = o_push (.int (67)) 2 := rfl
theorem lk_116_93 : (zPr L xs).1 116 93 = o_push (.int (82)) 2 := rfl
theorem lk_116_95 : (zPr L xs).1 116 95 = o_push (.int (69)) 2 := rfl
theorem lk_116_97 : (zPr L xs).1 116 97 = o_push (.int (65)) 2 := rfl
theorem lk_116_99 : (zPr L xs).1 116 99 = o_push (.int (84)) 2 := rfl
theorem lk_116_101 : (zPr L xs).1 116 101 = o_push (.int (69)) 2 := rfl
theorem lk_116_103 : (zPr L xs).1 116 103 = o_push (.int (0)) 1 := rfl
theorem lk_116_104 : (zPr L xs).1 116 104 = o_cs 90 7 9 := rfl
theorem lk_116_107 : (zPr L xs).1 116 107 = o_lcmp := rfl
theorem lk_116_108 : (zPr L xs).1 116 108 = o_ifne 113 := rfl
theorem lk_116_111 : (zPr L xs).1 116 111 = o_push (.int (5)) 1 := rfl
theorem lk_116_112 : (zPr L xs).1 116 112 = o_iret (fun x => x) := rfl
theorem lk_116_113 : (zPr L xs).1 116 113 = o_lload 1 1 := rfl
theorem lk_116_114 : (zPr L xs).1 116 114 = o_push (.int (68)) 2 := rfl
theorem lk_116_116 : (zPr L xs).1 116 116 = o_push (.int (69)) 2 := rfl
theorem lk_116_118 : (zPr L xs).1 116 118 = o_push (.int (76)) 2 := rfl
theorem lk_116_120 : (zPr L xs).1 116 120 = o_push (.int (69)) 2 := rfl
theorem lk_116_122 : (zPr L xs).1 116 122 = o_push (.int (84)) 2 := rfl
theorem lk_116_124 : (zPr L xs).1 116 124 = o_push (.int (69)) 2 := rfl
theorem lk_116_126 : (zPr L xs).1 116 126 = o_push (.int (0)) 1 := rfl
theorem lk_116_127 : (zPr L xs).1 116 127 = o_cs 90 7 9 := rfl
theorem lk_116_130 : (zPr L xs).1 116 130 = o_lcmp := rfl
theorem lk_116_131 : (zPr L xs).1 116 131 = o_ifne 137 := rfl
theorem lk_116_134 : (zPr L xs).1 116 134 = o_push (.int (6)) 2 := rfl
theorem lk_116_136 : (zPr L xs).1 116 136 = o_iret (fun x => x) := rfl
theorem lk_116_137 : (zPr L xs).1 116 137 = o_lload 1 1 := rfl
theorem lk_116_138 : (zPr L xs).1 116 138 = o_push (.int (83)) 2 := rfl
theorem lk_116_140 : (zPr L xs).1 116 140 = o_push (.int (69)) 2 := rfl
theorem lk_116_142 : (zPr L xs).1 116 142 = o_push (.int (76)) 2 := rfl
theorem lk_116_144 : (zPr L xs).1 116 144 = o_push (.int (69)) 2 := rfl
theorem lk_116_146 : (zPr L xs).1 116 146 = o_push (.int (67)) 2 := rfl
theorem lk_116_148 : (zPr L xs).1 116 148 = o_push (.int (84)) 2 := rfl
theorem lk_116_150 : (zPr L xs).1 116 150 = o_push (.int (0)) 1 := rfl
theorem lk_116_151 : (zPr L xs).1 116 151 = o_cs 90 7 9 := rfl
theorem lk_116_154 : (zPr L xs).1 116 154 = o_lcmp := rfl
theorem lk_116_155 : (zPr L xs).1 116 155 = o_ifne 161 := rfl
theorem lk_116_158 : (zPr L xs).1 116 158 = o_push (.int (7)) 2 := rfl
theorem lk_116_160 : (zPr L xs).1 116 160 = o_iret (fun x => x) := rfl
theorem lk_116_161 : (zPr L xs).1 116 161 = o_lload 1 1 := rfl
theorem lk_116_162 : (zPr L xs).1 116 162 = o_push (.int (69)) 2 := rfl
theorem lk_116_164 : (zPr L xs).1 116 164 = o_push (.int (88)) 2 := rfl
theorem lk_116_166 : (zPr L xs).1 116 166 = o_push (.int (65)) 2 := rfl
theorem lk_116_168 : (zPr L xs).1 116 168 = o_push (.int (77)) 2 := rfl
theorem lk_116_170 : (zPr L xs).1 116 170 = o_push (.int (73)) 2 := rfl
theorem lk_116_172 : (zPr L xs).1 116 172 = o_push (.int (78)) 2 := rfl
theorem lk_116_174 : (zPr L xs).1 116 174 = o_push (.int (69)) 2 := rfl
theorem lk_116_176 : (zPr L xs).1 116 176 = o_cs 90 7 9 := rfl
theorem lk_116_179 : (zPr L xs).1 116 179 = o_lcmp := rfl
theorem lk_116_180 : (zPr L xs).1 116 180 = o_ifne 186 := rfl
theorem lk_116_183 : (zPr L xs).1 116 183 = o_push (.int (8)) 2 := rfl
theorem lk_116_185 : (zPr L xs).1 116 185 = o_iret (fun x => x) := rfl
theorem lk_116_186 : (zPr L xs).1 116 186 = o_lload 1 1 := rfl
theorem lk_116_187 : (zPr L xs).1 116 187 = o_push (.int (65)) 2 := rfl
theorem lk_116_189 : (zPr L xs).1 116 189 = o_push (.int (80)) 2 := rfl
theorem lk_116_191 : (zPr L xs).1 116 191 = o_push (.int (80)) 2 := rfl
theorem lk_116_193 : (zPr L xs).1 116 193 = o_push (.int (69)) 2 := rfl
theorem lk_116_195 : (zPr L xs).1 116 195 = o_push (.int (78)) 2 := rfl
theorem lk_116_197 : (zPr L xs).1 116 197 = o_push (.int (68)) 2 := rfl
theorem lk_116_199 : (zPr L xs).1 116 199 = o_push (.int (0)) 1 := rfl
theorem lk_116_200 : (zPr L xs).1 116 200 = o_cs 90 7 9 := rfl
theorem lk_116_203 : (zPr L xs).1 116 203 = o_lcmp := rfl
theorem lk_116_204 : (zPr L xs).1 116 204 = o_ifne 210 := rfl
theorem lk_116_207 : (zPr L xs).1 116 207 = o_push (.int (9)) 2 := rfl
theorem lk_116_209 : (zPr L xs).1 116 209 = o_iret (fun x => x) := rfl
theorem lk_116_210 : (zPr L xs).1 116 210 = o_lload 1 1 := rfl
theorem lk_116_211 : (zPr L xs).1 116 211 = o_push (.int (83)) 2 := rfl
theorem lk_116_213 : (zPr L xs).1 116 213 = o_push (.int (84)) 2 := rfl
theorem lk_116_215 : (zPr L xs).1 116 215 = o_push (.int (79)) 2 := rfl
theorem lk_116_217 : (zPr L xs).1 116 217 = o_push (.int (82)) 2 := rfl
theorem lk_116_219 : (zPr L xs).1 116 219 = o_push (.int (69)) 2 := rfl
theorem lk_116_221 : (zPr L xs).1 116 221 = o_push (.int (0)) 1 := rfl
theorem lk_116_222 : (zPr L xs).1 116 222 = o_push (.int (0)) 1 := rfl
theorem lk_116_223 : (zPr L xs).1 116 223 = o_cs 90 7 9 := rfl
theorem lk_116_226 : (zPr L xs).1 116 226 = o_lcmp := rfl
theorem lk_116_227 : (zPr L xs).1 116 227 = o_ifne 233 := rfl
theorem lk_116_230 : (zPr L xs).1 116 230 = o_push (.int (10)) 2 := rfl
theorem lk_116_232 : (zPr L xs).1 116 232 = o_iret (fun x => x) := rfl
theorem lk_116_233 : (zPr L xs).1 116 233 = o_lload 1 1 := rfl
theorem lk_116_234 : (zPr L xs).1 116 234 = o_push (.int (70)) 2 := rfl
theorem lk_116_236 : (zPr L xs).1 116 236 = o_push (.int (69)) 2 := rfl
theorem lk_116_238 : (zPr L xs).1 116 238 = o_push (.int (84)) 2 := rfl
theorem lk_116_240 : (zPr L xs).1 116 240 = o_push (.int (67)) 2 := rfl
theorem lk_116_242 : (zPr L xs).1 116 242 = o_push (.int (72)) 2 := rfl
theorem lk_116_244 : (zPr L xs).1 116 244 = o_push (.int (0)) 1 := rfl
theorem lk_116_245 : (zPr L xs).1 116 245 = o_push (.int (0)) 1 := rfl
theorem lk_116_246 : (zPr L xs).1 116 246 = o_cs 90 7 9 := rfl
theorem lk_116_249 : (zPr L xs).1 116 249 = o_lcmp := rfl
theorem lk_116_250 : (zPr L xs).1 116 250 = o_ifne 256 := rfl
theorem lk_116_253 : (zPr L xs).1 116 253 = o_push (.int (11)) 2 := rfl
theorem lk_116_255 : (zPr L xs).1 116 255 = o_iret (fun x => x) := rfl
theorem lk_116_256 : (zPr L xs).1 116 256 = o_lload 1 1 := rfl
theorem lk_116_257 : (zPr L xs).1 116 257 = o_push (.int (67)) 2 := rfl
theorem lk_116_259 : (zPr L xs).1 116 259 = o_push (.int (79)) 2 := rfl
theorem lk_116_261 : (zPr L xs).1 116 261 = o_push (.int (80)) 2 := rfl
theorem lk_116_263 : (zPr L xs).1 116 263 = o_push (.int (89)) 2 := rfl
theorem lk_116_265 : (zPr L xs).1 116 265 = o_push (.int (0)) 1 := rfl
theorem lk_116_266 : (zPr L xs).1 116 266 = o_push (.int (0)) 1 := rfl
theorem lk_116_267 : (zPr L xs).1 116 267 = o_push (.int (0)) 1 := rfl
theorem lk_116_268 : (zPr L xs).1 116 268 = o_cs 90 7 9 := rfl
theorem lk_116_271 : (zPr L xs).1 116 271 = o_lcmp := rfl
theorem lk_116_272 : (zPr L xs).1 116 272 = o_ifne 278 := rfl
theorem lk_116_275 : (zPr L xs).1 116 275 = o_push (.int (12)) 2 := rfl
theorem lk_116_277 : (zPr L xs).1 116 277 = o_iret (fun x => x) := rfl
theorem lk_116_278 : (zPr L xs).1 116 278 = o_lload 1 1 := rfl
theorem lk_116_279 : (zPr L xs).1 116 279 = o_push (.int (83)) 2 := rfl
theorem lk_116_281 : (zPr L xs).1 116 281 = o_push (.int (69)) 2 := rfl
theorem lk_116_283 : (zPr L xs).1 116 283 = o_push (.int (65)) 2 := rfl
theorem lk_116_285 : (zPr L xs).1 116 285 = o_push (.int (82)) 2 := rfl
theorem lk_116_287 : (zPr L xs).1 116 287 = o_push (.int (67)) 2 := rfl
theorem lk_116_289 : (zPr L xs).1 116 289 = o_push (.int (72)) 2 := rfl
theorem lk_116_291 : (zPr L xs).1 116 291 = o_push (.int (0)) 1 := rfl
theorem lk_116_292 : (zPr L xs).1 116 292 = o_cs 90 7 9 := rfl
theorem lk_116_295 : (zPr L xs).1 116 295 = o_lcmp := rfl
theorem lk_116_296 : (zPr L xs).1 116 296 = o_ifne 304 := rfl
theorem lk_116_299 : (zPr L xs).1 116 299 = o_push (.int (13)) 2 := rfl
theorem lk_116_301 : (zPr L xs).1 116 301 = o_goto 305 := rfl
theorem lk_116_304 : (zPr L xs).1 116 304 = o_push (.int (0)) 1 := rfl
theorem lk_116_305 : (zPr L xs).1 116 305 = o_iret (fun x => x) := rfl
theorem lk_117_0 : (zPr L xs).1 117 0 = o_iload 1 1 := rfl
theorem lk_117_1 : (zPr L xs).1 117 1 = o_push (.int (13)) 2 := rfl
theorem lk_117_3 : (zPr L xs).1 117 3 = o_icne 26 := rfl
theorem lk_117_6 : (zPr L xs).1 117 6 = o_aload 0 1 := rfl
theorem lk_117_7 : (zPr L xs).1 117 7 = o_aload 0 1 := rfl
theorem lk_117_8 : (zPr L xs).1 117 8 = o_gfI 10 521 := rfl
theorem lk_117_11 : (zPr L xs).1 117 11 = o_pfI 10 534 (fun x => x) := rfl
theorem lk_117_14 : (zPr L xs).1 117 14 = o_aload 0 1 := rfl
theorem lk_117_15 : (zPr L xs).1 117 15 = o_push (.int (0)) 1 := rfl
theorem lk_117_16 : (zPr L xs).1 117 16 = o_pfI 10 523 (fun x => x &&& 1) := rfl
theorem lk_117_19 : (zPr L xs).1 117 19 = o_aload 0 1 := rfl
theorem lk_117_20 : (zPr L xs).1 117 20 = o_push (.int (0)) 1 := rfl
theorem lk_117_21 : (zPr L xs).1 117 21 = o_cv 115 1 4 10 10 := rfl
theorem lk_117_24 : (zPr L xs).1 117 24 = o_pop := rfl
theorem lk_117_25 : (zPr L xs).1 117 25 = o_vret := rfl
theorem lk_117_26 : (zPr L xs).1 117 26 = o_aload 0 1 := rfl
theorem lk_117_27 : (zPr L xs).1 117 27 = o_cv 102 0 2 10 10 := rfl
theorem lk_117_30 : (zPr L xs).1 117 30 = o_aload 0 1 := rfl
theorem lk_117_31 : (zPr L xs).1 117 31 = o_push (.int (32)) 2 := rfl
theorem lk_117_33 : (zPr L xs).1 117 33 = o_cv 96 1 2 10 10 := rfl
theorem lk_117_36 : (zPr L xs).1 117 36 = o_iload 1 1 := rfl
theorem lk_117_37 : (zPr L xs).1 117 37 = o_push (.int (10)) 2 := rfl
theorem lk_117_39 : (zPr L xs).1 117 39 = o_icne 112 := rfl
theorem lk_117_42 : (zPr L xs).1 117 42 = o_aload 0 1 := rfl
theorem lk_117_43 : (zPr L xs).1 117 43 = o_aload 0 1 := rfl
theorem lk_117_44 : (zPr L xs).1 117 44 = o_aload 0 1 := rfl
theorem lk_117_45 : (zPr L xs).1 117 45 = o_gfI 10 521 := rfl
theorem lk_117_48 : (zPr L xs).1 117 48 = o_cv 91 1 2 10 10 := rfl
theorem lk_117_51 : (zPr L xs).1 117 51 = o_push (.int (43)) 2 := rfl
theorem lk_117_53 : (zPr L xs).1 117 53 = o_icne 60 := rfl
theorem lk_117_56 : (zPr L xs).1 117 56 = o_push (.int (1)) 1 := rfl
theorem lk_117_57 : (zPr L xs).1 117 57 = o_goto 78 := rfl
theorem lk_117_60 : (zPr L xs).1 117 60 = o_aload 0 1 := rfl
theorem lk_117_61 : (zPr L xs).1 117 61 = o_aload 0 1 := rfl
theorem lk_117_62 : (zPr L xs).1 117 62 = o_gfI 10 521 := rfl
theorem lk_117_65 : (zPr L xs).1 117 65 = o_cv 91 1 2 10 10 := rfl
theorem lk_117_68 : (zPr L xs).1 117 68 = o_push (.int (45)) 2 := rfl
theorem lk_117_70 : (zPr L xs).1 117 70 = o_icne 77 := rfl
theorem lk_117_73 : (zPr L xs).1 117 73 = o_push (.int (-1)) 1 := rfl
theorem lk_117_74 : (zPr L xs).1 117 74 = o_goto 78 := rfl
theorem lk_117_77 : (zPr L xs).1 117 77 = o_push (.int (0)) 1 := rfl
theorem lk_117_78 : (zPr L xs).1 117 78 = o_pfI 10 530 (fun x => x) := rfl
theorem lk_117_81 : (zPr L xs).1 117 81 = o_aload 0 1 := rfl
theorem lk_117_82 : (zPr L xs).1 117 82 = o_aload 0 1 := rfl
theorem lk_117_83 : (zPr L xs).1 117 83 = o_gfI 10 530 := rfl
theorem lk_117_86 : (zPr L xs).1 117 86 = o_ifeq 98 := rfl
theorem lk_117_89 : (zPr L xs).1 117 89 = o_aload 0 1 := rfl
theorem lk_117_90 : (zPr L xs).1 117 90 = o_gfI 10 521 := rfl
theorem lk_117_93 : (zPr L xs).1 117 93 = o_push (.int (1)) 1 := rfl
theorem lk_117_94 : (zPr L xs).1 117 94 = o_iop (fun x y => x + y) := rfl
theorem lk_117_95 : (zPr L xs).1 117 95 = o_goto 102 := rfl
theorem lk_117_98 : (zPr L xs).1 117 98 = o_aload 0 1 := rfl
theorem lk_117_99 : (zPr L xs).1 117 99 = o_gfI 10 521 := rfl
theorem lk_117_102 : (zPr L xs).1 117 102 = o_pfI 10 521 (fun x => x) := rfl
theorem lk_117_105 : (zPr L xs).1 117 105 = o_aload 0 1 := rfl
theorem lk_117_106 : (zPr L xs).1 117 106 = o_cv 99 0 1 10 10 := rfl
theorem lk_117_109 : (zPr L xs).1 117 109 = o_goto 215 := rfl
theorem lk_117_112 : (zPr L xs).1 117 112 = o_iload 1 1 := rfl
theorem lk_117_113 : (zPr L xs).1 117 113 = o_push (.int (11)) 2 := rfl
theorem lk_117_115 : (zPr L xs).1 117 115 = o_icne 211 := rfl
theorem lk_117_118 : (zPr L xs).1 117 118 = o_aload 0 1 := rfl
theorem lk_117_119 : (zPr L xs).1 117 119 = o_aload 0 1 := rfl
theorem lk_117_120 : (zPr L xs).1 117 120 = o_cv 95 0 5 10 10 := rfl
theorem lk_117_123 : (zPr L xs).1 117 123 = o_pfL 10 533 := rfl
theorem lk_117_126 : (zPr L xs).1 117 126 = o_aload 0 1 := rfl
theorem lk_117_127 : (zPr L xs).1 117 127 = o_aload 0 1 := rfl
theorem lk_117_128 : (zPr L xs).1 117 128 = o_gfI 10 522 := rfl
theorem lk_117_131 : (zPr L xs).1 117 131 = o_ifne 200 := rfl
theorem lk_117_134 : (zPr L xs).1 117 134 = o_aload 0 1 := rfl
theorem lk_117_135 : (zPr L xs).1 117 135 = o_gfL 10 533 := rfl
theorem lk_117_138 : (zPr L xs).1 117 138 = o_push (.int (70)) 2 := rfl
theorem lk_117_140 : (zPr L xs).1 117 140 = o_push (.int (76)) 2 := rfl
theorem lk_117_142 : (zPr L xs).1 117 142 = o_push (.int (65)) 2 := rfl
theorem lk_117_144 : (zPr L xs).1 117 144 = o_push (.int (71)) 2 := rfl
theorem lk_117_146 : (zPr L xs).1 117 146 = o_push (.int (83)) 2 := rfl
theorem lk_117_148 : (zPr L xs).1 117 148 = o_push (.int (0)) 1 := rfl
theorem lk_117_149 : (zPr L xs).1 117 149 = o_push (.int (0)) 1 := rfl
theorem lk_117_150 : (zPr L xs).1 117 150 = o_cs 90 7 9 := rfl
theorem lk_117_153 : (zPr L xs).1 117 153 = o_lcmp := rfl
theorem lk_117_154 : (zPr L xs).1 117 154 = o_ifeq 204 := rfl
theorem lk_117_157 : (zPr L xs).1 117 157 = o_aload 0 1 := rfl
theorem lk_117_158 : (zPr L xs).1 117 158 = o_gfL 10 533 := rfl
theorem lk_117_161 : (zPr L xs).1 117 161 = o_push (.int (85)) 2 := rfl
theorem lk_117_163 : (zPr L xs).1 117 163 = o_push (.int (73)) 2 := rfl
theorem lk_117_165 : (zPr L xs).1 117 165 = o_push (.int (68)) 2 := rfl
theorem lk_117_167 : (zPr L xs).1 117 167 = o_push (.int (0)) 1 := rfl
theorem lk_117_168 : (zPr L xs).1 117 168 = o_push (.int (0)) 1 := rfl
theorem lk_117_169 : (zPr L xs).1 117 169 = o_push (.int (0)) 1 := rfl
theorem lk_117_170 : (zPr L xs).1 117 170 = o_push (.int (0)) 1 := rfl
theorem lk_117_171 : (zPr L xs).1 117 171 = o_cs 90 7 9 := rfl
theorem lk_117_174 : (zPr L xs).1 117 174 = o_lcmp := rfl
theorem lk_117_175 : (zPr L xs).1 117 175 = o_ifeq 204 := rfl
theorem lk_117_178 : (zPr L xs).1 117 178 = o_aload 0 1 := rfl
theorem lk_117_179 : (zPr L xs).1 117 179 = o_gfL 10 533 := rfl
theorem lk_117_182 : (zPr L xs).1 117 182 = o_push (.int (84)) 2 := rfl
theorem lk_117_184 : (zPr L xs).1 117 184 = o_push (.int (69)) 2 := rfl
theorem lk_117_186 : (zPr L xs).1 117 186 = o_push (.int (88)) 2 := rfl
theorem lk_117_188 : (zPr L xs).1 117 188 = o_push (.int (84)) 2 := rfl
theorem lk_117_190 : (zPr L xs).1 117 190 = o_push (.int (0)) 1 := rfl
theorem lk_117_191 : (zPr L xs).1 117 191 = o_push (.int (0)) 1 := rfl
theorem lk_117_192 : (zPr L xs).1 117 192 = o_push (.int (0)) 1 := rfl
theorem lk_117_193 : (zPr L xs).1 117 193 = o_cs 90 7 9 := rfl
theorem lk_117_196 : (zPr L xs).1 117 196 = o_lcmp := rfl
theorem lk_117_197 : (zPr L xs).1 117 197 = o_ifeq 204 := rfl
theorem lk_117_200 : (zPr L xs).1 117 200 = o_push (.int (1)) 1 := rfl
theorem lk_117_201 : (zPr L xs).1 117 201 = o_goto 205 := rfl
theorem lk_117_204 : (zPr L xs).1 117 204 = o_push (.int (0)) 1 := rfl
theorem lk_117_205 : (zPr L xs).1 117 205 = o_pfI 10 522 (fun x => x &&& 1) := rfl
theorem lk_117_208 : (zPr L xs).1 117 208 = o_goto 215 := rfl
theorem lk_117_211 : (zPr L xs).1 117 211 = o_aload 0 1 := rfl
theorem lk_117_212 : (zPr L xs).1 117 212 = o_cv 97 0 2 10 10 := rfl
theorem lk_117_215 : (zPr L xs).1 117 215 = o_vret := rfl
theorem lk_118_0 : (zPr L xs).1 118 0 = o_aload 0 1 := rfl
theorem lk_118_1 : (zPr L xs).1 118 1 = o_push (.int (0)) 1 := rfl
theorem lk_118_2 : (zPr L xs).1 118 2 = o_pfI 10 521 (fun x => x) := rfl
theorem lk_118_5 : (zPr L xs).1 118 5 = o_aload 0 1 := rfl
theorem lk_118_6 : (zPr L xs).1 118 6 = o_push (.int (0)) 1 := rfl
theorem lk_118_7 : (zPr L xs).1 118 7 = o_pfI 10 522 (fun x => x &&& 1) := rfl
theorem lk_118_10 : (zPr L xs).1 118 10 = o_aload 0 1 := rfl
theorem lk_118_11 : (zPr L xs).1 118 11 = o_push (.int (0)) 1 := rfl
theorem lk_118_12 : (zPr L xs).1 118 12 = o_pfI 10 523 (fun x => x &&& 1) := rfl
theorem lk_118_15 : (zPr L xs).1 118 15 = o_aload 0 1 := rfl
theorem lk_118_16 : (zPr L xs).1 118 16 = o_push (.int (0)) 1 := rfl
theorem lk_118_17 : (zPr L xs).1 118 17 = o_pfI 10 525 (fun x => x &&& 1) := rfl
theorem lk_118_20 : (zPr L xs).1 118 20 = o_aload 0 1 := rfl
theorem lk_118_21 : (zPr L xs).1 118 21 = o_aload 0 1 := rfl
theorem lk_118_22 : (zPr L xs).1 118 22 = o_gfI 10 521 := rfl
theorem lk_118_25 : (zPr L xs).1 118 25 = o_cv 91 1 2 10 10 := rfl
theorem lk_118_28 : (zPr L xs).1 118 28 = o_cs 93 1 1 := rfl
theorem lk_118_31 : (zPr L xs).1 118 31 = o_ifne 48 := rfl
theorem lk_118_34 : (zPr L xs).1 118 34 = o_aload 0 1 := rfl
theorem lk_118_35 : (zPr L xs).1 118 35 = o_aload 0 1 := rfl
theorem lk_118_36 : (zPr L xs).1 118 36 = o_gfI 10 521 := rfl
theorem lk_118_39 : (zPr L xs).1 118 39 = o_cv 91 1 2 10 10 := rfl
theorem lk_118_42 : (zPr L xs).1 118 42 = o_cs 92 1 1 := rfl
theorem lk_118_45 : (zPr L xs).1 118 45 = o_ifeq 61 := rfl
theorem lk_118_48 : (zPr L xs).1 118 48 = o_aload 0 1 := rfl
theorem lk_118_49 : (zPr L xs).1 118 49 = o_dup := rfl
theorem lk_118_50 : (zPr L xs).1 118 50 = o_gfI 10 521 := rfl
theorem lk_118_53 : (zPr L xs).1 118 53 = o_push (.int (1)) 1 := rfl
theorem lk_118_54 : (zPr L xs).1 118 54 = o_iop (fun x y => x + y) := rfl
theorem lk_118_55 : (zPr L xs).1 118 55 = o_pfI 10 521 (fun x => x) := rfl
theorem lk_118_58 : (zPr L xs).1 118 58 = o_goto 20 := rfl
theorem lk_118_61 : (zPr L xs).1 118 61 = o_aload 0 1 := rfl
theorem lk_118_62 : (zPr L xs).1 118 62 = o_aload 0 1 := rfl
theorem lk_118_63 : (zPr L xs).1 118 63 = o_gfI 10 521 := rfl
theorem lk_118_66 : (zPr L xs).1 118 66 = o_pfI 10 524 (fun x => x) := rfl
theorem lk_118_69 : (zPr L xs).1 118 69 = o_aload 0 1 := rfl
theorem lk_118_70 : (zPr L xs).1 118 70 = o_aload 0 1 := rfl
theorem lk_118_71 : (zPr L xs).1 118 71 = o_gfI 10 524 := rfl
theorem lk_118_74 : (zPr L xs).1 118 74 = o_push (.int (1)) 1 := rfl
theorem lk_118_75 : (zPr L xs).1 118 75 = o_iclt 86 := rfl
theorem lk_118_78 : (zPr L xs).1 118 78 = o_aload 0 1 := rfl
theorem lk_118_79 : (zPr L xs).1 118 79 = o_gfI 10 524 := rfl
theorem lk_118_82 : (zPr L xs).1 118 82 = o_push (.int (2)) 1 := rfl
theorem lk_118_83 : (zPr L xs).1 118 83 = o_icle 90 := rfl
theorem lk_118_86 : (zPr L xs).1 118 86 = o_push (.int (1)) 1 := rfl
theorem lk_118_87 : (zPr L xs).1 118 87 = o_goto 91 := rfl
theorem lk_118_90 : (zPr L xs).1 118 90 = o_push (.int (0)) 1 := rfl
theorem lk_118_91 : (zPr L xs).1 118 91 = o_pfI 10 522 (fun x => x &&& 1) := rfl
theorem lk_118_94 : (zPr L xs).1 118 94 = o_aload 0 1 := rfl
theorem lk_118_95 : (zPr L xs).1 118 95 = o_push (.int (32)) 2 := rfl
theorem lk_118_97 : (zPr L xs).1 118 97 = o_cv 96 1 2 10 10 := rfl
theorem lk_118_100 : (zPr L xs).1 118 100 = o_aload 0 1 := rfl
theorem lk_118_101 : (zPr L xs).1 118 101 = o_cv 95 0 5 10 10 := rfl
theorem lk_118_104 : (zPr L xs).1 118 104 = o_lstore 1 1 := rfl
theorem lk_118_105 : (zPr L xs).1 118 105 = o_lload 1 1 := rfl
theorem lk_118_106 : (zPr L xs).1 118 106 = o_push (.int (85)) 2 := rfl
theorem lk_118_108 : (zPr L xs).1 118 108 = o_push (.int (73)) 2 := rfl
theorem lk_118_110 : (zPr L xs).1 118 110 = o_push (.int (68)) 2 := rfl
theorem lk_118_112 : (zPr L xs).1 118 112 = o_push (.int (0)) 1 := rfl
theorem lk_118_113 : (zPr L xs).1 118 113 = o_push (.int (0)) 1 := rfl
theorem lk_118_114 : (zPr L xs).1 118 114 = o_push (.int (0)) 1 := rfl
theorem lk_118_115 : (zPr L xs).1 118 115 = o_push (.int (0)) 1 := rfl
theorem lk_118_116 : (zPr L xs).1 118 116 = o_cs 90 7 9 := rfl
theorem lk_118_119 : (zPr L xs).1 118 119 = o_lcmp := rfl
theorem lk_118_120 : (zPr L xs).1 118 120 = o_ifne 139 := rfl
theorem lk_118_123 : (zPr L xs).1 118 123 = o_aload 0 1 := rfl
theorem lk_118_124 : (zPr L xs).1 118 124 = o_push (.int (1)) 1 := rfl
theorem lk_118_125 : (zPr L xs).1 118 125 = o_pfI 10 525 (fun x => x &&& 1) := rfl
theorem lk_118_128 : (zPr L xs).1 118 128 = o_aload 0 1 := rfl
theorem lk_118_129 : (zPr L xs).1 118 129 = o_push (.int (32)) 2 := rfl
theorem lk_118_131 : (zPr L xs).1 118 131 = o_cv 96 1 2 10 10 := rfl
theorem lk_118_134 : (zPr L xs).1 118 134 = o_aload 0 1 := rfl
theorem lk_118_135 : (zPr L xs).1 118 135 = o_cv 95 0 5 10 10 := rfl
theorem lk_118_138 : (zPr L xs).1 118 138 = o_lstore 1 1 := rfl
theorem lk_118_139 : (zPr L xs).1 118 139 = o_aload 0 1 := rfl
theorem lk_118_140 : (zPr L xs).1 118 140 = o_lload 1 1 := rfl
theorem lk_118_141 : (zPr L xs).1 118 141 = o_cv 116 1 3 10 10 := rfl
theorem lk_118_144 : (zPr L xs).1 118 144 = o_istore 3 1 := rfl
theorem lk_118_145 : (zPr L xs).1 118 145 = o_aload 0 1 := rfl
theorem lk_118_146 : (zPr L xs).1 118 146 = o_gfI 10 522 := rfl
theorem lk_118_149 : (zPr L xs).1 118 149 = o_ifne 169 := rfl
theorem lk_118_152 : (zPr L xs).1 118 152 = o_iload 3 1 := rfl
theorem lk_118_153 : (zPr L xs).1 118 153 = o_ifeq 169 := rfl
theorem lk_118_156 : (zPr L xs).1 118 156 = o_aload 0 1 := rfl
theorem lk_118_157 : (zPr L xs).1 118 157 = o_gfI 10 525 := rfl
theorem lk_118_160 : (zPr L xs).1 118 160 = o_ifeq 171 := rfl
theorem lk_118_163 : (zPr L xs).1 118 163 = o_iload 3 1 := rfl
theorem lk_118_164 : (zPr L xs).1 118 164 = o_push (.int (10)) 2 := rfl
theorem lk_118_166 : (zPr L xs).1 118 166 = o_icge 171 := rfl
theorem lk_118_169 : (zPr L xs).1 118 169 = o_push (.int (0)) 1 := rfl
theorem lk_118_170 : (zPr L xs).1 118 170 = o_iret (fun x => x) := rfl
theorem lk_118_171 : (zPr L xs).1 118 171 = o_iload 3 1 := rfl
theorem lk_118_172 : (zPr L xs).1 118 172 = o_push (.int (4)) 1 := rfl
theorem lk_118_173 : (zPr L xs).1 118 173 = o_icle 182 := rfl
theorem lk_118_176 : (zPr L xs).1 118 176 = o_aload 0 1 := rfl
theorem lk_118_177 : (zPr L xs).1 118 177 = o_push (.int (32)) 2 := rfl
theorem lk_118_179 : (zPr L xs).1 118 179 = o_cv 96 1 2 10 10 := rfl
theorem lk_118_182 : (zPr L xs).1 118 182 = o_iload 3 1 := rfl
theorem lk_118_183 : (zPr L xs).1 118 183 = o_push (.int (10)) 2 := rfl
theorem lk_118_185 : (zPr L xs).1 118 185 = o_iclt 196 := rfl
theorem lk_118_188 : (zPr L xs).1 118 188 = o_aload 0 1 := rfl
theorem lk_118_189 : (zPr L xs).1 118 189 = o_iload 3 1 := rfl
theorem lk_118_190 : (zPr L xs).1 118 190 = o_cv 117 1 2 10 10 := rfl
theorem lk_118_193 : (zPr L xs).1 118 193 = o_goto 205 := rfl
theorem lk_118_196 : (zPr L xs).1 118 196 = o_iload 3 1 := rfl
theorem lk_118_197 : (zPr L xs).1 118 197 = o_push (.int (4)) 1 := rfl
theorem lk_118_198 : (zPr L xs).1 118 198 = o_icle 205 := rfl
theorem lk_118_201 : (zPr L xs).1 118 201 = o_aload 0 1 := rfl
theorem lk_118_202 : (zPr L xs).1 118 202 = o_cv 97 0 2 10 10 := rfl
theorem lk_118_205 : (zPr L xs).1 118 205 = o_iload 3 1 := rfl
theorem lk_118_206 : (zPr L xs).1 118 206 = o_push (.int (9)) 2 := rfl
theorem lk_118_208 : (zPr L xs).1 118 208 = o_icne 231 := rfl
theorem lk_118_211 : (zPr L xs).1 118 211 = o_aload 0 1 := rfl
theorem lk_118_212 : (zPr L xs).1 118 212 = o_push (.int (32)) 2 := rfl
theorem lk_118_214 : (zPr L xs).1 118 214 = o_cv 96 1 2 10 10 := rfl
theorem lk_118_217 : (zPr L xs).1 118 217 = o_aload 0 1 := rfl
theorem lk_118_218 : (zPr L xs).1 118 218 = o_cv 99 0 1 10 10 := rfl
theorem lk_118_221 : (zPr L xs).1 118 221 = o_aload 0 1 := rfl
theorem lk_118_222 : (zPr L xs).1 118 222 = o_push (.int (32)) 2 := rfl
theorem lk_118_224 : (zPr L xs).1 118 224 = o_cv 96 1 2 10 10 := rfl
theorem lk_118_227 : (zPr L xs).1 118 227 = o_aload 0 1 := rfl
theorem lk_118_228 : (zPr L xs).1 118 228 = o_cv 100 0 1 10 10 := rfl
theorem lk_118_231 : (zPr L xs).1 118 231 = o_aload 0 1 := rfl
theorem lk_118_232 : (zPr L xs).1 118 232 = o_gfI 10 522 := rfl
theorem lk_118_235 : (zPr L xs).1 118 235 = o_ifne 254 := rfl
theorem lk_118_238 : (zPr L xs).1 118 238 = o_aload 0 1 := rfl
theorem lk_118_239 : (zPr L xs).1 118 239 = o_gfI 10 521 := rfl
theorem lk_118_242 : (zPr L xs).1 118 242 = o_aload 0 1 := rfl
theorem lk_118_243 : (zPr L xs).1 118 243 = o_gfR 10 517 := rfl
theorem lk_118_246 : (zPr L xs).1 118 246 = o_aload 0 1 := rfl
theorem lk_118_247 : (zPr L xs).1 118 247 = o_gfI 10 520 := rfl
theorem lk_118_250 : (zPr L xs).1 118 250 = o_xald 20 := rfl
theorem lk_118_251 : (zPr L xs).1 118 251 = o_iceq 258 := rfl
theorem lk_118_254 : (zPr L xs).1 118 254 = o_push (.int (0)) 1 := rfl
theorem lk_118_255 : (zPr L xs).1 118 255 = o_goto 259 := rfl
theorem lk_118_258 : (zPr L xs).1 118 258 = o_iload 3 1 := rfl
theorem lk_118_259 : (zPr L xs).1 118 259 = o_iret (fun x => x) := rfl
theorem lk_119_0 : (zPr L xs).1 119 0 = o_aload 0 1 := rfl
theorem lk_119_1 : (zPr L xs).1 119 1 = o_gfR 10 518 := rfl
theorem lk_119_4 : (zPr L xs).1 119 4 = o_push (.int (2048)) 3 := rfl
theorem lk_119_7 : (zPr L xs).1 119 7 = o_aload 0 1 := rfl
theorem lk_119_8 : (zPr L xs).1 119 8 = o_gfI 10 520 := rfl
theorem lk_119_11 : (zPr L xs).1 119 11 = o_iop (fun x y => x * y) := rfl
theorem lk_119_12 : (zPr L xs).1 119 12 = o_aload 0 1 := rfl
theorem lk_119_13 : (zPr L xs).1 119 13 = o_gfR 10 519 := rfl
theorem lk_119_16 : (zPr L xs).1 119 16 = o_aload 0 1 := rfl
theorem lk_119_17 : (zPr L xs).1 119 17 = o_gfI 10 520 := rfl
theorem lk_119_20 : (zPr L xs).1 119 20 = o_xald 20 := rfl
theorem lk_119_21 : (zPr L xs).1 119 21 = o_iop (fun x y => x + y) := rfl
theorem lk_119_22 : (zPr L xs).1 119 22 = o_iload 1 1 := rfl
theorem lk_119_23 : (zPr L xs).1 119 23 = o_xast 20 (fun x => x) := rfl
theorem lk_119_24 : (zPr L xs).1 119 24 = o_aload 0 1 := rfl
theorem lk_119_25 : (zPr L xs).1 119 25 = o_gfR 10 519 := rfl
theorem lk_119_28 : (zPr L xs).1 119 28 = o_aload 0 1 := rfl
theorem lk_119_29 : (zPr L xs).1 119 29 = o_gfI 10 520 := rfl
theorem lk_119_32 : (zPr L xs).1 119 32 = o_dup2 := rfl
theorem lk_119_33 : (zPr L xs).1 119 33 = o_xald 20 := rfl
theorem lk_119_34 : (zPr L xs).1 119 34 = o_push (.int (1)) 1 := rfl
theorem lk_119_35 : (zPr L xs).1 119 35 = o_iop (fun x y => x + y) := rfl
theorem lk_119_36 : (zPr L xs).1 119 36 = o_xast 20 (fun x => x) := rfl
theorem lk_119_37 : (zPr L xs).1 119 37 = o_vret := rfl
theorem lk_120_0 : (zPr L xs).1 120 0 = o_iload 1 1 := rfl
theorem lk_120_1 : (zPr L xs).1 120 1 = o_push (.int (999)) 3 := rfl
theorem lk_120_4 : (zPr L xs).1 120 4 = o_icle 19 := rfl
theorem lk_120_7 : (zPr L xs).1 120 7 = o_aload 0 1 := rfl
theorem lk_120_8 : (zPr L xs).1 120 8 = o_push (.int (48)) 2 := rfl
theorem lk_120_10 : (zPr L xs).1 120 10 = o_iload 1 1 := rfl
theorem lk_120_11 : (zPr L xs).1 120 11 = o_push (.int (1000)) 3 := rfl
theorem lk_120_14 : (zPr L xs).1 120 14 = o_dop (fun x y => x / y) := rfl
theorem lk_120_15 : (zPr L xs).1 120 15 = o_iop (fun x y => x + y) := rfl
theorem lk_120_16 : (zPr L xs).1 120 16 = o_cv 119 1 2 10 10 := rfl
theorem lk_120_19 : (zPr L xs).1 120 19 = o_iload 1 1 := rfl
theorem lk_120_20 : (zPr L xs).1 120 20 = o_push (.int (99)) 2 := rfl
theorem lk_120_22 : (zPr L xs).1 120 22 = o_icle 39 := rfl
theorem lk_120_25 : (zPr L xs).1 120 25 = o_aload 0 1 := rfl
theorem lk_120_26 : (zPr L xs).1 120 26 = o_push (.int (48)) 2 := rfl
theorem lk_120_28 : (zPr L xs).1 120 28 = o_iload 1 1 := rfl
theorem lk_120_29 : (zPr L xs).1 120 29 = o_push (.int (100)) 2 := rfl
theorem lk_120_31 : (zPr L xs).1 120 31 = o_dop (fun x y => x / y) := rfl
theorem lk_120_32 : (zPr L xs).1 120 32 = o_push (.int (10)) 2 := rfl
theorem lk_120_34 : (zPr L xs).1 120 34 = o_dop (fun x y => x - x / y * y) := rfl
theorem lk_120_35 : (zPr L xs).1 120 35 = o_iop (fun x y => x + y) := rfl
theorem lk_120_36 : (zPr L xs).1 120 36 = o_cv 119 1 2 10 10 := rfl
theorem lk_120_39 : (zPr L xs).1 120 39 = o_iload 1 1 := rfl
theorem lk_120_40 : (zPr L xs).1 120 40 = o_push (.int (9)) 2 := rfl
theorem lk_120_42 : (zPr L xs).1 120 42 = o_icle 59 := rfl
theorem lk_120_45 : (zPr L xs).1 120 45 = o_aload 0 1 := rfl
theorem lk_120_46 : (zPr L xs).1 120 46 = o_push (.int (48)) 2 := rfl
theorem lk_120_48 : (zPr L xs).1 120 48 = o_iload 1 1 := rfl
theorem lk_120_49 : (zPr L xs).1 120 49 = o_push (.int (10)) 2 := rfl
theorem lk_120_51 : (zPr L xs).1 120 51 = o_dop (fun x y => x / y) := rfl
theorem lk_120_52 : (zPr L xs).1 120 52 = o_push (.int (10)) 2 := rfl
theorem lk_120_54 : (zPr L xs).1 120 54 = o_dop (fun x y => x - x / y * y) := rfl
theorem lk_120_55 : (zPr L xs).1 120 55 = o_iop (fun x y => x + y) := rfl
theorem lk_120_56 : (zPr L xs).1 120 56 = o_cv 119 1 2 10 10 := rfl
theorem lk_120_59 : (zPr L xs).1 120 59 = o_aload 0 1 := rfl
theorem lk_120_60 : (zPr L xs).1 120 60 = o_push (.int (48)) 2 := rfl
theorem lk_120_62 : (zPr L xs).1 120 62 = o_iload 1 1 := rfl
theorem lk_120_63 : (zPr L xs).1 120 63 = o_push (.int (10)) 2 := rfl
theorem lk_120_65 : (zPr L xs).1 120 65 = o_dop (fun x y => x - x / y * y) := rfl
theorem lk_120_66 : (zPr L xs).1 120 66 = o_iop (fun x y => x + y) := rfl
theorem lk_120_67 : (zPr L xs).1 120 67 = o_cv 119 1 2 10 10 := rfl
theorem lk_120_70 : (zPr L xs).1 120 70 = o_vret := rfl
theorem lk_121_0 : (zPr L xs).1 121 0 = o_push (.int (6)) 2 := rfl
theorem lk_121_2 : (zPr L xs).1 121 2 = o_istore 3 1 := rfl
theorem lk_121_3 : (zPr L xs).1 121 3 = o_iload 3 1 := rfl
theorem lk_121_4 : (zPr L xs).1 121 4 = o_iflt 38 := rfl
theorem lk_121_7 : (zPr L xs).1 121 7 = o_lload 1 1 := rfl
theorem lk_121_8 : (zPr L xs).1 121 8 = o_push (.int (5)) 1 := rfl
theorem lk_121_9 : (zPr L xs).1 121 9 = o_iload 3 1 := rfl
theorem lk_121_10 : (zPr L xs).1 121 10 = o_iop (fun x y => x * y) := rfl
theorem lk_121_11 : (zPr L xs).1 121 11 = o_sop (fun x y => x >>> (y.toInt64 &&& 63)) := rfl
theorem lk_121_12 : (zPr L xs).1 121 12 = o_l2i := rfl
theorem lk_121_13 : (zPr L xs).1 121 13 = o_push (.int (31)) 2 := rfl
theorem lk_121_15 : (zPr L xs).1 121 15 = o_iop (fun x y => x &&& y) := rfl
theorem lk_121_16 : (zPr L xs).1 121 16 = o_istore 4 2 := rfl
theorem lk_121_18 : (zPr L xs).1 121 18 = o_iload 4 2 := rfl
theorem lk_121_20 : (zPr L xs).1 121 20 = o_ifle 32 := rfl
theorem lk_121_23 : (zPr L xs).1 121 23 = o_aload 0 1 := rfl
theorem lk_121_24 : (zPr L xs).1 121 24 = o_push (.int (64)) 2 := rfl
theorem lk_121_26 : (zPr L xs).1 121 26 = o_iload 4 2 := rfl
theorem lk_121_28 : (zPr L xs).1 121 28 = o_iop (fun x y => x + y) := rfl
theorem lk_121_29 : (zPr L xs).1 121 29 = o_cv 119 1 2 10 10 := rfl
theorem lk_121_32 : (zPr L xs).1 121 32 = o_iinc 3 (-1) := rfl
theorem lk_121_35 : (zPr L xs).1 121 35 = o_goto 3 := rfl
theorem lk_121_38 : (zPr L xs).1 121 38 = o_vret := rfl
theorem lk_122_0 : (zPr L xs).1 122 0 = o_aload 0 1 := rfl
theorem lk_122_1 : (zPr L xs).1 122 1 = o_push (.int (40)) 2 := rfl
theorem lk_122_3 : (zPr L xs).1 122 3 = o_cv 119 1 2 10 10 := rfl
theorem lk_122_6 : (zPr L xs).1 122 6 = o_iload 1 1 := rfl
theorem lk_122_7 : (zPr L xs).1 122 7 = o_push (.int (1)) 1 := rfl
theorem lk_122_8 : (zPr L xs).1 122 8 = o_iop (fun x y => x &&& y) := rfl
theorem lk_122_9 : (zPr L xs).1 122 9 = o_ifle 18 := rfl
theorem lk_122_12 : (zPr L xs).1 122 12 = o_aload 0 1 := rfl
theorem lk_122_13 : (zPr L xs).1 122 13 = o_push (.int (83)) 2 := rfl
theorem lk_122_15 : (zPr L xs).1 122 15 = o_cv 119 1 2 10 10 := rfl
theorem lk_122_18 : (zPr L xs).1 122 18 = o_iload 1 1 := rfl
theorem lk_122_19 : (zPr L xs).1 122 19 = o_push (.int (2)) 1 := rfl
theorem lk_122_20 : (zPr L xs).1 122 20 = o_iop (fun x y => x &&& y) := rfl
theorem lk_122_21 : (zPr L xs).1 122 21 = o_ifle 30 := rfl
theorem lk_122_24 : (zPr L xs).1 122 24 = o_aload 0 1 := rfl
theorem lk_122_25 : (zPr L xs).1 122 25 = o_push (.int (65)) 2 := rfl
theorem lk_122_27 : (zPr L xs).1 122 27 = o_cv 119 1 2 10 10 := rfl
theorem lk_122_30 : (zPr L xs).1 122 30 = o_iload 1 1 := rfl
theorem lk_122_31 : (zPr L xs).1 122 31 = o_push (.int (4)) 1 := rfl
theorem lk_122_32 : (zPr L xs).1 122 32 = o_iop (fun x y => x &&& y) := rfl
theorem lk_122_33 : (zPr L xs).1 122 33 = o_ifle 42 := rfl
theorem lk_122_36 : (zPr L xs).1 122 36 = o_aload 0 1 := rfl
theorem lk_122_37 : (zPr L xs).1 122 37 = o_push (.int (70)) 2 := rfl
theorem lk_122_39 : (zPr L xs).1 122 39 = o_cv 119 1 2 10 10 := rfl
theorem lk_122_42 : (zPr L xs).1 122 42 = o_iload 1 1 := rfl
theorem lk_122_43 : (zPr L xs).1 122 43 = o_push (.int (8)) 2 := rfl
theorem lk_122_45 : (zPr L xs).1 122 45 = o_iop (fun x y => x &&& y) := rfl
theorem lk_122_46 : (zPr L xs).1 122 46 = o_ifle 55 := rfl
theorem lk_122_49 : (zPr L xs).1 122 49 = o_aload 0 1 := rfl
theorem lk_122_50 : (zPr L xs).1 122 50 = o_push (.int (68)) 2 := rfl
theorem lk_122_52 : (zPr L xs).1 122 52 = o_cv 119 1 2 10 10 := rfl
theorem lk_122_55 : (zPr L xs).1 122 55 = o_aload 0 1 := rfl
theorem lk_122_56 : (zPr L xs).1 122 56 = o_push (.int (41)) 2 := rfl
theorem lk_122_58 : (zPr L xs).1 122 58 = o_cv 119 1 2 10 10 := rfl
theorem lk_122_61 : (zPr L xs).1 122 61 = o_vret := rfl
theorem lk_123_0 : (zPr L xs).1 123 0 = o_aload 0 1 := rfl
theorem lk_123_1 : (zPr L xs).1 123 1 = o_push (.int (42)) 2 := rfl
theorem lk_123_3 : (zPr L xs).1 123 3 = o_cv 119 1 2 10 10 := rfl
theorem lk_123_6 : (zPr L xs).1 123 6 = o_aload 0 1 := rfl
theorem lk_123_7 : (zPr L xs).1 123 7 = o_push (.int (32)) 2 := rfl
theorem lk_123_9 : (zPr L xs).1 123 9 = o_cv 119 1 2 10 10 := rfl
theorem lk_123_12 : (zPr L xs).1 123 12 = o_aload 0 1 := rfl
theorem lk_123_13 : (zPr L xs).1 123 13 = o_iload 1 1 := rfl
theorem lk_123_14 : (zPr L xs).1 123 14 = o_cv 120 1 2 10 10 := rfl
theorem lk_123_17 : (zPr L xs).1 123 17 = o_aload 0 1 := rfl
theorem lk_123_18 : (zPr L xs).1 123 18 = o_push (.int (32)) 2 := rfl
theorem lk_123_20 : (zPr L xs).1 123 20 = o_cv 119 1 2 10 10 := rfl
theorem lk_123_23 : (zPr L xs).1 123 23 = o_aload 0 1 := rfl
theorem lk_123_24 : (zPr L xs).1 123 24 = o_lload 2 1 := rfl
theorem lk_123_25 : (zPr L xs).1 123 25 = o_cv 121 1 5 10 10 := rfl
theorem lk_123_28 : (zPr L xs).1 123 28 = o_vret := rfl
theorem lk_124_0 : (zPr L xs).1 124 0 = o_aload 0 1 := rfl
theorem lk_124_1 : (zPr L xs).1 124 1 = o_iload 1 1 := rfl
theorem lk_124_2 : (zPr L xs).1 124 2 = o_push (.int (70)) 2 := rfl
theorem lk_124_4 : (zPr L xs).1 124 4 = o_push (.int (69)) 2 := rfl
theorem lk_124_6 : (zPr L xs).1 124 6 = o_push (.int (84)) 2 := rfl
theorem lk_124_8 : (zPr L xs).1 124 8 = o_push (.int (67)) 2 := rfl
theorem lk_124_10 : (zPr L xs).1 124 10 = o_push (.int (72)) 2 := rfl
theorem lk_124_12 : (zPr L xs).1 124 12 = o_push (.int (0)) 1 := rfl
theorem lk_124_13 : (zPr L xs).1 124 13 = o_push (.int (0)) 1 := rfl
theorem lk_124_14 : (zPr L xs).1 124 14 = o_cs 90 7 9 := rfl
theorem lk_124_17 : (zPr L xs).1 124 17 = o_cv 123 2 4 10 10 := rfl
theorem lk_124_20 : (zPr L xs).1 124 20 = o_aload 0 1 := rfl
theorem lk_124_21 : (zPr L xs).1 124 21 = o_push (.int (32)) 2 := rfl
theorem lk_124_23 : (zPr L xs).1 124 23 = o_cv 119 1 2 10 10 := rfl
theorem lk_124_26 : (zPr L xs).1 124 26 = o_aload 0 1 := rfl
theorem lk_124_27 : (zPr L xs).1 124 27 = o_iload 2 1 := rfl
theorem lk_124_28 : (zPr L xs).1 124 28 = o_cv 122 1 2 10 10 := rfl
theorem lk_124_31 : (zPr L xs).1 124 31 = o_aload 0 1 := rfl
theorem lk_124_32 : (zPr L xs).1 124 32 = o_push (.int (10)) 2 := rfl
theorem lk_124_34 : (zPr L xs).1 124 34 = o_cv 119 1 2 10 10 := rfl
theorem lk_124_37 : (zPr L xs).1 124 37 = o_aload 0 1 := rfl
theorem lk_124_38 : (zPr L xs).1 124 38 = o_gfR 10 515 := rfl
theorem lk_124_41 : (zPr L xs).1 124 41 = o_push (.int (40)) 2 := rfl
theorem lk_124_43 : (zPr L xs).1 124 43 = o_aload 0 1 := rfl
theorem lk_124_44 : (zPr L xs).1 124 44 = o_gfI 10 520 := rfl
theorem lk_124_47 : (zPr L xs).1 124 47 = o_iop (fun x y => x * y) := rfl
theorem lk_124_48 : (zPr L xs).1 124 48 = o_iload 1 1 := rfl
theorem lk_124_49 : (zPr L xs).1 124 49 = o_iop (fun x y => x + y) := rfl
theorem lk_124_50 : (zPr L xs).1 124 50 = o_push (.int (1)) 1 := rfl
theorem lk_124_51 : (zPr L xs).1 124 51 = o_iop (fun x y => x - y) := rfl
theorem lk_124_52 : (zPr L xs).1 124 52 = o_iload 2 1 := rfl
theorem lk_124_53 : (zPr L xs).1 124 53 = o_xast 20 (fun x => x) := rfl
theorem lk_124_54 : (zPr L xs).1 124 54 = o_vret := rfl
theorem lk_125_0 : (zPr L xs).1 125 0 = o_push (.int (0)) 1 := rfl
theorem lk_125_1 : (zPr L xs).1 125 1 = o_istore 2 1 := rfl
theorem lk_125_2 : (zPr L xs).1 125 2 = o_iload 2 1 := rfl
theorem lk_125_3 : (zPr L xs).1 125 3 = o_aload 0 1 := rfl
theorem lk_125_4 : (zPr L xs).1 125 4 = o_gfI 10 524 := rfl
theorem lk_125_7 : (zPr L xs).1 125 7 = o_icge 27 := rfl
theorem lk_125_10 : (zPr L xs).1 125 10 = o_aload 0 1 := rfl
theorem lk_125_11 : (zPr L xs).1 125 11 = o_iload 2 1 := rfl
theorem lk_125_12 : (zPr L xs).1 125 12 = o_cv 91 1 2 10 10 := rfl
theorem lk_125_15 : (zPr L xs).1 125 15 = o_istore 3 1 := rfl
theorem lk_125_16 : (zPr L xs).1 125 16 = o_aload 0 1 := rfl
theorem lk_125_17 : (zPr L xs).1 125 17 = o_iload 3 1 := rfl
theorem lk_125_18 : (zPr L xs).1 125 18 = o_cv 119 1 2 10 10 := rfl
theorem lk_125_21 : (zPr L xs).1 125 21 = o_iinc 2 (1) := rfl
theorem lk_125_24 : (zPr L xs).1 125 24 = o_goto 2 := rfl
theorem lk_125_27 : (zPr L xs).1 125 27 = o_aload 0 1 := rfl
theorem lk_125_28 : (zPr L xs).1 125 28 = o_push (.int (32)) 2 := rfl
theorem lk_125_30 : (zPr L xs).1 125 30 = o_cv 119 1 2 10 10 := rfl
theorem lk_125_33 : (zPr L xs).1 125 33 = o_aload 0 1 := rfl
theorem lk_125_34 : (zPr L xs).1 125 34 = o_iload 1 1 := rfl
theorem lk_125_35 : (zPr L xs).1 125 35 = o_ifeq 43 := rfl
theorem lk_125_38 : (zPr L xs).1 125 38 = o_push (.int (79)) 2 := rfl
theorem lk_125_40 : (zPr L xs).1 125 40 = o_goto 45 := rfl
theorem lk_125_43 : (zPr L xs).1 125 43 = o_push (.int (78)) 2 := rfl
theorem lk_125_45 : (zPr L xs).1 125 45 = o_cv 119 1 2 10 10 := rfl
theorem lk_125_48 : (zPr L xs).1 125 48 = o_aload 0 1 := rfl
theorem lk_125_49 : (zPr L xs).1 125 49 = o_iload 1 1 := rfl
theorem lk_125_50 : (zPr L xs).1 125 50 = o_ifeq 58 := rfl
theorem lk_125_53 : (zPr L xs).1 125 53 = o_push (.int (75)) 2 := rfl
theorem lk_125_55 : (zPr L xs).1 125 55 = o_goto 60 := rfl
theorem lk_125_58 : (zPr L xs).1 125 58 = o_push (.int (79)) 2 := rfl
theorem lk_125_60 : (zPr L xs).1 125 60 = o_cv 119 1 2 10 10 := rfl
theorem lk_125_63 : (zPr L xs).1 125 63 = o_vret := rfl
theorem lk_126_0 : (zPr L xs).1 126 0 = o_push (.int (0)) 1 := rfl
theorem lk_126_1 : (zPr L xs).1 126 1 = o_istore 2 1 := rfl
theorem lk_126_2 : (zPr L xs).1 126 2 = o_push (.int (0)) 1 := rfl
theorem lk_126_3 : (zPr L xs).1 126 3 = o_istore 3 1 := rfl
theorem lk_126_4 : (zPr L xs).1 126 4 = o_iload 3 1 := rfl
theorem lk_126_5 : (zPr L xs).1 126 5 = o_push (.int (3)) 1 := rfl
theorem lk_126_6 : (zPr L xs).1 126 6 = o_icge 35 := rfl
theorem lk_126_9 : (zPr L xs).1 126 9 = o_iload 2 1 := rfl
theorem lk_126_10 : (zPr L xs).1 126 10 = o_ifne 23 := rfl
theorem lk_126_13 : (zPr L xs).1 126 13 = o_aload 0 1 := rfl
theorem lk_126_14 : (zPr L xs).1 126 14 = o_gfR 10 511 := rfl
theorem lk_126_17 : (zPr L xs).1 126 17 = o_iload 3 1 := rfl
theorem lk_126_18 : (zPr L xs).1 126 18 = o_xald 20 := rfl
theorem lk_126_19 : (zPr L xs).1 126 19 = o_iload 1 1 := rfl
theorem lk_126_20 : (zPr L xs).1 126 20 = o_icne 27 := rfl
theorem lk_126_23 : (zPr L xs).1 126 23 = o_push (.int (1)) 1 := rfl
theorem lk_126_24 : (zPr L xs).1 126 24 = o_goto 28 := rfl
theorem lk_126_27 : (zPr L xs).1 126 27 = o_push (.int (0)) 1 := rfl
theorem lk_126_28 : (zPr L xs).1 126 28 = o_istore 2 1 := rfl
theorem lk_126_29 : (zPr L xs).1 126 29 = o_iinc 3 (1) := rfl
theorem lk_126_32 : (zPr L xs).1 126 32 = o_goto 4 := rfl
theorem lk_126_35 : (zPr L xs).1 126 35 = o_iload 2 1 := rfl
theorem lk_126_36 : (zPr L xs).1 126 36 = o_iret (fun x => x &&& 1) := rfl
theorem lk_127_0 : (zPr L xs).1 127 0 = o_aload 0 1 := rfl
theorem lk_127_1 : (zPr L xs).1 127 1 = o_iload 1 1 := rfl
theorem lk_127_2 : (zPr L xs).1 127 2 = o_cv 109 1 4 10 10 := rfl
theorem lk_127_5 : (zPr L xs).1 127 5 = o_iflt 24 := rfl
theorem lk_127_8 : (zPr L xs).1 127 8 = o_aload 0 1 := rfl
theorem lk_127_9 : (zPr L xs).1 127 9 = o_iload 1 1 := rfl
theorem lk_127_10 : (zPr L xs).1 127 10 = o_aload 0 1 := rfl
theorem lk_127_11 : (zPr L xs).1 127 11 = o_gfI 10 525 := rfl
theorem lk_127_14 : (zPr L xs).1 127 14 = o_cv 108 2 5 10 10 := rfl
theorem lk_127_17 : (zPr L xs).1 127 17 = o_ifeq 24 := rfl
theorem lk_127_20 : (zPr L xs).1 127 20 = o_push (.int (1)) 1 := rfl
theorem lk_127_21 : (zPr L xs).1 127 21 = o_goto 25 := rfl
theorem lk_127_24 : (zPr L xs).1 127 24 = o_push (.int (0)) 1 := rfl
theorem lk_127_25 : (zPr L xs).1 127 25 = o_iret (fun x => x &&& 1) := rfl
theorem lk_128_0 : (zPr L xs).1 128 0 = o_push (.int (0)) 1 := rfl
theorem lk_128_1 : (zPr L xs).1 128 1 = o_istore 1 1 := rfl
theorem lk_128_2 : (zPr L xs).1 128 2 = o_push (.int (1)) 1 := rfl
theorem lk_128_3 : (zPr L xs).1 128 3 = o_istore 2 1 := rfl
theorem lk_128_4 : (zPr L xs).1 128 4 = o_iload 2 1 := rfl
theorem lk_128_5 : (zPr L xs).1 128 5 = o_aload 0 1 := rfl
theorem lk_128_6 : (zPr L xs).1 128 6 = o_gfR 10 513 := rfl
theorem lk_128_9 : (zPr L xs).1 128 9 = o_aload 0 1 := rfl
theorem lk_128_10 : (zPr L xs).1 128 10 = o_gfI 10 520 := rfl
theorem lk_128_13 : (zPr L xs).1 128 13 = o_xald 20 := rfl
theorem lk_128_14 : (zPr L xs).1 128 14 = o_icgt 39 := rfl
theorem lk_128_17 : (zPr L xs).1 128 17 = o_aload 0 1 := rfl
theorem lk_128_18 : (zPr L xs).1 128 18 = o_iload 2 1 := rfl
theorem lk_128_19 : (zPr L xs).1 128 19 = o_cv 127 1 2 10 10 := rfl
theorem lk_128_22 : (zPr L xs).1 128 22 = o_ifeq 31 := rfl
theorem lk_128_25 : (zPr L xs).1 128 25 = o_iload 1 1 := rfl
theorem lk_128_26 : (zPr L xs).1 128 26 = o_push (.int (1)) 1 := rfl
theorem lk_128_27 : (zPr L xs).1 128 27 = o_iop (fun x y => x + y) := rfl
theorem lk_128_28 : (zPr L xs).1 128 28 = o_goto 32 := rfl
theorem lk_128_31 : (zPr L xs).1 128 31 = o_iload 1 1 := rfl
theorem lk_128_32 : (zPr L xs).1 128 32 = o_istore 1 1 := rfl
theorem lk_128_33 : (zPr L xs).1 128 33 = o_iinc 2 (1) := rfl
theorem lk_128_36 : (zPr L xs).1 128 36 = o_goto 4 := rfl
theorem lk_128_39 : (zPr L xs).1 128 39 = o_iload 1 1 := rfl
theorem lk_128_40 : (zPr L xs).1 128 40 = o_iret (fun x => x) := rfl
theorem lk_129_0 : (zPr L xs).1 129 0 = o_iload 1 1 := rfl
theorem lk_129_1 : (zPr L xs).1 129 1 = o_push (.int (3)) 1 := rfl
theorem lk_129_2 : (zPr L xs).1 129 2 = o_iceq 16 := rfl
theorem lk_129_5 : (zPr L xs).1 129 5 = o_iload 1 1 := rfl
theorem lk_129_6 : (zPr L xs).1 129 6 = o_push (.int (2)) 1 := rfl
theorem lk_129_7 : (zPr L xs).1 129 7 = o_iceq 16 := rfl
theorem lk_129_10 : (zPr L xs).1 129 10 = o_iload 1 1 := rfl
theorem lk_129_11 : (zPr L xs).1 129 11 = o_push (.int (10)) 2 := rfl
theorem lk_129_13 : (zPr L xs).1 129 13 = o_iclt 20 := rfl
theorem lk_129_16 : (zPr L xs).1 129 16 = o_push (.int (1)) 1 := rfl
theorem lk_129_17 : (zPr L xs).1 129 17 = o_goto 21 := rfl
theorem lk_129_20 : (zPr L xs).1 129 20 = o_push (.int (0)) 1 := rfl
theorem lk_129_21 : (zPr L xs).1 129 21 = o_istore 2 1 := rfl
theorem lk_129_22 : (zPr L xs).1 129 22 = o_iload 2 1 := rfl
theorem lk_129_23 : (zPr L xs).1 129 23 = o_ifeq 40 := rfl
theorem lk_129_26 : (zPr L xs).1 129 26 = o_aload 0 1 := rfl
theorem lk_129_27 : (zPr L xs).1 129 27 = o_gfR 10 511 := rfl
theorem lk_129_30 : (zPr L xs).1 129 30 = o_aload 0 1 := rfl
theorem lk_129_31 : (zPr L xs).1 129 31 = o_gfI 10 520 := rfl
theorem lk_129_34 : (zPr L xs).1 129 34 = o_xald 20 := rfl
theorem lk_129_35 : (zPr L xs).1 129 35 = o_ifge 40 := rfl
theorem lk_129_38 : (zPr L xs).1 129 38 = o_push (.int (1)) 1 := rfl
theorem lk_129_39 : (zPr L xs).1 129 39 = o_iret (fun x => x &&& 1) := rfl
theorem lk_129_40 : (zPr L xs).1 129 40 = o_iload 1 1 := rfl
theorem lk_129_41 : (zPr L xs).1 129 41 = o_push (.int (3)) 1 := rfl
theorem lk_129_42 : (zPr L xs).1 129 42 = o_iceq 51 := rfl
theorem lk_129_45 : (zPr L xs).1 129 45 = o_iload 1 1 := rfl
theorem lk_129_46 : (zPr L xs).1 129 46 = o_push (.int (10)) 2 := rfl
theorem lk_129_48 : (zPr L xs).1 129 48 = o_icne 65 := rfl
theorem lk_129_51 : (zPr L xs).1 129 51 = o_aload 0 1 := rfl
theorem lk_129_52 : (zPr L xs).1 129 52 = o_gfR 10 512 := rfl
theorem lk_129_55 : (zPr L xs).1 129 55 = o_aload 0 1 := rfl
theorem lk_129_56 : (zPr L xs).1 129 56 = o_gfI 10 520 := rfl
theorem lk_129_59 : (zPr L xs).1 129 59 = o_xald 23 := rfl
theorem lk_129_60 : (zPr L xs).1 129 60 = o_ifne 65 := rfl
theorem lk_129_63 : (zPr L xs).1 129 63 = o_push (.int (1)) 1 := rfl
theorem lk_129_64 : (zPr L xs).1 129 64 = o_iret (fun x => x &&& 1) := rfl
theorem lk_129_65 : (zPr L xs).1 129 65 = o_iload 1 1 := rfl
theorem lk_129_66 : (zPr L xs).1 129 66 = o_push (.int (6)) 2 := rfl
theorem lk_129_68 : (zPr L xs).1 129 68 = o_iclt 77 := rfl
theorem lk_129_71 : (zPr L xs).1 129 71 = o_iload 1 1 := rfl
theorem lk_129_72 : (zPr L xs).1 129 72 = o_push (.int (9)) 2 := rfl
theorem lk_129_74 : (zPr L xs).1 129 74 = o_icle 83 := rfl
theorem lk_129_77 : (zPr L xs).1 129 77 = o_iload 1 1 := rfl
theorem lk_129_78 : (zPr L xs).1 129 78 = o_push (.int (12)) 2 := rfl
theorem lk_129_80 : (zPr L xs).1 129 80 = o_icne 87 := rfl
theorem lk_129_83 : (zPr L xs).1 129 83 = o_push (.int (1)) 1 := rfl
theorem lk_129_84 : (zPr L xs).1 129 84 = o_goto 88 := rfl
theorem lk_129_87 : (zPr L xs).1 129 87 = o_push (.int (0)) 1 := rfl
theorem lk_129_88 : (zPr L xs).1 129 88 = o_istore 3 1 := rfl
theorem lk_129_89 : (zPr L xs).1 129 89 = o_iload 3 1 := rfl
theorem lk_129_90 : (zPr L xs).1 129 90 = o_ifeq 105 := rfl
theorem lk_129_93 : (zPr L xs).1 129 93 = o_aload 0 1 := rfl
theorem lk_129_94 : (zPr L xs).1 129 94 = o_gfR 10 501 := rfl
theorem lk_129_97 : (zPr L xs).1 129 97 = o_aload 0 1 := rfl
theorem lk_129_98 : (zPr L xs).1 129 98 = o_gfI 10 526 := rfl
theorem lk_129_101 : (zPr L xs).1 129 101 = o_xald 23 := rfl
theorem lk_129_102 : (zPr L xs).1 129 102 = o_ifeq 139 := rfl
theorem lk_129_105 : (zPr L xs).1 129 105 = o_iload 1 1 := rfl
theorem lk_129_106 : (zPr L xs).1 129 106 = o_push (.int (5)) 1 := rfl
theorem lk_129_107 : (zPr L xs).1 129 107 = o_icne 122 := rfl
theorem lk_129_110 : (zPr L xs).1 129 110 = o_aload 0 1 := rfl
theorem lk_129_111 : (zPr L xs).1 129 111 = o_gfR 10 501 := rfl
theorem lk_129_114 : (zPr L xs).1 129 114 = o_aload 0 1 := rfl
theorem lk_129_115 : (zPr L xs).1 129 115 = o_gfI 10 526 := rfl
theorem lk_129_118 : (zPr L xs).1 129 118 = o_xald 23 := rfl
theorem lk_129_119 : (zPr L xs).1 129 119 = o_ifne 139 := rfl
theorem lk_129_122 : (zPr L xs).1 129 122 = o_iload 1 1 := rfl
theorem lk_129_123 : (zPr L xs).1 129 123 = o_push (.int (6)) 2 := rfl
theorem lk_129_125 : (zPr L xs).1 129 125 = o_icne 141 := rfl
theorem lk_129_128 : (zPr L xs).1 129 128 = o_aload 0 1 := rfl
theorem lk_129_129 : (zPr L xs).1 129 129 = o_aload 0 1 := rfl
theorem lk_129_130 : (zPr L xs).1 129 130 = o_gfI 10 526 := rfl
theorem lk_129_133 : (zPr L xs).1 129 133 = o_cv 126 1 4 10 10 := rfl
theorem lk_129_136 : (zPr L xs).1 129 136 = o_ifeq 141 := rfl
theorem lk_129_139 : (zPr L xs).1 129 139 = o_push (.int (1)) 1 := rfl
theorem lk_129_140 : (zPr L xs).1 129 140 = o_iret (fun x => x &&& 1) := rfl
theorem lk_129_141 : (zPr L xs).1 129 141 = o_iload 1 1 := rfl
theorem lk_129_142 : (zPr L xs).1 129 142 = o_push (.int (9)) 2 := rfl
theorem lk_129_144 : (zPr L xs).1 129 144 = o_icne 167 := rfl
theorem lk_129_147 : (zPr L xs).1 129 147 = o_aload 0 1 := rfl
theorem lk_129_148 : (zPr L xs).1 129 148 = o_gfR 10 504 := rfl
theorem lk_129_151 : (zPr L xs).1 129 151 = o_aload 0 1 := rfl
theorem lk_129_152 : (zPr L xs).1 129 152 = o_gfI 10 526 := rfl
theorem lk_129_155 : (zPr L xs).1 129 155 = o_xald 20 := rfl
theorem lk_129_156 : (zPr L xs).1 129 156 = o_push (.int (10)) 2 := rfl
theorem lk_129_158 : (zPr L xs).1 129 158 = o_icne 165 := rfl
theorem lk_129_161 : (zPr L xs).1 129 161 = o_push (.int (1)) 1 := rfl
theorem lk_129_162 : (zPr L xs).1 129 162 = o_goto 166 := rfl
theorem lk_129_165 : (zPr L xs).1 129 165 = o_push (.int (0)) 1 := rfl
theorem lk_129_166 : (zPr L xs).1 129 166 = o_iret (fun x => x &&& 1) := rfl
theorem lk_129_167 : (zPr L xs).1 129 167 = o_iload 1 1 := rfl
theorem lk_129_168 : (zPr L xs).1 129 168 = o_push (.int (13)) 2 := rfl
theorem lk_129_170 : (zPr L xs).1 129 170 = o_icne 178 := rfl
theorem lk_129_173 : (zPr L xs).1 129 173 = o_aload 0 1 := rfl
theorem lk_129_174 : (zPr L xs).1 129 174 = o_gfI 10 523 := rfl
theorem lk_129_177 : (zPr L xs).1 129 177 = o_iret (fun x => x &&& 1) := rfl
theorem lk_129_178 : (zPr L xs).1 129 178 = o_iload 1 1 := rfl
theorem lk_129_179 : (zPr L xs).1 129 179 = o_push (.int (10)) 2 := rfl
theorem lk_129_181 : (zPr L xs).1 129 181 = o_iclt 208 := rfl
theorem lk_129_184 : (zPr L xs).1 129 184 = o_aload 0 1 := rfl
theorem lk_129_185 : (zPr L xs).1 129 185 = o_gfI 10 525 := rfl
theorem lk_129_188 : (zPr L xs).1 129 188 = o_ifne 208 := rfl
theorem lk_129_191 : (zPr L xs).1 129 191 = o_aload 0 1 := rfl
theorem lk_129_192 : (zPr L xs).1 129 192 = o_aload 0 1 := rfl
theorem lk_129_193 : (zPr L xs).1 129 193 = o_gfI 10 527 := rfl
theorem lk_129_196 : (zPr L xs).1 129 196 = o_aload 0 1 := rfl
theorem lk_129_197 : (zPr L xs).1 129 197 = o_gfI 10 528 := rfl
theorem lk_129_200 : (zPr L xs).1 129 200 = o_cv 106 2 6 10 10 := rfl
theorem lk_129_203 : (zPr L xs).1 129 203 = o_ifeq 208 := rfl
theorem lk_129_206 : (zPr L xs).1 129 206 = o_push (.int (1)) 1 := rfl
theorem lk_129_207 : (zPr L xs).1 129 207 = o_iret (fun x => x &&& 1) := rfl
theorem lk_129_208 : (zPr L xs).1 129 208 = o_iload 1 1 := rfl
theorem lk_129_209 : (zPr L xs).1 129 209 = o_push (.int (12)) 2 := rfl
theorem lk_129_211 : (zPr L xs).1 129 211 = o_icne 237 := rfl
theorem lk_129_214 : (zPr L xs).1 129 214 = o_aload 0 1 := rfl
theorem lk_129_215 : (zPr L xs).1 129 215 = o_gfR 10 504 := rfl
theorem lk_129_218 : (zPr L xs).1 129 218 = o_aload 0 1 := rfl
theorem lk_129_219 : (zPr L xs).1 129 219 = o_gfI 10 526 := rfl
theorem lk_129_222 : (zPr L xs).1 129 222 = o_xald 20 := rfl
theorem lk_129_223 : (zPr L xs).1 129 223 = o_aload 0 1 := rfl
theorem lk_129_224 : (zPr L xs).1 129 224 = o_cv 128 0 3 10 10 := rfl
theorem lk_129_227 : (zPr L xs).1 129 227 = o_iop (fun x y => x + y) := rfl
theorem lk_129_228 : (zPr L xs).1 129 228 = o_push (.int (10)) 2 := rfl
theorem lk_129_230 : (zPr L xs).1 129 230 = o_icle 237 := rfl
theorem lk_129_233 : (zPr L xs).1 129 233 = o_push (.int (1)) 1 := rfl
theorem lk_129_234 : (zPr L xs).1 129 234 = o_goto 238 := rfl
theorem lk_129_237 : (zPr L xs).1 129 237 = o_push (.int (0)) 1 := rfl
theorem lk_129_238 : (zPr L xs).1 129 238 = o_iret (fun x => x &&& 1) := rfl
theorem lk_130_0 : (zPr L xs).1 130 0 = o_push (.int (10)) 2 := rfl
theorem lk_130_2 : (zPr L xs).1 130 2 = o_iload 1 1 := rfl
theorem lk_130_3 : (zPr L xs).1 130 3 = o_iop (fun x y => x * y) := rfl
theorem lk_130_4 : (zPr L xs).1 130 4 = o_aload 0 1 := rfl
theorem lk_130_5 : (zPr L xs).1 130 5 = o_gfR 10 504 := rfl
theorem lk_130_8 : (zPr L xs).1 130 8 = o_iload 1 1 := rfl
theorem lk_130_9 : (zPr L xs).1 130 9 = o_xald 20 := rfl
theorem lk_130_10 : (zPr L xs).1 130 10 = o_iop (fun x y => x + y) := rfl
theorem lk_130_11 : (zPr L xs).1 130 11 = o_istore 3 1 := rfl
theorem lk_130_12 : (zPr L xs).1 130 12 = o_aload 0 1 := rfl
theorem lk_130_13 : (zPr L xs).1 130 13 = o_gfR 10 505 := rfl
theorem lk_130_16 : (zPr L xs).1 130 16 = o_iload 3 1 := rfl
theorem lk_130_17 : (zPr L xs).1 130 17 = o_aload 0 1 := rfl
theorem lk_130_18 : (zPr L xs).1 130 18 = o_gfR 10 503 := rfl
theorem lk_130_21 : (zPr L xs).1 130 21 = o_iload 1 1 := rfl
theorem lk_130_22 : (zPr L xs).1 130 22 = o_xald 20 := rfl
theorem lk_130_23 : (zPr L xs).1 130 23 = o_xast 20 (fun x => x) := rfl
theorem lk_130_24 : (zPr L xs).1 130 24 = o_aload 0 1 := rfl
theorem lk_130_25 : (zPr L xs).1 130 25 = o_gfR 10 506 := rfl
theorem lk_130_28 : (zPr L xs).1 130 28 = o_iload 3 1 := rfl
theorem lk_130_29 : (zPr L xs).1 130 29 = o_iload 2 1 := rfl
theorem lk_130_30 : (zPr L xs).1 130 30 = o_xast 20 (fun x => x) := rfl
theorem lk_130_31 : (zPr L xs).1 130 31 = o_aload 0 1 := rfl
theorem lk_130_32 : (zPr L xs).1 130 32 = o_gfR 10 503 := rfl
theorem lk_130_35 : (zPr L xs).1 130 35 = o_iload 1 1 := rfl
theorem lk_130_36 : (zPr L xs).1 130 36 = o_dup2 := rfl
theorem lk_130_37 : (zPr L xs).1 130 37 = o_xald 20 := rfl
theorem lk_130_38 : (zPr L xs).1 130 38 = o_push (.int (1)) 1 := rfl
theorem lk_130_39 : (zPr L xs).1 130 39 = o_iop (fun x y => x + y) := rfl
theorem lk_130_40 : (zPr L xs).1 130 40 = o_xast 20 (fun x => x) := rfl
theorem lk_130_41 : (zPr L xs).1 130 41 = o_aload 0 1 := rfl
theorem lk_130_42 : (zPr L xs).1 130 42 = o_gfR 10 504 := rfl
theorem lk_130_45 : (zPr L xs).1 130 45 = o_iload 1 1 := rfl
theorem lk_130_46 : (zPr L xs).1 130 46 = o_dup2 := rfl
theorem lk_130_47 : (zPr L xs).1 130 47 = o_xald 20 := rfl
theorem lk_130_48 : (zPr L xs).1 130 48 = o_push (.int (1)) 1 := rfl
theorem lk_130_49 : (zPr L xs).1 130 49 = o_iop (fun x y => x + y) := rfl
theorem lk_130_50 : (zPr L xs).1 130 50 = o_xast 20 (fun x => x) := rfl
theorem lk_130_51 : (zPr L xs).1 130 51 = o_iload 3 1 := rfl
theorem lk_130_52 : (zPr L xs).1 130 52 = o_iret (fun x => x) := rfl
theorem lk_131_0 : (zPr L xs).1 131 0 = o_aload 0 1 := rfl
theorem lk_131_1 : (zPr L xs).1 131 1 = o_gfR 10 511 := rfl
theorem lk_131_4 : (zPr L xs).1 131 4 = o_aload 0 1 := rfl
theorem lk_131_5 : (zPr L xs).1 131 5 = o_gfI 10 520 := rfl
theorem lk_131_8 : (zPr L xs).1 131 8 = o_xald 20 := rfl
theorem lk_131_9 : (zPr L xs).1 131 9 = o_istore 1 1 := rfl
theorem lk_131_10 : (zPr L xs).1 131 10 = o_push (.int (0)) 1 := rfl
theorem lk_131_11 : (zPr L xs).1 131 11 = o_istore 2 1 := rfl
theorem lk_131_12 : (zPr L xs).1 131 12 = o_push (.int (0)) 1 := rfl
theorem lk_131_13 : (zPr L xs).1 131 13 = o_istore 3 1 := rfl
theorem lk_131_14 : (zPr L xs).1 131 14 = o_iload 3 1 := rfl
theorem lk_131_15 : (zPr L xs).1 131 15 = o_aload 0 1 := rfl
theorem lk_131_16 : (zPr L xs).1 131 16 = o_gfR 10 504 := rfl
theorem lk_131_19 : (zPr L xs).1 131 19 = o_iload 1 1 := rfl
theorem lk_131_20 : (zPr L xs).1 131 20 = o_xald 20 := rfl
theorem lk_131_21 : (zPr L xs).1 131 21 = o_icge 146 := rfl
theorem lk_131_24 : (zPr L xs).1 131 24 = o_push (.int (10)) 2 := rfl
theorem lk_131_26 : (zPr L xs).1 131 26 = o_iload 1 1 := rfl
theorem lk_131_27 : (zPr L xs).1 131 27 = o_iop (fun x y => x * y) := rfl
theorem lk_131_28 : (zPr L xs).1 131 28 = o_iload 3 1 := rfl
theorem lk_131_29 : (zPr L xs).1 131 29 = o_iop (fun x y => x + y) := rfl
theorem lk_131_30 : (zPr L xs).1 131 30 = o_istore 4 2 := rfl
theorem lk_131_32 : (zPr L xs).1 131 32 = o_push (.int (10)) 2 := rfl
theorem lk_131_34 : (zPr L xs).1 131 34 = o_iload 1 1 := rfl
theorem lk_131_35 : (zPr L xs).1 131 35 = o_iop (fun x y => x * y) := rfl
theorem lk_131_36 : (zPr L xs).1 131 36 = o_iload 2 1 := rfl
theorem lk_131_37 : (zPr L xs).1 131 37 = o_iop (fun x y => x + y) := rfl
theorem lk_131_38 : (zPr L xs).1 131 38 = o_istore 5 2 := rfl
theorem lk_131_40 : (zPr L xs).1 131 40 = o_aload 0 1 := rfl
theorem lk_131_41 : (zPr L xs).1 131 41 = o_gfR 10 506 := rfl
theorem lk_131_44 : (zPr L xs).1 131 44 = o_iload 4 2 := rfl
theorem lk_131_46 : (zPr L xs).1 131 46 = o_xald 20 := rfl
theorem lk_131_47 : (zPr L xs).1 131 47 = o_push (.int (8)) 2 := rfl
theorem lk_131_49 : (zPr L xs).1 131 49 = o_iop (fun x y => x &&& y) := rfl
theorem lk_131_50 : (zPr L xs).1 131 50 = o_ifne 140 := rfl
theorem lk_131_53 : (zPr L xs).1 131 53 = o_aload 0 1 := rfl
theorem lk_131_54 : (zPr L xs).1 131 54 = o_gfR 10 505 := rfl
theorem lk_131_57 : (zPr L xs).1 131 57 = o_iload 5 2 := rfl
theorem lk_131_59 : (zPr L xs).1 131 59 = o_aload 0 1 := rfl
theorem lk_131_60 : (zPr L xs).1 131 60 = o_gfR 10 505 := rfl
theorem lk_131_63 : (zPr L xs).1 131 63 = o_iload 4 2 := rfl
theorem lk_131_65 : (zPr L xs).1 131 65 = o_xald 20 := rfl
theorem lk_131_66 : (zPr L xs).1 131 66 = o_xast 20 (fun x => x) := rfl
theorem lk_131_67 : (zPr L xs).1 131 67 = o_aload 0 1 := rfl
theorem lk_131_68 : (zPr L xs).1 131 68 = o_gfR 10 506 := rfl
theorem lk_131_71 : (zPr L xs).1 131 71 = o_iload 5 2 := rfl
theorem lk_131_73 : (zPr L xs).1 131 73 = o_aload 0 1 := rfl
theorem lk_131_74 : (zPr L xs).1 131 74 = o_gfR 10 506 := rfl
theorem lk_131_77 : (zPr L xs).1 131 77 = o_iload 4 2 := rfl
theorem lk_131_79 : (zPr L xs).1 131 79 = o_xald 20 := rfl
theorem lk_131_80 : (zPr L xs).1 131 80 = o_xast 20 (fun x => x) := rfl
theorem lk_131_81 : (zPr L xs).1 131 81 = o_aload 0 1 := rfl
theorem lk_131_82 : (zPr L xs).1 131 82 = o_gfR 10 507 := rfl
theorem lk_131_85 : (zPr L xs).1 131 85 = o_iload 5 2 := rfl
theorem lk_131_87 : (zPr L xs).1 131 87 = o_aload 0 1 := rfl
theorem lk_131_88 : (zPr L xs).1 131 88 = o_gfR 10 507 := rfl
theorem lk_131_91 : (zPr L xs).1 131 91 = o_iload 4 2 := rfl
theorem lk_131_93 : (zPr L xs).1 131 93 = o_xald 20 := rfl
theorem lk_131_94 : (zPr L xs).1 131 94 = o_xast 20 (fun x => x) := rfl
theorem lk_131_95 : (zPr L xs).1 131 95 = o_push (.int (0)) 1 := rfl
theorem lk_131_96 : (zPr L xs).1 131 96 = o_istore 6 2 := rfl
theorem lk_131_98 : (zPr L xs).1 131 98 = o_iload 6 2 := rfl
theorem lk_131_100 : (zPr L xs).1 131 100 = o_push (.int (6)) 2 := rfl
theorem lk_131_102 : (zPr L xs).1 131 102 = o_icge 137 := rfl
theorem lk_131_105 : (zPr L xs).1 131 105 = o_aload 0 1 := rfl
theorem lk_131_106 : (zPr L xs).1 131 106 = o_gfR 10 508 := rfl
theorem lk_131_109 : (zPr L xs).1 131 109 = o_push (.int (6)) 2 := rfl
theorem lk_131_111 : (zPr L xs).1 131 111 = o_iload 5 2 := rfl
theorem lk_131_113 : (zPr L xs).1 131 113 = o_iop (fun x y => x * y) := rfl
theorem lk_131_114 : (zPr L xs).1 131 114 = o_iload 6 2 := rfl
theorem lk_131_116 : (zPr L xs).1 131 116 = o_iop (fun x y => x + y) := rfl
theorem lk_131_117 : (zPr L xs).1 131 117 = o_aload 0 1 := rfl
theorem lk_131_118 : (zPr L xs).1 131 118 = o_gfR 10 508 := rfl
theorem lk_131_121 : (zPr L xs).1 131 121 = o_push (.int (6)) 2 := rfl
theorem lk_131_123 : (zPr L xs).1 131 123 = o_iload 4 2 := rfl
theorem lk_131_125 : (zPr L xs).1 131 125 = o_iop (fun x y => x * y) := rfl
theorem lk_131_126 : (zPr L xs).1 131 126 = o_iload 6 2 := rfl
theorem lk_131_128 : (zPr L xs).1 131 128 = o_iop (fun x y => x + y) := rfl
theorem lk_131_129 : (zPr L xs).1 131 129 = o_xald 20 := rfl
theorem lk_131_130 : (zPr L xs).1 131 130 = o_xast 20 (fun x => x) := rfl
theorem lk_131_131 : (zPr L xs).1 131 131 = o_iinc 6 (1) := rfl
theorem lk_131_134 : (zPr L xs).1 131 134 = o_goto 98 := rfl
theorem lk_131_137 : (zPr L xs).1 131 137 = o_iinc 2 (1) := rfl
theorem lk_131_140 : (zPr L xs).1 131 140 = o_iinc 3 (1) := rfl
theorem lk_131_143 : (zPr L xs).1 131 143 = o_goto 14 := rfl
theorem lk_131_146 : (zPr L xs).1 131 146 = o_aload 0 1 := rfl
theorem lk_131_147 : (zPr L xs).1 131 147 = o_gfR 10 504 := rfl
theorem lk_131_150 : (zPr L xs).1 131 150 = o_iload 1 1 := rfl
theorem lk_131_151 : (zPr L xs).1 131 151 = o_iload 2 1 := rfl
theorem lk_131_152 : (zPr L xs).1 131 152 = o_xast 20 (fun x => x) := rfl
theorem lk_131_153 : (zPr L xs).1 131 153 = o_vret := rfl
theorem lk_132_0 : (zPr L xs).1 132 0 = o_aload 0 1 := rfl
theorem lk_132_1 : (zPr L xs).1 132 1 = o_gfR 10 511 := rfl
theorem lk_132_4 : (zPr L xs).1 132 4 = o_aload 0 1 := rfl
theorem lk_132_5 : (zPr L xs).1 132 5 = o_gfI 10 520 := rfl
theorem lk_132_8 : (zPr L xs).1 132 8 = o_aload 0 1 := rfl
theorem lk_132_9 : (zPr L xs).1 132 9 = o_gfI 10 526 := rfl
theorem lk_132_12 : (zPr L xs).1 132 12 = o_xast 20 (fun x => x) := rfl
theorem lk_132_13 : (zPr L xs).1 132 13 = o_aload 0 1 := rfl
theorem lk_132_14 : (zPr L xs).1 132 14 = o_gfR 10 512 := rfl
theorem lk_132_17 : (zPr L xs).1 132 17 = o_aload 0 1 := rfl
theorem lk_132_18 : (zPr L xs).1 132 18 = o_gfI 10 520 := rfl
theorem lk_132_21 : (zPr L xs).1 132 21 = o_iload 1 1 := rfl
theorem lk_132_22 : (zPr L xs).1 132 22 = o_xast 23 (vp_nar .boolean) := rfl
theorem lk_132_23 : (zPr L xs).1 132 23 = o_aload 0 1 := rfl
theorem lk_132_24 : (zPr L xs).1 132 24 = o_gfR 10 513 := rfl
theorem lk_132_27 : (zPr L xs).1 132 27 = o_aload 0 1 := rfl
theorem lk_132_28 : (zPr L xs).1 132 28 = o_gfI 10 520 := rfl
theorem lk_132_31 : (zPr L xs).1 132 31 = o_push (.int (0)) 1 := rfl
theorem lk_132_32 : (zPr L xs).1 132 32 = o_xast 20 (fun x => x) := rfl
theorem lk_132_33 : (zPr L xs).1 132 33 = o_push (.int (10)) 2 := rfl
theorem lk_132_35 : (zPr L xs).1 132 35 = o_aload 0 1 := rfl
theorem lk_132_36 : (zPr L xs).1 132 36 = o_gfI 10 526 := rfl
theorem lk_132_39 : (zPr L xs).1 132 39 = o_iop (fun x y => x * y) := rfl
theorem lk_132_40 : (zPr L xs).1 132 40 = o_istore 2 1 := rfl
theorem lk_132_41 : (zPr L xs).1 132 41 = o_iload 2 1 := rfl
theorem lk_132_42 : (zPr L xs).1 132 42 = o_push (.int (10)) 2 := rfl
theorem lk_132_44 : (zPr L xs).1 132 44 = o_aload 0 1 := rfl
theorem lk_132_45 : (zPr L xs).1 132 45 = o_gfI 10 526 := rfl
theorem lk_132_48 : (zPr L xs).1 132 48 = o_iop (fun x y => x * y) := rfl
theorem lk_132_49 : (zPr L xs).1 132 49 = o_aload 0 1 := rfl
theorem lk_132_50 : (zPr L xs).1 132 50 = o_gfR 10 504 := rfl
theorem lk_132_53 : (zPr L xs).1 132 53 = o_aload 0 1 := rfl
theorem lk_132_54 : (zPr L xs).1 132 54 = o_gfI 10 526 := rfl
theorem lk_132_57 : (zPr L xs).1 132 57 = o_xald 20 := rfl
theorem lk_132_58 : (zPr L xs).1 132 58 = o_iop (fun x y => x + y) := rfl
theorem lk_132_59 : (zPr L xs).1 132 59 = o_icge 137 := rfl
theorem lk_132_62 : (zPr L xs).1 132 62 = o_aload 0 1 := rfl
theorem lk_132_63 : (zPr L xs).1 132 63 = o_gfR 10 514 := rfl
theorem lk_132_66 : (zPr L xs).1 132 66 = o_push (.int (40)) 2 := rfl
theorem lk_132_68 : (zPr L xs).1 132 68 = o_aload 0 1 := rfl
theorem lk_132_69 : (zPr L xs).1 132 69 = o_gfI 10 520 := rfl
theorem lk_132_72 : (zPr L xs).1 132 72 = o_iop (fun x y => x * y) := rfl
theorem lk_132_73 : (zPr L xs).1 132 73 = o_aload 0 1 := rfl
theorem lk_132_74 : (zPr L xs).1 132 74 = o_gfR 10 513 := rfl
theorem lk_132_77 : (zPr L xs).1 132 77 = o_aload 0 1 := rfl
theorem lk_132_78 : (zPr L xs).1 132 78 = o_gfI 10 520 := rfl
theorem lk_132_81 : (zPr L xs).1 132 81 = o_xald 20 := rfl
theorem lk_132_82 : (zPr L xs).1 132 82 = o_iop (fun x y => x + y) := rfl
theorem lk_132_83 : (zPr L xs).1 132 83 = o_aload 0 1 := rfl
theorem lk_132_84 : (zPr L xs).1 132 84 = o_gfR 10 505 := rfl
theorem lk_132_87 : (zPr L xs).1 132 87 = o_iload 2 1 := rfl
theorem lk_132_88 : (zPr L xs).1 132 88 = o_xald 20 := rfl
theorem lk_132_89 : (zPr L xs).1 132 89 = o_xast 20 (fun x => x) := rfl
theorem lk_132_90 : (zPr L xs).1 132 90 = o_aload 0 1 := rfl
theorem lk_132_91 : (zPr L xs).1 132 91 = o_gfR 10 515 := rfl
theorem lk_132_94 : (zPr L xs).1 132 94 = o_push (.int (40)) 2 := rfl
theorem lk_132_96 : (zPr L xs).1 132 96 = o_aload 0 1 := rfl
theorem lk_132_97 : (zPr L xs).1 132 97 = o_gfI 10 520 := rfl
theorem lk_132_100 : (zPr L xs).1 132 100 = o_iop (fun x y => x * y) := rfl
theorem lk_132_101 : (zPr L xs).1 132 101 = o_aload 0 1 := rfl
theorem lk_132_102 : (zPr L xs).1 132 102 = o_gfR 10 513 := rfl
theorem lk_132_105 : (zPr L xs).1 132 105 = o_aload 0 1 := rfl
theorem lk_132_106 : (zPr L xs).1 132 106 = o_gfI 10 520 := rfl
theorem lk_132_109 : (zPr L xs).1 132 109 = o_xald 20 := rfl
theorem lk_132_110 : (zPr L xs).1 132 110 = o_iop (fun x y => x + y) := rfl
theorem lk_132_111 : (zPr L xs).1 132 111 = o_aload 0 1 := rfl
theorem lk_132_112 : (zPr L xs).1 132 112 = o_gfR 10 506 := rfl
theorem lk_132_115 : (zPr L xs).1 132 115 = o_iload 2 1 := rfl
theorem lk_132_116 : (zPr L xs).1 132 116 = o_xald 20 := rfl
theorem lk_132_117 : (zPr L xs).1 132 117 = o_xast 20 (fun x => x) := rfl
theorem lk_132_118 : (zPr L xs).1 132 118 = o_aload 0 1 := rfl
theorem lk_132_119 : (zPr L xs).1 132 119 = o_gfR 10 513 := rfl
theorem lk_132_122 : (zPr L xs).1 132 122 = o_aload 0 1 := rfl
theorem lk_132_123 : (zPr L xs).1 132 123 = o_gfI 10 520 := rfl
theorem lk_132_126 : (zPr L xs).1 132 126 = o_dup2 := rfl
theorem lk_132_127 : (zPr L xs).1 132 127 = o_xald 20 := rfl
theorem lk_132_128 : (zPr L xs).1 132 128 = o_push (.int (1)) 1 := rfl
theorem lk_132_129 : (zPr L xs).1 132 129 = o_iop (fun x y => x + y) := rfl
theorem lk_132_130 : (zPr L xs).1 132 130 = o_xast 20 (fun x => x) := rfl
theorem lk_132_131 : (zPr L xs).1 132 131 = o_iinc 2 (1) := rfl
theorem lk_132_134 : (zPr L xs).1 132 134 = o_goto 41 := rfl
theorem lk_132_137 : (zPr L xs).1 132 137 = o_aload 0 1 := rfl
theorem lk_132_138 : (zPr L xs).1 132 138 = o_aload 0 1 := rfl
theorem lk_132_139 : (zPr L xs).1 132 139 = o_gfR 10 504 := rfl
theorem lk_132_142 : (zPr L xs).1 132 142 = o_aload 0 1 := rfl
theorem lk_132_143 : (zPr L xs).1 132 143 = o_gfI 10 526 := rfl
theorem lk_132_146 : (zPr L xs).1 132 146 = o_xald 20 := rfl
theorem lk_132_147 : (zPr L xs).1 132 147 = o_push (.int (69)) 2 := rfl
theorem lk_132_149 : (zPr L xs).1 132 149 = o_push (.int (88)) 2 := rfl
theorem lk_132_151 : (zPr L xs).1 132 151 = o_push (.int (73)) 2 := rfl
theorem lk_132_153 : (zPr L xs).1 132 153 = o_push (.int (83)) 2 := rfl
theorem lk_132_155 : (zPr L xs).1 132 155 = o_push (.int (84)) 2 := rfl
theorem lk_132_157 : (zPr L xs).1 132 157 = o_push (.int (83)) 2 := rfl
theorem lk_132_159 : (zPr L xs).1 132 159 = o_push (.int (0)) 1 := rfl
theorem lk_132_160 : (zPr L xs).1 132 160 = o_cs 90 7 9 := rfl
theorem lk_132_163 : (zPr L xs).1 132 163 = o_cv 123 2 4 10 10 := rfl
theorem lk_132_166 : (zPr L xs).1 132 166 = o_aload 0 1 := rfl
theorem lk_132_167 : (zPr L xs).1 132 167 = o_push (.int (10)) 2 := rfl
theorem lk_132_169 : (zPr L xs).1 132 169 = o_cv 119 1 2 10 10 := rfl
theorem lk_132_172 : (zPr L xs).1 132 172 = o_aload 0 1 := rfl
theorem lk_132_173 : (zPr L xs).1 132 173 = o_aload 0 1 := rfl
theorem lk_132_174 : (zPr L xs).1 132 174 = o_gfR 10 502 := rfl
theorem lk_132_177 : (zPr L xs).1 132 177 = o_aload 0 1 := rfl
theorem lk_132_178 : (zPr L xs).1 132 178 = o_gfI 10 526 := rfl
theorem lk_132_181 : (zPr L xs).1 132 181 = o_xald 20 := rfl
theorem lk_132_182 : (zPr L xs).1 132 182 = o_push (.int (85)) 2 := rfl
theorem lk_132_184 : (zPr L xs).1 132 184 = o_push (.int (73)) 2 := rfl
theorem lk_132_186 : (zPr L xs).1 132 186 = o_push (.int (68)) 2 := rfl
theorem lk_132_188 : (zPr L xs).1 132 188 = o_push (.int (86)) 2 := rfl
theorem lk_132_190 : (zPr L xs).1 132 190 = o_push (.int (65)) 2 := rfl
theorem lk_132_192 : (zPr L xs).1 132 192 = o_push (.int (76)) 2 := rfl
theorem lk_132_194 : (zPr L xs).1 132 194 = o_push (.int (73)) 2 := rfl
theorem lk_132_196 : (zPr L xs).1 132 196 = o_cs 90 7 9 := rfl
theorem lk_132_199 : (zPr L xs).1 132 199 = o_cv 123 2 4 10 10 := rfl
theorem lk_132_202 : (zPr L xs).1 132 202 = o_aload 0 1 := rfl
theorem lk_132_203 : (zPr L xs).1 132 203 = o_push (.int (68)) 2 := rfl
theorem lk_132_205 : (zPr L xs).1 132 205 = o_push (.int (73)) 2 := rfl
theorem lk_132_207 : (zPr L xs).1 132 207 = o_push (.int (84)) 2 := rfl
theorem lk_132_209 : (zPr L xs).1 132 209 = o_push (.int (89)) 2 := rfl
theorem lk_132_211 : (zPr L xs).1 132 211 = o_push (.int (0)) 1 := rfl
theorem lk_132_212 : (zPr L xs).1 132 212 = o_push (.int (0)) 1 := rfl
theorem lk_132_213 : (zPr L xs).1 132 213 = o_push (.int (0)) 1 := rfl
theorem lk_132_214 : (zPr L xs).1 132 214 = o_cs 90 7 9 := rfl
theorem lk_132_217 : (zPr L xs).1 132 217 = o_cv 121 1 5 10 10 := rfl
theorem lk_132_220 : (zPr L xs).1 132 220 = o_aload 0 1 := rfl
theorem lk_132_221 : (zPr L xs).1 132 221 = o_push (.int (10)) 2 := rfl
theorem lk_132_223 : (zPr L xs).1 132 223 = o_cv 119 1 2 10 10 := rfl
theorem lk_132_226 : (zPr L xs).1 132 226 = o_aload 0 1 := rfl
theorem lk_132_227 : (zPr L xs).1 132 227 = o_aload 0 1 := rfl
theorem lk_132_228 : (zPr L xs).1 132 228 = o_gfR 10 503 := rfl
theorem lk_132_231 : (zPr L xs).1 132 231 = o_aload 0 1 := rfl
theorem lk_132_232 : (zPr L xs).1 132 232 = o_gfI 10 526 := rfl
theorem lk_132_235 : (zPr L xs).1 132 235 = o_xald 20 := rfl
theorem lk_132_236 : (zPr L xs).1 132 236 = o_push (.int (85)) 2 := rfl
theorem lk_132_238 : (zPr L xs).1 132 238 = o_push (.int (73)) 2 := rfl
theorem lk_132_240 : (zPr L xs).1 132 240 = o_push (.int (68)) 2 := rfl
theorem lk_132_242 : (zPr L xs).1 132 242 = o_push (.int (78)) 2 := rfl
theorem lk_132_244 : (zPr L xs).1 132 244 = o_push (.int (69)) 2 := rfl
theorem lk_132_246 : (zPr L xs).1 132 246 = o_push (.int (88)) 2 := rfl
theorem lk_132_248 : (zPr L xs).1 132 248 = o_push (.int (84)) 2 := rfl
theorem lk_132_250 : (zPr L xs).1 132 250 = o_cs 90 7 9 := rfl
theorem lk_132_253 : (zPr L xs).1 132 253 = o_cv 123 2 4 10 10 := rfl
theorem lk_132_256 : (zPr L xs).1 132 256 = o_aload 0 1 := rfl
theorem lk_132_257 : (zPr L xs).1 132 257 = o_push (.int (10)) 2 := rfl
theorem lk_132_259 : (zPr L xs).1 132 259 = o_cv 119 1 2 10 10 := rfl
theorem lk_132_262 : (zPr L xs).1 132 262 = o_vret := rfl
theorem lk_133_0 : (zPr L xs).1 133 0 = o_aload 0 1 := rfl
theorem lk_133_1 : (zPr L xs).1 133 1 = o_iload 1 1 := rfl
theorem lk_133_2 : (zPr L xs).1 133 2 = o_cv 109 1 4 10 10 := rfl
theorem lk_133_5 : (zPr L xs).1 133 5 = o_istore 2 1 := rfl
theorem lk_133_6 : (zPr L xs).1 133 6 = o_aload 0 1 := rfl
theorem lk_133_7 : (zPr L xs).1 133 7 = o_gfR 10 506 := rfl
theorem lk_133_10 : (zPr L xs).1 133 10 = o_iload 2 1 := rfl
theorem lk_133_11 : (zPr L xs).1 133 11 = o_aload 0 1 := rfl
theorem lk_133_12 : (zPr L xs).1 133 12 = o_gfI 10 530 := rfl
theorem lk_133_15 : (zPr L xs).1 133 15 = o_ifne 25 := rfl
theorem lk_133_18 : (zPr L xs).1 133 18 = o_aload 0 1 := rfl
theorem lk_133_19 : (zPr L xs).1 133 19 = o_gfI 10 529 := rfl
theorem lk_133_22 : (zPr L xs).1 133 22 = o_goto 59 := rfl
theorem lk_133_25 : (zPr L xs).1 133 25 = o_aload 0 1 := rfl
theorem lk_133_26 : (zPr L xs).1 133 26 = o_gfI 10 530 := rfl
theorem lk_133_29 : (zPr L xs).1 133 29 = o_ifle 46 := rfl
theorem lk_133_32 : (zPr L xs).1 133 32 = o_aload 0 1 := rfl
theorem lk_133_33 : (zPr L xs).1 133 33 = o_gfR 10 506 := rfl
theorem lk_133_36 : (zPr L xs).1 133 36 = o_iload 2 1 := rfl
theorem lk_133_37 : (zPr L xs).1 133 37 = o_xald 20 := rfl
theorem lk_133_38 : (zPr L xs).1 133 38 = o_aload 0 1 := rfl
theorem lk_133_39 : (zPr L xs).1 133 39 = o_gfI 10 529 := rfl
theorem lk_133_42 : (zPr L xs).1 133 42 = o_iop (fun x y => x ||| y) := rfl
theorem lk_133_43 : (zPr L xs).1 133 43 = o_goto 59 := rfl
theorem lk_133_46 : (zPr L xs).1 133 46 = o_aload 0 1 := rfl
theorem lk_133_47 : (zPr L xs).1 133 47 = o_gfR 10 506 := rfl
theorem lk_133_50 : (zPr L xs).1 133 50 = o_iload 2 1 := rfl
theorem lk_133_51 : (zPr L xs).1 133 51 = o_xald 20 := rfl
theorem lk_133_52 : (zPr L xs).1 133 52 = o_aload 0 1 := rfl
theorem lk_133_53 : (zPr L xs).1 133 53 = o_gfI 10 529 := rfl
theorem lk_133_56 : (zPr L xs).1 133 56 = o_push (.int (-1)) 1 := rfl
theorem lk_133_57 : (zPr L xs).1 133 57 = o_iop (fun x y => x ^^^ y) := rfl
theorem lk_133_58 : (zPr L xs).1 133 58 = o_iop (fun x y => x &&& y) := rfl
theorem lk_133_59 : (zPr L xs).1 133 59 = o_xast 20 (fun x => x) := rfl
theorem lk_133_60 : (zPr L xs).1 133 60 = o_aload 0 1 := rfl
theorem lk_133_61 : (zPr L xs).1 133 61 = o_iload 1 1 := rfl
theorem lk_133_62 : (zPr L xs).1 133 62 = o_aload 0 1 := rfl
theorem lk_133_63 : (zPr L xs).1 133 63 = o_gfR 10 506 := rfl
theorem lk_133_66 : (zPr L xs).1 133 66 = o_iload 2 1 := rfl
theorem lk_133_67 : (zPr L xs).1 133 67 = o_xald 20 := rfl
theorem lk_133_68 : (zPr L xs).1 133 68 = o_cv 124 2 3 10 10 := rfl
theorem lk_133_71 : (zPr L xs).1 133 71 = o_vret := rfl
theorem lk_134_0 : (zPr L xs).1 134 0 = o_aload 0 1 := rfl
theorem lk_134_1 : (zPr L xs).1 134 1 = o_iload 1 1 := rfl
theorem lk_134_2 : (zPr L xs).1 134 2 = o_cv 109 1 4 10 10 := rfl
theorem lk_134_5 : (zPr L xs).1 134 5 = o_istore 2 1 := rfl
theorem lk_134_6 : (zPr L xs).1 134 6 = o_aload 0 1 := rfl
theorem lk_134_7 : (zPr L xs).1 134 7 = o_gfL 10 533 := rfl
theorem lk_134_10 : (zPr L xs).1 134 10 = o_push (.int (70)) 2 := rfl
theorem lk_134_12 : (zPr L xs).1 134 12 = o_push (.int (76)) 2 := rfl
theorem lk_134_14 : (zPr L xs).1 134 14 = o_push (.int (65)) 2 := rfl
theorem lk_134_16 : (zPr L xs).1 134 16 = o_push (.int (71)) 2 := rfl
theorem lk_134_18 : (zPr L xs).1 134 18 = o_push (.int (83)) 2 := rfl
theorem lk_134_20 : (zPr L xs).1 134 20 = o_push (.int (0)) 1 := rfl
theorem lk_134_21 : (zPr L xs).1 134 21 = o_push (.int (0)) 1 := rfl
theorem lk_134_22 : (zPr L xs).1 134 22 = o_cs 90 7 9 := rfl
theorem lk_134_25 : (zPr L xs).1 134 25 = o_lcmp := rfl
theorem lk_134_26 : (zPr L xs).1 134 26 = o_ifne 41 := rfl
theorem lk_134_29 : (zPr L xs).1 134 29 = o_aload 0 1 := rfl
theorem lk_134_30 : (zPr L xs).1 134 30 = o_iload 1 1 := rfl
theorem lk_134_31 : (zPr L xs).1 134 31 = o_aload 0 1 := rfl
theorem lk_134_32 : (zPr L xs).1 134 32 = o_gfR 10 506 := rfl
theorem lk_134_35 : (zPr L xs).1 134 35 = o_iload 2 1 := rfl
theorem lk_134_36 : (zPr L xs).1 134 36 = o_xald 20 := rfl
theorem lk_134_37 : (zPr L xs).1 134 37 = o_cv 124 2 3 10 10 := rfl
theorem lk_134_40 : (zPr L xs).1 134 40 = o_vret := rfl
theorem lk_134_41 : (zPr L xs).1 134 41 = o_aload 0 1 := rfl
theorem lk_134_42 : (zPr L xs).1 134 42 = o_iload 1 1 := rfl
theorem lk_134_43 : (zPr L xs).1 134 43 = o_push (.int (70)) 2 := rfl
theorem lk_134_45 : (zPr L xs).1 134 45 = o_push (.int (69)) 2 := rfl
theorem lk_134_47 : (zPr L xs).1 134 47 = o_push (.int (84)) 2 := rfl
theorem lk_134_49 : (zPr L xs).1 134 49 = o_push (.int (67)) 2 := rfl
theorem lk_134_51 : (zPr L xs).1 134 51 = o_push (.int (72)) 2 := rfl
theorem lk_134_53 : (zPr L xs).1 134 53 = o_push (.int (0)) 1 := rfl
theorem lk_134_54 : (zPr L xs).1 134 54 = o_push (.int (0)) 1 := rfl
theorem lk_134_55 : (zPr L xs).1 134 55 = o_cs 90 7 9 := rfl
theorem lk_134_58 : (zPr L xs).1 134 58 = o_cv 123 2 4 10 10 := rfl
theorem lk_134_61 : (zPr L xs).1 134 61 = o_aload 0 1 := rfl
theorem lk_134_62 : (zPr L xs).1 134 62 = o_push (.int (32)) 2 := rfl
theorem lk_134_64 : (zPr L xs).1 134 64 = o_cv 119 1 2 10 10 := rfl
theorem lk_134_67 : (zPr L xs).1 134 67 = o_aload 0 1 := rfl
theorem lk_134_68 : (zPr L xs).1 134 68 = o_gfL 10 533 := rfl
theorem lk_134_71 : (zPr L xs).1 134 71 = o_push (.int (85)) 2 := rfl
theorem lk_134_73 : (zPr L xs).1 134 73 = o_push (.int (73)) 2 := rfl
theorem lk_134_75 : (zPr L xs).1 134 75 = o_push (.int (68)) 2 := rfl
theorem lk_134_77 : (zPr L xs).1 134 77 = o_push (.int (0)) 1 := rfl
theorem lk_134_78 : (zPr L xs).1 134 78 = o_push (.int (0)) 1 := rfl
theorem lk_134_79 : (zPr L xs).1 134 79 = o_push (.int (0)) 1 := rfl
theorem lk_134_80 : (zPr L xs).1 134 80 = o_push (.int (0)) 1 := rfl
theorem lk_134_81 : (zPr L xs).1 134 81 = o_cs 90 7 9 := rfl
theorem lk_134_84 : (zPr L xs).1 134 84 = o_lcmp := rfl
theorem lk_134_85 : (zPr L xs).1 134 85 = o_ifne 101 := rfl
theorem lk_134_88 : (zPr L xs).1 134 88 = o_aload 0 1 := rfl
theorem lk_134_89 : (zPr L xs).1 134 89 = o_aload 0 1 := rfl
theorem lk_134_90 : (zPr L xs).1 134 90 = o_gfR 10 505 := rfl
theorem lk_134_93 : (zPr L xs).1 134 93 = o_iload 2 1 := rfl
theorem lk_134_94 : (zPr L xs).1 134 94 = o_xald 20 := rfl
theorem lk_134_95 : (zPr L xs).1 134 95 = o_cv 120 1 2 10 10 := rfl
theorem lk_134_98 : (zPr L xs).1 134 98 = o_goto 169 := rfl
theorem lk_134_101 : (zPr L xs).1 134 101 = o_push (.int (0)) 1 := rfl
theorem lk_134_102 : (zPr L xs).1 134 102 = o_istore 3 1 := rfl
theorem lk_134_103 : (zPr L xs).1 134 103 = o_iload 3 1 := rfl
theorem lk_134_104 : (zPr L xs).1 134 104 = o_aload 0 1 := rfl
theorem lk_134_105 : (zPr L xs).1 134 105 = o_gfR 10 507 := rfl
theorem lk_134_108 : (zPr L xs).1 134 108 = o_iload 2 1 := rfl
theorem lk_134_109 : (zPr L xs).1 134 109 = o_xald 20 := rfl
theorem lk_134_110 : (zPr L xs).1 134 110 = o_icge 134 := rfl
theorem lk_134_113 : (zPr L xs).1 134 113 = o_aload 0 1 := rfl
theorem lk_134_114 : (zPr L xs).1 134 114 = o_aload 0 1 := rfl
theorem lk_134_115 : (zPr L xs).1 134 115 = o_gfR 10 508 := rfl
theorem lk_134_118 : (zPr L xs).1 134 118 = o_push (.int (6)) 2 := rfl
theorem lk_134_120 : (zPr L xs).1 134 120 = o_iload 2 1 := rfl
theorem lk_134_121 : (zPr L xs).1 134 121 = o_iop (fun x y => x * y) := rfl
theorem lk_134_122 : (zPr L xs).1 134 122 = o_iload 3 1 := rfl
theorem lk_134_123 : (zPr L xs).1 134 123 = o_iop (fun x y => x + y) := rfl
theorem lk_134_124 : (zPr L xs).1 134 124 = o_xald 20 := rfl
theorem lk_134_125 : (zPr L xs).1 134 125 = o_cv 119 1 2 10 10 := rfl
theorem lk_134_128 : (zPr L xs).1 134 128 = o_iinc 3 (1) := rfl
theorem lk_134_131 : (zPr L xs).1 134 131 = o_goto 103 := rfl
theorem lk_134_134 : (zPr L xs).1 134 134 = o_aload 0 1 := rfl
theorem lk_134_135 : (zPr L xs).1 134 135 = o_gfR 10 506 := rfl
theorem lk_134_138 : (zPr L xs).1 134 138 = o_iload 2 1 := rfl
theorem lk_134_139 : (zPr L xs).1 134 139 = o_aload 0 1 := rfl
theorem lk_134_140 : (zPr L xs).1 134 140 = o_gfR 10 512 := rfl
theorem lk_134_143 : (zPr L xs).1 134 143 = o_aload 0 1 := rfl
theorem lk_134_144 : (zPr L xs).1 134 144 = o_gfI 10 520 := rfl
theorem lk_134_147 : (zPr L xs).1 134 147 = o_xald 23 := rfl
theorem lk_134_148 : (zPr L xs).1 134 148 = o_ifeq 162 := rfl
theorem lk_134_151 : (zPr L xs).1 134 151 = o_aload 0 1 := rfl
theorem lk_134_152 : (zPr L xs).1 134 152 = o_gfR 10 506 := rfl
theorem lk_134_155 : (zPr L xs).1 134 155 = o_iload 2 1 := rfl
theorem lk_134_156 : (zPr L xs).1 134 156 = o_xald 20 := rfl
theorem lk_134_157 : (zPr L xs).1 134 157 = o_push (.int (1)) 1 := rfl
theorem lk_134_158 : (zPr L xs).1 134 158 = o_iop (fun x y => x ||| y) := rfl
theorem lk_134_159 : (zPr L xs).1 134 159 = o_goto 168 := rfl
theorem lk_134_162 : (zPr L xs).1 134 162 = o_aload 0 1 := rfl
theorem lk_134_163 : (zPr L xs).1 134 163 = o_gfR 10 506 := rfl
theorem lk_134_166 : (zPr L xs).1 134 166 = o_iload 2 1 := rfl
theorem lk_134_167 : (zPr L xs).1 134 167 = o_xald 20 := rfl
theorem lk_134_168 : (zPr L xs).1 134 168 = o_xast 20 (fun x => x) := rfl
theorem lk_134_169 : (zPr L xs).1 134 169 = o_aload 0 1 := rfl
theorem lk_134_170 : (zPr L xs).1 134 170 = o_push (.int (10)) 2 := rfl
theorem lk_134_172 : (zPr L xs).1 134 172 = o_cv 119 1 2 10 10 := rfl
theorem lk_134_175 : (zPr L xs).1 134 175 = o_vret := rfl
theorem lk_135_0 : (zPr L xs).1 135 0 = o_aload 0 1 := rfl
theorem lk_135_1 : (zPr L xs).1 135 1 = o_iload 1 1 := rfl
theorem lk_135_2 : (zPr L xs).1 135 2 = o_cv 109 1 4 10 10 := rfl
theorem lk_135_5 : (zPr L xs).1 135 5 = o_istore 2 1 := rfl
theorem lk_135_6 : (zPr L xs).1 135 6 = o_aload 0 1 := rfl
theorem lk_135_7 : (zPr L xs).1 135 7 = o_aload 0 1 := rfl
theorem lk_135_8 : (zPr L xs).1 135 8 = o_gfI 10 526 := rfl
theorem lk_135_11 : (zPr L xs).1 135 11 = o_aload 0 1 := rfl
theorem lk_135_12 : (zPr L xs).1 135 12 = o_gfR 10 506 := rfl
theorem lk_135_15 : (zPr L xs).1 135 15 = o_iload 2 1 := rfl
theorem lk_135_16 : (zPr L xs).1 135 16 = o_xald 20 := rfl
theorem lk_135_17 : (zPr L xs).1 135 17 = o_cv 130 2 4 10 10 := rfl
theorem lk_135_20 : (zPr L xs).1 135 20 = o_istore 3 1 := rfl
theorem lk_135_21 : (zPr L xs).1 135 21 = o_aload 0 1 := rfl
theorem lk_135_22 : (zPr L xs).1 135 22 = o_gfR 10 507 := rfl
theorem lk_135_25 : (zPr L xs).1 135 25 = o_iload 3 1 := rfl
theorem lk_135_26 : (zPr L xs).1 135 26 = o_aload 0 1 := rfl
theorem lk_135_27 : (zPr L xs).1 135 27 = o_gfR 10 507 := rfl
theorem lk_135_30 : (zPr L xs).1 135 30 = o_iload 2 1 := rfl
theorem lk_135_31 : (zPr L xs).1 135 31 = o_xald 20 := rfl
theorem lk_135_32 : (zPr L xs).1 135 32 = o_xast 20 (fun x => x) := rfl
theorem lk_135_33 : (zPr L xs).1 135 33 = o_push (.int (0)) 1 := rfl
theorem lk_135_34 : (zPr L xs).1 135 34 = o_istore 4 2 := rfl
theorem lk_135_36 : (zPr L xs).1 135 36 = o_iload 4 2 := rfl
theorem lk_135_38 : (zPr L xs).1 135 38 = o_push (.int (6)) 2 := rfl
theorem lk_135_40 : (zPr L xs).1 135 40 = o_icge 73 := rfl
theorem lk_135_43 : (zPr L xs).1 135 43 = o_aload 0 1 := rfl
theorem lk_135_44 : (zPr L xs).1 135 44 = o_gfR 10 508 := rfl
theorem lk_135_47 : (zPr L xs).1 135 47 = o_push (.int (6)) 2 := rfl
theorem lk_135_49 : (zPr L xs).1 135 49 = o_iload 3 1 := rfl
theorem lk_135_50 : (zPr L xs).1 135 50 = o_iop (fun x y => x * y) := rfl
theorem lk_135_51 : (zPr L xs).1 135 51 = o_iload 4 2 := rfl
theorem lk_135_53 : (zPr L xs).1 135 53 = o_iop (fun x y => x + y) := rfl
theorem lk_135_54 : (zPr L xs).1 135 54 = o_aload 0 1 := rfl
theorem lk_135_55 : (zPr L xs).1 135 55 = o_gfR 10 508 := rfl
theorem lk_135_58 : (zPr L xs).1 135 58 = o_push (.int (6)) 2 := rfl
theorem lk_135_60 : (zPr L xs).1 135 60 = o_iload 2 1 := rfl
theorem lk_135_61 : (zPr L xs).1 135 61 = o_iop (fun x y => x * y) := rfl
theorem lk_135_62 : (zPr L xs).1 135 62 = o_iload 4 2 := rfl
theorem lk_135_64 : (zPr L xs).1 135 64 = o_iop (fun x y => x + y) := rfl
theorem lk_135_65 : (zPr L xs).1 135 65 = o_xald 20 := rfl
theorem lk_135_66 : (zPr L xs).1 135 66 = o_xast 20 (fun x => x) := rfl
theorem lk_135_67 : (zPr L xs).1 135 67 = o_iinc 4 (1) := rfl
theorem lk_135_70 : (zPr L xs).1 135 70 = o_goto 36 := rfl
theorem lk_135_73 : (zPr L xs).1 135 73 = o_vret := rfl
theorem lk_136_0 : (zPr L xs).1 136 0 = o_aload 0 1 := rfl
theorem lk_136_1 : (zPr L xs).1 136 1 = o_aload 0 1 := rfl
theorem lk_136_2 : (zPr L xs).1 136 2 = o_gfI 10 526 := rfl
theorem lk_136_5 : (zPr L xs).1 136 5 = o_aload 0 1 := rfl
theorem lk_136_6 : (zPr L xs).1 136 6 = o_gfI 10 529 := rfl
theorem lk_136_9 : (zPr L xs).1 136 9 = o_cv 130 2 4 10 10 := rfl
theorem lk_136_12 : (zPr L xs).1 136 12 = o_istore 1 1 := rfl
theorem lk_136_13 : (zPr L xs).1 136 13 = o_aload 0 1 := rfl
theorem lk_136_14 : (zPr L xs).1 136 14 = o_gfR 10 507 := rfl
theorem lk_136_17 : (zPr L xs).1 136 17 = o_iload 1 1 := rfl
theorem lk_136_18 : (zPr L xs).1 136 18 = o_aload 0 1 := rfl
theorem lk_136_19 : (zPr L xs).1 136 19 = o_gfI 10 532 := rfl
theorem lk_136_22 : (zPr L xs).1 136 22 = o_xast 20 (fun x => x) := rfl
theorem lk_136_23 : (zPr L xs).1 136 23 = o_push (.int (0)) 1 := rfl
theorem lk_136_24 : (zPr L xs).1 136 24 = o_istore 2 1 := rfl
theorem lk_136_25 : (zPr L xs).1 136 25 = o_iload 2 1 := rfl
theorem lk_136_26 : (zPr L xs).1 136 26 = o_aload 0 1 := rfl
theorem lk_136_27 : (zPr L xs).1 136 27 = o_gfI 10 532 := rfl
theorem lk_136_30 : (zPr L xs).1 136 30 = o_icge 60 := rfl
theorem lk_136_33 : (zPr L xs).1 136 33 = o_aload 0 1 := rfl
theorem lk_136_34 : (zPr L xs).1 136 34 = o_gfR 10 508 := rfl
theorem lk_136_37 : (zPr L xs).1 136 37 = o_push (.int (6)) 2 := rfl
theorem lk_136_39 : (zPr L xs).1 136 39 = o_iload 1 1 := rfl
theorem lk_136_40 : (zPr L xs).1 136 40 = o_iop (fun x y => x * y) := rfl
theorem lk_136_41 : (zPr L xs).1 136 41 = o_iload 2 1 := rfl
theorem lk_136_42 : (zPr L xs).1 136 42 = o_iop (fun x y => x + y) := rfl
theorem lk_136_43 : (zPr L xs).1 136 43 = o_aload 0 1 := rfl
theorem lk_136_44 : (zPr L xs).1 136 44 = o_aload 0 1 := rfl
theorem lk_136_45 : (zPr L xs).1 136 45 = o_gfI 10 531 := rfl
theorem lk_136_48 : (zPr L xs).1 136 48 = o_iload 2 1 := rfl
theorem lk_136_49 : (zPr L xs).1 136 49 = o_iop (fun x y => x + y) := rfl
theorem lk_136_50 : (zPr L xs).1 136 50 = o_cv 91 1 2 10 10 := rfl
theorem lk_136_53 : (zPr L xs).1 136 53 = o_xast 20 (fun x => x) := rfl
theorem lk_136_54 : (zPr L xs).1 136 54 = o_iinc 2 (1) := rfl
theorem lk_136_57 : (zPr L xs).1 136 57 = o_goto 25 := rfl
theorem lk_136_60 : (zPr L xs).1 136 60 = o_vret := rfl
theorem lk_137_0 : (zPr L xs).1 137 0 = o_aload 0 1 := rfl
theorem lk_137_1 : (zPr L xs).1 137 1 = o_push (.int (42)) 2 := rfl
theorem lk_137_3 : (zPr L xs).1 137 3 = o_cv 119 1 2 10 10 := rfl
theorem lk_137_6 : (zPr L xs).1 137 6 = o_aload 0 1 := rfl
theorem lk_137_7 : (zPr L xs).1 137 7 = o_push (.int (32)) 2 := rfl
theorem lk_137_9 : (zPr L xs).1 137 9 = o_cv 119 1 2 10 10 := rfl
theorem lk_137_12 : (zPr L xs).1 137 12 = o_aload 0 1 := rfl
theorem lk_137_13 : (zPr L xs).1 137 13 = o_push (.int (83)) 2 := rfl
theorem lk_137_15 : (zPr L xs).1 137 15 = o_push (.int (69)) 2 := rfl
theorem lk_137_17 : (zPr L xs).1 137 17 = o_push (.int (65)) 2 := rfl
theorem lk_137_19 : (zPr L xs).1 137 19 = o_push (.int (82)) 2 := rfl
theorem lk_137_21 : (zPr L xs).1 137 21 = o_push (.int (67)) 2 := rfl
theorem lk_137_23 : (zPr L xs).1 137 23 = o_push (.int (72)) 2 := rfl
theorem lk_137_25 : (zPr L xs).1 137 25 = o_push (.int (0)) 1 := rfl
theorem lk_137_26 : (zPr L xs).1 137 26 = o_cs 90 7 9 := rfl
theorem lk_137_29 : (zPr L xs).1 137 29 = o_cv 121 1 5 10 10 := rfl
theorem lk_137_32 : (zPr L xs).1 137 32 = o_push (.int (1)) 1 := rfl
theorem lk_137_33 : (zPr L xs).1 137 33 = o_istore 1 1 := rfl
theorem lk_137_34 : (zPr L xs).1 137 34 = o_iload 1 1 := rfl
theorem lk_137_35 : (zPr L xs).1 137 35 = o_aload 0 1 := rfl
theorem lk_137_36 : (zPr L xs).1 137 36 = o_gfR 10 513 := rfl
theorem lk_137_39 : (zPr L xs).1 137 39 = o_aload 0 1 := rfl
theorem lk_137_40 : (zPr L xs).1 137 40 = o_gfI 10 520 := rfl
theorem lk_137_43 : (zPr L xs).1 137 43 = o_xald 20 := rfl
theorem lk_137_44 : (zPr L xs).1 137 44 = o_icgt 106 := rfl
theorem lk_137_47 : (zPr L xs).1 137 47 = o_aload 0 1 := rfl
theorem lk_137_48 : (zPr L xs).1 137 48 = o_iload 1 1 := rfl
theorem lk_137_49 : (zPr L xs).1 137 49 = o_cv 109 1 4 10 10 := rfl
theorem lk_137_52 : (zPr L xs).1 137 52 = o_iflt 100 := rfl
theorem lk_137_55 : (zPr L xs).1 137 55 = o_aload 0 1 := rfl
theorem lk_137_56 : (zPr L xs).1 137 56 = o_iload 1 1 := rfl
theorem lk_137_57 : (zPr L xs).1 137 57 = o_cv 115 1 4 10 10 := rfl
theorem lk_137_60 : (zPr L xs).1 137 60 = o_ifeq 100 := rfl
theorem lk_137_63 : (zPr L xs).1 137 63 = o_aload 0 1 := rfl
theorem lk_137_64 : (zPr L xs).1 137 64 = o_push (.int (32)) 2 := rfl
theorem lk_137_66 : (zPr L xs).1 137 66 = o_cv 119 1 2 10 10 := rfl
theorem lk_137_69 : (zPr L xs).1 137 69 = o_aload 0 1 := rfl
theorem lk_137_70 : (zPr L xs).1 137 70 = o_aload 0 1 := rfl
theorem lk_137_71 : (zPr L xs).1 137 71 = o_gfI 10 525 := rfl
theorem lk_137_74 : (zPr L xs).1 137 74 = o_ifeq 96 := rfl
theorem lk_137_77 : (zPr L xs).1 137 77 = o_aload 0 1 := rfl
theorem lk_137_78 : (zPr L xs).1 137 78 = o_gfR 10 514 := rfl
theorem lk_137_81 : (zPr L xs).1 137 81 = o_push (.int (40)) 2 := rfl
theorem lk_137_83 : (zPr L xs).1 137 83 = o_aload 0 1 := rfl
theorem lk_137_84 : (zPr L xs).1 137 84 = o_gfI 10 520 := rfl
theorem lk_137_87 : (zPr L xs).1 137 87 = o_iop (fun x y => x * y) := rfl
theorem lk_137_88 : (zPr L xs).1 137 88 = o_iload 1 1 := rfl
theorem lk_137_89 : (zPr L xs).1 137 89 = o_iop (fun x y => x + y) := rfl
theorem lk_137_90 : (zPr L xs).1 137 90 = o_push (.int (1)) 1 := rfl
theorem lk_137_91 : (zPr L xs).1 137 91 = o_iop (fun x y => x - y) := rfl
theorem lk_137_92 : (zPr L xs).1 137 92 = o_xald 20 := rfl
theorem lk_137_93 : (zPr L xs).1 137 93 = o_goto 97 := rfl
theorem lk_137_96 : (zPr L xs).1 137 96 = o_iload 1 1 := rfl
theorem lk_137_97 : (zPr L xs).1 137 97 = o_cv 120 1 2 10 10 := rfl
theorem lk_137_100 : (zPr L xs).1 137 100 = o_iinc 1 (1) := rfl
theorem lk_137_103 : (zPr L xs).1 137 103 = o_goto 34 := rfl
theorem lk_137_106 : (zPr L xs).1 137 106 = o_aload 0 1 := rfl
theorem lk_137_107 : (zPr L xs).1 137 107 = o_push (.int (10)) 2 := rfl
theorem lk_137_109 : (zPr L xs).1 137 109 = o_cv 119 1 2 10 10 := rfl
theorem lk_137_112 : (zPr L xs).1 137 112 = o_vret := rfl
theorem lk_138_0 : (zPr L xs).1 138 0 = o_aload 0 1 := rfl
theorem lk_138_1 : (zPr L xs).1 138 1 = o_gfR 10 513 := rfl
theorem lk_138_4 : (zPr L xs).1 138 4 = o_aload 0 1 := rfl
theorem lk_138_5 : (zPr L xs).1 138 5 = o_gfI 10 520 := rfl
theorem lk_138_8 : (zPr L xs).1 138 8 = o_xald 20 := rfl
theorem lk_138_9 : (zPr L xs).1 138 9 = o_istore 2 1 := rfl
theorem lk_138_10 : (zPr L xs).1 138 10 = o_push (.int (1)) 1 := rfl
theorem lk_138_11 : (zPr L xs).1 138 11 = o_istore 3 1 := rfl
theorem lk_138_12 : (zPr L xs).1 138 12 = o_iload 3 1 := rfl
theorem lk_138_13 : (zPr L xs).1 138 13 = o_iload 2 1 := rfl
theorem lk_138_14 : (zPr L xs).1 138 14 = o_icgt 64 := rfl
theorem lk_138_17 : (zPr L xs).1 138 17 = o_aload 0 1 := rfl
theorem lk_138_18 : (zPr L xs).1 138 18 = o_iload 3 1 := rfl
theorem lk_138_19 : (zPr L xs).1 138 19 = o_cv 127 1 2 10 10 := rfl
theorem lk_138_22 : (zPr L xs).1 138 22 = o_ifeq 58 := rfl
theorem lk_138_25 : (zPr L xs).1 138 25 = o_iload 1 1 := rfl
theorem lk_138_26 : (zPr L xs).1 138 26 = o_push (.int (10)) 2 := rfl
theorem lk_138_28 : (zPr L xs).1 138 28 = o_icne 39 := rfl
theorem lk_138_31 : (zPr L xs).1 138 31 = o_aload 0 1 := rfl
theorem lk_138_32 : (zPr L xs).1 138 32 = o_iload 3 1 := rfl
theorem lk_138_33 : (zPr L xs).1 138 33 = o_cv 133 1 3 10 10 := rfl
theorem lk_138_36 : (zPr L xs).1 138 36 = o_goto 58 := rfl
theorem lk_138_39 : (zPr L xs).1 138 39 = o_iload 1 1 := rfl
theorem lk_138_40 : (zPr L xs).1 138 40 = o_push (.int (11)) 2 := rfl
theorem lk_138_42 : (zPr L xs).1 138 42 = o_icne 53 := rfl
theorem lk_138_45 : (zPr L xs).1 138 45 = o_aload 0 1 := rfl
theorem lk_138_46 : (zPr L xs).1 138 46 = o_iload 3 1 := rfl
theorem lk_138_47 : (zPr L xs).1 138 47 = o_cv 134 1 4 10 10 := rfl
theorem lk_138_50 : (zPr L xs).1 138 50 = o_goto 58 := rfl
theorem lk_138_53 : (zPr L xs).1 138 53 = o_aload 0 1 := rfl
theorem lk_138_54 : (zPr L xs).1 138 54 = o_iload 3 1 := rfl
theorem lk_138_55 : (zPr L xs).1 138 55 = o_cv 135 1 5 10 10 := rfl
theorem lk_138_58 : (zPr L xs).1 138 58 = o_iinc 3 (1) := rfl
theorem lk_138_61 : (zPr L xs).1 138 61 = o_goto 12 := rfl
theorem lk_138_64 : (zPr L xs).1 138 64 = o_vret := rfl
theorem lk_139_0 : (zPr L xs).1 139 0 = o_aload 0 1 := rfl
theorem lk_139_1 : (zPr L xs).1 139 1 = o_dup := rfl
theorem lk_139_2 : (zPr L xs).1 139 2 = o_gfI 10 509 := rfl
theorem lk_139_5 : (zPr L xs).1 139 5 = o_push (.int (1)) 1 := rfl
theorem lk_139_6 : (zPr L xs).1 139 6 = o_iop (fun x y => x + y) := rfl
theorem lk_139_7 : (zPr L xs).1 139 7 = o_pfI 10 509 (fun x => x) := rfl
theorem lk_139_10 : (zPr L xs).1 139 10 = o_aload 0 1 := rfl
theorem lk_139_11 : (zPr L xs).1 139 11 = o_gfR 10 501 := rfl
theorem lk_139_14 : (zPr L xs).1 139 14 = o_aload 0 1 := rfl
theorem lk_139_15 : (zPr L xs).1 139 15 = o_gfI 10 526 := rfl
theorem lk_139_18 : (zPr L xs).1 139 18 = o_push (.int (1)) 1 := rfl
theorem lk_139_19 : (zPr L xs).1 139 19 = o_xast 23 (vp_nar .boolean) := rfl
theorem lk_139_20 : (zPr L xs).1 139 20 = o_aload 0 1 := rfl
theorem lk_139_21 : (zPr L xs).1 139 21 = o_gfR 10 502 := rfl
theorem lk_139_24 : (zPr L xs).1 139 24 = o_aload 0 1 := rfl
theorem lk_139_25 : (zPr L xs).1 139 25 = o_gfI 10 526 := rfl
theorem lk_139_28 : (zPr L xs).1 139 28 = o_aload 0 1 := rfl
theorem lk_139_29 : (zPr L xs).1 139 29 = o_gfI 10 509 := rfl
theorem lk_139_32 : (zPr L xs).1 139 32 = o_xast 20 (fun x => x) := rfl
theorem lk_139_33 : (zPr L xs).1 139 33 = o_aload 0 1 := rfl
theorem lk_139_34 : (zPr L xs).1 139 34 = o_gfR 10 503 := rfl
theorem lk_139_37 : (zPr L xs).1 139 37 = o_aload 0 1 := rfl
theorem lk_139_38 : (zPr L xs).1 139 38 = o_gfI 10 526 := rfl
theorem lk_139_41 : (zPr L xs).1 139 41 = o_push (.int (1)) 1 := rfl
theorem lk_139_42 : (zPr L xs).1 139 42 = o_xast 20 (fun x => x) := rfl
theorem lk_139_43 : (zPr L xs).1 139 43 = o_aload 0 1 := rfl
theorem lk_139_44 : (zPr L xs).1 139 44 = o_gfR 10 504 := rfl
theorem lk_139_47 : (zPr L xs).1 139 47 = o_aload 0 1 := rfl
theorem lk_139_48 : (zPr L xs).1 139 48 = o_gfI 10 526 := rfl
theorem lk_139_51 : (zPr L xs).1 139 51 = o_push (.int (0)) 1 := rfl
theorem lk_139_52 : (zPr L xs).1 139 52 = o_xast 20 (fun x => x) := rfl
theorem lk_139_53 : (zPr L xs).1 139 53 = o_vret := rfl
theorem lk_140_0 : (zPr L xs).1 140 0 = o_aload 0 1 := rfl
theorem lk_140_1 : (zPr L xs).1 140 1 = o_gfR 10 511 := rfl
theorem lk_140_4 : (zPr L xs).1 140 4 = o_aload 0 1 := rfl
theorem lk_140_5 : (zPr L xs).1 140 5 = o_gfI 10 520 := rfl
theorem lk_140_8 : (zPr L xs).1 140 8 = o_push (.int (-1)) 1 := rfl
theorem lk_140_9 : (zPr L xs).1 140 9 = o_xast 20 (fun x => x) := rfl
theorem lk_140_10 : (zPr L xs).1 140 10 = o_aload 0 1 := rfl
theorem lk_140_11 : (zPr L xs).1 140 11 = o_gfR 10 513 := rfl
theorem lk_140_14 : (zPr L xs).1 140 14 = o_aload 0 1 := rfl
theorem lk_140_15 : (zPr L xs).1 140 15 = o_gfI 10 520 := rfl
theorem lk_140_18 : (zPr L xs).1 140 18 = o_push (.int (0)) 1 := rfl
theorem lk_140_19 : (zPr L xs).1 140 19 = o_xast 20 (fun x => x) := rfl
theorem lk_140_20 : (zPr L xs).1 140 20 = o_vret := rfl
theorem lk_141_0 : (zPr L xs).1 141 0 = o_iload 1 1 := rfl
theorem lk_141_1 : (zPr L xs).1 141 1 = o_push (.int (5)) 1 := rfl
theorem lk_141_2 : (zPr L xs).1 141 2 = o_icne 12 := rfl
theorem lk_141_5 : (zPr L xs).1 141 5 = o_aload 0 1 := rfl
theorem lk_141_6 : (zPr L xs).1 141 6 = o_cv 139 0 1 10 10 := rfl
theorem lk_141_9 : (zPr L xs).1 141 9 = o_goto 160 := rfl
theorem lk_141_12 : (zPr L xs).1 141 12 = o_iload 1 1 := rfl
theorem lk_141_13 : (zPr L xs).1 141 13 = o_push (.int (6)) 2 := rfl
theorem lk_141_15 : (zPr L xs).1 141 15 = o_icne 31 := rfl
theorem lk_141_18 : (zPr L xs).1 141 18 = o_aload 0 1 := rfl
theorem lk_141_19 : (zPr L xs).1 141 19 = o_gfR 10 501 := rfl
theorem lk_141_22 : (zPr L xs).1 141 22 = o_aload 0 1 := rfl
theorem lk_141_23 : (zPr L xs).1 141 23 = o_gfI 10 526 := rfl
theorem lk_141_26 : (zPr L xs).1 141 26 = o_push (.int (0)) 1 := rfl
theorem lk_141_27 : (zPr L xs).1 141 27 = o_xast 23 (vp_nar .boolean) := rfl
theorem lk_141_28 : (zPr L xs).1 141 28 = o_goto 160 := rfl
theorem lk_141_31 : (zPr L xs).1 141 31 = o_iload 1 1 := rfl
theorem lk_141_32 : (zPr L xs).1 141 32 = o_push (.int (9)) 2 := rfl
theorem lk_141_34 : (zPr L xs).1 141 34 = o_icne 44 := rfl
theorem lk_141_37 : (zPr L xs).1 141 37 = o_aload 0 1 := rfl
theorem lk_141_38 : (zPr L xs).1 141 38 = o_cv 136 0 3 10 10 := rfl
theorem lk_141_41 : (zPr L xs).1 141 41 = o_goto 160 := rfl
theorem lk_141_44 : (zPr L xs).1 141 44 = o_iload 1 1 := rfl
theorem lk_141_45 : (zPr L xs).1 141 45 = o_push (.int (7)) 2 := rfl
theorem lk_141_47 : (zPr L xs).1 141 47 = o_iceq 56 := rfl
theorem lk_141_50 : (zPr L xs).1 141 50 = o_iload 1 1 := rfl
theorem lk_141_51 : (zPr L xs).1 141 51 = o_push (.int (8)) 2 := rfl
theorem lk_141_53 : (zPr L xs).1 141 53 = o_icne 74 := rfl
theorem lk_141_56 : (zPr L xs).1 141 56 = o_aload 0 1 := rfl
theorem lk_141_57 : (zPr L xs).1 141 57 = o_iload 1 1 := rfl
theorem lk_141_58 : (zPr L xs).1 141 58 = o_push (.int (7)) 2 := rfl
theorem lk_141_60 : (zPr L xs).1 141 60 = o_icne 67 := rfl
theorem lk_141_63 : (zPr L xs).1 141 63 = o_push (.int (1)) 1 := rfl
theorem lk_141_64 : (zPr L xs).1 141 64 = o_goto 68 := rfl
theorem lk_141_67 : (zPr L xs).1 141 67 = o_push (.int (0)) 1 := rfl
theorem lk_141_68 : (zPr L xs).1 141 68 = o_cv 132 1 3 10 10 := rfl
theorem lk_141_71 : (zPr L xs).1 141 71 = o_goto 160 := rfl
theorem lk_141_74 : (zPr L xs).1 141 74 = o_iload 1 1 := rfl
theorem lk_141_75 : (zPr L xs).1 141 75 = o_push (.int (3)) 1 := rfl
theorem lk_141_76 : (zPr L xs).1 141 76 = o_icne 86 := rfl
theorem lk_141_79 : (zPr L xs).1 141 79 = o_aload 0 1 := rfl
theorem lk_141_80 : (zPr L xs).1 141 80 = o_cv 131 0 7 10 10 := rfl
theorem lk_141_83 : (zPr L xs).1 141 83 = o_goto 160 := rfl
theorem lk_141_86 : (zPr L xs).1 141 86 = o_iload 1 1 := rfl
theorem lk_141_87 : (zPr L xs).1 141 87 = o_push (.int (2)) 1 := rfl
theorem lk_141_88 : (zPr L xs).1 141 88 = o_icne 114 := rfl
theorem lk_141_91 : (zPr L xs).1 141 91 = o_aload 0 1 := rfl
theorem lk_141_92 : (zPr L xs).1 141 92 = o_gfR 10 512 := rfl
theorem lk_141_95 : (zPr L xs).1 141 95 = o_aload 0 1 := rfl
theorem lk_141_96 : (zPr L xs).1 141 96 = o_gfI 10 520 := rfl
theorem lk_141_99 : (zPr L xs).1 141 99 = o_xald 23 := rfl
theorem lk_141_100 : (zPr L xs).1 141 100 = o_ifeq 107 := rfl
theorem lk_141_103 : (zPr L xs).1 141 103 = o_aload 0 1 := rfl
theorem lk_141_104 : (zPr L xs).1 141 104 = o_cv 131 0 7 10 10 := rfl
theorem lk_141_107 : (zPr L xs).1 141 107 = o_aload 0 1 := rfl
theorem lk_141_108 : (zPr L xs).1 141 108 = o_cv 140 0 1 10 10 := rfl
theorem lk_141_111 : (zPr L xs).1 141 111 = o_goto 160 := rfl
theorem lk_141_114 : (zPr L xs).1 141 114 = o_iload 1 1 := rfl
theorem lk_141_115 : (zPr L xs).1 141 115 = o_push (.int (4)) 1 := rfl
theorem lk_141_116 : (zPr L xs).1 141 116 = o_icne 136 := rfl
theorem lk_141_119 : (zPr L xs).1 141 119 = o_aload 0 1 := rfl
theorem lk_141_120 : (zPr L xs).1 141 120 = o_gfR 10 510 := rfl
theorem lk_141_123 : (zPr L xs).1 141 123 = o_aload 0 1 := rfl
theorem lk_141_124 : (zPr L xs).1 141 124 = o_gfI 10 520 := rfl
theorem lk_141_127 : (zPr L xs).1 141 127 = o_push (.int (0)) 1 := rfl
theorem lk_141_128 : (zPr L xs).1 141 128 = o_xast 23 (vp_nar .boolean) := rfl
theorem lk_141_129 : (zPr L xs).1 141 129 = o_aload 0 1 := rfl
theorem lk_141_130 : (zPr L xs).1 141 130 = o_cv 140 0 1 10 10 := rfl
theorem lk_141_133 : (zPr L xs).1 141 133 = o_goto 160 := rfl
theorem lk_141_136 : (zPr L xs).1 141 136 = o_iload 1 1 := rfl
theorem lk_141_137 : (zPr L xs).1 141 137 = o_push (.int (13)) 2 := rfl
theorem lk_141_139 : (zPr L xs).1 141 139 = o_icne 149 := rfl
theorem lk_141_142 : (zPr L xs).1 141 142 = o_aload 0 1 := rfl
theorem lk_141_143 : (zPr L xs).1 141 143 = o_cv 137 0 2 10 10 := rfl
theorem lk_141_146 : (zPr L xs).1 141 146 = o_goto 160 := rfl
theorem lk_141_149 : (zPr L xs).1 141 149 = o_iload 1 1 := rfl
theorem lk_141_150 : (zPr L xs).1 141 150 = o_push (.int (9)) 2 := rfl
theorem lk_141_152 : (zPr L xs).1 141 152 = o_icle 160 := rfl
theorem lk_141_155 : (zPr L xs).1 141 155 = o_aload 0 1 := rfl
theorem lk_141_156 : (zPr L xs).1 141 156 = o_iload 1 1 := rfl
theorem lk_141_157 : (zPr L xs).1 141 157 = o_cv 138 1 4 10 10 := rfl
theorem lk_141_160 : (zPr L xs).1 141 160 = o_vret := rfl
theorem lk_142_0 : (zPr L xs).1 142 0 = o_push (.int (1)) 1 := rfl
theorem lk_142_1 : (zPr L xs).1 142 1 = o_istore 1 1 := rfl
theorem lk_142_2 : (zPr L xs).1 142 2 = o_iload 1 1 := rfl
theorem lk_142_3 : (zPr L xs).1 142 3 = o_aload 0 1 := rfl
theorem lk_142_4 : (zPr L xs).1 142 4 = o_gfR 10 513 := rfl
theorem lk_142_7 : (zPr L xs).1 142 7 = o_aload 0 1 := rfl
theorem lk_142_8 : (zPr L xs).1 142 8 = o_gfI 10 520 := rfl
theorem lk_142_11 : (zPr L xs).1 142 11 = o_xald 20 := rfl
theorem lk_142_12 : (zPr L xs).1 142 12 = o_icgt 154 := rfl
theorem lk_142_15 : (zPr L xs).1 142 15 = o_aload 0 1 := rfl
theorem lk_142_16 : (zPr L xs).1 142 16 = o_iload 1 1 := rfl
theorem lk_142_17 : (zPr L xs).1 142 17 = o_cv 109 1 4 10 10 := rfl
theorem lk_142_20 : (zPr L xs).1 142 20 = o_iflt 29 := rfl
theorem lk_142_23 : (zPr L xs).1 142 23 = o_iinc 1 (1) := rfl
theorem lk_142_26 : (zPr L xs).1 142 26 = o_goto 2 := rfl
theorem lk_142_29 : (zPr L xs).1 142 29 = o_aload 0 1 := rfl
theorem lk_142_30 : (zPr L xs).1 142 30 = o_iload 1 1 := rfl
theorem lk_142_31 : (zPr L xs).1 142 31 = o_push (.int (69)) 2 := rfl
theorem lk_142_33 : (zPr L xs).1 142 33 = o_push (.int (88)) 2 := rfl
theorem lk_142_35 : (zPr L xs).1 142 35 = o_push (.int (80)) 2 := rfl
theorem lk_142_37 : (zPr L xs).1 142 37 = o_push (.int (85)) 2 := rfl
theorem lk_142_39 : (zPr L xs).1 142 39 = o_push (.int (78)) 2 := rfl
theorem lk_142_41 : (zPr L xs).1 142 41 = o_push (.int (71)) 2 := rfl
theorem lk_142_43 : (zPr L xs).1 142 43 = o_push (.int (69)) 2 := rfl
theorem lk_142_45 : (zPr L xs).1 142 45 = o_cs 90 7 9 := rfl
theorem lk_142_48 : (zPr L xs).1 142 48 = o_cv 123 2 4 10 10 := rfl
theorem lk_142_51 : (zPr L xs).1 142 51 = o_aload 0 1 := rfl
theorem lk_142_52 : (zPr L xs).1 142 52 = o_push (.int (10)) 2 := rfl
theorem lk_142_54 : (zPr L xs).1 142 54 = o_cv 119 1 2 10 10 := rfl
theorem lk_142_57 : (zPr L xs).1 142 57 = o_iload 1 1 := rfl
theorem lk_142_58 : (zPr L xs).1 142 58 = o_istore 2 1 := rfl
theorem lk_142_59 : (zPr L xs).1 142 59 = o_iload 2 1 := rfl
theorem lk_142_60 : (zPr L xs).1 142 60 = o_aload 0 1 := rfl
theorem lk_142_61 : (zPr L xs).1 142 61 = o_gfR 10 513 := rfl
theorem lk_142_64 : (zPr L xs).1 142 64 = o_aload 0 1 := rfl
theorem lk_142_65 : (zPr L xs).1 142 65 = o_gfI 10 520 := rfl
theorem lk_142_68 : (zPr L xs).1 142 68 = o_xald 20 := rfl
theorem lk_142_69 : (zPr L xs).1 142 69 = o_icge 138 := rfl
theorem lk_142_72 : (zPr L xs).1 142 72 = o_aload 0 1 := rfl
theorem lk_142_73 : (zPr L xs).1 142 73 = o_gfR 10 514 := rfl
theorem lk_142_76 : (zPr L xs).1 142 76 = o_push (.int (40)) 2 := rfl
theorem lk_142_78 : (zPr L xs).1 142 78 = o_aload 0 1 := rfl
theorem lk_142_79 : (zPr L xs).1 142 79 = o_gfI 10 520 := rfl
theorem lk_142_82 : (zPr L xs).1 142 82 = o_iop (fun x y => x * y) := rfl
theorem lk_142_83 : (zPr L xs).1 142 83 = o_iload 2 1 := rfl
theorem lk_142_84 : (zPr L xs).1 142 84 = o_iop (fun x y => x + y) := rfl
theorem lk_142_85 : (zPr L xs).1 142 85 = o_push (.int (1)) 1 := rfl
theorem lk_142_86 : (zPr L xs).1 142 86 = o_iop (fun x y => x - y) := rfl
theorem lk_142_87 : (zPr L xs).1 142 87 = o_aload 0 1 := rfl
theorem lk_142_88 : (zPr L xs).1 142 88 = o_gfR 10 514 := rfl
theorem lk_142_91 : (zPr L xs).1 142 91 = o_push (.int (40)) 2 := rfl
theorem lk_142_93 : (zPr L xs).1 142 93 = o_aload 0 1 := rfl
theorem lk_142_94 : (zPr L xs).1 142 94 = o_gfI 10 520 := rfl
theorem lk_142_97 : (zPr L xs).1 142 97 = o_iop (fun x y => x * y) := rfl
theorem lk_142_98 : (zPr L xs).1 142 98 = o_iload 2 1 := rfl
theorem lk_142_99 : (zPr L xs).1 142 99 = o_iop (fun x y => x + y) := rfl
theorem lk_142_100 : (zPr L xs).1 142 100 = o_xald 20 := rfl
theorem lk_142_101 : (zPr L xs).1 142 101 = o_xast 20 (fun x => x) := rfl
theorem lk_142_102 : (zPr L xs).1 142 102 = o_aload 0 1 := rfl
theorem lk_142_103 : (zPr L xs).1 142 103 = o_gfR 10 515 := rfl
theorem lk_142_106 : (zPr L xs).1 142 106 = o_push (.int (40)) 2 := rfl
theorem lk_142_108 : (zPr L xs).1 142 108 = o_aload 0 1 := rfl
theorem lk_142_109 : (zPr L xs).1 142 109 = o_gfI 10 520 := rfl
theorem lk_142_112 : (zPr L xs).1 142 112 = o_iop (fun x y => x * y) := rfl
theorem lk_142_113 : (zPr L xs).1 142 113 = o_iload 2 1 := rfl
theorem lk_142_114 : (zPr L xs).1 142 114 = o_iop (fun x y => x + y) := rfl
theorem lk_142_115 : (zPr L xs).1 142 115 = o_push (.int (1)) 1 := rfl
theorem lk_142_116 : (zPr L xs).1 142 116 = o_iop (fun x y => x - y) := rfl
theorem lk_142_117 : (zPr L xs).1 142 117 = o_aload 0 1 := rfl
theorem lk_142_118 : (zPr L xs).1 142 118 = o_gfR 10 515 := rfl
theorem lk_142_121 : (zPr L xs).1 142 121 = o_push (.int (40)) 2 := rfl
theorem lk_142_123 : (zPr L xs).1 142 123 = o_aload 0 1 := rfl
theorem lk_142_124 : (zPr L xs).1 142 124 = o_gfI 10 520 := rfl
theorem lk_142_127 : (zPr L xs).1 142 127 = o_iop (fun x y => x * y) := rfl
theorem lk_142_128 : (zPr L xs).1 142 128 = o_iload 2 1 := rfl
theorem lk_142_129 : (zPr L xs).1 142 129 = o_iop (fun x y => x + y) := rfl
theorem lk_142_130 : (zPr L xs).1 142 130 = o_xald 20 := rfl
theorem lk_142_131 : (zPr L xs).1 142 131 = o_xast 20 (fun x => x) := rfl
theorem lk_142_132 : (zPr L xs).1 142 132 = o_iinc 2 (1) := rfl
theorem lk_142_135 : (zPr L xs).1 142 135 = o_goto 59 := rfl
theorem lk_142_138 : (zPr L xs).1 142 138 = o_aload 0 1 := rfl
theorem lk_142_139 : (zPr L xs).1 142 139 = o_gfR 10 513 := rfl
theorem lk_142_142 : (zPr L xs).1 142 142 = o_aload 0 1 := rfl
theorem lk_142_143 : (zPr L xs).1 142 143 = o_gfI 10 520 := rfl
theorem lk_142_146 : (zPr L xs).1 142 146 = o_dup2 := rfl
theorem lk_142_147 : (zPr L xs).1 142 147 = o_xald 20 := rfl
theorem lk_142_148 : (zPr L xs).1 142 148 = o_push (.int (1)) 1 := rfl
theorem lk_142_149 : (zPr L xs).1 142 149 = o_iop (fun x y => x - y) := rfl
theorem lk_142_150 : (zPr L xs).1 142 150 = o_xast 20 (fun x => x) := rfl
theorem lk_142_151 : (zPr L xs).1 142 151 = o_goto 2 := rfl
theorem lk_142_154 : (zPr L xs).1 142 154 = o_vret := rfl
theorem lk_143_0 : (zPr L xs).1 143 0 = o_push (.int (0)) 1 := rfl
theorem lk_143_1 : (zPr L xs).1 143 1 = o_istore 2 1 := rfl
theorem lk_143_2 : (zPr L xs).1 143 2 = o_push (.int (0)) 1 := rfl
theorem lk_143_3 : (zPr L xs).1 143 3 = o_istore 3 1 := rfl
theorem lk_143_4 : (zPr L xs).1 143 4 = o_iload 3 1 := rfl
theorem lk_143_5 : (zPr L xs).1 143 5 = o_aload 0 1 := rfl
theorem lk_143_6 : (zPr L xs).1 143 6 = o_gfR 10 513 := rfl
theorem lk_143_9 : (zPr L xs).1 143 9 = o_aload 0 1 := rfl
theorem lk_143_10 : (zPr L xs).1 143 10 = o_gfI 10 520 := rfl
theorem lk_143_13 : (zPr L xs).1 143 13 = o_xald 20 := rfl
theorem lk_143_14 : (zPr L xs).1 143 14 = o_icge 51 := rfl
theorem lk_143_17 : (zPr L xs).1 143 17 = o_iload 2 1 := rfl
theorem lk_143_18 : (zPr L xs).1 143 18 = o_ifne 39 := rfl
theorem lk_143_21 : (zPr L xs).1 143 21 = o_aload 0 1 := rfl
theorem lk_143_22 : (zPr L xs).1 143 22 = o_gfR 10 514 := rfl
theorem lk_143_25 : (zPr L xs).1 143 25 = o_push (.int (40)) 2 := rfl
theorem lk_143_27 : (zPr L xs).1 143 27 = o_aload 0 1 := rfl
theorem lk_143_28 : (zPr L xs).1 143 28 = o_gfI 10 520 := rfl
theorem lk_143_31 : (zPr L xs).1 143 31 = o_iop (fun x y => x * y) := rfl
theorem lk_143_32 : (zPr L xs).1 143 32 = o_iload 3 1 := rfl
theorem lk_143_33 : (zPr L xs).1 143 33 = o_iop (fun x y => x + y) := rfl
theorem lk_143_34 : (zPr L xs).1 143 34 = o_xald 20 := rfl
theorem lk_143_35 : (zPr L xs).1 143 35 = o_iload 1 1 := rfl
theorem lk_143_36 : (zPr L xs).1 143 36 = o_icne 43 := rfl
theorem lk_143_39 : (zPr L xs).1 143 39 = o_push (.int (1)) 1 := rfl
theorem lk_143_40 : (zPr L xs).1 143 40 = o_goto 44 := rfl
theorem lk_143_43 : (zPr L xs).1 143 43 = o_push (.int (0)) 1 := rfl
theorem lk_143_44 : (zPr L xs).1 143 44 = o_istore 2 1 := rfl
theorem lk_143_45 : (zPr L xs).1 143 45 = o_iinc 3 (1) := rfl
theorem lk_143_48 : (zPr L xs).1 143 48 = o_goto 4 := rfl
theorem lk_143_51 : (zPr L xs).1 143 51 = o_iload 2 1 := rfl
theorem lk_143_52 : (zPr L xs).1 143 52 = o_iret (fun x => x &&& 1) := rfl
theorem lk_144_0 : (zPr L xs).1 144 0 = o_aload 0 1 := rfl
theorem lk_144_1 : (zPr L xs).1 144 1 = o_gfI 10 525 := rfl
theorem lk_144_4 : (zPr L xs).1 144 4 = o_ifne 29 := rfl
theorem lk_144_7 : (zPr L xs).1 144 7 = o_iload 1 1 := rfl
theorem lk_144_8 : (zPr L xs).1 144 8 = o_push (.int (11)) 2 := rfl
theorem lk_144_10 : (zPr L xs).1 144 10 = o_iceq 25 := rfl
theorem lk_144_13 : (zPr L xs).1 144 13 = o_iload 1 1 := rfl
theorem lk_144_14 : (zPr L xs).1 144 14 = o_push (.int (10)) 2 := rfl
theorem lk_144_16 : (zPr L xs).1 144 16 = o_iceq 25 := rfl
theorem lk_144_19 : (zPr L xs).1 144 19 = o_iload 1 1 := rfl
theorem lk_144_20 : (zPr L xs).1 144 20 = o_push (.int (13)) 2 := rfl
theorem lk_144_22 : (zPr L xs).1 144 22 = o_icne 29 := rfl
theorem lk_144_25 : (zPr L xs).1 144 25 = o_push (.int (1)) 1 := rfl
theorem lk_144_26 : (zPr L xs).1 144 26 = o_goto 30 := rfl
theorem lk_144_29 : (zPr L xs).1 144 29 = o_push (.int (0)) 1 := rfl
theorem lk_144_30 : (zPr L xs).1 144 30 = o_istore 2 1 := rfl
theorem lk_144_31 : (zPr L xs).1 144 31 = o_iload 2 1 := rfl
theorem lk_144_32 : (zPr L xs).1 144 32 = o_ifne 39 := rfl
theorem lk_144_35 : (zPr L xs).1 144 35 = o_aload 0 1 := rfl
theorem lk_144_36 : (zPr L xs).1 144 36 = o_cv 142 0 3 10 10 := rfl
theorem lk_144_39 : (zPr L xs).1 144 39 = o_aload 0 1 := rfl
theorem lk_144_40 : (zPr L xs).1 144 40 = o_gfR 10 511 := rfl
theorem lk_144_43 : (zPr L xs).1 144 43 = o_aload 0 1 := rfl
theorem lk_144_44 : (zPr L xs).1 144 44 = o_gfI 10 520 := rfl
theorem lk_144_47 : (zPr L xs).1 144 47 = o_xald 20 := rfl
theorem lk_144_48 : (zPr L xs).1 144 48 = o_istore 3 1 := rfl
theorem lk_144_49 : (zPr L xs).1 144 49 = o_aload 0 1 := rfl
theorem lk_144_50 : (zPr L xs).1 144 50 = o_gfR 10 513 := rfl
theorem lk_144_53 : (zPr L xs).1 144 53 = o_aload 0 1 := rfl
theorem lk_144_54 : (zPr L xs).1 144 54 = o_gfI 10 520 := rfl
theorem lk_144_57 : (zPr L xs).1 144 57 = o_xald 20 := rfl
theorem lk_144_58 : (zPr L xs).1 144 58 = o_istore 4 2 := rfl
theorem lk_144_60 : (zPr L xs).1 144 60 = o_push (.int (10)) 2 := rfl
theorem lk_144_62 : (zPr L xs).1 144 62 = o_iload 3 1 := rfl
theorem lk_144_63 : (zPr L xs).1 144 63 = o_iop (fun x y => x * y) := rfl
theorem lk_144_64 : (zPr L xs).1 144 64 = o_istore 5 2 := rfl
theorem lk_144_66 : (zPr L xs).1 144 66 = o_iload 5 2 := rfl
theorem lk_144_68 : (zPr L xs).1 144 68 = o_push (.int (10)) 2 := rfl
theorem lk_144_70 : (zPr L xs).1 144 70 = o_iload 3 1 := rfl
theorem lk_144_71 : (zPr L xs).1 144 71 = o_iop (fun x y => x * y) := rfl
theorem lk_144_72 : (zPr L xs).1 144 72 = o_aload 0 1 := rfl
theorem lk_144_73 : (zPr L xs).1 144 73 = o_gfR 10 504 := rfl
theorem lk_144_76 : (zPr L xs).1 144 76 = o_iload 3 1 := rfl
theorem lk_144_77 : (zPr L xs).1 144 77 = o_xald 20 := rfl
theorem lk_144_78 : (zPr L xs).1 144 78 = o_iop (fun x y => x + y) := rfl
theorem lk_144_79 : (zPr L xs).1 144 79 = o_icge 187 := rfl
theorem lk_144_82 : (zPr L xs).1 144 82 = o_aload 0 1 := rfl
theorem lk_144_83 : (zPr L xs).1 144 83 = o_gfR 10 513 := rfl
theorem lk_144_86 : (zPr L xs).1 144 86 = o_aload 0 1 := rfl
theorem lk_144_87 : (zPr L xs).1 144 87 = o_gfI 10 520 := rfl
theorem lk_144_90 : (zPr L xs).1 144 90 = o_xald 20 := rfl
theorem lk_144_91 : (zPr L xs).1 144 91 = o_push (.int (40)) 2 := rfl
theorem lk_144_93 : (zPr L xs).1 144 93 = o_icge 181 := rfl
theorem lk_144_96 : (zPr L xs).1 144 96 = o_aload 0 1 := rfl
theorem lk_144_97 : (zPr L xs).1 144 97 = o_aload 0 1 := rfl
theorem lk_144_98 : (zPr L xs).1 144 98 = o_gfR 10 505 := rfl
theorem lk_144_101 : (zPr L xs).1 144 101 = o_iload 5 2 := rfl
theorem lk_144_103 : (zPr L xs).1 144 103 = o_xald 20 := rfl
theorem lk_144_104 : (zPr L xs).1 144 104 = o_cv 143 1 4 10 10 := rfl
theorem lk_144_107 : (zPr L xs).1 144 107 = o_ifne 181 := rfl
theorem lk_144_110 : (zPr L xs).1 144 110 = o_aload 0 1 := rfl
theorem lk_144_111 : (zPr L xs).1 144 111 = o_gfR 10 514 := rfl
theorem lk_144_114 : (zPr L xs).1 144 114 = o_push (.int (40)) 2 := rfl
theorem lk_144_116 : (zPr L xs).1 144 116 = o_aload 0 1 := rfl
theorem lk_144_117 : (zPr L xs).1 144 117 = o_gfI 10 520 := rfl
theorem lk_144_120 : (zPr L xs).1 144 120 = o_iop (fun x y => x * y) := rfl
theorem lk_144_121 : (zPr L xs).1 144 121 = o_aload 0 1 := rfl
theorem lk_144_122 : (zPr L xs).1 144 122 = o_gfR 10 513 := rfl
theorem lk_144_125 : (zPr L xs).1 144 125 = o_aload 0 1 := rfl
theorem lk_144_126 : (zPr L xs).1 144 126 = o_gfI 10 520 := rfl
theorem lk_144_129 : (zPr L xs).1 144 129 = o_xald 20 := rfl
theorem lk_144_130 : (zPr L xs).1 144 130 = o_iop (fun x y => x + y) := rfl
theorem lk_144_131 : (zPr L xs).1 144 131 = o_aload 0 1 := rfl
theorem lk_144_132 : (zPr L xs).1 144 132 = o_gfR 10 505 := rfl
theorem lk_144_135 : (zPr L xs).1 144 135 = o_iload 5 2 := rfl
theorem lk_144_137 : (zPr L xs).1 144 137 = o_xald 20 := rfl
theorem lk_144_138 : (zPr L xs).1 144 138 = o_xast 20 (fun x => x) := rfl
theorem lk_144_139 : (zPr L xs).1 144 139 = o_aload 0 1 := rfl
theorem lk_144_140 : (zPr L xs).1 144 140 = o_gfR 10 515 := rfl
theorem lk_144_143 : (zPr L xs).1 144 143 = o_push (.int (40)) 2 := rfl
theorem lk_144_145 : (zPr L xs).1 144 145 = o_aload 0 1 := rfl
theorem lk_144_146 : (zPr L xs).1 144 146 = o_gfI 10 520 := rfl
theorem lk_144_149 : (zPr L xs).1 144 149 = o_iop (fun x y => x * y) := rfl
theorem lk_144_150 : (zPr L xs).1 144 150 = o_aload 0 1 := rfl
theorem lk_144_151 : (zPr L xs).1 144 151 = o_gfR 10 513 := rfl
theorem lk_144_154 : (zPr L xs).1 144 154 = o_aload 0 1 := rfl
theorem lk_144_155 : (zPr L xs).1 144 155 = o_gfI 10 520 := rfl
theorem lk_144_158 : (zPr L xs).1 144 158 = o_xald 20 := rfl
theorem lk_144_159 : (zPr L xs).1 144 159 = o_iop (fun x y => x + y) := rfl
theorem lk_144_160 : (zPr L xs).1 144 160 = o_aload 0 1 := rfl
theorem lk_144_161 : (zPr L xs).1 144 161 = o_gfR 10 506 := rfl
theorem lk_144_164 : (zPr L xs).1 144 164 = o_iload 5 2 := rfl
theorem lk_144_166 : (zPr L xs).1 144 166 = o_xald 20 := rfl
theorem lk_144_167 : (zPr L xs).1 144 167 = o_xast 20 (fun x => x) := rfl
theorem lk_144_168 : (zPr L xs).1 144 168 = o_aload 0 1 := rfl
theorem lk_144_169 : (zPr L xs).1 144 169 = o_gfR 10 513 := rfl
theorem lk_144_172 : (zPr L xs).1 144 172 = o_aload 0 1 := rfl
theorem lk_144_173 : (zPr L xs).1 144 173 = o_gfI 10 520 := rfl
theorem lk_144_176 : (zPr L xs).1 144 176 = o_dup2 := rfl
theorem lk_144_177 : (zPr L xs).1 144 177 = o_xald 20 := rfl
theorem lk_144_178 : (zPr L xs).1 144 178 = o_push (.int (1)) 1 := rfl
theorem lk_144_179 : (zPr L xs).1 144 179 = o_iop (fun x y => x + y) := rfl
theorem lk_144_180 : (zPr L xs).1 144 180 = o_xast 20 (fun x => x) := rfl
theorem lk_144_181 : (zPr L xs).1 144 181 = o_iinc 5 (1) := rfl
theorem lk_144_184 : (zPr L xs).1 144 184 = o_goto 66 := rfl
theorem lk_144_187 : (zPr L xs).1 144 187 = o_aload 0 1 := rfl
theorem lk_144_188 : (zPr L xs).1 144 188 = o_gfR 10 513 := rfl
theorem lk_144_191 : (zPr L xs).1 144 191 = o_aload 0 1 := rfl
theorem lk_144_192 : (zPr L xs).1 144 192 = o_gfI 10 520 := rfl
theorem lk_144_195 : (zPr L xs).1 144 195 = o_xald 20 := rfl
theorem lk_144_196 : (zPr L xs).1 144 196 = o_iload 4 2 := rfl
theorem lk_144_198 : (zPr L xs).1 144 198 = o_icle 236 := rfl
theorem lk_144_201 : (zPr L xs).1 144 201 = o_aload 0 1 := rfl
theorem lk_144_202 : (zPr L xs).1 144 202 = o_aload 0 1 := rfl
theorem lk_144_203 : (zPr L xs).1 144 203 = o_gfR 10 513 := rfl
theorem lk_144_206 : (zPr L xs).1 144 206 = o_aload 0 1 := rfl
theorem lk_144_207 : (zPr L xs).1 144 207 = o_gfI 10 520 := rfl
theorem lk_144_210 : (zPr L xs).1 144 210 = o_xald 20 := rfl
theorem lk_144_211 : (zPr L xs).1 144 211 = o_push (.int (69)) 2 := rfl
theorem lk_144_213 : (zPr L xs).1 144 213 = o_push (.int (88)) 2 := rfl
theorem lk_144_215 : (zPr L xs).1 144 215 = o_push (.int (73)) 2 := rfl
theorem lk_144_217 : (zPr L xs).1 144 217 = o_push (.int (83)) 2 := rfl
theorem lk_144_219 : (zPr L xs).1 144 219 = o_push (.int (84)) 2 := rfl
theorem lk_144_221 : (zPr L xs).1 144 221 = o_push (.int (83)) 2 := rfl
theorem lk_144_223 : (zPr L xs).1 144 223 = o_push (.int (0)) 1 := rfl
theorem lk_144_224 : (zPr L xs).1 144 224 = o_cs 90 7 9 := rfl
theorem lk_144_227 : (zPr L xs).1 144 227 = o_cv 123 2 4 10 10 := rfl
theorem lk_144_230 : (zPr L xs).1 144 230 = o_aload 0 1 := rfl
theorem lk_144_231 : (zPr L xs).1 144 231 = o_push (.int (10)) 2 := rfl
theorem lk_144_233 : (zPr L xs).1 144 233 = o_cv 119 1 2 10 10 := rfl
theorem lk_144_236 : (zPr L xs).1 144 236 = o_push (.int (1)) 1 := rfl
theorem lk_144_237 : (zPr L xs).1 144 237 = o_istore 5 2 := rfl
theorem lk_144_239 : (zPr L xs).1 144 239 = o_iload 5 2 := rfl
theorem lk_144_241 : (zPr L xs).1 144 241 = o_aload 0 1 := rfl
theorem lk_144_242 : (zPr L xs).1 144 242 = o_gfR 10 513 := rfl
theorem lk_144_245 : (zPr L xs).1 144 245 = o_aload 0 1 := rfl
theorem lk_144_246 : (zPr L xs).1 144 246 = o_gfI 10 520 := rfl
theorem lk_144_249 : (zPr L xs).1 144 249 = o_xald 20 := rfl
theorem lk_144_250 : (zPr L xs).1 144 250 = o_icgt 312 := rfl
theorem lk_144_253 : (zPr L xs).1 144 253 = o_aload 0 1 := rfl
theorem lk_144_254 : (zPr L xs).1 144 254 = o_iload 5 2 := rfl
theorem lk_144_256 : (zPr L xs).1 144 256 = o_cv 109 1 4 10 10 := rfl
theorem lk_144_259 : (zPr L xs).1 144 259 = o_istore 6 2 := rfl
theorem lk_144_261 : (zPr L xs).1 144 261 = o_iload 6 2 := rfl
theorem lk_144_263 : (zPr L xs).1 144 263 = o_iflt 306 := rfl
theorem lk_144_266 : (zPr L xs).1 144 266 = o_aload 0 1 := rfl
theorem lk_144_267 : (zPr L xs).1 144 267 = o_gfR 10 506 := rfl
theorem lk_144_270 : (zPr L xs).1 144 270 = o_iload 6 2 := rfl
theorem lk_144_272 : (zPr L xs).1 144 272 = o_xald 20 := rfl
theorem lk_144_273 : (zPr L xs).1 144 273 = o_aload 0 1 := rfl
theorem lk_144_274 : (zPr L xs).1 144 274 = o_gfR 10 515 := rfl
theorem lk_144_277 : (zPr L xs).1 144 277 = o_push (.int (40)) 2 := rfl
theorem lk_144_279 : (zPr L xs).1 144 279 = o_aload 0 1 := rfl
theorem lk_144_280 : (zPr L xs).1 144 280 = o_gfI 10 520 := rfl
theorem lk_144_283 : (zPr L xs).1 144 283 = o_iop (fun x y => x * y) := rfl
theorem lk_144_284 : (zPr L xs).1 144 284 = o_iload 5 2 := rfl
theorem lk_144_286 : (zPr L xs).1 144 286 = o_iop (fun x y => x + y) := rfl
theorem lk_144_287 : (zPr L xs).1 144 287 = o_push (.int (1)) 1 := rfl
theorem lk_144_288 : (zPr L xs).1 144 288 = o_iop (fun x y => x - y) := rfl
theorem lk_144_289 : (zPr L xs).1 144 289 = o_xald 20 := rfl
theorem lk_144_290 : (zPr L xs).1 144 290 = o_iceq 306 := rfl
theorem lk_144_293 : (zPr L xs).1 144 293 = o_aload 0 1 := rfl
theorem lk_144_294 : (zPr L xs).1 144 294 = o_iload 5 2 := rfl
theorem lk_144_296 : (zPr L xs).1 144 296 = o_aload 0 1 := rfl
theorem lk_144_297 : (zPr L xs).1 144 297 = o_gfR 10 506 := rfl
theorem lk_144_300 : (zPr L xs).1 144 300 = o_iload 6 2 := rfl
theorem lk_144_302 : (zPr L xs).1 144 302 = o_xald 20 := rfl
theorem lk_144_303 : (zPr L xs).1 144 303 = o_cv 124 2 3 10 10 := rfl
theorem lk_144_306 : (zPr L xs).1 144 306 = o_iinc 5 (1) := rfl
theorem lk_144_309 : (zPr L xs).1 144 309 = o_goto 239 := rfl
theorem lk_144_312 : (zPr L xs).1 144 312 = o_vret := rfl
theorem lk_145_0 : (zPr L xs).1 145 0 = o_aload 0 1 := rfl
theorem lk_145_1 : (zPr L xs).1 145 1 = o_iload 1 1 := rfl
theorem lk_145_2 : (zPr L xs).1 145 2 = o_cs 88 1 1 := rfl
theorem lk_145_5 : (zPr L xs).1 145 5 = o_ifne 12 := rfl
theorem lk_145_8 : (zPr L xs).1 145 8 = o_push (.int (1)) 1 := rfl
theorem lk_145_9 : (zPr L xs).1 145 9 = o_goto 26 := rfl
theorem lk_145_12 : (zPr L xs).1 145 12 = o_aload 0 1 := rfl
theorem lk_145_13 : (zPr L xs).1 145 13 = o_gfR 10 510 := rfl
theorem lk_145_16 : (zPr L xs).1 145 16 = o_iload 1 1 := rfl
theorem lk_145_17 : (zPr L xs).1 145 17 = o_xald 23 := rfl
theorem lk_145_18 : (zPr L xs).1 145 18 = o_ifne 25 := rfl
theorem lk_145_21 : (zPr L xs).1 145 21 = o_push (.int (2)) 1 := rfl
theorem lk_145_22 : (zPr L xs).1 145 22 = o_goto 26 := rfl
theorem lk_145_25 : (zPr L xs).1 145 25 = o_push (.int (0)) 1 := rfl
theorem lk_145_26 : (zPr L xs).1 145 26 = o_pfI 10 500 (fun x => x) := rfl
theorem lk_145_29 : (zPr L xs).1 145 29 = o_aload 0 1 := rfl
theorem lk_145_30 : (zPr L xs).1 145 30 = o_gfI 10 500 := rfl
theorem lk_145_33 : (zPr L xs).1 145 33 = o_ifle 38 := rfl
theorem lk_145_36 : (zPr L xs).1 145 36 = o_push (.int (0)) 1 := rfl
theorem lk_145_37 : (zPr L xs).1 145 37 = o_iret (fun x => x &&& 1) := rfl
theorem lk_145_38 : (zPr L xs).1 145 38 = o_push (.int (0)) 1 := rfl
theorem lk_145_39 : (zPr L xs).1 145 39 = o_istore 3 1 := rfl
theorem lk_145_40 : (zPr L xs).1 145 40 = o_push (.int (1)) 1 := rfl
theorem lk_145_41 : (zPr L xs).1 145 41 = o_istore 4 2 := rfl
theorem lk_145_43 : (zPr L xs).1 145 43 = o_push (.int (0)) 1 := rfl
theorem lk_145_44 : (zPr L xs).1 145 44 = o_istore 5 2 := rfl
theorem lk_145_46 : (zPr L xs).1 145 46 = o_iload 5 2 := rfl
theorem lk_145_48 : (zPr L xs).1 145 48 = o_push (.int (4)) 1 := rfl
theorem lk_145_49 : (zPr L xs).1 145 49 = o_icge 132 := rfl
theorem lk_145_52 : (zPr L xs).1 145 52 = o_iload 2 1 := rfl
theorem lk_145_53 : (zPr L xs).1 145 53 = o_push (.int (8)) 2 := rfl
theorem lk_145_55 : (zPr L xs).1 145 55 = o_iload 5 2 := rfl
theorem lk_145_57 : (zPr L xs).1 145 57 = o_iop (fun x y => x * y) := rfl
theorem lk_145_58 : (zPr L xs).1 145 58 = o_iop (fun x y => x >>> (y &&& 31)) := rfl
theorem lk_145_59 : (zPr L xs).1 145 59 = o_push (.int (255)) 3 := rfl
theorem lk_145_62 : (zPr L xs).1 145 62 = o_iop (fun x y => x &&& y) := rfl
theorem lk_145_63 : (zPr L xs).1 145 63 = o_istore 6 2 := rfl
theorem lk_145_65 : (zPr L xs).1 145 65 = o_iload 4 2 := rfl
theorem lk_145_67 : (zPr L xs).1 145 67 = o_ifeq 79 := rfl
theorem lk_145_70 : (zPr L xs).1 145 70 = o_iload 6 2 := rfl
theorem lk_145_72 : (zPr L xs).1 145 72 = o_ifeq 79 := rfl
theorem lk_145_75 : (zPr L xs).1 145 75 = o_push (.int (1)) 1 := rfl
theorem lk_145_76 : (zPr L xs).1 145 76 = o_goto 80 := rfl
theorem lk_145_79 : (zPr L xs).1 145 79 = o_push (.int (0)) 1 := rfl
theorem lk_145_80 : (zPr L xs).1 145 80 = o_istore 4 2 := rfl
theorem lk_145_82 : (zPr L xs).1 145 82 = o_aload 0 1 := rfl
theorem lk_145_83 : (zPr L xs).1 145 83 = o_iload 4 2 := rfl
theorem lk_145_85 : (zPr L xs).1 145 85 = o_ifeq 106 := rfl
theorem lk_145_88 : (zPr L xs).1 145 88 = o_iload 6 2 := rfl
theorem lk_145_90 : (zPr L xs).1 145 90 = o_push (.int (32)) 2 := rfl
theorem lk_145_92 : (zPr L xs).1 145 92 = o_iclt 102 := rfl
theorem lk_145_95 : (zPr L xs).1 145 95 = o_iload 6 2 := rfl
theorem lk_145_97 : (zPr L xs).1 145 97 = o_push (.int (126)) 2 := rfl
theorem lk_145_99 : (zPr L xs).1 145 99 = o_icle 106 := rfl
theorem lk_145_102 : (zPr L xs).1 145 102 = o_push (.int (3)) 1 := rfl
theorem lk_145_103 : (zPr L xs).1 145 103 = o_goto 110 := rfl
theorem lk_145_106 : (zPr L xs).1 145 106 = o_aload 0 1 := rfl
theorem lk_145_107 : (zPr L xs).1 145 107 = o_gfI 10 500 := rfl
theorem lk_145_110 : (zPr L xs).1 145 110 = o_pfI 10 500 (fun x => x) := rfl
theorem lk_145_113 : (zPr L xs).1 145 113 = o_iload 4 2 := rfl
theorem lk_145_115 : (zPr L xs).1 145 115 = o_ifeq 124 := rfl
theorem lk_145_118 : (zPr L xs).1 145 118 = o_iload 3 1 := rfl
theorem lk_145_119 : (zPr L xs).1 145 119 = o_push (.int (1)) 1 := rfl
theorem lk_145_120 : (zPr L xs).1 145 120 = o_iop (fun x y => x + y) := rfl
theorem lk_145_121 : (zPr L xs).1 145 121 = o_goto 125 := rfl
theorem lk_145_124 : (zPr L xs).1 145 124 = o_iload 3 1 := rfl
theorem lk_145_125 : (zPr L xs).1 145 125 = o_istore 3 1 := rfl
theorem lk_145_126 : (zPr L xs).1 145 126 = o_iinc 5 (1) := rfl
theorem lk_145_129 : (zPr L xs).1 145 129 = o_goto 46 := rfl
theorem lk_145_132 : (zPr L xs).1 145 132 = o_aload 0 1 := rfl
theorem lk_145_133 : (zPr L xs).1 145 133 = o_gfI 10 500 := rfl
theorem lk_145_136 : (zPr L xs).1 145 136 = o_ifgt 152 := rfl
theorem lk_145_139 : (zPr L xs).1 145 139 = o_aload 0 1 := rfl
theorem lk_145_140 : (zPr L xs).1 145 140 = o_gfR 10 517 := rfl
theorem lk_145_143 : (zPr L xs).1 145 143 = o_iload 1 1 := rfl
theorem lk_145_144 : (zPr L xs).1 145 144 = o_xald 20 := rfl
theorem lk_145_145 : (zPr L xs).1 145 145 = o_iload 3 1 := rfl
theorem lk_145_146 : (zPr L xs).1 145 146 = o_iop (fun x y => x + y) := rfl
theorem lk_145_147 : (zPr L xs).1 145 147 = o_push (.int (48)) 2 := rfl
theorem lk_145_149 : (zPr L xs).1 145 149 = o_icle 154 := rfl
theorem lk_145_152 : (zPr L xs).1 145 152 = o_push (.int (0)) 1 := rfl
theorem lk_145_153 : (zPr L xs).1 145 153 = o_iret (fun x => x &&& 1) := rfl
theorem lk_145_154 : (zPr L xs).1 145 154 = o_push (.int (0)) 1 := rfl
theorem lk_145_155 : (zPr L xs).1 145 155 = o_istore 5 2 := rfl
theorem lk_145_157 : (zPr L xs).1 145 157 = o_iload 5 2 := rfl
theorem lk_145_159 : (zPr L xs).1 145 159 = o_iload 3 1 := rfl
theorem lk_145_160 : (zPr L xs).1 145 160 = o_icge 206 := rfl
theorem lk_145_163 : (zPr L xs).1 145 163 = o_aload 0 1 := rfl
theorem lk_145_164 : (zPr L xs).1 145 164 = o_gfR 10 516 := rfl
theorem lk_145_167 : (zPr L xs).1 145 167 = o_push (.int (48)) 2 := rfl
theorem lk_145_169 : (zPr L xs).1 145 169 = o_iload 1 1 := rfl
theorem lk_145_170 : (zPr L xs).1 145 170 = o_iop (fun x y => x * y) := rfl
theorem lk_145_171 : (zPr L xs).1 145 171 = o_aload 0 1 := rfl
theorem lk_145_172 : (zPr L xs).1 145 172 = o_gfR 10 517 := rfl
theorem lk_145_175 : (zPr L xs).1 145 175 = o_iload 1 1 := rfl
theorem lk_145_176 : (zPr L xs).1 145 176 = o_xald 20 := rfl
theorem lk_145_177 : (zPr L xs).1 145 177 = o_iop (fun x y => x + y) := rfl
theorem lk_145_178 : (zPr L xs).1 145 178 = o_iload 2 1 := rfl
theorem lk_145_179 : (zPr L xs).1 145 179 = o_push (.int (8)) 2 := rfl
theorem lk_145_181 : (zPr L xs).1 145 181 = o_iload 5 2 := rfl
theorem lk_145_183 : (zPr L xs).1 145 183 = o_iop (fun x y => x * y) := rfl
theorem lk_145_184 : (zPr L xs).1 145 184 = o_iop (fun x y => x >>> (y &&& 31)) := rfl
theorem lk_145_185 : (zPr L xs).1 145 185 = o_push (.int (255)) 3 := rfl
theorem lk_145_188 : (zPr L xs).1 145 188 = o_iop (fun x y => x &&& y) := rfl
theorem lk_145_189 : (zPr L xs).1 145 189 = o_xast 20 (fun x => x) := rfl
theorem lk_145_190 : (zPr L xs).1 145 190 = o_aload 0 1 := rfl
theorem lk_145_191 : (zPr L xs).1 145 191 = o_gfR 10 517 := rfl
theorem lk_145_194 : (zPr L xs).1 145 194 = o_iload 1 1 := rfl
theorem lk_145_195 : (zPr L xs).1 145 195 = o_dup2 := rfl
theorem lk_145_196 : (zPr L xs).1 145 196 = o_xald 20 := rfl
theorem lk_145_197 : (zPr L xs).1 145 197 = o_push (.int (1)) 1 := rfl
theorem lk_145_198 : (zPr L xs).1 145 198 = o_iop (fun x y => x + y) := rfl
theorem lk_145_199 : (zPr L xs).1 145 199 = o_xast 20 (fun x => x) := rfl
theorem lk_145_200 : (zPr L xs).1 145 200 = o_iinc 5 (1) := rfl
theorem lk_145_203 : (zPr L xs).1 145 203 = o_goto 157 := rfl
theorem lk_145_206 : (zPr L xs).1 145 206 = o_push (.int (1)) 1 := rfl
theorem lk_145_207 : (zPr L xs).1 145 207 = o_iret (fun x => x &&& 1) := rfl
theorem lk_146_0 : (zPr L xs).1 146 0 = o_aload 0 1 := rfl
theorem lk_146_1 : (zPr L xs).1 146 1 = o_iload 1 1 := rfl
theorem lk_146_2 : (zPr L xs).1 146 2 = o_cs 88 1 1 := rfl
theorem lk_146_5 : (zPr L xs).1 146 5 = o_ifne 12 := rfl
theorem lk_146_8 : (zPr L xs).1 146 8 = o_push (.int (1)) 1 := rfl
theorem lk_146_9 : (zPr L xs).1 146 9 = o_goto 26 := rfl
theorem lk_146_12 : (zPr L xs).1 146 12 = o_aload 0 1 := rfl
theorem lk_146_13 : (zPr L xs).1 146 13 = o_gfR 10 510 := rfl
theorem lk_146_16 : (zPr L xs).1 146 16 = o_iload 1 1 := rfl
theorem lk_146_17 : (zPr L xs).1 146 17 = o_xald 23 := rfl
theorem lk_146_18 : (zPr L xs).1 146 18 = o_ifne 25 := rfl
theorem lk_146_21 : (zPr L xs).1 146 21 = o_push (.int (2)) 1 := rfl
theorem lk_146_22 : (zPr L xs).1 146 22 = o_goto 26 := rfl
theorem lk_146_25 : (zPr L xs).1 146 25 = o_push (.int (0)) 1 := rfl
theorem lk_146_26 : (zPr L xs).1 146 26 = o_pfI 10 500 (fun x => x) := rfl
theorem lk_146_29 : (zPr L xs).1 146 29 = o_aload 0 1 := rfl
theorem lk_146_30 : (zPr L xs).1 146 30 = o_gfI 10 500 := rfl
theorem lk_146_33 : (zPr L xs).1 146 33 = o_ifle 38 := rfl
theorem lk_146_36 : (zPr L xs).1 146 36 = o_push (.int (0)) 1 := rfl
theorem lk_146_37 : (zPr L xs).1 146 37 = o_iret (fun x => x) := rfl
theorem lk_146_38 : (zPr L xs).1 146 38 = o_aload 0 1 := rfl
theorem lk_146_39 : (zPr L xs).1 146 39 = o_iload 1 1 := rfl
theorem lk_146_40 : (zPr L xs).1 146 40 = o_pfI 10 520 (fun x => x) := rfl
theorem lk_146_43 : (zPr L xs).1 146 43 = o_aload 0 1 := rfl
theorem lk_146_44 : (zPr L xs).1 146 44 = o_cv 118 0 4 10 10 := rfl
theorem lk_146_47 : (zPr L xs).1 146 47 = o_istore 2 1 := rfl
theorem lk_146_48 : (zPr L xs).1 146 48 = o_iload 2 1 := rfl
theorem lk_146_49 : (zPr L xs).1 146 49 = o_ifne 69 := rfl
theorem lk_146_52 : (zPr L xs).1 146 52 = o_aload 0 1 := rfl
theorem lk_146_53 : (zPr L xs).1 146 53 = o_gfR 10 517 := rfl
theorem lk_146_56 : (zPr L xs).1 146 56 = o_aload 0 1 := rfl
theorem lk_146_57 : (zPr L xs).1 146 57 = o_gfI 10 520 := rfl
theorem lk_146_60 : (zPr L xs).1 146 60 = o_push (.int (0)) 1 := rfl
theorem lk_146_61 : (zPr L xs).1 146 61 = o_xast 20 (fun x => x) := rfl
theorem lk_146_62 : (zPr L xs).1 146 62 = o_aload 0 1 := rfl
theorem lk_146_63 : (zPr L xs).1 146 63 = o_push (.int (3)) 1 := rfl
theorem lk_146_64 : (zPr L xs).1 146 64 = o_pfI 10 500 (fun x => x) := rfl
theorem lk_146_67 : (zPr L xs).1 146 67 = o_push (.int (0)) 1 := rfl
theorem lk_146_68 : (zPr L xs).1 146 68 = o_iret (fun x => x) := rfl
theorem lk_146_69 : (zPr L xs).1 146 69 = o_aload 0 1 := rfl
theorem lk_146_70 : (zPr L xs).1 146 70 = o_iload 2 1 := rfl
theorem lk_146_71 : (zPr L xs).1 146 71 = o_cv 129 1 4 10 10 := rfl
theorem lk_146_74 : (zPr L xs).1 146 74 = o_istore 3 1 := rfl
theorem lk_146_75 : (zPr L xs).1 146 75 = o_aload 0 1 := rfl
theorem lk_146_76 : (zPr L xs).1 146 76 = o_gfR 10 519 := rfl
theorem lk_146_79 : (zPr L xs).1 146 79 = o_aload 0 1 := rfl
theorem lk_146_80 : (zPr L xs).1 146 80 = o_gfI 10 520 := rfl
theorem lk_146_83 : (zPr L xs).1 146 83 = o_push (.int (0)) 1 := rfl
theorem lk_146_84 : (zPr L xs).1 146 84 = o_xast 20 (fun x => x) := rfl
theorem lk_146_85 : (zPr L xs).1 146 85 = o_iload 3 1 := rfl
theorem lk_146_86 : (zPr L xs).1 146 86 = o_ifne 145 := rfl
theorem lk_146_89 : (zPr L xs).1 146 89 = o_aload 0 1 := rfl
theorem lk_146_90 : (zPr L xs).1 146 90 = o_iload 2 1 := rfl
theorem lk_146_91 : (zPr L xs).1 146 91 = o_cv 141 1 2 10 10 := rfl
theorem lk_146_94 : (zPr L xs).1 146 94 = o_iload 2 1 := rfl
theorem lk_146_95 : (zPr L xs).1 146 95 = o_push (.int (7)) 2 := rfl
theorem lk_146_97 : (zPr L xs).1 146 97 = o_iceq 120 := rfl
theorem lk_146_100 : (zPr L xs).1 146 100 = o_iload 2 1 := rfl
theorem lk_146_101 : (zPr L xs).1 146 101 = o_push (.int (8)) 2 := rfl
theorem lk_146_103 : (zPr L xs).1 146 103 = o_iceq 120 := rfl
theorem lk_146_106 : (zPr L xs).1 146 106 = o_iload 2 1 := rfl
theorem lk_146_107 : (zPr L xs).1 146 107 = o_push (.int (2)) 1 := rfl
theorem lk_146_108 : (zPr L xs).1 146 108 = o_iceq 120 := rfl
theorem lk_146_111 : (zPr L xs).1 146 111 = o_iload 2 1 := rfl
theorem lk_146_112 : (zPr L xs).1 146 112 = o_push (.int (4)) 1 := rfl
theorem lk_146_113 : (zPr L xs).1 146 113 = o_iceq 120 := rfl
theorem lk_146_116 : (zPr L xs).1 146 116 = o_push (.int (1)) 1 := rfl
theorem lk_146_117 : (zPr L xs).1 146 117 = o_goto 121 := rfl
theorem lk_146_120 : (zPr L xs).1 146 120 = o_push (.int (0)) 1 := rfl
theorem lk_146_121 : (zPr L xs).1 146 121 = o_istore 4 2 := rfl
theorem lk_146_123 : (zPr L xs).1 146 123 = o_iload 4 2 := rfl
theorem lk_146_125 : (zPr L xs).1 146 125 = o_ifeq 145 := rfl
theorem lk_146_128 : (zPr L xs).1 146 128 = o_aload 0 1 := rfl
theorem lk_146_129 : (zPr L xs).1 146 129 = o_gfR 10 511 := rfl
theorem lk_146_132 : (zPr L xs).1 146 132 = o_aload 0 1 := rfl
theorem lk_146_133 : (zPr L xs).1 146 133 = o_gfI 10 520 := rfl
theorem lk_146_136 : (zPr L xs).1 146 136 = o_xald 20 := rfl
theorem lk_146_137 : (zPr L xs).1 146 137 = o_iflt 145 := rfl
theorem lk_146_140 : (zPr L xs).1 146 140 = o_aload 0 1 := rfl
theorem lk_146_141 : (zPr L xs).1 146 141 = o_iload 2 1 := rfl
theorem lk_146_142 : (zPr L xs).1 146 142 = o_cv 144 1 7 10 10 := rfl
theorem lk_146_145 : (zPr L xs).1 146 145 = o_aload 0 1 := rfl
theorem lk_146_146 : (zPr L xs).1 146 146 = o_iload 3 1 := rfl
theorem lk_146_147 : (zPr L xs).1 146 147 = o_ifne 154 := rfl
theorem lk_146_150 : (zPr L xs).1 146 150 = o_push (.int (1)) 1 := rfl
theorem lk_146_151 : (zPr L xs).1 146 151 = o_goto 155 := rfl
theorem lk_146_154 : (zPr L xs).1 146 154 = o_push (.int (0)) 1 := rfl
theorem lk_146_155 : (zPr L xs).1 146 155 = o_cv 125 1 4 10 10 := rfl
theorem lk_146_158 : (zPr L xs).1 146 158 = o_aload 0 1 := rfl
theorem lk_146_159 : (zPr L xs).1 146 159 = o_gfR 10 517 := rfl
theorem lk_146_162 : (zPr L xs).1 146 162 = o_aload 0 1 := rfl
theorem lk_146_163 : (zPr L xs).1 146 163 = o_gfI 10 520 := rfl
theorem lk_146_166 : (zPr L xs).1 146 166 = o_push (.int (0)) 1 := rfl
theorem lk_146_167 : (zPr L xs).1 146 167 = o_xast 20 (fun x => x) := rfl
theorem lk_146_168 : (zPr L xs).1 146 168 = o_iload 3 1 := rfl
theorem lk_146_169 : (zPr L xs).1 146 169 = o_ifeq 176 := rfl
theorem lk_146_172 : (zPr L xs).1 146 172 = o_push (.int (1)) 1 := rfl
theorem lk_146_173 : (zPr L xs).1 146 173 = o_goto 177 := rfl
theorem lk_146_176 : (zPr L xs).1 146 176 = o_push (.int (0)) 1 := rfl
theorem lk_146_177 : (zPr L xs).1 146 177 = o_iret (fun x => x) := rfl
theorem lk_147_0 : (zPr L xs).1 147 0 = o_aload 0 1 := rfl
theorem lk_147_1 : (zPr L xs).1 147 1 = o_iload 1 1 := rfl
theorem lk_147_2 : (zPr L xs).1 147 2 = o_cs 88 1 1 := rfl
theorem lk_147_5 : (zPr L xs).1 147 5 = o_ifne 12 := rfl
theorem lk_147_8 : (zPr L xs).1 147 8 = o_push (.int (1)) 1 := rfl
theorem lk_147_9 : (zPr L xs).1 147 9 = o_goto 26 := rfl
theorem lk_147_12 : (zPr L xs).1 147 12 = o_aload 0 1 := rfl
theorem lk_147_13 : (zPr L xs).1 147 13 = o_gfR 10 510 := rfl
theorem lk_147_16 : (zPr L xs).1 147 16 = o_iload 1 1 := rfl
theorem lk_147_17 : (zPr L xs).1 147 17 = o_xald 23 := rfl
theorem lk_147_18 : (zPr L xs).1 147 18 = o_ifeq 25 := rfl
theorem lk_147_21 : (zPr L xs).1 147 21 = o_push (.int (2)) 1 := rfl
theorem lk_147_22 : (zPr L xs).1 147 22 = o_goto 26 := rfl
theorem lk_147_25 : (zPr L xs).1 147 25 = o_push (.int (0)) 1 := rfl
theorem lk_147_26 : (zPr L xs).1 147 26 = o_pfI 10 500 (fun x => x) := rfl
theorem lk_147_29 : (zPr L xs).1 147 29 = o_aload 0 1 := rfl
theorem lk_147_30 : (zPr L xs).1 147 30 = o_gfI 10 500 := rfl
theorem lk_147_33 : (zPr L xs).1 147 33 = o_ifle 37 := rfl
theorem lk_147_36 : (zPr L xs).1 147 36 = o_vret := rfl
theorem lk_147_37 : (zPr L xs).1 147 37 = o_aload 0 1 := rfl
theorem lk_147_38 : (zPr L xs).1 147 38 = o_gfR 10 510 := rfl
theorem lk_147_41 : (zPr L xs).1 147 41 = o_iload 1 1 := rfl
theorem lk_147_42 : (zPr L xs).1 147 42 = o_push (.int (1)) 1 := rfl
theorem lk_147_43 : (zPr L xs).1 147 43 = o_xast 23 (vp_nar .boolean) := rfl
theorem lk_147_44 : (zPr L xs).1 147 44 = o_aload 0 1 := rfl
theorem lk_147_45 : (zPr L xs).1 147 45 = o_gfR 10 511 := rfl
theorem lk_147_48 : (zPr L xs).1 147 48 = o_iload 1 1 := rfl
theorem lk_147_49 : (zPr L xs).1 147 49 = o_push (.int (-1)) 1 := rfl
theorem lk_147_50 : (zPr L xs).1 147 50 = o_xast 20 (fun x => x) := rfl
theorem lk_147_51 : (zPr L xs).1 147 51 = o_aload 0 1 := rfl
theorem lk_147_52 : (zPr L xs).1 147 52 = o_gfR 10 513 := rfl
theorem lk_147_55 : (zPr L xs).1 147 55 = o_iload 1 1 := rfl
theorem lk_147_56 : (zPr L xs).1 147 56 = o_push (.int (0)) 1 := rfl
theorem lk_147_57 : (zPr L xs).1 147 57 = o_xast 20 (fun x => x) := rfl
theorem lk_147_58 : (zPr L xs).1 147 58 = o_aload 0 1 := rfl
theorem lk_147_59 : (zPr L xs).1 147 59 = o_gfR 10 517 := rfl
theorem lk_147_62 : (zPr L xs).1 147 62 = o_iload 1 1 := rfl
theorem lk_147_63 : (zPr L xs).1 147 63 = o_push (.int (0)) 1 := rfl
theorem lk_147_64 : (zPr L xs).1 147 64 = o_xast 20 (fun x => x) := rfl
theorem lk_147_65 : (zPr L xs).1 147 65 = o_vret := rfl
theorem lk_148_0 : (zPr L xs).1 148 0 = o_aload 0 1 := rfl
theorem lk_148_1 : (zPr L xs).1 148 1 = o_iload 1 1 := rfl
theorem lk_148_2 : (zPr L xs).1 148 2 = o_cs 88 1 1 := rfl
theorem lk_148_5 : (zPr L xs).1 148 5 = o_ifeq 12 := rfl
theorem lk_148_8 : (zPr L xs).1 148 8 = o_push (.int (0)) 1 := rfl
theorem lk_148_9 : (zPr L xs).1 148 9 = o_goto 13 := rfl
theorem lk_148_12 : (zPr L xs).1 148 12 = o_push (.int (1)) 1 := rfl
theorem lk_148_13 : (zPr L xs).1 148 13 = o_pfI 10 500 (fun x => x) := rfl
theorem lk_148_16 : (zPr L xs).1 148 16 = o_aload 0 1 := rfl
theorem lk_148_17 : (zPr L xs).1 148 17 = o_gfI 10 500 := rfl
theorem lk_148_20 : (zPr L xs).1 148 20 = o_ifle 27 := rfl
theorem lk_148_23 : (zPr L xs).1 148 23 = o_push (.int (0)) 1 := rfl
theorem lk_148_24 : (zPr L xs).1 148 24 = o_goto 33 := rfl
theorem lk_148_27 : (zPr L xs).1 148 27 = o_aload 0 1 := rfl
theorem lk_148_28 : (zPr L xs).1 148 28 = o_gfR 10 519 := rfl
theorem lk_148_31 : (zPr L xs).1 148 31 = o_iload 1 1 := rfl
theorem lk_148_32 : (zPr L xs).1 148 32 = o_xald 20 := rfl
theorem lk_148_33 : (zPr L xs).1 148 33 = o_iret (fun x => x) := rfl
theorem lk_149_0 : (zPr L xs).1 149 0 = o_aload 0 1 := rfl
theorem lk_149_1 : (zPr L xs).1 149 1 = o_iload 1 1 := rfl
theorem lk_149_2 : (zPr L xs).1 149 2 = o_cs 88 1 1 := rfl
theorem lk_149_5 : (zPr L xs).1 149 5 = o_ifeq 22 := rfl
theorem lk_149_8 : (zPr L xs).1 149 8 = o_iload 2 1 := rfl
theorem lk_149_9 : (zPr L xs).1 149 9 = o_iflt 22 := rfl
theorem lk_149_12 : (zPr L xs).1 149 12 = o_iload 2 1 := rfl
theorem lk_149_13 : (zPr L xs).1 149 13 = o_aload 0 1 := rfl
theorem lk_149_14 : (zPr L xs).1 149 14 = o_gfR 10 519 := rfl
theorem lk_149_17 : (zPr L xs).1 149 17 = o_iload 1 1 := rfl
theorem lk_149_18 : (zPr L xs).1 149 18 = o_xald 20 := rfl
theorem lk_149_19 : (zPr L xs).1 149 19 = o_iclt 26 := rfl
theorem lk_149_22 : (zPr L xs).1 149 22 = o_push (.int (1)) 1 := rfl
theorem lk_149_23 : (zPr L xs).1 149 23 = o_goto 27 := rfl
theorem lk_149_26 : (zPr L xs).1 149 26 = o_push (.int (0)) 1 := rfl
theorem lk_149_27 : (zPr L xs).1 149 27 = o_pfI 10 500 (fun x => x) := rfl
theorem lk_149_30 : (zPr L xs).1 149 30 = o_aload 0 1 := rfl
theorem lk_149_31 : (zPr L xs).1 149 31 = o_gfI 10 500 := rfl
theorem lk_149_34 : (zPr L xs).1 149 34 = o_ifle 41 := rfl
theorem lk_149_37 : (zPr L xs).1 149 37 = o_push (.int (0)) 1 := rfl
theorem lk_149_38 : (zPr L xs).1 149 38 = o_goto 54 := rfl
theorem lk_149_41 : (zPr L xs).1 149 41 = o_aload 0 1 := rfl
theorem lk_149_42 : (zPr L xs).1 149 42 = o_gfR 10 518 := rfl
theorem lk_149_45 : (zPr L xs).1 149 45 = o_push (.int (2048)) 3 := rfl
theorem lk_149_48 : (zPr L xs).1 149 48 = o_iload 1 1 := rfl
theorem lk_149_49 : (zPr L xs).1 149 49 = o_iop (fun x y => x * y) := rfl
theorem lk_149_50 : (zPr L xs).1 149 50 = o_iload 2 1 := rfl
theorem lk_149_51 : (zPr L xs).1 149 51 = o_iop (fun x y => x + y) := rfl
theorem lk_149_52 : (zPr L xs).1 149 52 = o_xald 20 := rfl
theorem lk_149_53 : (zPr L xs).1 149 53 = o_iun (fun x => (x.toUInt32 % 65536).toInt32) := rfl
theorem lk_149_54 : (zPr L xs).1 149 54 = o_iret (fun x => x.toUInt32.toUInt16.toUInt32.toInt32) := rfl
theorem lk_150_0 : (zPr L xs).1 150 0 = o_aload 0 1 := rfl
theorem lk_150_1 : (zPr L xs).1 150 1 = o_push (.int (0)) 1 := rfl
theorem lk_150_2 : (zPr L xs).1 150 2 = o_pfI 10 500 (fun x => x) := rfl
theorem lk_150_5 : (zPr L xs).1 150 5 = o_iload 1 1 := rfl
theorem lk_150_6 : (zPr L xs).1 150 6 = o_cs 88 1 1 := rfl
theorem lk_150_9 : (zPr L xs).1 150 9 = o_ifeq 30 := rfl
theorem lk_150_12 : (zPr L xs).1 150 12 = o_aload 0 1 := rfl
theorem lk_150_13 : (zPr L xs).1 150 13 = o_gfR 10 511 := rfl
theorem lk_150_16 : (zPr L xs).1 150 16 = o_iload 1 1 := rfl
theorem lk_150_17 : (zPr L xs).1 150 17 = o_xald 20 := rfl
theorem lk_150_18 : (zPr L xs).1 150 18 = o_iflt 30 := rfl
theorem lk_150_21 : (zPr L xs).1 150 21 = o_aload 0 1 := rfl
theorem lk_150_22 : (zPr L xs).1 150 22 = o_gfR 10 513 := rfl
theorem lk_150_25 : (zPr L xs).1 150 25 = o_iload 1 1 := rfl
theorem lk_150_26 : (zPr L xs).1 150 26 = o_xald 20 := rfl
theorem lk_150_27 : (zPr L xs).1 150 27 = o_goto 31 := rfl
theorem lk_150_30 : (zPr L xs).1 150 30 = o_push (.int (-1)) 1 := rfl
theorem lk_150_31 : (zPr L xs).1 150 31 = o_iret (fun x => x) := rfl
theorem lk_151_0 : (zPr L xs).1 151 0 = o_iload 1 1 := rfl
theorem lk_151_1 : (zPr L xs).1 151 1 = o_iflt 22 := rfl
theorem lk_151_4 : (zPr L xs).1 151 4 = o_iload 1 1 := rfl
theorem lk_151_5 : (zPr L xs).1 151 5 = o_push (.int (4)) 1 := rfl
theorem lk_151_6 : (zPr L xs).1 151 6 = o_icge 22 := rfl
theorem lk_151_9 : (zPr L xs).1 151 9 = o_aload 0 1 := rfl
theorem lk_151_10 : (zPr L xs).1 151 10 = o_gfR 10 501 := rfl
theorem lk_151_13 : (zPr L xs).1 151 13 = o_iload 1 1 := rfl
theorem lk_151_14 : (zPr L xs).1 151 14 = o_xald 23 := rfl
theorem lk_151_15 : (zPr L xs).1 151 15 = o_ifeq 22 := rfl
theorem lk_151_18 : (zPr L xs).1 151 18 = o_push (.int (1)) 1 := rfl
theorem lk_151_19 : (zPr L xs).1 151 19 = o_goto 23 := rfl
theorem lk_151_22 : (zPr L xs).1 151 22 = o_push (.int (0)) 1 := rfl
theorem lk_151_23 : (zPr L xs).1 151 23 = o_iret (fun x => x &&& 1) := rfl
theorem lk_152_0 : (zPr L xs).1 152 0 = o_aload 0 1 := rfl
theorem lk_152_1 : (zPr L xs).1 152 1 = o_push (.int (0)) 1 := rfl
theorem lk_152_2 : (zPr L xs).1 152 2 = o_pfI 10 500 (fun x => x) := rfl
theorem lk_152_5 : (zPr L xs).1 152 5 = o_aload 0 1 := rfl
theorem lk_152_6 : (zPr L xs).1 152 6 = o_iload 1 1 := rfl
theorem lk_152_7 : (zPr L xs).1 152 7 = o_cv 151 1 2 10 10 := rfl
theorem lk_152_10 : (zPr L xs).1 152 10 = o_ifeq 22 := rfl
theorem lk_152_13 : (zPr L xs).1 152 13 = o_aload 0 1 := rfl
theorem lk_152_14 : (zPr L xs).1 152 14 = o_gfR 10 504 := rfl
theorem lk_152_17 : (zPr L xs).1 152 17 = o_iload 1 1 := rfl
theorem lk_152_18 : (zPr L xs).1 152 18 = o_xald 20 := rfl
theorem lk_152_19 : (zPr L xs).1 152 19 = o_goto 23 := rfl
theorem lk_152_22 : (zPr L xs).1 152 22 = o_push (.int (-1)) 1 := rfl
theorem lk_152_23 : (zPr L xs).1 152 23 = o_iret (fun x => x) := rfl
theorem lk_153_0 : (zPr L xs).1 153 0 = o_aload 0 1 := rfl
theorem lk_153_1 : (zPr L xs).1 153 1 = o_aload 0 1 := rfl
theorem lk_153_2 : (zPr L xs).1 153 2 = o_iload 1 1 := rfl
theorem lk_153_3 : (zPr L xs).1 153 3 = o_cv 151 1 2 10 10 := rfl
theorem lk_153_6 : (zPr L xs).1 153 6 = o_ifeq 32 := rfl
theorem lk_153_9 : (zPr L xs).1 153 9 = o_iload 2 1 := rfl
theorem lk_153_10 : (zPr L xs).1 153 10 = o_iflt 32 := rfl
theorem lk_153_13 : (zPr L xs).1 153 13 = o_iload 2 1 := rfl
theorem lk_153_14 : (zPr L xs).1 153 14 = o_aload 0 1 := rfl
theorem lk_153_15 : (zPr L xs).1 153 15 = o_gfR 10 504 := rfl
theorem lk_153_18 : (zPr L xs).1 153 18 = o_iload 1 1 := rfl
theorem lk_153_19 : (zPr L xs).1 153 19 = o_xald 20 := rfl
theorem lk_153_20 : (zPr L xs).1 153 20 = o_icge 32 := rfl
theorem lk_153_23 : (zPr L xs).1 153 23 = o_iload 3 1 := rfl
theorem lk_153_24 : (zPr L xs).1 153 24 = o_iflt 32 := rfl
theorem lk_153_27 : (zPr L xs).1 153 27 = o_iload 3 1 := rfl
theorem lk_153_28 : (zPr L xs).1 153 28 = o_push (.int (2)) 1 := rfl
theorem lk_153_29 : (zPr L xs).1 153 29 = o_icle 36 := rfl
theorem lk_153_32 : (zPr L xs).1 153 32 = o_push (.int (1)) 1 := rfl
theorem lk_153_33 : (zPr L xs).1 153 33 = o_goto 37 := rfl
theorem lk_153_36 : (zPr L xs).1 153 36 = o_push (.int (0)) 1 := rfl
theorem lk_153_37 : (zPr L xs).1 153 37 = o_pfI 10 500 (fun x => x) := rfl
theorem lk_153_40 : (zPr L xs).1 153 40 = o_aload 0 1 := rfl
theorem lk_153_41 : (zPr L xs).1 153 41 = o_gfI 10 500 := rfl
theorem lk_153_44 : (zPr L xs).1 153 44 = o_ifle 49 := rfl
theorem lk_153_47 : (zPr L xs).1 153 47 = o_push (.int (0)) 1 := rfl
theorem lk_153_48 : (zPr L xs).1 153 48 = o_iret (fun x => x) := rfl
theorem lk_153_49 : (zPr L xs).1 153 49 = o_push (.int (10)) 2 := rfl
theorem lk_153_51 : (zPr L xs).1 153 51 = o_iload 1 1 := rfl
theorem lk_153_52 : (zPr L xs).1 153 52 = o_iop (fun x y => x * y) := rfl
theorem lk_153_53 : (zPr L xs).1 153 53 = o_iload 2 1 := rfl
theorem lk_153_54 : (zPr L xs).1 153 54 = o_iop (fun x y => x + y) := rfl
theorem lk_153_55 : (zPr L xs).1 153 55 = o_istore 4 2 := rfl
theorem lk_153_57 : (zPr L xs).1 153 57 = o_iload 3 1 := rfl
theorem lk_153_58 : (zPr L xs).1 153 58 = o_ifne 71 := rfl
theorem lk_153_61 : (zPr L xs).1 153 61 = o_aload 0 1 := rfl
theorem lk_153_62 : (zPr L xs).1 153 62 = o_gfR 10 505 := rfl
theorem lk_153_65 : (zPr L xs).1 153 65 = o_iload 4 2 := rfl
theorem lk_153_67 : (zPr L xs).1 153 67 = o_xald 20 := rfl
theorem lk_153_68 : (zPr L xs).1 153 68 = o_goto 93 := rfl
theorem lk_153_71 : (zPr L xs).1 153 71 = o_iload 3 1 := rfl
theorem lk_153_72 : (zPr L xs).1 153 72 = o_push (.int (1)) 1 := rfl
theorem lk_153_73 : (zPr L xs).1 153 73 = o_icne 86 := rfl
theorem lk_153_76 : (zPr L xs).1 153 76 = o_aload 0 1 := rfl
theorem lk_153_77 : (zPr L xs).1 153 77 = o_gfR 10 506 := rfl
theorem lk_153_80 : (zPr L xs).1 153 80 = o_iload 4 2 := rfl
theorem lk_153_82 : (zPr L xs).1 153 82 = o_xald 20 := rfl
theorem lk_153_83 : (zPr L xs).1 153 83 = o_goto 93 := rfl
theorem lk_153_86 : (zPr L xs).1 153 86 = o_aload 0 1 := rfl
theorem lk_153_87 : (zPr L xs).1 153 87 = o_gfR 10 507 := rfl
theorem lk_153_90 : (zPr L xs).1 153 90 = o_iload 4 2 := rfl
theorem lk_153_92 : (zPr L xs).1 153 92 = o_xald 20 := rfl
theorem lk_153_93 : (zPr L xs).1 153 93 = o_iret (fun x => x) := rfl
theorem lk_154_0 : (zPr L xs).1 154 0 = o_aload 3 1 := rfl
theorem lk_154_1 : (zPr L xs).1 154 1 = o_push (.int (0)) 1 := rfl
theorem lk_154_2 : (zPr L xs).1 154 2 = o_aload 0 1 := rfl
theorem lk_154_3 : (zPr L xs).1 154 3 = o_iload 1 1 := rfl
theorem lk_154_4 : (zPr L xs).1 154 4 = o_iload 2 1 := rfl
theorem lk_154_5 : (zPr L xs).1 154 5 = o_cv 71 2 6 9 9 := rfl
theorem lk_154_8 : (zPr L xs).1 154 8 = o_ifeq 15 := rfl
theorem lk_154_11 : (zPr L xs).1 154 11 = o_push (.long 1) 1 := rfl
theorem lk_154_12 : (zPr L xs).1 154 12 = o_goto 16 := rfl
theorem lk_154_15 : (zPr L xs).1 154 15 = o_push (.long 0) 1 := rfl
theorem lk_154_16 : (zPr L xs).1 154 16 = o_last := rfl
theorem lk_154_17 : (zPr L xs).1 154 17 = o_goto 32 := rfl
theorem lk_154_20 : (zPr L xs).1 154 20 = o_astore 4 2 := rfl
theorem lk_154_22 : (zPr L xs).1 154 22 = o_push (.int (1)) 1 := rfl
theorem lk_154_23 : (zPr L xs).1 154 23 = o_iret (fun x => x) := rfl
theorem lk_154_24 : (zPr L xs).1 154 24 = o_astore 4 2 := rfl
theorem lk_154_26 : (zPr L xs).1 154 26 = o_push (.int (2)) 1 := rfl
theorem lk_154_27 : (zPr L xs).1 154 27 = o_iret (fun x => x) := rfl
theorem lk_154_28 : (zPr L xs).1 154 28 = o_astore 4 2 := rfl
theorem lk_154_30 : (zPr L xs).1 154 30 = o_push (.int (3)) 1 := rfl
theorem lk_154_31 : (zPr L xs).1 154 31 = o_iret (fun x => x) := rfl
theorem lk_154_32 : (zPr L xs).1 154 32 = o_push (.int (0)) 1 := rfl
theorem lk_154_33 : (zPr L xs).1 154 33 = o_iret (fun x => x) := rfl
theorem lk_155_0 : (zPr L xs).1 155 0 = o_aload 2 1 := rfl
theorem lk_155_1 : (zPr L xs).1 155 1 = o_push (.int (0)) 1 := rfl
theorem lk_155_2 : (zPr L xs).1 155 2 = o_aload 0 1 := rfl
theorem lk_155_3 : (zPr L xs).1 155 3 = o_iload 1 1 := rfl
theorem lk_155_4 : (zPr L xs).1 155 4 = o_cv 72 1 6 9 9 := rfl
theorem lk_155_7 : (zPr L xs).1 155 7 = o_i2l := rfl
theorem lk_155_8 : (zPr L xs).1 155 8 = o_last := rfl
theorem lk_155_9 : (zPr L xs).1 155 9 = o_goto 21 := rfl
theorem lk_155_12 : (zPr L xs).1 155 12 = o_astore 3 1 := rfl
theorem lk_155_13 : (zPr L xs).1 155 13 = o_push (.int (1)) 1 := rfl
theorem lk_155_14 : (zPr L xs).1 155 14 = o_iret (fun x => x) := rfl
theorem lk_155_15 : (zPr L xs).1 155 15 = o_astore 3 1 := rfl
theorem lk_155_16 : (zPr L xs).1 155 16 = o_push (.int (2)) 1 := rfl
theorem lk_155_17 : (zPr L xs).1 155 17 = o_iret (fun x => x) := rfl
theorem lk_155_18 : (zPr L xs).1 155 18 = o_astore 3 1 := rfl
theorem lk_155_19 : (zPr L xs).1 155 19 = o_push (.int (3)) 1 := rfl
theorem lk_155_20 : (zPr L xs).1 155 20 = o_iret (fun x => x) := rfl
theorem lk_155_21 : (zPr L xs).1 155 21 = o_push (.int (0)) 1 := rfl
theorem lk_155_22 : (zPr L xs).1 155 22 = o_iret (fun x => x) := rfl
theorem lk_156_0 : (zPr L xs).1 156 0 = o_aload 0 1 := rfl
theorem lk_156_1 : (zPr L xs).1 156 1 = o_iload 1 1 := rfl
theorem lk_156_2 : (zPr L xs).1 156 2 = o_cv 73 1 3 9 9 := rfl
theorem lk_156_5 : (zPr L xs).1 156 5 = o_goto 14 := rfl
theorem lk_156_8 : (zPr L xs).1 156 8 = o_astore 2 1 := rfl
theorem lk_156_9 : (zPr L xs).1 156 9 = o_push (.int (1)) 1 := rfl
theorem lk_156_10 : (zPr L xs).1 156 10 = o_iret (fun x => x) := rfl
theorem lk_156_11 : (zPr L xs).1 156 11 = o_astore 2 1 := rfl
theorem lk_156_12 : (zPr L xs).1 156 12 = o_push (.int (2)) 1 := rfl
theorem lk_156_13 : (zPr L xs).1 156 13 = o_iret (fun x => x) := rfl
theorem lk_156_14 : (zPr L xs).1 156 14 = o_push (.int (0)) 1 := rfl
theorem lk_156_15 : (zPr L xs).1 156 15 = o_iret (fun x => x) := rfl
theorem lk_157_0 : (zPr L xs).1 157 0 = o_aload 2 1 := rfl
theorem lk_157_1 : (zPr L xs).1 157 1 = o_push (.int (0)) 1 := rfl
theorem lk_157_2 : (zPr L xs).1 157 2 = o_aload 0 1 := rfl
theorem lk_157_3 : (zPr L xs).1 157 3 = o_iload 1 1 := rfl
theorem lk_157_4 : (zPr L xs).1 157 4 = o_cv 74 1 2 9 9 := rfl
theorem lk_157_7 : (zPr L xs).1 157 7 = o_i2l := rfl
theorem lk_157_8 : (zPr L xs).1 157 8 = o_last := rfl
theorem lk_157_9 : (zPr L xs).1 157 9 = o_goto 15 := rfl
theorem lk_157_12 : (zPr L xs).1 157 12 = o_astore 3 1 := rfl
theorem lk_157_13 : (zPr L xs).1 157 13 = o_push (.int (1)) 1 := rfl
theorem lk_157_14 : (zPr L xs).1 157 14 = o_iret (fun x => x) := rfl
theorem lk_157_15 : (zPr L xs).1 157 15 = o_push (.int (0)) 1 := rfl
theorem lk_157_16 : (zPr L xs).1 157 16 = o_iret (fun x => x) := rfl
theorem lk_158_0 : (zPr L xs).1 158 0 = o_aload 3 1 := rfl
theorem lk_158_1 : (zPr L xs).1 158 1 = o_push (.int (0)) 1 := rfl
theorem lk_158_2 : (zPr L xs).1 158 2 = o_aload 0 1 := rfl
theorem lk_158_3 : (zPr L xs).1 158 3 = o_iload 1 1 := rfl
theorem lk_158_4 : (zPr L xs).1 158 4 = o_iload 2 1 := rfl
theorem lk_158_5 : (zPr L xs).1 158 5 = o_cv 75 2 4 9 9 := rfl
theorem lk_158_8 : (zPr L xs).1 158 8 = o_i2l := rfl
theorem lk_158_9 : (zPr L xs).1 158 9 = o_last := rfl
theorem lk_158_10 : (zPr L xs).1 158 10 = o_goto 17 := rfl
theorem lk_158_13 : (zPr L xs).1 158 13 = o_astore 4 2 := rfl
theorem lk_158_15 : (zPr L xs).1 158 15 = o_push (.int (1)) 1 := rfl
theorem lk_158_16 : (zPr L xs).1 158 16 = o_iret (fun x => x) := rfl
theorem lk_158_17 : (zPr L xs).1 158 17 = o_push (.int (0)) 1 := rfl
theorem lk_158_18 : (zPr L xs).1 158 18 = o_iret (fun x => x) := rfl
theorem lk_159_0 : (zPr L xs).1 159 0 = o_aload 4 2 := rfl
theorem lk_159_2 : (zPr L xs).1 159 2 = o_push (.int (0)) 1 := rfl
theorem lk_159_3 : (zPr L xs).1 159 3 = o_aload 0 1 := rfl
theorem lk_159_4 : (zPr L xs).1 159 4 = o_iload 1 1 := rfl
theorem lk_159_5 : (zPr L xs).1 159 5 = o_iload 2 1 := rfl
theorem lk_159_6 : (zPr L xs).1 159 6 = o_iload 3 1 := rfl
theorem lk_159_7 : (zPr L xs).1 159 7 = o_cv 78 3 5 9 9 := rfl
theorem lk_159_10 : (zPr L xs).1 159 10 = o_i2l := rfl
theorem lk_159_11 : (zPr L xs).1 159 11 = o_last := rfl
theorem lk_159_12 : (zPr L xs).1 159 12 = o_goto 19 := rfl
theorem lk_159_15 : (zPr L xs).1 159 15 = o_astore 5 2 := rfl
theorem lk_159_17 : (zPr L xs).1 159 17 = o_push (.int (1)) 1 := rfl
theorem lk_159_18 : (zPr L xs).1 159 18 = o_iret (fun x => x) := rfl
theorem lk_159_19 : (zPr L xs).1 159 19 = o_push (.int (0)) 1 := rfl
theorem lk_159_20 : (zPr L xs).1 159 20 = o_iret (fun x => x) := rfl
theorem lk_160_0 : (zPr L xs).1 160 0 = o_new 9 3 := rfl
theorem lk_160_3 : (zPr L xs).1 160 3 = o_dup := rfl
theorem lk_160_4 : (zPr L xs).1 160 4 = o_cv 70 0 2 9 9 := rfl
theorem lk_160_7 : (zPr L xs).1 160 7 = o_astore 1 1 := rfl
theorem lk_160_8 : (zPr L xs).1 160 8 = o_new 10 39 := rfl
theorem lk_160_11 : (zPr L xs).1 160 11 = o_dup := rfl
theorem lk_160_12 : (zPr L xs).1 160 12 = o_cv 86 0 2 10 10 := rfl
theorem lk_160_15 : (zPr L xs).1 160 15 = o_astore 2 1 := rfl
theorem lk_160_16 : (zPr L xs).1 160 16 = o_push (.int (1)) 1 := rfl
theorem lk_160_17 : (zPr L xs).1 160 17 = o_newa 21 2 := rfl
theorem lk_160_19 : (zPr L xs).1 160 19 = o_astore 3 1 := rfl
theorem lk_160_20 : (zPr L xs).1 160 20 = o_push (.int (0)) 1 := rfl
theorem lk_160_21 : (zPr L xs).1 160 21 = o_istore 4 2 := rfl
theorem lk_160_23 : (zPr L xs).1 160 23 = o_iload 4 2 := rfl
theorem lk_160_25 : (zPr L xs).1 160 25 = o_aload 0 1 := rfl
theorem lk_160_26 : (zPr L xs).1 160 26 = o_xlen L := rfl
theorem lk_160_27 : (zPr L xs).1 160 27 = o_push (.int (4)) 1 := rfl
theorem lk_160_28 : (zPr L xs).1 160 28 = o_iop (fun x y => x - y) := rfl
theorem lk_160_29 : (zPr L xs).1 160 29 = o_icgt 511 := rfl
theorem lk_160_32 : (zPr L xs).1 160 32 = o_aload 0 1 := rfl
theorem lk_160_33 : (zPr L xs).1 160 33 = o_iload 4 2 := rfl
theorem lk_160_35 : (zPr L xs).1 160 35 = o_sald L xs := rfl
theorem lk_160_36 : (zPr L xs).1 160 36 = o_push (.int (7)) 2 := rfl
theorem lk_160_38 : (zPr L xs).1 160 38 = o_iop (fun x y => x &&& y) := rfl
theorem lk_160_39 : (zPr L xs).1 160 39 = o_tsw (0) (7) [84, 159, 215, 251, 307, 375, 400, 425] 505 := rfl
theorem lk_160_84 : (zPr L xs).1 160 84 = o_aload 1 1 := rfl
theorem lk_160_85 : (zPr L xs).1 160 85 = o_aload 0 1 := rfl
theorem lk_160_86 : (zPr L xs).1 160 86 = o_iload 4 2 := rfl
theorem lk_160_88 : (zPr L xs).1 160 88 = o_push (.int (1)) 1 := rfl
theorem lk_160_89 : (zPr L xs).1 160 89 = o_iop (fun x y => x + y) := rfl
theorem lk_160_90 : (zPr L xs).1 160 90 = o_sald L xs := rfl
theorem lk_160_91 : (zPr L xs).1 160 91 = o_aload 0 1 := rfl
theorem lk_160_92 : (zPr L xs).1 160 92 = o_iload 4 2 := rfl
theorem lk_160_94 : (zPr L xs).1 160 94 = o_push (.int (2)) 1 := rfl
theorem lk_160_95 : (zPr L xs).1 160 95 = o_iop (fun x y => x + y) := rfl
theorem lk_160_96 : (zPr L xs).1 160 96 = o_sald L xs := rfl
theorem lk_160_97 : (zPr L xs).1 160 97 = o_aload 3 1 := rfl
theorem lk_160_98 : (zPr L xs).1 160 98 = o_cs 154 4 5 := rfl
theorem lk_160_101 : (zPr L xs).1 160 101 = o_istore 5 2 := rfl
theorem lk_160_103 : (zPr L xs).1 160 103 = o_aload 2 1 := rfl
theorem lk_160_104 : (zPr L xs).1 160 104 = o_aload 0 1 := rfl
theorem lk_160_105 : (zPr L xs).1 160 105 = o_iload 4 2 := rfl
theorem lk_160_107 : (zPr L xs).1 160 107 = o_push (.int (1)) 1 := rfl
theorem lk_160_108 : (zPr L xs).1 160 108 = o_iop (fun x y => x + y) := rfl
theorem lk_160_109 : (zPr L xs).1 160 109 = o_sald L xs := rfl
theorem lk_160_110 : (zPr L xs).1 160 110 = o_aload 0 1 := rfl
theorem lk_160_111 : (zPr L xs).1 160 111 = o_iload 4 2 := rfl
theorem lk_160_113 : (zPr L xs).1 160 113 = o_push (.int (2)) 1 := rfl
theorem lk_160_114 : (zPr L xs).1 160 114 = o_iop (fun x y => x + y) := rfl
theorem lk_160_115 : (zPr L xs).1 160 115 = o_sald L xs := rfl
theorem lk_160_116 : (zPr L xs).1 160 116 = o_cv 145 2 7 10 10 := rfl
theorem lk_160_119 : (zPr L xs).1 160 119 = o_istore 6 2 := rfl
theorem lk_160_121 : (zPr L xs).1 160 121 = o_aload 2 1 := rfl
theorem lk_160_122 : (zPr L xs).1 160 122 = o_cv 87 0 1 10 10 := rfl
theorem lk_160_125 : (zPr L xs).1 160 125 = o_iload 5 2 := rfl
theorem lk_160_127 : (zPr L xs).1 160 127 = o_iceq 132 := rfl
theorem lk_160_130 : (zPr L xs).1 160 130 = o_push (.int (0)) 1 := rfl
theorem lk_160_131 : (zPr L xs).1 160 131 = o_iret (fun x => x &&& 1) := rfl
theorem lk_160_132 : (zPr L xs).1 160 132 = o_iload 5 2 := rfl
theorem lk_160_134 : (zPr L xs).1 160 134 = o_ifne 156 := rfl
theorem lk_160_137 : (zPr L xs).1 160 137 = o_aload 3 1 := rfl
theorem lk_160_138 : (zPr L xs).1 160 138 = o_push (.int (0)) 1 := rfl
theorem lk_160_139 : (zPr L xs).1 160 139 = o_lald := rfl
theorem lk_160_140 : (zPr L xs).1 160 140 = o_iload 6 2 := rfl
theorem lk_160_142 : (zPr L xs).1 160 142 = o_ifeq 149 := rfl
theorem lk_160_145 : (zPr L xs).1 160 145 = o_push (.long 1) 1 := rfl
theorem lk_160_146 : (zPr L xs).1 160 146 = o_goto 150 := rfl
theorem lk_160_149 : (zPr L xs).1 160 149 = o_push (.long 0) 1 := rfl
theorem lk_160_150 : (zPr L xs).1 160 150 = o_lcmp := rfl
theorem lk_160_151 : (zPr L xs).1 160 151 = o_ifeq 156 := rfl
theorem lk_160_154 : (zPr L xs).1 160 154 = o_push (.int (0)) 1 := rfl
theorem lk_160_155 : (zPr L xs).1 160 155 = o_iret (fun x => x &&& 1) := rfl
theorem lk_160_156 : (zPr L xs).1 160 156 = o_goto 505 := rfl
theorem lk_160_159 : (zPr L xs).1 160 159 = o_aload 1 1 := rfl
theorem lk_160_160 : (zPr L xs).1 160 160 = o_aload 0 1 := rfl
theorem lk_160_161 : (zPr L xs).1 160 161 = o_iload 4 2 := rfl
theorem lk_160_163 : (zPr L xs).1 160 163 = o_push (.int (1)) 1 := rfl
theorem lk_160_164 : (zPr L xs).1 160 164 = o_iop (fun x y => x + y) := rfl
theorem lk_160_165 : (zPr L xs).1 160 165 = o_sald L xs := rfl
theorem lk_160_166 : (zPr L xs).1 160 166 = o_aload 3 1 := rfl
theorem lk_160_167 : (zPr L xs).1 160 167 = o_cs 155 3 4 := rfl
theorem lk_160_170 : (zPr L xs).1 160 170 = o_istore 5 2 := rfl
theorem lk_160_172 : (zPr L xs).1 160 172 = o_aload 2 1 := rfl
theorem lk_160_173 : (zPr L xs).1 160 173 = o_aload 0 1 := rfl
theorem lk_160_174 : (zPr L xs).1 160 174 = o_iload 4 2 := rfl
theorem lk_160_176 : (zPr L xs).1 160 176 = o_push (.int (1)) 1 := rfl
theorem lk_160_177 : (zPr L xs).1 160 177 = o_iop (fun x y => x + y) := rfl
theorem lk_160_178 : (zPr L xs).1 160 178 = o_sald L xs := rfl
theorem lk_160_179 : (zPr L xs).1 160 179 = o_cv 146 1 5 10 10 := rfl
theorem lk_160_182 : (zPr L xs).1 160 182 = o_istore 6 2 := rfl
theorem lk_160_184 : (zPr L xs).1 160 184 = o_aload 2 1 := rfl
theorem lk_160_185 : (zPr L xs).1 160 185 = o_cv 87 0 1 10 10 := rfl
theorem lk_160_188 : (zPr L xs).1 160 188 = o_iload 5 2 := rfl
theorem lk_160_190 : (zPr L xs).1 160 190 = o_iceq 195 := rfl
theorem lk_160_193 : (zPr L xs).1 160 193 = o_push (.int (0)) 1 := rfl
theorem lk_160_194 : (zPr L xs).1 160 194 = o_iret (fun x => x &&& 1) := rfl
theorem lk_160_195 : (zPr L xs).1 160 195 = o_iload 5 2 := rfl
theorem lk_160_197 : (zPr L xs).1 160 197 = o_ifne 212 := rfl
theorem lk_160_200 : (zPr L xs).1 160 200 = o_aload 3 1 := rfl
theorem lk_160_201 : (zPr L xs).1 160 201 = o_push (.int (0)) 1 := rfl
theorem lk_160_202 : (zPr L xs).1 160 202 = o_lald := rfl
theorem lk_160_203 : (zPr L xs).1 160 203 = o_iload 6 2 := rfl
theorem lk_160_205 : (zPr L xs).1 160 205 = o_i2l := rfl
theorem lk_160_206 : (zPr L xs).1 160 206 = o_lcmp := rfl
theorem lk_160_207 : (zPr L xs).1 160 207 = o_ifeq 212 := rfl
theorem lk_160_210 : (zPr L xs).1 160 210 = o_push (.int (0)) 1 := rfl
theorem lk_160_211 : (zPr L xs).1 160 211 = o_iret (fun x => x &&& 1) := rfl
theorem lk_160_212 : (zPr L xs).1 160 212 = o_goto 505 := rfl
theorem lk_160_215 : (zPr L xs).1 160 215 = o_aload 1 1 := rfl
theorem lk_160_216 : (zPr L xs).1 160 216 = o_aload 0 1 := rfl
theorem lk_160_217 : (zPr L xs).1 160 217 = o_iload 4 2 := rfl
theorem lk_160_219 : (zPr L xs).1 160 219 = o_push (.int (1)) 1 := rfl
theorem lk_160_220 : (zPr L xs).1 160 220 = o_iop (fun x y => x + y) := rfl
theorem lk_160_221 : (zPr L xs).1 160 221 = o_sald L xs := rfl
theorem lk_160_222 : (zPr L xs).1 160 222 = o_cs 156 2 3 := rfl
theorem lk_160_225 : (zPr L xs).1 160 225 = o_istore 5 2 := rfl
theorem lk_160_227 : (zPr L xs).1 160 227 = o_aload 2 1 := rfl
theorem lk_160_228 : (zPr L xs).1 160 228 = o_aload 0 1 := rfl
theorem lk_160_229 : (zPr L xs).1 160 229 = o_iload 4 2 := rfl
theorem lk_160_231 : (zPr L xs).1 160 231 = o_push (.int (1)) 1 := rfl
theorem lk_160_232 : (zPr L xs).1 160 232 = o_iop (fun x y => x + y) := rfl
theorem lk_160_233 : (zPr L xs).1 160 233 = o_sald L xs := rfl
theorem lk_160_234 : (zPr L xs).1 160 234 = o_cv 147 1 2 10 10 := rfl
theorem lk_160_237 : (zPr L xs).1 160 237 = o_aload 2 1 := rfl
theorem lk_160_238 : (zPr L xs).1 160 238 = o_cv 87 0 1 10 10 := rfl
theorem lk_160_241 : (zPr L xs).1 160 241 = o_iload 5 2 := rfl
theorem lk_160_243 : (zPr L xs).1 160 243 = o_iceq 248 := rfl
theorem lk_160_246 : (zPr L xs).1 160 246 = o_push (.int (0)) 1 := rfl
theorem lk_160_247 : (zPr L xs).1 160 247 = o_iret (fun x => x &&& 1) := rfl
theorem lk_160_248 : (zPr L xs).1 160 248 = o_goto 505 := rfl
theorem lk_160_251 : (zPr L xs).1 160 251 = o_aload 1 1 := rfl
theorem lk_160_252 : (zPr L xs).1 160 252 = o_aload 0 1 := rfl
theorem lk_160_253 : (zPr L xs).1 160 253 = o_iload 4 2 := rfl
theorem lk_160_255 : (zPr L xs).1 160 255 = o_push (.int (1)) 1 := rfl
theorem lk_160_256 : (zPr L xs).1 160 256 = o_iop (fun x y => x + y) := rfl
theorem lk_160_257 : (zPr L xs).1 160 257 = o_sald L xs := rfl
theorem lk_160_258 : (zPr L xs).1 160 258 = o_aload 3 1 := rfl
theorem lk_160_259 : (zPr L xs).1 160 259 = o_cs 157 3 4 := rfl
theorem lk_160_262 : (zPr L xs).1 160 262 = o_istore 5 2 := rfl
theorem lk_160_264 : (zPr L xs).1 160 264 = o_aload 2 1 := rfl
theorem lk_160_265 : (zPr L xs).1 160 265 = o_aload 0 1 := rfl
theorem lk_160_266 : (zPr L xs).1 160 266 = o_iload 4 2 := rfl
theorem lk_160_268 : (zPr L xs).1 160 268 = o_push (.int (1)) 1 := rfl
theorem lk_160_269 : (zPr L xs).1 160 269 = o_iop (fun x y => x + y) := rfl
theorem lk_160_270 : (zPr L xs).1 160 270 = o_sald L xs := rfl
theorem lk_160_271 : (zPr L xs).1 160 271 = o_cv 148 1 2 10 10 := rfl
theorem lk_160_274 : (zPr L xs).1 160 274 = o_istore 6 2 := rfl
theorem lk_160_276 : (zPr L xs).1 160 276 = o_aload 2 1 := rfl
theorem lk_160_277 : (zPr L xs).1 160 277 = o_cv 87 0 1 10 10 := rfl
theorem lk_160_280 : (zPr L xs).1 160 280 = o_iload 5 2 := rfl
theorem lk_160_282 : (zPr L xs).1 160 282 = o_iceq 287 := rfl
theorem lk_160_285 : (zPr L xs).1 160 285 = o_push (.int (0)) 1 := rfl
theorem lk_160_286 : (zPr L xs).1 160 286 = o_iret (fun x => x &&& 1) := rfl
theorem lk_160_287 : (zPr L xs).1 160 287 = o_iload 5 2 := rfl
theorem lk_160_289 : (zPr L xs).1 160 289 = o_ifne 304 := rfl
theorem lk_160_292 : (zPr L xs).1 160 292 = o_aload 3 1 := rfl
theorem lk_160_293 : (zPr L xs).1 160 293 = o_push (.int (0)) 1 := rfl
theorem lk_160_294 : (zPr L xs).1 160 294 = o_lald := rfl
theorem lk_160_295 : (zPr L xs).1 160 295 = o_iload 6 2 := rfl
theorem lk_160_297 : (zPr L xs).1 160 297 = o_i2l := rfl
theorem lk_160_298 : (zPr L xs).1 160 298 = o_lcmp := rfl
theorem lk_160_299 : (zPr L xs).1 160 299 = o_ifeq 304 := rfl
theorem lk_160_302 : (zPr L xs).1 160 302 = o_push (.int (0)) 1 := rfl
theorem lk_160_303 : (zPr L xs).1 160 303 = o_iret (fun x => x &&& 1) := rfl
theorem lk_160_304 : (zPr L xs).1 160 304 = o_goto 505 := rfl
theorem lk_160_307 : (zPr L xs).1 160 307 = o_aload 1 1 := rfl
theorem lk_160_308 : (zPr L xs).1 160 308 = o_aload 0 1 := rfl
theorem lk_160_309 : (zPr L xs).1 160 309 = o_iload 4 2 := rfl
theorem lk_160_311 : (zPr L xs).1 160 311 = o_push (.int (1)) 1 := rfl
theorem lk_160_312 : (zPr L xs).1 160 312 = o_iop (fun x y => x + y) := rfl
theorem lk_160_313 : (zPr L xs).1 160 313 = o_sald L xs := rfl
theorem lk_160_314 : (zPr L xs).1 160 314 = o_aload 0 1 := rfl
theorem lk_160_315 : (zPr L xs).1 160 315 = o_iload 4 2 := rfl
theorem lk_160_317 : (zPr L xs).1 160 317 = o_push (.int (2)) 1 := rfl
theorem lk_160_318 : (zPr L xs).1 160 318 = o_iop (fun x y => x + y) := rfl
theorem lk_160_319 : (zPr L xs).1 160 319 = o_sald L xs := rfl
theorem lk_160_320 : (zPr L xs).1 160 320 = o_aload 3 1 := rfl
theorem lk_160_321 : (zPr L xs).1 160 321 = o_cs 158 4 5 := rfl
theorem lk_160_324 : (zPr L xs).1 160 324 = o_istore 5 2 := rfl
theorem lk_160_326 : (zPr L xs).1 160 326 = o_aload 2 1 := rfl
theorem lk_160_327 : (zPr L xs).1 160 327 = o_aload 0 1 := rfl
theorem lk_160_328 : (zPr L xs).1 160 328 = o_iload 4 2 := rfl
theorem lk_160_330 : (zPr L xs).1 160 330 = o_push (.int (1)) 1 := rfl
theorem lk_160_331 : (zPr L xs).1 160 331 = o_iop (fun x y => x + y) := rfl
theorem lk_160_332 : (zPr L xs).1 160 332 = o_sald L xs := rfl
theorem lk_160_333 : (zPr L xs).1 160 333 = o_aload 0 1 := rfl
theorem lk_160_334 : (zPr L xs).1 160 334 = o_iload 4 2 := rfl
theorem lk_160_336 : (zPr L xs).1 160 336 = o_push (.int (2)) 1 := rfl
theorem lk_160_337 : (zPr L xs).1 160 337 = o_iop (fun x y => x + y) := rfl
theorem lk_160_338 : (zPr L xs).1 160 338 = o_sald L xs := rfl
theorem lk_160_339 : (zPr L xs).1 160 339 = o_cv 149 2 3 10 10 := rfl
theorem lk_160_342 : (zPr L xs).1 160 342 = o_istore 6 2 := rfl
theorem lk_160_344 : (zPr L xs).1 160 344 = o_aload 2 1 := rfl
theorem lk_160_345 : (zPr L xs).1 160 345 = o_cv 87 0 1 10 10 := rfl
theorem lk_160_348 : (zPr L xs).1 160 348 = o_iload 5 2 := rfl
theorem lk_160_350 : (zPr L xs).1 160 350 = o_iceq 355 := rfl
theorem lk_160_353 : (zPr L xs).1 160 353 = o_push (.int (0)) 1 := rfl
theorem lk_160_354 : (zPr L xs).1 160 354 = o_iret (fun x => x &&& 1) := rfl
theorem lk_160_355 : (zPr L xs).1 160 355 = o_iload 5 2 := rfl
theorem lk_160_357 : (zPr L xs).1 160 357 = o_ifne 372 := rfl
theorem lk_160_360 : (zPr L xs).1 160 360 = o_aload 3 1 := rfl
theorem lk_160_361 : (zPr L xs).1 160 361 = o_push (.int (0)) 1 := rfl
theorem lk_160_362 : (zPr L xs).1 160 362 = o_lald := rfl
theorem lk_160_363 : (zPr L xs).1 160 363 = o_iload 6 2 := rfl
theorem lk_160_365 : (zPr L xs).1 160 365 = o_i2l := rfl
theorem lk_160_366 : (zPr L xs).1 160 366 = o_lcmp := rfl
theorem lk_160_367 : (zPr L xs).1 160 367 = o_ifeq 372 := rfl
theorem lk_160_370 : (zPr L xs).1 160 370 = o_push (.int (0)) 1 := rfl
theorem lk_160_371 : (zPr L xs).1 160 371 = o_iret (fun x => x &&& 1) := rfl
theorem lk_160_372 : (zPr L xs).1 160 372 = o_goto 505 := rfl
theorem lk_160_375 : (zPr L xs).1 160 375 = o_aload 1 1 := rfl
theorem lk_160_376 : (zPr L xs).1 160 376 = o_aload 0 1 := rfl
theorem lk_160_377 : (zPr L xs).1 160 377 = o_iload 4 2 := rfl
theorem lk_160_379 : (zPr L xs).1 160 379 = o_push (.int (1)) 1 := rfl
theorem lk_160_380 : (zPr L xs).1 160 380 = o_iop (fun x y => x + y) := rfl
theorem lk_160_381 : (zPr L xs).1 160 381 = o_sald L xs := rfl
theorem lk_160_382 : (zPr L xs).1 160 382 = o_cv 76 1 2 9 9 := rfl
theorem lk_160_385 : (zPr L xs).1 160 385 = o_aload 2 1 := rfl
theorem lk_160_386 : (zPr L xs).1 160 386 = o_aload 0 1 := rfl
theorem lk_160_387 : (zPr L xs).1 160 387 = o_iload 4 2 := rfl
theorem lk_160_389 : (zPr L xs).1 160 389 = o_push (.int (1)) 1 := rfl
theorem lk_160_390 : (zPr L xs).1 160 390 = o_iop (fun x y => x + y) := rfl
theorem lk_160_391 : (zPr L xs).1 160 391 = o_sald L xs := rfl
theorem lk_160_392 : (zPr L xs).1 160 392 = o_cv 150 1 2 10 10 := rfl
theorem lk_160_395 : (zPr L xs).1 160 395 = o_iceq 505 := rfl
theorem lk_160_398 : (zPr L xs).1 160 398 = o_push (.int (0)) 1 := rfl
theorem lk_160_399 : (zPr L xs).1 160 399 = o_iret (fun x => x &&& 1) := rfl
theorem lk_160_400 : (zPr L xs).1 160 400 = o_aload 1 1 := rfl
theorem lk_160_401 : (zPr L xs).1 160 401 = o_aload 0 1 := rfl
theorem lk_160_402 : (zPr L xs).1 160 402 = o_iload 4 2 := rfl
theorem lk_160_404 : (zPr L xs).1 160 404 = o_push (.int (1)) 1 := rfl
theorem lk_160_405 : (zPr L xs).1 160 405 = o_iop (fun x y => x + y) := rfl
theorem lk_160_406 : (zPr L xs).1 160 406 = o_sald L xs := rfl
theorem lk_160_407 : (zPr L xs).1 160 407 = o_cv 77 1 2 9 9 := rfl
theorem lk_160_410 : (zPr L xs).1 160 410 = o_aload 2 1 := rfl
theorem lk_160_411 : (zPr L xs).1 160 411 = o_aload 0 1 := rfl
theorem lk_160_412 : (zPr L xs).1 160 412 = o_iload 4 2 := rfl
theorem lk_160_414 : (zPr L xs).1 160 414 = o_push (.int (1)) 1 := rfl
theorem lk_160_415 : (zPr L xs).1 160 415 = o_iop (fun x y => x + y) := rfl
theorem lk_160_416 : (zPr L xs).1 160 416 = o_sald L xs := rfl
theorem lk_160_417 : (zPr L xs).1 160 417 = o_cv 152 1 2 10 10 := rfl
theorem lk_160_420 : (zPr L xs).1 160 420 = o_iceq 505 := rfl
theorem lk_160_423 : (zPr L xs).1 160 423 = o_push (.int (0)) 1 := rfl
theorem lk_160_424 : (zPr L xs).1 160 424 = o_iret (fun x => x &&& 1) := rfl
theorem lk_160_425 : (zPr L xs).1 160 425 = o_aload 1 1 := rfl
theorem lk_160_426 : (zPr L xs).1 160 426 = o_aload 0 1 := rfl
theorem lk_160_427 : (zPr L xs).1 160 427 = o_iload 4 2 := rfl
theorem lk_160_429 : (zPr L xs).1 160 429 = o_push (.int (1)) 1 := rfl
theorem lk_160_430 : (zPr L xs).1 160 430 = o_iop (fun x y => x + y) := rfl
theorem lk_160_431 : (zPr L xs).1 160 431 = o_sald L xs := rfl
theorem lk_160_432 : (zPr L xs).1 160 432 = o_aload 0 1 := rfl
theorem lk_160_433 : (zPr L xs).1 160 433 = o_iload 4 2 := rfl
theorem lk_160_435 : (zPr L xs).1 160 435 = o_push (.int (2)) 1 := rfl
theorem lk_160_436 : (zPr L xs).1 160 436 = o_iop (fun x y => x + y) := rfl
theorem lk_160_437 : (zPr L xs).1 160 437 = o_sald L xs := rfl
theorem lk_160_438 : (zPr L xs).1 160 438 = o_aload 0 1 := rfl
theorem lk_160_439 : (zPr L xs).1 160 439 = o_iload 4 2 := rfl
theorem lk_160_441 : (zPr L xs).1 160 441 = o_push (.int (3)) 1 := rfl
theorem lk_160_442 : (zPr L xs).1 160 442 = o_iop (fun x y => x + y) := rfl
theorem lk_160_443 : (zPr L xs).1 160 443 = o_sald L xs := rfl
theorem lk_160_444 : (zPr L xs).1 160 444 = o_aload 3 1 := rfl
theorem lk_160_445 : (zPr L xs).1 160 445 = o_cs 159 5 6 := rfl
theorem lk_160_448 : (zPr L xs).1 160 448 = o_istore 5 2 := rfl
theorem lk_160_450 : (zPr L xs).1 160 450 = o_aload 2 1 := rfl
theorem lk_160_451 : (zPr L xs).1 160 451 = o_aload 0 1 := rfl
theorem lk_160_452 : (zPr L xs).1 160 452 = o_iload 4 2 := rfl
theorem lk_160_454 : (zPr L xs).1 160 454 = o_push (.int (1)) 1 := rfl
theorem lk_160_455 : (zPr L xs).1 160 455 = o_iop (fun x y => x + y) := rfl
theorem lk_160_456 : (zPr L xs).1 160 456 = o_sald L xs := rfl
theorem lk_160_457 : (zPr L xs).1 160 457 = o_aload 0 1 := rfl
theorem lk_160_458 : (zPr L xs).1 160 458 = o_iload 4 2 := rfl
theorem lk_160_460 : (zPr L xs).1 160 460 = o_push (.int (2)) 1 := rfl
theorem lk_160_461 : (zPr L xs).1 160 461 = o_iop (fun x y => x + y) := rfl
theorem lk_160_462 : (zPr L xs).1 160 462 = o_sald L xs := rfl
theorem lk_160_463 : (zPr L xs).1 160 463 = o_aload 0 1 := rfl
theorem lk_160_464 : (zPr L xs).1 160 464 = o_iload 4 2 := rfl
theorem lk_160_466 : (zPr L xs).1 160 466 = o_push (.int (3)) 1 := rfl
theorem lk_160_467 : (zPr L xs).1 160 467 = o_iop (fun x y => x + y) := rfl
theorem lk_160_468 : (zPr L xs).1 160 468 = o_sald L xs := rfl
theorem lk_160_469 : (zPr L xs).1 160 469 = o_cv 153 3 5 10 10 := rfl
theorem lk_160_472 : (zPr L xs).1 160 472 = o_istore 6 2 := rfl
theorem lk_160_474 : (zPr L xs).1 160 474 = o_aload 2 1 := rfl
theorem lk_160_475 : (zPr L xs).1 160 475 = o_cv 87 0 1 10 10 := rfl
theorem lk_160_478 : (zPr L xs).1 160 478 = o_iload 5 2 := rfl
theorem lk_160_480 : (zPr L xs).1 160 480 = o_iceq 485 := rfl
theorem lk_160_483 : (zPr L xs).1 160 483 = o_push (.int (0)) 1 := rfl
theorem lk_160_484 : (zPr L xs).1 160 484 = o_iret (fun x => x &&& 1) := rfl
theorem lk_160_485 : (zPr L xs).1 160 485 = o_iload 5 2 := rfl
theorem lk_160_487 : (zPr L xs).1 160 487 = o_ifne 502 := rfl
theorem lk_160_490 : (zPr L xs).1 160 490 = o_aload 3 1 := rfl
theorem lk_160_491 : (zPr L xs).1 160 491 = o_push (.int (0)) 1 := rfl
theorem lk_160_492 : (zPr L xs).1 160 492 = o_lald := rfl
theorem lk_160_493 : (zPr L xs).1 160 493 = o_iload 6 2 := rfl
theorem lk_160_495 : (zPr L xs).1 160 495 = o_i2l := rfl
theorem lk_160_496 : (zPr L xs).1 160 496 = o_lcmp := rfl
theorem lk_160_497 : (zPr L xs).1 160 497 = o_ifeq 502 := rfl
theorem lk_160_500 : (zPr L xs).1 160 500 = o_push (.int (0)) 1 := rfl
theorem lk_160_501 : (zPr L xs).1 160 501 = o_iret (fun x => x &&& 1) := rfl
theorem lk_160_502 : (zPr L xs).1 160 502 = o_goto 505 := rfl
theorem lk_160_505 : (zPr L xs).1 160 505 = o_iinc 4 (4) := rfl
theorem lk_160_508 : (zPr L xs).1 160 508 = o_goto 23 := rfl
theorem lk_160_511 : (zPr L xs).1 160 511 = o_push (.int (1)) 1 := rfl
theorem lk_160_512 : (zPr L xs).1 160 512 = o_iret (fun x => x &&& 1) := rfl
end
