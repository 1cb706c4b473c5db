/-! tables of the methods 120 to 130; printed by wip/whole/emit.py -/
section
variable {D : va_G} {cA : Nat → ClassId} {B0 : Nat} {sb : Nat → Option Nat} {H00 : Heap}
-- 120: TokenMouthModel.call(I)V
def k_c120_0 : List (Nat × am_A) := [(0, ac_push (.int 0) 1), (1, ac_istore 2 2), (2, ac_iload 2 3), (3, ac_aload 0 4), (4, ac_get 2 6 24 7), (7, ac_iload 1 8), (8, ac_iald 0 9), (9, ac_if2 (fun x y => y ≤ x) 73 12), (12, ac_aload 0 13), (13, ac_get 2 6 25 16), (16, ac_push (.int 13) 18), (18, ac_iload 1 19), (19, ac_ii (fun x y => x * y) 20), (20, ac_iload 2 21), (21, ac_ii (fun x y => x + y) 22), (22, ac_iald 0 23), (23, ac_push (.int 16384) 26), (26, ac_if2 (fun x y => y ≤ x) 73 29), (29, ac_aload 0 30), (30, ac_callV 6 105 1 33 am_nohd), (33, ac_istore 3 34), (34, ac_iload 3 35), (35, ac_push (.int (-1)) 36), (36, ac_if2 (fun x y => ¬ x = y) 40 39)]
theorem k_p120_0 : ∀ q ∈ k_c120_0, am_Ok k_nm D cA B0 sb H00 (k_Th B0 sb H00) prog_8_method_31_code "TokenMouthModel" "call" [] none q.1 q.2 :=
  am_c (ok_iconst (z := 0) (by decide +kernel) (by decide +kernel)) <|
  am_c (ok_istore_n (k := 2) (by decide +kernel) rfl) <|
  am_c (ok_iload_n (k := 2) (by decide +kernel) rfl) <|
  am_c (ok_aload_n (k := 0) (by decide +kernel) rfl) <|
  am_c (ok_get (by decide +kernel) (by decide +kernel) rfl (by decide +kernel) kw_423) <|
  am_c (ok_iload_n (k := 1) (by decide +kernel) rfl) <|
  am_c (ok_iald (by decide +kernel)) <|
  am_c (ok_icmpge (off := 64) (by decide +kernel) (by decide +kernel)) <|
  am_c (ok_aload_n (k := 0) (by decide +kernel) rfl) <|
  am_c (ok_get (by decide +kernel) (by decide +kernel) rfl (by decide +kernel) kw_424) <|
  am_c (ok_bipush (z := 13) (by decide +kernel) (by decide +kernel)) <|
  am_c (ok_iload_n (k := 1) (by decide +kernel) rfl) <|
  am_c (ok_imul (by decide +kernel)) <|
  am_c (ok_iload_n (k := 2) (by decide +kernel) rfl) <|
  am_c (ok_iadd (by decide +kernel)) <|
  am_c (ok_iald (by decide +kernel)) <|
  am_c (ok_sipush (z := 16384) (by decide +kernel) (by decide +kernel)) <|
  am_c (ok_icmpge (off := 47) (by decide +kernel) (by decide +kernel)) <|
  am_c (ok_aload_n (k := 0) (by decide +kernel) rfl) <|
  am_c (ok_callV (by decide +kernel) (by decide +kernel) kw_550 kw_551 kw_552 kw_549 (by decide +kernel) (by decide +kernel)) <|
  am_c (ok_istore_n (k := 3) (by decide +kernel) rfl) <|
  am_c (ok_iload_n (k := 3) (by decide +kernel) rfl) <|
  am_c (ok_iconst (z := -1) (by decide +kernel) (by decide +kernel)) <|
  am_c (ok_icmpne (off := 4) (by decide +kernel) (by decide +kernel)) <|
  am_n
def k_c120_1 : List (Nat × am_A) := [(39, ac_ret), (40, ac_iload 3 41), (41, ac_callS 109 1 44), (44, ac_aload 0 45), (45, ac_get 2 6 25 48), (48, ac_push (.int 13) 50), (50, ac_iload 1 51), (51, ac_ii (fun x y => x * y) 52), (52, ac_iload 2 53), (53, ac_ii (fun x y => x + y) 54), (54, ac_iald 0 55), (55, ac_if2 (fun x y => x = y) 67 58), (58, ac_aload 0 59), (59, ac_push (.int 6) 61), (61, ac_callV 6 98 2 64 am_nohd), (64, ac_istore 4 66), (66, ac_ret), (67, ac_iinc 2 1 70), (70, ac_goto 2), (73, ac_push (.int 0) 74), (74, ac_istore 3 75), (75, ac_iload 3 76), (76, ac_aload 0 77), (77, ac_get 2 6 28 80)]
theorem k_p120_1 : ∀ q ∈ k_c120_1, am_Ok k_nm D cA B0 sb H00 (k_Th B0 sb H00) prog_8_method_31_code "TokenMouthModel" "call" [] none q.1 q.2 :=
  am_c (ok_ret (by decide +kernel) rfl) <|
  am_c (ok_iload_n (k := 3) (by decide +kernel) rfl) <|
  am_c (ok_callS (by decide +kernel) kw_532 kw_533 kw_488 kw_531 (by decide +kernel) (by decide +kernel)) <|
  am_c (ok_aload_n (k := 0) (by decide +kernel) rfl) <|
  am_c (ok_get (by decide +kernel) (by decide +kernel) rfl (by decide +kernel) kw_424) <|
  am_c (ok_bipush (z := 13) (by decide +kernel) (by decide +kernel)) <|
  am_c (ok_iload_n (k := 1) (by decide +kernel) rfl) <|
  am_c (ok_imul (by decide +kernel)) <|
  am_c (ok_iload_n (k := 2) (by decide +kernel) rfl) <|
  am_c (ok_iadd (by decide +kernel)) <|
  am_c (ok_iald (by decide +kernel)) <|
  am_c (ok_icmpeq (off := 12) (by decide +kernel) (by decide +kernel)) <|
  am_c (ok_aload_n (k := 0) (by decide +kernel) rfl) <|
  am_c (ok_bipush (z := 6) (by decide +kernel) (by decide +kernel)) <|
  am_c (ok_callV (by decide +kernel) (by decide +kernel) kw_498 kw_499 kw_500 kw_497 (by decide +kernel) (by decide +kernel)) <|
  am_c (ok_istore (by decide +kernel)) <|
  am_c (ok_ret (by decide +kernel) rfl) <|
  am_c (ok_iinc (z := 1) (by decide +kernel) (by decide +kernel)) <|
  am_c (ok_goto (off := -68) (by decide +kernel) (by decide +kernel)) <|
  am_c (ok_iconst (z := 0) (by decide +kernel) (by decide +kernel)) <|
  am_c (ok_istore_n (k := 3) (by decide +kernel) rfl) <|
  am_c (ok_iload_n (k := 3) (by decide +kernel) rfl) <|
  am_c (ok_aload_n (k := 0) (by decide +kernel) rfl) <|
  am_c (ok_get (by decide +kernel) (by decide +kernel) rfl (by decide +kernel) kw_427) <|
  am_n
def k_c120_2 : List (Nat × am_A) := [(80, ac_iload 1 81), (81, ac_iald 0 82), (82, ac_if2 (fun x y => y ≤ x) 176 85), (85, ac_aload 0 86), (86, ac_get 0 6 5 89), (89, ac_if1 (fun x => ¬ x = 0) 176 92), (92, ac_iload 2 93), (93, ac_push (.int 1) 94), (94, ac_ii (fun x y => x + y) 95), (95, ac_istore 4 97), (97, ac_iload 4 99), (99, ac_aload 0 100), (100, ac_get 2 6 24 103), (103, ac_iload 1 104), (104, ac_iald 0 105), (105, ac_if2 (fun x y => y ≤ x) 132 108), (108, ac_aload 0 109), (109, ac_get 2 6 25 112), (112, ac_push (.int 13) 114), (114, ac_iload 1 115), (115, ac_ii (fun x y => x * y) 116), (116, ac_iload 4 118), (118, ac_ii (fun x y => x + y) 119), (119, ac_iald 0 120)]
theorem k_p120_2 : ∀ q ∈ k_c120_2, am_Ok k_nm D cA B0 sb H00 (k_Th B0 sb H00) prog_8_method_31_code "TokenMouthModel" "call" [] none q.1 q.2 :=
  am_c (ok_iload_n (k := 1) (by decide +kernel) rfl) <|
  am_c (ok_iald (by decide +kernel)) <|
  am_c (ok_icmpge (off := 94) (by decide +kernel) (by decide +kernel)) <|
  am_c (ok_aload_n (k := 0) (by decide +kernel) rfl) <|
  am_c (ok_get (by decide +kernel) (by decide +kernel) rfl (by decide +kernel) kw_476) <|
  am_c (ok_ifne (off := 87) (by decide +kernel) (by decide +kernel)) <|
  am_c (ok_iload_n (k := 2) (by decide +kernel) rfl) <|
  am_c (ok_iconst (z := 1) (by decide +kernel) (by decide +kernel)) <|
  am_c (ok_iadd (by decide +kernel)) <|
  am_c (ok_istore (by decide +kernel)) <|
  am_c (ok_iload (by decide +kernel)) <|
  am_c (ok_aload_n (k := 0) (by decide +kernel) rfl) <|
  am_c (ok_get (by decide +kernel) (by decide +kernel) rfl (by decide +kernel) kw_423) <|
  am_c (ok_iload_n (k := 1) (by decide +kernel) rfl) <|
  am_c (ok_iald (by decide +kernel)) <|
  am_c (ok_icmpge (off := 27) (by decide +kernel) (by decide +kernel)) <|
  am_c (ok_aload_n (k := 0) (by decide +kernel) rfl) <|
  am_c (ok_get (by decide +kernel) (by decide +kernel) rfl (by decide +kernel) kw_424) <|
  am_c (ok_bipush (z := 13) (by decide +kernel) (by decide +kernel)) <|
  am_c (ok_iload_n (k := 1) (by decide +kernel) rfl) <|
  am_c (ok_imul (by decide +kernel)) <|
  am_c (ok_iload (by decide +kernel)) <|
  am_c (ok_iadd (by decide +kernel)) <|
  am_c (ok_iald (by decide +kernel)) <|
  am_n
def k_c120_3 : List (Nat × am_A) := [(120, ac_push (.int 16384) 123), (123, ac_if2 (fun x y => y ≤ x) 132 126), (126, ac_iinc 4 1 129), (129, ac_goto 97), (132, ac_aload 0 133), (133, ac_get 2 6 40 136), (136, ac_iload 3 137), (137, ac_push (.int 0) 138), (138, ac_iast 139), (139, ac_iload 4 141), (141, ac_iload 2 142), (142, ac_push (.int 1) 143), (143, ac_ii (fun x y => x + y) 144), (144, ac_if2 (fun x y => ¬ x = y) 156 147), (147, ac_aload 0 148), (148, ac_iload 3 149), (149, ac_iload 1 150), (150, ac_callV 6 118 3 153 am_nohd), (153, ac_goto 167), (156, ac_aload 0 157), (157, ac_iload 3 158), (158, ac_iload 1 159), (159, ac_iload 2 160), (160, ac_push (.int 1) 161)]
theorem k_p120_3 : ∀ q ∈ k_c120_3, am_Ok k_nm D cA B0 sb H00 (k_Th B0 sb H00) prog_8_method_31_code "TokenMouthModel" "call" [] none q.1 q.2 :=
  am_c (ok_sipush (z := 16384) (by decide +kernel) (by decide +kernel)) <|
  am_c (ok_icmpge (off := 9) (by decide +kernel) (by decide +kernel)) <|
  am_c (ok_iinc (z := 1) (by decide +kernel) (by decide +kernel)) <|
  am_c (ok_goto (off := -32) (by decide +kernel) (by decide +kernel)) <|
  am_c (ok_aload_n (k := 0) (by decide +kernel) rfl) <|
  am_c (ok_get (by decide +kernel) (by decide +kernel) rfl (by decide +kernel) kw_436) <|
  am_c (ok_iload_n (k := 3) (by decide +kernel) rfl) <|
  am_c (ok_iconst (z := 0) (by decide +kernel) (by decide +kernel)) <|
  am_c (ok_iast (by decide +kernel)) <|
  am_c (ok_iload (by decide +kernel)) <|
  am_c (ok_iload_n (k := 2) (by decide +kernel) rfl) <|
  am_c (ok_iconst (z := 1) (by decide +kernel) (by decide +kernel)) <|
  am_c (ok_iadd (by decide +kernel)) <|
  am_c (ok_icmpne (off := 12) (by decide +kernel) (by decide +kernel)) <|
  am_c (ok_aload_n (k := 0) (by decide +kernel) rfl) <|
  am_c (ok_iload_n (k := 3) (by decide +kernel) rfl) <|
  am_c (ok_iload_n (k := 1) (by decide +kernel) rfl) <|
  am_c (ok_callV (by decide +kernel) (by decide +kernel) kw_554 kw_555 kw_556 kw_553 (by decide +kernel) (by decide +kernel)) <|
  am_c (ok_goto (off := 14) (by decide +kernel) (by decide +kernel)) <|
  am_c (ok_aload_n (k := 0) (by decide +kernel) rfl) <|
  am_c (ok_iload_n (k := 3) (by decide +kernel) rfl) <|
  am_c (ok_iload_n (k := 1) (by decide +kernel) rfl) <|
  am_c (ok_iload_n (k := 2) (by decide +kernel) rfl) <|
  am_c (ok_iconst (z := 1) (by decide +kernel) (by decide +kernel)) <|
  am_n
def k_c120_4 : List (Nat × am_A) := [(161, ac_ii (fun x y => x + y) 162), (162, ac_iload 4 164), (164, ac_callV 6 119 5 167 am_nohd), (167, ac_iload 4 169), (169, ac_istore 2 170), (170, ac_iinc 3 1 173), (173, ac_goto 75), (176, ac_aload 0 177), (177, ac_get 2 6 26 180), (180, ac_iload 1 181), (181, ac_iald 0 182), (182, ac_push (.int 1) 183), (183, ac_ii (fun x y => x - y) 184), (184, ac_istore 3 185), (185, ac_iload 3 186), (186, ac_if1 (fun x => x < 0) 288 189), (189, ac_aload 0 190), (190, ac_get 0 6 5 193), (193, ac_if1 (fun x => ¬ x = 0) 288 196), (196, ac_aload 0 197), (197, ac_get 2 6 27 200), (200, ac_push (.int 41) 202), (202, ac_iload 1 203), (203, ac_ii (fun x y => x * y) 204)]
theorem k_p120_4 : ∀ q ∈ k_c120_4, am_Ok k_nm D cA B0 sb H00 (k_Th B0 sb H00) prog_8_method_31_code "TokenMouthModel" "call" [] none q.1 q.2 :=
  am_c (ok_iadd (by decide +kernel)) <|
  am_c (ok_iload (by decide +kernel)) <|
  am_c (ok_callV (by decide +kernel) (by decide +kernel) kw_558 kw_559 kw_560 kw_557 (by decide +kernel) (by decide +kernel)) <|
  am_c (ok_iload (by decide +kernel)) <|
  am_c (ok_istore_n (k := 2) (by decide +kernel) rfl) <|
  am_c (ok_iinc (z := 1) (by decide +kernel) (by decide +kernel)) <|
  am_c (ok_goto (off := -98) (by decide +kernel) (by decide +kernel)) <|
  am_c (ok_aload_n (k := 0) (by decide +kernel) rfl) <|
  am_c (ok_get (by decide +kernel) (by decide +kernel) rfl (by decide +kernel) kw_425) <|
  am_c (ok_iload_n (k := 1) (by decide +kernel) rfl) <|
  am_c (ok_iald (by decide +kernel)) <|
  am_c (ok_iconst (z := 1) (by decide +kernel) (by decide +kernel)) <|
  am_c (ok_isub (by decide +kernel)) <|
  am_c (ok_istore_n (k := 3) (by decide +kernel) rfl) <|
  am_c (ok_iload_n (k := 3) (by decide +kernel) rfl) <|
  am_c (ok_iflt (off := 102) (by decide +kernel) (by decide +kernel)) <|
  am_c (ok_aload_n (k := 0) (by decide +kernel) rfl) <|
  am_c (ok_get (by decide +kernel) (by decide +kernel) rfl (by decide +kernel) kw_476) <|
  am_c (ok_ifne (off := 95) (by decide +kernel) (by decide +kernel)) <|
  am_c (ok_aload_n (k := 0) (by decide +kernel) rfl) <|
  am_c (ok_get (by decide +kernel) (by decide +kernel) rfl (by decide +kernel) kw_426) <|
  am_c (ok_bipush (z := 41) (by decide +kernel) (by decide +kernel)) <|
  am_c (ok_iload_n (k := 1) (by decide +kernel) rfl) <|
  am_c (ok_imul (by decide +kernel)) <|
  am_n
def k_c120_5 : List (Nat × am_A) := [(204, ac_iload 3 205), (205, ac_ii (fun x y => x + y) 206), (206, ac_iald 0 207), (207, ac_istore 4 209), (209, ac_iload 4 211), (211, ac_push (.int 16384) 214), (214, ac_if2 (fun x y => y ≤ x) 226 217), (217, ac_aload 0 218), (218, ac_iload 4 220), (220, ac_callV 6 106 2 223 am_nohd), (223, ac_goto 282), (226, ac_iload 4 228), (228, ac_push (.int 16384) 231), (231, ac_ii (fun x y => x - y) 232), (232, ac_push (.int 1) 233), (233, ac_ii (fun x y => x - y) 234), (234, ac_istore 5 236), (236, ac_aload 0 237), (237, ac_get 2 6 40 240), (240, ac_iload 5 242), (242, ac_iald 0 243), (243, ac_push (.int 1) 244), (244, ac_ii (fun x y => x - y) 245), (245, ac_istore 6 247)]
theorem k_p120_5 : ∀ q ∈ k_c120_5, am_Ok k_nm D cA B0 sb H00 (k_Th B0 sb H00) prog_8_method_31_code "TokenMouthModel" "call" [] none q.1 q.2 :=
  am_c (ok_iload_n (k := 3) (by decide +kernel) rfl) <|
  am_c (ok_iadd (by decide +kernel)) <|
  am_c (ok_iald (by decide +kernel)) <|
  am_c (ok_istore (by decide +kernel)) <|
  am_c (ok_iload (by decide +kernel)) <|
  am_c (ok_sipush (z := 16384) (by decide +kernel) (by decide +kernel)) <|
  am_c (ok_icmpge (off := 12) (by decide +kernel) (by decide +kernel)) <|
  am_c (ok_aload_n (k := 0) (by decide +kernel) rfl) <|
  am_c (ok_iload (by decide +kernel)) <|
  am_c (ok_callV (by decide +kernel) (by decide +kernel) kw_562 kw_563 kw_564 kw_561 (by decide +kernel) (by decide +kernel)) <|
  am_c (ok_goto (off := 59) (by decide +kernel) (by decide +kernel)) <|
  am_c (ok_iload (by decide +kernel)) <|
  am_c (ok_sipush (z := 16384) (by decide +kernel) (by decide +kernel)) <|
  am_c (ok_isub (by decide +kernel)) <|
  am_c (ok_iconst (z := 1) (by decide +kernel) (by decide +kernel)) <|
  am_c (ok_isub (by decide +kernel)) <|
  am_c (ok_istore (by decide +kernel)) <|
  am_c (ok_aload_n (k := 0) (by decide +kernel) rfl) <|
  am_c (ok_get (by decide +kernel) (by decide +kernel) rfl (by decide +kernel) kw_436) <|
  am_c (ok_iload (by decide +kernel)) <|
  am_c (ok_iald (by decide +kernel)) <|
  am_c (ok_iconst (z := 1) (by decide +kernel) (by decide +kernel)) <|
  am_c (ok_isub (by decide +kernel)) <|
  am_c (ok_istore (by decide +kernel)) <|
  am_n
def k_c120_6 : List (Nat × am_A) := [(247, ac_iload 6 249), (249, ac_if1 (fun x => x < 0) 282 252), (252, ac_aload 0 253), (253, ac_get 0 6 5 256), (256, ac_if1 (fun x => ¬ x = 0) 282 259), (259, ac_aload 0 260), (260, ac_aload 0 261), (261, ac_get 2 6 39 264), (264, ac_push (.int 42) 266), (266, ac_iload 5 268), (268, ac_ii (fun x y => x * y) 269), (269, ac_iload 6 271), (271, ac_ii (fun x y => x + y) 272), (272, ac_iald 0 273), (273, ac_callV 6 106 2 276 am_nohd), (276, ac_iinc 6 (-1) 279), (279, ac_goto 247), (282, ac_iinc 3 (-1) 285), (285, ac_goto 185), (288, ac_ret)]
theorem k_p120_6 : ∀ q ∈ k_c120_6, am_Ok k_nm D cA B0 sb H00 (k_Th B0 sb H00) prog_8_method_31_code "TokenMouthModel" "call" [] none q.1 q.2 :=
  am_c (ok_iload (by decide +kernel)) <|
  am_c (ok_iflt (off := 33) (by decide +kernel) (by decide +kernel)) <|
  am_c (ok_aload_n (k := 0) (by decide +kernel) rfl) <|
  am_c (ok_get (by decide +kernel) (by decide +kernel) rfl (by decide +kernel) kw_476) <|
  am_c (ok_ifne (off := 26) (by decide +kernel) (by decide +kernel)) <|
  am_c (ok_aload_n (k := 0) (by decide +kernel) rfl) <|
  am_c (ok_aload_n (k := 0) (by decide +kernel) rfl) <|
  am_c (ok_get (by decide +kernel) (by decide +kernel) rfl (by decide +kernel) kw_435) <|
  am_c (ok_bipush (z := 42) (by decide +kernel) (by decide +kernel)) <|
  am_c (ok_iload (by decide +kernel)) <|
  am_c (ok_imul (by decide +kernel)) <|
  am_c (ok_iload (by decide +kernel)) <|
  am_c (ok_iadd (by decide +kernel)) <|
  am_c (ok_iald (by decide +kernel)) <|
  am_c (ok_callV (by decide +kernel) (by decide +kernel) kw_562 kw_563 kw_564 kw_561 (by decide +kernel) (by decide +kernel)) <|
  am_c (ok_iinc (z := (-1)) (by decide +kernel) (by decide +kernel)) <|
  am_c (ok_goto (off := -32) (by decide +kernel) (by decide +kernel)) <|
  am_c (ok_iinc (z := (-1)) (by decide +kernel) (by decide +kernel)) <|
  am_c (ok_goto (off := -100) (by decide +kernel) (by decide +kernel)) <|
  am_c (ok_ret (by decide +kernel) rfl) <|
  am_n
def k_t120 : List (Nat × List (Nat × am_A)) := [(36, k_c120_0), (77, k_c120_1), (119, k_c120_2), (160, k_c120_3), (203, k_c120_4), (245, k_c120_5), (288, k_c120_6)]
theorem k_o120 : ∀ c ∈ k_t120, ∀ q ∈ c.2, am_Ok k_nm D cA B0 sb H00 (k_Th B0 sb H00) prog_8_method_31_code "TokenMouthModel" "call" [] none q.1 q.2 := am_cc (P := fun pc a => am_Ok k_nm D cA B0 sb H00 (k_Th B0 sb H00) prog_8_method_31_code "TokenMouthModel" "call" [] none pc a) k_p120_0 <| am_cc (P := fun pc a => am_Ok k_nm D cA B0 sb H00 (k_Th B0 sb H00) prog_8_method_31_code "TokenMouthModel" "call" [] none pc a) k_p120_1 <| am_cc (P := fun pc a => am_Ok k_nm D cA B0 sb H00 (k_Th B0 sb H00) prog_8_method_31_code "TokenMouthModel" "call" [] none pc a) k_p120_2 <| am_cc (P := fun pc a => am_Ok k_nm D cA B0 sb H00 (k_Th B0 sb H00) prog_8_method_31_code "TokenMouthModel" "call" [] none pc a) k_p120_3 <| am_cc (P := fun pc a => am_Ok k_nm D cA B0 sb H00 (k_Th B0 sb H00) prog_8_method_31_code "TokenMouthModel" "call" [] none pc a) k_p120_4 <| am_cc (P := fun pc a => am_Ok k_nm D cA B0 sb H00 (k_Th B0 sb H00) prog_8_method_31_code "TokenMouthModel" "call" [] none pc a) k_p120_5 <| am_cc (P := fun pc a => am_Ok k_nm D cA B0 sb H00 (k_Th B0 sb H00) prog_8_method_31_code "TokenMouthModel" "call" [] none pc a) k_p120_6 <| am_cn0
-- 121: TokenMouthModel.open()V
def k_c121_0 : List (Nat × am_A) := [(0, ac_aload 0 1), (1, ac_get 0 6 29 4), (4, ac_push (.int 12) 6), (6, ac_if2 (fun x y => ¬ x = y) 16 9), (9, ac_aload 0 10), (10, ac_push (.int 5) 11), (11, ac_callV 6 98 2 14 am_nohd), (14, ac_istore 1 15), (15, ac_ret), (16, ac_aload 0 17), (17, ac_get 2 6 30 20), (20, ac_aload 0 21), (21, ac_get 0 6 29 24), (24, ac_push (.int 0) 25), (25, ac_iast 26), (26, ac_aload 0 27), (27, ac_dup 28), (28, ac_get 0 6 29 31), (31, ac_push (.int 1) 32), (32, ac_ii (fun x y => x + y) 33), (33, ac_putI 6 29 36), (36, ac_ret)]
theorem k_p121_0 : ∀ q ∈ k_c121_0, am_Ok k_nm D cA B0 sb H00 (k_Th B0 sb H00) prog_8_method_32_code "TokenMouthModel" "open" [] none q.1 q.2 :=
  am_c (ok_aload_n (k := 0) (by decide +kernel) rfl) <|
  am_c (ok_get (by decide +kernel) (by decide +kernel) rfl (by decide +kernel) kw_482) <|
  am_c (ok_bipush (z := 12) (by decide +kernel) (by decide +kernel)) <|
  am_c (ok_icmpne (off := 10) (by decide +kernel) (by decide +kernel)) <|
  am_c (ok_aload_n (k := 0) (by decide +kernel) rfl) <|
  am_c (ok_iconst (z := 5) (by decide +kernel) (by decide +kernel)) <|
  am_c (ok_callV (by decide +kernel) (by decide +kernel) kw_498 kw_499 kw_500 kw_497 (by decide +kernel) (by decide +kernel)) <|
  am_c (ok_istore_n (k := 1) (by decide +kernel) rfl) <|
  am_c (ok_ret (by decide +kernel) rfl) <|
  am_c (ok_aload_n (k := 0) (by decide +kernel) rfl) <|
  am_c (ok_get (by decide +kernel) (by decide +kernel) rfl (by decide +kernel) kw_428) <|
  am_c (ok_aload_n (k := 0) (by decide +kernel) rfl) <|
  am_c (ok_get (by decide +kernel) (by decide +kernel) rfl (by decide +kernel) kw_482) <|
  am_c (ok_iconst (z := 0) (by decide +kernel) (by decide +kernel)) <|
  am_c (ok_iast (by decide +kernel)) <|
  am_c (ok_aload_n (k := 0) (by decide +kernel) rfl) <|
  am_c (ok_dup (by decide +kernel)) <|
  am_c (ok_get (by decide +kernel) (by decide +kernel) rfl (by decide +kernel) kw_482) <|
  am_c (ok_iconst (z := 1) (by decide +kernel) (by decide +kernel)) <|
  am_c (ok_iadd (by decide +kernel)) <|
  am_c (ok_putI (by decide +kernel) (by decide +kernel) rfl (by decide +kernel) kw_482 rfl) <|
  am_c (ok_ret (by decide +kernel) rfl) <|
  am_n
def k_t121 : List (Nat × List (Nat × am_A)) := [(36, k_c121_0)]
theorem k_o121 : ∀ c ∈ k_t121, ∀ q ∈ c.2, am_Ok k_nm D cA B0 sb H00 (k_Th B0 sb H00) prog_8_method_32_code "TokenMouthModel" "open" [] none q.1 q.2 := am_cc (P := fun pc a => am_Ok k_nm D cA B0 sb H00 (k_Th B0 sb H00) prog_8_method_32_code "TokenMouthModel" "open" [] none pc a) k_p121_0 <| am_cn0
-- 122: TokenMouthModel.pass(Z)Z
def k_c122_0 : List (Nat × am_A) := [(0, ac_push (.int 0) 1), (1, ac_istore 2 2), (2, ac_aload 0 3), (3, ac_callV 6 105 1 6 am_nohd), (6, ac_istore 3 7), (7, ac_iload 3 8), (8, ac_push (.int (-1)) 9), (9, ac_if2 (fun x y => ¬ x = y) 14 12), (12, ac_push (.int 0) 13), (13, ac_zret), (14, ac_aload 0 15), (15, ac_iload 3 16), (16, ac_callV 6 111 2 19 am_nohd), (19, ac_istore 4 21), (21, ac_iload 4 23), (23, ac_push (.int 13) 25), (25, ac_if2 (fun x y => x < y) 41 28), (28, ac_iload 4 30), (30, ac_push (.int 16) 32), (32, ac_if2 (fun x y => y < x) 41 35), (35, ac_iinc 2 1 38), (38, ac_goto 74), (41, ac_iload 4 43), (43, ac_push (.int 18) 45)]
theorem k_p122_0 : ∀ q ∈ k_c122_0, am_Ok k_nm D cA B0 sb H00 (k_Th B0 sb H00) prog_8_method_33_code "TokenMouthModel" "pass" [] (some .boolean) q.1 q.2 :=
  am_c (ok_iconst (z := 0) (by decide +kernel) (by decide +kernel)) <|
  am_c (ok_istore_n (k := 2) (by decide +kernel) rfl) <|
  am_c (ok_aload_n (k := 0) (by decide +kernel) rfl) <|
  am_c (ok_callV (by decide +kernel) (by decide +kernel) kw_550 kw_551 kw_552 kw_549 (by decide +kernel) (by decide +kernel)) <|
  am_c (ok_istore_n (k := 3) (by decide +kernel) rfl) <|
  am_c (ok_iload_n (k := 3) (by decide +kernel) rfl) <|
  am_c (ok_iconst (z := -1) (by decide +kernel) (by decide +kernel)) <|
  am_c (ok_icmpne (off := 5) (by decide +kernel) (by decide +kernel)) <|
  am_c (ok_iconst (z := 0) (by decide +kernel) (by decide +kernel)) <|
  am_c (ok_zret (by decide +kernel) rfl) <|
  am_c (ok_aload_n (k := 0) (by decide +kernel) rfl) <|
  am_c (ok_iload_n (k := 3) (by decide +kernel) rfl) <|
  am_c (ok_callV (by decide +kernel) (by decide +kernel) kw_528 kw_529 kw_530 kw_527 (by decide +kernel) (by decide +kernel)) <|
  am_c (ok_istore (by decide +kernel)) <|
  am_c (ok_iload (by decide +kernel)) <|
  am_c (ok_bipush (z := 13) (by decide +kernel) (by decide +kernel)) <|
  am_c (ok_icmplt (off := 16) (by decide +kernel) (by decide +kernel)) <|
  am_c (ok_iload (by decide +kernel)) <|
  am_c (ok_bipush (z := 16) (by decide +kernel) (by decide +kernel)) <|
  am_c (ok_icmpgt (off := 9) (by decide +kernel) (by decide +kernel)) <|
  am_c (ok_iinc (z := 1) (by decide +kernel) (by decide +kernel)) <|
  am_c (ok_goto (off := 36) (by decide +kernel) (by decide +kernel)) <|
  am_c (ok_iload (by decide +kernel)) <|
  am_c (ok_bipush (z := 18) (by decide +kernel) (by decide +kernel)) <|
  am_n
def k_c122_1 : List (Nat × am_A) := [(45, ac_if2 (fun x y => ¬ x = y) 57 48), (48, ac_iinc 2 (-1) 51), (51, ac_iload 2 52), (52, ac_if1 (fun x => 0 ≤ x) 74 55), (55, ac_push (.int 0) 56), (56, ac_zret), (57, ac_iload 4 59), (59, ac_push (.int 17) 61), (61, ac_if2 (fun x y => ¬ x = y) 74 64), (64, ac_iload 2 65), (65, ac_if1 (fun x => ¬ x = 0) 74 68), (68, ac_iload 1 69), (69, ac_if1 (fun x => x = 0) 74 72), (72, ac_push (.int 1) 73), (73, ac_zret), (74, ac_goto 2)]
theorem k_p122_1 : ∀ q ∈ k_c122_1, am_Ok k_nm D cA B0 sb H00 (k_Th B0 sb H00) prog_8_method_33_code "TokenMouthModel" "pass" [] (some .boolean) q.1 q.2 :=
  am_c (ok_icmpne (off := 12) (by decide +kernel) (by decide +kernel)) <|
  am_c (ok_iinc (z := (-1)) (by decide +kernel) (by decide +kernel)) <|
  am_c (ok_iload_n (k := 2) (by decide +kernel) rfl) <|
  am_c (ok_ifge (off := 22) (by decide +kernel) (by decide +kernel)) <|
  am_c (ok_iconst (z := 0) (by decide +kernel) (by decide +kernel)) <|
  am_c (ok_zret (by decide +kernel) rfl) <|
  am_c (ok_iload (by decide +kernel)) <|
  am_c (ok_bipush (z := 17) (by decide +kernel) (by decide +kernel)) <|
  am_c (ok_icmpne (off := 13) (by decide +kernel) (by decide +kernel)) <|
  am_c (ok_iload_n (k := 2) (by decide +kernel) rfl) <|
  am_c (ok_ifne (off := 9) (by decide +kernel) (by decide +kernel)) <|
  am_c (ok_iload_n (k := 1) (by decide +kernel) rfl) <|
  am_c (ok_ifeq (off := 5) (by decide +kernel) (by decide +kernel)) <|
  am_c (ok_iconst (z := 1) (by decide +kernel) (by decide +kernel)) <|
  am_c (ok_zret (by decide +kernel) rfl) <|
  am_c (ok_goto (off := -72) (by decide +kernel) (by decide +kernel)) <|
  am_n
def k_t122 : List (Nat × List (Nat × am_A)) := [(43, k_c122_0), (74, k_c122_1)]
theorem k_o122 : ∀ c ∈ k_t122, ∀ q ∈ c.2, am_Ok k_nm D cA B0 sb H00 (k_Th B0 sb H00) prog_8_method_33_code "TokenMouthModel" "pass" [] (some .boolean) q.1 q.2 := am_cc (P := fun pc a => am_Ok k_nm D cA B0 sb H00 (k_Th B0 sb H00) prog_8_method_33_code "TokenMouthModel" "pass" [] (some .boolean) pc a) k_p122_0 <| am_cc (P := fun pc a => am_Ok k_nm D cA B0 sb H00 (k_Th B0 sb H00) prog_8_method_33_code "TokenMouthModel" "pass" [] (some .boolean) pc a) k_p122_1 <| am_cn0
-- 123: TokenMouthModel.decide(IZ)V
def k_c123_0 : List (Nat × am_A) := [(0, ac_aload 0 1), (1, ac_iload 1 2), (2, ac_push (.int 1) 3), (3, ac_ii (fun x y => x + y) 4), (4, ac_putI 6 29 7), (7, ac_iload 2 8), (8, ac_if1 (fun x => x = 0) 21 11), (11, ac_aload 0 12), (12, ac_get 2 6 30 15), (15, ac_iload 1 16), (16, ac_push (.int 1) 17), (17, ac_iast 18), (18, ac_goto 51), (21, ac_aload 0 22), (22, ac_push (.int 1) 23), (23, ac_callV 6 122 2 26 am_nohd), (26, ac_if1 (fun x => x = 0) 39 29), (29, ac_aload 0 30), (30, ac_get 2 6 30 33), (33, ac_iload 1 34), (34, ac_push (.int 2) 35), (35, ac_iast 36), (36, ac_goto 51), (39, ac_aload 0 40)]
theorem k_p123_0 : ∀ q ∈ k_c123_0, am_Ok k_nm D cA B0 sb H00 (k_Th B0 sb H00) prog_8_method_34_code "TokenMouthModel" "decide" [] none q.1 q.2 :=
  am_c (ok_aload_n (k := 0) (by decide +kernel) rfl) <|
  am_c (ok_iload_n (k := 1) (by decide +kernel) rfl) <|
  am_c (ok_iconst (z := 1) (by decide +kernel) (by decide +kernel)) <|
  am_c (ok_iadd (by decide +kernel)) <|
  am_c (ok_putI (by decide +kernel) (by decide +kernel) rfl (by decide +kernel) kw_482 rfl) <|
  am_c (ok_iload_n (k := 2) (by decide +kernel) rfl) <|
  am_c (ok_ifeq (off := 13) (by decide +kernel) (by decide +kernel)) <|
  am_c (ok_aload_n (k := 0) (by decide +kernel) rfl) <|
  am_c (ok_get (by decide +kernel) (by decide +kernel) rfl (by decide +kernel) kw_428) <|
  am_c (ok_iload_n (k := 1) (by decide +kernel) rfl) <|
  am_c (ok_iconst (z := 1) (by decide +kernel) (by decide +kernel)) <|
  am_c (ok_iast (by decide +kernel)) <|
  am_c (ok_goto (off := 33) (by decide +kernel) (by decide +kernel)) <|
  am_c (ok_aload_n (k := 0) (by decide +kernel) rfl) <|
  am_c (ok_iconst (z := 1) (by decide +kernel) (by decide +kernel)) <|
  am_c (ok_callV (by decide +kernel) (by decide +kernel) kw_566 kw_567 kw_568 kw_565 (by decide +kernel) (by decide +kernel)) <|
  am_c (ok_ifeq (off := 13) (by decide +kernel) (by decide +kernel)) <|
  am_c (ok_aload_n (k := 0) (by decide +kernel) rfl) <|
  am_c (ok_get (by decide +kernel) (by decide +kernel) rfl (by decide +kernel) kw_428) <|
  am_c (ok_iload_n (k := 1) (by decide +kernel) rfl) <|
  am_c (ok_iconst (z := 2) (by decide +kernel) (by decide +kernel)) <|
  am_c (ok_iast (by decide +kernel)) <|
  am_c (ok_goto (off := 15) (by decide +kernel) (by decide +kernel)) <|
  am_c (ok_aload_n (k := 0) (by decide +kernel) rfl) <|
  am_n
def k_c123_1 : List (Nat × am_A) := [(40, ac_get 0 6 5 43), (43, ac_if1 (fun x => ¬ x = 0) 51 46), (46, ac_aload 0 47), (47, ac_iload 1 48), (48, ac_putI 6 29 51), (51, ac_ret)]
theorem k_p123_1 : ∀ q ∈ k_c123_1, am_Ok k_nm D cA B0 sb H00 (k_Th B0 sb H00) prog_8_method_34_code "TokenMouthModel" "decide" [] none q.1 q.2 :=
  am_c (ok_get (by decide +kernel) (by decide +kernel) rfl (by decide +kernel) kw_476) <|
  am_c (ok_ifne (off := 8) (by decide +kernel) (by decide +kernel)) <|
  am_c (ok_aload_n (k := 0) (by decide +kernel) rfl) <|
  am_c (ok_iload_n (k := 1) (by decide +kernel) rfl) <|
  am_c (ok_putI (by decide +kernel) (by decide +kernel) rfl (by decide +kernel) kw_482 rfl) <|
  am_c (ok_ret (by decide +kernel) rfl) <|
  am_n
def k_t123 : List (Nat × List (Nat × am_A)) := [(39, k_c123_0), (51, k_c123_1)]
theorem k_o123 : ∀ c ∈ k_t123, ∀ q ∈ c.2, am_Ok k_nm D cA B0 sb H00 (k_Th B0 sb H00) prog_8_method_34_code "TokenMouthModel" "decide" [] none q.1 q.2 := am_cc (P := fun pc a => am_Ok k_nm D cA B0 sb H00 (k_Th B0 sb H00) prog_8_method_34_code "TokenMouthModel" "decide" [] none pc a) k_p123_0 <| am_cc (P := fun pc a => am_Ok k_nm D cA B0 sb H00 (k_Th B0 sb H00) prog_8_method_34_code "TokenMouthModel" "decide" [] none pc a) k_p123_1 <| am_cn0
-- 124: TokenMouthModel.alike(II)Z
def k_c124_0 : List (Nat × am_A) := [(0, ac_iload 1 1), (1, ac_iload 2 2), (2, ac_if2 (fun x y => ¬ x = y) 7 5), (5, ac_push (.int 1) 6), (6, ac_zret), (7, ac_iload 1 8), (8, ac_push (.int 6000) 11), (11, ac_if2 (fun x y => x < y) 21 14), (14, ac_iload 2 15), (15, ac_push (.int 6000) 18), (18, ac_if2 (fun x y => y ≤ x) 23 21), (21, ac_push (.int 0) 22), (22, ac_zret), (23, ac_iload 1 24), (24, ac_push (.int 6000) 27), (27, ac_ii (fun x y => x - y) 28), (28, ac_istore 3 29), (29, ac_iload 2 30), (30, ac_push (.int 6000) 33), (33, ac_ii (fun x y => x - y) 34), (34, ac_istore 4 36), (36, ac_aload 0 37), (37, ac_get 2 6 24 40), (40, ac_iload 3 41)]
theorem k_p124_0 : ∀ q ∈ k_c124_0, am_Ok k_nm D cA B0 sb H00 (k_Th B0 sb H00) prog_8_method_35_code "TokenMouthModel" "alike" [] (some .boolean) q.1 q.2 :=
  am_c (ok_iload_n (k := 1) (by decide +kernel) rfl) <|
  am_c (ok_iload_n (k := 2) (by decide +kernel) rfl) <|
  am_c (ok_icmpne (off := 5) (by decide +kernel) (by decide +kernel)) <|
  am_c (ok_iconst (z := 1) (by decide +kernel) (by decide +kernel)) <|
  am_c (ok_zret (by decide +kernel) rfl) <|
  am_c (ok_iload_n (k := 1) (by decide +kernel) rfl) <|
  am_c (ok_sipush (z := 6000) (by decide +kernel) (by decide +kernel)) <|
  am_c (ok_icmplt (off := 10) (by decide +kernel) (by decide +kernel)) <|
  am_c (ok_iload_n (k := 2) (by decide +kernel) rfl) <|
  am_c (ok_sipush (z := 6000) (by decide +kernel) (by decide +kernel)) <|
  am_c (ok_icmpge (off := 5) (by decide +kernel) (by decide +kernel)) <|
  am_c (ok_iconst (z := 0) (by decide +kernel) (by decide +kernel)) <|
  am_c (ok_zret (by decide +kernel) rfl) <|
  am_c (ok_iload_n (k := 1) (by decide +kernel) rfl) <|
  am_c (ok_sipush (z := 6000) (by decide +kernel) (by decide +kernel)) <|
  am_c (ok_isub (by decide +kernel)) <|
  am_c (ok_istore_n (k := 3) (by decide +kernel) rfl) <|
  am_c (ok_iload_n (k := 2) (by decide +kernel) rfl) <|
  am_c (ok_sipush (z := 6000) (by decide +kernel) (by decide +kernel)) <|
  am_c (ok_isub (by decide +kernel)) <|
  am_c (ok_istore (by decide +kernel)) <|
  am_c (ok_aload_n (k := 0) (by decide +kernel) rfl) <|
  am_c (ok_get (by decide +kernel) (by decide +kernel) rfl (by decide +kernel) kw_423) <|
  am_c (ok_iload_n (k := 3) (by decide +kernel) rfl) <|
  am_n
def k_c124_1 : List (Nat × am_A) := [(41, ac_iald 0 42), (42, ac_aload 0 43), (43, ac_get 2 6 24 46), (46, ac_iload 4 48), (48, ac_iald 0 49), (49, ac_if2 (fun x y => ¬ x = y) 72 52), (52, ac_aload 0 53), (53, ac_get 2 6 26 56), (56, ac_iload 3 57), (57, ac_iald 0 58), (58, ac_aload 0 59), (59, ac_get 2 6 26 62), (62, ac_iload 4 64), (64, ac_iald 0 65), (65, ac_if2 (fun x y => ¬ x = y) 72 68), (68, ac_push (.int 1) 69), (69, ac_goto 73), (72, ac_push (.int 0) 73), (73, ac_istore 5 75), (75, ac_push (.int 0) 76), (76, ac_istore 6 78), (78, ac_iload 6 80), (80, ac_aload 0 81), (81, ac_get 2 6 24 84)]
theorem k_p124_1 : ∀ q ∈ k_c124_1, am_Ok k_nm D cA B0 sb H00 (k_Th B0 sb H00) prog_8_method_35_code "TokenMouthModel" "alike" [] (some .boolean) q.1 q.2 :=
  am_c (ok_iald (by decide +kernel)) <|
  am_c (ok_aload_n (k := 0) (by decide +kernel) rfl) <|
  am_c (ok_get (by decide +kernel) (by decide +kernel) rfl (by decide +kernel) kw_423) <|
  am_c (ok_iload (by decide +kernel)) <|
  am_c (ok_iald (by decide +kernel)) <|
  am_c (ok_icmpne (off := 23) (by decide +kernel) (by decide +kernel)) <|
  am_c (ok_aload_n (k := 0) (by decide +kernel) rfl) <|
  am_c (ok_get (by decide +kernel) (by decide +kernel) rfl (by decide +kernel) kw_425) <|
  am_c (ok_iload_n (k := 3) (by decide +kernel) rfl) <|
  am_c (ok_iald (by decide +kernel)) <|
  am_c (ok_aload_n (k := 0) (by decide +kernel) rfl) <|
  am_c (ok_get (by decide +kernel) (by decide +kernel) rfl (by decide +kernel) kw_425) <|
  am_c (ok_iload (by decide +kernel)) <|
  am_c (ok_iald (by decide +kernel)) <|
  am_c (ok_icmpne (off := 7) (by decide +kernel) (by decide +kernel)) <|
  am_c (ok_iconst (z := 1) (by decide +kernel) (by decide +kernel)) <|
  am_c (ok_goto (off := 4) (by decide +kernel) (by decide +kernel)) <|
  am_c (ok_iconst (z := 0) (by decide +kernel) (by decide +kernel)) <|
  am_c (ok_istore (by decide +kernel)) <|
  am_c (ok_iconst (z := 0) (by decide +kernel) (by decide +kernel)) <|
  am_c (ok_istore (by decide +kernel)) <|
  am_c (ok_iload (by decide +kernel)) <|
  am_c (ok_aload_n (k := 0) (by decide +kernel) rfl) <|
  am_c (ok_get (by decide +kernel) (by decide +kernel) rfl (by decide +kernel) kw_423) <|
  am_n
def k_c124_2 : List (Nat × am_A) := [(84, ac_iload 3 85), (85, ac_iald 0 86), (86, ac_if2 (fun x y => y ≤ x) 135 89), (89, ac_iload 5 91), (91, ac_if1 (fun x => x = 0) 135 94), (94, ac_aload 0 95), (95, ac_get 2 6 25 98), (98, ac_push (.int 13) 100), (100, ac_iload 3 101), (101, ac_ii (fun x y => x * y) 102), (102, ac_iload 6 104), (104, ac_ii (fun x y => x + y) 105), (105, ac_iald 0 106), (106, ac_aload 0 107), (107, ac_get 2 6 25 110), (110, ac_push (.int 13) 112), (112, ac_iload 4 114), (114, ac_ii (fun x y => x * y) 115), (115, ac_iload 6 117), (117, ac_ii (fun x y => x + y) 118), (118, ac_iald 0 119), (119, ac_if2 (fun x y => ¬ x = y) 126 122), (122, ac_push (.int 1) 123), (123, ac_goto 127)]
theorem k_p124_2 : ∀ q ∈ k_c124_2, am_Ok k_nm D cA B0 sb H00 (k_Th B0 sb H00) prog_8_method_35_code "TokenMouthModel" "alike" [] (some .boolean) q.1 q.2 :=
  am_c (ok_iload_n (k := 3) (by decide +kernel) rfl) <|
  am_c (ok_iald (by decide +kernel)) <|
  am_c (ok_icmpge (off := 49) (by decide +kernel) (by decide +kernel)) <|
  am_c (ok_iload (by decide +kernel)) <|
  am_c (ok_ifeq (off := 44) (by decide +kernel) (by decide +kernel)) <|
  am_c (ok_aload_n (k := 0) (by decide +kernel) rfl) <|
  am_c (ok_get (by decide +kernel) (by decide +kernel) rfl (by decide +kernel) kw_424) <|
  am_c (ok_bipush (z := 13) (by decide +kernel) (by decide +kernel)) <|
  am_c (ok_iload_n (k := 3) (by decide +kernel) rfl) <|
  am_c (ok_imul (by decide +kernel)) <|
  am_c (ok_iload (by decide +kernel)) <|
  am_c (ok_iadd (by decide +kernel)) <|
  am_c (ok_iald (by decide +kernel)) <|
  am_c (ok_aload_n (k := 0) (by decide +kernel) rfl) <|
  am_c (ok_get (by decide +kernel) (by decide +kernel) rfl (by decide +kernel) kw_424) <|
  am_c (ok_bipush (z := 13) (by decide +kernel) (by decide +kernel)) <|
  am_c (ok_iload (by decide +kernel)) <|
  am_c (ok_imul (by decide +kernel)) <|
  am_c (ok_iload (by decide +kernel)) <|
  am_c (ok_iadd (by decide +kernel)) <|
  am_c (ok_iald (by decide +kernel)) <|
  am_c (ok_icmpne (off := 7) (by decide +kernel) (by decide +kernel)) <|
  am_c (ok_iconst (z := 1) (by decide +kernel) (by decide +kernel)) <|
  am_c (ok_goto (off := 4) (by decide +kernel) (by decide +kernel)) <|
  am_n
def k_c124_3 : List (Nat × am_A) := [(126, ac_push (.int 0) 127), (127, ac_istore 5 129), (129, ac_iinc 6 1 132), (132, ac_goto 78), (135, ac_push (.int 0) 136), (136, ac_istore 6 138), (138, ac_iload 6 140), (140, ac_aload 0 141), (141, ac_get 2 6 26 144), (144, ac_iload 3 145), (145, ac_iald 0 146), (146, ac_if2 (fun x y => y ≤ x) 195 149), (149, ac_iload 5 151), (151, ac_if1 (fun x => x = 0) 195 154), (154, ac_aload 0 155), (155, ac_get 2 6 27 158), (158, ac_push (.int 41) 160), (160, ac_iload 3 161), (161, ac_ii (fun x y => x * y) 162), (162, ac_iload 6 164), (164, ac_ii (fun x y => x + y) 165), (165, ac_iald 0 166), (166, ac_aload 0 167), (167, ac_get 2 6 27 170)]
theorem k_p124_3 : ∀ q ∈ k_c124_3, am_Ok k_nm D cA B0 sb H00 (k_Th B0 sb H00) prog_8_method_35_code "TokenMouthModel" "alike" [] (some .boolean) q.1 q.2 :=
  am_c (ok_iconst (z := 0) (by decide +kernel) (by decide +kernel)) <|
  am_c (ok_istore (by decide +kernel)) <|
  am_c (ok_iinc (z := 1) (by decide +kernel) (by decide +kernel)) <|
  am_c (ok_goto (off := -54) (by decide +kernel) (by decide +kernel)) <|
  am_c (ok_iconst (z := 0) (by decide +kernel) (by decide +kernel)) <|
  am_c (ok_istore (by decide +kernel)) <|
  am_c (ok_iload (by decide +kernel)) <|
  am_c (ok_aload_n (k := 0) (by decide +kernel) rfl) <|
  am_c (ok_get (by decide +kernel) (by decide +kernel) rfl (by decide +kernel) kw_425) <|
  am_c (ok_iload_n (k := 3) (by decide +kernel) rfl) <|
  am_c (ok_iald (by decide +kernel)) <|
  am_c (ok_icmpge (off := 49) (by decide +kernel) (by decide +kernel)) <|
  am_c (ok_iload (by decide +kernel)) <|
  am_c (ok_ifeq (off := 44) (by decide +kernel) (by decide +kernel)) <|
  am_c (ok_aload_n (k := 0) (by decide +kernel) rfl) <|
  am_c (ok_get (by decide +kernel) (by decide +kernel) rfl (by decide +kernel) kw_426) <|
  am_c (ok_bipush (z := 41) (by decide +kernel) (by decide +kernel)) <|
  am_c (ok_iload_n (k := 3) (by decide +kernel) rfl) <|
  am_c (ok_imul (by decide +kernel)) <|
  am_c (ok_iload (by decide +kernel)) <|
  am_c (ok_iadd (by decide +kernel)) <|
  am_c (ok_iald (by decide +kernel)) <|
  am_c (ok_aload_n (k := 0) (by decide +kernel) rfl) <|
  am_c (ok_get (by decide +kernel) (by decide +kernel) rfl (by decide +kernel) kw_426) <|
  am_n
def k_c124_4 : List (Nat × am_A) := [(170, ac_push (.int 41) 172), (172, ac_iload 4 174), (174, ac_ii (fun x y => x * y) 175), (175, ac_iload 6 177), (177, ac_ii (fun x y => x + y) 178), (178, ac_iald 0 179), (179, ac_if2 (fun x y => ¬ x = y) 186 182), (182, ac_push (.int 1) 183), (183, ac_goto 187), (186, ac_push (.int 0) 187), (187, ac_istore 5 189), (189, ac_iinc 6 1 192), (192, ac_goto 138), (195, ac_iload 5 197), (197, ac_zret)]
theorem k_p124_4 : ∀ q ∈ k_c124_4, am_Ok k_nm D cA B0 sb H00 (k_Th B0 sb H00) prog_8_method_35_code "TokenMouthModel" "alike" [] (some .boolean) q.1 q.2 :=
  am_c (ok_bipush (z := 41) (by decide +kernel) (by decide +kernel)) <|
  am_c (ok_iload (by decide +kernel)) <|
  am_c (ok_imul (by decide +kernel)) <|
  am_c (ok_iload (by decide +kernel)) <|
  am_c (ok_iadd (by decide +kernel)) <|
  am_c (ok_iald (by decide +kernel)) <|
  am_c (ok_icmpne (off := 7) (by decide +kernel) (by decide +kernel)) <|
  am_c (ok_iconst (z := 1) (by decide +kernel) (by decide +kernel)) <|
  am_c (ok_goto (off := 4) (by decide +kernel) (by decide +kernel)) <|
  am_c (ok_iconst (z := 0) (by decide +kernel) (by decide +kernel)) <|
  am_c (ok_istore (by decide +kernel)) <|
  am_c (ok_iinc (z := 1) (by decide +kernel) (by decide +kernel)) <|
  am_c (ok_goto (off := -54) (by decide +kernel) (by decide +kernel)) <|
  am_c (ok_iload (by decide +kernel)) <|
  am_c (ok_zret (by decide +kernel) rfl) <|
  am_n
def k_t124 : List (Nat × List (Nat × am_A)) := [(40, k_c124_0), (81, k_c124_1), (123, k_c124_2), (167, k_c124_3), (197, k_c124_4)]
theorem k_o124 : ∀ c ∈ k_t124, ∀ q ∈ c.2, am_Ok k_nm D cA B0 sb H00 (k_Th B0 sb H00) prog_8_method_35_code "TokenMouthModel" "alike" [] (some .boolean) q.1 q.2 := am_cc (P := fun pc a => am_Ok k_nm D cA B0 sb H00 (k_Th B0 sb H00) prog_8_method_35_code "TokenMouthModel" "alike" [] (some .boolean) pc a) k_p124_0 <| am_cc (P := fun pc a => am_Ok k_nm D cA B0 sb H00 (k_Th B0 sb H00) prog_8_method_35_code "TokenMouthModel" "alike" [] (some .boolean) pc a) k_p124_1 <| am_cc (P := fun pc a => am_Ok k_nm D cA B0 sb H00 (k_Th B0 sb H00) prog_8_method_35_code "TokenMouthModel" "alike" [] (some .boolean) pc a) k_p124_2 <| am_cc (P := fun pc a => am_Ok k_nm D cA B0 sb H00 (k_Th B0 sb H00) prog_8_method_35_code "TokenMouthModel" "alike" [] (some .boolean) pc a) k_p124_3 <| am_cc (P := fun pc a => am_Ok k_nm D cA B0 sb H00 (k_Th B0 sb H00) prog_8_method_35_code "TokenMouthModel" "alike" [] (some .boolean) pc a) k_p124_4 <| am_cn0
-- 125: TokenMouthModel.other(I)I
def k_c125_0 : List (Nat × am_A) := [(0, ac_iload 0 1), (1, ac_push (.int 32) 3), (3, ac_if2 (fun x y => ¬ x = y) 12 6), (6, ac_push (.int 2592) 9), (9, ac_goto 17), (12, ac_iload 0 13), (13, ac_push (.int 3072) 16), (16, ac_ii (fun x y => x + y) 17), (17, ac_iret)]
theorem k_p125_0 : ∀ q ∈ k_c125_0, am_Ok k_nm D cA B0 sb H00 (k_Th B0 sb H00) prog_8_method_36_code "TokenMouthModel" "other" [] (some .int) q.1 q.2 :=
  am_c (ok_iload_n (k := 0) (by decide +kernel) rfl) <|
  am_c (ok_bipush (z := 32) (by decide +kernel) (by decide +kernel)) <|
  am_c (ok_icmpne (off := 9) (by decide +kernel) (by decide +kernel)) <|
  am_c (ok_sipush (z := 2592) (by decide +kernel) (by decide +kernel)) <|
  am_c (ok_goto (off := 8) (by decide +kernel) (by decide +kernel)) <|
  am_c (ok_iload_n (k := 0) (by decide +kernel) rfl) <|
  am_c (ok_sipush (z := 3072) (by decide +kernel) (by decide +kernel)) <|
  am_c (ok_iadd (by decide +kernel)) <|
  am_c (ok_iret (by decide +kernel) rfl) <|
  am_n
def k_t125 : List (Nat × List (Nat × am_A)) := [(17, k_c125_0)]
theorem k_o125 : ∀ c ∈ k_t125, ∀ q ∈ c.2, am_Ok k_nm D cA B0 sb H00 (k_Th B0 sb H00) prog_8_method_36_code "TokenMouthModel" "other" [] (some .int) q.1 q.2 := am_cc (P := fun pc a => am_Ok k_nm D cA B0 sb H00 (k_Th B0 sb H00) prog_8_method_36_code "TokenMouthModel" "other" [] (some .int) pc a) k_p125_0 <| am_cn0
-- 126: TokenMouthModel.string(I)V
def k_c126_0 : List (Nat × am_A) := [(0, ac_iload 1 1), (1, ac_push (.int 4096) 4), (4, ac_if2 (fun x y => y ≤ x) 20 7), (7, ac_aload 0 8), (8, ac_iload 1 9), (9, ac_push (.int 255) 12), (12, ac_ii (fun x y => x &&& y) 13), (13, ac_callS 125 1 16), (16, ac_callV 6 106 2 19 am_nohd), (19, ac_ret), (20, ac_iload 1 21), (21, ac_callS 109 1 24), (24, ac_push (.int 4096) 27), (27, ac_ii (fun x y => x - y) 28), (28, ac_istore 2 29), (29, ac_aload 0 30), (30, ac_get 2 6 13 33), (33, ac_iload 2 34), (34, ac_iald 0 35), (35, ac_push (.int 1) 36), (36, ac_ii (fun x y => x - y) 37), (37, ac_istore 3 38), (38, ac_iload 3 39), (39, ac_if1 (fun x => x < 0) 73 42)]
theorem k_p126_0 : ∀ q ∈ k_c126_0, am_Ok k_nm D cA B0 sb H00 (k_Th B0 sb H00) prog_8_method_37_code "TokenMouthModel" "string" [] none q.1 q.2 :=
  am_c (ok_iload_n (k := 1) (by decide +kernel) rfl) <|
  am_c (ok_sipush (z := 4096) (by decide +kernel) (by decide +kernel)) <|
  am_c (ok_icmpge (off := 16) (by decide +kernel) (by decide +kernel)) <|
  am_c (ok_aload_n (k := 0) (by decide +kernel) rfl) <|
  am_c (ok_iload_n (k := 1) (by decide +kernel) rfl) <|
  am_c (ok_sipush (z := 255) (by decide +kernel) (by decide +kernel)) <|
  am_c (ok_iand (by decide +kernel)) <|
  am_c (ok_callS (by decide +kernel) kw_570 kw_571 kw_488 kw_569 (by decide +kernel) (by decide +kernel)) <|
  am_c (ok_callV (by decide +kernel) (by decide +kernel) kw_562 kw_563 kw_564 kw_561 (by decide +kernel) (by decide +kernel)) <|
  am_c (ok_ret (by decide +kernel) rfl) <|
  am_c (ok_iload_n (k := 1) (by decide +kernel) rfl) <|
  am_c (ok_callS (by decide +kernel) kw_532 kw_533 kw_488 kw_531 (by decide +kernel) (by decide +kernel)) <|
  am_c (ok_sipush (z := 4096) (by decide +kernel) (by decide +kernel)) <|
  am_c (ok_isub (by decide +kernel)) <|
  am_c (ok_istore_n (k := 2) (by decide +kernel) rfl) <|
  am_c (ok_aload_n (k := 0) (by decide +kernel) rfl) <|
  am_c (ok_get (by decide +kernel) (by decide +kernel) rfl (by decide +kernel) kw_415) <|
  am_c (ok_iload_n (k := 2) (by decide +kernel) rfl) <|
  am_c (ok_iald (by decide +kernel)) <|
  am_c (ok_iconst (z := 1) (by decide +kernel) (by decide +kernel)) <|
  am_c (ok_isub (by decide +kernel)) <|
  am_c (ok_istore_n (k := 3) (by decide +kernel) rfl) <|
  am_c (ok_iload_n (k := 3) (by decide +kernel) rfl) <|
  am_c (ok_iflt (off := 34) (by decide +kernel) (by decide +kernel)) <|
  am_n
def k_c126_1 : List (Nat × am_A) := [(42, ac_aload 0 43), (43, ac_get 0 6 5 46), (46, ac_if1 (fun x => ¬ x = 0) 73 49), (49, ac_aload 0 50), (50, ac_aload 0 51), (51, ac_get 2 6 12 54), (54, ac_push (.int 11) 56), (56, ac_iload 2 57), (57, ac_ii (fun x y => x * y) 58), (58, ac_iload 3 59), (59, ac_ii (fun x y => x + y) 60), (60, ac_iald 0 61), (61, ac_callS 125 1 64), (64, ac_callV 6 106 2 67 am_nohd), (67, ac_iinc 3 (-1) 70), (70, ac_goto 38), (73, ac_aload 0 74), (74, ac_get 2 6 14 77), (77, ac_iload 2 78), (78, ac_iald 2 79), (79, ac_if1 (fun x => ¬ x = 0) 98 82), (82, ac_aload 0 83), (83, ac_get 0 6 5 86), (86, ac_if1 (fun x => ¬ x = 0) 98 89)]
theorem k_p126_1 : ∀ q ∈ k_c126_1, am_Ok k_nm D cA B0 sb H00 (k_Th B0 sb H00) prog_8_method_37_code "TokenMouthModel" "string" [] none q.1 q.2 :=
  am_c (ok_aload_n (k := 0) (by decide +kernel) rfl) <|
  am_c (ok_get (by decide +kernel) (by decide +kernel) rfl (by decide +kernel) kw_476) <|
  am_c (ok_ifne (off := 27) (by decide +kernel) (by decide +kernel)) <|
  am_c (ok_aload_n (k := 0) (by decide +kernel) rfl) <|
  am_c (ok_aload_n (k := 0) (by decide +kernel) rfl) <|
  am_c (ok_get (by decide +kernel) (by decide +kernel) rfl (by decide +kernel) kw_414) <|
  am_c (ok_bipush (z := 11) (by decide +kernel) (by decide +kernel)) <|
  am_c (ok_iload_n (k := 2) (by decide +kernel) rfl) <|
  am_c (ok_imul (by decide +kernel)) <|
  am_c (ok_iload_n (k := 3) (by decide +kernel) rfl) <|
  am_c (ok_iadd (by decide +kernel)) <|
  am_c (ok_iald (by decide +kernel)) <|
  am_c (ok_callS (by decide +kernel) kw_570 kw_571 kw_488 kw_569 (by decide +kernel) (by decide +kernel)) <|
  am_c (ok_callV (by decide +kernel) (by decide +kernel) kw_562 kw_563 kw_564 kw_561 (by decide +kernel) (by decide +kernel)) <|
  am_c (ok_iinc (z := (-1)) (by decide +kernel) (by decide +kernel)) <|
  am_c (ok_goto (off := -32) (by decide +kernel) (by decide +kernel)) <|
  am_c (ok_aload_n (k := 0) (by decide +kernel) rfl) <|
  am_c (ok_get (by decide +kernel) (by decide +kernel) rfl (by decide +kernel) kw_417) <|
  am_c (ok_iload_n (k := 2) (by decide +kernel) rfl) <|
  am_c (ok_zald (by decide +kernel)) <|
  am_c (ok_ifne (off := 19) (by decide +kernel) (by decide +kernel)) <|
  am_c (ok_aload_n (k := 0) (by decide +kernel) rfl) <|
  am_c (ok_get (by decide +kernel) (by decide +kernel) rfl (by decide +kernel) kw_476) <|
  am_c (ok_ifne (off := 12) (by decide +kernel) (by decide +kernel)) <|
  am_n
def k_c126_2 : List (Nat × am_A) := [(89, ac_aload 0 90), (90, ac_push (.int 92) 92), (92, ac_callS 125 1 95), (95, ac_callV 6 106 2 98 am_nohd), (98, ac_ret)]
theorem k_p126_2 : ∀ q ∈ k_c126_2, am_Ok k_nm D cA B0 sb H00 (k_Th B0 sb H00) prog_8_method_37_code "TokenMouthModel" "string" [] none q.1 q.2 :=
  am_c (ok_aload_n (k := 0) (by decide +kernel) rfl) <|
  am_c (ok_bipush (z := 92) (by decide +kernel) (by decide +kernel)) <|
  am_c (ok_callS (by decide +kernel) kw_570 kw_571 kw_488 kw_569 (by decide +kernel) (by decide +kernel)) <|
  am_c (ok_callV (by decide +kernel) (by decide +kernel) kw_562 kw_563 kw_564 kw_561 (by decide +kernel) (by decide +kernel)) <|
  am_c (ok_ret (by decide +kernel) rfl) <|
  am_n
def k_t126 : List (Nat × List (Nat × am_A)) := [(39, k_c126_0), (86, k_c126_1), (98, k_c126_2)]
theorem k_o126 : ∀ c ∈ k_t126, ∀ q ∈ c.2, am_Ok k_nm D cA B0 sb H00 (k_Th B0 sb H00) prog_8_method_37_code "TokenMouthModel" "string" [] none q.1 q.2 := am_cc (P := fun pc a => am_Ok k_nm D cA B0 sb H00 (k_Th B0 sb H00) prog_8_method_37_code "TokenMouthModel" "string" [] none pc a) k_p126_0 <| am_cc (P := fun pc a => am_Ok k_nm D cA B0 sb H00 (k_Th B0 sb H00) prog_8_method_37_code "TokenMouthModel" "string" [] none pc a) k_p126_1 <| am_cc (P := fun pc a => am_Ok k_nm D cA B0 sb H00 (k_Th B0 sb H00) prog_8_method_37_code "TokenMouthModel" "string" [] none pc a) k_p126_2 <| am_cn0
-- 127: TokenMouthModel.push(III)V
def k_c127_0 : List (Nat × am_A) := [(0, ac_aload 0 1), (1, ac_get 2 6 32 4), (4, ac_aload 0 5), (5, ac_get 0 6 31 8), (8, ac_iload 1 9), (9, ac_iast 10), (10, ac_aload 0 11), (11, ac_get 2 6 33 14), (14, ac_aload 0 15), (15, ac_get 0 6 31 18), (18, ac_iload 2 19), (19, ac_iast 20), (20, ac_aload 0 21), (21, ac_get 2 6 34 24), (24, ac_aload 0 25), (25, ac_get 0 6 31 28), (28, ac_push (.int 0) 29), (29, ac_iast 30), (30, ac_aload 0 31), (31, ac_get 2 6 35 34), (34, ac_aload 0 35), (35, ac_get 0 6 31 38), (38, ac_iload 3 39), (39, ac_iast 40)]
theorem k_p127_0 : ∀ q ∈ k_c127_0, am_Ok k_nm D cA B0 sb H00 (k_Th B0 sb H00) prog_8_method_38_code "TokenMouthModel" "push" [] none q.1 q.2 :=
  am_c (ok_aload_n (k := 0) (by decide +kernel) rfl) <|
  am_c (ok_get (by decide +kernel) (by decide +kernel) rfl (by decide +kernel) kw_429) <|
  am_c (ok_aload_n (k := 0) (by decide +kernel) rfl) <|
  am_c (ok_get (by decide +kernel) (by decide +kernel) rfl (by decide +kernel) kw_483) <|
  am_c (ok_iload_n (k := 1) (by decide +kernel) rfl) <|
  am_c (ok_iast (by decide +kernel)) <|
  am_c (ok_aload_n (k := 0) (by decide +kernel) rfl) <|
  am_c (ok_get (by decide +kernel) (by decide +kernel) rfl (by decide +kernel) kw_430) <|
  am_c (ok_aload_n (k := 0) (by decide +kernel) rfl) <|
  am_c (ok_get (by decide +kernel) (by decide +kernel) rfl (by decide +kernel) kw_483) <|
  am_c (ok_iload_n (k := 2) (by decide +kernel) rfl) <|
  am_c (ok_iast (by decide +kernel)) <|
  am_c (ok_aload_n (k := 0) (by decide +kernel) rfl) <|
  am_c (ok_get (by decide +kernel) (by decide +kernel) rfl (by decide +kernel) kw_431) <|
  am_c (ok_aload_n (k := 0) (by decide +kernel) rfl) <|
  am_c (ok_get (by decide +kernel) (by decide +kernel) rfl (by decide +kernel) kw_483) <|
  am_c (ok_iconst (z := 0) (by decide +kernel) (by decide +kernel)) <|
  am_c (ok_iast (by decide +kernel)) <|
  am_c (ok_aload_n (k := 0) (by decide +kernel) rfl) <|
  am_c (ok_get (by decide +kernel) (by decide +kernel) rfl (by decide +kernel) kw_432) <|
  am_c (ok_aload_n (k := 0) (by decide +kernel) rfl) <|
  am_c (ok_get (by decide +kernel) (by decide +kernel) rfl (by decide +kernel) kw_483) <|
  am_c (ok_iload_n (k := 3) (by decide +kernel) rfl) <|
  am_c (ok_iast (by decide +kernel)) <|
  am_n
def k_c127_1 : List (Nat × am_A) := [(40, ac_aload 0 41), (41, ac_dup 42), (42, ac_get 0 6 31 45), (45, ac_push (.int 1) 46), (46, ac_ii (fun x y => x + y) 47), (47, ac_putI 6 31 50), (50, ac_ret)]
theorem k_p127_1 : ∀ q ∈ k_c127_1, am_Ok k_nm D cA B0 sb H00 (k_Th B0 sb H00) prog_8_method_38_code "TokenMouthModel" "push" [] none q.1 q.2 :=
  am_c (ok_aload_n (k := 0) (by decide +kernel) rfl) <|
  am_c (ok_dup (by decide +kernel)) <|
  am_c (ok_get (by decide +kernel) (by decide +kernel) rfl (by decide +kernel) kw_483) <|
  am_c (ok_iconst (z := 1) (by decide +kernel) (by decide +kernel)) <|
  am_c (ok_iadd (by decide +kernel)) <|
  am_c (ok_putI (by decide +kernel) (by decide +kernel) rfl (by decide +kernel) kw_483 rfl) <|
  am_c (ok_ret (by decide +kernel) rfl) <|
  am_n
def k_t127 : List (Nat × List (Nat × am_A)) := [(39, k_c127_0), (50, k_c127_1)]
theorem k_o127 : ∀ c ∈ k_t127, ∀ q ∈ c.2, am_Ok k_nm D cA B0 sb H00 (k_Th B0 sb H00) prog_8_method_38_code "TokenMouthModel" "push" [] none q.1 q.2 := am_cc (P := fun pc a => am_Ok k_nm D cA B0 sb H00 (k_Th B0 sb H00) prog_8_method_38_code "TokenMouthModel" "push" [] none pc a) k_p127_0 <| am_cc (P := fun pc a => am_Ok k_nm D cA B0 sb H00 (k_Th B0 sb H00) prog_8_method_38_code "TokenMouthModel" "push" [] none pc a) k_p127_1 <| am_cn0
-- 128: TokenMouthModel.begin(I)I
def k_c128_0 : List (Nat × am_A) := [(0, ac_aload 0 1), (1, ac_get 0 6 7 4), (4, ac_push (.int 200) 7), (7, ac_if2 (fun x y => x = y) 19 10), (10, ac_aload 0 11), (11, ac_get 0 6 31 14), (14, ac_push (.int 30) 16), (16, ac_if2 (fun x y => ¬ x = y) 25 19), (19, ac_aload 0 20), (20, ac_push (.int 5) 21), (21, ac_callV 6 98 2 24 am_nohd), (24, ac_iret), (25, ac_aload 0 26), (26, ac_dup 27), (27, ac_get 0 6 7 30), (30, ac_push (.int 1) 31), (31, ac_ii (fun x y => x + y) 32), (32, ac_putI 6 7 35), (35, ac_aload 0 36), (36, ac_iload 1 37), (37, ac_callV 6 111 2 40 am_nohd), (40, ac_istore 2 41), (41, ac_iload 2 42), (42, ac_push (.int 6000) 45)]
theorem k_p128_0 : ∀ q ∈ k_c128_0, am_Ok k_nm D cA B0 sb H00 (k_Th B0 sb H00) prog_8_method_39_code "TokenMouthModel" "begin" [] (some .int) q.1 q.2 :=
  am_c (ok_aload_n (k := 0) (by decide +kernel) rfl) <|
  am_c (ok_get (by decide +kernel) (by decide +kernel) rfl (by decide +kernel) kw_572) <|
  am_c (ok_sipush (z := 200) (by decide +kernel) (by decide +kernel)) <|
  am_c (ok_icmpeq (off := 12) (by decide +kernel) (by decide +kernel)) <|
  am_c (ok_aload_n (k := 0) (by decide +kernel) rfl) <|
  am_c (ok_get (by decide +kernel) (by decide +kernel) rfl (by decide +kernel) kw_483) <|
  am_c (ok_bipush (z := 30) (by decide +kernel) (by decide +kernel)) <|
  am_c (ok_icmpne (off := 9) (by decide +kernel) (by decide +kernel)) <|
  am_c (ok_aload_n (k := 0) (by decide +kernel) rfl) <|
  am_c (ok_iconst (z := 5) (by decide +kernel) (by decide +kernel)) <|
  am_c (ok_callV (by decide +kernel) (by decide +kernel) kw_498 kw_499 kw_500 kw_497 (by decide +kernel) (by decide +kernel)) <|
  am_c (ok_iret (by decide +kernel) rfl) <|
  am_c (ok_aload_n (k := 0) (by decide +kernel) rfl) <|
  am_c (ok_dup (by decide +kernel)) <|
  am_c (ok_get (by decide +kernel) (by decide +kernel) rfl (by decide +kernel) kw_572) <|
  am_c (ok_iconst (z := 1) (by decide +kernel) (by decide +kernel)) <|
  am_c (ok_iadd (by decide +kernel)) <|
  am_c (ok_putI (by decide +kernel) (by decide +kernel) rfl (by decide +kernel) kw_572 rfl) <|
  am_c (ok_aload_n (k := 0) (by decide +kernel) rfl) <|
  am_c (ok_iload_n (k := 1) (by decide +kernel) rfl) <|
  am_c (ok_callV (by decide +kernel) (by decide +kernel) kw_528 kw_529 kw_530 kw_527 (by decide +kernel) (by decide +kernel)) <|
  am_c (ok_istore_n (k := 2) (by decide +kernel) rfl) <|
  am_c (ok_iload_n (k := 2) (by decide +kernel) rfl) <|
  am_c (ok_sipush (z := 6000) (by decide +kernel) (by decide +kernel)) <|
  am_n
def k_c128_1 : List (Nat × am_A) := [(45, ac_if2 (fun x y => x < y) 60 48), (48, ac_aload 0 49), (49, ac_iload 2 50), (50, ac_push (.int 6000) 53), (53, ac_ii (fun x y => x - y) 54), (54, ac_callV 6 120 2 57 am_nohd), (57, ac_goto 254), (60, ac_iload 2 61), (61, ac_push (.int 8) 63), (63, ac_if2 (fun x y => ¬ x = y) 131 66), (66, ac_aload 0 67), (67, ac_callV 6 105 1 70 am_nohd), (70, ac_istore 3 71), (71, ac_iload 3 72), (72, ac_push (.int (-1)) 73), (73, ac_if2 (fun x y => ¬ x = y) 80 76), (76, ac_push (.int (-1)) 77), (77, ac_goto 84), (80, ac_aload 0 81), (81, ac_callV 6 105 1 84 am_nohd), (84, ac_istore 4 86), (86, ac_iload 4 88), (88, ac_push (.int (-1)) 89), (89, ac_if2 (fun x y => x = y) 111 92)]
theorem k_p128_1 : ∀ q ∈ k_c128_1, am_Ok k_nm D cA B0 sb H00 (k_Th B0 sb H00) prog_8_method_39_code "TokenMouthModel" "begin" [] (some .int) q.1 q.2 :=
  am_c (ok_icmplt (off := 15) (by decide +kernel) (by decide +kernel)) <|
  am_c (ok_aload_n (k := 0) (by decide +kernel) rfl) <|
  am_c (ok_iload_n (k := 2) (by decide +kernel) rfl) <|
  am_c (ok_sipush (z := 6000) (by decide +kernel) (by decide +kernel)) <|
  am_c (ok_isub (by decide +kernel)) <|
  am_c (ok_callV (by decide +kernel) (by decide +kernel) kw_574 kw_575 kw_576 kw_573 (by decide +kernel) (by decide +kernel)) <|
  am_c (ok_goto (off := 197) (by decide +kernel) (by decide +kernel)) <|
  am_c (ok_iload_n (k := 2) (by decide +kernel) rfl) <|
  am_c (ok_bipush (z := 8) (by decide +kernel) (by decide +kernel)) <|
  am_c (ok_icmpne (off := 68) (by decide +kernel) (by decide +kernel)) <|
  am_c (ok_aload_n (k := 0) (by decide +kernel) rfl) <|
  am_c (ok_callV (by decide +kernel) (by decide +kernel) kw_550 kw_551 kw_552 kw_549 (by decide +kernel) (by decide +kernel)) <|
  am_c (ok_istore_n (k := 3) (by decide +kernel) rfl) <|
  am_c (ok_iload_n (k := 3) (by decide +kernel) rfl) <|
  am_c (ok_iconst (z := -1) (by decide +kernel) (by decide +kernel)) <|
  am_c (ok_icmpne (off := 7) (by decide +kernel) (by decide +kernel)) <|
  am_c (ok_iconst (z := -1) (by decide +kernel) (by decide +kernel)) <|
  am_c (ok_goto (off := 7) (by decide +kernel) (by decide +kernel)) <|
  am_c (ok_aload_n (k := 0) (by decide +kernel) rfl) <|
  am_c (ok_callV (by decide +kernel) (by decide +kernel) kw_550 kw_551 kw_552 kw_549 (by decide +kernel) (by decide +kernel)) <|
  am_c (ok_istore (by decide +kernel)) <|
  am_c (ok_iload (by decide +kernel)) <|
  am_c (ok_iconst (z := -1) (by decide +kernel) (by decide +kernel)) <|
  am_c (ok_icmpeq (off := 22) (by decide +kernel) (by decide +kernel)) <|
  am_n
def k_c128_2 : List (Nat × am_A) := [(92, ac_aload 0 93), (93, ac_iload 4 95), (95, ac_callV 6 112 2 98 am_nohd), (98, ac_if1 (fun x => x = 0) 111 101), (101, ac_aload 0 102), (102, ac_iload 2 103), (103, ac_iload 3 104), (104, ac_push (.int 0) 105), (105, ac_callV 6 127 4 108 am_nohd), (108, ac_iload 4 110), (110, ac_iret), (111, ac_iload 4 113), (113, ac_push (.int (-1)) 114), (114, ac_if2 (fun x y => x = y) 128 117), (117, ac_aload 0 118), (118, ac_iload 4 120), (120, ac_callV 6 106 2 123 am_nohd), (123, ac_aload 0 124), (124, ac_iload 3 125), (125, ac_callV 6 106 2 128 am_nohd), (128, ac_goto 254), (131, ac_iload 2 132), (132, ac_push (.int 9) 134), (134, ac_if2 (fun x y => ¬ x = y) 178 137)]
theorem k_p128_2 : ∀ q ∈ k_c128_2, am_Ok k_nm D cA B0 sb H00 (k_Th B0 sb H00) prog_8_method_39_code "TokenMouthModel" "begin" [] (some .int) q.1 q.2 :=
  am_c (ok_aload_n (k := 0) (by decide +kernel) rfl) <|
  am_c (ok_iload (by decide +kernel)) <|
  am_c (ok_callV (by decide +kernel) (by decide +kernel) kw_578 kw_579 kw_580 kw_577 (by decide +kernel) (by decide +kernel)) <|
  am_c (ok_ifeq (off := 13) (by decide +kernel) (by decide +kernel)) <|
  am_c (ok_aload_n (k := 0) (by decide +kernel) rfl) <|
  am_c (ok_iload_n (k := 2) (by decide +kernel) rfl) <|
  am_c (ok_iload_n (k := 3) (by decide +kernel) rfl) <|
  am_c (ok_iconst (z := 0) (by decide +kernel) (by decide +kernel)) <|
  am_c (ok_callV (by decide +kernel) (by decide +kernel) kw_582 kw_583 kw_584 kw_581 (by decide +kernel) (by decide +kernel)) <|
  am_c (ok_iload (by decide +kernel)) <|
  am_c (ok_iret (by decide +kernel) rfl) <|
  am_c (ok_iload (by decide +kernel)) <|
  am_c (ok_iconst (z := -1) (by decide +kernel) (by decide +kernel)) <|
  am_c (ok_icmpeq (off := 14) (by decide +kernel) (by decide +kernel)) <|
  am_c (ok_aload_n (k := 0) (by decide +kernel) rfl) <|
  am_c (ok_iload (by decide +kernel)) <|
  am_c (ok_callV (by decide +kernel) (by decide +kernel) kw_562 kw_563 kw_564 kw_561 (by decide +kernel) (by decide +kernel)) <|
  am_c (ok_aload_n (k := 0) (by decide +kernel) rfl) <|
  am_c (ok_iload_n (k := 3) (by decide +kernel) rfl) <|
  am_c (ok_callV (by decide +kernel) (by decide +kernel) kw_562 kw_563 kw_564 kw_561 (by decide +kernel) (by decide +kernel)) <|
  am_c (ok_goto (off := 126) (by decide +kernel) (by decide +kernel)) <|
  am_c (ok_iload_n (k := 2) (by decide +kernel) rfl) <|
  am_c (ok_bipush (z := 9) (by decide +kernel) (by decide +kernel)) <|
  am_c (ok_icmpne (off := 44) (by decide +kernel) (by decide +kernel)) <|
  am_n
def k_c128_3 : List (Nat × am_A) := [(137, ac_aload 0 138), (138, ac_callV 6 105 1 141 am_nohd), (141, ac_istore 3 142), (142, ac_iload 3 143), (143, ac_push (.int (-1)) 144), (144, ac_if2 (fun x y => x = y) 175 147), (147, ac_aload 0 148), (148, ac_iload 3 149), (149, ac_callS 107 1 152), (152, ac_if1 (fun x => x = 0) 171 155), (155, ac_aload 0 156), (156, ac_iload 3 157), (157, ac_callV 6 112 2 160 am_nohd), (160, ac_if1 (fun x => x = 0) 171 163), (163, ac_iload 3 164), (164, ac_push (.int 8192) 167), (167, ac_ii (fun x y => x + y) 168), (168, ac_goto 172), (171, ac_iload 3 172), (172, ac_callV 6 106 2 175 am_nohd), (175, ac_goto 254), (178, ac_iload 2 179), (179, ac_push (.int 12) 181), (181, ac_if2 (fun x y => ¬ x = y) 202 184)]
theorem k_p128_3 : ∀ q ∈ k_c128_3, am_Ok k_nm D cA B0 sb H00 (k_Th B0 sb H00) prog_8_method_39_code "TokenMouthModel" "begin" [] (some .int) q.1 q.2 :=
  am_c (ok_aload_n (k := 0) (by decide +kernel) rfl) <|
  am_c (ok_callV (by decide +kernel) (by decide +kernel) kw_550 kw_551 kw_552 kw_549 (by decide +kernel) (by decide +kernel)) <|
  am_c (ok_istore_n (k := 3) (by decide +kernel) rfl) <|
  am_c (ok_iload_n (k := 3) (by decide +kernel) rfl) <|
  am_c (ok_iconst (z := -1) (by decide +kernel) (by decide +kernel)) <|
  am_c (ok_icmpeq (off := 31) (by decide +kernel) (by decide +kernel)) <|
  am_c (ok_aload_n (k := 0) (by decide +kernel) rfl) <|
  am_c (ok_iload_n (k := 3) (by decide +kernel) rfl) <|
  am_c (ok_callS (by decide +kernel) kw_522 kw_523 kw_488 kw_521 (by decide +kernel) (by decide +kernel)) <|
  am_c (ok_ifeq (off := 19) (by decide +kernel) (by decide +kernel)) <|
  am_c (ok_aload_n (k := 0) (by decide +kernel) rfl) <|
  am_c (ok_iload_n (k := 3) (by decide +kernel) rfl) <|
  am_c (ok_callV (by decide +kernel) (by decide +kernel) kw_578 kw_579 kw_580 kw_577 (by decide +kernel) (by decide +kernel)) <|
  am_c (ok_ifeq (off := 11) (by decide +kernel) (by decide +kernel)) <|
  am_c (ok_iload_n (k := 3) (by decide +kernel) rfl) <|
  am_c (ok_sipush (z := 8192) (by decide +kernel) (by decide +kernel)) <|
  am_c (ok_iadd (by decide +kernel)) <|
  am_c (ok_goto (off := 4) (by decide +kernel) (by decide +kernel)) <|
  am_c (ok_iload_n (k := 3) (by decide +kernel) rfl) <|
  am_c (ok_callV (by decide +kernel) (by decide +kernel) kw_562 kw_563 kw_564 kw_561 (by decide +kernel) (by decide +kernel)) <|
  am_c (ok_goto (off := 79) (by decide +kernel) (by decide +kernel)) <|
  am_c (ok_iload_n (k := 2) (by decide +kernel) rfl) <|
  am_c (ok_bipush (z := 12) (by decide +kernel) (by decide +kernel)) <|
  am_c (ok_icmpne (off := 21) (by decide +kernel) (by decide +kernel)) <|
  am_n
def k_c128_4 : List (Nat × am_A) := [(184, ac_aload 0 185), (185, ac_callV 6 105 1 188 am_nohd), (188, ac_istore 3 189), (189, ac_iload 3 190), (190, ac_push (.int (-1)) 191), (191, ac_if2 (fun x y => x = y) 199 194), (194, ac_aload 0 195), (195, ac_iload 3 196), (196, ac_callV 6 126 2 199 am_nohd), (199, ac_goto 254), (202, ac_iload 2 203), (203, ac_push (.int 10) 205), (205, ac_if2 (fun x y => ¬ x = y) 218 208), (208, ac_aload 0 209), (209, ac_iload 2 210), (210, ac_push (.int 0) 211), (211, ac_push (.int 0) 212), (212, ac_callV 6 127 4 215 am_nohd), (215, ac_goto 254), (218, ac_iload 2 219), (219, ac_push (.int 17) 221), (221, ac_if2 (fun x y => x = y) 230 224), (224, ac_iload 2 225), (225, ac_push (.int 18) 227)]
theorem k_p128_4 : ∀ q ∈ k_c128_4, am_Ok k_nm D cA B0 sb H00 (k_Th B0 sb H00) prog_8_method_39_code "TokenMouthModel" "begin" [] (some .int) q.1 q.2 :=
  am_c (ok_aload_n (k := 0) (by decide +kernel) rfl) <|
  am_c (ok_callV (by decide +kernel) (by decide +kernel) kw_550 kw_551 kw_552 kw_549 (by decide +kernel) (by decide +kernel)) <|
  am_c (ok_istore_n (k := 3) (by decide +kernel) rfl) <|
  am_c (ok_iload_n (k := 3) (by decide +kernel) rfl) <|
  am_c (ok_iconst (z := -1) (by decide +kernel) (by decide +kernel)) <|
  am_c (ok_icmpeq (off := 8) (by decide +kernel) (by decide +kernel)) <|
  am_c (ok_aload_n (k := 0) (by decide +kernel) rfl) <|
  am_c (ok_iload_n (k := 3) (by decide +kernel) rfl) <|
  am_c (ok_callV (by decide +kernel) (by decide +kernel) kw_586 kw_587 kw_588 kw_585 (by decide +kernel) (by decide +kernel)) <|
  am_c (ok_goto (off := 55) (by decide +kernel) (by decide +kernel)) <|
  am_c (ok_iload_n (k := 2) (by decide +kernel) rfl) <|
  am_c (ok_bipush (z := 10) (by decide +kernel) (by decide +kernel)) <|
  am_c (ok_icmpne (off := 13) (by decide +kernel) (by decide +kernel)) <|
  am_c (ok_aload_n (k := 0) (by decide +kernel) rfl) <|
  am_c (ok_iload_n (k := 2) (by decide +kernel) rfl) <|
  am_c (ok_iconst (z := 0) (by decide +kernel) (by decide +kernel)) <|
  am_c (ok_iconst (z := 0) (by decide +kernel) (by decide +kernel)) <|
  am_c (ok_callV (by decide +kernel) (by decide +kernel) kw_582 kw_583 kw_584 kw_581 (by decide +kernel) (by decide +kernel)) <|
  am_c (ok_goto (off := 39) (by decide +kernel) (by decide +kernel)) <|
  am_c (ok_iload_n (k := 2) (by decide +kernel) rfl) <|
  am_c (ok_bipush (z := 17) (by decide +kernel) (by decide +kernel)) <|
  am_c (ok_icmpeq (off := 9) (by decide +kernel) (by decide +kernel)) <|
  am_c (ok_iload_n (k := 2) (by decide +kernel) rfl) <|
  am_c (ok_bipush (z := 18) (by decide +kernel) (by decide +kernel)) <|
  am_n
def k_c128_5 : List (Nat × am_A) := [(227, ac_if2 (fun x y => ¬ x = y) 238 230), (230, ac_aload 0 231), (231, ac_iload 2 232), (232, ac_callV 6 129 2 235 am_nohd), (235, ac_goto 254), (238, ac_aload 0 239), (239, ac_callV 6 121 1 242 am_nohd), (242, ac_aload 0 243), (243, ac_get 0 6 5 246), (246, ac_if1 (fun x => ¬ x = 0) 254 249), (249, ac_aload 0 250), (250, ac_iload 2 251), (251, ac_callV 6 130 2 254 am_nohd), (254, ac_push (.int (-1)) 255), (255, ac_iret)]
theorem k_p128_5 : ∀ q ∈ k_c128_5, am_Ok k_nm D cA B0 sb H00 (k_Th B0 sb H00) prog_8_method_39_code "TokenMouthModel" "begin" [] (some .int) q.1 q.2 :=
  am_c (ok_icmpne (off := 11) (by decide +kernel) (by decide +kernel)) <|
  am_c (ok_aload_n (k := 0) (by decide +kernel) rfl) <|
  am_c (ok_iload_n (k := 2) (by decide +kernel) rfl) <|
  am_c (ok_callV (by decide +kernel) (by decide +kernel) kw_590 kw_591 kw_592 kw_589 (by decide +kernel) (by decide +kernel)) <|
  am_c (ok_goto (off := 19) (by decide +kernel) (by decide +kernel)) <|
  am_c (ok_aload_n (k := 0) (by decide +kernel) rfl) <|
  am_c (ok_callV (by decide +kernel) (by decide +kernel) kw_594 kw_595 kw_596 kw_593 (by decide +kernel) (by decide +kernel)) <|
  am_c (ok_aload_n (k := 0) (by decide +kernel) rfl) <|
  am_c (ok_get (by decide +kernel) (by decide +kernel) rfl (by decide +kernel) kw_476) <|
  am_c (ok_ifne (off := 8) (by decide +kernel) (by decide +kernel)) <|
  am_c (ok_aload_n (k := 0) (by decide +kernel) rfl) <|
  am_c (ok_iload_n (k := 2) (by decide +kernel) rfl) <|
  am_c (ok_callV (by decide +kernel) (by decide +kernel) kw_598 kw_599 kw_600 kw_597 (by decide +kernel) (by decide +kernel)) <|
  am_c (ok_iconst (z := -1) (by decide +kernel) (by decide +kernel)) <|
  am_c (ok_iret (by decide +kernel) rfl) <|
  am_n
def k_t128 : List (Nat × List (Nat × am_A)) := [(42, k_c128_0), (89, k_c128_1), (134, k_c128_2), (181, k_c128_3), (225, k_c128_4), (255, k_c128_5)]
theorem k_o128 : ∀ c ∈ k_t128, ∀ q ∈ c.2, am_Ok k_nm D cA B0 sb H00 (k_Th B0 sb H00) prog_8_method_39_code "TokenMouthModel" "begin" [] (some .int) q.1 q.2 := am_cc (P := fun pc a => am_Ok k_nm D cA B0 sb H00 (k_Th B0 sb H00) prog_8_method_39_code "TokenMouthModel" "begin" [] (some .int) pc a) k_p128_0 <| am_cc (P := fun pc a => am_Ok k_nm D cA B0 sb H00 (k_Th B0 sb H00) prog_8_method_39_code "TokenMouthModel" "begin" [] (some .int) pc a) k_p128_1 <| am_cc (P := fun pc a => am_Ok k_nm D cA B0 sb H00 (k_Th B0 sb H00) prog_8_method_39_code "TokenMouthModel" "begin" [] (some .int) pc a) k_p128_2 <| am_cc (P := fun pc a => am_Ok k_nm D cA B0 sb H00 (k_Th B0 sb H00) prog_8_method_39_code "TokenMouthModel" "begin" [] (some .int) pc a) k_p128_3 <| am_cc (P := fun pc a => am_Ok k_nm D cA B0 sb H00 (k_Th B0 sb H00) prog_8_method_39_code "TokenMouthModel" "begin" [] (some .int) pc a) k_p128_4 <| am_cc (P := fun pc a => am_Ok k_nm D cA B0 sb H00 (k_Th B0 sb H00) prog_8_method_39_code "TokenMouthModel" "begin" [] (some .int) pc a) k_p128_5 <| am_cn0
-- 129: TokenMouthModel.close(I)V
def k_c129_0 : List (Nat × am_A) := [(0, ac_aload 0 1), (1, ac_get 0 6 29 4), (4, ac_if1 (fun x => x ≤ 0) 49 7), (7, ac_iload 1 8), (8, ac_push (.int 17) 10), (10, ac_if2 (fun x y => ¬ x = y) 31 13), (13, ac_aload 0 14), (14, ac_get 2 6 30 17), (17, ac_aload 0 18), (18, ac_get 0 6 29 21), (21, ac_push (.int 1) 22), (22, ac_ii (fun x y => x - y) 23), (23, ac_iald 0 24), (24, ac_push (.int 1) 25), (25, ac_if2 (fun x y => ¬ x = y) 49 28), (28, ac_goto 45), (31, ac_aload 0 32), (32, ac_get 2 6 30 35), (35, ac_aload 0 36), (36, ac_get 0 6 29 39), (39, ac_push (.int 1) 40), (40, ac_ii (fun x y => x - y) 41), (41, ac_iald 0 42), (42, ac_if1 (fun x => x ≤ 0) 49 45)]
theorem k_p129_0 : ∀ q ∈ k_c129_0, am_Ok k_nm D cA B0 sb H00 (k_Th B0 sb H00) prog_8_method_40_code "TokenMouthModel" "close" [] none q.1 q.2 :=
  am_c (ok_aload_n (k := 0) (by decide +kernel) rfl) <|
  am_c (ok_get (by decide +kernel) (by decide +kernel) rfl (by decide +kernel) kw_482) <|
  am_c (ok_ifle (off := 45) (by decide +kernel) (by decide +kernel)) <|
  am_c (ok_iload_n (k := 1) (by decide +kernel) rfl) <|
  am_c (ok_bipush (z := 17) (by decide +kernel) (by decide +kernel)) <|
  am_c (ok_icmpne (off := 21) (by decide +kernel) (by decide +kernel)) <|
  am_c (ok_aload_n (k := 0) (by decide +kernel) rfl) <|
  am_c (ok_get (by decide +kernel) (by decide +kernel) rfl (by decide +kernel) kw_428) <|
  am_c (ok_aload_n (k := 0) (by decide +kernel) rfl) <|
  am_c (ok_get (by decide +kernel) (by decide +kernel) rfl (by decide +kernel) kw_482) <|
  am_c (ok_iconst (z := 1) (by decide +kernel) (by decide +kernel)) <|
  am_c (ok_isub (by decide +kernel)) <|
  am_c (ok_iald (by decide +kernel)) <|
  am_c (ok_iconst (z := 1) (by decide +kernel) (by decide +kernel)) <|
  am_c (ok_icmpne (off := 24) (by decide +kernel) (by decide +kernel)) <|
  am_c (ok_goto (off := 17) (by decide +kernel) (by decide +kernel)) <|
  am_c (ok_aload_n (k := 0) (by decide +kernel) rfl) <|
  am_c (ok_get (by decide +kernel) (by decide +kernel) rfl (by decide +kernel) kw_428) <|
  am_c (ok_aload_n (k := 0) (by decide +kernel) rfl) <|
  am_c (ok_get (by decide +kernel) (by decide +kernel) rfl (by decide +kernel) kw_482) <|
  am_c (ok_iconst (z := 1) (by decide +kernel) (by decide +kernel)) <|
  am_c (ok_isub (by decide +kernel)) <|
  am_c (ok_iald (by decide +kernel)) <|
  am_c (ok_ifle (off := 7) (by decide +kernel) (by decide +kernel)) <|
  am_n
def k_c129_1 : List (Nat × am_A) := [(45, ac_push (.int 1) 46), (46, ac_goto 50), (49, ac_push (.int 0) 50), (50, ac_istore 2 51), (51, ac_iload 2 52), (52, ac_if1 (fun x => ¬ x = 0) 62 55), (55, ac_aload 0 56), (56, ac_push (.int 1) 57), (57, ac_callV 6 98 2 60 am_nohd), (60, ac_istore 3 61), (61, ac_ret), (62, ac_iload 1 63), (63, ac_push (.int 17) 65), (65, ac_if2 (fun x y => ¬ x = y) 80 68), (68, ac_aload 0 69), (69, ac_push (.int 0) 70), (70, ac_callV 6 122 2 73 am_nohd), (73, ac_if1 (fun x => x = 0) 80 76), (76, ac_push (.int 1) 77), (77, ac_goto 81), (80, ac_push (.int 0) 81), (81, ac_istore 3 82), (82, ac_aload 0 83), (83, ac_dup 84)]
theorem k_p129_1 : ∀ q ∈ k_c129_1, am_Ok k_nm D cA B0 sb H00 (k_Th B0 sb H00) prog_8_method_40_code "TokenMouthModel" "close" [] none q.1 q.2 :=
  am_c (ok_iconst (z := 1) (by decide +kernel) (by decide +kernel)) <|
  am_c (ok_goto (off := 4) (by decide +kernel) (by decide +kernel)) <|
  am_c (ok_iconst (z := 0) (by decide +kernel) (by decide +kernel)) <|
  am_c (ok_istore_n (k := 2) (by decide +kernel) rfl) <|
  am_c (ok_iload_n (k := 2) (by decide +kernel) rfl) <|
  am_c (ok_ifne (off := 10) (by decide +kernel) (by decide +kernel)) <|
  am_c (ok_aload_n (k := 0) (by decide +kernel) rfl) <|
  am_c (ok_iconst (z := 1) (by decide +kernel) (by decide +kernel)) <|
  am_c (ok_callV (by decide +kernel) (by decide +kernel) kw_498 kw_499 kw_500 kw_497 (by decide +kernel) (by decide +kernel)) <|
  am_c (ok_istore_n (k := 3) (by decide +kernel) rfl) <|
  am_c (ok_ret (by decide +kernel) rfl) <|
  am_c (ok_iload_n (k := 1) (by decide +kernel) rfl) <|
  am_c (ok_bipush (z := 17) (by decide +kernel) (by decide +kernel)) <|
  am_c (ok_icmpne (off := 15) (by decide +kernel) (by decide +kernel)) <|
  am_c (ok_aload_n (k := 0) (by decide +kernel) rfl) <|
  am_c (ok_iconst (z := 0) (by decide +kernel) (by decide +kernel)) <|
  am_c (ok_callV (by decide +kernel) (by decide +kernel) kw_566 kw_567 kw_568 kw_565 (by decide +kernel) (by decide +kernel)) <|
  am_c (ok_ifeq (off := 7) (by decide +kernel) (by decide +kernel)) <|
  am_c (ok_iconst (z := 1) (by decide +kernel) (by decide +kernel)) <|
  am_c (ok_goto (off := 4) (by decide +kernel) (by decide +kernel)) <|
  am_c (ok_iconst (z := 0) (by decide +kernel) (by decide +kernel)) <|
  am_c (ok_istore_n (k := 3) (by decide +kernel) rfl) <|
  am_c (ok_aload_n (k := 0) (by decide +kernel) rfl) <|
  am_c (ok_dup (by decide +kernel)) <|
  am_n
def k_c129_2 : List (Nat × am_A) := [(84, ac_get 0 6 29 87), (87, ac_aload 0 88), (88, ac_get 0 6 5 91), (91, ac_if1 (fun x => ¬ x = 0) 98 94), (94, ac_push (.int 1) 95), (95, ac_goto 99), (98, ac_push (.int 0) 99), (99, ac_ii (fun x y => x - y) 100), (100, ac_putI 6 29 103), (103, ac_ret)]
theorem k_p129_2 : ∀ q ∈ k_c129_2, am_Ok k_nm D cA B0 sb H00 (k_Th B0 sb H00) prog_8_method_40_code "TokenMouthModel" "close" [] none q.1 q.2 :=
  am_c (ok_get (by decide +kernel) (by decide +kernel) rfl (by decide +kernel) kw_482) <|
  am_c (ok_aload_n (k := 0) (by decide +kernel) rfl) <|
  am_c (ok_get (by decide +kernel) (by decide +kernel) rfl (by decide +kernel) kw_476) <|
  am_c (ok_ifne (off := 7) (by decide +kernel) (by decide +kernel)) <|
  am_c (ok_iconst (z := 1) (by decide +kernel) (by decide +kernel)) <|
  am_c (ok_goto (off := 4) (by decide +kernel) (by decide +kernel)) <|
  am_c (ok_iconst (z := 0) (by decide +kernel) (by decide +kernel)) <|
  am_c (ok_isub (by decide +kernel)) <|
  am_c (ok_putI (by decide +kernel) (by decide +kernel) rfl (by decide +kernel) kw_482 rfl) <|
  am_c (ok_ret (by decide +kernel) rfl) <|
  am_n
def k_t129 : List (Nat × List (Nat × am_A)) := [(42, k_c129_0), (83, k_c129_1), (103, k_c129_2)]
theorem k_o129 : ∀ c ∈ k_t129, ∀ q ∈ c.2, am_Ok k_nm D cA B0 sb H00 (k_Th B0 sb H00) prog_8_method_40_code "TokenMouthModel" "close" [] none q.1 q.2 := am_cc (P := fun pc a => am_Ok k_nm D cA B0 sb H00 (k_Th B0 sb H00) prog_8_method_40_code "TokenMouthModel" "close" [] none pc a) k_p129_0 <| am_cc (P := fun pc a => am_Ok k_nm D cA B0 sb H00 (k_Th B0 sb H00) prog_8_method_40_code "TokenMouthModel" "close" [] none pc a) k_p129_1 <| am_cc (P := fun pc a => am_Ok k_nm D cA B0 sb H00 (k_Th B0 sb H00) prog_8_method_40_code "TokenMouthModel" "close" [] none pc a) k_p129_2 <| am_cn0
-- 130: TokenMouthModel.test(I)V
def k_c130_0 : List (Nat × am_A) := [(0, ac_aload 0 1), (1, ac_get 0 6 29 4), (4, ac_push (.int 1) 5), (5, ac_ii (fun x y => x - y) 6), (6, ac_istore 2 7), (7, ac_iload 1 8), (8, ac_push (.int 13) 10), (10, ac_if2 (fun x y => ¬ x = y) 23 13), (13, ac_aload 0 14), (14, ac_iload 1 15), (15, ac_push (.int 0) 16), (16, ac_iload 2 17), (17, ac_callV 6 127 4 20 am_nohd), (20, ac_goto 94), (23, ac_iload 1 24), (24, ac_push (.int 14) 26), (26, ac_if2 (fun x y => ¬ x = y) 78 29), (29, ac_aload 0 30), (30, ac_callV 6 105 1 33 am_nohd), (33, ac_istore 3 34), (34, ac_iload 3 35), (35, ac_push (.int (-1)) 36), (36, ac_if2 (fun x y => ¬ x = y) 43 39), (39, ac_push (.int (-1)) 40)]
theorem k_p130_0 : ∀ q ∈ k_c130_0, am_Ok k_nm D cA B0 sb H00 (k_Th B0 sb H00) prog_8_method_41_code "TokenMouthModel" "test" [] none q.1 q.2 :=
  am_c (ok_aload_n (k := 0) (by decide +kernel) rfl) <|
  am_c (ok_get (by decide +kernel) (by decide +kernel) rfl (by decide +kernel) kw_482) <|
  am_c (ok_iconst (z := 1) (by decide +kernel) (by decide +kernel)) <|
  am_c (ok_isub (by decide +kernel)) <|
  am_c (ok_istore_n (k := 2) (by decide +kernel) rfl) <|
  am_c (ok_iload_n (k := 1) (by decide +kernel) rfl) <|
  am_c (ok_bipush (z := 13) (by decide +kernel) (by decide +kernel)) <|
  am_c (ok_icmpne (off := 13) (by decide +kernel) (by decide +kernel)) <|
  am_c (ok_aload_n (k := 0) (by decide +kernel) rfl) <|
  am_c (ok_iload_n (k := 1) (by decide +kernel) rfl) <|
  am_c (ok_iconst (z := 0) (by decide +kernel) (by decide +kernel)) <|
  am_c (ok_iload_n (k := 2) (by decide +kernel) rfl) <|
  am_c (ok_callV (by decide +kernel) (by decide +kernel) kw_582 kw_583 kw_584 kw_581 (by decide +kernel) (by decide +kernel)) <|
  am_c (ok_goto (off := 74) (by decide +kernel) (by decide +kernel)) <|
  am_c (ok_iload_n (k := 1) (by decide +kernel) rfl) <|
  am_c (ok_bipush (z := 14) (by decide +kernel) (by decide +kernel)) <|
  am_c (ok_icmpne (off := 52) (by decide +kernel) (by decide +kernel)) <|
  am_c (ok_aload_n (k := 0) (by decide +kernel) rfl) <|
  am_c (ok_callV (by decide +kernel) (by decide +kernel) kw_550 kw_551 kw_552 kw_549 (by decide +kernel) (by decide +kernel)) <|
  am_c (ok_istore_n (k := 3) (by decide +kernel) rfl) <|
  am_c (ok_iload_n (k := 3) (by decide +kernel) rfl) <|
  am_c (ok_iconst (z := -1) (by decide +kernel) (by decide +kernel)) <|
  am_c (ok_icmpne (off := 7) (by decide +kernel) (by decide +kernel)) <|
  am_c (ok_iconst (z := -1) (by decide +kernel) (by decide +kernel)) <|
  am_n
def k_c130_1 : List (Nat × am_A) := [(40, ac_goto 47), (43, ac_aload 0 44), (44, ac_callV 6 105 1 47 am_nohd), (47, ac_istore 4 49), (49, ac_iload 4 51), (51, ac_push (.int (-1)) 52), (52, ac_if2 (fun x y => x = y) 75 55), (55, ac_aload 0 56), (56, ac_iload 2 57), (57, ac_aload 0 58), (58, ac_aload 0 59), (59, ac_iload 3 60), (60, ac_callV 6 111 2 63 am_nohd), (63, ac_aload 0 64), (64, ac_iload 4 66), (66, ac_callV 6 111 2 69 am_nohd), (69, ac_callV 6 124 3 72 am_nohd), (72, ac_callV 6 123 3 75 am_nohd), (75, ac_goto 94), (78, ac_aload 0 79), (79, ac_iload 2 80), (80, ac_iload 1 81), (81, ac_push (.int 15) 83), (83, ac_if2 (fun x y => ¬ x = y) 90 86)]
theorem k_p130_1 : ∀ q ∈ k_c130_1, am_Ok k_nm D cA B0 sb H00 (k_Th B0 sb H00) prog_8_method_41_code "TokenMouthModel" "test" [] none q.1 q.2 :=
  am_c (ok_goto (off := 7) (by decide +kernel) (by decide +kernel)) <|
  am_c (ok_aload_n (k := 0) (by decide +kernel) rfl) <|
  am_c (ok_callV (by decide +kernel) (by decide +kernel) kw_550 kw_551 kw_552 kw_549 (by decide +kernel) (by decide +kernel)) <|
  am_c (ok_istore (by decide +kernel)) <|
  am_c (ok_iload (by decide +kernel)) <|
  am_c (ok_iconst (z := -1) (by decide +kernel) (by decide +kernel)) <|
  am_c (ok_icmpeq (off := 23) (by decide +kernel) (by decide +kernel)) <|
  am_c (ok_aload_n (k := 0) (by decide +kernel) rfl) <|
  am_c (ok_iload_n (k := 2) (by decide +kernel) rfl) <|
  am_c (ok_aload_n (k := 0) (by decide +kernel) rfl) <|
  am_c (ok_aload_n (k := 0) (by decide +kernel) rfl) <|
  am_c (ok_iload_n (k := 3) (by decide +kernel) rfl) <|
  am_c (ok_callV (by decide +kernel) (by decide +kernel) kw_528 kw_529 kw_530 kw_527 (by decide +kernel) (by decide +kernel)) <|
  am_c (ok_aload_n (k := 0) (by decide +kernel) rfl) <|
  am_c (ok_iload (by decide +kernel)) <|
  am_c (ok_callV (by decide +kernel) (by decide +kernel) kw_528 kw_529 kw_530 kw_527 (by decide +kernel) (by decide +kernel)) <|
  am_c (ok_callV (by decide +kernel) (by decide +kernel) kw_602 kw_603 kw_604 kw_601 (by decide +kernel) (by decide +kernel)) <|
  am_c (ok_callV (by decide +kernel) (by decide +kernel) kw_606 kw_607 kw_608 kw_605 (by decide +kernel) (by decide +kernel)) <|
  am_c (ok_goto (off := 19) (by decide +kernel) (by decide +kernel)) <|
  am_c (ok_aload_n (k := 0) (by decide +kernel) rfl) <|
  am_c (ok_iload_n (k := 2) (by decide +kernel) rfl) <|
  am_c (ok_iload_n (k := 1) (by decide +kernel) rfl) <|
  am_c (ok_bipush (z := 15) (by decide +kernel) (by decide +kernel)) <|
  am_c (ok_icmpne (off := 7) (by decide +kernel) (by decide +kernel)) <|
  am_n
def k_c130_2 : List (Nat × am_A) := [(86, ac_push (.int 1) 87), (87, ac_goto 91), (90, ac_push (.int 0) 91), (91, ac_callV 6 123 3 94 am_nohd), (94, ac_ret)]
theorem k_p130_2 : ∀ q ∈ k_c130_2, am_Ok k_nm D cA B0 sb H00 (k_Th B0 sb H00) prog_8_method_41_code "TokenMouthModel" "test" [] none q.1 q.2 :=
  am_c (ok_iconst (z := 1) (by decide +kernel) (by decide +kernel)) <|
  am_c (ok_goto (off := 4) (by decide +kernel) (by decide +kernel)) <|
  am_c (ok_iconst (z := 0) (by decide +kernel) (by decide +kernel)) <|
  am_c (ok_callV (by decide +kernel) (by decide +kernel) kw_606 kw_607 kw_608 kw_605 (by decide +kernel) (by decide +kernel)) <|
  am_c (ok_ret (by decide +kernel) rfl) <|
  am_n
def k_t130 : List (Nat × List (Nat × am_A)) := [(39, k_c130_0), (83, k_c130_1), (94, k_c130_2)]
theorem k_o130 : ∀ c ∈ k_t130, ∀ q ∈ c.2, am_Ok k_nm D cA B0 sb H00 (k_Th B0 sb H00) prog_8_method_41_code "TokenMouthModel" "test" [] none q.1 q.2 := am_cc (P := fun pc a => am_Ok k_nm D cA B0 sb H00 (k_Th B0 sb H00) prog_8_method_41_code "TokenMouthModel" "test" [] none pc a) k_p130_0 <| am_cc (P := fun pc a => am_Ok k_nm D cA B0 sb H00 (k_Th B0 sb H00) prog_8_method_41_code "TokenMouthModel" "test" [] none pc a) k_p130_1 <| am_cc (P := fun pc a => am_Ok k_nm D cA B0 sb H00 (k_Th B0 sb H00) prog_8_method_41_code "TokenMouthModel" "test" [] none pc a) k_p130_2 <| am_cn0
end
