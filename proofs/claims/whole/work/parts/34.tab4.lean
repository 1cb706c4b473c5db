/-! tables of the methods 91 to 105; printed by wip/whole/emit.py -/
section
variable {D : va_G} {cA : Nat → ClassId} {B0 : Nat} {sb : Nat → Option Nat} {H00 : Heap}
-- 91: TokenMouthModel.command(JJ)V
def k_c91_0 : List (Nat × am_A) := [(0, ac_aload 0 1), (1, ac_get 2 6 13 4), (4, ac_aload 0 5), (5, ac_get 0 6 11 8), (8, ac_lload 1 9), (9, ac_l2 (fun x => x.toInt32) 10), (10, ac_iast 11), (11, ac_push (.int 0) 12), (12, ac_istore 5 14), (14, ac_iload 5 16), (16, ac_aload 0 17), (17, ac_get 2 6 13 20), (20, ac_aload 0 21), (21, ac_get 0 6 11 24), (24, ac_iald 0 25), (25, ac_if2 (fun x y => y ≤ x) 63 28), (28, ac_aload 0 29), (29, ac_get 2 6 12 32), (32, ac_push (.int 11) 34), (34, ac_aload 0 35), (35, ac_get 0 6 11 38), (38, ac_ii (fun x y => x * y) 39), (39, ac_iload 5 41), (41, ac_ii (fun x y => x + y) 42)]
theorem k_p91_0 : ∀ q ∈ k_c91_0, am_Ok k_nm D cA B0 sb H00 (k_Th B0 sb H00) prog_8_method_2_code "TokenMouthModel" "command" [] none q.1 q.2 :=
  am_c (ok_aload_n (k := 0) (by decide +kernel) rfl) <|
  am_c (ok_get (by decide +kernel) (by decide +kernel) rfl (by decide +kernel) kw_414) <|
  am_c (ok_aload_n (k := 0) (by decide +kernel) rfl) <|
  am_c (ok_get (by decide +kernel) (by decide +kernel) rfl (by decide +kernel) kw_471) <|
  am_c (ok_lload_n (k := 1) (by decide +kernel) rfl) <|
  am_c (ok_l2i (by decide +kernel)) <|
  am_c (ok_iast (by decide +kernel)) <|
  am_c (ok_iconst (z := 0) (by decide +kernel) (by decide +kernel)) <|
  am_c (ok_istore (by decide +kernel)) <|
  am_c (ok_iload (by decide +kernel)) <|
  am_c (ok_aload_n (k := 0) (by decide +kernel) rfl) <|
  am_c (ok_get (by decide +kernel) (by decide +kernel) rfl (by decide +kernel) kw_414) <|
  am_c (ok_aload_n (k := 0) (by decide +kernel) rfl) <|
  am_c (ok_get (by decide +kernel) (by decide +kernel) rfl (by decide +kernel) kw_471) <|
  am_c (ok_iald (by decide +kernel)) <|
  am_c (ok_icmpge (off := 38) (by decide +kernel) (by decide +kernel)) <|
  am_c (ok_aload_n (k := 0) (by decide +kernel) rfl) <|
  am_c (ok_get (by decide +kernel) (by decide +kernel) rfl (by decide +kernel) kw_413) <|
  am_c (ok_bipush (z := 11) (by decide +kernel) (by decide +kernel)) <|
  am_c (ok_aload_n (k := 0) (by decide +kernel) rfl) <|
  am_c (ok_get (by decide +kernel) (by decide +kernel) rfl (by decide +kernel) kw_471) <|
  am_c (ok_imul (by decide +kernel)) <|
  am_c (ok_iload (by decide +kernel)) <|
  am_c (ok_iadd (by decide +kernel)) <|
  am_n
def k_c91_1 : List (Nat × am_A) := [(42, ac_lload 3 43), (43, ac_push (.int 5) 44), (44, ac_iload 5 46), (46, ac_ii (fun x y => x * y) 47), (47, ac_li (fun x y => x >>> (y.toInt64 &&& 63)) 48), (48, ac_push (.long 31) 51), (51, ac_ll (fun x y => x &&& y) 52), (52, ac_l2 (fun x => x.toInt32) 53), (53, ac_push (.int 96) 55), (55, ac_ii (fun x y => x + y) 56), (56, ac_iast 57), (57, ac_iinc 5 1 60), (60, ac_goto 14), (63, ac_aload 0 64), (64, ac_dup 65), (65, ac_get 0 6 11 68), (68, ac_push (.int 1) 69), (69, ac_ii (fun x y => x + y) 70), (70, ac_putI 6 11 73), (73, ac_ret)]
theorem k_p91_1 : ∀ q ∈ k_c91_1, am_Ok k_nm D cA B0 sb H00 (k_Th B0 sb H00) prog_8_method_2_code "TokenMouthModel" "command" [] none q.1 q.2 :=
  am_c (ok_lload_n (k := 3) (by decide +kernel) rfl) <|
  am_c (ok_iconst (z := 5) (by decide +kernel) (by decide +kernel)) <|
  am_c (ok_iload (by decide +kernel)) <|
  am_c (ok_imul (by decide +kernel)) <|
  am_c (ok_lshr (by decide +kernel)) <|
  am_c (ok_ldc2 (by decide +kernel) kw_472) <|
  am_c (ok_land (by decide +kernel)) <|
  am_c (ok_l2i (by decide +kernel)) <|
  am_c (ok_bipush (z := 96) (by decide +kernel) (by decide +kernel)) <|
  am_c (ok_iadd (by decide +kernel)) <|
  am_c (ok_iast (by decide +kernel)) <|
  am_c (ok_iinc (z := 1) (by decide +kernel) (by decide +kernel)) <|
  am_c (ok_goto (off := -46) (by decide +kernel) (by decide +kernel)) <|
  am_c (ok_aload_n (k := 0) (by decide +kernel) rfl) <|
  am_c (ok_dup (by decide +kernel)) <|
  am_c (ok_get (by decide +kernel) (by decide +kernel) rfl (by decide +kernel) kw_471) <|
  am_c (ok_iconst (z := 1) (by decide +kernel) (by decide +kernel)) <|
  am_c (ok_iadd (by decide +kernel)) <|
  am_c (ok_putI (by decide +kernel) (by decide +kernel) rfl (by decide +kernel) kw_471 rfl) <|
  am_c (ok_ret (by decide +kernel) rfl) <|
  am_n
def k_t91 : List (Nat × List (Nat × am_A)) := [(41, k_c91_0), (73, k_c91_1)]
theorem k_o91 : ∀ c ∈ k_t91, ∀ q ∈ c.2, am_Ok k_nm D cA B0 sb H00 (k_Th B0 sb H00) prog_8_method_2_code "TokenMouthModel" "command" [] none q.1 q.2 := am_cc (P := fun pc a => am_Ok k_nm D cA B0 sb H00 (k_Th B0 sb H00) prog_8_method_2_code "TokenMouthModel" "command" [] none pc a) k_p91_0 <| am_cc (P := fun pc a => am_Ok k_nm D cA B0 sb H00 (k_Th B0 sb H00) prog_8_method_2_code "TokenMouthModel" "command" [] none pc a) k_p91_1 <| am_cn0
-- 92: TokenMouthModel.start()V
def k_c92_0 : List (Nat × am_A) := [(0, ac_aload 0 1), (1, ac_push (.int 0) 2), (2, ac_putI 6 3 5), (5, ac_aload 0 6), (6, ac_push (.int 0) 7), (7, ac_putI 6 4 10), (10, ac_aload 0 11), (11, ac_push (.int 0) 12), (12, ac_putI 6 5 15), (15, ac_aload 0 16), (16, ac_push (.int 0) 17), (17, ac_putI 6 6 20), (20, ac_aload 0 21), (21, ac_push (.int 0) 22), (22, ac_putI 6 9 25), (25, ac_aload 0 26), (26, ac_push (.int 0) 27), (27, ac_putI 6 18 30), (30, ac_aload 0 31), (31, ac_push (.int 0) 32), (32, ac_putI 6 19 35), (35, ac_aload 0 36), (36, ac_push (.int 0) 37), (37, ac_putI 6 23 40)]
theorem k_p92_0 : ∀ q ∈ k_c92_0, am_Ok k_nm D cA B0 sb H00 (k_Th B0 sb H00) prog_8_method_3_code "TokenMouthModel" "start" [] none q.1 q.2 :=
  am_c (ok_aload_n (k := 0) (by decide +kernel) rfl) <|
  am_c (ok_iconst (z := 0) (by decide +kernel) (by decide +kernel)) <|
  am_c (ok_putI (by decide +kernel) (by decide +kernel) rfl (by decide +kernel) kw_473 rfl) <|
  am_c (ok_aload_n (k := 0) (by decide +kernel) rfl) <|
  am_c (ok_iconst (z := 0) (by decide +kernel) (by decide +kernel)) <|
  am_c (ok_putI (by decide +kernel) (by decide +kernel) rfl (by decide +kernel) kw_474 rfl) <|
  am_c (ok_aload_n (k := 0) (by decide +kernel) rfl) <|
  am_c (ok_iconst (z := 0) (by decide +kernel) (by decide +kernel)) <|
  am_c (ok_putI (by decide +kernel) (by decide +kernel) rfl (by decide +kernel) kw_475 rfl) <|
  am_c (ok_aload_n (k := 0) (by decide +kernel) rfl) <|
  am_c (ok_iconst (z := 0) (by decide +kernel) (by decide +kernel)) <|
  am_c (ok_putI (by decide +kernel) (by decide +kernel) rfl (by decide +kernel) kw_476 rfl) <|
  am_c (ok_aload_n (k := 0) (by decide +kernel) rfl) <|
  am_c (ok_iconst (z := 0) (by decide +kernel) (by decide +kernel)) <|
  am_c (ok_putI (by decide +kernel) (by decide +kernel) rfl (by decide +kernel) kw_477 rfl) <|
  am_c (ok_aload_n (k := 0) (by decide +kernel) rfl) <|
  am_c (ok_iconst (z := 0) (by decide +kernel) (by decide +kernel)) <|
  am_c (ok_putI (by decide +kernel) (by decide +kernel) rfl (by decide +kernel) kw_478 rfl) <|
  am_c (ok_aload_n (k := 0) (by decide +kernel) rfl) <|
  am_c (ok_iconst (z := 0) (by decide +kernel) (by decide +kernel)) <|
  am_c (ok_putI (by decide +kernel) (by decide +kernel) rfl (by decide +kernel) kw_479 rfl) <|
  am_c (ok_aload_n (k := 0) (by decide +kernel) rfl) <|
  am_c (ok_iconst (z := 0) (by decide +kernel) (by decide +kernel)) <|
  am_c (ok_putI (by decide +kernel) (by decide +kernel) rfl (by decide +kernel) kw_480 rfl) <|
  am_n
def k_c92_1 : List (Nat × am_A) := [(40, ac_aload 0 41), (41, ac_push (.int 0) 42), (42, ac_putI 6 29 45), (45, ac_aload 0 46), (46, ac_push (.int 0) 47), (47, ac_putI 6 31 50), (50, ac_aload 0 51), (51, ac_push (.int 0) 52), (52, ac_putI 6 37 55), (55, ac_aload 0 56), (56, ac_push (.int 18) 58), (58, ac_putI 6 11 61), (61, ac_push (.int 0) 62), (62, ac_istore 1 63), (63, ac_iload 1 64), (64, ac_push (.int 120) 66), (66, ac_if2 (fun x y => y ≤ x) 94 69), (69, ac_aload 0 70), (70, ac_get 2 6 15 73), (73, ac_iload 1 74), (74, ac_iload 1 75), (75, ac_push (.int 18) 77), (77, ac_if2 (fun x y => y ≤ x) 86 80), (80, ac_iload 1 81)]
theorem k_p92_1 : ∀ q ∈ k_c92_1, am_Ok k_nm D cA B0 sb H00 (k_Th B0 sb H00) prog_8_method_3_code "TokenMouthModel" "start" [] none q.1 q.2 :=
  am_c (ok_aload_n (k := 0) (by decide +kernel) rfl) <|
  am_c (ok_iconst (z := 0) (by decide +kernel) (by decide +kernel)) <|
  am_c (ok_putI (by decide +kernel) (by decide +kernel) rfl (by decide +kernel) kw_481 rfl) <|
  am_c (ok_aload_n (k := 0) (by decide +kernel) rfl) <|
  am_c (ok_iconst (z := 0) (by decide +kernel) (by decide +kernel)) <|
  am_c (ok_putI (by decide +kernel) (by decide +kernel) rfl (by decide +kernel) kw_482 rfl) <|
  am_c (ok_aload_n (k := 0) (by decide +kernel) rfl) <|
  am_c (ok_iconst (z := 0) (by decide +kernel) (by decide +kernel)) <|
  am_c (ok_putI (by decide +kernel) (by decide +kernel) rfl (by decide +kernel) kw_483 rfl) <|
  am_c (ok_aload_n (k := 0) (by decide +kernel) rfl) <|
  am_c (ok_bipush (z := 18) (by decide +kernel) (by decide +kernel)) <|
  am_c (ok_putI (by decide +kernel) (by decide +kernel) rfl (by decide +kernel) kw_471 rfl) <|
  am_c (ok_iconst (z := 0) (by decide +kernel) (by decide +kernel)) <|
  am_c (ok_istore_n (k := 1) (by decide +kernel) rfl) <|
  am_c (ok_iload_n (k := 1) (by decide +kernel) rfl) <|
  am_c (ok_bipush (z := 120) (by decide +kernel) (by decide +kernel)) <|
  am_c (ok_icmpge (off := 28) (by decide +kernel) (by decide +kernel)) <|
  am_c (ok_aload_n (k := 0) (by decide +kernel) rfl) <|
  am_c (ok_get (by decide +kernel) (by decide +kernel) rfl (by decide +kernel) kw_417) <|
  am_c (ok_iload_n (k := 1) (by decide +kernel) rfl) <|
  am_c (ok_iload_n (k := 1) (by decide +kernel) rfl) <|
  am_c (ok_bipush (z := 18) (by decide +kernel) (by decide +kernel)) <|
  am_c (ok_icmpge (off := 9) (by decide +kernel) (by decide +kernel)) <|
  am_c (ok_iload_n (k := 1) (by decide +kernel) rfl) <|
  am_n
def k_c92_2 : List (Nat × am_A) := [(81, ac_push (.int 1) 82), (82, ac_ii (fun x y => x + y) 83), (83, ac_goto 87), (86, ac_push (.int 0) 87), (87, ac_iast 88), (88, ac_iinc 1 1 91), (91, ac_goto 63), (94, ac_push (.int 0) 95), (95, ac_istore 1 96), (96, ac_iload 1 97), (97, ac_push (.int 128) 100), (100, ac_if2 (fun x y => y ≤ x) 146 103), (103, ac_aload 0 104), (104, ac_get 2 6 8 107), (107, ac_iload 1 108), (108, ac_iload 1 109), (109, ac_push (.int 97) 111), (111, ac_if2 (fun x y => x < y) 120 114), (114, ac_iload 1 115), (115, ac_push (.int 122) 117), (117, ac_if2 (fun x y => x ≤ y) 132 120), (120, ac_iload 1 121), (121, ac_push (.int 65) 123), (123, ac_if2 (fun x y => x < y) 137 126)]
theorem k_p92_2 : ∀ q ∈ k_c92_2, am_Ok k_nm D cA B0 sb H00 (k_Th B0 sb H00) prog_8_method_3_code "TokenMouthModel" "start" [] none q.1 q.2 :=
  am_c (ok_iconst (z := 1) (by decide +kernel) (by decide +kernel)) <|
  am_c (ok_iadd (by decide +kernel)) <|
  am_c (ok_goto (off := 4) (by decide +kernel) (by decide +kernel)) <|
  am_c (ok_iconst (z := 0) (by decide +kernel) (by decide +kernel)) <|
  am_c (ok_iast (by decide +kernel)) <|
  am_c (ok_iinc (z := 1) (by decide +kernel) (by decide +kernel)) <|
  am_c (ok_goto (off := -28) (by decide +kernel) (by decide +kernel)) <|
  am_c (ok_iconst (z := 0) (by decide +kernel) (by decide +kernel)) <|
  am_c (ok_istore_n (k := 1) (by decide +kernel) rfl) <|
  am_c (ok_iload_n (k := 1) (by decide +kernel) rfl) <|
  am_c (ok_sipush (z := 128) (by decide +kernel) (by decide +kernel)) <|
  am_c (ok_icmpge (off := 46) (by decide +kernel) (by decide +kernel)) <|
  am_c (ok_aload_n (k := 0) (by decide +kernel) rfl) <|
  am_c (ok_get (by decide +kernel) (by decide +kernel) rfl (by decide +kernel) kw_411) <|
  am_c (ok_iload_n (k := 1) (by decide +kernel) rfl) <|
  am_c (ok_iload_n (k := 1) (by decide +kernel) rfl) <|
  am_c (ok_bipush (z := 97) (by decide +kernel) (by decide +kernel)) <|
  am_c (ok_icmplt (off := 9) (by decide +kernel) (by decide +kernel)) <|
  am_c (ok_iload_n (k := 1) (by decide +kernel) rfl) <|
  am_c (ok_bipush (z := 122) (by decide +kernel) (by decide +kernel)) <|
  am_c (ok_icmple (off := 15) (by decide +kernel) (by decide +kernel)) <|
  am_c (ok_iload_n (k := 1) (by decide +kernel) rfl) <|
  am_c (ok_bipush (z := 65) (by decide +kernel) (by decide +kernel)) <|
  am_c (ok_icmplt (off := 14) (by decide +kernel) (by decide +kernel)) <|
  am_n
def k_c92_3 : List (Nat × am_A) := [(126, ac_iload 1 127), (127, ac_push (.int 90) 129), (129, ac_if2 (fun x y => y < x) 137 132), (132, ac_push (.int 11) 134), (134, ac_goto 139), (137, ac_push (.int 12) 139), (139, ac_iast 140), (140, ac_iinc 1 1 143), (143, ac_goto 96), (146, ac_aload 0 147), (147, ac_get 2 6 8 150), (150, ac_push (.int 92) 152), (152, ac_push (.int 0) 153), (153, ac_iast 154), (154, ac_aload 0 155), (155, ac_get 2 6 8 158), (158, ac_push (.int 123) 160), (160, ac_push (.int 1) 161), (161, ac_iast 162), (162, ac_aload 0 163), (163, ac_get 2 6 8 166), (166, ac_push (.int 125) 168), (168, ac_push (.int 2) 169), (169, ac_iast 170)]
theorem k_p92_3 : ∀ q ∈ k_c92_3, am_Ok k_nm D cA B0 sb H00 (k_Th B0 sb H00) prog_8_method_3_code "TokenMouthModel" "start" [] none q.1 q.2 :=
  am_c (ok_iload_n (k := 1) (by decide +kernel) rfl) <|
  am_c (ok_bipush (z := 90) (by decide +kernel) (by decide +kernel)) <|
  am_c (ok_icmpgt (off := 8) (by decide +kernel) (by decide +kernel)) <|
  am_c (ok_bipush (z := 11) (by decide +kernel) (by decide +kernel)) <|
  am_c (ok_goto (off := 5) (by decide +kernel) (by decide +kernel)) <|
  am_c (ok_bipush (z := 12) (by decide +kernel) (by decide +kernel)) <|
  am_c (ok_iast (by decide +kernel)) <|
  am_c (ok_iinc (z := 1) (by decide +kernel) (by decide +kernel)) <|
  am_c (ok_goto (off := -47) (by decide +kernel) (by decide +kernel)) <|
  am_c (ok_aload_n (k := 0) (by decide +kernel) rfl) <|
  am_c (ok_get (by decide +kernel) (by decide +kernel) rfl (by decide +kernel) kw_411) <|
  am_c (ok_bipush (z := 92) (by decide +kernel) (by decide +kernel)) <|
  am_c (ok_iconst (z := 0) (by decide +kernel) (by decide +kernel)) <|
  am_c (ok_iast (by decide +kernel)) <|
  am_c (ok_aload_n (k := 0) (by decide +kernel) rfl) <|
  am_c (ok_get (by decide +kernel) (by decide +kernel) rfl (by decide +kernel) kw_411) <|
  am_c (ok_bipush (z := 123) (by decide +kernel) (by decide +kernel)) <|
  am_c (ok_iconst (z := 1) (by decide +kernel) (by decide +kernel)) <|
  am_c (ok_iast (by decide +kernel)) <|
  am_c (ok_aload_n (k := 0) (by decide +kernel) rfl) <|
  am_c (ok_get (by decide +kernel) (by decide +kernel) rfl (by decide +kernel) kw_411) <|
  am_c (ok_bipush (z := 125) (by decide +kernel) (by decide +kernel)) <|
  am_c (ok_iconst (z := 2) (by decide +kernel) (by decide +kernel)) <|
  am_c (ok_iast (by decide +kernel)) <|
  am_n
def k_c92_4 : List (Nat × am_A) := [(170, ac_aload 0 171), (171, ac_get 2 6 8 174), (174, ac_push (.int 36) 176), (176, ac_push (.int 3) 177), (177, ac_iast 178), (178, ac_aload 0 179), (179, ac_get 2 6 8 182), (182, ac_push (.int 38) 184), (184, ac_push (.int 4) 185), (185, ac_iast 186), (186, ac_aload 0 187), (187, ac_get 2 6 8 190), (190, ac_push (.int 10) 192), (192, ac_push (.int 5) 193), (193, ac_iast 194), (194, ac_aload 0 195), (195, ac_get 2 6 8 198), (198, ac_push (.int 35) 200), (200, ac_push (.int 6) 202), (202, ac_iast 203), (203, ac_aload 0 204), (204, ac_get 2 6 8 207), (207, ac_push (.int 94) 209), (209, ac_push (.int 7) 211)]
theorem k_p92_4 : ∀ q ∈ k_c92_4, am_Ok k_nm D cA B0 sb H00 (k_Th B0 sb H00) prog_8_method_3_code "TokenMouthModel" "start" [] none q.1 q.2 :=
  am_c (ok_aload_n (k := 0) (by decide +kernel) rfl) <|
  am_c (ok_get (by decide +kernel) (by decide +kernel) rfl (by decide +kernel) kw_411) <|
  am_c (ok_bipush (z := 36) (by decide +kernel) (by decide +kernel)) <|
  am_c (ok_iconst (z := 3) (by decide +kernel) (by decide +kernel)) <|
  am_c (ok_iast (by decide +kernel)) <|
  am_c (ok_aload_n (k := 0) (by decide +kernel) rfl) <|
  am_c (ok_get (by decide +kernel) (by decide +kernel) rfl (by decide +kernel) kw_411) <|
  am_c (ok_bipush (z := 38) (by decide +kernel) (by decide +kernel)) <|
  am_c (ok_iconst (z := 4) (by decide +kernel) (by decide +kernel)) <|
  am_c (ok_iast (by decide +kernel)) <|
  am_c (ok_aload_n (k := 0) (by decide +kernel) rfl) <|
  am_c (ok_get (by decide +kernel) (by decide +kernel) rfl (by decide +kernel) kw_411) <|
  am_c (ok_bipush (z := 10) (by decide +kernel) (by decide +kernel)) <|
  am_c (ok_iconst (z := 5) (by decide +kernel) (by decide +kernel)) <|
  am_c (ok_iast (by decide +kernel)) <|
  am_c (ok_aload_n (k := 0) (by decide +kernel) rfl) <|
  am_c (ok_get (by decide +kernel) (by decide +kernel) rfl (by decide +kernel) kw_411) <|
  am_c (ok_bipush (z := 35) (by decide +kernel) (by decide +kernel)) <|
  am_c (ok_bipush (z := 6) (by decide +kernel) (by decide +kernel)) <|
  am_c (ok_iast (by decide +kernel)) <|
  am_c (ok_aload_n (k := 0) (by decide +kernel) rfl) <|
  am_c (ok_get (by decide +kernel) (by decide +kernel) rfl (by decide +kernel) kw_411) <|
  am_c (ok_bipush (z := 94) (by decide +kernel) (by decide +kernel)) <|
  am_c (ok_bipush (z := 7) (by decide +kernel) (by decide +kernel)) <|
  am_n
def k_c92_5 : List (Nat × am_A) := [(211, ac_iast 212), (212, ac_aload 0 213), (213, ac_get 2 6 8 216), (216, ac_push (.int 95) 218), (218, ac_push (.int 8) 220), (220, ac_iast 221), (221, ac_aload 0 222), (222, ac_get 2 6 8 225), (225, ac_push (.int 32) 227), (227, ac_push (.int 10) 229), (229, ac_iast 230), (230, ac_aload 0 231), (231, ac_get 2 6 8 234), (234, ac_push (.int 126) 236), (236, ac_push (.int 13) 238), (238, ac_iast 239), (239, ac_aload 0 240), (240, ac_get 2 6 8 243), (243, ac_push (.int 37) 245), (245, ac_push (.int 14) 247), (247, ac_iast 248), (248, ac_ret)]
theorem k_p92_5 : ∀ q ∈ k_c92_5, am_Ok k_nm D cA B0 sb H00 (k_Th B0 sb H00) prog_8_method_3_code "TokenMouthModel" "start" [] none q.1 q.2 :=
  am_c (ok_iast (by decide +kernel)) <|
  am_c (ok_aload_n (k := 0) (by decide +kernel) rfl) <|
  am_c (ok_get (by decide +kernel) (by decide +kernel) rfl (by decide +kernel) kw_411) <|
  am_c (ok_bipush (z := 95) (by decide +kernel) (by decide +kernel)) <|
  am_c (ok_bipush (z := 8) (by decide +kernel) (by decide +kernel)) <|
  am_c (ok_iast (by decide +kernel)) <|
  am_c (ok_aload_n (k := 0) (by decide +kernel) rfl) <|
  am_c (ok_get (by decide +kernel) (by decide +kernel) rfl (by decide +kernel) kw_411) <|
  am_c (ok_bipush (z := 32) (by decide +kernel) (by decide +kernel)) <|
  am_c (ok_bipush (z := 10) (by decide +kernel) (by decide +kernel)) <|
  am_c (ok_iast (by decide +kernel)) <|
  am_c (ok_aload_n (k := 0) (by decide +kernel) rfl) <|
  am_c (ok_get (by decide +kernel) (by decide +kernel) rfl (by decide +kernel) kw_411) <|
  am_c (ok_bipush (z := 126) (by decide +kernel) (by decide +kernel)) <|
  am_c (ok_bipush (z := 13) (by decide +kernel) (by decide +kernel)) <|
  am_c (ok_iast (by decide +kernel)) <|
  am_c (ok_aload_n (k := 0) (by decide +kernel) rfl) <|
  am_c (ok_get (by decide +kernel) (by decide +kernel) rfl (by decide +kernel) kw_411) <|
  am_c (ok_bipush (z := 37) (by decide +kernel) (by decide +kernel)) <|
  am_c (ok_bipush (z := 14) (by decide +kernel) (by decide +kernel)) <|
  am_c (ok_iast (by decide +kernel)) <|
  am_c (ok_ret (by decide +kernel) rfl) <|
  am_n
def k_t92 : List (Nat × List (Nat × am_A)) := [(37, k_c92_0), (80, k_c92_1), (123, k_c92_2), (169, k_c92_3), (209, k_c92_4), (248, k_c92_5)]
theorem k_o92 : ∀ c ∈ k_t92, ∀ q ∈ c.2, am_Ok k_nm D cA B0 sb H00 (k_Th B0 sb H00) prog_8_method_3_code "TokenMouthModel" "start" [] none q.1 q.2 := am_cc (P := fun pc a => am_Ok k_nm D cA B0 sb H00 (k_Th B0 sb H00) prog_8_method_3_code "TokenMouthModel" "start" [] none pc a) k_p92_0 <| am_cc (P := fun pc a => am_Ok k_nm D cA B0 sb H00 (k_Th B0 sb H00) prog_8_method_3_code "TokenMouthModel" "start" [] none pc a) k_p92_1 <| am_cc (P := fun pc a => am_Ok k_nm D cA B0 sb H00 (k_Th B0 sb H00) prog_8_method_3_code "TokenMouthModel" "start" [] none pc a) k_p92_2 <| am_cc (P := fun pc a => am_Ok k_nm D cA B0 sb H00 (k_Th B0 sb H00) prog_8_method_3_code "TokenMouthModel" "start" [] none pc a) k_p92_3 <| am_cc (P := fun pc a => am_Ok k_nm D cA B0 sb H00 (k_Th B0 sb H00) prog_8_method_3_code "TokenMouthModel" "start" [] none pc a) k_p92_4 <| am_cc (P := fun pc a => am_Ok k_nm D cA B0 sb H00 (k_Th B0 sb H00) prog_8_method_3_code "TokenMouthModel" "start" [] none pc a) k_p92_5 <| am_cn0
-- 93: TokenMouthModel.thrown()I
def k_c93_0 : List (Nat × am_A) := [(0, ac_aload 0 1), (1, ac_get 0 6 0 4), (4, ac_iret)]
theorem k_p93_0 : ∀ q ∈ k_c93_0, am_Ok k_nm D cA B0 sb H00 (k_Th B0 sb H00) prog_8_method_4_code "TokenMouthModel" "thrown" [] (some .int) q.1 q.2 :=
  am_c (ok_aload_n (k := 0) (by decide +kernel) rfl) <|
  am_c (ok_get (by decide +kernel) (by decide +kernel) rfl (by decide +kernel) kw_484) <|
  am_c (ok_iret (by decide +kernel) rfl) <|
  am_n
def k_t93 : List (Nat × List (Nat × am_A)) := [(4, k_c93_0)]
theorem k_o93 : ∀ c ∈ k_t93, ∀ q ∈ c.2, am_Ok k_nm D cA B0 sb H00 (k_Th B0 sb H00) prog_8_method_4_code "TokenMouthModel" "thrown" [] (some .int) q.1 q.2 := am_cc (P := fun pc a => am_Ok k_nm D cA B0 sb H00 (k_Th B0 sb H00) prog_8_method_4_code "TokenMouthModel" "thrown" [] (some .int) pc a) k_p93_0 <| am_cn0
-- 94: TokenMouthModel.isCode(I)Z
def k_c94_0 : List (Nat × am_A) := [(0, ac_iload 0 1), (1, ac_push (.int 10) 3), (3, ac_if2 (fun x y => x = y) 18 6), (6, ac_iload 0 7), (7, ac_push (.int 31) 9), (9, ac_if2 (fun x y => x ≤ y) 22 12), (12, ac_iload 0 13), (13, ac_push (.int 127) 15), (15, ac_if2 (fun x y => y ≤ x) 22 18), (18, ac_push (.int 1) 19), (19, ac_goto 23), (22, ac_push (.int 0) 23), (23, ac_zret)]
theorem k_p94_0 : ∀ q ∈ k_c94_0, am_Ok k_nm D cA B0 sb H00 (k_Th B0 sb H00) prog_8_method_5_code "TokenMouthModel" "isCode" [] (some .boolean) q.1 q.2 :=
  am_c (ok_iload_n (k := 0) (by decide +kernel) rfl) <|
  am_c (ok_bipush (z := 10) (by decide +kernel) (by decide +kernel)) <|
  am_c (ok_icmpeq (off := 15) (by decide +kernel) (by decide +kernel)) <|
  am_c (ok_iload_n (k := 0) (by decide +kernel) rfl) <|
  am_c (ok_bipush (z := 31) (by decide +kernel) (by decide +kernel)) <|
  am_c (ok_icmple (off := 13) (by decide +kernel) (by decide +kernel)) <|
  am_c (ok_iload_n (k := 0) (by decide +kernel) rfl) <|
  am_c (ok_bipush (z := 127) (by decide +kernel) (by decide +kernel)) <|
  am_c (ok_icmpge (off := 7) (by decide +kernel) (by decide +kernel)) <|
  am_c (ok_iconst (z := 1) (by decide +kernel) (by decide +kernel)) <|
  am_c (ok_goto (off := 4) (by decide +kernel) (by decide +kernel)) <|
  am_c (ok_iconst (z := 0) (by decide +kernel) (by decide +kernel)) <|
  am_c (ok_zret (by decide +kernel) rfl) <|
  am_n
def k_t94 : List (Nat × List (Nat × am_A)) := [(23, k_c94_0)]
theorem k_o94 : ∀ c ∈ k_t94, ∀ q ∈ c.2, am_Ok k_nm D cA B0 sb H00 (k_Th B0 sb H00) prog_8_method_5_code "TokenMouthModel" "isCode" [] (some .boolean) q.1 q.2 := am_cc (P := fun pc a => am_Ok k_nm D cA B0 sb H00 (k_Th B0 sb H00) prog_8_method_5_code "TokenMouthModel" "isCode" [] (some .boolean) pc a) k_p94_0 <| am_cn0
-- 95: TokenMouthModel.type(J)Z
def k_c95_0 : List (Nat × am_A) := [(0, ac_aload 0 1), (1, ac_push (.int 0) 2), (2, ac_putI 6 0 5), (5, ac_push (.int 0) 6), (6, ac_istore 3 7), (7, ac_aload 0 8), (8, ac_get 0 6 6 11), (11, ac_if1 (fun x => ¬ x = 0) 18 14), (14, ac_push (.int 1) 15), (15, ac_goto 19), (18, ac_push (.int 0) 19), (19, ac_istore 4 21), (21, ac_push (.int 0) 22), (22, ac_istore 5 24), (24, ac_iload 5 26), (26, ac_push (.int 8) 28), (28, ac_if2 (fun x y => y ≤ x) 89 31), (31, ac_lload 1 32), (32, ac_push (.int 8) 34), (34, ac_iload 5 36), (36, ac_ii (fun x y => x * y) 37), (37, ac_li (fun x y => x >>> (y.toInt64 &&& 63)) 38), (38, ac_push (.long 255) 41), (41, ac_ll (fun x y => x &&& y) 42)]
theorem k_p95_0 : ∀ q ∈ k_c95_0, am_Ok k_nm D cA B0 sb H00 (k_Th B0 sb H00) prog_8_method_6_code "TokenMouthModel" "type" [] (some .boolean) q.1 q.2 :=
  am_c (ok_aload_n (k := 0) (by decide +kernel) rfl) <|
  am_c (ok_iconst (z := 0) (by decide +kernel) (by decide +kernel)) <|
  am_c (ok_putI (by decide +kernel) (by decide +kernel) rfl (by decide +kernel) kw_484 rfl) <|
  am_c (ok_iconst (z := 0) (by decide +kernel) (by decide +kernel)) <|
  am_c (ok_istore_n (k := 3) (by decide +kernel) rfl) <|
  am_c (ok_aload_n (k := 0) (by decide +kernel) rfl) <|
  am_c (ok_get (by decide +kernel) (by decide +kernel) rfl (by decide +kernel) kw_476) <|
  am_c (ok_ifne (off := 7) (by decide +kernel) (by decide +kernel)) <|
  am_c (ok_iconst (z := 1) (by decide +kernel) (by decide +kernel)) <|
  am_c (ok_goto (off := 4) (by decide +kernel) (by decide +kernel)) <|
  am_c (ok_iconst (z := 0) (by decide +kernel) (by decide +kernel)) <|
  am_c (ok_istore (by decide +kernel)) <|
  am_c (ok_iconst (z := 0) (by decide +kernel) (by decide +kernel)) <|
  am_c (ok_istore (by decide +kernel)) <|
  am_c (ok_iload (by decide +kernel)) <|
  am_c (ok_bipush (z := 8) (by decide +kernel) (by decide +kernel)) <|
  am_c (ok_icmpge (off := 61) (by decide +kernel) (by decide +kernel)) <|
  am_c (ok_lload_n (k := 1) (by decide +kernel) rfl) <|
  am_c (ok_bipush (z := 8) (by decide +kernel) (by decide +kernel)) <|
  am_c (ok_iload (by decide +kernel)) <|
  am_c (ok_imul (by decide +kernel)) <|
  am_c (ok_lshr (by decide +kernel)) <|
  am_c (ok_ldc2 (by decide +kernel) kw_485) <|
  am_c (ok_land (by decide +kernel)) <|
  am_n
def k_c95_1 : List (Nat × am_A) := [(42, ac_l2 (fun x => x.toInt32) 43), (43, ac_istore 6 45), (45, ac_iload 4 47), (47, ac_if1 (fun x => x = 0) 67 50), (50, ac_iload 6 52), (52, ac_if1 (fun x => x = 0) 63 55), (55, ac_iload 6 57), (57, ac_callS 94 1 60), (60, ac_if1 (fun x => x = 0) 67 63), (63, ac_push (.int 1) 64), (64, ac_goto 68), (67, ac_push (.int 0) 68), (68, ac_istore 4 70), (70, ac_iload 3 71), (71, ac_iload 6 73), (73, ac_if1 (fun x => ¬ x = 0) 80 76), (76, ac_push (.int 0) 77), (77, ac_goto 81), (80, ac_push (.int 1) 81), (81, ac_ii (fun x y => x + y) 82), (82, ac_istore 3 83), (83, ac_iinc 5 1 86), (86, ac_goto 24), (89, ac_iload 4 91)]
theorem k_p95_1 : ∀ q ∈ k_c95_1, am_Ok k_nm D cA B0 sb H00 (k_Th B0 sb H00) prog_8_method_6_code "TokenMouthModel" "type" [] (some .boolean) q.1 q.2 :=
  am_c (ok_l2i (by decide +kernel)) <|
  am_c (ok_istore (by decide +kernel)) <|
  am_c (ok_iload (by decide +kernel)) <|
  am_c (ok_ifeq (off := 20) (by decide +kernel) (by decide +kernel)) <|
  am_c (ok_iload (by decide +kernel)) <|
  am_c (ok_ifeq (off := 11) (by decide +kernel) (by decide +kernel)) <|
  am_c (ok_iload (by decide +kernel)) <|
  am_c (ok_callS (by decide +kernel) kw_488 kw_489 kw_487 kw_486 (by decide +kernel) (by decide +kernel)) <|
  am_c (ok_ifeq (off := 7) (by decide +kernel) (by decide +kernel)) <|
  am_c (ok_iconst (z := 1) (by decide +kernel) (by decide +kernel)) <|
  am_c (ok_goto (off := 4) (by decide +kernel) (by decide +kernel)) <|
  am_c (ok_iconst (z := 0) (by decide +kernel) (by decide +kernel)) <|
  am_c (ok_istore (by decide +kernel)) <|
  am_c (ok_iload_n (k := 3) (by decide +kernel) rfl) <|
  am_c (ok_iload (by decide +kernel)) <|
  am_c (ok_ifne (off := 7) (by decide +kernel) (by decide +kernel)) <|
  am_c (ok_iconst (z := 0) (by decide +kernel) (by decide +kernel)) <|
  am_c (ok_goto (off := 4) (by decide +kernel) (by decide +kernel)) <|
  am_c (ok_iconst (z := 1) (by decide +kernel) (by decide +kernel)) <|
  am_c (ok_iadd (by decide +kernel)) <|
  am_c (ok_istore_n (k := 3) (by decide +kernel) rfl) <|
  am_c (ok_iinc (z := 1) (by decide +kernel) (by decide +kernel)) <|
  am_c (ok_goto (off := -62) (by decide +kernel) (by decide +kernel)) <|
  am_c (ok_iload (by decide +kernel)) <|
  am_n
def k_c95_2 : List (Nat × am_A) := [(91, ac_if1 (fun x => x = 0) 106 94), (94, ac_aload 0 95), (95, ac_get 0 6 1 98), (98, ac_iload 3 99), (99, ac_ii (fun x y => x + y) 100), (100, ac_push (.int 160) 103), (103, ac_if2 (fun x y => x ≤ y) 108 106), (106, ac_push (.int 0) 107), (107, ac_zret), (108, ac_push (.int 7) 110), (110, ac_istore 5 112), (112, ac_iload 5 114), (114, ac_if1 (fun x => x < 0) 163 117), (117, ac_lload 1 118), (118, ac_push (.int 8) 120), (120, ac_iload 5 122), (122, ac_ii (fun x y => x * y) 123), (123, ac_li (fun x y => x >>> (y.toInt64 &&& 63)) 124), (124, ac_push (.long 255) 127), (127, ac_ll (fun x y => x &&& y) 128), (128, ac_l2 (fun x => x.toInt32) 129), (129, ac_istore 6 131), (131, ac_iload 6 133), (133, ac_if1 (fun x => x ≤ 0) 157 136)]
theorem k_p95_2 : ∀ q ∈ k_c95_2, am_Ok k_nm D cA B0 sb H00 (k_Th B0 sb H00) prog_8_method_6_code "TokenMouthModel" "type" [] (some .boolean) q.1 q.2 :=
  am_c (ok_ifeq (off := 15) (by decide +kernel) (by decide +kernel)) <|
  am_c (ok_aload_n (k := 0) (by decide +kernel) rfl) <|
  am_c (ok_get (by decide +kernel) (by decide +kernel) rfl (by decide +kernel) kw_490) <|
  am_c (ok_iload_n (k := 3) (by decide +kernel) rfl) <|
  am_c (ok_iadd (by decide +kernel)) <|
  am_c (ok_sipush (z := 160) (by decide +kernel) (by decide +kernel)) <|
  am_c (ok_icmple (off := 5) (by decide +kernel) (by decide +kernel)) <|
  am_c (ok_iconst (z := 0) (by decide +kernel) (by decide +kernel)) <|
  am_c (ok_zret (by decide +kernel) rfl) <|
  am_c (ok_bipush (z := 7) (by decide +kernel) (by decide +kernel)) <|
  am_c (ok_istore (by decide +kernel)) <|
  am_c (ok_iload (by decide +kernel)) <|
  am_c (ok_iflt (off := 49) (by decide +kernel) (by decide +kernel)) <|
  am_c (ok_lload_n (k := 1) (by decide +kernel) rfl) <|
  am_c (ok_bipush (z := 8) (by decide +kernel) (by decide +kernel)) <|
  am_c (ok_iload (by decide +kernel)) <|
  am_c (ok_imul (by decide +kernel)) <|
  am_c (ok_lshr (by decide +kernel)) <|
  am_c (ok_ldc2 (by decide +kernel) kw_485) <|
  am_c (ok_land (by decide +kernel)) <|
  am_c (ok_l2i (by decide +kernel)) <|
  am_c (ok_istore (by decide +kernel)) <|
  am_c (ok_iload (by decide +kernel)) <|
  am_c (ok_ifle (off := 24) (by decide +kernel) (by decide +kernel)) <|
  am_n
def k_c95_3 : List (Nat × am_A) := [(136, ac_aload 0 137), (137, ac_get 2 6 2 140), (140, ac_aload 0 141), (141, ac_get 0 6 1 144), (144, ac_iload 6 146), (146, ac_iast 147), (147, ac_aload 0 148), (148, ac_dup 149), (149, ac_get 0 6 1 152), (152, ac_push (.int 1) 153), (153, ac_ii (fun x y => x + y) 154), (154, ac_putI 6 1 157), (157, ac_iinc 5 (-1) 160), (160, ac_goto 112), (163, ac_push (.int 1) 164), (164, ac_zret)]
theorem k_p95_3 : ∀ q ∈ k_c95_3, am_Ok k_nm D cA B0 sb H00 (k_Th B0 sb H00) prog_8_method_6_code "TokenMouthModel" "type" [] (some .boolean) q.1 q.2 :=
  am_c (ok_aload_n (k := 0) (by decide +kernel) rfl) <|
  am_c (ok_get (by decide +kernel) (by decide +kernel) rfl (by decide +kernel) kw_410) <|
  am_c (ok_aload_n (k := 0) (by decide +kernel) rfl) <|
  am_c (ok_get (by decide +kernel) (by decide +kernel) rfl (by decide +kernel) kw_490) <|
  am_c (ok_iload (by decide +kernel)) <|
  am_c (ok_iast (by decide +kernel)) <|
  am_c (ok_aload_n (k := 0) (by decide +kernel) rfl) <|
  am_c (ok_dup (by decide +kernel)) <|
  am_c (ok_get (by decide +kernel) (by decide +kernel) rfl (by decide +kernel) kw_490) <|
  am_c (ok_iconst (z := 1) (by decide +kernel) (by decide +kernel)) <|
  am_c (ok_iadd (by decide +kernel)) <|
  am_c (ok_putI (by decide +kernel) (by decide +kernel) rfl (by decide +kernel) kw_490 rfl) <|
  am_c (ok_iinc (z := (-1)) (by decide +kernel) (by decide +kernel)) <|
  am_c (ok_goto (off := -48) (by decide +kernel) (by decide +kernel)) <|
  am_c (ok_iconst (z := 1) (by decide +kernel) (by decide +kernel)) <|
  am_c (ok_zret (by decide +kernel) rfl) <|
  am_n
def k_t95 : List (Nat × List (Nat × am_A)) := [(41, k_c95_0), (89, k_c95_1), (133, k_c95_2), (164, k_c95_3)]
theorem k_o95 : ∀ c ∈ k_t95, ∀ q ∈ c.2, am_Ok k_nm D cA B0 sb H00 (k_Th B0 sb H00) prog_8_method_6_code "TokenMouthModel" "type" [] (some .boolean) q.1 q.2 := am_cc (P := fun pc a => am_Ok k_nm D cA B0 sb H00 (k_Th B0 sb H00) prog_8_method_6_code "TokenMouthModel" "type" [] (some .boolean) pc a) k_p95_0 <| am_cc (P := fun pc a => am_Ok k_nm D cA B0 sb H00 (k_Th B0 sb H00) prog_8_method_6_code "TokenMouthModel" "type" [] (some .boolean) pc a) k_p95_1 <| am_cc (P := fun pc a => am_Ok k_nm D cA B0 sb H00 (k_Th B0 sb H00) prog_8_method_6_code "TokenMouthModel" "type" [] (some .boolean) pc a) k_p95_2 <| am_cc (P := fun pc a => am_Ok k_nm D cA B0 sb H00 (k_Th B0 sb H00) prog_8_method_6_code "TokenMouthModel" "type" [] (some .boolean) pc a) k_p95_3 <| am_cn0
-- 96: TokenMouthModel.wipe()V
def k_c96_0 : List (Nat × am_A) := [(0, ac_aload 0 1), (1, ac_push (.int 0) 2), (2, ac_putI 6 0 5), (5, ac_aload 0 6), (6, ac_push (.int 0) 7), (7, ac_putI 6 1 10), (10, ac_aload 0 11), (11, ac_callV 6 92 1 14 am_nohd), (14, ac_ret)]
theorem k_p96_0 : ∀ q ∈ k_c96_0, am_Ok k_nm D cA B0 sb H00 (k_Th B0 sb H00) prog_8_method_7_code "TokenMouthModel" "wipe" [] none q.1 q.2 :=
  am_c (ok_aload_n (k := 0) (by decide +kernel) rfl) <|
  am_c (ok_iconst (z := 0) (by decide +kernel) (by decide +kernel)) <|
  am_c (ok_putI (by decide +kernel) (by decide +kernel) rfl (by decide +kernel) kw_484 rfl) <|
  am_c (ok_aload_n (k := 0) (by decide +kernel) rfl) <|
  am_c (ok_iconst (z := 0) (by decide +kernel) (by decide +kernel)) <|
  am_c (ok_putI (by decide +kernel) (by decide +kernel) rfl (by decide +kernel) kw_490 rfl) <|
  am_c (ok_aload_n (k := 0) (by decide +kernel) rfl) <|
  am_c (ok_callV (by decide +kernel) (by decide +kernel) kw_468 kw_469 kw_470 kw_467 (by decide +kernel) (by decide +kernel)) <|
  am_c (ok_ret (by decide +kernel) rfl) <|
  am_n
def k_t96 : List (Nat × List (Nat × am_A)) := [(14, k_c96_0)]
theorem k_o96 : ∀ c ∈ k_t96, ∀ q ∈ c.2, am_Ok k_nm D cA B0 sb H00 (k_Th B0 sb H00) prog_8_method_7_code "TokenMouthModel" "wipe" [] none q.1 q.2 := am_cc (P := fun pc a => am_Ok k_nm D cA B0 sb H00 (k_Th B0 sb H00) prog_8_method_7_code "TokenMouthModel" "wipe" [] none pc a) k_p96_0 <| am_cn0
-- 97: TokenMouthModel.again()V
def k_c97_0 : List (Nat × am_A) := [(0, ac_aload 0 1), (1, ac_push (.int 0) 2), (2, ac_putI 6 0 5), (5, ac_aload 0 6), (6, ac_callV 6 92 1 9 am_nohd), (9, ac_ret)]
theorem k_p97_0 : ∀ q ∈ k_c97_0, am_Ok k_nm D cA B0 sb H00 (k_Th B0 sb H00) prog_8_method_8_code "TokenMouthModel" "again" [] none q.1 q.2 :=
  am_c (ok_aload_n (k := 0) (by decide +kernel) rfl) <|
  am_c (ok_iconst (z := 0) (by decide +kernel) (by decide +kernel)) <|
  am_c (ok_putI (by decide +kernel) (by decide +kernel) rfl (by decide +kernel) kw_484 rfl) <|
  am_c (ok_aload_n (k := 0) (by decide +kernel) rfl) <|
  am_c (ok_callV (by decide +kernel) (by decide +kernel) kw_468 kw_469 kw_470 kw_467 (by decide +kernel) (by decide +kernel)) <|
  am_c (ok_ret (by decide +kernel) rfl) <|
  am_n
def k_t97 : List (Nat × List (Nat × am_A)) := [(9, k_c97_0)]
theorem k_o97 : ∀ c ∈ k_t97, ∀ q ∈ c.2, am_Ok k_nm D cA B0 sb H00 (k_Th B0 sb H00) prog_8_method_8_code "TokenMouthModel" "again" [] none q.1 q.2 := am_cc (P := fun pc a => am_Ok k_nm D cA B0 sb H00 (k_Th B0 sb H00) prog_8_method_8_code "TokenMouthModel" "again" [] none pc a) k_p97_0 <| am_cn0
-- 98: TokenMouthModel.stop(I)I
def k_c98_0 : List (Nat × am_A) := [(0, ac_aload 0 1), (1, ac_aload 0 2), (2, ac_get 0 6 5 5), (5, ac_if1 (fun x => ¬ x = 0) 12 8), (8, ac_iload 1 9), (9, ac_goto 16), (12, ac_aload 0 13), (13, ac_get 0 6 5 16), (16, ac_putI 6 5 19), (19, ac_push (.int (-1)) 20), (20, ac_iret)]
theorem k_p98_0 : ∀ q ∈ k_c98_0, am_Ok k_nm D cA B0 sb H00 (k_Th B0 sb H00) prog_8_method_9_code "TokenMouthModel" "stop" [] (some .int) q.1 q.2 :=
  am_c (ok_aload_n (k := 0) (by decide +kernel) rfl) <|
  am_c (ok_aload_n (k := 0) (by decide +kernel) rfl) <|
  am_c (ok_get (by decide +kernel) (by decide +kernel) rfl (by decide +kernel) kw_475) <|
  am_c (ok_ifne (off := 7) (by decide +kernel) (by decide +kernel)) <|
  am_c (ok_iload_n (k := 1) (by decide +kernel) rfl) <|
  am_c (ok_goto (off := 7) (by decide +kernel) (by decide +kernel)) <|
  am_c (ok_aload_n (k := 0) (by decide +kernel) rfl) <|
  am_c (ok_get (by decide +kernel) (by decide +kernel) rfl (by decide +kernel) kw_475) <|
  am_c (ok_putI (by decide +kernel) (by decide +kernel) rfl (by decide +kernel) kw_475 rfl) <|
  am_c (ok_iconst (z := -1) (by decide +kernel) (by decide +kernel)) <|
  am_c (ok_iret (by decide +kernel) rfl) <|
  am_n
def k_t98 : List (Nat × List (Nat × am_A)) := [(20, k_c98_0)]
theorem k_o98 : ∀ c ∈ k_t98, ∀ q ∈ c.2, am_Ok k_nm D cA B0 sb H00 (k_Th B0 sb H00) prog_8_method_9_code "TokenMouthModel" "stop" [] (some .int) q.1 q.2 := am_cc (P := fun pc a => am_Ok k_nm D cA B0 sb H00 (k_Th B0 sb H00) prog_8_method_9_code "TokenMouthModel" "stop" [] (some .int) pc a) k_p98_0 <| am_cn0
-- 99: TokenMouthModel.say(I)V
def k_c99_0 : List (Nat × am_A) := [(0, ac_aload 0 1), (1, ac_get 0 6 16 4), (4, ac_push (.int 12) 6), (6, ac_if2 (fun x y => y ≤ x) 19 9), (9, ac_aload 0 10), (10, ac_get 2 6 17 13), (13, ac_aload 0 14), (14, ac_get 0 6 16 17), (17, ac_iload 1 18), (18, ac_iast 19), (19, ac_aload 0 20), (20, ac_dup 21), (21, ac_get 0 6 16 24), (24, ac_push (.int 1) 25), (25, ac_ii (fun x y => x + y) 26), (26, ac_putI 6 16 29), (29, ac_ret)]
theorem k_p99_0 : ∀ q ∈ k_c99_0, am_Ok k_nm D cA B0 sb H00 (k_Th B0 sb H00) prog_8_method_10_code "TokenMouthModel" "say" [] none q.1 q.2 :=
  am_c (ok_aload_n (k := 0) (by decide +kernel) rfl) <|
  am_c (ok_get (by decide +kernel) (by decide +kernel) rfl (by decide +kernel) kw_491) <|
  am_c (ok_bipush (z := 12) (by decide +kernel) (by decide +kernel)) <|
  am_c (ok_icmpge (off := 13) (by decide +kernel) (by decide +kernel)) <|
  am_c (ok_aload_n (k := 0) (by decide +kernel) rfl) <|
  am_c (ok_get (by decide +kernel) (by decide +kernel) rfl (by decide +kernel) kw_418) <|
  am_c (ok_aload_n (k := 0) (by decide +kernel) rfl) <|
  am_c (ok_get (by decide +kernel) (by decide +kernel) rfl (by decide +kernel) kw_491) <|
  am_c (ok_iload_n (k := 1) (by decide +kernel) rfl) <|
  am_c (ok_iast (by decide +kernel)) <|
  am_c (ok_aload_n (k := 0) (by decide +kernel) rfl) <|
  am_c (ok_dup (by decide +kernel)) <|
  am_c (ok_get (by decide +kernel) (by decide +kernel) rfl (by decide +kernel) kw_491) <|
  am_c (ok_iconst (z := 1) (by decide +kernel) (by decide +kernel)) <|
  am_c (ok_iadd (by decide +kernel)) <|
  am_c (ok_putI (by decide +kernel) (by decide +kernel) rfl (by decide +kernel) kw_491 rfl) <|
  am_c (ok_ret (by decide +kernel) rfl) <|
  am_n
def k_t99 : List (Nat × List (Nat × am_A)) := [(29, k_c99_0)]
theorem k_o99 : ∀ c ∈ k_t99, ∀ q ∈ c.2, am_Ok k_nm D cA B0 sb H00 (k_Th B0 sb H00) prog_8_method_10_code "TokenMouthModel" "say" [] none q.1 q.2 := am_cc (P := fun pc a => am_Ok k_nm D cA B0 sb H00 (k_Th B0 sb H00) prog_8_method_10_code "TokenMouthModel" "say" [] none pc a) k_p99_0 <| am_cn0
-- 100: TokenMouthModel.known(Z)I
def k_c100_0 : List (Nat × am_A) := [(0, ac_push (.int 0) 1), (1, ac_istore 2 2), (2, ac_iload 2 3), (3, ac_aload 0 4), (4, ac_get 0 6 11 7), (7, ac_if2 (fun x y => y ≤ x) 101 10), (10, ac_aload 0 11), (11, ac_get 2 6 13 14), (14, ac_iload 2 15), (15, ac_iald 0 16), (16, ac_aload 0 17), (17, ac_get 0 6 16 20), (20, ac_if2 (fun x y => ¬ x = y) 37 23), (23, ac_aload 0 24), (24, ac_get 2 6 14 27), (27, ac_iload 2 28), (28, ac_iald 2 29), (29, ac_iload 1 30), (30, ac_if2 (fun x y => ¬ x = y) 37 33), (33, ac_push (.int 1) 34), (34, ac_goto 38), (37, ac_push (.int 0) 38), (38, ac_istore 3 39), (39, ac_push (.int 0) 40)]
theorem k_p100_0 : ∀ q ∈ k_c100_0, am_Ok k_nm D cA B0 sb H00 (k_Th B0 sb H00) prog_8_method_11_code "TokenMouthModel" "known" [] (some .int) q.1 q.2 :=
  am_c (ok_iconst (z := 0) (by decide +kernel) (by decide +kernel)) <|
  am_c (ok_istore_n (k := 2) (by decide +kernel) rfl) <|
  am_c (ok_iload_n (k := 2) (by decide +kernel) rfl) <|
  am_c (ok_aload_n (k := 0) (by decide +kernel) rfl) <|
  am_c (ok_get (by decide +kernel) (by decide +kernel) rfl (by decide +kernel) kw_471) <|
  am_c (ok_icmpge (off := 94) (by decide +kernel) (by decide +kernel)) <|
  am_c (ok_aload_n (k := 0) (by decide +kernel) rfl) <|
  am_c (ok_get (by decide +kernel) (by decide +kernel) rfl (by decide +kernel) kw_414) <|
  am_c (ok_iload_n (k := 2) (by decide +kernel) rfl) <|
  am_c (ok_iald (by decide +kernel)) <|
  am_c (ok_aload_n (k := 0) (by decide +kernel) rfl) <|
  am_c (ok_get (by decide +kernel) (by decide +kernel) rfl (by decide +kernel) kw_491) <|
  am_c (ok_icmpne (off := 17) (by decide +kernel) (by decide +kernel)) <|
  am_c (ok_aload_n (k := 0) (by decide +kernel) rfl) <|
  am_c (ok_get (by decide +kernel) (by decide +kernel) rfl (by decide +kernel) kw_416) <|
  am_c (ok_iload_n (k := 2) (by decide +kernel) rfl) <|
  am_c (ok_zald (by decide +kernel)) <|
  am_c (ok_iload_n (k := 1) (by decide +kernel) rfl) <|
  am_c (ok_icmpne (off := 7) (by decide +kernel) (by decide +kernel)) <|
  am_c (ok_iconst (z := 1) (by decide +kernel) (by decide +kernel)) <|
  am_c (ok_goto (off := 4) (by decide +kernel) (by decide +kernel)) <|
  am_c (ok_iconst (z := 0) (by decide +kernel) (by decide +kernel)) <|
  am_c (ok_istore_n (k := 3) (by decide +kernel) rfl) <|
  am_c (ok_iconst (z := 0) (by decide +kernel) (by decide +kernel)) <|
  am_n
def k_c100_1 : List (Nat × am_A) := [(40, ac_istore 4 42), (42, ac_iload 4 44), (44, ac_aload 0 45), (45, ac_get 0 6 16 48), (48, ac_if2 (fun x y => y ≤ x) 89 51), (51, ac_iload 3 52), (52, ac_if1 (fun x => x = 0) 89 55), (55, ac_aload 0 56), (56, ac_get 2 6 12 59), (59, ac_push (.int 11) 61), (61, ac_iload 2 62), (62, ac_ii (fun x y => x * y) 63), (63, ac_iload 4 65), (65, ac_ii (fun x y => x + y) 66), (66, ac_iald 0 67), (67, ac_aload 0 68), (68, ac_get 2 6 17 71), (71, ac_iload 4 73), (73, ac_iald 0 74), (74, ac_if2 (fun x y => ¬ x = y) 81 77), (77, ac_push (.int 1) 78), (78, ac_goto 82), (81, ac_push (.int 0) 82), (82, ac_istore 3 83)]
theorem k_p100_1 : ∀ q ∈ k_c100_1, am_Ok k_nm D cA B0 sb H00 (k_Th B0 sb H00) prog_8_method_11_code "TokenMouthModel" "known" [] (some .int) q.1 q.2 :=
  am_c (ok_istore (by decide +kernel)) <|
  am_c (ok_iload (by decide +kernel)) <|
  am_c (ok_aload_n (k := 0) (by decide +kernel) rfl) <|
  am_c (ok_get (by decide +kernel) (by decide +kernel) rfl (by decide +kernel) kw_491) <|
  am_c (ok_icmpge (off := 41) (by decide +kernel) (by decide +kernel)) <|
  am_c (ok_iload_n (k := 3) (by decide +kernel) rfl) <|
  am_c (ok_ifeq (off := 37) (by decide +kernel) (by decide +kernel)) <|
  am_c (ok_aload_n (k := 0) (by decide +kernel) rfl) <|
  am_c (ok_get (by decide +kernel) (by decide +kernel) rfl (by decide +kernel) kw_413) <|
  am_c (ok_bipush (z := 11) (by decide +kernel) (by decide +kernel)) <|
  am_c (ok_iload_n (k := 2) (by decide +kernel) rfl) <|
  am_c (ok_imul (by decide +kernel)) <|
  am_c (ok_iload (by decide +kernel)) <|
  am_c (ok_iadd (by decide +kernel)) <|
  am_c (ok_iald (by decide +kernel)) <|
  am_c (ok_aload_n (k := 0) (by decide +kernel) rfl) <|
  am_c (ok_get (by decide +kernel) (by decide +kernel) rfl (by decide +kernel) kw_418) <|
  am_c (ok_iload (by decide +kernel)) <|
  am_c (ok_iald (by decide +kernel)) <|
  am_c (ok_icmpne (off := 7) (by decide +kernel) (by decide +kernel)) <|
  am_c (ok_iconst (z := 1) (by decide +kernel) (by decide +kernel)) <|
  am_c (ok_goto (off := 4) (by decide +kernel) (by decide +kernel)) <|
  am_c (ok_iconst (z := 0) (by decide +kernel) (by decide +kernel)) <|
  am_c (ok_istore_n (k := 3) (by decide +kernel) rfl) <|
  am_n
def k_c100_2 : List (Nat × am_A) := [(83, ac_iinc 4 1 86), (86, ac_goto 42), (89, ac_iload 3 90), (90, ac_if1 (fun x => x = 0) 95 93), (93, ac_iload 2 94), (94, ac_iret), (95, ac_iinc 2 1 98), (98, ac_goto 2), (101, ac_push (.int (-1)) 102), (102, ac_iret)]
theorem k_p100_2 : ∀ q ∈ k_c100_2, am_Ok k_nm D cA B0 sb H00 (k_Th B0 sb H00) prog_8_method_11_code "TokenMouthModel" "known" [] (some .int) q.1 q.2 :=
  am_c (ok_iinc (z := 1) (by decide +kernel) (by decide +kernel)) <|
  am_c (ok_goto (off := -44) (by decide +kernel) (by decide +kernel)) <|
  am_c (ok_iload_n (k := 3) (by decide +kernel) rfl) <|
  am_c (ok_ifeq (off := 5) (by decide +kernel) (by decide +kernel)) <|
  am_c (ok_iload_n (k := 2) (by decide +kernel) rfl) <|
  am_c (ok_iret (by decide +kernel) rfl) <|
  am_c (ok_iinc (z := 1) (by decide +kernel) (by decide +kernel)) <|
  am_c (ok_goto (off := -96) (by decide +kernel) (by decide +kernel)) <|
  am_c (ok_iconst (z := -1) (by decide +kernel) (by decide +kernel)) <|
  am_c (ok_iret (by decide +kernel) rfl) <|
  am_n
def k_t100 : List (Nat × List (Nat × am_A)) := [(39, k_c100_0), (82, k_c100_1), (102, k_c100_2)]
theorem k_o100 : ∀ c ∈ k_t100, ∀ q ∈ c.2, am_Ok k_nm D cA B0 sb H00 (k_Th B0 sb H00) prog_8_method_11_code "TokenMouthModel" "known" [] (some .int) q.1 q.2 := am_cc (P := fun pc a => am_Ok k_nm D cA B0 sb H00 (k_Th B0 sb H00) prog_8_method_11_code "TokenMouthModel" "known" [] (some .int) pc a) k_p100_0 <| am_cc (P := fun pc a => am_Ok k_nm D cA B0 sb H00 (k_Th B0 sb H00) prog_8_method_11_code "TokenMouthModel" "known" [] (some .int) pc a) k_p100_1 <| am_cc (P := fun pc a => am_Ok k_nm D cA B0 sb H00 (k_Th B0 sb H00) prog_8_method_11_code "TokenMouthModel" "known" [] (some .int) pc a) k_p100_2 <| am_cn0
-- 101: TokenMouthModel.named(Z)I
def k_c101_0 : List (Nat × am_A) := [(0, ac_aload 0 1), (1, ac_iload 1 2), (2, ac_callV 6 100 2 5 am_nohd), (5, ac_istore 2 6), (6, ac_iload 2 7), (7, ac_if1 (fun x => x < 0) 16 10), (10, ac_push (.int 4096) 13), (13, ac_iload 2 14), (14, ac_ii (fun x y => x + y) 15), (15, ac_iret), (16, ac_aload 0 17), (17, ac_get 0 6 11 20), (20, ac_push (.int 118) 22), (22, ac_if2 (fun x y => ¬ x = y) 31 25), (25, ac_aload 0 26), (26, ac_push (.int 5) 27), (27, ac_callV 6 98 2 30 am_nohd), (30, ac_iret), (31, ac_aload 0 32), (32, ac_get 2 6 13 35), (35, ac_aload 0 36), (36, ac_get 0 6 11 39), (39, ac_aload 0 40), (40, ac_get 0 6 16 43)]
theorem k_p101_0 : ∀ q ∈ k_c101_0, am_Ok k_nm D cA B0 sb H00 (k_Th B0 sb H00) prog_8_method_12_code "TokenMouthModel" "named" [] (some .int) q.1 q.2 :=
  am_c (ok_aload_n (k := 0) (by decide +kernel) rfl) <|
  am_c (ok_iload_n (k := 1) (by decide +kernel) rfl) <|
  am_c (ok_callV (by decide +kernel) (by decide +kernel) kw_493 kw_494 kw_495 kw_492 (by decide +kernel) (by decide +kernel)) <|
  am_c (ok_istore_n (k := 2) (by decide +kernel) rfl) <|
  am_c (ok_iload_n (k := 2) (by decide +kernel) rfl) <|
  am_c (ok_iflt (off := 9) (by decide +kernel) (by decide +kernel)) <|
  am_c (ok_sipush (z := 4096) (by decide +kernel) (by decide +kernel)) <|
  am_c (ok_iload_n (k := 2) (by decide +kernel) rfl) <|
  am_c (ok_iadd (by decide +kernel)) <|
  am_c (ok_iret (by decide +kernel) rfl) <|
  am_c (ok_aload_n (k := 0) (by decide +kernel) rfl) <|
  am_c (ok_get (by decide +kernel) (by decide +kernel) rfl (by decide +kernel) kw_471) <|
  am_c (ok_bipush (z := 118) (by decide +kernel) (by decide +kernel)) <|
  am_c (ok_icmpne (off := 9) (by decide +kernel) (by decide +kernel)) <|
  am_c (ok_aload_n (k := 0) (by decide +kernel) rfl) <|
  am_c (ok_iconst (z := 5) (by decide +kernel) (by decide +kernel)) <|
  am_c (ok_callV (by decide +kernel) (by decide +kernel) kw_497 kw_498 kw_499 kw_496 (by decide +kernel) (by decide +kernel)) <|
  am_c (ok_iret (by decide +kernel) rfl) <|
  am_c (ok_aload_n (k := 0) (by decide +kernel) rfl) <|
  am_c (ok_get (by decide +kernel) (by decide +kernel) rfl (by decide +kernel) kw_414) <|
  am_c (ok_aload_n (k := 0) (by decide +kernel) rfl) <|
  am_c (ok_get (by decide +kernel) (by decide +kernel) rfl (by decide +kernel) kw_471) <|
  am_c (ok_aload_n (k := 0) (by decide +kernel) rfl) <|
  am_c (ok_get (by decide +kernel) (by decide +kernel) rfl (by decide +kernel) kw_491) <|
  am_n
def k_c101_1 : List (Nat × am_A) := [(43, ac_iast 44), (44, ac_aload 0 45), (45, ac_get 2 6 14 48), (48, ac_aload 0 49), (49, ac_get 0 6 11 52), (52, ac_iload 1 53), (53, ac_zast 54), (54, ac_aload 0 55), (55, ac_get 2 6 15 58), (58, ac_aload 0 59), (59, ac_get 0 6 11 62), (62, ac_push (.int 0) 63), (63, ac_iast 64), (64, ac_push (.int 0) 65), (65, ac_istore 3 66), (66, ac_iload 3 67), (67, ac_aload 0 68), (68, ac_get 0 6 16 71), (71, ac_if2 (fun x y => y ≤ x) 100 74), (74, ac_aload 0 75), (75, ac_get 2 6 12 78), (78, ac_push (.int 11) 80), (80, ac_aload 0 81), (81, ac_get 0 6 11 84)]
theorem k_p101_1 : ∀ q ∈ k_c101_1, am_Ok k_nm D cA B0 sb H00 (k_Th B0 sb H00) prog_8_method_12_code "TokenMouthModel" "named" [] (some .int) q.1 q.2 :=
  am_c (ok_iast (by decide +kernel)) <|
  am_c (ok_aload_n (k := 0) (by decide +kernel) rfl) <|
  am_c (ok_get (by decide +kernel) (by decide +kernel) rfl (by decide +kernel) kw_416) <|
  am_c (ok_aload_n (k := 0) (by decide +kernel) rfl) <|
  am_c (ok_get (by decide +kernel) (by decide +kernel) rfl (by decide +kernel) kw_471) <|
  am_c (ok_iload_n (k := 1) (by decide +kernel) rfl) <|
  am_c (ok_zast (by decide +kernel)) <|
  am_c (ok_aload_n (k := 0) (by decide +kernel) rfl) <|
  am_c (ok_get (by decide +kernel) (by decide +kernel) rfl (by decide +kernel) kw_417) <|
  am_c (ok_aload_n (k := 0) (by decide +kernel) rfl) <|
  am_c (ok_get (by decide +kernel) (by decide +kernel) rfl (by decide +kernel) kw_471) <|
  am_c (ok_iconst (z := 0) (by decide +kernel) (by decide +kernel)) <|
  am_c (ok_iast (by decide +kernel)) <|
  am_c (ok_iconst (z := 0) (by decide +kernel) (by decide +kernel)) <|
  am_c (ok_istore_n (k := 3) (by decide +kernel) rfl) <|
  am_c (ok_iload_n (k := 3) (by decide +kernel) rfl) <|
  am_c (ok_aload_n (k := 0) (by decide +kernel) rfl) <|
  am_c (ok_get (by decide +kernel) (by decide +kernel) rfl (by decide +kernel) kw_491) <|
  am_c (ok_icmpge (off := 29) (by decide +kernel) (by decide +kernel)) <|
  am_c (ok_aload_n (k := 0) (by decide +kernel) rfl) <|
  am_c (ok_get (by decide +kernel) (by decide +kernel) rfl (by decide +kernel) kw_413) <|
  am_c (ok_bipush (z := 11) (by decide +kernel) (by decide +kernel)) <|
  am_c (ok_aload_n (k := 0) (by decide +kernel) rfl) <|
  am_c (ok_get (by decide +kernel) (by decide +kernel) rfl (by decide +kernel) kw_471) <|
  am_n
def k_c101_2 : List (Nat × am_A) := [(84, ac_ii (fun x y => x * y) 85), (85, ac_iload 3 86), (86, ac_ii (fun x y => x + y) 87), (87, ac_aload 0 88), (88, ac_get 2 6 17 91), (91, ac_iload 3 92), (92, ac_iald 0 93), (93, ac_iast 94), (94, ac_iinc 3 1 97), (97, ac_goto 66), (100, ac_aload 0 101), (101, ac_dup 102), (102, ac_get 0 6 11 105), (105, ac_push (.int 1) 106), (106, ac_ii (fun x y => x + y) 107), (107, ac_putI 6 11 110), (110, ac_push (.int 4096) 113), (113, ac_aload 0 114), (114, ac_get 0 6 11 117), (117, ac_ii (fun x y => x + y) 118), (118, ac_push (.int 1) 119), (119, ac_ii (fun x y => x - y) 120), (120, ac_iret)]
theorem k_p101_2 : ∀ q ∈ k_c101_2, am_Ok k_nm D cA B0 sb H00 (k_Th B0 sb H00) prog_8_method_12_code "TokenMouthModel" "named" [] (some .int) q.1 q.2 :=
  am_c (ok_imul (by decide +kernel)) <|
  am_c (ok_iload_n (k := 3) (by decide +kernel) rfl) <|
  am_c (ok_iadd (by decide +kernel)) <|
  am_c (ok_aload_n (k := 0) (by decide +kernel) rfl) <|
  am_c (ok_get (by decide +kernel) (by decide +kernel) rfl (by decide +kernel) kw_418) <|
  am_c (ok_iload_n (k := 3) (by decide +kernel) rfl) <|
  am_c (ok_iald (by decide +kernel)) <|
  am_c (ok_iast (by decide +kernel)) <|
  am_c (ok_iinc (z := 1) (by decide +kernel) (by decide +kernel)) <|
  am_c (ok_goto (off := -31) (by decide +kernel) (by decide +kernel)) <|
  am_c (ok_aload_n (k := 0) (by decide +kernel) rfl) <|
  am_c (ok_dup (by decide +kernel)) <|
  am_c (ok_get (by decide +kernel) (by decide +kernel) rfl (by decide +kernel) kw_471) <|
  am_c (ok_iconst (z := 1) (by decide +kernel) (by decide +kernel)) <|
  am_c (ok_iadd (by decide +kernel)) <|
  am_c (ok_putI (by decide +kernel) (by decide +kernel) rfl (by decide +kernel) kw_471 rfl) <|
  am_c (ok_sipush (z := 4096) (by decide +kernel) (by decide +kernel)) <|
  am_c (ok_aload_n (k := 0) (by decide +kernel) rfl) <|
  am_c (ok_get (by decide +kernel) (by decide +kernel) rfl (by decide +kernel) kw_471) <|
  am_c (ok_iadd (by decide +kernel)) <|
  am_c (ok_iconst (z := 1) (by decide +kernel) (by decide +kernel)) <|
  am_c (ok_isub (by decide +kernel)) <|
  am_c (ok_iret (by decide +kernel) rfl) <|
  am_n
def k_t101 : List (Nat × List (Nat × am_A)) := [(40, k_c101_0), (81, k_c101_1), (120, k_c101_2)]
theorem k_o101 : ∀ c ∈ k_t101, ∀ q ∈ c.2, am_Ok k_nm D cA B0 sb H00 (k_Th B0 sb H00) prog_8_method_12_code "TokenMouthModel" "named" [] (some .int) q.1 q.2 := am_cc (P := fun pc a => am_Ok k_nm D cA B0 sb H00 (k_Th B0 sb H00) prog_8_method_12_code "TokenMouthModel" "named" [] (some .int) pc a) k_p101_0 <| am_cc (P := fun pc a => am_Ok k_nm D cA B0 sb H00 (k_Th B0 sb H00) prog_8_method_12_code "TokenMouthModel" "named" [] (some .int) pc a) k_p101_1 <| am_cc (P := fun pc a => am_Ok k_nm D cA B0 sb H00 (k_Th B0 sb H00) prog_8_method_12_code "TokenMouthModel" "named" [] (some .int) pc a) k_p101_2 <| am_cn0
-- 102: TokenMouthModel.readName()I
def k_c102_0 : List (Nat × am_A) := [(0, ac_aload 0 1), (1, ac_get 0 6 3 4), (4, ac_aload 0 5), (5, ac_get 0 6 1 8), (8, ac_if2 (fun x y => ¬ x = y) 17 11), (11, ac_aload 0 12), (12, ac_push (.int 3) 13), (13, ac_callV 6 98 2 16 am_nohd), (16, ac_iret), (17, ac_aload 0 18), (18, ac_push (.int 0) 19), (19, ac_putI 6 16 22), (22, ac_aload 0 23), (23, ac_aload 0 24), (24, ac_get 2 6 2 27), (27, ac_aload 0 28), (28, ac_get 0 6 3 31), (31, ac_iald 0 32), (32, ac_callV 6 99 2 35 am_nohd), (35, ac_aload 0 36), (36, ac_get 2 6 8 39), (39, ac_aload 0 40), (40, ac_get 2 6 2 43), (43, ac_aload 0 44)]
theorem k_p102_0 : ∀ q ∈ k_c102_0, am_Ok k_nm D cA B0 sb H00 (k_Th B0 sb H00) prog_8_method_13_code "TokenMouthModel" "readName" [] (some .int) q.1 q.2 :=
  am_c (ok_aload_n (k := 0) (by decide +kernel) rfl) <|
  am_c (ok_get (by decide +kernel) (by decide +kernel) rfl (by decide +kernel) kw_473) <|
  am_c (ok_aload_n (k := 0) (by decide +kernel) rfl) <|
  am_c (ok_get (by decide +kernel) (by decide +kernel) rfl (by decide +kernel) kw_490) <|
  am_c (ok_icmpne (off := 9) (by decide +kernel) (by decide +kernel)) <|
  am_c (ok_aload_n (k := 0) (by decide +kernel) rfl) <|
  am_c (ok_iconst (z := 3) (by decide +kernel) (by decide +kernel)) <|
  am_c (ok_callV (by decide +kernel) (by decide +kernel) kw_497 kw_498 kw_499 kw_496 (by decide +kernel) (by decide +kernel)) <|
  am_c (ok_iret (by decide +kernel) rfl) <|
  am_c (ok_aload_n (k := 0) (by decide +kernel) rfl) <|
  am_c (ok_iconst (z := 0) (by decide +kernel) (by decide +kernel)) <|
  am_c (ok_putI (by decide +kernel) (by decide +kernel) rfl (by decide +kernel) kw_491 rfl) <|
  am_c (ok_aload_n (k := 0) (by decide +kernel) rfl) <|
  am_c (ok_aload_n (k := 0) (by decide +kernel) rfl) <|
  am_c (ok_get (by decide +kernel) (by decide +kernel) rfl (by decide +kernel) kw_410) <|
  am_c (ok_aload_n (k := 0) (by decide +kernel) rfl) <|
  am_c (ok_get (by decide +kernel) (by decide +kernel) rfl (by decide +kernel) kw_473) <|
  am_c (ok_iald (by decide +kernel)) <|
  am_c (ok_callV (by decide +kernel) (by decide +kernel) kw_501 kw_502 kw_503 kw_500 (by decide +kernel) (by decide +kernel)) <|
  am_c (ok_aload_n (k := 0) (by decide +kernel) rfl) <|
  am_c (ok_get (by decide +kernel) (by decide +kernel) rfl (by decide +kernel) kw_411) <|
  am_c (ok_aload_n (k := 0) (by decide +kernel) rfl) <|
  am_c (ok_get (by decide +kernel) (by decide +kernel) rfl (by decide +kernel) kw_410) <|
  am_c (ok_aload_n (k := 0) (by decide +kernel) rfl) <|
  am_n
def k_c102_1 : List (Nat × am_A) := [(44, ac_get 0 6 3 47), (47, ac_iald 0 48), (48, ac_iald 0 49), (49, ac_istore 1 50), (50, ac_aload 0 51), (51, ac_dup 52), (52, ac_get 0 6 3 55), (55, ac_push (.int 1) 56), (56, ac_ii (fun x y => x + y) 57), (57, ac_putI 6 3 60), (60, ac_iload 1 61), (61, ac_push (.int 11) 63), (63, ac_if2 (fun x y => ¬ x = y) 134 66), (66, ac_aload 0 67), (67, ac_get 0 6 3 70), (70, ac_aload 0 71), (71, ac_get 0 6 1 74), (74, ac_if2 (fun x y => y ≤ x) 134 77), (77, ac_aload 0 78), (78, ac_get 2 6 8 81), (81, ac_aload 0 82), (82, ac_get 2 6 2 85), (85, ac_aload 0 86), (86, ac_get 0 6 3 89)]
theorem k_p102_1 : ∀ q ∈ k_c102_1, am_Ok k_nm D cA B0 sb H00 (k_Th B0 sb H00) prog_8_method_13_code "TokenMouthModel" "readName" [] (some .int) q.1 q.2 :=
  am_c (ok_get (by decide +kernel) (by decide +kernel) rfl (by decide +kernel) kw_473) <|
  am_c (ok_iald (by decide +kernel)) <|
  am_c (ok_iald (by decide +kernel)) <|
  am_c (ok_istore_n (k := 1) (by decide +kernel) rfl) <|
  am_c (ok_aload_n (k := 0) (by decide +kernel) rfl) <|
  am_c (ok_dup (by decide +kernel)) <|
  am_c (ok_get (by decide +kernel) (by decide +kernel) rfl (by decide +kernel) kw_473) <|
  am_c (ok_iconst (z := 1) (by decide +kernel) (by decide +kernel)) <|
  am_c (ok_iadd (by decide +kernel)) <|
  am_c (ok_putI (by decide +kernel) (by decide +kernel) rfl (by decide +kernel) kw_473 rfl) <|
  am_c (ok_iload_n (k := 1) (by decide +kernel) rfl) <|
  am_c (ok_bipush (z := 11) (by decide +kernel) (by decide +kernel)) <|
  am_c (ok_icmpne (off := 71) (by decide +kernel) (by decide +kernel)) <|
  am_c (ok_aload_n (k := 0) (by decide +kernel) rfl) <|
  am_c (ok_get (by decide +kernel) (by decide +kernel) rfl (by decide +kernel) kw_473) <|
  am_c (ok_aload_n (k := 0) (by decide +kernel) rfl) <|
  am_c (ok_get (by decide +kernel) (by decide +kernel) rfl (by decide +kernel) kw_490) <|
  am_c (ok_icmpge (off := 60) (by decide +kernel) (by decide +kernel)) <|
  am_c (ok_aload_n (k := 0) (by decide +kernel) rfl) <|
  am_c (ok_get (by decide +kernel) (by decide +kernel) rfl (by decide +kernel) kw_411) <|
  am_c (ok_aload_n (k := 0) (by decide +kernel) rfl) <|
  am_c (ok_get (by decide +kernel) (by decide +kernel) rfl (by decide +kernel) kw_410) <|
  am_c (ok_aload_n (k := 0) (by decide +kernel) rfl) <|
  am_c (ok_get (by decide +kernel) (by decide +kernel) rfl (by decide +kernel) kw_473) <|
  am_n
def k_c102_2 : List (Nat × am_A) := [(89, ac_iald 0 90), (90, ac_iald 0 91), (91, ac_push (.int 11) 93), (93, ac_if2 (fun x y => ¬ x = y) 134 96), (96, ac_aload 0 97), (97, ac_aload 0 98), (98, ac_get 2 6 2 101), (101, ac_aload 0 102), (102, ac_get 0 6 3 105), (105, ac_iald 0 106), (106, ac_callV 6 99 2 109 am_nohd), (109, ac_aload 0 110), (110, ac_dup 111), (111, ac_get 0 6 3 114), (114, ac_push (.int 1) 115), (115, ac_ii (fun x y => x + y) 116), (116, ac_putI 6 3 119), (119, ac_aload 0 120), (120, ac_get 0 6 16 123), (123, ac_push (.int 12) 125), (125, ac_if2 (fun x y => ¬ x = y) 60 128), (128, ac_aload 0 129), (129, ac_push (.int 5) 130), (130, ac_callV 6 98 2 133 am_nohd)]
theorem k_p102_2 : ∀ q ∈ k_c102_2, am_Ok k_nm D cA B0 sb H00 (k_Th B0 sb H00) prog_8_method_13_code "TokenMouthModel" "readName" [] (some .int) q.1 q.2 :=
  am_c (ok_iald (by decide +kernel)) <|
  am_c (ok_iald (by decide +kernel)) <|
  am_c (ok_bipush (z := 11) (by decide +kernel) (by decide +kernel)) <|
  am_c (ok_icmpne (off := 41) (by decide +kernel) (by decide +kernel)) <|
  am_c (ok_aload_n (k := 0) (by decide +kernel) rfl) <|
  am_c (ok_aload_n (k := 0) (by decide +kernel) rfl) <|
  am_c (ok_get (by decide +kernel) (by decide +kernel) rfl (by decide +kernel) kw_410) <|
  am_c (ok_aload_n (k := 0) (by decide +kernel) rfl) <|
  am_c (ok_get (by decide +kernel) (by decide +kernel) rfl (by decide +kernel) kw_473) <|
  am_c (ok_iald (by decide +kernel)) <|
  am_c (ok_callV (by decide +kernel) (by decide +kernel) kw_501 kw_502 kw_503 kw_500 (by decide +kernel) (by decide +kernel)) <|
  am_c (ok_aload_n (k := 0) (by decide +kernel) rfl) <|
  am_c (ok_dup (by decide +kernel)) <|
  am_c (ok_get (by decide +kernel) (by decide +kernel) rfl (by decide +kernel) kw_473) <|
  am_c (ok_iconst (z := 1) (by decide +kernel) (by decide +kernel)) <|
  am_c (ok_iadd (by decide +kernel)) <|
  am_c (ok_putI (by decide +kernel) (by decide +kernel) rfl (by decide +kernel) kw_473 rfl) <|
  am_c (ok_aload_n (k := 0) (by decide +kernel) rfl) <|
  am_c (ok_get (by decide +kernel) (by decide +kernel) rfl (by decide +kernel) kw_491) <|
  am_c (ok_bipush (z := 12) (by decide +kernel) (by decide +kernel)) <|
  am_c (ok_icmpne (off := -65) (by decide +kernel) (by decide +kernel)) <|
  am_c (ok_aload_n (k := 0) (by decide +kernel) rfl) <|
  am_c (ok_iconst (z := 5) (by decide +kernel) (by decide +kernel)) <|
  am_c (ok_callV (by decide +kernel) (by decide +kernel) kw_497 kw_498 kw_499 kw_496 (by decide +kernel) (by decide +kernel)) <|
  am_n
def k_c102_3 : List (Nat × am_A) := [(133, ac_iret), (134, ac_aload 0 135), (135, ac_iload 1 136), (136, ac_push (.int 11) 138), (138, ac_if2 (fun x y => x = y) 147 141), (141, ac_iload 1 142), (142, ac_push (.int 10) 144), (144, ac_if2 (fun x y => ¬ x = y) 151 147), (147, ac_push (.int 2) 148), (148, ac_goto 152), (151, ac_push (.int 1) 152), (152, ac_putI 6 4 155), (155, ac_aload 0 156), (156, ac_push (.int 0) 157), (157, ac_callV 6 101 2 160 am_nohd), (160, ac_iret)]
theorem k_p102_3 : ∀ q ∈ k_c102_3, am_Ok k_nm D cA B0 sb H00 (k_Th B0 sb H00) prog_8_method_13_code "TokenMouthModel" "readName" [] (some .int) q.1 q.2 :=
  am_c (ok_iret (by decide +kernel) rfl) <|
  am_c (ok_aload_n (k := 0) (by decide +kernel) rfl) <|
  am_c (ok_iload_n (k := 1) (by decide +kernel) rfl) <|
  am_c (ok_bipush (z := 11) (by decide +kernel) (by decide +kernel)) <|
  am_c (ok_icmpeq (off := 9) (by decide +kernel) (by decide +kernel)) <|
  am_c (ok_iload_n (k := 1) (by decide +kernel) rfl) <|
  am_c (ok_bipush (z := 10) (by decide +kernel) (by decide +kernel)) <|
  am_c (ok_icmpne (off := 7) (by decide +kernel) (by decide +kernel)) <|
  am_c (ok_iconst (z := 2) (by decide +kernel) (by decide +kernel)) <|
  am_c (ok_goto (off := 4) (by decide +kernel) (by decide +kernel)) <|
  am_c (ok_iconst (z := 1) (by decide +kernel) (by decide +kernel)) <|
  am_c (ok_putI (by decide +kernel) (by decide +kernel) rfl (by decide +kernel) kw_474 rfl) <|
  am_c (ok_aload_n (k := 0) (by decide +kernel) rfl) <|
  am_c (ok_iconst (z := 0) (by decide +kernel) (by decide +kernel)) <|
  am_c (ok_callV (by decide +kernel) (by decide +kernel) kw_505 kw_506 kw_507 kw_504 (by decide +kernel) (by decide +kernel)) <|
  am_c (ok_iret (by decide +kernel) rfl) <|
  am_n
def k_t102 : List (Nat × List (Nat × am_A)) := [(43, k_c102_0), (86, k_c102_1), (130, k_c102_2), (160, k_c102_3)]
theorem k_o102 : ∀ c ∈ k_t102, ∀ q ∈ c.2, am_Ok k_nm D cA B0 sb H00 (k_Th B0 sb H00) prog_8_method_13_code "TokenMouthModel" "readName" [] (some .int) q.1 q.2 := am_cc (P := fun pc a => am_Ok k_nm D cA B0 sb H00 (k_Th B0 sb H00) prog_8_method_13_code "TokenMouthModel" "readName" [] (some .int) pc a) k_p102_0 <| am_cc (P := fun pc a => am_Ok k_nm D cA B0 sb H00 (k_Th B0 sb H00) prog_8_method_13_code "TokenMouthModel" "readName" [] (some .int) pc a) k_p102_1 <| am_cc (P := fun pc a => am_Ok k_nm D cA B0 sb H00 (k_Th B0 sb H00) prog_8_method_13_code "TokenMouthModel" "readName" [] (some .int) pc a) k_p102_2 <| am_cc (P := fun pc a => am_Ok k_nm D cA B0 sb H00 (k_Th B0 sb H00) prog_8_method_13_code "TokenMouthModel" "readName" [] (some .int) pc a) k_p102_3 <| am_cn0
-- 103: TokenMouthModel.read()I
def k_c103_0 : List (Nat × am_A) := [(0, ac_aload 0 1), (1, ac_get 0 6 3 4), (4, ac_aload 0 5), (5, ac_get 0 6 1 8), (8, ac_if2 (fun x y => y ≤ x) 226 11), (11, ac_aload 0 12), (12, ac_get 2 6 2 15), (15, ac_aload 0 16), (16, ac_get 0 6 3 19), (19, ac_iald 0 20), (20, ac_istore 1 21), (21, ac_aload 0 22), (22, ac_get 2 6 8 25), (25, ac_iload 1 26), (26, ac_iald 0 27), (27, ac_istore 2 28), (28, ac_aload 0 29), (29, ac_dup 30), (30, ac_get 0 6 3 33), (33, ac_push (.int 1) 34), (34, ac_ii (fun x y => x + y) 35), (35, ac_putI 6 3 38), (38, ac_iload 2 39), (39, ac_if1 (fun x => ¬ x = 0) 47 42)]
theorem k_p103_0 : ∀ q ∈ k_c103_0, am_Ok k_nm D cA B0 sb H00 (k_Th B0 sb H00) prog_8_method_14_code "TokenMouthModel" "read" [] (some .int) q.1 q.2 :=
  am_c (ok_aload_n (k := 0) (by decide +kernel) rfl) <|
  am_c (ok_get (by decide +kernel) (by decide +kernel) rfl (by decide +kernel) kw_473) <|
  am_c (ok_aload_n (k := 0) (by decide +kernel) rfl) <|
  am_c (ok_get (by decide +kernel) (by decide +kernel) rfl (by decide +kernel) kw_490) <|
  am_c (ok_icmpge (off := 218) (by decide +kernel) (by decide +kernel)) <|
  am_c (ok_aload_n (k := 0) (by decide +kernel) rfl) <|
  am_c (ok_get (by decide +kernel) (by decide +kernel) rfl (by decide +kernel) kw_410) <|
  am_c (ok_aload_n (k := 0) (by decide +kernel) rfl) <|
  am_c (ok_get (by decide +kernel) (by decide +kernel) rfl (by decide +kernel) kw_473) <|
  am_c (ok_iald (by decide +kernel)) <|
  am_c (ok_istore_n (k := 1) (by decide +kernel) rfl) <|
  am_c (ok_aload_n (k := 0) (by decide +kernel) rfl) <|
  am_c (ok_get (by decide +kernel) (by decide +kernel) rfl (by decide +kernel) kw_411) <|
  am_c (ok_iload_n (k := 1) (by decide +kernel) rfl) <|
  am_c (ok_iald (by decide +kernel)) <|
  am_c (ok_istore_n (k := 2) (by decide +kernel) rfl) <|
  am_c (ok_aload_n (k := 0) (by decide +kernel) rfl) <|
  am_c (ok_dup (by decide +kernel)) <|
  am_c (ok_get (by decide +kernel) (by decide +kernel) rfl (by decide +kernel) kw_473) <|
  am_c (ok_iconst (z := 1) (by decide +kernel) (by decide +kernel)) <|
  am_c (ok_iadd (by decide +kernel)) <|
  am_c (ok_putI (by decide +kernel) (by decide +kernel) rfl (by decide +kernel) kw_473 rfl) <|
  am_c (ok_iload_n (k := 2) (by decide +kernel) rfl) <|
  am_c (ok_ifne (off := 8) (by decide +kernel) (by decide +kernel)) <|
  am_n
def k_c103_1 : List (Nat × am_A) := [(42, ac_aload 0 43), (43, ac_callV 6 102 1 46 am_nohd), (46, ac_iret), (47, ac_iload 2 48), (48, ac_push (.int 5) 49), (49, ac_if2 (fun x y => x = y) 58 52), (52, ac_iload 2 53), (53, ac_push (.int 14) 55), (55, ac_if2 (fun x y => ¬ x = y) 141 58), (58, ac_aload 0 59), (59, ac_get 0 6 4 62), (62, ac_istore 3 63), (63, ac_iload 1 64), (64, ac_istore 4 66), (66, ac_iload 4 68), (68, ac_push (.int 10) 70), (70, ac_if2 (fun x y => x = y) 108 73), (73, ac_aload 0 74), (74, ac_get 0 6 3 77), (77, ac_aload 0 78), (78, ac_get 0 6 1 81), (81, ac_if2 (fun x y => y ≤ x) 108 84), (84, ac_aload 0 85), (85, ac_get 2 6 2 88)]
theorem k_p103_1 : ∀ q ∈ k_c103_1, am_Ok k_nm D cA B0 sb H00 (k_Th B0 sb H00) prog_8_method_14_code "TokenMouthModel" "read" [] (some .int) q.1 q.2 :=
  am_c (ok_aload_n (k := 0) (by decide +kernel) rfl) <|
  am_c (ok_callV (by decide +kernel) (by decide +kernel) kw_509 kw_510 kw_511 kw_508 (by decide +kernel) (by decide +kernel)) <|
  am_c (ok_iret (by decide +kernel) rfl) <|
  am_c (ok_iload_n (k := 2) (by decide +kernel) rfl) <|
  am_c (ok_iconst (z := 5) (by decide +kernel) (by decide +kernel)) <|
  am_c (ok_icmpeq (off := 9) (by decide +kernel) (by decide +kernel)) <|
  am_c (ok_iload_n (k := 2) (by decide +kernel) rfl) <|
  am_c (ok_bipush (z := 14) (by decide +kernel) (by decide +kernel)) <|
  am_c (ok_icmpne (off := 86) (by decide +kernel) (by decide +kernel)) <|
  am_c (ok_aload_n (k := 0) (by decide +kernel) rfl) <|
  am_c (ok_get (by decide +kernel) (by decide +kernel) rfl (by decide +kernel) kw_474) <|
  am_c (ok_istore_n (k := 3) (by decide +kernel) rfl) <|
  am_c (ok_iload_n (k := 1) (by decide +kernel) rfl) <|
  am_c (ok_istore (by decide +kernel)) <|
  am_c (ok_iload (by decide +kernel)) <|
  am_c (ok_bipush (z := 10) (by decide +kernel) (by decide +kernel)) <|
  am_c (ok_icmpeq (off := 38) (by decide +kernel) (by decide +kernel)) <|
  am_c (ok_aload_n (k := 0) (by decide +kernel) rfl) <|
  am_c (ok_get (by decide +kernel) (by decide +kernel) rfl (by decide +kernel) kw_473) <|
  am_c (ok_aload_n (k := 0) (by decide +kernel) rfl) <|
  am_c (ok_get (by decide +kernel) (by decide +kernel) rfl (by decide +kernel) kw_490) <|
  am_c (ok_icmpge (off := 27) (by decide +kernel) (by decide +kernel)) <|
  am_c (ok_aload_n (k := 0) (by decide +kernel) rfl) <|
  am_c (ok_get (by decide +kernel) (by decide +kernel) rfl (by decide +kernel) kw_410) <|
  am_n
def k_c103_2 : List (Nat × am_A) := [(88, ac_aload 0 89), (89, ac_get 0 6 3 92), (92, ac_iald 0 93), (93, ac_istore 4 95), (95, ac_aload 0 96), (96, ac_dup 97), (97, ac_get 0 6 3 100), (100, ac_push (.int 1) 101), (101, ac_ii (fun x y => x + y) 102), (102, ac_putI 6 3 105), (105, ac_goto 66), (108, ac_aload 0 109), (109, ac_push (.int 0) 110), (110, ac_putI 6 4 113), (113, ac_iload 2 114), (114, ac_push (.int 5) 115), (115, ac_if2 (fun x y => ¬ x = y) 138 118), (118, ac_iload 3 119), (119, ac_push (.int 2) 120), (120, ac_if2 (fun x y => y ≤ x) 138 123), (123, ac_iload 3 124), (124, ac_push (.int 1) 125), (125, ac_if2 (fun x y => ¬ x = y) 134 128), (128, ac_push (.int 2592) 131)]
theorem k_p103_2 : ∀ q ∈ k_c103_2, am_Ok k_nm D cA B0 sb H00 (k_Th B0 sb H00) prog_8_method_14_code "TokenMouthModel" "read" [] (some .int) q.1 q.2 :=
  am_c (ok_aload_n (k := 0) (by decide +kernel) rfl) <|
  am_c (ok_get (by decide +kernel) (by decide +kernel) rfl (by decide +kernel) kw_473) <|
  am_c (ok_iald (by decide +kernel)) <|
  am_c (ok_istore (by decide +kernel)) <|
  am_c (ok_aload_n (k := 0) (by decide +kernel) rfl) <|
  am_c (ok_dup (by decide +kernel)) <|
  am_c (ok_get (by decide +kernel) (by decide +kernel) rfl (by decide +kernel) kw_473) <|
  am_c (ok_iconst (z := 1) (by decide +kernel) (by decide +kernel)) <|
  am_c (ok_iadd (by decide +kernel)) <|
  am_c (ok_putI (by decide +kernel) (by decide +kernel) rfl (by decide +kernel) kw_473 rfl) <|
  am_c (ok_goto (off := -39) (by decide +kernel) (by decide +kernel)) <|
  am_c (ok_aload_n (k := 0) (by decide +kernel) rfl) <|
  am_c (ok_iconst (z := 0) (by decide +kernel) (by decide +kernel)) <|
  am_c (ok_putI (by decide +kernel) (by decide +kernel) rfl (by decide +kernel) kw_474 rfl) <|
  am_c (ok_iload_n (k := 2) (by decide +kernel) rfl) <|
  am_c (ok_iconst (z := 5) (by decide +kernel) (by decide +kernel)) <|
  am_c (ok_icmpne (off := 23) (by decide +kernel) (by decide +kernel)) <|
  am_c (ok_iload_n (k := 3) (by decide +kernel) rfl) <|
  am_c (ok_iconst (z := 2) (by decide +kernel) (by decide +kernel)) <|
  am_c (ok_icmpge (off := 18) (by decide +kernel) (by decide +kernel)) <|
  am_c (ok_iload_n (k := 3) (by decide +kernel) rfl) <|
  am_c (ok_iconst (z := 1) (by decide +kernel) (by decide +kernel)) <|
  am_c (ok_icmpne (off := 9) (by decide +kernel) (by decide +kernel)) <|
  am_c (ok_sipush (z := 2592) (by decide +kernel) (by decide +kernel)) <|
  am_n
def k_c103_3 : List (Nat × am_A) := [(131, ac_goto 137), (134, ac_push (.int 4096) 137), (137, ac_iret), (138, ac_goto 223), (141, ac_iload 2 142), (142, ac_push (.int 10) 144), (144, ac_if2 (fun x y => ¬ x = y) 164 147), (147, ac_aload 0 148), (148, ac_get 0 6 4 151), (151, ac_push (.int 1) 152), (152, ac_if2 (fun x y => ¬ x = y) 223 155), (155, ac_aload 0 156), (156, ac_push (.int 2) 157), (157, ac_putI 6 4 160), (160, ac_push (.int 2592) 163), (163, ac_iret), (164, ac_iload 2 165), (165, ac_push (.int 13) 167), (167, ac_if2 (fun x y => ¬ x = y) 191 170), (170, ac_aload 0 171), (171, ac_push (.int 1) 172), (172, ac_putI 6 4 175), (175, ac_aload 0 176), (176, ac_push (.int 0) 177)]
theorem k_p103_3 : ∀ q ∈ k_c103_3, am_Ok k_nm D cA B0 sb H00 (k_Th B0 sb H00) prog_8_method_14_code "TokenMouthModel" "read" [] (some .int) q.1 q.2 :=
  am_c (ok_goto (off := 6) (by decide +kernel) (by decide +kernel)) <|
  am_c (ok_sipush (z := 4096) (by decide +kernel) (by decide +kernel)) <|
  am_c (ok_iret (by decide +kernel) rfl) <|
  am_c (ok_goto (off := 85) (by decide +kernel) (by decide +kernel)) <|
  am_c (ok_iload_n (k := 2) (by decide +kernel) rfl) <|
  am_c (ok_bipush (z := 10) (by decide +kernel) (by decide +kernel)) <|
  am_c (ok_icmpne (off := 20) (by decide +kernel) (by decide +kernel)) <|
  am_c (ok_aload_n (k := 0) (by decide +kernel) rfl) <|
  am_c (ok_get (by decide +kernel) (by decide +kernel) rfl (by decide +kernel) kw_474) <|
  am_c (ok_iconst (z := 1) (by decide +kernel) (by decide +kernel)) <|
  am_c (ok_icmpne (off := 71) (by decide +kernel) (by decide +kernel)) <|
  am_c (ok_aload_n (k := 0) (by decide +kernel) rfl) <|
  am_c (ok_iconst (z := 2) (by decide +kernel) (by decide +kernel)) <|
  am_c (ok_putI (by decide +kernel) (by decide +kernel) rfl (by decide +kernel) kw_474 rfl) <|
  am_c (ok_sipush (z := 2592) (by decide +kernel) (by decide +kernel)) <|
  am_c (ok_iret (by decide +kernel) rfl) <|
  am_c (ok_iload_n (k := 2) (by decide +kernel) rfl) <|
  am_c (ok_bipush (z := 13) (by decide +kernel) (by decide +kernel)) <|
  am_c (ok_icmpne (off := 24) (by decide +kernel) (by decide +kernel)) <|
  am_c (ok_aload_n (k := 0) (by decide +kernel) rfl) <|
  am_c (ok_iconst (z := 1) (by decide +kernel) (by decide +kernel)) <|
  am_c (ok_putI (by decide +kernel) (by decide +kernel) rfl (by decide +kernel) kw_474 rfl) <|
  am_c (ok_aload_n (k := 0) (by decide +kernel) rfl) <|
  am_c (ok_iconst (z := 0) (by decide +kernel) (by decide +kernel)) <|
  am_n
def k_c103_4 : List (Nat × am_A) := [(177, ac_putI 6 16 180), (180, ac_aload 0 181), (181, ac_iload 1 182), (182, ac_callV 6 99 2 185 am_nohd), (185, ac_aload 0 186), (186, ac_push (.int 1) 187), (187, ac_callV 6 101 2 190 am_nohd), (190, ac_iret), (191, ac_iload 2 192), (192, ac_push (.int 15) 194), (194, ac_if2 (fun x y => ¬ x = y) 204 197), (197, ac_aload 0 198), (198, ac_push (.int 8) 200), (200, ac_callV 6 98 2 203 am_nohd), (203, ac_iret), (204, ac_iload 2 205), (205, ac_push (.int 9) 207), (207, ac_if2 (fun x y => x = y) 223 210), (210, ac_aload 0 211), (211, ac_push (.int 1) 212), (212, ac_putI 6 4 215), (215, ac_iload 1 216), (216, ac_push (.int 256) 219), (219, ac_iload 2 220)]
theorem k_p103_4 : ∀ q ∈ k_c103_4, am_Ok k_nm D cA B0 sb H00 (k_Th B0 sb H00) prog_8_method_14_code "TokenMouthModel" "read" [] (some .int) q.1 q.2 :=
  am_c (ok_putI (by decide +kernel) (by decide +kernel) rfl (by decide +kernel) kw_491 rfl) <|
  am_c (ok_aload_n (k := 0) (by decide +kernel) rfl) <|
  am_c (ok_iload_n (k := 1) (by decide +kernel) rfl) <|
  am_c (ok_callV (by decide +kernel) (by decide +kernel) kw_501 kw_502 kw_503 kw_500 (by decide +kernel) (by decide +kernel)) <|
  am_c (ok_aload_n (k := 0) (by decide +kernel) rfl) <|
  am_c (ok_iconst (z := 1) (by decide +kernel) (by decide +kernel)) <|
  am_c (ok_callV (by decide +kernel) (by decide +kernel) kw_505 kw_506 kw_507 kw_504 (by decide +kernel) (by decide +kernel)) <|
  am_c (ok_iret (by decide +kernel) rfl) <|
  am_c (ok_iload_n (k := 2) (by decide +kernel) rfl) <|
  am_c (ok_bipush (z := 15) (by decide +kernel) (by decide +kernel)) <|
  am_c (ok_icmpne (off := 10) (by decide +kernel) (by decide +kernel)) <|
  am_c (ok_aload_n (k := 0) (by decide +kernel) rfl) <|
  am_c (ok_bipush (z := 8) (by decide +kernel) (by decide +kernel)) <|
  am_c (ok_callV (by decide +kernel) (by decide +kernel) kw_497 kw_498 kw_499 kw_496 (by decide +kernel) (by decide +kernel)) <|
  am_c (ok_iret (by decide +kernel) rfl) <|
  am_c (ok_iload_n (k := 2) (by decide +kernel) rfl) <|
  am_c (ok_bipush (z := 9) (by decide +kernel) (by decide +kernel)) <|
  am_c (ok_icmpeq (off := 16) (by decide +kernel) (by decide +kernel)) <|
  am_c (ok_aload_n (k := 0) (by decide +kernel) rfl) <|
  am_c (ok_iconst (z := 1) (by decide +kernel) (by decide +kernel)) <|
  am_c (ok_putI (by decide +kernel) (by decide +kernel) rfl (by decide +kernel) kw_474 rfl) <|
  am_c (ok_iload_n (k := 1) (by decide +kernel) rfl) <|
  am_c (ok_sipush (z := 256) (by decide +kernel) (by decide +kernel)) <|
  am_c (ok_iload_n (k := 2) (by decide +kernel) rfl) <|
  am_n
def k_c103_5 : List (Nat × am_A) := [(220, ac_ii (fun x y => x * y) 221), (221, ac_ii (fun x y => x + y) 222), (222, ac_iret), (223, ac_goto 0), (226, ac_push (.int (-1)) 227), (227, ac_iret)]
theorem k_p103_5 : ∀ q ∈ k_c103_5, am_Ok k_nm D cA B0 sb H00 (k_Th B0 sb H00) prog_8_method_14_code "TokenMouthModel" "read" [] (some .int) q.1 q.2 :=
  am_c (ok_imul (by decide +kernel)) <|
  am_c (ok_iadd (by decide +kernel)) <|
  am_c (ok_iret (by decide +kernel) rfl) <|
  am_c (ok_goto (off := -223) (by decide +kernel) (by decide +kernel)) <|
  am_c (ok_iconst (z := -1) (by decide +kernel) (by decide +kernel)) <|
  am_c (ok_iret (by decide +kernel) rfl) <|
  am_n
def k_t103 : List (Nat × List (Nat × am_A)) := [(39, k_c103_0), (85, k_c103_1), (128, k_c103_2), (176, k_c103_3), (219, k_c103_4), (227, k_c103_5)]
theorem k_o103 : ∀ c ∈ k_t103, ∀ q ∈ c.2, am_Ok k_nm D cA B0 sb H00 (k_Th B0 sb H00) prog_8_method_14_code "TokenMouthModel" "read" [] (some .int) q.1 q.2 := am_cc (P := fun pc a => am_Ok k_nm D cA B0 sb H00 (k_Th B0 sb H00) prog_8_method_14_code "TokenMouthModel" "read" [] (some .int) pc a) k_p103_0 <| am_cc (P := fun pc a => am_Ok k_nm D cA B0 sb H00 (k_Th B0 sb H00) prog_8_method_14_code "TokenMouthModel" "read" [] (some .int) pc a) k_p103_1 <| am_cc (P := fun pc a => am_Ok k_nm D cA B0 sb H00 (k_Th B0 sb H00) prog_8_method_14_code "TokenMouthModel" "read" [] (some .int) pc a) k_p103_2 <| am_cc (P := fun pc a => am_Ok k_nm D cA B0 sb H00 (k_Th B0 sb H00) prog_8_method_14_code "TokenMouthModel" "read" [] (some .int) pc a) k_p103_3 <| am_cc (P := fun pc a => am_Ok k_nm D cA B0 sb H00 (k_Th B0 sb H00) prog_8_method_14_code "TokenMouthModel" "read" [] (some .int) pc a) k_p103_4 <| am_cc (P := fun pc a => am_Ok k_nm D cA B0 sb H00 (k_Th B0 sb H00) prog_8_method_14_code "TokenMouthModel" "read" [] (some .int) pc a) k_p103_5 <| am_cn0
-- 104: TokenMouthModel.get()I
def k_c104_0 : List (Nat × am_A) := [(0, ac_aload 0 1), (1, ac_get 0 6 5 4), (4, ac_if1 (fun x => x ≤ 0) 9 7), (7, ac_push (.int (-1)) 8), (8, ac_iret), (9, ac_aload 0 10), (10, ac_get 0 6 9 13), (13, ac_if1 (fun x => x ≤ 0) 36 16), (16, ac_aload 0 17), (17, ac_dup 18), (18, ac_get 0 6 9 21), (21, ac_push (.int 1) 22), (22, ac_ii (fun x y => x - y) 23), (23, ac_putI 6 9 26), (26, ac_aload 0 27), (27, ac_get 2 6 10 30), (30, ac_aload 0 31), (31, ac_get 0 6 9 34), (34, ac_iald 0 35), (35, ac_iret), (36, ac_aload 0 37), (37, ac_callV 6 103 1 40 am_nohd), (40, ac_iret)]
theorem k_p104_0 : ∀ q ∈ k_c104_0, am_Ok k_nm D cA B0 sb H00 (k_Th B0 sb H00) prog_8_method_15_code "TokenMouthModel" "get" [] (some .int) q.1 q.2 :=
  am_c (ok_aload_n (k := 0) (by decide +kernel) rfl) <|
  am_c (ok_get (by decide +kernel) (by decide +kernel) rfl (by decide +kernel) kw_475) <|
  am_c (ok_ifle (off := 5) (by decide +kernel) (by decide +kernel)) <|
  am_c (ok_iconst (z := -1) (by decide +kernel) (by decide +kernel)) <|
  am_c (ok_iret (by decide +kernel) rfl) <|
  am_c (ok_aload_n (k := 0) (by decide +kernel) rfl) <|
  am_c (ok_get (by decide +kernel) (by decide +kernel) rfl (by decide +kernel) kw_477) <|
  am_c (ok_ifle (off := 23) (by decide +kernel) (by decide +kernel)) <|
  am_c (ok_aload_n (k := 0) (by decide +kernel) rfl) <|
  am_c (ok_dup (by decide +kernel)) <|
  am_c (ok_get (by decide +kernel) (by decide +kernel) rfl (by decide +kernel) kw_477) <|
  am_c (ok_iconst (z := 1) (by decide +kernel) (by decide +kernel)) <|
  am_c (ok_isub (by decide +kernel)) <|
  am_c (ok_putI (by decide +kernel) (by decide +kernel) rfl (by decide +kernel) kw_477 rfl) <|
  am_c (ok_aload_n (k := 0) (by decide +kernel) rfl) <|
  am_c (ok_get (by decide +kernel) (by decide +kernel) rfl (by decide +kernel) kw_412) <|
  am_c (ok_aload_n (k := 0) (by decide +kernel) rfl) <|
  am_c (ok_get (by decide +kernel) (by decide +kernel) rfl (by decide +kernel) kw_477) <|
  am_c (ok_iald (by decide +kernel)) <|
  am_c (ok_iret (by decide +kernel) rfl) <|
  am_c (ok_aload_n (k := 0) (by decide +kernel) rfl) <|
  am_c (ok_callV (by decide +kernel) (by decide +kernel) kw_513 kw_514 kw_515 kw_512 (by decide +kernel) (by decide +kernel)) <|
  am_c (ok_iret (by decide +kernel) rfl) <|
  am_n
def k_t104 : List (Nat × List (Nat × am_A)) := [(40, k_c104_0)]
theorem k_o104 : ∀ c ∈ k_t104, ∀ q ∈ c.2, am_Ok k_nm D cA B0 sb H00 (k_Th B0 sb H00) prog_8_method_15_code "TokenMouthModel" "get" [] (some .int) q.1 q.2 := am_cc (P := fun pc a => am_Ok k_nm D cA B0 sb H00 (k_Th B0 sb H00) prog_8_method_15_code "TokenMouthModel" "get" [] (some .int) pc a) k_p104_0 <| am_cn0
-- 105: TokenMouthModel.need()I
def k_c105_0 : List (Nat × am_A) := [(0, ac_aload 0 1), (1, ac_callV 6 104 1 4 am_nohd), (4, ac_istore 1 5), (5, ac_iload 1 6), (6, ac_push (.int (-1)) 7), (7, ac_if2 (fun x y => ¬ x = y) 18 10), (10, ac_aload 0 11), (11, ac_push (.int 3) 12), (12, ac_callV 6 98 2 15 am_nohd), (15, ac_goto 19), (18, ac_iload 1 19), (19, ac_iret)]
theorem k_p105_0 : ∀ q ∈ k_c105_0, am_Ok k_nm D cA B0 sb H00 (k_Th B0 sb H00) prog_8_method_16_code "TokenMouthModel" "need" [] (some .int) q.1 q.2 :=
  am_c (ok_aload_n (k := 0) (by decide +kernel) rfl) <|
  am_c (ok_callV (by decide +kernel) (by decide +kernel) kw_517 kw_518 kw_519 kw_516 (by decide +kernel) (by decide +kernel)) <|
  am_c (ok_istore_n (k := 1) (by decide +kernel) rfl) <|
  am_c (ok_iload_n (k := 1) (by decide +kernel) rfl) <|
  am_c (ok_iconst (z := -1) (by decide +kernel) (by decide +kernel)) <|
  am_c (ok_icmpne (off := 11) (by decide +kernel) (by decide +kernel)) <|
  am_c (ok_aload_n (k := 0) (by decide +kernel) rfl) <|
  am_c (ok_iconst (z := 3) (by decide +kernel) (by decide +kernel)) <|
  am_c (ok_callV (by decide +kernel) (by decide +kernel) kw_497 kw_498 kw_499 kw_496 (by decide +kernel) (by decide +kernel)) <|
  am_c (ok_goto (off := 4) (by decide +kernel) (by decide +kernel)) <|
  am_c (ok_iload_n (k := 1) (by decide +kernel) rfl) <|
  am_c (ok_iret (by decide +kernel) rfl) <|
  am_n
def k_t105 : List (Nat × List (Nat × am_A)) := [(19, k_c105_0)]
theorem k_o105 : ∀ c ∈ k_t105, ∀ q ∈ c.2, am_Ok k_nm D cA B0 sb H00 (k_Th B0 sb H00) prog_8_method_16_code "TokenMouthModel" "need" [] (some .int) q.1 q.2 := am_cc (P := fun pc a => am_Ok k_nm D cA B0 sb H00 (k_Th B0 sb H00) prog_8_method_16_code "TokenMouthModel" "need" [] (some .int) pc a) k_p105_0 <| am_cn0
end
