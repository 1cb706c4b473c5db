/-! tables of the methods 131 to 141; printed by wip/whole/emit.py -/
section
variable {D : va_G} {cA : Nat → ClassId} {B0 : Nat} {sb : Nat → Option Nat} {H00 : Heap}
-- 131: TokenMouthModel.goOn()I
def k_c131_0 : List (Nat × am_A) := [(0, ac_aload 0 1), (1, ac_get 0 6 31 4), (4, ac_push (.int 1) 5), (5, ac_ii (fun x y => x - y) 6), (6, ac_istore 1 7), (7, ac_aload 0 8), (8, ac_get 2 6 32 11), (11, ac_iload 1 12), (12, ac_iald 0 13), (13, ac_push (.int 8) 15), (15, ac_if2 (fun x y => ¬ x = y) 40 18), (18, ac_aload 0 19), (19, ac_dup 20), (20, ac_get 0 6 31 23), (23, ac_push (.int 1) 24), (24, ac_ii (fun x y => x - y) 25), (25, ac_putI 6 31 28), (28, ac_aload 0 29), (29, ac_aload 0 30), (30, ac_get 2 6 33 33), (33, ac_iload 1 34), (34, ac_iald 0 35), (35, ac_callV 6 106 2 38 am_nohd), (38, ac_push (.int (-1)) 39)]
theorem k_p131_0 : ∀ q ∈ k_c131_0, am_Ok k_nm D cA B0 sb H00 (k_Th B0 sb H00) prog_8_method_42_code "TokenMouthModel" "goOn" [] (some .int) q.1 q.2 :=
  am_c (ok_aload_n (k := 0) (by decide +kernel) rfl) <|
  am_c (ok_get (by decide +kernel) (by decide +kernel) rfl (by decide +kernel) kw_483) <|
  am_c (ok_iconst (z := 1) (by decide +kernel) (by decide +kernel)) <|
  am_c (ok_isub (by decide +kernel)) <|
  am_c (ok_istore_n (k := 1) (by decide +kernel) rfl) <|
  am_c (ok_aload_n (k := 0) (by decide +kernel) rfl) <|
  am_c (ok_get (by decide +kernel) (by decide +kernel) rfl (by decide +kernel) kw_429) <|
  am_c (ok_iload_n (k := 1) (by decide +kernel) rfl) <|
  am_c (ok_iald (by decide +kernel)) <|
  am_c (ok_bipush (z := 8) (by decide +kernel) (by decide +kernel)) <|
  am_c (ok_icmpne (off := 25) (by decide +kernel) (by decide +kernel)) <|
  am_c (ok_aload_n (k := 0) (by decide +kernel) rfl) <|
  am_c (ok_dup (by decide +kernel)) <|
  am_c (ok_get (by decide +kernel) (by decide +kernel) rfl (by decide +kernel) kw_483) <|
  am_c (ok_iconst (z := 1) (by decide +kernel) (by decide +kernel)) <|
  am_c (ok_isub (by decide +kernel)) <|
  am_c (ok_putI (by decide +kernel) (by decide +kernel) rfl (by decide +kernel) kw_483 rfl) <|
  am_c (ok_aload_n (k := 0) (by decide +kernel) rfl) <|
  am_c (ok_aload_n (k := 0) (by decide +kernel) rfl) <|
  am_c (ok_get (by decide +kernel) (by decide +kernel) rfl (by decide +kernel) kw_430) <|
  am_c (ok_iload_n (k := 1) (by decide +kernel) rfl) <|
  am_c (ok_iald (by decide +kernel)) <|
  am_c (ok_callV (by decide +kernel) (by decide +kernel) kw_562 kw_563 kw_564 kw_561 (by decide +kernel) (by decide +kernel)) <|
  am_c (ok_iconst (z := -1) (by decide +kernel) (by decide +kernel)) <|
  am_n
def k_c131_1 : List (Nat × am_A) := [(39, ac_iret), (40, ac_aload 0 41), (41, ac_callV 6 105 1 44 am_nohd), (44, ac_istore 2 45), (45, ac_iload 2 46), (46, ac_push (.int (-1)) 47), (47, ac_if2 (fun x y => x = y) 58 50), (50, ac_aload 0 51), (51, ac_iload 2 52), (52, ac_callV 6 112 2 55 am_nohd), (55, ac_if1 (fun x => x = 0) 60 58), (58, ac_iload 2 59), (59, ac_iret), (60, ac_aload 0 61), (61, ac_iload 2 62), (62, ac_callV 6 111 2 65 am_nohd), (65, ac_istore 3 66), (66, ac_aload 0 67), (67, ac_get 2 6 32 70), (70, ac_iload 1 71), (71, ac_iald 0 72), (72, ac_push (.int 13) 74), (74, ac_if2 (fun x y => ¬ x = y) 168 77), (77, ac_iload 3 78)]
theorem k_p131_1 : ∀ q ∈ k_c131_1, am_Ok k_nm D cA B0 sb H00 (k_Th B0 sb H00) prog_8_method_42_code "TokenMouthModel" "goOn" [] (some .int) q.1 q.2 :=
  am_c (ok_iret (by decide +kernel) rfl) <|
  am_c (ok_aload_n (k := 0) (by decide +kernel) rfl) <|
  am_c (ok_callV (by decide +kernel) (by decide +kernel) kw_550 kw_551 kw_552 kw_549 (by decide +kernel) (by decide +kernel)) <|
  am_c (ok_istore_n (k := 2) (by decide +kernel) rfl) <|
  am_c (ok_iload_n (k := 2) (by decide +kernel) rfl) <|
  am_c (ok_iconst (z := -1) (by decide +kernel) (by decide +kernel)) <|
  am_c (ok_icmpeq (off := 11) (by decide +kernel) (by decide +kernel)) <|
  am_c (ok_aload_n (k := 0) (by decide +kernel) rfl) <|
  am_c (ok_iload_n (k := 2) (by decide +kernel) rfl) <|
  am_c (ok_callV (by decide +kernel) (by decide +kernel) kw_578 kw_579 kw_580 kw_577 (by decide +kernel) (by decide +kernel)) <|
  am_c (ok_ifeq (off := 5) (by decide +kernel) (by decide +kernel)) <|
  am_c (ok_iload_n (k := 2) (by decide +kernel) rfl) <|
  am_c (ok_iret (by decide +kernel) rfl) <|
  am_c (ok_aload_n (k := 0) (by decide +kernel) rfl) <|
  am_c (ok_iload_n (k := 2) (by decide +kernel) rfl) <|
  am_c (ok_callV (by decide +kernel) (by decide +kernel) kw_528 kw_529 kw_530 kw_527 (by decide +kernel) (by decide +kernel)) <|
  am_c (ok_istore_n (k := 3) (by decide +kernel) rfl) <|
  am_c (ok_aload_n (k := 0) (by decide +kernel) rfl) <|
  am_c (ok_get (by decide +kernel) (by decide +kernel) rfl (by decide +kernel) kw_429) <|
  am_c (ok_iload_n (k := 1) (by decide +kernel) rfl) <|
  am_c (ok_iald (by decide +kernel)) <|
  am_c (ok_bipush (z := 13) (by decide +kernel) (by decide +kernel)) <|
  am_c (ok_icmpne (off := 94) (by decide +kernel) (by decide +kernel)) <|
  am_c (ok_iload_n (k := 3) (by decide +kernel) rfl) <|
  am_n
def k_c131_2 : List (Nat × am_A) := [(78, ac_push (.int 1000) 81), (81, ac_if2 (fun x y => y ≤ x) 90 84), (84, ac_push (.int 256) 87), (87, ac_goto 99), (90, ac_iload 3 91), (91, ac_push (.int 1000) 94), (94, ac_ii (fun x y => x - y) 95), (95, ac_push (.int 255) 98), (98, ac_ii (fun x y => x &&& y) 99), (99, ac_istore 4 101), (101, ac_aload 0 102), (102, ac_get 2 6 34 105), (105, ac_iload 1 106), (106, ac_dup2 107), (107, ac_iald 0 108), (108, ac_push (.int 1) 109), (109, ac_ii (fun x y => x + y) 110), (110, ac_iast 111), (111, ac_aload 0 112), (112, ac_get 2 6 34 115), (115, ac_iload 1 116), (116, ac_iald 0 117), (117, ac_push (.int 2) 118), (118, ac_if2 (fun x y => ¬ x = y) 157 121)]
theorem k_p131_2 : ∀ q ∈ k_c131_2, am_Ok k_nm D cA B0 sb H00 (k_Th B0 sb H00) prog_8_method_42_code "TokenMouthModel" "goOn" [] (some .int) q.1 q.2 :=
  am_c (ok_sipush (z := 1000) (by decide +kernel) (by decide +kernel)) <|
  am_c (ok_icmpge (off := 9) (by decide +kernel) (by decide +kernel)) <|
  am_c (ok_sipush (z := 256) (by decide +kernel) (by decide +kernel)) <|
  am_c (ok_goto (off := 12) (by decide +kernel) (by decide +kernel)) <|
  am_c (ok_iload_n (k := 3) (by decide +kernel) rfl) <|
  am_c (ok_sipush (z := 1000) (by decide +kernel) (by decide +kernel)) <|
  am_c (ok_isub (by decide +kernel)) <|
  am_c (ok_sipush (z := 255) (by decide +kernel) (by decide +kernel)) <|
  am_c (ok_iand (by decide +kernel)) <|
  am_c (ok_istore (by decide +kernel)) <|
  am_c (ok_aload_n (k := 0) (by decide +kernel) rfl) <|
  am_c (ok_get (by decide +kernel) (by decide +kernel) rfl (by decide +kernel) kw_431) <|
  am_c (ok_iload_n (k := 1) (by decide +kernel) rfl) <|
  am_c (ok_dup2 (by decide +kernel)) <|
  am_c (ok_iald (by decide +kernel)) <|
  am_c (ok_iconst (z := 1) (by decide +kernel) (by decide +kernel)) <|
  am_c (ok_iadd (by decide +kernel)) <|
  am_c (ok_iast (by decide +kernel)) <|
  am_c (ok_aload_n (k := 0) (by decide +kernel) rfl) <|
  am_c (ok_get (by decide +kernel) (by decide +kernel) rfl (by decide +kernel) kw_431) <|
  am_c (ok_iload_n (k := 1) (by decide +kernel) rfl) <|
  am_c (ok_iald (by decide +kernel)) <|
  am_c (ok_iconst (z := 2) (by decide +kernel) (by decide +kernel)) <|
  am_c (ok_icmpne (off := 39) (by decide +kernel) (by decide +kernel)) <|
  am_n
def k_c131_3 : List (Nat × am_A) := [(121, ac_aload 0 122), (122, ac_dup 123), (123, ac_get 0 6 31 126), (126, ac_push (.int 1) 127), (127, ac_ii (fun x y => x - y) 128), (128, ac_putI 6 31 131), (131, ac_aload 0 132), (132, ac_aload 0 133), (133, ac_get 2 6 35 136), (136, ac_iload 1 137), (137, ac_iald 0 138), (138, ac_iload 4 140), (140, ac_aload 0 141), (141, ac_get 2 6 33 144), (144, ac_iload 1 145), (145, ac_iald 0 146), (146, ac_if2 (fun x y => ¬ x = y) 153 149), (149, ac_push (.int 1) 150), (150, ac_goto 154), (153, ac_push (.int 0) 154), (154, ac_callV 6 123 3 157 am_nohd), (157, ac_aload 0 158), (158, ac_get 2 6 33 161), (161, ac_iload 1 162)]
theorem k_p131_3 : ∀ q ∈ k_c131_3, am_Ok k_nm D cA B0 sb H00 (k_Th B0 sb H00) prog_8_method_42_code "TokenMouthModel" "goOn" [] (some .int) q.1 q.2 :=
  am_c (ok_aload_n (k := 0) (by decide +kernel) rfl) <|
  am_c (ok_dup (by decide +kernel)) <|
  am_c (ok_get (by decide +kernel) (by decide +kernel) rfl (by decide +kernel) kw_483) <|
  am_c (ok_iconst (z := 1) (by decide +kernel) (by decide +kernel)) <|
  am_c (ok_isub (by decide +kernel)) <|
  am_c (ok_putI (by decide +kernel) (by decide +kernel) rfl (by decide +kernel) kw_483 rfl) <|
  am_c (ok_aload_n (k := 0) (by decide +kernel) rfl) <|
  am_c (ok_aload_n (k := 0) (by decide +kernel) rfl) <|
  am_c (ok_get (by decide +kernel) (by decide +kernel) rfl (by decide +kernel) kw_432) <|
  am_c (ok_iload_n (k := 1) (by decide +kernel) rfl) <|
  am_c (ok_iald (by decide +kernel)) <|
  am_c (ok_iload (by decide +kernel)) <|
  am_c (ok_aload_n (k := 0) (by decide +kernel) rfl) <|
  am_c (ok_get (by decide +kernel) (by decide +kernel) rfl (by decide +kernel) kw_430) <|
  am_c (ok_iload_n (k := 1) (by decide +kernel) rfl) <|
  am_c (ok_iald (by decide +kernel)) <|
  am_c (ok_icmpne (off := 7) (by decide +kernel) (by decide +kernel)) <|
  am_c (ok_iconst (z := 1) (by decide +kernel) (by decide +kernel)) <|
  am_c (ok_goto (off := 4) (by decide +kernel) (by decide +kernel)) <|
  am_c (ok_iconst (z := 0) (by decide +kernel) (by decide +kernel)) <|
  am_c (ok_callV (by decide +kernel) (by decide +kernel) kw_606 kw_607 kw_608 kw_605 (by decide +kernel) (by decide +kernel)) <|
  am_c (ok_aload_n (k := 0) (by decide +kernel) rfl) <|
  am_c (ok_get (by decide +kernel) (by decide +kernel) rfl (by decide +kernel) kw_430) <|
  am_c (ok_iload_n (k := 1) (by decide +kernel) rfl) <|
  am_n
def k_c131_4 : List (Nat × am_A) := [(162, ac_iload 4 164), (164, ac_iast 165), (165, ac_goto 253), (168, ac_iload 3 169), (169, ac_push (.int 11) 171), (171, ac_if2 (fun x y => ¬ x = y) 192 174), (174, ac_aload 0 175), (175, ac_dup 176), (176, ac_get 0 6 31 179), (179, ac_push (.int 1) 180), (180, ac_ii (fun x y => x - y) 181), (181, ac_putI 6 31 184), (184, ac_aload 0 185), (185, ac_iload 1 186), (186, ac_callV 6 132 2 189 am_nohd), (189, ac_goto 253), (192, ac_iload 2 193), (193, ac_push (.int 4096) 196), (196, ac_if2 (fun x y => x < y) 205 199), (199, ac_aload 0 200), (200, ac_push (.int 4) 201), (201, ac_callV 6 98 2 204 am_nohd), (204, ac_iret), (205, ac_aload 0 206)]
theorem k_p131_4 : ∀ q ∈ k_c131_4, am_Ok k_nm D cA B0 sb H00 (k_Th B0 sb H00) prog_8_method_42_code "TokenMouthModel" "goOn" [] (some .int) q.1 q.2 :=
  am_c (ok_iload (by decide +kernel)) <|
  am_c (ok_iast (by decide +kernel)) <|
  am_c (ok_goto (off := 88) (by decide +kernel) (by decide +kernel)) <|
  am_c (ok_iload_n (k := 3) (by decide +kernel) rfl) <|
  am_c (ok_bipush (z := 11) (by decide +kernel) (by decide +kernel)) <|
  am_c (ok_icmpne (off := 21) (by decide +kernel) (by decide +kernel)) <|
  am_c (ok_aload_n (k := 0) (by decide +kernel) rfl) <|
  am_c (ok_dup (by decide +kernel)) <|
  am_c (ok_get (by decide +kernel) (by decide +kernel) rfl (by decide +kernel) kw_483) <|
  am_c (ok_iconst (z := 1) (by decide +kernel) (by decide +kernel)) <|
  am_c (ok_isub (by decide +kernel)) <|
  am_c (ok_putI (by decide +kernel) (by decide +kernel) rfl (by decide +kernel) kw_483 rfl) <|
  am_c (ok_aload_n (k := 0) (by decide +kernel) rfl) <|
  am_c (ok_iload_n (k := 1) (by decide +kernel) rfl) <|
  am_c (ok_callV (by decide +kernel) (by decide +kernel) kw_610 kw_611 kw_612 kw_609 (by decide +kernel) (by decide +kernel)) <|
  am_c (ok_goto (off := 64) (by decide +kernel) (by decide +kernel)) <|
  am_c (ok_iload_n (k := 2) (by decide +kernel) rfl) <|
  am_c (ok_sipush (z := 4096) (by decide +kernel) (by decide +kernel)) <|
  am_c (ok_icmplt (off := 9) (by decide +kernel) (by decide +kernel)) <|
  am_c (ok_aload_n (k := 0) (by decide +kernel) rfl) <|
  am_c (ok_iconst (z := 4) (by decide +kernel) (by decide +kernel)) <|
  am_c (ok_callV (by decide +kernel) (by decide +kernel) kw_498 kw_499 kw_500 kw_497 (by decide +kernel) (by decide +kernel)) <|
  am_c (ok_iret (by decide +kernel) rfl) <|
  am_c (ok_aload_n (k := 0) (by decide +kernel) rfl) <|
  am_n
def k_c131_5 : List (Nat × am_A) := [(206, ac_get 2 6 34 209), (209, ac_iload 1 210), (210, ac_iald 0 211), (211, ac_push (.int 11) 213), (213, ac_if2 (fun x y => ¬ x = y) 222 216), (216, ac_aload 0 217), (217, ac_push (.int 5) 218), (218, ac_callV 6 98 2 221 am_nohd), (221, ac_iret), (222, ac_aload 0 223), (223, ac_get 2 6 36 226), (226, ac_push (.int 12) 228), (228, ac_iload 1 229), (229, ac_ii (fun x y => x * y) 230), (230, ac_aload 0 231), (231, ac_get 2 6 34 234), (234, ac_iload 1 235), (235, ac_iald 0 236), (236, ac_ii (fun x y => x + y) 237), (237, ac_iload 2 238), (238, ac_push (.int 255) 241), (241, ac_ii (fun x y => x &&& y) 242), (242, ac_iast 243), (243, ac_aload 0 244)]
theorem k_p131_5 : ∀ q ∈ k_c131_5, am_Ok k_nm D cA B0 sb H00 (k_Th B0 sb H00) prog_8_method_42_code "TokenMouthModel" "goOn" [] (some .int) q.1 q.2 :=
  am_c (ok_get (by decide +kernel) (by decide +kernel) rfl (by decide +kernel) kw_431) <|
  am_c (ok_iload_n (k := 1) (by decide +kernel) rfl) <|
  am_c (ok_iald (by decide +kernel)) <|
  am_c (ok_bipush (z := 11) (by decide +kernel) (by decide +kernel)) <|
  am_c (ok_icmpne (off := 9) (by decide +kernel) (by decide +kernel)) <|
  am_c (ok_aload_n (k := 0) (by decide +kernel) rfl) <|
  am_c (ok_iconst (z := 5) (by decide +kernel) (by decide +kernel)) <|
  am_c (ok_callV (by decide +kernel) (by decide +kernel) kw_498 kw_499 kw_500 kw_497 (by decide +kernel) (by decide +kernel)) <|
  am_c (ok_iret (by decide +kernel) rfl) <|
  am_c (ok_aload_n (k := 0) (by decide +kernel) rfl) <|
  am_c (ok_get (by decide +kernel) (by decide +kernel) rfl (by decide +kernel) kw_433) <|
  am_c (ok_bipush (z := 12) (by decide +kernel) (by decide +kernel)) <|
  am_c (ok_iload_n (k := 1) (by decide +kernel) rfl) <|
  am_c (ok_imul (by decide +kernel)) <|
  am_c (ok_aload_n (k := 0) (by decide +kernel) rfl) <|
  am_c (ok_get (by decide +kernel) (by decide +kernel) rfl (by decide +kernel) kw_431) <|
  am_c (ok_iload_n (k := 1) (by decide +kernel) rfl) <|
  am_c (ok_iald (by decide +kernel)) <|
  am_c (ok_iadd (by decide +kernel)) <|
  am_c (ok_iload_n (k := 2) (by decide +kernel) rfl) <|
  am_c (ok_sipush (z := 255) (by decide +kernel) (by decide +kernel)) <|
  am_c (ok_iand (by decide +kernel)) <|
  am_c (ok_iast (by decide +kernel)) <|
  am_c (ok_aload_n (k := 0) (by decide +kernel) rfl) <|
  am_n
def k_c131_6 : List (Nat × am_A) := [(244, ac_get 2 6 34 247), (247, ac_iload 1 248), (248, ac_dup2 249), (249, ac_iald 0 250), (250, ac_push (.int 1) 251), (251, ac_ii (fun x y => x + y) 252), (252, ac_iast 253), (253, ac_push (.int (-1)) 254), (254, ac_iret)]
theorem k_p131_6 : ∀ q ∈ k_c131_6, am_Ok k_nm D cA B0 sb H00 (k_Th B0 sb H00) prog_8_method_42_code "TokenMouthModel" "goOn" [] (some .int) q.1 q.2 :=
  am_c (ok_get (by decide +kernel) (by decide +kernel) rfl (by decide +kernel) kw_431) <|
  am_c (ok_iload_n (k := 1) (by decide +kernel) rfl) <|
  am_c (ok_dup2 (by decide +kernel)) <|
  am_c (ok_iald (by decide +kernel)) <|
  am_c (ok_iconst (z := 1) (by decide +kernel) (by decide +kernel)) <|
  am_c (ok_iadd (by decide +kernel)) <|
  am_c (ok_iast (by decide +kernel)) <|
  am_c (ok_iconst (z := -1) (by decide +kernel) (by decide +kernel)) <|
  am_c (ok_iret (by decide +kernel) rfl) <|
  am_n
def k_t131 : List (Nat × List (Nat × am_A)) := [(38, k_c131_0), (77, k_c131_1), (118, k_c131_2), (161, k_c131_3), (205, k_c131_4), (243, k_c131_5), (254, k_c131_6)]
theorem k_o131 : ∀ c ∈ k_t131, ∀ q ∈ c.2, am_Ok k_nm D cA B0 sb H00 (k_Th B0 sb H00) prog_8_method_42_code "TokenMouthModel" "goOn" [] (some .int) q.1 q.2 := am_cc (P := fun pc a => am_Ok k_nm D cA B0 sb H00 (k_Th B0 sb H00) prog_8_method_42_code "TokenMouthModel" "goOn" [] (some .int) pc a) k_p131_0 <| am_cc (P := fun pc a => am_Ok k_nm D cA B0 sb H00 (k_Th B0 sb H00) prog_8_method_42_code "TokenMouthModel" "goOn" [] (some .int) pc a) k_p131_1 <| am_cc (P := fun pc a => am_Ok k_nm D cA B0 sb H00 (k_Th B0 sb H00) prog_8_method_42_code "TokenMouthModel" "goOn" [] (some .int) pc a) k_p131_2 <| am_cc (P := fun pc a => am_Ok k_nm D cA B0 sb H00 (k_Th B0 sb H00) prog_8_method_42_code "TokenMouthModel" "goOn" [] (some .int) pc a) k_p131_3 <| am_cc (P := fun pc a => am_Ok k_nm D cA B0 sb H00 (k_Th B0 sb H00) prog_8_method_42_code "TokenMouthModel" "goOn" [] (some .int) pc a) k_p131_4 <| am_cc (P := fun pc a => am_Ok k_nm D cA B0 sb H00 (k_Th B0 sb H00) prog_8_method_42_code "TokenMouthModel" "goOn" [] (some .int) pc a) k_p131_5 <| am_cc (P := fun pc a => am_Ok k_nm D cA B0 sb H00 (k_Th B0 sb H00) prog_8_method_42_code "TokenMouthModel" "goOn" [] (some .int) pc a) k_p131_6 <| am_cn0
-- 132: TokenMouthModel.spelled(I)V
def k_c132_0 : List (Nat × am_A) := [(0, ac_aload 0 1), (1, ac_get 2 6 34 4), (4, ac_iload 1 5), (5, ac_iald 0 6), (6, ac_if1 (fun x => ¬ x = 0) 16 9), (9, ac_aload 0 10), (10, ac_push (.int 4) 11), (11, ac_callV 6 98 2 14 am_nohd), (14, ac_istore 2 15), (15, ac_ret), (16, ac_aload 0 17), (17, ac_push (.int 0) 18), (18, ac_putI 6 16 21), (21, ac_push (.int 0) 22), (22, ac_istore 2 23), (23, ac_iload 2 24), (24, ac_aload 0 25), (25, ac_get 2 6 34 28), (28, ac_iload 1 29), (29, ac_iald 0 30), (30, ac_if2 (fun x y => y ≤ x) 54 33), (33, ac_aload 0 34), (34, ac_aload 0 35), (35, ac_get 2 6 36 38)]
theorem k_p132_0 : ∀ q ∈ k_c132_0, am_Ok k_nm D cA B0 sb H00 (k_Th B0 sb H00) prog_8_method_43_code "TokenMouthModel" "spelled" [] none q.1 q.2 :=
  am_c (ok_aload_n (k := 0) (by decide +kernel) rfl) <|
  am_c (ok_get (by decide +kernel) (by decide +kernel) rfl (by decide +kernel) kw_431) <|
  am_c (ok_iload_n (k := 1) (by decide +kernel) rfl) <|
  am_c (ok_iald (by decide +kernel)) <|
  am_c (ok_ifne (off := 10) (by decide +kernel) (by decide +kernel)) <|
  am_c (ok_aload_n (k := 0) (by decide +kernel) rfl) <|
  am_c (ok_iconst (z := 4) (by decide +kernel) (by decide +kernel)) <|
  am_c (ok_callV (by decide +kernel) (by decide +kernel) kw_498 kw_499 kw_500 kw_497 (by decide +kernel) (by decide +kernel)) <|
  am_c (ok_istore_n (k := 2) (by decide +kernel) rfl) <|
  am_c (ok_ret (by decide +kernel) rfl) <|
  am_c (ok_aload_n (k := 0) (by decide +kernel) rfl) <|
  am_c (ok_iconst (z := 0) (by decide +kernel) (by decide +kernel)) <|
  am_c (ok_putI (by decide +kernel) (by decide +kernel) rfl (by decide +kernel) kw_492 rfl) <|
  am_c (ok_iconst (z := 0) (by decide +kernel) (by decide +kernel)) <|
  am_c (ok_istore_n (k := 2) (by decide +kernel) rfl) <|
  am_c (ok_iload_n (k := 2) (by decide +kernel) rfl) <|
  am_c (ok_aload_n (k := 0) (by decide +kernel) rfl) <|
  am_c (ok_get (by decide +kernel) (by decide +kernel) rfl (by decide +kernel) kw_431) <|
  am_c (ok_iload_n (k := 1) (by decide +kernel) rfl) <|
  am_c (ok_iald (by decide +kernel)) <|
  am_c (ok_icmpge (off := 24) (by decide +kernel) (by decide +kernel)) <|
  am_c (ok_aload_n (k := 0) (by decide +kernel) rfl) <|
  am_c (ok_aload_n (k := 0) (by decide +kernel) rfl) <|
  am_c (ok_get (by decide +kernel) (by decide +kernel) rfl (by decide +kernel) kw_433) <|
  am_n
def k_c132_1 : List (Nat × am_A) := [(38, ac_push (.int 12) 40), (40, ac_iload 1 41), (41, ac_ii (fun x y => x * y) 42), (42, ac_iload 2 43), (43, ac_ii (fun x y => x + y) 44), (44, ac_iald 0 45), (45, ac_callV 6 99 2 48 am_nohd), (48, ac_iinc 2 1 51), (51, ac_goto 23), (54, ac_aload 0 55), (55, ac_push (.int 0) 56), (56, ac_callV 6 101 2 59 am_nohd), (59, ac_istore 2 60), (60, ac_iload 2 61), (61, ac_push (.int (-1)) 62), (62, ac_if2 (fun x y => x = y) 88 65), (65, ac_aload 0 66), (66, ac_get 2 6 15 69), (69, ac_iload 2 70), (70, ac_push (.int 4096) 73), (73, ac_ii (fun x y => x - y) 74), (74, ac_iald 0 75), (75, ac_if1 (fun x => ¬ x = 0) 88 78), (78, ac_aload 0 79)]
theorem k_p132_1 : ∀ q ∈ k_c132_1, am_Ok k_nm D cA B0 sb H00 (k_Th B0 sb H00) prog_8_method_43_code "TokenMouthModel" "spelled" [] none q.1 q.2 :=
  am_c (ok_bipush (z := 12) (by decide +kernel) (by decide +kernel)) <|
  am_c (ok_iload_n (k := 1) (by decide +kernel) rfl) <|
  am_c (ok_imul (by decide +kernel)) <|
  am_c (ok_iload_n (k := 2) (by decide +kernel) rfl) <|
  am_c (ok_iadd (by decide +kernel)) <|
  am_c (ok_iald (by decide +kernel)) <|
  am_c (ok_callV (by decide +kernel) (by decide +kernel) kw_502 kw_503 kw_504 kw_501 (by decide +kernel) (by decide +kernel)) <|
  am_c (ok_iinc (z := 1) (by decide +kernel) (by decide +kernel)) <|
  am_c (ok_goto (off := -28) (by decide +kernel) (by decide +kernel)) <|
  am_c (ok_aload_n (k := 0) (by decide +kernel) rfl) <|
  am_c (ok_iconst (z := 0) (by decide +kernel) (by decide +kernel)) <|
  am_c (ok_callV (by decide +kernel) (by decide +kernel) kw_506 kw_507 kw_508 kw_505 (by decide +kernel) (by decide +kernel)) <|
  am_c (ok_istore_n (k := 2) (by decide +kernel) rfl) <|
  am_c (ok_iload_n (k := 2) (by decide +kernel) rfl) <|
  am_c (ok_iconst (z := -1) (by decide +kernel) (by decide +kernel)) <|
  am_c (ok_icmpeq (off := 26) (by decide +kernel) (by decide +kernel)) <|
  am_c (ok_aload_n (k := 0) (by decide +kernel) rfl) <|
  am_c (ok_get (by decide +kernel) (by decide +kernel) rfl (by decide +kernel) kw_418) <|
  am_c (ok_iload_n (k := 2) (by decide +kernel) rfl) <|
  am_c (ok_sipush (z := 4096) (by decide +kernel) (by decide +kernel)) <|
  am_c (ok_isub (by decide +kernel)) <|
  am_c (ok_iald (by decide +kernel)) <|
  am_c (ok_ifne (off := 13) (by decide +kernel) (by decide +kernel)) <|
  am_c (ok_aload_n (k := 0) (by decide +kernel) rfl) <|
  am_n
def k_c132_2 : List (Nat × am_A) := [(79, ac_iload 2 80), (80, ac_push (.int 4096) 83), (83, ac_ii (fun x y => x - y) 84), (84, ac_push (.int 2) 85), (85, ac_callV 6 113 3 88 am_nohd), (88, ac_aload 0 89), (89, ac_get 0 6 5 92), (92, ac_if1 (fun x => ¬ x = 0) 100 95), (95, ac_aload 0 96), (96, ac_iload 2 97), (97, ac_callV 6 106 2 100 am_nohd), (100, ac_ret)]
theorem k_p132_2 : ∀ q ∈ k_c132_2, am_Ok k_nm D cA B0 sb H00 (k_Th B0 sb H00) prog_8_method_43_code "TokenMouthModel" "spelled" [] none q.1 q.2 :=
  am_c (ok_iload_n (k := 2) (by decide +kernel) rfl) <|
  am_c (ok_sipush (z := 4096) (by decide +kernel) (by decide +kernel)) <|
  am_c (ok_isub (by decide +kernel)) <|
  am_c (ok_iconst (z := 2) (by decide +kernel) (by decide +kernel)) <|
  am_c (ok_callV (by decide +kernel) (by decide +kernel) kw_614 kw_615 kw_616 kw_613 (by decide +kernel) (by decide +kernel)) <|
  am_c (ok_aload_n (k := 0) (by decide +kernel) rfl) <|
  am_c (ok_get (by decide +kernel) (by decide +kernel) rfl (by decide +kernel) kw_476) <|
  am_c (ok_ifne (off := 8) (by decide +kernel) (by decide +kernel)) <|
  am_c (ok_aload_n (k := 0) (by decide +kernel) rfl) <|
  am_c (ok_iload_n (k := 2) (by decide +kernel) rfl) <|
  am_c (ok_callV (by decide +kernel) (by decide +kernel) kw_562 kw_563 kw_564 kw_561 (by decide +kernel) (by decide +kernel)) <|
  am_c (ok_ret (by decide +kernel) rfl) <|
  am_n
def k_t132 : List (Nat × List (Nat × am_A)) := [(35, k_c132_0), (78, k_c132_1), (100, k_c132_2)]
theorem k_o132 : ∀ c ∈ k_t132, ∀ q ∈ c.2, am_Ok k_nm D cA B0 sb H00 (k_Th B0 sb H00) prog_8_method_43_code "TokenMouthModel" "spelled" [] none q.1 q.2 := am_cc (P := fun pc a => am_Ok k_nm D cA B0 sb H00 (k_Th B0 sb H00) prog_8_method_43_code "TokenMouthModel" "spelled" [] none pc a) k_p132_0 <| am_cc (P := fun pc a => am_Ok k_nm D cA B0 sb H00 (k_Th B0 sb H00) prog_8_method_43_code "TokenMouthModel" "spelled" [] none pc a) k_p132_1 <| am_cc (P := fun pc a => am_Ok k_nm D cA B0 sb H00 (k_Th B0 sb H00) prog_8_method_43_code "TokenMouthModel" "spelled" [] none pc a) k_p132_2 <| am_cn0
-- 133: TokenMouthModel.expand(I)V
def k_c133_0 : List (Nat × am_A) := [(0, ac_iload 1 1), (1, ac_istore 2 2), (2, ac_aload 0 3), (3, ac_get 0 6 31 6), (6, ac_istore 3 7), (7, ac_aload 0 8), (8, ac_get 0 6 5 11), (11, ac_if1 (fun x => ¬ x = 0) 48 14), (14, ac_iload 2 15), (15, ac_push (.int (-1)) 16), (16, ac_if2 (fun x y => ¬ x = y) 27 19), (19, ac_aload 0 20), (20, ac_get 0 6 31 23), (23, ac_iload 3 24), (24, ac_if2 (fun x y => x ≤ y) 48 27), (27, ac_iload 2 28), (28, ac_push (.int (-1)) 29), (29, ac_if2 (fun x y => x = y) 40 32), (32, ac_aload 0 33), (33, ac_iload 2 34), (34, ac_callV 6 128 2 37 am_nohd), (37, ac_goto 44), (40, ac_aload 0 41), (41, ac_callV 6 131 1 44 am_nohd)]
theorem k_p133_0 : ∀ q ∈ k_c133_0, am_Ok k_nm D cA B0 sb H00 (k_Th B0 sb H00) prog_8_method_44_code "TokenMouthModel" "expand" [] none q.1 q.2 :=
  am_c (ok_iload_n (k := 1) (by decide +kernel) rfl) <|
  am_c (ok_istore_n (k := 2) (by decide +kernel) rfl) <|
  am_c (ok_aload_n (k := 0) (by decide +kernel) rfl) <|
  am_c (ok_get (by decide +kernel) (by decide +kernel) rfl (by decide +kernel) kw_483) <|
  am_c (ok_istore_n (k := 3) (by decide +kernel) rfl) <|
  am_c (ok_aload_n (k := 0) (by decide +kernel) rfl) <|
  am_c (ok_get (by decide +kernel) (by decide +kernel) rfl (by decide +kernel) kw_476) <|
  am_c (ok_ifne (off := 37) (by decide +kernel) (by decide +kernel)) <|
  am_c (ok_iload_n (k := 2) (by decide +kernel) rfl) <|
  am_c (ok_iconst (z := -1) (by decide +kernel) (by decide +kernel)) <|
  am_c (ok_icmpne (off := 11) (by decide +kernel) (by decide +kernel)) <|
  am_c (ok_aload_n (k := 0) (by decide +kernel) rfl) <|
  am_c (ok_get (by decide +kernel) (by decide +kernel) rfl (by decide +kernel) kw_483) <|
  am_c (ok_iload_n (k := 3) (by decide +kernel) rfl) <|
  am_c (ok_icmple (off := 24) (by decide +kernel) (by decide +kernel)) <|
  am_c (ok_iload_n (k := 2) (by decide +kernel) rfl) <|
  am_c (ok_iconst (z := -1) (by decide +kernel) (by decide +kernel)) <|
  am_c (ok_icmpeq (off := 11) (by decide +kernel) (by decide +kernel)) <|
  am_c (ok_aload_n (k := 0) (by decide +kernel) rfl) <|
  am_c (ok_iload_n (k := 2) (by decide +kernel) rfl) <|
  am_c (ok_callV (by decide +kernel) (by decide +kernel) kw_618 kw_619 kw_620 kw_617 (by decide +kernel) (by decide +kernel)) <|
  am_c (ok_goto (off := 7) (by decide +kernel) (by decide +kernel)) <|
  am_c (ok_aload_n (k := 0) (by decide +kernel) rfl) <|
  am_c (ok_callV (by decide +kernel) (by decide +kernel) kw_622 kw_623 kw_624 kw_621 (by decide +kernel) (by decide +kernel)) <|
  am_n
def k_c133_1 : List (Nat × am_A) := [(44, ac_istore 2 45), (45, ac_goto 7), (48, ac_ret)]
theorem k_p133_1 : ∀ q ∈ k_c133_1, am_Ok k_nm D cA B0 sb H00 (k_Th B0 sb H00) prog_8_method_44_code "TokenMouthModel" "expand" [] none q.1 q.2 :=
  am_c (ok_istore_n (k := 2) (by decide +kernel) rfl) <|
  am_c (ok_goto (off := -38) (by decide +kernel) (by decide +kernel)) <|
  am_c (ok_ret (by decide +kernel) rfl) <|
  am_n
def k_t133 : List (Nat × List (Nat × am_A)) := [(41, k_c133_0), (48, k_c133_1)]
theorem k_o133 : ∀ c ∈ k_t133, ∀ q ∈ c.2, am_Ok k_nm D cA B0 sb H00 (k_Th B0 sb H00) prog_8_method_44_code "TokenMouthModel" "expand" [] none q.1 q.2 := am_cc (P := fun pc a => am_Ok k_nm D cA B0 sb H00 (k_Th B0 sb H00) prog_8_method_44_code "TokenMouthModel" "expand" [] none pc a) k_p133_0 <| am_cc (P := fun pc a => am_Ok k_nm D cA B0 sb H00 (k_Th B0 sb H00) prog_8_method_44_code "TokenMouthModel" "expand" [] none pc a) k_p133_1 <| am_cn0
-- 134: TokenMouthModel.needExpanded()I
def k_c134_0 : List (Nat × am_A) := [(0, ac_aload 0 1), (1, ac_callV 6 105 1 4 am_nohd), (4, ac_istore 1 5), (5, ac_aload 0 6), (6, ac_get 0 6 5 9), (9, ac_if1 (fun x => ¬ x = 0) 44 12), (12, ac_aload 0 13), (13, ac_iload 1 14), (14, ac_callV 6 112 2 17 am_nohd), (17, ac_if1 (fun x => x = 0) 44 20), (20, ac_aload 0 21), (21, ac_iload 1 22), (22, ac_callV 6 133 2 25 am_nohd), (25, ac_aload 0 26), (26, ac_get 0 6 5 29), (29, ac_if1 (fun x => ¬ x = 0) 39 32), (32, ac_aload 0 33), (33, ac_callV 6 105 1 36 am_nohd), (36, ac_goto 40), (39, ac_push (.int (-1)) 40), (40, ac_istore 1 41), (41, ac_goto 5), (44, ac_aload 0 45), (45, ac_get 0 6 5 48)]
theorem k_p134_0 : ∀ q ∈ k_c134_0, am_Ok k_nm D cA B0 sb H00 (k_Th B0 sb H00) prog_8_method_45_code "TokenMouthModel" "needExpanded" [] (some .int) q.1 q.2 :=
  am_c (ok_aload_n (k := 0) (by decide +kernel) rfl) <|
  am_c (ok_callV (by decide +kernel) (by decide +kernel) kw_550 kw_551 kw_552 kw_549 (by decide +kernel) (by decide +kernel)) <|
  am_c (ok_istore_n (k := 1) (by decide +kernel) rfl) <|
  am_c (ok_aload_n (k := 0) (by decide +kernel) rfl) <|
  am_c (ok_get (by decide +kernel) (by decide +kernel) rfl (by decide +kernel) kw_476) <|
  am_c (ok_ifne (off := 35) (by decide +kernel) (by decide +kernel)) <|
  am_c (ok_aload_n (k := 0) (by decide +kernel) rfl) <|
  am_c (ok_iload_n (k := 1) (by decide +kernel) rfl) <|
  am_c (ok_callV (by decide +kernel) (by decide +kernel) kw_578 kw_579 kw_580 kw_577 (by decide +kernel) (by decide +kernel)) <|
  am_c (ok_ifeq (off := 27) (by decide +kernel) (by decide +kernel)) <|
  am_c (ok_aload_n (k := 0) (by decide +kernel) rfl) <|
  am_c (ok_iload_n (k := 1) (by decide +kernel) rfl) <|
  am_c (ok_callV (by decide +kernel) (by decide +kernel) kw_626 kw_627 kw_628 kw_625 (by decide +kernel) (by decide +kernel)) <|
  am_c (ok_aload_n (k := 0) (by decide +kernel) rfl) <|
  am_c (ok_get (by decide +kernel) (by decide +kernel) rfl (by decide +kernel) kw_476) <|
  am_c (ok_ifne (off := 10) (by decide +kernel) (by decide +kernel)) <|
  am_c (ok_aload_n (k := 0) (by decide +kernel) rfl) <|
  am_c (ok_callV (by decide +kernel) (by decide +kernel) kw_550 kw_551 kw_552 kw_549 (by decide +kernel) (by decide +kernel)) <|
  am_c (ok_goto (off := 4) (by decide +kernel) (by decide +kernel)) <|
  am_c (ok_iconst (z := -1) (by decide +kernel) (by decide +kernel)) <|
  am_c (ok_istore_n (k := 1) (by decide +kernel) rfl) <|
  am_c (ok_goto (off := -36) (by decide +kernel) (by decide +kernel)) <|
  am_c (ok_aload_n (k := 0) (by decide +kernel) rfl) <|
  am_c (ok_get (by decide +kernel) (by decide +kernel) rfl (by decide +kernel) kw_476) <|
  am_n
def k_c134_1 : List (Nat × am_A) := [(48, ac_if1 (fun x => ¬ x = 0) 55 51), (51, ac_iload 1 52), (52, ac_goto 56), (55, ac_push (.int (-1)) 56), (56, ac_iret)]
theorem k_p134_1 : ∀ q ∈ k_c134_1, am_Ok k_nm D cA B0 sb H00 (k_Th B0 sb H00) prog_8_method_45_code "TokenMouthModel" "needExpanded" [] (some .int) q.1 q.2 :=
  am_c (ok_ifne (off := 7) (by decide +kernel) (by decide +kernel)) <|
  am_c (ok_iload_n (k := 1) (by decide +kernel) rfl) <|
  am_c (ok_goto (off := 4) (by decide +kernel) (by decide +kernel)) <|
  am_c (ok_iconst (z := -1) (by decide +kernel) (by decide +kernel)) <|
  am_c (ok_iret (by decide +kernel) rfl) <|
  am_n
def k_t134 : List (Nat × List (Nat × am_A)) := [(45, k_c134_0), (56, k_c134_1)]
theorem k_o134 : ∀ c ∈ k_t134, ∀ q ∈ c.2, am_Ok k_nm D cA B0 sb H00 (k_Th B0 sb H00) prog_8_method_45_code "TokenMouthModel" "needExpanded" [] (some .int) q.1 q.2 := am_cc (P := fun pc a => am_Ok k_nm D cA B0 sb H00 (k_Th B0 sb H00) prog_8_method_45_code "TokenMouthModel" "needExpanded" [] (some .int) pc a) k_p134_0 <| am_cc (P := fun pc a => am_Ok k_nm D cA B0 sb H00 (k_Th B0 sb H00) prog_8_method_45_code "TokenMouthModel" "needExpanded" [] (some .int) pc a) k_p134_1 <| am_cn0
-- 135: TokenMouthModel.needName()I
def k_c135_0 : List (Nat × am_A) := [(0, ac_aload 0 1), (1, ac_callV 6 105 1 4 am_nohd), (4, ac_istore 1 5), (5, ac_iload 1 6), (6, ac_push (.int (-1)) 7), (7, ac_if2 (fun x y => ¬ x = y) 12 10), (10, ac_push (.int (-1)) 11), (11, ac_iret), (12, ac_iload 1 13), (13, ac_callS 107 1 16), (16, ac_if1 (fun x => x = 0) 30 19), (19, ac_iload 1 20), (20, ac_callS 109 1 23), (23, ac_push (.int 4096) 26), (26, ac_ii (fun x y => x - y) 27), (27, ac_goto 35), (30, ac_aload 0 31), (31, ac_push (.int 4) 32), (32, ac_callV 6 98 2 35 am_nohd), (35, ac_iret)]
theorem k_p135_0 : ∀ q ∈ k_c135_0, am_Ok k_nm D cA B0 sb H00 (k_Th B0 sb H00) prog_8_method_46_code "TokenMouthModel" "needName" [] (some .int) q.1 q.2 :=
  am_c (ok_aload_n (k := 0) (by decide +kernel) rfl) <|
  am_c (ok_callV (by decide +kernel) (by decide +kernel) kw_550 kw_551 kw_552 kw_549 (by decide +kernel) (by decide +kernel)) <|
  am_c (ok_istore_n (k := 1) (by decide +kernel) rfl) <|
  am_c (ok_iload_n (k := 1) (by decide +kernel) rfl) <|
  am_c (ok_iconst (z := -1) (by decide +kernel) (by decide +kernel)) <|
  am_c (ok_icmpne (off := 5) (by decide +kernel) (by decide +kernel)) <|
  am_c (ok_iconst (z := -1) (by decide +kernel) (by decide +kernel)) <|
  am_c (ok_iret (by decide +kernel) rfl) <|
  am_c (ok_iload_n (k := 1) (by decide +kernel) rfl) <|
  am_c (ok_callS (by decide +kernel) kw_522 kw_523 kw_488 kw_521 (by decide +kernel) (by decide +kernel)) <|
  am_c (ok_ifeq (off := 14) (by decide +kernel) (by decide +kernel)) <|
  am_c (ok_iload_n (k := 1) (by decide +kernel) rfl) <|
  am_c (ok_callS (by decide +kernel) kw_532 kw_533 kw_488 kw_531 (by decide +kernel) (by decide +kernel)) <|
  am_c (ok_sipush (z := 4096) (by decide +kernel) (by decide +kernel)) <|
  am_c (ok_isub (by decide +kernel)) <|
  am_c (ok_goto (off := 8) (by decide +kernel) (by decide +kernel)) <|
  am_c (ok_aload_n (k := 0) (by decide +kernel) rfl) <|
  am_c (ok_iconst (z := 4) (by decide +kernel) (by decide +kernel)) <|
  am_c (ok_callV (by decide +kernel) (by decide +kernel) kw_498 kw_499 kw_500 kw_497 (by decide +kernel) (by decide +kernel)) <|
  am_c (ok_iret (by decide +kernel) rfl) <|
  am_n
def k_t135 : List (Nat × List (Nat × am_A)) := [(35, k_c135_0)]
theorem k_o135 : ∀ c ∈ k_t135, ∀ q ∈ c.2, am_Ok k_nm D cA B0 sb H00 (k_Th B0 sb H00) prog_8_method_46_code "TokenMouthModel" "needName" [] (some .int) q.1 q.2 := am_cc (P := fun pc a => am_Ok k_nm D cA B0 sb H00 (k_Th B0 sb H00) prog_8_method_46_code "TokenMouthModel" "needName" [] (some .int) pc a) k_p135_0 <| am_cn0
-- 136: TokenMouthModel.readText()Z
def k_c136_0 : List (Nat × am_A) := [(0, ac_aload 0 1), (1, ac_get 0 6 23 4), (4, ac_istore 1 5), (5, ac_aload 0 6), (6, ac_get 2 6 24 9), (9, ac_iload 1 10), (10, ac_push (.int 0) 11), (11, ac_iast 12), (12, ac_aload 0 13), (13, ac_get 2 6 28 16), (16, ac_iload 1 17), (17, ac_push (.int 0) 18), (18, ac_iast 19), (19, ac_aload 0 20), (20, ac_callV 6 105 1 23 am_nohd), (23, ac_callS 109 1 26), (26, ac_istore 2 27), (27, ac_iload 2 28), (28, ac_push (.int (-1)) 29), (29, ac_if2 (fun x y => x = y) 40 32), (32, ac_iload 2 33), (33, ac_push (.int 1) 34), (34, ac_callS 110 2 37), (37, ac_if1 (fun x => x = 0) 51 40)]
theorem k_p136_0 : ∀ q ∈ k_c136_0, am_Ok k_nm D cA B0 sb H00 (k_Th B0 sb H00) prog_8_method_47_code "TokenMouthModel" "readText" [] (some .boolean) q.1 q.2 :=
  am_c (ok_aload_n (k := 0) (by decide +kernel) rfl) <|
  am_c (ok_get (by decide +kernel) (by decide +kernel) rfl (by decide +kernel) kw_481) <|
  am_c (ok_istore_n (k := 1) (by decide +kernel) rfl) <|
  am_c (ok_aload_n (k := 0) (by decide +kernel) rfl) <|
  am_c (ok_get (by decide +kernel) (by decide +kernel) rfl (by decide +kernel) kw_423) <|
  am_c (ok_iload_n (k := 1) (by decide +kernel) rfl) <|
  am_c (ok_iconst (z := 0) (by decide +kernel) (by decide +kernel)) <|
  am_c (ok_iast (by decide +kernel)) <|
  am_c (ok_aload_n (k := 0) (by decide +kernel) rfl) <|
  am_c (ok_get (by decide +kernel) (by decide +kernel) rfl (by decide +kernel) kw_427) <|
  am_c (ok_iload_n (k := 1) (by decide +kernel) rfl) <|
  am_c (ok_iconst (z := 0) (by decide +kernel) (by decide +kernel)) <|
  am_c (ok_iast (by decide +kernel)) <|
  am_c (ok_aload_n (k := 0) (by decide +kernel) rfl) <|
  am_c (ok_callV (by decide +kernel) (by decide +kernel) kw_550 kw_551 kw_552 kw_549 (by decide +kernel) (by decide +kernel)) <|
  am_c (ok_callS (by decide +kernel) kw_532 kw_533 kw_488 kw_531 (by decide +kernel) (by decide +kernel)) <|
  am_c (ok_istore_n (k := 2) (by decide +kernel) rfl) <|
  am_c (ok_iload_n (k := 2) (by decide +kernel) rfl) <|
  am_c (ok_iconst (z := -1) (by decide +kernel) (by decide +kernel)) <|
  am_c (ok_icmpeq (off := 11) (by decide +kernel) (by decide +kernel)) <|
  am_c (ok_iload_n (k := 2) (by decide +kernel) rfl) <|
  am_c (ok_iconst (z := 1) (by decide +kernel) (by decide +kernel)) <|
  am_c (ok_callS (by decide +kernel) kw_535 kw_536 kw_488 kw_534 (by decide +kernel) (by decide +kernel)) <|
  am_c (ok_ifeq (off := 14) (by decide +kernel) (by decide +kernel)) <|
  am_n
def k_c136_1 : List (Nat × am_A) := [(40, ac_iload 2 41), (41, ac_push (.int (-1)) 42), (42, ac_if2 (fun x y => x = y) 49 45), (45, ac_push (.int 1) 46), (46, ac_goto 50), (49, ac_push (.int 0) 50), (50, ac_zret), (51, ac_iload 2 52), (52, ac_push (.int 6) 54), (54, ac_callS 110 2 57), (57, ac_if1 (fun x => x = 0) 145 60), (60, ac_aload 0 61), (61, ac_callV 6 105 1 64 am_nohd), (64, ac_istore 3 65), (65, ac_iload 3 66), (66, ac_push (.int (-1)) 67), (67, ac_if2 (fun x y => ¬ x = y) 72 70), (70, ac_push (.int 0) 71), (71, ac_zret), (72, ac_iload 3 73), (73, ac_push (.int 4096) 76), (76, ac_if2 (fun x y => y ≤ x) 106 79), (79, ac_aload 0 80), (80, ac_get 2 6 28 83)]
theorem k_p136_1 : ∀ q ∈ k_c136_1, am_Ok k_nm D cA B0 sb H00 (k_Th B0 sb H00) prog_8_method_47_code "TokenMouthModel" "readText" [] (some .boolean) q.1 q.2 :=
  am_c (ok_iload_n (k := 2) (by decide +kernel) rfl) <|
  am_c (ok_iconst (z := -1) (by decide +kernel) (by decide +kernel)) <|
  am_c (ok_icmpeq (off := 7) (by decide +kernel) (by decide +kernel)) <|
  am_c (ok_iconst (z := 1) (by decide +kernel) (by decide +kernel)) <|
  am_c (ok_goto (off := 4) (by decide +kernel) (by decide +kernel)) <|
  am_c (ok_iconst (z := 0) (by decide +kernel) (by decide +kernel)) <|
  am_c (ok_zret (by decide +kernel) rfl) <|
  am_c (ok_iload_n (k := 2) (by decide +kernel) rfl) <|
  am_c (ok_bipush (z := 6) (by decide +kernel) (by decide +kernel)) <|
  am_c (ok_callS (by decide +kernel) kw_535 kw_536 kw_488 kw_534 (by decide +kernel) (by decide +kernel)) <|
  am_c (ok_ifeq (off := 88) (by decide +kernel) (by decide +kernel)) <|
  am_c (ok_aload_n (k := 0) (by decide +kernel) rfl) <|
  am_c (ok_callV (by decide +kernel) (by decide +kernel) kw_550 kw_551 kw_552 kw_549 (by decide +kernel) (by decide +kernel)) <|
  am_c (ok_istore_n (k := 3) (by decide +kernel) rfl) <|
  am_c (ok_iload_n (k := 3) (by decide +kernel) rfl) <|
  am_c (ok_iconst (z := -1) (by decide +kernel) (by decide +kernel)) <|
  am_c (ok_icmpne (off := 5) (by decide +kernel) (by decide +kernel)) <|
  am_c (ok_iconst (z := 0) (by decide +kernel) (by decide +kernel)) <|
  am_c (ok_zret (by decide +kernel) rfl) <|
  am_c (ok_iload_n (k := 3) (by decide +kernel) rfl) <|
  am_c (ok_sipush (z := 4096) (by decide +kernel) (by decide +kernel)) <|
  am_c (ok_icmpge (off := 30) (by decide +kernel) (by decide +kernel)) <|
  am_c (ok_aload_n (k := 0) (by decide +kernel) rfl) <|
  am_c (ok_get (by decide +kernel) (by decide +kernel) rfl (by decide +kernel) kw_427) <|
  am_n
def k_c136_2 : List (Nat × am_A) := [(83, ac_iload 1 84), (84, ac_iald 0 85), (85, ac_push (.int 4) 86), (86, ac_if2 (fun x y => x = y) 106 89), (89, ac_iload 3 90), (90, ac_push (.int 255) 93), (93, ac_ii (fun x y => x &&& y) 94), (94, ac_push (.int 49) 96), (96, ac_aload 0 97), (97, ac_get 2 6 28 100), (100, ac_iload 1 101), (101, ac_iald 0 102), (102, ac_ii (fun x y => x + y) 103), (103, ac_if2 (fun x y => x = y) 121 106), (106, ac_aload 0 107), (107, ac_push (.int 4) 108), (108, ac_callV 6 98 2 111 am_nohd), (111, ac_push (.int (-1)) 112), (112, ac_if2 (fun x y => x = y) 119 115), (115, ac_push (.int 1) 116), (116, ac_goto 120), (119, ac_push (.int 0) 120), (120, ac_zret), (121, ac_aload 0 122)]
theorem k_p136_2 : ∀ q ∈ k_c136_2, am_Ok k_nm D cA B0 sb H00 (k_Th B0 sb H00) prog_8_method_47_code "TokenMouthModel" "readText" [] (some .boolean) q.1 q.2 :=
  am_c (ok_iload_n (k := 1) (by decide +kernel) rfl) <|
  am_c (ok_iald (by decide +kernel)) <|
  am_c (ok_iconst (z := 4) (by decide +kernel) (by decide +kernel)) <|
  am_c (ok_icmpeq (off := 20) (by decide +kernel) (by decide +kernel)) <|
  am_c (ok_iload_n (k := 3) (by decide +kernel) rfl) <|
  am_c (ok_sipush (z := 255) (by decide +kernel) (by decide +kernel)) <|
  am_c (ok_iand (by decide +kernel)) <|
  am_c (ok_bipush (z := 49) (by decide +kernel) (by decide +kernel)) <|
  am_c (ok_aload_n (k := 0) (by decide +kernel) rfl) <|
  am_c (ok_get (by decide +kernel) (by decide +kernel) rfl (by decide +kernel) kw_427) <|
  am_c (ok_iload_n (k := 1) (by decide +kernel) rfl) <|
  am_c (ok_iald (by decide +kernel)) <|
  am_c (ok_iadd (by decide +kernel)) <|
  am_c (ok_icmpeq (off := 18) (by decide +kernel) (by decide +kernel)) <|
  am_c (ok_aload_n (k := 0) (by decide +kernel) rfl) <|
  am_c (ok_iconst (z := 4) (by decide +kernel) (by decide +kernel)) <|
  am_c (ok_callV (by decide +kernel) (by decide +kernel) kw_498 kw_499 kw_500 kw_497 (by decide +kernel) (by decide +kernel)) <|
  am_c (ok_iconst (z := -1) (by decide +kernel) (by decide +kernel)) <|
  am_c (ok_icmpeq (off := 7) (by decide +kernel) (by decide +kernel)) <|
  am_c (ok_iconst (z := 1) (by decide +kernel) (by decide +kernel)) <|
  am_c (ok_goto (off := 4) (by decide +kernel) (by decide +kernel)) <|
  am_c (ok_iconst (z := 0) (by decide +kernel) (by decide +kernel)) <|
  am_c (ok_zret (by decide +kernel) rfl) <|
  am_c (ok_aload_n (k := 0) (by decide +kernel) rfl) <|
  am_n
def k_c136_3 : List (Nat × am_A) := [(122, ac_get 2 6 28 125), (125, ac_iload 1 126), (126, ac_dup2 127), (127, ac_iald 0 128), (128, ac_push (.int 1) 129), (129, ac_ii (fun x y => x + y) 130), (130, ac_iast 131), (131, ac_push (.int 16384) 134), (134, ac_aload 0 135), (135, ac_get 2 6 28 138), (138, ac_iload 1 139), (139, ac_iald 0 140), (140, ac_ii (fun x y => x + y) 141), (141, ac_istore 2 142), (142, ac_goto 168), (145, ac_iload 2 146), (146, ac_push (.int 2) 147), (147, ac_callS 110 2 150), (150, ac_if1 (fun x => x = 0) 168 153), (153, ac_aload 0 154), (154, ac_push (.int 1) 155), (155, ac_callV 6 98 2 158 am_nohd), (158, ac_push (.int (-1)) 159), (159, ac_if2 (fun x y => x = y) 166 162)]
theorem k_p136_3 : ∀ q ∈ k_c136_3, am_Ok k_nm D cA B0 sb H00 (k_Th B0 sb H00) prog_8_method_47_code "TokenMouthModel" "readText" [] (some .boolean) q.1 q.2 :=
  am_c (ok_get (by decide +kernel) (by decide +kernel) rfl (by decide +kernel) kw_427) <|
  am_c (ok_iload_n (k := 1) (by decide +kernel) rfl) <|
  am_c (ok_dup2 (by decide +kernel)) <|
  am_c (ok_iald (by decide +kernel)) <|
  am_c (ok_iconst (z := 1) (by decide +kernel) (by decide +kernel)) <|
  am_c (ok_iadd (by decide +kernel)) <|
  am_c (ok_iast (by decide +kernel)) <|
  am_c (ok_sipush (z := 16384) (by decide +kernel) (by decide +kernel)) <|
  am_c (ok_aload_n (k := 0) (by decide +kernel) rfl) <|
  am_c (ok_get (by decide +kernel) (by decide +kernel) rfl (by decide +kernel) kw_427) <|
  am_c (ok_iload_n (k := 1) (by decide +kernel) rfl) <|
  am_c (ok_iald (by decide +kernel)) <|
  am_c (ok_iadd (by decide +kernel)) <|
  am_c (ok_istore_n (k := 2) (by decide +kernel) rfl) <|
  am_c (ok_goto (off := 26) (by decide +kernel) (by decide +kernel)) <|
  am_c (ok_iload_n (k := 2) (by decide +kernel) rfl) <|
  am_c (ok_iconst (z := 2) (by decide +kernel) (by decide +kernel)) <|
  am_c (ok_callS (by decide +kernel) kw_535 kw_536 kw_488 kw_534 (by decide +kernel) (by decide +kernel)) <|
  am_c (ok_ifeq (off := 18) (by decide +kernel) (by decide +kernel)) <|
  am_c (ok_aload_n (k := 0) (by decide +kernel) rfl) <|
  am_c (ok_iconst (z := 1) (by decide +kernel) (by decide +kernel)) <|
  am_c (ok_callV (by decide +kernel) (by decide +kernel) kw_498 kw_499 kw_500 kw_497 (by decide +kernel) (by decide +kernel)) <|
  am_c (ok_iconst (z := -1) (by decide +kernel) (by decide +kernel)) <|
  am_c (ok_icmpeq (off := 7) (by decide +kernel) (by decide +kernel)) <|
  am_n
def k_c136_4 : List (Nat × am_A) := [(162, ac_push (.int 1) 163), (163, ac_goto 167), (166, ac_push (.int 0) 167), (167, ac_zret), (168, ac_aload 0 169), (169, ac_get 2 6 24 172), (172, ac_iload 1 173), (173, ac_iald 0 174), (174, ac_push (.int 12) 176), (176, ac_if2 (fun x y => ¬ x = y) 194 179), (179, ac_aload 0 180), (180, ac_push (.int 5) 181), (181, ac_callV 6 98 2 184 am_nohd), (184, ac_push (.int (-1)) 185), (185, ac_if2 (fun x y => x = y) 192 188), (188, ac_push (.int 1) 189), (189, ac_goto 193), (192, ac_push (.int 0) 193), (193, ac_zret), (194, ac_aload 0 195), (195, ac_get 2 6 25 198), (198, ac_push (.int 13) 200), (200, ac_iload 1 201), (201, ac_ii (fun x y => x * y) 202)]
theorem k_p136_4 : ∀ q ∈ k_c136_4, am_Ok k_nm D cA B0 sb H00 (k_Th B0 sb H00) prog_8_method_47_code "TokenMouthModel" "readText" [] (some .boolean) q.1 q.2 :=
  am_c (ok_iconst (z := 1) (by decide +kernel) (by decide +kernel)) <|
  am_c (ok_goto (off := 4) (by decide +kernel) (by decide +kernel)) <|
  am_c (ok_iconst (z := 0) (by decide +kernel) (by decide +kernel)) <|
  am_c (ok_zret (by decide +kernel) rfl) <|
  am_c (ok_aload_n (k := 0) (by decide +kernel) rfl) <|
  am_c (ok_get (by decide +kernel) (by decide +kernel) rfl (by decide +kernel) kw_423) <|
  am_c (ok_iload_n (k := 1) (by decide +kernel) rfl) <|
  am_c (ok_iald (by decide +kernel)) <|
  am_c (ok_bipush (z := 12) (by decide +kernel) (by decide +kernel)) <|
  am_c (ok_icmpne (off := 18) (by decide +kernel) (by decide +kernel)) <|
  am_c (ok_aload_n (k := 0) (by decide +kernel) rfl) <|
  am_c (ok_iconst (z := 5) (by decide +kernel) (by decide +kernel)) <|
  am_c (ok_callV (by decide +kernel) (by decide +kernel) kw_498 kw_499 kw_500 kw_497 (by decide +kernel) (by decide +kernel)) <|
  am_c (ok_iconst (z := -1) (by decide +kernel) (by decide +kernel)) <|
  am_c (ok_icmpeq (off := 7) (by decide +kernel) (by decide +kernel)) <|
  am_c (ok_iconst (z := 1) (by decide +kernel) (by decide +kernel)) <|
  am_c (ok_goto (off := 4) (by decide +kernel) (by decide +kernel)) <|
  am_c (ok_iconst (z := 0) (by decide +kernel) (by decide +kernel)) <|
  am_c (ok_zret (by decide +kernel) rfl) <|
  am_c (ok_aload_n (k := 0) (by decide +kernel) rfl) <|
  am_c (ok_get (by decide +kernel) (by decide +kernel) rfl (by decide +kernel) kw_424) <|
  am_c (ok_bipush (z := 13) (by decide +kernel) (by decide +kernel)) <|
  am_c (ok_iload_n (k := 1) (by decide +kernel) rfl) <|
  am_c (ok_imul (by decide +kernel)) <|
  am_n
def k_c136_5 : List (Nat × am_A) := [(202, ac_aload 0 203), (203, ac_get 2 6 24 206), (206, ac_iload 1 207), (207, ac_iald 0 208), (208, ac_ii (fun x y => x + y) 209), (209, ac_iload 2 210), (210, ac_iast 211), (211, ac_aload 0 212), (212, ac_get 2 6 24 215), (215, ac_iload 1 216), (216, ac_dup2 217), (217, ac_iald 0 218), (218, ac_push (.int 1) 219), (219, ac_ii (fun x y => x + y) 220), (220, ac_iast 221), (221, ac_goto 19)]
theorem k_p136_5 : ∀ q ∈ k_c136_5, am_Ok k_nm D cA B0 sb H00 (k_Th B0 sb H00) prog_8_method_47_code "TokenMouthModel" "readText" [] (some .boolean) q.1 q.2 :=
  am_c (ok_aload_n (k := 0) (by decide +kernel) rfl) <|
  am_c (ok_get (by decide +kernel) (by decide +kernel) rfl (by decide +kernel) kw_423) <|
  am_c (ok_iload_n (k := 1) (by decide +kernel) rfl) <|
  am_c (ok_iald (by decide +kernel)) <|
  am_c (ok_iadd (by decide +kernel)) <|
  am_c (ok_iload_n (k := 2) (by decide +kernel) rfl) <|
  am_c (ok_iast (by decide +kernel)) <|
  am_c (ok_aload_n (k := 0) (by decide +kernel) rfl) <|
  am_c (ok_get (by decide +kernel) (by decide +kernel) rfl (by decide +kernel) kw_423) <|
  am_c (ok_iload_n (k := 1) (by decide +kernel) rfl) <|
  am_c (ok_dup2 (by decide +kernel)) <|
  am_c (ok_iald (by decide +kernel)) <|
  am_c (ok_iconst (z := 1) (by decide +kernel) (by decide +kernel)) <|
  am_c (ok_iadd (by decide +kernel)) <|
  am_c (ok_iast (by decide +kernel)) <|
  am_c (ok_goto (off := -202) (by decide +kernel) (by decide +kernel)) <|
  am_n
def k_t136 : List (Nat × List (Nat × am_A)) := [(37, k_c136_0), (80, k_c136_1), (121, k_c136_2), (159, k_c136_3), (201, k_c136_4), (221, k_c136_5)]
theorem k_o136 : ∀ c ∈ k_t136, ∀ q ∈ c.2, am_Ok k_nm D cA B0 sb H00 (k_Th B0 sb H00) prog_8_method_47_code "TokenMouthModel" "readText" [] (some .boolean) q.1 q.2 := am_cc (P := fun pc a => am_Ok k_nm D cA B0 sb H00 (k_Th B0 sb H00) prog_8_method_47_code "TokenMouthModel" "readText" [] (some .boolean) pc a) k_p136_0 <| am_cc (P := fun pc a => am_Ok k_nm D cA B0 sb H00 (k_Th B0 sb H00) prog_8_method_47_code "TokenMouthModel" "readText" [] (some .boolean) pc a) k_p136_1 <| am_cc (P := fun pc a => am_Ok k_nm D cA B0 sb H00 (k_Th B0 sb H00) prog_8_method_47_code "TokenMouthModel" "readText" [] (some .boolean) pc a) k_p136_2 <| am_cc (P := fun pc a => am_Ok k_nm D cA B0 sb H00 (k_Th B0 sb H00) prog_8_method_47_code "TokenMouthModel" "readText" [] (some .boolean) pc a) k_p136_3 <| am_cc (P := fun pc a => am_Ok k_nm D cA B0 sb H00 (k_Th B0 sb H00) prog_8_method_47_code "TokenMouthModel" "readText" [] (some .boolean) pc a) k_p136_4 <| am_cc (P := fun pc a => am_Ok k_nm D cA B0 sb H00 (k_Th B0 sb H00) prog_8_method_47_code "TokenMouthModel" "readText" [] (some .boolean) pc a) k_p136_5 <| am_cn0
-- 137: TokenMouthModel.readBody(Z)Z
def k_c137_0 : List (Nat × am_A) := [(0, ac_aload 0 1), (1, ac_get 0 6 23 4), (4, ac_istore 2 5), (5, ac_aload 0 6), (6, ac_get 2 6 26 9), (9, ac_iload 2 10), (10, ac_push (.int 0) 11), (11, ac_iast 12), (12, ac_push (.int 0) 13), (13, ac_istore 3 14), (14, ac_iload 1 15), (15, ac_if1 (fun x => x = 0) 25 18), (18, ac_aload 0 19), (19, ac_callV 6 134 1 22 am_nohd), (22, ac_goto 29), (25, ac_aload 0 26), (26, ac_callV 6 105 1 29 am_nohd), (29, ac_callS 109 1 32), (32, ac_istore 4 34), (34, ac_iload 4 36), (36, ac_push (.int (-1)) 37), (37, ac_if2 (fun x y => x = y) 53 40), (40, ac_iload 4 42), (42, ac_push (.int 2) 43)]
theorem k_p137_0 : ∀ q ∈ k_c137_0, am_Ok k_nm D cA B0 sb H00 (k_Th B0 sb H00) prog_8_method_48_code "TokenMouthModel" "readBody" [] (some .boolean) q.1 q.2 :=
  am_c (ok_aload_n (k := 0) (by decide +kernel) rfl) <|
  am_c (ok_get (by decide +kernel) (by decide +kernel) rfl (by decide +kernel) kw_481) <|
  am_c (ok_istore_n (k := 2) (by decide +kernel) rfl) <|
  am_c (ok_aload_n (k := 0) (by decide +kernel) rfl) <|
  am_c (ok_get (by decide +kernel) (by decide +kernel) rfl (by decide +kernel) kw_425) <|
  am_c (ok_iload_n (k := 2) (by decide +kernel) rfl) <|
  am_c (ok_iconst (z := 0) (by decide +kernel) (by decide +kernel)) <|
  am_c (ok_iast (by decide +kernel)) <|
  am_c (ok_iconst (z := 0) (by decide +kernel) (by decide +kernel)) <|
  am_c (ok_istore_n (k := 3) (by decide +kernel) rfl) <|
  am_c (ok_iload_n (k := 1) (by decide +kernel) rfl) <|
  am_c (ok_ifeq (off := 10) (by decide +kernel) (by decide +kernel)) <|
  am_c (ok_aload_n (k := 0) (by decide +kernel) rfl) <|
  am_c (ok_callV (by decide +kernel) (by decide +kernel) kw_630 kw_631 kw_632 kw_629 (by decide +kernel) (by decide +kernel)) <|
  am_c (ok_goto (off := 7) (by decide +kernel) (by decide +kernel)) <|
  am_c (ok_aload_n (k := 0) (by decide +kernel) rfl) <|
  am_c (ok_callV (by decide +kernel) (by decide +kernel) kw_550 kw_551 kw_552 kw_549 (by decide +kernel) (by decide +kernel)) <|
  am_c (ok_callS (by decide +kernel) kw_532 kw_533 kw_488 kw_531 (by decide +kernel) (by decide +kernel)) <|
  am_c (ok_istore (by decide +kernel)) <|
  am_c (ok_iload (by decide +kernel)) <|
  am_c (ok_iconst (z := -1) (by decide +kernel) (by decide +kernel)) <|
  am_c (ok_icmpeq (off := 16) (by decide +kernel) (by decide +kernel)) <|
  am_c (ok_iload (by decide +kernel)) <|
  am_c (ok_iconst (z := 2) (by decide +kernel) (by decide +kernel)) <|
  am_n
def k_c137_1 : List (Nat × am_A) := [(43, ac_callS 110 2 46), (46, ac_if1 (fun x => x = 0) 65 49), (49, ac_iload 3 50), (50, ac_if1 (fun x => ¬ x = 0) 65 53), (53, ac_iload 4 55), (55, ac_push (.int (-1)) 56), (56, ac_if2 (fun x y => x = y) 63 59), (59, ac_push (.int 1) 60), (60, ac_goto 64), (63, ac_push (.int 0) 64), (64, ac_zret), (65, ac_iload 4 67), (67, ac_push (.int 6) 69), (69, ac_callS 110 2 72), (72, ac_if1 (fun x => x = 0) 194 75), (75, ac_iload 1 76), (76, ac_if1 (fun x => x = 0) 86 79), (79, ac_aload 0 80), (80, ac_callV 6 134 1 83 am_nohd), (83, ac_goto 90), (86, ac_aload 0 87), (87, ac_callV 6 105 1 90 am_nohd), (90, ac_callS 109 1 93), (93, ac_istore 5 95)]
theorem k_p137_1 : ∀ q ∈ k_c137_1, am_Ok k_nm D cA B0 sb H00 (k_Th B0 sb H00) prog_8_method_48_code "TokenMouthModel" "readBody" [] (some .boolean) q.1 q.2 :=
  am_c (ok_callS (by decide +kernel) kw_535 kw_536 kw_488 kw_534 (by decide +kernel) (by decide +kernel)) <|
  am_c (ok_ifeq (off := 19) (by decide +kernel) (by decide +kernel)) <|
  am_c (ok_iload_n (k := 3) (by decide +kernel) rfl) <|
  am_c (ok_ifne (off := 15) (by decide +kernel) (by decide +kernel)) <|
  am_c (ok_iload (by decide +kernel)) <|
  am_c (ok_iconst (z := -1) (by decide +kernel) (by decide +kernel)) <|
  am_c (ok_icmpeq (off := 7) (by decide +kernel) (by decide +kernel)) <|
  am_c (ok_iconst (z := 1) (by decide +kernel) (by decide +kernel)) <|
  am_c (ok_goto (off := 4) (by decide +kernel) (by decide +kernel)) <|
  am_c (ok_iconst (z := 0) (by decide +kernel) (by decide +kernel)) <|
  am_c (ok_zret (by decide +kernel) rfl) <|
  am_c (ok_iload (by decide +kernel)) <|
  am_c (ok_bipush (z := 6) (by decide +kernel) (by decide +kernel)) <|
  am_c (ok_callS (by decide +kernel) kw_535 kw_536 kw_488 kw_534 (by decide +kernel) (by decide +kernel)) <|
  am_c (ok_ifeq (off := 122) (by decide +kernel) (by decide +kernel)) <|
  am_c (ok_iload_n (k := 1) (by decide +kernel) rfl) <|
  am_c (ok_ifeq (off := 10) (by decide +kernel) (by decide +kernel)) <|
  am_c (ok_aload_n (k := 0) (by decide +kernel) rfl) <|
  am_c (ok_callV (by decide +kernel) (by decide +kernel) kw_630 kw_631 kw_632 kw_629 (by decide +kernel) (by decide +kernel)) <|
  am_c (ok_goto (off := 7) (by decide +kernel) (by decide +kernel)) <|
  am_c (ok_aload_n (k := 0) (by decide +kernel) rfl) <|
  am_c (ok_callV (by decide +kernel) (by decide +kernel) kw_550 kw_551 kw_552 kw_549 (by decide +kernel) (by decide +kernel)) <|
  am_c (ok_callS (by decide +kernel) kw_532 kw_533 kw_488 kw_531 (by decide +kernel) (by decide +kernel)) <|
  am_c (ok_istore (by decide +kernel)) <|
  am_n
def k_c137_2 : List (Nat × am_A) := [(95, ac_iload 5 97), (97, ac_push (.int (-1)) 98), (98, ac_if2 (fun x y => ¬ x = y) 103 101), (101, ac_push (.int 0) 102), (102, ac_zret), (103, ac_iload 5 105), (105, ac_push (.int 4096) 108), (108, ac_if2 (fun x y => y ≤ x) 123 111), (111, ac_iload 5 113), (113, ac_push (.int 255) 116), (116, ac_ii (fun x y => x &&& y) 117), (117, ac_push (.int 48) 119), (119, ac_ii (fun x y => x - y) 120), (120, ac_goto 124), (123, ac_push (.int 0) 124), (124, ac_istore 6 126), (126, ac_iload 5 128), (128, ac_push (.int 6) 130), (130, ac_callS 110 2 133), (133, ac_if1 (fun x => ¬ x = 0) 168 136), (136, ac_iload 6 138), (138, ac_push (.int 1) 139), (139, ac_if2 (fun x y => x < y) 153 142), (142, ac_iload 6 144)]
theorem k_p137_2 : ∀ q ∈ k_c137_2, am_Ok k_nm D cA B0 sb H00 (k_Th B0 sb H00) prog_8_method_48_code "TokenMouthModel" "readBody" [] (some .boolean) q.1 q.2 :=
  am_c (ok_iload (by decide +kernel)) <|
  am_c (ok_iconst (z := -1) (by decide +kernel) (by decide +kernel)) <|
  am_c (ok_icmpne (off := 5) (by decide +kernel) (by decide +kernel)) <|
  am_c (ok_iconst (z := 0) (by decide +kernel) (by decide +kernel)) <|
  am_c (ok_zret (by decide +kernel) rfl) <|
  am_c (ok_iload (by decide +kernel)) <|
  am_c (ok_sipush (z := 4096) (by decide +kernel) (by decide +kernel)) <|
  am_c (ok_icmpge (off := 15) (by decide +kernel) (by decide +kernel)) <|
  am_c (ok_iload (by decide +kernel)) <|
  am_c (ok_sipush (z := 255) (by decide +kernel) (by decide +kernel)) <|
  am_c (ok_iand (by decide +kernel)) <|
  am_c (ok_bipush (z := 48) (by decide +kernel) (by decide +kernel)) <|
  am_c (ok_isub (by decide +kernel)) <|
  am_c (ok_goto (off := 4) (by decide +kernel) (by decide +kernel)) <|
  am_c (ok_iconst (z := 0) (by decide +kernel) (by decide +kernel)) <|
  am_c (ok_istore (by decide +kernel)) <|
  am_c (ok_iload (by decide +kernel)) <|
  am_c (ok_bipush (z := 6) (by decide +kernel) (by decide +kernel)) <|
  am_c (ok_callS (by decide +kernel) kw_535 kw_536 kw_488 kw_534 (by decide +kernel) (by decide +kernel)) <|
  am_c (ok_ifne (off := 35) (by decide +kernel) (by decide +kernel)) <|
  am_c (ok_iload (by decide +kernel)) <|
  am_c (ok_iconst (z := 1) (by decide +kernel) (by decide +kernel)) <|
  am_c (ok_icmplt (off := 14) (by decide +kernel) (by decide +kernel)) <|
  am_c (ok_iload (by decide +kernel)) <|
  am_n
def k_c137_3 : List (Nat × am_A) := [(144, ac_aload 0 145), (145, ac_get 2 6 28 148), (148, ac_iload 2 149), (149, ac_iald 0 150), (150, ac_if2 (fun x y => x ≤ y) 168 153), (153, ac_aload 0 154), (154, ac_push (.int 4) 155), (155, ac_callV 6 98 2 158 am_nohd), (158, ac_push (.int (-1)) 159), (159, ac_if2 (fun x y => x = y) 166 162), (162, ac_push (.int 1) 163), (163, ac_goto 167), (166, ac_push (.int 0) 167), (167, ac_zret), (168, ac_iload 5 170), (170, ac_push (.int 6) 172), (172, ac_callS 110 2 175), (175, ac_if1 (fun x => x = 0) 183 178), (178, ac_iload 5 180), (180, ac_goto 189), (183, ac_push (.int 16384) 186), (186, ac_iload 6 188), (188, ac_ii (fun x y => x + y) 189), (189, ac_istore 4 191)]
theorem k_p137_3 : ∀ q ∈ k_c137_3, am_Ok k_nm D cA B0 sb H00 (k_Th B0 sb H00) prog_8_method_48_code "TokenMouthModel" "readBody" [] (some .boolean) q.1 q.2 :=
  am_c (ok_aload_n (k := 0) (by decide +kernel) rfl) <|
  am_c (ok_get (by decide +kernel) (by decide +kernel) rfl (by decide +kernel) kw_427) <|
  am_c (ok_iload_n (k := 2) (by decide +kernel) rfl) <|
  am_c (ok_iald (by decide +kernel)) <|
  am_c (ok_icmple (off := 18) (by decide +kernel) (by decide +kernel)) <|
  am_c (ok_aload_n (k := 0) (by decide +kernel) rfl) <|
  am_c (ok_iconst (z := 4) (by decide +kernel) (by decide +kernel)) <|
  am_c (ok_callV (by decide +kernel) (by decide +kernel) kw_498 kw_499 kw_500 kw_497 (by decide +kernel) (by decide +kernel)) <|
  am_c (ok_iconst (z := -1) (by decide +kernel) (by decide +kernel)) <|
  am_c (ok_icmpeq (off := 7) (by decide +kernel) (by decide +kernel)) <|
  am_c (ok_iconst (z := 1) (by decide +kernel) (by decide +kernel)) <|
  am_c (ok_goto (off := 4) (by decide +kernel) (by decide +kernel)) <|
  am_c (ok_iconst (z := 0) (by decide +kernel) (by decide +kernel)) <|
  am_c (ok_zret (by decide +kernel) rfl) <|
  am_c (ok_iload (by decide +kernel)) <|
  am_c (ok_bipush (z := 6) (by decide +kernel) (by decide +kernel)) <|
  am_c (ok_callS (by decide +kernel) kw_535 kw_536 kw_488 kw_534 (by decide +kernel) (by decide +kernel)) <|
  am_c (ok_ifeq (off := 8) (by decide +kernel) (by decide +kernel)) <|
  am_c (ok_iload (by decide +kernel)) <|
  am_c (ok_goto (off := 9) (by decide +kernel) (by decide +kernel)) <|
  am_c (ok_sipush (z := 16384) (by decide +kernel) (by decide +kernel)) <|
  am_c (ok_iload (by decide +kernel)) <|
  am_c (ok_iadd (by decide +kernel)) <|
  am_c (ok_istore (by decide +kernel)) <|
  am_n
def k_c137_4 : List (Nat × am_A) := [(191, ac_goto 224), (194, ac_iload 3 195), (195, ac_iload 4 197), (197, ac_push (.int 1) 198), (198, ac_callS 110 2 201), (201, ac_if1 (fun x => x = 0) 208 204), (204, ac_push (.int 1) 205), (205, ac_goto 222), (208, ac_iload 4 210), (210, ac_push (.int 2) 211), (211, ac_callS 110 2 214), (214, ac_if1 (fun x => x = 0) 221 217), (217, ac_push (.int (-1)) 218), (218, ac_goto 222), (221, ac_push (.int 0) 222), (222, ac_ii (fun x y => x + y) 223), (223, ac_istore 3 224), (224, ac_aload 0 225), (225, ac_get 2 6 26 228), (228, ac_iload 2 229), (229, ac_iald 0 230), (230, ac_push (.int 40) 232), (232, ac_if2 (fun x y => ¬ x = y) 250 235), (235, ac_aload 0 236)]
theorem k_p137_4 : ∀ q ∈ k_c137_4, am_Ok k_nm D cA B0 sb H00 (k_Th B0 sb H00) prog_8_method_48_code "TokenMouthModel" "readBody" [] (some .boolean) q.1 q.2 :=
  am_c (ok_goto (off := 33) (by decide +kernel) (by decide +kernel)) <|
  am_c (ok_iload_n (k := 3) (by decide +kernel) rfl) <|
  am_c (ok_iload (by decide +kernel)) <|
  am_c (ok_iconst (z := 1) (by decide +kernel) (by decide +kernel)) <|
  am_c (ok_callS (by decide +kernel) kw_535 kw_536 kw_488 kw_534 (by decide +kernel) (by decide +kernel)) <|
  am_c (ok_ifeq (off := 7) (by decide +kernel) (by decide +kernel)) <|
  am_c (ok_iconst (z := 1) (by decide +kernel) (by decide +kernel)) <|
  am_c (ok_goto (off := 17) (by decide +kernel) (by decide +kernel)) <|
  am_c (ok_iload (by decide +kernel)) <|
  am_c (ok_iconst (z := 2) (by decide +kernel) (by decide +kernel)) <|
  am_c (ok_callS (by decide +kernel) kw_535 kw_536 kw_488 kw_534 (by decide +kernel) (by decide +kernel)) <|
  am_c (ok_ifeq (off := 7) (by decide +kernel) (by decide +kernel)) <|
  am_c (ok_iconst (z := -1) (by decide +kernel) (by decide +kernel)) <|
  am_c (ok_goto (off := 4) (by decide +kernel) (by decide +kernel)) <|
  am_c (ok_iconst (z := 0) (by decide +kernel) (by decide +kernel)) <|
  am_c (ok_iadd (by decide +kernel)) <|
  am_c (ok_istore_n (k := 3) (by decide +kernel) rfl) <|
  am_c (ok_aload_n (k := 0) (by decide +kernel) rfl) <|
  am_c (ok_get (by decide +kernel) (by decide +kernel) rfl (by decide +kernel) kw_425) <|
  am_c (ok_iload_n (k := 2) (by decide +kernel) rfl) <|
  am_c (ok_iald (by decide +kernel)) <|
  am_c (ok_bipush (z := 40) (by decide +kernel) (by decide +kernel)) <|
  am_c (ok_icmpne (off := 18) (by decide +kernel) (by decide +kernel)) <|
  am_c (ok_aload_n (k := 0) (by decide +kernel) rfl) <|
  am_n
def k_c137_5 : List (Nat × am_A) := [(236, ac_push (.int 5) 237), (237, ac_callV 6 98 2 240 am_nohd), (240, ac_push (.int (-1)) 241), (241, ac_if2 (fun x y => x = y) 248 244), (244, ac_push (.int 1) 245), (245, ac_goto 249), (248, ac_push (.int 0) 249), (249, ac_zret), (250, ac_aload 0 251), (251, ac_get 2 6 27 254), (254, ac_push (.int 41) 256), (256, ac_iload 2 257), (257, ac_ii (fun x y => x * y) 258), (258, ac_aload 0 259), (259, ac_get 2 6 26 262), (262, ac_iload 2 263), (263, ac_iald 0 264), (264, ac_ii (fun x y => x + y) 265), (265, ac_iload 4 267), (267, ac_iast 268), (268, ac_aload 0 269), (269, ac_get 2 6 26 272), (272, ac_iload 2 273), (273, ac_dup2 274)]
theorem k_p137_5 : ∀ q ∈ k_c137_5, am_Ok k_nm D cA B0 sb H00 (k_Th B0 sb H00) prog_8_method_48_code "TokenMouthModel" "readBody" [] (some .boolean) q.1 q.2 :=
  am_c (ok_iconst (z := 5) (by decide +kernel) (by decide +kernel)) <|
  am_c (ok_callV (by decide +kernel) (by decide +kernel) kw_498 kw_499 kw_500 kw_497 (by decide +kernel) (by decide +kernel)) <|
  am_c (ok_iconst (z := -1) (by decide +kernel) (by decide +kernel)) <|
  am_c (ok_icmpeq (off := 7) (by decide +kernel) (by decide +kernel)) <|
  am_c (ok_iconst (z := 1) (by decide +kernel) (by decide +kernel)) <|
  am_c (ok_goto (off := 4) (by decide +kernel) (by decide +kernel)) <|
  am_c (ok_iconst (z := 0) (by decide +kernel) (by decide +kernel)) <|
  am_c (ok_zret (by decide +kernel) rfl) <|
  am_c (ok_aload_n (k := 0) (by decide +kernel) rfl) <|
  am_c (ok_get (by decide +kernel) (by decide +kernel) rfl (by decide +kernel) kw_426) <|
  am_c (ok_bipush (z := 41) (by decide +kernel) (by decide +kernel)) <|
  am_c (ok_iload_n (k := 2) (by decide +kernel) rfl) <|
  am_c (ok_imul (by decide +kernel)) <|
  am_c (ok_aload_n (k := 0) (by decide +kernel) rfl) <|
  am_c (ok_get (by decide +kernel) (by decide +kernel) rfl (by decide +kernel) kw_425) <|
  am_c (ok_iload_n (k := 2) (by decide +kernel) rfl) <|
  am_c (ok_iald (by decide +kernel)) <|
  am_c (ok_iadd (by decide +kernel)) <|
  am_c (ok_iload (by decide +kernel)) <|
  am_c (ok_iast (by decide +kernel)) <|
  am_c (ok_aload_n (k := 0) (by decide +kernel) rfl) <|
  am_c (ok_get (by decide +kernel) (by decide +kernel) rfl (by decide +kernel) kw_425) <|
  am_c (ok_iload_n (k := 2) (by decide +kernel) rfl) <|
  am_c (ok_dup2 (by decide +kernel)) <|
  am_n
def k_c137_6 : List (Nat × am_A) := [(274, ac_iald 0 275), (275, ac_push (.int 1) 276), (276, ac_ii (fun x y => x + y) 277), (277, ac_iast 278), (278, ac_goto 14)]
theorem k_p137_6 : ∀ q ∈ k_c137_6, am_Ok k_nm D cA B0 sb H00 (k_Th B0 sb H00) prog_8_method_48_code "TokenMouthModel" "readBody" [] (some .boolean) q.1 q.2 :=
  am_c (ok_iald (by decide +kernel)) <|
  am_c (ok_iconst (z := 1) (by decide +kernel) (by decide +kernel)) <|
  am_c (ok_iadd (by decide +kernel)) <|
  am_c (ok_iast (by decide +kernel)) <|
  am_c (ok_goto (off := -264) (by decide +kernel) (by decide +kernel)) <|
  am_n
def k_t137 : List (Nat × List (Nat × am_A)) := [(42, k_c137_0), (93, k_c137_1), (142, k_c137_2), (189, k_c137_3), (235, k_c137_4), (273, k_c137_5), (278, k_c137_6)]
theorem k_o137 : ∀ c ∈ k_t137, ∀ q ∈ c.2, am_Ok k_nm D cA B0 sb H00 (k_Th B0 sb H00) prog_8_method_48_code "TokenMouthModel" "readBody" [] (some .boolean) q.1 q.2 := am_cc (P := fun pc a => am_Ok k_nm D cA B0 sb H00 (k_Th B0 sb H00) prog_8_method_48_code "TokenMouthModel" "readBody" [] (some .boolean) pc a) k_p137_0 <| am_cc (P := fun pc a => am_Ok k_nm D cA B0 sb H00 (k_Th B0 sb H00) prog_8_method_48_code "TokenMouthModel" "readBody" [] (some .boolean) pc a) k_p137_1 <| am_cc (P := fun pc a => am_Ok k_nm D cA B0 sb H00 (k_Th B0 sb H00) prog_8_method_48_code "TokenMouthModel" "readBody" [] (some .boolean) pc a) k_p137_2 <| am_cc (P := fun pc a => am_Ok k_nm D cA B0 sb H00 (k_Th B0 sb H00) prog_8_method_48_code "TokenMouthModel" "readBody" [] (some .boolean) pc a) k_p137_3 <| am_cc (P := fun pc a => am_Ok k_nm D cA B0 sb H00 (k_Th B0 sb H00) prog_8_method_48_code "TokenMouthModel" "readBody" [] (some .boolean) pc a) k_p137_4 <| am_cc (P := fun pc a => am_Ok k_nm D cA B0 sb H00 (k_Th B0 sb H00) prog_8_method_48_code "TokenMouthModel" "readBody" [] (some .boolean) pc a) k_p137_5 <| am_cc (P := fun pc a => am_Ok k_nm D cA B0 sb H00 (k_Th B0 sb H00) prog_8_method_48_code "TokenMouthModel" "readBody" [] (some .boolean) pc a) k_p137_6 <| am_cn0
-- 138: TokenMouthModel.define(I)V
def k_c138_0 : List (Nat × am_A) := [(0, ac_aload 0 1), (1, ac_callV 6 135 1 4 am_nohd), (4, ac_istore 2 5), (5, ac_iload 2 6), (6, ac_push (.int (-1)) 7), (7, ac_if2 (fun x y => x = y) 34 10), (10, ac_aload 0 11), (11, ac_callV 6 136 1 14 am_nohd), (14, ac_if1 (fun x => x = 0) 34 17), (17, ac_aload 0 18), (18, ac_iload 1 19), (19, ac_push (.int 5) 20), (20, ac_if2 (fun x y => ¬ x = y) 27 23), (23, ac_push (.int 1) 24), (24, ac_goto 28), (27, ac_push (.int 0) 28), (28, ac_callV 6 137 2 31 am_nohd), (31, ac_if1 (fun x => ¬ x = 0) 35 34), (34, ac_ret), (35, ac_aload 0 36), (36, ac_get 0 6 23 39), (39, ac_push (.int 60) 41), (41, ac_if2 (fun x y => ¬ x = y) 51 44), (44, ac_aload 0 45)]
theorem k_p138_0 : ∀ q ∈ k_c138_0, am_Ok k_nm D cA B0 sb H00 (k_Th B0 sb H00) prog_8_method_49_code "TokenMouthModel" "define" [] none q.1 q.2 :=
  am_c (ok_aload_n (k := 0) (by decide +kernel) rfl) <|
  am_c (ok_callV (by decide +kernel) (by decide +kernel) kw_634 kw_635 kw_636 kw_633 (by decide +kernel) (by decide +kernel)) <|
  am_c (ok_istore_n (k := 2) (by decide +kernel) rfl) <|
  am_c (ok_iload_n (k := 2) (by decide +kernel) rfl) <|
  am_c (ok_iconst (z := -1) (by decide +kernel) (by decide +kernel)) <|
  am_c (ok_icmpeq (off := 27) (by decide +kernel) (by decide +kernel)) <|
  am_c (ok_aload_n (k := 0) (by decide +kernel) rfl) <|
  am_c (ok_callV (by decide +kernel) (by decide +kernel) kw_638 kw_639 kw_640 kw_637 (by decide +kernel) (by decide +kernel)) <|
  am_c (ok_ifeq (off := 20) (by decide +kernel) (by decide +kernel)) <|
  am_c (ok_aload_n (k := 0) (by decide +kernel) rfl) <|
  am_c (ok_iload_n (k := 1) (by decide +kernel) rfl) <|
  am_c (ok_iconst (z := 5) (by decide +kernel) (by decide +kernel)) <|
  am_c (ok_icmpne (off := 7) (by decide +kernel) (by decide +kernel)) <|
  am_c (ok_iconst (z := 1) (by decide +kernel) (by decide +kernel)) <|
  am_c (ok_goto (off := 4) (by decide +kernel) (by decide +kernel)) <|
  am_c (ok_iconst (z := 0) (by decide +kernel) (by decide +kernel)) <|
  am_c (ok_callV (by decide +kernel) (by decide +kernel) kw_642 kw_643 kw_644 kw_641 (by decide +kernel) (by decide +kernel)) <|
  am_c (ok_ifne (off := 4) (by decide +kernel) (by decide +kernel)) <|
  am_c (ok_ret (by decide +kernel) rfl) <|
  am_c (ok_aload_n (k := 0) (by decide +kernel) rfl) <|
  am_c (ok_get (by decide +kernel) (by decide +kernel) rfl (by decide +kernel) kw_481) <|
  am_c (ok_bipush (z := 60) (by decide +kernel) (by decide +kernel)) <|
  am_c (ok_icmpne (off := 10) (by decide +kernel) (by decide +kernel)) <|
  am_c (ok_aload_n (k := 0) (by decide +kernel) rfl) <|
  am_n
def k_c138_1 : List (Nat × am_A) := [(45, ac_push (.int 5) 46), (46, ac_callV 6 98 2 49 am_nohd), (49, ac_istore 3 50), (50, ac_ret), (51, ac_push (.int 6000) 54), (54, ac_aload 0 55), (55, ac_get 0 6 23 58), (58, ac_ii (fun x y => x + y) 59), (59, ac_istore 3 60), (60, ac_aload 0 61), (61, ac_dup 62), (62, ac_get 0 6 23 65), (65, ac_push (.int 1) 66), (66, ac_ii (fun x y => x + y) 67), (67, ac_putI 6 23 70), (70, ac_iload 1 71), (71, ac_push (.int 4) 72), (72, ac_if2 (fun x y => x = y) 82 75), (75, ac_aload 0 76), (76, ac_iload 2 77), (77, ac_iload 3 78), (78, ac_callV 6 113 3 81 am_nohd), (81, ac_ret), (82, ac_aload 0 83)]
theorem k_p138_1 : ∀ q ∈ k_c138_1, am_Ok k_nm D cA B0 sb H00 (k_Th B0 sb H00) prog_8_method_49_code "TokenMouthModel" "define" [] none q.1 q.2 :=
  am_c (ok_iconst (z := 5) (by decide +kernel) (by decide +kernel)) <|
  am_c (ok_callV (by decide +kernel) (by decide +kernel) kw_498 kw_499 kw_500 kw_497 (by decide +kernel) (by decide +kernel)) <|
  am_c (ok_istore_n (k := 3) (by decide +kernel) rfl) <|
  am_c (ok_ret (by decide +kernel) rfl) <|
  am_c (ok_sipush (z := 6000) (by decide +kernel) (by decide +kernel)) <|
  am_c (ok_aload_n (k := 0) (by decide +kernel) rfl) <|
  am_c (ok_get (by decide +kernel) (by decide +kernel) rfl (by decide +kernel) kw_481) <|
  am_c (ok_iadd (by decide +kernel)) <|
  am_c (ok_istore_n (k := 3) (by decide +kernel) rfl) <|
  am_c (ok_aload_n (k := 0) (by decide +kernel) rfl) <|
  am_c (ok_dup (by decide +kernel)) <|
  am_c (ok_get (by decide +kernel) (by decide +kernel) rfl (by decide +kernel) kw_481) <|
  am_c (ok_iconst (z := 1) (by decide +kernel) (by decide +kernel)) <|
  am_c (ok_iadd (by decide +kernel)) <|
  am_c (ok_putI (by decide +kernel) (by decide +kernel) rfl (by decide +kernel) kw_481 rfl) <|
  am_c (ok_iload_n (k := 1) (by decide +kernel) rfl) <|
  am_c (ok_iconst (z := 4) (by decide +kernel) (by decide +kernel)) <|
  am_c (ok_icmpeq (off := 10) (by decide +kernel) (by decide +kernel)) <|
  am_c (ok_aload_n (k := 0) (by decide +kernel) rfl) <|
  am_c (ok_iload_n (k := 2) (by decide +kernel) rfl) <|
  am_c (ok_iload_n (k := 3) (by decide +kernel) rfl) <|
  am_c (ok_callV (by decide +kernel) (by decide +kernel) kw_614 kw_615 kw_616 kw_613 (by decide +kernel) (by decide +kernel)) <|
  am_c (ok_ret (by decide +kernel) rfl) <|
  am_c (ok_aload_n (k := 0) (by decide +kernel) rfl) <|
  am_n
def k_c138_2 : List (Nat × am_A) := [(83, ac_get 2 6 15 86), (86, ac_iload 2 87), (87, ac_iload 3 88), (88, ac_iast 89), (89, ac_push (.int 0) 90), (90, ac_istore 4 92), (92, ac_iload 4 94), (94, ac_aload 0 95), (95, ac_get 0 6 19 98), (98, ac_if2 (fun x y => y ≤ x) 136 101), (101, ac_aload 0 102), (102, ac_get 2 6 22 105), (105, ac_iload 4 107), (107, ac_aload 0 108), (108, ac_get 2 6 21 111), (111, ac_iload 4 113), (113, ac_iald 0 114), (114, ac_iload 2 115), (115, ac_if2 (fun x y => ¬ x = y) 122 118), (118, ac_iload 3 119), (119, ac_goto 129), (122, ac_aload 0 123), (123, ac_get 2 6 22 126), (126, ac_iload 4 128)]
theorem k_p138_2 : ∀ q ∈ k_c138_2, am_Ok k_nm D cA B0 sb H00 (k_Th B0 sb H00) prog_8_method_49_code "TokenMouthModel" "define" [] none q.1 q.2 :=
  am_c (ok_get (by decide +kernel) (by decide +kernel) rfl (by decide +kernel) kw_418) <|
  am_c (ok_iload_n (k := 2) (by decide +kernel) rfl) <|
  am_c (ok_iload_n (k := 3) (by decide +kernel) rfl) <|
  am_c (ok_iast (by decide +kernel)) <|
  am_c (ok_iconst (z := 0) (by decide +kernel) (by decide +kernel)) <|
  am_c (ok_istore (by decide +kernel)) <|
  am_c (ok_iload (by decide +kernel)) <|
  am_c (ok_aload_n (k := 0) (by decide +kernel) rfl) <|
  am_c (ok_get (by decide +kernel) (by decide +kernel) rfl (by decide +kernel) kw_480) <|
  am_c (ok_icmpge (off := 38) (by decide +kernel) (by decide +kernel)) <|
  am_c (ok_aload_n (k := 0) (by decide +kernel) rfl) <|
  am_c (ok_get (by decide +kernel) (by decide +kernel) rfl (by decide +kernel) kw_422) <|
  am_c (ok_iload (by decide +kernel)) <|
  am_c (ok_aload_n (k := 0) (by decide +kernel) rfl) <|
  am_c (ok_get (by decide +kernel) (by decide +kernel) rfl (by decide +kernel) kw_421) <|
  am_c (ok_iload (by decide +kernel)) <|
  am_c (ok_iald (by decide +kernel)) <|
  am_c (ok_iload_n (k := 2) (by decide +kernel) rfl) <|
  am_c (ok_icmpne (off := 7) (by decide +kernel) (by decide +kernel)) <|
  am_c (ok_iload_n (k := 3) (by decide +kernel) rfl) <|
  am_c (ok_goto (off := 10) (by decide +kernel) (by decide +kernel)) <|
  am_c (ok_aload_n (k := 0) (by decide +kernel) rfl) <|
  am_c (ok_get (by decide +kernel) (by decide +kernel) rfl (by decide +kernel) kw_422) <|
  am_c (ok_iload (by decide +kernel)) <|
  am_n
def k_c138_3 : List (Nat × am_A) := [(128, ac_iald 0 129), (129, ac_iast 130), (130, ac_iinc 4 1 133), (133, ac_goto 92), (136, ac_ret)]
theorem k_p138_3 : ∀ q ∈ k_c138_3, am_Ok k_nm D cA B0 sb H00 (k_Th B0 sb H00) prog_8_method_49_code "TokenMouthModel" "define" [] none q.1 q.2 :=
  am_c (ok_iald (by decide +kernel)) <|
  am_c (ok_iast (by decide +kernel)) <|
  am_c (ok_iinc (z := 1) (by decide +kernel) (by decide +kernel)) <|
  am_c (ok_goto (off := -41) (by decide +kernel) (by decide +kernel)) <|
  am_c (ok_ret (by decide +kernel) rfl) <|
  am_n
def k_t138 : List (Nat × List (Nat × am_A)) := [(44, k_c138_0), (82, k_c138_1), (126, k_c138_2), (136, k_c138_3)]
theorem k_o138 : ∀ c ∈ k_t138, ∀ q ∈ c.2, am_Ok k_nm D cA B0 sb H00 (k_Th B0 sb H00) prog_8_method_49_code "TokenMouthModel" "define" [] none q.1 q.2 := am_cc (P := fun pc a => am_Ok k_nm D cA B0 sb H00 (k_Th B0 sb H00) prog_8_method_49_code "TokenMouthModel" "define" [] none pc a) k_p138_0 <| am_cc (P := fun pc a => am_Ok k_nm D cA B0 sb H00 (k_Th B0 sb H00) prog_8_method_49_code "TokenMouthModel" "define" [] none pc a) k_p138_1 <| am_cc (P := fun pc a => am_Ok k_nm D cA B0 sb H00 (k_Th B0 sb H00) prog_8_method_49_code "TokenMouthModel" "define" [] none pc a) k_p138_2 <| am_cc (P := fun pc a => am_Ok k_nm D cA B0 sb H00 (k_Th B0 sb H00) prog_8_method_49_code "TokenMouthModel" "define" [] none pc a) k_p138_3 <| am_cn0
-- 139: TokenMouthModel.let()V
def k_c139_0 : List (Nat × am_A) := [(0, ac_aload 0 1), (1, ac_callV 6 135 1 4 am_nohd), (4, ac_istore 1 5), (5, ac_iload 1 6), (6, ac_push (.int (-1)) 7), (7, ac_if2 (fun x y => ¬ x = y) 14 10), (10, ac_push (.int (-1)) 11), (11, ac_goto 18), (14, ac_aload 0 15), (15, ac_callV 6 105 1 18 am_nohd), (18, ac_istore 2 19), (19, ac_iload 2 20), (20, ac_push (.int 3133) 23), (23, ac_if2 (fun x y => ¬ x = y) 31 26), (26, ac_aload 0 27), (27, ac_callV 6 105 1 30 am_nohd), (30, ac_istore 2 31), (31, ac_iload 2 32), (32, ac_push (.int (-1)) 33), (33, ac_if2 (fun x y => x = y) 46 36), (36, ac_aload 0 37), (37, ac_iload 1 38), (38, ac_aload 0 39), (39, ac_iload 2 40)]
theorem k_p139_0 : ∀ q ∈ k_c139_0, am_Ok k_nm D cA B0 sb H00 (k_Th B0 sb H00) prog_8_method_50_code "TokenMouthModel" "let" [] none q.1 q.2 :=
  am_c (ok_aload_n (k := 0) (by decide +kernel) rfl) <|
  am_c (ok_callV (by decide +kernel) (by decide +kernel) kw_634 kw_635 kw_636 kw_633 (by decide +kernel) (by decide +kernel)) <|
  am_c (ok_istore_n (k := 1) (by decide +kernel) rfl) <|
  am_c (ok_iload_n (k := 1) (by decide +kernel) rfl) <|
  am_c (ok_iconst (z := -1) (by decide +kernel) (by decide +kernel)) <|
  am_c (ok_icmpne (off := 7) (by decide +kernel) (by decide +kernel)) <|
  am_c (ok_iconst (z := -1) (by decide +kernel) (by decide +kernel)) <|
  am_c (ok_goto (off := 7) (by decide +kernel) (by decide +kernel)) <|
  am_c (ok_aload_n (k := 0) (by decide +kernel) rfl) <|
  am_c (ok_callV (by decide +kernel) (by decide +kernel) kw_550 kw_551 kw_552 kw_549 (by decide +kernel) (by decide +kernel)) <|
  am_c (ok_istore_n (k := 2) (by decide +kernel) rfl) <|
  am_c (ok_iload_n (k := 2) (by decide +kernel) rfl) <|
  am_c (ok_sipush (z := 3133) (by decide +kernel) (by decide +kernel)) <|
  am_c (ok_icmpne (off := 8) (by decide +kernel) (by decide +kernel)) <|
  am_c (ok_aload_n (k := 0) (by decide +kernel) rfl) <|
  am_c (ok_callV (by decide +kernel) (by decide +kernel) kw_550 kw_551 kw_552 kw_549 (by decide +kernel) (by decide +kernel)) <|
  am_c (ok_istore_n (k := 2) (by decide +kernel) rfl) <|
  am_c (ok_iload_n (k := 2) (by decide +kernel) rfl) <|
  am_c (ok_iconst (z := -1) (by decide +kernel) (by decide +kernel)) <|
  am_c (ok_icmpeq (off := 13) (by decide +kernel) (by decide +kernel)) <|
  am_c (ok_aload_n (k := 0) (by decide +kernel) rfl) <|
  am_c (ok_iload_n (k := 1) (by decide +kernel) rfl) <|
  am_c (ok_aload_n (k := 0) (by decide +kernel) rfl) <|
  am_c (ok_iload_n (k := 2) (by decide +kernel) rfl) <|
  am_n
def k_c139_1 : List (Nat × am_A) := [(40, ac_callV 6 111 2 43 am_nohd), (43, ac_callV 6 113 3 46 am_nohd), (46, ac_ret)]
theorem k_p139_1 : ∀ q ∈ k_c139_1, am_Ok k_nm D cA B0 sb H00 (k_Th B0 sb H00) prog_8_method_50_code "TokenMouthModel" "let" [] none q.1 q.2 :=
  am_c (ok_callV (by decide +kernel) (by decide +kernel) kw_528 kw_529 kw_530 kw_527 (by decide +kernel) (by decide +kernel)) <|
  am_c (ok_callV (by decide +kernel) (by decide +kernel) kw_614 kw_615 kw_616 kw_613 (by decide +kernel) (by decide +kernel)) <|
  am_c (ok_ret (by decide +kernel) rfl) <|
  am_n
def k_t139 : List (Nat × List (Nat × am_A)) := [(39, k_c139_0), (46, k_c139_1)]
theorem k_o139 : ∀ c ∈ k_t139, ∀ q ∈ c.2, am_Ok k_nm D cA B0 sb H00 (k_Th B0 sb H00) prog_8_method_50_code "TokenMouthModel" "let" [] none q.1 q.2 := am_cc (P := fun pc a => am_Ok k_nm D cA B0 sb H00 (k_Th B0 sb H00) prog_8_method_50_code "TokenMouthModel" "let" [] none pc a) k_p139_0 <| am_cc (P := fun pc a => am_Ok k_nm D cA B0 sb H00 (k_Th B0 sb H00) prog_8_method_50_code "TokenMouthModel" "let" [] none pc a) k_p139_1 <| am_cn0
-- 140: TokenMouthModel.digit(I)I
def k_c140_0 : List (Nat × am_A) := [(0, ac_iload 0 1), (1, ac_push (.int 12) 3), (3, ac_callS 110 2 6), (6, ac_if1 (fun x => x = 0) 40 9), (9, ac_iload 0 10), (10, ac_push (.int 255) 13), (13, ac_ii (fun x y => x &&& y) 14), (14, ac_push (.int 47) 16), (16, ac_if2 (fun x y => x ≤ y) 40 19), (19, ac_iload 0 20), (20, ac_push (.int 255) 23), (23, ac_ii (fun x y => x &&& y) 24), (24, ac_push (.int 58) 26), (26, ac_if2 (fun x y => y ≤ x) 40 29), (29, ac_iload 0 30), (30, ac_push (.int 255) 33), (33, ac_ii (fun x y => x &&& y) 34), (34, ac_push (.int 48) 36), (36, ac_ii (fun x y => x - y) 37), (37, ac_goto 41), (40, ac_push (.int (-1)) 41), (41, ac_iret)]
theorem k_p140_0 : ∀ q ∈ k_c140_0, am_Ok k_nm D cA B0 sb H00 (k_Th B0 sb H00) prog_8_method_51_code "TokenMouthModel" "digit" [] (some .int) q.1 q.2 :=
  am_c (ok_iload_n (k := 0) (by decide +kernel) rfl) <|
  am_c (ok_bipush (z := 12) (by decide +kernel) (by decide +kernel)) <|
  am_c (ok_callS (by decide +kernel) kw_535 kw_536 kw_488 kw_534 (by decide +kernel) (by decide +kernel)) <|
  am_c (ok_ifeq (off := 34) (by decide +kernel) (by decide +kernel)) <|
  am_c (ok_iload_n (k := 0) (by decide +kernel) rfl) <|
  am_c (ok_sipush (z := 255) (by decide +kernel) (by decide +kernel)) <|
  am_c (ok_iand (by decide +kernel)) <|
  am_c (ok_bipush (z := 47) (by decide +kernel) (by decide +kernel)) <|
  am_c (ok_icmple (off := 24) (by decide +kernel) (by decide +kernel)) <|
  am_c (ok_iload_n (k := 0) (by decide +kernel) rfl) <|
  am_c (ok_sipush (z := 255) (by decide +kernel) (by decide +kernel)) <|
  am_c (ok_iand (by decide +kernel)) <|
  am_c (ok_bipush (z := 58) (by decide +kernel) (by decide +kernel)) <|
  am_c (ok_icmpge (off := 14) (by decide +kernel) (by decide +kernel)) <|
  am_c (ok_iload_n (k := 0) (by decide +kernel) rfl) <|
  am_c (ok_sipush (z := 255) (by decide +kernel) (by decide +kernel)) <|
  am_c (ok_iand (by decide +kernel)) <|
  am_c (ok_bipush (z := 48) (by decide +kernel) (by decide +kernel)) <|
  am_c (ok_isub (by decide +kernel)) <|
  am_c (ok_goto (off := 4) (by decide +kernel) (by decide +kernel)) <|
  am_c (ok_iconst (z := -1) (by decide +kernel) (by decide +kernel)) <|
  am_c (ok_iret (by decide +kernel) rfl) <|
  am_n
def k_t140 : List (Nat × List (Nat × am_A)) := [(41, k_c140_0)]
theorem k_o140 : ∀ c ∈ k_t140, ∀ q ∈ c.2, am_Ok k_nm D cA B0 sb H00 (k_Th B0 sb H00) prog_8_method_51_code "TokenMouthModel" "digit" [] (some .int) q.1 q.2 := am_cc (P := fun pc a => am_Ok k_nm D cA B0 sb H00 (k_Th B0 sb H00) prog_8_method_51_code "TokenMouthModel" "digit" [] (some .int) pc a) k_p140_0 <| am_cn0
-- 141: TokenMouthModel.catcode()V
def k_c141_0 : List (Nat × am_A) := [(0, ac_aload 0 1), (1, ac_callV 6 105 1 4 am_nohd), (4, ac_istore 1 5), (5, ac_iload 1 6), (6, ac_push (.int (-1)) 7), (7, ac_if2 (fun x y => ¬ x = y) 11 10), (10, ac_ret), (11, ac_iload 1 12), (12, ac_callS 107 1 15), (15, ac_if1 (fun x => x = 0) 29 18), (18, ac_iload 1 19), (19, ac_callS 109 1 22), (22, ac_push (.int 4096) 25), (25, ac_ii (fun x y => x - y) 26), (26, ac_goto 30), (29, ac_push (.int 0) 30), (30, ac_istore 2 31), (31, ac_iload 1 32), (32, ac_callS 107 1 35), (35, ac_if1 (fun x => x = 0) 55 38), (38, ac_aload 0 39), (39, ac_get 2 6 13 42), (42, ac_iload 2 43), (43, ac_iald 0 44)]
theorem k_p141_0 : ∀ q ∈ k_c141_0, am_Ok k_nm D cA B0 sb H00 (k_Th B0 sb H00) prog_8_method_52_code "TokenMouthModel" "catcode" [] none q.1 q.2 :=
  am_c (ok_aload_n (k := 0) (by decide +kernel) rfl) <|
  am_c (ok_callV (by decide +kernel) (by decide +kernel) kw_550 kw_551 kw_552 kw_549 (by decide +kernel) (by decide +kernel)) <|
  am_c (ok_istore_n (k := 1) (by decide +kernel) rfl) <|
  am_c (ok_iload_n (k := 1) (by decide +kernel) rfl) <|
  am_c (ok_iconst (z := -1) (by decide +kernel) (by decide +kernel)) <|
  am_c (ok_icmpne (off := 4) (by decide +kernel) (by decide +kernel)) <|
  am_c (ok_ret (by decide +kernel) rfl) <|
  am_c (ok_iload_n (k := 1) (by decide +kernel) rfl) <|
  am_c (ok_callS (by decide +kernel) kw_522 kw_523 kw_488 kw_521 (by decide +kernel) (by decide +kernel)) <|
  am_c (ok_ifeq (off := 14) (by decide +kernel) (by decide +kernel)) <|
  am_c (ok_iload_n (k := 1) (by decide +kernel) rfl) <|
  am_c (ok_callS (by decide +kernel) kw_532 kw_533 kw_488 kw_531 (by decide +kernel) (by decide +kernel)) <|
  am_c (ok_sipush (z := 4096) (by decide +kernel) (by decide +kernel)) <|
  am_c (ok_isub (by decide +kernel)) <|
  am_c (ok_goto (off := 4) (by decide +kernel) (by decide +kernel)) <|
  am_c (ok_iconst (z := 0) (by decide +kernel) (by decide +kernel)) <|
  am_c (ok_istore_n (k := 2) (by decide +kernel) rfl) <|
  am_c (ok_iload_n (k := 1) (by decide +kernel) rfl) <|
  am_c (ok_callS (by decide +kernel) kw_522 kw_523 kw_488 kw_521 (by decide +kernel) (by decide +kernel)) <|
  am_c (ok_ifeq (off := 20) (by decide +kernel) (by decide +kernel)) <|
  am_c (ok_aload_n (k := 0) (by decide +kernel) rfl) <|
  am_c (ok_get (by decide +kernel) (by decide +kernel) rfl (by decide +kernel) kw_415) <|
  am_c (ok_iload_n (k := 2) (by decide +kernel) rfl) <|
  am_c (ok_iald (by decide +kernel)) <|
  am_n
def k_c141_1 : List (Nat × am_A) := [(44, ac_push (.int 1) 45), (45, ac_if2 (fun x y => x = y) 55 48), (48, ac_aload 0 49), (49, ac_push (.int 4) 50), (50, ac_callV 6 98 2 53 am_nohd), (53, ac_istore 3 54), (54, ac_ret), (55, ac_iload 1 56), (56, ac_callS 107 1 59), (59, ac_if1 (fun x => x = 0) 74 62), (62, ac_aload 0 63), (63, ac_get 2 6 12 66), (66, ac_push (.int 11) 68), (68, ac_iload 2 69), (69, ac_ii (fun x y => x * y) 70), (70, ac_iald 0 71), (71, ac_goto 79), (74, ac_iload 1 75), (75, ac_push (.int 255) 78), (78, ac_ii (fun x y => x &&& y) 79), (79, ac_istore 3 80), (80, ac_aload 0 81), (81, ac_callV 6 105 1 84 am_nohd), (84, ac_istore 4 86)]
theorem k_p141_1 : ∀ q ∈ k_c141_1, am_Ok k_nm D cA B0 sb H00 (k_Th B0 sb H00) prog_8_method_52_code "TokenMouthModel" "catcode" [] none q.1 q.2 :=
  am_c (ok_iconst (z := 1) (by decide +kernel) (by decide +kernel)) <|
  am_c (ok_icmpeq (off := 10) (by decide +kernel) (by decide +kernel)) <|
  am_c (ok_aload_n (k := 0) (by decide +kernel) rfl) <|
  am_c (ok_iconst (z := 4) (by decide +kernel) (by decide +kernel)) <|
  am_c (ok_callV (by decide +kernel) (by decide +kernel) kw_498 kw_499 kw_500 kw_497 (by decide +kernel) (by decide +kernel)) <|
  am_c (ok_istore_n (k := 3) (by decide +kernel) rfl) <|
  am_c (ok_ret (by decide +kernel) rfl) <|
  am_c (ok_iload_n (k := 1) (by decide +kernel) rfl) <|
  am_c (ok_callS (by decide +kernel) kw_522 kw_523 kw_488 kw_521 (by decide +kernel) (by decide +kernel)) <|
  am_c (ok_ifeq (off := 15) (by decide +kernel) (by decide +kernel)) <|
  am_c (ok_aload_n (k := 0) (by decide +kernel) rfl) <|
  am_c (ok_get (by decide +kernel) (by decide +kernel) rfl (by decide +kernel) kw_414) <|
  am_c (ok_bipush (z := 11) (by decide +kernel) (by decide +kernel)) <|
  am_c (ok_iload_n (k := 2) (by decide +kernel) rfl) <|
  am_c (ok_imul (by decide +kernel)) <|
  am_c (ok_iald (by decide +kernel)) <|
  am_c (ok_goto (off := 8) (by decide +kernel) (by decide +kernel)) <|
  am_c (ok_iload_n (k := 1) (by decide +kernel) rfl) <|
  am_c (ok_sipush (z := 255) (by decide +kernel) (by decide +kernel)) <|
  am_c (ok_iand (by decide +kernel)) <|
  am_c (ok_istore_n (k := 3) (by decide +kernel) rfl) <|
  am_c (ok_aload_n (k := 0) (by decide +kernel) rfl) <|
  am_c (ok_callV (by decide +kernel) (by decide +kernel) kw_550 kw_551 kw_552 kw_549 (by decide +kernel) (by decide +kernel)) <|
  am_c (ok_istore (by decide +kernel)) <|
  am_n
def k_c141_2 : List (Nat × am_A) := [(86, ac_iload 4 88), (88, ac_push (.int (-1)) 89), (89, ac_if2 (fun x y => ¬ x = y) 93 92), (92, ac_ret), (93, ac_iload 4 95), (95, ac_callS 140 1 98), (98, ac_istore 5 100), (100, ac_iload 5 102), (102, ac_if1 (fun x => 0 ≤ x) 113 105), (105, ac_aload 0 106), (106, ac_push (.int 4) 107), (107, ac_callV 6 98 2 110 am_nohd), (110, ac_istore 6 112), (112, ac_ret), (113, ac_aload 0 114), (114, ac_callV 6 104 1 117 am_nohd), (117, ac_istore 6 119), (119, ac_iload 6 121), (121, ac_push (.int (-1)) 122), (122, ac_if2 (fun x y => x = y) 149 125), (125, ac_iload 6 127), (127, ac_callS 140 1 130), (130, ac_if1 (fun x => x < 0) 149 133), (133, ac_push (.int 10) 135)]
theorem k_p141_2 : ∀ q ∈ k_c141_2, am_Ok k_nm D cA B0 sb H00 (k_Th B0 sb H00) prog_8_method_52_code "TokenMouthModel" "catcode" [] none q.1 q.2 :=
  am_c (ok_iload (by decide +kernel)) <|
  am_c (ok_iconst (z := -1) (by decide +kernel) (by decide +kernel)) <|
  am_c (ok_icmpne (off := 4) (by decide +kernel) (by decide +kernel)) <|
  am_c (ok_ret (by decide +kernel) rfl) <|
  am_c (ok_iload (by decide +kernel)) <|
  am_c (ok_callS (by decide +kernel) kw_646 kw_647 kw_488 kw_645 (by decide +kernel) (by decide +kernel)) <|
  am_c (ok_istore (by decide +kernel)) <|
  am_c (ok_iload (by decide +kernel)) <|
  am_c (ok_ifge (off := 11) (by decide +kernel) (by decide +kernel)) <|
  am_c (ok_aload_n (k := 0) (by decide +kernel) rfl) <|
  am_c (ok_iconst (z := 4) (by decide +kernel) (by decide +kernel)) <|
  am_c (ok_callV (by decide +kernel) (by decide +kernel) kw_498 kw_499 kw_500 kw_497 (by decide +kernel) (by decide +kernel)) <|
  am_c (ok_istore (by decide +kernel)) <|
  am_c (ok_ret (by decide +kernel) rfl) <|
  am_c (ok_aload_n (k := 0) (by decide +kernel) rfl) <|
  am_c (ok_callV (by decide +kernel) (by decide +kernel) kw_518 kw_519 kw_520 kw_517 (by decide +kernel) (by decide +kernel)) <|
  am_c (ok_istore (by decide +kernel)) <|
  am_c (ok_iload (by decide +kernel)) <|
  am_c (ok_iconst (z := -1) (by decide +kernel) (by decide +kernel)) <|
  am_c (ok_icmpeq (off := 27) (by decide +kernel) (by decide +kernel)) <|
  am_c (ok_iload (by decide +kernel)) <|
  am_c (ok_callS (by decide +kernel) kw_646 kw_647 kw_488 kw_645 (by decide +kernel) (by decide +kernel)) <|
  am_c (ok_iflt (off := 19) (by decide +kernel) (by decide +kernel)) <|
  am_c (ok_bipush (z := 10) (by decide +kernel) (by decide +kernel)) <|
  am_n
def k_c141_3 : List (Nat × am_A) := [(135, ac_iload 5 137), (137, ac_ii (fun x y => x * y) 138), (138, ac_iload 6 140), (140, ac_callS 140 1 143), (143, ac_ii (fun x y => x + y) 144), (144, ac_istore 5 146), (146, ac_goto 161), (149, ac_iload 6 151), (151, ac_push (.int (-1)) 152), (152, ac_if2 (fun x y => x = y) 161 155), (155, ac_aload 0 156), (156, ac_iload 6 158), (158, ac_callV 6 106 2 161 am_nohd), (161, ac_aload 0 162), (162, ac_get 0 6 5 165), (165, ac_if1 (fun x => ¬ x = 0) 182 168), (168, ac_iload 5 170), (170, ac_push (.int 15) 172), (172, ac_if2 (fun x y => x ≤ y) 182 175), (175, ac_aload 0 176), (176, ac_push (.int 4) 177), (177, ac_callV 6 98 2 180 am_nohd), (180, ac_istore 7 182), (182, ac_aload 0 183)]
theorem k_p141_3 : ∀ q ∈ k_c141_3, am_Ok k_nm D cA B0 sb H00 (k_Th B0 sb H00) prog_8_method_52_code "TokenMouthModel" "catcode" [] none q.1 q.2 :=
  am_c (ok_iload (by decide +kernel)) <|
  am_c (ok_imul (by decide +kernel)) <|
  am_c (ok_iload (by decide +kernel)) <|
  am_c (ok_callS (by decide +kernel) kw_646 kw_647 kw_488 kw_645 (by decide +kernel) (by decide +kernel)) <|
  am_c (ok_iadd (by decide +kernel)) <|
  am_c (ok_istore (by decide +kernel)) <|
  am_c (ok_goto (off := 15) (by decide +kernel) (by decide +kernel)) <|
  am_c (ok_iload (by decide +kernel)) <|
  am_c (ok_iconst (z := -1) (by decide +kernel) (by decide +kernel)) <|
  am_c (ok_icmpeq (off := 9) (by decide +kernel) (by decide +kernel)) <|
  am_c (ok_aload_n (k := 0) (by decide +kernel) rfl) <|
  am_c (ok_iload (by decide +kernel)) <|
  am_c (ok_callV (by decide +kernel) (by decide +kernel) kw_562 kw_563 kw_564 kw_561 (by decide +kernel) (by decide +kernel)) <|
  am_c (ok_aload_n (k := 0) (by decide +kernel) rfl) <|
  am_c (ok_get (by decide +kernel) (by decide +kernel) rfl (by decide +kernel) kw_476) <|
  am_c (ok_ifne (off := 17) (by decide +kernel) (by decide +kernel)) <|
  am_c (ok_iload (by decide +kernel)) <|
  am_c (ok_bipush (z := 15) (by decide +kernel) (by decide +kernel)) <|
  am_c (ok_icmple (off := 10) (by decide +kernel) (by decide +kernel)) <|
  am_c (ok_aload_n (k := 0) (by decide +kernel) rfl) <|
  am_c (ok_iconst (z := 4) (by decide +kernel) (by decide +kernel)) <|
  am_c (ok_callV (by decide +kernel) (by decide +kernel) kw_498 kw_499 kw_500 kw_497 (by decide +kernel) (by decide +kernel)) <|
  am_c (ok_istore (by decide +kernel)) <|
  am_c (ok_aload_n (k := 0) (by decide +kernel) rfl) <|
  am_n
def k_c141_4 : List (Nat × am_A) := [(183, ac_get 0 6 5 186), (186, ac_if1 (fun x => ¬ x = 0) 200 189), (189, ac_aload 0 190), (190, ac_push (.int 200) 193), (193, ac_iload 3 194), (194, ac_ii (fun x y => x + y) 195), (195, ac_iload 5 197), (197, ac_callV 6 113 3 200 am_nohd), (200, ac_ret)]
theorem k_p141_4 : ∀ q ∈ k_c141_4, am_Ok k_nm D cA B0 sb H00 (k_Th B0 sb H00) prog_8_method_52_code "TokenMouthModel" "catcode" [] none q.1 q.2 :=
  am_c (ok_get (by decide +kernel) (by decide +kernel) rfl (by decide +kernel) kw_476) <|
  am_c (ok_ifne (off := 14) (by decide +kernel) (by decide +kernel)) <|
  am_c (ok_aload_n (k := 0) (by decide +kernel) rfl) <|
  am_c (ok_sipush (z := 200) (by decide +kernel) (by decide +kernel)) <|
  am_c (ok_iload_n (k := 3) (by decide +kernel) rfl) <|
  am_c (ok_iadd (by decide +kernel)) <|
  am_c (ok_iload (by decide +kernel)) <|
  am_c (ok_callV (by decide +kernel) (by decide +kernel) kw_614 kw_615 kw_616 kw_613 (by decide +kernel) (by decide +kernel)) <|
  am_c (ok_ret (by decide +kernel) rfl) <|
  am_n
def k_t141 : List (Nat × List (Nat × am_A)) := [(43, k_c141_0), (84, k_c141_1), (133, k_c141_2), (182, k_c141_3), (200, k_c141_4)]
theorem k_o141 : ∀ c ∈ k_t141, ∀ q ∈ c.2, am_Ok k_nm D cA B0 sb H00 (k_Th B0 sb H00) prog_8_method_52_code "TokenMouthModel" "catcode" [] none q.1 q.2 := am_cc (P := fun pc a => am_Ok k_nm D cA B0 sb H00 (k_Th B0 sb H00) prog_8_method_52_code "TokenMouthModel" "catcode" [] none pc a) k_p141_0 <| am_cc (P := fun pc a => am_Ok k_nm D cA B0 sb H00 (k_Th B0 sb H00) prog_8_method_52_code "TokenMouthModel" "catcode" [] none pc a) k_p141_1 <| am_cc (P := fun pc a => am_Ok k_nm D cA B0 sb H00 (k_Th B0 sb H00) prog_8_method_52_code "TokenMouthModel" "catcode" [] none pc a) k_p141_2 <| am_cc (P := fun pc a => am_Ok k_nm D cA B0 sb H00 (k_Th B0 sb H00) prog_8_method_52_code "TokenMouthModel" "catcode" [] none pc a) k_p141_3 <| am_cc (P := fun pc a => am_Ok k_nm D cA B0 sb H00 (k_Th B0 sb H00) prog_8_method_52_code "TokenMouthModel" "catcode" [] none pc a) k_p141_4 <| am_cn0
end
