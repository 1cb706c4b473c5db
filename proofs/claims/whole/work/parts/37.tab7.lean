/-! tables of the methods 133 to 143; printed by wip/whole/emit.py -/
section
variable {D : va_G} {cA : Nat → ClassId} {B0 : Nat} {sb : Nat → Option Nat} {H00 : Heap}
-- 133: TokenMouthModel.expand(I)V
def k_c133_0 : List (Nat × am_A) := [(0, ac_iload 1 1), (1, ac_istore 2 2), (2, ac_aload 0 3), (3, ac_get 0 6 31 6), (6, ac_istore 3 7), (7, ac_aload 0 8), (8, ac_get 0 6 5 11), (11, ac_if1 (fun x => ¬ x = 0) 48 14), (14, ac_iload 2 15), (15, ac_push (.int (-1)) 16), (16, ac_if2 (fun x y => ¬ x = y) 27 19), (19, ac_aload 0 20), (20, ac_get 0 6 31 23), (23, ac_iload 3 24), (24, ac_if2 (fun x y => x ≤ y) 48 27), (27, ac_iload 2 28), (28, ac_push (.int (-1)) 29), (29, ac_if2 (fun x y => x = y) 40 32), (32, ac_aload 0 33), (33, ac_iload 2 34), (34, ac_callV 6 128 2 37 am_nohd), (37, ac_goto 44), (40, ac_aload 0 41), (41, ac_callV 6 131 1 44 am_nohd)]
theorem k_p133_0 : ∀ q ∈ k_c133_0, am_Ok k_nm D cA B0 sb H00 (k_Th B0 sb H00) prog_8_method_44_code "TokenMouthModel" "expand" [] none q.1 q.2 :=
  am_c (ok_iload_n (k := 1) (by decide +kernel) rfl) <|
  am_c (ok_istore_n (k := 2) (by decide +kernel) rfl) <|
  am_c (ok_aload_n (k := 0) (by decide +kernel) rfl) <|
  am_c (ok_get (by decide +kernel) (by decide +kernel) rfl (by decide +kernel) kw_482) <|
  am_c (ok_istore_n (k := 3) (by decide +kernel) rfl) <|
  am_c (ok_aload_n (k := 0) (by decide +kernel) rfl) <|
  am_c (ok_get (by decide +kernel) (by decide +kernel) rfl (by decide +kernel) kw_475) <|
  am_c (ok_ifne (off := 37) (by decide +kernel) (by decide +kernel)) <|
  am_c (ok_iload_n (k := 2) (by decide +kernel) rfl) <|
  am_c (ok_iconst (z := -1) (by decide +kernel) (by decide +kernel)) <|
  am_c (ok_icmpne (off := 11) (by decide +kernel) (by decide +kernel)) <|
  am_c (ok_aload_n (k := 0) (by decide +kernel) rfl) <|
  am_c (ok_get (by decide +kernel) (by decide +kernel) rfl (by decide +kernel) kw_482) <|
  am_c (ok_iload_n (k := 3) (by decide +kernel) rfl) <|
  am_c (ok_icmple (off := 24) (by decide +kernel) (by decide +kernel)) <|
  am_c (ok_iload_n (k := 2) (by decide +kernel) rfl) <|
  am_c (ok_iconst (z := -1) (by decide +kernel) (by decide +kernel)) <|
  am_c (ok_icmpeq (off := 11) (by decide +kernel) (by decide +kernel)) <|
  am_c (ok_aload_n (k := 0) (by decide +kernel) rfl) <|
  am_c (ok_iload_n (k := 2) (by decide +kernel) rfl) <|
  am_c (ok_callV (by decide +kernel) (by decide +kernel) kw_617 kw_618 kw_619 kw_616 (by decide +kernel) (by decide +kernel)) <|
  am_c (ok_goto (off := 7) (by decide +kernel) (by decide +kernel)) <|
  am_c (ok_aload_n (k := 0) (by decide +kernel) rfl) <|
  am_c (ok_callV (by decide +kernel) (by decide +kernel) kw_621 kw_622 kw_623 kw_620 (by decide +kernel) (by decide +kernel)) <|
  am_n
def k_c133_1 : List (Nat × am_A) := [(44, ac_istore 2 45), (45, ac_goto 7), (48, ac_ret)]
theorem k_p133_1 : ∀ q ∈ k_c133_1, am_Ok k_nm D cA B0 sb H00 (k_Th B0 sb H00) prog_8_method_44_code "TokenMouthModel" "expand" [] none q.1 q.2 :=
  am_c (ok_istore_n (k := 2) (by decide +kernel) rfl) <|
  am_c (ok_goto (off := -38) (by decide +kernel) (by decide +kernel)) <|
  am_c (ok_ret (by decide +kernel) rfl) <|
  am_n
def k_t133 : List (Nat × List (Nat × am_A)) := [(41, k_c133_0), (48, k_c133_1)]
theorem k_o133 : ∀ c ∈ k_t133, ∀ q ∈ c.2, am_Ok k_nm D cA B0 sb H00 (k_Th B0 sb H00) prog_8_method_44_code "TokenMouthModel" "expand" [] none q.1 q.2 := am_cc (P := fun pc a => am_Ok k_nm D cA B0 sb H00 (k_Th B0 sb H00) prog_8_method_44_code "TokenMouthModel" "expand" [] none pc a) k_p133_0 <| am_cc (P := fun pc a => am_Ok k_nm D cA B0 sb H00 (k_Th B0 sb H00) prog_8_method_44_code "TokenMouthModel" "expand" [] none pc a) k_p133_1 <| am_cn0
-- 134: TokenMouthModel.needExpanded()I
def k_c134_0 : List (Nat × am_A) := [(0, ac_aload 0 1), (1, ac_callV 6 105 1 4 am_nohd), (4, ac_istore 1 5), (5, ac_aload 0 6), (6, ac_get 0 6 5 9), (9, ac_if1 (fun x => ¬ x = 0) 44 12), (12, ac_aload 0 13), (13, ac_iload 1 14), (14, ac_callV 6 112 2 17 am_nohd), (17, ac_if1 (fun x => x = 0) 44 20), (20, ac_aload 0 21), (21, ac_iload 1 22), (22, ac_callV 6 133 2 25 am_nohd), (25, ac_aload 0 26), (26, ac_get 0 6 5 29), (29, ac_if1 (fun x => ¬ x = 0) 39 32), (32, ac_aload 0 33), (33, ac_callV 6 105 1 36 am_nohd), (36, ac_goto 40), (39, ac_push (.int (-1)) 40), (40, ac_istore 1 41), (41, ac_goto 5), (44, ac_aload 0 45), (45, ac_get 0 6 5 48)]
theorem k_p134_0 : ∀ q ∈ k_c134_0, am_Ok k_nm D cA B0 sb H00 (k_Th B0 sb H00) prog_8_method_45_code "TokenMouthModel" "needExpanded" [] (some .int) q.1 q.2 :=
  am_c (ok_aload_n (k := 0) (by decide +kernel) rfl) <|
  am_c (ok_callV (by decide +kernel) (by decide +kernel) kw_549 kw_550 kw_551 kw_548 (by decide +kernel) (by decide +kernel)) <|
  am_c (ok_istore_n (k := 1) (by decide +kernel) rfl) <|
  am_c (ok_aload_n (k := 0) (by decide +kernel) rfl) <|
  am_c (ok_get (by decide +kernel) (by decide +kernel) rfl (by decide +kernel) kw_475) <|
  am_c (ok_ifne (off := 35) (by decide +kernel) (by decide +kernel)) <|
  am_c (ok_aload_n (k := 0) (by decide +kernel) rfl) <|
  am_c (ok_iload_n (k := 1) (by decide +kernel) rfl) <|
  am_c (ok_callV (by decide +kernel) (by decide +kernel) kw_577 kw_578 kw_579 kw_576 (by decide +kernel) (by decide +kernel)) <|
  am_c (ok_ifeq (off := 27) (by decide +kernel) (by decide +kernel)) <|
  am_c (ok_aload_n (k := 0) (by decide +kernel) rfl) <|
  am_c (ok_iload_n (k := 1) (by decide +kernel) rfl) <|
  am_c (ok_callV (by decide +kernel) (by decide +kernel) kw_625 kw_626 kw_627 kw_624 (by decide +kernel) (by decide +kernel)) <|
  am_c (ok_aload_n (k := 0) (by decide +kernel) rfl) <|
  am_c (ok_get (by decide +kernel) (by decide +kernel) rfl (by decide +kernel) kw_475) <|
  am_c (ok_ifne (off := 10) (by decide +kernel) (by decide +kernel)) <|
  am_c (ok_aload_n (k := 0) (by decide +kernel) rfl) <|
  am_c (ok_callV (by decide +kernel) (by decide +kernel) kw_549 kw_550 kw_551 kw_548 (by decide +kernel) (by decide +kernel)) <|
  am_c (ok_goto (off := 4) (by decide +kernel) (by decide +kernel)) <|
  am_c (ok_iconst (z := -1) (by decide +kernel) (by decide +kernel)) <|
  am_c (ok_istore_n (k := 1) (by decide +kernel) rfl) <|
  am_c (ok_goto (off := -36) (by decide +kernel) (by decide +kernel)) <|
  am_c (ok_aload_n (k := 0) (by decide +kernel) rfl) <|
  am_c (ok_get (by decide +kernel) (by decide +kernel) rfl (by decide +kernel) kw_475) <|
  am_n
def k_c134_1 : List (Nat × am_A) := [(48, ac_if1 (fun x => ¬ x = 0) 55 51), (51, ac_iload 1 52), (52, ac_goto 56), (55, ac_push (.int (-1)) 56), (56, ac_iret)]
theorem k_p134_1 : ∀ q ∈ k_c134_1, am_Ok k_nm D cA B0 sb H00 (k_Th B0 sb H00) prog_8_method_45_code "TokenMouthModel" "needExpanded" [] (some .int) q.1 q.2 :=
  am_c (ok_ifne (off := 7) (by decide +kernel) (by decide +kernel)) <|
  am_c (ok_iload_n (k := 1) (by decide +kernel) rfl) <|
  am_c (ok_goto (off := 4) (by decide +kernel) (by decide +kernel)) <|
  am_c (ok_iconst (z := -1) (by decide +kernel) (by decide +kernel)) <|
  am_c (ok_iret (by decide +kernel) rfl) <|
  am_n
def k_t134 : List (Nat × List (Nat × am_A)) := [(45, k_c134_0), (56, k_c134_1)]
theorem k_o134 : ∀ c ∈ k_t134, ∀ q ∈ c.2, am_Ok k_nm D cA B0 sb H00 (k_Th B0 sb H00) prog_8_method_45_code "TokenMouthModel" "needExpanded" [] (some .int) q.1 q.2 := am_cc (P := fun pc a => am_Ok k_nm D cA B0 sb H00 (k_Th B0 sb H00) prog_8_method_45_code "TokenMouthModel" "needExpanded" [] (some .int) pc a) k_p134_0 <| am_cc (P := fun pc a => am_Ok k_nm D cA B0 sb H00 (k_Th B0 sb H00) prog_8_method_45_code "TokenMouthModel" "needExpanded" [] (some .int) pc a) k_p134_1 <| am_cn0
-- 135: TokenMouthModel.needName()I
def k_c135_0 : List (Nat × am_A) := [(0, ac_aload 0 1), (1, ac_callV 6 105 1 4 am_nohd), (4, ac_istore 1 5), (5, ac_iload 1 6), (6, ac_push (.int (-1)) 7), (7, ac_if2 (fun x y => ¬ x = y) 12 10), (10, ac_push (.int (-1)) 11), (11, ac_iret), (12, ac_iload 1 13), (13, ac_callS 107 1 16), (16, ac_if1 (fun x => x = 0) 30 19), (19, ac_iload 1 20), (20, ac_callS 109 1 23), (23, ac_push (.int 4096) 26), (26, ac_ii (fun x y => x - y) 27), (27, ac_goto 35), (30, ac_aload 0 31), (31, ac_push (.int 4) 32), (32, ac_callV 6 98 2 35 am_nohd), (35, ac_iret)]
theorem k_p135_0 : ∀ q ∈ k_c135_0, am_Ok k_nm D cA B0 sb H00 (k_Th B0 sb H00) prog_8_method_46_code "TokenMouthModel" "needName" [] (some .int) q.1 q.2 :=
  am_c (ok_aload_n (k := 0) (by decide +kernel) rfl) <|
  am_c (ok_callV (by decide +kernel) (by decide +kernel) kw_549 kw_550 kw_551 kw_548 (by decide +kernel) (by decide +kernel)) <|
  am_c (ok_istore_n (k := 1) (by decide +kernel) rfl) <|
  am_c (ok_iload_n (k := 1) (by decide +kernel) rfl) <|
  am_c (ok_iconst (z := -1) (by decide +kernel) (by decide +kernel)) <|
  am_c (ok_icmpne (off := 5) (by decide +kernel) (by decide +kernel)) <|
  am_c (ok_iconst (z := -1) (by decide +kernel) (by decide +kernel)) <|
  am_c (ok_iret (by decide +kernel) rfl) <|
  am_c (ok_iload_n (k := 1) (by decide +kernel) rfl) <|
  am_c (ok_callS (by decide +kernel) kw_521 kw_522 kw_487 kw_520 (by decide +kernel) (by decide +kernel)) <|
  am_c (ok_ifeq (off := 14) (by decide +kernel) (by decide +kernel)) <|
  am_c (ok_iload_n (k := 1) (by decide +kernel) rfl) <|
  am_c (ok_callS (by decide +kernel) kw_531 kw_532 kw_487 kw_530 (by decide +kernel) (by decide +kernel)) <|
  am_c (ok_sipush (z := 4096) (by decide +kernel) (by decide +kernel)) <|
  am_c (ok_isub (by decide +kernel)) <|
  am_c (ok_goto (off := 8) (by decide +kernel) (by decide +kernel)) <|
  am_c (ok_aload_n (k := 0) (by decide +kernel) rfl) <|
  am_c (ok_iconst (z := 4) (by decide +kernel) (by decide +kernel)) <|
  am_c (ok_callV (by decide +kernel) (by decide +kernel) kw_497 kw_498 kw_499 kw_496 (by decide +kernel) (by decide +kernel)) <|
  am_c (ok_iret (by decide +kernel) rfl) <|
  am_n
def k_t135 : List (Nat × List (Nat × am_A)) := [(35, k_c135_0)]
theorem k_o135 : ∀ c ∈ k_t135, ∀ q ∈ c.2, am_Ok k_nm D cA B0 sb H00 (k_Th B0 sb H00) prog_8_method_46_code "TokenMouthModel" "needName" [] (some .int) q.1 q.2 := am_cc (P := fun pc a => am_Ok k_nm D cA B0 sb H00 (k_Th B0 sb H00) prog_8_method_46_code "TokenMouthModel" "needName" [] (some .int) pc a) k_p135_0 <| am_cn0
-- 136: TokenMouthModel.readText()Z
def k_c136_0 : List (Nat × am_A) := [(0, ac_aload 0 1), (1, ac_get 0 6 23 4), (4, ac_istore 1 5), (5, ac_aload 0 6), (6, ac_get 2 6 24 9), (9, ac_iload 1 10), (10, ac_push (.int 0) 11), (11, ac_iast 12), (12, ac_aload 0 13), (13, ac_get 2 6 28 16), (16, ac_iload 1 17), (17, ac_push (.int 0) 18), (18, ac_iast 19), (19, ac_aload 0 20), (20, ac_callV 6 105 1 23 am_nohd), (23, ac_callS 109 1 26), (26, ac_istore 2 27), (27, ac_iload 2 28), (28, ac_push (.int (-1)) 29), (29, ac_if2 (fun x y => x = y) 40 32), (32, ac_iload 2 33), (33, ac_push (.int 1) 34), (34, ac_callS 110 2 37), (37, ac_if1 (fun x => x = 0) 51 40)]
theorem k_p136_0 : ∀ q ∈ k_c136_0, am_Ok k_nm D cA B0 sb H00 (k_Th B0 sb H00) prog_8_method_47_code "TokenMouthModel" "readText" [] (some .boolean) q.1 q.2 :=
  am_c (ok_aload_n (k := 0) (by decide +kernel) rfl) <|
  am_c (ok_get (by decide +kernel) (by decide +kernel) rfl (by decide +kernel) kw_480) <|
  am_c (ok_istore_n (k := 1) (by decide +kernel) rfl) <|
  am_c (ok_aload_n (k := 0) (by decide +kernel) rfl) <|
  am_c (ok_get (by decide +kernel) (by decide +kernel) rfl (by decide +kernel) kw_422) <|
  am_c (ok_iload_n (k := 1) (by decide +kernel) rfl) <|
  am_c (ok_iconst (z := 0) (by decide +kernel) (by decide +kernel)) <|
  am_c (ok_iast (by decide +kernel)) <|
  am_c (ok_aload_n (k := 0) (by decide +kernel) rfl) <|
  am_c (ok_get (by decide +kernel) (by decide +kernel) rfl (by decide +kernel) kw_426) <|
  am_c (ok_iload_n (k := 1) (by decide +kernel) rfl) <|
  am_c (ok_iconst (z := 0) (by decide +kernel) (by decide +kernel)) <|
  am_c (ok_iast (by decide +kernel)) <|
  am_c (ok_aload_n (k := 0) (by decide +kernel) rfl) <|
  am_c (ok_callV (by decide +kernel) (by decide +kernel) kw_549 kw_550 kw_551 kw_548 (by decide +kernel) (by decide +kernel)) <|
  am_c (ok_callS (by decide +kernel) kw_531 kw_532 kw_487 kw_530 (by decide +kernel) (by decide +kernel)) <|
  am_c (ok_istore_n (k := 2) (by decide +kernel) rfl) <|
  am_c (ok_iload_n (k := 2) (by decide +kernel) rfl) <|
  am_c (ok_iconst (z := -1) (by decide +kernel) (by decide +kernel)) <|
  am_c (ok_icmpeq (off := 11) (by decide +kernel) (by decide +kernel)) <|
  am_c (ok_iload_n (k := 2) (by decide +kernel) rfl) <|
  am_c (ok_iconst (z := 1) (by decide +kernel) (by decide +kernel)) <|
  am_c (ok_callS (by decide +kernel) kw_534 kw_535 kw_487 kw_533 (by decide +kernel) (by decide +kernel)) <|
  am_c (ok_ifeq (off := 14) (by decide +kernel) (by decide +kernel)) <|
  am_n
def k_c136_1 : List (Nat × am_A) := [(40, ac_iload 2 41), (41, ac_push (.int (-1)) 42), (42, ac_if2 (fun x y => x = y) 49 45), (45, ac_push (.int 1) 46), (46, ac_goto 50), (49, ac_push (.int 0) 50), (50, ac_zret), (51, ac_iload 2 52), (52, ac_push (.int 6) 54), (54, ac_callS 110 2 57), (57, ac_if1 (fun x => x = 0) 145 60), (60, ac_aload 0 61), (61, ac_callV 6 105 1 64 am_nohd), (64, ac_istore 3 65), (65, ac_iload 3 66), (66, ac_push (.int (-1)) 67), (67, ac_if2 (fun x y => ¬ x = y) 72 70), (70, ac_push (.int 0) 71), (71, ac_zret), (72, ac_iload 3 73), (73, ac_push (.int 4096) 76), (76, ac_if2 (fun x y => y ≤ x) 106 79), (79, ac_aload 0 80), (80, ac_get 2 6 28 83)]
theorem k_p136_1 : ∀ q ∈ k_c136_1, am_Ok k_nm D cA B0 sb H00 (k_Th B0 sb H00) prog_8_method_47_code "TokenMouthModel" "readText" [] (some .boolean) q.1 q.2 :=
  am_c (ok_iload_n (k := 2) (by decide +kernel) rfl) <|
  am_c (ok_iconst (z := -1) (by decide +kernel) (by decide +kernel)) <|
  am_c (ok_icmpeq (off := 7) (by decide +kernel) (by decide +kernel)) <|
  am_c (ok_iconst (z := 1) (by decide +kernel) (by decide +kernel)) <|
  am_c (ok_goto (off := 4) (by decide +kernel) (by decide +kernel)) <|
  am_c (ok_iconst (z := 0) (by decide +kernel) (by decide +kernel)) <|
  am_c (ok_zret (by decide +kernel) rfl) <|
  am_c (ok_iload_n (k := 2) (by decide +kernel) rfl) <|
  am_c (ok_bipush (z := 6) (by decide +kernel) (by decide +kernel)) <|
  am_c (ok_callS (by decide +kernel) kw_534 kw_535 kw_487 kw_533 (by decide +kernel) (by decide +kernel)) <|
  am_c (ok_ifeq (off := 88) (by decide +kernel) (by decide +kernel)) <|
  am_c (ok_aload_n (k := 0) (by decide +kernel) rfl) <|
  am_c (ok_callV (by decide +kernel) (by decide +kernel) kw_549 kw_550 kw_551 kw_548 (by decide +kernel) (by decide +kernel)) <|
  am_c (ok_istore_n (k := 3) (by decide +kernel) rfl) <|
  am_c (ok_iload_n (k := 3) (by decide +kernel) rfl) <|
  am_c (ok_iconst (z := -1) (by decide +kernel) (by decide +kernel)) <|
  am_c (ok_icmpne (off := 5) (by decide +kernel) (by decide +kernel)) <|
  am_c (ok_iconst (z := 0) (by decide +kernel) (by decide +kernel)) <|
  am_c (ok_zret (by decide +kernel) rfl) <|
  am_c (ok_iload_n (k := 3) (by decide +kernel) rfl) <|
  am_c (ok_sipush (z := 4096) (by decide +kernel) (by decide +kernel)) <|
  am_c (ok_icmpge (off := 30) (by decide +kernel) (by decide +kernel)) <|
  am_c (ok_aload_n (k := 0) (by decide +kernel) rfl) <|
  am_c (ok_get (by decide +kernel) (by decide +kernel) rfl (by decide +kernel) kw_426) <|
  am_n
def k_c136_2 : List (Nat × am_A) := [(83, ac_iload 1 84), (84, ac_iald 0 85), (85, ac_push (.int 4) 86), (86, ac_if2 (fun x y => x = y) 106 89), (89, ac_iload 3 90), (90, ac_push (.int 255) 93), (93, ac_ii (fun x y => x &&& y) 94), (94, ac_push (.int 49) 96), (96, ac_aload 0 97), (97, ac_get 2 6 28 100), (100, ac_iload 1 101), (101, ac_iald 0 102), (102, ac_ii (fun x y => x + y) 103), (103, ac_if2 (fun x y => x = y) 121 106), (106, ac_aload 0 107), (107, ac_push (.int 4) 108), (108, ac_callV 6 98 2 111 am_nohd), (111, ac_push (.int (-1)) 112), (112, ac_if2 (fun x y => x = y) 119 115), (115, ac_push (.int 1) 116), (116, ac_goto 120), (119, ac_push (.int 0) 120), (120, ac_zret), (121, ac_aload 0 122)]
theorem k_p136_2 : ∀ q ∈ k_c136_2, am_Ok k_nm D cA B0 sb H00 (k_Th B0 sb H00) prog_8_method_47_code "TokenMouthModel" "readText" [] (some .boolean) q.1 q.2 :=
  am_c (ok_iload_n (k := 1) (by decide +kernel) rfl) <|
  am_c (ok_iald (by decide +kernel)) <|
  am_c (ok_iconst (z := 4) (by decide +kernel) (by decide +kernel)) <|
  am_c (ok_icmpeq (off := 20) (by decide +kernel) (by decide +kernel)) <|
  am_c (ok_iload_n (k := 3) (by decide +kernel) rfl) <|
  am_c (ok_sipush (z := 255) (by decide +kernel) (by decide +kernel)) <|
  am_c (ok_iand (by decide +kernel)) <|
  am_c (ok_bipush (z := 49) (by decide +kernel) (by decide +kernel)) <|
  am_c (ok_aload_n (k := 0) (by decide +kernel) rfl) <|
  am_c (ok_get (by decide +kernel) (by decide +kernel) rfl (by decide +kernel) kw_426) <|
  am_c (ok_iload_n (k := 1) (by decide +kernel) rfl) <|
  am_c (ok_iald (by decide +kernel)) <|
  am_c (ok_iadd (by decide +kernel)) <|
  am_c (ok_icmpeq (off := 18) (by decide +kernel) (by decide +kernel)) <|
  am_c (ok_aload_n (k := 0) (by decide +kernel) rfl) <|
  am_c (ok_iconst (z := 4) (by decide +kernel) (by decide +kernel)) <|
  am_c (ok_callV (by decide +kernel) (by decide +kernel) kw_497 kw_498 kw_499 kw_496 (by decide +kernel) (by decide +kernel)) <|
  am_c (ok_iconst (z := -1) (by decide +kernel) (by decide +kernel)) <|
  am_c (ok_icmpeq (off := 7) (by decide +kernel) (by decide +kernel)) <|
  am_c (ok_iconst (z := 1) (by decide +kernel) (by decide +kernel)) <|
  am_c (ok_goto (off := 4) (by decide +kernel) (by decide +kernel)) <|
  am_c (ok_iconst (z := 0) (by decide +kernel) (by decide +kernel)) <|
  am_c (ok_zret (by decide +kernel) rfl) <|
  am_c (ok_aload_n (k := 0) (by decide +kernel) rfl) <|
  am_n
def k_c136_3 : List (Nat × am_A) := [(122, ac_get 2 6 28 125), (125, ac_iload 1 126), (126, ac_dup2 127), (127, ac_iald 0 128), (128, ac_push (.int 1) 129), (129, ac_ii (fun x y => x + y) 130), (130, ac_iast 131), (131, ac_push (.int 16384) 134), (134, ac_aload 0 135), (135, ac_get 2 6 28 138), (138, ac_iload 1 139), (139, ac_iald 0 140), (140, ac_ii (fun x y => x + y) 141), (141, ac_istore 2 142), (142, ac_goto 168), (145, ac_iload 2 146), (146, ac_push (.int 2) 147), (147, ac_callS 110 2 150), (150, ac_if1 (fun x => x = 0) 168 153), (153, ac_aload 0 154), (154, ac_push (.int 1) 155), (155, ac_callV 6 98 2 158 am_nohd), (158, ac_push (.int (-1)) 159), (159, ac_if2 (fun x y => x = y) 166 162)]
theorem k_p136_3 : ∀ q ∈ k_c136_3, am_Ok k_nm D cA B0 sb H00 (k_Th B0 sb H00) prog_8_method_47_code "TokenMouthModel" "readText" [] (some .boolean) q.1 q.2 :=
  am_c (ok_get (by decide +kernel) (by decide +kernel) rfl (by decide +kernel) kw_426) <|
  am_c (ok_iload_n (k := 1) (by decide +kernel) rfl) <|
  am_c (ok_dup2 (by decide +kernel)) <|
  am_c (ok_iald (by decide +kernel)) <|
  am_c (ok_iconst (z := 1) (by decide +kernel) (by decide +kernel)) <|
  am_c (ok_iadd (by decide +kernel)) <|
  am_c (ok_iast (by decide +kernel)) <|
  am_c (ok_sipush (z := 16384) (by decide +kernel) (by decide +kernel)) <|
  am_c (ok_aload_n (k := 0) (by decide +kernel) rfl) <|
  am_c (ok_get (by decide +kernel) (by decide +kernel) rfl (by decide +kernel) kw_426) <|
  am_c (ok_iload_n (k := 1) (by decide +kernel) rfl) <|
  am_c (ok_iald (by decide +kernel)) <|
  am_c (ok_iadd (by decide +kernel)) <|
  am_c (ok_istore_n (k := 2) (by decide +kernel) rfl) <|
  am_c (ok_goto (off := 26) (by decide +kernel) (by decide +kernel)) <|
  am_c (ok_iload_n (k := 2) (by decide +kernel) rfl) <|
  am_c (ok_iconst (z := 2) (by decide +kernel) (by decide +kernel)) <|
  am_c (ok_callS (by decide +kernel) kw_534 kw_535 kw_487 kw_533 (by decide +kernel) (by decide +kernel)) <|
  am_c (ok_ifeq (off := 18) (by decide +kernel) (by decide +kernel)) <|
  am_c (ok_aload_n (k := 0) (by decide +kernel) rfl) <|
  am_c (ok_iconst (z := 1) (by decide +kernel) (by decide +kernel)) <|
  am_c (ok_callV (by decide +kernel) (by decide +kernel) kw_497 kw_498 kw_499 kw_496 (by decide +kernel) (by decide +kernel)) <|
  am_c (ok_iconst (z := -1) (by decide +kernel) (by decide +kernel)) <|
  am_c (ok_icmpeq (off := 7) (by decide +kernel) (by decide +kernel)) <|
  am_n
def k_c136_4 : List (Nat × am_A) := [(162, ac_push (.int 1) 163), (163, ac_goto 167), (166, ac_push (.int 0) 167), (167, ac_zret), (168, ac_aload 0 169), (169, ac_get 2 6 24 172), (172, ac_iload 1 173), (173, ac_iald 0 174), (174, ac_push (.int 12) 176), (176, ac_if2 (fun x y => ¬ x = y) 194 179), (179, ac_aload 0 180), (180, ac_push (.int 5) 181), (181, ac_callV 6 98 2 184 am_nohd), (184, ac_push (.int (-1)) 185), (185, ac_if2 (fun x y => x = y) 192 188), (188, ac_push (.int 1) 189), (189, ac_goto 193), (192, ac_push (.int 0) 193), (193, ac_zret), (194, ac_aload 0 195), (195, ac_get 2 6 25 198), (198, ac_push (.int 13) 200), (200, ac_iload 1 201), (201, ac_ii (fun x y => x * y) 202)]
theorem k_p136_4 : ∀ q ∈ k_c136_4, am_Ok k_nm D cA B0 sb H00 (k_Th B0 sb H00) prog_8_method_47_code "TokenMouthModel" "readText" [] (some .boolean) q.1 q.2 :=
  am_c (ok_iconst (z := 1) (by decide +kernel) (by decide +kernel)) <|
  am_c (ok_goto (off := 4) (by decide +kernel) (by decide +kernel)) <|
  am_c (ok_iconst (z := 0) (by decide +kernel) (by decide +kernel)) <|
  am_c (ok_zret (by decide +kernel) rfl) <|
  am_c (ok_aload_n (k := 0) (by decide +kernel) rfl) <|
  am_c (ok_get (by decide +kernel) (by decide +kernel) rfl (by decide +kernel) kw_422) <|
  am_c (ok_iload_n (k := 1) (by decide +kernel) rfl) <|
  am_c (ok_iald (by decide +kernel)) <|
  am_c (ok_bipush (z := 12) (by decide +kernel) (by decide +kernel)) <|
  am_c (ok_icmpne (off := 18) (by decide +kernel) (by decide +kernel)) <|
  am_c (ok_aload_n (k := 0) (by decide +kernel) rfl) <|
  am_c (ok_iconst (z := 5) (by decide +kernel) (by decide +kernel)) <|
  am_c (ok_callV (by decide +kernel) (by decide +kernel) kw_497 kw_498 kw_499 kw_496 (by decide +kernel) (by decide +kernel)) <|
  am_c (ok_iconst (z := -1) (by decide +kernel) (by decide +kernel)) <|
  am_c (ok_icmpeq (off := 7) (by decide +kernel) (by decide +kernel)) <|
  am_c (ok_iconst (z := 1) (by decide +kernel) (by decide +kernel)) <|
  am_c (ok_goto (off := 4) (by decide +kernel) (by decide +kernel)) <|
  am_c (ok_iconst (z := 0) (by decide +kernel) (by decide +kernel)) <|
  am_c (ok_zret (by decide +kernel) rfl) <|
  am_c (ok_aload_n (k := 0) (by decide +kernel) rfl) <|
  am_c (ok_get (by decide +kernel) (by decide +kernel) rfl (by decide +kernel) kw_423) <|
  am_c (ok_bipush (z := 13) (by decide +kernel) (by decide +kernel)) <|
  am_c (ok_iload_n (k := 1) (by decide +kernel) rfl) <|
  am_c (ok_imul (by decide +kernel)) <|
  am_n
def k_c136_5 : List (Nat × am_A) := [(202, ac_aload 0 203), (203, ac_get 2 6 24 206), (206, ac_iload 1 207), (207, ac_iald 0 208), (208, ac_ii (fun x y => x + y) 209), (209, ac_iload 2 210), (210, ac_iast 211), (211, ac_aload 0 212), (212, ac_get 2 6 24 215), (215, ac_iload 1 216), (216, ac_dup2 217), (217, ac_iald 0 218), (218, ac_push (.int 1) 219), (219, ac_ii (fun x y => x + y) 220), (220, ac_iast 221), (221, ac_goto 19)]
theorem k_p136_5 : ∀ q ∈ k_c136_5, am_Ok k_nm D cA B0 sb H00 (k_Th B0 sb H00) prog_8_method_47_code "TokenMouthModel" "readText" [] (some .boolean) q.1 q.2 :=
  am_c (ok_aload_n (k := 0) (by decide +kernel) rfl) <|
  am_c (ok_get (by decide +kernel) (by decide +kernel) rfl (by decide +kernel) kw_422) <|
  am_c (ok_iload_n (k := 1) (by decide +kernel) rfl) <|
  am_c (ok_iald (by decide +kernel)) <|
  am_c (ok_iadd (by decide +kernel)) <|
  am_c (ok_iload_n (k := 2) (by decide +kernel) rfl) <|
  am_c (ok_iast (by decide +kernel)) <|
  am_c (ok_aload_n (k := 0) (by decide +kernel) rfl) <|
  am_c (ok_get (by decide +kernel) (by decide +kernel) rfl (by decide +kernel) kw_422) <|
  am_c (ok_iload_n (k := 1) (by decide +kernel) rfl) <|
  am_c (ok_dup2 (by decide +kernel)) <|
  am_c (ok_iald (by decide +kernel)) <|
  am_c (ok_iconst (z := 1) (by decide +kernel) (by decide +kernel)) <|
  am_c (ok_iadd (by decide +kernel)) <|
  am_c (ok_iast (by decide +kernel)) <|
  am_c (ok_goto (off := -202) (by decide +kernel) (by decide +kernel)) <|
  am_n
def k_t136 : List (Nat × List (Nat × am_A)) := [(37, k_c136_0), (80, k_c136_1), (121, k_c136_2), (159, k_c136_3), (201, k_c136_4), (221, k_c136_5)]
theorem k_o136 : ∀ c ∈ k_t136, ∀ q ∈ c.2, am_Ok k_nm D cA B0 sb H00 (k_Th B0 sb H00) prog_8_method_47_code "TokenMouthModel" "readText" [] (some .boolean) q.1 q.2 := am_cc (P := fun pc a => am_Ok k_nm D cA B0 sb H00 (k_Th B0 sb H00) prog_8_method_47_code "TokenMouthModel" "readText" [] (some .boolean) pc a) k_p136_0 <| am_cc (P := fun pc a => am_Ok k_nm D cA B0 sb H00 (k_Th B0 sb H00) prog_8_method_47_code "TokenMouthModel" "readText" [] (some .boolean) pc a) k_p136_1 <| am_cc (P := fun pc a => am_Ok k_nm D cA B0 sb H00 (k_Th B0 sb H00) prog_8_method_47_code "TokenMouthModel" "readText" [] (some .boolean) pc a) k_p136_2 <| am_cc (P := fun pc a => am_Ok k_nm D cA B0 sb H00 (k_Th B0 sb H00) prog_8_method_47_code "TokenMouthModel" "readText" [] (some .boolean) pc a) k_p136_3 <| am_cc (P := fun pc a => am_Ok k_nm D cA B0 sb H00 (k_Th B0 sb H00) prog_8_method_47_code "TokenMouthModel" "readText" [] (some .boolean) pc a) k_p136_4 <| am_cc (P := fun pc a => am_Ok k_nm D cA B0 sb H00 (k_Th B0 sb H00) prog_8_method_47_code "TokenMouthModel" "readText" [] (some .boolean) pc a) k_p136_5 <| am_cn0
-- 137: TokenMouthModel.readBody(Z)Z
def k_c137_0 : List (Nat × am_A) := [(0, ac_aload 0 1), (1, ac_get 0 6 23 4), (4, ac_istore 2 5), (5, ac_aload 0 6), (6, ac_get 2 6 26 9), (9, ac_iload 2 10), (10, ac_push (.int 0) 11), (11, ac_iast 12), (12, ac_push (.int 0) 13), (13, ac_istore 3 14), (14, ac_iload 1 15), (15, ac_if1 (fun x => x = 0) 25 18), (18, ac_aload 0 19), (19, ac_callV 6 134 1 22 am_nohd), (22, ac_goto 29), (25, ac_aload 0 26), (26, ac_callV 6 105 1 29 am_nohd), (29, ac_callS 109 1 32), (32, ac_istore 4 34), (34, ac_iload 4 36), (36, ac_push (.int (-1)) 37), (37, ac_if2 (fun x y => x = y) 53 40), (40, ac_iload 4 42), (42, ac_push (.int 2) 43)]
theorem k_p137_0 : ∀ q ∈ k_c137_0, am_Ok k_nm D cA B0 sb H00 (k_Th B0 sb H00) prog_8_method_48_code "TokenMouthModel" "readBody" [] (some .boolean) q.1 q.2 :=
  am_c (ok_aload_n (k := 0) (by decide +kernel) rfl) <|
  am_c (ok_get (by decide +kernel) (by decide +kernel) rfl (by decide +kernel) kw_480) <|
  am_c (ok_istore_n (k := 2) (by decide +kernel) rfl) <|
  am_c (ok_aload_n (k := 0) (by decide +kernel) rfl) <|
  am_c (ok_get (by decide +kernel) (by decide +kernel) rfl (by decide +kernel) kw_424) <|
  am_c (ok_iload_n (k := 2) (by decide +kernel) rfl) <|
  am_c (ok_iconst (z := 0) (by decide +kernel) (by decide +kernel)) <|
  am_c (ok_iast (by decide +kernel)) <|
  am_c (ok_iconst (z := 0) (by decide +kernel) (by decide +kernel)) <|
  am_c (ok_istore_n (k := 3) (by decide +kernel) rfl) <|
  am_c (ok_iload_n (k := 1) (by decide +kernel) rfl) <|
  am_c (ok_ifeq (off := 10) (by decide +kernel) (by decide +kernel)) <|
  am_c (ok_aload_n (k := 0) (by decide +kernel) rfl) <|
  am_c (ok_callV (by decide +kernel) (by decide +kernel) kw_629 kw_630 kw_631 kw_628 (by decide +kernel) (by decide +kernel)) <|
  am_c (ok_goto (off := 7) (by decide +kernel) (by decide +kernel)) <|
  am_c (ok_aload_n (k := 0) (by decide +kernel) rfl) <|
  am_c (ok_callV (by decide +kernel) (by decide +kernel) kw_549 kw_550 kw_551 kw_548 (by decide +kernel) (by decide +kernel)) <|
  am_c (ok_callS (by decide +kernel) kw_531 kw_532 kw_487 kw_530 (by decide +kernel) (by decide +kernel)) <|
  am_c (ok_istore (by decide +kernel)) <|
  am_c (ok_iload (by decide +kernel)) <|
  am_c (ok_iconst (z := -1) (by decide +kernel) (by decide +kernel)) <|
  am_c (ok_icmpeq (off := 16) (by decide +kernel) (by decide +kernel)) <|
  am_c (ok_iload (by decide +kernel)) <|
  am_c (ok_iconst (z := 2) (by decide +kernel) (by decide +kernel)) <|
  am_n
def k_c137_1 : List (Nat × am_A) := [(43, ac_callS 110 2 46), (46, ac_if1 (fun x => x = 0) 65 49), (49, ac_iload 3 50), (50, ac_if1 (fun x => ¬ x = 0) 65 53), (53, ac_iload 4 55), (55, ac_push (.int (-1)) 56), (56, ac_if2 (fun x y => x = y) 63 59), (59, ac_push (.int 1) 60), (60, ac_goto 64), (63, ac_push (.int 0) 64), (64, ac_zret), (65, ac_iload 4 67), (67, ac_push (.int 6) 69), (69, ac_callS 110 2 72), (72, ac_if1 (fun x => x = 0) 194 75), (75, ac_iload 1 76), (76, ac_if1 (fun x => x = 0) 86 79), (79, ac_aload 0 80), (80, ac_callV 6 134 1 83 am_nohd), (83, ac_goto 90), (86, ac_aload 0 87), (87, ac_callV 6 105 1 90 am_nohd), (90, ac_callS 109 1 93), (93, ac_istore 5 95)]
theorem k_p137_1 : ∀ q ∈ k_c137_1, am_Ok k_nm D cA B0 sb H00 (k_Th B0 sb H00) prog_8_method_48_code "TokenMouthModel" "readBody" [] (some .boolean) q.1 q.2 :=
  am_c (ok_callS (by decide +kernel) kw_534 kw_535 kw_487 kw_533 (by decide +kernel) (by decide +kernel)) <|
  am_c (ok_ifeq (off := 19) (by decide +kernel) (by decide +kernel)) <|
  am_c (ok_iload_n (k := 3) (by decide +kernel) rfl) <|
  am_c (ok_ifne (off := 15) (by decide +kernel) (by decide +kernel)) <|
  am_c (ok_iload (by decide +kernel)) <|
  am_c (ok_iconst (z := -1) (by decide +kernel) (by decide +kernel)) <|
  am_c (ok_icmpeq (off := 7) (by decide +kernel) (by decide +kernel)) <|
  am_c (ok_iconst (z := 1) (by decide +kernel) (by decide +kernel)) <|
  am_c (ok_goto (off := 4) (by decide +kernel) (by decide +kernel)) <|
  am_c (ok_iconst (z := 0) (by decide +kernel) (by decide +kernel)) <|
  am_c (ok_zret (by decide +kernel) rfl) <|
  am_c (ok_iload (by decide +kernel)) <|
  am_c (ok_bipush (z := 6) (by decide +kernel) (by decide +kernel)) <|
  am_c (ok_callS (by decide +kernel) kw_534 kw_535 kw_487 kw_533 (by decide +kernel) (by decide +kernel)) <|
  am_c (ok_ifeq (off := 122) (by decide +kernel) (by decide +kernel)) <|
  am_c (ok_iload_n (k := 1) (by decide +kernel) rfl) <|
  am_c (ok_ifeq (off := 10) (by decide +kernel) (by decide +kernel)) <|
  am_c (ok_aload_n (k := 0) (by decide +kernel) rfl) <|
  am_c (ok_callV (by decide +kernel) (by decide +kernel) kw_629 kw_630 kw_631 kw_628 (by decide +kernel) (by decide +kernel)) <|
  am_c (ok_goto (off := 7) (by decide +kernel) (by decide +kernel)) <|
  am_c (ok_aload_n (k := 0) (by decide +kernel) rfl) <|
  am_c (ok_callV (by decide +kernel) (by decide +kernel) kw_549 kw_550 kw_551 kw_548 (by decide +kernel) (by decide +kernel)) <|
  am_c (ok_callS (by decide +kernel) kw_531 kw_532 kw_487 kw_530 (by decide +kernel) (by decide +kernel)) <|
  am_c (ok_istore (by decide +kernel)) <|
  am_n
def k_c137_2 : List (Nat × am_A) := [(95, ac_iload 5 97), (97, ac_push (.int (-1)) 98), (98, ac_if2 (fun x y => ¬ x = y) 103 101), (101, ac_push (.int 0) 102), (102, ac_zret), (103, ac_iload 5 105), (105, ac_push (.int 4096) 108), (108, ac_if2 (fun x y => y ≤ x) 123 111), (111, ac_iload 5 113), (113, ac_push (.int 255) 116), (116, ac_ii (fun x y => x &&& y) 117), (117, ac_push (.int 48) 119), (119, ac_ii (fun x y => x - y) 120), (120, ac_goto 124), (123, ac_push (.int 0) 124), (124, ac_istore 6 126), (126, ac_iload 5 128), (128, ac_push (.int 6) 130), (130, ac_callS 110 2 133), (133, ac_if1 (fun x => ¬ x = 0) 168 136), (136, ac_iload 6 138), (138, ac_push (.int 1) 139), (139, ac_if2 (fun x y => x < y) 153 142), (142, ac_iload 6 144)]
theorem k_p137_2 : ∀ q ∈ k_c137_2, am_Ok k_nm D cA B0 sb H00 (k_Th B0 sb H00) prog_8_method_48_code "TokenMouthModel" "readBody" [] (some .boolean) q.1 q.2 :=
  am_c (ok_iload (by decide +kernel)) <|
  am_c (ok_iconst (z := -1) (by decide +kernel) (by decide +kernel)) <|
  am_c (ok_icmpne (off := 5) (by decide +kernel) (by decide +kernel)) <|
  am_c (ok_iconst (z := 0) (by decide +kernel) (by decide +kernel)) <|
  am_c (ok_zret (by decide +kernel) rfl) <|
  am_c (ok_iload (by decide +kernel)) <|
  am_c (ok_sipush (z := 4096) (by decide +kernel) (by decide +kernel)) <|
  am_c (ok_icmpge (off := 15) (by decide +kernel) (by decide +kernel)) <|
  am_c (ok_iload (by decide +kernel)) <|
  am_c (ok_sipush (z := 255) (by decide +kernel) (by decide +kernel)) <|
  am_c (ok_iand (by decide +kernel)) <|
  am_c (ok_bipush (z := 48) (by decide +kernel) (by decide +kernel)) <|
  am_c (ok_isub (by decide +kernel)) <|
  am_c (ok_goto (off := 4) (by decide +kernel) (by decide +kernel)) <|
  am_c (ok_iconst (z := 0) (by decide +kernel) (by decide +kernel)) <|
  am_c (ok_istore (by decide +kernel)) <|
  am_c (ok_iload (by decide +kernel)) <|
  am_c (ok_bipush (z := 6) (by decide +kernel) (by decide +kernel)) <|
  am_c (ok_callS (by decide +kernel) kw_534 kw_535 kw_487 kw_533 (by decide +kernel) (by decide +kernel)) <|
  am_c (ok_ifne (off := 35) (by decide +kernel) (by decide +kernel)) <|
  am_c (ok_iload (by decide +kernel)) <|
  am_c (ok_iconst (z := 1) (by decide +kernel) (by decide +kernel)) <|
  am_c (ok_icmplt (off := 14) (by decide +kernel) (by decide +kernel)) <|
  am_c (ok_iload (by decide +kernel)) <|
  am_n
def k_c137_3 : List (Nat × am_A) := [(144, ac_aload 0 145), (145, ac_get 2 6 28 148), (148, ac_iload 2 149), (149, ac_iald 0 150), (150, ac_if2 (fun x y => x ≤ y) 168 153), (153, ac_aload 0 154), (154, ac_push (.int 4) 155), (155, ac_callV 6 98 2 158 am_nohd), (158, ac_push (.int (-1)) 159), (159, ac_if2 (fun x y => x = y) 166 162), (162, ac_push (.int 1) 163), (163, ac_goto 167), (166, ac_push (.int 0) 167), (167, ac_zret), (168, ac_iload 5 170), (170, ac_push (.int 6) 172), (172, ac_callS 110 2 175), (175, ac_if1 (fun x => x = 0) 183 178), (178, ac_iload 5 180), (180, ac_goto 189), (183, ac_push (.int 16384) 186), (186, ac_iload 6 188), (188, ac_ii (fun x y => x + y) 189), (189, ac_istore 4 191)]
theorem k_p137_3 : ∀ q ∈ k_c137_3, am_Ok k_nm D cA B0 sb H00 (k_Th B0 sb H00) prog_8_method_48_code "TokenMouthModel" "readBody" [] (some .boolean) q.1 q.2 :=
  am_c (ok_aload_n (k := 0) (by decide +kernel) rfl) <|
  am_c (ok_get (by decide +kernel) (by decide +kernel) rfl (by decide +kernel) kw_426) <|
  am_c (ok_iload_n (k := 2) (by decide +kernel) rfl) <|
  am_c (ok_iald (by decide +kernel)) <|
  am_c (ok_icmple (off := 18) (by decide +kernel) (by decide +kernel)) <|
  am_c (ok_aload_n (k := 0) (by decide +kernel) rfl) <|
  am_c (ok_iconst (z := 4) (by decide +kernel) (by decide +kernel)) <|
  am_c (ok_callV (by decide +kernel) (by decide +kernel) kw_497 kw_498 kw_499 kw_496 (by decide +kernel) (by decide +kernel)) <|
  am_c (ok_iconst (z := -1) (by decide +kernel) (by decide +kernel)) <|
  am_c (ok_icmpeq (off := 7) (by decide +kernel) (by decide +kernel)) <|
  am_c (ok_iconst (z := 1) (by decide +kernel) (by decide +kernel)) <|
  am_c (ok_goto (off := 4) (by decide +kernel) (by decide +kernel)) <|
  am_c (ok_iconst (z := 0) (by decide +kernel) (by decide +kernel)) <|
  am_c (ok_zret (by decide +kernel) rfl) <|
  am_c (ok_iload (by decide +kernel)) <|
  am_c (ok_bipush (z := 6) (by decide +kernel) (by decide +kernel)) <|
  am_c (ok_callS (by decide +kernel) kw_534 kw_535 kw_487 kw_533 (by decide +kernel) (by decide +kernel)) <|
  am_c (ok_ifeq (off := 8) (by decide +kernel) (by decide +kernel)) <|
  am_c (ok_iload (by decide +kernel)) <|
  am_c (ok_goto (off := 9) (by decide +kernel) (by decide +kernel)) <|
  am_c (ok_sipush (z := 16384) (by decide +kernel) (by decide +kernel)) <|
  am_c (ok_iload (by decide +kernel)) <|
  am_c (ok_iadd (by decide +kernel)) <|
  am_c (ok_istore (by decide +kernel)) <|
  am_n
def k_c137_4 : List (Nat × am_A) := [(191, ac_goto 224), (194, ac_iload 3 195), (195, ac_iload 4 197), (197, ac_push (.int 1) 198), (198, ac_callS 110 2 201), (201, ac_if1 (fun x => x = 0) 208 204), (204, ac_push (.int 1) 205), (205, ac_goto 222), (208, ac_iload 4 210), (210, ac_push (.int 2) 211), (211, ac_callS 110 2 214), (214, ac_if1 (fun x => x = 0) 221 217), (217, ac_push (.int (-1)) 218), (218, ac_goto 222), (221, ac_push (.int 0) 222), (222, ac_ii (fun x y => x + y) 223), (223, ac_istore 3 224), (224, ac_aload 0 225), (225, ac_get 2 6 26 228), (228, ac_iload 2 229), (229, ac_iald 0 230), (230, ac_push (.int 40) 232), (232, ac_if2 (fun x y => ¬ x = y) 250 235), (235, ac_aload 0 236)]
theorem k_p137_4 : ∀ q ∈ k_c137_4, am_Ok k_nm D cA B0 sb H00 (k_Th B0 sb H00) prog_8_method_48_code "TokenMouthModel" "readBody" [] (some .boolean) q.1 q.2 :=
  am_c (ok_goto (off := 33) (by decide +kernel) (by decide +kernel)) <|
  am_c (ok_iload_n (k := 3) (by decide +kernel) rfl) <|
  am_c (ok_iload (by decide +kernel)) <|
  am_c (ok_iconst (z := 1) (by decide +kernel) (by decide +kernel)) <|
  am_c (ok_callS (by decide +kernel) kw_534 kw_535 kw_487 kw_533 (by decide +kernel) (by decide +kernel)) <|
  am_c (ok_ifeq (off := 7) (by decide +kernel) (by decide +kernel)) <|
  am_c (ok_iconst (z := 1) (by decide +kernel) (by decide +kernel)) <|
  am_c (ok_goto (off := 17) (by decide +kernel) (by decide +kernel)) <|
  am_c (ok_iload (by decide +kernel)) <|
  am_c (ok_iconst (z := 2) (by decide +kernel) (by decide +kernel)) <|
  am_c (ok_callS (by decide +kernel) kw_534 kw_535 kw_487 kw_533 (by decide +kernel) (by decide +kernel)) <|
  am_c (ok_ifeq (off := 7) (by decide +kernel) (by decide +kernel)) <|
  am_c (ok_iconst (z := -1) (by decide +kernel) (by decide +kernel)) <|
  am_c (ok_goto (off := 4) (by decide +kernel) (by decide +kernel)) <|
  am_c (ok_iconst (z := 0) (by decide +kernel) (by decide +kernel)) <|
  am_c (ok_iadd (by decide +kernel)) <|
  am_c (ok_istore_n (k := 3) (by decide +kernel) rfl) <|
  am_c (ok_aload_n (k := 0) (by decide +kernel) rfl) <|
  am_c (ok_get (by decide +kernel) (by decide +kernel) rfl (by decide +kernel) kw_424) <|
  am_c (ok_iload_n (k := 2) (by decide +kernel) rfl) <|
  am_c (ok_iald (by decide +kernel)) <|
  am_c (ok_bipush (z := 40) (by decide +kernel) (by decide +kernel)) <|
  am_c (ok_icmpne (off := 18) (by decide +kernel) (by decide +kernel)) <|
  am_c (ok_aload_n (k := 0) (by decide +kernel) rfl) <|
  am_n
def k_c137_5 : List (Nat × am_A) := [(236, ac_push (.int 5) 237), (237, ac_callV 6 98 2 240 am_nohd), (240, ac_push (.int (-1)) 241), (241, ac_if2 (fun x y => x = y) 248 244), (244, ac_push (.int 1) 245), (245, ac_goto 249), (248, ac_push (.int 0) 249), (249, ac_zret), (250, ac_aload 0 251), (251, ac_get 2 6 27 254), (254, ac_push (.int 41) 256), (256, ac_iload 2 257), (257, ac_ii (fun x y => x * y) 258), (258, ac_aload 0 259), (259, ac_get 2 6 26 262), (262, ac_iload 2 263), (263, ac_iald 0 264), (264, ac_ii (fun x y => x + y) 265), (265, ac_iload 4 267), (267, ac_iast 268), (268, ac_aload 0 269), (269, ac_get 2 6 26 272), (272, ac_iload 2 273), (273, ac_dup2 274)]
theorem k_p137_5 : ∀ q ∈ k_c137_5, am_Ok k_nm D cA B0 sb H00 (k_Th B0 sb H00) prog_8_method_48_code "TokenMouthModel" "readBody" [] (some .boolean) q.1 q.2 :=
  am_c (ok_iconst (z := 5) (by decide +kernel) (by decide +kernel)) <|
  am_c (ok_callV (by decide +kernel) (by decide +kernel) kw_497 kw_498 kw_499 kw_496 (by decide +kernel) (by decide +kernel)) <|
  am_c (ok_iconst (z := -1) (by decide +kernel) (by decide +kernel)) <|
  am_c (ok_icmpeq (off := 7) (by decide +kernel) (by decide +kernel)) <|
  am_c (ok_iconst (z := 1) (by decide +kernel) (by decide +kernel)) <|
  am_c (ok_goto (off := 4) (by decide +kernel) (by decide +kernel)) <|
  am_c (ok_iconst (z := 0) (by decide +kernel) (by decide +kernel)) <|
  am_c (ok_zret (by decide +kernel) rfl) <|
  am_c (ok_aload_n (k := 0) (by decide +kernel) rfl) <|
  am_c (ok_get (by decide +kernel) (by decide +kernel) rfl (by decide +kernel) kw_425) <|
  am_c (ok_bipush (z := 41) (by decide +kernel) (by decide +kernel)) <|
  am_c (ok_iload_n (k := 2) (by decide +kernel) rfl) <|
  am_c (ok_imul (by decide +kernel)) <|
  am_c (ok_aload_n (k := 0) (by decide +kernel) rfl) <|
  am_c (ok_get (by decide +kernel) (by decide +kernel) rfl (by decide +kernel) kw_424) <|
  am_c (ok_iload_n (k := 2) (by decide +kernel) rfl) <|
  am_c (ok_iald (by decide +kernel)) <|
  am_c (ok_iadd (by decide +kernel)) <|
  am_c (ok_iload (by decide +kernel)) <|
  am_c (ok_iast (by decide +kernel)) <|
  am_c (ok_aload_n (k := 0) (by decide +kernel) rfl) <|
  am_c (ok_get (by decide +kernel) (by decide +kernel) rfl (by decide +kernel) kw_424) <|
  am_c (ok_iload_n (k := 2) (by decide +kernel) rfl) <|
  am_c (ok_dup2 (by decide +kernel)) <|
  am_n
def k_c137_6 : List (Nat × am_A) := [(274, ac_iald 0 275), (275, ac_push (.int 1) 276), (276, ac_ii (fun x y => x + y) 277), (277, ac_iast 278), (278, ac_goto 14)]
theorem k_p137_6 : ∀ q ∈ k_c137_6, am_Ok k_nm D cA B0 sb H00 (k_Th B0 sb H00) prog_8_method_48_code "TokenMouthModel" "readBody" [] (some .boolean) q.1 q.2 :=
  am_c (ok_iald (by decide +kernel)) <|
  am_c (ok_iconst (z := 1) (by decide +kernel) (by decide +kernel)) <|
  am_c (ok_iadd (by decide +kernel)) <|
  am_c (ok_iast (by decide +kernel)) <|
  am_c (ok_goto (off := -264) (by decide +kernel) (by decide +kernel)) <|
  am_n
def k_t137 : List (Nat × List (Nat × am_A)) := [(42, k_c137_0), (93, k_c137_1), (142, k_c137_2), (189, k_c137_3), (235, k_c137_4), (273, k_c137_5), (278, k_c137_6)]
theorem k_o137 : ∀ c ∈ k_t137, ∀ q ∈ c.2, am_Ok k_nm D cA B0 sb H00 (k_Th B0 sb H00) prog_8_method_48_code "TokenMouthModel" "readBody" [] (some .boolean) q.1 q.2 := am_cc (P := fun pc a => am_Ok k_nm D cA B0 sb H00 (k_Th B0 sb H00) prog_8_method_48_code "TokenMouthModel" "readBody" [] (some .boolean) pc a) k_p137_0 <| am_cc (P := fun pc a => am_Ok k_nm D cA B0 sb H00 (k_Th B0 sb H00) prog_8_method_48_code "TokenMouthModel" "readBody" [] (some .boolean) pc a) k_p137_1 <| am_cc (P := fun pc a => am_Ok k_nm D cA B0 sb H00 (k_Th B0 sb H00) prog_8_method_48_code "TokenMouthModel" "readBody" [] (some .boolean) pc a) k_p137_2 <| am_cc (P := fun pc a => am_Ok k_nm D cA B0 sb H00 (k_Th B0 sb H00) prog_8_method_48_code "TokenMouthModel" "readBody" [] (some .boolean) pc a) k_p137_3 <| am_cc (P := fun pc a => am_Ok k_nm D cA B0 sb H00 (k_Th B0 sb H00) prog_8_method_48_code "TokenMouthModel" "readBody" [] (some .boolean) pc a) k_p137_4 <| am_cc (P := fun pc a => am_Ok k_nm D cA B0 sb H00 (k_Th B0 sb H00) prog_8_method_48_code "TokenMouthModel" "readBody" [] (some .boolean) pc a) k_p137_5 <| am_cc (P := fun pc a => am_Ok k_nm D cA B0 sb H00 (k_Th B0 sb H00) prog_8_method_48_code "TokenMouthModel" "readBody" [] (some .boolean) pc a) k_p137_6 <| am_cn0
-- 138: TokenMouthModel.define(I)V
def k_c138_0 : List (Nat × am_A) := [(0, ac_aload 0 1), (1, ac_callV 6 135 1 4 am_nohd), (4, ac_istore 2 5), (5, ac_iload 2 6), (6, ac_push (.int (-1)) 7), (7, ac_if2 (fun x y => x = y) 34 10), (10, ac_aload 0 11), (11, ac_callV 6 136 1 14 am_nohd), (14, ac_if1 (fun x => x = 0) 34 17), (17, ac_aload 0 18), (18, ac_iload 1 19), (19, ac_push (.int 5) 20), (20, ac_if2 (fun x y => ¬ x = y) 27 23), (23, ac_push (.int 1) 24), (24, ac_goto 28), (27, ac_push (.int 0) 28), (28, ac_callV 6 137 2 31 am_nohd), (31, ac_if1 (fun x => ¬ x = 0) 35 34), (34, ac_ret), (35, ac_aload 0 36), (36, ac_get 0 6 23 39), (39, ac_push (.int 60) 41), (41, ac_if2 (fun x y => ¬ x = y) 51 44), (44, ac_aload 0 45)]
theorem k_p138_0 : ∀ q ∈ k_c138_0, am_Ok k_nm D cA B0 sb H00 (k_Th B0 sb H00) prog_8_method_49_code "TokenMouthModel" "define" [] none q.1 q.2 :=
  am_c (ok_aload_n (k := 0) (by decide +kernel) rfl) <|
  am_c (ok_callV (by decide +kernel) (by decide +kernel) kw_633 kw_634 kw_635 kw_632 (by decide +kernel) (by decide +kernel)) <|
  am_c (ok_istore_n (k := 2) (by decide +kernel) rfl) <|
  am_c (ok_iload_n (k := 2) (by decide +kernel) rfl) <|
  am_c (ok_iconst (z := -1) (by decide +kernel) (by decide +kernel)) <|
  am_c (ok_icmpeq (off := 27) (by decide +kernel) (by decide +kernel)) <|
  am_c (ok_aload_n (k := 0) (by decide +kernel) rfl) <|
  am_c (ok_callV (by decide +kernel) (by decide +kernel) kw_637 kw_638 kw_639 kw_636 (by decide +kernel) (by decide +kernel)) <|
  am_c (ok_ifeq (off := 20) (by decide +kernel) (by decide +kernel)) <|
  am_c (ok_aload_n (k := 0) (by decide +kernel) rfl) <|
  am_c (ok_iload_n (k := 1) (by decide +kernel) rfl) <|
  am_c (ok_iconst (z := 5) (by decide +kernel) (by decide +kernel)) <|
  am_c (ok_icmpne (off := 7) (by decide +kernel) (by decide +kernel)) <|
  am_c (ok_iconst (z := 1) (by decide +kernel) (by decide +kernel)) <|
  am_c (ok_goto (off := 4) (by decide +kernel) (by decide +kernel)) <|
  am_c (ok_iconst (z := 0) (by decide +kernel) (by decide +kernel)) <|
  am_c (ok_callV (by decide +kernel) (by decide +kernel) kw_641 kw_642 kw_643 kw_640 (by decide +kernel) (by decide +kernel)) <|
  am_c (ok_ifne (off := 4) (by decide +kernel) (by decide +kernel)) <|
  am_c (ok_ret (by decide +kernel) rfl) <|
  am_c (ok_aload_n (k := 0) (by decide +kernel) rfl) <|
  am_c (ok_get (by decide +kernel) (by decide +kernel) rfl (by decide +kernel) kw_480) <|
  am_c (ok_bipush (z := 60) (by decide +kernel) (by decide +kernel)) <|
  am_c (ok_icmpne (off := 10) (by decide +kernel) (by decide +kernel)) <|
  am_c (ok_aload_n (k := 0) (by decide +kernel) rfl) <|
  am_n
def k_c138_1 : List (Nat × am_A) := [(45, ac_push (.int 5) 46), (46, ac_callV 6 98 2 49 am_nohd), (49, ac_istore 3 50), (50, ac_ret), (51, ac_push (.int 6000) 54), (54, ac_aload 0 55), (55, ac_get 0 6 23 58), (58, ac_ii (fun x y => x + y) 59), (59, ac_istore 3 60), (60, ac_aload 0 61), (61, ac_dup 62), (62, ac_get 0 6 23 65), (65, ac_push (.int 1) 66), (66, ac_ii (fun x y => x + y) 67), (67, ac_putI 6 23 70), (70, ac_iload 1 71), (71, ac_push (.int 4) 72), (72, ac_if2 (fun x y => x = y) 82 75), (75, ac_aload 0 76), (76, ac_iload 2 77), (77, ac_iload 3 78), (78, ac_callV 6 113 3 81 am_nohd), (81, ac_ret), (82, ac_aload 0 83)]
theorem k_p138_1 : ∀ q ∈ k_c138_1, am_Ok k_nm D cA B0 sb H00 (k_Th B0 sb H00) prog_8_method_49_code "TokenMouthModel" "define" [] none q.1 q.2 :=
  am_c (ok_iconst (z := 5) (by decide +kernel) (by decide +kernel)) <|
  am_c (ok_callV (by decide +kernel) (by decide +kernel) kw_497 kw_498 kw_499 kw_496 (by decide +kernel) (by decide +kernel)) <|
  am_c (ok_istore_n (k := 3) (by decide +kernel) rfl) <|
  am_c (ok_ret (by decide +kernel) rfl) <|
  am_c (ok_sipush (z := 6000) (by decide +kernel) (by decide +kernel)) <|
  am_c (ok_aload_n (k := 0) (by decide +kernel) rfl) <|
  am_c (ok_get (by decide +kernel) (by decide +kernel) rfl (by decide +kernel) kw_480) <|
  am_c (ok_iadd (by decide +kernel)) <|
  am_c (ok_istore_n (k := 3) (by decide +kernel) rfl) <|
  am_c (ok_aload_n (k := 0) (by decide +kernel) rfl) <|
  am_c (ok_dup (by decide +kernel)) <|
  am_c (ok_get (by decide +kernel) (by decide +kernel) rfl (by decide +kernel) kw_480) <|
  am_c (ok_iconst (z := 1) (by decide +kernel) (by decide +kernel)) <|
  am_c (ok_iadd (by decide +kernel)) <|
  am_c (ok_putI (by decide +kernel) (by decide +kernel) rfl (by decide +kernel) kw_480 rfl) <|
  am_c (ok_iload_n (k := 1) (by decide +kernel) rfl) <|
  am_c (ok_iconst (z := 4) (by decide +kernel) (by decide +kernel)) <|
  am_c (ok_icmpeq (off := 10) (by decide +kernel) (by decide +kernel)) <|
  am_c (ok_aload_n (k := 0) (by decide +kernel) rfl) <|
  am_c (ok_iload_n (k := 2) (by decide +kernel) rfl) <|
  am_c (ok_iload_n (k := 3) (by decide +kernel) rfl) <|
  am_c (ok_callV (by decide +kernel) (by decide +kernel) kw_613 kw_614 kw_615 kw_612 (by decide +kernel) (by decide +kernel)) <|
  am_c (ok_ret (by decide +kernel) rfl) <|
  am_c (ok_aload_n (k := 0) (by decide +kernel) rfl) <|
  am_n
def k_c138_2 : List (Nat × am_A) := [(83, ac_get 2 6 15 86), (86, ac_iload 2 87), (87, ac_iload 3 88), (88, ac_iast 89), (89, ac_push (.int 0) 90), (90, ac_istore 4 92), (92, ac_iload 4 94), (94, ac_aload 0 95), (95, ac_get 0 6 19 98), (98, ac_if2 (fun x y => y ≤ x) 136 101), (101, ac_aload 0 102), (102, ac_get 2 6 22 105), (105, ac_iload 4 107), (107, ac_aload 0 108), (108, ac_get 2 6 21 111), (111, ac_iload 4 113), (113, ac_iald 0 114), (114, ac_iload 2 115), (115, ac_if2 (fun x y => ¬ x = y) 122 118), (118, ac_iload 3 119), (119, ac_goto 129), (122, ac_aload 0 123), (123, ac_get 2 6 22 126), (126, ac_iload 4 128)]
theorem k_p138_2 : ∀ q ∈ k_c138_2, am_Ok k_nm D cA B0 sb H00 (k_Th B0 sb H00) prog_8_method_49_code "TokenMouthModel" "define" [] none q.1 q.2 :=
  am_c (ok_get (by decide +kernel) (by decide +kernel) rfl (by decide +kernel) kw_417) <|
  am_c (ok_iload_n (k := 2) (by decide +kernel) rfl) <|
  am_c (ok_iload_n (k := 3) (by decide +kernel) rfl) <|
  am_c (ok_iast (by decide +kernel)) <|
  am_c (ok_iconst (z := 0) (by decide +kernel) (by decide +kernel)) <|
  am_c (ok_istore (by decide +kernel)) <|
  am_c (ok_iload (by decide +kernel)) <|
  am_c (ok_aload_n (k := 0) (by decide +kernel) rfl) <|
  am_c (ok_get (by decide +kernel) (by decide +kernel) rfl (by decide +kernel) kw_479) <|
  am_c (ok_icmpge (off := 38) (by decide +kernel) (by decide +kernel)) <|
  am_c (ok_aload_n (k := 0) (by decide +kernel) rfl) <|
  am_c (ok_get (by decide +kernel) (by decide +kernel) rfl (by decide +kernel) kw_421) <|
  am_c (ok_iload (by decide +kernel)) <|
  am_c (ok_aload_n (k := 0) (by decide +kernel) rfl) <|
  am_c (ok_get (by decide +kernel) (by decide +kernel) rfl (by decide +kernel) kw_420) <|
  am_c (ok_iload (by decide +kernel)) <|
  am_c (ok_iald (by decide +kernel)) <|
  am_c (ok_iload_n (k := 2) (by decide +kernel) rfl) <|
  am_c (ok_icmpne (off := 7) (by decide +kernel) (by decide +kernel)) <|
  am_c (ok_iload_n (k := 3) (by decide +kernel) rfl) <|
  am_c (ok_goto (off := 10) (by decide +kernel) (by decide +kernel)) <|
  am_c (ok_aload_n (k := 0) (by decide +kernel) rfl) <|
  am_c (ok_get (by decide +kernel) (by decide +kernel) rfl (by decide +kernel) kw_421) <|
  am_c (ok_iload (by decide +kernel)) <|
  am_n
def k_c138_3 : List (Nat × am_A) := [(128, ac_iald 0 129), (129, ac_iast 130), (130, ac_iinc 4 1 133), (133, ac_goto 92), (136, ac_ret)]
theorem k_p138_3 : ∀ q ∈ k_c138_3, am_Ok k_nm D cA B0 sb H00 (k_Th B0 sb H00) prog_8_method_49_code "TokenMouthModel" "define" [] none q.1 q.2 :=
  am_c (ok_iald (by decide +kernel)) <|
  am_c (ok_iast (by decide +kernel)) <|
  am_c (ok_iinc (z := 1) (by decide +kernel) (by decide +kernel)) <|
  am_c (ok_goto (off := -41) (by decide +kernel) (by decide +kernel)) <|
  am_c (ok_ret (by decide +kernel) rfl) <|
  am_n
def k_t138 : List (Nat × List (Nat × am_A)) := [(44, k_c138_0), (82, k_c138_1), (126, k_c138_2), (136, k_c138_3)]
theorem k_o138 : ∀ c ∈ k_t138, ∀ q ∈ c.2, am_Ok k_nm D cA B0 sb H00 (k_Th B0 sb H00) prog_8_method_49_code "TokenMouthModel" "define" [] none q.1 q.2 := am_cc (P := fun pc a => am_Ok k_nm D cA B0 sb H00 (k_Th B0 sb H00) prog_8_method_49_code "TokenMouthModel" "define" [] none pc a) k_p138_0 <| am_cc (P := fun pc a => am_Ok k_nm D cA B0 sb H00 (k_Th B0 sb H00) prog_8_method_49_code "TokenMouthModel" "define" [] none pc a) k_p138_1 <| am_cc (P := fun pc a => am_Ok k_nm D cA B0 sb H00 (k_Th B0 sb H00) prog_8_method_49_code "TokenMouthModel" "define" [] none pc a) k_p138_2 <| am_cc (P := fun pc a => am_Ok k_nm D cA B0 sb H00 (k_Th B0 sb H00) prog_8_method_49_code "TokenMouthModel" "define" [] none pc a) k_p138_3 <| am_cn0
-- 139: TokenMouthModel.let()V
def k_c139_0 : List (Nat × am_A) := [(0, ac_aload 0 1), (1, ac_callV 6 135 1 4 am_nohd), (4, ac_istore 1 5), (5, ac_iload 1 6), (6, ac_push (.int (-1)) 7), (7, ac_if2 (fun x y => ¬ x = y) 14 10), (10, ac_push (.int (-1)) 11), (11, ac_goto 18), (14, ac_aload 0 15), (15, ac_callV 6 105 1 18 am_nohd), (18, ac_istore 2 19), (19, ac_iload 2 20), (20, ac_push (.int 3133) 23), (23, ac_if2 (fun x y => ¬ x = y) 31 26), (26, ac_aload 0 27), (27, ac_callV 6 105 1 30 am_nohd), (30, ac_istore 2 31), (31, ac_iload 2 32), (32, ac_push (.int (-1)) 33), (33, ac_if2 (fun x y => x = y) 46 36), (36, ac_aload 0 37), (37, ac_iload 1 38), (38, ac_aload 0 39), (39, ac_iload 2 40)]
theorem k_p139_0 : ∀ q ∈ k_c139_0, am_Ok k_nm D cA B0 sb H00 (k_Th B0 sb H00) prog_8_method_50_code "TokenMouthModel" "let" [] none q.1 q.2 :=
  am_c (ok_aload_n (k := 0) (by decide +kernel) rfl) <|
  am_c (ok_callV (by decide +kernel) (by decide +kernel) kw_633 kw_634 kw_635 kw_632 (by decide +kernel) (by decide +kernel)) <|
  am_c (ok_istore_n (k := 1) (by decide +kernel) rfl) <|
  am_c (ok_iload_n (k := 1) (by decide +kernel) rfl) <|
  am_c (ok_iconst (z := -1) (by decide +kernel) (by decide +kernel)) <|
  am_c (ok_icmpne (off := 7) (by decide +kernel) (by decide +kernel)) <|
  am_c (ok_iconst (z := -1) (by decide +kernel) (by decide +kernel)) <|
  am_c (ok_goto (off := 7) (by decide +kernel) (by decide +kernel)) <|
  am_c (ok_aload_n (k := 0) (by decide +kernel) rfl) <|
  am_c (ok_callV (by decide +kernel) (by decide +kernel) kw_549 kw_550 kw_551 kw_548 (by decide +kernel) (by decide +kernel)) <|
  am_c (ok_istore_n (k := 2) (by decide +kernel) rfl) <|
  am_c (ok_iload_n (k := 2) (by decide +kernel) rfl) <|
  am_c (ok_sipush (z := 3133) (by decide +kernel) (by decide +kernel)) <|
  am_c (ok_icmpne (off := 8) (by decide +kernel) (by decide +kernel)) <|
  am_c (ok_aload_n (k := 0) (by decide +kernel) rfl) <|
  am_c (ok_callV (by decide +kernel) (by decide +kernel) kw_549 kw_550 kw_551 kw_548 (by decide +kernel) (by decide +kernel)) <|
  am_c (ok_istore_n (k := 2) (by decide +kernel) rfl) <|
  am_c (ok_iload_n (k := 2) (by decide +kernel) rfl) <|
  am_c (ok_iconst (z := -1) (by decide +kernel) (by decide +kernel)) <|
  am_c (ok_icmpeq (off := 13) (by decide +kernel) (by decide +kernel)) <|
  am_c (ok_aload_n (k := 0) (by decide +kernel) rfl) <|
  am_c (ok_iload_n (k := 1) (by decide +kernel) rfl) <|
  am_c (ok_aload_n (k := 0) (by decide +kernel) rfl) <|
  am_c (ok_iload_n (k := 2) (by decide +kernel) rfl) <|
  am_n
def k_c139_1 : List (Nat × am_A) := [(40, ac_callV 6 111 2 43 am_nohd), (43, ac_callV 6 113 3 46 am_nohd), (46, ac_ret)]
theorem k_p139_1 : ∀ q ∈ k_c139_1, am_Ok k_nm D cA B0 sb H00 (k_Th B0 sb H00) prog_8_method_50_code "TokenMouthModel" "let" [] none q.1 q.2 :=
  am_c (ok_callV (by decide +kernel) (by decide +kernel) kw_527 kw_528 kw_529 kw_526 (by decide +kernel) (by decide +kernel)) <|
  am_c (ok_callV (by decide +kernel) (by decide +kernel) kw_613 kw_614 kw_615 kw_612 (by decide +kernel) (by decide +kernel)) <|
  am_c (ok_ret (by decide +kernel) rfl) <|
  am_n
def k_t139 : List (Nat × List (Nat × am_A)) := [(39, k_c139_0), (46, k_c139_1)]
theorem k_o139 : ∀ c ∈ k_t139, ∀ q ∈ c.2, am_Ok k_nm D cA B0 sb H00 (k_Th B0 sb H00) prog_8_method_50_code "TokenMouthModel" "let" [] none q.1 q.2 := am_cc (P := fun pc a => am_Ok k_nm D cA B0 sb H00 (k_Th B0 sb H00) prog_8_method_50_code "TokenMouthModel" "let" [] none pc a) k_p139_0 <| am_cc (P := fun pc a => am_Ok k_nm D cA B0 sb H00 (k_Th B0 sb H00) prog_8_method_50_code "TokenMouthModel" "let" [] none pc a) k_p139_1 <| am_cn0
-- 140: TokenMouthModel.digit(I)I
def k_c140_0 : List (Nat × am_A) := [(0, ac_iload 0 1), (1, ac_push (.int 12) 3), (3, ac_callS 110 2 6), (6, ac_if1 (fun x => x = 0) 40 9), (9, ac_iload 0 10), (10, ac_push (.int 255) 13), (13, ac_ii (fun x y => x &&& y) 14), (14, ac_push (.int 47) 16), (16, ac_if2 (fun x y => x ≤ y) 40 19), (19, ac_iload 0 20), (20, ac_push (.int 255) 23), (23, ac_ii (fun x y => x &&& y) 24), (24, ac_push (.int 58) 26), (26, ac_if2 (fun x y => y ≤ x) 40 29), (29, ac_iload 0 30), (30, ac_push (.int 255) 33), (33, ac_ii (fun x y => x &&& y) 34), (34, ac_push (.int 48) 36), (36, ac_ii (fun x y => x - y) 37), (37, ac_goto 41), (40, ac_push (.int (-1)) 41), (41, ac_iret)]
theorem k_p140_0 : ∀ q ∈ k_c140_0, am_Ok k_nm D cA B0 sb H00 (k_Th B0 sb H00) prog_8_method_51_code "TokenMouthModel" "digit" [] (some .int) q.1 q.2 :=
  am_c (ok_iload_n (k := 0) (by decide +kernel) rfl) <|
  am_c (ok_bipush (z := 12) (by decide +kernel) (by decide +kernel)) <|
  am_c (ok_callS (by decide +kernel) kw_534 kw_535 kw_487 kw_533 (by decide +kernel) (by decide +kernel)) <|
  am_c (ok_ifeq (off := 34) (by decide +kernel) (by decide +kernel)) <|
  am_c (ok_iload_n (k := 0) (by decide +kernel) rfl) <|
  am_c (ok_sipush (z := 255) (by decide +kernel) (by decide +kernel)) <|
  am_c (ok_iand (by decide +kernel)) <|
  am_c (ok_bipush (z := 47) (by decide +kernel) (by decide +kernel)) <|
  am_c (ok_icmple (off := 24) (by decide +kernel) (by decide +kernel)) <|
  am_c (ok_iload_n (k := 0) (by decide +kernel) rfl) <|
  am_c (ok_sipush (z := 255) (by decide +kernel) (by decide +kernel)) <|
  am_c (ok_iand (by decide +kernel)) <|
  am_c (ok_bipush (z := 58) (by decide +kernel) (by decide +kernel)) <|
  am_c (ok_icmpge (off := 14) (by decide +kernel) (by decide +kernel)) <|
  am_c (ok_iload_n (k := 0) (by decide +kernel) rfl) <|
  am_c (ok_sipush (z := 255) (by decide +kernel) (by decide +kernel)) <|
  am_c (ok_iand (by decide +kernel)) <|
  am_c (ok_bipush (z := 48) (by decide +kernel) (by decide +kernel)) <|
  am_c (ok_isub (by decide +kernel)) <|
  am_c (ok_goto (off := 4) (by decide +kernel) (by decide +kernel)) <|
  am_c (ok_iconst (z := -1) (by decide +kernel) (by decide +kernel)) <|
  am_c (ok_iret (by decide +kernel) rfl) <|
  am_n
def k_t140 : List (Nat × List (Nat × am_A)) := [(41, k_c140_0)]
theorem k_o140 : ∀ c ∈ k_t140, ∀ q ∈ c.2, am_Ok k_nm D cA B0 sb H00 (k_Th B0 sb H00) prog_8_method_51_code "TokenMouthModel" "digit" [] (some .int) q.1 q.2 := am_cc (P := fun pc a => am_Ok k_nm D cA B0 sb H00 (k_Th B0 sb H00) prog_8_method_51_code "TokenMouthModel" "digit" [] (some .int) pc a) k_p140_0 <| am_cn0
-- 141: TokenMouthModel.catcode()V
def k_c141_0 : List (Nat × am_A) := [(0, ac_aload 0 1), (1, ac_callV 6 105 1 4 am_nohd), (4, ac_istore 1 5), (5, ac_iload 1 6), (6, ac_push (.int (-1)) 7), (7, ac_if2 (fun x y => ¬ x = y) 11 10), (10, ac_ret), (11, ac_iload 1 12), (12, ac_callS 107 1 15), (15, ac_if1 (fun x => x = 0) 29 18), (18, ac_iload 1 19), (19, ac_callS 109 1 22), (22, ac_push (.int 4096) 25), (25, ac_ii (fun x y => x - y) 26), (26, ac_goto 30), (29, ac_push (.int 0) 30), (30, ac_istore 2 31), (31, ac_iload 1 32), (32, ac_callS 107 1 35), (35, ac_if1 (fun x => x = 0) 55 38), (38, ac_aload 0 39), (39, ac_get 2 6 13 42), (42, ac_iload 2 43), (43, ac_iald 0 44)]
theorem k_p141_0 : ∀ q ∈ k_c141_0, am_Ok k_nm D cA B0 sb H00 (k_Th B0 sb H00) prog_8_method_52_code "TokenMouthModel" "catcode" [] none q.1 q.2 :=
  am_c (ok_aload_n (k := 0) (by decide +kernel) rfl) <|
  am_c (ok_callV (by decide +kernel) (by decide +kernel) kw_549 kw_550 kw_551 kw_548 (by decide +kernel) (by decide +kernel)) <|
  am_c (ok_istore_n (k := 1) (by decide +kernel) rfl) <|
  am_c (ok_iload_n (k := 1) (by decide +kernel) rfl) <|
  am_c (ok_iconst (z := -1) (by decide +kernel) (by decide +kernel)) <|
  am_c (ok_icmpne (off := 4) (by decide +kernel) (by decide +kernel)) <|
  am_c (ok_ret (by decide +kernel) rfl) <|
  am_c (ok_iload_n (k := 1) (by decide +kernel) rfl) <|
  am_c (ok_callS (by decide +kernel) kw_521 kw_522 kw_487 kw_520 (by decide +kernel) (by decide +kernel)) <|
  am_c (ok_ifeq (off := 14) (by decide +kernel) (by decide +kernel)) <|
  am_c (ok_iload_n (k := 1) (by decide +kernel) rfl) <|
  am_c (ok_callS (by decide +kernel) kw_531 kw_532 kw_487 kw_530 (by decide +kernel) (by decide +kernel)) <|
  am_c (ok_sipush (z := 4096) (by decide +kernel) (by decide +kernel)) <|
  am_c (ok_isub (by decide +kernel)) <|
  am_c (ok_goto (off := 4) (by decide +kernel) (by decide +kernel)) <|
  am_c (ok_iconst (z := 0) (by decide +kernel) (by decide +kernel)) <|
  am_c (ok_istore_n (k := 2) (by decide +kernel) rfl) <|
  am_c (ok_iload_n (k := 1) (by decide +kernel) rfl) <|
  am_c (ok_callS (by decide +kernel) kw_521 kw_522 kw_487 kw_520 (by decide +kernel) (by decide +kernel)) <|
  am_c (ok_ifeq (off := 20) (by decide +kernel) (by decide +kernel)) <|
  am_c (ok_aload_n (k := 0) (by decide +kernel) rfl) <|
  am_c (ok_get (by decide +kernel) (by decide +kernel) rfl (by decide +kernel) kw_414) <|
  am_c (ok_iload_n (k := 2) (by decide +kernel) rfl) <|
  am_c (ok_iald (by decide +kernel)) <|
  am_n
def k_c141_1 : List (Nat × am_A) := [(44, ac_push (.int 1) 45), (45, ac_if2 (fun x y => x = y) 55 48), (48, ac_aload 0 49), (49, ac_push (.int 4) 50), (50, ac_callV 6 98 2 53 am_nohd), (53, ac_istore 3 54), (54, ac_ret), (55, ac_iload 1 56), (56, ac_callS 107 1 59), (59, ac_if1 (fun x => x = 0) 74 62), (62, ac_aload 0 63), (63, ac_get 2 6 12 66), (66, ac_push (.int 11) 68), (68, ac_iload 2 69), (69, ac_ii (fun x y => x * y) 70), (70, ac_iald 0 71), (71, ac_goto 79), (74, ac_iload 1 75), (75, ac_push (.int 255) 78), (78, ac_ii (fun x y => x &&& y) 79), (79, ac_istore 3 80), (80, ac_aload 0 81), (81, ac_callV 6 105 1 84 am_nohd), (84, ac_istore 4 86)]
theorem k_p141_1 : ∀ q ∈ k_c141_1, am_Ok k_nm D cA B0 sb H00 (k_Th B0 sb H00) prog_8_method_52_code "TokenMouthModel" "catcode" [] none q.1 q.2 :=
  am_c (ok_iconst (z := 1) (by decide +kernel) (by decide +kernel)) <|
  am_c (ok_icmpeq (off := 10) (by decide +kernel) (by decide +kernel)) <|
  am_c (ok_aload_n (k := 0) (by decide +kernel) rfl) <|
  am_c (ok_iconst (z := 4) (by decide +kernel) (by decide +kernel)) <|
  am_c (ok_callV (by decide +kernel) (by decide +kernel) kw_497 kw_498 kw_499 kw_496 (by decide +kernel) (by decide +kernel)) <|
  am_c (ok_istore_n (k := 3) (by decide +kernel) rfl) <|
  am_c (ok_ret (by decide +kernel) rfl) <|
  am_c (ok_iload_n (k := 1) (by decide +kernel) rfl) <|
  am_c (ok_callS (by decide +kernel) kw_521 kw_522 kw_487 kw_520 (by decide +kernel) (by decide +kernel)) <|
  am_c (ok_ifeq (off := 15) (by decide +kernel) (by decide +kernel)) <|
  am_c (ok_aload_n (k := 0) (by decide +kernel) rfl) <|
  am_c (ok_get (by decide +kernel) (by decide +kernel) rfl (by decide +kernel) kw_413) <|
  am_c (ok_bipush (z := 11) (by decide +kernel) (by decide +kernel)) <|
  am_c (ok_iload_n (k := 2) (by decide +kernel) rfl) <|
  am_c (ok_imul (by decide +kernel)) <|
  am_c (ok_iald (by decide +kernel)) <|
  am_c (ok_goto (off := 8) (by decide +kernel) (by decide +kernel)) <|
  am_c (ok_iload_n (k := 1) (by decide +kernel) rfl) <|
  am_c (ok_sipush (z := 255) (by decide +kernel) (by decide +kernel)) <|
  am_c (ok_iand (by decide +kernel)) <|
  am_c (ok_istore_n (k := 3) (by decide +kernel) rfl) <|
  am_c (ok_aload_n (k := 0) (by decide +kernel) rfl) <|
  am_c (ok_callV (by decide +kernel) (by decide +kernel) kw_549 kw_550 kw_551 kw_548 (by decide +kernel) (by decide +kernel)) <|
  am_c (ok_istore (by decide +kernel)) <|
  am_n
def k_c141_2 : List (Nat × am_A) := [(86, ac_iload 4 88), (88, ac_push (.int (-1)) 89), (89, ac_if2 (fun x y => ¬ x = y) 93 92), (92, ac_ret), (93, ac_iload 4 95), (95, ac_callS 140 1 98), (98, ac_istore 5 100), (100, ac_iload 5 102), (102, ac_if1 (fun x => 0 ≤ x) 113 105), (105, ac_aload 0 106), (106, ac_push (.int 4) 107), (107, ac_callV 6 98 2 110 am_nohd), (110, ac_istore 6 112), (112, ac_ret), (113, ac_aload 0 114), (114, ac_callV 6 104 1 117 am_nohd), (117, ac_istore 6 119), (119, ac_iload 6 121), (121, ac_push (.int (-1)) 122), (122, ac_if2 (fun x y => x = y) 149 125), (125, ac_iload 6 127), (127, ac_callS 140 1 130), (130, ac_if1 (fun x => x < 0) 149 133), (133, ac_push (.int 10) 135)]
theorem k_p141_2 : ∀ q ∈ k_c141_2, am_Ok k_nm D cA B0 sb H00 (k_Th B0 sb H00) prog_8_method_52_code "TokenMouthModel" "catcode" [] none q.1 q.2 :=
  am_c (ok_iload (by decide +kernel)) <|
  am_c (ok_iconst (z := -1) (by decide +kernel) (by decide +kernel)) <|
  am_c (ok_icmpne (off := 4) (by decide +kernel) (by decide +kernel)) <|
  am_c (ok_ret (by decide +kernel) rfl) <|
  am_c (ok_iload (by decide +kernel)) <|
  am_c (ok_callS (by decide +kernel) kw_645 kw_646 kw_487 kw_644 (by decide +kernel) (by decide +kernel)) <|
  am_c (ok_istore (by decide +kernel)) <|
  am_c (ok_iload (by decide +kernel)) <|
  am_c (ok_ifge (off := 11) (by decide +kernel) (by decide +kernel)) <|
  am_c (ok_aload_n (k := 0) (by decide +kernel) rfl) <|
  am_c (ok_iconst (z := 4) (by decide +kernel) (by decide +kernel)) <|
  am_c (ok_callV (by decide +kernel) (by decide +kernel) kw_497 kw_498 kw_499 kw_496 (by decide +kernel) (by decide +kernel)) <|
  am_c (ok_istore (by decide +kernel)) <|
  am_c (ok_ret (by decide +kernel) rfl) <|
  am_c (ok_aload_n (k := 0) (by decide +kernel) rfl) <|
  am_c (ok_callV (by decide +kernel) (by decide +kernel) kw_517 kw_518 kw_519 kw_516 (by decide +kernel) (by decide +kernel)) <|
  am_c (ok_istore (by decide +kernel)) <|
  am_c (ok_iload (by decide +kernel)) <|
  am_c (ok_iconst (z := -1) (by decide +kernel) (by decide +kernel)) <|
  am_c (ok_icmpeq (off := 27) (by decide +kernel) (by decide +kernel)) <|
  am_c (ok_iload (by decide +kernel)) <|
  am_c (ok_callS (by decide +kernel) kw_645 kw_646 kw_487 kw_644 (by decide +kernel) (by decide +kernel)) <|
  am_c (ok_iflt (off := 19) (by decide +kernel) (by decide +kernel)) <|
  am_c (ok_bipush (z := 10) (by decide +kernel) (by decide +kernel)) <|
  am_n
def k_c141_3 : List (Nat × am_A) := [(135, ac_iload 5 137), (137, ac_ii (fun x y => x * y) 138), (138, ac_iload 6 140), (140, ac_callS 140 1 143), (143, ac_ii (fun x y => x + y) 144), (144, ac_istore 5 146), (146, ac_goto 161), (149, ac_iload 6 151), (151, ac_push (.int (-1)) 152), (152, ac_if2 (fun x y => x = y) 161 155), (155, ac_aload 0 156), (156, ac_iload 6 158), (158, ac_callV 6 106 2 161 am_nohd), (161, ac_aload 0 162), (162, ac_get 0 6 5 165), (165, ac_if1 (fun x => ¬ x = 0) 182 168), (168, ac_iload 5 170), (170, ac_push (.int 15) 172), (172, ac_if2 (fun x y => x ≤ y) 182 175), (175, ac_aload 0 176), (176, ac_push (.int 4) 177), (177, ac_callV 6 98 2 180 am_nohd), (180, ac_istore 7 182), (182, ac_aload 0 183)]
theorem k_p141_3 : ∀ q ∈ k_c141_3, am_Ok k_nm D cA B0 sb H00 (k_Th B0 sb H00) prog_8_method_52_code "TokenMouthModel" "catcode" [] none q.1 q.2 :=
  am_c (ok_iload (by decide +kernel)) <|
  am_c (ok_imul (by decide +kernel)) <|
  am_c (ok_iload (by decide +kernel)) <|
  am_c (ok_callS (by decide +kernel) kw_645 kw_646 kw_487 kw_644 (by decide +kernel) (by decide +kernel)) <|
  am_c (ok_iadd (by decide +kernel)) <|
  am_c (ok_istore (by decide +kernel)) <|
  am_c (ok_goto (off := 15) (by decide +kernel) (by decide +kernel)) <|
  am_c (ok_iload (by decide +kernel)) <|
  am_c (ok_iconst (z := -1) (by decide +kernel) (by decide +kernel)) <|
  am_c (ok_icmpeq (off := 9) (by decide +kernel) (by decide +kernel)) <|
  am_c (ok_aload_n (k := 0) (by decide +kernel) rfl) <|
  am_c (ok_iload (by decide +kernel)) <|
  am_c (ok_callV (by decide +kernel) (by decide +kernel) kw_561 kw_562 kw_563 kw_560 (by decide +kernel) (by decide +kernel)) <|
  am_c (ok_aload_n (k := 0) (by decide +kernel) rfl) <|
  am_c (ok_get (by decide +kernel) (by decide +kernel) rfl (by decide +kernel) kw_475) <|
  am_c (ok_ifne (off := 17) (by decide +kernel) (by decide +kernel)) <|
  am_c (ok_iload (by decide +kernel)) <|
  am_c (ok_bipush (z := 15) (by decide +kernel) (by decide +kernel)) <|
  am_c (ok_icmple (off := 10) (by decide +kernel) (by decide +kernel)) <|
  am_c (ok_aload_n (k := 0) (by decide +kernel) rfl) <|
  am_c (ok_iconst (z := 4) (by decide +kernel) (by decide +kernel)) <|
  am_c (ok_callV (by decide +kernel) (by decide +kernel) kw_497 kw_498 kw_499 kw_496 (by decide +kernel) (by decide +kernel)) <|
  am_c (ok_istore (by decide +kernel)) <|
  am_c (ok_aload_n (k := 0) (by decide +kernel) rfl) <|
  am_n
def k_c141_4 : List (Nat × am_A) := [(183, ac_get 0 6 5 186), (186, ac_if1 (fun x => ¬ x = 0) 200 189), (189, ac_aload 0 190), (190, ac_push (.int 200) 193), (193, ac_iload 3 194), (194, ac_ii (fun x y => x + y) 195), (195, ac_iload 5 197), (197, ac_callV 6 113 3 200 am_nohd), (200, ac_ret)]
theorem k_p141_4 : ∀ q ∈ k_c141_4, am_Ok k_nm D cA B0 sb H00 (k_Th B0 sb H00) prog_8_method_52_code "TokenMouthModel" "catcode" [] none q.1 q.2 :=
  am_c (ok_get (by decide +kernel) (by decide +kernel) rfl (by decide +kernel) kw_475) <|
  am_c (ok_ifne (off := 14) (by decide +kernel) (by decide +kernel)) <|
  am_c (ok_aload_n (k := 0) (by decide +kernel) rfl) <|
  am_c (ok_sipush (z := 200) (by decide +kernel) (by decide +kernel)) <|
  am_c (ok_iload_n (k := 3) (by decide +kernel) rfl) <|
  am_c (ok_iadd (by decide +kernel)) <|
  am_c (ok_iload (by decide +kernel)) <|
  am_c (ok_callV (by decide +kernel) (by decide +kernel) kw_613 kw_614 kw_615 kw_612 (by decide +kernel) (by decide +kernel)) <|
  am_c (ok_ret (by decide +kernel) rfl) <|
  am_n
def k_t141 : List (Nat × List (Nat × am_A)) := [(43, k_c141_0), (84, k_c141_1), (133, k_c141_2), (182, k_c141_3), (200, k_c141_4)]
theorem k_o141 : ∀ c ∈ k_t141, ∀ q ∈ c.2, am_Ok k_nm D cA B0 sb H00 (k_Th B0 sb H00) prog_8_method_52_code "TokenMouthModel" "catcode" [] none q.1 q.2 := am_cc (P := fun pc a => am_Ok k_nm D cA B0 sb H00 (k_Th B0 sb H00) prog_8_method_52_code "TokenMouthModel" "catcode" [] none pc a) k_p141_0 <| am_cc (P := fun pc a => am_Ok k_nm D cA B0 sb H00 (k_Th B0 sb H00) prog_8_method_52_code "TokenMouthModel" "catcode" [] none pc a) k_p141_1 <| am_cc (P := fun pc a => am_Ok k_nm D cA B0 sb H00 (k_Th B0 sb H00) prog_8_method_52_code "TokenMouthModel" "catcode" [] none pc a) k_p141_2 <| am_cc (P := fun pc a => am_Ok k_nm D cA B0 sb H00 (k_Th B0 sb H00) prog_8_method_52_code "TokenMouthModel" "catcode" [] none pc a) k_p141_3 <| am_cc (P := fun pc a => am_Ok k_nm D cA B0 sb H00 (k_Th B0 sb H00) prog_8_method_52_code "TokenMouthModel" "catcode" [] none pc a) k_p141_4 <| am_cn0
-- 142: TokenMouthModel.send(I)V
def k_c142_0 : List (Nat × am_A) := [(0, ac_aload 0 1), (1, ac_get 0 6 37 4), (4, ac_push (.int 200) 7), (7, ac_if2 (fun x y => ¬ x = y) 17 10), (10, ac_aload 0 11), (11, ac_push (.int 5) 12), (12, ac_callV 6 98 2 15 am_nohd), (15, ac_istore 2 16), (16, ac_ret), (17, ac_aload 0 18), (18, ac_get 2 6 38 21), (21, ac_aload 0 22), (22, ac_get 0 6 37 25), (25, ac_iload 1 26), (26, ac_iast 27), (27, ac_aload 0 28), (28, ac_dup 29), (29, ac_get 0 6 37 32), (32, ac_push (.int 1) 33), (33, ac_ii (fun x y => x + y) 34), (34, ac_putI 6 37 37), (37, ac_ret)]
theorem k_p142_0 : ∀ q ∈ k_c142_0, am_Ok k_nm D cA B0 sb H00 (k_Th B0 sb H00) prog_8_method_53_code "TokenMouthModel" "send" [] none q.1 q.2 :=
  am_c (ok_aload_n (k := 0) (by decide +kernel) rfl) <|
  am_c (ok_get (by decide +kernel) (by decide +kernel) rfl (by decide +kernel) kw_483) <|
  am_c (ok_sipush (z := 200) (by decide +kernel) (by decide +kernel)) <|
  am_c (ok_icmpne (off := 10) (by decide +kernel) (by decide +kernel)) <|
  am_c (ok_aload_n (k := 0) (by decide +kernel) rfl) <|
  am_c (ok_iconst (z := 5) (by decide +kernel) (by decide +kernel)) <|
  am_c (ok_callV (by decide +kernel) (by decide +kernel) kw_497 kw_498 kw_499 kw_496 (by decide +kernel) (by decide +kernel)) <|
  am_c (ok_istore_n (k := 2) (by decide +kernel) rfl) <|
  am_c (ok_ret (by decide +kernel) rfl) <|
  am_c (ok_aload_n (k := 0) (by decide +kernel) rfl) <|
  am_c (ok_get (by decide +kernel) (by decide +kernel) rfl (by decide +kernel) kw_433) <|
  am_c (ok_aload_n (k := 0) (by decide +kernel) rfl) <|
  am_c (ok_get (by decide +kernel) (by decide +kernel) rfl (by decide +kernel) kw_483) <|
  am_c (ok_iload_n (k := 1) (by decide +kernel) rfl) <|
  am_c (ok_iast (by decide +kernel)) <|
  am_c (ok_aload_n (k := 0) (by decide +kernel) rfl) <|
  am_c (ok_dup (by decide +kernel)) <|
  am_c (ok_get (by decide +kernel) (by decide +kernel) rfl (by decide +kernel) kw_483) <|
  am_c (ok_iconst (z := 1) (by decide +kernel) (by decide +kernel)) <|
  am_c (ok_iadd (by decide +kernel)) <|
  am_c (ok_putI (by decide +kernel) (by decide +kernel) rfl (by decide +kernel) kw_483 rfl) <|
  am_c (ok_ret (by decide +kernel) rfl) <|
  am_n
def k_t142 : List (Nat × List (Nat × am_A)) := [(37, k_c142_0)]
theorem k_o142 : ∀ c ∈ k_t142, ∀ q ∈ c.2, am_Ok k_nm D cA B0 sb H00 (k_Th B0 sb H00) prog_8_method_53_code "TokenMouthModel" "send" [] none q.1 q.2 := am_cc (P := fun pc a => am_Ok k_nm D cA B0 sb H00 (k_Th B0 sb H00) prog_8_method_53_code "TokenMouthModel" "send" [] none pc a) k_p142_0 <| am_cn0
-- 143: TokenMouthModel.act(I)V
def k_c143_0 : List (Nat × am_A) := [(0, ac_aload 0 1), (1, ac_iload 1 2), (2, ac_callV 6 111 2 5 am_nohd), (5, ac_istore 2 6), (6, ac_iload 2 7), (7, ac_push (.int 1000) 10), (10, ac_if2 (fun x y => x < y) 89 13), (13, ac_iload 2 14), (14, ac_push (.int 1000) 17), (17, ac_ii (fun x y => x - y) 18), (18, ac_istore 3 19), (19, ac_iload 3 20), (20, ac_push (.int 1) 21), (21, ac_callS 110 2 24), (24, ac_if1 (fun x => x = 0) 66 27), (27, ac_aload 0 28), (28, ac_dup 29), (29, ac_get 0 6 18 32), (32, ac_push (.int 1) 33), (33, ac_ii (fun x y => x + y) 34), (34, ac_putI 6 18 37), (37, ac_aload 0 38), (38, ac_get 0 6 18 41), (41, ac_push (.int 30) 43)]
theorem k_p143_0 : ∀ q ∈ k_c143_0, am_Ok k_nm D cA B0 sb H00 (k_Th B0 sb H00) prog_8_method_54_code "TokenMouthModel" "act" [] none q.1 q.2 :=
  am_c (ok_aload_n (k := 0) (by decide +kernel) rfl) <|
  am_c (ok_iload_n (k := 1) (by decide +kernel) rfl) <|
  am_c (ok_callV (by decide +kernel) (by decide +kernel) kw_527 kw_528 kw_529 kw_526 (by decide +kernel) (by decide +kernel)) <|
  am_c (ok_istore_n (k := 2) (by decide +kernel) rfl) <|
  am_c (ok_iload_n (k := 2) (by decide +kernel) rfl) <|
  am_c (ok_sipush (z := 1000) (by decide +kernel) (by decide +kernel)) <|
  am_c (ok_icmplt (off := 79) (by decide +kernel) (by decide +kernel)) <|
  am_c (ok_iload_n (k := 2) (by decide +kernel) rfl) <|
  am_c (ok_sipush (z := 1000) (by decide +kernel) (by decide +kernel)) <|
  am_c (ok_isub (by decide +kernel)) <|
  am_c (ok_istore_n (k := 3) (by decide +kernel) rfl) <|
  am_c (ok_iload_n (k := 3) (by decide +kernel) rfl) <|
  am_c (ok_iconst (z := 1) (by decide +kernel) (by decide +kernel)) <|
  am_c (ok_callS (by decide +kernel) kw_534 kw_535 kw_487 kw_533 (by decide +kernel) (by decide +kernel)) <|
  am_c (ok_ifeq (off := 42) (by decide +kernel) (by decide +kernel)) <|
  am_c (ok_aload_n (k := 0) (by decide +kernel) rfl) <|
  am_c (ok_dup (by decide +kernel)) <|
  am_c (ok_get (by decide +kernel) (by decide +kernel) rfl (by decide +kernel) kw_478) <|
  am_c (ok_iconst (z := 1) (by decide +kernel) (by decide +kernel)) <|
  am_c (ok_iadd (by decide +kernel)) <|
  am_c (ok_putI (by decide +kernel) (by decide +kernel) rfl (by decide +kernel) kw_478 rfl) <|
  am_c (ok_aload_n (k := 0) (by decide +kernel) rfl) <|
  am_c (ok_get (by decide +kernel) (by decide +kernel) rfl (by decide +kernel) kw_478) <|
  am_c (ok_bipush (z := 30) (by decide +kernel) (by decide +kernel)) <|
  am_n
def k_c143_1 : List (Nat × am_A) := [(43, ac_if2 (fun x y => x ≤ y) 86 46), (46, ac_aload 0 47), (47, ac_dup 48), (48, ac_get 0 6 18 51), (51, ac_push (.int 1) 52), (52, ac_ii (fun x y => x - y) 53), (53, ac_putI 6 18 56), (56, ac_aload 0 57), (57, ac_push (.int 5) 58), (58, ac_callV 6 98 2 61 am_nohd), (61, ac_istore 4 63), (63, ac_goto 86), (66, ac_iload 3 67), (67, ac_push (.int 2) 68), (68, ac_callS 110 2 71), (71, ac_if1 (fun x => x = 0) 81 74), (74, ac_aload 0 75), (75, ac_callV 6 114 1 78 am_nohd), (78, ac_goto 86), (81, ac_aload 0 82), (82, ac_iload 3 83), (83, ac_callV 6 142 2 86 am_nohd), (86, ac_goto 167), (89, ac_iload 2 90)]
theorem k_p143_1 : ∀ q ∈ k_c143_1, am_Ok k_nm D cA B0 sb H00 (k_Th B0 sb H00) prog_8_method_54_code "TokenMouthModel" "act" [] none q.1 q.2 :=
  am_c (ok_icmple (off := 43) (by decide +kernel) (by decide +kernel)) <|
  am_c (ok_aload_n (k := 0) (by decide +kernel) rfl) <|
  am_c (ok_dup (by decide +kernel)) <|
  am_c (ok_get (by decide +kernel) (by decide +kernel) rfl (by decide +kernel) kw_478) <|
  am_c (ok_iconst (z := 1) (by decide +kernel) (by decide +kernel)) <|
  am_c (ok_isub (by decide +kernel)) <|
  am_c (ok_putI (by decide +kernel) (by decide +kernel) rfl (by decide +kernel) kw_478 rfl) <|
  am_c (ok_aload_n (k := 0) (by decide +kernel) rfl) <|
  am_c (ok_iconst (z := 5) (by decide +kernel) (by decide +kernel)) <|
  am_c (ok_callV (by decide +kernel) (by decide +kernel) kw_497 kw_498 kw_499 kw_496 (by decide +kernel) (by decide +kernel)) <|
  am_c (ok_istore (by decide +kernel)) <|
  am_c (ok_goto (off := 23) (by decide +kernel) (by decide +kernel)) <|
  am_c (ok_iload_n (k := 3) (by decide +kernel) rfl) <|
  am_c (ok_iconst (z := 2) (by decide +kernel) (by decide +kernel)) <|
  am_c (ok_callS (by decide +kernel) kw_534 kw_535 kw_487 kw_533 (by decide +kernel) (by decide +kernel)) <|
  am_c (ok_ifeq (off := 10) (by decide +kernel) (by decide +kernel)) <|
  am_c (ok_aload_n (k := 0) (by decide +kernel) rfl) <|
  am_c (ok_callV (by decide +kernel) (by decide +kernel) kw_648 kw_649 kw_650 kw_647 (by decide +kernel) (by decide +kernel)) <|
  am_c (ok_goto (off := 8) (by decide +kernel) (by decide +kernel)) <|
  am_c (ok_aload_n (k := 0) (by decide +kernel) rfl) <|
  am_c (ok_iload_n (k := 3) (by decide +kernel) rfl) <|
  am_c (ok_callV (by decide +kernel) (by decide +kernel) kw_652 kw_653 kw_654 kw_651 (by decide +kernel) (by decide +kernel)) <|
  am_c (ok_goto (off := 81) (by decide +kernel) (by decide +kernel)) <|
  am_c (ok_iload_n (k := 2) (by decide +kernel) rfl) <|
  am_n
def k_c143_2 : List (Nat × am_A) := [(90, ac_if1 (fun x => x = 0) 99 93), (93, ac_iload 2 94), (94, ac_push (.int 11) 96), (96, ac_if2 (fun x y => ¬ x = y) 116 99), (99, ac_aload 0 100), (100, ac_iload 2 101), (101, ac_if1 (fun x => ¬ x = 0) 108 104), (104, ac_push (.int 2) 105), (105, ac_goto 109), (108, ac_push (.int 1) 109), (109, ac_callV 6 98 2 112 am_nohd), (112, ac_istore 3 113), (113, ac_goto 167), (116, ac_iload 2 117), (117, ac_push (.int 1) 118), (118, ac_if2 (fun x y => ¬ x = y) 131 121), (121, ac_aload 0 122), (122, ac_push (.int 4096) 125), (125, ac_callV 6 142 2 128 am_nohd), (128, ac_goto 167), (131, ac_iload 2 132), (132, ac_push (.int 6) 134), (134, ac_if2 (fun x y => ¬ x = y) 144 137), (137, ac_aload 0 138)]
theorem k_p143_2 : ∀ q ∈ k_c143_2, am_Ok k_nm D cA B0 sb H00 (k_Th B0 sb H00) prog_8_method_54_code "TokenMouthModel" "act" [] none q.1 q.2 :=
  am_c (ok_ifeq (off := 9) (by decide +kernel) (by decide +kernel)) <|
  am_c (ok_iload_n (k := 2) (by decide +kernel) rfl) <|
  am_c (ok_bipush (z := 11) (by decide +kernel) (by decide +kernel)) <|
  am_c (ok_icmpne (off := 20) (by decide +kernel) (by decide +kernel)) <|
  am_c (ok_aload_n (k := 0) (by decide +kernel) rfl) <|
  am_c (ok_iload_n (k := 2) (by decide +kernel) rfl) <|
  am_c (ok_ifne (off := 7) (by decide +kernel) (by decide +kernel)) <|
  am_c (ok_iconst (z := 2) (by decide +kernel) (by decide +kernel)) <|
  am_c (ok_goto (off := 4) (by decide +kernel) (by decide +kernel)) <|
  am_c (ok_iconst (z := 1) (by decide +kernel) (by decide +kernel)) <|
  am_c (ok_callV (by decide +kernel) (by decide +kernel) kw_497 kw_498 kw_499 kw_496 (by decide +kernel) (by decide +kernel)) <|
  am_c (ok_istore_n (k := 3) (by decide +kernel) rfl) <|
  am_c (ok_goto (off := 54) (by decide +kernel) (by decide +kernel)) <|
  am_c (ok_iload_n (k := 2) (by decide +kernel) rfl) <|
  am_c (ok_iconst (z := 1) (by decide +kernel) (by decide +kernel)) <|
  am_c (ok_icmpne (off := 13) (by decide +kernel) (by decide +kernel)) <|
  am_c (ok_aload_n (k := 0) (by decide +kernel) rfl) <|
  am_c (ok_sipush (z := 4096) (by decide +kernel) (by decide +kernel)) <|
  am_c (ok_callV (by decide +kernel) (by decide +kernel) kw_652 kw_653 kw_654 kw_651 (by decide +kernel) (by decide +kernel)) <|
  am_c (ok_goto (off := 39) (by decide +kernel) (by decide +kernel)) <|
  am_c (ok_iload_n (k := 2) (by decide +kernel) rfl) <|
  am_c (ok_bipush (z := 6) (by decide +kernel) (by decide +kernel)) <|
  am_c (ok_icmpne (off := 10) (by decide +kernel) (by decide +kernel)) <|
  am_c (ok_aload_n (k := 0) (by decide +kernel) rfl) <|
  am_n
def k_c143_3 : List (Nat × am_A) := [(138, ac_callV 6 139 1 141 am_nohd), (141, ac_goto 167), (144, ac_iload 2 145), (145, ac_push (.int 7) 147), (147, ac_if2 (fun x y => ¬ x = y) 157 150), (150, ac_aload 0 151), (151, ac_callV 6 141 1 154 am_nohd), (154, ac_goto 167), (157, ac_iload 2 158), (158, ac_push (.int 2) 159), (159, ac_if2 (fun x y => x = y) 167 162), (162, ac_aload 0 163), (163, ac_iload 2 164), (164, ac_callV 6 138 2 167 am_nohd), (167, ac_ret)]
theorem k_p143_3 : ∀ q ∈ k_c143_3, am_Ok k_nm D cA B0 sb H00 (k_Th B0 sb H00) prog_8_method_54_code "TokenMouthModel" "act" [] none q.1 q.2 :=
  am_c (ok_callV (by decide +kernel) (by decide +kernel) kw_656 kw_657 kw_658 kw_655 (by decide +kernel) (by decide +kernel)) <|
  am_c (ok_goto (off := 26) (by decide +kernel) (by decide +kernel)) <|
  am_c (ok_iload_n (k := 2) (by decide +kernel) rfl) <|
  am_c (ok_bipush (z := 7) (by decide +kernel) (by decide +kernel)) <|
  am_c (ok_icmpne (off := 10) (by decide +kernel) (by decide +kernel)) <|
  am_c (ok_aload_n (k := 0) (by decide +kernel) rfl) <|
  am_c (ok_callV (by decide +kernel) (by decide +kernel) kw_660 kw_661 kw_662 kw_659 (by decide +kernel) (by decide +kernel)) <|
  am_c (ok_goto (off := 13) (by decide +kernel) (by decide +kernel)) <|
  am_c (ok_iload_n (k := 2) (by decide +kernel) rfl) <|
  am_c (ok_iconst (z := 2) (by decide +kernel) (by decide +kernel)) <|
  am_c (ok_icmpeq (off := 8) (by decide +kernel) (by decide +kernel)) <|
  am_c (ok_aload_n (k := 0) (by decide +kernel) rfl) <|
  am_c (ok_iload_n (k := 2) (by decide +kernel) rfl) <|
  am_c (ok_callV (by decide +kernel) (by decide +kernel) kw_664 kw_665 kw_666 kw_663 (by decide +kernel) (by decide +kernel)) <|
  am_c (ok_ret (by decide +kernel) rfl) <|
  am_n
def k_t143 : List (Nat × List (Nat × am_A)) := [(41, k_c143_0), (89, k_c143_1), (137, k_c143_2), (167, k_c143_3)]
theorem k_o143 : ∀ c ∈ k_t143, ∀ q ∈ c.2, am_Ok k_nm D cA B0 sb H00 (k_Th B0 sb H00) prog_8_method_54_code "TokenMouthModel" "act" [] none q.1 q.2 := am_cc (P := fun pc a => am_Ok k_nm D cA B0 sb H00 (k_Th B0 sb H00) prog_8_method_54_code "TokenMouthModel" "act" [] none pc a) k_p143_0 <| am_cc (P := fun pc a => am_Ok k_nm D cA B0 sb H00 (k_Th B0 sb H00) prog_8_method_54_code "TokenMouthModel" "act" [] none pc a) k_p143_1 <| am_cc (P := fun pc a => am_Ok k_nm D cA B0 sb H00 (k_Th B0 sb H00) prog_8_method_54_code "TokenMouthModel" "act" [] none pc a) k_p143_2 <| am_cc (P := fun pc a => am_Ok k_nm D cA B0 sb H00 (k_Th B0 sb H00) prog_8_method_54_code "TokenMouthModel" "act" [] none pc a) k_p143_3 <| am_cn0
end
