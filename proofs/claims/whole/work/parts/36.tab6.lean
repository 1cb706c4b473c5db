/-! tables of the methods 121 to 132; printed by wip/whole/emit.py -/
section
variable {D : va_G} {cA : Nat → ClassId} {B0 : Nat} {sb : Nat → Option Nat} {H00 : Heap}
-- 121: TokenMouthModel.open()V
def k_c121_0 : List (Nat × am_A) := [(0, ac_aload 0 1), (1, ac_get 0 6 29 4), (4, ac_push (.int 12) 6), (6, ac_if2 (fun x y => ¬ x = y) 16 9), (9, ac_aload 0 10), (10, ac_push (.int 5) 11), (11, ac_callV 6 98 2 14 am_nohd), (14, ac_istore 1 15), (15, ac_ret), (16, ac_aload 0 17), (17, ac_get 2 6 30 20), (20, ac_aload 0 21), (21, ac_get 0 6 29 24), (24, ac_push (.int 0) 25), (25, ac_iast 26), (26, ac_aload 0 27), (27, ac_dup 28), (28, ac_get 0 6 29 31), (31, ac_push (.int 1) 32), (32, ac_ii (fun x y => x + y) 33), (33, ac_putI 6 29 36), (36, ac_ret)]
theorem k_p121_0 : ∀ q ∈ k_c121_0, am_Ok k_nm D cA B0 sb H00 (k_Th B0 sb H00) prog_8_method_32_code "TokenMouthModel" "open" [] none q.1 q.2 :=
  am_c (ok_aload_n (k := 0) (by decide +kernel) rfl) <|
  am_c (ok_get (by decide +kernel) (by decide +kernel) rfl (by decide +kernel) kw_481) <|
  am_c (ok_bipush (z := 12) (by decide +kernel) (by decide +kernel)) <|
  am_c (ok_icmpne (off := 10) (by decide +kernel) (by decide +kernel)) <|
  am_c (ok_aload_n (k := 0) (by decide +kernel) rfl) <|
  am_c (ok_iconst (z := 5) (by decide +kernel) (by decide +kernel)) <|
  am_c (ok_callV (by decide +kernel) (by decide +kernel) kw_497 kw_498 kw_499 kw_496 (by decide +kernel) (by decide +kernel)) <|
  am_c (ok_istore_n (k := 1) (by decide +kernel) rfl) <|
  am_c (ok_ret (by decide +kernel) rfl) <|
  am_c (ok_aload_n (k := 0) (by decide +kernel) rfl) <|
  am_c (ok_get (by decide +kernel) (by decide +kernel) rfl (by decide +kernel) kw_427) <|
  am_c (ok_aload_n (k := 0) (by decide +kernel) rfl) <|
  am_c (ok_get (by decide +kernel) (by decide +kernel) rfl (by decide +kernel) kw_481) <|
  am_c (ok_iconst (z := 0) (by decide +kernel) (by decide +kernel)) <|
  am_c (ok_iast (by decide +kernel)) <|
  am_c (ok_aload_n (k := 0) (by decide +kernel) rfl) <|
  am_c (ok_dup (by decide +kernel)) <|
  am_c (ok_get (by decide +kernel) (by decide +kernel) rfl (by decide +kernel) kw_481) <|
  am_c (ok_iconst (z := 1) (by decide +kernel) (by decide +kernel)) <|
  am_c (ok_iadd (by decide +kernel)) <|
  am_c (ok_putI (by decide +kernel) (by decide +kernel) rfl (by decide +kernel) kw_481 rfl) <|
  am_c (ok_ret (by decide +kernel) rfl) <|
  am_n
def k_t121 : List (Nat × List (Nat × am_A)) := [(36, k_c121_0)]
theorem k_o121 : ∀ c ∈ k_t121, ∀ q ∈ c.2, am_Ok k_nm D cA B0 sb H00 (k_Th B0 sb H00) prog_8_method_32_code "TokenMouthModel" "open" [] none q.1 q.2 := am_cc (P := fun pc a => am_Ok k_nm D cA B0 sb H00 (k_Th B0 sb H00) prog_8_method_32_code "TokenMouthModel" "open" [] none pc a) k_p121_0 <| am_cn0
-- 122: TokenMouthModel.pass(Z)Z
def k_c122_0 : List (Nat × am_A) := [(0, ac_push (.int 0) 1), (1, ac_istore 2 2), (2, ac_aload 0 3), (3, ac_callV 6 105 1 6 am_nohd), (6, ac_istore 3 7), (7, ac_iload 3 8), (8, ac_push (.int (-1)) 9), (9, ac_if2 (fun x y => ¬ x = y) 14 12), (12, ac_push (.int 0) 13), (13, ac_zret), (14, ac_aload 0 15), (15, ac_iload 3 16), (16, ac_callV 6 111 2 19 am_nohd), (19, ac_istore 4 21), (21, ac_iload 4 23), (23, ac_push (.int 13) 25), (25, ac_if2 (fun x y => x < y) 41 28), (28, ac_iload 4 30), (30, ac_push (.int 16) 32), (32, ac_if2 (fun x y => y < x) 41 35), (35, ac_iinc 2 1 38), (38, ac_goto 74), (41, ac_iload 4 43), (43, ac_push (.int 18) 45)]
theorem k_p122_0 : ∀ q ∈ k_c122_0, am_Ok k_nm D cA B0 sb H00 (k_Th B0 sb H00) prog_8_method_33_code "TokenMouthModel" "pass" [] (some .boolean) q.1 q.2 :=
  am_c (ok_iconst (z := 0) (by decide +kernel) (by decide +kernel)) <|
  am_c (ok_istore_n (k := 2) (by decide +kernel) rfl) <|
  am_c (ok_aload_n (k := 0) (by decide +kernel) rfl) <|
  am_c (ok_callV (by decide +kernel) (by decide +kernel) kw_549 kw_550 kw_551 kw_548 (by decide +kernel) (by decide +kernel)) <|
  am_c (ok_istore_n (k := 3) (by decide +kernel) rfl) <|
  am_c (ok_iload_n (k := 3) (by decide +kernel) rfl) <|
  am_c (ok_iconst (z := -1) (by decide +kernel) (by decide +kernel)) <|
  am_c (ok_icmpne (off := 5) (by decide +kernel) (by decide +kernel)) <|
  am_c (ok_iconst (z := 0) (by decide +kernel) (by decide +kernel)) <|
  am_c (ok_zret (by decide +kernel) rfl) <|
  am_c (ok_aload_n (k := 0) (by decide +kernel) rfl) <|
  am_c (ok_iload_n (k := 3) (by decide +kernel) rfl) <|
  am_c (ok_callV (by decide +kernel) (by decide +kernel) kw_527 kw_528 kw_529 kw_526 (by decide +kernel) (by decide +kernel)) <|
  am_c (ok_istore (by decide +kernel)) <|
  am_c (ok_iload (by decide +kernel)) <|
  am_c (ok_bipush (z := 13) (by decide +kernel) (by decide +kernel)) <|
  am_c (ok_icmplt (off := 16) (by decide +kernel) (by decide +kernel)) <|
  am_c (ok_iload (by decide +kernel)) <|
  am_c (ok_bipush (z := 16) (by decide +kernel) (by decide +kernel)) <|
  am_c (ok_icmpgt (off := 9) (by decide +kernel) (by decide +kernel)) <|
  am_c (ok_iinc (z := 1) (by decide +kernel) (by decide +kernel)) <|
  am_c (ok_goto (off := 36) (by decide +kernel) (by decide +kernel)) <|
  am_c (ok_iload (by decide +kernel)) <|
  am_c (ok_bipush (z := 18) (by decide +kernel) (by decide +kernel)) <|
  am_n
def k_c122_1 : List (Nat × am_A) := [(45, ac_if2 (fun x y => ¬ x = y) 57 48), (48, ac_iinc 2 (-1) 51), (51, ac_iload 2 52), (52, ac_if1 (fun x => 0 ≤ x) 74 55), (55, ac_push (.int 0) 56), (56, ac_zret), (57, ac_iload 4 59), (59, ac_push (.int 17) 61), (61, ac_if2 (fun x y => ¬ x = y) 74 64), (64, ac_iload 2 65), (65, ac_if1 (fun x => ¬ x = 0) 74 68), (68, ac_iload 1 69), (69, ac_if1 (fun x => x = 0) 74 72), (72, ac_push (.int 1) 73), (73, ac_zret), (74, ac_goto 2)]
theorem k_p122_1 : ∀ q ∈ k_c122_1, am_Ok k_nm D cA B0 sb H00 (k_Th B0 sb H00) prog_8_method_33_code "TokenMouthModel" "pass" [] (some .boolean) q.1 q.2 :=
  am_c (ok_icmpne (off := 12) (by decide +kernel) (by decide +kernel)) <|
  am_c (ok_iinc (z := (-1)) (by decide +kernel) (by decide +kernel)) <|
  am_c (ok_iload_n (k := 2) (by decide +kernel) rfl) <|
  am_c (ok_ifge (off := 22) (by decide +kernel) (by decide +kernel)) <|
  am_c (ok_iconst (z := 0) (by decide +kernel) (by decide +kernel)) <|
  am_c (ok_zret (by decide +kernel) rfl) <|
  am_c (ok_iload (by decide +kernel)) <|
  am_c (ok_bipush (z := 17) (by decide +kernel) (by decide +kernel)) <|
  am_c (ok_icmpne (off := 13) (by decide +kernel) (by decide +kernel)) <|
  am_c (ok_iload_n (k := 2) (by decide +kernel) rfl) <|
  am_c (ok_ifne (off := 9) (by decide +kernel) (by decide +kernel)) <|
  am_c (ok_iload_n (k := 1) (by decide +kernel) rfl) <|
  am_c (ok_ifeq (off := 5) (by decide +kernel) (by decide +kernel)) <|
  am_c (ok_iconst (z := 1) (by decide +kernel) (by decide +kernel)) <|
  am_c (ok_zret (by decide +kernel) rfl) <|
  am_c (ok_goto (off := -72) (by decide +kernel) (by decide +kernel)) <|
  am_n
def k_t122 : List (Nat × List (Nat × am_A)) := [(43, k_c122_0), (74, k_c122_1)]
theorem k_o122 : ∀ c ∈ k_t122, ∀ q ∈ c.2, am_Ok k_nm D cA B0 sb H00 (k_Th B0 sb H00) prog_8_method_33_code "TokenMouthModel" "pass" [] (some .boolean) q.1 q.2 := am_cc (P := fun pc a => am_Ok k_nm D cA B0 sb H00 (k_Th B0 sb H00) prog_8_method_33_code "TokenMouthModel" "pass" [] (some .boolean) pc a) k_p122_0 <| am_cc (P := fun pc a => am_Ok k_nm D cA B0 sb H00 (k_Th B0 sb H00) prog_8_method_33_code "TokenMouthModel" "pass" [] (some .boolean) pc a) k_p122_1 <| am_cn0
-- 123: TokenMouthModel.decide(IZ)V
def k_c123_0 : List (Nat × am_A) := [(0, ac_aload 0 1), (1, ac_iload 1 2), (2, ac_push (.int 1) 3), (3, ac_ii (fun x y => x + y) 4), (4, ac_putI 6 29 7), (7, ac_iload 2 8), (8, ac_if1 (fun x => x = 0) 21 11), (11, ac_aload 0 12), (12, ac_get 2 6 30 15), (15, ac_iload 1 16), (16, ac_push (.int 1) 17), (17, ac_iast 18), (18, ac_goto 51), (21, ac_aload 0 22), (22, ac_push (.int 1) 23), (23, ac_callV 6 122 2 26 am_nohd), (26, ac_if1 (fun x => x = 0) 39 29), (29, ac_aload 0 30), (30, ac_get 2 6 30 33), (33, ac_iload 1 34), (34, ac_push (.int 2) 35), (35, ac_iast 36), (36, ac_goto 51), (39, ac_aload 0 40)]
theorem k_p123_0 : ∀ q ∈ k_c123_0, am_Ok k_nm D cA B0 sb H00 (k_Th B0 sb H00) prog_8_method_34_code "TokenMouthModel" "decide" [] none q.1 q.2 :=
  am_c (ok_aload_n (k := 0) (by decide +kernel) rfl) <|
  am_c (ok_iload_n (k := 1) (by decide +kernel) rfl) <|
  am_c (ok_iconst (z := 1) (by decide +kernel) (by decide +kernel)) <|
  am_c (ok_iadd (by decide +kernel)) <|
  am_c (ok_putI (by decide +kernel) (by decide +kernel) rfl (by decide +kernel) kw_481 rfl) <|
  am_c (ok_iload_n (k := 2) (by decide +kernel) rfl) <|
  am_c (ok_ifeq (off := 13) (by decide +kernel) (by decide +kernel)) <|
  am_c (ok_aload_n (k := 0) (by decide +kernel) rfl) <|
  am_c (ok_get (by decide +kernel) (by decide +kernel) rfl (by decide +kernel) kw_427) <|
  am_c (ok_iload_n (k := 1) (by decide +kernel) rfl) <|
  am_c (ok_iconst (z := 1) (by decide +kernel) (by decide +kernel)) <|
  am_c (ok_iast (by decide +kernel)) <|
  am_c (ok_goto (off := 33) (by decide +kernel) (by decide +kernel)) <|
  am_c (ok_aload_n (k := 0) (by decide +kernel) rfl) <|
  am_c (ok_iconst (z := 1) (by decide +kernel) (by decide +kernel)) <|
  am_c (ok_callV (by decide +kernel) (by decide +kernel) kw_565 kw_566 kw_567 kw_564 (by decide +kernel) (by decide +kernel)) <|
  am_c (ok_ifeq (off := 13) (by decide +kernel) (by decide +kernel)) <|
  am_c (ok_aload_n (k := 0) (by decide +kernel) rfl) <|
  am_c (ok_get (by decide +kernel) (by decide +kernel) rfl (by decide +kernel) kw_427) <|
  am_c (ok_iload_n (k := 1) (by decide +kernel) rfl) <|
  am_c (ok_iconst (z := 2) (by decide +kernel) (by decide +kernel)) <|
  am_c (ok_iast (by decide +kernel)) <|
  am_c (ok_goto (off := 15) (by decide +kernel) (by decide +kernel)) <|
  am_c (ok_aload_n (k := 0) (by decide +kernel) rfl) <|
  am_n
def k_c123_1 : List (Nat × am_A) := [(40, ac_get 0 6 5 43), (43, ac_if1 (fun x => ¬ x = 0) 51 46), (46, ac_aload 0 47), (47, ac_iload 1 48), (48, ac_putI 6 29 51), (51, ac_ret)]
theorem k_p123_1 : ∀ q ∈ k_c123_1, am_Ok k_nm D cA B0 sb H00 (k_Th B0 sb H00) prog_8_method_34_code "TokenMouthModel" "decide" [] none q.1 q.2 :=
  am_c (ok_get (by decide +kernel) (by decide +kernel) rfl (by decide +kernel) kw_475) <|
  am_c (ok_ifne (off := 8) (by decide +kernel) (by decide +kernel)) <|
  am_c (ok_aload_n (k := 0) (by decide +kernel) rfl) <|
  am_c (ok_iload_n (k := 1) (by decide +kernel) rfl) <|
  am_c (ok_putI (by decide +kernel) (by decide +kernel) rfl (by decide +kernel) kw_481 rfl) <|
  am_c (ok_ret (by decide +kernel) rfl) <|
  am_n
def k_t123 : List (Nat × List (Nat × am_A)) := [(39, k_c123_0), (51, k_c123_1)]
theorem k_o123 : ∀ c ∈ k_t123, ∀ q ∈ c.2, am_Ok k_nm D cA B0 sb H00 (k_Th B0 sb H00) prog_8_method_34_code "TokenMouthModel" "decide" [] none q.1 q.2 := am_cc (P := fun pc a => am_Ok k_nm D cA B0 sb H00 (k_Th B0 sb H00) prog_8_method_34_code "TokenMouthModel" "decide" [] none pc a) k_p123_0 <| am_cc (P := fun pc a => am_Ok k_nm D cA B0 sb H00 (k_Th B0 sb H00) prog_8_method_34_code "TokenMouthModel" "decide" [] none pc a) k_p123_1 <| am_cn0
-- 124: TokenMouthModel.alike(II)Z
def k_c124_0 : List (Nat × am_A) := [(0, ac_iload 1 1), (1, ac_iload 2 2), (2, ac_if2 (fun x y => ¬ x = y) 7 5), (5, ac_push (.int 1) 6), (6, ac_zret), (7, ac_iload 1 8), (8, ac_push (.int 6000) 11), (11, ac_if2 (fun x y => x < y) 21 14), (14, ac_iload 2 15), (15, ac_push (.int 6000) 18), (18, ac_if2 (fun x y => y ≤ x) 23 21), (21, ac_push (.int 0) 22), (22, ac_zret), (23, ac_iload 1 24), (24, ac_push (.int 6000) 27), (27, ac_ii (fun x y => x - y) 28), (28, ac_istore 3 29), (29, ac_iload 2 30), (30, ac_push (.int 6000) 33), (33, ac_ii (fun x y => x - y) 34), (34, ac_istore 4 36), (36, ac_aload 0 37), (37, ac_get 2 6 24 40), (40, ac_iload 3 41)]
theorem k_p124_0 : ∀ q ∈ k_c124_0, am_Ok k_nm D cA B0 sb H00 (k_Th B0 sb H00) prog_8_method_35_code "TokenMouthModel" "alike" [] (some .boolean) q.1 q.2 :=
  am_c (ok_iload_n (k := 1) (by decide +kernel) rfl) <|
  am_c (ok_iload_n (k := 2) (by decide +kernel) rfl) <|
  am_c (ok_icmpne (off := 5) (by decide +kernel) (by decide +kernel)) <|
  am_c (ok_iconst (z := 1) (by decide +kernel) (by decide +kernel)) <|
  am_c (ok_zret (by decide +kernel) rfl) <|
  am_c (ok_iload_n (k := 1) (by decide +kernel) rfl) <|
  am_c (ok_sipush (z := 6000) (by decide +kernel) (by decide +kernel)) <|
  am_c (ok_icmplt (off := 10) (by decide +kernel) (by decide +kernel)) <|
  am_c (ok_iload_n (k := 2) (by decide +kernel) rfl) <|
  am_c (ok_sipush (z := 6000) (by decide +kernel) (by decide +kernel)) <|
  am_c (ok_icmpge (off := 5) (by decide +kernel) (by decide +kernel)) <|
  am_c (ok_iconst (z := 0) (by decide +kernel) (by decide +kernel)) <|
  am_c (ok_zret (by decide +kernel) rfl) <|
  am_c (ok_iload_n (k := 1) (by decide +kernel) rfl) <|
  am_c (ok_sipush (z := 6000) (by decide +kernel) (by decide +kernel)) <|
  am_c (ok_isub (by decide +kernel)) <|
  am_c (ok_istore_n (k := 3) (by decide +kernel) rfl) <|
  am_c (ok_iload_n (k := 2) (by decide +kernel) rfl) <|
  am_c (ok_sipush (z := 6000) (by decide +kernel) (by decide +kernel)) <|
  am_c (ok_isub (by decide +kernel)) <|
  am_c (ok_istore (by decide +kernel)) <|
  am_c (ok_aload_n (k := 0) (by decide +kernel) rfl) <|
  am_c (ok_get (by decide +kernel) (by decide +kernel) rfl (by decide +kernel) kw_422) <|
  am_c (ok_iload_n (k := 3) (by decide +kernel) rfl) <|
  am_n
def k_c124_1 : List (Nat × am_A) := [(41, ac_iald 0 42), (42, ac_aload 0 43), (43, ac_get 2 6 24 46), (46, ac_iload 4 48), (48, ac_iald 0 49), (49, ac_if2 (fun x y => ¬ x = y) 72 52), (52, ac_aload 0 53), (53, ac_get 2 6 26 56), (56, ac_iload 3 57), (57, ac_iald 0 58), (58, ac_aload 0 59), (59, ac_get 2 6 26 62), (62, ac_iload 4 64), (64, ac_iald 0 65), (65, ac_if2 (fun x y => ¬ x = y) 72 68), (68, ac_push (.int 1) 69), (69, ac_goto 73), (72, ac_push (.int 0) 73), (73, ac_istore 5 75), (75, ac_push (.int 0) 76), (76, ac_istore 6 78), (78, ac_iload 6 80), (80, ac_aload 0 81), (81, ac_get 2 6 24 84)]
theorem k_p124_1 : ∀ q ∈ k_c124_1, am_Ok k_nm D cA B0 sb H00 (k_Th B0 sb H00) prog_8_method_35_code "TokenMouthModel" "alike" [] (some .boolean) q.1 q.2 :=
  am_c (ok_iald (by decide +kernel)) <|
  am_c (ok_aload_n (k := 0) (by decide +kernel) rfl) <|
  am_c (ok_get (by decide +kernel) (by decide +kernel) rfl (by decide +kernel) kw_422) <|
  am_c (ok_iload (by decide +kernel)) <|
  am_c (ok_iald (by decide +kernel)) <|
  am_c (ok_icmpne (off := 23) (by decide +kernel) (by decide +kernel)) <|
  am_c (ok_aload_n (k := 0) (by decide +kernel) rfl) <|
  am_c (ok_get (by decide +kernel) (by decide +kernel) rfl (by decide +kernel) kw_424) <|
  am_c (ok_iload_n (k := 3) (by decide +kernel) rfl) <|
  am_c (ok_iald (by decide +kernel)) <|
  am_c (ok_aload_n (k := 0) (by decide +kernel) rfl) <|
  am_c (ok_get (by decide +kernel) (by decide +kernel) rfl (by decide +kernel) kw_424) <|
  am_c (ok_iload (by decide +kernel)) <|
  am_c (ok_iald (by decide +kernel)) <|
  am_c (ok_icmpne (off := 7) (by decide +kernel) (by decide +kernel)) <|
  am_c (ok_iconst (z := 1) (by decide +kernel) (by decide +kernel)) <|
  am_c (ok_goto (off := 4) (by decide +kernel) (by decide +kernel)) <|
  am_c (ok_iconst (z := 0) (by decide +kernel) (by decide +kernel)) <|
  am_c (ok_istore (by decide +kernel)) <|
  am_c (ok_iconst (z := 0) (by decide +kernel) (by decide +kernel)) <|
  am_c (ok_istore (by decide +kernel)) <|
  am_c (ok_iload (by decide +kernel)) <|
  am_c (ok_aload_n (k := 0) (by decide +kernel) rfl) <|
  am_c (ok_get (by decide +kernel) (by decide +kernel) rfl (by decide +kernel) kw_422) <|
  am_n
def k_c124_2 : List (Nat × am_A) := [(84, ac_iload 3 85), (85, ac_iald 0 86), (86, ac_if2 (fun x y => y ≤ x) 135 89), (89, ac_iload 5 91), (91, ac_if1 (fun x => x = 0) 135 94), (94, ac_aload 0 95), (95, ac_get 2 6 25 98), (98, ac_push (.int 13) 100), (100, ac_iload 3 101), (101, ac_ii (fun x y => x * y) 102), (102, ac_iload 6 104), (104, ac_ii (fun x y => x + y) 105), (105, ac_iald 0 106), (106, ac_aload 0 107), (107, ac_get 2 6 25 110), (110, ac_push (.int 13) 112), (112, ac_iload 4 114), (114, ac_ii (fun x y => x * y) 115), (115, ac_iload 6 117), (117, ac_ii (fun x y => x + y) 118), (118, ac_iald 0 119), (119, ac_if2 (fun x y => ¬ x = y) 126 122), (122, ac_push (.int 1) 123), (123, ac_goto 127)]
theorem k_p124_2 : ∀ q ∈ k_c124_2, am_Ok k_nm D cA B0 sb H00 (k_Th B0 sb H00) prog_8_method_35_code "TokenMouthModel" "alike" [] (some .boolean) q.1 q.2 :=
  am_c (ok_iload_n (k := 3) (by decide +kernel) rfl) <|
  am_c (ok_iald (by decide +kernel)) <|
  am_c (ok_icmpge (off := 49) (by decide +kernel) (by decide +kernel)) <|
  am_c (ok_iload (by decide +kernel)) <|
  am_c (ok_ifeq (off := 44) (by decide +kernel) (by decide +kernel)) <|
  am_c (ok_aload_n (k := 0) (by decide +kernel) rfl) <|
  am_c (ok_get (by decide +kernel) (by decide +kernel) rfl (by decide +kernel) kw_423) <|
  am_c (ok_bipush (z := 13) (by decide +kernel) (by decide +kernel)) <|
  am_c (ok_iload_n (k := 3) (by decide +kernel) rfl) <|
  am_c (ok_imul (by decide +kernel)) <|
  am_c (ok_iload (by decide +kernel)) <|
  am_c (ok_iadd (by decide +kernel)) <|
  am_c (ok_iald (by decide +kernel)) <|
  am_c (ok_aload_n (k := 0) (by decide +kernel) rfl) <|
  am_c (ok_get (by decide +kernel) (by decide +kernel) rfl (by decide +kernel) kw_423) <|
  am_c (ok_bipush (z := 13) (by decide +kernel) (by decide +kernel)) <|
  am_c (ok_iload (by decide +kernel)) <|
  am_c (ok_imul (by decide +kernel)) <|
  am_c (ok_iload (by decide +kernel)) <|
  am_c (ok_iadd (by decide +kernel)) <|
  am_c (ok_iald (by decide +kernel)) <|
  am_c (ok_icmpne (off := 7) (by decide +kernel) (by decide +kernel)) <|
  am_c (ok_iconst (z := 1) (by decide +kernel) (by decide +kernel)) <|
  am_c (ok_goto (off := 4) (by decide +kernel) (by decide +kernel)) <|
  am_n
def k_c124_3 : List (Nat × am_A) := [(126, ac_push (.int 0) 127), (127, ac_istore 5 129), (129, ac_iinc 6 1 132), (132, ac_goto 78), (135, ac_push (.int 0) 136), (136, ac_istore 6 138), (138, ac_iload 6 140), (140, ac_aload 0 141), (141, ac_get 2 6 26 144), (144, ac_iload 3 145), (145, ac_iald 0 146), (146, ac_if2 (fun x y => y ≤ x) 195 149), (149, ac_iload 5 151), (151, ac_if1 (fun x => x = 0) 195 154), (154, ac_aload 0 155), (155, ac_get 2 6 27 158), (158, ac_push (.int 41) 160), (160, ac_iload 3 161), (161, ac_ii (fun x y => x * y) 162), (162, ac_iload 6 164), (164, ac_ii (fun x y => x + y) 165), (165, ac_iald 0 166), (166, ac_aload 0 167), (167, ac_get 2 6 27 170)]
theorem k_p124_3 : ∀ q ∈ k_c124_3, am_Ok k_nm D cA B0 sb H00 (k_Th B0 sb H00) prog_8_method_35_code "TokenMouthModel" "alike" [] (some .boolean) q.1 q.2 :=
  am_c (ok_iconst (z := 0) (by decide +kernel) (by decide +kernel)) <|
  am_c (ok_istore (by decide +kernel)) <|
  am_c (ok_iinc (z := 1) (by decide +kernel) (by decide +kernel)) <|
  am_c (ok_goto (off := -54) (by decide +kernel) (by decide +kernel)) <|
  am_c (ok_iconst (z := 0) (by decide +kernel) (by decide +kernel)) <|
  am_c (ok_istore (by decide +kernel)) <|
  am_c (ok_iload (by decide +kernel)) <|
  am_c (ok_aload_n (k := 0) (by decide +kernel) rfl) <|
  am_c (ok_get (by decide +kernel) (by decide +kernel) rfl (by decide +kernel) kw_424) <|
  am_c (ok_iload_n (k := 3) (by decide +kernel) rfl) <|
  am_c (ok_iald (by decide +kernel)) <|
  am_c (ok_icmpge (off := 49) (by decide +kernel) (by decide +kernel)) <|
  am_c (ok_iload (by decide +kernel)) <|
  am_c (ok_ifeq (off := 44) (by decide +kernel) (by decide +kernel)) <|
  am_c (ok_aload_n (k := 0) (by decide +kernel) rfl) <|
  am_c (ok_get (by decide +kernel) (by decide +kernel) rfl (by decide +kernel) kw_425) <|
  am_c (ok_bipush (z := 41) (by decide +kernel) (by decide +kernel)) <|
  am_c (ok_iload_n (k := 3) (by decide +kernel) rfl) <|
  am_c (ok_imul (by decide +kernel)) <|
  am_c (ok_iload (by decide +kernel)) <|
  am_c (ok_iadd (by decide +kernel)) <|
  am_c (ok_iald (by decide +kernel)) <|
  am_c (ok_aload_n (k := 0) (by decide +kernel) rfl) <|
  am_c (ok_get (by decide +kernel) (by decide +kernel) rfl (by decide +kernel) kw_425) <|
  am_n
def k_c124_4 : List (Nat × am_A) := [(170, ac_push (.int 41) 172), (172, ac_iload 4 174), (174, ac_ii (fun x y => x * y) 175), (175, ac_iload 6 177), (177, ac_ii (fun x y => x + y) 178), (178, ac_iald 0 179), (179, ac_if2 (fun x y => ¬ x = y) 186 182), (182, ac_push (.int 1) 183), (183, ac_goto 187), (186, ac_push (.int 0) 187), (187, ac_istore 5 189), (189, ac_iinc 6 1 192), (192, ac_goto 138), (195, ac_iload 5 197), (197, ac_zret)]
theorem k_p124_4 : ∀ q ∈ k_c124_4, am_Ok k_nm D cA B0 sb H00 (k_Th B0 sb H00) prog_8_method_35_code "TokenMouthModel" "alike" [] (some .boolean) q.1 q.2 :=
  am_c (ok_bipush (z := 41) (by decide +kernel) (by decide +kernel)) <|
  am_c (ok_iload (by decide +kernel)) <|
  am_c (ok_imul (by decide +kernel)) <|
  am_c (ok_iload (by decide +kernel)) <|
  am_c (ok_iadd (by decide +kernel)) <|
  am_c (ok_iald (by decide +kernel)) <|
  am_c (ok_icmpne (off := 7) (by decide +kernel) (by decide +kernel)) <|
  am_c (ok_iconst (z := 1) (by decide +kernel) (by decide +kernel)) <|
  am_c (ok_goto (off := 4) (by decide +kernel) (by decide +kernel)) <|
  am_c (ok_iconst (z := 0) (by decide +kernel) (by decide +kernel)) <|
  am_c (ok_istore (by decide +kernel)) <|
  am_c (ok_iinc (z := 1) (by decide +kernel) (by decide +kernel)) <|
  am_c (ok_goto (off := -54) (by decide +kernel) (by decide +kernel)) <|
  am_c (ok_iload (by decide +kernel)) <|
  am_c (ok_zret (by decide +kernel) rfl) <|
  am_n
def k_t124 : List (Nat × List (Nat × am_A)) := [(40, k_c124_0), (81, k_c124_1), (123, k_c124_2), (167, k_c124_3), (197, k_c124_4)]
theorem k_o124 : ∀ c ∈ k_t124, ∀ q ∈ c.2, am_Ok k_nm D cA B0 sb H00 (k_Th B0 sb H00) prog_8_method_35_code "TokenMouthModel" "alike" [] (some .boolean) q.1 q.2 := am_cc (P := fun pc a => am_Ok k_nm D cA B0 sb H00 (k_Th B0 sb H00) prog_8_method_35_code "TokenMouthModel" "alike" [] (some .boolean) pc a) k_p124_0 <| am_cc (P := fun pc a => am_Ok k_nm D cA B0 sb H00 (k_Th B0 sb H00) prog_8_method_35_code "TokenMouthModel" "alike" [] (some .boolean) pc a) k_p124_1 <| am_cc (P := fun pc a => am_Ok k_nm D cA B0 sb H00 (k_Th B0 sb H00) prog_8_method_35_code "TokenMouthModel" "alike" [] (some .boolean) pc a) k_p124_2 <| am_cc (P := fun pc a => am_Ok k_nm D cA B0 sb H00 (k_Th B0 sb H00) prog_8_method_35_code "TokenMouthModel" "alike" [] (some .boolean) pc a) k_p124_3 <| am_cc (P := fun pc a => am_Ok k_nm D cA B0 sb H00 (k_Th B0 sb H00) prog_8_method_35_code "TokenMouthModel" "alike" [] (some .boolean) pc a) k_p124_4 <| am_cn0
-- 125: TokenMouthModel.other(I)I
def k_c125_0 : List (Nat × am_A) := [(0, ac_iload 0 1), (1, ac_push (.int 32) 3), (3, ac_if2 (fun x y => ¬ x = y) 12 6), (6, ac_push (.int 2592) 9), (9, ac_goto 17), (12, ac_iload 0 13), (13, ac_push (.int 3072) 16), (16, ac_ii (fun x y => x + y) 17), (17, ac_iret)]
theorem k_p125_0 : ∀ q ∈ k_c125_0, am_Ok k_nm D cA B0 sb H00 (k_Th B0 sb H00) prog_8_method_36_code "TokenMouthModel" "other" [] (some .int) q.1 q.2 :=
  am_c (ok_iload_n (k := 0) (by decide +kernel) rfl) <|
  am_c (ok_bipush (z := 32) (by decide +kernel) (by decide +kernel)) <|
  am_c (ok_icmpne (off := 9) (by decide +kernel) (by decide +kernel)) <|
  am_c (ok_sipush (z := 2592) (by decide +kernel) (by decide +kernel)) <|
  am_c (ok_goto (off := 8) (by decide +kernel) (by decide +kernel)) <|
  am_c (ok_iload_n (k := 0) (by decide +kernel) rfl) <|
  am_c (ok_sipush (z := 3072) (by decide +kernel) (by decide +kernel)) <|
  am_c (ok_iadd (by decide +kernel)) <|
  am_c (ok_iret (by decide +kernel) rfl) <|
  am_n
def k_t125 : List (Nat × List (Nat × am_A)) := [(17, k_c125_0)]
theorem k_o125 : ∀ c ∈ k_t125, ∀ q ∈ c.2, am_Ok k_nm D cA B0 sb H00 (k_Th B0 sb H00) prog_8_method_36_code "TokenMouthModel" "other" [] (some .int) q.1 q.2 := am_cc (P := fun pc a => am_Ok k_nm D cA B0 sb H00 (k_Th B0 sb H00) prog_8_method_36_code "TokenMouthModel" "other" [] (some .int) pc a) k_p125_0 <| am_cn0
-- 126: TokenMouthModel.string(I)V
def k_c126_0 : List (Nat × am_A) := [(0, ac_iload 1 1), (1, ac_push (.int 4096) 4), (4, ac_if2 (fun x y => y ≤ x) 20 7), (7, ac_aload 0 8), (8, ac_iload 1 9), (9, ac_push (.int 255) 12), (12, ac_ii (fun x y => x &&& y) 13), (13, ac_callS 125 1 16), (16, ac_callV 6 106 2 19 am_nohd), (19, ac_ret), (20, ac_iload 1 21), (21, ac_callS 109 1 24), (24, ac_push (.int 4096) 27), (27, ac_ii (fun x y => x - y) 28), (28, ac_istore 2 29), (29, ac_aload 0 30), (30, ac_get 2 6 13 33), (33, ac_iload 2 34), (34, ac_iald 0 35), (35, ac_push (.int 1) 36), (36, ac_ii (fun x y => x - y) 37), (37, ac_istore 3 38), (38, ac_iload 3 39), (39, ac_if1 (fun x => x < 0) 73 42)]
theorem k_p126_0 : ∀ q ∈ k_c126_0, am_Ok k_nm D cA B0 sb H00 (k_Th B0 sb H00) prog_8_method_37_code "TokenMouthModel" "string" [] none q.1 q.2 :=
  am_c (ok_iload_n (k := 1) (by decide +kernel) rfl) <|
  am_c (ok_sipush (z := 4096) (by decide +kernel) (by decide +kernel)) <|
  am_c (ok_icmpge (off := 16) (by decide +kernel) (by decide +kernel)) <|
  am_c (ok_aload_n (k := 0) (by decide +kernel) rfl) <|
  am_c (ok_iload_n (k := 1) (by decide +kernel) rfl) <|
  am_c (ok_sipush (z := 255) (by decide +kernel) (by decide +kernel)) <|
  am_c (ok_iand (by decide +kernel)) <|
  am_c (ok_callS (by decide +kernel) kw_569 kw_570 kw_487 kw_568 (by decide +kernel) (by decide +kernel)) <|
  am_c (ok_callV (by decide +kernel) (by decide +kernel) kw_561 kw_562 kw_563 kw_560 (by decide +kernel) (by decide +kernel)) <|
  am_c (ok_ret (by decide +kernel) rfl) <|
  am_c (ok_iload_n (k := 1) (by decide +kernel) rfl) <|
  am_c (ok_callS (by decide +kernel) kw_531 kw_532 kw_487 kw_530 (by decide +kernel) (by decide +kernel)) <|
  am_c (ok_sipush (z := 4096) (by decide +kernel) (by decide +kernel)) <|
  am_c (ok_isub (by decide +kernel)) <|
  am_c (ok_istore_n (k := 2) (by decide +kernel) rfl) <|
  am_c (ok_aload_n (k := 0) (by decide +kernel) rfl) <|
  am_c (ok_get (by decide +kernel) (by decide +kernel) rfl (by decide +kernel) kw_414) <|
  am_c (ok_iload_n (k := 2) (by decide +kernel) rfl) <|
  am_c (ok_iald (by decide +kernel)) <|
  am_c (ok_iconst (z := 1) (by decide +kernel) (by decide +kernel)) <|
  am_c (ok_isub (by decide +kernel)) <|
  am_c (ok_istore_n (k := 3) (by decide +kernel) rfl) <|
  am_c (ok_iload_n (k := 3) (by decide +kernel) rfl) <|
  am_c (ok_iflt (off := 34) (by decide +kernel) (by decide +kernel)) <|
  am_n
def k_c126_1 : List (Nat × am_A) := [(42, ac_aload 0 43), (43, ac_get 0 6 5 46), (46, ac_if1 (fun x => ¬ x = 0) 73 49), (49, ac_aload 0 50), (50, ac_aload 0 51), (51, ac_get 2 6 12 54), (54, ac_push (.int 11) 56), (56, ac_iload 2 57), (57, ac_ii (fun x y => x * y) 58), (58, ac_iload 3 59), (59, ac_ii (fun x y => x + y) 60), (60, ac_iald 0 61), (61, ac_callS 125 1 64), (64, ac_callV 6 106 2 67 am_nohd), (67, ac_iinc 3 (-1) 70), (70, ac_goto 38), (73, ac_aload 0 74), (74, ac_get 2 6 14 77), (77, ac_iload 2 78), (78, ac_iald 2 79), (79, ac_if1 (fun x => ¬ x = 0) 98 82), (82, ac_aload 0 83), (83, ac_get 0 6 5 86), (86, ac_if1 (fun x => ¬ x = 0) 98 89)]
theorem k_p126_1 : ∀ q ∈ k_c126_1, am_Ok k_nm D cA B0 sb H00 (k_Th B0 sb H00) prog_8_method_37_code "TokenMouthModel" "string" [] none q.1 q.2 :=
  am_c (ok_aload_n (k := 0) (by decide +kernel) rfl) <|
  am_c (ok_get (by decide +kernel) (by decide +kernel) rfl (by decide +kernel) kw_475) <|
  am_c (ok_ifne (off := 27) (by decide +kernel) (by decide +kernel)) <|
  am_c (ok_aload_n (k := 0) (by decide +kernel) rfl) <|
  am_c (ok_aload_n (k := 0) (by decide +kernel) rfl) <|
  am_c (ok_get (by decide +kernel) (by decide +kernel) rfl (by decide +kernel) kw_413) <|
  am_c (ok_bipush (z := 11) (by decide +kernel) (by decide +kernel)) <|
  am_c (ok_iload_n (k := 2) (by decide +kernel) rfl) <|
  am_c (ok_imul (by decide +kernel)) <|
  am_c (ok_iload_n (k := 3) (by decide +kernel) rfl) <|
  am_c (ok_iadd (by decide +kernel)) <|
  am_c (ok_iald (by decide +kernel)) <|
  am_c (ok_callS (by decide +kernel) kw_569 kw_570 kw_487 kw_568 (by decide +kernel) (by decide +kernel)) <|
  am_c (ok_callV (by decide +kernel) (by decide +kernel) kw_561 kw_562 kw_563 kw_560 (by decide +kernel) (by decide +kernel)) <|
  am_c (ok_iinc (z := (-1)) (by decide +kernel) (by decide +kernel)) <|
  am_c (ok_goto (off := -32) (by decide +kernel) (by decide +kernel)) <|
  am_c (ok_aload_n (k := 0) (by decide +kernel) rfl) <|
  am_c (ok_get (by decide +kernel) (by decide +kernel) rfl (by decide +kernel) kw_416) <|
  am_c (ok_iload_n (k := 2) (by decide +kernel) rfl) <|
  am_c (ok_zald (by decide +kernel)) <|
  am_c (ok_ifne (off := 19) (by decide +kernel) (by decide +kernel)) <|
  am_c (ok_aload_n (k := 0) (by decide +kernel) rfl) <|
  am_c (ok_get (by decide +kernel) (by decide +kernel) rfl (by decide +kernel) kw_475) <|
  am_c (ok_ifne (off := 12) (by decide +kernel) (by decide +kernel)) <|
  am_n
def k_c126_2 : List (Nat × am_A) := [(89, ac_aload 0 90), (90, ac_push (.int 92) 92), (92, ac_callS 125 1 95), (95, ac_callV 6 106 2 98 am_nohd), (98, ac_ret)]
theorem k_p126_2 : ∀ q ∈ k_c126_2, am_Ok k_nm D cA B0 sb H00 (k_Th B0 sb H00) prog_8_method_37_code "TokenMouthModel" "string" [] none q.1 q.2 :=
  am_c (ok_aload_n (k := 0) (by decide +kernel) rfl) <|
  am_c (ok_bipush (z := 92) (by decide +kernel) (by decide +kernel)) <|
  am_c (ok_callS (by decide +kernel) kw_569 kw_570 kw_487 kw_568 (by decide +kernel) (by decide +kernel)) <|
  am_c (ok_callV (by decide +kernel) (by decide +kernel) kw_561 kw_562 kw_563 kw_560 (by decide +kernel) (by decide +kernel)) <|
  am_c (ok_ret (by decide +kernel) rfl) <|
  am_n
def k_t126 : List (Nat × List (Nat × am_A)) := [(39, k_c126_0), (86, k_c126_1), (98, k_c126_2)]
theorem k_o126 : ∀ c ∈ k_t126, ∀ q ∈ c.2, am_Ok k_nm D cA B0 sb H00 (k_Th B0 sb H00) prog_8_method_37_code "TokenMouthModel" "string" [] none q.1 q.2 := am_cc (P := fun pc a => am_Ok k_nm D cA B0 sb H00 (k_Th B0 sb H00) prog_8_method_37_code "TokenMouthModel" "string" [] none pc a) k_p126_0 <| am_cc (P := fun pc a => am_Ok k_nm D cA B0 sb H00 (k_Th B0 sb H00) prog_8_method_37_code "TokenMouthModel" "string" [] none pc a) k_p126_1 <| am_cc (P := fun pc a => am_Ok k_nm D cA B0 sb H00 (k_Th B0 sb H00) prog_8_method_37_code "TokenMouthModel" "string" [] none pc a) k_p126_2 <| am_cn0
-- 127: TokenMouthModel.push(III)V
def k_c127_0 : List (Nat × am_A) := [(0, ac_aload 0 1), (1, ac_get 2 6 32 4), (4, ac_aload 0 5), (5, ac_get 0 6 31 8), (8, ac_iload 1 9), (9, ac_iast 10), (10, ac_aload 0 11), (11, ac_get 2 6 33 14), (14, ac_aload 0 15), (15, ac_get 0 6 31 18), (18, ac_iload 2 19), (19, ac_iast 20), (20, ac_aload 0 21), (21, ac_get 2 6 34 24), (24, ac_aload 0 25), (25, ac_get 0 6 31 28), (28, ac_push (.int 0) 29), (29, ac_iast 30), (30, ac_aload 0 31), (31, ac_get 2 6 35 34), (34, ac_aload 0 35), (35, ac_get 0 6 31 38), (38, ac_iload 3 39), (39, ac_iast 40)]
theorem k_p127_0 : ∀ q ∈ k_c127_0, am_Ok k_nm D cA B0 sb H00 (k_Th B0 sb H00) prog_8_method_38_code "TokenMouthModel" "push" [] none q.1 q.2 :=
  am_c (ok_aload_n (k := 0) (by decide +kernel) rfl) <|
  am_c (ok_get (by decide +kernel) (by decide +kernel) rfl (by decide +kernel) kw_428) <|
  am_c (ok_aload_n (k := 0) (by decide +kernel) rfl) <|
  am_c (ok_get (by decide +kernel) (by decide +kernel) rfl (by decide +kernel) kw_482) <|
  am_c (ok_iload_n (k := 1) (by decide +kernel) rfl) <|
  am_c (ok_iast (by decide +kernel)) <|
  am_c (ok_aload_n (k := 0) (by decide +kernel) rfl) <|
  am_c (ok_get (by decide +kernel) (by decide +kernel) rfl (by decide +kernel) kw_429) <|
  am_c (ok_aload_n (k := 0) (by decide +kernel) rfl) <|
  am_c (ok_get (by decide +kernel) (by decide +kernel) rfl (by decide +kernel) kw_482) <|
  am_c (ok_iload_n (k := 2) (by decide +kernel) rfl) <|
  am_c (ok_iast (by decide +kernel)) <|
  am_c (ok_aload_n (k := 0) (by decide +kernel) rfl) <|
  am_c (ok_get (by decide +kernel) (by decide +kernel) rfl (by decide +kernel) kw_430) <|
  am_c (ok_aload_n (k := 0) (by decide +kernel) rfl) <|
  am_c (ok_get (by decide +kernel) (by decide +kernel) rfl (by decide +kernel) kw_482) <|
  am_c (ok_iconst (z := 0) (by decide +kernel) (by decide +kernel)) <|
  am_c (ok_iast (by decide +kernel)) <|
  am_c (ok_aload_n (k := 0) (by decide +kernel) rfl) <|
  am_c (ok_get (by decide +kernel) (by decide +kernel) rfl (by decide +kernel) kw_431) <|
  am_c (ok_aload_n (k := 0) (by decide +kernel) rfl) <|
  am_c (ok_get (by decide +kernel) (by decide +kernel) rfl (by decide +kernel) kw_482) <|
  am_c (ok_iload_n (k := 3) (by decide +kernel) rfl) <|
  am_c (ok_iast (by decide +kernel)) <|
  am_n
def k_c127_1 : List (Nat × am_A) := [(40, ac_aload 0 41), (41, ac_dup 42), (42, ac_get 0 6 31 45), (45, ac_push (.int 1) 46), (46, ac_ii (fun x y => x + y) 47), (47, ac_putI 6 31 50), (50, ac_ret)]
theorem k_p127_1 : ∀ q ∈ k_c127_1, am_Ok k_nm D cA B0 sb H00 (k_Th B0 sb H00) prog_8_method_38_code "TokenMouthModel" "push" [] none q.1 q.2 :=
  am_c (ok_aload_n (k := 0) (by decide +kernel) rfl) <|
  am_c (ok_dup (by decide +kernel)) <|
  am_c (ok_get (by decide +kernel) (by decide +kernel) rfl (by decide +kernel) kw_482) <|
  am_c (ok_iconst (z := 1) (by decide +kernel) (by decide +kernel)) <|
  am_c (ok_iadd (by decide +kernel)) <|
  am_c (ok_putI (by decide +kernel) (by decide +kernel) rfl (by decide +kernel) kw_482 rfl) <|
  am_c (ok_ret (by decide +kernel) rfl) <|
  am_n
def k_t127 : List (Nat × List (Nat × am_A)) := [(39, k_c127_0), (50, k_c127_1)]
theorem k_o127 : ∀ c ∈ k_t127, ∀ q ∈ c.2, am_Ok k_nm D cA B0 sb H00 (k_Th B0 sb H00) prog_8_method_38_code "TokenMouthModel" "push" [] none q.1 q.2 := am_cc (P := fun pc a => am_Ok k_nm D cA B0 sb H00 (k_Th B0 sb H00) prog_8_method_38_code "TokenMouthModel" "push" [] none pc a) k_p127_0 <| am_cc (P := fun pc a => am_Ok k_nm D cA B0 sb H00 (k_Th B0 sb H00) prog_8_method_38_code "TokenMouthModel" "push" [] none pc a) k_p127_1 <| am_cn0
-- 128: TokenMouthModel.begin(I)I
def k_c128_0 : List (Nat × am_A) := [(0, ac_aload 0 1), (1, ac_get 0 6 7 4), (4, ac_push (.int 200) 7), (7, ac_if2 (fun x y => x = y) 19 10), (10, ac_aload 0 11), (11, ac_get 0 6 31 14), (14, ac_push (.int 30) 16), (16, ac_if2 (fun x y => ¬ x = y) 25 19), (19, ac_aload 0 20), (20, ac_push (.int 5) 21), (21, ac_callV 6 98 2 24 am_nohd), (24, ac_iret), (25, ac_aload 0 26), (26, ac_dup 27), (27, ac_get 0 6 7 30), (30, ac_push (.int 1) 31), (31, ac_ii (fun x y => x + y) 32), (32, ac_putI 6 7 35), (35, ac_aload 0 36), (36, ac_iload 1 37), (37, ac_callV 6 111 2 40 am_nohd), (40, ac_istore 2 41), (41, ac_iload 2 42), (42, ac_push (.int 6000) 45)]
theorem k_p128_0 : ∀ q ∈ k_c128_0, am_Ok k_nm D cA B0 sb H00 (k_Th B0 sb H00) prog_8_method_39_code "TokenMouthModel" "begin" [] (some .int) q.1 q.2 :=
  am_c (ok_aload_n (k := 0) (by decide +kernel) rfl) <|
  am_c (ok_get (by decide +kernel) (by decide +kernel) rfl (by decide +kernel) kw_571) <|
  am_c (ok_sipush (z := 200) (by decide +kernel) (by decide +kernel)) <|
  am_c (ok_icmpeq (off := 12) (by decide +kernel) (by decide +kernel)) <|
  am_c (ok_aload_n (k := 0) (by decide +kernel) rfl) <|
  am_c (ok_get (by decide +kernel) (by decide +kernel) rfl (by decide +kernel) kw_482) <|
  am_c (ok_bipush (z := 30) (by decide +kernel) (by decide +kernel)) <|
  am_c (ok_icmpne (off := 9) (by decide +kernel) (by decide +kernel)) <|
  am_c (ok_aload_n (k := 0) (by decide +kernel) rfl) <|
  am_c (ok_iconst (z := 5) (by decide +kernel) (by decide +kernel)) <|
  am_c (ok_callV (by decide +kernel) (by decide +kernel) kw_497 kw_498 kw_499 kw_496 (by decide +kernel) (by decide +kernel)) <|
  am_c (ok_iret (by decide +kernel) rfl) <|
  am_c (ok_aload_n (k := 0) (by decide +kernel) rfl) <|
  am_c (ok_dup (by decide +kernel)) <|
  am_c (ok_get (by decide +kernel) (by decide +kernel) rfl (by decide +kernel) kw_571) <|
  am_c (ok_iconst (z := 1) (by decide +kernel) (by decide +kernel)) <|
  am_c (ok_iadd (by decide +kernel)) <|
  am_c (ok_putI (by decide +kernel) (by decide +kernel) rfl (by decide +kernel) kw_571 rfl) <|
  am_c (ok_aload_n (k := 0) (by decide +kernel) rfl) <|
  am_c (ok_iload_n (k := 1) (by decide +kernel) rfl) <|
  am_c (ok_callV (by decide +kernel) (by decide +kernel) kw_527 kw_528 kw_529 kw_526 (by decide +kernel) (by decide +kernel)) <|
  am_c (ok_istore_n (k := 2) (by decide +kernel) rfl) <|
  am_c (ok_iload_n (k := 2) (by decide +kernel) rfl) <|
  am_c (ok_sipush (z := 6000) (by decide +kernel) (by decide +kernel)) <|
  am_n
def k_c128_1 : List (Nat × am_A) := [(45, ac_if2 (fun x y => x < y) 60 48), (48, ac_aload 0 49), (49, ac_iload 2 50), (50, ac_push (.int 6000) 53), (53, ac_ii (fun x y => x - y) 54), (54, ac_callV 6 120 2 57 am_nohd), (57, ac_goto 254), (60, ac_iload 2 61), (61, ac_push (.int 8) 63), (63, ac_if2 (fun x y => ¬ x = y) 131 66), (66, ac_aload 0 67), (67, ac_callV 6 105 1 70 am_nohd), (70, ac_istore 3 71), (71, ac_iload 3 72), (72, ac_push (.int (-1)) 73), (73, ac_if2 (fun x y => ¬ x = y) 80 76), (76, ac_push (.int (-1)) 77), (77, ac_goto 84), (80, ac_aload 0 81), (81, ac_callV 6 105 1 84 am_nohd), (84, ac_istore 4 86), (86, ac_iload 4 88), (88, ac_push (.int (-1)) 89), (89, ac_if2 (fun x y => x = y) 111 92)]
theorem k_p128_1 : ∀ q ∈ k_c128_1, am_Ok k_nm D cA B0 sb H00 (k_Th B0 sb H00) prog_8_method_39_code "TokenMouthModel" "begin" [] (some .int) q.1 q.2 :=
  am_c (ok_icmplt (off := 15) (by decide +kernel) (by decide +kernel)) <|
  am_c (ok_aload_n (k := 0) (by decide +kernel) rfl) <|
  am_c (ok_iload_n (k := 2) (by decide +kernel) rfl) <|
  am_c (ok_sipush (z := 6000) (by decide +kernel) (by decide +kernel)) <|
  am_c (ok_isub (by decide +kernel)) <|
  am_c (ok_callV (by decide +kernel) (by decide +kernel) kw_573 kw_574 kw_575 kw_572 (by decide +kernel) (by decide +kernel)) <|
  am_c (ok_goto (off := 197) (by decide +kernel) (by decide +kernel)) <|
  am_c (ok_iload_n (k := 2) (by decide +kernel) rfl) <|
  am_c (ok_bipush (z := 8) (by decide +kernel) (by decide +kernel)) <|
  am_c (ok_icmpne (off := 68) (by decide +kernel) (by decide +kernel)) <|
  am_c (ok_aload_n (k := 0) (by decide +kernel) rfl) <|
  am_c (ok_callV (by decide +kernel) (by decide +kernel) kw_549 kw_550 kw_551 kw_548 (by decide +kernel) (by decide +kernel)) <|
  am_c (ok_istore_n (k := 3) (by decide +kernel) rfl) <|
  am_c (ok_iload_n (k := 3) (by decide +kernel) rfl) <|
  am_c (ok_iconst (z := -1) (by decide +kernel) (by decide +kernel)) <|
  am_c (ok_icmpne (off := 7) (by decide +kernel) (by decide +kernel)) <|
  am_c (ok_iconst (z := -1) (by decide +kernel) (by decide +kernel)) <|
  am_c (ok_goto (off := 7) (by decide +kernel) (by decide +kernel)) <|
  am_c (ok_aload_n (k := 0) (by decide +kernel) rfl) <|
  am_c (ok_callV (by decide +kernel) (by decide +kernel) kw_549 kw_550 kw_551 kw_548 (by decide +kernel) (by decide +kernel)) <|
  am_c (ok_istore (by decide +kernel)) <|
  am_c (ok_iload (by decide +kernel)) <|
  am_c (ok_iconst (z := -1) (by decide +kernel) (by decide +kernel)) <|
  am_c (ok_icmpeq (off := 22) (by decide +kernel) (by decide +kernel)) <|
  am_n
def k_c128_2 : List (Nat × am_A) := [(92, ac_aload 0 93), (93, ac_iload 4 95), (95, ac_callV 6 112 2 98 am_nohd), (98, ac_if1 (fun x => x = 0) 111 101), (101, ac_aload 0 102), (102, ac_iload 2 103), (103, ac_iload 3 104), (104, ac_push (.int 0) 105), (105, ac_callV 6 127 4 108 am_nohd), (108, ac_iload 4 110), (110, ac_iret), (111, ac_iload 4 113), (113, ac_push (.int (-1)) 114), (114, ac_if2 (fun x y => x = y) 128 117), (117, ac_aload 0 118), (118, ac_iload 4 120), (120, ac_callV 6 106 2 123 am_nohd), (123, ac_aload 0 124), (124, ac_iload 3 125), (125, ac_callV 6 106 2 128 am_nohd), (128, ac_goto 254), (131, ac_iload 2 132), (132, ac_push (.int 9) 134), (134, ac_if2 (fun x y => ¬ x = y) 178 137)]
theorem k_p128_2 : ∀ q ∈ k_c128_2, am_Ok k_nm D cA B0 sb H00 (k_Th B0 sb H00) prog_8_method_39_code "TokenMouthModel" "begin" [] (some .int) q.1 q.2 :=
  am_c (ok_aload_n (k := 0) (by decide +kernel) rfl) <|
  am_c (ok_iload (by decide +kernel)) <|
  am_c (ok_callV (by decide +kernel) (by decide +kernel) kw_577 kw_578 kw_579 kw_576 (by decide +kernel) (by decide +kernel)) <|
  am_c (ok_ifeq (off := 13) (by decide +kernel) (by decide +kernel)) <|
  am_c (ok_aload_n (k := 0) (by decide +kernel) rfl) <|
  am_c (ok_iload_n (k := 2) (by decide +kernel) rfl) <|
  am_c (ok_iload_n (k := 3) (by decide +kernel) rfl) <|
  am_c (ok_iconst (z := 0) (by decide +kernel) (by decide +kernel)) <|
  am_c (ok_callV (by decide +kernel) (by decide +kernel) kw_581 kw_582 kw_583 kw_580 (by decide +kernel) (by decide +kernel)) <|
  am_c (ok_iload (by decide +kernel)) <|
  am_c (ok_iret (by decide +kernel) rfl) <|
  am_c (ok_iload (by decide +kernel)) <|
  am_c (ok_iconst (z := -1) (by decide +kernel) (by decide +kernel)) <|
  am_c (ok_icmpeq (off := 14) (by decide +kernel) (by decide +kernel)) <|
  am_c (ok_aload_n (k := 0) (by decide +kernel) rfl) <|
  am_c (ok_iload (by decide +kernel)) <|
  am_c (ok_callV (by decide +kernel) (by decide +kernel) kw_561 kw_562 kw_563 kw_560 (by decide +kernel) (by decide +kernel)) <|
  am_c (ok_aload_n (k := 0) (by decide +kernel) rfl) <|
  am_c (ok_iload_n (k := 3) (by decide +kernel) rfl) <|
  am_c (ok_callV (by decide +kernel) (by decide +kernel) kw_561 kw_562 kw_563 kw_560 (by decide +kernel) (by decide +kernel)) <|
  am_c (ok_goto (off := 126) (by decide +kernel) (by decide +kernel)) <|
  am_c (ok_iload_n (k := 2) (by decide +kernel) rfl) <|
  am_c (ok_bipush (z := 9) (by decide +kernel) (by decide +kernel)) <|
  am_c (ok_icmpne (off := 44) (by decide +kernel) (by decide +kernel)) <|
  am_n
def k_c128_3 : List (Nat × am_A) := [(137, ac_aload 0 138), (138, ac_callV 6 105 1 141 am_nohd), (141, ac_istore 3 142), (142, ac_iload 3 143), (143, ac_push (.int (-1)) 144), (144, ac_if2 (fun x y => x = y) 175 147), (147, ac_aload 0 148), (148, ac_iload 3 149), (149, ac_callS 107 1 152), (152, ac_if1 (fun x => x = 0) 171 155), (155, ac_aload 0 156), (156, ac_iload 3 157), (157, ac_callV 6 112 2 160 am_nohd), (160, ac_if1 (fun x => x = 0) 171 163), (163, ac_iload 3 164), (164, ac_push (.int 8192) 167), (167, ac_ii (fun x y => x + y) 168), (168, ac_goto 172), (171, ac_iload 3 172), (172, ac_callV 6 106 2 175 am_nohd), (175, ac_goto 254), (178, ac_iload 2 179), (179, ac_push (.int 12) 181), (181, ac_if2 (fun x y => ¬ x = y) 202 184)]
theorem k_p128_3 : ∀ q ∈ k_c128_3, am_Ok k_nm D cA B0 sb H00 (k_Th B0 sb H00) prog_8_method_39_code "TokenMouthModel" "begin" [] (some .int) q.1 q.2 :=
  am_c (ok_aload_n (k := 0) (by decide +kernel) rfl) <|
  am_c (ok_callV (by decide +kernel) (by decide +kernel) kw_549 kw_550 kw_551 kw_548 (by decide +kernel) (by decide +kernel)) <|
  am_c (ok_istore_n (k := 3) (by decide +kernel) rfl) <|
  am_c (ok_iload_n (k := 3) (by decide +kernel) rfl) <|
  am_c (ok_iconst (z := -1) (by decide +kernel) (by decide +kernel)) <|
  am_c (ok_icmpeq (off := 31) (by decide +kernel) (by decide +kernel)) <|
  am_c (ok_aload_n (k := 0) (by decide +kernel) rfl) <|
  am_c (ok_iload_n (k := 3) (by decide +kernel) rfl) <|
  am_c (ok_callS (by decide +kernel) kw_521 kw_522 kw_487 kw_520 (by decide +kernel) (by decide +kernel)) <|
  am_c (ok_ifeq (off := 19) (by decide +kernel) (by decide +kernel)) <|
  am_c (ok_aload_n (k := 0) (by decide +kernel) rfl) <|
  am_c (ok_iload_n (k := 3) (by decide +kernel) rfl) <|
  am_c (ok_callV (by decide +kernel) (by decide +kernel) kw_577 kw_578 kw_579 kw_576 (by decide +kernel) (by decide +kernel)) <|
  am_c (ok_ifeq (off := 11) (by decide +kernel) (by decide +kernel)) <|
  am_c (ok_iload_n (k := 3) (by decide +kernel) rfl) <|
  am_c (ok_sipush (z := 8192) (by decide +kernel) (by decide +kernel)) <|
  am_c (ok_iadd (by decide +kernel)) <|
  am_c (ok_goto (off := 4) (by decide +kernel) (by decide +kernel)) <|
  am_c (ok_iload_n (k := 3) (by decide +kernel) rfl) <|
  am_c (ok_callV (by decide +kernel) (by decide +kernel) kw_561 kw_562 kw_563 kw_560 (by decide +kernel) (by decide +kernel)) <|
  am_c (ok_goto (off := 79) (by decide +kernel) (by decide +kernel)) <|
  am_c (ok_iload_n (k := 2) (by decide +kernel) rfl) <|
  am_c (ok_bipush (z := 12) (by decide +kernel) (by decide +kernel)) <|
  am_c (ok_icmpne (off := 21) (by decide +kernel) (by decide +kernel)) <|
  am_n
def k_c128_4 : List (Nat × am_A) := [(184, ac_aload 0 185), (185, ac_callV 6 105 1 188 am_nohd), (188, ac_istore 3 189), (189, ac_iload 3 190), (190, ac_push (.int (-1)) 191), (191, ac_if2 (fun x y => x = y) 199 194), (194, ac_aload 0 195), (195, ac_iload 3 196), (196, ac_callV 6 126 2 199 am_nohd), (199, ac_goto 254), (202, ac_iload 2 203), (203, ac_push (.int 10) 205), (205, ac_if2 (fun x y => ¬ x = y) 218 208), (208, ac_aload 0 209), (209, ac_iload 2 210), (210, ac_push (.int 0) 211), (211, ac_push (.int 0) 212), (212, ac_callV 6 127 4 215 am_nohd), (215, ac_goto 254), (218, ac_iload 2 219), (219, ac_push (.int 17) 221), (221, ac_if2 (fun x y => x = y) 230 224), (224, ac_iload 2 225), (225, ac_push (.int 18) 227)]
theorem k_p128_4 : ∀ q ∈ k_c128_4, am_Ok k_nm D cA B0 sb H00 (k_Th B0 sb H00) prog_8_method_39_code "TokenMouthModel" "begin" [] (some .int) q.1 q.2 :=
  am_c (ok_aload_n (k := 0) (by decide +kernel) rfl) <|
  am_c (ok_callV (by decide +kernel) (by decide +kernel) kw_549 kw_550 kw_551 kw_548 (by decide +kernel) (by decide +kernel)) <|
  am_c (ok_istore_n (k := 3) (by decide +kernel) rfl) <|
  am_c (ok_iload_n (k := 3) (by decide +kernel) rfl) <|
  am_c (ok_iconst (z := -1) (by decide +kernel) (by decide +kernel)) <|
  am_c (ok_icmpeq (off := 8) (by decide +kernel) (by decide +kernel)) <|
  am_c (ok_aload_n (k := 0) (by decide +kernel) rfl) <|
  am_c (ok_iload_n (k := 3) (by decide +kernel) rfl) <|
  am_c (ok_callV (by decide +kernel) (by decide +kernel) kw_585 kw_586 kw_587 kw_584 (by decide +kernel) (by decide +kernel)) <|
  am_c (ok_goto (off := 55) (by decide +kernel) (by decide +kernel)) <|
  am_c (ok_iload_n (k := 2) (by decide +kernel) rfl) <|
  am_c (ok_bipush (z := 10) (by decide +kernel) (by decide +kernel)) <|
  am_c (ok_icmpne (off := 13) (by decide +kernel) (by decide +kernel)) <|
  am_c (ok_aload_n (k := 0) (by decide +kernel) rfl) <|
  am_c (ok_iload_n (k := 2) (by decide +kernel) rfl) <|
  am_c (ok_iconst (z := 0) (by decide +kernel) (by decide +kernel)) <|
  am_c (ok_iconst (z := 0) (by decide +kernel) (by decide +kernel)) <|
  am_c (ok_callV (by decide +kernel) (by decide +kernel) kw_581 kw_582 kw_583 kw_580 (by decide +kernel) (by decide +kernel)) <|
  am_c (ok_goto (off := 39) (by decide +kernel) (by decide +kernel)) <|
  am_c (ok_iload_n (k := 2) (by decide +kernel) rfl) <|
  am_c (ok_bipush (z := 17) (by decide +kernel) (by decide +kernel)) <|
  am_c (ok_icmpeq (off := 9) (by decide +kernel) (by decide +kernel)) <|
  am_c (ok_iload_n (k := 2) (by decide +kernel) rfl) <|
  am_c (ok_bipush (z := 18) (by decide +kernel) (by decide +kernel)) <|
  am_n
def k_c128_5 : List (Nat × am_A) := [(227, ac_if2 (fun x y => ¬ x = y) 238 230), (230, ac_aload 0 231), (231, ac_iload 2 232), (232, ac_callV 6 129 2 235 am_nohd), (235, ac_goto 254), (238, ac_aload 0 239), (239, ac_callV 6 121 1 242 am_nohd), (242, ac_aload 0 243), (243, ac_get 0 6 5 246), (246, ac_if1 (fun x => ¬ x = 0) 254 249), (249, ac_aload 0 250), (250, ac_iload 2 251), (251, ac_callV 6 130 2 254 am_nohd), (254, ac_push (.int (-1)) 255), (255, ac_iret)]
theorem k_p128_5 : ∀ q ∈ k_c128_5, am_Ok k_nm D cA B0 sb H00 (k_Th B0 sb H00) prog_8_method_39_code "TokenMouthModel" "begin" [] (some .int) q.1 q.2 :=
  am_c (ok_icmpne (off := 11) (by decide +kernel) (by decide +kernel)) <|
  am_c (ok_aload_n (k := 0) (by decide +kernel) rfl) <|
  am_c (ok_iload_n (k := 2) (by decide +kernel) rfl) <|
  am_c (ok_callV (by decide +kernel) (by decide +kernel) kw_589 kw_590 kw_591 kw_588 (by decide +kernel) (by decide +kernel)) <|
  am_c (ok_goto (off := 19) (by decide +kernel) (by decide +kernel)) <|
  am_c (ok_aload_n (k := 0) (by decide +kernel) rfl) <|
  am_c (ok_callV (by decide +kernel) (by decide +kernel) kw_593 kw_594 kw_595 kw_592 (by decide +kernel) (by decide +kernel)) <|
  am_c (ok_aload_n (k := 0) (by decide +kernel) rfl) <|
  am_c (ok_get (by decide +kernel) (by decide +kernel) rfl (by decide +kernel) kw_475) <|
  am_c (ok_ifne (off := 8) (by decide +kernel) (by decide +kernel)) <|
  am_c (ok_aload_n (k := 0) (by decide +kernel) rfl) <|
  am_c (ok_iload_n (k := 2) (by decide +kernel) rfl) <|
  am_c (ok_callV (by decide +kernel) (by decide +kernel) kw_597 kw_598 kw_599 kw_596 (by decide +kernel) (by decide +kernel)) <|
  am_c (ok_iconst (z := -1) (by decide +kernel) (by decide +kernel)) <|
  am_c (ok_iret (by decide +kernel) rfl) <|
  am_n
def k_t128 : List (Nat × List (Nat × am_A)) := [(42, k_c128_0), (89, k_c128_1), (134, k_c128_2), (181, k_c128_3), (225, k_c128_4), (255, k_c128_5)]
theorem k_o128 : ∀ c ∈ k_t128, ∀ q ∈ c.2, am_Ok k_nm D cA B0 sb H00 (k_Th B0 sb H00) prog_8_method_39_code "TokenMouthModel" "begin" [] (some .int) q.1 q.2 := am_cc (P := fun pc a => am_Ok k_nm D cA B0 sb H00 (k_Th B0 sb H00) prog_8_method_39_code "TokenMouthModel" "begin" [] (some .int) pc a) k_p128_0 <| am_cc (P := fun pc a => am_Ok k_nm D cA B0 sb H00 (k_Th B0 sb H00) prog_8_method_39_code "TokenMouthModel" "begin" [] (some .int) pc a) k_p128_1 <| am_cc (P := fun pc a => am_Ok k_nm D cA B0 sb H00 (k_Th B0 sb H00) prog_8_method_39_code "TokenMouthModel" "begin" [] (some .int) pc a) k_p128_2 <| am_cc (P := fun pc a => am_Ok k_nm D cA B0 sb H00 (k_Th B0 sb H00) prog_8_method_39_code "TokenMouthModel" "begin" [] (some .int) pc a) k_p128_3 <| am_cc (P := fun pc a => am_Ok k_nm D cA B0 sb H00 (k_Th B0 sb H00) prog_8_method_39_code "TokenMouthModel" "begin" [] (some .int) pc a) k_p128_4 <| am_cc (P := fun pc a => am_Ok k_nm D cA B0 sb H00 (k_Th B0 sb H00) prog_8_method_39_code "TokenMouthModel" "begin" [] (some .int) pc a) k_p128_5 <| am_cn0
-- 129: TokenMouthModel.close(I)V
def k_c129_0 : List (Nat × am_A) := [(0, ac_aload 0 1), (1, ac_get 0 6 29 4), (4, ac_if1 (fun x => x ≤ 0) 49 7), (7, ac_iload 1 8), (8, ac_push (.int 17) 10), (10, ac_if2 (fun x y => ¬ x = y) 31 13), (13, ac_aload 0 14), (14, ac_get 2 6 30 17), (17, ac_aload 0 18), (18, ac_get 0 6 29 21), (21, ac_push (.int 1) 22), (22, ac_ii (fun x y => x - y) 23), (23, ac_iald 0 24), (24, ac_push (.int 1) 25), (25, ac_if2 (fun x y => ¬ x = y) 49 28), (28, ac_goto 45), (31, ac_aload 0 32), (32, ac_get 2 6 30 35), (35, ac_aload 0 36), (36, ac_get 0 6 29 39), (39, ac_push (.int 1) 40), (40, ac_ii (fun x y => x - y) 41), (41, ac_iald 0 42), (42, ac_if1 (fun x => x ≤ 0) 49 45)]
theorem k_p129_0 : ∀ q ∈ k_c129_0, am_Ok k_nm D cA B0 sb H00 (k_Th B0 sb H00) prog_8_method_40_code "TokenMouthModel" "close" [] none q.1 q.2 :=
  am_c (ok_aload_n (k := 0) (by decide +kernel) rfl) <|
  am_c (ok_get (by decide +kernel) (by decide +kernel) rfl (by decide +kernel) kw_481) <|
  am_c (ok_ifle (off := 45) (by decide +kernel) (by decide +kernel)) <|
  am_c (ok_iload_n (k := 1) (by decide +kernel) rfl) <|
  am_c (ok_bipush (z := 17) (by decide +kernel) (by decide +kernel)) <|
  am_c (ok_icmpne (off := 21) (by decide +kernel) (by decide +kernel)) <|
  am_c (ok_aload_n (k := 0) (by decide +kernel) rfl) <|
  am_c (ok_get (by decide +kernel) (by decide +kernel) rfl (by decide +kernel) kw_427) <|
  am_c (ok_aload_n (k := 0) (by decide +kernel) rfl) <|
  am_c (ok_get (by decide +kernel) (by decide +kernel) rfl (by decide +kernel) kw_481) <|
  am_c (ok_iconst (z := 1) (by decide +kernel) (by decide +kernel)) <|
  am_c (ok_isub (by decide +kernel)) <|
  am_c (ok_iald (by decide +kernel)) <|
  am_c (ok_iconst (z := 1) (by decide +kernel) (by decide +kernel)) <|
  am_c (ok_icmpne (off := 24) (by decide +kernel) (by decide +kernel)) <|
  am_c (ok_goto (off := 17) (by decide +kernel) (by decide +kernel)) <|
  am_c (ok_aload_n (k := 0) (by decide +kernel) rfl) <|
  am_c (ok_get (by decide +kernel) (by decide +kernel) rfl (by decide +kernel) kw_427) <|
  am_c (ok_aload_n (k := 0) (by decide +kernel) rfl) <|
  am_c (ok_get (by decide +kernel) (by decide +kernel) rfl (by decide +kernel) kw_481) <|
  am_c (ok_iconst (z := 1) (by decide +kernel) (by decide +kernel)) <|
  am_c (ok_isub (by decide +kernel)) <|
  am_c (ok_iald (by decide +kernel)) <|
  am_c (ok_ifle (off := 7) (by decide +kernel) (by decide +kernel)) <|
  am_n
def k_c129_1 : List (Nat × am_A) := [(45, ac_push (.int 1) 46), (46, ac_goto 50), (49, ac_push (.int 0) 50), (50, ac_istore 2 51), (51, ac_iload 2 52), (52, ac_if1 (fun x => ¬ x = 0) 62 55), (55, ac_aload 0 56), (56, ac_push (.int 1) 57), (57, ac_callV 6 98 2 60 am_nohd), (60, ac_istore 3 61), (61, ac_ret), (62, ac_iload 1 63), (63, ac_push (.int 17) 65), (65, ac_if2 (fun x y => ¬ x = y) 80 68), (68, ac_aload 0 69), (69, ac_push (.int 0) 70), (70, ac_callV 6 122 2 73 am_nohd), (73, ac_if1 (fun x => x = 0) 80 76), (76, ac_push (.int 1) 77), (77, ac_goto 81), (80, ac_push (.int 0) 81), (81, ac_istore 3 82), (82, ac_aload 0 83), (83, ac_dup 84)]
theorem k_p129_1 : ∀ q ∈ k_c129_1, am_Ok k_nm D cA B0 sb H00 (k_Th B0 sb H00) prog_8_method_40_code "TokenMouthModel" "close" [] none q.1 q.2 :=
  am_c (ok_iconst (z := 1) (by decide +kernel) (by decide +kernel)) <|
  am_c (ok_goto (off := 4) (by decide +kernel) (by decide +kernel)) <|
  am_c (ok_iconst (z := 0) (by decide +kernel) (by decide +kernel)) <|
  am_c (ok_istore_n (k := 2) (by decide +kernel) rfl) <|
  am_c (ok_iload_n (k := 2) (by decide +kernel) rfl) <|
  am_c (ok_ifne (off := 10) (by decide +kernel) (by decide +kernel)) <|
  am_c (ok_aload_n (k := 0) (by decide +kernel) rfl) <|
  am_c (ok_iconst (z := 1) (by decide +kernel) (by decide +kernel)) <|
  am_c (ok_callV (by decide +kernel) (by decide +kernel) kw_497 kw_498 kw_499 kw_496 (by decide +kernel) (by decide +kernel)) <|
  am_c (ok_istore_n (k := 3) (by decide +kernel) rfl) <|
  am_c (ok_ret (by decide +kernel) rfl) <|
  am_c (ok_iload_n (k := 1) (by decide +kernel) rfl) <|
  am_c (ok_bipush (z := 17) (by decide +kernel) (by decide +kernel)) <|
  am_c (ok_icmpne (off := 15) (by decide +kernel) (by decide +kernel)) <|
  am_c (ok_aload_n (k := 0) (by decide +kernel) rfl) <|
  am_c (ok_iconst (z := 0) (by decide +kernel) (by decide +kernel)) <|
  am_c (ok_callV (by decide +kernel) (by decide +kernel) kw_565 kw_566 kw_567 kw_564 (by decide +kernel) (by decide +kernel)) <|
  am_c (ok_ifeq (off := 7) (by decide +kernel) (by decide +kernel)) <|
  am_c (ok_iconst (z := 1) (by decide +kernel) (by decide +kernel)) <|
  am_c (ok_goto (off := 4) (by decide +kernel) (by decide +kernel)) <|
  am_c (ok_iconst (z := 0) (by decide +kernel) (by decide +kernel)) <|
  am_c (ok_istore_n (k := 3) (by decide +kernel) rfl) <|
  am_c (ok_aload_n (k := 0) (by decide +kernel) rfl) <|
  am_c (ok_dup (by decide +kernel)) <|
  am_n
def k_c129_2 : List (Nat × am_A) := [(84, ac_get 0 6 29 87), (87, ac_aload 0 88), (88, ac_get 0 6 5 91), (91, ac_if1 (fun x => ¬ x = 0) 98 94), (94, ac_push (.int 1) 95), (95, ac_goto 99), (98, ac_push (.int 0) 99), (99, ac_ii (fun x y => x - y) 100), (100, ac_putI 6 29 103), (103, ac_ret)]
theorem k_p129_2 : ∀ q ∈ k_c129_2, am_Ok k_nm D cA B0 sb H00 (k_Th B0 sb H00) prog_8_method_40_code "TokenMouthModel" "close" [] none q.1 q.2 :=
  am_c (ok_get (by decide +kernel) (by decide +kernel) rfl (by decide +kernel) kw_481) <|
  am_c (ok_aload_n (k := 0) (by decide +kernel) rfl) <|
  am_c (ok_get (by decide +kernel) (by decide +kernel) rfl (by decide +kernel) kw_475) <|
  am_c (ok_ifne (off := 7) (by decide +kernel) (by decide +kernel)) <|
  am_c (ok_iconst (z := 1) (by decide +kernel) (by decide +kernel)) <|
  am_c (ok_goto (off := 4) (by decide +kernel) (by decide +kernel)) <|
  am_c (ok_iconst (z := 0) (by decide +kernel) (by decide +kernel)) <|
  am_c (ok_isub (by decide +kernel)) <|
  am_c (ok_putI (by decide +kernel) (by decide +kernel) rfl (by decide +kernel) kw_481 rfl) <|
  am_c (ok_ret (by decide +kernel) rfl) <|
  am_n
def k_t129 : List (Nat × List (Nat × am_A)) := [(42, k_c129_0), (83, k_c129_1), (103, k_c129_2)]
theorem k_o129 : ∀ c ∈ k_t129, ∀ q ∈ c.2, am_Ok k_nm D cA B0 sb H00 (k_Th B0 sb H00) prog_8_method_40_code "TokenMouthModel" "close" [] none q.1 q.2 := am_cc (P := fun pc a => am_Ok k_nm D cA B0 sb H00 (k_Th B0 sb H00) prog_8_method_40_code "TokenMouthModel" "close" [] none pc a) k_p129_0 <| am_cc (P := fun pc a => am_Ok k_nm D cA B0 sb H00 (k_Th B0 sb H00) prog_8_method_40_code "TokenMouthModel" "close" [] none pc a) k_p129_1 <| am_cc (P := fun pc a => am_Ok k_nm D cA B0 sb H00 (k_Th B0 sb H00) prog_8_method_40_code "TokenMouthModel" "close" [] none pc a) k_p129_2 <| am_cn0
-- 130: TokenMouthModel.test(I)V
def k_c130_0 : List (Nat × am_A) := [(0, ac_aload 0 1), (1, ac_get 0 6 29 4), (4, ac_push (.int 1) 5), (5, ac_ii (fun x y => x - y) 6), (6, ac_istore 2 7), (7, ac_iload 1 8), (8, ac_push (.int 13) 10), (10, ac_if2 (fun x y => ¬ x = y) 23 13), (13, ac_aload 0 14), (14, ac_iload 1 15), (15, ac_push (.int 0) 16), (16, ac_iload 2 17), (17, ac_callV 6 127 4 20 am_nohd), (20, ac_goto 94), (23, ac_iload 1 24), (24, ac_push (.int 14) 26), (26, ac_if2 (fun x y => ¬ x = y) 78 29), (29, ac_aload 0 30), (30, ac_callV 6 105 1 33 am_nohd), (33, ac_istore 3 34), (34, ac_iload 3 35), (35, ac_push (.int (-1)) 36), (36, ac_if2 (fun x y => ¬ x = y) 43 39), (39, ac_push (.int (-1)) 40)]
theorem k_p130_0 : ∀ q ∈ k_c130_0, am_Ok k_nm D cA B0 sb H00 (k_Th B0 sb H00) prog_8_method_41_code "TokenMouthModel" "test" [] none q.1 q.2 :=
  am_c (ok_aload_n (k := 0) (by decide +kernel) rfl) <|
  am_c (ok_get (by decide +kernel) (by decide +kernel) rfl (by decide +kernel) kw_481) <|
  am_c (ok_iconst (z := 1) (by decide +kernel) (by decide +kernel)) <|
  am_c (ok_isub (by decide +kernel)) <|
  am_c (ok_istore_n (k := 2) (by decide +kernel) rfl) <|
  am_c (ok_iload_n (k := 1) (by decide +kernel) rfl) <|
  am_c (ok_bipush (z := 13) (by decide +kernel) (by decide +kernel)) <|
  am_c (ok_icmpne (off := 13) (by decide +kernel) (by decide +kernel)) <|
  am_c (ok_aload_n (k := 0) (by decide +kernel) rfl) <|
  am_c (ok_iload_n (k := 1) (by decide +kernel) rfl) <|
  am_c (ok_iconst (z := 0) (by decide +kernel) (by decide +kernel)) <|
  am_c (ok_iload_n (k := 2) (by decide +kernel) rfl) <|
  am_c (ok_callV (by decide +kernel) (by decide +kernel) kw_581 kw_582 kw_583 kw_580 (by decide +kernel) (by decide +kernel)) <|
  am_c (ok_goto (off := 74) (by decide +kernel) (by decide +kernel)) <|
  am_c (ok_iload_n (k := 1) (by decide +kernel) rfl) <|
  am_c (ok_bipush (z := 14) (by decide +kernel) (by decide +kernel)) <|
  am_c (ok_icmpne (off := 52) (by decide +kernel) (by decide +kernel)) <|
  am_c (ok_aload_n (k := 0) (by decide +kernel) rfl) <|
  am_c (ok_callV (by decide +kernel) (by decide +kernel) kw_549 kw_550 kw_551 kw_548 (by decide +kernel) (by decide +kernel)) <|
  am_c (ok_istore_n (k := 3) (by decide +kernel) rfl) <|
  am_c (ok_iload_n (k := 3) (by decide +kernel) rfl) <|
  am_c (ok_iconst (z := -1) (by decide +kernel) (by decide +kernel)) <|
  am_c (ok_icmpne (off := 7) (by decide +kernel) (by decide +kernel)) <|
  am_c (ok_iconst (z := -1) (by decide +kernel) (by decide +kernel)) <|
  am_n
def k_c130_1 : List (Nat × am_A) := [(40, ac_goto 47), (43, ac_aload 0 44), (44, ac_callV 6 105 1 47 am_nohd), (47, ac_istore 4 49), (49, ac_iload 4 51), (51, ac_push (.int (-1)) 52), (52, ac_if2 (fun x y => x = y) 75 55), (55, ac_aload 0 56), (56, ac_iload 2 57), (57, ac_aload 0 58), (58, ac_aload 0 59), (59, ac_iload 3 60), (60, ac_callV 6 111 2 63 am_nohd), (63, ac_aload 0 64), (64, ac_iload 4 66), (66, ac_callV 6 111 2 69 am_nohd), (69, ac_callV 6 124 3 72 am_nohd), (72, ac_callV 6 123 3 75 am_nohd), (75, ac_goto 94), (78, ac_aload 0 79), (79, ac_iload 2 80), (80, ac_iload 1 81), (81, ac_push (.int 15) 83), (83, ac_if2 (fun x y => ¬ x = y) 90 86)]
theorem k_p130_1 : ∀ q ∈ k_c130_1, am_Ok k_nm D cA B0 sb H00 (k_Th B0 sb H00) prog_8_method_41_code "TokenMouthModel" "test" [] none q.1 q.2 :=
  am_c (ok_goto (off := 7) (by decide +kernel) (by decide +kernel)) <|
  am_c (ok_aload_n (k := 0) (by decide +kernel) rfl) <|
  am_c (ok_callV (by decide +kernel) (by decide +kernel) kw_549 kw_550 kw_551 kw_548 (by decide +kernel) (by decide +kernel)) <|
  am_c (ok_istore (by decide +kernel)) <|
  am_c (ok_iload (by decide +kernel)) <|
  am_c (ok_iconst (z := -1) (by decide +kernel) (by decide +kernel)) <|
  am_c (ok_icmpeq (off := 23) (by decide +kernel) (by decide +kernel)) <|
  am_c (ok_aload_n (k := 0) (by decide +kernel) rfl) <|
  am_c (ok_iload_n (k := 2) (by decide +kernel) rfl) <|
  am_c (ok_aload_n (k := 0) (by decide +kernel) rfl) <|
  am_c (ok_aload_n (k := 0) (by decide +kernel) rfl) <|
  am_c (ok_iload_n (k := 3) (by decide +kernel) rfl) <|
  am_c (ok_callV (by decide +kernel) (by decide +kernel) kw_527 kw_528 kw_529 kw_526 (by decide +kernel) (by decide +kernel)) <|
  am_c (ok_aload_n (k := 0) (by decide +kernel) rfl) <|
  am_c (ok_iload (by decide +kernel)) <|
  am_c (ok_callV (by decide +kernel) (by decide +kernel) kw_527 kw_528 kw_529 kw_526 (by decide +kernel) (by decide +kernel)) <|
  am_c (ok_callV (by decide +kernel) (by decide +kernel) kw_601 kw_602 kw_603 kw_600 (by decide +kernel) (by decide +kernel)) <|
  am_c (ok_callV (by decide +kernel) (by decide +kernel) kw_605 kw_606 kw_607 kw_604 (by decide +kernel) (by decide +kernel)) <|
  am_c (ok_goto (off := 19) (by decide +kernel) (by decide +kernel)) <|
  am_c (ok_aload_n (k := 0) (by decide +kernel) rfl) <|
  am_c (ok_iload_n (k := 2) (by decide +kernel) rfl) <|
  am_c (ok_iload_n (k := 1) (by decide +kernel) rfl) <|
  am_c (ok_bipush (z := 15) (by decide +kernel) (by decide +kernel)) <|
  am_c (ok_icmpne (off := 7) (by decide +kernel) (by decide +kernel)) <|
  am_n
def k_c130_2 : List (Nat × am_A) := [(86, ac_push (.int 1) 87), (87, ac_goto 91), (90, ac_push (.int 0) 91), (91, ac_callV 6 123 3 94 am_nohd), (94, ac_ret)]
theorem k_p130_2 : ∀ q ∈ k_c130_2, am_Ok k_nm D cA B0 sb H00 (k_Th B0 sb H00) prog_8_method_41_code "TokenMouthModel" "test" [] none q.1 q.2 :=
  am_c (ok_iconst (z := 1) (by decide +kernel) (by decide +kernel)) <|
  am_c (ok_goto (off := 4) (by decide +kernel) (by decide +kernel)) <|
  am_c (ok_iconst (z := 0) (by decide +kernel) (by decide +kernel)) <|
  am_c (ok_callV (by decide +kernel) (by decide +kernel) kw_605 kw_606 kw_607 kw_604 (by decide +kernel) (by decide +kernel)) <|
  am_c (ok_ret (by decide +kernel) rfl) <|
  am_n
def k_t130 : List (Nat × List (Nat × am_A)) := [(39, k_c130_0), (83, k_c130_1), (94, k_c130_2)]
theorem k_o130 : ∀ c ∈ k_t130, ∀ q ∈ c.2, am_Ok k_nm D cA B0 sb H00 (k_Th B0 sb H00) prog_8_method_41_code "TokenMouthModel" "test" [] none q.1 q.2 := am_cc (P := fun pc a => am_Ok k_nm D cA B0 sb H00 (k_Th B0 sb H00) prog_8_method_41_code "TokenMouthModel" "test" [] none pc a) k_p130_0 <| am_cc (P := fun pc a => am_Ok k_nm D cA B0 sb H00 (k_Th B0 sb H00) prog_8_method_41_code "TokenMouthModel" "test" [] none pc a) k_p130_1 <| am_cc (P := fun pc a => am_Ok k_nm D cA B0 sb H00 (k_Th B0 sb H00) prog_8_method_41_code "TokenMouthModel" "test" [] none pc a) k_p130_2 <| am_cn0
-- 131: TokenMouthModel.goOn()I
def k_c131_0 : List (Nat × am_A) := [(0, ac_aload 0 1), (1, ac_get 0 6 31 4), (4, ac_push (.int 1) 5), (5, ac_ii (fun x y => x - y) 6), (6, ac_istore 1 7), (7, ac_aload 0 8), (8, ac_get 2 6 32 11), (11, ac_iload 1 12), (12, ac_iald 0 13), (13, ac_push (.int 8) 15), (15, ac_if2 (fun x y => ¬ x = y) 40 18), (18, ac_aload 0 19), (19, ac_dup 20), (20, ac_get 0 6 31 23), (23, ac_push (.int 1) 24), (24, ac_ii (fun x y => x - y) 25), (25, ac_putI 6 31 28), (28, ac_aload 0 29), (29, ac_aload 0 30), (30, ac_get 2 6 33 33), (33, ac_iload 1 34), (34, ac_iald 0 35), (35, ac_callV 6 106 2 38 am_nohd), (38, ac_push (.int (-1)) 39)]
theorem k_p131_0 : ∀ q ∈ k_c131_0, am_Ok k_nm D cA B0 sb H00 (k_Th B0 sb H00) prog_8_method_42_code "TokenMouthModel" "goOn" [] (some .int) q.1 q.2 :=
  am_c (ok_aload_n (k := 0) (by decide +kernel) rfl) <|
  am_c (ok_get (by decide +kernel) (by decide +kernel) rfl (by decide +kernel) kw_482) <|
  am_c (ok_iconst (z := 1) (by decide +kernel) (by decide +kernel)) <|
  am_c (ok_isub (by decide +kernel)) <|
  am_c (ok_istore_n (k := 1) (by decide +kernel) rfl) <|
  am_c (ok_aload_n (k := 0) (by decide +kernel) rfl) <|
  am_c (ok_get (by decide +kernel) (by decide +kernel) rfl (by decide +kernel) kw_428) <|
  am_c (ok_iload_n (k := 1) (by decide +kernel) rfl) <|
  am_c (ok_iald (by decide +kernel)) <|
  am_c (ok_bipush (z := 8) (by decide +kernel) (by decide +kernel)) <|
  am_c (ok_icmpne (off := 25) (by decide +kernel) (by decide +kernel)) <|
  am_c (ok_aload_n (k := 0) (by decide +kernel) rfl) <|
  am_c (ok_dup (by decide +kernel)) <|
  am_c (ok_get (by decide +kernel) (by decide +kernel) rfl (by decide +kernel) kw_482) <|
  am_c (ok_iconst (z := 1) (by decide +kernel) (by decide +kernel)) <|
  am_c (ok_isub (by decide +kernel)) <|
  am_c (ok_putI (by decide +kernel) (by decide +kernel) rfl (by decide +kernel) kw_482 rfl) <|
  am_c (ok_aload_n (k := 0) (by decide +kernel) rfl) <|
  am_c (ok_aload_n (k := 0) (by decide +kernel) rfl) <|
  am_c (ok_get (by decide +kernel) (by decide +kernel) rfl (by decide +kernel) kw_429) <|
  am_c (ok_iload_n (k := 1) (by decide +kernel) rfl) <|
  am_c (ok_iald (by decide +kernel)) <|
  am_c (ok_callV (by decide +kernel) (by decide +kernel) kw_561 kw_562 kw_563 kw_560 (by decide +kernel) (by decide +kernel)) <|
  am_c (ok_iconst (z := -1) (by decide +kernel) (by decide +kernel)) <|
  am_n
def k_c131_1 : List (Nat × am_A) := [(39, ac_iret), (40, ac_aload 0 41), (41, ac_callV 6 105 1 44 am_nohd), (44, ac_istore 2 45), (45, ac_iload 2 46), (46, ac_push (.int (-1)) 47), (47, ac_if2 (fun x y => x = y) 58 50), (50, ac_aload 0 51), (51, ac_iload 2 52), (52, ac_callV 6 112 2 55 am_nohd), (55, ac_if1 (fun x => x = 0) 60 58), (58, ac_iload 2 59), (59, ac_iret), (60, ac_aload 0 61), (61, ac_iload 2 62), (62, ac_callV 6 111 2 65 am_nohd), (65, ac_istore 3 66), (66, ac_aload 0 67), (67, ac_get 2 6 32 70), (70, ac_iload 1 71), (71, ac_iald 0 72), (72, ac_push (.int 13) 74), (74, ac_if2 (fun x y => ¬ x = y) 168 77), (77, ac_iload 3 78)]
theorem k_p131_1 : ∀ q ∈ k_c131_1, am_Ok k_nm D cA B0 sb H00 (k_Th B0 sb H00) prog_8_method_42_code "TokenMouthModel" "goOn" [] (some .int) q.1 q.2 :=
  am_c (ok_iret (by decide +kernel) rfl) <|
  am_c (ok_aload_n (k := 0) (by decide +kernel) rfl) <|
  am_c (ok_callV (by decide +kernel) (by decide +kernel) kw_549 kw_550 kw_551 kw_548 (by decide +kernel) (by decide +kernel)) <|
  am_c (ok_istore_n (k := 2) (by decide +kernel) rfl) <|
  am_c (ok_iload_n (k := 2) (by decide +kernel) rfl) <|
  am_c (ok_iconst (z := -1) (by decide +kernel) (by decide +kernel)) <|
  am_c (ok_icmpeq (off := 11) (by decide +kernel) (by decide +kernel)) <|
  am_c (ok_aload_n (k := 0) (by decide +kernel) rfl) <|
  am_c (ok_iload_n (k := 2) (by decide +kernel) rfl) <|
  am_c (ok_callV (by decide +kernel) (by decide +kernel) kw_577 kw_578 kw_579 kw_576 (by decide +kernel) (by decide +kernel)) <|
  am_c (ok_ifeq (off := 5) (by decide +kernel) (by decide +kernel)) <|
  am_c (ok_iload_n (k := 2) (by decide +kernel) rfl) <|
  am_c (ok_iret (by decide +kernel) rfl) <|
  am_c (ok_aload_n (k := 0) (by decide +kernel) rfl) <|
  am_c (ok_iload_n (k := 2) (by decide +kernel) rfl) <|
  am_c (ok_callV (by decide +kernel) (by decide +kernel) kw_527 kw_528 kw_529 kw_526 (by decide +kernel) (by decide +kernel)) <|
  am_c (ok_istore_n (k := 3) (by decide +kernel) rfl) <|
  am_c (ok_aload_n (k := 0) (by decide +kernel) rfl) <|
  am_c (ok_get (by decide +kernel) (by decide +kernel) rfl (by decide +kernel) kw_428) <|
  am_c (ok_iload_n (k := 1) (by decide +kernel) rfl) <|
  am_c (ok_iald (by decide +kernel)) <|
  am_c (ok_bipush (z := 13) (by decide +kernel) (by decide +kernel)) <|
  am_c (ok_icmpne (off := 94) (by decide +kernel) (by decide +kernel)) <|
  am_c (ok_iload_n (k := 3) (by decide +kernel) rfl) <|
  am_n
def k_c131_2 : List (Nat × am_A) := [(78, ac_push (.int 1000) 81), (81, ac_if2 (fun x y => y ≤ x) 90 84), (84, ac_push (.int 256) 87), (87, ac_goto 99), (90, ac_iload 3 91), (91, ac_push (.int 1000) 94), (94, ac_ii (fun x y => x - y) 95), (95, ac_push (.int 255) 98), (98, ac_ii (fun x y => x &&& y) 99), (99, ac_istore 4 101), (101, ac_aload 0 102), (102, ac_get 2 6 34 105), (105, ac_iload 1 106), (106, ac_dup2 107), (107, ac_iald 0 108), (108, ac_push (.int 1) 109), (109, ac_ii (fun x y => x + y) 110), (110, ac_iast 111), (111, ac_aload 0 112), (112, ac_get 2 6 34 115), (115, ac_iload 1 116), (116, ac_iald 0 117), (117, ac_push (.int 2) 118), (118, ac_if2 (fun x y => ¬ x = y) 157 121)]
theorem k_p131_2 : ∀ q ∈ k_c131_2, am_Ok k_nm D cA B0 sb H00 (k_Th B0 sb H00) prog_8_method_42_code "TokenMouthModel" "goOn" [] (some .int) q.1 q.2 :=
  am_c (ok_sipush (z := 1000) (by decide +kernel) (by decide +kernel)) <|
  am_c (ok_icmpge (off := 9) (by decide +kernel) (by decide +kernel)) <|
  am_c (ok_sipush (z := 256) (by decide +kernel) (by decide +kernel)) <|
  am_c (ok_goto (off := 12) (by decide +kernel) (by decide +kernel)) <|
  am_c (ok_iload_n (k := 3) (by decide +kernel) rfl) <|
  am_c (ok_sipush (z := 1000) (by decide +kernel) (by decide +kernel)) <|
  am_c (ok_isub (by decide +kernel)) <|
  am_c (ok_sipush (z := 255) (by decide +kernel) (by decide +kernel)) <|
  am_c (ok_iand (by decide +kernel)) <|
  am_c (ok_istore (by decide +kernel)) <|
  am_c (ok_aload_n (k := 0) (by decide +kernel) rfl) <|
  am_c (ok_get (by decide +kernel) (by decide +kernel) rfl (by decide +kernel) kw_430) <|
  am_c (ok_iload_n (k := 1) (by decide +kernel) rfl) <|
  am_c (ok_dup2 (by decide +kernel)) <|
  am_c (ok_iald (by decide +kernel)) <|
  am_c (ok_iconst (z := 1) (by decide +kernel) (by decide +kernel)) <|
  am_c (ok_iadd (by decide +kernel)) <|
  am_c (ok_iast (by decide +kernel)) <|
  am_c (ok_aload_n (k := 0) (by decide +kernel) rfl) <|
  am_c (ok_get (by decide +kernel) (by decide +kernel) rfl (by decide +kernel) kw_430) <|
  am_c (ok_iload_n (k := 1) (by decide +kernel) rfl) <|
  am_c (ok_iald (by decide +kernel)) <|
  am_c (ok_iconst (z := 2) (by decide +kernel) (by decide +kernel)) <|
  am_c (ok_icmpne (off := 39) (by decide +kernel) (by decide +kernel)) <|
  am_n
def k_c131_3 : List (Nat × am_A) := [(121, ac_aload 0 122), (122, ac_dup 123), (123, ac_get 0 6 31 126), (126, ac_push (.int 1) 127), (127, ac_ii (fun x y => x - y) 128), (128, ac_putI 6 31 131), (131, ac_aload 0 132), (132, ac_aload 0 133), (133, ac_get 2 6 35 136), (136, ac_iload 1 137), (137, ac_iald 0 138), (138, ac_iload 4 140), (140, ac_aload 0 141), (141, ac_get 2 6 33 144), (144, ac_iload 1 145), (145, ac_iald 0 146), (146, ac_if2 (fun x y => ¬ x = y) 153 149), (149, ac_push (.int 1) 150), (150, ac_goto 154), (153, ac_push (.int 0) 154), (154, ac_callV 6 123 3 157 am_nohd), (157, ac_aload 0 158), (158, ac_get 2 6 33 161), (161, ac_iload 1 162)]
theorem k_p131_3 : ∀ q ∈ k_c131_3, am_Ok k_nm D cA B0 sb H00 (k_Th B0 sb H00) prog_8_method_42_code "TokenMouthModel" "goOn" [] (some .int) q.1 q.2 :=
  am_c (ok_aload_n (k := 0) (by decide +kernel) rfl) <|
  am_c (ok_dup (by decide +kernel)) <|
  am_c (ok_get (by decide +kernel) (by decide +kernel) rfl (by decide +kernel) kw_482) <|
  am_c (ok_iconst (z := 1) (by decide +kernel) (by decide +kernel)) <|
  am_c (ok_isub (by decide +kernel)) <|
  am_c (ok_putI (by decide +kernel) (by decide +kernel) rfl (by decide +kernel) kw_482 rfl) <|
  am_c (ok_aload_n (k := 0) (by decide +kernel) rfl) <|
  am_c (ok_aload_n (k := 0) (by decide +kernel) rfl) <|
  am_c (ok_get (by decide +kernel) (by decide +kernel) rfl (by decide +kernel) kw_431) <|
  am_c (ok_iload_n (k := 1) (by decide +kernel) rfl) <|
  am_c (ok_iald (by decide +kernel)) <|
  am_c (ok_iload (by decide +kernel)) <|
  am_c (ok_aload_n (k := 0) (by decide +kernel) rfl) <|
  am_c (ok_get (by decide +kernel) (by decide +kernel) rfl (by decide +kernel) kw_429) <|
  am_c (ok_iload_n (k := 1) (by decide +kernel) rfl) <|
  am_c (ok_iald (by decide +kernel)) <|
  am_c (ok_icmpne (off := 7) (by decide +kernel) (by decide +kernel)) <|
  am_c (ok_iconst (z := 1) (by decide +kernel) (by decide +kernel)) <|
  am_c (ok_goto (off := 4) (by decide +kernel) (by decide +kernel)) <|
  am_c (ok_iconst (z := 0) (by decide +kernel) (by decide +kernel)) <|
  am_c (ok_callV (by decide +kernel) (by decide +kernel) kw_605 kw_606 kw_607 kw_604 (by decide +kernel) (by decide +kernel)) <|
  am_c (ok_aload_n (k := 0) (by decide +kernel) rfl) <|
  am_c (ok_get (by decide +kernel) (by decide +kernel) rfl (by decide +kernel) kw_429) <|
  am_c (ok_iload_n (k := 1) (by decide +kernel) rfl) <|
  am_n
def k_c131_4 : List (Nat × am_A) := [(162, ac_iload 4 164), (164, ac_iast 165), (165, ac_goto 253), (168, ac_iload 3 169), (169, ac_push (.int 11) 171), (171, ac_if2 (fun x y => ¬ x = y) 192 174), (174, ac_aload 0 175), (175, ac_dup 176), (176, ac_get 0 6 31 179), (179, ac_push (.int 1) 180), (180, ac_ii (fun x y => x - y) 181), (181, ac_putI 6 31 184), (184, ac_aload 0 185), (185, ac_iload 1 186), (186, ac_callV 6 132 2 189 am_nohd), (189, ac_goto 253), (192, ac_iload 2 193), (193, ac_push (.int 4096) 196), (196, ac_if2 (fun x y => x < y) 205 199), (199, ac_aload 0 200), (200, ac_push (.int 4) 201), (201, ac_callV 6 98 2 204 am_nohd), (204, ac_iret), (205, ac_aload 0 206)]
theorem k_p131_4 : ∀ q ∈ k_c131_4, am_Ok k_nm D cA B0 sb H00 (k_Th B0 sb H00) prog_8_method_42_code "TokenMouthModel" "goOn" [] (some .int) q.1 q.2 :=
  am_c (ok_iload (by decide +kernel)) <|
  am_c (ok_iast (by decide +kernel)) <|
  am_c (ok_goto (off := 88) (by decide +kernel) (by decide +kernel)) <|
  am_c (ok_iload_n (k := 3) (by decide +kernel) rfl) <|
  am_c (ok_bipush (z := 11) (by decide +kernel) (by decide +kernel)) <|
  am_c (ok_icmpne (off := 21) (by decide +kernel) (by decide +kernel)) <|
  am_c (ok_aload_n (k := 0) (by decide +kernel) rfl) <|
  am_c (ok_dup (by decide +kernel)) <|
  am_c (ok_get (by decide +kernel) (by decide +kernel) rfl (by decide +kernel) kw_482) <|
  am_c (ok_iconst (z := 1) (by decide +kernel) (by decide +kernel)) <|
  am_c (ok_isub (by decide +kernel)) <|
  am_c (ok_putI (by decide +kernel) (by decide +kernel) rfl (by decide +kernel) kw_482 rfl) <|
  am_c (ok_aload_n (k := 0) (by decide +kernel) rfl) <|
  am_c (ok_iload_n (k := 1) (by decide +kernel) rfl) <|
  am_c (ok_callV (by decide +kernel) (by decide +kernel) kw_609 kw_610 kw_611 kw_608 (by decide +kernel) (by decide +kernel)) <|
  am_c (ok_goto (off := 64) (by decide +kernel) (by decide +kernel)) <|
  am_c (ok_iload_n (k := 2) (by decide +kernel) rfl) <|
  am_c (ok_sipush (z := 4096) (by decide +kernel) (by decide +kernel)) <|
  am_c (ok_icmplt (off := 9) (by decide +kernel) (by decide +kernel)) <|
  am_c (ok_aload_n (k := 0) (by decide +kernel) rfl) <|
  am_c (ok_iconst (z := 4) (by decide +kernel) (by decide +kernel)) <|
  am_c (ok_callV (by decide +kernel) (by decide +kernel) kw_497 kw_498 kw_499 kw_496 (by decide +kernel) (by decide +kernel)) <|
  am_c (ok_iret (by decide +kernel) rfl) <|
  am_c (ok_aload_n (k := 0) (by decide +kernel) rfl) <|
  am_n
def k_c131_5 : List (Nat × am_A) := [(206, ac_get 2 6 34 209), (209, ac_iload 1 210), (210, ac_iald 0 211), (211, ac_push (.int 11) 213), (213, ac_if2 (fun x y => ¬ x = y) 222 216), (216, ac_aload 0 217), (217, ac_push (.int 5) 218), (218, ac_callV 6 98 2 221 am_nohd), (221, ac_iret), (222, ac_aload 0 223), (223, ac_get 2 6 36 226), (226, ac_push (.int 12) 228), (228, ac_iload 1 229), (229, ac_ii (fun x y => x * y) 230), (230, ac_aload 0 231), (231, ac_get 2 6 34 234), (234, ac_iload 1 235), (235, ac_iald 0 236), (236, ac_ii (fun x y => x + y) 237), (237, ac_iload 2 238), (238, ac_push (.int 255) 241), (241, ac_ii (fun x y => x &&& y) 242), (242, ac_iast 243), (243, ac_aload 0 244)]
theorem k_p131_5 : ∀ q ∈ k_c131_5, am_Ok k_nm D cA B0 sb H00 (k_Th B0 sb H00) prog_8_method_42_code "TokenMouthModel" "goOn" [] (some .int) q.1 q.2 :=
  am_c (ok_get (by decide +kernel) (by decide +kernel) rfl (by decide +kernel) kw_430) <|
  am_c (ok_iload_n (k := 1) (by decide +kernel) rfl) <|
  am_c (ok_iald (by decide +kernel)) <|
  am_c (ok_bipush (z := 11) (by decide +kernel) (by decide +kernel)) <|
  am_c (ok_icmpne (off := 9) (by decide +kernel) (by decide +kernel)) <|
  am_c (ok_aload_n (k := 0) (by decide +kernel) rfl) <|
  am_c (ok_iconst (z := 5) (by decide +kernel) (by decide +kernel)) <|
  am_c (ok_callV (by decide +kernel) (by decide +kernel) kw_497 kw_498 kw_499 kw_496 (by decide +kernel) (by decide +kernel)) <|
  am_c (ok_iret (by decide +kernel) rfl) <|
  am_c (ok_aload_n (k := 0) (by decide +kernel) rfl) <|
  am_c (ok_get (by decide +kernel) (by decide +kernel) rfl (by decide +kernel) kw_432) <|
  am_c (ok_bipush (z := 12) (by decide +kernel) (by decide +kernel)) <|
  am_c (ok_iload_n (k := 1) (by decide +kernel) rfl) <|
  am_c (ok_imul (by decide +kernel)) <|
  am_c (ok_aload_n (k := 0) (by decide +kernel) rfl) <|
  am_c (ok_get (by decide +kernel) (by decide +kernel) rfl (by decide +kernel) kw_430) <|
  am_c (ok_iload_n (k := 1) (by decide +kernel) rfl) <|
  am_c (ok_iald (by decide +kernel)) <|
  am_c (ok_iadd (by decide +kernel)) <|
  am_c (ok_iload_n (k := 2) (by decide +kernel) rfl) <|
  am_c (ok_sipush (z := 255) (by decide +kernel) (by decide +kernel)) <|
  am_c (ok_iand (by decide +kernel)) <|
  am_c (ok_iast (by decide +kernel)) <|
  am_c (ok_aload_n (k := 0) (by decide +kernel) rfl) <|
  am_n
def k_c131_6 : List (Nat × am_A) := [(244, ac_get 2 6 34 247), (247, ac_iload 1 248), (248, ac_dup2 249), (249, ac_iald 0 250), (250, ac_push (.int 1) 251), (251, ac_ii (fun x y => x + y) 252), (252, ac_iast 253), (253, ac_push (.int (-1)) 254), (254, ac_iret)]
theorem k_p131_6 : ∀ q ∈ k_c131_6, am_Ok k_nm D cA B0 sb H00 (k_Th B0 sb H00) prog_8_method_42_code "TokenMouthModel" "goOn" [] (some .int) q.1 q.2 :=
  am_c (ok_get (by decide +kernel) (by decide +kernel) rfl (by decide +kernel) kw_430) <|
  am_c (ok_iload_n (k := 1) (by decide +kernel) rfl) <|
  am_c (ok_dup2 (by decide +kernel)) <|
  am_c (ok_iald (by decide +kernel)) <|
  am_c (ok_iconst (z := 1) (by decide +kernel) (by decide +kernel)) <|
  am_c (ok_iadd (by decide +kernel)) <|
  am_c (ok_iast (by decide +kernel)) <|
  am_c (ok_iconst (z := -1) (by decide +kernel) (by decide +kernel)) <|
  am_c (ok_iret (by decide +kernel) rfl) <|
  am_n
def k_t131 : List (Nat × List (Nat × am_A)) := [(38, k_c131_0), (77, k_c131_1), (118, k_c131_2), (161, k_c131_3), (205, k_c131_4), (243, k_c131_5), (254, k_c131_6)]
theorem k_o131 : ∀ c ∈ k_t131, ∀ q ∈ c.2, am_Ok k_nm D cA B0 sb H00 (k_Th B0 sb H00) prog_8_method_42_code "TokenMouthModel" "goOn" [] (some .int) q.1 q.2 := am_cc (P := fun pc a => am_Ok k_nm D cA B0 sb H00 (k_Th B0 sb H00) prog_8_method_42_code "TokenMouthModel" "goOn" [] (some .int) pc a) k_p131_0 <| am_cc (P := fun pc a => am_Ok k_nm D cA B0 sb H00 (k_Th B0 sb H00) prog_8_method_42_code "TokenMouthModel" "goOn" [] (some .int) pc a) k_p131_1 <| am_cc (P := fun pc a => am_Ok k_nm D cA B0 sb H00 (k_Th B0 sb H00) prog_8_method_42_code "TokenMouthModel" "goOn" [] (some .int) pc a) k_p131_2 <| am_cc (P := fun pc a => am_Ok k_nm D cA B0 sb H00 (k_Th B0 sb H00) prog_8_method_42_code "TokenMouthModel" "goOn" [] (some .int) pc a) k_p131_3 <| am_cc (P := fun pc a => am_Ok k_nm D cA B0 sb H00 (k_Th B0 sb H00) prog_8_method_42_code "TokenMouthModel" "goOn" [] (some .int) pc a) k_p131_4 <| am_cc (P := fun pc a => am_Ok k_nm D cA B0 sb H00 (k_Th B0 sb H00) prog_8_method_42_code "TokenMouthModel" "goOn" [] (some .int) pc a) k_p131_5 <| am_cc (P := fun pc a => am_Ok k_nm D cA B0 sb H00 (k_Th B0 sb H00) prog_8_method_42_code "TokenMouthModel" "goOn" [] (some .int) pc a) k_p131_6 <| am_cn0
-- 132: TokenMouthModel.spelled(I)V
def k_c132_0 : List (Nat × am_A) := [(0, ac_aload 0 1), (1, ac_get 2 6 34 4), (4, ac_iload 1 5), (5, ac_iald 0 6), (6, ac_if1 (fun x => ¬ x = 0) 16 9), (9, ac_aload 0 10), (10, ac_push (.int 4) 11), (11, ac_callV 6 98 2 14 am_nohd), (14, ac_istore 2 15), (15, ac_ret), (16, ac_aload 0 17), (17, ac_push (.int 0) 18), (18, ac_putI 6 16 21), (21, ac_push (.int 0) 22), (22, ac_istore 2 23), (23, ac_iload 2 24), (24, ac_aload 0 25), (25, ac_get 2 6 34 28), (28, ac_iload 1 29), (29, ac_iald 0 30), (30, ac_if2 (fun x y => y ≤ x) 54 33), (33, ac_aload 0 34), (34, ac_aload 0 35), (35, ac_get 2 6 36 38)]
theorem k_p132_0 : ∀ q ∈ k_c132_0, am_Ok k_nm D cA B0 sb H00 (k_Th B0 sb H00) prog_8_method_43_code "TokenMouthModel" "spelled" [] none q.1 q.2 :=
  am_c (ok_aload_n (k := 0) (by decide +kernel) rfl) <|
  am_c (ok_get (by decide +kernel) (by decide +kernel) rfl (by decide +kernel) kw_430) <|
  am_c (ok_iload_n (k := 1) (by decide +kernel) rfl) <|
  am_c (ok_iald (by decide +kernel)) <|
  am_c (ok_ifne (off := 10) (by decide +kernel) (by decide +kernel)) <|
  am_c (ok_aload_n (k := 0) (by decide +kernel) rfl) <|
  am_c (ok_iconst (z := 4) (by decide +kernel) (by decide +kernel)) <|
  am_c (ok_callV (by decide +kernel) (by decide +kernel) kw_497 kw_498 kw_499 kw_496 (by decide +kernel) (by decide +kernel)) <|
  am_c (ok_istore_n (k := 2) (by decide +kernel) rfl) <|
  am_c (ok_ret (by decide +kernel) rfl) <|
  am_c (ok_aload_n (k := 0) (by decide +kernel) rfl) <|
  am_c (ok_iconst (z := 0) (by decide +kernel) (by decide +kernel)) <|
  am_c (ok_putI (by decide +kernel) (by decide +kernel) rfl (by decide +kernel) kw_491 rfl) <|
  am_c (ok_iconst (z := 0) (by decide +kernel) (by decide +kernel)) <|
  am_c (ok_istore_n (k := 2) (by decide +kernel) rfl) <|
  am_c (ok_iload_n (k := 2) (by decide +kernel) rfl) <|
  am_c (ok_aload_n (k := 0) (by decide +kernel) rfl) <|
  am_c (ok_get (by decide +kernel) (by decide +kernel) rfl (by decide +kernel) kw_430) <|
  am_c (ok_iload_n (k := 1) (by decide +kernel) rfl) <|
  am_c (ok_iald (by decide +kernel)) <|
  am_c (ok_icmpge (off := 24) (by decide +kernel) (by decide +kernel)) <|
  am_c (ok_aload_n (k := 0) (by decide +kernel) rfl) <|
  am_c (ok_aload_n (k := 0) (by decide +kernel) rfl) <|
  am_c (ok_get (by decide +kernel) (by decide +kernel) rfl (by decide +kernel) kw_432) <|
  am_n
def k_c132_1 : List (Nat × am_A) := [(38, ac_push (.int 12) 40), (40, ac_iload 1 41), (41, ac_ii (fun x y => x * y) 42), (42, ac_iload 2 43), (43, ac_ii (fun x y => x + y) 44), (44, ac_iald 0 45), (45, ac_callV 6 99 2 48 am_nohd), (48, ac_iinc 2 1 51), (51, ac_goto 23), (54, ac_aload 0 55), (55, ac_push (.int 0) 56), (56, ac_callV 6 101 2 59 am_nohd), (59, ac_istore 2 60), (60, ac_iload 2 61), (61, ac_push (.int (-1)) 62), (62, ac_if2 (fun x y => x = y) 88 65), (65, ac_aload 0 66), (66, ac_get 2 6 15 69), (69, ac_iload 2 70), (70, ac_push (.int 4096) 73), (73, ac_ii (fun x y => x - y) 74), (74, ac_iald 0 75), (75, ac_if1 (fun x => ¬ x = 0) 88 78), (78, ac_aload 0 79)]
theorem k_p132_1 : ∀ q ∈ k_c132_1, am_Ok k_nm D cA B0 sb H00 (k_Th B0 sb H00) prog_8_method_43_code "TokenMouthModel" "spelled" [] none q.1 q.2 :=
  am_c (ok_bipush (z := 12) (by decide +kernel) (by decide +kernel)) <|
  am_c (ok_iload_n (k := 1) (by decide +kernel) rfl) <|
  am_c (ok_imul (by decide +kernel)) <|
  am_c (ok_iload_n (k := 2) (by decide +kernel) rfl) <|
  am_c (ok_iadd (by decide +kernel)) <|
  am_c (ok_iald (by decide +kernel)) <|
  am_c (ok_callV (by decide +kernel) (by decide +kernel) kw_501 kw_502 kw_503 kw_500 (by decide +kernel) (by decide +kernel)) <|
  am_c (ok_iinc (z := 1) (by decide +kernel) (by decide +kernel)) <|
  am_c (ok_goto (off := -28) (by decide +kernel) (by decide +kernel)) <|
  am_c (ok_aload_n (k := 0) (by decide +kernel) rfl) <|
  am_c (ok_iconst (z := 0) (by decide +kernel) (by decide +kernel)) <|
  am_c (ok_callV (by decide +kernel) (by decide +kernel) kw_505 kw_506 kw_507 kw_504 (by decide +kernel) (by decide +kernel)) <|
  am_c (ok_istore_n (k := 2) (by decide +kernel) rfl) <|
  am_c (ok_iload_n (k := 2) (by decide +kernel) rfl) <|
  am_c (ok_iconst (z := -1) (by decide +kernel) (by decide +kernel)) <|
  am_c (ok_icmpeq (off := 26) (by decide +kernel) (by decide +kernel)) <|
  am_c (ok_aload_n (k := 0) (by decide +kernel) rfl) <|
  am_c (ok_get (by decide +kernel) (by decide +kernel) rfl (by decide +kernel) kw_417) <|
  am_c (ok_iload_n (k := 2) (by decide +kernel) rfl) <|
  am_c (ok_sipush (z := 4096) (by decide +kernel) (by decide +kernel)) <|
  am_c (ok_isub (by decide +kernel)) <|
  am_c (ok_iald (by decide +kernel)) <|
  am_c (ok_ifne (off := 13) (by decide +kernel) (by decide +kernel)) <|
  am_c (ok_aload_n (k := 0) (by decide +kernel) rfl) <|
  am_n
def k_c132_2 : List (Nat × am_A) := [(79, ac_iload 2 80), (80, ac_push (.int 4096) 83), (83, ac_ii (fun x y => x - y) 84), (84, ac_push (.int 2) 85), (85, ac_callV 6 113 3 88 am_nohd), (88, ac_aload 0 89), (89, ac_get 0 6 5 92), (92, ac_if1 (fun x => ¬ x = 0) 100 95), (95, ac_aload 0 96), (96, ac_iload 2 97), (97, ac_callV 6 106 2 100 am_nohd), (100, ac_ret)]
theorem k_p132_2 : ∀ q ∈ k_c132_2, am_Ok k_nm D cA B0 sb H00 (k_Th B0 sb H00) prog_8_method_43_code "TokenMouthModel" "spelled" [] none q.1 q.2 :=
  am_c (ok_iload_n (k := 2) (by decide +kernel) rfl) <|
  am_c (ok_sipush (z := 4096) (by decide +kernel) (by decide +kernel)) <|
  am_c (ok_isub (by decide +kernel)) <|
  am_c (ok_iconst (z := 2) (by decide +kernel) (by decide +kernel)) <|
  am_c (ok_callV (by decide +kernel) (by decide +kernel) kw_613 kw_614 kw_615 kw_612 (by decide +kernel) (by decide +kernel)) <|
  am_c (ok_aload_n (k := 0) (by decide +kernel) rfl) <|
  am_c (ok_get (by decide +kernel) (by decide +kernel) rfl (by decide +kernel) kw_475) <|
  am_c (ok_ifne (off := 8) (by decide +kernel) (by decide +kernel)) <|
  am_c (ok_aload_n (k := 0) (by decide +kernel) rfl) <|
  am_c (ok_iload_n (k := 2) (by decide +kernel) rfl) <|
  am_c (ok_callV (by decide +kernel) (by decide +kernel) kw_561 kw_562 kw_563 kw_560 (by decide +kernel) (by decide +kernel)) <|
  am_c (ok_ret (by decide +kernel) rfl) <|
  am_n
def k_t132 : List (Nat × List (Nat × am_A)) := [(35, k_c132_0), (78, k_c132_1), (100, k_c132_2)]
theorem k_o132 : ∀ c ∈ k_t132, ∀ q ∈ c.2, am_Ok k_nm D cA B0 sb H00 (k_Th B0 sb H00) prog_8_method_43_code "TokenMouthModel" "spelled" [] none q.1 q.2 := am_cc (P := fun pc a => am_Ok k_nm D cA B0 sb H00 (k_Th B0 sb H00) prog_8_method_43_code "TokenMouthModel" "spelled" [] none pc a) k_p132_0 <| am_cc (P := fun pc a => am_Ok k_nm D cA B0 sb H00 (k_Th B0 sb H00) prog_8_method_43_code "TokenMouthModel" "spelled" [] none pc a) k_p132_1 <| am_cc (P := fun pc a => am_Ok k_nm D cA B0 sb H00 (k_Th B0 sb H00) prog_8_method_43_code "TokenMouthModel" "spelled" [] none pc a) k_p132_2 <| am_cn0
end
