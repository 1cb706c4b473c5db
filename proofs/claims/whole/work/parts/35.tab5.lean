/-! tables of the methods 106 to 120; printed by wip/whole/emit.py -/
section
variable {D : va_G} {cA : Nat → ClassId} {B0 : Nat} {sb : Nat → Option Nat} {H00 : Heap}
-- 106: TokenMouthModel.putBack(I)V
def k_c106_0 : List (Nat × am_A) := [(0, ac_aload 0 1), (1, ac_get 0 6 9 4), (4, ac_push (.int 300) 7), (7, ac_if2 (fun x y => ¬ x = y) 17 10), (10, ac_aload 0 11), (11, ac_push (.int 5) 12), (12, ac_callV 6 98 2 15 am_nohd), (15, ac_istore 2 16), (16, ac_ret), (17, ac_aload 0 18), (18, ac_get 2 6 10 21), (21, ac_aload 0 22), (22, ac_get 0 6 9 25), (25, ac_iload 1 26), (26, ac_iast 27), (27, ac_aload 0 28), (28, ac_dup 29), (29, ac_get 0 6 9 32), (32, ac_push (.int 1) 33), (33, ac_ii (fun x y => x + y) 34), (34, ac_putI 6 9 37), (37, ac_ret)]
theorem k_p106_0 : ∀ q ∈ k_c106_0, am_Ok k_nm D cA B0 sb H00 (k_Th B0 sb H00) prog_8_method_17_code "TokenMouthModel" "putBack" [] none q.1 q.2 :=
  am_c (ok_aload_n (k := 0) (by decide +kernel) rfl) <|
  am_c (ok_get (by decide +kernel) (by decide +kernel) rfl (by decide +kernel) kw_477) <|
  am_c (ok_sipush (z := 300) (by decide +kernel) (by decide +kernel)) <|
  am_c (ok_icmpne (off := 10) (by decide +kernel) (by decide +kernel)) <|
  am_c (ok_aload_n (k := 0) (by decide +kernel) rfl) <|
  am_c (ok_iconst (z := 5) (by decide +kernel) (by decide +kernel)) <|
  am_c (ok_callV (by decide +kernel) (by decide +kernel) kw_497 kw_498 kw_499 kw_496 (by decide +kernel) (by decide +kernel)) <|
  am_c (ok_istore_n (k := 2) (by decide +kernel) rfl) <|
  am_c (ok_ret (by decide +kernel) rfl) <|
  am_c (ok_aload_n (k := 0) (by decide +kernel) rfl) <|
  am_c (ok_get (by decide +kernel) (by decide +kernel) rfl (by decide +kernel) kw_412) <|
  am_c (ok_aload_n (k := 0) (by decide +kernel) rfl) <|
  am_c (ok_get (by decide +kernel) (by decide +kernel) rfl (by decide +kernel) kw_477) <|
  am_c (ok_iload_n (k := 1) (by decide +kernel) rfl) <|
  am_c (ok_iast (by decide +kernel)) <|
  am_c (ok_aload_n (k := 0) (by decide +kernel) rfl) <|
  am_c (ok_dup (by decide +kernel)) <|
  am_c (ok_get (by decide +kernel) (by decide +kernel) rfl (by decide +kernel) kw_477) <|
  am_c (ok_iconst (z := 1) (by decide +kernel) (by decide +kernel)) <|
  am_c (ok_iadd (by decide +kernel)) <|
  am_c (ok_putI (by decide +kernel) (by decide +kernel) rfl (by decide +kernel) kw_477 rfl) <|
  am_c (ok_ret (by decide +kernel) rfl) <|
  am_n
def k_t106 : List (Nat × List (Nat × am_A)) := [(37, k_c106_0)]
theorem k_o106 : ∀ c ∈ k_t106, ∀ q ∈ c.2, am_Ok k_nm D cA B0 sb H00 (k_Th B0 sb H00) prog_8_method_17_code "TokenMouthModel" "putBack" [] none q.1 q.2 := am_cc (P := fun pc a => am_Ok k_nm D cA B0 sb H00 (k_Th B0 sb H00) prog_8_method_17_code "TokenMouthModel" "putBack" [] none pc a) k_p106_0 <| am_cn0
-- 107: TokenMouthModel.isName(I)Z
def k_c107_0 : List (Nat × am_A) := [(0, ac_iload 0 1), (1, ac_push (.int 4096) 4), (4, ac_if2 (fun x y => x < y) 18 7), (7, ac_iload 0 8), (8, ac_push (.int 16384) 11), (11, ac_if2 (fun x y => y ≤ x) 18 14), (14, ac_push (.int 1) 15), (15, ac_goto 19), (18, ac_push (.int 0) 19), (19, ac_zret)]
theorem k_p107_0 : ∀ q ∈ k_c107_0, am_Ok k_nm D cA B0 sb H00 (k_Th B0 sb H00) prog_8_method_18_code "TokenMouthModel" "isName" [] (some .boolean) q.1 q.2 :=
  am_c (ok_iload_n (k := 0) (by decide +kernel) rfl) <|
  am_c (ok_sipush (z := 4096) (by decide +kernel) (by decide +kernel)) <|
  am_c (ok_icmplt (off := 14) (by decide +kernel) (by decide +kernel)) <|
  am_c (ok_iload_n (k := 0) (by decide +kernel) rfl) <|
  am_c (ok_sipush (z := 16384) (by decide +kernel) (by decide +kernel)) <|
  am_c (ok_icmpge (off := 7) (by decide +kernel) (by decide +kernel)) <|
  am_c (ok_iconst (z := 1) (by decide +kernel) (by decide +kernel)) <|
  am_c (ok_goto (off := 4) (by decide +kernel) (by decide +kernel)) <|
  am_c (ok_iconst (z := 0) (by decide +kernel) (by decide +kernel)) <|
  am_c (ok_zret (by decide +kernel) rfl) <|
  am_n
def k_t107 : List (Nat × List (Nat × am_A)) := [(19, k_c107_0)]
theorem k_o107 : ∀ c ∈ k_t107, ∀ q ∈ c.2, am_Ok k_nm D cA B0 sb H00 (k_Th B0 sb H00) prog_8_method_18_code "TokenMouthModel" "isName" [] (some .boolean) q.1 q.2 := am_cc (P := fun pc a => am_Ok k_nm D cA B0 sb H00 (k_Th B0 sb H00) prog_8_method_18_code "TokenMouthModel" "isName" [] (some .boolean) pc a) k_p107_0 <| am_cn0
-- 108: TokenMouthModel.isMarked(I)Z
def k_c108_0 : List (Nat × am_A) := [(0, ac_iload 0 1), (1, ac_callS 107 1 4), (4, ac_if1 (fun x => x = 0) 19 7), (7, ac_iload 0 8), (8, ac_push (.int 8192) 11), (11, ac_ii (fun x y => x &&& y) 12), (12, ac_if1 (fun x => x = 0) 19 15), (15, ac_push (.int 1) 16), (16, ac_goto 20), (19, ac_push (.int 0) 20), (20, ac_zret)]
theorem k_p108_0 : ∀ q ∈ k_c108_0, am_Ok k_nm D cA B0 sb H00 (k_Th B0 sb H00) prog_8_method_19_code "TokenMouthModel" "isMarked" [] (some .boolean) q.1 q.2 :=
  am_c (ok_iload_n (k := 0) (by decide +kernel) rfl) <|
  am_c (ok_callS (by decide +kernel) kw_521 kw_522 kw_487 kw_520 (by decide +kernel) (by decide +kernel)) <|
  am_c (ok_ifeq (off := 15) (by decide +kernel) (by decide +kernel)) <|
  am_c (ok_iload_n (k := 0) (by decide +kernel) rfl) <|
  am_c (ok_sipush (z := 8192) (by decide +kernel) (by decide +kernel)) <|
  am_c (ok_iand (by decide +kernel)) <|
  am_c (ok_ifeq (off := 7) (by decide +kernel) (by decide +kernel)) <|
  am_c (ok_iconst (z := 1) (by decide +kernel) (by decide +kernel)) <|
  am_c (ok_goto (off := 4) (by decide +kernel) (by decide +kernel)) <|
  am_c (ok_iconst (z := 0) (by decide +kernel) (by decide +kernel)) <|
  am_c (ok_zret (by decide +kernel) rfl) <|
  am_n
def k_t108 : List (Nat × List (Nat × am_A)) := [(20, k_c108_0)]
theorem k_o108 : ∀ c ∈ k_t108, ∀ q ∈ c.2, am_Ok k_nm D cA B0 sb H00 (k_Th B0 sb H00) prog_8_method_19_code "TokenMouthModel" "isMarked" [] (some .boolean) q.1 q.2 := am_cc (P := fun pc a => am_Ok k_nm D cA B0 sb H00 (k_Th B0 sb H00) prog_8_method_19_code "TokenMouthModel" "isMarked" [] (some .boolean) pc a) k_p108_0 <| am_cn0
-- 109: TokenMouthModel.plain(I)I
def k_c109_0 : List (Nat × am_A) := [(0, ac_iload 0 1), (1, ac_callS 108 1 4), (4, ac_if1 (fun x => x = 0) 15 7), (7, ac_iload 0 8), (8, ac_push (.int 8192) 11), (11, ac_ii (fun x y => x - y) 12), (12, ac_goto 16), (15, ac_iload 0 16), (16, ac_iret)]
theorem k_p109_0 : ∀ q ∈ k_c109_0, am_Ok k_nm D cA B0 sb H00 (k_Th B0 sb H00) prog_8_method_20_code "TokenMouthModel" "plain" [] (some .int) q.1 q.2 :=
  am_c (ok_iload_n (k := 0) (by decide +kernel) rfl) <|
  am_c (ok_callS (by decide +kernel) kw_524 kw_525 kw_487 kw_523 (by decide +kernel) (by decide +kernel)) <|
  am_c (ok_ifeq (off := 11) (by decide +kernel) (by decide +kernel)) <|
  am_c (ok_iload_n (k := 0) (by decide +kernel) rfl) <|
  am_c (ok_sipush (z := 8192) (by decide +kernel) (by decide +kernel)) <|
  am_c (ok_isub (by decide +kernel)) <|
  am_c (ok_goto (off := 4) (by decide +kernel) (by decide +kernel)) <|
  am_c (ok_iload_n (k := 0) (by decide +kernel) rfl) <|
  am_c (ok_iret (by decide +kernel) rfl) <|
  am_n
def k_t109 : List (Nat × List (Nat × am_A)) := [(16, k_c109_0)]
theorem k_o109 : ∀ c ∈ k_t109, ∀ q ∈ c.2, am_Ok k_nm D cA B0 sb H00 (k_Th B0 sb H00) prog_8_method_20_code "TokenMouthModel" "plain" [] (some .int) q.1 q.2 := am_cc (P := fun pc a => am_Ok k_nm D cA B0 sb H00 (k_Th B0 sb H00) prog_8_method_20_code "TokenMouthModel" "plain" [] (some .int) pc a) k_p109_0 <| am_cn0
-- 110: TokenMouthModel.isCharacter(II)Z
def k_c110_0 : List (Nat × am_A) := [(0, ac_iload 0 1), (1, ac_if1 (fun x => x < 0) 23 4), (4, ac_iload 0 5), (5, ac_push (.int 4096) 8), (8, ac_if2 (fun x y => y ≤ x) 23 11), (11, ac_iload 0 12), (12, ac_push (.int 8) 14), (14, ac_ii (fun x y => x >>> (y &&& 31)) 15), (15, ac_iload 1 16), (16, ac_if2 (fun x y => ¬ x = y) 23 19), (19, ac_push (.int 1) 20), (20, ac_goto 24), (23, ac_push (.int 0) 24), (24, ac_zret)]
theorem k_p110_0 : ∀ q ∈ k_c110_0, am_Ok k_nm D cA B0 sb H00 (k_Th B0 sb H00) prog_8_method_21_code "TokenMouthModel" "isCharacter" [] (some .boolean) q.1 q.2 :=
  am_c (ok_iload_n (k := 0) (by decide +kernel) rfl) <|
  am_c (ok_iflt (off := 22) (by decide +kernel) (by decide +kernel)) <|
  am_c (ok_iload_n (k := 0) (by decide +kernel) rfl) <|
  am_c (ok_sipush (z := 4096) (by decide +kernel) (by decide +kernel)) <|
  am_c (ok_icmpge (off := 15) (by decide +kernel) (by decide +kernel)) <|
  am_c (ok_iload_n (k := 0) (by decide +kernel) rfl) <|
  am_c (ok_bipush (z := 8) (by decide +kernel) (by decide +kernel)) <|
  am_c (ok_ishr (by decide +kernel)) <|
  am_c (ok_iload_n (k := 1) (by decide +kernel) rfl) <|
  am_c (ok_icmpne (off := 7) (by decide +kernel) (by decide +kernel)) <|
  am_c (ok_iconst (z := 1) (by decide +kernel) (by decide +kernel)) <|
  am_c (ok_goto (off := 4) (by decide +kernel) (by decide +kernel)) <|
  am_c (ok_iconst (z := 0) (by decide +kernel) (by decide +kernel)) <|
  am_c (ok_zret (by decide +kernel) rfl) <|
  am_n
def k_t110 : List (Nat × List (Nat × am_A)) := [(24, k_c110_0)]
theorem k_o110 : ∀ c ∈ k_t110, ∀ q ∈ c.2, am_Ok k_nm D cA B0 sb H00 (k_Th B0 sb H00) prog_8_method_21_code "TokenMouthModel" "isCharacter" [] (some .boolean) q.1 q.2 := am_cc (P := fun pc a => am_Ok k_nm D cA B0 sb H00 (k_Th B0 sb H00) prog_8_method_21_code "TokenMouthModel" "isCharacter" [] (some .boolean) pc a) k_p110_0 <| am_cn0
-- 111: TokenMouthModel.meaningOf(I)I
def k_c111_0 : List (Nat × am_A) := [(0, ac_iload 1 1), (1, ac_push (.int 4096) 4), (4, ac_if2 (fun x y => y ≤ x) 15 7), (7, ac_push (.int 1000) 10), (10, ac_iload 1 11), (11, ac_ii (fun x y => x + y) 12), (12, ac_goto 36), (15, ac_iload 1 16), (16, ac_callS 108 1 19), (19, ac_if1 (fun x => x = 0) 26 22), (22, ac_push (.int 2) 23), (23, ac_goto 36), (26, ac_aload 0 27), (27, ac_get 2 6 15 30), (30, ac_iload 1 31), (31, ac_push (.int 4096) 34), (34, ac_ii (fun x y => x - y) 35), (35, ac_iald 0 36), (36, ac_iret)]
theorem k_p111_0 : ∀ q ∈ k_c111_0, am_Ok k_nm D cA B0 sb H00 (k_Th B0 sb H00) prog_8_method_22_code "TokenMouthModel" "meaningOf" [] (some .int) q.1 q.2 :=
  am_c (ok_iload_n (k := 1) (by decide +kernel) rfl) <|
  am_c (ok_sipush (z := 4096) (by decide +kernel) (by decide +kernel)) <|
  am_c (ok_icmpge (off := 11) (by decide +kernel) (by decide +kernel)) <|
  am_c (ok_sipush (z := 1000) (by decide +kernel) (by decide +kernel)) <|
  am_c (ok_iload_n (k := 1) (by decide +kernel) rfl) <|
  am_c (ok_iadd (by decide +kernel)) <|
  am_c (ok_goto (off := 24) (by decide +kernel) (by decide +kernel)) <|
  am_c (ok_iload_n (k := 1) (by decide +kernel) rfl) <|
  am_c (ok_callS (by decide +kernel) kw_524 kw_525 kw_487 kw_523 (by decide +kernel) (by decide +kernel)) <|
  am_c (ok_ifeq (off := 7) (by decide +kernel) (by decide +kernel)) <|
  am_c (ok_iconst (z := 2) (by decide +kernel) (by decide +kernel)) <|
  am_c (ok_goto (off := 13) (by decide +kernel) (by decide +kernel)) <|
  am_c (ok_aload_n (k := 0) (by decide +kernel) rfl) <|
  am_c (ok_get (by decide +kernel) (by decide +kernel) rfl (by decide +kernel) kw_417) <|
  am_c (ok_iload_n (k := 1) (by decide +kernel) rfl) <|
  am_c (ok_sipush (z := 4096) (by decide +kernel) (by decide +kernel)) <|
  am_c (ok_isub (by decide +kernel)) <|
  am_c (ok_iald (by decide +kernel)) <|
  am_c (ok_iret (by decide +kernel) rfl) <|
  am_n
def k_t111 : List (Nat × List (Nat × am_A)) := [(36, k_c111_0)]
theorem k_o111 : ∀ c ∈ k_t111, ∀ q ∈ c.2, am_Ok k_nm D cA B0 sb H00 (k_Th B0 sb H00) prog_8_method_22_code "TokenMouthModel" "meaningOf" [] (some .int) q.1 q.2 := am_cc (P := fun pc a => am_Ok k_nm D cA B0 sb H00 (k_Th B0 sb H00) prog_8_method_22_code "TokenMouthModel" "meaningOf" [] (some .int) pc a) k_p111_0 <| am_cn0
-- 112: TokenMouthModel.isExpandable(I)Z
def k_c112_0 : List (Nat × am_A) := [(0, ac_aload 0 1), (1, ac_iload 1 2), (2, ac_callV 6 111 2 5 am_nohd), (5, ac_istore 2 6), (6, ac_iload 2 7), (7, ac_push (.int 6000) 10), (10, ac_if2 (fun x y => y ≤ x) 43 13), (13, ac_iload 2 14), (14, ac_push (.int 8) 16), (16, ac_if2 (fun x y => x = y) 43 19), (19, ac_iload 2 20), (20, ac_push (.int 9) 22), (22, ac_if2 (fun x y => x = y) 43 25), (25, ac_iload 2 26), (26, ac_push (.int 10) 28), (28, ac_if2 (fun x y => x = y) 43 31), (31, ac_iload 2 32), (32, ac_push (.int 12) 34), (34, ac_if2 (fun x y => x < y) 47 37), (37, ac_iload 2 38), (38, ac_push (.int 18) 40), (40, ac_if2 (fun x y => y < x) 47 43), (43, ac_push (.int 1) 44), (44, ac_goto 48)]
theorem k_p112_0 : ∀ q ∈ k_c112_0, am_Ok k_nm D cA B0 sb H00 (k_Th B0 sb H00) prog_8_method_23_code "TokenMouthModel" "isExpandable" [] (some .boolean) q.1 q.2 :=
  am_c (ok_aload_n (k := 0) (by decide +kernel) rfl) <|
  am_c (ok_iload_n (k := 1) (by decide +kernel) rfl) <|
  am_c (ok_callV (by decide +kernel) (by decide +kernel) kw_527 kw_528 kw_529 kw_526 (by decide +kernel) (by decide +kernel)) <|
  am_c (ok_istore_n (k := 2) (by decide +kernel) rfl) <|
  am_c (ok_iload_n (k := 2) (by decide +kernel) rfl) <|
  am_c (ok_sipush (z := 6000) (by decide +kernel) (by decide +kernel)) <|
  am_c (ok_icmpge (off := 33) (by decide +kernel) (by decide +kernel)) <|
  am_c (ok_iload_n (k := 2) (by decide +kernel) rfl) <|
  am_c (ok_bipush (z := 8) (by decide +kernel) (by decide +kernel)) <|
  am_c (ok_icmpeq (off := 27) (by decide +kernel) (by decide +kernel)) <|
  am_c (ok_iload_n (k := 2) (by decide +kernel) rfl) <|
  am_c (ok_bipush (z := 9) (by decide +kernel) (by decide +kernel)) <|
  am_c (ok_icmpeq (off := 21) (by decide +kernel) (by decide +kernel)) <|
  am_c (ok_iload_n (k := 2) (by decide +kernel) rfl) <|
  am_c (ok_bipush (z := 10) (by decide +kernel) (by decide +kernel)) <|
  am_c (ok_icmpeq (off := 15) (by decide +kernel) (by decide +kernel)) <|
  am_c (ok_iload_n (k := 2) (by decide +kernel) rfl) <|
  am_c (ok_bipush (z := 12) (by decide +kernel) (by decide +kernel)) <|
  am_c (ok_icmplt (off := 13) (by decide +kernel) (by decide +kernel)) <|
  am_c (ok_iload_n (k := 2) (by decide +kernel) rfl) <|
  am_c (ok_bipush (z := 18) (by decide +kernel) (by decide +kernel)) <|
  am_c (ok_icmpgt (off := 7) (by decide +kernel) (by decide +kernel)) <|
  am_c (ok_iconst (z := 1) (by decide +kernel) (by decide +kernel)) <|
  am_c (ok_goto (off := 4) (by decide +kernel) (by decide +kernel)) <|
  am_n
def k_c112_1 : List (Nat × am_A) := [(47, ac_push (.int 0) 48), (48, ac_zret)]
theorem k_p112_1 : ∀ q ∈ k_c112_1, am_Ok k_nm D cA B0 sb H00 (k_Th B0 sb H00) prog_8_method_23_code "TokenMouthModel" "isExpandable" [] (some .boolean) q.1 q.2 :=
  am_c (ok_iconst (z := 0) (by decide +kernel) (by decide +kernel)) <|
  am_c (ok_zret (by decide +kernel) rfl) <|
  am_n
def k_t112 : List (Nat × List (Nat × am_A)) := [(44, k_c112_0), (48, k_c112_1)]
theorem k_o112 : ∀ c ∈ k_t112, ∀ q ∈ c.2, am_Ok k_nm D cA B0 sb H00 (k_Th B0 sb H00) prog_8_method_23_code "TokenMouthModel" "isExpandable" [] (some .boolean) q.1 q.2 := am_cc (P := fun pc a => am_Ok k_nm D cA B0 sb H00 (k_Th B0 sb H00) prog_8_method_23_code "TokenMouthModel" "isExpandable" [] (some .boolean) pc a) k_p112_0 <| am_cc (P := fun pc a => am_Ok k_nm D cA B0 sb H00 (k_Th B0 sb H00) prog_8_method_23_code "TokenMouthModel" "isExpandable" [] (some .boolean) pc a) k_p112_1 <| am_cn0
-- 113: TokenMouthModel.change(II)V
def k_c113_0 : List (Nat × am_A) := [(0, ac_aload 0 1), (1, ac_get 0 6 18 4), (4, ac_if1 (fun x => ¬ x = 0) 11 7), (7, ac_push (.int 1) 8), (8, ac_goto 12), (11, ac_push (.int 0) 12), (12, ac_istore 3 13), (13, ac_push (.int 0) 14), (14, ac_istore 4 16), (16, ac_iload 4 18), (18, ac_aload 0 19), (19, ac_get 0 6 19 22), (22, ac_if2 (fun x y => y ≤ x) 66 25), (25, ac_iload 3 26), (26, ac_if1 (fun x => ¬ x = 0) 54 29), (29, ac_aload 0 30), (30, ac_get 2 6 20 33), (33, ac_iload 4 35), (35, ac_iald 0 36), (36, ac_aload 0 37), (37, ac_get 0 6 18 40), (40, ac_if2 (fun x y => ¬ x = y) 58 43), (43, ac_aload 0 44), (44, ac_get 2 6 21 47)]
theorem k_p113_0 : ∀ q ∈ k_c113_0, am_Ok k_nm D cA B0 sb H00 (k_Th B0 sb H00) prog_8_method_24_code "TokenMouthModel" "change" [] none q.1 q.2 :=
  am_c (ok_aload_n (k := 0) (by decide +kernel) rfl) <|
  am_c (ok_get (by decide +kernel) (by decide +kernel) rfl (by decide +kernel) kw_478) <|
  am_c (ok_ifne (off := 7) (by decide +kernel) (by decide +kernel)) <|
  am_c (ok_iconst (z := 1) (by decide +kernel) (by decide +kernel)) <|
  am_c (ok_goto (off := 4) (by decide +kernel) (by decide +kernel)) <|
  am_c (ok_iconst (z := 0) (by decide +kernel) (by decide +kernel)) <|
  am_c (ok_istore_n (k := 3) (by decide +kernel) rfl) <|
  am_c (ok_iconst (z := 0) (by decide +kernel) (by decide +kernel)) <|
  am_c (ok_istore (by decide +kernel)) <|
  am_c (ok_iload (by decide +kernel)) <|
  am_c (ok_aload_n (k := 0) (by decide +kernel) rfl) <|
  am_c (ok_get (by decide +kernel) (by decide +kernel) rfl (by decide +kernel) kw_479) <|
  am_c (ok_icmpge (off := 44) (by decide +kernel) (by decide +kernel)) <|
  am_c (ok_iload_n (k := 3) (by decide +kernel) rfl) <|
  am_c (ok_ifne (off := 28) (by decide +kernel) (by decide +kernel)) <|
  am_c (ok_aload_n (k := 0) (by decide +kernel) rfl) <|
  am_c (ok_get (by decide +kernel) (by decide +kernel) rfl (by decide +kernel) kw_419) <|
  am_c (ok_iload (by decide +kernel)) <|
  am_c (ok_iald (by decide +kernel)) <|
  am_c (ok_aload_n (k := 0) (by decide +kernel) rfl) <|
  am_c (ok_get (by decide +kernel) (by decide +kernel) rfl (by decide +kernel) kw_478) <|
  am_c (ok_icmpne (off := 18) (by decide +kernel) (by decide +kernel)) <|
  am_c (ok_aload_n (k := 0) (by decide +kernel) rfl) <|
  am_c (ok_get (by decide +kernel) (by decide +kernel) rfl (by decide +kernel) kw_420) <|
  am_n
def k_c113_1 : List (Nat × am_A) := [(47, ac_iload 4 49), (49, ac_iald 0 50), (50, ac_iload 1 51), (51, ac_if2 (fun x y => ¬ x = y) 58 54), (54, ac_push (.int 1) 55), (55, ac_goto 59), (58, ac_push (.int 0) 59), (59, ac_istore 3 60), (60, ac_iinc 4 1 63), (63, ac_goto 16), (66, ac_iload 3 67), (67, ac_if1 (fun x => ¬ x = 0) 155 70), (70, ac_aload 0 71), (71, ac_get 0 6 19 74), (74, ac_push (.int 60) 76), (76, ac_if2 (fun x y => ¬ x = y) 87 79), (79, ac_aload 0 80), (80, ac_push (.int 5) 81), (81, ac_callV 6 98 2 84 am_nohd), (84, ac_istore 4 86), (86, ac_ret), (87, ac_aload 0 88), (88, ac_get 2 6 20 91), (91, ac_aload 0 92)]
theorem k_p113_1 : ∀ q ∈ k_c113_1, am_Ok k_nm D cA B0 sb H00 (k_Th B0 sb H00) prog_8_method_24_code "TokenMouthModel" "change" [] none q.1 q.2 :=
  am_c (ok_iload (by decide +kernel)) <|
  am_c (ok_iald (by decide +kernel)) <|
  am_c (ok_iload_n (k := 1) (by decide +kernel) rfl) <|
  am_c (ok_icmpne (off := 7) (by decide +kernel) (by decide +kernel)) <|
  am_c (ok_iconst (z := 1) (by decide +kernel) (by decide +kernel)) <|
  am_c (ok_goto (off := 4) (by decide +kernel) (by decide +kernel)) <|
  am_c (ok_iconst (z := 0) (by decide +kernel) (by decide +kernel)) <|
  am_c (ok_istore_n (k := 3) (by decide +kernel) rfl) <|
  am_c (ok_iinc (z := 1) (by decide +kernel) (by decide +kernel)) <|
  am_c (ok_goto (off := -47) (by decide +kernel) (by decide +kernel)) <|
  am_c (ok_iload_n (k := 3) (by decide +kernel) rfl) <|
  am_c (ok_ifne (off := 88) (by decide +kernel) (by decide +kernel)) <|
  am_c (ok_aload_n (k := 0) (by decide +kernel) rfl) <|
  am_c (ok_get (by decide +kernel) (by decide +kernel) rfl (by decide +kernel) kw_479) <|
  am_c (ok_bipush (z := 60) (by decide +kernel) (by decide +kernel)) <|
  am_c (ok_icmpne (off := 11) (by decide +kernel) (by decide +kernel)) <|
  am_c (ok_aload_n (k := 0) (by decide +kernel) rfl) <|
  am_c (ok_iconst (z := 5) (by decide +kernel) (by decide +kernel)) <|
  am_c (ok_callV (by decide +kernel) (by decide +kernel) kw_497 kw_498 kw_499 kw_496 (by decide +kernel) (by decide +kernel)) <|
  am_c (ok_istore (by decide +kernel)) <|
  am_c (ok_ret (by decide +kernel) rfl) <|
  am_c (ok_aload_n (k := 0) (by decide +kernel) rfl) <|
  am_c (ok_get (by decide +kernel) (by decide +kernel) rfl (by decide +kernel) kw_419) <|
  am_c (ok_aload_n (k := 0) (by decide +kernel) rfl) <|
  am_n
def k_c113_2 : List (Nat × am_A) := [(92, ac_get 0 6 19 95), (95, ac_aload 0 96), (96, ac_get 0 6 18 99), (99, ac_iast 100), (100, ac_aload 0 101), (101, ac_get 2 6 21 104), (104, ac_aload 0 105), (105, ac_get 0 6 19 108), (108, ac_iload 1 109), (109, ac_iast 110), (110, ac_aload 0 111), (111, ac_get 2 6 22 114), (114, ac_aload 0 115), (115, ac_get 0 6 19 118), (118, ac_iload 1 119), (119, ac_push (.int 200) 122), (122, ac_if2 (fun x y => y ≤ x) 134 125), (125, ac_aload 0 126), (126, ac_get 2 6 15 129), (129, ac_iload 1 130), (130, ac_iald 0 131), (131, ac_goto 144), (134, ac_aload 0 135), (135, ac_get 2 6 8 138)]
theorem k_p113_2 : ∀ q ∈ k_c113_2, am_Ok k_nm D cA B0 sb H00 (k_Th B0 sb H00) prog_8_method_24_code "TokenMouthModel" "change" [] none q.1 q.2 :=
  am_c (ok_get (by decide +kernel) (by decide +kernel) rfl (by decide +kernel) kw_479) <|
  am_c (ok_aload_n (k := 0) (by decide +kernel) rfl) <|
  am_c (ok_get (by decide +kernel) (by decide +kernel) rfl (by decide +kernel) kw_478) <|
  am_c (ok_iast (by decide +kernel)) <|
  am_c (ok_aload_n (k := 0) (by decide +kernel) rfl) <|
  am_c (ok_get (by decide +kernel) (by decide +kernel) rfl (by decide +kernel) kw_420) <|
  am_c (ok_aload_n (k := 0) (by decide +kernel) rfl) <|
  am_c (ok_get (by decide +kernel) (by decide +kernel) rfl (by decide +kernel) kw_479) <|
  am_c (ok_iload_n (k := 1) (by decide +kernel) rfl) <|
  am_c (ok_iast (by decide +kernel)) <|
  am_c (ok_aload_n (k := 0) (by decide +kernel) rfl) <|
  am_c (ok_get (by decide +kernel) (by decide +kernel) rfl (by decide +kernel) kw_421) <|
  am_c (ok_aload_n (k := 0) (by decide +kernel) rfl) <|
  am_c (ok_get (by decide +kernel) (by decide +kernel) rfl (by decide +kernel) kw_479) <|
  am_c (ok_iload_n (k := 1) (by decide +kernel) rfl) <|
  am_c (ok_sipush (z := 200) (by decide +kernel) (by decide +kernel)) <|
  am_c (ok_icmpge (off := 12) (by decide +kernel) (by decide +kernel)) <|
  am_c (ok_aload_n (k := 0) (by decide +kernel) rfl) <|
  am_c (ok_get (by decide +kernel) (by decide +kernel) rfl (by decide +kernel) kw_417) <|
  am_c (ok_iload_n (k := 1) (by decide +kernel) rfl) <|
  am_c (ok_iald (by decide +kernel)) <|
  am_c (ok_goto (off := 13) (by decide +kernel) (by decide +kernel)) <|
  am_c (ok_aload_n (k := 0) (by decide +kernel) rfl) <|
  am_c (ok_get (by decide +kernel) (by decide +kernel) rfl (by decide +kernel) kw_411) <|
  am_n
def k_c113_3 : List (Nat × am_A) := [(138, ac_iload 1 139), (139, ac_push (.int 200) 142), (142, ac_ii (fun x y => x - y) 143), (143, ac_iald 0 144), (144, ac_iast 145), (145, ac_aload 0 146), (146, ac_dup 147), (147, ac_get 0 6 19 150), (150, ac_push (.int 1) 151), (151, ac_ii (fun x y => x + y) 152), (152, ac_putI 6 19 155), (155, ac_iload 1 156), (156, ac_push (.int 200) 159), (159, ac_if2 (fun x y => y ≤ x) 172 162), (162, ac_aload 0 163), (163, ac_get 2 6 15 166), (166, ac_iload 1 167), (167, ac_iload 2 168), (168, ac_iast 169), (169, ac_goto 183), (172, ac_aload 0 173), (173, ac_get 2 6 8 176), (176, ac_iload 1 177), (177, ac_push (.int 200) 180)]
theorem k_p113_3 : ∀ q ∈ k_c113_3, am_Ok k_nm D cA B0 sb H00 (k_Th B0 sb H00) prog_8_method_24_code "TokenMouthModel" "change" [] none q.1 q.2 :=
  am_c (ok_iload_n (k := 1) (by decide +kernel) rfl) <|
  am_c (ok_sipush (z := 200) (by decide +kernel) (by decide +kernel)) <|
  am_c (ok_isub (by decide +kernel)) <|
  am_c (ok_iald (by decide +kernel)) <|
  am_c (ok_iast (by decide +kernel)) <|
  am_c (ok_aload_n (k := 0) (by decide +kernel) rfl) <|
  am_c (ok_dup (by decide +kernel)) <|
  am_c (ok_get (by decide +kernel) (by decide +kernel) rfl (by decide +kernel) kw_479) <|
  am_c (ok_iconst (z := 1) (by decide +kernel) (by decide +kernel)) <|
  am_c (ok_iadd (by decide +kernel)) <|
  am_c (ok_putI (by decide +kernel) (by decide +kernel) rfl (by decide +kernel) kw_479 rfl) <|
  am_c (ok_iload_n (k := 1) (by decide +kernel) rfl) <|
  am_c (ok_sipush (z := 200) (by decide +kernel) (by decide +kernel)) <|
  am_c (ok_icmpge (off := 13) (by decide +kernel) (by decide +kernel)) <|
  am_c (ok_aload_n (k := 0) (by decide +kernel) rfl) <|
  am_c (ok_get (by decide +kernel) (by decide +kernel) rfl (by decide +kernel) kw_417) <|
  am_c (ok_iload_n (k := 1) (by decide +kernel) rfl) <|
  am_c (ok_iload_n (k := 2) (by decide +kernel) rfl) <|
  am_c (ok_iast (by decide +kernel)) <|
  am_c (ok_goto (off := 14) (by decide +kernel) (by decide +kernel)) <|
  am_c (ok_aload_n (k := 0) (by decide +kernel) rfl) <|
  am_c (ok_get (by decide +kernel) (by decide +kernel) rfl (by decide +kernel) kw_411) <|
  am_c (ok_iload_n (k := 1) (by decide +kernel) rfl) <|
  am_c (ok_sipush (z := 200) (by decide +kernel) (by decide +kernel)) <|
  am_n
def k_c113_4 : List (Nat × am_A) := [(180, ac_ii (fun x y => x - y) 181), (181, ac_iload 2 182), (182, ac_iast 183), (183, ac_ret)]
theorem k_p113_4 : ∀ q ∈ k_c113_4, am_Ok k_nm D cA B0 sb H00 (k_Th B0 sb H00) prog_8_method_24_code "TokenMouthModel" "change" [] none q.1 q.2 :=
  am_c (ok_isub (by decide +kernel)) <|
  am_c (ok_iload_n (k := 2) (by decide +kernel) rfl) <|
  am_c (ok_iast (by decide +kernel)) <|
  am_c (ok_ret (by decide +kernel) rfl) <|
  am_n
def k_t113 : List (Nat × List (Nat × am_A)) := [(44, k_c113_0), (91, k_c113_1), (135, k_c113_2), (177, k_c113_3), (183, k_c113_4)]
theorem k_o113 : ∀ c ∈ k_t113, ∀ q ∈ c.2, am_Ok k_nm D cA B0 sb H00 (k_Th B0 sb H00) prog_8_method_24_code "TokenMouthModel" "change" [] none q.1 q.2 := am_cc (P := fun pc a => am_Ok k_nm D cA B0 sb H00 (k_Th B0 sb H00) prog_8_method_24_code "TokenMouthModel" "change" [] none pc a) k_p113_0 <| am_cc (P := fun pc a => am_Ok k_nm D cA B0 sb H00 (k_Th B0 sb H00) prog_8_method_24_code "TokenMouthModel" "change" [] none pc a) k_p113_1 <| am_cc (P := fun pc a => am_Ok k_nm D cA B0 sb H00 (k_Th B0 sb H00) prog_8_method_24_code "TokenMouthModel" "change" [] none pc a) k_p113_2 <| am_cc (P := fun pc a => am_Ok k_nm D cA B0 sb H00 (k_Th B0 sb H00) prog_8_method_24_code "TokenMouthModel" "change" [] none pc a) k_p113_3 <| am_cc (P := fun pc a => am_Ok k_nm D cA B0 sb H00 (k_Th B0 sb H00) prog_8_method_24_code "TokenMouthModel" "change" [] none pc a) k_p113_4 <| am_cn0
-- 114: TokenMouthModel.closeGroup()V
def k_c114_0 : List (Nat × am_A) := [(0, ac_aload 0 1), (1, ac_get 0 6 18 4), (4, ac_if1 (fun x => ¬ x = 0) 14 7), (7, ac_aload 0 8), (8, ac_push (.int 1) 9), (9, ac_callV 6 98 2 12 am_nohd), (12, ac_istore 1 13), (13, ac_ret), (14, ac_aload 0 15), (15, ac_get 0 6 19 18), (18, ac_if1 (fun x => x ≤ 0) 106 21), (21, ac_aload 0 22), (22, ac_get 2 6 20 25), (25, ac_aload 0 26), (26, ac_get 0 6 19 29), (29, ac_push (.int 1) 30), (30, ac_ii (fun x y => x - y) 31), (31, ac_iald 0 32), (32, ac_aload 0 33), (33, ac_get 0 6 18 36), (36, ac_if2 (fun x y => ¬ x = y) 106 39), (39, ac_aload 0 40), (40, ac_dup 41), (41, ac_get 0 6 19 44)]
theorem k_p114_0 : ∀ q ∈ k_c114_0, am_Ok k_nm D cA B0 sb H00 (k_Th B0 sb H00) prog_8_method_25_code "TokenMouthModel" "closeGroup" [] none q.1 q.2 :=
  am_c (ok_aload_n (k := 0) (by decide +kernel) rfl) <|
  am_c (ok_get (by decide +kernel) (by decide +kernel) rfl (by decide +kernel) kw_478) <|
  am_c (ok_ifne (off := 10) (by decide +kernel) (by decide +kernel)) <|
  am_c (ok_aload_n (k := 0) (by decide +kernel) rfl) <|
  am_c (ok_iconst (z := 1) (by decide +kernel) (by decide +kernel)) <|
  am_c (ok_callV (by decide +kernel) (by decide +kernel) kw_497 kw_498 kw_499 kw_496 (by decide +kernel) (by decide +kernel)) <|
  am_c (ok_istore_n (k := 1) (by decide +kernel) rfl) <|
  am_c (ok_ret (by decide +kernel) rfl) <|
  am_c (ok_aload_n (k := 0) (by decide +kernel) rfl) <|
  am_c (ok_get (by decide +kernel) (by decide +kernel) rfl (by decide +kernel) kw_479) <|
  am_c (ok_ifle (off := 88) (by decide +kernel) (by decide +kernel)) <|
  am_c (ok_aload_n (k := 0) (by decide +kernel) rfl) <|
  am_c (ok_get (by decide +kernel) (by decide +kernel) rfl (by decide +kernel) kw_419) <|
  am_c (ok_aload_n (k := 0) (by decide +kernel) rfl) <|
  am_c (ok_get (by decide +kernel) (by decide +kernel) rfl (by decide +kernel) kw_479) <|
  am_c (ok_iconst (z := 1) (by decide +kernel) (by decide +kernel)) <|
  am_c (ok_isub (by decide +kernel)) <|
  am_c (ok_iald (by decide +kernel)) <|
  am_c (ok_aload_n (k := 0) (by decide +kernel) rfl) <|
  am_c (ok_get (by decide +kernel) (by decide +kernel) rfl (by decide +kernel) kw_478) <|
  am_c (ok_icmpne (off := 70) (by decide +kernel) (by decide +kernel)) <|
  am_c (ok_aload_n (k := 0) (by decide +kernel) rfl) <|
  am_c (ok_dup (by decide +kernel)) <|
  am_c (ok_get (by decide +kernel) (by decide +kernel) rfl (by decide +kernel) kw_479) <|
  am_n
def k_c114_1 : List (Nat × am_A) := [(44, ac_push (.int 1) 45), (45, ac_ii (fun x y => x - y) 46), (46, ac_putI 6 19 49), (49, ac_aload 0 50), (50, ac_get 2 6 21 53), (53, ac_aload 0 54), (54, ac_get 0 6 19 57), (57, ac_iald 0 58), (58, ac_istore 1 59), (59, ac_iload 1 60), (60, ac_push (.int 200) 63), (63, ac_if2 (fun x y => y ≤ x) 84 66), (66, ac_aload 0 67), (67, ac_get 2 6 15 70), (70, ac_iload 1 71), (71, ac_aload 0 72), (72, ac_get 2 6 22 75), (75, ac_aload 0 76), (76, ac_get 0 6 19 79), (79, ac_iald 0 80), (80, ac_iast 81), (81, ac_goto 103), (84, ac_aload 0 85), (85, ac_get 2 6 8 88)]
theorem k_p114_1 : ∀ q ∈ k_c114_1, am_Ok k_nm D cA B0 sb H00 (k_Th B0 sb H00) prog_8_method_25_code "TokenMouthModel" "closeGroup" [] none q.1 q.2 :=
  am_c (ok_iconst (z := 1) (by decide +kernel) (by decide +kernel)) <|
  am_c (ok_isub (by decide +kernel)) <|
  am_c (ok_putI (by decide +kernel) (by decide +kernel) rfl (by decide +kernel) kw_479 rfl) <|
  am_c (ok_aload_n (k := 0) (by decide +kernel) rfl) <|
  am_c (ok_get (by decide +kernel) (by decide +kernel) rfl (by decide +kernel) kw_420) <|
  am_c (ok_aload_n (k := 0) (by decide +kernel) rfl) <|
  am_c (ok_get (by decide +kernel) (by decide +kernel) rfl (by decide +kernel) kw_479) <|
  am_c (ok_iald (by decide +kernel)) <|
  am_c (ok_istore_n (k := 1) (by decide +kernel) rfl) <|
  am_c (ok_iload_n (k := 1) (by decide +kernel) rfl) <|
  am_c (ok_sipush (z := 200) (by decide +kernel) (by decide +kernel)) <|
  am_c (ok_icmpge (off := 21) (by decide +kernel) (by decide +kernel)) <|
  am_c (ok_aload_n (k := 0) (by decide +kernel) rfl) <|
  am_c (ok_get (by decide +kernel) (by decide +kernel) rfl (by decide +kernel) kw_417) <|
  am_c (ok_iload_n (k := 1) (by decide +kernel) rfl) <|
  am_c (ok_aload_n (k := 0) (by decide +kernel) rfl) <|
  am_c (ok_get (by decide +kernel) (by decide +kernel) rfl (by decide +kernel) kw_421) <|
  am_c (ok_aload_n (k := 0) (by decide +kernel) rfl) <|
  am_c (ok_get (by decide +kernel) (by decide +kernel) rfl (by decide +kernel) kw_479) <|
  am_c (ok_iald (by decide +kernel)) <|
  am_c (ok_iast (by decide +kernel)) <|
  am_c (ok_goto (off := 22) (by decide +kernel) (by decide +kernel)) <|
  am_c (ok_aload_n (k := 0) (by decide +kernel) rfl) <|
  am_c (ok_get (by decide +kernel) (by decide +kernel) rfl (by decide +kernel) kw_411) <|
  am_n
def k_c114_2 : List (Nat × am_A) := [(88, ac_iload 1 89), (89, ac_push (.int 200) 92), (92, ac_ii (fun x y => x - y) 93), (93, ac_aload 0 94), (94, ac_get 2 6 22 97), (97, ac_aload 0 98), (98, ac_get 0 6 19 101), (101, ac_iald 0 102), (102, ac_iast 103), (103, ac_goto 14), (106, ac_aload 0 107), (107, ac_dup 108), (108, ac_get 0 6 18 111), (111, ac_push (.int 1) 112), (112, ac_ii (fun x y => x - y) 113), (113, ac_putI 6 18 116), (116, ac_ret)]
theorem k_p114_2 : ∀ q ∈ k_c114_2, am_Ok k_nm D cA B0 sb H00 (k_Th B0 sb H00) prog_8_method_25_code "TokenMouthModel" "closeGroup" [] none q.1 q.2 :=
  am_c (ok_iload_n (k := 1) (by decide +kernel) rfl) <|
  am_c (ok_sipush (z := 200) (by decide +kernel) (by decide +kernel)) <|
  am_c (ok_isub (by decide +kernel)) <|
  am_c (ok_aload_n (k := 0) (by decide +kernel) rfl) <|
  am_c (ok_get (by decide +kernel) (by decide +kernel) rfl (by decide +kernel) kw_421) <|
  am_c (ok_aload_n (k := 0) (by decide +kernel) rfl) <|
  am_c (ok_get (by decide +kernel) (by decide +kernel) rfl (by decide +kernel) kw_479) <|
  am_c (ok_iald (by decide +kernel)) <|
  am_c (ok_iast (by decide +kernel)) <|
  am_c (ok_goto (off := -89) (by decide +kernel) (by decide +kernel)) <|
  am_c (ok_aload_n (k := 0) (by decide +kernel) rfl) <|
  am_c (ok_dup (by decide +kernel)) <|
  am_c (ok_get (by decide +kernel) (by decide +kernel) rfl (by decide +kernel) kw_478) <|
  am_c (ok_iconst (z := 1) (by decide +kernel) (by decide +kernel)) <|
  am_c (ok_isub (by decide +kernel)) <|
  am_c (ok_putI (by decide +kernel) (by decide +kernel) rfl (by decide +kernel) kw_478 rfl) <|
  am_c (ok_ret (by decide +kernel) rfl) <|
  am_n
def k_t114 : List (Nat × List (Nat × am_A)) := [(41, k_c114_0), (85, k_c114_1), (116, k_c114_2)]
theorem k_o114 : ∀ c ∈ k_t114, ∀ q ∈ c.2, am_Ok k_nm D cA B0 sb H00 (k_Th B0 sb H00) prog_8_method_25_code "TokenMouthModel" "closeGroup" [] none q.1 q.2 := am_cc (P := fun pc a => am_Ok k_nm D cA B0 sb H00 (k_Th B0 sb H00) prog_8_method_25_code "TokenMouthModel" "closeGroup" [] none pc a) k_p114_0 <| am_cc (P := fun pc a => am_Ok k_nm D cA B0 sb H00 (k_Th B0 sb H00) prog_8_method_25_code "TokenMouthModel" "closeGroup" [] none pc a) k_p114_1 <| am_cc (P := fun pc a => am_Ok k_nm D cA B0 sb H00 (k_Th B0 sb H00) prog_8_method_25_code "TokenMouthModel" "closeGroup" [] none pc a) k_p114_2 <| am_cn0
-- 115: TokenMouthModel.isBehind(IIII)Z
def k_c115_0 : List (Nat × am_A) := [(0, ac_iload 4 2), (2, ac_iload 3 3), (3, ac_ii (fun x y => x - y) 4), (4, ac_istore 5 6), (6, ac_aload 0 7), (7, ac_get 2 6 40 10), (10, ac_iload 1 11), (11, ac_iald 0 12), (12, ac_iload 5 14), (14, ac_if2 (fun x y => x < y) 21 17), (17, ac_push (.int 1) 18), (18, ac_goto 22), (21, ac_push (.int 0) 22), (22, ac_istore 6 24), (24, ac_push (.int 0) 25), (25, ac_istore 7 27), (27, ac_iload 7 29), (29, ac_iload 5 31), (31, ac_if2 (fun x y => y ≤ x) 91 34), (34, ac_iload 6 36), (36, ac_if1 (fun x => x = 0) 91 39), (39, ac_aload 0 40), (40, ac_get 2 6 39 43), (43, ac_push (.int 42) 45)]
theorem k_p115_0 : ∀ q ∈ k_c115_0, am_Ok k_nm D cA B0 sb H00 (k_Th B0 sb H00) prog_8_method_26_code "TokenMouthModel" "isBehind" [] (some .boolean) q.1 q.2 :=
  am_c (ok_iload (by decide +kernel)) <|
  am_c (ok_iload_n (k := 3) (by decide +kernel) rfl) <|
  am_c (ok_isub (by decide +kernel)) <|
  am_c (ok_istore (by decide +kernel)) <|
  am_c (ok_aload_n (k := 0) (by decide +kernel) rfl) <|
  am_c (ok_get (by decide +kernel) (by decide +kernel) rfl (by decide +kernel) kw_435) <|
  am_c (ok_iload_n (k := 1) (by decide +kernel) rfl) <|
  am_c (ok_iald (by decide +kernel)) <|
  am_c (ok_iload (by decide +kernel)) <|
  am_c (ok_icmplt (off := 7) (by decide +kernel) (by decide +kernel)) <|
  am_c (ok_iconst (z := 1) (by decide +kernel) (by decide +kernel)) <|
  am_c (ok_goto (off := 4) (by decide +kernel) (by decide +kernel)) <|
  am_c (ok_iconst (z := 0) (by decide +kernel) (by decide +kernel)) <|
  am_c (ok_istore (by decide +kernel)) <|
  am_c (ok_iconst (z := 0) (by decide +kernel) (by decide +kernel)) <|
  am_c (ok_istore (by decide +kernel)) <|
  am_c (ok_iload (by decide +kernel)) <|
  am_c (ok_iload (by decide +kernel)) <|
  am_c (ok_icmpge (off := 60) (by decide +kernel) (by decide +kernel)) <|
  am_c (ok_iload (by decide +kernel)) <|
  am_c (ok_ifeq (off := 55) (by decide +kernel) (by decide +kernel)) <|
  am_c (ok_aload_n (k := 0) (by decide +kernel) rfl) <|
  am_c (ok_get (by decide +kernel) (by decide +kernel) rfl (by decide +kernel) kw_434) <|
  am_c (ok_bipush (z := 42) (by decide +kernel) (by decide +kernel)) <|
  am_n
def k_c115_1 : List (Nat × am_A) := [(45, ac_iload 1 46), (46, ac_ii (fun x y => x * y) 47), (47, ac_aload 0 48), (48, ac_get 2 6 40 51), (51, ac_iload 1 52), (52, ac_iald 0 53), (53, ac_ii (fun x y => x + y) 54), (54, ac_iload 5 56), (56, ac_ii (fun x y => x - y) 57), (57, ac_iload 7 59), (59, ac_ii (fun x y => x + y) 60), (60, ac_iald 0 61), (61, ac_aload 0 62), (62, ac_get 2 6 25 65), (65, ac_push (.int 13) 67), (67, ac_iload 2 68), (68, ac_ii (fun x y => x * y) 69), (69, ac_iload 3 70), (70, ac_ii (fun x y => x + y) 71), (71, ac_iload 7 73), (73, ac_ii (fun x y => x + y) 74), (74, ac_iald 0 75), (75, ac_if2 (fun x y => ¬ x = y) 82 78), (78, ac_push (.int 1) 79)]
theorem k_p115_1 : ∀ q ∈ k_c115_1, am_Ok k_nm D cA B0 sb H00 (k_Th B0 sb H00) prog_8_method_26_code "TokenMouthModel" "isBehind" [] (some .boolean) q.1 q.2 :=
  am_c (ok_iload_n (k := 1) (by decide +kernel) rfl) <|
  am_c (ok_imul (by decide +kernel)) <|
  am_c (ok_aload_n (k := 0) (by decide +kernel) rfl) <|
  am_c (ok_get (by decide +kernel) (by decide +kernel) rfl (by decide +kernel) kw_435) <|
  am_c (ok_iload_n (k := 1) (by decide +kernel) rfl) <|
  am_c (ok_iald (by decide +kernel)) <|
  am_c (ok_iadd (by decide +kernel)) <|
  am_c (ok_iload (by decide +kernel)) <|
  am_c (ok_isub (by decide +kernel)) <|
  am_c (ok_iload (by decide +kernel)) <|
  am_c (ok_iadd (by decide +kernel)) <|
  am_c (ok_iald (by decide +kernel)) <|
  am_c (ok_aload_n (k := 0) (by decide +kernel) rfl) <|
  am_c (ok_get (by decide +kernel) (by decide +kernel) rfl (by decide +kernel) kw_423) <|
  am_c (ok_bipush (z := 13) (by decide +kernel) (by decide +kernel)) <|
  am_c (ok_iload_n (k := 2) (by decide +kernel) rfl) <|
  am_c (ok_imul (by decide +kernel)) <|
  am_c (ok_iload_n (k := 3) (by decide +kernel) rfl) <|
  am_c (ok_iadd (by decide +kernel)) <|
  am_c (ok_iload (by decide +kernel)) <|
  am_c (ok_iadd (by decide +kernel)) <|
  am_c (ok_iald (by decide +kernel)) <|
  am_c (ok_icmpne (off := 7) (by decide +kernel) (by decide +kernel)) <|
  am_c (ok_iconst (z := 1) (by decide +kernel) (by decide +kernel)) <|
  am_n
def k_c115_2 : List (Nat × am_A) := [(79, ac_goto 83), (82, ac_push (.int 0) 83), (83, ac_istore 6 85), (85, ac_iinc 7 1 88), (88, ac_goto 27), (91, ac_iload 6 93), (93, ac_zret)]
theorem k_p115_2 : ∀ q ∈ k_c115_2, am_Ok k_nm D cA B0 sb H00 (k_Th B0 sb H00) prog_8_method_26_code "TokenMouthModel" "isBehind" [] (some .boolean) q.1 q.2 :=
  am_c (ok_goto (off := 4) (by decide +kernel) (by decide +kernel)) <|
  am_c (ok_iconst (z := 0) (by decide +kernel) (by decide +kernel)) <|
  am_c (ok_istore (by decide +kernel)) <|
  am_c (ok_iinc (z := 1) (by decide +kernel) (by decide +kernel)) <|
  am_c (ok_goto (off := -61) (by decide +kernel) (by decide +kernel)) <|
  am_c (ok_iload (by decide +kernel)) <|
  am_c (ok_zret (by decide +kernel) rfl) <|
  am_n
def k_t115 : List (Nat × List (Nat × am_A)) := [(43, k_c115_0), (78, k_c115_1), (93, k_c115_2)]
theorem k_o115 : ∀ c ∈ k_t115, ∀ q ∈ c.2, am_Ok k_nm D cA B0 sb H00 (k_Th B0 sb H00) prog_8_method_26_code "TokenMouthModel" "isBehind" [] (some .boolean) q.1 q.2 := am_cc (P := fun pc a => am_Ok k_nm D cA B0 sb H00 (k_Th B0 sb H00) prog_8_method_26_code "TokenMouthModel" "isBehind" [] (some .boolean) pc a) k_p115_0 <| am_cc (P := fun pc a => am_Ok k_nm D cA B0 sb H00 (k_Th B0 sb H00) prog_8_method_26_code "TokenMouthModel" "isBehind" [] (some .boolean) pc a) k_p115_1 <| am_cc (P := fun pc a => am_Ok k_nm D cA B0 sb H00 (k_Th B0 sb H00) prog_8_method_26_code "TokenMouthModel" "isBehind" [] (some .boolean) pc a) k_p115_2 <| am_cn0
-- 116: TokenMouthModel.piece(IIIIII)I
def k_c116_0 : List (Nat × am_A) := [(0, ac_iload 1 1), (1, ac_push (.int (-1)) 2), (2, ac_if2 (fun x y => ¬ x = y) 11 5), (5, ac_aload 0 6), (6, ac_push (.int 3) 7), (7, ac_callV 6 98 2 10 am_nohd), (10, ac_iret), (11, ac_iload 2 12), (12, ac_push (.int 40) 14), (14, ac_if2 (fun x y => x ≤ y) 23 17), (17, ac_aload 0 18), (18, ac_push (.int 5) 19), (19, ac_callV 6 98 2 22 am_nohd), (22, ac_iret), (23, ac_iload 1 24), (24, ac_callS 109 1 27), (27, ac_push (.int 4096) 30), (30, ac_if2 (fun x y => ¬ x = y) 37 33), (33, ac_push (.int 1) 34), (34, ac_goto 38), (37, ac_push (.int 0) 38), (38, ac_istore 7 40), (40, ac_iload 4 42), (42, ac_istore 8 44)]
theorem k_p116_0 : ∀ q ∈ k_c116_0, am_Ok k_nm D cA B0 sb H00 (k_Th B0 sb H00) prog_8_method_27_code "TokenMouthModel" "piece" [] (some .int) q.1 q.2 :=
  am_c (ok_iload_n (k := 1) (by decide +kernel) rfl) <|
  am_c (ok_iconst (z := -1) (by decide +kernel) (by decide +kernel)) <|
  am_c (ok_icmpne (off := 9) (by decide +kernel) (by decide +kernel)) <|
  am_c (ok_aload_n (k := 0) (by decide +kernel) rfl) <|
  am_c (ok_iconst (z := 3) (by decide +kernel) (by decide +kernel)) <|
  am_c (ok_callV (by decide +kernel) (by decide +kernel) kw_497 kw_498 kw_499 kw_496 (by decide +kernel) (by decide +kernel)) <|
  am_c (ok_iret (by decide +kernel) rfl) <|
  am_c (ok_iload_n (k := 2) (by decide +kernel) rfl) <|
  am_c (ok_bipush (z := 40) (by decide +kernel) (by decide +kernel)) <|
  am_c (ok_icmple (off := 9) (by decide +kernel) (by decide +kernel)) <|
  am_c (ok_aload_n (k := 0) (by decide +kernel) rfl) <|
  am_c (ok_iconst (z := 5) (by decide +kernel) (by decide +kernel)) <|
  am_c (ok_callV (by decide +kernel) (by decide +kernel) kw_497 kw_498 kw_499 kw_496 (by decide +kernel) (by decide +kernel)) <|
  am_c (ok_iret (by decide +kernel) rfl) <|
  am_c (ok_iload_n (k := 1) (by decide +kernel) rfl) <|
  am_c (ok_callS (by decide +kernel) kw_531 kw_532 kw_487 kw_530 (by decide +kernel) (by decide +kernel)) <|
  am_c (ok_sipush (z := 4096) (by decide +kernel) (by decide +kernel)) <|
  am_c (ok_icmpne (off := 7) (by decide +kernel) (by decide +kernel)) <|
  am_c (ok_iconst (z := 1) (by decide +kernel) (by decide +kernel)) <|
  am_c (ok_goto (off := 4) (by decide +kernel) (by decide +kernel)) <|
  am_c (ok_iconst (z := 0) (by decide +kernel) (by decide +kernel)) <|
  am_c (ok_istore (by decide +kernel)) <|
  am_c (ok_iload (by decide +kernel)) <|
  am_c (ok_istore (by decide +kernel)) <|
  am_n
def k_c116_1 : List (Nat × am_A) := [(44, ac_iload 8 46), (46, ac_iload 5 48), (48, ac_if2 (fun x y => y ≤ x) 87 51), (51, ac_iload 7 53), (53, ac_if1 (fun x => x = 0) 78 56), (56, ac_aload 0 57), (57, ac_get 2 6 25 60), (60, ac_push (.int 13) 62), (62, ac_iload 3 63), (63, ac_ii (fun x y => x * y) 64), (64, ac_iload 8 66), (66, ac_ii (fun x y => x + y) 67), (67, ac_iald 0 68), (68, ac_push (.int 4096) 71), (71, ac_if2 (fun x y => x = y) 78 74), (74, ac_push (.int 1) 75), (75, ac_goto 79), (78, ac_push (.int 0) 79), (79, ac_istore 7 81), (81, ac_iinc 8 1 84), (84, ac_goto 44), (87, ac_iload 7 89), (89, ac_if1 (fun x => x = 0) 101 92), (92, ac_aload 0 93)]
theorem k_p116_1 : ∀ q ∈ k_c116_1, am_Ok k_nm D cA B0 sb H00 (k_Th B0 sb H00) prog_8_method_27_code "TokenMouthModel" "piece" [] (some .int) q.1 q.2 :=
  am_c (ok_iload (by decide +kernel)) <|
  am_c (ok_iload (by decide +kernel)) <|
  am_c (ok_icmpge (off := 39) (by decide +kernel) (by decide +kernel)) <|
  am_c (ok_iload (by decide +kernel)) <|
  am_c (ok_ifeq (off := 25) (by decide +kernel) (by decide +kernel)) <|
  am_c (ok_aload_n (k := 0) (by decide +kernel) rfl) <|
  am_c (ok_get (by decide +kernel) (by decide +kernel) rfl (by decide +kernel) kw_423) <|
  am_c (ok_bipush (z := 13) (by decide +kernel) (by decide +kernel)) <|
  am_c (ok_iload_n (k := 3) (by decide +kernel) rfl) <|
  am_c (ok_imul (by decide +kernel)) <|
  am_c (ok_iload (by decide +kernel)) <|
  am_c (ok_iadd (by decide +kernel)) <|
  am_c (ok_iald (by decide +kernel)) <|
  am_c (ok_sipush (z := 4096) (by decide +kernel) (by decide +kernel)) <|
  am_c (ok_icmpeq (off := 7) (by decide +kernel) (by decide +kernel)) <|
  am_c (ok_iconst (z := 1) (by decide +kernel) (by decide +kernel)) <|
  am_c (ok_goto (off := 4) (by decide +kernel) (by decide +kernel)) <|
  am_c (ok_iconst (z := 0) (by decide +kernel) (by decide +kernel)) <|
  am_c (ok_istore (by decide +kernel)) <|
  am_c (ok_iinc (z := 1) (by decide +kernel) (by decide +kernel)) <|
  am_c (ok_goto (off := -40) (by decide +kernel) (by decide +kernel)) <|
  am_c (ok_iload (by decide +kernel)) <|
  am_c (ok_ifeq (off := 12) (by decide +kernel) (by decide +kernel)) <|
  am_c (ok_aload_n (k := 0) (by decide +kernel) rfl) <|
  am_n
def k_c116_2 : List (Nat × am_A) := [(93, ac_push (.int 7) 95), (95, ac_callV 6 98 2 98 am_nohd), (98, ac_goto 126), (101, ac_iload 1 102), (102, ac_push (.int 2) 103), (103, ac_callS 110 2 106), (106, ac_if1 (fun x => x = 0) 122 109), (109, ac_iload 6 111), (111, ac_if1 (fun x => ¬ x = 0) 122 114), (114, ac_aload 0 115), (115, ac_push (.int 1) 116), (116, ac_callV 6 98 2 119 am_nohd), (119, ac_goto 126), (122, ac_iload 1 123), (123, ac_callS 109 1 126), (126, ac_iret)]
theorem k_p116_2 : ∀ q ∈ k_c116_2, am_Ok k_nm D cA B0 sb H00 (k_Th B0 sb H00) prog_8_method_27_code "TokenMouthModel" "piece" [] (some .int) q.1 q.2 :=
  am_c (ok_bipush (z := 7) (by decide +kernel) (by decide +kernel)) <|
  am_c (ok_callV (by decide +kernel) (by decide +kernel) kw_497 kw_498 kw_499 kw_496 (by decide +kernel) (by decide +kernel)) <|
  am_c (ok_goto (off := 28) (by decide +kernel) (by decide +kernel)) <|
  am_c (ok_iload_n (k := 1) (by decide +kernel) rfl) <|
  am_c (ok_iconst (z := 2) (by decide +kernel) (by decide +kernel)) <|
  am_c (ok_callS (by decide +kernel) kw_534 kw_535 kw_487 kw_533 (by decide +kernel) (by decide +kernel)) <|
  am_c (ok_ifeq (off := 16) (by decide +kernel) (by decide +kernel)) <|
  am_c (ok_iload (by decide +kernel)) <|
  am_c (ok_ifne (off := 11) (by decide +kernel) (by decide +kernel)) <|
  am_c (ok_aload_n (k := 0) (by decide +kernel) rfl) <|
  am_c (ok_iconst (z := 1) (by decide +kernel) (by decide +kernel)) <|
  am_c (ok_callV (by decide +kernel) (by decide +kernel) kw_497 kw_498 kw_499 kw_496 (by decide +kernel) (by decide +kernel)) <|
  am_c (ok_goto (off := 7) (by decide +kernel) (by decide +kernel)) <|
  am_c (ok_iload_n (k := 1) (by decide +kernel) rfl) <|
  am_c (ok_callS (by decide +kernel) kw_531 kw_532 kw_487 kw_530 (by decide +kernel) (by decide +kernel)) <|
  am_c (ok_iret (by decide +kernel) rfl) <|
  am_n
def k_t116 : List (Nat × List (Nat × am_A)) := [(42, k_c116_0), (92, k_c116_1), (126, k_c116_2)]
theorem k_o116 : ∀ c ∈ k_t116, ∀ q ∈ c.2, am_Ok k_nm D cA B0 sb H00 (k_Th B0 sb H00) prog_8_method_27_code "TokenMouthModel" "piece" [] (some .int) q.1 q.2 := am_cc (P := fun pc a => am_Ok k_nm D cA B0 sb H00 (k_Th B0 sb H00) prog_8_method_27_code "TokenMouthModel" "piece" [] (some .int) pc a) k_p116_0 <| am_cc (P := fun pc a => am_Ok k_nm D cA B0 sb H00 (k_Th B0 sb H00) prog_8_method_27_code "TokenMouthModel" "piece" [] (some .int) pc a) k_p116_1 <| am_cc (P := fun pc a => am_Ok k_nm D cA B0 sb H00 (k_Th B0 sb H00) prog_8_method_27_code "TokenMouthModel" "piece" [] (some .int) pc a) k_p116_2 <| am_cn0
-- 117: TokenMouthModel.add(II)V
def k_c117_0 : List (Nat × am_A) := [(0, ac_aload 0 1), (1, ac_get 2 6 39 4), (4, ac_push (.int 42) 6), (6, ac_iload 1 7), (7, ac_ii (fun x y => x * y) 8), (8, ac_aload 0 9), (9, ac_get 2 6 40 12), (12, ac_iload 1 13), (13, ac_iald 0 14), (14, ac_ii (fun x y => x + y) 15), (15, ac_iload 2 16), (16, ac_iast 17), (17, ac_aload 0 18), (18, ac_get 2 6 40 21), (21, ac_iload 1 22), (22, ac_dup2 23), (23, ac_iald 0 24), (24, ac_push (.int 1) 25), (25, ac_ii (fun x y => x + y) 26), (26, ac_iast 27), (27, ac_ret)]
theorem k_p117_0 : ∀ q ∈ k_c117_0, am_Ok k_nm D cA B0 sb H00 (k_Th B0 sb H00) prog_8_method_28_code "TokenMouthModel" "add" [] none q.1 q.2 :=
  am_c (ok_aload_n (k := 0) (by decide +kernel) rfl) <|
  am_c (ok_get (by decide +kernel) (by decide +kernel) rfl (by decide +kernel) kw_434) <|
  am_c (ok_bipush (z := 42) (by decide +kernel) (by decide +kernel)) <|
  am_c (ok_iload_n (k := 1) (by decide +kernel) rfl) <|
  am_c (ok_imul (by decide +kernel)) <|
  am_c (ok_aload_n (k := 0) (by decide +kernel) rfl) <|
  am_c (ok_get (by decide +kernel) (by decide +kernel) rfl (by decide +kernel) kw_435) <|
  am_c (ok_iload_n (k := 1) (by decide +kernel) rfl) <|
  am_c (ok_iald (by decide +kernel)) <|
  am_c (ok_iadd (by decide +kernel)) <|
  am_c (ok_iload_n (k := 2) (by decide +kernel) rfl) <|
  am_c (ok_iast (by decide +kernel)) <|
  am_c (ok_aload_n (k := 0) (by decide +kernel) rfl) <|
  am_c (ok_get (by decide +kernel) (by decide +kernel) rfl (by decide +kernel) kw_435) <|
  am_c (ok_iload_n (k := 1) (by decide +kernel) rfl) <|
  am_c (ok_dup2 (by decide +kernel)) <|
  am_c (ok_iald (by decide +kernel)) <|
  am_c (ok_iconst (z := 1) (by decide +kernel) (by decide +kernel)) <|
  am_c (ok_iadd (by decide +kernel)) <|
  am_c (ok_iast (by decide +kernel)) <|
  am_c (ok_ret (by decide +kernel) rfl) <|
  am_n
def k_t117 : List (Nat × List (Nat × am_A)) := [(27, k_c117_0)]
theorem k_o117 : ∀ c ∈ k_t117, ∀ q ∈ c.2, am_Ok k_nm D cA B0 sb H00 (k_Th B0 sb H00) prog_8_method_28_code "TokenMouthModel" "add" [] none q.1 q.2 := am_cc (P := fun pc a => am_Ok k_nm D cA B0 sb H00 (k_Th B0 sb H00) prog_8_method_28_code "TokenMouthModel" "add" [] none pc a) k_p117_0 <| am_cn0
-- 118: TokenMouthModel.plainArgument(II)V
def k_c118_0 : List (Nat × am_A) := [(0, ac_aload 0 1), (1, ac_callV 6 104 1 4 am_nohd), (4, ac_istore 3 5), (5, ac_iload 3 6), (6, ac_callS 109 1 9), (9, ac_push (.int 2592) 12), (12, ac_if2 (fun x y => ¬ x = y) 23 15), (15, ac_aload 0 16), (16, ac_callV 6 104 1 19 am_nohd), (19, ac_istore 3 20), (20, ac_goto 5), (23, ac_aload 0 24), (24, ac_iload 3 25), (25, ac_push (.int 1) 26), (26, ac_iload 2 27), (27, ac_push (.int 0) 28), (28, ac_push (.int 0) 29), (29, ac_push (.int 0) 30), (30, ac_callV 6 116 7 33 am_nohd), (33, ac_istore 4 35), (35, ac_iload 4 37), (37, ac_push (.int (-1)) 38), (38, ac_if2 (fun x y => ¬ x = y) 42 41), (41, ac_ret)]
theorem k_p118_0 : ∀ q ∈ k_c118_0, am_Ok k_nm D cA B0 sb H00 (k_Th B0 sb H00) prog_8_method_29_code "TokenMouthModel" "plainArgument" [] none q.1 q.2 :=
  am_c (ok_aload_n (k := 0) (by decide +kernel) rfl) <|
  am_c (ok_callV (by decide +kernel) (by decide +kernel) kw_517 kw_518 kw_519 kw_516 (by decide +kernel) (by decide +kernel)) <|
  am_c (ok_istore_n (k := 3) (by decide +kernel) rfl) <|
  am_c (ok_iload_n (k := 3) (by decide +kernel) rfl) <|
  am_c (ok_callS (by decide +kernel) kw_531 kw_532 kw_487 kw_530 (by decide +kernel) (by decide +kernel)) <|
  am_c (ok_sipush (z := 2592) (by decide +kernel) (by decide +kernel)) <|
  am_c (ok_icmpne (off := 11) (by decide +kernel) (by decide +kernel)) <|
  am_c (ok_aload_n (k := 0) (by decide +kernel) rfl) <|
  am_c (ok_callV (by decide +kernel) (by decide +kernel) kw_517 kw_518 kw_519 kw_516 (by decide +kernel) (by decide +kernel)) <|
  am_c (ok_istore_n (k := 3) (by decide +kernel) rfl) <|
  am_c (ok_goto (off := -15) (by decide +kernel) (by decide +kernel)) <|
  am_c (ok_aload_n (k := 0) (by decide +kernel) rfl) <|
  am_c (ok_iload_n (k := 3) (by decide +kernel) rfl) <|
  am_c (ok_iconst (z := 1) (by decide +kernel) (by decide +kernel)) <|
  am_c (ok_iload_n (k := 2) (by decide +kernel) rfl) <|
  am_c (ok_iconst (z := 0) (by decide +kernel) (by decide +kernel)) <|
  am_c (ok_iconst (z := 0) (by decide +kernel) (by decide +kernel)) <|
  am_c (ok_iconst (z := 0) (by decide +kernel) (by decide +kernel)) <|
  am_c (ok_callV (by decide +kernel) (by decide +kernel) kw_537 kw_538 kw_539 kw_536 (by decide +kernel) (by decide +kernel)) <|
  am_c (ok_istore (by decide +kernel)) <|
  am_c (ok_iload (by decide +kernel)) <|
  am_c (ok_iconst (z := -1) (by decide +kernel) (by decide +kernel)) <|
  am_c (ok_icmpne (off := 4) (by decide +kernel) (by decide +kernel)) <|
  am_c (ok_ret (by decide +kernel) rfl) <|
  am_n
def k_c118_1 : List (Nat × am_A) := [(42, ac_iload 4 44), (44, ac_push (.int 1) 45), (45, ac_callS 110 2 48), (48, ac_if1 (fun x => ¬ x = 0) 59 51), (51, ac_aload 0 52), (52, ac_iload 1 53), (53, ac_iload 4 55), (55, ac_callV 6 117 3 58 am_nohd), (58, ac_ret), (59, ac_push (.int 1) 60), (60, ac_istore 5 62), (62, ac_push (.int 2) 63), (63, ac_istore 6 65), (65, ac_iload 5 67), (67, ac_if1 (fun x => x ≤ 0) 146 70), (70, ac_aload 0 71), (71, ac_callV 6 104 1 74 am_nohd), (74, ac_istore 3 75), (75, ac_aload 0 76), (76, ac_iload 3 77), (77, ac_iload 6 79), (79, ac_iload 2 80), (80, ac_push (.int 0) 81), (81, ac_push (.int 0) 82)]
theorem k_p118_1 : ∀ q ∈ k_c118_1, am_Ok k_nm D cA B0 sb H00 (k_Th B0 sb H00) prog_8_method_29_code "TokenMouthModel" "plainArgument" [] none q.1 q.2 :=
  am_c (ok_iload (by decide +kernel)) <|
  am_c (ok_iconst (z := 1) (by decide +kernel) (by decide +kernel)) <|
  am_c (ok_callS (by decide +kernel) kw_534 kw_535 kw_487 kw_533 (by decide +kernel) (by decide +kernel)) <|
  am_c (ok_ifne (off := 11) (by decide +kernel) (by decide +kernel)) <|
  am_c (ok_aload_n (k := 0) (by decide +kernel) rfl) <|
  am_c (ok_iload_n (k := 1) (by decide +kernel) rfl) <|
  am_c (ok_iload (by decide +kernel)) <|
  am_c (ok_callV (by decide +kernel) (by decide +kernel) kw_541 kw_542 kw_543 kw_540 (by decide +kernel) (by decide +kernel)) <|
  am_c (ok_ret (by decide +kernel) rfl) <|
  am_c (ok_iconst (z := 1) (by decide +kernel) (by decide +kernel)) <|
  am_c (ok_istore (by decide +kernel)) <|
  am_c (ok_iconst (z := 2) (by decide +kernel) (by decide +kernel)) <|
  am_c (ok_istore (by decide +kernel)) <|
  am_c (ok_iload (by decide +kernel)) <|
  am_c (ok_ifle (off := 79) (by decide +kernel) (by decide +kernel)) <|
  am_c (ok_aload_n (k := 0) (by decide +kernel) rfl) <|
  am_c (ok_callV (by decide +kernel) (by decide +kernel) kw_517 kw_518 kw_519 kw_516 (by decide +kernel) (by decide +kernel)) <|
  am_c (ok_istore_n (k := 3) (by decide +kernel) rfl) <|
  am_c (ok_aload_n (k := 0) (by decide +kernel) rfl) <|
  am_c (ok_iload_n (k := 3) (by decide +kernel) rfl) <|
  am_c (ok_iload (by decide +kernel)) <|
  am_c (ok_iload_n (k := 2) (by decide +kernel) rfl) <|
  am_c (ok_iconst (z := 0) (by decide +kernel) (by decide +kernel)) <|
  am_c (ok_iconst (z := 0) (by decide +kernel) (by decide +kernel)) <|
  am_n
def k_c118_2 : List (Nat × am_A) := [(82, ac_iload 5 84), (84, ac_callV 6 116 7 87 am_nohd), (87, ac_istore 4 89), (89, ac_iload 4 91), (91, ac_push (.int (-1)) 92), (92, ac_if2 (fun x y => ¬ x = y) 96 95), (95, ac_ret), (96, ac_iload 5 98), (98, ac_iload 4 100), (100, ac_push (.int 1) 101), (101, ac_callS 110 2 104), (104, ac_if1 (fun x => x = 0) 111 107), (107, ac_push (.int 1) 108), (108, ac_goto 125), (111, ac_iload 4 113), (113, ac_push (.int 2) 114), (114, ac_callS 110 2 117), (117, ac_if1 (fun x => x = 0) 124 120), (120, ac_push (.int (-1)) 121), (121, ac_goto 125), (124, ac_push (.int 0) 125), (125, ac_ii (fun x y => x + y) 126), (126, ac_istore 5 128), (128, ac_iload 5 130)]
theorem k_p118_2 : ∀ q ∈ k_c118_2, am_Ok k_nm D cA B0 sb H00 (k_Th B0 sb H00) prog_8_method_29_code "TokenMouthModel" "plainArgument" [] none q.1 q.2 :=
  am_c (ok_iload (by decide +kernel)) <|
  am_c (ok_callV (by decide +kernel) (by decide +kernel) kw_537 kw_538 kw_539 kw_536 (by decide +kernel) (by decide +kernel)) <|
  am_c (ok_istore (by decide +kernel)) <|
  am_c (ok_iload (by decide +kernel)) <|
  am_c (ok_iconst (z := -1) (by decide +kernel) (by decide +kernel)) <|
  am_c (ok_icmpne (off := 4) (by decide +kernel) (by decide +kernel)) <|
  am_c (ok_ret (by decide +kernel) rfl) <|
  am_c (ok_iload (by decide +kernel)) <|
  am_c (ok_iload (by decide +kernel)) <|
  am_c (ok_iconst (z := 1) (by decide +kernel) (by decide +kernel)) <|
  am_c (ok_callS (by decide +kernel) kw_534 kw_535 kw_487 kw_533 (by decide +kernel) (by decide +kernel)) <|
  am_c (ok_ifeq (off := 7) (by decide +kernel) (by decide +kernel)) <|
  am_c (ok_iconst (z := 1) (by decide +kernel) (by decide +kernel)) <|
  am_c (ok_goto (off := 17) (by decide +kernel) (by decide +kernel)) <|
  am_c (ok_iload (by decide +kernel)) <|
  am_c (ok_iconst (z := 2) (by decide +kernel) (by decide +kernel)) <|
  am_c (ok_callS (by decide +kernel) kw_534 kw_535 kw_487 kw_533 (by decide +kernel) (by decide +kernel)) <|
  am_c (ok_ifeq (off := 7) (by decide +kernel) (by decide +kernel)) <|
  am_c (ok_iconst (z := -1) (by decide +kernel) (by decide +kernel)) <|
  am_c (ok_goto (off := 4) (by decide +kernel) (by decide +kernel)) <|
  am_c (ok_iconst (z := 0) (by decide +kernel) (by decide +kernel)) <|
  am_c (ok_iadd (by decide +kernel)) <|
  am_c (ok_istore (by decide +kernel)) <|
  am_c (ok_iload (by decide +kernel)) <|
  am_n
def k_c118_3 : List (Nat × am_A) := [(130, ac_if1 (fun x => x ≤ 0) 140 133), (133, ac_aload 0 134), (134, ac_iload 1 135), (135, ac_iload 4 137), (137, ac_callV 6 117 3 140 am_nohd), (140, ac_iinc 6 1 143), (143, ac_goto 65), (146, ac_ret)]
theorem k_p118_3 : ∀ q ∈ k_c118_3, am_Ok k_nm D cA B0 sb H00 (k_Th B0 sb H00) prog_8_method_29_code "TokenMouthModel" "plainArgument" [] none q.1 q.2 :=
  am_c (ok_ifle (off := 10) (by decide +kernel) (by decide +kernel)) <|
  am_c (ok_aload_n (k := 0) (by decide +kernel) rfl) <|
  am_c (ok_iload_n (k := 1) (by decide +kernel) rfl) <|
  am_c (ok_iload (by decide +kernel)) <|
  am_c (ok_callV (by decide +kernel) (by decide +kernel) kw_541 kw_542 kw_543 kw_540 (by decide +kernel) (by decide +kernel)) <|
  am_c (ok_iinc (z := 1) (by decide +kernel) (by decide +kernel)) <|
  am_c (ok_goto (off := -78) (by decide +kernel) (by decide +kernel)) <|
  am_c (ok_ret (by decide +kernel) rfl) <|
  am_n
def k_t118 : List (Nat × List (Nat × am_A)) := [(41, k_c118_0), (81, k_c118_1), (128, k_c118_2), (146, k_c118_3)]
theorem k_o118 : ∀ c ∈ k_t118, ∀ q ∈ c.2, am_Ok k_nm D cA B0 sb H00 (k_Th B0 sb H00) prog_8_method_29_code "TokenMouthModel" "plainArgument" [] none q.1 q.2 := am_cc (P := fun pc a => am_Ok k_nm D cA B0 sb H00 (k_Th B0 sb H00) prog_8_method_29_code "TokenMouthModel" "plainArgument" [] none pc a) k_p118_0 <| am_cc (P := fun pc a => am_Ok k_nm D cA B0 sb H00 (k_Th B0 sb H00) prog_8_method_29_code "TokenMouthModel" "plainArgument" [] none pc a) k_p118_1 <| am_cc (P := fun pc a => am_Ok k_nm D cA B0 sb H00 (k_Th B0 sb H00) prog_8_method_29_code "TokenMouthModel" "plainArgument" [] none pc a) k_p118_2 <| am_cc (P := fun pc a => am_Ok k_nm D cA B0 sb H00 (k_Th B0 sb H00) prog_8_method_29_code "TokenMouthModel" "plainArgument" [] none pc a) k_p118_3 <| am_cn0
-- 119: TokenMouthModel.longArgument(IIII)V
def k_c119_0 : List (Nat × am_A) := [(0, ac_push (.int 0) 1), (1, ac_istore 5 3), (3, ac_push (.int 0) 4), (4, ac_istore 6 6), (6, ac_push (.int 1) 7), (7, ac_istore 7 9), (9, ac_iload 6 11), (11, ac_if1 (fun x => ¬ x = 0) 112 14), (14, ac_aload 0 15), (15, ac_callV 6 104 1 18 am_nohd), (18, ac_istore 8 20), (20, ac_aload 0 21), (21, ac_iload 8 23), (23, ac_iload 7 25), (25, ac_iload 2 26), (26, ac_iload 3 27), (27, ac_iload 4 29), (29, ac_iload 5 31), (31, ac_callV 6 116 7 34 am_nohd), (34, ac_istore 9 36), (36, ac_iload 9 38), (38, ac_push (.int (-1)) 39), (39, ac_if2 (fun x y => ¬ x = y) 43 42), (42, ac_ret)]
theorem k_p119_0 : ∀ q ∈ k_c119_0, am_Ok k_nm D cA B0 sb H00 (k_Th B0 sb H00) prog_8_method_30_code "TokenMouthModel" "longArgument" [] none q.1 q.2 :=
  am_c (ok_iconst (z := 0) (by decide +kernel) (by decide +kernel)) <|
  am_c (ok_istore (by decide +kernel)) <|
  am_c (ok_iconst (z := 0) (by decide +kernel) (by decide +kernel)) <|
  am_c (ok_istore (by decide +kernel)) <|
  am_c (ok_iconst (z := 1) (by decide +kernel) (by decide +kernel)) <|
  am_c (ok_istore (by decide +kernel)) <|
  am_c (ok_iload (by decide +kernel)) <|
  am_c (ok_ifne (off := 101) (by decide +kernel) (by decide +kernel)) <|
  am_c (ok_aload_n (k := 0) (by decide +kernel) rfl) <|
  am_c (ok_callV (by decide +kernel) (by decide +kernel) kw_517 kw_518 kw_519 kw_516 (by decide +kernel) (by decide +kernel)) <|
  am_c (ok_istore (by decide +kernel)) <|
  am_c (ok_aload_n (k := 0) (by decide +kernel) rfl) <|
  am_c (ok_iload (by decide +kernel)) <|
  am_c (ok_iload (by decide +kernel)) <|
  am_c (ok_iload_n (k := 2) (by decide +kernel) rfl) <|
  am_c (ok_iload_n (k := 3) (by decide +kernel) rfl) <|
  am_c (ok_iload (by decide +kernel)) <|
  am_c (ok_iload (by decide +kernel)) <|
  am_c (ok_callV (by decide +kernel) (by decide +kernel) kw_537 kw_538 kw_539 kw_536 (by decide +kernel) (by decide +kernel)) <|
  am_c (ok_istore (by decide +kernel)) <|
  am_c (ok_iload (by decide +kernel)) <|
  am_c (ok_iconst (z := -1) (by decide +kernel) (by decide +kernel)) <|
  am_c (ok_icmpne (off := 4) (by decide +kernel) (by decide +kernel)) <|
  am_c (ok_ret (by decide +kernel) rfl) <|
  am_n
def k_c119_1 : List (Nat × am_A) := [(43, ac_aload 0 44), (44, ac_iload 1 45), (45, ac_iload 9 47), (47, ac_callV 6 117 3 50 am_nohd), (50, ac_iload 5 52), (52, ac_iload 9 54), (54, ac_push (.int 1) 55), (55, ac_callS 110 2 58), (58, ac_if1 (fun x => x = 0) 65 61), (61, ac_push (.int 1) 62), (62, ac_goto 79), (65, ac_iload 9 67), (67, ac_push (.int 2) 68), (68, ac_callS 110 2 71), (71, ac_if1 (fun x => x = 0) 78 74), (74, ac_push (.int (-1)) 75), (75, ac_goto 79), (78, ac_push (.int 0) 79), (79, ac_ii (fun x y => x + y) 80), (80, ac_istore 5 82), (82, ac_iload 5 84), (84, ac_if1 (fun x => ¬ x = 0) 103 87), (87, ac_aload 0 88), (88, ac_iload 1 89)]
theorem k_p119_1 : ∀ q ∈ k_c119_1, am_Ok k_nm D cA B0 sb H00 (k_Th B0 sb H00) prog_8_method_30_code "TokenMouthModel" "longArgument" [] none q.1 q.2 :=
  am_c (ok_aload_n (k := 0) (by decide +kernel) rfl) <|
  am_c (ok_iload_n (k := 1) (by decide +kernel) rfl) <|
  am_c (ok_iload (by decide +kernel)) <|
  am_c (ok_callV (by decide +kernel) (by decide +kernel) kw_541 kw_542 kw_543 kw_540 (by decide +kernel) (by decide +kernel)) <|
  am_c (ok_iload (by decide +kernel)) <|
  am_c (ok_iload (by decide +kernel)) <|
  am_c (ok_iconst (z := 1) (by decide +kernel) (by decide +kernel)) <|
  am_c (ok_callS (by decide +kernel) kw_534 kw_535 kw_487 kw_533 (by decide +kernel) (by decide +kernel)) <|
  am_c (ok_ifeq (off := 7) (by decide +kernel) (by decide +kernel)) <|
  am_c (ok_iconst (z := 1) (by decide +kernel) (by decide +kernel)) <|
  am_c (ok_goto (off := 17) (by decide +kernel) (by decide +kernel)) <|
  am_c (ok_iload (by decide +kernel)) <|
  am_c (ok_iconst (z := 2) (by decide +kernel) (by decide +kernel)) <|
  am_c (ok_callS (by decide +kernel) kw_534 kw_535 kw_487 kw_533 (by decide +kernel) (by decide +kernel)) <|
  am_c (ok_ifeq (off := 7) (by decide +kernel) (by decide +kernel)) <|
  am_c (ok_iconst (z := -1) (by decide +kernel) (by decide +kernel)) <|
  am_c (ok_goto (off := 4) (by decide +kernel) (by decide +kernel)) <|
  am_c (ok_iconst (z := 0) (by decide +kernel) (by decide +kernel)) <|
  am_c (ok_iadd (by decide +kernel)) <|
  am_c (ok_istore (by decide +kernel)) <|
  am_c (ok_iload (by decide +kernel)) <|
  am_c (ok_ifne (off := 19) (by decide +kernel) (by decide +kernel)) <|
  am_c (ok_aload_n (k := 0) (by decide +kernel) rfl) <|
  am_c (ok_iload_n (k := 1) (by decide +kernel) rfl) <|
  am_n
def k_c119_2 : List (Nat × am_A) := [(89, ac_iload 2 90), (90, ac_iload 3 91), (91, ac_iload 4 93), (93, ac_callV 6 115 5 96 am_nohd), (96, ac_if1 (fun x => x = 0) 103 99), (99, ac_push (.int 1) 100), (100, ac_goto 104), (103, ac_push (.int 0) 104), (104, ac_istore 6 106), (106, ac_iinc 7 1 109), (109, ac_goto 9), (112, ac_aload 0 113), (113, ac_get 2 6 40 116), (116, ac_iload 1 117), (117, ac_dup2 118), (118, ac_iald 0 119), (119, ac_iload 4 121), (121, ac_iload 3 122), (122, ac_ii (fun x y => x - y) 123), (123, ac_ii (fun x y => x - y) 124), (124, ac_iast 125), (125, ac_aload 0 126), (126, ac_get 2 6 40 129), (129, ac_iload 1 130)]
theorem k_p119_2 : ∀ q ∈ k_c119_2, am_Ok k_nm D cA B0 sb H00 (k_Th B0 sb H00) prog_8_method_30_code "TokenMouthModel" "longArgument" [] none q.1 q.2 :=
  am_c (ok_iload_n (k := 2) (by decide +kernel) rfl) <|
  am_c (ok_iload_n (k := 3) (by decide +kernel) rfl) <|
  am_c (ok_iload (by decide +kernel)) <|
  am_c (ok_callV (by decide +kernel) (by decide +kernel) kw_545 kw_546 kw_547 kw_544 (by decide +kernel) (by decide +kernel)) <|
  am_c (ok_ifeq (off := 7) (by decide +kernel) (by decide +kernel)) <|
  am_c (ok_iconst (z := 1) (by decide +kernel) (by decide +kernel)) <|
  am_c (ok_goto (off := 4) (by decide +kernel) (by decide +kernel)) <|
  am_c (ok_iconst (z := 0) (by decide +kernel) (by decide +kernel)) <|
  am_c (ok_istore (by decide +kernel)) <|
  am_c (ok_iinc (z := 1) (by decide +kernel) (by decide +kernel)) <|
  am_c (ok_goto (off := -100) (by decide +kernel) (by decide +kernel)) <|
  am_c (ok_aload_n (k := 0) (by decide +kernel) rfl) <|
  am_c (ok_get (by decide +kernel) (by decide +kernel) rfl (by decide +kernel) kw_435) <|
  am_c (ok_iload_n (k := 1) (by decide +kernel) rfl) <|
  am_c (ok_dup2 (by decide +kernel)) <|
  am_c (ok_iald (by decide +kernel)) <|
  am_c (ok_iload (by decide +kernel)) <|
  am_c (ok_iload_n (k := 3) (by decide +kernel) rfl) <|
  am_c (ok_isub (by decide +kernel)) <|
  am_c (ok_isub (by decide +kernel)) <|
  am_c (ok_iast (by decide +kernel)) <|
  am_c (ok_aload_n (k := 0) (by decide +kernel) rfl) <|
  am_c (ok_get (by decide +kernel) (by decide +kernel) rfl (by decide +kernel) kw_435) <|
  am_c (ok_iload_n (k := 1) (by decide +kernel) rfl) <|
  am_n
def k_c119_3 : List (Nat × am_A) := [(130, ac_iald 0 131), (131, ac_istore 7 133), (133, ac_iload 7 135), (135, ac_push (.int 2) 136), (136, ac_if2 (fun x y => x < y) 155 139), (139, ac_aload 0 140), (140, ac_get 2 6 39 143), (143, ac_push (.int 42) 145), (145, ac_iload 1 146), (146, ac_ii (fun x y => x * y) 147), (147, ac_iald 0 148), (148, ac_push (.int 1) 149), (149, ac_callS 110 2 152), (152, ac_if1 (fun x => ¬ x = 0) 156 155), (155, ac_ret), (156, ac_push (.int 0) 157), (157, ac_istore 8 159), (159, ac_push (.int 0) 160), (160, ac_istore 9 162), (162, ac_aload 0 163), (163, ac_get 2 6 39 166), (166, ac_push (.int 42) 168), (168, ac_iload 1 169), (169, ac_ii (fun x y => x * y) 170)]
theorem k_p119_3 : ∀ q ∈ k_c119_3, am_Ok k_nm D cA B0 sb H00 (k_Th B0 sb H00) prog_8_method_30_code "TokenMouthModel" "longArgument" [] none q.1 q.2 :=
  am_c (ok_iald (by decide +kernel)) <|
  am_c (ok_istore (by decide +kernel)) <|
  am_c (ok_iload (by decide +kernel)) <|
  am_c (ok_iconst (z := 2) (by decide +kernel) (by decide +kernel)) <|
  am_c (ok_icmplt (off := 19) (by decide +kernel) (by decide +kernel)) <|
  am_c (ok_aload_n (k := 0) (by decide +kernel) rfl) <|
  am_c (ok_get (by decide +kernel) (by decide +kernel) rfl (by decide +kernel) kw_434) <|
  am_c (ok_bipush (z := 42) (by decide +kernel) (by decide +kernel)) <|
  am_c (ok_iload_n (k := 1) (by decide +kernel) rfl) <|
  am_c (ok_imul (by decide +kernel)) <|
  am_c (ok_iald (by decide +kernel)) <|
  am_c (ok_iconst (z := 1) (by decide +kernel) (by decide +kernel)) <|
  am_c (ok_callS (by decide +kernel) kw_534 kw_535 kw_487 kw_533 (by decide +kernel) (by decide +kernel)) <|
  am_c (ok_ifne (off := 4) (by decide +kernel) (by decide +kernel)) <|
  am_c (ok_ret (by decide +kernel) rfl) <|
  am_c (ok_iconst (z := 0) (by decide +kernel) (by decide +kernel)) <|
  am_c (ok_istore (by decide +kernel)) <|
  am_c (ok_iconst (z := 0) (by decide +kernel) (by decide +kernel)) <|
  am_c (ok_istore (by decide +kernel)) <|
  am_c (ok_aload_n (k := 0) (by decide +kernel) rfl) <|
  am_c (ok_get (by decide +kernel) (by decide +kernel) rfl (by decide +kernel) kw_434) <|
  am_c (ok_bipush (z := 42) (by decide +kernel) (by decide +kernel)) <|
  am_c (ok_iload_n (k := 1) (by decide +kernel) rfl) <|
  am_c (ok_imul (by decide +kernel)) <|
  am_n
def k_c119_4 : List (Nat × am_A) := [(170, ac_iload 8 172), (172, ac_ii (fun x y => x + y) 173), (173, ac_iald 0 174), (174, ac_istore 10 176), (176, ac_iload 9 178), (178, ac_iload 10 180), (180, ac_push (.int 1) 181), (181, ac_callS 110 2 184), (184, ac_if1 (fun x => x = 0) 191 187), (187, ac_push (.int 1) 188), (188, ac_goto 205), (191, ac_iload 10 193), (193, ac_push (.int 2) 194), (194, ac_callS 110 2 197), (197, ac_if1 (fun x => x = 0) 204 200), (200, ac_push (.int (-1)) 201), (201, ac_goto 205), (204, ac_push (.int 0) 205), (205, ac_ii (fun x y => x + y) 206), (206, ac_istore 9 208), (208, ac_iinc 8 1 211), (211, ac_iload 9 213), (213, ac_if1 (fun x => 0 < x) 162 216), (216, ac_iload 8 218)]
theorem k_p119_4 : ∀ q ∈ k_c119_4, am_Ok k_nm D cA B0 sb H00 (k_Th B0 sb H00) prog_8_method_30_code "TokenMouthModel" "longArgument" [] none q.1 q.2 :=
  am_c (ok_iload (by decide +kernel)) <|
  am_c (ok_iadd (by decide +kernel)) <|
  am_c (ok_iald (by decide +kernel)) <|
  am_c (ok_istore (by decide +kernel)) <|
  am_c (ok_iload (by decide +kernel)) <|
  am_c (ok_iload (by decide +kernel)) <|
  am_c (ok_iconst (z := 1) (by decide +kernel) (by decide +kernel)) <|
  am_c (ok_callS (by decide +kernel) kw_534 kw_535 kw_487 kw_533 (by decide +kernel) (by decide +kernel)) <|
  am_c (ok_ifeq (off := 7) (by decide +kernel) (by decide +kernel)) <|
  am_c (ok_iconst (z := 1) (by decide +kernel) (by decide +kernel)) <|
  am_c (ok_goto (off := 17) (by decide +kernel) (by decide +kernel)) <|
  am_c (ok_iload (by decide +kernel)) <|
  am_c (ok_iconst (z := 2) (by decide +kernel) (by decide +kernel)) <|
  am_c (ok_callS (by decide +kernel) kw_534 kw_535 kw_487 kw_533 (by decide +kernel) (by decide +kernel)) <|
  am_c (ok_ifeq (off := 7) (by decide +kernel) (by decide +kernel)) <|
  am_c (ok_iconst (z := -1) (by decide +kernel) (by decide +kernel)) <|
  am_c (ok_goto (off := 4) (by decide +kernel) (by decide +kernel)) <|
  am_c (ok_iconst (z := 0) (by decide +kernel) (by decide +kernel)) <|
  am_c (ok_iadd (by decide +kernel)) <|
  am_c (ok_istore (by decide +kernel)) <|
  am_c (ok_iinc (z := 1) (by decide +kernel) (by decide +kernel)) <|
  am_c (ok_iload (by decide +kernel)) <|
  am_c (ok_ifgt (off := -51) (by decide +kernel) (by decide +kernel)) <|
  am_c (ok_iload (by decide +kernel)) <|
  am_n
def k_c119_5 : List (Nat × am_A) := [(218, ac_iload 7 220), (220, ac_if2 (fun x y => ¬ x = y) 277 223), (223, ac_push (.int 1) 224), (224, ac_istore 10 226), (226, ac_iload 10 228), (228, ac_iload 7 230), (230, ac_push (.int 1) 231), (231, ac_ii (fun x y => x - y) 232), (232, ac_if2 (fun x y => y ≤ x) 267 235), (235, ac_aload 0 236), (236, ac_get 2 6 39 239), (239, ac_push (.int 42) 241), (241, ac_iload 1 242), (242, ac_ii (fun x y => x * y) 243), (243, ac_iload 10 245), (245, ac_ii (fun x y => x + y) 246), (246, ac_push (.int 1) 247), (247, ac_ii (fun x y => x - y) 248), (248, ac_aload 0 249), (249, ac_get 2 6 39 252), (252, ac_push (.int 42) 254), (254, ac_iload 1 255), (255, ac_ii (fun x y => x * y) 256), (256, ac_iload 10 258)]
theorem k_p119_5 : ∀ q ∈ k_c119_5, am_Ok k_nm D cA B0 sb H00 (k_Th B0 sb H00) prog_8_method_30_code "TokenMouthModel" "longArgument" [] none q.1 q.2 :=
  am_c (ok_iload (by decide +kernel)) <|
  am_c (ok_icmpne (off := 57) (by decide +kernel) (by decide +kernel)) <|
  am_c (ok_iconst (z := 1) (by decide +kernel) (by decide +kernel)) <|
  am_c (ok_istore (by decide +kernel)) <|
  am_c (ok_iload (by decide +kernel)) <|
  am_c (ok_iload (by decide +kernel)) <|
  am_c (ok_iconst (z := 1) (by decide +kernel) (by decide +kernel)) <|
  am_c (ok_isub (by decide +kernel)) <|
  am_c (ok_icmpge (off := 35) (by decide +kernel) (by decide +kernel)) <|
  am_c (ok_aload_n (k := 0) (by decide +kernel) rfl) <|
  am_c (ok_get (by decide +kernel) (by decide +kernel) rfl (by decide +kernel) kw_434) <|
  am_c (ok_bipush (z := 42) (by decide +kernel) (by decide +kernel)) <|
  am_c (ok_iload_n (k := 1) (by decide +kernel) rfl) <|
  am_c (ok_imul (by decide +kernel)) <|
  am_c (ok_iload (by decide +kernel)) <|
  am_c (ok_iadd (by decide +kernel)) <|
  am_c (ok_iconst (z := 1) (by decide +kernel) (by decide +kernel)) <|
  am_c (ok_isub (by decide +kernel)) <|
  am_c (ok_aload_n (k := 0) (by decide +kernel) rfl) <|
  am_c (ok_get (by decide +kernel) (by decide +kernel) rfl (by decide +kernel) kw_434) <|
  am_c (ok_bipush (z := 42) (by decide +kernel) (by decide +kernel)) <|
  am_c (ok_iload_n (k := 1) (by decide +kernel) rfl) <|
  am_c (ok_imul (by decide +kernel)) <|
  am_c (ok_iload (by decide +kernel)) <|
  am_n
def k_c119_6 : List (Nat × am_A) := [(258, ac_ii (fun x y => x + y) 259), (259, ac_iald 0 260), (260, ac_iast 261), (261, ac_iinc 10 1 264), (264, ac_goto 226), (267, ac_aload 0 268), (268, ac_get 2 6 40 271), (271, ac_iload 1 272), (272, ac_iload 7 274), (274, ac_push (.int 2) 275), (275, ac_ii (fun x y => x - y) 276), (276, ac_iast 277), (277, ac_ret)]
theorem k_p119_6 : ∀ q ∈ k_c119_6, am_Ok k_nm D cA B0 sb H00 (k_Th B0 sb H00) prog_8_method_30_code "TokenMouthModel" "longArgument" [] none q.1 q.2 :=
  am_c (ok_iadd (by decide +kernel)) <|
  am_c (ok_iald (by decide +kernel)) <|
  am_c (ok_iast (by decide +kernel)) <|
  am_c (ok_iinc (z := 1) (by decide +kernel) (by decide +kernel)) <|
  am_c (ok_goto (off := -38) (by decide +kernel) (by decide +kernel)) <|
  am_c (ok_aload_n (k := 0) (by decide +kernel) rfl) <|
  am_c (ok_get (by decide +kernel) (by decide +kernel) rfl (by decide +kernel) kw_435) <|
  am_c (ok_iload_n (k := 1) (by decide +kernel) rfl) <|
  am_c (ok_iload (by decide +kernel)) <|
  am_c (ok_iconst (z := 2) (by decide +kernel) (by decide +kernel)) <|
  am_c (ok_isub (by decide +kernel)) <|
  am_c (ok_iast (by decide +kernel)) <|
  am_c (ok_ret (by decide +kernel) rfl) <|
  am_n
def k_t119 : List (Nat × List (Nat × am_A)) := [(42, k_c119_0), (88, k_c119_1), (129, k_c119_2), (169, k_c119_3), (216, k_c119_4), (256, k_c119_5), (277, k_c119_6)]
theorem k_o119 : ∀ c ∈ k_t119, ∀ q ∈ c.2, am_Ok k_nm D cA B0 sb H00 (k_Th B0 sb H00) prog_8_method_30_code "TokenMouthModel" "longArgument" [] none q.1 q.2 := am_cc (P := fun pc a => am_Ok k_nm D cA B0 sb H00 (k_Th B0 sb H00) prog_8_method_30_code "TokenMouthModel" "longArgument" [] none pc a) k_p119_0 <| am_cc (P := fun pc a => am_Ok k_nm D cA B0 sb H00 (k_Th B0 sb H00) prog_8_method_30_code "TokenMouthModel" "longArgument" [] none pc a) k_p119_1 <| am_cc (P := fun pc a => am_Ok k_nm D cA B0 sb H00 (k_Th B0 sb H00) prog_8_method_30_code "TokenMouthModel" "longArgument" [] none pc a) k_p119_2 <| am_cc (P := fun pc a => am_Ok k_nm D cA B0 sb H00 (k_Th B0 sb H00) prog_8_method_30_code "TokenMouthModel" "longArgument" [] none pc a) k_p119_3 <| am_cc (P := fun pc a => am_Ok k_nm D cA B0 sb H00 (k_Th B0 sb H00) prog_8_method_30_code "TokenMouthModel" "longArgument" [] none pc a) k_p119_4 <| am_cc (P := fun pc a => am_Ok k_nm D cA B0 sb H00 (k_Th B0 sb H00) prog_8_method_30_code "TokenMouthModel" "longArgument" [] none pc a) k_p119_5 <| am_cc (P := fun pc a => am_Ok k_nm D cA B0 sb H00 (k_Th B0 sb H00) prog_8_method_30_code "TokenMouthModel" "longArgument" [] none pc a) k_p119_6 <| am_cn0
-- 120: TokenMouthModel.call(I)V
def k_c120_0 : List (Nat × am_A) := [(0, ac_push (.int 0) 1), (1, ac_istore 2 2), (2, ac_iload 2 3), (3, ac_aload 0 4), (4, ac_get 2 6 24 7), (7, ac_iload 1 8), (8, ac_iald 0 9), (9, ac_if2 (fun x y => y ≤ x) 73 12), (12, ac_aload 0 13), (13, ac_get 2 6 25 16), (16, ac_push (.int 13) 18), (18, ac_iload 1 19), (19, ac_ii (fun x y => x * y) 20), (20, ac_iload 2 21), (21, ac_ii (fun x y => x + y) 22), (22, ac_iald 0 23), (23, ac_push (.int 16384) 26), (26, ac_if2 (fun x y => y ≤ x) 73 29), (29, ac_aload 0 30), (30, ac_callV 6 105 1 33 am_nohd), (33, ac_istore 3 34), (34, ac_iload 3 35), (35, ac_push (.int (-1)) 36), (36, ac_if2 (fun x y => ¬ x = y) 40 39)]
theorem k_p120_0 : ∀ q ∈ k_c120_0, am_Ok k_nm D cA B0 sb H00 (k_Th B0 sb H00) prog_8_method_31_code "TokenMouthModel" "call" [] none q.1 q.2 :=
  am_c (ok_iconst (z := 0) (by decide +kernel) (by decide +kernel)) <|
  am_c (ok_istore_n (k := 2) (by decide +kernel) rfl) <|
  am_c (ok_iload_n (k := 2) (by decide +kernel) rfl) <|
  am_c (ok_aload_n (k := 0) (by decide +kernel) rfl) <|
  am_c (ok_get (by decide +kernel) (by decide +kernel) rfl (by decide +kernel) kw_422) <|
  am_c (ok_iload_n (k := 1) (by decide +kernel) rfl) <|
  am_c (ok_iald (by decide +kernel)) <|
  am_c (ok_icmpge (off := 64) (by decide +kernel) (by decide +kernel)) <|
  am_c (ok_aload_n (k := 0) (by decide +kernel) rfl) <|
  am_c (ok_get (by decide +kernel) (by decide +kernel) rfl (by decide +kernel) kw_423) <|
  am_c (ok_bipush (z := 13) (by decide +kernel) (by decide +kernel)) <|
  am_c (ok_iload_n (k := 1) (by decide +kernel) rfl) <|
  am_c (ok_imul (by decide +kernel)) <|
  am_c (ok_iload_n (k := 2) (by decide +kernel) rfl) <|
  am_c (ok_iadd (by decide +kernel)) <|
  am_c (ok_iald (by decide +kernel)) <|
  am_c (ok_sipush (z := 16384) (by decide +kernel) (by decide +kernel)) <|
  am_c (ok_icmpge (off := 47) (by decide +kernel) (by decide +kernel)) <|
  am_c (ok_aload_n (k := 0) (by decide +kernel) rfl) <|
  am_c (ok_callV (by decide +kernel) (by decide +kernel) kw_549 kw_550 kw_551 kw_548 (by decide +kernel) (by decide +kernel)) <|
  am_c (ok_istore_n (k := 3) (by decide +kernel) rfl) <|
  am_c (ok_iload_n (k := 3) (by decide +kernel) rfl) <|
  am_c (ok_iconst (z := -1) (by decide +kernel) (by decide +kernel)) <|
  am_c (ok_icmpne (off := 4) (by decide +kernel) (by decide +kernel)) <|
  am_n
def k_c120_1 : List (Nat × am_A) := [(39, ac_ret), (40, ac_iload 3 41), (41, ac_callS 109 1 44), (44, ac_aload 0 45), (45, ac_get 2 6 25 48), (48, ac_push (.int 13) 50), (50, ac_iload 1 51), (51, ac_ii (fun x y => x * y) 52), (52, ac_iload 2 53), (53, ac_ii (fun x y => x + y) 54), (54, ac_iald 0 55), (55, ac_if2 (fun x y => x = y) 67 58), (58, ac_aload 0 59), (59, ac_push (.int 6) 61), (61, ac_callV 6 98 2 64 am_nohd), (64, ac_istore 4 66), (66, ac_ret), (67, ac_iinc 2 1 70), (70, ac_goto 2), (73, ac_push (.int 0) 74), (74, ac_istore 3 75), (75, ac_iload 3 76), (76, ac_aload 0 77), (77, ac_get 2 6 28 80)]
theorem k_p120_1 : ∀ q ∈ k_c120_1, am_Ok k_nm D cA B0 sb H00 (k_Th B0 sb H00) prog_8_method_31_code "TokenMouthModel" "call" [] none q.1 q.2 :=
  am_c (ok_ret (by decide +kernel) rfl) <|
  am_c (ok_iload_n (k := 3) (by decide +kernel) rfl) <|
  am_c (ok_callS (by decide +kernel) kw_531 kw_532 kw_487 kw_530 (by decide +kernel) (by decide +kernel)) <|
  am_c (ok_aload_n (k := 0) (by decide +kernel) rfl) <|
  am_c (ok_get (by decide +kernel) (by decide +kernel) rfl (by decide +kernel) kw_423) <|
  am_c (ok_bipush (z := 13) (by decide +kernel) (by decide +kernel)) <|
  am_c (ok_iload_n (k := 1) (by decide +kernel) rfl) <|
  am_c (ok_imul (by decide +kernel)) <|
  am_c (ok_iload_n (k := 2) (by decide +kernel) rfl) <|
  am_c (ok_iadd (by decide +kernel)) <|
  am_c (ok_iald (by decide +kernel)) <|
  am_c (ok_icmpeq (off := 12) (by decide +kernel) (by decide +kernel)) <|
  am_c (ok_aload_n (k := 0) (by decide +kernel) rfl) <|
  am_c (ok_bipush (z := 6) (by decide +kernel) (by decide +kernel)) <|
  am_c (ok_callV (by decide +kernel) (by decide +kernel) kw_497 kw_498 kw_499 kw_496 (by decide +kernel) (by decide +kernel)) <|
  am_c (ok_istore (by decide +kernel)) <|
  am_c (ok_ret (by decide +kernel) rfl) <|
  am_c (ok_iinc (z := 1) (by decide +kernel) (by decide +kernel)) <|
  am_c (ok_goto (off := -68) (by decide +kernel) (by decide +kernel)) <|
  am_c (ok_iconst (z := 0) (by decide +kernel) (by decide +kernel)) <|
  am_c (ok_istore_n (k := 3) (by decide +kernel) rfl) <|
  am_c (ok_iload_n (k := 3) (by decide +kernel) rfl) <|
  am_c (ok_aload_n (k := 0) (by decide +kernel) rfl) <|
  am_c (ok_get (by decide +kernel) (by decide +kernel) rfl (by decide +kernel) kw_426) <|
  am_n
def k_c120_2 : List (Nat × am_A) := [(80, ac_iload 1 81), (81, ac_iald 0 82), (82, ac_if2 (fun x y => y ≤ x) 176 85), (85, ac_aload 0 86), (86, ac_get 0 6 5 89), (89, ac_if1 (fun x => ¬ x = 0) 176 92), (92, ac_iload 2 93), (93, ac_push (.int 1) 94), (94, ac_ii (fun x y => x + y) 95), (95, ac_istore 4 97), (97, ac_iload 4 99), (99, ac_aload 0 100), (100, ac_get 2 6 24 103), (103, ac_iload 1 104), (104, ac_iald 0 105), (105, ac_if2 (fun x y => y ≤ x) 132 108), (108, ac_aload 0 109), (109, ac_get 2 6 25 112), (112, ac_push (.int 13) 114), (114, ac_iload 1 115), (115, ac_ii (fun x y => x * y) 116), (116, ac_iload 4 118), (118, ac_ii (fun x y => x + y) 119), (119, ac_iald 0 120)]
theorem k_p120_2 : ∀ q ∈ k_c120_2, am_Ok k_nm D cA B0 sb H00 (k_Th B0 sb H00) prog_8_method_31_code "TokenMouthModel" "call" [] none q.1 q.2 :=
  am_c (ok_iload_n (k := 1) (by decide +kernel) rfl) <|
  am_c (ok_iald (by decide +kernel)) <|
  am_c (ok_icmpge (off := 94) (by decide +kernel) (by decide +kernel)) <|
  am_c (ok_aload_n (k := 0) (by decide +kernel) rfl) <|
  am_c (ok_get (by decide +kernel) (by decide +kernel) rfl (by decide +kernel) kw_475) <|
  am_c (ok_ifne (off := 87) (by decide +kernel) (by decide +kernel)) <|
  am_c (ok_iload_n (k := 2) (by decide +kernel) rfl) <|
  am_c (ok_iconst (z := 1) (by decide +kernel) (by decide +kernel)) <|
  am_c (ok_iadd (by decide +kernel)) <|
  am_c (ok_istore (by decide +kernel)) <|
  am_c (ok_iload (by decide +kernel)) <|
  am_c (ok_aload_n (k := 0) (by decide +kernel) rfl) <|
  am_c (ok_get (by decide +kernel) (by decide +kernel) rfl (by decide +kernel) kw_422) <|
  am_c (ok_iload_n (k := 1) (by decide +kernel) rfl) <|
  am_c (ok_iald (by decide +kernel)) <|
  am_c (ok_icmpge (off := 27) (by decide +kernel) (by decide +kernel)) <|
  am_c (ok_aload_n (k := 0) (by decide +kernel) rfl) <|
  am_c (ok_get (by decide +kernel) (by decide +kernel) rfl (by decide +kernel) kw_423) <|
  am_c (ok_bipush (z := 13) (by decide +kernel) (by decide +kernel)) <|
  am_c (ok_iload_n (k := 1) (by decide +kernel) rfl) <|
  am_c (ok_imul (by decide +kernel)) <|
  am_c (ok_iload (by decide +kernel)) <|
  am_c (ok_iadd (by decide +kernel)) <|
  am_c (ok_iald (by decide +kernel)) <|
  am_n
def k_c120_3 : List (Nat × am_A) := [(120, ac_push (.int 16384) 123), (123, ac_if2 (fun x y => y ≤ x) 132 126), (126, ac_iinc 4 1 129), (129, ac_goto 97), (132, ac_aload 0 133), (133, ac_get 2 6 40 136), (136, ac_iload 3 137), (137, ac_push (.int 0) 138), (138, ac_iast 139), (139, ac_iload 4 141), (141, ac_iload 2 142), (142, ac_push (.int 1) 143), (143, ac_ii (fun x y => x + y) 144), (144, ac_if2 (fun x y => ¬ x = y) 156 147), (147, ac_aload 0 148), (148, ac_iload 3 149), (149, ac_iload 1 150), (150, ac_callV 6 118 3 153 am_nohd), (153, ac_goto 167), (156, ac_aload 0 157), (157, ac_iload 3 158), (158, ac_iload 1 159), (159, ac_iload 2 160), (160, ac_push (.int 1) 161)]
theorem k_p120_3 : ∀ q ∈ k_c120_3, am_Ok k_nm D cA B0 sb H00 (k_Th B0 sb H00) prog_8_method_31_code "TokenMouthModel" "call" [] none q.1 q.2 :=
  am_c (ok_sipush (z := 16384) (by decide +kernel) (by decide +kernel)) <|
  am_c (ok_icmpge (off := 9) (by decide +kernel) (by decide +kernel)) <|
  am_c (ok_iinc (z := 1) (by decide +kernel) (by decide +kernel)) <|
  am_c (ok_goto (off := -32) (by decide +kernel) (by decide +kernel)) <|
  am_c (ok_aload_n (k := 0) (by decide +kernel) rfl) <|
  am_c (ok_get (by decide +kernel) (by decide +kernel) rfl (by decide +kernel) kw_435) <|
  am_c (ok_iload_n (k := 3) (by decide +kernel) rfl) <|
  am_c (ok_iconst (z := 0) (by decide +kernel) (by decide +kernel)) <|
  am_c (ok_iast (by decide +kernel)) <|
  am_c (ok_iload (by decide +kernel)) <|
  am_c (ok_iload_n (k := 2) (by decide +kernel) rfl) <|
  am_c (ok_iconst (z := 1) (by decide +kernel) (by decide +kernel)) <|
  am_c (ok_iadd (by decide +kernel)) <|
  am_c (ok_icmpne (off := 12) (by decide +kernel) (by decide +kernel)) <|
  am_c (ok_aload_n (k := 0) (by decide +kernel) rfl) <|
  am_c (ok_iload_n (k := 3) (by decide +kernel) rfl) <|
  am_c (ok_iload_n (k := 1) (by decide +kernel) rfl) <|
  am_c (ok_callV (by decide +kernel) (by decide +kernel) kw_553 kw_554 kw_555 kw_552 (by decide +kernel) (by decide +kernel)) <|
  am_c (ok_goto (off := 14) (by decide +kernel) (by decide +kernel)) <|
  am_c (ok_aload_n (k := 0) (by decide +kernel) rfl) <|
  am_c (ok_iload_n (k := 3) (by decide +kernel) rfl) <|
  am_c (ok_iload_n (k := 1) (by decide +kernel) rfl) <|
  am_c (ok_iload_n (k := 2) (by decide +kernel) rfl) <|
  am_c (ok_iconst (z := 1) (by decide +kernel) (by decide +kernel)) <|
  am_n
def k_c120_4 : List (Nat × am_A) := [(161, ac_ii (fun x y => x + y) 162), (162, ac_iload 4 164), (164, ac_callV 6 119 5 167 am_nohd), (167, ac_iload 4 169), (169, ac_istore 2 170), (170, ac_iinc 3 1 173), (173, ac_goto 75), (176, ac_aload 0 177), (177, ac_get 2 6 26 180), (180, ac_iload 1 181), (181, ac_iald 0 182), (182, ac_push (.int 1) 183), (183, ac_ii (fun x y => x - y) 184), (184, ac_istore 3 185), (185, ac_iload 3 186), (186, ac_if1 (fun x => x < 0) 288 189), (189, ac_aload 0 190), (190, ac_get 0 6 5 193), (193, ac_if1 (fun x => ¬ x = 0) 288 196), (196, ac_aload 0 197), (197, ac_get 2 6 27 200), (200, ac_push (.int 41) 202), (202, ac_iload 1 203), (203, ac_ii (fun x y => x * y) 204)]
theorem k_p120_4 : ∀ q ∈ k_c120_4, am_Ok k_nm D cA B0 sb H00 (k_Th B0 sb H00) prog_8_method_31_code "TokenMouthModel" "call" [] none q.1 q.2 :=
  am_c (ok_iadd (by decide +kernel)) <|
  am_c (ok_iload (by decide +kernel)) <|
  am_c (ok_callV (by decide +kernel) (by decide +kernel) kw_557 kw_558 kw_559 kw_556 (by decide +kernel) (by decide +kernel)) <|
  am_c (ok_iload (by decide +kernel)) <|
  am_c (ok_istore_n (k := 2) (by decide +kernel) rfl) <|
  am_c (ok_iinc (z := 1) (by decide +kernel) (by decide +kernel)) <|
  am_c (ok_goto (off := -98) (by decide +kernel) (by decide +kernel)) <|
  am_c (ok_aload_n (k := 0) (by decide +kernel) rfl) <|
  am_c (ok_get (by decide +kernel) (by decide +kernel) rfl (by decide +kernel) kw_424) <|
  am_c (ok_iload_n (k := 1) (by decide +kernel) rfl) <|
  am_c (ok_iald (by decide +kernel)) <|
  am_c (ok_iconst (z := 1) (by decide +kernel) (by decide +kernel)) <|
  am_c (ok_isub (by decide +kernel)) <|
  am_c (ok_istore_n (k := 3) (by decide +kernel) rfl) <|
  am_c (ok_iload_n (k := 3) (by decide +kernel) rfl) <|
  am_c (ok_iflt (off := 102) (by decide +kernel) (by decide +kernel)) <|
  am_c (ok_aload_n (k := 0) (by decide +kernel) rfl) <|
  am_c (ok_get (by decide +kernel) (by decide +kernel) rfl (by decide +kernel) kw_475) <|
  am_c (ok_ifne (off := 95) (by decide +kernel) (by decide +kernel)) <|
  am_c (ok_aload_n (k := 0) (by decide +kernel) rfl) <|
  am_c (ok_get (by decide +kernel) (by decide +kernel) rfl (by decide +kernel) kw_425) <|
  am_c (ok_bipush (z := 41) (by decide +kernel) (by decide +kernel)) <|
  am_c (ok_iload_n (k := 1) (by decide +kernel) rfl) <|
  am_c (ok_imul (by decide +kernel)) <|
  am_n
def k_c120_5 : List (Nat × am_A) := [(204, ac_iload 3 205), (205, ac_ii (fun x y => x + y) 206), (206, ac_iald 0 207), (207, ac_istore 4 209), (209, ac_iload 4 211), (211, ac_push (.int 16384) 214), (214, ac_if2 (fun x y => y ≤ x) 226 217), (217, ac_aload 0 218), (218, ac_iload 4 220), (220, ac_callV 6 106 2 223 am_nohd), (223, ac_goto 282), (226, ac_iload 4 228), (228, ac_push (.int 16384) 231), (231, ac_ii (fun x y => x - y) 232), (232, ac_push (.int 1) 233), (233, ac_ii (fun x y => x - y) 234), (234, ac_istore 5 236), (236, ac_aload 0 237), (237, ac_get 2 6 40 240), (240, ac_iload 5 242), (242, ac_iald 0 243), (243, ac_push (.int 1) 244), (244, ac_ii (fun x y => x - y) 245), (245, ac_istore 6 247)]
theorem k_p120_5 : ∀ q ∈ k_c120_5, am_Ok k_nm D cA B0 sb H00 (k_Th B0 sb H00) prog_8_method_31_code "TokenMouthModel" "call" [] none q.1 q.2 :=
  am_c (ok_iload_n (k := 3) (by decide +kernel) rfl) <|
  am_c (ok_iadd (by decide +kernel)) <|
  am_c (ok_iald (by decide +kernel)) <|
  am_c (ok_istore (by decide +kernel)) <|
  am_c (ok_iload (by decide +kernel)) <|
  am_c (ok_sipush (z := 16384) (by decide +kernel) (by decide +kernel)) <|
  am_c (ok_icmpge (off := 12) (by decide +kernel) (by decide +kernel)) <|
  am_c (ok_aload_n (k := 0) (by decide +kernel) rfl) <|
  am_c (ok_iload (by decide +kernel)) <|
  am_c (ok_callV (by decide +kernel) (by decide +kernel) kw_561 kw_562 kw_563 kw_560 (by decide +kernel) (by decide +kernel)) <|
  am_c (ok_goto (off := 59) (by decide +kernel) (by decide +kernel)) <|
  am_c (ok_iload (by decide +kernel)) <|
  am_c (ok_sipush (z := 16384) (by decide +kernel) (by decide +kernel)) <|
  am_c (ok_isub (by decide +kernel)) <|
  am_c (ok_iconst (z := 1) (by decide +kernel) (by decide +kernel)) <|
  am_c (ok_isub (by decide +kernel)) <|
  am_c (ok_istore (by decide +kernel)) <|
  am_c (ok_aload_n (k := 0) (by decide +kernel) rfl) <|
  am_c (ok_get (by decide +kernel) (by decide +kernel) rfl (by decide +kernel) kw_435) <|
  am_c (ok_iload (by decide +kernel)) <|
  am_c (ok_iald (by decide +kernel)) <|
  am_c (ok_iconst (z := 1) (by decide +kernel) (by decide +kernel)) <|
  am_c (ok_isub (by decide +kernel)) <|
  am_c (ok_istore (by decide +kernel)) <|
  am_n
def k_c120_6 : List (Nat × am_A) := [(247, ac_iload 6 249), (249, ac_if1 (fun x => x < 0) 282 252), (252, ac_aload 0 253), (253, ac_get 0 6 5 256), (256, ac_if1 (fun x => ¬ x = 0) 282 259), (259, ac_aload 0 260), (260, ac_aload 0 261), (261, ac_get 2 6 39 264), (264, ac_push (.int 42) 266), (266, ac_iload 5 268), (268, ac_ii (fun x y => x * y) 269), (269, ac_iload 6 271), (271, ac_ii (fun x y => x + y) 272), (272, ac_iald 0 273), (273, ac_callV 6 106 2 276 am_nohd), (276, ac_iinc 6 (-1) 279), (279, ac_goto 247), (282, ac_iinc 3 (-1) 285), (285, ac_goto 185), (288, ac_ret)]
theorem k_p120_6 : ∀ q ∈ k_c120_6, am_Ok k_nm D cA B0 sb H00 (k_Th B0 sb H00) prog_8_method_31_code "TokenMouthModel" "call" [] none q.1 q.2 :=
  am_c (ok_iload (by decide +kernel)) <|
  am_c (ok_iflt (off := 33) (by decide +kernel) (by decide +kernel)) <|
  am_c (ok_aload_n (k := 0) (by decide +kernel) rfl) <|
  am_c (ok_get (by decide +kernel) (by decide +kernel) rfl (by decide +kernel) kw_475) <|
  am_c (ok_ifne (off := 26) (by decide +kernel) (by decide +kernel)) <|
  am_c (ok_aload_n (k := 0) (by decide +kernel) rfl) <|
  am_c (ok_aload_n (k := 0) (by decide +kernel) rfl) <|
  am_c (ok_get (by decide +kernel) (by decide +kernel) rfl (by decide +kernel) kw_434) <|
  am_c (ok_bipush (z := 42) (by decide +kernel) (by decide +kernel)) <|
  am_c (ok_iload (by decide +kernel)) <|
  am_c (ok_imul (by decide +kernel)) <|
  am_c (ok_iload (by decide +kernel)) <|
  am_c (ok_iadd (by decide +kernel)) <|
  am_c (ok_iald (by decide +kernel)) <|
  am_c (ok_callV (by decide +kernel) (by decide +kernel) kw_561 kw_562 kw_563 kw_560 (by decide +kernel) (by decide +kernel)) <|
  am_c (ok_iinc (z := (-1)) (by decide +kernel) (by decide +kernel)) <|
  am_c (ok_goto (off := -32) (by decide +kernel) (by decide +kernel)) <|
  am_c (ok_iinc (z := (-1)) (by decide +kernel) (by decide +kernel)) <|
  am_c (ok_goto (off := -100) (by decide +kernel) (by decide +kernel)) <|
  am_c (ok_ret (by decide +kernel) rfl) <|
  am_n
def k_t120 : List (Nat × List (Nat × am_A)) := [(36, k_c120_0), (77, k_c120_1), (119, k_c120_2), (160, k_c120_3), (203, k_c120_4), (245, k_c120_5), (288, k_c120_6)]
theorem k_o120 : ∀ c ∈ k_t120, ∀ q ∈ c.2, am_Ok k_nm D cA B0 sb H00 (k_Th B0 sb H00) prog_8_method_31_code "TokenMouthModel" "call" [] none q.1 q.2 := am_cc (P := fun pc a => am_Ok k_nm D cA B0 sb H00 (k_Th B0 sb H00) prog_8_method_31_code "TokenMouthModel" "call" [] none pc a) k_p120_0 <| am_cc (P := fun pc a => am_Ok k_nm D cA B0 sb H00 (k_Th B0 sb H00) prog_8_method_31_code "TokenMouthModel" "call" [] none pc a) k_p120_1 <| am_cc (P := fun pc a => am_Ok k_nm D cA B0 sb H00 (k_Th B0 sb H00) prog_8_method_31_code "TokenMouthModel" "call" [] none pc a) k_p120_2 <| am_cc (P := fun pc a => am_Ok k_nm D cA B0 sb H00 (k_Th B0 sb H00) prog_8_method_31_code "TokenMouthModel" "call" [] none pc a) k_p120_3 <| am_cc (P := fun pc a => am_Ok k_nm D cA B0 sb H00 (k_Th B0 sb H00) prog_8_method_31_code "TokenMouthModel" "call" [] none pc a) k_p120_4 <| am_cc (P := fun pc a => am_Ok k_nm D cA B0 sb H00 (k_Th B0 sb H00) prog_8_method_31_code "TokenMouthModel" "call" [] none pc a) k_p120_5 <| am_cc (P := fun pc a => am_Ok k_nm D cA B0 sb H00 (k_Th B0 sb H00) prog_8_method_31_code "TokenMouthModel" "call" [] none pc a) k_p120_6 <| am_cn0
end
