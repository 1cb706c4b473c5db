/-! tables of the methods 52 to 78; printed by wip/whole/emit.py -/
section
variable {D : va_G} {cA : Nat → ClassId} {B0 : Nat} {sb : Nat → Option Nat} {H00 : Heap}
-- 52: TokenMouth.unmarked(I)I
def k_c52_0 : List (Nat × am_A) := [(0, ac_iload 0 1), (1, ac_push (.int (-16385)) 4), (4, ac_ii (fun x y => x &&& y) 5), (5, ac_iret)]
theorem k_p52_0 : ∀ q ∈ k_c52_0, am_Ok k_nm D cA B0 sb H00 (k_Th B0 sb H00) prog_1_method_17_code "TokenMouth" "unmarked" [] (some .int) q.1 q.2 :=
  am_c (ok_iload_n (k := 0) (by decide +kernel) rfl) <|
  am_c (ok_sipush (z := -16385) (by decide +kernel) (by decide +kernel)) <|
  am_c (ok_iand (by decide +kernel)) <|
  am_c (ok_iret (by decide +kernel) rfl) <|
  am_n
def k_t52 : List (Nat × List (Nat × am_A)) := [(5, k_c52_0)]
theorem k_o52 : ∀ c ∈ k_t52, ∀ q ∈ c.2, am_Ok k_nm D cA B0 sb H00 (k_Th B0 sb H00) prog_1_method_17_code "TokenMouth" "unmarked" [] (some .int) q.1 q.2 := am_cc (P := fun pc a => am_Ok k_nm D cA B0 sb H00 (k_Th B0 sb H00) prog_1_method_17_code "TokenMouth" "unmarked" [] (some .int) pc a) k_p52_0 <| am_cn0
-- 53: TokenMouth.categoryOf(I)I
def k_c53_0 : List (Nat × am_A) := [(0, ac_iload 0 1), (1, ac_push (.int 8) 3), (3, ac_ii (fun x y => x >>> (y &&& 31)) 4), (4, ac_iret)]
theorem k_p53_0 : ∀ q ∈ k_c53_0, am_Ok k_nm D cA B0 sb H00 (k_Th B0 sb H00) prog_1_method_18_code "TokenMouth" "categoryOf" [] (some .int) q.1 q.2 :=
  am_c (ok_iload_n (k := 0) (by decide +kernel) rfl) <|
  am_c (ok_bipush (z := 8) (by decide +kernel) (by decide +kernel)) <|
  am_c (ok_ishr (by decide +kernel)) <|
  am_c (ok_iret (by decide +kernel) rfl) <|
  am_n
def k_t53 : List (Nat × List (Nat × am_A)) := [(4, k_c53_0)]
theorem k_o53 : ∀ c ∈ k_t53, ∀ q ∈ c.2, am_Ok k_nm D cA B0 sb H00 (k_Th B0 sb H00) prog_1_method_18_code "TokenMouth" "categoryOf" [] (some .int) q.1 q.2 := am_cc (P := fun pc a => am_Ok k_nm D cA B0 sb H00 (k_Th B0 sb H00) prog_1_method_18_code "TokenMouth" "categoryOf" [] (some .int) pc a) k_p53_0 <| am_cn0
-- 54: TokenMouth.braceStep(I)I
def k_c54_0 : List (Nat × am_A) := [(0, ac_iload 0 1), (1, ac_push (.int 8) 3), (3, ac_ii (fun x y => x >>> (y &&& 31)) 4), (4, ac_istore 1 5), (5, ac_iload 1 6), (6, ac_push (.int 1) 7), (7, ac_if2 (fun x y => ¬ x = y) 12 10), (10, ac_push (.int 1) 11), (11, ac_iret), (12, ac_iload 1 13), (13, ac_push (.int 2) 14), (14, ac_if2 (fun x y => ¬ x = y) 21 17), (17, ac_push (.int (-1)) 18), (18, ac_goto 22), (21, ac_push (.int 0) 22), (22, ac_iret)]
theorem k_p54_0 : ∀ q ∈ k_c54_0, am_Ok k_nm D cA B0 sb H00 (k_Th B0 sb H00) prog_1_method_19_code "TokenMouth" "braceStep" [] (some .int) q.1 q.2 :=
  am_c (ok_iload_n (k := 0) (by decide +kernel) rfl) <|
  am_c (ok_bipush (z := 8) (by decide +kernel) (by decide +kernel)) <|
  am_c (ok_ishr (by decide +kernel)) <|
  am_c (ok_istore_n (k := 1) (by decide +kernel) rfl) <|
  am_c (ok_iload_n (k := 1) (by decide +kernel) rfl) <|
  am_c (ok_iconst (z := 1) (by decide +kernel) (by decide +kernel)) <|
  am_c (ok_icmpne (off := 5) (by decide +kernel) (by decide +kernel)) <|
  am_c (ok_iconst (z := 1) (by decide +kernel) (by decide +kernel)) <|
  am_c (ok_iret (by decide +kernel) rfl) <|
  am_c (ok_iload_n (k := 1) (by decide +kernel) rfl) <|
  am_c (ok_iconst (z := 2) (by decide +kernel) (by decide +kernel)) <|
  am_c (ok_icmpne (off := 7) (by decide +kernel) (by decide +kernel)) <|
  am_c (ok_iconst (z := -1) (by decide +kernel) (by decide +kernel)) <|
  am_c (ok_goto (off := 4) (by decide +kernel) (by decide +kernel)) <|
  am_c (ok_iconst (z := 0) (by decide +kernel) (by decide +kernel)) <|
  am_c (ok_iret (by decide +kernel) rfl) <|
  am_n
def k_t54 : List (Nat × List (Nat × am_A)) := [(22, k_c54_0)]
theorem k_o54 : ∀ c ∈ k_t54, ∀ q ∈ c.2, am_Ok k_nm D cA B0 sb H00 (k_Th B0 sb H00) prog_1_method_19_code "TokenMouth" "braceStep" [] (some .int) q.1 q.2 := am_cc (P := fun pc a => am_Ok k_nm D cA B0 sb H00 (k_Th B0 sb H00) prog_1_method_19_code "TokenMouth" "braceStep" [] (some .int) pc a) k_p54_0 <| am_cn0
-- 55: TokenMouth.meaningOf(I)I
def k_c55_0 : List (Nat × am_A) := [(0, ac_iload 1 1), (1, ac_push (.int 4096) 4), (4, ac_if2 (fun x y => y ≤ x) 9 7), (7, ac_iload 1 8), (8, ac_iret), (9, ac_iload 1 10), (10, ac_push (.int 16384) 13), (13, ac_if2 (fun x y => x < y) 20 16), (16, ac_push (.int 2) 17), (17, ac_goto 32), (20, ac_aload 0 21), (21, ac_get 2 5 1 24), (24, ac_iload 1 25), (25, ac_push (.int 4096) 28), (28, ac_ii (fun x y => x - y) 29), (29, ac_callV 2 10 2 32 am_nohd), (32, ac_iret)]
theorem k_p55_0 : ∀ q ∈ k_c55_0, am_Ok k_nm D cA B0 sb H00 (k_Th B0 sb H00) prog_1_method_20_code "TokenMouth" "meaningOf" [] (some .int) q.1 q.2 :=
  am_c (ok_iload_n (k := 1) (by decide +kernel) rfl) <|
  am_c (ok_sipush (z := 4096) (by decide +kernel) (by decide +kernel)) <|
  am_c (ok_icmpge (off := 5) (by decide +kernel) (by decide +kernel)) <|
  am_c (ok_iload_n (k := 1) (by decide +kernel) rfl) <|
  am_c (ok_iret (by decide +kernel) rfl) <|
  am_c (ok_iload_n (k := 1) (by decide +kernel) rfl) <|
  am_c (ok_sipush (z := 16384) (by decide +kernel) (by decide +kernel)) <|
  am_c (ok_icmplt (off := 7) (by decide +kernel) (by decide +kernel)) <|
  am_c (ok_iconst (z := 2) (by decide +kernel) (by decide +kernel)) <|
  am_c (ok_goto (off := 15) (by decide +kernel) (by decide +kernel)) <|
  am_c (ok_aload_n (k := 0) (by decide +kernel) rfl) <|
  am_c (ok_get (by decide +kernel) (by decide +kernel) rfl (by decide +kernel) kw_118) <|
  am_c (ok_iload_n (k := 1) (by decide +kernel) rfl) <|
  am_c (ok_sipush (z := 4096) (by decide +kernel) (by decide +kernel)) <|
  am_c (ok_isub (by decide +kernel)) <|
  am_c (ok_callV (by decide +kernel) (by decide +kernel) kw_206 kw_207 kw_208 kw_205 (by decide +kernel) (by decide +kernel)) <|
  am_c (ok_iret (by decide +kernel) rfl) <|
  am_n
def k_t55 : List (Nat × List (Nat × am_A)) := [(32, k_c55_0)]
theorem k_o55 : ∀ c ∈ k_t55, ∀ q ∈ c.2, am_Ok k_nm D cA B0 sb H00 (k_Th B0 sb H00) prog_1_method_20_code "TokenMouth" "meaningOf" [] (some .int) q.1 q.2 := am_cc (P := fun pc a => am_Ok k_nm D cA B0 sb H00 (k_Th B0 sb H00) prog_1_method_20_code "TokenMouth" "meaningOf" [] (some .int) pc a) k_p55_0 <| am_cn0
-- 56: TokenMouth.isCharacter(I)Z
def k_c56_0 : List (Nat × am_A) := [(0, ac_iload 0 1), (1, ac_push (.int 18) 3), (3, ac_if2 (fun x y => x ≤ y) 17 6), (6, ac_iload 0 7), (7, ac_push (.int 4096) 10), (10, ac_if2 (fun x y => y ≤ x) 17 13), (13, ac_push (.int 1) 14), (14, ac_goto 18), (17, ac_push (.int 0) 18), (18, ac_zret)]
theorem k_p56_0 : ∀ q ∈ k_c56_0, am_Ok k_nm D cA B0 sb H00 (k_Th B0 sb H00) prog_1_method_21_code "TokenMouth" "isCharacter" [] (some .boolean) q.1 q.2 :=
  am_c (ok_iload_n (k := 0) (by decide +kernel) rfl) <|
  am_c (ok_bipush (z := 18) (by decide +kernel) (by decide +kernel)) <|
  am_c (ok_icmple (off := 14) (by decide +kernel) (by decide +kernel)) <|
  am_c (ok_iload_n (k := 0) (by decide +kernel) rfl) <|
  am_c (ok_sipush (z := 4096) (by decide +kernel) (by decide +kernel)) <|
  am_c (ok_icmpge (off := 7) (by decide +kernel) (by decide +kernel)) <|
  am_c (ok_iconst (z := 1) (by decide +kernel) (by decide +kernel)) <|
  am_c (ok_goto (off := 4) (by decide +kernel) (by decide +kernel)) <|
  am_c (ok_iconst (z := 0) (by decide +kernel) (by decide +kernel)) <|
  am_c (ok_zret (by decide +kernel) rfl) <|
  am_n
def k_t56 : List (Nat × List (Nat × am_A)) := [(18, k_c56_0)]
theorem k_o56 : ∀ c ∈ k_t56, ∀ q ∈ c.2, am_Ok k_nm D cA B0 sb H00 (k_Th B0 sb H00) prog_1_method_21_code "TokenMouth" "isCharacter" [] (some .boolean) q.1 q.2 := am_cc (P := fun pc a => am_Ok k_nm D cA B0 sb H00 (k_Th B0 sb H00) prog_1_method_21_code "TokenMouth" "isCharacter" [] (some .boolean) pc a) k_p56_0 <| am_cn0
-- 57: TokenMouth.isExpandable(I)Z
def k_c57_0 : List (Nat × am_A) := [(0, ac_iload 0 1), (1, ac_push (.int 18) 3), (3, ac_if2 (fun x y => x ≤ y) 19 6), (6, ac_iload 0 7), (7, ac_push (.int 4096) 10), (10, ac_if2 (fun x y => x < y) 17 13), (13, ac_push (.int 1) 14), (14, ac_goto 18), (17, ac_push (.int 0) 18), (18, ac_zret), (19, ac_iload 0 20), (20, ac_push (.int 8) 22), (22, ac_if2 (fun x y => x < y) 35 25), (25, ac_iload 0 26), (26, ac_push (.int 11) 28), (28, ac_if2 (fun x y => x = y) 35 31), (31, ac_push (.int 1) 32), (32, ac_goto 36), (35, ac_push (.int 0) 36), (36, ac_zret)]
theorem k_p57_0 : ∀ q ∈ k_c57_0, am_Ok k_nm D cA B0 sb H00 (k_Th B0 sb H00) prog_1_method_22_code "TokenMouth" "isExpandable" [] (some .boolean) q.1 q.2 :=
  am_c (ok_iload_n (k := 0) (by decide +kernel) rfl) <|
  am_c (ok_bipush (z := 18) (by decide +kernel) (by decide +kernel)) <|
  am_c (ok_icmple (off := 16) (by decide +kernel) (by decide +kernel)) <|
  am_c (ok_iload_n (k := 0) (by decide +kernel) rfl) <|
  am_c (ok_sipush (z := 4096) (by decide +kernel) (by decide +kernel)) <|
  am_c (ok_icmplt (off := 7) (by decide +kernel) (by decide +kernel)) <|
  am_c (ok_iconst (z := 1) (by decide +kernel) (by decide +kernel)) <|
  am_c (ok_goto (off := 4) (by decide +kernel) (by decide +kernel)) <|
  am_c (ok_iconst (z := 0) (by decide +kernel) (by decide +kernel)) <|
  am_c (ok_zret (by decide +kernel) rfl) <|
  am_c (ok_iload_n (k := 0) (by decide +kernel) rfl) <|
  am_c (ok_bipush (z := 8) (by decide +kernel) (by decide +kernel)) <|
  am_c (ok_icmplt (off := 13) (by decide +kernel) (by decide +kernel)) <|
  am_c (ok_iload_n (k := 0) (by decide +kernel) rfl) <|
  am_c (ok_bipush (z := 11) (by decide +kernel) (by decide +kernel)) <|
  am_c (ok_icmpeq (off := 7) (by decide +kernel) (by decide +kernel)) <|
  am_c (ok_iconst (z := 1) (by decide +kernel) (by decide +kernel)) <|
  am_c (ok_goto (off := 4) (by decide +kernel) (by decide +kernel)) <|
  am_c (ok_iconst (z := 0) (by decide +kernel) (by decide +kernel)) <|
  am_c (ok_zret (by decide +kernel) rfl) <|
  am_n
def k_t57 : List (Nat × List (Nat × am_A)) := [(36, k_c57_0)]
theorem k_o57 : ∀ c ∈ k_t57, ∀ q ∈ c.2, am_Ok k_nm D cA B0 sb H00 (k_Th B0 sb H00) prog_1_method_22_code "TokenMouth" "isExpandable" [] (some .boolean) q.1 q.2 := am_cc (P := fun pc a => am_Ok k_nm D cA B0 sb H00 (k_Th B0 sb H00) prog_1_method_22_code "TokenMouth" "isExpandable" [] (some .boolean) pc a) k_p57_0 <| am_cn0
-- 58: TokenMouth.macroOf(I)LTokenMouth$Macro;
def k_c58_0 : List (Nat × am_A) := [(0, ac_iload 1 1), (1, ac_push (.int 4096) 4), (4, ac_ii (fun x y => x - y) 5), (5, ac_istore 2 6), (6, ac_iload 2 7), (7, ac_if1 (fun x => x < 0) 36 10), (10, ac_iload 2 11), (11, ac_aload 0 12), (12, ac_get 0 5 9 15), (15, ac_if2 (fun x y => y ≤ x) 36 18), (18, ac_iload 2 19), (19, ac_aload 0 20), (20, ac_get 2 5 7 23), (23, ac_alen 24), (24, ac_if2 (fun x y => y ≤ x) 36 27), (27, ac_aload 0 28), (28, ac_get 2 5 7 31), (31, ac_iload 2 32), (32, ac_aald 4 33), (33, ac_goto 37), (36, ac_push .null 37), (37, ac_aret)]
theorem k_p58_0 : ∀ q ∈ k_c58_0, am_Ok k_nm D cA B0 sb H00 (k_Th B0 sb H00) prog_1_method_23_code "TokenMouth" "macroOf" [] (some (.object "TokenMouth$Macro")) q.1 q.2 :=
  am_c (ok_iload_n (k := 1) (by decide +kernel) rfl) <|
  am_c (ok_sipush (z := 4096) (by decide +kernel) (by decide +kernel)) <|
  am_c (ok_isub (by decide +kernel)) <|
  am_c (ok_istore_n (k := 2) (by decide +kernel) rfl) <|
  am_c (ok_iload_n (k := 2) (by decide +kernel) rfl) <|
  am_c (ok_iflt (off := 29) (by decide +kernel) (by decide +kernel)) <|
  am_c (ok_iload_n (k := 2) (by decide +kernel) rfl) <|
  am_c (ok_aload_n (k := 0) (by decide +kernel) rfl) <|
  am_c (ok_get (by decide +kernel) (by decide +kernel) rfl (by decide +kernel) kw_172) <|
  am_c (ok_icmpge (off := 21) (by decide +kernel) (by decide +kernel)) <|
  am_c (ok_iload_n (k := 2) (by decide +kernel) rfl) <|
  am_c (ok_aload_n (k := 0) (by decide +kernel) rfl) <|
  am_c (ok_get (by decide +kernel) (by decide +kernel) rfl (by decide +kernel) kw_133) <|
  am_c (ok_alen (by decide +kernel)) <|
  am_c (ok_icmpge (off := 12) (by decide +kernel) (by decide +kernel)) <|
  am_c (ok_aload_n (k := 0) (by decide +kernel) rfl) <|
  am_c (ok_get (by decide +kernel) (by decide +kernel) rfl (by decide +kernel) kw_133) <|
  am_c (ok_iload_n (k := 2) (by decide +kernel) rfl) <|
  am_c (ok_aald (by decide +kernel) (by decide +kernel)) <|
  am_c (ok_goto (off := 4) (by decide +kernel) (by decide +kernel)) <|
  am_c (ok_null (by decide +kernel)) <|
  am_c (ok_aret (by decide +kernel) rfl) <|
  am_n
def k_t58 : List (Nat × List (Nat × am_A)) := [(37, k_c58_0)]
theorem k_o58 : ∀ c ∈ k_t58, ∀ q ∈ c.2, am_Ok k_nm D cA B0 sb H00 (k_Th B0 sb H00) prog_1_method_23_code "TokenMouth" "macroOf" [] (some (.object "TokenMouth$Macro")) q.1 q.2 := am_cc (P := fun pc a => am_Ok k_nm D cA B0 sb H00 (k_Th B0 sb H00) prog_1_method_23_code "TokenMouth" "macroOf" [] (some (.object "TokenMouth$Macro")) pc a) k_p58_0 <| am_cn0
-- 59: TokenMouth.meanTheSame(II)Z
def k_c59_0 : List (Nat × am_A) := [(0, ac_aload 0 1), (1, ac_iload 1 2), (2, ac_callV 5 58 2 5 am_nohd), (5, ac_astore 3 6), (6, ac_aload 0 7), (7, ac_iload 2 8), (8, ac_callV 5 58 2 11 am_nohd), (11, ac_astore 4 13), (13, ac_aload 3 14), (14, ac_ifnull 22 17), (17, ac_aload 4 19), (19, ac_ifnonnull 33 22), (22, ac_iload 1 23), (23, ac_iload 2 24), (24, ac_if2 (fun x y => ¬ x = y) 31 27), (27, ac_push (.int 1) 28), (28, ac_goto 32), (31, ac_push (.int 0) 32), (32, ac_zret), (33, ac_aload 3 34), (34, ac_get 2 1 0 37), (37, ac_aload 4 39), (39, ac_get 2 1 0 42), (42, ac_callV 4 31 2 45 am_nohd)]
theorem k_p59_0 : ∀ q ∈ k_c59_0, am_Ok k_nm D cA B0 sb H00 (k_Th B0 sb H00) prog_1_method_24_code "TokenMouth" "meanTheSame" [] (some .boolean) q.1 q.2 :=
  am_c (ok_aload_n (k := 0) (by decide +kernel) rfl) <|
  am_c (ok_iload_n (k := 1) (by decide +kernel) rfl) <|
  am_c (ok_callV (by decide +kernel) (by decide +kernel) kw_185 kw_186 kw_187 kw_184 (by decide +kernel) (by decide +kernel)) <|
  am_c (ok_astore_n (k := 3) (by decide +kernel) rfl) <|
  am_c (ok_aload_n (k := 0) (by decide +kernel) rfl) <|
  am_c (ok_iload_n (k := 2) (by decide +kernel) rfl) <|
  am_c (ok_callV (by decide +kernel) (by decide +kernel) kw_185 kw_186 kw_187 kw_184 (by decide +kernel) (by decide +kernel)) <|
  am_c (ok_astore (by decide +kernel)) <|
  am_c (ok_aload_n (k := 3) (by decide +kernel) rfl) <|
  am_c (ok_ifnull (off := 8) (by decide +kernel) (by decide +kernel)) <|
  am_c (ok_aload (by decide +kernel)) <|
  am_c (ok_ifnonnull (off := 14) (by decide +kernel) (by decide +kernel)) <|
  am_c (ok_iload_n (k := 1) (by decide +kernel) rfl) <|
  am_c (ok_iload_n (k := 2) (by decide +kernel) rfl) <|
  am_c (ok_icmpne (off := 7) (by decide +kernel) (by decide +kernel)) <|
  am_c (ok_iconst (z := 1) (by decide +kernel) (by decide +kernel)) <|
  am_c (ok_goto (off := 4) (by decide +kernel) (by decide +kernel)) <|
  am_c (ok_iconst (z := 0) (by decide +kernel) (by decide +kernel)) <|
  am_c (ok_zret (by decide +kernel) rfl) <|
  am_c (ok_aload_n (k := 3) (by decide +kernel) rfl) <|
  am_c (ok_get (by decide +kernel) (by decide +kernel) rfl (by decide +kernel) kw_189) <|
  am_c (ok_aload (by decide +kernel)) <|
  am_c (ok_get (by decide +kernel) (by decide +kernel) rfl (by decide +kernel) kw_189) <|
  am_c (ok_callV (by decide +kernel) (by decide +kernel) kw_210 kw_211 kw_212 kw_209 (by decide +kernel) (by decide +kernel)) <|
  am_n
def k_c59_1 : List (Nat × am_A) := [(45, ac_if1 (fun x => x = 0) 67 48), (48, ac_aload 3 49), (49, ac_get 2 1 1 52), (52, ac_aload 4 54), (54, ac_get 2 1 1 57), (57, ac_callV 4 31 2 60 am_nohd), (60, ac_if1 (fun x => x = 0) 67 63), (63, ac_push (.int 1) 64), (64, ac_goto 68), (67, ac_push (.int 0) 68), (68, ac_zret)]
theorem k_p59_1 : ∀ q ∈ k_c59_1, am_Ok k_nm D cA B0 sb H00 (k_Th B0 sb H00) prog_1_method_24_code "TokenMouth" "meanTheSame" [] (some .boolean) q.1 q.2 :=
  am_c (ok_ifeq (off := 22) (by decide +kernel) (by decide +kernel)) <|
  am_c (ok_aload_n (k := 3) (by decide +kernel) rfl) <|
  am_c (ok_get (by decide +kernel) (by decide +kernel) rfl (by decide +kernel) kw_190) <|
  am_c (ok_aload (by decide +kernel)) <|
  am_c (ok_get (by decide +kernel) (by decide +kernel) rfl (by decide +kernel) kw_190) <|
  am_c (ok_callV (by decide +kernel) (by decide +kernel) kw_210 kw_211 kw_212 kw_209 (by decide +kernel) (by decide +kernel)) <|
  am_c (ok_ifeq (off := 7) (by decide +kernel) (by decide +kernel)) <|
  am_c (ok_iconst (z := 1) (by decide +kernel) (by decide +kernel)) <|
  am_c (ok_goto (off := 4) (by decide +kernel) (by decide +kernel)) <|
  am_c (ok_iconst (z := 0) (by decide +kernel) (by decide +kernel)) <|
  am_c (ok_zret (by decide +kernel) rfl) <|
  am_n
def k_t59 : List (Nat × List (Nat × am_A)) := [(42, k_c59_0), (68, k_c59_1)]
theorem k_o59 : ∀ c ∈ k_t59, ∀ q ∈ c.2, am_Ok k_nm D cA B0 sb H00 (k_Th B0 sb H00) prog_1_method_24_code "TokenMouth" "meanTheSame" [] (some .boolean) q.1 q.2 := am_cc (P := fun pc a => am_Ok k_nm D cA B0 sb H00 (k_Th B0 sb H00) prog_1_method_24_code "TokenMouth" "meanTheSame" [] (some .boolean) pc a) k_p59_0 <| am_cc (P := fun pc a => am_Ok k_nm D cA B0 sb H00 (k_Th B0 sb H00) prog_1_method_24_code "TokenMouth" "meanTheSame" [] (some .boolean) pc a) k_p59_1 <| am_cn0
-- 60: TokenMouth.codeOf(I)I
def k_c60_0 : List (Nat × am_A) := [(0, ac_iload 0 1), (1, ac_callS 56 1 4), (4, ac_if1 (fun x => x = 0) 15 7), (7, ac_iload 0 8), (8, ac_push (.int 255) 11), (11, ac_ii (fun x y => x &&& y) 12), (12, ac_goto 18), (15, ac_push (.int 256) 18), (18, ac_iret)]
theorem k_p60_0 : ∀ q ∈ k_c60_0, am_Ok k_nm D cA B0 sb H00 (k_Th B0 sb H00) prog_1_method_25_code "TokenMouth" "codeOf" [] (some .int) q.1 q.2 :=
  am_c (ok_iload_n (k := 0) (by decide +kernel) rfl) <|
  am_c (ok_callS (by decide +kernel) kw_214 kw_215 kw_86 kw_213 (by decide +kernel) (by decide +kernel)) <|
  am_c (ok_ifeq (off := 11) (by decide +kernel) (by decide +kernel)) <|
  am_c (ok_iload_n (k := 0) (by decide +kernel) rfl) <|
  am_c (ok_sipush (z := 255) (by decide +kernel) (by decide +kernel)) <|
  am_c (ok_iand (by decide +kernel)) <|
  am_c (ok_goto (off := 6) (by decide +kernel) (by decide +kernel)) <|
  am_c (ok_sipush (z := 256) (by decide +kernel) (by decide +kernel)) <|
  am_c (ok_iret (by decide +kernel) rfl) <|
  am_n
def k_t60 : List (Nat × List (Nat × am_A)) := [(18, k_c60_0)]
theorem k_o60 : ∀ c ∈ k_t60, ∀ q ∈ c.2, am_Ok k_nm D cA B0 sb H00 (k_Th B0 sb H00) prog_1_method_25_code "TokenMouth" "codeOf" [] (some .int) q.1 q.2 := am_cc (P := fun pc a => am_Ok k_nm D cA B0 sb H00 (k_Th B0 sb H00) prog_1_method_25_code "TokenMouth" "codeOf" [] (some .int) pc a) k_p60_0 <| am_cn0
-- 61: TokenMouth.get(Z)I
def k_c61_0 : List (Nat × am_A) := [(0, ac_aload 0 1), (1, ac_get 2 5 3 4), (4, ac_callV 4 24 1 7 am_nohd), (7, ac_if1 (fun x => x ≤ 0) 18 10), (10, ac_aload 0 11), (11, ac_get 2 5 3 14), (14, ac_callV 4 28 1 17 am_nohd), (17, ac_iret), (18, ac_aload 0 19), (19, ac_get 2 5 0 22), (22, ac_callV 3 21 1 25 am_nohd), (25, ac_istore 2 26), (26, ac_iload 2 27), (27, ac_push (.int (-2)) 29), (29, ac_if2 (fun x y => ¬ x = y) 40 32), (32, ac_aload 0 33), (33, ac_get 2 5 0 36), (36, ac_callV 3 22 1 39 am_nohd), (39, ac_istore 2 40), (40, ac_aload 0 41), (41, ac_get 2 5 0 44), (44, ac_get 0 3 5 47), (47, ac_if1 (fun x => x = 0) 62 50), (50, ac_aload 0 51)]
theorem k_p61_0 : ∀ q ∈ k_c61_0, am_Ok k_nm D cA B0 sb H00 (k_Th B0 sb H00) prog_1_method_26_code "TokenMouth" "get" [] (some .int) q.1 q.2 :=
  am_c (ok_aload_n (k := 0) (by decide +kernel) rfl) <|
  am_c (ok_get (by decide +kernel) (by decide +kernel) rfl (by decide +kernel) kw_128) <|
  am_c (ok_callV (by decide +kernel) (by decide +kernel) kw_170 kw_17 kw_18 kw_15 (by decide +kernel) (by decide +kernel)) <|
  am_c (ok_ifle (off := 11) (by decide +kernel) (by decide +kernel)) <|
  am_c (ok_aload_n (k := 0) (by decide +kernel) rfl) <|
  am_c (ok_get (by decide +kernel) (by decide +kernel) rfl (by decide +kernel) kw_128) <|
  am_c (ok_callV (by decide +kernel) (by decide +kernel) kw_217 kw_218 kw_219 kw_216 (by decide +kernel) (by decide +kernel)) <|
  am_c (ok_iret (by decide +kernel) rfl) <|
  am_c (ok_aload_n (k := 0) (by decide +kernel) rfl) <|
  am_c (ok_get (by decide +kernel) (by decide +kernel) rfl (by decide +kernel) kw_111) <|
  am_c (ok_callV (by decide +kernel) (by decide +kernel) kw_221 kw_222 kw_223 kw_220 (by decide +kernel) (by decide +kernel)) <|
  am_c (ok_istore_n (k := 2) (by decide +kernel) rfl) <|
  am_c (ok_iload_n (k := 2) (by decide +kernel) rfl) <|
  am_c (ok_bipush (z := -2) (by decide +kernel) (by decide +kernel)) <|
  am_c (ok_icmpne (off := 11) (by decide +kernel) (by decide +kernel)) <|
  am_c (ok_aload_n (k := 0) (by decide +kernel) rfl) <|
  am_c (ok_get (by decide +kernel) (by decide +kernel) rfl (by decide +kernel) kw_111) <|
  am_c (ok_callV (by decide +kernel) (by decide +kernel) kw_225 kw_226 kw_227 kw_224 (by decide +kernel) (by decide +kernel)) <|
  am_c (ok_istore_n (k := 2) (by decide +kernel) rfl) <|
  am_c (ok_aload_n (k := 0) (by decide +kernel) rfl) <|
  am_c (ok_get (by decide +kernel) (by decide +kernel) rfl (by decide +kernel) kw_111) <|
  am_c (ok_get (by decide +kernel) (by decide +kernel) rfl (by decide +kernel) kw_228) <|
  am_c (ok_ifeq (off := 15) (by decide +kernel) (by decide +kernel)) <|
  am_c (ok_aload_n (k := 0) (by decide +kernel) rfl) <|
  am_n
def k_c61_1 : List (Nat × am_A) := [(51, ac_aload 0 52), (52, ac_get 2 5 0 55), (55, ac_get 0 3 5 58), (58, ac_callV 5 48 2 61 am_nohd), (61, ac_iret), (62, ac_iload 2 63), (63, ac_push (.int (-3)) 65), (65, ac_if2 (fun x y => ¬ x = y) 110 68), (68, ac_aload 0 69), (69, ac_get 2 5 1 72), (72, ac_aload 0 73), (73, ac_get 2 5 0 76), (76, ac_get 1 3 6 79), (79, ac_aload 0 80), (80, ac_get 2 5 0 83), (83, ac_get 1 3 7 86), (86, ac_push (.int 1) 87), (87, ac_callV 2 9 4 90 am_nohd), (90, ac_istore 3 91), (91, ac_iload 3 92), (92, ac_push (.int (-1)) 93), (93, ac_if2 (fun x y => ¬ x = y) 104 96), (96, ac_aload 0 97), (97, ac_push (.int 5) 98)]
theorem k_p61_1 : ∀ q ∈ k_c61_1, am_Ok k_nm D cA B0 sb H00 (k_Th B0 sb H00) prog_1_method_26_code "TokenMouth" "get" [] (some .int) q.1 q.2 :=
  am_c (ok_aload_n (k := 0) (by decide +kernel) rfl) <|
  am_c (ok_get (by decide +kernel) (by decide +kernel) rfl (by decide +kernel) kw_111) <|
  am_c (ok_get (by decide +kernel) (by decide +kernel) rfl (by decide +kernel) kw_228) <|
  am_c (ok_callV (by decide +kernel) (by decide +kernel) kw_230 kw_231 kw_232 kw_229 (by decide +kernel) (by decide +kernel)) <|
  am_c (ok_iret (by decide +kernel) rfl) <|
  am_c (ok_iload_n (k := 2) (by decide +kernel) rfl) <|
  am_c (ok_bipush (z := -3) (by decide +kernel) (by decide +kernel)) <|
  am_c (ok_icmpne (off := 45) (by decide +kernel) (by decide +kernel)) <|
  am_c (ok_aload_n (k := 0) (by decide +kernel) rfl) <|
  am_c (ok_get (by decide +kernel) (by decide +kernel) rfl (by decide +kernel) kw_118) <|
  am_c (ok_aload_n (k := 0) (by decide +kernel) rfl) <|
  am_c (ok_get (by decide +kernel) (by decide +kernel) rfl (by decide +kernel) kw_111) <|
  am_c (ok_get (by decide +kernel) (by decide +kernel) rfl (by decide +kernel) kw_233) <|
  am_c (ok_aload_n (k := 0) (by decide +kernel) rfl) <|
  am_c (ok_get (by decide +kernel) (by decide +kernel) rfl (by decide +kernel) kw_111) <|
  am_c (ok_get (by decide +kernel) (by decide +kernel) rfl (by decide +kernel) kw_234) <|
  am_c (ok_iconst (z := 1) (by decide +kernel) (by decide +kernel)) <|
  am_c (ok_callV (by decide +kernel) (by decide +kernel) kw_202 kw_203 kw_204 kw_201 (by decide +kernel) (by decide +kernel)) <|
  am_c (ok_istore_n (k := 3) (by decide +kernel) rfl) <|
  am_c (ok_iload_n (k := 3) (by decide +kernel) rfl) <|
  am_c (ok_iconst (z := -1) (by decide +kernel) (by decide +kernel)) <|
  am_c (ok_icmpne (off := 11) (by decide +kernel) (by decide +kernel)) <|
  am_c (ok_aload_n (k := 0) (by decide +kernel) rfl) <|
  am_c (ok_iconst (z := 5) (by decide +kernel) (by decide +kernel)) <|
  am_n
def k_c61_2 : List (Nat × am_A) := [(98, ac_callV 5 48 2 101 am_nohd), (101, ac_goto 109), (104, ac_push (.int 4096) 107), (107, ac_iload 3 108), (108, ac_ii (fun x y => x + y) 109), (109, ac_iret), (110, ac_iload 2 111), (111, ac_push (.int (-1)) 112), (112, ac_if2 (fun x y => ¬ x = y) 127 115), (115, ac_iload 1 116), (116, ac_if1 (fun x => x = 0) 127 119), (119, ac_aload 0 120), (120, ac_push (.int 3) 121), (121, ac_callV 5 48 2 124 am_nohd), (124, ac_goto 128), (127, ac_iload 2 128), (128, ac_iret)]
theorem k_p61_2 : ∀ q ∈ k_c61_2, am_Ok k_nm D cA B0 sb H00 (k_Th B0 sb H00) prog_1_method_26_code "TokenMouth" "get" [] (some .int) q.1 q.2 :=
  am_c (ok_callV (by decide +kernel) (by decide +kernel) kw_230 kw_231 kw_232 kw_229 (by decide +kernel) (by decide +kernel)) <|
  am_c (ok_goto (off := 8) (by decide +kernel) (by decide +kernel)) <|
  am_c (ok_sipush (z := 4096) (by decide +kernel) (by decide +kernel)) <|
  am_c (ok_iload_n (k := 3) (by decide +kernel) rfl) <|
  am_c (ok_iadd (by decide +kernel)) <|
  am_c (ok_iret (by decide +kernel) rfl) <|
  am_c (ok_iload_n (k := 2) (by decide +kernel) rfl) <|
  am_c (ok_iconst (z := -1) (by decide +kernel) (by decide +kernel)) <|
  am_c (ok_icmpne (off := 15) (by decide +kernel) (by decide +kernel)) <|
  am_c (ok_iload_n (k := 1) (by decide +kernel) rfl) <|
  am_c (ok_ifeq (off := 11) (by decide +kernel) (by decide +kernel)) <|
  am_c (ok_aload_n (k := 0) (by decide +kernel) rfl) <|
  am_c (ok_iconst (z := 3) (by decide +kernel) (by decide +kernel)) <|
  am_c (ok_callV (by decide +kernel) (by decide +kernel) kw_230 kw_231 kw_232 kw_229 (by decide +kernel) (by decide +kernel)) <|
  am_c (ok_goto (off := 4) (by decide +kernel) (by decide +kernel)) <|
  am_c (ok_iload_n (k := 2) (by decide +kernel) rfl) <|
  am_c (ok_iret (by decide +kernel) rfl) <|
  am_n
def k_t61 : List (Nat × List (Nat × am_A)) := [(50, k_c61_0), (97, k_c61_1), (128, k_c61_2)]
theorem k_o61 : ∀ c ∈ k_t61, ∀ q ∈ c.2, am_Ok k_nm D cA B0 sb H00 (k_Th B0 sb H00) prog_1_method_26_code "TokenMouth" "get" [] (some .int) q.1 q.2 := am_cc (P := fun pc a => am_Ok k_nm D cA B0 sb H00 (k_Th B0 sb H00) prog_1_method_26_code "TokenMouth" "get" [] (some .int) pc a) k_p61_0 <| am_cc (P := fun pc a => am_Ok k_nm D cA B0 sb H00 (k_Th B0 sb H00) prog_1_method_26_code "TokenMouth" "get" [] (some .int) pc a) k_p61_1 <| am_cc (P := fun pc a => am_Ok k_nm D cA B0 sb H00 (k_Th B0 sb H00) prog_1_method_26_code "TokenMouth" "get" [] (some .int) pc a) k_p61_2 <| am_cn0
-- 62: TokenMouth.getExpanded()I
def k_c62_0 : List (Nat × am_A) := [(0, ac_push (.int 0) 1), (1, ac_istore 1 2), (2, ac_iload 1 3), (3, ac_push (.int 200) 6), (6, ac_if2 (fun x y => y < x) 41 9), (9, ac_aload 0 10), (10, ac_push (.int 1) 11), (11, ac_callV 5 61 2 14 am_nohd), (14, ac_istore 2 15), (15, ac_aload 0 16), (16, ac_iload 2 17), (17, ac_callV 5 55 2 20 am_nohd), (20, ac_istore 3 21), (21, ac_iload 3 22), (22, ac_callS 57 1 25), (25, ac_if1 (fun x => ¬ x = 0) 30 28), (28, ac_iload 2 29), (29, ac_iret), (30, ac_aload 0 31), (31, ac_iload 3 32), (32, ac_callV 5 79 2 35 am_nohd), (35, ac_iinc 1 1 38), (38, ac_goto 2), (41, ac_aload 0 42)]
theorem k_p62_0 : ∀ q ∈ k_c62_0, am_Ok k_nm D cA B0 sb H00 (k_Th B0 sb H00) prog_1_method_27_code "TokenMouth" "getExpanded" [] (some .int) q.1 q.2 :=
  am_c (ok_iconst (z := 0) (by decide +kernel) (by decide +kernel)) <|
  am_c (ok_istore_n (k := 1) (by decide +kernel) rfl) <|
  am_c (ok_iload_n (k := 1) (by decide +kernel) rfl) <|
  am_c (ok_sipush (z := 200) (by decide +kernel) (by decide +kernel)) <|
  am_c (ok_icmpgt (off := 35) (by decide +kernel) (by decide +kernel)) <|
  am_c (ok_aload_n (k := 0) (by decide +kernel) rfl) <|
  am_c (ok_iconst (z := 1) (by decide +kernel) (by decide +kernel)) <|
  am_c (ok_callV (by decide +kernel) (by decide +kernel) kw_157 kw_158 kw_159 kw_156 (by decide +kernel) (by decide +kernel)) <|
  am_c (ok_istore_n (k := 2) (by decide +kernel) rfl) <|
  am_c (ok_aload_n (k := 0) (by decide +kernel) rfl) <|
  am_c (ok_iload_n (k := 2) (by decide +kernel) rfl) <|
  am_c (ok_callV (by decide +kernel) (by decide +kernel) kw_161 kw_162 kw_163 kw_160 (by decide +kernel) (by decide +kernel)) <|
  am_c (ok_istore_n (k := 3) (by decide +kernel) rfl) <|
  am_c (ok_iload_n (k := 3) (by decide +kernel) rfl) <|
  am_c (ok_callS (by decide +kernel) kw_236 kw_237 kw_86 kw_235 (by decide +kernel) (by decide +kernel)) <|
  am_c (ok_ifne (off := 5) (by decide +kernel) (by decide +kernel)) <|
  am_c (ok_iload_n (k := 2) (by decide +kernel) rfl) <|
  am_c (ok_iret (by decide +kernel) rfl) <|
  am_c (ok_aload_n (k := 0) (by decide +kernel) rfl) <|
  am_c (ok_iload_n (k := 3) (by decide +kernel) rfl) <|
  am_c (ok_callV (by decide +kernel) (by decide +kernel) kw_239 kw_240 kw_241 kw_238 (by decide +kernel) (by decide +kernel)) <|
  am_c (ok_iinc (z := 1) (by decide +kernel) (by decide +kernel)) <|
  am_c (ok_goto (off := -36) (by decide +kernel) (by decide +kernel)) <|
  am_c (ok_aload_n (k := 0) (by decide +kernel) rfl) <|
  am_n
def k_c62_1 : List (Nat × am_A) := [(42, ac_push (.int 5) 43), (43, ac_callV 5 48 2 46 am_nohd), (46, ac_iret)]
theorem k_p62_1 : ∀ q ∈ k_c62_1, am_Ok k_nm D cA B0 sb H00 (k_Th B0 sb H00) prog_1_method_27_code "TokenMouth" "getExpanded" [] (some .int) q.1 q.2 :=
  am_c (ok_iconst (z := 5) (by decide +kernel) (by decide +kernel)) <|
  am_c (ok_callV (by decide +kernel) (by decide +kernel) kw_230 kw_231 kw_232 kw_229 (by decide +kernel) (by decide +kernel)) <|
  am_c (ok_iret (by decide +kernel) rfl) <|
  am_n
def k_t62 : List (Nat × List (Nat × am_A)) := [(41, k_c62_0), (46, k_c62_1)]
theorem k_o62 : ∀ c ∈ k_t62, ∀ q ∈ c.2, am_Ok k_nm D cA B0 sb H00 (k_Th B0 sb H00) prog_1_method_27_code "TokenMouth" "getExpanded" [] (some .int) q.1 q.2 := am_cc (P := fun pc a => am_Ok k_nm D cA B0 sb H00 (k_Th B0 sb H00) prog_1_method_27_code "TokenMouth" "getExpanded" [] (some .int) pc a) k_p62_0 <| am_cc (P := fun pc a => am_Ok k_nm D cA B0 sb H00 (k_Th B0 sb H00) prog_1_method_27_code "TokenMouth" "getExpanded" [] (some .int) pc a) k_p62_1 <| am_cn0
-- 63: TokenMouth.putBack(I)V
def k_c63_0 : List (Nat × am_A) := [(0, ac_aload 0 1), (1, ac_get 2 5 3 4), (4, ac_iload 1 5), (5, ac_callV 4 27 2 8 am_nohd), (8, ac_if1 (fun x => ¬ x = 0) 17 11), (11, ac_aload 0 12), (12, ac_push (.int 5) 13), (13, ac_callV 5 48 2 16 am_nohd), (16, ac_pop 17), (17, ac_ret)]
theorem k_p63_0 : ∀ q ∈ k_c63_0, am_Ok k_nm D cA B0 sb H00 (k_Th B0 sb H00) prog_1_method_28_code "TokenMouth" "putBack" [] none q.1 q.2 :=
  am_c (ok_aload_n (k := 0) (by decide +kernel) rfl) <|
  am_c (ok_get (by decide +kernel) (by decide +kernel) rfl (by decide +kernel) kw_128) <|
  am_c (ok_iload_n (k := 1) (by decide +kernel) rfl) <|
  am_c (ok_callV (by decide +kernel) (by decide +kernel) kw_242 kw_21 kw_22 kw_19 (by decide +kernel) (by decide +kernel)) <|
  am_c (ok_ifne (off := 9) (by decide +kernel) (by decide +kernel)) <|
  am_c (ok_aload_n (k := 0) (by decide +kernel) rfl) <|
  am_c (ok_iconst (z := 5) (by decide +kernel) (by decide +kernel)) <|
  am_c (ok_callV (by decide +kernel) (by decide +kernel) kw_230 kw_231 kw_232 kw_229 (by decide +kernel) (by decide +kernel)) <|
  am_c (ok_pop (by decide +kernel)) <|
  am_c (ok_ret (by decide +kernel) rfl) <|
  am_n
def k_t63 : List (Nat × List (Nat × am_A)) := [(17, k_c63_0)]
theorem k_o63 : ∀ c ∈ k_t63, ∀ q ∈ c.2, am_Ok k_nm D cA B0 sb H00 (k_Th B0 sb H00) prog_1_method_28_code "TokenMouth" "putBack" [] none q.1 q.2 := am_cc (P := fun pc a => am_Ok k_nm D cA B0 sb H00 (k_Th B0 sb H00) prog_1_method_28_code "TokenMouth" "putBack" [] none pc a) k_p63_0 <| am_cn0
-- 64: TokenMouth.execute(I)V
def k_c64_0 : List (Nat × am_A) := [(0, ac_iload 1 1), (1, ac_callS 57 1 4), (4, ac_if1 (fun x => x = 0) 13 7), (7, ac_aload 0 8), (8, ac_iload 1 9), (9, ac_callV 5 79 2 12 am_nohd), (12, ac_ret), (13, ac_iload 1 14), (14, ac_callS 56 1 17), (17, ac_if1 (fun x => x = 0) 26 20), (20, ac_aload 0 21), (21, ac_iload 1 22), (22, ac_callV 5 65 2 25 am_nohd), (25, ac_ret), (26, ac_iload 1 27), (27, ac_sw [(1, 84), (2, 94), (3, 97), (4, 97), (5, 97), (6, 138), (7, 145), (8, 161), (9, 161), (10, 161), (11, 152)] 161), (84, ac_aload 0 85), (85, ac_push (.int 4096) 88), (88, ac_callV 5 66 2 91 am_nohd), (91, ac_goto 167), (94, ac_goto 167), (97, ac_aload 0 98), (98, ac_callV 5 70 1 101 am_nohd), (101, ac_istore 2 102)]
theorem k_p64_0 : ∀ q ∈ k_c64_0, am_Ok k_nm D cA B0 sb H00 (k_Th B0 sb H00) prog_1_method_29_code "TokenMouth" "execute" [] none q.1 q.2 :=
  am_c (ok_iload_n (k := 1) (by decide +kernel) rfl) <|
  am_c (ok_callS (by decide +kernel) kw_236 kw_237 kw_86 kw_235 (by decide +kernel) (by decide +kernel)) <|
  am_c (ok_ifeq (off := 9) (by decide +kernel) (by decide +kernel)) <|
  am_c (ok_aload_n (k := 0) (by decide +kernel) rfl) <|
  am_c (ok_iload_n (k := 1) (by decide +kernel) rfl) <|
  am_c (ok_callV (by decide +kernel) (by decide +kernel) kw_239 kw_240 kw_241 kw_238 (by decide +kernel) (by decide +kernel)) <|
  am_c (ok_ret (by decide +kernel) rfl) <|
  am_c (ok_iload_n (k := 1) (by decide +kernel) rfl) <|
  am_c (ok_callS (by decide +kernel) kw_214 kw_215 kw_86 kw_213 (by decide +kernel) (by decide +kernel)) <|
  am_c (ok_ifeq (off := 9) (by decide +kernel) (by decide +kernel)) <|
  am_c (ok_aload_n (k := 0) (by decide +kernel) rfl) <|
  am_c (ok_iload_n (k := 1) (by decide +kernel) rfl) <|
  am_c (ok_callV (by decide +kernel) (by decide +kernel) kw_244 kw_245 kw_246 kw_243 (by decide +kernel) (by decide +kernel)) <|
  am_c (ok_ret (by decide +kernel) rfl) <|
  am_c (ok_iload_n (k := 1) (by decide +kernel) rfl) <|
  am_c (ok_sw (dflt := 134) (lo := 1) (hi := 11) (offs := #[57, 67, 70, 70, 70, 111, 118, 134, 134, 134, 125]) (len := 57) (by decide +kernel) ⟨(by decide +kernel), (by decide +kernel), (by decide +kernel), (by decide +kernel), (by decide +kernel), (by decide +kernel), (by decide +kernel), (by decide +kernel), (by decide +kernel), (by decide +kernel), (by decide +kernel), (by decide +kernel), (by decide +kernel), (by decide +kernel), (by decide +kernel), (by decide +kernel), (by decide +kernel), (by decide +kernel), (by decide +kernel), (by decide +kernel), (by decide +kernel), (by decide +kernel), rfl⟩ (by decide +kernel) (by decide +kernel)) <|
  am_c (ok_aload_n (k := 0) (by decide +kernel) rfl) <|
  am_c (ok_sipush (z := 4096) (by decide +kernel) (by decide +kernel)) <|
  am_c (ok_callV (by decide +kernel) (by decide +kernel) kw_248 kw_249 kw_250 kw_247 (by decide +kernel) (by decide +kernel)) <|
  am_c (ok_goto (off := 76) (by decide +kernel) (by decide +kernel)) <|
  am_c (ok_goto (off := 73) (by decide +kernel) (by decide +kernel)) <|
  am_c (ok_aload_n (k := 0) (by decide +kernel) rfl) <|
  am_c (ok_callV (by decide +kernel) (by decide +kernel) kw_252 kw_253 kw_254 kw_251 (by decide +kernel) (by decide +kernel)) <|
  am_c (ok_istore_n (k := 2) (by decide +kernel) rfl) <|
  am_n
def k_c64_1 : List (Nat × am_A) := [(102, ac_aload 0 103), (103, ac_callV 5 74 1 106 am_nohd), (106, ac_aload 0 107), (107, ac_iload 1 108), (108, ac_push (.int 5) 109), (109, ac_if2 (fun x y => ¬ x = y) 116 112), (112, ac_push (.int 1) 113), (113, ac_goto 117), (116, ac_push (.int 0) 117), (117, ac_callV 5 76 2 120 am_nohd), (120, ac_aload 0 121), (121, ac_iload 2 122), (122, ac_iload 1 123), (123, ac_push (.int 4) 124), (124, ac_if2 (fun x y => ¬ x = y) 131 127), (127, ac_push (.int 1) 128), (128, ac_goto 132), (131, ac_push (.int 0) 132), (132, ac_callV 5 78 3 135 am_nohd), (135, ac_goto 167), (138, ac_aload 0 139), (139, ac_callV 5 71 1 142 am_nohd), (142, ac_goto 167), (145, ac_aload 0 146)]
theorem k_p64_1 : ∀ q ∈ k_c64_1, am_Ok k_nm D cA B0 sb H00 (k_Th B0 sb H00) prog_1_method_29_code "TokenMouth" "execute" [] none q.1 q.2 :=
  am_c (ok_aload_n (k := 0) (by decide +kernel) rfl) <|
  am_c (ok_callV (by decide +kernel) (by decide +kernel) kw_256 kw_257 kw_258 kw_255 (by decide +kernel) (by decide +kernel)) <|
  am_c (ok_aload_n (k := 0) (by decide +kernel) rfl) <|
  am_c (ok_iload_n (k := 1) (by decide +kernel) rfl) <|
  am_c (ok_iconst (z := 5) (by decide +kernel) (by decide +kernel)) <|
  am_c (ok_icmpne (off := 7) (by decide +kernel) (by decide +kernel)) <|
  am_c (ok_iconst (z := 1) (by decide +kernel) (by decide +kernel)) <|
  am_c (ok_goto (off := 4) (by decide +kernel) (by decide +kernel)) <|
  am_c (ok_iconst (z := 0) (by decide +kernel) (by decide +kernel)) <|
  am_c (ok_callV (by decide +kernel) (by decide +kernel) kw_260 kw_261 kw_262 kw_259 (by decide +kernel) (by decide +kernel)) <|
  am_c (ok_aload_n (k := 0) (by decide +kernel) rfl) <|
  am_c (ok_iload_n (k := 2) (by decide +kernel) rfl) <|
  am_c (ok_iload_n (k := 1) (by decide +kernel) rfl) <|
  am_c (ok_iconst (z := 4) (by decide +kernel) (by decide +kernel)) <|
  am_c (ok_icmpne (off := 7) (by decide +kernel) (by decide +kernel)) <|
  am_c (ok_iconst (z := 1) (by decide +kernel) (by decide +kernel)) <|
  am_c (ok_goto (off := 4) (by decide +kernel) (by decide +kernel)) <|
  am_c (ok_iconst (z := 0) (by decide +kernel) (by decide +kernel)) <|
  am_c (ok_callV (by decide +kernel) (by decide +kernel) kw_264 kw_265 kw_266 kw_263 (by decide +kernel) (by decide +kernel)) <|
  am_c (ok_goto (off := 32) (by decide +kernel) (by decide +kernel)) <|
  am_c (ok_aload_n (k := 0) (by decide +kernel) rfl) <|
  am_c (ok_callV (by decide +kernel) (by decide +kernel) kw_268 kw_269 kw_270 kw_267 (by decide +kernel) (by decide +kernel)) <|
  am_c (ok_goto (off := 25) (by decide +kernel) (by decide +kernel)) <|
  am_c (ok_aload_n (k := 0) (by decide +kernel) rfl) <|
  am_n
def k_c64_2 : List (Nat × am_A) := [(146, ac_callV 5 72 1 149 am_nohd), (149, ac_goto 167), (152, ac_aload 0 153), (153, ac_push (.int 1) 154), (154, ac_callV 5 48 2 157 am_nohd), (157, ac_pop 158), (158, ac_goto 167), (161, ac_aload 0 162), (162, ac_push (.int 2) 163), (163, ac_callV 5 48 2 166 am_nohd), (166, ac_pop 167), (167, ac_ret)]
theorem k_p64_2 : ∀ q ∈ k_c64_2, am_Ok k_nm D cA B0 sb H00 (k_Th B0 sb H00) prog_1_method_29_code "TokenMouth" "execute" [] none q.1 q.2 :=
  am_c (ok_callV (by decide +kernel) (by decide +kernel) kw_272 kw_273 kw_274 kw_271 (by decide +kernel) (by decide +kernel)) <|
  am_c (ok_goto (off := 18) (by decide +kernel) (by decide +kernel)) <|
  am_c (ok_aload_n (k := 0) (by decide +kernel) rfl) <|
  am_c (ok_iconst (z := 1) (by decide +kernel) (by decide +kernel)) <|
  am_c (ok_callV (by decide +kernel) (by decide +kernel) kw_230 kw_231 kw_232 kw_229 (by decide +kernel) (by decide +kernel)) <|
  am_c (ok_pop (by decide +kernel)) <|
  am_c (ok_goto (off := 9) (by decide +kernel) (by decide +kernel)) <|
  am_c (ok_aload_n (k := 0) (by decide +kernel) rfl) <|
  am_c (ok_iconst (z := 2) (by decide +kernel) (by decide +kernel)) <|
  am_c (ok_callV (by decide +kernel) (by decide +kernel) kw_230 kw_231 kw_232 kw_229 (by decide +kernel) (by decide +kernel)) <|
  am_c (ok_pop (by decide +kernel)) <|
  am_c (ok_ret (by decide +kernel) rfl) <|
  am_n
def k_t64 : List (Nat × List (Nat × am_A)) := [(101, k_c64_0), (145, k_c64_1), (167, k_c64_2)]
theorem k_o64 : ∀ c ∈ k_t64, ∀ q ∈ c.2, am_Ok k_nm D cA B0 sb H00 (k_Th B0 sb H00) prog_1_method_29_code "TokenMouth" "execute" [] none q.1 q.2 := am_cc (P := fun pc a => am_Ok k_nm D cA B0 sb H00 (k_Th B0 sb H00) prog_1_method_29_code "TokenMouth" "execute" [] none pc a) k_p64_0 <| am_cc (P := fun pc a => am_Ok k_nm D cA B0 sb H00 (k_Th B0 sb H00) prog_1_method_29_code "TokenMouth" "execute" [] none pc a) k_p64_1 <| am_cc (P := fun pc a => am_Ok k_nm D cA B0 sb H00 (k_Th B0 sb H00) prog_1_method_29_code "TokenMouth" "execute" [] none pc a) k_p64_2 <| am_cn0
-- 65: TokenMouth.executeCharacter(I)V
def k_c65_0 : List (Nat × am_A) := [(0, ac_iload 1 1), (1, ac_callS 53 1 4), (4, ac_istore 2 5), (5, ac_iload 2 6), (6, ac_push (.int 1) 7), (7, ac_if2 (fun x y => ¬ x = y) 29 10), (10, ac_aload 0 11), (11, ac_get 2 5 2 14), (14, ac_callV 0 2 1 17 am_nohd), (17, ac_if1 (fun x => ¬ x = 0) 46 20), (20, ac_aload 0 21), (21, ac_push (.int 5) 22), (22, ac_callV 5 48 2 25 am_nohd), (25, ac_pop 26), (26, ac_goto 46), (29, ac_iload 2 30), (30, ac_push (.int 2) 31), (31, ac_if2 (fun x y => ¬ x = y) 41 34), (34, ac_aload 0 35), (35, ac_callV 5 67 1 38 am_nohd), (38, ac_goto 46), (41, ac_aload 0 42), (42, ac_iload 1 43), (43, ac_callV 5 66 2 46 am_nohd)]
theorem k_p65_0 : ∀ q ∈ k_c65_0, am_Ok k_nm D cA B0 sb H00 (k_Th B0 sb H00) prog_1_method_30_code "TokenMouth" "executeCharacter" [] none q.1 q.2 :=
  am_c (ok_iload_n (k := 1) (by decide +kernel) rfl) <|
  am_c (ok_callS (by decide +kernel) kw_276 kw_277 kw_86 kw_275 (by decide +kernel) (by decide +kernel)) <|
  am_c (ok_istore_n (k := 2) (by decide +kernel) rfl) <|
  am_c (ok_iload_n (k := 2) (by decide +kernel) rfl) <|
  am_c (ok_iconst (z := 1) (by decide +kernel) (by decide +kernel)) <|
  am_c (ok_icmpne (off := 22) (by decide +kernel) (by decide +kernel)) <|
  am_c (ok_aload_n (k := 0) (by decide +kernel) rfl) <|
  am_c (ok_get (by decide +kernel) (by decide +kernel) rfl (by decide +kernel) kw_125) <|
  am_c (ok_callV (by decide +kernel) (by decide +kernel) kw_279 kw_280 kw_281 kw_278 (by decide +kernel) (by decide +kernel)) <|
  am_c (ok_ifne (off := 29) (by decide +kernel) (by decide +kernel)) <|
  am_c (ok_aload_n (k := 0) (by decide +kernel) rfl) <|
  am_c (ok_iconst (z := 5) (by decide +kernel) (by decide +kernel)) <|
  am_c (ok_callV (by decide +kernel) (by decide +kernel) kw_230 kw_231 kw_232 kw_229 (by decide +kernel) (by decide +kernel)) <|
  am_c (ok_pop (by decide +kernel)) <|
  am_c (ok_goto (off := 20) (by decide +kernel) (by decide +kernel)) <|
  am_c (ok_iload_n (k := 2) (by decide +kernel) rfl) <|
  am_c (ok_iconst (z := 2) (by decide +kernel) (by decide +kernel)) <|
  am_c (ok_icmpne (off := 10) (by decide +kernel) (by decide +kernel)) <|
  am_c (ok_aload_n (k := 0) (by decide +kernel) rfl) <|
  am_c (ok_callV (by decide +kernel) (by decide +kernel) kw_283 kw_284 kw_285 kw_282 (by decide +kernel) (by decide +kernel)) <|
  am_c (ok_goto (off := 8) (by decide +kernel) (by decide +kernel)) <|
  am_c (ok_aload_n (k := 0) (by decide +kernel) rfl) <|
  am_c (ok_iload_n (k := 1) (by decide +kernel) rfl) <|
  am_c (ok_callV (by decide +kernel) (by decide +kernel) kw_248 kw_249 kw_250 kw_247 (by decide +kernel) (by decide +kernel)) <|
  am_n
def k_c65_1 : List (Nat × am_A) := [(46, ac_ret)]
theorem k_p65_1 : ∀ q ∈ k_c65_1, am_Ok k_nm D cA B0 sb H00 (k_Th B0 sb H00) prog_1_method_30_code "TokenMouth" "executeCharacter" [] none q.1 q.2 :=
  am_c (ok_ret (by decide +kernel) rfl) <|
  am_n
def k_t65 : List (Nat × List (Nat × am_A)) := [(43, k_c65_0), (46, k_c65_1)]
theorem k_o65 : ∀ c ∈ k_t65, ∀ q ∈ c.2, am_Ok k_nm D cA B0 sb H00 (k_Th B0 sb H00) prog_1_method_30_code "TokenMouth" "executeCharacter" [] none q.1 q.2 := am_cc (P := fun pc a => am_Ok k_nm D cA B0 sb H00 (k_Th B0 sb H00) prog_1_method_30_code "TokenMouth" "executeCharacter" [] none pc a) k_p65_0 <| am_cc (P := fun pc a => am_Ok k_nm D cA B0 sb H00 (k_Th B0 sb H00) prog_1_method_30_code "TokenMouth" "executeCharacter" [] none pc a) k_p65_1 <| am_cn0
-- 66: TokenMouth.putOut(I)V
def k_c66_0 : List (Nat × am_A) := [(0, ac_aload 0 1), (1, ac_get 2 5 4 4), (4, ac_iload 1 5), (5, ac_callV 4 27 2 8 am_nohd), (8, ac_if1 (fun x => ¬ x = 0) 17 11), (11, ac_aload 0 12), (12, ac_push (.int 5) 13), (13, ac_callV 5 48 2 16 am_nohd), (16, ac_pop 17), (17, ac_ret)]
theorem k_p66_0 : ∀ q ∈ k_c66_0, am_Ok k_nm D cA B0 sb H00 (k_Th B0 sb H00) prog_1_method_31_code "TokenMouth" "putOut" [] none q.1 q.2 :=
  am_c (ok_aload_n (k := 0) (by decide +kernel) rfl) <|
  am_c (ok_get (by decide +kernel) (by decide +kernel) rfl (by decide +kernel) kw_129) <|
  am_c (ok_iload_n (k := 1) (by decide +kernel) rfl) <|
  am_c (ok_callV (by decide +kernel) (by decide +kernel) kw_242 kw_21 kw_22 kw_19 (by decide +kernel) (by decide +kernel)) <|
  am_c (ok_ifne (off := 9) (by decide +kernel) (by decide +kernel)) <|
  am_c (ok_aload_n (k := 0) (by decide +kernel) rfl) <|
  am_c (ok_iconst (z := 5) (by decide +kernel) (by decide +kernel)) <|
  am_c (ok_callV (by decide +kernel) (by decide +kernel) kw_230 kw_231 kw_232 kw_229 (by decide +kernel) (by decide +kernel)) <|
  am_c (ok_pop (by decide +kernel)) <|
  am_c (ok_ret (by decide +kernel) rfl) <|
  am_n
def k_t66 : List (Nat × List (Nat × am_A)) := [(17, k_c66_0)]
theorem k_o66 : ∀ c ∈ k_t66, ∀ q ∈ c.2, am_Ok k_nm D cA B0 sb H00 (k_Th B0 sb H00) prog_1_method_31_code "TokenMouth" "putOut" [] none q.1 q.2 := am_cc (P := fun pc a => am_Ok k_nm D cA B0 sb H00 (k_Th B0 sb H00) prog_1_method_31_code "TokenMouth" "putOut" [] none pc a) k_p66_0 <| am_cn0
-- 67: TokenMouth.closeGroup()V
def k_c67_0 : List (Nat × am_A) := [(0, ac_aload 0 1), (1, ac_get 2 5 2 4), (4, ac_get 2 0 0 7), (7, ac_callV 4 28 1 10 am_nohd), (10, ac_istore 1 11), (11, ac_iload 1 12), (12, ac_push (.int (-1)) 13), (13, ac_if2 (fun x y => ¬ x = y) 22 16), (16, ac_aload 0 17), (17, ac_push (.int 1) 18), (18, ac_callV 5 48 2 21 am_nohd), (21, ac_pop 22), (22, ac_aload 0 23), (23, ac_get 2 5 2 26), (26, ac_get 2 0 1 29), (29, ac_callV 4 24 1 32 am_nohd), (32, ac_istore 2 33), (33, ac_iload 2 34), (34, ac_iload 1 35), (35, ac_if2 (fun x y => x ≤ y) 68 38), (38, ac_aload 0 39), (39, ac_aload 0 40), (40, ac_get 2 5 2 43), (43, ac_get 2 0 1 46)]
theorem k_p67_0 : ∀ q ∈ k_c67_0, am_Ok k_nm D cA B0 sb H00 (k_Th B0 sb H00) prog_1_method_32_code "TokenMouth" "closeGroup" [] none q.1 q.2 :=
  am_c (ok_aload_n (k := 0) (by decide +kernel) rfl) <|
  am_c (ok_get (by decide +kernel) (by decide +kernel) rfl (by decide +kernel) kw_125) <|
  am_c (ok_get (by decide +kernel) (by decide +kernel) rfl (by decide +kernel) kw_171) <|
  am_c (ok_callV (by decide +kernel) (by decide +kernel) kw_217 kw_218 kw_219 kw_216 (by decide +kernel) (by decide +kernel)) <|
  am_c (ok_istore_n (k := 1) (by decide +kernel) rfl) <|
  am_c (ok_iload_n (k := 1) (by decide +kernel) rfl) <|
  am_c (ok_iconst (z := -1) (by decide +kernel) (by decide +kernel)) <|
  am_c (ok_icmpne (off := 9) (by decide +kernel) (by decide +kernel)) <|
  am_c (ok_aload_n (k := 0) (by decide +kernel) rfl) <|
  am_c (ok_iconst (z := 1) (by decide +kernel) (by decide +kernel)) <|
  am_c (ok_callV (by decide +kernel) (by decide +kernel) kw_230 kw_231 kw_232 kw_229 (by decide +kernel) (by decide +kernel)) <|
  am_c (ok_pop (by decide +kernel)) <|
  am_c (ok_aload_n (k := 0) (by decide +kernel) rfl) <|
  am_c (ok_get (by decide +kernel) (by decide +kernel) rfl (by decide +kernel) kw_125) <|
  am_c (ok_get (by decide +kernel) (by decide +kernel) rfl (by decide +kernel) kw_286) <|
  am_c (ok_callV (by decide +kernel) (by decide +kernel) kw_170 kw_17 kw_18 kw_15 (by decide +kernel) (by decide +kernel)) <|
  am_c (ok_istore_n (k := 2) (by decide +kernel) rfl) <|
  am_c (ok_iload_n (k := 2) (by decide +kernel) rfl) <|
  am_c (ok_iload_n (k := 1) (by decide +kernel) rfl) <|
  am_c (ok_icmple (off := 33) (by decide +kernel) (by decide +kernel)) <|
  am_c (ok_aload_n (k := 0) (by decide +kernel) rfl) <|
  am_c (ok_aload_n (k := 0) (by decide +kernel) rfl) <|
  am_c (ok_get (by decide +kernel) (by decide +kernel) rfl (by decide +kernel) kw_125) <|
  am_c (ok_get (by decide +kernel) (by decide +kernel) rfl (by decide +kernel) kw_286) <|
  am_n
def k_c67_1 : List (Nat × am_A) := [(46, ac_callV 4 28 1 49 am_nohd), (49, ac_aload 0 50), (50, ac_get 2 5 2 53), (53, ac_get 2 0 2 56), (56, ac_callV 4 28 1 59 am_nohd), (59, ac_callV 5 68 3 62 am_nohd), (62, ac_iinc 2 (-1) 65), (65, ac_goto 33), (68, ac_ret)]
theorem k_p67_1 : ∀ q ∈ k_c67_1, am_Ok k_nm D cA B0 sb H00 (k_Th B0 sb H00) prog_1_method_32_code "TokenMouth" "closeGroup" [] none q.1 q.2 :=
  am_c (ok_callV (by decide +kernel) (by decide +kernel) kw_217 kw_218 kw_219 kw_216 (by decide +kernel) (by decide +kernel)) <|
  am_c (ok_aload_n (k := 0) (by decide +kernel) rfl) <|
  am_c (ok_get (by decide +kernel) (by decide +kernel) rfl (by decide +kernel) kw_125) <|
  am_c (ok_get (by decide +kernel) (by decide +kernel) rfl (by decide +kernel) kw_287) <|
  am_c (ok_callV (by decide +kernel) (by decide +kernel) kw_217 kw_218 kw_219 kw_216 (by decide +kernel) (by decide +kernel)) <|
  am_c (ok_callV (by decide +kernel) (by decide +kernel) kw_289 kw_290 kw_291 kw_288 (by decide +kernel) (by decide +kernel)) <|
  am_c (ok_iinc (z := (-1)) (by decide +kernel) (by decide +kernel)) <|
  am_c (ok_goto (off := -32) (by decide +kernel) (by decide +kernel)) <|
  am_c (ok_ret (by decide +kernel) rfl) <|
  am_n
def k_t67 : List (Nat × List (Nat × am_A)) := [(43, k_c67_0), (68, k_c67_1)]
theorem k_o67 : ∀ c ∈ k_t67, ∀ q ∈ c.2, am_Ok k_nm D cA B0 sb H00 (k_Th B0 sb H00) prog_1_method_32_code "TokenMouth" "closeGroup" [] none q.1 q.2 := am_cc (P := fun pc a => am_Ok k_nm D cA B0 sb H00 (k_Th B0 sb H00) prog_1_method_32_code "TokenMouth" "closeGroup" [] none pc a) k_p67_0 <| am_cc (P := fun pc a => am_Ok k_nm D cA B0 sb H00 (k_Th B0 sb H00) prog_1_method_32_code "TokenMouth" "closeGroup" [] none pc a) k_p67_1 <| am_cn0
-- 68: TokenMouth.set(II)V
def k_c68_0 : List (Nat × am_A) := [(0, ac_iload 1 1), (1, ac_push (.int 4096) 4), (4, ac_if2 (fun x y => x < y) 23 7), (7, ac_aload 0 8), (8, ac_get 2 5 1 11), (11, ac_iload 1 12), (12, ac_push (.int 4096) 15), (15, ac_ii (fun x y => x - y) 16), (16, ac_iload 2 17), (17, ac_callV 2 11 3 20 am_nohd), (20, ac_goto 32), (23, ac_aload 0 24), (24, ac_get 2 5 0 27), (27, ac_iload 1 28), (28, ac_iload 2 29), (29, ac_callV 3 19 3 32 am_nohd), (32, ac_ret)]
theorem k_p68_0 : ∀ q ∈ k_c68_0, am_Ok k_nm D cA B0 sb H00 (k_Th B0 sb H00) prog_1_method_33_code "TokenMouth" "set" [] none q.1 q.2 :=
  am_c (ok_iload_n (k := 1) (by decide +kernel) rfl) <|
  am_c (ok_sipush (z := 4096) (by decide +kernel) (by decide +kernel)) <|
  am_c (ok_icmplt (off := 19) (by decide +kernel) (by decide +kernel)) <|
  am_c (ok_aload_n (k := 0) (by decide +kernel) rfl) <|
  am_c (ok_get (by decide +kernel) (by decide +kernel) rfl (by decide +kernel) kw_118) <|
  am_c (ok_iload_n (k := 1) (by decide +kernel) rfl) <|
  am_c (ok_sipush (z := 4096) (by decide +kernel) (by decide +kernel)) <|
  am_c (ok_isub (by decide +kernel)) <|
  am_c (ok_iload_n (k := 2) (by decide +kernel) rfl) <|
  am_c (ok_callV (by decide +kernel) (by decide +kernel) kw_293 kw_294 kw_295 kw_292 (by decide +kernel) (by decide +kernel)) <|
  am_c (ok_goto (off := 12) (by decide +kernel) (by decide +kernel)) <|
  am_c (ok_aload_n (k := 0) (by decide +kernel) rfl) <|
  am_c (ok_get (by decide +kernel) (by decide +kernel) rfl (by decide +kernel) kw_111) <|
  am_c (ok_iload_n (k := 1) (by decide +kernel) rfl) <|
  am_c (ok_iload_n (k := 2) (by decide +kernel) rfl) <|
  am_c (ok_callV (by decide +kernel) (by decide +kernel) kw_297 kw_298 kw_299 kw_296 (by decide +kernel) (by decide +kernel)) <|
  am_c (ok_ret (by decide +kernel) rfl) <|
  am_n
def k_t68 : List (Nat × List (Nat × am_A)) := [(32, k_c68_0)]
theorem k_o68 : ∀ c ∈ k_t68, ∀ q ∈ c.2, am_Ok k_nm D cA B0 sb H00 (k_Th B0 sb H00) prog_1_method_33_code "TokenMouth" "set" [] none q.1 q.2 := am_cc (P := fun pc a => am_Ok k_nm D cA B0 sb H00 (k_Th B0 sb H00) prog_1_method_33_code "TokenMouth" "set" [] none pc a) k_p68_0 <| am_cn0
-- 69: TokenMouth.change(II)V
def k_c69_0 : List (Nat × am_A) := [(0, ac_iload 1 1), (1, ac_push (.int 4096) 4), (4, ac_if2 (fun x y => x < y) 22 7), (7, ac_aload 0 8), (8, ac_get 2 5 1 11), (11, ac_iload 1 12), (12, ac_push (.int 4096) 15), (15, ac_ii (fun x y => x - y) 16), (16, ac_callV 2 10 2 19 am_nohd), (19, ac_goto 30), (22, ac_aload 0 23), (23, ac_get 2 5 0 26), (26, ac_iload 1 27), (27, ac_callV 3 18 2 30 am_nohd), (30, ac_istore 3 31), (31, ac_aload 0 32), (32, ac_get 2 5 2 35), (35, ac_iload 1 36), (36, ac_iload 3 37), (37, ac_callV 0 3 3 40 am_nohd), (40, ac_if1 (fun x => ¬ x = 0) 49 43), (43, ac_aload 0 44), (44, ac_push (.int 5) 45), (45, ac_callV 5 48 2 48 am_nohd)]
theorem k_p69_0 : ∀ q ∈ k_c69_0, am_Ok k_nm D cA B0 sb H00 (k_Th B0 sb H00) prog_1_method_34_code "TokenMouth" "change" [] none q.1 q.2 :=
  am_c (ok_iload_n (k := 1) (by decide +kernel) rfl) <|
  am_c (ok_sipush (z := 4096) (by decide +kernel) (by decide +kernel)) <|
  am_c (ok_icmplt (off := 18) (by decide +kernel) (by decide +kernel)) <|
  am_c (ok_aload_n (k := 0) (by decide +kernel) rfl) <|
  am_c (ok_get (by decide +kernel) (by decide +kernel) rfl (by decide +kernel) kw_118) <|
  am_c (ok_iload_n (k := 1) (by decide +kernel) rfl) <|
  am_c (ok_sipush (z := 4096) (by decide +kernel) (by decide +kernel)) <|
  am_c (ok_isub (by decide +kernel)) <|
  am_c (ok_callV (by decide +kernel) (by decide +kernel) kw_206 kw_207 kw_208 kw_205 (by decide +kernel) (by decide +kernel)) <|
  am_c (ok_goto (off := 11) (by decide +kernel) (by decide +kernel)) <|
  am_c (ok_aload_n (k := 0) (by decide +kernel) rfl) <|
  am_c (ok_get (by decide +kernel) (by decide +kernel) rfl (by decide +kernel) kw_111) <|
  am_c (ok_iload_n (k := 1) (by decide +kernel) rfl) <|
  am_c (ok_callV (by decide +kernel) (by decide +kernel) kw_177 kw_178 kw_179 kw_176 (by decide +kernel) (by decide +kernel)) <|
  am_c (ok_istore_n (k := 3) (by decide +kernel) rfl) <|
  am_c (ok_aload_n (k := 0) (by decide +kernel) rfl) <|
  am_c (ok_get (by decide +kernel) (by decide +kernel) rfl (by decide +kernel) kw_125) <|
  am_c (ok_iload_n (k := 1) (by decide +kernel) rfl) <|
  am_c (ok_iload_n (k := 3) (by decide +kernel) rfl) <|
  am_c (ok_callV (by decide +kernel) (by decide +kernel) kw_301 kw_302 kw_303 kw_300 (by decide +kernel) (by decide +kernel)) <|
  am_c (ok_ifne (off := 9) (by decide +kernel) (by decide +kernel)) <|
  am_c (ok_aload_n (k := 0) (by decide +kernel) rfl) <|
  am_c (ok_iconst (z := 5) (by decide +kernel) (by decide +kernel)) <|
  am_c (ok_callV (by decide +kernel) (by decide +kernel) kw_230 kw_231 kw_232 kw_229 (by decide +kernel) (by decide +kernel)) <|
  am_n
def k_c69_1 : List (Nat × am_A) := [(48, ac_pop 49), (49, ac_aload 0 50), (50, ac_iload 1 51), (51, ac_iload 2 52), (52, ac_callV 5 68 3 55 am_nohd), (55, ac_ret)]
theorem k_p69_1 : ∀ q ∈ k_c69_1, am_Ok k_nm D cA B0 sb H00 (k_Th B0 sb H00) prog_1_method_34_code "TokenMouth" "change" [] none q.1 q.2 :=
  am_c (ok_pop (by decide +kernel)) <|
  am_c (ok_aload_n (k := 0) (by decide +kernel) rfl) <|
  am_c (ok_iload_n (k := 1) (by decide +kernel) rfl) <|
  am_c (ok_iload_n (k := 2) (by decide +kernel) rfl) <|
  am_c (ok_callV (by decide +kernel) (by decide +kernel) kw_289 kw_290 kw_291 kw_288 (by decide +kernel) (by decide +kernel)) <|
  am_c (ok_ret (by decide +kernel) rfl) <|
  am_n
def k_t69 : List (Nat × List (Nat × am_A)) := [(45, k_c69_0), (55, k_c69_1)]
theorem k_o69 : ∀ c ∈ k_t69, ∀ q ∈ c.2, am_Ok k_nm D cA B0 sb H00 (k_Th B0 sb H00) prog_1_method_34_code "TokenMouth" "change" [] none q.1 q.2 := am_cc (P := fun pc a => am_Ok k_nm D cA B0 sb H00 (k_Th B0 sb H00) prog_1_method_34_code "TokenMouth" "change" [] none pc a) k_p69_0 <| am_cc (P := fun pc a => am_Ok k_nm D cA B0 sb H00 (k_Th B0 sb H00) prog_1_method_34_code "TokenMouth" "change" [] none pc a) k_p69_1 <| am_cn0
-- 70: TokenMouth.getName()I
def k_c70_0 : List (Nat × am_A) := [(0, ac_aload 0 1), (1, ac_push (.int 1) 2), (2, ac_callV 5 61 2 5 am_nohd), (5, ac_callS 52 1 8), (8, ac_istore 1 9), (9, ac_iload 1 10), (10, ac_push (.int 4096) 13), (13, ac_if2 (fun x y => y ≤ x) 24 16), (16, ac_aload 0 17), (17, ac_push (.int 4) 18), (18, ac_callV 5 48 2 21 am_nohd), (21, ac_goto 25), (24, ac_iload 1 25), (25, ac_iret)]
theorem k_p70_0 : ∀ q ∈ k_c70_0, am_Ok k_nm D cA B0 sb H00 (k_Th B0 sb H00) prog_1_method_35_code "TokenMouth" "getName" [] (some .int) q.1 q.2 :=
  am_c (ok_aload_n (k := 0) (by decide +kernel) rfl) <|
  am_c (ok_iconst (z := 1) (by decide +kernel) (by decide +kernel)) <|
  am_c (ok_callV (by decide +kernel) (by decide +kernel) kw_157 kw_158 kw_159 kw_156 (by decide +kernel) (by decide +kernel)) <|
  am_c (ok_callS (by decide +kernel) kw_305 kw_306 kw_86 kw_304 (by decide +kernel) (by decide +kernel)) <|
  am_c (ok_istore_n (k := 1) (by decide +kernel) rfl) <|
  am_c (ok_iload_n (k := 1) (by decide +kernel) rfl) <|
  am_c (ok_sipush (z := 4096) (by decide +kernel) (by decide +kernel)) <|
  am_c (ok_icmpge (off := 11) (by decide +kernel) (by decide +kernel)) <|
  am_c (ok_aload_n (k := 0) (by decide +kernel) rfl) <|
  am_c (ok_iconst (z := 4) (by decide +kernel) (by decide +kernel)) <|
  am_c (ok_callV (by decide +kernel) (by decide +kernel) kw_230 kw_231 kw_232 kw_229 (by decide +kernel) (by decide +kernel)) <|
  am_c (ok_goto (off := 4) (by decide +kernel) (by decide +kernel)) <|
  am_c (ok_iload_n (k := 1) (by decide +kernel) rfl) <|
  am_c (ok_iret (by decide +kernel) rfl) <|
  am_n
def k_t70 : List (Nat × List (Nat × am_A)) := [(25, k_c70_0)]
theorem k_o70 : ∀ c ∈ k_t70, ∀ q ∈ c.2, am_Ok k_nm D cA B0 sb H00 (k_Th B0 sb H00) prog_1_method_35_code "TokenMouth" "getName" [] (some .int) q.1 q.2 := am_cc (P := fun pc a => am_Ok k_nm D cA B0 sb H00 (k_Th B0 sb H00) prog_1_method_35_code "TokenMouth" "getName" [] (some .int) pc a) k_p70_0 <| am_cn0
-- 71: TokenMouth.let()V
def k_c71_0 : List (Nat × am_A) := [(0, ac_aload 0 1), (1, ac_callV 5 70 1 4 am_nohd), (4, ac_istore 1 5), (5, ac_aload 0 6), (6, ac_push (.int 1) 7), (7, ac_callV 5 61 2 10 am_nohd), (10, ac_istore 2 11), (11, ac_iload 2 12), (12, ac_push (.int 3133) 15), (15, ac_if2 (fun x y => ¬ x = y) 24 18), (18, ac_aload 0 19), (19, ac_push (.int 1) 20), (20, ac_callV 5 61 2 23 am_nohd), (23, ac_istore 2 24), (24, ac_aload 0 25), (25, ac_iload 1 26), (26, ac_aload 0 27), (27, ac_iload 2 28), (28, ac_callV 5 55 2 31 am_nohd), (31, ac_callV 5 69 3 34 am_nohd), (34, ac_ret)]
theorem k_p71_0 : ∀ q ∈ k_c71_0, am_Ok k_nm D cA B0 sb H00 (k_Th B0 sb H00) prog_1_method_36_code "TokenMouth" "let" [] none q.1 q.2 :=
  am_c (ok_aload_n (k := 0) (by decide +kernel) rfl) <|
  am_c (ok_callV (by decide +kernel) (by decide +kernel) kw_252 kw_253 kw_254 kw_251 (by decide +kernel) (by decide +kernel)) <|
  am_c (ok_istore_n (k := 1) (by decide +kernel) rfl) <|
  am_c (ok_aload_n (k := 0) (by decide +kernel) rfl) <|
  am_c (ok_iconst (z := 1) (by decide +kernel) (by decide +kernel)) <|
  am_c (ok_callV (by decide +kernel) (by decide +kernel) kw_157 kw_158 kw_159 kw_156 (by decide +kernel) (by decide +kernel)) <|
  am_c (ok_istore_n (k := 2) (by decide +kernel) rfl) <|
  am_c (ok_iload_n (k := 2) (by decide +kernel) rfl) <|
  am_c (ok_sipush (z := 3133) (by decide +kernel) (by decide +kernel)) <|
  am_c (ok_icmpne (off := 9) (by decide +kernel) (by decide +kernel)) <|
  am_c (ok_aload_n (k := 0) (by decide +kernel) rfl) <|
  am_c (ok_iconst (z := 1) (by decide +kernel) (by decide +kernel)) <|
  am_c (ok_callV (by decide +kernel) (by decide +kernel) kw_157 kw_158 kw_159 kw_156 (by decide +kernel) (by decide +kernel)) <|
  am_c (ok_istore_n (k := 2) (by decide +kernel) rfl) <|
  am_c (ok_aload_n (k := 0) (by decide +kernel) rfl) <|
  am_c (ok_iload_n (k := 1) (by decide +kernel) rfl) <|
  am_c (ok_aload_n (k := 0) (by decide +kernel) rfl) <|
  am_c (ok_iload_n (k := 2) (by decide +kernel) rfl) <|
  am_c (ok_callV (by decide +kernel) (by decide +kernel) kw_161 kw_162 kw_163 kw_160 (by decide +kernel) (by decide +kernel)) <|
  am_c (ok_callV (by decide +kernel) (by decide +kernel) kw_308 kw_309 kw_310 kw_307 (by decide +kernel) (by decide +kernel)) <|
  am_c (ok_ret (by decide +kernel) rfl) <|
  am_n
def k_t71 : List (Nat × List (Nat × am_A)) := [(34, k_c71_0)]
theorem k_o71 : ∀ c ∈ k_t71, ∀ q ∈ c.2, am_Ok k_nm D cA B0 sb H00 (k_Th B0 sb H00) prog_1_method_36_code "TokenMouth" "let" [] none q.1 q.2 := am_cc (P := fun pc a => am_Ok k_nm D cA B0 sb H00 (k_Th B0 sb H00) prog_1_method_36_code "TokenMouth" "let" [] none pc a) k_p71_0 <| am_cn0
-- 72: TokenMouth.changeCategory()V
def k_c72_0 : List (Nat × am_A) := [(0, ac_aload 0 1), (1, ac_push (.int 1) 2), (2, ac_callV 5 61 2 5 am_nohd), (5, ac_callS 52 1 8), (8, ac_istore 1 9), (9, ac_iload 1 10), (10, ac_push (.int 4096) 13), (13, ac_if2 (fun x y => y ≤ x) 24 16), (16, ac_iload 1 17), (17, ac_push (.int 255) 20), (20, ac_ii (fun x y => x &&& y) 21), (21, ac_goto 36), (24, ac_aload 0 25), (25, ac_get 2 5 1 28), (28, ac_iload 1 29), (29, ac_push (.int 4096) 32), (32, ac_ii (fun x y => x - y) 33), (33, ac_callV 2 14 2 36 am_nohd), (36, ac_istore 2 37), (37, ac_iload 2 38), (38, ac_push (.int (-1)) 39), (39, ac_if2 (fun x y => ¬ x = y) 48 42), (42, ac_aload 0 43), (43, ac_push (.int 4) 44)]
theorem k_p72_0 : ∀ q ∈ k_c72_0, am_Ok k_nm D cA B0 sb H00 (k_Th B0 sb H00) prog_1_method_37_code "TokenMouth" "changeCategory" [] none q.1 q.2 :=
  am_c (ok_aload_n (k := 0) (by decide +kernel) rfl) <|
  am_c (ok_iconst (z := 1) (by decide +kernel) (by decide +kernel)) <|
  am_c (ok_callV (by decide +kernel) (by decide +kernel) kw_157 kw_158 kw_159 kw_156 (by decide +kernel) (by decide +kernel)) <|
  am_c (ok_callS (by decide +kernel) kw_305 kw_306 kw_86 kw_304 (by decide +kernel) (by decide +kernel)) <|
  am_c (ok_istore_n (k := 1) (by decide +kernel) rfl) <|
  am_c (ok_iload_n (k := 1) (by decide +kernel) rfl) <|
  am_c (ok_sipush (z := 4096) (by decide +kernel) (by decide +kernel)) <|
  am_c (ok_icmpge (off := 11) (by decide +kernel) (by decide +kernel)) <|
  am_c (ok_iload_n (k := 1) (by decide +kernel) rfl) <|
  am_c (ok_sipush (z := 255) (by decide +kernel) (by decide +kernel)) <|
  am_c (ok_iand (by decide +kernel)) <|
  am_c (ok_goto (off := 15) (by decide +kernel) (by decide +kernel)) <|
  am_c (ok_aload_n (k := 0) (by decide +kernel) rfl) <|
  am_c (ok_get (by decide +kernel) (by decide +kernel) rfl (by decide +kernel) kw_118) <|
  am_c (ok_iload_n (k := 1) (by decide +kernel) rfl) <|
  am_c (ok_sipush (z := 4096) (by decide +kernel) (by decide +kernel)) <|
  am_c (ok_isub (by decide +kernel)) <|
  am_c (ok_callV (by decide +kernel) (by decide +kernel) kw_312 kw_313 kw_314 kw_311 (by decide +kernel) (by decide +kernel)) <|
  am_c (ok_istore_n (k := 2) (by decide +kernel) rfl) <|
  am_c (ok_iload_n (k := 2) (by decide +kernel) rfl) <|
  am_c (ok_iconst (z := -1) (by decide +kernel) (by decide +kernel)) <|
  am_c (ok_icmpne (off := 9) (by decide +kernel) (by decide +kernel)) <|
  am_c (ok_aload_n (k := 0) (by decide +kernel) rfl) <|
  am_c (ok_iconst (z := 4) (by decide +kernel) (by decide +kernel)) <|
  am_n
def k_c72_1 : List (Nat × am_A) := [(44, ac_callV 5 48 2 47 am_nohd), (47, ac_pop 48), (48, ac_aload 0 49), (49, ac_push (.int 1) 50), (50, ac_callV 5 61 2 53 am_nohd), (53, ac_callS 73 1 56), (56, ac_istore 3 57), (57, ac_iload 3 58), (58, ac_push (.int (-1)) 59), (59, ac_if2 (fun x y => ¬ x = y) 68 62), (62, ac_aload 0 63), (63, ac_push (.int 4) 64), (64, ac_callV 5 48 2 67 am_nohd), (67, ac_pop 68), (68, ac_aload 0 69), (69, ac_push (.int 0) 70), (70, ac_callV 5 61 2 73 am_nohd), (73, ac_istore 4 75), (75, ac_iload 4 77), (77, ac_callS 73 1 80), (80, ac_istore 5 82), (82, ac_iload 5 84), (84, ac_push (.int (-1)) 85), (85, ac_if2 (fun x y => x = y) 99 88)]
theorem k_p72_1 : ∀ q ∈ k_c72_1, am_Ok k_nm D cA B0 sb H00 (k_Th B0 sb H00) prog_1_method_37_code "TokenMouth" "changeCategory" [] none q.1 q.2 :=
  am_c (ok_callV (by decide +kernel) (by decide +kernel) kw_230 kw_231 kw_232 kw_229 (by decide +kernel) (by decide +kernel)) <|
  am_c (ok_pop (by decide +kernel)) <|
  am_c (ok_aload_n (k := 0) (by decide +kernel) rfl) <|
  am_c (ok_iconst (z := 1) (by decide +kernel) (by decide +kernel)) <|
  am_c (ok_callV (by decide +kernel) (by decide +kernel) kw_157 kw_158 kw_159 kw_156 (by decide +kernel) (by decide +kernel)) <|
  am_c (ok_callS (by decide +kernel) kw_316 kw_317 kw_86 kw_315 (by decide +kernel) (by decide +kernel)) <|
  am_c (ok_istore_n (k := 3) (by decide +kernel) rfl) <|
  am_c (ok_iload_n (k := 3) (by decide +kernel) rfl) <|
  am_c (ok_iconst (z := -1) (by decide +kernel) (by decide +kernel)) <|
  am_c (ok_icmpne (off := 9) (by decide +kernel) (by decide +kernel)) <|
  am_c (ok_aload_n (k := 0) (by decide +kernel) rfl) <|
  am_c (ok_iconst (z := 4) (by decide +kernel) (by decide +kernel)) <|
  am_c (ok_callV (by decide +kernel) (by decide +kernel) kw_230 kw_231 kw_232 kw_229 (by decide +kernel) (by decide +kernel)) <|
  am_c (ok_pop (by decide +kernel)) <|
  am_c (ok_aload_n (k := 0) (by decide +kernel) rfl) <|
  am_c (ok_iconst (z := 0) (by decide +kernel) (by decide +kernel)) <|
  am_c (ok_callV (by decide +kernel) (by decide +kernel) kw_157 kw_158 kw_159 kw_156 (by decide +kernel) (by decide +kernel)) <|
  am_c (ok_istore (by decide +kernel)) <|
  am_c (ok_iload (by decide +kernel)) <|
  am_c (ok_callS (by decide +kernel) kw_316 kw_317 kw_86 kw_315 (by decide +kernel) (by decide +kernel)) <|
  am_c (ok_istore (by decide +kernel)) <|
  am_c (ok_iload (by decide +kernel)) <|
  am_c (ok_iconst (z := -1) (by decide +kernel) (by decide +kernel)) <|
  am_c (ok_icmpeq (off := 14) (by decide +kernel) (by decide +kernel)) <|
  am_n
def k_c72_2 : List (Nat × am_A) := [(88, ac_push (.int 10) 90), (90, ac_iload 3 91), (91, ac_ii (fun x y => x * y) 92), (92, ac_iload 5 94), (94, ac_ii (fun x y => x + y) 95), (95, ac_istore 3 96), (96, ac_goto 111), (99, ac_iload 4 101), (101, ac_push (.int (-1)) 102), (102, ac_if2 (fun x y => x = y) 111 105), (105, ac_aload 0 106), (106, ac_iload 4 108), (108, ac_callV 5 63 2 111 am_nohd), (111, ac_iload 3 112), (112, ac_push (.int 15) 114), (114, ac_if2 (fun x y => x ≤ y) 123 117), (117, ac_aload 0 118), (118, ac_push (.int 4) 119), (119, ac_callV 5 48 2 122 am_nohd), (122, ac_pop 123), (123, ac_aload 0 124), (124, ac_iload 2 125), (125, ac_iload 3 126), (126, ac_callV 5 69 3 129 am_nohd)]
theorem k_p72_2 : ∀ q ∈ k_c72_2, am_Ok k_nm D cA B0 sb H00 (k_Th B0 sb H00) prog_1_method_37_code "TokenMouth" "changeCategory" [] none q.1 q.2 :=
  am_c (ok_bipush (z := 10) (by decide +kernel) (by decide +kernel)) <|
  am_c (ok_iload_n (k := 3) (by decide +kernel) rfl) <|
  am_c (ok_imul (by decide +kernel)) <|
  am_c (ok_iload (by decide +kernel)) <|
  am_c (ok_iadd (by decide +kernel)) <|
  am_c (ok_istore_n (k := 3) (by decide +kernel) rfl) <|
  am_c (ok_goto (off := 15) (by decide +kernel) (by decide +kernel)) <|
  am_c (ok_iload (by decide +kernel)) <|
  am_c (ok_iconst (z := -1) (by decide +kernel) (by decide +kernel)) <|
  am_c (ok_icmpeq (off := 9) (by decide +kernel) (by decide +kernel)) <|
  am_c (ok_aload_n (k := 0) (by decide +kernel) rfl) <|
  am_c (ok_iload (by decide +kernel)) <|
  am_c (ok_callV (by decide +kernel) (by decide +kernel) kw_319 kw_320 kw_321 kw_318 (by decide +kernel) (by decide +kernel)) <|
  am_c (ok_iload_n (k := 3) (by decide +kernel) rfl) <|
  am_c (ok_bipush (z := 15) (by decide +kernel) (by decide +kernel)) <|
  am_c (ok_icmple (off := 9) (by decide +kernel) (by decide +kernel)) <|
  am_c (ok_aload_n (k := 0) (by decide +kernel) rfl) <|
  am_c (ok_iconst (z := 4) (by decide +kernel) (by decide +kernel)) <|
  am_c (ok_callV (by decide +kernel) (by decide +kernel) kw_230 kw_231 kw_232 kw_229 (by decide +kernel) (by decide +kernel)) <|
  am_c (ok_pop (by decide +kernel)) <|
  am_c (ok_aload_n (k := 0) (by decide +kernel) rfl) <|
  am_c (ok_iload_n (k := 2) (by decide +kernel) rfl) <|
  am_c (ok_iload_n (k := 3) (by decide +kernel) rfl) <|
  am_c (ok_callV (by decide +kernel) (by decide +kernel) kw_308 kw_309 kw_310 kw_307 (by decide +kernel) (by decide +kernel)) <|
  am_n
def k_c72_3 : List (Nat × am_A) := [(129, ac_ret)]
theorem k_p72_3 : ∀ q ∈ k_c72_3, am_Ok k_nm D cA B0 sb H00 (k_Th B0 sb H00) prog_1_method_37_code "TokenMouth" "changeCategory" [] none q.1 q.2 :=
  am_c (ok_ret (by decide +kernel) rfl) <|
  am_n
def k_t72 : List (Nat × List (Nat × am_A)) := [(43, k_c72_0), (85, k_c72_1), (126, k_c72_2), (129, k_c72_3)]
theorem k_o72 : ∀ c ∈ k_t72, ∀ q ∈ c.2, am_Ok k_nm D cA B0 sb H00 (k_Th B0 sb H00) prog_1_method_37_code "TokenMouth" "changeCategory" [] none q.1 q.2 := am_cc (P := fun pc a => am_Ok k_nm D cA B0 sb H00 (k_Th B0 sb H00) prog_1_method_37_code "TokenMouth" "changeCategory" [] none pc a) k_p72_0 <| am_cc (P := fun pc a => am_Ok k_nm D cA B0 sb H00 (k_Th B0 sb H00) prog_1_method_37_code "TokenMouth" "changeCategory" [] none pc a) k_p72_1 <| am_cc (P := fun pc a => am_Ok k_nm D cA B0 sb H00 (k_Th B0 sb H00) prog_1_method_37_code "TokenMouth" "changeCategory" [] none pc a) k_p72_2 <| am_cc (P := fun pc a => am_Ok k_nm D cA B0 sb H00 (k_Th B0 sb H00) prog_1_method_37_code "TokenMouth" "changeCategory" [] none pc a) k_p72_3 <| am_cn0
-- 73: TokenMouth.digitOf(I)I
def k_c73_0 : List (Nat × am_A) := [(0, ac_iload 0 1), (1, ac_push (.int 3120) 4), (4, ac_ii (fun x y => x - y) 5), (5, ac_istore 1 6), (6, ac_iload 1 7), (7, ac_if1 (fun x => x < 0) 20 10), (10, ac_iload 1 11), (11, ac_push (.int 9) 13), (13, ac_if2 (fun x y => y < x) 20 16), (16, ac_iload 1 17), (17, ac_goto 21), (20, ac_push (.int (-1)) 21), (21, ac_iret)]
theorem k_p73_0 : ∀ q ∈ k_c73_0, am_Ok k_nm D cA B0 sb H00 (k_Th B0 sb H00) prog_1_method_38_code "TokenMouth" "digitOf" [] (some .int) q.1 q.2 :=
  am_c (ok_iload_n (k := 0) (by decide +kernel) rfl) <|
  am_c (ok_sipush (z := 3120) (by decide +kernel) (by decide +kernel)) <|
  am_c (ok_isub (by decide +kernel)) <|
  am_c (ok_istore_n (k := 1) (by decide +kernel) rfl) <|
  am_c (ok_iload_n (k := 1) (by decide +kernel) rfl) <|
  am_c (ok_iflt (off := 13) (by decide +kernel) (by decide +kernel)) <|
  am_c (ok_iload_n (k := 1) (by decide +kernel) rfl) <|
  am_c (ok_bipush (z := 9) (by decide +kernel) (by decide +kernel)) <|
  am_c (ok_icmpgt (off := 7) (by decide +kernel) (by decide +kernel)) <|
  am_c (ok_iload_n (k := 1) (by decide +kernel) rfl) <|
  am_c (ok_goto (off := 4) (by decide +kernel) (by decide +kernel)) <|
  am_c (ok_iconst (z := -1) (by decide +kernel) (by decide +kernel)) <|
  am_c (ok_iret (by decide +kernel) rfl) <|
  am_n
def k_t73 : List (Nat × List (Nat × am_A)) := [(21, k_c73_0)]
theorem k_o73 : ∀ c ∈ k_t73, ∀ q ∈ c.2, am_Ok k_nm D cA B0 sb H00 (k_Th B0 sb H00) prog_1_method_38_code "TokenMouth" "digitOf" [] (some .int) q.1 q.2 := am_cc (P := fun pc a => am_Ok k_nm D cA B0 sb H00 (k_Th B0 sb H00) prog_1_method_38_code "TokenMouth" "digitOf" [] (some .int) pc a) k_p73_0 <| am_cn0
-- 74: TokenMouth.readMacroText()V
def k_c74_0 : List (Nat × am_A) := [(0, ac_aload 0 1), (1, ac_get 2 5 8 4), (4, ac_callV 1 6 1 7 am_nohd), (7, ac_push (.int 0) 8), (8, ac_istore 1 9), (9, ac_iload 1 10), (10, ac_push (.int 12) 12), (12, ac_if2 (fun x y => y < x) 83 15), (15, ac_aload 0 16), (16, ac_push (.int 1) 17), (17, ac_callV 5 61 2 20 am_nohd), (20, ac_callS 52 1 23), (23, ac_istore 2 24), (24, ac_iload 2 25), (25, ac_callS 53 1 28), (28, ac_istore 3 29), (29, ac_iload 3 30), (30, ac_push (.int 1) 31), (31, ac_if2 (fun x y => ¬ x = y) 35 34), (34, ac_ret), (35, ac_iload 3 36), (36, ac_push (.int 2) 37), (37, ac_if2 (fun x y => ¬ x = y) 46 40), (40, ac_aload 0 41)]
theorem k_p74_0 : ∀ q ∈ k_c74_0, am_Ok k_nm D cA B0 sb H00 (k_Th B0 sb H00) prog_1_method_39_code "TokenMouth" "readMacroText" [] none q.1 q.2 :=
  am_c (ok_aload_n (k := 0) (by decide +kernel) rfl) <|
  am_c (ok_get (by decide +kernel) (by decide +kernel) rfl (by decide +kernel) kw_139) <|
  am_c (ok_callV (by decide +kernel) (by decide +kernel) kw_323 kw_324 kw_325 kw_322 (by decide +kernel) (by decide +kernel)) <|
  am_c (ok_iconst (z := 0) (by decide +kernel) (by decide +kernel)) <|
  am_c (ok_istore_n (k := 1) (by decide +kernel) rfl) <|
  am_c (ok_iload_n (k := 1) (by decide +kernel) rfl) <|
  am_c (ok_bipush (z := 12) (by decide +kernel) (by decide +kernel)) <|
  am_c (ok_icmpgt (off := 71) (by decide +kernel) (by decide +kernel)) <|
  am_c (ok_aload_n (k := 0) (by decide +kernel) rfl) <|
  am_c (ok_iconst (z := 1) (by decide +kernel) (by decide +kernel)) <|
  am_c (ok_callV (by decide +kernel) (by decide +kernel) kw_157 kw_158 kw_159 kw_156 (by decide +kernel) (by decide +kernel)) <|
  am_c (ok_callS (by decide +kernel) kw_305 kw_306 kw_86 kw_304 (by decide +kernel) (by decide +kernel)) <|
  am_c (ok_istore_n (k := 2) (by decide +kernel) rfl) <|
  am_c (ok_iload_n (k := 2) (by decide +kernel) rfl) <|
  am_c (ok_callS (by decide +kernel) kw_276 kw_277 kw_86 kw_275 (by decide +kernel) (by decide +kernel)) <|
  am_c (ok_istore_n (k := 3) (by decide +kernel) rfl) <|
  am_c (ok_iload_n (k := 3) (by decide +kernel) rfl) <|
  am_c (ok_iconst (z := 1) (by decide +kernel) (by decide +kernel)) <|
  am_c (ok_icmpne (off := 4) (by decide +kernel) (by decide +kernel)) <|
  am_c (ok_ret (by decide +kernel) rfl) <|
  am_c (ok_iload_n (k := 3) (by decide +kernel) rfl) <|
  am_c (ok_iconst (z := 2) (by decide +kernel) (by decide +kernel)) <|
  am_c (ok_icmpne (off := 9) (by decide +kernel) (by decide +kernel)) <|
  am_c (ok_aload_n (k := 0) (by decide +kernel) rfl) <|
  am_n
def k_c74_1 : List (Nat × am_A) := [(41, ac_push (.int 1) 42), (42, ac_callV 5 48 2 45 am_nohd), (45, ac_pop 46), (46, ac_iload 3 47), (47, ac_push (.int 6) 49), (49, ac_if2 (fun x y => ¬ x = y) 57 52), (52, ac_aload 0 53), (53, ac_callV 5 75 1 56 am_nohd), (56, ac_istore 2 57), (57, ac_aload 0 58), (58, ac_get 2 5 8 61), (61, ac_get 2 1 0 64), (64, ac_iload 2 65), (65, ac_callV 4 27 2 68 am_nohd), (68, ac_if1 (fun x => ¬ x = 0) 77 71), (71, ac_aload 0 72), (72, ac_push (.int 5) 73), (73, ac_callV 5 48 2 76 am_nohd), (76, ac_pop 77), (77, ac_iinc 1 1 80), (80, ac_goto 9), (83, ac_ret)]
theorem k_p74_1 : ∀ q ∈ k_c74_1, am_Ok k_nm D cA B0 sb H00 (k_Th B0 sb H00) prog_1_method_39_code "TokenMouth" "readMacroText" [] none q.1 q.2 :=
  am_c (ok_iconst (z := 1) (by decide +kernel) (by decide +kernel)) <|
  am_c (ok_callV (by decide +kernel) (by decide +kernel) kw_230 kw_231 kw_232 kw_229 (by decide +kernel) (by decide +kernel)) <|
  am_c (ok_pop (by decide +kernel)) <|
  am_c (ok_iload_n (k := 3) (by decide +kernel) rfl) <|
  am_c (ok_bipush (z := 6) (by decide +kernel) (by decide +kernel)) <|
  am_c (ok_icmpne (off := 8) (by decide +kernel) (by decide +kernel)) <|
  am_c (ok_aload_n (k := 0) (by decide +kernel) rfl) <|
  am_c (ok_callV (by decide +kernel) (by decide +kernel) kw_327 kw_328 kw_329 kw_326 (by decide +kernel) (by decide +kernel)) <|
  am_c (ok_istore_n (k := 2) (by decide +kernel) rfl) <|
  am_c (ok_aload_n (k := 0) (by decide +kernel) rfl) <|
  am_c (ok_get (by decide +kernel) (by decide +kernel) rfl (by decide +kernel) kw_139) <|
  am_c (ok_get (by decide +kernel) (by decide +kernel) rfl (by decide +kernel) kw_189) <|
  am_c (ok_iload_n (k := 2) (by decide +kernel) rfl) <|
  am_c (ok_callV (by decide +kernel) (by decide +kernel) kw_242 kw_21 kw_22 kw_19 (by decide +kernel) (by decide +kernel)) <|
  am_c (ok_ifne (off := 9) (by decide +kernel) (by decide +kernel)) <|
  am_c (ok_aload_n (k := 0) (by decide +kernel) rfl) <|
  am_c (ok_iconst (z := 5) (by decide +kernel) (by decide +kernel)) <|
  am_c (ok_callV (by decide +kernel) (by decide +kernel) kw_230 kw_231 kw_232 kw_229 (by decide +kernel) (by decide +kernel)) <|
  am_c (ok_pop (by decide +kernel)) <|
  am_c (ok_iinc (z := 1) (by decide +kernel) (by decide +kernel)) <|
  am_c (ok_goto (off := -71) (by decide +kernel) (by decide +kernel)) <|
  am_c (ok_ret (by decide +kernel) rfl) <|
  am_n
def k_t74 : List (Nat × List (Nat × am_A)) := [(40, k_c74_0), (83, k_c74_1)]
theorem k_o74 : ∀ c ∈ k_t74, ∀ q ∈ c.2, am_Ok k_nm D cA B0 sb H00 (k_Th B0 sb H00) prog_1_method_39_code "TokenMouth" "readMacroText" [] none q.1 q.2 := am_cc (P := fun pc a => am_Ok k_nm D cA B0 sb H00 (k_Th B0 sb H00) prog_1_method_39_code "TokenMouth" "readMacroText" [] none pc a) k_p74_0 <| am_cc (P := fun pc a => am_Ok k_nm D cA B0 sb H00 (k_Th B0 sb H00) prog_1_method_39_code "TokenMouth" "readMacroText" [] none pc a) k_p74_1 <| am_cn0
-- 75: TokenMouth.newParameter()I
def k_c75_0 : List (Nat × am_A) := [(0, ac_aload 0 1), (1, ac_push (.int 1) 2), (2, ac_callV 5 61 2 5 am_nohd), (5, ac_istore 1 6), (6, ac_aload 0 7), (7, ac_get 2 5 8 10), (10, ac_get 0 1 2 13), (13, ac_push (.int 1) 14), (14, ac_ii (fun x y => x + y) 15), (15, ac_istore 2 16), (16, ac_iload 2 17), (17, ac_push (.int 4) 18), (18, ac_if2 (fun x y => y < x) 40 21), (21, ac_iload 1 22), (22, ac_push (.int 4096) 25), (25, ac_if2 (fun x y => y ≤ x) 40 28), (28, ac_iload 1 29), (29, ac_push (.int 255) 32), (32, ac_ii (fun x y => x &&& y) 33), (33, ac_push (.int 48) 35), (35, ac_iload 2 36), (36, ac_ii (fun x y => x + y) 37), (37, ac_if2 (fun x y => x = y) 46 40), (40, ac_aload 0 41)]
theorem k_p75_0 : ∀ q ∈ k_c75_0, am_Ok k_nm D cA B0 sb H00 (k_Th B0 sb H00) prog_1_method_40_code "TokenMouth" "newParameter" [] (some .int) q.1 q.2 :=
  am_c (ok_aload_n (k := 0) (by decide +kernel) rfl) <|
  am_c (ok_iconst (z := 1) (by decide +kernel) (by decide +kernel)) <|
  am_c (ok_callV (by decide +kernel) (by decide +kernel) kw_157 kw_158 kw_159 kw_156 (by decide +kernel) (by decide +kernel)) <|
  am_c (ok_istore_n (k := 1) (by decide +kernel) rfl) <|
  am_c (ok_aload_n (k := 0) (by decide +kernel) rfl) <|
  am_c (ok_get (by decide +kernel) (by decide +kernel) rfl (by decide +kernel) kw_139) <|
  am_c (ok_get (by decide +kernel) (by decide +kernel) rfl (by decide +kernel) kw_188) <|
  am_c (ok_iconst (z := 1) (by decide +kernel) (by decide +kernel)) <|
  am_c (ok_iadd (by decide +kernel)) <|
  am_c (ok_istore_n (k := 2) (by decide +kernel) rfl) <|
  am_c (ok_iload_n (k := 2) (by decide +kernel) rfl) <|
  am_c (ok_iconst (z := 4) (by decide +kernel) (by decide +kernel)) <|
  am_c (ok_icmpgt (off := 22) (by decide +kernel) (by decide +kernel)) <|
  am_c (ok_iload_n (k := 1) (by decide +kernel) rfl) <|
  am_c (ok_sipush (z := 4096) (by decide +kernel) (by decide +kernel)) <|
  am_c (ok_icmpge (off := 15) (by decide +kernel) (by decide +kernel)) <|
  am_c (ok_iload_n (k := 1) (by decide +kernel) rfl) <|
  am_c (ok_sipush (z := 255) (by decide +kernel) (by decide +kernel)) <|
  am_c (ok_iand (by decide +kernel)) <|
  am_c (ok_bipush (z := 48) (by decide +kernel) (by decide +kernel)) <|
  am_c (ok_iload_n (k := 2) (by decide +kernel) rfl) <|
  am_c (ok_iadd (by decide +kernel)) <|
  am_c (ok_icmpeq (off := 9) (by decide +kernel) (by decide +kernel)) <|
  am_c (ok_aload_n (k := 0) (by decide +kernel) rfl) <|
  am_n
def k_c75_1 : List (Nat × am_A) := [(41, ac_push (.int 4) 42), (42, ac_callV 5 48 2 45 am_nohd), (45, ac_iret), (46, ac_aload 0 47), (47, ac_get 2 5 8 50), (50, ac_iload 2 51), (51, ac_putI 1 2 54), (54, ac_push (.int 8192) 57), (57, ac_iload 2 58), (58, ac_ii (fun x y => x + y) 59), (59, ac_iret)]
theorem k_p75_1 : ∀ q ∈ k_c75_1, am_Ok k_nm D cA B0 sb H00 (k_Th B0 sb H00) prog_1_method_40_code "TokenMouth" "newParameter" [] (some .int) q.1 q.2 :=
  am_c (ok_iconst (z := 4) (by decide +kernel) (by decide +kernel)) <|
  am_c (ok_callV (by decide +kernel) (by decide +kernel) kw_230 kw_231 kw_232 kw_229 (by decide +kernel) (by decide +kernel)) <|
  am_c (ok_iret (by decide +kernel) rfl) <|
  am_c (ok_aload_n (k := 0) (by decide +kernel) rfl) <|
  am_c (ok_get (by decide +kernel) (by decide +kernel) rfl (by decide +kernel) kw_139) <|
  am_c (ok_iload_n (k := 2) (by decide +kernel) rfl) <|
  am_c (ok_putI (by decide +kernel) (by decide +kernel) rfl (by decide +kernel) kw_188 rfl) <|
  am_c (ok_sipush (z := 8192) (by decide +kernel) (by decide +kernel)) <|
  am_c (ok_iload_n (k := 2) (by decide +kernel) rfl) <|
  am_c (ok_iadd (by decide +kernel)) <|
  am_c (ok_iret (by decide +kernel) rfl) <|
  am_n
def k_t75 : List (Nat × List (Nat × am_A)) := [(40, k_c75_0), (59, k_c75_1)]
theorem k_o75 : ∀ c ∈ k_t75, ∀ q ∈ c.2, am_Ok k_nm D cA B0 sb H00 (k_Th B0 sb H00) prog_1_method_40_code "TokenMouth" "newParameter" [] (some .int) q.1 q.2 := am_cc (P := fun pc a => am_Ok k_nm D cA B0 sb H00 (k_Th B0 sb H00) prog_1_method_40_code "TokenMouth" "newParameter" [] (some .int) pc a) k_p75_0 <| am_cc (P := fun pc a => am_Ok k_nm D cA B0 sb H00 (k_Th B0 sb H00) prog_1_method_40_code "TokenMouth" "newParameter" [] (some .int) pc a) k_p75_1 <| am_cn0
-- 76: TokenMouth.readBody(Z)V
def k_c76_0 : List (Nat × am_A) := [(0, ac_push (.int 0) 1), (1, ac_istore 2 2), (2, ac_push (.int 0) 3), (3, ac_istore 3 4), (4, ac_iload 3 5), (5, ac_push (.int 40) 7), (7, ac_if2 (fun x y => y < x) 103 10), (10, ac_iload 1 11), (11, ac_if1 (fun x => x = 0) 21 14), (14, ac_aload 0 15), (15, ac_callV 5 62 1 18 am_nohd), (18, ac_goto 26), (21, ac_aload 0 22), (22, ac_push (.int 1) 23), (23, ac_callV 5 61 2 26 am_nohd), (26, ac_callS 52 1 29), (29, ac_istore 4 31), (31, ac_iload 2 32), (32, ac_iload 4 34), (34, ac_callS 54 1 37), (37, ac_ii (fun x y => x + y) 38), (38, ac_istore 2 39), (39, ac_iload 2 40), (40, ac_if1 (fun x => 0 ≤ x) 44 43)]
theorem k_p76_0 : ∀ q ∈ k_c76_0, am_Ok k_nm D cA B0 sb H00 (k_Th B0 sb H00) prog_1_method_41_code "TokenMouth" "readBody" [] none q.1 q.2 :=
  am_c (ok_iconst (z := 0) (by decide +kernel) (by decide +kernel)) <|
  am_c (ok_istore_n (k := 2) (by decide +kernel) rfl) <|
  am_c (ok_iconst (z := 0) (by decide +kernel) (by decide +kernel)) <|
  am_c (ok_istore_n (k := 3) (by decide +kernel) rfl) <|
  am_c (ok_iload_n (k := 3) (by decide +kernel) rfl) <|
  am_c (ok_bipush (z := 40) (by decide +kernel) (by decide +kernel)) <|
  am_c (ok_icmpgt (off := 96) (by decide +kernel) (by decide +kernel)) <|
  am_c (ok_iload_n (k := 1) (by decide +kernel) rfl) <|
  am_c (ok_ifeq (off := 10) (by decide +kernel) (by decide +kernel)) <|
  am_c (ok_aload_n (k := 0) (by decide +kernel) rfl) <|
  am_c (ok_callV (by decide +kernel) (by decide +kernel) kw_331 kw_332 kw_333 kw_330 (by decide +kernel) (by decide +kernel)) <|
  am_c (ok_goto (off := 8) (by decide +kernel) (by decide +kernel)) <|
  am_c (ok_aload_n (k := 0) (by decide +kernel) rfl) <|
  am_c (ok_iconst (z := 1) (by decide +kernel) (by decide +kernel)) <|
  am_c (ok_callV (by decide +kernel) (by decide +kernel) kw_157 kw_158 kw_159 kw_156 (by decide +kernel) (by decide +kernel)) <|
  am_c (ok_callS (by decide +kernel) kw_305 kw_306 kw_86 kw_304 (by decide +kernel) (by decide +kernel)) <|
  am_c (ok_istore (by decide +kernel)) <|
  am_c (ok_iload_n (k := 2) (by decide +kernel) rfl) <|
  am_c (ok_iload (by decide +kernel)) <|
  am_c (ok_callS (by decide +kernel) kw_334 kw_99 kw_86 kw_98 (by decide +kernel) (by decide +kernel)) <|
  am_c (ok_iadd (by decide +kernel)) <|
  am_c (ok_istore_n (k := 2) (by decide +kernel) rfl) <|
  am_c (ok_iload_n (k := 2) (by decide +kernel) rfl) <|
  am_c (ok_ifge (off := 4) (by decide +kernel) (by decide +kernel)) <|
  am_n
def k_c76_1 : List (Nat × am_A) := [(43, ac_ret), (44, ac_iload 4 46), (46, ac_callS 53 1 49), (49, ac_push (.int 6) 51), (51, ac_if2 (fun x y => ¬ x = y) 76 54), (54, ac_aload 0 55), (55, ac_iload 1 56), (56, ac_if1 (fun x => x = 0) 66 59), (59, ac_aload 0 60), (60, ac_callV 5 62 1 63 am_nohd), (63, ac_goto 71), (66, ac_aload 0 67), (67, ac_push (.int 1) 68), (68, ac_callV 5 61 2 71 am_nohd), (71, ac_callV 5 77 2 74 am_nohd), (74, ac_istore 4 76), (76, ac_aload 0 77), (77, ac_get 2 5 8 80), (80, ac_get 2 1 1 83), (83, ac_iload 4 85), (85, ac_callV 4 27 2 88 am_nohd), (88, ac_if1 (fun x => ¬ x = 0) 97 91), (91, ac_aload 0 92), (92, ac_push (.int 5) 93)]
theorem k_p76_1 : ∀ q ∈ k_c76_1, am_Ok k_nm D cA B0 sb H00 (k_Th B0 sb H00) prog_1_method_41_code "TokenMouth" "readBody" [] none q.1 q.2 :=
  am_c (ok_ret (by decide +kernel) rfl) <|
  am_c (ok_iload (by decide +kernel)) <|
  am_c (ok_callS (by decide +kernel) kw_276 kw_277 kw_86 kw_275 (by decide +kernel) (by decide +kernel)) <|
  am_c (ok_bipush (z := 6) (by decide +kernel) (by decide +kernel)) <|
  am_c (ok_icmpne (off := 25) (by decide +kernel) (by decide +kernel)) <|
  am_c (ok_aload_n (k := 0) (by decide +kernel) rfl) <|
  am_c (ok_iload_n (k := 1) (by decide +kernel) rfl) <|
  am_c (ok_ifeq (off := 10) (by decide +kernel) (by decide +kernel)) <|
  am_c (ok_aload_n (k := 0) (by decide +kernel) rfl) <|
  am_c (ok_callV (by decide +kernel) (by decide +kernel) kw_331 kw_332 kw_333 kw_330 (by decide +kernel) (by decide +kernel)) <|
  am_c (ok_goto (off := 8) (by decide +kernel) (by decide +kernel)) <|
  am_c (ok_aload_n (k := 0) (by decide +kernel) rfl) <|
  am_c (ok_iconst (z := 1) (by decide +kernel) (by decide +kernel)) <|
  am_c (ok_callV (by decide +kernel) (by decide +kernel) kw_157 kw_158 kw_159 kw_156 (by decide +kernel) (by decide +kernel)) <|
  am_c (ok_callV (by decide +kernel) (by decide +kernel) kw_336 kw_337 kw_338 kw_335 (by decide +kernel) (by decide +kernel)) <|
  am_c (ok_istore (by decide +kernel)) <|
  am_c (ok_aload_n (k := 0) (by decide +kernel) rfl) <|
  am_c (ok_get (by decide +kernel) (by decide +kernel) rfl (by decide +kernel) kw_139) <|
  am_c (ok_get (by decide +kernel) (by decide +kernel) rfl (by decide +kernel) kw_190) <|
  am_c (ok_iload (by decide +kernel)) <|
  am_c (ok_callV (by decide +kernel) (by decide +kernel) kw_242 kw_21 kw_22 kw_19 (by decide +kernel) (by decide +kernel)) <|
  am_c (ok_ifne (off := 9) (by decide +kernel) (by decide +kernel)) <|
  am_c (ok_aload_n (k := 0) (by decide +kernel) rfl) <|
  am_c (ok_iconst (z := 5) (by decide +kernel) (by decide +kernel)) <|
  am_n
def k_c76_2 : List (Nat × am_A) := [(93, ac_callV 5 48 2 96 am_nohd), (96, ac_pop 97), (97, ac_iinc 3 1 100), (100, ac_goto 4), (103, ac_ret)]
theorem k_p76_2 : ∀ q ∈ k_c76_2, am_Ok k_nm D cA B0 sb H00 (k_Th B0 sb H00) prog_1_method_41_code "TokenMouth" "readBody" [] none q.1 q.2 :=
  am_c (ok_callV (by decide +kernel) (by decide +kernel) kw_230 kw_231 kw_232 kw_229 (by decide +kernel) (by decide +kernel)) <|
  am_c (ok_pop (by decide +kernel)) <|
  am_c (ok_iinc (z := 1) (by decide +kernel) (by decide +kernel)) <|
  am_c (ok_goto (off := -96) (by decide +kernel) (by decide +kernel)) <|
  am_c (ok_ret (by decide +kernel) rfl) <|
  am_n
def k_t76 : List (Nat × List (Nat × am_A)) := [(40, k_c76_0), (92, k_c76_1), (103, k_c76_2)]
theorem k_o76 : ∀ c ∈ k_t76, ∀ q ∈ c.2, am_Ok k_nm D cA B0 sb H00 (k_Th B0 sb H00) prog_1_method_41_code "TokenMouth" "readBody" [] none q.1 q.2 := am_cc (P := fun pc a => am_Ok k_nm D cA B0 sb H00 (k_Th B0 sb H00) prog_1_method_41_code "TokenMouth" "readBody" [] none pc a) k_p76_0 <| am_cc (P := fun pc a => am_Ok k_nm D cA B0 sb H00 (k_Th B0 sb H00) prog_1_method_41_code "TokenMouth" "readBody" [] none pc a) k_p76_1 <| am_cc (P := fun pc a => am_Ok k_nm D cA B0 sb H00 (k_Th B0 sb H00) prog_1_method_41_code "TokenMouth" "readBody" [] none pc a) k_p76_2 <| am_cn0
-- 77: TokenMouth.behindHash(I)I
def k_c77_0 : List (Nat × am_A) := [(0, ac_iload 1 1), (1, ac_callS 53 1 4), (4, ac_push (.int 6) 6), (6, ac_if2 (fun x y => ¬ x = y) 11 9), (9, ac_iload 1 10), (10, ac_iret), (11, ac_iload 1 12), (12, ac_push (.int 255) 15), (15, ac_ii (fun x y => x &&& y) 16), (16, ac_push (.int 48) 18), (18, ac_ii (fun x y => x - y) 19), (19, ac_istore 2 20), (20, ac_iload 1 21), (21, ac_push (.int 4096) 24), (24, ac_if2 (fun x y => y ≤ x) 43 27), (27, ac_iload 2 28), (28, ac_push (.int 1) 29), (29, ac_if2 (fun x y => x < y) 43 32), (32, ac_iload 2 33), (33, ac_aload 0 34), (34, ac_get 2 5 8 37), (37, ac_get 0 1 2 40), (40, ac_if2 (fun x y => x ≤ y) 49 43), (43, ac_aload 0 44)]
theorem k_p77_0 : ∀ q ∈ k_c77_0, am_Ok k_nm D cA B0 sb H00 (k_Th B0 sb H00) prog_1_method_42_code "TokenMouth" "behindHash" [] (some .int) q.1 q.2 :=
  am_c (ok_iload_n (k := 1) (by decide +kernel) rfl) <|
  am_c (ok_callS (by decide +kernel) kw_276 kw_277 kw_86 kw_275 (by decide +kernel) (by decide +kernel)) <|
  am_c (ok_bipush (z := 6) (by decide +kernel) (by decide +kernel)) <|
  am_c (ok_icmpne (off := 5) (by decide +kernel) (by decide +kernel)) <|
  am_c (ok_iload_n (k := 1) (by decide +kernel) rfl) <|
  am_c (ok_iret (by decide +kernel) rfl) <|
  am_c (ok_iload_n (k := 1) (by decide +kernel) rfl) <|
  am_c (ok_sipush (z := 255) (by decide +kernel) (by decide +kernel)) <|
  am_c (ok_iand (by decide +kernel)) <|
  am_c (ok_bipush (z := 48) (by decide +kernel) (by decide +kernel)) <|
  am_c (ok_isub (by decide +kernel)) <|
  am_c (ok_istore_n (k := 2) (by decide +kernel) rfl) <|
  am_c (ok_iload_n (k := 1) (by decide +kernel) rfl) <|
  am_c (ok_sipush (z := 4096) (by decide +kernel) (by decide +kernel)) <|
  am_c (ok_icmpge (off := 19) (by decide +kernel) (by decide +kernel)) <|
  am_c (ok_iload_n (k := 2) (by decide +kernel) rfl) <|
  am_c (ok_iconst (z := 1) (by decide +kernel) (by decide +kernel)) <|
  am_c (ok_icmplt (off := 14) (by decide +kernel) (by decide +kernel)) <|
  am_c (ok_iload_n (k := 2) (by decide +kernel) rfl) <|
  am_c (ok_aload_n (k := 0) (by decide +kernel) rfl) <|
  am_c (ok_get (by decide +kernel) (by decide +kernel) rfl (by decide +kernel) kw_139) <|
  am_c (ok_get (by decide +kernel) (by decide +kernel) rfl (by decide +kernel) kw_188) <|
  am_c (ok_icmple (off := 9) (by decide +kernel) (by decide +kernel)) <|
  am_c (ok_aload_n (k := 0) (by decide +kernel) rfl) <|
  am_n
def k_c77_1 : List (Nat × am_A) := [(44, ac_push (.int 4) 45), (45, ac_callV 5 48 2 48 am_nohd), (48, ac_iret), (49, ac_push (.int 8192) 52), (52, ac_iload 2 53), (53, ac_ii (fun x y => x + y) 54), (54, ac_iret)]
theorem k_p77_1 : ∀ q ∈ k_c77_1, am_Ok k_nm D cA B0 sb H00 (k_Th B0 sb H00) prog_1_method_42_code "TokenMouth" "behindHash" [] (some .int) q.1 q.2 :=
  am_c (ok_iconst (z := 4) (by decide +kernel) (by decide +kernel)) <|
  am_c (ok_callV (by decide +kernel) (by decide +kernel) kw_230 kw_231 kw_232 kw_229 (by decide +kernel) (by decide +kernel)) <|
  am_c (ok_iret (by decide +kernel) rfl) <|
  am_c (ok_sipush (z := 8192) (by decide +kernel) (by decide +kernel)) <|
  am_c (ok_iload_n (k := 2) (by decide +kernel) rfl) <|
  am_c (ok_iadd (by decide +kernel)) <|
  am_c (ok_iret (by decide +kernel) rfl) <|
  am_n
def k_t77 : List (Nat × List (Nat × am_A)) := [(43, k_c77_0), (54, k_c77_1)]
theorem k_o77 : ∀ c ∈ k_t77, ∀ q ∈ c.2, am_Ok k_nm D cA B0 sb H00 (k_Th B0 sb H00) prog_1_method_42_code "TokenMouth" "behindHash" [] (some .int) q.1 q.2 := am_cc (P := fun pc a => am_Ok k_nm D cA B0 sb H00 (k_Th B0 sb H00) prog_1_method_42_code "TokenMouth" "behindHash" [] (some .int) pc a) k_p77_0 <| am_cc (P := fun pc a => am_Ok k_nm D cA B0 sb H00 (k_Th B0 sb H00) prog_1_method_42_code "TokenMouth" "behindHash" [] (some .int) pc a) k_p77_1 <| am_cn0
-- 78: TokenMouth.define(IZ)V
def k_c78_0 : List (Nat × am_A) := [(0, ac_aload 0 1), (1, ac_get 0 5 9 4), (4, ac_if1 (fun x => x < 0) 19 7), (7, ac_aload 0 8), (8, ac_get 0 5 9 11), (11, ac_aload 0 12), (12, ac_get 2 5 7 15), (15, ac_alen 16), (16, ac_if2 (fun x y => x < y) 26 19), (19, ac_aload 0 20), (20, ac_push (.int 5) 21), (21, ac_callV 5 48 2 24 am_nohd), (24, ac_pop 25), (25, ac_ret), (26, ac_aload 0 27), (27, ac_get 2 5 7 30), (30, ac_aload 0 31), (31, ac_get 0 5 9 34), (34, ac_aald 4 35), (35, ac_astore 3 36), (36, ac_aload 0 37), (37, ac_get 2 5 7 40), (40, ac_aload 0 41), (41, ac_get 0 5 9 44)]
theorem k_p78_0 : ∀ q ∈ k_c78_0, am_Ok k_nm D cA B0 sb H00 (k_Th B0 sb H00) prog_1_method_43_code "TokenMouth" "define" [] none q.1 q.2 :=
  am_c (ok_aload_n (k := 0) (by decide +kernel) rfl) <|
  am_c (ok_get (by decide +kernel) (by decide +kernel) rfl (by decide +kernel) kw_172) <|
  am_c (ok_iflt (off := 15) (by decide +kernel) (by decide +kernel)) <|
  am_c (ok_aload_n (k := 0) (by decide +kernel) rfl) <|
  am_c (ok_get (by decide +kernel) (by decide +kernel) rfl (by decide +kernel) kw_172) <|
  am_c (ok_aload_n (k := 0) (by decide +kernel) rfl) <|
  am_c (ok_get (by decide +kernel) (by decide +kernel) rfl (by decide +kernel) kw_133) <|
  am_c (ok_alen (by decide +kernel)) <|
  am_c (ok_icmplt (off := 10) (by decide +kernel) (by decide +kernel)) <|
  am_c (ok_aload_n (k := 0) (by decide +kernel) rfl) <|
  am_c (ok_iconst (z := 5) (by decide +kernel) (by decide +kernel)) <|
  am_c (ok_callV (by decide +kernel) (by decide +kernel) kw_230 kw_231 kw_232 kw_229 (by decide +kernel) (by decide +kernel)) <|
  am_c (ok_pop (by decide +kernel)) <|
  am_c (ok_ret (by decide +kernel) rfl) <|
  am_c (ok_aload_n (k := 0) (by decide +kernel) rfl) <|
  am_c (ok_get (by decide +kernel) (by decide +kernel) rfl (by decide +kernel) kw_133) <|
  am_c (ok_aload_n (k := 0) (by decide +kernel) rfl) <|
  am_c (ok_get (by decide +kernel) (by decide +kernel) rfl (by decide +kernel) kw_172) <|
  am_c (ok_aald (by decide +kernel) (by decide +kernel)) <|
  am_c (ok_astore_n (k := 3) (by decide +kernel) rfl) <|
  am_c (ok_aload_n (k := 0) (by decide +kernel) rfl) <|
  am_c (ok_get (by decide +kernel) (by decide +kernel) rfl (by decide +kernel) kw_133) <|
  am_c (ok_aload_n (k := 0) (by decide +kernel) rfl) <|
  am_c (ok_get (by decide +kernel) (by decide +kernel) rfl (by decide +kernel) kw_172) <|
  am_n
def k_c78_1 : List (Nat × am_A) := [(44, ac_aload 0 45), (45, ac_get 2 5 8 48), (48, ac_aast 4 1 49), (49, ac_aload 0 50), (50, ac_aload 3 51), (51, ac_putR 5 8 54), (54, ac_push (.int 4096) 57), (57, ac_aload 0 58), (58, ac_get 0 5 9 61), (61, ac_ii (fun x y => x + y) 62), (62, ac_istore 4 64), (64, ac_aload 0 65), (65, ac_dup 66), (66, ac_get 0 5 9 69), (69, ac_push (.int 1) 70), (70, ac_ii (fun x y => x + y) 71), (71, ac_putI 5 9 74), (74, ac_iload 2 75), (75, ac_if1 (fun x => x = 0) 98 78), (78, ac_aload 0 79), (79, ac_get 2 5 2 82), (82, ac_iload 1 83), (83, ac_iload 4 85), (85, ac_callV 0 4 3 88 am_nohd)]
theorem k_p78_1 : ∀ q ∈ k_c78_1, am_Ok k_nm D cA B0 sb H00 (k_Th B0 sb H00) prog_1_method_43_code "TokenMouth" "define" [] none q.1 q.2 :=
  am_c (ok_aload_n (k := 0) (by decide +kernel) rfl) <|
  am_c (ok_get (by decide +kernel) (by decide +kernel) rfl (by decide +kernel) kw_139) <|
  am_c (ok_aast (by decide +kernel) (by decide +kernel) rfl (by decide +kernel)) <|
  am_c (ok_aload_n (k := 0) (by decide +kernel) rfl) <|
  am_c (ok_aload_n (k := 3) (by decide +kernel) rfl) <|
  am_c (ok_putR (by decide +kernel) (by decide +kernel) (ty := (.object "TokenMouth$Macro")) rfl rfl (fun _ => ⟨rfl, rfl⟩) (by decide +kernel) kw_139 (Or.inl rfl)) <|
  am_c (ok_sipush (z := 4096) (by decide +kernel) (by decide +kernel)) <|
  am_c (ok_aload_n (k := 0) (by decide +kernel) rfl) <|
  am_c (ok_get (by decide +kernel) (by decide +kernel) rfl (by decide +kernel) kw_172) <|
  am_c (ok_iadd (by decide +kernel)) <|
  am_c (ok_istore (by decide +kernel)) <|
  am_c (ok_aload_n (k := 0) (by decide +kernel) rfl) <|
  am_c (ok_dup (by decide +kernel)) <|
  am_c (ok_get (by decide +kernel) (by decide +kernel) rfl (by decide +kernel) kw_172) <|
  am_c (ok_iconst (z := 1) (by decide +kernel) (by decide +kernel)) <|
  am_c (ok_iadd (by decide +kernel)) <|
  am_c (ok_putI (by decide +kernel) (by decide +kernel) rfl (by decide +kernel) kw_172 rfl) <|
  am_c (ok_iload_n (k := 2) (by decide +kernel) rfl) <|
  am_c (ok_ifeq (off := 23) (by decide +kernel) (by decide +kernel)) <|
  am_c (ok_aload_n (k := 0) (by decide +kernel) rfl) <|
  am_c (ok_get (by decide +kernel) (by decide +kernel) rfl (by decide +kernel) kw_125) <|
  am_c (ok_iload_n (k := 1) (by decide +kernel) rfl) <|
  am_c (ok_iload (by decide +kernel)) <|
  am_c (ok_callV (by decide +kernel) (by decide +kernel) kw_340 kw_341 kw_342 kw_339 (by decide +kernel) (by decide +kernel)) <|
  am_n
def k_c78_2 : List (Nat × am_A) := [(88, ac_aload 0 89), (89, ac_iload 1 90), (90, ac_iload 4 92), (92, ac_callV 5 68 3 95 am_nohd), (95, ac_goto 105), (98, ac_aload 0 99), (99, ac_iload 1 100), (100, ac_iload 4 102), (102, ac_callV 5 69 3 105 am_nohd), (105, ac_ret)]
theorem k_p78_2 : ∀ q ∈ k_c78_2, am_Ok k_nm D cA B0 sb H00 (k_Th B0 sb H00) prog_1_method_43_code "TokenMouth" "define" [] none q.1 q.2 :=
  am_c (ok_aload_n (k := 0) (by decide +kernel) rfl) <|
  am_c (ok_iload_n (k := 1) (by decide +kernel) rfl) <|
  am_c (ok_iload (by decide +kernel)) <|
  am_c (ok_callV (by decide +kernel) (by decide +kernel) kw_289 kw_290 kw_291 kw_288 (by decide +kernel) (by decide +kernel)) <|
  am_c (ok_goto (off := 10) (by decide +kernel) (by decide +kernel)) <|
  am_c (ok_aload_n (k := 0) (by decide +kernel) rfl) <|
  am_c (ok_iload_n (k := 1) (by decide +kernel) rfl) <|
  am_c (ok_iload (by decide +kernel)) <|
  am_c (ok_callV (by decide +kernel) (by decide +kernel) kw_308 kw_309 kw_310 kw_307 (by decide +kernel) (by decide +kernel)) <|
  am_c (ok_ret (by decide +kernel) rfl) <|
  am_n
def k_t78 : List (Nat × List (Nat × am_A)) := [(41, k_c78_0), (85, k_c78_1), (105, k_c78_2)]
theorem k_o78 : ∀ c ∈ k_t78, ∀ q ∈ c.2, am_Ok k_nm D cA B0 sb H00 (k_Th B0 sb H00) prog_1_method_43_code "TokenMouth" "define" [] none q.1 q.2 := am_cc (P := fun pc a => am_Ok k_nm D cA B0 sb H00 (k_Th B0 sb H00) prog_1_method_43_code "TokenMouth" "define" [] none pc a) k_p78_0 <| am_cc (P := fun pc a => am_Ok k_nm D cA B0 sb H00 (k_Th B0 sb H00) prog_1_method_43_code "TokenMouth" "define" [] none pc a) k_p78_1 <| am_cc (P := fun pc a => am_Ok k_nm D cA B0 sb H00 (k_Th B0 sb H00) prog_1_method_43_code "TokenMouth" "define" [] none pc a) k_p78_2 <| am_cn0
end
