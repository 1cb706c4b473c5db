/-! tables of the methods 144 to 161; printed by wip/whole/emit.py -/
section
variable {D : va_G} {cA : Nat → ClassId} {B0 : Nat} {sb : Nat → Option Nat} {H00 : Heap}
-- 144: TokenMouthModel.step()Z
def k_c144_0 : List (Nat × am_A) := [(0, ac_aload 0 1), (1, ac_push (.int 0) 2), (2, ac_putI 6 7 5), (5, ac_aload 0 6), (6, ac_push (.int 0) 7), (7, ac_putI 6 31 10), (10, ac_aload 0 11), (11, ac_callV 6 104 1 14 am_nohd), (14, ac_istore 1 15), (15, ac_iload 1 16), (16, ac_push (.int (-1)) 17), (17, ac_if2 (fun x y => ¬ x = y) 29 20), (20, ac_aload 0 21), (21, ac_get 0 6 5 24), (24, ac_if1 (fun x => ¬ x = 0) 29 27), (27, ac_push (.int 0) 28), (28, ac_zret), (29, ac_aload 0 30), (30, ac_dup 31), (31, ac_get 0 6 6 34), (34, ac_push (.int 1) 35), (35, ac_ii (fun x y => x + y) 36), (36, ac_putI 6 6 39), (39, ac_iload 1 40)]
theorem k_p144_0 : ∀ q ∈ k_c144_0, am_Ok k_nm D cA B0 sb H00 (k_Th B0 sb H00) prog_8_method_55_code "TokenMouthModel" "step" [] (some .boolean) q.1 q.2 :=
  am_c (ok_aload_n (k := 0) (by decide +kernel) rfl) <|
  am_c (ok_iconst (z := 0) (by decide +kernel) (by decide +kernel)) <|
  am_c (ok_putI (by decide +kernel) (by decide +kernel) rfl (by decide +kernel) kw_571 rfl) <|
  am_c (ok_aload_n (k := 0) (by decide +kernel) rfl) <|
  am_c (ok_iconst (z := 0) (by decide +kernel) (by decide +kernel)) <|
  am_c (ok_putI (by decide +kernel) (by decide +kernel) rfl (by decide +kernel) kw_482 rfl) <|
  am_c (ok_aload_n (k := 0) (by decide +kernel) rfl) <|
  am_c (ok_callV (by decide +kernel) (by decide +kernel) kw_517 kw_518 kw_519 kw_516 (by decide +kernel) (by decide +kernel)) <|
  am_c (ok_istore_n (k := 1) (by decide +kernel) rfl) <|
  am_c (ok_iload_n (k := 1) (by decide +kernel) rfl) <|
  am_c (ok_iconst (z := -1) (by decide +kernel) (by decide +kernel)) <|
  am_c (ok_icmpne (off := 12) (by decide +kernel) (by decide +kernel)) <|
  am_c (ok_aload_n (k := 0) (by decide +kernel) rfl) <|
  am_c (ok_get (by decide +kernel) (by decide +kernel) rfl (by decide +kernel) kw_475) <|
  am_c (ok_ifne (off := 5) (by decide +kernel) (by decide +kernel)) <|
  am_c (ok_iconst (z := 0) (by decide +kernel) (by decide +kernel)) <|
  am_c (ok_zret (by decide +kernel) rfl) <|
  am_c (ok_aload_n (k := 0) (by decide +kernel) rfl) <|
  am_c (ok_dup (by decide +kernel)) <|
  am_c (ok_get (by decide +kernel) (by decide +kernel) rfl (by decide +kernel) kw_476) <|
  am_c (ok_iconst (z := 1) (by decide +kernel) (by decide +kernel)) <|
  am_c (ok_iadd (by decide +kernel)) <|
  am_c (ok_putI (by decide +kernel) (by decide +kernel) rfl (by decide +kernel) kw_476 rfl) <|
  am_c (ok_iload_n (k := 1) (by decide +kernel) rfl) <|
  am_n
def k_c144_1 : List (Nat × am_A) := [(40, ac_push (.int (-1)) 41), (41, ac_if2 (fun x y => x = y) 65 44), (44, ac_aload 0 45), (45, ac_iload 1 46), (46, ac_callV 6 112 2 49 am_nohd), (49, ac_if1 (fun x => x = 0) 60 52), (52, ac_aload 0 53), (53, ac_iload 1 54), (54, ac_callV 6 133 2 57 am_nohd), (57, ac_goto 65), (60, ac_aload 0 61), (61, ac_iload 1 62), (62, ac_callV 6 143 2 65 am_nohd), (65, ac_push (.int 1) 66), (66, ac_zret)]
theorem k_p144_1 : ∀ q ∈ k_c144_1, am_Ok k_nm D cA B0 sb H00 (k_Th B0 sb H00) prog_8_method_55_code "TokenMouthModel" "step" [] (some .boolean) q.1 q.2 :=
  am_c (ok_iconst (z := -1) (by decide +kernel) (by decide +kernel)) <|
  am_c (ok_icmpeq (off := 24) (by decide +kernel) (by decide +kernel)) <|
  am_c (ok_aload_n (k := 0) (by decide +kernel) rfl) <|
  am_c (ok_iload_n (k := 1) (by decide +kernel) rfl) <|
  am_c (ok_callV (by decide +kernel) (by decide +kernel) kw_577 kw_578 kw_579 kw_576 (by decide +kernel) (by decide +kernel)) <|
  am_c (ok_ifeq (off := 11) (by decide +kernel) (by decide +kernel)) <|
  am_c (ok_aload_n (k := 0) (by decide +kernel) rfl) <|
  am_c (ok_iload_n (k := 1) (by decide +kernel) rfl) <|
  am_c (ok_callV (by decide +kernel) (by decide +kernel) kw_625 kw_626 kw_627 kw_624 (by decide +kernel) (by decide +kernel)) <|
  am_c (ok_goto (off := 8) (by decide +kernel) (by decide +kernel)) <|
  am_c (ok_aload_n (k := 0) (by decide +kernel) rfl) <|
  am_c (ok_iload_n (k := 1) (by decide +kernel) rfl) <|
  am_c (ok_callV (by decide +kernel) (by decide +kernel) kw_668 kw_669 kw_670 kw_667 (by decide +kernel) (by decide +kernel)) <|
  am_c (ok_iconst (z := 1) (by decide +kernel) (by decide +kernel)) <|
  am_c (ok_zret (by decide +kernel) rfl) <|
  am_n
def k_t144 : List (Nat × List (Nat × am_A)) := [(39, k_c144_0), (66, k_c144_1)]
theorem k_o144 : ∀ c ∈ k_t144, ∀ q ∈ c.2, am_Ok k_nm D cA B0 sb H00 (k_Th B0 sb H00) prog_8_method_55_code "TokenMouthModel" "step" [] (some .boolean) q.1 q.2 := am_cc (P := fun pc a => am_Ok k_nm D cA B0 sb H00 (k_Th B0 sb H00) prog_8_method_55_code "TokenMouthModel" "step" [] (some .boolean) pc a) k_p144_0 <| am_cc (P := fun pc a => am_Ok k_nm D cA B0 sb H00 (k_Th B0 sb H00) prog_8_method_55_code "TokenMouthModel" "step" [] (some .boolean) pc a) k_p144_1 <| am_cn0
-- 145: TokenMouthModel.run(I)I
def k_c145_0 : List (Nat × am_A) := [(0, ac_aload 0 1), (1, ac_iload 1 2), (2, ac_push (.int 1) 3), (3, ac_if2 (fun x y => x < y) 13 6), (6, ac_iload 1 7), (7, ac_push (.int 500) 10), (10, ac_if2 (fun x y => x ≤ y) 17 13), (13, ac_push (.int 1) 14), (14, ac_goto 29), (17, ac_aload 0 18), (18, ac_get 0 6 5 21), (21, ac_if1 (fun x => x ≤ 0) 28 24), (24, ac_push (.int 2) 25), (25, ac_goto 29), (28, ac_push (.int 0) 29), (29, ac_putI 6 0 32), (32, ac_push (.int 0) 33), (33, ac_istore 2 34), (34, ac_iload 2 35), (35, ac_iload 1 36), (36, ac_if2 (fun x y => y ≤ x) 77 39), (39, ac_aload 0 40), (40, ac_get 0 6 0 43), (43, ac_if1 (fun x => ¬ x = 0) 77 46)]
theorem k_p145_0 : ∀ q ∈ k_c145_0, am_Ok k_nm D cA B0 sb H00 (k_Th B0 sb H00) prog_8_method_56_code "TokenMouthModel" "run" [] (some .int) q.1 q.2 :=
  am_c (ok_aload_n (k := 0) (by decide +kernel) rfl) <|
  am_c (ok_iload_n (k := 1) (by decide +kernel) rfl) <|
  am_c (ok_iconst (z := 1) (by decide +kernel) (by decide +kernel)) <|
  am_c (ok_icmplt (off := 10) (by decide +kernel) (by decide +kernel)) <|
  am_c (ok_iload_n (k := 1) (by decide +kernel) rfl) <|
  am_c (ok_sipush (z := 500) (by decide +kernel) (by decide +kernel)) <|
  am_c (ok_icmple (off := 7) (by decide +kernel) (by decide +kernel)) <|
  am_c (ok_iconst (z := 1) (by decide +kernel) (by decide +kernel)) <|
  am_c (ok_goto (off := 15) (by decide +kernel) (by decide +kernel)) <|
  am_c (ok_aload_n (k := 0) (by decide +kernel) rfl) <|
  am_c (ok_get (by decide +kernel) (by decide +kernel) rfl (by decide +kernel) kw_475) <|
  am_c (ok_ifle (off := 7) (by decide +kernel) (by decide +kernel)) <|
  am_c (ok_iconst (z := 2) (by decide +kernel) (by decide +kernel)) <|
  am_c (ok_goto (off := 4) (by decide +kernel) (by decide +kernel)) <|
  am_c (ok_iconst (z := 0) (by decide +kernel) (by decide +kernel)) <|
  am_c (ok_putI (by decide +kernel) (by decide +kernel) rfl (by decide +kernel) kw_484 rfl) <|
  am_c (ok_iconst (z := 0) (by decide +kernel) (by decide +kernel)) <|
  am_c (ok_istore_n (k := 2) (by decide +kernel) rfl) <|
  am_c (ok_iload_n (k := 2) (by decide +kernel) rfl) <|
  am_c (ok_iload_n (k := 1) (by decide +kernel) rfl) <|
  am_c (ok_icmpge (off := 41) (by decide +kernel) (by decide +kernel)) <|
  am_c (ok_aload_n (k := 0) (by decide +kernel) rfl) <|
  am_c (ok_get (by decide +kernel) (by decide +kernel) rfl (by decide +kernel) kw_484) <|
  am_c (ok_ifne (off := 34) (by decide +kernel) (by decide +kernel)) <|
  am_n
def k_c145_1 : List (Nat × am_A) := [(46, ac_aload 0 47), (47, ac_callV 6 144 1 50 am_nohd), (50, ac_if1 (fun x => ¬ x = 0) 55 53), (53, ac_push (.int 1) 54), (54, ac_iret), (55, ac_aload 0 56), (56, ac_aload 0 57), (57, ac_get 0 6 5 60), (60, ac_if1 (fun x => x ≤ 0) 67 63), (63, ac_push (.int 2) 64), (64, ac_goto 68), (67, ac_push (.int 0) 68), (68, ac_putI 6 0 71), (71, ac_iinc 2 1 74), (74, ac_goto 34), (77, ac_push (.int 0) 78), (78, ac_iret)]
theorem k_p145_1 : ∀ q ∈ k_c145_1, am_Ok k_nm D cA B0 sb H00 (k_Th B0 sb H00) prog_8_method_56_code "TokenMouthModel" "run" [] (some .int) q.1 q.2 :=
  am_c (ok_aload_n (k := 0) (by decide +kernel) rfl) <|
  am_c (ok_callV (by decide +kernel) (by decide +kernel) kw_672 kw_673 kw_674 kw_671 (by decide +kernel) (by decide +kernel)) <|
  am_c (ok_ifne (off := 5) (by decide +kernel) (by decide +kernel)) <|
  am_c (ok_iconst (z := 1) (by decide +kernel) (by decide +kernel)) <|
  am_c (ok_iret (by decide +kernel) rfl) <|
  am_c (ok_aload_n (k := 0) (by decide +kernel) rfl) <|
  am_c (ok_aload_n (k := 0) (by decide +kernel) rfl) <|
  am_c (ok_get (by decide +kernel) (by decide +kernel) rfl (by decide +kernel) kw_475) <|
  am_c (ok_ifle (off := 7) (by decide +kernel) (by decide +kernel)) <|
  am_c (ok_iconst (z := 2) (by decide +kernel) (by decide +kernel)) <|
  am_c (ok_goto (off := 4) (by decide +kernel) (by decide +kernel)) <|
  am_c (ok_iconst (z := 0) (by decide +kernel) (by decide +kernel)) <|
  am_c (ok_putI (by decide +kernel) (by decide +kernel) rfl (by decide +kernel) kw_484 rfl) <|
  am_c (ok_iinc (z := 1) (by decide +kernel) (by decide +kernel)) <|
  am_c (ok_goto (off := -40) (by decide +kernel) (by decide +kernel)) <|
  am_c (ok_iconst (z := 0) (by decide +kernel) (by decide +kernel)) <|
  am_c (ok_iret (by decide +kernel) rfl) <|
  am_n
def k_t145 : List (Nat × List (Nat × am_A)) := [(43, k_c145_0), (78, k_c145_1)]
theorem k_o145 : ∀ c ∈ k_t145, ∀ q ∈ c.2, am_Ok k_nm D cA B0 sb H00 (k_Th B0 sb H00) prog_8_method_56_code "TokenMouthModel" "run" [] (some .int) q.1 q.2 := am_cc (P := fun pc a => am_Ok k_nm D cA B0 sb H00 (k_Th B0 sb H00) prog_8_method_56_code "TokenMouthModel" "run" [] (some .int) pc a) k_p145_0 <| am_cc (P := fun pc a => am_Ok k_nm D cA B0 sb H00 (k_Th B0 sb H00) prog_8_method_56_code "TokenMouthModel" "run" [] (some .int) pc a) k_p145_1 <| am_cn0
-- 146: TokenMouthModel.fails()I
def k_c146_0 : List (Nat × am_A) := [(0, ac_aload 0 1), (1, ac_push (.int 1) 2), (2, ac_putI 6 0 5), (5, ac_push (.int 0) 6), (6, ac_iret)]
theorem k_p146_0 : ∀ q ∈ k_c146_0, am_Ok k_nm D cA B0 sb H00 (k_Th B0 sb H00) prog_8_method_57_code "TokenMouthModel" "fails" [] (some .int) q.1 q.2 :=
  am_c (ok_aload_n (k := 0) (by decide +kernel) rfl) <|
  am_c (ok_iconst (z := 1) (by decide +kernel) (by decide +kernel)) <|
  am_c (ok_putI (by decide +kernel) (by decide +kernel) rfl (by decide +kernel) kw_484 rfl) <|
  am_c (ok_iconst (z := 0) (by decide +kernel) (by decide +kernel)) <|
  am_c (ok_iret (by decide +kernel) rfl) <|
  am_n
def k_t146 : List (Nat × List (Nat × am_A)) := [(6, k_c146_0)]
theorem k_o146 : ∀ c ∈ k_t146, ∀ q ∈ c.2, am_Ok k_nm D cA B0 sb H00 (k_Th B0 sb H00) prog_8_method_57_code "TokenMouthModel" "fails" [] (some .int) q.1 q.2 := am_cc (P := fun pc a => am_Ok k_nm D cA B0 sb H00 (k_Th B0 sb H00) prog_8_method_57_code "TokenMouthModel" "fails" [] (some .int) pc a) k_p146_0 <| am_cn0
-- 147: TokenMouthModel.fault(I)I
def k_c147_0 : List (Nat × am_A) := [(0, ac_aload 0 1), (1, ac_push (.int 0) 2), (2, ac_putI 6 0 5), (5, ac_iload 1 6), (6, ac_if1 (fun x => ¬ x = 0) 16 9), (9, ac_aload 0 10), (10, ac_get 0 6 5 13), (13, ac_goto 32), (16, ac_iload 1 17), (17, ac_push (.int 1) 18), (18, ac_if2 (fun x y => ¬ x = y) 28 21), (21, ac_aload 0 22), (22, ac_get 0 6 3 25), (25, ac_goto 32), (28, ac_aload 0 29), (29, ac_callV 6 146 1 32 am_nohd), (32, ac_iret)]
theorem k_p147_0 : ∀ q ∈ k_c147_0, am_Ok k_nm D cA B0 sb H00 (k_Th B0 sb H00) prog_8_method_58_code "TokenMouthModel" "fault" [] (some .int) q.1 q.2 :=
  am_c (ok_aload_n (k := 0) (by decide +kernel) rfl) <|
  am_c (ok_iconst (z := 0) (by decide +kernel) (by decide +kernel)) <|
  am_c (ok_putI (by decide +kernel) (by decide +kernel) rfl (by decide +kernel) kw_484 rfl) <|
  am_c (ok_iload_n (k := 1) (by decide +kernel) rfl) <|
  am_c (ok_ifne (off := 10) (by decide +kernel) (by decide +kernel)) <|
  am_c (ok_aload_n (k := 0) (by decide +kernel) rfl) <|
  am_c (ok_get (by decide +kernel) (by decide +kernel) rfl (by decide +kernel) kw_475) <|
  am_c (ok_goto (off := 19) (by decide +kernel) (by decide +kernel)) <|
  am_c (ok_iload_n (k := 1) (by decide +kernel) rfl) <|
  am_c (ok_iconst (z := 1) (by decide +kernel) (by decide +kernel)) <|
  am_c (ok_icmpne (off := 10) (by decide +kernel) (by decide +kernel)) <|
  am_c (ok_aload_n (k := 0) (by decide +kernel) rfl) <|
  am_c (ok_get (by decide +kernel) (by decide +kernel) rfl (by decide +kernel) kw_473) <|
  am_c (ok_goto (off := 7) (by decide +kernel) (by decide +kernel)) <|
  am_c (ok_aload_n (k := 0) (by decide +kernel) rfl) <|
  am_c (ok_callV (by decide +kernel) (by decide +kernel) kw_676 kw_677 kw_678 kw_675 (by decide +kernel) (by decide +kernel)) <|
  am_c (ok_iret (by decide +kernel) rfl) <|
  am_n
def k_t147 : List (Nat × List (Nat × am_A)) := [(32, k_c147_0)]
theorem k_o147 : ∀ c ∈ k_t147, ∀ q ∈ c.2, am_Ok k_nm D cA B0 sb H00 (k_Th B0 sb H00) prog_8_method_58_code "TokenMouthModel" "fault" [] (some .int) q.1 q.2 := am_cc (P := fun pc a => am_Ok k_nm D cA B0 sb H00 (k_Th B0 sb H00) prog_8_method_58_code "TokenMouthModel" "fault" [] (some .int) pc a) k_p147_0 <| am_cn0
-- 148: TokenMouthModel.out(I)I
def k_c148_0 : List (Nat × am_A) := [(0, ac_aload 0 1), (1, ac_push (.int 0) 2), (2, ac_putI 6 0 5), (5, ac_iload 1 6), (6, ac_if1 (fun x => x < 0) 17 9), (9, ac_iload 1 10), (10, ac_aload 0 11), (11, ac_get 0 6 37 14), (14, ac_if2 (fun x y => x < y) 24 17), (17, ac_aload 0 18), (18, ac_callV 6 146 1 21 am_nohd), (21, ac_goto 30), (24, ac_aload 0 25), (25, ac_get 2 6 38 28), (28, ac_iload 1 29), (29, ac_iald 0 30), (30, ac_iret)]
theorem k_p148_0 : ∀ q ∈ k_c148_0, am_Ok k_nm D cA B0 sb H00 (k_Th B0 sb H00) prog_8_method_59_code "TokenMouthModel" "out" [] (some .int) q.1 q.2 :=
  am_c (ok_aload_n (k := 0) (by decide +kernel) rfl) <|
  am_c (ok_iconst (z := 0) (by decide +kernel) (by decide +kernel)) <|
  am_c (ok_putI (by decide +kernel) (by decide +kernel) rfl (by decide +kernel) kw_484 rfl) <|
  am_c (ok_iload_n (k := 1) (by decide +kernel) rfl) <|
  am_c (ok_iflt (off := 11) (by decide +kernel) (by decide +kernel)) <|
  am_c (ok_iload_n (k := 1) (by decide +kernel) rfl) <|
  am_c (ok_aload_n (k := 0) (by decide +kernel) rfl) <|
  am_c (ok_get (by decide +kernel) (by decide +kernel) rfl (by decide +kernel) kw_483) <|
  am_c (ok_icmplt (off := 10) (by decide +kernel) (by decide +kernel)) <|
  am_c (ok_aload_n (k := 0) (by decide +kernel) rfl) <|
  am_c (ok_callV (by decide +kernel) (by decide +kernel) kw_676 kw_677 kw_678 kw_675 (by decide +kernel) (by decide +kernel)) <|
  am_c (ok_goto (off := 9) (by decide +kernel) (by decide +kernel)) <|
  am_c (ok_aload_n (k := 0) (by decide +kernel) rfl) <|
  am_c (ok_get (by decide +kernel) (by decide +kernel) rfl (by decide +kernel) kw_433) <|
  am_c (ok_iload_n (k := 1) (by decide +kernel) rfl) <|
  am_c (ok_iald (by decide +kernel)) <|
  am_c (ok_iret (by decide +kernel) rfl) <|
  am_n
def k_t148 : List (Nat × List (Nat × am_A)) := [(30, k_c148_0)]
theorem k_o148 : ∀ c ∈ k_t148, ∀ q ∈ c.2, am_Ok k_nm D cA B0 sb H00 (k_Th B0 sb H00) prog_8_method_59_code "TokenMouthModel" "out" [] (some .int) q.1 q.2 := am_cc (P := fun pc a => am_Ok k_nm D cA B0 sb H00 (k_Th B0 sb H00) prog_8_method_59_code "TokenMouthModel" "out" [] (some .int) pc a) k_p148_0 <| am_cn0
-- 149: TokenMouthModel.count(I)I
def k_c149_0 : List (Nat × am_A) := [(0, ac_aload 0 1), (1, ac_push (.int 0) 2), (2, ac_putI 6 0 5), (5, ac_iload 1 6), (6, ac_if1 (fun x => ¬ x = 0) 16 9), (9, ac_aload 0 10), (10, ac_get 0 6 37 13), (13, ac_goto 68), (16, ac_iload 1 17), (17, ac_push (.int 1) 18), (18, ac_if2 (fun x y => ¬ x = y) 28 21), (21, ac_aload 0 22), (22, ac_get 0 6 6 25), (25, ac_goto 68), (28, ac_iload 1 29), (29, ac_push (.int 2) 30), (30, ac_if2 (fun x y => ¬ x = y) 40 33), (33, ac_aload 0 34), (34, ac_get 0 6 18 37), (37, ac_goto 68), (40, ac_iload 1 41), (41, ac_push (.int 3) 42), (42, ac_if2 (fun x y => ¬ x = y) 52 45), (45, ac_aload 0 46)]
theorem k_p149_0 : ∀ q ∈ k_c149_0, am_Ok k_nm D cA B0 sb H00 (k_Th B0 sb H00) prog_8_method_60_code "TokenMouthModel" "count" [] (some .int) q.1 q.2 :=
  am_c (ok_aload_n (k := 0) (by decide +kernel) rfl) <|
  am_c (ok_iconst (z := 0) (by decide +kernel) (by decide +kernel)) <|
  am_c (ok_putI (by decide +kernel) (by decide +kernel) rfl (by decide +kernel) kw_484 rfl) <|
  am_c (ok_iload_n (k := 1) (by decide +kernel) rfl) <|
  am_c (ok_ifne (off := 10) (by decide +kernel) (by decide +kernel)) <|
  am_c (ok_aload_n (k := 0) (by decide +kernel) rfl) <|
  am_c (ok_get (by decide +kernel) (by decide +kernel) rfl (by decide +kernel) kw_483) <|
  am_c (ok_goto (off := 55) (by decide +kernel) (by decide +kernel)) <|
  am_c (ok_iload_n (k := 1) (by decide +kernel) rfl) <|
  am_c (ok_iconst (z := 1) (by decide +kernel) (by decide +kernel)) <|
  am_c (ok_icmpne (off := 10) (by decide +kernel) (by decide +kernel)) <|
  am_c (ok_aload_n (k := 0) (by decide +kernel) rfl) <|
  am_c (ok_get (by decide +kernel) (by decide +kernel) rfl (by decide +kernel) kw_476) <|
  am_c (ok_goto (off := 43) (by decide +kernel) (by decide +kernel)) <|
  am_c (ok_iload_n (k := 1) (by decide +kernel) rfl) <|
  am_c (ok_iconst (z := 2) (by decide +kernel) (by decide +kernel)) <|
  am_c (ok_icmpne (off := 10) (by decide +kernel) (by decide +kernel)) <|
  am_c (ok_aload_n (k := 0) (by decide +kernel) rfl) <|
  am_c (ok_get (by decide +kernel) (by decide +kernel) rfl (by decide +kernel) kw_478) <|
  am_c (ok_goto (off := 31) (by decide +kernel) (by decide +kernel)) <|
  am_c (ok_iload_n (k := 1) (by decide +kernel) rfl) <|
  am_c (ok_iconst (z := 3) (by decide +kernel) (by decide +kernel)) <|
  am_c (ok_icmpne (off := 10) (by decide +kernel) (by decide +kernel)) <|
  am_c (ok_aload_n (k := 0) (by decide +kernel) rfl) <|
  am_n
def k_c149_1 : List (Nat × am_A) := [(46, ac_get 0 6 29 49), (49, ac_goto 68), (52, ac_iload 1 53), (53, ac_push (.int 4) 54), (54, ac_if2 (fun x y => ¬ x = y) 64 57), (57, ac_aload 0 58), (58, ac_get 0 6 23 61), (61, ac_goto 68), (64, ac_aload 0 65), (65, ac_callV 6 146 1 68 am_nohd), (68, ac_iret)]
theorem k_p149_1 : ∀ q ∈ k_c149_1, am_Ok k_nm D cA B0 sb H00 (k_Th B0 sb H00) prog_8_method_60_code "TokenMouthModel" "count" [] (some .int) q.1 q.2 :=
  am_c (ok_get (by decide +kernel) (by decide +kernel) rfl (by decide +kernel) kw_481) <|
  am_c (ok_goto (off := 19) (by decide +kernel) (by decide +kernel)) <|
  am_c (ok_iload_n (k := 1) (by decide +kernel) rfl) <|
  am_c (ok_iconst (z := 4) (by decide +kernel) (by decide +kernel)) <|
  am_c (ok_icmpne (off := 10) (by decide +kernel) (by decide +kernel)) <|
  am_c (ok_aload_n (k := 0) (by decide +kernel) rfl) <|
  am_c (ok_get (by decide +kernel) (by decide +kernel) rfl (by decide +kernel) kw_480) <|
  am_c (ok_goto (off := 7) (by decide +kernel) (by decide +kernel)) <|
  am_c (ok_aload_n (k := 0) (by decide +kernel) rfl) <|
  am_c (ok_callV (by decide +kernel) (by decide +kernel) kw_676 kw_677 kw_678 kw_675 (by decide +kernel) (by decide +kernel)) <|
  am_c (ok_iret (by decide +kernel) rfl) <|
  am_n
def k_t149 : List (Nat × List (Nat × am_A)) := [(45, k_c149_0), (68, k_c149_1)]
theorem k_o149 : ∀ c ∈ k_t149, ∀ q ∈ c.2, am_Ok k_nm D cA B0 sb H00 (k_Th B0 sb H00) prog_8_method_60_code "TokenMouthModel" "count" [] (some .int) q.1 q.2 := am_cc (P := fun pc a => am_Ok k_nm D cA B0 sb H00 (k_Th B0 sb H00) prog_8_method_60_code "TokenMouthModel" "count" [] (some .int) pc a) k_p149_0 <| am_cc (P := fun pc a => am_Ok k_nm D cA B0 sb H00 (k_Th B0 sb H00) prog_8_method_60_code "TokenMouthModel" "count" [] (some .int) pc a) k_p149_1 <| am_cn0
-- 150: TokenMouthModel.category(I)I
def k_c150_0 : List (Nat × am_A) := [(0, ac_aload 0 1), (1, ac_push (.int 0) 2), (2, ac_putI 6 0 5), (5, ac_iload 1 6), (6, ac_push (.int 10) 8), (8, ac_if2 (fun x y => x = y) 23 11), (11, ac_iload 1 12), (12, ac_push (.int 31) 14), (14, ac_if2 (fun x y => x ≤ y) 32 17), (17, ac_iload 1 18), (18, ac_push (.int 127) 20), (20, ac_if2 (fun x y => y ≤ x) 32 23), (23, ac_aload 0 24), (24, ac_get 2 6 8 27), (27, ac_iload 1 28), (28, ac_iald 0 29), (29, ac_goto 36), (32, ac_aload 0 33), (33, ac_callV 6 146 1 36 am_nohd), (36, ac_iret)]
theorem k_p150_0 : ∀ q ∈ k_c150_0, am_Ok k_nm D cA B0 sb H00 (k_Th B0 sb H00) prog_8_method_61_code "TokenMouthModel" "category" [] (some .int) q.1 q.2 :=
  am_c (ok_aload_n (k := 0) (by decide +kernel) rfl) <|
  am_c (ok_iconst (z := 0) (by decide +kernel) (by decide +kernel)) <|
  am_c (ok_putI (by decide +kernel) (by decide +kernel) rfl (by decide +kernel) kw_484 rfl) <|
  am_c (ok_iload_n (k := 1) (by decide +kernel) rfl) <|
  am_c (ok_bipush (z := 10) (by decide +kernel) (by decide +kernel)) <|
  am_c (ok_icmpeq (off := 15) (by decide +kernel) (by decide +kernel)) <|
  am_c (ok_iload_n (k := 1) (by decide +kernel) rfl) <|
  am_c (ok_bipush (z := 31) (by decide +kernel) (by decide +kernel)) <|
  am_c (ok_icmple (off := 18) (by decide +kernel) (by decide +kernel)) <|
  am_c (ok_iload_n (k := 1) (by decide +kernel) rfl) <|
  am_c (ok_bipush (z := 127) (by decide +kernel) (by decide +kernel)) <|
  am_c (ok_icmpge (off := 12) (by decide +kernel) (by decide +kernel)) <|
  am_c (ok_aload_n (k := 0) (by decide +kernel) rfl) <|
  am_c (ok_get (by decide +kernel) (by decide +kernel) rfl (by decide +kernel) kw_411) <|
  am_c (ok_iload_n (k := 1) (by decide +kernel) rfl) <|
  am_c (ok_iald (by decide +kernel)) <|
  am_c (ok_goto (off := 7) (by decide +kernel) (by decide +kernel)) <|
  am_c (ok_aload_n (k := 0) (by decide +kernel) rfl) <|
  am_c (ok_callV (by decide +kernel) (by decide +kernel) kw_676 kw_677 kw_678 kw_675 (by decide +kernel) (by decide +kernel)) <|
  am_c (ok_iret (by decide +kernel) rfl) <|
  am_n
def k_t150 : List (Nat × List (Nat × am_A)) := [(36, k_c150_0)]
theorem k_o150 : ∀ c ∈ k_t150, ∀ q ∈ c.2, am_Ok k_nm D cA B0 sb H00 (k_Th B0 sb H00) prog_8_method_61_code "TokenMouthModel" "category" [] (some .int) q.1 q.2 := am_cc (P := fun pc a => am_Ok k_nm D cA B0 sb H00 (k_Th B0 sb H00) prog_8_method_61_code "TokenMouthModel" "category" [] (some .int) pc a) k_p150_0 <| am_cn0
-- 151: TokenMouthModel.lookUp(JZ)I
def k_c151_0 : List (Nat × am_A) := [(0, ac_aload 0 1), (1, ac_push (.int 0) 2), (2, ac_putI 6 16 5), (5, ac_push (.int 1) 6), (6, ac_istore 4 8), (8, ac_push (.int 7) 10), (10, ac_istore 5 12), (12, ac_iload 5 14), (14, ac_if1 (fun x => x < 0) 73 17), (17, ac_lload 1 18), (18, ac_push (.int 8) 20), (20, ac_iload 5 22), (22, ac_ii (fun x y => x * y) 23), (23, ac_li (fun x y => x >>> (y.toInt64 &&& 63)) 24), (24, ac_push (.long 255) 27), (27, ac_ll (fun x y => x &&& y) 28), (28, ac_l2 (fun x => x.toInt32) 29), (29, ac_istore 6 31), (31, ac_iload 4 33), (33, ac_if1 (fun x => x = 0) 53 36), (36, ac_iload 6 38), (38, ac_if1 (fun x => x = 0) 49 41), (41, ac_iload 6 43), (43, ac_callS 94 1 46)]
theorem k_p151_0 : ∀ q ∈ k_c151_0, am_Ok k_nm D cA B0 sb H00 (k_Th B0 sb H00) prog_8_method_62_code "TokenMouthModel" "lookUp" [] (some .int) q.1 q.2 :=
  am_c (ok_aload_n (k := 0) (by decide +kernel) rfl) <|
  am_c (ok_iconst (z := 0) (by decide +kernel) (by decide +kernel)) <|
  am_c (ok_putI (by decide +kernel) (by decide +kernel) rfl (by decide +kernel) kw_491 rfl) <|
  am_c (ok_iconst (z := 1) (by decide +kernel) (by decide +kernel)) <|
  am_c (ok_istore (by decide +kernel)) <|
  am_c (ok_bipush (z := 7) (by decide +kernel) (by decide +kernel)) <|
  am_c (ok_istore (by decide +kernel)) <|
  am_c (ok_iload (by decide +kernel)) <|
  am_c (ok_iflt (off := 59) (by decide +kernel) (by decide +kernel)) <|
  am_c (ok_lload_n (k := 1) (by decide +kernel) rfl) <|
  am_c (ok_bipush (z := 8) (by decide +kernel) (by decide +kernel)) <|
  am_c (ok_iload (by decide +kernel)) <|
  am_c (ok_imul (by decide +kernel)) <|
  am_c (ok_lshr (by decide +kernel)) <|
  am_c (ok_ldc2 (by decide +kernel) kw_485) <|
  am_c (ok_land (by decide +kernel)) <|
  am_c (ok_l2i (by decide +kernel)) <|
  am_c (ok_istore (by decide +kernel)) <|
  am_c (ok_iload (by decide +kernel)) <|
  am_c (ok_ifeq (off := 20) (by decide +kernel) (by decide +kernel)) <|
  am_c (ok_iload (by decide +kernel)) <|
  am_c (ok_ifeq (off := 11) (by decide +kernel) (by decide +kernel)) <|
  am_c (ok_iload (by decide +kernel)) <|
  am_c (ok_callS (by decide +kernel) kw_488 kw_489 kw_487 kw_486 (by decide +kernel) (by decide +kernel)) <|
  am_n
def k_c151_1 : List (Nat × am_A) := [(46, ac_if1 (fun x => x = 0) 53 49), (49, ac_push (.int 1) 50), (50, ac_goto 54), (53, ac_push (.int 0) 54), (54, ac_istore 4 56), (56, ac_iload 6 58), (58, ac_if1 (fun x => x ≤ 0) 67 61), (61, ac_aload 0 62), (62, ac_iload 6 64), (64, ac_callV 6 99 2 67 am_nohd), (67, ac_iinc 5 (-1) 70), (70, ac_goto 12), (73, ac_iload 4 75), (75, ac_if1 (fun x => x = 0) 97 78), (78, ac_aload 0 79), (79, ac_get 0 6 16 82), (82, ac_if1 (fun x => x = 0) 97 85), (85, ac_iload 3 86), (86, ac_if1 (fun x => x = 0) 99 89), (89, ac_aload 0 90), (90, ac_get 0 6 16 93), (93, ac_push (.int 1) 94), (94, ac_if2 (fun x y => x ≤ y) 99 97), (97, ac_push (.int (-1)) 98)]
theorem k_p151_1 : ∀ q ∈ k_c151_1, am_Ok k_nm D cA B0 sb H00 (k_Th B0 sb H00) prog_8_method_62_code "TokenMouthModel" "lookUp" [] (some .int) q.1 q.2 :=
  am_c (ok_ifeq (off := 7) (by decide +kernel) (by decide +kernel)) <|
  am_c (ok_iconst (z := 1) (by decide +kernel) (by decide +kernel)) <|
  am_c (ok_goto (off := 4) (by decide +kernel) (by decide +kernel)) <|
  am_c (ok_iconst (z := 0) (by decide +kernel) (by decide +kernel)) <|
  am_c (ok_istore (by decide +kernel)) <|
  am_c (ok_iload (by decide +kernel)) <|
  am_c (ok_ifle (off := 9) (by decide +kernel) (by decide +kernel)) <|
  am_c (ok_aload_n (k := 0) (by decide +kernel) rfl) <|
  am_c (ok_iload (by decide +kernel)) <|
  am_c (ok_callV (by decide +kernel) (by decide +kernel) kw_501 kw_502 kw_503 kw_500 (by decide +kernel) (by decide +kernel)) <|
  am_c (ok_iinc (z := (-1)) (by decide +kernel) (by decide +kernel)) <|
  am_c (ok_goto (off := -58) (by decide +kernel) (by decide +kernel)) <|
  am_c (ok_iload (by decide +kernel)) <|
  am_c (ok_ifeq (off := 22) (by decide +kernel) (by decide +kernel)) <|
  am_c (ok_aload_n (k := 0) (by decide +kernel) rfl) <|
  am_c (ok_get (by decide +kernel) (by decide +kernel) rfl (by decide +kernel) kw_491) <|
  am_c (ok_ifeq (off := 15) (by decide +kernel) (by decide +kernel)) <|
  am_c (ok_iload_n (k := 3) (by decide +kernel) rfl) <|
  am_c (ok_ifeq (off := 13) (by decide +kernel) (by decide +kernel)) <|
  am_c (ok_aload_n (k := 0) (by decide +kernel) rfl) <|
  am_c (ok_get (by decide +kernel) (by decide +kernel) rfl (by decide +kernel) kw_491) <|
  am_c (ok_iconst (z := 1) (by decide +kernel) (by decide +kernel)) <|
  am_c (ok_icmple (off := 5) (by decide +kernel) (by decide +kernel)) <|
  am_c (ok_iconst (z := -1) (by decide +kernel) (by decide +kernel)) <|
  am_n
def k_c151_2 : List (Nat × am_A) := [(98, ac_iret), (99, ac_aload 0 100), (100, ac_iload 3 101), (101, ac_callV 6 100 2 104 am_nohd), (104, ac_istore 5 106), (106, ac_iload 5 108), (108, ac_if1 (fun x => 0 ≤ x) 115 111), (111, ac_push (.int 0) 112), (112, ac_goto 122), (115, ac_aload 0 116), (116, ac_get 2 6 15 119), (119, ac_iload 5 121), (121, ac_iald 0 122), (122, ac_iret)]
theorem k_p151_2 : ∀ q ∈ k_c151_2, am_Ok k_nm D cA B0 sb H00 (k_Th B0 sb H00) prog_8_method_62_code "TokenMouthModel" "lookUp" [] (some .int) q.1 q.2 :=
  am_c (ok_iret (by decide +kernel) rfl) <|
  am_c (ok_aload_n (k := 0) (by decide +kernel) rfl) <|
  am_c (ok_iload_n (k := 3) (by decide +kernel) rfl) <|
  am_c (ok_callV (by decide +kernel) (by decide +kernel) kw_493 kw_494 kw_495 kw_492 (by decide +kernel) (by decide +kernel)) <|
  am_c (ok_istore (by decide +kernel)) <|
  am_c (ok_iload (by decide +kernel)) <|
  am_c (ok_ifge (off := 7) (by decide +kernel) (by decide +kernel)) <|
  am_c (ok_iconst (z := 0) (by decide +kernel) (by decide +kernel)) <|
  am_c (ok_goto (off := 10) (by decide +kernel) (by decide +kernel)) <|
  am_c (ok_aload_n (k := 0) (by decide +kernel) rfl) <|
  am_c (ok_get (by decide +kernel) (by decide +kernel) rfl (by decide +kernel) kw_417) <|
  am_c (ok_iload (by decide +kernel)) <|
  am_c (ok_iald (by decide +kernel)) <|
  am_c (ok_iret (by decide +kernel) rfl) <|
  am_n
def k_t151 : List (Nat × List (Nat × am_A)) := [(43, k_c151_0), (97, k_c151_1), (122, k_c151_2)]
theorem k_o151 : ∀ c ∈ k_t151, ∀ q ∈ c.2, am_Ok k_nm D cA B0 sb H00 (k_Th B0 sb H00) prog_8_method_62_code "TokenMouthModel" "lookUp" [] (some .int) q.1 q.2 := am_cc (P := fun pc a => am_Ok k_nm D cA B0 sb H00 (k_Th B0 sb H00) prog_8_method_62_code "TokenMouthModel" "lookUp" [] (some .int) pc a) k_p151_0 <| am_cc (P := fun pc a => am_Ok k_nm D cA B0 sb H00 (k_Th B0 sb H00) prog_8_method_62_code "TokenMouthModel" "lookUp" [] (some .int) pc a) k_p151_1 <| am_cc (P := fun pc a => am_Ok k_nm D cA B0 sb H00 (k_Th B0 sb H00) prog_8_method_62_code "TokenMouthModel" "lookUp" [] (some .int) pc a) k_p151_2 <| am_cn0
-- 152: TokenMouthModel.meaning(JZ)I
def k_c152_0 : List (Nat × am_A) := [(0, ac_aload 0 1), (1, ac_push (.int 0) 2), (2, ac_putI 6 0 5), (5, ac_aload 0 6), (6, ac_lload 1 7), (7, ac_iload 3 8), (8, ac_callV 6 151 3 11 am_nohd), (11, ac_istore 4 13), (13, ac_iload 4 15), (15, ac_if1 (fun x => 0 ≤ x) 25 18), (18, ac_aload 0 19), (19, ac_callV 6 146 1 22 am_nohd), (22, ac_goto 59), (25, ac_iload 4 27), (27, ac_if1 (fun x => ¬ x = 0) 34 30), (30, ac_push (.int 0) 31), (31, ac_goto 59), (34, ac_iload 4 36), (36, ac_push (.int 1000) 39), (39, ac_if2 (fun x y => y ≤ x) 46 42), (42, ac_push (.int 1) 43), (43, ac_goto 59), (46, ac_iload 4 48), (48, ac_push (.int 6000) 51)]
theorem k_p152_0 : ∀ q ∈ k_c152_0, am_Ok k_nm D cA B0 sb H00 (k_Th B0 sb H00) prog_8_method_63_code "TokenMouthModel" "meaning" [] (some .int) q.1 q.2 :=
  am_c (ok_aload_n (k := 0) (by decide +kernel) rfl) <|
  am_c (ok_iconst (z := 0) (by decide +kernel) (by decide +kernel)) <|
  am_c (ok_putI (by decide +kernel) (by decide +kernel) rfl (by decide +kernel) kw_484 rfl) <|
  am_c (ok_aload_n (k := 0) (by decide +kernel) rfl) <|
  am_c (ok_lload_n (k := 1) (by decide +kernel) rfl) <|
  am_c (ok_iload_n (k := 3) (by decide +kernel) rfl) <|
  am_c (ok_callV (by decide +kernel) (by decide +kernel) kw_680 kw_681 kw_682 kw_679 (by decide +kernel) (by decide +kernel)) <|
  am_c (ok_istore (by decide +kernel)) <|
  am_c (ok_iload (by decide +kernel)) <|
  am_c (ok_ifge (off := 10) (by decide +kernel) (by decide +kernel)) <|
  am_c (ok_aload_n (k := 0) (by decide +kernel) rfl) <|
  am_c (ok_callV (by decide +kernel) (by decide +kernel) kw_676 kw_677 kw_678 kw_675 (by decide +kernel) (by decide +kernel)) <|
  am_c (ok_goto (off := 37) (by decide +kernel) (by decide +kernel)) <|
  am_c (ok_iload (by decide +kernel)) <|
  am_c (ok_ifne (off := 7) (by decide +kernel) (by decide +kernel)) <|
  am_c (ok_iconst (z := 0) (by decide +kernel) (by decide +kernel)) <|
  am_c (ok_goto (off := 28) (by decide +kernel) (by decide +kernel)) <|
  am_c (ok_iload (by decide +kernel)) <|
  am_c (ok_sipush (z := 1000) (by decide +kernel) (by decide +kernel)) <|
  am_c (ok_icmpge (off := 7) (by decide +kernel) (by decide +kernel)) <|
  am_c (ok_iconst (z := 1) (by decide +kernel) (by decide +kernel)) <|
  am_c (ok_goto (off := 16) (by decide +kernel) (by decide +kernel)) <|
  am_c (ok_iload (by decide +kernel)) <|
  am_c (ok_sipush (z := 6000) (by decide +kernel) (by decide +kernel)) <|
  am_n
def k_c152_1 : List (Nat × am_A) := [(51, ac_if2 (fun x y => y ≤ x) 58 54), (54, ac_push (.int 2) 55), (55, ac_goto 59), (58, ac_push (.int 3) 59), (59, ac_iret)]
theorem k_p152_1 : ∀ q ∈ k_c152_1, am_Ok k_nm D cA B0 sb H00 (k_Th B0 sb H00) prog_8_method_63_code "TokenMouthModel" "meaning" [] (some .int) q.1 q.2 :=
  am_c (ok_icmpge (off := 7) (by decide +kernel) (by decide +kernel)) <|
  am_c (ok_iconst (z := 2) (by decide +kernel) (by decide +kernel)) <|
  am_c (ok_goto (off := 4) (by decide +kernel) (by decide +kernel)) <|
  am_c (ok_iconst (z := 3) (by decide +kernel) (by decide +kernel)) <|
  am_c (ok_iret (by decide +kernel) rfl) <|
  am_n
def k_t152 : List (Nat × List (Nat × am_A)) := [(48, k_c152_0), (59, k_c152_1)]
theorem k_o152 : ∀ c ∈ k_t152, ∀ q ∈ c.2, am_Ok k_nm D cA B0 sb H00 (k_Th B0 sb H00) prog_8_method_63_code "TokenMouthModel" "meaning" [] (some .int) q.1 q.2 := am_cc (P := fun pc a => am_Ok k_nm D cA B0 sb H00 (k_Th B0 sb H00) prog_8_method_63_code "TokenMouthModel" "meaning" [] (some .int) pc a) k_p152_0 <| am_cc (P := fun pc a => am_Ok k_nm D cA B0 sb H00 (k_Th B0 sb H00) prog_8_method_63_code "TokenMouthModel" "meaning" [] (some .int) pc a) k_p152_1 <| am_cn0
-- 153: TokenMouthModel.detail(JZI)I
def k_c153_0 : List (Nat × am_A) := [(0, ac_aload 0 1), (1, ac_push (.int 0) 2), (2, ac_putI 6 0 5), (5, ac_aload 0 6), (6, ac_lload 1 7), (7, ac_iload 3 8), (8, ac_callV 6 151 3 11 am_nohd), (11, ac_istore 5 13), (13, ac_iload 5 15), (15, ac_if1 (fun x => 0 ≤ x) 23 18), (18, ac_aload 0 19), (19, ac_callV 6 146 1 22 am_nohd), (22, ac_iret), (23, ac_iload 5 25), (25, ac_push (.int 6000) 28), (28, ac_if2 (fun x y => x < y) 35 31), (31, ac_push (.int 1) 32), (32, ac_goto 36), (35, ac_push (.int 0) 36), (36, ac_istore 6 38), (38, ac_iload 6 40), (40, ac_if1 (fun x => x = 0) 52 43), (43, ac_iload 5 45), (45, ac_push (.int 6000) 48)]
theorem k_p153_0 : ∀ q ∈ k_c153_0, am_Ok k_nm D cA B0 sb H00 (k_Th B0 sb H00) prog_8_method_64_code "TokenMouthModel" "detail" [] (some .int) q.1 q.2 :=
  am_c (ok_aload_n (k := 0) (by decide +kernel) rfl) <|
  am_c (ok_iconst (z := 0) (by decide +kernel) (by decide +kernel)) <|
  am_c (ok_putI (by decide +kernel) (by decide +kernel) rfl (by decide +kernel) kw_484 rfl) <|
  am_c (ok_aload_n (k := 0) (by decide +kernel) rfl) <|
  am_c (ok_lload_n (k := 1) (by decide +kernel) rfl) <|
  am_c (ok_iload_n (k := 3) (by decide +kernel) rfl) <|
  am_c (ok_callV (by decide +kernel) (by decide +kernel) kw_680 kw_681 kw_682 kw_679 (by decide +kernel) (by decide +kernel)) <|
  am_c (ok_istore (by decide +kernel)) <|
  am_c (ok_iload (by decide +kernel)) <|
  am_c (ok_ifge (off := 8) (by decide +kernel) (by decide +kernel)) <|
  am_c (ok_aload_n (k := 0) (by decide +kernel) rfl) <|
  am_c (ok_callV (by decide +kernel) (by decide +kernel) kw_676 kw_677 kw_678 kw_675 (by decide +kernel) (by decide +kernel)) <|
  am_c (ok_iret (by decide +kernel) rfl) <|
  am_c (ok_iload (by decide +kernel)) <|
  am_c (ok_sipush (z := 6000) (by decide +kernel) (by decide +kernel)) <|
  am_c (ok_icmplt (off := 7) (by decide +kernel) (by decide +kernel)) <|
  am_c (ok_iconst (z := 1) (by decide +kernel) (by decide +kernel)) <|
  am_c (ok_goto (off := 4) (by decide +kernel) (by decide +kernel)) <|
  am_c (ok_iconst (z := 0) (by decide +kernel) (by decide +kernel)) <|
  am_c (ok_istore (by decide +kernel)) <|
  am_c (ok_iload (by decide +kernel)) <|
  am_c (ok_ifeq (off := 12) (by decide +kernel) (by decide +kernel)) <|
  am_c (ok_iload (by decide +kernel)) <|
  am_c (ok_sipush (z := 6000) (by decide +kernel) (by decide +kernel)) <|
  am_n
def k_c153_1 : List (Nat × am_A) := [(48, ac_ii (fun x y => x - y) 49), (49, ac_goto 53), (52, ac_push (.int 0) 53), (53, ac_istore 7 55), (55, ac_iload 4 57), (57, ac_if1 (fun x => ¬ x = 0) 104 60), (60, ac_iload 5 62), (62, ac_if1 (fun x => ¬ x = 0) 69 65), (65, ac_push (.int (-1)) 66), (66, ac_goto 103), (69, ac_iload 6 71), (71, ac_if1 (fun x => x = 0) 84 74), (74, ac_aload 0 75), (75, ac_get 2 6 28 78), (78, ac_iload 7 80), (80, ac_iald 0 81), (81, ac_goto 103), (84, ac_iload 5 86), (86, ac_push (.int 1000) 89), (89, ac_if2 (fun x y => y ≤ x) 97 92), (92, ac_iload 5 94), (94, ac_goto 103), (97, ac_iload 5 99), (99, ac_push (.int 1000) 102)]
theorem k_p153_1 : ∀ q ∈ k_c153_1, am_Ok k_nm D cA B0 sb H00 (k_Th B0 sb H00) prog_8_method_64_code "TokenMouthModel" "detail" [] (some .int) q.1 q.2 :=
  am_c (ok_isub (by decide +kernel)) <|
  am_c (ok_goto (off := 4) (by decide +kernel) (by decide +kernel)) <|
  am_c (ok_iconst (z := 0) (by decide +kernel) (by decide +kernel)) <|
  am_c (ok_istore (by decide +kernel)) <|
  am_c (ok_iload (by decide +kernel)) <|
  am_c (ok_ifne (off := 47) (by decide +kernel) (by decide +kernel)) <|
  am_c (ok_iload (by decide +kernel)) <|
  am_c (ok_ifne (off := 7) (by decide +kernel) (by decide +kernel)) <|
  am_c (ok_iconst (z := -1) (by decide +kernel) (by decide +kernel)) <|
  am_c (ok_goto (off := 37) (by decide +kernel) (by decide +kernel)) <|
  am_c (ok_iload (by decide +kernel)) <|
  am_c (ok_ifeq (off := 13) (by decide +kernel) (by decide +kernel)) <|
  am_c (ok_aload_n (k := 0) (by decide +kernel) rfl) <|
  am_c (ok_get (by decide +kernel) (by decide +kernel) rfl (by decide +kernel) kw_426) <|
  am_c (ok_iload (by decide +kernel)) <|
  am_c (ok_iald (by decide +kernel)) <|
  am_c (ok_goto (off := 22) (by decide +kernel) (by decide +kernel)) <|
  am_c (ok_iload (by decide +kernel)) <|
  am_c (ok_sipush (z := 1000) (by decide +kernel) (by decide +kernel)) <|
  am_c (ok_icmpge (off := 8) (by decide +kernel) (by decide +kernel)) <|
  am_c (ok_iload (by decide +kernel)) <|
  am_c (ok_goto (off := 9) (by decide +kernel) (by decide +kernel)) <|
  am_c (ok_iload (by decide +kernel)) <|
  am_c (ok_sipush (z := 1000) (by decide +kernel) (by decide +kernel)) <|
  am_n
def k_c153_2 : List (Nat × am_A) := [(102, ac_ii (fun x y => x - y) 103), (103, ac_iret), (104, ac_iload 4 106), (106, ac_push (.int 1) 107), (107, ac_if2 (fun x y => x = y) 116 110), (110, ac_iload 4 112), (112, ac_push (.int 2) 113), (113, ac_if2 (fun x y => ¬ x = y) 149 116), (116, ac_iload 6 118), (118, ac_if1 (fun x => ¬ x = 0) 125 121), (121, ac_push (.int 0) 122), (122, ac_goto 148), (125, ac_iload 4 127), (127, ac_push (.int 1) 128), (128, ac_if2 (fun x y => ¬ x = y) 141 131), (131, ac_aload 0 132), (132, ac_get 2 6 24 135), (135, ac_iload 7 137), (137, ac_iald 0 138), (138, ac_goto 148), (141, ac_aload 0 142), (142, ac_get 2 6 26 145), (145, ac_iload 7 147), (147, ac_iald 0 148)]
theorem k_p153_2 : ∀ q ∈ k_c153_2, am_Ok k_nm D cA B0 sb H00 (k_Th B0 sb H00) prog_8_method_64_code "TokenMouthModel" "detail" [] (some .int) q.1 q.2 :=
  am_c (ok_isub (by decide +kernel)) <|
  am_c (ok_iret (by decide +kernel) rfl) <|
  am_c (ok_iload (by decide +kernel)) <|
  am_c (ok_iconst (z := 1) (by decide +kernel) (by decide +kernel)) <|
  am_c (ok_icmpeq (off := 9) (by decide +kernel) (by decide +kernel)) <|
  am_c (ok_iload (by decide +kernel)) <|
  am_c (ok_iconst (z := 2) (by decide +kernel) (by decide +kernel)) <|
  am_c (ok_icmpne (off := 36) (by decide +kernel) (by decide +kernel)) <|
  am_c (ok_iload (by decide +kernel)) <|
  am_c (ok_ifne (off := 7) (by decide +kernel) (by decide +kernel)) <|
  am_c (ok_iconst (z := 0) (by decide +kernel) (by decide +kernel)) <|
  am_c (ok_goto (off := 26) (by decide +kernel) (by decide +kernel)) <|
  am_c (ok_iload (by decide +kernel)) <|
  am_c (ok_iconst (z := 1) (by decide +kernel) (by decide +kernel)) <|
  am_c (ok_icmpne (off := 13) (by decide +kernel) (by decide +kernel)) <|
  am_c (ok_aload_n (k := 0) (by decide +kernel) rfl) <|
  am_c (ok_get (by decide +kernel) (by decide +kernel) rfl (by decide +kernel) kw_422) <|
  am_c (ok_iload (by decide +kernel)) <|
  am_c (ok_iald (by decide +kernel)) <|
  am_c (ok_goto (off := 10) (by decide +kernel) (by decide +kernel)) <|
  am_c (ok_aload_n (k := 0) (by decide +kernel) rfl) <|
  am_c (ok_get (by decide +kernel) (by decide +kernel) rfl (by decide +kernel) kw_424) <|
  am_c (ok_iload (by decide +kernel)) <|
  am_c (ok_iald (by decide +kernel)) <|
  am_n
def k_c153_3 : List (Nat × am_A) := [(148, ac_iret), (149, ac_iload 6 151), (151, ac_if1 (fun x => x = 0) 174 154), (154, ac_iload 4 156), (156, ac_push (.int 3) 157), (157, ac_if2 (fun x y => x < y) 174 160), (160, ac_iload 4 162), (162, ac_push (.int 3) 163), (163, ac_ii (fun x y => x - y) 164), (164, ac_aload 0 165), (165, ac_get 2 6 26 168), (168, ac_iload 7 170), (170, ac_iald 0 171), (171, ac_if2 (fun x y => x < y) 176 174), (174, ac_push (.int (-1)) 175), (175, ac_iret), (176, ac_aload 0 177), (177, ac_get 2 6 27 180), (180, ac_push (.int 41) 182), (182, ac_iload 7 184), (184, ac_ii (fun x y => x * y) 185), (185, ac_iload 4 187), (187, ac_ii (fun x y => x + y) 188), (188, ac_push (.int 3) 189)]
theorem k_p153_3 : ∀ q ∈ k_c153_3, am_Ok k_nm D cA B0 sb H00 (k_Th B0 sb H00) prog_8_method_64_code "TokenMouthModel" "detail" [] (some .int) q.1 q.2 :=
  am_c (ok_iret (by decide +kernel) rfl) <|
  am_c (ok_iload (by decide +kernel)) <|
  am_c (ok_ifeq (off := 23) (by decide +kernel) (by decide +kernel)) <|
  am_c (ok_iload (by decide +kernel)) <|
  am_c (ok_iconst (z := 3) (by decide +kernel) (by decide +kernel)) <|
  am_c (ok_icmplt (off := 17) (by decide +kernel) (by decide +kernel)) <|
  am_c (ok_iload (by decide +kernel)) <|
  am_c (ok_iconst (z := 3) (by decide +kernel) (by decide +kernel)) <|
  am_c (ok_isub (by decide +kernel)) <|
  am_c (ok_aload_n (k := 0) (by decide +kernel) rfl) <|
  am_c (ok_get (by decide +kernel) (by decide +kernel) rfl (by decide +kernel) kw_424) <|
  am_c (ok_iload (by decide +kernel)) <|
  am_c (ok_iald (by decide +kernel)) <|
  am_c (ok_icmplt (off := 5) (by decide +kernel) (by decide +kernel)) <|
  am_c (ok_iconst (z := -1) (by decide +kernel) (by decide +kernel)) <|
  am_c (ok_iret (by decide +kernel) rfl) <|
  am_c (ok_aload_n (k := 0) (by decide +kernel) rfl) <|
  am_c (ok_get (by decide +kernel) (by decide +kernel) rfl (by decide +kernel) kw_425) <|
  am_c (ok_bipush (z := 41) (by decide +kernel) (by decide +kernel)) <|
  am_c (ok_iload (by decide +kernel)) <|
  am_c (ok_imul (by decide +kernel)) <|
  am_c (ok_iload (by decide +kernel)) <|
  am_c (ok_iadd (by decide +kernel)) <|
  am_c (ok_iconst (z := 3) (by decide +kernel) (by decide +kernel)) <|
  am_n
def k_c153_4 : List (Nat × am_A) := [(189, ac_ii (fun x y => x - y) 190), (190, ac_iald 0 191), (191, ac_istore 8 193), (193, ac_iload 8 195), (195, ac_push (.int 4096) 198), (198, ac_if2 (fun x y => y ≤ x) 206 201), (201, ac_iload 8 203), (203, ac_goto 230), (206, ac_iload 8 208), (208, ac_push (.int 16384) 211), (211, ac_if2 (fun x y => y ≤ x) 220 214), (214, ac_push (.int 4096) 217), (217, ac_goto 230), (220, ac_push (.int 4096) 223), (223, ac_iload 8 225), (225, ac_ii (fun x y => x + y) 226), (226, ac_push (.int 16384) 229), (229, ac_ii (fun x y => x - y) 230), (230, ac_iret)]
theorem k_p153_4 : ∀ q ∈ k_c153_4, am_Ok k_nm D cA B0 sb H00 (k_Th B0 sb H00) prog_8_method_64_code "TokenMouthModel" "detail" [] (some .int) q.1 q.2 :=
  am_c (ok_isub (by decide +kernel)) <|
  am_c (ok_iald (by decide +kernel)) <|
  am_c (ok_istore (by decide +kernel)) <|
  am_c (ok_iload (by decide +kernel)) <|
  am_c (ok_sipush (z := 4096) (by decide +kernel) (by decide +kernel)) <|
  am_c (ok_icmpge (off := 8) (by decide +kernel) (by decide +kernel)) <|
  am_c (ok_iload (by decide +kernel)) <|
  am_c (ok_goto (off := 27) (by decide +kernel) (by decide +kernel)) <|
  am_c (ok_iload (by decide +kernel)) <|
  am_c (ok_sipush (z := 16384) (by decide +kernel) (by decide +kernel)) <|
  am_c (ok_icmpge (off := 9) (by decide +kernel) (by decide +kernel)) <|
  am_c (ok_sipush (z := 4096) (by decide +kernel) (by decide +kernel)) <|
  am_c (ok_goto (off := 13) (by decide +kernel) (by decide +kernel)) <|
  am_c (ok_sipush (z := 4096) (by decide +kernel) (by decide +kernel)) <|
  am_c (ok_iload (by decide +kernel)) <|
  am_c (ok_iadd (by decide +kernel)) <|
  am_c (ok_sipush (z := 16384) (by decide +kernel) (by decide +kernel)) <|
  am_c (ok_isub (by decide +kernel)) <|
  am_c (ok_iret (by decide +kernel) rfl) <|
  am_n
def k_t153 : List (Nat × List (Nat × am_A)) := [(45, k_c153_0), (99, k_c153_1), (147, k_c153_2), (188, k_c153_3), (230, k_c153_4)]
theorem k_o153 : ∀ c ∈ k_t153, ∀ q ∈ c.2, am_Ok k_nm D cA B0 sb H00 (k_Th B0 sb H00) prog_8_method_64_code "TokenMouthModel" "detail" [] (some .int) q.1 q.2 := am_cc (P := fun pc a => am_Ok k_nm D cA B0 sb H00 (k_Th B0 sb H00) prog_8_method_64_code "TokenMouthModel" "detail" [] (some .int) pc a) k_p153_0 <| am_cc (P := fun pc a => am_Ok k_nm D cA B0 sb H00 (k_Th B0 sb H00) prog_8_method_64_code "TokenMouthModel" "detail" [] (some .int) pc a) k_p153_1 <| am_cc (P := fun pc a => am_Ok k_nm D cA B0 sb H00 (k_Th B0 sb H00) prog_8_method_64_code "TokenMouthModel" "detail" [] (some .int) pc a) k_p153_2 <| am_cc (P := fun pc a => am_Ok k_nm D cA B0 sb H00 (k_Th B0 sb H00) prog_8_method_64_code "TokenMouthModel" "detail" [] (some .int) pc a) k_p153_3 <| am_cc (P := fun pc a => am_Ok k_nm D cA B0 sb H00 (k_Th B0 sb H00) prog_8_method_64_code "TokenMouthModel" "detail" [] (some .int) pc a) k_p153_4 <| am_cn0
-- 154: TokenMouthLaw.run(LTokenMouth;I[J)I
def k_es154 : List am_H := [(0, (0, 9, 12, 13), 13, 3), (1, (0, 9, 15, 15), 16, 3)]
def k_c154_0 : List (Nat × am_A) := [(0, ac_aload 2 1), (1, ac_push (.int 0) 2), (2, ac_aload 0 3), (3, ac_iload 1 4), (4, ac_callH k_es154 4 5 40 2 7), (7, ac_il (fun x => x.toInt64) 8), (8, ac_last 9), (9, ac_goto 18), (12, ac_astore 3 13), (13, ac_push (.int 1) 14), (14, ac_iret), (15, ac_astore 3 16), (16, ac_push (.int 2) 17), (17, ac_iret), (18, ac_push (.int 0) 19), (19, ac_iret)]
theorem k_p154_0 : ∀ q ∈ k_c154_0, am_Ok k_nm D cA B0 sb H00 (k_Th B0 sb H00) method_3_code "TokenMouthLaw" "run" [(0, 9, 12, 13), (0, 9, 15, 15)] (some .int) q.1 q.2 :=
  am_c (ok_aload_n (k := 2) (by decide +kernel) rfl) <|
  am_c (ok_iconst (z := 0) (by decide +kernel) (by decide +kernel)) <|
  am_c (ok_aload_n (k := 0) (by decide +kernel) rfl) <|
  am_c (ok_iload_n (k := 1) (by decide +kernel) rfl) <|
  am_c (ok_callH (nm := k_nm) (ci := 5) (y := 40) (n0 := 1) (idx := 7) k_es154 k_Nc (by decide +kernel) (by decide +kernel) kw_805 kw_806 kw_807 kw_683 (by decide +kernel) (by decide +kernel) (by decide +kernel) (fun z hz => by rcases List.mem_cons.mp hz with rfl | hz; exact kw_803; rcases List.mem_cons.mp hz with rfl | hz; exact kw_804; cases hz) 4 (by decide +kernel)) <|
  am_c (ok_i2l (by decide +kernel)) <|
  am_c (ok_last (by decide +kernel)) <|
  am_c (ok_goto (off := 9) (by decide +kernel) (by decide +kernel)) <|
  am_c (ok_astore_n (k := 3) (by decide +kernel) rfl) <|
  am_c (ok_iconst (z := 1) (by decide +kernel) (by decide +kernel)) <|
  am_c (ok_iret (by decide +kernel) rfl) <|
  am_c (ok_astore_n (k := 3) (by decide +kernel) rfl) <|
  am_c (ok_iconst (z := 2) (by decide +kernel) (by decide +kernel)) <|
  am_c (ok_iret (by decide +kernel) rfl) <|
  am_c (ok_iconst (z := 0) (by decide +kernel) (by decide +kernel)) <|
  am_c (ok_iret (by decide +kernel) rfl) <|
  am_n
def k_t154 : List (Nat × List (Nat × am_A)) := [(19, k_c154_0)]
theorem k_o154 : ∀ c ∈ k_t154, ∀ q ∈ c.2, am_Ok k_nm D cA B0 sb H00 (k_Th B0 sb H00) method_3_code "TokenMouthLaw" "run" [(0, 9, 12, 13), (0, 9, 15, 15)] (some .int) q.1 q.2 := am_cc (P := fun pc a => am_Ok k_nm D cA B0 sb H00 (k_Th B0 sb H00) method_3_code "TokenMouthLaw" "run" [(0, 9, 12, 13), (0, 9, 15, 15)] (some .int) pc a) k_p154_0 <| am_cn0
-- 155: TokenMouthLaw.fault(LTokenMouth;I[J)I
def k_es155 : List am_H := [(2, (0, 9, 12, 20), 13, 3)]
def k_c155_0 : List (Nat × am_A) := [(0, ac_aload 2 1), (1, ac_push (.int 0) 2), (2, ac_aload 0 3), (3, ac_iload 1 4), (4, ac_callH k_es155 4 5 41 2 7), (7, ac_il (fun x => x.toInt64) 8), (8, ac_last 9), (9, ac_goto 15), (12, ac_astore 3 13), (13, ac_push (.int 1) 14), (14, ac_iret), (15, ac_push (.int 0) 16), (16, ac_iret)]
theorem k_p155_0 : ∀ q ∈ k_c155_0, am_Ok k_nm D cA B0 sb H00 (k_Th B0 sb H00) method_4_code "TokenMouthLaw" "fault" [(0, 9, 12, 20)] (some .int) q.1 q.2 :=
  am_c (ok_aload_n (k := 2) (by decide +kernel) rfl) <|
  am_c (ok_iconst (z := 0) (by decide +kernel) (by decide +kernel)) <|
  am_c (ok_aload_n (k := 0) (by decide +kernel) rfl) <|
  am_c (ok_iload_n (k := 1) (by decide +kernel) rfl) <|
  am_c (ok_callH (nm := k_nm) (ci := 5) (y := 41) (n0 := 1) (idx := 17) k_es155 k_Nc (by decide +kernel) (by decide +kernel) kw_809 kw_810 kw_811 kw_684 (by decide +kernel) (by decide +kernel) (by decide +kernel) (fun z hz => by rcases List.mem_cons.mp hz with rfl | hz; exact kw_808; cases hz) 4 (by decide +kernel)) <|
  am_c (ok_i2l (by decide +kernel)) <|
  am_c (ok_last (by decide +kernel)) <|
  am_c (ok_goto (off := 6) (by decide +kernel) (by decide +kernel)) <|
  am_c (ok_astore_n (k := 3) (by decide +kernel) rfl) <|
  am_c (ok_iconst (z := 1) (by decide +kernel) (by decide +kernel)) <|
  am_c (ok_iret (by decide +kernel) rfl) <|
  am_c (ok_iconst (z := 0) (by decide +kernel) (by decide +kernel)) <|
  am_c (ok_iret (by decide +kernel) rfl) <|
  am_n
def k_t155 : List (Nat × List (Nat × am_A)) := [(16, k_c155_0)]
theorem k_o155 : ∀ c ∈ k_t155, ∀ q ∈ c.2, am_Ok k_nm D cA B0 sb H00 (k_Th B0 sb H00) method_4_code "TokenMouthLaw" "fault" [(0, 9, 12, 20)] (some .int) q.1 q.2 := am_cc (P := fun pc a => am_Ok k_nm D cA B0 sb H00 (k_Th B0 sb H00) method_4_code "TokenMouthLaw" "fault" [(0, 9, 12, 20)] (some .int) pc a) k_p155_0 <| am_cn0
-- 156: TokenMouthLaw.out(LTokenMouth;I[J)I
def k_es156 : List am_H := [(2, (0, 9, 12, 20), 13, 3)]
def k_c156_0 : List (Nat × am_A) := [(0, ac_aload 2 1), (1, ac_push (.int 0) 2), (2, ac_aload 0 3), (3, ac_iload 1 4), (4, ac_callH k_es156 4 5 42 2 7), (7, ac_il (fun x => x.toInt64) 8), (8, ac_last 9), (9, ac_goto 15), (12, ac_astore 3 13), (13, ac_push (.int 1) 14), (14, ac_iret), (15, ac_push (.int 0) 16), (16, ac_iret)]
theorem k_p156_0 : ∀ q ∈ k_c156_0, am_Ok k_nm D cA B0 sb H00 (k_Th B0 sb H00) method_5_code "TokenMouthLaw" "out" [(0, 9, 12, 20)] (some .int) q.1 q.2 :=
  am_c (ok_aload_n (k := 2) (by decide +kernel) rfl) <|
  am_c (ok_iconst (z := 0) (by decide +kernel) (by decide +kernel)) <|
  am_c (ok_aload_n (k := 0) (by decide +kernel) rfl) <|
  am_c (ok_iload_n (k := 1) (by decide +kernel) rfl) <|
  am_c (ok_callH (nm := k_nm) (ci := 5) (y := 42) (n0 := 1) (idx := 22) k_es156 k_Nc (by decide +kernel) (by decide +kernel) kw_812 kw_813 kw_814 kw_685 (by decide +kernel) (by decide +kernel) (by decide +kernel) (fun z hz => by rcases List.mem_cons.mp hz with rfl | hz; exact kw_808; cases hz) 4 (by decide +kernel)) <|
  am_c (ok_i2l (by decide +kernel)) <|
  am_c (ok_last (by decide +kernel)) <|
  am_c (ok_goto (off := 6) (by decide +kernel) (by decide +kernel)) <|
  am_c (ok_astore_n (k := 3) (by decide +kernel) rfl) <|
  am_c (ok_iconst (z := 1) (by decide +kernel) (by decide +kernel)) <|
  am_c (ok_iret (by decide +kernel) rfl) <|
  am_c (ok_iconst (z := 0) (by decide +kernel) (by decide +kernel)) <|
  am_c (ok_iret (by decide +kernel) rfl) <|
  am_n
def k_t156 : List (Nat × List (Nat × am_A)) := [(16, k_c156_0)]
theorem k_o156 : ∀ c ∈ k_t156, ∀ q ∈ c.2, am_Ok k_nm D cA B0 sb H00 (k_Th B0 sb H00) method_5_code "TokenMouthLaw" "out" [(0, 9, 12, 20)] (some .int) q.1 q.2 := am_cc (P := fun pc a => am_Ok k_nm D cA B0 sb H00 (k_Th B0 sb H00) method_5_code "TokenMouthLaw" "out" [(0, 9, 12, 20)] (some .int) pc a) k_p156_0 <| am_cn0
-- 157: TokenMouthLaw.count(LTokenMouth;I[J)I
def k_es157 : List am_H := [(2, (0, 9, 12, 20), 13, 3)]
def k_c157_0 : List (Nat × am_A) := [(0, ac_aload 2 1), (1, ac_push (.int 0) 2), (2, ac_aload 0 3), (3, ac_iload 1 4), (4, ac_callH k_es157 4 5 43 2 7), (7, ac_il (fun x => x.toInt64) 8), (8, ac_last 9), (9, ac_goto 15), (12, ac_astore 3 13), (13, ac_push (.int 1) 14), (14, ac_iret), (15, ac_push (.int 0) 16), (16, ac_iret)]
theorem k_p157_0 : ∀ q ∈ k_c157_0, am_Ok k_nm D cA B0 sb H00 (k_Th B0 sb H00) method_6_code "TokenMouthLaw" "count" [(0, 9, 12, 20)] (some .int) q.1 q.2 :=
  am_c (ok_aload_n (k := 2) (by decide +kernel) rfl) <|
  am_c (ok_iconst (z := 0) (by decide +kernel) (by decide +kernel)) <|
  am_c (ok_aload_n (k := 0) (by decide +kernel) rfl) <|
  am_c (ok_iload_n (k := 1) (by decide +kernel) rfl) <|
  am_c (ok_callH (nm := k_nm) (ci := 5) (y := 43) (n0 := 1) (idx := 25) k_es157 k_Nc (by decide +kernel) (by decide +kernel) kw_815 kw_816 kw_817 kw_686 (by decide +kernel) (by decide +kernel) (by decide +kernel) (fun z hz => by rcases List.mem_cons.mp hz with rfl | hz; exact kw_808; cases hz) 4 (by decide +kernel)) <|
  am_c (ok_i2l (by decide +kernel)) <|
  am_c (ok_last (by decide +kernel)) <|
  am_c (ok_goto (off := 6) (by decide +kernel) (by decide +kernel)) <|
  am_c (ok_astore_n (k := 3) (by decide +kernel) rfl) <|
  am_c (ok_iconst (z := 1) (by decide +kernel) (by decide +kernel)) <|
  am_c (ok_iret (by decide +kernel) rfl) <|
  am_c (ok_iconst (z := 0) (by decide +kernel) (by decide +kernel)) <|
  am_c (ok_iret (by decide +kernel) rfl) <|
  am_n
def k_t157 : List (Nat × List (Nat × am_A)) := [(16, k_c157_0)]
theorem k_o157 : ∀ c ∈ k_t157, ∀ q ∈ c.2, am_Ok k_nm D cA B0 sb H00 (k_Th B0 sb H00) method_6_code "TokenMouthLaw" "count" [(0, 9, 12, 20)] (some .int) q.1 q.2 := am_cc (P := fun pc a => am_Ok k_nm D cA B0 sb H00 (k_Th B0 sb H00) method_6_code "TokenMouthLaw" "count" [(0, 9, 12, 20)] (some .int) pc a) k_p157_0 <| am_cn0
-- 158: TokenMouthLaw.category(LTokenMouth;I[J)I
def k_es158 : List am_H := [(2, (0, 9, 12, 20), 13, 3)]
def k_c158_0 : List (Nat × am_A) := [(0, ac_aload 2 1), (1, ac_push (.int 0) 2), (2, ac_aload 0 3), (3, ac_iload 1 4), (4, ac_callH k_es158 4 5 44 2 7), (7, ac_il (fun x => x.toInt64) 8), (8, ac_last 9), (9, ac_goto 15), (12, ac_astore 3 13), (13, ac_push (.int 1) 14), (14, ac_iret), (15, ac_push (.int 0) 16), (16, ac_iret)]
theorem k_p158_0 : ∀ q ∈ k_c158_0, am_Ok k_nm D cA B0 sb H00 (k_Th B0 sb H00) method_7_code "TokenMouthLaw" "category" [(0, 9, 12, 20)] (some .int) q.1 q.2 :=
  am_c (ok_aload_n (k := 2) (by decide +kernel) rfl) <|
  am_c (ok_iconst (z := 0) (by decide +kernel) (by decide +kernel)) <|
  am_c (ok_aload_n (k := 0) (by decide +kernel) rfl) <|
  am_c (ok_iload_n (k := 1) (by decide +kernel) rfl) <|
  am_c (ok_callH (nm := k_nm) (ci := 5) (y := 44) (n0 := 1) (idx := 28) k_es158 k_Nc (by decide +kernel) (by decide +kernel) kw_818 kw_819 kw_820 kw_687 (by decide +kernel) (by decide +kernel) (by decide +kernel) (fun z hz => by rcases List.mem_cons.mp hz with rfl | hz; exact kw_808; cases hz) 4 (by decide +kernel)) <|
  am_c (ok_i2l (by decide +kernel)) <|
  am_c (ok_last (by decide +kernel)) <|
  am_c (ok_goto (off := 6) (by decide +kernel) (by decide +kernel)) <|
  am_c (ok_astore_n (k := 3) (by decide +kernel) rfl) <|
  am_c (ok_iconst (z := 1) (by decide +kernel) (by decide +kernel)) <|
  am_c (ok_iret (by decide +kernel) rfl) <|
  am_c (ok_iconst (z := 0) (by decide +kernel) (by decide +kernel)) <|
  am_c (ok_iret (by decide +kernel) rfl) <|
  am_n
def k_t158 : List (Nat × List (Nat × am_A)) := [(16, k_c158_0)]
theorem k_o158 : ∀ c ∈ k_t158, ∀ q ∈ c.2, am_Ok k_nm D cA B0 sb H00 (k_Th B0 sb H00) method_7_code "TokenMouthLaw" "category" [(0, 9, 12, 20)] (some .int) q.1 q.2 := am_cc (P := fun pc a => am_Ok k_nm D cA B0 sb H00 (k_Th B0 sb H00) method_7_code "TokenMouthLaw" "category" [(0, 9, 12, 20)] (some .int) pc a) k_p158_0 <| am_cn0
-- 159: TokenMouthLaw.meaning(LTokenMouth;JZ[J)I
def k_es159 : List am_H := [(3, (0, 11, 14, 35), 16, 5)]
def k_c159_0 : List (Nat × am_A) := [(0, ac_aload 4 2), (2, ac_push (.int 0) 3), (3, ac_aload 0 4), (4, ac_lload 1 5), (5, ac_iload 3 6), (6, ac_callH k_es159 6 5 45 3 9), (9, ac_il (fun x => x.toInt64) 10), (10, ac_last 11), (11, ac_goto 18), (14, ac_astore 5 16), (16, ac_push (.int 1) 17), (17, ac_iret), (18, ac_push (.int 0) 19), (19, ac_iret)]
theorem k_p159_0 : ∀ q ∈ k_c159_0, am_Ok k_nm D cA B0 sb H00 (k_Th B0 sb H00) method_8_code "TokenMouthLaw" "meaning" [(0, 11, 14, 35)] (some .int) q.1 q.2 :=
  am_c (ok_aload (by decide +kernel)) <|
  am_c (ok_iconst (z := 0) (by decide +kernel) (by decide +kernel)) <|
  am_c (ok_aload_n (k := 0) (by decide +kernel) rfl) <|
  am_c (ok_lload_n (k := 1) (by decide +kernel) rfl) <|
  am_c (ok_iload_n (k := 3) (by decide +kernel) rfl) <|
  am_c (ok_callH (nm := k_nm) (ci := 5) (y := 45) (n0 := 2) (idx := 31) k_es159 k_Nc (by decide +kernel) (by decide +kernel) kw_822 kw_823 kw_824 kw_688 (by decide +kernel) (by decide +kernel) (by decide +kernel) (fun z hz => by rcases List.mem_cons.mp hz with rfl | hz; exact kw_821; cases hz) 6 (by decide +kernel)) <|
  am_c (ok_i2l (by decide +kernel)) <|
  am_c (ok_last (by decide +kernel)) <|
  am_c (ok_goto (off := 7) (by decide +kernel) (by decide +kernel)) <|
  am_c (ok_astore (by decide +kernel)) <|
  am_c (ok_iconst (z := 1) (by decide +kernel) (by decide +kernel)) <|
  am_c (ok_iret (by decide +kernel) rfl) <|
  am_c (ok_iconst (z := 0) (by decide +kernel) (by decide +kernel)) <|
  am_c (ok_iret (by decide +kernel) rfl) <|
  am_n
def k_t159 : List (Nat × List (Nat × am_A)) := [(19, k_c159_0)]
theorem k_o159 : ∀ c ∈ k_t159, ∀ q ∈ c.2, am_Ok k_nm D cA B0 sb H00 (k_Th B0 sb H00) method_8_code "TokenMouthLaw" "meaning" [(0, 11, 14, 35)] (some .int) q.1 q.2 := am_cc (P := fun pc a => am_Ok k_nm D cA B0 sb H00 (k_Th B0 sb H00) method_8_code "TokenMouthLaw" "meaning" [(0, 11, 14, 35)] (some .int) pc a) k_p159_0 <| am_cn0
-- 160: TokenMouthLaw.detail(LTokenMouth;JZI[J)I
def k_es160 : List am_H := [(3, (0, 13, 16, 35), 18, 6)]
def k_c160_0 : List (Nat × am_A) := [(0, ac_aload 5 2), (2, ac_push (.int 0) 3), (3, ac_aload 0 4), (4, ac_lload 1 5), (5, ac_iload 3 6), (6, ac_iload 4 8), (8, ac_callH k_es160 7 5 46 4 11), (11, ac_il (fun x => x.toInt64) 12), (12, ac_last 13), (13, ac_goto 20), (16, ac_astore 6 18), (18, ac_push (.int 1) 19), (19, ac_iret), (20, ac_push (.int 0) 21), (21, ac_iret)]
theorem k_p160_0 : ∀ q ∈ k_c160_0, am_Ok k_nm D cA B0 sb H00 (k_Th B0 sb H00) method_9_code "TokenMouthLaw" "detail" [(0, 13, 16, 35)] (some .int) q.1 q.2 :=
  am_c (ok_aload (by decide +kernel)) <|
  am_c (ok_iconst (z := 0) (by decide +kernel) (by decide +kernel)) <|
  am_c (ok_aload_n (k := 0) (by decide +kernel) rfl) <|
  am_c (ok_lload_n (k := 1) (by decide +kernel) rfl) <|
  am_c (ok_iload_n (k := 3) (by decide +kernel) rfl) <|
  am_c (ok_iload (by decide +kernel)) <|
  am_c (ok_callH (nm := k_nm) (ci := 5) (y := 46) (n0 := 3) (idx := 37) k_es160 k_Nc (by decide +kernel) (by decide +kernel) kw_825 kw_826 kw_827 kw_689 (by decide +kernel) (by decide +kernel) (by decide +kernel) (fun z hz => by rcases List.mem_cons.mp hz with rfl | hz; exact kw_821; cases hz) 7 (by decide +kernel)) <|
  am_c (ok_i2l (by decide +kernel)) <|
  am_c (ok_last (by decide +kernel)) <|
  am_c (ok_goto (off := 7) (by decide +kernel) (by decide +kernel)) <|
  am_c (ok_astore (by decide +kernel)) <|
  am_c (ok_iconst (z := 1) (by decide +kernel) (by decide +kernel)) <|
  am_c (ok_iret (by decide +kernel) rfl) <|
  am_c (ok_iconst (z := 0) (by decide +kernel) (by decide +kernel)) <|
  am_c (ok_iret (by decide +kernel) rfl) <|
  am_n
def k_t160 : List (Nat × List (Nat × am_A)) := [(21, k_c160_0)]
theorem k_o160 : ∀ c ∈ k_t160, ∀ q ∈ c.2, am_Ok k_nm D cA B0 sb H00 (k_Th B0 sb H00) method_9_code "TokenMouthLaw" "detail" [(0, 13, 16, 35)] (some .int) q.1 q.2 := am_cc (P := fun pc a => am_Ok k_nm D cA B0 sb H00 (k_Th B0 sb H00) method_9_code "TokenMouthLaw" "detail" [(0, 13, 16, 35)] (some .int) pc a) k_p160_0 <| am_cn0
-- 161: TokenMouthLaw.law([I)Z
def k_c161_0 : List (Nat × am_A) := [(0, ac_new 5 3), (3, ac_dup 4), (4, ac_callI 36 1 7), (7, ac_astore 1 8), (8, ac_new 6 11), (11, ac_dup 12), (12, ac_callI 90 1 15), (15, ac_astore 2 16), (16, ac_push (.int 1) 17), (17, ac_newa 1 8 19), (19, ac_astore 3 20), (20, ac_push (.int 0) 21), (21, ac_istore 4 23), (23, ac_iload 4 25), (25, ac_aload 0 26), (26, ac_alen 27), (27, ac_push (.int 5) 28), (28, ac_ii (fun x y => x - y) 29), (29, ac_if2 (fun x y => y < x) 701 32), (32, ac_aload 0 33), (33, ac_iload 4 35), (35, ac_sld 36), (36, ac_push (.int 15) 38), (38, ac_ii (fun x y => x &&& y) 39)]
theorem k_p161_0 : ∀ q ∈ k_c161_0, am_Ok k_nm D cA B0 sb H00 (k_Th B0 sb H00) code "TokenMouthLaw" "law" [] (some .boolean) q.1 q.2 :=
  am_c (ok_new (by decide +kernel) (by decide +kernel) kw_690 kw_691 kw_86) <|
  am_c (ok_dup (by decide +kernel)) <|
  am_c (ok_callI (by decide +kernel) rfl kw_693 kw_694 kw_692 (by decide +kernel) (by decide +kernel)) <|
  am_c (ok_astore_n (k := 1) (by decide +kernel) rfl) <|
  am_c (ok_new (by decide +kernel) (by decide +kernel) kw_695 kw_696 kw_487) <|
  am_c (ok_dup (by decide +kernel)) <|
  am_c (ok_callI (by decide +kernel) rfl kw_698 kw_699 kw_697 (by decide +kernel) (by decide +kernel)) <|
  am_c (ok_astore_n (k := 2) (by decide +kernel) rfl) <|
  am_c (ok_iconst (z := 1) (by decide +kernel) (by decide +kernel)) <|
  am_c (ok_newa (at_ := .long) (by decide +kernel) rfl rfl (by decide +kernel) kw_47) <|
  am_c (ok_astore_n (k := 3) (by decide +kernel) rfl) <|
  am_c (ok_iconst (z := 0) (by decide +kernel) (by decide +kernel)) <|
  am_c (ok_istore (by decide +kernel)) <|
  am_c (ok_iload (by decide +kernel)) <|
  am_c (ok_aload_n (k := 0) (by decide +kernel) rfl) <|
  am_c (ok_alen (by decide +kernel)) <|
  am_c (ok_iconst (z := 5) (by decide +kernel) (by decide +kernel)) <|
  am_c (ok_isub (by decide +kernel)) <|
  am_c (ok_icmpgt (off := 672) (by decide +kernel) (by decide +kernel)) <|
  am_c (ok_aload_n (k := 0) (by decide +kernel) rfl) <|
  am_c (ok_iload (by decide +kernel)) <|
  am_c (ok_sld (by decide +kernel)) <|
  am_c (ok_bipush (z := 15) (by decide +kernel) (by decide +kernel)) <|
  am_c (ok_iand (by decide +kernel)) <|
  am_n
def k_c161_1 : List (Nat × am_A) := [(39, ac_sw [(0, 92), (1, 149), (2, 160), (3, 171), (4, 227), (5, 283), (6, 339), (7, 395), (8, 451), (9, 567)] 695), (92, ac_aload 1 93), (93, ac_aload 0 94), (94, ac_iload 4 96), (96, ac_push (.int 1) 97), (97, ac_ii (fun x y => x + y) 98), (98, ac_sld 99), (99, ac_il (fun x => x.toInt64) 100), (100, ac_push (.int 32) 102), (102, ac_li (fun x y => x <<< (y.toInt64 &&& 63)) 103), (103, ac_aload 0 104), (104, ac_iload 4 106), (106, ac_push (.int 2) 107), (107, ac_ii (fun x y => x + y) 108), (108, ac_sld 109), (109, ac_il (fun x => x.toInt64) 110), (110, ac_push (.long 4294967295) 113), (113, ac_ll (fun x y => x &&& y) 114), (114, ac_ll (fun x y => x ||| y) 115), (115, ac_callV 5 37 2 118 am_nohd), (118, ac_aload 2 119), (119, ac_aload 0 120), (120, ac_iload 4 122), (122, ac_push (.int 1) 123)]
theorem k_p161_1 : ∀ q ∈ k_c161_1, am_Ok k_nm D cA B0 sb H00 (k_Th B0 sb H00) code "TokenMouthLaw" "law" [] (some .boolean) q.1 q.2 :=
  am_c (ok_sw (dflt := 656) (lo := 0) (hi := 9) (offs := #[53, 110, 121, 132, 188, 244, 300, 356, 412, 528]) (len := 53) (by decide +kernel) ⟨(by decide +kernel), (by decide +kernel), (by decide +kernel), (by decide +kernel), (by decide +kernel), (by decide +kernel), (by decide +kernel), (by decide +kernel), (by decide +kernel), (by decide +kernel), (by decide +kernel), (by decide +kernel), (by decide +kernel), (by decide +kernel), (by decide +kernel), (by decide +kernel), (by decide +kernel), (by decide +kernel), (by decide +kernel), (by decide +kernel), rfl⟩ (by decide +kernel) (by decide +kernel)) <|
  am_c (ok_aload_n (k := 1) (by decide +kernel) rfl) <|
  am_c (ok_aload_n (k := 0) (by decide +kernel) rfl) <|
  am_c (ok_iload (by decide +kernel)) <|
  am_c (ok_iconst (z := 1) (by decide +kernel) (by decide +kernel)) <|
  am_c (ok_iadd (by decide +kernel)) <|
  am_c (ok_sld (by decide +kernel)) <|
  am_c (ok_i2l (by decide +kernel)) <|
  am_c (ok_bipush (z := 32) (by decide +kernel) (by decide +kernel)) <|
  am_c (ok_lshl (by decide +kernel)) <|
  am_c (ok_aload_n (k := 0) (by decide +kernel) rfl) <|
  am_c (ok_iload (by decide +kernel)) <|
  am_c (ok_iconst (z := 2) (by decide +kernel) (by decide +kernel)) <|
  am_c (ok_iadd (by decide +kernel)) <|
  am_c (ok_sld (by decide +kernel)) <|
  am_c (ok_i2l (by decide +kernel)) <|
  am_c (ok_ldc2 (by decide +kernel) kw_700) <|
  am_c (ok_land (by decide +kernel)) <|
  am_c (ok_lor (by decide +kernel)) <|
  am_c (ok_callV (by decide +kernel) (by decide +kernel) kw_702 kw_703 kw_704 kw_701 (by decide +kernel) (by decide +kernel)) <|
  am_c (ok_aload_n (k := 2) (by decide +kernel) rfl) <|
  am_c (ok_aload_n (k := 0) (by decide +kernel) rfl) <|
  am_c (ok_iload (by decide +kernel)) <|
  am_c (ok_iconst (z := 1) (by decide +kernel) (by decide +kernel)) <|
  am_n
def k_c161_2 : List (Nat × am_A) := [(123, ac_ii (fun x y => x + y) 124), (124, ac_sld 125), (125, ac_il (fun x => x.toInt64) 126), (126, ac_push (.int 32) 128), (128, ac_li (fun x y => x <<< (y.toInt64 &&& 63)) 129), (129, ac_aload 0 130), (130, ac_iload 4 132), (132, ac_push (.int 2) 133), (133, ac_ii (fun x y => x + y) 134), (134, ac_sld 135), (135, ac_il (fun x => x.toInt64) 136), (136, ac_push (.long 4294967295) 139), (139, ac_ll (fun x y => x &&& y) 140), (140, ac_ll (fun x y => x ||| y) 141), (141, ac_callV 6 95 2 144 am_nohd), (144, ac_if2 (fun x y => x = y) 695 147), (147, ac_push (.int 0) 148), (148, ac_zret), (149, ac_aload 1 150), (150, ac_callV 5 38 1 153 am_nohd), (153, ac_aload 2 154), (154, ac_callV 6 96 1 157 am_nohd), (157, ac_goto 695), (160, ac_aload 1 161)]
theorem k_p161_2 : ∀ q ∈ k_c161_2, am_Ok k_nm D cA B0 sb H00 (k_Th B0 sb H00) code "TokenMouthLaw" "law" [] (some .boolean) q.1 q.2 :=
  am_c (ok_iadd (by decide +kernel)) <|
  am_c (ok_sld (by decide +kernel)) <|
  am_c (ok_i2l (by decide +kernel)) <|
  am_c (ok_bipush (z := 32) (by decide +kernel) (by decide +kernel)) <|
  am_c (ok_lshl (by decide +kernel)) <|
  am_c (ok_aload_n (k := 0) (by decide +kernel) rfl) <|
  am_c (ok_iload (by decide +kernel)) <|
  am_c (ok_iconst (z := 2) (by decide +kernel) (by decide +kernel)) <|
  am_c (ok_iadd (by decide +kernel)) <|
  am_c (ok_sld (by decide +kernel)) <|
  am_c (ok_i2l (by decide +kernel)) <|
  am_c (ok_ldc2 (by decide +kernel) kw_700) <|
  am_c (ok_land (by decide +kernel)) <|
  am_c (ok_lor (by decide +kernel)) <|
  am_c (ok_callV (by decide +kernel) (by decide +kernel) kw_706 kw_707 kw_708 kw_705 (by decide +kernel) (by decide +kernel)) <|
  am_c (ok_icmpeq (off := 551) (by decide +kernel) (by decide +kernel)) <|
  am_c (ok_iconst (z := 0) (by decide +kernel) (by decide +kernel)) <|
  am_c (ok_zret (by decide +kernel) rfl) <|
  am_c (ok_aload_n (k := 1) (by decide +kernel) rfl) <|
  am_c (ok_callV (by decide +kernel) (by decide +kernel) kw_710 kw_711 kw_712 kw_709 (by decide +kernel) (by decide +kernel)) <|
  am_c (ok_aload_n (k := 2) (by decide +kernel) rfl) <|
  am_c (ok_callV (by decide +kernel) (by decide +kernel) kw_714 kw_715 kw_716 kw_713 (by decide +kernel) (by decide +kernel)) <|
  am_c (ok_goto (off := 538) (by decide +kernel) (by decide +kernel)) <|
  am_c (ok_aload_n (k := 1) (by decide +kernel) rfl) <|
  am_n
def k_c161_3 : List (Nat × am_A) := [(161, ac_callV 5 39 1 164 am_nohd), (164, ac_aload 2 165), (165, ac_callV 6 97 1 168 am_nohd), (168, ac_goto 695), (171, ac_aload 1 172), (172, ac_aload 0 173), (173, ac_iload 4 175), (175, ac_push (.int 1) 176), (176, ac_ii (fun x y => x + y) 177), (177, ac_sld 178), (178, ac_aload 3 179), (179, ac_callS 154 3 182), (182, ac_istore 5 184), (184, ac_aload 2 185), (185, ac_aload 0 186), (186, ac_iload 4 188), (188, ac_push (.int 1) 189), (189, ac_ii (fun x y => x + y) 190), (190, ac_sld 191), (191, ac_callV 6 145 2 194 am_nohd), (194, ac_istore 6 196), (196, ac_aload 2 197), (197, ac_callV 6 93 1 200 am_nohd), (200, ac_iload 5 202)]
theorem k_p161_3 : ∀ q ∈ k_c161_3, am_Ok k_nm D cA B0 sb H00 (k_Th B0 sb H00) code "TokenMouthLaw" "law" [] (some .boolean) q.1 q.2 :=
  am_c (ok_callV (by decide +kernel) (by decide +kernel) kw_718 kw_719 kw_720 kw_717 (by decide +kernel) (by decide +kernel)) <|
  am_c (ok_aload_n (k := 2) (by decide +kernel) rfl) <|
  am_c (ok_callV (by decide +kernel) (by decide +kernel) kw_722 kw_723 kw_724 kw_721 (by decide +kernel) (by decide +kernel)) <|
  am_c (ok_goto (off := 527) (by decide +kernel) (by decide +kernel)) <|
  am_c (ok_aload_n (k := 1) (by decide +kernel) rfl) <|
  am_c (ok_aload_n (k := 0) (by decide +kernel) rfl) <|
  am_c (ok_iload (by decide +kernel)) <|
  am_c (ok_iconst (z := 1) (by decide +kernel) (by decide +kernel)) <|
  am_c (ok_iadd (by decide +kernel)) <|
  am_c (ok_sld (by decide +kernel)) <|
  am_c (ok_aload_n (k := 3) (by decide +kernel) rfl) <|
  am_c (ok_callSW (by decide +kernel) kw_727 kw_728 kw_726 kw_725 (by decide +kernel) (by decide +kernel)) <|
  am_c (ok_istore (by decide +kernel)) <|
  am_c (ok_aload_n (k := 2) (by decide +kernel) rfl) <|
  am_c (ok_aload_n (k := 0) (by decide +kernel) rfl) <|
  am_c (ok_iload (by decide +kernel)) <|
  am_c (ok_iconst (z := 1) (by decide +kernel) (by decide +kernel)) <|
  am_c (ok_iadd (by decide +kernel)) <|
  am_c (ok_sld (by decide +kernel)) <|
  am_c (ok_callV (by decide +kernel) (by decide +kernel) kw_730 kw_731 kw_732 kw_729 (by decide +kernel) (by decide +kernel)) <|
  am_c (ok_istore (by decide +kernel)) <|
  am_c (ok_aload_n (k := 2) (by decide +kernel) rfl) <|
  am_c (ok_callV (by decide +kernel) (by decide +kernel) kw_734 kw_735 kw_736 kw_733 (by decide +kernel) (by decide +kernel)) <|
  am_c (ok_iload (by decide +kernel)) <|
  am_n
def k_c161_4 : List (Nat × am_A) := [(202, ac_if2 (fun x y => x = y) 207 205), (205, ac_push (.int 0) 206), (206, ac_zret), (207, ac_iload 5 209), (209, ac_if1 (fun x => ¬ x = 0) 224 212), (212, ac_aload 3 213), (213, ac_push (.int 0) 214), (214, ac_lald 215), (215, ac_iload 6 217), (217, ac_il (fun x => x.toInt64) 218), (218, ac_lli lg_cmp 219), (219, ac_if1 (fun x => x = 0) 224 222), (222, ac_push (.int 0) 223), (223, ac_zret), (224, ac_goto 695), (227, ac_aload 1 228), (228, ac_aload 0 229), (229, ac_iload 4 231), (231, ac_push (.int 1) 232), (232, ac_ii (fun x y => x + y) 233), (233, ac_sld 234), (234, ac_aload 3 235), (235, ac_callS 155 3 238), (238, ac_istore 5 240)]
theorem k_p161_4 : ∀ q ∈ k_c161_4, am_Ok k_nm D cA B0 sb H00 (k_Th B0 sb H00) code "TokenMouthLaw" "law" [] (some .boolean) q.1 q.2 :=
  am_c (ok_icmpeq (off := 5) (by decide +kernel) (by decide +kernel)) <|
  am_c (ok_iconst (z := 0) (by decide +kernel) (by decide +kernel)) <|
  am_c (ok_zret (by decide +kernel) rfl) <|
  am_c (ok_iload (by decide +kernel)) <|
  am_c (ok_ifne (off := 15) (by decide +kernel) (by decide +kernel)) <|
  am_c (ok_aload_n (k := 3) (by decide +kernel) rfl) <|
  am_c (ok_iconst (z := 0) (by decide +kernel) (by decide +kernel)) <|
  am_c (ok_lald (by decide +kernel)) <|
  am_c (ok_iload (by decide +kernel)) <|
  am_c (ok_i2l (by decide +kernel)) <|
  am_c (ok_lcmp (by decide +kernel)) <|
  am_c (ok_ifeq (off := 5) (by decide +kernel) (by decide +kernel)) <|
  am_c (ok_iconst (z := 0) (by decide +kernel) (by decide +kernel)) <|
  am_c (ok_zret (by decide +kernel) rfl) <|
  am_c (ok_goto (off := 471) (by decide +kernel) (by decide +kernel)) <|
  am_c (ok_aload_n (k := 1) (by decide +kernel) rfl) <|
  am_c (ok_aload_n (k := 0) (by decide +kernel) rfl) <|
  am_c (ok_iload (by decide +kernel)) <|
  am_c (ok_iconst (z := 1) (by decide +kernel) (by decide +kernel)) <|
  am_c (ok_iadd (by decide +kernel)) <|
  am_c (ok_sld (by decide +kernel)) <|
  am_c (ok_aload_n (k := 3) (by decide +kernel) rfl) <|
  am_c (ok_callSW (by decide +kernel) kw_738 kw_739 kw_726 kw_737 (by decide +kernel) (by decide +kernel)) <|
  am_c (ok_istore (by decide +kernel)) <|
  am_n
def k_c161_5 : List (Nat × am_A) := [(240, ac_aload 2 241), (241, ac_aload 0 242), (242, ac_iload 4 244), (244, ac_push (.int 1) 245), (245, ac_ii (fun x y => x + y) 246), (246, ac_sld 247), (247, ac_callV 6 147 2 250 am_nohd), (250, ac_istore 6 252), (252, ac_aload 2 253), (253, ac_callV 6 93 1 256 am_nohd), (256, ac_iload 5 258), (258, ac_if2 (fun x y => x = y) 263 261), (261, ac_push (.int 0) 262), (262, ac_zret), (263, ac_iload 5 265), (265, ac_if1 (fun x => ¬ x = 0) 280 268), (268, ac_aload 3 269), (269, ac_push (.int 0) 270), (270, ac_lald 271), (271, ac_iload 6 273), (273, ac_il (fun x => x.toInt64) 274), (274, ac_lli lg_cmp 275), (275, ac_if1 (fun x => x = 0) 280 278), (278, ac_push (.int 0) 279)]
theorem k_p161_5 : ∀ q ∈ k_c161_5, am_Ok k_nm D cA B0 sb H00 (k_Th B0 sb H00) code "TokenMouthLaw" "law" [] (some .boolean) q.1 q.2 :=
  am_c (ok_aload_n (k := 2) (by decide +kernel) rfl) <|
  am_c (ok_aload_n (k := 0) (by decide +kernel) rfl) <|
  am_c (ok_iload (by decide +kernel)) <|
  am_c (ok_iconst (z := 1) (by decide +kernel) (by decide +kernel)) <|
  am_c (ok_iadd (by decide +kernel)) <|
  am_c (ok_sld (by decide +kernel)) <|
  am_c (ok_callV (by decide +kernel) (by decide +kernel) kw_741 kw_742 kw_743 kw_740 (by decide +kernel) (by decide +kernel)) <|
  am_c (ok_istore (by decide +kernel)) <|
  am_c (ok_aload_n (k := 2) (by decide +kernel) rfl) <|
  am_c (ok_callV (by decide +kernel) (by decide +kernel) kw_734 kw_735 kw_736 kw_733 (by decide +kernel) (by decide +kernel)) <|
  am_c (ok_iload (by decide +kernel)) <|
  am_c (ok_icmpeq (off := 5) (by decide +kernel) (by decide +kernel)) <|
  am_c (ok_iconst (z := 0) (by decide +kernel) (by decide +kernel)) <|
  am_c (ok_zret (by decide +kernel) rfl) <|
  am_c (ok_iload (by decide +kernel)) <|
  am_c (ok_ifne (off := 15) (by decide +kernel) (by decide +kernel)) <|
  am_c (ok_aload_n (k := 3) (by decide +kernel) rfl) <|
  am_c (ok_iconst (z := 0) (by decide +kernel) (by decide +kernel)) <|
  am_c (ok_lald (by decide +kernel)) <|
  am_c (ok_iload (by decide +kernel)) <|
  am_c (ok_i2l (by decide +kernel)) <|
  am_c (ok_lcmp (by decide +kernel)) <|
  am_c (ok_ifeq (off := 5) (by decide +kernel) (by decide +kernel)) <|
  am_c (ok_iconst (z := 0) (by decide +kernel) (by decide +kernel)) <|
  am_n
def k_c161_6 : List (Nat × am_A) := [(279, ac_zret), (280, ac_goto 695), (283, ac_aload 1 284), (284, ac_aload 0 285), (285, ac_iload 4 287), (287, ac_push (.int 1) 288), (288, ac_ii (fun x y => x + y) 289), (289, ac_sld 290), (290, ac_aload 3 291), (291, ac_callS 156 3 294), (294, ac_istore 5 296), (296, ac_aload 2 297), (297, ac_aload 0 298), (298, ac_iload 4 300), (300, ac_push (.int 1) 301), (301, ac_ii (fun x y => x + y) 302), (302, ac_sld 303), (303, ac_callV 6 148 2 306 am_nohd), (306, ac_istore 6 308), (308, ac_aload 2 309), (309, ac_callV 6 93 1 312 am_nohd), (312, ac_iload 5 314), (314, ac_if2 (fun x y => x = y) 319 317), (317, ac_push (.int 0) 318)]
theorem k_p161_6 : ∀ q ∈ k_c161_6, am_Ok k_nm D cA B0 sb H00 (k_Th B0 sb H00) code "TokenMouthLaw" "law" [] (some .boolean) q.1 q.2 :=
  am_c (ok_zret (by decide +kernel) rfl) <|
  am_c (ok_goto (off := 415) (by decide +kernel) (by decide +kernel)) <|
  am_c (ok_aload_n (k := 1) (by decide +kernel) rfl) <|
  am_c (ok_aload_n (k := 0) (by decide +kernel) rfl) <|
  am_c (ok_iload (by decide +kernel)) <|
  am_c (ok_iconst (z := 1) (by decide +kernel) (by decide +kernel)) <|
  am_c (ok_iadd (by decide +kernel)) <|
  am_c (ok_sld (by decide +kernel)) <|
  am_c (ok_aload_n (k := 3) (by decide +kernel) rfl) <|
  am_c (ok_callSW (by decide +kernel) kw_745 kw_746 kw_726 kw_744 (by decide +kernel) (by decide +kernel)) <|
  am_c (ok_istore (by decide +kernel)) <|
  am_c (ok_aload_n (k := 2) (by decide +kernel) rfl) <|
  am_c (ok_aload_n (k := 0) (by decide +kernel) rfl) <|
  am_c (ok_iload (by decide +kernel)) <|
  am_c (ok_iconst (z := 1) (by decide +kernel) (by decide +kernel)) <|
  am_c (ok_iadd (by decide +kernel)) <|
  am_c (ok_sld (by decide +kernel)) <|
  am_c (ok_callV (by decide +kernel) (by decide +kernel) kw_748 kw_749 kw_750 kw_747 (by decide +kernel) (by decide +kernel)) <|
  am_c (ok_istore (by decide +kernel)) <|
  am_c (ok_aload_n (k := 2) (by decide +kernel) rfl) <|
  am_c (ok_callV (by decide +kernel) (by decide +kernel) kw_734 kw_735 kw_736 kw_733 (by decide +kernel) (by decide +kernel)) <|
  am_c (ok_iload (by decide +kernel)) <|
  am_c (ok_icmpeq (off := 5) (by decide +kernel) (by decide +kernel)) <|
  am_c (ok_iconst (z := 0) (by decide +kernel) (by decide +kernel)) <|
  am_n
def k_c161_7 : List (Nat × am_A) := [(318, ac_zret), (319, ac_iload 5 321), (321, ac_if1 (fun x => ¬ x = 0) 336 324), (324, ac_aload 3 325), (325, ac_push (.int 0) 326), (326, ac_lald 327), (327, ac_iload 6 329), (329, ac_il (fun x => x.toInt64) 330), (330, ac_lli lg_cmp 331), (331, ac_if1 (fun x => x = 0) 336 334), (334, ac_push (.int 0) 335), (335, ac_zret), (336, ac_goto 695), (339, ac_aload 1 340), (340, ac_aload 0 341), (341, ac_iload 4 343), (343, ac_push (.int 1) 344), (344, ac_ii (fun x y => x + y) 345), (345, ac_sld 346), (346, ac_aload 3 347), (347, ac_callS 157 3 350), (350, ac_istore 5 352), (352, ac_aload 2 353), (353, ac_aload 0 354)]
theorem k_p161_7 : ∀ q ∈ k_c161_7, am_Ok k_nm D cA B0 sb H00 (k_Th B0 sb H00) code "TokenMouthLaw" "law" [] (some .boolean) q.1 q.2 :=
  am_c (ok_zret (by decide +kernel) rfl) <|
  am_c (ok_iload (by decide +kernel)) <|
  am_c (ok_ifne (off := 15) (by decide +kernel) (by decide +kernel)) <|
  am_c (ok_aload_n (k := 3) (by decide +kernel) rfl) <|
  am_c (ok_iconst (z := 0) (by decide +kernel) (by decide +kernel)) <|
  am_c (ok_lald (by decide +kernel)) <|
  am_c (ok_iload (by decide +kernel)) <|
  am_c (ok_i2l (by decide +kernel)) <|
  am_c (ok_lcmp (by decide +kernel)) <|
  am_c (ok_ifeq (off := 5) (by decide +kernel) (by decide +kernel)) <|
  am_c (ok_iconst (z := 0) (by decide +kernel) (by decide +kernel)) <|
  am_c (ok_zret (by decide +kernel) rfl) <|
  am_c (ok_goto (off := 359) (by decide +kernel) (by decide +kernel)) <|
  am_c (ok_aload_n (k := 1) (by decide +kernel) rfl) <|
  am_c (ok_aload_n (k := 0) (by decide +kernel) rfl) <|
  am_c (ok_iload (by decide +kernel)) <|
  am_c (ok_iconst (z := 1) (by decide +kernel) (by decide +kernel)) <|
  am_c (ok_iadd (by decide +kernel)) <|
  am_c (ok_sld (by decide +kernel)) <|
  am_c (ok_aload_n (k := 3) (by decide +kernel) rfl) <|
  am_c (ok_callSW (by decide +kernel) kw_752 kw_753 kw_726 kw_751 (by decide +kernel) (by decide +kernel)) <|
  am_c (ok_istore (by decide +kernel)) <|
  am_c (ok_aload_n (k := 2) (by decide +kernel) rfl) <|
  am_c (ok_aload_n (k := 0) (by decide +kernel) rfl) <|
  am_n
def k_c161_8 : List (Nat × am_A) := [(354, ac_iload 4 356), (356, ac_push (.int 1) 357), (357, ac_ii (fun x y => x + y) 358), (358, ac_sld 359), (359, ac_callV 6 149 2 362 am_nohd), (362, ac_istore 6 364), (364, ac_aload 2 365), (365, ac_callV 6 93 1 368 am_nohd), (368, ac_iload 5 370), (370, ac_if2 (fun x y => x = y) 375 373), (373, ac_push (.int 0) 374), (374, ac_zret), (375, ac_iload 5 377), (377, ac_if1 (fun x => ¬ x = 0) 392 380), (380, ac_aload 3 381), (381, ac_push (.int 0) 382), (382, ac_lald 383), (383, ac_iload 6 385), (385, ac_il (fun x => x.toInt64) 386), (386, ac_lli lg_cmp 387), (387, ac_if1 (fun x => x = 0) 392 390), (390, ac_push (.int 0) 391), (391, ac_zret), (392, ac_goto 695)]
theorem k_p161_8 : ∀ q ∈ k_c161_8, am_Ok k_nm D cA B0 sb H00 (k_Th B0 sb H00) code "TokenMouthLaw" "law" [] (some .boolean) q.1 q.2 :=
  am_c (ok_iload (by decide +kernel)) <|
  am_c (ok_iconst (z := 1) (by decide +kernel) (by decide +kernel)) <|
  am_c (ok_iadd (by decide +kernel)) <|
  am_c (ok_sld (by decide +kernel)) <|
  am_c (ok_callV (by decide +kernel) (by decide +kernel) kw_755 kw_756 kw_757 kw_754 (by decide +kernel) (by decide +kernel)) <|
  am_c (ok_istore (by decide +kernel)) <|
  am_c (ok_aload_n (k := 2) (by decide +kernel) rfl) <|
  am_c (ok_callV (by decide +kernel) (by decide +kernel) kw_734 kw_735 kw_736 kw_733 (by decide +kernel) (by decide +kernel)) <|
  am_c (ok_iload (by decide +kernel)) <|
  am_c (ok_icmpeq (off := 5) (by decide +kernel) (by decide +kernel)) <|
  am_c (ok_iconst (z := 0) (by decide +kernel) (by decide +kernel)) <|
  am_c (ok_zret (by decide +kernel) rfl) <|
  am_c (ok_iload (by decide +kernel)) <|
  am_c (ok_ifne (off := 15) (by decide +kernel) (by decide +kernel)) <|
  am_c (ok_aload_n (k := 3) (by decide +kernel) rfl) <|
  am_c (ok_iconst (z := 0) (by decide +kernel) (by decide +kernel)) <|
  am_c (ok_lald (by decide +kernel)) <|
  am_c (ok_iload (by decide +kernel)) <|
  am_c (ok_i2l (by decide +kernel)) <|
  am_c (ok_lcmp (by decide +kernel)) <|
  am_c (ok_ifeq (off := 5) (by decide +kernel) (by decide +kernel)) <|
  am_c (ok_iconst (z := 0) (by decide +kernel) (by decide +kernel)) <|
  am_c (ok_zret (by decide +kernel) rfl) <|
  am_c (ok_goto (off := 303) (by decide +kernel) (by decide +kernel)) <|
  am_n
def k_c161_9 : List (Nat × am_A) := [(395, ac_aload 1 396), (396, ac_aload 0 397), (397, ac_iload 4 399), (399, ac_push (.int 1) 400), (400, ac_ii (fun x y => x + y) 401), (401, ac_sld 402), (402, ac_aload 3 403), (403, ac_callS 158 3 406), (406, ac_istore 5 408), (408, ac_aload 2 409), (409, ac_aload 0 410), (410, ac_iload 4 412), (412, ac_push (.int 1) 413), (413, ac_ii (fun x y => x + y) 414), (414, ac_sld 415), (415, ac_callV 6 150 2 418 am_nohd), (418, ac_istore 6 420), (420, ac_aload 2 421), (421, ac_callV 6 93 1 424 am_nohd), (424, ac_iload 5 426), (426, ac_if2 (fun x y => x = y) 431 429), (429, ac_push (.int 0) 430), (430, ac_zret), (431, ac_iload 5 433)]
theorem k_p161_9 : ∀ q ∈ k_c161_9, am_Ok k_nm D cA B0 sb H00 (k_Th B0 sb H00) code "TokenMouthLaw" "law" [] (some .boolean) q.1 q.2 :=
  am_c (ok_aload_n (k := 1) (by decide +kernel) rfl) <|
  am_c (ok_aload_n (k := 0) (by decide +kernel) rfl) <|
  am_c (ok_iload (by decide +kernel)) <|
  am_c (ok_iconst (z := 1) (by decide +kernel) (by decide +kernel)) <|
  am_c (ok_iadd (by decide +kernel)) <|
  am_c (ok_sld (by decide +kernel)) <|
  am_c (ok_aload_n (k := 3) (by decide +kernel) rfl) <|
  am_c (ok_callSW (by decide +kernel) kw_759 kw_760 kw_726 kw_758 (by decide +kernel) (by decide +kernel)) <|
  am_c (ok_istore (by decide +kernel)) <|
  am_c (ok_aload_n (k := 2) (by decide +kernel) rfl) <|
  am_c (ok_aload_n (k := 0) (by decide +kernel) rfl) <|
  am_c (ok_iload (by decide +kernel)) <|
  am_c (ok_iconst (z := 1) (by decide +kernel) (by decide +kernel)) <|
  am_c (ok_iadd (by decide +kernel)) <|
  am_c (ok_sld (by decide +kernel)) <|
  am_c (ok_callV (by decide +kernel) (by decide +kernel) kw_762 kw_763 kw_764 kw_761 (by decide +kernel) (by decide +kernel)) <|
  am_c (ok_istore (by decide +kernel)) <|
  am_c (ok_aload_n (k := 2) (by decide +kernel) rfl) <|
  am_c (ok_callV (by decide +kernel) (by decide +kernel) kw_734 kw_735 kw_736 kw_733 (by decide +kernel) (by decide +kernel)) <|
  am_c (ok_iload (by decide +kernel)) <|
  am_c (ok_icmpeq (off := 5) (by decide +kernel) (by decide +kernel)) <|
  am_c (ok_iconst (z := 0) (by decide +kernel) (by decide +kernel)) <|
  am_c (ok_zret (by decide +kernel) rfl) <|
  am_c (ok_iload (by decide +kernel)) <|
  am_n
def k_c161_10 : List (Nat × am_A) := [(433, ac_if1 (fun x => ¬ x = 0) 448 436), (436, ac_aload 3 437), (437, ac_push (.int 0) 438), (438, ac_lald 439), (439, ac_iload 6 441), (441, ac_il (fun x => x.toInt64) 442), (442, ac_lli lg_cmp 443), (443, ac_if1 (fun x => x = 0) 448 446), (446, ac_push (.int 0) 447), (447, ac_zret), (448, ac_goto 695), (451, ac_aload 1 452), (452, ac_aload 0 453), (453, ac_iload 4 455), (455, ac_push (.int 1) 456), (456, ac_ii (fun x y => x + y) 457), (457, ac_sld 458), (458, ac_il (fun x => x.toInt64) 459), (459, ac_push (.int 32) 461), (461, ac_li (fun x y => x <<< (y.toInt64 &&& 63)) 462), (462, ac_aload 0 463), (463, ac_iload 4 465), (465, ac_push (.int 2) 466), (466, ac_ii (fun x y => x + y) 467)]
theorem k_p161_10 : ∀ q ∈ k_c161_10, am_Ok k_nm D cA B0 sb H00 (k_Th B0 sb H00) code "TokenMouthLaw" "law" [] (some .boolean) q.1 q.2 :=
  am_c (ok_ifne (off := 15) (by decide +kernel) (by decide +kernel)) <|
  am_c (ok_aload_n (k := 3) (by decide +kernel) rfl) <|
  am_c (ok_iconst (z := 0) (by decide +kernel) (by decide +kernel)) <|
  am_c (ok_lald (by decide +kernel)) <|
  am_c (ok_iload (by decide +kernel)) <|
  am_c (ok_i2l (by decide +kernel)) <|
  am_c (ok_lcmp (by decide +kernel)) <|
  am_c (ok_ifeq (off := 5) (by decide +kernel) (by decide +kernel)) <|
  am_c (ok_iconst (z := 0) (by decide +kernel) (by decide +kernel)) <|
  am_c (ok_zret (by decide +kernel) rfl) <|
  am_c (ok_goto (off := 247) (by decide +kernel) (by decide +kernel)) <|
  am_c (ok_aload_n (k := 1) (by decide +kernel) rfl) <|
  am_c (ok_aload_n (k := 0) (by decide +kernel) rfl) <|
  am_c (ok_iload (by decide +kernel)) <|
  am_c (ok_iconst (z := 1) (by decide +kernel) (by decide +kernel)) <|
  am_c (ok_iadd (by decide +kernel)) <|
  am_c (ok_sld (by decide +kernel)) <|
  am_c (ok_i2l (by decide +kernel)) <|
  am_c (ok_bipush (z := 32) (by decide +kernel) (by decide +kernel)) <|
  am_c (ok_lshl (by decide +kernel)) <|
  am_c (ok_aload_n (k := 0) (by decide +kernel) rfl) <|
  am_c (ok_iload (by decide +kernel)) <|
  am_c (ok_iconst (z := 2) (by decide +kernel) (by decide +kernel)) <|
  am_c (ok_iadd (by decide +kernel)) <|
  am_n
def k_c161_11 : List (Nat × am_A) := [(467, ac_sld 468), (468, ac_il (fun x => x.toInt64) 469), (469, ac_push (.long 4294967295) 472), (472, ac_ll (fun x y => x &&& y) 473), (473, ac_ll (fun x y => x ||| y) 474), (474, ac_aload 0 475), (475, ac_iload 4 477), (477, ac_push (.int 3) 478), (478, ac_ii (fun x y => x + y) 479), (479, ac_sld 480), (480, ac_if1 (fun x => x = 0) 487 483), (483, ac_push (.int 1) 484), (484, ac_goto 488), (487, ac_push (.int 0) 488), (488, ac_aload 3 489), (489, ac_callS 159 4 492), (492, ac_istore 5 494), (494, ac_aload 2 495), (495, ac_aload 0 496), (496, ac_iload 4 498), (498, ac_push (.int 1) 499), (499, ac_ii (fun x y => x + y) 500), (500, ac_sld 501), (501, ac_il (fun x => x.toInt64) 502)]
theorem k_p161_11 : ∀ q ∈ k_c161_11, am_Ok k_nm D cA B0 sb H00 (k_Th B0 sb H00) code "TokenMouthLaw" "law" [] (some .boolean) q.1 q.2 :=
  am_c (ok_sld (by decide +kernel)) <|
  am_c (ok_i2l (by decide +kernel)) <|
  am_c (ok_ldc2 (by decide +kernel) kw_700) <|
  am_c (ok_land (by decide +kernel)) <|
  am_c (ok_lor (by decide +kernel)) <|
  am_c (ok_aload_n (k := 0) (by decide +kernel) rfl) <|
  am_c (ok_iload (by decide +kernel)) <|
  am_c (ok_iconst (z := 3) (by decide +kernel) (by decide +kernel)) <|
  am_c (ok_iadd (by decide +kernel)) <|
  am_c (ok_sld (by decide +kernel)) <|
  am_c (ok_ifeq (off := 7) (by decide +kernel) (by decide +kernel)) <|
  am_c (ok_iconst (z := 1) (by decide +kernel) (by decide +kernel)) <|
  am_c (ok_goto (off := 4) (by decide +kernel) (by decide +kernel)) <|
  am_c (ok_iconst (z := 0) (by decide +kernel) (by decide +kernel)) <|
  am_c (ok_aload_n (k := 3) (by decide +kernel) rfl) <|
  am_c (ok_callSW (by decide +kernel) kw_766 kw_767 kw_726 kw_765 (by decide +kernel) (by decide +kernel)) <|
  am_c (ok_istore (by decide +kernel)) <|
  am_c (ok_aload_n (k := 2) (by decide +kernel) rfl) <|
  am_c (ok_aload_n (k := 0) (by decide +kernel) rfl) <|
  am_c (ok_iload (by decide +kernel)) <|
  am_c (ok_iconst (z := 1) (by decide +kernel) (by decide +kernel)) <|
  am_c (ok_iadd (by decide +kernel)) <|
  am_c (ok_sld (by decide +kernel)) <|
  am_c (ok_i2l (by decide +kernel)) <|
  am_n
def k_c161_12 : List (Nat × am_A) := [(502, ac_push (.int 32) 504), (504, ac_li (fun x y => x <<< (y.toInt64 &&& 63)) 505), (505, ac_aload 0 506), (506, ac_iload 4 508), (508, ac_push (.int 2) 509), (509, ac_ii (fun x y => x + y) 510), (510, ac_sld 511), (511, ac_il (fun x => x.toInt64) 512), (512, ac_push (.long 4294967295) 515), (515, ac_ll (fun x y => x &&& y) 516), (516, ac_ll (fun x y => x ||| y) 517), (517, ac_aload 0 518), (518, ac_iload 4 520), (520, ac_push (.int 3) 521), (521, ac_ii (fun x y => x + y) 522), (522, ac_sld 523), (523, ac_if1 (fun x => x = 0) 530 526), (526, ac_push (.int 1) 527), (527, ac_goto 531), (530, ac_push (.int 0) 531), (531, ac_callV 6 152 3 534 am_nohd), (534, ac_istore 6 536), (536, ac_aload 2 537), (537, ac_callV 6 93 1 540 am_nohd)]
theorem k_p161_12 : ∀ q ∈ k_c161_12, am_Ok k_nm D cA B0 sb H00 (k_Th B0 sb H00) code "TokenMouthLaw" "law" [] (some .boolean) q.1 q.2 :=
  am_c (ok_bipush (z := 32) (by decide +kernel) (by decide +kernel)) <|
  am_c (ok_lshl (by decide +kernel)) <|
  am_c (ok_aload_n (k := 0) (by decide +kernel) rfl) <|
  am_c (ok_iload (by decide +kernel)) <|
  am_c (ok_iconst (z := 2) (by decide +kernel) (by decide +kernel)) <|
  am_c (ok_iadd (by decide +kernel)) <|
  am_c (ok_sld (by decide +kernel)) <|
  am_c (ok_i2l (by decide +kernel)) <|
  am_c (ok_ldc2 (by decide +kernel) kw_700) <|
  am_c (ok_land (by decide +kernel)) <|
  am_c (ok_lor (by decide +kernel)) <|
  am_c (ok_aload_n (k := 0) (by decide +kernel) rfl) <|
  am_c (ok_iload (by decide +kernel)) <|
  am_c (ok_iconst (z := 3) (by decide +kernel) (by decide +kernel)) <|
  am_c (ok_iadd (by decide +kernel)) <|
  am_c (ok_sld (by decide +kernel)) <|
  am_c (ok_ifeq (off := 7) (by decide +kernel) (by decide +kernel)) <|
  am_c (ok_iconst (z := 1) (by decide +kernel) (by decide +kernel)) <|
  am_c (ok_goto (off := 4) (by decide +kernel) (by decide +kernel)) <|
  am_c (ok_iconst (z := 0) (by decide +kernel) (by decide +kernel)) <|
  am_c (ok_callV (by decide +kernel) (by decide +kernel) kw_769 kw_770 kw_771 kw_768 (by decide +kernel) (by decide +kernel)) <|
  am_c (ok_istore (by decide +kernel)) <|
  am_c (ok_aload_n (k := 2) (by decide +kernel) rfl) <|
  am_c (ok_callV (by decide +kernel) (by decide +kernel) kw_734 kw_735 kw_736 kw_733 (by decide +kernel) (by decide +kernel)) <|
  am_n
def k_c161_13 : List (Nat × am_A) := [(540, ac_iload 5 542), (542, ac_if2 (fun x y => x = y) 547 545), (545, ac_push (.int 0) 546), (546, ac_zret), (547, ac_iload 5 549), (549, ac_if1 (fun x => ¬ x = 0) 564 552), (552, ac_aload 3 553), (553, ac_push (.int 0) 554), (554, ac_lald 555), (555, ac_iload 6 557), (557, ac_il (fun x => x.toInt64) 558), (558, ac_lli lg_cmp 559), (559, ac_if1 (fun x => x = 0) 564 562), (562, ac_push (.int 0) 563), (563, ac_zret), (564, ac_goto 695), (567, ac_aload 1 568), (568, ac_aload 0 569), (569, ac_iload 4 571), (571, ac_push (.int 1) 572), (572, ac_ii (fun x y => x + y) 573), (573, ac_sld 574), (574, ac_il (fun x => x.toInt64) 575), (575, ac_push (.int 32) 577)]
theorem k_p161_13 : ∀ q ∈ k_c161_13, am_Ok k_nm D cA B0 sb H00 (k_Th B0 sb H00) code "TokenMouthLaw" "law" [] (some .boolean) q.1 q.2 :=
  am_c (ok_iload (by decide +kernel)) <|
  am_c (ok_icmpeq (off := 5) (by decide +kernel) (by decide +kernel)) <|
  am_c (ok_iconst (z := 0) (by decide +kernel) (by decide +kernel)) <|
  am_c (ok_zret (by decide +kernel) rfl) <|
  am_c (ok_iload (by decide +kernel)) <|
  am_c (ok_ifne (off := 15) (by decide +kernel) (by decide +kernel)) <|
  am_c (ok_aload_n (k := 3) (by decide +kernel) rfl) <|
  am_c (ok_iconst (z := 0) (by decide +kernel) (by decide +kernel)) <|
  am_c (ok_lald (by decide +kernel)) <|
  am_c (ok_iload (by decide +kernel)) <|
  am_c (ok_i2l (by decide +kernel)) <|
  am_c (ok_lcmp (by decide +kernel)) <|
  am_c (ok_ifeq (off := 5) (by decide +kernel) (by decide +kernel)) <|
  am_c (ok_iconst (z := 0) (by decide +kernel) (by decide +kernel)) <|
  am_c (ok_zret (by decide +kernel) rfl) <|
  am_c (ok_goto (off := 131) (by decide +kernel) (by decide +kernel)) <|
  am_c (ok_aload_n (k := 1) (by decide +kernel) rfl) <|
  am_c (ok_aload_n (k := 0) (by decide +kernel) rfl) <|
  am_c (ok_iload (by decide +kernel)) <|
  am_c (ok_iconst (z := 1) (by decide +kernel) (by decide +kernel)) <|
  am_c (ok_iadd (by decide +kernel)) <|
  am_c (ok_sld (by decide +kernel)) <|
  am_c (ok_i2l (by decide +kernel)) <|
  am_c (ok_bipush (z := 32) (by decide +kernel) (by decide +kernel)) <|
  am_n
def k_c161_14 : List (Nat × am_A) := [(577, ac_li (fun x y => x <<< (y.toInt64 &&& 63)) 578), (578, ac_aload 0 579), (579, ac_iload 4 581), (581, ac_push (.int 2) 582), (582, ac_ii (fun x y => x + y) 583), (583, ac_sld 584), (584, ac_il (fun x => x.toInt64) 585), (585, ac_push (.long 4294967295) 588), (588, ac_ll (fun x y => x &&& y) 589), (589, ac_ll (fun x y => x ||| y) 590), (590, ac_aload 0 591), (591, ac_iload 4 593), (593, ac_push (.int 3) 594), (594, ac_ii (fun x y => x + y) 595), (595, ac_sld 596), (596, ac_if1 (fun x => x = 0) 603 599), (599, ac_push (.int 1) 600), (600, ac_goto 604), (603, ac_push (.int 0) 604), (604, ac_aload 0 605), (605, ac_iload 4 607), (607, ac_push (.int 4) 608), (608, ac_ii (fun x y => x + y) 609), (609, ac_sld 610)]
theorem k_p161_14 : ∀ q ∈ k_c161_14, am_Ok k_nm D cA B0 sb H00 (k_Th B0 sb H00) code "TokenMouthLaw" "law" [] (some .boolean) q.1 q.2 :=
  am_c (ok_lshl (by decide +kernel)) <|
  am_c (ok_aload_n (k := 0) (by decide +kernel) rfl) <|
  am_c (ok_iload (by decide +kernel)) <|
  am_c (ok_iconst (z := 2) (by decide +kernel) (by decide +kernel)) <|
  am_c (ok_iadd (by decide +kernel)) <|
  am_c (ok_sld (by decide +kernel)) <|
  am_c (ok_i2l (by decide +kernel)) <|
  am_c (ok_ldc2 (by decide +kernel) kw_700) <|
  am_c (ok_land (by decide +kernel)) <|
  am_c (ok_lor (by decide +kernel)) <|
  am_c (ok_aload_n (k := 0) (by decide +kernel) rfl) <|
  am_c (ok_iload (by decide +kernel)) <|
  am_c (ok_iconst (z := 3) (by decide +kernel) (by decide +kernel)) <|
  am_c (ok_iadd (by decide +kernel)) <|
  am_c (ok_sld (by decide +kernel)) <|
  am_c (ok_ifeq (off := 7) (by decide +kernel) (by decide +kernel)) <|
  am_c (ok_iconst (z := 1) (by decide +kernel) (by decide +kernel)) <|
  am_c (ok_goto (off := 4) (by decide +kernel) (by decide +kernel)) <|
  am_c (ok_iconst (z := 0) (by decide +kernel) (by decide +kernel)) <|
  am_c (ok_aload_n (k := 0) (by decide +kernel) rfl) <|
  am_c (ok_iload (by decide +kernel)) <|
  am_c (ok_iconst (z := 4) (by decide +kernel) (by decide +kernel)) <|
  am_c (ok_iadd (by decide +kernel)) <|
  am_c (ok_sld (by decide +kernel)) <|
  am_n
def k_c161_15 : List (Nat × am_A) := [(610, ac_aload 3 611), (611, ac_callS 160 5 614), (614, ac_istore 5 616), (616, ac_aload 2 617), (617, ac_aload 0 618), (618, ac_iload 4 620), (620, ac_push (.int 1) 621), (621, ac_ii (fun x y => x + y) 622), (622, ac_sld 623), (623, ac_il (fun x => x.toInt64) 624), (624, ac_push (.int 32) 626), (626, ac_li (fun x y => x <<< (y.toInt64 &&& 63)) 627), (627, ac_aload 0 628), (628, ac_iload 4 630), (630, ac_push (.int 2) 631), (631, ac_ii (fun x y => x + y) 632), (632, ac_sld 633), (633, ac_il (fun x => x.toInt64) 634), (634, ac_push (.long 4294967295) 637), (637, ac_ll (fun x y => x &&& y) 638), (638, ac_ll (fun x y => x ||| y) 639), (639, ac_aload 0 640), (640, ac_iload 4 642), (642, ac_push (.int 3) 643)]
theorem k_p161_15 : ∀ q ∈ k_c161_15, am_Ok k_nm D cA B0 sb H00 (k_Th B0 sb H00) code "TokenMouthLaw" "law" [] (some .boolean) q.1 q.2 :=
  am_c (ok_aload_n (k := 3) (by decide +kernel) rfl) <|
  am_c (ok_callSW (by decide +kernel) kw_773 kw_774 kw_726 kw_772 (by decide +kernel) (by decide +kernel)) <|
  am_c (ok_istore (by decide +kernel)) <|
  am_c (ok_aload_n (k := 2) (by decide +kernel) rfl) <|
  am_c (ok_aload_n (k := 0) (by decide +kernel) rfl) <|
  am_c (ok_iload (by decide +kernel)) <|
  am_c (ok_iconst (z := 1) (by decide +kernel) (by decide +kernel)) <|
  am_c (ok_iadd (by decide +kernel)) <|
  am_c (ok_sld (by decide +kernel)) <|
  am_c (ok_i2l (by decide +kernel)) <|
  am_c (ok_bipush (z := 32) (by decide +kernel) (by decide +kernel)) <|
  am_c (ok_lshl (by decide +kernel)) <|
  am_c (ok_aload_n (k := 0) (by decide +kernel) rfl) <|
  am_c (ok_iload (by decide +kernel)) <|
  am_c (ok_iconst (z := 2) (by decide +kernel) (by decide +kernel)) <|
  am_c (ok_iadd (by decide +kernel)) <|
  am_c (ok_sld (by decide +kernel)) <|
  am_c (ok_i2l (by decide +kernel)) <|
  am_c (ok_ldc2 (by decide +kernel) kw_700) <|
  am_c (ok_land (by decide +kernel)) <|
  am_c (ok_lor (by decide +kernel)) <|
  am_c (ok_aload_n (k := 0) (by decide +kernel) rfl) <|
  am_c (ok_iload (by decide +kernel)) <|
  am_c (ok_iconst (z := 3) (by decide +kernel) (by decide +kernel)) <|
  am_n
def k_c161_16 : List (Nat × am_A) := [(643, ac_ii (fun x y => x + y) 644), (644, ac_sld 645), (645, ac_if1 (fun x => x = 0) 652 648), (648, ac_push (.int 1) 649), (649, ac_goto 653), (652, ac_push (.int 0) 653), (653, ac_aload 0 654), (654, ac_iload 4 656), (656, ac_push (.int 4) 657), (657, ac_ii (fun x y => x + y) 658), (658, ac_sld 659), (659, ac_callV 6 153 4 662 am_nohd), (662, ac_istore 6 664), (664, ac_aload 2 665), (665, ac_callV 6 93 1 668 am_nohd), (668, ac_iload 5 670), (670, ac_if2 (fun x y => x = y) 675 673), (673, ac_push (.int 0) 674), (674, ac_zret), (675, ac_iload 5 677), (677, ac_if1 (fun x => ¬ x = 0) 692 680), (680, ac_aload 3 681), (681, ac_push (.int 0) 682), (682, ac_lald 683)]
theorem k_p161_16 : ∀ q ∈ k_c161_16, am_Ok k_nm D cA B0 sb H00 (k_Th B0 sb H00) code "TokenMouthLaw" "law" [] (some .boolean) q.1 q.2 :=
  am_c (ok_iadd (by decide +kernel)) <|
  am_c (ok_sld (by decide +kernel)) <|
  am_c (ok_ifeq (off := 7) (by decide +kernel) (by decide +kernel)) <|
  am_c (ok_iconst (z := 1) (by decide +kernel) (by decide +kernel)) <|
  am_c (ok_goto (off := 4) (by decide +kernel) (by decide +kernel)) <|
  am_c (ok_iconst (z := 0) (by decide +kernel) (by decide +kernel)) <|
  am_c (ok_aload_n (k := 0) (by decide +kernel) rfl) <|
  am_c (ok_iload (by decide +kernel)) <|
  am_c (ok_iconst (z := 4) (by decide +kernel) (by decide +kernel)) <|
  am_c (ok_iadd (by decide +kernel)) <|
  am_c (ok_sld (by decide +kernel)) <|
  am_c (ok_callV (by decide +kernel) (by decide +kernel) kw_776 kw_777 kw_778 kw_775 (by decide +kernel) (by decide +kernel)) <|
  am_c (ok_istore (by decide +kernel)) <|
  am_c (ok_aload_n (k := 2) (by decide +kernel) rfl) <|
  am_c (ok_callV (by decide +kernel) (by decide +kernel) kw_734 kw_735 kw_736 kw_733 (by decide +kernel) (by decide +kernel)) <|
  am_c (ok_iload (by decide +kernel)) <|
  am_c (ok_icmpeq (off := 5) (by decide +kernel) (by decide +kernel)) <|
  am_c (ok_iconst (z := 0) (by decide +kernel) (by decide +kernel)) <|
  am_c (ok_zret (by decide +kernel) rfl) <|
  am_c (ok_iload (by decide +kernel)) <|
  am_c (ok_ifne (off := 15) (by decide +kernel) (by decide +kernel)) <|
  am_c (ok_aload_n (k := 3) (by decide +kernel) rfl) <|
  am_c (ok_iconst (z := 0) (by decide +kernel) (by decide +kernel)) <|
  am_c (ok_lald (by decide +kernel)) <|
  am_n
def k_c161_17 : List (Nat × am_A) := [(683, ac_iload 6 685), (685, ac_il (fun x => x.toInt64) 686), (686, ac_lli lg_cmp 687), (687, ac_if1 (fun x => x = 0) 692 690), (690, ac_push (.int 0) 691), (691, ac_zret), (692, ac_goto 695), (695, ac_iinc 4 5 698), (698, ac_goto 23), (701, ac_push (.int 1) 702), (702, ac_zret)]
theorem k_p161_17 : ∀ q ∈ k_c161_17, am_Ok k_nm D cA B0 sb H00 (k_Th B0 sb H00) code "TokenMouthLaw" "law" [] (some .boolean) q.1 q.2 :=
  am_c (ok_iload (by decide +kernel)) <|
  am_c (ok_i2l (by decide +kernel)) <|
  am_c (ok_lcmp (by decide +kernel)) <|
  am_c (ok_ifeq (off := 5) (by decide +kernel) (by decide +kernel)) <|
  am_c (ok_iconst (z := 0) (by decide +kernel) (by decide +kernel)) <|
  am_c (ok_zret (by decide +kernel) rfl) <|
  am_c (ok_goto (off := 3) (by decide +kernel) (by decide +kernel)) <|
  am_c (ok_iinc (z := 5) (by decide +kernel) (by decide +kernel)) <|
  am_c (ok_goto (off := -675) (by decide +kernel) (by decide +kernel)) <|
  am_c (ok_iconst (z := 1) (by decide +kernel) (by decide +kernel)) <|
  am_c (ok_zret (by decide +kernel) rfl) <|
  am_n
def k_t161 : List (Nat × List (Nat × am_A)) := [(38, k_c161_0), (122, k_c161_1), (160, k_c161_2), (200, k_c161_3), (238, k_c161_4), (278, k_c161_5), (317, k_c161_6), (353, k_c161_7), (392, k_c161_8), (431, k_c161_9), (466, k_c161_10), (501, k_c161_11), (537, k_c161_12), (575, k_c161_13), (609, k_c161_14), (642, k_c161_15), (682, k_c161_16), (702, k_c161_17)]
theorem k_o161 : ∀ c ∈ k_t161, ∀ q ∈ c.2, am_Ok k_nm D cA B0 sb H00 (k_Th B0 sb H00) code "TokenMouthLaw" "law" [] (some .boolean) q.1 q.2 := am_cc (P := fun pc a => am_Ok k_nm D cA B0 sb H00 (k_Th B0 sb H00) code "TokenMouthLaw" "law" [] (some .boolean) pc a) k_p161_0 <| am_cc (P := fun pc a => am_Ok k_nm D cA B0 sb H00 (k_Th B0 sb H00) code "TokenMouthLaw" "law" [] (some .boolean) pc a) k_p161_1 <| am_cc (P := fun pc a => am_Ok k_nm D cA B0 sb H00 (k_Th B0 sb H00) code "TokenMouthLaw" "law" [] (some .boolean) pc a) k_p161_2 <| am_cc (P := fun pc a => am_Ok k_nm D cA B0 sb H00 (k_Th B0 sb H00) code "TokenMouthLaw" "law" [] (some .boolean) pc a) k_p161_3 <| am_cc (P := fun pc a => am_Ok k_nm D cA B0 sb H00 (k_Th B0 sb H00) code "TokenMouthLaw" "law" [] (some .boolean) pc a) k_p161_4 <| am_cc (P := fun pc a => am_Ok k_nm D cA B0 sb H00 (k_Th B0 sb H00) code "TokenMouthLaw" "law" [] (some .boolean) pc a) k_p161_5 <| am_cc (P := fun pc a => am_Ok k_nm D cA B0 sb H00 (k_Th B0 sb H00) code "TokenMouthLaw" "law" [] (some .boolean) pc a) k_p161_6 <| am_cc (P := fun pc a => am_Ok k_nm D cA B0 sb H00 (k_Th B0 sb H00) code "TokenMouthLaw" "law" [] (some .boolean) pc a) k_p161_7 <| am_cc (P := fun pc a => am_Ok k_nm D cA B0 sb H00 (k_Th B0 sb H00) code "TokenMouthLaw" "law" [] (some .boolean) pc a) k_p161_8 <| am_cc (P := fun pc a => am_Ok k_nm D cA B0 sb H00 (k_Th B0 sb H00) code "TokenMouthLaw" "law" [] (some .boolean) pc a) k_p161_9 <| am_cc (P := fun pc a => am_Ok k_nm D cA B0 sb H00 (k_Th B0 sb H00) code "TokenMouthLaw" "law" [] (some .boolean) pc a) k_p161_10 <| am_cc (P := fun pc a => am_Ok k_nm D cA B0 sb H00 (k_Th B0 sb H00) code "TokenMouthLaw" "law" [] (some .boolean) pc a) k_p161_11 <| am_cc (P := fun pc a => am_Ok k_nm D cA B0 sb H00 (k_Th B0 sb H00) code "TokenMouthLaw" "law" [] (some .boolean) pc a) k_p161_12 <| am_cc (P := fun pc a => am_Ok k_nm D cA B0 sb H00 (k_Th B0 sb H00) code "TokenMouthLaw" "law" [] (some .boolean) pc a) k_p161_13 <| am_cc (P := fun pc a => am_Ok k_nm D cA B0 sb H00 (k_Th B0 sb H00) code "TokenMouthLaw" "law" [] (some .boolean) pc a) k_p161_14 <| am_cc (P := fun pc a => am_Ok k_nm D cA B0 sb H00 (k_Th B0 sb H00) code "TokenMouthLaw" "law" [] (some .boolean) pc a) k_p161_15 <| am_cc (P := fun pc a => am_Ok k_nm D cA B0 sb H00 (k_Th B0 sb H00) code "TokenMouthLaw" "law" [] (some .boolean) pc a) k_p161_16 <| am_cc (P := fun pc a => am_Ok k_nm D cA B0 sb H00 (k_Th B0 sb H00) code "TokenMouthLaw" "law" [] (some .boolean) pc a) k_p161_17 <| am_cn0
end
