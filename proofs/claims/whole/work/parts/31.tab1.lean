/-! tables of the methods 23 to 51; printed by wip/whole/emit.py -/
section
variable {D : va_G} {cA : Nat → ClassId} {B0 : Nat} {sb : Nat → Option Nat} {H00 : Heap}
-- 23: TokenMouth$Row.<init>(I)V
def k_c23_0 : List (Nat × am_A) := [(0, ac_aload 0 1), (1, ac_oinit 4), (4, ac_aload 0 5), (5, ac_iload 1 6), (6, ac_push (.int 0) 7), (7, ac_max 10), (10, ac_newa 0 4 12), (12, ac_putR 4 0 15), (15, ac_ret)]
theorem k_p23_0 : ∀ q ∈ k_c23_0, am_Ok k_nm D cA B0 sb H00 (k_Th B0 sb H00) prog_6_method_1_code "TokenMouth$Row" "<init>" [] none q.1 q.2 :=
  am_c (ok_aload_n (k := 0) (by decide +kernel) rfl) <|
  am_c (ok_oinit (by decide +kernel) kw_91 kw_1 kw_oi) <|
  am_c (ok_aload_n (k := 0) (by decide +kernel) rfl) <|
  am_c (ok_iload_n (k := 1) (by decide +kernel) rfl) <|
  am_c (ok_iconst (z := 0) (by decide +kernel) (by decide +kernel)) <|
  am_c (ok_max (by decide +kernel) kw_92 kw_93 kw_94 kw_mx) <|
  am_c (ok_newa (at_ := .int) (by decide +kernel) rfl rfl (by decide +kernel) kw_50) <|
  am_c (ok_putR (by decide +kernel) (by decide +kernel) (ty := (.array .int)) rfl rfl (fun _ => ⟨rfl, rfl⟩) (by decide +kernel) kw_95 (Or.inr ⟨rfl, rfl, rfl⟩)) <|
  am_c (ok_ret (by decide +kernel) rfl) <|
  am_n
def k_t23 : List (Nat × List (Nat × am_A)) := [(15, k_c23_0)]
theorem k_o23 : ∀ c ∈ k_t23, ∀ q ∈ c.2, am_Ok k_nm D cA B0 sb H00 (k_Th B0 sb H00) prog_6_method_1_code "TokenMouth$Row" "<init>" [] none q.1 q.2 := am_cc (P := fun pc a => am_Ok k_nm D cA B0 sb H00 (k_Th B0 sb H00) prog_6_method_1_code "TokenMouth$Row" "<init>" [] none pc a) k_p23_0 <| am_cn0
-- 24: TokenMouth$Row.size()I
def k_c24_0 : List (Nat × am_A) := [(0, ac_aload 0 1), (1, ac_get 0 4 1 4), (4, ac_iret)]
theorem k_p24_0 : ∀ q ∈ k_c24_0, am_Ok k_nm D cA B0 sb H00 (k_Th B0 sb H00) prog_6_method_2_code "TokenMouth$Row" "size" [] (some .int) q.1 q.2 :=
  am_c (ok_aload_n (k := 0) (by decide +kernel) rfl) <|
  am_c (ok_get (by decide +kernel) (by decide +kernel) rfl (by decide +kernel) kw_96) <|
  am_c (ok_iret (by decide +kernel) rfl) <|
  am_n
def k_t24 : List (Nat × List (Nat × am_A)) := [(4, k_c24_0)]
theorem k_o24 : ∀ c ∈ k_t24, ∀ q ∈ c.2, am_Ok k_nm D cA B0 sb H00 (k_Th B0 sb H00) prog_6_method_2_code "TokenMouth$Row" "size" [] (some .int) q.1 q.2 := am_cc (P := fun pc a => am_Ok k_nm D cA B0 sb H00 (k_Th B0 sb H00) prog_6_method_2_code "TokenMouth$Row" "size" [] (some .int) pc a) k_p24_0 <| am_cn0
-- 25: TokenMouth$Row.at(I)I
def k_c25_0 : List (Nat × am_A) := [(0, ac_iload 1 1), (1, ac_if1 (fun x => x < 0) 30 4), (4, ac_iload 1 5), (5, ac_aload 0 6), (6, ac_get 0 4 1 9), (9, ac_if2 (fun x y => y ≤ x) 30 12), (12, ac_iload 1 13), (13, ac_aload 0 14), (14, ac_get 2 4 0 17), (17, ac_alen 18), (18, ac_if2 (fun x y => y ≤ x) 30 21), (21, ac_aload 0 22), (22, ac_get 2 4 0 25), (25, ac_iload 1 26), (26, ac_iald 0 27), (27, ac_goto 31), (30, ac_push (.int (-1)) 31), (31, ac_iret)]
theorem k_p25_0 : ∀ q ∈ k_c25_0, am_Ok k_nm D cA B0 sb H00 (k_Th B0 sb H00) prog_6_method_3_code "TokenMouth$Row" "at" [] (some .int) q.1 q.2 :=
  am_c (ok_iload_n (k := 1) (by decide +kernel) rfl) <|
  am_c (ok_iflt (off := 29) (by decide +kernel) (by decide +kernel)) <|
  am_c (ok_iload_n (k := 1) (by decide +kernel) rfl) <|
  am_c (ok_aload_n (k := 0) (by decide +kernel) rfl) <|
  am_c (ok_get (by decide +kernel) (by decide +kernel) rfl (by decide +kernel) kw_96) <|
  am_c (ok_icmpge (off := 21) (by decide +kernel) (by decide +kernel)) <|
  am_c (ok_iload_n (k := 1) (by decide +kernel) rfl) <|
  am_c (ok_aload_n (k := 0) (by decide +kernel) rfl) <|
  am_c (ok_get (by decide +kernel) (by decide +kernel) rfl (by decide +kernel) kw_95) <|
  am_c (ok_alen (by decide +kernel)) <|
  am_c (ok_icmpge (off := 12) (by decide +kernel) (by decide +kernel)) <|
  am_c (ok_aload_n (k := 0) (by decide +kernel) rfl) <|
  am_c (ok_get (by decide +kernel) (by decide +kernel) rfl (by decide +kernel) kw_95) <|
  am_c (ok_iload_n (k := 1) (by decide +kernel) rfl) <|
  am_c (ok_iald (by decide +kernel)) <|
  am_c (ok_goto (off := 4) (by decide +kernel) (by decide +kernel)) <|
  am_c (ok_iconst (z := -1) (by decide +kernel) (by decide +kernel)) <|
  am_c (ok_iret (by decide +kernel) rfl) <|
  am_n
def k_t25 : List (Nat × List (Nat × am_A)) := [(31, k_c25_0)]
theorem k_o25 : ∀ c ∈ k_t25, ∀ q ∈ c.2, am_Ok k_nm D cA B0 sb H00 (k_Th B0 sb H00) prog_6_method_3_code "TokenMouth$Row" "at" [] (some .int) q.1 q.2 := am_cc (P := fun pc a => am_Ok k_nm D cA B0 sb H00 (k_Th B0 sb H00) prog_6_method_3_code "TokenMouth$Row" "at" [] (some .int) pc a) k_p25_0 <| am_cn0
-- 26: TokenMouth$Row.last()I
def k_c26_0 : List (Nat × am_A) := [(0, ac_aload 0 1), (1, ac_get 0 4 1 4), (4, ac_if1 (fun x => x ≤ 0) 33 7), (7, ac_aload 0 8), (8, ac_get 0 4 1 11), (11, ac_aload 0 12), (12, ac_get 2 4 0 15), (15, ac_alen 16), (16, ac_if2 (fun x y => y < x) 33 19), (19, ac_aload 0 20), (20, ac_get 2 4 0 23), (23, ac_aload 0 24), (24, ac_get 0 4 1 27), (27, ac_push (.int 1) 28), (28, ac_ii (fun x y => x - y) 29), (29, ac_iald 0 30), (30, ac_goto 34), (33, ac_push (.int (-1)) 34), (34, ac_iret)]
theorem k_p26_0 : ∀ q ∈ k_c26_0, am_Ok k_nm D cA B0 sb H00 (k_Th B0 sb H00) prog_6_method_4_code "TokenMouth$Row" "last" [] (some .int) q.1 q.2 :=
  am_c (ok_aload_n (k := 0) (by decide +kernel) rfl) <|
  am_c (ok_get (by decide +kernel) (by decide +kernel) rfl (by decide +kernel) kw_96) <|
  am_c (ok_ifle (off := 29) (by decide +kernel) (by decide +kernel)) <|
  am_c (ok_aload_n (k := 0) (by decide +kernel) rfl) <|
  am_c (ok_get (by decide +kernel) (by decide +kernel) rfl (by decide +kernel) kw_96) <|
  am_c (ok_aload_n (k := 0) (by decide +kernel) rfl) <|
  am_c (ok_get (by decide +kernel) (by decide +kernel) rfl (by decide +kernel) kw_95) <|
  am_c (ok_alen (by decide +kernel)) <|
  am_c (ok_icmpgt (off := 17) (by decide +kernel) (by decide +kernel)) <|
  am_c (ok_aload_n (k := 0) (by decide +kernel) rfl) <|
  am_c (ok_get (by decide +kernel) (by decide +kernel) rfl (by decide +kernel) kw_95) <|
  am_c (ok_aload_n (k := 0) (by decide +kernel) rfl) <|
  am_c (ok_get (by decide +kernel) (by decide +kernel) rfl (by decide +kernel) kw_96) <|
  am_c (ok_iconst (z := 1) (by decide +kernel) (by decide +kernel)) <|
  am_c (ok_isub (by decide +kernel)) <|
  am_c (ok_iald (by decide +kernel)) <|
  am_c (ok_goto (off := 4) (by decide +kernel) (by decide +kernel)) <|
  am_c (ok_iconst (z := -1) (by decide +kernel) (by decide +kernel)) <|
  am_c (ok_iret (by decide +kernel) rfl) <|
  am_n
def k_t26 : List (Nat × List (Nat × am_A)) := [(34, k_c26_0)]
theorem k_o26 : ∀ c ∈ k_t26, ∀ q ∈ c.2, am_Ok k_nm D cA B0 sb H00 (k_Th B0 sb H00) prog_6_method_4_code "TokenMouth$Row" "last" [] (some .int) q.1 q.2 := am_cc (P := fun pc a => am_Ok k_nm D cA B0 sb H00 (k_Th B0 sb H00) prog_6_method_4_code "TokenMouth$Row" "last" [] (some .int) pc a) k_p26_0 <| am_cn0
-- 27: TokenMouth$Row.add(I)Z
def k_c27_0 : List (Nat × am_A) := [(0, ac_aload 0 1), (1, ac_get 0 4 1 4), (4, ac_if1 (fun x => x < 0) 19 7), (7, ac_aload 0 8), (8, ac_get 0 4 1 11), (11, ac_aload 0 12), (12, ac_get 2 4 0 15), (15, ac_alen 16), (16, ac_if2 (fun x y => x < y) 21 19), (19, ac_push (.int 0) 20), (20, ac_zret), (21, ac_aload 0 22), (22, ac_get 2 4 0 25), (25, ac_aload 0 26), (26, ac_get 0 4 1 29), (29, ac_iload 1 30), (30, ac_iast 31), (31, ac_aload 0 32), (32, ac_dup 33), (33, ac_get 0 4 1 36), (36, ac_push (.int 1) 37), (37, ac_ii (fun x y => x + y) 38), (38, ac_putI 4 1 41), (41, ac_push (.int 1) 42)]
theorem k_p27_0 : ∀ q ∈ k_c27_0, am_Ok k_nm D cA B0 sb H00 (k_Th B0 sb H00) prog_6_method_5_code "TokenMouth$Row" "add" [] (some .boolean) q.1 q.2 :=
  am_c (ok_aload_n (k := 0) (by decide +kernel) rfl) <|
  am_c (ok_get (by decide +kernel) (by decide +kernel) rfl (by decide +kernel) kw_96) <|
  am_c (ok_iflt (off := 15) (by decide +kernel) (by decide +kernel)) <|
  am_c (ok_aload_n (k := 0) (by decide +kernel) rfl) <|
  am_c (ok_get (by decide +kernel) (by decide +kernel) rfl (by decide +kernel) kw_96) <|
  am_c (ok_aload_n (k := 0) (by decide +kernel) rfl) <|
  am_c (ok_get (by decide +kernel) (by decide +kernel) rfl (by decide +kernel) kw_95) <|
  am_c (ok_alen (by decide +kernel)) <|
  am_c (ok_icmplt (off := 5) (by decide +kernel) (by decide +kernel)) <|
  am_c (ok_iconst (z := 0) (by decide +kernel) (by decide +kernel)) <|
  am_c (ok_zret (by decide +kernel) rfl) <|
  am_c (ok_aload_n (k := 0) (by decide +kernel) rfl) <|
  am_c (ok_get (by decide +kernel) (by decide +kernel) rfl (by decide +kernel) kw_95) <|
  am_c (ok_aload_n (k := 0) (by decide +kernel) rfl) <|
  am_c (ok_get (by decide +kernel) (by decide +kernel) rfl (by decide +kernel) kw_96) <|
  am_c (ok_iload_n (k := 1) (by decide +kernel) rfl) <|
  am_c (ok_iast (by decide +kernel)) <|
  am_c (ok_aload_n (k := 0) (by decide +kernel) rfl) <|
  am_c (ok_dup (by decide +kernel)) <|
  am_c (ok_get (by decide +kernel) (by decide +kernel) rfl (by decide +kernel) kw_96) <|
  am_c (ok_iconst (z := 1) (by decide +kernel) (by decide +kernel)) <|
  am_c (ok_iadd (by decide +kernel)) <|
  am_c (ok_putI (by decide +kernel) (by decide +kernel) rfl (by decide +kernel) kw_96 rfl) <|
  am_c (ok_iconst (z := 1) (by decide +kernel) (by decide +kernel)) <|
  am_n
def k_c27_1 : List (Nat × am_A) := [(42, ac_zret)]
theorem k_p27_1 : ∀ q ∈ k_c27_1, am_Ok k_nm D cA B0 sb H00 (k_Th B0 sb H00) prog_6_method_5_code "TokenMouth$Row" "add" [] (some .boolean) q.1 q.2 :=
  am_c (ok_zret (by decide +kernel) rfl) <|
  am_n
def k_t27 : List (Nat × List (Nat × am_A)) := [(41, k_c27_0), (42, k_c27_1)]
theorem k_o27 : ∀ c ∈ k_t27, ∀ q ∈ c.2, am_Ok k_nm D cA B0 sb H00 (k_Th B0 sb H00) prog_6_method_5_code "TokenMouth$Row" "add" [] (some .boolean) q.1 q.2 := am_cc (P := fun pc a => am_Ok k_nm D cA B0 sb H00 (k_Th B0 sb H00) prog_6_method_5_code "TokenMouth$Row" "add" [] (some .boolean) pc a) k_p27_0 <| am_cc (P := fun pc a => am_Ok k_nm D cA B0 sb H00 (k_Th B0 sb H00) prog_6_method_5_code "TokenMouth$Row" "add" [] (some .boolean) pc a) k_p27_1 <| am_cn0
-- 28: TokenMouth$Row.takeLast()I
def k_c28_0 : List (Nat × am_A) := [(0, ac_aload 0 1), (1, ac_get 0 4 1 4), (4, ac_if1 (fun x => x ≤ 0) 19 7), (7, ac_aload 0 8), (8, ac_get 0 4 1 11), (11, ac_aload 0 12), (12, ac_get 2 4 0 15), (15, ac_alen 16), (16, ac_if2 (fun x y => x ≤ y) 21 19), (19, ac_push (.int (-1)) 20), (20, ac_iret), (21, ac_aload 0 22), (22, ac_dup 23), (23, ac_get 0 4 1 26), (26, ac_push (.int 1) 27), (27, ac_ii (fun x y => x - y) 28), (28, ac_putI 4 1 31), (31, ac_aload 0 32), (32, ac_get 2 4 0 35), (35, ac_aload 0 36), (36, ac_get 0 4 1 39), (39, ac_iald 0 40), (40, ac_iret)]
theorem k_p28_0 : ∀ q ∈ k_c28_0, am_Ok k_nm D cA B0 sb H00 (k_Th B0 sb H00) prog_6_method_6_code "TokenMouth$Row" "takeLast" [] (some .int) q.1 q.2 :=
  am_c (ok_aload_n (k := 0) (by decide +kernel) rfl) <|
  am_c (ok_get (by decide +kernel) (by decide +kernel) rfl (by decide +kernel) kw_96) <|
  am_c (ok_ifle (off := 15) (by decide +kernel) (by decide +kernel)) <|
  am_c (ok_aload_n (k := 0) (by decide +kernel) rfl) <|
  am_c (ok_get (by decide +kernel) (by decide +kernel) rfl (by decide +kernel) kw_96) <|
  am_c (ok_aload_n (k := 0) (by decide +kernel) rfl) <|
  am_c (ok_get (by decide +kernel) (by decide +kernel) rfl (by decide +kernel) kw_95) <|
  am_c (ok_alen (by decide +kernel)) <|
  am_c (ok_icmple (off := 5) (by decide +kernel) (by decide +kernel)) <|
  am_c (ok_iconst (z := -1) (by decide +kernel) (by decide +kernel)) <|
  am_c (ok_iret (by decide +kernel) rfl) <|
  am_c (ok_aload_n (k := 0) (by decide +kernel) rfl) <|
  am_c (ok_dup (by decide +kernel)) <|
  am_c (ok_get (by decide +kernel) (by decide +kernel) rfl (by decide +kernel) kw_96) <|
  am_c (ok_iconst (z := 1) (by decide +kernel) (by decide +kernel)) <|
  am_c (ok_isub (by decide +kernel)) <|
  am_c (ok_putI (by decide +kernel) (by decide +kernel) rfl (by decide +kernel) kw_96 rfl) <|
  am_c (ok_aload_n (k := 0) (by decide +kernel) rfl) <|
  am_c (ok_get (by decide +kernel) (by decide +kernel) rfl (by decide +kernel) kw_95) <|
  am_c (ok_aload_n (k := 0) (by decide +kernel) rfl) <|
  am_c (ok_get (by decide +kernel) (by decide +kernel) rfl (by decide +kernel) kw_96) <|
  am_c (ok_iald (by decide +kernel)) <|
  am_c (ok_iret (by decide +kernel) rfl) <|
  am_n
def k_t28 : List (Nat × List (Nat × am_A)) := [(40, k_c28_0)]
theorem k_o28 : ∀ c ∈ k_t28, ∀ q ∈ c.2, am_Ok k_nm D cA B0 sb H00 (k_Th B0 sb H00) prog_6_method_6_code "TokenMouth$Row" "takeLast" [] (some .int) q.1 q.2 := am_cc (P := fun pc a => am_Ok k_nm D cA B0 sb H00 (k_Th B0 sb H00) prog_6_method_6_code "TokenMouth$Row" "takeLast" [] (some .int) pc a) k_p28_0 <| am_cn0
-- 29: TokenMouth$Row.replace(II)V
def k_c29_0 : List (Nat × am_A) := [(0, ac_iload 1 1), (1, ac_if1 (fun x => x < 0) 28 4), (4, ac_iload 1 5), (5, ac_aload 0 6), (6, ac_get 0 4 1 9), (9, ac_if2 (fun x y => y ≤ x) 28 12), (12, ac_iload 1 13), (13, ac_aload 0 14), (14, ac_get 2 4 0 17), (17, ac_alen 18), (18, ac_if2 (fun x y => y ≤ x) 28 21), (21, ac_aload 0 22), (22, ac_get 2 4 0 25), (25, ac_iload 1 26), (26, ac_iload 2 27), (27, ac_iast 28), (28, ac_ret)]
theorem k_p29_0 : ∀ q ∈ k_c29_0, am_Ok k_nm D cA B0 sb H00 (k_Th B0 sb H00) prog_6_method_7_code "TokenMouth$Row" "replace" [] none q.1 q.2 :=
  am_c (ok_iload_n (k := 1) (by decide +kernel) rfl) <|
  am_c (ok_iflt (off := 27) (by decide +kernel) (by decide +kernel)) <|
  am_c (ok_iload_n (k := 1) (by decide +kernel) rfl) <|
  am_c (ok_aload_n (k := 0) (by decide +kernel) rfl) <|
  am_c (ok_get (by decide +kernel) (by decide +kernel) rfl (by decide +kernel) kw_96) <|
  am_c (ok_icmpge (off := 19) (by decide +kernel) (by decide +kernel)) <|
  am_c (ok_iload_n (k := 1) (by decide +kernel) rfl) <|
  am_c (ok_aload_n (k := 0) (by decide +kernel) rfl) <|
  am_c (ok_get (by decide +kernel) (by decide +kernel) rfl (by decide +kernel) kw_95) <|
  am_c (ok_alen (by decide +kernel)) <|
  am_c (ok_icmpge (off := 10) (by decide +kernel) (by decide +kernel)) <|
  am_c (ok_aload_n (k := 0) (by decide +kernel) rfl) <|
  am_c (ok_get (by decide +kernel) (by decide +kernel) rfl (by decide +kernel) kw_95) <|
  am_c (ok_iload_n (k := 1) (by decide +kernel) rfl) <|
  am_c (ok_iload_n (k := 2) (by decide +kernel) rfl) <|
  am_c (ok_iast (by decide +kernel)) <|
  am_c (ok_ret (by decide +kernel) rfl) <|
  am_n
def k_t29 : List (Nat × List (Nat × am_A)) := [(28, k_c29_0)]
theorem k_o29 : ∀ c ∈ k_t29, ∀ q ∈ c.2, am_Ok k_nm D cA B0 sb H00 (k_Th B0 sb H00) prog_6_method_7_code "TokenMouth$Row" "replace" [] none q.1 q.2 := am_cc (P := fun pc a => am_Ok k_nm D cA B0 sb H00 (k_Th B0 sb H00) prog_6_method_7_code "TokenMouth$Row" "replace" [] none pc a) k_p29_0 <| am_cn0
-- 30: TokenMouth$Row.cutTo(I)V
def k_c30_0 : List (Nat × am_A) := [(0, ac_iload 1 1), (1, ac_if1 (fun x => x < 0) 17 4), (4, ac_iload 1 5), (5, ac_aload 0 6), (6, ac_get 0 4 1 9), (9, ac_if2 (fun x y => y ≤ x) 17 12), (12, ac_aload 0 13), (13, ac_iload 1 14), (14, ac_putI 4 1 17), (17, ac_ret)]
theorem k_p30_0 : ∀ q ∈ k_c30_0, am_Ok k_nm D cA B0 sb H00 (k_Th B0 sb H00) prog_6_method_8_code "TokenMouth$Row" "cutTo" [] none q.1 q.2 :=
  am_c (ok_iload_n (k := 1) (by decide +kernel) rfl) <|
  am_c (ok_iflt (off := 16) (by decide +kernel) (by decide +kernel)) <|
  am_c (ok_iload_n (k := 1) (by decide +kernel) rfl) <|
  am_c (ok_aload_n (k := 0) (by decide +kernel) rfl) <|
  am_c (ok_get (by decide +kernel) (by decide +kernel) rfl (by decide +kernel) kw_96) <|
  am_c (ok_icmpge (off := 8) (by decide +kernel) (by decide +kernel)) <|
  am_c (ok_aload_n (k := 0) (by decide +kernel) rfl) <|
  am_c (ok_iload_n (k := 1) (by decide +kernel) rfl) <|
  am_c (ok_putI (by decide +kernel) (by decide +kernel) rfl (by decide +kernel) kw_96 rfl) <|
  am_c (ok_ret (by decide +kernel) rfl) <|
  am_n
def k_t30 : List (Nat × List (Nat × am_A)) := [(17, k_c30_0)]
theorem k_o30 : ∀ c ∈ k_t30, ∀ q ∈ c.2, am_Ok k_nm D cA B0 sb H00 (k_Th B0 sb H00) prog_6_method_8_code "TokenMouth$Row" "cutTo" [] none q.1 q.2 := am_cc (P := fun pc a => am_Ok k_nm D cA B0 sb H00 (k_Th B0 sb H00) prog_6_method_8_code "TokenMouth$Row" "cutTo" [] none pc a) k_p30_0 <| am_cn0
-- 31: TokenMouth$Row.sameAs(LTokenMouth$Row;)Z
def k_c31_0 : List (Nat × am_A) := [(0, ac_aload 0 1), (1, ac_get 0 4 1 4), (4, ac_aload 1 5), (5, ac_get 0 4 1 8), (8, ac_if2 (fun x y => x = y) 13 11), (11, ac_push (.int 0) 12), (12, ac_zret), (13, ac_push (.int 0) 14), (14, ac_istore 2 15), (15, ac_iload 2 16), (16, ac_aload 0 17), (17, ac_get 0 4 1 20), (20, ac_if2 (fun x y => y ≤ x) 64 23), (23, ac_iload 2 24), (24, ac_aload 0 25), (25, ac_get 2 4 0 28), (28, ac_alen 29), (29, ac_if2 (fun x y => y ≤ x) 64 32), (32, ac_iload 2 33), (33, ac_aload 1 34), (34, ac_get 2 4 0 37), (37, ac_alen 38), (38, ac_if2 (fun x y => y ≤ x) 64 41), (41, ac_aload 0 42)]
theorem k_p31_0 : ∀ q ∈ k_c31_0, am_Ok k_nm D cA B0 sb H00 (k_Th B0 sb H00) prog_6_method_9_code "TokenMouth$Row" "sameAs" [] (some .boolean) q.1 q.2 :=
  am_c (ok_aload_n (k := 0) (by decide +kernel) rfl) <|
  am_c (ok_get (by decide +kernel) (by decide +kernel) rfl (by decide +kernel) kw_96) <|
  am_c (ok_aload_n (k := 1) (by decide +kernel) rfl) <|
  am_c (ok_get (by decide +kernel) (by decide +kernel) rfl (by decide +kernel) kw_96) <|
  am_c (ok_icmpeq (off := 5) (by decide +kernel) (by decide +kernel)) <|
  am_c (ok_iconst (z := 0) (by decide +kernel) (by decide +kernel)) <|
  am_c (ok_zret (by decide +kernel) rfl) <|
  am_c (ok_iconst (z := 0) (by decide +kernel) (by decide +kernel)) <|
  am_c (ok_istore_n (k := 2) (by decide +kernel) rfl) <|
  am_c (ok_iload_n (k := 2) (by decide +kernel) rfl) <|
  am_c (ok_aload_n (k := 0) (by decide +kernel) rfl) <|
  am_c (ok_get (by decide +kernel) (by decide +kernel) rfl (by decide +kernel) kw_96) <|
  am_c (ok_icmpge (off := 44) (by decide +kernel) (by decide +kernel)) <|
  am_c (ok_iload_n (k := 2) (by decide +kernel) rfl) <|
  am_c (ok_aload_n (k := 0) (by decide +kernel) rfl) <|
  am_c (ok_get (by decide +kernel) (by decide +kernel) rfl (by decide +kernel) kw_95) <|
  am_c (ok_alen (by decide +kernel)) <|
  am_c (ok_icmpge (off := 35) (by decide +kernel) (by decide +kernel)) <|
  am_c (ok_iload_n (k := 2) (by decide +kernel) rfl) <|
  am_c (ok_aload_n (k := 1) (by decide +kernel) rfl) <|
  am_c (ok_get (by decide +kernel) (by decide +kernel) rfl (by decide +kernel) kw_95) <|
  am_c (ok_alen (by decide +kernel)) <|
  am_c (ok_icmpge (off := 26) (by decide +kernel) (by decide +kernel)) <|
  am_c (ok_aload_n (k := 0) (by decide +kernel) rfl) <|
  am_n
def k_c31_1 : List (Nat × am_A) := [(42, ac_get 2 4 0 45), (45, ac_iload 2 46), (46, ac_iald 0 47), (47, ac_aload 1 48), (48, ac_get 2 4 0 51), (51, ac_iload 2 52), (52, ac_iald 0 53), (53, ac_if2 (fun x y => x = y) 58 56), (56, ac_push (.int 0) 57), (57, ac_zret), (58, ac_iinc 2 1 61), (61, ac_goto 15), (64, ac_push (.int 1) 65), (65, ac_zret)]
theorem k_p31_1 : ∀ q ∈ k_c31_1, am_Ok k_nm D cA B0 sb H00 (k_Th B0 sb H00) prog_6_method_9_code "TokenMouth$Row" "sameAs" [] (some .boolean) q.1 q.2 :=
  am_c (ok_get (by decide +kernel) (by decide +kernel) rfl (by decide +kernel) kw_95) <|
  am_c (ok_iload_n (k := 2) (by decide +kernel) rfl) <|
  am_c (ok_iald (by decide +kernel)) <|
  am_c (ok_aload_n (k := 1) (by decide +kernel) rfl) <|
  am_c (ok_get (by decide +kernel) (by decide +kernel) rfl (by decide +kernel) kw_95) <|
  am_c (ok_iload_n (k := 2) (by decide +kernel) rfl) <|
  am_c (ok_iald (by decide +kernel)) <|
  am_c (ok_icmpeq (off := 5) (by decide +kernel) (by decide +kernel)) <|
  am_c (ok_iconst (z := 0) (by decide +kernel) (by decide +kernel)) <|
  am_c (ok_zret (by decide +kernel) rfl) <|
  am_c (ok_iinc (z := 1) (by decide +kernel) (by decide +kernel)) <|
  am_c (ok_goto (off := -46) (by decide +kernel) (by decide +kernel)) <|
  am_c (ok_iconst (z := 1) (by decide +kernel) (by decide +kernel)) <|
  am_c (ok_zret (by decide +kernel) rfl) <|
  am_n
def k_t31 : List (Nat × List (Nat × am_A)) := [(41, k_c31_0), (65, k_c31_1)]
theorem k_o31 : ∀ c ∈ k_t31, ∀ q ∈ c.2, am_Ok k_nm D cA B0 sb H00 (k_Th B0 sb H00) prog_6_method_9_code "TokenMouth$Row" "sameAs" [] (some .boolean) q.1 q.2 := am_cc (P := fun pc a => am_Ok k_nm D cA B0 sb H00 (k_Th B0 sb H00) prog_6_method_9_code "TokenMouth$Row" "sameAs" [] (some .boolean) pc a) k_p31_0 <| am_cc (P := fun pc a => am_Ok k_nm D cA B0 sb H00 (k_Th B0 sb H00) prog_6_method_9_code "TokenMouth$Row" "sameAs" [] (some .boolean) pc a) k_p31_1 <| am_cn0
-- 32: TokenMouth$Row.holds(III)Z
def k_c32_0 : List (Nat × am_A) := [(0, ac_iload 2 1), (1, ac_push (.int 0) 2), (2, ac_max 5), (5, ac_istore 4 7), (7, ac_iload 4 9), (9, ac_iload 3 10), (10, ac_if2 (fun x y => y ≤ x) 51 13), (13, ac_iload 4 15), (15, ac_aload 0 16), (16, ac_get 0 4 1 19), (19, ac_if2 (fun x y => y ≤ x) 51 22), (22, ac_iload 4 24), (24, ac_aload 0 25), (25, ac_get 2 4 0 28), (28, ac_alen 29), (29, ac_if2 (fun x y => y ≤ x) 51 32), (32, ac_aload 0 33), (33, ac_get 2 4 0 36), (36, ac_iload 4 38), (38, ac_iald 0 39), (39, ac_iload 1 40), (40, ac_if2 (fun x y => ¬ x = y) 45 43), (43, ac_push (.int 1) 44), (44, ac_zret)]
theorem k_p32_0 : ∀ q ∈ k_c32_0, am_Ok k_nm D cA B0 sb H00 (k_Th B0 sb H00) prog_6_method_10_code "TokenMouth$Row" "holds" [] (some .boolean) q.1 q.2 :=
  am_c (ok_iload_n (k := 2) (by decide +kernel) rfl) <|
  am_c (ok_iconst (z := 0) (by decide +kernel) (by decide +kernel)) <|
  am_c (ok_max (by decide +kernel) kw_92 kw_93 kw_94 kw_mx) <|
  am_c (ok_istore (by decide +kernel)) <|
  am_c (ok_iload (by decide +kernel)) <|
  am_c (ok_iload_n (k := 3) (by decide +kernel) rfl) <|
  am_c (ok_icmpge (off := 41) (by decide +kernel) (by decide +kernel)) <|
  am_c (ok_iload (by decide +kernel)) <|
  am_c (ok_aload_n (k := 0) (by decide +kernel) rfl) <|
  am_c (ok_get (by decide +kernel) (by decide +kernel) rfl (by decide +kernel) kw_96) <|
  am_c (ok_icmpge (off := 32) (by decide +kernel) (by decide +kernel)) <|
  am_c (ok_iload (by decide +kernel)) <|
  am_c (ok_aload_n (k := 0) (by decide +kernel) rfl) <|
  am_c (ok_get (by decide +kernel) (by decide +kernel) rfl (by decide +kernel) kw_95) <|
  am_c (ok_alen (by decide +kernel)) <|
  am_c (ok_icmpge (off := 22) (by decide +kernel) (by decide +kernel)) <|
  am_c (ok_aload_n (k := 0) (by decide +kernel) rfl) <|
  am_c (ok_get (by decide +kernel) (by decide +kernel) rfl (by decide +kernel) kw_95) <|
  am_c (ok_iload (by decide +kernel)) <|
  am_c (ok_iald (by decide +kernel)) <|
  am_c (ok_iload_n (k := 1) (by decide +kernel) rfl) <|
  am_c (ok_icmpne (off := 5) (by decide +kernel) (by decide +kernel)) <|
  am_c (ok_iconst (z := 1) (by decide +kernel) (by decide +kernel)) <|
  am_c (ok_zret (by decide +kernel) rfl) <|
  am_n
def k_c32_1 : List (Nat × am_A) := [(45, ac_iinc 4 1 48), (48, ac_goto 7), (51, ac_push (.int 0) 52), (52, ac_zret)]
theorem k_p32_1 : ∀ q ∈ k_c32_1, am_Ok k_nm D cA B0 sb H00 (k_Th B0 sb H00) prog_6_method_10_code "TokenMouth$Row" "holds" [] (some .boolean) q.1 q.2 :=
  am_c (ok_iinc (z := 1) (by decide +kernel) (by decide +kernel)) <|
  am_c (ok_goto (off := -41) (by decide +kernel) (by decide +kernel)) <|
  am_c (ok_iconst (z := 0) (by decide +kernel) (by decide +kernel)) <|
  am_c (ok_zret (by decide +kernel) rfl) <|
  am_n
def k_t32 : List (Nat × List (Nat × am_A)) := [(44, k_c32_0), (52, k_c32_1)]
theorem k_o32 : ∀ c ∈ k_t32, ∀ q ∈ c.2, am_Ok k_nm D cA B0 sb H00 (k_Th B0 sb H00) prog_6_method_10_code "TokenMouth$Row" "holds" [] (some .boolean) q.1 q.2 := am_cc (P := fun pc a => am_Ok k_nm D cA B0 sb H00 (k_Th B0 sb H00) prog_6_method_10_code "TokenMouth$Row" "holds" [] (some .boolean) pc a) k_p32_0 <| am_cc (P := fun pc a => am_Ok k_nm D cA B0 sb H00 (k_Th B0 sb H00) prog_6_method_10_code "TokenMouth$Row" "holds" [] (some .boolean) pc a) k_p32_1 <| am_cn0
-- 33: TokenMouth$Row.endsWith(LTokenMouth$Row;II)Z
def k_c33_0 : List (Nat × am_A) := [(0, ac_aload 0 1), (1, ac_get 0 4 1 4), (4, ac_iload 3 5), (5, ac_ii (fun x y => x - y) 6), (6, ac_istore 4 8), (8, ac_iload 4 10), (10, ac_iload 2 11), (11, ac_ii (fun x y => x + y) 12), (12, ac_if1 (fun x => 0 ≤ x) 17 15), (15, ac_push (.int 0) 16), (16, ac_zret), (17, ac_iload 2 18), (18, ac_istore 5 20), (20, ac_iload 5 22), (22, ac_iload 3 23), (23, ac_if2 (fun x y => y ≤ x) 52 26), (26, ac_aload 0 27), (27, ac_iload 4 29), (29, ac_iload 5 31), (31, ac_ii (fun x y => x + y) 32), (32, ac_callV 4 25 2 35 am_nohd), (35, ac_aload 1 36), (36, ac_iload 5 38), (38, ac_callV 4 25 2 41 am_nohd)]
theorem k_p33_0 : ∀ q ∈ k_c33_0, am_Ok k_nm D cA B0 sb H00 (k_Th B0 sb H00) prog_6_method_11_code "TokenMouth$Row" "endsWith" [] (some .boolean) q.1 q.2 :=
  am_c (ok_aload_n (k := 0) (by decide +kernel) rfl) <|
  am_c (ok_get (by decide +kernel) (by decide +kernel) rfl (by decide +kernel) kw_96) <|
  am_c (ok_iload_n (k := 3) (by decide +kernel) rfl) <|
  am_c (ok_isub (by decide +kernel)) <|
  am_c (ok_istore (by decide +kernel)) <|
  am_c (ok_iload (by decide +kernel)) <|
  am_c (ok_iload_n (k := 2) (by decide +kernel) rfl) <|
  am_c (ok_iadd (by decide +kernel)) <|
  am_c (ok_ifge (off := 5) (by decide +kernel) (by decide +kernel)) <|
  am_c (ok_iconst (z := 0) (by decide +kernel) (by decide +kernel)) <|
  am_c (ok_zret (by decide +kernel) rfl) <|
  am_c (ok_iload_n (k := 2) (by decide +kernel) rfl) <|
  am_c (ok_istore (by decide +kernel)) <|
  am_c (ok_iload (by decide +kernel)) <|
  am_c (ok_iload_n (k := 3) (by decide +kernel) rfl) <|
  am_c (ok_icmpge (off := 29) (by decide +kernel) (by decide +kernel)) <|
  am_c (ok_aload_n (k := 0) (by decide +kernel) rfl) <|
  am_c (ok_iload (by decide +kernel)) <|
  am_c (ok_iload (by decide +kernel)) <|
  am_c (ok_iadd (by decide +kernel)) <|
  am_c (ok_callV (by decide +kernel) (by decide +kernel) kw_97 kw_33 kw_34 kw_31 (by decide +kernel) (by decide +kernel)) <|
  am_c (ok_aload_n (k := 1) (by decide +kernel) rfl) <|
  am_c (ok_iload (by decide +kernel)) <|
  am_c (ok_callV (by decide +kernel) (by decide +kernel) kw_97 kw_33 kw_34 kw_31 (by decide +kernel) (by decide +kernel)) <|
  am_n
def k_c33_1 : List (Nat × am_A) := [(41, ac_if2 (fun x y => x = y) 46 44), (44, ac_push (.int 0) 45), (45, ac_zret), (46, ac_iinc 5 1 49), (49, ac_goto 20), (52, ac_push (.int 1) 53), (53, ac_zret)]
theorem k_p33_1 : ∀ q ∈ k_c33_1, am_Ok k_nm D cA B0 sb H00 (k_Th B0 sb H00) prog_6_method_11_code "TokenMouth$Row" "endsWith" [] (some .boolean) q.1 q.2 :=
  am_c (ok_icmpeq (off := 5) (by decide +kernel) (by decide +kernel)) <|
  am_c (ok_iconst (z := 0) (by decide +kernel) (by decide +kernel)) <|
  am_c (ok_zret (by decide +kernel) rfl) <|
  am_c (ok_iinc (z := 1) (by decide +kernel) (by decide +kernel)) <|
  am_c (ok_goto (off := -29) (by decide +kernel) (by decide +kernel)) <|
  am_c (ok_iconst (z := 1) (by decide +kernel) (by decide +kernel)) <|
  am_c (ok_zret (by decide +kernel) rfl) <|
  am_n
def k_t33 : List (Nat × List (Nat × am_A)) := [(38, k_c33_0), (53, k_c33_1)]
theorem k_o33 : ∀ c ∈ k_t33, ∀ q ∈ c.2, am_Ok k_nm D cA B0 sb H00 (k_Th B0 sb H00) prog_6_method_11_code "TokenMouth$Row" "endsWith" [] (some .boolean) q.1 q.2 := am_cc (P := fun pc a => am_Ok k_nm D cA B0 sb H00 (k_Th B0 sb H00) prog_6_method_11_code "TokenMouth$Row" "endsWith" [] (some .boolean) pc a) k_p33_0 <| am_cc (P := fun pc a => am_Ok k_nm D cA B0 sb H00 (k_Th B0 sb H00) prog_6_method_11_code "TokenMouth$Row" "endsWith" [] (some .boolean) pc a) k_p33_1 <| am_cn0
-- 34: TokenMouth$Row.nextParameter(I)I
def k_c34_0 : List (Nat × am_A) := [(0, ac_iload 1 1), (1, ac_istore 2 2), (2, ac_iload 2 3), (3, ac_aload 0 4), (4, ac_get 0 4 1 7), (7, ac_if2 (fun x y => y ≤ x) 29 10), (10, ac_aload 0 11), (11, ac_iload 2 12), (12, ac_callV 4 25 2 15 am_nohd), (15, ac_push (.int 8192) 18), (18, ac_if2 (fun x y => x < y) 23 21), (21, ac_iload 2 22), (22, ac_iret), (23, ac_iinc 2 1 26), (26, ac_goto 2), (29, ac_aload 0 30), (30, ac_get 0 4 1 33), (33, ac_iret)]
theorem k_p34_0 : ∀ q ∈ k_c34_0, am_Ok k_nm D cA B0 sb H00 (k_Th B0 sb H00) prog_6_method_12_code "TokenMouth$Row" "nextParameter" [] (some .int) q.1 q.2 :=
  am_c (ok_iload_n (k := 1) (by decide +kernel) rfl) <|
  am_c (ok_istore_n (k := 2) (by decide +kernel) rfl) <|
  am_c (ok_iload_n (k := 2) (by decide +kernel) rfl) <|
  am_c (ok_aload_n (k := 0) (by decide +kernel) rfl) <|
  am_c (ok_get (by decide +kernel) (by decide +kernel) rfl (by decide +kernel) kw_96) <|
  am_c (ok_icmpge (off := 22) (by decide +kernel) (by decide +kernel)) <|
  am_c (ok_aload_n (k := 0) (by decide +kernel) rfl) <|
  am_c (ok_iload_n (k := 2) (by decide +kernel) rfl) <|
  am_c (ok_callV (by decide +kernel) (by decide +kernel) kw_97 kw_33 kw_34 kw_31 (by decide +kernel) (by decide +kernel)) <|
  am_c (ok_sipush (z := 8192) (by decide +kernel) (by decide +kernel)) <|
  am_c (ok_icmplt (off := 5) (by decide +kernel) (by decide +kernel)) <|
  am_c (ok_iload_n (k := 2) (by decide +kernel) rfl) <|
  am_c (ok_iret (by decide +kernel) rfl) <|
  am_c (ok_iinc (z := 1) (by decide +kernel) (by decide +kernel)) <|
  am_c (ok_goto (off := -24) (by decide +kernel) (by decide +kernel)) <|
  am_c (ok_aload_n (k := 0) (by decide +kernel) rfl) <|
  am_c (ok_get (by decide +kernel) (by decide +kernel) rfl (by decide +kernel) kw_96) <|
  am_c (ok_iret (by decide +kernel) rfl) <|
  am_n
def k_t34 : List (Nat × List (Nat × am_A)) := [(33, k_c34_0)]
theorem k_o34 : ∀ c ∈ k_t34, ∀ q ∈ c.2, am_Ok k_nm D cA B0 sb H00 (k_Th B0 sb H00) prog_6_method_12_code "TokenMouth$Row" "nextParameter" [] (some .int) q.1 q.2 := am_cc (P := fun pc a => am_Ok k_nm D cA B0 sb H00 (k_Th B0 sb H00) prog_6_method_12_code "TokenMouth$Row" "nextParameter" [] (some .int) pc a) k_p34_0 <| am_cn0
-- 35: TokenMouth$Row.peelGroup()V
def k_c35_0 : List (Nat × am_A) := [(0, ac_aload 0 1), (1, ac_get 0 4 1 4), (4, ac_push (.int 2) 5), (5, ac_if2 (fun x y => x < y) 33 8), (8, ac_aload 0 9), (9, ac_get 0 4 1 12), (12, ac_aload 0 13), (13, ac_get 2 4 0 16), (16, ac_alen 17), (17, ac_if2 (fun x y => y < x) 33 20), (20, ac_aload 0 21), (21, ac_get 2 4 0 24), (24, ac_push (.int 0) 25), (25, ac_iald 0 26), (26, ac_callS 54 1 29), (29, ac_push (.int 1) 30), (30, ac_if2 (fun x y => x = y) 34 33), (33, ac_ret), (34, ac_push (.int 1) 35), (35, ac_istore 1 36), (36, ac_push (.int 1) 37), (37, ac_istore 2 38), (38, ac_iload 2 39), (39, ac_aload 0 40)]
theorem k_p35_0 : ∀ q ∈ k_c35_0, am_Ok k_nm D cA B0 sb H00 (k_Th B0 sb H00) prog_6_method_13_code "TokenMouth$Row" "peelGroup" [] none q.1 q.2 :=
  am_c (ok_aload_n (k := 0) (by decide +kernel) rfl) <|
  am_c (ok_get (by decide +kernel) (by decide +kernel) rfl (by decide +kernel) kw_96) <|
  am_c (ok_iconst (z := 2) (by decide +kernel) (by decide +kernel)) <|
  am_c (ok_icmplt (off := 28) (by decide +kernel) (by decide +kernel)) <|
  am_c (ok_aload_n (k := 0) (by decide +kernel) rfl) <|
  am_c (ok_get (by decide +kernel) (by decide +kernel) rfl (by decide +kernel) kw_96) <|
  am_c (ok_aload_n (k := 0) (by decide +kernel) rfl) <|
  am_c (ok_get (by decide +kernel) (by decide +kernel) rfl (by decide +kernel) kw_95) <|
  am_c (ok_alen (by decide +kernel)) <|
  am_c (ok_icmpgt (off := 16) (by decide +kernel) (by decide +kernel)) <|
  am_c (ok_aload_n (k := 0) (by decide +kernel) rfl) <|
  am_c (ok_get (by decide +kernel) (by decide +kernel) rfl (by decide +kernel) kw_95) <|
  am_c (ok_iconst (z := 0) (by decide +kernel) (by decide +kernel)) <|
  am_c (ok_iald (by decide +kernel)) <|
  am_c (ok_callSN (host := "TokenMouth") (idx := 29) (by decide +kernel) (by decide +kernel) kw_99 kw_86 kw_98 (by decide +kernel) (by decide +kernel)) <|
  am_c (ok_iconst (z := 1) (by decide +kernel) (by decide +kernel)) <|
  am_c (ok_icmpeq (off := 4) (by decide +kernel) (by decide +kernel)) <|
  am_c (ok_ret (by decide +kernel) rfl) <|
  am_c (ok_iconst (z := 1) (by decide +kernel) (by decide +kernel)) <|
  am_c (ok_istore_n (k := 1) (by decide +kernel) rfl) <|
  am_c (ok_iconst (z := 1) (by decide +kernel) (by decide +kernel)) <|
  am_c (ok_istore_n (k := 2) (by decide +kernel) rfl) <|
  am_c (ok_iload_n (k := 2) (by decide +kernel) rfl) <|
  am_c (ok_aload_n (k := 0) (by decide +kernel) rfl) <|
  am_n
def k_c35_1 : List (Nat × am_A) := [(40, ac_get 0 4 1 43), (43, ac_push (.int 1) 44), (44, ac_ii (fun x y => x - y) 45), (45, ac_if2 (fun x y => y ≤ x) 71 48), (48, ac_iload 1 49), (49, ac_aload 0 50), (50, ac_get 2 4 0 53), (53, ac_iload 2 54), (54, ac_iald 0 55), (55, ac_callS 54 1 58), (58, ac_ii (fun x y => x + y) 59), (59, ac_istore 1 60), (60, ac_iload 1 61), (61, ac_if1 (fun x => ¬ x = 0) 65 64), (64, ac_ret), (65, ac_iinc 2 1 68), (68, ac_goto 38), (71, ac_aload 0 72), (72, ac_get 2 4 0 75), (75, ac_push (.int 1) 76), (76, ac_aload 0 77), (77, ac_get 2 4 0 80), (80, ac_push (.int 0) 81), (81, ac_aload 0 82)]
theorem k_p35_1 : ∀ q ∈ k_c35_1, am_Ok k_nm D cA B0 sb H00 (k_Th B0 sb H00) prog_6_method_13_code "TokenMouth$Row" "peelGroup" [] none q.1 q.2 :=
  am_c (ok_get (by decide +kernel) (by decide +kernel) rfl (by decide +kernel) kw_96) <|
  am_c (ok_iconst (z := 1) (by decide +kernel) (by decide +kernel)) <|
  am_c (ok_isub (by decide +kernel)) <|
  am_c (ok_icmpge (off := 26) (by decide +kernel) (by decide +kernel)) <|
  am_c (ok_iload_n (k := 1) (by decide +kernel) rfl) <|
  am_c (ok_aload_n (k := 0) (by decide +kernel) rfl) <|
  am_c (ok_get (by decide +kernel) (by decide +kernel) rfl (by decide +kernel) kw_95) <|
  am_c (ok_iload_n (k := 2) (by decide +kernel) rfl) <|
  am_c (ok_iald (by decide +kernel)) <|
  am_c (ok_callSN (host := "TokenMouth") (idx := 29) (by decide +kernel) (by decide +kernel) kw_99 kw_86 kw_98 (by decide +kernel) (by decide +kernel)) <|
  am_c (ok_iadd (by decide +kernel)) <|
  am_c (ok_istore_n (k := 1) (by decide +kernel) rfl) <|
  am_c (ok_iload_n (k := 1) (by decide +kernel) rfl) <|
  am_c (ok_ifne (off := 4) (by decide +kernel) (by decide +kernel)) <|
  am_c (ok_ret (by decide +kernel) rfl) <|
  am_c (ok_iinc (z := 1) (by decide +kernel) (by decide +kernel)) <|
  am_c (ok_goto (off := -30) (by decide +kernel) (by decide +kernel)) <|
  am_c (ok_aload_n (k := 0) (by decide +kernel) rfl) <|
  am_c (ok_get (by decide +kernel) (by decide +kernel) rfl (by decide +kernel) kw_95) <|
  am_c (ok_iconst (z := 1) (by decide +kernel) (by decide +kernel)) <|
  am_c (ok_aload_n (k := 0) (by decide +kernel) rfl) <|
  am_c (ok_get (by decide +kernel) (by decide +kernel) rfl (by decide +kernel) kw_95) <|
  am_c (ok_iconst (z := 0) (by decide +kernel) (by decide +kernel)) <|
  am_c (ok_aload_n (k := 0) (by decide +kernel) rfl) <|
  am_n
def k_c35_2 : List (Nat × am_A) := [(82, ac_get 0 4 1 85), (85, ac_push (.int 2) 86), (86, ac_ii (fun x y => x - y) 87), (87, ac_copy 90), (90, ac_aload 0 91), (91, ac_dup 92), (92, ac_get 0 4 1 95), (95, ac_push (.int 2) 96), (96, ac_ii (fun x y => x - y) 97), (97, ac_putI 4 1 100), (100, ac_ret)]
theorem k_p35_2 : ∀ q ∈ k_c35_2, am_Ok k_nm D cA B0 sb H00 (k_Th B0 sb H00) prog_6_method_13_code "TokenMouth$Row" "peelGroup" [] none q.1 q.2 :=
  am_c (ok_get (by decide +kernel) (by decide +kernel) rfl (by decide +kernel) kw_96) <|
  am_c (ok_iconst (z := 2) (by decide +kernel) (by decide +kernel)) <|
  am_c (ok_isub (by decide +kernel)) <|
  am_c (ok_copy (by decide +kernel) kw_100 kw_101 kw_102 kw_103) <|
  am_c (ok_aload_n (k := 0) (by decide +kernel) rfl) <|
  am_c (ok_dup (by decide +kernel)) <|
  am_c (ok_get (by decide +kernel) (by decide +kernel) rfl (by decide +kernel) kw_96) <|
  am_c (ok_iconst (z := 2) (by decide +kernel) (by decide +kernel)) <|
  am_c (ok_isub (by decide +kernel)) <|
  am_c (ok_putI (by decide +kernel) (by decide +kernel) rfl (by decide +kernel) kw_96 rfl) <|
  am_c (ok_ret (by decide +kernel) rfl) <|
  am_n
def k_t35 : List (Nat × List (Nat × am_A)) := [(39, k_c35_0), (81, k_c35_1), (100, k_c35_2)]
theorem k_o35 : ∀ c ∈ k_t35, ∀ q ∈ c.2, am_Ok k_nm D cA B0 sb H00 (k_Th B0 sb H00) prog_6_method_13_code "TokenMouth$Row" "peelGroup" [] none q.1 q.2 := am_cc (P := fun pc a => am_Ok k_nm D cA B0 sb H00 (k_Th B0 sb H00) prog_6_method_13_code "TokenMouth$Row" "peelGroup" [] none pc a) k_p35_0 <| am_cc (P := fun pc a => am_Ok k_nm D cA B0 sb H00 (k_Th B0 sb H00) prog_6_method_13_code "TokenMouth$Row" "peelGroup" [] none pc a) k_p35_1 <| am_cc (P := fun pc a => am_Ok k_nm D cA B0 sb H00 (k_Th B0 sb H00) prog_6_method_13_code "TokenMouth$Row" "peelGroup" [] none pc a) k_p35_2 <| am_cn0
-- 36: TokenMouth.<init>()V
def k_c36_0 : List (Nat × am_A) := [(0, ac_aload 0 1), (1, ac_oinit 4), (4, ac_aload 0 5), (5, ac_new 3 8), (8, ac_dup 9), (9, ac_callI 15 1 12), (12, ac_putR 5 0 15), (15, ac_aload 0 16), (16, ac_new 2 19), (19, ac_dup 20), (20, ac_callI 7 1 23), (23, ac_putR 5 1 26), (26, ac_aload 0 27), (27, ac_new 0 30), (30, ac_dup 31), (31, ac_callI 0 1 34), (34, ac_putR 5 2 37), (37, ac_aload 0 38), (38, ac_new 4 41), (41, ac_dup 42), (42, ac_push (.int 300) 45), (45, ac_callI 23 2 48), (48, ac_putR 5 3 51), (51, ac_aload 0 52)]
theorem k_p36_0 : ∀ q ∈ k_c36_0, am_Ok k_nm D cA B0 sb H00 (k_Th B0 sb H00) prog_1_method_1_code "TokenMouth" "<init>" [] none q.1 q.2 :=
  am_c (ok_aload_n (k := 0) (by decide +kernel) rfl) <|
  am_c (ok_oinit (by decide +kernel) kw_104 kw_1 kw_oi) <|
  am_c (ok_aload_n (k := 0) (by decide +kernel) rfl) <|
  am_c (ok_new (by decide +kernel) (by decide +kernel) kw_105 kw_106 kw_107) <|
  am_c (ok_dup (by decide +kernel)) <|
  am_c (ok_callI (by decide +kernel) rfl kw_109 kw_110 kw_108 (by decide +kernel) (by decide +kernel)) <|
  am_c (ok_putR (by decide +kernel) (by decide +kernel) (ty := (.object "TokenMouth$Reader")) rfl rfl (fun _ => ⟨rfl, rfl⟩) (by decide +kernel) kw_111 (Or.inr ⟨rfl, rfl, rfl⟩)) <|
  am_c (ok_aload_n (k := 0) (by decide +kernel) rfl) <|
  am_c (ok_new (by decide +kernel) (by decide +kernel) kw_112 kw_113 kw_114) <|
  am_c (ok_dup (by decide +kernel)) <|
  am_c (ok_callI (by decide +kernel) rfl kw_116 kw_117 kw_115 (by decide +kernel) (by decide +kernel)) <|
  am_c (ok_putR (by decide +kernel) (by decide +kernel) (ty := (.object "TokenMouth$Names")) rfl rfl (fun _ => ⟨rfl, rfl⟩) (by decide +kernel) kw_118 (Or.inr ⟨rfl, rfl, rfl⟩)) <|
  am_c (ok_aload_n (k := 0) (by decide +kernel) rfl) <|
  am_c (ok_new (by decide +kernel) (by decide +kernel) kw_119 kw_120 kw_121) <|
  am_c (ok_dup (by decide +kernel)) <|
  am_c (ok_callI (by decide +kernel) rfl kw_123 kw_124 kw_122 (by decide +kernel) (by decide +kernel)) <|
  am_c (ok_putR (by decide +kernel) (by decide +kernel) (ty := (.object "TokenMouth$Groups")) rfl rfl (fun _ => ⟨rfl, rfl⟩) (by decide +kernel) kw_125 (Or.inr ⟨rfl, rfl, rfl⟩)) <|
  am_c (ok_aload_n (k := 0) (by decide +kernel) rfl) <|
  am_c (ok_new (by decide +kernel) (by decide +kernel) kw_126 kw_3 kw_4) <|
  am_c (ok_dup (by decide +kernel)) <|
  am_c (ok_sipush (z := 300) (by decide +kernel) (by decide +kernel)) <|
  am_c (ok_callI (by decide +kernel) rfl kw_127 kw_7 kw_5 (by decide +kernel) (by decide +kernel)) <|
  am_c (ok_putR (by decide +kernel) (by decide +kernel) (ty := (.object "TokenMouth$Row")) rfl rfl (fun _ => ⟨rfl, rfl⟩) (by decide +kernel) kw_128 (Or.inr ⟨rfl, rfl, rfl⟩)) <|
  am_c (ok_aload_n (k := 0) (by decide +kernel) rfl) <|
  am_n
def k_c36_1 : List (Nat × am_A) := [(52, ac_new 4 55), (55, ac_dup 56), (56, ac_push (.int 200) 59), (59, ac_callI 23 2 62), (62, ac_putR 5 4 65), (65, ac_aload 0 66), (66, ac_new 4 69), (69, ac_dup 70), (70, ac_push (.int 12) 72), (72, ac_callI 23 2 75), (75, ac_putR 5 5 78), (78, ac_aload 0 79), (79, ac_push (.int 4) 80), (80, ac_newa 3 4 83), (83, ac_putR 5 6 86), (86, ac_push (.int 0) 87), (87, ac_istore 1 88), (88, ac_iload 1 89), (89, ac_aload 0 90), (90, ac_get 2 5 6 93), (93, ac_alen 94), (94, ac_if2 (fun x y => y ≤ x) 118 97), (97, ac_aload 0 98), (98, ac_get 2 5 6 101)]
theorem k_p36_1 : ∀ q ∈ k_c36_1, am_Ok k_nm D cA B0 sb H00 (k_Th B0 sb H00) prog_1_method_1_code "TokenMouth" "<init>" [] none q.1 q.2 :=
  am_c (ok_new (by decide +kernel) (by decide +kernel) kw_126 kw_3 kw_4) <|
  am_c (ok_dup (by decide +kernel)) <|
  am_c (ok_sipush (z := 200) (by decide +kernel) (by decide +kernel)) <|
  am_c (ok_callI (by decide +kernel) rfl kw_127 kw_7 kw_5 (by decide +kernel) (by decide +kernel)) <|
  am_c (ok_putR (by decide +kernel) (by decide +kernel) (ty := (.object "TokenMouth$Row")) rfl rfl (fun _ => ⟨rfl, rfl⟩) (by decide +kernel) kw_129 (Or.inr ⟨rfl, rfl, rfl⟩)) <|
  am_c (ok_aload_n (k := 0) (by decide +kernel) rfl) <|
  am_c (ok_new (by decide +kernel) (by decide +kernel) kw_126 kw_3 kw_4) <|
  am_c (ok_dup (by decide +kernel)) <|
  am_c (ok_bipush (z := 12) (by decide +kernel) (by decide +kernel)) <|
  am_c (ok_callI (by decide +kernel) rfl kw_127 kw_7 kw_5 (by decide +kernel) (by decide +kernel)) <|
  am_c (ok_putR (by decide +kernel) (by decide +kernel) (ty := (.object "TokenMouth$Row")) rfl rfl (fun _ => ⟨rfl, rfl⟩) (by decide +kernel) kw_130 (Or.inr ⟨rfl, rfl, rfl⟩)) <|
  am_c (ok_aload_n (k := 0) (by decide +kernel) rfl) <|
  am_c (ok_iconst (z := 4) (by decide +kernel) (by decide +kernel)) <|
  am_c (ok_anew (ci := 4) (by decide +kernel) rfl (by decide +kernel) kw_126 (fun _ h => h.2.2.1)) <|
  am_c (ok_putR (by decide +kernel) (by decide +kernel) (ty := (.array (.object "TokenMouth$Row"))) rfl rfl (fun _ => ⟨rfl, rfl⟩) (by decide +kernel) kw_131 (Or.inr ⟨rfl, rfl, rfl⟩)) <|
  am_c (ok_iconst (z := 0) (by decide +kernel) (by decide +kernel)) <|
  am_c (ok_istore_n (k := 1) (by decide +kernel) rfl) <|
  am_c (ok_iload_n (k := 1) (by decide +kernel) rfl) <|
  am_c (ok_aload_n (k := 0) (by decide +kernel) rfl) <|
  am_c (ok_get (by decide +kernel) (by decide +kernel) rfl (by decide +kernel) kw_131) <|
  am_c (ok_alen (by decide +kernel)) <|
  am_c (ok_icmpge (off := 24) (by decide +kernel) (by decide +kernel)) <|
  am_c (ok_aload_n (k := 0) (by decide +kernel) rfl) <|
  am_c (ok_get (by decide +kernel) (by decide +kernel) rfl (by decide +kernel) kw_131) <|
  am_n
def k_c36_2 : List (Nat × am_A) := [(101, ac_iload 1 102), (102, ac_new 4 105), (105, ac_dup 106), (106, ac_push (.int 40) 108), (108, ac_callI 23 2 111), (111, ac_aast 3 4 112), (112, ac_iinc 1 1 115), (115, ac_goto 88), (118, ac_aload 0 119), (119, ac_push (.int 60) 121), (121, ac_newa 4 4 124), (124, ac_putR 5 7 127), (127, ac_push (.int 0) 128), (128, ac_istore 1 129), (129, ac_iload 1 130), (130, ac_aload 0 131), (131, ac_get 2 5 7 134), (134, ac_alen 135), (135, ac_if2 (fun x y => y ≤ x) 157 138), (138, ac_aload 0 139), (139, ac_get 2 5 7 142), (142, ac_iload 1 143), (143, ac_new 1 146), (146, ac_dup 147)]
theorem k_p36_2 : ∀ q ∈ k_c36_2, am_Ok k_nm D cA B0 sb H00 (k_Th B0 sb H00) prog_1_method_1_code "TokenMouth" "<init>" [] none q.1 q.2 :=
  am_c (ok_iload_n (k := 1) (by decide +kernel) rfl) <|
  am_c (ok_new (by decide +kernel) (by decide +kernel) kw_126 kw_3 kw_4) <|
  am_c (ok_dup (by decide +kernel)) <|
  am_c (ok_bipush (z := 40) (by decide +kernel) (by decide +kernel)) <|
  am_c (ok_callI (by decide +kernel) rfl kw_127 kw_7 kw_5 (by decide +kernel) (by decide +kernel)) <|
  am_c (ok_aast (by decide +kernel) (by decide +kernel) rfl (by decide +kernel)) <|
  am_c (ok_iinc (z := 1) (by decide +kernel) (by decide +kernel)) <|
  am_c (ok_goto (off := -27) (by decide +kernel) (by decide +kernel)) <|
  am_c (ok_aload_n (k := 0) (by decide +kernel) rfl) <|
  am_c (ok_bipush (z := 60) (by decide +kernel) (by decide +kernel)) <|
  am_c (ok_anew (ci := 1) (by decide +kernel) rfl (by decide +kernel) kw_132 (fun _ h => h.2.2.2.1)) <|
  am_c (ok_putR (by decide +kernel) (by decide +kernel) (ty := (.array (.object "TokenMouth$Macro"))) rfl rfl (fun _ => ⟨rfl, rfl⟩) (by decide +kernel) kw_133 (Or.inr ⟨rfl, rfl, rfl⟩)) <|
  am_c (ok_iconst (z := 0) (by decide +kernel) (by decide +kernel)) <|
  am_c (ok_istore_n (k := 1) (by decide +kernel) rfl) <|
  am_c (ok_iload_n (k := 1) (by decide +kernel) rfl) <|
  am_c (ok_aload_n (k := 0) (by decide +kernel) rfl) <|
  am_c (ok_get (by decide +kernel) (by decide +kernel) rfl (by decide +kernel) kw_133) <|
  am_c (ok_alen (by decide +kernel)) <|
  am_c (ok_icmpge (off := 22) (by decide +kernel) (by decide +kernel)) <|
  am_c (ok_aload_n (k := 0) (by decide +kernel) rfl) <|
  am_c (ok_get (by decide +kernel) (by decide +kernel) rfl (by decide +kernel) kw_133) <|
  am_c (ok_iload_n (k := 1) (by decide +kernel) rfl) <|
  am_c (ok_new (by decide +kernel) (by decide +kernel) kw_132 kw_134 kw_135) <|
  am_c (ok_dup (by decide +kernel)) <|
  am_n
def k_c36_3 : List (Nat × am_A) := [(147, ac_callI 5 1 150), (150, ac_aast 4 1 151), (151, ac_iinc 1 1 154), (154, ac_goto 129), (157, ac_aload 0 158), (158, ac_new 1 161), (161, ac_dup 162), (162, ac_callI 5 1 165), (165, ac_putR 5 8 168), (168, ac_ret)]
theorem k_p36_3 : ∀ q ∈ k_c36_3, am_Ok k_nm D cA B0 sb H00 (k_Th B0 sb H00) prog_1_method_1_code "TokenMouth" "<init>" [] none q.1 q.2 :=
  am_c (ok_callI (by decide +kernel) rfl kw_137 kw_138 kw_136 (by decide +kernel) (by decide +kernel)) <|
  am_c (ok_aast (by decide +kernel) (by decide +kernel) rfl (by decide +kernel)) <|
  am_c (ok_iinc (z := 1) (by decide +kernel) (by decide +kernel)) <|
  am_c (ok_goto (off := -25) (by decide +kernel) (by decide +kernel)) <|
  am_c (ok_aload_n (k := 0) (by decide +kernel) rfl) <|
  am_c (ok_new (by decide +kernel) (by decide +kernel) kw_132 kw_134 kw_135) <|
  am_c (ok_dup (by decide +kernel)) <|
  am_c (ok_callI (by decide +kernel) rfl kw_137 kw_138 kw_136 (by decide +kernel) (by decide +kernel)) <|
  am_c (ok_putR (by decide +kernel) (by decide +kernel) (ty := (.object "TokenMouth$Macro")) rfl rfl (fun _ => ⟨rfl, rfl⟩) (by decide +kernel) kw_139 (Or.inl rfl)) <|
  am_c (ok_ret (by decide +kernel) rfl) <|
  am_n
def k_t36 : List (Nat × List (Nat × am_A)) := [(51, k_c36_0), (98, k_c36_1), (146, k_c36_2), (168, k_c36_3)]
theorem k_o36 : ∀ c ∈ k_t36, ∀ q ∈ c.2, am_Ok k_nm D cA B0 sb H00 (k_Th B0 sb H00) prog_1_method_1_code "TokenMouth" "<init>" [] none q.1 q.2 := am_cc (P := fun pc a => am_Ok k_nm D cA B0 sb H00 (k_Th B0 sb H00) prog_1_method_1_code "TokenMouth" "<init>" [] none pc a) k_p36_0 <| am_cc (P := fun pc a => am_Ok k_nm D cA B0 sb H00 (k_Th B0 sb H00) prog_1_method_1_code "TokenMouth" "<init>" [] none pc a) k_p36_1 <| am_cc (P := fun pc a => am_Ok k_nm D cA B0 sb H00 (k_Th B0 sb H00) prog_1_method_1_code "TokenMouth" "<init>" [] none pc a) k_p36_2 <| am_cc (P := fun pc a => am_Ok k_nm D cA B0 sb H00 (k_Th B0 sb H00) prog_1_method_1_code "TokenMouth" "<init>" [] none pc a) k_p36_3 <| am_cn0
-- 37: TokenMouth.type(J)Z
def k_c37_0 : List (Nat × am_A) := [(0, ac_aload 0 1), (1, ac_get 0 5 10 4), (4, ac_if1 (fun x => ¬ x = 0) 22 7), (7, ac_aload 0 8), (8, ac_get 2 5 0 11), (11, ac_lload 1 12), (12, ac_callV 3 20 2 15 am_nohd), (15, ac_if1 (fun x => x = 0) 22 18), (18, ac_push (.int 1) 19), (19, ac_goto 23), (22, ac_push (.int 0) 23), (23, ac_zret)]
theorem k_p37_0 : ∀ q ∈ k_c37_0, am_Ok k_nm D cA B0 sb H00 (k_Th B0 sb H00) prog_1_method_2_code "TokenMouth" "type" [] (some .boolean) q.1 q.2 :=
  am_c (ok_aload_n (k := 0) (by decide +kernel) rfl) <|
  am_c (ok_get (by decide +kernel) (by decide +kernel) rfl (by decide +kernel) kw_140) <|
  am_c (ok_ifne (off := 18) (by decide +kernel) (by decide +kernel)) <|
  am_c (ok_aload_n (k := 0) (by decide +kernel) rfl) <|
  am_c (ok_get (by decide +kernel) (by decide +kernel) rfl (by decide +kernel) kw_111) <|
  am_c (ok_lload_n (k := 1) (by decide +kernel) rfl) <|
  am_c (ok_callV (by decide +kernel) (by decide +kernel) kw_142 kw_143 kw_144 kw_141 (by decide +kernel) (by decide +kernel)) <|
  am_c (ok_ifeq (off := 7) (by decide +kernel) (by decide +kernel)) <|
  am_c (ok_iconst (z := 1) (by decide +kernel) (by decide +kernel)) <|
  am_c (ok_goto (off := 4) (by decide +kernel) (by decide +kernel)) <|
  am_c (ok_iconst (z := 0) (by decide +kernel) (by decide +kernel)) <|
  am_c (ok_zret (by decide +kernel) rfl) <|
  am_n
def k_t37 : List (Nat × List (Nat × am_A)) := [(23, k_c37_0)]
theorem k_o37 : ∀ c ∈ k_t37, ∀ q ∈ c.2, am_Ok k_nm D cA B0 sb H00 (k_Th B0 sb H00) prog_1_method_2_code "TokenMouth" "type" [] (some .boolean) q.1 q.2 := am_cc (P := fun pc a => am_Ok k_nm D cA B0 sb H00 (k_Th B0 sb H00) prog_1_method_2_code "TokenMouth" "type" [] (some .boolean) pc a) k_p37_0 <| am_cn0
-- 38: TokenMouth.wipe()V
def k_c38_0 : List (Nat × am_A) := [(0, ac_aload 0 1), (1, ac_get 2 5 0 4), (4, ac_callV 3 16 1 7 am_nohd), (7, ac_aload 0 8), (8, ac_callV 5 47 1 11 am_nohd), (11, ac_ret)]
theorem k_p38_0 : ∀ q ∈ k_c38_0, am_Ok k_nm D cA B0 sb H00 (k_Th B0 sb H00) prog_1_method_3_code "TokenMouth" "wipe" [] none q.1 q.2 :=
  am_c (ok_aload_n (k := 0) (by decide +kernel) rfl) <|
  am_c (ok_get (by decide +kernel) (by decide +kernel) rfl (by decide +kernel) kw_111) <|
  am_c (ok_callV (by decide +kernel) (by decide +kernel) kw_146 kw_147 kw_148 kw_145 (by decide +kernel) (by decide +kernel)) <|
  am_c (ok_aload_n (k := 0) (by decide +kernel) rfl) <|
  am_c (ok_callV (by decide +kernel) (by decide +kernel) kw_150 kw_151 kw_152 kw_149 (by decide +kernel) (by decide +kernel)) <|
  am_c (ok_ret (by decide +kernel) rfl) <|
  am_n
def k_t38 : List (Nat × List (Nat × am_A)) := [(11, k_c38_0)]
theorem k_o38 : ∀ c ∈ k_t38, ∀ q ∈ c.2, am_Ok k_nm D cA B0 sb H00 (k_Th B0 sb H00) prog_1_method_3_code "TokenMouth" "wipe" [] none q.1 q.2 := am_cc (P := fun pc a => am_Ok k_nm D cA B0 sb H00 (k_Th B0 sb H00) prog_1_method_3_code "TokenMouth" "wipe" [] none pc a) k_p38_0 <| am_cn0
-- 39: TokenMouth.again()V
def k_c39_0 : List (Nat × am_A) := [(0, ac_aload 0 1), (1, ac_callV 5 47 1 4 am_nohd), (4, ac_ret)]
theorem k_p39_0 : ∀ q ∈ k_c39_0, am_Ok k_nm D cA B0 sb H00 (k_Th B0 sb H00) prog_1_method_4_code "TokenMouth" "again" [] none q.1 q.2 :=
  am_c (ok_aload_n (k := 0) (by decide +kernel) rfl) <|
  am_c (ok_callV (by decide +kernel) (by decide +kernel) kw_150 kw_151 kw_152 kw_149 (by decide +kernel) (by decide +kernel)) <|
  am_c (ok_ret (by decide +kernel) rfl) <|
  am_n
def k_t39 : List (Nat × List (Nat × am_A)) := [(4, k_c39_0)]
theorem k_o39 : ∀ c ∈ k_t39, ∀ q ∈ c.2, am_Ok k_nm D cA B0 sb H00 (k_Th B0 sb H00) prog_1_method_4_code "TokenMouth" "again" [] none q.1 q.2 := am_cc (P := fun pc a => am_Ok k_nm D cA B0 sb H00 (k_Th B0 sb H00) prog_1_method_4_code "TokenMouth" "again" [] none pc a) k_p39_0 <| am_cn0
-- 40: TokenMouth.run(I)I
def k_c40_0 : List (Nat × am_A) := [(0, ac_iload 1 1), (1, ac_push (.int 1) 2), (2, ac_if2 (fun x y => x < y) 12 5), (5, ac_iload 1 6), (6, ac_push (.int 500) 9), (9, ac_if2 (fun x y => x ≤ y) 22 12), (12, ac_throw 0), (22, ac_aload 0 23), (23, ac_get 0 5 11 26), (26, ac_if1 (fun x => x = 0) 39 29), (29, ac_throw 1), (39, ac_push (.int 0) 40), (40, ac_istore 2 41), (41, ac_iload 2 42), (42, ac_iload 1 43), (43, ac_if2 (fun x y => y ≤ x) 104 46), (46, ac_aload 0 47), (47, ac_dup 48), (48, ac_get 0 5 10 51), (51, ac_push (.int 1) 52), (52, ac_ii (fun x y => x + y) 53), (53, ac_putI 5 10 56), (56, ac_aload 0 57), (57, ac_push (.int 0) 58)]
theorem k_p40_0 : ∀ q ∈ k_c40_0, am_Ok k_nm D cA B0 sb H00 (k_Th B0 sb H00) prog_1_method_5_code "TokenMouth" "run" [] (some .int) q.1 q.2 :=
  am_c (ok_iload_n (k := 1) (by decide +kernel) rfl) <|
  am_c (ok_iconst (z := 1) (by decide +kernel) (by decide +kernel)) <|
  am_c (ok_icmplt (off := 10) (by decide +kernel) (by decide +kernel)) <|
  am_c (ok_iload_n (k := 1) (by decide +kernel) rfl) <|
  am_c (ok_sipush (z := 500) (by decide +kernel) (by decide +kernel)) <|
  am_c (ok_icmple (off := 13) (by decide +kernel) (by decide +kernel)) <|
  am_c (ok_throw (kd := 0) (ic := 74) (il := 76) (ii := 78) (ix := 7) (tx := "n is not 1 .. 500") (bx := Bundle.six) (by decide +kernel) (by decide +kernel) (by decide +kernel) (by decide +kernel) (by decide +kernel) (by decide +kernel) (by decide +kernel) (by decide +kernel) (by decide +kernel) (by decide +kernel) (by decide +kernel) (am_inT ⟨(th_q _ (List.mem_of_getElem? (i := 0) rfl)).1, rfl⟩) (am_inT ⟨(th_q _ (List.mem_of_getElem? (i := 0) rfl)).2.1, rfl⟩) (am_inT ⟨(th_q _ (List.mem_of_getElem? (i := 0) rfl)).2.2, rfl⟩) th_o0 th_p0) <|
  am_c (ok_aload_n (k := 0) (by decide +kernel) rfl) <|
  am_c (ok_get (by decide +kernel) (by decide +kernel) rfl (by decide +kernel) kw_153) <|
  am_c (ok_ifeq (off := 13) (by decide +kernel) (by decide +kernel)) <|
  am_c (ok_throw (kd := 1) (ic := 84) (il := 86) (ii := 88) (ix := 7) (tx := "the run came to a fault before") (bx := Bundle.six) (by decide +kernel) (by decide +kernel) (by decide +kernel) (by decide +kernel) (by decide +kernel) (by decide +kernel) (by decide +kernel) (by decide +kernel) (by decide +kernel) (by decide +kernel) (by decide +kernel) (am_inT ⟨(th_q _ (List.mem_of_getElem? (i := 1) rfl)).1, rfl⟩) (am_inT ⟨(th_q _ (List.mem_of_getElem? (i := 1) rfl)).2.1, rfl⟩) (am_inT ⟨(th_q _ (List.mem_of_getElem? (i := 1) rfl)).2.2, rfl⟩) th_o1 th_p1) <|
  am_c (ok_iconst (z := 0) (by decide +kernel) (by decide +kernel)) <|
  am_c (ok_istore_n (k := 2) (by decide +kernel) rfl) <|
  am_c (ok_iload_n (k := 2) (by decide +kernel) rfl) <|
  am_c (ok_iload_n (k := 1) (by decide +kernel) rfl) <|
  am_c (ok_icmpge (off := 61) (by decide +kernel) (by decide +kernel)) <|
  am_c (ok_aload_n (k := 0) (by decide +kernel) rfl) <|
  am_c (ok_dup (by decide +kernel)) <|
  am_c (ok_get (by decide +kernel) (by decide +kernel) rfl (by decide +kernel) kw_140) <|
  am_c (ok_iconst (z := 1) (by decide +kernel) (by decide +kernel)) <|
  am_c (ok_iadd (by decide +kernel)) <|
  am_c (ok_putI (by decide +kernel) (by decide +kernel) rfl (by decide +kernel) kw_140 rfl) <|
  am_c (ok_aload_n (k := 0) (by decide +kernel) rfl) <|
  am_c (ok_iconst (z := 0) (by decide +kernel) (by decide +kernel)) <|
  am_n
def k_c40_1 : List (Nat × am_A) := [(58, ac_putI 5 12 61), (61, ac_aload 0 62), (62, ac_push (.int 0) 63), (63, ac_putI 5 13 66), (66, ac_aload 0 67), (67, ac_push (.int 0) 68), (68, ac_callV 5 61 2 71 am_nohd), (71, ac_istore 3 72), (72, ac_iload 3 73), (73, ac_push (.int (-1)) 74), (74, ac_if2 (fun x y => ¬ x = y) 89 77), (77, ac_aload 0 78), (78, ac_dup 79), (79, ac_get 0 5 10 82), (82, ac_push (.int 1) 83), (83, ac_ii (fun x y => x - y) 84), (84, ac_putI 5 10 87), (87, ac_push (.int 1) 88), (88, ac_iret), (89, ac_aload 0 90), (90, ac_aload 0 91), (91, ac_iload 3 92), (92, ac_callV 5 55 2 95 am_nohd), (95, ac_callV 5 64 2 98 am_nohd)]
theorem k_p40_1 : ∀ q ∈ k_c40_1, am_Ok k_nm D cA B0 sb H00 (k_Th B0 sb H00) prog_1_method_5_code "TokenMouth" "run" [] (some .int) q.1 q.2 :=
  am_c (ok_putI (by decide +kernel) (by decide +kernel) rfl (by decide +kernel) kw_154 rfl) <|
  am_c (ok_aload_n (k := 0) (by decide +kernel) rfl) <|
  am_c (ok_iconst (z := 0) (by decide +kernel) (by decide +kernel)) <|
  am_c (ok_putI (by decide +kernel) (by decide +kernel) rfl (by decide +kernel) kw_155 rfl) <|
  am_c (ok_aload_n (k := 0) (by decide +kernel) rfl) <|
  am_c (ok_iconst (z := 0) (by decide +kernel) (by decide +kernel)) <|
  am_c (ok_callV (by decide +kernel) (by decide +kernel) kw_157 kw_158 kw_159 kw_156 (by decide +kernel) (by decide +kernel)) <|
  am_c (ok_istore_n (k := 3) (by decide +kernel) rfl) <|
  am_c (ok_iload_n (k := 3) (by decide +kernel) rfl) <|
  am_c (ok_iconst (z := -1) (by decide +kernel) (by decide +kernel)) <|
  am_c (ok_icmpne (off := 15) (by decide +kernel) (by decide +kernel)) <|
  am_c (ok_aload_n (k := 0) (by decide +kernel) rfl) <|
  am_c (ok_dup (by decide +kernel)) <|
  am_c (ok_get (by decide +kernel) (by decide +kernel) rfl (by decide +kernel) kw_140) <|
  am_c (ok_iconst (z := 1) (by decide +kernel) (by decide +kernel)) <|
  am_c (ok_isub (by decide +kernel)) <|
  am_c (ok_putI (by decide +kernel) (by decide +kernel) rfl (by decide +kernel) kw_140 rfl) <|
  am_c (ok_iconst (z := 1) (by decide +kernel) (by decide +kernel)) <|
  am_c (ok_iret (by decide +kernel) rfl) <|
  am_c (ok_aload_n (k := 0) (by decide +kernel) rfl) <|
  am_c (ok_aload_n (k := 0) (by decide +kernel) rfl) <|
  am_c (ok_iload_n (k := 3) (by decide +kernel) rfl) <|
  am_c (ok_callV (by decide +kernel) (by decide +kernel) kw_161 kw_162 kw_163 kw_160 (by decide +kernel) (by decide +kernel)) <|
  am_c (ok_callV (by decide +kernel) (by decide +kernel) kw_165 kw_166 kw_167 kw_164 (by decide +kernel) (by decide +kernel)) <|
  am_n
def k_c40_2 : List (Nat × am_A) := [(98, ac_iinc 2 1 101), (101, ac_goto 41), (104, ac_push (.int 0) 105), (105, ac_iret)]
theorem k_p40_2 : ∀ q ∈ k_c40_2, am_Ok k_nm D cA B0 sb H00 (k_Th B0 sb H00) prog_1_method_5_code "TokenMouth" "run" [] (some .int) q.1 q.2 :=
  am_c (ok_iinc (z := 1) (by decide +kernel) (by decide +kernel)) <|
  am_c (ok_goto (off := -60) (by decide +kernel) (by decide +kernel)) <|
  am_c (ok_iconst (z := 0) (by decide +kernel) (by decide +kernel)) <|
  am_c (ok_iret (by decide +kernel) rfl) <|
  am_n
def k_t40 : List (Nat × List (Nat × am_A)) := [(57, k_c40_0), (95, k_c40_1), (105, k_c40_2)]
theorem k_o40 : ∀ c ∈ k_t40, ∀ q ∈ c.2, am_Ok k_nm D cA B0 sb H00 (k_Th B0 sb H00) prog_1_method_5_code "TokenMouth" "run" [] (some .int) q.1 q.2 := am_cc (P := fun pc a => am_Ok k_nm D cA B0 sb H00 (k_Th B0 sb H00) prog_1_method_5_code "TokenMouth" "run" [] (some .int) pc a) k_p40_0 <| am_cc (P := fun pc a => am_Ok k_nm D cA B0 sb H00 (k_Th B0 sb H00) prog_1_method_5_code "TokenMouth" "run" [] (some .int) pc a) k_p40_1 <| am_cc (P := fun pc a => am_Ok k_nm D cA B0 sb H00 (k_Th B0 sb H00) prog_1_method_5_code "TokenMouth" "run" [] (some .int) pc a) k_p40_2 <| am_cn0
-- 41: TokenMouth.fault(I)I
def k_c41_0 : List (Nat × am_A) := [(0, ac_iload 1 1), (1, ac_if1 (fun x => x < 0) 9 4), (4, ac_iload 1 5), (5, ac_push (.int 1) 6), (6, ac_if2 (fun x y => x ≤ y) 19 9), (9, ac_throw 2), (19, ac_iload 1 20), (20, ac_if1 (fun x => ¬ x = 0) 30 23), (23, ac_aload 0 24), (24, ac_get 0 5 11 27), (27, ac_goto 37), (30, ac_aload 0 31), (31, ac_get 2 5 0 34), (34, ac_get 0 3 4 37), (37, ac_iret)]
theorem k_p41_0 : ∀ q ∈ k_c41_0, am_Ok k_nm D cA B0 sb H00 (k_Th B0 sb H00) prog_1_method_6_code "TokenMouth" "fault" [] (some .int) q.1 q.2 :=
  am_c (ok_iload_n (k := 1) (by decide +kernel) rfl) <|
  am_c (ok_iflt (off := 8) (by decide +kernel) (by decide +kernel)) <|
  am_c (ok_iload_n (k := 1) (by decide +kernel) rfl) <|
  am_c (ok_iconst (z := 1) (by decide +kernel) (by decide +kernel)) <|
  am_c (ok_icmple (off := 13) (by decide +kernel) (by decide +kernel)) <|
  am_c (ok_throw (kd := 2) (ic := 106) (il := 108) (ii := 110) (ix := 7) (tx := "what is not 0 or 1") (bx := Bundle.six) (by decide +kernel) (by decide +kernel) (by decide +kernel) (by decide +kernel) (by decide +kernel) (by decide +kernel) (by decide +kernel) (by decide +kernel) (by decide +kernel) (by decide +kernel) (by decide +kernel) (am_inT ⟨(th_q _ (List.mem_of_getElem? (i := 2) rfl)).1, rfl⟩) (am_inT ⟨(th_q _ (List.mem_of_getElem? (i := 2) rfl)).2.1, rfl⟩) (am_inT ⟨(th_q _ (List.mem_of_getElem? (i := 2) rfl)).2.2, rfl⟩) th_o2 th_p2) <|
  am_c (ok_iload_n (k := 1) (by decide +kernel) rfl) <|
  am_c (ok_ifne (off := 10) (by decide +kernel) (by decide +kernel)) <|
  am_c (ok_aload_n (k := 0) (by decide +kernel) rfl) <|
  am_c (ok_get (by decide +kernel) (by decide +kernel) rfl (by decide +kernel) kw_153) <|
  am_c (ok_goto (off := 10) (by decide +kernel) (by decide +kernel)) <|
  am_c (ok_aload_n (k := 0) (by decide +kernel) rfl) <|
  am_c (ok_get (by decide +kernel) (by decide +kernel) rfl (by decide +kernel) kw_111) <|
  am_c (ok_get (by decide +kernel) (by decide +kernel) rfl (by decide +kernel) kw_168) <|
  am_c (ok_iret (by decide +kernel) rfl) <|
  am_n
def k_t41 : List (Nat × List (Nat × am_A)) := [(37, k_c41_0)]
theorem k_o41 : ∀ c ∈ k_t41, ∀ q ∈ c.2, am_Ok k_nm D cA B0 sb H00 (k_Th B0 sb H00) prog_1_method_6_code "TokenMouth" "fault" [] (some .int) q.1 q.2 := am_cc (P := fun pc a => am_Ok k_nm D cA B0 sb H00 (k_Th B0 sb H00) prog_1_method_6_code "TokenMouth" "fault" [] (some .int) pc a) k_p41_0 <| am_cn0
-- 42: TokenMouth.out(I)I
def k_c42_0 : List (Nat × am_A) := [(0, ac_aload 0 1), (1, ac_get 2 5 4 4), (4, ac_iload 1 5), (5, ac_callV 4 25 2 8 am_nohd), (8, ac_istore 2 9), (9, ac_iload 2 10), (10, ac_push (.int (-1)) 11), (11, ac_if2 (fun x y => ¬ x = y) 24 14), (14, ac_throw 2), (24, ac_iload 2 25), (25, ac_iret)]
theorem k_p42_0 : ∀ q ∈ k_c42_0, am_Ok k_nm D cA B0 sb H00 (k_Th B0 sb H00) prog_1_method_7_code "TokenMouth" "out" [] (some .int) q.1 q.2 :=
  am_c (ok_aload_n (k := 0) (by decide +kernel) rfl) <|
  am_c (ok_get (by decide +kernel) (by decide +kernel) rfl (by decide +kernel) kw_129) <|
  am_c (ok_iload_n (k := 1) (by decide +kernel) rfl) <|
  am_c (ok_callV (by decide +kernel) (by decide +kernel) kw_169 kw_33 kw_34 kw_31 (by decide +kernel) (by decide +kernel)) <|
  am_c (ok_istore_n (k := 2) (by decide +kernel) rfl) <|
  am_c (ok_iload_n (k := 2) (by decide +kernel) rfl) <|
  am_c (ok_iconst (z := -1) (by decide +kernel) (by decide +kernel)) <|
  am_c (ok_icmpne (off := 13) (by decide +kernel) (by decide +kernel)) <|
  am_c (ok_throw (kd := 2) (ic := 106) (il := 117) (ii := 110) (ix := 7) (tx := "no such token is out") (bx := Bundle.six) (by decide +kernel) (by decide +kernel) (by decide +kernel) (by decide +kernel) (by decide +kernel) (by decide +kernel) (by decide +kernel) (by decide +kernel) (by decide +kernel) (by decide +kernel) (by decide +kernel) (am_inT ⟨(th_q _ (List.mem_of_getElem? (i := 2) rfl)).1, rfl⟩) (am_inT ⟨(th_q _ (List.mem_of_getElem? (i := 2) rfl)).2.1, rfl⟩) (am_inT ⟨(th_q _ (List.mem_of_getElem? (i := 2) rfl)).2.2, rfl⟩) th_o2 th_p2) <|
  am_c (ok_iload_n (k := 2) (by decide +kernel) rfl) <|
  am_c (ok_iret (by decide +kernel) rfl) <|
  am_n
def k_t42 : List (Nat × List (Nat × am_A)) := [(25, k_c42_0)]
theorem k_o42 : ∀ c ∈ k_t42, ∀ q ∈ c.2, am_Ok k_nm D cA B0 sb H00 (k_Th B0 sb H00) prog_1_method_7_code "TokenMouth" "out" [] (some .int) q.1 q.2 := am_cc (P := fun pc a => am_Ok k_nm D cA B0 sb H00 (k_Th B0 sb H00) prog_1_method_7_code "TokenMouth" "out" [] (some .int) pc a) k_p42_0 <| am_cn0
-- 43: TokenMouth.count(I)I
def k_c43_0 : List (Nat × am_A) := [(0, ac_iload 1 1), (1, ac_sw [(0, 36), (1, 44), (2, 49), (3, 60), (4, 68)] 73), (36, ac_aload 0 37), (37, ac_get 2 5 4 40), (40, ac_callV 4 24 1 43 am_nohd), (43, ac_iret), (44, ac_aload 0 45), (45, ac_get 0 5 10 48), (48, ac_iret), (49, ac_aload 0 50), (50, ac_get 2 5 2 53), (53, ac_get 2 0 0 56), (56, ac_callV 4 24 1 59 am_nohd), (59, ac_iret), (60, ac_aload 0 61), (61, ac_get 2 5 5 64), (64, ac_callV 4 24 1 67 am_nohd), (67, ac_iret), (68, ac_aload 0 69), (69, ac_get 0 5 9 72), (72, ac_iret), (73, ac_throw 2)]
theorem k_p43_0 : ∀ q ∈ k_c43_0, am_Ok k_nm D cA B0 sb H00 (k_Th B0 sb H00) prog_1_method_8_code "TokenMouth" "count" [] (some .int) q.1 q.2 :=
  am_c (ok_iload_n (k := 1) (by decide +kernel) rfl) <|
  am_c (ok_sw (dflt := 72) (lo := 0) (hi := 4) (offs := #[35, 43, 48, 59, 67]) (len := 35) (by decide +kernel) ⟨(by decide +kernel), (by decide +kernel), (by decide +kernel), (by decide +kernel), (by decide +kernel), (by decide +kernel), (by decide +kernel), (by decide +kernel), (by decide +kernel), (by decide +kernel), rfl⟩ (by decide +kernel) (by decide +kernel)) <|
  am_c (ok_aload_n (k := 0) (by decide +kernel) rfl) <|
  am_c (ok_get (by decide +kernel) (by decide +kernel) rfl (by decide +kernel) kw_129) <|
  am_c (ok_callV (by decide +kernel) (by decide +kernel) kw_170 kw_17 kw_18 kw_15 (by decide +kernel) (by decide +kernel)) <|
  am_c (ok_iret (by decide +kernel) rfl) <|
  am_c (ok_aload_n (k := 0) (by decide +kernel) rfl) <|
  am_c (ok_get (by decide +kernel) (by decide +kernel) rfl (by decide +kernel) kw_140) <|
  am_c (ok_iret (by decide +kernel) rfl) <|
  am_c (ok_aload_n (k := 0) (by decide +kernel) rfl) <|
  am_c (ok_get (by decide +kernel) (by decide +kernel) rfl (by decide +kernel) kw_125) <|
  am_c (ok_get (by decide +kernel) (by decide +kernel) rfl (by decide +kernel) kw_171) <|
  am_c (ok_callV (by decide +kernel) (by decide +kernel) kw_170 kw_17 kw_18 kw_15 (by decide +kernel) (by decide +kernel)) <|
  am_c (ok_iret (by decide +kernel) rfl) <|
  am_c (ok_aload_n (k := 0) (by decide +kernel) rfl) <|
  am_c (ok_get (by decide +kernel) (by decide +kernel) rfl (by decide +kernel) kw_130) <|
  am_c (ok_callV (by decide +kernel) (by decide +kernel) kw_170 kw_17 kw_18 kw_15 (by decide +kernel) (by decide +kernel)) <|
  am_c (ok_iret (by decide +kernel) rfl) <|
  am_c (ok_aload_n (k := 0) (by decide +kernel) rfl) <|
  am_c (ok_get (by decide +kernel) (by decide +kernel) rfl (by decide +kernel) kw_172) <|
  am_c (ok_iret (by decide +kernel) rfl) <|
  am_c (ok_throw (kd := 2) (ic := 106) (il := 129) (ii := 110) (ix := 7) (tx := "what is not 0 .. 4") (bx := Bundle.six) (by decide +kernel) (by decide +kernel) (by decide +kernel) (by decide +kernel) (by decide +kernel) (by decide +kernel) (by decide +kernel) (by decide +kernel) (by decide +kernel) (by decide +kernel) (by decide +kernel) (am_inT ⟨(th_q _ (List.mem_of_getElem? (i := 2) rfl)).1, rfl⟩) (am_inT ⟨(th_q _ (List.mem_of_getElem? (i := 2) rfl)).2.1, rfl⟩) (am_inT ⟨(th_q _ (List.mem_of_getElem? (i := 2) rfl)).2.2, rfl⟩) th_o2 th_p2) <|
  am_n
def k_t43 : List (Nat × List (Nat × am_A)) := [(73, k_c43_0)]
theorem k_o43 : ∀ c ∈ k_t43, ∀ q ∈ c.2, am_Ok k_nm D cA B0 sb H00 (k_Th B0 sb H00) prog_1_method_8_code "TokenMouth" "count" [] (some .int) q.1 q.2 := am_cc (P := fun pc a => am_Ok k_nm D cA B0 sb H00 (k_Th B0 sb H00) prog_1_method_8_code "TokenMouth" "count" [] (some .int) pc a) k_p43_0 <| am_cn0
-- 44: TokenMouth.category(I)I
def k_c44_0 : List (Nat × am_A) := [(0, ac_iload 1 1), (1, ac_callS 49 1 4), (4, ac_if1 (fun x => ¬ x = 0) 17 7), (7, ac_throw 2), (17, ac_aload 0 18), (18, ac_get 2 5 0 21), (21, ac_iload 1 22), (22, ac_callV 3 18 2 25 am_nohd), (25, ac_iret)]
theorem k_p44_0 : ∀ q ∈ k_c44_0, am_Ok k_nm D cA B0 sb H00 (k_Th B0 sb H00) prog_1_method_9_code "TokenMouth" "category" [] (some .int) q.1 q.2 :=
  am_c (ok_iload_n (k := 1) (by decide +kernel) rfl) <|
  am_c (ok_callS (by decide +kernel) kw_174 kw_175 kw_86 kw_173 (by decide +kernel) (by decide +kernel)) <|
  am_c (ok_ifne (off := 13) (by decide +kernel) (by decide +kernel)) <|
  am_c (ok_throw (kd := 2) (ic := 106) (il := 135) (ii := 110) (ix := 7) (tx := "no character of a text") (bx := Bundle.six) (by decide +kernel) (by decide +kernel) (by decide +kernel) (by decide +kernel) (by decide +kernel) (by decide +kernel) (by decide +kernel) (by decide +kernel) (by decide +kernel) (by decide +kernel) (by decide +kernel) (am_inT ⟨(th_q _ (List.mem_of_getElem? (i := 2) rfl)).1, rfl⟩) (am_inT ⟨(th_q _ (List.mem_of_getElem? (i := 2) rfl)).2.1, rfl⟩) (am_inT ⟨(th_q _ (List.mem_of_getElem? (i := 2) rfl)).2.2, rfl⟩) th_o2 th_p2) <|
  am_c (ok_aload_n (k := 0) (by decide +kernel) rfl) <|
  am_c (ok_get (by decide +kernel) (by decide +kernel) rfl (by decide +kernel) kw_111) <|
  am_c (ok_iload_n (k := 1) (by decide +kernel) rfl) <|
  am_c (ok_callV (by decide +kernel) (by decide +kernel) kw_177 kw_178 kw_179 kw_176 (by decide +kernel) (by decide +kernel)) <|
  am_c (ok_iret (by decide +kernel) rfl) <|
  am_n
def k_t44 : List (Nat × List (Nat × am_A)) := [(25, k_c44_0)]
theorem k_o44 : ∀ c ∈ k_t44, ∀ q ∈ c.2, am_Ok k_nm D cA B0 sb H00 (k_Th B0 sb H00) prog_1_method_9_code "TokenMouth" "category" [] (some .int) q.1 q.2 := am_cc (P := fun pc a => am_Ok k_nm D cA B0 sb H00 (k_Th B0 sb H00) prog_1_method_9_code "TokenMouth" "category" [] (some .int) pc a) k_p44_0 <| am_cn0
-- 45: TokenMouth.meaning(JZ)I
def k_c45_0 : List (Nat × am_A) := [(0, ac_aload 0 1), (1, ac_lload 1 2), (2, ac_iload 3 3), (3, ac_callV 5 51 3 6 am_nohd), (6, ac_istore 4 8), (8, ac_iload 4 10), (10, ac_if1 (fun x => ¬ x = 0) 15 13), (13, ac_push (.int 0) 14), (14, ac_iret), (15, ac_iload 4 17), (17, ac_push (.int 18) 19), (19, ac_if2 (fun x y => y < x) 24 22), (22, ac_push (.int 1) 23), (23, ac_iret), (24, ac_iload 4 26), (26, ac_push (.int 4096) 29), (29, ac_if2 (fun x y => y ≤ x) 36 32), (32, ac_push (.int 2) 33), (33, ac_goto 37), (36, ac_push (.int 3) 37), (37, ac_iret)]
theorem k_p45_0 : ∀ q ∈ k_c45_0, am_Ok k_nm D cA B0 sb H00 (k_Th B0 sb H00) prog_1_method_10_code "TokenMouth" "meaning" [] (some .int) q.1 q.2 :=
  am_c (ok_aload_n (k := 0) (by decide +kernel) rfl) <|
  am_c (ok_lload_n (k := 1) (by decide +kernel) rfl) <|
  am_c (ok_iload_n (k := 3) (by decide +kernel) rfl) <|
  am_c (ok_callV (by decide +kernel) (by decide +kernel) kw_181 kw_182 kw_183 kw_180 (by decide +kernel) (by decide +kernel)) <|
  am_c (ok_istore (by decide +kernel)) <|
  am_c (ok_iload (by decide +kernel)) <|
  am_c (ok_ifne (off := 5) (by decide +kernel) (by decide +kernel)) <|
  am_c (ok_iconst (z := 0) (by decide +kernel) (by decide +kernel)) <|
  am_c (ok_iret (by decide +kernel) rfl) <|
  am_c (ok_iload (by decide +kernel)) <|
  am_c (ok_bipush (z := 18) (by decide +kernel) (by decide +kernel)) <|
  am_c (ok_icmpgt (off := 5) (by decide +kernel) (by decide +kernel)) <|
  am_c (ok_iconst (z := 1) (by decide +kernel) (by decide +kernel)) <|
  am_c (ok_iret (by decide +kernel) rfl) <|
  am_c (ok_iload (by decide +kernel)) <|
  am_c (ok_sipush (z := 4096) (by decide +kernel) (by decide +kernel)) <|
  am_c (ok_icmpge (off := 7) (by decide +kernel) (by decide +kernel)) <|
  am_c (ok_iconst (z := 2) (by decide +kernel) (by decide +kernel)) <|
  am_c (ok_goto (off := 4) (by decide +kernel) (by decide +kernel)) <|
  am_c (ok_iconst (z := 3) (by decide +kernel) (by decide +kernel)) <|
  am_c (ok_iret (by decide +kernel) rfl) <|
  am_n
def k_t45 : List (Nat × List (Nat × am_A)) := [(37, k_c45_0)]
theorem k_o45 : ∀ c ∈ k_t45, ∀ q ∈ c.2, am_Ok k_nm D cA B0 sb H00 (k_Th B0 sb H00) prog_1_method_10_code "TokenMouth" "meaning" [] (some .int) q.1 q.2 := am_cc (P := fun pc a => am_Ok k_nm D cA B0 sb H00 (k_Th B0 sb H00) prog_1_method_10_code "TokenMouth" "meaning" [] (some .int) pc a) k_p45_0 <| am_cn0
-- 46: TokenMouth.detail(JZI)I
def k_c46_0 : List (Nat × am_A) := [(0, ac_aload 0 1), (1, ac_lload 1 2), (2, ac_iload 3 3), (3, ac_callV 5 51 3 6 am_nohd), (6, ac_istore 5 8), (8, ac_aload 0 9), (9, ac_iload 5 11), (11, ac_callV 5 58 2 14 am_nohd), (14, ac_astore 6 16), (16, ac_iload 4 18), (18, ac_if1 (fun x => ¬ x = 0) 44 21), (21, ac_aload 6 23), (23, ac_ifnull 32 26), (26, ac_aload 6 28), (28, ac_get 0 1 2 31), (31, ac_iret), (32, ac_iload 5 34), (34, ac_if1 (fun x => ¬ x = 0) 41 37), (37, ac_push (.int (-1)) 38), (38, ac_goto 43), (41, ac_iload 5 43), (43, ac_iret), (44, ac_iload 4 46), (46, ac_push (.int 1) 47)]
theorem k_p46_0 : ∀ q ∈ k_c46_0, am_Ok k_nm D cA B0 sb H00 (k_Th B0 sb H00) prog_1_method_11_code "TokenMouth" "detail" [] (some .int) q.1 q.2 :=
  am_c (ok_aload_n (k := 0) (by decide +kernel) rfl) <|
  am_c (ok_lload_n (k := 1) (by decide +kernel) rfl) <|
  am_c (ok_iload_n (k := 3) (by decide +kernel) rfl) <|
  am_c (ok_callV (by decide +kernel) (by decide +kernel) kw_181 kw_182 kw_183 kw_180 (by decide +kernel) (by decide +kernel)) <|
  am_c (ok_istore (by decide +kernel)) <|
  am_c (ok_aload_n (k := 0) (by decide +kernel) rfl) <|
  am_c (ok_iload (by decide +kernel)) <|
  am_c (ok_callV (by decide +kernel) (by decide +kernel) kw_185 kw_186 kw_187 kw_184 (by decide +kernel) (by decide +kernel)) <|
  am_c (ok_astore (by decide +kernel)) <|
  am_c (ok_iload (by decide +kernel)) <|
  am_c (ok_ifne (off := 26) (by decide +kernel) (by decide +kernel)) <|
  am_c (ok_aload (by decide +kernel)) <|
  am_c (ok_ifnull (off := 9) (by decide +kernel) (by decide +kernel)) <|
  am_c (ok_aload (by decide +kernel)) <|
  am_c (ok_get (by decide +kernel) (by decide +kernel) rfl (by decide +kernel) kw_188) <|
  am_c (ok_iret (by decide +kernel) rfl) <|
  am_c (ok_iload (by decide +kernel)) <|
  am_c (ok_ifne (off := 7) (by decide +kernel) (by decide +kernel)) <|
  am_c (ok_iconst (z := -1) (by decide +kernel) (by decide +kernel)) <|
  am_c (ok_goto (off := 5) (by decide +kernel) (by decide +kernel)) <|
  am_c (ok_iload (by decide +kernel)) <|
  am_c (ok_iret (by decide +kernel) rfl) <|
  am_c (ok_iload (by decide +kernel)) <|
  am_c (ok_iconst (z := 1) (by decide +kernel) (by decide +kernel)) <|
  am_n
def k_c46_1 : List (Nat × am_A) := [(47, ac_if2 (fun x y => x = y) 56 50), (50, ac_iload 4 52), (52, ac_push (.int 2) 53), (53, ac_if2 (fun x y => ¬ x = y) 89 56), (56, ac_aload 6 58), (58, ac_ifnonnull 63 61), (61, ac_push (.int 0) 62), (62, ac_iret), (63, ac_iload 4 65), (65, ac_push (.int 1) 66), (66, ac_if2 (fun x y => ¬ x = y) 80 69), (69, ac_aload 6 71), (71, ac_get 2 1 0 74), (74, ac_callV 4 24 1 77 am_nohd), (77, ac_goto 88), (80, ac_aload 6 82), (82, ac_get 2 1 1 85), (85, ac_callV 4 24 1 88 am_nohd), (88, ac_iret), (89, ac_aload 6 91), (91, ac_ifnull 99 94), (94, ac_iload 4 96), (96, ac_if1 (fun x => 0 ≤ x) 101 99), (99, ac_push (.int (-1)) 100)]
theorem k_p46_1 : ∀ q ∈ k_c46_1, am_Ok k_nm D cA B0 sb H00 (k_Th B0 sb H00) prog_1_method_11_code "TokenMouth" "detail" [] (some .int) q.1 q.2 :=
  am_c (ok_icmpeq (off := 9) (by decide +kernel) (by decide +kernel)) <|
  am_c (ok_iload (by decide +kernel)) <|
  am_c (ok_iconst (z := 2) (by decide +kernel) (by decide +kernel)) <|
  am_c (ok_icmpne (off := 36) (by decide +kernel) (by decide +kernel)) <|
  am_c (ok_aload (by decide +kernel)) <|
  am_c (ok_ifnonnull (off := 5) (by decide +kernel) (by decide +kernel)) <|
  am_c (ok_iconst (z := 0) (by decide +kernel) (by decide +kernel)) <|
  am_c (ok_iret (by decide +kernel) rfl) <|
  am_c (ok_iload (by decide +kernel)) <|
  am_c (ok_iconst (z := 1) (by decide +kernel) (by decide +kernel)) <|
  am_c (ok_icmpne (off := 14) (by decide +kernel) (by decide +kernel)) <|
  am_c (ok_aload (by decide +kernel)) <|
  am_c (ok_get (by decide +kernel) (by decide +kernel) rfl (by decide +kernel) kw_189) <|
  am_c (ok_callV (by decide +kernel) (by decide +kernel) kw_170 kw_17 kw_18 kw_15 (by decide +kernel) (by decide +kernel)) <|
  am_c (ok_goto (off := 11) (by decide +kernel) (by decide +kernel)) <|
  am_c (ok_aload (by decide +kernel)) <|
  am_c (ok_get (by decide +kernel) (by decide +kernel) rfl (by decide +kernel) kw_190) <|
  am_c (ok_callV (by decide +kernel) (by decide +kernel) kw_170 kw_17 kw_18 kw_15 (by decide +kernel) (by decide +kernel)) <|
  am_c (ok_iret (by decide +kernel) rfl) <|
  am_c (ok_aload (by decide +kernel)) <|
  am_c (ok_ifnull (off := 8) (by decide +kernel) (by decide +kernel)) <|
  am_c (ok_iload (by decide +kernel)) <|
  am_c (ok_ifge (off := 5) (by decide +kernel) (by decide +kernel)) <|
  am_c (ok_iconst (z := -1) (by decide +kernel) (by decide +kernel)) <|
  am_n
def k_c46_2 : List (Nat × am_A) := [(100, ac_iret), (101, ac_aload 6 103), (103, ac_get 2 1 1 106), (106, ac_iload 4 108), (108, ac_push (.int 3) 109), (109, ac_ii (fun x y => x - y) 110), (110, ac_callV 4 25 2 113 am_nohd), (113, ac_istore 7 115), (115, ac_iload 7 117), (117, ac_push (.int 8192) 120), (120, ac_if2 (fun x y => x < y) 134 123), (123, ac_push (.int 4096) 126), (126, ac_iload 7 128), (128, ac_push (.int 8192) 131), (131, ac_ii (fun x y => x - y) 132), (132, ac_ii (fun x y => x + y) 133), (133, ac_iret), (134, ac_iload 7 136), (136, ac_push (.int 4096) 139), (139, ac_if2 (fun x y => x < y) 148 142), (142, ac_push (.int 4096) 145), (145, ac_goto 150), (148, ac_iload 7 150), (150, ac_iret)]
theorem k_p46_2 : ∀ q ∈ k_c46_2, am_Ok k_nm D cA B0 sb H00 (k_Th B0 sb H00) prog_1_method_11_code "TokenMouth" "detail" [] (some .int) q.1 q.2 :=
  am_c (ok_iret (by decide +kernel) rfl) <|
  am_c (ok_aload (by decide +kernel)) <|
  am_c (ok_get (by decide +kernel) (by decide +kernel) rfl (by decide +kernel) kw_190) <|
  am_c (ok_iload (by decide +kernel)) <|
  am_c (ok_iconst (z := 3) (by decide +kernel) (by decide +kernel)) <|
  am_c (ok_isub (by decide +kernel)) <|
  am_c (ok_callV (by decide +kernel) (by decide +kernel) kw_169 kw_33 kw_34 kw_31 (by decide +kernel) (by decide +kernel)) <|
  am_c (ok_istore (by decide +kernel)) <|
  am_c (ok_iload (by decide +kernel)) <|
  am_c (ok_sipush (z := 8192) (by decide +kernel) (by decide +kernel)) <|
  am_c (ok_icmplt (off := 14) (by decide +kernel) (by decide +kernel)) <|
  am_c (ok_sipush (z := 4096) (by decide +kernel) (by decide +kernel)) <|
  am_c (ok_iload (by decide +kernel)) <|
  am_c (ok_sipush (z := 8192) (by decide +kernel) (by decide +kernel)) <|
  am_c (ok_isub (by decide +kernel)) <|
  am_c (ok_iadd (by decide +kernel)) <|
  am_c (ok_iret (by decide +kernel) rfl) <|
  am_c (ok_iload (by decide +kernel)) <|
  am_c (ok_sipush (z := 4096) (by decide +kernel) (by decide +kernel)) <|
  am_c (ok_icmplt (off := 9) (by decide +kernel) (by decide +kernel)) <|
  am_c (ok_sipush (z := 4096) (by decide +kernel) (by decide +kernel)) <|
  am_c (ok_goto (off := 5) (by decide +kernel) (by decide +kernel)) <|
  am_c (ok_iload (by decide +kernel)) <|
  am_c (ok_iret (by decide +kernel) rfl) <|
  am_n
def k_t46 : List (Nat × List (Nat × am_A)) := [(46, k_c46_0), (99, k_c46_1), (150, k_c46_2)]
theorem k_o46 : ∀ c ∈ k_t46, ∀ q ∈ c.2, am_Ok k_nm D cA B0 sb H00 (k_Th B0 sb H00) prog_1_method_11_code "TokenMouth" "detail" [] (some .int) q.1 q.2 := am_cc (P := fun pc a => am_Ok k_nm D cA B0 sb H00 (k_Th B0 sb H00) prog_1_method_11_code "TokenMouth" "detail" [] (some .int) pc a) k_p46_0 <| am_cc (P := fun pc a => am_Ok k_nm D cA B0 sb H00 (k_Th B0 sb H00) prog_1_method_11_code "TokenMouth" "detail" [] (some .int) pc a) k_p46_1 <| am_cc (P := fun pc a => am_Ok k_nm D cA B0 sb H00 (k_Th B0 sb H00) prog_1_method_11_code "TokenMouth" "detail" [] (some .int) pc a) k_p46_2 <| am_cn0
-- 47: TokenMouth.startAnew()V
def k_c47_0 : List (Nat × am_A) := [(0, ac_aload 0 1), (1, ac_get 2 5 0 4), (4, ac_callV 3 17 1 7 am_nohd), (7, ac_aload 0 8), (8, ac_get 2 5 1 11), (11, ac_callV 2 8 1 14 am_nohd), (14, ac_aload 0 15), (15, ac_get 2 5 2 18), (18, ac_callV 0 1 1 21 am_nohd), (21, ac_aload 0 22), (22, ac_get 2 5 3 25), (25, ac_push (.int 0) 26), (26, ac_callV 4 30 2 29 am_nohd), (29, ac_aload 0 30), (30, ac_get 2 5 4 33), (33, ac_push (.int 0) 34), (34, ac_callV 4 30 2 37 am_nohd), (37, ac_aload 0 38), (38, ac_get 2 5 5 41), (41, ac_push (.int 0) 42), (42, ac_callV 4 30 2 45 am_nohd), (45, ac_aload 0 46), (46, ac_push (.int 0) 47), (47, ac_putI 5 9 50)]
theorem k_p47_0 : ∀ q ∈ k_c47_0, am_Ok k_nm D cA B0 sb H00 (k_Th B0 sb H00) prog_1_method_12_code "TokenMouth" "startAnew" [] none q.1 q.2 :=
  am_c (ok_aload_n (k := 0) (by decide +kernel) rfl) <|
  am_c (ok_get (by decide +kernel) (by decide +kernel) rfl (by decide +kernel) kw_111) <|
  am_c (ok_callV (by decide +kernel) (by decide +kernel) kw_191 kw_75 kw_76 kw_73 (by decide +kernel) (by decide +kernel)) <|
  am_c (ok_aload_n (k := 0) (by decide +kernel) rfl) <|
  am_c (ok_get (by decide +kernel) (by decide +kernel) rfl (by decide +kernel) kw_118) <|
  am_c (ok_callV (by decide +kernel) (by decide +kernel) kw_192 kw_63 kw_64 kw_61 (by decide +kernel) (by decide +kernel)) <|
  am_c (ok_aload_n (k := 0) (by decide +kernel) rfl) <|
  am_c (ok_get (by decide +kernel) (by decide +kernel) rfl (by decide +kernel) kw_125) <|
  am_c (ok_callV (by decide +kernel) (by decide +kernel) kw_194 kw_195 kw_196 kw_193 (by decide +kernel) (by decide +kernel)) <|
  am_c (ok_aload_n (k := 0) (by decide +kernel) rfl) <|
  am_c (ok_get (by decide +kernel) (by decide +kernel) rfl (by decide +kernel) kw_128) <|
  am_c (ok_iconst (z := 0) (by decide +kernel) (by decide +kernel)) <|
  am_c (ok_callV (by decide +kernel) (by decide +kernel) kw_197 kw_13 kw_14 kw_11 (by decide +kernel) (by decide +kernel)) <|
  am_c (ok_aload_n (k := 0) (by decide +kernel) rfl) <|
  am_c (ok_get (by decide +kernel) (by decide +kernel) rfl (by decide +kernel) kw_129) <|
  am_c (ok_iconst (z := 0) (by decide +kernel) (by decide +kernel)) <|
  am_c (ok_callV (by decide +kernel) (by decide +kernel) kw_197 kw_13 kw_14 kw_11 (by decide +kernel) (by decide +kernel)) <|
  am_c (ok_aload_n (k := 0) (by decide +kernel) rfl) <|
  am_c (ok_get (by decide +kernel) (by decide +kernel) rfl (by decide +kernel) kw_130) <|
  am_c (ok_iconst (z := 0) (by decide +kernel) (by decide +kernel)) <|
  am_c (ok_callV (by decide +kernel) (by decide +kernel) kw_197 kw_13 kw_14 kw_11 (by decide +kernel) (by decide +kernel)) <|
  am_c (ok_aload_n (k := 0) (by decide +kernel) rfl) <|
  am_c (ok_iconst (z := 0) (by decide +kernel) (by decide +kernel)) <|
  am_c (ok_putI (by decide +kernel) (by decide +kernel) rfl (by decide +kernel) kw_172 rfl) <|
  am_n
def k_c47_1 : List (Nat × am_A) := [(50, ac_aload 0 51), (51, ac_push (.int 0) 52), (52, ac_putI 5 10 55), (55, ac_aload 0 56), (56, ac_push (.int 0) 57), (57, ac_putI 5 11 60), (60, ac_ret)]
theorem k_p47_1 : ∀ q ∈ k_c47_1, am_Ok k_nm D cA B0 sb H00 (k_Th B0 sb H00) prog_1_method_12_code "TokenMouth" "startAnew" [] none q.1 q.2 :=
  am_c (ok_aload_n (k := 0) (by decide +kernel) rfl) <|
  am_c (ok_iconst (z := 0) (by decide +kernel) (by decide +kernel)) <|
  am_c (ok_putI (by decide +kernel) (by decide +kernel) rfl (by decide +kernel) kw_140 rfl) <|
  am_c (ok_aload_n (k := 0) (by decide +kernel) rfl) <|
  am_c (ok_iconst (z := 0) (by decide +kernel) (by decide +kernel)) <|
  am_c (ok_putI (by decide +kernel) (by decide +kernel) rfl (by decide +kernel) kw_153 rfl) <|
  am_c (ok_ret (by decide +kernel) rfl) <|
  am_n
def k_t47 : List (Nat × List (Nat × am_A)) := [(47, k_c47_0), (60, k_c47_1)]
theorem k_o47 : ∀ c ∈ k_t47, ∀ q ∈ c.2, am_Ok k_nm D cA B0 sb H00 (k_Th B0 sb H00) prog_1_method_12_code "TokenMouth" "startAnew" [] none q.1 q.2 := am_cc (P := fun pc a => am_Ok k_nm D cA B0 sb H00 (k_Th B0 sb H00) prog_1_method_12_code "TokenMouth" "startAnew" [] none pc a) k_p47_0 <| am_cc (P := fun pc a => am_Ok k_nm D cA B0 sb H00 (k_Th B0 sb H00) prog_1_method_12_code "TokenMouth" "startAnew" [] none pc a) k_p47_1 <| am_cn0
-- 48: TokenMouth.fail(I)I
def k_c48_0 : List (Nat × am_A) := [(0, ac_aload 0 1), (1, ac_iload 1 2), (2, ac_putI 5 11 5), (5, ac_throw 1)]
theorem k_p48_0 : ∀ q ∈ k_c48_0, am_Ok k_nm D cA B0 sb H00 (k_Th B0 sb H00) prog_1_method_13_code "TokenMouth" "fail" [] (some .int) q.1 q.2 :=
  am_c (ok_aload_n (k := 0) (by decide +kernel) rfl) <|
  am_c (ok_iload_n (k := 1) (by decide +kernel) rfl) <|
  am_c (ok_putI (by decide +kernel) (by decide +kernel) rfl (by decide +kernel) kw_153 rfl) <|
  am_c (ok_throw (kd := 1) (ic := 84) (il := 163) (ii := 88) (ix := 7) (tx := "the run came to a fault") (bx := Bundle.six) (by decide +kernel) (by decide +kernel) (by decide +kernel) (by decide +kernel) (by decide +kernel) (by decide +kernel) (by decide +kernel) (by decide +kernel) (by decide +kernel) (by decide +kernel) (by decide +kernel) (am_inT ⟨(th_q _ (List.mem_of_getElem? (i := 1) rfl)).1, rfl⟩) (am_inT ⟨(th_q _ (List.mem_of_getElem? (i := 1) rfl)).2.1, rfl⟩) (am_inT ⟨(th_q _ (List.mem_of_getElem? (i := 1) rfl)).2.2, rfl⟩) th_o1 th_p1) <|
  am_n
def k_t48 : List (Nat × List (Nat × am_A)) := [(5, k_c48_0)]
theorem k_o48 : ∀ c ∈ k_t48, ∀ q ∈ c.2, am_Ok k_nm D cA B0 sb H00 (k_Th B0 sb H00) prog_1_method_13_code "TokenMouth" "fail" [] (some .int) q.1 q.2 := am_cc (P := fun pc a => am_Ok k_nm D cA B0 sb H00 (k_Th B0 sb H00) prog_1_method_13_code "TokenMouth" "fail" [] (some .int) pc a) k_p48_0 <| am_cn0
-- 49: TokenMouth.isOfText(I)Z
def k_c49_0 : List (Nat × am_A) := [(0, ac_iload 0 1), (1, ac_push (.int 10) 3), (3, ac_if2 (fun x y => x = y) 18 6), (6, ac_iload 0 7), (7, ac_push (.int 32) 9), (9, ac_if2 (fun x y => x < y) 22 12), (12, ac_iload 0 13), (13, ac_push (.int 126) 15), (15, ac_if2 (fun x y => y < x) 22 18), (18, ac_push (.int 1) 19), (19, ac_goto 23), (22, ac_push (.int 0) 23), (23, ac_zret)]
theorem k_p49_0 : ∀ q ∈ k_c49_0, am_Ok k_nm D cA B0 sb H00 (k_Th B0 sb H00) prog_1_method_14_code "TokenMouth" "isOfText" [] (some .boolean) q.1 q.2 :=
  am_c (ok_iload_n (k := 0) (by decide +kernel) rfl) <|
  am_c (ok_bipush (z := 10) (by decide +kernel) (by decide +kernel)) <|
  am_c (ok_icmpeq (off := 15) (by decide +kernel) (by decide +kernel)) <|
  am_c (ok_iload_n (k := 0) (by decide +kernel) rfl) <|
  am_c (ok_bipush (z := 32) (by decide +kernel) (by decide +kernel)) <|
  am_c (ok_icmplt (off := 13) (by decide +kernel) (by decide +kernel)) <|
  am_c (ok_iload_n (k := 0) (by decide +kernel) rfl) <|
  am_c (ok_bipush (z := 126) (by decide +kernel) (by decide +kernel)) <|
  am_c (ok_icmpgt (off := 7) (by decide +kernel) (by decide +kernel)) <|
  am_c (ok_iconst (z := 1) (by decide +kernel) (by decide +kernel)) <|
  am_c (ok_goto (off := 4) (by decide +kernel) (by decide +kernel)) <|
  am_c (ok_iconst (z := 0) (by decide +kernel) (by decide +kernel)) <|
  am_c (ok_zret (by decide +kernel) rfl) <|
  am_n
def k_t49 : List (Nat × List (Nat × am_A)) := [(23, k_c49_0)]
theorem k_o49 : ∀ c ∈ k_t49, ∀ q ∈ c.2, am_Ok k_nm D cA B0 sb H00 (k_Th B0 sb H00) prog_1_method_14_code "TokenMouth" "isOfText" [] (some .boolean) q.1 q.2 := am_cc (P := fun pc a => am_Ok k_nm D cA B0 sb H00 (k_Th B0 sb H00) prog_1_method_14_code "TokenMouth" "isOfText" [] (some .boolean) pc a) k_p49_0 <| am_cn0
-- 50: TokenMouth.charactersOf(J)I
def k_c50_0 : List (Nat × am_A) := [(0, ac_push (.int 0) 1), (1, ac_istore 2 2), (2, ac_push (.int 56) 4), (4, ac_istore 3 5), (5, ac_iload 3 6), (6, ac_if1 (fun x => x < 0) 48 9), (9, ac_lload 0 10), (10, ac_iload 3 11), (11, ac_li (fun x y => (x.toUInt64 >>> (y.toInt64.toUInt64 &&& Int64.toUInt64 63)).toInt64) 12), (12, ac_l2 (fun x => x.toInt32) 13), (13, ac_push (.int 255) 16), (16, ac_ii (fun x y => x &&& y) 17), (17, ac_istore 4 19), (19, ac_iload 4 21), (21, ac_if1 (fun x => x = 0) 34 24), (24, ac_iload 4 26), (26, ac_callS 49 1 29), (29, ac_if1 (fun x => ¬ x = 0) 34 32), (32, ac_push (.int (-1)) 33), (33, ac_iret), (34, ac_iload 4 36), (36, ac_if1 (fun x => x = 0) 42 39), (39, ac_iinc 2 1 42), (42, ac_iinc 3 (-8) 45)]
theorem k_p50_0 : ∀ q ∈ k_c50_0, am_Ok k_nm D cA B0 sb H00 (k_Th B0 sb H00) prog_1_method_15_code "TokenMouth" "charactersOf" [] (some .int) q.1 q.2 :=
  am_c (ok_iconst (z := 0) (by decide +kernel) (by decide +kernel)) <|
  am_c (ok_istore_n (k := 2) (by decide +kernel) rfl) <|
  am_c (ok_bipush (z := 56) (by decide +kernel) (by decide +kernel)) <|
  am_c (ok_istore_n (k := 3) (by decide +kernel) rfl) <|
  am_c (ok_iload_n (k := 3) (by decide +kernel) rfl) <|
  am_c (ok_iflt (off := 42) (by decide +kernel) (by decide +kernel)) <|
  am_c (ok_lload_n (k := 0) (by decide +kernel) rfl) <|
  am_c (ok_iload_n (k := 3) (by decide +kernel) rfl) <|
  am_c (ok_lushr (by decide +kernel)) <|
  am_c (ok_l2i (by decide +kernel)) <|
  am_c (ok_sipush (z := 255) (by decide +kernel) (by decide +kernel)) <|
  am_c (ok_iand (by decide +kernel)) <|
  am_c (ok_istore (by decide +kernel)) <|
  am_c (ok_iload (by decide +kernel)) <|
  am_c (ok_ifeq (off := 13) (by decide +kernel) (by decide +kernel)) <|
  am_c (ok_iload (by decide +kernel)) <|
  am_c (ok_callS (by decide +kernel) kw_174 kw_175 kw_86 kw_173 (by decide +kernel) (by decide +kernel)) <|
  am_c (ok_ifne (off := 5) (by decide +kernel) (by decide +kernel)) <|
  am_c (ok_iconst (z := -1) (by decide +kernel) (by decide +kernel)) <|
  am_c (ok_iret (by decide +kernel) rfl) <|
  am_c (ok_iload (by decide +kernel)) <|
  am_c (ok_ifeq (off := 6) (by decide +kernel) (by decide +kernel)) <|
  am_c (ok_iinc (z := 1) (by decide +kernel) (by decide +kernel)) <|
  am_c (ok_iinc (z := (-8)) (by decide +kernel) (by decide +kernel)) <|
  am_n
def k_c50_1 : List (Nat × am_A) := [(45, ac_goto 5), (48, ac_iload 2 49), (49, ac_iret)]
theorem k_p50_1 : ∀ q ∈ k_c50_1, am_Ok k_nm D cA B0 sb H00 (k_Th B0 sb H00) prog_1_method_15_code "TokenMouth" "charactersOf" [] (some .int) q.1 q.2 :=
  am_c (ok_goto (off := -40) (by decide +kernel) (by decide +kernel)) <|
  am_c (ok_iload_n (k := 2) (by decide +kernel) rfl) <|
  am_c (ok_iret (by decide +kernel) rfl) <|
  am_n
def k_t50 : List (Nat × List (Nat × am_A)) := [(42, k_c50_0), (49, k_c50_1)]
theorem k_o50 : ∀ c ∈ k_t50, ∀ q ∈ c.2, am_Ok k_nm D cA B0 sb H00 (k_Th B0 sb H00) prog_1_method_15_code "TokenMouth" "charactersOf" [] (some .int) q.1 q.2 := am_cc (P := fun pc a => am_Ok k_nm D cA B0 sb H00 (k_Th B0 sb H00) prog_1_method_15_code "TokenMouth" "charactersOf" [] (some .int) pc a) k_p50_0 <| am_cc (P := fun pc a => am_Ok k_nm D cA B0 sb H00 (k_Th B0 sb H00) prog_1_method_15_code "TokenMouth" "charactersOf" [] (some .int) pc a) k_p50_1 <| am_cn0
-- 51: TokenMouth.meaningOfTyped(JZ)I
def k_c51_0 : List (Nat × am_A) := [(0, ac_lload 1 1), (1, ac_callS 50 1 4), (4, ac_istore 4 6), (6, ac_iload 4 8), (8, ac_push (.int 1) 9), (9, ac_if2 (fun x y => x < y) 22 12), (12, ac_iload 3 13), (13, ac_if1 (fun x => x = 0) 32 16), (16, ac_iload 4 18), (18, ac_push (.int 1) 19), (19, ac_if2 (fun x y => x ≤ y) 32 22), (22, ac_throw 3), (32, ac_push (.long 0) 33), (33, ac_lstore 5 35), (35, ac_push (.int 56) 37), (37, ac_istore 7 39), (39, ac_iload 7 41), (41, ac_if1 (fun x => x < 0) 77 44), (44, ac_lload 1 45), (45, ac_iload 7 47), (47, ac_li (fun x y => (x.toUInt64 >>> (y.toInt64.toUInt64 &&& Int64.toUInt64 63)).toInt64) 48), (48, ac_push (.long 255) 51), (51, ac_ll (fun x y => x &&& y) 52), (52, ac_lstore 8 54)]
theorem k_p51_0 : ∀ q ∈ k_c51_0, am_Ok k_nm D cA B0 sb H00 (k_Th B0 sb H00) prog_1_method_16_code "TokenMouth" "meaningOfTyped" [] (some .int) q.1 q.2 :=
  am_c (ok_lload_n (k := 1) (by decide +kernel) rfl) <|
  am_c (ok_callS (by decide +kernel) kw_198 kw_87 kw_86 kw_85 (by decide +kernel) (by decide +kernel)) <|
  am_c (ok_istore (by decide +kernel)) <|
  am_c (ok_iload (by decide +kernel)) <|
  am_c (ok_iconst (z := 1) (by decide +kernel) (by decide +kernel)) <|
  am_c (ok_icmplt (off := 13) (by decide +kernel) (by decide +kernel)) <|
  am_c (ok_iload_n (k := 3) (by decide +kernel) rfl) <|
  am_c (ok_ifeq (off := 19) (by decide +kernel) (by decide +kernel)) <|
  am_c (ok_iload (by decide +kernel)) <|
  am_c (ok_iconst (z := 1) (by decide +kernel) (by decide +kernel)) <|
  am_c (ok_icmple (off := 13) (by decide +kernel) (by decide +kernel)) <|
  am_c (ok_throw (kd := 3) (ic := 169) (il := 171) (ii := 173) (ix := 13) (tx := "no characters of a name") (bx := prog_21_method_4_code) (by decide +kernel) (by decide +kernel) (by decide +kernel) (by decide +kernel) (by decide +kernel) (by decide +kernel) (by decide +kernel) (by decide +kernel) (by decide +kernel) (by decide +kernel) (by decide +kernel) (am_inT ⟨(th_q _ (List.mem_of_getElem? (i := 3) rfl)).1, rfl⟩) (am_inT ⟨(th_q _ (List.mem_of_getElem? (i := 3) rfl)).2.1, rfl⟩) (am_inT ⟨(th_q _ (List.mem_of_getElem? (i := 3) rfl)).2.2, rfl⟩) th_o3 th_p3) <|
  am_c (ok_lconst (z := 0) (by decide +kernel) (by decide +kernel)) <|
  am_c (ok_lstore (by decide +kernel)) <|
  am_c (ok_bipush (z := 56) (by decide +kernel) (by decide +kernel)) <|
  am_c (ok_istore (by decide +kernel)) <|
  am_c (ok_iload (by decide +kernel)) <|
  am_c (ok_iflt (off := 36) (by decide +kernel) (by decide +kernel)) <|
  am_c (ok_lload_n (k := 1) (by decide +kernel) rfl) <|
  am_c (ok_iload (by decide +kernel)) <|
  am_c (ok_lushr (by decide +kernel)) <|
  am_c (ok_ldc2 (by decide +kernel) kw_199) <|
  am_c (ok_land (by decide +kernel)) <|
  am_c (ok_lstore (by decide +kernel)) <|
  am_n
def k_c51_1 : List (Nat × am_A) := [(54, ac_lload 8 56), (56, ac_push (.long 0) 57), (57, ac_lli lg_cmp 58), (58, ac_if1 (fun x => x = 0) 71 61), (61, ac_lload 5 63), (63, ac_push (.int 8) 65), (65, ac_li (fun x y => x <<< (y.toInt64 &&& 63)) 66), (66, ac_lload 8 68), (68, ac_ll (fun x y => x ||| y) 69), (69, ac_lstore 5 71), (71, ac_iinc 7 (-8) 74), (74, ac_goto 39), (77, ac_aload 0 78), (78, ac_get 2 5 1 81), (81, ac_aload 0 82), (82, ac_get 2 5 1 85), (85, ac_lload 5 87), (87, ac_iload 3 88), (88, ac_if1 (fun x => x = 0) 97 91), (91, ac_push (.long (-1)) 94), (94, ac_goto 98), (97, ac_push (.long 0) 98), (98, ac_push (.int 0) 99), (99, ac_callV 2 9 4 102 am_nohd)]
theorem k_p51_1 : ∀ q ∈ k_c51_1, am_Ok k_nm D cA B0 sb H00 (k_Th B0 sb H00) prog_1_method_16_code "TokenMouth" "meaningOfTyped" [] (some .int) q.1 q.2 :=
  am_c (ok_lload (by decide +kernel)) <|
  am_c (ok_lconst (z := 0) (by decide +kernel) (by decide +kernel)) <|
  am_c (ok_lcmp (by decide +kernel)) <|
  am_c (ok_ifeq (off := 13) (by decide +kernel) (by decide +kernel)) <|
  am_c (ok_lload (by decide +kernel)) <|
  am_c (ok_bipush (z := 8) (by decide +kernel) (by decide +kernel)) <|
  am_c (ok_lshl (by decide +kernel)) <|
  am_c (ok_lload (by decide +kernel)) <|
  am_c (ok_lor (by decide +kernel)) <|
  am_c (ok_lstore (by decide +kernel)) <|
  am_c (ok_iinc (z := (-8)) (by decide +kernel) (by decide +kernel)) <|
  am_c (ok_goto (off := -35) (by decide +kernel) (by decide +kernel)) <|
  am_c (ok_aload_n (k := 0) (by decide +kernel) rfl) <|
  am_c (ok_get (by decide +kernel) (by decide +kernel) rfl (by decide +kernel) kw_118) <|
  am_c (ok_aload_n (k := 0) (by decide +kernel) rfl) <|
  am_c (ok_get (by decide +kernel) (by decide +kernel) rfl (by decide +kernel) kw_118) <|
  am_c (ok_lload (by decide +kernel)) <|
  am_c (ok_iload_n (k := 3) (by decide +kernel) rfl) <|
  am_c (ok_ifeq (off := 9) (by decide +kernel) (by decide +kernel)) <|
  am_c (ok_ldc2 (by decide +kernel) kw_200) <|
  am_c (ok_goto (off := 4) (by decide +kernel) (by decide +kernel)) <|
  am_c (ok_lconst (z := 0) (by decide +kernel) (by decide +kernel)) <|
  am_c (ok_iconst (z := 0) (by decide +kernel) (by decide +kernel)) <|
  am_c (ok_callV (by decide +kernel) (by decide +kernel) kw_202 kw_203 kw_204 kw_201 (by decide +kernel) (by decide +kernel)) <|
  am_n
def k_c51_2 : List (Nat × am_A) := [(102, ac_callV 2 10 2 105 am_nohd), (105, ac_iret)]
theorem k_p51_2 : ∀ q ∈ k_c51_2, am_Ok k_nm D cA B0 sb H00 (k_Th B0 sb H00) prog_1_method_16_code "TokenMouth" "meaningOfTyped" [] (some .int) q.1 q.2 :=
  am_c (ok_callV (by decide +kernel) (by decide +kernel) kw_206 kw_207 kw_208 kw_205 (by decide +kernel) (by decide +kernel)) <|
  am_c (ok_iret (by decide +kernel) rfl) <|
  am_n
def k_t51 : List (Nat × List (Nat × am_A)) := [(52, k_c51_0), (99, k_c51_1), (105, k_c51_2)]
theorem k_o51 : ∀ c ∈ k_t51, ∀ q ∈ c.2, am_Ok k_nm D cA B0 sb H00 (k_Th B0 sb H00) prog_1_method_16_code "TokenMouth" "meaningOfTyped" [] (some .int) q.1 q.2 := am_cc (P := fun pc a => am_Ok k_nm D cA B0 sb H00 (k_Th B0 sb H00) prog_1_method_16_code "TokenMouth" "meaningOfTyped" [] (some .int) pc a) k_p51_0 <| am_cc (P := fun pc a => am_Ok k_nm D cA B0 sb H00 (k_Th B0 sb H00) prog_1_method_16_code "TokenMouth" "meaningOfTyped" [] (some .int) pc a) k_p51_1 <| am_cc (P := fun pc a => am_Ok k_nm D cA B0 sb H00 (k_Th B0 sb H00) prog_1_method_16_code "TokenMouth" "meaningOfTyped" [] (some .int) pc a) k_p51_2 <| am_cn0
end
