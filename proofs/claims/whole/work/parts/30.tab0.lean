/-! tables of the methods 0 to 22; printed by wip/whole/emit.py -/
section
variable {D : va_G} {cA : Nat → ClassId} {B0 : Nat} {sb : Nat → Option Nat} {H00 : Heap}
-- 0: TokenMouth$Groups.<init>()V
def k_c0_0 : List (Nat × am_A) := [(0, ac_aload 0 1), (1, ac_oinit 4), (4, ac_aload 0 5), (5, ac_new 4 8), (8, ac_dup 9), (9, ac_push (.int 30) 11), (11, ac_callI 23 2 14), (14, ac_putR 0 0 17), (17, ac_aload 0 18), (18, ac_new 4 21), (21, ac_dup 22), (22, ac_push (.int 60) 24), (24, ac_callI 23 2 27), (27, ac_putR 0 1 30), (30, ac_aload 0 31), (31, ac_new 4 34), (34, ac_dup 35), (35, ac_push (.int 60) 37), (37, ac_callI 23 2 40), (40, ac_putR 0 2 43), (43, ac_ret)]
theorem k_p0_0 : ∀ q ∈ k_c0_0, am_Ok k_nm D cA B0 sb H00 (k_Th B0 sb H00) prog_2_method_1_code "TokenMouth$Groups" "<init>" [] none q.1 q.2 :=
  am_c (ok_aload_n (k := 0) (by decide +kernel) rfl) <|
  am_c (ok_oinit (by decide +kernel) kw_0 kw_1 kw_oi) <|
  am_c (ok_aload_n (k := 0) (by decide +kernel) rfl) <|
  am_c (ok_new (by decide +kernel) (by decide +kernel) kw_2 kw_3 kw_4) <|
  am_c (ok_dup (by decide +kernel)) <|
  am_c (ok_bipush (z := 30) (by decide +kernel) (by decide +kernel)) <|
  am_c (ok_callI (by decide +kernel) rfl kw_6 kw_7 kw_5 (by decide +kernel) (by decide +kernel)) <|
  am_c (ok_putR (by decide +kernel) (by decide +kernel) (ty := (.object "TokenMouth$Row")) rfl rfl (fun _ => ⟨rfl, rfl⟩) (by decide +kernel) kw_8 (Or.inr ⟨rfl, rfl, rfl⟩)) <|
  am_c (ok_aload_n (k := 0) (by decide +kernel) rfl) <|
  am_c (ok_new (by decide +kernel) (by decide +kernel) kw_2 kw_3 kw_4) <|
  am_c (ok_dup (by decide +kernel)) <|
  am_c (ok_bipush (z := 60) (by decide +kernel) (by decide +kernel)) <|
  am_c (ok_callI (by decide +kernel) rfl kw_6 kw_7 kw_5 (by decide +kernel) (by decide +kernel)) <|
  am_c (ok_putR (by decide +kernel) (by decide +kernel) (ty := (.object "TokenMouth$Row")) rfl rfl (fun _ => ⟨rfl, rfl⟩) (by decide +kernel) kw_9 (Or.inr ⟨rfl, rfl, rfl⟩)) <|
  am_c (ok_aload_n (k := 0) (by decide +kernel) rfl) <|
  am_c (ok_new (by decide +kernel) (by decide +kernel) kw_2 kw_3 kw_4) <|
  am_c (ok_dup (by decide +kernel)) <|
  am_c (ok_bipush (z := 60) (by decide +kernel) (by decide +kernel)) <|
  am_c (ok_callI (by decide +kernel) rfl kw_6 kw_7 kw_5 (by decide +kernel) (by decide +kernel)) <|
  am_c (ok_putR (by decide +kernel) (by decide +kernel) (ty := (.object "TokenMouth$Row")) rfl rfl (fun _ => ⟨rfl, rfl⟩) (by decide +kernel) kw_10 (Or.inr ⟨rfl, rfl, rfl⟩)) <|
  am_c (ok_ret (by decide +kernel) rfl) <|
  am_n
def k_t0 : List (Nat × List (Nat × am_A)) := [(43, k_c0_0)]
theorem k_o0 : ∀ c ∈ k_t0, ∀ q ∈ c.2, am_Ok k_nm D cA B0 sb H00 (k_Th B0 sb H00) prog_2_method_1_code "TokenMouth$Groups" "<init>" [] none q.1 q.2 := am_cc (P := fun pc a => am_Ok k_nm D cA B0 sb H00 (k_Th B0 sb H00) prog_2_method_1_code "TokenMouth$Groups" "<init>" [] none pc a) k_p0_0 <| am_cn0
-- 1: TokenMouth$Groups.startAnew()V
def k_c1_0 : List (Nat × am_A) := [(0, ac_aload 0 1), (1, ac_get 2 0 0 4), (4, ac_push (.int 0) 5), (5, ac_callV 4 30 2 8 am_nohd), (8, ac_aload 0 9), (9, ac_get 2 0 1 12), (12, ac_push (.int 0) 13), (13, ac_callV 4 30 2 16 am_nohd), (16, ac_aload 0 17), (17, ac_get 2 0 2 20), (20, ac_push (.int 0) 21), (21, ac_callV 4 30 2 24 am_nohd), (24, ac_ret)]
theorem k_p1_0 : ∀ q ∈ k_c1_0, am_Ok k_nm D cA B0 sb H00 (k_Th B0 sb H00) prog_2_method_2_code "TokenMouth$Groups" "startAnew" [] none q.1 q.2 :=
  am_c (ok_aload_n (k := 0) (by decide +kernel) rfl) <|
  am_c (ok_get (by decide +kernel) (by decide +kernel) rfl (by decide +kernel) kw_8) <|
  am_c (ok_iconst (z := 0) (by decide +kernel) (by decide +kernel)) <|
  am_c (ok_callV (by decide +kernel) (by decide +kernel) kw_12 kw_13 kw_14 kw_11 (by decide +kernel) (by decide +kernel)) <|
  am_c (ok_aload_n (k := 0) (by decide +kernel) rfl) <|
  am_c (ok_get (by decide +kernel) (by decide +kernel) rfl (by decide +kernel) kw_9) <|
  am_c (ok_iconst (z := 0) (by decide +kernel) (by decide +kernel)) <|
  am_c (ok_callV (by decide +kernel) (by decide +kernel) kw_12 kw_13 kw_14 kw_11 (by decide +kernel) (by decide +kernel)) <|
  am_c (ok_aload_n (k := 0) (by decide +kernel) rfl) <|
  am_c (ok_get (by decide +kernel) (by decide +kernel) rfl (by decide +kernel) kw_10) <|
  am_c (ok_iconst (z := 0) (by decide +kernel) (by decide +kernel)) <|
  am_c (ok_callV (by decide +kernel) (by decide +kernel) kw_12 kw_13 kw_14 kw_11 (by decide +kernel) (by decide +kernel)) <|
  am_c (ok_ret (by decide +kernel) rfl) <|
  am_n
def k_t1 : List (Nat × List (Nat × am_A)) := [(24, k_c1_0)]
theorem k_o1 : ∀ c ∈ k_t1, ∀ q ∈ c.2, am_Ok k_nm D cA B0 sb H00 (k_Th B0 sb H00) prog_2_method_2_code "TokenMouth$Groups" "startAnew" [] none q.1 q.2 := am_cc (P := fun pc a => am_Ok k_nm D cA B0 sb H00 (k_Th B0 sb H00) prog_2_method_2_code "TokenMouth$Groups" "startAnew" [] none pc a) k_p1_0 <| am_cn0
-- 2: TokenMouth$Groups.open()Z
def k_c2_0 : List (Nat × am_A) := [(0, ac_aload 0 1), (1, ac_get 2 0 0 4), (4, ac_aload 0 5), (5, ac_get 2 0 1 8), (8, ac_callV 4 24 1 11 am_nohd), (11, ac_callV 4 27 2 14 am_nohd), (14, ac_zret)]
theorem k_p2_0 : ∀ q ∈ k_c2_0, am_Ok k_nm D cA B0 sb H00 (k_Th B0 sb H00) prog_2_method_3_code "TokenMouth$Groups" "open" [] (some .boolean) q.1 q.2 :=
  am_c (ok_aload_n (k := 0) (by decide +kernel) rfl) <|
  am_c (ok_get (by decide +kernel) (by decide +kernel) rfl (by decide +kernel) kw_8) <|
  am_c (ok_aload_n (k := 0) (by decide +kernel) rfl) <|
  am_c (ok_get (by decide +kernel) (by decide +kernel) rfl (by decide +kernel) kw_9) <|
  am_c (ok_callV (by decide +kernel) (by decide +kernel) kw_16 kw_17 kw_18 kw_15 (by decide +kernel) (by decide +kernel)) <|
  am_c (ok_callV (by decide +kernel) (by decide +kernel) kw_20 kw_21 kw_22 kw_19 (by decide +kernel) (by decide +kernel)) <|
  am_c (ok_zret (by decide +kernel) rfl) <|
  am_n
def k_t2 : List (Nat × List (Nat × am_A)) := [(14, k_c2_0)]
theorem k_o2 : ∀ c ∈ k_t2, ∀ q ∈ c.2, am_Ok k_nm D cA B0 sb H00 (k_Th B0 sb H00) prog_2_method_3_code "TokenMouth$Groups" "open" [] (some .boolean) q.1 q.2 := am_cc (P := fun pc a => am_Ok k_nm D cA B0 sb H00 (k_Th B0 sb H00) prog_2_method_3_code "TokenMouth$Groups" "open" [] (some .boolean) pc a) k_p2_0 <| am_cn0
-- 3: TokenMouth$Groups.keep(II)Z
def k_c3_0 : List (Nat × am_A) := [(0, ac_aload 0 1), (1, ac_get 2 0 0 4), (4, ac_callV 4 26 1 7 am_nohd), (7, ac_istore 3 8), (8, ac_iload 3 9), (9, ac_push (.int (-1)) 10), (10, ac_if2 (fun x y => x = y) 32 13), (13, ac_aload 0 14), (14, ac_get 2 0 1 17), (17, ac_iload 1 18), (18, ac_iload 3 19), (19, ac_aload 0 20), (20, ac_get 2 0 1 23), (23, ac_callV 4 24 1 26 am_nohd), (26, ac_callV 4 32 4 29 am_nohd), (29, ac_if1 (fun x => x = 0) 34 32), (32, ac_push (.int 1) 33), (33, ac_zret), (34, ac_aload 0 35), (35, ac_get 2 0 1 38), (38, ac_iload 1 39), (39, ac_callV 4 27 2 42 am_nohd), (42, ac_if1 (fun x => x = 0) 60 45), (45, ac_aload 0 46)]
theorem k_p3_0 : ∀ q ∈ k_c3_0, am_Ok k_nm D cA B0 sb H00 (k_Th B0 sb H00) prog_2_method_4_code "TokenMouth$Groups" "keep" [] (some .boolean) q.1 q.2 :=
  am_c (ok_aload_n (k := 0) (by decide +kernel) rfl) <|
  am_c (ok_get (by decide +kernel) (by decide +kernel) rfl (by decide +kernel) kw_8) <|
  am_c (ok_callV (by decide +kernel) (by decide +kernel) kw_24 kw_25 kw_26 kw_23 (by decide +kernel) (by decide +kernel)) <|
  am_c (ok_istore_n (k := 3) (by decide +kernel) rfl) <|
  am_c (ok_iload_n (k := 3) (by decide +kernel) rfl) <|
  am_c (ok_iconst (z := -1) (by decide +kernel) (by decide +kernel)) <|
  am_c (ok_icmpeq (off := 22) (by decide +kernel) (by decide +kernel)) <|
  am_c (ok_aload_n (k := 0) (by decide +kernel) rfl) <|
  am_c (ok_get (by decide +kernel) (by decide +kernel) rfl (by decide +kernel) kw_9) <|
  am_c (ok_iload_n (k := 1) (by decide +kernel) rfl) <|
  am_c (ok_iload_n (k := 3) (by decide +kernel) rfl) <|
  am_c (ok_aload_n (k := 0) (by decide +kernel) rfl) <|
  am_c (ok_get (by decide +kernel) (by decide +kernel) rfl (by decide +kernel) kw_9) <|
  am_c (ok_callV (by decide +kernel) (by decide +kernel) kw_16 kw_17 kw_18 kw_15 (by decide +kernel) (by decide +kernel)) <|
  am_c (ok_callV (by decide +kernel) (by decide +kernel) kw_28 kw_29 kw_30 kw_27 (by decide +kernel) (by decide +kernel)) <|
  am_c (ok_ifeq (off := 5) (by decide +kernel) (by decide +kernel)) <|
  am_c (ok_iconst (z := 1) (by decide +kernel) (by decide +kernel)) <|
  am_c (ok_zret (by decide +kernel) rfl) <|
  am_c (ok_aload_n (k := 0) (by decide +kernel) rfl) <|
  am_c (ok_get (by decide +kernel) (by decide +kernel) rfl (by decide +kernel) kw_9) <|
  am_c (ok_iload_n (k := 1) (by decide +kernel) rfl) <|
  am_c (ok_callV (by decide +kernel) (by decide +kernel) kw_20 kw_21 kw_22 kw_19 (by decide +kernel) (by decide +kernel)) <|
  am_c (ok_ifeq (off := 18) (by decide +kernel) (by decide +kernel)) <|
  am_c (ok_aload_n (k := 0) (by decide +kernel) rfl) <|
  am_n
def k_c3_1 : List (Nat × am_A) := [(46, ac_get 2 0 2 49), (49, ac_iload 2 50), (50, ac_callV 4 27 2 53 am_nohd), (53, ac_if1 (fun x => x = 0) 60 56), (56, ac_push (.int 1) 57), (57, ac_goto 61), (60, ac_push (.int 0) 61), (61, ac_zret)]
theorem k_p3_1 : ∀ q ∈ k_c3_1, am_Ok k_nm D cA B0 sb H00 (k_Th B0 sb H00) prog_2_method_4_code "TokenMouth$Groups" "keep" [] (some .boolean) q.1 q.2 :=
  am_c (ok_get (by decide +kernel) (by decide +kernel) rfl (by decide +kernel) kw_10) <|
  am_c (ok_iload_n (k := 2) (by decide +kernel) rfl) <|
  am_c (ok_callV (by decide +kernel) (by decide +kernel) kw_20 kw_21 kw_22 kw_19 (by decide +kernel) (by decide +kernel)) <|
  am_c (ok_ifeq (off := 7) (by decide +kernel) (by decide +kernel)) <|
  am_c (ok_iconst (z := 1) (by decide +kernel) (by decide +kernel)) <|
  am_c (ok_goto (off := 4) (by decide +kernel) (by decide +kernel)) <|
  am_c (ok_iconst (z := 0) (by decide +kernel) (by decide +kernel)) <|
  am_c (ok_zret (by decide +kernel) rfl) <|
  am_n
def k_t3 : List (Nat × List (Nat × am_A)) := [(45, k_c3_0), (61, k_c3_1)]
theorem k_o3 : ∀ c ∈ k_t3, ∀ q ∈ c.2, am_Ok k_nm D cA B0 sb H00 (k_Th B0 sb H00) prog_2_method_4_code "TokenMouth$Groups" "keep" [] (some .boolean) q.1 q.2 := am_cc (P := fun pc a => am_Ok k_nm D cA B0 sb H00 (k_Th B0 sb H00) prog_2_method_4_code "TokenMouth$Groups" "keep" [] (some .boolean) pc a) k_p3_0 <| am_cc (P := fun pc a => am_Ok k_nm D cA B0 sb H00 (k_Th B0 sb H00) prog_2_method_4_code "TokenMouth$Groups" "keep" [] (some .boolean) pc a) k_p3_1 <| am_cn0
-- 4: TokenMouth$Groups.replaceKept(II)V
def k_c4_0 : List (Nat × am_A) := [(0, ac_push (.int 0) 1), (1, ac_istore 3 2), (2, ac_iload 3 3), (3, ac_aload 0 4), (4, ac_get 2 0 1 7), (7, ac_callV 4 24 1 10 am_nohd), (10, ac_if2 (fun x y => y ≤ x) 40 13), (13, ac_aload 0 14), (14, ac_get 2 0 1 17), (17, ac_iload 3 18), (18, ac_callV 4 25 2 21 am_nohd), (21, ac_iload 1 22), (22, ac_if2 (fun x y => ¬ x = y) 34 25), (25, ac_aload 0 26), (26, ac_get 2 0 2 29), (29, ac_iload 3 30), (30, ac_iload 2 31), (31, ac_callV 4 29 3 34 am_nohd), (34, ac_iinc 3 1 37), (37, ac_goto 2), (40, ac_ret)]
theorem k_p4_0 : ∀ q ∈ k_c4_0, am_Ok k_nm D cA B0 sb H00 (k_Th B0 sb H00) prog_2_method_5_code "TokenMouth$Groups" "replaceKept" [] none q.1 q.2 :=
  am_c (ok_iconst (z := 0) (by decide +kernel) (by decide +kernel)) <|
  am_c (ok_istore_n (k := 3) (by decide +kernel) rfl) <|
  am_c (ok_iload_n (k := 3) (by decide +kernel) rfl) <|
  am_c (ok_aload_n (k := 0) (by decide +kernel) rfl) <|
  am_c (ok_get (by decide +kernel) (by decide +kernel) rfl (by decide +kernel) kw_9) <|
  am_c (ok_callV (by decide +kernel) (by decide +kernel) kw_16 kw_17 kw_18 kw_15 (by decide +kernel) (by decide +kernel)) <|
  am_c (ok_icmpge (off := 30) (by decide +kernel) (by decide +kernel)) <|
  am_c (ok_aload_n (k := 0) (by decide +kernel) rfl) <|
  am_c (ok_get (by decide +kernel) (by decide +kernel) rfl (by decide +kernel) kw_9) <|
  am_c (ok_iload_n (k := 3) (by decide +kernel) rfl) <|
  am_c (ok_callV (by decide +kernel) (by decide +kernel) kw_32 kw_33 kw_34 kw_31 (by decide +kernel) (by decide +kernel)) <|
  am_c (ok_iload_n (k := 1) (by decide +kernel) rfl) <|
  am_c (ok_icmpne (off := 12) (by decide +kernel) (by decide +kernel)) <|
  am_c (ok_aload_n (k := 0) (by decide +kernel) rfl) <|
  am_c (ok_get (by decide +kernel) (by decide +kernel) rfl (by decide +kernel) kw_10) <|
  am_c (ok_iload_n (k := 3) (by decide +kernel) rfl) <|
  am_c (ok_iload_n (k := 2) (by decide +kernel) rfl) <|
  am_c (ok_callV (by decide +kernel) (by decide +kernel) kw_36 kw_37 kw_38 kw_35 (by decide +kernel) (by decide +kernel)) <|
  am_c (ok_iinc (z := 1) (by decide +kernel) (by decide +kernel)) <|
  am_c (ok_goto (off := -35) (by decide +kernel) (by decide +kernel)) <|
  am_c (ok_ret (by decide +kernel) rfl) <|
  am_n
def k_t4 : List (Nat × List (Nat × am_A)) := [(40, k_c4_0)]
theorem k_o4 : ∀ c ∈ k_t4, ∀ q ∈ c.2, am_Ok k_nm D cA B0 sb H00 (k_Th B0 sb H00) prog_2_method_5_code "TokenMouth$Groups" "replaceKept" [] none q.1 q.2 := am_cc (P := fun pc a => am_Ok k_nm D cA B0 sb H00 (k_Th B0 sb H00) prog_2_method_5_code "TokenMouth$Groups" "replaceKept" [] none pc a) k_p4_0 <| am_cn0
-- 5: TokenMouth$Macro.<init>()V
def k_c5_0 : List (Nat × am_A) := [(0, ac_aload 0 1), (1, ac_oinit 4), (4, ac_aload 0 5), (5, ac_new 4 8), (8, ac_dup 9), (9, ac_push (.int 12) 11), (11, ac_callI 23 2 14), (14, ac_putR 1 0 17), (17, ac_aload 0 18), (18, ac_new 4 21), (21, ac_dup 22), (22, ac_push (.int 40) 24), (24, ac_callI 23 2 27), (27, ac_putR 1 1 30), (30, ac_ret)]
theorem k_p5_0 : ∀ q ∈ k_c5_0, am_Ok k_nm D cA B0 sb H00 (k_Th B0 sb H00) prog_3_method_1_code "TokenMouth$Macro" "<init>" [] none q.1 q.2 :=
  am_c (ok_aload_n (k := 0) (by decide +kernel) rfl) <|
  am_c (ok_oinit (by decide +kernel) kw_39 kw_1 kw_oi) <|
  am_c (ok_aload_n (k := 0) (by decide +kernel) rfl) <|
  am_c (ok_new (by decide +kernel) (by decide +kernel) kw_40 kw_3 kw_4) <|
  am_c (ok_dup (by decide +kernel)) <|
  am_c (ok_bipush (z := 12) (by decide +kernel) (by decide +kernel)) <|
  am_c (ok_callI (by decide +kernel) rfl kw_41 kw_7 kw_5 (by decide +kernel) (by decide +kernel)) <|
  am_c (ok_putR (by decide +kernel) (by decide +kernel) (ty := (.object "TokenMouth$Row")) rfl rfl (fun _ => ⟨rfl, rfl⟩) (by decide +kernel) kw_42 (Or.inr ⟨rfl, rfl, rfl⟩)) <|
  am_c (ok_aload_n (k := 0) (by decide +kernel) rfl) <|
  am_c (ok_new (by decide +kernel) (by decide +kernel) kw_40 kw_3 kw_4) <|
  am_c (ok_dup (by decide +kernel)) <|
  am_c (ok_bipush (z := 40) (by decide +kernel) (by decide +kernel)) <|
  am_c (ok_callI (by decide +kernel) rfl kw_41 kw_7 kw_5 (by decide +kernel) (by decide +kernel)) <|
  am_c (ok_putR (by decide +kernel) (by decide +kernel) (ty := (.object "TokenMouth$Row")) rfl rfl (fun _ => ⟨rfl, rfl⟩) (by decide +kernel) kw_43 (Or.inr ⟨rfl, rfl, rfl⟩)) <|
  am_c (ok_ret (by decide +kernel) rfl) <|
  am_n
def k_t5 : List (Nat × List (Nat × am_A)) := [(30, k_c5_0)]
theorem k_o5 : ∀ c ∈ k_t5, ∀ q ∈ c.2, am_Ok k_nm D cA B0 sb H00 (k_Th B0 sb H00) prog_3_method_1_code "TokenMouth$Macro" "<init>" [] none q.1 q.2 := am_cc (P := fun pc a => am_Ok k_nm D cA B0 sb H00 (k_Th B0 sb H00) prog_3_method_1_code "TokenMouth$Macro" "<init>" [] none pc a) k_p5_0 <| am_cn0
-- 6: TokenMouth$Macro.startAnew()V
def k_c6_0 : List (Nat × am_A) := [(0, ac_aload 0 1), (1, ac_get 2 1 0 4), (4, ac_push (.int 0) 5), (5, ac_callV 4 30 2 8 am_nohd), (8, ac_aload 0 9), (9, ac_get 2 1 1 12), (12, ac_push (.int 0) 13), (13, ac_callV 4 30 2 16 am_nohd), (16, ac_aload 0 17), (17, ac_push (.int 0) 18), (18, ac_putI 1 2 21), (21, ac_ret)]
theorem k_p6_0 : ∀ q ∈ k_c6_0, am_Ok k_nm D cA B0 sb H00 (k_Th B0 sb H00) prog_3_method_2_code "TokenMouth$Macro" "startAnew" [] none q.1 q.2 :=
  am_c (ok_aload_n (k := 0) (by decide +kernel) rfl) <|
  am_c (ok_get (by decide +kernel) (by decide +kernel) rfl (by decide +kernel) kw_42) <|
  am_c (ok_iconst (z := 0) (by decide +kernel) (by decide +kernel)) <|
  am_c (ok_callV (by decide +kernel) (by decide +kernel) kw_44 kw_13 kw_14 kw_11 (by decide +kernel) (by decide +kernel)) <|
  am_c (ok_aload_n (k := 0) (by decide +kernel) rfl) <|
  am_c (ok_get (by decide +kernel) (by decide +kernel) rfl (by decide +kernel) kw_43) <|
  am_c (ok_iconst (z := 0) (by decide +kernel) (by decide +kernel)) <|
  am_c (ok_callV (by decide +kernel) (by decide +kernel) kw_44 kw_13 kw_14 kw_11 (by decide +kernel) (by decide +kernel)) <|
  am_c (ok_aload_n (k := 0) (by decide +kernel) rfl) <|
  am_c (ok_iconst (z := 0) (by decide +kernel) (by decide +kernel)) <|
  am_c (ok_putI (by decide +kernel) (by decide +kernel) rfl (by decide +kernel) kw_45 rfl) <|
  am_c (ok_ret (by decide +kernel) rfl) <|
  am_n
def k_t6 : List (Nat × List (Nat × am_A)) := [(21, k_c6_0)]
theorem k_o6 : ∀ c ∈ k_t6, ∀ q ∈ c.2, am_Ok k_nm D cA B0 sb H00 (k_Th B0 sb H00) prog_3_method_2_code "TokenMouth$Macro" "startAnew" [] none q.1 q.2 := am_cc (P := fun pc a => am_Ok k_nm D cA B0 sb H00 (k_Th B0 sb H00) prog_3_method_2_code "TokenMouth$Macro" "startAnew" [] none pc a) k_p6_0 <| am_cn0
-- 7: TokenMouth$Names.<init>()V
def k_c7_0 : List (Nat × am_A) := [(0, ac_aload 0 1), (1, ac_oinit 4), (4, ac_aload 0 5), (5, ac_push (.int 118) 7), (7, ac_newa 1 8 9), (9, ac_putR 2 0 12), (12, ac_aload 0 13), (13, ac_push (.int 118) 15), (15, ac_newa 1 8 17), (17, ac_putR 2 1 20), (20, ac_aload 0 21), (21, ac_push (.int 118) 23), (23, ac_newa 0 4 25), (25, ac_putR 2 2 28), (28, ac_push (.long 0) 29), (29, ac_lstore 1 30), (30, ac_push (.long 0) 31), (31, ac_lstore 3 32), (32, ac_push (.int 0) 33), (33, ac_istore 5 35), (35, ac_iload 5 37), (37, ac_push (.retAddr 1) 39), (39, ac_callX 163 1 42), (42, ac_if2 (fun x y => y ≤ x) 135 45)]
theorem k_p7_0 : ∀ q ∈ k_c7_0, am_Ok k_nm D cA B0 sb H00 (k_Th B0 sb H00) prog_4_method_1_code "TokenMouth$Names" "<init>" [] none q.1 q.2 :=
  am_c (ok_aload_n (k := 0) (by decide +kernel) rfl) <|
  am_c (ok_oinit (by decide +kernel) kw_46 kw_1 kw_oi) <|
  am_c (ok_aload_n (k := 0) (by decide +kernel) rfl) <|
  am_c (ok_bipush (z := 118) (by decide +kernel) (by decide +kernel)) <|
  am_c (ok_newa (at_ := .long) (by decide +kernel) rfl rfl (by decide +kernel) kw_47) <|
  am_c (ok_putR (by decide +kernel) (by decide +kernel) (ty := (.array .long)) rfl rfl (fun _ => ⟨rfl, rfl⟩) (by decide +kernel) kw_48 (Or.inr ⟨rfl, rfl, rfl⟩)) <|
  am_c (ok_aload_n (k := 0) (by decide +kernel) rfl) <|
  am_c (ok_bipush (z := 118) (by decide +kernel) (by decide +kernel)) <|
  am_c (ok_newa (at_ := .long) (by decide +kernel) rfl rfl (by decide +kernel) kw_47) <|
  am_c (ok_putR (by decide +kernel) (by decide +kernel) (ty := (.array .long)) rfl rfl (fun _ => ⟨rfl, rfl⟩) (by decide +kernel) kw_49 (Or.inr ⟨rfl, rfl, rfl⟩)) <|
  am_c (ok_aload_n (k := 0) (by decide +kernel) rfl) <|
  am_c (ok_bipush (z := 118) (by decide +kernel) (by decide +kernel)) <|
  am_c (ok_newa (at_ := .int) (by decide +kernel) rfl rfl (by decide +kernel) kw_50) <|
  am_c (ok_putR (by decide +kernel) (by decide +kernel) (ty := (.array .int)) rfl rfl (fun _ => ⟨rfl, rfl⟩) (by decide +kernel) kw_51 (Or.inr ⟨rfl, rfl, rfl⟩)) <|
  am_c (ok_lconst (z := 0) (by decide +kernel) (by decide +kernel)) <|
  am_c (ok_lstore_n (k := 1) (by decide +kernel) rfl) <|
  am_c (ok_lconst (z := 0) (by decide +kernel) (by decide +kernel)) <|
  am_c (ok_lstore_n (k := 3) (by decide +kernel) rfl) <|
  am_c (ok_iconst (z := 0) (by decide +kernel) (by decide +kernel)) <|
  am_c (ok_istore (by decide +kernel)) <|
  am_c (ok_iload (by decide +kernel)) <|
  am_c (ok_ldcT (by decide +kernel) rfl) <|
  am_c (ok_callX (by decide +kernel) kw_53 kw_54 kw_55 kw_52 (by decide +kernel) (by decide +kernel)) <|
  am_c (ok_icmpge (off := 93) (by decide +kernel) (by decide +kernel)) <|
  am_n
def k_c7_1 : List (Nat × am_A) := [(45, ac_push (.retAddr 1) 47), (47, ac_iload 5 49), (49, ac_callX 164 2 52), (52, ac_istore 6 54), (54, ac_iload 6 56), (56, ac_push (.int 32) 58), (58, ac_if2 (fun x y => x = y) 83 61), (61, ac_lload 3 62), (62, ac_push (.int 8) 64), (64, ac_li (fun x y => x <<< (y.toInt64 &&& 63)) 65), (65, ac_lload 1 66), (66, ac_push (.int 56) 68), (68, ac_li (fun x y => (x.toUInt64 >>> (y.toInt64.toUInt64 &&& Int64.toUInt64 63)).toInt64) 69), (69, ac_ll (fun x y => x ||| y) 70), (70, ac_lstore 3 71), (71, ac_lload 1 72), (72, ac_push (.int 8) 74), (74, ac_li (fun x y => x <<< (y.toInt64 &&& 63)) 75), (75, ac_iload 6 77), (77, ac_il (fun x => x.toInt64) 78), (78, ac_ll (fun x y => x ||| y) 79), (79, ac_lstore 1 80), (80, ac_goto 129), (83, ac_aload 0 84)]
theorem k_p7_1 : ∀ q ∈ k_c7_1, am_Ok k_nm D cA B0 sb H00 (k_Th B0 sb H00) prog_4_method_1_code "TokenMouth$Names" "<init>" [] none q.1 q.2 :=
  am_c (ok_ldcT (by decide +kernel) rfl) <|
  am_c (ok_iload (by decide +kernel)) <|
  am_c (ok_callX (by decide +kernel) kw_57 kw_58 kw_59 kw_56 (by decide +kernel) (by decide +kernel)) <|
  am_c (ok_istore (by decide +kernel)) <|
  am_c (ok_iload (by decide +kernel)) <|
  am_c (ok_bipush (z := 32) (by decide +kernel) (by decide +kernel)) <|
  am_c (ok_icmpeq (off := 25) (by decide +kernel) (by decide +kernel)) <|
  am_c (ok_lload_n (k := 3) (by decide +kernel) rfl) <|
  am_c (ok_bipush (z := 8) (by decide +kernel) (by decide +kernel)) <|
  am_c (ok_lshl (by decide +kernel)) <|
  am_c (ok_lload_n (k := 1) (by decide +kernel) rfl) <|
  am_c (ok_bipush (z := 56) (by decide +kernel) (by decide +kernel)) <|
  am_c (ok_lushr (by decide +kernel)) <|
  am_c (ok_lor (by decide +kernel)) <|
  am_c (ok_lstore_n (k := 3) (by decide +kernel) rfl) <|
  am_c (ok_lload_n (k := 1) (by decide +kernel) rfl) <|
  am_c (ok_bipush (z := 8) (by decide +kernel) (by decide +kernel)) <|
  am_c (ok_lshl (by decide +kernel)) <|
  am_c (ok_iload (by decide +kernel)) <|
  am_c (ok_i2l (by decide +kernel)) <|
  am_c (ok_lor (by decide +kernel)) <|
  am_c (ok_lstore_n (k := 1) (by decide +kernel) rfl) <|
  am_c (ok_goto (off := 49) (by decide +kernel) (by decide +kernel)) <|
  am_c (ok_aload_n (k := 0) (by decide +kernel) rfl) <|
  am_n
def k_c7_2 : List (Nat × am_A) := [(84, ac_get 0 2 3 87), (87, ac_aload 0 88), (88, ac_get 2 2 0 91), (91, ac_alen 92), (92, ac_if2 (fun x y => y ≤ x) 129 95), (95, ac_aload 0 96), (96, ac_get 2 2 0 99), (99, ac_aload 0 100), (100, ac_get 0 2 3 103), (103, ac_lload 1 104), (104, ac_last 105), (105, ac_aload 0 106), (106, ac_get 2 2 1 109), (109, ac_aload 0 110), (110, ac_get 0 2 3 113), (113, ac_lload 3 114), (114, ac_last 115), (115, ac_aload 0 116), (116, ac_dup 117), (117, ac_get 0 2 3 120), (120, ac_push (.int 1) 121), (121, ac_ii (fun x y => x + y) 122), (122, ac_putI 2 3 125), (125, ac_push (.long 0) 126)]
theorem k_p7_2 : ∀ q ∈ k_c7_2, am_Ok k_nm D cA B0 sb H00 (k_Th B0 sb H00) prog_4_method_1_code "TokenMouth$Names" "<init>" [] none q.1 q.2 :=
  am_c (ok_get (by decide +kernel) (by decide +kernel) rfl (by decide +kernel) kw_60) <|
  am_c (ok_aload_n (k := 0) (by decide +kernel) rfl) <|
  am_c (ok_get (by decide +kernel) (by decide +kernel) rfl (by decide +kernel) kw_48) <|
  am_c (ok_alen (by decide +kernel)) <|
  am_c (ok_icmpge (off := 37) (by decide +kernel) (by decide +kernel)) <|
  am_c (ok_aload_n (k := 0) (by decide +kernel) rfl) <|
  am_c (ok_get (by decide +kernel) (by decide +kernel) rfl (by decide +kernel) kw_48) <|
  am_c (ok_aload_n (k := 0) (by decide +kernel) rfl) <|
  am_c (ok_get (by decide +kernel) (by decide +kernel) rfl (by decide +kernel) kw_60) <|
  am_c (ok_lload_n (k := 1) (by decide +kernel) rfl) <|
  am_c (ok_last (by decide +kernel)) <|
  am_c (ok_aload_n (k := 0) (by decide +kernel) rfl) <|
  am_c (ok_get (by decide +kernel) (by decide +kernel) rfl (by decide +kernel) kw_49) <|
  am_c (ok_aload_n (k := 0) (by decide +kernel) rfl) <|
  am_c (ok_get (by decide +kernel) (by decide +kernel) rfl (by decide +kernel) kw_60) <|
  am_c (ok_lload_n (k := 3) (by decide +kernel) rfl) <|
  am_c (ok_last (by decide +kernel)) <|
  am_c (ok_aload_n (k := 0) (by decide +kernel) rfl) <|
  am_c (ok_dup (by decide +kernel)) <|
  am_c (ok_get (by decide +kernel) (by decide +kernel) rfl (by decide +kernel) kw_60) <|
  am_c (ok_iconst (z := 1) (by decide +kernel) (by decide +kernel)) <|
  am_c (ok_iadd (by decide +kernel)) <|
  am_c (ok_putI (by decide +kernel) (by decide +kernel) rfl (by decide +kernel) kw_60 rfl) <|
  am_c (ok_lconst (z := 0) (by decide +kernel) (by decide +kernel)) <|
  am_n
def k_c7_3 : List (Nat × am_A) := [(126, ac_lstore 1 127), (127, ac_push (.long 0) 128), (128, ac_lstore 3 129), (129, ac_iinc 5 1 132), (132, ac_goto 35), (135, ac_aload 0 136), (136, ac_callV 2 8 1 139 am_nohd), (139, ac_ret)]
theorem k_p7_3 : ∀ q ∈ k_c7_3, am_Ok k_nm D cA B0 sb H00 (k_Th B0 sb H00) prog_4_method_1_code "TokenMouth$Names" "<init>" [] none q.1 q.2 :=
  am_c (ok_lstore_n (k := 1) (by decide +kernel) rfl) <|
  am_c (ok_lconst (z := 0) (by decide +kernel) (by decide +kernel)) <|
  am_c (ok_lstore_n (k := 3) (by decide +kernel) rfl) <|
  am_c (ok_iinc (z := 1) (by decide +kernel) (by decide +kernel)) <|
  am_c (ok_goto (off := -97) (by decide +kernel) (by decide +kernel)) <|
  am_c (ok_aload_n (k := 0) (by decide +kernel) rfl) <|
  am_c (ok_callV (by decide +kernel) (by decide +kernel) kw_62 kw_63 kw_64 kw_61 (by decide +kernel) (by decide +kernel)) <|
  am_c (ok_ret (by decide +kernel) rfl) <|
  am_n
def k_t7 : List (Nat × List (Nat × am_A)) := [(42, k_c7_0), (83, k_c7_1), (125, k_c7_2), (139, k_c7_3)]
theorem k_o7 : ∀ c ∈ k_t7, ∀ q ∈ c.2, am_Ok k_nm D cA B0 sb H00 (k_Th B0 sb H00) prog_4_method_1_code "TokenMouth$Names" "<init>" [] none q.1 q.2 := am_cc (P := fun pc a => am_Ok k_nm D cA B0 sb H00 (k_Th B0 sb H00) prog_4_method_1_code "TokenMouth$Names" "<init>" [] none pc a) k_p7_0 <| am_cc (P := fun pc a => am_Ok k_nm D cA B0 sb H00 (k_Th B0 sb H00) prog_4_method_1_code "TokenMouth$Names" "<init>" [] none pc a) k_p7_1 <| am_cc (P := fun pc a => am_Ok k_nm D cA B0 sb H00 (k_Th B0 sb H00) prog_4_method_1_code "TokenMouth$Names" "<init>" [] none pc a) k_p7_2 <| am_cc (P := fun pc a => am_Ok k_nm D cA B0 sb H00 (k_Th B0 sb H00) prog_4_method_1_code "TokenMouth$Names" "<init>" [] none pc a) k_p7_3 <| am_cn0
-- 8: TokenMouth$Names.startAnew()V
def k_c8_0 : List (Nat × am_A) := [(0, ac_aload 0 1), (1, ac_push (.int 18) 3), (3, ac_putI 2 3 6), (6, ac_push (.int 0) 7), (7, ac_istore 1 8), (8, ac_iload 1 9), (9, ac_aload 0 10), (10, ac_get 2 2 2 13), (13, ac_alen 14), (14, ac_if2 (fun x y => y ≤ x) 42 17), (17, ac_aload 0 18), (18, ac_get 2 2 2 21), (21, ac_iload 1 22), (22, ac_iload 1 23), (23, ac_push (.int 18) 25), (25, ac_if2 (fun x y => y ≤ x) 34 28), (28, ac_iload 1 29), (29, ac_push (.int 1) 30), (30, ac_ii (fun x y => x + y) 31), (31, ac_goto 35), (34, ac_push (.int 0) 35), (35, ac_iast 36), (36, ac_iinc 1 1 39), (39, ac_goto 8)]
theorem k_p8_0 : ∀ q ∈ k_c8_0, am_Ok k_nm D cA B0 sb H00 (k_Th B0 sb H00) prog_4_method_2_code "TokenMouth$Names" "startAnew" [] none q.1 q.2 :=
  am_c (ok_aload_n (k := 0) (by decide +kernel) rfl) <|
  am_c (ok_bipush (z := 18) (by decide +kernel) (by decide +kernel)) <|
  am_c (ok_putI (by decide +kernel) (by decide +kernel) rfl (by decide +kernel) kw_60 rfl) <|
  am_c (ok_iconst (z := 0) (by decide +kernel) (by decide +kernel)) <|
  am_c (ok_istore_n (k := 1) (by decide +kernel) rfl) <|
  am_c (ok_iload_n (k := 1) (by decide +kernel) rfl) <|
  am_c (ok_aload_n (k := 0) (by decide +kernel) rfl) <|
  am_c (ok_get (by decide +kernel) (by decide +kernel) rfl (by decide +kernel) kw_51) <|
  am_c (ok_alen (by decide +kernel)) <|
  am_c (ok_icmpge (off := 28) (by decide +kernel) (by decide +kernel)) <|
  am_c (ok_aload_n (k := 0) (by decide +kernel) rfl) <|
  am_c (ok_get (by decide +kernel) (by decide +kernel) rfl (by decide +kernel) kw_51) <|
  am_c (ok_iload_n (k := 1) (by decide +kernel) rfl) <|
  am_c (ok_iload_n (k := 1) (by decide +kernel) rfl) <|
  am_c (ok_bipush (z := 18) (by decide +kernel) (by decide +kernel)) <|
  am_c (ok_icmpge (off := 9) (by decide +kernel) (by decide +kernel)) <|
  am_c (ok_iload_n (k := 1) (by decide +kernel) rfl) <|
  am_c (ok_iconst (z := 1) (by decide +kernel) (by decide +kernel)) <|
  am_c (ok_iadd (by decide +kernel)) <|
  am_c (ok_goto (off := 4) (by decide +kernel) (by decide +kernel)) <|
  am_c (ok_iconst (z := 0) (by decide +kernel) (by decide +kernel)) <|
  am_c (ok_iast (by decide +kernel)) <|
  am_c (ok_iinc (z := 1) (by decide +kernel) (by decide +kernel)) <|
  am_c (ok_goto (off := -31) (by decide +kernel) (by decide +kernel)) <|
  am_n
def k_c8_1 : List (Nat × am_A) := [(42, ac_ret)]
theorem k_p8_1 : ∀ q ∈ k_c8_1, am_Ok k_nm D cA B0 sb H00 (k_Th B0 sb H00) prog_4_method_2_code "TokenMouth$Names" "startAnew" [] none q.1 q.2 :=
  am_c (ok_ret (by decide +kernel) rfl) <|
  am_n
def k_t8 : List (Nat × List (Nat × am_A)) := [(39, k_c8_0), (42, k_c8_1)]
theorem k_o8 : ∀ c ∈ k_t8, ∀ q ∈ c.2, am_Ok k_nm D cA B0 sb H00 (k_Th B0 sb H00) prog_4_method_2_code "TokenMouth$Names" "startAnew" [] none q.1 q.2 := am_cc (P := fun pc a => am_Ok k_nm D cA B0 sb H00 (k_Th B0 sb H00) prog_4_method_2_code "TokenMouth$Names" "startAnew" [] none pc a) k_p8_0 <| am_cc (P := fun pc a => am_Ok k_nm D cA B0 sb H00 (k_Th B0 sb H00) prog_4_method_2_code "TokenMouth$Names" "startAnew" [] none pc a) k_p8_1 <| am_cn0
-- 9: TokenMouth$Names.find(JJZ)I
def k_c9_0 : List (Nat × am_A) := [(0, ac_push (.int 0) 1), (1, ac_istore 6 3), (3, ac_iload 6 5), (5, ac_aload 0 6), (6, ac_get 0 2 3 9), (9, ac_if2 (fun x y => y ≤ x) 55 12), (12, ac_iload 6 14), (14, ac_aload 0 15), (15, ac_get 2 2 0 18), (18, ac_alen 19), (19, ac_if2 (fun x y => y ≤ x) 55 22), (22, ac_aload 0 23), (23, ac_get 2 2 0 26), (26, ac_iload 6 28), (28, ac_lald 29), (29, ac_lload 1 30), (30, ac_lli lg_cmp 31), (31, ac_if1 (fun x => ¬ x = 0) 49 34), (34, ac_aload 0 35), (35, ac_get 2 2 1 38), (38, ac_iload 6 40), (40, ac_lald 41), (41, ac_lload 3 42), (42, ac_lli lg_cmp 43)]
theorem k_p9_0 : ∀ q ∈ k_c9_0, am_Ok k_nm D cA B0 sb H00 (k_Th B0 sb H00) prog_4_method_3_code "TokenMouth$Names" "find" [] (some .int) q.1 q.2 :=
  am_c (ok_iconst (z := 0) (by decide +kernel) (by decide +kernel)) <|
  am_c (ok_istore (by decide +kernel)) <|
  am_c (ok_iload (by decide +kernel)) <|
  am_c (ok_aload_n (k := 0) (by decide +kernel) rfl) <|
  am_c (ok_get (by decide +kernel) (by decide +kernel) rfl (by decide +kernel) kw_60) <|
  am_c (ok_icmpge (off := 46) (by decide +kernel) (by decide +kernel)) <|
  am_c (ok_iload (by decide +kernel)) <|
  am_c (ok_aload_n (k := 0) (by decide +kernel) rfl) <|
  am_c (ok_get (by decide +kernel) (by decide +kernel) rfl (by decide +kernel) kw_48) <|
  am_c (ok_alen (by decide +kernel)) <|
  am_c (ok_icmpge (off := 36) (by decide +kernel) (by decide +kernel)) <|
  am_c (ok_aload_n (k := 0) (by decide +kernel) rfl) <|
  am_c (ok_get (by decide +kernel) (by decide +kernel) rfl (by decide +kernel) kw_48) <|
  am_c (ok_iload (by decide +kernel)) <|
  am_c (ok_lald (by decide +kernel)) <|
  am_c (ok_lload_n (k := 1) (by decide +kernel) rfl) <|
  am_c (ok_lcmp (by decide +kernel)) <|
  am_c (ok_ifne (off := 18) (by decide +kernel) (by decide +kernel)) <|
  am_c (ok_aload_n (k := 0) (by decide +kernel) rfl) <|
  am_c (ok_get (by decide +kernel) (by decide +kernel) rfl (by decide +kernel) kw_49) <|
  am_c (ok_iload (by decide +kernel)) <|
  am_c (ok_lald (by decide +kernel)) <|
  am_c (ok_lload_n (k := 3) (by decide +kernel) rfl) <|
  am_c (ok_lcmp (by decide +kernel)) <|
  am_n
def k_c9_1 : List (Nat × am_A) := [(43, ac_if1 (fun x => ¬ x = 0) 49 46), (46, ac_iload 6 48), (48, ac_iret), (49, ac_iinc 6 1 52), (52, ac_goto 3), (55, ac_iload 5 57), (57, ac_if1 (fun x => x = 0) 79 60), (60, ac_aload 0 61), (61, ac_get 0 2 3 64), (64, ac_if1 (fun x => x < 0) 79 67), (67, ac_aload 0 68), (68, ac_get 0 2 3 71), (71, ac_aload 0 72), (72, ac_get 2 2 0 75), (75, ac_alen 76), (76, ac_if2 (fun x y => x < y) 81 79), (79, ac_push (.int (-1)) 80), (80, ac_iret), (81, ac_aload 0 82), (82, ac_get 2 2 0 85), (85, ac_aload 0 86), (86, ac_get 0 2 3 89), (89, ac_lload 1 90), (90, ac_last 91)]
theorem k_p9_1 : ∀ q ∈ k_c9_1, am_Ok k_nm D cA B0 sb H00 (k_Th B0 sb H00) prog_4_method_3_code "TokenMouth$Names" "find" [] (some .int) q.1 q.2 :=
  am_c (ok_ifne (off := 6) (by decide +kernel) (by decide +kernel)) <|
  am_c (ok_iload (by decide +kernel)) <|
  am_c (ok_iret (by decide +kernel) rfl) <|
  am_c (ok_iinc (z := 1) (by decide +kernel) (by decide +kernel)) <|
  am_c (ok_goto (off := -49) (by decide +kernel) (by decide +kernel)) <|
  am_c (ok_iload (by decide +kernel)) <|
  am_c (ok_ifeq (off := 22) (by decide +kernel) (by decide +kernel)) <|
  am_c (ok_aload_n (k := 0) (by decide +kernel) rfl) <|
  am_c (ok_get (by decide +kernel) (by decide +kernel) rfl (by decide +kernel) kw_60) <|
  am_c (ok_iflt (off := 15) (by decide +kernel) (by decide +kernel)) <|
  am_c (ok_aload_n (k := 0) (by decide +kernel) rfl) <|
  am_c (ok_get (by decide +kernel) (by decide +kernel) rfl (by decide +kernel) kw_60) <|
  am_c (ok_aload_n (k := 0) (by decide +kernel) rfl) <|
  am_c (ok_get (by decide +kernel) (by decide +kernel) rfl (by decide +kernel) kw_48) <|
  am_c (ok_alen (by decide +kernel)) <|
  am_c (ok_icmplt (off := 5) (by decide +kernel) (by decide +kernel)) <|
  am_c (ok_iconst (z := -1) (by decide +kernel) (by decide +kernel)) <|
  am_c (ok_iret (by decide +kernel) rfl) <|
  am_c (ok_aload_n (k := 0) (by decide +kernel) rfl) <|
  am_c (ok_get (by decide +kernel) (by decide +kernel) rfl (by decide +kernel) kw_48) <|
  am_c (ok_aload_n (k := 0) (by decide +kernel) rfl) <|
  am_c (ok_get (by decide +kernel) (by decide +kernel) rfl (by decide +kernel) kw_60) <|
  am_c (ok_lload_n (k := 1) (by decide +kernel) rfl) <|
  am_c (ok_last (by decide +kernel)) <|
  am_n
def k_c9_2 : List (Nat × am_A) := [(91, ac_aload 0 92), (92, ac_get 2 2 1 95), (95, ac_aload 0 96), (96, ac_get 0 2 3 99), (99, ac_lload 3 100), (100, ac_last 101), (101, ac_aload 0 102), (102, ac_dup 103), (103, ac_get 0 2 3 106), (106, ac_push (.int 1) 107), (107, ac_ii (fun x y => x + y) 108), (108, ac_putI 2 3 111), (111, ac_aload 0 112), (112, ac_get 0 2 3 115), (115, ac_push (.int 1) 116), (116, ac_ii (fun x y => x - y) 117), (117, ac_iret)]
theorem k_p9_2 : ∀ q ∈ k_c9_2, am_Ok k_nm D cA B0 sb H00 (k_Th B0 sb H00) prog_4_method_3_code "TokenMouth$Names" "find" [] (some .int) q.1 q.2 :=
  am_c (ok_aload_n (k := 0) (by decide +kernel) rfl) <|
  am_c (ok_get (by decide +kernel) (by decide +kernel) rfl (by decide +kernel) kw_49) <|
  am_c (ok_aload_n (k := 0) (by decide +kernel) rfl) <|
  am_c (ok_get (by decide +kernel) (by decide +kernel) rfl (by decide +kernel) kw_60) <|
  am_c (ok_lload_n (k := 3) (by decide +kernel) rfl) <|
  am_c (ok_last (by decide +kernel)) <|
  am_c (ok_aload_n (k := 0) (by decide +kernel) rfl) <|
  am_c (ok_dup (by decide +kernel)) <|
  am_c (ok_get (by decide +kernel) (by decide +kernel) rfl (by decide +kernel) kw_60) <|
  am_c (ok_iconst (z := 1) (by decide +kernel) (by decide +kernel)) <|
  am_c (ok_iadd (by decide +kernel)) <|
  am_c (ok_putI (by decide +kernel) (by decide +kernel) rfl (by decide +kernel) kw_60 rfl) <|
  am_c (ok_aload_n (k := 0) (by decide +kernel) rfl) <|
  am_c (ok_get (by decide +kernel) (by decide +kernel) rfl (by decide +kernel) kw_60) <|
  am_c (ok_iconst (z := 1) (by decide +kernel) (by decide +kernel)) <|
  am_c (ok_isub (by decide +kernel)) <|
  am_c (ok_iret (by decide +kernel) rfl) <|
  am_n
def k_t9 : List (Nat × List (Nat × am_A)) := [(42, k_c9_0), (90, k_c9_1), (117, k_c9_2)]
theorem k_o9 : ∀ c ∈ k_t9, ∀ q ∈ c.2, am_Ok k_nm D cA B0 sb H00 (k_Th B0 sb H00) prog_4_method_3_code "TokenMouth$Names" "find" [] (some .int) q.1 q.2 := am_cc (P := fun pc a => am_Ok k_nm D cA B0 sb H00 (k_Th B0 sb H00) prog_4_method_3_code "TokenMouth$Names" "find" [] (some .int) pc a) k_p9_0 <| am_cc (P := fun pc a => am_Ok k_nm D cA B0 sb H00 (k_Th B0 sb H00) prog_4_method_3_code "TokenMouth$Names" "find" [] (some .int) pc a) k_p9_1 <| am_cc (P := fun pc a => am_Ok k_nm D cA B0 sb H00 (k_Th B0 sb H00) prog_4_method_3_code "TokenMouth$Names" "find" [] (some .int) pc a) k_p9_2 <| am_cn0
-- 10: TokenMouth$Names.meaningAt(I)I
def k_c10_0 : List (Nat × am_A) := [(0, ac_iload 1 1), (1, ac_if1 (fun x => x < 0) 30 4), (4, ac_iload 1 5), (5, ac_aload 0 6), (6, ac_get 0 2 3 9), (9, ac_if2 (fun x y => y ≤ x) 30 12), (12, ac_iload 1 13), (13, ac_aload 0 14), (14, ac_get 2 2 2 17), (17, ac_alen 18), (18, ac_if2 (fun x y => y ≤ x) 30 21), (21, ac_aload 0 22), (22, ac_get 2 2 2 25), (25, ac_iload 1 26), (26, ac_iald 0 27), (27, ac_goto 31), (30, ac_push (.int 0) 31), (31, ac_iret)]
theorem k_p10_0 : ∀ q ∈ k_c10_0, am_Ok k_nm D cA B0 sb H00 (k_Th B0 sb H00) prog_4_method_4_code "TokenMouth$Names" "meaningAt" [] (some .int) q.1 q.2 :=
  am_c (ok_iload_n (k := 1) (by decide +kernel) rfl) <|
  am_c (ok_iflt (off := 29) (by decide +kernel) (by decide +kernel)) <|
  am_c (ok_iload_n (k := 1) (by decide +kernel) rfl) <|
  am_c (ok_aload_n (k := 0) (by decide +kernel) rfl) <|
  am_c (ok_get (by decide +kernel) (by decide +kernel) rfl (by decide +kernel) kw_60) <|
  am_c (ok_icmpge (off := 21) (by decide +kernel) (by decide +kernel)) <|
  am_c (ok_iload_n (k := 1) (by decide +kernel) rfl) <|
  am_c (ok_aload_n (k := 0) (by decide +kernel) rfl) <|
  am_c (ok_get (by decide +kernel) (by decide +kernel) rfl (by decide +kernel) kw_51) <|
  am_c (ok_alen (by decide +kernel)) <|
  am_c (ok_icmpge (off := 12) (by decide +kernel) (by decide +kernel)) <|
  am_c (ok_aload_n (k := 0) (by decide +kernel) rfl) <|
  am_c (ok_get (by decide +kernel) (by decide +kernel) rfl (by decide +kernel) kw_51) <|
  am_c (ok_iload_n (k := 1) (by decide +kernel) rfl) <|
  am_c (ok_iald (by decide +kernel)) <|
  am_c (ok_goto (off := 4) (by decide +kernel) (by decide +kernel)) <|
  am_c (ok_iconst (z := 0) (by decide +kernel) (by decide +kernel)) <|
  am_c (ok_iret (by decide +kernel) rfl) <|
  am_n
def k_t10 : List (Nat × List (Nat × am_A)) := [(31, k_c10_0)]
theorem k_o10 : ∀ c ∈ k_t10, ∀ q ∈ c.2, am_Ok k_nm D cA B0 sb H00 (k_Th B0 sb H00) prog_4_method_4_code "TokenMouth$Names" "meaningAt" [] (some .int) q.1 q.2 := am_cc (P := fun pc a => am_Ok k_nm D cA B0 sb H00 (k_Th B0 sb H00) prog_4_method_4_code "TokenMouth$Names" "meaningAt" [] (some .int) pc a) k_p10_0 <| am_cn0
-- 11: TokenMouth$Names.setMeaning(II)V
def k_c11_0 : List (Nat × am_A) := [(0, ac_iload 1 1), (1, ac_if1 (fun x => x < 0) 28 4), (4, ac_iload 1 5), (5, ac_aload 0 6), (6, ac_get 0 2 3 9), (9, ac_if2 (fun x y => y ≤ x) 28 12), (12, ac_iload 1 13), (13, ac_aload 0 14), (14, ac_get 2 2 2 17), (17, ac_alen 18), (18, ac_if2 (fun x y => y ≤ x) 28 21), (21, ac_aload 0 22), (22, ac_get 2 2 2 25), (25, ac_iload 1 26), (26, ac_iload 2 27), (27, ac_iast 28), (28, ac_ret)]
theorem k_p11_0 : ∀ q ∈ k_c11_0, am_Ok k_nm D cA B0 sb H00 (k_Th B0 sb H00) prog_4_method_5_code "TokenMouth$Names" "setMeaning" [] none q.1 q.2 :=
  am_c (ok_iload_n (k := 1) (by decide +kernel) rfl) <|
  am_c (ok_iflt (off := 27) (by decide +kernel) (by decide +kernel)) <|
  am_c (ok_iload_n (k := 1) (by decide +kernel) rfl) <|
  am_c (ok_aload_n (k := 0) (by decide +kernel) rfl) <|
  am_c (ok_get (by decide +kernel) (by decide +kernel) rfl (by decide +kernel) kw_60) <|
  am_c (ok_icmpge (off := 19) (by decide +kernel) (by decide +kernel)) <|
  am_c (ok_iload_n (k := 1) (by decide +kernel) rfl) <|
  am_c (ok_aload_n (k := 0) (by decide +kernel) rfl) <|
  am_c (ok_get (by decide +kernel) (by decide +kernel) rfl (by decide +kernel) kw_51) <|
  am_c (ok_alen (by decide +kernel)) <|
  am_c (ok_icmpge (off := 10) (by decide +kernel) (by decide +kernel)) <|
  am_c (ok_aload_n (k := 0) (by decide +kernel) rfl) <|
  am_c (ok_get (by decide +kernel) (by decide +kernel) rfl (by decide +kernel) kw_51) <|
  am_c (ok_iload_n (k := 1) (by decide +kernel) rfl) <|
  am_c (ok_iload_n (k := 2) (by decide +kernel) rfl) <|
  am_c (ok_iast (by decide +kernel)) <|
  am_c (ok_ret (by decide +kernel) rfl) <|
  am_n
def k_t11 : List (Nat × List (Nat × am_A)) := [(28, k_c11_0)]
theorem k_o11 : ∀ c ∈ k_t11, ∀ q ∈ c.2, am_Ok k_nm D cA B0 sb H00 (k_Th B0 sb H00) prog_4_method_5_code "TokenMouth$Names" "setMeaning" [] none q.1 q.2 := am_cc (P := fun pc a => am_Ok k_nm D cA B0 sb H00 (k_Th B0 sb H00) prog_4_method_5_code "TokenMouth$Names" "setMeaning" [] none pc a) k_p11_0 <| am_cn0
-- 12: TokenMouth$Names.headAt(I)J
def k_c12_0 : List (Nat × am_A) := [(0, ac_iload 1 1), (1, ac_if1 (fun x => x < 0) 30 4), (4, ac_iload 1 5), (5, ac_aload 0 6), (6, ac_get 0 2 3 9), (9, ac_if2 (fun x y => y ≤ x) 30 12), (12, ac_iload 1 13), (13, ac_aload 0 14), (14, ac_get 2 2 0 17), (17, ac_alen 18), (18, ac_if2 (fun x y => y ≤ x) 30 21), (21, ac_aload 0 22), (22, ac_get 2 2 0 25), (25, ac_iload 1 26), (26, ac_lald 27), (27, ac_goto 31), (30, ac_push (.long 0) 31), (31, ac_lret)]
theorem k_p12_0 : ∀ q ∈ k_c12_0, am_Ok k_nm D cA B0 sb H00 (k_Th B0 sb H00) prog_4_method_6_code "TokenMouth$Names" "headAt" [] (some .long) q.1 q.2 :=
  am_c (ok_iload_n (k := 1) (by decide +kernel) rfl) <|
  am_c (ok_iflt (off := 29) (by decide +kernel) (by decide +kernel)) <|
  am_c (ok_iload_n (k := 1) (by decide +kernel) rfl) <|
  am_c (ok_aload_n (k := 0) (by decide +kernel) rfl) <|
  am_c (ok_get (by decide +kernel) (by decide +kernel) rfl (by decide +kernel) kw_60) <|
  am_c (ok_icmpge (off := 21) (by decide +kernel) (by decide +kernel)) <|
  am_c (ok_iload_n (k := 1) (by decide +kernel) rfl) <|
  am_c (ok_aload_n (k := 0) (by decide +kernel) rfl) <|
  am_c (ok_get (by decide +kernel) (by decide +kernel) rfl (by decide +kernel) kw_48) <|
  am_c (ok_alen (by decide +kernel)) <|
  am_c (ok_icmpge (off := 12) (by decide +kernel) (by decide +kernel)) <|
  am_c (ok_aload_n (k := 0) (by decide +kernel) rfl) <|
  am_c (ok_get (by decide +kernel) (by decide +kernel) rfl (by decide +kernel) kw_48) <|
  am_c (ok_iload_n (k := 1) (by decide +kernel) rfl) <|
  am_c (ok_lald (by decide +kernel)) <|
  am_c (ok_goto (off := 4) (by decide +kernel) (by decide +kernel)) <|
  am_c (ok_lconst (z := 0) (by decide +kernel) (by decide +kernel)) <|
  am_c (ok_lret (by decide +kernel) rfl) <|
  am_n
def k_t12 : List (Nat × List (Nat × am_A)) := [(31, k_c12_0)]
theorem k_o12 : ∀ c ∈ k_t12, ∀ q ∈ c.2, am_Ok k_nm D cA B0 sb H00 (k_Th B0 sb H00) prog_4_method_6_code "TokenMouth$Names" "headAt" [] (some .long) q.1 q.2 := am_cc (P := fun pc a => am_Ok k_nm D cA B0 sb H00 (k_Th B0 sb H00) prog_4_method_6_code "TokenMouth$Names" "headAt" [] (some .long) pc a) k_p12_0 <| am_cn0
-- 13: TokenMouth$Names.tailAt(I)J
def k_c13_0 : List (Nat × am_A) := [(0, ac_iload 1 1), (1, ac_if1 (fun x => x < 0) 30 4), (4, ac_iload 1 5), (5, ac_aload 0 6), (6, ac_get 0 2 3 9), (9, ac_if2 (fun x y => y ≤ x) 30 12), (12, ac_iload 1 13), (13, ac_aload 0 14), (14, ac_get 2 2 1 17), (17, ac_alen 18), (18, ac_if2 (fun x y => y ≤ x) 30 21), (21, ac_aload 0 22), (22, ac_get 2 2 1 25), (25, ac_iload 1 26), (26, ac_lald 27), (27, ac_goto 31), (30, ac_push (.long 0) 31), (31, ac_lret)]
theorem k_p13_0 : ∀ q ∈ k_c13_0, am_Ok k_nm D cA B0 sb H00 (k_Th B0 sb H00) prog_4_method_7_code "TokenMouth$Names" "tailAt" [] (some .long) q.1 q.2 :=
  am_c (ok_iload_n (k := 1) (by decide +kernel) rfl) <|
  am_c (ok_iflt (off := 29) (by decide +kernel) (by decide +kernel)) <|
  am_c (ok_iload_n (k := 1) (by decide +kernel) rfl) <|
  am_c (ok_aload_n (k := 0) (by decide +kernel) rfl) <|
  am_c (ok_get (by decide +kernel) (by decide +kernel) rfl (by decide +kernel) kw_60) <|
  am_c (ok_icmpge (off := 21) (by decide +kernel) (by decide +kernel)) <|
  am_c (ok_iload_n (k := 1) (by decide +kernel) rfl) <|
  am_c (ok_aload_n (k := 0) (by decide +kernel) rfl) <|
  am_c (ok_get (by decide +kernel) (by decide +kernel) rfl (by decide +kernel) kw_49) <|
  am_c (ok_alen (by decide +kernel)) <|
  am_c (ok_icmpge (off := 12) (by decide +kernel) (by decide +kernel)) <|
  am_c (ok_aload_n (k := 0) (by decide +kernel) rfl) <|
  am_c (ok_get (by decide +kernel) (by decide +kernel) rfl (by decide +kernel) kw_49) <|
  am_c (ok_iload_n (k := 1) (by decide +kernel) rfl) <|
  am_c (ok_lald (by decide +kernel)) <|
  am_c (ok_goto (off := 4) (by decide +kernel) (by decide +kernel)) <|
  am_c (ok_lconst (z := 0) (by decide +kernel) (by decide +kernel)) <|
  am_c (ok_lret (by decide +kernel) rfl) <|
  am_n
def k_t13 : List (Nat × List (Nat × am_A)) := [(31, k_c13_0)]
theorem k_o13 : ∀ c ∈ k_t13, ∀ q ∈ c.2, am_Ok k_nm D cA B0 sb H00 (k_Th B0 sb H00) prog_4_method_7_code "TokenMouth$Names" "tailAt" [] (some .long) q.1 q.2 := am_cc (P := fun pc a => am_Ok k_nm D cA B0 sb H00 (k_Th B0 sb H00) prog_4_method_7_code "TokenMouth$Names" "tailAt" [] (some .long) pc a) k_p13_0 <| am_cn0
-- 14: TokenMouth$Names.onlyCharacterOf(I)I
def k_c14_0 : List (Nat × am_A) := [(0, ac_aload 0 1), (1, ac_iload 1 2), (2, ac_callV 2 12 2 5 am_nohd), (5, ac_lstore 2 6), (6, ac_lload 2 7), (7, ac_push (.long 0) 8), (8, ac_lli lg_cmp 9), (9, ac_if1 (fun x => x ≤ 0) 25 12), (12, ac_lload 2 13), (13, ac_push (.long 256) 16), (16, ac_lli lg_cmp 17), (17, ac_if1 (fun x => 0 ≤ x) 25 20), (20, ac_lload 2 21), (21, ac_l2 (fun x => x.toInt32) 22), (22, ac_goto 26), (25, ac_push (.int (-1)) 26), (26, ac_iret)]
theorem k_p14_0 : ∀ q ∈ k_c14_0, am_Ok k_nm D cA B0 sb H00 (k_Th B0 sb H00) prog_4_method_8_code "TokenMouth$Names" "onlyCharacterOf" [] (some .int) q.1 q.2 :=
  am_c (ok_aload_n (k := 0) (by decide +kernel) rfl) <|
  am_c (ok_iload_n (k := 1) (by decide +kernel) rfl) <|
  am_c (ok_callV (by decide +kernel) (by decide +kernel) kw_66 kw_67 kw_68 kw_65 (by decide +kernel) (by decide +kernel)) <|
  am_c (ok_lstore_n (k := 2) (by decide +kernel) rfl) <|
  am_c (ok_lload_n (k := 2) (by decide +kernel) rfl) <|
  am_c (ok_lconst (z := 0) (by decide +kernel) (by decide +kernel)) <|
  am_c (ok_lcmp (by decide +kernel)) <|
  am_c (ok_ifle (off := 16) (by decide +kernel) (by decide +kernel)) <|
  am_c (ok_lload_n (k := 2) (by decide +kernel) rfl) <|
  am_c (ok_ldc2 (by decide +kernel) kw_69) <|
  am_c (ok_lcmp (by decide +kernel)) <|
  am_c (ok_ifge (off := 8) (by decide +kernel) (by decide +kernel)) <|
  am_c (ok_lload_n (k := 2) (by decide +kernel) rfl) <|
  am_c (ok_l2i (by decide +kernel)) <|
  am_c (ok_goto (off := 4) (by decide +kernel) (by decide +kernel)) <|
  am_c (ok_iconst (z := -1) (by decide +kernel) (by decide +kernel)) <|
  am_c (ok_iret (by decide +kernel) rfl) <|
  am_n
def k_t14 : List (Nat × List (Nat × am_A)) := [(26, k_c14_0)]
theorem k_o14 : ∀ c ∈ k_t14, ∀ q ∈ c.2, am_Ok k_nm D cA B0 sb H00 (k_Th B0 sb H00) prog_4_method_8_code "TokenMouth$Names" "onlyCharacterOf" [] (some .int) q.1 q.2 := am_cc (P := fun pc a => am_Ok k_nm D cA B0 sb H00 (k_Th B0 sb H00) prog_4_method_8_code "TokenMouth$Names" "onlyCharacterOf" [] (some .int) pc a) k_p14_0 <| am_cn0
-- 15: TokenMouth$Reader.<init>()V
def k_c15_0 : List (Nat × am_A) := [(0, ac_aload 0 1), (1, ac_oinit 4), (4, ac_aload 0 5), (5, ac_push (.int 160) 8), (8, ac_newa 0 4 10), (10, ac_putR 3 0 13), (13, ac_aload 0 14), (14, ac_push (.int 128) 17), (17, ac_newa 0 4 19), (19, ac_putR 3 1 22), (22, ac_aload 0 23), (23, ac_callV 3 17 1 26 am_nohd), (26, ac_ret)]
theorem k_p15_0 : ∀ q ∈ k_c15_0, am_Ok k_nm D cA B0 sb H00 (k_Th B0 sb H00) prog_5_method_1_code "TokenMouth$Reader" "<init>" [] none q.1 q.2 :=
  am_c (ok_aload_n (k := 0) (by decide +kernel) rfl) <|
  am_c (ok_oinit (by decide +kernel) kw_70 kw_1 kw_oi) <|
  am_c (ok_aload_n (k := 0) (by decide +kernel) rfl) <|
  am_c (ok_sipush (z := 160) (by decide +kernel) (by decide +kernel)) <|
  am_c (ok_newa (at_ := .int) (by decide +kernel) rfl rfl (by decide +kernel) kw_50) <|
  am_c (ok_putR (by decide +kernel) (by decide +kernel) (ty := (.array .int)) rfl rfl (fun _ => ⟨rfl, rfl⟩) (by decide +kernel) kw_71 (Or.inr ⟨rfl, rfl, rfl⟩)) <|
  am_c (ok_aload_n (k := 0) (by decide +kernel) rfl) <|
  am_c (ok_sipush (z := 128) (by decide +kernel) (by decide +kernel)) <|
  am_c (ok_newa (at_ := .int) (by decide +kernel) rfl rfl (by decide +kernel) kw_50) <|
  am_c (ok_putR (by decide +kernel) (by decide +kernel) (ty := (.array .int)) rfl rfl (fun _ => ⟨rfl, rfl⟩) (by decide +kernel) kw_72 (Or.inr ⟨rfl, rfl, rfl⟩)) <|
  am_c (ok_aload_n (k := 0) (by decide +kernel) rfl) <|
  am_c (ok_callV (by decide +kernel) (by decide +kernel) kw_74 kw_75 kw_76 kw_73 (by decide +kernel) (by decide +kernel)) <|
  am_c (ok_ret (by decide +kernel) rfl) <|
  am_n
def k_t15 : List (Nat × List (Nat × am_A)) := [(26, k_c15_0)]
theorem k_o15 : ∀ c ∈ k_t15, ∀ q ∈ c.2, am_Ok k_nm D cA B0 sb H00 (k_Th B0 sb H00) prog_5_method_1_code "TokenMouth$Reader" "<init>" [] none q.1 q.2 := am_cc (P := fun pc a => am_Ok k_nm D cA B0 sb H00 (k_Th B0 sb H00) prog_5_method_1_code "TokenMouth$Reader" "<init>" [] none pc a) k_p15_0 <| am_cn0
-- 16: TokenMouth$Reader.forgetText()V
def k_c16_0 : List (Nat × am_A) := [(0, ac_aload 0 1), (1, ac_push (.int 0) 2), (2, ac_putI 3 2 5), (5, ac_ret)]
theorem k_p16_0 : ∀ q ∈ k_c16_0, am_Ok k_nm D cA B0 sb H00 (k_Th B0 sb H00) prog_5_method_2_code "TokenMouth$Reader" "forgetText" [] none q.1 q.2 :=
  am_c (ok_aload_n (k := 0) (by decide +kernel) rfl) <|
  am_c (ok_iconst (z := 0) (by decide +kernel) (by decide +kernel)) <|
  am_c (ok_putI (by decide +kernel) (by decide +kernel) rfl (by decide +kernel) kw_77 rfl) <|
  am_c (ok_ret (by decide +kernel) rfl) <|
  am_n
def k_t16 : List (Nat × List (Nat × am_A)) := [(5, k_c16_0)]
theorem k_o16 : ∀ c ∈ k_t16, ∀ q ∈ c.2, am_Ok k_nm D cA B0 sb H00 (k_Th B0 sb H00) prog_5_method_2_code "TokenMouth$Reader" "forgetText" [] none q.1 q.2 := am_cc (P := fun pc a => am_Ok k_nm D cA B0 sb H00 (k_Th B0 sb H00) prog_5_method_2_code "TokenMouth$Reader" "forgetText" [] none pc a) k_p16_0 <| am_cn0
-- 17: TokenMouth$Reader.startAnew()V
def k_c17_0 : List (Nat × am_A) := [(0, ac_aload 0 1), (1, ac_push (.int 0) 2), (2, ac_putI 3 4 5), (5, ac_aload 0 6), (6, ac_push (.int 0) 7), (7, ac_putI 3 3 10), (10, ac_aload 0 11), (11, ac_push (.int 0) 12), (12, ac_putI 3 5 15), (15, ac_aload 0 16), (16, ac_get 2 3 1 19), (19, ac_push (.int 12) 21), (21, ac_callS 162 2 24), (24, ac_push (.int 0) 25), (25, ac_istore 1 26), (26, ac_iload 1 27), (27, ac_push (.int 26) 29), (29, ac_if2 (fun x y => y ≤ x) 60 32), (32, ac_aload 0 33), (33, ac_get 2 3 1 36), (36, ac_push (.int 97) 38), (38, ac_iload 1 39), (39, ac_ii (fun x y => x + y) 40), (40, ac_push (.int 11) 42)]
theorem k_p17_0 : ∀ q ∈ k_c17_0, am_Ok k_nm D cA B0 sb H00 (k_Th B0 sb H00) prog_5_method_3_code "TokenMouth$Reader" "startAnew" [] none q.1 q.2 :=
  am_c (ok_aload_n (k := 0) (by decide +kernel) rfl) <|
  am_c (ok_iconst (z := 0) (by decide +kernel) (by decide +kernel)) <|
  am_c (ok_putI (by decide +kernel) (by decide +kernel) rfl (by decide +kernel) kw_78 rfl) <|
  am_c (ok_aload_n (k := 0) (by decide +kernel) rfl) <|
  am_c (ok_iconst (z := 0) (by decide +kernel) (by decide +kernel)) <|
  am_c (ok_putI (by decide +kernel) (by decide +kernel) rfl (by decide +kernel) kw_79 rfl) <|
  am_c (ok_aload_n (k := 0) (by decide +kernel) rfl) <|
  am_c (ok_iconst (z := 0) (by decide +kernel) (by decide +kernel)) <|
  am_c (ok_putI (by decide +kernel) (by decide +kernel) rfl (by decide +kernel) kw_80 rfl) <|
  am_c (ok_aload_n (k := 0) (by decide +kernel) rfl) <|
  am_c (ok_get (by decide +kernel) (by decide +kernel) rfl (by decide +kernel) kw_72) <|
  am_c (ok_bipush (z := 12) (by decide +kernel) (by decide +kernel)) <|
  am_c (ok_callS (by decide +kernel) kw_83 kw_84 kw_82 kw_81 (by decide +kernel) (by decide +kernel)) <|
  am_c (ok_iconst (z := 0) (by decide +kernel) (by decide +kernel)) <|
  am_c (ok_istore_n (k := 1) (by decide +kernel) rfl) <|
  am_c (ok_iload_n (k := 1) (by decide +kernel) rfl) <|
  am_c (ok_bipush (z := 26) (by decide +kernel) (by decide +kernel)) <|
  am_c (ok_icmpge (off := 31) (by decide +kernel) (by decide +kernel)) <|
  am_c (ok_aload_n (k := 0) (by decide +kernel) rfl) <|
  am_c (ok_get (by decide +kernel) (by decide +kernel) rfl (by decide +kernel) kw_72) <|
  am_c (ok_bipush (z := 97) (by decide +kernel) (by decide +kernel)) <|
  am_c (ok_iload_n (k := 1) (by decide +kernel) rfl) <|
  am_c (ok_iadd (by decide +kernel)) <|
  am_c (ok_bipush (z := 11) (by decide +kernel) (by decide +kernel)) <|
  am_n
def k_c17_1 : List (Nat × am_A) := [(42, ac_iast 43), (43, ac_aload 0 44), (44, ac_get 2 3 1 47), (47, ac_push (.int 65) 49), (49, ac_iload 1 50), (50, ac_ii (fun x y => x + y) 51), (51, ac_push (.int 11) 53), (53, ac_iast 54), (54, ac_iinc 1 1 57), (57, ac_goto 26), (60, ac_aload 0 61), (61, ac_get 2 3 1 64), (64, ac_push (.int 92) 66), (66, ac_push (.int 0) 67), (67, ac_iast 68), (68, ac_aload 0 69), (69, ac_get 2 3 1 72), (72, ac_push (.int 123) 74), (74, ac_push (.int 1) 75), (75, ac_iast 76), (76, ac_aload 0 77), (77, ac_get 2 3 1 80), (80, ac_push (.int 125) 82), (82, ac_push (.int 2) 83)]
theorem k_p17_1 : ∀ q ∈ k_c17_1, am_Ok k_nm D cA B0 sb H00 (k_Th B0 sb H00) prog_5_method_3_code "TokenMouth$Reader" "startAnew" [] none q.1 q.2 :=
  am_c (ok_iast (by decide +kernel)) <|
  am_c (ok_aload_n (k := 0) (by decide +kernel) rfl) <|
  am_c (ok_get (by decide +kernel) (by decide +kernel) rfl (by decide +kernel) kw_72) <|
  am_c (ok_bipush (z := 65) (by decide +kernel) (by decide +kernel)) <|
  am_c (ok_iload_n (k := 1) (by decide +kernel) rfl) <|
  am_c (ok_iadd (by decide +kernel)) <|
  am_c (ok_bipush (z := 11) (by decide +kernel) (by decide +kernel)) <|
  am_c (ok_iast (by decide +kernel)) <|
  am_c (ok_iinc (z := 1) (by decide +kernel) (by decide +kernel)) <|
  am_c (ok_goto (off := -31) (by decide +kernel) (by decide +kernel)) <|
  am_c (ok_aload_n (k := 0) (by decide +kernel) rfl) <|
  am_c (ok_get (by decide +kernel) (by decide +kernel) rfl (by decide +kernel) kw_72) <|
  am_c (ok_bipush (z := 92) (by decide +kernel) (by decide +kernel)) <|
  am_c (ok_iconst (z := 0) (by decide +kernel) (by decide +kernel)) <|
  am_c (ok_iast (by decide +kernel)) <|
  am_c (ok_aload_n (k := 0) (by decide +kernel) rfl) <|
  am_c (ok_get (by decide +kernel) (by decide +kernel) rfl (by decide +kernel) kw_72) <|
  am_c (ok_bipush (z := 123) (by decide +kernel) (by decide +kernel)) <|
  am_c (ok_iconst (z := 1) (by decide +kernel) (by decide +kernel)) <|
  am_c (ok_iast (by decide +kernel)) <|
  am_c (ok_aload_n (k := 0) (by decide +kernel) rfl) <|
  am_c (ok_get (by decide +kernel) (by decide +kernel) rfl (by decide +kernel) kw_72) <|
  am_c (ok_bipush (z := 125) (by decide +kernel) (by decide +kernel)) <|
  am_c (ok_iconst (z := 2) (by decide +kernel) (by decide +kernel)) <|
  am_n
def k_c17_2 : List (Nat × am_A) := [(83, ac_iast 84), (84, ac_aload 0 85), (85, ac_get 2 3 1 88), (88, ac_push (.int 36) 90), (90, ac_push (.int 3) 91), (91, ac_iast 92), (92, ac_aload 0 93), (93, ac_get 2 3 1 96), (96, ac_push (.int 38) 98), (98, ac_push (.int 4) 99), (99, ac_iast 100), (100, ac_aload 0 101), (101, ac_get 2 3 1 104), (104, ac_push (.int 10) 106), (106, ac_push (.int 5) 107), (107, ac_iast 108), (108, ac_aload 0 109), (109, ac_get 2 3 1 112), (112, ac_push (.int 35) 114), (114, ac_push (.int 6) 116), (116, ac_iast 117), (117, ac_aload 0 118), (118, ac_get 2 3 1 121), (121, ac_push (.int 94) 123)]
theorem k_p17_2 : ∀ q ∈ k_c17_2, am_Ok k_nm D cA B0 sb H00 (k_Th B0 sb H00) prog_5_method_3_code "TokenMouth$Reader" "startAnew" [] none q.1 q.2 :=
  am_c (ok_iast (by decide +kernel)) <|
  am_c (ok_aload_n (k := 0) (by decide +kernel) rfl) <|
  am_c (ok_get (by decide +kernel) (by decide +kernel) rfl (by decide +kernel) kw_72) <|
  am_c (ok_bipush (z := 36) (by decide +kernel) (by decide +kernel)) <|
  am_c (ok_iconst (z := 3) (by decide +kernel) (by decide +kernel)) <|
  am_c (ok_iast (by decide +kernel)) <|
  am_c (ok_aload_n (k := 0) (by decide +kernel) rfl) <|
  am_c (ok_get (by decide +kernel) (by decide +kernel) rfl (by decide +kernel) kw_72) <|
  am_c (ok_bipush (z := 38) (by decide +kernel) (by decide +kernel)) <|
  am_c (ok_iconst (z := 4) (by decide +kernel) (by decide +kernel)) <|
  am_c (ok_iast (by decide +kernel)) <|
  am_c (ok_aload_n (k := 0) (by decide +kernel) rfl) <|
  am_c (ok_get (by decide +kernel) (by decide +kernel) rfl (by decide +kernel) kw_72) <|
  am_c (ok_bipush (z := 10) (by decide +kernel) (by decide +kernel)) <|
  am_c (ok_iconst (z := 5) (by decide +kernel) (by decide +kernel)) <|
  am_c (ok_iast (by decide +kernel)) <|
  am_c (ok_aload_n (k := 0) (by decide +kernel) rfl) <|
  am_c (ok_get (by decide +kernel) (by decide +kernel) rfl (by decide +kernel) kw_72) <|
  am_c (ok_bipush (z := 35) (by decide +kernel) (by decide +kernel)) <|
  am_c (ok_bipush (z := 6) (by decide +kernel) (by decide +kernel)) <|
  am_c (ok_iast (by decide +kernel)) <|
  am_c (ok_aload_n (k := 0) (by decide +kernel) rfl) <|
  am_c (ok_get (by decide +kernel) (by decide +kernel) rfl (by decide +kernel) kw_72) <|
  am_c (ok_bipush (z := 94) (by decide +kernel) (by decide +kernel)) <|
  am_n
def k_c17_3 : List (Nat × am_A) := [(123, ac_push (.int 7) 125), (125, ac_iast 126), (126, ac_aload 0 127), (127, ac_get 2 3 1 130), (130, ac_push (.int 95) 132), (132, ac_push (.int 8) 134), (134, ac_iast 135), (135, ac_aload 0 136), (136, ac_get 2 3 1 139), (139, ac_push (.int 32) 141), (141, ac_push (.int 10) 143), (143, ac_iast 144), (144, ac_aload 0 145), (145, ac_get 2 3 1 148), (148, ac_push (.int 126) 150), (150, ac_push (.int 13) 152), (152, ac_iast 153), (153, ac_aload 0 154), (154, ac_get 2 3 1 157), (157, ac_push (.int 37) 159), (159, ac_push (.int 14) 161), (161, ac_iast 162), (162, ac_ret)]
theorem k_p17_3 : ∀ q ∈ k_c17_3, am_Ok k_nm D cA B0 sb H00 (k_Th B0 sb H00) prog_5_method_3_code "TokenMouth$Reader" "startAnew" [] none q.1 q.2 :=
  am_c (ok_bipush (z := 7) (by decide +kernel) (by decide +kernel)) <|
  am_c (ok_iast (by decide +kernel)) <|
  am_c (ok_aload_n (k := 0) (by decide +kernel) rfl) <|
  am_c (ok_get (by decide +kernel) (by decide +kernel) rfl (by decide +kernel) kw_72) <|
  am_c (ok_bipush (z := 95) (by decide +kernel) (by decide +kernel)) <|
  am_c (ok_bipush (z := 8) (by decide +kernel) (by decide +kernel)) <|
  am_c (ok_iast (by decide +kernel)) <|
  am_c (ok_aload_n (k := 0) (by decide +kernel) rfl) <|
  am_c (ok_get (by decide +kernel) (by decide +kernel) rfl (by decide +kernel) kw_72) <|
  am_c (ok_bipush (z := 32) (by decide +kernel) (by decide +kernel)) <|
  am_c (ok_bipush (z := 10) (by decide +kernel) (by decide +kernel)) <|
  am_c (ok_iast (by decide +kernel)) <|
  am_c (ok_aload_n (k := 0) (by decide +kernel) rfl) <|
  am_c (ok_get (by decide +kernel) (by decide +kernel) rfl (by decide +kernel) kw_72) <|
  am_c (ok_bipush (z := 126) (by decide +kernel) (by decide +kernel)) <|
  am_c (ok_bipush (z := 13) (by decide +kernel) (by decide +kernel)) <|
  am_c (ok_iast (by decide +kernel)) <|
  am_c (ok_aload_n (k := 0) (by decide +kernel) rfl) <|
  am_c (ok_get (by decide +kernel) (by decide +kernel) rfl (by decide +kernel) kw_72) <|
  am_c (ok_bipush (z := 37) (by decide +kernel) (by decide +kernel)) <|
  am_c (ok_bipush (z := 14) (by decide +kernel) (by decide +kernel)) <|
  am_c (ok_iast (by decide +kernel)) <|
  am_c (ok_ret (by decide +kernel) rfl) <|
  am_n
def k_t17 : List (Nat × List (Nat × am_A)) := [(40, k_c17_0), (82, k_c17_1), (121, k_c17_2), (162, k_c17_3)]
theorem k_o17 : ∀ c ∈ k_t17, ∀ q ∈ c.2, am_Ok k_nm D cA B0 sb H00 (k_Th B0 sb H00) prog_5_method_3_code "TokenMouth$Reader" "startAnew" [] none q.1 q.2 := am_cc (P := fun pc a => am_Ok k_nm D cA B0 sb H00 (k_Th B0 sb H00) prog_5_method_3_code "TokenMouth$Reader" "startAnew" [] none pc a) k_p17_0 <| am_cc (P := fun pc a => am_Ok k_nm D cA B0 sb H00 (k_Th B0 sb H00) prog_5_method_3_code "TokenMouth$Reader" "startAnew" [] none pc a) k_p17_1 <| am_cc (P := fun pc a => am_Ok k_nm D cA B0 sb H00 (k_Th B0 sb H00) prog_5_method_3_code "TokenMouth$Reader" "startAnew" [] none pc a) k_p17_2 <| am_cc (P := fun pc a => am_Ok k_nm D cA B0 sb H00 (k_Th B0 sb H00) prog_5_method_3_code "TokenMouth$Reader" "startAnew" [] none pc a) k_p17_3 <| am_cn0
-- 18: TokenMouth$Reader.categoryOf(I)I
def k_c18_0 : List (Nat × am_A) := [(0, ac_aload 0 1), (1, ac_get 2 3 1 4), (4, ac_iload 1 5), (5, ac_push (.int 127) 7), (7, ac_ii (fun x y => x &&& y) 8), (8, ac_iald 0 9), (9, ac_iret)]
theorem k_p18_0 : ∀ q ∈ k_c18_0, am_Ok k_nm D cA B0 sb H00 (k_Th B0 sb H00) prog_5_method_4_code "TokenMouth$Reader" "categoryOf" [] (some .int) q.1 q.2 :=
  am_c (ok_aload_n (k := 0) (by decide +kernel) rfl) <|
  am_c (ok_get (by decide +kernel) (by decide +kernel) rfl (by decide +kernel) kw_72) <|
  am_c (ok_iload_n (k := 1) (by decide +kernel) rfl) <|
  am_c (ok_bipush (z := 127) (by decide +kernel) (by decide +kernel)) <|
  am_c (ok_iand (by decide +kernel)) <|
  am_c (ok_iald (by decide +kernel)) <|
  am_c (ok_iret (by decide +kernel) rfl) <|
  am_n
def k_t18 : List (Nat × List (Nat × am_A)) := [(9, k_c18_0)]
theorem k_o18 : ∀ c ∈ k_t18, ∀ q ∈ c.2, am_Ok k_nm D cA B0 sb H00 (k_Th B0 sb H00) prog_5_method_4_code "TokenMouth$Reader" "categoryOf" [] (some .int) q.1 q.2 := am_cc (P := fun pc a => am_Ok k_nm D cA B0 sb H00 (k_Th B0 sb H00) prog_5_method_4_code "TokenMouth$Reader" "categoryOf" [] (some .int) pc a) k_p18_0 <| am_cn0
-- 19: TokenMouth$Reader.setCategory(II)V
def k_c19_0 : List (Nat × am_A) := [(0, ac_aload 0 1), (1, ac_get 2 3 1 4), (4, ac_iload 1 5), (5, ac_push (.int 127) 7), (7, ac_ii (fun x y => x &&& y) 8), (8, ac_iload 2 9), (9, ac_iast 10), (10, ac_ret)]
theorem k_p19_0 : ∀ q ∈ k_c19_0, am_Ok k_nm D cA B0 sb H00 (k_Th B0 sb H00) prog_5_method_5_code "TokenMouth$Reader" "setCategory" [] none q.1 q.2 :=
  am_c (ok_aload_n (k := 0) (by decide +kernel) rfl) <|
  am_c (ok_get (by decide +kernel) (by decide +kernel) rfl (by decide +kernel) kw_72) <|
  am_c (ok_iload_n (k := 1) (by decide +kernel) rfl) <|
  am_c (ok_bipush (z := 127) (by decide +kernel) (by decide +kernel)) <|
  am_c (ok_iand (by decide +kernel)) <|
  am_c (ok_iload_n (k := 2) (by decide +kernel) rfl) <|
  am_c (ok_iast (by decide +kernel)) <|
  am_c (ok_ret (by decide +kernel) rfl) <|
  am_n
def k_t19 : List (Nat × List (Nat × am_A)) := [(10, k_c19_0)]
theorem k_o19 : ∀ c ∈ k_t19, ∀ q ∈ c.2, am_Ok k_nm D cA B0 sb H00 (k_Th B0 sb H00) prog_5_method_5_code "TokenMouth$Reader" "setCategory" [] none q.1 q.2 := am_cc (P := fun pc a => am_Ok k_nm D cA B0 sb H00 (k_Th B0 sb H00) prog_5_method_5_code "TokenMouth$Reader" "setCategory" [] none pc a) k_p19_0 <| am_cn0
-- 20: TokenMouth$Reader.append(J)Z
def k_c20_0 : List (Nat × am_A) := [(0, ac_lload 1 1), (1, ac_callS 50 1 4), (4, ac_istore 3 5), (5, ac_iload 3 6), (6, ac_push (.int (-1)) 7), (7, ac_if2 (fun x y => x = y) 22 10), (10, ac_aload 0 11), (11, ac_get 0 3 2 14), (14, ac_iload 3 15), (15, ac_ii (fun x y => x + y) 16), (16, ac_push (.int 160) 19), (19, ac_if2 (fun x y => x ≤ y) 24 22), (22, ac_push (.int 0) 23), (23, ac_zret), (24, ac_push (.int 56) 26), (26, ac_istore 4 28), (28, ac_iload 4 30), (30, ac_if1 (fun x => x < 0) 95 33), (33, ac_lload 1 34), (34, ac_iload 4 36), (36, ac_li (fun x y => (x.toUInt64 >>> (y.toInt64.toUInt64 &&& Int64.toUInt64 63)).toInt64) 37), (37, ac_l2 (fun x => x.toInt32) 38), (38, ac_push (.int 255) 41), (41, ac_ii (fun x y => x &&& y) 42)]
theorem k_p20_0 : ∀ q ∈ k_c20_0, am_Ok k_nm D cA B0 sb H00 (k_Th B0 sb H00) prog_5_method_6_code "TokenMouth$Reader" "append" [] (some .boolean) q.1 q.2 :=
  am_c (ok_lload_n (k := 1) (by decide +kernel) rfl) <|
  am_c (ok_callSN (host := "TokenMouth") (idx := 40) (by decide +kernel) (by decide +kernel) kw_87 kw_86 kw_85 (by decide +kernel) (by decide +kernel)) <|
  am_c (ok_istore_n (k := 3) (by decide +kernel) rfl) <|
  am_c (ok_iload_n (k := 3) (by decide +kernel) rfl) <|
  am_c (ok_iconst (z := -1) (by decide +kernel) (by decide +kernel)) <|
  am_c (ok_icmpeq (off := 15) (by decide +kernel) (by decide +kernel)) <|
  am_c (ok_aload_n (k := 0) (by decide +kernel) rfl) <|
  am_c (ok_get (by decide +kernel) (by decide +kernel) rfl (by decide +kernel) kw_77) <|
  am_c (ok_iload_n (k := 3) (by decide +kernel) rfl) <|
  am_c (ok_iadd (by decide +kernel)) <|
  am_c (ok_sipush (z := 160) (by decide +kernel) (by decide +kernel)) <|
  am_c (ok_icmple (off := 5) (by decide +kernel) (by decide +kernel)) <|
  am_c (ok_iconst (z := 0) (by decide +kernel) (by decide +kernel)) <|
  am_c (ok_zret (by decide +kernel) rfl) <|
  am_c (ok_bipush (z := 56) (by decide +kernel) (by decide +kernel)) <|
  am_c (ok_istore (by decide +kernel)) <|
  am_c (ok_iload (by decide +kernel)) <|
  am_c (ok_iflt (off := 65) (by decide +kernel) (by decide +kernel)) <|
  am_c (ok_lload_n (k := 1) (by decide +kernel) rfl) <|
  am_c (ok_iload (by decide +kernel)) <|
  am_c (ok_lushr (by decide +kernel)) <|
  am_c (ok_l2i (by decide +kernel)) <|
  am_c (ok_sipush (z := 255) (by decide +kernel) (by decide +kernel)) <|
  am_c (ok_iand (by decide +kernel)) <|
  am_n
def k_c20_1 : List (Nat × am_A) := [(42, ac_istore 5 44), (44, ac_iload 5 46), (46, ac_if1 (fun x => x = 0) 89 49), (49, ac_aload 0 50), (50, ac_get 0 3 2 53), (53, ac_if1 (fun x => x < 0) 89 56), (56, ac_aload 0 57), (57, ac_get 0 3 2 60), (60, ac_aload 0 61), (61, ac_get 2 3 0 64), (64, ac_alen 65), (65, ac_if2 (fun x y => y ≤ x) 89 68), (68, ac_aload 0 69), (69, ac_get 2 3 0 72), (72, ac_aload 0 73), (73, ac_get 0 3 2 76), (76, ac_iload 5 78), (78, ac_iast 79), (79, ac_aload 0 80), (80, ac_dup 81), (81, ac_get 0 3 2 84), (84, ac_push (.int 1) 85), (85, ac_ii (fun x y => x + y) 86), (86, ac_putI 3 2 89)]
theorem k_p20_1 : ∀ q ∈ k_c20_1, am_Ok k_nm D cA B0 sb H00 (k_Th B0 sb H00) prog_5_method_6_code "TokenMouth$Reader" "append" [] (some .boolean) q.1 q.2 :=
  am_c (ok_istore (by decide +kernel)) <|
  am_c (ok_iload (by decide +kernel)) <|
  am_c (ok_ifeq (off := 43) (by decide +kernel) (by decide +kernel)) <|
  am_c (ok_aload_n (k := 0) (by decide +kernel) rfl) <|
  am_c (ok_get (by decide +kernel) (by decide +kernel) rfl (by decide +kernel) kw_77) <|
  am_c (ok_iflt (off := 36) (by decide +kernel) (by decide +kernel)) <|
  am_c (ok_aload_n (k := 0) (by decide +kernel) rfl) <|
  am_c (ok_get (by decide +kernel) (by decide +kernel) rfl (by decide +kernel) kw_77) <|
  am_c (ok_aload_n (k := 0) (by decide +kernel) rfl) <|
  am_c (ok_get (by decide +kernel) (by decide +kernel) rfl (by decide +kernel) kw_71) <|
  am_c (ok_alen (by decide +kernel)) <|
  am_c (ok_icmpge (off := 24) (by decide +kernel) (by decide +kernel)) <|
  am_c (ok_aload_n (k := 0) (by decide +kernel) rfl) <|
  am_c (ok_get (by decide +kernel) (by decide +kernel) rfl (by decide +kernel) kw_71) <|
  am_c (ok_aload_n (k := 0) (by decide +kernel) rfl) <|
  am_c (ok_get (by decide +kernel) (by decide +kernel) rfl (by decide +kernel) kw_77) <|
  am_c (ok_iload (by decide +kernel)) <|
  am_c (ok_iast (by decide +kernel)) <|
  am_c (ok_aload_n (k := 0) (by decide +kernel) rfl) <|
  am_c (ok_dup (by decide +kernel)) <|
  am_c (ok_get (by decide +kernel) (by decide +kernel) rfl (by decide +kernel) kw_77) <|
  am_c (ok_iconst (z := 1) (by decide +kernel) (by decide +kernel)) <|
  am_c (ok_iadd (by decide +kernel)) <|
  am_c (ok_putI (by decide +kernel) (by decide +kernel) rfl (by decide +kernel) kw_77 rfl) <|
  am_n
def k_c20_2 : List (Nat × am_A) := [(89, ac_iinc 4 (-8) 92), (92, ac_goto 28), (95, ac_push (.int 1) 96), (96, ac_zret)]
theorem k_p20_2 : ∀ q ∈ k_c20_2, am_Ok k_nm D cA B0 sb H00 (k_Th B0 sb H00) prog_5_method_6_code "TokenMouth$Reader" "append" [] (some .boolean) q.1 q.2 :=
  am_c (ok_iinc (z := (-8)) (by decide +kernel) (by decide +kernel)) <|
  am_c (ok_goto (off := -64) (by decide +kernel) (by decide +kernel)) <|
  am_c (ok_iconst (z := 1) (by decide +kernel) (by decide +kernel)) <|
  am_c (ok_zret (by decide +kernel) rfl) <|
  am_n
def k_t20 : List (Nat × List (Nat × am_A)) := [(41, k_c20_0), (86, k_c20_1), (96, k_c20_2)]
theorem k_o20 : ∀ c ∈ k_t20, ∀ q ∈ c.2, am_Ok k_nm D cA B0 sb H00 (k_Th B0 sb H00) prog_5_method_6_code "TokenMouth$Reader" "append" [] (some .boolean) q.1 q.2 := am_cc (P := fun pc a => am_Ok k_nm D cA B0 sb H00 (k_Th B0 sb H00) prog_5_method_6_code "TokenMouth$Reader" "append" [] (some .boolean) pc a) k_p20_0 <| am_cc (P := fun pc a => am_Ok k_nm D cA B0 sb H00 (k_Th B0 sb H00) prog_5_method_6_code "TokenMouth$Reader" "append" [] (some .boolean) pc a) k_p20_1 <| am_cc (P := fun pc a => am_Ok k_nm D cA B0 sb H00 (k_Th B0 sb H00) prog_5_method_6_code "TokenMouth$Reader" "append" [] (some .boolean) pc a) k_p20_2 <| am_cn0
-- 21: TokenMouth$Reader.read()I
def k_c21_0 : List (Nat × am_A) := [(0, ac_push (.int 0) 1), (1, ac_istore 1 2), (2, ac_iload 1 3), (3, ac_push (.int 160) 6), (6, ac_if2 (fun x y => y ≤ x) 313 9), (9, ac_aload 0 10), (10, ac_get 0 3 4 13), (13, ac_if1 (fun x => x < 0) 313 16), (16, ac_aload 0 17), (17, ac_get 0 3 4 20), (20, ac_aload 0 21), (21, ac_get 0 3 2 24), (24, ac_if2 (fun x y => y ≤ x) 313 27), (27, ac_aload 0 28), (28, ac_get 0 3 4 31), (31, ac_aload 0 32), (32, ac_get 2 3 0 35), (35, ac_alen 36), (36, ac_if2 (fun x y => y ≤ x) 313 39), (39, ac_aload 0 40), (40, ac_get 2 3 0 43), (43, ac_aload 0 44), (44, ac_get 0 3 4 47), (47, ac_iald 0 48)]
theorem k_p21_0 : ∀ q ∈ k_c21_0, am_Ok k_nm D cA B0 sb H00 (k_Th B0 sb H00) prog_5_method_7_code "TokenMouth$Reader" "read" [] (some .int) q.1 q.2 :=
  am_c (ok_iconst (z := 0) (by decide +kernel) (by decide +kernel)) <|
  am_c (ok_istore_n (k := 1) (by decide +kernel) rfl) <|
  am_c (ok_iload_n (k := 1) (by decide +kernel) rfl) <|
  am_c (ok_sipush (z := 160) (by decide +kernel) (by decide +kernel)) <|
  am_c (ok_icmpge (off := 307) (by decide +kernel) (by decide +kernel)) <|
  am_c (ok_aload_n (k := 0) (by decide +kernel) rfl) <|
  am_c (ok_get (by decide +kernel) (by decide +kernel) rfl (by decide +kernel) kw_78) <|
  am_c (ok_iflt (off := 300) (by decide +kernel) (by decide +kernel)) <|
  am_c (ok_aload_n (k := 0) (by decide +kernel) rfl) <|
  am_c (ok_get (by decide +kernel) (by decide +kernel) rfl (by decide +kernel) kw_78) <|
  am_c (ok_aload_n (k := 0) (by decide +kernel) rfl) <|
  am_c (ok_get (by decide +kernel) (by decide +kernel) rfl (by decide +kernel) kw_77) <|
  am_c (ok_icmpge (off := 289) (by decide +kernel) (by decide +kernel)) <|
  am_c (ok_aload_n (k := 0) (by decide +kernel) rfl) <|
  am_c (ok_get (by decide +kernel) (by decide +kernel) rfl (by decide +kernel) kw_78) <|
  am_c (ok_aload_n (k := 0) (by decide +kernel) rfl) <|
  am_c (ok_get (by decide +kernel) (by decide +kernel) rfl (by decide +kernel) kw_71) <|
  am_c (ok_alen (by decide +kernel)) <|
  am_c (ok_icmpge (off := 277) (by decide +kernel) (by decide +kernel)) <|
  am_c (ok_aload_n (k := 0) (by decide +kernel) rfl) <|
  am_c (ok_get (by decide +kernel) (by decide +kernel) rfl (by decide +kernel) kw_71) <|
  am_c (ok_aload_n (k := 0) (by decide +kernel) rfl) <|
  am_c (ok_get (by decide +kernel) (by decide +kernel) rfl (by decide +kernel) kw_78) <|
  am_c (ok_iald (by decide +kernel)) <|
  am_n
def k_c21_1 : List (Nat × am_A) := [(48, ac_istore 2 49), (49, ac_aload 0 50), (50, ac_dup 51), (51, ac_get 0 3 4 54), (54, ac_push (.int 1) 55), (55, ac_ii (fun x y => x + y) 56), (56, ac_putI 3 4 59), (59, ac_aload 0 60), (60, ac_get 2 3 1 63), (63, ac_iload 2 64), (64, ac_push (.int 127) 66), (66, ac_ii (fun x y => x &&& y) 67), (67, ac_iald 0 68), (68, ac_istore 3 69), (69, ac_aload 0 70), (70, ac_get 0 3 3 73), (73, ac_istore 4 75), (75, ac_iload 3 76), (76, ac_sw [(0, 156), (1, 294), (2, 294), (3, 294), (4, 294), (5, 159), (6, 294), (7, 294), (8, 294), (9, 247), (10, 250), (11, 294), (12, 294), (13, 265), (14, 159), (15, 286)] 294), (156, ac_push (.int (-2)) 158), (158, ac_iret), (159, ac_iload 2 160), (160, ac_istore 5 162), (162, ac_iload 5 164)]
theorem k_p21_1 : ∀ q ∈ k_c21_1, am_Ok k_nm D cA B0 sb H00 (k_Th B0 sb H00) prog_5_method_7_code "TokenMouth$Reader" "read" [] (some .int) q.1 q.2 :=
  am_c (ok_istore_n (k := 2) (by decide +kernel) rfl) <|
  am_c (ok_aload_n (k := 0) (by decide +kernel) rfl) <|
  am_c (ok_dup (by decide +kernel)) <|
  am_c (ok_get (by decide +kernel) (by decide +kernel) rfl (by decide +kernel) kw_78) <|
  am_c (ok_iconst (z := 1) (by decide +kernel) (by decide +kernel)) <|
  am_c (ok_iadd (by decide +kernel)) <|
  am_c (ok_putI (by decide +kernel) (by decide +kernel) rfl (by decide +kernel) kw_78 rfl) <|
  am_c (ok_aload_n (k := 0) (by decide +kernel) rfl) <|
  am_c (ok_get (by decide +kernel) (by decide +kernel) rfl (by decide +kernel) kw_72) <|
  am_c (ok_iload_n (k := 2) (by decide +kernel) rfl) <|
  am_c (ok_bipush (z := 127) (by decide +kernel) (by decide +kernel)) <|
  am_c (ok_iand (by decide +kernel)) <|
  am_c (ok_iald (by decide +kernel)) <|
  am_c (ok_istore_n (k := 3) (by decide +kernel) rfl) <|
  am_c (ok_aload_n (k := 0) (by decide +kernel) rfl) <|
  am_c (ok_get (by decide +kernel) (by decide +kernel) rfl (by decide +kernel) kw_79) <|
  am_c (ok_istore (by decide +kernel)) <|
  am_c (ok_iload_n (k := 3) (by decide +kernel) rfl) <|
  am_c (ok_sw (dflt := 218) (lo := 0) (hi := 15) (offs := #[80, 218, 218, 218, 218, 83, 218, 218, 218, 171, 174, 218, 218, 189, 83, 210]) (len := 80) (by decide +kernel) ⟨(by decide +kernel), (by decide +kernel), (by decide +kernel), (by decide +kernel), (by decide +kernel), (by decide +kernel), (by decide +kernel), (by decide +kernel), (by decide +kernel), (by decide +kernel), (by decide +kernel), (by decide +kernel), (by decide +kernel), (by decide +kernel), (by decide +kernel), (by decide +kernel), (by decide +kernel), (by decide +kernel), (by decide +kernel), (by decide +kernel), (by decide +kernel), (by decide +kernel), (by decide +kernel), (by decide +kernel), (by decide +kernel), (by decide +kernel), (by decide +kernel), (by decide +kernel), (by decide +kernel), (by decide +kernel), (by decide +kernel), (by decide +kernel), rfl⟩ (by decide +kernel) (by decide +kernel)) <|
  am_c (ok_bipush (z := -2) (by decide +kernel) (by decide +kernel)) <|
  am_c (ok_iret (by decide +kernel) rfl) <|
  am_c (ok_iload_n (k := 2) (by decide +kernel) rfl) <|
  am_c (ok_istore (by decide +kernel)) <|
  am_c (ok_iload (by decide +kernel)) <|
  am_n
def k_c21_2 : List (Nat × am_A) := [(164, ac_push (.int 10) 166), (166, ac_if2 (fun x y => x = y) 216 169), (169, ac_aload 0 170), (170, ac_get 0 3 4 173), (173, ac_aload 0 174), (174, ac_get 0 3 2 177), (177, ac_if2 (fun x y => y ≤ x) 216 180), (180, ac_aload 0 181), (181, ac_get 0 3 4 184), (184, ac_aload 0 185), (185, ac_get 2 3 0 188), (188, ac_alen 189), (189, ac_if2 (fun x y => y ≤ x) 216 192), (192, ac_aload 0 193), (193, ac_get 2 3 0 196), (196, ac_aload 0 197), (197, ac_get 0 3 4 200), (200, ac_iald 0 201), (201, ac_istore 5 203), (203, ac_aload 0 204), (204, ac_dup 205), (205, ac_get 0 3 4 208), (208, ac_push (.int 1) 209), (209, ac_ii (fun x y => x + y) 210)]
theorem k_p21_2 : ∀ q ∈ k_c21_2, am_Ok k_nm D cA B0 sb H00 (k_Th B0 sb H00) prog_5_method_7_code "TokenMouth$Reader" "read" [] (some .int) q.1 q.2 :=
  am_c (ok_bipush (z := 10) (by decide +kernel) (by decide +kernel)) <|
  am_c (ok_icmpeq (off := 50) (by decide +kernel) (by decide +kernel)) <|
  am_c (ok_aload_n (k := 0) (by decide +kernel) rfl) <|
  am_c (ok_get (by decide +kernel) (by decide +kernel) rfl (by decide +kernel) kw_78) <|
  am_c (ok_aload_n (k := 0) (by decide +kernel) rfl) <|
  am_c (ok_get (by decide +kernel) (by decide +kernel) rfl (by decide +kernel) kw_77) <|
  am_c (ok_icmpge (off := 39) (by decide +kernel) (by decide +kernel)) <|
  am_c (ok_aload_n (k := 0) (by decide +kernel) rfl) <|
  am_c (ok_get (by decide +kernel) (by decide +kernel) rfl (by decide +kernel) kw_78) <|
  am_c (ok_aload_n (k := 0) (by decide +kernel) rfl) <|
  am_c (ok_get (by decide +kernel) (by decide +kernel) rfl (by decide +kernel) kw_71) <|
  am_c (ok_alen (by decide +kernel)) <|
  am_c (ok_icmpge (off := 27) (by decide +kernel) (by decide +kernel)) <|
  am_c (ok_aload_n (k := 0) (by decide +kernel) rfl) <|
  am_c (ok_get (by decide +kernel) (by decide +kernel) rfl (by decide +kernel) kw_71) <|
  am_c (ok_aload_n (k := 0) (by decide +kernel) rfl) <|
  am_c (ok_get (by decide +kernel) (by decide +kernel) rfl (by decide +kernel) kw_78) <|
  am_c (ok_iald (by decide +kernel)) <|
  am_c (ok_istore (by decide +kernel)) <|
  am_c (ok_aload_n (k := 0) (by decide +kernel) rfl) <|
  am_c (ok_dup (by decide +kernel)) <|
  am_c (ok_get (by decide +kernel) (by decide +kernel) rfl (by decide +kernel) kw_78) <|
  am_c (ok_iconst (z := 1) (by decide +kernel) (by decide +kernel)) <|
  am_c (ok_iadd (by decide +kernel)) <|
  am_n
def k_c21_3 : List (Nat × am_A) := [(210, ac_putI 3 4 213), (213, ac_goto 162), (216, ac_aload 0 217), (217, ac_push (.int 0) 218), (218, ac_putI 3 3 221), (221, ac_iload 3 222), (222, ac_push (.int 5) 223), (223, ac_if2 (fun x y => ¬ x = y) 307 226), (226, ac_iload 4 228), (228, ac_push (.int 2) 229), (229, ac_if2 (fun x y => x = y) 307 232), (232, ac_iload 4 234), (234, ac_if1 (fun x => ¬ x = 0) 243 237), (237, ac_push (.int 4096) 240), (240, ac_goto 246), (243, ac_push (.int 2592) 246), (246, ac_iret), (247, ac_goto 307), (250, ac_iload 4 252), (252, ac_push (.int 1) 253), (253, ac_if2 (fun x y => ¬ x = y) 307 256), (256, ac_aload 0 257), (257, ac_push (.int 2) 258), (258, ac_putI 3 3 261)]
theorem k_p21_3 : ∀ q ∈ k_c21_3, am_Ok k_nm D cA B0 sb H00 (k_Th B0 sb H00) prog_5_method_7_code "TokenMouth$Reader" "read" [] (some .int) q.1 q.2 :=
  am_c (ok_putI (by decide +kernel) (by decide +kernel) rfl (by decide +kernel) kw_78 rfl) <|
  am_c (ok_goto (off := -51) (by decide +kernel) (by decide +kernel)) <|
  am_c (ok_aload_n (k := 0) (by decide +kernel) rfl) <|
  am_c (ok_iconst (z := 0) (by decide +kernel) (by decide +kernel)) <|
  am_c (ok_putI (by decide +kernel) (by decide +kernel) rfl (by decide +kernel) kw_79 rfl) <|
  am_c (ok_iload_n (k := 3) (by decide +kernel) rfl) <|
  am_c (ok_iconst (z := 5) (by decide +kernel) (by decide +kernel)) <|
  am_c (ok_icmpne (off := 84) (by decide +kernel) (by decide +kernel)) <|
  am_c (ok_iload (by decide +kernel)) <|
  am_c (ok_iconst (z := 2) (by decide +kernel) (by decide +kernel)) <|
  am_c (ok_icmpeq (off := 78) (by decide +kernel) (by decide +kernel)) <|
  am_c (ok_iload (by decide +kernel)) <|
  am_c (ok_ifne (off := 9) (by decide +kernel) (by decide +kernel)) <|
  am_c (ok_sipush (z := 4096) (by decide +kernel) (by decide +kernel)) <|
  am_c (ok_goto (off := 6) (by decide +kernel) (by decide +kernel)) <|
  am_c (ok_sipush (z := 2592) (by decide +kernel) (by decide +kernel)) <|
  am_c (ok_iret (by decide +kernel) rfl) <|
  am_c (ok_goto (off := 60) (by decide +kernel) (by decide +kernel)) <|
  am_c (ok_iload (by decide +kernel)) <|
  am_c (ok_iconst (z := 1) (by decide +kernel) (by decide +kernel)) <|
  am_c (ok_icmpne (off := 54) (by decide +kernel) (by decide +kernel)) <|
  am_c (ok_aload_n (k := 0) (by decide +kernel) rfl) <|
  am_c (ok_iconst (z := 2) (by decide +kernel) (by decide +kernel)) <|
  am_c (ok_putI (by decide +kernel) (by decide +kernel) rfl (by decide +kernel) kw_79 rfl) <|
  am_n
def k_c21_4 : List (Nat × am_A) := [(261, ac_push (.int 2592) 264), (264, ac_iret), (265, ac_aload 0 266), (266, ac_push (.int 1) 267), (267, ac_putI 3 3 270), (270, ac_aload 0 271), (271, ac_iload 2 272), (272, ac_il (fun x => x.toInt64) 273), (273, ac_putL 3 6 276), (276, ac_aload 0 277), (277, ac_push (.long (-1)) 280), (280, ac_putL 3 7 283), (283, ac_push (.int (-3)) 285), (285, ac_iret), (286, ac_aload 0 287), (287, ac_push (.int 8) 289), (289, ac_putI 3 5 292), (292, ac_push (.int (-1)) 293), (293, ac_iret), (294, ac_aload 0 295), (295, ac_push (.int 1) 296), (296, ac_putI 3 3 299), (299, ac_iload 2 300), (300, ac_push (.int 256) 303)]
theorem k_p21_4 : ∀ q ∈ k_c21_4, am_Ok k_nm D cA B0 sb H00 (k_Th B0 sb H00) prog_5_method_7_code "TokenMouth$Reader" "read" [] (some .int) q.1 q.2 :=
  am_c (ok_sipush (z := 2592) (by decide +kernel) (by decide +kernel)) <|
  am_c (ok_iret (by decide +kernel) rfl) <|
  am_c (ok_aload_n (k := 0) (by decide +kernel) rfl) <|
  am_c (ok_iconst (z := 1) (by decide +kernel) (by decide +kernel)) <|
  am_c (ok_putI (by decide +kernel) (by decide +kernel) rfl (by decide +kernel) kw_79 rfl) <|
  am_c (ok_aload_n (k := 0) (by decide +kernel) rfl) <|
  am_c (ok_iload_n (k := 2) (by decide +kernel) rfl) <|
  am_c (ok_i2l (by decide +kernel)) <|
  am_c (ok_putL (by decide +kernel) (by decide +kernel) rfl (by decide +kernel) kw_88 rfl) <|
  am_c (ok_aload_n (k := 0) (by decide +kernel) rfl) <|
  am_c (ok_ldc2 (by decide +kernel) kw_89) <|
  am_c (ok_putL (by decide +kernel) (by decide +kernel) rfl (by decide +kernel) kw_90 rfl) <|
  am_c (ok_bipush (z := -3) (by decide +kernel) (by decide +kernel)) <|
  am_c (ok_iret (by decide +kernel) rfl) <|
  am_c (ok_aload_n (k := 0) (by decide +kernel) rfl) <|
  am_c (ok_bipush (z := 8) (by decide +kernel) (by decide +kernel)) <|
  am_c (ok_putI (by decide +kernel) (by decide +kernel) rfl (by decide +kernel) kw_80 rfl) <|
  am_c (ok_iconst (z := -1) (by decide +kernel) (by decide +kernel)) <|
  am_c (ok_iret (by decide +kernel) rfl) <|
  am_c (ok_aload_n (k := 0) (by decide +kernel) rfl) <|
  am_c (ok_iconst (z := 1) (by decide +kernel) (by decide +kernel)) <|
  am_c (ok_putI (by decide +kernel) (by decide +kernel) rfl (by decide +kernel) kw_79 rfl) <|
  am_c (ok_iload_n (k := 2) (by decide +kernel) rfl) <|
  am_c (ok_sipush (z := 256) (by decide +kernel) (by decide +kernel)) <|
  am_n
def k_c21_5 : List (Nat × am_A) := [(303, ac_iload 3 304), (304, ac_ii (fun x y => x * y) 305), (305, ac_ii (fun x y => x + y) 306), (306, ac_iret), (307, ac_iinc 1 1 310), (310, ac_goto 2), (313, ac_push (.int (-1)) 314), (314, ac_iret)]
theorem k_p21_5 : ∀ q ∈ k_c21_5, am_Ok k_nm D cA B0 sb H00 (k_Th B0 sb H00) prog_5_method_7_code "TokenMouth$Reader" "read" [] (some .int) q.1 q.2 :=
  am_c (ok_iload_n (k := 3) (by decide +kernel) rfl) <|
  am_c (ok_imul (by decide +kernel)) <|
  am_c (ok_iadd (by decide +kernel)) <|
  am_c (ok_iret (by decide +kernel) rfl) <|
  am_c (ok_iinc (z := 1) (by decide +kernel) (by decide +kernel)) <|
  am_c (ok_goto (off := -308) (by decide +kernel) (by decide +kernel)) <|
  am_c (ok_iconst (z := -1) (by decide +kernel) (by decide +kernel)) <|
  am_c (ok_iret (by decide +kernel) rfl) <|
  am_n
def k_t21 : List (Nat × List (Nat × am_A)) := [(47, k_c21_0), (162, k_c21_1), (209, k_c21_2), (258, k_c21_3), (300, k_c21_4), (314, k_c21_5)]
theorem k_o21 : ∀ c ∈ k_t21, ∀ q ∈ c.2, am_Ok k_nm D cA B0 sb H00 (k_Th B0 sb H00) prog_5_method_7_code "TokenMouth$Reader" "read" [] (some .int) q.1 q.2 := am_cc (P := fun pc a => am_Ok k_nm D cA B0 sb H00 (k_Th B0 sb H00) prog_5_method_7_code "TokenMouth$Reader" "read" [] (some .int) pc a) k_p21_0 <| am_cc (P := fun pc a => am_Ok k_nm D cA B0 sb H00 (k_Th B0 sb H00) prog_5_method_7_code "TokenMouth$Reader" "read" [] (some .int) pc a) k_p21_1 <| am_cc (P := fun pc a => am_Ok k_nm D cA B0 sb H00 (k_Th B0 sb H00) prog_5_method_7_code "TokenMouth$Reader" "read" [] (some .int) pc a) k_p21_2 <| am_cc (P := fun pc a => am_Ok k_nm D cA B0 sb H00 (k_Th B0 sb H00) prog_5_method_7_code "TokenMouth$Reader" "read" [] (some .int) pc a) k_p21_3 <| am_cc (P := fun pc a => am_Ok k_nm D cA B0 sb H00 (k_Th B0 sb H00) prog_5_method_7_code "TokenMouth$Reader" "read" [] (some .int) pc a) k_p21_4 <| am_cc (P := fun pc a => am_Ok k_nm D cA B0 sb H00 (k_Th B0 sb H00) prog_5_method_7_code "TokenMouth$Reader" "read" [] (some .int) pc a) k_p21_5 <| am_cn0
-- 22: TokenMouth$Reader.readName()I
def k_c22_0 : List (Nat × am_A) := [(0, ac_aload 0 1), (1, ac_get 0 3 4 4), (4, ac_if1 (fun x => x < 0) 30 7), (7, ac_aload 0 8), (8, ac_get 0 3 4 11), (11, ac_aload 0 12), (12, ac_get 0 3 2 15), (15, ac_if2 (fun x y => y ≤ x) 30 18), (18, ac_aload 0 19), (19, ac_get 0 3 4 22), (22, ac_aload 0 23), (23, ac_get 2 3 0 26), (26, ac_alen 27), (27, ac_if2 (fun x y => x < y) 37 30), (30, ac_aload 0 31), (31, ac_push (.int 3) 32), (32, ac_putI 3 5 35), (35, ac_push (.int (-1)) 36), (36, ac_iret), (37, ac_aload 0 38), (38, ac_aload 0 39), (39, ac_get 2 3 0 42), (42, ac_aload 0 43), (43, ac_get 0 3 4 46)]
theorem k_p22_0 : ∀ q ∈ k_c22_0, am_Ok k_nm D cA B0 sb H00 (k_Th B0 sb H00) prog_5_method_8_code "TokenMouth$Reader" "readName" [] (some .int) q.1 q.2 :=
  am_c (ok_aload_n (k := 0) (by decide +kernel) rfl) <|
  am_c (ok_get (by decide +kernel) (by decide +kernel) rfl (by decide +kernel) kw_78) <|
  am_c (ok_iflt (off := 26) (by decide +kernel) (by decide +kernel)) <|
  am_c (ok_aload_n (k := 0) (by decide +kernel) rfl) <|
  am_c (ok_get (by decide +kernel) (by decide +kernel) rfl (by decide +kernel) kw_78) <|
  am_c (ok_aload_n (k := 0) (by decide +kernel) rfl) <|
  am_c (ok_get (by decide +kernel) (by decide +kernel) rfl (by decide +kernel) kw_77) <|
  am_c (ok_icmpge (off := 15) (by decide +kernel) (by decide +kernel)) <|
  am_c (ok_aload_n (k := 0) (by decide +kernel) rfl) <|
  am_c (ok_get (by decide +kernel) (by decide +kernel) rfl (by decide +kernel) kw_78) <|
  am_c (ok_aload_n (k := 0) (by decide +kernel) rfl) <|
  am_c (ok_get (by decide +kernel) (by decide +kernel) rfl (by decide +kernel) kw_71) <|
  am_c (ok_alen (by decide +kernel)) <|
  am_c (ok_icmplt (off := 10) (by decide +kernel) (by decide +kernel)) <|
  am_c (ok_aload_n (k := 0) (by decide +kernel) rfl) <|
  am_c (ok_iconst (z := 3) (by decide +kernel) (by decide +kernel)) <|
  am_c (ok_putI (by decide +kernel) (by decide +kernel) rfl (by decide +kernel) kw_80 rfl) <|
  am_c (ok_iconst (z := -1) (by decide +kernel) (by decide +kernel)) <|
  am_c (ok_iret (by decide +kernel) rfl) <|
  am_c (ok_aload_n (k := 0) (by decide +kernel) rfl) <|
  am_c (ok_aload_n (k := 0) (by decide +kernel) rfl) <|
  am_c (ok_get (by decide +kernel) (by decide +kernel) rfl (by decide +kernel) kw_71) <|
  am_c (ok_aload_n (k := 0) (by decide +kernel) rfl) <|
  am_c (ok_get (by decide +kernel) (by decide +kernel) rfl (by decide +kernel) kw_78) <|
  am_n
def k_c22_1 : List (Nat × am_A) := [(46, ac_iald 0 47), (47, ac_il (fun x => x.toInt64) 48), (48, ac_putL 3 6 51), (51, ac_aload 0 52), (52, ac_push (.long 0) 53), (53, ac_putL 3 7 56), (56, ac_aload 0 57), (57, ac_get 2 3 1 60), (60, ac_aload 0 61), (61, ac_get 2 3 0 64), (64, ac_aload 0 65), (65, ac_get 0 3 4 68), (68, ac_iald 0 69), (69, ac_push (.int 127) 71), (71, ac_ii (fun x y => x &&& y) 72), (72, ac_iald 0 73), (73, ac_istore 1 74), (74, ac_aload 0 75), (75, ac_dup 76), (76, ac_get 0 3 4 79), (79, ac_push (.int 1) 80), (80, ac_ii (fun x y => x + y) 81), (81, ac_putI 3 4 84), (84, ac_aload 0 85)]
theorem k_p22_1 : ∀ q ∈ k_c22_1, am_Ok k_nm D cA B0 sb H00 (k_Th B0 sb H00) prog_5_method_8_code "TokenMouth$Reader" "readName" [] (some .int) q.1 q.2 :=
  am_c (ok_iald (by decide +kernel)) <|
  am_c (ok_i2l (by decide +kernel)) <|
  am_c (ok_putL (by decide +kernel) (by decide +kernel) rfl (by decide +kernel) kw_88 rfl) <|
  am_c (ok_aload_n (k := 0) (by decide +kernel) rfl) <|
  am_c (ok_lconst (z := 0) (by decide +kernel) (by decide +kernel)) <|
  am_c (ok_putL (by decide +kernel) (by decide +kernel) rfl (by decide +kernel) kw_90 rfl) <|
  am_c (ok_aload_n (k := 0) (by decide +kernel) rfl) <|
  am_c (ok_get (by decide +kernel) (by decide +kernel) rfl (by decide +kernel) kw_72) <|
  am_c (ok_aload_n (k := 0) (by decide +kernel) rfl) <|
  am_c (ok_get (by decide +kernel) (by decide +kernel) rfl (by decide +kernel) kw_71) <|
  am_c (ok_aload_n (k := 0) (by decide +kernel) rfl) <|
  am_c (ok_get (by decide +kernel) (by decide +kernel) rfl (by decide +kernel) kw_78) <|
  am_c (ok_iald (by decide +kernel)) <|
  am_c (ok_bipush (z := 127) (by decide +kernel) (by decide +kernel)) <|
  am_c (ok_iand (by decide +kernel)) <|
  am_c (ok_iald (by decide +kernel)) <|
  am_c (ok_istore_n (k := 1) (by decide +kernel) rfl) <|
  am_c (ok_aload_n (k := 0) (by decide +kernel) rfl) <|
  am_c (ok_dup (by decide +kernel)) <|
  am_c (ok_get (by decide +kernel) (by decide +kernel) rfl (by decide +kernel) kw_78) <|
  am_c (ok_iconst (z := 1) (by decide +kernel) (by decide +kernel)) <|
  am_c (ok_iadd (by decide +kernel)) <|
  am_c (ok_putI (by decide +kernel) (by decide +kernel) rfl (by decide +kernel) kw_78 rfl) <|
  am_c (ok_aload_n (k := 0) (by decide +kernel) rfl) <|
  am_n
def k_c22_2 : List (Nat × am_A) := [(85, ac_iload 1 86), (86, ac_push (.int 11) 88), (88, ac_if2 (fun x y => x = y) 97 91), (91, ac_iload 1 92), (92, ac_push (.int 10) 94), (94, ac_if2 (fun x y => ¬ x = y) 101 97), (97, ac_push (.int 2) 98), (98, ac_goto 102), (101, ac_push (.int 1) 102), (102, ac_putI 3 3 105), (105, ac_iload 1 106), (106, ac_push (.int 11) 108), (108, ac_if2 (fun x y => x = y) 114 111), (111, ac_push (.int (-3)) 113), (113, ac_iret), (114, ac_push (.int 1) 115), (115, ac_istore 2 116), (116, ac_aload 0 117), (117, ac_get 0 3 4 120), (120, ac_aload 0 121), (121, ac_get 0 3 2 124), (124, ac_if2 (fun x y => y ≤ x) 228 127), (127, ac_aload 0 128), (128, ac_get 0 3 4 131)]
theorem k_p22_2 : ∀ q ∈ k_c22_2, am_Ok k_nm D cA B0 sb H00 (k_Th B0 sb H00) prog_5_method_8_code "TokenMouth$Reader" "readName" [] (some .int) q.1 q.2 :=
  am_c (ok_iload_n (k := 1) (by decide +kernel) rfl) <|
  am_c (ok_bipush (z := 11) (by decide +kernel) (by decide +kernel)) <|
  am_c (ok_icmpeq (off := 9) (by decide +kernel) (by decide +kernel)) <|
  am_c (ok_iload_n (k := 1) (by decide +kernel) rfl) <|
  am_c (ok_bipush (z := 10) (by decide +kernel) (by decide +kernel)) <|
  am_c (ok_icmpne (off := 7) (by decide +kernel) (by decide +kernel)) <|
  am_c (ok_iconst (z := 2) (by decide +kernel) (by decide +kernel)) <|
  am_c (ok_goto (off := 4) (by decide +kernel) (by decide +kernel)) <|
  am_c (ok_iconst (z := 1) (by decide +kernel) (by decide +kernel)) <|
  am_c (ok_putI (by decide +kernel) (by decide +kernel) rfl (by decide +kernel) kw_79 rfl) <|
  am_c (ok_iload_n (k := 1) (by decide +kernel) rfl) <|
  am_c (ok_bipush (z := 11) (by decide +kernel) (by decide +kernel)) <|
  am_c (ok_icmpeq (off := 6) (by decide +kernel) (by decide +kernel)) <|
  am_c (ok_bipush (z := -3) (by decide +kernel) (by decide +kernel)) <|
  am_c (ok_iret (by decide +kernel) rfl) <|
  am_c (ok_iconst (z := 1) (by decide +kernel) (by decide +kernel)) <|
  am_c (ok_istore_n (k := 2) (by decide +kernel) rfl) <|
  am_c (ok_aload_n (k := 0) (by decide +kernel) rfl) <|
  am_c (ok_get (by decide +kernel) (by decide +kernel) rfl (by decide +kernel) kw_78) <|
  am_c (ok_aload_n (k := 0) (by decide +kernel) rfl) <|
  am_c (ok_get (by decide +kernel) (by decide +kernel) rfl (by decide +kernel) kw_77) <|
  am_c (ok_icmpge (off := 104) (by decide +kernel) (by decide +kernel)) <|
  am_c (ok_aload_n (k := 0) (by decide +kernel) rfl) <|
  am_c (ok_get (by decide +kernel) (by decide +kernel) rfl (by decide +kernel) kw_78) <|
  am_n
def k_c22_3 : List (Nat × am_A) := [(131, ac_aload 0 132), (132, ac_get 2 3 0 135), (135, ac_alen 136), (136, ac_if2 (fun x y => y ≤ x) 228 139), (139, ac_aload 0 140), (140, ac_get 2 3 0 143), (143, ac_aload 0 144), (144, ac_get 0 3 4 147), (147, ac_iald 0 148), (148, ac_istore 3 149), (149, ac_aload 0 150), (150, ac_get 2 3 1 153), (153, ac_iload 3 154), (154, ac_push (.int 127) 156), (156, ac_ii (fun x y => x &&& y) 157), (157, ac_iald 0 158), (158, ac_push (.int 11) 160), (160, ac_if2 (fun x y => x = y) 166 163), (163, ac_push (.int (-3)) 165), (165, ac_iret), (166, ac_aload 0 167), (167, ac_dup 168), (168, ac_get 0 3 4 171), (171, ac_push (.int 1) 172)]
theorem k_p22_3 : ∀ q ∈ k_c22_3, am_Ok k_nm D cA B0 sb H00 (k_Th B0 sb H00) prog_5_method_8_code "TokenMouth$Reader" "readName" [] (some .int) q.1 q.2 :=
  am_c (ok_aload_n (k := 0) (by decide +kernel) rfl) <|
  am_c (ok_get (by decide +kernel) (by decide +kernel) rfl (by decide +kernel) kw_71) <|
  am_c (ok_alen (by decide +kernel)) <|
  am_c (ok_icmpge (off := 92) (by decide +kernel) (by decide +kernel)) <|
  am_c (ok_aload_n (k := 0) (by decide +kernel) rfl) <|
  am_c (ok_get (by decide +kernel) (by decide +kernel) rfl (by decide +kernel) kw_71) <|
  am_c (ok_aload_n (k := 0) (by decide +kernel) rfl) <|
  am_c (ok_get (by decide +kernel) (by decide +kernel) rfl (by decide +kernel) kw_78) <|
  am_c (ok_iald (by decide +kernel)) <|
  am_c (ok_istore_n (k := 3) (by decide +kernel) rfl) <|
  am_c (ok_aload_n (k := 0) (by decide +kernel) rfl) <|
  am_c (ok_get (by decide +kernel) (by decide +kernel) rfl (by decide +kernel) kw_72) <|
  am_c (ok_iload_n (k := 3) (by decide +kernel) rfl) <|
  am_c (ok_bipush (z := 127) (by decide +kernel) (by decide +kernel)) <|
  am_c (ok_iand (by decide +kernel)) <|
  am_c (ok_iald (by decide +kernel)) <|
  am_c (ok_bipush (z := 11) (by decide +kernel) (by decide +kernel)) <|
  am_c (ok_icmpeq (off := 6) (by decide +kernel) (by decide +kernel)) <|
  am_c (ok_bipush (z := -3) (by decide +kernel) (by decide +kernel)) <|
  am_c (ok_iret (by decide +kernel) rfl) <|
  am_c (ok_aload_n (k := 0) (by decide +kernel) rfl) <|
  am_c (ok_dup (by decide +kernel)) <|
  am_c (ok_get (by decide +kernel) (by decide +kernel) rfl (by decide +kernel) kw_78) <|
  am_c (ok_iconst (z := 1) (by decide +kernel) (by decide +kernel)) <|
  am_n
def k_c22_4 : List (Nat × am_A) := [(172, ac_ii (fun x y => x + y) 173), (173, ac_putI 3 4 176), (176, ac_iload 2 177), (177, ac_push (.int 11) 179), (179, ac_if2 (fun x y => ¬ x = y) 189 182), (182, ac_aload 0 183), (183, ac_push (.int 5) 184), (184, ac_putI 3 5 187), (187, ac_push (.int (-1)) 188), (188, ac_iret), (189, ac_aload 0 190), (190, ac_aload 0 191), (191, ac_get 1 3 7 194), (194, ac_push (.int 8) 196), (196, ac_li (fun x y => x <<< (y.toInt64 &&& 63)) 197), (197, ac_aload 0 198), (198, ac_get 1 3 6 201), (201, ac_push (.int 56) 203), (203, ac_li (fun x y => (x.toUInt64 >>> (y.toInt64.toUInt64 &&& Int64.toUInt64 63)).toInt64) 204), (204, ac_ll (fun x y => x ||| y) 205), (205, ac_putL 3 7 208), (208, ac_aload 0 209), (209, ac_aload 0 210), (210, ac_get 1 3 6 213)]
theorem k_p22_4 : ∀ q ∈ k_c22_4, am_Ok k_nm D cA B0 sb H00 (k_Th B0 sb H00) prog_5_method_8_code "TokenMouth$Reader" "readName" [] (some .int) q.1 q.2 :=
  am_c (ok_iadd (by decide +kernel)) <|
  am_c (ok_putI (by decide +kernel) (by decide +kernel) rfl (by decide +kernel) kw_78 rfl) <|
  am_c (ok_iload_n (k := 2) (by decide +kernel) rfl) <|
  am_c (ok_bipush (z := 11) (by decide +kernel) (by decide +kernel)) <|
  am_c (ok_icmpne (off := 10) (by decide +kernel) (by decide +kernel)) <|
  am_c (ok_aload_n (k := 0) (by decide +kernel) rfl) <|
  am_c (ok_iconst (z := 5) (by decide +kernel) (by decide +kernel)) <|
  am_c (ok_putI (by decide +kernel) (by decide +kernel) rfl (by decide +kernel) kw_80 rfl) <|
  am_c (ok_iconst (z := -1) (by decide +kernel) (by decide +kernel)) <|
  am_c (ok_iret (by decide +kernel) rfl) <|
  am_c (ok_aload_n (k := 0) (by decide +kernel) rfl) <|
  am_c (ok_aload_n (k := 0) (by decide +kernel) rfl) <|
  am_c (ok_get (by decide +kernel) (by decide +kernel) rfl (by decide +kernel) kw_90) <|
  am_c (ok_bipush (z := 8) (by decide +kernel) (by decide +kernel)) <|
  am_c (ok_lshl (by decide +kernel)) <|
  am_c (ok_aload_n (k := 0) (by decide +kernel) rfl) <|
  am_c (ok_get (by decide +kernel) (by decide +kernel) rfl (by decide +kernel) kw_88) <|
  am_c (ok_bipush (z := 56) (by decide +kernel) (by decide +kernel)) <|
  am_c (ok_lushr (by decide +kernel)) <|
  am_c (ok_lor (by decide +kernel)) <|
  am_c (ok_putL (by decide +kernel) (by decide +kernel) rfl (by decide +kernel) kw_90 rfl) <|
  am_c (ok_aload_n (k := 0) (by decide +kernel) rfl) <|
  am_c (ok_aload_n (k := 0) (by decide +kernel) rfl) <|
  am_c (ok_get (by decide +kernel) (by decide +kernel) rfl (by decide +kernel) kw_88) <|
  am_n
def k_c22_5 : List (Nat × am_A) := [(213, ac_push (.int 8) 215), (215, ac_li (fun x y => x <<< (y.toInt64 &&& 63)) 216), (216, ac_iload 3 217), (217, ac_il (fun x => x.toInt64) 218), (218, ac_ll (fun x y => x ||| y) 219), (219, ac_putL 3 6 222), (222, ac_iinc 2 1 225), (225, ac_goto 116), (228, ac_push (.int (-3)) 230), (230, ac_iret)]
theorem k_p22_5 : ∀ q ∈ k_c22_5, am_Ok k_nm D cA B0 sb H00 (k_Th B0 sb H00) prog_5_method_8_code "TokenMouth$Reader" "readName" [] (some .int) q.1 q.2 :=
  am_c (ok_bipush (z := 8) (by decide +kernel) (by decide +kernel)) <|
  am_c (ok_lshl (by decide +kernel)) <|
  am_c (ok_iload_n (k := 3) (by decide +kernel) rfl) <|
  am_c (ok_i2l (by decide +kernel)) <|
  am_c (ok_lor (by decide +kernel)) <|
  am_c (ok_putL (by decide +kernel) (by decide +kernel) rfl (by decide +kernel) kw_88 rfl) <|
  am_c (ok_iinc (z := 1) (by decide +kernel) (by decide +kernel)) <|
  am_c (ok_goto (off := -109) (by decide +kernel) (by decide +kernel)) <|
  am_c (ok_bipush (z := -3) (by decide +kernel) (by decide +kernel)) <|
  am_c (ok_iret (by decide +kernel) rfl) <|
  am_n
def k_t22 : List (Nat × List (Nat × am_A)) := [(43, k_c22_0), (84, k_c22_1), (128, k_c22_2), (171, k_c22_3), (210, k_c22_4), (230, k_c22_5)]
theorem k_o22 : ∀ c ∈ k_t22, ∀ q ∈ c.2, am_Ok k_nm D cA B0 sb H00 (k_Th B0 sb H00) prog_5_method_8_code "TokenMouth$Reader" "readName" [] (some .int) q.1 q.2 := am_cc (P := fun pc a => am_Ok k_nm D cA B0 sb H00 (k_Th B0 sb H00) prog_5_method_8_code "TokenMouth$Reader" "readName" [] (some .int) pc a) k_p22_0 <| am_cc (P := fun pc a => am_Ok k_nm D cA B0 sb H00 (k_Th B0 sb H00) prog_5_method_8_code "TokenMouth$Reader" "readName" [] (some .int) pc a) k_p22_1 <| am_cc (P := fun pc a => am_Ok k_nm D cA B0 sb H00 (k_Th B0 sb H00) prog_5_method_8_code "TokenMouth$Reader" "readName" [] (some .int) pc a) k_p22_2 <| am_cc (P := fun pc a => am_Ok k_nm D cA B0 sb H00 (k_Th B0 sb H00) prog_5_method_8_code "TokenMouth$Reader" "readName" [] (some .int) pc a) k_p22_3 <| am_cc (P := fun pc a => am_Ok k_nm D cA B0 sb H00 (k_Th B0 sb H00) prog_5_method_8_code "TokenMouth$Reader" "readName" [] (some .int) pc a) k_p22_4 <| am_cc (P := fun pc a => am_Ok k_nm D cA B0 sb H00 (k_Th B0 sb H00) prog_5_method_8_code "TokenMouth$Reader" "readName" [] (some .int) pc a) k_p22_5 <| am_cn0
end
