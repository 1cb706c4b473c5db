/-! tables of the methods 78 to 89; printed by wip/whole/emit.py -/
section
variable {D : va_G} {cA : Nat → ClassId} {B0 : Nat} {sb : Nat → Option Nat} {H00 : Heap}
-- 78: TokenMouth.define(IZ)V
def k_c78_0 : List (Nat × am_A) := [(0, ac_aload 0 1), (1, ac_get 0 5 9 4), (4, ac_if1 (fun x => x < 0) 19 7), (7, ac_aload 0 8), (8, ac_get 0 5 9 11), (11, ac_aload 0 12), (12, ac_get 2 5 7 15), (15, ac_alen 16), (16, ac_if2 (fun x y => x < y) 26 19), (19, ac_aload 0 20), (20, ac_push (.int 5) 21), (21, ac_callV 5 48 2 24 am_nohd), (24, ac_pop 25), (25, ac_ret), (26, ac_aload 0 27), (27, ac_get 2 5 7 30), (30, ac_aload 0 31), (31, ac_get 0 5 9 34), (34, ac_aald 4 35), (35, ac_astore 3 36), (36, ac_aload 0 37), (37, ac_get 2 5 7 40), (40, ac_aload 0 41), (41, ac_get 0 5 9 44)]
theorem k_p78_0 : ∀ q ∈ k_c78_0, am_Ok k_nm D cA B0 sb H00 (k_Th B0 sb H00) prog_1_method_43_code "TokenMouth" "define" [] none q.1 q.2 :=
  am_c (ok_aload_n (k := 0) (by decide +kernel) rfl) <|
  am_c (ok_get (by decide +kernel) (by decide +kernel) rfl (by decide +kernel) kw_172) <|
  am_c (ok_iflt (off := 15) (by decide +kernel) (by decide +kernel)) <|
  am_c (ok_aload_n (k := 0) (by decide +kernel) rfl) <|
  am_c (ok_get (by decide +kernel) (by decide +kernel) rfl (by decide +kernel) kw_172) <|
  am_c (ok_aload_n (k := 0) (by decide +kernel) rfl) <|
  am_c (ok_get (by decide +kernel) (by decide +kernel) rfl (by decide +kernel) kw_133) <|
  am_c (ok_alen (by decide +kernel)) <|
  am_c (ok_icmplt (off := 10) (by decide +kernel) (by decide +kernel)) <|
  am_c (ok_aload_n (k := 0) (by decide +kernel) rfl) <|
  am_c (ok_iconst (z := 5) (by decide +kernel) (by decide +kernel)) <|
  am_c (ok_callV (by decide +kernel) (by decide +kernel) kw_230 kw_231 kw_232 kw_229 (by decide +kernel) (by decide +kernel)) <|
  am_c (ok_pop (by decide +kernel)) <|
  am_c (ok_ret (by decide +kernel) rfl) <|
  am_c (ok_aload_n (k := 0) (by decide +kernel) rfl) <|
  am_c (ok_get (by decide +kernel) (by decide +kernel) rfl (by decide +kernel) kw_133) <|
  am_c (ok_aload_n (k := 0) (by decide +kernel) rfl) <|
  am_c (ok_get (by decide +kernel) (by decide +kernel) rfl (by decide +kernel) kw_172) <|
  am_c (ok_aald (by decide +kernel) (by decide +kernel)) <|
  am_c (ok_astore_n (k := 3) (by decide +kernel) rfl) <|
  am_c (ok_aload_n (k := 0) (by decide +kernel) rfl) <|
  am_c (ok_get (by decide +kernel) (by decide +kernel) rfl (by decide +kernel) kw_133) <|
  am_c (ok_aload_n (k := 0) (by decide +kernel) rfl) <|
  am_c (ok_get (by decide +kernel) (by decide +kernel) rfl (by decide +kernel) kw_172) <|
  am_n
def k_c78_1 : List (Nat × am_A) := [(44, ac_aload 0 45), (45, ac_get 2 5 8 48), (48, ac_aast 4 1 49), (49, ac_aload 0 50), (50, ac_aload 3 51), (51, ac_putR 5 8 54), (54, ac_push (.int 4096) 57), (57, ac_aload 0 58), (58, ac_get 0 5 9 61), (61, ac_ii (fun x y => x + y) 62), (62, ac_istore 4 64), (64, ac_aload 0 65), (65, ac_dup 66), (66, ac_get 0 5 9 69), (69, ac_push (.int 1) 70), (70, ac_ii (fun x y => x + y) 71), (71, ac_putI 5 9 74), (74, ac_iload 2 75), (75, ac_if1 (fun x => x = 0) 98 78), (78, ac_aload 0 79), (79, ac_get 2 5 2 82), (82, ac_iload 1 83), (83, ac_iload 4 85), (85, ac_callV 0 4 3 88 am_nohd)]
theorem k_p78_1 : ∀ q ∈ k_c78_1, am_Ok k_nm D cA B0 sb H00 (k_Th B0 sb H00) prog_1_method_43_code "TokenMouth" "define" [] none q.1 q.2 :=
  am_c (ok_aload_n (k := 0) (by decide +kernel) rfl) <|
  am_c (ok_get (by decide +kernel) (by decide +kernel) rfl (by decide +kernel) kw_139) <|
  am_c (ok_aast (by decide +kernel) (by decide +kernel) rfl (by decide +kernel)) <|
  am_c (ok_aload_n (k := 0) (by decide +kernel) rfl) <|
  am_c (ok_aload_n (k := 3) (by decide +kernel) rfl) <|
  am_c (ok_putR (by decide +kernel) (by decide +kernel) (ty := (.object "TokenMouth$Macro")) rfl rfl (fun _ => ⟨rfl, rfl⟩) (by decide +kernel) kw_139 (Or.inl rfl)) <|
  am_c (ok_sipush (z := 4096) (by decide +kernel) (by decide +kernel)) <|
  am_c (ok_aload_n (k := 0) (by decide +kernel) rfl) <|
  am_c (ok_get (by decide +kernel) (by decide +kernel) rfl (by decide +kernel) kw_172) <|
  am_c (ok_iadd (by decide +kernel)) <|
  am_c (ok_istore (by decide +kernel)) <|
  am_c (ok_aload_n (k := 0) (by decide +kernel) rfl) <|
  am_c (ok_dup (by decide +kernel)) <|
  am_c (ok_get (by decide +kernel) (by decide +kernel) rfl (by decide +kernel) kw_172) <|
  am_c (ok_iconst (z := 1) (by decide +kernel) (by decide +kernel)) <|
  am_c (ok_iadd (by decide +kernel)) <|
  am_c (ok_putI (by decide +kernel) (by decide +kernel) rfl (by decide +kernel) kw_172 rfl) <|
  am_c (ok_iload_n (k := 2) (by decide +kernel) rfl) <|
  am_c (ok_ifeq (off := 23) (by decide +kernel) (by decide +kernel)) <|
  am_c (ok_aload_n (k := 0) (by decide +kernel) rfl) <|
  am_c (ok_get (by decide +kernel) (by decide +kernel) rfl (by decide +kernel) kw_125) <|
  am_c (ok_iload_n (k := 1) (by decide +kernel) rfl) <|
  am_c (ok_iload (by decide +kernel)) <|
  am_c (ok_callV (by decide +kernel) (by decide +kernel) kw_340 kw_341 kw_342 kw_339 (by decide +kernel) (by decide +kernel)) <|
  am_n
def k_c78_2 : List (Nat × am_A) := [(88, ac_aload 0 89), (89, ac_iload 1 90), (90, ac_iload 4 92), (92, ac_callV 5 68 3 95 am_nohd), (95, ac_goto 105), (98, ac_aload 0 99), (99, ac_iload 1 100), (100, ac_iload 4 102), (102, ac_callV 5 69 3 105 am_nohd), (105, ac_ret)]
theorem k_p78_2 : ∀ q ∈ k_c78_2, am_Ok k_nm D cA B0 sb H00 (k_Th B0 sb H00) prog_1_method_43_code "TokenMouth" "define" [] none q.1 q.2 :=
  am_c (ok_aload_n (k := 0) (by decide +kernel) rfl) <|
  am_c (ok_iload_n (k := 1) (by decide +kernel) rfl) <|
  am_c (ok_iload (by decide +kernel)) <|
  am_c (ok_callV (by decide +kernel) (by decide +kernel) kw_289 kw_290 kw_291 kw_288 (by decide +kernel) (by decide +kernel)) <|
  am_c (ok_goto (off := 10) (by decide +kernel) (by decide +kernel)) <|
  am_c (ok_aload_n (k := 0) (by decide +kernel) rfl) <|
  am_c (ok_iload_n (k := 1) (by decide +kernel) rfl) <|
  am_c (ok_iload (by decide +kernel)) <|
  am_c (ok_callV (by decide +kernel) (by decide +kernel) kw_308 kw_309 kw_310 kw_307 (by decide +kernel) (by decide +kernel)) <|
  am_c (ok_ret (by decide +kernel) rfl) <|
  am_n
def k_t78 : List (Nat × List (Nat × am_A)) := [(41, k_c78_0), (85, k_c78_1), (105, k_c78_2)]
theorem k_o78 : ∀ c ∈ k_t78, ∀ q ∈ c.2, am_Ok k_nm D cA B0 sb H00 (k_Th B0 sb H00) prog_1_method_43_code "TokenMouth" "define" [] none q.1 q.2 := am_cc (P := fun pc a => am_Ok k_nm D cA B0 sb H00 (k_Th B0 sb H00) prog_1_method_43_code "TokenMouth" "define" [] none pc a) k_p78_0 <| am_cc (P := fun pc a => am_Ok k_nm D cA B0 sb H00 (k_Th B0 sb H00) prog_1_method_43_code "TokenMouth" "define" [] none pc a) k_p78_1 <| am_cc (P := fun pc a => am_Ok k_nm D cA B0 sb H00 (k_Th B0 sb H00) prog_1_method_43_code "TokenMouth" "define" [] none pc a) k_p78_2 <| am_cn0
-- 79: TokenMouth.expand(I)V
def k_c79_0 : List (Nat × am_A) := [(0, ac_aload 0 1), (1, ac_get 0 5 12 4), (4, ac_push (.int 200) 7), (7, ac_if2 (fun x y => y ≤ x) 19 10), (10, ac_aload 0 11), (11, ac_get 0 5 13 14), (14, ac_push (.int 30) 16), (16, ac_if2 (fun x y => x < y) 25 19), (19, ac_aload 0 20), (20, ac_push (.int 5) 21), (21, ac_callV 5 48 2 24 am_nohd), (24, ac_pop 25), (25, ac_aload 0 26), (26, ac_dup 27), (27, ac_get 0 5 12 30), (30, ac_push (.int 1) 31), (31, ac_ii (fun x y => x + y) 32), (32, ac_putI 5 12 35), (35, ac_aload 0 36), (36, ac_dup 37), (37, ac_get 0 5 13 40), (40, ac_push (.int 1) 41), (41, ac_ii (fun x y => x + y) 42), (42, ac_putI 5 13 45)]
theorem k_p79_0 : ∀ q ∈ k_c79_0, am_Ok k_nm D cA B0 sb H00 (k_Th B0 sb H00) prog_1_method_44_code "TokenMouth" "expand" [] none q.1 q.2 :=
  am_c (ok_aload_n (k := 0) (by decide +kernel) rfl) <|
  am_c (ok_get (by decide +kernel) (by decide +kernel) rfl (by decide +kernel) kw_154) <|
  am_c (ok_sipush (z := 200) (by decide +kernel) (by decide +kernel)) <|
  am_c (ok_icmpge (off := 12) (by decide +kernel) (by decide +kernel)) <|
  am_c (ok_aload_n (k := 0) (by decide +kernel) rfl) <|
  am_c (ok_get (by decide +kernel) (by decide +kernel) rfl (by decide +kernel) kw_155) <|
  am_c (ok_bipush (z := 30) (by decide +kernel) (by decide +kernel)) <|
  am_c (ok_icmplt (off := 9) (by decide +kernel) (by decide +kernel)) <|
  am_c (ok_aload_n (k := 0) (by decide +kernel) rfl) <|
  am_c (ok_iconst (z := 5) (by decide +kernel) (by decide +kernel)) <|
  am_c (ok_callV (by decide +kernel) (by decide +kernel) kw_230 kw_231 kw_232 kw_229 (by decide +kernel) (by decide +kernel)) <|
  am_c (ok_pop (by decide +kernel)) <|
  am_c (ok_aload_n (k := 0) (by decide +kernel) rfl) <|
  am_c (ok_dup (by decide +kernel)) <|
  am_c (ok_get (by decide +kernel) (by decide +kernel) rfl (by decide +kernel) kw_154) <|
  am_c (ok_iconst (z := 1) (by decide +kernel) (by decide +kernel)) <|
  am_c (ok_iadd (by decide +kernel)) <|
  am_c (ok_putI (by decide +kernel) (by decide +kernel) rfl (by decide +kernel) kw_154 rfl) <|
  am_c (ok_aload_n (k := 0) (by decide +kernel) rfl) <|
  am_c (ok_dup (by decide +kernel)) <|
  am_c (ok_get (by decide +kernel) (by decide +kernel) rfl (by decide +kernel) kw_155) <|
  am_c (ok_iconst (z := 1) (by decide +kernel) (by decide +kernel)) <|
  am_c (ok_iadd (by decide +kernel)) <|
  am_c (ok_putI (by decide +kernel) (by decide +kernel) rfl (by decide +kernel) kw_155 rfl) <|
  am_n
def k_c79_1 : List (Nat × am_A) := [(45, ac_iload 1 46), (46, ac_sw [(8, 104), (9, 111), (10, 118), (11, 200), (12, 125), (13, 132), (14, 132), (15, 132), (16, 132), (17, 148), (18, 173)] 200), (104, ac_aload 0 105), (105, ac_callV 5 83 1 108 am_nohd), (108, ac_goto 272), (111, ac_aload 0 112), (112, ac_callV 5 84 1 115 am_nohd), (115, ac_goto 272), (118, ac_aload 0 119), (119, ac_callV 5 85 1 122 am_nohd), (122, ac_goto 272), (125, ac_aload 0 126), (126, ac_callV 5 86 1 129 am_nohd), (129, ac_goto 272), (132, ac_aload 0 133), (133, ac_iload 1 134), (134, ac_callV 5 88 2 137 am_nohd), (137, ac_if1 (fun x => ¬ x = 0) 272 140), (140, ac_aload 0 141), (141, ac_push (.int 1) 142), (142, ac_callV 5 89 2 145 am_nohd), (145, ac_goto 272), (148, ac_aload 0 149), (149, ac_get 2 5 5 152)]
theorem k_p79_1 : ∀ q ∈ k_c79_1, am_Ok k_nm D cA B0 sb H00 (k_Th B0 sb H00) prog_1_method_44_code "TokenMouth" "expand" [] none q.1 q.2 :=
  am_c (ok_iload_n (k := 1) (by decide +kernel) rfl) <|
  am_c (ok_sw (dflt := 154) (lo := 8) (hi := 18) (offs := #[58, 65, 72, 154, 79, 86, 86, 86, 86, 102, 127]) (len := 58) (by decide +kernel) ⟨(by decide +kernel), (by decide +kernel), (by decide +kernel), (by decide +kernel), (by decide +kernel), (by decide +kernel), (by decide +kernel), (by decide +kernel), (by decide +kernel), (by decide +kernel), (by decide +kernel), (by decide +kernel), (by decide +kernel), (by decide +kernel), (by decide +kernel), (by decide +kernel), (by decide +kernel), (by decide +kernel), (by decide +kernel), (by decide +kernel), (by decide +kernel), (by decide +kernel), rfl⟩ (by decide +kernel) (by decide +kernel)) <|
  am_c (ok_aload_n (k := 0) (by decide +kernel) rfl) <|
  am_c (ok_callV (by decide +kernel) (by decide +kernel) kw_344 kw_345 kw_346 kw_343 (by decide +kernel) (by decide +kernel)) <|
  am_c (ok_goto (off := 164) (by decide +kernel) (by decide +kernel)) <|
  am_c (ok_aload_n (k := 0) (by decide +kernel) rfl) <|
  am_c (ok_callV (by decide +kernel) (by decide +kernel) kw_348 kw_349 kw_350 kw_347 (by decide +kernel) (by decide +kernel)) <|
  am_c (ok_goto (off := 157) (by decide +kernel) (by decide +kernel)) <|
  am_c (ok_aload_n (k := 0) (by decide +kernel) rfl) <|
  am_c (ok_callV (by decide +kernel) (by decide +kernel) kw_352 kw_353 kw_354 kw_351 (by decide +kernel) (by decide +kernel)) <|
  am_c (ok_goto (off := 150) (by decide +kernel) (by decide +kernel)) <|
  am_c (ok_aload_n (k := 0) (by decide +kernel) rfl) <|
  am_c (ok_callV (by decide +kernel) (by decide +kernel) kw_356 kw_357 kw_358 kw_355 (by decide +kernel) (by decide +kernel)) <|
  am_c (ok_goto (off := 143) (by decide +kernel) (by decide +kernel)) <|
  am_c (ok_aload_n (k := 0) (by decide +kernel) rfl) <|
  am_c (ok_iload_n (k := 1) (by decide +kernel) rfl) <|
  am_c (ok_callV (by decide +kernel) (by decide +kernel) kw_360 kw_361 kw_362 kw_359 (by decide +kernel) (by decide +kernel)) <|
  am_c (ok_ifne (off := 135) (by decide +kernel) (by decide +kernel)) <|
  am_c (ok_aload_n (k := 0) (by decide +kernel) rfl) <|
  am_c (ok_iconst (z := 1) (by decide +kernel) (by decide +kernel)) <|
  am_c (ok_callV (by decide +kernel) (by decide +kernel) kw_364 kw_365 kw_366 kw_363 (by decide +kernel) (by decide +kernel)) <|
  am_c (ok_goto (off := 127) (by decide +kernel) (by decide +kernel)) <|
  am_c (ok_aload_n (k := 0) (by decide +kernel) rfl) <|
  am_c (ok_get (by decide +kernel) (by decide +kernel) rfl (by decide +kernel) kw_130) <|
  am_n
def k_c79_2 : List (Nat × am_A) := [(152, ac_callV 4 26 1 155 am_nohd), (155, ac_push (.int 1) 156), (156, ac_if2 (fun x y => x = y) 165 159), (159, ac_aload 0 160), (160, ac_push (.int 1) 161), (161, ac_callV 5 48 2 164 am_nohd), (164, ac_pop 165), (165, ac_aload 0 166), (166, ac_push (.int 0) 167), (167, ac_callV 5 89 2 170 am_nohd), (170, ac_goto 272), (173, ac_aload 0 174), (174, ac_get 2 5 5 177), (177, ac_callV 4 26 1 180 am_nohd), (180, ac_if1 (fun x => 0 < x) 189 183), (183, ac_aload 0 184), (184, ac_push (.int 1) 185), (185, ac_callV 5 48 2 188 am_nohd), (188, ac_pop 189), (189, ac_aload 0 190), (190, ac_get 2 5 5 193), (193, ac_callV 4 28 1 196 am_nohd), (196, ac_pop 197), (197, ac_goto 272)]
theorem k_p79_2 : ∀ q ∈ k_c79_2, am_Ok k_nm D cA B0 sb H00 (k_Th B0 sb H00) prog_1_method_44_code "TokenMouth" "expand" [] none q.1 q.2 :=
  am_c (ok_callV (by decide +kernel) (by decide +kernel) kw_367 kw_25 kw_26 kw_23 (by decide +kernel) (by decide +kernel)) <|
  am_c (ok_iconst (z := 1) (by decide +kernel) (by decide +kernel)) <|
  am_c (ok_icmpeq (off := 9) (by decide +kernel) (by decide +kernel)) <|
  am_c (ok_aload_n (k := 0) (by decide +kernel) rfl) <|
  am_c (ok_iconst (z := 1) (by decide +kernel) (by decide +kernel)) <|
  am_c (ok_callV (by decide +kernel) (by decide +kernel) kw_230 kw_231 kw_232 kw_229 (by decide +kernel) (by decide +kernel)) <|
  am_c (ok_pop (by decide +kernel)) <|
  am_c (ok_aload_n (k := 0) (by decide +kernel) rfl) <|
  am_c (ok_iconst (z := 0) (by decide +kernel) (by decide +kernel)) <|
  am_c (ok_callV (by decide +kernel) (by decide +kernel) kw_364 kw_365 kw_366 kw_363 (by decide +kernel) (by decide +kernel)) <|
  am_c (ok_goto (off := 102) (by decide +kernel) (by decide +kernel)) <|
  am_c (ok_aload_n (k := 0) (by decide +kernel) rfl) <|
  am_c (ok_get (by decide +kernel) (by decide +kernel) rfl (by decide +kernel) kw_130) <|
  am_c (ok_callV (by decide +kernel) (by decide +kernel) kw_367 kw_25 kw_26 kw_23 (by decide +kernel) (by decide +kernel)) <|
  am_c (ok_ifgt (off := 9) (by decide +kernel) (by decide +kernel)) <|
  am_c (ok_aload_n (k := 0) (by decide +kernel) rfl) <|
  am_c (ok_iconst (z := 1) (by decide +kernel) (by decide +kernel)) <|
  am_c (ok_callV (by decide +kernel) (by decide +kernel) kw_230 kw_231 kw_232 kw_229 (by decide +kernel) (by decide +kernel)) <|
  am_c (ok_pop (by decide +kernel)) <|
  am_c (ok_aload_n (k := 0) (by decide +kernel) rfl) <|
  am_c (ok_get (by decide +kernel) (by decide +kernel) rfl (by decide +kernel) kw_130) <|
  am_c (ok_callV (by decide +kernel) (by decide +kernel) kw_217 kw_218 kw_219 kw_216 (by decide +kernel) (by decide +kernel)) <|
  am_c (ok_pop (by decide +kernel)) <|
  am_c (ok_goto (off := 75) (by decide +kernel) (by decide +kernel)) <|
  am_n
def k_c79_3 : List (Nat × am_A) := [(200, ac_aload 0 201), (201, ac_iload 1 202), (202, ac_callV 5 58 2 205 am_nohd), (205, ac_astore 2 206), (206, ac_aload 2 207), (207, ac_ifnull 272 210), (210, ac_aload 0 211), (211, ac_aload 2 212), (212, ac_get 2 1 0 215), (215, ac_callV 5 80 2 218 am_nohd), (218, ac_istore 3 219), (219, ac_push (.int 0) 220), (220, ac_istore 4 222), (222, ac_iload 4 224), (224, ac_aload 2 225), (225, ac_get 0 1 2 228), (228, ac_if2 (fun x y => y ≤ x) 264 231), (231, ac_iload 4 233), (233, ac_aload 0 234), (234, ac_get 2 5 6 237), (237, ac_alen 238), (238, ac_if2 (fun x y => y ≤ x) 264 241), (241, ac_aload 0 242), (242, ac_aload 2 243)]
theorem k_p79_3 : ∀ q ∈ k_c79_3, am_Ok k_nm D cA B0 sb H00 (k_Th B0 sb H00) prog_1_method_44_code "TokenMouth" "expand" [] none q.1 q.2 :=
  am_c (ok_aload_n (k := 0) (by decide +kernel) rfl) <|
  am_c (ok_iload_n (k := 1) (by decide +kernel) rfl) <|
  am_c (ok_callV (by decide +kernel) (by decide +kernel) kw_185 kw_186 kw_187 kw_184 (by decide +kernel) (by decide +kernel)) <|
  am_c (ok_astore_n (k := 2) (by decide +kernel) rfl) <|
  am_c (ok_aload_n (k := 2) (by decide +kernel) rfl) <|
  am_c (ok_ifnull (off := 65) (by decide +kernel) (by decide +kernel)) <|
  am_c (ok_aload_n (k := 0) (by decide +kernel) rfl) <|
  am_c (ok_aload_n (k := 2) (by decide +kernel) rfl) <|
  am_c (ok_get (by decide +kernel) (by decide +kernel) rfl (by decide +kernel) kw_189) <|
  am_c (ok_callV (by decide +kernel) (by decide +kernel) kw_369 kw_370 kw_371 kw_368 (by decide +kernel) (by decide +kernel)) <|
  am_c (ok_istore_n (k := 3) (by decide +kernel) rfl) <|
  am_c (ok_iconst (z := 0) (by decide +kernel) (by decide +kernel)) <|
  am_c (ok_istore (by decide +kernel)) <|
  am_c (ok_iload (by decide +kernel)) <|
  am_c (ok_aload_n (k := 2) (by decide +kernel) rfl) <|
  am_c (ok_get (by decide +kernel) (by decide +kernel) rfl (by decide +kernel) kw_188) <|
  am_c (ok_icmpge (off := 36) (by decide +kernel) (by decide +kernel)) <|
  am_c (ok_iload (by decide +kernel)) <|
  am_c (ok_aload_n (k := 0) (by decide +kernel) rfl) <|
  am_c (ok_get (by decide +kernel) (by decide +kernel) rfl (by decide +kernel) kw_131) <|
  am_c (ok_alen (by decide +kernel)) <|
  am_c (ok_icmpge (off := 26) (by decide +kernel) (by decide +kernel)) <|
  am_c (ok_aload_n (k := 0) (by decide +kernel) rfl) <|
  am_c (ok_aload_n (k := 2) (by decide +kernel) rfl) <|
  am_n
def k_c79_4 : List (Nat × am_A) := [(243, ac_get 2 1 0 246), (246, ac_iload 3 247), (247, ac_aload 0 248), (248, ac_get 2 5 6 251), (251, ac_iload 4 253), (253, ac_aald 3 254), (254, ac_callV 5 81 4 257 am_nohd), (257, ac_istore 3 258), (258, ac_iinc 4 1 261), (261, ac_goto 222), (264, ac_aload 0 265), (265, ac_aload 2 266), (266, ac_get 2 1 1 269), (269, ac_callV 5 82 2 272 am_nohd), (272, ac_aload 0 273), (273, ac_dup 274), (274, ac_get 0 5 13 277), (277, ac_push (.int 1) 278), (278, ac_ii (fun x y => x - y) 279), (279, ac_putI 5 13 282), (282, ac_ret)]
theorem k_p79_4 : ∀ q ∈ k_c79_4, am_Ok k_nm D cA B0 sb H00 (k_Th B0 sb H00) prog_1_method_44_code "TokenMouth" "expand" [] none q.1 q.2 :=
  am_c (ok_get (by decide +kernel) (by decide +kernel) rfl (by decide +kernel) kw_189) <|
  am_c (ok_iload_n (k := 3) (by decide +kernel) rfl) <|
  am_c (ok_aload_n (k := 0) (by decide +kernel) rfl) <|
  am_c (ok_get (by decide +kernel) (by decide +kernel) rfl (by decide +kernel) kw_131) <|
  am_c (ok_iload (by decide +kernel)) <|
  am_c (ok_aald (by decide +kernel) (by decide +kernel)) <|
  am_c (ok_callV (by decide +kernel) (by decide +kernel) kw_373 kw_374 kw_375 kw_372 (by decide +kernel) (by decide +kernel)) <|
  am_c (ok_istore_n (k := 3) (by decide +kernel) rfl) <|
  am_c (ok_iinc (z := 1) (by decide +kernel) (by decide +kernel)) <|
  am_c (ok_goto (off := -39) (by decide +kernel) (by decide +kernel)) <|
  am_c (ok_aload_n (k := 0) (by decide +kernel) rfl) <|
  am_c (ok_aload_n (k := 2) (by decide +kernel) rfl) <|
  am_c (ok_get (by decide +kernel) (by decide +kernel) rfl (by decide +kernel) kw_190) <|
  am_c (ok_callV (by decide +kernel) (by decide +kernel) kw_377 kw_378 kw_379 kw_376 (by decide +kernel) (by decide +kernel)) <|
  am_c (ok_aload_n (k := 0) (by decide +kernel) rfl) <|
  am_c (ok_dup (by decide +kernel)) <|
  am_c (ok_get (by decide +kernel) (by decide +kernel) rfl (by decide +kernel) kw_155) <|
  am_c (ok_iconst (z := 1) (by decide +kernel) (by decide +kernel)) <|
  am_c (ok_isub (by decide +kernel)) <|
  am_c (ok_putI (by decide +kernel) (by decide +kernel) rfl (by decide +kernel) kw_155 rfl) <|
  am_c (ok_ret (by decide +kernel) rfl) <|
  am_n
def k_t79 : List (Nat × List (Nat × am_A)) := [(42, k_c79_0), (149, k_c79_1), (197, k_c79_2), (242, k_c79_3), (282, k_c79_4)]
theorem k_o79 : ∀ c ∈ k_t79, ∀ q ∈ c.2, am_Ok k_nm D cA B0 sb H00 (k_Th B0 sb H00) prog_1_method_44_code "TokenMouth" "expand" [] none q.1 q.2 := am_cc (P := fun pc a => am_Ok k_nm D cA B0 sb H00 (k_Th B0 sb H00) prog_1_method_44_code "TokenMouth" "expand" [] none pc a) k_p79_0 <| am_cc (P := fun pc a => am_Ok k_nm D cA B0 sb H00 (k_Th B0 sb H00) prog_1_method_44_code "TokenMouth" "expand" [] none pc a) k_p79_1 <| am_cc (P := fun pc a => am_Ok k_nm D cA B0 sb H00 (k_Th B0 sb H00) prog_1_method_44_code "TokenMouth" "expand" [] none pc a) k_p79_2 <| am_cc (P := fun pc a => am_Ok k_nm D cA B0 sb H00 (k_Th B0 sb H00) prog_1_method_44_code "TokenMouth" "expand" [] none pc a) k_p79_3 <| am_cc (P := fun pc a => am_Ok k_nm D cA B0 sb H00 (k_Th B0 sb H00) prog_1_method_44_code "TokenMouth" "expand" [] none pc a) k_p79_4 <| am_cn0
-- 80: TokenMouth.matchStart(LTokenMouth$Row;)I
def k_c80_0 : List (Nat × am_A) := [(0, ac_aload 1 1), (1, ac_push (.int 0) 2), (2, ac_callV 4 34 2 5 am_nohd), (5, ac_istore 2 6), (6, ac_push (.int 0) 7), (7, ac_istore 3 8), (8, ac_iload 3 9), (9, ac_iload 2 10), (10, ac_if2 (fun x y => y ≤ x) 42 13), (13, ac_aload 0 14), (14, ac_push (.int 1) 15), (15, ac_callV 5 61 2 18 am_nohd), (18, ac_callS 52 1 21), (21, ac_aload 1 22), (22, ac_iload 3 23), (23, ac_callV 4 25 2 26 am_nohd), (26, ac_if2 (fun x y => x = y) 36 29), (29, ac_aload 0 30), (30, ac_push (.int 6) 32), (32, ac_callV 5 48 2 35 am_nohd), (35, ac_pop 36), (36, ac_iinc 3 1 39), (39, ac_goto 8), (42, ac_iload 2 43)]
theorem k_p80_0 : ∀ q ∈ k_c80_0, am_Ok k_nm D cA B0 sb H00 (k_Th B0 sb H00) prog_1_method_45_code "TokenMouth" "matchStart" [] (some .int) q.1 q.2 :=
  am_c (ok_aload_n (k := 1) (by decide +kernel) rfl) <|
  am_c (ok_iconst (z := 0) (by decide +kernel) (by decide +kernel)) <|
  am_c (ok_callV (by decide +kernel) (by decide +kernel) kw_381 kw_382 kw_383 kw_380 (by decide +kernel) (by decide +kernel)) <|
  am_c (ok_istore_n (k := 2) (by decide +kernel) rfl) <|
  am_c (ok_iconst (z := 0) (by decide +kernel) (by decide +kernel)) <|
  am_c (ok_istore_n (k := 3) (by decide +kernel) rfl) <|
  am_c (ok_iload_n (k := 3) (by decide +kernel) rfl) <|
  am_c (ok_iload_n (k := 2) (by decide +kernel) rfl) <|
  am_c (ok_icmpge (off := 32) (by decide +kernel) (by decide +kernel)) <|
  am_c (ok_aload_n (k := 0) (by decide +kernel) rfl) <|
  am_c (ok_iconst (z := 1) (by decide +kernel) (by decide +kernel)) <|
  am_c (ok_callV (by decide +kernel) (by decide +kernel) kw_157 kw_158 kw_159 kw_156 (by decide +kernel) (by decide +kernel)) <|
  am_c (ok_callS (by decide +kernel) kw_305 kw_306 kw_86 kw_304 (by decide +kernel) (by decide +kernel)) <|
  am_c (ok_aload_n (k := 1) (by decide +kernel) rfl) <|
  am_c (ok_iload_n (k := 3) (by decide +kernel) rfl) <|
  am_c (ok_callV (by decide +kernel) (by decide +kernel) kw_169 kw_33 kw_34 kw_31 (by decide +kernel) (by decide +kernel)) <|
  am_c (ok_icmpeq (off := 10) (by decide +kernel) (by decide +kernel)) <|
  am_c (ok_aload_n (k := 0) (by decide +kernel) rfl) <|
  am_c (ok_bipush (z := 6) (by decide +kernel) (by decide +kernel)) <|
  am_c (ok_callV (by decide +kernel) (by decide +kernel) kw_230 kw_231 kw_232 kw_229 (by decide +kernel) (by decide +kernel)) <|
  am_c (ok_pop (by decide +kernel)) <|
  am_c (ok_iinc (z := 1) (by decide +kernel) (by decide +kernel)) <|
  am_c (ok_goto (off := -31) (by decide +kernel) (by decide +kernel)) <|
  am_c (ok_iload_n (k := 2) (by decide +kernel) rfl) <|
  am_n
def k_c80_1 : List (Nat × am_A) := [(43, ac_iret)]
theorem k_p80_1 : ∀ q ∈ k_c80_1, am_Ok k_nm D cA B0 sb H00 (k_Th B0 sb H00) prog_1_method_45_code "TokenMouth" "matchStart" [] (some .int) q.1 q.2 :=
  am_c (ok_iret (by decide +kernel) rfl) <|
  am_n
def k_t80 : List (Nat × List (Nat × am_A)) := [(42, k_c80_0), (43, k_c80_1)]
theorem k_o80 : ∀ c ∈ k_t80, ∀ q ∈ c.2, am_Ok k_nm D cA B0 sb H00 (k_Th B0 sb H00) prog_1_method_45_code "TokenMouth" "matchStart" [] (some .int) q.1 q.2 := am_cc (P := fun pc a => am_Ok k_nm D cA B0 sb H00 (k_Th B0 sb H00) prog_1_method_45_code "TokenMouth" "matchStart" [] (some .int) pc a) k_p80_0 <| am_cc (P := fun pc a => am_Ok k_nm D cA B0 sb H00 (k_Th B0 sb H00) prog_1_method_45_code "TokenMouth" "matchStart" [] (some .int) pc a) k_p80_1 <| am_cn0
-- 81: TokenMouth.takeArgument(LTokenMouth$Row;ILTokenMouth$Row;)I
def k_c81_0 : List (Nat × am_A) := [(0, ac_iload 2 1), (1, ac_push (.int 1) 2), (2, ac_ii (fun x y => x + y) 3), (3, ac_istore 4 5), (5, ac_aload 1 6), (6, ac_iload 4 8), (8, ac_callV 4 34 2 11 am_nohd), (11, ac_istore 5 13), (13, ac_aload 1 14), (14, ac_push (.int 4096) 17), (17, ac_iload 4 19), (19, ac_iload 5 21), (21, ac_callV 4 32 4 24 am_nohd), (24, ac_istore 6 26), (26, ac_aload 3 27), (27, ac_push (.int 0) 28), (28, ac_callV 4 30 2 31 am_nohd), (31, ac_aload 0 32), (32, ac_push (.int 1) 33), (33, ac_callV 5 61 2 36 am_nohd), (36, ac_istore 7 38), (38, ac_push (.int 0) 39), (39, ac_istore 8 41), (41, ac_iload 4 43)]
theorem k_p81_0 : ∀ q ∈ k_c81_0, am_Ok k_nm D cA B0 sb H00 (k_Th B0 sb H00) prog_1_method_46_code "TokenMouth" "takeArgument" [] (some .int) q.1 q.2 :=
  am_c (ok_iload_n (k := 2) (by decide +kernel) rfl) <|
  am_c (ok_iconst (z := 1) (by decide +kernel) (by decide +kernel)) <|
  am_c (ok_iadd (by decide +kernel)) <|
  am_c (ok_istore (by decide +kernel)) <|
  am_c (ok_aload_n (k := 1) (by decide +kernel) rfl) <|
  am_c (ok_iload (by decide +kernel)) <|
  am_c (ok_callV (by decide +kernel) (by decide +kernel) kw_381 kw_382 kw_383 kw_380 (by decide +kernel) (by decide +kernel)) <|
  am_c (ok_istore (by decide +kernel)) <|
  am_c (ok_aload_n (k := 1) (by decide +kernel) rfl) <|
  am_c (ok_sipush (z := 4096) (by decide +kernel) (by decide +kernel)) <|
  am_c (ok_iload (by decide +kernel)) <|
  am_c (ok_iload (by decide +kernel)) <|
  am_c (ok_callV (by decide +kernel) (by decide +kernel) kw_384 kw_29 kw_30 kw_27 (by decide +kernel) (by decide +kernel)) <|
  am_c (ok_istore (by decide +kernel)) <|
  am_c (ok_aload_n (k := 3) (by decide +kernel) rfl) <|
  am_c (ok_iconst (z := 0) (by decide +kernel) (by decide +kernel)) <|
  am_c (ok_callV (by decide +kernel) (by decide +kernel) kw_197 kw_13 kw_14 kw_11 (by decide +kernel) (by decide +kernel)) <|
  am_c (ok_aload_n (k := 0) (by decide +kernel) rfl) <|
  am_c (ok_iconst (z := 1) (by decide +kernel) (by decide +kernel)) <|
  am_c (ok_callV (by decide +kernel) (by decide +kernel) kw_157 kw_158 kw_159 kw_156 (by decide +kernel) (by decide +kernel)) <|
  am_c (ok_istore (by decide +kernel)) <|
  am_c (ok_iconst (z := 0) (by decide +kernel) (by decide +kernel)) <|
  am_c (ok_istore (by decide +kernel)) <|
  am_c (ok_iload (by decide +kernel)) <|
  am_n
def k_c81_1 : List (Nat × am_A) := [(43, ac_iload 5 45), (45, ac_if2 (fun x y => ¬ x = y) 77 48), (48, ac_iload 7 50), (50, ac_push (.int 2592) 53), (53, ac_if2 (fun x y => ¬ x = y) 77 56), (56, ac_iload 8 58), (58, ac_push (.int 1000) 61), (61, ac_if2 (fun x y => y ≤ x) 77 64), (64, ac_aload 0 65), (65, ac_push (.int 1) 66), (66, ac_callV 5 61 2 69 am_nohd), (69, ac_istore 7 71), (71, ac_iinc 8 1 74), (74, ac_goto 41), (77, ac_push (.int 0) 78), (78, ac_istore 8 80), (80, ac_push (.int 1) 81), (81, ac_istore 9 83), (83, ac_iload 9 85), (85, ac_push (.int 40) 87), (87, ac_if2 (fun x y => y < x) 196 90), (90, ac_iload 7 92), (92, ac_callS 52 1 95), (95, ac_istore 7 97)]
theorem k_p81_1 : ∀ q ∈ k_c81_1, am_Ok k_nm D cA B0 sb H00 (k_Th B0 sb H00) prog_1_method_46_code "TokenMouth" "takeArgument" [] (some .int) q.1 q.2 :=
  am_c (ok_iload (by decide +kernel)) <|
  am_c (ok_icmpne (off := 32) (by decide +kernel) (by decide +kernel)) <|
  am_c (ok_iload (by decide +kernel)) <|
  am_c (ok_sipush (z := 2592) (by decide +kernel) (by decide +kernel)) <|
  am_c (ok_icmpne (off := 24) (by decide +kernel) (by decide +kernel)) <|
  am_c (ok_iload (by decide +kernel)) <|
  am_c (ok_sipush (z := 1000) (by decide +kernel) (by decide +kernel)) <|
  am_c (ok_icmpge (off := 16) (by decide +kernel) (by decide +kernel)) <|
  am_c (ok_aload_n (k := 0) (by decide +kernel) rfl) <|
  am_c (ok_iconst (z := 1) (by decide +kernel) (by decide +kernel)) <|
  am_c (ok_callV (by decide +kernel) (by decide +kernel) kw_157 kw_158 kw_159 kw_156 (by decide +kernel) (by decide +kernel)) <|
  am_c (ok_istore (by decide +kernel)) <|
  am_c (ok_iinc (z := 1) (by decide +kernel) (by decide +kernel)) <|
  am_c (ok_goto (off := -33) (by decide +kernel) (by decide +kernel)) <|
  am_c (ok_iconst (z := 0) (by decide +kernel) (by decide +kernel)) <|
  am_c (ok_istore (by decide +kernel)) <|
  am_c (ok_iconst (z := 1) (by decide +kernel) (by decide +kernel)) <|
  am_c (ok_istore (by decide +kernel)) <|
  am_c (ok_iload (by decide +kernel)) <|
  am_c (ok_bipush (z := 40) (by decide +kernel) (by decide +kernel)) <|
  am_c (ok_icmpgt (off := 109) (by decide +kernel) (by decide +kernel)) <|
  am_c (ok_iload (by decide +kernel)) <|
  am_c (ok_callS (by decide +kernel) kw_305 kw_306 kw_86 kw_304 (by decide +kernel) (by decide +kernel)) <|
  am_c (ok_istore (by decide +kernel)) <|
  am_n
def k_c81_2 : List (Nat × am_A) := [(97, ac_iload 7 99), (99, ac_push (.int 4096) 102), (102, ac_if2 (fun x y => ¬ x = y) 117 105), (105, ac_iload 6 107), (107, ac_if1 (fun x => ¬ x = 0) 117 110), (110, ac_aload 0 111), (111, ac_push (.int 7) 113), (113, ac_callV 5 48 2 116 am_nohd), (116, ac_pop 117), (117, ac_iload 8 119), (119, ac_iload 7 121), (121, ac_callS 54 1 124), (124, ac_ii (fun x y => x + y) 125), (125, ac_istore 8 127), (127, ac_iload 8 129), (129, ac_if1 (fun x => 0 ≤ x) 138 132), (132, ac_aload 0 133), (133, ac_push (.int 1) 134), (134, ac_callV 5 48 2 137 am_nohd), (137, ac_pop 138), (138, ac_aload 3 139), (139, ac_iload 7 141), (141, ac_callV 4 27 2 144 am_nohd), (144, ac_pop 145)]
theorem k_p81_2 : ∀ q ∈ k_c81_2, am_Ok k_nm D cA B0 sb H00 (k_Th B0 sb H00) prog_1_method_46_code "TokenMouth" "takeArgument" [] (some .int) q.1 q.2 :=
  am_c (ok_iload (by decide +kernel)) <|
  am_c (ok_sipush (z := 4096) (by decide +kernel) (by decide +kernel)) <|
  am_c (ok_icmpne (off := 15) (by decide +kernel) (by decide +kernel)) <|
  am_c (ok_iload (by decide +kernel)) <|
  am_c (ok_ifne (off := 10) (by decide +kernel) (by decide +kernel)) <|
  am_c (ok_aload_n (k := 0) (by decide +kernel) rfl) <|
  am_c (ok_bipush (z := 7) (by decide +kernel) (by decide +kernel)) <|
  am_c (ok_callV (by decide +kernel) (by decide +kernel) kw_230 kw_231 kw_232 kw_229 (by decide +kernel) (by decide +kernel)) <|
  am_c (ok_pop (by decide +kernel)) <|
  am_c (ok_iload (by decide +kernel)) <|
  am_c (ok_iload (by decide +kernel)) <|
  am_c (ok_callS (by decide +kernel) kw_334 kw_99 kw_86 kw_98 (by decide +kernel) (by decide +kernel)) <|
  am_c (ok_iadd (by decide +kernel)) <|
  am_c (ok_istore (by decide +kernel)) <|
  am_c (ok_iload (by decide +kernel)) <|
  am_c (ok_ifge (off := 9) (by decide +kernel) (by decide +kernel)) <|
  am_c (ok_aload_n (k := 0) (by decide +kernel) rfl) <|
  am_c (ok_iconst (z := 1) (by decide +kernel) (by decide +kernel)) <|
  am_c (ok_callV (by decide +kernel) (by decide +kernel) kw_230 kw_231 kw_232 kw_229 (by decide +kernel) (by decide +kernel)) <|
  am_c (ok_pop (by decide +kernel)) <|
  am_c (ok_aload_n (k := 3) (by decide +kernel) rfl) <|
  am_c (ok_iload (by decide +kernel)) <|
  am_c (ok_callV (by decide +kernel) (by decide +kernel) kw_242 kw_21 kw_22 kw_19 (by decide +kernel) (by decide +kernel)) <|
  am_c (ok_pop (by decide +kernel)) <|
  am_n
def k_c81_3 : List (Nat × am_A) := [(145, ac_iload 8 147), (147, ac_if1 (fun x => ¬ x = 0) 183 150), (150, ac_aload 3 151), (151, ac_aload 1 152), (152, ac_iload 4 154), (154, ac_iload 5 156), (156, ac_callV 4 33 4 159 am_nohd), (159, ac_if1 (fun x => x = 0) 183 162), (162, ac_aload 3 163), (163, ac_aload 3 164), (164, ac_callV 4 24 1 167 am_nohd), (167, ac_iload 5 169), (169, ac_iload 4 171), (171, ac_ii (fun x y => x - y) 172), (172, ac_ii (fun x y => x - y) 173), (173, ac_callV 4 30 2 176 am_nohd), (176, ac_aload 3 177), (177, ac_callV 4 35 1 180 am_nohd), (180, ac_iload 5 182), (182, ac_iret), (183, ac_aload 0 184), (184, ac_push (.int 1) 185), (185, ac_callV 5 61 2 188 am_nohd), (188, ac_istore 7 190)]
theorem k_p81_3 : ∀ q ∈ k_c81_3, am_Ok k_nm D cA B0 sb H00 (k_Th B0 sb H00) prog_1_method_46_code "TokenMouth" "takeArgument" [] (some .int) q.1 q.2 :=
  am_c (ok_iload (by decide +kernel)) <|
  am_c (ok_ifne (off := 36) (by decide +kernel) (by decide +kernel)) <|
  am_c (ok_aload_n (k := 3) (by decide +kernel) rfl) <|
  am_c (ok_aload_n (k := 1) (by decide +kernel) rfl) <|
  am_c (ok_iload (by decide +kernel)) <|
  am_c (ok_iload (by decide +kernel)) <|
  am_c (ok_callV (by decide +kernel) (by decide +kernel) kw_386 kw_387 kw_388 kw_385 (by decide +kernel) (by decide +kernel)) <|
  am_c (ok_ifeq (off := 24) (by decide +kernel) (by decide +kernel)) <|
  am_c (ok_aload_n (k := 3) (by decide +kernel) rfl) <|
  am_c (ok_aload_n (k := 3) (by decide +kernel) rfl) <|
  am_c (ok_callV (by decide +kernel) (by decide +kernel) kw_170 kw_17 kw_18 kw_15 (by decide +kernel) (by decide +kernel)) <|
  am_c (ok_iload (by decide +kernel)) <|
  am_c (ok_iload (by decide +kernel)) <|
  am_c (ok_isub (by decide +kernel)) <|
  am_c (ok_isub (by decide +kernel)) <|
  am_c (ok_callV (by decide +kernel) (by decide +kernel) kw_197 kw_13 kw_14 kw_11 (by decide +kernel) (by decide +kernel)) <|
  am_c (ok_aload_n (k := 3) (by decide +kernel) rfl) <|
  am_c (ok_callV (by decide +kernel) (by decide +kernel) kw_390 kw_391 kw_392 kw_389 (by decide +kernel) (by decide +kernel)) <|
  am_c (ok_iload (by decide +kernel)) <|
  am_c (ok_iret (by decide +kernel) rfl) <|
  am_c (ok_aload_n (k := 0) (by decide +kernel) rfl) <|
  am_c (ok_iconst (z := 1) (by decide +kernel) (by decide +kernel)) <|
  am_c (ok_callV (by decide +kernel) (by decide +kernel) kw_157 kw_158 kw_159 kw_156 (by decide +kernel) (by decide +kernel)) <|
  am_c (ok_istore (by decide +kernel)) <|
  am_n
def k_c81_4 : List (Nat × am_A) := [(190, ac_iinc 9 1 193), (193, ac_goto 83), (196, ac_aload 0 197), (197, ac_push (.int 5) 198), (198, ac_callV 5 48 2 201 am_nohd), (201, ac_iret)]
theorem k_p81_4 : ∀ q ∈ k_c81_4, am_Ok k_nm D cA B0 sb H00 (k_Th B0 sb H00) prog_1_method_46_code "TokenMouth" "takeArgument" [] (some .int) q.1 q.2 :=
  am_c (ok_iinc (z := 1) (by decide +kernel) (by decide +kernel)) <|
  am_c (ok_goto (off := -110) (by decide +kernel) (by decide +kernel)) <|
  am_c (ok_aload_n (k := 0) (by decide +kernel) rfl) <|
  am_c (ok_iconst (z := 5) (by decide +kernel) (by decide +kernel)) <|
  am_c (ok_callV (by decide +kernel) (by decide +kernel) kw_230 kw_231 kw_232 kw_229 (by decide +kernel) (by decide +kernel)) <|
  am_c (ok_iret (by decide +kernel) rfl) <|
  am_n
def k_t81 : List (Nat × List (Nat × am_A)) := [(41, k_c81_0), (95, k_c81_1), (144, k_c81_2), (188, k_c81_3), (201, k_c81_4)]
theorem k_o81 : ∀ c ∈ k_t81, ∀ q ∈ c.2, am_Ok k_nm D cA B0 sb H00 (k_Th B0 sb H00) prog_1_method_46_code "TokenMouth" "takeArgument" [] (some .int) q.1 q.2 := am_cc (P := fun pc a => am_Ok k_nm D cA B0 sb H00 (k_Th B0 sb H00) prog_1_method_46_code "TokenMouth" "takeArgument" [] (some .int) pc a) k_p81_0 <| am_cc (P := fun pc a => am_Ok k_nm D cA B0 sb H00 (k_Th B0 sb H00) prog_1_method_46_code "TokenMouth" "takeArgument" [] (some .int) pc a) k_p81_1 <| am_cc (P := fun pc a => am_Ok k_nm D cA B0 sb H00 (k_Th B0 sb H00) prog_1_method_46_code "TokenMouth" "takeArgument" [] (some .int) pc a) k_p81_2 <| am_cc (P := fun pc a => am_Ok k_nm D cA B0 sb H00 (k_Th B0 sb H00) prog_1_method_46_code "TokenMouth" "takeArgument" [] (some .int) pc a) k_p81_3 <| am_cc (P := fun pc a => am_Ok k_nm D cA B0 sb H00 (k_Th B0 sb H00) prog_1_method_46_code "TokenMouth" "takeArgument" [] (some .int) pc a) k_p81_4 <| am_cn0
-- 82: TokenMouth.putBodyBack(LTokenMouth$Row;)V
def k_c82_0 : List (Nat × am_A) := [(0, ac_aload 1 1), (1, ac_callV 4 24 1 4 am_nohd), (4, ac_push (.int 1) 5), (5, ac_ii (fun x y => x - y) 6), (6, ac_istore 2 7), (7, ac_iload 2 8), (8, ac_if1 (fun x => x < 0) 95 11), (11, ac_aload 1 12), (12, ac_iload 2 13), (13, ac_callV 4 25 2 16 am_nohd), (16, ac_istore 3 17), (17, ac_iload 3 18), (18, ac_push (.int 8192) 21), (21, ac_ii (fun x y => x - y) 22), (22, ac_push (.int 1) 23), (23, ac_ii (fun x y => x - y) 24), (24, ac_istore 4 26), (26, ac_iload 4 28), (28, ac_if1 (fun x => x < 0) 41 31), (31, ac_iload 4 33), (33, ac_aload 0 34), (34, ac_get 2 5 6 37), (37, ac_alen 38), (38, ac_if2 (fun x y => x < y) 49 41)]
theorem k_p82_0 : ∀ q ∈ k_c82_0, am_Ok k_nm D cA B0 sb H00 (k_Th B0 sb H00) prog_1_method_47_code "TokenMouth" "putBodyBack" [] none q.1 q.2 :=
  am_c (ok_aload_n (k := 1) (by decide +kernel) rfl) <|
  am_c (ok_callV (by decide +kernel) (by decide +kernel) kw_170 kw_17 kw_18 kw_15 (by decide +kernel) (by decide +kernel)) <|
  am_c (ok_iconst (z := 1) (by decide +kernel) (by decide +kernel)) <|
  am_c (ok_isub (by decide +kernel)) <|
  am_c (ok_istore_n (k := 2) (by decide +kernel) rfl) <|
  am_c (ok_iload_n (k := 2) (by decide +kernel) rfl) <|
  am_c (ok_iflt (off := 87) (by decide +kernel) (by decide +kernel)) <|
  am_c (ok_aload_n (k := 1) (by decide +kernel) rfl) <|
  am_c (ok_iload_n (k := 2) (by decide +kernel) rfl) <|
  am_c (ok_callV (by decide +kernel) (by decide +kernel) kw_169 kw_33 kw_34 kw_31 (by decide +kernel) (by decide +kernel)) <|
  am_c (ok_istore_n (k := 3) (by decide +kernel) rfl) <|
  am_c (ok_iload_n (k := 3) (by decide +kernel) rfl) <|
  am_c (ok_sipush (z := 8192) (by decide +kernel) (by decide +kernel)) <|
  am_c (ok_isub (by decide +kernel)) <|
  am_c (ok_iconst (z := 1) (by decide +kernel) (by decide +kernel)) <|
  am_c (ok_isub (by decide +kernel)) <|
  am_c (ok_istore (by decide +kernel)) <|
  am_c (ok_iload (by decide +kernel)) <|
  am_c (ok_iflt (off := 13) (by decide +kernel) (by decide +kernel)) <|
  am_c (ok_iload (by decide +kernel)) <|
  am_c (ok_aload_n (k := 0) (by decide +kernel) rfl) <|
  am_c (ok_get (by decide +kernel) (by decide +kernel) rfl (by decide +kernel) kw_131) <|
  am_c (ok_alen (by decide +kernel)) <|
  am_c (ok_icmplt (off := 11) (by decide +kernel) (by decide +kernel)) <|
  am_n
def k_c82_1 : List (Nat × am_A) := [(41, ac_aload 0 42), (42, ac_iload 3 43), (43, ac_callV 5 63 2 46 am_nohd), (46, ac_goto 89), (49, ac_aload 0 50), (50, ac_get 2 5 6 53), (53, ac_iload 4 55), (55, ac_aald 3 56), (56, ac_astore 5 58), (58, ac_aload 5 60), (60, ac_callV 4 24 1 63 am_nohd), (63, ac_push (.int 1) 64), (64, ac_ii (fun x y => x - y) 65), (65, ac_istore 6 67), (67, ac_iload 6 69), (69, ac_if1 (fun x => x < 0) 89 72), (72, ac_aload 0 73), (73, ac_aload 5 75), (75, ac_iload 6 77), (77, ac_callV 4 25 2 80 am_nohd), (80, ac_callV 5 63 2 83 am_nohd), (83, ac_iinc 6 (-1) 86), (86, ac_goto 67), (89, ac_iinc 2 (-1) 92)]
theorem k_p82_1 : ∀ q ∈ k_c82_1, am_Ok k_nm D cA B0 sb H00 (k_Th B0 sb H00) prog_1_method_47_code "TokenMouth" "putBodyBack" [] none q.1 q.2 :=
  am_c (ok_aload_n (k := 0) (by decide +kernel) rfl) <|
  am_c (ok_iload_n (k := 3) (by decide +kernel) rfl) <|
  am_c (ok_callV (by decide +kernel) (by decide +kernel) kw_319 kw_320 kw_321 kw_318 (by decide +kernel) (by decide +kernel)) <|
  am_c (ok_goto (off := 43) (by decide +kernel) (by decide +kernel)) <|
  am_c (ok_aload_n (k := 0) (by decide +kernel) rfl) <|
  am_c (ok_get (by decide +kernel) (by decide +kernel) rfl (by decide +kernel) kw_131) <|
  am_c (ok_iload (by decide +kernel)) <|
  am_c (ok_aald (by decide +kernel) (by decide +kernel)) <|
  am_c (ok_astore (by decide +kernel)) <|
  am_c (ok_aload (by decide +kernel)) <|
  am_c (ok_callV (by decide +kernel) (by decide +kernel) kw_170 kw_17 kw_18 kw_15 (by decide +kernel) (by decide +kernel)) <|
  am_c (ok_iconst (z := 1) (by decide +kernel) (by decide +kernel)) <|
  am_c (ok_isub (by decide +kernel)) <|
  am_c (ok_istore (by decide +kernel)) <|
  am_c (ok_iload (by decide +kernel)) <|
  am_c (ok_iflt (off := 20) (by decide +kernel) (by decide +kernel)) <|
  am_c (ok_aload_n (k := 0) (by decide +kernel) rfl) <|
  am_c (ok_aload (by decide +kernel)) <|
  am_c (ok_iload (by decide +kernel)) <|
  am_c (ok_callV (by decide +kernel) (by decide +kernel) kw_169 kw_33 kw_34 kw_31 (by decide +kernel) (by decide +kernel)) <|
  am_c (ok_callV (by decide +kernel) (by decide +kernel) kw_319 kw_320 kw_321 kw_318 (by decide +kernel) (by decide +kernel)) <|
  am_c (ok_iinc (z := (-1)) (by decide +kernel) (by decide +kernel)) <|
  am_c (ok_goto (off := -19) (by decide +kernel) (by decide +kernel)) <|
  am_c (ok_iinc (z := (-1)) (by decide +kernel) (by decide +kernel)) <|
  am_n
def k_c82_2 : List (Nat × am_A) := [(92, ac_goto 7), (95, ac_ret)]
theorem k_p82_2 : ∀ q ∈ k_c82_2, am_Ok k_nm D cA B0 sb H00 (k_Th B0 sb H00) prog_1_method_47_code "TokenMouth" "putBodyBack" [] none q.1 q.2 :=
  am_c (ok_goto (off := -85) (by decide +kernel) (by decide +kernel)) <|
  am_c (ok_ret (by decide +kernel) rfl) <|
  am_n
def k_t82 : List (Nat × List (Nat × am_A)) := [(38, k_c82_0), (89, k_c82_1), (95, k_c82_2)]
theorem k_o82 : ∀ c ∈ k_t82, ∀ q ∈ c.2, am_Ok k_nm D cA B0 sb H00 (k_Th B0 sb H00) prog_1_method_47_code "TokenMouth" "putBodyBack" [] none q.1 q.2 := am_cc (P := fun pc a => am_Ok k_nm D cA B0 sb H00 (k_Th B0 sb H00) prog_1_method_47_code "TokenMouth" "putBodyBack" [] none pc a) k_p82_0 <| am_cc (P := fun pc a => am_Ok k_nm D cA B0 sb H00 (k_Th B0 sb H00) prog_1_method_47_code "TokenMouth" "putBodyBack" [] none pc a) k_p82_1 <| am_cc (P := fun pc a => am_Ok k_nm D cA B0 sb H00 (k_Th B0 sb H00) prog_1_method_47_code "TokenMouth" "putBodyBack" [] none pc a) k_p82_2 <| am_cn0
-- 83: TokenMouth.expandAfter()V
def k_c83_0 : List (Nat × am_A) := [(0, ac_aload 0 1), (1, ac_push (.int 1) 2), (2, ac_callV 5 61 2 5 am_nohd), (5, ac_istore 1 6), (6, ac_aload 0 7), (7, ac_push (.int 1) 8), (8, ac_callV 5 61 2 11 am_nohd), (11, ac_istore 2 12), (12, ac_aload 0 13), (13, ac_iload 2 14), (14, ac_callV 5 55 2 17 am_nohd), (17, ac_istore 3 18), (18, ac_iload 3 19), (19, ac_callS 57 1 22), (22, ac_if1 (fun x => x = 0) 33 25), (25, ac_aload 0 26), (26, ac_iload 3 27), (27, ac_callV 5 79 2 30 am_nohd), (30, ac_goto 38), (33, ac_aload 0 34), (34, ac_iload 2 35), (35, ac_callV 5 63 2 38 am_nohd), (38, ac_aload 0 39), (39, ac_iload 1 40)]
theorem k_p83_0 : ∀ q ∈ k_c83_0, am_Ok k_nm D cA B0 sb H00 (k_Th B0 sb H00) prog_1_method_48_code "TokenMouth" "expandAfter" [] none q.1 q.2 :=
  am_c (ok_aload_n (k := 0) (by decide +kernel) rfl) <|
  am_c (ok_iconst (z := 1) (by decide +kernel) (by decide +kernel)) <|
  am_c (ok_callV (by decide +kernel) (by decide +kernel) kw_157 kw_158 kw_159 kw_156 (by decide +kernel) (by decide +kernel)) <|
  am_c (ok_istore_n (k := 1) (by decide +kernel) rfl) <|
  am_c (ok_aload_n (k := 0) (by decide +kernel) rfl) <|
  am_c (ok_iconst (z := 1) (by decide +kernel) (by decide +kernel)) <|
  am_c (ok_callV (by decide +kernel) (by decide +kernel) kw_157 kw_158 kw_159 kw_156 (by decide +kernel) (by decide +kernel)) <|
  am_c (ok_istore_n (k := 2) (by decide +kernel) rfl) <|
  am_c (ok_aload_n (k := 0) (by decide +kernel) rfl) <|
  am_c (ok_iload_n (k := 2) (by decide +kernel) rfl) <|
  am_c (ok_callV (by decide +kernel) (by decide +kernel) kw_161 kw_162 kw_163 kw_160 (by decide +kernel) (by decide +kernel)) <|
  am_c (ok_istore_n (k := 3) (by decide +kernel) rfl) <|
  am_c (ok_iload_n (k := 3) (by decide +kernel) rfl) <|
  am_c (ok_callS (by decide +kernel) kw_236 kw_237 kw_86 kw_235 (by decide +kernel) (by decide +kernel)) <|
  am_c (ok_ifeq (off := 11) (by decide +kernel) (by decide +kernel)) <|
  am_c (ok_aload_n (k := 0) (by decide +kernel) rfl) <|
  am_c (ok_iload_n (k := 3) (by decide +kernel) rfl) <|
  am_c (ok_callV (by decide +kernel) (by decide +kernel) kw_239 kw_240 kw_241 kw_238 (by decide +kernel) (by decide +kernel)) <|
  am_c (ok_goto (off := 8) (by decide +kernel) (by decide +kernel)) <|
  am_c (ok_aload_n (k := 0) (by decide +kernel) rfl) <|
  am_c (ok_iload_n (k := 2) (by decide +kernel) rfl) <|
  am_c (ok_callV (by decide +kernel) (by decide +kernel) kw_319 kw_320 kw_321 kw_318 (by decide +kernel) (by decide +kernel)) <|
  am_c (ok_aload_n (k := 0) (by decide +kernel) rfl) <|
  am_c (ok_iload_n (k := 1) (by decide +kernel) rfl) <|
  am_n
def k_c83_1 : List (Nat × am_A) := [(40, ac_callV 5 63 2 43 am_nohd), (43, ac_ret)]
theorem k_p83_1 : ∀ q ∈ k_c83_1, am_Ok k_nm D cA B0 sb H00 (k_Th B0 sb H00) prog_1_method_48_code "TokenMouth" "expandAfter" [] none q.1 q.2 :=
  am_c (ok_callV (by decide +kernel) (by decide +kernel) kw_319 kw_320 kw_321 kw_318 (by decide +kernel) (by decide +kernel)) <|
  am_c (ok_ret (by decide +kernel) rfl) <|
  am_n
def k_t83 : List (Nat × List (Nat × am_A)) := [(39, k_c83_0), (43, k_c83_1)]
theorem k_o83 : ∀ c ∈ k_t83, ∀ q ∈ c.2, am_Ok k_nm D cA B0 sb H00 (k_Th B0 sb H00) prog_1_method_48_code "TokenMouth" "expandAfter" [] none q.1 q.2 := am_cc (P := fun pc a => am_Ok k_nm D cA B0 sb H00 (k_Th B0 sb H00) prog_1_method_48_code "TokenMouth" "expandAfter" [] none pc a) k_p83_0 <| am_cc (P := fun pc a => am_Ok k_nm D cA B0 sb H00 (k_Th B0 sb H00) prog_1_method_48_code "TokenMouth" "expandAfter" [] none pc a) k_p83_1 <| am_cn0
-- 84: TokenMouth.markNext()V
def k_c84_0 : List (Nat × am_A) := [(0, ac_aload 0 1), (1, ac_push (.int 1) 2), (2, ac_callV 5 61 2 5 am_nohd), (5, ac_istore 1 6), (6, ac_aload 0 7), (7, ac_aload 0 8), (8, ac_iload 1 9), (9, ac_callV 5 55 2 12 am_nohd), (12, ac_callS 57 1 15), (15, ac_if1 (fun x => x = 0) 26 18), (18, ac_iload 1 19), (19, ac_push (.int 16384) 22), (22, ac_ii (fun x y => x ||| y) 23), (23, ac_goto 27), (26, ac_iload 1 27), (27, ac_callV 5 63 2 30 am_nohd), (30, ac_ret)]
theorem k_p84_0 : ∀ q ∈ k_c84_0, am_Ok k_nm D cA B0 sb H00 (k_Th B0 sb H00) prog_1_method_49_code "TokenMouth" "markNext" [] none q.1 q.2 :=
  am_c (ok_aload_n (k := 0) (by decide +kernel) rfl) <|
  am_c (ok_iconst (z := 1) (by decide +kernel) (by decide +kernel)) <|
  am_c (ok_callV (by decide +kernel) (by decide +kernel) kw_157 kw_158 kw_159 kw_156 (by decide +kernel) (by decide +kernel)) <|
  am_c (ok_istore_n (k := 1) (by decide +kernel) rfl) <|
  am_c (ok_aload_n (k := 0) (by decide +kernel) rfl) <|
  am_c (ok_aload_n (k := 0) (by decide +kernel) rfl) <|
  am_c (ok_iload_n (k := 1) (by decide +kernel) rfl) <|
  am_c (ok_callV (by decide +kernel) (by decide +kernel) kw_161 kw_162 kw_163 kw_160 (by decide +kernel) (by decide +kernel)) <|
  am_c (ok_callS (by decide +kernel) kw_236 kw_237 kw_86 kw_235 (by decide +kernel) (by decide +kernel)) <|
  am_c (ok_ifeq (off := 11) (by decide +kernel) (by decide +kernel)) <|
  am_c (ok_iload_n (k := 1) (by decide +kernel) rfl) <|
  am_c (ok_sipush (z := 16384) (by decide +kernel) (by decide +kernel)) <|
  am_c (ok_ior (by decide +kernel)) <|
  am_c (ok_goto (off := 4) (by decide +kernel) (by decide +kernel)) <|
  am_c (ok_iload_n (k := 1) (by decide +kernel) rfl) <|
  am_c (ok_callV (by decide +kernel) (by decide +kernel) kw_319 kw_320 kw_321 kw_318 (by decide +kernel) (by decide +kernel)) <|
  am_c (ok_ret (by decide +kernel) rfl) <|
  am_n
def k_t84 : List (Nat × List (Nat × am_A)) := [(30, k_c84_0)]
theorem k_o84 : ∀ c ∈ k_t84, ∀ q ∈ c.2, am_Ok k_nm D cA B0 sb H00 (k_Th B0 sb H00) prog_1_method_49_code "TokenMouth" "markNext" [] none q.1 q.2 := am_cc (P := fun pc a => am_Ok k_nm D cA B0 sb H00 (k_Th B0 sb H00) prog_1_method_49_code "TokenMouth" "markNext" [] none pc a) k_p84_0 <| am_cn0
-- 85: TokenMouth.makeName()V
def k_c85_0 : List (Nat × am_A) := [(0, ac_push (.long 0) 1), (1, ac_lstore 1 2), (2, ac_push (.long 0) 3), (3, ac_lstore 3 4), (4, ac_aload 0 5), (5, ac_callV 5 62 1 8 am_nohd), (8, ac_istore 5 10), (10, ac_push (.int 0) 11), (11, ac_istore 6 13), (13, ac_iload 6 15), (15, ac_push (.int 11) 17), (17, ac_if2 (fun x y => y < x) 93 20), (20, ac_aload 0 21), (21, ac_iload 5 23), (23, ac_callV 5 55 2 26 am_nohd), (26, ac_push (.int 11) 28), (28, ac_if2 (fun x y => x = y) 93 31), (31, ac_iload 5 33), (33, ac_push (.int 4096) 36), (36, ac_if2 (fun x y => x < y) 45 39), (39, ac_aload 0 40), (40, ac_push (.int 4) 41), (41, ac_callV 5 48 2 44 am_nohd), (44, ac_pop 45)]
theorem k_p85_0 : ∀ q ∈ k_c85_0, am_Ok k_nm D cA B0 sb H00 (k_Th B0 sb H00) prog_1_method_50_code "TokenMouth" "makeName" [] none q.1 q.2 :=
  am_c (ok_lconst (z := 0) (by decide +kernel) (by decide +kernel)) <|
  am_c (ok_lstore_n (k := 1) (by decide +kernel) rfl) <|
  am_c (ok_lconst (z := 0) (by decide +kernel) (by decide +kernel)) <|
  am_c (ok_lstore_n (k := 3) (by decide +kernel) rfl) <|
  am_c (ok_aload_n (k := 0) (by decide +kernel) rfl) <|
  am_c (ok_callV (by decide +kernel) (by decide +kernel) kw_331 kw_332 kw_333 kw_330 (by decide +kernel) (by decide +kernel)) <|
  am_c (ok_istore (by decide +kernel)) <|
  am_c (ok_iconst (z := 0) (by decide +kernel) (by decide +kernel)) <|
  am_c (ok_istore (by decide +kernel)) <|
  am_c (ok_iload (by decide +kernel)) <|
  am_c (ok_bipush (z := 11) (by decide +kernel) (by decide +kernel)) <|
  am_c (ok_icmpgt (off := 76) (by decide +kernel) (by decide +kernel)) <|
  am_c (ok_aload_n (k := 0) (by decide +kernel) rfl) <|
  am_c (ok_iload (by decide +kernel)) <|
  am_c (ok_callV (by decide +kernel) (by decide +kernel) kw_161 kw_162 kw_163 kw_160 (by decide +kernel) (by decide +kernel)) <|
  am_c (ok_bipush (z := 11) (by decide +kernel) (by decide +kernel)) <|
  am_c (ok_icmpeq (off := 65) (by decide +kernel) (by decide +kernel)) <|
  am_c (ok_iload (by decide +kernel)) <|
  am_c (ok_sipush (z := 4096) (by decide +kernel) (by decide +kernel)) <|
  am_c (ok_icmplt (off := 9) (by decide +kernel) (by decide +kernel)) <|
  am_c (ok_aload_n (k := 0) (by decide +kernel) rfl) <|
  am_c (ok_iconst (z := 4) (by decide +kernel) (by decide +kernel)) <|
  am_c (ok_callV (by decide +kernel) (by decide +kernel) kw_230 kw_231 kw_232 kw_229 (by decide +kernel) (by decide +kernel)) <|
  am_c (ok_pop (by decide +kernel)) <|
  am_n
def k_c85_1 : List (Nat × am_A) := [(45, ac_iload 6 47), (47, ac_push (.int 11) 49), (49, ac_if2 (fun x y => ¬ x = y) 58 52), (52, ac_aload 0 53), (53, ac_push (.int 5) 54), (54, ac_callV 5 48 2 57 am_nohd), (57, ac_pop 58), (58, ac_lload 3 59), (59, ac_push (.int 8) 61), (61, ac_li (fun x y => x <<< (y.toInt64 &&& 63)) 62), (62, ac_lload 1 63), (63, ac_push (.int 56) 65), (65, ac_li (fun x y => (x.toUInt64 >>> (y.toInt64.toUInt64 &&& Int64.toUInt64 63)).toInt64) 66), (66, ac_ll (fun x y => x ||| y) 67), (67, ac_lstore 3 68), (68, ac_lload 1 69), (69, ac_push (.int 8) 71), (71, ac_li (fun x y => x <<< (y.toInt64 &&& 63)) 72), (72, ac_iload 5 74), (74, ac_push (.int 255) 77), (77, ac_ii (fun x y => x &&& y) 78), (78, ac_il (fun x => x.toInt64) 79), (79, ac_ll (fun x y => x ||| y) 80), (80, ac_lstore 1 81)]
theorem k_p85_1 : ∀ q ∈ k_c85_1, am_Ok k_nm D cA B0 sb H00 (k_Th B0 sb H00) prog_1_method_50_code "TokenMouth" "makeName" [] none q.1 q.2 :=
  am_c (ok_iload (by decide +kernel)) <|
  am_c (ok_bipush (z := 11) (by decide +kernel) (by decide +kernel)) <|
  am_c (ok_icmpne (off := 9) (by decide +kernel) (by decide +kernel)) <|
  am_c (ok_aload_n (k := 0) (by decide +kernel) rfl) <|
  am_c (ok_iconst (z := 5) (by decide +kernel) (by decide +kernel)) <|
  am_c (ok_callV (by decide +kernel) (by decide +kernel) kw_230 kw_231 kw_232 kw_229 (by decide +kernel) (by decide +kernel)) <|
  am_c (ok_pop (by decide +kernel)) <|
  am_c (ok_lload_n (k := 3) (by decide +kernel) rfl) <|
  am_c (ok_bipush (z := 8) (by decide +kernel) (by decide +kernel)) <|
  am_c (ok_lshl (by decide +kernel)) <|
  am_c (ok_lload_n (k := 1) (by decide +kernel) rfl) <|
  am_c (ok_bipush (z := 56) (by decide +kernel) (by decide +kernel)) <|
  am_c (ok_lushr (by decide +kernel)) <|
  am_c (ok_lor (by decide +kernel)) <|
  am_c (ok_lstore_n (k := 3) (by decide +kernel) rfl) <|
  am_c (ok_lload_n (k := 1) (by decide +kernel) rfl) <|
  am_c (ok_bipush (z := 8) (by decide +kernel) (by decide +kernel)) <|
  am_c (ok_lshl (by decide +kernel)) <|
  am_c (ok_iload (by decide +kernel)) <|
  am_c (ok_sipush (z := 255) (by decide +kernel) (by decide +kernel)) <|
  am_c (ok_iand (by decide +kernel)) <|
  am_c (ok_i2l (by decide +kernel)) <|
  am_c (ok_lor (by decide +kernel)) <|
  am_c (ok_lstore_n (k := 1) (by decide +kernel) rfl) <|
  am_n
def k_c85_2 : List (Nat × am_A) := [(81, ac_aload 0 82), (82, ac_callV 5 62 1 85 am_nohd), (85, ac_istore 5 87), (87, ac_iinc 6 1 90), (90, ac_goto 13), (93, ac_lload 1 94), (94, ac_push (.long 0) 95), (95, ac_lli lg_cmp 96), (96, ac_if1 (fun x => ¬ x = 0) 105 99), (99, ac_aload 0 100), (100, ac_push (.int 4) 101), (101, ac_callV 5 48 2 104 am_nohd), (104, ac_pop 105), (105, ac_aload 0 106), (106, ac_get 2 5 1 109), (109, ac_lload 1 110), (110, ac_lload 3 111), (111, ac_push (.int 1) 112), (112, ac_callV 2 9 4 115 am_nohd), (115, ac_istore 6 117), (117, ac_iload 6 119), (119, ac_push (.int (-1)) 120), (120, ac_if2 (fun x y => ¬ x = y) 129 123), (123, ac_aload 0 124)]
theorem k_p85_2 : ∀ q ∈ k_c85_2, am_Ok k_nm D cA B0 sb H00 (k_Th B0 sb H00) prog_1_method_50_code "TokenMouth" "makeName" [] none q.1 q.2 :=
  am_c (ok_aload_n (k := 0) (by decide +kernel) rfl) <|
  am_c (ok_callV (by decide +kernel) (by decide +kernel) kw_331 kw_332 kw_333 kw_330 (by decide +kernel) (by decide +kernel)) <|
  am_c (ok_istore (by decide +kernel)) <|
  am_c (ok_iinc (z := 1) (by decide +kernel) (by decide +kernel)) <|
  am_c (ok_goto (off := -77) (by decide +kernel) (by decide +kernel)) <|
  am_c (ok_lload_n (k := 1) (by decide +kernel) rfl) <|
  am_c (ok_lconst (z := 0) (by decide +kernel) (by decide +kernel)) <|
  am_c (ok_lcmp (by decide +kernel)) <|
  am_c (ok_ifne (off := 9) (by decide +kernel) (by decide +kernel)) <|
  am_c (ok_aload_n (k := 0) (by decide +kernel) rfl) <|
  am_c (ok_iconst (z := 4) (by decide +kernel) (by decide +kernel)) <|
  am_c (ok_callV (by decide +kernel) (by decide +kernel) kw_230 kw_231 kw_232 kw_229 (by decide +kernel) (by decide +kernel)) <|
  am_c (ok_pop (by decide +kernel)) <|
  am_c (ok_aload_n (k := 0) (by decide +kernel) rfl) <|
  am_c (ok_get (by decide +kernel) (by decide +kernel) rfl (by decide +kernel) kw_118) <|
  am_c (ok_lload_n (k := 1) (by decide +kernel) rfl) <|
  am_c (ok_lload_n (k := 3) (by decide +kernel) rfl) <|
  am_c (ok_iconst (z := 1) (by decide +kernel) (by decide +kernel)) <|
  am_c (ok_callV (by decide +kernel) (by decide +kernel) kw_202 kw_203 kw_204 kw_201 (by decide +kernel) (by decide +kernel)) <|
  am_c (ok_istore (by decide +kernel)) <|
  am_c (ok_iload (by decide +kernel)) <|
  am_c (ok_iconst (z := -1) (by decide +kernel) (by decide +kernel)) <|
  am_c (ok_icmpne (off := 9) (by decide +kernel) (by decide +kernel)) <|
  am_c (ok_aload_n (k := 0) (by decide +kernel) rfl) <|
  am_n
def k_c85_3 : List (Nat × am_A) := [(124, ac_push (.int 5) 125), (125, ac_callV 5 48 2 128 am_nohd), (128, ac_pop 129), (129, ac_aload 0 130), (130, ac_get 2 5 1 133), (133, ac_iload 6 135), (135, ac_callV 2 10 2 138 am_nohd), (138, ac_if1 (fun x => ¬ x = 0) 152 141), (141, ac_aload 0 142), (142, ac_push (.int 4096) 145), (145, ac_iload 6 147), (147, ac_ii (fun x y => x + y) 148), (148, ac_push (.int 2) 149), (149, ac_callV 5 69 3 152 am_nohd), (152, ac_aload 0 153), (153, ac_push (.int 4096) 156), (156, ac_iload 6 158), (158, ac_ii (fun x y => x + y) 159), (159, ac_callV 5 63 2 162 am_nohd), (162, ac_ret)]
theorem k_p85_3 : ∀ q ∈ k_c85_3, am_Ok k_nm D cA B0 sb H00 (k_Th B0 sb H00) prog_1_method_50_code "TokenMouth" "makeName" [] none q.1 q.2 :=
  am_c (ok_iconst (z := 5) (by decide +kernel) (by decide +kernel)) <|
  am_c (ok_callV (by decide +kernel) (by decide +kernel) kw_230 kw_231 kw_232 kw_229 (by decide +kernel) (by decide +kernel)) <|
  am_c (ok_pop (by decide +kernel)) <|
  am_c (ok_aload_n (k := 0) (by decide +kernel) rfl) <|
  am_c (ok_get (by decide +kernel) (by decide +kernel) rfl (by decide +kernel) kw_118) <|
  am_c (ok_iload (by decide +kernel)) <|
  am_c (ok_callV (by decide +kernel) (by decide +kernel) kw_206 kw_207 kw_208 kw_205 (by decide +kernel) (by decide +kernel)) <|
  am_c (ok_ifne (off := 14) (by decide +kernel) (by decide +kernel)) <|
  am_c (ok_aload_n (k := 0) (by decide +kernel) rfl) <|
  am_c (ok_sipush (z := 4096) (by decide +kernel) (by decide +kernel)) <|
  am_c (ok_iload (by decide +kernel)) <|
  am_c (ok_iadd (by decide +kernel)) <|
  am_c (ok_iconst (z := 2) (by decide +kernel) (by decide +kernel)) <|
  am_c (ok_callV (by decide +kernel) (by decide +kernel) kw_308 kw_309 kw_310 kw_307 (by decide +kernel) (by decide +kernel)) <|
  am_c (ok_aload_n (k := 0) (by decide +kernel) rfl) <|
  am_c (ok_sipush (z := 4096) (by decide +kernel) (by decide +kernel)) <|
  am_c (ok_iload (by decide +kernel)) <|
  am_c (ok_iadd (by decide +kernel)) <|
  am_c (ok_callV (by decide +kernel) (by decide +kernel) kw_319 kw_320 kw_321 kw_318 (by decide +kernel) (by decide +kernel)) <|
  am_c (ok_ret (by decide +kernel) rfl) <|
  am_n
def k_t85 : List (Nat × List (Nat × am_A)) := [(44, k_c85_0), (80, k_c85_1), (123, k_c85_2), (162, k_c85_3)]
theorem k_o85 : ∀ c ∈ k_t85, ∀ q ∈ c.2, am_Ok k_nm D cA B0 sb H00 (k_Th B0 sb H00) prog_1_method_50_code "TokenMouth" "makeName" [] none q.1 q.2 := am_cc (P := fun pc a => am_Ok k_nm D cA B0 sb H00 (k_Th B0 sb H00) prog_1_method_50_code "TokenMouth" "makeName" [] none pc a) k_p85_0 <| am_cc (P := fun pc a => am_Ok k_nm D cA B0 sb H00 (k_Th B0 sb H00) prog_1_method_50_code "TokenMouth" "makeName" [] none pc a) k_p85_1 <| am_cc (P := fun pc a => am_Ok k_nm D cA B0 sb H00 (k_Th B0 sb H00) prog_1_method_50_code "TokenMouth" "makeName" [] none pc a) k_p85_2 <| am_cc (P := fun pc a => am_Ok k_nm D cA B0 sb H00 (k_Th B0 sb H00) prog_1_method_50_code "TokenMouth" "makeName" [] none pc a) k_p85_3 <| am_cn0
-- 86: TokenMouth.spell()V
def k_c86_0 : List (Nat × am_A) := [(0, ac_aload 0 1), (1, ac_push (.int 1) 2), (2, ac_callV 5 61 2 5 am_nohd), (5, ac_callS 52 1 8), (8, ac_istore 1 9), (9, ac_iload 1 10), (10, ac_push (.int 4096) 13), (13, ac_if2 (fun x y => y ≤ x) 25 16), (16, ac_aload 0 17), (17, ac_iload 1 18), (18, ac_callS 87 1 21), (21, ac_callV 5 63 2 24 am_nohd), (24, ac_ret), (25, ac_aload 0 26), (26, ac_get 2 5 1 29), (29, ac_iload 1 30), (30, ac_push (.int 4096) 33), (33, ac_ii (fun x y => x - y) 34), (34, ac_callV 2 12 2 37 am_nohd), (37, ac_lstore 2 38), (38, ac_push (.int 0) 39), (39, ac_istore 4 41), (41, ac_iload 4 43), (43, ac_push (.int 8) 45)]
theorem k_p86_0 : ∀ q ∈ k_c86_0, am_Ok k_nm D cA B0 sb H00 (k_Th B0 sb H00) prog_1_method_51_code "TokenMouth" "spell" [] none q.1 q.2 :=
  am_c (ok_aload_n (k := 0) (by decide +kernel) rfl) <|
  am_c (ok_iconst (z := 1) (by decide +kernel) (by decide +kernel)) <|
  am_c (ok_callV (by decide +kernel) (by decide +kernel) kw_157 kw_158 kw_159 kw_156 (by decide +kernel) (by decide +kernel)) <|
  am_c (ok_callS (by decide +kernel) kw_305 kw_306 kw_86 kw_304 (by decide +kernel) (by decide +kernel)) <|
  am_c (ok_istore_n (k := 1) (by decide +kernel) rfl) <|
  am_c (ok_iload_n (k := 1) (by decide +kernel) rfl) <|
  am_c (ok_sipush (z := 4096) (by decide +kernel) (by decide +kernel)) <|
  am_c (ok_icmpge (off := 12) (by decide +kernel) (by decide +kernel)) <|
  am_c (ok_aload_n (k := 0) (by decide +kernel) rfl) <|
  am_c (ok_iload_n (k := 1) (by decide +kernel) rfl) <|
  am_c (ok_callS (by decide +kernel) kw_394 kw_395 kw_86 kw_393 (by decide +kernel) (by decide +kernel)) <|
  am_c (ok_callV (by decide +kernel) (by decide +kernel) kw_319 kw_320 kw_321 kw_318 (by decide +kernel) (by decide +kernel)) <|
  am_c (ok_ret (by decide +kernel) rfl) <|
  am_c (ok_aload_n (k := 0) (by decide +kernel) rfl) <|
  am_c (ok_get (by decide +kernel) (by decide +kernel) rfl (by decide +kernel) kw_118) <|
  am_c (ok_iload_n (k := 1) (by decide +kernel) rfl) <|
  am_c (ok_sipush (z := 4096) (by decide +kernel) (by decide +kernel)) <|
  am_c (ok_isub (by decide +kernel)) <|
  am_c (ok_callV (by decide +kernel) (by decide +kernel) kw_396 kw_67 kw_68 kw_65 (by decide +kernel) (by decide +kernel)) <|
  am_c (ok_lstore_n (k := 2) (by decide +kernel) rfl) <|
  am_c (ok_iconst (z := 0) (by decide +kernel) (by decide +kernel)) <|
  am_c (ok_istore (by decide +kernel)) <|
  am_c (ok_iload (by decide +kernel)) <|
  am_c (ok_bipush (z := 8) (by decide +kernel) (by decide +kernel)) <|
  am_n
def k_c86_1 : List (Nat × am_A) := [(45, ac_if2 (fun x y => y ≤ x) 74 48), (48, ac_lload 2 49), (49, ac_push (.long 0) 50), (50, ac_lli lg_cmp 51), (51, ac_if1 (fun x => x = 0) 74 54), (54, ac_aload 0 55), (55, ac_lload 2 56), (56, ac_l2 (fun x => x.toInt32) 57), (57, ac_callS 87 1 60), (60, ac_callV 5 63 2 63 am_nohd), (63, ac_lload 2 64), (64, ac_push (.int 8) 66), (66, ac_li (fun x y => (x.toUInt64 >>> (y.toInt64.toUInt64 &&& Int64.toUInt64 63)).toInt64) 67), (67, ac_lstore 2 68), (68, ac_iinc 4 1 71), (71, ac_goto 41), (74, ac_aload 0 75), (75, ac_get 2 5 1 78), (78, ac_iload 1 79), (79, ac_push (.int 4096) 82), (82, ac_ii (fun x y => x - y) 83), (83, ac_callV 2 13 2 86 am_nohd), (86, ac_lstore 4 88), (88, ac_lload 4 90)]
theorem k_p86_1 : ∀ q ∈ k_c86_1, am_Ok k_nm D cA B0 sb H00 (k_Th B0 sb H00) prog_1_method_51_code "TokenMouth" "spell" [] none q.1 q.2 :=
  am_c (ok_icmpge (off := 29) (by decide +kernel) (by decide +kernel)) <|
  am_c (ok_lload_n (k := 2) (by decide +kernel) rfl) <|
  am_c (ok_lconst (z := 0) (by decide +kernel) (by decide +kernel)) <|
  am_c (ok_lcmp (by decide +kernel)) <|
  am_c (ok_ifeq (off := 23) (by decide +kernel) (by decide +kernel)) <|
  am_c (ok_aload_n (k := 0) (by decide +kernel) rfl) <|
  am_c (ok_lload_n (k := 2) (by decide +kernel) rfl) <|
  am_c (ok_l2i (by decide +kernel)) <|
  am_c (ok_callS (by decide +kernel) kw_394 kw_395 kw_86 kw_393 (by decide +kernel) (by decide +kernel)) <|
  am_c (ok_callV (by decide +kernel) (by decide +kernel) kw_319 kw_320 kw_321 kw_318 (by decide +kernel) (by decide +kernel)) <|
  am_c (ok_lload_n (k := 2) (by decide +kernel) rfl) <|
  am_c (ok_bipush (z := 8) (by decide +kernel) (by decide +kernel)) <|
  am_c (ok_lushr (by decide +kernel)) <|
  am_c (ok_lstore_n (k := 2) (by decide +kernel) rfl) <|
  am_c (ok_iinc (z := 1) (by decide +kernel) (by decide +kernel)) <|
  am_c (ok_goto (off := -30) (by decide +kernel) (by decide +kernel)) <|
  am_c (ok_aload_n (k := 0) (by decide +kernel) rfl) <|
  am_c (ok_get (by decide +kernel) (by decide +kernel) rfl (by decide +kernel) kw_118) <|
  am_c (ok_iload_n (k := 1) (by decide +kernel) rfl) <|
  am_c (ok_sipush (z := 4096) (by decide +kernel) (by decide +kernel)) <|
  am_c (ok_isub (by decide +kernel)) <|
  am_c (ok_callV (by decide +kernel) (by decide +kernel) kw_398 kw_399 kw_400 kw_397 (by decide +kernel) (by decide +kernel)) <|
  am_c (ok_lstore (by decide +kernel)) <|
  am_c (ok_lload (by decide +kernel)) <|
  am_n
def k_c86_2 : List (Nat × am_A) := [(90, ac_push (.long (-1)) 93), (93, ac_lli lg_cmp 94), (94, ac_if1 (fun x => ¬ x = 0) 98 97), (97, ac_ret), (98, ac_push (.int 0) 99), (99, ac_istore 6 101), (101, ac_iload 6 103), (103, ac_push (.int 8) 105), (105, ac_if2 (fun x y => y ≤ x) 138 108), (108, ac_lload 4 110), (110, ac_push (.long 0) 111), (111, ac_lli lg_cmp 112), (112, ac_if1 (fun x => x = 0) 138 115), (115, ac_aload 0 116), (116, ac_lload 4 118), (118, ac_l2 (fun x => x.toInt32) 119), (119, ac_callS 87 1 122), (122, ac_callV 5 63 2 125 am_nohd), (125, ac_lload 4 127), (127, ac_push (.int 8) 129), (129, ac_li (fun x y => (x.toUInt64 >>> (y.toInt64.toUInt64 &&& Int64.toUInt64 63)).toInt64) 130), (130, ac_lstore 4 132), (132, ac_iinc 6 1 135), (135, ac_goto 101)]
theorem k_p86_2 : ∀ q ∈ k_c86_2, am_Ok k_nm D cA B0 sb H00 (k_Th B0 sb H00) prog_1_method_51_code "TokenMouth" "spell" [] none q.1 q.2 :=
  am_c (ok_ldc2 (by decide +kernel) kw_200) <|
  am_c (ok_lcmp (by decide +kernel)) <|
  am_c (ok_ifne (off := 4) (by decide +kernel) (by decide +kernel)) <|
  am_c (ok_ret (by decide +kernel) rfl) <|
  am_c (ok_iconst (z := 0) (by decide +kernel) (by decide +kernel)) <|
  am_c (ok_istore (by decide +kernel)) <|
  am_c (ok_iload (by decide +kernel)) <|
  am_c (ok_bipush (z := 8) (by decide +kernel) (by decide +kernel)) <|
  am_c (ok_icmpge (off := 33) (by decide +kernel) (by decide +kernel)) <|
  am_c (ok_lload (by decide +kernel)) <|
  am_c (ok_lconst (z := 0) (by decide +kernel) (by decide +kernel)) <|
  am_c (ok_lcmp (by decide +kernel)) <|
  am_c (ok_ifeq (off := 26) (by decide +kernel) (by decide +kernel)) <|
  am_c (ok_aload_n (k := 0) (by decide +kernel) rfl) <|
  am_c (ok_lload (by decide +kernel)) <|
  am_c (ok_l2i (by decide +kernel)) <|
  am_c (ok_callS (by decide +kernel) kw_394 kw_395 kw_86 kw_393 (by decide +kernel) (by decide +kernel)) <|
  am_c (ok_callV (by decide +kernel) (by decide +kernel) kw_319 kw_320 kw_321 kw_318 (by decide +kernel) (by decide +kernel)) <|
  am_c (ok_lload (by decide +kernel)) <|
  am_c (ok_bipush (z := 8) (by decide +kernel) (by decide +kernel)) <|
  am_c (ok_lushr (by decide +kernel)) <|
  am_c (ok_lstore (by decide +kernel)) <|
  am_c (ok_iinc (z := 1) (by decide +kernel) (by decide +kernel)) <|
  am_c (ok_goto (off := -34) (by decide +kernel) (by decide +kernel)) <|
  am_n
def k_c86_3 : List (Nat × am_A) := [(138, ac_aload 0 139), (139, ac_push (.int 92) 141), (141, ac_callS 87 1 144), (144, ac_callV 5 63 2 147 am_nohd), (147, ac_ret)]
theorem k_p86_3 : ∀ q ∈ k_c86_3, am_Ok k_nm D cA B0 sb H00 (k_Th B0 sb H00) prog_1_method_51_code "TokenMouth" "spell" [] none q.1 q.2 :=
  am_c (ok_aload_n (k := 0) (by decide +kernel) rfl) <|
  am_c (ok_bipush (z := 92) (by decide +kernel) (by decide +kernel)) <|
  am_c (ok_callS (by decide +kernel) kw_394 kw_395 kw_86 kw_393 (by decide +kernel) (by decide +kernel)) <|
  am_c (ok_callV (by decide +kernel) (by decide +kernel) kw_319 kw_320 kw_321 kw_318 (by decide +kernel) (by decide +kernel)) <|
  am_c (ok_ret (by decide +kernel) rfl) <|
  am_n
def k_t86 : List (Nat × List (Nat × am_A)) := [(43, k_c86_0), (88, k_c86_1), (135, k_c86_2), (147, k_c86_3)]
theorem k_o86 : ∀ c ∈ k_t86, ∀ q ∈ c.2, am_Ok k_nm D cA B0 sb H00 (k_Th B0 sb H00) prog_1_method_51_code "TokenMouth" "spell" [] none q.1 q.2 := am_cc (P := fun pc a => am_Ok k_nm D cA B0 sb H00 (k_Th B0 sb H00) prog_1_method_51_code "TokenMouth" "spell" [] none pc a) k_p86_0 <| am_cc (P := fun pc a => am_Ok k_nm D cA B0 sb H00 (k_Th B0 sb H00) prog_1_method_51_code "TokenMouth" "spell" [] none pc a) k_p86_1 <| am_cc (P := fun pc a => am_Ok k_nm D cA B0 sb H00 (k_Th B0 sb H00) prog_1_method_51_code "TokenMouth" "spell" [] none pc a) k_p86_2 <| am_cc (P := fun pc a => am_Ok k_nm D cA B0 sb H00 (k_Th B0 sb H00) prog_1_method_51_code "TokenMouth" "spell" [] none pc a) k_p86_3 <| am_cn0
-- 87: TokenMouth.spelled(I)I
def k_c87_0 : List (Nat × am_A) := [(0, ac_iload 0 1), (1, ac_push (.int 255) 4), (4, ac_ii (fun x y => x &&& y) 5), (5, ac_istore 1 6), (6, ac_iload 1 7), (7, ac_push (.int 32) 9), (9, ac_if2 (fun x y => ¬ x = y) 18 12), (12, ac_push (.int 2592) 15), (15, ac_goto 23), (18, ac_iload 1 19), (19, ac_push (.int 3072) 22), (22, ac_ii (fun x y => x + y) 23), (23, ac_iret)]
theorem k_p87_0 : ∀ q ∈ k_c87_0, am_Ok k_nm D cA B0 sb H00 (k_Th B0 sb H00) prog_1_method_52_code "TokenMouth" "spelled" [] (some .int) q.1 q.2 :=
  am_c (ok_iload_n (k := 0) (by decide +kernel) rfl) <|
  am_c (ok_sipush (z := 255) (by decide +kernel) (by decide +kernel)) <|
  am_c (ok_iand (by decide +kernel)) <|
  am_c (ok_istore_n (k := 1) (by decide +kernel) rfl) <|
  am_c (ok_iload_n (k := 1) (by decide +kernel) rfl) <|
  am_c (ok_bipush (z := 32) (by decide +kernel) (by decide +kernel)) <|
  am_c (ok_icmpne (off := 9) (by decide +kernel) (by decide +kernel)) <|
  am_c (ok_sipush (z := 2592) (by decide +kernel) (by decide +kernel)) <|
  am_c (ok_goto (off := 8) (by decide +kernel) (by decide +kernel)) <|
  am_c (ok_iload_n (k := 1) (by decide +kernel) rfl) <|
  am_c (ok_sipush (z := 3072) (by decide +kernel) (by decide +kernel)) <|
  am_c (ok_iadd (by decide +kernel)) <|
  am_c (ok_iret (by decide +kernel) rfl) <|
  am_n
def k_t87 : List (Nat × List (Nat × am_A)) := [(23, k_c87_0)]
theorem k_o87 : ∀ c ∈ k_t87, ∀ q ∈ c.2, am_Ok k_nm D cA B0 sb H00 (k_Th B0 sb H00) prog_1_method_52_code "TokenMouth" "spelled" [] (some .int) q.1 q.2 := am_cc (P := fun pc a => am_Ok k_nm D cA B0 sb H00 (k_Th B0 sb H00) prog_1_method_52_code "TokenMouth" "spelled" [] (some .int) pc a) k_p87_0 <| am_cn0
-- 88: TokenMouth.openConditional(I)Z
def k_c88_0 : List (Nat × am_A) := [(0, ac_aload 0 1), (1, ac_get 2 5 5 4), (4, ac_push (.int 0) 5), (5, ac_callV 4 27 2 8 am_nohd), (8, ac_if1 (fun x => ¬ x = 0) 17 11), (11, ac_aload 0 12), (12, ac_push (.int 5) 13), (13, ac_callV 5 48 2 16 am_nohd), (16, ac_pop 17), (17, ac_aload 0 18), (18, ac_get 2 5 5 21), (21, ac_callV 4 24 1 24 am_nohd), (24, ac_istore 2 25), (25, ac_iload 1 26), (26, ac_push (.int 15) 28), (28, ac_if2 (fun x y => ¬ x = y) 35 31), (31, ac_push (.int 1) 32), (32, ac_goto 36), (35, ac_push (.int 0) 36), (36, ac_istore 3 37), (37, ac_iload 1 38), (38, ac_push (.int 13) 40), (40, ac_if2 (fun x y => ¬ x = y) 75 43), (43, ac_aload 0 44)]
theorem k_p88_0 : ∀ q ∈ k_c88_0, am_Ok k_nm D cA B0 sb H00 (k_Th B0 sb H00) prog_1_method_53_code "TokenMouth" "openConditional" [] (some .boolean) q.1 q.2 :=
  am_c (ok_aload_n (k := 0) (by decide +kernel) rfl) <|
  am_c (ok_get (by decide +kernel) (by decide +kernel) rfl (by decide +kernel) kw_130) <|
  am_c (ok_iconst (z := 0) (by decide +kernel) (by decide +kernel)) <|
  am_c (ok_callV (by decide +kernel) (by decide +kernel) kw_242 kw_21 kw_22 kw_19 (by decide +kernel) (by decide +kernel)) <|
  am_c (ok_ifne (off := 9) (by decide +kernel) (by decide +kernel)) <|
  am_c (ok_aload_n (k := 0) (by decide +kernel) rfl) <|
  am_c (ok_iconst (z := 5) (by decide +kernel) (by decide +kernel)) <|
  am_c (ok_callV (by decide +kernel) (by decide +kernel) kw_230 kw_231 kw_232 kw_229 (by decide +kernel) (by decide +kernel)) <|
  am_c (ok_pop (by decide +kernel)) <|
  am_c (ok_aload_n (k := 0) (by decide +kernel) rfl) <|
  am_c (ok_get (by decide +kernel) (by decide +kernel) rfl (by decide +kernel) kw_130) <|
  am_c (ok_callV (by decide +kernel) (by decide +kernel) kw_170 kw_17 kw_18 kw_15 (by decide +kernel) (by decide +kernel)) <|
  am_c (ok_istore_n (k := 2) (by decide +kernel) rfl) <|
  am_c (ok_iload_n (k := 1) (by decide +kernel) rfl) <|
  am_c (ok_bipush (z := 15) (by decide +kernel) (by decide +kernel)) <|
  am_c (ok_icmpne (off := 7) (by decide +kernel) (by decide +kernel)) <|
  am_c (ok_iconst (z := 1) (by decide +kernel) (by decide +kernel)) <|
  am_c (ok_goto (off := 4) (by decide +kernel) (by decide +kernel)) <|
  am_c (ok_iconst (z := 0) (by decide +kernel) (by decide +kernel)) <|
  am_c (ok_istore_n (k := 3) (by decide +kernel) rfl) <|
  am_c (ok_iload_n (k := 1) (by decide +kernel) rfl) <|
  am_c (ok_bipush (z := 13) (by decide +kernel) (by decide +kernel)) <|
  am_c (ok_icmpne (off := 35) (by decide +kernel) (by decide +kernel)) <|
  am_c (ok_aload_n (k := 0) (by decide +kernel) rfl) <|
  am_n
def k_c88_1 : List (Nat × am_A) := [(44, ac_aload 0 45), (45, ac_callV 5 62 1 48 am_nohd), (48, ac_callV 5 60 2 51 am_nohd), (51, ac_istore 4 53), (53, ac_iload 4 55), (55, ac_aload 0 56), (56, ac_aload 0 57), (57, ac_callV 5 62 1 60 am_nohd), (60, ac_callV 5 60 2 63 am_nohd), (63, ac_if2 (fun x y => ¬ x = y) 70 66), (66, ac_push (.int 1) 67), (67, ac_goto 71), (70, ac_push (.int 0) 71), (71, ac_istore 3 72), (72, ac_goto 108), (75, ac_iload 1 76), (76, ac_push (.int 14) 78), (78, ac_if2 (fun x y => ¬ x = y) 108 81), (81, ac_aload 0 82), (82, ac_aload 0 83), (83, ac_push (.int 1) 84), (84, ac_callV 5 61 2 87 am_nohd), (87, ac_callV 5 55 2 90 am_nohd), (90, ac_istore 4 92)]
theorem k_p88_1 : ∀ q ∈ k_c88_1, am_Ok k_nm D cA B0 sb H00 (k_Th B0 sb H00) prog_1_method_53_code "TokenMouth" "openConditional" [] (some .boolean) q.1 q.2 :=
  am_c (ok_aload_n (k := 0) (by decide +kernel) rfl) <|
  am_c (ok_callV (by decide +kernel) (by decide +kernel) kw_331 kw_332 kw_333 kw_330 (by decide +kernel) (by decide +kernel)) <|
  am_c (ok_callV (by decide +kernel) (by decide +kernel) kw_402 kw_403 kw_404 kw_401 (by decide +kernel) (by decide +kernel)) <|
  am_c (ok_istore (by decide +kernel)) <|
  am_c (ok_iload (by decide +kernel)) <|
  am_c (ok_aload_n (k := 0) (by decide +kernel) rfl) <|
  am_c (ok_aload_n (k := 0) (by decide +kernel) rfl) <|
  am_c (ok_callV (by decide +kernel) (by decide +kernel) kw_331 kw_332 kw_333 kw_330 (by decide +kernel) (by decide +kernel)) <|
  am_c (ok_callV (by decide +kernel) (by decide +kernel) kw_402 kw_403 kw_404 kw_401 (by decide +kernel) (by decide +kernel)) <|
  am_c (ok_icmpne (off := 7) (by decide +kernel) (by decide +kernel)) <|
  am_c (ok_iconst (z := 1) (by decide +kernel) (by decide +kernel)) <|
  am_c (ok_goto (off := 4) (by decide +kernel) (by decide +kernel)) <|
  am_c (ok_iconst (z := 0) (by decide +kernel) (by decide +kernel)) <|
  am_c (ok_istore_n (k := 3) (by decide +kernel) rfl) <|
  am_c (ok_goto (off := 36) (by decide +kernel) (by decide +kernel)) <|
  am_c (ok_iload_n (k := 1) (by decide +kernel) rfl) <|
  am_c (ok_bipush (z := 14) (by decide +kernel) (by decide +kernel)) <|
  am_c (ok_icmpne (off := 30) (by decide +kernel) (by decide +kernel)) <|
  am_c (ok_aload_n (k := 0) (by decide +kernel) rfl) <|
  am_c (ok_aload_n (k := 0) (by decide +kernel) rfl) <|
  am_c (ok_iconst (z := 1) (by decide +kernel) (by decide +kernel)) <|
  am_c (ok_callV (by decide +kernel) (by decide +kernel) kw_157 kw_158 kw_159 kw_156 (by decide +kernel) (by decide +kernel)) <|
  am_c (ok_callV (by decide +kernel) (by decide +kernel) kw_161 kw_162 kw_163 kw_160 (by decide +kernel) (by decide +kernel)) <|
  am_c (ok_istore (by decide +kernel)) <|
  am_n
def k_c88_2 : List (Nat × am_A) := [(92, ac_aload 0 93), (93, ac_iload 4 95), (95, ac_aload 0 96), (96, ac_aload 0 97), (97, ac_push (.int 1) 98), (98, ac_callV 5 61 2 101 am_nohd), (101, ac_callV 5 55 2 104 am_nohd), (104, ac_callV 5 59 3 107 am_nohd), (107, ac_istore 3 108), (108, ac_aload 0 109), (109, ac_get 2 5 5 112), (112, ac_iload 2 113), (113, ac_callV 4 30 2 116 am_nohd), (116, ac_iload 3 117), (117, ac_if1 (fun x => x = 0) 131 120), (120, ac_aload 0 121), (121, ac_get 2 5 5 124), (124, ac_iload 2 125), (125, ac_push (.int 1) 126), (126, ac_ii (fun x y => x - y) 127), (127, ac_push (.int 1) 128), (128, ac_callV 4 29 3 131 am_nohd), (131, ac_iload 3 132), (132, ac_zret)]
theorem k_p88_2 : ∀ q ∈ k_c88_2, am_Ok k_nm D cA B0 sb H00 (k_Th B0 sb H00) prog_1_method_53_code "TokenMouth" "openConditional" [] (some .boolean) q.1 q.2 :=
  am_c (ok_aload_n (k := 0) (by decide +kernel) rfl) <|
  am_c (ok_iload (by decide +kernel)) <|
  am_c (ok_aload_n (k := 0) (by decide +kernel) rfl) <|
  am_c (ok_aload_n (k := 0) (by decide +kernel) rfl) <|
  am_c (ok_iconst (z := 1) (by decide +kernel) (by decide +kernel)) <|
  am_c (ok_callV (by decide +kernel) (by decide +kernel) kw_157 kw_158 kw_159 kw_156 (by decide +kernel) (by decide +kernel)) <|
  am_c (ok_callV (by decide +kernel) (by decide +kernel) kw_161 kw_162 kw_163 kw_160 (by decide +kernel) (by decide +kernel)) <|
  am_c (ok_callV (by decide +kernel) (by decide +kernel) kw_406 kw_407 kw_408 kw_405 (by decide +kernel) (by decide +kernel)) <|
  am_c (ok_istore_n (k := 3) (by decide +kernel) rfl) <|
  am_c (ok_aload_n (k := 0) (by decide +kernel) rfl) <|
  am_c (ok_get (by decide +kernel) (by decide +kernel) rfl (by decide +kernel) kw_130) <|
  am_c (ok_iload_n (k := 2) (by decide +kernel) rfl) <|
  am_c (ok_callV (by decide +kernel) (by decide +kernel) kw_197 kw_13 kw_14 kw_11 (by decide +kernel) (by decide +kernel)) <|
  am_c (ok_iload_n (k := 3) (by decide +kernel) rfl) <|
  am_c (ok_ifeq (off := 14) (by decide +kernel) (by decide +kernel)) <|
  am_c (ok_aload_n (k := 0) (by decide +kernel) rfl) <|
  am_c (ok_get (by decide +kernel) (by decide +kernel) rfl (by decide +kernel) kw_130) <|
  am_c (ok_iload_n (k := 2) (by decide +kernel) rfl) <|
  am_c (ok_iconst (z := 1) (by decide +kernel) (by decide +kernel)) <|
  am_c (ok_isub (by decide +kernel)) <|
  am_c (ok_iconst (z := 1) (by decide +kernel) (by decide +kernel)) <|
  am_c (ok_callV (by decide +kernel) (by decide +kernel) kw_409 kw_37 kw_38 kw_35 (by decide +kernel) (by decide +kernel)) <|
  am_c (ok_iload_n (k := 3) (by decide +kernel) rfl) <|
  am_c (ok_zret (by decide +kernel) rfl) <|
  am_n
def k_t88 : List (Nat × List (Nat × am_A)) := [(43, k_c88_0), (90, k_c88_1), (132, k_c88_2)]
theorem k_o88 : ∀ c ∈ k_t88, ∀ q ∈ c.2, am_Ok k_nm D cA B0 sb H00 (k_Th B0 sb H00) prog_1_method_53_code "TokenMouth" "openConditional" [] (some .boolean) q.1 q.2 := am_cc (P := fun pc a => am_Ok k_nm D cA B0 sb H00 (k_Th B0 sb H00) prog_1_method_53_code "TokenMouth" "openConditional" [] (some .boolean) pc a) k_p88_0 <| am_cc (P := fun pc a => am_Ok k_nm D cA B0 sb H00 (k_Th B0 sb H00) prog_1_method_53_code "TokenMouth" "openConditional" [] (some .boolean) pc a) k_p88_1 <| am_cc (P := fun pc a => am_Ok k_nm D cA B0 sb H00 (k_Th B0 sb H00) prog_1_method_53_code "TokenMouth" "openConditional" [] (some .boolean) pc a) k_p88_2 <| am_cn0
-- 89: TokenMouth.pass(Z)V
def k_c89_0 : List (Nat × am_A) := [(0, ac_push (.int 0) 1), (1, ac_istore 2 2), (2, ac_push (.int 0) 3), (3, ac_istore 3 4), (4, ac_iload 3 5), (5, ac_push (.int 1000) 8), (8, ac_if2 (fun x y => y ≤ x) 104 11), (11, ac_aload 0 12), (12, ac_aload 0 13), (13, ac_push (.int 1) 14), (14, ac_callV 5 61 2 17 am_nohd), (17, ac_callV 5 55 2 20 am_nohd), (20, ac_istore 4 22), (22, ac_iload 4 24), (24, ac_push (.int 13) 26), (26, ac_if2 (fun x y => x < y) 42 29), (29, ac_iload 4 31), (31, ac_push (.int 16) 33), (33, ac_if2 (fun x y => y < x) 42 36), (36, ac_iinc 2 1 39), (39, ac_goto 52), (42, ac_iload 4 44), (44, ac_push (.int 18) 46), (46, ac_if2 (fun x y => ¬ x = y) 52 49)]
theorem k_p89_0 : ∀ q ∈ k_c89_0, am_Ok k_nm D cA B0 sb H00 (k_Th B0 sb H00) prog_1_method_54_code "TokenMouth" "pass" [] none q.1 q.2 :=
  am_c (ok_iconst (z := 0) (by decide +kernel) (by decide +kernel)) <|
  am_c (ok_istore_n (k := 2) (by decide +kernel) rfl) <|
  am_c (ok_iconst (z := 0) (by decide +kernel) (by decide +kernel)) <|
  am_c (ok_istore_n (k := 3) (by decide +kernel) rfl) <|
  am_c (ok_iload_n (k := 3) (by decide +kernel) rfl) <|
  am_c (ok_sipush (z := 1000) (by decide +kernel) (by decide +kernel)) <|
  am_c (ok_icmpge (off := 96) (by decide +kernel) (by decide +kernel)) <|
  am_c (ok_aload_n (k := 0) (by decide +kernel) rfl) <|
  am_c (ok_aload_n (k := 0) (by decide +kernel) rfl) <|
  am_c (ok_iconst (z := 1) (by decide +kernel) (by decide +kernel)) <|
  am_c (ok_callV (by decide +kernel) (by decide +kernel) kw_157 kw_158 kw_159 kw_156 (by decide +kernel) (by decide +kernel)) <|
  am_c (ok_callV (by decide +kernel) (by decide +kernel) kw_161 kw_162 kw_163 kw_160 (by decide +kernel) (by decide +kernel)) <|
  am_c (ok_istore (by decide +kernel)) <|
  am_c (ok_iload (by decide +kernel)) <|
  am_c (ok_bipush (z := 13) (by decide +kernel) (by decide +kernel)) <|
  am_c (ok_icmplt (off := 16) (by decide +kernel) (by decide +kernel)) <|
  am_c (ok_iload (by decide +kernel)) <|
  am_c (ok_bipush (z := 16) (by decide +kernel) (by decide +kernel)) <|
  am_c (ok_icmpgt (off := 9) (by decide +kernel) (by decide +kernel)) <|
  am_c (ok_iinc (z := 1) (by decide +kernel) (by decide +kernel)) <|
  am_c (ok_goto (off := 13) (by decide +kernel) (by decide +kernel)) <|
  am_c (ok_iload (by decide +kernel)) <|
  am_c (ok_bipush (z := 18) (by decide +kernel) (by decide +kernel)) <|
  am_c (ok_icmpne (off := 6) (by decide +kernel) (by decide +kernel)) <|
  am_n
def k_c89_1 : List (Nat × am_A) := [(49, ac_iinc 2 (-1) 52), (52, ac_iload 2 53), (53, ac_if1 (fun x => 0 ≤ x) 65 56), (56, ac_aload 0 57), (57, ac_get 2 5 5 60), (60, ac_callV 4 28 1 63 am_nohd), (63, ac_pop 64), (64, ac_ret), (65, ac_iload 4 67), (67, ac_push (.int 17) 69), (69, ac_if2 (fun x y => ¬ x = y) 98 72), (72, ac_iload 2 73), (73, ac_if1 (fun x => ¬ x = 0) 98 76), (76, ac_iload 1 77), (77, ac_if1 (fun x => x = 0) 98 80), (80, ac_aload 0 81), (81, ac_get 2 5 5 84), (84, ac_aload 0 85), (85, ac_get 2 5 5 88), (88, ac_callV 4 24 1 91 am_nohd), (91, ac_push (.int 1) 92), (92, ac_ii (fun x y => x - y) 93), (93, ac_push (.int 2) 94), (94, ac_callV 4 29 3 97 am_nohd)]
theorem k_p89_1 : ∀ q ∈ k_c89_1, am_Ok k_nm D cA B0 sb H00 (k_Th B0 sb H00) prog_1_method_54_code "TokenMouth" "pass" [] none q.1 q.2 :=
  am_c (ok_iinc (z := (-1)) (by decide +kernel) (by decide +kernel)) <|
  am_c (ok_iload_n (k := 2) (by decide +kernel) rfl) <|
  am_c (ok_ifge (off := 12) (by decide +kernel) (by decide +kernel)) <|
  am_c (ok_aload_n (k := 0) (by decide +kernel) rfl) <|
  am_c (ok_get (by decide +kernel) (by decide +kernel) rfl (by decide +kernel) kw_130) <|
  am_c (ok_callV (by decide +kernel) (by decide +kernel) kw_217 kw_218 kw_219 kw_216 (by decide +kernel) (by decide +kernel)) <|
  am_c (ok_pop (by decide +kernel)) <|
  am_c (ok_ret (by decide +kernel) rfl) <|
  am_c (ok_iload (by decide +kernel)) <|
  am_c (ok_bipush (z := 17) (by decide +kernel) (by decide +kernel)) <|
  am_c (ok_icmpne (off := 29) (by decide +kernel) (by decide +kernel)) <|
  am_c (ok_iload_n (k := 2) (by decide +kernel) rfl) <|
  am_c (ok_ifne (off := 25) (by decide +kernel) (by decide +kernel)) <|
  am_c (ok_iload_n (k := 1) (by decide +kernel) rfl) <|
  am_c (ok_ifeq (off := 21) (by decide +kernel) (by decide +kernel)) <|
  am_c (ok_aload_n (k := 0) (by decide +kernel) rfl) <|
  am_c (ok_get (by decide +kernel) (by decide +kernel) rfl (by decide +kernel) kw_130) <|
  am_c (ok_aload_n (k := 0) (by decide +kernel) rfl) <|
  am_c (ok_get (by decide +kernel) (by decide +kernel) rfl (by decide +kernel) kw_130) <|
  am_c (ok_callV (by decide +kernel) (by decide +kernel) kw_170 kw_17 kw_18 kw_15 (by decide +kernel) (by decide +kernel)) <|
  am_c (ok_iconst (z := 1) (by decide +kernel) (by decide +kernel)) <|
  am_c (ok_isub (by decide +kernel)) <|
  am_c (ok_iconst (z := 2) (by decide +kernel) (by decide +kernel)) <|
  am_c (ok_callV (by decide +kernel) (by decide +kernel) kw_409 kw_37 kw_38 kw_35 (by decide +kernel) (by decide +kernel)) <|
  am_n
def k_c89_2 : List (Nat × am_A) := [(97, ac_ret), (98, ac_iinc 3 1 101), (101, ac_goto 4), (104, ac_ret)]
theorem k_p89_2 : ∀ q ∈ k_c89_2, am_Ok k_nm D cA B0 sb H00 (k_Th B0 sb H00) prog_1_method_54_code "TokenMouth" "pass" [] none q.1 q.2 :=
  am_c (ok_ret (by decide +kernel) rfl) <|
  am_c (ok_iinc (z := 1) (by decide +kernel) (by decide +kernel)) <|
  am_c (ok_goto (off := -97) (by decide +kernel) (by decide +kernel)) <|
  am_c (ok_ret (by decide +kernel) rfl) <|
  am_n
def k_t89 : List (Nat × List (Nat × am_A)) := [(46, k_c89_0), (94, k_c89_1), (104, k_c89_2)]
theorem k_o89 : ∀ c ∈ k_t89, ∀ q ∈ c.2, am_Ok k_nm D cA B0 sb H00 (k_Th B0 sb H00) prog_1_method_54_code "TokenMouth" "pass" [] none q.1 q.2 := am_cc (P := fun pc a => am_Ok k_nm D cA B0 sb H00 (k_Th B0 sb H00) prog_1_method_54_code "TokenMouth" "pass" [] none pc a) k_p89_0 <| am_cc (P := fun pc a => am_Ok k_nm D cA B0 sb H00 (k_Th B0 sb H00) prog_1_method_54_code "TokenMouth" "pass" [] none pc a) k_p89_1 <| am_cc (P := fun pc a => am_Ok k_nm D cA B0 sb H00 (k_Th B0 sb H00) prog_1_method_54_code "TokenMouth" "pass" [] none pc a) k_p89_2 <| am_cn0
end
