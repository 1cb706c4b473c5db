/-! tables of the methods 79 to 90; printed by wip/whole/emit.py -/
section
variable {D : va_G} {cA : Nat → ClassId} {B0 : Nat} {sb : Nat → Option Nat} {H00 : Heap}
-- 79: TokenMouth.expand(I)V
def k_c79_0 : List (Nat × am_A) := [(0, ac_aload 0 1), (1, ac_get 0 5 12 4), (4, ac_push (.int 200) 7), (7, ac_if2 (fun x y => y ≤ x) 19 10), (10, ac_aload 0 11), (11, ac_get 0 5 13 14), (14, ac_push (.int 30) 16), (16, ac_if2 (fun x y => x < y) 25 19), (19, ac_aload 0 20), (20, ac_push (.int 5) 21), (21, ac_callV 5 48 2 24 am_nohd), (24, ac_pop 25), (25, ac_aload 0 26), (26, ac_dup 27), (27, ac_get 0 5 12 30), (30, ac_push (.int 1) 31), (31, ac_ii (fun x y => x + y) 32), (32, ac_putI 5 12 35), (35, ac_aload 0 36), (36, ac_dup 37), (37, ac_get 0 5 13 40), (40, ac_push (.int 1) 41), (41, ac_ii (fun x y => x + y) 42), (42, ac_putI 5 13 45)]
theorem k_p79_0 : ∀ q ∈ k_c79_0, am_Ok k_nm D cA B0 sb H00 (k_Th B0 sb H00) prog_1_method_44_code "TokenMouth" "expand" [] none q.1 q.2 :=
  am_c (ok_aload_n (k := 0) (by decide +kernel) rfl) <|
  am_c (ok_get (by decide +kernel) (by decide +kernel) rfl (by decide +kernel) kw_154) <|
  am_c (ok_sipush (z := 200) (by decide +kernel) (by decide +kernel)) <|
  am_c (ok_icmpge (off := 12) (by decide +kernel) (by decide +kernel)) <|
  am_c (ok_aload_n (k := 0) (by decide +kernel) rfl) <|
  am_c (ok_get (by decide +kernel) (by decide +kernel) rfl (by decide +kernel) kw_155) <|
  am_c (ok_bipush (z := 30) (by decide +kernel) (by decide +kernel)) <|
  am_c (ok_icmplt (off := 9) (by decide +kernel) (by decide +kernel)) <|
  am_c (ok_aload_n (k := 0) (by decide +kernel) rfl) <|
  am_c (ok_iconst (z := 5) (by decide +kernel) (by decide +kernel)) <|
  am_c (ok_callV (by decide +kernel) (by decide +kernel) kw_230 kw_231 kw_232 kw_229 (by decide +kernel) (by decide +kernel)) <|
  am_c (ok_pop (by decide +kernel)) <|
  am_c (ok_aload_n (k := 0) (by decide +kernel) rfl) <|
  am_c (ok_dup (by decide +kernel)) <|
  am_c (ok_get (by decide +kernel) (by decide +kernel) rfl (by decide +kernel) kw_154) <|
  am_c (ok_iconst (z := 1) (by decide +kernel) (by decide +kernel)) <|
  am_c (ok_iadd (by decide +kernel)) <|
  am_c (ok_putI (by decide +kernel) (by decide +kernel) rfl (by decide +kernel) kw_154 rfl) <|
  am_c (ok_aload_n (k := 0) (by decide +kernel) rfl) <|
  am_c (ok_dup (by decide +kernel)) <|
  am_c (ok_get (by decide +kernel) (by decide +kernel) rfl (by decide +kernel) kw_155) <|
  am_c (ok_iconst (z := 1) (by decide +kernel) (by decide +kernel)) <|
  am_c (ok_iadd (by decide +kernel)) <|
  am_c (ok_putI (by decide +kernel) (by decide +kernel) rfl (by decide +kernel) kw_155 rfl) <|
  am_n
def k_c79_1 : List (Nat × am_A) := [(45, ac_iload 1 46), (46, ac_sw [(8, 104), (9, 111), (10, 118), (11, 220), (12, 145), (13, 152), (14, 152), (15, 152), (16, 152), (17, 168), (18, 193)] 220), (104, ac_aload 0 105), (105, ac_callV 5 83 1 108 am_nohd), (108, ac_goto 295), (111, ac_aload 0 112), (112, ac_callV 5 84 1 115 am_nohd), (115, ac_goto 295), (118, ac_aload 0 119), (119, ac_callV 5 85 1 122 am_nohd), (122, ac_istore 2 123), (123, ac_aload 0 124), (124, ac_iload 2 125), (125, ac_callV 5 55 2 128 am_nohd), (128, ac_if1 (fun x => ¬ x = 0) 137 131), (131, ac_aload 0 132), (132, ac_iload 2 133), (133, ac_push (.int 2) 134), (134, ac_callV 5 69 3 137 am_nohd), (137, ac_aload 0 138), (138, ac_iload 2 139), (139, ac_callV 5 63 2 142 am_nohd), (142, ac_goto 295), (145, ac_aload 0 146)]
theorem k_p79_1 : ∀ q ∈ k_c79_1, am_Ok k_nm D cA B0 sb H00 (k_Th B0 sb H00) prog_1_method_44_code "TokenMouth" "expand" [] none q.1 q.2 :=
  am_c (ok_iload_n (k := 1) (by decide +kernel) rfl) <|
  am_c (ok_sw (dflt := 174) (lo := 8) (hi := 18) (offs := #[58, 65, 72, 174, 99, 106, 106, 106, 106, 122, 147]) (len := 58) (by decide +kernel) ⟨(by decide +kernel), (by decide +kernel), (by decide +kernel), (by decide +kernel), (by decide +kernel), (by decide +kernel), (by decide +kernel), (by decide +kernel), (by decide +kernel), (by decide +kernel), (by decide +kernel), (by decide +kernel), (by decide +kernel), (by decide +kernel), (by decide +kernel), (by decide +kernel), (by decide +kernel), (by decide +kernel), (by decide +kernel), (by decide +kernel), (by decide +kernel), (by decide +kernel), rfl⟩ (by decide +kernel) (by decide +kernel)) <|
  am_c (ok_aload_n (k := 0) (by decide +kernel) rfl) <|
  am_c (ok_callV (by decide +kernel) (by decide +kernel) kw_344 kw_345 kw_346 kw_343 (by decide +kernel) (by decide +kernel)) <|
  am_c (ok_goto (off := 187) (by decide +kernel) (by decide +kernel)) <|
  am_c (ok_aload_n (k := 0) (by decide +kernel) rfl) <|
  am_c (ok_callV (by decide +kernel) (by decide +kernel) kw_348 kw_349 kw_350 kw_347 (by decide +kernel) (by decide +kernel)) <|
  am_c (ok_goto (off := 180) (by decide +kernel) (by decide +kernel)) <|
  am_c (ok_aload_n (k := 0) (by decide +kernel) rfl) <|
  am_c (ok_callV (by decide +kernel) (by decide +kernel) kw_352 kw_353 kw_354 kw_351 (by decide +kernel) (by decide +kernel)) <|
  am_c (ok_istore_n (k := 2) (by decide +kernel) rfl) <|
  am_c (ok_aload_n (k := 0) (by decide +kernel) rfl) <|
  am_c (ok_iload_n (k := 2) (by decide +kernel) rfl) <|
  am_c (ok_callV (by decide +kernel) (by decide +kernel) kw_161 kw_162 kw_163 kw_160 (by decide +kernel) (by decide +kernel)) <|
  am_c (ok_ifne (off := 9) (by decide +kernel) (by decide +kernel)) <|
  am_c (ok_aload_n (k := 0) (by decide +kernel) rfl) <|
  am_c (ok_iload_n (k := 2) (by decide +kernel) rfl) <|
  am_c (ok_iconst (z := 2) (by decide +kernel) (by decide +kernel)) <|
  am_c (ok_callV (by decide +kernel) (by decide +kernel) kw_308 kw_309 kw_310 kw_307 (by decide +kernel) (by decide +kernel)) <|
  am_c (ok_aload_n (k := 0) (by decide +kernel) rfl) <|
  am_c (ok_iload_n (k := 2) (by decide +kernel) rfl) <|
  am_c (ok_callV (by decide +kernel) (by decide +kernel) kw_319 kw_320 kw_321 kw_318 (by decide +kernel) (by decide +kernel)) <|
  am_c (ok_goto (off := 153) (by decide +kernel) (by decide +kernel)) <|
  am_c (ok_aload_n (k := 0) (by decide +kernel) rfl) <|
  am_n
def k_c79_2 : List (Nat × am_A) := [(146, ac_callV 5 86 1 149 am_nohd), (149, ac_goto 295), (152, ac_aload 0 153), (153, ac_iload 1 154), (154, ac_callV 5 88 2 157 am_nohd), (157, ac_if1 (fun x => ¬ x = 0) 295 160), (160, ac_aload 0 161), (161, ac_push (.int 1) 162), (162, ac_callV 5 89 2 165 am_nohd), (165, ac_goto 295), (168, ac_aload 0 169), (169, ac_get 2 5 5 172), (172, ac_callV 4 26 1 175 am_nohd), (175, ac_push (.int 1) 176), (176, ac_if2 (fun x y => x = y) 185 179), (179, ac_aload 0 180), (180, ac_push (.int 1) 181), (181, ac_callV 5 48 2 184 am_nohd), (184, ac_pop 185), (185, ac_aload 0 186), (186, ac_push (.int 0) 187), (187, ac_callV 5 89 2 190 am_nohd), (190, ac_goto 295), (193, ac_aload 0 194)]
theorem k_p79_2 : ∀ q ∈ k_c79_2, am_Ok k_nm D cA B0 sb H00 (k_Th B0 sb H00) prog_1_method_44_code "TokenMouth" "expand" [] none q.1 q.2 :=
  am_c (ok_callV (by decide +kernel) (by decide +kernel) kw_356 kw_357 kw_358 kw_355 (by decide +kernel) (by decide +kernel)) <|
  am_c (ok_goto (off := 146) (by decide +kernel) (by decide +kernel)) <|
  am_c (ok_aload_n (k := 0) (by decide +kernel) rfl) <|
  am_c (ok_iload_n (k := 1) (by decide +kernel) rfl) <|
  am_c (ok_callV (by decide +kernel) (by decide +kernel) kw_360 kw_361 kw_362 kw_359 (by decide +kernel) (by decide +kernel)) <|
  am_c (ok_ifne (off := 138) (by decide +kernel) (by decide +kernel)) <|
  am_c (ok_aload_n (k := 0) (by decide +kernel) rfl) <|
  am_c (ok_iconst (z := 1) (by decide +kernel) (by decide +kernel)) <|
  am_c (ok_callV (by decide +kernel) (by decide +kernel) kw_364 kw_365 kw_366 kw_363 (by decide +kernel) (by decide +kernel)) <|
  am_c (ok_goto (off := 130) (by decide +kernel) (by decide +kernel)) <|
  am_c (ok_aload_n (k := 0) (by decide +kernel) rfl) <|
  am_c (ok_get (by decide +kernel) (by decide +kernel) rfl (by decide +kernel) kw_130) <|
  am_c (ok_callV (by decide +kernel) (by decide +kernel) kw_367 kw_25 kw_26 kw_23 (by decide +kernel) (by decide +kernel)) <|
  am_c (ok_iconst (z := 1) (by decide +kernel) (by decide +kernel)) <|
  am_c (ok_icmpeq (off := 9) (by decide +kernel) (by decide +kernel)) <|
  am_c (ok_aload_n (k := 0) (by decide +kernel) rfl) <|
  am_c (ok_iconst (z := 1) (by decide +kernel) (by decide +kernel)) <|
  am_c (ok_callV (by decide +kernel) (by decide +kernel) kw_230 kw_231 kw_232 kw_229 (by decide +kernel) (by decide +kernel)) <|
  am_c (ok_pop (by decide +kernel)) <|
  am_c (ok_aload_n (k := 0) (by decide +kernel) rfl) <|
  am_c (ok_iconst (z := 0) (by decide +kernel) (by decide +kernel)) <|
  am_c (ok_callV (by decide +kernel) (by decide +kernel) kw_364 kw_365 kw_366 kw_363 (by decide +kernel) (by decide +kernel)) <|
  am_c (ok_goto (off := 105) (by decide +kernel) (by decide +kernel)) <|
  am_c (ok_aload_n (k := 0) (by decide +kernel) rfl) <|
  am_n
def k_c79_3 : List (Nat × am_A) := [(194, ac_get 2 5 5 197), (197, ac_callV 4 26 1 200 am_nohd), (200, ac_if1 (fun x => 0 < x) 209 203), (203, ac_aload 0 204), (204, ac_push (.int 1) 205), (205, ac_callV 5 48 2 208 am_nohd), (208, ac_pop 209), (209, ac_aload 0 210), (210, ac_get 2 5 5 213), (213, ac_callV 4 28 1 216 am_nohd), (216, ac_pop 217), (217, ac_goto 295), (220, ac_aload 0 221), (221, ac_iload 1 222), (222, ac_callV 5 58 2 225 am_nohd), (225, ac_astore 3 226), (226, ac_aload 3 227), (227, ac_ifnull 295 230), (230, ac_aload 0 231), (231, ac_aload 3 232), (232, ac_get 2 1 0 235), (235, ac_callV 5 80 2 238 am_nohd), (238, ac_istore 4 240), (240, ac_push (.int 0) 241)]
theorem k_p79_3 : ∀ q ∈ k_c79_3, am_Ok k_nm D cA B0 sb H00 (k_Th B0 sb H00) prog_1_method_44_code "TokenMouth" "expand" [] none q.1 q.2 :=
  am_c (ok_get (by decide +kernel) (by decide +kernel) rfl (by decide +kernel) kw_130) <|
  am_c (ok_callV (by decide +kernel) (by decide +kernel) kw_367 kw_25 kw_26 kw_23 (by decide +kernel) (by decide +kernel)) <|
  am_c (ok_ifgt (off := 9) (by decide +kernel) (by decide +kernel)) <|
  am_c (ok_aload_n (k := 0) (by decide +kernel) rfl) <|
  am_c (ok_iconst (z := 1) (by decide +kernel) (by decide +kernel)) <|
  am_c (ok_callV (by decide +kernel) (by decide +kernel) kw_230 kw_231 kw_232 kw_229 (by decide +kernel) (by decide +kernel)) <|
  am_c (ok_pop (by decide +kernel)) <|
  am_c (ok_aload_n (k := 0) (by decide +kernel) rfl) <|
  am_c (ok_get (by decide +kernel) (by decide +kernel) rfl (by decide +kernel) kw_130) <|
  am_c (ok_callV (by decide +kernel) (by decide +kernel) kw_217 kw_218 kw_219 kw_216 (by decide +kernel) (by decide +kernel)) <|
  am_c (ok_pop (by decide +kernel)) <|
  am_c (ok_goto (off := 78) (by decide +kernel) (by decide +kernel)) <|
  am_c (ok_aload_n (k := 0) (by decide +kernel) rfl) <|
  am_c (ok_iload_n (k := 1) (by decide +kernel) rfl) <|
  am_c (ok_callV (by decide +kernel) (by decide +kernel) kw_185 kw_186 kw_187 kw_184 (by decide +kernel) (by decide +kernel)) <|
  am_c (ok_astore_n (k := 3) (by decide +kernel) rfl) <|
  am_c (ok_aload_n (k := 3) (by decide +kernel) rfl) <|
  am_c (ok_ifnull (off := 68) (by decide +kernel) (by decide +kernel)) <|
  am_c (ok_aload_n (k := 0) (by decide +kernel) rfl) <|
  am_c (ok_aload_n (k := 3) (by decide +kernel) rfl) <|
  am_c (ok_get (by decide +kernel) (by decide +kernel) rfl (by decide +kernel) kw_189) <|
  am_c (ok_callV (by decide +kernel) (by decide +kernel) kw_369 kw_370 kw_371 kw_368 (by decide +kernel) (by decide +kernel)) <|
  am_c (ok_istore (by decide +kernel)) <|
  am_c (ok_iconst (z := 0) (by decide +kernel) (by decide +kernel)) <|
  am_n
def k_c79_4 : List (Nat × am_A) := [(241, ac_istore 5 243), (243, ac_iload 5 245), (245, ac_aload 3 246), (246, ac_get 0 1 2 249), (249, ac_if2 (fun x y => y ≤ x) 287 252), (252, ac_iload 5 254), (254, ac_aload 0 255), (255, ac_get 2 5 6 258), (258, ac_alen 259), (259, ac_if2 (fun x y => y ≤ x) 287 262), (262, ac_aload 0 263), (263, ac_aload 3 264), (264, ac_get 2 1 0 267), (267, ac_iload 4 269), (269, ac_aload 0 270), (270, ac_get 2 5 6 273), (273, ac_iload 5 275), (275, ac_aald 3 276), (276, ac_callV 5 81 4 279 am_nohd), (279, ac_istore 4 281), (281, ac_iinc 5 1 284), (284, ac_goto 243), (287, ac_aload 0 288), (288, ac_aload 3 289)]
theorem k_p79_4 : ∀ q ∈ k_c79_4, am_Ok k_nm D cA B0 sb H00 (k_Th B0 sb H00) prog_1_method_44_code "TokenMouth" "expand" [] none q.1 q.2 :=
  am_c (ok_istore (by decide +kernel)) <|
  am_c (ok_iload (by decide +kernel)) <|
  am_c (ok_aload_n (k := 3) (by decide +kernel) rfl) <|
  am_c (ok_get (by decide +kernel) (by decide +kernel) rfl (by decide +kernel) kw_188) <|
  am_c (ok_icmpge (off := 38) (by decide +kernel) (by decide +kernel)) <|
  am_c (ok_iload (by decide +kernel)) <|
  am_c (ok_aload_n (k := 0) (by decide +kernel) rfl) <|
  am_c (ok_get (by decide +kernel) (by decide +kernel) rfl (by decide +kernel) kw_131) <|
  am_c (ok_alen (by decide +kernel)) <|
  am_c (ok_icmpge (off := 28) (by decide +kernel) (by decide +kernel)) <|
  am_c (ok_aload_n (k := 0) (by decide +kernel) rfl) <|
  am_c (ok_aload_n (k := 3) (by decide +kernel) rfl) <|
  am_c (ok_get (by decide +kernel) (by decide +kernel) rfl (by decide +kernel) kw_189) <|
  am_c (ok_iload (by decide +kernel)) <|
  am_c (ok_aload_n (k := 0) (by decide +kernel) rfl) <|
  am_c (ok_get (by decide +kernel) (by decide +kernel) rfl (by decide +kernel) kw_131) <|
  am_c (ok_iload (by decide +kernel)) <|
  am_c (ok_aald (by decide +kernel) (by decide +kernel)) <|
  am_c (ok_callV (by decide +kernel) (by decide +kernel) kw_373 kw_374 kw_375 kw_372 (by decide +kernel) (by decide +kernel)) <|
  am_c (ok_istore (by decide +kernel)) <|
  am_c (ok_iinc (z := 1) (by decide +kernel) (by decide +kernel)) <|
  am_c (ok_goto (off := -41) (by decide +kernel) (by decide +kernel)) <|
  am_c (ok_aload_n (k := 0) (by decide +kernel) rfl) <|
  am_c (ok_aload_n (k := 3) (by decide +kernel) rfl) <|
  am_n
def k_c79_5 : List (Nat × am_A) := [(289, ac_get 2 1 1 292), (292, ac_callV 5 82 2 295 am_nohd), (295, ac_aload 0 296), (296, ac_dup 297), (297, ac_get 0 5 13 300), (300, ac_push (.int 1) 301), (301, ac_ii (fun x y => x - y) 302), (302, ac_putI 5 13 305), (305, ac_ret)]
theorem k_p79_5 : ∀ q ∈ k_c79_5, am_Ok k_nm D cA B0 sb H00 (k_Th B0 sb H00) prog_1_method_44_code "TokenMouth" "expand" [] none q.1 q.2 :=
  am_c (ok_get (by decide +kernel) (by decide +kernel) rfl (by decide +kernel) kw_190) <|
  am_c (ok_callV (by decide +kernel) (by decide +kernel) kw_377 kw_378 kw_379 kw_376 (by decide +kernel) (by decide +kernel)) <|
  am_c (ok_aload_n (k := 0) (by decide +kernel) rfl) <|
  am_c (ok_dup (by decide +kernel)) <|
  am_c (ok_get (by decide +kernel) (by decide +kernel) rfl (by decide +kernel) kw_155) <|
  am_c (ok_iconst (z := 1) (by decide +kernel) (by decide +kernel)) <|
  am_c (ok_isub (by decide +kernel)) <|
  am_c (ok_putI (by decide +kernel) (by decide +kernel) rfl (by decide +kernel) kw_155 rfl) <|
  am_c (ok_ret (by decide +kernel) rfl) <|
  am_n
def k_t79 : List (Nat × List (Nat × am_A)) := [(42, k_c79_0), (145, k_c79_1), (193, k_c79_2), (240, k_c79_3), (288, k_c79_4), (305, k_c79_5)]
theorem k_o79 : ∀ c ∈ k_t79, ∀ q ∈ c.2, am_Ok k_nm D cA B0 sb H00 (k_Th B0 sb H00) prog_1_method_44_code "TokenMouth" "expand" [] none q.1 q.2 := am_cc (P := fun pc a => am_Ok k_nm D cA B0 sb H00 (k_Th B0 sb H00) prog_1_method_44_code "TokenMouth" "expand" [] none pc a) k_p79_0 <| am_cc (P := fun pc a => am_Ok k_nm D cA B0 sb H00 (k_Th B0 sb H00) prog_1_method_44_code "TokenMouth" "expand" [] none pc a) k_p79_1 <| am_cc (P := fun pc a => am_Ok k_nm D cA B0 sb H00 (k_Th B0 sb H00) prog_1_method_44_code "TokenMouth" "expand" [] none pc a) k_p79_2 <| am_cc (P := fun pc a => am_Ok k_nm D cA B0 sb H00 (k_Th B0 sb H00) prog_1_method_44_code "TokenMouth" "expand" [] none pc a) k_p79_3 <| am_cc (P := fun pc a => am_Ok k_nm D cA B0 sb H00 (k_Th B0 sb H00) prog_1_method_44_code "TokenMouth" "expand" [] none pc a) k_p79_4 <| am_cc (P := fun pc a => am_Ok k_nm D cA B0 sb H00 (k_Th B0 sb H00) prog_1_method_44_code "TokenMouth" "expand" [] none pc a) k_p79_5 <| am_cn0
-- 80: TokenMouth.matchStart(LTokenMouth$Row;)I
def k_c80_0 : List (Nat × am_A) := [(0, ac_aload 1 1), (1, ac_push (.int 0) 2), (2, ac_callV 4 34 2 5 am_nohd), (5, ac_istore 2 6), (6, ac_push (.int 0) 7), (7, ac_istore 3 8), (8, ac_iload 3 9), (9, ac_iload 2 10), (10, ac_if2 (fun x y => y ≤ x) 42 13), (13, ac_aload 0 14), (14, ac_push (.int 1) 15), (15, ac_callV 5 61 2 18 am_nohd), (18, ac_callS 52 1 21), (21, ac_aload 1 22), (22, ac_iload 3 23), (23, ac_callV 4 25 2 26 am_nohd), (26, ac_if2 (fun x y => x = y) 36 29), (29, ac_aload 0 30), (30, ac_push (.int 6) 32), (32, ac_callV 5 48 2 35 am_nohd), (35, ac_pop 36), (36, ac_iinc 3 1 39), (39, ac_goto 8), (42, ac_iload 2 43)]
theorem k_p80_0 : ∀ q ∈ k_c80_0, am_Ok k_nm D cA B0 sb H00 (k_Th B0 sb H00) prog_1_method_45_code "TokenMouth" "matchStart" [] (some .int) q.1 q.2 :=
  am_c (ok_aload_n (k := 1) (by decide +kernel) rfl) <|
  am_c (ok_iconst (z := 0) (by decide +kernel) (by decide +kernel)) <|
  am_c (ok_callV (by decide +kernel) (by decide +kernel) kw_381 kw_382 kw_383 kw_380 (by decide +kernel) (by decide +kernel)) <|
  am_c (ok_istore_n (k := 2) (by decide +kernel) rfl) <|
  am_c (ok_iconst (z := 0) (by decide +kernel) (by decide +kernel)) <|
  am_c (ok_istore_n (k := 3) (by decide +kernel) rfl) <|
  am_c (ok_iload_n (k := 3) (by decide +kernel) rfl) <|
  am_c (ok_iload_n (k := 2) (by decide +kernel) rfl) <|
  am_c (ok_icmpge (off := 32) (by decide +kernel) (by decide +kernel)) <|
  am_c (ok_aload_n (k := 0) (by decide +kernel) rfl) <|
  am_c (ok_iconst (z := 1) (by decide +kernel) (by decide +kernel)) <|
  am_c (ok_callV (by decide +kernel) (by decide +kernel) kw_157 kw_158 kw_159 kw_156 (by decide +kernel) (by decide +kernel)) <|
  am_c (ok_callS (by decide +kernel) kw_305 kw_306 kw_86 kw_304 (by decide +kernel) (by decide +kernel)) <|
  am_c (ok_aload_n (k := 1) (by decide +kernel) rfl) <|
  am_c (ok_iload_n (k := 3) (by decide +kernel) rfl) <|
  am_c (ok_callV (by decide +kernel) (by decide +kernel) kw_169 kw_33 kw_34 kw_31 (by decide +kernel) (by decide +kernel)) <|
  am_c (ok_icmpeq (off := 10) (by decide +kernel) (by decide +kernel)) <|
  am_c (ok_aload_n (k := 0) (by decide +kernel) rfl) <|
  am_c (ok_bipush (z := 6) (by decide +kernel) (by decide +kernel)) <|
  am_c (ok_callV (by decide +kernel) (by decide +kernel) kw_230 kw_231 kw_232 kw_229 (by decide +kernel) (by decide +kernel)) <|
  am_c (ok_pop (by decide +kernel)) <|
  am_c (ok_iinc (z := 1) (by decide +kernel) (by decide +kernel)) <|
  am_c (ok_goto (off := -31) (by decide +kernel) (by decide +kernel)) <|
  am_c (ok_iload_n (k := 2) (by decide +kernel) rfl) <|
  am_n
def k_c80_1 : List (Nat × am_A) := [(43, ac_iret)]
theorem k_p80_1 : ∀ q ∈ k_c80_1, am_Ok k_nm D cA B0 sb H00 (k_Th B0 sb H00) prog_1_method_45_code "TokenMouth" "matchStart" [] (some .int) q.1 q.2 :=
  am_c (ok_iret (by decide +kernel) rfl) <|
  am_n
def k_t80 : List (Nat × List (Nat × am_A)) := [(42, k_c80_0), (43, k_c80_1)]
theorem k_o80 : ∀ c ∈ k_t80, ∀ q ∈ c.2, am_Ok k_nm D cA B0 sb H00 (k_Th B0 sb H00) prog_1_method_45_code "TokenMouth" "matchStart" [] (some .int) q.1 q.2 := am_cc (P := fun pc a => am_Ok k_nm D cA B0 sb H00 (k_Th B0 sb H00) prog_1_method_45_code "TokenMouth" "matchStart" [] (some .int) pc a) k_p80_0 <| am_cc (P := fun pc a => am_Ok k_nm D cA B0 sb H00 (k_Th B0 sb H00) prog_1_method_45_code "TokenMouth" "matchStart" [] (some .int) pc a) k_p80_1 <| am_cn0
-- 81: TokenMouth.takeArgument(LTokenMouth$Row;ILTokenMouth$Row;)I
def k_c81_0 : List (Nat × am_A) := [(0, ac_iload 2 1), (1, ac_push (.int 1) 2), (2, ac_ii (fun x y => x + y) 3), (3, ac_istore 4 5), (5, ac_aload 1 6), (6, ac_iload 4 8), (8, ac_callV 4 34 2 11 am_nohd), (11, ac_istore 5 13), (13, ac_aload 1 14), (14, ac_push (.int 4096) 17), (17, ac_iload 4 19), (19, ac_iload 5 21), (21, ac_callV 4 32 4 24 am_nohd), (24, ac_istore 6 26), (26, ac_aload 3 27), (27, ac_push (.int 0) 28), (28, ac_callV 4 30 2 31 am_nohd), (31, ac_aload 0 32), (32, ac_push (.int 1) 33), (33, ac_callV 5 61 2 36 am_nohd), (36, ac_istore 7 38), (38, ac_push (.int 0) 39), (39, ac_istore 8 41), (41, ac_iload 4 43)]
theorem k_p81_0 : ∀ q ∈ k_c81_0, am_Ok k_nm D cA B0 sb H00 (k_Th B0 sb H00) prog_1_method_46_code "TokenMouth" "takeArgument" [] (some .int) q.1 q.2 :=
  am_c (ok_iload_n (k := 2) (by decide +kernel) rfl) <|
  am_c (ok_iconst (z := 1) (by decide +kernel) (by decide +kernel)) <|
  am_c (ok_iadd (by decide +kernel)) <|
  am_c (ok_istore (by decide +kernel)) <|
  am_c (ok_aload_n (k := 1) (by decide +kernel) rfl) <|
  am_c (ok_iload (by decide +kernel)) <|
  am_c (ok_callV (by decide +kernel) (by decide +kernel) kw_381 kw_382 kw_383 kw_380 (by decide +kernel) (by decide +kernel)) <|
  am_c (ok_istore (by decide +kernel)) <|
  am_c (ok_aload_n (k := 1) (by decide +kernel) rfl) <|
  am_c (ok_sipush (z := 4096) (by decide +kernel) (by decide +kernel)) <|
  am_c (ok_iload (by decide +kernel)) <|
  am_c (ok_iload (by decide +kernel)) <|
  am_c (ok_callV (by decide +kernel) (by decide +kernel) kw_384 kw_29 kw_30 kw_27 (by decide +kernel) (by decide +kernel)) <|
  am_c (ok_istore (by decide +kernel)) <|
  am_c (ok_aload_n (k := 3) (by decide +kernel) rfl) <|
  am_c (ok_iconst (z := 0) (by decide +kernel) (by decide +kernel)) <|
  am_c (ok_callV (by decide +kernel) (by decide +kernel) kw_197 kw_13 kw_14 kw_11 (by decide +kernel) (by decide +kernel)) <|
  am_c (ok_aload_n (k := 0) (by decide +kernel) rfl) <|
  am_c (ok_iconst (z := 1) (by decide +kernel) (by decide +kernel)) <|
  am_c (ok_callV (by decide +kernel) (by decide +kernel) kw_157 kw_158 kw_159 kw_156 (by decide +kernel) (by decide +kernel)) <|
  am_c (ok_istore (by decide +kernel)) <|
  am_c (ok_iconst (z := 0) (by decide +kernel) (by decide +kernel)) <|
  am_c (ok_istore (by decide +kernel)) <|
  am_c (ok_iload (by decide +kernel)) <|
  am_n
def k_c81_1 : List (Nat × am_A) := [(43, ac_iload 5 45), (45, ac_if2 (fun x y => ¬ x = y) 77 48), (48, ac_iload 7 50), (50, ac_push (.int 2592) 53), (53, ac_if2 (fun x y => ¬ x = y) 77 56), (56, ac_iload 8 58), (58, ac_push (.int 1000) 61), (61, ac_if2 (fun x y => y ≤ x) 77 64), (64, ac_aload 0 65), (65, ac_push (.int 1) 66), (66, ac_callV 5 61 2 69 am_nohd), (69, ac_istore 7 71), (71, ac_iinc 8 1 74), (74, ac_goto 41), (77, ac_push (.int 0) 78), (78, ac_istore 8 80), (80, ac_push (.int 1) 81), (81, ac_istore 9 83), (83, ac_iload 9 85), (85, ac_push (.int 40) 87), (87, ac_if2 (fun x y => y < x) 196 90), (90, ac_iload 7 92), (92, ac_callS 52 1 95), (95, ac_istore 7 97)]
theorem k_p81_1 : ∀ q ∈ k_c81_1, am_Ok k_nm D cA B0 sb H00 (k_Th B0 sb H00) prog_1_method_46_code "TokenMouth" "takeArgument" [] (some .int) q.1 q.2 :=
  am_c (ok_iload (by decide +kernel)) <|
  am_c (ok_icmpne (off := 32) (by decide +kernel) (by decide +kernel)) <|
  am_c (ok_iload (by decide +kernel)) <|
  am_c (ok_sipush (z := 2592) (by decide +kernel) (by decide +kernel)) <|
  am_c (ok_icmpne (off := 24) (by decide +kernel) (by decide +kernel)) <|
  am_c (ok_iload (by decide +kernel)) <|
  am_c (ok_sipush (z := 1000) (by decide +kernel) (by decide +kernel)) <|
  am_c (ok_icmpge (off := 16) (by decide +kernel) (by decide +kernel)) <|
  am_c (ok_aload_n (k := 0) (by decide +kernel) rfl) <|
  am_c (ok_iconst (z := 1) (by decide +kernel) (by decide +kernel)) <|
  am_c (ok_callV (by decide +kernel) (by decide +kernel) kw_157 kw_158 kw_159 kw_156 (by decide +kernel) (by decide +kernel)) <|
  am_c (ok_istore (by decide +kernel)) <|
  am_c (ok_iinc (z := 1) (by decide +kernel) (by decide +kernel)) <|
  am_c (ok_goto (off := -33) (by decide +kernel) (by decide +kernel)) <|
  am_c (ok_iconst (z := 0) (by decide +kernel) (by decide +kernel)) <|
  am_c (ok_istore (by decide +kernel)) <|
  am_c (ok_iconst (z := 1) (by decide +kernel) (by decide +kernel)) <|
  am_c (ok_istore (by decide +kernel)) <|
  am_c (ok_iload (by decide +kernel)) <|
  am_c (ok_bipush (z := 40) (by decide +kernel) (by decide +kernel)) <|
  am_c (ok_icmpgt (off := 109) (by decide +kernel) (by decide +kernel)) <|
  am_c (ok_iload (by decide +kernel)) <|
  am_c (ok_callS (by decide +kernel) kw_305 kw_306 kw_86 kw_304 (by decide +kernel) (by decide +kernel)) <|
  am_c (ok_istore (by decide +kernel)) <|
  am_n
def k_c81_2 : List (Nat × am_A) := [(97, ac_iload 7 99), (99, ac_push (.int 4096) 102), (102, ac_if2 (fun x y => ¬ x = y) 117 105), (105, ac_iload 6 107), (107, ac_if1 (fun x => ¬ x = 0) 117 110), (110, ac_aload 0 111), (111, ac_push (.int 7) 113), (113, ac_callV 5 48 2 116 am_nohd), (116, ac_pop 117), (117, ac_iload 8 119), (119, ac_iload 7 121), (121, ac_callS 54 1 124), (124, ac_ii (fun x y => x + y) 125), (125, ac_istore 8 127), (127, ac_iload 8 129), (129, ac_if1 (fun x => 0 ≤ x) 138 132), (132, ac_aload 0 133), (133, ac_push (.int 1) 134), (134, ac_callV 5 48 2 137 am_nohd), (137, ac_pop 138), (138, ac_aload 3 139), (139, ac_iload 7 141), (141, ac_callV 4 27 2 144 am_nohd), (144, ac_pop 145)]
theorem k_p81_2 : ∀ q ∈ k_c81_2, am_Ok k_nm D cA B0 sb H00 (k_Th B0 sb H00) prog_1_method_46_code "TokenMouth" "takeArgument" [] (some .int) q.1 q.2 :=
  am_c (ok_iload (by decide +kernel)) <|
  am_c (ok_sipush (z := 4096) (by decide +kernel) (by decide +kernel)) <|
  am_c (ok_icmpne (off := 15) (by decide +kernel) (by decide +kernel)) <|
  am_c (ok_iload (by decide +kernel)) <|
  am_c (ok_ifne (off := 10) (by decide +kernel) (by decide +kernel)) <|
  am_c (ok_aload_n (k := 0) (by decide +kernel) rfl) <|
  am_c (ok_bipush (z := 7) (by decide +kernel) (by decide +kernel)) <|
  am_c (ok_callV (by decide +kernel) (by decide +kernel) kw_230 kw_231 kw_232 kw_229 (by decide +kernel) (by decide +kernel)) <|
  am_c (ok_pop (by decide +kernel)) <|
  am_c (ok_iload (by decide +kernel)) <|
  am_c (ok_iload (by decide +kernel)) <|
  am_c (ok_callS (by decide +kernel) kw_334 kw_99 kw_86 kw_98 (by decide +kernel) (by decide +kernel)) <|
  am_c (ok_iadd (by decide +kernel)) <|
  am_c (ok_istore (by decide +kernel)) <|
  am_c (ok_iload (by decide +kernel)) <|
  am_c (ok_ifge (off := 9) (by decide +kernel) (by decide +kernel)) <|
  am_c (ok_aload_n (k := 0) (by decide +kernel) rfl) <|
  am_c (ok_iconst (z := 1) (by decide +kernel) (by decide +kernel)) <|
  am_c (ok_callV (by decide +kernel) (by decide +kernel) kw_230 kw_231 kw_232 kw_229 (by decide +kernel) (by decide +kernel)) <|
  am_c (ok_pop (by decide +kernel)) <|
  am_c (ok_aload_n (k := 3) (by decide +kernel) rfl) <|
  am_c (ok_iload (by decide +kernel)) <|
  am_c (ok_callV (by decide +kernel) (by decide +kernel) kw_242 kw_21 kw_22 kw_19 (by decide +kernel) (by decide +kernel)) <|
  am_c (ok_pop (by decide +kernel)) <|
  am_n
def k_c81_3 : List (Nat × am_A) := [(145, ac_iload 8 147), (147, ac_if1 (fun x => ¬ x = 0) 183 150), (150, ac_aload 3 151), (151, ac_aload 1 152), (152, ac_iload 4 154), (154, ac_iload 5 156), (156, ac_callV 4 33 4 159 am_nohd), (159, ac_if1 (fun x => x = 0) 183 162), (162, ac_aload 3 163), (163, ac_aload 3 164), (164, ac_callV 4 24 1 167 am_nohd), (167, ac_iload 5 169), (169, ac_iload 4 171), (171, ac_ii (fun x y => x - y) 172), (172, ac_ii (fun x y => x - y) 173), (173, ac_callV 4 30 2 176 am_nohd), (176, ac_aload 3 177), (177, ac_callV 4 35 1 180 am_nohd), (180, ac_iload 5 182), (182, ac_iret), (183, ac_aload 0 184), (184, ac_push (.int 1) 185), (185, ac_callV 5 61 2 188 am_nohd), (188, ac_istore 7 190)]
theorem k_p81_3 : ∀ q ∈ k_c81_3, am_Ok k_nm D cA B0 sb H00 (k_Th B0 sb H00) prog_1_method_46_code "TokenMouth" "takeArgument" [] (some .int) q.1 q.2 :=
  am_c (ok_iload (by decide +kernel)) <|
  am_c (ok_ifne (off := 36) (by decide +kernel) (by decide +kernel)) <|
  am_c (ok_aload_n (k := 3) (by decide +kernel) rfl) <|
  am_c (ok_aload_n (k := 1) (by decide +kernel) rfl) <|
  am_c (ok_iload (by decide +kernel)) <|
  am_c (ok_iload (by decide +kernel)) <|
  am_c (ok_callV (by decide +kernel) (by decide +kernel) kw_386 kw_387 kw_388 kw_385 (by decide +kernel) (by decide +kernel)) <|
  am_c (ok_ifeq (off := 24) (by decide +kernel) (by decide +kernel)) <|
  am_c (ok_aload_n (k := 3) (by decide +kernel) rfl) <|
  am_c (ok_aload_n (k := 3) (by decide +kernel) rfl) <|
  am_c (ok_callV (by decide +kernel) (by decide +kernel) kw_170 kw_17 kw_18 kw_15 (by decide +kernel) (by decide +kernel)) <|
  am_c (ok_iload (by decide +kernel)) <|
  am_c (ok_iload (by decide +kernel)) <|
  am_c (ok_isub (by decide +kernel)) <|
  am_c (ok_isub (by decide +kernel)) <|
  am_c (ok_callV (by decide +kernel) (by decide +kernel) kw_197 kw_13 kw_14 kw_11 (by decide +kernel) (by decide +kernel)) <|
  am_c (ok_aload_n (k := 3) (by decide +kernel) rfl) <|
  am_c (ok_callV (by decide +kernel) (by decide +kernel) kw_390 kw_391 kw_392 kw_389 (by decide +kernel) (by decide +kernel)) <|
  am_c (ok_iload (by decide +kernel)) <|
  am_c (ok_iret (by decide +kernel) rfl) <|
  am_c (ok_aload_n (k := 0) (by decide +kernel) rfl) <|
  am_c (ok_iconst (z := 1) (by decide +kernel) (by decide +kernel)) <|
  am_c (ok_callV (by decide +kernel) (by decide +kernel) kw_157 kw_158 kw_159 kw_156 (by decide +kernel) (by decide +kernel)) <|
  am_c (ok_istore (by decide +kernel)) <|
  am_n
def k_c81_4 : List (Nat × am_A) := [(190, ac_iinc 9 1 193), (193, ac_goto 83), (196, ac_aload 0 197), (197, ac_push (.int 5) 198), (198, ac_callV 5 48 2 201 am_nohd), (201, ac_iret)]
theorem k_p81_4 : ∀ q ∈ k_c81_4, am_Ok k_nm D cA B0 sb H00 (k_Th B0 sb H00) prog_1_method_46_code "TokenMouth" "takeArgument" [] (some .int) q.1 q.2 :=
  am_c (ok_iinc (z := 1) (by decide +kernel) (by decide +kernel)) <|
  am_c (ok_goto (off := -110) (by decide +kernel) (by decide +kernel)) <|
  am_c (ok_aload_n (k := 0) (by decide +kernel) rfl) <|
  am_c (ok_iconst (z := 5) (by decide +kernel) (by decide +kernel)) <|
  am_c (ok_callV (by decide +kernel) (by decide +kernel) kw_230 kw_231 kw_232 kw_229 (by decide +kernel) (by decide +kernel)) <|
  am_c (ok_iret (by decide +kernel) rfl) <|
  am_n
def k_t81 : List (Nat × List (Nat × am_A)) := [(41, k_c81_0), (95, k_c81_1), (144, k_c81_2), (188, k_c81_3), (201, k_c81_4)]
theorem k_o81 : ∀ c ∈ k_t81, ∀ q ∈ c.2, am_Ok k_nm D cA B0 sb H00 (k_Th B0 sb H00) prog_1_method_46_code "TokenMouth" "takeArgument" [] (some .int) q.1 q.2 := am_cc (P := fun pc a => am_Ok k_nm D cA B0 sb H00 (k_Th B0 sb H00) prog_1_method_46_code "TokenMouth" "takeArgument" [] (some .int) pc a) k_p81_0 <| am_cc (P := fun pc a => am_Ok k_nm D cA B0 sb H00 (k_Th B0 sb H00) prog_1_method_46_code "TokenMouth" "takeArgument" [] (some .int) pc a) k_p81_1 <| am_cc (P := fun pc a => am_Ok k_nm D cA B0 sb H00 (k_Th B0 sb H00) prog_1_method_46_code "TokenMouth" "takeArgument" [] (some .int) pc a) k_p81_2 <| am_cc (P := fun pc a => am_Ok k_nm D cA B0 sb H00 (k_Th B0 sb H00) prog_1_method_46_code "TokenMouth" "takeArgument" [] (some .int) pc a) k_p81_3 <| am_cc (P := fun pc a => am_Ok k_nm D cA B0 sb H00 (k_Th B0 sb H00) prog_1_method_46_code "TokenMouth" "takeArgument" [] (some .int) pc a) k_p81_4 <| am_cn0
-- 82: TokenMouth.putBodyBack(LTokenMouth$Row;)V
def k_c82_0 : List (Nat × am_A) := [(0, ac_aload 1 1), (1, ac_callV 4 24 1 4 am_nohd), (4, ac_push (.int 1) 5), (5, ac_ii (fun x y => x - y) 6), (6, ac_istore 2 7), (7, ac_iload 2 8), (8, ac_if1 (fun x => x < 0) 95 11), (11, ac_aload 1 12), (12, ac_iload 2 13), (13, ac_callV 4 25 2 16 am_nohd), (16, ac_istore 3 17), (17, ac_iload 3 18), (18, ac_push (.int 8192) 21), (21, ac_ii (fun x y => x - y) 22), (22, ac_push (.int 1) 23), (23, ac_ii (fun x y => x - y) 24), (24, ac_istore 4 26), (26, ac_iload 4 28), (28, ac_if1 (fun x => x < 0) 41 31), (31, ac_iload 4 33), (33, ac_aload 0 34), (34, ac_get 2 5 6 37), (37, ac_alen 38), (38, ac_if2 (fun x y => x < y) 49 41)]
theorem k_p82_0 : ∀ q ∈ k_c82_0, am_Ok k_nm D cA B0 sb H00 (k_Th B0 sb H00) prog_1_method_47_code "TokenMouth" "putBodyBack" [] none q.1 q.2 :=
  am_c (ok_aload_n (k := 1) (by decide +kernel) rfl) <|
  am_c (ok_callV (by decide +kernel) (by decide +kernel) kw_170 kw_17 kw_18 kw_15 (by decide +kernel) (by decide +kernel)) <|
  am_c (ok_iconst (z := 1) (by decide +kernel) (by decide +kernel)) <|
  am_c (ok_isub (by decide +kernel)) <|
  am_c (ok_istore_n (k := 2) (by decide +kernel) rfl) <|
  am_c (ok_iload_n (k := 2) (by decide +kernel) rfl) <|
  am_c (ok_iflt (off := 87) (by decide +kernel) (by decide +kernel)) <|
  am_c (ok_aload_n (k := 1) (by decide +kernel) rfl) <|
  am_c (ok_iload_n (k := 2) (by decide +kernel) rfl) <|
  am_c (ok_callV (by decide +kernel) (by decide +kernel) kw_169 kw_33 kw_34 kw_31 (by decide +kernel) (by decide +kernel)) <|
  am_c (ok_istore_n (k := 3) (by decide +kernel) rfl) <|
  am_c (ok_iload_n (k := 3) (by decide +kernel) rfl) <|
  am_c (ok_sipush (z := 8192) (by decide +kernel) (by decide +kernel)) <|
  am_c (ok_isub (by decide +kernel)) <|
  am_c (ok_iconst (z := 1) (by decide +kernel) (by decide +kernel)) <|
  am_c (ok_isub (by decide +kernel)) <|
  am_c (ok_istore (by decide +kernel)) <|
  am_c (ok_iload (by decide +kernel)) <|
  am_c (ok_iflt (off := 13) (by decide +kernel) (by decide +kernel)) <|
  am_c (ok_iload (by decide +kernel)) <|
  am_c (ok_aload_n (k := 0) (by decide +kernel) rfl) <|
  am_c (ok_get (by decide +kernel) (by decide +kernel) rfl (by decide +kernel) kw_131) <|
  am_c (ok_alen (by decide +kernel)) <|
  am_c (ok_icmplt (off := 11) (by decide +kernel) (by decide +kernel)) <|
  am_n
def k_c82_1 : List (Nat × am_A) := [(41, ac_aload 0 42), (42, ac_iload 3 43), (43, ac_callV 5 63 2 46 am_nohd), (46, ac_goto 89), (49, ac_aload 0 50), (50, ac_get 2 5 6 53), (53, ac_iload 4 55), (55, ac_aald 3 56), (56, ac_astore 5 58), (58, ac_aload 5 60), (60, ac_callV 4 24 1 63 am_nohd), (63, ac_push (.int 1) 64), (64, ac_ii (fun x y => x - y) 65), (65, ac_istore 6 67), (67, ac_iload 6 69), (69, ac_if1 (fun x => x < 0) 89 72), (72, ac_aload 0 73), (73, ac_aload 5 75), (75, ac_iload 6 77), (77, ac_callV 4 25 2 80 am_nohd), (80, ac_callV 5 63 2 83 am_nohd), (83, ac_iinc 6 (-1) 86), (86, ac_goto 67), (89, ac_iinc 2 (-1) 92)]
theorem k_p82_1 : ∀ q ∈ k_c82_1, am_Ok k_nm D cA B0 sb H00 (k_Th B0 sb H00) prog_1_method_47_code "TokenMouth" "putBodyBack" [] none q.1 q.2 :=
  am_c (ok_aload_n (k := 0) (by decide +kernel) rfl) <|
  am_c (ok_iload_n (k := 3) (by decide +kernel) rfl) <|
  am_c (ok_callV (by decide +kernel) (by decide +kernel) kw_319 kw_320 kw_321 kw_318 (by decide +kernel) (by decide +kernel)) <|
  am_c (ok_goto (off := 43) (by decide +kernel) (by decide +kernel)) <|
  am_c (ok_aload_n (k := 0) (by decide +kernel) rfl) <|
  am_c (ok_get (by decide +kernel) (by decide +kernel) rfl (by decide +kernel) kw_131) <|
  am_c (ok_iload (by decide +kernel)) <|
  am_c (ok_aald (by decide +kernel) (by decide +kernel)) <|
  am_c (ok_astore (by decide +kernel)) <|
  am_c (ok_aload (by decide +kernel)) <|
  am_c (ok_callV (by decide +kernel) (by decide +kernel) kw_170 kw_17 kw_18 kw_15 (by decide +kernel) (by decide +kernel)) <|
  am_c (ok_iconst (z := 1) (by decide +kernel) (by decide +kernel)) <|
  am_c (ok_isub (by decide +kernel)) <|
  am_c (ok_istore (by decide +kernel)) <|
  am_c (ok_iload (by decide +kernel)) <|
  am_c (ok_iflt (off := 20) (by decide +kernel) (by decide +kernel)) <|
  am_c (ok_aload_n (k := 0) (by decide +kernel) rfl) <|
  am_c (ok_aload (by decide +kernel)) <|
  am_c (ok_iload (by decide +kernel)) <|
  am_c (ok_callV (by decide +kernel) (by decide +kernel) kw_169 kw_33 kw_34 kw_31 (by decide +kernel) (by decide +kernel)) <|
  am_c (ok_callV (by decide +kernel) (by decide +kernel) kw_319 kw_320 kw_321 kw_318 (by decide +kernel) (by decide +kernel)) <|
  am_c (ok_iinc (z := (-1)) (by decide +kernel) (by decide +kernel)) <|
  am_c (ok_goto (off := -19) (by decide +kernel) (by decide +kernel)) <|
  am_c (ok_iinc (z := (-1)) (by decide +kernel) (by decide +kernel)) <|
  am_n
def k_c82_2 : List (Nat × am_A) := [(92, ac_goto 7), (95, ac_ret)]
theorem k_p82_2 : ∀ q ∈ k_c82_2, am_Ok k_nm D cA B0 sb H00 (k_Th B0 sb H00) prog_1_method_47_code "TokenMouth" "putBodyBack" [] none q.1 q.2 :=
  am_c (ok_goto (off := -85) (by decide +kernel) (by decide +kernel)) <|
  am_c (ok_ret (by decide +kernel) rfl) <|
  am_n
def k_t82 : List (Nat × List (Nat × am_A)) := [(38, k_c82_0), (89, k_c82_1), (95, k_c82_2)]
theorem k_o82 : ∀ c ∈ k_t82, ∀ q ∈ c.2, am_Ok k_nm D cA B0 sb H00 (k_Th B0 sb H00) prog_1_method_47_code "TokenMouth" "putBodyBack" [] none q.1 q.2 := am_cc (P := fun pc a => am_Ok k_nm D cA B0 sb H00 (k_Th B0 sb H00) prog_1_method_47_code "TokenMouth" "putBodyBack" [] none pc a) k_p82_0 <| am_cc (P := fun pc a => am_Ok k_nm D cA B0 sb H00 (k_Th B0 sb H00) prog_1_method_47_code "TokenMouth" "putBodyBack" [] none pc a) k_p82_1 <| am_cc (P := fun pc a => am_Ok k_nm D cA B0 sb H00 (k_Th B0 sb H00) prog_1_method_47_code "TokenMouth" "putBodyBack" [] none pc a) k_p82_2 <| am_cn0
-- 83: TokenMouth.expandAfter()V
def k_c83_0 : List (Nat × am_A) := [(0, ac_aload 0 1), (1, ac_push (.int 1) 2), (2, ac_callV 5 61 2 5 am_nohd), (5, ac_istore 1 6), (6, ac_aload 0 7), (7, ac_push (.int 1) 8), (8, ac_callV 5 61 2 11 am_nohd), (11, ac_istore 2 12), (12, ac_aload 0 13), (13, ac_iload 2 14), (14, ac_callV 5 55 2 17 am_nohd), (17, ac_istore 3 18), (18, ac_iload 3 19), (19, ac_callS 57 1 22), (22, ac_if1 (fun x => x = 0) 33 25), (25, ac_aload 0 26), (26, ac_iload 3 27), (27, ac_callV 5 79 2 30 am_nohd), (30, ac_goto 38), (33, ac_aload 0 34), (34, ac_iload 2 35), (35, ac_callV 5 63 2 38 am_nohd), (38, ac_aload 0 39), (39, ac_iload 1 40)]
theorem k_p83_0 : ∀ q ∈ k_c83_0, am_Ok k_nm D cA B0 sb H00 (k_Th B0 sb H00) prog_1_method_48_code "TokenMouth" "expandAfter" [] none q.1 q.2 :=
  am_c (ok_aload_n (k := 0) (by decide +kernel) rfl) <|
  am_c (ok_iconst (z := 1) (by decide +kernel) (by decide +kernel)) <|
  am_c (ok_callV (by decide +kernel) (by decide +kernel) kw_157 kw_158 kw_159 kw_156 (by decide +kernel) (by decide +kernel)) <|
  am_c (ok_istore_n (k := 1) (by decide +kernel) rfl) <|
  am_c (ok_aload_n (k := 0) (by decide +kernel) rfl) <|
  am_c (ok_iconst (z := 1) (by decide +kernel) (by decide +kernel)) <|
  am_c (ok_callV (by decide +kernel) (by decide +kernel) kw_157 kw_158 kw_159 kw_156 (by decide +kernel) (by decide +kernel)) <|
  am_c (ok_istore_n (k := 2) (by decide +kernel) rfl) <|
  am_c (ok_aload_n (k := 0) (by decide +kernel) rfl) <|
  am_c (ok_iload_n (k := 2) (by decide +kernel) rfl) <|
  am_c (ok_callV (by decide +kernel) (by decide +kernel) kw_161 kw_162 kw_163 kw_160 (by decide +kernel) (by decide +kernel)) <|
  am_c (ok_istore_n (k := 3) (by decide +kernel) rfl) <|
  am_c (ok_iload_n (k := 3) (by decide +kernel) rfl) <|
  am_c (ok_callS (by decide +kernel) kw_236 kw_237 kw_86 kw_235 (by decide +kernel) (by decide +kernel)) <|
  am_c (ok_ifeq (off := 11) (by decide +kernel) (by decide +kernel)) <|
  am_c (ok_aload_n (k := 0) (by decide +kernel) rfl) <|
  am_c (ok_iload_n (k := 3) (by decide +kernel) rfl) <|
  am_c (ok_callV (by decide +kernel) (by decide +kernel) kw_239 kw_240 kw_241 kw_238 (by decide +kernel) (by decide +kernel)) <|
  am_c (ok_goto (off := 8) (by decide +kernel) (by decide +kernel)) <|
  am_c (ok_aload_n (k := 0) (by decide +kernel) rfl) <|
  am_c (ok_iload_n (k := 2) (by decide +kernel) rfl) <|
  am_c (ok_callV (by decide +kernel) (by decide +kernel) kw_319 kw_320 kw_321 kw_318 (by decide +kernel) (by decide +kernel)) <|
  am_c (ok_aload_n (k := 0) (by decide +kernel) rfl) <|
  am_c (ok_iload_n (k := 1) (by decide +kernel) rfl) <|
  am_n
def k_c83_1 : List (Nat × am_A) := [(40, ac_callV 5 63 2 43 am_nohd), (43, ac_ret)]
theorem k_p83_1 : ∀ q ∈ k_c83_1, am_Ok k_nm D cA B0 sb H00 (k_Th B0 sb H00) prog_1_method_48_code "TokenMouth" "expandAfter" [] none q.1 q.2 :=
  am_c (ok_callV (by decide +kernel) (by decide +kernel) kw_319 kw_320 kw_321 kw_318 (by decide +kernel) (by decide +kernel)) <|
  am_c (ok_ret (by decide +kernel) rfl) <|
  am_n
def k_t83 : List (Nat × List (Nat × am_A)) := [(39, k_c83_0), (43, k_c83_1)]
theorem k_o83 : ∀ c ∈ k_t83, ∀ q ∈ c.2, am_Ok k_nm D cA B0 sb H00 (k_Th B0 sb H00) prog_1_method_48_code "TokenMouth" "expandAfter" [] none q.1 q.2 := am_cc (P := fun pc a => am_Ok k_nm D cA B0 sb H00 (k_Th B0 sb H00) prog_1_method_48_code "TokenMouth" "expandAfter" [] none pc a) k_p83_0 <| am_cc (P := fun pc a => am_Ok k_nm D cA B0 sb H00 (k_Th B0 sb H00) prog_1_method_48_code "TokenMouth" "expandAfter" [] none pc a) k_p83_1 <| am_cn0
-- 84: TokenMouth.markNext()V
def k_c84_0 : List (Nat × am_A) := [(0, ac_aload 0 1), (1, ac_push (.int 1) 2), (2, ac_callV 5 61 2 5 am_nohd), (5, ac_istore 1 6), (6, ac_aload 0 7), (7, ac_aload 0 8), (8, ac_iload 1 9), (9, ac_callV 5 55 2 12 am_nohd), (12, ac_callS 57 1 15), (15, ac_if1 (fun x => x = 0) 26 18), (18, ac_iload 1 19), (19, ac_push (.int 16384) 22), (22, ac_ii (fun x y => x ||| y) 23), (23, ac_goto 27), (26, ac_iload 1 27), (27, ac_callV 5 63 2 30 am_nohd), (30, ac_ret)]
theorem k_p84_0 : ∀ q ∈ k_c84_0, am_Ok k_nm D cA B0 sb H00 (k_Th B0 sb H00) prog_1_method_49_code "TokenMouth" "markNext" [] none q.1 q.2 :=
  am_c (ok_aload_n (k := 0) (by decide +kernel) rfl) <|
  am_c (ok_iconst (z := 1) (by decide +kernel) (by decide +kernel)) <|
  am_c (ok_callV (by decide +kernel) (by decide +kernel) kw_157 kw_158 kw_159 kw_156 (by decide +kernel) (by decide +kernel)) <|
  am_c (ok_istore_n (k := 1) (by decide +kernel) rfl) <|
  am_c (ok_aload_n (k := 0) (by decide +kernel) rfl) <|
  am_c (ok_aload_n (k := 0) (by decide +kernel) rfl) <|
  am_c (ok_iload_n (k := 1) (by decide +kernel) rfl) <|
  am_c (ok_callV (by decide +kernel) (by decide +kernel) kw_161 kw_162 kw_163 kw_160 (by decide +kernel) (by decide +kernel)) <|
  am_c (ok_callS (by decide +kernel) kw_236 kw_237 kw_86 kw_235 (by decide +kernel) (by decide +kernel)) <|
  am_c (ok_ifeq (off := 11) (by decide +kernel) (by decide +kernel)) <|
  am_c (ok_iload_n (k := 1) (by decide +kernel) rfl) <|
  am_c (ok_sipush (z := 16384) (by decide +kernel) (by decide +kernel)) <|
  am_c (ok_ior (by decide +kernel)) <|
  am_c (ok_goto (off := 4) (by decide +kernel) (by decide +kernel)) <|
  am_c (ok_iload_n (k := 1) (by decide +kernel) rfl) <|
  am_c (ok_callV (by decide +kernel) (by decide +kernel) kw_319 kw_320 kw_321 kw_318 (by decide +kernel) (by decide +kernel)) <|
  am_c (ok_ret (by decide +kernel) rfl) <|
  am_n
def k_t84 : List (Nat × List (Nat × am_A)) := [(30, k_c84_0)]
theorem k_o84 : ∀ c ∈ k_t84, ∀ q ∈ c.2, am_Ok k_nm D cA B0 sb H00 (k_Th B0 sb H00) prog_1_method_49_code "TokenMouth" "markNext" [] none q.1 q.2 := am_cc (P := fun pc a => am_Ok k_nm D cA B0 sb H00 (k_Th B0 sb H00) prog_1_method_49_code "TokenMouth" "markNext" [] none pc a) k_p84_0 <| am_cn0
-- 85: TokenMouth.makeName()I
def k_c85_0 : List (Nat × am_A) := [(0, ac_push (.long 0) 1), (1, ac_lstore 1 2), (2, ac_push (.long 0) 3), (3, ac_lstore 3 4), (4, ac_aload 0 5), (5, ac_callV 5 62 1 8 am_nohd), (8, ac_istore 5 10), (10, ac_push (.int 0) 11), (11, ac_istore 6 13), (13, ac_iload 6 15), (15, ac_push (.int 11) 17), (17, ac_if2 (fun x y => y < x) 93 20), (20, ac_aload 0 21), (21, ac_iload 5 23), (23, ac_callV 5 55 2 26 am_nohd), (26, ac_push (.int 11) 28), (28, ac_if2 (fun x y => x = y) 93 31), (31, ac_iload 5 33), (33, ac_push (.int 4096) 36), (36, ac_if2 (fun x y => x < y) 45 39), (39, ac_aload 0 40), (40, ac_push (.int 4) 41), (41, ac_callV 5 48 2 44 am_nohd), (44, ac_pop 45)]
theorem k_p85_0 : ∀ q ∈ k_c85_0, am_Ok k_nm D cA B0 sb H00 (k_Th B0 sb H00) prog_1_method_50_code "TokenMouth" "makeName" [] (some .int) q.1 q.2 :=
  am_c (ok_lconst (z := 0) (by decide +kernel) (by decide +kernel)) <|
  am_c (ok_lstore_n (k := 1) (by decide +kernel) rfl) <|
  am_c (ok_lconst (z := 0) (by decide +kernel) (by decide +kernel)) <|
  am_c (ok_lstore_n (k := 3) (by decide +kernel) rfl) <|
  am_c (ok_aload_n (k := 0) (by decide +kernel) rfl) <|
  am_c (ok_callV (by decide +kernel) (by decide +kernel) kw_331 kw_332 kw_333 kw_330 (by decide +kernel) (by decide +kernel)) <|
  am_c (ok_istore (by decide +kernel)) <|
  am_c (ok_iconst (z := 0) (by decide +kernel) (by decide +kernel)) <|
  am_c (ok_istore (by decide +kernel)) <|
  am_c (ok_iload (by decide +kernel)) <|
  am_c (ok_bipush (z := 11) (by decide +kernel) (by decide +kernel)) <|
  am_c (ok_icmpgt (off := 76) (by decide +kernel) (by decide +kernel)) <|
  am_c (ok_aload_n (k := 0) (by decide +kernel) rfl) <|
  am_c (ok_iload (by decide +kernel)) <|
  am_c (ok_callV (by decide +kernel) (by decide +kernel) kw_161 kw_162 kw_163 kw_160 (by decide +kernel) (by decide +kernel)) <|
  am_c (ok_bipush (z := 11) (by decide +kernel) (by decide +kernel)) <|
  am_c (ok_icmpeq (off := 65) (by decide +kernel) (by decide +kernel)) <|
  am_c (ok_iload (by decide +kernel)) <|
  am_c (ok_sipush (z := 4096) (by decide +kernel) (by decide +kernel)) <|
  am_c (ok_icmplt (off := 9) (by decide +kernel) (by decide +kernel)) <|
  am_c (ok_aload_n (k := 0) (by decide +kernel) rfl) <|
  am_c (ok_iconst (z := 4) (by decide +kernel) (by decide +kernel)) <|
  am_c (ok_callV (by decide +kernel) (by decide +kernel) kw_230 kw_231 kw_232 kw_229 (by decide +kernel) (by decide +kernel)) <|
  am_c (ok_pop (by decide +kernel)) <|
  am_n
def k_c85_1 : List (Nat × am_A) := [(45, ac_iload 6 47), (47, ac_push (.int 11) 49), (49, ac_if2 (fun x y => ¬ x = y) 58 52), (52, ac_aload 0 53), (53, ac_push (.int 5) 54), (54, ac_callV 5 48 2 57 am_nohd), (57, ac_pop 58), (58, ac_lload 3 59), (59, ac_push (.int 8) 61), (61, ac_li (fun x y => x <<< (y.toInt64 &&& 63)) 62), (62, ac_lload 1 63), (63, ac_push (.int 56) 65), (65, ac_li (fun x y => (x.toUInt64 >>> (y.toInt64.toUInt64 &&& Int64.toUInt64 63)).toInt64) 66), (66, ac_ll (fun x y => x ||| y) 67), (67, ac_lstore 3 68), (68, ac_lload 1 69), (69, ac_push (.int 8) 71), (71, ac_li (fun x y => x <<< (y.toInt64 &&& 63)) 72), (72, ac_iload 5 74), (74, ac_push (.int 255) 77), (77, ac_ii (fun x y => x &&& y) 78), (78, ac_il (fun x => x.toInt64) 79), (79, ac_ll (fun x y => x ||| y) 80), (80, ac_lstore 1 81)]
theorem k_p85_1 : ∀ q ∈ k_c85_1, am_Ok k_nm D cA B0 sb H00 (k_Th B0 sb H00) prog_1_method_50_code "TokenMouth" "makeName" [] (some .int) q.1 q.2 :=
  am_c (ok_iload (by decide +kernel)) <|
  am_c (ok_bipush (z := 11) (by decide +kernel) (by decide +kernel)) <|
  am_c (ok_icmpne (off := 9) (by decide +kernel) (by decide +kernel)) <|
  am_c (ok_aload_n (k := 0) (by decide +kernel) rfl) <|
  am_c (ok_iconst (z := 5) (by decide +kernel) (by decide +kernel)) <|
  am_c (ok_callV (by decide +kernel) (by decide +kernel) kw_230 kw_231 kw_232 kw_229 (by decide +kernel) (by decide +kernel)) <|
  am_c (ok_pop (by decide +kernel)) <|
  am_c (ok_lload_n (k := 3) (by decide +kernel) rfl) <|
  am_c (ok_bipush (z := 8) (by decide +kernel) (by decide +kernel)) <|
  am_c (ok_lshl (by decide +kernel)) <|
  am_c (ok_lload_n (k := 1) (by decide +kernel) rfl) <|
  am_c (ok_bipush (z := 56) (by decide +kernel) (by decide +kernel)) <|
  am_c (ok_lushr (by decide +kernel)) <|
  am_c (ok_lor (by decide +kernel)) <|
  am_c (ok_lstore_n (k := 3) (by decide +kernel) rfl) <|
  am_c (ok_lload_n (k := 1) (by decide +kernel) rfl) <|
  am_c (ok_bipush (z := 8) (by decide +kernel) (by decide +kernel)) <|
  am_c (ok_lshl (by decide +kernel)) <|
  am_c (ok_iload (by decide +kernel)) <|
  am_c (ok_sipush (z := 255) (by decide +kernel) (by decide +kernel)) <|
  am_c (ok_iand (by decide +kernel)) <|
  am_c (ok_i2l (by decide +kernel)) <|
  am_c (ok_lor (by decide +kernel)) <|
  am_c (ok_lstore_n (k := 1) (by decide +kernel) rfl) <|
  am_n
def k_c85_2 : List (Nat × am_A) := [(81, ac_aload 0 82), (82, ac_callV 5 62 1 85 am_nohd), (85, ac_istore 5 87), (87, ac_iinc 6 1 90), (90, ac_goto 13), (93, ac_lload 1 94), (94, ac_push (.long 0) 95), (95, ac_lli lg_cmp 96), (96, ac_if1 (fun x => ¬ x = 0) 105 99), (99, ac_aload 0 100), (100, ac_push (.int 4) 101), (101, ac_callV 5 48 2 104 am_nohd), (104, ac_pop 105), (105, ac_aload 0 106), (106, ac_get 2 5 1 109), (109, ac_lload 1 110), (110, ac_lload 3 111), (111, ac_push (.int 1) 112), (112, ac_callV 2 9 4 115 am_nohd), (115, ac_istore 6 117), (117, ac_iload 6 119), (119, ac_push (.int (-1)) 120), (120, ac_if2 (fun x y => ¬ x = y) 131 123), (123, ac_aload 0 124)]
theorem k_p85_2 : ∀ q ∈ k_c85_2, am_Ok k_nm D cA B0 sb H00 (k_Th B0 sb H00) prog_1_method_50_code "TokenMouth" "makeName" [] (some .int) q.1 q.2 :=
  am_c (ok_aload_n (k := 0) (by decide +kernel) rfl) <|
  am_c (ok_callV (by decide +kernel) (by decide +kernel) kw_331 kw_332 kw_333 kw_330 (by decide +kernel) (by decide +kernel)) <|
  am_c (ok_istore (by decide +kernel)) <|
  am_c (ok_iinc (z := 1) (by decide +kernel) (by decide +kernel)) <|
  am_c (ok_goto (off := -77) (by decide +kernel) (by decide +kernel)) <|
  am_c (ok_lload_n (k := 1) (by decide +kernel) rfl) <|
  am_c (ok_lconst (z := 0) (by decide +kernel) (by decide +kernel)) <|
  am_c (ok_lcmp (by decide +kernel)) <|
  am_c (ok_ifne (off := 9) (by decide +kernel) (by decide +kernel)) <|
  am_c (ok_aload_n (k := 0) (by decide +kernel) rfl) <|
  am_c (ok_iconst (z := 4) (by decide +kernel) (by decide +kernel)) <|
  am_c (ok_callV (by decide +kernel) (by decide +kernel) kw_230 kw_231 kw_232 kw_229 (by decide +kernel) (by decide +kernel)) <|
  am_c (ok_pop (by decide +kernel)) <|
  am_c (ok_aload_n (k := 0) (by decide +kernel) rfl) <|
  am_c (ok_get (by decide +kernel) (by decide +kernel) rfl (by decide +kernel) kw_118) <|
  am_c (ok_lload_n (k := 1) (by decide +kernel) rfl) <|
  am_c (ok_lload_n (k := 3) (by decide +kernel) rfl) <|
  am_c (ok_iconst (z := 1) (by decide +kernel) (by decide +kernel)) <|
  am_c (ok_callV (by decide +kernel) (by decide +kernel) kw_202 kw_203 kw_204 kw_201 (by decide +kernel) (by decide +kernel)) <|
  am_c (ok_istore (by decide +kernel)) <|
  am_c (ok_iload (by decide +kernel)) <|
  am_c (ok_iconst (z := -1) (by decide +kernel) (by decide +kernel)) <|
  am_c (ok_icmpne (off := 11) (by decide +kernel) (by decide +kernel)) <|
  am_c (ok_aload_n (k := 0) (by decide +kernel) rfl) <|
  am_n
def k_c85_3 : List (Nat × am_A) := [(124, ac_push (.int 5) 125), (125, ac_callV 5 48 2 128 am_nohd), (128, ac_goto 137), (131, ac_push (.int 4096) 134), (134, ac_iload 6 136), (136, ac_ii (fun x y => x + y) 137), (137, ac_iret)]
theorem k_p85_3 : ∀ q ∈ k_c85_3, am_Ok k_nm D cA B0 sb H00 (k_Th B0 sb H00) prog_1_method_50_code "TokenMouth" "makeName" [] (some .int) q.1 q.2 :=
  am_c (ok_iconst (z := 5) (by decide +kernel) (by decide +kernel)) <|
  am_c (ok_callV (by decide +kernel) (by decide +kernel) kw_230 kw_231 kw_232 kw_229 (by decide +kernel) (by decide +kernel)) <|
  am_c (ok_goto (off := 9) (by decide +kernel) (by decide +kernel)) <|
  am_c (ok_sipush (z := 4096) (by decide +kernel) (by decide +kernel)) <|
  am_c (ok_iload (by decide +kernel)) <|
  am_c (ok_iadd (by decide +kernel)) <|
  am_c (ok_iret (by decide +kernel) rfl) <|
  am_n
def k_t85 : List (Nat × List (Nat × am_A)) := [(44, k_c85_0), (80, k_c85_1), (123, k_c85_2), (137, k_c85_3)]
theorem k_o85 : ∀ c ∈ k_t85, ∀ q ∈ c.2, am_Ok k_nm D cA B0 sb H00 (k_Th B0 sb H00) prog_1_method_50_code "TokenMouth" "makeName" [] (some .int) q.1 q.2 := am_cc (P := fun pc a => am_Ok k_nm D cA B0 sb H00 (k_Th B0 sb H00) prog_1_method_50_code "TokenMouth" "makeName" [] (some .int) pc a) k_p85_0 <| am_cc (P := fun pc a => am_Ok k_nm D cA B0 sb H00 (k_Th B0 sb H00) prog_1_method_50_code "TokenMouth" "makeName" [] (some .int) pc a) k_p85_1 <| am_cc (P := fun pc a => am_Ok k_nm D cA B0 sb H00 (k_Th B0 sb H00) prog_1_method_50_code "TokenMouth" "makeName" [] (some .int) pc a) k_p85_2 <| am_cc (P := fun pc a => am_Ok k_nm D cA B0 sb H00 (k_Th B0 sb H00) prog_1_method_50_code "TokenMouth" "makeName" [] (some .int) pc a) k_p85_3 <| am_cn0
-- 86: TokenMouth.spell()V
def k_c86_0 : List (Nat × am_A) := [(0, ac_aload 0 1), (1, ac_push (.int 1) 2), (2, ac_callV 5 61 2 5 am_nohd), (5, ac_callS 52 1 8), (8, ac_istore 1 9), (9, ac_iload 1 10), (10, ac_push (.int 4096) 13), (13, ac_if2 (fun x y => y ≤ x) 25 16), (16, ac_aload 0 17), (17, ac_iload 1 18), (18, ac_callS 87 1 21), (21, ac_callV 5 63 2 24 am_nohd), (24, ac_ret), (25, ac_aload 0 26), (26, ac_get 2 5 1 29), (29, ac_iload 1 30), (30, ac_push (.int 4096) 33), (33, ac_ii (fun x y => x - y) 34), (34, ac_callV 2 12 2 37 am_nohd), (37, ac_lstore 2 38), (38, ac_push (.int 0) 39), (39, ac_istore 4 41), (41, ac_iload 4 43), (43, ac_push (.int 8) 45)]
theorem k_p86_0 : ∀ q ∈ k_c86_0, am_Ok k_nm D cA B0 sb H00 (k_Th B0 sb H00) prog_1_method_51_code "TokenMouth" "spell" [] none q.1 q.2 :=
  am_c (ok_aload_n (k := 0) (by decide +kernel) rfl) <|
  am_c (ok_iconst (z := 1) (by decide +kernel) (by decide +kernel)) <|
  am_c (ok_callV (by decide +kernel) (by decide +kernel) kw_157 kw_158 kw_159 kw_156 (by decide +kernel) (by decide +kernel)) <|
  am_c (ok_callS (by decide +kernel) kw_305 kw_306 kw_86 kw_304 (by decide +kernel) (by decide +kernel)) <|
  am_c (ok_istore_n (k := 1) (by decide +kernel) rfl) <|
  am_c (ok_iload_n (k := 1) (by decide +kernel) rfl) <|
  am_c (ok_sipush (z := 4096) (by decide +kernel) (by decide +kernel)) <|
  am_c (ok_icmpge (off := 12) (by decide +kernel) (by decide +kernel)) <|
  am_c (ok_aload_n (k := 0) (by decide +kernel) rfl) <|
  am_c (ok_iload_n (k := 1) (by decide +kernel) rfl) <|
  am_c (ok_callS (by decide +kernel) kw_394 kw_395 kw_86 kw_393 (by decide +kernel) (by decide +kernel)) <|
  am_c (ok_callV (by decide +kernel) (by decide +kernel) kw_319 kw_320 kw_321 kw_318 (by decide +kernel) (by decide +kernel)) <|
  am_c (ok_ret (by decide +kernel) rfl) <|
  am_c (ok_aload_n (k := 0) (by decide +kernel) rfl) <|
  am_c (ok_get (by decide +kernel) (by decide +kernel) rfl (by decide +kernel) kw_118) <|
  am_c (ok_iload_n (k := 1) (by decide +kernel) rfl) <|
  am_c (ok_sipush (z := 4096) (by decide +kernel) (by decide +kernel)) <|
  am_c (ok_isub (by decide +kernel)) <|
  am_c (ok_callV (by decide +kernel) (by decide +kernel) kw_396 kw_67 kw_68 kw_65 (by decide +kernel) (by decide +kernel)) <|
  am_c (ok_lstore_n (k := 2) (by decide +kernel) rfl) <|
  am_c (ok_iconst (z := 0) (by decide +kernel) (by decide +kernel)) <|
  am_c (ok_istore (by decide +kernel)) <|
  am_c (ok_iload (by decide +kernel)) <|
  am_c (ok_bipush (z := 8) (by decide +kernel) (by decide +kernel)) <|
  am_n
def k_c86_1 : List (Nat × am_A) := [(45, ac_if2 (fun x y => y ≤ x) 74 48), (48, ac_lload 2 49), (49, ac_push (.long 0) 50), (50, ac_lli lg_cmp 51), (51, ac_if1 (fun x => x = 0) 74 54), (54, ac_aload 0 55), (55, ac_lload 2 56), (56, ac_l2 (fun x => x.toInt32) 57), (57, ac_callS 87 1 60), (60, ac_callV 5 63 2 63 am_nohd), (63, ac_lload 2 64), (64, ac_push (.int 8) 66), (66, ac_li (fun x y => (x.toUInt64 >>> (y.toInt64.toUInt64 &&& Int64.toUInt64 63)).toInt64) 67), (67, ac_lstore 2 68), (68, ac_iinc 4 1 71), (71, ac_goto 41), (74, ac_aload 0 75), (75, ac_get 2 5 1 78), (78, ac_iload 1 79), (79, ac_push (.int 4096) 82), (82, ac_ii (fun x y => x - y) 83), (83, ac_callV 2 13 2 86 am_nohd), (86, ac_lstore 4 88), (88, ac_lload 4 90)]
theorem k_p86_1 : ∀ q ∈ k_c86_1, am_Ok k_nm D cA B0 sb H00 (k_Th B0 sb H00) prog_1_method_51_code "TokenMouth" "spell" [] none q.1 q.2 :=
  am_c (ok_icmpge (off := 29) (by decide +kernel) (by decide +kernel)) <|
  am_c (ok_lload_n (k := 2) (by decide +kernel) rfl) <|
  am_c (ok_lconst (z := 0) (by decide +kernel) (by decide +kernel)) <|
  am_c (ok_lcmp (by decide +kernel)) <|
  am_c (ok_ifeq (off := 23) (by decide +kernel) (by decide +kernel)) <|
  am_c (ok_aload_n (k := 0) (by decide +kernel) rfl) <|
  am_c (ok_lload_n (k := 2) (by decide +kernel) rfl) <|
  am_c (ok_l2i (by decide +kernel)) <|
  am_c (ok_callS (by decide +kernel) kw_394 kw_395 kw_86 kw_393 (by decide +kernel) (by decide +kernel)) <|
  am_c (ok_callV (by decide +kernel) (by decide +kernel) kw_319 kw_320 kw_321 kw_318 (by decide +kernel) (by decide +kernel)) <|
  am_c (ok_lload_n (k := 2) (by decide +kernel) rfl) <|
  am_c (ok_bipush (z := 8) (by decide +kernel) (by decide +kernel)) <|
  am_c (ok_lushr (by decide +kernel)) <|
  am_c (ok_lstore_n (k := 2) (by decide +kernel) rfl) <|
  am_c (ok_iinc (z := 1) (by decide +kernel) (by decide +kernel)) <|
  am_c (ok_goto (off := -30) (by decide +kernel) (by decide +kernel)) <|
  am_c (ok_aload_n (k := 0) (by decide +kernel) rfl) <|
  am_c (ok_get (by decide +kernel) (by decide +kernel) rfl (by decide +kernel) kw_118) <|
  am_c (ok_iload_n (k := 1) (by decide +kernel) rfl) <|
  am_c (ok_sipush (z := 4096) (by decide +kernel) (by decide +kernel)) <|
  am_c (ok_isub (by decide +kernel)) <|
  am_c (ok_callV (by decide +kernel) (by decide +kernel) kw_398 kw_399 kw_400 kw_397 (by decide +kernel) (by decide +kernel)) <|
  am_c (ok_lstore (by decide +kernel)) <|
  am_c (ok_lload (by decide +kernel)) <|
  am_n
def k_c86_2 : List (Nat × am_A) := [(90, ac_push (.long (-1)) 93), (93, ac_lli lg_cmp 94), (94, ac_if1 (fun x => ¬ x = 0) 98 97), (97, ac_ret), (98, ac_push (.int 0) 99), (99, ac_istore 6 101), (101, ac_iload 6 103), (103, ac_push (.int 8) 105), (105, ac_if2 (fun x y => y ≤ x) 138 108), (108, ac_lload 4 110), (110, ac_push (.long 0) 111), (111, ac_lli lg_cmp 112), (112, ac_if1 (fun x => x = 0) 138 115), (115, ac_aload 0 116), (116, ac_lload 4 118), (118, ac_l2 (fun x => x.toInt32) 119), (119, ac_callS 87 1 122), (122, ac_callV 5 63 2 125 am_nohd), (125, ac_lload 4 127), (127, ac_push (.int 8) 129), (129, ac_li (fun x y => (x.toUInt64 >>> (y.toInt64.toUInt64 &&& Int64.toUInt64 63)).toInt64) 130), (130, ac_lstore 4 132), (132, ac_iinc 6 1 135), (135, ac_goto 101)]
theorem k_p86_2 : ∀ q ∈ k_c86_2, am_Ok k_nm D cA B0 sb H00 (k_Th B0 sb H00) prog_1_method_51_code "TokenMouth" "spell" [] none q.1 q.2 :=
  am_c (ok_ldc2 (by decide +kernel) kw_200) <|
  am_c (ok_lcmp (by decide +kernel)) <|
  am_c (ok_ifne (off := 4) (by decide +kernel) (by decide +kernel)) <|
  am_c (ok_ret (by decide +kernel) rfl) <|
  am_c (ok_iconst (z := 0) (by decide +kernel) (by decide +kernel)) <|
  am_c (ok_istore (by decide +kernel)) <|
  am_c (ok_iload (by decide +kernel)) <|
  am_c (ok_bipush (z := 8) (by decide +kernel) (by decide +kernel)) <|
  am_c (ok_icmpge (off := 33) (by decide +kernel) (by decide +kernel)) <|
  am_c (ok_lload (by decide +kernel)) <|
  am_c (ok_lconst (z := 0) (by decide +kernel) (by decide +kernel)) <|
  am_c (ok_lcmp (by decide +kernel)) <|
  am_c (ok_ifeq (off := 26) (by decide +kernel) (by decide +kernel)) <|
  am_c (ok_aload_n (k := 0) (by decide +kernel) rfl) <|
  am_c (ok_lload (by decide +kernel)) <|
  am_c (ok_l2i (by decide +kernel)) <|
  am_c (ok_callS (by decide +kernel) kw_394 kw_395 kw_86 kw_393 (by decide +kernel) (by decide +kernel)) <|
  am_c (ok_callV (by decide +kernel) (by decide +kernel) kw_319 kw_320 kw_321 kw_318 (by decide +kernel) (by decide +kernel)) <|
  am_c (ok_lload (by decide +kernel)) <|
  am_c (ok_bipush (z := 8) (by decide +kernel) (by decide +kernel)) <|
  am_c (ok_lushr (by decide +kernel)) <|
  am_c (ok_lstore (by decide +kernel)) <|
  am_c (ok_iinc (z := 1) (by decide +kernel) (by decide +kernel)) <|
  am_c (ok_goto (off := -34) (by decide +kernel) (by decide +kernel)) <|
  am_n
def k_c86_3 : List (Nat × am_A) := [(138, ac_aload 0 139), (139, ac_push (.int 92) 141), (141, ac_callS 87 1 144), (144, ac_callV 5 63 2 147 am_nohd), (147, ac_ret)]
theorem k_p86_3 : ∀ q ∈ k_c86_3, am_Ok k_nm D cA B0 sb H00 (k_Th B0 sb H00) prog_1_method_51_code "TokenMouth" "spell" [] none q.1 q.2 :=
  am_c (ok_aload_n (k := 0) (by decide +kernel) rfl) <|
  am_c (ok_bipush (z := 92) (by decide +kernel) (by decide +kernel)) <|
  am_c (ok_callS (by decide +kernel) kw_394 kw_395 kw_86 kw_393 (by decide +kernel) (by decide +kernel)) <|
  am_c (ok_callV (by decide +kernel) (by decide +kernel) kw_319 kw_320 kw_321 kw_318 (by decide +kernel) (by decide +kernel)) <|
  am_c (ok_ret (by decide +kernel) rfl) <|
  am_n
def k_t86 : List (Nat × List (Nat × am_A)) := [(43, k_c86_0), (88, k_c86_1), (135, k_c86_2), (147, k_c86_3)]
theorem k_o86 : ∀ c ∈ k_t86, ∀ q ∈ c.2, am_Ok k_nm D cA B0 sb H00 (k_Th B0 sb H00) prog_1_method_51_code "TokenMouth" "spell" [] none q.1 q.2 := am_cc (P := fun pc a => am_Ok k_nm D cA B0 sb H00 (k_Th B0 sb H00) prog_1_method_51_code "TokenMouth" "spell" [] none pc a) k_p86_0 <| am_cc (P := fun pc a => am_Ok k_nm D cA B0 sb H00 (k_Th B0 sb H00) prog_1_method_51_code "TokenMouth" "spell" [] none pc a) k_p86_1 <| am_cc (P := fun pc a => am_Ok k_nm D cA B0 sb H00 (k_Th B0 sb H00) prog_1_method_51_code "TokenMouth" "spell" [] none pc a) k_p86_2 <| am_cc (P := fun pc a => am_Ok k_nm D cA B0 sb H00 (k_Th B0 sb H00) prog_1_method_51_code "TokenMouth" "spell" [] none pc a) k_p86_3 <| am_cn0
-- 87: TokenMouth.spelled(I)I
def k_c87_0 : List (Nat × am_A) := [(0, ac_iload 0 1), (1, ac_push (.int 255) 4), (4, ac_ii (fun x y => x &&& y) 5), (5, ac_istore 1 6), (6, ac_iload 1 7), (7, ac_push (.int 32) 9), (9, ac_if2 (fun x y => ¬ x = y) 18 12), (12, ac_push (.int 2592) 15), (15, ac_goto 23), (18, ac_iload 1 19), (19, ac_push (.int 3072) 22), (22, ac_ii (fun x y => x + y) 23), (23, ac_iret)]
theorem k_p87_0 : ∀ q ∈ k_c87_0, am_Ok k_nm D cA B0 sb H00 (k_Th B0 sb H00) prog_1_method_52_code "TokenMouth" "spelled" [] (some .int) q.1 q.2 :=
  am_c (ok_iload_n (k := 0) (by decide +kernel) rfl) <|
  am_c (ok_sipush (z := 255) (by decide +kernel) (by decide +kernel)) <|
  am_c (ok_iand (by decide +kernel)) <|
  am_c (ok_istore_n (k := 1) (by decide +kernel) rfl) <|
  am_c (ok_iload_n (k := 1) (by decide +kernel) rfl) <|
  am_c (ok_bipush (z := 32) (by decide +kernel) (by decide +kernel)) <|
  am_c (ok_icmpne (off := 9) (by decide +kernel) (by decide +kernel)) <|
  am_c (ok_sipush (z := 2592) (by decide +kernel) (by decide +kernel)) <|
  am_c (ok_goto (off := 8) (by decide +kernel) (by decide +kernel)) <|
  am_c (ok_iload_n (k := 1) (by decide +kernel) rfl) <|
  am_c (ok_sipush (z := 3072) (by decide +kernel) (by decide +kernel)) <|
  am_c (ok_iadd (by decide +kernel)) <|
  am_c (ok_iret (by decide +kernel) rfl) <|
  am_n
def k_t87 : List (Nat × List (Nat × am_A)) := [(23, k_c87_0)]
theorem k_o87 : ∀ c ∈ k_t87, ∀ q ∈ c.2, am_Ok k_nm D cA B0 sb H00 (k_Th B0 sb H00) prog_1_method_52_code "TokenMouth" "spelled" [] (some .int) q.1 q.2 := am_cc (P := fun pc a => am_Ok k_nm D cA B0 sb H00 (k_Th B0 sb H00) prog_1_method_52_code "TokenMouth" "spelled" [] (some .int) pc a) k_p87_0 <| am_cn0
-- 88: TokenMouth.openConditional(I)Z
def k_c88_0 : List (Nat × am_A) := [(0, ac_aload 0 1), (1, ac_get 2 5 5 4), (4, ac_push (.int 0) 5), (5, ac_callV 4 27 2 8 am_nohd), (8, ac_if1 (fun x => ¬ x = 0) 17 11), (11, ac_aload 0 12), (12, ac_push (.int 5) 13), (13, ac_callV 5 48 2 16 am_nohd), (16, ac_pop 17), (17, ac_aload 0 18), (18, ac_get 2 5 5 21), (21, ac_callV 4 24 1 24 am_nohd), (24, ac_istore 2 25), (25, ac_iload 1 26), (26, ac_push (.int 15) 28), (28, ac_if2 (fun x y => ¬ x = y) 35 31), (31, ac_push (.int 1) 32), (32, ac_goto 36), (35, ac_push (.int 0) 36), (36, ac_istore 3 37), (37, ac_iload 1 38), (38, ac_push (.int 13) 40), (40, ac_if2 (fun x y => ¬ x = y) 81 43), (43, ac_aload 0 44)]
theorem k_p88_0 : ∀ q ∈ k_c88_0, am_Ok k_nm D cA B0 sb H00 (k_Th B0 sb H00) prog_1_method_53_code "TokenMouth" "openConditional" [] (some .boolean) q.1 q.2 :=
  am_c (ok_aload_n (k := 0) (by decide +kernel) rfl) <|
  am_c (ok_get (by decide +kernel) (by decide +kernel) rfl (by decide +kernel) kw_130) <|
  am_c (ok_iconst (z := 0) (by decide +kernel) (by decide +kernel)) <|
  am_c (ok_callV (by decide +kernel) (by decide +kernel) kw_242 kw_21 kw_22 kw_19 (by decide +kernel) (by decide +kernel)) <|
  am_c (ok_ifne (off := 9) (by decide +kernel) (by decide +kernel)) <|
  am_c (ok_aload_n (k := 0) (by decide +kernel) rfl) <|
  am_c (ok_iconst (z := 5) (by decide +kernel) (by decide +kernel)) <|
  am_c (ok_callV (by decide +kernel) (by decide +kernel) kw_230 kw_231 kw_232 kw_229 (by decide +kernel) (by decide +kernel)) <|
  am_c (ok_pop (by decide +kernel)) <|
  am_c (ok_aload_n (k := 0) (by decide +kernel) rfl) <|
  am_c (ok_get (by decide +kernel) (by decide +kernel) rfl (by decide +kernel) kw_130) <|
  am_c (ok_callV (by decide +kernel) (by decide +kernel) kw_170 kw_17 kw_18 kw_15 (by decide +kernel) (by decide +kernel)) <|
  am_c (ok_istore_n (k := 2) (by decide +kernel) rfl) <|
  am_c (ok_iload_n (k := 1) (by decide +kernel) rfl) <|
  am_c (ok_bipush (z := 15) (by decide +kernel) (by decide +kernel)) <|
  am_c (ok_icmpne (off := 7) (by decide +kernel) (by decide +kernel)) <|
  am_c (ok_iconst (z := 1) (by decide +kernel) (by decide +kernel)) <|
  am_c (ok_goto (off := 4) (by decide +kernel) (by decide +kernel)) <|
  am_c (ok_iconst (z := 0) (by decide +kernel) (by decide +kernel)) <|
  am_c (ok_istore_n (k := 3) (by decide +kernel) rfl) <|
  am_c (ok_iload_n (k := 1) (by decide +kernel) rfl) <|
  am_c (ok_bipush (z := 13) (by decide +kernel) (by decide +kernel)) <|
  am_c (ok_icmpne (off := 41) (by decide +kernel) (by decide +kernel)) <|
  am_c (ok_aload_n (k := 0) (by decide +kernel) rfl) <|
  am_n
def k_c88_1 : List (Nat × am_A) := [(44, ac_aload 0 45), (45, ac_callV 5 62 1 48 am_nohd), (48, ac_callV 5 55 2 51 am_nohd), (51, ac_callS 60 1 54), (54, ac_istore 4 56), (56, ac_iload 4 58), (58, ac_aload 0 59), (59, ac_aload 0 60), (60, ac_callV 5 62 1 63 am_nohd), (63, ac_callV 5 55 2 66 am_nohd), (66, ac_callS 60 1 69), (69, ac_if2 (fun x y => ¬ x = y) 76 72), (72, ac_push (.int 1) 73), (73, ac_goto 77), (76, ac_push (.int 0) 77), (77, ac_istore 3 78), (78, ac_goto 114), (81, ac_iload 1 82), (82, ac_push (.int 14) 84), (84, ac_if2 (fun x y => ¬ x = y) 114 87), (87, ac_aload 0 88), (88, ac_aload 0 89), (89, ac_push (.int 1) 90), (90, ac_callV 5 61 2 93 am_nohd)]
theorem k_p88_1 : ∀ q ∈ k_c88_1, am_Ok k_nm D cA B0 sb H00 (k_Th B0 sb H00) prog_1_method_53_code "TokenMouth" "openConditional" [] (some .boolean) q.1 q.2 :=
  am_c (ok_aload_n (k := 0) (by decide +kernel) rfl) <|
  am_c (ok_callV (by decide +kernel) (by decide +kernel) kw_331 kw_332 kw_333 kw_330 (by decide +kernel) (by decide +kernel)) <|
  am_c (ok_callV (by decide +kernel) (by decide +kernel) kw_161 kw_162 kw_163 kw_160 (by decide +kernel) (by decide +kernel)) <|
  am_c (ok_callS (by decide +kernel) kw_402 kw_403 kw_86 kw_401 (by decide +kernel) (by decide +kernel)) <|
  am_c (ok_istore (by decide +kernel)) <|
  am_c (ok_iload (by decide +kernel)) <|
  am_c (ok_aload_n (k := 0) (by decide +kernel) rfl) <|
  am_c (ok_aload_n (k := 0) (by decide +kernel) rfl) <|
  am_c (ok_callV (by decide +kernel) (by decide +kernel) kw_331 kw_332 kw_333 kw_330 (by decide +kernel) (by decide +kernel)) <|
  am_c (ok_callV (by decide +kernel) (by decide +kernel) kw_161 kw_162 kw_163 kw_160 (by decide +kernel) (by decide +kernel)) <|
  am_c (ok_callS (by decide +kernel) kw_402 kw_403 kw_86 kw_401 (by decide +kernel) (by decide +kernel)) <|
  am_c (ok_icmpne (off := 7) (by decide +kernel) (by decide +kernel)) <|
  am_c (ok_iconst (z := 1) (by decide +kernel) (by decide +kernel)) <|
  am_c (ok_goto (off := 4) (by decide +kernel) (by decide +kernel)) <|
  am_c (ok_iconst (z := 0) (by decide +kernel) (by decide +kernel)) <|
  am_c (ok_istore_n (k := 3) (by decide +kernel) rfl) <|
  am_c (ok_goto (off := 36) (by decide +kernel) (by decide +kernel)) <|
  am_c (ok_iload_n (k := 1) (by decide +kernel) rfl) <|
  am_c (ok_bipush (z := 14) (by decide +kernel) (by decide +kernel)) <|
  am_c (ok_icmpne (off := 30) (by decide +kernel) (by decide +kernel)) <|
  am_c (ok_aload_n (k := 0) (by decide +kernel) rfl) <|
  am_c (ok_aload_n (k := 0) (by decide +kernel) rfl) <|
  am_c (ok_iconst (z := 1) (by decide +kernel) (by decide +kernel)) <|
  am_c (ok_callV (by decide +kernel) (by decide +kernel) kw_157 kw_158 kw_159 kw_156 (by decide +kernel) (by decide +kernel)) <|
  am_n
def k_c88_2 : List (Nat × am_A) := [(93, ac_callV 5 55 2 96 am_nohd), (96, ac_istore 4 98), (98, ac_aload 0 99), (99, ac_iload 4 101), (101, ac_aload 0 102), (102, ac_aload 0 103), (103, ac_push (.int 1) 104), (104, ac_callV 5 61 2 107 am_nohd), (107, ac_callV 5 55 2 110 am_nohd), (110, ac_callV 5 59 3 113 am_nohd), (113, ac_istore 3 114), (114, ac_aload 0 115), (115, ac_get 2 5 5 118), (118, ac_iload 2 119), (119, ac_callV 4 30 2 122 am_nohd), (122, ac_iload 3 123), (123, ac_if1 (fun x => x = 0) 137 126), (126, ac_aload 0 127), (127, ac_get 2 5 5 130), (130, ac_iload 2 131), (131, ac_push (.int 1) 132), (132, ac_ii (fun x y => x - y) 133), (133, ac_push (.int 1) 134), (134, ac_callV 4 29 3 137 am_nohd)]
theorem k_p88_2 : ∀ q ∈ k_c88_2, am_Ok k_nm D cA B0 sb H00 (k_Th B0 sb H00) prog_1_method_53_code "TokenMouth" "openConditional" [] (some .boolean) q.1 q.2 :=
  am_c (ok_callV (by decide +kernel) (by decide +kernel) kw_161 kw_162 kw_163 kw_160 (by decide +kernel) (by decide +kernel)) <|
  am_c (ok_istore (by decide +kernel)) <|
  am_c (ok_aload_n (k := 0) (by decide +kernel) rfl) <|
  am_c (ok_iload (by decide +kernel)) <|
  am_c (ok_aload_n (k := 0) (by decide +kernel) rfl) <|
  am_c (ok_aload_n (k := 0) (by decide +kernel) rfl) <|
  am_c (ok_iconst (z := 1) (by decide +kernel) (by decide +kernel)) <|
  am_c (ok_callV (by decide +kernel) (by decide +kernel) kw_157 kw_158 kw_159 kw_156 (by decide +kernel) (by decide +kernel)) <|
  am_c (ok_callV (by decide +kernel) (by decide +kernel) kw_161 kw_162 kw_163 kw_160 (by decide +kernel) (by decide +kernel)) <|
  am_c (ok_callV (by decide +kernel) (by decide +kernel) kw_405 kw_406 kw_407 kw_404 (by decide +kernel) (by decide +kernel)) <|
  am_c (ok_istore_n (k := 3) (by decide +kernel) rfl) <|
  am_c (ok_aload_n (k := 0) (by decide +kernel) rfl) <|
  am_c (ok_get (by decide +kernel) (by decide +kernel) rfl (by decide +kernel) kw_130) <|
  am_c (ok_iload_n (k := 2) (by decide +kernel) rfl) <|
  am_c (ok_callV (by decide +kernel) (by decide +kernel) kw_197 kw_13 kw_14 kw_11 (by decide +kernel) (by decide +kernel)) <|
  am_c (ok_iload_n (k := 3) (by decide +kernel) rfl) <|
  am_c (ok_ifeq (off := 14) (by decide +kernel) (by decide +kernel)) <|
  am_c (ok_aload_n (k := 0) (by decide +kernel) rfl) <|
  am_c (ok_get (by decide +kernel) (by decide +kernel) rfl (by decide +kernel) kw_130) <|
  am_c (ok_iload_n (k := 2) (by decide +kernel) rfl) <|
  am_c (ok_iconst (z := 1) (by decide +kernel) (by decide +kernel)) <|
  am_c (ok_isub (by decide +kernel)) <|
  am_c (ok_iconst (z := 1) (by decide +kernel) (by decide +kernel)) <|
  am_c (ok_callV (by decide +kernel) (by decide +kernel) kw_408 kw_37 kw_38 kw_35 (by decide +kernel) (by decide +kernel)) <|
  am_n
def k_c88_3 : List (Nat × am_A) := [(137, ac_iload 3 138), (138, ac_zret)]
theorem k_p88_3 : ∀ q ∈ k_c88_3, am_Ok k_nm D cA B0 sb H00 (k_Th B0 sb H00) prog_1_method_53_code "TokenMouth" "openConditional" [] (some .boolean) q.1 q.2 :=
  am_c (ok_iload_n (k := 3) (by decide +kernel) rfl) <|
  am_c (ok_zret (by decide +kernel) rfl) <|
  am_n
def k_t88 : List (Nat × List (Nat × am_A)) := [(43, k_c88_0), (90, k_c88_1), (134, k_c88_2), (138, k_c88_3)]
theorem k_o88 : ∀ c ∈ k_t88, ∀ q ∈ c.2, am_Ok k_nm D cA B0 sb H00 (k_Th B0 sb H00) prog_1_method_53_code "TokenMouth" "openConditional" [] (some .boolean) q.1 q.2 := am_cc (P := fun pc a => am_Ok k_nm D cA B0 sb H00 (k_Th B0 sb H00) prog_1_method_53_code "TokenMouth" "openConditional" [] (some .boolean) pc a) k_p88_0 <| am_cc (P := fun pc a => am_Ok k_nm D cA B0 sb H00 (k_Th B0 sb H00) prog_1_method_53_code "TokenMouth" "openConditional" [] (some .boolean) pc a) k_p88_1 <| am_cc (P := fun pc a => am_Ok k_nm D cA B0 sb H00 (k_Th B0 sb H00) prog_1_method_53_code "TokenMouth" "openConditional" [] (some .boolean) pc a) k_p88_2 <| am_cc (P := fun pc a => am_Ok k_nm D cA B0 sb H00 (k_Th B0 sb H00) prog_1_method_53_code "TokenMouth" "openConditional" [] (some .boolean) pc a) k_p88_3 <| am_cn0
-- 89: TokenMouth.pass(Z)V
def k_c89_0 : List (Nat × am_A) := [(0, ac_push (.int 0) 1), (1, ac_istore 2 2), (2, ac_push (.int 0) 3), (3, ac_istore 3 4), (4, ac_iload 3 5), (5, ac_push (.int 1000) 8), (8, ac_if2 (fun x y => y ≤ x) 104 11), (11, ac_aload 0 12), (12, ac_aload 0 13), (13, ac_push (.int 1) 14), (14, ac_callV 5 61 2 17 am_nohd), (17, ac_callV 5 55 2 20 am_nohd), (20, ac_istore 4 22), (22, ac_iload 4 24), (24, ac_push (.int 13) 26), (26, ac_if2 (fun x y => x < y) 42 29), (29, ac_iload 4 31), (31, ac_push (.int 16) 33), (33, ac_if2 (fun x y => y < x) 42 36), (36, ac_iinc 2 1 39), (39, ac_goto 52), (42, ac_iload 4 44), (44, ac_push (.int 18) 46), (46, ac_if2 (fun x y => ¬ x = y) 52 49)]
theorem k_p89_0 : ∀ q ∈ k_c89_0, am_Ok k_nm D cA B0 sb H00 (k_Th B0 sb H00) prog_1_method_54_code "TokenMouth" "pass" [] none q.1 q.2 :=
  am_c (ok_iconst (z := 0) (by decide +kernel) (by decide +kernel)) <|
  am_c (ok_istore_n (k := 2) (by decide +kernel) rfl) <|
  am_c (ok_iconst (z := 0) (by decide +kernel) (by decide +kernel)) <|
  am_c (ok_istore_n (k := 3) (by decide +kernel) rfl) <|
  am_c (ok_iload_n (k := 3) (by decide +kernel) rfl) <|
  am_c (ok_sipush (z := 1000) (by decide +kernel) (by decide +kernel)) <|
  am_c (ok_icmpge (off := 96) (by decide +kernel) (by decide +kernel)) <|
  am_c (ok_aload_n (k := 0) (by decide +kernel) rfl) <|
  am_c (ok_aload_n (k := 0) (by decide +kernel) rfl) <|
  am_c (ok_iconst (z := 1) (by decide +kernel) (by decide +kernel)) <|
  am_c (ok_callV (by decide +kernel) (by decide +kernel) kw_157 kw_158 kw_159 kw_156 (by decide +kernel) (by decide +kernel)) <|
  am_c (ok_callV (by decide +kernel) (by decide +kernel) kw_161 kw_162 kw_163 kw_160 (by decide +kernel) (by decide +kernel)) <|
  am_c (ok_istore (by decide +kernel)) <|
  am_c (ok_iload (by decide +kernel)) <|
  am_c (ok_bipush (z := 13) (by decide +kernel) (by decide +kernel)) <|
  am_c (ok_icmplt (off := 16) (by decide +kernel) (by decide +kernel)) <|
  am_c (ok_iload (by decide +kernel)) <|
  am_c (ok_bipush (z := 16) (by decide +kernel) (by decide +kernel)) <|
  am_c (ok_icmpgt (off := 9) (by decide +kernel) (by decide +kernel)) <|
  am_c (ok_iinc (z := 1) (by decide +kernel) (by decide +kernel)) <|
  am_c (ok_goto (off := 13) (by decide +kernel) (by decide +kernel)) <|
  am_c (ok_iload (by decide +kernel)) <|
  am_c (ok_bipush (z := 18) (by decide +kernel) (by decide +kernel)) <|
  am_c (ok_icmpne (off := 6) (by decide +kernel) (by decide +kernel)) <|
  am_n
def k_c89_1 : List (Nat × am_A) := [(49, ac_iinc 2 (-1) 52), (52, ac_iload 2 53), (53, ac_if1 (fun x => 0 ≤ x) 65 56), (56, ac_aload 0 57), (57, ac_get 2 5 5 60), (60, ac_callV 4 28 1 63 am_nohd), (63, ac_pop 64), (64, ac_ret), (65, ac_iload 4 67), (67, ac_push (.int 17) 69), (69, ac_if2 (fun x y => ¬ x = y) 98 72), (72, ac_iload 2 73), (73, ac_if1 (fun x => ¬ x = 0) 98 76), (76, ac_iload 1 77), (77, ac_if1 (fun x => x = 0) 98 80), (80, ac_aload 0 81), (81, ac_get 2 5 5 84), (84, ac_aload 0 85), (85, ac_get 2 5 5 88), (88, ac_callV 4 24 1 91 am_nohd), (91, ac_push (.int 1) 92), (92, ac_ii (fun x y => x - y) 93), (93, ac_push (.int 2) 94), (94, ac_callV 4 29 3 97 am_nohd)]
theorem k_p89_1 : ∀ q ∈ k_c89_1, am_Ok k_nm D cA B0 sb H00 (k_Th B0 sb H00) prog_1_method_54_code "TokenMouth" "pass" [] none q.1 q.2 :=
  am_c (ok_iinc (z := (-1)) (by decide +kernel) (by decide +kernel)) <|
  am_c (ok_iload_n (k := 2) (by decide +kernel) rfl) <|
  am_c (ok_ifge (off := 12) (by decide +kernel) (by decide +kernel)) <|
  am_c (ok_aload_n (k := 0) (by decide +kernel) rfl) <|
  am_c (ok_get (by decide +kernel) (by decide +kernel) rfl (by decide +kernel) kw_130) <|
  am_c (ok_callV (by decide +kernel) (by decide +kernel) kw_217 kw_218 kw_219 kw_216 (by decide +kernel) (by decide +kernel)) <|
  am_c (ok_pop (by decide +kernel)) <|
  am_c (ok_ret (by decide +kernel) rfl) <|
  am_c (ok_iload (by decide +kernel)) <|
  am_c (ok_bipush (z := 17) (by decide +kernel) (by decide +kernel)) <|
  am_c (ok_icmpne (off := 29) (by decide +kernel) (by decide +kernel)) <|
  am_c (ok_iload_n (k := 2) (by decide +kernel) rfl) <|
  am_c (ok_ifne (off := 25) (by decide +kernel) (by decide +kernel)) <|
  am_c (ok_iload_n (k := 1) (by decide +kernel) rfl) <|
  am_c (ok_ifeq (off := 21) (by decide +kernel) (by decide +kernel)) <|
  am_c (ok_aload_n (k := 0) (by decide +kernel) rfl) <|
  am_c (ok_get (by decide +kernel) (by decide +kernel) rfl (by decide +kernel) kw_130) <|
  am_c (ok_aload_n (k := 0) (by decide +kernel) rfl) <|
  am_c (ok_get (by decide +kernel) (by decide +kernel) rfl (by decide +kernel) kw_130) <|
  am_c (ok_callV (by decide +kernel) (by decide +kernel) kw_170 kw_17 kw_18 kw_15 (by decide +kernel) (by decide +kernel)) <|
  am_c (ok_iconst (z := 1) (by decide +kernel) (by decide +kernel)) <|
  am_c (ok_isub (by decide +kernel)) <|
  am_c (ok_iconst (z := 2) (by decide +kernel) (by decide +kernel)) <|
  am_c (ok_callV (by decide +kernel) (by decide +kernel) kw_408 kw_37 kw_38 kw_35 (by decide +kernel) (by decide +kernel)) <|
  am_n
def k_c89_2 : List (Nat × am_A) := [(97, ac_ret), (98, ac_iinc 3 1 101), (101, ac_goto 4), (104, ac_ret)]
theorem k_p89_2 : ∀ q ∈ k_c89_2, am_Ok k_nm D cA B0 sb H00 (k_Th B0 sb H00) prog_1_method_54_code "TokenMouth" "pass" [] none q.1 q.2 :=
  am_c (ok_ret (by decide +kernel) rfl) <|
  am_c (ok_iinc (z := 1) (by decide +kernel) (by decide +kernel)) <|
  am_c (ok_goto (off := -97) (by decide +kernel) (by decide +kernel)) <|
  am_c (ok_ret (by decide +kernel) rfl) <|
  am_n
def k_t89 : List (Nat × List (Nat × am_A)) := [(46, k_c89_0), (94, k_c89_1), (104, k_c89_2)]
theorem k_o89 : ∀ c ∈ k_t89, ∀ q ∈ c.2, am_Ok k_nm D cA B0 sb H00 (k_Th B0 sb H00) prog_1_method_54_code "TokenMouth" "pass" [] none q.1 q.2 := am_cc (P := fun pc a => am_Ok k_nm D cA B0 sb H00 (k_Th B0 sb H00) prog_1_method_54_code "TokenMouth" "pass" [] none pc a) k_p89_0 <| am_cc (P := fun pc a => am_Ok k_nm D cA B0 sb H00 (k_Th B0 sb H00) prog_1_method_54_code "TokenMouth" "pass" [] none pc a) k_p89_1 <| am_cc (P := fun pc a => am_Ok k_nm D cA B0 sb H00 (k_Th B0 sb H00) prog_1_method_54_code "TokenMouth" "pass" [] none pc a) k_p89_2 <| am_cn0
-- 90: TokenMouthModel.<init>()V
def k_c90_0 : List (Nat × am_A) := [(0, ac_aload 0 1), (1, ac_oinit 4), (4, ac_aload 0 5), (5, ac_push (.int 160) 8), (8, ac_newa 0 4 10), (10, ac_putR 6 2 13), (13, ac_aload 0 14), (14, ac_push (.int 128) 17), (17, ac_newa 0 4 19), (19, ac_putR 6 8 22), (22, ac_aload 0 23), (23, ac_push (.int 302) 26), (26, ac_newa 0 4 28), (28, ac_putR 6 10 31), (31, ac_aload 0 32), (32, ac_push (.int 1320) 35), (35, ac_newa 0 4 37), (37, ac_putR 6 12 40), (40, ac_aload 0 41), (41, ac_push (.int 120) 43), (43, ac_newa 0 4 45), (45, ac_putR 6 13 48), (48, ac_aload 0 49), (49, ac_push (.int 120) 51)]
theorem k_p90_0 : ∀ q ∈ k_c90_0, am_Ok k_nm D cA B0 sb H00 (k_Th B0 sb H00) prog_8_method_1_code "TokenMouthModel" "<init>" [] none q.1 q.2 :=
  am_c (ok_aload_n (k := 0) (by decide +kernel) rfl) <|
  am_c (ok_oinit (by decide +kernel) kw_409 kw_1 kw_oi) <|
  am_c (ok_aload_n (k := 0) (by decide +kernel) rfl) <|
  am_c (ok_sipush (z := 160) (by decide +kernel) (by decide +kernel)) <|
  am_c (ok_newa (at_ := .int) (by decide +kernel) rfl rfl (by decide +kernel) kw_50) <|
  am_c (ok_putR (by decide +kernel) (by decide +kernel) (ty := (.array .int)) rfl rfl (fun _ => ⟨rfl, rfl⟩) (by decide +kernel) kw_410 (Or.inr ⟨rfl, rfl, rfl⟩)) <|
  am_c (ok_aload_n (k := 0) (by decide +kernel) rfl) <|
  am_c (ok_sipush (z := 128) (by decide +kernel) (by decide +kernel)) <|
  am_c (ok_newa (at_ := .int) (by decide +kernel) rfl rfl (by decide +kernel) kw_50) <|
  am_c (ok_putR (by decide +kernel) (by decide +kernel) (ty := (.array .int)) rfl rfl (fun _ => ⟨rfl, rfl⟩) (by decide +kernel) kw_411 (Or.inr ⟨rfl, rfl, rfl⟩)) <|
  am_c (ok_aload_n (k := 0) (by decide +kernel) rfl) <|
  am_c (ok_sipush (z := 302) (by decide +kernel) (by decide +kernel)) <|
  am_c (ok_newa (at_ := .int) (by decide +kernel) rfl rfl (by decide +kernel) kw_50) <|
  am_c (ok_putR (by decide +kernel) (by decide +kernel) (ty := (.array .int)) rfl rfl (fun _ => ⟨rfl, rfl⟩) (by decide +kernel) kw_412 (Or.inr ⟨rfl, rfl, rfl⟩)) <|
  am_c (ok_aload_n (k := 0) (by decide +kernel) rfl) <|
  am_c (ok_sipush (z := 1320) (by decide +kernel) (by decide +kernel)) <|
  am_c (ok_newa (at_ := .int) (by decide +kernel) rfl rfl (by decide +kernel) kw_50) <|
  am_c (ok_putR (by decide +kernel) (by decide +kernel) (ty := (.array .int)) rfl rfl (fun _ => ⟨rfl, rfl⟩) (by decide +kernel) kw_413 (Or.inr ⟨rfl, rfl, rfl⟩)) <|
  am_c (ok_aload_n (k := 0) (by decide +kernel) rfl) <|
  am_c (ok_bipush (z := 120) (by decide +kernel) (by decide +kernel)) <|
  am_c (ok_newa (at_ := .int) (by decide +kernel) rfl rfl (by decide +kernel) kw_50) <|
  am_c (ok_putR (by decide +kernel) (by decide +kernel) (ty := (.array .int)) rfl rfl (fun _ => ⟨rfl, rfl⟩) (by decide +kernel) kw_414 (Or.inr ⟨rfl, rfl, rfl⟩)) <|
  am_c (ok_aload_n (k := 0) (by decide +kernel) rfl) <|
  am_c (ok_bipush (z := 120) (by decide +kernel) (by decide +kernel)) <|
  am_n
def k_c90_1 : List (Nat × am_A) := [(51, ac_newa 2 1 53), (53, ac_putR 6 14 56), (56, ac_aload 0 57), (57, ac_push (.int 120) 59), (59, ac_newa 0 4 61), (61, ac_putR 6 15 64), (64, ac_aload 0 65), (65, ac_push (.int 12) 67), (67, ac_newa 0 4 69), (69, ac_putR 6 17 72), (72, ac_aload 0 73), (73, ac_push (.int 60) 75), (75, ac_newa 0 4 77), (77, ac_putR 6 20 80), (80, ac_aload 0 81), (81, ac_push (.int 60) 83), (83, ac_newa 0 4 85), (85, ac_putR 6 21 88), (88, ac_aload 0 89), (89, ac_push (.int 60) 91), (91, ac_newa 0 4 93), (93, ac_putR 6 22 96), (96, ac_aload 0 97), (97, ac_push (.int 61) 99)]
theorem k_p90_1 : ∀ q ∈ k_c90_1, am_Ok k_nm D cA B0 sb H00 (k_Th B0 sb H00) prog_8_method_1_code "TokenMouthModel" "<init>" [] none q.1 q.2 :=
  am_c (ok_newa (at_ := .boolean) (by decide +kernel) rfl rfl (by decide +kernel) kw_415) <|
  am_c (ok_putR (by decide +kernel) (by decide +kernel) (ty := (.array .boolean)) rfl rfl (fun _ => ⟨rfl, rfl⟩) (by decide +kernel) kw_416 (Or.inr ⟨rfl, rfl, rfl⟩)) <|
  am_c (ok_aload_n (k := 0) (by decide +kernel) rfl) <|
  am_c (ok_bipush (z := 120) (by decide +kernel) (by decide +kernel)) <|
  am_c (ok_newa (at_ := .int) (by decide +kernel) rfl rfl (by decide +kernel) kw_50) <|
  am_c (ok_putR (by decide +kernel) (by decide +kernel) (ty := (.array .int)) rfl rfl (fun _ => ⟨rfl, rfl⟩) (by decide +kernel) kw_417 (Or.inr ⟨rfl, rfl, rfl⟩)) <|
  am_c (ok_aload_n (k := 0) (by decide +kernel) rfl) <|
  am_c (ok_bipush (z := 12) (by decide +kernel) (by decide +kernel)) <|
  am_c (ok_newa (at_ := .int) (by decide +kernel) rfl rfl (by decide +kernel) kw_50) <|
  am_c (ok_putR (by decide +kernel) (by decide +kernel) (ty := (.array .int)) rfl rfl (fun _ => ⟨rfl, rfl⟩) (by decide +kernel) kw_418 (Or.inr ⟨rfl, rfl, rfl⟩)) <|
  am_c (ok_aload_n (k := 0) (by decide +kernel) rfl) <|
  am_c (ok_bipush (z := 60) (by decide +kernel) (by decide +kernel)) <|
  am_c (ok_newa (at_ := .int) (by decide +kernel) rfl rfl (by decide +kernel) kw_50) <|
  am_c (ok_putR (by decide +kernel) (by decide +kernel) (ty := (.array .int)) rfl rfl (fun _ => ⟨rfl, rfl⟩) (by decide +kernel) kw_419 (Or.inr ⟨rfl, rfl, rfl⟩)) <|
  am_c (ok_aload_n (k := 0) (by decide +kernel) rfl) <|
  am_c (ok_bipush (z := 60) (by decide +kernel) (by decide +kernel)) <|
  am_c (ok_newa (at_ := .int) (by decide +kernel) rfl rfl (by decide +kernel) kw_50) <|
  am_c (ok_putR (by decide +kernel) (by decide +kernel) (ty := (.array .int)) rfl rfl (fun _ => ⟨rfl, rfl⟩) (by decide +kernel) kw_420 (Or.inr ⟨rfl, rfl, rfl⟩)) <|
  am_c (ok_aload_n (k := 0) (by decide +kernel) rfl) <|
  am_c (ok_bipush (z := 60) (by decide +kernel) (by decide +kernel)) <|
  am_c (ok_newa (at_ := .int) (by decide +kernel) rfl rfl (by decide +kernel) kw_50) <|
  am_c (ok_putR (by decide +kernel) (by decide +kernel) (ty := (.array .int)) rfl rfl (fun _ => ⟨rfl, rfl⟩) (by decide +kernel) kw_421 (Or.inr ⟨rfl, rfl, rfl⟩)) <|
  am_c (ok_aload_n (k := 0) (by decide +kernel) rfl) <|
  am_c (ok_bipush (z := 61) (by decide +kernel) (by decide +kernel)) <|
  am_n
def k_c90_2 : List (Nat × am_A) := [(99, ac_newa 0 4 101), (101, ac_putR 6 24 104), (104, ac_aload 0 105), (105, ac_push (.int 800) 108), (108, ac_newa 0 4 110), (110, ac_putR 6 25 113), (113, ac_aload 0 114), (114, ac_push (.int 61) 116), (116, ac_newa 0 4 118), (118, ac_putR 6 26 121), (121, ac_aload 0 122), (122, ac_push (.int 2500) 125), (125, ac_newa 0 4 127), (127, ac_putR 6 27 130), (130, ac_aload 0 131), (131, ac_push (.int 61) 133), (133, ac_newa 0 4 135), (135, ac_putR 6 28 138), (138, ac_aload 0 139), (139, ac_push (.int 12) 141), (141, ac_newa 0 4 143), (143, ac_putR 6 30 146), (146, ac_aload 0 147), (147, ac_push (.int 30) 149)]
theorem k_p90_2 : ∀ q ∈ k_c90_2, am_Ok k_nm D cA B0 sb H00 (k_Th B0 sb H00) prog_8_method_1_code "TokenMouthModel" "<init>" [] none q.1 q.2 :=
  am_c (ok_newa (at_ := .int) (by decide +kernel) rfl rfl (by decide +kernel) kw_50) <|
  am_c (ok_putR (by decide +kernel) (by decide +kernel) (ty := (.array .int)) rfl rfl (fun _ => ⟨rfl, rfl⟩) (by decide +kernel) kw_422 (Or.inr ⟨rfl, rfl, rfl⟩)) <|
  am_c (ok_aload_n (k := 0) (by decide +kernel) rfl) <|
  am_c (ok_sipush (z := 800) (by decide +kernel) (by decide +kernel)) <|
  am_c (ok_newa (at_ := .int) (by decide +kernel) rfl rfl (by decide +kernel) kw_50) <|
  am_c (ok_putR (by decide +kernel) (by decide +kernel) (ty := (.array .int)) rfl rfl (fun _ => ⟨rfl, rfl⟩) (by decide +kernel) kw_423 (Or.inr ⟨rfl, rfl, rfl⟩)) <|
  am_c (ok_aload_n (k := 0) (by decide +kernel) rfl) <|
  am_c (ok_bipush (z := 61) (by decide +kernel) (by decide +kernel)) <|
  am_c (ok_newa (at_ := .int) (by decide +kernel) rfl rfl (by decide +kernel) kw_50) <|
  am_c (ok_putR (by decide +kernel) (by decide +kernel) (ty := (.array .int)) rfl rfl (fun _ => ⟨rfl, rfl⟩) (by decide +kernel) kw_424 (Or.inr ⟨rfl, rfl, rfl⟩)) <|
  am_c (ok_aload_n (k := 0) (by decide +kernel) rfl) <|
  am_c (ok_sipush (z := 2500) (by decide +kernel) (by decide +kernel)) <|
  am_c (ok_newa (at_ := .int) (by decide +kernel) rfl rfl (by decide +kernel) kw_50) <|
  am_c (ok_putR (by decide +kernel) (by decide +kernel) (ty := (.array .int)) rfl rfl (fun _ => ⟨rfl, rfl⟩) (by decide +kernel) kw_425 (Or.inr ⟨rfl, rfl, rfl⟩)) <|
  am_c (ok_aload_n (k := 0) (by decide +kernel) rfl) <|
  am_c (ok_bipush (z := 61) (by decide +kernel) (by decide +kernel)) <|
  am_c (ok_newa (at_ := .int) (by decide +kernel) rfl rfl (by decide +kernel) kw_50) <|
  am_c (ok_putR (by decide +kernel) (by decide +kernel) (ty := (.array .int)) rfl rfl (fun _ => ⟨rfl, rfl⟩) (by decide +kernel) kw_426 (Or.inr ⟨rfl, rfl, rfl⟩)) <|
  am_c (ok_aload_n (k := 0) (by decide +kernel) rfl) <|
  am_c (ok_bipush (z := 12) (by decide +kernel) (by decide +kernel)) <|
  am_c (ok_newa (at_ := .int) (by decide +kernel) rfl rfl (by decide +kernel) kw_50) <|
  am_c (ok_putR (by decide +kernel) (by decide +kernel) (ty := (.array .int)) rfl rfl (fun _ => ⟨rfl, rfl⟩) (by decide +kernel) kw_427 (Or.inr ⟨rfl, rfl, rfl⟩)) <|
  am_c (ok_aload_n (k := 0) (by decide +kernel) rfl) <|
  am_c (ok_bipush (z := 30) (by decide +kernel) (by decide +kernel)) <|
  am_n
def k_c90_3 : List (Nat × am_A) := [(149, ac_newa 0 4 151), (151, ac_putR 6 32 154), (154, ac_aload 0 155), (155, ac_push (.int 30) 157), (157, ac_newa 0 4 159), (159, ac_putR 6 33 162), (162, ac_aload 0 163), (163, ac_push (.int 30) 165), (165, ac_newa 0 4 167), (167, ac_putR 6 34 170), (170, ac_aload 0 171), (171, ac_push (.int 30) 173), (173, ac_newa 0 4 175), (175, ac_putR 6 35 178), (178, ac_aload 0 179), (179, ac_push (.int 360) 182), (182, ac_newa 0 4 184), (184, ac_putR 6 36 187), (187, ac_aload 0 188), (188, ac_push (.int 200) 191), (191, ac_newa 0 4 193), (193, ac_putR 6 38 196), (196, ac_aload 0 197), (197, ac_push (.int 168) 200)]
theorem k_p90_3 : ∀ q ∈ k_c90_3, am_Ok k_nm D cA B0 sb H00 (k_Th B0 sb H00) prog_8_method_1_code "TokenMouthModel" "<init>" [] none q.1 q.2 :=
  am_c (ok_newa (at_ := .int) (by decide +kernel) rfl rfl (by decide +kernel) kw_50) <|
  am_c (ok_putR (by decide +kernel) (by decide +kernel) (ty := (.array .int)) rfl rfl (fun _ => ⟨rfl, rfl⟩) (by decide +kernel) kw_428 (Or.inr ⟨rfl, rfl, rfl⟩)) <|
  am_c (ok_aload_n (k := 0) (by decide +kernel) rfl) <|
  am_c (ok_bipush (z := 30) (by decide +kernel) (by decide +kernel)) <|
  am_c (ok_newa (at_ := .int) (by decide +kernel) rfl rfl (by decide +kernel) kw_50) <|
  am_c (ok_putR (by decide +kernel) (by decide +kernel) (ty := (.array .int)) rfl rfl (fun _ => ⟨rfl, rfl⟩) (by decide +kernel) kw_429 (Or.inr ⟨rfl, rfl, rfl⟩)) <|
  am_c (ok_aload_n (k := 0) (by decide +kernel) rfl) <|
  am_c (ok_bipush (z := 30) (by decide +kernel) (by decide +kernel)) <|
  am_c (ok_newa (at_ := .int) (by decide +kernel) rfl rfl (by decide +kernel) kw_50) <|
  am_c (ok_putR (by decide +kernel) (by decide +kernel) (ty := (.array .int)) rfl rfl (fun _ => ⟨rfl, rfl⟩) (by decide +kernel) kw_430 (Or.inr ⟨rfl, rfl, rfl⟩)) <|
  am_c (ok_aload_n (k := 0) (by decide +kernel) rfl) <|
  am_c (ok_bipush (z := 30) (by decide +kernel) (by decide +kernel)) <|
  am_c (ok_newa (at_ := .int) (by decide +kernel) rfl rfl (by decide +kernel) kw_50) <|
  am_c (ok_putR (by decide +kernel) (by decide +kernel) (ty := (.array .int)) rfl rfl (fun _ => ⟨rfl, rfl⟩) (by decide +kernel) kw_431 (Or.inr ⟨rfl, rfl, rfl⟩)) <|
  am_c (ok_aload_n (k := 0) (by decide +kernel) rfl) <|
  am_c (ok_sipush (z := 360) (by decide +kernel) (by decide +kernel)) <|
  am_c (ok_newa (at_ := .int) (by decide +kernel) rfl rfl (by decide +kernel) kw_50) <|
  am_c (ok_putR (by decide +kernel) (by decide +kernel) (ty := (.array .int)) rfl rfl (fun _ => ⟨rfl, rfl⟩) (by decide +kernel) kw_432 (Or.inr ⟨rfl, rfl, rfl⟩)) <|
  am_c (ok_aload_n (k := 0) (by decide +kernel) rfl) <|
  am_c (ok_sipush (z := 200) (by decide +kernel) (by decide +kernel)) <|
  am_c (ok_newa (at_ := .int) (by decide +kernel) rfl rfl (by decide +kernel) kw_50) <|
  am_c (ok_putR (by decide +kernel) (by decide +kernel) (ty := (.array .int)) rfl rfl (fun _ => ⟨rfl, rfl⟩) (by decide +kernel) kw_433 (Or.inr ⟨rfl, rfl, rfl⟩)) <|
  am_c (ok_aload_n (k := 0) (by decide +kernel) rfl) <|
  am_c (ok_sipush (z := 168) (by decide +kernel) (by decide +kernel)) <|
  am_n
def k_c90_4 : List (Nat × am_A) := [(200, ac_newa 0 4 202), (202, ac_putR 6 39 205), (205, ac_aload 0 206), (206, ac_push (.int 4) 207), (207, ac_newa 0 4 209), (209, ac_putR 6 40 212), (212, ac_aload 0 213), (213, ac_push (.long 3) 216), (216, ac_push (.long 18480) 219), (219, ac_callV 6 91 3 222 am_nohd), (222, ac_aload 0 223), (223, ac_push (.long 5) 226), (226, ac_push (.long 25211058) 229), (229, ac_callV 6 91 3 232 am_nohd), (232, ac_aload 0 233), (233, ac_push (.long 3) 236), (236, ac_push (.long 6308) 239), (239, ac_callV 6 91 3 242 am_nohd), (242, ac_aload 0 243), (243, ac_push (.long 4) 246), (246, ac_push (.long 201863) 249), (249, ac_callV 6 91 3 252 am_nohd), (252, ac_aload 0 253), (253, ac_push (.long 4) 256)]
theorem k_p90_4 : ∀ q ∈ k_c90_4, am_Ok k_nm D cA B0 sb H00 (k_Th B0 sb H00) prog_8_method_1_code "TokenMouthModel" "<init>" [] none q.1 q.2 :=
  am_c (ok_newa (at_ := .int) (by decide +kernel) rfl rfl (by decide +kernel) kw_50) <|
  am_c (ok_putR (by decide +kernel) (by decide +kernel) (ty := (.array .int)) rfl rfl (fun _ => ⟨rfl, rfl⟩) (by decide +kernel) kw_434 (Or.inr ⟨rfl, rfl, rfl⟩)) <|
  am_c (ok_aload_n (k := 0) (by decide +kernel) rfl) <|
  am_c (ok_iconst (z := 4) (by decide +kernel) (by decide +kernel)) <|
  am_c (ok_newa (at_ := .int) (by decide +kernel) rfl rfl (by decide +kernel) kw_50) <|
  am_c (ok_putR (by decide +kernel) (by decide +kernel) (ty := (.array .int)) rfl rfl (fun _ => ⟨rfl, rfl⟩) (by decide +kernel) kw_435 (Or.inr ⟨rfl, rfl, rfl⟩)) <|
  am_c (ok_aload_n (k := 0) (by decide +kernel) rfl) <|
  am_c (ok_ldc2 (by decide +kernel) kw_436) <|
  am_c (ok_ldc2 (by decide +kernel) kw_437) <|
  am_c (ok_callV (by decide +kernel) (by decide +kernel) kw_439 kw_440 kw_441 kw_438 (by decide +kernel) (by decide +kernel)) <|
  am_c (ok_aload_n (k := 0) (by decide +kernel) rfl) <|
  am_c (ok_ldc2 (by decide +kernel) kw_442) <|
  am_c (ok_ldc2 (by decide +kernel) kw_443) <|
  am_c (ok_callV (by decide +kernel) (by decide +kernel) kw_439 kw_440 kw_441 kw_438 (by decide +kernel) (by decide +kernel)) <|
  am_c (ok_aload_n (k := 0) (by decide +kernel) rfl) <|
  am_c (ok_ldc2 (by decide +kernel) kw_436) <|
  am_c (ok_ldc2 (by decide +kernel) kw_444) <|
  am_c (ok_callV (by decide +kernel) (by decide +kernel) kw_439 kw_440 kw_441 kw_438 (by decide +kernel) (by decide +kernel)) <|
  am_c (ok_aload_n (k := 0) (by decide +kernel) rfl) <|
  am_c (ok_ldc2 (by decide +kernel) kw_445) <|
  am_c (ok_ldc2 (by decide +kernel) kw_446) <|
  am_c (ok_callV (by decide +kernel) (by decide +kernel) kw_439 kw_440 kw_441 kw_438 (by decide +kernel) (by decide +kernel)) <|
  am_c (ok_aload_n (k := 0) (by decide +kernel) rfl) <|
  am_c (ok_ldc2 (by decide +kernel) kw_445) <|
  am_n
def k_c90_5 : List (Nat × am_A) := [(256, ac_push (.long 201861) 259), (259, ac_callV 6 91 3 262 am_nohd), (262, ac_aload 0 263), (263, ac_push (.long 3) 266), (266, ac_push (.long 20652) 269), (269, ac_callV 6 91 3 272 am_nohd), (272, ac_aload 0 273), (273, ac_push (.long 7) 276), (276, ac_push (.long 5518774307) 279), (279, ac_callV 6 91 3 282 am_nohd), (282, ac_aload 0 283), (283, ac_push (.long 11) 286), (286, ac_push (.long 20464317797286661) 289), (289, ac_callV 6 91 3 292 am_nohd), (292, ac_aload 0 293), (293, ac_push (.long 8) 296), (296, ac_push (.long 152522462702) 299), (299, ac_callV 6 91 3 302 am_nohd), (302, ac_aload 0 303), (303, ac_push (.long 6) 306), (306, ac_push (.long 181451363) 309), (309, ac_callV 6 91 3 312 am_nohd), (312, ac_aload 0 313), (313, ac_push (.long 9) 316)]
theorem k_p90_5 : ∀ q ∈ k_c90_5, am_Ok k_nm D cA B0 sb H00 (k_Th B0 sb H00) prog_8_method_1_code "TokenMouthModel" "<init>" [] none q.1 q.2 :=
  am_c (ok_ldc2 (by decide +kernel) kw_447) <|
  am_c (ok_callV (by decide +kernel) (by decide +kernel) kw_439 kw_440 kw_441 kw_438 (by decide +kernel) (by decide +kernel)) <|
  am_c (ok_aload_n (k := 0) (by decide +kernel) rfl) <|
  am_c (ok_ldc2 (by decide +kernel) kw_436) <|
  am_c (ok_ldc2 (by decide +kernel) kw_448) <|
  am_c (ok_callV (by decide +kernel) (by decide +kernel) kw_439 kw_440 kw_441 kw_438 (by decide +kernel) (by decide +kernel)) <|
  am_c (ok_aload_n (k := 0) (by decide +kernel) rfl) <|
  am_c (ok_ldc2 (by decide +kernel) kw_449) <|
  am_c (ok_ldc2 (by decide +kernel) kw_450) <|
  am_c (ok_callV (by decide +kernel) (by decide +kernel) kw_439 kw_440 kw_441 kw_438 (by decide +kernel) (by decide +kernel)) <|
  am_c (ok_aload_n (k := 0) (by decide +kernel) rfl) <|
  am_c (ok_ldc2 (by decide +kernel) kw_451) <|
  am_c (ok_ldc2 (by decide +kernel) kw_452) <|
  am_c (ok_callV (by decide +kernel) (by decide +kernel) kw_439 kw_440 kw_441 kw_438 (by decide +kernel) (by decide +kernel)) <|
  am_c (ok_aload_n (k := 0) (by decide +kernel) rfl) <|
  am_c (ok_ldc2 (by decide +kernel) kw_453) <|
  am_c (ok_ldc2 (by decide +kernel) kw_454) <|
  am_c (ok_callV (by decide +kernel) (by decide +kernel) kw_439 kw_440 kw_441 kw_438 (by decide +kernel) (by decide +kernel)) <|
  am_c (ok_aload_n (k := 0) (by decide +kernel) rfl) <|
  am_c (ok_ldc2 (by decide +kernel) kw_455) <|
  am_c (ok_ldc2 (by decide +kernel) kw_456) <|
  am_c (ok_callV (by decide +kernel) (by decide +kernel) kw_439 kw_440 kw_441 kw_438 (by decide +kernel) (by decide +kernel)) <|
  am_c (ok_aload_n (k := 0) (by decide +kernel) rfl) <|
  am_c (ok_ldc2 (by decide +kernel) kw_457) <|
  am_n
def k_c90_6 : List (Nat × am_A) := [(316, ac_push (.long 5945798267333) 319), (319, ac_callV 6 91 3 322 am_nohd), (322, ac_aload 0 323), (323, ac_push (.long 6) 326), (326, ac_push (.long 249875091) 329), (329, ac_callV 6 91 3 332 am_nohd), (332, ac_aload 0 333), (333, ac_push (.long 2) 336), (336, ac_push (.long 201) 339), (339, ac_callV 6 91 3 342 am_nohd), (342, ac_aload 0 343), (343, ac_push (.long 3) 346), (346, ac_push (.long 24777) 349), (349, ac_callV 6 91 3 352 am_nohd), (352, ac_aload 0 353), (353, ac_push (.long 6) 356), (356, ac_push (.long 190402761) 359), (359, ac_callV 6 91 3 362 am_nohd), (362, ac_aload 0 363), (363, ac_push (.long 7) 366), (366, ac_push (.long 6018865353) 369), (369, ac_callV 6 91 3 372 am_nohd), (372, ac_aload 0 373), (373, ac_push (.long 4) 376)]
theorem k_p90_6 : ∀ q ∈ k_c90_6, am_Ok k_nm D cA B0 sb H00 (k_Th B0 sb H00) prog_8_method_1_code "TokenMouthModel" "<init>" [] none q.1 q.2 :=
  am_c (ok_ldc2 (by decide +kernel) kw_458) <|
  am_c (ok_callV (by decide +kernel) (by decide +kernel) kw_439 kw_440 kw_441 kw_438 (by decide +kernel) (by decide +kernel)) <|
  am_c (ok_aload_n (k := 0) (by decide +kernel) rfl) <|
  am_c (ok_ldc2 (by decide +kernel) kw_455) <|
  am_c (ok_ldc2 (by decide +kernel) kw_459) <|
  am_c (ok_callV (by decide +kernel) (by decide +kernel) kw_439 kw_440 kw_441 kw_438 (by decide +kernel) (by decide +kernel)) <|
  am_c (ok_aload_n (k := 0) (by decide +kernel) rfl) <|
  am_c (ok_ldc2 (by decide +kernel) kw_460) <|
  am_c (ok_ldc2 (by decide +kernel) kw_461) <|
  am_c (ok_callV (by decide +kernel) (by decide +kernel) kw_439 kw_440 kw_441 kw_438 (by decide +kernel) (by decide +kernel)) <|
  am_c (ok_aload_n (k := 0) (by decide +kernel) rfl) <|
  am_c (ok_ldc2 (by decide +kernel) kw_436) <|
  am_c (ok_ldc2 (by decide +kernel) kw_462) <|
  am_c (ok_callV (by decide +kernel) (by decide +kernel) kw_439 kw_440 kw_441 kw_438 (by decide +kernel) (by decide +kernel)) <|
  am_c (ok_aload_n (k := 0) (by decide +kernel) rfl) <|
  am_c (ok_ldc2 (by decide +kernel) kw_455) <|
  am_c (ok_ldc2 (by decide +kernel) kw_463) <|
  am_c (ok_callV (by decide +kernel) (by decide +kernel) kw_439 kw_440 kw_441 kw_438 (by decide +kernel) (by decide +kernel)) <|
  am_c (ok_aload_n (k := 0) (by decide +kernel) rfl) <|
  am_c (ok_ldc2 (by decide +kernel) kw_449) <|
  am_c (ok_ldc2 (by decide +kernel) kw_464) <|
  am_c (ok_callV (by decide +kernel) (by decide +kernel) kw_439 kw_440 kw_441 kw_438 (by decide +kernel) (by decide +kernel)) <|
  am_c (ok_aload_n (k := 0) (by decide +kernel) rfl) <|
  am_c (ok_ldc2 (by decide +kernel) kw_445) <|
  am_n
def k_c90_7 : List (Nat × am_A) := [(376, ac_push (.long 183685) 379), (379, ac_callV 6 91 3 382 am_nohd), (382, ac_aload 0 383), (383, ac_push (.long 2) 386), (386, ac_push (.long 294) 389), (389, ac_callV 6 91 3 392 am_nohd), (392, ac_aload 0 393), (393, ac_callV 6 92 1 396 am_nohd), (396, ac_ret)]
theorem k_p90_7 : ∀ q ∈ k_c90_7, am_Ok k_nm D cA B0 sb H00 (k_Th B0 sb H00) prog_8_method_1_code "TokenMouthModel" "<init>" [] none q.1 q.2 :=
  am_c (ok_ldc2 (by decide +kernel) kw_465) <|
  am_c (ok_callV (by decide +kernel) (by decide +kernel) kw_439 kw_440 kw_441 kw_438 (by decide +kernel) (by decide +kernel)) <|
  am_c (ok_aload_n (k := 0) (by decide +kernel) rfl) <|
  am_c (ok_ldc2 (by decide +kernel) kw_460) <|
  am_c (ok_ldc2 (by decide +kernel) kw_466) <|
  am_c (ok_callV (by decide +kernel) (by decide +kernel) kw_439 kw_440 kw_441 kw_438 (by decide +kernel) (by decide +kernel)) <|
  am_c (ok_aload_n (k := 0) (by decide +kernel) rfl) <|
  am_c (ok_callV (by decide +kernel) (by decide +kernel) kw_468 kw_469 kw_470 kw_467 (by decide +kernel) (by decide +kernel)) <|
  am_c (ok_ret (by decide +kernel) rfl) <|
  am_n
def k_t90 : List (Nat × List (Nat × am_A)) := [(49, k_c90_0), (97, k_c90_1), (147, k_c90_2), (197, k_c90_3), (253, k_c90_4), (313, k_c90_5), (373, k_c90_6), (396, k_c90_7)]
theorem k_o90 : ∀ c ∈ k_t90, ∀ q ∈ c.2, am_Ok k_nm D cA B0 sb H00 (k_Th B0 sb H00) prog_8_method_1_code "TokenMouthModel" "<init>" [] none q.1 q.2 := am_cc (P := fun pc a => am_Ok k_nm D cA B0 sb H00 (k_Th B0 sb H00) prog_8_method_1_code "TokenMouthModel" "<init>" [] none pc a) k_p90_0 <| am_cc (P := fun pc a => am_Ok k_nm D cA B0 sb H00 (k_Th B0 sb H00) prog_8_method_1_code "TokenMouthModel" "<init>" [] none pc a) k_p90_1 <| am_cc (P := fun pc a => am_Ok k_nm D cA B0 sb H00 (k_Th B0 sb H00) prog_8_method_1_code "TokenMouthModel" "<init>" [] none pc a) k_p90_2 <| am_cc (P := fun pc a => am_Ok k_nm D cA B0 sb H00 (k_Th B0 sb H00) prog_8_method_1_code "TokenMouthModel" "<init>" [] none pc a) k_p90_3 <| am_cc (P := fun pc a => am_Ok k_nm D cA B0 sb H00 (k_Th B0 sb H00) prog_8_method_1_code "TokenMouthModel" "<init>" [] none pc a) k_p90_4 <| am_cc (P := fun pc a => am_Ok k_nm D cA B0 sb H00 (k_Th B0 sb H00) prog_8_method_1_code "TokenMouthModel" "<init>" [] none pc a) k_p90_5 <| am_cc (P := fun pc a => am_Ok k_nm D cA B0 sb H00 (k_Th B0 sb H00) prog_8_method_1_code "TokenMouthModel" "<init>" [] none pc a) k_p90_6 <| am_cc (P := fun pc a => am_Ok k_nm D cA B0 sb H00 (k_Th B0 sb H00) prog_8_method_1_code "TokenMouthModel" "<init>" [] none pc a) k_p90_7 <| am_cn0
end
