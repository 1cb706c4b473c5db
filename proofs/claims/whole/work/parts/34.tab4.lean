/-! tables of the methods 90 to 102; printed by wip/whole/emit.py -/
section
variable {D : va_G} {cA : Nat → ClassId} {B0 : Nat} {sb : Nat → Option Nat} {H00 : Heap}
-- 90: TokenMouthModel.<init>()V
def k_c90_0 : List (Nat × am_A) := [(0, ac_aload 0 1), (1, ac_oinit 4), (4, ac_aload 0 5), (5, ac_push (.int 160) 8), (8, ac_newa 0 4 10), (10, ac_putR 6 2 13), (13, ac_aload 0 14), (14, ac_push (.int 128) 17), (17, ac_newa 0 4 19), (19, ac_putR 6 8 22), (22, ac_aload 0 23), (23, ac_push (.int 302) 26), (26, ac_newa 0 4 28), (28, ac_putR 6 10 31), (31, ac_aload 0 32), (32, ac_push (.int 1320) 35), (35, ac_newa 0 4 37), (37, ac_putR 6 12 40), (40, ac_aload 0 41), (41, ac_push (.int 120) 43), (43, ac_newa 0 4 45), (45, ac_putR 6 13 48), (48, ac_aload 0 49), (49, ac_push (.int 120) 51)]
theorem k_p90_0 : ∀ q ∈ k_c90_0, am_Ok k_nm D cA B0 sb H00 (k_Th B0 sb H00) prog_8_method_1_code "TokenMouthModel" "<init>" [] none q.1 q.2 :=
  am_c (ok_aload_n (k := 0) (by decide +kernel) rfl) <|
  am_c (ok_oinit (by decide +kernel) kw_410 kw_1 kw_oi) <|
  am_c (ok_aload_n (k := 0) (by decide +kernel) rfl) <|
  am_c (ok_sipush (z := 160) (by decide +kernel) (by decide +kernel)) <|
  am_c (ok_newa (at_ := .int) (by decide +kernel) rfl rfl (by decide +kernel) kw_50) <|
  am_c (ok_putR (by decide +kernel) (by decide +kernel) (ty := (.array .int)) rfl rfl (fun _ => ⟨rfl, rfl⟩) (by decide +kernel) kw_411 (Or.inr ⟨rfl, rfl, rfl⟩)) <|
  am_c (ok_aload_n (k := 0) (by decide +kernel) rfl) <|
  am_c (ok_sipush (z := 128) (by decide +kernel) (by decide +kernel)) <|
  am_c (ok_newa (at_ := .int) (by decide +kernel) rfl rfl (by decide +kernel) kw_50) <|
  am_c (ok_putR (by decide +kernel) (by decide +kernel) (ty := (.array .int)) rfl rfl (fun _ => ⟨rfl, rfl⟩) (by decide +kernel) kw_412 (Or.inr ⟨rfl, rfl, rfl⟩)) <|
  am_c (ok_aload_n (k := 0) (by decide +kernel) rfl) <|
  am_c (ok_sipush (z := 302) (by decide +kernel) (by decide +kernel)) <|
  am_c (ok_newa (at_ := .int) (by decide +kernel) rfl rfl (by decide +kernel) kw_50) <|
  am_c (ok_putR (by decide +kernel) (by decide +kernel) (ty := (.array .int)) rfl rfl (fun _ => ⟨rfl, rfl⟩) (by decide +kernel) kw_413 (Or.inr ⟨rfl, rfl, rfl⟩)) <|
  am_c (ok_aload_n (k := 0) (by decide +kernel) rfl) <|
  am_c (ok_sipush (z := 1320) (by decide +kernel) (by decide +kernel)) <|
  am_c (ok_newa (at_ := .int) (by decide +kernel) rfl rfl (by decide +kernel) kw_50) <|
  am_c (ok_putR (by decide +kernel) (by decide +kernel) (ty := (.array .int)) rfl rfl (fun _ => ⟨rfl, rfl⟩) (by decide +kernel) kw_414 (Or.inr ⟨rfl, rfl, rfl⟩)) <|
  am_c (ok_aload_n (k := 0) (by decide +kernel) rfl) <|
  am_c (ok_bipush (z := 120) (by decide +kernel) (by decide +kernel)) <|
  am_c (ok_newa (at_ := .int) (by decide +kernel) rfl rfl (by decide +kernel) kw_50) <|
  am_c (ok_putR (by decide +kernel) (by decide +kernel) (ty := (.array .int)) rfl rfl (fun _ => ⟨rfl, rfl⟩) (by decide +kernel) kw_415 (Or.inr ⟨rfl, rfl, rfl⟩)) <|
  am_c (ok_aload_n (k := 0) (by decide +kernel) rfl) <|
  am_c (ok_bipush (z := 120) (by decide +kernel) (by decide +kernel)) <|
  am_n
def k_c90_1 : List (Nat × am_A) := [(51, ac_newa 2 1 53), (53, ac_putR 6 14 56), (56, ac_aload 0 57), (57, ac_push (.int 120) 59), (59, ac_newa 0 4 61), (61, ac_putR 6 15 64), (64, ac_aload 0 65), (65, ac_push (.int 12) 67), (67, ac_newa 0 4 69), (69, ac_putR 6 17 72), (72, ac_aload 0 73), (73, ac_push (.int 60) 75), (75, ac_newa 0 4 77), (77, ac_putR 6 20 80), (80, ac_aload 0 81), (81, ac_push (.int 60) 83), (83, ac_newa 0 4 85), (85, ac_putR 6 21 88), (88, ac_aload 0 89), (89, ac_push (.int 60) 91), (91, ac_newa 0 4 93), (93, ac_putR 6 22 96), (96, ac_aload 0 97), (97, ac_push (.int 61) 99)]
theorem k_p90_1 : ∀ q ∈ k_c90_1, am_Ok k_nm D cA B0 sb H00 (k_Th B0 sb H00) prog_8_method_1_code "TokenMouthModel" "<init>" [] none q.1 q.2 :=
  am_c (ok_newa (at_ := .boolean) (by decide +kernel) rfl rfl (by decide +kernel) kw_416) <|
  am_c (ok_putR (by decide +kernel) (by decide +kernel) (ty := (.array .boolean)) rfl rfl (fun _ => ⟨rfl, rfl⟩) (by decide +kernel) kw_417 (Or.inr ⟨rfl, rfl, rfl⟩)) <|
  am_c (ok_aload_n (k := 0) (by decide +kernel) rfl) <|
  am_c (ok_bipush (z := 120) (by decide +kernel) (by decide +kernel)) <|
  am_c (ok_newa (at_ := .int) (by decide +kernel) rfl rfl (by decide +kernel) kw_50) <|
  am_c (ok_putR (by decide +kernel) (by decide +kernel) (ty := (.array .int)) rfl rfl (fun _ => ⟨rfl, rfl⟩) (by decide +kernel) kw_418 (Or.inr ⟨rfl, rfl, rfl⟩)) <|
  am_c (ok_aload_n (k := 0) (by decide +kernel) rfl) <|
  am_c (ok_bipush (z := 12) (by decide +kernel) (by decide +kernel)) <|
  am_c (ok_newa (at_ := .int) (by decide +kernel) rfl rfl (by decide +kernel) kw_50) <|
  am_c (ok_putR (by decide +kernel) (by decide +kernel) (ty := (.array .int)) rfl rfl (fun _ => ⟨rfl, rfl⟩) (by decide +kernel) kw_419 (Or.inr ⟨rfl, rfl, rfl⟩)) <|
  am_c (ok_aload_n (k := 0) (by decide +kernel) rfl) <|
  am_c (ok_bipush (z := 60) (by decide +kernel) (by decide +kernel)) <|
  am_c (ok_newa (at_ := .int) (by decide +kernel) rfl rfl (by decide +kernel) kw_50) <|
  am_c (ok_putR (by decide +kernel) (by decide +kernel) (ty := (.array .int)) rfl rfl (fun _ => ⟨rfl, rfl⟩) (by decide +kernel) kw_420 (Or.inr ⟨rfl, rfl, rfl⟩)) <|
  am_c (ok_aload_n (k := 0) (by decide +kernel) rfl) <|
  am_c (ok_bipush (z := 60) (by decide +kernel) (by decide +kernel)) <|
  am_c (ok_newa (at_ := .int) (by decide +kernel) rfl rfl (by decide +kernel) kw_50) <|
  am_c (ok_putR (by decide +kernel) (by decide +kernel) (ty := (.array .int)) rfl rfl (fun _ => ⟨rfl, rfl⟩) (by decide +kernel) kw_421 (Or.inr ⟨rfl, rfl, rfl⟩)) <|
  am_c (ok_aload_n (k := 0) (by decide +kernel) rfl) <|
  am_c (ok_bipush (z := 60) (by decide +kernel) (by decide +kernel)) <|
  am_c (ok_newa (at_ := .int) (by decide +kernel) rfl rfl (by decide +kernel) kw_50) <|
  am_c (ok_putR (by decide +kernel) (by decide +kernel) (ty := (.array .int)) rfl rfl (fun _ => ⟨rfl, rfl⟩) (by decide +kernel) kw_422 (Or.inr ⟨rfl, rfl, rfl⟩)) <|
  am_c (ok_aload_n (k := 0) (by decide +kernel) rfl) <|
  am_c (ok_bipush (z := 61) (by decide +kernel) (by decide +kernel)) <|
  am_n
def k_c90_2 : List (Nat × am_A) := [(99, ac_newa 0 4 101), (101, ac_putR 6 24 104), (104, ac_aload 0 105), (105, ac_push (.int 800) 108), (108, ac_newa 0 4 110), (110, ac_putR 6 25 113), (113, ac_aload 0 114), (114, ac_push (.int 61) 116), (116, ac_newa 0 4 118), (118, ac_putR 6 26 121), (121, ac_aload 0 122), (122, ac_push (.int 2500) 125), (125, ac_newa 0 4 127), (127, ac_putR 6 27 130), (130, ac_aload 0 131), (131, ac_push (.int 61) 133), (133, ac_newa 0 4 135), (135, ac_putR 6 28 138), (138, ac_aload 0 139), (139, ac_push (.int 12) 141), (141, ac_newa 0 4 143), (143, ac_putR 6 30 146), (146, ac_aload 0 147), (147, ac_push (.int 30) 149)]
theorem k_p90_2 : ∀ q ∈ k_c90_2, am_Ok k_nm D cA B0 sb H00 (k_Th B0 sb H00) prog_8_method_1_code "TokenMouthModel" "<init>" [] none q.1 q.2 :=
  am_c (ok_newa (at_ := .int) (by decide +kernel) rfl rfl (by decide +kernel) kw_50) <|
  am_c (ok_putR (by decide +kernel) (by decide +kernel) (ty := (.array .int)) rfl rfl (fun _ => ⟨rfl, rfl⟩) (by decide +kernel) kw_423 (Or.inr ⟨rfl, rfl, rfl⟩)) <|
  am_c (ok_aload_n (k := 0) (by decide +kernel) rfl) <|
  am_c (ok_sipush (z := 800) (by decide +kernel) (by decide +kernel)) <|
  am_c (ok_newa (at_ := .int) (by decide +kernel) rfl rfl (by decide +kernel) kw_50) <|
  am_c (ok_putR (by decide +kernel) (by decide +kernel) (ty := (.array .int)) rfl rfl (fun _ => ⟨rfl, rfl⟩) (by decide +kernel) kw_424 (Or.inr ⟨rfl, rfl, rfl⟩)) <|
  am_c (ok_aload_n (k := 0) (by decide +kernel) rfl) <|
  am_c (ok_bipush (z := 61) (by decide +kernel) (by decide +kernel)) <|
  am_c (ok_newa (at_ := .int) (by decide +kernel) rfl rfl (by decide +kernel) kw_50) <|
  am_c (ok_putR (by decide +kernel) (by decide +kernel) (ty := (.array .int)) rfl rfl (fun _ => ⟨rfl, rfl⟩) (by decide +kernel) kw_425 (Or.inr ⟨rfl, rfl, rfl⟩)) <|
  am_c (ok_aload_n (k := 0) (by decide +kernel) rfl) <|
  am_c (ok_sipush (z := 2500) (by decide +kernel) (by decide +kernel)) <|
  am_c (ok_newa (at_ := .int) (by decide +kernel) rfl rfl (by decide +kernel) kw_50) <|
  am_c (ok_putR (by decide +kernel) (by decide +kernel) (ty := (.array .int)) rfl rfl (fun _ => ⟨rfl, rfl⟩) (by decide +kernel) kw_426 (Or.inr ⟨rfl, rfl, rfl⟩)) <|
  am_c (ok_aload_n (k := 0) (by decide +kernel) rfl) <|
  am_c (ok_bipush (z := 61) (by decide +kernel) (by decide +kernel)) <|
  am_c (ok_newa (at_ := .int) (by decide +kernel) rfl rfl (by decide +kernel) kw_50) <|
  am_c (ok_putR (by decide +kernel) (by decide +kernel) (ty := (.array .int)) rfl rfl (fun _ => ⟨rfl, rfl⟩) (by decide +kernel) kw_427 (Or.inr ⟨rfl, rfl, rfl⟩)) <|
  am_c (ok_aload_n (k := 0) (by decide +kernel) rfl) <|
  am_c (ok_bipush (z := 12) (by decide +kernel) (by decide +kernel)) <|
  am_c (ok_newa (at_ := .int) (by decide +kernel) rfl rfl (by decide +kernel) kw_50) <|
  am_c (ok_putR (by decide +kernel) (by decide +kernel) (ty := (.array .int)) rfl rfl (fun _ => ⟨rfl, rfl⟩) (by decide +kernel) kw_428 (Or.inr ⟨rfl, rfl, rfl⟩)) <|
  am_c (ok_aload_n (k := 0) (by decide +kernel) rfl) <|
  am_c (ok_bipush (z := 30) (by decide +kernel) (by decide +kernel)) <|
  am_n
def k_c90_3 : List (Nat × am_A) := [(149, ac_newa 0 4 151), (151, ac_putR 6 32 154), (154, ac_aload 0 155), (155, ac_push (.int 30) 157), (157, ac_newa 0 4 159), (159, ac_putR 6 33 162), (162, ac_aload 0 163), (163, ac_push (.int 30) 165), (165, ac_newa 0 4 167), (167, ac_putR 6 34 170), (170, ac_aload 0 171), (171, ac_push (.int 30) 173), (173, ac_newa 0 4 175), (175, ac_putR 6 35 178), (178, ac_aload 0 179), (179, ac_push (.int 360) 182), (182, ac_newa 0 4 184), (184, ac_putR 6 36 187), (187, ac_aload 0 188), (188, ac_push (.int 200) 191), (191, ac_newa 0 4 193), (193, ac_putR 6 38 196), (196, ac_aload 0 197), (197, ac_push (.int 168) 200)]
theorem k_p90_3 : ∀ q ∈ k_c90_3, am_Ok k_nm D cA B0 sb H00 (k_Th B0 sb H00) prog_8_method_1_code "TokenMouthModel" "<init>" [] none q.1 q.2 :=
  am_c (ok_newa (at_ := .int) (by decide +kernel) rfl rfl (by decide +kernel) kw_50) <|
  am_c (ok_putR (by decide +kernel) (by decide +kernel) (ty := (.array .int)) rfl rfl (fun _ => ⟨rfl, rfl⟩) (by decide +kernel) kw_429 (Or.inr ⟨rfl, rfl, rfl⟩)) <|
  am_c (ok_aload_n (k := 0) (by decide +kernel) rfl) <|
  am_c (ok_bipush (z := 30) (by decide +kernel) (by decide +kernel)) <|
  am_c (ok_newa (at_ := .int) (by decide +kernel) rfl rfl (by decide +kernel) kw_50) <|
  am_c (ok_putR (by decide +kernel) (by decide +kernel) (ty := (.array .int)) rfl rfl (fun _ => ⟨rfl, rfl⟩) (by decide +kernel) kw_430 (Or.inr ⟨rfl, rfl, rfl⟩)) <|
  am_c (ok_aload_n (k := 0) (by decide +kernel) rfl) <|
  am_c (ok_bipush (z := 30) (by decide +kernel) (by decide +kernel)) <|
  am_c (ok_newa (at_ := .int) (by decide +kernel) rfl rfl (by decide +kernel) kw_50) <|
  am_c (ok_putR (by decide +kernel) (by decide +kernel) (ty := (.array .int)) rfl rfl (fun _ => ⟨rfl, rfl⟩) (by decide +kernel) kw_431 (Or.inr ⟨rfl, rfl, rfl⟩)) <|
  am_c (ok_aload_n (k := 0) (by decide +kernel) rfl) <|
  am_c (ok_bipush (z := 30) (by decide +kernel) (by decide +kernel)) <|
  am_c (ok_newa (at_ := .int) (by decide +kernel) rfl rfl (by decide +kernel) kw_50) <|
  am_c (ok_putR (by decide +kernel) (by decide +kernel) (ty := (.array .int)) rfl rfl (fun _ => ⟨rfl, rfl⟩) (by decide +kernel) kw_432 (Or.inr ⟨rfl, rfl, rfl⟩)) <|
  am_c (ok_aload_n (k := 0) (by decide +kernel) rfl) <|
  am_c (ok_sipush (z := 360) (by decide +kernel) (by decide +kernel)) <|
  am_c (ok_newa (at_ := .int) (by decide +kernel) rfl rfl (by decide +kernel) kw_50) <|
  am_c (ok_putR (by decide +kernel) (by decide +kernel) (ty := (.array .int)) rfl rfl (fun _ => ⟨rfl, rfl⟩) (by decide +kernel) kw_433 (Or.inr ⟨rfl, rfl, rfl⟩)) <|
  am_c (ok_aload_n (k := 0) (by decide +kernel) rfl) <|
  am_c (ok_sipush (z := 200) (by decide +kernel) (by decide +kernel)) <|
  am_c (ok_newa (at_ := .int) (by decide +kernel) rfl rfl (by decide +kernel) kw_50) <|
  am_c (ok_putR (by decide +kernel) (by decide +kernel) (ty := (.array .int)) rfl rfl (fun _ => ⟨rfl, rfl⟩) (by decide +kernel) kw_434 (Or.inr ⟨rfl, rfl, rfl⟩)) <|
  am_c (ok_aload_n (k := 0) (by decide +kernel) rfl) <|
  am_c (ok_sipush (z := 168) (by decide +kernel) (by decide +kernel)) <|
  am_n
def k_c90_4 : List (Nat × am_A) := [(200, ac_newa 0 4 202), (202, ac_putR 6 39 205), (205, ac_aload 0 206), (206, ac_push (.int 4) 207), (207, ac_newa 0 4 209), (209, ac_putR 6 40 212), (212, ac_aload 0 213), (213, ac_push (.long 3) 216), (216, ac_push (.long 18480) 219), (219, ac_callV 6 91 3 222 am_nohd), (222, ac_aload 0 223), (223, ac_push (.long 5) 226), (226, ac_push (.long 25211058) 229), (229, ac_callV 6 91 3 232 am_nohd), (232, ac_aload 0 233), (233, ac_push (.long 3) 236), (236, ac_push (.long 6308) 239), (239, ac_callV 6 91 3 242 am_nohd), (242, ac_aload 0 243), (243, ac_push (.long 4) 246), (246, ac_push (.long 201863) 249), (249, ac_callV 6 91 3 252 am_nohd), (252, ac_aload 0 253), (253, ac_push (.long 4) 256)]
theorem k_p90_4 : ∀ q ∈ k_c90_4, am_Ok k_nm D cA B0 sb H00 (k_Th B0 sb H00) prog_8_method_1_code "TokenMouthModel" "<init>" [] none q.1 q.2 :=
  am_c (ok_newa (at_ := .int) (by decide +kernel) rfl rfl (by decide +kernel) kw_50) <|
  am_c (ok_putR (by decide +kernel) (by decide +kernel) (ty := (.array .int)) rfl rfl (fun _ => ⟨rfl, rfl⟩) (by decide +kernel) kw_435 (Or.inr ⟨rfl, rfl, rfl⟩)) <|
  am_c (ok_aload_n (k := 0) (by decide +kernel) rfl) <|
  am_c (ok_iconst (z := 4) (by decide +kernel) (by decide +kernel)) <|
  am_c (ok_newa (at_ := .int) (by decide +kernel) rfl rfl (by decide +kernel) kw_50) <|
  am_c (ok_putR (by decide +kernel) (by decide +kernel) (ty := (.array .int)) rfl rfl (fun _ => ⟨rfl, rfl⟩) (by decide +kernel) kw_436 (Or.inr ⟨rfl, rfl, rfl⟩)) <|
  am_c (ok_aload_n (k := 0) (by decide +kernel) rfl) <|
  am_c (ok_ldc2 (by decide +kernel) kw_437) <|
  am_c (ok_ldc2 (by decide +kernel) kw_438) <|
  am_c (ok_callV (by decide +kernel) (by decide +kernel) kw_440 kw_441 kw_442 kw_439 (by decide +kernel) (by decide +kernel)) <|
  am_c (ok_aload_n (k := 0) (by decide +kernel) rfl) <|
  am_c (ok_ldc2 (by decide +kernel) kw_443) <|
  am_c (ok_ldc2 (by decide +kernel) kw_444) <|
  am_c (ok_callV (by decide +kernel) (by decide +kernel) kw_440 kw_441 kw_442 kw_439 (by decide +kernel) (by decide +kernel)) <|
  am_c (ok_aload_n (k := 0) (by decide +kernel) rfl) <|
  am_c (ok_ldc2 (by decide +kernel) kw_437) <|
  am_c (ok_ldc2 (by decide +kernel) kw_445) <|
  am_c (ok_callV (by decide +kernel) (by decide +kernel) kw_440 kw_441 kw_442 kw_439 (by decide +kernel) (by decide +kernel)) <|
  am_c (ok_aload_n (k := 0) (by decide +kernel) rfl) <|
  am_c (ok_ldc2 (by decide +kernel) kw_446) <|
  am_c (ok_ldc2 (by decide +kernel) kw_447) <|
  am_c (ok_callV (by decide +kernel) (by decide +kernel) kw_440 kw_441 kw_442 kw_439 (by decide +kernel) (by decide +kernel)) <|
  am_c (ok_aload_n (k := 0) (by decide +kernel) rfl) <|
  am_c (ok_ldc2 (by decide +kernel) kw_446) <|
  am_n
def k_c90_5 : List (Nat × am_A) := [(256, ac_push (.long 201861) 259), (259, ac_callV 6 91 3 262 am_nohd), (262, ac_aload 0 263), (263, ac_push (.long 3) 266), (266, ac_push (.long 20652) 269), (269, ac_callV 6 91 3 272 am_nohd), (272, ac_aload 0 273), (273, ac_push (.long 7) 276), (276, ac_push (.long 5518774307) 279), (279, ac_callV 6 91 3 282 am_nohd), (282, ac_aload 0 283), (283, ac_push (.long 11) 286), (286, ac_push (.long 20464317797286661) 289), (289, ac_callV 6 91 3 292 am_nohd), (292, ac_aload 0 293), (293, ac_push (.long 8) 296), (296, ac_push (.long 152522462702) 299), (299, ac_callV 6 91 3 302 am_nohd), (302, ac_aload 0 303), (303, ac_push (.long 6) 306), (306, ac_push (.long 181451363) 309), (309, ac_callV 6 91 3 312 am_nohd), (312, ac_aload 0 313), (313, ac_push (.long 9) 316)]
theorem k_p90_5 : ∀ q ∈ k_c90_5, am_Ok k_nm D cA B0 sb H00 (k_Th B0 sb H00) prog_8_method_1_code "TokenMouthModel" "<init>" [] none q.1 q.2 :=
  am_c (ok_ldc2 (by decide +kernel) kw_448) <|
  am_c (ok_callV (by decide +kernel) (by decide +kernel) kw_440 kw_441 kw_442 kw_439 (by decide +kernel) (by decide +kernel)) <|
  am_c (ok_aload_n (k := 0) (by decide +kernel) rfl) <|
  am_c (ok_ldc2 (by decide +kernel) kw_437) <|
  am_c (ok_ldc2 (by decide +kernel) kw_449) <|
  am_c (ok_callV (by decide +kernel) (by decide +kernel) kw_440 kw_441 kw_442 kw_439 (by decide +kernel) (by decide +kernel)) <|
  am_c (ok_aload_n (k := 0) (by decide +kernel) rfl) <|
  am_c (ok_ldc2 (by decide +kernel) kw_450) <|
  am_c (ok_ldc2 (by decide +kernel) kw_451) <|
  am_c (ok_callV (by decide +kernel) (by decide +kernel) kw_440 kw_441 kw_442 kw_439 (by decide +kernel) (by decide +kernel)) <|
  am_c (ok_aload_n (k := 0) (by decide +kernel) rfl) <|
  am_c (ok_ldc2 (by decide +kernel) kw_452) <|
  am_c (ok_ldc2 (by decide +kernel) kw_453) <|
  am_c (ok_callV (by decide +kernel) (by decide +kernel) kw_440 kw_441 kw_442 kw_439 (by decide +kernel) (by decide +kernel)) <|
  am_c (ok_aload_n (k := 0) (by decide +kernel) rfl) <|
  am_c (ok_ldc2 (by decide +kernel) kw_454) <|
  am_c (ok_ldc2 (by decide +kernel) kw_455) <|
  am_c (ok_callV (by decide +kernel) (by decide +kernel) kw_440 kw_441 kw_442 kw_439 (by decide +kernel) (by decide +kernel)) <|
  am_c (ok_aload_n (k := 0) (by decide +kernel) rfl) <|
  am_c (ok_ldc2 (by decide +kernel) kw_456) <|
  am_c (ok_ldc2 (by decide +kernel) kw_457) <|
  am_c (ok_callV (by decide +kernel) (by decide +kernel) kw_440 kw_441 kw_442 kw_439 (by decide +kernel) (by decide +kernel)) <|
  am_c (ok_aload_n (k := 0) (by decide +kernel) rfl) <|
  am_c (ok_ldc2 (by decide +kernel) kw_458) <|
  am_n
def k_c90_6 : List (Nat × am_A) := [(316, ac_push (.long 5945798267333) 319), (319, ac_callV 6 91 3 322 am_nohd), (322, ac_aload 0 323), (323, ac_push (.long 6) 326), (326, ac_push (.long 249875091) 329), (329, ac_callV 6 91 3 332 am_nohd), (332, ac_aload 0 333), (333, ac_push (.long 2) 336), (336, ac_push (.long 201) 339), (339, ac_callV 6 91 3 342 am_nohd), (342, ac_aload 0 343), (343, ac_push (.long 3) 346), (346, ac_push (.long 24777) 349), (349, ac_callV 6 91 3 352 am_nohd), (352, ac_aload 0 353), (353, ac_push (.long 6) 356), (356, ac_push (.long 190402761) 359), (359, ac_callV 6 91 3 362 am_nohd), (362, ac_aload 0 363), (363, ac_push (.long 7) 366), (366, ac_push (.long 6018865353) 369), (369, ac_callV 6 91 3 372 am_nohd), (372, ac_aload 0 373), (373, ac_push (.long 4) 376)]
theorem k_p90_6 : ∀ q ∈ k_c90_6, am_Ok k_nm D cA B0 sb H00 (k_Th B0 sb H00) prog_8_method_1_code "TokenMouthModel" "<init>" [] none q.1 q.2 :=
  am_c (ok_ldc2 (by decide +kernel) kw_459) <|
  am_c (ok_callV (by decide +kernel) (by decide +kernel) kw_440 kw_441 kw_442 kw_439 (by decide +kernel) (by decide +kernel)) <|
  am_c (ok_aload_n (k := 0) (by decide +kernel) rfl) <|
  am_c (ok_ldc2 (by decide +kernel) kw_456) <|
  am_c (ok_ldc2 (by decide +kernel) kw_460) <|
  am_c (ok_callV (by decide +kernel) (by decide +kernel) kw_440 kw_441 kw_442 kw_439 (by decide +kernel) (by decide +kernel)) <|
  am_c (ok_aload_n (k := 0) (by decide +kernel) rfl) <|
  am_c (ok_ldc2 (by decide +kernel) kw_461) <|
  am_c (ok_ldc2 (by decide +kernel) kw_462) <|
  am_c (ok_callV (by decide +kernel) (by decide +kernel) kw_440 kw_441 kw_442 kw_439 (by decide +kernel) (by decide +kernel)) <|
  am_c (ok_aload_n (k := 0) (by decide +kernel) rfl) <|
  am_c (ok_ldc2 (by decide +kernel) kw_437) <|
  am_c (ok_ldc2 (by decide +kernel) kw_463) <|
  am_c (ok_callV (by decide +kernel) (by decide +kernel) kw_440 kw_441 kw_442 kw_439 (by decide +kernel) (by decide +kernel)) <|
  am_c (ok_aload_n (k := 0) (by decide +kernel) rfl) <|
  am_c (ok_ldc2 (by decide +kernel) kw_456) <|
  am_c (ok_ldc2 (by decide +kernel) kw_464) <|
  am_c (ok_callV (by decide +kernel) (by decide +kernel) kw_440 kw_441 kw_442 kw_439 (by decide +kernel) (by decide +kernel)) <|
  am_c (ok_aload_n (k := 0) (by decide +kernel) rfl) <|
  am_c (ok_ldc2 (by decide +kernel) kw_450) <|
  am_c (ok_ldc2 (by decide +kernel) kw_465) <|
  am_c (ok_callV (by decide +kernel) (by decide +kernel) kw_440 kw_441 kw_442 kw_439 (by decide +kernel) (by decide +kernel)) <|
  am_c (ok_aload_n (k := 0) (by decide +kernel) rfl) <|
  am_c (ok_ldc2 (by decide +kernel) kw_446) <|
  am_n
def k_c90_7 : List (Nat × am_A) := [(376, ac_push (.long 183685) 379), (379, ac_callV 6 91 3 382 am_nohd), (382, ac_aload 0 383), (383, ac_push (.long 2) 386), (386, ac_push (.long 294) 389), (389, ac_callV 6 91 3 392 am_nohd), (392, ac_aload 0 393), (393, ac_callV 6 92 1 396 am_nohd), (396, ac_ret)]
theorem k_p90_7 : ∀ q ∈ k_c90_7, am_Ok k_nm D cA B0 sb H00 (k_Th B0 sb H00) prog_8_method_1_code "TokenMouthModel" "<init>" [] none q.1 q.2 :=
  am_c (ok_ldc2 (by decide +kernel) kw_466) <|
  am_c (ok_callV (by decide +kernel) (by decide +kernel) kw_440 kw_441 kw_442 kw_439 (by decide +kernel) (by decide +kernel)) <|
  am_c (ok_aload_n (k := 0) (by decide +kernel) rfl) <|
  am_c (ok_ldc2 (by decide +kernel) kw_461) <|
  am_c (ok_ldc2 (by decide +kernel) kw_467) <|
  am_c (ok_callV (by decide +kernel) (by decide +kernel) kw_440 kw_441 kw_442 kw_439 (by decide +kernel) (by decide +kernel)) <|
  am_c (ok_aload_n (k := 0) (by decide +kernel) rfl) <|
  am_c (ok_callV (by decide +kernel) (by decide +kernel) kw_469 kw_470 kw_471 kw_468 (by decide +kernel) (by decide +kernel)) <|
  am_c (ok_ret (by decide +kernel) rfl) <|
  am_n
def k_t90 : List (Nat × List (Nat × am_A)) := [(49, k_c90_0), (97, k_c90_1), (147, k_c90_2), (197, k_c90_3), (253, k_c90_4), (313, k_c90_5), (373, k_c90_6), (396, k_c90_7)]
theorem k_o90 : ∀ c ∈ k_t90, ∀ q ∈ c.2, am_Ok k_nm D cA B0 sb H00 (k_Th B0 sb H00) prog_8_method_1_code "TokenMouthModel" "<init>" [] none q.1 q.2 := am_cc (P := fun pc a => am_Ok k_nm D cA B0 sb H00 (k_Th B0 sb H00) prog_8_method_1_code "TokenMouthModel" "<init>" [] none pc a) k_p90_0 <| am_cc (P := fun pc a => am_Ok k_nm D cA B0 sb H00 (k_Th B0 sb H00) prog_8_method_1_code "TokenMouthModel" "<init>" [] none pc a) k_p90_1 <| am_cc (P := fun pc a => am_Ok k_nm D cA B0 sb H00 (k_Th B0 sb H00) prog_8_method_1_code "TokenMouthModel" "<init>" [] none pc a) k_p90_2 <| am_cc (P := fun pc a => am_Ok k_nm D cA B0 sb H00 (k_Th B0 sb H00) prog_8_method_1_code "TokenMouthModel" "<init>" [] none pc a) k_p90_3 <| am_cc (P := fun pc a => am_Ok k_nm D cA B0 sb H00 (k_Th B0 sb H00) prog_8_method_1_code "TokenMouthModel" "<init>" [] none pc a) k_p90_4 <| am_cc (P := fun pc a => am_Ok k_nm D cA B0 sb H00 (k_Th B0 sb H00) prog_8_method_1_code "TokenMouthModel" "<init>" [] none pc a) k_p90_5 <| am_cc (P := fun pc a => am_Ok k_nm D cA B0 sb H00 (k_Th B0 sb H00) prog_8_method_1_code "TokenMouthModel" "<init>" [] none pc a) k_p90_6 <| am_cc (P := fun pc a => am_Ok k_nm D cA B0 sb H00 (k_Th B0 sb H00) prog_8_method_1_code "TokenMouthModel" "<init>" [] none pc a) k_p90_7 <| am_cn0
-- 91: TokenMouthModel.command(JJ)V
def k_c91_0 : List (Nat × am_A) := [(0, ac_aload 0 1), (1, ac_get 2 6 13 4), (4, ac_aload 0 5), (5, ac_get 0 6 11 8), (8, ac_lload 1 9), (9, ac_l2 (fun x => x.toInt32) 10), (10, ac_iast 11), (11, ac_push (.int 0) 12), (12, ac_istore 5 14), (14, ac_iload 5 16), (16, ac_aload 0 17), (17, ac_get 2 6 13 20), (20, ac_aload 0 21), (21, ac_get 0 6 11 24), (24, ac_iald 0 25), (25, ac_if2 (fun x y => y ≤ x) 63 28), (28, ac_aload 0 29), (29, ac_get 2 6 12 32), (32, ac_push (.int 11) 34), (34, ac_aload 0 35), (35, ac_get 0 6 11 38), (38, ac_ii (fun x y => x * y) 39), (39, ac_iload 5 41), (41, ac_ii (fun x y => x + y) 42)]
theorem k_p91_0 : ∀ q ∈ k_c91_0, am_Ok k_nm D cA B0 sb H00 (k_Th B0 sb H00) prog_8_method_2_code "TokenMouthModel" "command" [] none q.1 q.2 :=
  am_c (ok_aload_n (k := 0) (by decide +kernel) rfl) <|
  am_c (ok_get (by decide +kernel) (by decide +kernel) rfl (by decide +kernel) kw_415) <|
  am_c (ok_aload_n (k := 0) (by decide +kernel) rfl) <|
  am_c (ok_get (by decide +kernel) (by decide +kernel) rfl (by decide +kernel) kw_472) <|
  am_c (ok_lload_n (k := 1) (by decide +kernel) rfl) <|
  am_c (ok_l2i (by decide +kernel)) <|
  am_c (ok_iast (by decide +kernel)) <|
  am_c (ok_iconst (z := 0) (by decide +kernel) (by decide +kernel)) <|
  am_c (ok_istore (by decide +kernel)) <|
  am_c (ok_iload (by decide +kernel)) <|
  am_c (ok_aload_n (k := 0) (by decide +kernel) rfl) <|
  am_c (ok_get (by decide +kernel) (by decide +kernel) rfl (by decide +kernel) kw_415) <|
  am_c (ok_aload_n (k := 0) (by decide +kernel) rfl) <|
  am_c (ok_get (by decide +kernel) (by decide +kernel) rfl (by decide +kernel) kw_472) <|
  am_c (ok_iald (by decide +kernel)) <|
  am_c (ok_icmpge (off := 38) (by decide +kernel) (by decide +kernel)) <|
  am_c (ok_aload_n (k := 0) (by decide +kernel) rfl) <|
  am_c (ok_get (by decide +kernel) (by decide +kernel) rfl (by decide +kernel) kw_414) <|
  am_c (ok_bipush (z := 11) (by decide +kernel) (by decide +kernel)) <|
  am_c (ok_aload_n (k := 0) (by decide +kernel) rfl) <|
  am_c (ok_get (by decide +kernel) (by decide +kernel) rfl (by decide +kernel) kw_472) <|
  am_c (ok_imul (by decide +kernel)) <|
  am_c (ok_iload (by decide +kernel)) <|
  am_c (ok_iadd (by decide +kernel)) <|
  am_n
def k_c91_1 : List (Nat × am_A) := [(42, ac_lload 3 43), (43, ac_push (.int 5) 44), (44, ac_iload 5 46), (46, ac_ii (fun x y => x * y) 47), (47, ac_li (fun x y => x >>> (y.toInt64 &&& 63)) 48), (48, ac_push (.long 31) 51), (51, ac_ll (fun x y => x &&& y) 52), (52, ac_l2 (fun x => x.toInt32) 53), (53, ac_push (.int 96) 55), (55, ac_ii (fun x y => x + y) 56), (56, ac_iast 57), (57, ac_iinc 5 1 60), (60, ac_goto 14), (63, ac_aload 0 64), (64, ac_dup 65), (65, ac_get 0 6 11 68), (68, ac_push (.int 1) 69), (69, ac_ii (fun x y => x + y) 70), (70, ac_putI 6 11 73), (73, ac_ret)]
theorem k_p91_1 : ∀ q ∈ k_c91_1, am_Ok k_nm D cA B0 sb H00 (k_Th B0 sb H00) prog_8_method_2_code "TokenMouthModel" "command" [] none q.1 q.2 :=
  am_c (ok_lload_n (k := 3) (by decide +kernel) rfl) <|
  am_c (ok_iconst (z := 5) (by decide +kernel) (by decide +kernel)) <|
  am_c (ok_iload (by decide +kernel)) <|
  am_c (ok_imul (by decide +kernel)) <|
  am_c (ok_lshr (by decide +kernel)) <|
  am_c (ok_ldc2 (by decide +kernel) kw_473) <|
  am_c (ok_land (by decide +kernel)) <|
  am_c (ok_l2i (by decide +kernel)) <|
  am_c (ok_bipush (z := 96) (by decide +kernel) (by decide +kernel)) <|
  am_c (ok_iadd (by decide +kernel)) <|
  am_c (ok_iast (by decide +kernel)) <|
  am_c (ok_iinc (z := 1) (by decide +kernel) (by decide +kernel)) <|
  am_c (ok_goto (off := -46) (by decide +kernel) (by decide +kernel)) <|
  am_c (ok_aload_n (k := 0) (by decide +kernel) rfl) <|
  am_c (ok_dup (by decide +kernel)) <|
  am_c (ok_get (by decide +kernel) (by decide +kernel) rfl (by decide +kernel) kw_472) <|
  am_c (ok_iconst (z := 1) (by decide +kernel) (by decide +kernel)) <|
  am_c (ok_iadd (by decide +kernel)) <|
  am_c (ok_putI (by decide +kernel) (by decide +kernel) rfl (by decide +kernel) kw_472 rfl) <|
  am_c (ok_ret (by decide +kernel) rfl) <|
  am_n
def k_t91 : List (Nat × List (Nat × am_A)) := [(41, k_c91_0), (73, k_c91_1)]
theorem k_o91 : ∀ c ∈ k_t91, ∀ q ∈ c.2, am_Ok k_nm D cA B0 sb H00 (k_Th B0 sb H00) prog_8_method_2_code "TokenMouthModel" "command" [] none q.1 q.2 := am_cc (P := fun pc a => am_Ok k_nm D cA B0 sb H00 (k_Th B0 sb H00) prog_8_method_2_code "TokenMouthModel" "command" [] none pc a) k_p91_0 <| am_cc (P := fun pc a => am_Ok k_nm D cA B0 sb H00 (k_Th B0 sb H00) prog_8_method_2_code "TokenMouthModel" "command" [] none pc a) k_p91_1 <| am_cn0
-- 92: TokenMouthModel.start()V
def k_c92_0 : List (Nat × am_A) := [(0, ac_aload 0 1), (1, ac_push (.int 0) 2), (2, ac_putI 6 3 5), (5, ac_aload 0 6), (6, ac_push (.int 0) 7), (7, ac_putI 6 4 10), (10, ac_aload 0 11), (11, ac_push (.int 0) 12), (12, ac_putI 6 5 15), (15, ac_aload 0 16), (16, ac_push (.int 0) 17), (17, ac_putI 6 6 20), (20, ac_aload 0 21), (21, ac_push (.int 0) 22), (22, ac_putI 6 9 25), (25, ac_aload 0 26), (26, ac_push (.int 0) 27), (27, ac_putI 6 18 30), (30, ac_aload 0 31), (31, ac_push (.int 0) 32), (32, ac_putI 6 19 35), (35, ac_aload 0 36), (36, ac_push (.int 0) 37), (37, ac_putI 6 23 40)]
theorem k_p92_0 : ∀ q ∈ k_c92_0, am_Ok k_nm D cA B0 sb H00 (k_Th B0 sb H00) prog_8_method_3_code "TokenMouthModel" "start" [] none q.1 q.2 :=
  am_c (ok_aload_n (k := 0) (by decide +kernel) rfl) <|
  am_c (ok_iconst (z := 0) (by decide +kernel) (by decide +kernel)) <|
  am_c (ok_putI (by decide +kernel) (by decide +kernel) rfl (by decide +kernel) kw_474 rfl) <|
  am_c (ok_aload_n (k := 0) (by decide +kernel) rfl) <|
  am_c (ok_iconst (z := 0) (by decide +kernel) (by decide +kernel)) <|
  am_c (ok_putI (by decide +kernel) (by decide +kernel) rfl (by decide +kernel) kw_475 rfl) <|
  am_c (ok_aload_n (k := 0) (by decide +kernel) rfl) <|
  am_c (ok_iconst (z := 0) (by decide +kernel) (by decide +kernel)) <|
  am_c (ok_putI (by decide +kernel) (by decide +kernel) rfl (by decide +kernel) kw_476 rfl) <|
  am_c (ok_aload_n (k := 0) (by decide +kernel) rfl) <|
  am_c (ok_iconst (z := 0) (by decide +kernel) (by decide +kernel)) <|
  am_c (ok_putI (by decide +kernel) (by decide +kernel) rfl (by decide +kernel) kw_477 rfl) <|
  am_c (ok_aload_n (k := 0) (by decide +kernel) rfl) <|
  am_c (ok_iconst (z := 0) (by decide +kernel) (by decide +kernel)) <|
  am_c (ok_putI (by decide +kernel) (by decide +kernel) rfl (by decide +kernel) kw_478 rfl) <|
  am_c (ok_aload_n (k := 0) (by decide +kernel) rfl) <|
  am_c (ok_iconst (z := 0) (by decide +kernel) (by decide +kernel)) <|
  am_c (ok_putI (by decide +kernel) (by decide +kernel) rfl (by decide +kernel) kw_479 rfl) <|
  am_c (ok_aload_n (k := 0) (by decide +kernel) rfl) <|
  am_c (ok_iconst (z := 0) (by decide +kernel) (by decide +kernel)) <|
  am_c (ok_putI (by decide +kernel) (by decide +kernel) rfl (by decide +kernel) kw_480 rfl) <|
  am_c (ok_aload_n (k := 0) (by decide +kernel) rfl) <|
  am_c (ok_iconst (z := 0) (by decide +kernel) (by decide +kernel)) <|
  am_c (ok_putI (by decide +kernel) (by decide +kernel) rfl (by decide +kernel) kw_481 rfl) <|
  am_n
def k_c92_1 : List (Nat × am_A) := [(40, ac_aload 0 41), (41, ac_push (.int 0) 42), (42, ac_putI 6 29 45), (45, ac_aload 0 46), (46, ac_push (.int 0) 47), (47, ac_putI 6 31 50), (50, ac_aload 0 51), (51, ac_push (.int 0) 52), (52, ac_putI 6 37 55), (55, ac_aload 0 56), (56, ac_push (.int 18) 58), (58, ac_putI 6 11 61), (61, ac_push (.int 0) 62), (62, ac_istore 1 63), (63, ac_iload 1 64), (64, ac_push (.int 120) 66), (66, ac_if2 (fun x y => y ≤ x) 94 69), (69, ac_aload 0 70), (70, ac_get 2 6 15 73), (73, ac_iload 1 74), (74, ac_iload 1 75), (75, ac_push (.int 18) 77), (77, ac_if2 (fun x y => y ≤ x) 86 80), (80, ac_iload 1 81)]
theorem k_p92_1 : ∀ q ∈ k_c92_1, am_Ok k_nm D cA B0 sb H00 (k_Th B0 sb H00) prog_8_method_3_code "TokenMouthModel" "start" [] none q.1 q.2 :=
  am_c (ok_aload_n (k := 0) (by decide +kernel) rfl) <|
  am_c (ok_iconst (z := 0) (by decide +kernel) (by decide +kernel)) <|
  am_c (ok_putI (by decide +kernel) (by decide +kernel) rfl (by decide +kernel) kw_482 rfl) <|
  am_c (ok_aload_n (k := 0) (by decide +kernel) rfl) <|
  am_c (ok_iconst (z := 0) (by decide +kernel) (by decide +kernel)) <|
  am_c (ok_putI (by decide +kernel) (by decide +kernel) rfl (by decide +kernel) kw_483 rfl) <|
  am_c (ok_aload_n (k := 0) (by decide +kernel) rfl) <|
  am_c (ok_iconst (z := 0) (by decide +kernel) (by decide +kernel)) <|
  am_c (ok_putI (by decide +kernel) (by decide +kernel) rfl (by decide +kernel) kw_484 rfl) <|
  am_c (ok_aload_n (k := 0) (by decide +kernel) rfl) <|
  am_c (ok_bipush (z := 18) (by decide +kernel) (by decide +kernel)) <|
  am_c (ok_putI (by decide +kernel) (by decide +kernel) rfl (by decide +kernel) kw_472 rfl) <|
  am_c (ok_iconst (z := 0) (by decide +kernel) (by decide +kernel)) <|
  am_c (ok_istore_n (k := 1) (by decide +kernel) rfl) <|
  am_c (ok_iload_n (k := 1) (by decide +kernel) rfl) <|
  am_c (ok_bipush (z := 120) (by decide +kernel) (by decide +kernel)) <|
  am_c (ok_icmpge (off := 28) (by decide +kernel) (by decide +kernel)) <|
  am_c (ok_aload_n (k := 0) (by decide +kernel) rfl) <|
  am_c (ok_get (by decide +kernel) (by decide +kernel) rfl (by decide +kernel) kw_418) <|
  am_c (ok_iload_n (k := 1) (by decide +kernel) rfl) <|
  am_c (ok_iload_n (k := 1) (by decide +kernel) rfl) <|
  am_c (ok_bipush (z := 18) (by decide +kernel) (by decide +kernel)) <|
  am_c (ok_icmpge (off := 9) (by decide +kernel) (by decide +kernel)) <|
  am_c (ok_iload_n (k := 1) (by decide +kernel) rfl) <|
  am_n
def k_c92_2 : List (Nat × am_A) := [(81, ac_push (.int 1) 82), (82, ac_ii (fun x y => x + y) 83), (83, ac_goto 87), (86, ac_push (.int 0) 87), (87, ac_iast 88), (88, ac_iinc 1 1 91), (91, ac_goto 63), (94, ac_push (.int 0) 95), (95, ac_istore 1 96), (96, ac_iload 1 97), (97, ac_push (.int 128) 100), (100, ac_if2 (fun x y => y ≤ x) 146 103), (103, ac_aload 0 104), (104, ac_get 2 6 8 107), (107, ac_iload 1 108), (108, ac_iload 1 109), (109, ac_push (.int 97) 111), (111, ac_if2 (fun x y => x < y) 120 114), (114, ac_iload 1 115), (115, ac_push (.int 122) 117), (117, ac_if2 (fun x y => x ≤ y) 132 120), (120, ac_iload 1 121), (121, ac_push (.int 65) 123), (123, ac_if2 (fun x y => x < y) 137 126)]
theorem k_p92_2 : ∀ q ∈ k_c92_2, am_Ok k_nm D cA B0 sb H00 (k_Th B0 sb H00) prog_8_method_3_code "TokenMouthModel" "start" [] none q.1 q.2 :=
  am_c (ok_iconst (z := 1) (by decide +kernel) (by decide +kernel)) <|
  am_c (ok_iadd (by decide +kernel)) <|
  am_c (ok_goto (off := 4) (by decide +kernel) (by decide +kernel)) <|
  am_c (ok_iconst (z := 0) (by decide +kernel) (by decide +kernel)) <|
  am_c (ok_iast (by decide +kernel)) <|
  am_c (ok_iinc (z := 1) (by decide +kernel) (by decide +kernel)) <|
  am_c (ok_goto (off := -28) (by decide +kernel) (by decide +kernel)) <|
  am_c (ok_iconst (z := 0) (by decide +kernel) (by decide +kernel)) <|
  am_c (ok_istore_n (k := 1) (by decide +kernel) rfl) <|
  am_c (ok_iload_n (k := 1) (by decide +kernel) rfl) <|
  am_c (ok_sipush (z := 128) (by decide +kernel) (by decide +kernel)) <|
  am_c (ok_icmpge (off := 46) (by decide +kernel) (by decide +kernel)) <|
  am_c (ok_aload_n (k := 0) (by decide +kernel) rfl) <|
  am_c (ok_get (by decide +kernel) (by decide +kernel) rfl (by decide +kernel) kw_412) <|
  am_c (ok_iload_n (k := 1) (by decide +kernel) rfl) <|
  am_c (ok_iload_n (k := 1) (by decide +kernel) rfl) <|
  am_c (ok_bipush (z := 97) (by decide +kernel) (by decide +kernel)) <|
  am_c (ok_icmplt (off := 9) (by decide +kernel) (by decide +kernel)) <|
  am_c (ok_iload_n (k := 1) (by decide +kernel) rfl) <|
  am_c (ok_bipush (z := 122) (by decide +kernel) (by decide +kernel)) <|
  am_c (ok_icmple (off := 15) (by decide +kernel) (by decide +kernel)) <|
  am_c (ok_iload_n (k := 1) (by decide +kernel) rfl) <|
  am_c (ok_bipush (z := 65) (by decide +kernel) (by decide +kernel)) <|
  am_c (ok_icmplt (off := 14) (by decide +kernel) (by decide +kernel)) <|
  am_n
def k_c92_3 : List (Nat × am_A) := [(126, ac_iload 1 127), (127, ac_push (.int 90) 129), (129, ac_if2 (fun x y => y < x) 137 132), (132, ac_push (.int 11) 134), (134, ac_goto 139), (137, ac_push (.int 12) 139), (139, ac_iast 140), (140, ac_iinc 1 1 143), (143, ac_goto 96), (146, ac_aload 0 147), (147, ac_get 2 6 8 150), (150, ac_push (.int 92) 152), (152, ac_push (.int 0) 153), (153, ac_iast 154), (154, ac_aload 0 155), (155, ac_get 2 6 8 158), (158, ac_push (.int 123) 160), (160, ac_push (.int 1) 161), (161, ac_iast 162), (162, ac_aload 0 163), (163, ac_get 2 6 8 166), (166, ac_push (.int 125) 168), (168, ac_push (.int 2) 169), (169, ac_iast 170)]
theorem k_p92_3 : ∀ q ∈ k_c92_3, am_Ok k_nm D cA B0 sb H00 (k_Th B0 sb H00) prog_8_method_3_code "TokenMouthModel" "start" [] none q.1 q.2 :=
  am_c (ok_iload_n (k := 1) (by decide +kernel) rfl) <|
  am_c (ok_bipush (z := 90) (by decide +kernel) (by decide +kernel)) <|
  am_c (ok_icmpgt (off := 8) (by decide +kernel) (by decide +kernel)) <|
  am_c (ok_bipush (z := 11) (by decide +kernel) (by decide +kernel)) <|
  am_c (ok_goto (off := 5) (by decide +kernel) (by decide +kernel)) <|
  am_c (ok_bipush (z := 12) (by decide +kernel) (by decide +kernel)) <|
  am_c (ok_iast (by decide +kernel)) <|
  am_c (ok_iinc (z := 1) (by decide +kernel) (by decide +kernel)) <|
  am_c (ok_goto (off := -47) (by decide +kernel) (by decide +kernel)) <|
  am_c (ok_aload_n (k := 0) (by decide +kernel) rfl) <|
  am_c (ok_get (by decide +kernel) (by decide +kernel) rfl (by decide +kernel) kw_412) <|
  am_c (ok_bipush (z := 92) (by decide +kernel) (by decide +kernel)) <|
  am_c (ok_iconst (z := 0) (by decide +kernel) (by decide +kernel)) <|
  am_c (ok_iast (by decide +kernel)) <|
  am_c (ok_aload_n (k := 0) (by decide +kernel) rfl) <|
  am_c (ok_get (by decide +kernel) (by decide +kernel) rfl (by decide +kernel) kw_412) <|
  am_c (ok_bipush (z := 123) (by decide +kernel) (by decide +kernel)) <|
  am_c (ok_iconst (z := 1) (by decide +kernel) (by decide +kernel)) <|
  am_c (ok_iast (by decide +kernel)) <|
  am_c (ok_aload_n (k := 0) (by decide +kernel) rfl) <|
  am_c (ok_get (by decide +kernel) (by decide +kernel) rfl (by decide +kernel) kw_412) <|
  am_c (ok_bipush (z := 125) (by decide +kernel) (by decide +kernel)) <|
  am_c (ok_iconst (z := 2) (by decide +kernel) (by decide +kernel)) <|
  am_c (ok_iast (by decide +kernel)) <|
  am_n
def k_c92_4 : List (Nat × am_A) := [(170, ac_aload 0 171), (171, ac_get 2 6 8 174), (174, ac_push (.int 36) 176), (176, ac_push (.int 3) 177), (177, ac_iast 178), (178, ac_aload 0 179), (179, ac_get 2 6 8 182), (182, ac_push (.int 38) 184), (184, ac_push (.int 4) 185), (185, ac_iast 186), (186, ac_aload 0 187), (187, ac_get 2 6 8 190), (190, ac_push (.int 10) 192), (192, ac_push (.int 5) 193), (193, ac_iast 194), (194, ac_aload 0 195), (195, ac_get 2 6 8 198), (198, ac_push (.int 35) 200), (200, ac_push (.int 6) 202), (202, ac_iast 203), (203, ac_aload 0 204), (204, ac_get 2 6 8 207), (207, ac_push (.int 94) 209), (209, ac_push (.int 7) 211)]
theorem k_p92_4 : ∀ q ∈ k_c92_4, am_Ok k_nm D cA B0 sb H00 (k_Th B0 sb H00) prog_8_method_3_code "TokenMouthModel" "start" [] none q.1 q.2 :=
  am_c (ok_aload_n (k := 0) (by decide +kernel) rfl) <|
  am_c (ok_get (by decide +kernel) (by decide +kernel) rfl (by decide +kernel) kw_412) <|
  am_c (ok_bipush (z := 36) (by decide +kernel) (by decide +kernel)) <|
  am_c (ok_iconst (z := 3) (by decide +kernel) (by decide +kernel)) <|
  am_c (ok_iast (by decide +kernel)) <|
  am_c (ok_aload_n (k := 0) (by decide +kernel) rfl) <|
  am_c (ok_get (by decide +kernel) (by decide +kernel) rfl (by decide +kernel) kw_412) <|
  am_c (ok_bipush (z := 38) (by decide +kernel) (by decide +kernel)) <|
  am_c (ok_iconst (z := 4) (by decide +kernel) (by decide +kernel)) <|
  am_c (ok_iast (by decide +kernel)) <|
  am_c (ok_aload_n (k := 0) (by decide +kernel) rfl) <|
  am_c (ok_get (by decide +kernel) (by decide +kernel) rfl (by decide +kernel) kw_412) <|
  am_c (ok_bipush (z := 10) (by decide +kernel) (by decide +kernel)) <|
  am_c (ok_iconst (z := 5) (by decide +kernel) (by decide +kernel)) <|
  am_c (ok_iast (by decide +kernel)) <|
  am_c (ok_aload_n (k := 0) (by decide +kernel) rfl) <|
  am_c (ok_get (by decide +kernel) (by decide +kernel) rfl (by decide +kernel) kw_412) <|
  am_c (ok_bipush (z := 35) (by decide +kernel) (by decide +kernel)) <|
  am_c (ok_bipush (z := 6) (by decide +kernel) (by decide +kernel)) <|
  am_c (ok_iast (by decide +kernel)) <|
  am_c (ok_aload_n (k := 0) (by decide +kernel) rfl) <|
  am_c (ok_get (by decide +kernel) (by decide +kernel) rfl (by decide +kernel) kw_412) <|
  am_c (ok_bipush (z := 94) (by decide +kernel) (by decide +kernel)) <|
  am_c (ok_bipush (z := 7) (by decide +kernel) (by decide +kernel)) <|
  am_n
def k_c92_5 : List (Nat × am_A) := [(211, ac_iast 212), (212, ac_aload 0 213), (213, ac_get 2 6 8 216), (216, ac_push (.int 95) 218), (218, ac_push (.int 8) 220), (220, ac_iast 221), (221, ac_aload 0 222), (222, ac_get 2 6 8 225), (225, ac_push (.int 32) 227), (227, ac_push (.int 10) 229), (229, ac_iast 230), (230, ac_aload 0 231), (231, ac_get 2 6 8 234), (234, ac_push (.int 126) 236), (236, ac_push (.int 13) 238), (238, ac_iast 239), (239, ac_aload 0 240), (240, ac_get 2 6 8 243), (243, ac_push (.int 37) 245), (245, ac_push (.int 14) 247), (247, ac_iast 248), (248, ac_ret)]
theorem k_p92_5 : ∀ q ∈ k_c92_5, am_Ok k_nm D cA B0 sb H00 (k_Th B0 sb H00) prog_8_method_3_code "TokenMouthModel" "start" [] none q.1 q.2 :=
  am_c (ok_iast (by decide +kernel)) <|
  am_c (ok_aload_n (k := 0) (by decide +kernel) rfl) <|
  am_c (ok_get (by decide +kernel) (by decide +kernel) rfl (by decide +kernel) kw_412) <|
  am_c (ok_bipush (z := 95) (by decide +kernel) (by decide +kernel)) <|
  am_c (ok_bipush (z := 8) (by decide +kernel) (by decide +kernel)) <|
  am_c (ok_iast (by decide +kernel)) <|
  am_c (ok_aload_n (k := 0) (by decide +kernel) rfl) <|
  am_c (ok_get (by decide +kernel) (by decide +kernel) rfl (by decide +kernel) kw_412) <|
  am_c (ok_bipush (z := 32) (by decide +kernel) (by decide +kernel)) <|
  am_c (ok_bipush (z := 10) (by decide +kernel) (by decide +kernel)) <|
  am_c (ok_iast (by decide +kernel)) <|
  am_c (ok_aload_n (k := 0) (by decide +kernel) rfl) <|
  am_c (ok_get (by decide +kernel) (by decide +kernel) rfl (by decide +kernel) kw_412) <|
  am_c (ok_bipush (z := 126) (by decide +kernel) (by decide +kernel)) <|
  am_c (ok_bipush (z := 13) (by decide +kernel) (by decide +kernel)) <|
  am_c (ok_iast (by decide +kernel)) <|
  am_c (ok_aload_n (k := 0) (by decide +kernel) rfl) <|
  am_c (ok_get (by decide +kernel) (by decide +kernel) rfl (by decide +kernel) kw_412) <|
  am_c (ok_bipush (z := 37) (by decide +kernel) (by decide +kernel)) <|
  am_c (ok_bipush (z := 14) (by decide +kernel) (by decide +kernel)) <|
  am_c (ok_iast (by decide +kernel)) <|
  am_c (ok_ret (by decide +kernel) rfl) <|
  am_n
def k_t92 : List (Nat × List (Nat × am_A)) := [(37, k_c92_0), (80, k_c92_1), (123, k_c92_2), (169, k_c92_3), (209, k_c92_4), (248, k_c92_5)]
theorem k_o92 : ∀ c ∈ k_t92, ∀ q ∈ c.2, am_Ok k_nm D cA B0 sb H00 (k_Th B0 sb H00) prog_8_method_3_code "TokenMouthModel" "start" [] none q.1 q.2 := am_cc (P := fun pc a => am_Ok k_nm D cA B0 sb H00 (k_Th B0 sb H00) prog_8_method_3_code "TokenMouthModel" "start" [] none pc a) k_p92_0 <| am_cc (P := fun pc a => am_Ok k_nm D cA B0 sb H00 (k_Th B0 sb H00) prog_8_method_3_code "TokenMouthModel" "start" [] none pc a) k_p92_1 <| am_cc (P := fun pc a => am_Ok k_nm D cA B0 sb H00 (k_Th B0 sb H00) prog_8_method_3_code "TokenMouthModel" "start" [] none pc a) k_p92_2 <| am_cc (P := fun pc a => am_Ok k_nm D cA B0 sb H00 (k_Th B0 sb H00) prog_8_method_3_code "TokenMouthModel" "start" [] none pc a) k_p92_3 <| am_cc (P := fun pc a => am_Ok k_nm D cA B0 sb H00 (k_Th B0 sb H00) prog_8_method_3_code "TokenMouthModel" "start" [] none pc a) k_p92_4 <| am_cc (P := fun pc a => am_Ok k_nm D cA B0 sb H00 (k_Th B0 sb H00) prog_8_method_3_code "TokenMouthModel" "start" [] none pc a) k_p92_5 <| am_cn0
-- 93: TokenMouthModel.thrown()I
def k_c93_0 : List (Nat × am_A) := [(0, ac_aload 0 1), (1, ac_get 0 6 0 4), (4, ac_iret)]
theorem k_p93_0 : ∀ q ∈ k_c93_0, am_Ok k_nm D cA B0 sb H00 (k_Th B0 sb H00) prog_8_method_4_code "TokenMouthModel" "thrown" [] (some .int) q.1 q.2 :=
  am_c (ok_aload_n (k := 0) (by decide +kernel) rfl) <|
  am_c (ok_get (by decide +kernel) (by decide +kernel) rfl (by decide +kernel) kw_485) <|
  am_c (ok_iret (by decide +kernel) rfl) <|
  am_n
def k_t93 : List (Nat × List (Nat × am_A)) := [(4, k_c93_0)]
theorem k_o93 : ∀ c ∈ k_t93, ∀ q ∈ c.2, am_Ok k_nm D cA B0 sb H00 (k_Th B0 sb H00) prog_8_method_4_code "TokenMouthModel" "thrown" [] (some .int) q.1 q.2 := am_cc (P := fun pc a => am_Ok k_nm D cA B0 sb H00 (k_Th B0 sb H00) prog_8_method_4_code "TokenMouthModel" "thrown" [] (some .int) pc a) k_p93_0 <| am_cn0
-- 94: TokenMouthModel.isCode(I)Z
def k_c94_0 : List (Nat × am_A) := [(0, ac_iload 0 1), (1, ac_push (.int 10) 3), (3, ac_if2 (fun x y => x = y) 18 6), (6, ac_iload 0 7), (7, ac_push (.int 31) 9), (9, ac_if2 (fun x y => x ≤ y) 22 12), (12, ac_iload 0 13), (13, ac_push (.int 127) 15), (15, ac_if2 (fun x y => y ≤ x) 22 18), (18, ac_push (.int 1) 19), (19, ac_goto 23), (22, ac_push (.int 0) 23), (23, ac_zret)]
theorem k_p94_0 : ∀ q ∈ k_c94_0, am_Ok k_nm D cA B0 sb H00 (k_Th B0 sb H00) prog_8_method_5_code "TokenMouthModel" "isCode" [] (some .boolean) q.1 q.2 :=
  am_c (ok_iload_n (k := 0) (by decide +kernel) rfl) <|
  am_c (ok_bipush (z := 10) (by decide +kernel) (by decide +kernel)) <|
  am_c (ok_icmpeq (off := 15) (by decide +kernel) (by decide +kernel)) <|
  am_c (ok_iload_n (k := 0) (by decide +kernel) rfl) <|
  am_c (ok_bipush (z := 31) (by decide +kernel) (by decide +kernel)) <|
  am_c (ok_icmple (off := 13) (by decide +kernel) (by decide +kernel)) <|
  am_c (ok_iload_n (k := 0) (by decide +kernel) rfl) <|
  am_c (ok_bipush (z := 127) (by decide +kernel) (by decide +kernel)) <|
  am_c (ok_icmpge (off := 7) (by decide +kernel) (by decide +kernel)) <|
  am_c (ok_iconst (z := 1) (by decide +kernel) (by decide +kernel)) <|
  am_c (ok_goto (off := 4) (by decide +kernel) (by decide +kernel)) <|
  am_c (ok_iconst (z := 0) (by decide +kernel) (by decide +kernel)) <|
  am_c (ok_zret (by decide +kernel) rfl) <|
  am_n
def k_t94 : List (Nat × List (Nat × am_A)) := [(23, k_c94_0)]
theorem k_o94 : ∀ c ∈ k_t94, ∀ q ∈ c.2, am_Ok k_nm D cA B0 sb H00 (k_Th B0 sb H00) prog_8_method_5_code "TokenMouthModel" "isCode" [] (some .boolean) q.1 q.2 := am_cc (P := fun pc a => am_Ok k_nm D cA B0 sb H00 (k_Th B0 sb H00) prog_8_method_5_code "TokenMouthModel" "isCode" [] (some .boolean) pc a) k_p94_0 <| am_cn0
-- 95: TokenMouthModel.type(J)Z
def k_c95_0 : List (Nat × am_A) := [(0, ac_aload 0 1), (1, ac_push (.int 0) 2), (2, ac_putI 6 0 5), (5, ac_push (.int 0) 6), (6, ac_istore 3 7), (7, ac_aload 0 8), (8, ac_get 0 6 6 11), (11, ac_if1 (fun x => ¬ x = 0) 18 14), (14, ac_push (.int 1) 15), (15, ac_goto 19), (18, ac_push (.int 0) 19), (19, ac_istore 4 21), (21, ac_push (.int 0) 22), (22, ac_istore 5 24), (24, ac_iload 5 26), (26, ac_push (.int 8) 28), (28, ac_if2 (fun x y => y ≤ x) 89 31), (31, ac_lload 1 32), (32, ac_push (.int 8) 34), (34, ac_iload 5 36), (36, ac_ii (fun x y => x * y) 37), (37, ac_li (fun x y => x >>> (y.toInt64 &&& 63)) 38), (38, ac_push (.long 255) 41), (41, ac_ll (fun x y => x &&& y) 42)]
theorem k_p95_0 : ∀ q ∈ k_c95_0, am_Ok k_nm D cA B0 sb H00 (k_Th B0 sb H00) prog_8_method_6_code "TokenMouthModel" "type" [] (some .boolean) q.1 q.2 :=
  am_c (ok_aload_n (k := 0) (by decide +kernel) rfl) <|
  am_c (ok_iconst (z := 0) (by decide +kernel) (by decide +kernel)) <|
  am_c (ok_putI (by decide +kernel) (by decide +kernel) rfl (by decide +kernel) kw_485 rfl) <|
  am_c (ok_iconst (z := 0) (by decide +kernel) (by decide +kernel)) <|
  am_c (ok_istore_n (k := 3) (by decide +kernel) rfl) <|
  am_c (ok_aload_n (k := 0) (by decide +kernel) rfl) <|
  am_c (ok_get (by decide +kernel) (by decide +kernel) rfl (by decide +kernel) kw_477) <|
  am_c (ok_ifne (off := 7) (by decide +kernel) (by decide +kernel)) <|
  am_c (ok_iconst (z := 1) (by decide +kernel) (by decide +kernel)) <|
  am_c (ok_goto (off := 4) (by decide +kernel) (by decide +kernel)) <|
  am_c (ok_iconst (z := 0) (by decide +kernel) (by decide +kernel)) <|
  am_c (ok_istore (by decide +kernel)) <|
  am_c (ok_iconst (z := 0) (by decide +kernel) (by decide +kernel)) <|
  am_c (ok_istore (by decide +kernel)) <|
  am_c (ok_iload (by decide +kernel)) <|
  am_c (ok_bipush (z := 8) (by decide +kernel) (by decide +kernel)) <|
  am_c (ok_icmpge (off := 61) (by decide +kernel) (by decide +kernel)) <|
  am_c (ok_lload_n (k := 1) (by decide +kernel) rfl) <|
  am_c (ok_bipush (z := 8) (by decide +kernel) (by decide +kernel)) <|
  am_c (ok_iload (by decide +kernel)) <|
  am_c (ok_imul (by decide +kernel)) <|
  am_c (ok_lshr (by decide +kernel)) <|
  am_c (ok_ldc2 (by decide +kernel) kw_486) <|
  am_c (ok_land (by decide +kernel)) <|
  am_n
def k_c95_1 : List (Nat × am_A) := [(42, ac_l2 (fun x => x.toInt32) 43), (43, ac_istore 6 45), (45, ac_iload 4 47), (47, ac_if1 (fun x => x = 0) 67 50), (50, ac_iload 6 52), (52, ac_if1 (fun x => x = 0) 63 55), (55, ac_iload 6 57), (57, ac_callS 94 1 60), (60, ac_if1 (fun x => x = 0) 67 63), (63, ac_push (.int 1) 64), (64, ac_goto 68), (67, ac_push (.int 0) 68), (68, ac_istore 4 70), (70, ac_iload 3 71), (71, ac_iload 6 73), (73, ac_if1 (fun x => ¬ x = 0) 80 76), (76, ac_push (.int 0) 77), (77, ac_goto 81), (80, ac_push (.int 1) 81), (81, ac_ii (fun x y => x + y) 82), (82, ac_istore 3 83), (83, ac_iinc 5 1 86), (86, ac_goto 24), (89, ac_iload 4 91)]
theorem k_p95_1 : ∀ q ∈ k_c95_1, am_Ok k_nm D cA B0 sb H00 (k_Th B0 sb H00) prog_8_method_6_code "TokenMouthModel" "type" [] (some .boolean) q.1 q.2 :=
  am_c (ok_l2i (by decide +kernel)) <|
  am_c (ok_istore (by decide +kernel)) <|
  am_c (ok_iload (by decide +kernel)) <|
  am_c (ok_ifeq (off := 20) (by decide +kernel) (by decide +kernel)) <|
  am_c (ok_iload (by decide +kernel)) <|
  am_c (ok_ifeq (off := 11) (by decide +kernel) (by decide +kernel)) <|
  am_c (ok_iload (by decide +kernel)) <|
  am_c (ok_callS (by decide +kernel) kw_489 kw_490 kw_488 kw_487 (by decide +kernel) (by decide +kernel)) <|
  am_c (ok_ifeq (off := 7) (by decide +kernel) (by decide +kernel)) <|
  am_c (ok_iconst (z := 1) (by decide +kernel) (by decide +kernel)) <|
  am_c (ok_goto (off := 4) (by decide +kernel) (by decide +kernel)) <|
  am_c (ok_iconst (z := 0) (by decide +kernel) (by decide +kernel)) <|
  am_c (ok_istore (by decide +kernel)) <|
  am_c (ok_iload_n (k := 3) (by decide +kernel) rfl) <|
  am_c (ok_iload (by decide +kernel)) <|
  am_c (ok_ifne (off := 7) (by decide +kernel) (by decide +kernel)) <|
  am_c (ok_iconst (z := 0) (by decide +kernel) (by decide +kernel)) <|
  am_c (ok_goto (off := 4) (by decide +kernel) (by decide +kernel)) <|
  am_c (ok_iconst (z := 1) (by decide +kernel) (by decide +kernel)) <|
  am_c (ok_iadd (by decide +kernel)) <|
  am_c (ok_istore_n (k := 3) (by decide +kernel) rfl) <|
  am_c (ok_iinc (z := 1) (by decide +kernel) (by decide +kernel)) <|
  am_c (ok_goto (off := -62) (by decide +kernel) (by decide +kernel)) <|
  am_c (ok_iload (by decide +kernel)) <|
  am_n
def k_c95_2 : List (Nat × am_A) := [(91, ac_if1 (fun x => x = 0) 106 94), (94, ac_aload 0 95), (95, ac_get 0 6 1 98), (98, ac_iload 3 99), (99, ac_ii (fun x y => x + y) 100), (100, ac_push (.int 160) 103), (103, ac_if2 (fun x y => x ≤ y) 108 106), (106, ac_push (.int 0) 107), (107, ac_zret), (108, ac_push (.int 7) 110), (110, ac_istore 5 112), (112, ac_iload 5 114), (114, ac_if1 (fun x => x < 0) 163 117), (117, ac_lload 1 118), (118, ac_push (.int 8) 120), (120, ac_iload 5 122), (122, ac_ii (fun x y => x * y) 123), (123, ac_li (fun x y => x >>> (y.toInt64 &&& 63)) 124), (124, ac_push (.long 255) 127), (127, ac_ll (fun x y => x &&& y) 128), (128, ac_l2 (fun x => x.toInt32) 129), (129, ac_istore 6 131), (131, ac_iload 6 133), (133, ac_if1 (fun x => x ≤ 0) 157 136)]
theorem k_p95_2 : ∀ q ∈ k_c95_2, am_Ok k_nm D cA B0 sb H00 (k_Th B0 sb H00) prog_8_method_6_code "TokenMouthModel" "type" [] (some .boolean) q.1 q.2 :=
  am_c (ok_ifeq (off := 15) (by decide +kernel) (by decide +kernel)) <|
  am_c (ok_aload_n (k := 0) (by decide +kernel) rfl) <|
  am_c (ok_get (by decide +kernel) (by decide +kernel) rfl (by decide +kernel) kw_491) <|
  am_c (ok_iload_n (k := 3) (by decide +kernel) rfl) <|
  am_c (ok_iadd (by decide +kernel)) <|
  am_c (ok_sipush (z := 160) (by decide +kernel) (by decide +kernel)) <|
  am_c (ok_icmple (off := 5) (by decide +kernel) (by decide +kernel)) <|
  am_c (ok_iconst (z := 0) (by decide +kernel) (by decide +kernel)) <|
  am_c (ok_zret (by decide +kernel) rfl) <|
  am_c (ok_bipush (z := 7) (by decide +kernel) (by decide +kernel)) <|
  am_c (ok_istore (by decide +kernel)) <|
  am_c (ok_iload (by decide +kernel)) <|
  am_c (ok_iflt (off := 49) (by decide +kernel) (by decide +kernel)) <|
  am_c (ok_lload_n (k := 1) (by decide +kernel) rfl) <|
  am_c (ok_bipush (z := 8) (by decide +kernel) (by decide +kernel)) <|
  am_c (ok_iload (by decide +kernel)) <|
  am_c (ok_imul (by decide +kernel)) <|
  am_c (ok_lshr (by decide +kernel)) <|
  am_c (ok_ldc2 (by decide +kernel) kw_486) <|
  am_c (ok_land (by decide +kernel)) <|
  am_c (ok_l2i (by decide +kernel)) <|
  am_c (ok_istore (by decide +kernel)) <|
  am_c (ok_iload (by decide +kernel)) <|
  am_c (ok_ifle (off := 24) (by decide +kernel) (by decide +kernel)) <|
  am_n
def k_c95_3 : List (Nat × am_A) := [(136, ac_aload 0 137), (137, ac_get 2 6 2 140), (140, ac_aload 0 141), (141, ac_get 0 6 1 144), (144, ac_iload 6 146), (146, ac_iast 147), (147, ac_aload 0 148), (148, ac_dup 149), (149, ac_get 0 6 1 152), (152, ac_push (.int 1) 153), (153, ac_ii (fun x y => x + y) 154), (154, ac_putI 6 1 157), (157, ac_iinc 5 (-1) 160), (160, ac_goto 112), (163, ac_push (.int 1) 164), (164, ac_zret)]
theorem k_p95_3 : ∀ q ∈ k_c95_3, am_Ok k_nm D cA B0 sb H00 (k_Th B0 sb H00) prog_8_method_6_code "TokenMouthModel" "type" [] (some .boolean) q.1 q.2 :=
  am_c (ok_aload_n (k := 0) (by decide +kernel) rfl) <|
  am_c (ok_get (by decide +kernel) (by decide +kernel) rfl (by decide +kernel) kw_411) <|
  am_c (ok_aload_n (k := 0) (by decide +kernel) rfl) <|
  am_c (ok_get (by decide +kernel) (by decide +kernel) rfl (by decide +kernel) kw_491) <|
  am_c (ok_iload (by decide +kernel)) <|
  am_c (ok_iast (by decide +kernel)) <|
  am_c (ok_aload_n (k := 0) (by decide +kernel) rfl) <|
  am_c (ok_dup (by decide +kernel)) <|
  am_c (ok_get (by decide +kernel) (by decide +kernel) rfl (by decide +kernel) kw_491) <|
  am_c (ok_iconst (z := 1) (by decide +kernel) (by decide +kernel)) <|
  am_c (ok_iadd (by decide +kernel)) <|
  am_c (ok_putI (by decide +kernel) (by decide +kernel) rfl (by decide +kernel) kw_491 rfl) <|
  am_c (ok_iinc (z := (-1)) (by decide +kernel) (by decide +kernel)) <|
  am_c (ok_goto (off := -48) (by decide +kernel) (by decide +kernel)) <|
  am_c (ok_iconst (z := 1) (by decide +kernel) (by decide +kernel)) <|
  am_c (ok_zret (by decide +kernel) rfl) <|
  am_n
def k_t95 : List (Nat × List (Nat × am_A)) := [(41, k_c95_0), (89, k_c95_1), (133, k_c95_2), (164, k_c95_3)]
theorem k_o95 : ∀ c ∈ k_t95, ∀ q ∈ c.2, am_Ok k_nm D cA B0 sb H00 (k_Th B0 sb H00) prog_8_method_6_code "TokenMouthModel" "type" [] (some .boolean) q.1 q.2 := am_cc (P := fun pc a => am_Ok k_nm D cA B0 sb H00 (k_Th B0 sb H00) prog_8_method_6_code "TokenMouthModel" "type" [] (some .boolean) pc a) k_p95_0 <| am_cc (P := fun pc a => am_Ok k_nm D cA B0 sb H00 (k_Th B0 sb H00) prog_8_method_6_code "TokenMouthModel" "type" [] (some .boolean) pc a) k_p95_1 <| am_cc (P := fun pc a => am_Ok k_nm D cA B0 sb H00 (k_Th B0 sb H00) prog_8_method_6_code "TokenMouthModel" "type" [] (some .boolean) pc a) k_p95_2 <| am_cc (P := fun pc a => am_Ok k_nm D cA B0 sb H00 (k_Th B0 sb H00) prog_8_method_6_code "TokenMouthModel" "type" [] (some .boolean) pc a) k_p95_3 <| am_cn0
-- 96: TokenMouthModel.wipe()V
def k_c96_0 : List (Nat × am_A) := [(0, ac_aload 0 1), (1, ac_push (.int 0) 2), (2, ac_putI 6 0 5), (5, ac_aload 0 6), (6, ac_push (.int 0) 7), (7, ac_putI 6 1 10), (10, ac_aload 0 11), (11, ac_callV 6 92 1 14 am_nohd), (14, ac_ret)]
theorem k_p96_0 : ∀ q ∈ k_c96_0, am_Ok k_nm D cA B0 sb H00 (k_Th B0 sb H00) prog_8_method_7_code "TokenMouthModel" "wipe" [] none q.1 q.2 :=
  am_c (ok_aload_n (k := 0) (by decide +kernel) rfl) <|
  am_c (ok_iconst (z := 0) (by decide +kernel) (by decide +kernel)) <|
  am_c (ok_putI (by decide +kernel) (by decide +kernel) rfl (by decide +kernel) kw_485 rfl) <|
  am_c (ok_aload_n (k := 0) (by decide +kernel) rfl) <|
  am_c (ok_iconst (z := 0) (by decide +kernel) (by decide +kernel)) <|
  am_c (ok_putI (by decide +kernel) (by decide +kernel) rfl (by decide +kernel) kw_491 rfl) <|
  am_c (ok_aload_n (k := 0) (by decide +kernel) rfl) <|
  am_c (ok_callV (by decide +kernel) (by decide +kernel) kw_469 kw_470 kw_471 kw_468 (by decide +kernel) (by decide +kernel)) <|
  am_c (ok_ret (by decide +kernel) rfl) <|
  am_n
def k_t96 : List (Nat × List (Nat × am_A)) := [(14, k_c96_0)]
theorem k_o96 : ∀ c ∈ k_t96, ∀ q ∈ c.2, am_Ok k_nm D cA B0 sb H00 (k_Th B0 sb H00) prog_8_method_7_code "TokenMouthModel" "wipe" [] none q.1 q.2 := am_cc (P := fun pc a => am_Ok k_nm D cA B0 sb H00 (k_Th B0 sb H00) prog_8_method_7_code "TokenMouthModel" "wipe" [] none pc a) k_p96_0 <| am_cn0
-- 97: TokenMouthModel.again()V
def k_c97_0 : List (Nat × am_A) := [(0, ac_aload 0 1), (1, ac_push (.int 0) 2), (2, ac_putI 6 0 5), (5, ac_aload 0 6), (6, ac_callV 6 92 1 9 am_nohd), (9, ac_ret)]
theorem k_p97_0 : ∀ q ∈ k_c97_0, am_Ok k_nm D cA B0 sb H00 (k_Th B0 sb H00) prog_8_method_8_code "TokenMouthModel" "again" [] none q.1 q.2 :=
  am_c (ok_aload_n (k := 0) (by decide +kernel) rfl) <|
  am_c (ok_iconst (z := 0) (by decide +kernel) (by decide +kernel)) <|
  am_c (ok_putI (by decide +kernel) (by decide +kernel) rfl (by decide +kernel) kw_485 rfl) <|
  am_c (ok_aload_n (k := 0) (by decide +kernel) rfl) <|
  am_c (ok_callV (by decide +kernel) (by decide +kernel) kw_469 kw_470 kw_471 kw_468 (by decide +kernel) (by decide +kernel)) <|
  am_c (ok_ret (by decide +kernel) rfl) <|
  am_n
def k_t97 : List (Nat × List (Nat × am_A)) := [(9, k_c97_0)]
theorem k_o97 : ∀ c ∈ k_t97, ∀ q ∈ c.2, am_Ok k_nm D cA B0 sb H00 (k_Th B0 sb H00) prog_8_method_8_code "TokenMouthModel" "again" [] none q.1 q.2 := am_cc (P := fun pc a => am_Ok k_nm D cA B0 sb H00 (k_Th B0 sb H00) prog_8_method_8_code "TokenMouthModel" "again" [] none pc a) k_p97_0 <| am_cn0
-- 98: TokenMouthModel.stop(I)I
def k_c98_0 : List (Nat × am_A) := [(0, ac_aload 0 1), (1, ac_aload 0 2), (2, ac_get 0 6 5 5), (5, ac_if1 (fun x => ¬ x = 0) 12 8), (8, ac_iload 1 9), (9, ac_goto 16), (12, ac_aload 0 13), (13, ac_get 0 6 5 16), (16, ac_putI 6 5 19), (19, ac_push (.int (-1)) 20), (20, ac_iret)]
theorem k_p98_0 : ∀ q ∈ k_c98_0, am_Ok k_nm D cA B0 sb H00 (k_Th B0 sb H00) prog_8_method_9_code "TokenMouthModel" "stop" [] (some .int) q.1 q.2 :=
  am_c (ok_aload_n (k := 0) (by decide +kernel) rfl) <|
  am_c (ok_aload_n (k := 0) (by decide +kernel) rfl) <|
  am_c (ok_get (by decide +kernel) (by decide +kernel) rfl (by decide +kernel) kw_476) <|
  am_c (ok_ifne (off := 7) (by decide +kernel) (by decide +kernel)) <|
  am_c (ok_iload_n (k := 1) (by decide +kernel) rfl) <|
  am_c (ok_goto (off := 7) (by decide +kernel) (by decide +kernel)) <|
  am_c (ok_aload_n (k := 0) (by decide +kernel) rfl) <|
  am_c (ok_get (by decide +kernel) (by decide +kernel) rfl (by decide +kernel) kw_476) <|
  am_c (ok_putI (by decide +kernel) (by decide +kernel) rfl (by decide +kernel) kw_476 rfl) <|
  am_c (ok_iconst (z := -1) (by decide +kernel) (by decide +kernel)) <|
  am_c (ok_iret (by decide +kernel) rfl) <|
  am_n
def k_t98 : List (Nat × List (Nat × am_A)) := [(20, k_c98_0)]
theorem k_o98 : ∀ c ∈ k_t98, ∀ q ∈ c.2, am_Ok k_nm D cA B0 sb H00 (k_Th B0 sb H00) prog_8_method_9_code "TokenMouthModel" "stop" [] (some .int) q.1 q.2 := am_cc (P := fun pc a => am_Ok k_nm D cA B0 sb H00 (k_Th B0 sb H00) prog_8_method_9_code "TokenMouthModel" "stop" [] (some .int) pc a) k_p98_0 <| am_cn0
-- 99: TokenMouthModel.say(I)V
def k_c99_0 : List (Nat × am_A) := [(0, ac_aload 0 1), (1, ac_get 0 6 16 4), (4, ac_push (.int 12) 6), (6, ac_if2 (fun x y => y ≤ x) 19 9), (9, ac_aload 0 10), (10, ac_get 2 6 17 13), (13, ac_aload 0 14), (14, ac_get 0 6 16 17), (17, ac_iload 1 18), (18, ac_iast 19), (19, ac_aload 0 20), (20, ac_dup 21), (21, ac_get 0 6 16 24), (24, ac_push (.int 1) 25), (25, ac_ii (fun x y => x + y) 26), (26, ac_putI 6 16 29), (29, ac_ret)]
theorem k_p99_0 : ∀ q ∈ k_c99_0, am_Ok k_nm D cA B0 sb H00 (k_Th B0 sb H00) prog_8_method_10_code "TokenMouthModel" "say" [] none q.1 q.2 :=
  am_c (ok_aload_n (k := 0) (by decide +kernel) rfl) <|
  am_c (ok_get (by decide +kernel) (by decide +kernel) rfl (by decide +kernel) kw_492) <|
  am_c (ok_bipush (z := 12) (by decide +kernel) (by decide +kernel)) <|
  am_c (ok_icmpge (off := 13) (by decide +kernel) (by decide +kernel)) <|
  am_c (ok_aload_n (k := 0) (by decide +kernel) rfl) <|
  am_c (ok_get (by decide +kernel) (by decide +kernel) rfl (by decide +kernel) kw_419) <|
  am_c (ok_aload_n (k := 0) (by decide +kernel) rfl) <|
  am_c (ok_get (by decide +kernel) (by decide +kernel) rfl (by decide +kernel) kw_492) <|
  am_c (ok_iload_n (k := 1) (by decide +kernel) rfl) <|
  am_c (ok_iast (by decide +kernel)) <|
  am_c (ok_aload_n (k := 0) (by decide +kernel) rfl) <|
  am_c (ok_dup (by decide +kernel)) <|
  am_c (ok_get (by decide +kernel) (by decide +kernel) rfl (by decide +kernel) kw_492) <|
  am_c (ok_iconst (z := 1) (by decide +kernel) (by decide +kernel)) <|
  am_c (ok_iadd (by decide +kernel)) <|
  am_c (ok_putI (by decide +kernel) (by decide +kernel) rfl (by decide +kernel) kw_492 rfl) <|
  am_c (ok_ret (by decide +kernel) rfl) <|
  am_n
def k_t99 : List (Nat × List (Nat × am_A)) := [(29, k_c99_0)]
theorem k_o99 : ∀ c ∈ k_t99, ∀ q ∈ c.2, am_Ok k_nm D cA B0 sb H00 (k_Th B0 sb H00) prog_8_method_10_code "TokenMouthModel" "say" [] none q.1 q.2 := am_cc (P := fun pc a => am_Ok k_nm D cA B0 sb H00 (k_Th B0 sb H00) prog_8_method_10_code "TokenMouthModel" "say" [] none pc a) k_p99_0 <| am_cn0
-- 100: TokenMouthModel.known(Z)I
def k_c100_0 : List (Nat × am_A) := [(0, ac_push (.int 0) 1), (1, ac_istore 2 2), (2, ac_iload 2 3), (3, ac_aload 0 4), (4, ac_get 0 6 11 7), (7, ac_if2 (fun x y => y ≤ x) 101 10), (10, ac_aload 0 11), (11, ac_get 2 6 13 14), (14, ac_iload 2 15), (15, ac_iald 0 16), (16, ac_aload 0 17), (17, ac_get 0 6 16 20), (20, ac_if2 (fun x y => ¬ x = y) 37 23), (23, ac_aload 0 24), (24, ac_get 2 6 14 27), (27, ac_iload 2 28), (28, ac_iald 2 29), (29, ac_iload 1 30), (30, ac_if2 (fun x y => ¬ x = y) 37 33), (33, ac_push (.int 1) 34), (34, ac_goto 38), (37, ac_push (.int 0) 38), (38, ac_istore 3 39), (39, ac_push (.int 0) 40)]
theorem k_p100_0 : ∀ q ∈ k_c100_0, am_Ok k_nm D cA B0 sb H00 (k_Th B0 sb H00) prog_8_method_11_code "TokenMouthModel" "known" [] (some .int) q.1 q.2 :=
  am_c (ok_iconst (z := 0) (by decide +kernel) (by decide +kernel)) <|
  am_c (ok_istore_n (k := 2) (by decide +kernel) rfl) <|
  am_c (ok_iload_n (k := 2) (by decide +kernel) rfl) <|
  am_c (ok_aload_n (k := 0) (by decide +kernel) rfl) <|
  am_c (ok_get (by decide +kernel) (by decide +kernel) rfl (by decide +kernel) kw_472) <|
  am_c (ok_icmpge (off := 94) (by decide +kernel) (by decide +kernel)) <|
  am_c (ok_aload_n (k := 0) (by decide +kernel) rfl) <|
  am_c (ok_get (by decide +kernel) (by decide +kernel) rfl (by decide +kernel) kw_415) <|
  am_c (ok_iload_n (k := 2) (by decide +kernel) rfl) <|
  am_c (ok_iald (by decide +kernel)) <|
  am_c (ok_aload_n (k := 0) (by decide +kernel) rfl) <|
  am_c (ok_get (by decide +kernel) (by decide +kernel) rfl (by decide +kernel) kw_492) <|
  am_c (ok_icmpne (off := 17) (by decide +kernel) (by decide +kernel)) <|
  am_c (ok_aload_n (k := 0) (by decide +kernel) rfl) <|
  am_c (ok_get (by decide +kernel) (by decide +kernel) rfl (by decide +kernel) kw_417) <|
  am_c (ok_iload_n (k := 2) (by decide +kernel) rfl) <|
  am_c (ok_zald (by decide +kernel)) <|
  am_c (ok_iload_n (k := 1) (by decide +kernel) rfl) <|
  am_c (ok_icmpne (off := 7) (by decide +kernel) (by decide +kernel)) <|
  am_c (ok_iconst (z := 1) (by decide +kernel) (by decide +kernel)) <|
  am_c (ok_goto (off := 4) (by decide +kernel) (by decide +kernel)) <|
  am_c (ok_iconst (z := 0) (by decide +kernel) (by decide +kernel)) <|
  am_c (ok_istore_n (k := 3) (by decide +kernel) rfl) <|
  am_c (ok_iconst (z := 0) (by decide +kernel) (by decide +kernel)) <|
  am_n
def k_c100_1 : List (Nat × am_A) := [(40, ac_istore 4 42), (42, ac_iload 4 44), (44, ac_aload 0 45), (45, ac_get 0 6 16 48), (48, ac_if2 (fun x y => y ≤ x) 89 51), (51, ac_iload 3 52), (52, ac_if1 (fun x => x = 0) 89 55), (55, ac_aload 0 56), (56, ac_get 2 6 12 59), (59, ac_push (.int 11) 61), (61, ac_iload 2 62), (62, ac_ii (fun x y => x * y) 63), (63, ac_iload 4 65), (65, ac_ii (fun x y => x + y) 66), (66, ac_iald 0 67), (67, ac_aload 0 68), (68, ac_get 2 6 17 71), (71, ac_iload 4 73), (73, ac_iald 0 74), (74, ac_if2 (fun x y => ¬ x = y) 81 77), (77, ac_push (.int 1) 78), (78, ac_goto 82), (81, ac_push (.int 0) 82), (82, ac_istore 3 83)]
theorem k_p100_1 : ∀ q ∈ k_c100_1, am_Ok k_nm D cA B0 sb H00 (k_Th B0 sb H00) prog_8_method_11_code "TokenMouthModel" "known" [] (some .int) q.1 q.2 :=
  am_c (ok_istore (by decide +kernel)) <|
  am_c (ok_iload (by decide +kernel)) <|
  am_c (ok_aload_n (k := 0) (by decide +kernel) rfl) <|
  am_c (ok_get (by decide +kernel) (by decide +kernel) rfl (by decide +kernel) kw_492) <|
  am_c (ok_icmpge (off := 41) (by decide +kernel) (by decide +kernel)) <|
  am_c (ok_iload_n (k := 3) (by decide +kernel) rfl) <|
  am_c (ok_ifeq (off := 37) (by decide +kernel) (by decide +kernel)) <|
  am_c (ok_aload_n (k := 0) (by decide +kernel) rfl) <|
  am_c (ok_get (by decide +kernel) (by decide +kernel) rfl (by decide +kernel) kw_414) <|
  am_c (ok_bipush (z := 11) (by decide +kernel) (by decide +kernel)) <|
  am_c (ok_iload_n (k := 2) (by decide +kernel) rfl) <|
  am_c (ok_imul (by decide +kernel)) <|
  am_c (ok_iload (by decide +kernel)) <|
  am_c (ok_iadd (by decide +kernel)) <|
  am_c (ok_iald (by decide +kernel)) <|
  am_c (ok_aload_n (k := 0) (by decide +kernel) rfl) <|
  am_c (ok_get (by decide +kernel) (by decide +kernel) rfl (by decide +kernel) kw_419) <|
  am_c (ok_iload (by decide +kernel)) <|
  am_c (ok_iald (by decide +kernel)) <|
  am_c (ok_icmpne (off := 7) (by decide +kernel) (by decide +kernel)) <|
  am_c (ok_iconst (z := 1) (by decide +kernel) (by decide +kernel)) <|
  am_c (ok_goto (off := 4) (by decide +kernel) (by decide +kernel)) <|
  am_c (ok_iconst (z := 0) (by decide +kernel) (by decide +kernel)) <|
  am_c (ok_istore_n (k := 3) (by decide +kernel) rfl) <|
  am_n
def k_c100_2 : List (Nat × am_A) := [(83, ac_iinc 4 1 86), (86, ac_goto 42), (89, ac_iload 3 90), (90, ac_if1 (fun x => x = 0) 95 93), (93, ac_iload 2 94), (94, ac_iret), (95, ac_iinc 2 1 98), (98, ac_goto 2), (101, ac_push (.int (-1)) 102), (102, ac_iret)]
theorem k_p100_2 : ∀ q ∈ k_c100_2, am_Ok k_nm D cA B0 sb H00 (k_Th B0 sb H00) prog_8_method_11_code "TokenMouthModel" "known" [] (some .int) q.1 q.2 :=
  am_c (ok_iinc (z := 1) (by decide +kernel) (by decide +kernel)) <|
  am_c (ok_goto (off := -44) (by decide +kernel) (by decide +kernel)) <|
  am_c (ok_iload_n (k := 3) (by decide +kernel) rfl) <|
  am_c (ok_ifeq (off := 5) (by decide +kernel) (by decide +kernel)) <|
  am_c (ok_iload_n (k := 2) (by decide +kernel) rfl) <|
  am_c (ok_iret (by decide +kernel) rfl) <|
  am_c (ok_iinc (z := 1) (by decide +kernel) (by decide +kernel)) <|
  am_c (ok_goto (off := -96) (by decide +kernel) (by decide +kernel)) <|
  am_c (ok_iconst (z := -1) (by decide +kernel) (by decide +kernel)) <|
  am_c (ok_iret (by decide +kernel) rfl) <|
  am_n
def k_t100 : List (Nat × List (Nat × am_A)) := [(39, k_c100_0), (82, k_c100_1), (102, k_c100_2)]
theorem k_o100 : ∀ c ∈ k_t100, ∀ q ∈ c.2, am_Ok k_nm D cA B0 sb H00 (k_Th B0 sb H00) prog_8_method_11_code "TokenMouthModel" "known" [] (some .int) q.1 q.2 := am_cc (P := fun pc a => am_Ok k_nm D cA B0 sb H00 (k_Th B0 sb H00) prog_8_method_11_code "TokenMouthModel" "known" [] (some .int) pc a) k_p100_0 <| am_cc (P := fun pc a => am_Ok k_nm D cA B0 sb H00 (k_Th B0 sb H00) prog_8_method_11_code "TokenMouthModel" "known" [] (some .int) pc a) k_p100_1 <| am_cc (P := fun pc a => am_Ok k_nm D cA B0 sb H00 (k_Th B0 sb H00) prog_8_method_11_code "TokenMouthModel" "known" [] (some .int) pc a) k_p100_2 <| am_cn0
-- 101: TokenMouthModel.named(Z)I
def k_c101_0 : List (Nat × am_A) := [(0, ac_aload 0 1), (1, ac_iload 1 2), (2, ac_callV 6 100 2 5 am_nohd), (5, ac_istore 2 6), (6, ac_iload 2 7), (7, ac_if1 (fun x => x < 0) 16 10), (10, ac_push (.int 4096) 13), (13, ac_iload 2 14), (14, ac_ii (fun x y => x + y) 15), (15, ac_iret), (16, ac_aload 0 17), (17, ac_get 0 6 11 20), (20, ac_push (.int 118) 22), (22, ac_if2 (fun x y => ¬ x = y) 31 25), (25, ac_aload 0 26), (26, ac_push (.int 5) 27), (27, ac_callV 6 98 2 30 am_nohd), (30, ac_iret), (31, ac_aload 0 32), (32, ac_get 2 6 13 35), (35, ac_aload 0 36), (36, ac_get 0 6 11 39), (39, ac_aload 0 40), (40, ac_get 0 6 16 43)]
theorem k_p101_0 : ∀ q ∈ k_c101_0, am_Ok k_nm D cA B0 sb H00 (k_Th B0 sb H00) prog_8_method_12_code "TokenMouthModel" "named" [] (some .int) q.1 q.2 :=
  am_c (ok_aload_n (k := 0) (by decide +kernel) rfl) <|
  am_c (ok_iload_n (k := 1) (by decide +kernel) rfl) <|
  am_c (ok_callV (by decide +kernel) (by decide +kernel) kw_494 kw_495 kw_496 kw_493 (by decide +kernel) (by decide +kernel)) <|
  am_c (ok_istore_n (k := 2) (by decide +kernel) rfl) <|
  am_c (ok_iload_n (k := 2) (by decide +kernel) rfl) <|
  am_c (ok_iflt (off := 9) (by decide +kernel) (by decide +kernel)) <|
  am_c (ok_sipush (z := 4096) (by decide +kernel) (by decide +kernel)) <|
  am_c (ok_iload_n (k := 2) (by decide +kernel) rfl) <|
  am_c (ok_iadd (by decide +kernel)) <|
  am_c (ok_iret (by decide +kernel) rfl) <|
  am_c (ok_aload_n (k := 0) (by decide +kernel) rfl) <|
  am_c (ok_get (by decide +kernel) (by decide +kernel) rfl (by decide +kernel) kw_472) <|
  am_c (ok_bipush (z := 118) (by decide +kernel) (by decide +kernel)) <|
  am_c (ok_icmpne (off := 9) (by decide +kernel) (by decide +kernel)) <|
  am_c (ok_aload_n (k := 0) (by decide +kernel) rfl) <|
  am_c (ok_iconst (z := 5) (by decide +kernel) (by decide +kernel)) <|
  am_c (ok_callV (by decide +kernel) (by decide +kernel) kw_498 kw_499 kw_500 kw_497 (by decide +kernel) (by decide +kernel)) <|
  am_c (ok_iret (by decide +kernel) rfl) <|
  am_c (ok_aload_n (k := 0) (by decide +kernel) rfl) <|
  am_c (ok_get (by decide +kernel) (by decide +kernel) rfl (by decide +kernel) kw_415) <|
  am_c (ok_aload_n (k := 0) (by decide +kernel) rfl) <|
  am_c (ok_get (by decide +kernel) (by decide +kernel) rfl (by decide +kernel) kw_472) <|
  am_c (ok_aload_n (k := 0) (by decide +kernel) rfl) <|
  am_c (ok_get (by decide +kernel) (by decide +kernel) rfl (by decide +kernel) kw_492) <|
  am_n
def k_c101_1 : List (Nat × am_A) := [(43, ac_iast 44), (44, ac_aload 0 45), (45, ac_get 2 6 14 48), (48, ac_aload 0 49), (49, ac_get 0 6 11 52), (52, ac_iload 1 53), (53, ac_zast 54), (54, ac_aload 0 55), (55, ac_get 2 6 15 58), (58, ac_aload 0 59), (59, ac_get 0 6 11 62), (62, ac_push (.int 0) 63), (63, ac_iast 64), (64, ac_push (.int 0) 65), (65, ac_istore 3 66), (66, ac_iload 3 67), (67, ac_aload 0 68), (68, ac_get 0 6 16 71), (71, ac_if2 (fun x y => y ≤ x) 100 74), (74, ac_aload 0 75), (75, ac_get 2 6 12 78), (78, ac_push (.int 11) 80), (80, ac_aload 0 81), (81, ac_get 0 6 11 84)]
theorem k_p101_1 : ∀ q ∈ k_c101_1, am_Ok k_nm D cA B0 sb H00 (k_Th B0 sb H00) prog_8_method_12_code "TokenMouthModel" "named" [] (some .int) q.1 q.2 :=
  am_c (ok_iast (by decide +kernel)) <|
  am_c (ok_aload_n (k := 0) (by decide +kernel) rfl) <|
  am_c (ok_get (by decide +kernel) (by decide +kernel) rfl (by decide +kernel) kw_417) <|
  am_c (ok_aload_n (k := 0) (by decide +kernel) rfl) <|
  am_c (ok_get (by decide +kernel) (by decide +kernel) rfl (by decide +kernel) kw_472) <|
  am_c (ok_iload_n (k := 1) (by decide +kernel) rfl) <|
  am_c (ok_zast (by decide +kernel)) <|
  am_c (ok_aload_n (k := 0) (by decide +kernel) rfl) <|
  am_c (ok_get (by decide +kernel) (by decide +kernel) rfl (by decide +kernel) kw_418) <|
  am_c (ok_aload_n (k := 0) (by decide +kernel) rfl) <|
  am_c (ok_get (by decide +kernel) (by decide +kernel) rfl (by decide +kernel) kw_472) <|
  am_c (ok_iconst (z := 0) (by decide +kernel) (by decide +kernel)) <|
  am_c (ok_iast (by decide +kernel)) <|
  am_c (ok_iconst (z := 0) (by decide +kernel) (by decide +kernel)) <|
  am_c (ok_istore_n (k := 3) (by decide +kernel) rfl) <|
  am_c (ok_iload_n (k := 3) (by decide +kernel) rfl) <|
  am_c (ok_aload_n (k := 0) (by decide +kernel) rfl) <|
  am_c (ok_get (by decide +kernel) (by decide +kernel) rfl (by decide +kernel) kw_492) <|
  am_c (ok_icmpge (off := 29) (by decide +kernel) (by decide +kernel)) <|
  am_c (ok_aload_n (k := 0) (by decide +kernel) rfl) <|
  am_c (ok_get (by decide +kernel) (by decide +kernel) rfl (by decide +kernel) kw_414) <|
  am_c (ok_bipush (z := 11) (by decide +kernel) (by decide +kernel)) <|
  am_c (ok_aload_n (k := 0) (by decide +kernel) rfl) <|
  am_c (ok_get (by decide +kernel) (by decide +kernel) rfl (by decide +kernel) kw_472) <|
  am_n
def k_c101_2 : List (Nat × am_A) := [(84, ac_ii (fun x y => x * y) 85), (85, ac_iload 3 86), (86, ac_ii (fun x y => x + y) 87), (87, ac_aload 0 88), (88, ac_get 2 6 17 91), (91, ac_iload 3 92), (92, ac_iald 0 93), (93, ac_iast 94), (94, ac_iinc 3 1 97), (97, ac_goto 66), (100, ac_aload 0 101), (101, ac_dup 102), (102, ac_get 0 6 11 105), (105, ac_push (.int 1) 106), (106, ac_ii (fun x y => x + y) 107), (107, ac_putI 6 11 110), (110, ac_push (.int 4096) 113), (113, ac_aload 0 114), (114, ac_get 0 6 11 117), (117, ac_ii (fun x y => x + y) 118), (118, ac_push (.int 1) 119), (119, ac_ii (fun x y => x - y) 120), (120, ac_iret)]
theorem k_p101_2 : ∀ q ∈ k_c101_2, am_Ok k_nm D cA B0 sb H00 (k_Th B0 sb H00) prog_8_method_12_code "TokenMouthModel" "named" [] (some .int) q.1 q.2 :=
  am_c (ok_imul (by decide +kernel)) <|
  am_c (ok_iload_n (k := 3) (by decide +kernel) rfl) <|
  am_c (ok_iadd (by decide +kernel)) <|
  am_c (ok_aload_n (k := 0) (by decide +kernel) rfl) <|
  am_c (ok_get (by decide +kernel) (by decide +kernel) rfl (by decide +kernel) kw_419) <|
  am_c (ok_iload_n (k := 3) (by decide +kernel) rfl) <|
  am_c (ok_iald (by decide +kernel)) <|
  am_c (ok_iast (by decide +kernel)) <|
  am_c (ok_iinc (z := 1) (by decide +kernel) (by decide +kernel)) <|
  am_c (ok_goto (off := -31) (by decide +kernel) (by decide +kernel)) <|
  am_c (ok_aload_n (k := 0) (by decide +kernel) rfl) <|
  am_c (ok_dup (by decide +kernel)) <|
  am_c (ok_get (by decide +kernel) (by decide +kernel) rfl (by decide +kernel) kw_472) <|
  am_c (ok_iconst (z := 1) (by decide +kernel) (by decide +kernel)) <|
  am_c (ok_iadd (by decide +kernel)) <|
  am_c (ok_putI (by decide +kernel) (by decide +kernel) rfl (by decide +kernel) kw_472 rfl) <|
  am_c (ok_sipush (z := 4096) (by decide +kernel) (by decide +kernel)) <|
  am_c (ok_aload_n (k := 0) (by decide +kernel) rfl) <|
  am_c (ok_get (by decide +kernel) (by decide +kernel) rfl (by decide +kernel) kw_472) <|
  am_c (ok_iadd (by decide +kernel)) <|
  am_c (ok_iconst (z := 1) (by decide +kernel) (by decide +kernel)) <|
  am_c (ok_isub (by decide +kernel)) <|
  am_c (ok_iret (by decide +kernel) rfl) <|
  am_n
def k_t101 : List (Nat × List (Nat × am_A)) := [(40, k_c101_0), (81, k_c101_1), (120, k_c101_2)]
theorem k_o101 : ∀ c ∈ k_t101, ∀ q ∈ c.2, am_Ok k_nm D cA B0 sb H00 (k_Th B0 sb H00) prog_8_method_12_code "TokenMouthModel" "named" [] (some .int) q.1 q.2 := am_cc (P := fun pc a => am_Ok k_nm D cA B0 sb H00 (k_Th B0 sb H00) prog_8_method_12_code "TokenMouthModel" "named" [] (some .int) pc a) k_p101_0 <| am_cc (P := fun pc a => am_Ok k_nm D cA B0 sb H00 (k_Th B0 sb H00) prog_8_method_12_code "TokenMouthModel" "named" [] (some .int) pc a) k_p101_1 <| am_cc (P := fun pc a => am_Ok k_nm D cA B0 sb H00 (k_Th B0 sb H00) prog_8_method_12_code "TokenMouthModel" "named" [] (some .int) pc a) k_p101_2 <| am_cn0
-- 102: TokenMouthModel.readName()I
def k_c102_0 : List (Nat × am_A) := [(0, ac_aload 0 1), (1, ac_get 0 6 3 4), (4, ac_aload 0 5), (5, ac_get 0 6 1 8), (8, ac_if2 (fun x y => ¬ x = y) 17 11), (11, ac_aload 0 12), (12, ac_push (.int 3) 13), (13, ac_callV 6 98 2 16 am_nohd), (16, ac_iret), (17, ac_aload 0 18), (18, ac_push (.int 0) 19), (19, ac_putI 6 16 22), (22, ac_aload 0 23), (23, ac_aload 0 24), (24, ac_get 2 6 2 27), (27, ac_aload 0 28), (28, ac_get 0 6 3 31), (31, ac_iald 0 32), (32, ac_callV 6 99 2 35 am_nohd), (35, ac_aload 0 36), (36, ac_get 2 6 8 39), (39, ac_aload 0 40), (40, ac_get 2 6 2 43), (43, ac_aload 0 44)]
theorem k_p102_0 : ∀ q ∈ k_c102_0, am_Ok k_nm D cA B0 sb H00 (k_Th B0 sb H00) prog_8_method_13_code "TokenMouthModel" "readName" [] (some .int) q.1 q.2 :=
  am_c (ok_aload_n (k := 0) (by decide +kernel) rfl) <|
  am_c (ok_get (by decide +kernel) (by decide +kernel) rfl (by decide +kernel) kw_474) <|
  am_c (ok_aload_n (k := 0) (by decide +kernel) rfl) <|
  am_c (ok_get (by decide +kernel) (by decide +kernel) rfl (by decide +kernel) kw_491) <|
  am_c (ok_icmpne (off := 9) (by decide +kernel) (by decide +kernel)) <|
  am_c (ok_aload_n (k := 0) (by decide +kernel) rfl) <|
  am_c (ok_iconst (z := 3) (by decide +kernel) (by decide +kernel)) <|
  am_c (ok_callV (by decide +kernel) (by decide +kernel) kw_498 kw_499 kw_500 kw_497 (by decide +kernel) (by decide +kernel)) <|
  am_c (ok_iret (by decide +kernel) rfl) <|
  am_c (ok_aload_n (k := 0) (by decide +kernel) rfl) <|
  am_c (ok_iconst (z := 0) (by decide +kernel) (by decide +kernel)) <|
  am_c (ok_putI (by decide +kernel) (by decide +kernel) rfl (by decide +kernel) kw_492 rfl) <|
  am_c (ok_aload_n (k := 0) (by decide +kernel) rfl) <|
  am_c (ok_aload_n (k := 0) (by decide +kernel) rfl) <|
  am_c (ok_get (by decide +kernel) (by decide +kernel) rfl (by decide +kernel) kw_411) <|
  am_c (ok_aload_n (k := 0) (by decide +kernel) rfl) <|
  am_c (ok_get (by decide +kernel) (by decide +kernel) rfl (by decide +kernel) kw_474) <|
  am_c (ok_iald (by decide +kernel)) <|
  am_c (ok_callV (by decide +kernel) (by decide +kernel) kw_502 kw_503 kw_504 kw_501 (by decide +kernel) (by decide +kernel)) <|
  am_c (ok_aload_n (k := 0) (by decide +kernel) rfl) <|
  am_c (ok_get (by decide +kernel) (by decide +kernel) rfl (by decide +kernel) kw_412) <|
  am_c (ok_aload_n (k := 0) (by decide +kernel) rfl) <|
  am_c (ok_get (by decide +kernel) (by decide +kernel) rfl (by decide +kernel) kw_411) <|
  am_c (ok_aload_n (k := 0) (by decide +kernel) rfl) <|
  am_n
def k_c102_1 : List (Nat × am_A) := [(44, ac_get 0 6 3 47), (47, ac_iald 0 48), (48, ac_iald 0 49), (49, ac_istore 1 50), (50, ac_aload 0 51), (51, ac_dup 52), (52, ac_get 0 6 3 55), (55, ac_push (.int 1) 56), (56, ac_ii (fun x y => x + y) 57), (57, ac_putI 6 3 60), (60, ac_iload 1 61), (61, ac_push (.int 11) 63), (63, ac_if2 (fun x y => ¬ x = y) 134 66), (66, ac_aload 0 67), (67, ac_get 0 6 3 70), (70, ac_aload 0 71), (71, ac_get 0 6 1 74), (74, ac_if2 (fun x y => y ≤ x) 134 77), (77, ac_aload 0 78), (78, ac_get 2 6 8 81), (81, ac_aload 0 82), (82, ac_get 2 6 2 85), (85, ac_aload 0 86), (86, ac_get 0 6 3 89)]
theorem k_p102_1 : ∀ q ∈ k_c102_1, am_Ok k_nm D cA B0 sb H00 (k_Th B0 sb H00) prog_8_method_13_code "TokenMouthModel" "readName" [] (some .int) q.1 q.2 :=
  am_c (ok_get (by decide +kernel) (by decide +kernel) rfl (by decide +kernel) kw_474) <|
  am_c (ok_iald (by decide +kernel)) <|
  am_c (ok_iald (by decide +kernel)) <|
  am_c (ok_istore_n (k := 1) (by decide +kernel) rfl) <|
  am_c (ok_aload_n (k := 0) (by decide +kernel) rfl) <|
  am_c (ok_dup (by decide +kernel)) <|
  am_c (ok_get (by decide +kernel) (by decide +kernel) rfl (by decide +kernel) kw_474) <|
  am_c (ok_iconst (z := 1) (by decide +kernel) (by decide +kernel)) <|
  am_c (ok_iadd (by decide +kernel)) <|
  am_c (ok_putI (by decide +kernel) (by decide +kernel) rfl (by decide +kernel) kw_474 rfl) <|
  am_c (ok_iload_n (k := 1) (by decide +kernel) rfl) <|
  am_c (ok_bipush (z := 11) (by decide +kernel) (by decide +kernel)) <|
  am_c (ok_icmpne (off := 71) (by decide +kernel) (by decide +kernel)) <|
  am_c (ok_aload_n (k := 0) (by decide +kernel) rfl) <|
  am_c (ok_get (by decide +kernel) (by decide +kernel) rfl (by decide +kernel) kw_474) <|
  am_c (ok_aload_n (k := 0) (by decide +kernel) rfl) <|
  am_c (ok_get (by decide +kernel) (by decide +kernel) rfl (by decide +kernel) kw_491) <|
  am_c (ok_icmpge (off := 60) (by decide +kernel) (by decide +kernel)) <|
  am_c (ok_aload_n (k := 0) (by decide +kernel) rfl) <|
  am_c (ok_get (by decide +kernel) (by decide +kernel) rfl (by decide +kernel) kw_412) <|
  am_c (ok_aload_n (k := 0) (by decide +kernel) rfl) <|
  am_c (ok_get (by decide +kernel) (by decide +kernel) rfl (by decide +kernel) kw_411) <|
  am_c (ok_aload_n (k := 0) (by decide +kernel) rfl) <|
  am_c (ok_get (by decide +kernel) (by decide +kernel) rfl (by decide +kernel) kw_474) <|
  am_n
def k_c102_2 : List (Nat × am_A) := [(89, ac_iald 0 90), (90, ac_iald 0 91), (91, ac_push (.int 11) 93), (93, ac_if2 (fun x y => ¬ x = y) 134 96), (96, ac_aload 0 97), (97, ac_aload 0 98), (98, ac_get 2 6 2 101), (101, ac_aload 0 102), (102, ac_get 0 6 3 105), (105, ac_iald 0 106), (106, ac_callV 6 99 2 109 am_nohd), (109, ac_aload 0 110), (110, ac_dup 111), (111, ac_get 0 6 3 114), (114, ac_push (.int 1) 115), (115, ac_ii (fun x y => x + y) 116), (116, ac_putI 6 3 119), (119, ac_aload 0 120), (120, ac_get 0 6 16 123), (123, ac_push (.int 12) 125), (125, ac_if2 (fun x y => ¬ x = y) 60 128), (128, ac_aload 0 129), (129, ac_push (.int 5) 130), (130, ac_callV 6 98 2 133 am_nohd)]
theorem k_p102_2 : ∀ q ∈ k_c102_2, am_Ok k_nm D cA B0 sb H00 (k_Th B0 sb H00) prog_8_method_13_code "TokenMouthModel" "readName" [] (some .int) q.1 q.2 :=
  am_c (ok_iald (by decide +kernel)) <|
  am_c (ok_iald (by decide +kernel)) <|
  am_c (ok_bipush (z := 11) (by decide +kernel) (by decide +kernel)) <|
  am_c (ok_icmpne (off := 41) (by decide +kernel) (by decide +kernel)) <|
  am_c (ok_aload_n (k := 0) (by decide +kernel) rfl) <|
  am_c (ok_aload_n (k := 0) (by decide +kernel) rfl) <|
  am_c (ok_get (by decide +kernel) (by decide +kernel) rfl (by decide +kernel) kw_411) <|
  am_c (ok_aload_n (k := 0) (by decide +kernel) rfl) <|
  am_c (ok_get (by decide +kernel) (by decide +kernel) rfl (by decide +kernel) kw_474) <|
  am_c (ok_iald (by decide +kernel)) <|
  am_c (ok_callV (by decide +kernel) (by decide +kernel) kw_502 kw_503 kw_504 kw_501 (by decide +kernel) (by decide +kernel)) <|
  am_c (ok_aload_n (k := 0) (by decide +kernel) rfl) <|
  am_c (ok_dup (by decide +kernel)) <|
  am_c (ok_get (by decide +kernel) (by decide +kernel) rfl (by decide +kernel) kw_474) <|
  am_c (ok_iconst (z := 1) (by decide +kernel) (by decide +kernel)) <|
  am_c (ok_iadd (by decide +kernel)) <|
  am_c (ok_putI (by decide +kernel) (by decide +kernel) rfl (by decide +kernel) kw_474 rfl) <|
  am_c (ok_aload_n (k := 0) (by decide +kernel) rfl) <|
  am_c (ok_get (by decide +kernel) (by decide +kernel) rfl (by decide +kernel) kw_492) <|
  am_c (ok_bipush (z := 12) (by decide +kernel) (by decide +kernel)) <|
  am_c (ok_icmpne (off := -65) (by decide +kernel) (by decide +kernel)) <|
  am_c (ok_aload_n (k := 0) (by decide +kernel) rfl) <|
  am_c (ok_iconst (z := 5) (by decide +kernel) (by decide +kernel)) <|
  am_c (ok_callV (by decide +kernel) (by decide +kernel) kw_498 kw_499 kw_500 kw_497 (by decide +kernel) (by decide +kernel)) <|
  am_n
def k_c102_3 : List (Nat × am_A) := [(133, ac_iret), (134, ac_aload 0 135), (135, ac_iload 1 136), (136, ac_push (.int 11) 138), (138, ac_if2 (fun x y => x = y) 147 141), (141, ac_iload 1 142), (142, ac_push (.int 10) 144), (144, ac_if2 (fun x y => ¬ x = y) 151 147), (147, ac_push (.int 2) 148), (148, ac_goto 152), (151, ac_push (.int 1) 152), (152, ac_putI 6 4 155), (155, ac_aload 0 156), (156, ac_push (.int 0) 157), (157, ac_callV 6 101 2 160 am_nohd), (160, ac_iret)]
theorem k_p102_3 : ∀ q ∈ k_c102_3, am_Ok k_nm D cA B0 sb H00 (k_Th B0 sb H00) prog_8_method_13_code "TokenMouthModel" "readName" [] (some .int) q.1 q.2 :=
  am_c (ok_iret (by decide +kernel) rfl) <|
  am_c (ok_aload_n (k := 0) (by decide +kernel) rfl) <|
  am_c (ok_iload_n (k := 1) (by decide +kernel) rfl) <|
  am_c (ok_bipush (z := 11) (by decide +kernel) (by decide +kernel)) <|
  am_c (ok_icmpeq (off := 9) (by decide +kernel) (by decide +kernel)) <|
  am_c (ok_iload_n (k := 1) (by decide +kernel) rfl) <|
  am_c (ok_bipush (z := 10) (by decide +kernel) (by decide +kernel)) <|
  am_c (ok_icmpne (off := 7) (by decide +kernel) (by decide +kernel)) <|
  am_c (ok_iconst (z := 2) (by decide +kernel) (by decide +kernel)) <|
  am_c (ok_goto (off := 4) (by decide +kernel) (by decide +kernel)) <|
  am_c (ok_iconst (z := 1) (by decide +kernel) (by decide +kernel)) <|
  am_c (ok_putI (by decide +kernel) (by decide +kernel) rfl (by decide +kernel) kw_475 rfl) <|
  am_c (ok_aload_n (k := 0) (by decide +kernel) rfl) <|
  am_c (ok_iconst (z := 0) (by decide +kernel) (by decide +kernel)) <|
  am_c (ok_callV (by decide +kernel) (by decide +kernel) kw_506 kw_507 kw_508 kw_505 (by decide +kernel) (by decide +kernel)) <|
  am_c (ok_iret (by decide +kernel) rfl) <|
  am_n
def k_t102 : List (Nat × List (Nat × am_A)) := [(43, k_c102_0), (86, k_c102_1), (130, k_c102_2), (160, k_c102_3)]
theorem k_o102 : ∀ c ∈ k_t102, ∀ q ∈ c.2, am_Ok k_nm D cA B0 sb H00 (k_Th B0 sb H00) prog_8_method_13_code "TokenMouthModel" "readName" [] (some .int) q.1 q.2 := am_cc (P := fun pc a => am_Ok k_nm D cA B0 sb H00 (k_Th B0 sb H00) prog_8_method_13_code "TokenMouthModel" "readName" [] (some .int) pc a) k_p102_0 <| am_cc (P := fun pc a => am_Ok k_nm D cA B0 sb H00 (k_Th B0 sb H00) prog_8_method_13_code "TokenMouthModel" "readName" [] (some .int) pc a) k_p102_1 <| am_cc (P := fun pc a => am_Ok k_nm D cA B0 sb H00 (k_Th B0 sb H00) prog_8_method_13_code "TokenMouthModel" "readName" [] (some .int) pc a) k_p102_2 <| am_cc (P := fun pc a => am_Ok k_nm D cA B0 sb H00 (k_Th B0 sb H00) prog_8_method_13_code "TokenMouthModel" "readName" [] (some .int) pc a) k_p102_3 <| am_cn0
end
