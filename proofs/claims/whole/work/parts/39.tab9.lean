/-! tables of the methods 162 to 162; printed by wip/whole/emit.py -/
section
variable {D : va_G} {cA : Nat → ClassId} {B0 sb : Nat} {H00 : Heap} {Th : State → Prop}
-- 162: java/util/Arrays.fill([II)V
def k_c162_0 : List (Nat × am_A) := [(0, ac_push (.int 0) 1), (1, ac_istore 2 2), (2, ac_aload 0 3), (3, ac_alen 4), (4, ac_istore 3 5), (5, ac_iload 2 6), (6, ac_iload 3 7), (7, ac_if2 (fun x y => y ≤ x) 20 10), (10, ac_aload 0 11), (11, ac_iload 2 12), (12, ac_iload 1 13), (13, ac_iast 14), (14, ac_iinc 2 1 17), (17, ac_goto 5), (20, ac_ret)]
theorem k_p162_0 : ∀ q ∈ k_c162_0, am_Ok k_nm D cA B0 sb H00 Th prog_20_method_103_code "java/util/Arrays" "fill" [] none q.1 q.2 :=
  am_c (ok_iconst (z := 0) (by decide +kernel) (by decide +kernel)) <|
  am_c (ok_istore_n (k := 2) (by decide +kernel) rfl) <|
  am_c (ok_aload_n (k := 0) (by decide +kernel) rfl) <|
  am_c (ok_alen (by decide +kernel)) <|
  am_c (ok_istore_n (k := 3) (by decide +kernel) rfl) <|
  am_c (ok_iload_n (k := 2) (by decide +kernel) rfl) <|
  am_c (ok_iload_n (k := 3) (by decide +kernel) rfl) <|
  am_c (ok_icmpge (off := 13) (by decide +kernel) (by decide +kernel)) <|
  am_c (ok_aload_n (k := 0) (by decide +kernel) rfl) <|
  am_c (ok_iload_n (k := 2) (by decide +kernel) rfl) <|
  am_c (ok_iload_n (k := 1) (by decide +kernel) rfl) <|
  am_c (ok_iast (by decide +kernel)) <|
  am_c (ok_iinc (z := 1) (by decide +kernel) (by decide +kernel)) <|
  am_c (ok_goto (off := -12) (by decide +kernel) (by decide +kernel)) <|
  am_c (ok_ret (by decide +kernel) rfl) <|
  am_n
def k_t162 : List (Nat × List (Nat × am_A)) := [(20, k_c162_0)]
theorem k_o162 : ∀ c ∈ k_t162, ∀ q ∈ c.2, am_Ok k_nm D cA B0 sb H00 Th prog_20_method_103_code "java/util/Arrays" "fill" [] none q.1 q.2 := am_cc (P := fun pc a => am_Ok k_nm D cA B0 sb H00 Th prog_20_method_103_code "java/util/Arrays" "fill" [] none pc a) k_p162_0 <| am_cn0
end
