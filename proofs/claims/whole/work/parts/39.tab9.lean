/-! tables of the methods 162 to 169; printed by wip/whole/emit.py -/
section
variable {D : va_G} {cA : Nat → ClassId} {B0 : Nat} {sb : Nat → Option Nat} {H00 : Heap}
-- 162: java/util/Arrays.fill([II)V
def k_c162_0 : List (Nat × am_A) := [(0, ac_push (.int 0) 1), (1, ac_istore 2 2), (2, ac_aload 0 3), (3, ac_alen 4), (4, ac_istore 3 5), (5, ac_iload 2 6), (6, ac_iload 3 7), (7, ac_if2 (fun x y => y ≤ x) 20 10), (10, ac_aload 0 11), (11, ac_iload 2 12), (12, ac_iload 1 13), (13, ac_iast 14), (14, ac_iinc 2 1 17), (17, ac_goto 5), (20, ac_ret)]
theorem k_p162_0 : ∀ q ∈ k_c162_0, am_Ok k_nm D cA B0 sb H00 (k_Th B0 sb H00) prog_20_method_103_code "java/util/Arrays" "fill" [] none q.1 q.2 :=
  am_c (ok_iconst (z := 0) (by decide +kernel) (by decide +kernel)) <|
  am_c (ok_istore_n (k := 2) (by decide +kernel) rfl) <|
  am_c (ok_aload_n (k := 0) (by decide +kernel) rfl) <|
  am_c (ok_alen (by decide +kernel)) <|
  am_c (ok_istore_n (k := 3) (by decide +kernel) rfl) <|
  am_c (ok_iload_n (k := 2) (by decide +kernel) rfl) <|
  am_c (ok_iload_n (k := 3) (by decide +kernel) rfl) <|
  am_c (ok_icmpge (off := 13) (by decide +kernel) (by decide +kernel)) <|
  am_c (ok_aload_n (k := 0) (by decide +kernel) rfl) <|
  am_c (ok_iload_n (k := 2) (by decide +kernel) rfl) <|
  am_c (ok_iload_n (k := 1) (by decide +kernel) rfl) <|
  am_c (ok_iast (by decide +kernel)) <|
  am_c (ok_iinc (z := 1) (by decide +kernel) (by decide +kernel)) <|
  am_c (ok_goto (off := -12) (by decide +kernel) (by decide +kernel)) <|
  am_c (ok_ret (by decide +kernel) rfl) <|
  am_n
def k_t162 : List (Nat × List (Nat × am_A)) := [(20, k_c162_0)]
theorem k_o162 : ∀ c ∈ k_t162, ∀ q ∈ c.2, am_Ok k_nm D cA B0 sb H00 (k_Th B0 sb H00) prog_20_method_103_code "java/util/Arrays" "fill" [] none q.1 q.2 := am_cc (P := fun pc a => am_Ok k_nm D cA B0 sb H00 (k_Th B0 sb H00) prog_20_method_103_code "java/util/Arrays" "fill" [] none pc a) k_p162_0 <| am_cn0
-- 163: java/lang/String.length()I
def k_c163_0 : List (Nat × am_A) := [(0, ac_aload 0 1), (1, ac_sval 4), (4, ac_tlen 5), (5, ac_aload 0 6), (6, ac_callX 165 1 9), (9, ac_ii (fun x y => x >>> (y &&& 31)) 10), (10, ac_iret)]
theorem k_p163_0 : ∀ q ∈ k_c163_0, am_Ok k_nm D cA B0 sb H00 (k_Th B0 sb H00) prog_15_method_54_code "java/lang/String" "length" [] (some .int) q.1 q.2 :=
  am_c (ok_aload_n (k := 0) (by decide +kernel) rfl) <|
  am_c (ok_sval (by decide +kernel) kw_779) <|
  am_c (ok_tlen (by decide +kernel)) <|
  am_c (ok_aload_n (k := 0) (by decide +kernel) rfl) <|
  am_c (ok_callX (by decide +kernel) kw_781 kw_782 kw_783 kw_780 (by decide +kernel) (by decide +kernel)) <|
  am_c (ok_ishr (by decide +kernel)) <|
  am_c (ok_iret (by decide +kernel) rfl) <|
  am_n
def k_t163 : List (Nat × List (Nat × am_A)) := [(10, k_c163_0)]
theorem k_o163 : ∀ c ∈ k_t163, ∀ q ∈ c.2, am_Ok k_nm D cA B0 sb H00 (k_Th B0 sb H00) prog_15_method_54_code "java/lang/String" "length" [] (some .int) q.1 q.2 := am_cc (P := fun pc a => am_Ok k_nm D cA B0 sb H00 (k_Th B0 sb H00) prog_15_method_54_code "java/lang/String" "length" [] (some .int) pc a) k_p163_0 <| am_cn0
-- 164: java/lang/String.charAt(I)C
def k_c164_0 : List (Nat × am_A) := [(0, ac_aload 0 1), (1, ac_callX 166 1 4), (4, ac_if1 (fun x => x = 0) 16 7), (7, ac_aload 0 8), (8, ac_sval 11), (11, ac_iload 1 12), (12, ac_callS 168 2 15), (15, ac_nret .char)]
theorem k_p164_0 : ∀ q ∈ k_c164_0, am_Ok k_nm D cA B0 sb H00 (k_Th B0 sb H00) prog_15_method_56_code "java/lang/String" "charAt" [] (some .char) q.1 q.2 :=
  am_c (ok_aload_n (k := 0) (by decide +kernel) rfl) <|
  am_c (ok_callX (by decide +kernel) kw_785 kw_786 kw_787 kw_784 (by decide +kernel) (by decide +kernel)) <|
  am_c (ok_ifeq (off := 12) (by decide +kernel) (by decide +kernel)) <|
  am_c (ok_aload_n (k := 0) (by decide +kernel) rfl) <|
  am_c (ok_sval (by decide +kernel) kw_779) <|
  am_c (ok_iload_n (k := 1) (by decide +kernel) rfl) <|
  am_c (ok_callS (by decide +kernel) kw_790 kw_791 kw_789 kw_788 (by decide +kernel) (by decide +kernel)) <|
  am_c (ok_nret (by decide +kernel) rfl) <|
  am_n
def k_t164 : List (Nat × List (Nat × am_A)) := [(15, k_c164_0)]
theorem k_o164 : ∀ c ∈ k_t164, ∀ q ∈ c.2, am_Ok k_nm D cA B0 sb H00 (k_Th B0 sb H00) prog_15_method_56_code "java/lang/String" "charAt" [] (some .char) q.1 q.2 := am_cc (P := fun pc a => am_Ok k_nm D cA B0 sb H00 (k_Th B0 sb H00) prog_15_method_56_code "java/lang/String" "charAt" [] (some .char) pc a) k_p164_0 <| am_cn0
-- 165: java/lang/String.coder()B
def k_c165_0 : List (Nat × am_A) := [(0, ac_push (.int 1) 3), (3, ac_if1 (fun x => x = 0) 13 6), (6, ac_aload 0 7), (7, ac_scod 10), (10, ac_goto 14), (13, ac_push (.int 1) 14), (14, ac_nret .byte)]
theorem k_p165_0 : ∀ q ∈ k_c165_0, am_Ok k_nm D cA B0 sb H00 (k_Th B0 sb H00) prog_15_method_152_code "java/lang/String" "coder" [] (some .byte) q.1 q.2 :=
  am_c (ok_gets38 (by decide +kernel) kw_792) <|
  am_c (ok_ifeq (off := 10) (by decide +kernel) (by decide +kernel)) <|
  am_c (ok_aload_n (k := 0) (by decide +kernel) rfl) <|
  am_c (ok_scod (by decide +kernel) kw_793) <|
  am_c (ok_goto (off := 4) (by decide +kernel) (by decide +kernel)) <|
  am_c (ok_iconst (z := 1) (by decide +kernel) (by decide +kernel)) <|
  am_c (ok_nret (by decide +kernel) rfl) <|
  am_n
def k_t165 : List (Nat × List (Nat × am_A)) := [(14, k_c165_0)]
theorem k_o165 : ∀ c ∈ k_t165, ∀ q ∈ c.2, am_Ok k_nm D cA B0 sb H00 (k_Th B0 sb H00) prog_15_method_152_code "java/lang/String" "coder" [] (some .byte) q.1 q.2 := am_cc (P := fun pc a => am_Ok k_nm D cA B0 sb H00 (k_Th B0 sb H00) prog_15_method_152_code "java/lang/String" "coder" [] (some .byte) pc a) k_p165_0 <| am_cn0
-- 166: java/lang/String.isLatin1()Z
def k_c166_0 : List (Nat × am_A) := [(0, ac_push (.int 1) 3), (3, ac_if1 (fun x => x = 0) 17 6), (6, ac_aload 0 7), (7, ac_scod 10), (10, ac_if1 (fun x => ¬ x = 0) 17 13), (13, ac_push (.int 1) 14), (14, ac_goto 18), (17, ac_push (.int 0) 18), (18, ac_zret)]
theorem k_p166_0 : ∀ q ∈ k_c166_0, am_Ok k_nm D cA B0 sb H00 (k_Th B0 sb H00) prog_15_method_154_code "java/lang/String" "isLatin1" [] (some .boolean) q.1 q.2 :=
  am_c (ok_gets38 (by decide +kernel) kw_792) <|
  am_c (ok_ifeq (off := 14) (by decide +kernel) (by decide +kernel)) <|
  am_c (ok_aload_n (k := 0) (by decide +kernel) rfl) <|
  am_c (ok_scod (by decide +kernel) kw_793) <|
  am_c (ok_ifne (off := 7) (by decide +kernel) (by decide +kernel)) <|
  am_c (ok_iconst (z := 1) (by decide +kernel) (by decide +kernel)) <|
  am_c (ok_goto (off := 4) (by decide +kernel) (by decide +kernel)) <|
  am_c (ok_iconst (z := 0) (by decide +kernel) (by decide +kernel)) <|
  am_c (ok_zret (by decide +kernel) rfl) <|
  am_n
def k_t166 : List (Nat × List (Nat × am_A)) := [(18, k_c166_0)]
theorem k_o166 : ∀ c ∈ k_t166, ∀ q ∈ c.2, am_Ok k_nm D cA B0 sb H00 (k_Th B0 sb H00) prog_15_method_154_code "java/lang/String" "isLatin1" [] (some .boolean) q.1 q.2 := am_cc (P := fun pc a => am_Ok k_nm D cA B0 sb H00 (k_Th B0 sb H00) prog_15_method_154_code "java/lang/String" "isLatin1" [] (some .boolean) pc a) k_p166_0 <| am_cn0
-- 167: java/lang/String.checkIndex(II)V
def k_c167_0 : List (Nat × am_A) := [(0, ac_iload 0 1), (1, ac_iload 1 2), (2, ac_push (.retAddr 3) 5), (5, ac_callS 169 3 8), (8, ac_pop 9), (9, ac_ret)]
theorem k_p167_0 : ∀ q ∈ k_c167_0, am_Ok k_nm D cA B0 sb H00 (k_Th B0 sb H00) prog_15_method_155_code "java/lang/String" "checkIndex" [] none q.1 q.2 :=
  am_c (ok_iload_n (k := 0) (by decide +kernel) rfl) <|
  am_c (ok_iload_n (k := 1) (by decide +kernel) rfl) <|
  am_c (ok_getsF (by decide +kernel) kw_794) <|
  am_c (ok_callS (by decide +kernel) kw_797 kw_798 kw_796 kw_795 (by decide +kernel) (by decide +kernel)) <|
  am_c (ok_pop (by decide +kernel)) <|
  am_c (ok_ret (by decide +kernel) rfl) <|
  am_n
def k_t167 : List (Nat × List (Nat × am_A)) := [(9, k_c167_0)]
theorem k_o167 : ∀ c ∈ k_t167, ∀ q ∈ c.2, am_Ok k_nm D cA B0 sb H00 (k_Th B0 sb H00) prog_15_method_155_code "java/lang/String" "checkIndex" [] none q.1 q.2 := am_cc (P := fun pc a => am_Ok k_nm D cA B0 sb H00 (k_Th B0 sb H00) prog_15_method_155_code "java/lang/String" "checkIndex" [] none pc a) k_p167_0 <| am_cn0
-- 168: java/lang/StringLatin1.charAt([BI)C
def k_c168_0 : List (Nat × am_A) := [(0, ac_iload 1 1), (1, ac_aload 0 2), (2, ac_tlen 3), (3, ac_callS 167 2 6), (6, ac_aload 0 7), (7, ac_iload 1 8), (8, ac_tbld 9), (9, ac_push (.int 255) 12), (12, ac_ii (fun x y => x &&& y) 13), (13, ac_i1 (fun x => (x.toUInt32 % 65536).toInt32) 14), (14, ac_nret .char)]
theorem k_p168_0 : ∀ q ∈ k_c168_0, am_Ok k_nm D cA B0 sb H00 (k_Th B0 sb H00) prog_16_method_2_code "java/lang/StringLatin1" "charAt" [] (some .char) q.1 q.2 :=
  am_c (ok_iload_n (k := 1) (by decide +kernel) rfl) <|
  am_c (ok_aload_n (k := 0) (by decide +kernel) rfl) <|
  am_c (ok_tlen (by decide +kernel)) <|
  am_c (ok_callS (by decide +kernel) kw_801 kw_802 kw_800 kw_799 (by decide +kernel) (by decide +kernel)) <|
  am_c (ok_aload_n (k := 0) (by decide +kernel) rfl) <|
  am_c (ok_iload_n (k := 1) (by decide +kernel) rfl) <|
  am_c (ok_tbld (by decide +kernel)) <|
  am_c (ok_sipush (z := 255) (by decide +kernel) (by decide +kernel)) <|
  am_c (ok_iand (by decide +kernel)) <|
  am_c (ok_i2c (by decide +kernel)) <|
  am_c (ok_nret (by decide +kernel) rfl) <|
  am_n
def k_t168 : List (Nat × List (Nat × am_A)) := [(14, k_c168_0)]
theorem k_o168 : ∀ c ∈ k_t168, ∀ q ∈ c.2, am_Ok k_nm D cA B0 sb H00 (k_Th B0 sb H00) prog_16_method_2_code "java/lang/StringLatin1" "charAt" [] (some .char) q.1 q.2 := am_cc (P := fun pc a => am_Ok k_nm D cA B0 sb H00 (k_Th B0 sb H00) prog_16_method_2_code "java/lang/StringLatin1" "charAt" [] (some .char) pc a) k_p168_0 <| am_cn0
-- 169: jdk/internal/util/Preconditions.checkIndex(IILjava/util/function/BiFunction;)I
def k_c169_0 : List (Nat × am_A) := [(0, ac_iload 0 1), (1, ac_if1 (fun x => x < 0) 9 4), (4, ac_iload 0 5), (5, ac_iload 1 6), (6, ac_if2 (fun x y => x < y) 16 9), (16, ac_iload 0 17), (17, ac_iret)]
theorem k_p169_0 : ∀ q ∈ k_c169_0, am_Ok k_nm D cA B0 sb H00 (k_Th B0 sb H00) prog_22_method_11_code "jdk/internal/util/Preconditions" "checkIndex" [] (some .int) q.1 q.2 :=
  am_c (ok_iload_n (k := 0) (by decide +kernel) rfl) <|
  am_c (ok_iflt (off := 8) (by decide +kernel) (by decide +kernel)) <|
  am_c (ok_iload_n (k := 0) (by decide +kernel) rfl) <|
  am_c (ok_iload_n (k := 1) (by decide +kernel) rfl) <|
  am_c (ok_icmplt (off := 10) (by decide +kernel) (by decide +kernel)) <|
  am_c (ok_iload_n (k := 0) (by decide +kernel) rfl) <|
  am_c (ok_iret (by decide +kernel) rfl) <|
  am_n
def k_t169 : List (Nat × List (Nat × am_A)) := [(17, k_c169_0)]
theorem k_o169 : ∀ c ∈ k_t169, ∀ q ∈ c.2, am_Ok k_nm D cA B0 sb H00 (k_Th B0 sb H00) prog_22_method_11_code "jdk/internal/util/Preconditions" "checkIndex" [] (some .int) q.1 q.2 := am_cc (P := fun pc a => am_Ok k_nm D cA B0 sb H00 (k_Th B0 sb H00) prog_22_method_11_code "jdk/internal/util/Preconditions" "checkIndex" [] (some .int) pc a) k_p169_0 <| am_cn0
end
