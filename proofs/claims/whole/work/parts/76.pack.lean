/-! names as two longs (the wb_ rows are pasted from the kit's laws) -/
theorem wb_tb (n : Nat) : (lN n).toBitVec = BitVec.ofNat 64 n := rfl
theorem wb_inj {a b : Int64} (h : a.toBitVec = b.toBitVec) : a = b := Int64.toBitVec_inj.mp h
theorem wb_tn {n : Nat} (h : n < 2 ^ 64) : (lN n).toBitVec.toNat = n := by rw [wb_tb, BitVec.toNat_ofNat, Nat.mod_eq_of_lt h]
theorem wb_of (x : Int64) : ∃ n, n < 2 ^ 64 ∧ x = lN n := ⟨x.toBitVec.toNat, x.toBitVec.isLt, wb_inj (by rw [wb_tb]; simp)⟩
theorem wb_of32 (x : Int32) : ∃ n, n < 2 ^ 32 ∧ x = nI n := ⟨x.toBitVec.toNat, x.toBitVec.isLt, Int32.toBitVec_inj.mp (by show _ = BitVec.ofNat 32 _; simp)⟩
theorem wb_c : ∀ k, k < 64 → ((nI k).toInt64 &&& 63) = lN k := by decide +kernel
theorem wb_cu : ∀ k, k < 64 → ((nI k).toInt64.toUInt64 &&& Int64.toUInt64 63) = UInt64.ofNat k := by decide +kernel
theorem wb_sm : ∀ k, k < 64 → (BitVec.ofNat 64 k).smod 64 = BitVec.ofNat 64 k := by decide +kernel
theorem wb_pw {a b : Nat} (h : a ≤ b) : 2 ^ b = 2 ^ a * 2 ^ (b - a) := by rw [← Nat.pow_add]; congr 1; omega
theorem wb_lt2 {a b : Nat} (h : a < b) : 2 ^ a < 2 ^ b := Nat.pow_lt_pow_right (by decide) h
theorem wb_mod (n : Nat) : lN n = lN (n % 2 ^ 64) := wb_inj (by rw [wb_tb, wb_tb]; apply BitVec.eq_of_toNat_eq; rw [BitVec.toNat_ofNat, BitVec.toNat_ofNat, Nat.mod_mod])
theorem wb_shr {n k : Nat} (hn : n < 2 ^ 64) (hk : k < 64) : ((lN n).toUInt64 >>> ((nI k).toInt64.toUInt64 &&& Int64.toUInt64 63)).toInt64 = lN (n / 2 ^ k) := by
  rw [wb_cu k hk]
  apply wb_inj
  apply BitVec.eq_of_toNat_eq
  show ((lN n).toUInt64 >>> UInt64.ofNat k).toNat = (BitVec.ofNat 64 _).toNat
  have h1 : (UInt64.ofNat k).toNat = k := by
    show (BitVec.ofNat 64 k).toNat = k
    rw [BitVec.toNat_ofNat, Nat.mod_eq_of_lt (by omega)]
  have h2 : (lN n).toUInt64.toNat = n := wb_tn hn
  rw [UInt64.toNat_shiftRight, h1, h2, Nat.mod_eq_of_lt hk, Nat.shiftRight_eq_div_pow, BitVec.toNat_ofNat, Nat.mod_eq_of_lt (Nat.lt_of_le_of_lt (Nat.div_le_self _ _) hn)]
theorem wb_shl (n : Nat) {k : Nat} (hk : k < 64) : lN n <<< ((nI k).toInt64 &&& 63) = lN (n * 2 ^ k) := by
  rw [wb_c k hk]
  apply wb_inj
  rw [Int64.toBitVec_shiftLeft, wb_tb, wb_tb, wb_tb, wb_sm k hk]
  apply BitVec.eq_of_toNat_eq
  rw [BitVec.shiftLeft_eq', BitVec.toNat_shiftLeft, BitVec.toNat_ofNat, BitVec.toNat_ofNat, BitVec.toNat_ofNat, Nat.mod_eq_of_lt (show k < 2 ^ 64 by omega), Nat.shiftLeft_eq, Nat.mul_mod, Nat.mod_mod, ← Nat.mul_mod]
theorem wb_and {a b : Nat} (ha : a < 2 ^ 64) (hb : b < 2 ^ 64) : lN a &&& lN b = lN (a &&& b) := by
  apply wb_inj
  rw [Int64.toBitVec_and, wb_tb, wb_tb, wb_tb]
  apply BitVec.eq_of_toNat_eq
  rw [BitVec.toNat_and, BitVec.toNat_ofNat, BitVec.toNat_ofNat, BitVec.toNat_ofNat, Nat.mod_eq_of_lt ha, Nat.mod_eq_of_lt hb, Nat.mod_eq_of_lt (Nat.and_lt_two_pow _ hb)]
theorem wb_or {a b : Nat} (ha : a < 2 ^ 64) (hb : b < 2 ^ 64) : lN a ||| lN b = lN (a ||| b) := by
  apply wb_inj
  rw [Int64.toBitVec_or, wb_tb, wb_tb, wb_tb]
  apply BitVec.eq_of_toNat_eq
  rw [BitVec.toNat_or, BitVec.toNat_ofNat, BitVec.toNat_ofNat, BitVec.toNat_ofNat, Nat.mod_eq_of_lt ha, Nat.mod_eq_of_lt hb, Nat.mod_eq_of_lt (Nat.or_lt_two_pow ha hb)]
theorem wb_mask {n k : Nat} (hn : n < 2 ^ 64) (hk : k < 64) : lN n &&& lN (2 ^ k - 1) = lN (n % 2 ^ k) := by
  rw [wb_and hn (by have := wb_lt2 hk; omega), Nat.and_two_pow_sub_one_eq_mod]

theorem y_rind {P : List Int → Prop} (h0 : P []) (h1 : ∀ t a, P t → P (t ++ [a])) : ∀ l, P l := by
  have h : ∀ r : List Int, P r.reverse := by
    intro r
    induction r with
    | nil => exact h0
    | cons a t ih => rw [List.reverse_cons]; exact h1 _ _ ih
  intro l
  rw [← List.reverse_reverse l]
  exact h _
theorem y_cmp0 (x y : Int64) : z_cmp x y = 0 ↔ x = y := by
  unfold z_cmp
  rw [← lg_cmp_eq, ← Int32.toInt_inj]
  exact Iff.rfl
theorem y_i8 : z_i 8 = nI 8 := by decide
theorem y_i56 : z_i 56 = nI 56 := by decide
theorem y_ilN {c : Int} (h0 : 0 ≤ c) (h : c < 256) : z_il c = lN c.toNat := by
  obtain ⟨b, rfl⟩ : ∃ b : Nat, c = (b : Int) := ⟨c.toNat, by omega⟩
  unfold z_il
  rw [z_i_nat, nI_l (by omega)]
  rfl
theorem y_lNe {a b : Nat} (h : a % 18446744073709551616 = b % 18446744073709551616) : lN a = lN b := by rw [wb_mod a, wb_mod b]; exact congrArg lN h
theorem y_lNi {a b : Nat} (h : lN a = lN b) : a % 18446744073709551616 = b % 18446744073709551616 := by
  have := congrArg (fun x => x.toBitVec.toNat) h
  exact this
theorem y_or8 (a : Nat) {b : Nat} (hb : b < 256) : z_shl (lN a) 8 ||| lN b = lN (a * 256 + b) := by
  unfold z_shl
  rw [y_i8, wb_shl a (by decide)]
  have e : lN (a * 2 ^ 8) = lN (2 ^ 8 * (a % 72057594037927936)) := y_lNe (by omega)
  rw [e, wb_or (by omega) (by omega), ← Nat.two_pow_add_eq_or_of_lt (i := 8) hb]
  exact y_lNe (by omega)
theorem y_usr (n : Nat) {k : Nat} {z : Int} (hz : z_i z = nI k) (hk : k < 64) : z_usr (lN n) z = lN (n % 18446744073709551616 / 2 ^ k) := by
  unfold z_usr
  rw [hz, wb_mod n]
  exact wb_shr (Nat.mod_lt _ (by decide)) hk
theorem y_N_snoc (l : List Int) (c : Int) : y_N (l ++ [c]) = y_N l * 256 + c.toNat := by
  unfold y_N
  rw [List.foldl_append]
  rfl
theorem y_hd_snoc (l : List Int) {c : Int} (h0 : 0 ≤ c) (h : c < 256) : z_shl (y_hd l) 8 ||| z_il c = y_hd (l ++ [c]) := by
  unfold y_hd
  rw [y_ilN h0 h, y_or8 _ (by omega), y_N_snoc]
theorem y_tl_snoc (l : List Int) {c : Int} (h0 : 0 ≤ c) (h : c < 256) : z_shl (y_tl (l, false)) 8 ||| z_usr (y_hd l) 56 = y_tl (l ++ [c], false) := by
  show z_shl (lN (y_N l / 18446744073709551616)) 8 ||| z_usr (lN (y_N l)) 56 = lN (y_N (l ++ [c]) / 18446744073709551616)
  rw [y_usr _ y_i56 (by decide), y_or8 _ (by omega), y_N_snoc]
  exact congrArg lN (by omega)
theorem y_hd1 {c : Int} (h0 : 0 ≤ c) (h : c < 256) : z_il c = y_hd [c] := by
  rw [y_ilN h0 h]
  show lN c.toNat = lN (0 * 256 + c.toNat)
  rw [Nat.zero_mul, Nat.zero_add]
theorem y_tl1 {c : Int} (h0 : 0 ≤ c) (h : c < 256) : (0 : Int64) = y_tl ([c], false) := by
  show (0 : Int64) = lN ((0 * 256 + c.toNat) / 18446744073709551616)
  rw [show (0 * 256 + c.toNat) / 18446744073709551616 = 0 by omega]
  rfl
theorem y_hd0 : (0 : Int64) = y_hd [] := rfl
theorem y_tl0 : (0 : Int64) = y_tl ([], false) := rfl
def y_dig (l : List Int) : Prop := ∀ c ∈ l, 1 ≤ c ∧ c ≤ 127
theorem y_dig_code {l : List Int} (h : ∀ c ∈ l, y_code c = true) : y_dig l := fun c hc => by have := y_code_r (h c hc); omega
theorem y_N_lt : ∀ (l : List Int), y_dig l → y_N l < 256 ^ l.length := by
  intro l
  induction l using y_rind with
  | h0 => intro _; decide
  | h1 t a ih =>
    intro h
    have h1 := ih (fun c hc => h c (by simp [hc]))
    have h2 := h a (by simp)
    rw [y_N_snoc, List.length_append, List.length_singleton, Nat.pow_succ]
    omega
theorem y_N_inj : ∀ (l m : List Int), y_dig l → y_dig m → y_N l = y_N m → l = m := by
  intro l
  induction l using y_rind with
  | h0 =>
    intro m _ hm e
    rcases y_snoc m with q | ⟨t, a, rfl⟩
    · exact q.symm
    · rw [y_N_snoc] at e
      have h0 : y_N [] = 0 := rfl
      have := hm a (by simp)
      omega
  | h1 t a ih =>
    intro m hl hm e
    have ha := hl a (by simp)
    rcases y_snoc m with rfl | ⟨u, b, rfl⟩
    · rw [y_N_snoc] at e
      have h0 : y_N [] = 0 := rfl
      omega
    · have hb := hm b (by simp)
      rw [y_N_snoc, y_N_snoc] at e
      have e1 : y_N t = y_N u := by omega
      have e2 : a = b := by omega
      rw [ih u (fun c hc => hl c (by simp [hc])) (fun c hc => hm c (by simp [hc])) e1, e2]
theorem y_N_88 {l : List Int} (hl : l.length ≤ 11) (hd : y_dig l) : y_N l < 309485009821345068724781056 := by
  have h := y_N_lt l hd
  have : 256 ^ l.length ≤ 256 ^ 11 := Nat.pow_le_pow_right (by decide) hl
  omega
theorem y_hd_eq0 {l : List Int} (hl : l.length ≤ 11) (hd : y_dig l) (h : y_hd l = 0) : l = [] := by
  rcases y_snoc l with q | ⟨t, a, rfl⟩
  · exact q
  · have e := y_lNi (a := y_N (t ++ [a])) (b := 0) h
    rw [y_N_snoc] at e
    have := hd a (by simp)
    omega
theorem y_tl_m1 {l : List Int} (hl : l.length ≤ 11) (hd : y_dig l) : y_tl (l, false) ≠ -1 := by
  intro h
  have h' : lN (y_N l / 18446744073709551616) = lN 18446744073709551615 := h
  have e := y_lNi h'
  have := y_N_88 hl hd
  omega
theorem y_pk_inj {q r : List Int × Bool} (hq : y_no q) (hr : y_no r) (h1 : y_hd q.1 = y_hd r.1) (h2 : y_tl q = y_tl r) : q = r := by
  obtain ⟨l, b⟩ := q
  obtain ⟨m, c⟩ := r
  have dl := y_dig_code hq.2.2.1
  have dm := y_dig_code hr.2.2.1
  have nl : y_N l < 309485009821345068724781056 := y_N_88 hq.2.1 dl
  have nm : y_N m < 309485009821345068724781056 := y_N_88 hr.2.1 dm
  have e1 := y_lNi (a := y_N l) (b := y_N m) h1
  cases b with
  | true =>
    cases c with
    | true =>
      have el : l.length = 1 := hq.2.2.2 rfl
      have em : m.length = 1 := hr.2.2.2 rfl
      have a1 := y_N_lt l dl
      have a2 := y_N_lt m dm
      rw [el] at a1
      rw [em] at a2
      rw [y_N_inj l m dl dm (by omega)]
    | false => exact absurd h2.symm (y_tl_m1 hr.2.1 dm)
  | false =>
    cases c with
    | true => exact absurd h2 (y_tl_m1 hq.2.1 dl)
    | false =>
      have e2 := y_lNi (a := y_N l / 18446744073709551616) (b := y_N m / 18446744073709551616) h2
      rw [y_N_inj l m dl dm (by omega)]
theorem y_and_li (n : Nat) : z_and (z_li (lN n)) 255 = ((n % 256 : Nat) : Int) := by
  unfold z_and z_li
  rw [lN_i, z_i_of, pk_and (nI n) 8 (by decide)]
  have e : (nI n).toBitVec.toNat = n % 4294967296 := rfl
  rw [e, z_nI (by omega)]
  omega
theorem y_N_app (l m : List Int) : y_N (l ++ m) = y_N l * 256 ^ m.length + y_N m := by
  induction m using y_rind with
  | h0 => simp; rfl
  | h1 t a ih =>
    rw [← List.append_assoc, y_N_snoc, y_N_snoc, ih, List.length_append, List.length_singleton, Nat.pow_succ, Nat.add_mul, Nat.mul_assoc]
    omega
/-- the name's parts behind and in front of its last eight characters -/
theorem y_split {l : List Int} (hl : l.length ≤ 11) (hd : y_dig l) : ∃ a b, l = a ++ b ∧ b.length ≤ 8 ∧ a.length ≤ 3 ∧ y_hd l = lN (y_N b) ∧ y_tl (l, false) = lN (y_N a) ∧ (a ≠ [] → b.length = 8) := by
  by_cases c : l.length ≤ 8
  · refine ⟨[], l, rfl, c, by simp, rfl, ?_, fun q => absurd rfl q⟩
    show lN (y_N l / 18446744073709551616) = lN 0
    have h := y_N_lt l hd
    have : 256 ^ l.length ≤ 256 ^ 8 := Nat.pow_le_pow_right (by decide) c
    rw [show y_N l / 18446744073709551616 = 0 by omega]
  · refine ⟨l.take (l.length - 8), l.drop (l.length - 8), (List.take_append_drop _ _).symm, by rw [List.length_drop]; omega, by rw [List.length_take]; omega, ?_, ?_, fun _ => by rw [List.length_drop]; omega⟩
    all_goals
      have e : y_N l = y_N (l.take (l.length - 8)) * 18446744073709551616 + y_N (l.drop (l.length - 8)) := by
        have h1 := y_N_app (l.take (l.length - 8)) (l.drop (l.length - 8))
        rw [List.take_append_drop, List.length_drop, show l.length - (l.length - 8) = 8 by omega] at h1
        exact h1
      have h := y_N_lt (l.drop (l.length - 8)) (fun c hc => hd c (List.mem_of_mem_drop hc))
      rw [List.length_drop, show l.length - (l.length - 8) = 8 by omega] at h
    · exact y_lNe (by omega)
    · show lN (y_N l / 18446744073709551616) = _
      exact congrArg lN (by omega)
