/-! the class's own starts: the categories, the names -/
section CT
variable {d n c s : Nat} {I : Nat → Nat → Int32} {L : Nat → Nat → Int64} {R : Nat → Nat → Option Nat} {Q : am_O → am_M → Prop} {M : am_M}
theorem e_le {k w : Nat} (hk : k ≤ 1000000) (hw : w ≤ 1000000) : z_i (w : Int) ≤ z_i (k : Int) ↔ w ≤ k := by
  rw [z_le (y_rs (by omega) (by omega)) (y_rs (by omega) (by omega))]
  omega
theorem e_lt {k w : Nat} (hk : k ≤ 1000000) (hw : w ≤ 1000000) : z_i (k : Int) < z_i (w : Int) ↔ k < w := by
  rw [z_lt (y_rs (by omega) (by omega)) (y_rs (by omega) (by omega))]
  omega
theorem e_leL {k w : Nat} {v : Int32} (hv : v = z_i (w : Int)) (hk : k ≤ 1000000) (hw : w ≤ 1000000) : v ≤ z_i (k : Int) ↔ w ≤ k := by
  subst hv
  exact e_le hk hw
theorem e_ltL {k w : Nat} {v : Int32} (hv : v = z_i (w : Int)) (hk : k ≤ 1000000) (hw : w ≤ 1000000) : z_i (k : Int) < v ↔ k < w := by
  subst hv
  exact e_lt hk hw
theorem e_inc (k : Nat) : z_i (k : Int) + 1 = z_i ((k + 1 : Nat) : Int) := z_add (k : Int) 1
def e_f12 (k b : Nat) : Int32 := if b < k then 12 else 0
theorem e_f12s (k : Nat) : am_u1 (e_f12 k) k 12 = e_f12 (k + 1) := by
  funext b
  unfold am_u1 e_f12
  by_cases e : b = k
  · rw [if_pos e, if_pos (by omega)]
  · rw [if_neg e]
    by_cases e2 : b < k
    · rw [if_pos e2, if_pos (by omega)]
    · rw [if_neg e2, if_neg (by omega)]
theorem u_fillL (h : Q (.inl none) (e_M 4 n (am_u1 I 3 (e_f12 128)) L R c s)) : ∀ m k : Nat, m + k = 128 → e_w d (k_tb 162) 5 [some (.ref 3), some (.int 12), some (.int (z_i (k : Int))), some (.int (z_i ((128 : Nat) : Int)))] [] (e_M 4 n (am_u1 I 3 (e_f12 k)) L R c s) Q := by
  intro m
  induction m with
  | zero =>
    intro k hk
    obtain rfl : k = 128 := by omega
    refine ew_1 rfl rfl (ew_1 rfl rfl ?_)
    refine ew_b rfl rfl (fun _ => ?_) (fun e => absurd ((e_le (by decide) (by decide)).mpr (Nat.le_refl _)) e)
    exact ew_e rfl rfl trivial h
  | succ m ih =>
    intro k hk
    refine ew_1 rfl rfl (ew_1 rfl rfl ?_)
    refine ew_b rfl rfl (fun e => absurd ((e_le (by omega) (by decide)).mp e) (by omega)) (fun _ => ?_)
    refine ew_1 rfl rfl (ew_1 rfl rfl (ew_1 rfl rfl ?_))
    refine es_iast (w := 128) rfl rfl rfl (by omega) (by decide) (e_u21.trans (by rw [e_f12s])) ?_
    refine ew_1 rfl rfl (ew_1 rfl rfl ?_)
    show e_w d (k_tb 162) 5 [some (.ref 3), some (.int 12), some (.int (z_i (k : Int) + 1)), some (.int (z_i ((128 : Nat) : Int)))] [] _ Q
    rw [e_inc]
    exact ih (k + 1) (by omega)
theorem u_fill (hI : I 3 = fun _ => 0) (h : Q (.inl none) (e_M 4 n (am_u1 I 3 (e_f12 128)) L R c s)) : e_c (d + 1) 162 [.ref 3, .int 12] (e_M 4 n I L R c s) Q := by
  refine e_enter (l0 := [some (.ref 3), some (.int 12), none, none]) (Nat.le_of_ble_eq_true rfl) rfl ?_
  refine ew_1 rfl rfl (ew_1 rfl rfl (ew_1 rfl rfl ?_))
  refine es_alen (kd := 0) (w := 128) rfl rfl (by decide) ?_
  refine ew_1 rfl rfl ?_
  have e : am_u1 I 3 (e_f12 0) = I := e_u1 (by rw [hI]; funext b; unfold e_f12; rw [if_neg (by omega)])
  have := u_fillL (d := d) (n := n) (c := c) (s := s) (I := I) (L := L) (R := R) (Q := Q) h 128 0 rfl
  rw [e] at this
  exact this
def e_f11 (k b : Nat) : Int32 := if (97 ≤ b ∧ b < 97 + k) ∨ (65 ≤ b ∧ b < 65 + k) then 11 else e_f12 128 b
theorem e_f11s (k : Nat) : am_u1 (am_u1 (e_f11 k) (97 + k) 11) (65 + k) 11 = e_f11 (k + 1) := by
  funext b
  unfold am_u1 e_f11
  by_cases e : b = 65 + k
  · rw [if_pos e, if_pos (by omega)]
  · rw [if_neg e]
    by_cases e2 : b = 97 + k
    · rw [if_pos e2, if_pos (by omega)]
    · rw [if_neg e2]
      by_cases e3 : (97 ≤ b ∧ b < 97 + k) ∨ (65 ≤ b ∧ b < 65 + k)
      · rw [if_pos e3, if_pos (by omega)]
      · rw [if_neg e3, if_neg (by omega)]
def e_c3 : Nat → Int32 := (am_u1 (am_u1 (am_u1 (am_u1 (am_u1 (am_u1 (am_u1 (am_u1 (am_u1 (am_u1 (am_u1 (am_u1 (e_f11 26) 92 0) 123 1) 125 2) 36 3) 38 4) 10 5) 35 6) 94 7) 95 8) 32 10) 126 13) 37 14)
theorem e_c3s : ∀ b, b < 128 → (e_c3 b).toInt = y_cat0 b := by decide +kernel
abbrev u_R3 (R : Nat → Nat → Option Nat) : Prop := R 1 1 = some 3
theorem u_catL (hR : R 1 1 = some 3) (h : Q (.inl none) (e_M 4 n (am_u1 I 3 e_c3) L R c s)) : ∀ m k : Nat, m + k = 26 → e_w d (k_tb 17) 26 [some (.ref 1), some (.int (z_i (k : Int)))] [] (e_M 4 n (am_u1 I 3 (e_f11 k)) L R c s) Q := by
  intro m
  induction m with
  | zero =>
    intro k hk
    obtain rfl : k = 26 := by omega
    refine ew_1 rfl rfl (ew_1 rfl rfl ?_)
    refine ew_b rfl rfl (fun _ => ?_) (fun e => absurd (by decide) e)
    refine ew_1 rfl rfl ?_
    refine es_getR rfl rfl hR ?_
    refine ew_1 rfl rfl (ew_1 rfl rfl ?_)
    refine es_iast (w := 128) (j := 92) rfl rfl (by decide) (by decide) (by decide) e_u21 ?_
    refine ew_1 rfl rfl ?_
    refine es_getR rfl rfl hR ?_
    refine ew_1 rfl rfl (ew_1 rfl rfl ?_)
    refine es_iast (w := 128) (j := 123) rfl rfl (by decide) (by decide) (by decide) e_u21 ?_
    refine ew_1 rfl rfl ?_
    refine es_getR rfl rfl hR ?_
    refine ew_1 rfl rfl (ew_1 rfl rfl ?_)
    refine es_iast (w := 128) (j := 125) rfl rfl (by decide) (by decide) (by decide) e_u21 ?_
    refine ew_1 rfl rfl ?_
    refine es_getR rfl rfl hR ?_
    refine ew_1 rfl rfl (ew_1 rfl rfl ?_)
    refine es_iast (w := 128) (j := 36) rfl rfl (by decide) (by decide) (by decide) e_u21 ?_
    refine ew_1 rfl rfl ?_
    refine es_getR rfl rfl hR ?_
    refine ew_1 rfl rfl (ew_1 rfl rfl ?_)
    refine es_iast (w := 128) (j := 38) rfl rfl (by decide) (by decide) (by decide) e_u21 ?_
    refine ew_1 rfl rfl ?_
    refine es_getR rfl rfl hR ?_
    refine ew_1 rfl rfl (ew_1 rfl rfl ?_)
    refine es_iast (w := 128) (j := 10) rfl rfl (by decide) (by decide) (by decide) e_u21 ?_
    refine ew_1 rfl rfl ?_
    refine es_getR rfl rfl hR ?_
    refine ew_1 rfl rfl (ew_1 rfl rfl ?_)
    refine es_iast (w := 128) (j := 35) rfl rfl (by decide) (by decide) (by decide) e_u21 ?_
    refine ew_1 rfl rfl ?_
    refine es_getR rfl rfl hR ?_
    refine ew_1 rfl rfl (ew_1 rfl rfl ?_)
    refine es_iast (w := 128) (j := 94) rfl rfl (by decide) (by decide) (by decide) e_u21 ?_
    refine ew_1 rfl rfl ?_
    refine es_getR rfl rfl hR ?_
    refine ew_1 rfl rfl (ew_1 rfl rfl ?_)
    refine es_iast (w := 128) (j := 95) rfl rfl (by decide) (by decide) (by decide) e_u21 ?_
    refine ew_1 rfl rfl ?_
    refine es_getR rfl rfl hR ?_
    refine ew_1 rfl rfl (ew_1 rfl rfl ?_)
    refine es_iast (w := 128) (j := 32) rfl rfl (by decide) (by decide) (by decide) e_u21 ?_
    refine ew_1 rfl rfl ?_
    refine es_getR rfl rfl hR ?_
    refine ew_1 rfl rfl (ew_1 rfl rfl ?_)
    refine es_iast (w := 128) (j := 126) rfl rfl (by decide) (by decide) (by decide) e_u21 ?_
    refine ew_1 rfl rfl ?_
    refine es_getR rfl rfl hR ?_
    refine ew_1 rfl rfl (ew_1 rfl rfl ?_)
    refine es_iast (w := 128) (j := 37) rfl rfl (by decide) (by decide) (by decide) e_u21 ?_
    exact ew_e rfl rfl trivial h
  | succ m ih =>
    intro k hk
    refine ew_1 rfl rfl (ew_1 rfl rfl ?_)
    refine ew_b rfl rfl (fun e => absurd ((e_leL (w := 26) (by decide) (by omega) (by decide)).mp e) (by omega)) (fun _ => ?_)
    refine ew_1 rfl rfl ?_
    refine es_getR rfl rfl hR ?_
    refine ew_1 rfl rfl (ew_1 rfl rfl (ew_1 rfl rfl (ew_1 rfl rfl ?_)))
    refine es_iast (w := 128) (j := 97 + k) rfl rfl ((z_add 97 (k : Int)).trans (by congr 1)) (by omega) (by decide) e_u21 ?_
    refine ew_1 rfl rfl ?_
    refine es_getR rfl rfl hR ?_
    refine ew_1 rfl rfl (ew_1 rfl rfl (ew_1 rfl rfl (ew_1 rfl rfl ?_)))
    refine es_iast (w := 128) (j := 65 + k) rfl rfl ((z_add 65 (k : Int)).trans (by congr 1)) (by omega) (by decide) (e_u21.trans (by rw [e_f11s])) ?_
    refine ew_1 rfl rfl (ew_1 rfl rfl ?_)
    show e_w d (k_tb 17) 26 [some (.ref 1), some (.int (z_i (k : Int) + 1))] [] _ Q
    rw [e_inc]
    exact ih (k + 1) (by omega)
theorem u_cats (hI1 : I 1 = fun _ => 0) (hI3 : I 3 = fun _ => 0) (hR : R 1 1 = some 3) (h : Q (.inl none) (e_M 4 n (am_u1 I 3 e_c3) L R c s)) : e_c (d + 2) 17 [.ref 1] (e_M 4 n I L R c s) Q := by
  refine e_enter (l0 := [some (.ref 1), none]) (Nat.le_of_ble_eq_true rfl) rfl ?_
  refine ew_1 rfl rfl (ew_1 rfl rfl ?_)
  refine es_putI rfl rfl (e_u20 hI1) ?_
  refine ew_1 rfl rfl (ew_1 rfl rfl ?_)
  refine es_putI rfl rfl (e_u20 hI1) ?_
  refine ew_1 rfl rfl (ew_1 rfl rfl ?_)
  refine es_putI rfl rfl (e_u20 hI1) ?_
  refine ew_1 rfl rfl ?_
  refine es_getR rfl rfl hR ?_
  refine ew_1 rfl rfl ?_
  refine ew_call rfl rfl (u_fill hI3 ?_)
  refine ew_1 rfl rfl (ew_1 rfl rfl ?_)
  have e : e_f11 0 = e_f12 128 := by
    funext b
    unfold e_f11
    rw [if_neg (by omega)]
  have := u_catL (d := d + 1) (n := n) (c := c) (s := s) (I := I) (L := L) (R := R) (Q := Q) hR h 26 0 rfl
  rw [e] at this
  exact this
/-- the names' meanings -/
def e_f7 (k b : Nat) : Int32 := if b < k then (if b < 18 then z_i ((b + 1 : Nat) : Int) else 0) else 0
theorem e_f7s (k : Nat) : am_u1 (e_f7 k) k (if k < 18 then z_i ((k + 1 : Nat) : Int) else 0) = e_f7 (k + 1) := by
  funext b
  unfold am_u1 e_f7
  by_cases e : b = k
  · rw [if_pos e, if_pos (show b < k + 1 by omega), e]
  · rw [if_neg e]
    by_cases e2 : b < k
    · rw [if_pos e2, if_pos (show b < k + 1 by omega)]
    · rw [if_neg e2, if_neg (show ¬ b < k + 1 by omega)]
theorem u_meanL (hR : R 4 2 = some 7) (h : Q (.inl none) (e_M 8 n (am_u1 I 7 (e_f7 118)) L R c s)) : ∀ m k : Nat, m + k = 118 → e_w d (k_tb 8) 8 [some (.ref 4), some (.int (z_i (k : Int)))] [] (e_M 8 n (am_u1 I 7 (e_f7 k)) L R c s) Q := by
  intro m
  induction m with
  | zero =>
    intro k hk
    obtain rfl : k = 118 := by omega
    refine ew_1 rfl rfl (ew_1 rfl rfl ?_)
    refine es_getR rfl rfl hR ?_
    refine es_alen (kd := 0) (w := 118) rfl rfl (by decide) ?_
    refine ew_b rfl rfl (fun _ => ?_) (fun e => absurd ((e_le (by decide) (by decide)).mpr (Nat.le_refl _)) e)
    exact ew_e rfl rfl trivial h
  | succ m ih =>
    intro k hk
    have go : ∀ x : Int32, x = (if k < 18 then z_i ((k + 1 : Nat) : Int) else 0) → e_w d (k_tb 8) 35 [some (.ref 4), some (.int (z_i (k : Int)))] [.int x, .int (z_i (k : Int)), .ref 7] (e_M 8 n (am_u1 I 7 (e_f7 k)) L R c s) Q := by
      intro x hx
      refine es_iast (w := 118) rfl rfl rfl (by omega) (by decide) (e_u21.trans (by rw [hx, e_f7s])) ?_
      refine ew_1 rfl rfl (ew_1 rfl rfl ?_)
      show e_w d (k_tb 8) 8 [some (.ref 4), some (.int (z_i (k : Int) + 1))] [] _ Q
      rw [e_inc]
      exact ih (k + 1) (by omega)
    refine ew_1 rfl rfl (ew_1 rfl rfl ?_)
    refine es_getR rfl rfl hR ?_
    refine es_alen (kd := 0) (w := 118) rfl rfl (by decide) ?_
    refine ew_b rfl rfl (fun e => absurd ((e_le (by omega) (by decide)).mp e) (by omega)) (fun _ => ?_)
    refine ew_1 rfl rfl ?_
    refine es_getR rfl rfl hR ?_
    refine ew_1 rfl rfl (ew_1 rfl rfl (ew_1 rfl rfl ?_))
    refine ew_b rfl rfl (fun e => ?_) (fun e => ?_)
    · have e' := (e_leL (w := 18) (by decide) (by omega) (by decide)).mp e
      refine ew_1 rfl rfl ?_
      exact go 0 (by rw [if_neg (by omega)])
    · have e' : ¬ 18 ≤ k := fun q => e ((e_leL (w := 18) (by decide) (by omega) (by decide)).mpr q)
      refine ew_1 rfl rfl (ew_1 rfl rfl (ew_1 rfl rfl (ew_1 rfl rfl ?_)))
      exact go _ (by rw [if_pos (by omega)]; exact e_inc k)
def e_f4 (z : Int32) (j : Nat) : Int32 := if j = 3 then z else 0
theorem e_f4s (y z : Int32) : am_u1 (e_f4 y) 3 z = e_f4 z := by
  funext b
  unfold am_u1 e_f4
  split <;> rfl
theorem u_means {z : Int32} (hI : I 7 = fun _ => 0) (hR : R 4 2 = some 7) (h : Q (.inl none) (e_M 8 n (am_u1 (am_u1 I 4 (e_f4 18)) 7 (e_f7 118)) L R c s)) : e_c (d + 1) 8 [.ref 4] (e_M 8 n (am_u1 I 4 (e_f4 z)) L R c s) Q := by
  refine e_enter (l0 := [some (.ref 4), none]) (Nat.le_of_ble_eq_true rfl) rfl ?_
  refine ew_1 rfl rfl (ew_1 rfl rfl ?_)
  refine es_putI rfl rfl (e_u21.trans (by rw [e_f4s])) ?_
  refine ew_1 rfl rfl (ew_1 rfl rfl ?_)
  have e : am_u1 (am_u1 I 4 (e_f4 18)) 7 (e_f7 0) = am_u1 I 4 (e_f4 18) := e_u1 (by rw [e_u1o (by decide), hI]; funext b; unfold e_f7; rw [if_neg (by omega)])
  have := u_meanL (d := d) (n := n) (c := c) (s := s) (I := am_u1 I 4 (e_f4 18)) (L := L) (R := R) (Q := Q) hR h 118 0 rfl
  rw [e] at this
  exact this
/-- the text of the commands -/
def e_txt (k : Nat) : Int := ((am_txt.getD k 0 : Nat) : Int)
theorem u_tx : ∀ k, k < 111 → ((Int32.ofNat (am_txt.getD k 0) &&& 255).toUInt32 % 65536).toInt32 = z_i (e_txt k) ∧ (z_i (e_txt k)).toUInt32.toUInt16.toUInt32.toInt32 = z_i (e_txt k) := by decide +kernel
theorem u_len (h : Q (.inl (some (.int 111))) M) : e_c (d + 2) 163 [.retAddr 1] M Q := by
  refine e_enter (l0 := [some (.retAddr 1)]) (Nat.le_of_ble_eq_true rfl) rfl ?_
  repeat (refine ew_1 rfl rfl ?_)
  refine ew_call rfl rfl (e_enter (l0 := [some (.retAddr 1)]) (Nat.le_of_ble_eq_true rfl) rfl ?_)
  repeat (refine ew_1 rfl rfl ?_)
  refine ew_b rfl rfl (fun e => absurd e (by decide)) (fun _ => ?_)
  repeat (refine ew_1 rfl rfl ?_)
  refine ew_e (o := .inl (some (.int 0))) rfl rfl (congrArg Value.int (by decide : (0 : Int32).toInt8.toInt32 = 0)) ?_
  repeat (refine ew_1 rfl rfl ?_)
  have e : (111 : Int32) >>> ((0 : Int32) &&& 31) = 111 := by decide
  show e_w _ _ 10 _ [.int ((111 : Int32) >>> ((0 : Int32) &&& 31))] M Q
  rw [e]
  exact ew_e rfl rfl trivial h
theorem u_char {k : Nat} (hk : k < 111) (h : Q (.inl (some (.int (z_i (e_txt k))))) M) : e_c (d + 4) 164 [.retAddr 1, .int (z_i (k : Int))] M Q := by
  have ek : (z_i (k : Int)).toNatClampNeg = k := by rw [z_nat (by omega) (by omega)]; rfl
  obtain ⟨t1, t2⟩ := u_tx k hk
  refine e_enter (l0 := [some (.retAddr 1), some (.int (z_i (k : Int)))]) (Nat.le_of_ble_eq_true rfl) rfl ?_
  repeat (refine ew_1 rfl rfl ?_)
  refine ew_call rfl rfl (e_enter (l0 := [some (.retAddr 1)]) (Nat.le_of_ble_eq_true rfl) rfl ?_)
  repeat (refine ew_1 rfl rfl ?_)
  refine ew_b rfl rfl (fun e => absurd e (by decide)) (fun _ => ?_)
  repeat (refine ew_1 rfl rfl ?_)
  refine ew_b rfl rfl (fun e => absurd rfl e) (fun _ => ?_)
  repeat (refine ew_1 rfl rfl ?_)
  refine ew_e (o := .inl (some (.int 1))) rfl rfl (Or.inr rfl) ?_
  refine ew_b rfl rfl (fun e => absurd e (by decide)) (fun _ => ?_)
  repeat (refine ew_1 rfl rfl ?_)
  refine ew_call rfl rfl (e_enter (l0 := [some (.retAddr 2), some (.int (z_i (k : Int)))]) (Nat.le_of_ble_eq_true rfl) rfl ?_)
  repeat (refine ew_1 rfl rfl ?_)
  refine ew_call rfl rfl (e_enter (l0 := [some (.int (z_i (k : Int))), some (.int 111)]) (Nat.le_of_ble_eq_true rfl) rfl ?_)
  repeat (refine ew_1 rfl rfl ?_)
  refine ew_call rfl rfl (e_enter (l0 := [some (.int (z_i (k : Int))), some (.int 111), some (.retAddr 3)]) (Nat.le_of_ble_eq_true rfl) rfl ?_)
  repeat (refine ew_1 rfl rfl ?_)
  refine ew_b rfl rfl (fun e => absurd ((e_ltL (k := k) (w := 0) (by decide) (by omega) (by decide)).mp e) (by omega)) (fun _ => ?_)
  repeat (refine ew_1 rfl rfl ?_)
  refine ew_b rfl rfl (fun _ => ?_) (fun e => absurd ((e_ltL (k := k) (w := 111) (by decide) (by omega) (by decide)).mpr hk) e)
  repeat (refine ew_1 rfl rfl ?_)
  refine ew_e (o := .inl (some (.int (z_i (k : Int))))) rfl rfl trivial ?_
  repeat (refine ew_1 rfl rfl ?_)
  refine ew_e (o := .inl none) rfl rfl trivial ?_
  repeat (refine ew_1 rfl rfl ?_)
  refine ew_c rfl rfl (z_in (by omega) (by omega) (by decide)) ?_
  show e_w _ _ 9 _ [.int (Int32.ofNat (am_txt.getD (z_i (k : Int)).toNatClampNeg 0))] M _
  rw [ek]
  repeat (refine ew_1 rfl rfl ?_)
  show e_w _ _ 14 _ [.int ((Int32.ofNat (am_txt.getD k 0) &&& 255).toUInt32 % 65536).toInt32] M _
  rw [t1]
  refine ew_e (o := .inl (some (.int (z_i (e_txt k))))) rfl rfl (congrArg Value.int t2) ?_
  exact ew_e rfl rfl (congrArg Value.int t2) h
def e_cut (q : List (List Int) × List Int) (x : Int) : List (List Int) × List Int := if x = 32 then (q.1 ++ [q.2], []) else (q.1, q.2 ++ [x])
def e_fd (k : Nat) : List (List Int) × List Int := (am_txt.take k).foldl (fun q x => e_cut q ((x : Nat) : Int)) ([], [])
theorem e_fd_s : ∀ k, k < 111 → e_fd (k + 1) = e_cut (e_fd k) (e_txt k) ∧ 0 ≤ e_txt k ∧ e_txt k < 256 ∧ (e_fd k).1.length < 100 := by decide +kernel
theorem e_fd_e : e_fd 111 = (y_cmds.map (fun q => q.1), []) := by decide +kernel
def e_hf (ds : List (List Int)) (j : Nat) : Int64 := match ds[j]? with
  | some l => y_hd l
  | none => 0
def e_tf (ds : List (List Int)) (j : Nat) : Int64 := match ds[j]? with
  | some l => y_tl (l, false)
  | none => 0
theorem e_snoc {ds : List (List Int)} {l : List Int} {j : Nat} : (ds ++ [l])[j]? = if j = ds.length then some l else ds[j]? := by
  by_cases e : j = ds.length
  · rw [if_pos e, e]; simp
  · rw [if_neg e]
    by_cases e2 : j < ds.length
    · rw [List.getElem?_append_left e2]
    · rw [List.getElem?_append_right (by omega), List.getElem?_eq_none_iff.mpr (by show 1 ≤ _; omega), List.getElem?_eq_none_iff.mpr (by omega)]
theorem e_hfs (ds : List (List Int)) (l : List Int) : am_u1 (e_hf ds) ds.length (y_hd l) = e_hf (ds ++ [l]) := by
  funext j
  unfold am_u1 e_hf
  rw [e_snoc]
  by_cases e : j = ds.length
  · rw [if_pos e, if_pos e]
  · rw [if_neg e, if_neg e]
theorem e_tfs (ds : List (List Int)) (l : List Int) : am_u1 (e_tf ds) ds.length (y_tl (l, false)) = e_tf (ds ++ [l]) := by
  funext j
  unfold am_u1 e_tf
  rw [e_snoc]
  by_cases e : j = ds.length
  · rw [if_pos e, if_pos e]
  · rw [if_neg e, if_neg e]
theorem u_hd (l : List Int) {x : Int} (h0 : 0 ≤ x) (h : x < 256) : y_hd l <<< ((8 : Int32).toInt64 &&& 63) ||| (z_i x).toInt64 = y_hd (l ++ [x]) := by
  have := y_hd_snoc l h0 h
  unfold z_shl z_il at this
  rw [show z_i 8 = (8 : Int32) from by decide] at this
  exact this
theorem u_tl (l : List Int) {x : Int} (h0 : 0 ≤ x) (h : x < 256) : y_tl (l, false) <<< ((8 : Int32).toInt64 &&& 63) ||| ((y_hd l).toUInt64 >>> ((56 : Int32).toInt64.toUInt64 &&& Int64.toUInt64 63)).toInt64 = y_tl (l ++ [x], false) := by
  have := y_tl_snoc l h0 h
  unfold z_shl z_usr at this
  rw [show z_i 8 = (8 : Int32) from by decide, show z_i 56 = (56 : Int32) from by decide] at this
  exact this
abbrev e_LN (L : Nat → Nat → Int64) (ds : List (List Int)) : Nat → Nat → Int64 := am_u1 (am_u1 L 5 (e_hf ds)) 6 (e_tf ds)
theorem u_namesL (hI : I 7 = fun _ => 0) (hR0 : R 4 0 = some 5) (hR1 : R 4 1 = some 6) (hR2 : R 4 2 = some 7) (h : Q (.inl none) (e_M 8 n (am_u1 (am_u1 I 4 (e_f4 18)) 7 (e_f7 118)) (e_LN L (y_cmds.map (fun q => q.1))) R c s)) : ∀ (m k : Nat) (o6 : Option Value), m + k = 111 → e_w (d + 4) (k_tb 7) 35 [some (.ref 4), some (.long (y_hd (e_fd k).2)), none, some (.long (y_tl ((e_fd k).2, false))), none, some (.int (z_i (k : Int))), o6] [] (e_M 8 n (am_u1 I 4 (e_f4 (z_i (((e_fd k).1.length : Nat) : Int)))) (e_LN L (e_fd k).1) R c s) Q := by
  intro m
  induction m with
  | zero =>
    intro k o6 hk
    obtain rfl : k = 111 := by omega
    refine ew_1 rfl rfl (ew_1 rfl rfl ?_)
    refine ew_call rfl rfl (u_len ?_)
    refine ew_b rfl rfl (fun _ => ?_) (fun e => absurd (by decide) e)
    refine ew_1 rfl rfl ?_
    refine ew_call rfl rfl (u_means hI hR2 ?_)
    refine ew_e rfl rfl trivial ?_
    rw [e_fd_e]
    exact h
  | succ m ih =>
    intro k o6 hk
    obtain ⟨f1, f2, f3, f4⟩ := e_fd_s k (by omega)
    have ihk := fun o6 => ih (k + 1) o6 (by omega)
    rw [f1] at ihk
    refine ew_1 rfl rfl (ew_1 rfl rfl ?_)
    refine ew_call rfl rfl (u_len ?_)
    refine ew_b rfl rfl (fun e => absurd ((e_leL (k := k) (w := 111) (by decide) (by omega) (by decide)).mp e) (by omega)) (fun _ => ?_)
    refine ew_1 rfl rfl (ew_1 rfl rfl ?_)
    refine ew_call rfl rfl (u_char (by omega) ?_)
    refine ew_1 rfl rfl (ew_1 rfl rfl (ew_1 rfl rfl ?_))
    show e_w (d + 4) (k_tb 7) 58 [some (.ref 4), some (.long (y_hd (e_fd k).2)), none, some (.long (y_tl ((e_fd k).2, false))), none, some (.int (z_i (k : Int))), some (.int (z_i (e_txt k)))] [.int 32, .int (z_i (e_txt k))] _ Q
    generalize e_fd k = q at ihk f4 ⊢
    generalize e_txt k = x at ihk f2 f3 ⊢
    obtain ⟨ds, l⟩ := q
    dsimp only at ihk f4 ⊢
    refine ew_b (c := z_i x = 32) rfl rfl (fun e => ?_) (fun e => ?_)
    · have ex : x = 32 := by
        rw [show (32 : Int32) = z_i 32 from by decide, z_eq (y_rs (by omega) (by omega)) (y_rs (by decide) (by decide))] at e
        exact e
      have e1 : e_cut (ds, l) x = (ds ++ [l], []) := by unfold e_cut; rw [if_pos ex]
      rw [e1] at ihk
      refine ew_1 rfl rfl ?_
      refine es_getI (x := z_i (ds.length : Int)) rfl rfl rfl ?_
      refine ew_1 rfl rfl ?_
      refine es_getR rfl rfl hR0 ?_
      refine es_alen (kd := 1) (w := 118) rfl rfl (by decide) ?_
      refine ew_b rfl rfl (fun e => absurd ((e_le (by omega) (by decide)).mp e) (by omega)) (fun _ => ?_)
      refine ew_1 rfl rfl ?_
      refine es_getR rfl rfl hR0 ?_
      refine ew_1 rfl rfl ?_
      refine es_getI (x := z_i (ds.length : Int)) rfl rfl rfl ?_
      refine ew_1 rfl rfl ?_
      refine es_last (w := 118) (L' := am_u1 (am_u1 L 5 (e_hf (ds ++ [l]))) 6 (e_tf ds)) rfl rfl rfl (by omega) (by decide) (by rw [e_u2a (by decide), e_u21, e_hfs]) ?_
      refine ew_1 rfl rfl ?_
      refine es_getR rfl rfl hR1 ?_
      refine ew_1 rfl rfl ?_
      refine es_getI (x := z_i (ds.length : Int)) rfl rfl rfl ?_
      refine ew_1 rfl rfl ?_
      refine es_last (w := 118) (L' := e_LN L (ds ++ [l])) rfl rfl rfl (by omega) (by decide) (e_u21.trans (by rw [e_tfs])) ?_
      refine ew_1 rfl rfl (ew_1 rfl rfl ?_)
      refine es_getI (x := z_i (ds.length : Int)) rfl rfl rfl ?_
      refine ew_1 rfl rfl (ew_1 rfl rfl ?_)
      refine es_putI (I' := am_u1 I 4 (e_f4 (z_i (ds.length : Int) + 1))) rfl rfl (e_u21.trans (by rw [e_f4s])) ?_
      refine ew_1 rfl rfl (ew_1 rfl rfl (ew_1 rfl rfl (ew_1 rfl rfl (ew_1 rfl rfl (ew_1 rfl rfl ?_)))))
      show e_w (d + 4) (k_tb 7) 35 [some (.ref 4), some (.long 0), none, some (.long 0), none, some (.int (z_i (k : Int) + 1)), some (.int (z_i x))] [] _ Q
      rw [e_inc, e_inc]
      have e2 := ihk (some (.int (z_i x)))
      dsimp only at e2
      rw [show y_hd [] = 0 from by decide, show y_tl (([] : List Int), false) = 0 from by decide, List.length_append] at e2
      exact e2
    · have ex : x ≠ 32 := fun q => e (by rw [q]; decide)
      have e1 : e_cut (ds, l) x = (ds, l ++ [x]) := by unfold e_cut; rw [if_neg ex]
      rw [e1] at ihk
      iterate 18 refine ew_1 rfl rfl ?_
      show e_w (d + 4) (k_tb 7) 35 [some (.ref 4), some (.long (y_hd l <<< ((8 : Int32).toInt64 &&& 63) ||| (z_i x).toInt64)), none, some (.long (y_tl (l, false) <<< ((8 : Int32).toInt64 &&& 63) ||| ((y_hd l).toUInt64 >>> ((56 : Int32).toInt64.toUInt64 &&& Int64.toUInt64 63)).toInt64)), none, some (.int (z_i (k : Int) + 1)), some (.int (z_i x))] [] _ Q
      rw [u_hd l f2 f3, u_tl l f2 f3, e_inc]
      exact ihk (some (.int (z_i x)))
theorem u_names (hI : ∀ a, 4 ≤ a → a < 8 → I a = fun _ => 0) (hL : ∀ a, 4 ≤ a → a < 8 → L a = fun _ => 0) (hR : ∀ a, 5 ≤ a → a < 8 → R a = fun _ => none) (h : Q (.inl none) (e_M 8 n (am_u1 (am_u1 I 4 (e_f4 18)) 7 (e_f7 118)) (e_LN L (y_cmds.map (fun q => q.1))) (am_u2 (am_u2 (am_u2 R 4 0 (some 5)) 4 1 (some 6)) 4 2 (some 7)) (c + 1 + 1 + 1) (s + 118 + 118 + 118))) : e_c (d + 5) 7 [.ref 4] (e_M 5 n I L R c s) Q := by
  refine e_enter (l0 := [some (.ref 4), none, none, none, none, none, none]) (Nat.le_of_ble_eq_true rfl) rfl ?_
  refine ew_1 rfl rfl (ew_1 rfl rfl (ew_1 rfl rfl (ew_1 rfl rfl ?_)))
  refine es_newa (t1 := 6) (w := 118) rfl rfl (by decide) (by decide) rfl (hI _ (by decide) (by decide)) (hL _ (by decide) (by decide)) (hR _ (by decide) (by decide)) ?_
  refine es_putR rfl rfl ?_
  refine ew_1 rfl rfl (ew_1 rfl rfl ?_)
  refine es_newa (t1 := 7) (w := 118) rfl rfl (by decide) (by decide) rfl (hI _ (by decide) (by decide)) (hL _ (by decide) (by decide)) (by rw [e_u2o (by decide)]; exact hR _ (by decide) (by decide)) ?_
  refine es_putR rfl rfl ?_
  refine ew_1 rfl rfl (ew_1 rfl rfl ?_)
  refine es_newa (t1 := 8) (w := 118) rfl rfl (by decide) (by decide) rfl (hI _ (by decide) (by decide)) (hL _ (by decide) (by decide)) (by rw [e_u2o (by decide), e_u2o (by decide)]; exact hR _ (by decide) (by decide)) ?_
  refine es_putR rfl rfl ?_
  refine ew_1 rfl rfl (ew_1 rfl rfl (ew_1 rfl rfl (ew_1 rfl rfl (ew_1 rfl rfl (ew_1 rfl rfl ?_)))))
  have e1 : am_u1 I 4 (e_f4 (z_i ((0 : Nat) : Int))) = I := e_u1 (by
    rw [hI 4 (by decide) (by decide)]
    funext j
    unfold e_f4
    split
    · decide
    · rfl)
  have e2 : am_u1 L 5 (e_hf []) = L := e_u1 (by rw [hL 5 (by decide) (by decide)]; funext j; rfl)
  have e3 : am_u1 L 6 (e_tf []) = L := e_u1 (by rw [hL 6 (by decide) (by decide)]; funext j; rfl)
  have e4 : e_LN L [] = L := by
    show am_u1 (am_u1 L 5 (e_hf [])) 6 (e_tf []) = L
    rw [e2, e3]
  have := u_namesL (d := d) (n := n) (c := c + 1 + 1 + 1) (s := s + 118 + 118 + 118) (I := I) (L := L) (R := am_u2 (am_u2 (am_u2 R 4 0 (some 5)) 4 1 (some 6)) 4 2 (some 7)) (Q := Q) (hI 7 (by decide) (by decide)) rfl rfl rfl h 111 0 none rfl
  rw [show e_fd 0 = ([], []) from rfl] at this
  dsimp only at this
  rw [show y_hd [] = 0 from by decide, show y_tl (([] : List Int), false) = 0 from by decide, show ([] : List (List Int)).length = 0 from rfl, e1, e4] at this
  exact this
theorem u_reader (hI : ∀ a, 1 ≤ a → a < 4 → I a = fun _ => 0) (hL : ∀ a, 1 ≤ a → a < 4 → L a = fun _ => 0) (hR : ∀ a, 2 ≤ a → a < 4 → R a = fun _ => none) (h : Q (.inl none) (e_M 4 n (am_u1 I 3 e_c3) L (am_u2 (am_u2 R 1 0 (some 2)) 1 1 (some 3)) (c + 1 + 1) (s + 160 + 128))) : e_c (d + 3) 15 [.ref 1] (e_M 2 n I L R c s) Q := by
  refine e_enter (l0 := [some (.ref 1)]) (Nat.le_of_ble_eq_true rfl) rfl ?_
  refine ew_1 rfl rfl (ew_1 rfl rfl (ew_1 rfl rfl (ew_1 rfl rfl ?_)))
  refine es_newa (t1 := 3) (w := 160) rfl rfl (by decide) (by decide) rfl (hI _ (by decide) (by decide)) (hL _ (by decide) (by decide)) (hR _ (by decide) (by decide)) ?_
  refine es_putR rfl rfl ?_
  refine ew_1 rfl rfl (ew_1 rfl rfl ?_)
  refine es_newa (t1 := 4) (w := 128) rfl rfl (by decide) (by decide) rfl (hI _ (by decide) (by decide)) (hL _ (by decide) (by decide)) (by rw [e_u2o (by decide)]; exact hR _ (by decide) (by decide)) ?_
  refine es_putR rfl rfl ?_
  refine ew_1 rfl rfl ?_
  refine ew_call rfl rfl (u_cats (hI _ (by decide) (by decide)) (hI _ (by decide) (by decide)) rfl ?_)
  exact ew_e rfl rfl trivial h
theorem u_groups (hI : ∀ a, 9 ≤ a → a < 15 → I a = fun _ => 0) (hL : ∀ a, 9 ≤ a → a < 15 → L a = fun _ => 0) (hR : ∀ a, 9 ≤ a → a < 15 → R a = fun _ => none) (h : Q (.inl none) (e_M 15 n I L (am_u2 (am_u2 (am_u2 (am_u2 (am_u2 (am_u2 R 9 0 (some 10)) 8 0 (some 9)) 11 0 (some 12)) 8 1 (some 11)) 13 0 (some 14)) 8 2 (some 13)) (c + 1 + 1 + 1 + 1 + 1 + 1) (s + ck_N 4 + 30 + ck_N 4 + 60 + ck_N 4 + 60))) : e_c (d + 2) 0 [.ref 8] (e_M 9 n I L R c s) Q := by
  refine e_enter (l0 := [some (.ref 8)]) (Nat.le_of_ble_eq_true rfl) rfl ?_
  refine ew_1 rfl rfl (ew_1 rfl rfl ?_)


  refine ew_1 rfl rfl ?_
  refine es_new (t1 := 10) rfl rfl rfl (hI _ (by decide) (by decide)) (hL _ (by decide) (by decide)) (hR _ (by decide) (by decide)) ?_
  refine ew_1 rfl rfl (ew_1 rfl rfl ?_)
  refine ew_call rfl rfl (u_row (t1 := 11) (w := 30) rfl (by decide) (by decide) rfl rfl (hI _ (by decide) (by decide)) (hL _ (by decide) (by decide)) (hR _ (by decide) (by decide)) ?_)
  refine es_putR rfl rfl ?_
  refine ew_1 rfl rfl ?_
  refine es_new (t1 := 12) rfl rfl rfl (hI _ (by decide) (by decide)) (hL _ (by decide) (by decide)) (by rw [e_u2o (by decide), e_u2o (by decide)]; exact hR _ (by decide) (by decide)) ?_
  refine ew_1 rfl rfl (ew_1 rfl rfl ?_)
  refine ew_call rfl rfl (u_row (t1 := 13) (w := 60) rfl (by decide) (by decide) rfl rfl (hI _ (by decide) (by decide)) (hL _ (by decide) (by decide)) (by rw [e_u2o (by decide), e_u2o (by decide)]; exact hR _ (by decide) (by decide)) ?_)
  refine es_putR rfl rfl ?_
  refine ew_1 rfl rfl ?_
  refine es_new (t1 := 14) rfl rfl rfl (hI _ (by decide) (by decide)) (hL _ (by decide) (by decide)) (by rw [e_u2o (by decide), e_u2o (by decide), e_u2o (by decide), e_u2o (by decide)]; exact hR _ (by decide) (by decide)) ?_
  refine ew_1 rfl rfl (ew_1 rfl rfl ?_)
  refine ew_call rfl rfl (u_row (t1 := 15) (w := 60) rfl (by decide) (by decide) rfl rfl (hI _ (by decide) (by decide)) (hL _ (by decide) (by decide)) (by rw [e_u2o (by decide), e_u2o (by decide), e_u2o (by decide), e_u2o (by decide)]; exact hR _ (by decide) (by decide)) ?_)
  refine es_putR rfl rfl ?_
  exact ew_e rfl rfl trivial h
end CT
