/-! the reference is made -/
def e_g (k j : Nat) : Int32 := if j = 11 then z_i (k : Int) else 0
theorem e_gs (k : Nat) (v : Int32) (hv : v = z_i ((k + 1 : Nat) : Int)) : am_u1 (e_g k) 11 v = e_g (k + 1) := by
  subst hv
  funext b
  unfold am_u1 e_g
  split <;> rfl
abbrev e_IC (I : Nat → Nat → Int32) (k : Nat) (g h : Nat → Int32) : Nat → Nat → Int32 := am_u1 (am_u1 (am_u1 I 336 (e_g k)) 340 g) 341 h
def e_ltr (sp : Int64) (j : Nat) : Int32 := (sp >>> (((5 : Int32) * z_i (j : Int)).toInt64 &&& 63) &&& 31).toInt32 + 96
def e_g1 (g : Nat → Int32) (k : Nat) (sp : Int64) (m b : Nat) : Int32 := if 11 * k ≤ b ∧ b < 11 * k + m then e_ltr sp (b - 11 * k) else g b
theorem e_g1s (g : Nat → Int32) (k : Nat) (sp : Int64) (m : Nat) : am_u1 (e_g1 g k sp m) (11 * k + m) (e_ltr sp m) = e_g1 g k sp (m + 1) := by
  funext b
  unfold am_u1 e_g1
  by_cases e : b = 11 * k + m
  · rw [if_pos e, if_pos (by omega), show b - 11 * k = m by omega]
  · rw [if_neg e]
    by_cases e2 : 11 * k ≤ b ∧ b < 11 * k + m
    · rw [if_pos e2, if_pos (by omega)]
    · rw [if_neg e2, if_neg (by omega)]
section CB
variable {d n c s : Nat} {I : Nat → Nat → Int32} {L : Nat → Nat → Int64} {R : Nat → Nat → Option Nat} {Q : am_O → am_M → Prop} {g h : Nat → Int32}
theorem u_cmdL {k nl : Nat} {sp nn : Int64} (hk : k < 100) (hn : nl ≤ 11) (hR12 : R 336 12 = some 340) (hR13 : R 336 13 = some 341) (hq : Q (.inl none) (e_M 362 n (e_IC I (k + 1) (e_g1 g k sp nl) (am_u1 h k (z_i (nl : Int)))) L R c s)) : ∀ m j : Nat, m + j = nl → e_w d (k_tb 91) 14 [some (.ref 336), some (.long nn), none, some (.long sp), none, some (.int (z_i (j : Int)))] [] (e_M 362 n (e_IC I k (e_g1 g k sp j) (am_u1 h k (z_i (nl : Int)))) L R c s) Q := by
  have hg : ∀ g' h', e_IC I k g' h' 336 11 = z_i (k : Int) := fun _ _ => rfl
  have hh : ∀ g', e_IC I k g' (am_u1 h k (z_i (nl : Int))) 341 k = z_i (nl : Int) := fun _ => e_u1s
  intro m
  induction m with
  | zero =>
    intro j hj
    obtain rfl : j = nl := by omega
    refine ew_1 rfl rfl (ew_1 rfl rfl ?_)
    refine es_getR rfl rfl hR13 ?_
    refine ew_1 rfl rfl ?_
    refine es_getI rfl rfl (hg _ _) ?_
    refine es_iald (w := 120) rfl rfl rfl (by omega) (by decide) (hh _) ?_
    refine ew_b rfl rfl (fun _ => ?_) (fun e => absurd ((e_le (by omega) (by omega)).mpr (Nat.le_refl _)) e)
    refine ew_1 rfl rfl (ew_1 rfl rfl ?_)
    refine es_getI rfl rfl (hg _ _) ?_
    refine ew_1 rfl rfl (ew_1 rfl rfl ?_)
    refine es_putI rfl rfl (by rw [e_u2a (by decide), e_u2a (by decide), e_u21, e_gs _ _ (e_inc k)]) ?_
    exact ew_e rfl rfl trivial hq
  | succ m ih =>
    intro j hj
    refine ew_1 rfl rfl (ew_1 rfl rfl ?_)
    refine es_getR rfl rfl hR13 ?_
    refine ew_1 rfl rfl ?_
    refine es_getI rfl rfl (hg _ _) ?_
    refine es_iald (w := 120) rfl rfl rfl (by omega) (by decide) (hh _) ?_
    refine ew_b rfl rfl (fun e => absurd ((e_le (by omega) (by omega)).mp e) (by omega)) (fun _ => ?_)
    refine ew_1 rfl rfl ?_
    refine es_getR rfl rfl hR12 ?_
    refine ew_1 rfl rfl (ew_1 rfl rfl ?_)
    refine es_getI rfl rfl (hg _ _) ?_
    repeat (refine ew_1 rfl rfl ?_)
    refine es_iast (w := 1320) (j := 11 * k + j) (I' := e_IC I k (e_g1 g k sp (j + 1)) (am_u1 h k (z_i (nl : Int)))) rfl rfl ?_ (by omega) (by decide) ?_ ?_
    · show (11 : Int32) * z_i (k : Int) + z_i (j : Int) = _
      rw [show (11 : Int32) = z_i 11 from by decide, z_mul, z_add]
      congr 1
    · rw [e_u2a (by decide), e_u21]
      show am_u1 (am_u1 (am_u1 I 336 (e_g k)) 340 (am_u1 (e_g1 g k sp j) (11 * k + j) (e_ltr sp j))) 341 _ = _
      rw [e_g1s]
    · refine ew_1 rfl rfl (ew_1 rfl rfl ?_)
      show e_w d (k_tb 91) 14 [some (.ref 336), some (.long nn), none, some (.long sp), none, some (.int (z_i (j : Int) + 1))] [] _ Q
      rw [e_inc]
      exact ih (j + 1) (by omega)
theorem u_cmd {k nl : Nat} {sp nn : Int64} (hk : k < 100) (hn : nl ≤ 11) (hnn : nn.toInt32 = z_i (nl : Int)) (hR12 : R 336 12 = some 340) (hR13 : R 336 13 = some 341) (hq : Q (.inl none) (e_M 362 n (e_IC I (k + 1) (e_g1 g k sp nl) (am_u1 h k (z_i (nl : Int)))) L R c s)) : e_c (d + 1) 91 [.ref 336, .long nn, .long sp] (e_M 362 n (e_IC I k g h) L R c s) Q := by
  refine e_enter (l0 := [some (.ref 336), some (.long nn), none, some (.long sp), none, none]) (Nat.le_of_ble_eq_true rfl) rfl ?_
  refine ew_1 rfl rfl ?_
  refine es_getR rfl rfl hR13 ?_
  refine ew_1 rfl rfl ?_
  refine es_getI (x := z_i (k : Int)) rfl rfl rfl ?_
  refine ew_1 rfl rfl (ew_1 rfl rfl ?_)
  refine es_iast (w := 120) (I' := e_IC I k g (am_u1 h k (z_i (nl : Int)))) rfl rfl rfl (by omega) (by decide) (by rw [e_u21]; show am_u1 _ 341 (am_u1 h k nn.toInt32) = _; rw [hnn]) ?_
  refine ew_1 rfl rfl (ew_1 rfl rfl ?_)
  have e : e_g1 g k sp 0 = g := by
    funext b
    unfold e_g1
    rw [if_neg (by omega)]
  have := u_cmdL (d := d) (n := n) (c := c) (s := s) (I := I) (L := L) (R := R) (Q := Q) (g := g) (h := h) (nn := nn) hk hn hR12 hR13 hq nl 0 rfl
  rw [e] at this
  exact this
end CB
def e_cm : List (Nat × Int64) := [(3, 18480), (5, 25211058), (3, 6308), (4, 201863), (4, 201861), (3, 20652), (7, 5518774307), (11, 20464317797286661), (8, 152522462702), (6, 181451363), (9, 5945798267333), (6, 249875091), (2, 201), (3, 24777), (6, 190402761), (7, 6018865353), (4, 183685), (2, 294)]
def e_gA : Nat → Nat → Int32
  | 0 => fun _ => 0
  | k + 1 => e_g1 (e_gA k) k (e_cm.getD k (0, 0)).2 (e_cm.getD k (0, 0)).1
def e_hA : Nat → Nat → Int32
  | 0 => fun _ => 0
  | k + 1 => am_u1 (e_hA k) k (z_i (((e_cm.getD k (0, 0)).1 : Nat) : Int))
theorem e_cmA : ∀ k, k < 18 → (e_hA 18 k).toInt = (((y_cmds.getD k ([], true)).1.length : Nat) : Int) ∧ (y_cmds.getD k ([], true)).2 = false ∧ ∀ i, i < 11 → i < (y_cmds.getD k ([], true)).1.length → (e_gA 18 (11 * k + i)).toInt = (y_cmds.getD k ([], true)).1[i]?.getD 0 := by decide +kernel
theorem e_cmB : ∀ k, k < 18 → (y_cmds.getD k ([], true)).1.length ≤ 11 := by decide +kernel
section CB2
variable {d n c s : Nat} {I : Nat → Nat → Int32} {L : Nat → Nat → Int64} {R : Nat → Nat → Option Nat} {Q : am_O → am_M → Prop}
theorem u_cmdA {k nl : Nat} {sp nn : Int64} (hk : k < 18) (hc : e_cm.getD k (0, 0) = (nl, sp)) (hn : nl ≤ 11) (hnn : nn.toInt32 = z_i (nl : Int)) (hR12 : R 336 12 = some 340) (hR13 : R 336 13 = some 341) (hq : Q (.inl none) (e_M 362 n (e_IC I (k + 1) (e_gA (k + 1)) (e_hA (k + 1))) L R c s)) : e_c (d + 1) 91 [.ref 336, .long nn, .long sp] (e_M 362 n (e_IC I k (e_gA k) (e_hA k)) L R c s) Q := by
  refine u_cmd (by omega) hn hnn hR12 hR13 ?_
  have e1 : e_gA (k + 1) = e_g1 (e_gA k) k sp nl := by
    show e_g1 (e_gA k) k (e_cm.getD k (0, 0)).2 (e_cm.getD k (0, 0)).1 = _
    rw [hc]
  have e2 : e_hA (k + 1) = am_u1 (e_hA k) k (z_i (nl : Int)) := by
    show am_u1 (e_hA k) k (z_i (((e_cm.getD k (0, 0)).1 : Nat) : Int)) = _
    rw [hc]
  rw [← e1, ← e2]
  exact hq
end CB2
abbrev e_I2 (xs : Nat → Int32) : Nat → Nat → Int32 := e_IC (e_I1 xs) 18 (e_gA 18) (e_hA 18)
def e_Rm : Nat → Nat → Option Nat := (am_u2 (am_u2 (am_u2 (am_u2 (am_u2 (am_u2 (am_u2 (am_u2 (am_u2 (am_u2 (am_u2 (am_u2 (am_u2 (am_u2 (am_u2 (am_u2 (am_u2 (am_u2 (am_u2 (am_u2 (am_u2 (am_u2 (am_u2 (am_u2 (am_u2 e_Rc 336 2 (some 337)) 336 8 (some 338)) 336 10 (some 339)) 336 12 (some 340)) 336 13 (some 341)) 336 14 (some 342)) 336 15 (some 343)) 336 17 (some 344)) 336 20 (some 345)) 336 21 (some 346)) 336 22 (some 347)) 336 24 (some 348)) 336 25 (some 349)) 336 26 (some 350)) 336 27 (some 351)) 336 28 (some 352)) 336 30 (some 353)) 336 32 (some 354)) 336 33 (some 355)) 336 34 (some 356)) 336 35 (some 357)) 336 36 (some 358)) 336 38 (some 359)) 336 39 (some 360)) 336 40 (some 361))
theorem e_Rm_t : ∀ b, b < 41 → e_Rm 336 b = z_R e_p0 336 b := by decide +kernel
theorem e_far2 {f : Nat → Nat → Option Nat} {k j a b : Nat} {v : Option Nat} (hj : j < 41) (h : ¬ (a = k ∧ b < 41)) : am_u2 f k j v a b = f a b := by
  unfold am_u2
  split
  · split
    · omega
    · rfl
  · rfl
theorem e_Rm_eq : e_Rm = z_R e_p0 := by
  funext a b
  by_cases h : a = 336 ∧ b < 41
  · rw [h.1]
    exact e_Rm_t b h.2
  · have e1 : e_Rm a b = e_Rc a b := by
      unfold e_Rm
      repeat rw [e_far2 (by decide) h]
    rw [e1]
    unfold e_Rc
    rw [z_blt]
    by_cases h1 : a < 336
    · rw [decide_eq_true h1]
      rfl
    · rw [decide_eq_false h1]
      unfold z_R
      rw [z_blt, z_beq, z_blt, z_blt, z_beq, decide_eq_false (by omega : ¬ a < 30), decide_eq_false (by omega : ¬ a = 30), decide_eq_false h1]
      by_cases h2 : a = 336
      · rw [decide_eq_true h2]
        exact (e_gd (l := z_RB) (Nat.le_trans (by decide : z_RB.length ≤ 41) (by omega))).symm
      · rw [decide_eq_false h2]
        rfl
section CMM
variable {d n c s : Nat} {xs : Nat → Int32} {Q : am_O → am_M → Prop}
/-- the reference's object: cell 336 is there; all but its start -/
theorem u_model (h : e_w (d + 1) (k_tb 90) 392 [some (.ref 336)] [] (e_M 362 n (e_I2 xs) e_L1 (z_R e_p0) (c + 25) (s + 6809)) Q) : e_c (d + 2) 90 [.ref 336] (e_M 337 n (e_I1 xs) e_L1 e_Rc c s) Q := by
  refine e_enter (l0 := [some (.ref 336)]) (Nat.le_of_ble_eq_true rfl) rfl ?_
  refine ew_1 rfl rfl (ew_1 rfl rfl ?_)
  refine ew_1 rfl rfl (ew_1 rfl rfl ?_)
  refine es_newa (t1 := 338) (w := 160) rfl rfl (by decide) (by decide) rfl (e_I1z (by decide) (by decide)) (e_L1z (by decide)) (by (repeat rw [e_u2o (by decide)]); rfl) ?_
  refine es_putR rfl rfl ?_
  refine ew_1 rfl rfl (ew_1 rfl rfl ?_)
  refine es_newa (t1 := 339) (w := 128) rfl rfl (by decide) (by decide) rfl (e_I1z (by decide) (by decide)) (e_L1z (by decide)) (by (repeat rw [e_u2o (by decide)]); rfl) ?_
  refine es_putR rfl rfl ?_
  refine ew_1 rfl rfl (ew_1 rfl rfl ?_)
  refine es_newa (t1 := 340) (w := 302) rfl rfl (by decide) (by decide) rfl (e_I1z (by decide) (by decide)) (e_L1z (by decide)) (by (repeat rw [e_u2o (by decide)]); rfl) ?_
  refine es_putR rfl rfl ?_
  refine ew_1 rfl rfl (ew_1 rfl rfl ?_)
  refine es_newa (t1 := 341) (w := 1320) rfl rfl (by decide) (by decide) rfl (e_I1z (by decide) (by decide)) (e_L1z (by decide)) (by (repeat rw [e_u2o (by decide)]); rfl) ?_
  refine es_putR rfl rfl ?_
  refine ew_1 rfl rfl (ew_1 rfl rfl ?_)
  refine es_newa (t1 := 342) (w := 120) rfl rfl (by decide) (by decide) rfl (e_I1z (by decide) (by decide)) (e_L1z (by decide)) (by (repeat rw [e_u2o (by decide)]); rfl) ?_
  refine es_putR rfl rfl ?_
  refine ew_1 rfl rfl (ew_1 rfl rfl ?_)
  refine es_newa (t1 := 343) (w := 120) rfl rfl (by decide) (by decide) rfl (e_I1z (by decide) (by decide)) (e_L1z (by decide)) (by (repeat rw [e_u2o (by decide)]); rfl) ?_
  refine es_putR rfl rfl ?_
  refine ew_1 rfl rfl (ew_1 rfl rfl ?_)
  refine es_newa (t1 := 344) (w := 120) rfl rfl (by decide) (by decide) rfl (e_I1z (by decide) (by decide)) (e_L1z (by decide)) (by (repeat rw [e_u2o (by decide)]); rfl) ?_
  refine es_putR rfl rfl ?_
  refine ew_1 rfl rfl (ew_1 rfl rfl ?_)
  refine es_newa (t1 := 345) (w := 12) rfl rfl (by decide) (by decide) rfl (e_I1z (by decide) (by decide)) (e_L1z (by decide)) (by (repeat rw [e_u2o (by decide)]); rfl) ?_
  refine es_putR rfl rfl ?_
  refine ew_1 rfl rfl (ew_1 rfl rfl ?_)
  refine es_newa (t1 := 346) (w := 60) rfl rfl (by decide) (by decide) rfl (e_I1z (by decide) (by decide)) (e_L1z (by decide)) (by (repeat rw [e_u2o (by decide)]); rfl) ?_
  refine es_putR rfl rfl ?_
  refine ew_1 rfl rfl (ew_1 rfl rfl ?_)
  refine es_newa (t1 := 347) (w := 60) rfl rfl (by decide) (by decide) rfl (e_I1z (by decide) (by decide)) (e_L1z (by decide)) (by (repeat rw [e_u2o (by decide)]); rfl) ?_
  refine es_putR rfl rfl ?_
  refine ew_1 rfl rfl (ew_1 rfl rfl ?_)
  refine es_newa (t1 := 348) (w := 60) rfl rfl (by decide) (by decide) rfl (e_I1z (by decide) (by decide)) (e_L1z (by decide)) (by (repeat rw [e_u2o (by decide)]); rfl) ?_
  refine es_putR rfl rfl ?_
  refine ew_1 rfl rfl (ew_1 rfl rfl ?_)
  refine es_newa (t1 := 349) (w := 61) rfl rfl (by decide) (by decide) rfl (e_I1z (by decide) (by decide)) (e_L1z (by decide)) (by (repeat rw [e_u2o (by decide)]); rfl) ?_
  refine es_putR rfl rfl ?_
  refine ew_1 rfl rfl (ew_1 rfl rfl ?_)
  refine es_newa (t1 := 350) (w := 800) rfl rfl (by decide) (by decide) rfl (e_I1z (by decide) (by decide)) (e_L1z (by decide)) (by (repeat rw [e_u2o (by decide)]); rfl) ?_
  refine es_putR rfl rfl ?_
  refine ew_1 rfl rfl (ew_1 rfl rfl ?_)
  refine es_newa (t1 := 351) (w := 61) rfl rfl (by decide) (by decide) rfl (e_I1z (by decide) (by decide)) (e_L1z (by decide)) (by (repeat rw [e_u2o (by decide)]); rfl) ?_
  refine es_putR rfl rfl ?_
  refine ew_1 rfl rfl (ew_1 rfl rfl ?_)
  refine es_newa (t1 := 352) (w := 2500) rfl rfl (by decide) (by decide) rfl (e_I1z (by decide) (by decide)) (e_L1z (by decide)) (by (repeat rw [e_u2o (by decide)]); rfl) ?_
  refine es_putR rfl rfl ?_
  refine ew_1 rfl rfl (ew_1 rfl rfl ?_)
  refine es_newa (t1 := 353) (w := 61) rfl rfl (by decide) (by decide) rfl (e_I1z (by decide) (by decide)) (e_L1z (by decide)) (by (repeat rw [e_u2o (by decide)]); rfl) ?_
  refine es_putR rfl rfl ?_
  refine ew_1 rfl rfl (ew_1 rfl rfl ?_)
  refine es_newa (t1 := 354) (w := 12) rfl rfl (by decide) (by decide) rfl (e_I1z (by decide) (by decide)) (e_L1z (by decide)) (by (repeat rw [e_u2o (by decide)]); rfl) ?_
  refine es_putR rfl rfl ?_
  refine ew_1 rfl rfl (ew_1 rfl rfl ?_)
  refine es_newa (t1 := 355) (w := 30) rfl rfl (by decide) (by decide) rfl (e_I1z (by decide) (by decide)) (e_L1z (by decide)) (by (repeat rw [e_u2o (by decide)]); rfl) ?_
  refine es_putR rfl rfl ?_
  refine ew_1 rfl rfl (ew_1 rfl rfl ?_)
  refine es_newa (t1 := 356) (w := 30) rfl rfl (by decide) (by decide) rfl (e_I1z (by decide) (by decide)) (e_L1z (by decide)) (by (repeat rw [e_u2o (by decide)]); rfl) ?_
  refine es_putR rfl rfl ?_
  refine ew_1 rfl rfl (ew_1 rfl rfl ?_)
  refine es_newa (t1 := 357) (w := 30) rfl rfl (by decide) (by decide) rfl (e_I1z (by decide) (by decide)) (e_L1z (by decide)) (by (repeat rw [e_u2o (by decide)]); rfl) ?_
  refine es_putR rfl rfl ?_
  refine ew_1 rfl rfl (ew_1 rfl rfl ?_)
  refine es_newa (t1 := 358) (w := 30) rfl rfl (by decide) (by decide) rfl (e_I1z (by decide) (by decide)) (e_L1z (by decide)) (by (repeat rw [e_u2o (by decide)]); rfl) ?_
  refine es_putR rfl rfl ?_
  refine ew_1 rfl rfl (ew_1 rfl rfl ?_)
  refine es_newa (t1 := 359) (w := 360) rfl rfl (by decide) (by decide) rfl (e_I1z (by decide) (by decide)) (e_L1z (by decide)) (by (repeat rw [e_u2o (by decide)]); rfl) ?_
  refine es_putR rfl rfl ?_
  refine ew_1 rfl rfl (ew_1 rfl rfl ?_)
  refine es_newa (t1 := 360) (w := 200) rfl rfl (by decide) (by decide) rfl (e_I1z (by decide) (by decide)) (e_L1z (by decide)) (by (repeat rw [e_u2o (by decide)]); rfl) ?_
  refine es_putR rfl rfl ?_
  refine ew_1 rfl rfl (ew_1 rfl rfl ?_)
  refine es_newa (t1 := 361) (w := 168) rfl rfl (by decide) (by decide) rfl (e_I1z (by decide) (by decide)) (e_L1z (by decide)) (by (repeat rw [e_u2o (by decide)]); rfl) ?_
  refine es_putR rfl rfl ?_
  refine ew_1 rfl rfl (ew_1 rfl rfl ?_)
  refine es_newa (t1 := 362) (w := 4) rfl rfl (by decide) (by decide) rfl (e_I1z (by decide) (by decide)) (e_L1z (by decide)) (by (repeat rw [e_u2o (by decide)]); rfl) ?_
  refine es_putR rfl rfl ?_
  have e := e_Rm_eq
  unfold e_Rm at e
  rw [e]
  have e0 : e_IC (e_I1 xs) 0 (e_gA 0) (e_hA 0) = e_I1 xs := by
    have z : ∀ a, 8 ≤ a → a ≠ 5000 → am_u1 (e_I1 xs) a (fun _ => 0) = e_I1 xs := fun a h1 h2 => e_u1 (e_I1z h1 h2)
    have zg : e_g 0 = fun _ => 0 := by
      funext b
      unfold e_g
      split
      · decide
      · rfl
    show am_u1 (am_u1 (am_u1 (e_I1 xs) 336 (e_g 0)) 340 (fun _ => 0)) 341 (fun _ => 0) = _
    rw [zg, z _ (by decide) (by decide), z _ (by decide) (by decide), z _ (by decide) (by decide)]
  rw [show c + 1 + 1 + 1 + 1 + 1 + 1 + 1 + 1 + 1 + 1 + 1 + 1 + 1 + 1 + 1 + 1 + 1 + 1 + 1 + 1 + 1 + 1 + 1 + 1 + 1 = c + 25 by omega, show s + 160 + 128 + 302 + 1320 + 120 + 120 + 120 + 12 + 60 + 60 + 60 + 61 + 800 + 61 + 2500 + 61 + 12 + 30 + 30 + 30 + 30 + 360 + 200 + 168 + 4 = s + 6809 by omega, ← e0]
  refine ew_1 rfl rfl (ew_1 rfl rfl (ew_1 rfl rfl ?_))
  refine ew_call rfl rfl (u_cmdA (d := d) (k := 0) (nl := 3) (sp := 18480) (nn := 3) (by decide) rfl (by decide) (by decide) rfl rfl ?_)
  refine ew_1 rfl rfl (ew_1 rfl rfl (ew_1 rfl rfl ?_))
  refine ew_call rfl rfl (u_cmdA (d := d) (k := 1) (nl := 5) (sp := 25211058) (nn := 5) (by decide) rfl (by decide) (by decide) rfl rfl ?_)
  refine ew_1 rfl rfl (ew_1 rfl rfl (ew_1 rfl rfl ?_))
  refine ew_call rfl rfl (u_cmdA (d := d) (k := 2) (nl := 3) (sp := 6308) (nn := 3) (by decide) rfl (by decide) (by decide) rfl rfl ?_)
  refine ew_1 rfl rfl (ew_1 rfl rfl (ew_1 rfl rfl ?_))
  refine ew_call rfl rfl (u_cmdA (d := d) (k := 3) (nl := 4) (sp := 201863) (nn := 4) (by decide) rfl (by decide) (by decide) rfl rfl ?_)
  refine ew_1 rfl rfl (ew_1 rfl rfl (ew_1 rfl rfl ?_))
  refine ew_call rfl rfl (u_cmdA (d := d) (k := 4) (nl := 4) (sp := 201861) (nn := 4) (by decide) rfl (by decide) (by decide) rfl rfl ?_)
  refine ew_1 rfl rfl (ew_1 rfl rfl (ew_1 rfl rfl ?_))
  refine ew_call rfl rfl (u_cmdA (d := d) (k := 5) (nl := 3) (sp := 20652) (nn := 3) (by decide) rfl (by decide) (by decide) rfl rfl ?_)
  refine ew_1 rfl rfl (ew_1 rfl rfl (ew_1 rfl rfl ?_))
  refine ew_call rfl rfl (u_cmdA (d := d) (k := 6) (nl := 7) (sp := 5518774307) (nn := 7) (by decide) rfl (by decide) (by decide) rfl rfl ?_)
  refine ew_1 rfl rfl (ew_1 rfl rfl (ew_1 rfl rfl ?_))
  refine ew_call rfl rfl (u_cmdA (d := d) (k := 7) (nl := 11) (sp := 20464317797286661) (nn := 11) (by decide) rfl (by decide) (by decide) rfl rfl ?_)
  refine ew_1 rfl rfl (ew_1 rfl rfl (ew_1 rfl rfl ?_))
  refine ew_call rfl rfl (u_cmdA (d := d) (k := 8) (nl := 8) (sp := 152522462702) (nn := 8) (by decide) rfl (by decide) (by decide) rfl rfl ?_)
  refine ew_1 rfl rfl (ew_1 rfl rfl (ew_1 rfl rfl ?_))
  refine ew_call rfl rfl (u_cmdA (d := d) (k := 9) (nl := 6) (sp := 181451363) (nn := 6) (by decide) rfl (by decide) (by decide) rfl rfl ?_)
  refine ew_1 rfl rfl (ew_1 rfl rfl (ew_1 rfl rfl ?_))
  refine ew_call rfl rfl (u_cmdA (d := d) (k := 10) (nl := 9) (sp := 5945798267333) (nn := 9) (by decide) rfl (by decide) (by decide) rfl rfl ?_)
  refine ew_1 rfl rfl (ew_1 rfl rfl (ew_1 rfl rfl ?_))
  refine ew_call rfl rfl (u_cmdA (d := d) (k := 11) (nl := 6) (sp := 249875091) (nn := 6) (by decide) rfl (by decide) (by decide) rfl rfl ?_)
  refine ew_1 rfl rfl (ew_1 rfl rfl (ew_1 rfl rfl ?_))
  refine ew_call rfl rfl (u_cmdA (d := d) (k := 12) (nl := 2) (sp := 201) (nn := 2) (by decide) rfl (by decide) (by decide) rfl rfl ?_)
  refine ew_1 rfl rfl (ew_1 rfl rfl (ew_1 rfl rfl ?_))
  refine ew_call rfl rfl (u_cmdA (d := d) (k := 13) (nl := 3) (sp := 24777) (nn := 3) (by decide) rfl (by decide) (by decide) rfl rfl ?_)
  refine ew_1 rfl rfl (ew_1 rfl rfl (ew_1 rfl rfl ?_))
  refine ew_call rfl rfl (u_cmdA (d := d) (k := 14) (nl := 6) (sp := 190402761) (nn := 6) (by decide) rfl (by decide) (by decide) rfl rfl ?_)
  refine ew_1 rfl rfl (ew_1 rfl rfl (ew_1 rfl rfl ?_))
  refine ew_call rfl rfl (u_cmdA (d := d) (k := 15) (nl := 7) (sp := 6018865353) (nn := 7) (by decide) rfl (by decide) (by decide) rfl rfl ?_)
  refine ew_1 rfl rfl (ew_1 rfl rfl (ew_1 rfl rfl ?_))
  refine ew_call rfl rfl (u_cmdA (d := d) (k := 16) (nl := 4) (sp := 183685) (nn := 4) (by decide) rfl (by decide) (by decide) rfl rfl ?_)
  refine ew_1 rfl rfl (ew_1 rfl rfl (ew_1 rfl rfl ?_))
  refine ew_call rfl rfl (u_cmdA (d := d) (k := 17) (nl := 2) (sp := 294) (nn := 2) (by decide) rfl (by decide) (by decide) rfl rfl ?_)
  exact h
end CMM
