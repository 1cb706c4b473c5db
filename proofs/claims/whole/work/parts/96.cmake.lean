/-! the class is made -/
def e_I0 (xs : Nat → Int32) (a b : Nat) : Int32 := if a = 5000 then xs b else 0
def e_L0 : Nat → Nat → Int64 := fun _ _ => 0
def e_R0 : Nat → Nat → Option Nat := fun _ _ => none
abbrev e_I1 (xs : Nat → Int32) : Nat → Nat → Int32 := am_u1 (am_u1 (am_u1 (e_I0 xs) 3 e_c3) 4 (e_f4 18)) 7 (e_f7 118)
abbrev e_L1 : Nat → Nat → Int64 := e_LN e_L0 (y_cmds.map (fun q => q.1))
theorem e_I0z {xs : Nat → Int32} {a : Nat} (h : a ≠ 5000) : e_I0 xs a = fun _ => 0 := by
  funext b
  unfold e_I0
  rw [if_neg h]
theorem e_I1z {xs : Nat → Int32} {a : Nat} (h0 : 8 ≤ a) (h : a ≠ 5000) : e_I1 xs a = fun _ => 0 := by
  show am_u1 (am_u1 (am_u1 (e_I0 xs) 3 e_c3) 4 (e_f4 18)) 7 (e_f7 118) a = _
  rw [e_u1o (by omega), e_u1o (by omega), e_u1o (by omega), e_I0z h]
theorem e_L1z {a : Nat} (h0 : 8 ≤ a) : e_L1 a = fun _ => 0 := by
  show am_u1 (am_u1 e_L0 5 (e_hf (y_cmds.map (fun q => q.1)))) 6 (e_tf (y_cmds.map (fun q => q.1))) a = _
  rw [e_u1o (by omega), e_u1o (by omega)]
  rfl
def e_p0 (j : Nat) : Nat := 31 + 5 * j
def e_RB : List (List (Option Nat)) := [[some 1, some 4, some 8, some 15, some 17, some 19, some 21, some 30], [some 2, some 3], [], [], [some 5, some 6, some 7], [], [], [], [some 9, some 11, some 13], [some 10], [], [some 12], [], [some 14], [], [some 16], [], [some 18], [], [some 20], [], [some 22, some 24, some 26, some 28], [some 23], [], [some 25], [], [some 27], [], [some 29], []]
/-- the references with k macros made, q of them in the row of macros -/
def e_Rq (k q a b : Nat) : Option Nat := bif Nat.blt a 30 then (e_RB.getD a []).getD b none else bif Nat.beq a 30 then (bif Nat.blt b q then some (31 + 5 * b) else none) else bif Nat.blt a (31 + 5 * k) then ((z_RM a).getD ((a - 31) % 5) []).getD b none else none
def e_Rc (a b : Nat) : Option Nat := bif Nat.blt a 336 then z_R e_p0 a b else none
def e_Rch : Nat → Nat → Option Nat := (am_u2 (am_u2 (am_u2 (am_u2 (am_u2 (am_u2 (am_u2 (am_u2 (am_u2 (am_u2 (am_u2 (am_u2 (am_u2 (am_u2 (am_u2 (am_u2 (am_u2 (am_u2 (am_u2 (am_u2 (am_u2 (am_u2 (am_u2 (am_u2 (am_u2 (am_u2 (am_u2 (am_u2 (am_u2 (am_u2 e_R0 1 0 (some 2)) 1 1 (some 3)) 0 0 (some 1)) 4 0 (some 5)) 4 1 (some 6)) 4 2 (some 7)) 0 1 (some 4)) 9 0 (some 10)) 8 0 (some 9)) 11 0 (some 12)) 8 1 (some 11)) 13 0 (some 14)) 8 2 (some 13)) 0 2 (some 8)) 15 0 (some 16)) 0 3 (some 15)) 17 0 (some 18)) 0 4 (some 17)) 19 0 (some 20)) 0 5 (some 19)) 0 6 (some 21)) 22 0 (some 23)) 21 0 (some 22)) 24 0 (some 25)) 21 1 (some 24)) 26 0 (some 27)) 21 2 (some 26)) 28 0 (some 29)) 21 3 (some 28)) 0 7 (some 30))
theorem e_far {f : Nat → Nat → Option Nat} {k j a b : Nat} {v : Option Nat} (hk : k < 30) (hj : j < 9) (h : ¬ (a < 30 ∧ b < 9)) : am_u2 f k j v a b = f a b := by
  unfold am_u2
  split
  · split
    · omega
    · rfl
  · rfl
theorem e_Rch_t : ∀ a, a < 30 → ∀ b, b < 9 → e_Rch a b = e_Rq 0 0 a b := by decide +kernel
theorem e_RB_l : ∀ a, a < 30 → (e_RB.getD a []).length ≤ 9 := by decide +kernel
theorem e_gd {l : List (Option Nat)} {b : Nat} (h : l.length ≤ b) : l.getD b none = none := by
  rw [List.getD_eq_getElem?_getD, List.getElem?_eq_none_iff.mpr h]
  rfl
theorem e_Rch_eq : e_Rch = e_Rq 0 0 := by
  funext a b
  by_cases h : a < 30 ∧ b < 9
  · exact e_Rch_t a h.1 b h.2
  · have e1 : e_Rch a b = none := by
      unfold e_Rch
      repeat rw [e_far (by decide) (by decide) h]
      rfl
    rw [e1]
    unfold e_Rq
    rw [z_blt, z_beq, z_blt, z_blt]
    by_cases h1 : a < 30
    · rw [decide_eq_true h1]
      exact (e_gd (Nat.le_trans (e_RB_l a h1) (by omega))).symm
    · rw [decide_eq_false h1, decide_eq_false (by omega : ¬ b < 0)]
      by_cases h2 : a = 30
      · rw [decide_eq_true h2]; rfl
      · rw [decide_eq_false h2, decide_eq_false (by omega : ¬ a < 31 + 5 * 0)]; rfl
theorem e_UM_at (R : Nat → Nat → Option Nat) (m x b : Nat) : e_UM R m x b = if x = m then (if b = 1 then some (m + 3) else if b = 0 then some (m + 1) else R x b) else if x = m + 3 then (if b = 0 then some (m + 4) else R x b) else if x = m + 1 then (if b = 0 then some (m + 2) else R x b) else R x b := by
  unfold e_UM am_u2
  by_cases h1 : x = m
  · subst h1; simp
  · by_cases h2 : x = m + 3
    · subst h2; simp
    · by_cases h3 : x = m + 1
      · subst h3; simp
      · simp [h1, h2, h3]
theorem e_Rq_m (k q : Nat) : e_UM (e_Rq k q) (31 + 5 * k) = e_Rq (k + 1) q := by
  funext a b
  rw [e_UM_at]
  by_cases h : 31 + 5 * k ≤ a ∧ a < 36 + 5 * k
  · have e0 : e_Rq k q a b = none := by
      unfold e_Rq
      rw [z_blt, z_beq, z_blt, z_blt, decide_eq_false (by omega : ¬ a < 30), decide_eq_false (by omega : ¬ a = 30), decide_eq_false (by omega : ¬ a < 31 + 5 * k)]
      rfl
    have e1 : e_Rq (k + 1) q a b = ((z_RM a).getD ((a - 31) % 5) []).getD b none := by
      unfold e_Rq
      rw [z_blt, z_beq, z_blt, z_blt, decide_eq_false (by omega : ¬ a < 30), decide_eq_false (by omega : ¬ a = 30), decide_eq_true (by omega : a < 31 + 5 * (k + 1))]
      rfl
    rw [e0, e1]
    have h5 : a = 31 + 5 * k ∨ a = 31 + 5 * k + 1 ∨ a = 31 + 5 * k + 2 ∨ a = 31 + 5 * k + 3 ∨ a = 31 + 5 * k + 4 := by omega
    rcases h5 with e | e | e | e | e
    · rw [if_pos e, show (a - 31) % 5 = 0 by omega, e]
      match b with
      | 0 => rfl
      | 1 => rfl
      | b + 2 => rw [if_neg (by omega), if_neg (by omega)]; rfl
    · rw [if_neg (by omega), if_neg (by omega), if_pos e, show (a - 31) % 5 = 1 by omega, e]
      match b with
      | 0 => rfl
      | b + 1 => rw [if_neg (by omega)]; rfl
    · rw [if_neg (by omega), if_neg (by omega), if_neg (by omega), show (a - 31) % 5 = 2 by omega]
      rfl
    · rw [if_neg (by omega), if_pos e, show (a - 31) % 5 = 3 by omega, e]
      match b with
      | 0 => rfl
      | b + 1 => rw [if_neg (by omega)]; rfl
    · rw [if_neg (by omega), if_neg (by omega), if_neg (by omega), show (a - 31) % 5 = 4 by omega]
      rfl
  · rw [if_neg (by omega), if_neg (by omega), if_neg (by omega)]
    unfold e_Rq
    rw [z_blt (a := a) (b := 31 + 5 * k), z_blt (a := a) (b := 31 + 5 * (k + 1)), show decide (a < 31 + 5 * k) = decide (a < 31 + 5 * (k + 1)) from decide_eq_decide.mpr (by omega)]
theorem e_Rq_a (k q : Nat) : am_u2 (e_Rq k q) 30 q (some (31 + 5 * q)) = e_Rq k (q + 1) := by
  funext a b
  unfold am_u2
  by_cases h : a = 30
  · subst h
    rw [if_pos rfl]
    show _ = (bif Nat.blt b (q + 1) then some (31 + 5 * b) else none)
    rw [z_blt]
    by_cases e : b = q
    · rw [if_pos e, decide_eq_true (by omega), e]
      rfl
    · rw [if_neg e]
      show (bif Nat.blt b q then some (31 + 5 * b) else none) = _
      rw [z_blt, show decide (b < q) = decide (b < q + 1) from decide_eq_decide.mpr (by omega)]
  · rw [if_neg h]
    unfold e_Rq
    rw [z_beq, decide_eq_false h]
    rfl
theorem e_RB_t : ∀ a, a < 30 → a = 0 ∨ e_RB.getD a [] = (z_RA e_p0).getD a [] := by decide +kernel
theorem e_R_end : am_u2 (e_Rq 61 60) 0 8 (some 331) = e_Rc := by
  funext a b
  unfold am_u2
  by_cases h : a = 0
  · subst h
    rw [if_pos rfl]
    match b with
    | 0 => rfl
    | 1 => rfl
    | 2 => rfl
    | 3 => rfl
    | 4 => rfl
    | 5 => rfl
    | 6 => rfl
    | 7 => rfl
    | 8 => rfl
    | b + 9 => rfl
  · rw [if_neg h]
    unfold e_Rq e_Rc z_R
    rw [z_blt (a := a) (b := 30), z_beq, z_blt (a := b), z_blt (a := a) (b := 336)]
    by_cases h1 : a < 30
    · rw [decide_eq_true h1, decide_eq_true (by omega : a < 336)]
      rcases e_RB_t a h1 with q | q
      · omega
      · show (e_RB.getD a []).getD b none = ((z_RA e_p0).getD a []).getD b none
        rw [q]
    · rw [decide_eq_false h1]
      by_cases h2 : a = 30
      · rw [decide_eq_true h2, decide_eq_true (by omega : a < 336)]
        rfl
      · rw [decide_eq_false h2]
        by_cases h3 : a < 336
        · rw [decide_eq_true h3]
          rfl
        · rw [decide_eq_false h3]
          rfl
section CM
variable {d n c s : Nat} {xs : Nat → Int32} {Q : am_O → am_M → Prop}
theorem e_Rqz {k q a : Nat} (h : 31 + 5 * k ≤ a) : e_Rq k q a = fun _ => none := by
  funext b
  unfold e_Rq
  rw [z_blt, z_beq, z_blt, z_blt, decide_eq_false (by omega : ¬ a < 30), decide_eq_false (by omega : ¬ a = 30), decide_eq_false (by omega : ¬ a < 31 + 5 * k)]
  rfl
theorem e_shL {t a : Nat} {sp : am_Sh} (h : a < t) (h2 : a < 362) (hs : z_sh 0 a = some sp) : e_sh t n a = some sp := by
  rw [e_sh_lo h h2]
  exact hs
theorem u_macsL (h : Q (.inl none) (e_M 336 n (e_I1 xs) e_L1 e_Rc (c + 305) (s + 3599))) : ∀ m k : Nat, m + k = 60 → e_w (d + 2) (k_tb 36) 129 [some (.ref 0), some (.int (z_i (k : Int)))] [] (e_M (31 + 5 * k) n (e_I1 xs) e_L1 (e_Rq k k) (c + 5 * k) (s + 59 * k)) Q := by
  intro m
  have z1 : ck_N 1 = 3 := rfl
  have z4 : ck_N 4 = 2 := rfl
  have hRq : ∀ k q : Nat, e_Rq k q 0 7 = some 30 := fun _ _ => rfl
  induction m with
  | zero =>
    intro k hk
    obtain rfl : k = 60 := by omega
    refine ew_1 rfl rfl (ew_1 rfl rfl ?_)
    refine es_getR rfl (e_shL (by omega) (by decide) rfl) (hRq _ _) ?_
    refine es_alen (kd := 4) (w := 60) rfl (e_shL (by omega) (by decide) rfl) (by decide) ?_
    refine ew_b rfl rfl (fun _ => ?_) (fun e => absurd ((e_le (by decide) (by decide)).mpr (Nat.le_refl _)) e)
    refine ew_1 rfl rfl ?_
    refine es_new (t1 := 31 + 5 * 60 + 1) rfl rfl (u_shm (m := 31 + 5 * 60) (i := 0) ⟨by decide, by decide, by decide⟩ (by decide) (by omega)) (e_I1z (by omega) (by omega)) (e_L1z (by omega)) (e_Rqz (by omega)) ?_
    refine ew_1 rfl rfl ?_
    refine ew_call rfl rfl (u_macro (m := 31 + 5 * 60) ⟨by decide, by decide, by decide⟩ (fun a h1 h2 => e_I1z (by omega) (by omega)) (fun a h1 h2 => e_L1z (by omega)) (fun a h1 h2 => e_Rqz (by omega)) ?_)
    rw [e_Rq_m]
    refine es_putR rfl (e_shL (by omega) (by decide) rfl) ?_
    refine ew_e rfl rfl trivial ?_
    rw [show (31 + 5 * 60 : Nat) = 331 from rfl, e_R_end]
    rw [z1, z4, show c + 5 * 60 + 1 + 1 + 1 + 1 + 1 = c + 305 by omega, show s + 59 * 60 + 3 + 2 + 12 + 2 + 40 = s + 3599 by omega]
    exact h
  | succ m ih =>
    intro k hk
    have hm : z_mc (31 + 5 * k) := ⟨by omega, by omega, by omega⟩
    refine ew_1 rfl rfl (ew_1 rfl rfl ?_)
    refine es_getR rfl (e_shL (by omega) (by decide) rfl) (hRq _ _) ?_
    refine es_alen (kd := 4) (w := 60) rfl (e_shL (by omega) (by decide) rfl) (by decide) ?_
    refine ew_b rfl rfl (fun e => absurd ((e_le (by omega) (by decide)).mp e) (by omega)) (fun _ => ?_)
    refine ew_1 rfl rfl ?_
    refine es_getR rfl (e_shL (by omega) (by decide) rfl) (hRq _ _) ?_
    refine ew_1 rfl rfl ?_
    refine es_new (t1 := 31 + 5 * k + 1) rfl rfl (u_shm (m := 31 + 5 * k) (i := 0) hm (by decide) (by omega)) (e_I1z (by omega) (by omega)) (e_L1z (by omega)) (e_Rqz (by omega)) ?_
    refine ew_1 rfl rfl ?_
    refine ew_call rfl rfl (u_macro hm (fun a h1 h2 => e_I1z (by omega) (by omega)) (fun a h1 h2 => e_L1z (by omega)) (fun a h1 h2 => e_Rqz (by omega)) ?_)
    rw [e_Rq_m]
    refine es_aast (w := 60) rfl (e_shL (by omega) (by decide) rfl) (u_shm (m := 31 + 5 * k) (i := 0) hm (by decide) (by omega)) rfl (by omega) (by decide) ?_
    rw [e_Rq_a]
    refine ew_1 rfl rfl (ew_1 rfl rfl ?_)
    show e_w (d + 2) (k_tb 36) 129 [some (.ref 0), some (.int (z_i (k : Int) + 1))] [] _ Q
    rw [e_inc, z1, z4, show c + 5 * k + 1 + 1 + 1 + 1 + 1 = c + 5 * (k + 1) by omega, show s + 59 * k + 3 + 2 + 12 + 2 + 40 = s + 59 * (k + 1) by omega, show 31 + 5 * k + 5 = 31 + 5 * (k + 1) by omega]
    exact ih (k + 1) (by omega)
/-- the class's object: cell 0 is there -/
theorem u_mouth (h : ∀ c s, c ≤ 400 → s ≤ 6000 → Q (.inl none) (e_M 336 n (e_I1 xs) e_L1 e_Rc c s)) : e_c (d + 6) 36 [.ref 0] (e_M 1 n (e_I0 xs) e_L0 e_R0 1 14) Q := by
  refine e_enter (l0 := [some (.ref 0), none]) (Nat.le_of_ble_eq_true rfl) rfl ?_
  refine ew_1 rfl rfl (ew_1 rfl rfl ?_)
  refine ew_1 rfl rfl ?_
  refine es_new (t1 := 2) rfl rfl rfl (e_I0z (by decide)) rfl rfl ?_
  refine ew_1 rfl rfl ?_
  refine ew_call rfl rfl (u_reader (d := d + 2) (fun a h1 h2 => e_I0z (by omega)) (fun a h1 h2 => rfl) (fun a h1 h2 => rfl) ?_)
  refine es_putR rfl rfl ?_
  refine ew_1 rfl rfl ?_
  refine es_new (t1 := 5) rfl rfl rfl (by rw [e_u1o (by decide)]; exact e_I0z (by decide)) rfl (by (repeat rw [e_u2o (by decide)]); rfl) ?_
  refine ew_1 rfl rfl ?_
  refine ew_call rfl rfl (u_names (d := d) (fun a h1 h2 => by rw [e_u1o (by omega)]; exact e_I0z (by omega)) (fun a h1 h2 => rfl) (fun a h1 h2 => by rw [e_u2o (by omega), e_u2o (by omega), e_u2o (by omega)]; rfl) ?_)
  refine es_putR rfl rfl ?_
  refine ew_1 rfl rfl ?_
  refine es_new (t1 := 9) rfl rfl rfl (e_I1z (by decide) (by decide)) (e_L1z (by decide)) (by (repeat rw [e_u2o (by decide)]); rfl) ?_
  refine ew_1 rfl rfl ?_
  refine ew_call rfl rfl (u_groups (d := d + 3) (fun a h1 h2 => e_I1z (by omega) (by omega)) (fun a h1 h2 => e_L1z (by omega)) (fun a h1 h2 => by (repeat rw [e_u2o (by omega)]); rfl) ?_)
  refine es_putR rfl rfl ?_
  refine ew_1 rfl rfl ?_
  refine es_new (t1 := 16) rfl rfl rfl (e_I1z (by decide) (by decide)) (e_L1z (by decide)) (by (repeat rw [e_u2o (by decide)]); rfl) ?_
  refine ew_1 rfl rfl (ew_1 rfl rfl ?_)
  refine ew_call rfl rfl (u_row (d := d + 4) (t1 := 17) (w := 300) rfl (by decide) (by decide) rfl rfl (e_I1z (by decide) (by decide)) (e_L1z (by decide)) (by (repeat rw [e_u2o (by decide)]); rfl) ?_)
  refine es_putR rfl rfl ?_
  refine ew_1 rfl rfl ?_
  refine es_new (t1 := 18) rfl rfl rfl (e_I1z (by decide) (by decide)) (e_L1z (by decide)) (by (repeat rw [e_u2o (by decide)]); rfl) ?_
  refine ew_1 rfl rfl (ew_1 rfl rfl ?_)
  refine ew_call rfl rfl (u_row (d := d + 4) (t1 := 19) (w := 200) rfl (by decide) (by decide) rfl rfl (e_I1z (by decide) (by decide)) (e_L1z (by decide)) (by (repeat rw [e_u2o (by decide)]); rfl) ?_)
  refine es_putR rfl rfl ?_
  refine ew_1 rfl rfl ?_
  refine es_new (t1 := 20) rfl rfl rfl (e_I1z (by decide) (by decide)) (e_L1z (by decide)) (by (repeat rw [e_u2o (by decide)]); rfl) ?_
  refine ew_1 rfl rfl (ew_1 rfl rfl ?_)
  refine ew_call rfl rfl (u_row (d := d + 4) (t1 := 21) (w := 12) rfl (by decide) (by decide) rfl rfl (e_I1z (by decide) (by decide)) (e_L1z (by decide)) (by (repeat rw [e_u2o (by decide)]); rfl) ?_)
  refine es_putR rfl rfl ?_
  refine ew_1 rfl rfl (ew_1 rfl rfl ?_)
  refine es_newa (t1 := 22) (w := 4) rfl rfl (by decide) (by decide) rfl (e_I1z (by decide) (by decide)) (e_L1z (by decide)) (by (repeat rw [e_u2o (by decide)]); rfl) ?_
  refine es_putR rfl rfl ?_
  refine ew_1 rfl rfl (ew_1 rfl rfl ?_)
  refine ew_1 rfl rfl (ew_1 rfl rfl ?_)
  refine es_getR (x := 21) rfl rfl rfl ?_
  refine es_alen (kd := 3) (w := 4) rfl rfl (by decide) ?_
  refine ew_b rfl rfl (fun e => absurd e (by decide)) (fun _ => ?_)
  refine ew_1 rfl rfl ?_
  refine es_getR (x := 21) rfl rfl rfl ?_
  refine ew_1 rfl rfl ?_
  refine es_new (t1 := 23) rfl rfl rfl (e_I1z (by decide) (by decide)) (e_L1z (by decide)) (by (repeat rw [e_u2o (by decide)]); rfl) ?_
  refine ew_1 rfl rfl (ew_1 rfl rfl ?_)
  refine ew_call rfl rfl (u_row (d := d + 4) (t1 := 24) (w := 40) rfl (by decide) (by decide) rfl rfl (e_I1z (by decide) (by decide)) (e_L1z (by decide)) (by (repeat rw [e_u2o (by decide)]); rfl) ?_)
  refine es_aast (w := 4) (j := 0) rfl rfl rfl (by decide) (by decide) (by decide) ?_
  refine ew_1 rfl rfl (ew_1 rfl rfl ?_)
  refine ew_1 rfl rfl (ew_1 rfl rfl ?_)
  refine es_getR (x := 21) rfl rfl rfl ?_
  refine es_alen (kd := 3) (w := 4) rfl rfl (by decide) ?_
  refine ew_b rfl rfl (fun e => absurd e (by decide)) (fun _ => ?_)
  refine ew_1 rfl rfl ?_
  refine es_getR (x := 21) rfl rfl rfl ?_
  refine ew_1 rfl rfl ?_
  refine es_new (t1 := 25) rfl rfl rfl (e_I1z (by decide) (by decide)) (e_L1z (by decide)) (by (repeat rw [e_u2o (by decide)]); rfl) ?_
  refine ew_1 rfl rfl (ew_1 rfl rfl ?_)
  refine ew_call rfl rfl (u_row (d := d + 4) (t1 := 26) (w := 40) rfl (by decide) (by decide) rfl rfl (e_I1z (by decide) (by decide)) (e_L1z (by decide)) (by (repeat rw [e_u2o (by decide)]); rfl) ?_)
  refine es_aast (w := 4) (j := 1) rfl rfl rfl (by decide) (by decide) (by decide) ?_
  refine ew_1 rfl rfl (ew_1 rfl rfl ?_)
  refine ew_1 rfl rfl (ew_1 rfl rfl ?_)
  refine es_getR (x := 21) rfl rfl rfl ?_
  refine es_alen (kd := 3) (w := 4) rfl rfl (by decide) ?_
  refine ew_b rfl rfl (fun e => absurd e (by decide)) (fun _ => ?_)
  refine ew_1 rfl rfl ?_
  refine es_getR (x := 21) rfl rfl rfl ?_
  refine ew_1 rfl rfl ?_
  refine es_new (t1 := 27) rfl rfl rfl (e_I1z (by decide) (by decide)) (e_L1z (by decide)) (by (repeat rw [e_u2o (by decide)]); rfl) ?_
  refine ew_1 rfl rfl (ew_1 rfl rfl ?_)
  refine ew_call rfl rfl (u_row (d := d + 4) (t1 := 28) (w := 40) rfl (by decide) (by decide) rfl rfl (e_I1z (by decide) (by decide)) (e_L1z (by decide)) (by (repeat rw [e_u2o (by decide)]); rfl) ?_)
  refine es_aast (w := 4) (j := 2) rfl rfl rfl (by decide) (by decide) (by decide) ?_
  refine ew_1 rfl rfl (ew_1 rfl rfl ?_)
  refine ew_1 rfl rfl (ew_1 rfl rfl ?_)
  refine es_getR (x := 21) rfl rfl rfl ?_
  refine es_alen (kd := 3) (w := 4) rfl rfl (by decide) ?_
  refine ew_b rfl rfl (fun e => absurd e (by decide)) (fun _ => ?_)
  refine ew_1 rfl rfl ?_
  refine es_getR (x := 21) rfl rfl rfl ?_
  refine ew_1 rfl rfl ?_
  refine es_new (t1 := 29) rfl rfl rfl (e_I1z (by decide) (by decide)) (e_L1z (by decide)) (by (repeat rw [e_u2o (by decide)]); rfl) ?_
  refine ew_1 rfl rfl (ew_1 rfl rfl ?_)
  refine ew_call rfl rfl (u_row (d := d + 4) (t1 := 30) (w := 40) rfl (by decide) (by decide) rfl rfl (e_I1z (by decide) (by decide)) (e_L1z (by decide)) (by (repeat rw [e_u2o (by decide)]); rfl) ?_)
  refine es_aast (w := 4) (j := 3) rfl rfl rfl (by decide) (by decide) (by decide) ?_
  refine ew_1 rfl rfl (ew_1 rfl rfl ?_)
  refine ew_1 rfl rfl (ew_1 rfl rfl ?_)
  refine es_getR (x := 21) rfl rfl rfl ?_
  refine es_alen (kd := 3) (w := 4) rfl rfl (by decide) ?_
  refine ew_b rfl rfl (fun _ => ?_) (fun e => absurd (by decide) e)
  refine ew_1 rfl rfl (ew_1 rfl rfl ?_)
  refine es_newa (t1 := 31) (w := 60) rfl rfl (by decide) (by decide) rfl (e_I1z (by decide) (by decide)) (e_L1z (by decide)) (by (repeat rw [e_u2o (by decide)]); rfl) ?_
  refine es_putR rfl rfl ?_
  refine ew_1 rfl rfl (ew_1 rfl rfl ?_)
  have e := e_Rch_eq
  unfold e_Rch at e
  rw [e]
  exact u_macsL (d := d + 3) (h _ _ (by decide) (by decide)) 60 0 rfl
end CM
