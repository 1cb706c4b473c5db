/-! the law's beginning: both objects, the state in which they begin -/
def e_S0 : y_S := (fun _ => [], fun _ => 0, fun _ => 0, fun _ => 0, y_cmds, [], fun _ => none, none)
abbrev e_D0 (xs : Nat → Int32) : z_D := (fun a b => (e_I2 xs a b).toInt, e_L1, e_p0)
section ST
variable {n : Nat} {xs : Nat → Int32} {Q : am_O → am_M → Prop}
abbrev e_nz (a : Nat) : Prop := a ≠ 3 ∧ a ≠ 4 ∧ a ≠ 7 ∧ a ≠ 336 ∧ a ≠ 340 ∧ a ≠ 341 ∧ a ≠ 5000
theorem e_I2z {a : Nat} (h : e_nz a) : e_I2 xs a = fun _ => 0 := by
  obtain ⟨h1, h2, h3, h4, h5, h6, h7⟩ := h
  show am_u1 (am_u1 (am_u1 (am_u1 (am_u1 (am_u1 (e_I0 xs) 3 e_c3) 4 (e_f4 18)) 7 (e_f7 118)) 336 (e_g 18)) 340 (e_gA 18)) 341 (e_hA 18) a = _
  rw [e_u1o h6, e_u1o h5, e_u1o h4, e_u1o h3, e_u1o h2, e_u1o h1, e_I0z h7]
theorem e_D0z {a : Nat} (h : e_nz a) (b : Nat) : (e_D0 xs).1 a b = 0 := by
  show (e_I2 xs a b).toInt = 0
  rw [e_I2z h]
  rfl
theorem e_f7t : ∀ k, k < 118 → (e_f7 118 k).toInt = if k < 18 then (k : Int) + 1 else 0 := by decide +kernel
theorem y_cmds_f : ∀ q ∈ y_cmds, q.2 = false := by decide +kernel
theorem e_cls : y_cls (e_D0 xs, y_A0) 0 (y_again e_S0) (e_D0 xs) := by
  have z := fun a b (h : e_nz a) => e_D0z (xs := xs) h b
  have r : ∀ a, e_nz a → y_row (e_D0 xs) a [] := fun a h => ⟨z a 1 h, fun i hi => (by cases hi)⟩
  have m : y_MA y_A0 (y_again e_S0) (e_D0 xs) := by
    refine ⟨fun j hj => ⟨?_, ?_, ?_⟩, fun i j hi hj e => ?_, fun j hj => ⟨[], r _ ?_, by decide⟩, fun j hj => ⟨[], r _ ?_, by decide⟩, fun i q hi e => (by cases e), fun l e => (by cases e), fun l e => (by cases e), fun v e => (by cases e), fun i hi => ⟨[], r _ ?_, by decide, fun x e => (by cases e)⟩⟩
    · show 31 ≤ 31 + 5 * j; omega
    · show 31 + 5 * j < 336; omega
    · show (31 + 5 * j - 31) % 5 = 0; omega
    · have e' : 31 + 5 * i = 31 + 5 * j := e
      omega
    · show e_nz (31 + 5 * j + 1); unfold e_nz; omega
    · show e_nz (31 + 5 * j + 3); unfold e_nz; omega
    · unfold e_nz; omega
  refine ⟨fun c _ => ⟨rfl, rfl⟩, r 15 (by decide), r 17 (by decide), r 19 (by decide), r 9 (by decide), r 11 (by decide), r 13 (by decide), ⟨z 1 2 (by decide), fun i hi => (by cases hi)⟩, fun c hc => ?_, ⟨?_, fun k hk => ?_⟩, fun k q e => ?_, z 0 9 (by decide), z 1 4 (by decide), z 1 3 (by decide), z 0 10 (by decide), z 0 11 (by decide), z 0 12 (by decide), z 0 13 (by decide), z 1 5 (by decide), m, rfl⟩
  · show (e_c3 c).toInt = y_cat0 c
    exact e_c3s c hc
  · show (18 : Int32).toInt = ((y_cmds.length : Nat) : Int)
    decide
  · show (e_f7 118 k).toInt = if k < 18 then (k : Int) + 1 else 0
    exact e_f7t k hk
  · have e : y_cmds[k]? = some q := e
    have e' : (y_cmds.map (fun q => q.1))[k]? = some q.1 := by rw [List.getElem?_map, e]; rfl
    have ef : q.2 = false := y_cmds_f q (List.mem_of_getElem? e)
    show e_hf (y_cmds.map (fun q => q.1)) k = y_hd q.1 ∧ e_tf (y_cmds.map (fun q => q.1)) k = y_tl q
    unfold e_hf e_tf
    rw [e']
    refine ⟨rfl, ?_⟩
    show y_tl (q.1, false) = y_tl q
    rw [← ef]
theorem e_ref : y_ref (e_D0 xs, fun _ => none, []) e_S0 (e_D0 xs) := by
  have z := fun a b (h : e_nz a) => e_D0z (xs := xs) h b
  have g : ∀ j, j ≠ 11 → (e_D0 xs).1 336 j = 0 := fun j hj => by
    show (e_g 18 j).toInt = 0
    unfold e_g
    rw [if_neg hj]
    rfl
  refine ⟨⟨rfl, fun c _ => rfl⟩, ⟨g _ (by decide), fun i hi => (by cases hi)⟩, ⟨g _ (by decide), fun i hi => (by cases hi)⟩, ⟨g _ (by decide), fun i hi => (by cases hi)⟩, ⟨g _ (by decide), fun i hi => (by cases hi)⟩, g _ (by decide), ⟨⟨g _ (by decide), fun i hi => (by cases hi)⟩, fun i k v e => (by cases e), fun i hi => (by cases hi)⟩, fun c _ => z _ _ (by decide), ⟨?_, fun k q e => ?_⟩, fun k hk => ?_, g _ (by decide), fun i q e => (by cases e), fun l e => (by cases e), fun l e => (by cases e), fun v e => (by cases e), fun i l _ e => (by cases e), g _ (by decide), g _ (by decide), g _ (by decide), ⟨?_, rfl⟩, g _ (by decide), ⟨g _ (by decide), fun k f e => (by cases e)⟩, fun i hi => ?_⟩
  · show (e_g 18 11).toInt = ((y_cmds.length : Nat) : Int)
    decide
  · have e : y_cmds[k]? = some q := e
    have hk : k < 18 := (List.getElem?_eq_some_iff.mp e).1
    have eq : y_cmds.getD k ([], true) = q := by rw [List.getD_eq_getElem?_getD, e]; rfl
    obtain ⟨h1, h2, h3⟩ := e_cmA k hk
    have h4 := e_cmB k hk
    rw [eq] at h1 h2 h3 h4
    refine ⟨⟨h1, fun i hi => h3 i (by omega) hi⟩, ?_⟩
    rw [h2]
    exact z _ _ (by decide)
  · rw [z _ _ (by decide)]
    show (0 : Int) = y_mr 0
    decide
  · show (e_D0 xs).1 336 6 = 0 + (e_D0 xs).1 336 6
    omega
  · rw [z _ _ (by decide), z _ _ (by decide)]
    decide
theorem e_ok0 : y_ok 0 e_S0 := by
  refine ⟨by decide, fun t ht => (by cases ht), (by decide), (by decide), by decide, fun t ht => (by cases ht), by decide, fun t ht => (by cases ht), by decide, fun t ht => (by cases ht), by decide, by decide, rfl, fun t ht => (by cases ht), List.Pairwise.nil, fun i k v e => (by cases e), fun c => ⟨Int.le_refl _, by show (0 : Int) ≤ 15; decide⟩, fun k => Or.inl ⟨Int.le_refl _, by show (0 : Int) ≤ 18; decide⟩, fun k hk => rfl, (by decide), y_cmds_no, by decide, fun q hq => (by cases hq), (by decide), (by decide), fun i l _ e => (by cases e), ⟨rfl, Int.le_refl _⟩, (by decide), rfl⟩
theorem e_J {D' : z_D} (hr : y_ref (e_D0 xs, fun _ => none, []) (y_again e_S0) D') : y_J (fun j => (xs j).toInt) 0 D' :=
  y_J_of (D1 := e_D0 xs) (yo_again e_ok0) (by decide) e_cls (rf_s1f hr) rfl (Or.inl ⟨rfl, rfl⟩) (fun c _ => rfl) (fun j => rfl) (fun _ => ⟨rfl, rfl, fun _ => rfl, rfl⟩)
theorem e_M_z (c s : Nat) (D : z_D) : e_M 362 n (fun a b => z_i (D.1 a b)) D.2.1 (z_R D.2.2) c s = z_E (2 * n + 1) (some 362, c, s) D := by
  unfold e_M z_E
  rw [e_sh_y]
theorem u_start {c s : Nat} (h : ∀ D', y_ref (e_D0 xs, fun _ => none, []) (y_again e_S0) D' → Q (.inl none) (e_M 362 n (fun a b => z_i (D'.1 a b)) D'.2.1 (z_R D'.2.2) c s)) : e_c 150 92 [.ref 336] (e_M 362 n (e_I2 xs) e_L1 (z_R e_p0) c s) Q := by
  have e : e_I2 xs = fun a b => z_i ((e_D0 xs).1 a b) := by
    funext a b
    exact (z_i_of _).symm
  have hz : z_c (2 * n + 1) 150 92 [.ref 336] (e_D0 xs) (z_qV (fun D' => y_ref (e_D0 xs, fun _ => none, []) (y_again e_S0) D') (fun _ _ => False)) := c_mStart (d := 149) e_ref rfl rfl (fun D' q => q)
  obtain ⟨o, D', h1, h2⟩ := hz (some 362, c, s)
  rw [e]
  have e2 := e_M_z (n := n) c s (e_D0 xs)
  show e_c 150 92 [.ref 336] (e_M 362 n (fun a b => z_i ((e_D0 xs).1 a b)) (e_D0 xs).2.1 (z_R (e_D0 xs).2.2) c s) Q
  rw [e2]
  cases o with
  | inr k => exact False.elim h2
  | inl v => cases v with
    | some v => exact False.elim h2
    | none =>
      refine ⟨_, _, h1, ?_⟩
      show Q (.inl none) (z_E (2 * n + 1) (some 362, c, s) D')
      rw [← e_M_z]
      exact h D' h2
theorem v_begin (hn2 : n ≤ 2560) (hQ : ∀ (X' : z_Xt) (D' : z_D), X'.2.1 ≤ 3100 → X'.2.2 ≤ 30000 → Q (.inl (some (.int 1))) (e_E n X' D')) : e_w 151 v_tb 0 [some (.retAddr 0), none, none, none, none, none, none] [] (e_M 0 n (e_I0 xs) e_L0 e_R0 0 0) Q := by
  refine es_new (t1 := 1) rfl rfl rfl (e_I0z (by decide)) rfl rfl ?_
  refine ew_1 rfl rfl ?_
  refine ew_call rfl rfl (u_mouth (d := 145) (fun c s hc hs => ?_))
  refine ew_1 rfl rfl ?_
  refine es_new (t1 := 337) rfl rfl rfl (e_I1z (by decide) (by decide)) (e_L1z (by decide)) rfl ?_
  refine ew_1 rfl rfl ?_
  refine ew_call rfl rfl (u_model (d := 149) ?_)
  refine ew_1 rfl rfl ?_
  refine ew_call rfl rfl (u_start (fun D' hr => ?_))
  refine ew_e rfl rfl trivial ?_
  have h1 := hr.1.1
  have h2 := hr.1.2 362 (Or.inr (by decide))
  refine ew_1 rfl rfl (ew_1 rfl rfl ?_)
  refine es_newa (t1 := 363) (w := 1) rfl rfl (by decide) (by decide) rfl ?_ ?_ rfl ?_
  · funext b
    show z_i (D'.1 362 b) = 0
    rw [h2]
    show z_i ((e_D0 xs).1 362 b) = 0
    rw [e_D0z (by decide)]
    decide
  · rw [h1]
    exact e_L1z (a := 362) (by decide)
  · refine ew_1 rfl rfl (ew_1 rfl rfl (ew_1 rfl rfl ?_))
    have hl := v_loop (n := n) (Q := Q) (xs := fun j => (xs j).toInt) hn2 (fun j => z_r_toInt _) (n + 5) 0 (some 363, c + 1 + 25 + 1, s + ck_N 6 + 6809 + 1) D' none none (by omega) (e_J hr) (fun X' D'' a1 a2 => hQ X' D'' (by
      have a1 : X'.2.1 ≤ c + 1 + 25 + 1 + (n + 5) := a1
      omega) (by
      have a2 : X'.2.2 ≤ s + 41 + 6809 + 1 + 6 * (n + 5) := a2
      omega))
    have e0 : z_i ((0 : Nat) : Int) = 0 := by decide
    unfold v_L at hl
    rw [e0] at hl
    exact hl
end ST
