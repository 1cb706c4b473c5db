/-! THE LAW: its helpers, its ten cases, its loop -/
section LWR
variable {n : Nat} {X : z_Xt} {D : z_D} {Q : am_O → am_M → Prop} {K : Int → z_D → Prop} {T : Nat → z_D → Prop}
theorem l_run {k : Int} (h : z_c (2 * n) 150 40 [.ref 0, .int (z_i k)] D (z_qI K T)) (hK : ∀ a D1, K a D1 → Q (.inl (some (.int 0))) (e_E n X (z_ul D1 362 0 (z_il a)))) (hT : ∀ kd D1, T kd D1 → (kd = 0 ∧ Q (.inl (some (.int 1))) (e_E n (y_thr X) D1)) ∨ (kd = 1 ∧ Q (.inl (some (.int 2))) (e_E n (y_thr X) D1))) : e_c 151 154 [.ref 0, .int (z_i k), .ref 362] (e_E n X D) Q := by
  refine e_enter (l0 := [some (.ref 0), some (.int (z_i k)), some (.ref 362), none]) (Nat.le_of_ble_eq_true rfl) rfl ?_
  repeat (refine ew_1 rfl rfl ?_)
  refine ew_call rfl rfl (e_ofI h (fun a D1 q => ?_) (fun kd D1 q => ?_))
  · refine ew_1 rfl rfl ?_
    refine ew_out rfl ?_
    repeat (refine ew_1 rfl rfl ?_)
    exact ew_e rfl rfl trivial (hK a D1 q)
  · rcases hT kd D1 q with ⟨rfl, q2⟩ | ⟨rfl, q2⟩
    · show e_w 150 _ 13 _ _ _ _
      repeat (refine ew_1 rfl rfl ?_)
      exact ew_e rfl rfl trivial q2
    · show e_w 150 _ 16 _ _ _ _
      repeat (refine ew_1 rfl rfl ?_)
      exact ew_e rfl rfl trivial q2
theorem l_fault {k : Int} (h : z_c (2 * n) 150 41 [.ref 0, .int (z_i k)] D (z_qI K T)) (hK : ∀ a D1, K a D1 → Q (.inl (some (.int 0))) (e_E n X (z_ul D1 362 0 (z_il a)))) (hT : ∀ kd D1, T kd D1 → kd = 2 ∧ Q (.inl (some (.int 1))) (e_E n (y_thr X) D1)) : e_c 151 155 [.ref 0, .int (z_i k), .ref 362] (e_E n X D) Q := by
  refine e_enter (l0 := [some (.ref 0), some (.int (z_i k)), some (.ref 362), none]) (Nat.le_of_ble_eq_true rfl) rfl ?_
  repeat (refine ew_1 rfl rfl ?_)
  refine ew_call rfl rfl (e_ofI h (fun a D1 q => ?_) (fun kd D1 q => ?_))
  · refine ew_1 rfl rfl ?_
    refine ew_out rfl ?_
    repeat (refine ew_1 rfl rfl ?_)
    exact ew_e rfl rfl trivial (hK a D1 q)
  · obtain ⟨rfl, q2⟩ := hT kd D1 q
    show e_w 150 _ 13 _ _ _ _
    repeat (refine ew_1 rfl rfl ?_)
    exact ew_e rfl rfl trivial q2
theorem l_out {k : Int} (h : z_c (2 * n) 150 42 [.ref 0, .int (z_i k)] D (z_qI K T)) (hK : ∀ a D1, K a D1 → Q (.inl (some (.int 0))) (e_E n X (z_ul D1 362 0 (z_il a)))) (hT : ∀ kd D1, T kd D1 → kd = 2 ∧ Q (.inl (some (.int 1))) (e_E n (y_thr X) D1)) : e_c 151 156 [.ref 0, .int (z_i k), .ref 362] (e_E n X D) Q := by
  refine e_enter (l0 := [some (.ref 0), some (.int (z_i k)), some (.ref 362), none]) (Nat.le_of_ble_eq_true rfl) rfl ?_
  repeat (refine ew_1 rfl rfl ?_)
  refine ew_call rfl rfl (e_ofI h (fun a D1 q => ?_) (fun kd D1 q => ?_))
  · refine ew_1 rfl rfl ?_
    refine ew_out rfl ?_
    repeat (refine ew_1 rfl rfl ?_)
    exact ew_e rfl rfl trivial (hK a D1 q)
  · obtain ⟨rfl, q2⟩ := hT kd D1 q
    show e_w 150 _ 13 _ _ _ _
    repeat (refine ew_1 rfl rfl ?_)
    exact ew_e rfl rfl trivial q2
theorem l_count {k : Int} (h : z_c (2 * n) 150 43 [.ref 0, .int (z_i k)] D (z_qI K T)) (hK : ∀ a D1, K a D1 → Q (.inl (some (.int 0))) (e_E n X (z_ul D1 362 0 (z_il a)))) (hT : ∀ kd D1, T kd D1 → kd = 2 ∧ Q (.inl (some (.int 1))) (e_E n (y_thr X) D1)) : e_c 151 157 [.ref 0, .int (z_i k), .ref 362] (e_E n X D) Q := by
  refine e_enter (l0 := [some (.ref 0), some (.int (z_i k)), some (.ref 362), none]) (Nat.le_of_ble_eq_true rfl) rfl ?_
  repeat (refine ew_1 rfl rfl ?_)
  refine ew_call rfl rfl (e_ofI h (fun a D1 q => ?_) (fun kd D1 q => ?_))
  · refine ew_1 rfl rfl ?_
    refine ew_out rfl ?_
    repeat (refine ew_1 rfl rfl ?_)
    exact ew_e rfl rfl trivial (hK a D1 q)
  · obtain ⟨rfl, q2⟩ := hT kd D1 q
    show e_w 150 _ 13 _ _ _ _
    repeat (refine ew_1 rfl rfl ?_)
    exact ew_e rfl rfl trivial q2
theorem l_category {k : Int} (h : z_c (2 * n) 150 44 [.ref 0, .int (z_i k)] D (z_qI K T)) (hK : ∀ a D1, K a D1 → Q (.inl (some (.int 0))) (e_E n X (z_ul D1 362 0 (z_il a)))) (hT : ∀ kd D1, T kd D1 → kd = 2 ∧ Q (.inl (some (.int 1))) (e_E n (y_thr X) D1)) : e_c 151 158 [.ref 0, .int (z_i k), .ref 362] (e_E n X D) Q := by
  refine e_enter (l0 := [some (.ref 0), some (.int (z_i k)), some (.ref 362), none]) (Nat.le_of_ble_eq_true rfl) rfl ?_
  repeat (refine ew_1 rfl rfl ?_)
  refine ew_call rfl rfl (e_ofI h (fun a D1 q => ?_) (fun kd D1 q => ?_))
  · refine ew_1 rfl rfl ?_
    refine ew_out rfl ?_
    repeat (refine ew_1 rfl rfl ?_)
    exact ew_e rfl rfl trivial (hK a D1 q)
  · obtain ⟨rfl, q2⟩ := hT kd D1 q
    show e_w 150 _ 13 _ _ _ _
    repeat (refine ew_1 rfl rfl ?_)
    exact ew_e rfl rfl trivial q2
theorem l_meaning {w : Int64} {b : Int32} (h : z_c (2 * n) 150 45 [.ref 0, .long w, .int b] D (z_qI K T)) (hK : ∀ a D1, K a D1 → Q (.inl (some (.int 0))) (e_E n X (z_ul D1 362 0 (z_il a)))) (hT : ∀ kd D1, T kd D1 → kd = 3 ∧ Q (.inl (some (.int 1))) (e_E n (y_thr X) D1)) : e_c 151 159 [.ref 0, .long w, .int b, .ref 362] (e_E n X D) Q := by
  refine e_enter (l0 := [some (.ref 0), some (.long w), none, some (.int b), some (.ref 362), none]) (Nat.le_of_ble_eq_true rfl) rfl ?_
  repeat (refine ew_1 rfl rfl ?_)
  refine ew_call rfl rfl (e_ofI h (fun a D1 q => ?_) (fun kd D1 q => ?_))
  · refine ew_1 rfl rfl ?_
    refine ew_out rfl ?_
    repeat (refine ew_1 rfl rfl ?_)
    exact ew_e rfl rfl trivial (hK a D1 q)
  · obtain ⟨rfl, q2⟩ := hT kd D1 q
    show e_w 150 _ 16 _ _ _ _
    repeat (refine ew_1 rfl rfl ?_)
    exact ew_e rfl rfl trivial q2
theorem l_detail {w : Int64} {b : Int32} {k : Int} (h : z_c (2 * n) 150 46 [.ref 0, .long w, .int b, .int (z_i k)] D (z_qI K T)) (hK : ∀ a D1, K a D1 → Q (.inl (some (.int 0))) (e_E n X (z_ul D1 362 0 (z_il a)))) (hT : ∀ kd D1, T kd D1 → kd = 3 ∧ Q (.inl (some (.int 1))) (e_E n (y_thr X) D1)) : e_c 151 160 [.ref 0, .long w, .int b, .int (z_i k), .ref 362] (e_E n X D) Q := by
  refine e_enter (l0 := [some (.ref 0), some (.long w), none, some (.int b), some (.int (z_i k)), some (.ref 362), none]) (Nat.le_of_ble_eq_true rfl) rfl ?_
  repeat (refine ew_1 rfl rfl ?_)
  refine ew_call rfl rfl (e_ofI h (fun a D1 q => ?_) (fun kd D1 q => ?_))
  · refine ew_1 rfl rfl ?_
    refine ew_out rfl ?_
    repeat (refine ew_1 rfl rfl ?_)
    exact ew_e rfl rfl trivial (hK a D1 q)
  · obtain ⟨rfl, q2⟩ := hT kd D1 q
    show e_w 150 _ 18 _ _ _ _
    repeat (refine ew_1 rfl rfl ?_)
    exact ew_e rfl rfl trivial q2
end LWR
def v_tb : Nat → Option am_A := am_lkc k_t161
/-- the law's locals; what its loop needs behind a case -/
abbrev v_L (i : Nat) (o5 o6 : Option Value) : List (Option Value) := [some (.retAddr 0), some (.ref 0), some (.ref 336), some (.ref 362), some (.int (z_i (i : Int))), o5, o6]
def v_C (n : Nat) (xs : Nat → Int) (i : Nat) (X : z_Xt) (Q : am_O → am_M → Prop) : Prop := ∀ (X' : z_Xt) (D' : z_D) (o5 o6 : Option Value), X'.2.1 ≤ X.2.1 + 1 → X'.2.2 ≤ X.2.2 + 6 → y_J xs (i + 5) D' → e_w 151 v_tb 695 (v_L i o5 o6) [] (e_E n X' D') Q
theorem y_J_x {xs : Nat → Int} {i : Nat} {D : z_D} (h : y_J xs i D) (j : Nat) : D.1 5000 j = xs j := by
  obtain ⟨S, st, A1, tr, A2, F, v, _, _, _, _, _, hx⟩ := h
  exact hx j
section LCS
variable {n i : Nat} {xs : Nat → Int} {X : z_Xt} {D : z_D} {Q : am_O → am_M → Prop} {o5 o6 : Option Value}
theorem z_ix (i : Nat) : z_i (i : Int) + 1 = z_i ((i + 1 : Nat) : Int) ∧ z_i (i : Int) + 2 = z_i ((i + 2 : Nat) : Int) ∧ z_i (i : Int) + 3 = z_i ((i + 3 : Nat) : Int) ∧ z_i (i : Int) + 4 = z_i ((i + 4 : Nat) : Int) ∧ z_i (i : Int) + 5 = z_i ((i + 5 : Nat) : Int) :=
  ⟨z_add (i : Int) 1, z_add (i : Int) 2, z_add (i : Int) 3, z_add (i : Int) 4, z_add (i : Int) 5⟩
theorem c_thr {d : Nat} {K : Int → z_D → Prop} {T : Nat → z_D → Prop} (h : K (D.1 336 0) D) : z_c n (d + 1) 93 [.ref 336] D (z_qI K T) := by
  refine r_mThrown ?_
  exact h
theorem y_cmp00 (x : Int64) : lg_cmp x x = 0 := by
  unfold lg_cmp
  simp
theorem v_type (hn : i + 5 ≤ n) (hn2 : n ≤ 2560) (hxr : ∀ j, z_r (xs j)) (hJ : y_J xs i D) (hC : v_C n xs i X Q) : e_w 151 v_tb 92 (v_L i o5 o6) [] (e_E n X D) Q := by
  have hx := y_J_x hJ
  obtain ⟨x1, x2, x3, x4, _⟩ := z_ix i
  repeat (refine ew_1 rfl rfl ?_)
  refine ew_sld rfl x1 (by omega) (by omega) (hx _) ?_
  repeat (refine ew_1 rfl rfl ?_)
  refine ew_sld rfl x2 (by omega) (by omega) (hx _) ?_
  repeat (refine ew_1 rfl rfl ?_)
  refine ew_call rfl rfl (e_ofZ (z_cs (j_type (by omega) hJ)) (fun b D1 q => ?_) (fun kd D1 q => False.elim q))
  obtain ⟨hx1, q⟩ := q
  repeat (refine ew_1 rfl rfl ?_)
  refine ew_sld rfl x1 (by omega) (by omega) (hx1 _) ?_
  repeat (refine ew_1 rfl rfl ?_)
  refine ew_sld rfl x2 (by omega) (by omega) (hx1 _) ?_
  repeat (refine ew_1 rfl rfl ?_)
  refine ew_call rfl rfl (e_ofZ (z_cs q) (fun b2 D2 q2 => ?_) (fun kd D1 q => False.elim q))
  obtain ⟨rfl, q2⟩ := q2
  exact ew_b rfl rfl (fun _ => hC X D2 o5 o6 (by omega) (by omega) q2) (fun e => absurd rfl e)
theorem v_wipe (hn : i + 5 ≤ n) (hn2 : n ≤ 2560) (hxr : ∀ j, z_r (xs j)) (hJ : y_J xs i D) (hC : v_C n xs i X Q) : e_w 151 v_tb 149 (v_L i o5 o6) [] (e_E n X D) Q := by
  repeat (refine ew_1 rfl rfl ?_)
  refine ew_call rfl rfl (e_ofV (z_cs (j_wipe (by omega) hJ)) (fun D1 q => ?_) (fun kd D1 q => False.elim q))
  repeat (refine ew_1 rfl rfl ?_)
  refine ew_call rfl rfl (e_ofV (z_cs q) (fun D2 q2 => ?_) (fun kd D1 q => False.elim q))
  refine ew_1 rfl rfl ?_
  exact hC X D2 o5 o6 (by omega) (by omega) q2
theorem v_again (hn : i + 5 ≤ n) (hn2 : n ≤ 2560) (hxr : ∀ j, z_r (xs j)) (hJ : y_J xs i D) (hC : v_C n xs i X Q) : e_w 151 v_tb 160 (v_L i o5 o6) [] (e_E n X D) Q := by
  repeat (refine ew_1 rfl rfl ?_)
  refine ew_call rfl rfl (e_ofV (z_cs (j_again (by omega) hJ)) (fun D1 q => ?_) (fun kd D1 q => False.elim q))
  repeat (refine ew_1 rfl rfl ?_)
  refine ew_call rfl rfl (e_ofV (z_cs q) (fun D2 q2 => ?_) (fun kd D1 q => False.elim q))
  refine ew_1 rfl rfl ?_
  exact hC X D2 o5 o6 (by omega) (by omega) q2
theorem v_run (hn : i + 5 ≤ n) (hn2 : n ≤ 2560) (hxr : ∀ j, z_r (xs j)) (hJ : y_J xs i D) (hC : v_C n xs i X Q) : e_w 151 v_tb 171 (v_L i o5 o6) [] (e_E n X D) Q := by
  have hx := y_J_x hJ
  obtain ⟨x1, x2, x3, x4, _⟩ := z_ix i
  repeat (refine ew_1 rfl rfl ?_)
  refine ew_sld rfl x1 (by omega) (by omega) (hx _) ?_
  repeat (refine ew_1 rfl rfl ?_)
  refine ew_call rfl rfl (l_run (j_run (by omega) (hxr _) hJ) (fun a D1 q => ?_) (fun kd D1 q => ?_))
  · obtain ⟨_, hx1, q⟩ := q
    repeat (refine ew_1 rfl rfl ?_)
    refine ew_sld rfl x1 (by omega) (by omega) (hx1 _) ?_
    repeat (refine ew_1 rfl rfl ?_)
    refine ew_call rfl rfl (e_ofI (z_cs q) (fun b2 D2 q2 => ?_) (fun kd D1 q => False.elim q))
    obtain ⟨rfl, q0, q2, q3⟩ := q2
    repeat (refine ew_1 rfl rfl ?_)
    refine ew_call rfl rfl (e_ofI (T := fun _ _ => False) (K := fun a D3 => a = 0 ∧ D3 = D2) (c_thr ⟨q0, rfl⟩) (fun b3 D3 q4 => ?_) (fun kd D1 q => False.elim q))
    obtain ⟨rfl, rfl⟩ := q4
    repeat (refine ew_1 rfl rfl ?_)
    refine ew_b rfl rfl (fun _ => ?_) (fun e => absurd rfl e)
    repeat (refine ew_1 rfl rfl ?_)
    refine ew_b rfl rfl (fun e => absurd rfl e) (fun _ => ?_)
    repeat (refine ew_1 rfl rfl ?_)
    refine ew_in rfl ?_
    repeat (refine ew_1 rfl rfl ?_)
    refine ew_b rfl rfl (fun _ => ?_) (fun e => absurd (by rw [q3]; exact y_cmp00 _) e)
    refine ew_1 rfl rfl ?_
    exact hC X D3 _ _ (by omega) (by omega) q2
  · obtain ⟨hk, hx1, q⟩ := q
    rcases List.mem_cons.mp hk with rfl | hk
    · left
      refine ⟨rfl, ?_⟩
      repeat (refine ew_1 rfl rfl ?_)
      refine ew_sld rfl x1 (by omega) (by omega) (hx1 _) ?_
      repeat (refine ew_1 rfl rfl ?_)
      refine ew_call rfl rfl (e_ofI (z_cs q.2.2) (fun b2 D2 q2 => ?_) (fun kd D1 q => False.elim q))
      obtain ⟨q0, q2⟩ := q2
      repeat (refine ew_1 rfl rfl ?_)
      refine ew_call rfl rfl (e_ofI (T := fun _ _ => False) (K := fun a D3 => a = 1 ∧ D3 = D2) (c_thr ⟨q0, rfl⟩) (fun b3 D3 q4 => ?_) (fun kd D1 q => False.elim q))
      obtain ⟨rfl, rfl⟩ := q4
      repeat (refine ew_1 rfl rfl ?_)
      refine ew_b rfl rfl (fun _ => ?_) (fun e => absurd rfl e)
      repeat (refine ew_1 rfl rfl ?_)
      refine ew_b rfl rfl (fun _ => ?_) (fun e => absurd (by decide) e)
      refine ew_1 rfl rfl ?_
      exact hC (y_thr X) D3 _ _ (by show X.2.1 + 1 ≤ _; omega) (by show X.2.2 + 6 ≤ _; omega) q2
    · obtain rfl := List.mem_singleton.mp hk
      right
      refine ⟨rfl, ?_⟩
      repeat (refine ew_1 rfl rfl ?_)
      refine ew_sld rfl x1 (by omega) (by omega) (hx1 _) ?_
      repeat (refine ew_1 rfl rfl ?_)
      refine ew_call rfl rfl (e_ofI (z_cs q.2.2) (fun b2 D2 q2 => ?_) (fun kd D1 q => False.elim q))
      obtain ⟨q0, q2⟩ := q2
      repeat (refine ew_1 rfl rfl ?_)
      refine ew_call rfl rfl (e_ofI (T := fun _ _ => False) (K := fun a D3 => a = 2 ∧ D3 = D2) (c_thr ⟨q0, rfl⟩) (fun b3 D3 q4 => ?_) (fun kd D1 q => False.elim q))
      obtain ⟨rfl, rfl⟩ := q4
      repeat (refine ew_1 rfl rfl ?_)
      refine ew_b rfl rfl (fun _ => ?_) (fun e => absurd rfl e)
      repeat (refine ew_1 rfl rfl ?_)
      refine ew_b rfl rfl (fun _ => ?_) (fun e => absurd (by decide) e)
      refine ew_1 rfl rfl ?_
      exact hC (y_thr X) D3 _ _ (by show X.2.1 + 1 ≤ _; omega) (by show X.2.2 + 6 ≤ _; omega) q2
theorem v_fault (hn : i + 5 ≤ n) (hn2 : n ≤ 2560) (hxr : ∀ j, z_r (xs j)) (hJ : y_J xs i D) (hC : v_C n xs i X Q) : e_w 151 v_tb 227 (v_L i o5 o6) [] (e_E n X D) Q := by
  have hx := y_J_x hJ
  obtain ⟨x1, x2, x3, x4, _⟩ := z_ix i
  repeat (refine ew_1 rfl rfl ?_)
  refine ew_sld rfl x1 (by omega) (by omega) (hx _) ?_
  repeat (refine ew_1 rfl rfl ?_)
  refine ew_call rfl rfl (l_fault (j_fault (by omega) (hxr _) hJ) (fun a D1 q => ?_) (fun kd D1 q => ?_))
  · obtain ⟨_, hx1, q⟩ := q
    repeat (refine ew_1 rfl rfl ?_)
    refine ew_sld rfl x1 (by omega) (by omega) (hx1 _) ?_
    repeat (refine ew_1 rfl rfl ?_)
    refine ew_call rfl rfl (e_ofI (z_cs q) (fun b2 D2 q2 => ?_) (fun kd D1 q => False.elim q))
    obtain ⟨rfl, q0, q2, q3⟩ := q2
    repeat (refine ew_1 rfl rfl ?_)
    refine ew_call rfl rfl (e_ofI (T := fun _ _ => False) (K := fun a D3 => a = 0 ∧ D3 = D2) (c_thr ⟨q0, rfl⟩) (fun b3 D3 q4 => ?_) (fun kd D1 q => False.elim q))
    obtain ⟨rfl, rfl⟩ := q4
    repeat (refine ew_1 rfl rfl ?_)
    refine ew_b rfl rfl (fun _ => ?_) (fun e => absurd rfl e)
    repeat (refine ew_1 rfl rfl ?_)
    refine ew_b rfl rfl (fun e => absurd rfl e) (fun _ => ?_)
    repeat (refine ew_1 rfl rfl ?_)
    refine ew_in rfl ?_
    repeat (refine ew_1 rfl rfl ?_)
    refine ew_b rfl rfl (fun _ => ?_) (fun e => absurd (by rw [q3]; exact y_cmp00 _) e)
    refine ew_1 rfl rfl ?_
    exact hC X D3 _ _ (by omega) (by omega) q2
  · obtain ⟨hk, hx1, q⟩ := q
    obtain rfl := List.mem_singleton.mp hk
    refine ⟨rfl, ?_⟩
    repeat (refine ew_1 rfl rfl ?_)
    refine ew_sld rfl x1 (by omega) (by omega) (hx1 _) ?_
    repeat (refine ew_1 rfl rfl ?_)
    refine ew_call rfl rfl (e_ofI (z_cs q.2.2) (fun b2 D2 q2 => ?_) (fun kd D1 q => False.elim q))
    obtain ⟨q0, q2⟩ := q2
    repeat (refine ew_1 rfl rfl ?_)
    refine ew_call rfl rfl (e_ofI (T := fun _ _ => False) (K := fun a D3 => a = 1 ∧ D3 = D2) (c_thr ⟨q0, rfl⟩) (fun b3 D3 q4 => ?_) (fun kd D1 q => False.elim q))
    obtain ⟨rfl, rfl⟩ := q4
    repeat (refine ew_1 rfl rfl ?_)
    refine ew_b rfl rfl (fun _ => ?_) (fun e => absurd rfl e)
    repeat (refine ew_1 rfl rfl ?_)
    refine ew_b rfl rfl (fun _ => ?_) (fun e => absurd (by decide) e)
    refine ew_1 rfl rfl ?_
    exact hC (y_thr X) D3 _ _ (by show X.2.1 + 1 ≤ _; omega) (by show X.2.2 + 6 ≤ _; omega) q2
theorem v_out (hn : i + 5 ≤ n) (hn2 : n ≤ 2560) (hxr : ∀ j, z_r (xs j)) (hJ : y_J xs i D) (hC : v_C n xs i X Q) : e_w 151 v_tb 283 (v_L i o5 o6) [] (e_E n X D) Q := by
  have hx := y_J_x hJ
  obtain ⟨x1, x2, x3, x4, _⟩ := z_ix i
  repeat (refine ew_1 rfl rfl ?_)
  refine ew_sld rfl x1 (by omega) (by omega) (hx _) ?_
  repeat (refine ew_1 rfl rfl ?_)
  refine ew_call rfl rfl (l_out (j_out (by omega) (hxr _) hJ) (fun a D1 q => ?_) (fun kd D1 q => ?_))
  · obtain ⟨_, hx1, q⟩ := q
    repeat (refine ew_1 rfl rfl ?_)
    refine ew_sld rfl x1 (by omega) (by omega) (hx1 _) ?_
    repeat (refine ew_1 rfl rfl ?_)
    refine ew_call rfl rfl (e_ofI (z_cs q) (fun b2 D2 q2 => ?_) (fun kd D1 q => False.elim q))
    obtain ⟨rfl, q0, q2, q3⟩ := q2
    repeat (refine ew_1 rfl rfl ?_)
    refine ew_call rfl rfl (e_ofI (T := fun _ _ => False) (K := fun a D3 => a = 0 ∧ D3 = D2) (c_thr ⟨q0, rfl⟩) (fun b3 D3 q4 => ?_) (fun kd D1 q => False.elim q))
    obtain ⟨rfl, rfl⟩ := q4
    repeat (refine ew_1 rfl rfl ?_)
    refine ew_b rfl rfl (fun _ => ?_) (fun e => absurd rfl e)
    repeat (refine ew_1 rfl rfl ?_)
    refine ew_b rfl rfl (fun e => absurd rfl e) (fun _ => ?_)
    repeat (refine ew_1 rfl rfl ?_)
    refine ew_in rfl ?_
    repeat (refine ew_1 rfl rfl ?_)
    refine ew_b rfl rfl (fun _ => ?_) (fun e => absurd (by rw [q3]; exact y_cmp00 _) e)
    refine ew_1 rfl rfl ?_
    exact hC X D3 _ _ (by omega) (by omega) q2
  · obtain ⟨hk, hx1, q⟩ := q
    obtain rfl := List.mem_singleton.mp hk
    refine ⟨rfl, ?_⟩
    repeat (refine ew_1 rfl rfl ?_)
    refine ew_sld rfl x1 (by omega) (by omega) (hx1 _) ?_
    repeat (refine ew_1 rfl rfl ?_)
    refine ew_call rfl rfl (e_ofI (z_cs q.2.2) (fun b2 D2 q2 => ?_) (fun kd D1 q => False.elim q))
    obtain ⟨q0, q2⟩ := q2
    repeat (refine ew_1 rfl rfl ?_)
    refine ew_call rfl rfl (e_ofI (T := fun _ _ => False) (K := fun a D3 => a = 1 ∧ D3 = D2) (c_thr ⟨q0, rfl⟩) (fun b3 D3 q4 => ?_) (fun kd D1 q => False.elim q))
    obtain ⟨rfl, rfl⟩ := q4
    repeat (refine ew_1 rfl rfl ?_)
    refine ew_b rfl rfl (fun _ => ?_) (fun e => absurd rfl e)
    repeat (refine ew_1 rfl rfl ?_)
    refine ew_b rfl rfl (fun _ => ?_) (fun e => absurd (by decide) e)
    refine ew_1 rfl rfl ?_
    exact hC (y_thr X) D3 _ _ (by show X.2.1 + 1 ≤ _; omega) (by show X.2.2 + 6 ≤ _; omega) q2
theorem v_count (hn : i + 5 ≤ n) (hn2 : n ≤ 2560) (hxr : ∀ j, z_r (xs j)) (hJ : y_J xs i D) (hC : v_C n xs i X Q) : e_w 151 v_tb 339 (v_L i o5 o6) [] (e_E n X D) Q := by
  have hx := y_J_x hJ
  obtain ⟨x1, x2, x3, x4, _⟩ := z_ix i
  repeat (refine ew_1 rfl rfl ?_)
  refine ew_sld rfl x1 (by omega) (by omega) (hx _) ?_
  repeat (refine ew_1 rfl rfl ?_)
  refine ew_call rfl rfl (l_count (j_count (by omega) (hxr _) hJ) (fun a D1 q => ?_) (fun kd D1 q => ?_))
  · obtain ⟨_, hx1, q⟩ := q
    repeat (refine ew_1 rfl rfl ?_)
    refine ew_sld rfl x1 (by omega) (by omega) (hx1 _) ?_
    repeat (refine ew_1 rfl rfl ?_)
    refine ew_call rfl rfl (e_ofI (z_cs q) (fun b2 D2 q2 => ?_) (fun kd D1 q => False.elim q))
    obtain ⟨rfl, q0, q2, q3⟩ := q2
    repeat (refine ew_1 rfl rfl ?_)
    refine ew_call rfl rfl (e_ofI (T := fun _ _ => False) (K := fun a D3 => a = 0 ∧ D3 = D2) (c_thr ⟨q0, rfl⟩) (fun b3 D3 q4 => ?_) (fun kd D1 q => False.elim q))
    obtain ⟨rfl, rfl⟩ := q4
    repeat (refine ew_1 rfl rfl ?_)
    refine ew_b rfl rfl (fun _ => ?_) (fun e => absurd rfl e)
    repeat (refine ew_1 rfl rfl ?_)
    refine ew_b rfl rfl (fun e => absurd rfl e) (fun _ => ?_)
    repeat (refine ew_1 rfl rfl ?_)
    refine ew_in rfl ?_
    repeat (refine ew_1 rfl rfl ?_)
    refine ew_b rfl rfl (fun _ => ?_) (fun e => absurd (by rw [q3]; exact y_cmp00 _) e)
    refine ew_1 rfl rfl ?_
    exact hC X D3 _ _ (by omega) (by omega) q2
  · obtain ⟨hk, hx1, q⟩ := q
    obtain rfl := List.mem_singleton.mp hk
    refine ⟨rfl, ?_⟩
    repeat (refine ew_1 rfl rfl ?_)
    refine ew_sld rfl x1 (by omega) (by omega) (hx1 _) ?_
    repeat (refine ew_1 rfl rfl ?_)
    refine ew_call rfl rfl (e_ofI (z_cs q.2.2) (fun b2 D2 q2 => ?_) (fun kd D1 q => False.elim q))
    obtain ⟨q0, q2⟩ := q2
    repeat (refine ew_1 rfl rfl ?_)
    refine ew_call rfl rfl (e_ofI (T := fun _ _ => False) (K := fun a D3 => a = 1 ∧ D3 = D2) (c_thr ⟨q0, rfl⟩) (fun b3 D3 q4 => ?_) (fun kd D1 q => False.elim q))
    obtain ⟨rfl, rfl⟩ := q4
    repeat (refine ew_1 rfl rfl ?_)
    refine ew_b rfl rfl (fun _ => ?_) (fun e => absurd rfl e)
    repeat (refine ew_1 rfl rfl ?_)
    refine ew_b rfl rfl (fun _ => ?_) (fun e => absurd (by decide) e)
    refine ew_1 rfl rfl ?_
    exact hC (y_thr X) D3 _ _ (by show X.2.1 + 1 ≤ _; omega) (by show X.2.2 + 6 ≤ _; omega) q2
theorem v_category (hn : i + 5 ≤ n) (hn2 : n ≤ 2560) (hxr : ∀ j, z_r (xs j)) (hJ : y_J xs i D) (hC : v_C n xs i X Q) : e_w 151 v_tb 395 (v_L i o5 o6) [] (e_E n X D) Q := by
  have hx := y_J_x hJ
  obtain ⟨x1, x2, x3, x4, _⟩ := z_ix i
  repeat (refine ew_1 rfl rfl ?_)
  refine ew_sld rfl x1 (by omega) (by omega) (hx _) ?_
  repeat (refine ew_1 rfl rfl ?_)
  refine ew_call rfl rfl (l_category (j_category (by omega) (hxr _) hJ) (fun a D1 q => ?_) (fun kd D1 q => ?_))
  · obtain ⟨_, hx1, q⟩ := q
    repeat (refine ew_1 rfl rfl ?_)
    refine ew_sld rfl x1 (by omega) (by omega) (hx1 _) ?_
    repeat (refine ew_1 rfl rfl ?_)
    refine ew_call rfl rfl (e_ofI (z_cs q) (fun b2 D2 q2 => ?_) (fun kd D1 q => False.elim q))
    obtain ⟨rfl, q0, q2, q3⟩ := q2
    repeat (refine ew_1 rfl rfl ?_)
    refine ew_call rfl rfl (e_ofI (T := fun _ _ => False) (K := fun a D3 => a = 0 ∧ D3 = D2) (c_thr ⟨q0, rfl⟩) (fun b3 D3 q4 => ?_) (fun kd D1 q => False.elim q))
    obtain ⟨rfl, rfl⟩ := q4
    repeat (refine ew_1 rfl rfl ?_)
    refine ew_b rfl rfl (fun _ => ?_) (fun e => absurd rfl e)
    repeat (refine ew_1 rfl rfl ?_)
    refine ew_b rfl rfl (fun e => absurd rfl e) (fun _ => ?_)
    repeat (refine ew_1 rfl rfl ?_)
    refine ew_in rfl ?_
    repeat (refine ew_1 rfl rfl ?_)
    refine ew_b rfl rfl (fun _ => ?_) (fun e => absurd (by rw [q3]; exact y_cmp00 _) e)
    refine ew_1 rfl rfl ?_
    exact hC X D3 _ _ (by omega) (by omega) q2
  · obtain ⟨hk, hx1, q⟩ := q
    obtain rfl := List.mem_singleton.mp hk
    refine ⟨rfl, ?_⟩
    repeat (refine ew_1 rfl rfl ?_)
    refine ew_sld rfl x1 (by omega) (by omega) (hx1 _) ?_
    repeat (refine ew_1 rfl rfl ?_)
    refine ew_call rfl rfl (e_ofI (z_cs q.2.2) (fun b2 D2 q2 => ?_) (fun kd D1 q => False.elim q))
    obtain ⟨q0, q2⟩ := q2
    repeat (refine ew_1 rfl rfl ?_)
    refine ew_call rfl rfl (e_ofI (T := fun _ _ => False) (K := fun a D3 => a = 1 ∧ D3 = D2) (c_thr ⟨q0, rfl⟩) (fun b3 D3 q4 => ?_) (fun kd D1 q => False.elim q))
    obtain ⟨rfl, rfl⟩ := q4
    repeat (refine ew_1 rfl rfl ?_)
    refine ew_b rfl rfl (fun _ => ?_) (fun e => absurd rfl e)
    repeat (refine ew_1 rfl rfl ?_)
    refine ew_b rfl rfl (fun _ => ?_) (fun e => absurd (by decide) e)
    refine ew_1 rfl rfl ?_
    exact hC (y_thr X) D3 _ _ (by show X.2.1 + 1 ≤ _; omega) (by show X.2.2 + 6 ≤ _; omega) q2
theorem v_meaning (hn : i + 5 ≤ n) (hn2 : n ≤ 2560) (hxr : ∀ j, z_r (xs j)) (hJ : y_J xs i D) (hC : v_C n xs i X Q) : e_w 151 v_tb 451 (v_L i o5 o6) [] (e_E n X D) Q := by
  have hx := y_J_x hJ
  obtain ⟨x1, x2, x3, x4, _⟩ := z_ix i
  repeat (refine ew_1 rfl rfl ?_)
  refine ew_sld rfl x1 (by omega) (by omega) (hx _) ?_
  repeat (refine ew_1 rfl rfl ?_)
  refine ew_sld rfl x2 (by omega) (by omega) (hx _) ?_
  repeat (refine ew_1 rfl rfl ?_)
  refine ew_sld rfl x3 (by omega) (by omega) (hx _) ?_
  refine ew_b rfl rfl (fun c => ?_) (fun c => ?_)
  · repeat (refine ew_1 rfl rfl ?_)
    refine ew_call rfl rfl (l_meaning (j_meaning (b := false) (by omega) hJ) (fun a D1 q => ?_) (fun kd D1 q => ?_))
    · obtain ⟨_, hx1, q⟩ := q
      repeat (refine ew_1 rfl rfl ?_)
      refine ew_sld rfl x1 (by omega) (by omega) (hx1 _) ?_
      repeat (refine ew_1 rfl rfl ?_)
      refine ew_sld rfl x2 (by omega) (by omega) (hx1 _) ?_
      repeat (refine ew_1 rfl rfl ?_)
      refine ew_sld rfl x3 (by omega) (by omega) (hx1 _) ?_
      refine ew_b rfl rfl (fun _ => ?_) (fun c2 => absurd c c2)
      repeat (refine ew_1 rfl rfl ?_)
      refine ew_call rfl rfl (e_ofI (z_cs q) (fun b2 D2 q2 => ?_) (fun kd D1 q => False.elim q))
      obtain ⟨rfl, q0, q2, q3⟩ := q2
      repeat (refine ew_1 rfl rfl ?_)
      refine ew_call rfl rfl (e_ofI (T := fun _ _ => False) (K := fun a D3 => a = 0 ∧ D3 = D2) (c_thr ⟨q0, rfl⟩) (fun b3 D3 q4 => ?_) (fun kd D1 q => False.elim q))
      obtain ⟨rfl, rfl⟩ := q4
      repeat (refine ew_1 rfl rfl ?_)
      refine ew_b rfl rfl (fun _ => ?_) (fun e => absurd rfl e)
      repeat (refine ew_1 rfl rfl ?_)
      refine ew_b rfl rfl (fun e => absurd rfl e) (fun _ => ?_)
      repeat (refine ew_1 rfl rfl ?_)
      refine ew_in rfl ?_
      repeat (refine ew_1 rfl rfl ?_)
      refine ew_b rfl rfl (fun _ => ?_) (fun e => absurd (by rw [q3]; exact y_cmp00 _) e)
      refine ew_1 rfl rfl ?_
      exact hC X D3 _ _ (by omega) (by omega) q2
    · obtain ⟨hk, hx1, q⟩ := q
      obtain rfl := List.mem_singleton.mp hk
      refine ⟨rfl, ?_⟩
      repeat (refine ew_1 rfl rfl ?_)
      refine ew_sld rfl x1 (by omega) (by omega) (hx1 _) ?_
      repeat (refine ew_1 rfl rfl ?_)
      refine ew_sld rfl x2 (by omega) (by omega) (hx1 _) ?_
      repeat (refine ew_1 rfl rfl ?_)
      refine ew_sld rfl x3 (by omega) (by omega) (hx1 _) ?_
      refine ew_b rfl rfl (fun _ => ?_) (fun c2 => absurd c c2)
      repeat (refine ew_1 rfl rfl ?_)
      refine ew_call rfl rfl (e_ofI (z_cs q.2.2) (fun b2 D2 q2 => ?_) (fun kd D1 q => False.elim q))
      obtain ⟨q0, q2⟩ := q2
      repeat (refine ew_1 rfl rfl ?_)
      refine ew_call rfl rfl (e_ofI (T := fun _ _ => False) (K := fun a D3 => a = 1 ∧ D3 = D2) (c_thr ⟨q0, rfl⟩) (fun b3 D3 q4 => ?_) (fun kd D1 q => False.elim q))
      obtain ⟨rfl, rfl⟩ := q4
      repeat (refine ew_1 rfl rfl ?_)
      refine ew_b rfl rfl (fun _ => ?_) (fun e => absurd rfl e)
      repeat (refine ew_1 rfl rfl ?_)
      refine ew_b rfl rfl (fun _ => ?_) (fun e => absurd (by decide) e)
      refine ew_1 rfl rfl ?_
      exact hC (y_thr X) D3 _ _ (by show X.2.1 + 1 ≤ _; omega) (by show X.2.2 + 6 ≤ _; omega) q2
  · repeat (refine ew_1 rfl rfl ?_)
    refine ew_call rfl rfl (l_meaning (j_meaning (b := true) (by omega) hJ) (fun a D1 q => ?_) (fun kd D1 q => ?_))
    · obtain ⟨_, hx1, q⟩ := q
      repeat (refine ew_1 rfl rfl ?_)
      refine ew_sld rfl x1 (by omega) (by omega) (hx1 _) ?_
      repeat (refine ew_1 rfl rfl ?_)
      refine ew_sld rfl x2 (by omega) (by omega) (hx1 _) ?_
      repeat (refine ew_1 rfl rfl ?_)
      refine ew_sld rfl x3 (by omega) (by omega) (hx1 _) ?_
      refine ew_b rfl rfl (fun c2 => absurd c2 c) (fun _ => ?_)
      repeat (refine ew_1 rfl rfl ?_)
      refine ew_call rfl rfl (e_ofI (z_cs q) (fun b2 D2 q2 => ?_) (fun kd D1 q => False.elim q))
      obtain ⟨rfl, q0, q2, q3⟩ := q2
      repeat (refine ew_1 rfl rfl ?_)
      refine ew_call rfl rfl (e_ofI (T := fun _ _ => False) (K := fun a D3 => a = 0 ∧ D3 = D2) (c_thr ⟨q0, rfl⟩) (fun b3 D3 q4 => ?_) (fun kd D1 q => False.elim q))
      obtain ⟨rfl, rfl⟩ := q4
      repeat (refine ew_1 rfl rfl ?_)
      refine ew_b rfl rfl (fun _ => ?_) (fun e => absurd rfl e)
      repeat (refine ew_1 rfl rfl ?_)
      refine ew_b rfl rfl (fun e => absurd rfl e) (fun _ => ?_)
      repeat (refine ew_1 rfl rfl ?_)
      refine ew_in rfl ?_
      repeat (refine ew_1 rfl rfl ?_)
      refine ew_b rfl rfl (fun _ => ?_) (fun e => absurd (by rw [q3]; exact y_cmp00 _) e)
      refine ew_1 rfl rfl ?_
      exact hC X D3 _ _ (by omega) (by omega) q2
    · obtain ⟨hk, hx1, q⟩ := q
      obtain rfl := List.mem_singleton.mp hk
      refine ⟨rfl, ?_⟩
      repeat (refine ew_1 rfl rfl ?_)
      refine ew_sld rfl x1 (by omega) (by omega) (hx1 _) ?_
      repeat (refine ew_1 rfl rfl ?_)
      refine ew_sld rfl x2 (by omega) (by omega) (hx1 _) ?_
      repeat (refine ew_1 rfl rfl ?_)
      refine ew_sld rfl x3 (by omega) (by omega) (hx1 _) ?_
      refine ew_b rfl rfl (fun c2 => absurd c2 c) (fun _ => ?_)
      repeat (refine ew_1 rfl rfl ?_)
      refine ew_call rfl rfl (e_ofI (z_cs q.2.2) (fun b2 D2 q2 => ?_) (fun kd D1 q => False.elim q))
      obtain ⟨q0, q2⟩ := q2
      repeat (refine ew_1 rfl rfl ?_)
      refine ew_call rfl rfl (e_ofI (T := fun _ _ => False) (K := fun a D3 => a = 1 ∧ D3 = D2) (c_thr ⟨q0, rfl⟩) (fun b3 D3 q4 => ?_) (fun kd D1 q => False.elim q))
      obtain ⟨rfl, rfl⟩ := q4
      repeat (refine ew_1 rfl rfl ?_)
      refine ew_b rfl rfl (fun _ => ?_) (fun e => absurd rfl e)
      repeat (refine ew_1 rfl rfl ?_)
      refine ew_b rfl rfl (fun _ => ?_) (fun e => absurd (by decide) e)
      refine ew_1 rfl rfl ?_
      exact hC (y_thr X) D3 _ _ (by show X.2.1 + 1 ≤ _; omega) (by show X.2.2 + 6 ≤ _; omega) q2
theorem v_detail (hn : i + 5 ≤ n) (hn2 : n ≤ 2560) (hxr : ∀ j, z_r (xs j)) (hJ : y_J xs i D) (hC : v_C n xs i X Q) : e_w 151 v_tb 567 (v_L i o5 o6) [] (e_E n X D) Q := by
  have hx := y_J_x hJ
  obtain ⟨x1, x2, x3, x4, _⟩ := z_ix i
  repeat (refine ew_1 rfl rfl ?_)
  refine ew_sld rfl x1 (by omega) (by omega) (hx _) ?_
  repeat (refine ew_1 rfl rfl ?_)
  refine ew_sld rfl x2 (by omega) (by omega) (hx _) ?_
  repeat (refine ew_1 rfl rfl ?_)
  refine ew_sld rfl x3 (by omega) (by omega) (hx _) ?_
  refine ew_b rfl rfl (fun c => ?_) (fun c => ?_)
  · repeat (refine ew_1 rfl rfl ?_)
    refine ew_sld rfl x4 (by omega) (by omega) (hx _) ?_
    repeat (refine ew_1 rfl rfl ?_)
    refine ew_call rfl rfl (l_detail (j_detail (b := false) (by omega) (hxr _) hJ) (fun a D1 q => ?_) (fun kd D1 q => ?_))
    · obtain ⟨_, hx1, q⟩ := q
      repeat (refine ew_1 rfl rfl ?_)
      refine ew_sld rfl x1 (by omega) (by omega) (hx1 _) ?_
      repeat (refine ew_1 rfl rfl ?_)
      refine ew_sld rfl x2 (by omega) (by omega) (hx1 _) ?_
      repeat (refine ew_1 rfl rfl ?_)
      refine ew_sld rfl x3 (by omega) (by omega) (hx1 _) ?_
      refine ew_b rfl rfl (fun _ => ?_) (fun c2 => absurd c c2)
      repeat (refine ew_1 rfl rfl ?_)
      refine ew_sld rfl x4 (by omega) (by omega) (hx1 _) ?_
      repeat (refine ew_1 rfl rfl ?_)
      refine ew_call rfl rfl (e_ofI (z_cs q) (fun b2 D2 q2 => ?_) (fun kd D1 q => False.elim q))
      obtain ⟨rfl, q0, q2, q3⟩ := q2
      repeat (refine ew_1 rfl rfl ?_)
      refine ew_call rfl rfl (e_ofI (T := fun _ _ => False) (K := fun a D3 => a = 0 ∧ D3 = D2) (c_thr ⟨q0, rfl⟩) (fun b3 D3 q4 => ?_) (fun kd D1 q => False.elim q))
      obtain ⟨rfl, rfl⟩ := q4
      repeat (refine ew_1 rfl rfl ?_)
      refine ew_b rfl rfl (fun _ => ?_) (fun e => absurd rfl e)
      repeat (refine ew_1 rfl rfl ?_)
      refine ew_b rfl rfl (fun e => absurd rfl e) (fun _ => ?_)
      repeat (refine ew_1 rfl rfl ?_)
      refine ew_in rfl ?_
      repeat (refine ew_1 rfl rfl ?_)
      refine ew_b rfl rfl (fun _ => ?_) (fun e => absurd (by rw [q3]; exact y_cmp00 _) e)
      refine ew_1 rfl rfl ?_
      exact hC X D3 _ _ (by omega) (by omega) q2
    · obtain ⟨hk, hx1, q⟩ := q
      obtain rfl := List.mem_singleton.mp hk
      refine ⟨rfl, ?_⟩
      repeat (refine ew_1 rfl rfl ?_)
      refine ew_sld rfl x1 (by omega) (by omega) (hx1 _) ?_
      repeat (refine ew_1 rfl rfl ?_)
      refine ew_sld rfl x2 (by omega) (by omega) (hx1 _) ?_
      repeat (refine ew_1 rfl rfl ?_)
      refine ew_sld rfl x3 (by omega) (by omega) (hx1 _) ?_
      refine ew_b rfl rfl (fun _ => ?_) (fun c2 => absurd c c2)
      repeat (refine ew_1 rfl rfl ?_)
      refine ew_sld rfl x4 (by omega) (by omega) (hx1 _) ?_
      repeat (refine ew_1 rfl rfl ?_)
      refine ew_call rfl rfl (e_ofI (z_cs q.2.2) (fun b2 D2 q2 => ?_) (fun kd D1 q => False.elim q))
      obtain ⟨q0, q2⟩ := q2
      repeat (refine ew_1 rfl rfl ?_)
      refine ew_call rfl rfl (e_ofI (T := fun _ _ => False) (K := fun a D3 => a = 1 ∧ D3 = D2) (c_thr ⟨q0, rfl⟩) (fun b3 D3 q4 => ?_) (fun kd D1 q => False.elim q))
      obtain ⟨rfl, rfl⟩ := q4
      repeat (refine ew_1 rfl rfl ?_)
      refine ew_b rfl rfl (fun _ => ?_) (fun e => absurd rfl e)
      repeat (refine ew_1 rfl rfl ?_)
      refine ew_b rfl rfl (fun _ => ?_) (fun e => absurd (by decide) e)
      refine ew_1 rfl rfl ?_
      exact hC (y_thr X) D3 _ _ (by show X.2.1 + 1 ≤ _; omega) (by show X.2.2 + 6 ≤ _; omega) q2
  · repeat (refine ew_1 rfl rfl ?_)
    refine ew_sld rfl x4 (by omega) (by omega) (hx _) ?_
    repeat (refine ew_1 rfl rfl ?_)
    refine ew_call rfl rfl (l_detail (j_detail (b := true) (by omega) (hxr _) hJ) (fun a D1 q => ?_) (fun kd D1 q => ?_))
    · obtain ⟨_, hx1, q⟩ := q
      repeat (refine ew_1 rfl rfl ?_)
      refine ew_sld rfl x1 (by omega) (by omega) (hx1 _) ?_
      repeat (refine ew_1 rfl rfl ?_)
      refine ew_sld rfl x2 (by omega) (by omega) (hx1 _) ?_
      repeat (refine ew_1 rfl rfl ?_)
      refine ew_sld rfl x3 (by omega) (by omega) (hx1 _) ?_
      refine ew_b rfl rfl (fun c2 => absurd c2 c) (fun _ => ?_)
      repeat (refine ew_1 rfl rfl ?_)
      refine ew_sld rfl x4 (by omega) (by omega) (hx1 _) ?_
      repeat (refine ew_1 rfl rfl ?_)
      refine ew_call rfl rfl (e_ofI (z_cs q) (fun b2 D2 q2 => ?_) (fun kd D1 q => False.elim q))
      obtain ⟨rfl, q0, q2, q3⟩ := q2
      repeat (refine ew_1 rfl rfl ?_)
      refine ew_call rfl rfl (e_ofI (T := fun _ _ => False) (K := fun a D3 => a = 0 ∧ D3 = D2) (c_thr ⟨q0, rfl⟩) (fun b3 D3 q4 => ?_) (fun kd D1 q => False.elim q))
      obtain ⟨rfl, rfl⟩ := q4
      repeat (refine ew_1 rfl rfl ?_)
      refine ew_b rfl rfl (fun _ => ?_) (fun e => absurd rfl e)
      repeat (refine ew_1 rfl rfl ?_)
      refine ew_b rfl rfl (fun e => absurd rfl e) (fun _ => ?_)
      repeat (refine ew_1 rfl rfl ?_)
      refine ew_in rfl ?_
      repeat (refine ew_1 rfl rfl ?_)
      refine ew_b rfl rfl (fun _ => ?_) (fun e => absurd (by rw [q3]; exact y_cmp00 _) e)
      refine ew_1 rfl rfl ?_
      exact hC X D3 _ _ (by omega) (by omega) q2
    · obtain ⟨hk, hx1, q⟩ := q
      obtain rfl := List.mem_singleton.mp hk
      refine ⟨rfl, ?_⟩
      repeat (refine ew_1 rfl rfl ?_)
      refine ew_sld rfl x1 (by omega) (by omega) (hx1 _) ?_
      repeat (refine ew_1 rfl rfl ?_)
      refine ew_sld rfl x2 (by omega) (by omega) (hx1 _) ?_
      repeat (refine ew_1 rfl rfl ?_)
      refine ew_sld rfl x3 (by omega) (by omega) (hx1 _) ?_
      refine ew_b rfl rfl (fun c2 => absurd c2 c) (fun _ => ?_)
      repeat (refine ew_1 rfl rfl ?_)
      refine ew_sld rfl x4 (by omega) (by omega) (hx1 _) ?_
      repeat (refine ew_1 rfl rfl ?_)
      refine ew_call rfl rfl (e_ofI (z_cs q.2.2) (fun b2 D2 q2 => ?_) (fun kd D1 q => False.elim q))
      obtain ⟨q0, q2⟩ := q2
      repeat (refine ew_1 rfl rfl ?_)
      refine ew_call rfl rfl (e_ofI (T := fun _ _ => False) (K := fun a D3 => a = 1 ∧ D3 = D2) (c_thr ⟨q0, rfl⟩) (fun b3 D3 q4 => ?_) (fun kd D1 q => False.elim q))
      obtain ⟨rfl, rfl⟩ := q4
      repeat (refine ew_1 rfl rfl ?_)
      refine ew_b rfl rfl (fun _ => ?_) (fun e => absurd rfl e)
      repeat (refine ew_1 rfl rfl ?_)
      refine ew_b rfl rfl (fun _ => ?_) (fun e => absurd (by decide) e)
      refine ew_1 rfl rfl ?_
      exact hC (y_thr X) D3 _ _ (by show X.2.1 + 1 ≤ _; omega) (by show X.2.2 + 6 ≤ _; omega) q2
/-- one turn of the loop -/
theorem v_sw (hn : i + 5 ≤ n) (hn2 : n ≤ 2560) (hxr : ∀ j, z_r (xs j)) (hJ : y_J xs i D) (hC : v_C n xs i X Q) : e_w 151 v_tb 32 (v_L i o5 o6) [] (e_E n X D) Q := by
  have hx := y_J_x hJ
  repeat (refine ew_1 rfl rfl ?_)
  refine ew_sld (j := i) rfl rfl (by omega) (by omega) (hx _) ?_
  repeat (refine ew_1 rfl rfl ?_)
  refine ew_s rfl rfl ?_
  exact ⟨fun _ => v_type hn hn2 hxr hJ hC, fun _ => ⟨fun _ => v_wipe hn hn2 hxr hJ hC, fun _ => ⟨fun _ => v_again hn hn2 hxr hJ hC, fun _ => ⟨fun _ => v_run hn hn2 hxr hJ hC, fun _ => ⟨fun _ => v_fault hn hn2 hxr hJ hC, fun _ => ⟨fun _ => v_out hn hn2 hxr hJ hC, fun _ => ⟨fun _ => v_count hn hn2 hxr hJ hC, fun _ => ⟨fun _ => v_category hn hn2 hxr hJ hC, fun _ => ⟨fun _ => v_meaning hn hn2 hxr hJ hC, fun _ => ⟨fun _ => v_detail hn hn2 hxr hJ hC, fun _ => hC X D o5 o6 (by omega) (by omega) (y_J_le hJ (by omega))⟩⟩⟩⟩⟩⟩⟩⟩⟩⟩
theorem v_loop (hn2 : n ≤ 2560) (hxr : ∀ j, z_r (xs j)) : ∀ (m i : Nat) (X : z_Xt) (D : z_D) (o5 o6 : Option Value), m + i = n + 5 → y_J xs i D → (∀ (X' : z_Xt) (D' : z_D), X'.2.1 ≤ X.2.1 + m → X'.2.2 ≤ X.2.2 + 6 * m → Q (.inl (some (.int 1))) (e_E n X' D')) → e_w 151 v_tb 23 (v_L i o5 o6) [] (e_E n X D) Q := by
  intro m
  induction m using Nat.strongRecOn with
  | _ m ih =>
    intro i X D o5 o6 hm hJ hQ
    have e5 : Int32.ofNat n - 5 = z_i ((n : Int) - 5) := z_sub (n : Int) 5
    refine ew_1 rfl rfl (ew_1 rfl rfl (ew_1 rfl rfl (ew_1 rfl rfl (ew_1 rfl rfl ?_))))
    refine ew_b (c := Int32.ofNat n - 5 < z_i (i : Int)) rfl rfl (fun c => ?_) (fun c => ?_)
    · repeat (refine ew_1 rfl rfl ?_)
      exact ew_e rfl rfl (Or.inr rfl) (hQ X D (by omega) (by omega))
    · rw [e5, z_lt ⟨by omega, by omega⟩ ⟨by omega, by omega⟩] at c
      refine v_sw (by omega) hn2 hxr hJ (fun X' D' p5 p6 hX1 hX2 hJ' => ?_)
      refine ew_1 rfl rfl (ew_1 rfl rfl ?_)
      show e_w 151 v_tb 23 [some (.retAddr 0), some (.ref 0), some (.ref 336), some (.ref 362), some (.int (z_i (i : Int) + 5)), p5, p6] [] (e_E n X' D') Q
      rw [(z_ix i).2.2.2.2]
      exact ih (m - 5) (by omega) (i + 5) X' D' p5 p6 (by omega) hJ' (fun X'' D'' h1 h2 => hQ X'' D'' (by omega) (by omega))
end LCS
