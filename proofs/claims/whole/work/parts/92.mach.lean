/-! the abstract machine over any memory -/
def e_w (d : Nat) (tb : Nat → Option am_A) (pc : Nat) (ls : List (Option Value)) (st : List Value) (M : am_M) (Q : am_O → am_M → Prop) : Prop := ∃ k, am_wp (am_ev k_tb k_ml d) tb k (pc, ls, st, M) Q
def e_c (d y : Nat) (as : List Value) (M : am_M) (Q : am_O → am_M → Prop) : Prop := ∃ o M', am_ev k_tb k_ml d y as M o M' ∧ Q o M'
section EW
variable {d y : Nat} {tb : Nat → Option am_A} {pc n1 : Nat} {ls ls1 l0 : List (Option Value)} {st st1 as : List Value} {M M1 : am_M} {Q : am_O → am_M → Prop} {a : am_A}
theorem e_enter (hl : (am_args as).length ≤ k_ml y) (he : am_ent (k_ml y) as = l0) (h : e_w d (k_tb y) 0 l0 [] M Q) : e_c (d + 1) y as M Q := by
  obtain ⟨k, hk⟩ := h
  rw [← he] at hk
  obtain ⟨o, M', h1, h2⟩ := am_wp_one k _ _ hk
  exact ⟨o, M', ⟨hl, k, h1⟩, h2⟩
theorem ew_1 (ht : tb pc = some a) (ha : a ls st M = some (.inl (n1, ls1, st1, M1))) (h : e_w d tb n1 ls1 st1 M1 Q) : e_w d tb pc ls st M Q := by
  obtain ⟨k, hk⟩ := h
  refine ⟨k + 1, ?_⟩
  unfold am_wp
  dsimp only
  rw [ht]
  dsimp only
  rw [ha]
  exact hk
theorem ew_c {c : Prop} (ht : tb pc = some a) (ha : a ls st M = some (.inr (.inl (c, (n1, ls1, st1, M1))))) (hc : c) (h : e_w d tb n1 ls1 st1 M1 Q) : e_w d tb pc ls st M Q := by
  obtain ⟨k, hk⟩ := h
  refine ⟨k + 1, ?_⟩
  unfold am_wp
  dsimp only
  rw [ht]
  dsimp only
  rw [ha]
  exact ⟨hc, hk⟩
theorem ew_b {c : Prop} {t : Nat} (ht : tb pc = some a) (ha : a ls st M = some (.inr (.inr (.inl (c, t, (n1, ls1, st1, M1)))))) (h1 : c → e_w d tb t ls1 st1 M1 Q) (h2 : ¬ c → e_w d tb n1 ls1 st1 M1 Q) : e_w d tb pc ls st M Q := by
  by_cases e : c
  · obtain ⟨k, hk⟩ := h1 e
    refine ⟨k + 1, ?_⟩
    unfold am_wp
    dsimp only
    rw [ht]
    dsimp only
    rw [ha]
    exact ⟨fun _ => hk, fun q => absurd e q⟩
  · obtain ⟨k, hk⟩ := h2 e
    refine ⟨k + 1, ?_⟩
    unfold am_wp
    dsimp only
    rw [ht]
    dsimp only
    rw [ha]
    exact ⟨fun q => absurd q e, fun _ => hk⟩
theorem ew_s {x : Int32} {sw : List (Int32 × Nat)} (ht : tb pc = some a) (ha : a ls st M = some (.inr (.inr (.inr (.inl (sw, x, (n1, ls1, st1, M1))))))) (h : am_swp (fun t => e_w d tb t ls1 st1 M1 Q) n1 x sw) : e_w d tb pc ls st M Q := by
  obtain ⟨t, h1, h2⟩ := am_swp_one sw h
  obtain ⟨k, hk⟩ := h1
  refine ⟨k + 1, ?_⟩
  unfold am_wp
  dsimp only
  rw [ht]
  dsimp only
  rw [ha]
  exact h2 _ hk
theorem ew_e {c : Prop} {o : am_O} (ht : tb pc = some a) (ha : a ls st M = some (.inr (.inr (.inr (.inr (.inr (c, o, M1))))))) (hc : c) (h : Q o M1) : e_w d tb pc ls st M Q := by
  refine ⟨1, ?_⟩
  unfold am_wp
  dsimp only
  rw [ht]
  dsimp only
  rw [ha]
  exact ⟨hc, h⟩
theorem ew_call {hd : Nat → Option (Nat × Nat)} (ht : tb pc = some a) (ha : a ls st M = some (.inr (.inr (.inr (.inr (.inl (y, as, hd, (n1, ls1, st1, M1)))))))) (h : e_c d y as M1 (fun o M' => match o with
    | .inl v => e_w d tb n1 ls1 (v.toList ++ st1) M' Q
    | .inr x => match hd x with
      | some h => e_w d tb h.1 (am_kl ls1 h.2) [] M' Q
      | none => Q (.inr x) M')) : e_w d tb pc ls st M Q := by
  obtain ⟨o, M', h1, h2⟩ := h
  cases o with
  | inl v =>
    obtain ⟨k, hk⟩ := h2
    refine ⟨k + 1, ?_⟩
    unfold am_wp
    dsimp only
    rw [ht]
    dsimp only
    rw [ha]
    exact ⟨.inl v, M', h1, hk⟩
  | inr x =>
    dsimp only at h2
    cases hh : hd x with
    | none =>
      rw [hh] at h2
      refine ⟨1, ?_⟩
      unfold am_wp
      dsimp only
      rw [ht]
      dsimp only
      rw [ha]
      refine ⟨.inr x, M', h1, ?_⟩
      dsimp only
      rw [hh]
      exact h2
    | some h' =>
      rw [hh] at h2
      obtain ⟨k, hk⟩ := h2
      refine ⟨k + 1, ?_⟩
      unfold am_wp
      dsimp only
      rw [ht]
      dsimp only
      rw [ha]
      refine ⟨.inr x, M', h1, ?_⟩
      dsimp only
      rw [hh]
      exact hk
theorem e_mono {Q' : am_O → am_M → Prop} (h : e_c d y as M Q) (hq : ∀ o M', Q o M' → Q' o M') : e_c d y as M Q' := by
  obtain ⟨o, M', h1, h2⟩ := h
  exact ⟨o, M', h1, hq o M' h2⟩
end EW
section EZ
variable {n d y : Nat} {as : List Value} {X : z_Xt} {D : z_D} {Q : am_O → am_M → Prop}
theorem e_of {P : am_O → z_D → Prop} (h : z_c n d y as D P) (hq : ∀ o D', P o D' → Q o (z_E n (z_X o X) D')) : e_c d y as (z_E n X D) Q := by
  obtain ⟨o, D', h1, h2⟩ := h X
  exact ⟨o, _, h1, hq o D' h2⟩
theorem e_ofI {K : Int → z_D → Prop} {T : Nat → z_D → Prop} (h : z_c n d y as D (z_qI K T)) (hK : ∀ a D', K a D' → Q (.inl (some (.int (z_i a)))) (z_E n X D')) (hT : ∀ k D', T k D' → Q (.inr k) (z_E n (none, X.2.1 + 1, X.2.2 + 6) D')) : e_c d y as (z_E n X D) Q := by
  refine e_of h (fun o D' hp => ?_)
  cases o with
  | inr k => exact hT k D' hp
  | inl v => cases v with
    | none => exact False.elim hp
    | some v => cases v with
      | int v =>
        obtain ⟨z, rfl, h3⟩ := hp
        exact hK z D' h3
      | _ => exact False.elim hp
theorem e_ofZ {K : Bool → z_D → Prop} {T : Nat → z_D → Prop} (h : z_c n d y as D (z_qZ K T)) (hK : ∀ a D', K a D' → Q (.inl (some (.int (z_i (z_b a))))) (z_E n X D')) (hT : ∀ k D', T k D' → Q (.inr k) (z_E n (none, X.2.1 + 1, X.2.2 + 6) D')) : e_c d y as (z_E n X D) Q := by
  refine e_of h (fun o D' hp => ?_)
  cases o with
  | inr k => exact hT k D' hp
  | inl v => cases v with
    | none => exact False.elim hp
    | some v => cases v with
      | int v =>
        obtain ⟨z, rfl, h3⟩ := hp
        exact hK z D' h3
      | _ => exact False.elim hp
theorem e_ofV {K : z_D → Prop} {T : Nat → z_D → Prop} (h : z_c n d y as D (z_qV K T)) (hK : ∀ D', K D' → Q (.inl none) (z_E n X D')) (hT : ∀ k D', T k D' → Q (.inr k) (z_E n (none, X.2.1 + 1, X.2.2 + 6) D')) : e_c d y as (z_E n X D) Q := by
  refine e_of h (fun o D' hp => ?_)
  cases o with
  | inr k => exact hT k D' hp
  | inl v => cases v with
    | none => exact hK D' hp
    | some v => exact False.elim hp
end EZ
/-- one more call deep -/
abbrev y_thr (X : z_Xt) : z_Xt := (none, X.2.1 + 1, X.2.2 + 6)
section LWR
variable {n : Nat} {X : z_Xt} {D : z_D} {Q : am_O → am_M → Prop}
theorem l_run {k : Int} (h : z_c n 150 40 [.ref 0, .int (z_i k)] D (z_qI (fun a D1 => Q (.inl (some (.int 0))) (z_E n X (z_ul D1 362 0 (z_il a)))) (fun kd D1 => (kd = 0 ∧ Q (.inl (some (.int 1))) (z_E n (y_thr X) D1)) ∨ (kd = 1 ∧ Q (.inl (some (.int 2))) (z_E n (y_thr X) D1))))) : e_c 151 154 [.ref 0, .int (z_i k), .ref 362] (z_E n X D) Q := by
  refine e_enter (Nat.le_of_ble_eq_true rfl) rfl ?_
  repeat (refine ew_1 rfl rfl ?_)
  refine ew_call rfl rfl (e_ofI h (fun a D1 hK => ?_) (fun kd D1 hT => ?_))
  · repeat (refine ew_1 rfl rfl ?_)
    refine ew_c rfl rfl (by decide) ?_
    repeat (refine ew_1 rfl rfl ?_)
    exact ew_e rfl rfl trivial hK
  · rcases hT with ⟨rfl, hT⟩ | ⟨rfl, hT⟩
    · show e_w 150 _ 13 _ _ _ _
      repeat (refine ew_1 rfl rfl ?_)
      exact ew_e rfl rfl trivial hT
    · show e_w 150 _ 16 _ _ _ _
      repeat (refine ew_1 rfl rfl ?_)
      exact ew_e rfl rfl trivial hT
end LWR
