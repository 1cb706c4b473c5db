/-! THE CLASS AND THE REFERENCE TOGETHER: one state of the model for both -/
/-- what the class's cells say holds in a memory that is the same there -/
theorem cl_mv {B : z_D} {A : Nat → Option (List Int)} {tr : Int} {S : y_S} {D D1 : z_D} (h : y_cls (B, A) tr S D) (hf : ∀ c, c < 336 → D1.1 c = D.1 c ∧ D1.2.1 c = D.2.1 c) (hp : D1.2.2 = D.2.2) : y_cls ((D1.1, D1.2.1, D1.2.2), A) tr S D1 := by
  have r : ∀ k l, k < 335 → y_row D k l → y_row D1 k l := fun k l hk q => y_row_cell q (hf k (by omega)).1 (hf (k + 1) (by omega)).1
  have e : ∀ c, c < 336 → D1.1 c = D.1 c := fun c hc => (hf c hc).1
  refine ⟨fun c hc => ⟨rfl, rfl⟩, r _ _ (by decide) h.2.1, r _ _ (by decide) h.2.2.1, r _ _ (by decide) h.2.2.2.1, r _ _ (by decide) h.2.2.2.2.1, r _ _ (by decide) h.2.2.2.2.2.1, r _ _ (by decide) h.2.2.2.2.2.2.1, ?_, ?_, ?_, ?_, ?_, ?_, ?_, ?_, ?_, ?_, ?_, ?_, ?_, rfl⟩
  · rw [e 1 (by decide), e 2 (by decide)]; exact h.2.2.2.2.2.2.2.1
  · rw [e 3 (by decide)]; exact h.2.2.2.2.2.2.2.2.1
  · rw [e 4 (by decide), e 7 (by decide)]; exact h.2.2.2.2.2.2.2.2.2.1
  · rw [(hf 5 (by decide)).2, (hf 6 (by decide)).2]; exact h.2.2.2.2.2.2.2.2.2.2.1
  · rw [e 0 (by decide)]; exact h.2.2.2.2.2.2.2.2.2.2.2.1
  · rw [e 1 (by decide)]; exact h.2.2.2.2.2.2.2.2.2.2.2.2.1
  · rw [e 1 (by decide)]; exact h.2.2.2.2.2.2.2.2.2.2.2.2.2.1
  · rw [e 0 (by decide)]; exact h.2.2.2.2.2.2.2.2.2.2.2.2.2.2.1
  · rw [e 0 (by decide)]; exact h.2.2.2.2.2.2.2.2.2.2.2.2.2.2.2.1
  · rw [e 0 (by decide)]; exact h.2.2.2.2.2.2.2.2.2.2.2.2.2.2.2.2.1
  · rw [e 0 (by decide)]; exact h.2.2.2.2.2.2.2.2.2.2.2.2.2.2.2.2.2.1
  · rw [e 1 (by decide)]; exact h.2.2.2.2.2.2.2.2.2.2.2.2.2.2.2.2.2.2.1
  · have hm := y_MA_f (Z := D.1) (Z' := D1.1) (L := D.2.1) (L' := D1.2.1) (p := D.2.2) (S' := S) h.2.2.2.2.2.2.2.2.2.2.2.2.2.2.2.2.2.2.2.1 (fun c _ hc => e c hc) rfl rfl rfl
    have ed : D1 = (D1.1, D1.2.1, D.2.2) := Prod.ext rfl (Prod.ext rfl hp)
    show y_MA A S D1
    rw [ed]
    exact hm
theorem cl_wk {B : z_D} {A : Nat → Option (List Int)} {tr : Int} {S : y_S} {D : z_D} (h : y_cls (B, A) tr S D) : y_cls (B, y_A0) tr S D := by
  obtain ⟨a1, a2, a3, a4, a5, a6, a7, a8, a9⟩ := h.2.2.2.2.2.2.2.2.2.2.2.2.2.2.2.2.2.2.2.1
  have hm : y_MA y_A0 S D := ⟨a1, a2, a3, a4, a5, a6, a7, a8, fun i hi => by
    obtain ⟨l, q1, q2, _⟩ := a9 i hi
    exact ⟨l, q1, q2, fun x e => (by cases e)⟩⟩
  exact ⟨h.1, h.2.1, h.2.2.1, h.2.2.2.1, h.2.2.2.2.1, h.2.2.2.2.2.1, h.2.2.2.2.2.2.1, h.2.2.2.2.2.2.2.1, h.2.2.2.2.2.2.2.2.1, h.2.2.2.2.2.2.2.2.2.1, h.2.2.2.2.2.2.2.2.2.2.1, h.2.2.2.2.2.2.2.2.2.2.2.1, h.2.2.2.2.2.2.2.2.2.2.2.2.1, h.2.2.2.2.2.2.2.2.2.2.2.2.2.1, h.2.2.2.2.2.2.2.2.2.2.2.2.2.2.1, h.2.2.2.2.2.2.2.2.2.2.2.2.2.2.2.1, h.2.2.2.2.2.2.2.2.2.2.2.2.2.2.2.2.1, h.2.2.2.2.2.2.2.2.2.2.2.2.2.2.2.2.2.1, h.2.2.2.2.2.2.2.2.2.2.2.2.2.2.2.2.2.2.1, hm, h.2.2.2.2.2.2.2.2.2.2.2.2.2.2.2.2.2.2.2.2⟩
theorem rf_mv {B : z_D} {A : Nat → Option (List Int)} {F : List y_F} {S : y_S} {D D1 : z_D} (h : y_ref (B, A, F) S D) (hB : B.1 336 6 = 0) (hf : ∀ c, 336 ≤ c → c < 362 → D1.1 c = D.1 c) : y_ref (y_off D1 0, A, F) S D1 := by
  have e := hf
  have e336 := e 336 (by decide) (by decide)
  refine ⟨⟨rfl, fun c hc => ?_⟩, ?_, ?_, ?_, ?_, ?_, ?_, ?_, ?_, ?_, ?_, ?_, ?_, ?_, ?_, ?_, ?_, ?_, ?_, ⟨?_, rfl⟩, ?_, ?_, ?_⟩
  · show D1.1 c = (z_uz D1 336 6 0).1 c
    rw [y_uz_cell (by omega)]
  · rw [e336, e 337 (by decide) (by decide)]; exact h.2.1
  · rw [e336, e 339 (by decide) (by decide)]; exact h.2.2.1
  · rw [e336, e 359 (by decide) (by decide)]; exact h.2.2.2.1
  · rw [e336, e 353 (by decide) (by decide)]; exact h.2.2.2.2.1
  · rw [e336]; exact h.2.2.2.2.2.1
  · rw [e336, e 345 (by decide) (by decide), e 346 (by decide) (by decide), e 347 (by decide) (by decide)]; exact h.2.2.2.2.2.2.1
  · rw [e 338 (by decide) (by decide)]; exact h.2.2.2.2.2.2.2.1
  · rw [e336, e 340 (by decide) (by decide), e 341 (by decide) (by decide), e 342 (by decide) (by decide)]; exact h.2.2.2.2.2.2.2.2.1
  · rw [e 343 (by decide) (by decide)]; exact h.2.2.2.2.2.2.2.2.2.1
  · rw [e336]; exact h.2.2.2.2.2.2.2.2.2.2.1
  · intro i q hq
    have := h.2.2.2.2.2.2.2.2.2.2.2.1 i q hq
    unfold y_mq at this ⊢
    rw [e 348 (by decide) (by decide), e 349 (by decide) (by decide), e 350 (by decide) (by decide), e 351 (by decide) (by decide), e 352 (by decide) (by decide)]
    exact this
  · rw [e 348 (by decide) (by decide), e 349 (by decide) (by decide)]; exact h.2.2.2.2.2.2.2.2.2.2.2.2.1
  · rw [e 350 (by decide) (by decide), e 351 (by decide) (by decide)]; exact h.2.2.2.2.2.2.2.2.2.2.2.2.2.1
  · rw [e 352 (by decide) (by decide)]; exact h.2.2.2.2.2.2.2.2.2.2.2.2.2.2.1
  · rw [e 360 (by decide) (by decide), e 361 (by decide) (by decide)]; exact h.2.2.2.2.2.2.2.2.2.2.2.2.2.2.2.1
  · rw [e336]; exact h.2.2.2.2.2.2.2.2.2.2.2.2.2.2.2.2.1
  · rw [e336]; exact h.2.2.2.2.2.2.2.2.2.2.2.2.2.2.2.2.2.1
  · rw [e336]; exact h.2.2.2.2.2.2.2.2.2.2.2.2.2.2.2.2.2.2.1
  · rw [e336]
    have q : D.1 336 6 = y_s S 2 + B.1 336 6 := h.2.2.2.2.2.2.2.2.2.2.2.2.2.2.2.2.2.2.2.1.1
    show D.1 336 6 = y_s S 2 + 0
    omega
  · rw [e336]; exact h.2.2.2.2.2.2.2.2.2.2.2.2.2.2.2.2.2.2.2.2.1
  · rw [e336]
    refine ⟨h.2.2.2.2.2.2.2.2.2.2.2.2.2.2.2.2.2.2.2.2.2.1.1, fun k f hk => ?_⟩
    have := h.2.2.2.2.2.2.2.2.2.2.2.2.2.2.2.2.2.2.2.2.2.1.2 k f hk
    unfold y_fq at this ⊢
    rw [e 354 (by decide) (by decide), e 355 (by decide) (by decide), e 356 (by decide) (by decide), e 357 (by decide) (by decide), e 358 (by decide) (by decide)]
    exact this
  · rw [e 350 (by decide) (by decide), e 352 (by decide) (by decide)]; exact h.2.2.2.2.2.2.2.2.2.2.2.2.2.2.2.2.2.2.2.2.2.2
/-- the joint state behind i ints of the script -/
def y_J (xs : Nat → Int) (i : Nat) (D : z_D) : Prop := ∃ (S : y_S) (st : Int) (A1 : Nat → Option (List Int)) (tr : Int) (A2 : Nat → Option (List Int)) (F : List y_F) (v : Int),
  y_ok st S ∧ st ≤ 100 * (i : Int) ∧ y_cls (D, A1) tr S D ∧ y_ref (y_off D 0, A2, F) (y_ss S 1 v) D ∧ (y_s S 3 = 0 → A1 = y_A0 ∧ tr = 0 ∧ (∀ j, A2 j = none) ∧ v = y_s S 1) ∧ ∀ j, D.1 5000 j = xs j
theorem y_J_le {xs : Nat → Int} {i j : Nat} {D : z_D} (h : y_J xs i D) (hij : i ≤ j) : y_J xs j D := by
  obtain ⟨S, st, A1, tr, A2, F, v, a1, a2, a3⟩ := h
  exact ⟨S, st, A1, tr, A2, F, v, a1, by omega, a3⟩
/-- behind both calls: from the class's end and the reference's -/
theorem y_J_of {xs : Nat → Int} {i : Nat} {S : y_S} {st : Int} {B B2 D1 D2 : z_D} {A1 A2 : Nat → Option (List Int)} {F : List y_F} {tr v : Int} (ho : y_ok st S) (hst : st ≤ 100 * (i : Int)) (hc : y_cls (B, A1) tr S D1) (hr : y_ref (B2, A2, F) (y_ss S 1 v) D2) (hB : B2.1 336 6 = 0) (h2 : B2.2.1 = D1.2.1 ∧ B2.2.2 = D1.2.2 ∨ (∀ c, c < 336 → B2.2.1 c = D1.2.1 c) ∧ B2.2.2 = D1.2.2) (h1 : ∀ c, c < 336 ∨ 362 ≤ c → B2.1 c = D1.1 c) (hx : ∀ j, D1.1 5000 j = xs j) (hz : y_s S 3 = 0 → A1 = y_A0 ∧ tr = 0 ∧ (∀ j, A2 j = none) ∧ v = y_s S 1) : y_J xs i D2 := by
  have e2 : D2.2 = B2.2 := hr.1.1
  have e1 : ∀ c, c < 336 ∨ 362 ≤ c → D2.1 c = B2.1 c := hr.1.2
  refine ⟨S, st, A1, tr, A2, F, v, ho, hst, ?_, rf_mv hr hB (fun _ _ _ => rfl), hz, fun j => ?_⟩
  · refine cl_mv hc (fun c hc' => ⟨(e1 c (Or.inl hc')).trans (h1 c (Or.inl hc')), ?_⟩) ?_
    · rw [e2]
      rcases h2 with h2 | h2
      · rw [h2.1]
      · exact h2.1 c hc'
    · rw [e2]
      rcases h2 with h2 | h2
      · exact h2.2
      · exact h2.2
  · rw [e1 5000 (by decide), h1 5000 (by decide)]
    exact hx j
theorem yo_type {st : Int} {S : y_S} (h : y_ok st S) (w : Int64) : y_ok st (y_type w S).2 := by
  unfold y_type
  split
  · next c =>
    have h1 : (y_l S 0 ++ y_chs w).length ≤ 160 := by rw [List.length_append]; exact c.2.2
    have h2 : ∀ x ∈ y_l S 0 ++ y_chs w, y_code x = true := fun x hx => by
      rcases List.mem_append.mp hx with z | z
      · exact h.2.1 x z
      · exact List.all_eq_true.mp c.2.1 x z
    have h3 : 0 ≤ y_s S 0 ∧ y_s S 0 ≤ ((y_l S 0 ++ y_chs w).length : Int) := by
      have := h.2.2.1
      rw [List.length_append]
      omega
    exact ⟨h1, h2, h3, h.2.2.2.1, h.2.2.2.2.1, h.2.2.2.2.2.1, h.2.2.2.2.2.2.1, h.2.2.2.2.2.2.2.1, h.2.2.2.2.2.2.2.2.1, h.2.2.2.2.2.2.2.2.2.1, h.2.2.2.2.2.2.2.2.2.2.1, h.2.2.2.2.2.2.2.2.2.2.2.1, h.2.2.2.2.2.2.2.2.2.2.2.2.1, h.2.2.2.2.2.2.2.2.2.2.2.2.2.1, h.2.2.2.2.2.2.2.2.2.2.2.2.2.2.1, h.2.2.2.2.2.2.2.2.2.2.2.2.2.2.2.1, h.2.2.2.2.2.2.2.2.2.2.2.2.2.2.2.2.1, h.2.2.2.2.2.2.2.2.2.2.2.2.2.2.2.2.2.1, h.2.2.2.2.2.2.2.2.2.2.2.2.2.2.2.2.2.2.1, h.2.2.2.2.2.2.2.2.2.2.2.2.2.2.2.2.2.2.2.1, h.2.2.2.2.2.2.2.2.2.2.2.2.2.2.2.2.2.2.2.2.1, h.2.2.2.2.2.2.2.2.2.2.2.2.2.2.2.2.2.2.2.2.2.1, h.2.2.2.2.2.2.2.2.2.2.2.2.2.2.2.2.2.2.2.2.2.2.1, h.2.2.2.2.2.2.2.2.2.2.2.2.2.2.2.2.2.2.2.2.2.2.2.1, h.2.2.2.2.2.2.2.2.2.2.2.2.2.2.2.2.2.2.2.2.2.2.2.2.1, h.2.2.2.2.2.2.2.2.2.2.2.2.2.2.2.2.2.2.2.2.2.2.2.2.2.1, h.2.2.2.2.2.2.2.2.2.2.2.2.2.2.2.2.2.2.2.2.2.2.2.2.2.2.1, h.2.2.2.2.2.2.2.2.2.2.2.2.2.2.2.2.2.2.2.2.2.2.2.2.2.2.2.1, h.2.2.2.2.2.2.2.2.2.2.2.2.2.2.2.2.2.2.2.2.2.2.2.2.2.2.2.2⟩
  · exact h
theorem y_cat0_s : ∀ c, c < 128 → 0 ≤ y_cat0 c ∧ y_cat0 c ≤ 15 := by decide
theorem y_cat0_r (c : Nat) : 0 ≤ y_cat0 c ∧ y_cat0 c ≤ 15 := by
  by_cases h : c < 128
  · exact y_cat0_s c h
  · have : y_cat0 c = 12 := by
      unfold y_cat0
      rw [if_neg (by omega), if_neg (by omega), if_neg (by omega), if_neg (by omega), if_neg (by omega), if_neg (by omega), if_neg (by omega), if_neg (by omega), if_neg (by omega), if_neg (by omega), if_neg (by omega), if_neg (by omega), if_neg (by omega)]
    rw [this]
    decide
theorem y_cmds_no : ∀ q ∈ y_cmds, y_no q := by
  unfold y_no
  decide
theorem yo_again {st : Int} {S : y_S} (h : y_ok st S) : y_ok 0 (y_again S) := by
  have h3 := h.2.2.1
  refine ⟨h.1, h.2.1, ⟨Int.le_refl _, by show (0 : Int) ≤ ((y_l S 0).length : Int); omega⟩, (by show (0 : Int) ≤ 0 ∧ (0 : Int) ≤ 2; decide), by show 0 ≤ 300; decide, fun t ht => (by cases ht), by show 0 ≤ 200; decide, fun t ht => (by cases ht), by show 0 ≤ 12; decide, fun t ht => (by cases ht), by show 0 ≤ 30; decide, by show 0 ≤ 60; decide, rfl, fun t ht => (by cases ht), List.Pairwise.nil, fun i k v e => (by cases e), y_cat0_r, fun k => ?_, fun k hk => ?_, (by show 18 ≤ y_cmds.length ∧ y_cmds.length ≤ 118; decide), y_cmds_no, by show 0 ≤ 60; decide, fun q hq => (by cases hq), h.2.2.2.2.2.2.2.2.2.2.2.2.2.2.2.2.2.2.2.2.2.2.2.1, h.2.2.2.2.2.2.2.2.2.2.2.2.2.2.2.2.2.2.2.2.2.2.2.2.1, fun i l _ e => (by cases e), ⟨rfl, Int.le_refl _⟩, (by show (0 : Int) ≤ 0 ∧ (0 : Int) ≤ 8; decide), rfl⟩
  · show y_mn _ (if k < 18 then (k : Int) + 1 else 0)
    left
    split <;> omega
  · show (if k < 18 then (k : Int) + 1 else 0) = 0
    have : 18 ≤ k := hk
    rw [if_neg (by omega)]
