/-! the calls, on both -/
section JC
variable {n : Nat} {xs : Nat → Int} {i : Nat} {D : z_D}
theorem rf_s1f {Q : y_Q} {S : y_S} (h : y_ref Q S D) : y_ref Q (y_ss S 1 (y_s S 1)) D := ⟨h.1, h.2.1, h.2.2.1, h.2.2.2.1, h.2.2.2.2.1, h.2.2.2.2.2.1, h.2.2.2.2.2.2.1, h.2.2.2.2.2.2.2.1, h.2.2.2.2.2.2.2.2.1, h.2.2.2.2.2.2.2.2.2.1, h.2.2.2.2.2.2.2.2.2.2.1, h.2.2.2.2.2.2.2.2.2.2.2.1, h.2.2.2.2.2.2.2.2.2.2.2.2.1, h.2.2.2.2.2.2.2.2.2.2.2.2.2.1, h.2.2.2.2.2.2.2.2.2.2.2.2.2.2.1, h.2.2.2.2.2.2.2.2.2.2.2.2.2.2.2.1, h.2.2.2.2.2.2.2.2.2.2.2.2.2.2.2.2.1, h.2.2.2.2.2.2.2.2.2.2.2.2.2.2.2.2.2.1, h.2.2.2.2.2.2.2.2.2.2.2.2.2.2.2.2.2.2.1, h.2.2.2.2.2.2.2.2.2.2.2.2.2.2.2.2.2.2.2.1, h.2.2.2.2.2.2.2.2.2.2.2.2.2.2.2.2.2.2.2.2.1, h.2.2.2.2.2.2.2.2.2.2.2.2.2.2.2.2.2.2.2.2.2.1, h.2.2.2.2.2.2.2.2.2.2.2.2.2.2.2.2.2.2.2.2.2.2⟩
theorem rf_s1t {Q : y_Q} {S : y_S} {v : Int} (h : y_ref Q (y_ss S 1 v) D) (hv : v = y_s S 1) : y_ref Q S D := by
  have h18 : D.1 336 4 = y_s S 1 := by
    have : D.1 336 4 = v := h.2.2.2.2.2.2.2.2.2.2.2.2.2.2.2.2.2.1
    rw [this, hv]
  exact ⟨h.1, h.2.1, h.2.2.1, h.2.2.2.1, h.2.2.2.2.1, h.2.2.2.2.2.1, h.2.2.2.2.2.2.1, h.2.2.2.2.2.2.2.1, h.2.2.2.2.2.2.2.2.1, h.2.2.2.2.2.2.2.2.2.1, h.2.2.2.2.2.2.2.2.2.2.1, h.2.2.2.2.2.2.2.2.2.2.2.1, h.2.2.2.2.2.2.2.2.2.2.2.2.1, h.2.2.2.2.2.2.2.2.2.2.2.2.2.1, h.2.2.2.2.2.2.2.2.2.2.2.2.2.2.1, h.2.2.2.2.2.2.2.2.2.2.2.2.2.2.2.1, h.2.2.2.2.2.2.2.2.2.2.2.2.2.2.2.2.1, h18, h.2.2.2.2.2.2.2.2.2.2.2.2.2.2.2.2.2.2.1, h.2.2.2.2.2.2.2.2.2.2.2.2.2.2.2.2.2.2.2.1, h.2.2.2.2.2.2.2.2.2.2.2.2.2.2.2.2.2.2.2.2.1, h.2.2.2.2.2.2.2.2.2.2.2.2.2.2.2.2.2.2.2.2.2.1, h.2.2.2.2.2.2.2.2.2.2.2.2.2.2.2.2.2.2.2.2.2.2⟩
theorem j_type {w : Int64} (hi : i ≤ 2560) (hJ : y_J xs i D) : z_c n 150 37 [.ref 0, .long w] D (z_qZ (fun b D1 => (∀ j, D1.1 5000 j = xs j) ∧ z_c n 150 95 [.ref 336, .long w] D1 (z_qZ (fun b' D2 => b' = b ∧ y_J xs (i + 5) D2) (fun _ _ => False))) (fun _ _ => False)) := by
  obtain ⟨S, st, A1, tr, A2, F, v, ho, hst, hc, hr, hz, hx⟩ := hJ
  have h27 := ho.2.2.2.2.2.2.2.2.2.2.2.2.2.2.2.2.2.2.2.2.2.2.2.2.2.2.1
  have hs : z_r (y_s S 2) := ⟨by omega, by omega⟩
  refine c_type (d := 146) hc ho.1 hs (fun D1 hc1 => ?_)
  have hr1 := rf_mv hr rfl (D1 := D1) (fun c h1 h2 => (hc1.1 c h1).1)
  have et : y_type w (y_ss S 1 v) = ((y_type w S).1, y_ss (y_type w S).2 1 v) := by
    have e1 : y_type w (y_ss S 1 v) = if y_s S 2 = 0 ∧ y_good w = true ∧ (y_l S 0).length + (y_chs w).length ≤ 160 then (true, y_sl (y_ss S 1 v) 0 (y_l S 0 ++ y_chs w)) else (false, y_ss S 1 v) := rfl
    rw [e1]
    unfold y_type
    by_cases c : y_s S 2 = 0 ∧ y_good w = true ∧ (y_l S 0).length + (y_chs w).length ≤ 160
    · rw [if_pos c, if_pos c]; rfl
    · rw [if_neg c, if_neg c]
  refine ⟨fun j => by rw [(hc1.1 5000 (by decide)).1]; exact hx j, ?_⟩
  refine c_mType (d := 146) hr1 ho.1 hs rfl (fun D2 hr2 => ?_)
  rw [et] at hr2 ⊢
  refine ⟨rfl, y_J_le (i := i) (y_J_of (yo_type ho w) hst hc1 hr2 rfl (Or.inl ⟨rfl, rfl⟩) (fun c hc' => ?_) (fun j => ?_) (fun e => ?_)) (by omega)⟩
  · show (z_uz (y_off D1 0) 336 0 0).1 c = _
    rw [y_uz_cell (by omega), y_uz_cell (by omega)]
  · rw [(hc1.1 5000 (by decide)).1]; exact hx j
  · have es : y_s (y_type w S).2 = y_s S := by unfold y_type; split <;> rfl
    rw [es] at e ⊢
    exact hz e
theorem j_again (hi : i ≤ 2560) (hJ : y_J xs i D) : z_c n 150 39 [.ref 0] D (z_qV (fun D1 => z_c n 150 97 [.ref 336] D1 (z_qV (fun D2 => y_J xs (i + 5) D2) (fun _ _ => False))) (fun _ _ => False)) := by
  obtain ⟨S, st, A1, tr, A2, F, v, ho, hst, hc, hr, hz, hx⟩ := hJ
  refine c_againM (d := 146) hc ho (fun D1 hc1 => ?_)
  have hr1 := rf_mv hr rfl (D1 := D1) (fun c h1 h2 => (hc1.1 c h1).1)
  refine c_mAgainM (d := 146) hr1 ho.2.2.2.2.2.2.2.2.2.2.2.2.2.2.2.2.2.2.2.2.2.2.2.2.2.2.2.2 rfl (fun D2 hr2 => ?_)
  have hr2 : y_ref ((y_Qt (y_off D1 0, A2, F) 0).1, fun _ => none, []) (y_again S) D2 := hr2
  refine y_J_le (i := i) (y_J_of (yo_again ho) (by omega) (cl_wk hc1) (rf_s1f hr2) rfl (Or.inl ⟨rfl, rfl⟩) (fun c hc' => ?_) (fun j => ?_) (fun e => ⟨rfl, rfl, fun _ => rfl, rfl⟩)) (by omega)
  · show (z_uz (y_off D1 0) 336 0 0).1 c = _
    rw [y_uz_cell (by omega), y_uz_cell (by omega)]
  · rw [(hc1.1 5000 (by decide)).1]; exact hx j
theorem yo_txt0 {st : Int} {S : y_S} (h : y_ok st S) : y_ok 0 (y_again (y_sl S 0 [])) := by
  have h2 : y_ok st (y_ss (y_sl S 0 []) 0 0) := by
    have a1 : ([] : List Int).length ≤ 160 := by decide
    have a2 : ∀ c ∈ ([] : List Int), y_code c = true := fun c hc => by cases hc
    have a3 : (0 : Int) ≤ 0 ∧ (0 : Int) ≤ (([] : List Int).length : Int) := by decide
    exact ⟨a1, a2, a3, h.2.2.2.1, h.2.2.2.2.1, h.2.2.2.2.2.1, h.2.2.2.2.2.2.1, h.2.2.2.2.2.2.2.1, h.2.2.2.2.2.2.2.2.1, h.2.2.2.2.2.2.2.2.2.1, h.2.2.2.2.2.2.2.2.2.2.1, h.2.2.2.2.2.2.2.2.2.2.2.1, h.2.2.2.2.2.2.2.2.2.2.2.2.1, h.2.2.2.2.2.2.2.2.2.2.2.2.2.1, h.2.2.2.2.2.2.2.2.2.2.2.2.2.2.1, h.2.2.2.2.2.2.2.2.2.2.2.2.2.2.2.1, h.2.2.2.2.2.2.2.2.2.2.2.2.2.2.2.2.1, h.2.2.2.2.2.2.2.2.2.2.2.2.2.2.2.2.2.1, h.2.2.2.2.2.2.2.2.2.2.2.2.2.2.2.2.2.2.1, h.2.2.2.2.2.2.2.2.2.2.2.2.2.2.2.2.2.2.2.1, h.2.2.2.2.2.2.2.2.2.2.2.2.2.2.2.2.2.2.2.2.1, h.2.2.2.2.2.2.2.2.2.2.2.2.2.2.2.2.2.2.2.2.2.1, h.2.2.2.2.2.2.2.2.2.2.2.2.2.2.2.2.2.2.2.2.2.2.1, h.2.2.2.2.2.2.2.2.2.2.2.2.2.2.2.2.2.2.2.2.2.2.2.1, h.2.2.2.2.2.2.2.2.2.2.2.2.2.2.2.2.2.2.2.2.2.2.2.2.1, h.2.2.2.2.2.2.2.2.2.2.2.2.2.2.2.2.2.2.2.2.2.2.2.2.2.1, h.2.2.2.2.2.2.2.2.2.2.2.2.2.2.2.2.2.2.2.2.2.2.2.2.2.2.1, h.2.2.2.2.2.2.2.2.2.2.2.2.2.2.2.2.2.2.2.2.2.2.2.2.2.2.2.1, h.2.2.2.2.2.2.2.2.2.2.2.2.2.2.2.2.2.2.2.2.2.2.2.2.2.2.2.2⟩
  have e : y_again (y_ss (y_sl S 0 []) 0 0) = y_again (y_sl S 0 []) := rfl
  rw [← e]
  exact yo_again h2
theorem j_wipe (hi : i ≤ 2560) (hJ : y_J xs i D) : z_c n 150 38 [.ref 0] D (z_qV (fun D1 => z_c n 150 96 [.ref 336] D1 (z_qV (fun D2 => y_J xs (i + 5) D2) (fun _ _ => False))) (fun _ _ => False)) := by
  obtain ⟨S, st, A1, tr, A2, F, v, ho, hst, hc, hr, hz, hx⟩ := hJ
  refine c_wipeM (d := 146) hc ho (fun D1 hc1 => ?_)
  have hr1 := rf_mv hr rfl (D1 := D1) (fun c h1 h2 => (hc1.1 c h1).1)
  refine c_mWipeM (d := 146) hr1 ho.2.2.2.2.2.2.2.2.2.2.2.2.2.2.2.2.2.2.2.2.2.2.2.2.2.2.2.2 rfl (fun D2 hr2 => ?_)
  have hr2 : y_ref ((y_Qt (y_off D1 0, A2, F) 0).1, fun _ => none, []) (y_again (y_sl S 0 [])) D2 := hr2
  refine y_J_le (i := i) (y_J_of (yo_txt0 ho) (by omega) (cl_wk hc1) (rf_s1f hr2) rfl (Or.inl ⟨rfl, rfl⟩) (fun c hc' => ?_) (fun j => ?_) (fun e => ⟨rfl, rfl, fun _ => rfl, rfl⟩)) (by omega)
  · show (z_uz (y_off D1 0) 336 0 0).1 c = _
    rw [y_uz_cell (by omega), y_uz_cell (by omega)]
  · rw [(hc1.1 5000 (by decide)).1]; exact hx j
/-- a run that is refused -/
theorem c_runX {d : Nat} {B : y_B} {tr : Int} {S : y_S} {k : Int} {K : Int → z_D → Prop} {T : Nat → z_D → Prop} (hc : y_cls B tr S D) (hs : 0 ≤ y_s S 3 ∧ y_s S 3 ≤ 8) (hk : z_r k) (hx : ¬ (1 ≤ k ∧ k ≤ 500) ∨ 0 < y_s S 3) (h : T (if 1 ≤ k ∧ k ≤ 500 then 1 else 0) D) : z_c n (d + 123) 40 [.ref 0, .int (z_i k)] D (z_qI K T) := by
  have e11 : D.1 0 11 = y_s S 3 := hc.2.2.2.2.2.2.2.2.2.2.2.2.2.2.2.1
  refine r_tRun (fun _ _ _ _ => False) ?_ (fun _ _ _ _ q => q.elim)
  unfold w_tRun_0
  rw [e11]
  refine ⟨hk, fun c => ?_, fun c => ⟨fun c2 => ⟨y_rs (by omega) (by omega), fun w => by omega, fun _ => ?_⟩, fun c2 => ?_⟩⟩
  · rw [if_neg (by omega)] at h; exact h
  · rw [if_pos (by omega)] at h; exact h
  · rw [if_neg (by omega)] at h; exact h
/-- what both answer: the class by an answer that is put into the law's own cell, or by a throw; code: the law's number of a throw -/
def y_both (n : Nat) (xs : Nat → Int) (i yc yr : Nat) (as : List Value) (ks : List Nat) (cd : Nat → Int) (D : z_D) : Prop :=
  z_c n 150 yc (.ref 0 :: as) D (z_qI (fun a D1 => z_r a ∧ (∀ j, D1.1 5000 j = xs j) ∧ z_c n 150 yr (.ref 336 :: as) (z_ul D1 362 0 (z_il a)) (z_qI (fun b D2 => b = a ∧ D2.1 336 0 = 0 ∧ y_J xs (i + 5) D2 ∧ D2.2.1 362 0 = z_il a) (fun _ _ => False))) (fun kd D1 => kd ∈ ks ∧ (∀ j, D1.1 5000 j = xs j) ∧ 1 ≤ cd kd ∧ cd kd ≤ 2 ∧ z_c n 150 yr (.ref 336 :: as) D1 (z_qI (fun _ D2 => D2.1 336 0 = cd kd ∧ y_J xs (i + 5) D2) (fun _ _ => False))))
/-- the memory with the law's cell set -/
theorem rf_lw {A : Nat → Option (List Int)} {F : List y_F} {S : y_S} {B D1 : z_D} (h : y_ref (B, A, F) S D) (hB : B.1 336 6 = 0) (hf : ∀ c, 336 ≤ c → c < 362 → D1.1 c = D.1 c) (w : Int64) : y_ref (y_off (z_ul D1 362 0 w) 0, A, F) S (z_ul D1 362 0 w) := rf_mv h hB (fun c h1 h2 => hf c h1 h2)
theorem j_run {k : Int} (hi : i ≤ 2560) (hk : z_r k) (hJ : y_J xs i D) : y_both n xs i 40 145 [.int (z_i k)] [0, 1] (fun kd => if kd = 0 then 1 else 2) D := by
  obtain ⟨S, st, A1, tr, A2, F, v, ho, hst, hc, hr, hz, hx⟩ := hJ
  have h27 := ho.2.2.2.2.2.2.2.2.2.2.2.2.2.2.2.2.2.2.2.2.2.2.2.2.2.2.1
  have o28 := ho.2.2.2.2.2.2.2.2.2.2.2.2.2.2.2.2.2.2.2.2.2.2.2.2.2.2.2.1
  by_cases hgood : (1 ≤ k ∧ k ≤ 500) ∧ y_s S 3 = 0
  · obtain ⟨hk5, hf⟩ := hgood
    obtain ⟨rfl, rfl, hA2, hv⟩ := hz hf
    have hrS := rf_s1t hr hv
    have hyo := yo_run k.toNat st S ho
    cases hq : y_run k.toNat S with
    | inl q =>
      obtain ⟨b, S'⟩ := q
      rw [hq] at hyo
      obtain ⟨⟨s, hos, hss⟩, hf'⟩ := hyo
      refine c_run (d := 27) hc ho hf (by omega) hk5 ?_
      rw [hq]
      intro q D1 hc1
      have hr1 := rf_lw hrS rfl (D1 := D1) (fun c h1 h2 => (hc1.1 c h1).1) (z_il (if b then 1 else 0))
      refine ⟨by cases b <;> exact z_rk rfl, fun j => by rw [(hc1.1 5000 (by decide)).1]; exact hx j, c_mRun (d := 133) hr1 hf ho hA2 rfl hk5 ?_⟩
      rw [hq]
      intro F2 D2 hr2 hf2
      refine ⟨rfl, hr2.2.2.2.2.2.2.2.2.2.2.2.2.2.2.2.2.2.2.2.1.2, y_J_of (i := i + 5) hos (by omega) hc1 (rf_s1f hr2) rfl (Or.inr ⟨fun c hc' => ?_, rfl⟩) (fun c hc' => ?_) (fun j => ?_) (fun _ => ⟨rfl, rfl, hA2, rfl⟩), ?_⟩
      · funext z
        show am_u2 D1.2.1 362 0 _ c z = _
        unfold am_u2
        rw [if_neg (by omega)]
      · show (z_uz (y_off (z_ul D1 362 0 _) 0) 336 0 0).1 c = _
        rw [y_uz_cell (by omega), y_uz_cell (by omega)]
        rfl
      · rw [(hc1.1 5000 (by decide)).1]; exact hx j
      · rw [hr2.1.1]
        rfl
    | inr S' =>
      rw [hq] at hyo
      obtain ⟨s, hos, hss⟩ := hyo
      refine c_run (d := 27) hc ho hf (by omega) hk5 ?_
      rw [hq]
      intro D1 hw1
      obtain ⟨A', p', tr', hc1⟩ := hw1
      have hr1 := rf_mv hrS rfl (D1 := D1) (fun c h1 h2 => (hc1.1 c h1).1)
      refine ⟨by decide, fun j => by rw [(hc1.1 5000 (by decide)).1]; exact hx j, by decide, by decide, c_mRun (d := 133) hr1 hf ho hA2 rfl hk5 ?_⟩
      rw [hq]
      intro D2 hw2
      obtain ⟨A'', F'', v', hr2, f0, f8⟩ := hw2
      refine ⟨hr2.2.2.2.2.2.2.2.2.2.2.2.2.2.2.2.2.2.2.2.1.2, y_J_of (i := i + 5) hos (by omega) hc1 hr2 rfl (Or.inl ⟨rfl, rfl⟩) (fun c hc' => ?_) (fun j => ?_) (fun e => by omega)⟩
      · show (z_uz (y_off D1 0) 336 0 2).1 c = _
        rw [y_uz_cell (by omega), y_uz_cell (by omega)]
      · rw [(hc1.1 5000 (by decide)).1]; exact hx j
  · refine c_runX (d := 27) hc o28 hk (by omega) ⟨by split <;> decide, hx, by split <;> decide, by split <;> decide, ?_⟩
    refine c_mRunX (d := 133) hr o28 hk (by show ¬ (1 ≤ k ∧ k ≤ 500) ∨ 0 < y_s S 3; omega) ⟨?_, ?_⟩
    · rw [y_uz_same]
      by_cases c : 1 ≤ k ∧ k ≤ 500
      · rw [if_pos c, if_pos c]; rfl
      · rw [if_neg c, if_neg c]; rfl
    · refine y_J_of (i := i + 5) ho (by omega) hc (rf_th hr _) rfl (Or.inl ⟨rfl, rfl⟩) (fun c hc' => ?_) hx hz
      show (z_uz (y_off D 0) 336 0 _).1 c = _
      rw [y_uz_cell (by omega), y_uz_cell (by omega)]
/-- calls that only ask -/
theorem j_ask {yc yr : Nat} {as : List Value} {f : y_S → Option Int} (hf : ∀ S v, f (y_ss S 1 v) = f S) (kd : Nat) (hra : ∀ (st : Int) (S : y_S) (a : Int), y_ok st S → st ≤ 1000000 → f S = some a → z_r a)
    (h1 : ∀ (B : y_B) (tr st : Int) (S : y_S) (K : Int → z_D → Prop) (T : Nat → z_D → Prop), y_cls B tr S D → y_ok st S → st ≤ 1000000 → (∀ a, f S = some a → K a D) → (f S = none → T kd D) → z_c n 150 yc (.ref 0 :: as) D (z_qI K T))
    (h2 : ∀ (D : z_D) (Q : y_Q) (st : Int) (S : y_S) (K : Int → z_D → Prop) (T : Nat → z_D → Prop), y_ref Q S D → (∃ v, y_ok st (y_ss S 1 v)) → Q.1.1 336 6 = 0 → (∀ a, f S = some a → ∀ D', y_ref (y_Qt Q 0) S D' → K a D') → (f S = none → ∀ D', y_ref (y_Qt Q 1) S D' → K 0 D') → z_c n 150 yr (.ref 336 :: as) D (z_qI K T))
    (hi : i ≤ 2560) (hJ : y_J xs i D) : y_both n xs i yc yr as [kd] (fun _ => 1) D := by
  obtain ⟨S, st, A1, tr, A2, F, v, ho, hst, hc, hr, hz, hx⟩ := hJ
  have ho2 : ∃ v', y_ok st (y_ss (y_ss S 1 v) 1 v') := ⟨y_s S 1, ⟨ho.1, ho.2.1, ho.2.2.1, ho.2.2.2.1, ho.2.2.2.2.1, ho.2.2.2.2.2.1, ho.2.2.2.2.2.2.1, ho.2.2.2.2.2.2.2.1, ho.2.2.2.2.2.2.2.2.1, ho.2.2.2.2.2.2.2.2.2.1, ho.2.2.2.2.2.2.2.2.2.2.1, ho.2.2.2.2.2.2.2.2.2.2.2.1, ho.2.2.2.2.2.2.2.2.2.2.2.2.1, ho.2.2.2.2.2.2.2.2.2.2.2.2.2.1, ho.2.2.2.2.2.2.2.2.2.2.2.2.2.2.1, ho.2.2.2.2.2.2.2.2.2.2.2.2.2.2.2.1, ho.2.2.2.2.2.2.2.2.2.2.2.2.2.2.2.2.1, ho.2.2.2.2.2.2.2.2.2.2.2.2.2.2.2.2.2.1, ho.2.2.2.2.2.2.2.2.2.2.2.2.2.2.2.2.2.2.1, ho.2.2.2.2.2.2.2.2.2.2.2.2.2.2.2.2.2.2.2.1, ho.2.2.2.2.2.2.2.2.2.2.2.2.2.2.2.2.2.2.2.2.1, ho.2.2.2.2.2.2.2.2.2.2.2.2.2.2.2.2.2.2.2.2.2.1, ho.2.2.2.2.2.2.2.2.2.2.2.2.2.2.2.2.2.2.2.2.2.2.1, ho.2.2.2.2.2.2.2.2.2.2.2.2.2.2.2.2.2.2.2.2.2.2.2.1, ho.2.2.2.2.2.2.2.2.2.2.2.2.2.2.2.2.2.2.2.2.2.2.2.2.1, ho.2.2.2.2.2.2.2.2.2.2.2.2.2.2.2.2.2.2.2.2.2.2.2.2.2.1, ho.2.2.2.2.2.2.2.2.2.2.2.2.2.2.2.2.2.2.2.2.2.2.2.2.2.2.1, ho.2.2.2.2.2.2.2.2.2.2.2.2.2.2.2.2.2.2.2.2.2.2.2.2.2.2.2.1, ho.2.2.2.2.2.2.2.2.2.2.2.2.2.2.2.2.2.2.2.2.2.2.2.2.2.2.2.2⟩⟩
  refine h1 _ tr st S _ _ hc ho (by omega) (fun a ea => ?_) (fun en => ?_)
  · have hr1 := rf_lw hr rfl (D1 := D) (fun c h1 h2 => rfl) (z_il a)
    refine ⟨hra st S a ho (by omega) ea, hx, h2 _ _ st _ _ _ hr1 ho2 rfl (fun a' ea' D2 hr2 => ?_) (fun en => ?_)⟩
    · rw [hf, ea] at ea'
      have e := Option.some.inj ea'
      subst e
      refine ⟨rfl, hr2.2.2.2.2.2.2.2.2.2.2.2.2.2.2.2.2.2.2.2.1.2, y_J_of (i := i + 5) ho (by omega) hc hr2 rfl (Or.inr ⟨fun c hc' => ?_, rfl⟩) (fun c hc' => ?_) hx hz, ?_⟩
      · funext z
        show am_u2 D.2.1 362 0 _ c z = _
        unfold am_u2
        rw [if_neg (by omega)]
      · show (z_uz (y_off (z_ul D 362 0 _) 0) 336 0 0).1 c = _
        rw [y_uz_cell (by omega), y_uz_cell (by omega)]
        rfl
      · rw [hr2.1.1]
        rfl
    · rw [hf, ea] at en; cases en
  · refine ⟨List.mem_singleton.mpr rfl, hx, Int.le_refl _, by show (1 : Int) ≤ 2; decide, h2 D _ st _ _ _ hr ho2 rfl (fun a ea => ?_) (fun _ D2 hr2 => ⟨hr2.2.2.2.2.2.2.2.2.2.2.2.2.2.2.2.2.2.2.2.1.2, ?_⟩)⟩
    · rw [hf, en] at ea; cases ea
    · refine y_J_of (i := i + 5) ho (by omega) hc hr2 rfl (Or.inl ⟨rfl, rfl⟩) (fun c hc' => ?_) hx hz
      show (z_uz (y_off D 0) 336 0 _).1 c = _
      rw [y_uz_cell (by omega), y_uz_cell (by omega)]
theorem y_s1s1 (S : y_S) {v : Int} : ∃ v', y_ss (y_ss S 1 v) 1 v' = S := by
  refine ⟨y_s S 1, ?_⟩
  have : am_u1 (am_u1 S.2.1 1 v) 1 (y_s S 1) = S.2.1 := by
    funext j
    unfold am_u1
    split
    · next e => rw [e]
    · rfl
  show (S.1, am_u1 (am_u1 S.2.1 1 v) 1 (y_s S 1), S.2.2) = S
  rw [this]
theorem j_fault {k : Int} (hi : i ≤ 2560) (hk : z_r k) (hJ : y_J xs i D) : y_both n xs i 41 147 [.int (z_i k)] [2] (fun _ => 1) D :=
  j_ask (f := fun S => y_flt S k) (fun _ _ => rfl) 2 (fun st S a ho hst e => by
      have o3 := ho.2.2.1
      have o1 := ho.1
      have o28 := ho.2.2.2.2.2.2.2.2.2.2.2.2.2.2.2.2.2.2.2.2.2.2.2.2.2.2.2.1
      unfold y_flt at e
      split at e
      · cases e; exact y_rs (by omega) (by omega)
      · split at e
        · cases e; exact y_rs (by omega) (by omega)
        · cases e)
    (fun B tr st S K T hc ho _ q1 q2 => c_fault2 (d := 149) hc hk (fun e => q1 _ (by unfold y_flt; rw [if_pos e])) (fun e => q1 _ (by unfold y_flt; rw [if_neg (by omega), if_pos e])) (fun e1 e2 => q2 (by unfold y_flt; rw [if_neg e1, if_neg e2])))
    (fun D Q st S K T hr _ hB q1 q2 => c_mFault (d := 147) hr hk q1 q2) hi hJ
theorem j_out {k : Int} (hi : i ≤ 2560) (hk : z_r k) (hJ : y_J xs i D) : y_both n xs i 42 148 [.int (z_i k)] [2] (fun _ => 1) D :=
  j_ask (f := fun S => y_outk S k) (fun _ _ => rfl) 2 (fun st S a ho hst e => by
      have hrl : y_rl (y_l S 2) := y_rl_of (fun x hx => by have := ho.2.2.2.2.2.2.2.1 x hx; omega)
      unfold y_outk at e
      split at e
      · cases e; exact y_at_r hrl k
      · cases e)
    (fun B tr st S K T hc ho _ q1 q2 => c_out (d := 148) hc ho hk (fun e => q1 _ (by unfold y_outk; rw [if_pos e])) (fun e => q2 (by unfold y_outk; rw [if_neg e])))
    (fun D Q st S K T hr ⟨v, ho⟩ hB q1 q2 => c_mOut (d := 147) hr ho hk q1 q2) hi hJ
theorem j_count {k : Int} (hi : i ≤ 2560) (hk : z_r k) (hJ : y_J xs i D) : y_both n xs i 43 149 [.int (z_i k)] [2] (fun _ => 1) D :=
  j_ask (f := fun S => y_num S k) (fun _ _ => rfl) 2 (fun st S a ho hst e => by
      have o7 := ho.2.2.2.2.2.2.1
      have o9 := ho.2.2.2.2.2.2.2.2.1
      have o11 := ho.2.2.2.2.2.2.2.2.2.2.1
      have o22 : (y_mac S).length ≤ 60 := ho.2.2.2.2.2.2.2.2.2.2.2.2.2.2.2.2.2.2.2.2.2.1
      have o27 := ho.2.2.2.2.2.2.2.2.2.2.2.2.2.2.2.2.2.2.2.2.2.2.2.2.2.2.1
      unfold y_num at e
      split at e
      · cases e; exact y_rs (by omega) (by omega)
      · split at e
        · cases e; exact y_rs (by omega) (by omega)
        · split at e
          · cases e; exact y_rs (by omega) (by omega)
          · split at e
            · cases e; exact y_rs (by omega) (by omega)
            · split at e
              · cases e; exact y_rs (by omega) (by omega)
              · cases e)
    (fun B tr st S K T hc ho _ q1 q2 => c_count (d := 148) hc hk q1 q2)
    (fun D Q st S K T hr _ hB q1 q2 => c_mCount (d := 147) hr hB hk q1 q2) hi hJ
theorem j_category {k : Int} (hi : i ≤ 2560) (hk : z_r k) (hJ : y_J xs i D) : y_both n xs i 44 150 [.int (z_i k)] [2] (fun _ => 1) D :=
  j_ask (f := fun S => y_catk S k) (fun _ _ => rfl) 2 (fun st S a ho hst e => by
      have o17 := ho.2.2.2.2.2.2.2.2.2.2.2.2.2.2.2.2.1 k.toNat
      unfold y_catk at e
      split at e
      · cases e; exact y_rs (by show (-1000000 : Int) ≤ y_cat S k.toNat; omega) (by show y_cat S k.toNat ≤ 1000000; omega)
      · cases e)
    (fun B tr st S K T hc ho _ q1 q2 => c_category (d := 148) hc hk (fun e => q1 _ (by unfold y_catk; rw [if_pos e])) (fun e => q2 (by unfold y_catk; rw [if_neg (by rw [e]; exact Bool.false_ne_true)])))
    (fun D Q st S K T hr _ hB q1 q2 => c_mCategory (d := 147) hr hk q1 q2) hi hJ
theorem j_meaning {w : Int64} {b : Bool} (hi : i ≤ 2560) (hJ : y_J xs i D) : y_both n xs i 45 152 [.long w, .int (z_i (z_b b))] [3] (fun _ => 1) D :=
  j_ask (f := fun S => (y_look S w b).map y_mng) (fun _ _ => rfl) 3 (fun st S a ho hst e => by
      cases hl : y_look S w b with
      | none => rw [hl] at e; cases e
      | some v =>
        rw [hl] at e
        cases e
        unfold y_mng
        repeat (split; · exact z_rk rfl)
        exact z_rk rfl)
    (fun B tr st S K T hc ho _ q1 q2 => c_meaning (d := 146) hc ho (fun e => q2 (by rw [e]; rfl)) (fun v e => q1 _ (by rw [e]; rfl)))
    (fun D Q st S K T hr ⟨v, ho⟩ hB q1 q2 => c_mMeaning (d := 147) hr ho (fun v e => q1 _ (by rw [e]; rfl)) (fun e => q2 (by rw [e]; rfl))) hi hJ
theorem y_det_r {st : Int} {S : y_S} (ho : y_ok st S) {v k : Int} (hv : y_mn (y_mm S) v) : z_r (y_det S v k) := by
  have hvr := y_mn_r hv ho.2.2.2.2.2.2.2.2.2.2.2.2.2.2.2.2.2.2.2.2.2.1
  unfold y_det
  cases hq : y_mcr S v with
  | none =>
    dsimp only
    split
    · split
      · exact z_rk rfl
      · exact y_rs (by omega) (by omega)
    · split <;> exact z_rk rfl
  | some q =>
    have hm : q ∈ y_mac S := by
      unfold y_mcr at hq
      split at hq
      · exact List.mem_of_getElem? hq
      · cases hq
    have hk := ho.2.2.2.2.2.2.2.2.2.2.2.2.2.2.2.2.2.2.2.2.2.2.1 q hm
    have h1 := hk.1.1
    have h2 := hk.2.1.1
    have h3 := hk.2.2
    have hrl : ∀ x ∈ q.2.1, -1000000 ≤ x ∧ x ≤ 100000 := fun x hx => by
      rcases hk.2.1.2 x hx with z | z
      · omega
      · have := y_tp_r z ho.2.2.2.2.2.2.2.2.2.2.2.2.2.2.2.2.2.2.2.1.2; omega
    have hat : -1000000 ≤ y_at q.2.1 (k - 3) ∧ y_at q.2.1 (k - 3) ≤ 100000 := by
      unfold y_at
      split
      · cases hg : q.2.1[(k - 3).toNat]? with
        | none => show -1000000 ≤ (-1 : Int) ∧ (-1 : Int) ≤ 100000; decide
        | some x => exact hrl x (List.mem_of_getElem? hg)
      · decide
    dsimp only
    split
    · exact y_rs (by omega) (by omega)
    · split
      · exact y_rs (by omega) (by omega)
      · split
        · exact y_rs (by omega) (by omega)
        · split
          · exact z_rk rfl
          · split
            · exact y_rs (by omega) (by omega)
            · split
              · exact z_rk rfl
              · exact y_rs (by omega) (by omega)
theorem j_detail {w : Int64} {b : Bool} {k : Int} (hi : i ≤ 2560) (hk : z_r k) (hJ : y_J xs i D) : y_both n xs i 46 153 [.long w, .int (z_i (z_b b)), .int (z_i k)] [3] (fun _ => 1) D :=
  j_ask (f := fun S => (y_look S w b).map (fun v => y_det S v k)) (fun _ _ => rfl) 3 (fun st S a ho hst e => by
      cases hl : y_look S w b with
      | none => rw [hl] at e; cases e
      | some v =>
        rw [hl] at e
        cases e
        exact y_det_r ho (y_look_mn ho hl))
    (fun B tr st S K T hc ho _ q1 q2 => c_detail (d := 146) hc ho hk (fun e => q2 (by rw [e]; rfl)) (fun v e => q1 _ (by rw [e]; rfl)))
    (fun D Q st S K T hr ⟨v, ho⟩ hB q1 q2 => c_mDetail (d := 147) hr ho hk (fun v e => q1 _ (by rw [e]; rfl)) (fun e => q2 (by rw [e]; rfl))) hi hJ
theorem y_ok_v {st : Int} {S : y_S} {v : Int} (h : y_ok st (y_ss S 1 v)) (h2 : 0 ≤ y_s S 1 ∧ y_s S 1 ≤ 2) : y_ok st S := ⟨h.1, h.2.1, h.2.2.1, h2, h.2.2.2.2.1, h.2.2.2.2.2.1, h.2.2.2.2.2.2.1, h.2.2.2.2.2.2.2.1, h.2.2.2.2.2.2.2.2.1, h.2.2.2.2.2.2.2.2.2.1, h.2.2.2.2.2.2.2.2.2.2.1, h.2.2.2.2.2.2.2.2.2.2.2.1, h.2.2.2.2.2.2.2.2.2.2.2.2.1, h.2.2.2.2.2.2.2.2.2.2.2.2.2.1, h.2.2.2.2.2.2.2.2.2.2.2.2.2.2.1, h.2.2.2.2.2.2.2.2.2.2.2.2.2.2.2.1, h.2.2.2.2.2.2.2.2.2.2.2.2.2.2.2.2.1, h.2.2.2.2.2.2.2.2.2.2.2.2.2.2.2.2.2.1, h.2.2.2.2.2.2.2.2.2.2.2.2.2.2.2.2.2.2.1, h.2.2.2.2.2.2.2.2.2.2.2.2.2.2.2.2.2.2.2.1, h.2.2.2.2.2.2.2.2.2.2.2.2.2.2.2.2.2.2.2.2.1, h.2.2.2.2.2.2.2.2.2.2.2.2.2.2.2.2.2.2.2.2.2.1, h.2.2.2.2.2.2.2.2.2.2.2.2.2.2.2.2.2.2.2.2.2.2.1, h.2.2.2.2.2.2.2.2.2.2.2.2.2.2.2.2.2.2.2.2.2.2.2.1, h.2.2.2.2.2.2.2.2.2.2.2.2.2.2.2.2.2.2.2.2.2.2.2.2.1, h.2.2.2.2.2.2.2.2.2.2.2.2.2.2.2.2.2.2.2.2.2.2.2.2.2.1, h.2.2.2.2.2.2.2.2.2.2.2.2.2.2.2.2.2.2.2.2.2.2.2.2.2.2.1, h.2.2.2.2.2.2.2.2.2.2.2.2.2.2.2.2.2.2.2.2.2.2.2.2.2.2.2.1, h.2.2.2.2.2.2.2.2.2.2.2.2.2.2.2.2.2.2.2.2.2.2.2.2.2.2.2.2⟩
end JC
