/-! contracts of the reference: steps, runs -/
section RR
variable {n d : Nat} {D : z_D} {st : Int} {S : y_S} {T : Nat → z_D → Prop}
theorem y_off0 {B : z_D} (hB : B.1 336 6 = 0) (v : Int) : y_off (y_off B v) 0 = B := by
  have : am_u2 (am_u2 B.1 336 6 v) 336 6 0 = B.1 := by
    funext a b
    unfold am_u2
    by_cases h : a = 336
    · by_cases h2 : b = 6
      · rw [if_pos h, if_pos h2, h, h2]; exact hB.symm
      · rw [if_pos h, if_neg h2, if_pos h, if_neg h2]
    · rw [if_neg h, if_neg h]
  show (am_u2 (am_u2 B.1 336 6 v) 336 6 0, B.2) = B
  rw [this]
theorem rf_F0 {B : z_D} {A : Nat → Option (List Int)} {F : List y_F} (hr : y_ref (B, A, F) S D) : y_ref (B, A, []) S (z_uz D 336 31 0) := ⟨y_g1 hr.1 (by decide), hr.2.1, hr.2.2.1, hr.2.2.2.1, hr.2.2.2.2.1, hr.2.2.2.2.2.1, hr.2.2.2.2.2.2.1, hr.2.2.2.2.2.2.2.1, hr.2.2.2.2.2.2.2.2.1, hr.2.2.2.2.2.2.2.2.2.1, hr.2.2.2.2.2.2.2.2.2.2.1, hr.2.2.2.2.2.2.2.2.2.2.2.1, hr.2.2.2.2.2.2.2.2.2.2.2.2.1, hr.2.2.2.2.2.2.2.2.2.2.2.2.2.1, hr.2.2.2.2.2.2.2.2.2.2.2.2.2.2.1, hr.2.2.2.2.2.2.2.2.2.2.2.2.2.2.2.1, hr.2.2.2.2.2.2.2.2.2.2.2.2.2.2.2.2.1, hr.2.2.2.2.2.2.2.2.2.2.2.2.2.2.2.2.2.1, hr.2.2.2.2.2.2.2.2.2.2.2.2.2.2.2.2.2.2.1, hr.2.2.2.2.2.2.2.2.2.2.2.2.2.2.2.2.2.2.2.1, hr.2.2.2.2.2.2.2.2.2.2.2.2.2.2.2.2.2.2.2.2.1, ⟨rfl, fun k f e => (by cases e)⟩, hr.2.2.2.2.2.2.2.2.2.2.2.2.2.2.2.2.2.2.2.2.2.2⟩
/-- a step has been counted ahead -/
theorem rf_sub {B : z_D} {A : Nat → Option (List Int)} {F : List y_F} (hB : B.1 336 6 = 0) (hr : y_ref (y_off B (-1), A, F) S D) : y_ref (B, A, F) (y_ss S 2 (y_s S 2 - 1)) D := by
  have h1 : D.2 = B.2 ∧ ∀ c, c < 336 ∨ 362 ≤ c → D.1 c = B.1 c := ⟨hr.1.1, fun c hc => by
    rw [hr.1.2 c hc]
    show (z_uz B 336 6 (-1)).1 c = _
    rw [y_uz_cell (by omega)]⟩
  have h20 : D.1 336 6 = y_s S 2 - 1 + B.1 336 6 ∧ D.1 336 0 = B.1 336 0 := ⟨by
    have : D.1 336 6 = y_s S 2 + -1 := hr.2.2.2.2.2.2.2.2.2.2.2.2.2.2.2.2.2.2.2.1.1
    omega, hr.2.2.2.2.2.2.2.2.2.2.2.2.2.2.2.2.2.2.2.1.2⟩
  exact ⟨h1, hr.2.1, hr.2.2.1, hr.2.2.2.1, hr.2.2.2.2.1, hr.2.2.2.2.2.1, hr.2.2.2.2.2.2.1, hr.2.2.2.2.2.2.2.1, hr.2.2.2.2.2.2.2.2.1, hr.2.2.2.2.2.2.2.2.2.1, hr.2.2.2.2.2.2.2.2.2.2.1, hr.2.2.2.2.2.2.2.2.2.2.2.1, hr.2.2.2.2.2.2.2.2.2.2.2.2.1, hr.2.2.2.2.2.2.2.2.2.2.2.2.2.1, hr.2.2.2.2.2.2.2.2.2.2.2.2.2.2.1, hr.2.2.2.2.2.2.2.2.2.2.2.2.2.2.2.1, hr.2.2.2.2.2.2.2.2.2.2.2.2.2.2.2.2.1, hr.2.2.2.2.2.2.2.2.2.2.2.2.2.2.2.2.2.1, hr.2.2.2.2.2.2.2.2.2.2.2.2.2.2.2.2.2.2.1, h20, hr.2.2.2.2.2.2.2.2.2.2.2.2.2.2.2.2.2.2.2.2.1, hr.2.2.2.2.2.2.2.2.2.2.2.2.2.2.2.2.2.2.2.2.2.1, hr.2.2.2.2.2.2.2.2.2.2.2.2.2.2.2.2.2.2.2.2.2.2⟩
theorem rf_add {B : z_D} {A : Nat → Option (List Int)} {F : List y_F} (hB : B.1 336 6 = 0) (hr : y_ref (y_off B (-1), A, F) S D) : y_ref (B, A, F) S (z_uz D 336 6 (D.1 336 6 + 1)) := by
  have e6 : D.1 336 6 = y_s S 2 + -1 := hr.2.2.2.2.2.2.2.2.2.2.2.2.2.2.2.2.2.2.2.1.1
  have := rf_off (v := 0) hr (D.1 336 6 + 1) (by omega)
  have e : y_off (y_off B (-1)) 0 = B := y_off0 hB _
  show y_ref (B, A, F) S _
  rw [← e]
  exact this
theorem rf_ahead {B : z_D} {A : Nat → Option (List Int)} {F : List y_F} (hB : B.1 336 6 = 0) (hr : y_ref (B, A, F) S D) : y_ref (y_off B (-1), A, F) (y_ss S 2 (y_s S 2 + 1)) D := by
  have h1 : D.2 = (y_off B (-1)).2 ∧ ∀ c, c < 336 ∨ 362 ≤ c → D.1 c = (y_off B (-1)).1 c := ⟨hr.1.1, fun c hc => by
    rw [hr.1.2 c hc]
    show _ = (z_uz B 336 6 (-1)).1 c
    rw [y_uz_cell (by omega)]⟩
  have h20 : D.1 336 6 = y_s S 2 + 1 + -1 ∧ D.1 336 0 = B.1 336 0 := ⟨by
    have : D.1 336 6 = y_s S 2 + B.1 336 6 := hr.2.2.2.2.2.2.2.2.2.2.2.2.2.2.2.2.2.2.2.1.1
    omega, hr.2.2.2.2.2.2.2.2.2.2.2.2.2.2.2.2.2.2.2.1.2⟩
  exact ⟨h1, hr.2.1, hr.2.2.1, hr.2.2.2.1, hr.2.2.2.2.1, hr.2.2.2.2.2.1, hr.2.2.2.2.2.2.1, hr.2.2.2.2.2.2.2.1, hr.2.2.2.2.2.2.2.2.1, hr.2.2.2.2.2.2.2.2.2.1, hr.2.2.2.2.2.2.2.2.2.2.1, hr.2.2.2.2.2.2.2.2.2.2.2.1, hr.2.2.2.2.2.2.2.2.2.2.2.2.1, hr.2.2.2.2.2.2.2.2.2.2.2.2.2.1, hr.2.2.2.2.2.2.2.2.2.2.2.2.2.2.1, hr.2.2.2.2.2.2.2.2.2.2.2.2.2.2.2.1, hr.2.2.2.2.2.2.2.2.2.2.2.2.2.2.2.2.1, hr.2.2.2.2.2.2.2.2.2.2.2.2.2.2.2.2.2.1, hr.2.2.2.2.2.2.2.2.2.2.2.2.2.2.2.2.2.2.1, h20, hr.2.2.2.2.2.2.2.2.2.2.2.2.2.2.2.2.2.2.2.2.1, hr.2.2.2.2.2.2.2.2.2.2.2.2.2.2.2.2.2.2.2.2.2.1, hr.2.2.2.2.2.2.2.2.2.2.2.2.2.2.2.2.2.2.2.2.2.2⟩
theorem c_mStep {B : z_D} {A : Nat → Option (List Int)} {F : List y_F} {k : Nat} {K : Bool → z_D → Prop} {KK : Bool → y_S → Prop} {TT : y_S → Prop} (hr : y_ref (B, A, F) S D) (hf : y_s S 3 = 0) (ho : y_ok st S) (hA : ∀ j, A j = none) (hB : B.1 336 6 = 0) (h : y_fin (y_run (k + 1) S) KK TT) (h1 : ∀ S1 D1, KK true S1 → y_rf (B, A, []) S1 D1 → K false D1) (h2 : ∀ S2 D2, y_ok (st + 1) S2 → y_fin (y_run k S2) KK TT → y_rf (B, A, []) S2 D2 → K true D2) (h3 : ∀ S' D', TT S' → y_rfw B S' D' → K true D') : z_c n (d + 16) 144 [.ref 336] D (z_qZ K T) := by
  have h27 := ho.2.2.2.2.2.2.2.2.2.2.2.2.2.2.2.2.2.2.2.2.2.2.2.2.2.2.1
  unfold y_run at h
  have h0 : y_ok (st + 1) (y_ss (y_ss (y_ss S 2 (y_s S 2 + 1)) 4 0) 5 0) := by
    rw [h27.1]
    exact y_ok_s5 (y_ok_s4 (y_ok_s2 ho (by omega)) (by decide) (by decide)) (by decide) (by decide)
  refine r_mStep (fun D1 e1 D2 e2 => ?_)
  have hr2 : y_rf (y_off B (-1), A, []) (y_ss (y_ss (y_ss S 2 (y_s S 2 + 1)) 4 0) 5 0) D2 := by
    refine ⟨?_, hf⟩
    rw [e2, e1]
    exact rf_s5 (rf_F0 (rf_s4 (rf_ahead hB hr) 0)) 0
  refine c_mGet hr2 h0 (y_gt (yo_get h0) h (fun t S1 ⟨k1, k2, k3⟩ h D3 hr3 => ?_) (fun S' hT D3 hw => ?_))
  · have e5 : D3.1 336 5 = 0 := hr3.1.2.2.2.2.2.2.2.2.2.2.2.2.2.2.2.2.2.2.1.trans hr3.2
    by_cases c : t = -1
    · rw [if_pos c] at h
      have et : y_tr t = -1 := by rw [c]; decide
      rw [et]
      refine ⟨z_rk rfl, fun w => absurd rfl w, fun _ => ?_⟩
      rw [e5]
      exact ⟨z_rk rfl, fun w => absurd rfl w, fun _ => h1 _ D3 h ⟨rf_sub hB hr3.1, hr3.2⟩⟩
    · rw [if_neg c] at h
      have ht := (k3.resolve_left (fun q => c q.1)).1
      have hn := k1.2.2.2.2.2.2.2.2.2.2.2.2.2.2.2.2.2.2.2.1.2
      have htr := y_tr_r ht hn
      have h51 : y_s S1 5 = 0 := k2.2.2.2.2.2.2.2.1
      refine ⟨y_rs (by omega) (by omega), fun _ D4 e4 => ⟨y_rs (by omega) (by omega), fun w => by omega, fun _ => ?_⟩, fun w => by omega⟩
      have hr4 : y_rf (B, A, []) S1 D4 := ⟨by rw [e4]; exact rf_add hB hr3.1, hr3.2⟩
      refine c_mIsex hr4.1 k1 ht ⟨fun z => ?_, fun z => ?_⟩
      · refine c_mAct hr4 k1 hA ht z h51 (y_gt (yo_exc k1 (y_mo_ok k1 ht)) h (fun _ S2 ⟨a1, a2, _⟩ h D5 hr5 => h2 S2 D5 a1 h hr5) (fun S' hT D5 hw => h3 S' D5 hT hw))
      · unfold y_exc at h
        rw [if_pos z] at h
        refine c_mExpand hr4 k1 (fun j _ => hA j) ht z h51 (y_gt (yo_ex 31 _ S1 k1 (y_mo_ok k1 ht)) h (fun _ S2 ⟨a1, a2, _⟩ h D5 hr5 => h2 S2 D5 a1 h hr5) (fun S' hT D5 hw => h3 S' D5 hT hw))
  · have hf3 := y_rfw_f hw
    refine ⟨z_rk rfl, fun w => absurd rfl w, fun _ => ⟨y_rs (by omega) (by omega), fun _ D4 e4 => ⟨z_rk rfl, fun _ => ?_, fun w => absurd rfl w⟩, fun w => by omega⟩⟩
    obtain ⟨A', F', v, hr', f0, f8⟩ := hw
    refine h3 S' D4 hT ⟨A', F', v, ?_, f0, f8⟩
    rw [e4]
    exact rf_add hB hr'
/-- a run, its number in range, no fault before it -/
theorem c_mRun {B : z_D} {A : Nat → Option (List Int)} {F : List y_F} {k : Int} {K : Int → z_D → Prop} (hr : y_ref (B, A, F) S D) (hf : y_s S 3 = 0) (ho : y_ok st S) (hA : ∀ j, A j = none) (hB : B.1 336 6 = 0) (hk : 1 ≤ k ∧ k ≤ 500) (h : y_fin (y_run k.toNat S) (fun b S' => ∀ F D', y_ref (z_uz B 336 0 0, A, F) S' D' → y_s S' 3 = 0 → K (if b then 1 else 0) D') (fun S' => ∀ D', y_rfw (z_uz B 336 0 2) S' D' → K 0 D')) : z_c n (d + 17) 145 [.ref 336, .int (z_i k)] D (z_qI K T) := by
  have e5 : D.1 336 5 = 0 := hr.2.2.2.2.2.2.2.2.2.2.2.2.2.2.2.2.2.2.1.trans hf
  have th2 : ∀ (X : z_D) (a b : Int), z_uz (z_uz X 336 0 a) 336 0 b = z_uz X 336 0 b := by
    intro X a b
    have : am_u2 (am_u2 X.1 336 0 a) 336 0 b = am_u2 X.1 336 0 b := by
      funext x y
      unfold am_u2
      by_cases h : x = 336
      · by_cases h2 : y = 0
        · rw [if_pos h, if_pos h2, if_pos h, if_pos h2]
        · rw [if_pos h, if_neg h2, if_pos h, if_neg h2, if_pos h, if_neg h2]
      · rw [if_neg h, if_neg h, if_neg h]
    show (am_u2 (am_u2 X.1 336 0 a) 336 0 b, X.2) = (am_u2 X.1 336 0 b, X.2)
    rw [this]
  have hB0 : ∀ v, (z_uz B 336 0 v).1 336 6 = 0 := fun v => by rw [y_uz_slot (by decide)]; exact hB
  refine r_mRun (fun m a1 a2 D' => a1 = k ∧ 0 ≤ a2 ∧ a2 ≤ k ∧ ((m = (k - a2).toNat + 1 ∧ ∃ (S1 : y_S) (s : Int) (F : List y_F), y_ref (z_uz B 336 0 0, A, F) S1 D' ∧ y_s S1 3 = 0 ∧ y_ok s S1 ∧ y_fin (y_run (k - a2).toNat S1) (fun b S' => ∀ F D', y_ref (z_uz B 336 0 0, A, F) S' D' → y_s S' 3 = 0 → K (if b then 1 else 0) D') (fun S' => ∀ D', y_rfw (z_uz B 336 0 2) S' D' → K 0 D')) ∨ (m = 0 ∧ D'.1 336 0 = 2 ∧ K 0 D'))) ?_ ?_
  · unfold w_mRun_0
    rw [e5]
    refine ⟨y_rs (by omega) (by omega), fun c => by omega, fun _ => ⟨fun _ => ⟨z_rk rfl, fun _ D4 e4 => ⟨_, rfl, Int.le_refl _, by omega, Or.inl ⟨rfl, S, st, F, by rw [e4]; exact rf_th hr 0, hf, ho, ?_⟩⟩, fun z => by omega⟩, fun c => by omega⟩⟩
    rw [show (k - 0).toNat = k.toNat by omega]
    exact h
  · rintro mm a1 a2 D' ⟨rfl, a0, a1', (⟨rfl, S1, s, F1, hr1, hf1, ho1, h⟩ | ⟨rfl, t2, hK⟩)⟩
    · have e0 : D'.1 336 0 = 0 := hr1.2.2.2.2.2.2.2.2.2.2.2.2.2.2.2.2.2.2.2.1.2
      unfold w_mRun_34
      rw [e0]
      refine ⟨y_rs (by omega) (by omega), y_rs (by omega) (by omega), fun c => ?_, fun c => ⟨z_rk rfl, fun w => absurd rfl w, fun _ => ?_⟩⟩
      · rw [show (a1 - a2).toNat = 0 by omega] at h
        exact h F1 D' hr1 hf1
      · rw [show (a1 - a2).toNat = (a1 - (a2 + 1)).toNat + 1 by omega] at h
        refine c_mStep hr1 hf1 ho1 hA (hB0 0) h (fun S2 D2 hK hr2 => ⟨fun w => (by cases w), fun _ => hK [] D2 hr2.1 hr2.2⟩) (fun S2 D2 ho2 h hr2 => ⟨fun _ => ?_, fun w => (by cases w)⟩) (fun S' D2 hT hw => ⟨fun _ => ?_, fun w => (by cases w)⟩)
        · have f5 : D2.1 336 5 = 0 := hr2.1.2.2.2.2.2.2.2.2.2.2.2.2.2.2.2.2.2.2.1.trans hr2.2
          rw [f5]
          refine ⟨z_rk rfl, fun _ D7 e7 => ⟨_, ?_, rfl, by omega, by omega, Or.inl ⟨rfl, S2, s + 1, [], ?_, hr2.2, ho2, h⟩⟩, fun w => by omega⟩
          · omega
          · have := rf_th hr2.1 0
            rw [← e7] at this
            have e := th2 B 0 0
            rw [← e]
            exact this
        · have hf3 := y_rfw_f hw
          refine ⟨y_rs (by omega) (by omega), fun w => by omega, fun _ D8 e8 => ⟨0, by omega, rfl, by omega, by omega, Or.inr ⟨rfl, by rw [e8]; exact y_uz_same _ _ _ _, hT D8 ?_⟩⟩⟩
          obtain ⟨A', F', v, hr', f0, f8⟩ := hw
          refine ⟨A', F', v, ?_, f0, f8⟩
          have := rf_th hr' 2
          rw [← e8] at this
          have e := th2 B 0 2
          rw [← e]
          exact this
    · unfold w_mRun_34
      rw [t2]
      exact ⟨y_rs (by omega) (by omega), y_rs (by omega) (by omega), fun _ => hK, fun _ => ⟨z_rk rfl, fun _ => hK, fun w => by omega⟩⟩
/-- a run that is refused -/
theorem c_mRunX {Q : y_Q} {k : Int} {K : Int → z_D → Prop} (hr : y_ref Q S D) (hs : 0 ≤ y_s S 3 ∧ y_s S 3 ≤ 8) (hk : z_r k) (hx : ¬ (1 ≤ k ∧ k ≤ 500) ∨ 0 < y_s S 3) (h : K 0 (z_uz D 336 0 (if 1 ≤ k ∧ k ≤ 500 then 2 else 1))) : z_c n (d + 17) 145 [.ref 336, .int (z_i k)] D (z_qI K T) := by
  have e5 : D.1 336 5 = y_s S 3 := hr.2.2.2.2.2.2.2.2.2.2.2.2.2.2.2.2.2.2.1
  refine r_mRun (fun m a1 a2 D' => a1 = k ∧ a2 = 0 ∧ (D'.1 336 0 = 1 ∨ D'.1 336 0 = 2) ∧ K 0 D') ?_ ?_
  · unfold w_mRun_0
    rw [e5]
    refine ⟨hk, fun c D2 e2 => ⟨0, rfl, rfl, Or.inl (by rw [e2]; exact y_uz_same _ _ _ _), ?_⟩, fun c => ⟨fun c2 => ⟨y_rs (by omega) (by omega), fun w => by omega, fun _ D5 e5 => ⟨0, rfl, rfl, Or.inr (by rw [e5]; exact y_uz_same _ _ _ _), ?_⟩⟩, fun c2 D8 e8 => ⟨0, rfl, rfl, Or.inl (by rw [e8]; exact y_uz_same _ _ _ _), ?_⟩⟩⟩
    · rw [if_neg (by omega)] at h; rw [e2]; exact h
    · rw [if_pos (by omega)] at h; rw [e5]; exact h
    · rw [if_neg (by omega)] at h; rw [e8]; exact h
  · rintro mm a1 a2 D' ⟨rfl, rfl, ht, hK⟩
    refine ⟨z_rk rfl, hk, fun _ => hK, fun _ => ⟨?_, fun _ => hK, fun w => by omega⟩⟩
    rcases ht with w | w <;> rw [w] <;> exact z_rk rfl
end RR
