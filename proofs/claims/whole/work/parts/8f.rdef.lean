/-! contracts of the reference: what is expanded, definitions -/
section RW
variable {n d : Nat} {B : z_D} {A : Nat → Option (List Int)} {D : z_D} {st : Int} {S : y_S} {T : Nat → z_D → Prop}
theorem c_mExpand {t : Int} {K : z_D → Prop} (hr : y_rf (B, A, []) S D) (ho : y_ok st S) (hA : ∀ j, j ≠ 5 → A j = none) (ht : y_tk (y_nn S) t) (hex : y_isex (y_mo S t) = true) (h5 : y_s S 5 = 0) (h : y_fin (y_ex 31 (y_mo S t) S) (fun _ S' => ∀ D', y_rf (B, A, []) S' D' → K D') (y_rT B K)) : z_c n (d + 11) 133 [.ref 336, .int (z_i (y_tr t))] D (z_qV K T) := by
  have e31 : D.1 336 31 = 0 := hr.1.2.2.2.2.2.2.2.2.2.2.2.2.2.2.2.2.2.2.2.2.2.1.1
  refine z_enter (Nat.le_of_ble_eq_true rfl) rfl (fun X => ?_)
  let L : Int → Int → z_D → Prop := fun a2 a3 D => ∀ (o1 : Option Value), z_nl o1 → z_w n (d + 10) (k_tb 133) X 7 [some (.ref 336), o1, some (.int (z_i a2)), some (.int (z_i a3))] [] D (z_qV K T)
  have hL : y_lp2 n (d + 10) K T L := fun a2 a3 D h o1 n1 => v_mExpand_7 (fun a2 a3 o1 D n1 hl => hl o1 n1) n1 h
  refine v_mExpand_0 (H7 := L) (fun a2 a3 o1 D n1 hl => hl o1 n1) ?_
  show L (y_tr t) (D.1 336 31) D
  rw [e31]
  refine L_all hL hA 31 [] S D st t 0 hr ho ht hex (by rw [h5]; rfl) ⟨by simp, fun x hx => (by cases hx)⟩ (Int.le_refl _) (Int.le_refl _) (by omega) (y_om h (fun _ S' hK D' hr' => ?_))
  refine hL _ _ _ ?_
  have f5 : D'.1 336 5 = 0 := hr'.1.2.2.2.2.2.2.2.2.2.2.2.2.2.2.2.2.2.2.1.trans hr'.2
  have f31 : D'.1 336 31 = 0 := hr'.1.2.2.2.2.2.2.2.2.2.2.2.2.2.2.2.2.2.2.2.2.2.1.1
  unfold w_mExpand_7
  rw [f5, f31]
  exact ⟨z_rk rfl, fun z => absurd rfl z, fun _ => ⟨z_rk rfl, fun z => absurd rfl z, fun _ => ⟨z_rk rfl, z_rk rfl, fun _ => hK D' hr', fun z => by omega⟩⟩⟩
theorem c_mNeedX {K : Int → z_D → Prop} (hr : y_rf (B, A, []) S D) (ho : y_ok st S) (hA : ∀ j, j ≠ 5 → A j = none) (h5 : y_s S 5 = 0) (h : y_fin (y_getx (y_ex 31) 201 S) (fun t S' => ∀ D', y_rf (B, A, []) S' D' → K (y_tr t) D') (y_rT B (K (-1)))) : z_c n (d + 12) 134 [.ref 336] D (z_qI K T) := by
  have o4 := ho.2.2.2.2.2.2.2.2.2.2.2.2.2.2.2.2.2.2.2.2.2.2.2.1
  unfold y_getx at h
  have h0 : y_fin (y_bd (y_get true S) (fun t S1 => if y_isex (y_mo S1 t) then y_bd (y_ex 31 (y_mo S1 t) S1) (fun _ S2 => y_getx (y_ex 31) 200 S2) else .inl (t, S1))) (fun t S' => ∀ D', y_rf (B, A, []) S' D' → K (y_tr t) D') (y_rT B (K (-1))) := h
  refine r_mNeedExpanded (fun m a D' => (∃ (S1 : y_S) (g : Nat) (t : Int), a = y_tr t ∧ y_rf (B, A, []) S1 D' ∧ y_ok st S1 ∧ y_s S1 5 = 0 ∧ y_tk (y_nn S1) t ∧ 201 ≤ (g : Int) + 1 + y_s S1 4 ∧ m = 1 + (201 - y_s S1 4).toNat ∧ y_fin (if y_isex (y_mo S1 t) then y_bd (y_ex 31 (y_mo S1 t) S1) (fun _ S2 => y_getx (y_ex 31) g S2) else .inl (t, S1)) (fun t S' => ∀ D', y_rf (B, A, []) S' D' → K (y_tr t) D') (y_rT B (K (-1)))) ∨ (m = 0 ∧ ∃ S', y_rfw B S' D' ∧ y_rT B (K (-1)) S')) (c_mNeed hr ho (y_gt (yo_getT ho) h0 (fun t S1 ⟨k1, k2, k3, _⟩ h D1 hr1 => ⟨_, Or.inl ⟨S1, 200, t, rfl, hr1, k1, k2.2.2.2.2.2.2.2.1.trans h5, k3, by have := k1.2.2.2.2.2.2.2.2.2.2.2.2.2.2.2.2.2.2.2.2.2.2.2.1; omega, rfl, h⟩⟩) (fun S' hT D1 hw => ⟨0, Or.inr ⟨rfl, S', hw, hT⟩⟩))) ?_
  rintro mm a D' (⟨S1, g, t, rfl, hr1, ho1, h51, ht, hg, rfl, h⟩ | ⟨rfl, S', hw, hT⟩)
  · have e5 : D'.1 336 5 = 0 := hr1.1.2.2.2.2.2.2.2.2.2.2.2.2.2.2.2.2.2.2.1.trans hr1.2
    have o41 := ho1.2.2.2.2.2.2.2.2.2.2.2.2.2.2.2.2.2.2.2.2.2.2.2.1
    unfold w_mNeedExpanded_5 w_mNeedExpanded_44
    rw [e5]
    refine ⟨z_rk rfl, fun z => absurd rfl z, fun _ => c_mIsex hr1.1 ho1 ht ⟨fun z => ?_, fun z => ?_⟩⟩
    · rw [if_neg (by rw [z]; exact Bool.false_ne_true)] at h
      rw [e5]
      exact ⟨z_rk rfl, fun w => absurd rfl w, fun _ => h D' hr1⟩
    · rw [if_pos z] at h
      refine c_mExpand hr1 ho1 hA ht z h51 (y_gt (yo_ex 31 _ S1 ho1 (y_mo_ok ho1 ht)) h (fun _ S2 ⟨c1, c2, c3⟩ h D2 hr2 => ?_) (fun S' hT D2 hw => ?_))
      · have f5 : D2.1 336 5 = 0 := hr2.1.2.2.2.2.2.2.2.2.2.2.2.2.2.2.2.2.2.2.1.trans hr2.2
        have o42 := c1.2.2.2.2.2.2.2.2.2.2.2.2.2.2.2.2.2.2.2.2.2.2.2.1
        obtain ⟨g, rfl⟩ : ∃ g', g = g' + 1 := ⟨g - 1, by omega⟩
        unfold y_getx at h
        rw [f5]
        refine ⟨z_rk rfl, fun w => absurd rfl w, fun _ => c_mNeed hr2 c1 (y_gt (yo_getT c1) h (fun u S3 ⟨k1, k2, k3, _⟩ h D3 hr3 => ⟨_, ?_, Or.inl ⟨S3, g, u, rfl, hr3, k1, ?_, k3, ?_, rfl, h⟩⟩) (fun S' hT D3 hw => ⟨0, by omega, Or.inr ⟨rfl, S', hw, hT⟩⟩))⟩
        · have e4 : y_s S3 4 = y_s S2 4 := k2.2.2.2.2.2.2.1
          omega
        · exact k2.2.2.2.2.2.2.2.1.trans (c2.2.2.2.2.2.2.2.2.1.trans h51)
        · have e4 : y_s S3 4 = y_s S2 4 := k2.2.2.2.2.2.2.1
          omega
      · have hf := y_rfw_f hw
        exact ⟨y_rs (by omega) (by omega), fun _ => ⟨0, by omega, Or.inr ⟨rfl, S', hw, hT⟩⟩, fun w => by omega⟩
  · have hf := y_rfw_f hw
    exact ⟨y_rs (by omega) (by omega), fun _ => ⟨y_rs (by omega) (by omega), fun _ => hT D' hw, fun w => by omega⟩, fun w => by omega⟩
end RW
