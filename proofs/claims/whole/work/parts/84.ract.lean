/-! contracts of the reference: groups, let, categories -/
section RA
variable {n d : Nat} {Q : y_Q} {D : z_D} {st : Int} {S : y_S} {T : Nat → z_D → Prop}
theorem c_mSend {t : Int} {K : z_D → Prop} (hr : y_rf Q S D) (ho : y_ok st S) (h : y_fin (y_send t S) (fun _ S' => ∀ D', y_rf Q S' D' → K D') (y_rT Q.1 K)) : z_c n (d + 2) 142 [.ref 336, .int (z_i t)] D (z_qV K T) := by
  have e9 := hr.1.2.2.2.1.1
  have o5 := ho.2.2.2.2.2.2.1
  unfold y_send at h
  refine r_mSend ?_
  unfold w_mSend_0
  rw [e9]
  refine ⟨y_rs (by omega) (by omega), fun c => ⟨by omega, fun D3 e3 D4 e4 => ?_⟩, fun c => ?_⟩
  · rw [if_neg (by omega)] at h
    rw [show (((y_l S 2).length : Nat) : Int).toNat = (y_l S 2).length by omega] at e3
    have e39 : D3.1 336 37 = ((y_l S 2).length : Int) := by rw [e3]; exact e9
    rw [e39] at e4
    exact h D4 ⟨by rw [e4, e3]; exact rf_out hr.1 t, hr.2⟩
  · rw [if_pos (by omega)] at h
    exact c_stop hr (by decide) (by decide) h
theorem c_mClose {K : z_D → Prop} (hr : y_rf Q S D) (ho : y_ok st S) (h : y_fin (y_close S) (fun _ S' => ∀ D', y_rf Q S' D' → K D') (y_rT Q.1 K)) : z_c n (d + 2) 114 [.ref 336] D (z_qV K T) := by
  have o11 := ho.2.2.2.2.2.2.2.2.2.2.1
  have e18 := hr.1.2.2.2.2.2.1
  rcases y_snoc (y_l S 4) with z | ⟨l, s, z⟩
  · unfold y_close at h
    rw [z] at h
    refine r_mCloseGroup (fun _ _ => False) ?_ (fun _ _ q => q.elim)
    unfold w_mCloseGroup_0
    rw [e18, z]
    exact ⟨z_rk rfl, fun c => absurd rfl c, fun _ => c_stop hr (by decide) (by decide) h⟩
  · have hs := ho.2.2.2.2.2.2.2.2.2.2.2.2.2.1 s (by rw [z]; simp)
    unfold y_close at h
    rw [z] at h
    simp only [List.getLast?_append, List.getLast?_singleton, Option.some_or, List.dropLast_concat] at h
    have o15 := ho.2.2.2.2.2.2.2.2.2.2.2.2.2.2.1
    rw [z] at o15
    have hp := List.pairwise_append.mp o15
    -- the states on the way still have the group
    refine r_mCloseGroup (fun m D' => ∃ S1, y_rf Q S1 D' ∧ y_ok st S1 ∧ y_l S1 4 = l ++ [s] ∧ s ≤ (y_l S1 5).length ∧ (∀ D', y_rf Q (y_undo ((y_l S1 5).length - s.toNat) (y_sl S1 4 l)) D' → K D') ∧ m = ((y_l S1 5).length - s).toNat) ?_ ?_
    · unfold w_mCloseGroup_0
      rw [e18, z]
      exact ⟨y_rs (by rw [z] at o11; omega) (by rw [z] at o11; omega), fun _ => ⟨_, S, hr, ho, z, hs.2, h, rfl⟩, fun c => by simp at c; omega⟩
    · rintro mm D' ⟨S1, hr1, ho1, z1, hs1, hK, rfl⟩
      have e18 := hr1.1.2.2.2.2.2.1
      have e19 := hr1.1.2.2.2.2.2.2.1.1.1
      rw [List.length_map] at e19
      have o11 := ho1.2.2.2.2.2.2.2.2.2.2.1
      have o12 := ho1.2.2.2.2.2.2.2.2.2.2.2.1
      have o13 := ho1.2.2.2.2.2.2.2.2.2.2.2.2.1
      have hn := ho1.2.2.2.2.2.2.2.2.2.2.2.2.2.2.2.2.2.2.2.1.2
      rw [z1] at e18 o11
      have fin : (y_l S1 5).length ≤ s → ∀ D6, D6 = z_uz D' 336 18 ((((l ++ [s]).length : Nat) : Int) - 1) → K D6 := by
        intro c D6 e6
        have hh := hK D6
        rw [show (y_l S1 5).length - s.toNat = 0 by omega] at hh
        refine hh ⟨?_, hr1.2⟩
        rw [e6, show (((l ++ [s]).length : Nat) : Int) - 1 = (l.length : Int) by simp]
        exact rf_shut hr1.1 z1 (by omega)
      unfold w_mCloseGroup_14
      rw [e19, e18]
      refine ⟨y_rs (by omega) (by omega), fun c => fin (by omega), fun c => ?_⟩
      rw [show (((y_l S1 5).length : Int) - 1).toNat = (y_l S1 5).length - 1 by omega, hr1.1.2.2.2.2.2.2.1.2.2 _ (by omega), z1]
      have hg := y_gn_last (l := l) (s := s) (i := (y_l S1 5).length - 1) o15
      have hgr := y_gn_r (l ++ [s]) ((y_l S1 5).length - 1)
      refine ⟨by omega, y_rs (by omega) (by omega), y_rs (by omega) (by omega), fun c1 => fin ?_, fun c1 D7 e7 => ?_⟩
      · have := fun w => c1 (hg.mpr w)
        omega
      · have hsl := hg.mp c1
        obtain ⟨a, k, b, v, ea, eb, hk, hu, ho2, ho3⟩ := y_und ho1 (by omega) (fun x hx => by
          rw [z1] at hx
          rcases List.mem_append.mp hx with hx | hx
          · have := hp.2.2 x hx s (by simp); omega
          · rw [List.mem_singleton.mp hx]; omega)
        have el : (y_l S1 5).length = a.length + 1 := by rw [ea]; simp
        have hab : a.length = b.length := by rw [ea, eb] at o13; simp at o13; omega
        rw [show ((y_l S1 5).length : Int) - 1 = (a.length : Int) by omega] at e7
        have h7 : y_ref Q (y_sl (y_sl S1 5 a) 6 b) D7 := by rw [e7]; exact rf_unkeep hr1.1 ea eb hab
        have e79 : D7.1 336 19 = (a.length : Int) := by rw [e7]; exact y_uz_same _ _ _ _
        have e746 : D7.1 346 a.length = y_kr k := by
          rw [e7, y_uz_cell (by decide), hr1.1.2.2.2.2.2.2.1.1.2 _ (by rw [ea]; simp), ea]
          simp
        have e747 : D7.1 347 a.length = y_vr k v := by
          rw [e7, y_uz_cell (by decide)]
          exact hr1.1.2.2.2.2.2.2.1.2.1 a.length k v (by rw [ea]; simp) (by rw [eb, hab]; simp)
        rw [e79, show ((a.length : Nat) : Int).toNat = a.length by omega, e746, e747]
        have hkr := y_kr_r hk hn
        obtain ⟨c, j, g1, g2, g3⟩ := rf_set (v := v) h7 hk hn
        have e5 : y_l (y_set k v (y_sl (y_sl S1 5 a) 6 b)) 5 = a := by rw [set_l]; rfl
        have e4 : y_l (y_set k v (y_sl (y_sl S1 5 a) 6 b)) 4 = l ++ [s] := by rw [set_l]; exact z1
        have esl : y_sl (y_set k v (y_sl (y_sl S1 5 a) 6 b)) 4 l = y_set k v (y_sl (y_sl (y_sl S1 4 l) 5 a) 6 b) := by
          unfold y_set
          split
          · refine Prod.ext ?_ rfl
            funext i
            show am_u1 (am_u1 (am_u1 (y_l S1) 5 a) 6 b) 4 l i = am_u1 (am_u1 (am_u1 (y_l S1) 4 l) 5 a) 6 b i
            unfold am_u1
            by_cases w4 : i = 4 <;> by_cases w5 : i = 5 <;> by_cases w6 : i = 6 <;> simp [w4, w5, w6] <;> omega
          · refine Prod.ext ?_ rfl
            funext i
            show am_u1 (am_u1 (am_u1 (y_l S1) 5 a) 6 b) 4 l i = am_u1 (am_u1 (am_u1 (y_l S1) 4 l) 5 a) 6 b i
            unfold am_u1
            by_cases w4 : i = 4 <;> by_cases w5 : i = 5 <;> by_cases w6 : i = 6 <;> simp [w4, w5, w6] <;> omega
        have next : ∀ D8, D8 = z_uz D7 c j (y_vr k v) → ∃ m, m < ((y_l S1 5).length - s).toNat ∧ ∃ S1, y_rf Q S1 D8 ∧ y_ok st S1 ∧ y_l S1 4 = l ++ [s] ∧ s ≤ (y_l S1 5).length ∧ (∀ D', y_rf Q (y_undo ((y_l S1 5).length - s.toNat) (y_sl S1 4 l)) D' → K D') ∧ m = ((y_l S1 5).length - s).toNat := by
          intro D8 e8
          refine ⟨_, ?_, y_set k v (y_sl (y_sl S1 5 a) 6 b), ⟨by rw [e8]; exact g3, ?_⟩, ho3, e4, ?_, fun D9 h9 => hK D9 ?_, rfl⟩
          · rw [e5]; omega
          · have := (lg_set (y_sl (y_sl S1 5 a) 6 b) k v).2.2.2.2.2.1
            rw [this]; exact hr1.2
          · rw [e5]; omega
          · rw [e5, esl] at h9
            have hu' : ∀ j, y_undo (j + 1) (y_sl S1 4 l) = y_undo j (y_set k v (y_sl (y_sl (y_sl S1 4 l) 5 a) 6 b)) := by
              intro j
              show y_undo j (y_set ((y_l S1 5).getLast?.getD 0) ((y_l S1 6).getLast?.getD 0) (y_sl (y_sl (y_sl S1 4 l) 5 (y_l S1 5).dropLast) 6 (y_l S1 6).dropLast)) = _
              rw [ea, eb]
              simp
            rw [show (y_l S1 5).length - s.toNat = (a.length - s.toNat) + 1 by omega, hu']
            exact h9
        refine ⟨by omega, y_rs (by omega) (by omega), fun w => ?_, fun w => ?_⟩
        · obtain ⟨z1, z2⟩ := g1 (hkr.2.2.mp w)
          have ek : y_kr k = 200 + k := if_pos (hkr.2.2.mp w)
          have hk128 : 0 ≤ k ∧ k < 128 := by rcases hk with q | q <;> omega
          rw [ek, show 200 + k - 200 = k by omega]
          refine ⟨by omega, by omega, fun D8 e8 => next D8 ?_⟩
          rw [z1, z2]; exact e8
        · have hk4 : 4096 ≤ k := by
            by_cases q : k < 4096
            · have := hkr.2.2.mpr q; omega
            · omega
          obtain ⟨z1, z2⟩ := g2 hk4
          have ek : y_kr k = k - 4096 := if_neg (by omega)
          have : k < 4096 + y_nn S1 := by rcases hk with q | q <;> omega
          rw [ek]
          refine ⟨by omega, by omega, fun D8 e8 => next D8 ?_⟩
          rw [z1, z2]; exact e8
theorem c_mName {K : Int → z_D → Prop} (hr : y_rf Q S D) (ho : y_ok st S) (h : y_fin (y_name S) (fun t S' => ∀ D', y_rf Q S' D' → K (t - 4096) D') (y_rT Q.1 (K (-1)))) : z_c n (d + 7) 135 [.ref 336] D (z_qI K T) := by
  refine r_mNeedName (c_mNeed hr ho (y_gt (yo_getT ho) h (fun t S1 ⟨k1, k2, k3, _⟩ h D1 hr1 => ?_) (fun S' hT D' hw => ⟨z_rk rfl, fun z => absurd rfl z, fun _ => hT D' hw⟩)))
  have hn := k1.2.2.2.2.2.2.2.2.2.2.2.2.2.2.2.2.2.2.2.1.2
  have h1 := y_tr_r k3 hn
  have h2 := y_tr_name k3 hn
  refine ⟨y_rs (by omega) (by omega), fun _ => c_mIsName (y_rs (by omega) (by omega)) ⟨fun c => ?_, fun c => c_mPlain (y_rs (by omega) (by omega)) ?_⟩, fun z => by omega⟩
  · have c := of_decide_eq_false c
    have hu : y_un t < 4096 := by unfold y_un; split <;> omega
    rw [if_pos hu] at h
    exact c_stop hr1 (by decide) (by decide) h
  · have c := of_decide_eq_true c
    have hu : ¬ y_un t < 4096 := by
      have := y_un_tp k3 hn
      rcases k3 with z | z | z
      · have := y_ch_r z; omega
      · unfold y_un; rw [if_neg (by omega)]; omega
      · unfold y_un; rw [if_pos (by omega)]; omega
    rw [if_neg hu] at h
    rw [y_pl_tr k3 hn]
    exact h D1 hr1
theorem y_nt_kr {m : Nat} {t : Int} (h : y_nt m t) : y_kr t = t - 4096 := if_neg (by have := h.1; omega)
theorem y_nt_vr {m : Nat} {t v : Int} (h : y_nt m t) : y_vr t v = y_mr v := if_neg (by have := h.1; omega)
theorem c_mLet {K : z_D → Prop} (hr : y_rf Q S D) (ho : y_ok st S) (h : y_fin (y_letc S) (fun _ S' => ∀ D', y_rf Q S' D' → K D') (y_rT Q.1 K)) : z_c n (d + 8) 139 [.ref 336] D (z_qV K T) := by
  have bad : ∀ (v : Int) (S' : y_S) (D' : z_D), y_rT Q.1 K S' → y_rfw Q.1 S' D' → w_mLet_18 n (d + 7) v (-1) D' K T := fun v S' D' hT hw => ⟨z_rk rfl, fun _ => ⟨z_rk rfl, fun _ => hT D' hw, fun z => absurd rfl z⟩, fun z => (by cases z)⟩
  refine r_mLet (c_mName hr ho (y_gt (yo_name ho) h (fun nm S1 ⟨k1, k2, k3⟩ h D1 hr1 => ?_) (fun S' hT D' hw => ⟨z_rk rfl, fun z => absurd rfl z, fun _ => bad _ S' D' hT hw⟩)))
  have hn := k1.2.2.2.2.2.2.2.2.2.2.2.2.2.2.2.2.2.2.2.1.2
  have hnm : 4096 ≤ nm ∧ nm < 4214 := by unfold y_nt at k3; omega
  refine ⟨y_rs (by omega) (by omega), fun _ => c_mNeed hr1 k1 (y_gt (yo_getT k1) h (fun t S2 ⟨a1, a2, a3, _⟩ h D2 hr2 => ?_) (fun S' hT D' hw => bad _ S' D' hT hw)), fun z => by omega⟩
  have h1 := y_tr_r a3 a1.2.2.2.2.2.2.2.2.2.2.2.2.2.2.2.2.2.2.2.1.2
  have chg : ∀ (u : Int) (S3 : y_S) (D3 : z_D), y_rf Q S3 D3 → y_ok st S3 → y_tk (y_nn S3) u → y_nt (y_nn S3) nm → y_fin (y_chg nm (y_mo S3 u) S3) (fun _ S' => ∀ D', y_rf Q S' D' → K D') (y_rT Q.1 K) → w_mLet_31 n (d + 7) (nm - 4096) (y_tr u) D3 K T := by
    intro u S3 D3 hr3 ho3 hu hnt h3
    have hr' := y_tr_r hu ho3.2.2.2.2.2.2.2.2.2.2.2.2.2.2.2.2.2.2.2.1.2
    refine ⟨y_rs (by omega) (by omega), fun z => by omega, fun _ => c_mMo hr3.1 ho3 hu ?_⟩
    have := c_mChange (n := n) (d := d + 5) (T := T) hr3 ho3 (y_nt_ky hnt) h3
    rw [y_nt_kr hnt, y_nt_vr hnt] at this
    exact this
  refine ⟨y_rs (by omega) (by omega), fun c => ?_, fun c => ?_⟩
  · have c' : ¬ t = 3133 := fun z => c (by rw [z]; rfl)
    rw [if_neg c'] at h
    exact chg t S2 D2 hr2 a1 a3 (y_nt_le k3 a2.1) h
  · have c' : t = 3133 := by
      unfold y_tr at c
      split at c
      · exact c
      · split at c
        · omega
        · rcases a3 with z | z | z
          · have := y_ch_r z; omega
          · have := a1.2.2.2.2.2.2.2.2.2.2.2.2.2.2.2.2.2.2.2.1.2; omega
          · omega
    rw [if_pos c'] at h
    refine c_mNeed hr2 a1 (y_gt (yo_getT a1) h (fun u S3 ⟨b1, b2, b3, _⟩ h D3 hr3 => chg u S3 D3 hr3 b1 b3 (y_nt_le k3 (Nat.le_trans a2.1 b2.1)) h) (fun S' hT D' hw => ⟨z_rk rfl, fun _ => hT D' hw, fun z => absurd rfl z⟩))
end RA
