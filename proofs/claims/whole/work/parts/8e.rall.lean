/-! contracts of the reference: expansions, all -/
section RV
variable {n d : Nat} {B : z_D} {A : Nat → Option (List Int)} {F G : List y_F} {D : z_D} {st : Int} {S : y_S} {T : Nat → z_D → Prop} {K : z_D → Prop} {L : Int → Int → z_D → Prop}
/-- getting tokens changes no meaning -/
theorem ym_find (ls : List Int) (b : Bool) (S : y_S) : y_fin (y_find ls b S) (fun _ S' => y_mean S' = y_mean S) (fun _ => True) := by
  unfold y_find
  split
  · exact rfl
  · split
    · trivial
    · exact rfl
theorem ym_let : ∀ (f : Nat) (ls : List Int) (S : y_S), y_fin (y_let f ls S) (fun _ S' => y_mean S' = y_mean S) (fun _ => True)
  | 0, ls, S => ym_find ls false S
  | f + 1, ls, S => by
    unfold y_let
    split
    · split
      · split
        · trivial
        · exact ym_let f _ _
      · exact ym_find ls false S
    · exact ym_find ls false S
theorem ym_line : ∀ (f : Nat) (c : Int) (S : y_S), y_mean (y_line f c S) = y_mean S
  | 0, c, S => rfl
  | f + 1, c, S => by
    unfold y_line
    split
    · rfl
    · split
      · exact ym_line f _ _
      · rfl
theorem ym_read : ∀ (f : Nat) (S : y_S), y_fin (y_read f S) (fun _ S' => y_mean S' = y_mean S) (fun _ => True)
  | 0, S => rfl
  | f + 1, S => by
    unfold y_read
    split
    · dsimp only
      split
      · unfold y_rdn
        split
        · dsimp only
          split
          · exact ym_let _ _ _
          · exact ym_find _ _ _
        · trivial
      · split
        · split
          · exact ym_line 160 _ _
          · exact y_om (ym_read f _) (fun _ S' e => e.trans (ym_line 160 _ _))
        · split
          · exact ym_read f _
          · split
            · split
              · exact rfl
              · exact ym_read f _
            · split
              · exact ym_find _ _ _
              · split
                · trivial
                · exact rfl
    · exact rfl
theorem ym_get {b : Bool} (S : y_S) : y_fin (y_get b S) (fun _ S' => y_mean S' = y_mean S) (fun _ => True) := by
  unfold y_get
  split
  · exact rfl
  · refine y_ob (ym_read 161 S) (fun t S1 e => ?_)
    split
    · trivial
    · exact e
/-- nothing is put back behind a fault where all is full -/
theorem c_mPutW {t : Int} {K : z_D → Prop} (hw : y_rfw B S D) (hl : (y_l S 1).length = 300) (h : y_rT B K S) : z_c n (d + 2) 106 [.ref 336, .int (z_i t)] D (z_qV K T) := by
  obtain ⟨A', F', v, hr, f0, f8⟩ := hw
  have e9 := hr.2.2.1.1
  rw [List.length_map] at e9
  have e9 : D.1 336 9 = 300 := by
    have hl' : (y_l (y_ss S 1 v) 1).length = 300 := hl
    rw [e9, hl']; rfl
  refine r_mPutBack ?_
  unfold w_mPutBack_0
  rw [e9]
  exact ⟨z_rk rfl, fun z => absurd rfl z, fun _ => c_stopW ⟨A', F', v, hr, f0, f8⟩ h⟩
set_option maxHeartbeats 1000000 in
set_option maxRecDepth 20000 in
theorem L_all (hL : y_lp2 n (d + 10) K T L) (hA : ∀ j, j ≠ 5 → A j = none) : ∀ f, y_EX n d B A K T L f
  | 0 => fun F S D st t a3 hr ho ht hex hF hsf a0 a1 hfu h => by
    have := ho.2.2.2.2.2.2.2.2.2.2.2.2.2.2.2.2.2.2.2.2.2.2.2.2.1
    omega
  | f + 1 => fun F S D st t a3 hr ho ht hex hF hsf a0 a1 hfu h => by
    have hE : y_EX n d B A K T L f := L_all hL hA f
    have o4 := ho.2.2.2.2.2.2.2.2.2.2.2.2.2.2.2.2.2.2.2.2.2.2.2.1
    have o5 := ho.2.2.2.2.2.2.2.2.2.2.2.2.2.2.2.2.2.2.2.2.2.2.2.2.1
    have e7 : D.1 336 7 = y_s S 4 := hr.1.2.2.2.2.2.2.2.2.2.2.2.2.2.2.2.2.2.2.2.2.1
    have e31 : D.1 336 31 = (F.length : Int) := hr.1.2.2.2.2.2.2.2.2.2.2.2.2.2.2.2.2.2.2.2.2.2.1.1
    unfold y_ex at h
    refine L_be hL hr ho ht (r_mBegin ?_)
    have bad : (200 ≤ y_s S 4 ∨ 30 ≤ y_s S 5) → w_mBegin_19 n (d + 9) D (fun v D2 => L v a3 D2) T := by
      intro c
      rw [if_pos c] at h
      exact c_stop hr (by decide) (by decide) (fun D2 hw => L_f hL hw h)
    unfold w_mBegin_0
    rw [e7, e31]
    refine ⟨y_rs (by omega) (by omega), fun c => bad (by omega), fun c => ⟨y_rs (by omega) (by omega), fun c1 D3 e3 => ?_, fun c1 => bad (by omega)⟩⟩
    have hF30 : F.length < 30 := by have := hsf.1; omega
    rw [if_neg (by omega)] at h
    have h := y_fbi h
    have hr3 : y_rf (B, A, F) (y_ss (y_ss S 4 (y_s S 4 + 1)) 5 (y_s S 5 + 1)) D3 := ⟨by rw [e3]; exact rf_s5 (rf_s4 hr.1 _) _, hr.2⟩
    have ho3 : y_ok st (y_ss (y_ss S 4 (y_s S 4 + 1)) 5 (y_s S 5 + 1)) := y_ok_s5 (y_ok_s4 ho (by omega) (by omega)) (by omega) (by omega)
    have h : y_fin (y_exb (y_ex f) (y_mo S t) (y_ss (y_ss S 4 (y_s S 4 + 1)) 5 (y_s S 5 + 1))) (fun _ S1 => ∀ D', y_rf (B, A, F) S1 D' → L (-1) a3 D') (y_rT B K) := y_om h (fun _ S1 z D' hr' => z D' ⟨rf_s5 hr'.1 _, hr'.2⟩)
    have ht3 : y_tk (y_nn (y_ss (y_ss S 4 (y_s S 4 + 1)) 5 (y_s S 5 + 1))) t := ht
    have em : y_mo (y_ss (y_ss S 4 (y_s S 4 + 1)) 5 (y_s S 5 + 1)) t = y_mo S t := rfl
    have hs5 : y_s (y_ss (y_ss S 4 (y_s S 4 + 1)) 5 (y_s S 5 + 1)) 5 = (F.length : Int) + 1 := by
      show y_s S 5 + 1 = _
      omega
    have hs4 : y_s (y_ss (y_ss S 4 (y_s S 4 + 1)) 5 (y_s S 5 + 1)) 4 = y_s S 4 + 1 := rfl
    generalize y_ss (y_ss S 4 (y_s S 4 + 1)) 5 (y_s S 5 + 1) = S0 at *
    refine c_mMo hr3.1 ho3 ht3 ?_
    have hmn := y_mo_ok ho3 ht3
    rw [em] at hmn ⊢
    have hmr := y_mr_r hmn ho3.2.2.2.2.2.2.2.2.2.2.2.2.2.2.2.2.2.2.2.2.2.1
    have hmv := y_mn_r hmn ho3.2.2.2.2.2.2.2.2.2.2.2.2.2.2.2.2.2.2.2.2.2.1
    have hex' := of_decide_eq_true hex
    generalize y_mo S t = m at *
    -- the meanings
    have hcase : (m ≤ 18 ∧ y_mr m = m ∧ 8 ≤ m ∧ m ≠ 11) ∨ (4096 ≤ m ∧ y_mr m = m + 1904) := by
      unfold y_mr
      split
      · exact Or.inl ⟨by omega, rfl, by omega, by omega⟩
      · exact Or.inr ⟨by omega, by rw [if_neg (by omega)]⟩
    have fl : ∀ {S' : y_S} {D' : z_D} {v : Int}, y_rT B K S' → y_rfw B S' D' → L v a3 D' := fun hT hw => L_f hL hw hT
    unfold y_exb at h
    refine ⟨y_rs (by omega) (by omega), fun q => ?_, fun q => ?_⟩
    · have hm : y_mr m = m := by omega
      rw [hm]
      have hm18 : 8 ≤ m ∧ m ≤ 18 ∧ m ≠ 11 := by omega
      refine ⟨fun q8 => ⟨fun q9 => ⟨fun q12 => ⟨fun q10 => ⟨fun q17 => ?_, fun q17 => ⟨fun q18 => ?_, fun q18 => ?_⟩⟩, fun q10 => ?_⟩, fun q12 => ?_⟩, fun q9 => ?_⟩, fun q8 => ?_⟩
      · -- else
        rw [if_neg q8, if_neg q9, if_neg q10, if_neg q12, if_neg (by omega), if_pos q17] at h
        exact c_mCloseC (Q := (B, A, F)) hr3 ho3 (Or.inl q17) (by rw [if_pos q17]; exact y_tm h (fun _ _ z => z) (fun S' hT D' hw => fl hT hw))
      · -- a conditional
        have hm13 : 13 ≤ m ∧ m ≤ 16 := by omega
        rw [if_neg q8, if_neg q9, if_neg q10, if_neg q12, if_pos hm13] at h
        unfold y_cond at h
        have e29 := hr3.1.2.2.2.2.1.1
        have o9 := ho3.2.2.2.2.2.2.2.2.1
        refine r_mOpen ?_
        unfold w_mOpen_0
        rw [e29]
        refine ⟨y_rs (by omega) (by omega), fun z => ⟨by omega, fun D5 e5 D6 e6 => ?_⟩, fun z => ?_⟩
        · rw [if_neg (by omega)] at h
          dsimp only at h
          rw [show (((y_l S0 3).length : Nat) : Int).toNat = (y_l S0 3).length by omega] at e5
          have f29 : D5.1 336 29 = ((y_l S0 3).length : Int) := by rw [e5]; exact e29
          rw [f29] at e6
          have hr6 : y_rf (B, A, F) (y_sl S0 3 (y_l S0 3 ++ [0])) D6 := ⟨by rw [e6, e5]; exact rf_cond hr3.1 0, hr3.2⟩
          have ho6 : y_ok st (y_sl S0 3 (y_l S0 3 ++ [0])) := y_ok_l3 ho3 (by simp; omega) (y_all_snoc ho3.2.2.2.2.2.2.2.2.2.1 (by decide))
          have g5 : D6.1 336 5 = 0 := hr6.1.2.2.2.2.2.2.2.2.2.2.2.2.2.2.2.2.2.2.1.trans hr6.2
          have g29 : D6.1 336 29 = ((y_l S0 3 ++ [0]).length : Int) := hr6.1.2.2.2.2.1.1
          rw [g5]
          refine ⟨z_rk rfl, fun w => absurd rfl w, fun _ => r_mTest ?_⟩
          have hs56 : y_s (y_sl S0 3 (y_l S0 3 ++ [0])) 5 = (F.length : Int) + 1 := hs5
          have hl6 : y_l (y_sl S0 3 (y_l S0 3 ++ [0])) 3 = y_l S0 3 ++ [0] := rfl
          generalize y_sl S0 3 (y_l S0 3 ++ [0]) = S6 at *
          unfold w_mTest_0
          have elen : (((y_l S0 3 ++ [(0 : Int)]).length : Nat) : Int) - 1 = ((y_l S0 3).length : Int) := by simp
          rw [g29, elen]
          have dec : ∀ (b : Bool) (S7 : y_S) (D7 : z_D), y_rf (B, A, F) S7 D7 → y_ok st S7 → (y_l S0 3 ++ [0]) <+: y_l S7 3 → y_fin (if b then .inl ((), y_sl (y_sl S7 3 ((y_l S7 3).take ((y_l S0 3).length + 1))) 3 ((y_l (y_sl S7 3 ((y_l S7 3).take ((y_l S0 3).length + 1))) 3).set (y_l S0 3).length 1)) else y_pass true 1000 0 (y_sl S7 3 ((y_l S7 3).take ((y_l S0 3).length + 1)))) (fun _ S1 => ∀ D', y_rf (B, A, F) S1 D' → L (-1) a3 D') (y_rT B K) → w_mTest_91 n (d + 8) ((y_l S0 3).length : Int) b D7 (fun D9 => L (-1) a3 D9) T := by
            intro b S7 D7 hr7 ho7 hpre h7
            exact c_decide (Q := (B, A, F)) hr7 ho7 hpre (y_tm h7 (fun _ _ z => z) (fun S' hT D' hw => fl hT hw))
          refine ⟨y_rs (by omega) (by omega), fun c13 => ⟨fun c14 => ⟨fun c15 => ?_, fun c15 => ?_⟩, fun c14 => ?_⟩, fun c13 => ?_⟩
          · rw [if_neg c13, if_neg c14, y_bd_inl, decide_eq_false c15] at h
            exact dec false S6 D6 hr6 ho6 (by rw [hl6]; exact List.prefix_refl _) h
          · rw [if_neg c13, if_neg c14, y_bd_inl, decide_eq_true c15] at h
            exact dec true S6 D6 hr6 ho6 (by rw [hl6]; exact List.prefix_refl _) h
          · rw [if_neg c13, if_pos c14] at h
            have h2 : y_fin (y_bd (y_get true S6) (fun a S1 => y_bd (y_get true S1) (fun b S2 => .inl (y_alike S2 (y_mo S1 a) (y_mo S2 b), S2)))) _ _ := y_fbi h
            have bad2 : ∀ (v : Int) (S' : y_S) (D' : z_D), y_rT B K S' → y_rfw B S' D' → w_mTest_47 n (d + 8) ((y_l S0 3).length : Int) v (-1) D' (fun D9 => L (-1) a3 D9) T := fun v S' D' hT hw => ⟨z_rk rfl, fun _ => fl hT hw, fun w => absurd rfl w⟩
            refine c_mNeed hr6 ho6 (y_gt (yo_getT ho6) h2 (fun a S1 ⟨k1, k2, k3, _⟩ h D7 hr7 => ?_) (fun S' hT D7 hw => ⟨z_rk rfl, fun w => absurd rfl w, fun _ => bad2 _ S' D7 hT hw⟩))
            have htr := y_tr_r k3 k1.2.2.2.2.2.2.2.2.2.2.2.2.2.2.2.2.2.2.2.1.2
            have hmean := ym_get (b := true) S1
            have hyo := yo_getT k1
            have hboth : y_fin (y_get true S1) (fun t S' => (y_ok st S' ∧ y_lg S1 S' ∧ y_tk (y_nn S') t ∧ y_mu S' < y_mu S1) ∧ y_mean S' = y_mean S1) (y_ok st) := by
              cases hg : y_get true S1 with
              | inl q => rw [hg] at hmean hyo; exact ⟨hyo, hmean⟩
              | inr q => rw [hg] at hyo; exact hyo
            refine ⟨y_rs (by omega) (by omega), fun _ => c_mNeed hr7 k1 (y_gt hboth h (fun b S2 ⟨⟨b1, b2, b3, _⟩, b4⟩ h D8 hr8 => ?_) (fun S' hT D8 hw => bad2 _ S' D8 hT hw)), fun w => by omega⟩
            have htr2 := y_tr_r b3 b1.2.2.2.2.2.2.2.2.2.2.2.2.2.2.2.2.2.2.2.1.2
            have k3' : y_tk (y_nn S2) a := y_tk_le k3 b2.1
            have ema : y_mo S2 a = y_mo S1 a := by unfold y_mo; rw [b4]
            rw [← ema] at h
            have hpre : (y_l S0 3 ++ [0]) <+: y_l S2 3 := by rw [b2.2.2.2.2.2.2.2.2.2, k2.2.2.2.2.2.2.2.2.2, hl6]; exact List.prefix_refl _
            exact ⟨y_rs (by omega) (by omega), fun w => by omega, fun _ => c_mMo hr8.1 b1 k3' (c_mMo hr8.1 b1 b3 (c_mAlike hr8.1 b1 (y_mo_ok b1 k3') (y_mo_ok b1 b3) (dec _ S2 D8 hr8 b1 hpre h)))⟩
          · rw [if_pos c13] at h
            rw [c13]
            exact c_push hr6.1 hF30 (fun D' hr' => L_if (st := st) hL hE hsf hF30 ⟨a0, a1⟩ ⟨hr', hr6.2⟩ ho6 hl6 (by omega) (by omega) h)
        · rw [if_pos (by omega)] at h
          refine c_stop hr3 (by decide) (by decide) (fun D5 hw => ?_)
          have hf := y_rfw_f hw
          exact ⟨y_rs (by omega) (by omega), fun _ => fl h hw, fun w => by omega⟩
      · -- fi
        rw [if_neg q8, if_neg q9, if_neg q10, if_neg q12, if_neg (by omega), if_neg q17, if_pos q18] at h
        exact c_mCloseC (Q := (B, A, F)) hr3 ho3 (Or.inr q18) (by rw [if_neg q17]; exact y_tm h (fun _ _ z => z) (fun S' hT D' hw => fl hT hw))
      · -- csname
        rw [if_neg q8, if_neg q9, if_pos q10] at h
        have hcs : y_fin (y_bd (y_csn (y_ex f) 12 [] S0) (fun ls S1 => y_csr S1 ls)) (fun _ S1 => ∀ D', y_rf (B, A, F) S1 D' → L (-1) a3 D') (y_rT B K) := h
        rw [q10]
        refine c_push hr3.1 hF30 (fun D' hr' => L_csn (st := st) hL hE hsf hF30 ⟨a0, a1⟩ 12 [] S0 D' ⟨hr', hr3.2⟩ ho3 rfl (by simp) (fun c hc => by cases hc) (by omega) (by omega) hcs)
      · -- string
        rw [if_neg q8, if_neg q9, if_neg (by omega), if_pos q12] at h
        have hst : y_fin (y_bd (y_get true S0) (fun t S1 => y_strT t S1)) (fun _ S1 => ∀ D', y_rf (B, A, F) S1 D' → L (-1) a3 D') (y_rT B K) := h
        refine c_mNeed hr3 ho3 (y_gt (yo_getT ho3) hst (fun u S1 ⟨k1, k2, k3, _⟩ h D4 hr4 => ?_) (fun S' hT D4 hw => ⟨z_rk rfl, fun _ => fl hT hw, fun w => absurd rfl w⟩))
        have htr := y_tr_r k3 k1.2.2.2.2.2.2.2.2.2.2.2.2.2.2.2.2.2.2.2.1.2
        exact ⟨y_rs (by omega) (by omega), fun w => by omega, fun _ => c_mString hr4 k1 k3 (y_tm h (fun _ _ z => z) (fun S' hT D' hw => fl hT hw))⟩
      · -- noexpand
        rw [if_neg q8, if_pos q9] at h
        unfold y_mark at h
        refine c_mNeed hr3 ho3 (y_gt (yo_getT ho3) h (fun u S1 ⟨k1, k2, k3, _⟩ h D4 hr4 => ?_) (fun S' hT D4 hw => ⟨z_rk rfl, fun _ => fl hT hw, fun w => absurd rfl w⟩))
        have htr := y_tr_r k3 k1.2.2.2.2.2.2.2.2.2.2.2.2.2.2.2.2.2.2.2.1.2
        have hnm := y_tr_name k3 k1.2.2.2.2.2.2.2.2.2.2.2.2.2.2.2.2.2.2.2.1.2
        have plain : y_isex (y_mo S1 u) = false → w_mBegin_171 n (d + 9) (y_tr u) D4 (fun v D2 => L v a3 D2) T := fun z => by
          rw [if_neg (by rw [z]; exact Bool.false_ne_true)] at h
          exact c_mPut hr4 k1 (y_tm h (fun _ _ z => z) (fun S' hT D' hw => fl hT hw))
        refine ⟨y_rs (by omega) (by omega), fun w => by omega, fun _ => c_mIsName (y_rs (by omega) (by omega)) ⟨fun w => plain ?_, fun w => c_mIsex hr4.1 k1 k3 ⟨fun w2 => plain w2, fun w2 => ?_⟩⟩⟩
        · have w := of_decide_eq_false w
          cases e : y_isex (y_mo S1 u) with
          | false => rfl
          | true =>
            have := y_ex_nt k3 e
            unfold y_nt at this
            omega
        · rw [if_pos w2] at h
          have hnt := y_ex_nt k3 w2
          have hn1 := k1.2.2.2.2.2.2.2.2.2.2.2.2.2.2.2.2.2.2.2.1.2
          unfold y_nt at hnt
          have et : y_tr u = u := if_pos (by omega)
          have et2 : y_tr (u + 16384) = u + 8192 := by unfold y_tr; rw [if_neg (by omega), if_neg (by omega)]; omega
          have key := c_mPut (n := n) (d := d + 7) (T := T) hr4 k1 (K := fun D2 => L (-1) a3 D2) (y_tm h (fun _ _ z => z) (fun S' hT D' hw => fl hT hw))
          rw [et2] at key
          rw [et]
          exact key
      · -- expandafter
        rw [if_pos q8] at h
        unfold y_after at h
        rw [q8]
        have bad2 : ∀ (v : Int) (S' : y_S) (D' : z_D), y_rT B K S' → y_rfw B S' D' → w_mBegin_84 n (d + 9) 8 v (-1) D' (fun v D2 => L v a3 D2) T := fun v S' D' hT hw => ⟨z_rk rfl, fun _ => ⟨z_rk rfl, fun _ => fl hT hw, fun w => absurd rfl w⟩, fun w => absurd rfl w⟩
        refine c_mNeed hr3 ho3 (y_gt (yo_getT ho3) h (fun a S1 ⟨k1, k2, k3, _⟩ h D4 hr4 => ?_) (fun S' hT D4 hw => ⟨z_rk rfl, fun w => absurd rfl w, fun _ => bad2 _ S' D4 hT hw⟩))
        have htr := y_tr_r k3 k1.2.2.2.2.2.2.2.2.2.2.2.2.2.2.2.2.2.2.2.1.2
        refine ⟨y_rs (by omega) (by omega), fun _ => c_mNeed hr4 k1 (y_gt (yo_getT k1) h (fun b S2 ⟨b1, b2, b3, _⟩ h D5 hr5 => ?_) (fun S' hT D5 hw => bad2 _ S' D5 hT hw)), fun w => by omega⟩
        have htr2 := y_tr_r b3 b1.2.2.2.2.2.2.2.2.2.2.2.2.2.2.2.2.2.2.2.1.2
        have hs52 : y_s S2 5 = (F.length : Int) + 1 := (b2.2.2.2.2.2.2.2.1.trans k2.2.2.2.2.2.2.2.1).trans hs5
        refine ⟨y_rs (by omega) (by omega), fun w => by omega, fun _ => c_mIsex hr5.1 b1 b3 ⟨fun z => ⟨y_rs (by omega) (by omega), fun w => by omega, fun _ => ?_⟩, fun z => ?_⟩⟩
        · rw [if_neg (by rw [z]; exact Bool.false_ne_true)] at h
          refine c_mPut hr5 b1 ?_
          have o5' := b1.2.2.2.2.1
          unfold y_put at h ⊢
          by_cases c300 : 300 ≤ (y_l S2 1).length
          · rw [if_pos c300] at h ⊢
            have h : y_rT B K (y_ss S2 3 5) := h
            intro D6 hw
            exact c_mPutW hw (by show (y_l S2 1).length = 300; omega) (fun D7 hw7 => fl h hw7)
          · rw [if_neg c300] at h ⊢
            have h : y_fin (y_put a (y_sl S2 1 (y_l S2 1 ++ [b]))) (fun _ S1 => ∀ D', y_rf (B, A, F) S1 D' → L (-1) a3 D') (y_rT B K) := h
            have ho6 : y_ok st (y_sl S2 1 (y_l S2 1 ++ [b])) := y_ok_l1 b1 (by simp; omega) (y_all_snoc b1.2.2.2.2.2.1 b3)
            intro D6 hr6
            exact c_mPut hr6 ho6 (y_tm h (fun _ _ z => z) (fun S' hT D' hw => fl hT hw))
        · rw [if_pos z] at h
          refine c_push hr5.1 hF30 (fun D6 hr6 => ?_)
          refine hE (F ++ [((8 : Int), y_tr a, (0 : Int), (0 : Int), [])]) S2 D6 st b a3 ⟨hr6, hr5.2⟩ b1 b3 z (by rw [hs52]; simp) (y_sf_snoc hsf hF30 (by simp)) a0 (by simp; omega) (by omega) (y_gk (yo_ex f _ S2 b1 (y_mo_ok b1 b3)) h (fun _ S3 ⟨c1, c2, _⟩ h D7 hr7 => ?_))
          have hlen : (F ++ [((8 : Int), y_tr a, (0 : Int), (0 : Int), [])]).length = F.length + 1 := by simp
          have f31 : D7.1 336 31 = ((F ++ [((8 : Int), y_tr a, (0 : Int), (0 : Int), [])]).length : Int) := hr7.1.2.2.2.2.2.2.2.2.2.2.2.2.2.2.2.2.2.2.2.2.2.1.1
          have hq : y_fq D7 F.length ((8 : Int), y_tr a, (0 : Int), (0 : Int), []) := hr7.1.2.2.2.2.2.2.2.2.2.2.2.2.2.2.2.2.2.2.2.2.2.1.2 F.length _ (by show (F ++ [_])[F.length]? = _; simp)
          refine L_go hL hr7 (by rw [hlen]; omega) (by omega) (r_mGoOn ?_)
          unfold w_mGoOn_0
          rw [f31, hlen, show ((F.length + 1 : Nat) : Int) - 1 = (F.length : Int) by omega, show (((F.length : Nat) : Int)).toNat = F.length by omega, hq.1]
          refine ⟨by omega, z_rk rfl, fun w => absurd rfl w, fun _ D8 e8 => ⟨by omega, ?_⟩⟩
          have e355 : D8.1 355 F.length = y_tr a := by rw [e8, y_uz_cell (by decide)]; exact hq.2.1
          rw [e355]
          exact c_mPut ⟨by rw [e8]; exact rf_popF hr7.1, hr7.2⟩ c1 (y_tm h (fun _ _ z => z) (fun S' hT D' hw => fl hT hw))
    · -- a macro
      have hm4 : 4096 ≤ m ∧ y_mr m = m + 1904 := by omega
      rw [if_neg (by omega), if_neg (by omega), if_neg (by omega), if_neg (by omega), if_neg (by omega), if_neg (by omega), if_neg (by omega)] at h
      have hil : (m - 4096).toNat < (y_mac S0).length := by
        rcases hmn with z | z | z
        · omega
        · have := y_ch_r z; omega
        · have z2 : m < 4096 + ((y_mac S0).length : Int) := z.2
          omega
      have ep := List.getElem?_eq_getElem hil
      have emc : y_mcr S0 m = some (y_mac S0)[(m - 4096).toNat] := by unfold y_mcr; rw [if_pos hm4.1, ep]
      rw [emc] at h
      have h : y_fin (y_call (y_mac S0)[(m - 4096).toNat] S0) (fun _ S1 => ∀ D', y_rf (B, A, F) S1 D' → L (-1) a3 D') (y_rT B K) := h
      rw [show y_mr m - 6000 = (((m - 4096).toNat : Nat) : Int) by omega]
      exact c_mCall (Q := (B, A, F)) hr3 ho3 hA ep (y_tm h (fun _ _ z => z) (fun S' hT D' hw => fl hT hw))
end RV
