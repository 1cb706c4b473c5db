/-! contracts of the reference: categories, passing, likeness, spelling -/
section RC
variable {n d : Nat} {Q : y_Q} {D : z_D} {st : Int} {S : y_S} {T : Nat → z_D → Prop}
theorem y_dg_tr {m : Nat} {t : Int} (h : y_tk m t) (hm : m ≤ 118) : y_dg (y_tr t) = y_dg t := by
  rcases h with z | z | z
  · have := y_ch_r z
    rw [show y_tr t = t from if_pos (by omega)]
  · rw [show y_tr t = t from if_pos (by omega)]
  · have e : y_tr t = t - 8192 := by unfold y_tr; rw [if_neg (by omega), if_neg (by omega)]
    rw [e]
    unfold y_dg
    rw [if_neg (by omega), if_neg (by omega)]
theorem c_mCatc {K : z_D → Prop} (hr : y_rf Q S D) (ho : y_ok st S) (h : y_fin (y_catc S) (fun _ S' => ∀ D', y_rf Q S' D' → K D') (y_rT Q.1 K)) : z_c n (d + 8) 141 [.ref 336] D (z_qV K T) := by
  refine r_mCatcode (c_mNeed hr ho (y_gt (yo_getT ho) h (fun t0 S1 ⟨k1, k2, k3, _⟩ h D1 hr1 => ?_) (fun S' hT D' hw => ⟨z_rk rfl, fun z => absurd rfl z, fun _ => hT D' hw⟩)))
  have hn := k1.2.2.2.2.2.2.2.2.2.2.2.2.2.2.2.2.2.2.2.1.2
  have h1 := y_tr_r k3 hn
  have h2 := y_tr_name k3 hn
  have ht := y_un_tp k3 hn
  have hu := y_tp_r ht hn
  dsimp only at h
  have hcr := y_cc_r k1 ht
  have ecc : (if y_un t0 < 4096 then y_un t0 % 256 else y_only S1 (y_un t0 - 4096)) = y_cc S1 (y_un t0) := rfl
  rw [ecc] at h
  -- the fault's way
  have bad : ∀ (c v : Int) (S' : y_S) (D' : z_D), y_rT Q.1 K S' → y_rfw Q.1 S' D' → w_mCatcode_161 n (d + 7) c v D' K T := by
    intro c v S' D' hT hw
    have := y_rfw_f hw
    exact ⟨y_rs (by omega) (by omega), fun _ => ⟨y_rs (by omega) (by omega), fun _ => hT D' hw, fun z => by omega⟩, fun z => by omega⟩
  have last : ∀ (v : Int) (S4 : y_S) (D4 : z_D), y_rf Q S4 D4 → y_ok st S4 → 0 ≤ v → v ≤ 99 → y_cc S1 (y_un t0) ≠ -1 → y_fin (if 15 < v then y_ft S4 4 else y_chg (y_cc S1 (y_un t0)) v S4) (fun _ S' => ∀ D', y_rf Q S' D' → K D') (y_rT Q.1 K) → w_mCatcode_161 n (d + 7) (y_cc S1 (y_un t0)) v D4 K T := by
    intro v S4 D4 hr4 ho4 v0 v9 hne h4
    have e5 : D4.1 336 5 = 0 := hr4.1.2.2.2.2.2.2.2.2.2.2.2.2.2.2.2.2.2.2.1.trans hr4.2
    unfold w_mCatcode_161
    rw [e5]
    refine ⟨z_rk rfl, fun z => absurd rfl z, fun _ => ⟨y_rs (by omega) (by omega), fun c => ?_, fun c => ?_⟩⟩
    · rw [if_neg (by omega)] at h4
      unfold w_mCatcode_182
      rw [e5]
      refine ⟨z_rk rfl, fun z => absurd rfl z, fun _ => ?_⟩
      have hky : y_ky (y_nn S4) (y_cc S1 (y_un t0)) := Or.inl (by omega)
      have := c_mChange (n := n) (d := d + 5) (T := T) hr4 ho4 hky h4
      rw [show y_kr (y_cc S1 (y_un t0)) = 200 + y_cc S1 (y_un t0) from if_pos (by omega), show y_vr (y_cc S1 (y_un t0)) v = v from if_pos (by omega)] at this
      exact this
    · rw [if_pos c] at h4
      refine c_stop hr4 (by decide) (by decide) (fun D' hw => ?_)
      have := y_rfw_f hw
      exact ⟨y_rs (by omega) (by omega), fun _ => h4 D' hw, fun z => by omega⟩
  have body : y_cc S1 (y_un t0) ≠ -1 → w_mCatcode_79 n (d + 7) (y_cc S1 (y_un t0)) D1 K T := by
    intro c
    rw [if_neg c] at h
    refine c_mNeed hr1 k1 (y_gt (yo_getT k1) h (fun u S2 ⟨a1, a2, a3, _⟩ h D2 hr2 => ?_) (fun S' hT D' hw => ⟨z_rk rfl, fun z => absurd rfl z, fun _ => hT D' hw⟩))
    have hn2 := a1.2.2.2.2.2.2.2.2.2.2.2.2.2.2.2.2.2.2.2.1.2
    have hru := y_tr_r a3 hn2
    have hdu := y_dg_r u
    refine ⟨y_rs (by omega) (by omega), fun _ => c_mDigit (by omega) (by omega) ?_, fun z => by omega⟩
    rw [y_dg_tr a3 hn2]
    refine ⟨y_rs (by omega) (by omega), fun c1 => ?_, fun c1 => ?_⟩
    · rw [if_neg (by omega)] at h
      refine c_mGet hr2 a1 (y_gt (yo_get a1) h (fun e S3 ⟨b1, b2, b3⟩ h D3 hr3 => ?_) (fun S' hT D' hw => ⟨z_rk rfl, fun _ => ⟨z_rk rfl, fun _ => bad _ _ S' D' hT hw, fun z => absurd rfl z⟩, fun z => absurd rfl z⟩))
      have hn3 := b1.2.2.2.2.2.2.2.2.2.2.2.2.2.2.2.2.2.2.2.1.2
      rcases b3 with b3 | b3
      · have ee : e = -1 := b3.1
        subst ee
        have e0 : y_dg (-1) = -1 := by decide
        have et : y_tr (-1) = -1 := by decide
        rw [if_neg (by rw [e0]; decide), if_neg (by decide)] at h
        rw [et]
        exact ⟨z_rk rfl, fun _ => ⟨z_rk rfl, fun _ => last _ S3 D3 hr3 b1 (by omega) (by omega) c (by rw [if_neg (by omega)]; exact h), fun z => absurd rfl z⟩, fun z => absurd rfl z⟩
      · have hre := y_tr_r b3.1 hn3
        have hre2 := y_tk_r b3.1 hn3
        have hde := y_dg_r e
        refine ⟨y_rs (by omega) (by omega), fun z => by omega, fun _ => c_mDigit (by omega) (by omega) ?_⟩
        rw [y_dg_tr b3.1 hn3]
        refine ⟨y_rs (by omega) (by omega), fun c2 => ⟨y_rs (by omega) (by omega), fun z => by omega, fun _ => ?_⟩, fun c2 => c_mDigit (by omega) (by omega) ?_⟩
        · rw [if_neg (by omega), if_pos (by omega)] at h
          exact c_mPut hr3 b1 (y_gt (yo_put b1 b3.1) h (fun _ S4 ⟨e1, e2⟩ h D4 hr4 => last _ S4 D4 hr4 e1 (by omega) (by omega) c (by rw [if_neg (by omega)]; exact h)) (fun S' hT D' hw => bad _ _ S' D' hT hw))
        · rw [y_dg_tr b3.1 hn3]
          rw [if_pos (by omega)] at h
          exact last _ S3 D3 hr3 b1 (by omega) (by omega) c h
    · rw [if_pos (by omega)] at h
      exact c_stop hr2 (by decide) (by decide) h
  -- names and characters
  have char : t0 < 4096 → w_mCatcode_30 n (d + 7) (y_tr t0) 0 D1 K T := by
    intro c
    have e : y_tr t0 = t0 := if_pos (by omega)
    have eu : y_un t0 = t0 := by unfold y_un; rw [if_neg (by omega)]
    have ec : y_cc S1 (y_un t0) = t0 % 256 := by unfold y_cc; rw [eu, if_pos c]
    rw [e]
    refine c_mIsName (y_rs (by omega) (by omega)) ⟨fun _ => c_mIsName (y_rs (by omega) (by omega)) ⟨fun _ => ?_, fun z => by have := of_decide_eq_true z; omega⟩, fun z => by have := of_decide_eq_true z; omega⟩
    rw [z_and255 (by omega) (by omega), ← ec]
    exact body (by omega)
  have name : 4096 ≤ t0 → w_mCatcode_30 n (d + 7) (y_tr t0) (y_un t0 - 4096) D1 K T := by
    intro c
    have hu4 : 4096 ≤ y_un t0 := by
      rcases k3 with z | z | z
      · have := y_ch_r z; omega
      · unfold y_un; rw [if_neg (by omega)]; omega
      · unfold y_un; rw [if_pos (by omega)]; omega
    have hnt := y_tp_nt ht hu4
    have hnt : 4096 ≤ y_un t0 ∧ y_un t0 < 4096 + ((y_nm S1).length : Int) := hnt
    have hil : (y_un t0 - 4096).toNat < (y_nm S1).length := by omega
    have ep := List.getElem?_eq_getElem hil
    obtain ⟨p1, p2⟩ := hr1.1.2.2.2.2.2.2.2.2.1.2 _ _ ep
    have hno := k1.2.2.2.2.2.2.2.2.2.2.2.2.2.2.2.2.2.2.2.2.1 _ (List.getElem_mem hil)
    have eo : y_cc S1 (y_un t0) = y_only S1 (y_un t0 - 4096) := by unfold y_cc; rw [if_neg (by omega)]
    unfold y_only at eo
    rw [ep] at eo
    generalize (y_nm S1)[(y_un t0 - 4096).toNat] = p at *
    obtain ⟨ls, b⟩ := p
    have p1 : y_pa (D1.1 340) (11 * (y_un t0 - 4096).toNat) (D1.1 341 (y_un t0 - 4096).toNat) ls := p1
    refine c_mIsName (y_rs (by omega) (by omega)) ⟨fun z => by have := of_decide_eq_false z; omega, fun _ => ⟨by have := hn; omega, ?_⟩⟩
    rw [p1.1]
    have hl11 : ls.length ≤ 11 := hno.2.1
    refine ⟨y_rs (by omega) (by omega), fun c1 => ?_, fun c1 => ?_⟩
    · obtain ⟨x, ex⟩ : ∃ x, ls = [x] := List.length_eq_one_iff.mp (by omega)
      subst ex
      have ecx : y_cc S1 (y_un t0) = x := eo
      refine c_mIsName (y_rs (by omega) (by omega)) ⟨fun z => by have := of_decide_eq_false z; omega, fun _ => ⟨by omega, ?_⟩⟩
      have e340 : D1.1 340 (Int.toNat (11 * (y_un t0 - 4096))) = x := by
        have := p1.2 0 (by simp)
        rw [show Int.toNat (11 * (y_un t0 - 4096)) = 11 * (y_un t0 - 4096).toNat + 0 by omega]
        exact this
      rw [e340, ← ecx]
      have hx := y_code_r (hno.2.2.1 x (by simp))
      exact body (by omega)
    · have hcc : y_cc S1 (y_un t0) = -1 := by
        rw [eo]
        cases ls with
        | nil => rfl
        | cons a r =>
          cases r with
          | nil => simp at c1
          | cons a2 r2 => rfl
      rw [if_pos hcc] at h
      exact c_stop hr1 (by decide) (by decide) h
  refine ⟨y_rs (by omega) (by omega), fun _ => c_mIsName (y_rs (by omega) (by omega)) ⟨fun c => char (by have := of_decide_eq_false c; omega), fun c => c_mPlain (y_rs (by omega) (by omega)) ?_⟩, fun z => by omega⟩
  rw [y_pl_tr k3 hn]
  exact name (by have := of_decide_eq_true c; omega)
theorem y_mu_r (ho : y_ok st S) : 0 ≤ y_mu S ∧ y_mu S ≤ 460 := by
  have := ho.1
  have := ho.2.2.1
  have := ho.2.2.2.2.1
  unfold y_mu
  omega
/-- past tokens: what is told, and what is left to do with the conditional -/
theorem c_mPass {b : Bool} {KK : Unit → y_S → Prop} {TT : y_S → Prop} {K : Bool → z_D → Prop} (hr : y_rf Q S D) (ho : y_ok st S) (h : y_fin (y_pass b 1000 0 S) KK TT)
    (h1 : ∀ S' D', y_rf Q S' D' → y_ok st S' → y_lg S S' → KK () (y_sl S' 3 (y_l S' 3).dropLast) → K false D')
    (h2 : ∀ S' D', y_rf Q S' D' → y_ok st S' → y_lg S S' → b = true → KK () (y_sl S' 3 ((y_l S' 3).set ((y_l S' 3).length - 1) 2)) → K true D')
    (h3 : ∀ S' D', y_rfw Q.1 S' D' → TT S' → K false D') : z_c n (d + 7) 122 [.ref 336, .int (z_i (z_b b))] D (z_qZ K T) := by
  have hmu := y_mu_r ho
  refine r_mPass (fun m bb dp D' => bb = b ∧ ∃ (S1 : y_S) (f : Nat), y_rf Q S1 D' ∧ y_ok st S1 ∧ y_lg S S1 ∧ 0 ≤ dp ∧ dp + f ≤ 1000 ∧ y_mu S1 < f ∧ m = (y_mu S1).toNat ∧ y_fin (y_pass b f dp S1) KK TT) ⟨_, rfl, S, 1000, hr, ho, y_lg_rf S, by decide, by decide, by omega, rfl, h⟩ ?_
  rintro mm bb dp D' ⟨rfl, S1, f, hr1, ho1, hl1, p0, p1, hf, rfl, h⟩
  have hmu1 := y_mu_r ho1
  obtain ⟨f, rfl⟩ : ∃ g, f = g + 1 := ⟨f - 1, by omega⟩
  unfold y_pass at h
  refine c_mNeed hr1 ho1 (y_gt (yo_getT ho1) h (fun t S2 ⟨k1, k2, k3, k4⟩ h D2 hr2 => ?_) (fun S' hT D' hw => ⟨z_rk rfl, fun z => absurd rfl z, fun _ => h3 S' D' hw hT⟩))
  have htr := y_tr_r k3 k1.2.2.2.2.2.2.2.2.2.2.2.2.2.2.2.2.2.2.2.1.2
  have hm := y_mo_ok k1 k3
  have hmr := y_mr_r hm k1.2.2.2.2.2.2.2.2.2.2.2.2.2.2.2.2.2.2.2.2.2.1
  have hmn := y_mn_r hm k1.2.2.2.2.2.2.2.2.2.2.2.2.2.2.2.2.2.2.2.2.2.1
  have hmu2 := y_mu_r k1
  dsimp only at h
  refine ⟨y_rs (by omega) (by omega), fun _ => c_mMo hr2.1 k1 k3 ?_, fun z => by omega⟩
  have hl2 := y_lg_t hl1 k2
  -- small meanings are the same on both sides
  have small : ∀ v : Int, v ≤ 18 → (y_mr (y_mo S2 t) = v ↔ y_mo S2 t = v) := by
    intro v hv
    unfold y_mr
    split
    · exact Iff.rfl
    · split <;> omega
  have le18 : (y_mr (y_mo S2 t) ≤ 18) ↔ y_mo S2 t ≤ 18 := by
    unfold y_mr
    split
    · omega
    · split <;> omega
  have same : y_mo S2 t ≤ 18 → y_mr (y_mo S2 t) = y_mo S2 t := fun z => if_pos z
  generalize y_mr (y_mo S2 t) = mv at *
  generalize y_mo S2 t = m at *
  have on : ∀ dq, (if 13 ≤ m ∧ m ≤ 16 then dp + 1 else if m = 18 then dp - 1 else dp) = dq → ¬ dq < 0 → ¬ (m = 17 ∧ dq = 0 ∧ bb = true) → ∃ m, m < (y_mu S1).toNat ∧ bb = bb ∧ ∃ (S1 : y_S) (f : Nat), y_rf Q S1 D2 ∧ y_ok st S1 ∧ y_lg S S1 ∧ 0 ≤ dq ∧ dq + f ≤ 1000 ∧ y_mu S1 < f ∧ m = (y_mu S1).toNat ∧ y_fin (y_pass bb f dq S1) KK TT := by
    intro dq edq z1 z2
    rw [edq, if_neg z1, if_neg z2] at h
    have hdq : dq ≤ dp + 1 := by
      rw [← edq]
      split
      · omega
      · split <;> omega
    refine ⟨_, ?_, rfl, S2, f, hr2, k1, hl2, by omega, by omega, by omega, rfl, h⟩
    omega
  have w41 : ¬ (13 ≤ m ∧ m ≤ 16) → w_mPass_41 n (d + 6) bb dp mv D2 (fun bb' dp' D' => ∃ m, m < (y_mu S1).toNat ∧ bb' = bb ∧ ∃ (S1 : y_S) (f : Nat), y_rf Q S1 D' ∧ y_ok st S1 ∧ y_lg S S1 ∧ 0 ≤ dp' ∧ dp' + f ≤ 1000 ∧ y_mu S1 < f ∧ m = (y_mu S1).toNat ∧ y_fin (y_pass bb f dp' S1) KK TT) K T := by
    intro nc
    have s17 := small 17 (by decide)
    have s18 := small 18 (by decide)
    refine ⟨y_rs (by omega) (by omega), fun c => ⟨fun c1 => on dp (by rw [if_neg nc, if_neg (by omega)]) (by omega) (by omega), fun c1 => ⟨y_rs (by omega) (by omega), fun c2 => on dp (by rw [if_neg nc, if_neg (by omega)]) (by omega) (by omega), fun c2 => ⟨fun c3 => on dp (by rw [if_neg nc, if_neg (by omega)]) (by omega) (fun w => by rw [c3] at w; cases w.2.2), fun c3 => ?_⟩⟩⟩, fun c => ⟨y_rs (by omega) (by omega), fun c1 => on (dp + (-1)) (by rw [if_neg nc, if_pos (by omega)]; omega) (by omega) (by omega), fun c1 => ?_⟩⟩
    · have e : (if 13 ≤ m ∧ m ≤ 16 then dp + 1 else if m = 18 then dp - 1 else dp) = dp := by rw [if_neg nc, if_neg (by omega)]
      rw [e, if_neg (by omega), if_pos ⟨by omega, c2, c3⟩] at h
      exact h2 S2 D2 hr2 k1 hl2 c3 h
    · have e : (if 13 ≤ m ∧ m ≤ 16 then dp + 1 else if m = 18 then dp - 1 else dp) = dp - 1 := by rw [if_neg nc, if_pos (by omega)]
      rw [e, if_pos (by omega)] at h
      exact h1 S2 D2 hr2 k1 hl2 h
  refine ⟨y_rs (by omega) (by omega), fun c => w41 ?_, fun c => ⟨fun c1 => w41 ?_, fun c1 => on (dp + 1) ?_ (by omega) ?_⟩⟩
  · by_cases z : m ≤ 18
    · have := same z; omega
    · omega
  · by_cases z : m ≤ 18
    · have := same z; omega
    · omega
  · have := same (le18.mp (by omega))
    rw [if_pos (by omega)]
  · have := same (le18.mp (by omega))
    omega
end RC
