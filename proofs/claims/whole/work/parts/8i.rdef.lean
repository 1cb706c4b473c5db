/-! contracts of the reference: definitions made, acts -/
section RD
variable {n d : Nat} {D : z_D} {st : Int} {S : y_S} {T : Nat → z_D → Prop}
theorem y_uz_id (D : z_D) (c j : Nat) : z_uz D c j (D.1 c j) = D := by
  have : am_u2 D.1 c j (D.1 c j) = D.1 := by
    funext a b
    unfold am_u2
    by_cases h : a = c
    · rw [if_pos h]
      by_cases h2 : b = j
      · rw [if_pos h2, h, h2]
      · rw [if_neg h2]
    · rw [if_neg h]
  show (am_u2 D.1 c j (D.1 c j), D.2) = D
  rw [this]
theorem rf_def {Q : y_Q} {tx bd : List Int} {p : Int} (hr : y_ref (y_Qp Q 5 bd) S D) (h4 : y_a S 4 = some tx) (hp : y_dp S = some p) (hA : Q.2.1 5 = none) : y_ref Q (y_sdp (y_sa (y_sa (y_smac S (y_mac S ++ [(tx, bd, p)])) 4 none) 5 none) none) (z_uz D 336 23 (((y_mac S).length : Int) + 1)) := by
  have h11 : (z_uz D 336 23 (((y_mac S).length : Int) + 1)).1 336 23 = ((y_mac S ++ [(tx, bd, p)]).length : Int) := by rw [y_uz_same]; simp
  have h12 : ∀ (i : Nat) (q : List Int × List Int × Int), (y_mac S ++ [(tx, bd, p)])[i]? = some q → y_mq D i q := by
    intro i q e
    by_cases c : i < (y_mac S).length
    · rw [List.getElem?_append_left c] at e
      exact hr.2.2.2.2.2.2.2.2.2.2.2.1 i q e
    · have hi := (List.getElem?_eq_some_iff.mp e).1
      simp at hi
      have ei : i = (y_mac S).length := by omega
      subst ei
      rw [List.getElem?_append_right (Nat.le_refl _), Nat.sub_self] at e
      have e : some (tx, bd, p) = some q := e
      have e := Option.some.inj e
      subst e
      exact ⟨hr.2.2.2.2.2.2.2.2.2.2.2.2.1 tx h4, hr.2.2.2.2.2.2.2.2.2.2.2.2.2.1 bd (y_Qp_at Q 5 bd), hr.2.2.2.2.2.2.2.2.2.2.2.2.2.2.1 p hp⟩
  have h13 : ∀ l, (none : Option (List Int)) = some l → y_pa (D.1 349) (13 * (y_mac S ++ [(tx, bd, p)]).length) (D.1 348 (y_mac S ++ [(tx, bd, p)]).length) (l.map y_tr) := fun l e => by cases e
  have h14 : ∀ l, Q.2.1 5 = some l → y_pa (D.1 351) (41 * (y_mac S ++ [(tx, bd, p)]).length) (D.1 350 (y_mac S ++ [(tx, bd, p)]).length) (l.map y_tr) := fun l e => by rw [hA] at e; cases e
  have h15 : ∀ v, (none : Option Int) = some v → D.1 352 (y_mac S ++ [(tx, bd, p)]).length = v := fun v e => by cases e
  have h16 : ∀ (i : Nat) (x : List Int), i < 4 → Q.2.1 i = some x → x.length ≤ 41 ∧ y_pa (D.1 360) (42 * i) (D.1 361 i) (x.map y_tr) := fun i x hi e => hr.2.2.2.2.2.2.2.2.2.2.2.2.2.2.2.1 i x hi (by
    show am_u1 Q.2.1 5 (some bd) i = _
    unfold am_u1
    rw [if_neg (by omega)]
    exact e)
  exact ⟨y_g1 hr.1 (by decide), hr.2.1, hr.2.2.1, hr.2.2.2.1, hr.2.2.2.2.1, hr.2.2.2.2.2.1, hr.2.2.2.2.2.2.1, hr.2.2.2.2.2.2.2.1, hr.2.2.2.2.2.2.2.2.1, hr.2.2.2.2.2.2.2.2.2.1, h11, h12, h13, h14, h15, h16, hr.2.2.2.2.2.2.2.2.2.2.2.2.2.2.2.2.1, hr.2.2.2.2.2.2.2.2.2.2.2.2.2.2.2.2.2.1, hr.2.2.2.2.2.2.2.2.2.2.2.2.2.2.2.2.2.2.1, hr.2.2.2.2.2.2.2.2.2.2.2.2.2.2.2.2.2.2.2.1, hr.2.2.2.2.2.2.2.2.2.2.2.2.2.2.2.2.2.2.2.2.1, hr.2.2.2.2.2.2.2.2.2.2.2.2.2.2.2.2.2.2.2.2.2.1, hr.2.2.2.2.2.2.2.2.2.2.2.2.2.2.2.2.2.2.2.2.2.2⟩
theorem rf_set6 {Q : y_Q} (hr : y_ref Q S D) {i : Nat} {k : Int} (hk : (y_l S 5)[i]? = some k) (v : Int) : y_ref Q (y_sl S 6 ((y_l S 6).set i v)) (z_uz D 347 i (y_vr k v)) := by
  have h7 : ∀ (j : Nat) (k' v' : Int), (y_l S 5)[j]? = some k' → ((y_l S 6).set i v)[j]? = some v' → (z_uz D 347 i (y_vr k v)).1 347 j = y_vr k' v' := by
    intro j k' v' e5 e6
    by_cases c : j = i
    · subst c
      have hl := (List.getElem?_eq_some_iff.mp e6).1
      rw [List.length_set] at hl
      rw [List.getElem?_set_self hl] at e6
      rw [hk] at e5
      rw [← Option.some.inj e5, ← Option.some.inj e6]
      exact y_uz_same _ _ _ _
    · rw [List.getElem?_set_ne (fun w => c w.symm)] at e6
      rw [y_uz_slot c]
      exact hr.2.2.2.2.2.2.1.2.1 j k' v' e5 e6
  exact ⟨y_g1 hr.1 (by decide), hr.2.1, hr.2.2.1, hr.2.2.2.1, hr.2.2.2.2.1, hr.2.2.2.2.2.1, ⟨hr.2.2.2.2.2.2.1.1, h7, hr.2.2.2.2.2.2.1.2.2⟩, hr.2.2.2.2.2.2.2.1, hr.2.2.2.2.2.2.2.2.1, hr.2.2.2.2.2.2.2.2.2.1, hr.2.2.2.2.2.2.2.2.2.2.1, hr.2.2.2.2.2.2.2.2.2.2.2.1, hr.2.2.2.2.2.2.2.2.2.2.2.2.1, hr.2.2.2.2.2.2.2.2.2.2.2.2.2.1, hr.2.2.2.2.2.2.2.2.2.2.2.2.2.2.1, hr.2.2.2.2.2.2.2.2.2.2.2.2.2.2.2.1, hr.2.2.2.2.2.2.2.2.2.2.2.2.2.2.2.2.1, hr.2.2.2.2.2.2.2.2.2.2.2.2.2.2.2.2.2.1, hr.2.2.2.2.2.2.2.2.2.2.2.2.2.2.2.2.2.2.1, hr.2.2.2.2.2.2.2.2.2.2.2.2.2.2.2.2.2.2.2.1, hr.2.2.2.2.2.2.2.2.2.2.2.2.2.2.2.2.2.2.2.2.1, hr.2.2.2.2.2.2.2.2.2.2.2.2.2.2.2.2.2.2.2.2.2.1, hr.2.2.2.2.2.2.2.2.2.2.2.2.2.2.2.2.2.2.2.2.2.2⟩
theorem rf_18 {Q : y_Q} (hr : y_ref Q S D) {a b : Int} (hb : b = ((y_l S 4).length : Int)) : y_ref Q S (z_uz (z_uz D 336 18 a) 336 18 b) := ⟨y_g1 (y_g1 hr.1 (by decide)) (by decide), hr.2.1, hr.2.2.1, hr.2.2.2.1, hr.2.2.2.2.1, hb, hr.2.2.2.2.2.2.1, hr.2.2.2.2.2.2.2.1, hr.2.2.2.2.2.2.2.2.1, hr.2.2.2.2.2.2.2.2.2.1, hr.2.2.2.2.2.2.2.2.2.2.1, hr.2.2.2.2.2.2.2.2.2.2.2.1, hr.2.2.2.2.2.2.2.2.2.2.2.2.1, hr.2.2.2.2.2.2.2.2.2.2.2.2.2.1, hr.2.2.2.2.2.2.2.2.2.2.2.2.2.2.1, hr.2.2.2.2.2.2.2.2.2.2.2.2.2.2.2.1, hr.2.2.2.2.2.2.2.2.2.2.2.2.2.2.2.2.1, hr.2.2.2.2.2.2.2.2.2.2.2.2.2.2.2.2.2.1, hr.2.2.2.2.2.2.2.2.2.2.2.2.2.2.2.2.2.2.1, hr.2.2.2.2.2.2.2.2.2.2.2.2.2.2.2.2.2.2.2.1, hr.2.2.2.2.2.2.2.2.2.2.2.2.2.2.2.2.2.2.2.2.1, hr.2.2.2.2.2.2.2.2.2.2.2.2.2.2.2.2.2.2.2.2.2.1, hr.2.2.2.2.2.2.2.2.2.2.2.2.2.2.2.2.2.2.2.2.2.2⟩
theorem y_take_set {W L : List Int} {k : Nat} (hW : k < W.length) (hL : k < L.length) : W.take (k + 1) ++ L.drop (k + 1) = (W.take k ++ L.drop k).set k W[k] := by
  rw [List.take_succ_eq_append_getElem hW, List.set_append_right _ _ (by rw [List.length_take]; omega), List.length_take, show k - min k W.length = 0 by omega, List.drop_eq_getElem_cons hL, List.set_cons_zero, List.append_assoc]
  rfl
theorem y_take_id {W L : List Int} {k : Nat} (hW : k < W.length) (hL : k < L.length) : (W.take k ++ L.drop k).set k L[k] = W.take k ++ L.drop k := by
  rw [List.set_append_right _ _ (by rw [List.length_take]; omega), List.length_take, show k - min k W.length = 0 by omega, List.drop_eq_getElem_cons hL]
  rfl
/-- where a new value goes into what is kept -/
def y_zw (nm v : Int) (S : y_S) : List Int := List.zipWith (fun k x => if k = nm then v else x) (y_l S 5) (y_l S 6)
theorem c_mDefine {B : z_D} {A : Nat → Option (List Int)} {m : Int} {K : z_D → Prop} (hr : y_rf (B, A, []) S D) (ho : y_ok st S) (hA : ∀ j, A j = none) (h5 : y_s S 5 = 0) (hm : 3 ≤ m ∧ m ≤ 5) (h : y_fin (y_def (y_ex 31) (y_getx (y_ex 31) 201) m S) (fun _ S' => ∀ D', y_rf (B, A, []) S' D' → K D') (y_rT B K)) : z_c n (d + 14) 138 [.ref 336, .int (z_i m)] D (z_qV K T) := by
  refine r_mDefine (fun mm a2 a3 a4 D' => ∃ (S2 : y_S) (nm v : Int), a2 = nm - 4096 ∧ a3 = y_mr v ∧ 4096 ≤ nm ∧ nm < 4214 ∧ (y_l S2 5).length ≤ 60 ∧ (y_l S2 6).length = (y_l S2 5).length ∧ (∀ x ∈ y_l S2 5, y_ky 118 x) ∧ 0 ≤ a4 ∧ a4 ≤ (y_l S2 5).length ∧ mm = ((y_l S2 5).length - a4).toNat ∧ y_rf (B, A, []) (y_sl S2 6 ((y_zw nm v S2).take a4.toNat ++ (y_l S2 6).drop a4.toNat)) D' ∧ ∀ D', y_rf (B, A, []) (y_sl S2 6 (y_zw nm v S2)) D' → K D') ?_ ?_
  · unfold y_def at h
    refine c_mName hr ho (y_gt (yo_name ho) h (fun nm S1 ⟨k1, k2, k3⟩ h D1 hr1 => ?_) (fun S' hT D1 hw => ⟨z_rk rfl, fun _ => hT D1 hw, fun z => absurd rfl z⟩))
    obtain ⟨d1, d2⟩ := y_dr0 k1
    have hn1 := k1.2.2.2.2.2.2.2.2.2.2.2.2.2.2.2.2.2.2.2.1.2
    have hnr : 4096 ≤ nm ∧ nm < 4214 := by unfold y_nt at k3; omega
    refine ⟨y_rs (by omega) (by omega), fun z => by omega, fun _ => c_mReadText hr1 k1 (y_gt (yo_rtx 13 _ [] 0 d1 d2) h (fun _ S2 ⟨a1, a2, tx, p, a3⟩ h D2 hs2 hr2 => ?_) (fun S' hT D2 hw => ⟨fun _ => hT D2 hw, fun z => (by cases z)⟩))⟩
    have l1 : y_nn S1 ≤ y_nn S2 := a2.1
    have h52 : y_s S2 5 = 0 := hs2.trans (k2.2.2.2.2.2.2.2.1.trans h5)
    have go : ∀ bb : Bool, (bb = true ↔ m = 5) → w_mDefine_28 n (d + 13) m (nm - 4096) bb D2 (fun a2 a3 a4 D' => ∃ mm, ∃ (S2 : y_S) (nm v : Int), a2 = nm - 4096 ∧ a3 = y_mr v ∧ 4096 ≤ nm ∧ nm < 4214 ∧ (y_l S2 5).length ≤ 60 ∧ (y_l S2 6).length = (y_l S2 5).length ∧ (∀ x ∈ y_l S2 5, y_ky 118 x) ∧ 0 ≤ a4 ∧ a4 ≤ (y_l S2 5).length ∧ mm = ((y_l S2 5).length - a4).toNat ∧ y_rf (B, A, []) (y_sl S2 6 ((y_zw nm v S2).take a4.toNat ++ (y_l S2 6).drop a4.toNat)) D' ∧ ∀ D', y_rf (B, A, []) (y_sl S2 6 (y_zw nm v S2)) D' → K D') K T := by
      intro bb hbb
      have eg : (if m = 5 then y_getx (y_ex 31) 201 else y_get true) = y_g bb := by
        unfold y_g
        by_cases z : m = 5
        · rw [if_pos z, if_pos (hbb.mpr z)]
        · rw [if_neg z, if_neg (fun w => z (hbb.mp w))]
      rw [eg] at h
      refine c_mReadBody hr2 a1 (fun j _ => hA j) h52 a3 (y_gt (yo_rbd yo_g 41 0 S2 [] a1 a3) h (fun _ S3 ⟨b1, b2, bd, b3⟩ h D3 bd' e5 hr3 => ?_) (fun S' hT D3 hw => ⟨fun z => (by cases z), fun _ => hT D3 hw⟩))
      have ebd : bd' = bd := Option.some.inj (e5.symm.trans b3.2.1)
      subst ebd
      have e1 : y_dtx S3 = tx := by unfold y_dtx; rw [b3.1]; rfl
      have e2 : y_dbd S3 = bd' := by unfold y_dbd; rw [b3.2.1]; rfl
      have e3 : y_dpr S3 = p := by unfold y_dpr; rw [b3.2.2.1]; rfl
      have hnt := y_nt_le k3 (Nat.le_trans l1 b2.1)
      have o22 : (y_mac S3).length ≤ 60 := b1.2.2.2.2.2.2.2.2.2.2.2.2.2.2.2.2.2.2.2.2.2.1
      have e23 : D3.1 336 23 = ((y_mac S3).length : Int) := hr3.1.2.2.2.2.2.2.2.2.2.2.1
      unfold y_defn at h
      rw [e1, e2, e3] at h
      refine ⟨fun _ => ?_, fun z => (by cases z)⟩
      rw [e23]
      refine ⟨y_rs (by omega) (by omega), fun c D4 e4 => ?_, fun c => ?_⟩
      · rw [if_neg (by omega)] at h
        dsimp only at h
        have hr4 := rf_def hr3.1 b3.1 b3.2.2.1 (hA 5)
        rw [← e4] at hr4
        have f4 : y_s (y_sdp (y_sa (y_sa (y_smac S3 (y_mac S3 ++ [(tx, bd', p)])) 4 none) 5 none) none) 3 = 0 := hr3.2
        have h1 : y_ok st (y_sdp (y_sa (y_sa (y_smac S3 (y_mac S3 ++ [(tx, bd', p)])) 4 none) 5 none) none) := y_ok_dp (y_ok_ad (y_ok_ad (y_ok_mac b1 (by show (y_mac S3).length < 60; omega) b3.2.2.2) (i := 4) (by decide) none) (i := 5) (by decide) none) none
        have hky : y_ky (y_nn (y_sdp (y_sa (y_sa (y_smac S3 (y_mac S3 ++ [(tx, bd', p)])) 4 none) 5 none) none)) nm := y_nt_ky hnt
        generalize y_sdp (y_sa (y_sa (y_smac S3 (y_mac S3 ++ [(tx, bd', p)])) 4 none) 5 none) none = S4 at *
        have ek : y_kr nm = nm - 4096 := if_neg (by omega)
        have ev : y_mr (4096 + ((y_mac S3).length : Int)) = 6000 + ((y_mac S3).length : Int) := by
          unfold y_mr
          rw [if_neg (by omega), if_neg (by omega)]
          omega
        refine ⟨y_rs (by omega) (by omega), fun z => ⟨by omega, fun D7 e7 => ?_⟩, fun z => ?_⟩
        · rw [decide_eq_true z, if_pos rfl] at h
          refine ⟨_, y_smean S4 (nm - 4096).toNat (4096 + ((y_mac S3).length : Int)), nm, 4096 + ((y_mac S3).length : Int), rfl, ev.symm, hnr.1, hnr.2, h1.2.2.2.2.2.2.2.2.2.2.2.1, h1.2.2.2.2.2.2.2.2.2.2.2.2.1, fun x hx => y_ky_le (y_keys_rl h1 x hx) h1.2.2.2.2.2.2.2.2.2.2.2.2.2.2.2.2.2.2.2.1.2, Int.le_refl _, by omega, rfl, ⟨?_, f4⟩, fun D' hr' => h D' ?_⟩
          · rw [e7, ← ev]
            have := rf_mean hr4 (nm - 4096).toNat (4096 + ((y_mac S3).length : Int))
            exact this
          · unfold y_set
            rw [if_pos hnr.1]
            exact hr'
        · rw [decide_eq_false z, if_neg Bool.false_ne_true] at h
          have key := c_mChange (n := n) (d := d + 11) (T := T) ⟨hr4, f4⟩ h1 hky h
          rw [ek, show y_vr nm (4096 + ((y_mac S3).length : Int)) = y_mr (4096 + ((y_mac S3).length : Int)) from if_neg (by omega), ev] at key
          exact key
      · rw [if_pos (by omega)] at h
        exact c_stop hr3 (by decide) (by decide) (fun D9 hw => h _ hw)
    exact ⟨fun z => (by cases z), fun _ => ⟨y_rs (by omega) (by omega), fun z => go false ⟨fun w => (by cases w), fun w => absurd w z⟩, fun z => go true ⟨fun _ => z, fun _ => rfl⟩⟩⟩
  · rintro mm a2 a3 k D' ⟨S2, nm, v, rfl, rfl, n0, n1, o12, o13, hky, k0, k1, rfl, hr1, hK⟩
    have hWl : (y_zw nm v S2).length = (y_l S2 5).length := by unfold y_zw; rw [List.length_zipWith]; omega
    have e19 : D'.1 336 19 = ((y_l S2 5).length : Int) := by have := hr1.1.2.2.2.2.2.2.1.1.1; rw [List.length_map] at this; exact this
    unfold w_mDefine_92
    rw [e19]
    refine ⟨y_rs (by omega) (by omega), y_rs (by omega) (by omega), fun c => ?_, fun c => ?_⟩
    · rw [show k.toNat = (y_l S2 5).length by omega, List.take_of_length_le (by omega), List.drop_eq_nil_of_le (by omega), List.append_nil] at hr1
      exact hK D' hr1
    · have hk5 : k.toNat < (y_l S2 5).length := by omega
      have hk6 : k.toNat < (y_l S2 6).length := by omega
      have hkW : k.toNat < (y_zw nm v S2).length := by omega
      have e346 : D'.1 346 k.toNat = y_kr (y_l S2 5)[k.toNat] := by
        have := y_ar_at hr1.1.2.2.2.2.2.2.1.1 (k := k.toNat) (by rw [List.length_map]; exact hk5)
        rw [this, List.getElem_map]
        rfl
      have eW : (y_zw nm v S2)[k.toNat] = if (y_l S2 5)[k.toNat] = nm then v else (y_l S2 6)[k.toNat] := List.getElem_zipWith
      have hkk := hky _ (List.getElem_mem hk5)
      have hk1 := y_ky_r hkk (Nat.le_refl _)
      have ekr : y_kr (y_l S2 5)[k.toNat] = nm - 4096 ↔ (y_l S2 5)[k.toNat] = nm := by
        unfold y_kr
        split <;> omega
      have hkr : -1000000 ≤ y_kr (y_l S2 5)[k.toNat] ∧ y_kr (y_l S2 5)[k.toNat] ≤ 1000000 := by
        unfold y_kr
        split <;> omega
      have step : ∀ D2, y_rf (B, A, []) (y_sl S2 6 ((y_zw nm v S2).take (k.toNat + 1) ++ (y_l S2 6).drop (k.toNat + 1))) D2 → ∃ m, m < ((y_l S2 5).length - k).toNat ∧ ∃ (S3 : y_S) (nm' v' : Int), nm - 4096 = nm' - 4096 ∧ y_mr v = y_mr v' ∧ 4096 ≤ nm' ∧ nm' < 4214 ∧ (y_l S3 5).length ≤ 60 ∧ (y_l S3 6).length = (y_l S3 5).length ∧ (∀ x ∈ y_l S3 5, y_ky 118 x) ∧ 0 ≤ k + 1 ∧ k + 1 ≤ (y_l S3 5).length ∧ m = ((y_l S3 5).length - (k + 1)).toNat ∧ y_rf (B, A, []) (y_sl S3 6 ((y_zw nm' v' S3).take (k + 1).toNat ++ (y_l S3 6).drop (k + 1).toNat)) D2 ∧ ∀ D', y_rf (B, A, []) (y_sl S3 6 (y_zw nm' v' S3)) D' → K D' := by
        intro D2 hr2
        refine ⟨_, ?_, S2, nm, v, rfl, rfl, n0, n1, o12, o13, hky, by omega, by omega, rfl, ?_, hK⟩
        · omega
        · rw [show (k + 1).toNat = k.toNat + 1 by omega]; exact hr2
      rw [e346]
      refine ⟨by omega, y_rs (by omega) (by omega), y_rs (by omega) (by omega), fun c1 => ⟨by omega, by omega, fun D8 e8 => step D8 ?_⟩, fun c1 => ⟨by omega, fun D10 e10 => step D10 ?_⟩⟩
      · rw [e8, y_uz_id, y_take_set hkW hk6, eW, if_neg (fun w => c1 (ekr.mpr w)), y_take_id hkW hk6]
        exact hr1
      · have ek := ekr.mp c1
        rw [e10, y_take_set hkW hk6, eW, if_pos ek]
        have hs := rf_set6 hr1.1 (i := k.toNat) (k := nm) (by show (y_l S2 5)[k.toNat]? = _; rw [List.getElem?_eq_getElem hk5, ek]) v
        rw [show y_vr nm v = y_mr v from if_neg (by omega)] at hs
        exact ⟨hs, hr1.2⟩
theorem c_mAct {B : z_D} {A : Nat → Option (List Int)} {t : Int} {K : z_D → Prop} (hr : y_rf (B, A, []) S D) (ho : y_ok st S) (hA : ∀ j, A j = none) (ht : y_tk (y_nn S) t) (hex : y_isex (y_mo S t) = false) (h5 : y_s S 5 = 0) (h : y_fin (y_exc (y_mo S t) S) (fun _ S' => ∀ D', y_rf (B, A, []) S' D' → K D') (y_rT B K)) : z_c n (d + 15) 143 [.ref 336, .int (z_i (y_tr t))] D (z_qV K T) := by
  have hm := y_mo_ok ho ht
  have hmr := y_mn_r hm ho.2.2.2.2.2.2.2.2.2.2.2.2.2.2.2.2.2.2.2.2.2.1
  refine r_mAct (c_mMo hr.1 ho ht ?_)
  generalize y_mo S t = m at *
  unfold y_exc at h
  rw [if_neg (by rw [hex]; exact Bool.false_ne_true)] at h
  have hex' := of_decide_eq_false hex
  by_cases cm : m ≤ 18
  · have em : y_mr m = m := if_pos cm
    rw [em]
    rw [if_neg (by intro w; have := of_decide_eq_true w; omega)] at h
    refine ⟨y_rs (by omega) (by omega), fun _ => ⟨fun z => ?_, fun z0 => ⟨fun z11 => ⟨fun z1 => ⟨fun z6 => ⟨fun z7 => ⟨fun z2 => ?_, fun z2 => ?_⟩, fun z7 => ?_⟩, fun z6 => ?_⟩, fun z1 => ?_⟩, fun z11 => ?_⟩⟩, fun z => by omega⟩
    · rw [if_neg (by omega), if_neg (by omega), if_neg (by omega), if_neg (by omega), if_neg (by omega), if_neg (by omega)] at h
      exact ⟨y_rs (by omega) (by omega), fun w => absurd z w, fun _ => c_stop hr (by decide) (by decide) (fun D9 hw => h _ hw)⟩
    · rw [if_neg (by omega), if_pos z2] at h
      exact h D hr
    · rw [if_neg (by omega), if_neg (by omega), if_pos (by omega)] at h
      exact c_mDefine hr ho hA h5 (by omega) h
    · rw [if_neg (by omega), if_neg (by omega), if_neg (by omega), if_neg (by omega), if_pos z7] at h
      exact c_mCatc hr ho h
    · rw [if_neg (by omega), if_neg (by omega), if_neg (by omega), if_pos z6] at h
      exact c_mLet hr ho h
    · rw [if_pos z1] at h
      exact c_mSend hr ho h
    · rw [if_neg (by omega), if_neg (by omega), if_neg (by omega), if_neg (by omega), if_neg (by omega), if_pos z11] at h
      exact ⟨y_rs (by omega) (by omega), fun w => c_stop hr (by decide) (by decide) (fun D9 hw => h _ hw), fun w => by omega⟩
  · have em : y_mr m = m + 1000 := by unfold y_mr; rw [if_neg cm, if_pos (by omega)]
    rw [em]
    have e18 : D.1 336 18 = ((y_l S 4).length : Int) := hr.1.2.2.2.2.2.1
    have o11 := ho.2.2.2.2.2.2.2.2.2.2.1
    rw [if_pos (show y_isch m = true from decide_eq_true (by omega))] at h
    refine ⟨y_rs (by omega) (by omega), fun z => by omega, fun _ => ?_⟩
    rw [show m + 1000 - 1000 = m by omega]
    refine c_mIsCharacter (y_rs (by omega) (by omega)) (z_rk rfl) ⟨fun z1 => c_mIsCharacter (y_rs (by omega) (by omega)) (z_rk rfl) ⟨fun z2 => ?_, fun z2 => ?_⟩, fun z1 D28 e28 => ?_⟩
    · have n1 := of_decide_eq_false z1
      have n2 := of_decide_eq_false z2
      rw [if_neg (by omega), if_neg (by omega)] at h
      exact c_mSend hr ho h
    · have n2 := of_decide_eq_true z2
      rw [if_neg (by omega), if_pos n2.2.2] at h
      exact c_mClose hr ho h
    · have n1 := of_decide_eq_true z1
      rw [if_pos n1.2.2] at h
      rw [e18] at e28
      have e28' : D28.1 336 18 = ((y_l S 4).length : Int) + 1 := by rw [e28]; exact y_uz_same _ _ _ _
      rw [e28']
      unfold y_group at h
      refine ⟨y_rs (by omega) (by omega), fun c => ?_, fun c D30 e30 => ?_⟩
      · rw [if_neg (by omega)] at h
        refine h D28 ⟨?_, hr.2⟩
        rw [e28]
        exact rf_open hr.1
      · rw [if_pos (by omega)] at h
        have hr30 : y_rf (B, A, []) S D30 := ⟨by rw [e30, e28]; exact rf_18 hr.1 (by omega), hr.2⟩
        exact c_stop hr30 (by decide) (by decide) (fun D9 hw => h _ hw)
end RD
