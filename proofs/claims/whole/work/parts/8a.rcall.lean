/-! contracts of the reference: a macro's call -/
section RX
variable {n d : Nat} {Q : y_Q} {D : z_D} {st : Int} {S : y_S} {T : Nat → z_D → Prop}
theorem rf_sa {p : Nat} {v : Option (List Int)} (hr : y_ref Q S D) (hp : p < 4) : y_ref Q (y_sa S p v) D := ⟨hr.1, hr.2.1, hr.2.2.1, hr.2.2.2.1, hr.2.2.2.2.1, hr.2.2.2.2.2.1, hr.2.2.2.2.2.2.1, hr.2.2.2.2.2.2.2.1, hr.2.2.2.2.2.2.2.2.1, hr.2.2.2.2.2.2.2.2.2.1, hr.2.2.2.2.2.2.2.2.2.2.1, hr.2.2.2.2.2.2.2.2.2.2.2.1, (fun l e => hr.2.2.2.2.2.2.2.2.2.2.2.2.1 l (by
  have e' : am_u1 (y_a S) p v 4 = some l := e
  unfold am_u1 at e'
  rw [if_neg (by omega)] at e'
  exact e')), hr.2.2.2.2.2.2.2.2.2.2.2.2.2.1, hr.2.2.2.2.2.2.2.2.2.2.2.2.2.2.1, hr.2.2.2.2.2.2.2.2.2.2.2.2.2.2.2.1, hr.2.2.2.2.2.2.2.2.2.2.2.2.2.2.2.2.1, hr.2.2.2.2.2.2.2.2.2.2.2.2.2.2.2.2.2.1, hr.2.2.2.2.2.2.2.2.2.2.2.2.2.2.2.2.2.2.1, hr.2.2.2.2.2.2.2.2.2.2.2.2.2.2.2.2.2.2.2.1, hr.2.2.2.2.2.2.2.2.2.2.2.2.2.2.2.2.2.2.2.2.1, hr.2.2.2.2.2.2.2.2.2.2.2.2.2.2.2.2.2.2.2.2.2.1, hr.2.2.2.2.2.2.2.2.2.2.2.2.2.2.2.2.2.2.2.2.2.2⟩
theorem rf_weak {A : Nat → Option (List Int)} (hr : y_ref Q S D) (ha : ∀ i x, A i = some x → Q.2.1 i = some x) : y_ref (Q.1, A, Q.2.2) S D := ⟨hr.1, hr.2.1, hr.2.2.1, hr.2.2.2.1, hr.2.2.2.2.1, hr.2.2.2.2.2.1, hr.2.2.2.2.2.2.1, hr.2.2.2.2.2.2.2.1, hr.2.2.2.2.2.2.2.2.1, hr.2.2.2.2.2.2.2.2.2.1, hr.2.2.2.2.2.2.2.2.2.2.1, hr.2.2.2.2.2.2.2.2.2.2.2.1, hr.2.2.2.2.2.2.2.2.2.2.2.2.1, (fun l e => hr.2.2.2.2.2.2.2.2.2.2.2.2.2.1 l (ha 5 l e)), hr.2.2.2.2.2.2.2.2.2.2.2.2.2.2.1, (fun i l hi e => hr.2.2.2.2.2.2.2.2.2.2.2.2.2.2.2.1 i l hi (ha i l e)), hr.2.2.2.2.2.2.2.2.2.2.2.2.2.2.2.2.1, hr.2.2.2.2.2.2.2.2.2.2.2.2.2.2.2.2.2.1, hr.2.2.2.2.2.2.2.2.2.2.2.2.2.2.2.2.2.2.1, hr.2.2.2.2.2.2.2.2.2.2.2.2.2.2.2.2.2.2.2.1, hr.2.2.2.2.2.2.2.2.2.2.2.2.2.2.2.2.2.2.2.2.1, hr.2.2.2.2.2.2.2.2.2.2.2.2.2.2.2.2.2.2.2.2.2.1, hr.2.2.2.2.2.2.2.2.2.2.2.2.2.2.2.2.2.2.2.2.2.2⟩
theorem y_rfw_sm {B : z_D} (h : y_rfw B S D) {i : Nat} (hi : i < 61) : (-1000 ≤ D.1 350 i ∧ D.1 350 i ≤ 1000) ∧ (-1000 ≤ D.1 352 i ∧ D.1 352 i ≤ 1000) := by
  obtain ⟨A, F, v, hr, _⟩ := h
  exact hr.2.2.2.2.2.2.2.2.2.2.2.2.2.2.2.2.2.2.2.2.2.2 i hi
set_option maxHeartbeats 1000000 in
theorem c_mCall {i : Nat} {q : List Int × List Int × Int} {K : z_D → Prop} (hr : y_rf Q S D) (ho : y_ok st S) (hA : ∀ j, j ≠ 5 → Q.2.1 j = none) (hq : (y_mac S)[i]? = some q) (h : y_fin (y_call q S) (fun _ S' => ∀ D', y_rf Q S' D' → K D') (y_rT Q.1 K)) : z_c n (d + 8) 120 [.ref 336, .int (z_i (i : Int))] D (z_qV K T) := by
  obtain ⟨i60, hkm, _, _, _, _, _⟩ := rf_mac hr.1 ho hq
  have hl12 := hkm.1.1
  have hb40 := hkm.2.1.1
  have hp4 := hkm.2.2
  obtain ⟨n1, n2, n3, n4⟩ := y_nxt_r (l := q.1) (k := 0) (by omega)
  -- the arguments' way
  let I75 : Nat → Int → Int → Int → z_D → Prop := fun m a1 k a D' => a1 = (i : Int) ∧ ((∃ (S1 : y_S) (A : Nat → Option (List Int)) (k' p : Nat), k = (k' : Int) ∧ a = (p : Int) ∧ y_rf (Q.1, A, Q.2.2) S1 D' ∧ (∀ x, Q.2.1 5 = some x → A 5 = some x) ∧ y_ok st S1 ∧ y_mac S1 = y_mac S ∧ (p : Int) ≤ q.2.2 ∧ k' ≤ q.1.length ∧ (k' < q.1.length → 8192 ≤ q.1[k']?.getD 0) ∧ (y_cnt (q.1.drop k') : Int) = q.2.2 - p ∧ (∀ j, j < p → ∃ l, y_a S1 j = some l ∧ A j = some l) ∧ y_fin (y_bd (y_args q.1 (q.2.2.toNat - p) p k' S1) (fun _ S2 => y_puts (y_body S2 q.2.1).reverse S2)) (fun _ S' => ∀ D', y_rf Q S' D' → K D') (y_rT Q.1 K) ∧ m = 8000 + 100 * (q.2.2.toNat - p)) ∨ (∃ S', y_rfw Q.1 S' D' ∧ y_rT Q.1 K S' ∧ 0 ≤ a ∧ a ≤ 10 ∧ m = 8000))
  let I97 : Nat → Int → Int → Int → Int → z_D → Prop := fun m a1 k a to D' => a1 = (i : Int) ∧ ∃ (S1 : y_S) (A : Nat → Option (List Int)) (k' p to' : Nat), k = (k' : Int) ∧ a = (p : Int) ∧ to = (to' : Int) ∧ y_rf (Q.1, A, Q.2.2) S1 D' ∧ (∀ x, Q.2.1 5 = some x → A 5 = some x) ∧ y_ok st S1 ∧ y_mac S1 = y_mac S ∧ (p : Int) < q.2.2 ∧ k' < q.1.length ∧ 8192 ≤ q.1[k']?.getD 0 ∧ (y_cnt (q.1.drop k') : Int) = q.2.2 - p ∧ (∀ j, j < p → ∃ l, y_a S1 j = some l ∧ A j = some l) ∧ k' + 1 ≤ to' ∧ to' ≤ y_nxt q.1 (k' + 1) ∧ y_fin (y_bd (y_args q.1 (q.2.2.toNat - p) p k' S1) (fun _ S2 => y_puts (y_body S2 q.2.1).reverse S2)) (fun _ S' => ∀ D', y_rf Q S' D' → K D') (y_rT Q.1 K) ∧ m = 8000 + 100 * (q.2.2.toNat - p) - (to' - k')
  -- the body's way
  let NB : y_S → List Int → z_D → Prop := fun S0 rest D' => ∃ (S1 : y_S) (A : Nat → Option (List Int)), y_rf (Q.1, A, Q.2.2) S1 D' ∧ (∀ x, Q.2.1 5 = some x → A 5 = some x) ∧ y_ok st S1 ∧ y_mac S1 = y_mac S ∧ y_nn S0 ≤ y_nn S1 ∧ (∀ j, j < q.2.2.toNat → ∃ l, y_a S0 j = some l ∧ A j = some l) ∧ y_fin (y_puts rest.reverse S1) (fun _ S' => ∀ D', y_rf Q S' D' → K D') (y_rT Q.1 K)
  let FM : z_D → Prop := fun D' => ∃ S', y_rfw Q.1 S' D' ∧ y_rT Q.1 K S'
  let I185 : Nat → Int → Int → z_D → Prop := fun m a1 j D' => a1 = (i : Int) ∧ ((-1 ≤ j ∧ m = 100 * (j + 1).toNat ∧ ∃ S0, y_ok st S0 ∧ y_mac S0 = y_mac S ∧ j < q.2.1.length ∧ NB S0 (y_body S0 (q.2.1.take (j + 1).toNat)) D') ∨ (m = 0 ∧ -2000 ≤ j ∧ j ≤ 2000 ∧ FM D'))
  let I247 : Nat → Int → Int → Int → Int → z_D → Prop := fun m a1 j a5 a6 D' => a1 = (i : Int) ∧ ((0 ≤ j ∧ -1 ≤ a6 ∧ a6 ≤ 40 ∧ m = 100 * j.toNat + (a6 + 2).toNat ∧ ∃ (S0 : y_S) (p : Nat) (l : List Int), y_ok st S0 ∧ y_mac S0 = y_mac S ∧ j < q.2.1.length ∧ p < q.2.2.toNat ∧ a5 = (p : Int) ∧ y_a S0 p = some l ∧ a6 < l.length ∧ NB S0 (y_body S0 (q.2.1.take j.toNat) ++ l.take (a6 + 1).toNat) D') ∨ (m = 1 ∧ -1999 ≤ j ∧ j ≤ 2000 ∧ -2000 ≤ a6 ∧ a6 ≤ 2000 ∧ FM D'))
  refine r_mCall (fun m a1 k D' => a1 = (i : Int) ∧ 0 ≤ k ∧ k ≤ (y_nxt q.1 0 : Int) ∧ m = 10000 - k.toNat ∧ ∃ S1, y_rf Q S1 D' ∧ y_ok st S1 ∧ y_mac S1 = y_mac S ∧ y_fin (y_bd (y_match ((q.1.take (y_nxt q.1 0)).drop k.toNat) S1) (fun _ S1 => y_bd (y_args q.1 q.2.2.toNat 0 (y_nxt q.1 0) S1) (fun _ S2 => y_puts (y_body S2 q.2.1).reverse S2))) (fun _ S' => ∀ D', y_rf Q S' D' → K D') (y_rT Q.1 K)) I75 I97 I185 I247 ⟨_, rfl, Int.le_refl _, by omega, rfl, S, hr, ho, rfl, h⟩ ?_ ?_ ?_ ?_ ?_
  · rintro mm a1 k D' ⟨rfl, k0, k1, rfl, S1, hr1, ho1, hm1, h⟩
    obtain ⟨_, _, m3, m4, m5, m6, m7⟩ := rf_mac hr1.1 ho1 (by rw [hm1]; exact hq)
    have hn := ho1.2.2.2.2.2.2.2.2.2.2.2.2.2.2.2.2.2.2.2.1.2
    have done : k = (y_nxt q.1 0 : Int) → ∃ m, m < 10000 - k.toNat ∧ I75 m (i : Int) k 0 D' := by
      intro ek
      rw [show k.toNat = y_nxt q.1 0 by omega, List.drop_eq_nil_of_le (by rw [List.length_take]; omega)] at h
      refine ⟨_, ?_, rfl, Or.inl ⟨S1, Q.2.1, y_nxt q.1 0, 0, ek, rfl, hr1, fun x e => e, ho1, hm1, hp4.1, n2, n4, ?_, fun j hj => by omega, h, rfl⟩⟩
      · omega
      · rw [← y_cnt_first, hkm.1.2.1]; simp
    unfold w_mCall_2
    rw [show (((i : Nat) : Int)).toNat = i by omega, m3]
    refine ⟨by omega, y_rs (by omega) (by omega), y_rs (by omega) (by omega), fun c => done (by omega), fun c => ?_⟩
    have hkq : k.toNat < q.1.length := by omega
    have h349 := m6 k.toNat hkq
    have htq := y_tq_tr h349.2 hn
    rw [show Int.toNat ((13 * (i : Int)) + k) = 13 * i + k.toNat by omega, h349.1]
    refine ⟨by omega, y_rs (by omega) (by omega), fun c1 => done ?_, fun c1 => ?_⟩
    · by_cases z : k = (y_nxt q.1 0 : Int)
      · exact z
      · have := n3 k.toNat (by omega) (by omega)
        rw [List.getElem?_eq_getElem hkq] at this
        have this : q.1[k.toNat] < 8192 := this
        omega
    · have hlt : k < (y_nxt q.1 0 : Int) := by
        by_cases z : k < (y_nxt q.1 0 : Int)
        · exact z
        · have e : y_nxt q.1 0 = k.toNat := by omega
          rw [e] at n4
          have := n4 hkq
          rw [List.getElem?_eq_getElem hkq] at this
          have this : 8192 ≤ q.1[k.toNat] := this
          omega
      have hkl : k.toNat < (q.1.take (y_nxt q.1 0)).length := by rw [List.length_take]; omega
      have ex : (q.1.take (y_nxt q.1 0))[k.toNat] = q.1[k.toNat] := List.getElem_take
      rw [List.drop_eq_getElem_cons hkl, ex] at h
      have h' : y_fin (y_bd (y_get true S1) (fun t S2 => y_bd (if y_un t = q.1[k.toNat] then y_match ((q.1.take (y_nxt q.1 0)).drop (k.toNat + 1)) S2 else y_ft S2 6) (fun _ S1 => y_bd (y_args q.1 q.2.2.toNat 0 (y_nxt q.1 0) S1) (fun _ S2 => y_puts (y_body S2 q.2.1).reverse S2)))) (fun _ S' => ∀ D', y_rf Q S' D' → K D') (y_rT Q.1 K) := by
        unfold y_match at h
        cases hg : y_get true S1 with
        | inl z => rw [hg] at h; exact h
        | inr z => rw [hg] at h; exact h
      refine c_mNeed hr1 ho1 (y_gt (yo_getT ho1) h' (fun t S2 ⟨b1, b2, b3, _⟩ h D2 hr2 => ?_) (fun S' hT D2 hw => ⟨z_rk rfl, fun z => absurd rfl z, fun _ => hT D2 hw⟩))
      have hn2 := b1.2.2.2.2.2.2.2.2.2.2.2.2.2.2.2.2.2.2.2.1.2
      have htr := y_tr_r b3 hn2
      have hut := y_un_tp b3 hn2
      have hur := y_tp_r hut hn2
      have hm2 : y_mac S2 = y_mac S := b2.2.1.trans hm1
      obtain ⟨_, _, _, _, _, w6, _⟩ := rf_mac hr2.1 b1 (by rw [hm2]; exact hq)
      have h349' := w6 k.toNat hkq
      refine ⟨y_rs (by omega) (by omega), fun _ => c_mPlain (y_rs (by omega) (by omega)) ?_, fun z => by omega⟩
      rw [y_pl_tr b3 hn2, h349'.1]
      have htp : y_tr q.1[k.toNat] = q.1[k.toNat] := by omega
      rw [htp]
      refine ⟨by omega, y_rs (by omega) (by omega), y_rs (by omega) (by omega), fun z => ?_, fun z => ?_⟩
      · rw [if_pos z] at h
        refine ⟨_, ?_, rfl, by omega, by omega, rfl, S2, hr2, b1, hm2, ?_⟩
        · omega
        · rw [show (k + 1).toNat = k.toNat + 1 by omega]; exact h
      · rw [if_neg z] at h
        exact c_stop hr2 (by decide) (by decide) h
  · rintro mm a1 k a D' ⟨rfl, hmode⟩
    rcases hmode with ⟨S1, A, k', p, rfl, rfl, hr1, hA5, ho1, hm1, hp, hk, hk8, hcnt, hargs, h, rfl⟩ | ⟨S', hw, hT, a0, a10, rfl⟩
    · obtain ⟨_, _, m3, m4, m5, m6, m7⟩ := rf_mac hr1.1 ho1 (by rw [hm1]; exact hq)
      have e5 : D'.1 336 5 = 0 := hr1.1.2.2.2.2.2.2.2.2.2.2.2.2.2.2.2.2.2.2.1.trans hr1.2
      unfold w_mCall_75
      rw [show (((i : Nat) : Int)).toNat = i by omega, m5, m4, e5]
      refine ⟨by omega, y_rs (by omega) (by omega), y_rs (by omega) (by omega), fun c => ⟨by omega, ?_⟩, fun c => ⟨z_rk rfl, fun z => absurd rfl z, fun _ => ?_⟩⟩
      · rw [show q.2.2.toNat - p = 0 by omega] at h
        have h : y_fin (y_puts (y_body S1 q.2.1).reverse S1) (fun _ S' => ∀ D', y_rf Q S' D' → K D') (y_rT Q.1 K) := h
        refine ⟨_, ?_, rfl, Or.inl ⟨by omega, rfl, S1, ho1, hm1, by omega, S1, A, hr1, hA5, ho1, hm1, Nat.le_refl _, fun j hj => hargs j (by omega), ?_⟩⟩
        · omega
        · rw [show ((q.2.1.length : Int) - 1 + 1).toNat = q.2.1.length by omega, List.take_length]; exact h
      · have hkl : k' < q.1.length := by
          by_cases z : k' < q.1.length
          · exact z
          · rw [List.drop_eq_nil_of_le (by omega)] at hcnt
            have : y_cnt ([] : List Int) = 0 := rfl
            omega
        obtain ⟨w1, _⟩ := y_nxt_r (l := q.1) (k := k' + 1) (by omega)
        refine ⟨_, ?_, rfl, S1, A, k', p, k' + 1, rfl, rfl, by omega, hr1, hA5, ho1, hm1, by omega, hkl, hk8 hkl, hcnt, hargs, Nat.le_refl _, w1, h, rfl⟩
        omega
    · have hf := y_rfw_f hw
      have hsm := y_rfw_sm hw (i := i) (by omega)
      unfold w_mCall_75
      rw [show (((i : Nat) : Int)).toNat = i by omega]
      have go2 : ∃ m, m < 8000 ∧ I185 m (i : Int) (D'.1 350 i - 1) D' := ⟨0, by omega, rfl, Or.inr ⟨rfl, by omega, by omega, S', hw, hT⟩⟩
      exact ⟨by omega, y_rs (by omega) (by omega), y_rs (by omega) (by omega), fun _ => ⟨by omega, go2⟩, fun _ => ⟨y_rs (by omega) (by omega), fun _ => ⟨by omega, go2⟩, fun z => by omega⟩⟩
  · rintro mm a1 k a to D' ⟨rfl, S1, A, k', p, to', rfl, rfl, rfl, hr1, hA5, ho1, hm1, hp, hkl, hk8, hcnt, hargs, t1, t2, h, rfl⟩
    obtain ⟨_, _, m3, m4, m5, m6, m7⟩ := rf_mac hr1.1 ho1 (by rw [hm1]; exact hq)
    have hn := ho1.2.2.2.2.2.2.2.2.2.2.2.2.2.2.2.2.2.2.2.1.2
    obtain ⟨w1, w2, w3, w4⟩ := y_nxt_r (l := q.1) (k := k' + 1) (by omega)
    have hcn := y_cnt_next hkl hk8
    -- the place is found
    have take : to' = y_nxt q.1 (k' + 1) → w_mCall_132 n (d + 7) (i : Int) (k' : Int) (p : Int) (to' : Int) D' (fun a1 k a D' => ∃ m, m < 8000 + 100 * (q.2.2.toNat - p) - (to' - k') ∧ I75 m a1 k a D') K T := by
      intro eto
      rw [show q.2.2.toNat - p = (q.2.2.toNat - (p + 1)) + 1 by omega] at h
      unfold y_args at h
      have h' : y_fin (y_bd (y_take ((q.1.take (y_nxt q.1 (k' + 1))).drop (k' + 1)) S1) (fun l S2 => y_bd (y_args q.1 (q.2.2.toNat - (p + 1)) (p + 1) (y_nxt q.1 (k' + 1)) (y_sa S2 p (some l))) (fun _ S2 => y_puts (y_body S2 q.2.1).reverse S2))) (fun _ S' => ∀ D', y_rf Q S' D' → K D') (y_rT Q.1 K) := by
        cases hg : y_take ((q.1.take (y_nxt q.1 (k' + 1))).drop (k' + 1)) S1 with
        | inl z => rw [hg] at h; exact h
        | inr z => rw [hg] at h; exact h
      rw [← eto] at h' hcn w2 w4
      have hyo := yo_take (dl := (q.1.take to').drop (k' + 1)) ho1
      refine ⟨by omega, fun D2 e2 => ⟨y_rs (by omega) (by omega), y_rs (by omega) (by omega), ?_⟩⟩
      rw [show (((p : Nat) : Int)).toNat = p by omega] at e2
      have hr2 : y_rf (y_Qp (Q.1, A, Q.2.2) p []) S1 D2 := by
        refine ⟨?_, hr1.2⟩
        have e : D2 = (D2.1, D'.2) := by rw [e2]; rfl
        rw [e]
        exact rf_arg hr1.1 (by omega) (fun c c1 c2 => by rw [e2, y_uz_cell c2]) (fun j hj => by rw [e2, y_uz_cell (by decide)]) (fun j hj => by rw [e2, y_uz_slot hj]) ⟨by rw [e2, y_uz_same]; rfl, fun j hj => (by cases hj)⟩ (by simp)
      have fin : y_fin (y_take ((q.1.take to').drop (k' + 1)) S1) (fun l S' => ∀ D5, y_rf (y_Qp (Q.1, A, Q.2.2) p l) S' D5 → ∃ m, m < 8000 + 100 * (q.2.2.toNat - p) - (to' - k') ∧ I75 m (i : Int) (to' : Int) ((p : Int) + 1) D5) (y_rT Q.1 (fun D5 => ∃ m, m < 8000 + 100 * (q.2.2.toNat - p) - (to' - k') ∧ I75 m (i : Int) (to' : Int) ((p : Int) + 1) D5)) := by
        refine y_gt hyo h' (fun l S2 ⟨b1, b2, b3, b4⟩ h D5 hr5 => ?_) (fun S' hT D5 hw => ⟨8000, by omega, rfl, Or.inr ⟨S', hw, hT, by omega, by omega, rfl⟩⟩)
        refine ⟨_, ?_, rfl, Or.inl ⟨y_sa S2 p (some l), am_u1 A p (some l), to', p + 1, rfl, by omega, ⟨rf_sa hr5.1 (by omega), hr5.2⟩, fun x e => ?_, y_ok_a b1 b3 b4, b2.2.1.trans hm1, by omega, w2, w4, by omega, fun j hj => ?_, h, rfl⟩⟩
        · omega
        · show am_u1 A p (some l) 5 = some x
          unfold am_u1
          rw [if_neg (by omega)]
          exact hA5 x e
        · show ∃ x, am_u1 (y_a S2) p (some l) j = some x ∧ am_u1 A p (some l) j = some x
          unfold am_u1
          by_cases z : j = p
          · rw [if_pos z, if_pos z]
            exact ⟨l, rfl, rfl⟩
          · rw [if_neg z, if_neg z, b2.2.2.1]
            exact hargs j (by omega)
      refine ⟨fun c => ?_, fun c => ?_⟩
      · rw [show (k' : Int) + 1 = ((k' + 1 : Nat) : Int) by omega]
        exact c_longArg (Q := (Q.1, A, Q.2.2)) hr2 ho1 (by omega) (by rw [hm1]; exact hq) (by omega) w2 fin
      · have en : (q.1.take to').drop (k' + 1) = [] := List.drop_eq_nil_of_le (by rw [List.length_take]; omega)
        rw [en] at fin
        exact c_plainArg (Q := (Q.1, A, Q.2.2)) hr2 ho1 (by omega) (by omega) fin
    unfold w_mCall_97
    rw [show (((i : Nat) : Int)).toNat = i by omega, m3]
    refine ⟨by omega, y_rs (by omega) (by omega), y_rs (by omega) (by omega), fun c => take (by omega), fun c => ?_⟩
    have hto : to' < q.1.length := by omega
    have h349 := m6 to' hto
    have htq := y_tq_tr h349.2 hn
    rw [show Int.toNat ((13 * (i : Int)) + (to' : Int)) = 13 * i + to' by omega, h349.1]
    refine ⟨by omega, y_rs (by omega) (by omega), fun c1 => take ?_, fun c1 => ?_⟩
    · by_cases z : to' = y_nxt q.1 (k' + 1)
      · exact z
      · have := w3 to' t1 (by omega)
        rw [List.getElem?_eq_getElem hto] at this
        have this : q.1[to'] < 8192 := this
        omega
    · have hlt : to' < y_nxt q.1 (k' + 1) := by
        by_cases z : to' < y_nxt q.1 (k' + 1)
        · exact z
        · have e : y_nxt q.1 (k' + 1) = to' := by omega
          rw [e] at w4
          have := w4 hto
          rw [List.getElem?_eq_getElem hto] at this
          have this : 8192 ≤ q.1[to'] := this
          omega
      refine ⟨_, ?_, rfl, S1, A, k', p, to' + 1, rfl, rfl, by omega, hr1, hA5, ho1, hm1, hp, hkl, hk8, hcnt, hargs, by omega, by omega, h, rfl⟩
      omega
  · rintro mm a1 j D' ⟨rfl, hmode⟩
    rcases hmode with ⟨j0, rfl, S0, ho0, hm0, hj, S1, A, hr1, hA5, ho1, hm1, hnn, hargs, h⟩ | ⟨rfl, j0, j1, S', hw, hT⟩
    · have e5 : D'.1 336 5 = 0 := hr1.1.2.2.2.2.2.2.2.2.2.2.2.2.2.2.2.2.2.2.1.trans hr1.2
      obtain ⟨_, _, m3, m4, m5, m6, m7⟩ := rf_mac hr1.1 ho1 (by rw [hm1]; exact hq)
      unfold w_mCall_185
      rw [e5]
      refine ⟨y_rs (by omega) (by omega), fun c => ?_, fun c => ⟨z_rk rfl, fun z => absurd rfl z, fun _ => ?_⟩⟩
      · rw [show (j + 1).toNat = 0 by omega] at h
        have h : ∀ D', y_rf Q S1 D' → K D' := h
        refine h D' ⟨?_, hr1.2⟩
        refine rf_weak (Q := (Q.1, A, Q.2.2)) hr1.1 (A := Q.2.1) (fun z x e => ?_)
        by_cases z5 : z = 5
        · subst z5; exact hA5 x e
        · rw [hA z z5] at e; cases e
      · have hjl : j.toNat < q.2.1.length := by omega
        obtain ⟨e351, htq⟩ := m7 j.toNat hjl
        have hn := ho1.2.2.2.2.2.2.2.2.2.2.2.2.2.2.2.2.2.2.2.1.2
        have hq2 := y_tq_tr htq hn
        have hmem := hkm.2.1.2 _ (List.getElem_mem hjl)
        rw [show Int.toNat ((41 * (i : Int)) + j) = 41 * i + j.toNat by omega, e351]
        rw [show (j + 1).toNat = j.toNat + 1 by omega, List.take_succ_eq_append_getElem hjl, y_body_app] at h
        refine ⟨by omega, y_rs (by omega) (by omega), fun c1 => ?_, fun c1 => ?_⟩
        · have hpr : 8193 ≤ q.2.1[j.toNat] ∧ q.2.1[j.toNat] < 8193 + q.2.2 := by
            rcases hmem with z | z
            · exact z
            · have hn0 : y_nn S ≤ 118 := ho.2.2.2.2.2.2.2.2.2.2.2.2.2.2.2.2.2.2.2.1.2
              have := y_tp_r z hn0; omega
          have hp : (q.2.1[j.toNat] - 8193).toNat < q.2.2.toNat := by omega
          obtain ⟨l, l1, l2⟩ := hargs (q.2.1[j.toNat] - 8193).toNat hp
          obtain ⟨f1, f2, f3⟩ := rf_argAt (Q := (Q.1, A, Q.2.2)) hr1.1 (by omega) l2
          have hl40 := (ho0.2.2.2.2.2.2.2.2.2.2.2.2.2.2.2.2.2.2.2.2.2.2.2.2.2.1 _ l (by omega) l1).1
          have eb : y_body S0 [q.2.1[j.toNat]] = l := by
            unfold y_body y_body
            rw [if_pos (by omega), l1]
            simp
          rw [eb] at h
          have ep : y_tr q.2.1[j.toNat] - 16384 - 1 = (((q.2.1[j.toNat] - 8193).toNat : Nat) : Int) := by omega
          rw [ep, show ((((q.2.1[j.toNat] - 8193).toNat : Nat) : Int)).toNat = (q.2.1[j.toNat] - 8193).toNat by omega, f2]
          refine ⟨by omega, _, ?_, rfl, Or.inl ⟨c, by omega, by omega, rfl, S0, (q.2.1[j.toNat] - 8193).toNat, l, ho0, hm0, hj, hp, rfl, l1, by omega, S1, A, hr1, hA5, ho1, hm1, hnn, hargs, ?_⟩⟩
          · omega
          · rw [show ((l.length : Int) - 1 + 1).toNat = l.length by omega, List.take_length]
            exact h
        · have htp : y_tp (y_nn S0) q.2.1[j.toNat] := by
            have hk0 := ho0.2.2.2.2.2.2.2.2.2.2.2.2.2.2.2.2.2.2.2.2.2.2.1 q (List.mem_of_getElem? (by rw [hm0]; exact hq))
            rcases hk0.2.1.2 _ (List.getElem_mem hjl) with z | z
            · omega
            · exact z
          have hrt := y_tp_r htp ho0.2.2.2.2.2.2.2.2.2.2.2.2.2.2.2.2.2.2.2.1.2
          have eb : y_body S0 [q.2.1[j.toNat]] = [q.2.1[j.toNat]] := by
            unfold y_body y_body
            rw [if_neg (by omega)]
            rfl
          rw [eb, List.reverse_append] at h
          have h : y_fin (y_bd (y_put q.2.1[j.toNat] S1) (fun _ S2 => y_puts (y_body S0 (q.2.1.take j.toNat)).reverse S2)) (fun _ S' => ∀ D', y_rf Q S' D' → K D') (y_rT Q.1 K) := h
          refine c_mPut hr1 ho1 (y_gt (yo_put ho1 (y_tk_le (y_tp_tk htp) hnn)) h (fun _ S2 ⟨b1, b2⟩ h D2 hr2 => ⟨_, ?_, rfl, Or.inl ⟨by omega, rfl, S0, ho0, hm0, by omega, S2, A, hr2, hA5, b1, b2.2.1.trans hm1, Nat.le_trans hnn b2.1, hargs, ?_⟩⟩) (fun S' hT D2 hw => ⟨0, by omega, rfl, Or.inr ⟨rfl, by omega, by omega, S', hw, hT⟩⟩))
          · omega
          · rw [show j + (-1) + 1 = j by omega]; exact h
    · have hf := y_rfw_f hw
      exact ⟨y_rs (by omega) (by omega), fun _ => hT D' hw, fun _ => ⟨y_rs (by omega) (by omega), fun _ => hT D' hw, fun z => by omega⟩⟩
  · rintro mm a1 j a5 a6 D' ⟨rfl, hmode⟩
    rcases hmode with ⟨j0, b0, b40, rfl, S0, p, l, ho0, hm0, hj, hp, rfl, hl, hb, S1, A, hr1, hA5, ho1, hm1, hnn, hargs, h⟩ | ⟨rfl, j0, j1, b0, b1, S', hw, hT⟩
    · have e5 : D'.1 336 5 = 0 := hr1.1.2.2.2.2.2.2.2.2.2.2.2.2.2.2.2.2.2.2.1.trans hr1.2
      obtain ⟨l', l1, l2⟩ := hargs p hp
      rw [hl] at l1
      have l1 := Option.some.inj l1
      subst l1
      obtain ⟨f1, f2, f3⟩ := rf_argAt (Q := (Q.1, A, Q.2.2)) hr1.1 (by omega) l2
      unfold w_mCall_247
      rw [e5]
      refine ⟨y_rs (by omega) (by omega), fun c => ?_, fun c => ⟨z_rk rfl, fun z => absurd rfl z, fun _ => ?_⟩⟩
      · rw [show (a6 + 1).toNat = 0 by omega, List.take_zero, List.append_nil] at h
        refine ⟨_, ?_, rfl, Or.inl ⟨by omega, rfl, S0, ho0, hm0, by omega, S1, A, hr1, hA5, ho1, hm1, hnn, hargs, ?_⟩⟩
        · omega
        · rw [show j + (-1) + 1 = j by omega]; exact h
      · have hbl : a6.toNat < l.length := by omega
        have e360 : D'.1 360 (Int.toNat ((42 * (p : Int)) + a6)) = y_tr l[a6.toNat] := by
          rw [show Int.toNat ((42 * (p : Int)) + a6) = 42 * p + a6.toNat by omega]
          exact f3 _ hbl
        rw [e360]
        have htp := (ho0.2.2.2.2.2.2.2.2.2.2.2.2.2.2.2.2.2.2.2.2.2.2.2.2.2.1 p l (by omega) hl).2 _ (List.getElem_mem hbl)
        rw [show (a6 + 1).toNat = a6.toNat + 1 by omega, List.take_succ_eq_append_getElem hbl, ← List.append_assoc, List.reverse_append] at h
        have h : y_fin (y_bd (y_put l[a6.toNat] S1) (fun _ S2 => y_puts (y_body S0 (q.2.1.take j.toNat) ++ l.take a6.toNat).reverse S2)) (fun _ S' => ∀ D', y_rf Q S' D' → K D') (y_rT Q.1 K) := h
        refine ⟨by omega, c_mPut hr1 ho1 (y_gt (yo_put ho1 (y_tk_le (y_tp_tk htp) hnn)) h (fun _ S2 ⟨b1, b2⟩ h D2 hr2 => ⟨_, ?_, rfl, Or.inl ⟨j0, by omega, by omega, rfl, S0, p, l, ho0, hm0, hj, hp, rfl, hl, by omega, S2, A, hr2, hA5, b1, b2.2.1.trans hm1, Nat.le_trans hnn b2.1, hargs, ?_⟩⟩) (fun S' hT D2 hw => ⟨1, by omega, rfl, Or.inr ⟨rfl, by omega, by omega, by omega, by omega, S', hw, hT⟩⟩))⟩
        · omega
        · rw [show a6 + (-1) + 1 = a6 by omega]; exact h
    · have hf := y_rfw_f hw
      have nx : ∃ m, m < 1 ∧ I185 m (i : Int) (j + (-1)) D' := ⟨0, by omega, rfl, Or.inr ⟨rfl, by omega, by omega, S', hw, hT⟩⟩
      exact ⟨y_rs (by omega) (by omega), fun _ => nx, fun _ => ⟨y_rs (by omega) (by omega), fun _ => nx, fun z => by omega⟩⟩
end RX
