/-! contracts of the reference: a definition is read -/
section RT
variable {n d : Nat} {Q : y_Q} {D : z_D} {st : Int} {S : y_S} {T : Nat → z_D → Prop}
/-- other macros stay -/
theorem rf12_f {c j : Nat} {v : Int} (hr : y_ref Q S D) (ho : y_ok st S) (hc : (c = 348 ∨ c = 350 ∨ c = 352) ∧ j = (y_mac S).length ∨ c = 349 ∧ 13 * (y_mac S).length ≤ j ∨ c = 351 ∧ 41 * (y_mac S).length ≤ j) : ∀ (i : Nat) (q : List Int × List Int × Int), (y_mac S)[i]? = some q → y_mq (z_uz D c j v) i q := by
  intro i q e
  have hi := (List.getElem?_eq_some_iff.mp e).1
  have hk := ho.2.2.2.2.2.2.2.2.2.2.2.2.2.2.2.2.2.2.2.2.2.2.1 q (List.mem_of_getElem? e)
  have h1 := hk.1.1
  have h2 := hk.2.1.1
  obtain ⟨⟨a1, a2⟩, ⟨b1, b2⟩, c1⟩ := hr.2.2.2.2.2.2.2.2.2.2.2.1 i q e
  have ne : ∀ c' j', (c' = 348 ∨ c' = 350 ∨ c' = 352) → j' < (y_mac S).length → (z_uz D c j v).1 c' j' = D.1 c' j' := by
    intro c' j' h3 h4
    by_cases z : c' = c
    · rw [z, y_uz_slot (by omega)]
    · rw [y_uz_cell z]
  refine ⟨⟨by rw [ne 348 i (by decide) hi]; exact a1, fun k hk' => ?_⟩, ⟨by rw [ne 350 i (by decide) hi]; exact b1, fun k hk' => ?_⟩, by rw [ne 352 i (by decide) hi]; exact c1⟩
  · rw [List.length_map] at hk'
    have : (z_uz D c j v).1 349 (13 * i + k) = D.1 349 (13 * i + k) := by
      by_cases z : c = 349
      · rw [z, y_uz_slot (by omega)]
      · rw [y_uz_cell (by omega)]
    rw [this]
    exact a2 k (by rw [List.length_map]; exact hk')
  · rw [List.length_map] at hk'
    have : (z_uz D c j v).1 351 (41 * i + k) = D.1 351 (41 * i + k) := by
      by_cases z : c = 351
      · rw [z, y_uz_slot (by omega)]
      · rw [y_uz_cell (by omega)]
    rw [this]
    exact b2 k (by rw [List.length_map]; exact hk')
theorem rf23_f {c j : Nat} {v : Int} (hr : y_ref Q S D) (hv : (c = 350 ∨ c = 352) → -1000 ≤ v ∧ v ≤ 1000) : ∀ i, i < 61 → (-1000 ≤ (z_uz D c j v).1 350 i ∧ (z_uz D c j v).1 350 i ≤ 1000) ∧ (-1000 ≤ (z_uz D c j v).1 352 i ∧ (z_uz D c j v).1 352 i ≤ 1000) := by
  intro i hi
  have h := hr.2.2.2.2.2.2.2.2.2.2.2.2.2.2.2.2.2.2.2.2.2.2 i hi
  have g : ∀ c', (c' = 350 ∨ c' = 352) → (z_uz D c j v).1 c' i = D.1 c' i ∨ (z_uz D c j v).1 c' i = v ∧ c = c' := by
    intro c' h3
    by_cases z : c' = c
    · by_cases z2 : i = j
      · subst z z2; exact Or.inr ⟨y_uz_same _ _ _ _, rfl⟩
      · rw [z, y_uz_slot z2]; exact Or.inl rfl
    · rw [y_uz_cell z]; exact Or.inl rfl
  constructor
  · rcases g 350 (Or.inl rfl) with z | ⟨z, z2⟩
    · rw [z]; exact h.1
    · rw [z]; exact hv (Or.inl z2)
  · rcases g 352 (Or.inr rfl) with z | ⟨z, z2⟩
    · rw [z]; exact h.2
    · rw [z]; exact hv (Or.inr z2)
theorem rf_d348 (hr : y_ref Q S D) (ho : y_ok st S) : y_ref Q (y_sa (y_sa S 4 (some [])) 5 (some [])) (z_uz D 348 (y_mac S).length 0) := by
  have hm := rf12_f (v := 0) hr ho (c := 348) (j := (y_mac S).length) (Or.inl ⟨Or.inl rfl, rfl⟩)
  have h13 : ∀ l, some [] = some l → y_pa (fun i => (z_uz D 348 (y_mac S).length 0).1 349 i) (13 * (y_mac S).length) ((z_uz D 348 (y_mac S).length 0).1 348 (y_mac S).length) (l.map y_tr) := fun l e => by
    have e := Option.some.inj e
    subst e
    exact ⟨y_uz_same _ _ _ _, fun i hi => (by cases hi)⟩
  exact ⟨y_g1 hr.1 (by decide), hr.2.1, hr.2.2.1, hr.2.2.2.1, hr.2.2.2.2.1, hr.2.2.2.2.2.1, hr.2.2.2.2.2.2.1, hr.2.2.2.2.2.2.2.1, hr.2.2.2.2.2.2.2.2.1, hr.2.2.2.2.2.2.2.2.2.1, hr.2.2.2.2.2.2.2.2.2.2.1, hm, h13, hr.2.2.2.2.2.2.2.2.2.2.2.2.2.1, hr.2.2.2.2.2.2.2.2.2.2.2.2.2.2.1, hr.2.2.2.2.2.2.2.2.2.2.2.2.2.2.2.1, hr.2.2.2.2.2.2.2.2.2.2.2.2.2.2.2.2.1, hr.2.2.2.2.2.2.2.2.2.2.2.2.2.2.2.2.2.1, hr.2.2.2.2.2.2.2.2.2.2.2.2.2.2.2.2.2.2.1, hr.2.2.2.2.2.2.2.2.2.2.2.2.2.2.2.2.2.2.2.1, hr.2.2.2.2.2.2.2.2.2.2.2.2.2.2.2.2.2.2.2.2.1, hr.2.2.2.2.2.2.2.2.2.2.2.2.2.2.2.2.2.2.2.2.2.1, hr.2.2.2.2.2.2.2.2.2.2.2.2.2.2.2.2.2.2.2.2.2.2⟩
theorem rf_d352 (hr : y_ref Q S D) (ho : y_ok st S) {v : Int} (hv : -1000 ≤ v ∧ v ≤ 1000) : y_ref Q (y_sdp S (some v)) (z_uz D 352 (y_mac S).length v) := by
  have hm := rf12_f (v := v) hr ho (c := 352) (j := (y_mac S).length) (Or.inl ⟨Or.inr (Or.inr rfl), rfl⟩)
  have h23 := rf23_f (v := v) (c := 352) (j := (y_mac S).length) hr (fun _ => hv)
  have h15 : ∀ w, some v = some w → (z_uz D 352 (y_mac S).length v).1 352 (y_mac S).length = w := fun w e => by
    rw [← Option.some.inj e]
    exact y_uz_same _ _ _ _
  exact ⟨y_g1 hr.1 (by decide), hr.2.1, hr.2.2.1, hr.2.2.2.1, hr.2.2.2.2.1, hr.2.2.2.2.2.1, hr.2.2.2.2.2.2.1, hr.2.2.2.2.2.2.2.1, hr.2.2.2.2.2.2.2.2.1, hr.2.2.2.2.2.2.2.2.2.1, hr.2.2.2.2.2.2.2.2.2.2.1, hm, hr.2.2.2.2.2.2.2.2.2.2.2.2.1, hr.2.2.2.2.2.2.2.2.2.2.2.2.2.1, h15, hr.2.2.2.2.2.2.2.2.2.2.2.2.2.2.2.1, hr.2.2.2.2.2.2.2.2.2.2.2.2.2.2.2.2.1, hr.2.2.2.2.2.2.2.2.2.2.2.2.2.2.2.2.2.1, hr.2.2.2.2.2.2.2.2.2.2.2.2.2.2.2.2.2.2.1, hr.2.2.2.2.2.2.2.2.2.2.2.2.2.2.2.2.2.2.2.1, hr.2.2.2.2.2.2.2.2.2.2.2.2.2.2.2.2.2.2.2.2.1, hr.2.2.2.2.2.2.2.2.2.2.2.2.2.2.2.2.2.2.2.2.2.1, h23⟩
theorem rf_dtx (hr : y_ref Q S D) (ho : y_ok st S) {l : List Int} (e4 : y_a S 4 = some l) (t : Int) : y_ref Q (y_sa S 4 (some (l ++ [t]))) (z_uz (z_uz D 349 (13 * (y_mac S).length + l.length) (y_tr t)) 348 (y_mac S).length ((l.length : Int) + 1)) := by
  have h1 : y_ref Q S (z_uz D 349 (13 * (y_mac S).length + l.length) (y_tr t)) → True := fun _ => trivial
  have a := rf12_f (v := y_tr t) hr ho (c := 349) (j := 13 * (y_mac S).length + l.length) (Or.inr (Or.inl ⟨rfl, by omega⟩))
  have hm : ∀ (i : Nat) (q : List Int × List Int × Int), (y_mac S)[i]? = some q → y_mq (z_uz (z_uz D 349 (13 * (y_mac S).length + l.length) (y_tr t)) 348 (y_mac S).length ((l.length : Int) + 1)) i q := by
    intro i q e
    have hi := (List.getElem?_eq_some_iff.mp e).1
    obtain ⟨⟨a1, a2⟩, b, c⟩ := a i q e
    exact ⟨⟨by rw [y_uz_slot (by omega)]; exact a1, fun k hk => by rw [y_uz_cell (by decide)]; exact a2 k hk⟩, b, c⟩
  refine ⟨y_g1 (y_g1 hr.1 (by decide)) (by decide), hr.2.1, hr.2.2.1, hr.2.2.2.1, hr.2.2.2.2.1, hr.2.2.2.2.2.1, hr.2.2.2.2.2.2.1, hr.2.2.2.2.2.2.2.1, hr.2.2.2.2.2.2.2.2.1, hr.2.2.2.2.2.2.2.2.2.1, hr.2.2.2.2.2.2.2.2.2.2.1, hm, (fun x e => ?_), hr.2.2.2.2.2.2.2.2.2.2.2.2.2.1, hr.2.2.2.2.2.2.2.2.2.2.2.2.2.2.1, hr.2.2.2.2.2.2.2.2.2.2.2.2.2.2.2.1, hr.2.2.2.2.2.2.2.2.2.2.2.2.2.2.2.2.1, hr.2.2.2.2.2.2.2.2.2.2.2.2.2.2.2.2.2.1, hr.2.2.2.2.2.2.2.2.2.2.2.2.2.2.2.2.2.2.1, hr.2.2.2.2.2.2.2.2.2.2.2.2.2.2.2.2.2.2.2.1, hr.2.2.2.2.2.2.2.2.2.2.2.2.2.2.2.2.2.2.2.2.1, hr.2.2.2.2.2.2.2.2.2.2.2.2.2.2.2.2.2.2.2.2.2.1, hr.2.2.2.2.2.2.2.2.2.2.2.2.2.2.2.2.2.2.2.2.2.2⟩
  have e : some (l ++ [t]) = some x := e
  have e := Option.some.inj e
  subst e
  have hp := hr.2.2.2.2.2.2.2.2.2.2.2.2.1 l e4
  show y_pa _ (13 * (y_mac S).length) _ _
  rw [List.map_append]
  have := hp.1
  rw [List.length_map] at this
  have e348 : (z_uz (z_uz D 349 (13 * (y_mac S).length + l.length) (y_tr t)) 348 (y_mac S).length ((l.length : Int) + 1)).1 348 (y_mac S).length = D.1 348 (y_mac S).length + 1 := by rw [y_uz_same, this]
  show y_pa _ _ ((z_uz (z_uz D 349 (13 * (y_mac S).length + l.length) (y_tr t)) 348 (y_mac S).length ((l.length : Int) + 1)).1 348 (y_mac S).length) _
  rw [e348]
  refine y_pa_add hp (fun i => ?_)
  rw [y_uz_cell (by decide), List.length_map]
  show am_u2 D.1 349 (13 * (y_mac S).length + l.length) (y_tr t) 349 i = _
  unfold am_u2
  rw [if_pos rfl]
theorem y_ich {m : Nat} {u : Int} (h : y_tp m u) (hm : m ≤ 118) (c : Int) (hc : 0 ≤ c ∧ c ≤ 15) : (decide (0 ≤ u ∧ u < 4096 ∧ u / 256 = c) = true ↔ u / 256 = c) := by
  have := y_tp_r h hm
  rw [decide_eq_true_eq]
  omega
theorem c_mReadText {K : Bool → z_D → Prop} (hr : y_rf Q S D) (ho : y_ok st S) (h : y_fin (y_rtx 13 (y_sdp (y_sa (y_sa S 4 (some [])) 5 (some [])) (some 0))) (fun _ S' => ∀ D', y_s S' 5 = y_s S 5 → y_rf Q S' D' → K true D') (y_rT Q.1 (K false))) : z_c n (d + 7) 136 [.ref 336] D (z_qZ K T) := by
  have o22 : (y_mac S).length ≤ 60 := ho.2.2.2.2.2.2.2.2.2.2.2.2.2.2.2.2.2.2.2.2.2.1
  have e23 : D.1 336 23 = ((y_mac S).length : Int) := hr.1.2.2.2.2.2.2.2.2.2.2.1
  obtain ⟨d1, d2⟩ := y_dr0 ho
  refine r_mReadText (fun m a D' => a = ((y_mac S).length : Int) ∧ ∃ (S1 : y_S) (f : Nat) (tx : List Int) (p : Int), y_rf Q S1 D' ∧ y_ok st S1 ∧ y_mac S1 = y_mac S ∧ y_dr S1 tx [] p ∧ f + tx.length = 13 ∧ m = f ∧ y_s S1 5 = y_s S 5 ∧ y_fin (y_rtx f S1) (fun _ S' => ∀ D', y_s S' 5 = y_s S 5 → y_rf Q S' D' → K true D') (y_rT Q.1 (K false))) ?_ ?_
  · unfold w_mReadText_0
    rw [e23, show (((y_mac S).length : Nat) : Int).toNat = (y_mac S).length by omega]
    refine ⟨by omega, fun D2 e2 => ⟨by omega, fun D4 e4 => ⟨_, rfl, y_sdp (y_sa (y_sa S 4 (some [])) 5 (some [])) (some 0), 13, [], 0, ⟨?_, hr.2⟩, d1, rfl, d2, rfl, rfl, rfl, h⟩⟩⟩
    have h2 : y_ref Q (y_sa (y_sa S 4 (some [])) 5 (some [])) D2 := by rw [e2]; exact rf_d348 hr.1 ho
    have ho2 : y_ok st (y_sa (y_sa S 4 (some [])) 5 (some [])) := y_ok_ad (y_ok_ad ho (by decide) _) (by decide) _
    rw [e4]
    exact rf_d352 h2 ho2 (by decide)
  · rintro mm a D' ⟨rfl, S1, f, tx, p, hr1, ho1, hm1, hd1, hf, rfl, hs1, h⟩
    have ltx : tx.length ≤ 12 := hd1.2.2.2.1.1
    obtain ⟨f, rfl⟩ : ∃ g, mm = g + 1 := ⟨mm - 1, by omega⟩
    unfold y_rtx at h
    have fl : ∀ {S' : y_S} {D' : z_D}, y_rT Q.1 (K false) S' → y_rfw Q.1 S' D' → (z_r (-1)) ∧ (((-1 : Int) = (-1)) → K false D') ∧ ((¬ (-1 : Int) = (-1)) → K true D') := fun hT hw => ⟨z_rk rfl, fun _ => hT _ hw, fun z => absurd rfl z⟩
    refine c_mNeed hr1 ho1 (y_gt (yo_getT ho1) h (fun t0 S2 ⟨k1, k2, k3, _⟩ h D2 hr2 => ?_) (fun S' hT D2 hw => c_mPlain (z_rk rfl) (by
      have ep : y_pl (-1) = -1 := by decide
      rw [ep]
      exact ⟨z_rk rfl, fun _ => ⟨z_rk rfl, fun _ => hT D2 hw, fun z => absurd rfl z⟩, fun z => absurd rfl z⟩)))
    have hn := k1.2.2.2.2.2.2.2.2.2.2.2.2.2.2.2.2.2.2.2.1.2
    have htr := y_tr_r k3 hn
    have hut := y_un_tp k3 hn
    have hur := y_tp_r hut hn
    dsimp only at h
    have hd2 := y_dr_le hd1 (y_lg_le k2)
    have hdp : 0 ≤ p ∧ p ≤ 4 := hd2.2.2.2.2.2
    have hm2 : y_mac S2 = y_mac S := k2.2.1.trans hm1
    have i1 := y_ich hut hn 1 (by decide)
    have i2 := y_ich hut hn 2 (by decide)
    have i6 := y_ich hut hn 6 (by decide)
    -- the token is added
    have addt : ∀ (t q : Int) (S3 : y_S) (D3 : z_D), y_rf Q S3 D3 → y_ok st S3 → y_mac S3 = y_mac S → y_a S3 4 = some tx → y_a S3 5 = some [] → y_dp S3 = some q → y_tx (y_nn S3) tx p → q ≤ 4 → ((t = 8192 + q ∧ q = p + 1 ∧ 0 ≤ p) ∨ (y_tp (y_nn S3) t ∧ q = p)) → y_bs t = 0 → y_s S3 5 = y_s S 5 → y_fin (y_bd (y_addt t S3) (fun _ S3 => y_rtx f S3)) (fun _ S' => ∀ D', y_s S' 5 = y_s S 5 → y_rf Q S' D' → K true D') (y_rT Q.1 (K false)) → w_mReadText_168 n (d + 6) ((y_mac S).length : Int) (y_tr t) D3 (fun a D' => ∃ m, m < f + 1 ∧ a = ((y_mac S).length : Int) ∧ ∃ (S1 : y_S) (f : Nat) (tx : List Int) (p : Int), y_rf Q S1 D' ∧ y_ok st S1 ∧ y_mac S1 = y_mac S ∧ y_dr S1 tx [] p ∧ f + tx.length = 13 ∧ m = f ∧ y_s S1 5 = y_s S 5 ∧ y_fin (y_rtx f S1) (fun _ S' => ∀ D', y_s S' 5 = y_s S 5 → y_rf Q S' D' → K true D') (y_rT Q.1 (K false))) K T := by
      intro t q S3 D3 hr3 ho3 hm3 e4 e5 ep htx hq htq hbs hs3 h3
      have edt : y_dtx S3 = tx := by unfold y_dtx; rw [e4]; rfl
      unfold y_addt at h3
      rw [edt] at h3
      have hp := hr3.1.2.2.2.2.2.2.2.2.2.2.2.2.1 tx e4
      have e348 : D3.1 348 (y_mac S).length = (tx.length : Int) := by
        have := hp.1
        rw [List.length_map, hm3] at this
        exact this
      unfold w_mReadText_168
      rw [show (((y_mac S).length : Nat) : Int).toNat = (y_mac S).length by omega, e348]
      refine ⟨by omega, y_rs (by omega) (by omega), fun c => ⟨by omega, by omega, fun D5 e5' => ⟨by omega, by omega, fun D8 e8 => ?_⟩⟩, fun c => ?_⟩
      · rw [if_neg (by omega)] at h3
        rw [show Int.toNat (13 * ((y_mac S).length : Int) + (tx.length : Int)) = 13 * (y_mac S).length + tx.length by omega] at e5'
        have e58 : D5.1 348 (y_mac S).length = (tx.length : Int) := by rw [e5', y_uz_cell (by decide)]; exact e348
        rw [e58] at e8
        refine ⟨f, by omega, rfl, y_sa S3 4 (some (tx ++ [t])), f, tx ++ [t], q, ⟨?_, hr3.2⟩, y_ok_ad ho3 (by decide) _, hm3, ⟨rfl, e5, ep, y_tx_snoc htx (by omega) htq ho3.2.2.2.2.2.2.2.2.2.2.2.2.2.2.2.2.2.2.2.1.2 hbs, ⟨by simp, fun x hx => (by cases hx)⟩, by show 0 ≤ q; rcases htq with w | w <;> omega, hq⟩, by simp; omega, rfl, hs3, h3⟩
        rw [e8, e5', ← hm3]
        exact rf_dtx hr3.1 ho3 e4 t
      · rw [if_pos (by omega)] at h3
        exact c_stop hr3 (by decide) (by decide) (fun D9 hw => fl h3 hw)
    refine c_mPlain (y_rs (by omega) (by omega)) ?_
    rw [y_pl_tr k3 hn]
    have ht : y_tr (y_un t0) = y_un t0 := y_tr_tp hut hn
    refine ⟨y_rs (by omega) (by omega), fun z => by omega, fun _ => c_mIsCharacter (y_rs (by omega) (by omega)) (z_rk rfl) ⟨fun z1 => c_mIsCharacter (y_rs (by omega) (by omega)) (z_rk rfl) ⟨fun z6 => c_mIsCharacter (y_rs (by omega) (by omega)) (z_rk rfl) ⟨fun z2 => ?_, fun z2 => ?_⟩, fun z6 => ?_⟩, fun z1 => ?_⟩⟩
    · have n1 : ¬ y_un t0 / 256 = 1 := fun w => by rw [i1.mpr w] at z1; cases z1
      have n2 : ¬ y_un t0 / 256 = 2 := fun w => by rw [i2.mpr w] at z2; cases z2
      have n6 : ¬ y_un t0 / 256 = 6 := fun w => by rw [i6.mpr w] at z6; cases z6
      rw [if_neg n1, if_neg n2, if_neg n6] at h
      have key := addt (y_un t0) p S2 D2 hr2 k1 hm2 hd2.1 hd2.2.1 hd2.2.2.1 hd2.2.2.2.1 hdp.2 (Or.inr ⟨hut, rfl⟩) (by unfold y_bs; rw [if_neg n1, if_neg n2]) (k2.2.2.2.2.2.2.2.1.trans hs1) h
      rw [ht] at key
      exact key
    · have n1 : ¬ y_un t0 / 256 = 1 := fun w => by rw [i1.mpr w] at z1; cases z1
      rw [if_neg n1, if_pos (i2.mp z2)] at h
      exact c_stop hr2 (by decide) (by decide) (fun D9 hw => fl h hw)
    · have n1 : ¬ y_un t0 / 256 = 1 := fun w => by rw [i1.mpr w] at z1; cases z1
      have e6 := i6.mp z6
      rw [if_neg n1, if_neg (by omega), if_pos e6] at h
      have h' : y_fin (y_bd (y_get true S2) (fun g S3 => y_bd (if 4 < y_dpr S3 + 1 ∨ 4096 ≤ g ∨ g % 256 ≠ 48 + (y_dpr S3 + 1) then y_ft S3 4 else .inl (8192 + (y_dpr S3 + 1), y_sdp S3 (some (y_dpr S3 + 1)))) (fun t S2 => y_bd (y_addt t S2) (fun _ S3 => y_rtx f S3)))) (fun _ S' => ∀ D', y_s S' 5 = y_s S 5 → y_rf Q S' D' → K true D') (y_rT Q.1 (K false)) := by
        unfold y_par at h
        cases hg : y_get true S2 with
        | inl q => rw [hg] at h; exact h
        | inr q => rw [hg] at h; exact h
      refine c_mNeed hr2 k1 (y_gt (yo_getT k1) h' (fun g S3 ⟨b1, b2, b3, _⟩ h D3 hr3 => ?_) (fun S' hT D3 hw => ⟨z_rk rfl, fun w => absurd rfl w, fun _ => hT D3 hw⟩))
      have hn3 := b1.2.2.2.2.2.2.2.2.2.2.2.2.2.2.2.2.2.2.2.1.2
      have htr3 := y_tr_r b3 hn3
      have hnm3 := y_tr_name b3 hn3
      have hd3 := y_dr_le hd2 (y_lg_le b2)
      have edp : y_dpr S3 = p := by unfold y_dpr; rw [hd3.2.2.1]; rfl
      have hm3 : y_mac S3 = y_mac S := b2.2.1.trans hm2
      have e352 : D3.1 352 (y_mac S).length = p := by have := hr3.1.2.2.2.2.2.2.2.2.2.2.2.2.2.2.1 p hd3.2.2.1; rw [hm3] at this; exact this
      rw [edp] at h
      have bad4 : (4 < p + 1 ∨ 4096 ≤ g ∨ g % 256 ≠ 48 + (p + 1)) → w_mReadText_106 n (d + 6) D3 K T := by
        intro w
        rw [if_pos w] at h
        exact c_stop hr3 (by decide) (by decide) (fun D9 hw => fl h hw)
      refine ⟨y_rs (by omega) (by omega), fun _ => ⟨fun c => bad4 (Or.inr (Or.inl (by omega))), fun c => ⟨by omega, ?_⟩⟩, fun w => by omega⟩
      have eg : y_tr g = g := if_pos (by omega)
      rw [show (((y_mac S).length : Nat) : Int).toNat = (y_mac S).length by omega, e352, eg]
      have hgr := y_tk_r b3 hn3
      have hand : z_and g 255 = g % 256 := z_and255 (by omega) (by omega)
      rw [hand]
      refine ⟨y_rs (by omega) (by omega), fun c1 => bad4 (by omega), fun c1 => ⟨by omega, y_rs (by omega) (by omega), fun c2 => ⟨by omega, by omega, fun D28 e28 => ⟨by omega, ?_⟩⟩, fun c2 => bad4 (by omega)⟩⟩
      rw [if_neg (by omega)] at h
      have e282 : D28.1 352 (y_mac S).length = p + 1 := by rw [e28]; exact y_uz_same _ _ _ _
      have hr28 : y_rf Q (y_sdp S3 (some (p + 1))) D28 := ⟨by rw [e28, ← hm3]; exact rf_d352 hr3.1 b1 (by omega), hr3.2⟩
      rw [e282]
      have key := addt (8192 + (p + 1)) (p + 1) (y_sdp S3 (some (p + 1))) D28 hr28 (y_ok_dp b1 _) hm3 hd3.1 hd3.2.1 rfl hd3.2.2.2.1 (by omega) (Or.inl ⟨rfl, rfl, hdp.1⟩) (by unfold y_bs; rw [if_neg (by omega), if_neg (by omega)]) (b2.2.2.2.2.2.2.2.1.trans (k2.2.2.2.2.2.2.2.1.trans hs1)) h
      rw [show y_tr (8192 + (p + 1)) = 16384 + (p + 1) by unfold y_tr; rw [if_neg (by omega), if_pos (by omega)]; omega] at key
      exact key
    · rw [if_pos (i1.mp z1)] at h
      exact ⟨y_rs (by omega) (by omega), fun w => by omega, fun _ => h D2 (k2.2.2.2.2.2.2.2.1.trans hs1) hr2⟩
end RT
