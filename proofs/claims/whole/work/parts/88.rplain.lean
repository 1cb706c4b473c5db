/-! contracts of the reference: a plain argument -/
theorem y_peel_grp {ob u : Int} {ct : List Int} (hb : y_bs ob = 1) (hp : ∀ j, j < ct.length → 0 < y_sum ((ob :: ct).take (j + 2))) (hz : y_sum (ob :: ct) + y_bs u = 0) : y_peel (ob :: ct ++ [u]) = ct := by
  have hc := y_clos_drop (ct ++ [u]) 1 ct.length (by simp) (fun j hj => by
    have := hp j hj
    rw [List.take_append_of_le_length (by omega)]
    simp only [List.take_succ_cons, y_sum, hb] at this
    omega)
  rw [List.drop_left' rfl, List.take_left' rfl] at hc
  have hs : 1 + y_sum ct + y_bs u = 0 := by simp only [y_sum, hb] at hz; omega
  have h1 : y_clos [u] (1 + y_sum ct) = some 0 := if_pos hs
  rw [h1] at hc
  show y_peel (ob :: (ct ++ [u])) = ct
  unfold y_peel
  simp only
  rw [if_pos ⟨by simp, hb, by rw [hc]; simp⟩, List.dropLast_concat]
theorem y_sum_bnd (l : List Int) : -(l.length : Int) ≤ y_sum l ∧ y_sum l ≤ l.length := by
  induction l with
  | nil => simp [y_sum]
  | cons x y ih =>
    simp only [y_sum, List.length_cons]
    rcases y_bs_r x with z | z | z <;> omega
theorem y_bs1 {n : Nat} {u : Int} (h : y_tp n u) (hn : n ≤ 118) : (decide (0 ≤ u ∧ u < 4096 ∧ u / 256 = 1) = true ↔ y_bs u = 1) ∧ (decide (0 ≤ u ∧ u < 4096 ∧ u / 256 = 2) = true ↔ y_bs u = -1) := by
  have := y_tp_r h hn
  unfold y_bs
  simp only [decide_eq_true_eq]
  constructor
  · split
    · omega
    · split <;> omega
  · split
    · omega
    · split <;> omega
section RP
variable {n d : Nat} {Q : y_Q} {D : z_D} {st : Int} {S : y_S} {T : Nat → z_D → Prop}
theorem c_mAddU {p : Nat} {l : List Int} {t : Int} {K : z_D → Prop} (ht : y_tr t = t) (hr : y_ref (y_Qp Q p l) S D) (hp : p < 4) (hl : l.length ≤ 40) (h : ∀ D', y_ref (y_Qp Q p (l ++ [t])) S D' → K D') : z_c n (d + 1) 117 [.ref 336, .int (z_i (p : Int)), .int (z_i t)] D (z_qV K T) := by
  have key := c_mAdd (n := n) (d := d) (T := T) (t := t) hr hp hl h
  rw [ht] at key
  exact key
theorem c_plainArg {p i : Nat} {K : z_D → Prop} (hr : y_rf (y_Qp Q p []) S D) (ho : y_ok st S) (hp : p < 4) (hi : i < 61) (h : y_fin (y_take [] S) (fun l S' => ∀ D', y_rf (y_Qp Q p l) S' D' → K D') (y_rT Q.1 K)) : z_c n (d + 7) 118 [.ref 336, .int (z_i (p : Int)), .int (z_i (i : Int))] D (z_qV K T) := by
  have hmu := y_mu_r ho
  refine r_mPlainArgument
    (fun m a1 a2 t D' => a1 = (p : Int) ∧ a2 = (i : Int) ∧ ((∃ (S1 : y_S) (tk : Int) (f : Nat), t = y_tr tk ∧ y_rf (y_Qp Q p []) S1 D' ∧ y_ok st S1 ∧ y_tk (y_nn S1) tk ∧ y_mu S1 < f ∧ m = 100 + (y_mu S1).toNat ∧ y_fin (y_bd (y_blank f tk S1) (fun u S2 => y_arg [] false 40 [] 0 u S2)) (fun l S' => ∀ D', y_rf (y_Qp Q p l) S' D' → K D') (y_rT Q.1 K)) ∨ (t = -1 ∧ m = 0 ∧ ∃ S1, y_rf (y_Qp Q p []) S1 D' ∧ y_rT Q.1 K (y_ss S1 3 3)) ∨ (t = -1 ∧ m = 0 ∧ ∃ S', y_rfw Q.1 S' D' ∧ y_rT Q.1 K S')))
    (fun m a1 a2 dp num D' => a1 = (p : Int) ∧ a2 = (i : Int) ∧ ((∃ (S1 : y_S) (ob : Int) (ct : List Int), y_rf (y_Qp Q p ct) S1 D' ∧ y_ok st S1 ∧ dp = y_sum (ob :: ct) ∧ 1 ≤ dp ∧ num = (ct.length : Int) + 2 ∧ ct.length ≤ 39 ∧ y_bs ob = 1 ∧ (∀ j, j < ct.length → 0 < y_sum ((ob :: ct).take (j + 2))) ∧ m = 50 - ct.length ∧ y_fin (y_bd (y_get true S1) (fun u S2 => y_arg [] false (39 - ct.length) (ob :: ct) dp u S2)) (fun l S' => ∀ D', y_rf (y_Qp Q p l) S' D' → K D') (y_rT Q.1 K)) ∨ (dp = 0 ∧ z_r num ∧ m = 0 ∧ K D'))) ?_ ?_ ?_
  · unfold w_mPlainArgument_0
    unfold y_take at h
    refine c_mGet hr ho (y_needed (Tt := y_rT Q.1 K) ho (y_fbi h) (fun t S' k1 k2 k3 hK D' hr' => ⟨_, rfl, rfl, Or.inl ⟨S', t, 1000, rfl, hr', k1, k3, by have := y_mu_r k1; omega, rfl, ?_⟩⟩) (fun S' k1 k2 hT D' hr' => ⟨_, rfl, rfl, Or.inr (Or.inl ⟨by decide, rfl, S', hr', hT⟩)⟩) (fun S' hT D' hw => ⟨_, rfl, rfl, Or.inr (Or.inr ⟨rfl, rfl, S', hw, hT⟩)⟩))
    have hK : y_fin (y_bd (if ([] : List Int) = [] then y_blank 1000 t S' else .inl (t, S')) (fun t S2 => y_arg [] (decide ((4096 : Int) ∈ ([] : List Int))) 40 [] 0 t S2)) _ _ := hK
    rw [if_pos rfl] at hK
    exact hK
  · rintro mm a1 a2 t D' ⟨rfl, rfl, hmode⟩
    have badE : (t = -1 ∧ mm = 0 ∧ ∃ S1, y_rf (y_Qp Q p []) S1 D' ∧ y_rT Q.1 K (y_ss S1 3 3)) ∨ (t = -1 ∧ mm = 0 ∧ ∃ S', y_rfw Q.1 S' D' ∧ y_rT Q.1 K S') → z_c n (d + 6) 98 [.ref 336, .int (z_i 3)] D' (z_qI (fun v5 D4 => (z_r v5) ∧ ((¬ v5 = (-1)) → z_c n (d + 6) 110 [.int (z_i v5), .int (z_i 1)] D4 (z_qZ (fun v8 D7 => ((v8 = true) → False) ∧ ((v8 = false) → False)) T)) ∧ ((v5 = (-1)) → K D4)) T) := by
      rintro (⟨_, _, S1, h1, h2⟩ | ⟨_, _, S', h1, h2⟩)
      · exact c_stop h1 (by decide) (by decide) (fun D2 hw => ⟨z_rk rfl, fun z => absurd rfl z, fun _ => h2 D2 hw⟩)
      · exact c_stopW h1 (fun D2 hw => ⟨z_rk rfl, fun z => absurd rfl z, fun _ => h2 D2 hw⟩)
    rcases hmode with ⟨S1, tk, f, rfl, hr1, ho1, htk, hf, rfl, h⟩ | hbad
    · have hn := ho1.2.2.2.2.2.2.2.2.2.2.2.2.2.2.2.2.2.2.2.1.2
      have htr := y_tr_r htk hn
      have hut := y_un_tp htk hn
      have hur := y_tp_r hut hn
      have hmu1 := y_mu_r ho1
      refine c_mPlain (y_rs (by omega) (by omega)) ?_
      rw [y_pl_tr htk hn]
      have e92 : y_un tk = 2592 ↔ tk = 2592 := by
        unfold y_un
        split
        · rcases htk with z | z | z
          · have := y_ch_r z; omega
          · omega
          · omega
        · exact Iff.rfl
      refine ⟨y_rs (by omega) (by omega), fun c => ?_, fun c => ?_⟩
      · have h : y_fin (y_arg [] false 40 [] 0 tk S1) (fun l S' => ∀ D', y_rf (y_Qp Q p l) S' D' → K D') (y_rT Q.1 K) := by
          cases f with
          | zero => exact h
          | succ f => unfold y_blank at h; rw [if_neg (fun z => c (e92.mpr z))] at h; exact h
        unfold y_arg at h
        dsimp only at h
        have hb := y_bs1 hut hn
        have hbr := y_bs_r (y_un tk)
        have e1 : (1 : Int) = ((1 : Nat) : Int) := rfl
        have e0 : (0 : Int) = ((0 : Nat) : Int) := rfl
        have key := c_piece (n := n) (d := d + 2) (T := T) (i := i) (a := 0) (b := 0) (num := 1) (dp := 0) (q := ([], [], 0)) (t := tk) (K := fun v5 D4 => (z_r v5) ∧ ((¬ v5 = (-1)) → z_c n (d + 6) 110 [.int (z_i v5), .int (z_i 1)] D4 (z_qZ (fun v8 D7 => ((v8 = true) → ∃ m, m < 100 + (y_mu S1).toNat ∧ (p : Int) = (p : Int) ∧ (i : Int) = (i : Int) ∧ ((∃ (S1 : y_S) (ob : Int) (ct : List Int), y_rf (y_Qp Q p ct) S1 D7 ∧ y_ok st S1 ∧ (1 : Int) = y_sum (ob :: ct) ∧ (1 : Int) ≤ 1 ∧ (2 : Int) = (ct.length : Int) + 2 ∧ ct.length ≤ 39 ∧ y_bs ob = 1 ∧ (∀ j, j < ct.length → 0 < y_sum ((ob :: ct).take (j + 2))) ∧ m = 50 - ct.length ∧ y_fin (y_bd (y_get true S1) (fun u S2 => y_arg [] false (39 - ct.length) (ob :: ct) 1 u S2)) (fun l S' => ∀ D', y_rf (y_Qp Q p l) S' D' → K D') (y_rT Q.1 K)) ∨ ((1 : Int) = 0 ∧ z_r 2 ∧ m = 0 ∧ K D7))) ∧ ((v8 = false) → z_c n (d + 6) 117 [.ref 336, .int (z_i (p : Int)), .int (z_i v5)] D7 (z_qV (fun D9 => K D9) T))) T)) ∧ ((v5 = (-1)) → K D4)) hr1 ho1 htk (by decide) (by decide) (Or.inl rfl) hi (by decide) [] rfl (fun z => by omega) (fun _ z D4 hw => ⟨z_rk rfl, fun w => absurd rfl w, fun _ => ?_⟩) (fun _ z1 z D4 hw => ⟨z_rk rfl, fun w => absurd rfl w, fun _ => ?_⟩) (fun _ z1 z2 => ⟨y_rs (by omega) (by omega), fun _ => c_mIsCharacter (y_rs (by omega) (by omega)) (z_rk rfl) ⟨fun w => ?_, fun w => ?_⟩, fun w => by omega⟩)
        · exact key
        · rw [if_pos ⟨z.1, rfl⟩] at h
          exact h D4 hw
        · rw [if_neg (fun w => z1 ⟨w.1, by simp⟩), if_pos (by omega)] at h
          exact h D4 hw
        · have hb1 : y_bs (y_un tk) = 1 := hb.1.mp w
          rw [if_neg (fun w => z1 ⟨w.1, by simp⟩), if_neg (by omega), if_neg (fun w => by omega)] at h
          refine ⟨_, ?_, rfl, rfl, Or.inl ⟨S1, y_un tk, [], hr1, ho1, by simp [y_sum, hb1], by decide, by simp, by simp, hb1, fun j hj => by simp at hj, rfl, ?_⟩⟩
          · simp; omega
          · rw [hb1] at h
            exact h
        · have hb1 : ¬ y_bs (y_un tk) = 1 := fun z => by rw [hb.1.mpr z] at w; cases w
          have hb2 : ¬ y_bs (y_un tk) = -1 := fun z => z2 ⟨z, rfl⟩
          rw [if_neg (fun w => z1 ⟨w.1, by simp⟩), if_neg (by omega), if_pos ⟨by omega, by simp [List.isSuffixOf_iff_suffix]⟩] at h
          have ht : y_tr (y_un tk) = y_un tk := y_tr_tp hut hn
          refine c_mAddU (Q := Q) (l := []) (t := y_un tk) ht hr1.1 hp (by simp) (fun D9 hr9 => h D9 ⟨?_, hr1.2⟩)
          have : y_peel (([] ++ [y_un tk]).take (([] ++ [y_un tk]).length - ([] : List Int).length)) = [y_un tk] := by
            simp [y_peel]
          show y_ref (y_Qp Q p (y_peel (([] ++ [y_un tk]).take (([] ++ [y_un tk]).length - ([] : List Int).length)))) S1 D9
          rw [this]
          exact hr9
      · have c' := e92.mp c
        subst c'
        obtain ⟨f, rfl⟩ : ∃ g, f = g + 1 := ⟨f - 1, by omega⟩
        unfold y_blank at h
        rw [if_pos rfl] at h
        have h' : y_fin (y_bd (y_get true S1) (fun u S2 => y_bd (y_blank f u S2) (fun u S2 => y_arg [] false 40 [] 0 u S2))) (fun l S' => ∀ D', y_rf (y_Qp Q p l) S' D' → K D') (y_rT Q.1 K) := by
          cases hg : y_get true S1 with
          | inl q => rw [hg] at h; exact h
          | inr q => rw [hg] at h; exact h
        have hmg := yo_getT ho1
        have h2 := y_fm (K' := fun t S' => (y_mu S' < y_mu S1) ∧ y_fin (y_bd (y_blank f t S') (fun u S2 => y_arg [] false 40 [] 0 u S2)) (fun l S' => ∀ D', y_rf (y_Qp Q p l) S' D' → K D') (y_rT Q.1 K)) hmg (y_fbi h') (fun v S' a b => ⟨a.2.2.2, b⟩)
        refine c_mGet hr1 ho1 (y_needed (Tt := y_rT Q.1 K) ho1 h2 (fun t S' k1 k2 k3 hK D' hr' => ⟨_, ?_, rfl, rfl, Or.inl ⟨S', t, f, rfl, hr', k1, k3, ?_, rfl, hK.2⟩⟩) (fun S' k1 k2 hT D' hr' => ⟨0, by omega, rfl, rfl, Or.inr (Or.inl ⟨by decide, rfl, S', hr', hT⟩)⟩) (fun S' hT D' hw => ⟨0, by omega, rfl, rfl, Or.inr (Or.inr ⟨rfl, rfl, S', hw, hT⟩)⟩))
        · have := y_mu_r k1
          have := hK.1
          omega
        · have := hK.1
          omega
    · have et : t = -1 := by rcases hbad with z | z <;> exact z.1
      subst et
      refine c_mPlain (z_rk rfl) ?_
      have ep : y_pl (-1) = -1 := by decide
      rw [ep]
      refine ⟨z_rk rfl, fun _ => c_pieceE ?_, fun z => by omega⟩
      rcases hbad with ⟨_, _, S1, h1, h2⟩ | ⟨_, _, S', h1, h2⟩
      · exact c_stop h1 (by decide) (by decide) (fun D2 hw => ⟨z_rk rfl, fun z => absurd rfl z, fun _ => h2 D2 hw⟩)
      · exact c_stopW h1 (fun D2 hw => ⟨z_rk rfl, fun z => absurd rfl z, fun _ => h2 D2 hw⟩)
  · rintro mm a1 a2 dp num D' ⟨rfl, rfl, hmode⟩
    rcases hmode with ⟨S1, ob, ct, hr1, ho1, rfl, hd1, rfl, hct, hob, hpos, rfl, h⟩ | ⟨rfl, hnum, rfl, hK⟩
    · have hsb := y_sum_bnd (ob :: ct)
      have hlc : ((ob :: ct).length : Int) = ct.length + 1 := by simp
      refine ⟨y_rs (by omega) (by omega), fun c => by omega, fun c => ?_⟩
      refine c_mGet hr1 ho1 (y_needed (Tt := y_rT Q.1 K) ho1 (y_fbi h) (fun t S2 k1 k2 k3 hK D2 hr2 => ?_) (fun S' k1 k2 hT D2 hr2 => ?_) (fun S' hT D2 hw => ?_))
      · have hn := k1.2.2.2.2.2.2.2.2.2.2.2.2.2.2.2.2.2.2.2.1.2
        have htr := y_tr_r k3 hn
        have hut := y_un_tp k3 hn
        have hur := y_tp_r hut hn
        have hb := y_bs1 hut hn
        have hbr := y_bs_r (y_un t)
        have edp : y_sum (ob :: ct) = (((y_sum (ob :: ct)).toNat : Nat) : Int) := by omega
        have enum : (ct.length : Int) + 2 = ((ct.length + 2 : Nat) : Int) := by omega
        have ht : y_tr (y_un t) = y_un t := y_tr_tp hut hn
        -- behind the piece
        have go : ct.length + 2 ≤ 40 → ¬ (y_un t = 4096 ∧ (4096 : Int) ∉ ([] : List Int)) → ∀ s1, s1 = y_bs (y_un t) → w_mPlainArgument_125 n (d + 6) (p : Int) (i : Int) (y_un t) ((ct.length : Int) + 2) (y_sum (ob :: ct)) s1 D2 (fun a1 a2 dp num D' => ∃ m, m < 50 - ct.length ∧ a1 = (p : Int) ∧ a2 = (i : Int) ∧ ((∃ (S1 : y_S) (ob : Int) (ct : List Int), y_rf (y_Qp Q p ct) S1 D' ∧ y_ok st S1 ∧ dp = y_sum (ob :: ct) ∧ 1 ≤ dp ∧ num = (ct.length : Int) + 2 ∧ ct.length ≤ 39 ∧ y_bs ob = 1 ∧ (∀ j, j < ct.length → 0 < y_sum ((ob :: ct).take (j + 2))) ∧ m = 50 - ct.length ∧ y_fin (y_bd (y_get true S1) (fun u S2 => y_arg [] false (39 - ct.length) (ob :: ct) dp u S2)) (fun l S' => ∀ D', y_rf (y_Qp Q p l) S' D' → K D') (y_rT Q.1 K)) ∨ (dp = 0 ∧ z_r num ∧ m = 0 ∧ K D'))) K T := by
          intro hnum hnp s1 es
          subst es
          rw [show 39 - ct.length = (38 - ct.length) + 1 by omega] at hK
          unfold y_arg at hK
          dsimp only at hK
          rw [if_neg (fun w => hnp ⟨w.1, by simp⟩), if_neg (by omega)] at hK
          have esum : y_sum (ob :: (ct ++ [y_un t])) = y_sum (ob :: ct) + y_bs (y_un t) := by
            have := y_sum_app (ob :: ct) [y_un t]
            simp only [List.cons_append, y_sum] at this ⊢
            omega
          refine ⟨y_rs (by omega) (by omega), fun c1 => ?_, fun c1 => ?_⟩
          · have hz : y_sum (ob :: ct) + y_bs (y_un t) = 0 := by omega
            rw [if_pos ⟨hz, by simp [List.isSuffixOf_iff_suffix]⟩] at hK
            refine ⟨0, by omega, rfl, rfl, Or.inr ⟨by omega, y_rs (by omega) (by omega), rfl, hK D2 ⟨?_, hr2.2⟩⟩⟩
            have e : y_peel ((ob :: ct ++ [y_un t]).take ((ob :: ct ++ [y_un t]).length - ([] : List Int).length)) = ct := by
              rw [List.length_nil, Nat.sub_zero, List.take_length]
              exact y_peel_grp hob hpos hz
            show y_ref (y_Qp Q p (y_peel ((ob :: ct ++ [y_un t]).take ((ob :: ct ++ [y_un t]).length - ([] : List Int).length)))) S2 D2
            rw [e]
            exact hr2.1
          · rw [if_neg (fun w => by omega)] at hK
            refine c_mAddU (Q := Q) (l := ct) (t := y_un t) ht hr2.1 hp (by omega) (fun D9 hr9 => ?_)
            refine ⟨_, ?_, rfl, rfl, Or.inl ⟨S2, ob, ct ++ [y_un t], ⟨hr9, hr2.2⟩, k1, esum.symm, by omega, by simp; omega, by simp; omega, hob, fun j hj => ?_, rfl, ?_⟩⟩
            · simp; omega
            · by_cases hj2 : j < ct.length
              · have := hpos j hj2
                rw [show (ob :: (ct ++ [y_un t])) = (ob :: ct) ++ [y_un t] from rfl, List.take_append_of_le_length (by simp; omega)]
                exact this
              · have : j = ct.length := by simp at hj; omega
                subst this
                rw [List.take_of_length_le (by simp)]
                rw [esum]
                omega
            · rw [show 39 - (ct ++ [y_un t]).length = 38 - ct.length by rw [List.length_append, List.length_singleton]; omega]
              exact hK
        rw [edp, enum] at *
        refine c_piece (i := i) (a := 0) (b := 0) (num := ct.length + 2) (dp := (y_sum (ob :: ct)).toNat) (q := ([], [], 0)) hr2 k1 k3 (by omega) (by omega) (Or.inl rfl) hi (by decide) [] rfl (fun z D4 hw => ⟨z_rk rfl, fun w => absurd rfl w, fun _ => ?_⟩) (fun z1 z D4 hw => ⟨z_rk rfl, fun w => absurd rfl w, fun _ => ?_⟩) (fun _ _ z => by omega) (fun z1 z2 _ => ⟨y_rs (by omega) (by omega), fun _ => c_mIsCharacter (y_rs (by omega) (by omega)) (z_rk rfl) ⟨fun w => c_mIsCharacter (y_rs (by omega) (by omega)) (z_rk rfl) ⟨fun w2 => ?_, fun w2 => ?_⟩, fun w => ?_⟩, fun w => by omega⟩)
        · rw [show 39 - ct.length = 0 by omega] at hK
          exact hK D4 hw
        · rw [show 39 - ct.length = (38 - ct.length) + 1 by omega] at hK
          unfold y_arg at hK
          dsimp only at hK
          rw [if_pos ⟨z.1, rfl⟩] at hK
          exact hK D4 hw
        · have b1 : ¬ y_bs (y_un t) = 1 := fun z => by rw [hb.1.mpr z] at w; cases w
          have b2 : ¬ y_bs (y_un t) = -1 := fun z => by rw [hb.2.mpr z] at w2; cases w2
          exact go z1 z2 0 (by omega)
        · exact go z1 z2 (-1) (hb.2.mp w2).symm
        · exact go z1 z2 1 (hb.1.mp w).symm
      · have e : y_tr (-1) = -1 := by decide
        rw [e]
        exact c_pieceE (c_stop hr2 (by decide) (by decide) (fun D4 hw => ⟨z_rk rfl, fun z => absurd rfl z, fun _ => hT D4 hw⟩))
      · exact c_pieceE (c_stopW hw (fun D4 hw => ⟨z_rk rfl, fun z => absurd rfl z, fun _ => hT D4 hw⟩))
    · exact ⟨z_rk rfl, fun _ => hK, fun z => by omega⟩
end RP
