/-! contracts of the reference: an argument with tokens behind it -/
section RL
variable {n d : Nat} {Q : y_Q} {D : z_D} {st : Int} {S : y_S} {T : Nat → z_D → Prop}
theorem c_behind {p i a b : Nat} {q : List Int × List Int × Int} {acc : List Int} {K : Bool → z_D → Prop} (hr : y_ref (y_Qp Q p acc) S D) (ho : y_ok st S) (hp : p < 4) (hq : (y_mac S)[i]? = some q) (hab : a ≤ b) (hb : b ≤ q.1.length) (hacc : acc.length ≤ 40) (ht : ∀ x ∈ acc, y_tp (y_nn S) x) (h : K (((q.1.take b).drop a).isSuffixOf acc) D) : z_c n (d + 1) 115 [.ref 336, .int (z_i (p : Int)), .int (z_i (i : Int)), .int (z_i (a : Int)), .int (z_i (b : Int))] D (z_qZ K T) := by
  have hn := ho.2.2.2.2.2.2.2.2.2.2.2.2.2.2.2.2.2.2.2.1.2
  obtain ⟨m1, m2, m3, m4, m5, m6, m7⟩ := rf_mac hr ho hq
  have hl := m2.1.1
  obtain ⟨a1, a2, a3⟩ := rf_argAt hr hp (y_Qp_at Q p acc)
  have hlen : ((q.1.take b).drop a).length = b - a := by rw [List.length_drop, List.length_take]; omega
  have hsuf : ((q.1.take b).drop a).isSuffixOf acc = true ↔ (b - a ≤ acc.length ∧ ∀ k, k < b - a → acc[acc.length - (b - a) + k]? = q.1[a + k]?) := by
    rw [List.isSuffixOf_iff_suffix, List.suffix_iff_eq_drop, hlen]
    constructor
    · intro e
      have hle : b - a ≤ acc.length := by
        have := congrArg List.length e
        rw [hlen, List.length_drop] at this
        omega
      refine ⟨hle, fun k hk => ?_⟩
      have hg : ((q.1.take b).drop a)[k]? = (acc.drop (acc.length - (b - a)))[k]? := by rw [← e]
      rw [List.getElem?_drop, List.getElem?_drop, List.getElem?_take_of_lt (by omega)] at hg
      exact hg.symm
    · rintro ⟨hle, hk⟩
      apply List.ext_getElem?
      intro k
      by_cases c : k < b - a
      · rw [List.getElem?_drop, List.getElem?_drop, List.getElem?_take_of_lt (by omega)]
        exact (hk k c).symm
      · rw [List.getElem?_eq_none (by rw [hlen]; omega), List.getElem?_eq_none (by rw [List.length_drop]; omega)]
  refine r_mIsBehind (fun m x y z w s k D' => x = (p : Int) ∧ y = (i : Int) ∧ z = (a : Int) ∧ w = (b : Int) - a ∧ D' = D ∧ 0 ≤ k ∧ k ≤ (b : Int) - a ∧ m = ((b : Int) - a - k).toNat ∧ (s = true ↔ (b - a ≤ acc.length ∧ ∀ j : Nat, (j : Int) < k → acc[acc.length - (b - a) + j]? = q.1[a + j]?))) ?_ ?_
  · unfold w_mIsBehind_0
    rw [show (((p : Nat) : Int)).toNat = p by omega, a2]
    refine ⟨by omega, y_rs (by omega) (by omega), y_rs (by omega) (by omega), fun c => ⟨_, rfl, rfl, rfl, rfl, rfl, Int.le_refl _, by omega, rfl, ⟨fun z => (by cases z), fun z => by omega⟩⟩, fun c => ⟨_, rfl, rfl, rfl, rfl, rfl, Int.le_refl _, by omega, rfl, ⟨fun _ => ⟨by omega, fun j hj => by omega⟩, fun _ => rfl⟩⟩⟩
  · rintro mm x y z w s k D' ⟨rfl, rfl, rfl, rfl, rfl, k0, k1, rfl, hs⟩
    have fin : (s = true → (b : Int) - a ≤ k) → K s D' := by
      intro hk
      have : s = ((q.1.take b).drop a).isSuffixOf acc := by
        cases s with
        | true =>
          have g := hs.mp rfl
          have gk := hk rfl
          exact (hsuf.mpr ⟨g.1, fun j hj => g.2 j (by omega)⟩).symm
        | false =>
          cases e : ((q.1.take b).drop a).isSuffixOf acc with
          | false => rfl
          | true =>
            have g := hsuf.mp e
            have := hs.mpr ⟨g.1, fun j hj => g.2 j (by omega)⟩
            cases this
      rw [this]
      exact h
    unfold w_mIsBehind_27
    rw [show (((p : Nat) : Int)).toNat = p by omega, a2]
    refine ⟨y_rs (by omega) (by omega), y_rs (by omega) (by omega), fun c => fin (fun _ => c), fun c => ⟨fun z => fin (fun w => by rw [z] at w; cases w), fun z => ?_⟩⟩
    have g := hs.mp z
    have hk1 : acc.length - (b - a) + k.toNat < acc.length := by omega
    have hk2 : a + k.toNat < q.1.length := by omega
    have e1 : D'.1 360 (Int.toNat ((((42 * (p : Int)) + (acc.length : Int)) - ((b : Int) - a)) + k)) = y_tr acc[acc.length - (b - a) + k.toNat] := by
      rw [show Int.toNat ((((42 * (p : Int)) + (acc.length : Int)) - ((b : Int) - a)) + k) = 42 * p + (acc.length - (b - a) + k.toNat) by omega]
      exact a3 _ hk1
    have e2 := m6 (a + k.toNat) hk2
    have e2' : D'.1 349 (Int.toNat (((13 * (i : Int)) + (a : Int)) + k)) = y_tr q.1[a + k.toNat] := by
      rw [show Int.toNat (((13 * (i : Int)) + (a : Int)) + k) = 13 * i + (a + k.toNat) by omega]
      exact e2.1
    rw [e1, e2']
    have t1 : y_tq (y_nn S) acc[acc.length - (b - a) + k.toNat] := Or.inr (ht _ (List.getElem_mem hk1))
    have q1 := y_tq_tr t1 hn
    have q2 := y_tq_tr e2.2 hn
    have inj := y_tq_inj t1 e2.2 hn
    have go : ∀ s' : Bool, (s' = true ↔ acc[acc.length - (b - a) + k.toNat] = q.1[a + k.toNat]) → ∃ m, m < ((b : Int) - a - k).toNat ∧ (p : Int) = (p : Int) ∧ (i : Int) = (i : Int) ∧ (a : Int) = (a : Int) ∧ (b : Int) - a = (b : Int) - a ∧ D' = D' ∧ 0 ≤ k + 1 ∧ k + 1 ≤ (b : Int) - a ∧ m = ((b : Int) - a - (k + 1)).toNat ∧ (s' = true ↔ (b - a ≤ acc.length ∧ ∀ j : Nat, (j : Int) < k + 1 → acc[acc.length - (b - a) + j]? = q.1[a + j]?)) := by
      intro s' hs'
      refine ⟨_, ?_, rfl, rfl, rfl, rfl, rfl, by omega, by omega, rfl, ⟨fun w => ⟨g.1, fun j hj => ?_⟩, fun w => hs'.mpr ?_⟩⟩
      · omega
      · by_cases hj2 : (j : Int) < k
        · exact g.2 j hj2
        · have : j = k.toNat := by omega
          rw [this, List.getElem?_eq_getElem hk1, List.getElem?_eq_getElem hk2]
          exact congrArg some (hs'.mp w)
      · have := w.2 k.toNat (by omega)
        rw [List.getElem?_eq_getElem hk1, List.getElem?_eq_getElem hk2] at this
        exact Option.some.inj this
    exact ⟨by omega, by omega, by omega, y_rs (by omega) (by omega), y_rs (by omega) (by omega), fun c3 => go false ⟨fun w => (by cases w), fun w => absurd (by rw [w]) c3⟩, fun c3 => go true ⟨fun _ => inj c3, fun _ => rfl⟩⟩
set_option maxHeartbeats 1000000 in
theorem c_longArg {p i a b : Nat} {q : List Int × List Int × Int} {K : z_D → Prop} (hr : y_rf (y_Qp Q p []) S D) (ho : y_ok st S) (hp : p < 4) (hq : (y_mac S)[i]? = some q) (hab : a < b) (hb : b ≤ q.1.length) (h : y_fin (y_take ((q.1.take b).drop a) S) (fun l S' => ∀ D', y_rf (y_Qp Q p l) S' D' → K D') (y_rT Q.1 K)) : z_c n (d + 7) 119 [.ref 336, .int (z_i (p : Int)), .int (z_i (i : Int)), .int (z_i (a : Int)), .int (z_i (b : Int))] D (z_qV K T) := by
  have hkm := ho.2.2.2.2.2.2.2.2.2.2.2.2.2.2.2.2.2.2.2.2.2.2.1 q (List.mem_of_getElem? hq)
  have hl12 := hkm.1.1
  have hi60 : i < 60 := by
    have := (List.getElem?_eq_some_iff.mp hq).1
    have o22 : (y_mac S).length ≤ 60 := ho.2.2.2.2.2.2.2.2.2.2.2.2.2.2.2.2.2.2.2.2.2.1
    omega
  have hdl : ((q.1.take b).drop a).length = b - a := by rw [List.length_drop, List.length_take]; omega
  have hbs : ∀ x ∈ (q.1.take b).drop a, y_bs x = 0 := fun x hx => hkm.1.2.2.2 x (List.mem_of_mem_take (List.mem_of_mem_drop hx))
  have hne : (q.1.take b).drop a ≠ [] := fun e => by rw [e] at hdl; simp at hdl; omega
  unfold y_take at h
  simp only [if_neg hne, y_bd_inl] at h
  generalize hdle : (q.1.take b).drop a = dl at *
  refine r_mLongArgument
    (fun m x y z w dp dn num D' => x = (p : Int) ∧ y = (i : Int) ∧ z = (a : Int) ∧ w = (b : Int) ∧ ((dn = false ∧ ∃ (S1 : y_S) (acc : List Int), y_rf (y_Qp Q p acc) S1 D' ∧ y_ok st S1 ∧ y_mac S1 = y_mac S ∧ dp = y_sum acc ∧ 0 ≤ dp ∧ num = (acc.length : Int) + 1 ∧ acc.length ≤ 40 ∧ (∀ x ∈ acc, y_tp (y_nn S1) x) ∧ m = 300 - acc.length ∧ y_fin (y_bd (y_get true S1) (fun u S2 => y_arg dl (decide ((4096 : Int) ∈ dl)) (40 - acc.length) acc dp u S2)) (fun l S' => ∀ D', y_rf (y_Qp Q p l) S' D' → K D') (y_rT Q.1 K)) ∨ (dn = true ∧ m = 200 ∧ ∃ (S1 : y_S) (acc : List Int), y_rf (y_Qp Q p acc) S1 D' ∧ y_ok st S1 ∧ acc.length ≤ 40 ∧ dl.length ≤ acc.length ∧ (∀ x ∈ acc, y_tp (y_nn S1) x) ∧ y_sum (acc.take (acc.length - dl.length)) = 0 ∧ ∀ D', y_rf (y_Qp Q p (y_peel (acc.take (acc.length - dl.length)))) S1 D' → K D')))
    (fun m x n1 k op D' => x = (p : Int) ∧ ∃ (S1 : y_S) (l : List Int), y_rf (y_Qp Q p l) S1 D' ∧ y_ok st S1 ∧ n1 = (l.length : Int) ∧ 2 ≤ l.length ∧ l.length ≤ 40 ∧ (∀ x ∈ l, y_tp (y_nn S1) x) ∧ y_sum l = 0 ∧ y_bs (l[0]?.getD 0) = 1 ∧ 0 ≤ k ∧ k < l.length ∧ op = y_sum (l.take k.toNat) ∧ (∀ j : Nat, 1 ≤ j → j ≤ k.toNat → 0 < y_sum (l.take j)) ∧ m = 150 - k.toNat ∧ ∀ D', y_rf (y_Qp Q p (y_peel l)) S1 D' → K D')
    (fun m x n1 k D' => x = (p : Int) ∧ ∃ (S1 : y_S) (t : Int) (l : List Int), n1 = (l.length : Int) + 2 ∧ l.length ≤ 38 ∧ 1 ≤ k ∧ k ≤ (l.length : Int) + 1 ∧ y_rf (y_Qn Q p) S1 D' ∧ D'.1 361 p = (l.length : Int) + 2 ∧ (∀ j : Nat, (j : Int) < k - 1 → D'.1 360 (42 * p + j) = y_tr (l[j]?.getD 0)) ∧ (∀ j : Nat, k - 1 ≤ (j : Int) → j < l.length → D'.1 360 (42 * p + j + 1) = y_tr (l[j]?.getD 0)) ∧ m = 60 - k.toNat ∧ ∀ D', y_rf (y_Qp Q p l) S1 D' → K D') ?_ ?_ ?_ ?_
  · exact ⟨_, rfl, rfl, rfl, rfl, Or.inl ⟨rfl, S, [], hr, ho, rfl, rfl, Int.le_refl _, by simp, by simp, fun x hx => (by cases hx), rfl, h⟩⟩
  · rintro mm x y z w dp dn num D' ⟨rfl, rfl, rfl, rfl, hmode⟩
    rcases hmode with ⟨rfl, S1, acc, hr1, ho1, hm1, rfl, s0, rfl, hacc, htp, rfl, h⟩ | ⟨rfl, rfl, S1, acc, hr1, ho1, hacc, hdla, htp, hsum, hK⟩
    · refine ⟨fun z => (by cases z), fun _ => ?_⟩
      have hsb := y_sum_bnd acc
      refine c_mGet hr1 ho1 (y_needed (Tt := y_rT Q.1 K) ho1 (y_fbi h) (fun t S2 k1 k2 k3 hK D2 hr2 => ?_) (fun S' k1 k2 hT D2 hr2 => ?_) (fun S' hT D2 hw => ?_))
      · have hn := k1.2.2.2.2.2.2.2.2.2.2.2.2.2.2.2.2.2.2.2.1.2
        have htr := y_tr_r k3 hn
        have hut := y_un_tp k3 hn
        have hur := y_tp_r hut hn
        have hbb := y_bs1 hut hn
        have hbr := y_bs_r (y_un t)
        have ht : y_tr (y_un t) = y_un t := y_tr_tp hut hn
        have hm2 : y_mac S2 = y_mac S := k2.2.1.trans hm1
        have hq2 : (y_mac S2)[i]? = some q := by rw [hm2]; exact hq
        have hall : ∀ x ∈ acc ++ [y_un t], y_tp (y_nn S2) x := y_all_snoc (fun x hx => y_tp_le (htp x hx) k2.1) hut
        have hlen : (acc ++ [y_un t]).length = acc.length + 1 := by simp
        have esum : y_sum (acc ++ [y_un t]) = y_sum acc + y_bs (y_un t) := by rw [y_sum_app]; simp [y_sum]
        have edp : y_sum acc = (((y_sum acc).toNat : Nat) : Int) := by omega
        have enum : (acc.length : Int) + 1 = ((acc.length + 1 : Nat) : Int) := by omega
        have go : acc.length + 1 ≤ 40 → ¬ (y_un t = 4096 ∧ (4096 : Int) ∉ dl) → ¬ (y_bs (y_un t) = -1 ∧ (y_sum acc).toNat = 0) → ∀ s1, s1 = y_bs (y_un t) → ∀ D18, y_ref (y_Qp Q p (acc ++ [y_un t])) S2 D18 → w_mLongArgument_79 n (d + 6) (p : Int) (i : Int) (a : Int) (b : Int) ((acc.length : Int) + 1) (y_sum acc) s1 D18 (fun x y z w dp dn num D' => ∃ m, m < 300 - acc.length ∧ x = (p : Int) ∧ y = (i : Int) ∧ z = (a : Int) ∧ w = (b : Int) ∧ ((dn = false ∧ ∃ (S1 : y_S) (acc : List Int), y_rf (y_Qp Q p acc) S1 D' ∧ y_ok st S1 ∧ y_mac S1 = y_mac S ∧ dp = y_sum acc ∧ 0 ≤ dp ∧ num = (acc.length : Int) + 1 ∧ acc.length ≤ 40 ∧ (∀ x ∈ acc, y_tp (y_nn S1) x) ∧ m = 300 - acc.length ∧ y_fin (y_bd (y_get true S1) (fun u S2 => y_arg dl (decide ((4096 : Int) ∈ dl)) (40 - acc.length) acc dp u S2)) (fun l S' => ∀ D', y_rf (y_Qp Q p l) S' D' → K D') (y_rT Q.1 K)) ∨ (dn = true ∧ m = 200 ∧ ∃ (S1 : y_S) (acc : List Int), y_rf (y_Qp Q p acc) S1 D' ∧ y_ok st S1 ∧ acc.length ≤ 40 ∧ dl.length ≤ acc.length ∧ (∀ x ∈ acc, y_tp (y_nn S1) x) ∧ y_sum (acc.take (acc.length - dl.length)) = 0 ∧ ∀ D', y_rf (y_Qp Q p (y_peel (acc.take (acc.length - dl.length)))) S1 D' → K D'))) K T := by
          intro hnum hnp hnb s1 es D18 hr18
          subst es
          rw [show 40 - acc.length = (39 - acc.length) + 1 by omega] at hK
          unfold y_arg at hK
          dsimp only at hK
          rw [if_neg (fun w => hnp ⟨w.1, of_decide_eq_false w.2⟩), if_neg (by omega)] at hK
          have more : ¬ (y_sum acc + y_bs (y_un t) = 0 ∧ dl.isSuffixOf (acc ++ [y_un t]) = true) → ∀ D20, y_ref (y_Qp Q p (acc ++ [y_un t])) S2 D20 → ∃ m, m < 300 - acc.length ∧ (p : Int) = (p : Int) ∧ (i : Int) = (i : Int) ∧ (a : Int) = (a : Int) ∧ (b : Int) = (b : Int) ∧ ((false = false ∧ ∃ (S1 : y_S) (acc1 : List Int), y_rf (y_Qp Q p acc1) S1 D20 ∧ y_ok st S1 ∧ y_mac S1 = y_mac S ∧ y_sum acc + y_bs (y_un t) = y_sum acc1 ∧ 0 ≤ y_sum acc + y_bs (y_un t) ∧ (acc.length : Int) + 1 + 1 = (acc1.length : Int) + 1 ∧ acc1.length ≤ 40 ∧ (∀ x ∈ acc1, y_tp (y_nn S1) x) ∧ m = 300 - acc1.length ∧ y_fin (y_bd (y_get true S1) (fun u S2 => y_arg dl (decide ((4096 : Int) ∈ dl)) (40 - acc1.length) acc1 (y_sum acc + y_bs (y_un t)) u S2)) (fun l S' => ∀ D', y_rf (y_Qp Q p l) S' D' → K D') (y_rT Q.1 K)) ∨ (false = true ∧ m = 200 ∧ ∃ (S1 : y_S) (acc : List Int), y_rf (y_Qp Q p acc) S1 D20 ∧ y_ok st S1 ∧ acc.length ≤ 40 ∧ dl.length ≤ acc.length ∧ (∀ x ∈ acc, y_tp (y_nn S1) x) ∧ y_sum (acc.take (acc.length - dl.length)) = 0 ∧ ∀ D', y_rf (y_Qp Q p (y_peel (acc.take (acc.length - dl.length)))) S1 D' → K D')) := by
            intro hno D20 hr20
            rw [if_neg hno] at hK
            refine ⟨_, ?_, rfl, rfl, rfl, rfl, Or.inl ⟨rfl, S2, acc ++ [y_un t], ⟨hr20, hr2.2⟩, k1, hm2, esum.symm, by omega, by rw [hlen]; omega, by omega, hall, rfl, ?_⟩⟩
            · omega
            · rw [show 40 - (acc ++ [y_un t]).length = 39 - acc.length by omega]
              exact hK
          refine ⟨y_rs (by omega) (by omega), fun c => more (fun w => c w.1) D18 hr18, fun c => c_behind hr18 k1 hp hq2 (by omega) hb (by omega) hall ?_⟩
          rw [hdle]
          refine ⟨fun z => more (fun w => by rw [w.2] at z; cases z) D18 hr18, fun z => ?_⟩
          rw [if_pos ⟨c, z⟩] at hK
          have hsf := List.isSuffixOf_iff_suffix.mp z
          have hdl2 := hsf.length_le
          have hsum : y_sum ((acc ++ [y_un t]).take ((acc ++ [y_un t]).length - dl.length)) = 0 := by
            obtain ⟨x, hx⟩ := hsf
            have e1 : (acc ++ [y_un t]).take ((acc ++ [y_un t]).length - dl.length) = x := by
              rw [← hx, List.length_append, Nat.add_sub_cancel, List.take_left' rfl]
            rw [e1]
            have e2 : y_sum (x ++ dl) = 0 := by rw [hx, esum]; exact c
            rw [y_sum_app, y_sum0 hbs] at e2
            omega
          exact ⟨200, by omega, rfl, rfl, rfl, rfl, Or.inr ⟨rfl, rfl, S2, acc ++ [y_un t], ⟨hr18, hr2.2⟩, k1, by omega, hdl2, hall, hsum, hK⟩⟩
        rw [edp, enum]
        refine c_piece (i := i) (a := a) (b := b) (num := acc.length + 1) (dp := (y_sum acc).toNat) (q := q) hr2 k1 k3 (by omega) (by omega) (Or.inr ⟨hq2, by omega, hb⟩) (by omega) (by omega) dl (by rw [if_neg (by omega), hdle]) (fun z D4 hw => ⟨z_rk rfl, fun w => absurd rfl w, fun _ => ?_⟩) (fun z1 z D4 hw => ⟨z_rk rfl, fun w => absurd rfl w, fun _ => ?_⟩) (fun z1 z2 z D4 hw => ⟨z_rk rfl, fun w => absurd rfl w, fun _ => ?_⟩) (fun z1 z2 z3 => ⟨y_rs (by omega) (by omega), fun _ => c_mAddU (Q := Q) (l := acc) ht hr2.1 hp hacc (fun D18 hr18 => c_mIsCharacter (y_rs (by omega) (by omega)) (z_rk rfl) ⟨fun w => c_mIsCharacter (y_rs (by omega) (by omega)) (z_rk rfl) ⟨fun w2 => ?_, fun w2 => ?_⟩, fun w => ?_⟩), fun w => by omega⟩)
        · rw [show 40 - acc.length = 0 by omega] at hK
          exact hK D4 hw
        · rw [show 40 - acc.length = (39 - acc.length) + 1 by omega] at hK
          unfold y_arg at hK
          dsimp only at hK
          rw [if_pos ⟨z.1, decide_eq_false z.2⟩] at hK
          exact hK D4 hw
        · rw [show 40 - acc.length = (39 - acc.length) + 1 by omega] at hK
          unfold y_arg at hK
          dsimp only at hK
          rw [if_neg (fun w => z2 ⟨w.1, of_decide_eq_false w.2⟩), if_pos (by omega)] at hK
          exact hK D4 hw
        · have b1 : ¬ y_bs (y_un t) = 1 := fun z => by rw [hbb.1.mpr z] at w; cases w
          have b2 : ¬ y_bs (y_un t) = -1 := fun z => by rw [hbb.2.mpr z] at w2; cases w2
          have := go z1 z2 z3 0 (by omega) D18 hr18
          rw [← edp]
          exact this
        · have := go z1 z2 z3 (-1) (hbb.2.mp w2).symm D18 hr18
          rw [← edp]
          exact this
        · have := go z1 z2 z3 1 (hbb.1.mp w).symm D18 hr18
          rw [← edp]
          exact this
      · have e : y_tr (-1) = -1 := by decide
        rw [e]
        exact c_pieceE (c_stop hr2 (by decide) (by decide) (fun D4 hw => ⟨z_rk rfl, fun z => absurd rfl z, fun _ => hT D4 hw⟩))
      · exact c_pieceE (c_stopW hw (fun D4 hw => ⟨z_rk rfl, fun z => absurd rfl z, fun _ => hT D4 hw⟩))
    · refine ⟨fun _ => ?_, fun z => (by cases z)⟩
      obtain ⟨g1, g2, g3⟩ := rf_argAt hr1.1 hp (y_Qp_at Q p acc)
      obtain ⟨_, hpa⟩ := hr1.1.2.2.2.2.2.2.2.2.2.2.2.2.2.2.2.1 p acc hp (y_Qp_at Q p acc)
      have hn := ho1.2.2.2.2.2.2.2.2.2.2.2.2.2.2.2.2.2.2.2.1.2
      rw [show (((p : Nat) : Int)).toNat = p by omega, g2]
      refine ⟨by omega, by omega, fun D3 e3 => ⟨by omega, ?_⟩⟩
      rw [show (acc.length : Int) - ((b : Int) - a) = ((acc.length - dl.length : Nat) : Int) by omega] at e3
      generalize hl : acc.take (acc.length - dl.length) = l at *
      have hll : l.length = acc.length - dl.length := by rw [← hl, List.length_take]; omega
      have htl : ∀ x ∈ l, y_tp (y_nn S1) x := fun x hx => htp x (by rw [← hl] at hx; exact List.mem_of_mem_take hx)
      have hr3 : y_rf (y_Qp Q p l) S1 D3 := by
        refine ⟨?_, hr1.2⟩
        have e : D3 = (D3.1, D'.2) := by rw [e3]; rfl
        rw [e, ← y_Qp2 Q p acc]
        refine rf_arg hr1.1 hp (fun c c1 c2 => by rw [e3, y_uz_cell c2]) (fun j hj => by rw [e3, y_uz_cell (by decide)]) (fun j hj => by rw [e3, y_uz_slot hj]) ⟨by rw [e3, y_uz_same, List.length_map, hll], fun j hj => ?_⟩ (by omega)
        rw [List.length_map] at hj
        rw [e3, y_uz_cell (by decide), hpa.2 j (by rw [List.length_map]; omega), ← hl, List.map_take, List.getElem?_take_of_lt (by omega)]
      have e361 : D3.1 361 p = (l.length : Int) := by rw [e3, y_uz_same, hll]
      obtain ⟨f1, f2, f3⟩ := rf_argAt hr3.1 hp (y_Qp_at Q p l)
      rw [e361]
      refine ⟨y_rs (by omega) (by omega), fun c => hK D3 ?_, fun c => ⟨by omega, ?_⟩⟩
      · have : y_peel l = l := by
          unfold y_peel
          split
          · rw [if_neg (by omega)]
          · rfl
        rw [this]
        exact hr3
      · obtain ⟨t, r, rfl⟩ : ∃ t r, l = t :: r := by
          cases l with
          | nil => simp at c
          | cons t r => exact ⟨t, r, rfl⟩
        have e0 : D3.1 360 (Int.toNat (42 * (p : Int))) = t := by
          have := f3 0 (by simp)
          rw [show Int.toNat (42 * (p : Int)) = 42 * p + 0 by omega, this]
          exact y_tr_tp (htl t (by simp)) hn
        have htt := htl t (by simp)
        have hrt := y_tp_r htt hn
        have hbb := y_bs1 htt hn
        rw [e0]
        refine c_mIsCharacter (y_rs (by omega) (by omega)) (z_rk rfl) ⟨fun w => ⟨150, by omega, rfl, S1, t :: r, hr3, ho1, rfl, by omega, by omega, htl, hsum, hbb.1.mp w, Int.le_refl _, by omega, rfl, fun j j1 j2 => by simp at j2; omega, rfl, hK⟩, fun w => hK D3 ?_⟩
        have : y_peel (t :: r) = t :: r := by
          unfold y_peel
          simp only
          rw [if_neg (fun z => by rw [hbb.1.mpr z.2.1] at w; cases w)]
        rw [this]
        exact hr3
  · rintro mm x n1 k op D' ⟨rfl, S1, l, hr1, ho1, rfl, l2, l40, htl, hsum, hb0, k0, k1, rfl, hpos, rfl, hK⟩
    have hn := ho1.2.2.2.2.2.2.2.2.2.2.2.2.2.2.2.2.2.2.2.1.2
    obtain ⟨f1, f2, f3⟩ := rf_argAt hr1.1 hp (y_Qp_at Q p l)
    have hkl : k.toNat < l.length := by omega
    have htk := htl _ (List.getElem_mem hkl)
    have hrk := y_tp_r htk hn
    have hbb := y_bs1 htk hn
    have hbr := y_bs_r l[k.toNat]
    have e360 : D'.1 360 (Int.toNat ((42 * (p : Int)) + k)) = l[k.toNat] := by
      rw [show Int.toNat ((42 * (p : Int)) + k) = 42 * p + k.toNat by omega, f3 _ hkl]
      exact y_tr_tp htk hn
    have es := y_sum_take1 l hkl
    have hsb := y_sum_bnd (l.take k.toNat)
    have hltk : (l.take k.toNat).length = k.toNat := by rw [List.length_take]; omega
    unfold w_mLongArgument_162
    rw [e360]
    have go : ∀ s1, s1 = y_bs l[k.toNat] → w_mLongArgument_205 n (d + 6) (p : Int) (l.length : Int) k (y_sum (l.take k.toNat)) s1 D' (fun x n1 k1 op D' => ∃ m, m < 150 - k.toNat ∧ x = (p : Int) ∧ ∃ (S1 : y_S) (l : List Int), y_rf (y_Qp Q p l) S1 D' ∧ y_ok st S1 ∧ n1 = (l.length : Int) ∧ 2 ≤ l.length ∧ l.length ≤ 40 ∧ (∀ x ∈ l, y_tp (y_nn S1) x) ∧ y_sum l = 0 ∧ y_bs (l[0]?.getD 0) = 1 ∧ 0 ≤ k1 ∧ k1 < l.length ∧ op = y_sum (l.take k1.toNat) ∧ (∀ j : Nat, 1 ≤ j → j ≤ k1.toNat → 0 < y_sum (l.take j)) ∧ m = 150 - k1.toNat ∧ ∀ D', y_rf (y_Qp Q p (y_peel l)) S1 D' → K D') (fun x n1 k1 D' => ∃ m, m < 150 - k.toNat ∧ x = (p : Int) ∧ ∃ (S1 : y_S) (t : Int) (l : List Int), n1 = (l.length : Int) + 2 ∧ l.length ≤ 38 ∧ 1 ≤ k1 ∧ k1 ≤ (l.length : Int) + 1 ∧ y_rf (y_Qn Q p) S1 D' ∧ D'.1 361 p = (l.length : Int) + 2 ∧ (∀ j : Nat, (j : Int) < k1 - 1 → D'.1 360 (42 * p + j) = y_tr (l[j]?.getD 0)) ∧ (∀ j : Nat, k1 - 1 ≤ (j : Int) → j < l.length → D'.1 360 (42 * p + j + 1) = y_tr (l[j]?.getD 0)) ∧ m = 60 - k1.toNat ∧ ∀ D', y_rf (y_Qp Q p l) S1 D' → K D') K T := by
      intro s1 e1
      subst e1
      refine ⟨y_rs (by omega) (by omega), fun c => ?_, fun c => ⟨y_rs (by omega) (by omega), y_rs (by omega) (by omega), fun c1 => hK D' ?_, fun c1 => ?_⟩⟩
      · have hk1 : k + 1 < l.length := by
          by_cases z : k + 1 < l.length
          · exact z
          · have : k.toNat + 1 = l.length := by omega
            rw [this, List.take_length] at es
            omega
        refine ⟨_, ?_, rfl, S1, l, hr1, ho1, rfl, l2, l40, htl, hsum, hb0, by omega, hk1, ?_, fun j j1 j2 => ?_, rfl, hK⟩
        · omega
        · rw [show (k + 1).toNat = k.toNat + 1 by omega, es]
        · by_cases hj : j ≤ k.toNat
          · exact hpos j j1 hj
          · have : j = k.toNat + 1 := by omega
            rw [this, es]
            exact c
      all_goals
        obtain ⟨t, r, rfl⟩ : ∃ t r, l = t :: r := by
          cases l with
          | nil => simp at l2
          | cons t r => exact ⟨t, r, rfl⟩
        have hbt : y_bs t = 1 := hb0
        have hkk : 1 ≤ k.toNat := by
          by_cases z : k.toNat = 0
          · have e0 : (t :: r)[k.toNat] = t := by simp only [z]; rfl
            rw [e0, hbt] at c
            rw [z] at c
            simp [y_sum] at c
          · omega
        have hz : y_sum ((t :: r).take k.toNat) + y_bs (t :: r)[k.toNat] = 0 := by
          have := hpos k.toNat hkk (Nat.le_refl _)
          omega
        have hrl : r.length + 1 = (t :: r).length := by simp
        have hkr : k.toNat - 1 < r.length := by simp at hkl; omega
        have hc := y_clos_drop r 1 (k.toNat - 1) (by omega) (fun j hj => by
          have := hpos (j + 2) (by omega) (by omega)
          simp only [List.take_succ_cons, y_sum, hbt] at this
          omega)
        have ers : 1 + y_sum (r.take (k.toNat - 1)) = y_sum ((t :: r).take k.toNat) := by
          rw [show k.toNat = (k.toNat - 1) + 1 by omega, List.take_succ_cons]
          simp only [y_sum, hbt, Nat.add_sub_cancel]
        have erk : r[k.toNat - 1] = (t :: r)[k.toNat] := by
          have : ∀ (m : Nat) (h1 : m < (t :: r).length) (h2 : m - 1 < r.length), 1 ≤ m → r[m - 1] = (t :: r)[m] := by
            intro m h1 h2 h3
            obtain ⟨m, rfl⟩ : ∃ m', m = m' + 1 := ⟨m - 1, by omega⟩
            rfl
          exact this _ hkl hkr hkk
        have hc1 : y_clos (r.drop (k.toNat - 1)) (1 + y_sum (r.take (k.toNat - 1))) = some 0 := by
          rw [List.drop_eq_getElem_cons hkr, ers, erk]
          exact if_pos hz
        rw [hc1] at hc
        have hc : y_clos r 1 = some (k.toNat - 1) := by rw [hc]; simp
      · have : y_peel (t :: r) = t :: r := by
          unfold y_peel
          simp only
          rw [if_neg (fun z => ?_)]
          have := z.2.2
          rw [hc] at this
          have := Option.some.inj this
          omega
        rw [this]
        exact hr1
      · obtain ⟨u, v, rfl⟩ : ∃ u v, r = u ++ [v] := by
          rcases y_snoc r with z | ⟨u, v, z⟩
          · rw [z] at hkr; simp at hkr
          · exact ⟨u, v, z⟩
        have hul : (u ++ [v]).length = u.length + 1 := by simp
        have hpe : y_peel (t :: (u ++ [v])) = u := by
          unfold y_peel
          simp only
          rw [if_pos ⟨l2, hbt, by rw [hc]; congr 1; omega⟩, List.dropLast_concat]
        rw [hpe] at hK
        refine ⟨_, ?_, rfl, S1, t, u, by omega, by omega, Int.le_refl _, by omega, ⟨?_, hr1.2⟩, by rw [f2]; omega, fun j hj => by omega, fun j j1 j2 => ?_, rfl, hK⟩
        · omega
        · rw [← y_Qn2 Q p (t :: (u ++ [v]))]
          exact rf_argO (D := D') (Z := D'.1) (o := none) hr1.1 hp (fun _ _ _ => rfl) (fun _ _ => rfl) (fun _ _ => rfl) (fun l e => by cases e)
        · have := f3 (j + 1) (by omega)
          rw [show 42 * p + j + 1 = 42 * p + (j + 1) by omega, this]
          congr 1
          simp only [List.getElem_cons_succ]
          rw [List.getElem_append_left j2, List.getElem?_eq_getElem j2]
          rfl
    refine ⟨by omega, c_mIsCharacter (y_rs (by omega) (by omega)) (z_rk rfl) ⟨fun w => c_mIsCharacter (y_rs (by omega) (by omega)) (z_rk rfl) ⟨fun w2 => ?_, fun w2 => go (-1) (hbb.2.mp w2).symm⟩, fun w => go 1 (hbb.1.mp w).symm⟩⟩
    have b1 : ¬ y_bs l[k.toNat] = 1 := fun z => by rw [hbb.1.mpr z] at w; cases w
    have b2 : ¬ y_bs l[k.toNat] = -1 := fun z => by rw [hbb.2.mpr z] at w2; cases w2
    exact go 0 (by omega)
  · rintro mm x n1 k D' ⟨rfl, S1, t, l, rfl, l38, k1, k2, hr1, e361, hlo, hhi, rfl, hK⟩
    refine ⟨y_rs (by omega) (by omega), y_rs (by omega) (by omega), fun c => ⟨by omega, fun D4 e4 => hK D4 ⟨?_, hr1.2⟩⟩, fun c => ⟨by omega, by omega, fun D7 e7 => ?_⟩⟩
    · rw [show (((p : Nat) : Int)).toNat = p by omega, show (l.length : Int) + 2 - 2 = (l.length : Int) by omega] at e4
      have e : D4 = (D4.1, D'.2) := by rw [e4]; rfl
      rw [e, ← y_Qn3 Q p l]
      refine rf_arg hr1.1 hp (fun c c1 c2 => by rw [e4, y_uz_cell c2]) (fun j hj => by rw [e4, y_uz_cell (by decide)]) (fun j hj => by rw [e4, y_uz_slot hj]) ⟨by rw [e4, y_uz_same, List.length_map], fun j hj => ?_⟩ (by omega)
      rw [List.length_map] at hj
      rw [e4, y_uz_cell (by decide), hlo j (by omega), List.getElem?_map, List.getElem?_eq_getElem hj]
      rfl
    · have ek : D'.1 360 (Int.toNat ((42 * (p : Int)) + k)) = y_tr (l[(k - 1).toNat]?.getD 0) := by
        have := hhi (k - 1).toNat (by omega) (by omega)
        rw [show Int.toNat ((42 * (p : Int)) + k) = 42 * p + (k - 1).toNat + 1 by omega]
        exact this
      rw [ek, show Int.toNat (((42 * (p : Int)) + k) - 1) = 42 * p + (k - 1).toNat by omega] at e7
      refine ⟨_, ?_, rfl, S1, t, l, rfl, l38, by omega, by omega, ⟨?_, hr1.2⟩, by rw [e7, y_uz_cell (by decide)]; exact e361, fun j hj => ?_, fun j j1 j2 => ?_, rfl, hK⟩
      · omega
      · have e : D7 = (D7.1, D'.2) := by rw [e7]; rfl
        rw [e, ← y_Qn4 Q p]
        exact rf_argO (o := none) hr1.1 hp (fun c c1 c2 => by rw [e7, y_uz_cell c1]) (fun j hj => by rw [e7, y_uz_slot (by omega)]) (fun j hj => by rw [e7, y_uz_cell (by decide)]) (fun l e => by cases e)
      · rw [e7]
        by_cases z : j = (k - 1).toNat
        · rw [z, y_uz_same]
        · rw [y_uz_slot (by omega)]
          exact hlo j (by omega)
      · rw [e7, y_uz_slot (by omega)]
        exact hhi j (by omega) j2
end RL
