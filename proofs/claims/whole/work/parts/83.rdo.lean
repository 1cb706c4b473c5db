/-! contracts of the reference: what is put back, kept, changed, sent -/
theorem y_tr_r {m : Nat} {t : Int} (h : y_tk m t) (hm : m ≤ 118) : 256 ≤ y_tr t ∧ y_tr t < 12406 := by
  unfold y_tr
  rcases h with h | h | h
  · have := y_ch_r h
    rw [if_pos (by omega)]; omega
  · rw [if_pos (by omega)]; omega
  · rw [if_neg (by omega), if_neg (by omega)]; omega
theorem y_tr_name {m : Nat} {t : Int} (h : y_tk m t) (hm : m ≤ 118) : (4096 ≤ y_tr t) ↔ 4096 ≤ t := by
  unfold y_tr
  rcases h with h | h | h
  · have := y_ch_r h
    rw [if_pos (by omega)]
  · rw [if_pos (by omega)]
  · rw [if_neg (by omega), if_neg (by omega)]; omega
theorem y_tr_mark {m : Nat} {t : Int} (h : y_tk m t) (hm : m ≤ 118) : (8192 ≤ y_tr t) ↔ 16384 ≤ t := by
  unfold y_tr
  rcases h with h | h | h
  · have := y_ch_r h
    rw [if_pos (by omega)]; omega
  · rw [if_pos (by omega)]; omega
  · rw [if_neg (by omega), if_neg (by omega)]; omega
theorem y_tr_char {m : Nat} {t : Int} (h : y_tk m t) (hm : m ≤ 118) (hc : t < 4096) : y_tr t = t := by
  unfold y_tr
  rw [if_pos (by omega)]
theorem y_tr_tp {m : Nat} {t : Int} (h : y_tp m t) (hm : m ≤ 118) : y_tr t = t := by
  have := y_tp_r h hm
  unfold y_tr
  rw [if_pos (by omega)]
theorem y_pl_tr {m : Nat} {t : Int} (h : y_tk m t) (hm : m ≤ 118) : y_pl (y_tr t) = y_un t := by
  rcases h with h | h | h
  · have := y_ch_r h
    have e : y_tr t = t := if_pos (by omega)
    rw [e]
    unfold y_pl y_un
    rw [if_neg (by omega), if_neg (by omega)]
  · have e : y_tr t = t := if_pos (by omega)
    rw [e]
    unfold y_pl y_un
    rw [if_neg (by omega), if_neg (by omega)]
  · have e : y_tr t = t - 8192 := by unfold y_tr; rw [if_neg (by omega), if_neg (by omega)]
    rw [e]
    unfold y_pl y_un
    rw [if_pos (by omega), if_pos (by omega)]
    omega
theorem y_mr_r {m : Nat} {v : Int} (h : y_mn m v) (hm : m ≤ 60) : 0 ≤ y_mr v ∧ y_mr v < 6060 := by
  have := y_mn_r h hm
  unfold y_mr
  split
  · omega
  · split <;> omega
section RD
variable {n d : Nat} {Q : y_Q} {D : z_D} {st : Int} {S : y_S} {T : Nat → z_D → Prop}
/-- a token that is needed, got -/
theorem y_needed {Kf : Int → y_S → Prop} {Kt : Int → y_S → Prop} {Tt Tf : y_S → Prop} (ho : y_ok st S) (h : y_fin (y_get true S) Kt Tt) (h1 : ∀ t S', y_ok st S' → y_lg S S' → y_tk (y_nn S') t → Kt t S' → Kf t S') (h2 : ∀ S', y_ok st S' → y_lg S S' → Tt (y_ss S' 3 3) → Kf (-1) S') (h3 : ∀ S', Tt S' → Tf S') : y_fin (y_get false S) Kf Tf := by
  have hok := yo_get ho (b := false)
  unfold y_get at h hok ⊢
  cases e : (y_l S 1).getLast? with
  | some t =>
    rw [e] at h hok
    obtain ⟨k1, k2, k3⟩ := hok
    have hm : t ∈ y_l S 1 := List.mem_of_getLast? e
    exact h1 t _ k1 k2 (ho.2.2.2.2.2.1 t hm) h
  | none =>
    rw [e] at h hok
    dsimp only at h hok ⊢
    cases hx : y_read 161 S with
    | inl q =>
      rw [hx] at h hok
      have h : y_fin (if q.1 = -1 ∧ true = true then y_ft q.2 3 else .inl (q.1, q.2)) Kt Tt := h
      have hok : y_fin (if q.1 = -1 ∧ false = true then y_ft q.2 3 else .inl (q.1, q.2)) _ _ := hok
      show y_fin (if q.1 = -1 ∧ false = true then y_ft q.2 3 else .inl (q.1, q.2)) Kf Tf
      rw [if_neg (fun z => by cases z.2)] at hok ⊢
      obtain ⟨k1, k2, k3⟩ := hok
      by_cases c : q.1 = -1
      · rw [if_pos ⟨c, rfl⟩] at h
        have := h2 q.2 k1 k2 h
        show Kf q.1 q.2
        rw [c]
        exact this
      · rw [if_neg (fun z => c z.1)] at h
        exact h1 q.1 q.2 k1 k2 (k3.resolve_left (fun z => c z.1)).1 h
    | inr q => rw [hx] at h; exact h3 q h
theorem c_mNeed {K : Int → z_D → Prop} (hr : y_rf Q S D) (ho : y_ok st S) (h : y_fin (y_get true S) (fun t S' => ∀ D', y_rf Q S' D' → K (y_tr t) D') (y_rT Q.1 (K (-1)))) : z_c n (d + 6) 105 [.ref 336] D (z_qI K T) := by
  refine r_mNeed (c_mGet hr ho (y_needed ho h (fun t S' k1 k2 k3 hK D' hr' => ?_) (fun S' k1 k2 hT D' hr' => ?_) (fun S' hT D' hw => ?_)))
  · have := y_tr_r k3 k1.2.2.2.2.2.2.2.2.2.2.2.2.2.2.2.2.2.2.2.1.2
    exact ⟨y_rs (by omega) (by omega), fun _ => hK D' hr', fun z => by omega⟩
  · exact ⟨z_rk rfl, fun z => absurd rfl z, fun _ => c_stop hr' (by decide) (by decide) hT⟩
  · exact ⟨z_rk rfl, fun z => absurd rfl z, fun _ => c_stopW hw hT⟩
theorem c_mPut {t : Int} {K : z_D → Prop} (hr : y_rf Q S D) (ho : y_ok st S) (h : y_fin (y_put t S) (fun _ S' => ∀ D', y_rf Q S' D' → K D') (y_rT Q.1 K)) : z_c n (d + 2) 106 [.ref 336, .int (z_i (y_tr t))] D (z_qV K T) := by
  have e9 := hr.1.2.2.1.1
  have o5 := ho.2.2.2.2.1
  rw [List.length_map] at e9
  unfold y_put at h
  refine r_mPutBack ?_
  unfold w_mPutBack_0
  rw [e9]
  refine ⟨y_rs (by omega) (by omega), fun c => ⟨by omega, fun D3 e3 D4 e4 => ?_⟩, fun c => ?_⟩
  · rw [if_neg (by omega)] at h
    rw [show (((y_l S 1).length : Nat) : Int).toNat = (y_l S 1).length by omega] at e3
    have e39 : D3.1 336 9 = ((y_l S 1).length : Int) := by rw [e3]; exact e9
    rw [e39] at e4
    exact h D4 ⟨by rw [e4, e3]; exact rf_push hr.1 t, hr.2⟩
  · rw [if_pos (by omega)] at h
    exact c_stop hr (by decide) (by decide) h
theorem c_mMo {t : Int} {K : Int → z_D → Prop} (hr : y_ref Q S D) (ho : y_ok st S) (ht : y_tk (y_nn S) t) (h : K (y_mr (y_mo S t)) D) : z_c n (d + 3) 111 [.ref 336, .int (z_i (y_tr t))] D (z_qI K T) := by
  have hn := ho.2.2.2.2.2.2.2.2.2.2.2.2.2.2.2.2.2.2.2.1.2
  have h1 := y_tr_r ht hn
  have h2 := y_tr_name ht hn
  have h3 := y_tr_mark ht hn
  unfold y_mo at h
  refine r_mMeaningOf ⟨y_rs (by omega) (by omega), fun c => c_mIsMarked (y_rs (by omega) (by omega)) ⟨fun c1 => ?_, fun c1 => ?_⟩, fun c => ?_⟩
  · have c1 := of_decide_eq_false c1
    rw [if_neg (by omega), if_neg (by omega)] at h
    have ht5 : t < 4096 + 118 := by
      rcases ht with z | z | z
      · have := y_ch_r z; omega
      · omega
      · omega
    have e : y_tr t = t := if_pos (by omega)
    rw [e] at c1 ⊢
    have hk : (t - 4096).toNat < 118 := by omega
    rw [hr.2.2.2.2.2.2.2.2.2.1 _ hk]
    exact ⟨by omega, h⟩
  · have c1 := of_decide_eq_true c1
    rw [if_neg (by omega), if_pos (by omega)] at h
    exact h
  · rw [if_pos (by omega)] at h
    have e : y_tr t = t := if_pos (by omega)
    rw [e]
    have : y_mr t = 1000 + t := by
      have := (y_tk_r ht hn).1
      unfold y_mr
      rw [if_neg (by omega), if_pos (by omega)]
      omega
    rw [this] at h
    exact h
theorem y_mr_ex {m : Nat} {v : Int} (hm : y_mn m v) (h60 : m ≤ 60) : y_isex v = decide (6000 ≤ y_mr v ∨ y_mr v = 8 ∨ y_mr v = 9 ∨ y_mr v = 10 ∨ (12 ≤ y_mr v ∧ y_mr v ≤ 18)) := by
  have := y_mn_r hm h60
  unfold y_isex
  apply decide_eq_decide.mpr
  unfold y_mr
  split
  · omega
  · split <;> omega
theorem c_mIsex {t : Int} {K : Bool → z_D → Prop} (hr : y_ref Q S D) (ho : y_ok st S) (ht : y_tk (y_nn S) t) (h : K (y_isex (y_mo S t)) D) : z_c n (d + 4) 112 [.ref 336, .int (z_i (y_tr t))] D (z_qZ K T) := by
  have hm := y_mo_ok ho ht
  have hmr := y_mr_r hm ho.2.2.2.2.2.2.2.2.2.2.2.2.2.2.2.2.2.2.2.2.2.1
  rw [y_mr_ex hm ho.2.2.2.2.2.2.2.2.2.2.2.2.2.2.2.2.2.2.2.2.2.1] at h
  refine r_mIsExpandable (c_mMo hr ho ht ⟨y_rs (by omega) (by omega), fun c => y_dT h (by omega), fun c => ⟨fun c1 => y_dT h (by omega), fun c1 => ⟨fun c2 => y_dT h (by omega), fun c2 => ⟨fun c3 => y_dT h (by omega), fun c3 => ⟨fun c4 => y_dF h (by omega), fun c4 => ⟨fun c5 => y_dF h (by omega), fun c5 => y_dT h (by omega)⟩⟩⟩⟩⟩⟩)
theorem y_kr_inj {m : Nat} {a b : Int} (ha : y_ky m a) (hb : y_ky m b) (hm : m ≤ 118) (h : y_kr a = y_kr b) : a = b := by
  unfold y_kr at h
  rcases ha with ha | ha <;> rcases hb with hb | hb
  · rw [if_pos (by omega), if_pos (by omega)] at h; omega
  · rw [if_pos (by omega), if_neg (by omega)] at h; omega
  · rw [if_neg (by omega), if_pos (by omega)] at h; omega
  · rw [if_neg (by omega), if_neg (by omega)] at h; omega
theorem y_kr_r {m : Nat} {k : Int} (h : y_ky m k) (hm : m ≤ 118) : 0 ≤ y_kr k ∧ y_kr k < 328 ∧ ((200 ≤ y_kr k) ↔ k < 4096) := by
  unfold y_kr
  rcases h with h | h
  · rw [if_pos (by omega)]; omega
  · rw [if_neg (by omega)]; omega
/-- the group of what is kept -/
theorem y_gn_last {l : List Int} {s : Int} {i : Nat} (hp : (l ++ [s]).Pairwise (· ≤ ·)) : (y_gn (l ++ [s]) i = (((l ++ [s]).length : Nat) : Int)) ↔ s ≤ (i : Int) := by
  constructor
  · intro h
    unfold y_gn at h
    have h' : ((l ++ [s]).filter (fun s => decide (s ≤ (i : Int)))).length = (l ++ [s]).length := by omega
    have := List.length_filter_eq_length_iff.mp h' s (by simp)
    simpa using this
  · intro h
    refine y_gn_all (fun x hx => ?_)
    rcases List.mem_append.mp hx with hx | hx
    · have := (List.pairwise_append.mp hp).2.2 x hx s (by simp)
      omega
    · rw [List.mem_singleton.mp hx]; exact h
theorem y_gn_r (l : List Int) (i : Nat) : 0 ≤ y_gn l i ∧ y_gn l i ≤ l.length := by
  unfold y_gn
  have := List.length_filter_le (fun s => decide (s ≤ (i : Int))) l
  omega
theorem rf_set {k v : Int} (hr : y_ref Q S D) (hk : y_ky (y_nn S) k) (hn : y_nn S ≤ 118) : ∃ c j, (k < 4096 → c = 338 ∧ j = k.toNat) ∧ (4096 ≤ k → c = 343 ∧ j = (k - 4096).toNat) ∧ y_ref Q (y_set k v S) (z_uz D c j (y_vr k v)) := by
  unfold y_set y_vr
  by_cases c : 4096 ≤ k
  · refine ⟨343, (k - 4096).toNat, fun z => by omega, fun _ => ⟨rfl, rfl⟩, ?_⟩
    rw [if_pos c, if_neg (by omega)]
    exact rf_mean hr _ v
  · refine ⟨338, k.toNat, fun _ => ⟨rfl, rfl⟩, fun z => by omega, ?_⟩
    rw [if_neg c, if_pos (by omega)]
    exact rf_cat hr _ v
theorem c_mChange {k v : Int} {K : z_D → Prop} (hr : y_rf Q S D) (ho : y_ok st S) (hk : y_ky (y_nn S) k) (h : y_fin (y_chg k v S) (fun _ S' => ∀ D', y_rf Q S' D' → K D') (y_rT Q.1 K)) : z_c n (d + 2) 113 [.ref 336, .int (z_i (y_kr k)), .int (z_i (y_vr k v))] D (z_qV K T) := by
  have hn := ho.2.2.2.2.2.2.2.2.2.2.2.2.2.2.2.2.2.2.2.1.2
  have hkr := y_kr_r hk hn
  have o11 := ho.2.2.2.2.2.2.2.2.2.2.1
  have o12 := ho.2.2.2.2.2.2.2.2.2.2.2.1
  have o13 := ho.2.2.2.2.2.2.2.2.2.2.2.2.1
  have o15 := ho.2.2.2.2.2.2.2.2.2.2.2.2.2.2.1
  have e18 := hr.1.2.2.2.2.2.1
  have e19 := hr.1.2.2.2.2.2.2.1.1.1
  rw [List.length_map] at e19
  have hkr2 : k < 4096 → y_kr k = 200 + k := fun c => if_pos c
  have hkr3 : 4096 ≤ k → y_kr k = k - 4096 := fun c => if_neg (by omega)
  -- the value is set
  have set : ∀ (S1 : y_S) (D1 : z_D), y_rf Q S1 D1 → y_nn S1 = y_nn S → (∀ D', y_rf Q (y_set k v S1) D' → K D') → w_mChange_155 n (d + 1) (y_kr k) (y_vr k v) D1 K T := by
    intro S1 D1 hr1 hn1 hK
    obtain ⟨c, j, g1, g2, g3⟩ := rf_set (v := v) hr1.1 (by rw [hn1]; exact hk) (by rw [hn1]; exact hn)
    have hs : y_s (y_set k v S1) 3 = 0 := by
      have := (lg_set S1 k v).2.2.2.2.2.1
      rw [this]; exact hr1.2
    refine ⟨y_rs (by omega) (by omega), fun z => ?_, fun z => ?_⟩
    · obtain ⟨z1, z2⟩ := g1 (by omega)
      rw [hkr2 (by omega), show 200 + k - 200 = k by omega]
      have : 0 ≤ k ∧ k < 128 := by rcases hk with w | w <;> omega
      refine ⟨by omega, fun D3 e3 => hK D3 ⟨?_, hs⟩⟩
      rw [e3, ← z2, ← z1]; exact g3
    · obtain ⟨z1, z2⟩ := g2 (by omega)
      rw [hkr3 (by omega)]
      have : 4096 ≤ k ∧ k < 4096 + y_nn S := by rcases hk with w | w <;> omega
      refine ⟨by omega, fun D3 e3 => hK D3 ⟨?_, hs⟩⟩
      rw [e3, ← z2, ← z1]; exact g3
  have kp : y_kp k S = true ↔ (y_l S 4 = [] ∨ ∃ i : Nat, i < (y_l S 5).length ∧ y_gn (y_l S 4) i = ((y_l S 4).length : Int) ∧ (y_l S 5)[i]? = some k) := by
    unfold y_kp
    rcases y_snoc (y_l S 4) with z | ⟨l, s, z⟩
    · rw [z]; simp
    · have hs := ho.2.2.2.2.2.2.2.2.2.2.2.2.2.1 s (by rw [z]; simp)
      rw [z] at o15 ⊢
      simp only [List.getLast?_append, List.getLast?_singleton, Option.some_or, decide_eq_true_eq]
      constructor
      · intro hmem
        obtain ⟨i, hi, e⟩ := List.mem_iff_getElem.mp hmem
        rw [List.length_drop] at hi
        refine Or.inr ⟨s.toNat + i, by omega, (y_gn_last o15).mpr (by omega), ?_⟩
        rw [List.getElem_drop] at e
        rw [List.getElem?_eq_getElem (by omega), e]
      · rintro (w | ⟨i, hi, hg, e⟩)
        · simp at w
        · have := (y_gn_last o15).mp hg
          have hg2 : (y_l S 5)[i] = k := by rw [List.getElem?_eq_getElem hi] at e; exact Option.some.inj e
          rw [List.mem_iff_getElem]
          refine ⟨i - s.toNat, by rw [List.length_drop]; omega, ?_⟩
          rw [List.getElem_drop]
          rw [← hg2]
          congr 1
          omega
  unfold y_chg at h
  refine r_mChange (fun m a1 a2 b i D' => a1 = y_kr k ∧ a2 = y_vr k v ∧ D' = D ∧ 0 ≤ i ∧ i ≤ (y_l S 5).length ∧ m = ((y_l S 5).length - i).toNat ∧ (b = true ↔ (y_l S 4 = [] ∨ ∃ j : Nat, (j : Int) < i ∧ y_gn (y_l S 4) j = ((y_l S 4).length : Int) ∧ (y_l S 5)[j]? = some k))) ?_ ?_
  · unfold w_mChange_0
    rw [e18]
    refine ⟨y_rs (by omega) (by omega), fun c => ⟨_, rfl, rfl, rfl, Int.le_refl _, by omega, rfl, ⟨fun z => (by cases z), fun z => ?_⟩⟩, fun c => ⟨_, rfl, rfl, rfl, Int.le_refl _, by omega, rfl, ⟨fun _ => Or.inl (List.eq_nil_of_length_eq_zero (by omega)), fun _ => rfl⟩⟩⟩
    rcases z with z | ⟨j, hj, _⟩
    · rw [z] at c; simp at c
    · omega
  · rintro mm a1 a2 b i D' ⟨rfl, rfl, rfl, i0, i1, rfl, hb⟩
    have go : ∀ b' : Bool, (b' = true ↔ (y_l S 4 = [] ∨ ∃ j : Nat, (j : Int) < i + 1 ∧ y_gn (y_l S 4) j = ((y_l S 4).length : Int) ∧ (y_l S 5)[j]? = some k)) → i < (y_l S 5).length → ∃ m, m < ((y_l S 5).length - i).toNat ∧ y_kr k = y_kr k ∧ y_vr k v = y_vr k v ∧ D' = D' ∧ 0 ≤ i + 1 ∧ i + 1 ≤ (y_l S 5).length ∧ m = ((y_l S 5).length - (i + 1)).toNat ∧ (b' = true ↔ (y_l S 4 = [] ∨ ∃ j : Nat, (j : Int) < i + 1 ∧ y_gn (y_l S 4) j = ((y_l S 4).length : Int) ∧ (y_l S 5)[j]? = some k)) := by
      intro b' hb' hi
      refine ⟨_, ?_, rfl, rfl, rfl, by omega, by omega, rfl, hb'⟩
      omega
    have mono : (y_l S 4 = [] ∨ ∃ j : Nat, (j : Int) < i ∧ y_gn (y_l S 4) j = ((y_l S 4).length : Int) ∧ (y_l S 5)[j]? = some k) → (y_l S 4 = [] ∨ ∃ j : Nat, (j : Int) < i + 1 ∧ y_gn (y_l S 4) j = ((y_l S 4).length : Int) ∧ (y_l S 5)[j]? = some k) := fun z => z.imp id (fun ⟨j, j1, j2⟩ => ⟨j, by omega, j2⟩)
    unfold w_mChange_16
    rw [e19, e18]
    refine ⟨y_rs (by omega) (by omega), y_rs (by omega) (by omega), fun c => ⟨fun z => ?_, fun z => ⟨fun z1 => ?_, fun z1 => ?_⟩⟩, fun c => ⟨fun z => go true ⟨fun _ => mono (hb.mp z), fun _ => rfl⟩ c, fun z => ?_⟩⟩
    · have hkp : y_kp k S = true := kp.mpr ((hb.mp z).imp id (fun ⟨j, j1, j2⟩ => ⟨j, by omega, j2⟩))
      rw [if_pos hkp] at h
      exact set S D' hr rfl h
    · have hkp : ¬ y_kp k S = true := fun w => by
        have := hb.mpr ((kp.mp w).imp id (fun ⟨j, j1, j2⟩ => ⟨j, by omega, j2⟩))
        rw [z] at this
        cases this
      rw [if_neg hkp, if_neg (by omega)] at h
      refine ⟨by omega, fun D4 e4 => ?_⟩
      rw [show (((y_l S 5).length : Nat) : Int).toNat = (y_l S 5).length by omega] at e4
      have e49 : D4.1 336 19 = ((y_l S 5).length : Int) := by rw [e4]; exact e19
      rw [e49]
      refine ⟨by omega, fun D6 e6 => ?_⟩
      rw [show (((y_l S 5).length : Nat) : Int).toNat = (y_l S 5).length by omega] at e6
      have e69 : D6.1 336 19 = ((y_l S 5).length : Int) := by rw [e6]; exact e49
      rw [e69]
      have last : ∀ s2, s2 = y_vr k (y_old k S) → w_mChange_144 n (d + 1) (y_kr k) (y_vr k v) ((y_l S 5).length : Int) s2 D6 K T := by
        intro s2 es
        refine ⟨by omega, fun D2 f2 D3 f3 => ?_⟩
        rw [show (((y_l S 5).length : Nat) : Int).toNat = (y_l S 5).length by omega] at f2
        have e29 : D2.1 336 19 = ((y_l S 5).length : Int) := by rw [f2]; exact e69
        rw [e29] at f3
        refine set (y_sl (y_sl S 5 (y_l S 5 ++ [k])) 6 (y_l S 6 ++ [y_old k S])) D3 ⟨?_, hr.2⟩ rfl h
        rw [f3, f2, e6, e4, es]
        exact rf_keep hr.1 o13 (fun s hs => (ho.2.2.2.2.2.2.2.2.2.2.2.2.2.1 s hs).2) k _
      refine ⟨y_rs (by omega) (by omega), fun w => ?_, fun w => ?_⟩
      · have hk128 : 0 ≤ k ∧ k < 128 := by rcases hk with q | q <;> omega
        rw [hkr2 (by omega), show 200 + k - 200 = k by omega]
        refine ⟨by omega, ?_⟩
        have := last (D6.1 338 k.toNat) ?_
        · rw [hkr2 (by omega)] at this; exact this
        · rw [e6, e4]
          show D'.1 338 k.toNat = _
          rw [hr.1.2.2.2.2.2.2.2.1 _ (by omega)]
          unfold y_vr y_old
          rw [if_pos (by omega), if_neg (by omega)]
      · have hk4 : 4096 ≤ k ∧ k < 4096 + y_nn S := by rcases hk with q | q <;> omega
        rw [hkr3 (by omega)]
        refine ⟨by omega, ?_⟩
        have := last (D6.1 343 (k - 4096).toNat) ?_
        · rw [hkr3 (by omega)] at this; exact this
        · rw [e6, e4]
          show D'.1 343 (k - 4096).toNat = _
          rw [hr.1.2.2.2.2.2.2.2.2.2.1 _ (by omega)]
          unfold y_vr y_old
          rw [if_neg (by omega), if_pos (by omega)]
    · have hkp : ¬ y_kp k S = true := fun w => by
        have := hb.mpr ((kp.mp w).imp id (fun ⟨j, j1, j2⟩ => ⟨j, by omega, j2⟩))
        rw [z] at this
        cases this
      rw [if_neg hkp, if_pos (by omega)] at h
      exact c_stop hr (by decide) (by decide) h
    · have hi5 : i.toNat < (y_l S 5).length := by omega
      have e45 := hr.1.2.2.2.2.2.2.1.2.2 i.toNat hi5
      have e46 : D'.1 346 i.toNat = y_kr (y_l S 5)[i.toNat] := by
        have := y_ar_at hr.1.2.2.2.2.2.2.1.1 (k := i.toNat) (by rw [List.length_map]; exact hi5)
        rw [this, List.getElem_map]
      have hg := y_gn_r (y_l S 4) i.toNat
      have hky := y_keys_rl ho _ (List.getElem_mem hi5)
      have hkyr := y_kr_r hky hn
      have nb : ¬ (y_l S 4 = [] ∨ ∃ j : Nat, (j : Int) < i ∧ y_gn (y_l S 4) j = ((y_l S 4).length : Int) ∧ (y_l S 5)[j]? = some k) := fun w => by rw [hb.mpr w] at z; cases z
      rw [e45, e46]
      refine ⟨by omega, y_rs (by omega) (by omega), y_rs (by omega) (by omega), fun w => go false ⟨fun q => (by cases q), fun q => ?_⟩ c, fun w => ⟨by omega, y_rs (by omega) (by omega), y_rs (by omega) (by omega), fun w1 => go false ⟨fun q => (by cases q), fun q => ?_⟩ c, fun w1 => go true ⟨fun _ => Or.inr ⟨i.toNat, by omega, w, ?_⟩, fun _ => rfl⟩ c⟩⟩
      · rcases q with q | ⟨j, j1, j2, j3⟩
        · exact absurd (Or.inl q) nb
        · by_cases hj : (j : Int) < i
          · exact absurd (Or.inr ⟨j, hj, j2, j3⟩) nb
          · have : j = i.toNat := by omega
            rw [this] at j2
            exact absurd j2 w
      · rcases q with q | ⟨j, j1, j2, j3⟩
        · exact absurd (Or.inl q) nb
        · by_cases hj : (j : Int) < i
          · exact absurd (Or.inr ⟨j, hj, j2, j3⟩) nb
          · have : j = i.toNat := by omega
            rw [this, List.getElem?_eq_getElem hi5] at j3
            rw [Option.some.inj j3] at w1
            exact absurd rfl w1
      · rw [List.getElem?_eq_getElem hi5]
        exact congrArg some (y_kr_inj hky hk hn w1)
end RD
