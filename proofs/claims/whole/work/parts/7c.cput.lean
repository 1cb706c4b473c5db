/-! contracts of the class: bodies, marks, passing, spelling, categories -/
theorem y_body_app (S : y_S) (a b : List Int) : y_body S (a ++ b) = y_body S a ++ y_body S b := by
  induction a with
  | nil => rfl
  | cons t r ih => simp only [List.cons_append, y_body, ih, List.append_assoc]
theorem y_puts_app (a b : List Int) (S : y_S) : y_puts (a ++ b) S = y_bd (y_puts a S) (fun _ S' => y_puts b S') := by
  induction a generalizing S with
  | nil => rfl
  | cons t r ih =>
    simp only [List.cons_append, y_puts]
    cases y_put t S with
    | inl q => exact ih q.2
    | inr q => rfl
section CP
variable {n d : Nat} {B : y_B} {D : z_D} {tr st : Int} {S : y_S} {T : Nat → z_D → Prop}
theorem yo_putn (h : y_ok st S) {t : Int} (ht : y_tk (y_nn S) t) : y_fin (y_put t S) (fun _ S' => y_ok st S' ∧ y_lg S S' ∧ y_nm S' = y_nm S) (y_ok st) := by
  have := yo_put h ht
  unfold y_put at this ⊢
  split
  · next c => rw [if_pos c] at this; exact this
  · next c => rw [if_neg c] at this; exact ⟨this.1, this.2, rfl⟩
theorem c_putBody {i : Nat} {q : List Int × List Int × Int} {K : z_D → Prop} (hc : y_cls B 0 S D) (ho : y_ok st S) (hi : i < 60) (hq : (y_mac S)[i]? = some q) (hA : ∀ j, j < q.2.2.toNat → ∃ l, y_a S j = some l ∧ B.2 j = some l) (h : y_fin (y_puts (y_body S q.2.1).reverse S) (fun _ S' => ∀ D', y_cls B 0 S' D' → K D') (y_cT B.1 T)) : z_c n (d + 3) 82 [.ref 0, .ref (B.1.2.2 i + 3)] D (z_qV K T) := by
  have hkm := ho.2.2.2.2.2.2.2.2.2.2.2.2.2.2.2.2.2.2.2.2.2.2.1 q (List.mem_of_getElem? hq)
  have hrl := y_rl_tx hkm.2.1.2 hkm.2.2.2 ho.2.2.2.2.2.2.2.2.2.2.2.2.2.2.2.2.2.2.2.1.2
  have hl := hkm.2.1.1
  obtain ⟨m1, _, m3, _⟩ := cl_mac hc hi hq
  have hbt := y_body_tp ho hkm.2.2.2 q.2.1 hkm.2.1.2
  refine r_tPutBodyBack
    (fun m a D' => -1 ≤ a ∧ a < q.2.1.length ∧ m = 100 * (a + 1).toNat ∧ ∃ S1, y_cls B 0 S1 D' ∧ y_ok st S1 ∧ y_mac S1 = y_mac S ∧ y_nn S ≤ y_nn S1 ∧ y_fin (y_puts (y_body S (q.2.1.take (a + 1).toNat)).reverse S1) (fun _ S' => ∀ D', y_cls B 0 S' D' → K D') (y_cT B.1 T))
    (fun m a r b D' => 0 ≤ a ∧ a < q.2.1.length ∧ ∃ p l, p < 4 ∧ r = 22 + 2 * p ∧ B.2 p = some l ∧ (∀ x ∈ l, y_tp (y_nn S) x) ∧ -1 ≤ b ∧ b < l.length ∧ m = 100 * a.toNat + (b + 2).toNat ∧ ∃ S1, y_cls B 0 S1 D' ∧ y_ok st S1 ∧ y_mac S1 = y_mac S ∧ y_nn S ≤ y_nn S1 ∧ y_fin (y_puts ((l.take (b + 1).toNat).reverse ++ (y_body S (q.2.1.take a.toNat)).reverse) S1) (fun _ S' => ∀ D', y_cls B 0 S' D' → K D') (y_cT B.1 T))
    ⟨z_sh_m (i := 3) m1 (by decide), c_rSize (z_row_mb m1) m3 ⟨_, by omega, by omega, rfl, S, hc, ho, rfl, Nat.le_refl _, ?_⟩⟩ ?_ ?_
  · rw [show ((q.2.1.length : Int) - 1 + 1).toNat = q.2.1.length by omega, List.take_length]; exact h
  · rintro mm a D' ⟨a0, a1, rfl, S1, hc1, ho1, hm1, hn1, h⟩
    refine ⟨y_rs (by omega) (by omega), fun c => ?_, fun c => ?_⟩
    · rw [show (a + 1).toNat = 0 by omega] at h
      exact h D' hc1
    · obtain ⟨m1, _, m3, _⟩ := cl_mac hc1 hi (by rw [hm1]; exact hq)
      have hal : a.toNat < q.2.1.length := by omega
      have hmem := hkm.2.1.2 _ (List.getElem_mem hal)
      have ea : y_at q.2.1 a = q.2.1[a.toNat] := by
        unfold y_at
        rw [if_pos c, List.getElem?_eq_getElem hal]
        rfl
      refine ⟨z_sh_m (i := 3) m1 (by decide), c_rAt (z_row_mb m1) m3 hl (y_rs (by omega) (by omega)) ?_⟩
      rw [ea]
      rw [show (a + 1).toNat = a.toNat + 1 by omega, List.take_succ_eq_append_getElem hal, y_body_app, List.reverse_append] at h
      have on := ho.2.2.2.2.2.2.2.2.2.2.2.2.2.2.2.2.2.2.2.1.2
      have hp4 := hkm.2.2.2
      have hplain : y_tp (y_nn S) q.2.1[a.toNat] → z_c n (d + 2) 63 [.ref 0, .int (z_i q.2.1[a.toNat])] D' (z_qV (fun D1 => ∃ m, m < 100 * (a + 1).toNat ∧ -1 ≤ a + (-1) ∧ a + (-1) < q.2.1.length ∧ m = 100 * (a + (-1) + 1).toNat ∧ ∃ S1, y_cls B 0 S1 D1 ∧ y_ok st S1 ∧ y_mac S1 = y_mac S ∧ y_nn S ≤ y_nn S1 ∧ y_fin (y_puts (y_body S (q.2.1.take (a + (-1) + 1).toNat)).reverse S1) (fun _ S' => ∀ D', y_cls B 0 S' D' → K D') (y_cT B.1 T)) T) := by
        intro htp
        have hr := y_tp_r htp on
        have eb : y_body S [q.2.1[a.toNat]] = [q.2.1[a.toNat]] := by
          unfold y_body y_body
          rw [if_neg (by omega)]
          rfl
        rw [eb] at h
        refine c_put hc1 ho1 (y_gk (yo_put ho1 (y_tk_le (y_tp_tk htp) hn1)) h (fun _ S2 ⟨b1, b2⟩ h D1 hd1 => ⟨_, ?_, by omega, by omega, rfl, S2, hd1, b1, b2.2.1.trans hm1, Nat.le_trans hn1 b2.1, ?_⟩))
        · omega
        · rw [show a + (-1) + 1 = a by omega]; exact h
      rcases hmem with hmem | hmem
      · have hz : (q.2.1[a.toNat] - 8192) - 1 = (((q.2.1[a.toNat] - 8193).toNat : Nat) : Int) := by omega
        refine ⟨y_rs (by omega) (by omega), fun c1 => by omega, fun c1 => ⟨fun c2 => ⟨by omega, ?_⟩, fun c2 => by omega⟩⟩
        obtain ⟨l, l1, l2⟩ := hA (q.2.1[a.toNat] - 8193).toNat (by omega)
        have hp : (q.2.1[a.toNat] - 8193).toNat < 4 := by omega
        obtain ⟨r1, r2⟩ := cl_argAt hc1 hp l2
        rw [hz, show (((q.2.1[a.toNat] - 8193).toNat : Nat) : Int).toNat = (q.2.1[a.toNat] - 8193).toNat by omega]
        have eb : y_body S [q.2.1[a.toNat]] = l := by
          unfold y_body y_body
          rw [if_pos (by omega), l1]
          simp
        rw [eb] at h
        refine c_rSize (z_row_p hp) r1 ⟨_, ?_, c, by omega, (q.2.1[a.toNat] - 8193).toNat, l, hp, rfl, l2, (ho.2.2.2.2.2.2.2.2.2.2.2.2.2.2.2.2.2.2.2.2.2.2.2.2.2.1 _ l hp l1).2, by omega, by omega, rfl, S1, hc1, ho1, hm1, hn1, ?_⟩
        · omega
        · rw [show ((l.length : Int) - 1 + 1).toNat = l.length by omega, List.take_length]; exact h
      · have hr := y_tp_r hmem on
        exact ⟨y_rs (by omega) (by omega), fun c1 => hplain hmem, fun c1 => by omega⟩
  · rintro mm a r b D' ⟨a0, a1, p, l, hp, rfl, hl2, htl, b0, b1, rfl, S1, hc1, ho1, hm1, hn1, h⟩
    obtain ⟨r1, r2⟩ := cl_argAt hc1 hp hl2
    refine ⟨y_rs (by omega) (by omega), fun c => ?_, fun c => ?_⟩
    · rw [show (b + 1).toNat = 0 by omega] at h
      refine ⟨_, ?_, by omega, by omega, rfl, S1, hc1, ho1, hm1, hn1, ?_⟩
      · omega
      · rw [show a + (-1) + 1 = a by omega]; exact h
    · have hbl : b.toNat < l.length := by omega
      have ea : y_at l b = l[b.toNat] := by
        unfold y_at
        rw [if_pos c, List.getElem?_eq_getElem hbl]
        rfl
      rw [show (b + 1).toNat = b.toNat + 1 by omega, List.take_succ_eq_append_getElem hbl, List.reverse_append] at h
      refine ⟨(z_row_p hp).1, c_rAt (z_row_p hp) r1 r2 (y_rs (by omega) (by omega)) ?_⟩
      rw [ea]
      refine c_put hc1 ho1 (y_gk (yo_put ho1 (y_tk_le (y_tp_tk (htl _ (List.getElem_mem hbl))) hn1)) h (fun _ S2 ⟨c1, c2⟩ h D1 hd1 => ⟨_, ?_, a0, a1, p, l, hp, rfl, hl2, htl, by omega, by omega, rfl, S2, hd1, c1, c2.2.1.trans hm1, Nat.le_trans hn1 c2.1, ?_⟩))
      · omega
      · rw [show b + (-1) + 1 = b by omega]; exact h
theorem c_mark {K : z_D → Prop} (hc : y_cls B 0 S D) (ho : y_ok st S) (h : y_fin (y_mark S) (fun _ S' => ∀ D', y_cls B 0 S' D' → K D') (y_cT B.1 T)) : z_c n (d + 3) 84 [.ref 0] D (z_qV K T) := by
  refine r_tMarkNext (c_get hc ho (y_gk (yo_getT ho) h (fun t S1 ⟨k1, k2, k3, _⟩ h D1 hc1 => c_mo hc1 k1 k3 ?_)))
  have hr := y_mn_r (y_mo_ok k1 k3) k1.2.2.2.2.2.2.2.2.2.2.2.2.2.2.2.2.2.2.2.2.2.1
  refine c_tIsExpandable (y_rs (by omega) (by omega)) ⟨fun c => ?_, fun c => ?_⟩
  · rw [if_neg (by rw [c]; exact Bool.false_ne_true)] at h
    exact c_put hc1 k1 h
  · rw [if_pos c] at h
    have ht := y_ex_nt k3 c
    have on := k1.2.2.2.2.2.2.2.2.2.2.2.2.2.2.2.2.2.2.2.1.2
    unfold y_nt at ht
    have e : z_or t 16384 = t + 16384 := z_orm (by omega) (by omega)
    unfold w_tMarkNext_27
    rw [e]
    exact c_put hc1 k1 h
theorem cl_same3 (h : y_cls B tr S D) {l : List Int} (e : y_l S 3 = l) : y_cls B tr (y_sl S 3 l) D := by
  subst e
  exact ⟨h.1, h.2.1, h.2.2.1, h.2.2.2.1, h.2.2.2.2.1, h.2.2.2.2.2.1, h.2.2.2.2.2.2.1, h.2.2.2.2.2.2.2.1, h.2.2.2.2.2.2.2.2.1, h.2.2.2.2.2.2.2.2.2.1, h.2.2.2.2.2.2.2.2.2.2.1, h.2.2.2.2.2.2.2.2.2.2.2.1, h.2.2.2.2.2.2.2.2.2.2.2.2.1, h.2.2.2.2.2.2.2.2.2.2.2.2.2.1, h.2.2.2.2.2.2.2.2.2.2.2.2.2.2.1, h.2.2.2.2.2.2.2.2.2.2.2.2.2.2.2.1, h.2.2.2.2.2.2.2.2.2.2.2.2.2.2.2.2.1, h.2.2.2.2.2.2.2.2.2.2.2.2.2.2.2.2.2.1, h.2.2.2.2.2.2.2.2.2.2.2.2.2.2.2.2.2.2.1, y_MA_f (Z := D.1) (L := D.2.1) (p := D.2.2) h.2.2.2.2.2.2.2.2.2.2.2.2.2.2.2.2.2.2.2.1 (fun _ _ _ => rfl) rfl rfl rfl, h.2.2.2.2.2.2.2.2.2.2.2.2.2.2.2.2.2.2.2.2⟩
theorem c_pass {b : Bool} {K : z_D → Prop} (hc : y_cls B 0 S D) (ho : y_ok st S) (h : y_fin (y_pass b 1000 0 S) (fun _ S' => ∀ D', y_cls B 0 S' D' → K D') (y_cT B.1 T)) : z_c n (d + 3) 89 [.ref 0, .int (z_i (z_b b))] D (z_qV K T) := by
  refine r_tPass (fun m bb dp k D' => bb = b ∧ 0 ≤ k ∧ k ≤ 1000 ∧ -1000 ≤ dp + k ∧ -k ≤ dp ∧ dp ≤ k ∧ m = (1000 - k).toNat ∧ ∃ S1, y_cls B 0 S1 D' ∧ y_ok st S1 ∧ y_fin (y_pass b (1000 - k).toNat dp S1) (fun _ S' => ∀ D', y_cls B 0 S' D' → K D') (y_cT B.1 T)) ⟨_, rfl, by decide, by decide, by decide, by decide, by decide, rfl, S, hc, ho, (by rw [show ((1000 : Int) - 0).toNat = 1000 by decide]; exact h)⟩ ?_
  rintro mm bb dp k D' ⟨rfl, k0, k1, e0, e1, e2, rfl, S1, hc1, ho1, h⟩
  refine ⟨y_rs (by omega) (by omega), fun c => ?_, fun c => ?_⟩
  · rw [show (1000 - k).toNat = 0 by omega] at h
    exact h D' hc1
  · rw [show (1000 - k).toNat = (1000 - (k + 1)).toNat + 1 by omega] at h
    unfold y_pass at h
    refine c_get hc1 ho1 (y_gk (yo_getT ho1) h (fun t S2 ⟨b1, b2, b3, _⟩ h D2 hc2 => c_mo hc2 b1 b3 ?_))
    have hr := y_mn_r (y_mo_ok b1 b3) b1.2.2.2.2.2.2.2.2.2.2.2.2.2.2.2.2.2.2.2.2.2.1
    dsimp only at h
    generalize y_mo S2 t = mv at *
    have fin : ∀ dq, (if 13 ≤ mv ∧ mv ≤ 16 then dp + 1 else if mv = 18 then dp - 1 else dp) = dq → w_tPass_52 n (d + 2) bb dq k mv D2 (fun bb' dp' k' D' => ∃ m, m < (1000 - k).toNat ∧ bb' = bb ∧ 0 ≤ k' ∧ k' ≤ 1000 ∧ -1000 ≤ dp' + k' ∧ -k' ≤ dp' ∧ dp' ≤ k' ∧ m = (1000 - k').toNat ∧ ∃ S1, y_cls B 0 S1 D' ∧ y_ok st S1 ∧ y_fin (y_pass bb (1000 - k').toNat dp' S1) (fun _ S' => ∀ D', y_cls B 0 S' D' → K D') (y_cT B.1 T)) K T := by
      intro dq edq
      rw [edq] at h
      have hdq : dp - 1 ≤ dq ∧ dq ≤ dp + 1 := by
        rw [← edq]
        split
        · omega
        · split <;> omega
      have on : ¬ dq < 0 → ¬ (mv = 17 ∧ dq = 0 ∧ bb = true) → ∃ m, m < (1000 - k).toNat ∧ bb = bb ∧ 0 ≤ k + 1 ∧ k + 1 ≤ 1000 ∧ -1000 ≤ dq + (k + 1) ∧ -(k + 1) ≤ dq ∧ dq ≤ k + 1 ∧ m = (1000 - (k + 1)).toNat ∧ ∃ S1, y_cls B 0 S1 D2 ∧ y_ok st S1 ∧ y_fin (y_pass bb (1000 - (k + 1)).toNat dq S1) (fun _ S' => ∀ D', y_cls B 0 S' D' → K D') (y_cT B.1 T) := by
        intro z1 z2
        rw [if_neg z1, if_neg z2] at h
        refine ⟨_, ?_, rfl, by omega, by omega, by omega, by omega, by omega, rfl, S2, hc2, b1, h⟩
        omega
      refine ⟨y_rs (by omega) (by omega), fun z => ⟨y_rs (by omega) (by omega), fun z1 => on (by omega) (fun w => z1 w.1), fun z1 => ⟨fun z2 => on (by omega) (fun w => z2 w.2.1), fun z2 => ⟨fun z3 => on (by omega) (fun w => by rw [z3] at w; cases w.2.2), fun z3 => ?_⟩⟩⟩, fun z => ?_⟩
      · rw [if_neg (by omega), if_pos ⟨z1, z2, z3⟩] at h
        have o9 := b1.2.2.2.2.2.2.2.2.1
        refine c_rSize zr19 hc2.2.2.2.1 (c_rReplace zr19 hc2.2.2.2.1 o9 (y_rs (by omega) (by omega)) (fun w => ?_) (fun w0 w1 => ?_))
        · refine h D2 (cl_same3 hc2 ?_)
          have : y_l S2 3 = [] := List.eq_nil_of_length_eq_zero (by omega)
          rw [this]; rfl
        · rw [show (((y_l S2 3).length : Int) - 1).toNat = (y_l S2 3).length - 1 by omega]
          exact h _ (cl_set3 hc2 (by omega) 2)
      · rw [if_pos z] at h
        refine c_rTakeLast zr19 hc2.2.2.2.1 b1.2.2.2.2.2.2.2.2.1 (fun e => ?_) (fun u x e hr' => ?_)
        · refine h D2 (cl_same3 hc2 ?_)
          rw [e]; rfl
        · refine h _ ?_
          have := cl_cut3 hc2 (m := u.length) (by rw [e]; simp)
          rw [e, List.take_left' rfl] at this
          rw [e, List.dropLast_concat]
          exact this
    refine ⟨y_rs (by omega) (by omega), fun z => ⟨y_rs (by omega) (by omega), fun z1 => fin dp ?_, fun z1 => by omega⟩, fun z => ⟨fun z1 => ⟨y_rs (by omega) (by omega), fun z2 => fin dp ?_, fun z2 => fin (dp + (-1)) ?_⟩, fun z1 => fin (dp + 1) ?_⟩⟩
    · rw [if_neg (by omega), if_neg z1]
    · rw [if_neg (by omega), if_neg z2]
    · rw [if_neg (by omega), if_pos z2]; omega
    · rw [if_pos ⟨z, z1⟩]
theorem c_spelledN {m : Nat} {K : Int → z_D → Prop} (h : K (y_sp ((m % 256 : Nat) : Int)) D) : z_c n (d + 1) 87 [.int (z_i (z_li (lN m)))] D (z_qI K T) := r_tSpelled (by
  unfold w_tSpelled_0
  rw [y_and_li]
  unfold y_sp at h
  exact ⟨fun c => by rw [if_neg c] at h; exact h, fun c => by rw [if_pos c] at h; exact h⟩)
theorem cl_hdAt {k : Nat} {q : List Int × Bool} {K : Int64 → z_D → Prop} (hc : y_cls B tr S D) (ho : y_ok st S) (e : (y_nm S)[k]? = some q) (h : K (y_hd q.1) D) : z_c n (d + 1) 12 [.ref 4, .int (z_i (k : Int))] D (z_qL K T) := by
  have e4 : D.1 4 3 = ((y_nm S).length : Int) := hc.2.2.2.2.2.2.2.2.2.1.1
  have on : (y_nm S).length ≤ 118 := ho.2.2.2.2.2.2.2.2.2.2.2.2.2.2.2.2.2.2.2.1.2
  have hk := (List.getElem?_eq_some_iff.mp e).1
  refine r_nHeadAt ?_
  unfold w_nHeadAt_0
  rw [e4]
  refine ⟨y_rs (by omega) (by omega), fun c => by omega, fun _ => ⟨y_rs (by omega) (by omega), fun c => by omega, fun c => ⟨fun c1 => by omega, fun c1 => ⟨by omega, ?_⟩⟩⟩⟩
  rw [show ((k : Int)).toNat = k by omega, (hc.2.2.2.2.2.2.2.2.2.2.1 k q e).1]
  exact h
theorem cl_tlAt {k : Nat} {q : List Int × Bool} {K : Int64 → z_D → Prop} (hc : y_cls B tr S D) (ho : y_ok st S) (e : (y_nm S)[k]? = some q) (h : K (y_tl q) D) : z_c n (d + 1) 13 [.ref 4, .int (z_i (k : Int))] D (z_qL K T) := by
  have e4 : D.1 4 3 = ((y_nm S).length : Int) := hc.2.2.2.2.2.2.2.2.2.1.1
  have on : (y_nm S).length ≤ 118 := ho.2.2.2.2.2.2.2.2.2.2.2.2.2.2.2.2.2.2.2.1.2
  have hk := (List.getElem?_eq_some_iff.mp e).1
  refine r_nTailAt ?_
  unfold w_nTailAt_0
  rw [e4]
  refine ⟨y_rs (by omega) (by omega), fun c => by omega, fun _ => ⟨y_rs (by omega) (by omega), fun c => by omega, fun c => ⟨fun c1 => by omega, fun c1 => ⟨by omega, ?_⟩⟩⟩⟩
  rw [show ((k : Int)).toNat = k by omega, (hc.2.2.2.2.2.2.2.2.2.2.1 k q e).2]
  exact h
theorem y_N_0 {x : List Int} (hx : x.length ≤ 8) (hd : y_dig x) : lN (y_N x) = 0 ↔ x = [] := by
  constructor
  · intro e
    rcases y_snoc x with z | ⟨t, a, rfl⟩
    · exact z
    · have h1 := y_lNi (a := y_N (t ++ [a])) (b := 0) e
      have h2 := y_N_lt (t ++ [a]) hd
      have h3 : 256 ^ (t ++ [a]).length ≤ 256 ^ 8 := Nat.pow_le_pow_right (by decide) hx
      rw [y_N_snoc] at h1 h2
      have := hd a (by simp)
      omega
  · intro e; rw [e]; rfl
/-- a digit is put back, the others are left -/
theorem y_N_step {x : List Int} {c : Int} (hx : (x ++ [c]).length ≤ 8) (hd : y_dig (x ++ [c])) : ((y_N (x ++ [c]) % 256 : Nat) : Int) = c ∧ z_usr (lN (y_N (x ++ [c]))) 8 = lN (y_N x) := by
  have h2 := y_N_lt (x ++ [c]) hd
  have h3 : 256 ^ (x ++ [c]).length ≤ 256 ^ 8 := Nat.pow_le_pow_right (by decide) hx
  have hc := hd c (by simp)
  rw [y_usr _ y_i8 (by decide)]
  rw [y_N_snoc] at h2 ⊢
  refine ⟨by omega, congrArg lN ?_⟩
  rw [Nat.mod_eq_of_lt (by omega)]
  omega
theorem c_spell {K : z_D → Prop} (hc : y_cls B 0 S D) (ho : y_ok st S) (h : y_fin (y_str S) (fun _ S' => ∀ D', y_cls B 0 S' D' → K D') (y_cT B.1 T)) : z_c n (d + 3) 86 [.ref 0] D (z_qV K T) := by
  refine r_tSpell
    (fun m a1 hh k D' => ∃ (S1 : y_S) (i : Nat) (ls : List Int) (bb : Bool) (a x : List Int), a1 = 4096 + (i : Int) ∧ y_cls B 0 S1 D' ∧ y_ok st S1 ∧ (y_nm S1)[i]? = some (ls, bb) ∧ y_dig x ∧ (∀ c ∈ x, y_code c = true) ∧ (∀ c ∈ a, y_code c = true) ∧ hh = lN (y_N x) ∧ 0 ≤ k ∧ k + x.length ≤ 8 ∧ a.length ≤ 3 ∧ (bb = true → a = []) ∧ y_tl (ls, false) = lN (y_N a) ∧ m = x.length + 100 ∧ y_fin (y_puts (x.reverse.map y_sp ++ (a.reverse.map y_sp ++ (if bb then [] else [y_sp 92]))) S1) (fun _ S' => ∀ D', y_cls B 0 S' D' → K D') (y_cT B.1 T))
    (fun m _ hh k D' => ∃ S1 x, y_cls B 0 S1 D' ∧ y_ok st S1 ∧ y_dig x ∧ (∀ c ∈ x, y_code c = true) ∧ hh = lN (y_N x) ∧ 0 ≤ k ∧ k + x.length ≤ 8 ∧ m = x.length ∧ y_fin (y_puts (x.reverse.map y_sp ++ [y_sp 92]) S1) (fun _ S' => ∀ D', y_cls B 0 S' D' → K D') (y_cT B.1 T))
    (c_get hc ho (y_gk (yo_getT ho) h (fun t S1 ⟨k1, k2, k3, _⟩ h D1 hc1 => ?_))) ?_ ?_
  · have hr := y_tk_r k3 k1.2.2.2.2.2.2.2.2.2.2.2.2.2.2.2.2.2.2.2.1.2
    have ht := y_un_tp k3 k1.2.2.2.2.2.2.2.2.2.2.2.2.2.2.2.2.2.2.2.1.2
    have hu := y_tp_r ht k1.2.2.2.2.2.2.2.2.2.2.2.2.2.2.2.2.2.2.2.1.2
    dsimp only at h
    refine c_tUnmarked (by omega) (by omega) ⟨y_rs (by omega) (by omega), fun c => ?_, fun c => ?_⟩
    · rw [if_neg (by omega)] at h
      have hnt := y_tp_nt ht c
      have hnt : 4096 ≤ y_un t ∧ y_un t < 4096 + ((y_nm S1).length : Int) := hnt
      have hi : (y_un t - 4096).toNat < (y_nm S1).length := by omega
      generalize hiz : (y_un t - 4096).toNat = i at *
      have ei : y_un t - 4096 = (i : Int) := by omega
      cases e : (y_nm S1)[i]? with
      | none =>
        have := List.getElem?_eq_none_iff.mp e
        omega
      | some q =>
        obtain ⟨ls, bb⟩ := q
        rw [e] at h
        dsimp only at h
        have hno := k1.2.2.2.2.2.2.2.2.2.2.2.2.2.2.2.2.2.2.2.2.1 _ (List.mem_of_getElem? e)
        have hdg := y_dig_code hno.2.2.1
        obtain ⟨a, b, s1, s2, s3, s4, s5, s6⟩ := y_split hno.2.1 hdg
        have s1 : ls = a ++ b := s1
        have hca : ∀ c ∈ a, y_code c = true := fun c hc => hno.2.2.1 c (by show c ∈ ls; rw [s1]; simp [hc])
        have hcb : ∀ c ∈ b, y_code c = true := fun c hc => hno.2.2.1 c (by show c ∈ ls; rw [s1]; simp [hc])
        rw [ei]
        refine cl_hdAt hc1 k1 e ⟨_, S1, i, ls, bb, a, b, by omega, hc1, k1, e, y_dig_code hcb, hcb, hca, s4, Int.le_refl _, by omega, s3, fun z => ?_, s5, rfl, ?_⟩
        · have := hno.2.2.2 z
          have hlen : ls.length = 1 := this
          rw [s1] at hlen
          simp at hlen
          cases a with
          | nil => rfl
          | cons y ys =>
            have := s6 (by simp)
            simp at hlen
            omega
        · rw [← List.append_assoc, ← List.map_append, ← List.reverse_append, ← s1]
          exact h
    · rw [if_pos c] at h
      exact c_tSpelled (by omega) (by omega) (c_put hc1 k1 h)
  · rintro mm a1 hh k D' ⟨S1, i, ls, bb, a, x, rfl, hc1, ho1, e, hdx, hcx, hca, rfl, k0, k8, ha3, hba, htl, rfl, h⟩
    have on : (y_nm S1).length ≤ 118 := ho1.2.2.2.2.2.2.2.2.2.2.2.2.2.2.2.2.2.2.2.1.2
    have hi := (List.getElem?_eq_some_iff.mp e).1
    have hno := ho1.2.2.2.2.2.2.2.2.2.2.2.2.2.2.2.2.2.2.2.2.1 _ (List.mem_of_getElem? e)
    have done : x = [] → w_tSpell_74 n (d + 2) (4096 + (i : Int)) (lN (y_N x)) D' (fun _ hh k D' => ∃ m, m < x.length + 100 ∧ ∃ S1 x, y_cls B 0 S1 D' ∧ y_ok st S1 ∧ y_dig x ∧ (∀ c ∈ x, y_code c = true) ∧ hh = lN (y_N x) ∧ 0 ≤ k ∧ k + x.length ≤ 8 ∧ m = x.length ∧ y_fin (y_puts (x.reverse.map y_sp ++ [y_sp 92]) S1) (fun _ S' => ∀ D', y_cls B 0 S' D' → K D') (y_cT B.1 T)) K T := by
      intro ex
      subst ex
      unfold w_tSpell_74
      rw [show 4096 + (i : Int) - 4096 = (i : Int) by omega]
      refine cl_tlAt hc1 ho1 e ?_
      cases bb with
      | true =>
        have := hba rfl
        subst this
        refine ⟨fun c => absurd ((y_cmp0 _ _).mpr rfl) c, fun _ => h D' hc1⟩
      | false =>
        refine ⟨fun _ => ⟨_, ?_, S1, a, hc1, ho1, y_dig_code hca, hca, htl, Int.le_refl _, by omega, rfl, h⟩, fun c => absurd ((y_cmp0 _ _).mp c) (y_tl_m1 hno.2.1 (y_dig_code hno.2.2.1))⟩
        simp
        omega
    refine ⟨y_rs (by omega) (by omega), fun c => done (List.eq_nil_of_length_eq_zero (by omega)), fun c => ⟨fun c1 => done ((y_N_0 (by omega) hdx).mp ((y_cmp0 _ _).mp c1)), fun c1 => ?_⟩⟩
    rcases y_snoc x with z | ⟨u, v, rfl⟩
    · exact absurd ((y_cmp0 _ _).mpr (by rw [z]; rfl)) c1
    · have hlen : (u ++ [v]).length = u.length + 1 := by simp
      obtain ⟨s1, s2⟩ := y_N_step (by omega) hdx
      rw [List.reverse_append, List.map_append] at h
      refine c_spelledN ?_
      rw [s1]
      refine c_put hc1 ho1 (y_gk (yo_putn ho1 (y_sp_tk (hcx v (by simp)))) h (fun _ S2 ⟨b1, b2, b3⟩ h D2 hc2 => ?_))
      rw [s2]
      refine ⟨_, ?_, S2, i, ls, bb, a, u, rfl, hc2, b1, by rw [b3]; exact e, fun c hc => hdx c (by simp [hc]), fun c hc => hcx c (by simp [hc]), hca, rfl, by omega, by omega, ha3, hba, htl, rfl, h⟩
      omega
  · rintro mm y1 hh k D' ⟨S1, x, hc1, ho1, hdx, hcx, rfl, k0, k8, rfl, h⟩
    have done : x = [] → w_tSpell_138 n (d + 2) y1 (lN (y_N x)) D' K T := by
      intro ex
      subst ex
      have h' : y_fin (y_bd (y_put (y_sp 92) S1) (fun _ S2 => .inl ((), S2))) (fun _ S' => ∀ D', y_cls B 0 S' D' → K D') (y_cT B.1 T) := h
      exact c_tSpelled (by decide) (by decide) (c_put hc1 ho1 (y_gk (yo_putn ho1 (y_sp_tk (c := 92) (by decide))) h' (fun _ S2 _ h D2 hc2 => h D2 hc2)))
    refine ⟨y_rs (by omega) (by omega), fun c => done (List.eq_nil_of_length_eq_zero (by omega)), fun c => ⟨fun c1 => done ((y_N_0 (by omega) hdx).mp ((y_cmp0 _ _).mp c1)), fun c1 => ?_⟩⟩
    rcases y_snoc x with z | ⟨u, v, rfl⟩
    · exact absurd ((y_cmp0 _ _).mpr (by rw [z]; rfl)) c1
    · have hlen : (u ++ [v]).length = u.length + 1 := by simp
      obtain ⟨s1, s2⟩ := y_N_step (by omega) hdx
      rw [List.reverse_append, List.map_append] at h
      refine c_spelledN ?_
      rw [s1]
      refine c_put hc1 ho1 (y_gk (yo_putn ho1 (y_sp_tk (hcx v (by simp)))) h (fun _ S2 ⟨b1, b2, b3⟩ h D2 hc2 => ?_))
      rw [s2]
      refine ⟨_, ?_, S2, u, hc2, b1, fun c hc => hdx c (by simp [hc]), fun c hc => hcx c (by simp [hc]), rfl, by omega, by omega, rfl, h⟩
      omega
end CP
