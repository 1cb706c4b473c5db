/-! contracts of the class: an expansion -/
theorem y_cnt_cons (t : Int) (l : List Int) : y_cnt (t :: l) = (if 8192 ≤ t then 1 else 0) + y_cnt l := by
  unfold y_cnt
  by_cases c : 8192 ≤ t
  · rw [if_pos c, List.filter_cons_of_pos (by simpa using c), List.length_cons]; omega
  · rw [if_neg c, List.filter_cons_of_neg (by simpa using c)]; omega
theorem y_cnt_skip {l : List Int} : ∀ (m k : Nat), k + m ≤ l.length → (∀ j, k ≤ j → j < k + m → l[j]?.getD 0 < 8192) → y_cnt (l.drop k) = y_cnt (l.drop (k + m))
  | 0, k, _, _ => rfl
  | m + 1, k, h, hj => by
    have hk : k < l.length := by omega
    have h0 := hj k (Nat.le_refl _) (by omega)
    rw [List.getElem?_eq_getElem hk] at h0
    have h0 : l[k] < 8192 := h0
    rw [List.drop_eq_getElem_cons hk, y_cnt_cons, if_neg (by omega), Nat.zero_add, y_cnt_skip m (k + 1) (by omega) (fun j j1 j2 => hj j (by omega) (by omega))]
    rw [show k + 1 + m = k + (m + 1) by omega]
theorem y_cnt_next {l : List Int} {k : Nat} (hk : k < l.length) (h8 : 8192 ≤ l[k]?.getD 0) : y_cnt (l.drop k) = 1 + y_cnt (l.drop (y_nxt l (k + 1))) := by
  obtain ⟨a1, a2, a3, a4⟩ := y_nxt_r (l := l) (k := k + 1) (by omega)
  rw [List.getElem?_eq_getElem hk] at h8
  have h8 : 8192 ≤ l[k] := h8
  rw [List.drop_eq_getElem_cons hk, y_cnt_cons, if_pos h8]
  have := y_cnt_skip (l := l) (y_nxt l (k + 1) - (k + 1)) (k + 1) (by omega) (fun j j1 j2 => a3 j j1 (by omega))
  rw [show k + 1 + (y_nxt l (k + 1) - (k + 1)) = y_nxt l (k + 1) by omega] at this
  rw [this]
theorem y_cnt_first (l : List Int) : y_cnt l = y_cnt (l.drop (y_nxt l 0)) := by
  obtain ⟨a1, a2, a3, a4⟩ := y_nxt_r (l := l) (k := 0) (by omega)
  have := y_cnt_skip (l := l) (y_nxt l 0) 0 (by omega) (fun j j1 j2 => a3 j j1 (by omega))
  rw [Nat.zero_add] at this
  exact this
theorem cl_sa {B : y_B} {D : z_D} {tr : Int} {S : y_S} {p : Nat} {v : Option (List Int)} (h : y_cls B tr S D) (hp : p < 4) : y_cls B tr (y_sa S p v) D := by
  obtain ⟨a1, a2, a3, a4, a5, a6, a7, a8, a9⟩ := h.2.2.2.2.2.2.2.2.2.2.2.2.2.2.2.2.2.2.2.1
  refine ⟨h.1, h.2.1, h.2.2.1, h.2.2.2.1, h.2.2.2.2.1, h.2.2.2.2.2.1, h.2.2.2.2.2.2.1, h.2.2.2.2.2.2.2.1, h.2.2.2.2.2.2.2.2.1, h.2.2.2.2.2.2.2.2.2.1, h.2.2.2.2.2.2.2.2.2.2.1, h.2.2.2.2.2.2.2.2.2.2.2.1, h.2.2.2.2.2.2.2.2.2.2.2.2.1, h.2.2.2.2.2.2.2.2.2.2.2.2.2.1, h.2.2.2.2.2.2.2.2.2.2.2.2.2.2.1, h.2.2.2.2.2.2.2.2.2.2.2.2.2.2.2.1, h.2.2.2.2.2.2.2.2.2.2.2.2.2.2.2.2.1, h.2.2.2.2.2.2.2.2.2.2.2.2.2.2.2.2.2.1, h.2.2.2.2.2.2.2.2.2.2.2.2.2.2.2.2.2.2.1, ⟨a1, a2, a3, a4, a5, fun l e => a6 l ?_, fun l e => a7 l ?_, a8, a9⟩, h.2.2.2.2.2.2.2.2.2.2.2.2.2.2.2.2.2.2.2.2⟩
  · have e' : am_u1 (y_a S) p v 4 = some l := e
    unfold am_u1 at e'
    rw [if_neg (by omega)] at e'
    exact e'
  · have e' : am_u1 (y_a S) p v 5 = some l := e
    unfold am_u1 at e'
    rw [if_neg (by omega)] at e'
    exact e'
section CY
variable {n : Nat}
set_option maxRecDepth 20000 in
theorem c_ex : ∀ (f : Nat) (j : Int), 31 ≤ (f : Int) + j → ∀ e, 13 + 3 * f ≤ e → y_hc n e j (y_ex f)
  | 0, j, hj, e, he => fun B st S D m K T hc ho hm hs h => by
    have := ho.2.2.2.2.2.2.2.2.2.2.2.2.2.2.2.2.2.2.2.2.2.2.2.2.1
    omega
  | f + 1, j, hj, e, he => fun B st S D m K T hc ho hm hs h => by
    obtain ⟨d, rfl⟩ : ∃ d, e = d + 13 := ⟨e - 13, by omega⟩
    have Hx : ∀ e, 13 + 3 * f ≤ e → y_hc n e (j + 1) (y_ex f) := fun e he => c_ex f (j + 1) (by omega) e he
    have Ho : ∀ st, y_hx st (y_ex f) := fun st => yo_ex f
    have o4 := ho.2.2.2.2.2.2.2.2.2.2.2.2.2.2.2.2.2.2.2.2.2.2.2.1
    have o5 := ho.2.2.2.2.2.2.2.2.2.2.2.2.2.2.2.2.2.2.2.2.2.2.2.2.1
    have hmr := y_mn_r hm ho.2.2.2.2.2.2.2.2.2.2.2.2.2.2.2.2.2.2.2.2.2.1
    have e12 : D.1 0 12 = y_s S 4 := hc.2.2.2.2.2.2.2.2.2.2.2.2.2.2.2.2.1
    have e13 : D.1 0 13 = y_s S 5 := hc.2.2.2.2.2.2.2.2.2.2.2.2.2.2.2.2.2.1
    unfold y_ex at h
    have fin : ∀ (A : Nat → Option (List Int)) (S1 : y_S) (D4 : z_D), y_cls (B, A) 0 S1 D4 → (∀ D', y_cls (B, y_A0) 0 (y_ss S1 5 (y_s S1 5 - 1)) D' → K D') → ∀ D5, D5 = z_uz D4 0 13 ((D4.1 0 13) - 1) → K D5 := by
      intro A S1 D4 hc4 hK D5 e5
      have e : D4.1 0 13 = y_s S1 5 := hc4.2.2.2.2.2.2.2.2.2.2.2.2.2.2.2.2.2.1
      rw [e] at e5
      refine hK D5 ?_
      rw [e5]
      exact cl_weak (cl_s5 hc4 _) (fun i x _ z => by cases z)
    have bad : (200 ≤ y_s S 4 ∨ 30 ≤ y_s S 5) → ∀ H, w_tExpand_19 n (d + 12) m D H K T := by
      intro c H
      rw [if_pos c] at h
      exact c_fault hc h
    refine r_tExpand (fun mm a2 a3 a4 D' => ∃ (i k p : Nat) (q : List Int × List Int × Int) (S1 : y_S) (A : Nat → Option (List Int)), a2 = B.2.2 i ∧ i < 60 ∧ (y_mac S1)[i]? = some q ∧ a3 = (k : Int) ∧ a4 = (p : Int) ∧ y_cls (B, A) 0 S1 D' ∧ y_ok st S1 ∧ (p : Int) ≤ q.2.2 ∧ k ≤ q.1.length ∧ (k < q.1.length → 8192 ≤ q.1[k]?.getD 0) ∧ (y_cnt (q.1.drop k) : Int) = q.2.2 - p ∧ (∀ j, j < p → ∃ l, y_a S1 j = some l ∧ A j = some l) ∧ y_fin (y_bd (y_args q.1 (q.2.2.toNat - p) p k S1) (fun _ S2 => y_puts (y_body S2 q.2.1).reverse S2)) (fun _ S1 => ∀ D', y_cls (B, y_A0) 0 (y_ss S1 5 (y_s S1 5 - 1)) D' → K D') (y_cT B T) ∧ mm = q.2.2.toNat - p) ?_ ?_
    · unfold w_tExpand_0
      rw [e12, e13]
      have w25 : ¬ (200 ≤ y_s S 4 ∨ 30 ≤ y_s S 5) → w_tExpand_25 n (d + 12) m D (fun a2 a3 a4 D' => ∃ mm, ∃ (i k p : Nat) (q : List Int × List Int × Int) (S1 : y_S) (A : Nat → Option (List Int)), a2 = B.2.2 i ∧ i < 60 ∧ (y_mac S1)[i]? = some q ∧ a3 = (k : Int) ∧ a4 = (p : Int) ∧ y_cls (B, A) 0 S1 D' ∧ y_ok st S1 ∧ (p : Int) ≤ q.2.2 ∧ k ≤ q.1.length ∧ (k < q.1.length → 8192 ≤ q.1[k]?.getD 0) ∧ (y_cnt (q.1.drop k) : Int) = q.2.2 - p ∧ (∀ j, j < p → ∃ l, y_a S1 j = some l ∧ A j = some l) ∧ y_fin (y_bd (y_args q.1 (q.2.2.toNat - p) p k S1) (fun _ S2 => y_puts (y_body S2 q.2.1).reverse S2)) (fun _ S1 => ∀ D', y_cls (B, y_A0) 0 (y_ss S1 5 (y_s S1 5 - 1)) D' → K D') (y_cT B T) ∧ mm = q.2.2.toNat - p) K T := by
        intro c D1 e1 D2 e2
        rw [if_neg c] at h
        have h := y_fbi h
        have hc2 : y_cls (B, y_A0) 0 (y_ss (y_ss S 4 (y_s S 4 + 1)) 5 (y_s S 5 + 1)) D2 := by
          have e13' : D1.1 0 13 = y_s S 5 := by rw [e1]; exact e13
          rw [e13'] at e2
          rw [e2, e1, e12]
          exact cl_s5 (cl_s4 hc _) _
        have ho2 : y_ok st (y_ss (y_ss S 4 (y_s S 4 + 1)) 5 (y_s S 5 + 1)) := y_ok_s5 (y_ok_s4 ho (by omega) (by omega)) (by omega) (by omega)
        have hs2 : y_s (y_ss (y_ss S 4 (y_s S 4 + 1)) 5 (y_s S 5 + 1)) 5 = j + 1 := by
          show y_s S 5 + 1 = j + 1
          omega
        have hm2 : y_mn (y_mm (y_ss (y_ss S 4 (y_s S 4 + 1)) 5 (y_s S 5 + 1))) m := hm
        generalize y_ss (y_ss S 4 (y_s S 4 + 1)) 5 (y_s S 5 + 1) = S2 at *
        have h : y_fin (y_exb (y_ex f) m S2) (fun _ S1 => ∀ D', y_cls (B, y_A0) 0 (y_ss S1 5 (y_s S1 5 - 1)) D' → K D') (y_cT B T) := h
        have fin0 := fun (S1 : y_S) (D4 : z_D) (hc4 : y_cls (B, y_A0) 0 S1 D4) hK D5 e5 => fin y_A0 S1 D4 hc4 hK D5 e5
        unfold y_exb at h
        -- a macro, or nothing
        have mac : ¬ m = 8 → ¬ m = 9 → ¬ m = 10 → ¬ m = 12 → ¬ (13 ≤ m ∧ m ≤ 16) → ¬ m = 17 → ¬ m = 18 → ∀ (H : Nat → Int → Int → z_D → Prop), (∀ a2 a3 a4 D', (∃ mm, ∃ (i k p : Nat) (q : List Int × List Int × Int) (S1 : y_S) (A : Nat → Option (List Int)), a2 = B.2.2 i ∧ i < 60 ∧ (y_mac S1)[i]? = some q ∧ a3 = (k : Int) ∧ a4 = (p : Int) ∧ y_cls (B, A) 0 S1 D' ∧ y_ok st S1 ∧ (p : Int) ≤ q.2.2 ∧ k ≤ q.1.length ∧ (k < q.1.length → 8192 ≤ q.1[k]?.getD 0) ∧ (y_cnt (q.1.drop k) : Int) = q.2.2 - p ∧ (∀ j, j < p → ∃ l, y_a S1 j = some l ∧ A j = some l) ∧ y_fin (y_bd (y_args q.1 (q.2.2.toNat - p) p k S1) (fun _ S2 => y_puts (y_body S2 q.2.1).reverse S2)) (fun _ S1 => ∀ D', y_cls (B, y_A0) 0 (y_ss S1 5 (y_s S1 5 - 1)) D' → K D') (y_cT B T) ∧ mm = q.2.2.toNat - p) → H a2 a3 a4 D') → z_c n (d + 12) 58 [.ref 0, .int (z_i m)] D2 (z_qR (fun D13 => ∀ D15, D15 = z_uz D13 0 13 ((D13.1 0 13) - 1) → K D15) (fun m14 D13 => (z_mc m14) ∧ z_c n (d + 12) 80 [.ref 0, .ref (m14 + 1)] D13 (z_qI (fun v18 D17 => H m14 v18 0 D17) T)) T) := by
          intro q1 q2 q3 q4 q5 q6 q7 H hH
          rw [if_neg q1, if_neg q2, if_neg q3, if_neg q4, if_neg q5, if_neg q6, if_neg q7] at h
          refine c_macroOf hc2 ho2 hm2 (fun e => ?_) (fun q e m0 m1 m3 => ?_)
          · rw [e] at h
            exact fun D15 e15 => fin0 S2 D2 hc2 h D15 e15
          · rw [e] at h
            have h : y_fin (y_call q S2) (fun _ S1 => ∀ D', y_cls (B, y_A0) 0 (y_ss S1 5 (y_s S1 5 - 1)) D' → K D') (y_cT B T) := h
            have hk := y_mcr_ok ho2 e
            obtain ⟨n1, n2, n3, n4⟩ := y_nxt_r (l := q.1) (k := 0) (by omega)
            have hz := (cl_mac hc2 m1 m3).1
            refine ⟨hz, c_match hc2 ho2 m1 m3 (y_gk (yo_match _ S2 ho2) h (fun _ S3 ⟨b1, b2⟩ h D3 hc3 => hH _ _ _ _ ⟨_, (m - 4096).toNat, y_nxt q.1 0, 0, q, S3, y_A0, rfl, m1, by rw [b2.2.1]; exact m3, rfl, rfl, hc3, b1, hk.2.2.1, n2, n4, ?_, fun j hj => by omega, h, rfl⟩))⟩
            rw [← y_cnt_first, hk.1.2.1]
            simp
        refine ⟨y_rs (by omega) (by omega), fun q => ?_, fun q => ?_, fun q => ?_, fun q => mac (by omega) (by omega) (by omega) (by omega) (by omega) (by omega) (by omega) _ (fun _ _ _ _ z => z), fun q => ?_, fun q => ?_, fun q => ?_, fun q => ?_, fun q => ?_, fun q => ?_, fun q => ?_, fun q8 q9 q10 q11 q12 q13 q14 q15 q16 q17 q18 => mac q8 q9 q10 q12 (by omega) q17 q18 _ (fun _ _ _ _ z => z)⟩
        · rw [if_pos q] at h
          exact c_after (d := d + 1) Hx Ho (by omega) hc2 ho2 hs2 (y_om h (fun _ S1 hK D4 hc4 D5 e5 => fin0 S1 D4 hc4 hK D5 e5))
        · rw [if_neg (by omega), if_pos q] at h
          exact c_mark hc2 ho2 (y_om h (fun _ S1 hK D4 hc4 D5 e5 => fin0 S1 D4 hc4 hK D5 e5))
        · rw [if_neg (by omega), if_neg (by omega), if_pos q] at h
          refine c_cs Hx Ho (by omega) hc2 ho2 hs2 h (fun k S3 D3 hc3 ho3 hk h3 => ?_)
          have on3 : (y_nm S3).length ≤ 118 := ho3.2.2.2.2.2.2.2.2.2.2.2.2.2.2.2.2.2.2.2.1.2
          have htk : y_tk (y_nn S3) (4096 + (k : Int)) := Or.inr (Or.inl ⟨by omega, by show 4096 + (k : Int) < 4096 + ((y_nm S3).length : Int); omega⟩)
          have hky : y_ky (y_nn S3) (4096 + (k : Int)) := Or.inr ⟨by omega, by show 4096 + (k : Int) < 4096 + ((y_nm S3).length : Int); omega⟩
          have hr := y_mn_r (y_mo_ok ho3 htk) ho3.2.2.2.2.2.2.2.2.2.2.2.2.2.2.2.2.2.2.2.2.2.1
          refine c_mo hc3 ho3 htk ⟨y_rs (by omega) (by omega), fun c => ?_, fun c => ?_⟩
          · rw [if_neg c, y_bd_inl] at h3
            exact c_put hc3 ho3 (y_om h3 (fun _ S1 hK D4 hc4 D5 e5 => fin0 S1 D4 hc4 hK D5 e5))
          · rw [if_pos c] at h3
            exact c_change hc3 ho3 hky (y_gk (yo_chg ho3 hky ⟨fun z => by omega, fun _ => Or.inl (by decide)⟩) h3 (fun _ S4 ⟨c1, c2⟩ h D4 hc4 => c_put hc4 c1 (y_om h (fun _ S1 hK D4 hc4 D5 e5 => fin0 S1 D4 hc4 hK D5 e5))))
        · rw [if_neg (by omega), if_neg (by omega), if_neg (by omega), if_pos q] at h
          exact c_spell hc2 ho2 (y_om h (fun _ S1 hK D4 hc4 D5 e5 => fin0 S1 D4 hc4 hK D5 e5))
        · rw [if_neg (by omega), if_neg (by omega), if_neg (by omega), if_neg (by omega), if_pos (by omega)] at h
          exact c_cond Hx Ho (by omega) hc2 ho2 hs2 (by omega) h (fun S' D' hc' hK => ⟨fun _ D5 e5 => fin0 S' D' hc' hK D5 e5, fun z => (by cases z)⟩) (fun S' D' hc' ho' hp => ⟨fun z => (by cases z), fun _ => c_pass hc' ho' (y_om hp (fun _ S1 hK D4 hc4 D5 e5 => fin0 S1 D4 hc4 hK D5 e5))⟩)
        · rw [if_neg (by omega), if_neg (by omega), if_neg (by omega), if_neg (by omega), if_pos (by omega)] at h
          exact c_cond Hx Ho (by omega) hc2 ho2 hs2 (by omega) h (fun S' D' hc' hK => ⟨fun _ D5 e5 => fin0 S' D' hc' hK D5 e5, fun z => (by cases z)⟩) (fun S' D' hc' ho' hp => ⟨fun z => (by cases z), fun _ => c_pass hc' ho' (y_om hp (fun _ S1 hK D4 hc4 D5 e5 => fin0 S1 D4 hc4 hK D5 e5))⟩)
        · rw [if_neg (by omega), if_neg (by omega), if_neg (by omega), if_neg (by omega), if_pos (by omega)] at h
          exact c_cond Hx Ho (by omega) hc2 ho2 hs2 (by omega) h (fun S' D' hc' hK => ⟨fun _ D5 e5 => fin0 S' D' hc' hK D5 e5, fun z => (by cases z)⟩) (fun S' D' hc' ho' hp => ⟨fun z => (by cases z), fun _ => c_pass hc' ho' (y_om hp (fun _ S1 hK D4 hc4 D5 e5 => fin0 S1 D4 hc4 hK D5 e5))⟩)
        · rw [if_neg (by omega), if_neg (by omega), if_neg (by omega), if_neg (by omega), if_pos (by omega)] at h
          exact c_cond Hx Ho (by omega) hc2 ho2 hs2 (by omega) h (fun S' D' hc' hK => ⟨fun _ D5 e5 => fin0 S' D' hc' hK D5 e5, fun z => (by cases z)⟩) (fun S' D' hc' ho' hp => ⟨fun z => (by cases z), fun _ => c_pass hc' ho' (y_om hp (fun _ S1 hK D4 hc4 D5 e5 => fin0 S1 D4 hc4 hK D5 e5))⟩)
        · rw [if_neg (by omega), if_neg (by omega), if_neg (by omega), if_neg (by omega), if_neg (by omega), if_pos q] at h
          refine c_rLast zr19 hc2.2.2.2.1 ho2.2.2.2.2.2.2.2.2.1 ?_
          rcases y_snoc (y_l S2 3) with z | ⟨u, x, z⟩
          · rw [z] at h ⊢
            exact ⟨z_rk rfl, fun w => (by cases w), fun _ => c_fault hc2 h⟩
          · have hx := ho2.2.2.2.2.2.2.2.2.2.1 x (by rw [z]; simp)
            rw [z] at h ⊢
            simp only [List.getLast?_append, List.getLast?_singleton, Option.some_or, Option.getD_some, Option.some.injEq] at h ⊢
            refine ⟨y_rs (by omega) (by omega), fun w => ?_, fun w => ?_⟩
            · rw [if_pos w] at h
              exact c_pass hc2 ho2 (y_om h (fun _ S1 hK D4 hc4 D5 e5 => fin0 S1 D4 hc4 hK D5 e5))
            · rw [if_neg w] at h
              exact c_fault hc2 h
        · rw [if_neg (by omega), if_neg (by omega), if_neg (by omega), if_neg (by omega), if_neg (by omega), if_neg (by omega), if_pos q] at h
          refine c_rLast zr19 hc2.2.2.2.1 ho2.2.2.2.2.2.2.2.2.1 ?_
          rcases y_snoc (y_l S2 3) with z | ⟨u, x, z⟩
          · rw [z] at h ⊢
            exact ⟨z_rk rfl, fun w => by have w' : (0 : Int) < -1 := w; omega, fun _ => c_fault hc2 h⟩
          · have hx := ho2.2.2.2.2.2.2.2.2.2.1 x (by rw [z]; simp)
            have hl4 := hc2.2.2.2.1
            have hl9 := ho2.2.2.2.2.2.2.2.2.1
            have hcut := cl_cut3 hc2 (m := u.length) (by rw [z]; simp)
            rw [z, List.take_left' rfl] at hcut
            rw [z] at h hl4 hl9 ⊢
            simp only [List.getLast?_append, List.getLast?_singleton, Option.some_or, Option.getD_some, List.dropLast_concat] at h ⊢
            refine ⟨y_rs (by omega) (by omega), fun w => ?_, fun w => ?_⟩
            · rw [if_neg (by omega)] at h
              refine c_rTakeLast zr19 hl4 hl9 (fun e => by simp at e) (fun t a e hr => ?_)
              have et : t = u := (List.append_inj' e rfl).1.symm
              subst et
              exact fun D5 e5 => fin0 _ _ hcut h D5 e5
            · rw [if_pos (by omega)] at h
              exact c_fault hc2 h
      exact ⟨y_rs (by omega) (by omega), fun c => bad (Or.inl c) _, fun c => ⟨y_rs (by omega) (by omega), fun c1 => w25 (by omega), fun c1 => bad (Or.inr c1) _⟩⟩
    · rintro mm a2 a3 a4 D' ⟨i, k, p, q, S1, A, rfl, hi, hq, rfl, rfl, hc1, ho1, hp, hk, hk8, hcnt, hA, h, rfl⟩
      have hkm := ho1.2.2.2.2.2.2.2.2.2.2.2.2.2.2.2.2.2.2.2.2.2.2.1 q (List.mem_of_getElem? hq)
      have hp4 := hkm.2.2
      obtain ⟨m1, m2, m3, m4⟩ := cl_mac hc1 hi hq
      have m4 : D'.1 (B.2.2 i) 2 = q.2.2 := m4
      have done : q.2.2 ≤ (p : Int) → w_tExpand_287 n (d + 12) (B.2.2 i) D' K T := by
        intro c
        rw [show q.2.2.toNat - p = 0 by omega] at h
        have h : y_fin (y_puts (y_body S1 q.2.1).reverse S1) (fun _ S1 => ∀ D', y_cls (B, y_A0) 0 (y_ss S1 5 (y_s S1 5 - 1)) D' → K D') (y_cT B T) := h
        refine ⟨m1, c_putBody hc1 ho1 hi hq (fun j hj => hA j (by omega)) (y_om h (fun _ S4 hK D4 hc4 D5 e5 => fin A S4 D4 hc4 hK D5 e5))⟩
      unfold w_tExpand_243
      rw [m4]
      refine ⟨m1, y_rs (by omega) (by omega), y_rs (by omega) (by omega), fun c => done c, fun c => ⟨fun c1 => by omega, fun c1 => ⟨by omega, ?_⟩⟩⟩
      rw [show ((p : Int)).toNat = p by omega]
      have hkl : k < q.1.length := by
        by_cases z : k < q.1.length
        · exact z
        · rw [List.drop_eq_nil_of_le (by omega)] at hcnt
          have : y_cnt ([] : List Int) = 0 := rfl
          omega
      rw [show q.2.2.toNat - p = (q.2.2.toNat - (p + 1)) + 1 by omega] at h
      unfold y_args at h
      have h' : y_fin (y_bd (y_take ((q.1.take (y_nxt q.1 (k + 1))).drop (k + 1)) S1) (fun l S2 => y_bd (y_args q.1 (q.2.2.toNat - (p + 1)) (p + 1) (y_nxt q.1 (k + 1)) (y_sa S2 p (some l))) (fun _ S2 => y_puts (y_body S2 q.2.1).reverse S2))) (fun _ S1 => ∀ D', y_cls (B, y_A0) 0 (y_ss S1 5 (y_s S1 5 - 1)) D' → K D') (y_cT B T) := by
        cases hg : y_take ((q.1.take (y_nxt q.1 (k + 1))).drop (k + 1)) S1 with
        | inl z => rw [hg] at h; exact h
        | inr z => rw [hg] at h; exact h
      obtain ⟨n1, n2, n3, n4⟩ := y_nxt_r (l := q.1) (k := k + 1) (by omega)
      refine c_take hc1 ho1 hi hq hkl (by omega) (y_gk (yo_take ho1) h' (fun l S2 ⟨b1, b2, b3, b4⟩ h D2 hc2 => ⟨_, ?_, i, y_nxt q.1 (k + 1), p + 1, q, y_sa S2 p (some l), am_u1 A p (some l), rfl, hi, ?_, rfl, by omega, cl_sa hc2 (by omega), y_ok_a b1 b3 b4, by omega, n2, n4, ?_, fun j hj => ?_, h, rfl⟩))
      · omega
      · show (y_mac S2)[i]? = some q
        rw [b2.2.1]; exact hq
      · have := y_cnt_next hkl (hk8 hkl)
        omega
      · show ∃ x, am_u1 (y_a S2) p (some l) j = some x ∧ am_u1 A p (some l) j = some x
        unfold am_u1
        by_cases z : j = p
        · rw [if_pos z, if_pos z]
          exact ⟨l, rfl, rfl⟩
        · rw [if_neg z, if_neg z, b2.2.2.1]
          exact hA j (by omega)
end CY
