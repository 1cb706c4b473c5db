/-! contracts of the class: bodies, definitions, steps -/
/-- the same beside, other places of the macros -/
abbrev y_bq (B : z_D) (p : Nat → Nat) : z_D := (B.1, B.2.1, p)
section CH
variable {n d : Nat} {tr st : Int} {S : y_S} {T : Nat → z_D → Prop}
/-- how a body's tokens are got -/
def y_g (b : Bool) : y_S → y_Re Int := if b then y_getx (y_ex 31) 201 else y_get true
theorem yo_g {b : Bool} : ∀ S, y_ok st S → y_fin (y_g b S) (fun t S' => y_ok st S' ∧ y_le S S' ∧ y_tk (y_nn S') t) (y_ok st) := by
  intro S hS
  unfold y_g
  cases b with
  | true => exact yo_getx (yo_ex 31) 201 S hS
  | false => exact y_om (yo_getT hS) (fun t S' ⟨q1, q2, q3, _⟩ => ⟨q1, y_lg_le q2, q3⟩)
theorem c_rbd {B D : z_D} {b : Bool} {tx : List Int} {p : Int} {K : z_D → Prop} (hc : y_cls (B, y_A0) 0 S D) (ho : y_ok st S) (hd : y_dr S tx [] p) (h : y_fin (y_rbd (y_g b) 41 0 S) (fun _ S' => ∀ D', y_cls (B, y_A0) 0 S' D' → K D') (y_cT B T)) : z_c n (d + 120) 76 [.ref 0, .int (z_i (z_b b))] D (z_qV K T) := by
  have hj0 : 0 ≤ y_s S 5 := ho.2.2.2.2.2.2.2.2.2.2.2.2.2.2.2.2.2.2.2.2.2.2.2.2.1.1
  have Hx : ∀ e, 106 ≤ e → y_hc n e (y_s S 5) (y_ex 31) := fun e he => c_ex 31 (y_s S 5) (by omega) e (by omega)
  have Ho : ∀ st, y_hx st (y_ex 31) := fun st => yo_ex 31
  obtain ⟨j, hj⟩ : ∃ j, y_s S 5 = j := ⟨_, rfl⟩
  rw [hj] at Hx
  refine r_tReadBody (fun m b1 dp a D' => b1 = b ∧ ∃ S1 bd, 0 ≤ a ∧ a ≤ 41 ∧ m = (41 - a).toNat ∧ 0 ≤ dp ∧ dp ≤ a ∧ y_cls (B, y_A0) 0 S1 D' ∧ y_ok st S1 ∧ y_s S1 5 = j ∧ y_dr S1 tx bd p ∧ y_fin (y_rbd (y_g b) (41 - a).toNat dp S1) (fun _ S' => ∀ D', y_cls (B, y_A0) 0 S' D' → K D') (y_cT B T)) ⟨_, rfl, S, [], by decide, by decide, rfl, by decide, by decide, hc, ho, hj, hd, by rw [show ((41 : Int) - 0).toNat = 41 by decide]; exact h⟩ ?_
  · rintro mm b1 dp a D' ⟨rfl, S1, bd, a0, a1, rfl, p0, p1, hc1, ho1, hj1, hd1, h⟩
    refine ⟨y_rs (by omega) (by omega), fun c => ?_, fun c => ?_⟩
    · rw [show (41 - a).toNat = 0 by omega] at h
      exact h D' hc1
    · rw [show (41 - a).toNat = (41 - (a + 1)).toNat + 1 by omega] at h
      unfold y_rbd at h
      have addb : ∀ (dq u : Int) (S3 : y_S) (D3 : z_D), 0 ≤ dq → dq ≤ a + 1 → y_cls (B, y_A0) 0 S3 D3 → y_ok st S3 → y_s S3 5 = j → y_dr S3 tx bd p → ((8193 ≤ u ∧ u < 8193 + p) ∨ y_tp (y_nn S3) u) → y_fin (y_bd (y_addb u S3) (fun _ S3 => y_rbd (y_g b1) (41 - (a + 1)).toNat dq S3)) (fun _ S' => ∀ D', y_cls (B, y_A0) 0 S' D' → K D') (y_cT B T) → w_tReadBody_76 n (d + 119) b1 dq a u D3 (fun b2 dp a' D' => ∃ m, m < (41 - a).toNat ∧ b2 = b1 ∧ ∃ S1 bd, 0 ≤ a' ∧ a' ≤ 41 ∧ m = (41 - a').toNat ∧ 0 ≤ dp ∧ dp ≤ a' ∧ y_cls (B, y_A0) 0 S1 D' ∧ y_ok st S1 ∧ y_s S1 5 = j ∧ y_dr S1 tx bd p ∧ y_fin (y_rbd (y_g b1) (41 - a').toNat dp S1) (fun _ S' => ∀ D', y_cls (B, y_A0) 0 S' D' → K D') (y_cT B T)) K T := by
        intro dq u S3 D3 q0 q1 hc3 ho3 hj3 hd3 hu h3
        obtain ⟨m, ⟨x, b1, b2, b3⟩, ⟨y, c1, c2, c3⟩, m4⟩ := cl_drAt hc3
        have ey := c3 bd hd3.2.1
        subst ey
        have edb : y_dbd S3 = y := by unfold y_dbd; rw [hd3.2.1]; rfl
        unfold y_addb at h3
        rw [edb] at h3
        refine ⟨m, c_rAdd (z_row_mb m) c1 c2 (fun z => ⟨fun _ => ?_, fun w => (by cases w)⟩) (fun z => ⟨fun w => (by cases w), fun _ => ?_⟩)⟩
        · rw [if_neg (by omega)] at h3
          refine ⟨_, ?_, rfl, _, y ++ [u], by omega, by omega, rfl, q0, q1, cl_dbd hc3 hd3.2.1 z u, y_ok_ad ho3 (by decide) _, hj3, ⟨hd3.1, rfl, hd3.2.2.1, hd3.2.2.2.1, ⟨by simp; omega, y_all_snoc hd3.2.2.2.2.1.2 hu⟩, hd3.2.2.2.2.2⟩, h3⟩
          omega
        · rw [if_pos (by omega)] at h3
          exact c_fault hc3 h3
      -- behind the first token
      have first : ∀ (t0 : Int) (S2 : y_S) (D2 : z_D), y_cls (B, y_A0) 0 S2 D2 → (y_ok st S2 ∧ y_le S1 S2 ∧ y_tk (y_nn S2) t0) → y_fin (let t := y_un t0
            if dp + y_bs t < 0 then .inl ((), S2)
            else y_bd (if t / 256 = 6 then y_bd (y_g b1 S2) y_hash else .inl (t, S2)) (fun t' S2 => y_bd (y_addb t' S2) (fun _ S3 => y_rbd (y_g b1) (41 - (a + 1)).toNat (dp + y_bs t) S3))) (fun _ S' => ∀ D', y_cls (B, y_A0) 0 S' D' → K D') (y_cT B T) → w_tReadBody_26 n (d + 119) b1 dp a t0 D2 (fun b2 dp a' D' => ∃ m, m < (41 - a).toNat ∧ b2 = b1 ∧ ∃ S1 bd, 0 ≤ a' ∧ a' ≤ 41 ∧ m = (41 - a').toNat ∧ 0 ≤ dp ∧ dp ≤ a' ∧ y_cls (B, y_A0) 0 S1 D' ∧ y_ok st S1 ∧ y_s S1 5 = j ∧ y_dr S1 tx bd p ∧ y_fin (y_rbd (y_g b1) (41 - a').toNat dp S1) (fun _ S' => ∀ D', y_cls (B, y_A0) 0 S' D' → K D') (y_cT B T)) K T := by
        intro t0 S2 D2 hc2 ⟨k1, k2, k3⟩ h
        dsimp only at h
        have hr := y_tk_r k3 k1.2.2.2.2.2.2.2.2.2.2.2.2.2.2.2.2.2.2.2.1.2
        have ht := y_un_tp k3 k1.2.2.2.2.2.2.2.2.2.2.2.2.2.2.2.2.2.2.2.1.2
        have hu := y_tp_r ht k1.2.2.2.2.2.2.2.2.2.2.2.2.2.2.2.2.2.2.2.1.2
        have hd2 := y_dr_le hd1 k2
        have hdp := hd2.2.2.2.2.2
        have hdp : 0 ≤ p ∧ p ≤ 4 := hdp
        have hj2 : y_s S2 5 = j := k2.2.2.2.2.2.2.2.2.1.trans hj1
        have hbs := y_bs_r (y_un t0)
        refine c_tUnmarked (by omega) (by omega) (c_tBraceStep (y_rs (by omega) (by omega)) ⟨y_rs (by omega) (by omega), fun c1 => c_tCategoryOf (y_rs (by omega) (by omega)) ⟨y_rs (by omega) (by omega), fun c2 => ?_, fun c2 => ⟨fun c3 => ?_, fun c3 => ?_⟩⟩, fun c1 => ?_⟩)
        · rw [if_neg (by omega), if_neg c2] at h
          exact addb _ _ S2 D2 (by omega) (by omega) hc2 k1 hj2 hd2 (Or.inr ht) h
        · subst c3
          rw [if_neg (by omega), if_pos c2] at h
          have h' : y_fin (y_bd (y_get true S2) (fun t S3 => y_bd (y_hash t S3) (fun t' S2 => y_bd (y_addb t' S2) (fun _ S3 => y_rbd (y_g false) (41 - (a + 1)).toNat (dp + y_bs (y_un t0)) S3)))) (fun _ S' => ∀ D', y_cls (B, y_A0) 0 S' D' → K D') (y_cT B T) := by
            have e : y_g false = y_get true := rfl
            rw [e] at h ⊢
            cases hg : y_get true S2 with
            | inl q => rw [hg] at h; exact h
            | inr q => rw [hg] at h; exact h
          refine c_get hc2 k1 (y_gk (yo_getT k1) h' (fun t S3 ⟨q1, q2, q3, _⟩ h D3 hc3 => ?_))
          have hd3 := y_dr_le hd2 (y_lg_le q2)
          refine c_hash hc3 q1 hd3.2.2.1 hdp.1 hdp.2 q3 (y_gk (yo_hash q1 hd3.2.2.1 q3) h (fun u S4 ⟨w1, w2, w3⟩ h2 D4 hc4 => ?_))
          subst w2
          exact addb _ _ S4 D4 (by omega) (by omega) hc4 w1 (q2.2.2.2.2.2.2.2.1.trans hj2) hd3 w3 h2
        · subst c3
          rw [if_neg (by omega), if_pos c2] at h
          have h' : y_fin (y_bd (y_getx (y_ex 31) 201 S2) (fun t S3 => y_bd (y_hash t S3) (fun t' S2 => y_bd (y_addb t' S2) (fun _ S3 => y_rbd (y_g true) (41 - (a + 1)).toNat (dp + y_bs (y_un t0)) S3)))) (fun _ S' => ∀ D', y_cls (B, y_A0) 0 S' D' → K D') (y_cT B T) := by
            have e : y_g true = y_getx (y_ex 31) 201 := rfl
            rw [e] at h ⊢
            cases hg : y_getx (y_ex 31) 201 S2 with
            | inl q => rw [hg] at h; exact h
            | inr q => rw [hg] at h; exact h
          refine c_getx (d := d + 108) Hx Ho (by omega) hc2 k1 hj2 (y_gk (yo_getx (Ho st) 201 S2 k1) h' (fun t S3 ⟨q1, q2, q3⟩ h D3 hc3 => ?_))
          have hd3 := y_dr_le hd2 q2
          refine c_hash hc3 q1 hd3.2.2.1 hdp.1 hdp.2 q3 (y_gk (yo_hash q1 hd3.2.2.1 q3) h (fun u S4 ⟨w1, w2, w3⟩ h2 D4 hc4 => ?_))
          subst w2
          exact addb _ _ S4 D4 (by omega) (by omega) hc4 w1 (q2.2.2.2.2.2.2.2.2.1.trans hj2) hd3 w3 h2
        · rw [if_pos c1] at h
          exact h D2 hc2
      refine ⟨fun c1 => ?_, fun c1 => ?_⟩
      · subst c1
        exact c_get hc1 ho1 (y_gk (yo_g (b := false) S1 ho1) h (fun t S2 q h D2 hc2 => first t S2 D2 hc2 q h))
      · subst c1
        exact c_getx (d := d + 108) Hx Ho (by omega) hc1 ho1 hj1 (y_gk (yo_g (b := true) S1 ho1) h (fun t S2 q h D2 hc2 => first t S2 D2 hc2 q h))
/-- a definition is made -/
theorem cl_def {B : y_B} {D : z_D} (hc : y_cls B tr S D) {tx bd : List Int} {p : Int} (hm : (y_mac S).length < 60) (hd : y_dr S tx bd p) : y_cls (y_bq B.1 (am_u1 (am_u1 D.2.2 (y_mac S).length (D.2.2 60)) 60 (D.2.2 (y_mac S).length)), B.2) tr (y_sdp (y_sa (y_sa (y_smac S (y_mac S ++ [(tx, bd, p)])) 4 none) 5 none) none) (z_uz (z_up (z_up D (y_mac S).length (D.2.2 60)) 60 (D.2.2 (y_mac S).length)) 0 9 (((y_mac S).length : Int) + 1)) := by
  obtain ⟨a1, a2, a3, a4, a5, a6, a7, a8, a9⟩ := hc.2.2.2.2.2.2.2.2.2.2.2.2.2.2.2.2.2.2.2.1
  generalize hN : (y_mac S).length = N at *
  have hp' : ∀ j, j ≤ 60 → ∃ i, i ≤ 60 ∧ am_u1 (am_u1 D.2.2 N (D.2.2 60)) 60 (D.2.2 N) j = D.2.2 i := by
    intro j hj
    unfold am_u1
    by_cases e : j = 60
    · rw [if_pos e]; exact ⟨N, by omega, rfl⟩
    · rw [if_neg e]
      by_cases e2 : j = N
      · rw [if_pos e2]; exact ⟨60, Nat.le_refl _, rfl⟩
      · rw [if_neg e2]; exact ⟨j, hj, rfl⟩
  have hrow : ∀ j l, j ≤ 60 → ∀ k, 1 ≤ k → k ≤ 3 → y_row D (D.2.2 j + k) l → y_row (z_uz (z_up (z_up D N (D.2.2 60)) 60 (D.2.2 N)) 0 9 ((N : Int) + 1)) (D.2.2 j + k) l := by
    intro j l hj k k1 k3 z
    have := (a1 j hj).1
    exact y_row_cell z (y_uz_cell (by omega)) (y_uz_cell (by omega))
  refine ⟨y_f1 hc.1 (by decide), hc.2.1, hc.2.2.1, hc.2.2.2.1, hc.2.2.2.2.1, hc.2.2.2.2.2.1, hc.2.2.2.2.2.2.1, hc.2.2.2.2.2.2.2.1, hc.2.2.2.2.2.2.2.2.1, hc.2.2.2.2.2.2.2.2.2.1, hc.2.2.2.2.2.2.2.2.2.2.1, ?_, hc.2.2.2.2.2.2.2.2.2.2.2.2.1, hc.2.2.2.2.2.2.2.2.2.2.2.2.2.1, hc.2.2.2.2.2.2.2.2.2.2.2.2.2.2.1, hc.2.2.2.2.2.2.2.2.2.2.2.2.2.2.2.1, hc.2.2.2.2.2.2.2.2.2.2.2.2.2.2.2.2.1, hc.2.2.2.2.2.2.2.2.2.2.2.2.2.2.2.2.2.1, hc.2.2.2.2.2.2.2.2.2.2.2.2.2.2.2.2.2.2.1, ⟨?_, ?_, ?_, ?_, ?_, ?_, ?_, ?_, ?_⟩, rfl⟩
  · show ((N : Int) + 1) = ((y_mac S ++ [(tx, bd, p)]).length : Int)
    simp [hN]
  · intro j hj
    show z_mc (am_u1 (am_u1 D.2.2 N (D.2.2 60)) 60 (D.2.2 N) j)
    obtain ⟨i, i1, i2⟩ := hp' j hj
    rw [i2]
    exact a1 i i1
  · intro i j hi hj e
    have es : ∀ j, am_u1 (am_u1 D.2.2 N (D.2.2 60)) 60 (D.2.2 N) j = D.2.2 (if j = 60 then N else if j = N then 60 else j) := by
      intro j
      unfold am_u1
      split
      · rfl
      · split <;> rfl
    have e : am_u1 (am_u1 D.2.2 N (D.2.2 60)) 60 (D.2.2 N) i = am_u1 (am_u1 D.2.2 N (D.2.2 60)) 60 (D.2.2 N) j := e
    rw [es, es] at e
    have sb : ∀ j, j ≤ 60 → (if j = 60 then N else if j = N then 60 else j) ≤ 60 := by
      intro j hj
      split
      · omega
      · split <;> omega
    have := a2 _ _ (sb i hi) (sb j hj) e
    repeat' split at this
    all_goals omega
  · intro j hj
    show ∃ l, y_row _ (am_u1 (am_u1 D.2.2 N (D.2.2 60)) 60 (D.2.2 N) j + 1) l ∧ l.length ≤ 12
    obtain ⟨i, i1, i2⟩ := hp' j hj
    rw [i2]
    obtain ⟨l, b1, b2⟩ := a3 i i1
    exact ⟨l, hrow i l i1 1 (by decide) (by decide) b1, b2⟩
  · intro j hj
    show ∃ l, y_row _ (am_u1 (am_u1 D.2.2 N (D.2.2 60)) 60 (D.2.2 N) j + 3) l ∧ l.length ≤ 40
    obtain ⟨i, i1, i2⟩ := hp' j hj
    rw [i2]
    obtain ⟨l, b1, b2⟩ := a4 i i1
    exact ⟨l, hrow i l i1 3 (by decide) (by decide) b1, b2⟩
  · intro i q hi e
    have e : (y_mac S ++ [(tx, bd, p)])[i]? = some q := e
    show y_row _ (am_u1 (am_u1 D.2.2 N (D.2.2 60)) 60 (D.2.2 N) i + 1) q.1 ∧ y_row _ (am_u1 (am_u1 D.2.2 N (D.2.2 60)) 60 (D.2.2 N) i + 3) q.2.1 ∧ am_u2 D.1 0 9 _ (am_u1 (am_u1 D.2.2 N (D.2.2 60)) 60 (D.2.2 N) i) 2 = q.2.2
    by_cases c : i < N
    · have e1 : am_u1 (am_u1 D.2.2 N (D.2.2 60)) 60 (D.2.2 N) i = D.2.2 i := by unfold am_u1; rw [if_neg (by omega), if_neg (by omega)]
      rw [List.getElem?_append_left (by omega)] at e
      rw [e1]
      obtain ⟨b1, b2, b3⟩ := a5 i q hi e
      refine ⟨hrow i _ (by omega) 1 (by decide) (by decide) b1, hrow i _ (by omega) 3 (by decide) (by decide) b2, ?_⟩
      unfold am_u2
      rw [if_neg (by have := (a1 i (by omega)).1; omega)]
      exact b3
    · have hi' : i = N := by
        have := (List.getElem?_eq_some_iff.mp e).1
        simp [hN] at this
        omega
      subst hi'
      have e1 : am_u1 (am_u1 D.2.2 i (D.2.2 60)) 60 (D.2.2 i) i = D.2.2 60 := by unfold am_u1; rw [if_neg (by omega), if_pos rfl]
      rw [List.getElem?_append_right (by omega), hN] at e
      simp at e
      subst e
      rw [e1]
      refine ⟨hrow 60 _ (Nat.le_refl _) 1 (by decide) (by decide) (a6 tx hd.1), hrow 60 _ (Nat.le_refl _) 3 (by decide) (by decide) (a7 bd hd.2.1), ?_⟩
      unfold am_u2
      rw [if_neg (by have := (a1 60 (Nat.le_refl _)).1; omega)]
      exact a8 p hd.2.2.1
  · intro l e
    cases e
  · intro l e
    cases e
  · intro v e
    cases e
  · intro i hi
    obtain ⟨x, b1, b2, b3⟩ := a9 i hi
    exact ⟨x, y_row_cell b1 (y_uz_cell (by omega)) (y_uz_cell (by omega)), b2, b3⟩
end CH
