/-! contracts of the reference: the body of a definition -/
section RB
variable {n d : Nat} {Q : y_Q} {D : z_D} {st : Int} {S : y_S} {T : Nat → z_D → Prop}
theorem rf_d350 (hr : y_ref Q S D) (ho : y_ok st S) : y_ref (y_Qp Q 5 []) S (z_uz D 350 (y_mac S).length 0) := by
  have hm := rf12_f (v := 0) hr ho (c := 350) (j := (y_mac S).length) (Or.inl ⟨Or.inr (Or.inl rfl), rfl⟩)
  have h23 := rf23_f (v := 0) (c := 350) (j := (y_mac S).length) hr (fun _ => by decide)
  have h14 : ∀ l, am_u1 Q.2.1 5 (some []) 5 = some l → y_pa ((z_uz D 350 (y_mac S).length 0).1 351) (41 * (y_mac S).length) ((z_uz D 350 (y_mac S).length 0).1 350 (y_mac S).length) (l.map y_tr) := fun l e => by
    have e : some [] = some l := e
    have e := Option.some.inj e
    subst e
    exact ⟨y_uz_same _ _ _ _, fun i hi => (by cases hi)⟩
  have h16 : ∀ (i : Nat) (l : List Int), i < 4 → am_u1 Q.2.1 5 (some []) i = some l → l.length ≤ 41 ∧ y_pa (D.1 360) (42 * i) (D.1 361 i) (l.map y_tr) := fun i l hi e => hr.2.2.2.2.2.2.2.2.2.2.2.2.2.2.2.1 i l hi (by
    unfold am_u1 at e
    rw [if_neg (by omega)] at e
    exact e)
  exact ⟨y_g1 hr.1 (by decide), hr.2.1, hr.2.2.1, hr.2.2.2.1, hr.2.2.2.2.1, hr.2.2.2.2.2.1, hr.2.2.2.2.2.2.1, hr.2.2.2.2.2.2.2.1, hr.2.2.2.2.2.2.2.2.1, hr.2.2.2.2.2.2.2.2.2.1, hr.2.2.2.2.2.2.2.2.2.2.1, hm, hr.2.2.2.2.2.2.2.2.2.2.2.2.1, h14, hr.2.2.2.2.2.2.2.2.2.2.2.2.2.2.1, h16, hr.2.2.2.2.2.2.2.2.2.2.2.2.2.2.2.2.1, hr.2.2.2.2.2.2.2.2.2.2.2.2.2.2.2.2.2.1, hr.2.2.2.2.2.2.2.2.2.2.2.2.2.2.2.2.2.2.1, hr.2.2.2.2.2.2.2.2.2.2.2.2.2.2.2.2.2.2.2.1, hr.2.2.2.2.2.2.2.2.2.2.2.2.2.2.2.2.2.2.2.2.1, hr.2.2.2.2.2.2.2.2.2.2.2.2.2.2.2.2.2.2.2.2.2.1, h23⟩
theorem rf_dbd {l : List Int} (hr : y_ref (y_Qp Q 5 l) S D) (ho : y_ok st S) (hl : l.length ≤ 40) (t : Int) (o : Option (List Int)) : y_ref (y_Qp Q 5 (l ++ [t])) (y_sa S 5 o) (z_uz (z_uz D 351 (41 * (y_mac S).length + l.length) (y_tr t)) 350 (y_mac S).length ((l.length : Int) + 1)) := by
  have a := rf12_f (v := y_tr t) hr ho (c := 351) (j := 41 * (y_mac S).length + l.length) (Or.inr (Or.inr ⟨rfl, by omega⟩))
  have hm : ∀ (i : Nat) (q : List Int × List Int × Int), (y_mac S)[i]? = some q → y_mq (z_uz (z_uz D 351 (41 * (y_mac S).length + l.length) (y_tr t)) 350 (y_mac S).length ((l.length : Int) + 1)) i q := by
    intro i q e
    have hi := (List.getElem?_eq_some_iff.mp e).1
    obtain ⟨b, ⟨a1, a2⟩, c⟩ := a i q e
    exact ⟨b, ⟨by rw [y_uz_slot (by omega)]; exact a1, fun k hk => by rw [y_uz_cell (by decide)]; exact a2 k hk⟩, c⟩
  have h14 : ∀ x, am_u1 Q.2.1 5 (some (l ++ [t])) 5 = some x → y_pa ((z_uz (z_uz D 351 (41 * (y_mac S).length + l.length) (y_tr t)) 350 (y_mac S).length ((l.length : Int) + 1)).1 351) (41 * (y_mac S).length) ((z_uz (z_uz D 351 (41 * (y_mac S).length + l.length) (y_tr t)) 350 (y_mac S).length ((l.length : Int) + 1)).1 350 (y_mac S).length) (x.map y_tr) := by
    intro x e
    have e : some (l ++ [t]) = some x := e
    have e := Option.some.inj e
    subst e
    have hp := hr.2.2.2.2.2.2.2.2.2.2.2.2.2.1 l (y_Qp_at Q 5 l)
    rw [List.map_append]
    have := hp.1
    rw [List.length_map] at this
    have e350 : (z_uz (z_uz D 351 (41 * (y_mac S).length + l.length) (y_tr t)) 350 (y_mac S).length ((l.length : Int) + 1)).1 350 (y_mac S).length = D.1 350 (y_mac S).length + 1 := by rw [y_uz_same, this]
    rw [e350]
    refine y_pa_add hp (fun i => ?_)
    rw [y_uz_cell (by decide), List.length_map]
    show am_u2 D.1 351 (41 * (y_mac S).length + l.length) (y_tr t) 351 i = _
    unfold am_u2
    rw [if_pos rfl]
  have h16 : ∀ (i : Nat) (x : List Int), i < 4 → am_u1 Q.2.1 5 (some (l ++ [t])) i = some x → x.length ≤ 41 ∧ y_pa (D.1 360) (42 * i) (D.1 361 i) (x.map y_tr) := fun i x hi e => hr.2.2.2.2.2.2.2.2.2.2.2.2.2.2.2.1 i x hi (by
    show am_u1 Q.2.1 5 (some l) i = _
    unfold am_u1 at e ⊢
    rw [if_neg (by omega)] at e ⊢
    exact e)
  have h23 : ∀ i, i < 61 → (-1000 ≤ (z_uz (z_uz D 351 (41 * (y_mac S).length + l.length) (y_tr t)) 350 (y_mac S).length ((l.length : Int) + 1)).1 350 i ∧ (z_uz (z_uz D 351 (41 * (y_mac S).length + l.length) (y_tr t)) 350 (y_mac S).length ((l.length : Int) + 1)).1 350 i ≤ 1000) ∧ (-1000 ≤ D.1 352 i ∧ D.1 352 i ≤ 1000) := by
    intro i hi
    have h := hr.2.2.2.2.2.2.2.2.2.2.2.2.2.2.2.2.2.2.2.2.2.2 i hi
    refine ⟨?_, h.2⟩
    by_cases z : i = (y_mac S).length
    · subst z; rw [y_uz_same]; omega
    · rw [y_uz_slot z, y_uz_cell (by decide)]; exact h.1
  exact ⟨y_g1 (y_g1 hr.1 (by decide)) (by decide), hr.2.1, hr.2.2.1, hr.2.2.2.1, hr.2.2.2.2.1, hr.2.2.2.2.2.1, hr.2.2.2.2.2.2.1, hr.2.2.2.2.2.2.2.1, hr.2.2.2.2.2.2.2.2.1, hr.2.2.2.2.2.2.2.2.2.1, hr.2.2.2.2.2.2.2.2.2.2.1, hm, hr.2.2.2.2.2.2.2.2.2.2.2.2.1, h14, hr.2.2.2.2.2.2.2.2.2.2.2.2.2.2.1, h16, hr.2.2.2.2.2.2.2.2.2.2.2.2.2.2.2.2.1, hr.2.2.2.2.2.2.2.2.2.2.2.2.2.2.2.2.2.1, hr.2.2.2.2.2.2.2.2.2.2.2.2.2.2.2.2.2.2.1, hr.2.2.2.2.2.2.2.2.2.2.2.2.2.2.2.2.2.2.2.1, hr.2.2.2.2.2.2.2.2.2.2.2.2.2.2.2.2.2.2.2.2.1, hr.2.2.2.2.2.2.2.2.2.2.2.2.2.2.2.2.2.2.2.2.2.1, h23⟩
theorem y_un_lt {m : Nat} {t : Int} (h : y_tk m t) (hm : m ≤ 118) (c : y_un t < 4096) : y_un t = t := by
  unfold y_un at c ⊢
  rcases h with h | h | h
  · have := h.2.1; rw [if_neg (by omega)]
  · rw [if_neg (by omega)]
  · rw [if_pos (by omega)] at c; omega
theorem c_mReadBody {B : z_D} {A : Nat → Option (List Int)} {b : Bool} {tx : List Int} {p : Int} {K : Bool → z_D → Prop} (hr : y_rf (B, A, []) S D) (ho : y_ok st S) (hA : ∀ j, j ≠ 5 → A j = none) (h5 : y_s S 5 = 0) (hd : y_dr S tx [] p) (h : y_fin (y_rbd (y_g b) 41 0 S) (fun _ S' => ∀ D' bd, y_a S' 5 = some bd → y_rf (y_Qp (B, A, []) 5 bd) S' D' → K true D') (y_rT B (K false))) : z_c n (d + 13) 137 [.ref 336, .int (z_i (z_b b))] D (z_qZ K T) := by
  have o22 : (y_mac S).length ≤ 60 := ho.2.2.2.2.2.2.2.2.2.2.2.2.2.2.2.2.2.2.2.2.2.1
  have e23 : D.1 336 23 = ((y_mac S).length : Int) := hr.1.2.2.2.2.2.2.2.2.2.2.1
  have hg : ∀ (S1 : y_S) (D1 : z_D) (bd : List Int) (K' : Int → z_D → Prop), y_rf (y_Qp (B, A, []) 5 bd) S1 D1 → y_ok st S1 → y_s S1 5 = 0 → y_fin (y_g b S1) (fun t S' => ∀ D', y_rf (y_Qp (B, A, []) 5 bd) S' D' → K' (y_tr t) D') (y_rT B (K' (-1))) → ((b = false → z_c n (d + 12) 105 [.ref 336] D1 (z_qI K' T)) ∧ (b = true → z_c n (d + 12) 134 [.ref 336] D1 (z_qI K' T))) := by
    intro S1 D1 bd K' hr1 ho1 h51 h
    refine ⟨fun e => ?_, fun e => ?_⟩
    · subst e
      exact c_mNeed hr1 ho1 h
    · subst e
      exact c_mNeedX hr1 ho1 (fun j hj => by show am_u1 A 5 (some bd) j = none; unfold am_u1; rw [if_neg hj]; exact hA j hj) h51 h
  refine r_mReadBody (fun m b1 a2 a3 D' => b1 = b ∧ a2 = ((y_mac S).length : Int) ∧ ∃ (S1 : y_S) (f : Nat) (bd : List Int), y_rf (y_Qp (B, A, []) 5 bd) S1 D' ∧ y_ok st S1 ∧ y_mac S1 = y_mac S ∧ y_s S1 5 = 0 ∧ y_dr S1 tx bd p ∧ f + bd.length = 41 ∧ m = f ∧ 0 ≤ a3 ∧ a3 ≤ (bd.length : Int) ∧ y_fin (y_rbd (y_g b) f a3 S1) (fun _ S' => ∀ D' bd, y_a S' 5 = some bd → y_rf (y_Qp (B, A, []) 5 bd) S' D' → K true D') (y_rT B (K false))) ?_ ?_
  · unfold w_mReadBody_0
    rw [e23, show (((y_mac S).length : Nat) : Int).toNat = (y_mac S).length by omega]
    refine ⟨by omega, fun D2 e2 => ⟨41, rfl, rfl, S, 41, [], ⟨by rw [e2]; exact rf_d350 hr.1 ho, hr.2⟩, ho, rfl, h5, hd, rfl, rfl, Int.le_refl _, Int.le_refl _, h⟩⟩
  · rintro mm b1 a2 dp D' ⟨rfl, rfl, S1, f0, bd, hr1, ho1, hm1, h51, hd1, hf, rfl, p0, p1, h⟩
    have lbd : bd.length ≤ 40 := hd1.2.2.2.2.1.1
    obtain ⟨f, rfl⟩ : ∃ g, mm = g + 1 := ⟨mm - 1, by omega⟩
    unfold y_rbd at h
    -- the token is added
    have addb : ∀ (dq u : Int) (S3 : y_S) (D3 : z_D), 0 ≤ dq → dq ≤ (bd.length : Int) + 1 → y_rf (y_Qp (B, A, []) 5 bd) S3 D3 → y_ok st S3 → y_mac S3 = y_mac S → y_s S3 5 = 0 → y_dr S3 tx bd p → ((8193 ≤ u ∧ u < 8193 + p) ∨ y_tp (y_nn S3) u) → y_fin (y_bd (y_addb u S3) (fun _ S3 => y_rbd (y_g b1) f dq S3)) (fun _ S' => ∀ D' bd, y_a S' 5 = some bd → y_rf (y_Qp (B, A, []) 5 bd) S' D' → K true D') (y_rT B (K false)) → w_mReadBody_224 n (d + 12) b1 ((y_mac S).length : Int) dq (y_tr u) D3 (fun b2 a2 a3 D' => ∃ m, m < f + 1 ∧ b2 = b1 ∧ a2 = ((y_mac S).length : Int) ∧ ∃ (S1 : y_S) (f : Nat) (bd : List Int), y_rf (y_Qp (B, A, []) 5 bd) S1 D' ∧ y_ok st S1 ∧ y_mac S1 = y_mac S ∧ y_s S1 5 = 0 ∧ y_dr S1 tx bd p ∧ f + bd.length = 41 ∧ m = f ∧ 0 ≤ a3 ∧ a3 ≤ (bd.length : Int) ∧ y_fin (y_rbd (y_g b1) f a3 S1) (fun _ S' => ∀ D' bd, y_a S' 5 = some bd → y_rf (y_Qp (B, A, []) 5 bd) S' D' → K true D') (y_rT B (K false))) K T := by
      intro dq u S3 D3 q0 q1 hr3 ho3 hm3 h53 hd3 hu h3
      have edb : y_dbd S3 = bd := by unfold y_dbd; rw [hd3.2.1]; rfl
      unfold y_addb at h3
      rw [edb] at h3
      have hp := hr3.1.2.2.2.2.2.2.2.2.2.2.2.2.2.1 bd (y_Qp_at _ 5 bd)
      have e350 : D3.1 350 (y_mac S).length = (bd.length : Int) := by
        have := hp.1
        rw [List.length_map, hm3] at this
        exact this
      unfold w_mReadBody_224
      rw [show (((y_mac S).length : Nat) : Int).toNat = (y_mac S).length by omega, e350]
      refine ⟨by omega, y_rs (by omega) (by omega), fun c => ⟨by omega, by omega, fun D5 e5' => ⟨by omega, by omega, fun D8 e8 => ?_⟩⟩, fun c => ?_⟩
      · rw [if_neg (by omega)] at h3
        rw [show Int.toNat (41 * ((y_mac S).length : Int) + (bd.length : Int)) = 41 * (y_mac S).length + bd.length by omega] at e5'
        have e58 : D5.1 350 (y_mac S).length = (bd.length : Int) := by rw [e5', y_uz_cell (by decide)]; exact e350
        rw [e58] at e8
        refine ⟨f, by omega, rfl, rfl, y_sa S3 5 (some (bd ++ [u])), f, bd ++ [u], ⟨?_, hr3.2⟩, y_ok_ad ho3 (by decide) _, hm3, h53, ⟨hd3.1, rfl, hd3.2.2.1, hd3.2.2.2.1, ⟨by simp; omega, y_all_snoc hd3.2.2.2.2.1.2 hu⟩, hd3.2.2.2.2.2⟩, by simp; omega, rfl, q0, by simp; omega, h3⟩
        rw [e8, e5', ← hm3]
        exact rf_dbd hr3.1 ho3 lbd u _
      · rw [if_pos (by omega)] at h3
        exact c_stop hr3 (by decide) (by decide) (fun D9 hw => ⟨z_rk rfl, fun _ => h3 _ hw, fun z => absurd rfl z⟩)
    -- a token behind a hash
    have hash : ∀ (dq t : Int) (S3 : y_S) (D3 : z_D), 0 ≤ dq → dq ≤ (bd.length : Int) + 1 → y_rf (y_Qp (B, A, []) 5 bd) S3 D3 → y_ok st S3 → y_mac S3 = y_mac S → y_s S3 5 = 0 → y_dr S3 tx bd p → y_tk (y_nn S3) t → y_fin (y_bd (y_hash t S3) (fun t' S2 => y_bd (y_addb t' S2) (fun _ S3 => y_rbd (y_g b1) f dq S3))) (fun _ S' => ∀ D' bd, y_a S' 5 = some bd → y_rf (y_Qp (B, A, []) 5 bd) S' D' → K true D') (y_rT B (K false)) → w_mReadBody_90 n (d + 12) b1 ((y_mac S).length : Int) dq (y_tr t) D3 (fun b2 a2 a3 D' => ∃ m, m < f + 1 ∧ b2 = b1 ∧ a2 = ((y_mac S).length : Int) ∧ ∃ (S1 : y_S) (f : Nat) (bd : List Int), y_rf (y_Qp (B, A, []) 5 bd) S1 D' ∧ y_ok st S1 ∧ y_mac S1 = y_mac S ∧ y_s S1 5 = 0 ∧ y_dr S1 tx bd p ∧ f + bd.length = 41 ∧ m = f ∧ 0 ≤ a3 ∧ a3 ≤ (bd.length : Int) ∧ y_fin (y_rbd (y_g b1) f a3 S1) (fun _ S' => ∀ D' bd, y_a S' 5 = some bd → y_rf (y_Qp (B, A, []) 5 bd) S' D' → K true D') (y_rT B (K false))) K T := by
      intro dq t S3 D3 q0 q1 hr3 ho3 hm3 h53 hd3 ht h3
      have hn := ho3.2.2.2.2.2.2.2.2.2.2.2.2.2.2.2.2.2.2.2.1.2
      have htr := y_tr_r ht hn
      have hut := y_un_tp ht hn
      have hur := y_tp_r hut hn
      have htk := y_tk_r ht hn
      have hdp : 0 ≤ p ∧ p ≤ 4 := hd3.2.2.2.2.2
      have edp : y_dpr S3 = p := by unfold y_dpr; rw [hd3.2.2.1]; rfl
      have e352 : D3.1 352 (y_mac S).length = p := by have := hr3.1.2.2.2.2.2.2.2.2.2.2.2.2.2.2.1 p hd3.2.2.1; rw [hm3] at this; exact this
      have bad : (¬ t / 256 = 6) → (4096 ≤ t ∨ t % 256 - 48 < 1 ∨ p < t % 256 - 48) → w_mReadBody_153 n (d + 12) D3 K T := by
        intro w1 w
        unfold y_hash at h3
        rw [if_neg w1, edp, if_pos w] at h3
        exact c_stop hr3 (by decide) (by decide) (fun D9 hw => ⟨z_rk rfl, fun _ => h3 _ hw, fun z => absurd rfl z⟩)
      have i6 := y_ich hut hn 6 (by decide)
      refine c_mPlain (y_rs (by omega) (by omega)) ?_
      rw [y_pl_tr ht hn]
      refine ⟨y_rs (by omega) (by omega), fun _ => ⟨fun c => c_mIsCharacter (y_rs (by omega) (by omega)) (z_rk rfl) ⟨fun z6 => ?_, fun z6 => ⟨z_rk rfl, fun _ => ?_, fun w => by omega⟩⟩, fun c => c_mIsCharacter (y_rs (by omega) (by omega)) (z_rk rfl) ⟨fun z6 => c_mIsCharacter (y_rs (by omega) (by omega)) (z_rk rfl) ⟨fun y6 => ?_, fun y6 => ?_⟩, fun z6 => ?_⟩⟩, fun w => by omega⟩
      · have := i6.mp z6; omega
      · have n6 : ¬ t / 256 = 6 := by
          intro w
          unfold y_un at c
          split at c <;> omega
        refine bad n6 (Or.inl ?_)
        unfold y_un at c
        split at c <;> omega
      · rw [y6] at z6; cases z6
      · have et : y_un t = t := y_un_lt ht hn c
        have e6 := i6.mp z6
        rw [et] at e6
        unfold y_hash at h3
        rw [if_pos e6] at h3
        have key := addb dq t S3 D3 q0 q1 hr3 ho3 hm3 h53 hd3 (Or.inr (by rw [← et]; exact hut)) h3
        rw [et]
        rw [show y_tr t = t from if_pos (by omega)] at key
        exact key
      · have et : y_un t = t := y_un_lt ht hn c
        have n6 : ¬ t / 256 = 6 := fun w => by rw [← et] at w; rw [i6.mpr w] at z6; cases z6
        have hand : z_and (y_un t) 255 = t % 256 := by rw [et]; exact z_and255 (by omega) (by omega)
        rw [hand, show (((y_mac S).length : Nat) : Int).toNat = (y_mac S).length by omega, e352]
        refine ⟨y_rs (by omega) (by omega), fun c1 => bad n6 (Or.inr (Or.inl c1)), fun c1 => ⟨by omega, y_rs (by omega) (by omega), fun c2 => c_mIsCharacter (y_rs (by omega) (by omega)) (z_rk rfl) ⟨fun y6 => ?_, fun y6 => by rw [y6] at z6; cases z6⟩, fun c2 => bad n6 (Or.inr (Or.inr c2))⟩⟩
        unfold y_hash at h3
        rw [if_neg n6, edp, if_neg (by omega)] at h3
        have key := addb dq (8192 + (t % 256 - 48)) S3 D3 q0 q1 hr3 ho3 hm3 h53 hd3 (Or.inl (by omega)) h3
        rw [show y_tr (8192 + (t % 256 - 48)) = 16384 + (t % 256 - 48) by unfold y_tr; rw [if_neg (by omega), if_pos (by omega)]; omega] at key
        exact key
    -- the first token
    refine hg S1 D' bd _ hr1 ho1 h51 (y_gt (yo_g S1 ho1) h (fun t0 S2 ⟨k1, k2, k3⟩ h D2 hr2 => ?_) (fun S' hT D2 hw => c_mPlain (z_rk rfl) (by
      have ep : y_pl (-1) = -1 := by decide
      rw [ep]
      exact ⟨z_rk rfl, fun _ => ⟨z_rk rfl, fun _ => hT D2 hw, fun z => absurd rfl z⟩, fun z => absurd rfl z⟩)))
    have hn := k1.2.2.2.2.2.2.2.2.2.2.2.2.2.2.2.2.2.2.2.1.2
    have htr := y_tr_r k3 hn
    have hut := y_un_tp k3 hn
    have hur := y_tp_r hut hn
    dsimp only at h
    have hd2 := y_dr_le hd1 k2
    have hm2 : y_mac S2 = y_mac S := k2.2.1.trans hm1
    have h52 : y_s S2 5 = 0 := k2.2.2.2.2.2.2.2.2.1.trans h51
    have i1 := y_ich hut hn 1 (by decide)
    have i2 := y_ich hut hn 2 (by decide)
    have i6 := y_ich hut hn 6 (by decide)
    have ht : y_tr (y_un t0) = y_un t0 := y_tr_tp hut hn
    -- where it goes on
    have go : 0 ≤ dp + y_bs (y_un t0) → w_mReadBody_65 n (d + 12) b1 ((y_mac S).length : Int) dp (y_un t0) D2 (fun b2 a2 a3 D' => ∃ m, m < f + 1 ∧ b2 = b1 ∧ a2 = ((y_mac S).length : Int) ∧ ∃ (S1 : y_S) (f : Nat) (bd : List Int), y_rf (y_Qp (B, A, []) 5 bd) S1 D' ∧ y_ok st S1 ∧ y_mac S1 = y_mac S ∧ y_s S1 5 = 0 ∧ y_dr S1 tx bd p ∧ f + bd.length = 41 ∧ m = f ∧ 0 ≤ a3 ∧ a3 ≤ (bd.length : Int) ∧ y_fin (y_rbd (y_g b1) f a3 S1) (fun _ S' => ∀ D' bd, y_a S' 5 = some bd → y_rf (y_Qp (B, A, []) 5 bd) S' D' → K true D') (y_rT B (K false))) K T := by
      intro hdq
      rw [if_neg (by omega)] at h
      have plain : ∀ s, y_bs (y_un t0) = s → ¬ y_un t0 / 256 = 6 → w_mReadBody_222 n (d + 12) b1 ((y_mac S).length : Int) (y_un t0) dp s D2 (fun b2 a2 a3 D' => ∃ m, m < f + 1 ∧ b2 = b1 ∧ a2 = ((y_mac S).length : Int) ∧ ∃ (S1 : y_S) (f : Nat) (bd : List Int), y_rf (y_Qp (B, A, []) 5 bd) S1 D' ∧ y_ok st S1 ∧ y_mac S1 = y_mac S ∧ y_s S1 5 = 0 ∧ y_dr S1 tx bd p ∧ f + bd.length = 41 ∧ m = f ∧ 0 ≤ a3 ∧ a3 ≤ (bd.length : Int) ∧ y_fin (y_rbd (y_g b1) f a3 S1) (fun _ S' => ∀ D' bd, y_a S' 5 = some bd → y_rf (y_Qp (B, A, []) 5 bd) S' D' → K true D') (y_rT B (K false))) K T := by
        intro s es n6
        subst es
        rw [if_neg n6] at h
        have hbs := y_bs_r (y_un t0)
        have key := addb (dp + y_bs (y_un t0)) (y_un t0) S2 D2 hdq (by omega) hr2 k1 hm2 h52 hd2 (Or.inr hut) h
        rw [ht] at key
        exact key
      refine c_mIsCharacter (y_rs (by omega) (by omega)) (z_rk rfl) ⟨fun z6 => c_mIsCharacter (y_rs (by omega) (by omega)) (z_rk rfl) ⟨fun z1 => c_mIsCharacter (y_rs (by omega) (by omega)) (z_rk rfl) ⟨fun z2 => ?_, fun z2 => ?_⟩, fun z1 => ?_⟩, fun z6 => ?_⟩
      · have n1 : ¬ y_un t0 / 256 = 1 := fun w => by rw [i1.mpr w] at z1; cases z1
        have n2 : ¬ y_un t0 / 256 = 2 := fun w => by rw [i2.mpr w] at z2; cases z2
        have n6 : ¬ y_un t0 / 256 = 6 := fun w => by rw [i6.mpr w] at z6; cases z6
        exact plain 0 (by unfold y_bs; rw [if_neg n1, if_neg n2]) n6
      · have e2 := i2.mp z2
        exact plain (-1) (by unfold y_bs; rw [if_neg (by omega), if_pos e2]) (by omega)
      · have e1 := i1.mp z1
        exact plain 1 (by unfold y_bs; rw [if_pos e1]) (by omega)
      · have e6 := i6.mp z6
        have eb : dp + y_bs (y_un t0) = dp := by unfold y_bs; rw [if_neg (by omega), if_neg (by omega)]; omega
        rw [if_pos e6, eb] at h
        have h' : y_fin (y_bd (y_g b1 S2) (fun t S3 => y_bd (y_hash t S3) (fun t' S2 => y_bd (y_addb t' S2) (fun _ S3 => y_rbd (y_g b1) f dp S3)))) (fun _ S' => ∀ D' bd, y_a S' 5 = some bd → y_rf (y_Qp (B, A, []) 5 bd) S' D' → K true D') (y_rT B (K false)) := by
          cases hg : y_g b1 S2 with
          | inl q => rw [hg] at h; exact h
          | inr q => rw [hg] at h; exact h
        refine hg S2 D2 bd _ hr2 k1 h52 (y_gt (yo_g S2 k1) h' (fun t S3 ⟨q1, q2, q3⟩ h D3 hr3 => ?_) (fun S' hT D3 hw => c_mPlain (z_rk rfl) (by
          have ep : y_pl (-1) = -1 := by decide
          rw [ep]
          exact ⟨z_rk rfl, fun z => absurd rfl z, fun _ => hT D3 hw⟩)))
        exact hash dp t S3 D3 p0 (by omega) hr3 q1 (q2.2.1.trans hm2) (q2.2.2.2.2.2.2.2.2.1.trans h52) (y_dr_le hd2 q2) q3 h
    refine c_mPlain (y_rs (by omega) (by omega)) ?_
    rw [y_pl_tr k3 hn]
    refine ⟨y_rs (by omega) (by omega), fun z => by omega, fun _ => c_mIsCharacter (y_rs (by omega) (by omega)) (z_rk rfl) ⟨fun z2 => go ?_, fun z2 => ⟨y_rs (by omega) (by omega), fun c => go ?_, fun c => ?_⟩⟩⟩
    · have n2 : ¬ y_un t0 / 256 = 2 := fun w => by rw [i2.mpr w] at z2; cases z2
      unfold y_bs
      rw [if_neg n2]
      split <;> omega
    · have := y_bs_r (y_un t0); omega
    · have e2 := i2.mp z2
      have eb : y_bs (y_un t0) = -1 := by unfold y_bs; rw [if_neg (by omega), if_pos e2]
      rw [eb, if_pos (by omega)] at h
      exact ⟨y_rs (by omega) (by omega), fun z => by omega, fun _ => h D2 bd hd2.2.1 hr2⟩
end RB
