/-! contracts of the reference: expansions -/
/-- behind a token that is not expanded -/
def y_aft (n d : Nat) (fi v4 : Int) (D6 : z_D) (K : Int → z_D → Prop) (T : Nat → z_D → Prop) : Prop :=
  z_c n d 111 [.ref 336, .int (z_i v4)] D6 (z_qI (fun v9 D8 => 
              (0 ≤ fi ∧ fi < 30) ∧
              (z_r (D8.1 354 (Int.toNat fi))) ∧
              ((¬ (D8.1 354 (Int.toNat fi)) = 13) →
                (z_r v9) ∧
                ((¬ v9 = 11) →
                  ((v4 < 4096) →
                    (0 ≤ fi ∧ fi < 30) ∧
                    (z_r (D8.1 356 (Int.toNat fi))) ∧
                    ((¬ (D8.1 356 (Int.toNat fi)) = 11) →
                      (0 ≤ fi ∧ fi < 30) ∧
                      (0 ≤ ((12 * fi) + (D8.1 356 (Int.toNat fi))) ∧ ((12 * fi) + (D8.1 356 (Int.toNat fi))) < 360) ∧
                      ∀ D17, D17 = z_uz D8 358 (Int.toNat ((12 * fi) + (D8.1 356 (Int.toNat fi)))) (z_and v4 255) →
                      (0 ≤ fi ∧ fi < 30) ∧
                      (0 ≤ fi ∧ fi < 30) ∧
                      ∀ D20, D20 = z_uz D17 356 (Int.toNat fi) ((D17.1 356 (Int.toNat fi)) + 1) →
                      K (-1) D20) ∧
                    (((D8.1 356 (Int.toNat fi)) = 11) →
                      z_c n d 98 [.ref 336, .int (z_i 5)] D8 (z_qI (fun v22 D21 => 
                        K v22 D21) T))) ∧
                  ((4096 ≤ v4) →
                    z_c n d 98 [.ref 336, .int (z_i 4)] D8 (z_qI (fun v26 D25 => 
                      K v26 D25) T))) ∧
                ((v9 = 11) →
                  ∀ D29, D29 = z_uz D8 336 31 ((D8.1 336 31) - 1) →
                  z_c n d 132 [.ref 336, .int (z_i fi)] D29 (z_qV (fun D30 => 
                    K (-1) D30) T))) ∧
              (((D8.1 354 (Int.toNat fi)) = 13) →
                (z_r v9) ∧
                ((1000 ≤ v9) →
                  w_mGoOn_99 n d fi (z_and (v9 - 1000) 255) D8 K T) ∧
                ((v9 < 1000) →
                  w_mGoOn_99 n d fi 256 D8 K T))) T)
section RE
variable {n d : Nat} {B : z_D} {A : Nat → Option (List Int)} {F G : List y_F} {D : z_D} {st : Int} {S : y_S} {T : Nat → z_D → Prop} {K : z_D → Prop} {L : Int → Int → z_D → Prop}
/-- the loop of an expansion -/
def y_lp2 (n d : Nat) (K : z_D → Prop) (T : Nat → z_D → Prop) (L : Int → Int → z_D → Prop) : Prop := ∀ a2 a3 D, w_mExpand_7 n d a2 a3 D L K T → L a2 a3 D
theorem L_f {S' : y_S} {t a3 : Int} (hL : y_lp2 n (d + 10) K T L) (hw : y_rfw B S' D) (hT : y_rT B K S') : L t a3 D := by
  have hf := y_rfw_f hw
  exact hL t a3 D ⟨y_rs (by omega) (by omega), fun _ => hT D hw, fun z => by omega⟩
theorem L_go {a3 : Int} (hL : y_lp2 n (d + 10) K T L) (hr : y_rf (B, A, F) S D) (ha : 0 ≤ a3 ∧ a3 < F.length) (hF : F.length ≤ 30) (h : z_c n (d + 10) 131 [.ref 336] D (z_qI (fun v3 D2 => L v3 a3 D2) T)) : L (-1) a3 D := by
  have e5 : D.1 336 5 = 0 := hr.1.2.2.2.2.2.2.2.2.2.2.2.2.2.2.2.2.2.2.1.trans hr.2
  have e31 : D.1 336 31 = (F.length : Int) := hr.1.2.2.2.2.2.2.2.2.2.2.2.2.2.2.2.2.2.2.2.2.2.1.1
  refine hL _ _ _ ?_
  unfold w_mExpand_7
  rw [e5, e31]
  exact ⟨z_rk rfl, fun z => absurd rfl z, fun _ => ⟨z_rk rfl, fun z => absurd rfl z, fun _ => ⟨y_rs (by omega) (by omega), y_rs (by omega) (by omega), fun c => by omega, fun _ => ⟨z_rk rfl, fun _ => h, fun z => absurd rfl z⟩⟩⟩⟩
theorem L_be {t a3 : Int} (hL : y_lp2 n (d + 10) K T L) (hr : y_rf (B, A, F) S D) (ho : y_ok st S) (ht : y_tk (y_nn S) t) (h : z_c n (d + 10) 128 [.ref 336, .int (z_i (y_tr t))] D (z_qI (fun v3 D2 => L v3 a3 D2) T)) : L (y_tr t) a3 D := by
  have e5 : D.1 336 5 = 0 := hr.1.2.2.2.2.2.2.2.2.2.2.2.2.2.2.2.2.2.2.1.trans hr.2
  have htr := y_tr_r ht ho.2.2.2.2.2.2.2.2.2.2.2.2.2.2.2.2.2.2.2.1.2
  refine hL _ _ _ ?_
  unfold w_mExpand_7
  rw [e5]
  exact ⟨z_rk rfl, fun z => absurd rfl z, fun _ => ⟨y_rs (by omega) (by omega), fun _ => ⟨y_rs (by omega) (by omega), fun z => by omega, fun _ => h⟩, fun z => by omega⟩⟩
/-- frames are small -/
def y_sf (F : List y_F) : Prop := F.length ≤ 30 ∧ ∀ x ∈ F, x.2.2.2.2.length ≤ 12
theorem y_sf_snoc {f : y_F} (h : y_sf G) (hl : G.length < 30) (hf : f.2.2.2.2.length ≤ 12) : y_sf (G ++ [f]) := ⟨by simp; omega, fun x hx => by
  rcases List.mem_append.mp hx with hx | hx
  · exact h.2 x hx
  · rw [List.mem_singleton.mp hx]; exact hf⟩
theorem y_sf_l {f : y_F} (h : y_sf (G ++ [f])) : y_sf G ∧ G.length < 30 := ⟨⟨by have := h.1; simp at this; omega, fun x hx => h.2 x (by simp [hx])⟩, by have := h.1; simp at this; omega⟩
/-- an expansion in the loop -/
def y_EX (n d : Nat) (B : z_D) (A : Nat → Option (List Int)) (K : z_D → Prop) (T : Nat → z_D → Prop) (L : Int → Int → z_D → Prop) (f : Nat) : Prop := ∀ (F : List y_F) (S : y_S) (D : z_D) (st t a3 : Int), y_rf (B, A, F) S D → y_ok st S → y_tk (y_nn S) t → y_isex (y_mo S t) = true → (F.length : Int) = y_s S 5 → y_sf F → 0 ≤ a3 → a3 ≤ F.length → 31 ≤ (f : Int) + y_s S 5 → y_fin (y_ex f (y_mo S t) S) (fun _ S' => ∀ D', y_rf (B, A, F) S' D' → L (-1) a3 D') (y_rT B K) → L (y_tr t) a3 D
/-- a frame that is no expandafter goes on -/
theorem L_gx {a3 : Int} {f : Nat} {fr : y_F} (hL : y_lp2 n (d + 10) K T L) (hE : y_EX n d B A K T L f) (h8 : fr.1 ≠ 8) (hf8 : z_r fr.1) (hsf : y_sf (G ++ [fr])) (ha : 0 ≤ a3 ∧ a3 ≤ G.length) : ∀ (g : Nat) (S : y_S) (D : z_D), y_rf (B, A, G ++ [fr]) S D → y_ok st S → ((G.length : Int) + 1 = y_s S 5) → 201 ≤ (g : Int) + y_s S 4 → 31 ≤ (f : Int) + y_s S 5 → y_fin (y_getx (y_ex f) g S) (fun t S' => ∀ D', y_rf (B, A, G ++ [fr]) S' D' → y_tk (y_nn S') t → y_isex (y_mo S' t) = false → y_aft n (d + 9) (G.length : Int) (y_tr t) D' (fun v D2 => L v a3 D2) T) (y_rT B K) → L (-1) a3 D
  | 0, S, D, hr, ho, h5, h4, hfu, h => by
    have := ho.2.2.2.2.2.2.2.2.2.2.2.2.2.2.2.2.2.2.2.2.2.2.2.1
    omega
  | g + 1, S, D, hr, ho, h5, h4, hfu, h => by
    have hlen : (G ++ [fr]).length = G.length + 1 := by simp
    have hG := (y_sf_l hsf).2
    have e31 : D.1 336 31 = ((G ++ [fr]).length : Int) := hr.1.2.2.2.2.2.2.2.2.2.2.2.2.2.2.2.2.2.2.2.2.2.1.1
    have hq : y_fq D G.length fr := hr.1.2.2.2.2.2.2.2.2.2.2.2.2.2.2.2.2.2.2.2.2.2.1.2 G.length fr (by show (G ++ [fr])[G.length]? = _; simp)
    unfold y_getx at h
    refine L_go hL hr (by rw [hlen]; omega) hsf.1 (r_mGoOn ?_)
    unfold w_mGoOn_0
    rw [e31, hlen, show ((G.length + 1 : Nat) : Int) - 1 = (G.length : Int) by omega, show (((G.length : Nat) : Int)).toNat = G.length by omega, hq.1]
    refine ⟨by omega, hf8, fun _ => ?_, fun z => absurd z h8⟩
    refine c_mNeed hr ho (y_gt (yo_getT ho) h (fun t S2 ⟨k1, k2, k3, _⟩ h D2 hr2 => ?_) (fun S' hT D2 hw => ⟨z_rk rfl, fun _ => L_f hL hw hT, fun z => absurd rfl z⟩))
    have htr := y_tr_r k3 k1.2.2.2.2.2.2.2.2.2.2.2.2.2.2.2.2.2.2.2.1.2
    have e5 : y_s S2 5 = y_s S 5 := k2.2.2.2.2.2.2.2.1
    have e4 : y_s S2 4 = y_s S 4 := k2.2.2.2.2.2.2.1
    refine ⟨y_rs (by omega) (by omega), fun z => by omega, fun _ => c_mIsex hr2.1 k1 k3 ⟨fun z => ?_, fun z => ?_⟩⟩
    · rw [if_neg (by rw [z]; exact Bool.false_ne_true)] at h
      have := h D2 hr2 k3 z
      unfold y_aft at this
      rw [show (((G.length : Nat) : Int)).toNat = G.length by omega] at this
      exact this
    · rw [if_pos z] at h
      refine hE (G ++ [fr]) S2 D2 st t a3 hr2 k1 k3 z (by rw [hlen, e5]; omega) hsf ha.1 (by rw [hlen]; omega) (by omega) (y_gk (yo_ex f _ S2 k1 (y_mo_ok k1 k3)) h (fun _ S3 ⟨c1, c2, c3⟩ h D3 hr3 => ?_))
      have f5 : y_s S3 5 = y_s S2 5 := c2.2.2.2.2.2.2.2.2.1
      exact L_gx hL hE h8 hf8 hsf ha g S3 D3 hr3 c1 (by omega) (by omega) (by omega) h
/-- a name is made -/
theorem c_spelled {ls : List Int} (hr : y_rf (B, A, G) S D) (ho : y_ok st S) (hG : G.length < 30) (h6 : D.1 356 G.length = (ls.length : Int)) (h8 : ∀ i, i < ls.length → D.1 358 (12 * G.length + i) = ls[i]?.getD 0) (hl : ls.length ≤ 11) (hcode : ∀ c ∈ ls, y_code c = true) (h : y_fin (y_csr S ls) (fun _ S' => ∀ D', y_rf (B, A, G) S' D' → K D') (y_rT B K)) : z_c n (d + 5) 132 [.ref 336, .int (z_i (G.length : Int))] D (z_qV K T) := by
  unfold y_csr at h
  refine r_mSpelled (fun m a k D' => a = (G.length : Int) ∧ 0 ≤ k ∧ k ≤ ls.length ∧ ls ≠ [] ∧ m = (ls.length - k).toNat ∧ y_rf (B, A, G) S D' ∧ y_spl D' (ls.take k.toNat) ∧ D'.1 356 G.length = (ls.length : Int) ∧ ∀ i, i < ls.length → D'.1 358 (12 * G.length + i) = ls[i]?.getD 0) ?_ ?_
  · unfold w_mSpelled_0
    rw [show (((G.length : Nat) : Int)).toNat = G.length by omega, h6]
    refine ⟨by omega, y_rs (by omega) (by omega), fun c D3 e3 => ⟨_, rfl, Int.le_refl _, by omega, fun z => by rw [z] at c; simp at c, rfl, ⟨by rw [e3]; exact rf_sp hr.1 0, hr.2⟩, ⟨by rw [e3]; rfl, fun i hi => by simp at hi⟩, by rw [e3, y_uz_cell (by decide)]; exact h6, fun i hi => by rw [e3, y_uz_cell (by decide)]; exact h8 i hi⟩, fun c => ?_⟩
    have : ls = [] := List.eq_nil_of_length_eq_zero (by omega)
    rw [if_pos this] at h
    exact c_stop hr (by decide) (by decide) h
  · rintro mm a k D' ⟨rfl, k0, k1, hne, rfl, hr1, hs1, g6, g8⟩
    have hn : (y_nm S).length ≤ 118 := ho.2.2.2.2.2.2.2.2.2.2.2.2.2.2.2.2.2.2.2.1.2
    unfold w_mSpelled_23
    rw [show (((G.length : Nat) : Int)).toNat = G.length by omega, g6]
    refine ⟨by omega, y_rs (by omega) (by omega), y_rs (by omega) (by omega), fun c => ?_, fun c => ⟨by omega, ?_⟩⟩
    · rw [if_neg hne] at h
      rw [show k.toNat = ls.length by omega, List.take_length] at hs1
      have hno : y_no (ls, false) := ⟨by
        cases ls with
        | nil => exact absurd rfl hne
        | cons a b => simp, hl, hcode, fun z => (by cases z)⟩
      have bad : ∀ (v : Int) (S' : y_S) (D2 : z_D), y_rfw B S' D2 → y_rT B K S' → w_mSpelled_88 n (d + 4) v D2 K T := fun v S' D2 hw hT => by
        have hf := y_rfw_f hw
        exact ⟨y_rs (by omega) (by omega), fun _ => hT D2 hw, fun z => by omega⟩
      refine c_named (q := (ls, false)) hr1 ho hs1 hno (y_gt (yo_find ho hno) h (fun t S2 ⟨b1, b2, b3, b4, b5⟩ h D2 hr2 => ?_) (fun S' hT D2 hw => ⟨z_rk rfl, fun _ => bad _ S' D2 hw hT, fun z => absurd rfl z⟩))
      have hn2 : (y_nm S2).length ≤ 118 := b1.2.2.2.2.2.2.2.2.2.2.2.2.2.2.2.2.2.2.2.1.2
      have b5 : 4096 ≤ t ∧ t < 4096 + ((y_nm S2).length : Int) := b5
      have hnt : y_nt (y_nn S2) t := b5
      have em : y_mo S2 t = y_mean S2 (t - 4096).toNat := by
        unfold y_mo
        rw [if_neg (by omega), if_neg (by omega)]
      rw [em] at h
      have hm := b1.2.2.2.2.2.2.2.2.2.2.2.2.2.2.2.2.2.1 (t - 4096).toNat
      have hmr := y_mr_r hm b1.2.2.2.2.2.2.2.2.2.2.2.2.2.2.2.2.2.2.2.2.2.1
      have hz : y_mr (y_mean S2 (t - 4096).toNat) = 0 ↔ y_mean S2 (t - 4096).toNat = 0 := by
        have := y_mn_r hm b1.2.2.2.2.2.2.2.2.2.2.2.2.2.2.2.2.2.2.2.2.2.1
        unfold y_mr
        split
        · exact Iff.rfl
        · split <;> omega
      have et : y_tr t = t := if_pos (by omega)
      have put : ∀ (S3 : y_S) (D3 : z_D), y_rf (B, A, G) S3 D3 → y_ok st S3 → y_fin (y_put t S3) (fun _ S' => ∀ D', y_rf (B, A, G) S' D' → K D') (y_rT B K) → w_mSpelled_88 n (d + 4) t D3 K T := by
        intro S3 D3 hr3 ho3 h3
        have e5 : D3.1 336 5 = 0 := hr3.1.2.2.2.2.2.2.2.2.2.2.2.2.2.2.2.2.2.2.1.trans hr3.2
        unfold w_mSpelled_88
        rw [e5]
        refine ⟨z_rk rfl, fun z => absurd rfl z, fun _ => ?_⟩
        have := c_mPut (n := n) (d := d + 2) (T := T) hr3 ho3 h3
        rw [et] at this
        exact this
      rw [hr2.1.2.2.2.2.2.2.2.2.2.1 _ (by omega)]
      refine ⟨y_rs (by omega) (by omega), fun z => by omega, fun _ => ⟨by omega, y_rs (by omega) (by omega), fun z => ?_, fun z => ?_⟩⟩
      · rw [if_neg (fun w => z (hz.mpr w))] at h
        exact put S2 D2 hr2 b1 h
      · rw [if_pos (hz.mp z)] at h
        have key := c_mChange (n := n) (d := d + 2) (T := T) (K := fun D9 => w_mSpelled_88 n (d + 4) t D9 K T) hr2 b1 (y_nt_ky hnt) (y_gt (yo_chg b1 (y_nt_ky hnt) (y_nt_kv hnt (Or.inl (by decide)))) h (fun _ S3 ⟨c1, c2⟩ h D3 hr3 => put S3 D3 hr3 c1 h) (fun S' hT D3 hw => bad _ S' D3 hw hT))
        rw [y_nt_kr hnt, y_nt_vr hnt] at key
        exact key
    · have hkl : k.toNat < ls.length := by omega
      have e358 : D'.1 358 (Int.toNat ((12 * (G.length : Int)) + k)) = ls[k.toNat] := by
        rw [show Int.toNat ((12 * (G.length : Int)) + k) = 12 * G.length + k.toNat by omega, g8 _ hkl, List.getElem?_eq_getElem hkl]
        rfl
      rw [e358]
      have hlt : (ls.take k.toNat).length = k.toNat := by rw [List.length_take]; omega
      have e16 : D'.1 336 16 = (k.toNat : Int) := by rw [hs1.1, hlt]
      refine r_mSay ?_
      unfold w_mSay_0
      rw [e16]
      refine ⟨y_rs (by omega) (by omega), fun z => by omega, fun _ => ⟨by omega, fun D4 e4 D5 e5 => ?_⟩⟩
      rw [show (((k.toNat : Nat) : Int)).toNat = k.toNat by omega] at e4
      have e41 : D4.1 336 16 = (k.toNat : Int) := by rw [e4]; exact e16
      rw [e41] at e5
      refine ⟨_, ?_, rfl, by omega, by omega, hne, rfl, ⟨by rw [e5, e4]; exact rf_sp (rf_sg hr1.1 _ _) _, hr.2⟩, ?_, by rw [e5, e4, y_uz_cell (by decide), y_uz_cell (by decide)]; exact g6, fun i hi => by rw [e5, e4, y_uz_cell (by decide), y_uz_cell (by decide)]; exact g8 i hi⟩
      · omega
      · rw [show (k + 1).toNat = k.toNat + 1 by omega, List.take_succ_eq_append_getElem hkl, e5, e4]
        show y_ar (am_u2 D'.1 344 k.toNat ls[k.toNat] 344) ((k.toNat : Int) + 1) (ls.take k.toNat ++ [ls[k.toNat]])
        rw [← e16]
        exact y_ar_add hs1 (fun i => by unfold am_u2; rw [if_pos rfl, hlt])
end RE
