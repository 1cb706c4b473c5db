/-! contracts of the reference: an expansion, to its end -/
section RQ
variable {n d : Nat} {B : z_D} {A : Nat → Option (List Int)} {F G : List y_F} {D : z_D} {st : Int} {S : y_S} {T : Nat → z_D → Prop} {K : z_D → Prop} {L : Int → Int → z_D → Prop}
/-- behind a fault frames do not matter -/
theorem y_rfw_j {j : Nat} {v : Int} (h : y_rfw B S D) : y_rfw B S (z_uz D 355 j v) := by
  obtain ⟨A', F', w, hr, f0, f8⟩ := h
  refine ⟨A', (List.range F'.length).map (fun k => ((z_uz D 355 j v).1 354 k, (z_uz D 355 j v).1 355 k, (z_uz D 355 j v).1 356 k, (z_uz D 355 j v).1 357 k, [])), w, ?_, f0, f8⟩
  refine ⟨y_g1 hr.1 (by decide), hr.2.1, hr.2.2.1, hr.2.2.2.1, hr.2.2.2.2.1, hr.2.2.2.2.2.1, hr.2.2.2.2.2.2.1, hr.2.2.2.2.2.2.2.1, hr.2.2.2.2.2.2.2.2.1, hr.2.2.2.2.2.2.2.2.2.1, hr.2.2.2.2.2.2.2.2.2.2.1, hr.2.2.2.2.2.2.2.2.2.2.2.1, hr.2.2.2.2.2.2.2.2.2.2.2.2.1, hr.2.2.2.2.2.2.2.2.2.2.2.2.2.1, hr.2.2.2.2.2.2.2.2.2.2.2.2.2.2.1, hr.2.2.2.2.2.2.2.2.2.2.2.2.2.2.2.1, hr.2.2.2.2.2.2.2.2.2.2.2.2.2.2.2.2.1, hr.2.2.2.2.2.2.2.2.2.2.2.2.2.2.2.2.2.1, hr.2.2.2.2.2.2.2.2.2.2.2.2.2.2.2.2.2.2.1, hr.2.2.2.2.2.2.2.2.2.2.2.2.2.2.2.2.2.2.2.1, hr.2.2.2.2.2.2.2.2.2.2.2.2.2.2.2.2.2.2.2.2.1, ⟨?_, fun k x e => ?_⟩, hr.2.2.2.2.2.2.2.2.2.2.2.2.2.2.2.2.2.2.2.2.2.2⟩
  · have := hr.2.2.2.2.2.2.2.2.2.2.2.2.2.2.2.2.2.2.2.2.2.1.1
    dsimp only at this ⊢
    rw [List.length_map, List.length_range]
    exact this
  · have e : ((List.range F'.length).map (fun k => ((z_uz D 355 j v).1 354 k, (z_uz D 355 j v).1 355 k, (z_uz D 355 j v).1 356 k, (z_uz D 355 j v).1 357 k, ([] : List Int))))[k]? = some x := e
    rw [List.getElem?_map] at e
    by_cases c : k < F'.length
    · rw [List.getElem?_range c] at e
      have e := Option.some.inj e
      subst e
      exact ⟨rfl, rfl, rfl, rfl, fun i hi => (by cases hi)⟩
    · rw [List.getElem?_eq_none (by rw [List.length_range]; omega)] at e
      cases e
/-- a name in the making -/
theorem L_csn {a3 : Int} {f : Nat} (hL : y_lp2 n (d + 10) K T L) (hE : y_EX n d B A K T L f) (hsf : y_sf G) (hG : G.length < 30) (ha : 0 ≤ a3 ∧ a3 ≤ G.length) : ∀ (g : Nat) (ls : List Int) (S : y_S) (D : z_D), y_rf (B, A, G ++ [(10, 0, (ls.length : Int), 0, ls)]) S D → y_ok st S → g + ls.length = 12 → ls.length ≤ 11 → (∀ c ∈ ls, y_code c = true) → ((G.length : Int) + 1 = y_s S 5) → 31 ≤ (f : Int) + y_s S 5 → y_fin (y_bd (y_csn (y_ex f) g ls S) (fun ls S1 => y_csr S1 ls)) (fun _ S' => ∀ D', y_rf (B, A, G) S' D' → L (-1) a3 D') (y_rT B K) → L (-1) a3 D
  | 0, ls, S, D, hr, ho, hg, hl, hcode, h5, hfu, h => by omega
  | g + 1, ls, S, D, hr, ho, hg, hl, hcode, h5, hfu, h => by
    have o4 := ho.2.2.2.2.2.2.2.2.2.2.2.2.2.2.2.2.2.2.2.2.2.2.2.1
    have hsf2 : y_sf (G ++ [((10 : Int), (0 : Int), (ls.length : Int), (0 : Int), ls)]) := y_sf_snoc hsf hG (by show ls.length ≤ 12; omega)
    have h' : y_fin (y_bd (y_getx (y_ex f) 201 S) (fun t S1 => y_bd (y_cst (y_ex f) g ls t S1) (fun ls S1 => y_csr S1 ls))) (fun _ S' => ∀ D', y_rf (B, A, G) S' D' → L (-1) a3 D') (y_rT B K) := by
      unfold y_csn at h
      cases hg : y_getx (y_ex f) 201 S with
      | inl q => rw [hg] at h; exact h
      | inr q => rw [hg] at h; exact h
    refine L_gx (st := st) hL hE (fr := ((10 : Int), (0 : Int), (ls.length : Int), (0 : Int), ls)) (show (10 : Int) ≠ 8 by decide) (z_rk rfl) hsf2 ha 201 S D hr ho h5 (by omega) hfu (y_gk (yo_getx (yo_ex f) 201 S ho) h' (fun t S1 ⟨k1, k2, k3⟩ h D1 hr1 _ hne => ?_))
    have htr := y_tr_r k3 k1.2.2.2.2.2.2.2.2.2.2.2.2.2.2.2.2.2.2.2.1.2
    have hm := y_mo_ok k1 k3
    have hmr := y_mr_r hm k1.2.2.2.2.2.2.2.2.2.2.2.2.2.2.2.2.2.2.2.2.2.1
    have hmn := y_mn_r hm k1.2.2.2.2.2.2.2.2.2.2.2.2.2.2.2.2.2.2.2.2.2.1
    have e5 : y_s S1 5 = y_s S 5 := k2.2.2.2.2.2.2.2.2.1
    have hq : y_fq D1 G.length ((10 : Int), (0 : Int), (ls.length : Int), (0 : Int), ls) := hr1.1.2.2.2.2.2.2.2.2.2.2.2.2.2.2.2.2.2.2.2.2.2.1.2 G.length _ (by show (G ++ [_])[G.length]? = _; simp)
    have e11 : y_mr (y_mo S1 t) = 11 ↔ y_mo S1 t = 11 := by
      unfold y_mr
      split
      · exact Iff.rfl
      · split <;> omega
    refine c_mMo hr1.1 k1 k3 ?_
    rw [show (((G.length : Nat) : Int)).toNat = G.length by omega, hq.1]
    refine ⟨by omega, z_rk rfl, fun _ => ⟨y_rs (by omega) (by omega), fun c => ?_, fun c D29 e29 => ?_⟩, fun z => (by cases z)⟩
    · unfold y_cst at h
      rw [if_neg (fun w => c (e11.mpr w))] at h
      have hname := y_tr_name k3 k1.2.2.2.2.2.2.2.2.2.2.2.2.2.2.2.2.2.2.2.1.2
      have h356 : D1.1 356 G.length = (ls.length : Int) := hq.2.2.1
      rw [h356]
      refine ⟨fun c1 => ⟨by omega, y_rs (by omega) (by omega), fun c2 => ⟨by omega, by omega, fun D17 e17 => ⟨by omega, by omega, fun D20 e20 => ?_⟩⟩, fun c2 => ?_⟩, fun c1 => ?_⟩
      · rw [if_neg (by omega), if_neg (by omega)] at h
        have et : y_tr t = t := if_pos (by omega)
        have hch : y_ch t := by
          rcases k3 with z | z | z
          · exact z
          · omega
          · omega
        have hcr := y_ch_r hch
        have hand : z_and (y_tr t) 255 = t % 256 := by rw [et, z_and255 (by omega) (by omega)]
        rw [hand, show Int.toNat ((12 * (G.length : Int)) + (ls.length : Int)) = 12 * G.length + ls.length by omega] at e17
        have e176 : D17.1 356 G.length = (ls.length : Int) := by rw [e17, y_uz_cell (by decide)]; exact h356
        rw [e176] at e20
        have hlen : (ls ++ [t % 256]).length = ls.length + 1 := by simp
        have hr20 : y_rf (B, A, G ++ [((10 : Int), (0 : Int), ((ls ++ [t % 256]).length : Int), (0 : Int), ls ++ [t % 256])]) S1 D20 := by
          refine ⟨?_, hr1.2⟩
          have e : D20 = (D20.1, D1.2) := by rw [e20, e17]; rfl
          rw [e]
          refine rf_fr hr1.1 (fun c hc => by rw [e20, e17, y_uz_cell (by omega), y_uz_cell (by omega)]) (fun c j c1 c2 hj => ?_) (fun j hj => ?_) hsf.2 ⟨?_, ?_, ?_, ?_, fun i hi => ?_⟩
          · rw [e20, e17]
            by_cases z : c = 356
            · rw [z, y_uz_slot (by omega), y_uz_cell (by decide)]
            · rw [y_uz_cell z, y_uz_cell (by omega)]
          · rw [e20, e17, y_uz_cell (by decide), y_uz_slot (by omega)]
          · show D20.1 354 G.length = 10
            rw [e20, e17, y_uz_cell (by decide), y_uz_cell (by decide)]; exact hq.1
          · show D20.1 355 G.length = 0
            rw [e20, e17, y_uz_cell (by decide), y_uz_cell (by decide)]; exact hq.2.1
          · show D20.1 356 G.length = ((ls ++ [t % 256]).length : Int)
            rw [e20, y_uz_same, hlen]; omega
          · show D20.1 357 G.length = 0
            rw [e20, e17, y_uz_cell (by decide), y_uz_cell (by decide)]; exact hq.2.2.2.1
          · show D20.1 358 (12 * G.length + i) = (ls ++ [t % 256])[i]?.getD 0
            have hi : i < (ls ++ [t % 256]).length := hi
            rw [e20, e17, y_uz_cell (by decide)]
            by_cases z : i = ls.length
            · rw [z, y_uz_same]; simp
            · rw [y_uz_slot (by omega), List.getElem?_append_left (by omega)]
              exact hq.2.2.2.2 i (by show i < ls.length; omega)
        exact L_csn hL hE hsf hG ha g (ls ++ [t % 256]) S1 D20 hr20 k1 (by omega) (by omega) (y_all_code hcode hch.2.2) (by omega) (by omega) h
      · rw [if_neg (by omega), if_pos (by omega)] at h
        exact c_stop hr1 (by decide) (by decide) (fun D2 hw => L_f hL hw h)
      · rw [if_pos (by omega)] at h
        exact c_stop hr1 (by decide) (by decide) (fun D2 hw => L_f hL hw h)
    · unfold y_cst at h
      rw [if_pos (e11.mp c)] at h
      have e31 : D1.1 336 31 = ((G ++ [((10 : Int), (0 : Int), (ls.length : Int), (0 : Int), ls)]).length : Int) := hr1.1.2.2.2.2.2.2.2.2.2.2.2.2.2.2.2.2.2.2.2.2.2.1.1
      have hl1 : ((G ++ [((10 : Int), (0 : Int), (ls.length : Int), (0 : Int), ls)]).length : Int) - 1 = (G.length : Int) := by simp
      rw [e31, hl1] at e29
      have hr29 : y_rf (B, A, G) S1 D29 := ⟨by rw [e29]; exact rf_popF hr1.1, hr1.2⟩
      exact c_spelled hr29 k1 hG (by rw [e29, y_uz_cell (by decide)]; exact hq.2.2.1) (fun i hi => by rw [e29, y_uz_cell (by decide)]; exact hq.2.2.2.2 i hi) hl hcode (y_tm h (fun _ S' z => z) (fun S' hT D2 hw => L_f hL hw hT))
/-- the code that if compares -/
theorem y_cod_mr {m : Nat} {t : Int} (hm : y_mn m (y_mo S t)) (h60 : m ≤ 60) (hne : y_isex (y_mo S t) = false) : (1000 ≤ y_mr (y_mo S t) → z_and (y_mr (y_mo S t) - 1000) 255 = y_cod S t) ∧ (y_mr (y_mo S t) < 1000 → 256 = y_cod S t) := by
  have hr := y_mn_r hm h60
  have hx := of_decide_eq_false hne
  unfold y_cod y_isch
  generalize y_mo S t = v at *
  unfold y_mr
  split
  · refine ⟨fun c => by omega, fun _ => ?_⟩
    rw [if_neg (by simp; omega)]
  · split
    · refine ⟨fun _ => ?_, fun c => by omega⟩
      rw [if_pos (by simp; omega), show v + 1000 - 1000 = v by omega, z_and255 (by omega) (by omega)]
    · omega
theorem L_if {a3 : Int} {f : Nat} {C : List Int} (hL : y_lp2 n (d + 10) K T L) (hE : y_EX n d B A K T L f) (hsf : y_sf G) (hG : G.length < 30) (ha : 0 ≤ a3 ∧ a3 ≤ G.length) (hr : y_rf (B, A, G ++ [(13, 0, 0, (C.length : Int), [])]) S D) (ho : y_ok st S) (hC : y_l S 3 = C ++ [0]) (h5 : (G.length : Int) + 1 = y_s S 5) (hfu : 31 ≤ (f : Int) + y_s S 5) (h : y_fin (y_bd (y_bd (y_getx (y_ex f) 201 S) (fun a S1 => y_bd (y_getx (y_ex f) 201 S1) (fun b S2 => .inl (decide (y_cod S1 a = y_cod S2 b), S2)))) (fun b S3 => if b then .inl ((), y_sl (y_sl S3 3 ((y_l S3 3).take (C.length + 1))) 3 ((y_l (y_sl S3 3 ((y_l S3 3).take (C.length + 1))) 3).set C.length 1)) else y_pass true 1000 0 (y_sl S3 3 ((y_l S3 3).take (C.length + 1))))) (fun _ S' => ∀ D', y_rf (B, A, G) S' D' → L (-1) a3 D') (y_rT B K)) : L (-1) a3 D := by
  have o4 := ho.2.2.2.2.2.2.2.2.2.2.2.2.2.2.2.2.2.2.2.2.2.2.2.1
  have h' : y_fin (y_bd (y_getx (y_ex f) 201 S) (fun a S1 => y_bd (y_getx (y_ex f) 201 S1) (fun b S3 => if decide (y_cod S1 a = y_cod S3 b) then .inl ((), y_sl (y_sl S3 3 ((y_l S3 3).take (C.length + 1))) 3 ((y_l (y_sl S3 3 ((y_l S3 3).take (C.length + 1))) 3).set C.length 1)) else y_pass true 1000 0 (y_sl S3 3 ((y_l S3 3).take (C.length + 1)))))) (fun _ S' => ∀ D', y_rf (B, A, G) S' D' → L (-1) a3 D') (y_rT B K) := by
    cases hg : y_getx (y_ex f) 201 S with
    | inl q =>
      rw [hg] at h
      rw [y_bd_inl] at h ⊢
      cases hg2 : y_getx (y_ex f) 201 q.2 with
      | inl q2 => rw [hg2] at h; exact h
      | inr q2 => rw [hg2] at h; exact h
    | inr q => rw [hg] at h; exact h
  refine L_gx (st := st) hL hE (fr := ((13 : Int), (0 : Int), (0 : Int), (C.length : Int), [])) (show (13 : Int) ≠ 8 by decide) (z_rk rfl) (y_sf_snoc hsf hG (by simp)) ha 201 S D hr ho h5 (by omega) hfu (y_gk (yo_getx (yo_ex f) 201 S ho) h' (fun t S1 ⟨k1, k2, k3⟩ h D1 hr1 _ hne => ?_))
  have hm := y_mo_ok k1 k3
  have hmr := y_mr_r hm k1.2.2.2.2.2.2.2.2.2.2.2.2.2.2.2.2.2.2.2.2.2.1
  have e5 : y_s S1 5 = y_s S 5 := k2.2.2.2.2.2.2.2.2.1
  have o41 := k1.2.2.2.2.2.2.2.2.2.2.2.2.2.2.2.2.2.2.2.2.2.2.2.1
  have hq : y_fq D1 G.length ((13 : Int), (0 : Int), (0 : Int), (C.length : Int), []) := hr1.1.2.2.2.2.2.2.2.2.2.2.2.2.2.2.2.2.2.2.2.2.2.1.2 G.length _ (by show (G ++ [_])[G.length]? = _; simp)
  have hcm := y_cod_mr hm k1.2.2.2.2.2.2.2.2.2.2.2.2.2.2.2.2.2.2.2.2.2.1 hne
  have rc : 0 ≤ y_cod S1 t ∧ y_cod S1 t ≤ 256 := by unfold y_cod; split <;> omega
  -- the second token
  have second : w_mGoOn_99 n (d + 9) (G.length : Int) (y_cod S1 t) D1 (fun v D2 => L v a3 D2) T := by
    unfold w_mGoOn_99
    have h356 : D1.1 356 G.length = 0 := hq.2.2.1
    rw [show (((G.length : Nat) : Int)).toNat = G.length by omega, h356]
    refine ⟨by omega, by omega, fun D3 e3 => ⟨by omega, ?_⟩⟩
    have e36 : D3.1 356 G.length = 1 := by rw [e3, y_uz_same]; rfl
    rw [e36]
    refine ⟨z_rk rfl, fun _ => ⟨by omega, fun D7 e7 => ?_⟩, fun z => (by cases z)⟩
    have hr7 : y_rf (B, A, G ++ [((13 : Int), y_cod S1 t, (1 : Int), (C.length : Int), [])]) S1 D7 := by
      refine ⟨?_, hr1.2⟩
      have e : D7 = (D7.1, D1.2) := by rw [e7, e3]; rfl
      rw [e]
      refine rf_fr hr1.1 (fun c hc => by rw [e7, e3, y_uz_cell (by omega), y_uz_cell (by omega)]) (fun c j c1 c2 hj => ?_) (fun j hj => by rw [e7, e3, y_uz_cell (by decide), y_uz_cell (by decide)]) hsf.2 ⟨?_, ?_, ?_, ?_, fun i hi => (by cases hi)⟩
      · rw [e7, e3, y_uz_slot (by omega), y_uz_slot (by omega)]
      · show D7.1 354 G.length = 13
        rw [e7, e3, y_uz_cell (by decide), y_uz_cell (by decide)]; exact hq.1
      · show D7.1 355 G.length = y_cod S1 t
        rw [e7, y_uz_same]
      · show D7.1 356 G.length = 1
        rw [e7, y_uz_cell (by decide)]; exact e36
      · show D7.1 357 G.length = (C.length : Int)
        rw [e7, e3, y_uz_cell (by decide), y_uz_cell (by decide)]; exact hq.2.2.2.1
    refine L_gx (st := st) hL hE (fr := ((13 : Int), y_cod S1 t, (1 : Int), (C.length : Int), [])) (show (13 : Int) ≠ 8 by decide) (z_rk rfl) (y_sf_snoc hsf hG (by simp)) ha 201 S1 D7 hr7 k1 (by omega) (by omega) (by omega) (y_gk (yo_getx (yo_ex f) 201 S1 k1) h (fun u S2 ⟨a1, a2, b3⟩ h D8 hr8 _ hne2 => ?_))
    have hm2 := y_mo_ok a1 b3
    have hmr2 := y_mr_r hm2 a1.2.2.2.2.2.2.2.2.2.2.2.2.2.2.2.2.2.2.2.2.2.1
    have hq2 : y_fq D8 G.length ((13 : Int), y_cod S1 t, (1 : Int), (C.length : Int), []) := hr8.1.2.2.2.2.2.2.2.2.2.2.2.2.2.2.2.2.2.2.2.2.2.1.2 G.length _ (by show (G ++ [_])[G.length]? = _; simp)
    have hcm2 := y_cod_mr hm2 a1.2.2.2.2.2.2.2.2.2.2.2.2.2.2.2.2.2.2.2.2.2.1 hne2
    have rc2 : 0 ≤ y_cod S2 u ∧ y_cod S2 u ≤ 256 := by unfold y_cod; split <;> omega
    have hpre : (C ++ [0]) <+: y_l S2 3 := a2.2.2.2.2.2.2.2.2.2.2 C (k2.2.2.2.2.2.2.2.2.2.2 C (by rw [hC]; exact List.prefix_refl _))
    have last : w_mGoOn_99 n (d + 9) (G.length : Int) (y_cod S2 u) D8 (fun v D2 => L v a3 D2) T := by
      unfold w_mGoOn_99
      have h356' : D8.1 356 G.length = 1 := hq2.2.2.1
      rw [show (((G.length : Nat) : Int)).toNat = G.length by omega, h356']
      refine ⟨by omega, by omega, fun D9 e9 => ⟨by omega, ?_⟩⟩
      have e96 : D9.1 356 G.length = 2 := by rw [e9, y_uz_same]; rfl
      rw [e96]
      refine ⟨z_rk rfl, fun z => absurd rfl z, fun _ D10 e10 => ?_⟩
      have hr9 : y_ref (B, A, G ++ [((13 : Int), y_cod S1 t, (2 : Int), (C.length : Int), [])]) S2 D9 := by
        have e : D9 = (D9.1, D8.2) := by rw [e9]; rfl
        rw [e]
        refine rf_fr hr8.1 (fun c hc => by rw [e9, y_uz_cell (by omega)]) (fun c j c1 c2 hj => by rw [e9, y_uz_slot (by omega)]) (fun j hj => by rw [e9, y_uz_cell (by decide)]) hsf.2 ⟨?_, ?_, ?_, ?_, fun i hi => (by cases hi)⟩
        · show D9.1 354 G.length = 13
          rw [e9, y_uz_cell (by decide)]; exact hq2.1
        · show D9.1 355 G.length = y_cod S1 t
          rw [e9, y_uz_cell (by decide)]; exact hq2.2.1
        · exact e96
        · show D9.1 357 G.length = (C.length : Int)
          rw [e9, y_uz_cell (by decide)]; exact hq2.2.2.2.1
      have e931 : D9.1 336 31 - 1 = (G.length : Int) := by
        have := hr9.2.2.2.2.2.2.2.2.2.2.2.2.2.2.2.2.2.2.2.2.2.1.1
        dsimp only at this
        rw [this]; simp
      rw [e931] at e10
      have hr10 : y_rf (B, A, G) S2 D10 := ⟨by rw [e10]; exact rf_popF hr9, hr8.2⟩
      have f355 : D10.1 355 G.length = y_cod S1 t := by rw [e10, y_uz_cell (by decide), e9, y_uz_cell (by decide)]; exact hq2.2.1
      have f357 : D10.1 357 G.length = (C.length : Int) := by rw [e10, y_uz_cell (by decide), e9, y_uz_cell (by decide)]; exact hq2.2.2.2.1
      rw [f355, f357]
      have dec : ∀ b : Bool, b = decide (y_cod S1 t = y_cod S2 u) → w_mGoOn_154 n (d + 9) (G.length : Int) (y_cod S2 u) (C.length : Int) b D10 (fun v D2 => L v a3 D2) T := by
        intro b hb
        subst hb
        refine c_decide (Q := (B, A, G)) hr10 a1 hpre (y_tm h (fun _ S' z D11 hr11 => ⟨by omega, fun D12 e12 => z D12 ⟨?_, hr11.2⟩⟩) (fun S' hT D11 hw => ⟨by omega, fun D12 e12 => L_f hL (S' := S') ?_ hT⟩))
        · rw [e12, show (((G.length : Nat) : Int)).toNat = G.length by omega]
          exact rf_junk hr11.1 _
        · rw [e12]
          exact y_rfw_j hw
      exact ⟨by omega, by omega, y_rs (by omega) (by omega), y_rs (by omega) (by omega), fun c => dec false (decide_eq_false (fun z => c z.symm)).symm, fun c => dec true (decide_eq_true c.symm).symm⟩
    refine c_mMo hr8.1 a1 b3 ?_
    rw [show (((G.length : Nat) : Int)).toNat = G.length by omega, hq2.1]
    refine ⟨by omega, z_rk rfl, fun z => absurd rfl z, fun _ => ⟨y_rs (by omega) (by omega), fun c => ?_, fun c => ?_⟩⟩
    · rw [hcm2.1 c]; exact last
    · have := hcm2.2 c
      rw [this]; exact last
  refine c_mMo hr1.1 k1 k3 ?_
  rw [show (((G.length : Nat) : Int)).toNat = G.length by omega, hq.1]
  refine ⟨by omega, z_rk rfl, fun z => absurd rfl z, fun _ => ⟨y_rs (by omega) (by omega), fun c => ?_, fun c => ?_⟩⟩
  · rw [hcm.1 c]; exact second
  · have := hcm.2 c
    rw [this]; exact second
end RQ
