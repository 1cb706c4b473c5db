/-! contracts of the reference: arguments -/
abbrev y_Qp (Q : y_Q) (p : Nat) (l : List Int) : y_Q := (Q.1, am_u1 Q.2.1 p (some l), Q.2.2)
theorem y_Qp_at (Q : y_Q) (p : Nat) (l : List Int) : (y_Qp Q p l).2.1 p = some l := by
  show am_u1 Q.2.1 p (some l) p = _
  unfold am_u1
  rw [if_pos rfl]
theorem y_Qp2 (Q : y_Q) (p : Nat) (l m : List Int) : y_Qp (y_Qp Q p l) p m = y_Qp Q p m := by
  show (Q.1, am_u1 (am_u1 Q.2.1 p (some l)) p (some m), Q.2.2) = _
  refine Prod.ext rfl (Prod.ext ?_ rfl)
  funext i
  by_cases e : i = p <;> simp [am_u1, e]
section RZ
variable {n d : Nat} {Q : y_Q} {D : z_D} {st : Int} {S : y_S} {T : Nat → z_D → Prop}
/-- an argument changes -/
theorem rf_argO {p : Nat} {Z : Nat → Nat → Int} {o : Option (List Int)} (hr : y_ref Q S D) (hp : p < 4) (hf : ∀ c, c ≠ 360 → c ≠ 361 → Z c = D.1 c) (h0 : ∀ i, i < 42 * p ∨ 42 * p + 42 ≤ i → Z 360 i = D.1 360 i) (h1 : ∀ i, i ≠ p → Z 361 i = D.1 361 i) (hpa : ∀ l, o = some l → l.length ≤ 41 ∧ y_pa (Z 360) (42 * p) (Z 361 p) (l.map y_tr)) : y_ref (Q.1, am_u1 Q.2.1 p o, Q.2.2) S (Z, D.2) := by
  refine ⟨⟨hr.1.1, fun c hc => (hf c (by omega) (by omega)).trans (hr.1.2 c hc)⟩, ?_, ?_, ?_, ?_, ?_, ?_, ?_, ?_, ?_, ?_, ?_, ?_, ?_, ?_, fun i x hi e => ?_, ?_, ?_, ?_, ?_, ?_, ?_, ?_⟩ <;> (try dsimp only)
  · rw [hf 337 (by decide) (by decide), hf 336 (by decide) (by decide)]; exact hr.2.1
  · rw [hf 339 (by decide) (by decide), hf 336 (by decide) (by decide)]; exact hr.2.2.1
  · rw [hf 359 (by decide) (by decide), hf 336 (by decide) (by decide)]; exact hr.2.2.2.1
  · rw [hf 353 (by decide) (by decide), hf 336 (by decide) (by decide)]; exact hr.2.2.2.2.1
  · rw [hf 336 (by decide) (by decide)]; exact hr.2.2.2.2.2.1
  · rw [hf 336 (by decide) (by decide), hf 345 (by decide) (by decide), hf 346 (by decide) (by decide), hf 347 (by decide) (by decide)]; exact hr.2.2.2.2.2.2.1
  · rw [hf 338 (by decide) (by decide)]; exact hr.2.2.2.2.2.2.2.1
  · rw [hf 336 (by decide) (by decide), hf 340 (by decide) (by decide), hf 341 (by decide) (by decide), hf 342 (by decide) (by decide)]; exact hr.2.2.2.2.2.2.2.2.1
  · rw [hf 343 (by decide) (by decide)]; exact hr.2.2.2.2.2.2.2.2.2.1
  · rw [hf 336 (by decide) (by decide)]; exact hr.2.2.2.2.2.2.2.2.2.2.1
  · unfold y_mq; dsimp only
    rw [hf 348 (by decide) (by decide), hf 349 (by decide) (by decide), hf 350 (by decide) (by decide), hf 351 (by decide) (by decide), hf 352 (by decide) (by decide)]; exact hr.2.2.2.2.2.2.2.2.2.2.2.1
  · rw [hf 348 (by decide) (by decide), hf 349 (by decide) (by decide)]; exact hr.2.2.2.2.2.2.2.2.2.2.2.2.1
  · intro x e
    rw [hf 350 (by decide) (by decide), hf 351 (by decide) (by decide)]
    refine hr.2.2.2.2.2.2.2.2.2.2.2.2.2.1 x ?_
    have e : am_u1 Q.2.1 p o 5 = some x := e
    unfold am_u1 at e
    rw [if_neg (by omega)] at e
    exact e
  · rw [hf 352 (by decide) (by decide)]; exact hr.2.2.2.2.2.2.2.2.2.2.2.2.2.2.1
  · have e : am_u1 Q.2.1 p o i = some x := e
    unfold am_u1 at e
    by_cases c : i = p
    · rw [if_pos c] at e
      rw [c]
      exact hpa x e
    · rw [if_neg c] at e
      obtain ⟨z1, z2⟩ := hr.2.2.2.2.2.2.2.2.2.2.2.2.2.2.2.1 i x hi e
      refine ⟨z1, by rw [h1 i c]; exact z2.1, fun j hj => ?_⟩
      rw [List.length_map] at hj
      rw [h0 _ (by omega)]
      exact z2.2 j (by rw [List.length_map]; exact hj)
  · rw [hf 336 (by decide) (by decide)]; exact hr.2.2.2.2.2.2.2.2.2.2.2.2.2.2.2.2.1
  · rw [hf 336 (by decide) (by decide)]; exact hr.2.2.2.2.2.2.2.2.2.2.2.2.2.2.2.2.2.1
  · rw [hf 336 (by decide) (by decide)]; exact hr.2.2.2.2.2.2.2.2.2.2.2.2.2.2.2.2.2.2.1
  · rw [hf 336 (by decide) (by decide)]; exact hr.2.2.2.2.2.2.2.2.2.2.2.2.2.2.2.2.2.2.2.1
  · rw [hf 336 (by decide) (by decide)]; exact hr.2.2.2.2.2.2.2.2.2.2.2.2.2.2.2.2.2.2.2.2.1
  · unfold y_fq; dsimp only
    rw [hf 336 (by decide) (by decide), hf 354 (by decide) (by decide), hf 355 (by decide) (by decide), hf 356 (by decide) (by decide), hf 357 (by decide) (by decide), hf 358 (by decide) (by decide)]; exact hr.2.2.2.2.2.2.2.2.2.2.2.2.2.2.2.2.2.2.2.2.2.1
  · rw [hf 350 (by decide) (by decide), hf 352 (by decide) (by decide)]; exact hr.2.2.2.2.2.2.2.2.2.2.2.2.2.2.2.2.2.2.2.2.2.2
theorem rf_arg {p : Nat} {Z : Nat → Nat → Int} {l : List Int} (hr : y_ref Q S D) (hp : p < 4) (hf : ∀ c, c ≠ 360 → c ≠ 361 → Z c = D.1 c) (h0 : ∀ i, i < 42 * p ∨ 42 * p + 42 ≤ i → Z 360 i = D.1 360 i) (h1 : ∀ i, i ≠ p → Z 361 i = D.1 361 i) (hpa : y_pa (Z 360) (42 * p) (Z 361 p) (l.map y_tr)) (hl : l.length ≤ 41) : y_ref (y_Qp Q p l) S (Z, D.2) := rf_argO (o := some l) hr hp hf h0 h1 (fun x e => by rw [← Option.some.inj e]; exact ⟨hl, hpa⟩)
/-- an argument is not known -/
abbrev y_Qn (Q : y_Q) (p : Nat) : y_Q := (Q.1, am_u1 Q.2.1 p none, Q.2.2)
theorem y_Qn2 (Q : y_Q) (p : Nat) (l : List Int) : y_Qn (y_Qp Q p l) p = y_Qn Q p := by
  show (Q.1, am_u1 (am_u1 Q.2.1 p (some l)) p none, Q.2.2) = _
  refine Prod.ext rfl (Prod.ext ?_ rfl)
  funext i
  by_cases e : i = p <;> simp [am_u1, e]
theorem y_Qn3 (Q : y_Q) (p : Nat) (l : List Int) : y_Qp (y_Qn Q p) p l = y_Qp Q p l := by
  show (Q.1, am_u1 (am_u1 Q.2.1 p none) p (some l), Q.2.2) = _
  refine Prod.ext rfl (Prod.ext ?_ rfl)
  funext i
  by_cases e : i = p <;> simp [am_u1, e]
theorem y_Qn4 (Q : y_Q) (p : Nat) : y_Qn (y_Qn Q p) p = y_Qn Q p := by
  show (Q.1, am_u1 (am_u1 Q.2.1 p none) p none, Q.2.2) = _
  refine Prod.ext rfl (Prod.ext ?_ rfl)
  funext i
  by_cases e : i = p <;> simp [am_u1, e]
theorem rf_argAt {p : Nat} {l : List Int} (hr : y_ref Q S D) (hp : p < 4) (e : Q.2.1 p = some l) : l.length ≤ 41 ∧ D.1 361 p = (l.length : Int) ∧ ∀ (j : Nat) (hj : j < l.length), D.1 360 (42 * p + j) = y_tr l[j] := by
  obtain ⟨h1, h2⟩ := hr.2.2.2.2.2.2.2.2.2.2.2.2.2.2.2.1 p l hp e
  refine ⟨h1, by rw [h2.1, List.length_map], fun j hj => ?_⟩
  have := y_pa_at h2 (k := j) (by rw [List.length_map]; exact hj)
  rw [this, List.getElem_map]
theorem c_mAdd {p : Nat} {l : List Int} {t : Int} {K : z_D → Prop} (hr : y_ref (y_Qp Q p l) S D) (hp : p < 4) (hl : l.length ≤ 40) (h : ∀ D', y_ref (y_Qp Q p (l ++ [t])) S D' → K D') : z_c n (d + 1) 117 [.ref 336, .int (z_i (p : Int)), .int (z_i (y_tr t))] D (z_qV K T) := by
  obtain ⟨a1, a2, a3⟩ := rf_argAt hr hp (y_Qp_at Q p l)
  obtain ⟨_, hpa⟩ := hr.2.2.2.2.2.2.2.2.2.2.2.2.2.2.2.1 p l hp (y_Qp_at Q p l)
  refine r_mAdd ?_
  unfold w_mAdd_0
  rw [show (((p : Nat) : Int)).toNat = p by omega, a2]
  refine ⟨by omega, by omega, fun D3 e3 => ⟨by omega, by omega, fun D6 e6 => ?_⟩⟩
  rw [show Int.toNat (42 * (p : Int) + (l.length : Int)) = 42 * p + l.length by omega] at e3
  have e31 : D3.1 361 p = (l.length : Int) := by rw [e3, y_uz_cell (by decide)]; exact a2
  rw [e31] at e6
  refine h D6 ?_
  have e : D6 = (D6.1, D.2) := by rw [e6, e3]; rfl
  rw [e, ← y_Qp2 Q p l]
  refine rf_arg hr hp (fun c c1 c2 => by rw [e6, e3, y_uz_cell c2, y_uz_cell c1]) (fun i hi => ?_) (fun i hi => ?_) ?_ (by simp; omega)
  · rw [e6, e3, y_uz_cell (by decide), y_uz_slot (by omega)]
  · rw [e6, e3, y_uz_slot hi, y_uz_cell (by decide)]
  · have e361 : D6.1 361 p = (l.length : Int) + 1 := by rw [e6]; exact y_uz_same _ _ _ _
    rw [e361, List.map_append, ← a2]
    refine y_pa_add hpa (fun i => ?_)
    rw [e6, e3, y_uz_cell (by decide), List.length_map]
    show am_u2 D.1 360 (42 * p + l.length) (y_tr t) 360 i = _
    unfold am_u2
    rw [if_pos rfl]
/-- a piece of an argument: faults first -/
theorem c_piece {i a b num dp : Nat} {q : List Int × List Int × Int} {t : Int} {K : Int → z_D → Prop} (hr : y_rf Q S D) (ho : y_ok st S) (ht : y_tk (y_nn S) t) (hn1 : num ≤ 50) (hdp : dp ≤ 50) (hab : a = b ∨ ((y_mac S)[i]? = some q ∧ a ≤ b ∧ b ≤ q.1.length)) (hi : i < 61) (hb100 : b ≤ 100) (dl : List Int) (hdl : dl = if a = b then [] else (q.1.take b).drop a)
    (h5 : 40 < num → y_rT Q.1 (K (-1)) (y_ss S 3 5)) (h7 : num ≤ 40 → y_un t = 4096 ∧ (4096 : Int) ∉ dl → y_rT Q.1 (K (-1)) (y_ss S 3 7)) (h1 : num ≤ 40 → ¬ (y_un t = 4096 ∧ (4096 : Int) ∉ dl) → y_bs (y_un t) = -1 ∧ dp = 0 → y_rT Q.1 (K (-1)) (y_ss S 3 1)) (hk : num ≤ 40 → ¬ (y_un t = 4096 ∧ (4096 : Int) ∉ dl) → ¬ (y_bs (y_un t) = -1 ∧ dp = 0) → K (y_un t) D) : z_c n (d + 4) 116 [.ref 336, .int (z_i (y_tr t)), .int (z_i (num : Int)), .int (z_i (i : Int)), .int (z_i (a : Int)), .int (z_i (b : Int)), .int (z_i (dp : Int))] D (z_qI K T) := by
  have hn := ho.2.2.2.2.2.2.2.2.2.2.2.2.2.2.2.2.2.2.2.1.2
  have htr := y_tr_r ht hn
  have hut := y_un_tp ht hn
  have hur := y_tp_r hut hn
  have hbs : (0 ≤ y_tr t ∧ y_tr t < 4096 ∧ y_tr t / 256 = 2) ↔ y_bs (y_un t) = -1 := by
    unfold y_bs
    rcases ht with z | z | z
    · have := y_ch_r z
      have e : y_tr t = t := if_pos (by omega)
      have eu : y_un t = t := by unfold y_un; rw [if_neg (by omega)]
      rw [e, eu]
      split
      · omega
      · split <;> omega
    · have e : y_tr t = t := if_pos (by omega)
      have eu : y_un t = t := by unfold y_un; rw [if_neg (by omega)]
      rw [e, eu]
      split
      · omega
      · split <;> omega
    · have e : y_tr t = t - 8192 := by unfold y_tr; rw [if_neg (by omega), if_neg (by omega)]
      have eu : y_un t = t - 16384 := by unfold y_un; rw [if_pos (by omega)]
      rw [e, eu]
      split
      · omega
      · split <;> omega
  have hle : a ≤ b := by rcases hab with z | z <;> omega
  have hb13 : b ≤ a + 12 := by
    rcases hab with z | z
    · omega
    · have := (ho.2.2.2.2.2.2.2.2.2.2.2.2.2.2.2.2.2.2.2.2.2.2.1 q (List.mem_of_getElem? z.1)).1.1; omega
  have hble : a < b → b ≤ q.1.length ∧ (y_mac S)[i]? = some q := fun c => by
    rcases hab with z | z
    · omega
    · exact ⟨z.2.2, z.1⟩
  have hbl : a < b → b ≤ 12 := fun c => by
    have h := hble c
    have := (ho.2.2.2.2.2.2.2.2.2.2.2.2.2.2.2.2.2.2.2.2.2.2.1 q (List.mem_of_getElem? h.2)).1.1; omega
  refine r_mPiece (fun m t1 m1 b1 d1 s k D' => t1 = y_tr t ∧ m1 = (i : Int) ∧ b1 = (b : Int) ∧ d1 = (dp : Int) ∧ D' = D ∧ num ≤ 40 ∧ (a : Int) ≤ k ∧ k ≤ b ∧ m = (b - k).toNat ∧ (s = true ↔ (y_un t = 4096 ∧ (4096 : Int) ∉ (q.1.take k.toNat).drop a ))) ?_ ?_
  · refine ⟨y_rs (by omega) (by omega), fun _ => ⟨y_rs (by omega) (by omega), fun c => c_mPlain (y_rs (by omega) (by omega)) ?_, fun c => c_stop hr (by decide) (by decide) (h5 (by omega))⟩, fun z => by omega⟩
    rw [y_pl_tr ht hn]
    have en : ∀ l : List Int, (l.take ((a : Nat) : Int).toNat).drop a = [] := fun l => List.drop_eq_nil_of_le (by rw [List.length_take]; omega)
    refine ⟨y_rs (by omega) (by omega), fun z => ⟨_, rfl, rfl, rfl, rfl, rfl, by omega, Int.le_refl _, by omega, rfl, ⟨fun w => (by cases w), fun w => absurd w.1 z⟩⟩, fun z => ⟨_, rfl, rfl, rfl, rfl, rfl, by omega, Int.le_refl _, by omega, rfl, ⟨fun _ => ⟨z, by rw [en]; simp⟩, fun _ => rfl⟩⟩⟩
  · rintro mm t1 m1 b1 d1 s k D' ⟨rfl, rfl, rfl, rfl, rfl, hnum, k0, k1, rfl, hs⟩
    have step : ∀ s' : Bool, k < (b : Int) → (s' = true ↔ (y_un t = 4096 ∧ (4096 : Int) ∉ (q.1.take (k + 1).toNat).drop a)) → ∃ m, m < (b - k).toNat ∧ y_tr t = y_tr t ∧ (i : Int) = (i : Int) ∧ (b : Int) = (b : Int) ∧ (dp : Int) = (dp : Int) ∧ D' = D' ∧ num ≤ 40 ∧ (a : Int) ≤ k + 1 ∧ k + 1 ≤ b ∧ m = (b - (k + 1)).toNat ∧ (s' = true ↔ (y_un t = 4096 ∧ (4096 : Int) ∉ (q.1.take (k + 1).toNat).drop a)) := by
      intro s' hk' hs'
      refine ⟨_, ?_, rfl, rfl, rfl, rfl, rfl, hnum, by omega, by omega, rfl, hs'⟩
      omega
    have ext : k < (b : Int) → ∃ x, (q.1.take (k + 1).toNat).drop a = (q.1.take k.toNat).drop a ++ [x] ∧ D'.1 349 (Int.toNat (13 * (i : Int) + k)) = y_tr x ∧ y_tq (y_nn S) x := by
      intro hk'
      obtain ⟨z1, z2⟩ := hble (by omega)
      obtain ⟨m1, m2, m3, m4, m5, m6, m7⟩ := rf_mac hr.1 ho z2
      have hkq : k.toNat < q.1.length := by omega
      refine ⟨q.1[k.toNat], ?_, ?_⟩
      · rw [show (k + 1).toNat = k.toNat + 1 by omega, List.take_succ_eq_append_getElem hkq, List.drop_append_of_le_length (by rw [List.length_take]; omega)]
      · rw [show Int.toNat (13 * (i : Int) + k) = 13 * i + k.toNat by omega]
        exact m6 k.toNat hkq
    unfold w_mPiece_44
    refine ⟨y_rs (by omega) (by omega), y_rs (by omega) (by omega), fun c => ?_, fun c => ?_⟩
    · have hkb : k = (b : Int) := by omega
      subst hkb
      have hs2 : s = true ↔ (y_un t = 4096 ∧ (4096 : Int) ∉ dl) := by
        rw [hs, hdl, show (((b : Nat) : Int)).toNat = b by omega]
        by_cases e : a = b
        · rw [if_pos e, List.drop_eq_nil_of_le (by rw [List.length_take]; omega)]
        · rw [if_neg e]
      refine ⟨fun z => c_mIsCharacter (y_rs (by omega) (by omega)) (z_rk rfl) ⟨fun z1 => ?_, fun z1 => ⟨y_rs (by omega) (by omega), fun z2 => ?_, fun z2 => ?_⟩⟩, fun z => ?_⟩
      · have nb := fun w => of_decide_eq_false z1 (hbs.mpr w)
        refine c_mPlain (y_rs (by omega) (by omega)) ?_
        rw [y_pl_tr ht hn]
        exact hk hnum (fun w => by rw [hs2.mpr w] at z; cases z) (fun w => nb w.1)
      · refine c_mPlain (y_rs (by omega) (by omega)) ?_
        rw [y_pl_tr ht hn]
        exact hk hnum (fun w => by rw [hs2.mpr w] at z; cases z) (fun w => by omega)
      · exact c_stop hr (by decide) (by decide) (h1 hnum (fun w => by rw [hs2.mpr w] at z; cases z) ⟨hbs.mp (of_decide_eq_true z1), by omega⟩)
      · exact c_stop hr (by decide) (by decide) (h7 hnum (hs2.mp z))
    · obtain ⟨x, x1, x2, x3⟩ := ext c
      have hx := y_tq_tr x3 hn
      have hbl' := hbl (by omega)
      refine ⟨fun z => step false c ⟨fun w => (by cases w), fun w => ?_⟩, fun z => ⟨by omega, ?_⟩⟩
      · have : s = true := hs.mpr ⟨w.1, fun q' => w.2 (by rw [x1]; simp [q'])⟩
        rw [z] at this
        cases this
      · rw [x2]
        refine ⟨y_rs (by omega) (by omega), fun z1 => step false c ⟨fun w => (by cases w), fun w => absurd (by rw [x1]; simp; exact Or.inr (by omega)) w.2⟩, fun z1 => step true c ⟨fun _ => ⟨(hs.mp z).1, ?_⟩, fun _ => rfl⟩⟩
        rw [x1]
        intro q'
        rcases List.mem_append.mp q' with q' | q'
        · exact (hs.mp z).2 q'
        · have := List.mem_singleton.mp q'
          rw [← this] at z1
          exact z1 (by decide)
theorem c_pieceE {num i a b dp : Int} {K : Int → z_D → Prop} (h : z_c n (d + 3) 98 [.ref 336, .int (z_i 3)] D (z_qI (fun v D' => K v D') T)) : z_c n (d + 4) 116 [.ref 336, .int (z_i (-1)), .int (z_i num), .int (z_i i), .int (z_i a), .int (z_i b), .int (z_i dp)] D (z_qI K T) := by
  refine r_mPiece (fun _ _ _ _ _ _ _ _ => False) ?_ (fun _ _ _ _ _ _ _ _ z => z.elim)
  exact ⟨z_rk rfl, fun z => absurd rfl z, fun _ => h⟩
end RZ
