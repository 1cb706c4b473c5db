/-! contracts of the reference: frames, conditionals -/
section RF
variable {n d : Nat} {B : z_D} {A : Nat → Option (List Int)} {F G : List y_F} {D : z_D} {st : Int} {S : y_S} {T : Nat → z_D → Prop}
theorem y_fq_get {G : List y_F} {f : y_F} {k : Nat} {x : y_F} (e : (G ++ [f])[k]? = some x) : (k < G.length ∧ G[k]? = some x) ∨ (k = G.length ∧ x = f) := by
  by_cases c : k < G.length
  · rw [List.getElem?_append_left c] at e
    exact Or.inl ⟨c, e⟩
  · have := (List.getElem?_eq_some_iff.mp e).1
    simp at this
    have hk : k = G.length := by omega
    subst hk
    rw [List.getElem?_append_right (Nat.le_refl _)] at e
    simp at e
    exact Or.inr ⟨rfl, e.symm⟩
/-- frames: all but the top stay, whatever is written at its place -/
theorem rf_fr {f f' : y_F} {Z : Nat → Nat → Int} (hr : y_ref (B, A, G ++ [f]) S D) (hf : ∀ c, c < 354 ∨ 358 < c → Z c = D.1 c) (h4 : ∀ c j, 354 ≤ c → c ≤ 357 → j < G.length → Z c j = D.1 c j) (h8 : ∀ j, j < 12 * G.length → Z 358 j = D.1 358 j) (hsp : ∀ x ∈ G, x.2.2.2.2.length ≤ 12) (ht : y_fq (Z, D.2) G.length f') : y_ref (B, A, G ++ [f']) S (Z, D.2) := by
  refine ⟨⟨hr.1.1, fun c hc => (hf c (by omega)).trans (hr.1.2 c hc)⟩, ?_, ?_, ?_, ?_, ?_, ?_, ?_, ?_, ?_, ?_, ?_, ?_, ?_, ?_, ?_, ?_, ?_, ?_, ?_, ?_, ⟨?_, fun k x e => ?_⟩, ?_⟩ <;> (try dsimp only)
  · rw [hf 337 (by decide), hf 336 (by decide)]; exact hr.2.1
  · rw [hf 339 (by decide), hf 336 (by decide)]; exact hr.2.2.1
  · rw [hf 359 (by decide), hf 336 (by decide)]; exact hr.2.2.2.1
  · rw [hf 353 (by decide), hf 336 (by decide)]; exact hr.2.2.2.2.1
  · rw [hf 336 (by decide)]; exact hr.2.2.2.2.2.1
  · rw [hf 336 (by decide), hf 345 (by decide), hf 346 (by decide), hf 347 (by decide)]; exact hr.2.2.2.2.2.2.1
  · rw [hf 338 (by decide)]; exact hr.2.2.2.2.2.2.2.1
  · rw [hf 336 (by decide), hf 340 (by decide), hf 341 (by decide), hf 342 (by decide)]; exact hr.2.2.2.2.2.2.2.2.1
  · rw [hf 343 (by decide)]; exact hr.2.2.2.2.2.2.2.2.2.1
  · rw [hf 336 (by decide)]; exact hr.2.2.2.2.2.2.2.2.2.2.1
  · unfold y_mq; dsimp only
    rw [hf 348 (by decide), hf 349 (by decide), hf 350 (by decide), hf 351 (by decide), hf 352 (by decide)]; exact hr.2.2.2.2.2.2.2.2.2.2.2.1
  · rw [hf 348 (by decide), hf 349 (by decide)]; exact hr.2.2.2.2.2.2.2.2.2.2.2.2.1
  · rw [hf 350 (by decide), hf 351 (by decide)]; exact hr.2.2.2.2.2.2.2.2.2.2.2.2.2.1
  · rw [hf 352 (by decide)]; exact hr.2.2.2.2.2.2.2.2.2.2.2.2.2.2.1
  · rw [hf 360 (by decide), hf 361 (by decide)]; exact hr.2.2.2.2.2.2.2.2.2.2.2.2.2.2.2.1
  · rw [hf 336 (by decide)]; exact hr.2.2.2.2.2.2.2.2.2.2.2.2.2.2.2.2.1
  · rw [hf 336 (by decide)]; exact hr.2.2.2.2.2.2.2.2.2.2.2.2.2.2.2.2.2.1
  · rw [hf 336 (by decide)]; exact hr.2.2.2.2.2.2.2.2.2.2.2.2.2.2.2.2.2.2.1
  · rw [hf 336 (by decide)]; exact hr.2.2.2.2.2.2.2.2.2.2.2.2.2.2.2.2.2.2.2.1
  · rw [hf 336 (by decide)]; exact hr.2.2.2.2.2.2.2.2.2.2.2.2.2.2.2.2.2.2.2.2.1
  · rw [hf 336 (by decide)]
    have := hr.2.2.2.2.2.2.2.2.2.2.2.2.2.2.2.2.2.2.2.2.2.1.1
    dsimp only at this
    rw [this]
    simp
  · have e : (G ++ [f'])[k]? = some x := e
    rcases y_fq_get e with ⟨c, e2⟩ | ⟨rfl, rfl⟩
    · obtain ⟨a1, a2, a3, a4, a5⟩ := hr.2.2.2.2.2.2.2.2.2.2.2.2.2.2.2.2.2.2.2.2.2.1.2 k x (by show (G ++ [f])[k]? = some x; rw [List.getElem?_append_left c]; exact e2)
      have hx := hsp x (List.mem_of_getElem? e2)
      refine ⟨by dsimp only; rw [h4 354 k (by decide) (by decide) c]; exact a1, by dsimp only; rw [h4 355 k (by decide) (by decide) c]; exact a2, by dsimp only; rw [h4 356 k (by decide) (by decide) c]; exact a3, by dsimp only; rw [h4 357 k (by decide) (by decide) c]; exact a4, fun i hi => ?_⟩
      dsimp only
      rw [h8 _ (by omega)]
      exact a5 i hi
    · exact ht
  · rw [hf 350 (by decide), hf 352 (by decide)]; exact hr.2.2.2.2.2.2.2.2.2.2.2.2.2.2.2.2.2.2.2.2.2.2
theorem rf_popF {f : y_F} (hr : y_ref (B, A, G ++ [f]) S D) : y_ref (B, A, G) S (z_uz D 336 31 (G.length : Int)) := ⟨y_g1 hr.1 (by decide), hr.2.1, hr.2.2.1, hr.2.2.2.1, hr.2.2.2.2.1, hr.2.2.2.2.2.1, hr.2.2.2.2.2.2.1, hr.2.2.2.2.2.2.2.1, hr.2.2.2.2.2.2.2.2.1, hr.2.2.2.2.2.2.2.2.2.1, hr.2.2.2.2.2.2.2.2.2.2.1, hr.2.2.2.2.2.2.2.2.2.2.2.1, hr.2.2.2.2.2.2.2.2.2.2.2.2.1, hr.2.2.2.2.2.2.2.2.2.2.2.2.2.1, hr.2.2.2.2.2.2.2.2.2.2.2.2.2.2.1, hr.2.2.2.2.2.2.2.2.2.2.2.2.2.2.2.1, hr.2.2.2.2.2.2.2.2.2.2.2.2.2.2.2.2.1, hr.2.2.2.2.2.2.2.2.2.2.2.2.2.2.2.2.2.1, hr.2.2.2.2.2.2.2.2.2.2.2.2.2.2.2.2.2.2.1, hr.2.2.2.2.2.2.2.2.2.2.2.2.2.2.2.2.2.2.2.1, hr.2.2.2.2.2.2.2.2.2.2.2.2.2.2.2.2.2.2.2.2.1, ⟨rfl, fun k x e => hr.2.2.2.2.2.2.2.2.2.2.2.2.2.2.2.2.2.2.2.2.2.1.2 k x (by
  have e : G[k]? = some x := e
  have := (List.getElem?_eq_some_iff.mp e).1
  show (G ++ [f])[k]? = some x
  rw [List.getElem?_append_left this]; exact e)⟩, hr.2.2.2.2.2.2.2.2.2.2.2.2.2.2.2.2.2.2.2.2.2.2⟩
/-- what is written behind the frames does not matter -/
theorem rf_junk (hr : y_ref (B, A, F) S D) (v : Int) : y_ref (B, A, F) S (z_uz D 355 F.length v) := ⟨y_g1 hr.1 (by decide), hr.2.1, hr.2.2.1, hr.2.2.2.1, hr.2.2.2.2.1, hr.2.2.2.2.2.1, hr.2.2.2.2.2.2.1, hr.2.2.2.2.2.2.2.1, hr.2.2.2.2.2.2.2.2.1, hr.2.2.2.2.2.2.2.2.2.1, hr.2.2.2.2.2.2.2.2.2.2.1, hr.2.2.2.2.2.2.2.2.2.2.2.1, hr.2.2.2.2.2.2.2.2.2.2.2.2.1, hr.2.2.2.2.2.2.2.2.2.2.2.2.2.1, hr.2.2.2.2.2.2.2.2.2.2.2.2.2.2.1, hr.2.2.2.2.2.2.2.2.2.2.2.2.2.2.2.1, hr.2.2.2.2.2.2.2.2.2.2.2.2.2.2.2.2.1, hr.2.2.2.2.2.2.2.2.2.2.2.2.2.2.2.2.2.1, hr.2.2.2.2.2.2.2.2.2.2.2.2.2.2.2.2.2.2.1, hr.2.2.2.2.2.2.2.2.2.2.2.2.2.2.2.2.2.2.2.1, hr.2.2.2.2.2.2.2.2.2.2.2.2.2.2.2.2.2.2.2.2.1, ⟨hr.2.2.2.2.2.2.2.2.2.2.2.2.2.2.2.2.2.2.2.2.2.1.1, fun k x e => by
  have e' : F[k]? = some x := e
  have := (List.getElem?_eq_some_iff.mp e').1
  obtain ⟨a1, a2, a3, a4, a5⟩ := hr.2.2.2.2.2.2.2.2.2.2.2.2.2.2.2.2.2.2.2.2.2.1.2 k x e
  refine ⟨a1, ?_, a3, a4, a5⟩
  show am_u2 D.1 355 F.length v 355 k = _
  unfold am_u2
  rw [if_pos rfl, if_neg (by omega)]
  exact a2⟩, hr.2.2.2.2.2.2.2.2.2.2.2.2.2.2.2.2.2.2.2.2.2.2⟩
theorem c_push {c t o : Int} {K : z_D → Prop} (hr : y_ref (B, A, F) S D) (hF : F.length < 30) (h : ∀ D', y_ref (B, A, F ++ [(c, t, 0, o, [])]) S D' → K D') : z_c n (d + 1) 127 [.ref 336, .int (z_i c), .int (z_i t), .int (z_i o)] D (z_qV K T) := by
  have e31 : D.1 336 31 = (F.length : Int) := hr.2.2.2.2.2.2.2.2.2.2.2.2.2.2.2.2.2.2.2.2.2.1.1
  refine r_mPush ?_
  unfold w_mPush_0
  rw [e31, show (((F.length : Nat) : Int)).toNat = F.length by omega]
  refine ⟨by omega, fun D2 e2 => ?_⟩
  have f2 : D2.1 336 31 = (F.length : Int) := by rw [e2]; exact e31
  rw [f2, show (((F.length : Nat) : Int)).toNat = F.length by omega]
  refine ⟨by omega, fun D4 e4 => ?_⟩
  have f4 : D4.1 336 31 = (F.length : Int) := by rw [e4]; exact f2
  rw [f4, show (((F.length : Nat) : Int)).toNat = F.length by omega]
  refine ⟨by omega, fun D6 e6 => ?_⟩
  have f6 : D6.1 336 31 = (F.length : Int) := by rw [e6]; exact f4
  rw [f6, show (((F.length : Nat) : Int)).toNat = F.length by omega]
  refine ⟨by omega, fun D8 e8 D9 e9 => h D9 ?_⟩
  have f8 : D8.1 336 31 = (F.length : Int) := by rw [e8]; exact f6
  rw [f8] at e9
  rw [e9, e8, e6, e4, e2]
  exact ⟨y_g1 (y_g1 (y_g1 (y_g1 (y_g1 hr.1 (by decide)) (by decide)) (by decide)) (by decide)) (by decide), hr.2.1, hr.2.2.1, hr.2.2.2.1, hr.2.2.2.2.1, hr.2.2.2.2.2.1, hr.2.2.2.2.2.2.1, hr.2.2.2.2.2.2.2.1, hr.2.2.2.2.2.2.2.2.1, hr.2.2.2.2.2.2.2.2.2.1, hr.2.2.2.2.2.2.2.2.2.2.1, hr.2.2.2.2.2.2.2.2.2.2.2.1, hr.2.2.2.2.2.2.2.2.2.2.2.2.1, hr.2.2.2.2.2.2.2.2.2.2.2.2.2.1, hr.2.2.2.2.2.2.2.2.2.2.2.2.2.2.1, hr.2.2.2.2.2.2.2.2.2.2.2.2.2.2.2.1, hr.2.2.2.2.2.2.2.2.2.2.2.2.2.2.2.2.1, hr.2.2.2.2.2.2.2.2.2.2.2.2.2.2.2.2.2.1, hr.2.2.2.2.2.2.2.2.2.2.2.2.2.2.2.2.2.2.1, hr.2.2.2.2.2.2.2.2.2.2.2.2.2.2.2.2.2.2.2.1, hr.2.2.2.2.2.2.2.2.2.2.2.2.2.2.2.2.2.2.2.2.1, ⟨by
    show (F.length : Int) + 1 = ((F ++ [(c, t, 0, o, [])]).length : Int)
    simp, fun k x e => by
    have e : (F ++ [(c, t, 0, o, [])])[k]? = some x := e
    rcases y_fq_get e with ⟨hk, e2⟩ | ⟨rfl, rfl⟩
    · obtain ⟨a1, a2, a3, a4, a5⟩ := hr.2.2.2.2.2.2.2.2.2.2.2.2.2.2.2.2.2.2.2.2.2.1.2 k x e2
      refine ⟨?_, ?_, ?_, ?_, a5⟩
      · show am_u2 D.1 354 F.length c 354 k = _
        unfold am_u2; rw [if_pos rfl, if_neg (by omega)]; exact a1
      · show am_u2 D.1 355 F.length t 355 k = _
        unfold am_u2; rw [if_pos rfl, if_neg (by omega)]; exact a2
      · show am_u2 D.1 356 F.length 0 356 k = _
        unfold am_u2; rw [if_pos rfl, if_neg (by omega)]; exact a3
      · show am_u2 D.1 357 F.length o 357 k = _
        unfold am_u2; rw [if_pos rfl, if_neg (by omega)]; exact a4
    · refine ⟨?_, ?_, ?_, ?_, fun i hi => (by cases hi)⟩
      · show am_u2 D.1 354 F.length c 354 F.length = _
        unfold am_u2; rw [if_pos rfl, if_pos rfl]
      · show am_u2 D.1 355 F.length t 355 F.length = _
        unfold am_u2; rw [if_pos rfl, if_pos rfl]
      · show am_u2 D.1 356 F.length 0 356 F.length = _
        unfold am_u2; rw [if_pos rfl, if_pos rfl]
      · show am_u2 D.1 357 F.length o 357 F.length = _
        unfold am_u2; rw [if_pos rfl, if_pos rfl]⟩, hr.2.2.2.2.2.2.2.2.2.2.2.2.2.2.2.2.2.2.2.2.2.2⟩
/-- a conditional is decided -/
theorem c_decide {L : List Int} {b : Bool} {K : z_D → Prop} {Q : y_Q} (hr : y_rf Q S D) (ho : y_ok st S) (hL : (L ++ [0]) <+: y_l S 3) (h : y_fin (if b then .inl ((), y_sl (y_sl S 3 ((y_l S 3).take (L.length + 1))) 3 ((y_l (y_sl S 3 ((y_l S 3).take (L.length + 1))) 3).set L.length 1)) else y_pass true 1000 0 (y_sl S 3 ((y_l S 3).take (L.length + 1)))) (fun _ S' => ∀ D', y_rf Q S' D' → K D') (y_rT Q.1 K)) : z_c n (d + 8) 123 [.ref 336, .int (z_i (L.length : Int)), .int (z_i (z_b b))] D (z_qV K T) := by
  have hle := hL.length_le
  have o9 := ho.2.2.2.2.2.2.2.2.1
  rw [List.length_append, List.length_singleton] at hle
  have ht := y_take_pre hL
  refine r_mDecide (fun D1 e1 => ?_)
  have hr1 : y_rf Q (y_sl S 3 (L ++ [0])) D1 := by
    refine ⟨?_, hr.2⟩
    have := rf_condN hr.1 (k := L.length + 1) hle
    rw [ht] at this
    rw [e1, show (L.length : Int) + 1 = ((L.length + 1 : Nat) : Int) by omega]
    exact this
  have ho1 : y_ok st (y_sl S 3 (L ++ [0])) := by
    exact y_ok_l3 ho (by simp; omega) (fun x hx => ho.2.2.2.2.2.2.2.2.2.1 x (hL.subset hx))
  rw [ht] at h
  refine ⟨fun z => ?_, fun z => ⟨by omega, fun D13 e13 => ?_⟩⟩
  · subst z
    refine c_mPass hr1 ho1 h (fun S' D' hr' ho' hl' hK => ⟨fun _ => ?_, fun z => (by cases z)⟩) (fun S' D' hr' ho' hl' _ hK => ⟨fun z => (by cases z), fun _ => ⟨by omega, fun D9 e9 => ?_⟩⟩) (fun S' D' hw hT => ⟨fun _ => ?_, fun z => (by cases z)⟩)
    · have e5 : D'.1 336 5 = 0 := hr'.1.2.2.2.2.2.2.2.2.2.2.2.2.2.2.2.2.2.2.1.trans hr'.2
      have el : y_l S' 3 = L ++ [0] := hl'.2.2.2.2.2.2.2.2.2
      rw [e5]
      refine ⟨z_rk rfl, fun z => absurd rfl z, fun _ D5 e55 => hK D5 ⟨?_, hr'.2⟩⟩
      have := rf_condN hr'.1 (k := L.length) (by rw [el]; simp)
      rw [el, List.take_left' rfl] at this
      rw [el, List.dropLast_concat, e55]
      exact this
    · have el : y_l S' 3 = L ++ [0] := hl'.2.2.2.2.2.2.2.2.2
      refine hK D9 ⟨?_, hr'.2⟩
      have := rf_condS hr'.1 L.length 2
      rw [e9, show (((L.length : Nat) : Int)).toNat = L.length by omega, show (y_l S' 3).length - 1 = L.length by rw [el]; simp]
      exact this
    · have hf := y_rfw_f hw
      exact ⟨y_rs (by omega) (by omega), fun _ => hT D' hw, fun z => by omega⟩
  · subst z
    have h : ∀ D', y_rf Q (y_sl (y_sl S 3 (L ++ [0])) 3 ((L ++ [0]).set L.length 1)) D' → K D' := h
    refine h D13 ⟨?_, hr.2⟩
    have := rf_condS hr1.1 L.length 1
    rw [e13, show (((L.length : Nat) : Int)).toNat = L.length by omega]
    exact this
/-- the end of a conditional, or its else -/
theorem c_mCloseC {m : Int} {K : z_D → Prop} {Q : y_Q} (hr : y_rf Q S D) (ho : y_ok st S) (hm : m = 17 ∨ m = 18) (h : y_fin (if m = 17 then (if (y_l S 3).getLast? = some 1 then y_pass false 1000 0 S else y_ft S 1) else (if (y_l S 3).getLast?.getD 0 ≤ 0 then y_ft S 1 else .inl ((), y_sl S 3 (y_l S 3).dropLast))) (fun _ S' => ∀ D', y_rf Q S' D' → K D') (y_rT Q.1 K)) : z_c n (d + 8) 129 [.ref 336, .int (z_i m)] D (z_qV K T) := by
  have e29 := hr.1.2.2.2.2.1.1
  have o9 := ho.2.2.2.2.2.2.2.2.1
  have e5 : D.1 336 5 = 0 := hr.1.2.2.2.2.2.2.2.2.2.2.2.2.2.2.2.2.2.2.1.trans hr.2
  have bad : y_rT Q.1 K (y_ss S 3 1) → w_mClose_49 n (d + 7) m D K T := fun hT => ⟨fun z => (by cases z), fun _ => c_stop hr (by decide) (by decide) hT⟩
  refine r_mClose ?_
  unfold w_mClose_0
  rw [e29]
  rcases y_snoc (y_l S 3) with z | ⟨L, x, z⟩
  · rw [z] at h ⊢
    refine ⟨z_rk rfl, fun _ => bad ?_, fun c => by simp at c⟩
    rcases hm with hm | hm
    · rw [if_pos hm, if_neg (by simp)] at h; exact h
    · rw [if_neg (by omega), if_pos (by simp)] at h; exact h
  · have hx := ho.2.2.2.2.2.2.2.2.2.1 x (by rw [z]; simp)
    have hlen : (y_l S 3).length = L.length + 1 := by rw [z]; simp
    have e353 : D.1 353 (Int.toNat (((y_l S 3).length : Int) - 1)) = x := by
      have := y_ar_at hr.1.2.2.2.2.1 (k := L.length) (by omega)
      rw [show Int.toNat (((y_l S 3).length : Int) - 1) = L.length by omega, this]
      simp only [z]
      simp
    have hgl : (y_l S 3).getLast? = some x := by rw [z]; simp
    have hdl : (y_l S 3).dropLast = L := by rw [z]; simp
    rw [hgl, hdl] at h
    rw [e353]
    -- taken away
    have pop : ∀ (S1 : y_S) (D1 : z_D) (s : Bool), y_rf Q S1 D1 → y_l S1 3 = y_l S 3 → (∀ D', y_rf Q (y_sl S1 3 L) D' → K D') → w_mClose_81 n (d + 7) s D1 K T := by
      intro S1 D1 s hr1 el hK
      have f5 : D1.1 336 5 = 0 := hr1.1.2.2.2.2.2.2.2.2.2.2.2.2.2.2.2.2.2.2.1.trans hr1.2
      have f29 : D1.1 336 29 = ((y_l S 3).length : Int) := by have := hr1.1.2.2.2.2.1.1; rw [el] at this; exact this
      unfold w_mClose_81
      rw [f5, f29]
      refine ⟨z_rk rfl, fun w => absurd rfl w, fun _ D3 e3 => hK D3 ⟨?_, hr1.2⟩⟩
      have := rf_condN hr1.1 (k := L.length) (by rw [el]; omega)
      rw [el, z, List.take_left' rfl] at this
      rw [e3, show ((y_l S 3).length : Int) - 1 = (L.length : Int) by omega]
      exact this
    refine ⟨y_rs (by omega) (by omega), fun c => by omega, fun _ => ⟨by rcases hm with hm | hm <;> rw [hm] <;> exact z_rk rfl, fun c => ⟨by omega, y_rs (by omega) (by omega), fun c1 => bad ?_, fun c1 => ⟨fun _ => ⟨by rcases hm with hm | hm <;> rw [hm] <;> exact z_rk rfl, fun _ => ?_, fun w => absurd w c⟩, fun w => (by cases w)⟩⟩, fun c => ⟨by omega, y_rs (by omega) (by omega), fun c1 => bad ?_, fun c1 => ⟨fun _ => ⟨by rcases hm with hm | hm <;> rw [hm] <;> exact z_rk rfl, fun w => absurd c w, fun _ => ?_⟩, fun w => (by cases w)⟩⟩⟩⟩
    · rw [if_neg c, if_pos (by simpa using c1)] at h; exact h
    · rw [if_neg c, if_neg (by simp; omega)] at h
      exact pop S D false hr rfl h
    · rw [if_pos c, if_neg (by simpa using c1)] at h; exact h
    · rw [if_pos c, if_pos (by rw [c1])] at h
      refine c_mPass hr ho h (fun S' D' hr' ho' hl' hK => ⟨fun _ => pop S' D' false hr' hl'.2.2.2.2.2.2.2.2.2 (by rw [← hdl, ← hl'.2.2.2.2.2.2.2.2.2]; exact hK), fun w => (by cases w)⟩) (fun S' D' hr' ho' hl' w hK => by cases w) (fun S' D' hw hT => ⟨fun _ => ?_, fun w => (by cases w)⟩)
      have hf := y_rfw_f hw
      refine ⟨y_rs (by omega) (by omega), fun _ D2 e2 => ?_, fun w => by omega⟩
      obtain ⟨A, F, v, hr2, f0, f8⟩ := hw
      refine hT D2 ⟨A, F, v, ?_, f0, f8⟩
      rw [e2, show D'.1 336 29 - 0 = D'.1 336 29 by omega]
      exact ⟨y_g1 hr2.1 (by decide), hr2.2.1, hr2.2.2.1, hr2.2.2.2.1, hr2.2.2.2.2.1, hr2.2.2.2.2.2.1, hr2.2.2.2.2.2.2.1, hr2.2.2.2.2.2.2.2.1, hr2.2.2.2.2.2.2.2.2.1, hr2.2.2.2.2.2.2.2.2.2.1, hr2.2.2.2.2.2.2.2.2.2.2.1, hr2.2.2.2.2.2.2.2.2.2.2.2.1, hr2.2.2.2.2.2.2.2.2.2.2.2.2.1, hr2.2.2.2.2.2.2.2.2.2.2.2.2.2.1, hr2.2.2.2.2.2.2.2.2.2.2.2.2.2.2.1, hr2.2.2.2.2.2.2.2.2.2.2.2.2.2.2.2.1, hr2.2.2.2.2.2.2.2.2.2.2.2.2.2.2.2.2.1, hr2.2.2.2.2.2.2.2.2.2.2.2.2.2.2.2.2.2.1, hr2.2.2.2.2.2.2.2.2.2.2.2.2.2.2.2.2.2.2.1, hr2.2.2.2.2.2.2.2.2.2.2.2.2.2.2.2.2.2.2.2.1, hr2.2.2.2.2.2.2.2.2.2.2.2.2.2.2.2.2.2.2.2.2.1, hr2.2.2.2.2.2.2.2.2.2.2.2.2.2.2.2.2.2.2.2.2.2.1, hr2.2.2.2.2.2.2.2.2.2.2.2.2.2.2.2.2.2.2.2.2.2.2⟩
end RF
