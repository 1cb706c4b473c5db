/-! contracts of the reference: reading -/
theorem y_zb {a b : Bool} : z_b a = z_b b ↔ a = b := by cases a <;> cases b <;> decide
theorem y_zb_r (b : Bool) : z_r (z_b b) := by cases b <;> exact z_rk rfl
section RG
variable {n d : Nat} {Q : y_Q} {D : z_D} {st : Int} {S : y_S} {T : Nat → z_D → Prop}
/-- what is spelt -/
def y_spl (D : z_D) (ls : List Int) : Prop := y_ar (D.1 344) (D.1 336 16) ls
theorem c_knownX {q : List Int × Bool} {K : Int → z_D → Prop} (hr : y_ref Q S D) (on : (y_nm S).length ≤ 118) (h21 : ∀ p ∈ y_nm S, y_no p) (hs : y_spl D q.1) (hl : q.1.length ≤ 12) (hq : ∀ c ∈ q.1, 0 ≤ c ∧ c ≤ 255) (h1 : ∀ k : Nat, y_idx q (y_nm S) 0 = some k → K k D) (h2 : y_idx q (y_nm S) 0 = none → K (-1) D) : z_c n (d + 1) 100 [.ref 336, .int (z_i (z_b q.2))] D (z_qI K T) := by
  have e11 := hr.2.2.2.2.2.2.2.2.1.1
  have e16 : D.1 336 16 = (q.1.length : Int) := hs.1
  refine r_mKnown
    (fun m bb k D' => bb = q.2 ∧ D' = D ∧ 0 ≤ k ∧ k ≤ (y_nm S).length ∧ m = 20 * ((y_nm S).length - k).toNat ∧ y_idx q ((y_nm S).drop k.toNat) k.toNat = y_idx q (y_nm S) 0)
    (fun m bb k s i D' => bb = q.2 ∧ D' = D ∧ 0 ≤ k ∧ k < (y_nm S).length ∧ 0 ≤ i ∧ i ≤ q.1.length ∧ m = 20 * ((y_nm S).length - k).toNat - 1 - i.toNat ∧ y_idx q ((y_nm S).drop k.toNat) k.toNat = y_idx q (y_nm S) 0 ∧ ∃ p, (y_nm S)[k.toNat]? = some p ∧ (s = false → p ≠ q) ∧ (s = true → p.1.length = q.1.length ∧ p.2 = q.2 ∧ ∀ j : Nat, (j : Int) < i → p.1[j]? = q.1[j]?))
    ⟨_, rfl, rfl, Int.le_refl _, by omega, rfl, rfl⟩ ?_ ?_
  · rintro mm bb k D' ⟨rfl, rfl, k0, k1, rfl, hi⟩
    unfold w_mKnown_2
    rw [e11, e16]
    refine ⟨y_rs (by omega) (by omega), y_rs (by omega) (by omega), fun c => h2 ?_, fun c => ⟨by omega, ?_⟩⟩
    · rw [← hi, List.drop_eq_nil_of_le (by omega)]; rfl
    · have hkl : k.toNat < (y_nm S).length := by omega
      have ep := List.getElem?_eq_getElem hkl
      obtain ⟨p1, p2⟩ := hr.2.2.2.2.2.2.2.2.1.2 k.toNat _ ep
      have hno := h21 _ (List.getElem_mem hkl)
      generalize (y_nm S)[k.toNat] = p at *
      have hp11 := hno.2.1
      rw [p1.1, p2]
      have go : ∀ s : Bool, (s = false → p ≠ q) → (s = true → p.1.length = q.1.length ∧ p.2 = q.2) → ∃ m, m < 20 * ((y_nm S).length - k).toNat ∧ q.2 = q.2 ∧ D' = D' ∧ 0 ≤ k ∧ k < (y_nm S).length ∧ (0 : Int) ≤ 0 ∧ (0 : Int) ≤ q.1.length ∧ m = 20 * ((y_nm S).length - k).toNat - 1 - (0 : Int).toNat ∧ y_idx q ((y_nm S).drop k.toNat) k.toNat = y_idx q (y_nm S) 0 ∧ ∃ p, (y_nm S)[k.toNat]? = some p ∧ (s = false → p ≠ q) ∧ (s = true → p.1.length = q.1.length ∧ p.2 = q.2 ∧ ∀ j : Nat, (j : Int) < 0 → p.1[j]? = q.1[j]?) := by
        intro s f1 f2
        refine ⟨_, ?_, rfl, rfl, k0, by omega, Int.le_refl _, by omega, rfl, hi, p, ep, f1, fun z => ⟨(f2 z).1, (f2 z).2, fun j hj => by omega⟩⟩
        omega
      refine ⟨y_rs (by omega) (by omega), y_rs (by omega) (by omega), fun c1 => go false (fun _ e => c1 (by rw [e])) (fun z => by cases z), fun c1 => ⟨by omega, y_zb_r _, fun c2 => go false (fun _ e => c2 (by rw [e])) (fun z => by cases z), fun c2 => go true (fun z => by cases z) (fun _ => ⟨by omega, y_zb.mp c2⟩)⟩⟩
  · rintro mm bb k s i D' ⟨rfl, rfl, k0, k1, i0, i1, rfl, hi, p, ep, f1, f2⟩
    have hkl : k.toNat < (y_nm S).length := by omega
    have hpq : p = (y_nm S)[k.toNat] := by rw [List.getElem?_eq_getElem hkl] at ep; exact (Option.some.inj ep).symm
    have hno : y_no p := by rw [hpq]; exact h21 _ (List.getElem_mem hkl)
    obtain ⟨p1, p2⟩ := hr.2.2.2.2.2.2.2.2.1.2 k.toNat _ ep
    have next : s = false → ∃ m, m < 20 * ((y_nm S).length - k).toNat - 1 - i.toNat ∧ q.2 = q.2 ∧ D' = D' ∧ 0 ≤ k + 1 ∧ k + 1 ≤ (y_nm S).length ∧ m = 20 * ((y_nm S).length - (k + 1)).toNat ∧ y_idx q ((y_nm S).drop (k + 1).toNat) (k + 1).toNat = y_idx q (y_nm S) 0 := by
      intro z
      refine ⟨_, ?_, rfl, rfl, by omega, by omega, rfl, ?_⟩
      · omega
      · rw [List.drop_eq_getElem_cons hkl, y_idx_cons, if_neg (by rw [← hpq]; exact f1 z)] at hi
        rw [show (k + 1).toNat = k.toNat + 1 by omega]
        exact hi
    unfold w_mKnown_42
    rw [e16]
    refine ⟨y_rs (by omega) (by omega), y_rs (by omega) (by omega), fun c => ⟨fun z => next z, fun z => ?_⟩, fun c => ⟨fun z => ⟨fun _ => next z, fun z2 => by rw [z] at z2; cases z2⟩, fun z => ?_⟩⟩
    · obtain ⟨g1, g2, g3⟩ := f2 z
      have : p = q := by
        refine Prod.ext (List.ext_getElem? (fun j => ?_)) g2
        by_cases hj : (j : Int) < i
        · exact g3 j hj
        · rw [List.getElem?_eq_none (by omega), List.getElem?_eq_none (by omega)]
      rw [List.drop_eq_getElem_cons hkl, y_idx_cons, if_pos (by rw [← hpq]; exact this)] at hi
      have h := h1 k.toNat hi.symm
      rw [show ((k.toNat : Nat) : Int) = k by omega] at h
      exact h
    · obtain ⟨g1, g2, g3⟩ := f2 z
      have hil : i.toNat < p.1.length := by omega
      have hiq : i.toNat < q.1.length := by omega
      have e1 : D'.1 340 (Int.toNat ((11 * k) + i)) = p.1[i.toNat] := by
        rw [show Int.toNat ((11 * k) + i) = 11 * k.toNat + i.toNat by omega]
        exact y_pa_at p1 hil
      have e2 : D'.1 344 (Int.toNat i) = q.1[i.toNat] := y_ar_at hs hiq
      have c1 := y_code_r (hno.2.2.1 _ (List.getElem_mem hil))
      have c2 := hq _ (List.getElem_mem hiq)
      rw [e1, e2]
      have go : ∀ s' : Bool, (s' = true ↔ p.1[i.toNat] = q.1[i.toNat]) → ∃ m, m < 20 * ((y_nm S).length - k).toNat - 1 - i.toNat ∧ q.2 = q.2 ∧ D' = D' ∧ 0 ≤ k ∧ k < (y_nm S).length ∧ 0 ≤ i + 1 ∧ i + 1 ≤ q.1.length ∧ m = 20 * ((y_nm S).length - k).toNat - 1 - (i + 1).toNat ∧ y_idx q ((y_nm S).drop k.toNat) k.toNat = y_idx q (y_nm S) 0 ∧ ∃ p, (y_nm S)[k.toNat]? = some p ∧ (s' = false → p ≠ q) ∧ (s' = true → p.1.length = q.1.length ∧ p.2 = q.2 ∧ ∀ j : Nat, (j : Int) < i + 1 → p.1[j]? = q.1[j]?) := by
        intro s' hs'
        refine ⟨_, ?_, rfl, rfl, k0, k1, by omega, by omega, rfl, hi, p, ep, fun w e => ?_, fun w => ⟨g1, g2, fun j hj => ?_⟩⟩
        · omega
        · have : s' = true := hs'.mpr (by simp only [e])
          rw [w] at this
          cases this
        · by_cases hj2 : (j : Int) < i
          · exact g3 j hj2
          · have : j = i.toNat := by omega
            rw [this, List.getElem?_eq_getElem hil, List.getElem?_eq_getElem hiq]
            exact congrArg some (hs'.mp w)
      exact ⟨by omega, by omega, y_rs (by omega) (by omega), y_rs (by omega) (by omega), fun c3 => go false ⟨fun w => (by cases w), fun w => absurd w c3⟩, fun c3 => go true ⟨fun _ => c3, fun _ => rfl⟩⟩
/-- a name becomes known -/
theorem c_known {q : List Int × Bool} {K : Int → z_D → Prop} (hr : y_ref Q S D) (ho : y_ok st S) (hs : y_spl D q.1) (hl : q.1.length ≤ 12) (hq : ∀ c ∈ q.1, 0 ≤ c ∧ c ≤ 255) (h1 : ∀ k : Nat, y_idx q (y_nm S) 0 = some k → K k D) (h2 : y_idx q (y_nm S) 0 = none → K (-1) D) : z_c n (d + 1) 100 [.ref 336, .int (z_i (z_b q.2))] D (z_qI K T) := c_knownX hr ho.2.2.2.2.2.2.2.2.2.2.2.2.2.2.2.2.2.2.2.1.2 ho.2.2.2.2.2.2.2.2.2.2.2.2.2.2.2.2.2.2.2.2.1 hs hl hq h1 h2
theorem rf_nm (hr : y_ref Q S D) (q : List Int × Bool) (h1 : y_pa (D.1 340) (11 * (y_nm S).length) (D.1 341 (y_nm S).length) q.1) (h2 : D.1 342 (y_nm S).length = z_b q.2) : y_ref Q (y_snm S (y_nm S ++ [q])) (z_uz D 336 11 (((y_nm S).length : Int) + 1)) := ⟨y_g1 hr.1 (by decide), hr.2.1, hr.2.2.1, hr.2.2.2.1, hr.2.2.2.2.1, hr.2.2.2.2.2.1, hr.2.2.2.2.2.2.1, hr.2.2.2.2.2.2.2.1, ⟨by
  show ((y_nm S).length : Int) + 1 = ((y_nm S ++ [q]).length : Int)
  simp, fun k x e => by
  have e' : (y_nm S ++ [q])[k]? = some x := e
  by_cases c : k < (y_nm S).length
  · rw [List.getElem?_append_left c] at e'
    exact hr.2.2.2.2.2.2.2.2.1.2 k x e'
  · have hk : k = (y_nm S).length := by
      have := (List.getElem?_eq_some_iff.mp e').1
      simp at this
      omega
    subst hk
    rw [List.getElem?_append_right (Nat.le_refl _)] at e'
    simp at e'
    subst e'
    exact ⟨h1, h2⟩⟩, hr.2.2.2.2.2.2.2.2.2.1, hr.2.2.2.2.2.2.2.2.2.2.1, hr.2.2.2.2.2.2.2.2.2.2.2.1, hr.2.2.2.2.2.2.2.2.2.2.2.2.1, hr.2.2.2.2.2.2.2.2.2.2.2.2.2.1, hr.2.2.2.2.2.2.2.2.2.2.2.2.2.2.1, hr.2.2.2.2.2.2.2.2.2.2.2.2.2.2.2.1, hr.2.2.2.2.2.2.2.2.2.2.2.2.2.2.2.2.1, hr.2.2.2.2.2.2.2.2.2.2.2.2.2.2.2.2.2.1, hr.2.2.2.2.2.2.2.2.2.2.2.2.2.2.2.2.2.2.1, hr.2.2.2.2.2.2.2.2.2.2.2.2.2.2.2.2.2.2.2.1, hr.2.2.2.2.2.2.2.2.2.2.2.2.2.2.2.2.2.2.2.2.1, hr.2.2.2.2.2.2.2.2.2.2.2.2.2.2.2.2.2.2.2.2.2.1, hr.2.2.2.2.2.2.2.2.2.2.2.2.2.2.2.2.2.2.2.2.2.2⟩
/-- names that are not known yet -/
theorem rf_n340 (hr : y_ref Q S D) (ho : y_ok st S) (i : Nat) (v : Int) : y_ref Q S (z_uz D 340 (11 * (y_nm S).length + i) v) := ⟨y_g1 hr.1 (by decide), hr.2.1, hr.2.2.1, hr.2.2.2.1, hr.2.2.2.2.1, hr.2.2.2.2.2.1, hr.2.2.2.2.2.2.1, hr.2.2.2.2.2.2.2.1, ⟨hr.2.2.2.2.2.2.2.2.1.1, fun k x e => by
  obtain ⟨⟨a1, a2⟩, b⟩ := hr.2.2.2.2.2.2.2.2.1.2 k x e
  have hk := (List.getElem?_eq_some_iff.mp e).1
  have hx := (ho.2.2.2.2.2.2.2.2.2.2.2.2.2.2.2.2.2.2.2.2.1 x (List.mem_of_getElem? e)).2.1
  refine ⟨⟨a1, fun j hj => ?_⟩, b⟩
  show am_u2 D.1 340 (11 * (y_nm S).length + i) v 340 (11 * k + j) = _
  unfold am_u2
  rw [if_pos rfl, if_neg (by omega)]
  exact a2 j hj⟩, hr.2.2.2.2.2.2.2.2.2.1, hr.2.2.2.2.2.2.2.2.2.2.1, hr.2.2.2.2.2.2.2.2.2.2.2.1, hr.2.2.2.2.2.2.2.2.2.2.2.2.1, hr.2.2.2.2.2.2.2.2.2.2.2.2.2.1, hr.2.2.2.2.2.2.2.2.2.2.2.2.2.2.1, hr.2.2.2.2.2.2.2.2.2.2.2.2.2.2.2.1, hr.2.2.2.2.2.2.2.2.2.2.2.2.2.2.2.2.1, hr.2.2.2.2.2.2.2.2.2.2.2.2.2.2.2.2.2.1, hr.2.2.2.2.2.2.2.2.2.2.2.2.2.2.2.2.2.2.1, hr.2.2.2.2.2.2.2.2.2.2.2.2.2.2.2.2.2.2.2.1, hr.2.2.2.2.2.2.2.2.2.2.2.2.2.2.2.2.2.2.2.2.1, hr.2.2.2.2.2.2.2.2.2.2.2.2.2.2.2.2.2.2.2.2.2.1, hr.2.2.2.2.2.2.2.2.2.2.2.2.2.2.2.2.2.2.2.2.2.2⟩
theorem rf_n341 (hr : y_ref Q S D) (v : Int) : y_ref Q S (z_uz D 341 (y_nm S).length v) := ⟨y_g1 hr.1 (by decide), hr.2.1, hr.2.2.1, hr.2.2.2.1, hr.2.2.2.2.1, hr.2.2.2.2.2.1, hr.2.2.2.2.2.2.1, hr.2.2.2.2.2.2.2.1, ⟨hr.2.2.2.2.2.2.2.2.1.1, fun k x e => by
  obtain ⟨⟨a1, a2⟩, b⟩ := hr.2.2.2.2.2.2.2.2.1.2 k x e
  have hk := (List.getElem?_eq_some_iff.mp e).1
  refine ⟨⟨?_, a2⟩, b⟩
  show am_u2 D.1 341 (y_nm S).length v 341 k = _
  unfold am_u2
  rw [if_pos rfl, if_neg (by omega)]
  exact a1⟩, hr.2.2.2.2.2.2.2.2.2.1, hr.2.2.2.2.2.2.2.2.2.2.1, hr.2.2.2.2.2.2.2.2.2.2.2.1, hr.2.2.2.2.2.2.2.2.2.2.2.2.1, hr.2.2.2.2.2.2.2.2.2.2.2.2.2.1, hr.2.2.2.2.2.2.2.2.2.2.2.2.2.2.1, hr.2.2.2.2.2.2.2.2.2.2.2.2.2.2.2.1, hr.2.2.2.2.2.2.2.2.2.2.2.2.2.2.2.2.1, hr.2.2.2.2.2.2.2.2.2.2.2.2.2.2.2.2.2.1, hr.2.2.2.2.2.2.2.2.2.2.2.2.2.2.2.2.2.2.1, hr.2.2.2.2.2.2.2.2.2.2.2.2.2.2.2.2.2.2.2.1, hr.2.2.2.2.2.2.2.2.2.2.2.2.2.2.2.2.2.2.2.2.1, hr.2.2.2.2.2.2.2.2.2.2.2.2.2.2.2.2.2.2.2.2.2.1, hr.2.2.2.2.2.2.2.2.2.2.2.2.2.2.2.2.2.2.2.2.2.2⟩
theorem rf_n342 (hr : y_ref Q S D) (v : Int) : y_ref Q S (z_uz D 342 (y_nm S).length v) := ⟨y_g1 hr.1 (by decide), hr.2.1, hr.2.2.1, hr.2.2.2.1, hr.2.2.2.2.1, hr.2.2.2.2.2.1, hr.2.2.2.2.2.2.1, hr.2.2.2.2.2.2.2.1, ⟨hr.2.2.2.2.2.2.2.2.1.1, fun k x e => by
  obtain ⟨a, b⟩ := hr.2.2.2.2.2.2.2.2.1.2 k x e
  have hk := (List.getElem?_eq_some_iff.mp e).1
  refine ⟨a, ?_⟩
  show am_u2 D.1 342 (y_nm S).length v 342 k = _
  unfold am_u2
  rw [if_pos rfl, if_neg (by omega)]
  exact b⟩, hr.2.2.2.2.2.2.2.2.2.1, hr.2.2.2.2.2.2.2.2.2.2.1, hr.2.2.2.2.2.2.2.2.2.2.2.1, hr.2.2.2.2.2.2.2.2.2.2.2.2.1, hr.2.2.2.2.2.2.2.2.2.2.2.2.2.1, hr.2.2.2.2.2.2.2.2.2.2.2.2.2.2.1, hr.2.2.2.2.2.2.2.2.2.2.2.2.2.2.2.1, hr.2.2.2.2.2.2.2.2.2.2.2.2.2.2.2.2.1, hr.2.2.2.2.2.2.2.2.2.2.2.2.2.2.2.2.2.1, hr.2.2.2.2.2.2.2.2.2.2.2.2.2.2.2.2.2.2.1, hr.2.2.2.2.2.2.2.2.2.2.2.2.2.2.2.2.2.2.2.1, hr.2.2.2.2.2.2.2.2.2.2.2.2.2.2.2.2.2.2.2.2.1, hr.2.2.2.2.2.2.2.2.2.2.2.2.2.2.2.2.2.2.2.2.2.1, hr.2.2.2.2.2.2.2.2.2.2.2.2.2.2.2.2.2.2.2.2.2.2⟩
theorem rf_n343 (hr : y_ref Q S D) (ho : y_ok st S) : y_ref Q S (z_uz D 343 (y_nm S).length 0) := ⟨y_g1 hr.1 (by decide), hr.2.1, hr.2.2.1, hr.2.2.2.1, hr.2.2.2.2.1, hr.2.2.2.2.2.1, hr.2.2.2.2.2.2.1, hr.2.2.2.2.2.2.2.1, hr.2.2.2.2.2.2.2.2.1, (fun k hk => by
  show am_u2 D.1 343 (y_nm S).length 0 343 k = _
  unfold am_u2
  rw [if_pos rfl]
  split
  · next e => rw [ho.2.2.2.2.2.2.2.2.2.2.2.2.2.2.2.2.2.2.1 k (by show (y_nm S).length ≤ k; omega)]; rfl
  · exact hr.2.2.2.2.2.2.2.2.2.1 k hk), hr.2.2.2.2.2.2.2.2.2.2.1, hr.2.2.2.2.2.2.2.2.2.2.2.1, hr.2.2.2.2.2.2.2.2.2.2.2.2.1, hr.2.2.2.2.2.2.2.2.2.2.2.2.2.1, hr.2.2.2.2.2.2.2.2.2.2.2.2.2.2.1, hr.2.2.2.2.2.2.2.2.2.2.2.2.2.2.2.1, hr.2.2.2.2.2.2.2.2.2.2.2.2.2.2.2.2.1, hr.2.2.2.2.2.2.2.2.2.2.2.2.2.2.2.2.2.1, hr.2.2.2.2.2.2.2.2.2.2.2.2.2.2.2.2.2.2.1, hr.2.2.2.2.2.2.2.2.2.2.2.2.2.2.2.2.2.2.2.1, hr.2.2.2.2.2.2.2.2.2.2.2.2.2.2.2.2.2.2.2.2.1, hr.2.2.2.2.2.2.2.2.2.2.2.2.2.2.2.2.2.2.2.2.2.1, hr.2.2.2.2.2.2.2.2.2.2.2.2.2.2.2.2.2.2.2.2.2.2⟩
theorem c_named {q : List Int × Bool} {K : Int → z_D → Prop} (hr : y_rf Q S D) (ho : y_ok st S) (hs : y_spl D q.1) (hq : y_no q) (h : y_fin (y_find q.1 q.2 S) (fun t S' => ∀ D', y_rf Q S' D' → K t D') (y_rT Q.1 (K (-1)))) : z_c n (d + 2) 101 [.ref 336, .int (z_i (z_b q.2))] D (z_qI K T) := by
  have on : (y_nm S).length ≤ 118 := ho.2.2.2.2.2.2.2.2.2.2.2.2.2.2.2.2.2.2.2.1.2
  have hl : q.1.length ≤ 11 := hq.2.1
  have hq2 : ∀ c ∈ q.1, 0 ≤ c ∧ c ≤ 255 := fun c hc => by have := y_code_r (hq.2.2.1 c hc); omega
  have e11 := hr.1.2.2.2.2.2.2.2.2.1.1
  unfold y_find at h
  refine r_mNamed (fun m i D' => ¬ 118 ≤ (y_nm S).length ∧ y_idx q (y_nm S) 0 = none ∧ 0 ≤ i ∧ i ≤ q.1.length ∧ m = (q.1.length - i).toNat ∧ y_ref Q S D' ∧ y_spl D' q.1 ∧ D'.1 341 (y_nm S).length = (q.1.length : Int) ∧ D'.1 342 (y_nm S).length = z_b q.2 ∧ ∀ j : Nat, (j : Int) < i → D'.1 340 (11 * (y_nm S).length + j) = q.1[j]?.getD 0) (c_known hr.1 ho hs (by omega) hq2 (fun k e => ?_) (fun e => ?_)) ?_
  · rw [e] at h
    have hk := y_idx_some e
    exact ⟨y_rs (by omega) (by omega), fun z => by omega, fun _ => h D hr⟩
  · rw [e] at h
    dsimp only at h
    rw [e11]
    refine ⟨z_rk rfl, fun _ => ⟨y_rs (by omega) (by omega), fun c => ⟨by omega, fun D6 e6 => ?_⟩, fun c => ?_⟩, fun z => by omega⟩
    · rw [show (((y_nm S).length : Nat) : Int).toNat = (y_nm S).length by omega, hs.1] at e6
      have h6 : y_ref Q S D6 := by rw [e6]; exact rf_n341 hr.1 _
      have s6 : y_spl D6 q.1 := by rw [e6]; exact hs
      rw [h6.2.2.2.2.2.2.2.2.1.1]
      refine ⟨by omega, fun D8 e8 => ?_⟩
      rw [show (((y_nm S).length : Nat) : Int).toNat = (y_nm S).length by omega] at e8
      have h8 : y_ref Q S D8 := by rw [e8]; exact rf_n342 h6 _
      have s8 : y_spl D8 q.1 := by rw [e8]; exact s6
      rw [h8.2.2.2.2.2.2.2.2.1.1]
      refine ⟨by omega, fun D10 e10 => ?_⟩
      rw [show (((y_nm S).length : Nat) : Int).toNat = (y_nm S).length by omega] at e10
      refine ⟨_, by omega, e, Int.le_refl _, by omega, rfl, by rw [e10]; exact rf_n343 h8 ho, by rw [e10]; exact s8, ?_, ?_, fun j hj => by omega⟩
      · rw [e10, e8, e6, y_uz_cell (by decide), y_uz_cell (by decide), y_uz_same]
      · rw [e10, e8, y_uz_cell (by decide), y_uz_same]
    · rw [if_pos (by omega)] at h
      exact c_stop hr (by decide) (by decide) h
  · rintro mm i D' ⟨c1, e, i0, i1, rfl, h', s', a1, a2, a3⟩
    rw [e] at h
    dsimp only at h
    rw [if_neg c1] at h
    have e16 : D'.1 336 16 = (q.1.length : Int) := s'.1
    have e11' := h'.2.2.2.2.2.2.2.2.1.1
    unfold w_mNamed_66
    rw [e16, e11']
    refine ⟨y_rs (by omega) (by omega), y_rs (by omega) (by omega), fun c D3 e3 => ?_, fun c => ⟨by omega, by omega, fun D6 e6 => ?_⟩⟩
    · have e31 : D3.1 336 11 = ((y_nm S).length : Int) + 1 := by rw [e3]; exact y_uz_same _ _ _ _
      rw [e31, show 4096 + (((y_nm S).length : Int) + 1) - 1 = 4096 + ((y_nm S).length : Int) by omega]
      refine h D3 ⟨?_, hr.2⟩
      rw [e3]
      exact rf_nm h' q ⟨a1, fun j hj => a3 j (by omega)⟩ a2
    · have hiq : i.toNat < q.1.length := by omega
      have e2 : D'.1 344 (Int.toNat i) = q.1[i.toNat] := y_ar_at s' hiq
      rw [show Int.toNat ((11 * ((y_nm S).length : Int)) + i) = 11 * (y_nm S).length + i.toNat by omega, e2] at e6
      refine ⟨_, ?_, c1, e, by omega, by omega, rfl, by rw [e6]; exact rf_n340 h' ho _ _, by rw [e6]; exact s', by rw [e6]; exact a1, by rw [e6]; exact a2, fun j hj => ?_⟩
      · omega
      · rw [e6]
        show am_u2 D'.1 340 (11 * (y_nm S).length + i.toNat) _ 340 (11 * (y_nm S).length + j) = _
        unfold am_u2
        rw [if_pos rfl]
        by_cases z : j = i.toNat
        · rw [if_pos (by omega), z, List.getElem?_eq_getElem hiq]; rfl
        · rw [if_neg (by omega)]
          exact a3 j (by omega)
/-- a character is spelt -/
theorem c_say {ls : List Int} {c : Int} {K : z_D → Prop} (hr : y_ref Q S D) (hs : y_spl D ls) (hl : ls.length ≤ 11) (h : ∀ D', y_ref Q S D' → y_spl D' (ls ++ [c]) → K D') : z_c n (d + 1) 99 [.ref 336, .int (z_i c)] D (z_qV K T) := by
  have e16 : D.1 336 16 = (ls.length : Int) := hs.1
  refine r_mSay ?_
  unfold w_mSay_0
  rw [e16]
  refine ⟨y_rs (by omega) (by omega), fun z => by omega, fun _ => ⟨by omega, fun D4 e4 D5 e5 => ?_⟩⟩
  rw [show ((ls.length : Nat) : Int).toNat = ls.length by omega] at e4
  have e41 : D4.1 336 16 = (ls.length : Int) := by rw [e4]; exact e16
  rw [e41] at e5
  refine h D5 ?_ ?_
  · rw [e5, e4]; exact rf_sp (rf_sg hr _ _) _
  · rw [e5, e4]
    show y_ar (am_u2 D.1 344 ls.length c 344) ((ls.length : Int) + 1) (ls ++ [c])
    rw [← e16]
    exact y_ar_add hs (fun i => by unfold am_u2; rw [if_pos rfl])
end RG
