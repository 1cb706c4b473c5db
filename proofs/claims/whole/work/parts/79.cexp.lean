/-! contracts of the class: arguments, bodies, spelling, conditionals -/
def y_sum : List Int → Int
  | [] => 0
  | t :: r => y_bs t + y_sum r
theorem y_sum_app (a b : List Int) : y_sum (a ++ b) = y_sum a + y_sum b := by
  induction a with
  | nil => simp [y_sum]
  | cons t r ih => simp only [List.cons_append, y_sum, ih]; omega
theorem y_sum0 {l : List Int} (h : ∀ x ∈ l, y_bs x = 0) : y_sum l = 0 := by
  induction l with
  | nil => rfl
  | cons t r ih => simp only [y_sum]; rw [h t (by simp), ih (fun x hx => h x (by simp [hx]))]; rfl
theorem y_bs_r (t : Int) : y_bs t = 1 ∨ y_bs t = -1 ∨ y_bs t = 0 := by
  unfold y_bs
  split
  · exact Or.inl rfl
  · split
    · exact Or.inr (Or.inl rfl)
    · exact Or.inr (Or.inr rfl)
theorem y_clos_cons (t : Int) (r : List Int) (dp : Int) : y_clos (t :: r) dp = if dp + y_bs t = 0 then some 0 else (y_clos r (dp + y_bs t)).map (· + 1) := rfl
/-- the place where the braces close, reached by steps -/
theorem y_clos_drop : ∀ (r : List Int) (dp : Int) (k : Nat), k ≤ r.length → (∀ j, j < k → dp + y_sum (r.take (j + 1)) ≠ 0) → y_clos r dp = (y_clos (r.drop k) (dp + y_sum (r.take k))).map (· + k)
  | r, dp, 0, _, _ => by simp [y_sum]
  | [], dp, k + 1, hk, _ => by simp at hk
  | t :: r, dp, k + 1, hk, hj => by
    have h0 := hj 0 (by omega)
    simp only [Nat.zero_add, List.take_succ_cons, List.take_zero, y_sum] at h0
    have ih := y_clos_drop r (dp + y_bs t) k (by simp at hk; omega) (fun j hjk => by
      have := hj (j + 1) (by omega)
      simp only [List.take_succ_cons, y_sum] at this
      omega)
    rw [y_clos_cons, if_neg (by omega), ih]
    simp only [List.drop_succ_cons, List.take_succ_cons, y_sum, Option.map_map]
    rw [show dp + (y_bs t + y_sum (r.take k)) = dp + y_bs t + y_sum (r.take k) by omega]
    congr 1
theorem y_sum_take1 (r : List Int) {k : Nat} (hk : k < r.length) : y_sum (r.take (k + 1)) = y_sum (r.take k) + y_bs r[k] := by
  rw [List.take_succ_eq_append_getElem hk, y_sum_app]
  simp [y_sum]
section CE
variable {n d : Nat} {B : y_B} {D : z_D} {st : Int} {S : y_S} {T : Nat → z_D → Prop}
theorem c_rPeelGroup {r w : Nat} {l : List Int} {K : z_D → Prop} (hr : z_row n r (r + 1) w) (h : y_row D r l) (hl : l.length ≤ w) (hi : y_rl l) (hb : y_sum l = 0) (hK : ∀ D', y_row D' r (y_peel l) → (∀ c, c ≠ r → c ≠ r + 1 → D'.1 c = D.1 c) → D'.2 = D.2 → K D') : z_c n (d + 2) 35 [.ref r] D (z_qV K T) := by
  have hw := hr.2.2.2.1
  have same : y_peel l = l → K D := fun e => hK D (by rw [e]; exact h) (fun _ _ _ => rfl) rfl
  refine r_rPeelGroup hr (fun m a k D' => D' = D ∧ 2 ≤ l.length ∧ y_bs (l[0]?.getD 0) = 1 ∧ 1 ≤ k ∧ k ≤ (l.length : Int) - 1 ∧ a = y_sum (l.take k.toNat) ∧ (∀ j : Nat, 1 ≤ j → j < k.toNat → y_sum (l.take (j + 1)) ≠ 0) ∧ m = (l.length - k).toNat) ?_ ?_
  · unfold w_rPeelGroup_0
    rw [h.1]
    refine ⟨z_rw (by omega), fun c => same ?_, fun c => ⟨fun c1 => by omega, fun c1 => ⟨by omega, ?_⟩⟩⟩
    · unfold y_peel
      split
      · rw [if_neg (by omega)]
      · rfl
    · have e0 : D.1 (r + 1) 0 = l[0]?.getD 0 := h.2 0 (by omega)
      rw [e0]
      obtain ⟨t, q, rfl⟩ : ∃ t q, l = t :: q := by
        cases l with
        | nil => simp at c
        | cons t q => exact ⟨t, q, rfl⟩
      have et : (t :: q)[0]?.getD 0 = t := rfl
      rw [et]
      refine c_tBraceStep (hi t (by simp)) ⟨by rcases y_bs_r t with z | z | z <;> rw [z] <;> exact z_rk rfl, fun z => ⟨_, rfl, by omega, z, Int.le_refl _, by omega, ?_, fun j j1 j2 => by omega, rfl⟩, fun z => same ?_⟩
      · show 1 = y_sum [t]
        simp [y_sum, z]
      · unfold y_peel
        simp only
        rw [if_neg (fun w => z w.2.1)]
  · rintro mm a k D' ⟨rfl, hl2, hb0, hk1, hk2, rfl, hall, rfl⟩
    obtain ⟨t, q, rfl⟩ : ∃ t q, l = t :: q := by
      cases l with
      | nil => simp at hl2
      | cons t q => exact ⟨t, q, rfl⟩
    have hbt : y_bs t = 1 := hb0
    have hsr : -1000 * (t :: q).length ≤ y_sum ((t :: q).take k.toNat) ∧ y_sum ((t :: q).take k.toNat) ≤ 1000 * (t :: q).length := by
      have hg : ∀ l : List Int, -1000 * l.length ≤ y_sum l ∧ y_sum l ≤ 1000 * l.length := by
        intro l
        induction l with
        | nil => simp [y_sum]
        | cons x y ih =>
          simp only [y_sum, List.length_cons]
          rcases y_bs_r x with z | z | z <;> omega
      have := hg ((t :: q).take k.toNat)
      have hlen : ((t :: q).take k.toNat).length ≤ (t :: q).length := by rw [List.length_take]; omega
      omega
    have el : ((t :: q).length : Int) = q.length + 1 := by simp
    have hclos : ∀ j : Nat, j ≤ q.length → (∀ i, i < j → y_sum ((t :: q).take (i + 2)) ≠ 0) → y_clos q 1 = (y_clos (q.drop j) (y_sum ((t :: q).take (j + 1)))).map (· + j) := by
      intro j hj hne
      have := y_clos_drop q 1 j hj (fun i hi => by
        have := hne i hi
        simp only [List.take_succ_cons, y_sum, hbt] at this
        exact this)
      rw [this]
      simp only [List.take_succ_cons, y_sum, hbt]
    unfold w_rPeelGroup_38
    rw [h.1]
    refine ⟨⟨by omega, by omega⟩, ⟨by omega, by omega⟩, fun c => ⟨by omega, fun D4 e4 D5 e5 => ?_⟩, fun c => ⟨by omega, ?_⟩⟩
    · -- the braces belong together
      have hk : k.toNat = q.length := by omega
      have hx := hclos (q.length - 1) (by omega) (fun i hi' => hall (i + 1) (by omega) (by omega))
      obtain ⟨u, x, rfl⟩ : ∃ u x, q = u ++ [x] := by
        rcases y_snoc q with z | ⟨u, x, z⟩
        · rw [z] at hl2; simp at hl2
        · exact ⟨u, x, z⟩
      have hlu : (u ++ [x]).length = u.length + 1 := by simp
      have hpe : y_peel (t :: (u ++ [x])) = u := by
        unfold y_peel
        simp only
        rw [hlu, show u.length + 1 - 1 = u.length by omega, List.drop_left'] at hx
        · have hs : y_sum ((t :: (u ++ [x])).take (u.length + 1)) + y_bs x = 0 := by
            rw [List.take_succ_cons, List.take_left' rfl]
            have := hb
            simp only [y_sum, y_sum_app] at this ⊢
            omega
          have hc1 : y_clos [x] (y_sum ((t :: (u ++ [x])).take (u.length + 1))) = some 0 := by
            exact if_pos hs
          rw [hc1] at hx
          rw [if_pos ⟨hl2, hbt, by rw [hx, hlu]; simp⟩, List.dropLast_concat]
        · rfl
      have e41 : D4.1 r 1 = ((t :: (u ++ [x])).length : Int) := by
        rw [e4]
        show am_u1 D'.1 (r + 1) _ r 1 = _
        unfold am_u1
        rw [if_neg (by omega)]
        exact h.1
      rw [e41] at e5
      have hlen : ((t :: (u ++ [x])).length : Int) - 2 = (u.length : Int) := by simp; omega
      rw [hlen] at e5 e4
      refine hK D5 ?_ (fun c c1 c2 => ?_) ?_
      · rw [hpe, e5]
        refine ⟨y_uz_same _ _ _ _, fun i hi' => ?_⟩
        rw [y_uz_cell (by omega), e4]
        show am_u1 D'.1 (r + 1) (va_cpy (D'.1 (r + 1)) (D'.1 (r + 1)) 1 0 (Int.toNat (u.length : Int))) (r + 1) i = _
        unfold am_u1 va_cpy
        rw [if_pos rfl, if_pos (by omega), h.2 _ (by simp; omega)]
        have : 1 + (i - 0) = i + 1 := by omega
        rw [this, List.getElem?_cons_succ, List.getElem?_append_left hi']
      · rw [e5, y_uz_cell c1, e4]
        show am_u1 D'.1 (r + 1) _ c = _
        unfold am_u1
        rw [if_neg c2]
      · rw [e5, e4]; rfl
    · have hkl : k.toNat < (t :: q).length := by omega
      rw [h.2 _ hkl, List.getElem?_eq_getElem hkl]
      have hkq : k.toNat - 1 < q.length := by simp at hkl; omega
      have es := y_sum_take1 (t :: q) hkl
      refine c_tBraceStep (hi _ (List.getElem_mem hkl)) ⟨⟨by have := hsr.1; have := y_bs_r ((some (t :: q)[k.toNat]).getD 0); omega, by have := hsr.2; have := y_bs_r ((some (t :: q)[k.toNat]).getD 0); omega⟩, fun z => ⟨_, ?_, rfl, hl2, hb0, by omega, by omega, ?_, fun j j1 j2 => ?_, rfl⟩, fun z => same ?_⟩
      · omega
      · rw [show (k + 1).toNat = k.toNat + 1 by omega, es]
        rfl
      · by_cases e : j < k.toNat
        · exact hall j j1 e
        · have : j = k.toNat := by omega
          rw [this, es]
          exact z
      · have hx := hclos (k.toNat - 1) (by omega) (fun i hi' => hall (i + 1) (by omega) (by omega))
        rw [show k.toNat - 1 + 1 = k.toNat by omega, List.drop_eq_getElem_cons hkq] at hx
        have ex : q[k.toNat - 1] = (t :: q)[k.toNat] := by
          have : ∀ (m : Nat) (h1 : m < (t :: q).length) (h2 : m - 1 < q.length), 1 ≤ m → q[m - 1] = (t :: q)[m] := by
            intro m h1 h2 h3
            obtain ⟨m, rfl⟩ : ∃ m', m = m' + 1 := ⟨m - 1, by omega⟩
            rfl
          exact this _ hkl hkq (by omega)
        rw [ex] at hx
        have hc1 : y_clos ((t :: q)[k.toNat] :: q.drop (k.toNat - 1 + 1)) (y_sum ((t :: q).take k.toNat)) = some 0 := by
          exact if_pos z
        rw [hc1] at hx
        unfold y_peel
        simp only
        rw [if_neg (fun w => ?_)]
        have := w.2.2
        rw [hx] at this
        simp at this
        omega
end CE
