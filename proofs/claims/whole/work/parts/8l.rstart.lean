/-! contracts of the reference: a new start -/
section RL
variable {n d : Nat} {Q : y_Q} {D : z_D} {st : Int} {S : y_S} {T : Nat → z_D → Prop}
def y_D12 (D : z_D) : z_D := z_uz (z_uz (z_uz (z_uz (z_uz (z_uz (z_uz (z_uz (z_uz (z_uz (z_uz (z_uz D 336 3 0) 336 4 0) 336 5 0) 336 6 0) 336 9 0) 336 18 0) 336 19 0) 336 23 0) 336 29 0) 336 31 0) 336 37 0) 336 11 18
theorem y_D12c {D : z_D} {c : Nat} (h : c ≠ 336) : (y_D12 D).1 c = D.1 c := by
  unfold y_D12
  rw [y_uz_cell h, y_uz_cell h, y_uz_cell h, y_uz_cell h, y_uz_cell h, y_uz_cell h, y_uz_cell h, y_uz_cell h, y_uz_cell h, y_uz_cell h, y_uz_cell h, y_uz_cell h]
theorem y_means0 : ∀ k, k < 118 → (if k < 18 then ((k : Nat) : Int) + 1 else 0) = y_mr (if k < 18 then ((k : Nat) : Int) + 1 else 0) := by decide
theorem rf_start {Z : Nat → Nat → Int} (hr : y_ref Q S D) (ht : (y_nm S).take 18 = y_cmds) (hB : Q.1.1 336 6 = 0) (hf : ∀ c, c ≠ 343 → c ≠ 338 → Z c = (y_D12 D).1 c) (hm : ∀ i : Nat, i < 120 → Z 343 i = if i < 18 then (i : Int) + 1 else 0) (hc : ∀ i, i < 128 → Z 338 i = y_cat0 i) : y_ref (Q.1, fun _ => none, []) (y_again S) (Z, D.2) := by
  have f : ∀ c, c ≠ 343 → c ≠ 338 → c ≠ 336 → Z c = D.1 c := fun c h1 h2 h3 => (hf c h1 h2).trans (y_D12c h3)
  have g : ∀ j, Z 336 j = (y_D12 D).1 336 j := fun j => congrFun (hf 336 (by decide) (by decide)) j
  refine ⟨⟨hr.1.1, fun c hc' => (f c (by omega) (by omega) (by omega)).trans (hr.1.2 c hc')⟩, ?_, ?_, ?_, ?_, ?_, ⟨?_, fun i k v e => (by cases e), fun i hi => (by cases hi)⟩, hc, ⟨?_, ?_⟩, ?_, ?_, fun i q e => (by cases e), fun l e => (by cases e), fun l e => (by cases e), fun v e => (by cases e), fun i l _ e => (by cases e), ?_, ?_, ?_, ⟨?_, ?_⟩, ?_, ⟨?_, fun k q e => (by cases e)⟩, fun i hi => ?_⟩ <;> dsimp only
  · rw [g, f 337 (by decide) (by decide) (by decide)]; exact hr.2.1
  · rw [g]; exact ⟨rfl, fun i hi => (by cases hi)⟩
  · rw [g]; exact ⟨rfl, fun i hi => (by cases hi)⟩
  · rw [g]; exact ⟨rfl, fun i hi => (by cases hi)⟩
  · rw [g]; rfl
  · rw [g]; exact ⟨rfl, fun i hi => (by cases hi)⟩
  · rw [g]; rfl
  · intro k q e
    have e : y_cmds[k]? = some q := e
    rw [← ht] at e
    have hk := (List.getElem?_eq_some_iff.mp e).1
    rw [List.length_take] at hk
    rw [List.getElem?_take_of_lt (by omega)] at e
    rw [f 340 (by decide) (by decide) (by decide), f 341 (by decide) (by decide) (by decide), f 342 (by decide) (by decide) (by decide)]
    exact hr.2.2.2.2.2.2.2.2.1.2 k q e
  · intro k hk
    rw [hm k (by omega)]
    exact y_means0 k hk
  · rw [g]; rfl
  · rw [g]; rfl
  · rw [g]; rfl
  · rw [g]; rfl
  · rw [g]; show (0 : Int) = 0 + Q.1.1 336 6; omega
  · rw [g]; exact hr.2.2.2.2.2.2.2.2.2.2.2.2.2.2.2.2.2.2.2.1.2
  · rw [g]; exact hr.2.2.2.2.2.2.2.2.2.2.2.2.2.2.2.2.2.2.2.2.1
  · rw [g]; rfl
  · rw [f 350 (by decide) (by decide) (by decide), f 352 (by decide) (by decide) (by decide)]
    exact hr.2.2.2.2.2.2.2.2.2.2.2.2.2.2.2.2.2.2.2.2.2.2 i hi
theorem c_mStart {K : z_D → Prop} (hr : y_ref Q S D) (ht : (y_nm S).take 18 = y_cmds) (hB : Q.1.1 336 6 = 0) (h : ∀ D', y_ref (Q.1, fun _ => none, []) (y_again S) D' → K D') : z_c n (d + 1) 92 [.ref 336] D (z_qV K T) := by
  refine r_mStart (fun m a D' => 0 ≤ a ∧ a ≤ 120 ∧ m = (300 - a).toNat ∧ D'.2 = D.2 ∧ (∀ c, c ≠ 343 → D'.1 c = (y_D12 D).1 c) ∧ ∀ i : Nat, (i : Int) < a → D'.1 343 i = if i < 18 then (i : Int) + 1 else 0) (fun m a D' => 0 ≤ a ∧ a ≤ 128 ∧ m = (128 - a).toNat ∧ D'.2 = D.2 ∧ (∀ c, c ≠ 343 → c ≠ 338 → D'.1 c = (y_D12 D).1 c) ∧ (∀ i : Nat, i < 120 → D'.1 343 i = if i < 18 then (i : Int) + 1 else 0) ∧ ∀ i : Nat, (i : Int) < a → D'.1 338 i = y_c11 26 i) ?_ ?_ ?_
  · intro D1 e1 D2 e2 D3 e3 D4 e4 D5 e5 D6 e6 D7 e7 D8 e8 D9 e9 D10 e10 D11 e11 D12 e12
    have e : D12 = y_D12 D := by rw [e12, e11, e10, e9, e8, e7, e6, e5, e4, e3, e2, e1]; rfl
    exact ⟨_, by decide, by decide, rfl, by rw [e]; rfl, fun c _ => by rw [e], fun i hi => by omega⟩
  · rintro mm a D' ⟨a0, a1, rfl, e2, hf, hv⟩
    refine ⟨y_rs (by omega) (by omega), fun c => ⟨_, ?_, by decide, by decide, rfl, e2, fun c h1 _ => hf c h1, fun i hi => hv i (by omega), fun i hi => by omega⟩, fun c => ⟨fun c1 => ⟨by omega, fun D3 e3 => ?_⟩, fun c1 => ⟨by omega, fun D3 e3 => ?_⟩⟩⟩
    · omega
    · refine ⟨_, ?_, by omega, by omega, rfl, by rw [e3]; exact e2, fun c h7 => by rw [e3, y_uz_cell h7]; exact hf c h7, fun i hi => ?_⟩
      · omega
      · rw [e3]
        by_cases z : i = a.toNat
        · rw [z, y_uz_same, if_neg (by omega)]
        · rw [y_uz_slot z]; exact hv i (by omega)
    · refine ⟨_, ?_, by omega, by omega, rfl, by rw [e3]; exact e2, fun c h7 => by rw [e3, y_uz_cell h7]; exact hf c h7, fun i hi => ?_⟩
      · omega
      · rw [e3]
        by_cases z : i = a.toNat
        · rw [z, y_uz_same, if_pos (by omega)]; omega
        · rw [y_uz_slot z]; exact hv i (by omega)
  · rintro mm a D' ⟨a0, a1, rfl, e2, hf, hm, hv⟩
    have step : ∀ (v : Int) (D3 : z_D), a < 128 → v = y_c11 26 a.toNat → D3 = z_uz D' 338 a.toNat v → ∃ m, m < (128 - a).toNat ∧ 0 ≤ a + 1 ∧ a + 1 ≤ 128 ∧ m = (128 - (a + 1)).toNat ∧ D3.2 = D.2 ∧ (∀ c, c ≠ 343 → c ≠ 338 → D3.1 c = (y_D12 D).1 c) ∧ (∀ i : Nat, i < 120 → D3.1 343 i = if i < 18 then (i : Int) + 1 else 0) ∧ ∀ i : Nat, (i : Int) < a + 1 → D3.1 338 i = y_c11 26 i := by
      intro v D3 ha ev e3
      refine ⟨_, ?_, by omega, by omega, rfl, by rw [e3]; exact e2, fun c h1 h2 => by rw [e3, y_uz_cell h2]; exact hf c h1 h2, fun i hi => by rw [e3, y_uz_cell (by decide)]; exact hm i hi, fun i hi => ?_⟩
      · omega
      · rw [e3]
        by_cases z : i = a.toNat
        · rw [z, y_uz_same]; exact ev
        · rw [y_uz_slot z]; exact hv i (by omega)
    refine ⟨y_rs (by omega) (by omega), fun c => ?_, fun c => ?_⟩
    · intro D2 f2 D3 f3 D4 f4 D5 f5 D6 f6 D7 f7 D8 f8 D9 f9 D10 f10 D11 f11 D12 f12 D13 f13
      refine h D13 ?_
      have e : D13 = (D13.1, D.2) := Prod.ext rfl (by rw [f13, f12, f11, f10, f9, f8, f7, f6, f5, f4, f3, f2]; exact e2)
      rw [e]
      have u : ∀ c, c ≠ 338 → D13.1 c = D'.1 c := fun c hc => by
        rw [f13, f12, f11, f10, f9, f8, f7, f6, f5, f4, f3, f2, y_uz_cell hc, y_uz_cell hc, y_uz_cell hc, y_uz_cell hc, y_uz_cell hc, y_uz_cell hc, y_uz_cell hc, y_uz_cell hc, y_uz_cell hc, y_uz_cell hc, y_uz_cell hc, y_uz_cell hc]
      refine rf_start hr ht hB (fun c h1 h2 => (u c h2).trans (hf c h1 h2)) (fun i hi => by rw [u 343 (by decide)]; exact hm i hi) (fun i hi => ?_)
      rw [← y_cat0_eq i hi, ← hv i (by omega), f13, f12, f11, f10, f9, f8, f7, f6, f5, f4, f3, f2]
      rfl
    · have k120 : (a < 97 ∨ 122 < a) → ∀ H : Int → z_D → Prop, (∀ D3, (∃ v, v = y_c11 26 a.toNat ∧ D3 = z_uz D' 338 a.toNat v) → H (a + 1) D3) → w_mStart_120 n d a a D' H K T := by
        intro hz H hH
        refine ⟨y_rs (by omega) (by omega), fun c1 => ⟨by omega, fun D3 e3 => hH D3 ⟨12, ?_, e3⟩⟩, fun c1 => ⟨fun c2 => ⟨by omega, fun D3 e3 => hH D3 ⟨12, ?_, e3⟩⟩, fun c2 => ⟨by omega, fun D3 e3 => hH D3 ⟨11, ?_, e3⟩⟩⟩⟩
        · unfold y_c11; rw [if_neg (by omega)]
        · unfold y_c11; rw [if_neg (by omega)]
        · unfold y_c11; rw [if_pos (by omega)]
      refine ⟨fun c1 => k120 (Or.inl c1) _ (fun D3 ⟨v, ev, e3⟩ => step v D3 (by omega) ev e3), fun c1 => ⟨fun c2 => ⟨by omega, fun D3 e3 => step 11 D3 (by omega) ?_ e3⟩, fun c2 => k120 (Or.inr c2) _ (fun D3 ⟨v, ev, e3⟩ => step v D3 (by omega) ev e3)⟩⟩
      unfold y_c11
      rw [if_pos (by omega)]
theorem c_mAgainM {K : z_D → Prop} (hr : y_ref Q S D) (ht : (y_nm S).take 18 = y_cmds) (hB : Q.1.1 336 6 = 0) (h : ∀ D', y_ref ((y_Qt Q 0).1, fun _ => none, []) (y_again S) D' → K D') : z_c n (d + 4) 97 [.ref 336] D (z_qV K T) :=
  r_mAgain (fun D1 e1 => c_mStart (Q := y_Qt Q 0) (by rw [e1]; exact rf_th hr 0) ht hB h)
theorem rf_txt0 (hr : y_ref Q S D) : y_ref Q (y_sl S 0 []) (z_uz D 336 1 0) := by
  have h2 : y_ar (D.1 337) 0 [] := ⟨rfl, fun i hi => (by cases hi)⟩
  exact ⟨y_g1 hr.1 (by decide), h2, hr.2.2.1, hr.2.2.2.1, hr.2.2.2.2.1, hr.2.2.2.2.2.1, hr.2.2.2.2.2.2.1, hr.2.2.2.2.2.2.2.1, hr.2.2.2.2.2.2.2.2.1, hr.2.2.2.2.2.2.2.2.2.1, hr.2.2.2.2.2.2.2.2.2.2.1, hr.2.2.2.2.2.2.2.2.2.2.2.1, hr.2.2.2.2.2.2.2.2.2.2.2.2.1, hr.2.2.2.2.2.2.2.2.2.2.2.2.2.1, hr.2.2.2.2.2.2.2.2.2.2.2.2.2.2.1, hr.2.2.2.2.2.2.2.2.2.2.2.2.2.2.2.1, hr.2.2.2.2.2.2.2.2.2.2.2.2.2.2.2.2.1, hr.2.2.2.2.2.2.2.2.2.2.2.2.2.2.2.2.2.1, hr.2.2.2.2.2.2.2.2.2.2.2.2.2.2.2.2.2.2.1, hr.2.2.2.2.2.2.2.2.2.2.2.2.2.2.2.2.2.2.2.1, hr.2.2.2.2.2.2.2.2.2.2.2.2.2.2.2.2.2.2.2.2.1, hr.2.2.2.2.2.2.2.2.2.2.2.2.2.2.2.2.2.2.2.2.2.1, hr.2.2.2.2.2.2.2.2.2.2.2.2.2.2.2.2.2.2.2.2.2.2⟩
theorem c_mWipeM {K : z_D → Prop} (hr : y_ref Q S D) (ht : (y_nm S).take 18 = y_cmds) (hB : Q.1.1 336 6 = 0) (h : ∀ D', y_ref ((y_Qt Q 0).1, fun _ => none, []) (y_again (y_sl S 0 [])) D' → K D') : z_c n (d + 4) 96 [.ref 336] D (z_qV K T) :=
  r_mWipe (fun D1 e1 D2 e2 => c_mStart (Q := y_Qt Q 0) (S := y_sl S 0 []) (by rw [e2, e1]; exact rf_txt0 (rf_th hr 0)) ht hB h)
end RL
