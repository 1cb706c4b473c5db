/-! contracts of the class: reading, tokens, meanings -/
theorem zr15 {n : Nat} : z_row n 15 (15 + 1) 300 := ⟨rfl, rfl, fun _ => rfl, by decide, by decide⟩
theorem zr17 {n : Nat} : z_row n 17 (17 + 1) 200 := ⟨rfl, rfl, fun _ => rfl, by decide, by decide⟩
theorem zr19 {n : Nat} : z_row n 19 (19 + 1) 12 := ⟨rfl, rfl, fun _ => rfl, by decide, by decide⟩
theorem zr9 {n : Nat} : z_row n 9 (9 + 1) 30 := ⟨rfl, rfl, fun _ => rfl, by decide, by decide⟩
theorem zr11 {n : Nat} : z_row n 11 (11 + 1) 60 := ⟨rfl, rfl, fun _ => rfl, by decide, by decide⟩
theorem zr13 {n : Nat} : z_row n 13 (13 + 1) 60 := ⟨rfl, rfl, fun _ => rfl, by decide, by decide⟩
theorem y_rs {z : Int} (h0 : -1000000 ≤ z) (h : z ≤ 1000000) : z_r z := ⟨by omega, by omega⟩
theorem y_all_code {l : List Int} {a : Int} (h : ∀ x ∈ l, y_code x = true) (ha : y_code a = true) : ∀ x ∈ l ++ [a], y_code x = true := y_all_snoc h ha
theorem y_idx_cons (q x : List Int × Bool) (t : List (List Int × Bool)) (k : Nat) : y_idx q (x :: t) k = if x = q then some k else y_idx q t (k + 1) := rfl
section CG
variable {n d : Nat} {B : y_B} {D : z_D} {tr st : Int} {S : y_S} {T : Nat → z_D → Prop}
theorem c_nFind {q : List Int × Bool} {b : Bool} {K : Int → z_D → Prop} {a1 a3 : Int64} (hc : y_cls B tr S D) (ho : y_ok st S) (hq : y_no q) (e1 : a1 = y_hd q.1) (e3 : a3 = y_tl q)
    (h1 : ∀ k : Nat, y_idx q (y_nm S) 0 = some k → K k D)
    (h2 : y_idx q (y_nm S) 0 = none → b = false → K (-1) D)
    (h3 : y_idx q (y_nm S) 0 = none → b = true → ¬ 118 ≤ (y_nm S).length → ∀ D', y_cls B tr (y_snm S (y_nm S ++ [q])) D' → K ((y_nm S).length) D')
    (h4 : y_idx q (y_nm S) 0 = none → b = true → 118 ≤ (y_nm S).length → K (-1) D) : z_c n (d + 1) 9 [.ref 4, .long a1, .long a3, .int (z_i (z_b b))] D (z_qI K T) := by
  subst e1 e3
  have hn := ho.2.2.2.2.2.2.2.2.2.2.2.2.2.2.2.2.2.2.2.1
  have e4 : D.1 4 3 = ((y_nm S).length : Int) := hc.2.2.2.2.2.2.2.2.2.1.1
  have hn' : (y_nm S).length ≤ 118 := hn.2
  refine r_nFind (fun m x y bb k D' => D' = D ∧ x = y_hd q.1 ∧ y = y_tl q ∧ bb = b ∧ 0 ≤ k ∧ k ≤ (y_nm S).length ∧ m = ((y_nm S).length - k).toNat ∧ y_idx q ((y_nm S).drop k.toNat) k.toNat = y_idx q (y_nm S) 0) ⟨_, rfl, rfl, rfl, rfl, Int.le_refl _, by omega, rfl, rfl⟩ ?_
  rintro mm x y bb k D' ⟨rfl, rfl, rfl, rfl, hk0, hk1, rfl, hi⟩
  have hend : (y_nm S).length ≤ k → w_nFind_55 n d (y_hd q.1) (y_tl q) bb D' K T := by
    intro c
    have hN : y_idx q (y_nm S) 0 = none := by
      rw [← hi, List.drop_eq_nil_of_le (by omega)]
      rfl
    refine ⟨fun cb => h2 hN cb, fun cb => ?_⟩
    rw [e4]
    refine ⟨y_rs (by omega) (by omega), fun c1 => by omega, fun _ => ⟨fun c1 => ⟨⟨by omega, by omega⟩, fun D3 e => ?_⟩, fun c1 => h4 hN cb (by omega)⟩⟩
    subst e
    have e5 : (z_ul D' 5 (Int.toNat ((y_nm S).length : Int)) (y_hd q.1)).1 4 3 = ((y_nm S).length : Int) := e4
    rw [e5]
    refine ⟨⟨by omega, by omega⟩, fun D5 e => ?_⟩
    subst e
    intro D6 e
    have e6 : (z_ul (z_ul D' 5 (Int.toNat ((y_nm S).length : Int)) (y_hd q.1)) 6 (Int.toNat ((y_nm S).length : Int)) (y_tl q)).1 4 3 = ((y_nm S).length : Int) := e4
    rw [e6] at e
    have e7 : D6.1 4 3 = ((y_nm S).length : Int) + 1 := by rw [e]; exact y_uz_same _ _ _ _
    rw [e7, show ((y_nm S).length : Int) + 1 - 1 = ((y_nm S).length : Int) by omega, e]
    exact h3 hN cb (by omega) _ (cl_nm hc q)
  unfold w_nFind_3
  rw [e4]
  refine ⟨y_rs (by omega) (by omega), y_rs (by omega) (by omega), fun c => hend c, fun c => ⟨fun c1 => by omega, fun c1 => ⟨⟨hk0, c1⟩, ?_⟩⟩⟩
  have hkl : k.toNat < (y_nm S).length := by omega
  have hx := hc.2.2.2.2.2.2.2.2.2.2.1 k.toNat _ (List.getElem?_eq_getElem hkl)
  rw [hx.1, hx.2]
  rw [List.drop_eq_getElem_cons hkl] at hi
  rw [y_idx_cons] at hi
  have hgo : ¬ (y_nm S)[k.toNat] = q → ∃ m, m < ((y_nm S).length - k).toNat ∧ D' = D' ∧ y_hd q.1 = y_hd q.1 ∧ y_tl q = y_tl q ∧ bb = bb ∧ 0 ≤ k + 1 ∧ k + 1 ≤ (y_nm S).length ∧ m = ((y_nm S).length - (k + 1)).toNat ∧ y_idx q ((y_nm S).drop (k + 1).toNat) (k + 1).toNat = y_idx q (y_nm S) 0 := by
    intro ne
    rw [if_neg ne] at hi
    refine ⟨_, ?_, rfl, rfl, rfl, rfl, by omega, by omega, rfl, ?_⟩
    · omega
    · rw [show (k + 1).toNat = k.toNat + 1 by omega]; exact hi
  refine ⟨fun c2 => hgo (fun e => c2 (by rw [e, y_cmp0])), fun c2 => ⟨⟨hk0, c1⟩, fun c3 => hgo (fun e => c3 (by rw [e, y_cmp0])), fun c3 => ?_⟩⟩
  have e := y_pk_inj (ho.2.2.2.2.2.2.2.2.2.2.2.2.2.2.2.2.2.2.2.2.1 _ (List.getElem_mem hkl)) hq ((y_cmp0 _ _).mp c2) ((y_cmp0 _ _).mp c3)
  rw [if_pos e] at hi
  have := h1 k.toNat hi.symm
  rw [show ((k.toNat : Nat) : Int) = k by omega] at this
  exact this
/-- the text at the place -/
theorem cl_text (hc : y_cls B tr S D) (ho : y_ok st S) (hp : y_s S 0 < (y_l S 0).length) : D.1 2 (y_s S 0).toNat = y_txt S (y_s S 0) := by
  have := ho.2.2.1.1
  rw [hc.2.2.2.2.2.2.2.1.2 _ (by omega)]
  rfl
theorem cl_catAt (hc : y_cls B tr S D) {c : Int} (h : y_code c = true) : (0 ≤ z_and c 127 ∧ z_and c 127 < 128) ∧ D.1 3 (Int.toNat (z_and c 127)) = y_ct S c := by
  have hr := y_code_r h
  rw [z_and127 (by omega) (by omega)]
  rw [show c % 128 = c by omega]
  refine ⟨by omega, ?_⟩
  rw [hc.2.2.2.2.2.2.2.2.1 _ (by omega)]
  rfl
theorem y_line_10 (g : Nat) (S : y_S) : y_line g 10 S = S := by
  cases g with
  | zero => rfl
  | succ g => unfold y_line; rw [if_pos rfl]
theorem y_line_end {g : Nat} {c : Int} {S : y_S} (h : ¬ y_s S 0 < (y_l S 0).length) : y_line g c S = S := by
  cases g with
  | zero => rfl
  | succ g =>
    unfold y_line
    rw [if_neg h, ite_self]
/-- what is left of a read at the end of a line -/
def y_rest (f : Nat) (k a : Int) (S : y_S) : y_Re Int := if k = 5 ∧ a ≠ 2 then .inl (if a = 0 then 4096 else 2592, y_ss S 1 0) else y_read f (y_ss S 1 0)
theorem c_dRead {K' : Int → y_S → Prop} {T' : y_S → Prop} {K : Int → z_D → Prop} (hc : y_cls B 0 S D) (ho : y_ok st S) (h : y_fin (y_read 161 S) K' T')
    (h1 : ∀ S1 D', y_cls B 0 S1 D' → y_ok st S1 → y_fin (y_rdn S1) K' T' → K (-2) D')
    (h2 : ∀ c S1 D', y_cls B 0 S1 D' → y_ok st S1 → y_code c = true → D'.2.1 1 6 = z_il c → D'.2.1 1 7 = -1 → y_fin (y_find [c] true S1) K' T' → K (-3) D')
    (h3 : ∀ S1 D', y_cls B 8 S1 D' → T' (y_ss S1 3 8) → K (-1) D')
    (h4 : ∀ t S1 D', y_cls B 0 S1 D' → -1 ≤ t → t < 5000 → K' t S1 → K t D') : z_c n (d + 1) 21 [.ref 1] D (z_qI K T) := by
  have ho3 := ho.2.2.1
  refine r_dRead (fun m a D' => ∃ S f, y_cls B 0 S D' ∧ y_ok st S ∧ y_fin (y_read f S) K' T' ∧ (y_l S 0).length - y_s S 0 < f ∧ 0 ≤ a ∧ a ≤ y_s S 0 ∧ m = 2 * ((y_l S 0).length - y_s S 0).toNat)
    (fun m a k b c D' => ∃ S f g, y_cls B 0 S D' ∧ y_ok st S ∧ y_fin (y_rest f k b (y_line g c S)) K' T' ∧ (y_l S 0).length - y_s S 0 < f ∧ ((y_l S 0).length - y_s S 0).toNat ≤ g ∧ 0 ≤ a ∧ a + 1 ≤ y_s S 0 ∧ (k = 5 ∨ k = 14) ∧ (0 ≤ b ∧ b ≤ 2) ∧ y_code c = true ∧ m = 2 * ((y_l S 0).length - y_s S 0).toNat + 1) ?_ ?_ ?_
  · have := ho.1
    exact ⟨_, S, 161, hc, ho, h, by omega, Int.le_refl _, ho3.1, rfl⟩
  · rintro mm a D' ⟨S, f, hc, ho, h, hf, ha, hap, rfl⟩
    have e4 : D'.1 1 4 = y_s S 0 := hc.2.2.2.2.2.2.2.2.2.2.2.2.1
    have e2 : D'.1 1 2 = ((y_l S 0).length : Int) := hc.2.2.2.2.2.2.2.1.1
    have o1 := ho.1
    have o3 := ho.2.2.1
    have hend : ¬ y_s S 0 < (y_l S 0).length → K (-1) D' := by
      intro c
      refine h4 (-1) S D' hc (by omega) (by omega) ?_
      cases f with
      | zero => exact h
      | succ f => unfold y_read at h; rw [if_neg c] at h; exact h
    unfold w_dRead_2
    rw [e4, e2]
    refine ⟨y_rs (by omega) (by omega), fun c => hend (by omega), fun c => ⟨y_rs (by omega) (by omega), fun c1 => by omega, fun _ => ⟨y_rs (by omega) (by omega), fun c1 => hend (by omega), fun c1 => ⟨fun c2 => by omega, fun c2 => ⟨⟨by omega, by omega⟩, fun D5 e5 => ?_⟩⟩⟩⟩⟩
    have hcode := y_txt_code ho c1
    have hct := cl_catAt hc hcode
    rw [cl_text hc ho c1]
    obtain ⟨f, rfl⟩ : ∃ g, f = g + 1 := ⟨f - 1, by omega⟩
    unfold y_read at h
    rw [if_pos c1] at h
    dsimp only at h
    have hk := ho.2.2.2.2.2.2.2.2.2.2.2.2.2.2.2.2.1 (y_txt S (y_s S 0)).toNat
    have ek : D5.1 3 (Int.toNat (z_and (y_txt S (y_s S 0)) 127)) = y_ct S (y_txt S (y_s S 0)) := by rw [e5]; exact hct.2
    rw [ek]
    have hk : 0 ≤ y_ct S (y_txt S (y_s S 0)) ∧ y_ct S (y_txt S (y_s S 0)) ≤ 15 := hk
    have hr := y_code_r hcode
    have hc1 : y_cls B 0 (y_ss S 0 (y_s S 0 + 1)) D5 := by rw [e5]; exact cl_s0 hc _
    have ho1 := yo_on ho c1
    have e3 : D5.1 1 3 = y_s S 1 := hc1.2.2.2.2.2.2.2.2.2.2.2.2.2.1
    rw [e3]
    generalize y_txt S (y_s S 0) = x at *
    generalize y_ct S x = k at *
    have o4 := ho.2.2.2.1
    have ord : k ≠ 0 → k ≠ 5 → k ≠ 14 → k ≠ 9 → k ≠ 10 → k ≠ 13 → k ≠ 15 → ∀ D9, D9 = z_uz D5 1 3 1 → K (x + 256 * k) D9 := by
      intro q0 q5 q14 q9 q10 q13 q15 D9 e9
      rw [if_neg q0, if_neg (by omega), if_neg q9, if_neg q10, if_neg q13, if_neg q15] at h
      exact h4 _ _ D9 (by rw [e9]; exact cl_s1 hc1 1) (by omega) (by omega) h
    have again : y_fin (y_read f (y_ss S 0 (y_s S 0 + 1))) K' T' → ∃ m, m < 2 * ((y_l S 0).length - y_s S 0).toNat ∧ ∃ S f, y_cls B 0 S D5 ∧ y_ok st S ∧ y_fin (y_read f S) K' T' ∧ (y_l S 0).length - y_s S 0 < f ∧ 0 ≤ a + 1 ∧ a + 1 ≤ y_s S 0 ∧ m = 2 * ((y_l S 0).length - y_s S 0).toNat := by
      intro q
      refine ⟨_, ?_, y_ss S 0 (y_s S 0 + 1), f, hc1, ho1, q, ?_, by omega, ?_, rfl⟩
      · show 2 * (((y_l S 0).length : Int) - (y_s S 0 + 1)).toNat < _
        omega
      · show ((y_l S 0).length : Int) - (y_s S 0 + 1) < f
        omega
      · show a + 1 ≤ y_s S 0 + 1
        omega
    have line : (k = 5 ∨ k = 14) → ∃ m, m < 2 * ((y_l S 0).length - y_s S 0).toNat ∧ ∃ S1 f g, y_cls B 0 S1 D5 ∧ y_ok st S1 ∧ y_fin (y_rest f k (y_s S 1) (y_line g x S1)) K' T' ∧ (y_l S1 0).length - y_s S1 0 < f ∧ ((y_l S1 0).length - y_s S1 0).toNat ≤ g ∧ 0 ≤ a ∧ a + 1 ≤ y_s S1 0 ∧ (k = 5 ∨ k = 14) ∧ (0 ≤ y_s S 1 ∧ y_s S 1 ≤ 2) ∧ y_code x = true ∧ m = 2 * ((y_l S1 0).length - y_s S1 0).toNat + 1 := by
      intro q
      rw [if_neg (by omega), if_pos q] at h
      refine ⟨_, ?_, y_ss S 0 (y_s S 0 + 1), f, 160, hc1, ho1, h, ?_, ?_, ha, ?_, q, o4, hcode, rfl⟩
      · show 2 * (((y_l S 0).length : Int) - (y_s S 0 + 1)).toNat + 1 < _
        omega
      · show ((y_l S 0).length : Int) - (y_s S 0 + 1) < f
        omega
      · show (((y_l S 0).length : Int) - (y_s S 0 + 1)).toNat ≤ 160
        omega
      · show a + 1 ≤ y_s S 0 + 1
        omega
    refine ⟨hct.1, y_rs (by omega) (by omega), fun q => ?_, fun q => ord (by omega) (by omega) (by omega) (by omega) (by omega) (by omega) (by omega), fun q => ord (by omega) (by omega) (by omega) (by omega) (by omega) (by omega) (by omega), fun q => ord (by omega) (by omega) (by omega) (by omega) (by omega) (by omega) (by omega), fun q => ord (by omega) (by omega) (by omega) (by omega) (by omega) (by omega) (by omega), fun q => line (by omega), fun q => ord (by omega) (by omega) (by omega) (by omega) (by omega) (by omega) (by omega), fun q => ord (by omega) (by omega) (by omega) (by omega) (by omega) (by omega) (by omega), fun q => ord (by omega) (by omega) (by omega) (by omega) (by omega) (by omega) (by omega), fun q => ?_, fun q => ⟨y_rs (by omega) (by omega), fun q1 => ?_, fun q1 D26 e26 => ?_⟩, fun q => ord (by omega) (by omega) (by omega) (by omega) (by omega) (by omega) (by omega), fun q => ord (by omega) (by omega) (by omega) (by omega) (by omega) (by omega) (by omega), fun q D34 e34 D35 e35 D36 e36 => ?_, fun q => line (by omega), fun q D39 e39 => ?_, fun q0 q1 q2 q3 q4 q5 q6 q7 q8 q9 q10 q11 q12 q13 q14 q15 => by omega⟩
    · rw [if_pos q] at h
      exact h1 _ D5 hc1 ho1 h
    · rw [if_neg (by omega), if_neg (by omega), if_pos q] at h
      exact again h
    · rw [if_neg (by omega), if_neg (by omega), if_neg (by omega), if_pos q, if_neg q1] at h
      exact again h
    · rw [if_neg (by omega), if_neg (by omega), if_neg (by omega), if_pos q, if_pos q1] at h
      exact h4 2592 _ D26 (by rw [e26]; exact cl_s1 hc1 2) (by omega) (by omega) h
    · rw [if_neg (by omega), if_neg (by omega), if_neg (by omega), if_neg (by omega), if_pos q] at h
      refine h2 x _ D36 (by rw [e36, e35, e34]; exact cl_tl (cl_hd (cl_s1 hc1 1) _) _) (y_ok_s1 ho1 (by decide) (by decide)) hcode ?_ ?_ h
      · rw [e36, e35]; rfl
      · rw [e36]; rfl
    · rw [if_neg (by omega), if_neg (by omega), if_neg (by omega), if_neg (by omega), if_neg (by omega), if_pos q] at h
      exact h3 _ D39 (by rw [e39]; exact cl_tr hc1 8) h
  · rintro mm a k b c D' ⟨S, f, g, hc, ho, h, hf, hg, ha, hap, hk, hb, hcode, rfl⟩
    have e4 : D'.1 1 4 = y_s S 0 := hc.2.2.2.2.2.2.2.2.2.2.2.2.1
    have e2 : D'.1 1 2 = ((y_l S 0).length : Int) := hc.2.2.2.2.2.2.2.1.1
    have o1 := ho.1
    have o3 := ho.2.2.1
    have hr := y_code_r hcode
    have fin : y_line g c S = S → w_dRead_216 n d a k b D' (fun a D => ∃ m, m < 2 * ((y_l S 0).length - y_s S 0).toNat + 1 ∧ ∃ S f, y_cls B 0 S D ∧ y_ok st S ∧ y_fin (y_read f S) K' T' ∧ (y_l S 0).length - y_s S 0 < f ∧ 0 ≤ a ∧ a ≤ y_s S 0 ∧ m = 2 * ((y_l S 0).length - y_s S 0).toNat) K T := by
      intro el D1 e1
      rw [el] at h
      unfold y_rest at h
      have hc1 : y_cls B 0 (y_ss S 1 0) D1 := by rw [e1]; exact cl_s1 hc 0
      have ho1 := y_ok_s1 ho (v := 0) (by decide) (by decide)
      have again : y_fin (y_read f (y_ss S 1 0)) K' T' → ∃ m, m < 2 * ((y_l S 0).length - y_s S 0).toNat + 1 ∧ ∃ S f, y_cls B 0 S D1 ∧ y_ok st S ∧ y_fin (y_read f S) K' T' ∧ (y_l S 0).length - y_s S 0 < f ∧ 0 ≤ a + 1 ∧ a + 1 ≤ y_s S 0 ∧ m = 2 * ((y_l S 0).length - y_s S 0).toNat := fun q => ⟨_, Nat.lt_succ_self _, _, f, hc1, ho1, q, hf, by omega, hap, rfl⟩
      refine ⟨y_rs (by omega) (by omega), fun q => ?_, fun q => ⟨y_rs (by omega) (by omega), fun q1 => ?_, fun q1 => ⟨fun q2 => ?_, fun q2 => ?_⟩⟩⟩
      · rw [if_neg (by omega)] at h; exact again h
      · rw [if_neg (by omega)] at h; exact again h
      · rw [if_pos ⟨q, q1⟩, if_neg q2] at h; exact h4 _ _ D1 hc1 (by omega) (by omega) h
      · rw [if_pos ⟨q, q1⟩, if_pos q2] at h; exact h4 _ _ D1 hc1 (by omega) (by omega) h
    unfold w_dRead_162
    rw [e4, e2]
    refine ⟨y_rs (by omega) (by omega), fun q => fin (by rw [q]; exact y_line_10 g S), fun q => ⟨y_rs (by omega) (by omega), y_rs (by omega) (by omega), fun q1 => fin (y_line_end (by omega)), fun q1 => ⟨fun q2 => by omega, fun q2 => ⟨⟨by omega, by omega⟩, fun D5 e5 => ?_⟩⟩⟩⟩
    rw [cl_text hc ho q1]
    obtain ⟨g, rfl⟩ : ∃ g', g = g' + 1 := ⟨g - 1, by omega⟩
    unfold y_line at h
    rw [if_neg q, if_pos q1] at h
    refine ⟨_, ?_, y_ss S 0 (y_s S 0 + 1), f, g, by rw [e5]; exact cl_s0 hc _, yo_on ho q1, h, ?_, ?_, ha, ?_, hk, hb, y_txt_code ho q1, rfl⟩
    · show 2 * (((y_l S 0).length : Int) - (y_s S 0 + 1)).toNat + 1 < _
      omega
    · show ((y_l S 0).length : Int) - (y_s S 0 + 1) < f
      omega
    · show (((y_l S 0).length : Int) - (y_s S 0 + 1)).toNat ≤ g
      omega
    · show a + 1 ≤ y_s S 0 + 1
      omega
theorem c_dReadName {K' : Int → y_S → Prop} {T' : y_S → Prop} {K : Int → z_D → Prop} (hc : y_cls B 0 S D) (ho : y_ok st S) (h : y_fin (y_rdn S) K' T')
    (h1 : ∀ ls S1 D', y_cls B 0 S1 D' → y_ok st S1 → y_no (ls, false) → D'.2.1 1 6 = y_hd ls → D'.2.1 1 7 = y_tl (ls, false) → y_fin (y_find ls false S1) K' T' → K (-3) D')
    (h2 : ∀ k S1 D', y_cls B k S1 D' → 1 ≤ k → k ≤ 8 → T' (y_ss S1 3 k) → K (-1) D') : z_c n (d + 1) 22 [.ref 1] D (z_qI K T) := by
  have e4 : D.1 1 4 = y_s S 0 := hc.2.2.2.2.2.2.2.2.2.2.2.2.1
  have e2 : D.1 1 2 = ((y_l S 0).length : Int) := hc.2.2.2.2.2.2.2.1.1
  have o1 := ho.1
  have o3 := ho.2.2.1
  refine r_dReadName (fun m a D' => ∃ S f ls, y_cls B 0 S D' ∧ y_ok st S ∧ y_no (ls, false) ∧ D'.2.1 1 6 = y_hd ls ∧ D'.2.1 1 7 = y_tl (ls, false) ∧ y_fin (y_let f ls S) K' T' ∧ a = ls.length ∧ ((y_l S 0).length - y_s S 0).toNat ≤ f ∧ m = ((y_l S 0).length - y_s S 0).toNat) ?_ ?_
  · unfold w_dReadName_0
    unfold y_rdn at h
    rw [e4, e2]
    refine ⟨y_rs (by omega) (by omega), fun q => by omega, fun _ => ⟨y_rs (by omega) (by omega), fun q D4 e => ?_, fun q => ⟨fun q1 => ⟨⟨by omega, by omega⟩, fun D6 e6 D7 e7 => ?_⟩, fun q1 => by omega⟩⟩⟩
    · rw [if_neg (by omega)] at h
      exact h2 3 S D4 (by rw [e]; exact cl_tr hc 3) (by decide) (by decide) h
    · rw [if_pos q] at h
      dsimp only at h
      have hcode := y_txt_code ho q
      have hr := y_code_r hcode
      have htx := cl_text hc ho q
      rw [htx] at e6
      have hc7 : y_cls B 0 S D7 := by rw [e7, e6]; exact cl_tl (cl_hd hc _) _
      have hct := cl_catAt hc7 hcode
      have e74 : D7.1 1 4 = y_s S 0 := hc7.2.2.2.2.2.2.2.2.2.2.2.2.1
      rw [e74, cl_text hc7 ho q, hct.2]
      have e67 : D7.2.1 1 6 = z_il (y_txt S (y_s S 0)) := by rw [e7, e6]; rfl
      have e77 : D7.2.1 1 7 = 0 := by rw [e7]; rfl
      have hk : 0 ≤ y_ct S (y_txt S (y_s S 0)) ∧ y_ct S (y_txt S (y_s S 0)) ≤ 15 := ho.2.2.2.2.2.2.2.2.2.2.2.2.2.2.2.2.1 _
      refine ⟨⟨by omega, by omega⟩, hct.1, fun D10 e10 => ?_⟩
      have hc10 : y_cls B 0 (y_ss S 0 (y_s S 0 + 1)) D10 := by rw [e10]; exact cl_s0 hc7 _
      have ho1 := yo_on ho q
      have hl : D10.2.1 1 6 = y_hd [y_txt S (y_s S 0)] ∧ D10.2.1 1 7 = y_tl ([y_txt S (y_s S 0)], false) := by
        rw [← y_hd1 (by omega) (by omega), ← y_tl1 (by omega) (by omega), e10]
        exact ⟨e67, e77⟩
      have go : ∀ s1 : Int, 0 ≤ s1 → s1 ≤ 2 → y_fin (if y_ct S (y_txt S (y_s S 0)) = 11 then y_let 160 [y_txt S (y_s S 0)] (y_ss (y_ss S 0 (y_s S 0 + 1)) 1 s1) else y_find [y_txt S (y_s S 0)] false (y_ss (y_ss S 0 (y_s S 0 + 1)) 1 s1)) K' T' → w_dReadName_102 n d (y_ct S (y_txt S (y_s S 0))) s1 D10 (fun a D' => ∃ m, ∃ S f ls, y_cls B 0 S D' ∧ y_ok st S ∧ y_no (ls, false) ∧ D'.2.1 1 6 = y_hd ls ∧ D'.2.1 1 7 = y_tl (ls, false) ∧ y_fin (y_let f ls S) K' T' ∧ a = ls.length ∧ ((y_l S 0).length - y_s S 0).toNat ≤ f ∧ m = ((y_l S 0).length - y_s S 0).toNat) K T := by
        intro s1 s10 s12 hh D1 e1
        have hcd : y_cls B 0 (y_ss (y_ss S 0 (y_s S 0 + 1)) 1 s1) D1 := by rw [e1]; exact cl_s1 hc10 s1
        have hod := y_ok_s1 ho1 s10 s12
        have hld : D1.2.1 1 6 = y_hd [y_txt S (y_s S 0)] ∧ D1.2.1 1 7 = y_tl ([y_txt S (y_s S 0)], false) := by rw [e1]; exact hl
        refine ⟨y_rs (by omega) (by omega), fun q2 => ?_, fun q2 => ?_⟩
        · rw [if_pos q2] at hh
          refine ⟨_, _, 160, _, hcd, hod, y_no1 hcode, hld.1, hld.2, hh, rfl, ?_, rfl⟩
          show (((y_l S 0).length : Int) - (y_s S 0 + 1)).toNat ≤ 160
          omega
        · rw [if_neg q2] at hh
          exact h1 _ _ D1 hcd hod (y_no1 hcode) hld.1 hld.2 hh
      refine ⟨y_rs (by omega) (by omega), fun q2 => ?_, fun q2 => ⟨fun q3 => ?_, fun q3 => ?_⟩⟩
      · rw [if_pos (Or.inl q2)] at h
        exact go 2 (by decide) (by decide) h
      · rw [if_neg (fun w : y_ct S (y_txt S (y_s S 0)) = 11 ∨ y_ct S (y_txt S (y_s S 0)) = 10 => w.elim q2 q3)] at h
        exact go 1 (by decide) (by decide) h
      · rw [if_pos (Or.inr q3)] at h
        exact go 2 (by decide) (by decide) h
  · rintro mm a D' ⟨S, f, ls, hc, ho, hno, hl6, hl7, h, rfl, hf, rfl⟩
    have e4 : D'.1 1 4 = y_s S 0 := hc.2.2.2.2.2.2.2.2.2.2.2.2.1
    have e2 : D'.1 1 2 = ((y_l S 0).length : Int) := hc.2.2.2.2.2.2.2.1.1
    have o1 := ho.1
    have o3 := ho.2.2.1
    have hend : y_fin (y_find ls false S) K' T' → K (-3) D' := h1 ls S D' hc ho hno hl6 hl7
    unfold w_dReadName_116
    rw [e4, e2]
    refine ⟨y_rs (by omega) (by omega), y_rs (by omega) (by omega), fun q => ?_, fun q => ⟨fun q1 => by omega, fun q1 => ⟨⟨by omega, by omega⟩, ?_⟩⟩⟩
    · cases f with
      | zero => exact hend h
      | succ f => unfold y_let at h; rw [if_neg (by omega)] at h; exact hend h
    · have hcode := y_txt_code ho q
      have hr := y_code_r hcode
      have hct := cl_catAt hc hcode
      obtain ⟨f, rfl⟩ : ∃ g', f = g' + 1 := ⟨f - 1, by omega⟩
      unfold y_let at h
      rw [if_pos q] at h
      rw [cl_text hc ho q, hct.2]
      have hk : 0 ≤ y_ct S (y_txt S (y_s S 0)) ∧ y_ct S (y_txt S (y_s S 0)) ≤ 15 := ho.2.2.2.2.2.2.2.2.2.2.2.2.2.2.2.2.1 _
      have hno2 : ls.length ≤ 11 := hno.2.1
      refine ⟨hct.1, y_rs (by omega) (by omega), fun q2 D6 e6 => ⟨y_rs (by omega) (by omega), fun q3 D8 e8 D9 e9 => ?_, fun q3 D10 e10 => ?_⟩, fun q2 => ?_⟩
      · rw [if_pos q2, if_neg (by omega)] at h
        have hc6 : y_cls B 0 (y_ss S 0 (y_s S 0 + 1)) D6 := by rw [e6]; exact cl_s0 hc _
        have l6 : D6.2.1 1 6 = y_hd ls := by rw [e6]; exact hl6
        have l7 : D6.2.1 1 7 = y_tl (ls, false) := by rw [e6]; exact hl7
        rw [l6, l7, y_tl_snoc ls (c := y_txt S (y_s S 0)) (by omega) (by omega)] at e8
        have l8 : D8.2.1 1 6 = y_hd ls := by rw [e8]; exact l6
        rw [l8, y_hd_snoc ls (by omega) (by omega)] at e9
        refine ⟨_, ?_, y_ss S 0 (y_s S 0 + 1), f, ls ++ [y_txt S (y_s S 0)], by rw [e9, e8]; exact cl_hd (cl_tl hc6 _) _, yo_on ho q, ⟨by simp, by simp; omega, y_all_code hno.2.2.1 hcode, fun z => (by cases z)⟩, by rw [e9]; rfl, by rw [e9, e8]; rfl, h, by simp, ?_, rfl⟩
        · show (((y_l S 0).length : Int) - (y_s S 0 + 1)).toNat < _
          omega
        · show (((y_l S 0).length : Int) - (y_s S 0 + 1)).toNat ≤ f
          omega
      · rw [if_pos q2, if_pos (by omega)] at h
        exact h2 5 _ D10 (by rw [e10, e6]; exact cl_tr (cl_s0 hc _) 5) (by decide) (by decide) h
      · rw [if_neg q2] at h
        exact hend h
theorem c_get {b : Bool} {K : Int → z_D → Prop} (hc : y_cls B 0 S D) (ho : y_ok st S) (h : y_fin (y_get b S) (fun t S' => ∀ D', y_cls B 0 S' D' → K t D') (y_cT B.1 T)) : z_c n (d + 2) 61 [.ref 0, .int (z_i (z_b b))] D (z_qI K T) := by
  have o5 := ho.2.2.2.2.1
  refine r_tGet (c_rSize zr15 hc.2.1 ⟨y_rs (by omega) (by omega), fun q => ?_, fun q => ?_⟩)
  · have en : y_l S 1 = [] := List.eq_nil_of_length_eq_zero (by omega)
    unfold y_get at h
    rw [en] at h
    dsimp only [List.getLast?_nil] at h
    have hfb : y_fin (y_read 161 S) (fun t S1 => y_fin (if t = -1 ∧ b = true then y_ft S1 3 else .inl (t, S1)) (fun t S' => ∀ D', y_cls B 0 S' D' → K t D') (y_cT B.1 T)) (y_cT B.1 T) := by
      cases hr : y_read 161 S with
      | inl q => rw [hr] at h; exact h
      | inr q => rw [hr] at h; exact h
    -- behind a name
    have named : ∀ (q : List Int × Bool) (S1 : y_S) (D' : z_D), y_cls B 0 S1 D' → y_ok st S1 → y_no q → D'.2.1 1 6 = y_hd q.1 → D'.2.1 1 7 = y_tl q → y_fin (y_find q.1 q.2 S1) (fun t S1 => y_fin (if t = -1 ∧ b = true then y_ft S1 3 else .inl (t, S1)) (fun t S' => ∀ D', y_cls B 0 S' D' → K t D') (y_cT B.1 T)) (y_cT B.1 T) → w_tGet_40 n (d + 1) b (-3) D' K T := by
      intro q S1 D' hc1 ho1 hq l6 l7 hf
      have e5 : D'.1 1 5 = 0 := hc1.2.2.2.2.2.2.2.2.2.2.2.2.2.2.2.2.2.2.1
      have on : (y_nm S1).length ≤ 118 := ho1.2.2.2.2.2.2.2.2.2.2.2.2.2.2.2.2.2.2.2.1.2
      unfold w_tGet_40
      rw [e5, l6, l7]
      refine ⟨y_rs (by omega) (by omega), fun _ => ⟨y_rs (by omega) (by omega), fun z => absurd rfl z, fun _ => ?_⟩, fun z => absurd rfl z⟩
      unfold y_find at hf
      refine c_nFind hc1 ho1 hq rfl rfl (fun k e => ?_) (fun e z => by cases z) (fun e _ c D2 hc2 => ?_) (fun e _ c => ?_)
      · rw [e] at hf
        have := y_idx_some e
        have hf : y_fin (if (4096 + (k : Int)) = -1 ∧ b = true then y_ft S1 3 else .inl (4096 + (k : Int), S1)) (fun t S' => ∀ D', y_cls B 0 S' D' → K t D') (y_cT B.1 T) := hf
        rw [if_neg (by omega)] at hf
        exact ⟨y_rs (by omega) (by omega), fun _ => hf D' hc1, fun z => by omega⟩
      · rw [e] at hf
        dsimp only at hf
        rw [if_neg c] at hf
        have hf : y_fin (if (4096 + ((y_nm S1).length : Int)) = -1 ∧ b = true then y_ft (y_snm S1 (y_nm S1 ++ [q])) 3 else .inl (4096 + ((y_nm S1).length : Int), y_snm S1 (y_nm S1 ++ [q]))) (fun t S' => ∀ D', y_cls B 0 S' D' → K t D') (y_cT B.1 T) := hf
        rw [if_neg (by omega)] at hf
        exact ⟨y_rs (by omega) (by omega), fun _ => hf D2 hc2, fun z => by omega⟩
      · rw [e] at hf
        dsimp only at hf
        rw [if_pos c] at hf
        exact ⟨y_rs (by omega) (by omega), fun z => absurd rfl z, fun _ => c_fault hc1 hf⟩
    -- behind trouble
    have trouble : ∀ (k : Int) (v : Int) (S1 : y_S) (D' : z_D), y_cls B k S1 D' → 1 ≤ k → k ≤ 8 → y_cT B.1 T (y_ss S1 3 k) → w_tGet_40 n (d + 1) b v D' K T := by
      intro k v S1 D' hc1 k1 k8 hT
      have e5 : D'.1 1 5 = k := hc1.2.2.2.2.2.2.2.2.2.2.2.2.2.2.2.2.2.2.1
      unfold w_tGet_40
      rw [e5]
      exact ⟨y_rs (by omega) (by omega), fun z => by omega, fun _ => c_fault hc1 hT⟩
    refine c_dRead hc ho hfb (fun S1 D' hc1 ho1 hf => ⟨y_rs (by omega) (by omega), fun z => absurd rfl z, fun _ => ?_⟩) (fun c S1 D' hc1 ho1 hcode l6 l7 hf => ⟨y_rs (by omega) (by omega), fun _ => ?_, fun z => by omega⟩) (fun S1 D' hc1 hT => ⟨y_rs (by omega) (by omega), fun _ => trouble 8 _ S1 D' hc1 (by decide) (by decide) hT, fun z => by omega⟩) (fun t S1 D' hc1 t0 t1 hf => ⟨y_rs (by omega) (by omega), fun _ => ?_, fun z => by omega⟩)
    · exact c_dReadName hc1 ho1 hf (fun ls S2 D2 hc2 ho2 hno l6 l7 hf2 => named (ls, false) S2 D2 hc2 ho2 hno l6 l7 hf2) (fun k S2 D2 hc2 k1 k8 hT => trouble k _ S2 D2 hc2 k1 k8 hT)
    · have hr := y_code_r hcode
      exact named ([c], true) S1 D' hc1 ho1 (y_no1 hcode) (by rw [l6]; exact y_hd1 (by omega) (by omega)) (by rw [l7]; rfl) hf
    · have e5 : D'.1 1 5 = 0 := hc1.2.2.2.2.2.2.2.2.2.2.2.2.2.2.2.2.2.2.1
      unfold w_tGet_40
      rw [e5]
      refine ⟨y_rs (by omega) (by omega), fun _ => ⟨y_rs (by omega) (by omega), fun z => ⟨fun z1 => ?_, fun z1 => ⟨fun z2 => ?_, fun z2 => ?_⟩⟩, fun z => by omega⟩, fun z => absurd rfl z⟩
      · rw [if_neg (fun w => z1 w.1)] at hf
        exact hf D' hc1
      · rw [if_neg (fun w => by rw [z2] at w; cases w.2)] at hf
        exact hf D' hc1
      · rw [if_pos ⟨z1, z2⟩] at hf
        exact c_fault hc1 hf
  · refine c_rTakeLast zr15 hc.2.1 o5 (fun e => by rw [e] at q; simp at q) (fun t a e hr => ?_)
    unfold y_get at h
    rw [e] at h
    simp only [List.getLast?_append, List.getLast?_singleton, Option.some_or, List.dropLast_concat] at h
    refine h _ ?_
    have := cl_cut1 hc (m := t.length) (by rw [e]; simp)
    rw [e, List.take_left'] at this
    · exact this
    · rfl
end CG
