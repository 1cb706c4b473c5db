/-! contracts of the class: an argument is taken, a body put back -/
section CT
variable {n d : Nat} {B : y_B} {D : z_D} {tr st : Int} {S : y_S} {T : Nat → z_D → Prop}
/-- arguments known, one of them new -/
abbrev y_Bp (B : y_B) (p : Nat) (l : List Int) : y_B := (B.1, am_u1 B.2 p (some l))
theorem y_Bp_at (B : y_B) (p : Nat) (l : List Int) : (y_Bp B p l).2 p = some l := by
  show am_u1 B.2 p (some l) p = _
  unfold am_u1
  rw [if_pos rfl]
theorem y_Bp2 (B : y_B) (p : Nat) (l m : List Int) : y_Bp (y_Bp B p l) p m = y_Bp B p m := by
  show (B.1, am_u1 (am_u1 B.2 p (some l)) p (some m)) = _
  refine Prod.ext rfl ?_
  funext i
  by_cases e : i = p <;> simp [am_u1, e]
theorem y_par_mem {l : List Int} {a b : Nat} (hab : a ≤ b) (hb : b ≤ l.length) : (∃ k : Int, (a : Int) ≤ k ∧ k < b ∧ y_at l k = 4096) ↔ (4096 : Int) ∈ (l.take b).drop a := by
  rw [← y_at_mem (by decide)]
  constructor
  · rintro ⟨k, h1, h2, h3⟩
    refine ⟨k, h1, by rw [List.length_take]; omega, ?_⟩
    unfold y_at at h3 ⊢
    rw [if_pos (by omega)] at h3 ⊢
    rw [List.getElem?_take_of_lt (by omega)]
    exact h3
  · rintro ⟨k, h1, h2, h3⟩
    rw [List.length_take] at h2
    refine ⟨k, h1, by omega, ?_⟩
    unfold y_at at h3 ⊢
    rw [if_pos (by omega)] at h3 ⊢
    rw [List.getElem?_take_of_lt (by omega)] at h3
    exact h3
theorem y_tp_bs {m : Nat} {l : List Int} (h : ∀ x ∈ l, y_tp m x) : ∀ x ∈ l, x ≠ -1 := fun x hx e => by
  subst e
  rcases h _ hx with z | z
  · have := z.1; omega
  · omega
theorem c_take {i k p : Nat} {q : List Int × List Int × Int} {K : Int → z_D → Prop} (hc : y_cls B 0 S D) (ho : y_ok st S) (hi : i < 60) (hq : (y_mac S)[i]? = some q) (hk : k < q.1.length) (hp : p < 4) (h : y_fin (y_take ((q.1.take (y_nxt q.1 (k + 1))).drop (k + 1)) S) (fun l S' => ∀ D', y_cls (y_Bp B p l) 0 S' D' → K (y_nxt q.1 (k + 1)) D') (y_cT B.1 T)) : z_c n (d + 4) 81 [.ref 0, .ref (B.1.2.2 i + 1), .int (z_i (k : Int)), .ref (22 + 2 * p)] D (z_qI K T) := by
  have hkm := ho.2.2.2.2.2.2.2.2.2.2.2.2.2.2.2.2.2.2.2.2.2.2.1 q (List.mem_of_getElem? hq)
  have hrl := y_rl_tx hkm.1.2.2.1 hkm.2.2.2 ho.2.2.2.2.2.2.2.2.2.2.2.2.2.2.2.2.2.2.2.1.2
  have hl := hkm.1.1
  obtain ⟨m1, m2, _, _⟩ := cl_mac hc hi hq
  have hnx := y_nxt_r (l := q.1) (k := k + 1) (by omega)
  generalize htn : y_nxt q.1 (k + 1) = to at *
  have hdl : ((q.1.take to).drop (k + 1)).length = to - (k + 1) := by rw [List.length_drop, List.length_take]; omega
  have hbs : ∀ x ∈ (q.1.take to).drop (k + 1), y_bs x = 0 := fun x hx => hkm.1.2.2.2 x (List.mem_of_mem_take (List.mem_of_mem_drop hx))
  generalize hdle : (q.1.take to).drop (k + 1) = dl at *
  have hz0 : dl = [] ↔ k + 1 = to := by
    constructor
    · intro e; rw [e] at hdl; simp at hdl; omega
    · intro e; exact List.eq_nil_of_length_eq_zero (by omega)
  refine r_tTakeArgument
    (fun m a4 a5 b6 a7 a8 D' => a4 = ((k + 1 : Nat) : Int) ∧ a5 = (to : Int) ∧ b6 = decide ((4096 : Int) ∈ dl) ∧ 0 ≤ a8 ∧ a8 ≤ 1000 ∧ m = (3000 - a8).toNat ∧ ∃ S1, y_cls (y_Bp B p []) 0 S1 D' ∧ y_ok st S1 ∧ y_mac S1 = y_mac S ∧ y_tk (y_nn S1) a7 ∧ y_fin (y_bd (if dl = [] then y_blank (1000 - a8).toNat a7 S1 else .inl (a7, S1)) (fun t S2 => y_arg dl (decide ((4096 : Int) ∈ dl)) 40 [] 0 t S2)) (fun l S' => ∀ D', y_cls (y_Bp B p l) 0 S' D' → K to D') (y_cT B.1 T))
    (fun m a4 a5 b6 a7 a8 a9 D' => a4 = ((k + 1 : Nat) : Int) ∧ a5 = (to : Int) ∧ b6 = decide ((4096 : Int) ∈ dl) ∧ ∃ S1 acc, y_cls (y_Bp B p acc) 0 S1 D' ∧ y_ok st S1 ∧ y_mac S1 = y_mac S ∧ y_tk (y_nn S1) a7 ∧ a9 = (acc.length : Int) + 1 ∧ acc.length ≤ 40 ∧ a8 = y_sum acc ∧ 0 ≤ a8 ∧ a8 ≤ acc.length ∧ (∀ x ∈ acc, y_tp (y_nn S1) x) ∧ m = 41 - acc.length ∧ y_fin (y_arg dl (decide ((4096 : Int) ∈ dl)) (40 - acc.length) acc a8 a7 S1) (fun l S' => ∀ D', y_cls (y_Bp B p l) 0 S' D' → K to D') (y_cT B.1 T))
    ⟨z_sh_m (i := 1) m1 (by decide), ?_⟩ ?_ ?_
  · -- the entry
    have e1 : (k : Int) + 1 = ((k + 1 : Nat) : Int) := by omega
    rw [e1]
    refine c_rNextParameter (z_row_mt m1) m2 hl hrl (by omega) (fun v v0 v1 v2 v3 => ?_)
    have ev := y_nxt_eq v0 v1 v2 v3
    rw [htn] at ev
    subst ev
    refine c_rHolds (z_row_mt m1) m2 hl hrl (z_rk rfl) (by decide) (y_rs (by omega) (by omega)) (y_rs (by omega) (by omega)) (fun b hb => ?_)
    have eb : b = decide ((4096 : Int) ∈ dl) := by
      have hb2 : b = true ↔ (4096 : Int) ∈ dl := by rw [hb, ← hdle]; exact y_par_mem (by omega) (by omega)
      cases b with
      | true => exact (decide_eq_true (hb2.mp rfl)).symm
      | false => exact (decide_eq_false (fun z => by have := hb2.mpr z; cases this)).symm
    subst eb
    refine ⟨(z_row_p hp).1, ?_⟩
    obtain ⟨a1, a2, a3, a4, a5, a6, a7, a8, a9⟩ := hc.2.2.2.2.2.2.2.2.2.2.2.2.2.2.2.2.2.2.2.1
    obtain ⟨x, r1, r2, r3⟩ := a9 p hp
    have go : ∀ D', y_cls (y_Bp B p []) 0 S D' → z_c n (d + 3) 61 [.ref 0, .int (z_i (z_b true))] D' (z_qI (fun v9 D8 => ∃ m, ((k + 1 : Nat) : Int) = ((k + 1 : Nat) : Int) ∧ (to : Int) = (to : Int) ∧ decide ((4096 : Int) ∈ dl) = decide ((4096 : Int) ∈ dl) ∧ (0 : Int) ≤ 0 ∧ (0 : Int) ≤ 1000 ∧ m = ((3000 : Int) - 0).toNat ∧ ∃ S1, y_cls (y_Bp B p []) 0 S1 D8 ∧ y_ok st S1 ∧ y_mac S1 = y_mac S ∧ y_tk (y_nn S1) v9 ∧ y_fin (y_bd (if dl = [] then y_blank ((1000 : Int) - 0).toNat v9 S1 else .inl (v9, S1)) (fun t S2 => y_arg dl (decide ((4096 : Int) ∈ dl)) 40 [] 0 t S2)) (fun l S' => ∀ D', y_cls (y_Bp B p l) 0 S' D' → K to D') (y_cT B.1 T)) T) := by
      intro D' hc'
      exact c_get hc' ho (y_gk (yo_getT ho) h (fun t S1 ⟨b1, b2, b3, _⟩ h D8 hc8 => ⟨_, rfl, rfl, rfl, by decide, by decide, rfl, S1, hc8, b1, b2.2.1, b3, h⟩))
    refine c_rCut0 (z_row_p hp) r1 r2 (fun e => go D (cl_arg hc hp (fun c _ _ => rfl) (by rw [e] at r1; exact r1) (by simp))) (fun e => go _ (cl_arg hc hp (fun c c1 _ => y_uz_cell c1) (by have := y_row_cut r1 (m := 0) (by omega); exact this) (by simp)))
  · rintro mm a4 a5 b6 a7 a8 D' ⟨rfl, rfl, rfl, z0, z1, rfl, S1, hc1, ho1, hm1, ht1, h⟩
    have hr := y_tk_r ht1 ho1.2.2.2.2.2.2.2.2.2.2.2.2.2.2.2.2.2.2.2.1.2
    have inner : y_fin (y_arg dl (decide ((4096 : Int) ∈ dl)) 40 [] 0 a7 S1) (fun l S' => ∀ D', y_cls (y_Bp B p l) 0 S' D' → K to D') (y_cT B.1 T) → ∃ m, m < (3000 - a8).toNat ∧ ((k + 1 : Nat) : Int) = ((k + 1 : Nat) : Int) ∧ (to : Int) = (to : Int) ∧ decide ((4096 : Int) ∈ dl) = decide ((4096 : Int) ∈ dl) ∧ ∃ S1 acc, y_cls (y_Bp B p acc) 0 S1 D' ∧ y_ok st S1 ∧ y_mac S1 = y_mac S ∧ y_tk (y_nn S1) a7 ∧ (1 : Int) = (acc.length : Int) + 1 ∧ acc.length ≤ 40 ∧ (0 : Int) = y_sum acc ∧ (0 : Int) ≤ 0 ∧ (0 : Int) ≤ acc.length ∧ (∀ x ∈ acc, y_tp (y_nn S1) x) ∧ m = 41 - acc.length ∧ y_fin (y_arg dl (decide ((4096 : Int) ∈ dl)) (40 - acc.length) acc 0 a7 S1) (fun l S' => ∀ D', y_cls (y_Bp B p l) 0 S' D' → K to D') (y_cT B.1 T) := by
      intro hh
      exact ⟨41, by omega, rfl, rfl, rfl, S1, [], hc1, ho1, hm1, ht1, by simp, by simp, rfl, Int.le_refl _, by simp, fun x hx => (by cases hx), by simp, hh⟩
    refine ⟨y_rs (by omega) (by omega), y_rs (by omega) (by omega), fun c => ?_, fun c => ⟨y_rs (by omega) (by omega), fun c1 => ?_, fun c1 => ⟨y_rs (by omega) (by omega), fun c2 => ?_, fun c2 => ?_⟩⟩⟩
    · rw [if_neg (fun e => c (by have := hz0.mp e; omega))] at h
      exact inner h
    · rw [if_pos (hz0.mpr (by omega))] at h
      refine inner ?_
      cases hf : (1000 - a8).toNat with
      | zero => rw [hf] at h; exact h
      | succ f => rw [hf] at h; unfold y_blank at h; rw [if_neg c1] at h; exact h
    · rw [if_pos (hz0.mpr (by omega)), show (1000 - a8).toNat = 0 by omega] at h
      exact inner h
    · rw [if_pos (hz0.mpr (by omega)), show (1000 - a8).toNat = (1000 - (a8 + 1)).toNat + 1 by omega] at h
      unfold y_blank at h
      rw [if_pos c1] at h
      have h' : y_fin (y_bd (y_get true S1) (fun u S2 => y_bd (y_blank (1000 - (a8 + 1)).toNat u S2) (fun t S2 => y_arg dl (decide ((4096 : Int) ∈ dl)) 40 [] 0 t S2))) (fun l S' => ∀ D', y_cls (y_Bp B p l) 0 S' D' → K to D') (y_cT B.1 T) := by
        cases hg : y_get true S1 with
        | inl q => rw [hg] at h; exact h
        | inr q => rw [hg] at h; exact h
      refine c_get hc1 ho1 (y_gk (yo_getT ho1) h' (fun t S2 ⟨b1, b2, b3, _⟩ h D8 hc8 => ⟨_, ?_, rfl, rfl, rfl, by omega, by omega, rfl, S2, hc8, b1, b2.2.1.trans hm1, b3, ?_⟩))
      · omega
      · rw [if_pos (hz0.mpr (by omega))]; exact h
  · rintro mm a4 a5 b6 a7 a8 a9 D' ⟨rfl, rfl, rfl, S1, acc, hc1, ho1, hm1, ht1, rfl, hal, rfl, s0, s1, hat, rfl, h⟩
    have hr := y_tk_r ht1 ho1.2.2.2.2.2.2.2.2.2.2.2.2.2.2.2.2.2.2.2.1.2
    have hut := y_un_tp ht1 ho1.2.2.2.2.2.2.2.2.2.2.2.2.2.2.2.2.2.2.2.1.2
    have hur := y_tp_r hut ho1.2.2.2.2.2.2.2.2.2.2.2.2.2.2.2.2.2.2.2.1.2
    refine ⟨y_rs (by omega) (by omega), fun c => ?_, fun c => ?_⟩
    · rw [show 40 - acc.length = 0 by omega] at h
      exact c_fault hc1 h
    · obtain ⟨f, hf⟩ : ∃ f, 40 - acc.length = f + 1 := ⟨39 - acc.length, by omega⟩
      rw [hf] at h
      unfold y_arg at h
      dsimp only at h
      have hbr := y_bs_r (y_un a7)
      have rest : ¬ (y_un a7 = 4096 ∧ decide ((4096 : Int) ∈ dl) = false) → w_tTakeArgument_117 n (d + 3) (B.1.2.2 i + 1) (22 + 2 * p) ((k + 1 : Nat) : Int) (to : Int) (decide ((4096 : Int) ∈ dl)) (y_un a7) (y_sum acc) ((acc.length : Int) + 1) D' (fun a4 a5 b6 a7 a8 a9 D' => ∃ m, m < 41 - acc.length ∧ a4 = ((k + 1 : Nat) : Int) ∧ a5 = (to : Int) ∧ b6 = decide ((4096 : Int) ∈ dl) ∧ ∃ S1 acc, y_cls (y_Bp B p acc) 0 S1 D' ∧ y_ok st S1 ∧ y_mac S1 = y_mac S ∧ y_tk (y_nn S1) a7 ∧ a9 = (acc.length : Int) + 1 ∧ acc.length ≤ 40 ∧ a8 = y_sum acc ∧ 0 ≤ a8 ∧ a8 ≤ acc.length ∧ (∀ x ∈ acc, y_tp (y_nn S1) x) ∧ m = 41 - acc.length ∧ y_fin (y_arg dl (decide ((4096 : Int) ∈ dl)) (40 - acc.length) acc a8 a7 S1) (fun l S' => ∀ D', y_cls (y_Bp B p l) 0 S' D' → K to D') (y_cT B.1 T)) K T := by
        intro hp1
        rw [if_neg hp1] at h
        refine c_tBraceStep (y_rs (by omega) (by omega)) ⟨y_rs (by omega) (by omega), fun c1 => ?_, fun c1 => ?_⟩
        · rw [if_neg (by omega)] at h
          obtain ⟨r1, r2⟩ := cl_argAt hc1 hp (y_Bp_at B p acc)
          have hall : ∀ x ∈ acc ++ [y_un a7], y_tp (y_nn S1) x := y_all_snoc hat hut
          have hrla : y_rl (acc ++ [y_un a7]) := fun x hx => by have := y_tp_r (hall x hx) ho1.2.2.2.2.2.2.2.2.2.2.2.2.2.2.2.2.2.2.2.1.2; exact y_rs (by omega) (by omega)
          have hlen : (acc ++ [y_un a7]).length = acc.length + 1 := by simp
          refine ⟨(z_row_p hp).1, c_rAdd (z_row_p hp) r1 r2 (fun q1 => ?_) (fun q1 => by omega)⟩
          have hra := y_row_add r1 (y_un a7)
          have hc2 : y_cls (y_Bp B p (acc ++ [y_un a7])) 0 S1 (z_uz (z_uz D' (22 + 2 * p + 1) acc.length (y_un a7)) (22 + 2 * p) 1 ((acc.length : Int) + 1)) := by
            rw [← y_Bp2 B p acc]
            exact cl_arg (D := D') (Z := (z_uz (z_uz D' (22 + 2 * p + 1) acc.length (y_un a7)) (22 + 2 * p) 1 ((acc.length : Int) + 1)).1) hc1 hp (fun c c1 c2 => by show (z_uz (z_uz D' (22 + 2 * p + 1) acc.length (y_un a7)) (22 + 2 * p) 1 ((acc.length : Int) + 1)).1 c = _; rw [y_uz_cell c1, y_uz_cell c2]) hra (by omega)
          generalize (z_uz (z_uz D' (22 + 2 * p + 1) acc.length (y_un a7)) (22 + 2 * p) 1 ((acc.length : Int) + 1)) = D2 at hra hc2
          have more : ¬ (y_sum acc + y_bs (y_un a7) = 0 ∧ dl.isSuffixOf (acc ++ [y_un a7]) = true) → ∀ D5, D5 = D2 → w_tTakeArgument_183 n (d + 3) (B.1.2.2 i + 1) (22 + 2 * p) ((k + 1 : Nat) : Int) (to : Int) (decide ((4096 : Int) ∈ dl)) (y_sum acc + y_bs (y_un a7)) ((acc.length : Int) + 1) D5 (fun a4 a5 b6 a7 a8 a9 D' => ∃ m, m < 41 - acc.length ∧ a4 = ((k + 1 : Nat) : Int) ∧ a5 = (to : Int) ∧ b6 = decide ((4096 : Int) ∈ dl) ∧ ∃ S1 acc, y_cls (y_Bp B p acc) 0 S1 D' ∧ y_ok st S1 ∧ y_mac S1 = y_mac S ∧ y_tk (y_nn S1) a7 ∧ a9 = (acc.length : Int) + 1 ∧ acc.length ≤ 40 ∧ a8 = y_sum acc ∧ 0 ≤ a8 ∧ a8 ≤ acc.length ∧ (∀ x ∈ acc, y_tp (y_nn S1) x) ∧ m = 41 - acc.length ∧ y_fin (y_arg dl (decide ((4096 : Int) ∈ dl)) (40 - acc.length) acc a8 a7 S1) (fun l S' => ∀ D', y_cls (y_Bp B p l) 0 S' D' → K to D') (y_cT B.1 T)) K T := by
            intro hno D5 e5
            subst e5
            rw [if_neg hno] at h
            refine c_get hc2 ho1 (y_gk (yo_getT ho1) h (fun u S2 ⟨b1, b2, b3, _⟩ h D8 hc8 => ⟨_, ?_, rfl, rfl, rfl, S2, acc ++ [y_un a7], hc8, b1, b2.2.1.trans hm1, b3, by rw [hlen]; omega, by omega, by rw [y_sum_app]; simp [y_sum], c1, by rw [hlen]; omega, fun x hx => y_tp_le (hall x hx) b2.1, rfl, ?_⟩))
            · rw [hlen]; omega
            · rw [hlen, show 40 - (acc.length + 1) = f by omega]; exact h
          refine ⟨y_rs (by omega) (by omega), fun c2 => more (fun z => c2 z.1) _ rfl, fun c2 => ?_⟩
          obtain ⟨m1, m2, _, _⟩ := cl_mac hc2 hi (by rw [hm1]; exact hq)
          refine c_rEndsWith (z_row_p hp) (z_row_mt m1) hra m2 (by omega) hl hrla hrl (by omega) (by omega) (fun b hb => ?_)
          have hb2 : b = true ↔ dl.isSuffixOf (acc ++ [y_un a7]) = true := by
            rw [hb, ← hdle]
            exact y_ends (by omega) (by omega) (y_tp_bs hall)
          refine ⟨fun c3 => more (fun z => by rw [hb2.mpr z.2] at c3; cases c3) _ rfl, fun c3 => ?_⟩
          have hsf := hb2.mp c3
          rw [if_pos ⟨c2, hsf⟩] at h
          rw [List.isSuffixOf_iff_suffix] at hsf
          have hdl2 := hsf.length_le
          have hsum : y_sum ((acc ++ [y_un a7]).take ((acc ++ [y_un a7]).length - dl.length)) = 0 := by
            obtain ⟨x, hx⟩ := hsf
            have e1 : (acc ++ [y_un a7]).take ((acc ++ [y_un a7]).length - dl.length) = x := by
              rw [← hx, List.length_append, Nat.add_sub_cancel, List.take_left' rfl]
            rw [e1]
            have e2 : y_sum (x ++ dl) = 0 := by rw [hx, y_sum_app]; simp [y_sum]; exact c2
            rw [y_sum_app, y_sum0 hbs] at e2
            omega
          refine c_rSize (z_row_p hp) hra ?_
          have fin : ∀ D9, y_row D9 (22 + 2 * p) ((acc ++ [y_un a7]).take ((acc ++ [y_un a7]).length - dl.length)) → (∀ c, c ≠ 22 + 2 * p → c ≠ 22 + 2 * p + 1 → D9.1 c = D2.1 c) → D9.2 = D2.2 → z_c n (d + 3) 35 [.ref (22 + 2 * p)] D9 (z_qV (fun D10 => K (to : Int) D10) T) := by
            intro D9 r9 f9 g9
            refine c_rPeelGroup (z_row_p hp) r9 (by rw [List.length_take]; omega) (fun x hx => hrla x (List.mem_of_mem_take hx)) hsum (fun D10 r10 f10 g10 => h D10 ?_)
            have e10 : D10 = (D10.1, D2.2) := Prod.ext rfl (g10.trans g9)
            rw [e10] at r10 ⊢
            rw [← y_Bp2 B p (acc ++ [y_un a7])]
            refine cl_arg hc2 hp (fun c c1 c2 => (f10 c c1 c2).trans (f9 c c1 c2)) r10 ?_
            have := y_peel_len ((acc ++ [y_un a7]).take ((acc ++ [y_un a7]).length - dl.length))
            rw [List.length_take] at this
            show (y_peel ((acc ++ [y_un a7]).take ((acc ++ [y_un a7]).length - dl.length))).length ≤ 40
            omega
          have el : (((acc ++ [y_un a7]).length : Nat) : Int) - ((to : Int) - ((k + 1 : Nat) : Int)) = (((acc ++ [y_un a7]).length - dl.length : Nat) : Int) := by omega
          rw [el]
          refine c_rCutTo (z_row_p hp) hra (by omega) (y_rs (by omega) (by omega)) (fun z => fin _ ?_ (fun _ _ _ => rfl) rfl) (fun z0 z1 => fin _ ?_ (fun c c1 _ => y_uz_cell c1) rfl)
          · rw [List.take_of_length_le (by omega)]; exact hra
          · exact y_row_cut hra (by omega)
        · rw [if_pos (by omega)] at h
          exact c_fault hc1 h
      refine c_tUnmarked (by omega) (by omega) ⟨y_rs (by omega) (by omega), fun c1 => rest (fun z => c1 z.1), fun c1 => ⟨fun c2 => rest (fun z => by rw [c2] at z; cases z.2), fun c2 => ?_⟩⟩
      rw [if_pos ⟨c1, c2⟩] at h
      exact c_fault hc1 h
end CT
