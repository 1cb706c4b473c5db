/-! contracts of the class: macros, their arguments and bodies -/
theorem y_rl_tx {m : Nat} {l : List Int} {p : Int} (h : ∀ t ∈ l, (8193 ≤ t ∧ t < 8193 + p) ∨ y_tp m t) (hp : p ≤ 4) (hm : m ≤ 118) : y_rl l := fun x hx => by
  rcases h x hx with z | z
  · exact y_rs (by omega) (by omega)
  · have := y_tp_r z hm
    exact y_rs (by omega) (by omega)
theorem y_np_eq {l : List Int} : ∀ (f k v : Nat), k ≤ v → v ≤ l.length → v - k ≤ f → (∀ j : Int, (k : Int) ≤ j → j < v → y_at l j < 8192) → ((v : Int) < l.length → 8192 ≤ y_at l v) → y_np l f k = v
  | 0, k, v, h1, h2, h3, _, _ => by unfold y_np; omega
  | f + 1, k, v, h1, h2, h3, h4, h5 => by
    unfold y_np
    cases e : l[k]? with
    | none =>
      have := List.getElem?_eq_none_iff.mp e
      show k = v
      omega
    | some t =>
      have ea : y_at l (k : Int) = t := by
        unfold y_at
        rw [if_pos (by omega), show ((k : Int)).toNat = k by omega, e]
        rfl
      show (if 8192 ≤ t then k else y_np l f (k + 1)) = v
      by_cases c : k = v
      · subst c
        have hk := (List.getElem?_eq_some_iff.mp e).1
        rw [if_pos (by rw [← ea]; exact h5 (by omega))]
      · rw [if_neg (by have := h4 k (by omega) (by omega); omega)]
        exact y_np_eq f (k + 1) v (by omega) h2 (by omega) (fun j j1 j2 => h4 j (by omega) j2) h5
theorem y_nxt_eq {l : List Int} {k : Nat} {v : Int} (h0 : (k : Int) ≤ v) (h1 : v ≤ l.length) (h2 : ∀ j : Int, (k : Int) ≤ j → j < v → y_at l j < 8192) (h3 : v < l.length → 8192 ≤ y_at l v) : v = (y_nxt l k : Int) := by
  obtain ⟨w, rfl⟩ : ∃ w : Nat, v = (w : Int) := ⟨v.toNat, by omega⟩
  rw [y_nxt, y_np_eq l.length k w (by omega) (by omega) (by omega) h2 h3]
theorem y_np_r {l : List Int} : ∀ (f k : Nat), k ≤ l.length → l.length - k ≤ f → k ≤ y_np l f k ∧ y_np l f k ≤ l.length ∧ (∀ j : Nat, k ≤ j → j < y_np l f k → l[j]?.getD 0 < 8192) ∧ (y_np l f k < l.length → 8192 ≤ l[y_np l f k]?.getD 0)
  | 0, k, h1, h2 => by
    unfold y_np
    exact ⟨Nat.le_refl _, h1, fun j a b => by omega, fun c => by omega⟩
  | f + 1, k, h1, h2 => by
    unfold y_np
    cases e : l[k]? with
    | none =>
      have := List.getElem?_eq_none_iff.mp e
      exact ⟨Nat.le_refl _, h1, fun j a b => by have b' : j < k := b; omega, fun c => by have c' : k < l.length := c; omega⟩
    | some t =>
      show k ≤ (if 8192 ≤ t then k else y_np l f (k + 1)) ∧ (if 8192 ≤ t then k else y_np l f (k + 1)) ≤ l.length ∧ (∀ j : Nat, k ≤ j → j < (if 8192 ≤ t then k else y_np l f (k + 1)) → l[j]?.getD 0 < 8192) ∧ ((if 8192 ≤ t then k else y_np l f (k + 1)) < l.length → 8192 ≤ l[(if 8192 ≤ t then k else y_np l f (k + 1))]?.getD 0)
      have hk := (List.getElem?_eq_some_iff.mp e).1
      split
      · next c => exact ⟨Nat.le_refl _, h1, fun j a b => by omega, fun _ => by rw [e]; exact c⟩
      · next c =>
        obtain ⟨a1, a2, a3, a4⟩ := y_np_r (l := l) f (k + 1) (by omega) (by omega)
        refine ⟨by omega, a2, fun j j1 j2 => ?_, a4⟩
        by_cases z : j = k
        · subst z
          rw [e]
          show t < 8192
          omega
        · exact a3 j (by omega) j2
theorem y_nxt_r {l : List Int} {k : Nat} (hk : k ≤ l.length) : k ≤ y_nxt l k ∧ y_nxt l k ≤ l.length ∧ (∀ j : Nat, k ≤ j → j < y_nxt l k → l[j]?.getD 0 < 8192) ∧ (y_nxt l k < l.length → 8192 ≤ l[y_nxt l k]?.getD 0) := y_np_r l.length k hk (by omega)
section CA
variable {n d : Nat} {B : y_B} {D : z_D} {tr st : Int} {S : y_S} {T : Nat → z_D → Prop}
theorem cl_mac (hc : y_cls B tr S D) {i : Nat} {q : List Int × List Int × Int} (hi : i < 60) (e : (y_mac S)[i]? = some q) : z_mc (B.1.2.2 i) ∧ y_row D (B.1.2.2 i + 1) q.1 ∧ y_row D (B.1.2.2 i + 3) q.2.1 ∧ D.1 (B.1.2.2 i) 2 = q.2.2 := by
  obtain ⟨a1, a2, a3, a4, a5, a6, a7, a8, a9⟩ := hc.2.2.2.2.2.2.2.2.2.2.2.2.2.2.2.2.2.2.2.1
  have hp := hc.2.2.2.2.2.2.2.2.2.2.2.2.2.2.2.2.2.2.2.2
  rw [← hp]
  exact ⟨a1 i (by omega), a5 i q hi e⟩
theorem c_macroOf {m : Int} {Kn : z_D → Prop} {Kr : Nat → z_D → Prop} (hc : y_cls B tr S D) (ho : y_ok st S) (hm : y_mn (y_mm S) m) (h0 : y_mcr S m = none → Kn D) (h1 : ∀ q, y_mcr S m = some q → 4096 ≤ m → (m - 4096).toNat < 60 → (y_mac S)[(m - 4096).toNat]? = some q → Kr (B.1.2.2 (m - 4096).toNat) D) : z_c n (d + 1) 58 [.ref 0, .int (z_i m)] D (z_qR Kn Kr T) := by
  have hr := y_mn_r hm ho.2.2.2.2.2.2.2.2.2.2.2.2.2.2.2.2.2.2.2.2.2.1
  have e9 : D.1 0 9 = ((y_mac S).length : Int) := hc.2.2.2.2.2.2.2.2.2.2.2.1
  have o22 : (y_mac S).length ≤ 60 := ho.2.2.2.2.2.2.2.2.2.2.2.2.2.2.2.2.2.2.2.2.2.1
  unfold y_mcr at h0 h1
  refine r_tMacroOf ?_
  unfold w_tMacroOf_0
  rw [e9]
  refine ⟨y_rs (by omega) (by omega), fun c => h0 (if_neg (by omega)), fun c => ⟨y_rs (by omega) (by omega), fun c1 => h0 ?_, fun c1 => ⟨fun c2 => by omega, fun c2 => ⟨⟨c, c2⟩, ?_⟩⟩⟩⟩
  · rw [if_pos (by omega), List.getElem?_eq_none (by omega)]
  · have hl : (m - 4096).toNat < (y_mac S).length := by omega
    rw [hc.2.2.2.2.2.2.2.2.2.2.2.2.2.2.2.2.2.2.2.2]
    exact h1 _ (by rw [if_pos (by omega), List.getElem?_eq_getElem hl]) (by omega) (by omega) (List.getElem?_eq_getElem hl)
theorem c_codeOf {t : Int} {K : Int → z_D → Prop} (hc : y_cls B tr S D) (ho : y_ok st S) (ht : y_tk (y_nn S) t) (h : K (y_cod S t) D) : z_c n (d + 3) 55 [.ref 0, .int (z_i t)] D (z_qI (fun v D1 => z_c n (d + 3) 60 [.int (z_i v)] D1 (z_qI K T)) T) := by
  have hm := y_mo_ok ho ht
  have hr := y_mn_r hm ho.2.2.2.2.2.2.2.2.2.2.2.2.2.2.2.2.2.2.2.2.2.1
  unfold y_cod at h
  refine c_mo hc ho ht (r_tCodeOf (c_tIsCharacter (y_rs (by omega) (by omega)) ⟨fun c => ?_, fun c => ?_⟩))
  · rw [if_neg (by rw [c]; exact Bool.false_ne_true)] at h; exact h
  · rw [if_pos c] at h
    rw [z_and255 (by omega) (by omega)]; exact h
theorem c_alike {a b : Int} {K : Bool → z_D → Prop} (hc : y_cls B tr S D) (ho : y_ok st S) (ha : y_mn (y_mm S) a) (hb : y_mn (y_mm S) b) (h : K (y_alike S a b) D) : z_c n (d + 2) 59 [.ref 0, .int (z_i a), .int (z_i b)] D (z_qZ K T) := by
  have ra := y_mn_r ha ho.2.2.2.2.2.2.2.2.2.2.2.2.2.2.2.2.2.2.2.2.2.1
  have rb := y_mn_r hb ho.2.2.2.2.2.2.2.2.2.2.2.2.2.2.2.2.2.2.2.2.2.1
  have plain : (y_mcr S a = none ∨ y_mcr S b = none) → (z_r a) ∧ (z_r b) ∧ ((¬ a = b) → K false D) ∧ ((a = b) → K true D) := by
    intro z
    have e : y_alike S a b = decide (a = b) := by
      unfold y_alike
      rcases z with z | z
      · rw [z]
      · rw [z]; cases y_mcr S a <;> rfl
    rw [e] at h
    exact ⟨y_rs (by omega) (by omega), y_rs (by omega) (by omega), fun c => y_dF h c, fun c => y_dT h c⟩
  refine r_tMeanTheSame (c_macroOf hc ho ha (fun e => c_macroOf hc ho hb (fun e2 => plain (Or.inl e)) (fun q e2 _ _ _ => plain (Or.inl e))) (fun q e a1 a2 a3 => c_macroOf hc ho hb (fun e2 => plain (Or.inr e2)) (fun r e2 b1 b2 b3 => ?_)))
  have hq := y_mcr_ok ho e
  have hr := y_mcr_ok ho e2
  obtain ⟨m1, m2, m3, m4⟩ := cl_mac hc a2 a3
  obtain ⟨w1, w2, w3, w4⟩ := cl_mac hc b2 b3
  have on := ho.2.2.2.2.2.2.2.2.2.2.2.2.2.2.2.2.2.2.2.1.2
  have ea : y_alike S a b = decide (q.1 = r.1 ∧ q.2.1 = r.2.1) := by unfold y_alike; rw [e, e2]
  rw [ea] at h
  refine ⟨m1, w1, c_rSameAs (z_row_mt m1) (z_row_mt w1) m2 w2 hq.1.1 hr.1.1 (y_rl_tx hq.1.2.2.1 hq.2.2.2 on) (y_rl_tx hr.1.2.2.1 hr.2.2.2 on) ⟨fun c => ?_, fun c => c_rSameAs (z_row_mb m1) (z_row_mb w1) m3 w3 hq.2.1.1 hr.2.1.1 (y_rl_tx hq.2.1.2 hq.2.2.2 on) (y_rl_tx hr.2.1.2 hr.2.2.2 on) ⟨fun c1 => ?_, fun c1 => ?_⟩⟩⟩
  · exact y_dF h (fun z => of_decide_eq_false c z.1)
  · exact y_dF h (fun z => of_decide_eq_false c1 z.2)
  · exact y_dT h ⟨of_decide_eq_true c, of_decide_eq_true c1⟩
theorem c_match {i : Nat} {q : List Int × List Int × Int} {K : Int → z_D → Prop} (hc : y_cls B 0 S D) (ho : y_ok st S) (hi : i < 60) (hq : (y_mac S)[i]? = some q) (h : y_fin (y_match (q.1.take (y_nxt q.1 0)) S) (fun _ S' => ∀ D', y_cls B 0 S' D' → K (y_nxt q.1 0) D') (y_cT B.1 T)) : z_c n (d + 3) 80 [.ref 0, .ref (B.1.2.2 i + 1)] D (z_qI K T) := by
  have hk := ho.2.2.2.2.2.2.2.2.2.2.2.2.2.2.2.2.2.2.2.2.2.2.1 q (List.mem_of_getElem? hq)
  have hrl := y_rl_tx hk.1.2.2.1 hk.2.2.2 ho.2.2.2.2.2.2.2.2.2.2.2.2.2.2.2.2.2.2.2.1.2
  have hl := hk.1.1
  obtain ⟨m1, m2, _, _⟩ := cl_mac hc hi hq
  have hn := y_nxt_r (l := q.1) (k := 0) (by omega)
  refine r_tMatchStart (fun m e k D' => e = (y_nxt q.1 0 : Int) ∧ 0 ≤ k ∧ k ≤ e ∧ m = (e - k).toNat ∧ ∃ S1, y_cls B 0 S1 D' ∧ y_ok st S1 ∧ y_mac S1 = y_mac S ∧ y_fin (y_match ((q.1.take (y_nxt q.1 0)).drop k.toNat) S1) (fun _ S' => ∀ D', y_cls B 0 S' D' → K (y_nxt q.1 0) D') (y_cT B.1 T)) ⟨z_sh_m (i := 1) m1 (by decide), c_rNextParameter (z_row_mt m1) m2 hl hrl (by omega) (fun v v0 v1 v2 v3 => ?_)⟩ ?_
  · have e := y_nxt_eq (k := 0) v0 v1 v2 v3
    exact ⟨_, e, Int.le_refl _, v0, rfl, S, hc, ho, rfl, h⟩
  · rintro mm e k D' ⟨rfl, k0, k1, rfl, S1, hc1, ho1, hm1, h⟩
    obtain ⟨m1, m2, _, _⟩ := cl_mac hc1 hi (by rw [hm1]; exact hq)
    refine ⟨y_rs (by omega) (by omega), y_rs (by omega) (by omega), fun c => ?_, fun c => ?_⟩
    · rw [List.drop_eq_nil_of_le (by rw [List.length_take]; omega)] at h
      exact h D' hc1
    · have hkl : k.toNat < (q.1.take (y_nxt q.1 0)).length := by rw [List.length_take]; omega
      rw [List.drop_eq_getElem_cons hkl] at h
      have hkq : k.toNat < q.1.length := by omega
      have ex : (q.1.take (y_nxt q.1 0))[k.toNat] = q.1[k.toNat] := List.getElem_take
      rw [ex] at h
      have ea : y_at q.1 k = q.1[k.toNat] := by
        unfold y_at
        rw [if_pos k0, List.getElem?_eq_getElem hkq]
        rfl
      refine c_get hc1 ho1 (y_gk (yo_getT ho1) h (fun t S2 ⟨b1, b2, b3, _⟩ h D2 hc2 => ?_))
      have hr := y_tk_r b3 b1.2.2.2.2.2.2.2.2.2.2.2.2.2.2.2.2.2.2.2.1.2
      have hu := y_tp_r (y_un_tp b3 b1.2.2.2.2.2.2.2.2.2.2.2.2.2.2.2.2.2.2.2.1.2) b1.2.2.2.2.2.2.2.2.2.2.2.2.2.2.2.2.2.2.2.1.2
      have hm2 : y_mac S2 = y_mac S := b2.2.1.trans hm1
      obtain ⟨m1, m2, _, _⟩ := cl_mac hc2 hi (by rw [hm2]; exact hq)
      refine c_tUnmarked (by omega) (by omega) ⟨z_sh_m (i := 1) m1 (by decide), c_rAt (z_row_mt m1) m2 hl (y_rs (by omega) (by omega)) ⟨y_rs (by omega) (by omega), y_at_r hrl k, fun c1 => ?_, fun c1 => ?_⟩⟩
      · rw [if_pos (by rw [c1, ea])] at h
        refine ⟨_, ?_, rfl, by omega, by omega, rfl, S2, hc2, b1, hm2, ?_⟩
        · omega
        · rw [show (k + 1).toNat = k.toNat + 1 by omega]; exact h
      · rw [if_neg (by rw [← ea]; exact c1)] at h
        exact c_fault hc2 h
/-- an argument's row changes -/
theorem cl_arg {p : Nat} {Z : Nat → Nat → Int} {l : List Int} (hc : y_cls B tr S D) (hp : p < 4) (hf : ∀ c, c ≠ 22 + 2 * p → c ≠ 22 + 2 * p + 1 → Z c = D.1 c) (hr : y_row (Z, D.2) (22 + 2 * p) l) (hl : l.length ≤ 40) : y_cls (B.1, am_u1 B.2 p (some l)) tr S (Z, D.2) := by
  obtain ⟨a1, a2, a3, a4, a5, a6, a7, a8, a9⟩ := hc.2.2.2.2.2.2.2.2.2.2.2.2.2.2.2.2.2.2.2.1
  have hm : ∀ j, j ≤ 60 → 31 ≤ D.2.2 j := fun j hj => (a1 j hj).1
  have hrow : ∀ r x, r ≠ 22 + 2 * p → r ≠ 22 + 2 * p + 1 → r + 1 ≠ 22 + 2 * p → y_row D r x → y_row (Z, D.2) r x := fun r x c1 c2 c3 z => y_row_cell z (hf r c1 c2) (hf (r + 1) c3 (by omega))
  refine cl_ma hc (fun c h => hf c (by omega) (by omega)) ⟨rfl, rfl, rfl, rfl, rfl, rfl⟩ ⟨a1, a2, fun j hj => ?_, fun j hj => ?_, fun i q hi e => ?_, fun x e => ?_, fun x e => ?_, fun v e => ?_, fun i hi => ?_⟩
  · obtain ⟨x, b1, b2⟩ := a3 j hj
    have := hm j hj
    exact ⟨x, hrow _ x (by dsimp only; omega) (by dsimp only; omega) (by dsimp only; omega) b1, b2⟩
  · obtain ⟨x, b1, b2⟩ := a4 j hj
    have := hm j hj
    exact ⟨x, hrow _ x (by dsimp only; omega) (by dsimp only; omega) (by dsimp only; omega) b1, b2⟩
  · obtain ⟨b1, b2, b3⟩ := a5 i q hi e
    have := hm i (by omega)
    refine ⟨hrow _ _ (by dsimp only; omega) (by dsimp only; omega) (by dsimp only; omega) b1, hrow _ _ (by dsimp only; omega) (by dsimp only; omega) (by dsimp only; omega) b2, ?_⟩
    show Z (D.2.2 i) 2 = _
    rw [hf _ (by omega) (by omega)]
    exact b3
  · have := hm 60 (Nat.le_refl _)
    exact hrow _ _ (by dsimp only; omega) (by dsimp only; omega) (by dsimp only; omega) (a6 x e)
  · have := hm 60 (Nat.le_refl _)
    exact hrow _ _ (by dsimp only; omega) (by dsimp only; omega) (by dsimp only; omega) (a7 x e)
  · have := hm 60 (Nat.le_refl _)
    show Z (D.2.2 60) 2 = v
    rw [hf _ (by omega) (by omega)]
    exact a8 v e
  · by_cases e : i = p
    · subst e
      refine ⟨l, hr, hl, fun x z => ?_⟩
      unfold am_u1 at z
      rw [if_pos rfl] at z
      exact Option.some.inj z
    · obtain ⟨x, b1, b2, b3⟩ := a9 i hi
      refine ⟨x, hrow _ _ (by omega) (by omega) (by omega) b1, b2, fun y z => b3 y ?_⟩
      unfold am_u1 at z
      rw [if_neg e] at z
      exact z
theorem cl_argAt {p : Nat} {l : List Int} (hc : y_cls B tr S D) (hp : p < 4) (e : B.2 p = some l) : y_row D (22 + 2 * p) l ∧ l.length ≤ 40 := by
  obtain ⟨a1, a2, a3, a4, a5, a6, a7, a8, a9⟩ := hc.2.2.2.2.2.2.2.2.2.2.2.2.2.2.2.2.2.2.2.1
  obtain ⟨x, b1, b2, b3⟩ := a9 p hp
  have := b3 l e
  subst this
  exact ⟨b1, b2⟩
theorem z_row_p {p : Nat} (hp : p < 4) : z_row n (22 + 2 * p) (22 + 2 * p + 1) 40 := by
  have := z_row_a (n := n) (i := (p : Int)) (by omega) (by omega)
  rw [show ((p : Int)).toNat = p by omega] at this
  rw [show 22 + 2 * p + 1 = 23 + 2 * p by omega]
  exact this
theorem y_ends {acc l : List Int} {a b : Nat} (hab : a ≤ b) (hb : b ≤ l.length) (hl : ∀ x ∈ acc, x ≠ -1) : (0 ≤ (acc.length : Int) - b + a ∧ ∀ k : Int, (a : Int) ≤ k → k < b → y_at acc ((acc.length : Int) - b + k) = y_at l k) ↔ ((l.take b).drop a).isSuffixOf acc = true := by
  rw [List.isSuffixOf_iff_suffix]
  have hlen : ((l.take b).drop a).length = b - a := by rw [List.length_drop, List.length_take]; omega
  constructor
  · rintro ⟨h0, h1⟩
    rw [List.suffix_iff_eq_drop, hlen]
    apply List.ext_getElem
    · rw [hlen, List.length_drop]; omega
    · intro i h2 h3
      rw [hlen] at h2
      have := h1 (a + i) (by omega) (by omega)
      unfold y_at at this
      rw [if_pos (by omega), if_pos (by omega), List.getElem?_eq_getElem (by omega), List.getElem?_eq_getElem (by omega)] at this
      rw [List.getElem_drop, List.getElem_take, List.getElem_drop]
      have e1 : ((a : Int) + i).toNat = a + i := by omega
      have e2 : ((acc.length : Int) - b + (a + i)).toNat = acc.length - (b - a) + i := by omega
      simp only [Option.getD_some, e1, e2] at this
      exact this.symm
  · intro h
    have hle := h.length_le
    rw [hlen] at hle
    refine ⟨by omega, fun k k0 k1 => ?_⟩
    rw [List.suffix_iff_eq_drop, hlen] at h
    have hg : ((l.take b).drop a)[(k - a).toNat]? = (acc.drop (acc.length - (b - a)))[(k - a).toNat]? := by rw [← h]
    rw [List.getElem?_drop, List.getElem?_drop, List.getElem?_take_of_lt (by omega), show a + (k - a).toNat = k.toNat by omega, show acc.length - (b - a) + (k - a).toNat = ((acc.length : Int) - b + k).toNat by omega] at hg
    unfold y_at
    rw [if_pos (by omega), if_pos (by omega), hg]
end CA
