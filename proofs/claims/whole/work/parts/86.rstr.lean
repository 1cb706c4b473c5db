/-! contracts of the reference: likeness, spelling -/
theorem y_mr_inj {m : Nat} {a b : Int} (ha : y_mn m a) (hb : y_mn m b) (hm : m ≤ 60) (h : y_mr a = y_mr b) : a = b := by
  have := y_mn_r ha hm
  have := y_mn_r hb hm
  unfold y_mr at h
  split at h <;> split at h <;> (try split at h) <;> (try split at h) <;> omega
/-- a token of a text or a body -/
def y_tq (n : Nat) (t : Int) : Prop := (8193 ≤ t ∧ t < 8197) ∨ y_tp n t
theorem y_tq_of {n : Nat} {p t : Int} (h : (8193 ≤ t ∧ t < 8193 + p) ∨ y_tp n t) (hp : p ≤ 4) : y_tq n t := h.imp (fun z => by omega) id
theorem y_tq_tr {n : Nat} {t : Int} (h : y_tq n t) (hn : n ≤ 118) : (8193 ≤ t ∧ t < 8197 ∧ y_tr t = t + 8192) ∨ (256 ≤ t ∧ t < 4214 ∧ y_tr t = t) := by
  rcases h with h | h
  · refine Or.inl ⟨h.1, h.2, ?_⟩
    unfold y_tr
    rw [if_neg (by omega), if_pos (by omega)]
  · have := y_tp_r h hn
    exact Or.inr ⟨this.1, this.2, if_pos (by omega)⟩
theorem y_tq_inj {n : Nat} {a b : Int} (ha : y_tq n a) (hb : y_tq n b) (hn : n ≤ 118) (h : y_tr a = y_tr b) : a = b := by
  rcases y_tq_tr ha hn with z | z <;> rcases y_tq_tr hb hn with w | w <;> omega
section RS
variable {n d : Nat} {Q : y_Q} {D : z_D} {st : Int} {S : y_S} {T : Nat → z_D → Prop}
/-- a macro in memory -/
theorem rf_mac (hr : y_ref Q S D) (ho : y_ok st S) {i : Nat} {q : List Int × List Int × Int} (e : (y_mac S)[i]? = some q) : i < 60 ∧ y_mk (y_nn S) q ∧ D.1 348 i = (q.1.length : Int) ∧ D.1 350 i = (q.2.1.length : Int) ∧ D.1 352 i = q.2.2 ∧ (∀ (j : Nat) (hj : j < q.1.length), D.1 349 (13 * i + j) = y_tr q.1[j] ∧ y_tq (y_nn S) q.1[j]) ∧ (∀ (j : Nat) (hj : j < q.2.1.length), D.1 351 (41 * i + j) = y_tr q.2.1[j] ∧ y_tq (y_nn S) q.2.1[j]) := by
  obtain ⟨h1, h2, h3⟩ := hr.2.2.2.2.2.2.2.2.2.2.2.1 i q e
  have hk := ho.2.2.2.2.2.2.2.2.2.2.2.2.2.2.2.2.2.2.2.2.2.2.1 q (List.mem_of_getElem? e)
  have hi := (List.getElem?_eq_some_iff.mp e).1
  have o22 : (y_mac S).length ≤ 60 := ho.2.2.2.2.2.2.2.2.2.2.2.2.2.2.2.2.2.2.2.2.2.1
  refine ⟨by omega, hk, by rw [h1.1, List.length_map], by rw [h2.1, List.length_map], h3, fun j hj => ⟨?_, y_tq_of (hk.1.2.2.1 _ (List.getElem_mem hj)) hk.2.2.2⟩, fun j hj => ⟨?_, y_tq_of (hk.2.1.2 _ (List.getElem_mem hj)) hk.2.2.2⟩⟩
  · have := y_pa_at h1 (k := j) (by rw [List.length_map]; exact hj)
    rw [this, List.getElem_map]
  · have := y_pa_at h2 (k := j) (by rw [List.length_map]; exact hj)
    rw [this, List.getElem_map]
theorem c_mAlike {a b : Int} {K : Bool → z_D → Prop} (hr : y_ref Q S D) (ho : y_ok st S) (ha : y_mn (y_mm S) a) (hb : y_mn (y_mm S) b) (h : K (y_alike S a b) D) : z_c n (d + 1) 124 [.ref 336, .int (z_i (y_mr a)), .int (z_i (y_mr b))] D (z_qZ K T) := by
  have ra := y_mn_r ha ho.2.2.2.2.2.2.2.2.2.2.2.2.2.2.2.2.2.2.2.2.2.1
  have rb := y_mn_r hb ho.2.2.2.2.2.2.2.2.2.2.2.2.2.2.2.2.2.2.2.2.2.1
  have sa := y_mr_r ha ho.2.2.2.2.2.2.2.2.2.2.2.2.2.2.2.2.2.2.2.2.2.1
  have sb := y_mr_r hb ho.2.2.2.2.2.2.2.2.2.2.2.2.2.2.2.2.2.2.2.2.2.1
  have hn := ho.2.2.2.2.2.2.2.2.2.2.2.2.2.2.2.2.2.2.2.1.2
  have big : ∀ v, y_mn (y_mm S) v → ((6000 ≤ y_mr v) ↔ 4096 ≤ v) ∧ (4096 ≤ v → y_mr v = v + 1904) := by
    intro v hv
    have := y_mn_r hv ho.2.2.2.2.2.2.2.2.2.2.2.2.2.2.2.2.2.2.2.2.2.1
    unfold y_mr
    split
    · omega
    · split <;> omega
  have ba := big a ha
  have bb := big b hb
  have none_of : ∀ v, ¬ 4096 ≤ v → y_mcr S v = none := fun v hv => if_neg hv
  have diff : ¬ a = b → (y_mcr S a = none ∨ y_mcr S b = none) → K false D := by
    intro ne z
    have e : y_alike S a b = decide (a = b) := by
      unfold y_alike
      rcases z with z | z
      · rw [z]
      · rw [z]; cases y_mcr S a <;> rfl
    rw [e] at h
    exact y_dF h ne
  by_cases hab : 4096 ≤ a ∧ 4096 ≤ b
  · have o22 : (y_mac S).length ≤ 60 := ho.2.2.2.2.2.2.2.2.2.2.2.2.2.2.2.2.2.2.2.2.2.1
    have hidx : ∀ v, y_mn (y_mm S) v → 4096 ≤ v → (v - 4096).toNat < (y_mac S).length := by
      intro v hv h4
      rcases hv with z | z | z
      · omega
      · have := y_ch_r z; omega
      · have z2 : v < 4096 + ((y_mac S).length : Int) := z.2
        omega
    have ia := hidx a ha hab.1
    have ib := hidx b hb hab.2
    have ea := List.getElem?_eq_getElem ia
    have eb := List.getElem?_eq_getElem ib
    have ema : y_mcr S a = some (y_mac S)[(a - 4096).toNat] := by unfold y_mcr; rw [if_pos hab.1, ea]
    have emb : y_mcr S b = some (y_mac S)[(b - 4096).toNat] := by unfold y_mcr; rw [if_pos hab.2, eb]
    obtain ⟨x1, x2, x3, x4, x5, x6, x7⟩ := rf_mac hr ho ea
    obtain ⟨w1, w2, w3, w4, w5, w6, w7⟩ := rf_mac hr ho eb
    have el : y_alike S a b = decide ((y_mac S)[(a - 4096).toNat].1 = (y_mac S)[(b - 4096).toNat].1 ∧ (y_mac S)[(a - 4096).toNat].2.1 = (y_mac S)[(b - 4096).toNat].2.1) := by unfold y_alike; rw [ema, emb]
    rw [el] at h
    have e1 : y_mr a - 6000 = ((a - 4096).toNat : Int) := by rw [ba.2 hab.1]; omega
    have e2 : y_mr b - 6000 = ((b - 4096).toNat : Int) := by rw [bb.2 hab.2]; omega
    have abeq : y_mr a = y_mr b → a = b := y_mr_inj ha hb ho.2.2.2.2.2.2.2.2.2.2.2.2.2.2.2.2.2.2.2.2.2.1
    generalize hxq : (y_mac S)[(a - 4096).toNat] = x at *
    generalize hwq : (y_mac S)[(b - 4096).toNat] = w at *
    generalize (a - 4096).toNat = i at *
    generalize (b - 4096).toNat = j at *
    have lx := x2.1.1
    have lw := w2.1.1
    have bx := x2.2.1.1
    have bw := w2.2.1.1
    refine r_mAlike
      (fun m a3 a4 s k D' => D' = D ∧ a3 = (i : Int) ∧ a4 = (j : Int) ∧ 0 ≤ k ∧ k ≤ x.1.length ∧ m = 100 + (x.1.length - k).toNat ∧ (s = false → ¬ (x.1 = w.1 ∧ x.2.1 = w.2.1)) ∧ (s = true → x.1.length = w.1.length ∧ x.2.1.length = w.2.1.length ∧ ∀ z : Nat, (z : Int) < k → x.1[z]? = w.1[z]?))
      (fun m a3 a4 s k D' => D' = D ∧ a3 = (i : Int) ∧ a4 = (j : Int) ∧ 0 ≤ k ∧ k ≤ x.2.1.length ∧ m = (x.2.1.length - k).toNat ∧ (s = false → ¬ (x.1 = w.1 ∧ x.2.1 = w.2.1)) ∧ (s = true → x.1 = w.1 ∧ x.2.1.length = w.2.1.length ∧ ∀ z : Nat, (z : Int) < k → x.2.1[z]? = w.2.1[z]?)) ?_ ?_ ?_
    · have go : ∀ s : Bool, (s = false → ¬ (x.1 = w.1 ∧ x.2.1 = w.2.1)) → (s = true → x.1.length = w.1.length ∧ x.2.1.length = w.2.1.length) → ∃ m, D = D ∧ (i : Int) = (i : Int) ∧ (j : Int) = (j : Int) ∧ (0 : Int) ≤ 0 ∧ (0 : Int) ≤ x.1.length ∧ m = 100 + ((x.1.length : Int) - 0).toNat ∧ (s = false → ¬ (x.1 = w.1 ∧ x.2.1 = w.2.1)) ∧ (s = true → x.1.length = w.1.length ∧ x.2.1.length = w.2.1.length ∧ ∀ z : Nat, (z : Int) < 0 → x.1[z]? = w.1[z]?) := fun s f1 f2 => ⟨_, rfl, rfl, rfl, Int.le_refl _, by omega, rfl, f1, fun q => ⟨(f2 q).1, (f2 q).2, fun z hz => by omega⟩⟩
      unfold w_mAlike_0
      rw [e1, e2, show (((i : Nat) : Int)).toNat = i by omega, show (((j : Nat) : Int)).toNat = j by omega, x3, w3, x4, w4]
      refine ⟨y_rs (by omega) (by omega), y_rs (by omega) (by omega), fun c => ⟨fun c1 => by omega, fun c1 => ⟨fun c2 => ⟨by omega, by omega, y_rs (by omega) (by omega), y_rs (by omega) (by omega), fun c3 => go false (fun _ z => c3 (by rw [z.1])) (fun z => by cases z), fun c3 => ⟨by omega, by omega, y_rs (by omega) (by omega), y_rs (by omega) (by omega), fun c4 => go false (fun _ z => c4 (by rw [z.2])) (fun z => by cases z), fun c4 => go true (fun z => by cases z) (fun _ => ⟨by omega, by omega⟩)⟩⟩, fun c2 => by omega⟩⟩, fun c => ?_⟩
      have := abeq c
      have hij : i = j := by omega
      subst hij
      have : x = w := by rw [ea] at eb; exact Option.some.inj eb
      rw [this] at h
      exact y_dT h ⟨rfl, rfl⟩
    · rintro mm a3 a4 s k D' ⟨rfl, rfl, rfl, k0, k1, rfl, f1, f2⟩
      unfold w_mAlike_78
      rw [show (((i : Nat) : Int)).toNat = i by omega, x3]
      have nxt : (s = true → (x.1.length : Int) ≤ k) → ∃ m, m < 100 + (x.1.length - k).toNat ∧ D' = D' ∧ (i : Int) = (i : Int) ∧ (j : Int) = (j : Int) ∧ (0 : Int) ≤ 0 ∧ (0 : Int) ≤ x.2.1.length ∧ m = ((x.2.1.length : Int) - 0).toNat ∧ (s = false → ¬ (x.1 = w.1 ∧ x.2.1 = w.2.1)) ∧ (s = true → x.1 = w.1 ∧ x.2.1.length = w.2.1.length ∧ ∀ z : Nat, (z : Int) < 0 → x.2.1[z]? = w.2.1[z]?) := by
        intro q
        refine ⟨_, ?_, rfl, rfl, rfl, Int.le_refl _, by omega, rfl, f1, fun qs => ⟨?_, (f2 qs).2.1, fun z hz => by omega⟩⟩
        · omega
        · have g := f2 qs
          have qk := q qs
          apply List.ext_getElem?
          intro z
          by_cases hz : (z : Int) < k
          · exact g.2.2 z hz
          · rw [List.getElem?_eq_none (by omega), List.getElem?_eq_none (by omega)]
      refine ⟨by omega, y_rs (by omega) (by omega), y_rs (by omega) (by omega), fun c => nxt (fun _ => c), fun c => ⟨fun z => nxt (fun q => by rw [z] at q; cases q), fun z => ?_⟩⟩
      obtain ⟨g1, g2, g3⟩ := f2 z
      have hk1 : k.toNat < x.1.length := by omega
      have hk2 : k.toNat < w.1.length := by omega
      obtain ⟨v1, v2⟩ := x6 k.toNat hk1
      obtain ⟨u1, u2⟩ := w6 k.toNat hk2
      rw [show Int.toNat (13 * (i : Int) + k) = 13 * i + k.toNat by omega, show Int.toNat (13 * (j : Int) + k) = 13 * j + k.toNat by omega, v1, u1]
      have q1 := y_tq_tr v2 hn
      have q2 := y_tq_tr u2 hn
      have inj := y_tq_inj v2 u2 hn
      have go : ∀ s' : Bool, (s' = true ↔ x.1[k.toNat] = w.1[k.toNat]) → ∃ m, m < 100 + (x.1.length - k).toNat ∧ D' = D' ∧ (i : Int) = (i : Int) ∧ (j : Int) = (j : Int) ∧ 0 ≤ k + 1 ∧ k + 1 ≤ x.1.length ∧ m = 100 + (x.1.length - (k + 1)).toNat ∧ (s' = false → ¬ (x.1 = w.1 ∧ x.2.1 = w.2.1)) ∧ (s' = true → x.1.length = w.1.length ∧ x.2.1.length = w.2.1.length ∧ ∀ z : Nat, (z : Int) < k + 1 → x.1[z]? = w.1[z]?) := by
        intro s' hs'
        refine ⟨_, ?_, rfl, rfl, rfl, by omega, by omega, rfl, fun q e => ?_, fun q => ⟨g1, g2, fun zz hzz => ?_⟩⟩
        · omega
        · have : s' = true := hs'.mpr (by simp only [e.1])
          rw [q] at this
          cases this
        · by_cases hz2 : (zz : Int) < k
          · exact g3 zz hz2
          · have : zz = k.toNat := by omega
            rw [this, List.getElem?_eq_getElem hk1, List.getElem?_eq_getElem hk2]
            exact congrArg some (hs'.mp q)
      exact ⟨by omega, by omega, y_rs (by omega) (by omega), y_rs (by omega) (by omega), fun c3 => go false ⟨fun q => (by cases q), fun q => absurd (by rw [q]) c3⟩, fun c3 => go true ⟨fun _ => inj c3, fun _ => rfl⟩⟩
    · rintro mm a3 a4 s k D' ⟨rfl, rfl, rfl, k0, k1, rfl, f1, f2⟩
      unfold w_mAlike_138
      rw [show (((i : Nat) : Int)).toNat = i by omega, x4]
      have fin : (s = true → (x.2.1.length : Int) ≤ k) → K s D' := by
        intro q
        cases s with
        | false => exact y_dF h (f1 rfl)
        | true =>
          have g := f2 rfl
          have qk := q rfl
          refine y_dT h ⟨g.1, ?_⟩
          apply List.ext_getElem?
          intro z
          by_cases hz : (z : Int) < k
          · exact g.2.2 z hz
          · rw [List.getElem?_eq_none (by omega), List.getElem?_eq_none (by omega)]
      refine ⟨by omega, y_rs (by omega) (by omega), y_rs (by omega) (by omega), fun c => fin (fun _ => c), fun c => ⟨fun z => fin (fun q => by rw [z] at q; cases q), fun z => ?_⟩⟩
      obtain ⟨g1, g2, g3⟩ := f2 z
      have hk1 : k.toNat < x.2.1.length := by omega
      have hk2 : k.toNat < w.2.1.length := by omega
      obtain ⟨v1, v2⟩ := x7 k.toNat hk1
      obtain ⟨u1, u2⟩ := w7 k.toNat hk2
      rw [show Int.toNat (41 * (i : Int) + k) = 41 * i + k.toNat by omega, show Int.toNat (41 * (j : Int) + k) = 41 * j + k.toNat by omega, v1, u1]
      have q1 := y_tq_tr v2 hn
      have q2 := y_tq_tr u2 hn
      have inj := y_tq_inj v2 u2 hn
      have go : ∀ s' : Bool, (s' = true ↔ x.2.1[k.toNat] = w.2.1[k.toNat]) → ∃ m, m < (x.2.1.length - k).toNat ∧ D' = D' ∧ (i : Int) = (i : Int) ∧ (j : Int) = (j : Int) ∧ 0 ≤ k + 1 ∧ k + 1 ≤ x.2.1.length ∧ m = (x.2.1.length - (k + 1)).toNat ∧ (s' = false → ¬ (x.1 = w.1 ∧ x.2.1 = w.2.1)) ∧ (s' = true → x.1 = w.1 ∧ x.2.1.length = w.2.1.length ∧ ∀ z : Nat, (z : Int) < k + 1 → x.2.1[z]? = w.2.1[z]?) := by
        intro s' hs'
        refine ⟨_, ?_, rfl, rfl, rfl, by omega, by omega, rfl, fun q e => ?_, fun q => ⟨g1, g2, fun zz hzz => ?_⟩⟩
        · omega
        · have : s' = true := hs'.mpr (by simp only [e.2])
          rw [q] at this
          cases this
        · by_cases hz2 : (zz : Int) < k
          · exact g3 zz hz2
          · have : zz = k.toNat := by omega
            rw [this, List.getElem?_eq_getElem hk1, List.getElem?_eq_getElem hk2]
            exact congrArg some (hs'.mp q)
      exact ⟨by omega, by omega, y_rs (by omega) (by omega), y_rs (by omega) (by omega), fun c3 => go false ⟨fun q => (by cases q), fun q => absurd (by rw [q]) c3⟩, fun c3 => go true ⟨fun _ => inj c3, fun _ => rfl⟩⟩
  · refine r_mAlike (fun _ _ _ _ _ _ => False) (fun _ _ _ _ _ _ => False) ?_ (fun _ _ _ _ _ _ z => z.elim) (fun _ _ _ _ _ _ z => z.elim)
    refine ⟨y_rs (by omega) (by omega), y_rs (by omega) (by omega), fun c => ⟨fun c1 => diff (fun z => c (by rw [z])) (Or.inl (none_of a (by omega))), fun c1 => ⟨fun c2 => by omega, fun c2 => diff (fun z => c (by rw [z])) (Or.inr (none_of b (by omega)))⟩⟩, fun c => ?_⟩
    have he := y_mr_inj ha hb ho.2.2.2.2.2.2.2.2.2.2.2.2.2.2.2.2.2.2.2.2.2.1 c
    subst he
    have e : y_alike S a a = true := by
      unfold y_alike
      rw [none_of a (by omega)]
      simp
    rw [e] at h
    exact h
/-- what string does behind its token -/
def y_strT (t : Int) (S : y_S) : y_Re Unit := if y_un t < 4096 then y_put (y_sp (y_un t % 256)) S
  else match (y_nm S)[(y_un t - 4096).toNat]? with
    | some (ls, b) => y_puts (ls.reverse.map y_sp ++ (if b then [] else [y_sp 92])) S
    | none => .inl ((), S)
theorem c_mString {t : Int} {K : z_D → Prop} (hr : y_rf Q S D) (ho : y_ok st S) (ht : y_tk (y_nn S) t) (h : y_fin (y_strT t S) (fun _ S' => ∀ D', y_rf Q S' D' → K D') (y_rT Q.1 K)) : z_c n (d + 4) 126 [.ref 336, .int (z_i (y_tr t))] D (z_qV K T) := by
  have hn := ho.2.2.2.2.2.2.2.2.2.2.2.2.2.2.2.2.2.2.2.1.2
  have h1 := y_tr_r ht hn
  have h2 := y_tr_name ht hn
  have hut := y_un_tp ht hn
  have hur := y_tp_r hut hn
  have esp : ∀ c : Int, y_code c = true → y_tr (y_sp c) = y_sp c := by
    intro c hc
    have := y_code_r hc
    unfold y_sp y_tr
    split <;> rw [if_pos (by omega)]
  unfold y_strT at h
  by_cases c : t < 4096
  · have e : y_tr t = t := if_pos (by omega)
    have eu : y_un t = t := by unfold y_un; rw [if_neg (by omega)]
    have hch := y_tp_ch (by rw [eu] at hut; exact hut) c
    have hcr := y_ch_r hch
    rw [eu, if_pos c] at h
    refine r_mString (fun _ _ _ _ => False) ?_ (fun _ _ _ _ z => z.elim)
    rw [e]
    refine ⟨y_rs (by omega) (by omega), fun z => by omega, fun _ => ?_⟩
    rw [z_and255 (by omega) (by omega)]
    refine c_mOther (y_rs (by omega) (by omega)) ?_
    rw [← esp _ hch.2.2]
    exact c_mPut hr ho h
  · have hu4 : 4096 ≤ y_un t := by
      rcases ht with z | z | z
      · have := y_ch_r z; omega
      · unfold y_un; rw [if_neg (by omega)]; omega
      · unfold y_un; rw [if_pos (by omega)]; omega
    have hnt : 4096 ≤ y_un t ∧ y_un t < 4096 + ((y_nm S).length : Int) := y_tp_nt hut hu4
    have hn' : (y_nm S).length ≤ 118 := hn
    have hi : (y_un t - 4096).toNat < (y_nm S).length := by omega
    have ep := List.getElem?_eq_getElem hi
    rw [if_neg (by omega), ep] at h
    have hno := ho.2.2.2.2.2.2.2.2.2.2.2.2.2.2.2.2.2.2.2.2.1 _ (List.getElem_mem hi)
    obtain ⟨p1, p2⟩ := hr.1.2.2.2.2.2.2.2.2.1.2 _ _ ep
    generalize (y_nm S)[(y_un t - 4096).toNat] = p at *
    obtain ⟨ls, b⟩ := p
    dsimp only at h p1 p2
    have hl : ls.length ≤ 11 := hno.2.1
    refine r_mString (fun m a k D' => a = y_un t - 4096 ∧ -1 ≤ k ∧ k < ls.length ∧ m = (k + 1).toNat ∧ ((∃ S1, y_rf Q S1 D' ∧ y_ok st S1 ∧ y_nm S1 = y_nm S ∧ y_fin (y_puts ((ls.take (k + 1).toNat).reverse.map y_sp ++ (if b then [] else [y_sp 92])) S1) (fun _ S' => ∀ D', y_rf Q S' D' → K D') (y_rT Q.1 K)) ∨ (∃ S', y_rfw Q.1 S' D' ∧ y_rT Q.1 K S' ∧ y_nm S' = y_nm S))) ?_ ?_
    · refine ⟨y_rs (by omega) (by omega), fun _ => c_mPlain (y_rs (by omega) (by omega)) ?_, fun z => by omega⟩
      rw [y_pl_tr ht hn]
      refine ⟨by omega, _, rfl, by rw [p1.1]; omega, by rw [p1.1]; omega, rfl, Or.inl ⟨S, hr, ho, rfl, ?_⟩⟩
      rw [p1.1, show ((ls.length : Int) - 1 + 1).toNat = ls.length by omega, List.take_length]
      exact h
    · rintro mm a k D' ⟨rfl, k0, k1, rfl, hmode⟩
      rcases hmode with ⟨S1, hr1, ho1, hnm, h⟩ | ⟨S', hw, hT, hnm⟩
      · have e5 : D'.1 336 5 = 0 := hr1.1.2.2.2.2.2.2.2.2.2.2.2.2.2.2.2.2.2.2.1.trans hr1.2
        obtain ⟨p1, p2⟩ := hr1.1.2.2.2.2.2.2.2.2.1.2 (y_un t - 4096).toNat (ls, b) (by rw [hnm]; exact ep)
        dsimp only at p1 p2
        unfold w_mString_38 w_mString_73
        rw [e5, p2]
        refine ⟨y_rs (by omega) (by omega), fun c1 => ⟨by omega, y_zb_r b, fun c2 => ?_, fun c2 => ⟨z_rk rfl, fun z => absurd rfl z, fun _ => ?_⟩⟩, fun c1 => ⟨z_rk rfl, fun z => absurd rfl z, fun _ => ⟨by omega, ?_⟩⟩⟩
        · rw [show (k + 1).toNat = 0 by omega] at h
          have hb : b = true := by cases b <;> first | rfl | exact absurd rfl c2
          subst hb
          exact h D' hr1
        · rw [show (k + 1).toNat = 0 by omega] at h
          have hb : b = false := by cases b <;> first | rfl | cases c2
          subst hb
          have h : y_fin (y_bd (y_put (y_sp 92) S1) (fun _ S2 => .inl ((), S2))) (fun _ S' => ∀ D', y_rf Q S' D' → K D') (y_rT Q.1 K) := h
          refine c_mOther (z_rk rfl) ?_
          rw [← esp 92 (by decide)]
          exact c_mPut hr1 ho1 (y_gt (yo_put ho1 (y_sp_tk (c := 92) (by decide))) h (fun _ S2 _ h D2 hr2 => h D2 hr2) (fun S' hT => hT))
        · have hkl : k.toNat < ls.length := by omega
          have hcode := hno.2.2.1 _ (List.getElem_mem hkl)
          have hcr := y_code_r hcode
          have e340 : D'.1 340 (Int.toNat ((11 * (y_un t - 4096)) + k)) = ls[k.toNat] := by
            rw [show Int.toNat ((11 * (y_un t - 4096)) + k) = 11 * (y_un t - 4096).toNat + k.toNat by omega]
            exact y_pa_at p1 hkl
          rw [e340]
          rw [show (k + 1).toNat = k.toNat + 1 by omega, List.take_succ_eq_append_getElem hkl, List.reverse_append, List.map_append] at h
          have h : y_fin (y_bd (y_put (y_sp ls[k.toNat]) S1) (fun _ S2 => y_puts ((ls.take k.toNat).reverse.map y_sp ++ (if b then [] else [y_sp 92])) S2)) (fun _ S' => ∀ D', y_rf Q S' D' → K D') (y_rT Q.1 K) := h
          refine c_mOther (y_rs (by omega) (by omega)) ?_
          rw [← esp _ hcode]
          have hfl : y_fin (y_put (y_sp ls[k.toNat]) S1) (fun _ _ => True) (fun S' => y_nm S' = y_nm S1) := by
            unfold y_put
            split
            · exact rfl
            · trivial
          refine c_mPut hr1 ho1 ?_
          cases hp : y_put (y_sp ls[k.toNat]) S1 with
          | inl q =>
            have hpn := yo_putn ho1 (y_sp_tk (n := y_nn S1) hcode)
            rw [hp] at h hpn
            obtain ⟨b1, b2, b3⟩ := hpn
            intro D2 hr2
            refine ⟨_, ?_, rfl, by omega, by omega, rfl, Or.inl ⟨q.2, hr2, b1, b3.trans hnm, ?_⟩⟩
            · omega
            · rw [show k + (-1) + 1 = k by omega]; exact h
          | inr q =>
            rw [hp] at h hfl
            intro D2 hw
            refine ⟨_, ?_, rfl, by omega, by omega, rfl, Or.inr ⟨q, hw, h, ?_⟩⟩
            · omega
            · have : y_nm q = y_nm S1 := hfl
              rw [this, hnm]
      · have hf := y_rfw_f hw
        obtain ⟨A, F, v, hr2, _⟩ := hw
        obtain ⟨p1', p2'⟩ := hr2.2.2.2.2.2.2.2.2.1.2 (y_un t - 4096).toNat (ls, b) (by show (y_nm S')[_]? = _; rw [hnm]; exact ep)
        dsimp only at p1' p2'
        have hw : y_rfw Q.1 S' D' := ⟨A, F, v, hr2, by assumption⟩
        have fin : w_mString_73 n (d + 3) (y_un t - 4096) D' K T := by
          unfold w_mString_73
          rw [p2']
          exact ⟨by omega, y_zb_r b, fun _ => hT D' hw, fun _ => ⟨y_rs (by omega) (by omega), fun _ => hT D' hw, fun z => by omega⟩⟩
        exact ⟨y_rs (by omega) (by omega), fun _ => fin, fun _ => ⟨y_rs (by omega) (by omega), fun _ => fin, fun z => by omega⟩⟩
end RS
