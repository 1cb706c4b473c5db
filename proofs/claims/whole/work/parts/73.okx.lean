/-! validity: definitions, expansions, steps -/
theorem y_un_tp {n : Nat} {t : Int} (h : y_tk n t) (hn : n ≤ 118) : y_tp n (y_un t) := by
  unfold y_un
  rcases h with h | h | h
  · have := y_ch_r h
    rw [if_neg (by omega)]; exact Or.inl h
  · rw [if_neg (by omega)]; exact Or.inr h
  · rw [if_pos (by omega)]; exact Or.inr ⟨by omega, by omega⟩
theorem y_tp_tk {n : Nat} {t : Int} (h : y_tp n t) : y_tk n t := h.imp id Or.inl
theorem y_tp_nt {n : Nat} {t : Int} (h : y_tp n t) (h1 : 4096 ≤ t) : y_nt n t := by
  rcases h with h | h
  · have := h.2.1; omega
  · exact h
theorem y_tp_ch {n : Nat} {t : Int} (h : y_tp n t) (h1 : t < 4096) : y_ch t := by
  rcases h with h | h
  · exact h
  · omega
theorem y_nt_ky {n : Nat} {t : Int} (h : y_nt n t) : y_ky n t := Or.inr h
theorem y_nt_kv {n m : Nat} {t v : Int} (h : y_nt n t) (hv : y_mn m v) : y_kv m t v := ⟨fun c => by have := h.1; omega, fun _ => hv⟩
theorem y_dg_r (t : Int) : y_dg t = -1 ∨ (0 ≤ y_dg t ∧ y_dg t ≤ 9) := by unfold y_dg; split <;> omega
section OKX
variable {S : y_S} {st : Int}
theorem yo_name (h : y_ok st S) : y_fin (y_name S) (fun t S' => y_ok st S' ∧ y_lg S S' ∧ y_nt (y_nn S') t) (y_ok st) := by
  refine y_ob (yo_getT h) (fun t S1 ⟨k1, k2, k3, _⟩ => ?_)
  split
  · exact yo_ft k1 (by decide) (by decide)
  · exact ⟨k1, k2, y_tp_nt (y_un_tp k3 k1.2.2.2.2.2.2.2.2.2.2.2.2.2.2.2.2.2.2.2.1.2) (by omega)⟩
theorem y_nt_le {n m : Nat} {t : Int} (h : y_nt n t) (hn : n ≤ m) : y_nt m t := ⟨h.1, by have := h.2; omega⟩
theorem yo_letc (h : y_ok st S) : y_fin (y_letc S) (fun _ S' => y_ok st S' ∧ y_lg S S') (y_ok st) := by
  refine y_ob (yo_name h) (fun nm S1 ⟨k1, k2, k3⟩ => y_ob (yo_getT k1) (fun t S2 ⟨a1, a2, a3, _⟩ => ?_))
  have k4 := y_nt_le k3 a2.1
  split
  · refine y_ob (yo_getT a1) (fun u S3 ⟨b1, b2, b3, _⟩ => ?_)
    have k5 := y_nt_le k4 b2.1
    exact y_om (yo_chg b1 (y_nt_ky k5) (y_nt_kv k5 (y_mo_ok b1 b3))) (fun _ S4 ⟨c1, c2⟩ => ⟨c1, y_lg_t (y_lg_t k2 a2) (y_lg_t b2 c2)⟩)
  · exact y_om (yo_chg a1 (y_nt_ky k4) (y_nt_kv k4 (y_mo_ok a1 a3))) (fun _ S4 ⟨c1, c2⟩ => ⟨c1, y_lg_t (y_lg_t k2 a2) c2⟩)
theorem y_only_r (h : y_ok st S) (k : Int) : y_only S k = -1 ∨ y_code (y_only S k) = true := by
  unfold y_only
  split
  · next c b e => exact Or.inr ((h.2.2.2.2.2.2.2.2.2.2.2.2.2.2.2.2.2.2.2.2.1 _ (List.mem_of_getElem? e)).2.2.1 c (by simp))
  · exact Or.inl rfl
/-- the character whose category is changed -/
def y_cc (S : y_S) (t : Int) : Int := if t < 4096 then t % 256 else y_only S (t - 4096)
theorem y_cc_r (h : y_ok st S) {t : Int} (ht : y_tp (y_nn S) t) : y_cc S t = -1 ∨ (10 ≤ y_cc S t ∧ y_cc S t ≤ 126) := by
  unfold y_cc
  split
  · next c => exact Or.inr (y_code_r (y_tp_ch ht c).2.2)
  · exact (y_only_r h _).imp id y_code_r
theorem yo_catc (h : y_ok st S) : y_fin (y_catc S) (fun _ S' => y_ok st S' ∧ y_lg S S') (y_ok st) := by
  refine y_ob (yo_getT h) (fun t0 S1 ⟨k1, k2, k3, _⟩ => ?_)
  dsimp only
  have hc := y_cc_r k1 (y_un_tp k3 k1.2.2.2.2.2.2.2.2.2.2.2.2.2.2.2.2.2.2.2.1.2)
  show y_fin (if y_cc S1 (y_un t0) = -1 then y_ft S1 4 else _) _ _
  split
  · exact yo_ft k1 (by decide) (by decide)
  · next c =>
    have hc' := hc.resolve_left c
    refine y_ob (yo_getT k1) (fun u S2 ⟨a1, a2, a3, _⟩ => ?_)
    split
    · exact yo_ft a1 (by decide) (by decide)
    · next c1 =>
      refine y_ob (yo_get a1) (fun e S3 ⟨b1, b2, b3⟩ => ?_)
      have hu := y_dg_r u
      have he := y_dg_r e
      split
      · next c2 =>
        split
        · exact yo_ft b1 (by decide) (by decide)
        · exact y_om (yo_chg b1 (Or.inl ⟨by show 0 ≤ y_cc S1 (y_un t0); omega, by show y_cc S1 (y_un t0) < 128; omega⟩) ⟨fun _ => by omega, fun q => by
            have q' : 4096 ≤ y_cc S1 (y_un t0) := q
            omega⟩) (fun _ S4 ⟨d1, d2⟩ => ⟨d1, y_lg_t (y_lg_t k2 a2) (y_lg_t b2 d2)⟩)
      · split
        · next c3 =>
          refine y_ob (yo_put b1 (b3.resolve_left (fun q => c3 q.1)).1) (fun _ S4 ⟨e1, e2⟩ => ?_)
          exact y_om (yo_chg e1 (Or.inl ⟨by show 0 ≤ y_cc S1 (y_un t0); omega, by show y_cc S1 (y_un t0) < 128; omega⟩) ⟨fun _ => by omega, fun q => by
            have q' : 4096 ≤ y_cc S1 (y_un t0) := q
            omega⟩) (fun _ S5 ⟨d1, d2⟩ => ⟨d1, y_lg_t (y_lg_t k2 a2) (y_lg_t b2 (y_lg_t e2 d2))⟩)
        · exact y_om (yo_chg b1 (Or.inl ⟨by show 0 ≤ y_cc S1 (y_un t0); omega, by show y_cc S1 (y_un t0) < 128; omega⟩) ⟨fun _ => by omega, fun q => by
            have q' : 4096 ≤ y_cc S1 (y_un t0) := q
            omega⟩) (fun _ S4 ⟨d1, d2⟩ => ⟨d1, y_lg_t (y_lg_t k2 a2) (y_lg_t b2 d2)⟩)
/-- the draft -/
def y_dr (S : y_S) (tx bd : List Int) (p : Int) : Prop := y_a S 4 = some tx ∧ y_a S 5 = some bd ∧ y_dp S = some p ∧ y_mk (y_nn S) (tx, bd, p)
/-- what is kept, but for the draft -/
def y_ld (S S' : y_S) : Prop := y_nn S ≤ y_nn S' ∧ y_mac S' = y_mac S ∧ y_s S' 3 = y_s S 3 ∧ y_l S' 0 = y_l S 0
theorem y_ld_t {A B C : y_S} (h : y_ld A B) (k : y_ld B C) : y_ld A C := ⟨Nat.le_trans h.1 k.1, k.2.1.trans h.2.1, k.2.2.1.trans h.2.2.1, k.2.2.2.trans h.2.2.2⟩
theorem y_ld_rf (S : y_S) : y_ld S S := ⟨Nat.le_refl _, rfl, rfl, rfl⟩
theorem y_le_ld {A B : y_S} (h : y_le A B) : y_ld A B := ⟨h.1, h.2.1, h.2.2.2.2.2.2.1, h.2.2.2.2.2.2.2.2.2.1⟩
theorem y_dr_le {A B : y_S} {tx bd : List Int} {p : Int} (h : y_dr A tx bd p) (k : y_le A B) : y_dr B tx bd p := ⟨k.2.2.1.trans h.1, k.2.2.2.1.trans h.2.1, k.2.2.2.2.1.trans h.2.2.1, y_mk_le h.2.2.2 k.1⟩
theorem yo_par (h : y_ok st S) {p : Int} (hp : y_dp S = some p) (h0 : 0 ≤ p) : y_fin (y_par S) (fun t S' => y_ok st S' ∧ y_lg S (y_sdp S' (y_dp S)) ∧ y_dp S' = some (p + 1) ∧ t = 8192 + (p + 1) ∧ p + 1 ≤ 4) (y_ok st) := by
  refine y_ob (yo_getT h) (fun g S1 ⟨k1, k2, k3, _⟩ => ?_)
  have e : y_dpr S1 = p := by unfold y_dpr; rw [k2.2.2.2.1, hp]; rfl
  rw [e]
  split
  · exact yo_ft k1 (by decide) (by decide)
  · next c =>
    refine ⟨y_ok_dp k1 _, ?_, rfl, rfl, by omega⟩
    obtain ⟨a1, a2, a3, a4, a5, a6, a7, a8, a9, a0⟩ := k2
    exact ⟨a1, a2, a3, rfl, a5, a6, a7, a8, a9, a0⟩
theorem y_cnt_snoc (l : List Int) (t : Int) : y_cnt (l ++ [t]) = y_cnt l + (if 8192 ≤ t then 1 else 0) := by
  unfold y_cnt
  rw [List.filter_append, List.length_append]
  split <;> simp [*]
theorem y_tx_snoc {n : Nat} {l : List Int} {p t q : Int} (h : y_tx n l p) (hl : l.length < 12) (ht : (t = 8192 + q ∧ q = p + 1 ∧ 0 ≤ p) ∨ (y_tp n t ∧ q = p)) (hn : n ≤ 118) (hb : y_bs t = 0) : y_tx n (l ++ [t]) q := by
  obtain ⟨h1, h2, h3, h4⟩ := h
  refine ⟨by simp; omega, ?_, fun x hx => ?_, fun x hx => ?_⟩
  · rw [y_cnt_snoc]
    rcases ht with ht | ht
    · rw [if_pos (by omega)]; omega
    · have := y_tp_r ht.1 hn
      rw [if_neg (by omega)]; omega
  · rcases List.mem_append.mp hx with hx | hx
    · exact (h3 x hx).imp (fun z => by rcases ht with ht | ht <;> omega) id
    · rw [List.mem_singleton.mp hx]
      rcases ht with ht | ht
      · exact Or.inl (by omega)
      · exact Or.inr ht.1
  · rcases List.mem_append.mp hx with hx | hx
    · exact h4 x hx
    · rw [List.mem_singleton.mp hx]; exact hb
theorem yo_rtx : ∀ (f : Nat) (S : y_S) (tx : List Int) (p : Int), y_ok st S → y_dr S tx [] p → y_fin (y_rtx f S) (fun _ S' => y_ok st S' ∧ y_ld S S' ∧ ∃ tx p, y_dr S' tx [] p) (y_ok st)
  | 0, S, tx, p, h, hd => ⟨h, y_ld_rf S, tx, p, hd⟩
  | f + 1, S, tx, p, h, hd => by
    unfold y_rtx
    refine y_ob (yo_getT h) (fun t0 S1 ⟨k1, k2, k3, _⟩ => ?_)
    dsimp only
    have hn := k1.2.2.2.2.2.2.2.2.2.2.2.2.2.2.2.2.2.2.2.1.2
    have ht := y_un_tp k3 hn
    have hd1 := y_dr_le hd (y_lg_le k2)
    split
    · exact ⟨k1, y_le_ld (y_lg_le k2), tx, p, hd1⟩
    · split
      · exact yo_ft k1 (by decide) (by decide)
      · refine y_ob (P := fun t S2 => y_ok st S2 ∧ y_ld S1 S2 ∧ ∃ q, y_a S2 4 = some tx ∧ y_a S2 5 = some [] ∧ y_dp S2 = some q ∧ y_mk (y_nn S2) (tx, [], p) ∧ q ≤ 4 ∧ ((t = 8192 + q ∧ q = p + 1 ∧ 0 ≤ p) ∨ (y_tp (y_nn S2) t ∧ q = p)) ∧ y_bs t = 0) ?_ ?_
        · split
          · refine y_om (yo_par k1 hd1.2.2.1 hd1.2.2.2.2.2.1) (fun t S2 ⟨a1, a2, a3, a4, a5⟩ => ⟨a1, ⟨a2.1, a2.2.1, a2.2.2.2.2.2.1, a2.2.2.2.2.2.2.2.2.1⟩, p + 1, (congrFun a2.2.2.1 4).trans hd1.1, (congrFun a2.2.2.1 5).trans hd1.2.1, a3, y_mk_le hd1.2.2.2 a2.1, a5, Or.inl ⟨a4, rfl, hd1.2.2.2.2.2.1⟩, by
              have := hd1.2.2.2.2.2.1
              unfold y_bs
              rw [if_neg (by dsimp only at this; omega), if_neg (by dsimp only at this; omega)]⟩)
          · exact ⟨k1, y_ld_rf S1, p, hd1.1, hd1.2.1, hd1.2.2.1, hd1.2.2.2, hd1.2.2.2.2.2.2, Or.inr ⟨ht, rfl⟩, by
              unfold y_bs
              rw [if_neg (by assumption), if_neg (by assumption)]⟩
        · rintro t S2 ⟨b1, b2, q, b3, b4, b5, b6, b8, b7, b9⟩
          have e : y_dtx S2 = tx := by unfold y_dtx; rw [b3]; rfl
          refine y_ob (P := fun _ S3 => y_ok st S3 ∧ y_ld S2 S3 ∧ ∃ tx p, y_dr S3 tx [] p) ?_ ?_
          · unfold y_addt
            rw [e]
            split
            · exact yo_ft b1 (by decide) (by decide)
            · next c =>
              refine ⟨y_ok_ad b1 (by decide) _, ⟨Nat.le_refl _, rfl, rfl, rfl⟩, tx ++ [t], q, rfl, b4, b5, ⟨y_tx_snoc b6.1 (by omega) b7 b1.2.2.2.2.2.2.2.2.2.2.2.2.2.2.2.2.2.2.2.1.2 b9, ⟨by simp, fun x hx => (by cases hx)⟩, ?_, b8⟩⟩
              have : 0 ≤ p := b6.2.2.1
              show 0 ≤ q
              rcases b7 with b7 | b7 <;> omega
          · rintro _ S3 ⟨c1, c2, tx', p', c3⟩
            exact y_om (yo_rtx f S3 tx' p' c1 c3) (fun _ S4 ⟨d1, d2, d3⟩ => ⟨d1, y_ld_t (y_ld_t (y_le_ld (y_lg_le k2)) b2) (y_ld_t c2 d2), d3⟩)
theorem y_d6 {t : Int} {n : Nat} (h : y_tk n t) (h6 : t / 256 = 6) : y_tp n t := by
  rcases h with h | h | h
  · exact Or.inl h
  · omega
  · omega
theorem yo_hash (h : y_ok st S) {p t : Int} (hp : y_dp S = some p) (ht : y_tk (y_nn S) t) : y_fin (y_hash t S) (fun u S' => y_ok st S' ∧ S' = S ∧ ((8193 ≤ u ∧ u < 8193 + p) ∨ y_tp (y_nn S) u)) (y_ok st) := by
  have e : y_dpr S = p := by unfold y_dpr; rw [hp]; rfl
  unfold y_hash
  rw [e]
  split
  · next c => exact ⟨h, rfl, Or.inr (y_d6 ht c)⟩
  · split
    · exact yo_ft h (by decide) (by decide)
    · next c => exact ⟨h, rfl, Or.inl (by show 8193 ≤ 8192 + (t % 256 - 48) ∧ 8192 + (t % 256 - 48) < 8193 + p; omega)⟩
theorem yo_rbd {g : y_S → y_Re Int} (hg : ∀ S, y_ok st S → y_fin (g S) (fun t S' => y_ok st S' ∧ y_le S S' ∧ y_tk (y_nn S') t) (y_ok st)) {tx : List Int} {p : Int} : ∀ (f : Nat) (dp : Int) (S : y_S) (bd : List Int), y_ok st S → y_dr S tx bd p → y_fin (y_rbd g f dp S) (fun _ S' => y_ok st S' ∧ y_ld S S' ∧ ∃ bd, y_dr S' tx bd p) (y_ok st)
  | 0, dp, S, bd, h, hd => ⟨h, y_ld_rf S, bd, hd⟩
  | f + 1, dp, S, bd, h, hd => by
    unfold y_rbd
    refine y_ob (hg S h) (fun t0 S1 ⟨k1, k2, k3⟩ => ?_)
    dsimp only
    have ht := y_un_tp k3 k1.2.2.2.2.2.2.2.2.2.2.2.2.2.2.2.2.2.2.2.1.2
    have hd1 := y_dr_le hd k2
    split
    · exact ⟨k1, y_le_ld k2, bd, hd1⟩
    · refine y_ob (P := fun u S2 => y_ok st S2 ∧ y_le S1 S2 ∧ ((8193 ≤ u ∧ u < 8193 + p) ∨ y_tp (y_nn S2) u)) ?_ ?_
      · split
        · refine y_ob (hg S1 k1) (fun t S2 ⟨a1, a2, a3⟩ => y_om (yo_hash a1 (y_dr_le hd1 a2).2.2.1 a3) (fun u S3 ⟨b1, b2, b3⟩ => by subst b2; exact ⟨b1, a2, b3⟩))
        · exact ⟨k1, y_le_rf S1, Or.inr ht⟩
      · rintro u S2 ⟨b1, b2, b3⟩
        have hd2 := y_dr_le hd1 b2
        have e : y_dbd S2 = bd := by unfold y_dbd; rw [hd2.2.1]; rfl
        refine y_ob (P := fun _ S3 => y_ok st S3 ∧ y_ld S2 S3 ∧ y_dr S3 tx (bd ++ [u]) p) ?_ ?_
        · unfold y_addb
          rw [e]
          split
          · exact yo_ft b1 (by decide) (by decide)
          · next c =>
            refine ⟨y_ok_ad b1 (by decide) _, ⟨Nat.le_refl _, rfl, rfl, rfl⟩, hd2.1, rfl, hd2.2.2.1, hd2.2.2.2.1, ⟨by simp; omega, fun x hx => ?_⟩, hd2.2.2.2.2.2⟩
            rcases List.mem_append.mp hx with hx | hx
            · exact hd2.2.2.2.2.1.2 x hx
            · rw [List.mem_singleton.mp hx]; exact b3
        · rintro _ S3 ⟨c1, c2, c3⟩
          exact y_om (yo_rbd hg f _ S3 _ c1 c3) (fun _ S4 ⟨d1, d2, d3⟩ => ⟨d1, y_ld_t (y_ld_t (y_le_ld k2) (y_le_ld b2)) (y_ld_t c2 d2), d3⟩)
theorem yo_defn (h : y_ok st S) {tx bd : List Int} {p nm : Int} {all : Bool} (hd : y_dr S tx bd p) (hn : y_nt (y_nn S) nm) : y_fin (y_defn nm all S) (fun _ S' => y_ok st S' ∧ y_s S' 3 = y_s S 3 ∧ y_l S' 0 = y_l S 0) (y_ok st) := by
  unfold y_defn
  split
  · exact yo_ft h (by decide) (by decide)
  · next c =>
    have e1 : y_dtx S = tx := by unfold y_dtx; rw [hd.1]; rfl
    have e2 : y_dbd S = bd := by unfold y_dbd; rw [hd.2.1]; rfl
    have e3 : y_dpr S = p := by unfold y_dpr; rw [hd.2.2.1]; rfl
    rw [e1, e2, e3]
    dsimp only
    have h1 := y_ok_dp (y_ok_ad (y_ok_ad (y_ok_mac h (Nat.lt_of_not_le c) hd.2.2.2) (i := 4) (by decide) none) (i := 5) (by decide) none) none
    have hm : y_mn (y_mm S + 1) (4096 + (y_mm S : Int)) := Or.inr (Or.inr ⟨by omega, by omega⟩)
    have em : (y_mac S ++ [(tx, bd, p)]).length = y_mm S + 1 := by simp
    rw [← em] at hm
    split
    · have h2 : y_ok st (y_sl (y_sdp (y_sa (y_sa (y_smac S (y_mac S ++ [(tx, bd, p)])) 4 none) 5 none) none) 6 (List.zipWith (fun k x => if k = nm then 4096 + (y_mm S : Int) else x) (y_l S 5) (y_l S 6))) := by
        have h13 := h.2.2.2.2.2.2.2.2.2.2.2.2.1
        refine ⟨h1.1, h1.2.1, h1.2.2.1, h1.2.2.2.1, h1.2.2.2.2.1, h1.2.2.2.2.2.1, h1.2.2.2.2.2.2.1, h1.2.2.2.2.2.2.2.1, h1.2.2.2.2.2.2.2.2.1, h1.2.2.2.2.2.2.2.2.2.1, h1.2.2.2.2.2.2.2.2.2.2.1, h1.2.2.2.2.2.2.2.2.2.2.2.1, ?_, h1.2.2.2.2.2.2.2.2.2.2.2.2.2.1, h1.2.2.2.2.2.2.2.2.2.2.2.2.2.2.1, ?_, h1.2.2.2.2.2.2.2.2.2.2.2.2.2.2.2.2.1, h1.2.2.2.2.2.2.2.2.2.2.2.2.2.2.2.2.2.1, h1.2.2.2.2.2.2.2.2.2.2.2.2.2.2.2.2.2.2.1, h1.2.2.2.2.2.2.2.2.2.2.2.2.2.2.2.2.2.2.2.1, h1.2.2.2.2.2.2.2.2.2.2.2.2.2.2.2.2.2.2.2.2.1, h1.2.2.2.2.2.2.2.2.2.2.2.2.2.2.2.2.2.2.2.2.2.1, h1.2.2.2.2.2.2.2.2.2.2.2.2.2.2.2.2.2.2.2.2.2.2.1, h1.2.2.2.2.2.2.2.2.2.2.2.2.2.2.2.2.2.2.2.2.2.2.2.1, h1.2.2.2.2.2.2.2.2.2.2.2.2.2.2.2.2.2.2.2.2.2.2.2.2.1, h1.2.2.2.2.2.2.2.2.2.2.2.2.2.2.2.2.2.2.2.2.2.2.2.2.2.1, h1.2.2.2.2.2.2.2.2.2.2.2.2.2.2.2.2.2.2.2.2.2.2.2.2.2.2.1, h1.2.2.2.2.2.2.2.2.2.2.2.2.2.2.2.2.2.2.2.2.2.2.2.2.2.2.2.1, h1.2.2.2.2.2.2.2.2.2.2.2.2.2.2.2.2.2.2.2.2.2.2.2.2.2.2.2.2⟩
        · show (List.zipWith _ (y_l S 5) (y_l S 6)).length = (y_l S 5).length
          rw [List.length_zipWith]; omega
        · intro i k v a b
          have a' : (y_l S 5)[i]? = some k := a
          have b' : (List.zipWith (fun k x => if k = nm then 4096 + (y_mm S : Int) else x) (y_l S 5) (y_l S 6))[i]? = some v := b
          rw [List.getElem?_zipWith, a'] at b'
          cases e6 : (y_l S 6)[i]? with
          | none => rw [e6] at b'; cases b'
          | some w =>
            rw [e6] at b'
            have hk := h1.2.2.2.2.2.2.2.2.2.2.2.2.2.2.2.1 i k w a' e6
            refine ⟨hk.1, ?_⟩
            dsimp only at b'
            cases b'
            split
            · next e => subst e; exact y_nt_kv hn hm
            · exact hk.2
      exact ⟨y_ok_set h2 (y_nt_ky hn) (y_nt_kv hn hm), (lg_set _ _ _).2.2.2.2.2.1, by rw [set_l]; rfl⟩
    · exact y_om (yo_chg h1 (y_nt_ky hn) (y_nt_kv hn hm)) (fun _ S' ⟨a, b⟩ => ⟨a, b.2.2.2.2.2.1, b.2.2.2.2.2.2.2.2.1⟩)
theorem y_dr0 (h : y_ok st S) : y_ok st (y_sdp (y_sa (y_sa S 4 (some [])) 5 (some [])) (some 0)) ∧ y_dr (y_sdp (y_sa (y_sa S 4 (some [])) 5 (some [])) (some 0)) [] [] 0 := by
  refine ⟨y_ok_dp (y_ok_ad (y_ok_ad h (by decide) _) (by decide) _) _, rfl, rfl, rfl, ⟨by simp, rfl, fun x hx => (by cases hx), fun x hx => (by cases hx)⟩, ⟨by simp, fun x hx => (by cases hx)⟩, by decide, by decide⟩
theorem yo_def {ex : Int → y_S → y_Re Unit} {gx : y_S → y_Re Int} (hg : ∀ S, y_ok st S → y_fin (gx S) (fun t S' => y_ok st S' ∧ y_le S S' ∧ y_tk (y_nn S') t) (y_ok st)) (h : y_ok st S) {m : Int} : y_fin (y_def ex gx m S) (fun _ S' => y_ok st S' ∧ y_s S' 3 = y_s S 3 ∧ y_l S' 0 = y_l S 0) (y_ok st) := by
  refine y_ob (yo_name h) (fun nm S1 ⟨k1, k2, k3⟩ => ?_)
  obtain ⟨d1, d2⟩ := y_dr0 k1
  refine y_ob (yo_rtx 13 _ [] 0 d1 d2) (fun _ S2 ⟨a1, a2, tx, p, a3⟩ => ?_)
  have hg2 : ∀ S, y_ok st S → y_fin ((if m = 5 then gx else y_get true) S) (fun t S' => y_ok st S' ∧ y_le S S' ∧ y_tk (y_nn S') t) (y_ok st) := by
    intro S hS
    split
    · exact hg S hS
    · exact y_om (yo_getT hS) (fun t S' ⟨q1, q2, q3, _⟩ => ⟨q1, y_lg_le q2, q3⟩)
  refine y_ob (yo_rbd hg2 41 0 S2 [] a1 a3) (fun _ S3 ⟨b1, b2, bd, b3⟩ => ?_)
  have l1 : y_nn S1 ≤ y_nn S2 := a2.1
  refine y_om (yo_defn b1 b3 (y_nt_le k3 (Nat.le_trans l1 b2.1))) (fun _ S4 ⟨c1, c2, c3⟩ => ⟨c1, ?_, ?_⟩)
  · rw [c2, b2.2.2.1, a2.2.2.1]; exact k2.2.2.2.2.2.1
  · rw [c3, b2.2.2.2, a2.2.2.2]; exact k2.2.2.2.2.2.2.2.2.1
-- expansions
def y_hx (st : Int) (ex : Int → y_S → y_Re Unit) : Prop := ∀ m S, y_ok st S → y_mn (y_mm S) m → y_fin (ex m S) (fun _ S' => y_ok st S' ∧ y_le S S' ∧ y_s S 4 < y_s S' 4) (y_ok st)
section EX
variable {ex : Int → y_S → y_Re Unit}
theorem yo_getx (hx : y_hx st ex) : ∀ (f : Nat) (S : y_S), y_ok st S → y_fin (y_getx ex f S) (fun t S' => y_ok st S' ∧ y_le S S' ∧ y_tk (y_nn S') t) (y_ok st)
  | 0, S, h => yo_ft h (by decide) (by decide)
  | f + 1, S, h => by
    unfold y_getx
    refine y_ob (yo_getT h) (fun t S1 ⟨k1, k2, k3, _⟩ => ?_)
    split
    · exact y_ob (hx _ _ k1 (y_mo_ok k1 k3)) (fun _ S2 ⟨a1, a2, _⟩ => y_om (yo_getx hx f S2 a1) (fun t S3 ⟨b1, b2, b3⟩ => ⟨b1, y_le_t (y_lg_le k2) (y_le_t a2 b2), b3⟩))
    · exact ⟨k1, y_lg_le k2, k3⟩
theorem yo_after (hx : y_hx st ex) (h : y_ok st S) : y_fin (y_after ex S) (fun _ S' => y_ok st S' ∧ y_le S S') (y_ok st) := by
  refine y_ob (yo_getT h) (fun a S1 ⟨k1, k2, k3, _⟩ => y_ob (yo_getT k1) (fun b S2 ⟨a1, a2, a3, _⟩ => ?_))
  refine y_ob (P := fun _ S3 => y_ok st S3 ∧ y_le S2 S3) ?_ (fun _ S3 ⟨b1, b2⟩ => y_om (yo_put b1 (y_tk_le k3 (Nat.le_trans a2.1 b2.1))) (fun _ S4 ⟨c1, c2⟩ => ⟨c1, y_le_t (y_le_t (y_lg_le k2) (y_lg_le a2)) (y_le_t b2 (y_lg_le c2))⟩))
  split
  · exact y_om (hx _ _ a1 (y_mo_ok a1 a3)) (fun _ S3 ⟨q1, q2, _⟩ => ⟨q1, q2⟩)
  · exact y_om (yo_put a1 a3) (fun _ S3 ⟨q1, q2⟩ => ⟨q1, y_lg_le q2⟩)
theorem y_ex_nt {t : Int} (ht : y_tk (y_nn S) t) (he : y_isex (y_mo S t) = true) : y_nt (y_nn S) t := by
  unfold y_isex at he
  have he := of_decide_eq_true he
  unfold y_mo at he
  rcases ht with ht | ht | ht
  · have := y_ch_r ht
    rw [if_pos (by omega)] at he
    omega
  · exact ht
  · rw [if_neg (by omega), if_pos (by omega)] at he
    omega
theorem yo_mark (h : y_ok st S) : y_fin (y_mark S) (fun _ S' => y_ok st S' ∧ y_lg S S') (y_ok st) := by
  refine y_ob (yo_getT h) (fun t S1 ⟨k1, k2, k3, _⟩ => y_om (yo_put k1 ?_) (fun _ S2 ⟨a1, a2⟩ => ⟨a1, y_lg_t k2 a2⟩))
  split
  · next c =>
    have := y_ex_nt k3 c
    exact Or.inr (Or.inr ⟨by have := this.1; omega, by have := this.2; omega⟩)
  · exact k3
theorem yo_csn (hx : y_hx st ex) : ∀ (f : Nat) (ls : List Int) (S : y_S), y_ok st S → ls.length ≤ 11 → (∀ c ∈ ls, y_code c = true) → y_fin (y_csn ex f ls S) (fun r S' => y_ok st S' ∧ y_le S S' ∧ r.length ≤ 11 ∧ ∀ c ∈ r, y_code c = true) (y_ok st)
  | 0, ls, S, h, h1, h2 => ⟨h, y_le_rf S, h1, h2⟩
  | f + 1, ls, S, h, h1, h2 => by
    unfold y_csn
    refine y_ob (yo_getx hx 201 S h) (fun t S1 ⟨k1, k2, k3⟩ => ?_)
    split
    · exact ⟨k1, k2, h1, h2⟩
    · split
      · exact yo_ft k1 (by decide) (by decide)
      · split
        · exact yo_ft k1 (by decide) (by decide)
        · next c1 c2 =>
          refine y_om (yo_csn hx f _ S1 k1 (by simp; omega) (fun x hx' => ?_)) (fun r S2 ⟨a1, a2, a3⟩ => ⟨a1, y_le_t k2 a2, a3⟩)
          rcases List.mem_append.mp hx' with hx' | hx'
          · exact h2 x hx'
          · rw [List.mem_singleton.mp hx']
            rcases k3 with k3 | k3 | k3
            · exact k3.2.2
            · omega
            · omega
theorem yo_cs (hx : y_hx st ex) (h : y_ok st S) : y_fin (y_cs ex S) (fun _ S' => y_ok st S' ∧ y_le S S') (y_ok st) := by
  refine y_ob (yo_csn hx 12 [] S h (by simp) (fun c hc => by cases hc)) (fun ls S1 ⟨k1, k2, k3, k4⟩ => ?_)
  split
  · exact yo_ft k1 (by decide) (by decide)
  · next c =>
    have hl : 1 ≤ ls.length := by
      cases ls with
      | nil => exact absurd rfl c
      | cons a b => simp
    refine y_ob (yo_find k1 ⟨hl, k3, k4, fun q => (by cases q)⟩) (fun t S2 ⟨a1, a2, a3, a4, a5⟩ => ?_)
    refine y_ob (P := fun _ S3 => y_ok st S3 ∧ y_lg S2 S3) ?_ (fun _ S3 ⟨b1, b2⟩ => y_om (yo_put b1 (y_nt_tk (y_nt_le a5 b2.1))) (fun _ S4 ⟨c1, c2⟩ => ⟨c1, y_le_t k2 (y_lg_le (y_lg_t a2 (y_lg_t b2 c2)))⟩))
    split
    · exact yo_chg a1 (y_nt_ky a5) (y_nt_kv a5 (Or.inl (by decide)))
    · exact ⟨a1, y_lg_rf S2⟩
theorem yo_puts : ∀ (l : List Int) (S : y_S), y_ok st S → (∀ t ∈ l, y_tk (y_nn S) t) → y_fin (y_puts l S) (fun _ S' => y_ok st S' ∧ y_lg S S') (y_ok st)
  | [], S, h, _ => ⟨h, y_lg_rf S⟩
  | t :: r, S, h, ht => by
    refine y_ob (yo_put h (ht t (by simp))) (fun _ S1 ⟨k1, k2⟩ => y_om (yo_puts r S1 k1 (fun x hx' => y_tk_le (ht x (by simp [hx'])) k2.1)) (fun _ S2 ⟨a1, a2⟩ => ⟨a1, y_lg_t k2 a2⟩))
theorem y_sp_tk {n : Nat} {c : Int} (h : y_code c = true) : y_tk n (y_sp c) := by
  unfold y_sp
  have := y_code_r h
  split
  · exact y_bl n
  · refine Or.inl ⟨by omega, by omega, ?_⟩
    rw [show (c + 3072) % 256 = c by omega]
    exact h
theorem yo_str (h : y_ok st S) : y_fin (y_str S) (fun _ S' => y_ok st S' ∧ y_lg S S') (y_ok st) := by
  refine y_ob (yo_getT h) (fun t0 S1 ⟨k1, k2, k3, _⟩ => ?_)
  have ht := y_un_tp k3 k1.2.2.2.2.2.2.2.2.2.2.2.2.2.2.2.2.2.2.2.1.2
  dsimp only
  split
  · next c => exact y_om (yo_put k1 (y_sp_tk (y_tp_ch ht c).2.2)) (fun _ S2 ⟨a1, a2⟩ => ⟨a1, y_lg_t k2 a2⟩)
  · split
    · next ls b e =>
      have hq := k1.2.2.2.2.2.2.2.2.2.2.2.2.2.2.2.2.2.2.2.2.1 _ (List.mem_of_getElem? e)
      refine y_om (yo_puts _ S1 k1 (fun x hx' => ?_)) (fun _ S2 ⟨a1, a2⟩ => ⟨a1, y_lg_t k2 a2⟩)
      rcases List.mem_append.mp hx' with hx' | hx'
      · obtain ⟨c, hc, rfl⟩ := List.mem_map.mp hx'
        exact y_sp_tk (hq.2.2.1 c (List.mem_reverse.mp hc))
      · cases b with
        | true => cases hx'
        | false => rw [List.mem_singleton.mp hx']; exact y_sp_tk (by decide)
    · exact ⟨k1, k2⟩
end EX
end OKX
