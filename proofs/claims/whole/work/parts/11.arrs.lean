/-! arrays, the script -/
section ARR
variable {nm : Nat → MethodName} {D : va_G} {cA : Nat → ClassId} {B0 : Nat} {sb : Nat → Option Nat} {H00 : Heap} {Th : State → Prop} {cc : ByteArray} {own mn : String} {eh : List (Nat × Nat × Nat × Nat)} {rt : Option FieldType} {pc : Nat}
theorem am_one {D : va_G} {H : Heap} {x : Nat × va_E} (h : va_at D ck_cl x H) : va_P D ck_cl [x] H := fun q e he => by
  have : q < 1 := (List.getElem?_eq_some_iff.mp he).1
  rw [show q = 0 by omega] at he
  cases he
  exact h
/-- a condition, then on, the memory as it was -/
theorem ok_cond {a : am_A} (h : ∀ ls st M res, a ls st M = some res → ∃ cd n st', res = .inr (.inl (cd, (n, ls, st', M))) ∧
    ∀ (p : Program) (l : Launch) (e : Env) (R : Room) (s : State) (m : MethodId) (args : Array Value) (below : List Frame) (meth : Method) (c : Code) (H : Heap) (locs : List Loc) (cells slots : Nat) (Q : State → Prop) (real : Array Slot),
      am_Cx D cA B0 Th cc own mn eh rt p l R s m args meth c → am_Rel D cA B0 sb H00 s M H → va_S (am_A0 B0) s.heap H locs → cd → am_Wk B0 sb p l e R s m args below meth c H locs cells slots Q n real st' → am_Wk B0 sb p l e R s m args below meth c H locs cells slots Q pc real st) : am_Ok nm D cA B0 sb H00 Th cc own mn eh rt pc a := by
  intro ls st M res hres
  obtain ⟨cd, n, st', rfl, hw⟩ := h ls st M res hres
  refine ⟨⟨⟨Nat.le_refl _, Nat.le_refl _⟩, rfl⟩, ?_⟩
  intro p l e R s m args below meth c C hml H locs cells slots real hl hR hS hc hs hcd Q hT
  exact hw p l e R s m args below meth c H locs cells slots Q real C hR hS hcd (am_self hT hR hS real hl)
def ac_iald (kd n : Nat) : am_A := fun ls st M => match st with
  | .int i :: .ref k :: r => match am_sh M k with
    | some (.inr (kd1, w)) => if kd1 = kd then some (.inr (.inl (vp_in i w, (n, ls, .int (M.1 k i.toNatClampNeg) :: r, M)))) else none
    | _ => none
  | _ => none
def ac_lald (n : Nat) : am_A := fun ls st M => match st with
  | .int i :: .ref k :: r => match am_sh M k with
    | some (.inr (kd1, w)) => if kd1 = 1 then some (.inr (.inl (vp_in i w, (n, ls, .long (M.2.1 k i.toNatClampNeg) :: r, M)))) else none
    | _ => none
  | _ => none
def ac_aald (kd n : Nat) : am_A := fun ls st M => match st with
  | .int i :: .ref k :: r => match am_sh M k with
    | some (.inr (kd1, w)) => if kd1 = kd then some (.inr (.inl (vp_in i w, (n, ls, am_rv (M.2.2.1 k i.toNatClampNeg) :: r, M)))) else none
    | _ => none
  | _ => none
def ac_sld (n : Nat) : am_A := fun ls st M => match st with
  | .int i :: .retAddr 0 :: r => match am_sh M 5000 with
    | some (.inr (kd1, w)) => if kd1 = 5 then some (.inr (.inl (vp_in i w, (n, ls, .int (M.1 5000 i.toNatClampNeg) :: r, M)))) else none
    | _ => none
  | _ => none
theorem am_at_arr {s : State} {M : am_M} {H : Heap} {k kd w : Nat} (hk : kd ≠ 5) (h : am_at D cA B0 sb s M H k (.inr (kd, w))) : kd < 5 ∧ va_at D ck_cl (B0 + k, .inl (cA kd, am_av B0 M k w kd)) H := by
  unfold am_at at h
  dsimp only at h
  rw [if_neg hk] at h
  exact h
theorem am_at_scr {s : State} {M : am_M} {H : Heap} {k w : Nat} (h : am_at D cA B0 sb s M H k (.inr (5, w))) : ∃ b, sb 0 = some b ∧ va_X b w (M.1 k) s H ∧ b < B0 := by
  unfold am_at at h
  dsimp only at h
  rw [if_pos rfl] at h
  exact h
theorem ok_iald (hd : decode cc pc = .ok (.iaload, 1)) : am_Ok nm D cA B0 sb H00 Th cc own mn eh rt pc (ac_iald 0 (pc + 1)) := by
  refine ok_cond fun ls st M res h => ?_
  unfold ac_iald at h
  split at h
  next i k r =>
    split at h
    next kd1 w hsh =>
      split at h
      next hk =>
        subst hk
        cases h
        refine ⟨_, _, _, rfl, ?_⟩
        intro p l e R s m args below meth c H locs cells slots Q real C hR hS hin kk
        exact va_iald C.1 C.2.1 C.2.2.2.2.2.2.1.1 (am_one (am_at_arr (by decide) (hR.1 k _ hsh)).2) 0 0 rfl rfl hin hd kk
      next => cases h
    next => cases h
  next => cases h
theorem ok_zald (hd : decode cc pc = .ok (.baload, 1)) : am_Ok nm D cA B0 sb H00 Th cc own mn eh rt pc (ac_iald 2 (pc + 1)) := by
  refine ok_cond fun ls st M res h => ?_
  unfold ac_iald at h
  split at h
  next i k r =>
    split at h
    next kd1 w hsh =>
      split at h
      next hk =>
        subst hk
        cases h
        refine ⟨_, _, _, rfl, ?_⟩
        intro p l e R s m args below meth c H locs cells slots Q real C hR hS hin kk
        exact va_zald C.1 C.2.1 C.2.2.2.2.2.2.1.1 (am_one (am_at_arr (by decide) (hR.1 k _ hsh)).2) 0 2 rfl rfl hin hd kk
      next => cases h
    next => cases h
  next => cases h
theorem ok_lald (hd : decode cc pc = .ok (.laload, 1)) : am_Ok nm D cA B0 sb H00 Th cc own mn eh rt pc (ac_lald (pc + 1)) := by
  refine ok_cond fun ls st M res h => ?_
  unfold ac_lald at h
  split at h
  next i k r =>
    split at h
    next kd1 w hsh =>
      split at h
      next hk =>
        subst hk
        cases h
        refine ⟨_, _, _, rfl, ?_⟩
        intro p l e R s m args below meth c H locs cells slots Q real C hR hS hin kk
        exact va_lald C.1 C.2.1 C.2.2.2.2.2.2.1.1 (am_one (am_at_arr (by decide) (hR.1 k _ hsh)).2) 0 1 rfl rfl hin hd kk
      next => cases h
    next => cases h
  next => cases h
theorem ok_aald {kd : Nat} (hkd : kd = 3 ∨ kd = 4) (hd : decode cc pc = .ok (.aaload, 1)) : am_Ok nm D cA B0 sb H00 Th cc own mn eh rt pc (ac_aald kd (pc + 1)) := by
  refine ok_cond fun ls st M res h => ?_
  unfold ac_aald at h
  split at h
  next i k r =>
    split at h
    next kd1 w hsh =>
      split at h
      next hk =>
        subst hk
        cases h
        refine ⟨_, _, _, rfl, ?_⟩
        intro p l e R s m args below meth c H locs cells slots Q real C hR hS hin kk
        unfold am_Wk at kk ⊢
        rw [List.map_cons, am_rv_val] at kk
        rcases hkd with rfl | rfl
        · exact va_aldq C.1 C.2.1 C.2.2.2.2.2.2.1.1 (am_one (am_at_arr (by decide) (hR.1 k _ hsh)).2) 0 3 rfl rfl hin hd kk
        · exact va_aldq C.1 C.2.1 C.2.2.2.2.2.2.1.1 (am_one (am_at_arr (by decide) (hR.1 k _ hsh)).2) 0 4 rfl rfl hin hd kk
      next => cases h
    next => cases h
  next => cases h
theorem am_scr0 {s : State} {M : am_M} {H : Heap} {w b : Nat} {locs : List Loc} (hB : B0 ≤ s.heap.size) (h : va_X b w (M.1 5000) s H ∧ b < B0) (hS : va_S (am_A0 B0) s.heap H locs) : va_X b w (M.1 5000) s s.heap ∧ b < s.heap.size ∧ ¬ am_A0 B0 b := by
  refine ⟨h.1.kept (hS.2.1 b (by omega) (by unfold am_A0; omega)).symm, by omega, by unfold am_A0; omega⟩
theorem ok_sld (hd : decode cc pc = .ok (.iaload, 1)) : am_Ok nm D cA B0 sb H00 Th cc own mn eh rt pc (ac_sld (pc + 1)) := by
  refine ok_cond fun ls st M res h => ?_
  unfold ac_sld at h
  split at h
  next i r =>
    split at h
    next kd1 w hsh =>
      split at h
      next hk =>
        subst hk
        cases h
        refine ⟨_, _, _, rfl, ?_⟩
        intro p l e R s m args below meth c H locs cells slots Q real C hR hS hin kk
        obtain ⟨b, hb, hbx⟩ := am_at_scr (hR.1 5000 _ hsh)
        obtain ⟨h1, h2, h3⟩ := am_scr0 C.2.2.2.2.2.2.2.1 hbx hS
        unfold am_Wk at kk ⊢
        show W p l e R s m args below meth c H locs cells slots Q (F0 m pc real (.int i :: va_rf (sb 0) :: r.map (am_val B0 sb)))
        rw [hb]
        exact va_sld C.1 C.2.1 h1 h2 h3 hS hin hd kk
      next => cases h
    next => cases h
  next => cases h
/-- lengths -/
def ac_alen (n : Nat) : am_A := fun ls st M => match st with
  | .ref k :: r => match am_sh M k with
    | some (.inr (kd, w)) => if kd = 5 then none else some (.inl (n, ls, .int (Int32.ofNat w) :: r, M))
    | _ => none
  | .retAddr 0 :: r => match am_sh M 5000 with
    | some (.inr (kd, w)) => if kd = 5 then some (.inl (n, ls, .int (Int32.ofNat w) :: r, M)) else none
    | _ => none
  | _ => none
theorem am_av_1 (M : am_M) (k w : Nat) : ∀ kd, (am_av B0 M k w kd).1 = w
  | 0 => rfl
  | 1 => rfl
  | 2 => rfl
  | _ + 3 => rfl
theorem ok_alen (hd : decode cc pc = .ok (.arraylength, 1)) : am_Ok nm D cA B0 sb H00 Th cc own mn eh rt pc (ac_alen (pc + 1)) := by
  intro ls st M res h
  unfold ac_alen at h
  split at h
  next k r =>
    split at h
    next kd w hsh =>
      split at h
      next => cases h
      next hk =>
        cases h
        refine ⟨⟨⟨Nat.le_refl _, Nat.le_refl _⟩, rfl⟩, ?_⟩
        intro p l e R s m args below meth c C hml H locs cells slots real hl hR hS hc hs Q hT
        have h2 := am_self hT hR hS real hl
        obtain ⟨hlt, hat⟩ := am_at_arr hk (hR.1 k _ hsh)
        exact va_alen C.1 C.2.1 C.2.2.2.2.2.2.1.1 (am_one hat) 0 kd rfl (am_tys_at cA kd hlt) (by rw [am_av_1]) hd h2
    next => cases h
  next r =>
    split at h
    next kd w hsh =>
      split at h
      next hk =>
        subst hk
        cases h
        refine ⟨⟨⟨Nat.le_refl _, Nat.le_refl _⟩, rfl⟩, ?_⟩
        intro p l e R s m args below meth c C hml H locs cells slots real hl hR hS hc hs Q hT
        have h2' := am_self hT hR hS real hl
        obtain ⟨b, hb, hbx⟩ := am_at_scr (hR.1 5000 _ hsh)
        obtain ⟨h1, h2, h3⟩ := am_scr0 C.2.2.2.2.2.2.2.1 hbx hS
        unfold am_Wk at h2' ⊢
        show W p l e R s m args below meth c H locs cells slots Q (F0 m pc real (va_rf (sb 0) :: r.map (am_val B0 sb)))
        rw [hb]
        exact va_slen C.1 C.2.1 h1 h2 h3 hS hd h2'
      next => cases h
    next => cases h
  next => cases h
end ARR
