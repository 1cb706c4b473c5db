/-! stores into arrays -/
section STO
variable {nm : Nat → MethodName} {D : va_G} {cA : Nat → ClassId} {B0 : Nat} {sb : Nat → Option Nat} {H00 : Heap} {Th : State → Prop} {cc : ByteArray} {own mn : String} {eh : List (Nat × Nat × Nat × Nat)} {rt : Option FieldType} {pc : Nat}
theorem ok_condM {a : am_A} (h : ∀ ls st M res, a ls st M = some res → ∃ cd n st' M', res = .inr (.inl (cd, (n, ls, st', M'))) ∧ M'.2.2.2 = M.2.2.2 ∧
    ∀ (p : Program) (l : Launch) (e : Env) (R : Room) (s : State) (m : MethodId) (args : Array Value) (below : List Frame) (meth : Method) (c : Code) (H : Heap) (locs : List Loc) (cells slots : Nat) (Q : State → Prop) (real : Array Slot),
      am_Cx D cA B0 Th cc own mn eh rt p l R s m args meth c → c.maxLocals = real.size → am_Rel D cA B0 sb H00 s M H → va_S (am_A0 B0) s.heap H locs → cd → (∀ H1 locs1, am_Rel D cA B0 sb H00 s M' H1 → va_S (am_A0 B0) s.heap H1 locs1 → am_Wk B0 sb p l e R s m args below meth c H1 locs1 cells slots Q n real st') → am_Wk B0 sb p l e R s m args below meth c H locs cells slots Q pc real st) : am_Ok nm D cA B0 sb H00 Th cc own mn eh rt pc a := by
  intro ls st M res hres
  obtain ⟨cd, n, st', M', rfl, hM, hw⟩ := h ls st M res hres
  have e1 : am_cn M' = am_cn M := by show M'.2.2.2.2.2.1 = M.2.2.2.2.2.1; rw [hM]
  have e2 : am_sn M' = am_sn M := by show M'.2.2.2.2.2.2 = M.2.2.2.2.2.2; rw [hM]
  refine ⟨⟨⟨Nat.le_of_eq e1.symm, Nat.le_of_eq e2.symm⟩, rfl⟩, ?_⟩
  intro p l e R s m args below meth c C hml H locs cells slots real hl hR hS hc hs hcd Q hT
  refine hw p l e R s m args below meth c H locs cells slots Q real C (hml.symm.trans hl.1.symm) hR hS hcd (fun H1 locs1 hR1 hS1 => ?_)
  have h3 := hT.2.2 H1 locs1 real hl hR1 hS1
  dsimp only at h3
  rw [e1, e2, Nat.sub_self, Nat.sub_self, Nat.add_zero, Nat.add_zero] at h3
  exact h3
theorem am_arr_rel {s : State} {M M' : am_M} {H H1 : Heap} {k kd w : Nat} (hR : am_Rel D cA B0 sb H00 s M H) (hsh : am_sh M k = some (.inr (kd, w))) (h5 : kd < 5) (h2 : M'.2.2.2 = M.2.2.2)
    (hI : ∀ q, q ≠ k → M'.1 q = M.1 q) (hL : ∀ q, q ≠ k → M'.2.1 q = M.2.1 q) (hRR : ∀ q, q ≠ k → M'.2.2.1 q = M.2.2.1 q) (hz : H1.size = H.size) (ho : ∀ q, q ≠ B0 + k → H1[q]? = H[q]?) (hn : H1[B0 + k]? = some (vp_cell (cA kd) (am_av B0 M' k w kd))) : am_Rel D cA B0 sb H00 s M' H1 := by
  refine am_Rel_put hR hsh h2 hI hL hRR hz ho ?_
  unfold am_at
  dsimp only
  rw [if_neg (by omega)]
  exact ⟨h5, hn⟩
theorem am_S_put' {H0 H H1 : Heap} {locs : List Loc} {k j : Nat} (h : va_S (am_A0 B0) H0 H locs) (z : H1.size = H.size) (oq : ∀ q : Nat, q ≠ B0 + k → H1[q]? = H[q]?) : va_S (am_A0 B0) H0 H1 (locs ++ [⟨B0 + k, j⟩]) := am_S_put h rfl z oq
def ac_iast (n : Nat) : am_A := fun ls st M => match st with
  | .int x :: .int i :: .ref k :: r => match am_sh M k with
    | some (.inr (kd1, w)) => if kd1 = 0 then some (.inr (.inl (vp_in i w, (n, ls, r, am_setI M k i.toNatClampNeg x)))) else none
    | _ => none
  | _ => none
def ac_zast (n : Nat) : am_A := fun ls st M => match st with
  | .int x :: .int i :: .ref k :: r => match am_sh M k with
    | some (.inr (kd1, w)) => if kd1 = 2 then some (.inr (.inl (vp_in i w ∧ (x = 0 ∨ x = 1), (n, ls, r, am_setI M k i.toNatClampNeg x)))) else none
    | _ => none
  | _ => none
def ac_last (n : Nat) : am_A := fun ls st M => match st with
  | .long x :: .int i :: .ref k :: r => match am_sh M k with
    | some (.inr (kd1, w)) => if kd1 = 1 then some (.inr (.inl (vp_in i w, (n, ls, r, am_setL M k i.toNatClampNeg x)))) else none
    | _ => none
  | _ => none
/-- references into an array of kind kd, whose elements are of the kind ci -/
def ac_aast (kd ci n : Nat) : am_A := fun ls st M => match st with
  | .ref x :: .int i :: .ref k :: r => match am_sh M k with
    | some (.inr (kd1, w)) => if kd1 = kd then (match am_sh M x with
        | some (.inl c1) => if c1 = ci then some (.inr (.inl (vp_in i w, (n, ls, r, am_setR M k i.toNatClampNeg (some x))))) else none
        | _ => none) else none
    | _ => none
  | _ => none
theorem ok_iast (hd : decode cc pc = .ok (.iastore, 1)) : am_Ok nm D cA B0 sb H00 Th cc own mn eh rt pc (ac_iast (pc + 1)) := by
  refine ok_condM fun ls st M res h => ?_
  unfold ac_iast at h
  split at h
  next x i k r =>
    split at h
    next kd1 w hsh =>
      split at h
      next hk =>
        subst hk
        cases h
        refine ⟨_, _, _, _, rfl, rfl, ?_⟩
        intro p l e R s m args below meth c H locs cells slots Q real C hml hR hS hin kk
        obtain ⟨h5, hat⟩ := am_at_arr (by decide) (hR.1 k _ hsh)
        refine W.iast C.1 C.2.1 hat ((C.2.2.2.2.2.2.1.1.2 0 _ rfl).1 w (fun j => .int (M.1 k j))) (fun q => by cases q) (by show ¬ (i < 0 ∨ (arrV _ _ _).slots.size ≤ _); rw [arrV_size]; exact hin) rfl rfl hd fun H1 e z oq => ?_
        refine kk H1 _ (am_arr_rel hR hsh h5 rfl (fun q hq => am_u2_ne hq) (fun _ _ => rfl) (fun _ _ => rfl) z oq ?_) (am_S_put' hS z oq)
        rw [e]
        show some ((vp_cell (cA 0) (w, .inl (M.1 k))).setSlot i.toNatClampNeg (.int x)) = some (vp_cell (cA 0) (w, .inl (am_u2 M.1 k i.toNatClampNeg x k)))
        rw [vp_cell_i, vp_cell_i, arrV_store, am_u2_eq]
        congr 2
        funext q
        by_cases hq : q = i.toNatClampNeg
        · subst hq
          simp [updV]
        · simp [updV, hq]
      next => cases h
    next => cases h
  next => cases h
theorem ok_zast (hd : decode cc pc = .ok (.bastore, 1)) : am_Ok nm D cA B0 sb H00 Th cc own mn eh rt pc (ac_zast (pc + 1)) := by
  refine ok_condM fun ls st M res h => ?_
  unfold ac_zast at h
  split at h
  next x i k r =>
    split at h
    next kd1 w hsh =>
      split at h
      next hk =>
        subst hk
        cases h
        refine ⟨_, _, _, _, rfl, rfl, ?_⟩
        intro p l e R s m args below meth c H locs cells slots Q real C hml hR hS hin kk
        obtain ⟨h5, hat⟩ := am_at_arr (by decide) (hR.1 k _ hsh)
        have hnx : vp_nar .boolean x = x := by rcases hin.2 with rfl | rfl <;> decide
        refine W.zast C.1 C.2.1 hat ((C.2.2.2.2.2.2.1.1.2 2 _ rfl).1 w (fun j => .int (M.1 k j))) (fun q => by cases q) (by show ¬ (i < 0 ∨ (arrV _ _ _).slots.size ≤ _); rw [arrV_size]; exact hin.1) rfl rfl hd fun H1 e z oq => ?_
        refine kk H1 _ (am_arr_rel hR hsh h5 rfl (fun q hq => am_u2_ne hq) (fun _ _ => rfl) (fun _ _ => rfl) z oq ?_) (am_S_put' hS z oq)
        rw [e]
        show some ((vp_cell (cA 2) (w, .inl (M.1 k))).setSlot i.toNatClampNeg _) = some (vp_cell (cA 2) (w, .inl (am_u2 M.1 k i.toNatClampNeg x k)))
        rw [vp_cell_i, vp_cell_i, arrV_store, am_u2_eq]
        congr 2
        funext q
        by_cases hq : q = i.toNatClampNeg
        · subst hq
          rcases hin.2 with rfl | rfl <;> simp [updV] <;> decide
        · simp [updV, hq]
      next => cases h
    next => cases h
  next => cases h
theorem ok_last (hd : decode cc pc = .ok (.lastore, 1)) : am_Ok nm D cA B0 sb H00 Th cc own mn eh rt pc (ac_last (pc + 1)) := by
  refine ok_condM fun ls st M res h => ?_
  unfold ac_last at h
  split at h
  next x i k r =>
    split at h
    next kd1 w hsh =>
      split at h
      next hk =>
        subst hk
        cases h
        refine ⟨_, _, _, _, rfl, rfl, ?_⟩
        intro p l e R s m args below meth c H locs cells slots Q real C hml hR hS hin kk
        obtain ⟨h5, hat⟩ := am_at_arr (by decide) (hR.1 k _ hsh)
        refine W.last C.1 C.2.1 hat ((C.2.2.2.2.2.2.1.1.2 1 _ rfl).1 w (fun j => .long (M.2.1 k j))) (fun q => by cases q) (by show ¬ (i < 0 ∨ (arrV _ _ _).slots.size ≤ _); rw [arrV_size]; exact hin) rfl rfl hd fun H1 e z oq => ?_
        refine kk H1 _ (am_arr_rel hR hsh h5 rfl (fun _ _ => rfl) (fun q hq => am_u2_ne hq) (fun _ _ => rfl) z oq ?_) (am_S_put' hS z oq)
        rw [e]
        show some ((vp_cell (cA 1) (w, .inr (.inl (M.2.1 k)))).setSlot i.toNatClampNeg (.long x)) = some (vp_cell (cA 1) (w, .inr (.inl (am_u2 M.2.1 k i.toNatClampNeg x k))))
        rw [vp_cell_l, vp_cell_l, arrV_store, am_u2_eq]
        congr 2
        funext q
        by_cases hq : q = i.toNatClampNeg
        · subst hq
          simp [updV]
        · simp [updV, hq]
      next => cases h
    next => cases h
  next => cases h
theorem am_aast_W {p : Program} {l : Launch} {e : Env} {R : Room} {s : State} {m : MethodId} {args : Array Value} {below : List Frame} {meth : Method} {c : Code} {H : Heap} {locs : List Loc} {cells slots : Nat} {Q : State → Prop} {ls : Array Slot} {rest : List Value} {a v t0 ci n : Nat} {cB : ClassId} {r : vw_C} {vs : List Value} {f : Nat → Option Nat} {i : Int32}
    (hexec : p.tables.exec = Jvm.exec) (hb : c.code = cc) (hK : va_K D ck_cl (am_tys cA) s) (ha : va_at D ck_cl (a, .inl (cB, n, .inr (.inr (.inr (.inr f))))) H) (ht : (am_tys cA)[t0]? = some (cB, .object r.1)) (hv : va_at D ck_cl (v, .inr (ci, vs)) H) (hc : ck_cl[ci]? = some r) (hin : vp_in i n) (hdg : decode cc pc = .ok (.aastore, 1))
    (kk : ∀ (H1 : Heap), H1.size = H.size → (∀ q, q ≠ a → H1[q]? = H[q]?) → H1[a]? = some (vp_cell cB (n, .inr (.inr (.inr (.inr (va_up f i.toNatClampNeg (some v))))))) → W p l e R s m args below meth c H1 (locs ++ [⟨a, i.toNatClampNeg⟩]) cells slots Q (F0 m (pc + 1) ls rest)) : W p l e R s m args below meth c H locs cells slots Q (F0 m pc ls (.ref v :: .int i :: .ref a :: rest)) := by
  have hlt : i.toNatClampNeg < n := Nat.not_le.mp fun q => hin (Or.inr q)
  have h0 : ¬ i < 0 := fun q => hin (Or.inl q)
  obtain ⟨r', hr', cellV, g1, g2, g3, -⟩ := hv
  have hcls := (hK.1 ci r hc).2
  obtain ⟨kA, comp, k1, k2, k3, -⟩ := (hK.2 t0 _ ht).2
  have hcomp : comp = D.1 ci := Option.some.inj (k3.symm.trans hcls.1)
  subst hcomp
  obtain ⟨kC, hkC, -⟩ := hcls.2
  refine W.aast hexec hb ha (fun q h => by cases h) (fun h => by cases h) k1 k2 rfl hkC ⟨h0, by show _ < (arrV _ _ _).slots.size; rw [arrV_size]; exact hlt⟩ g1 (fun q h => by rw [g3] at h; cases h) (by rw [g2]; exact hkC) (by rw [g2]; exact va_assign hcls) rfl rfl hdg fun H1 e z oq => ?_
  refine kk H1 z oq ?_
  rw [e]
  rw [vp_cell_q, vp_cell_q, arrV_store]
  congr 2
  funext q
  by_cases hq : q = i.toNatClampNeg
  · subst hq
    simp [updV, va_up, va_rf]
  · simp [updV, va_up, hq]
theorem am_av_q (M : am_M) (k w : Nat) {kd : Nat} (h : kd = 3 ∨ kd = 4) : am_av B0 M k w kd = (w, .inr (.inr (.inr (.inr (fun i => (M.2.2.1 k i).map (fun q => B0 + q)))))) := by
  rcases h with rfl | rfl <;> rfl
theorem ok_aast {kd ci : Nat} (hkd : kd = 3 ∨ kd = 4) (hci : ci < 7) (hty : am_ety kd = .object (ck_R ci)) (hd : decode cc pc = .ok (.aastore, 1)) : am_Ok nm D cA B0 sb H00 Th cc own mn eh rt pc (ac_aast kd ci (pc + 1)) := by
  refine ok_condM fun ls st M res h => ?_
  unfold ac_aast at h
  split at h
  next x i k r =>
    split at h
    next kd1 w hsh =>
      split at h
      next hk =>
        subst hk
        split at h
        next c1 hsx =>
          split at h
          next hc1 =>
            subst hc1
            cases h
            refine ⟨_, _, _, _, rfl, rfl, ?_⟩
            intro p l e R s m args below meth c H locs cells slots Q real C hml hR hS hin kk
            have hk5 : kd1 ≠ 5 := by rcases hkd with rfl | rfl <;> decide
            obtain ⟨h5, hat⟩ := am_at_arr hk5 (hR.1 k _ hsh)
            rw [am_av_q M k w hkd] at hat
            refine am_aast_W (t0 := kd1) (r := (ck_R c1, ck_T c1, ck_N c1)) C.1 C.2.1 C.2.2.2.2.2.2.1.1 hat (by rw [am_tys_at cA kd1 h5, hty]) (hR.1 x _ hsx).2 (ck_at c1 hci) hin hd (fun H1 z oq e => ?_)
            refine kk H1 _ (am_arr_rel hR hsh h5 rfl (fun _ _ => rfl) (fun _ _ => rfl) (fun q hq => am_u2_ne hq) z oq ?_) (am_S_put' hS z oq)
            rw [e, am_av_q _ k w hkd]
            congr 3
            show _ = Sum.inr (Sum.inr (Sum.inr (Sum.inr (fun j => (am_u2 M.2.2.1 k i.toNatClampNeg (some x) k j).map (fun q => B0 + q)))))
            rw [am_u2_eq]
            congr 4
            funext q
            by_cases hq : q = i.toNatClampNeg
            · subst hq
              simp [va_up]
            · simp [va_up, hq]
          next => cases h
        next => cases h
      next => cases h
    next => cases h
  next => cases h
end STO
