/-! WHAT THE ABSTRACT MACHINE DOES, THE MACHINE DOES -/
theorem am_args_len : ∀ as : List Value, (lg_sl as).length = (am_args as).length
  | [] => rfl
  | v :: r => by
    have ih := am_args_len r
    have h : lg_sl (v :: r) = (if v.category = 2 then [.val v, .second] else [.val v]) ++ lg_sl r := by simp [lg_sl]
    rw [h, List.length_append, ih]
    cases v <;> simp [Value.category, am_args] <;> omega
theorem am_args_val (B0 : Nat) (sb : Nat → Option Nat) : ∀ as : List Value, (am_args (as.map (am_val B0 sb))).length = (am_args as).length
  | [] => rfl
  | v :: r => by
    have ih := am_args_val B0 sb r
    cases v with
    | retAddr k =>
      show (am_args (va_rf (sb k) :: r.map (am_val B0 sb))).length = (am_args r).length + 1
      rw [← ih]
      cases sb k <;> rfl
    | _ => simp [am_args, am_val, ih]
theorem am_args_at (B0 : Nat) (sb : Nat → Option Nat) : ∀ (as : List Value) (j i : Nat) (v : Value), (am_args as)[i]? = some (some v) → (j + i, am_val B0 sb v) ∈ lv_args j (as.map (am_val B0 sb))
  | [], j, i, v, h => by simp [am_args] at h
  | w :: r, j, i, v, h => by
    have one : w.category = 1 → am_args (w :: r) = some w :: am_args r → (j + i, am_val B0 sb v) ∈ lv_args j ((w :: r).map (am_val B0 sb)) := by
      intro hc e
      rw [e] at h
      rw [List.map_cons]
      unfold lv_args
      rw [am_val_cat, if_neg (by omega)]
      cases i with
      | zero =>
        simp at h
        subst h
        exact List.mem_cons_self
      | succ i =>
        refine List.mem_cons_of_mem _ ?_
        have := am_args_at B0 sb r (j + 1) i v (by simpa using h)
        rw [show j + 1 + i = j + (i + 1) by omega] at this
        exact this
    have two : w.category = 2 → am_args (w :: r) = some w :: none :: am_args r → (j + i, am_val B0 sb v) ∈ lv_args j ((w :: r).map (am_val B0 sb)) := by
      intro hc e
      rw [e] at h
      rw [List.map_cons]
      unfold lv_args
      rw [am_val_cat, if_pos hc]
      cases i with
      | zero =>
        simp at h
        subst h
        exact List.mem_cons_self
      | succ i =>
        cases i with
        | zero => simp at h
        | succ i =>
          refine List.mem_cons_of_mem _ ?_
          have := am_args_at B0 sb r (j + 2) i v (by simpa using h)
          rw [show j + 2 + i = j + (i + 1 + 1) by omega] at this
          exact this
    cases w with
    | long x => exact two rfl rfl
    | double x => exact two rfl rfl
    | _ => exact one rfl rfl
theorem am_ent_len {n : Nat} {as : List Value} (h : (am_args as).length ≤ n) : (am_ent n as).length = n := by
  unfold am_ent
  rw [List.length_append, List.length_replicate]
  omega
theorem am_ent_loc {B0 n : Nat} {sb : Nat → Option Nat} {as : List Value} (h : (am_args as).length ≤ n) : am_Loc B0 sb ((lg_sl (as.map (am_val B0 sb)) ++ List.replicate (n - (lg_sl (as.map (am_val B0 sb))).length) Slot.unset).toArray) (am_ent n as) := by
  have hl := lv_entry (as.map (am_val B0 sb)) (n := n) (by rw [am_args_len, am_args_val]; exact h)
  refine ⟨by rw [am_ent_len h]; exact hl.1, hl.2.1, fun i v hi => ?_⟩
  have : (am_args as)[i]? = some (some v) := by
    unfold am_ent at hi
    by_cases q : i < (am_args as).length
    · rw [List.getElem?_append_left q] at hi
      exact hi
    · rw [List.getElem?_append_right (by omega), List.getElem?_replicate] at hi
      split at hi <;> simp at hi
  have h2 := am_args_at B0 sb as 0 i v this
  rw [Nat.zero_add] at h2
  exact hl.2.2 _ h2
def am_room (d mc ms : Nat) : Room := { frames := d + 20, cells := mc, slots := ms, locals := 64 * d + 512 }
def am_Pc (D : va_G) (cA : Nat → ClassId) (B0 : Nat) (sb : Nat → Option Nat) (H00 : Heap) (Th : State → Prop) (as : List Value) (M : am_M) : Array Value → State → Prop := va_Pc (as.map (am_val B0 sb)) (fun U => am_K D cA Th U ∧ am_Rel D cA B0 sb H00 U M U.heap ∧ B0 ≤ U.heap.size)
/-- a method's data: its words' own code row -/
def am_cw (nm : Nat → MethodName) (cc : Nat → ByteArray) (ml : Nat → Nat) (eh : Nat → List (Nat × Nat × Nat × Nat)) (rt : Nat → Option FieldType) (y : Nat) : Cond := match eh y with
  | [] => .code (nm y) (cc y) (ml y) (rt y)
  | h :: t => .codeWith (nm y) (cc y) (ml y) (rt y) (h :: t)
theorem am_cw_spec {nm : Nat → MethodName} {cc : Nat → ByteArray} {ml : Nat → Nat} {eh : Nat → List (Nat × Nat × Nat × Nat)} {rt : Nat → Option FieldType} {y : Nat} {a : Array Value} {U : State} (h : (am_cw nm cc ml eh rt y).before a U = true) :
    ∃ m meth c, U.methodNamed? (nm y) = some m ∧ U.vm.method? m = some meth ∧ meth.code = some c ∧ c.code = cc y ∧ c.maxLocals = ml y ∧ c.exceptionTable.toList.map (fun h => (h.startPc, h.endPc, h.handlerPc, h.catchType)) = eh y ∧ meth.sig.returnType = rt y ∧ meth.locks = false ∧ parseMethodDescriptor (nm y).desc = some meth.sig := by
  unfold am_cw at h
  split at h
  next he =>
    obtain ⟨mk, hn⟩ := Cond.code_named h
    obtain ⟨meth, c, h1, h2, h3, h4, h5, h6, h7, h8⟩ := Cond.code_spec hn h
    refine ⟨mk, meth, c, hn, h1, h2, h3, h4, ?_, h5, h6, h8⟩
    rw [he]
    have : c.exceptionTable.toList = [] := by
      have h9 : c.exceptionTable = #[] := by simpa using h7
      rw [h9]
    rw [this]
    rfl
  next x t he =>
    obtain ⟨m, meth, c, h1, h2, h3, h4, h5, h6, h7, h8, h9⟩ := Cond.codeWith_spec h
    exact ⟨m, meth, c, h1, h2, h3, h4, h5, by rw [he]; exact h6, h7, h8, h9⟩
section SND
variable {nm : Nat → MethodName} {cc : Nat → ByteArray} {ml : Nat → Nat} {eh : Nat → List (Nat × Nat × Nat × Nat)} {rt : Nat → Option FieldType} {tb : Nat → Nat → Option am_A} {D : va_G} {cA : Nat → ClassId} {B0 : Nat} {sb : Nat → Option Nat} {H00 : Heap} {Th : State → Prop}
def am_Con (nm : Nat → MethodName) (cc : Nat → ByteArray) (ml : Nat → Nat) (eh : Nat → List (Nat × Nat × Nat × Nat)) (rt : Nat → Option FieldType) (D : va_G) (cA : Nat → ClassId) (B0 : Nat) (sb : Nat → Option Nat) (H00 : Heap) (Th : State → Prop) (l : Launch) (d y : Nat) (as : List Value) (M : am_M) (o : am_O) (M' : am_M) : Prop :=
  am_Met l (nm y) (am_cw nm cc ml eh rt y :: am_ws) (am_room d (am_cn M' - am_cn M) (am_sn M' - am_sn M)) (am_Pc D cA B0 sb H00 Th as M) (am_Qc D cA B0 sb H00 o M') (am_cn M' - am_cn M) (am_sn M' - am_sn M) (am_A0 B0)
theorem am_K_moved (hTh : ∀ (s U : State), s.WarmedH U.vm → Th s → Th U) {s U : State} (hW : s.WarmedH U.vm) (h : am_K D cA Th s) : am_K D cA Th U := by
  obtain ⟨h1, h2, h3, h4, h5⟩ := h
  refine ⟨va_K.moved hW.alike h1, fun w hw => ?_, va_AO.moved hW.alike h3, va_AO.moved hW.alike h4, hTh s U hW h5⟩
  have h9 := h2 w hw
  unfold am_nest at hw
  rcases List.mem_cons.mp hw with rfl | hw
  · exact va_Nw.warmM hW h9
  · rcases List.mem_cons.mp hw with rfl | hw
    · exact va_Nw.warmM hW h9
    · cases hw
theorem am_Pc_blind (hTh : ∀ (s U : State), s.WarmedH U.vm → Th s → Th U) (as : List Value) (M : am_M) : FrameBlind (am_Pc D cA B0 sb H00 Th as M) := by
  intro a U g mk h
  obtain ⟨e, hK, hR, hB⟩ := h
  exact ⟨e, am_K_moved (s := U) (U := U.calling g mk a) hTh (State.WarmedH.refl U) hK, am_Rel_moved (s := U) (U := U.calling g mk a) (Vm.Alike.refl U.vm) hR, hB⟩
/-- what is made only grows -/
theorem am_up {callee : Nat → List Value → am_M → am_O → am_M → Prop} {y : Nat} (hok : ∀ pc a, tb y pc = some a → am_Ok nm D cA B0 sb H00 Th (cc y) (nm y).cls (nm y).name (eh y) (rt y) pc a) (hcal : ∀ y as M o M', callee y as M o M' → am_Up M M') : ∀ (k : Nat) (F : am_F) (o : am_O) (M' : am_M), am_wp callee (tb y) k F (fun o1 M1 => o1 = o ∧ M1 = M') → am_Up F.2.2.2 M'
  | 0, _, _, _, h => False.elim h
  | k + 1, F, o, M', h => by
    unfold am_wp at h
    split at h
    · exact False.elim h
    next a ha =>
    split at h
    · exact False.elim h
    · next G hG =>
      have h1 := (hok _ _ ha _ _ _ _ hG).1.1
      have h2 := am_up hok hcal k G o M' h
      exact ⟨Nat.le_trans h1.1 h2.1, Nat.le_trans h1.2 h2.2⟩
    · next c G hG =>
      have h1 := (hok _ _ ha _ _ _ _ hG).1.1
      have h2 := am_up hok hcal k G o M' h.2
      exact ⟨Nat.le_trans h1.1 h2.1, Nat.le_trans h1.2 h2.2⟩
    · next c t G hG =>
      have h1 := (hok _ _ ha _ _ _ _ hG).1.1
      by_cases e : c
      · have h2 := am_up hok hcal k _ o M' (h.1 e)
        rw [← h1]; exact h2
      · have h2 := am_up hok hcal k _ o M' (h.2 e)
        rw [← h1]; exact h2
    · next sw x G hG =>
      have h1 := (hok _ _ ha _ _ _ _ hG).1.1
      obtain ⟨t, h3, -⟩ := am_swp_one sw h
      have h2 := am_up hok hcal k _ o M' h3
      rw [← h1]; exact h2
    · next y1 as hd G hG =>
      have h1 := (hok _ _ ha _ _ _ _ hG).1.1
      obtain ⟨o1, M1, hc, hk⟩ := h
      have h2 := hcal _ _ _ _ _ hc
      rw [h1] at h2
      cases o1 with
      | inl v =>
        have h3 := am_up hok hcal k _ o M' hk
        exact ⟨Nat.le_trans h2.1 h3.1, Nat.le_trans h2.2 h3.2⟩
      | inr x =>
        dsimp only at hk
        cases hh : hd x with
        | none =>
          rw [hh] at hk
          rw [← hk.2]
          exact h2
        | some h' =>
          rw [hh] at hk
          have h3 := am_up hok hcal k _ o M' hk
          exact ⟨Nat.le_trans h2.1 h3.1, Nat.le_trans h2.2 h3.2⟩
    · next c o1 M1 hG =>
      have h1 := (hok _ _ ha _ _ _ _ hG).1
      rw [← h.2.2]
      exact h1
end SND
