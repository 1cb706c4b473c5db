/-! THE CONTRACTS: every run of the abstract machine is a run of the machine -/
section SN2
variable {nm : Nat → MethodName} {cc : Nat → ByteArray} {ml : Nat → Nat} {eh : Nat → List (Nat × Nat × Nat × Nat)} {rt : Nat → Option FieldType} {tb : Nat → Nat → Option am_A} {D : va_G} {cA : Nat → ClassId} {B0 : Nat} {sb : Nat → Option Nat} {H00 : Heap} {Th : State → Prop}
theorem am_wp_tb {callee : Nat → List Value → am_M → am_O → am_M → Prop} {tbl : Nat → Option am_A} {k : Nat} {F : am_F} {Q : am_O → am_M → Prop} (h : am_wp callee tbl k F Q) : ∃ a, tbl F.1 = some a := by
  cases k with
  | zero => exact False.elim h
  | succ k =>
    unfold am_wp at h
    split at h
    · exact False.elim h
    next a ha => exact ⟨a, ha⟩
set_option maxHeartbeats 1000000 in
theorem am_sound (l : Launch) (hfl : l.flags = pinnedFlags ++ [noTraceFlag]) (hTh : ∀ (s U : State), s.WarmedH U.vm → Th s → Th U)
    (hok : ∀ y pc a, tb y pc = some a → am_Ok nm D cA B0 sb H00 Th (cc y) (nm y).cls (nm y).name (eh y) (rt y) pc a)
    (hV : ∀ y pc a, tb y pc = some a → am_cw nm cc ml eh rt y ∈ am_ws ∧ Cond.initialized (nm y).cls ∈ am_ws ∧ ml y ≤ 45 ∧ plainName (nm y).cls = true) :
    ∀ (d y : Nat) (as : List Value) (M : am_M) (o : am_O) (M' : am_M), am_ev tb ml d y as M o M' → am_Up M M' ∧ am_Con nm cc ml eh rt D cA B0 sb H00 Th l d y as M o M' ∧ am_cw nm cc ml eh rt y ∈ am_ws ∧ Cond.initialized (nm y).cls ∈ am_ws ∧ ml y ≤ 45
  | 0, _, _, _, _, _, h => False.elim h
  | d + 1, y, as, M, o, M', h => by
    have IH := am_sound l hfl hTh hok hV d
    obtain ⟨hlen, k, hwp⟩ := h
    obtain ⟨a0, ha0⟩ := am_wp_tb hwp
    obtain ⟨hcw, hini, hml, hpl⟩ := hV y _ a0 ha0
    refine ⟨am_up (hok y) (fun y as M o M' h => (IH y as M o M' h).1) k _ o M' hwp, ?_, hcw, hini, hml⟩
    unfold am_Con am_Met
    refine MetFree.of_bodyS (code := cc y) (maxLocals := ml y) (ret := rt y) hpl ?_ ?_
    · intro args s m h hn
      obtain ⟨m9, meth9, c9, q1, q2, q3, q4, q5, q6, q7, q8, q9⟩ := am_cw_spec (atoms_spec (ws := am_cw nm cc ml eh rt y :: am_ws) h _ List.mem_cons_self)
      cases hn.symm.trans q1
      exact ⟨meth9, c9, q2, q3, q4, q5, q7, q8⟩
    · intro p e s m args below meth c s₁ B hml0 hP _
      obtain ⟨rfl, hK, hR, hB⟩ := hP
      have hts0 := atoms_spec (ws := am_cw nm cc ml eh rt y :: am_ws) B.pre
      obtain ⟨m9, meth9, c9, q1, q2, q3, q4, q5, q6, q7, q8, q9⟩ := am_cw_spec (hts0 _ List.mem_cons_self)
      cases B.named.symm.trans q1
      cases B.method.symm.trans q2
      cases (Stand.of_body B).code.symm.trans q3
      have C : am_Cx D cA B0 Th (cc y) (nm y).cls (nm y).name (eh y) (rt y) p l (headSpec (am_cw nm cc ml eh rt y :: am_ws) (am_room (d + 1) (am_cn M' - am_cn M) (am_sn M' - am_sn M))).room s m ((as.map (am_val B0 sb)).toArray) meth c :=
        ⟨B.exec, q4, q7, q8, findClass_of_methodNamed B.named, fun w hw => hts0 w (List.mem_cons_of_mem _ hw), hK, hB, by show 16 ≤ d + 1 + 20; omega, by show 256 ≤ 64 * (d + 1) + 512; omega, (name_of_methodNamed B.named B.method).1, q6, hfl⟩
      have hh0 : s₁.heap = s.heap := by rw [B.state]; rfl
      have hW := am_walk (l := l) (d := d) (e := e) (below := below) hTh (hok y) IH C (by show d + 21 ≤ d + 1 + 20; omega) (Nat.le_refl _) o M' k (0, am_ent (ml y) as, [], M) hwp (by show (am_ent (ml y) as).length = _; rw [am_ent_len hlen, q5]) s.heap [] 0 0 _ (am_ent_loc hlen) hR va_S.rf (Nat.le_of_eq (Nat.zero_add _)) (Nat.le_of_eq (Nat.zero_add _))
      dsimp only at hW
      rw [Nat.zero_add, Nat.zero_add] at hW
      have X₀ := Stand.of_body B
      obtain ⟨t, a1, o1, b1, b2, b3⟩ := hW s₁ hh0 X₀
      refine ⟨t, o1, ?_, b1, b2, b3⟩
      have e0 := lg_entry_eq m (as.map (am_val B0 sb)) (ml y)
      have e1 : F0 m 0 ((lg_sl (as.map (am_val B0 sb)) ++ List.replicate (ml y - (lg_sl (as.map (am_val B0 sb))).length) Slot.unset).toArray) (([] : List Value).map (am_val B0 sb)) = entryFrame m (as.map (am_val B0 sb)).toArray (ml y) := e0.symm
      rw [e1] at a1
      exact a1
end SN2
