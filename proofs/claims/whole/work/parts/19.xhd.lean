/-! calls under handlers -/
/-- a handler: the kind that it takes, its row of the table, the pc behind its store, the store's place -/
abbrev am_H : Type := Nat × (Nat × Nat × Nat × Nat) × Nat × Nat
def am_hdl (es : List am_H) : Nat → Option (Nat × Nat) := fun k => (es.find? (fun z => Nat.beq (Nat.min k 3) z.1)).map (fun z => (z.2.2.1, z.2.2.2))
def am_row (h : ExceptionTableEntry) : Nat × Nat × Nat × Nat := (h.startPc, h.endPc, h.handlerPc, h.catchType)
def am_ps (kd : Nat) : List ExceptionTableEntry → List am_H → List (ExceptionTableEntry × String × Bool)
  | x :: t, z :: r => (x, am_exn z.1, Nat.beq (Nat.min kd 3) z.1) :: am_ps kd t r
  | _, _ => []
def ac_callH (es : List am_H) (nl ci y n1 n : Nat) : am_A := fun ls st M => if ls.length = nl then ac_callV ci y n1 n (am_hdl es) ls st M else none
theorem am_ps_1 (kd : Nat) : ∀ (t : List ExceptionTableEntry) (es : List am_H), t.map am_row = es.map (·.2.1) → (am_ps kd t es).map (·.1) = t
  | [], _, _ => by simp [am_ps]
  | x :: t, [], h => by simp at h
  | x :: t, z :: r, h => by
    simp only [List.map_cons, List.cons.injEq] at h
    simp [am_ps, am_ps_1 kd t r h.2]
theorem am_ps_2 (kd : Nat) : ∀ (t : List ExceptionTableEntry) (es : List am_H), t.map am_row = es.map (·.2.1) → ∀ q ∈ am_ps kd t es, ∃ z ∈ es, am_row q.1 = z.2.1 ∧ q.2.1 = am_exn z.1 ∧ q.2.2 = Nat.beq (Nat.min kd 3) z.1
  | [], _, _, q, hq => by simp [am_ps] at hq
  | x :: t, [], h, _, _ => by simp at h
  | x :: t, z :: r, h, q, hq => by
    simp only [List.map_cons, List.cons.injEq] at h
    unfold am_ps at hq
    rcases List.mem_cons.mp hq with rfl | hq
    · exact ⟨z, List.mem_cons_self, h.1, rfl, rfl⟩
    · obtain ⟨z', h1, h2⟩ := am_ps_2 kd t r h.2 q hq
      exact ⟨z', List.mem_cons_of_mem _ h1, h2⟩
theorem am_ps_3 (kd : Nat) : ∀ (t : List ExceptionTableEntry) (es : List am_H), t.map am_row = es.map (·.2.1) → am_pick (am_ps kd t es) = match es.find? (fun z => Nat.beq (Nat.min kd 3) z.1) with
    | some z => .found z.2.1.2.2.1
    | none => .none
  | [], [], _ => rfl
  | [], z :: r, h => by simp at h
  | x :: t, [], h => by simp at h
  | x :: t, z :: r, h => by
    simp only [List.map_cons, List.cons.injEq] at h
    have ih := am_ps_3 kd t r h.2
    unfold am_ps
    cases hb : Nat.beq (Nat.min kd 3) z.1 with
    | true =>
      simp only [List.find?_cons, hb]
      show Handler.found x.handlerPc = Handler.found z.2.1.2.2.1
      rw [← h.1]
      rfl
    | false =>
      simp only [List.find?_cons, hb]
      exact ih
theorem am_exn_min : ∀ kd : Nat, am_exn (Nat.min kd 3) = am_exn kd
  | 0 => rfl
  | 1 => rfl
  | 2 => rfl
  | n + 3 => by
    have : Nat.min (n + 3) 3 = 3 := Nat.min_eq_right (by omega)
    rw [this]
    rfl
theorem am_asg (vm : Vm) (c : ClassId) : vm.assignable c c = true := by
  show vm.assignableAux (255 + 1) c c = true
  rw [Vm.assignableAux]
  simp
section CLH
variable {nm : Nat → MethodName} {D : va_G} {cA : Nat → ClassId} {B0 : Nat} {sb : Nat → Option Nat} {H00 : Heap} {Th : State → Prop} {cc : ByteArray} {own mn : String} {rt : Option FieldType} {pc : Nat}
set_option maxHeartbeats 1000000 in
theorem ok_callH {ci y n0 idx maxL : Nat} {bytes : ByteArray} {ret : Option FieldType} (es : List am_H) (hNc : ∀ s, Th s → ∀ i j, i < 4 → j < 4 → i ≠ j → va_Nc (am_exn i) (am_exn j) s) (hci : ci < 7) (hd : decode cc pc = .ok (.invokevirtual idx, 3)) (h1 : Cond.methodLink own idx (nm y) ∈ am_ws) (h2 : Cond.instanceMethod (nm y) ∈ am_ws) (h3 : Cond.selects (ck_R ci) (nm y) (nm y) ∈ am_ws) (h4 : Cond.code (nm y) bytes maxL ret ∈ am_ws)
    (h5 : ((nm y).cls != "java/lang/invoke/MethodHandle" && (nm y).cls != "java/lang/invoke/VarHandle") = true) (h6 : (parseMethodDescriptor (nm y).desc).map (fun d => d.parameters.length) = some n0)
    (hes : ∀ z ∈ es, z.1 < 4 ∧ z.2.1.1 ≤ pc ∧ pc < z.2.1.2.1 ∧ z.2.1.2.2.2 ≠ 0 ∧ ((∃ k : Fin 4, decode cc z.2.1.2.2.1 = .ok (.astore_n k, 1) ∧ (k : Nat) = z.2.2.2 ∧ z.2.2.1 = z.2.1.2.2.1 + 1) ∨ (decode cc z.2.1.2.2.1 = .ok (.astore z.2.2.2, 2) ∧ z.2.2.1 = z.2.1.2.2.1 + 2)))
    (hcw : ∀ z ∈ es, Cond.classLink own z.2.1.2.2.2 (am_exn z.1) ∈ am_ws) (nl : Nat) (hnl : ∀ z ∈ es, z.2.2.2 < nl) :
    am_Ok nm D cA B0 sb H00 Th cc own mn (es.map (·.2.1)) rt pc (ac_callH es nl ci y (n0 + 1) (pc + 3)) := by
  intro ls st M res h
  unfold ac_callH at h
  split at h
  next hlen =>
    unfold ac_callV at h
    split at h
    next as r hsp =>
      split at h
      next k rest =>
        split at h
        next c1 hsh =>
          split at h
          next hc1 =>
            obtain ⟨rfl, hr⟩ := hc1
            cases h
            refine ⟨⟨rfl, rfl, rfl⟩, ?_⟩
            intro p l e R s m args below meth c C hml H locs cells slots real hl hR hS hc hs
            obtain ⟨xs, e1, e2, e3⟩ := am_split_spec _ _ _ _ _ hsp
            rw [List.append_nil] at e1
            subst e1
            have hts := C.2.2.2.2.2.1
            obtain ⟨cell, g1, g2, g3⟩ := va_recv C.2.2.2.2.2.2.1.1 (am_one (hR.1 k _ hsh).2) (ck_at c1 hci) (q0 := 0) rfl
            refine ⟨am_invV C.1 C.2.2.2.2.1 (hts _ h1) (hts _ h2) (hts _ h3) (hts _ h4) (am_ne h5) g1 g2 g3 rfl (argsL := rest.map (am_val B0 sb)) (fun sig hs => ?_) ?_ (by rw [C.2.1]; exact hd), ⟨_, hd⟩, by rw [am_cats]; exact hr, ?_⟩
            · rw [List.length_map]
              have := am_par h6 sig hs
              have h9 : rest.length + 1 = n0 + 1 := by rw [← e3]; rfl
              omega
            · show st.map (am_val B0 sb) = _
              rw [e2]
              simp [am_val]
            · intro Q T' x kd cellX locs1 cells1 slots1 X hcx hvx hfx hk
              have htab : c.exceptionTable.toList.map am_row = es.map (·.2.1) := C.2.2.2.2.2.2.2.2.2.2.2.1
              have hNs := hNc s C.2.2.2.2.2.2.1.2.2.2.2
              obtain ⟨vm₂, hW₂, hf⟩ := am_found X (own := own) C.2.2.2.2.1 hcx hvx (Vm.classAt_of_findClass hfx) (g := F0 m pc real (r.map (am_val B0 sb))) rfl (am_ps kd c.exceptionTable.toList es) (am_ps_1 kd _ es htab).symm (fun q hq => by
                obtain ⟨z, hz, z1, z2, z3⟩ := am_ps_2 kd _ es htab q hq
                obtain ⟨y1, y2, y3, y4, -⟩ := hes z hz
                have r1 : q.1.startPc = z.2.1.1 := congrArg (·.1) z1
                have r2 : q.1.endPc = z.2.1.2.1 := congrArg (·.2.1) z1
                have r4 : q.1.catchType = z.2.1.2.2.2 := congrArg (·.2.2.2) z1
                refine ⟨?_, by rw [r4]; exact y4, ?_, ?_⟩
                · show (decide (q.1.startPc ≤ pc) && decide (pc < q.1.endPc)) = true
                  rw [r1, r2]
                  simp [y2, y3]
                · rw [r4, z2]
                  exact hts _ (hcw z hz)
                · intro cN hN
                  rw [z2] at hN
                  rw [z3]
                  cases hb : Nat.beq (Nat.min kd 3) z.1 with
                  | true =>
                    have e9 : Nat.min kd 3 = z.1 := Nat.eq_of_beq_eq_true hb
                    rw [← e9, am_exn_min] at hN
                    cases hfx.symm.trans hN
                    exact am_asg _ _
                  | false =>
                    have e9 : Nat.min kd 3 ≠ z.1 := fun q9 => by
                      rw [q9] at hb
                      simp at hb
                    obtain ⟨ca, cb, q1, q2, q3⟩ := hNs (Nat.min kd 3) z.1 (Nat.lt_of_le_of_lt (Nat.min_le_right kd 3) (by decide)) y1 e9
                    rw [am_exn_min] at q1
                    cases hfx.symm.trans q1
                    cases hN.symm.trans q2
                    exact q3)
              have X2 := X.noted hW₂
              rw [am_ps_3 kd _ es htab] at hf
              cases hfd : es.find? (fun z => Nat.beq (Nat.min kd 3) z.1) with
              | none =>
                have hhd : am_hdl es kd = none := by unfold am_hdl; rw [hfd]; rfl
                rw [hhd] at hk
                rw [hfd] at hf
                obtain ⟨u, a1, b1⟩ := hk vm₂ X2
                exact ⟨u, am_toOut X rfl rfl rfl C.2.2.2.1 hW₂ hf a1, b1⟩
              | some z =>
                have hhd : am_hdl es kd = some (z.2.2.1, z.2.2.2) := by unfold am_hdl; rw [hfd]; rfl
                rw [hhd] at hk
                rw [hfd] at hf
                have hzm : z ∈ es := List.mem_of_find?_eq_some hfd
                obtain ⟨-, -, -, -, hdec⟩ := hes z hzm
                have hj := hnl z hzm
                have hgo : W p l e R s m args below meth c T'.heap locs1 cells1 slots1 Q (F0 m z.2.1.2.2.1 real [.ref x]) := by
                  have fin : ∀ real' : Array Slot, lv_has real' ls.length ((z.2.2.2, Value.ref x) :: (am_locs B0 sb ls).filter (fun q => !(q.1 == z.2.2.2) && !(q.1 + 1 == z.2.2.2 && q.2.category == 2))) → W p l e R s m args below meth c T'.heap locs1 cells1 slots1 Q (F0 m z.2.2.1 real' []) := by
                    intro real' hh
                    refine hk real' ⟨?_, hh.2.1, fun i v hi => ?_⟩
                    · show real'.size = (am_kl ls z.2.2.2).length
                      unfold am_kl
                      rw [List.length_set, am_st1_len]
                      exact hh.1
                    · have hi' : (am_kl ls z.2.2.2)[i]? = some (some v) := hi
                      unfold am_kl at hi'
                      by_cases e9 : i = z.2.2.2
                      · rw [e9, List.getElem?_set] at hi'
                        simp at hi'
                      · rw [List.getElem?_set_ne (fun q => e9 q.symm)] at hi'
                        rcases am_st1_at hi' with ⟨q1, -⟩ | ⟨q1, q2, q3⟩
                        · exact absurd q1 e9
                        · refine hh.2.2 (i, am_val B0 sb v) (List.mem_cons_of_mem _ (List.mem_filter.mpr ⟨am_locs_mem.mpr ⟨v, q2, rfl⟩, ?_⟩))
                          simp only [Bool.and_eq_true, Bool.not_eq_true', beq_eq_false_iff_ne, ne_eq, Bool.and_eq_false_iff, am_val_cat]
                          refine ⟨q1, ?_⟩
                          by_cases e8 : i + 1 = z.2.2.2
                          · exact Or.inr (fun q => q3 ⟨e8, q⟩)
                          · exact Or.inl e8
                  rcases hdec with ⟨kf, q1, q2, q3⟩ | ⟨q1, q3⟩
                  · rw [q3] at fin
                    exact lv_astore_n C.1 C.2.1 q1 q2 (am_Loc_has hl) (by rw [hlen]; exact hj) rfl fin
                  · rw [q3] at fin
                    exact lv_astore C.1 C.2.1 q1 (am_Loc_has hl) (by rw [hlen]; exact hj) rfl fin
                obtain ⟨u, a1, b1⟩ := hgo (T'.setVm vm₂) rfl X2
                exact ⟨u, am_toHandler X rfl hf a1, b1⟩
          next => cases h
        next => cases h
      next => cases h
    next => cases h
  next => cases h
end CLH
