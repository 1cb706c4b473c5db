/-! calls -/
def am_split : Nat → List Value → List Value → Option (List Value × List Value)
  | 0, st, acc => some (acc, st)
  | n + 1, v :: st, acc => am_split n st (v :: acc)
  | _ + 1, [], _ => none
theorem am_split_spec : ∀ (n : Nat) (st acc as r : List Value), am_split n st acc = some (as, r) → ∃ xs, as = xs ++ acc ∧ st = xs.reverse ++ r ∧ xs.length = n
  | 0, st, acc, as, r, h => by
    cases h
    exact ⟨[], rfl, rfl, rfl⟩
  | n + 1, v :: st, acc, as, r, h => by
    obtain ⟨xs, h1, h2, h3⟩ := am_split_spec n st (v :: acc) as r h
    refine ⟨xs ++ [v], by rw [h1]; simp, by rw [h2]; simp, by simp [h3]⟩
  | n + 1, [], acc, as, r, h => by cases h
def am_nohd : Nat → Option (Nat × Nat) := fun _ => none
/-- a call on an object of the kind ci: n1 values with the receiver -/
def ac_callV (ci y n1 n : Nat) (hd : Nat → Option (Nat × Nat)) : am_A := fun ls st M => match am_split n1 st [] with
  | some (as, r) => match as with
    | .ref k :: _ => match am_sh M k with
      | some (.inl c1) => if c1 = ci ∧ (r.map fun v => v.category).sum ≤ 8 then some (.inr (.inr (.inr (.inr (.inl (y, as, hd, (n, ls, r, M))))))) else none
      | _ => none
    | _ => none
  | none => none
/-- a static call, or one of <init> -/
def ac_callS (y n1 n : Nat) : am_A := fun ls st M => match am_split n1 st [] with
  | some (as, r) => if (r.map fun v => v.category).sum ≤ 8 then some (.inr (.inr (.inr (.inr (.inl (y, as, am_nohd, (n, ls, r, M))))))) else none
  | none => none
def ac_callI (y n1 n : Nat) : am_A := fun ls st M => match am_split n1 st [] with
  | some (as, r) => match as with
    | .ref _ :: _ => if (r.map fun v => v.category).sum ≤ 8 then some (.inr (.inr (.inr (.inr (.inl (y, as, am_nohd, (n, ls, r, M))))))) else none
    | _ => none
  | none => none
section CAL
variable {nm : Nat → MethodName} {D : va_G} {cA : Nat → ClassId} {B0 : Nat} {sb : Nat → Option Nat} {H00 : Heap} {Th : State → Prop} {cc : ByteArray} {own mn : String} {rt : Option FieldType} {pc : Nat}
/-- a throw out of a method without handlers -/
theorem am_leave {p : Program} {l : Launch} {e : Env} {R : Room} {s : State} {m : MethodId} {args : Array Value} {below : List Frame} {meth : Method} {c : Code} {T' : State} {locs : List Loc} {cells slots : Nat} {Q : State → Prop} {x : Addr} {real : Array Slot} {st : List Value}
    (C : am_Cx D cA B0 Th cc own mn [] rt p l R s m args meth c) (X : Stand p l e R s m args below meth c T' locs cells slots) (h : ∀ vm' : Vm, Stand p l e R s m args below meth c (T'.setVm vm') locs cells slots → ∃ u, Steps p.tables e below ((T'.setVm vm').setFrames (.throwing x :: below)) u ∧ Q u) : ∃ u, Steps p.tables e below ((T'.setTop (F0 m pc real st)).pushFrame (.throwing x)) u ∧ Q u := by
  obtain ⟨u, h1, h2⟩ := h T'.vm X
  have het : c.exceptionTable.toList = [] := List.map_eq_nil_iff.mp C.2.2.2.2.2.2.2.2.2.2.2.1
  exact ⟨u, (X.leaveThrown x (g := F0 m pc real st) rfl rfl rfl (fun y hy => by rw [het] at hy; cases hy) (hlocks := C.2.2.2.1)).1.trans h1, h2⟩
theorem am_ne {y : MethodName} (h : (y.cls != "java/lang/invoke/MethodHandle" && y.cls != "java/lang/invoke/VarHandle") = true) : y.cls ≠ "java/lang/invoke/MethodHandle" ∧ y.cls ≠ "java/lang/invoke/VarHandle" := by
  simpa using h
theorem am_par {y : MethodName} {n : Nat} (h : (parseMethodDescriptor y.desc).map (fun d => d.parameters.length) = some n) : ∀ sig, parseMethodDescriptor y.desc = some sig → n = sig.parameters.length := by
  intro sig hs
  rw [hs] at h
  exact (Option.some.inj h).symm
theorem ok_callV {ci y n0 idx maxL : Nat} {bytes : ByteArray} {ret : Option FieldType} (hci : ci < 7) (hd : decode cc pc = .ok (.invokevirtual idx, 3)) (h1 : Cond.methodLink own idx (nm y) ∈ am_ws) (h2 : Cond.instanceMethod (nm y) ∈ am_ws) (h3 : Cond.selects (ck_R ci) (nm y) (nm y) ∈ am_ws) (h4 : Cond.code (nm y) bytes maxL ret ∈ am_ws)
    (h5 : ((nm y).cls != "java/lang/invoke/MethodHandle" && (nm y).cls != "java/lang/invoke/VarHandle") = true) (h6 : (parseMethodDescriptor (nm y).desc).map (fun d => d.parameters.length) = some n0) : am_Ok nm D cA B0 sb H00 Th cc own mn [] rt pc (ac_callV ci y (n0 + 1) (pc + 3) am_nohd) := by
  intro ls st M res h
  unfold ac_callV at h
  split at h
  next as r hsp =>
    split at h
    next k rest =>
      split at h
      next c1 hsh =>
        split at h
        next hc1 =>
          obtain ⟨rfl, hr⟩ := hc1
          cases h
          refine ⟨⟨rfl, rfl, rfl⟩, ?_⟩
          intro p l e R s m args below meth c C hml H locs cells slots real hl hR hS hc hs
          obtain ⟨xs, e1, e2, e3⟩ := am_split_spec _ _ _ _ _ hsp
          rw [List.append_nil] at e1
          subst e1
          have hts := C.2.2.2.2.2.1
          obtain ⟨cell, g1, g2, g3⟩ := va_recv C.2.2.2.2.2.2.1.1 (am_one (hR.1 k _ hsh).2) (ck_at c1 hci) (q0 := 0) rfl
          refine ⟨am_invV C.1 C.2.2.2.2.1 (hts _ h1) (hts _ h2) (hts _ h3) (hts _ h4) (am_ne h5) g1 g2 g3 rfl (argsL := rest.map (am_val B0 sb)) (fun sig hs => ?_) ?_ (by rw [C.2.1]; exact hd), ⟨_, hd⟩, by rw [am_cats]; exact hr, ?_⟩
          · rw [List.length_map]
            have := am_par h6 sig hs
            have h9 : rest.length + 1 = n0 + 1 := by rw [← e3]; rfl
            omega
          · show st.map (am_val B0 sb) = _
            rw [e2]
            simp [am_val]
          · intro Q T' x kd cell locs1 cells1 slots1 X _ _ _ hk
            exact am_leave C X hk
        next => cases h
      next => cases h
    next => cases h
  next => cases h
theorem ok_callS {y n0 idx maxL : Nat} {bytes : ByteArray} {ret : Option FieldType} (hd : decode cc pc = .ok (.invokestatic idx, 3)) (h1 : Cond.methodLink own idx (nm y) ∈ am_ws) (h2 : Cond.static (nm y) ∈ am_ws) (h3 : Cond.initialized (nm y).cls ∈ am_ws) (h4 : Cond.code (nm y) bytes maxL ret ∈ am_ws)
    (h5 : ((nm y).cls != "java/lang/invoke/MethodHandle" && (nm y).cls != "java/lang/invoke/VarHandle") = true) (h6 : (parseMethodDescriptor (nm y).desc).map (fun d => d.parameters.length) = some n0) : am_Ok nm D cA B0 sb H00 Th cc own mn [] rt pc (ac_callS y n0 (pc + 3)) := by
  intro ls st M res h
  unfold ac_callS at h
  split at h
  next as r hsp =>
    split at h
    next hr =>
      cases h
      refine ⟨⟨rfl, rfl, rfl⟩, ?_⟩
      intro p l e R s m args below meth c C hml H locs cells slots real hl hR hS hc hs
      obtain ⟨xs, e1, e2, e3⟩ := am_split_spec _ _ _ _ _ hsp
      rw [List.append_nil] at e1
      subst e1
      have hts := C.2.2.2.2.2.1
      refine ⟨am_invS C.1 C.2.2.2.2.1 (hts _ h1) (hts _ h2) (hts _ h3) ?_ (am_ne h5) rfl (argsL := as.map (am_val B0 sb)) (fun sig hs => ?_) ?_ (by rw [C.2.1]; exact hd), ⟨_, hd⟩, by rw [am_cats]; exact hr, ?_⟩
      · obtain ⟨mk, hnamed⟩ := Cond.code_named (hts _ h4)
        obtain ⟨methM, cM, hmethM, -, -, -, -, -, -, hsigM⟩ := Cond.code_spec hnamed (hts _ h4)
        exact ⟨mk, methM, hnamed, hmethM, hsigM⟩
      · rw [List.length_map, e3]
        exact am_par h6 sig hs
      · show st.map (am_val B0 sb) = _
        rw [e2]
        simp
      · intro Q T' x kd cell locs1 cells1 slots1 X _ _ _ hk
        exact am_leave C X hk
    next => cases h
  next => cases h
theorem ok_callSN {y n0 idx maxL : Nat} {bytes : ByteArray} {ret : Option FieldType} {host : String} (hd : decode cc pc = .ok (.invokestatic idx, 3)) (h1 : Cond.methodLinkNest own idx (nm y) host ∈ am_nest) (h2 : Cond.static (nm y) ∈ am_ws) (h3 : Cond.initialized (nm y).cls ∈ am_ws) (h4 : Cond.code (nm y) bytes maxL ret ∈ am_ws)
    (h5 : ((nm y).cls != "java/lang/invoke/MethodHandle" && (nm y).cls != "java/lang/invoke/VarHandle") = true) (h6 : (parseMethodDescriptor (nm y).desc).map (fun d => d.parameters.length) = some n0) : am_Ok nm D cA B0 sb H00 Th cc own mn [] rt pc (ac_callS y n0 (pc + 3)) := by
  intro ls st M res h
  unfold ac_callS at h
  split at h
  next as r hsp =>
    split at h
    next hr =>
      cases h
      refine ⟨⟨rfl, rfl, rfl⟩, ?_⟩
      intro p l e R s m args below meth c C hml H locs cells slots real hl hR hS hc hs
      obtain ⟨xs, e1, e2, e3⟩ := am_split_spec _ _ _ _ _ hsp
      rw [List.append_nil] at e1
      subst e1
      have hts := C.2.2.2.2.2.1
      refine ⟨am_invSN C.1 C.2.2.2.2.1 (va_Nw.use rfl (C.2.2.2.2.2.2.1.2.1 _ h1)) (hts _ h2) (hts _ h3) ?_ (am_ne h5) rfl (argsL := as.map (am_val B0 sb)) (fun sig hs => ?_) ?_ (by rw [C.2.1]; exact hd), ⟨_, hd⟩, by rw [am_cats]; exact hr, ?_⟩
      · obtain ⟨mk, hnamed⟩ := Cond.code_named (hts _ h4)
        obtain ⟨methM, cM, hmethM, -, -, -, -, -, -, hsigM⟩ := Cond.code_spec hnamed (hts _ h4)
        exact ⟨mk, methM, hnamed, hmethM, hsigM⟩
      · rw [List.length_map, e3]
        exact am_par h6 sig hs
      · show st.map (am_val B0 sb) = _
        rw [e2]
        simp
      · intro Q T' x kd cell locs1 cells1 slots1 X _ _ _ hk
        exact am_leave C X hk
    next => cases h
  next => cases h
theorem ok_callI {y n0 idx maxL : Nat} {bytes : ByteArray} (hd : decode cc pc = .ok (.invokespecial idx, 3)) (hin : (nm y).name = "<init>") (h1 : Cond.methodLink own idx (nm y) ∈ am_ws) (h2 : Cond.instanceMethod (nm y) ∈ am_ws) (h4 : Cond.code (nm y) bytes maxL none ∈ am_ws)
    (h5 : ((nm y).cls != "java/lang/invoke/MethodHandle" && (nm y).cls != "java/lang/invoke/VarHandle") = true) (h6 : (parseMethodDescriptor (nm y).desc).map (fun d => d.parameters.length) = some n0) : am_Ok nm D cA B0 sb H00 Th cc own mn [] rt pc (ac_callI y (n0 + 1) (pc + 3)) := by
  intro ls st M res h
  unfold ac_callI at h
  split at h
  next as r hsp =>
    split at h
    next k rest =>
      split at h
      next hr =>
        cases h
        refine ⟨⟨rfl, rfl, rfl⟩, ?_⟩
        intro p l e R s m args below meth c C hml H locs cells slots real hl hR hS hc hs
        obtain ⟨xs, e1, e2, e3⟩ := am_split_spec _ _ _ _ _ hsp
        rw [List.append_nil] at e1
        subst e1
        have hts := C.2.2.2.2.2.1
        refine ⟨am_invI C.1 C.2.2.2.2.1 hin (hts _ h1) (hts _ h2) (hts _ h4) (am_ne h5) rfl (argsL := rest.map (am_val B0 sb)) (fun sig hs => ?_) ?_ (by rw [C.2.1]; exact hd), ⟨_, hd⟩, by rw [am_cats]; exact hr, ?_⟩
        · rw [List.length_map]
          have := am_par h6 sig hs
          have h9 : rest.length + 1 = n0 + 1 := by rw [← e3]; rfl
          omega
        · show st.map (am_val B0 sb) = _
          rw [e2]
          simp [am_val]
        · intro Q T' x kd cell locs1 cells1 slots1 X _ _ _ hk
          exact am_leave C X hk
      next => cases h
    next => cases h
  next => cases h
end CAL
