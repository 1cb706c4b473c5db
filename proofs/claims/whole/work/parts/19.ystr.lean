/-! the one text constant that is read, and the library's own methods on it: outer references 1 (the text), 2 (its bytes), 3 (the maker of an exception, never called) -/
def am_cmds : String := "par relax def gdef edef let catcode expandafter noexpand csname endcsname string if ifx iftrue iffalse else fi "
def am_Tx (B0 : Nat) (sb : Nat → Option Nat) (H00 : Heap) (U : State) : Prop :=
  (∀ i j, i < 4 → j < 4 → i ≠ j → va_Nc (am_exn i) (am_exn j) U) ∧
  ∃ a b, sb 1 = some a ∧ sb 2 = some b ∧ vk_R "TokenMouth$Names" 22 am_cmds a U ∧ va_O "java/lang/String" a (am_A0 B0) U H00 ∧ va_OF "java/lang/String" "coder" "B" (.int 0) a (am_A0 B0) U H00 ∧ va_OF "java/lang/String" "value" "[B" (.ref b) a (am_A0 B0) U H00 ∧ va_T .byte b 111 (fun j => .int (Int32.ofNat (am_txt.getD j 0))) (am_A0 B0) U H00 ∧ va_Z "java/lang/String" "COMPACT_STRINGS" "Z" (.int 1) (am_A0 B0) U H00 ∧ va_Z "jdk/internal/util/Preconditions" "SIOOBE_FORMATTER" "Ljava/util/function/BiFunction;" (va_rf (sb 3)) (am_A0 B0) U H00
theorem am_Tx_moved {B0 : Nat} {sb : Nat → Option Nat} {H00 : Heap} (s U : State) (hW : s.WarmedH U.vm) (h : am_Tx B0 sb H00 s) : am_Tx B0 sb H00 U := by
  obtain ⟨h1, a, b, h2, h3, h4, h5, h6, h7, h8, h9, h10⟩ := h
  have hv := hW.alike
  exact ⟨fun i j hi hj hn => (h1 i j hi hj hn).moved hv, a, b, h2, h3, vk_R.warm hW h4, h5.moved hv, h6.moved hv, h7.moved hv, h8.moved hv, h9.moved hv, h10.moved hv⟩
section STR
variable {nm : Nat → MethodName} {D : va_G} {cA : Nat → ClassId} {B0 : Nat} {sb : Nat → Option Nat} {H00 : Heap} {cc : ByteArray} {own mn : String} {eh : List (Nat × Nat × Nat × Nat)} {rt : Option FieldType} {pc : Nat}
theorem ok_keep {Th : State → Prop} {a : am_A} (h : ∀ ls st M res, a ls st M = some res → ∃ n st', res = .inl (n, ls, st', M) ∧
    ∀ (p : Program) (l : Launch) (e : Env) (R : Room) (s : State) (m : MethodId) (args : Array Value) (below : List Frame) (meth : Method) (c : Code) (H : Heap) (locs : List Loc) (cells slots : Nat) (Q : State → Prop) (real : Array Slot),
      am_Cx D cA B0 Th cc own mn eh rt p l R s m args meth c → (∀ q, q < H00.size → ¬ am_A0 B0 q → s.heap[q]? = H00[q]?) → va_S (am_A0 B0) s.heap H locs → am_Wk B0 sb p l e R s m args below meth c H locs cells slots Q n real st' → am_Wk B0 sb p l e R s m args below meth c H locs cells slots Q pc real st) : am_Ok nm D cA B0 sb H00 Th cc own mn eh rt pc a := by
  intro ls st M res hres
  obtain ⟨n, st', rfl, hw⟩ := h ls st M res hres
  refine ⟨⟨⟨Nat.le_refl _, Nat.le_refl _⟩, rfl⟩, ?_⟩
  intro p l e R s m args below meth c C hml H locs cells slots real hl hR hS hc hs Q hT
  refine hw p l e R s m args below meth c H locs cells slots Q real C (fun q _ hq => ?_) hS (am_self hT hR hS real hl)
  have hB := C.2.2.2.2.2.2.2.1
  have hlt : q < B0 := Nat.not_le.mp hq
  exact (hS.2.1 q (by omega) hq).symm.trans (hR.2.2 q hlt)
def ac_sval (n : Nat) : am_A := fun ls st M => match st with
  | .retAddr 1 :: r => some (.inl (n, ls, .retAddr 2 :: r, M))
  | _ => none
def ac_scod (n : Nat) : am_A := fun ls st M => match st with
  | .retAddr 1 :: r => some (.inl (n, ls, .int 0 :: r, M))
  | _ => none
def ac_tlen (n : Nat) : am_A := fun ls st M => match st with
  | .retAddr 2 :: r => some (.inl (n, ls, .int 111 :: r, M))
  | _ => none
theorem ok_sval {idx : Nat} (hd : decode cc pc = .ok (.getfield idx, 3)) (hw : Cond.fieldLink own idx "java/lang/String" "value" "[B" ∈ am_ws) : am_Ok nm D cA B0 sb H00 (am_Th B0 H00 (am_Tx B0 sb H00)) cc own mn eh rt pc (ac_sval (pc + 3)) := by
  refine ok_keep fun ls st M res h => ?_
  unfold ac_sval at h
  split at h
  next r =>
    cases h
    refine ⟨_, _, rfl, ?_⟩
    intro p l e R s m args below meth c H locs cells slots Q real C hq hS kk
    obtain ⟨-, a, b, h2, h3, h4, h5, h6, h7, -⟩ := C.2.2.2.2.2.2.1.2.2.2.2.2.2.2.2
    unfold am_Wk at kk ⊢
    show W p l e R s m args below meth c H locs cells slots Q (F0 m pc real (va_rf (sb 1) :: r.map (am_val B0 sb)))
    have kk' : W p l e R s m args below meth c H locs cells slots Q (F0 m (pc + 3) real (va_rf (sb 2) :: r.map (am_val B0 sb))) := kk
    rw [h3] at kk'
    rw [h2]
    exact vk_getf C.1 C.2.1 (h7.kept hq) hS C.2.2.2.2.1 (C.2.2.2.2.2.1 _ hw) (fun _ h => h) hd kk'
  next => cases h
theorem ok_scod {idx : Nat} (hd : decode cc pc = .ok (.getfield idx, 3)) (hw : Cond.fieldLink own idx "java/lang/String" "coder" "B" ∈ am_ws) : am_Ok nm D cA B0 sb H00 (am_Th B0 H00 (am_Tx B0 sb H00)) cc own mn eh rt pc (ac_scod (pc + 3)) := by
  refine ok_keep fun ls st M res h => ?_
  unfold ac_scod at h
  split at h
  next r =>
    cases h
    refine ⟨_, _, rfl, ?_⟩
    intro p l e R s m args below meth c H locs cells slots Q real C hq hS kk
    obtain ⟨-, a, b, h2, h3, h4, h5, h6, h7, -⟩ := C.2.2.2.2.2.2.1.2.2.2.2.2.2.2.2
    unfold am_Wk at kk ⊢
    show W p l e R s m args below meth c H locs cells slots Q (F0 m pc real (va_rf (sb 1) :: r.map (am_val B0 sb)))
    rw [h2]
    exact vk_getf C.1 C.2.1 (h6.kept hq) hS C.2.2.2.2.1 (C.2.2.2.2.2.1 _ hw) (fun _ h => h) hd kk
  next => cases h
theorem ok_tlen (hd : decode cc pc = .ok (.arraylength, 1)) : am_Ok nm D cA B0 sb H00 (am_Th B0 H00 (am_Tx B0 sb H00)) cc own mn eh rt pc (ac_tlen (pc + 1)) := by
  refine ok_keep fun ls st M res h => ?_
  unfold ac_tlen at h
  split at h
  next r =>
    cases h
    refine ⟨_, _, rfl, ?_⟩
    intro p l e R s m args below meth c H locs cells slots Q real C hq hS kk
    obtain ⟨-, a, b, h2, h3, h4, h5, h6, h7, h8, -⟩ := C.2.2.2.2.2.2.1.2.2.2.2.2.2.2.2
    unfold am_Wk at kk ⊢
    show W p l e R s m args below meth c H locs cells slots Q (F0 m pc real (va_rf (sb 2) :: r.map (am_val B0 sb)))
    rw [h3]
    exact va_tlen C.1 C.2.1 (h8.kept hq) hS (by decide) hd kk
  next => cases h
def ac_tbld (n : Nat) : am_A := fun ls st M => match st with
  | .int i :: .retAddr 2 :: r => some (.inr (.inl (vp_in i 111, (n, ls, .int (Int32.ofNat (am_txt.getD i.toNatClampNeg 0)) :: r, M))))
  | _ => none
theorem ok_tbld (hd : decode cc pc = .ok (.baload, 1)) : am_Ok nm D cA B0 sb H00 (am_Th B0 H00 (am_Tx B0 sb H00)) cc own mn eh rt pc (ac_tbld (pc + 1)) := by
  refine ok_cond fun ls st M res h => ?_
  unfold ac_tbld at h
  split at h
  next i r =>
    cases h
    refine ⟨_, _, _, rfl, ?_⟩
    intro p l e R s m args below meth c H locs cells slots Q real C hR hS hin kk
    have hB := C.2.2.2.2.2.2.2.1
    have hq : ∀ q, q < H00.size → ¬ am_A0 B0 q → s.heap[q]? = H00[q]? := fun q _ hq => by
      have hlt : q < B0 := Nat.not_le.mp hq
      exact (hS.2.1 q (by omega) hq).symm.trans (hR.2.2 q hlt)
    obtain ⟨-, a, b, h2, h3, h4, h5, h6, h7, h8, -⟩ := C.2.2.2.2.2.2.1.2.2.2.2.2.2.2.2
    unfold am_Wk at kk ⊢
    show W p l e R s m args below meth c H locs cells slots Q (F0 m pc real (.int i :: va_rf (sb 2) :: r.map (am_val B0 sb)))
    rw [h3]
    exact va_tb C.1 C.2.1 (h8.kept hq) hS hin rfl hd kk
  next => cases h
theorem ok_gets38 {idx : Nat} (hd : decode cc pc = .ok (.getstatic idx, 3)) (hw : Cond.fieldLink own idx "java/lang/String" "COMPACT_STRINGS" "Z" ∈ am_ws) : am_Ok nm D cA B0 sb H00 (am_Th B0 H00 (am_Tx B0 sb H00)) cc own mn eh rt pc (ac_push (.int 1) (pc + 3)) := by
  refine ok_keep fun ls st M res h => ?_
  cases h
  refine ⟨_, _, rfl, ?_⟩
  intro p l e R s m args below meth c H locs cells slots Q real C hq hS kk
  obtain ⟨-, a, b, h2, h3, h4, h5, h6, h7, h8, h9, -⟩ := C.2.2.2.2.2.2.1.2.2.2.2.2.2.2.2
  exact va_gets C.1 C.2.1 (h9.kept hq) hS C.2.2.2.2.1 (C.2.2.2.2.2.1 _ hw) (fun _ h => h) hd kk
theorem ok_getsF {idx : Nat} (hd : decode cc pc = .ok (.getstatic idx, 3)) (hw : Cond.fieldLink own idx "jdk/internal/util/Preconditions" "SIOOBE_FORMATTER" "Ljava/util/function/BiFunction;" ∈ am_ws) : am_Ok nm D cA B0 sb H00 (am_Th B0 H00 (am_Tx B0 sb H00)) cc own mn eh rt pc (ac_push (.retAddr 3) (pc + 3)) := by
  refine ok_keep fun ls st M res h => ?_
  cases h
  refine ⟨_, _, rfl, ?_⟩
  intro p l e R s m args below meth c H locs cells slots Q real C hq hS kk
  obtain ⟨-, a, b, h2, h3, h4, h5, h6, h7, h8, h9, h10⟩ := C.2.2.2.2.2.2.1.2.2.2.2.2.2.2.2
  exact va_gets C.1 C.2.1 (h10.kept hq) hS C.2.2.2.2.1 (C.2.2.2.2.2.1 _ hw) (fun _ h => h) hd kk
theorem ok_ldcT (hd : decode cc pc = .ok (.ldc 22, 2)) (ho : own = "TokenMouth$Names") : am_Ok nm D cA B0 sb H00 (am_Th B0 H00 (am_Tx B0 sb H00)) cc own mn eh rt pc (ac_push (.retAddr 1) (pc + 2)) := by
  refine ok_keep fun ls st M res h => ?_
  cases h
  refine ⟨_, _, rfl, ?_⟩
  intro p l e R s m args below meth c H locs cells slots Q real C hq hS kk
  obtain ⟨-, a, b, h2, h3, h4, -⟩ := C.2.2.2.2.2.2.1.2.2.2.2.2.2.2.2
  unfold am_Wk at kk ⊢
  have kk' : W p l e R s m args below meth c H locs cells slots Q (F0 m (pc + 2) real (va_rf (sb 1) :: st.map (am_val B0 sb))) := kk
  rw [h2] at kk'
  exact va_ldcS C.1 C.2.1 C.2.2.2.2.1 (by rw [ho]; exact h4) hd kk'
theorem ok_i2c {Th : State → Prop} (hd : decode cc pc = .ok (.i2c, 1)) : am_Ok nm D cA B0 sb H00 Th cc own mn eh rt pc (ac_i1 (fun x => (x.toUInt32 % 65536).toInt32) (pc + 1)) := ok_i1 fun _ _ _ _ _ _ _ _ _ _ _ _ _ _ _ _ _ _ hx hb k => lv_i2c hx hb hd rfl k
/-- the end of a method whose answer is a small number -/
def ac_nret (ty : FieldType) : am_A := fun ls st M => match st with
  | [.int x] => some (.inr (.inr (.inr (.inr (.inr (narrow ty (.int x) = .int x, .inl (some (.int x)), M))))))
  | _ => none
theorem ok_nret {Th : State → Prop} {ty : FieldType} (hd : decode cc pc = .ok (.ireturn, 1)) (hr : rt = some ty) : am_Ok nm D cA B0 sb H00 Th cc own mn eh rt pc (ac_nret ty) := by
  intro ls st M res h
  unfold ac_nret at h
  split at h
  next x =>
    cases h
    refine ⟨⟨Nat.le_refl _, Nat.le_refl _⟩, ?_⟩
    intro p l e R s m args below meth c C hml H locs cells slots real hl hR hS hc hs hx _ _
    exact am_end hR hS (fun hq hf => W.zret C.1 C.2.1 (C.2.2.1.trans hr) hx hq hf hd (hlocks := C.2.2.2.1))
  next => cases h
/-- a call on the text -/
def ac_callX (y n1 n : Nat) : am_A := fun ls st M => match am_split n1 st [] with
  | some (as, r) => match as with
    | .retAddr 1 :: _ => if (r.map fun v => v.category).sum ≤ 8 then some (.inr (.inr (.inr (.inr (.inl (y, as, am_nohd, (n, ls, r, M))))))) else none
    | _ => none
  | none => none
theorem ok_callX {y n0 idx maxL : Nat} {bytes : ByteArray} {ret : Option FieldType} (hd : decode cc pc = .ok (.invokevirtual idx, 3)) (h1 : Cond.methodLink own idx (nm y) ∈ am_ws) (h2 : Cond.instanceMethod (nm y) ∈ am_ws) (h3 : Cond.selects "java/lang/String" (nm y) (nm y) ∈ am_ws) (h4 : Cond.code (nm y) bytes maxL ret ∈ am_ws)
    (h5 : ((nm y).cls != "java/lang/invoke/MethodHandle" && (nm y).cls != "java/lang/invoke/VarHandle") = true) (h6 : (parseMethodDescriptor (nm y).desc).map (fun d => d.parameters.length) = some n0) : am_Ok nm D cA B0 sb H00 (am_Th B0 H00 (am_Tx B0 sb H00)) cc own mn [] rt pc (ac_callX y (n0 + 1) (pc + 3)) := by
  intro ls st M res h
  unfold ac_callX at h
  split at h
  next as r hsp =>
    split at h
    next rest =>
      split at h
      next hr =>
        cases h
        refine ⟨⟨rfl, rfl, rfl⟩, ?_⟩
        intro p l e R s m args below meth c C hml H locs cells slots real hl hR hS hc hs
        obtain ⟨xs, e1, e2, e3⟩ := am_split_spec _ _ _ _ _ hsp
        rw [List.append_nil] at e1
        subst e1
        have hts := C.2.2.2.2.2.1
        have hB := C.2.2.2.2.2.2.2.1
        have hq : ∀ q, q < H00.size → ¬ am_A0 B0 q → H[q]? = H00[q]? := fun q _ hq => hR.2.2 q (Nat.not_le.mp hq)
        obtain ⟨-, a, b, g2, g3, g4, g5, -⟩ := C.2.2.2.2.2.2.1.2.2.2.2.2.2.2.2
        obtain ⟨cell, k1, k2, k3, -⟩ := g5.kept hq
        have ha : am_val B0 sb (.retAddr 1) = .ref a := by show va_rf (sb 1) = _; rw [g2]; rfl
        refine ⟨?_, ⟨_, hd⟩, by rw [am_cats]; exact hr, ?_⟩
        · have h9 : (List.map (am_val B0 sb) (Value.retAddr 1 :: rest)).toArray = (Value.ref a :: rest.map (am_val B0 sb)).toArray := by rw [List.map_cons, ha]
          rw [h9]
          refine am_invV C.1 C.2.2.2.2.1 (hts _ h1) (hts _ h2) (hts _ h3) (hts _ h4) (am_ne h5) k1 k2 k3 rfl (argsL := rest.map (am_val B0 sb)) (fun sig hs => ?_) ?_ (by rw [C.2.1]; exact hd)
          · rw [List.length_map]
            have := am_par h6 sig hs
            have h9 : rest.length + 1 = n0 + 1 := by rw [← e3]; rfl
            omega
          · show st.map (am_val B0 sb) = _
            rw [e2]
            simp [ha]
        · intro Q T' x kd cell locs1 cells1 slots1 X _ _ _ hk
          exact am_leave C X hk
      next => cases h
    next => cases h
  next => cases h
theorem ok_callSW {Th : State → Prop} {y n0 idx maxL : Nat} {bytes : ByteArray} {ret : Option FieldType} {hh : List (Nat × Nat × Nat × Nat)} (hd : decode cc pc = .ok (.invokestatic idx, 3)) (h1 : Cond.methodLink own idx (nm y) ∈ am_ws) (h2 : Cond.static (nm y) ∈ am_ws) (h3 : Cond.initialized (nm y).cls ∈ am_ws) (h4 : Cond.codeWith (nm y) bytes maxL ret hh ∈ am_ws)
    (h5 : ((nm y).cls != "java/lang/invoke/MethodHandle" && (nm y).cls != "java/lang/invoke/VarHandle") = true) (h6 : (parseMethodDescriptor (nm y).desc).map (fun d => d.parameters.length) = some n0) : am_Ok nm D cA B0 sb H00 Th cc own mn [] rt pc (ac_callS y n0 (pc + 3)) := by
  intro ls st M res h
  unfold ac_callS at h
  split at h
  next as r hsp =>
    split at h
    next hr =>
      cases h
      refine ⟨⟨rfl, rfl, rfl⟩, ?_⟩
      intro p l e R s m args below meth c C hml H locs cells slots real hl hR hS hc hs
      obtain ⟨xs, e1, e2, e3⟩ := am_split_spec _ _ _ _ _ hsp
      rw [List.append_nil] at e1
      subst e1
      have hts := C.2.2.2.2.2.1
      refine ⟨am_invS C.1 C.2.2.2.2.1 (hts _ h1) (hts _ h2) (hts _ h3) ?_ (am_ne h5) rfl (argsL := as.map (am_val B0 sb)) (fun sig hs => ?_) ?_ (by rw [C.2.1]; exact hd), ⟨_, hd⟩, by rw [am_cats]; exact hr, ?_⟩
      · obtain ⟨mk, methM, cM, q1, q2, -, -, -, -, -, -, q9⟩ := Cond.codeWith_spec (hts _ h4)
        exact ⟨mk, methM, q1, q2, q9⟩
      · rw [List.length_map, e3]
        exact am_par h6 sig hs
      · show st.map (am_val B0 sb) = _
        rw [e2]
        simp
      · intro Q T' x kd cell locs1 cells1 slots1 X _ _ _ hk
        exact am_leave C X hk
    next => cases h
  next => cases h
end STR
