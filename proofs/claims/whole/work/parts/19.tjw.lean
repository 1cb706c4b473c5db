/-! the throw of a new exception -/
theorem am_Rel_grow {D : va_G} {cA : Nat → ClassId} {B0 : Nat} {sb : Nat → Option Nat} {H00 : Heap} {s : State} {M : am_M} {H H2 : Heap} (hR : am_Rel D cA B0 sb H00 s M H) (hB : B0 ≤ H.size) (ho : ∀ q, q < H.size → H2[q]? = H[q]?) : am_Rel D cA B0 sb H00 s (am_thr M) H2 := by
  refine ⟨fun k sk hk => ?_, fun n hn => (by cases hn), fun q hq => (ho q (by omega)).trans (hR.2.2 q hq)⟩
  have h0 := hR.1 k sk hk
  match sk, h0 with
  | .inl ci, h0 =>
    have hlt : B0 + k < H.size := h0.2.lt
    exact am_at_kept (M := M) (M' := am_thr M) rfl rfl rfl (ho _ hlt) (fun b hs => ho _ (by omega)) h0
  | .inr (kd, n), h0 =>
    by_cases e5 : kd = 5
    · subst e5
      obtain ⟨b, h1, h2, h3⟩ := am_at_scr h0
      unfold am_at
      dsimp only
      rw [if_pos rfl]
      exact ⟨b, h1, h2.kept (ho _ (by omega)), h3⟩
    · have hlt : B0 + k < H.size := (am_at_arr e5 h0).2.lt
      exact am_at_kept (M := M) (M' := am_thr M) rfl rfl rfl (ho _ hlt) (fun b hs => ho _ (by omega)) h0
def am_own (ii : Nat) (cls : String) : List Cond := [.methodLink "TokenMouth" ii (Bundle.initS cls), .instantiable cls 6, .selects cls Bundle.tFill0 Bundle.tFill0, .selects cls Bundle.tFill Bundle.tFill, .lays cls Bundle.tN "cause" "Ljava/lang/Throwable;", .lays cls Bundle.tN "stackTrace" Bundle.steD, .lays cls Bundle.tN "suppressedExceptions" Bundle.listD, .lays cls Bundle.tN "detailMessage" "Ljava/lang/String;", .fieldLink Bundle.tN 198 Bundle.tN "backtrace" "Ljava/lang/Object;", .lays Bundle.tN Bundle.tN "backtrace" "Ljava/lang/Object;", .lays cls Bundle.tN "backtrace" "Ljava/lang/Object;"]
set_option maxHeartbeats 1000000 in
theorem ok_throw {nm : Nat → MethodName} {D : va_G} {cA : Nat → ClassId} {B0 : Nat} {sb : Nat → Option Nat} {H00 : Heap} {Tx : State → Prop} {cc : ByteArray} {mn : String} {rt : Option FieldType} {pc kd ic il ii ix : Nat} {tx : String} {bx : ByteArray}
    (h0 : decode cc pc = .ok (.new ic, 3)) (h1 : decode cc (pc + 3) = .ok (.dup, 1)) (h2 : decode cc (pc + 4) = .ok (.ldc il, 2)) (h3 : decode cc (pc + 6) = .ok (.invokespecial ii, 3)) (h4 : decode cc (pc + 9) = .ok (.athrow, 1))
    (hstr : (il, tx) ∈ am_strs) (hfit : Bundle.fit (am_exn kd) = true) (k0 : decode bx 0 = .ok (.aload_n 0, 1)) (k1 : decode bx 1 = .ok (.aload_n 1, 1)) (k2 : decode bx 2 = .ok (.invokespecial ix, 3)) (k5 : decode bx 5 = .ok (.return_, 1))
    (w1 : Cond.classLink "TokenMouth" ic (am_exn kd) ∈ am_ws) (w2 : Cond.instantiable (am_exn kd) 6 ∈ am_ws) (w3 : Cond.initialized (am_exn kd) ∈ am_ws)
    (w4 : ∀ a ∈ Bundle.passSAtoms (am_exn kd) "java/lang/RuntimeException" ix bx, a ∈ am_decl ∨ (a ∈ tables_1 ∧ goodWord a = true)) (w5 : ∀ a ∈ am_own ii (am_exn kd), a ∈ tables_1 ∧ goodWord a = true) : am_Ok nm D cA B0 sb H00 (am_Th B0 H00 Tx) cc "TokenMouth" mn [] rt pc (ac_throw kd) := by
  intro ls st M res h
  unfold ac_throw at h
  split at h
  next =>
    cases h
    refine ⟨⟨by show am_cn M ≤ am_cn M + 1; omega, by show am_sn M ≤ am_sn M + 6; omega⟩, ?_⟩
    intro p l e R s m args below meth c C hml H locs cells slots real hl hR hS hc hs _ hcc hss
    have ec : am_cn (am_thr M) - am_cn M = 1 := by show am_cn M + 1 - am_cn M = 1; omega
    have es : am_sn (am_thr M) - am_sn M = 6 := by show am_sn M + 6 - am_sn M = 6; omega
    rw [ec] at hcc
    rw [es] at hss
    rw [ec, es]
    obtain ⟨hx, hb, hrt, hlk, hown, hts, hK, hB, hfr, hlo, hmn, het, hfl⟩ := C
    obtain ⟨hKa, hKb, hKc, hKd, hdecl, hzU, hzS, hstrs, -⟩ := hK
    have hsz : s.heap.size ≤ H.size := hS.1
    have hH : ∀ q, q < B0 → s.heap[q]? = H00[q]? := fun q hq => (hS.2.1 q (by omega) (by unfold am_A0; omega)).symm.trans (hR.2.2 q hq)
    obtain ⟨zU1, zU2, zU3⟩ := am_ZZ_at (args := args) hH hzU
    obtain ⟨zS1, zS2, -⟩ := am_ZZ_at (args := args) hH hzS
    obtain ⟨c1, kX, hc1, hkX, -⟩ := Cond.instantiable_spec (hts _ w2)
    obtain ⟨q, hq⟩ := hstrs _ hstr
    have hexc : c.exceptionTable.toList = [] := List.map_eq_nil_iff.mp het
    have hdw : ∀ a, (a ∈ am_decl ∨ (a ∈ tables_1 ∧ goodWord a = true)) → a.before args s = true := by
      intro a ha
      rcases ha with ha | ha
      · have h9 := hdecl a ha
        unfold am_decl at ha
        rcases List.mem_cons.mp ha with rfl | ha
        · exact va_Nw.use rfl h9
        · rcases List.mem_cons.mp ha with rfl | ha
          · exact va_Nw.use rfl h9
          · rcases List.mem_cons.mp ha with rfl | ha
            · exact va_Nw.use rfl h9
            · cases ha
      · exact hts _ (am_inT ha)
    unfold am_Wk
    refine W.newcK hx hb hown (hts _ w1) (hts _ w2) (hts _ w3) rfl h0 hcc hss hc1 rfl fun H1 kC hkC e1 z1 o1 => ?_
    cases hkX.symm.trans hkC
    refine lv_dup hx hb h1 rfl ?_
    refine va_ldcS hx hb hown hq h2 ?_
    intro T hT X
    obtain ⟨vm₂, ce, L, hL, hce, hcc2, X₂, st2⟩ := am_ctor X hx (Launch.traces_off hfl X.admits) (own := "TokenMouth") (cls := am_exn kd) (names := ["java/lang/Exception"]) (ic := ii) hown hfit (Y1 := "java/lang/RuntimeException") (by decide +kernel) (by decide +kernel) k0 k1 k2 k5
      (fun a ha => by
        rcases th_w1 a ha with rfl | rfl | h9
        · exact zU1
        · exact zS1
        · exact hts _ (am_inT h9))
      (fun a ha => hts _ (am_inT (th_w2 a ha))) (fun a ha => hdw a (w4 a ha)) (fun a ha => hdw a (th_w3 a ha)) (fun a ha => hts _ (am_inT (w5 a ha))) zU2 zS2 (B0 := B0) hS.2.2 zU3
      (a := H.size) hc1 hkC (by rw [hT]; exact e1) hsz (msg := .ref q) rfl (g := F0 m (pc + 6) real (.ref q :: .ref H.size :: .ref H.size :: ([] : List Value).map (am_val B0 sb))) rfl (by show real.size = _; rw [hl.1]; exact hml) (rest := [.ref H.size]) rfl (by rw [hb]; exact h3) (by show 1 + 4 < _; omega) (by show 2 * 0 + 1 + (13 * (1 + 2) + 42) ≤ _; omega)
    obtain ⟨hwalk, hrun, hend, hwarm, hsame⟩ := X₂.athrowLeaves hx (g := F0 m (pc + 9) real [.ref H.size]) rfl rfl rfl (fun x hx => by rw [hexc] at hx; cases hx) (a := H.size) (rest := []) rfl (by rw [hb]; exact h4) (hlocks := hlk)
    have hheap : ∀ qq : Nat, qq ≠ H.size → ((T.setVm vm₂).setCell H.size ce).heap[qq]? = H1[qq]? := fun qq hqq => by
      show (T.heap.setIfInBounds H.size ce)[qq]? = _
      rw [hT]
      simp [Array.getElem?_setIfInBounds, Ne.symm hqq]
    have hself : ((T.setVm vm₂).setCell H.size ce).heap[H.size]? = some ce := by
      show (T.heap.setIfInBounds H.size ce)[H.size]? = _
      rw [hT]
      simp [Array.getElem?_setIfInBounds, z1]
    have hold : ∀ qq : Nat, qq < H.size → ((T.setVm vm₂).setCell H.size ce).heap[qq]? = H[qq]? := fun qq hqq => (hheap qq (by omega)).trans (o1 qq hqq)
    have hsize2 : ((T.setVm vm₂).setCell H.size ce).heap.size = H.size + 1 := by
      show (T.heap.setIfInBounds H.size ce).size = _
      rw [hT]
      simp [z1]
    refine ⟨_, st2 _ hwalk, .threw H.size, hrun, hend, ⟨⟨H.size, ce, rfl, hself, hce, ?_⟩, ?_, ?_⟩, locs ++ L, ⟨hwarm, hsame⟩, fun x hx => ?_⟩
    · rw [hcc2, ← hc1]
      exact hwarm.alike.findClass _ _
    · exact am_Rel_moved (s := s) hwarm.alike (am_Rel_grow hR (by omega) hold)
    · refine ⟨?_, fun qq g1 g2 => (hold qq (by omega)).trans (hS.2.1 qq g1 g2)⟩
      show s.heap.size ≤ ((T.setVm vm₂).setCell H.size ce).heap.size
      rw [hsize2]
      omega
    · rcases List.mem_append.mp hx with h | h
      · exact hS.2.2 x h
      · rw [hL x h]
        show B0 ≤ H.size
        omega
  next => cases h
theorem th_o0 : ∀ a ∈ Bundle.passSAtoms (am_exn 0) "java/lang/RuntimeException" 7 Bundle.six, a ∈ am_decl ∨ (a ∈ tables_1 ∧ goodWord a = true) := by decide +kernel
theorem th_o1 : ∀ a ∈ Bundle.passSAtoms (am_exn 1) "java/lang/RuntimeException" 7 Bundle.six, a ∈ am_decl ∨ (a ∈ tables_1 ∧ goodWord a = true) := by decide +kernel
theorem th_o2 : ∀ a ∈ Bundle.passSAtoms (am_exn 2) "java/lang/RuntimeException" 7 Bundle.six, a ∈ am_decl ∨ (a ∈ tables_1 ∧ goodWord a = true) := by decide +kernel
theorem th_o3 : ∀ a ∈ Bundle.passSAtoms (am_exn 3) "java/lang/RuntimeException" 13 prog_21_method_4_code, a ∈ am_decl ∨ (a ∈ tables_1 ∧ goodWord a = true) := by decide +kernel
theorem th_p0 : ∀ a ∈ am_own 78 (am_exn 0), a ∈ tables_1 ∧ goodWord a = true := by decide +kernel
theorem th_p1 : ∀ a ∈ am_own 88 (am_exn 1), a ∈ tables_1 ∧ goodWord a = true := by decide +kernel
theorem th_p2 : ∀ a ∈ am_own 110 (am_exn 2), a ∈ tables_1 ∧ goodWord a = true := by decide +kernel
theorem th_p3 : ∀ a ∈ am_own 173 (am_exn 3), a ∈ tables_1 ∧ goodWord a = true := by decide +kernel
theorem th_q : ∀ x ∈ [(74, 0), (84, 1), (106, 2), (169, 3)], Cond.classLink "TokenMouth" x.1 (am_exn x.2) ∈ tables_1 ∧ Cond.instantiable (am_exn x.2) 6 ∈ tables_1 ∧ Cond.initialized (am_exn x.2) ∈ tables_1 := by decide +kernel
