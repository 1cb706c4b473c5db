/-! the walk, and the contracts by depth -/
section WLK
variable {nm : Nat → MethodName} {cc : Nat → ByteArray} {ml : Nat → Nat} {eh : Nat → List (Nat × Nat × Nat × Nat)} {rt : Nat → Option FieldType} {tb : Nat → Nat → Option am_A} {D : va_G} {cA : Nat → ClassId} {B0 : Nat} {sb : Nat → Option Nat} {H00 : Heap} {Th : State → Prop}
theorem am_wk_f {d x y : Nat} (h : d + 21 ≤ y) (e : x = d + 20) : x + 1 ≤ y := by omega
theorem am_wk_l {d m x y : Nat} (h : 64 * (d + 1) + 512 ≤ y) (hm : m ≤ 45) (e : x = 64 * d + 512) : 8 + (m + 11) + x ≤ y := by omega
theorem am_MQ_eq {below : List Frame} {Qc : Array Value → State → Outcome → State → Prop} {a : Array Value} {s : State} {mc ms mc' ms' : Nat} {free : Addr → Prop} (h1 : mc = mc') (h2 : ms = ms') {t : State} (h : am_MQ below Qc a s mc ms free t) : am_MQ below Qc a s mc' ms' free t := by
  subst h1; subst h2; exact h
set_option maxHeartbeats 2000000 in
theorem am_walk {l : Launch} {d : Nat} {callee : Nat → List Value → am_M → am_O → am_M → Prop} {y : Nat} (hTh : ∀ (s U : State), s.WarmedH U.vm → Th s → Th U)
    (hok : ∀ pc a, tb y pc = some a → am_Ok nm D cA B0 sb H00 Th (cc y) (nm y).cls (nm y).name (eh y) (rt y) pc a)
    (hcal : ∀ y as M o M', callee y as M o M' → am_Up M M' ∧ am_Con nm cc ml eh rt D cA B0 sb H00 Th l d y as M o M' ∧ am_cw nm cc ml eh rt y ∈ am_ws ∧ Cond.initialized (nm y).cls ∈ am_ws ∧ ml y ≤ 45)
    {p : Program} {e : Env} {R : Room} {s : State} {m : MethodId} {args : Array Value} {below : List Frame} {meth : Method} {c : Code} (C : am_Cx D cA B0 Th (cc y) (nm y).cls (nm y).name (eh y) (rt y) p l R s m args meth c) (hRf : d + 21 ≤ R.frames) (hRl : 64 * (d + 1) + 512 ≤ R.locals) (o : am_O) (M' : am_M) :
    ∀ (k : Nat) (F : am_F), am_wp callee (tb y) k F (fun o1 M1 => o1 = o ∧ M1 = M') → F.2.1.length = c.maxLocals → ∀ (H : Heap) (locs : List Loc) (cells slots : Nat) (real : Array Slot), am_Loc B0 sb real F.2.1 → am_Rel D cA B0 sb H00 s F.2.2.2 H → va_S (am_A0 B0) s.heap H locs → cells + (am_cn M' - am_cn F.2.2.2) ≤ R.cells → slots + (am_sn M' - am_sn F.2.2.2) ≤ R.slots →
      am_Wk B0 sb p l e R s m args below meth c H locs cells slots (am_MQ below (am_Qc D cA B0 sb H00 o M') args s (cells + (am_cn M' - am_cn F.2.2.2)) (slots + (am_sn M' - am_sn F.2.2.2)) (am_A0 B0)) F.1 real F.2.2.1
  | 0, _, h => False.elim h
  | k + 1, F, h => by
    have IH := am_walk (l := l) (d := d) (e := e) (below := below) hTh hok hcal C hRf hRl o M' k
    have UP := am_up hok (fun y as M o M' h => (hcal y as M o M' h).1) k
    intro hlen H locs cells slots real hl hR hS hcc hss
    have hc0 : cells ≤ R.cells := by omega
    have hs0 : slots ≤ R.slots := by omega
    unfold am_wp at h
    split at h
    · exact False.elim h
    next a ha =>
    split at h
    · exact False.elim h
    · next G hG =>
      obtain ⟨⟨h1, h1l⟩, h2⟩ := hok _ _ ha _ _ _ _ hG
      have h3 := UP G o M' h
      refine h2 p l e R s m args below meth c C hlen H locs cells slots real hl hR hS hc0 hs0 _ ⟨by have := h1.1; have := h3.1; omega, by have := h1.2; have := h3.2; omega, fun H1 locs1 real1 hl1 hR1 hS1 => ?_⟩
      have h4 := IH G h (h1l.trans hlen) H1 locs1 (cells + (am_cn G.2.2.2 - am_cn F.2.2.2)) (slots + (am_sn G.2.2.2 - am_sn F.2.2.2)) real1 hl1 hR1 hS1 (by have := h1.1; have := h3.1; omega) (by have := h1.2; have := h3.2; omega)
      exact am_W_mono (fun t ht => am_MQ_eq (by have := h1.1; have := h3.1; omega) (by have := h1.2; have := h3.2; omega) ht) h4
    · next cd G hG =>
      obtain ⟨⟨h1, h1l⟩, h2⟩ := hok _ _ ha _ _ _ _ hG
      have h3 := UP G o M' h.2
      refine h2 p l e R s m args below meth c C hlen H locs cells slots real hl hR hS hc0 hs0 h.1 _ ⟨by have := h1.1; have := h3.1; omega, by have := h1.2; have := h3.2; omega, fun H1 locs1 real1 hl1 hR1 hS1 => ?_⟩
      have h4 := IH G h.2 (h1l.trans hlen) H1 locs1 (cells + (am_cn G.2.2.2 - am_cn F.2.2.2)) (slots + (am_sn G.2.2.2 - am_sn F.2.2.2)) real1 hl1 hR1 hS1 (by have := h1.1; have := h3.1; omega) (by have := h1.2; have := h3.2; omega)
      exact am_W_mono (fun t ht => am_MQ_eq (by have := h1.1; have := h3.1; omega) (by have := h1.2; have := h3.2; omega) ht) h4
    · next cd t G hG =>
      obtain ⟨⟨h1, h1l⟩, h2⟩ := hok _ _ ha _ _ _ _ hG
      refine h2 p l e R s m args below meth c C hlen H locs cells slots real hl hR hS hc0 hs0 _ (fun hcd => ?_) (fun hcd => ?_)
      · have h4 := IH (t, G.2) (h.1 hcd) (by show G.2.1.length = _; rw [h1l]; exact hlen) H locs cells slots real (by show am_Loc B0 sb real G.2.1; rw [h1l]; exact hl) (by show am_Rel D cA B0 sb H00 s G.2.2.2 H; rw [h1]; exact hR) hS (by show cells + (am_cn M' - am_cn G.2.2.2) ≤ _; rw [h1]; exact hcc) (by show slots + (am_sn M' - am_sn G.2.2.2) ≤ _; rw [h1]; exact hss)
        dsimp only at h4
        rw [h1] at h4
        exact h4
      · have h4 := IH G (h.2 hcd) (by rw [h1l]; exact hlen) H locs cells slots real (by rw [h1l]; exact hl) (by rw [h1]; exact hR) hS (by rw [h1]; exact hcc) (by rw [h1]; exact hss)
        rw [h1] at h4
        exact h4
    · next sw x G hG =>
      obtain ⟨⟨h1, h1l⟩, h2⟩ := hok _ _ ha _ _ _ _ hG
      refine h2 p l e R s m args below meth c C hlen H locs cells slots real hl hR hS hc0 hs0 _ (am_swp_mono (fun t ht => ?_) sw h)
      have h4 := IH (t, G.2) ht (by show G.2.1.length = _; rw [h1l]; exact hlen) H locs cells slots real (by show am_Loc B0 sb real G.2.1; rw [h1l]; exact hl) (by show am_Rel D cA B0 sb H00 s G.2.2.2 H; rw [h1]; exact hR) hS (by show cells + (am_cn M' - am_cn G.2.2.2) ≤ _; rw [h1]; exact hcc) (by show slots + (am_sn M' - am_sn G.2.2.2) ≤ _; rw [h1]; exact hss)
      dsimp only at h4
      rw [h1] at h4
      exact h4
    · next y1 as hd G hG =>
      obtain ⟨⟨h1, h1l, hpc⟩, h2⟩ := hok _ _ ha _ _ _ _ hG
      obtain ⟨o1, M1, hcl, hk⟩ := h
      obtain ⟨hup, hcon, hcw, hini, hml⟩ := hcal _ _ _ _ _ hcl
      rw [h1] at hup hcon
      obtain ⟨hI, ⟨ig, hdg⟩, hcat, hexc⟩ := h2 p l e R s m args below meth c C hlen H locs cells slots real hl hR hS hc0 hs0
      have hts := C.2.2.2.2.2.1
      have hK := C.2.2.2.2.2.2.1
      have upk : am_Up M1 M' := by
        cases o1 with
        | inl v => exact UP _ o M' hk
        | inr x =>
          dsimp only at hk
          cases hh : hd x with
          | none => rw [hh] at hk; rw [← hk.2]; exact ⟨Nat.le_refl _, Nat.le_refl _⟩
          | some h' => rw [hh] at hk; exact UP _ o M' hk
      have hback : am_BackX l R p e below s args (nm y1) 3 8 (PreOf R (am_cn M1 - am_cn F.2.2.2) (am_sn M1 - am_sn F.2.2.2) (am_Pc D cA B0 sb H00 Th as F.2.2.2)) (am_PostOf (am_Qc D cA B0 sb H00 o1 M1) (am_cn M1 - am_cn F.2.2.2) (am_sn M1 - am_sn F.2.2.2) (am_A0 B0)) := by
        have hgood : ∀ w ∈ am_ws, ∀ (a' : Array Value) (U : State), s.WarmedH U.vm → w.before a' U = true := fun w hw a' U hW => word_at hW (good_of_word (List.mem_filter.mp hw).2) (hts w hw)
        refine am_back_of (maxL := ml y1) hcon (am_Pc_blind hTh as _) rfl rfl (am_wk_f hRf rfl) (am_wk_l hRl hml rfl) (fun w hw => ?_) (fun U mk hW hn => ?_) (fun a' U hW => hgood _ hini a' U hW)
        · rcases List.mem_cons.mp hw with rfl | hw
          · exact hgood _ hcw
          · exact hgood w hw
        · obtain ⟨m9, meth9, c9, q1, q2, q3, q4, q5, -⟩ := am_cw_spec (hgood _ hcw #[] U hW)
          cases hn.symm.trans q1
          exact ⟨meth9, c9, q2, q3, q5⟩
      have hPc : ∀ U : State, U.heap = H → s.WarmedH U.vm → am_Pc D cA B0 sb H00 Th as F.2.2.2 (as.map (am_val B0 sb)).toArray U := by
        intro U hU hW
        refine ⟨rfl, am_K_moved hTh hW hK, ?_, ?_⟩
        · rw [hU]; exact am_Rel_moved hW.alike hR
        · rw [hU]; have := hS.1; have := C.2.2.2.2.2.2.2.1; omega
      refine am_wcall hI hback rfl (by show real.size = _; rw [hl.1]; exact hlen) (by rw [C.2.1]; exact hdg) (by show 2 * 0 + _ ≤ 8; omega) ⟨by have := hup.1; have := upk.1; omega, by have := hup.2; have := upk.2; omega⟩ hPc ?_ ?_
      · intro v st₀ t T' L hst X hL e1 e2 hq
        obtain ⟨hoc, hR1, hF⟩ := hq
        cases o1 with
        | inr x =>
          obtain ⟨_, _, hz, -⟩ := hoc
          cases hz
        | inl v1 =>
          have hv : v = v1.map (am_val B0 sb) := Outcome.returned.inj hoc
          subst hv
          have hal : t.vm.Alike s.vm := by rw [← e2]; exact X.warmed.alike.symm
          have hR2 : am_Rel D cA B0 sb H00 s M1 T'.heap := by rw [e1]; exact am_Rel_moved hal hR1
          have hS2 : va_S (am_A0 B0) s.heap T'.heap (locs ++ L) := by
            refine ⟨?_, fun q h1 h2 => ?_, fun q hq => ?_⟩
            · have := hF.1; rw [hst] at this; rw [e1]; have := hS.1; omega
            · have h9 := hS.1
              rw [e1, hF.2 q (by rw [hst]; omega) h2, hst]
              exact hS.2.1 q h1 h2
            · rcases List.mem_append.mp hq with h | h
              · exact hS.2.2 q h
              · exact hL q h
          have h4 := IH (G.1, G.2.1, v1.toList ++ G.2.2.1, M1) hk (by show G.2.1.length = _; rw [h1l]; exact hlen) T'.heap (locs ++ L) (cells + (am_cn M1 - am_cn F.2.2.2)) (slots + (am_sn M1 - am_sn F.2.2.2)) real (by show am_Loc B0 sb real G.2.1; rw [h1l]; exact hl) hR2 hS2 (by show _ + (am_cn M' - am_cn M1) ≤ _; have := hup.1; have := upk.1; omega) (by show _ + (am_sn M' - am_sn M1) ≤ _; have := hup.2; have := upk.2; omega)
          obtain ⟨u, a1, b1⟩ := h4 T' rfl X
          refine ⟨u, ?_, am_MQ_eq (by show _ + (am_cn M' - am_cn M1) = _; have := hup.1; have := upk.1; omega) (by show _ + (am_sn M' - am_sn M1) = _; have := hup.2; have := upk.2; omega) b1⟩
          have e9 : (v1.map (am_val B0 sb)).toList ++ G.2.2.1.map (am_val B0 sb) = (v1.toList ++ G.2.2.1).map (am_val B0 sb) := by cases v1 <;> simp
          show Steps p.tables e below (T'.setTop (F0 m (F.1 + 3) real ((v1.map (am_val B0 sb)).toList ++ G.2.2.1.map (am_val B0 sb)))) u
          rw [e9, ← hpc]
          exact a1
      · intro x st₀ t T' L hst X hL e1 e2 hq
        obtain ⟨hoc, hR1, hF⟩ := hq
        cases o1 with
        | inl v1 => cases hoc
        | inr kd =>
          obtain ⟨x', cell, hz, g1, g2, g3⟩ := hoc
          cases hz
          have hal : t.vm.Alike s.vm := by rw [← e2]; exact X.warmed.alike.symm
          have hR2 : am_Rel D cA B0 sb H00 s M1 T'.heap := by rw [e1]; exact am_Rel_moved hal hR1
          have hS2 : va_S (am_A0 B0) s.heap T'.heap (locs ++ L) := by
            refine ⟨?_, fun q h1 h2 => ?_, fun q hq => ?_⟩
            · have := hF.1; rw [hst] at this; rw [e1]; have := hS.1; omega
            · have h9 := hS.1
              rw [e1, hF.2 q (by rw [hst]; omega) h2, hst]
              exact hS.2.1 q h1 h2
            · rcases List.mem_append.mp hq with h | h
              · exact hS.2.2 q h
              · exact hL q h
          have g3' : s.vm.findClass (am_exn kd) = some cell.cls := by rw [hal.findClass]; exact g3
          refine hexc _ T' x kd cell _ _ _ X (by rw [e1]; exact g1) g2 g3' ?_
          dsimp only at hk
          cases hh : hd kd with
          | none =>
            rw [hh] at hk
            dsimp only
            obtain ⟨hko, hkM⟩ := hk
            subst hkM
            subst hko
            intro vm9 X9
            obtain ⟨g₀, hfr⟩ := X9.frames_eq
            refine ⟨_, Steps.refl _, .threw x, X9.here.running, State.frames_setFrames _ (State.cur_lt_of_frames hfr), ⟨⟨x, cell, rfl, by show T'.heap[x]? = _; rw [e1]; exact g1, g2, by show vm9.findClass _ = _; rw [show vm9.findClass (am_exn kd) = s.vm.findClass (am_exn kd) from X9.warmed.alike.findClass _ _]; exact g3'⟩, ?_, ?_⟩, locs ++ L, X9.ends _, hS2.2.2⟩
            · show am_Rel D cA B0 sb H00 ((T'.setVm vm9).setFrames _) M1 T'.heap
              exact am_Rel_moved (s := s) X9.warmed.alike hR2
            · exact ⟨hS2.1, hS2.2.1⟩
          | some h' =>
            rw [hh] at hk
            dsimp only
            intro real1 hl1
            have h4 := IH (h'.1, am_kl G.2.1 h'.2, [], M1) hk (by show (am_kl G.2.1 h'.2).length = _; unfold am_kl; rw [List.length_set, am_st1_len, h1l]; exact hlen) T'.heap (locs ++ L) (cells + (am_cn M1 - am_cn F.2.2.2)) (slots + (am_sn M1 - am_sn F.2.2.2)) real1 (by show am_Loc B0 sb real1 (am_kl G.2.1 h'.2); rw [h1l]; exact hl1) hR2 hS2 (by show _ + (am_cn M' - am_cn M1) ≤ _; have := hup.1; have := upk.1; omega) (by show _ + (am_sn M' - am_sn M1) ≤ _; have := hup.2; have := upk.2; omega)
            intro T9 hT9 X9
            obtain ⟨u, a1, b1⟩ := h4 T9 hT9 X9
            exact ⟨u, a1, am_MQ_eq (by show _ + (am_cn M' - am_cn M1) = _; have := hup.1; have := upk.1; omega) (by show _ + (am_sn M' - am_sn M1) = _; have := hup.2; have := upk.2; omega) b1⟩
    · next cd o1 M1 hG =>
      obtain ⟨h1, h2⟩ := hok _ _ ha _ _ _ _ hG
      obtain ⟨hcd, rfl, rfl⟩ := h
      exact h2 p l e R s m args below meth c C hlen H locs cells slots real hl hR hS hc0 hs0 hcd hcc hss
end WLK
