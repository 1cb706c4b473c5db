/-! contracts of the class: definitions made, steps, runs -/
section CI
variable {n d : Nat} {tr st : Int} {S : y_S} {T : Nat → z_D → Prop}
theorem c_keptAll {B : y_B} {D : z_D} {nm v : Int} {K : z_D → Prop} (hc : y_cls B tr S D) (ho : y_ok st S) (hn : z_r nm) (h : ∀ D', y_cls B tr (y_sl S 6 (List.zipWith (fun k x => if k = nm then v else x) (y_l S 5) (y_l S 6))) D' → K D') : z_c n (d + 2) 4 [.ref 8, .int (z_i nm), .int (z_i v)] D (z_qV K T) := by
  have o12 := ho.2.2.2.2.2.2.2.2.2.2.2.1
  have o13 := ho.2.2.2.2.2.2.2.2.2.2.2.2.1
  have hkr : y_rl (y_l S 5) := y_rl_of (fun x hx => by have := y_ky_r (y_keys_rl ho x hx) ho.2.2.2.2.2.2.2.2.2.2.2.2.2.2.2.2.2.2.2.1.2; omega)
  generalize hW : List.zipWith (fun k x => if k = nm then v else x) (y_l S 5) (y_l S 6) = W at *
  have hWl : W.length = (y_l S 5).length := by rw [← hW, List.length_zipWith]; omega
  refine r_gReplaceKept (fun m a b k D' => a = nm ∧ b = v ∧ 0 ≤ k ∧ k ≤ (y_l S 5).length ∧ m = ((y_l S 5).length - k).toNat ∧ y_cls B tr (y_sl S 6 (W.take k.toNat ++ (y_l S 6).drop k.toNat)) D') ⟨_, rfl, rfl, Int.le_refl _, by omega, rfl, ?_⟩ ?_
  · show y_cls B tr (y_sl S 6 (y_l S 6)) D
    exact ⟨hc.1, hc.2.1, hc.2.2.1, hc.2.2.2.1, hc.2.2.2.2.1, hc.2.2.2.2.2.1, hc.2.2.2.2.2.2.1, hc.2.2.2.2.2.2.2.1, hc.2.2.2.2.2.2.2.2.1, hc.2.2.2.2.2.2.2.2.2.1, hc.2.2.2.2.2.2.2.2.2.2.1, hc.2.2.2.2.2.2.2.2.2.2.2.1, hc.2.2.2.2.2.2.2.2.2.2.2.2.1, hc.2.2.2.2.2.2.2.2.2.2.2.2.2.1, hc.2.2.2.2.2.2.2.2.2.2.2.2.2.2.1, hc.2.2.2.2.2.2.2.2.2.2.2.2.2.2.2.1, hc.2.2.2.2.2.2.2.2.2.2.2.2.2.2.2.2.1, hc.2.2.2.2.2.2.2.2.2.2.2.2.2.2.2.2.2.1, hc.2.2.2.2.2.2.2.2.2.2.2.2.2.2.2.2.2.2.1, y_MA_f (Z := D.1) (L := D.2.1) (p := D.2.2) hc.2.2.2.2.2.2.2.2.2.2.2.2.2.2.2.2.2.2.2.1 (fun _ _ _ => rfl) rfl rfl rfl, hc.2.2.2.2.2.2.2.2.2.2.2.2.2.2.2.2.2.2.2.2⟩
  · rintro mm a b k D' ⟨rfl, rfl, k0, k1, rfl, hc1⟩
    refine c_rSize zr11 hc1.2.2.2.2.2.1 ⟨y_rs (by omega) (by omega), y_rs (by show (-1000000 : Int) ≤ ((y_l S 5).length : Int); omega) (by show ((y_l S 5).length : Int) ≤ 1000000; omega), fun c => ?_, fun c => ?_⟩
    · have c : ((y_l S 5).length : Int) ≤ k := c
      refine h D' ?_
      rw [show k.toNat = (y_l S 5).length by omega, List.take_of_length_le (by omega), List.drop_eq_nil_of_le (by omega), List.append_nil] at hc1
      exact hc1
    · have c : k < ((y_l S 5).length : Int) := c
      have hk5 : k.toNat < (y_l S 5).length := by omega
      have hk6 : k.toNat < (y_l S 6).length := by omega
      have hkW : k.toNat < W.length := by omega
      have ea : y_at (y_l S 5) k = (y_l S 5)[k.toNat] := by
        unfold y_at
        rw [if_pos k0, List.getElem?_eq_getElem hk5]
        rfl
      have eW : W[k.toNat] = if (y_l S 5)[k.toNat] = a then b else (y_l S 6)[k.toNat] := by
        have : (List.zipWith (fun k x => if k = a then b else x) (y_l S 5) (y_l S 6))[k.toNat]'(by rw [hW]; exact hkW) = if (y_l S 5)[k.toNat] = a then b else (y_l S 6)[k.toNat] := List.getElem_zipWith
        rw [← this]
        congr 1
        exact hW.symm
      have hL : W.take (k.toNat + 1) ++ (y_l S 6).drop (k.toNat + 1) = (W.take k.toNat ++ (y_l S 6).drop k.toNat).set k.toNat W[k.toNat] := by
        rw [List.take_succ_eq_append_getElem hkW, List.set_append_right _ _ (by rw [List.length_take]; omega), List.length_take, show k.toNat - min k.toNat W.length = 0 by omega, List.drop_eq_getElem_cons hk6, List.set_cons_zero, List.append_assoc]
        rfl
      have step : ∀ D2, y_cls B tr (y_sl S 6 (W.take (k.toNat + 1) ++ (y_l S 6).drop (k.toNat + 1))) D2 → ∃ m, m < ((y_l S 5).length - k).toNat ∧ a = a ∧ b = b ∧ 0 ≤ k + 1 ∧ k + 1 ≤ (y_l S 5).length ∧ m = ((y_l S 5).length - (k + 1)).toNat ∧ y_cls B tr (y_sl S 6 (W.take (k + 1).toNat ++ (y_l S 6).drop (k + 1).toNat)) D2 := by
        intro D2 hc2
        refine ⟨_, ?_, rfl, rfl, by omega, by omega, rfl, ?_⟩
        · omega
        · rw [show (k + 1).toNat = k.toNat + 1 by omega]; exact hc2
      refine c_rAt zr11 hc1.2.2.2.2.2.1 o12 (y_rs (by omega) (by omega)) ?_
      show z_r (y_at (y_l S 5) k) ∧ z_r a ∧ (¬ y_at (y_l S 5) k = a → _) ∧ (y_at (y_l S 5) k = a → _)
      refine ⟨y_at_r hkr k, hn, fun c1 => step D' ?_, fun c1 => ?_⟩
      · rw [hL, eW, if_neg (by rw [← ea]; exact c1)]
        have : (W.take k.toNat ++ (y_l S 6).drop k.toNat).set k.toNat (y_l S 6)[k.toNat] = W.take k.toNat ++ (y_l S 6).drop k.toNat := by
          rw [List.set_append_right _ _ (by rw [List.length_take]; omega), List.length_take, show k.toNat - min k.toNat W.length = 0 by omega, List.drop_eq_getElem_cons hk6]
          rfl
        rw [this]
        exact hc1
      · have hlen : (W.take k.toNat ++ (y_l S 6).drop k.toNat).length = (y_l S 5).length := by rw [List.length_append, List.length_take, List.length_drop]; omega
        have e6 : (y_l (y_sl S 6 (W.take k.toNat ++ (y_l S 6).drop k.toNat)) 6).length = (y_l S 5).length := hlen
        refine c_rReplace zr13 hc1.2.2.2.2.2.2.1 (by omega) (y_rs (by omega) (by omega)) (fun w => by omega) (fun w0 w1 => step _ ?_)
        rw [hL, eW, if_pos (by rw [← ea]; exact c1)]
        have := cl_set6 hc1 (k := k.toNat) (by omega) b
        exact this
theorem c_defn {B D : z_D} {nm : Int} {all : Bool} {tx bd : List Int} {p : Int} {K : z_D → Prop} (hc : y_cls (B, y_A0) 0 S D) (ho : y_ok st S) (hd : y_dr S tx bd p) (hn : y_nt (y_nn S) nm) (h : y_fin (y_defn nm all S) (fun _ S' => ∀ q D', y_cls (y_bq B q, y_A0) 0 S' D' → K D') (y_cT B T)) : z_c n (d + 5) 78 [.ref 0, .int (z_i nm), .int (z_i (z_b all))] D (z_qV K T) := by
  have e9 : D.1 0 9 = ((y_mac S).length : Int) := hc.2.2.2.2.2.2.2.2.2.2.2.1
  have o22 : (y_mac S).length ≤ 60 := ho.2.2.2.2.2.2.2.2.2.2.2.2.2.2.2.2.2.2.2.2.2.1
  have hnr : 4096 ≤ nm ∧ nm < 4214 := by have := ho.2.2.2.2.2.2.2.2.2.2.2.2.2.2.2.2.2.2.2.1.2; unfold y_nt at hn; omega
  have e1 : y_dtx S = tx := by unfold y_dtx; rw [hd.1]; rfl
  have e2 : y_dbd S = bd := by unfold y_dbd; rw [hd.2.1]; rfl
  have e3 : y_dpr S = p := by unfold y_dpr; rw [hd.2.2.1]; rfl
  unfold y_defn at h
  rw [e1, e2, e3] at h
  refine r_tDefine ?_
  unfold w_tDefine_0
  rw [e9]
  refine ⟨y_rs (by omega) (by omega), fun c => by omega, fun c => ⟨fun c1 => ⟨by omega, (cl_drAt hc).1, by omega, fun D5 e5 D6 e6 D7 e7 => ?_⟩, fun c1 => ?_⟩⟩
  · rw [if_neg (by omega)] at h
    dsimp only at h
    rw [show ((y_mac S).length : Int).toNat = (y_mac S).length by omega] at e5 e6
    have e69 : D6.1 0 9 = ((y_mac S).length : Int) := by rw [e6, e5]; exact e9
    rw [e69] at e7 ⊢
    have hc7 := cl_def hc (by omega) hd
    rw [← e5, ← e6, ← e7] at hc7
    have h1 : y_ok st (y_sdp (y_sa (y_sa (y_smac S (y_mac S ++ [(tx, bd, p)])) 4 none) 5 none) none) := y_ok_dp (y_ok_ad (y_ok_ad (y_ok_mac ho (by show (y_mac S).length < 60; omega) hd.2.2.2) (i := 4) (by decide) none) (i := 5) (by decide) none) none
    have hky : y_ky (y_nn (y_sdp (y_sa (y_sa (y_smac S (y_mac S ++ [(tx, bd, p)])) 4 none) 5 none) none)) nm := y_nt_ky hn
    generalize y_sdp (y_sa (y_sa (y_smac S (y_mac S ++ [(tx, bd, p)])) 4 none) 5 none) none = S1 at *
    refine ⟨fun c2 => ?_, fun c2 => ?_⟩
    · subst c2
      rw [if_neg Bool.false_ne_true] at h
      exact c_change hc7 h1 hky (y_om h (fun _ S' q D' hc' => q _ D' hc'))
    · subst c2
      rw [if_pos rfl] at h
      have ho2 : y_nm (y_sl S1 6 (List.zipWith (fun k x => if k = nm then 4096 + ((y_mac S).length : Int) else x) (y_l S1 5) (y_l S1 6))) = y_nm S1 := rfl
      refine c_keptAll hc7 h1 (y_rs (by omega) (by omega)) (fun D9 hc9 => ?_)
      -- set asks only for the names of a valid state
      have e : D9.1 4 3 = (y_nn S1 : Int) := hc9.2.2.2.2.2.2.2.2.2.1.1
      have on := h1.2.2.2.2.2.2.2.2.2.2.2.2.2.2.2.2.2.2.2.1
      refine r_tSet ⟨y_rs (by omega) (by omega), fun z => by omega, fun _ => r_nSetMeaning ?_⟩
      have hk' : nm < 4096 + y_nn S1 := by rcases hky with w | w <;> omega
      unfold w_nSetMeaning_0
      rw [e]
      refine ⟨y_rs (by omega) (by omega), fun c1 => by omega, fun _ => ⟨y_rs (by omega) (by omega), fun c1 => by omega, fun c1 => ⟨fun c2 => by omega, fun c2 => ⟨by omega, fun D4 e4 => h (am_u1 (am_u1 D.2.2 (y_mac S).length (D.2.2 60)) 60 (D.2.2 (y_mac S).length)) D4 ?_⟩⟩⟩⟩
      unfold y_set
      rw [if_pos hnr.1, e4]
      exact cl_mean hc9 _ _
  · rw [if_pos (by omega)] at h
    exact c_fault hc h
theorem c_exc {B D : z_D} {m : Int} {K : z_D → Prop} (hc : y_cls (B, y_A0) 0 S D) (ho : y_ok st S) (hm : y_mn (y_mm S) m) (h : y_fin (y_exc m S) (fun _ S' => ∀ q D', y_cls (y_bq B q, y_A0) 0 S' D' → K D') (y_cT B T)) : z_c n (d + 122) 64 [.ref 0, .int (z_i m)] D (z_qV K T) := by
  have hr := y_mn_r hm ho.2.2.2.2.2.2.2.2.2.2.2.2.2.2.2.2.2.2.2.2.2.1
  have o5 := ho.2.2.2.2.2.2.2.2.2.2.2.2.2.2.2.2.2.2.2.2.2.2.2.2.1
  have one : ∀ {α : Type} {x : y_Re α}, y_fin x (fun _ S' => ∀ q D', y_cls (y_bq B q, y_A0) 0 S' D' → K D') (y_cT B T) → y_fin x (fun _ S' => ∀ D', y_cls (B, y_A0) 0 S' D' → K D') (y_cT B T) := fun z => y_om z (fun _ S' q D' hc' => q B.2.2 D' hc')
  unfold y_exc at h
  refine r_tExecute (c_tIsExpandable (y_rs (by omega) (by omega)) ⟨fun c => c_tIsCharacter (y_rs (by omega) (by omega)) ⟨fun c1 => ?_, fun c1 => ?_⟩, fun c => ?_⟩)
  · rw [if_neg (by rw [c]; exact Bool.false_ne_true), if_neg (by rw [c1]; exact Bool.false_ne_true)] at h
    have hex := of_decide_eq_false c
    have hch := of_decide_eq_false c1
    have hm18 : 0 ≤ m ∧ m ≤ 18 := by
      rcases hm with z | z | z
      · exact z
      · have := y_ch_r z; omega
      · omega
    have defs : (3 ≤ m ∧ m ≤ 5) → z_c n (d + 121) 70 [.ref 0] D (z_qI (fun v D9 => z_c n (d + 121) 74 [.ref 0] D9 (z_qV (fun D11 => ((¬ m = 5) → w_tExecute_117 n (d + 121) m v false D11 K T) ∧ ((m = 5) → w_tExecute_117 n (d + 121) m v true D11 K T)) T)) T) := by
      intro hm3
      rw [if_neg (by omega), if_neg (by omega), if_pos hm3] at h
      unfold y_def at h
      refine c_name hc ho (y_gk (yo_name ho) h (fun nm S1 ⟨k1, k2, k3⟩ h D1 hc1 => ?_))
      obtain ⟨d1, d2⟩ := y_dr0 k1
      refine c_rtx hc1 k1 (y_gk (yo_rtx 13 _ [] 0 d1 d2) h (fun _ S2 ⟨a1, a2, tx, p, a3⟩ h D2 hc2 => ?_))
      have l1 : y_nn S1 ≤ y_nn S2 := a2.1
      have go : ∀ bb : Bool, (bb = true ↔ m = 5) → w_tExecute_117 n (d + 121) m nm bb D2 K T := by
        intro bb hbb
        have eg : (if m = 5 then y_getx (y_ex 31) 201 else y_get true) = y_g bb := by
          unfold y_g
          by_cases z : m = 5
          · rw [if_pos z, if_pos (hbb.mpr z)]
          · rw [if_neg z, if_neg (fun w => z (hbb.mp w))]
        rw [eg] at h
        refine c_rbd hc2 a1 a3 (y_gk (yo_rbd yo_g 41 0 S2 [] a1 a3) h (fun _ S3 ⟨b1, b2, bd, b3⟩ h D3 hc3 => ?_))
        have hnt := y_nt_le k3 (Nat.le_trans l1 b2.1)
        refine ⟨y_rs (by omega) (by omega), fun z => ?_, fun z => ?_⟩
        · rw [decide_eq_false z] at h
          exact c_defn hc3 b1 b3 hnt h
        · rw [decide_eq_true z] at h
          exact c_defn hc3 b1 b3 hnt h
      exact ⟨fun z => go false ⟨fun w => (by cases w), fun w => absurd w z⟩, fun z => go true ⟨fun _ => z, fun _ => rfl⟩⟩
    refine ⟨y_rs (by omega) (by omega), fun z => ?_, fun z => ?_, fun z => defs (by omega), fun z => defs (by omega), fun z => defs (by omega), fun z => ?_, fun z => ?_, fun z => by omega, fun z => by omega, fun z => by omega, fun z => ?_, fun z1 z2 z3 z4 z5 z6 z7 z8 z9 z10 z11 => ?_⟩
    · rw [if_pos z] at h
      exact c_send hc ho (one h)
    · rw [if_neg (by omega), if_pos z] at h
      exact h B.2.2 D hc
    · rw [if_neg (by omega), if_neg (by omega), if_neg (by omega), if_pos z] at h
      exact c_let hc ho (one h)
    · rw [if_neg (by omega), if_neg (by omega), if_neg (by omega), if_neg (by omega), if_pos z] at h
      exact c_catc hc ho (one h)
    · rw [if_neg (by omega), if_neg (by omega), if_neg (by omega), if_neg (by omega), if_neg (by omega), if_pos z] at h
      exact c_fault hc h
    · rw [if_neg (by omega), if_neg (by omega), if_neg (by omega), if_neg (by omega), if_neg (by omega), if_neg (by omega)] at h
      exact c_fault hc h
  · rw [if_neg (by rw [c]; exact Bool.false_ne_true), if_pos c1] at h
    exact c_execChar hc ho (of_decide_eq_true c1) (one h)
  · rw [if_pos c] at h
    exact c_ex 31 (y_s S 5) (by omega) _ (by omega) B st S D m _ T hc ho hm rfl (one h)
/-- a run of k steps: what it answers -/
theorem c_run {B D : z_D} {k : Int} {K : Int → z_D → Prop} (hc : y_cls (B, y_A0) 0 S D) (ho : y_ok st S) (hf : y_s S 3 = 0) (hst : st ≤ 1000000000) (hk : 1 ≤ k ∧ k ≤ 500) (h : y_fin (y_run k.toNat S) (fun b S' => ∀ q D', y_cls (y_bq B q, y_A0) 0 S' D' → K (if b then 1 else 0) D') (y_cT B T)) : z_c n (d + 123) 40 [.ref 0, .int (z_i k)] D (z_qI K T) := by
  have e11 : D.1 0 11 = y_s S 3 := hc.2.2.2.2.2.2.2.2.2.2.2.2.2.2.2.1
  refine r_tRun (fun m a1 a2 D' => a1 = k ∧ 0 ≤ a2 ∧ a2 ≤ k ∧ m = (k - a2).toNat ∧ ∃ S1 s q, y_cls (y_bq B q, y_A0) 0 S1 D' ∧ y_ok s S1 ∧ s ≤ st + a2 ∧ y_fin (y_run (k - a2).toNat S1) (fun b S' => ∀ q D', y_cls (y_bq B q, y_A0) 0 S' D' → K (if b then 1 else 0) D') (y_cT B T)) ?_ ?_
  · unfold w_tRun_0
    rw [e11, hf]
    exact ⟨y_rs (by omega) (by omega), fun c => by omega, fun _ => ⟨fun _ => ⟨z_rk rfl, fun _ => ⟨_, rfl, by omega, by omega, rfl, S, st, B.2.2, hc, ho, by omega, by rw [show (k - 0).toNat = k.toNat by omega]; exact h⟩, fun z => absurd rfl z⟩, fun c => by omega⟩⟩
  · rintro mm a1 a2 D' ⟨rfl, z0, z1, rfl, S1, s, q, hc1, ho1, hs, h⟩
    have o27 := ho1.2.2.2.2.2.2.2.2.2.2.2.2.2.2.2.2.2.2.2.2.2.2.2.2.2.2.1
    refine ⟨y_rs (by omega) (by omega), y_rs (by omega) (by omega), fun c => ?_, fun c D3 e3 D4 e4 D5 e5 => ?_⟩
    · rw [show (a1 - a2).toNat = 0 by omega] at h
      exact h q D' hc1
    · have e10 : D'.1 0 10 = y_s S1 2 := hc1.2.2.2.2.2.2.2.2.2.2.2.2.2.2.1
      rw [show (a1 - a2).toNat = (a1 - (a2 + 1)).toNat + 1 by omega] at h
      unfold y_run at h
      have ho5 : y_ok (s + 1) (y_ss (y_ss (y_ss S1 2 (y_s S1 2 + 1)) 4 0) 5 0) := by
        rw [o27.1]
        exact y_ok_s5 (y_ok_s4 (y_ok_s2 ho1 (by omega)) (by decide) (by decide)) (by decide) (by decide)
      have hc5 : y_cls (y_bq B q, y_A0) 0 (y_ss (y_ss (y_ss S1 2 (y_s S1 2 + 1)) 4 0) 5 0) D5 := by
        rw [e5, e4, e3, e10]
        exact cl_s5 (cl_s4 (cl_s2 hc1 _) 0) 0
      refine c_get hc5 ho5 (y_gk (yo_get ho5) h (fun t S2 ⟨k1, k2, k3⟩ h D6 hc6 => ?_))
      have hr : -1 ≤ t ∧ t < 32768 := by
        rcases k3 with w | w
        · omega
        · have := y_tk_r w.1 k1.2.2.2.2.2.2.2.2.2.2.2.2.2.2.2.2.2.2.2.1.2; omega
      refine ⟨y_rs (by omega) (by omega), fun c1 => ?_, fun c1 D12 e12 => ?_⟩
      · rw [if_neg c1] at h
        have ht := (k3.resolve_left (fun w => c1 w.1)).1
        have hm := y_mo_ok k1 ht
        refine c_mo hc6 k1 ht (c_exc hc6 k1 hm (y_gk (yo_exc k1 hm) h (fun _ S3 ⟨b1, b2, b3⟩ h q3 D11 hc11 => ⟨_, ?_, rfl, by omega, by omega, rfl, S3, s + 1, q3, hc11, b1, by omega, h⟩)))
        omega
      · rw [if_pos c1] at h
        have e102 : D6.1 0 10 = y_s S2 2 := hc6.2.2.2.2.2.2.2.2.2.2.2.2.2.2.1
        refine h q D12 ?_
        rw [e12, e102]
        exact cl_s2 hc6 _
end CI
