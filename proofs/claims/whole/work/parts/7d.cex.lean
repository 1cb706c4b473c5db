/-! contracts of the class: expansions, by the depth of their nesting -/
theorem y_fbi {α β : Type} {x : y_Re α} {f : α → y_S → y_Re β} {K : β → y_S → Prop} {T : y_S → Prop} (h : y_fin (y_bd x f) K T) : y_fin x (fun v S => y_fin (f v S) K T) T := by
  cases x <;> exact h
theorem y_bd_inl {α β : Type} (v : α) (S : y_S) (f : α → y_S → y_Re β) : y_bd (.inl (v, S)) f = f v S := rfl
/-- no argument is known -/
def y_A0 : Nat → Option (List Int) := fun _ => none
/-- an expansion's contract: e deep, j expansions open -/
def y_hc (n e : Nat) (j : Int) (ex : Int → y_S → y_Re Unit) : Prop := ∀ (B : z_D) (st : Int) (S : y_S) (D : z_D) (m : Int) (K : z_D → Prop) (T : Nat → z_D → Prop), y_cls (B, y_A0) 0 S D → y_ok st S → y_mn (y_mm S) m → y_s S 5 = j → y_fin (ex m S) (fun _ S' => ∀ D', y_cls (B, y_A0) 0 S' D' → K D') (y_cT B T) → z_c n e 79 [.ref 0, .int (z_i m)] D (z_qV K T)
section CX
variable {n d x : Nat} {B D : z_D} {j st : Int} {S : y_S} {T : Nat → z_D → Prop} {ex : Int → y_S → y_Re Unit}
theorem c_getx {K : Int → z_D → Prop} (Hx : ∀ e, x ≤ e → y_hc n e j ex) (Ho : ∀ st, y_hx st ex) (hd : x ≤ d + 10) (hc : y_cls (B, y_A0) 0 S D) (ho : y_ok st S) (hj : y_s S 5 = j) (h : y_fin (y_getx ex 201 S) (fun t S' => ∀ D', y_cls (B, y_A0) 0 S' D' → K t D') (y_cT B T)) : z_c n (d + 11) 62 [.ref 0] D (z_qI K T) := by
  refine r_tGetExpanded (fun m a D' => 0 ≤ a ∧ a ≤ 201 ∧ m = (201 - a).toNat ∧ ∃ S1, y_cls (B, y_A0) 0 S1 D' ∧ y_ok st S1 ∧ y_s S1 5 = j ∧ y_fin (y_getx ex (201 - a).toNat S1) (fun t S' => ∀ D', y_cls (B, y_A0) 0 S' D' → K t D') (y_cT B T)) ⟨_, by decide, by decide, rfl, S, hc, ho, hj, by rw [show ((201 : Int) - 0).toNat = 201 by decide]; exact h⟩ ?_
  rintro mm a D' ⟨a0, a1, rfl, S1, hc1, ho1, hj1, h⟩
  refine ⟨y_rs (by omega) (by omega), fun c => ?_, fun c => ?_⟩
  · rw [show (201 - a).toNat = 0 by omega] at h
    exact c_fault hc1 h
  · rw [show (201 - a).toNat = (201 - (a + 1)).toNat + 1 by omega] at h
    unfold y_getx at h
    refine c_get hc1 ho1 (y_gk (yo_getT ho1) h (fun t S2 ⟨b1, b2, b3, _⟩ h D2 hc2 => c_mo hc2 b1 b3 ?_))
    have hm := y_mo_ok b1 b3
    have hr := y_mn_r hm b1.2.2.2.2.2.2.2.2.2.2.2.2.2.2.2.2.2.2.2.2.2.1
    have hj2 : y_s S2 5 = j := b2.2.2.2.2.2.2.2.1.trans hj1
    refine c_tIsExpandable (y_rs (by omega) (by omega)) ⟨fun z => ?_, fun z => ?_⟩
    · rw [if_pos z] at h
      refine Hx _ hd B st S2 D2 _ _ T hc2 b1 hm hj2 (y_gk (Ho st _ S2 b1 hm) h (fun _ S3 ⟨c1, c2, _⟩ h D3 hc3 => ⟨_, ?_, by omega, by omega, rfl, S3, hc3, c1, c2.2.2.2.2.2.2.2.2.1.trans hj2, h⟩))
      omega
    · rw [if_neg (by rw [z]; exact Bool.false_ne_true)] at h
      exact h D2 hc2
theorem c_after {K : z_D → Prop} (Hx : ∀ e, x ≤ e → y_hc n e j ex) (Ho : ∀ st, y_hx st ex) (hd : x ≤ d + 10) (hc : y_cls (B, y_A0) 0 S D) (ho : y_ok st S) (hj : y_s S 5 = j) (h : y_fin (y_after ex S) (fun _ S' => ∀ D', y_cls (B, y_A0) 0 S' D' → K D') (y_cT B T)) : z_c n (d + 11) 83 [.ref 0] D (z_qV K T) := by
  refine r_tExpandAfter (c_get hc ho (y_gk (yo_getT ho) h (fun a S1 ⟨k1, k2, k3, _⟩ h D1 hc1 => c_get hc1 k1 (y_gk (yo_getT k1) h (fun b S2 ⟨b1, b2, b3, _⟩ h D2 hc2 => c_mo hc2 b1 b3 ?_)))))
  have hm := y_mo_ok b1 b3
  have hr := y_mn_r hm b1.2.2.2.2.2.2.2.2.2.2.2.2.2.2.2.2.2.2.2.2.2.1
  have hj2 : y_s S2 5 = j := b2.2.2.2.2.2.2.2.1.trans (k2.2.2.2.2.2.2.2.1.trans hj)
  refine c_tIsExpandable (y_rs (by omega) (by omega)) ⟨fun z => ?_, fun z => ?_⟩
  · rw [if_neg (by rw [z]; exact Bool.false_ne_true)] at h
    exact c_put hc2 b1 (y_gk (yo_put b1 b3) h (fun _ S3 ⟨c1, c2⟩ h D3 hc3 => c_put hc3 c1 h))
  · rw [if_pos z] at h
    exact Hx _ hd B st S2 D2 _ _ T hc2 b1 hm hj2 (y_gk (Ho st _ S2 b1 hm) h (fun _ S3 ⟨c1, c2, _⟩ h D3 hc3 => c_put hc3 c1 h))
/-- what is left of the making of a name -/
def y_csr (S1 : y_S) (ls : List Int) : y_Re Unit := if ls = [] then y_ft S1 4 else
  y_bd (y_find ls false S1) (fun t S2 => y_bd (if y_mo S2 t = 0 then y_chg t 2 S2 else .inl ((), S2)) (fun _ S3 => y_put t S3))
/-- a name in the making, its next token got -/
def y_cst (ex : Int → y_S → y_Re Unit) (f : Nat) (ls : List Int) (t : Int) (S1 : y_S) : y_Re (List Int) := if y_mo S1 t = 11 then .inl (ls, S1)
      else if 4096 ≤ t then y_ft S1 4 else if ls.length = 11 then y_ft S1 5 else y_csn ex f (ls ++ [t % 256]) S1
set_option maxRecDepth 20000 in
theorem c_csEnd {ls : List Int} {KK : Unit → y_S → Prop} {K : Int → z_D → Prop} (hc : y_cls (B, y_A0) 0 S D) (ho : y_ok st S) (hl : ls.length ≤ 11) (hcode : ∀ c ∈ ls, y_code c = true) (h : y_fin (y_csr S ls) KK (y_cT B T)) (go : ∀ (k : Nat) (S2 : y_S) (D2 : z_D), y_cls (B, y_A0) 0 S2 D2 → y_ok st S2 → k < (y_nm S2).length → y_fin (y_bd (if y_mo S2 (4096 + (k : Int)) = 0 then y_chg (4096 + (k : Int)) 2 S2 else .inl ((), S2)) (fun _ S3 => y_put (4096 + (k : Int)) S3)) KK (y_cT B T) → K (4096 + (k : Int)) D2) : w_tMakeName_93 n (d + 10) (y_hd ls) (y_tl (ls, false)) D K T := by
  have hdg := y_dig_code hcode
  unfold y_csr at h
  refine ⟨fun c => ?_, fun c => ?_⟩
  · have hne : ls ≠ [] := fun z => c (by rw [z]; exact (y_cmp0 _ _).mpr rfl)
    rw [if_neg hne] at h
    have hno : y_no (ls, false) := ⟨by
      cases ls with
      | nil => exact absurd rfl hne
      | cons a b => simp, hl, hcode, fun z => (by cases z)⟩
    have on : (y_nm S).length ≤ 118 := ho.2.2.2.2.2.2.2.2.2.2.2.2.2.2.2.2.2.2.2.1.2
    unfold y_find at h
    refine c_nFind hc ho hno rfl rfl (fun k e => ?_) (fun e z => by cases z) (fun e _ c1 D2 hc2 => ?_) (fun e _ c1 => ?_)
    · rw [e] at h
      simp only [y_bd_inl] at h
      have := y_idx_some e
      exact ⟨y_rs (by omega) (by omega), fun _ => go k S D hc ho (by omega) h, fun z => by omega⟩
    · rw [e] at h
      dsimp only at h
      rw [if_neg c1, y_bd_inl] at h
      exact ⟨y_rs (by omega) (by omega), fun _ => go _ _ D2 hc2 (y_ok_nm ho (Nat.lt_of_not_le c1) hno) (by show (y_nm S).length < (y_nm S ++ [(ls, false)]).length; simp) h, fun z => by omega⟩
    · rw [e] at h
      dsimp only at h
      rw [if_pos c1] at h
      exact ⟨z_rk rfl, fun z => absurd rfl z, fun _ => c_fault hc h⟩
  · have he := y_hd_eq0 hl hdg ((y_cmp0 _ _).mp c)
    rw [if_pos he] at h
    exact c_fault hc h
theorem c_cs {KK : Unit → y_S → Prop} {K : Int → z_D → Prop} (Hx : ∀ e, x ≤ e → y_hc n e j ex) (Ho : ∀ st, y_hx st ex) (hd : x ≤ d + 10) (hc : y_cls (B, y_A0) 0 S D) (ho : y_ok st S) (hj : y_s S 5 = j) (h : y_fin (y_cs ex S) KK (y_cT B T)) (go : ∀ (k : Nat) (S2 : y_S) (D2 : z_D), y_cls (B, y_A0) 0 S2 D2 → y_ok st S2 → k < (y_nm S2).length → y_fin (y_bd (if y_mo S2 (4096 + (k : Int)) = 0 then y_chg (4096 + (k : Int)) 2 S2 else .inl ((), S2)) (fun _ S3 => y_put (4096 + (k : Int)) S3)) KK (y_cT B T) → K (4096 + (k : Int)) D2) : z_c n (d + 12) 85 [.ref 0] D (z_qI K T) := by
  have h0 : y_fin (y_bd (y_getx ex 201 S) (fun t S1 => y_bd (y_cst ex 11 [] t S1) (fun ls S2 => y_csr S2 ls))) KK (y_cT B T) := by
    unfold y_cs y_csn at h
    cases hg : y_getx ex 201 S with
    | inl q => rw [hg] at h; exact h
    | inr q => rw [hg] at h; exact h
  refine r_tMakeName (fun m hh tt tok len D' => ∃ S1 ls, y_cls (B, y_A0) 0 S1 D' ∧ y_ok st S1 ∧ y_s S1 5 = j ∧ hh = y_hd ls ∧ tt = y_tl (ls, false) ∧ len = (ls.length : Int) ∧ ls.length ≤ 11 ∧ (∀ c ∈ ls, y_code c = true) ∧ y_tk (y_nn S1) tok ∧ m = 11 - ls.length ∧ y_fin (y_bd (y_cst ex (11 - ls.length) ls tok S1) (fun ls S2 => y_csr S2 ls)) KK (y_cT B T)) (c_getx Hx Ho hd hc ho hj (y_gk (yo_getx (Ho st) 201 S ho) h0 (fun t S1 ⟨k1, k2, k3⟩ h D1 hc1 => ⟨_, S1, [], hc1, k1, k2.2.2.2.2.2.2.2.2.1.trans hj, y_hd0, y_tl0, rfl, by simp, fun c hc => (by cases hc), k3, rfl, h⟩))) ?_
  rintro mm hh tt tok len D' ⟨S1, ls, hc1, ho1, hj1, rfl, rfl, rfl, hl, hcode, htk, rfl, h⟩
  have hr := y_tk_r htk ho1.2.2.2.2.2.2.2.2.2.2.2.2.2.2.2.2.2.2.2.1.2
  have hm := y_mn_r (y_mo_ok ho1 htk) ho1.2.2.2.2.2.2.2.2.2.2.2.2.2.2.2.2.2.2.2.2.2.1
  unfold y_cst at h
  refine ⟨y_rs (by omega) (by omega), fun c => by omega, fun c => c_mo hc1 ho1 htk ⟨y_rs (by omega) (by omega), fun z => ?_, fun z => ⟨y_rs (by omega) (by omega), fun z1 => ⟨y_rs (by omega) (by omega), fun z2 => ?_, fun z2 => ?_⟩, fun z1 => ?_⟩⟩⟩
  · rw [if_pos z] at h
    exact c_csEnd hc1 ho1 hl hcode h go
  · rw [if_neg z, if_neg (by omega), if_neg (by omega), show 11 - ls.length = (11 - (ls.length + 1)) + 1 by omega] at h
    have hch : y_code (tok % 256) = true := by
      rcases htk with w | w | w
      · exact w.2.2
      · omega
      · omega
    have hcr := y_code_r hch
    have hlen : (ls ++ [tok % 256]).length = ls.length + 1 := by simp
    have h0 : y_fin (y_bd (y_getx ex 201 S1) (fun t S1 => y_bd (y_cst ex (11 - (ls.length + 1)) (ls ++ [tok % 256]) t S1) (fun ls S2 => y_csr S2 ls))) KK (y_cT B T) := by
      unfold y_csn at h
      cases hg : y_getx ex 201 S1 with
      | inl q => rw [hg] at h; exact h
      | inr q => rw [hg] at h; exact h
    refine c_getx Hx Ho hd hc1 ho1 hj1 (y_gk (yo_getx (Ho st) 201 S1 ho1) h0 (fun t S2 ⟨k1, k2, k3⟩ h D2 hc2 => ?_))
    rw [z_and255 (by omega) (by omega), y_tl_snoc ls (c := tok % 256) (by omega) (by omega), y_hd_snoc ls (by omega) (by omega)]
    refine ⟨_, ?_, S2, ls ++ [tok % 256], hc2, k1, k2.2.2.2.2.2.2.2.2.1.trans hj1, rfl, rfl, by rw [hlen]; omega, by omega, y_all_code hcode hch, k3, rfl, ?_⟩
    · omega
    · rw [hlen]; exact h
  · rw [if_neg z, if_neg (by omega), if_pos (by omega)] at h
    exact c_fault hc1 h
  · rw [if_neg z, if_pos z1] at h
    exact c_fault hc1 h
theorem c_cond {m : Int} {KK : Unit → y_S → Prop} {Kz : Bool → z_D → Prop} (Hx : ∀ e, x ≤ e → y_hc n e j ex) (Ho : ∀ st, y_hx st ex) (hd : x ≤ d + 10) (hc : y_cls (B, y_A0) 0 S D) (ho : y_ok st S) (hj : y_s S 5 = j) (hm : 13 ≤ m ∧ m ≤ 16) (h : y_fin (y_cond ex m S) KK (y_cT B T)) (h1 : ∀ S' D', y_cls (B, y_A0) 0 S' D' → KK () S' → Kz true D') (h2 : ∀ S' D', y_cls (B, y_A0) 0 S' D' → y_ok st S' → y_fin (y_pass true 1000 0 S') KK (y_cT B T) → Kz false D') : z_c n (d + 12) 88 [.ref 0, .int (z_i m)] D (z_qZ Kz T) := by
  have o9 := ho.2.2.2.2.2.2.2.2.1
  unfold y_cond at h
  refine r_tOpenConditional (c_rAdd zr19 hc.2.2.2.1 o9 (fun q => ⟨fun _ => ?_, fun z => (by cases z)⟩) (fun q => ⟨fun z => (by cases z), fun _ => ?_⟩))
  · rw [if_neg (by omega)] at h
    dsimp only at h
    have hc0 := cl_add3 hc 0
    generalize (z_uz (z_uz D (19 + 1) (y_l S 3).length 0) 19 1 (((y_l S 3).length : Int) + 1)) = D0 at *
    have ho0 : y_ok st (y_sl S 3 (y_l S 3 ++ [0])) := y_ok_l3 ho (by simp; omega) (y_all_snoc ho.2.2.2.2.2.2.2.2.2.1 (by decide))
    have hj0 : y_s (y_sl S 3 (y_l S 3 ++ [0])) 5 = j := hj
    have elen : (((y_l (y_sl S 3 (y_l S 3 ++ [0])) 3).length : Nat) : Int) = (y_l S 3).length + 1 := by
      show (((y_l S 3 ++ [0]).length : Nat) : Int) = _
      simp
    generalize y_sl S 3 (y_l S 3 ++ [0]) = S0 at *
    -- the end
    have fin : ∀ (b : Bool) (S3 : y_S) (D3 : z_D), y_cls (B, y_A0) 0 S3 D3 → y_ok st S3 → y_fin (if b then .inl ((), y_sl (y_sl S3 3 ((y_l S3 3).take ((y_l S 3).length + 1))) 3 ((y_l (y_sl S3 3 ((y_l S3 3).take ((y_l S 3).length + 1))) 3).set (y_l S 3).length 1)) else y_pass true 1000 0 (y_sl S3 3 ((y_l S3 3).take ((y_l S 3).length + 1)))) KK (y_cT B T) → w_tOpenConditional_114 n (d + 11) ((y_l S 3).length + 1) b D3 Kz T := by
      intro b S3 D3 hc3 ho3 h3
      have o93 := ho3.2.2.2.2.2.2.2.2.1
      have ho4 : y_ok st (y_sl S3 3 ((y_l S3 3).take ((y_l S 3).length + 1))) := y_ok_l3 ho3 (by rw [List.length_take]; omega) (fun x hx => ho3.2.2.2.2.2.2.2.2.2.1 x (List.mem_of_mem_take hx))
      have go : ∀ D4, y_cls (B, y_A0) 0 (y_sl S3 3 ((y_l S3 3).take ((y_l S 3).length + 1))) D4 → ((b = false) → Kz b D4) ∧ ((b = true) → z_c n (d + 11) 29 [.ref 19, .int (z_i (((y_l S 3).length : Int) + 1 - 1)), .int (z_i 1)] D4 (z_qV (fun D2 => Kz b D2) T)) := by
        intro D4 hc4
        refine ⟨fun z => ?_, fun z => ?_⟩
        · subst z
          exact h2 _ D4 hc4 ho4 h3
        · subst z
          have h3 : KK () (y_sl (y_sl S3 3 ((y_l S3 3).take ((y_l S 3).length + 1))) 3 ((y_l (y_sl S3 3 ((y_l S3 3).take ((y_l S 3).length + 1))) 3).set (y_l S 3).length 1)) := h3
          refine c_rReplace zr19 hc4.2.2.2.1 ho4.2.2.2.2.2.2.2.2.1 (y_rs (by omega) (by omega)) (fun w => h1 _ D4 (cl_same3 hc4 ?_) h3) (fun w0 w1 => h1 _ _ ?_ h3)
          · rw [List.set_eq_of_length_le (by omega)]
          · rw [show (((y_l S 3).length : Int) + 1 - 1).toNat = (y_l S 3).length by omega]
            exact cl_set3 hc4 (by omega) 1
      refine c_rCutTo zr19 hc3.2.2.2.1 o93 (y_rs (by omega) (by omega)) (fun w => go D3 (cl_same3 hc3 ?_)) (fun w0 w1 => go _ ?_)
      · rw [List.take_of_length_le (by omega)]
      · have := cl_cut3 hc3 (m := (y_l S 3).length + 1) (by omega)
        rw [show (((y_l S 3).length + 1 : Nat) : Int) = ((y_l S 3).length : Int) + 1 by omega] at this
        exact this
    refine c_rSize zr19 hc0.2.2.2.1 ?_
    rw [elen]
    have rest : ∀ b0 : Bool, b0 = decide (m = 15) → w_tOpenConditional_36 n (d + 11) m (((y_l S 3).length : Int) + 1) b0 D0 Kz T := by
      intro b0 hb0
      refine ⟨y_rs (by omega) (by omega), fun c => ⟨fun c1 => ?_, fun c1 => ?_⟩, fun c => ?_⟩
      · rw [if_neg c, if_neg c1] at h
        subst hb0
        exact fin _ S0 D0 hc0 ho0 h
      · rw [if_neg c, if_pos c1] at h
        have h' := y_fbi h
        have h'' : y_fin (y_bd (y_get true S0) (fun a S1 => y_bd (y_get true S1) (fun b S2 => .inl (y_alike S2 (y_mo S1 a) (y_mo S2 b), S2)))) _ _ := h'
        refine c_get hc0 ho0 (y_gk (yo_getT ho0) h'' (fun a S1 ⟨k1, k2, k3, _⟩ h D1 hc1 => c_mo hc1 k1 k3 (c_get hc1 k1 (y_gk (yo_getT k1) h (fun b S2 ⟨a1, a2, a3, _⟩ h D2 hc2 => c_mo hc2 a1 a3 (c_alike hc2 a1 ?_ (y_mo_ok a1 a3) (fin _ S2 D2 hc2 a1 h)))))))
        have := y_mo_ok k1 k3
        rw [← show y_mm S2 = y_mm S1 from congrArg List.length a2.2.1] at this
        exact this
      · rw [if_pos c] at h
        have h' := y_fbi h
        refine c_getx Hx Ho hd hc0 ho0 hj0 (y_gk (yo_getx (Ho st) 201 S0 ho0) h' (fun a S1 ⟨k1, k2, k3⟩ h D1 hc1 => c_codeOf hc1 k1 k3 (c_getx Hx Ho hd hc1 k1 (k2.2.2.2.2.2.2.2.2.1.trans hj0) (y_gk (yo_getx (Ho st) 201 S1 k1) h (fun b S2 ⟨a1, a2, a3⟩ h D2 hc2 => c_codeOf hc2 a1 a3 ?_)))))
        have r1 : 0 ≤ y_cod S1 a ∧ y_cod S1 a ≤ 256 := by unfold y_cod; split <;> omega
        have r2 : 0 ≤ y_cod S2 b ∧ y_cod S2 b ≤ 256 := by unfold y_cod; split <;> omega
        refine ⟨y_rs (by omega) (by omega), y_rs (by omega) (by omega), fun z => ?_, fun z => ?_⟩
        · have h3 := fin (decide (y_cod S1 a = y_cod S2 b)) S2 D2 hc2 a1 h
          rw [decide_eq_false z] at h3
          exact h3
        · have h3 := fin (decide (y_cod S1 a = y_cod S2 b)) S2 D2 hc2 a1 h
          rw [decide_eq_true z] at h3
          exact h3
    exact ⟨y_rs (by omega) (by omega), fun c => rest false (decide_eq_false c).symm, fun c => rest true (decide_eq_true c).symm⟩
  · rw [if_pos (by omega)] at h
    exact c_fault hc h
end CX
