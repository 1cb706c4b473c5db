/-! bits of tokens; the methods without a state -/
theorem z_shr8 {a : Int} (h : z_r a) : z_shr a 8 = a / 256 := by
  unfold z_shr
  rw [pk_shr _ _ 8 (by decide), z_i_toInt h, Int.shiftRight_eq_div_pow]
  rfl
theorem z_i_nat (k : Nat) : z_i (k : Int) = nI k := Int32.ofInt_eq_ofNat
theorem z_nI {k : Nat} (h : k < 2147483648) : (nI k).toInt = (k : Int) := by
  rw [← z_i_nat, z_i_toInt ⟨by omega, by omega⟩]
theorem z_and_pow {a m : Int} (k : Nat) (h0 : 0 ≤ a) (h : a ≤ 2147483647) (hm : (z_i m).toBitVec.toNat = 2 ^ k - 1) : z_and a m = a % ((2 ^ k : Nat) : Int) := by
  obtain ⟨b, rfl⟩ : ∃ b : Nat, a = (b : Int) := ⟨a.toNat, by omega⟩
  unfold z_and
  rw [z_i_nat, pk_andN (by omega) k hm, z_nI]
  · rfl
  · have := Nat.mod_le b (2 ^ k)
    omega
theorem z_and255 {a : Int} (h0 : 0 ≤ a) (h : a ≤ 2147483647) : z_and a 255 = a % 256 := z_and_pow 8 h0 h (by decide)
theorem z_and127 {a : Int} (h0 : 0 ≤ a) (h : a ≤ 2147483647) : z_and a 127 = a % 128 := z_and_pow 7 h0 h (by decide)
def y_un (t : Int) : Int := if 16384 ≤ t then t - 16384 else t
theorem z_mk1 : ∀ a, a < 256 → ∀ b, b < 128 → z_and ((128 * a + b : Nat) : Int) (-16385) = (if 16384 ≤ 128 * a + b then ((128 * a + b - 16384 : Nat) : Int) else ((128 * a + b : Nat) : Int)) := by decide +kernel
theorem z_mk2 : ∀ a, a < 128 → ∀ b, b < 128 → z_or ((128 * a + b : Nat) : Int) 16384 = ((128 * a + b + 16384 : Nat) : Int) ∧ z_and ((128 * a + b : Nat) : Int) 8192 = (if 8192 ≤ 128 * a + b then 8192 else 0) := by decide +kernel
theorem z_unm {t : Int} (h0 : 0 ≤ t) (h : t < 32768) : z_and t (-16385) = y_un t := by
  obtain ⟨b, rfl⟩ : ∃ b : Nat, t = (b : Int) := ⟨t.toNat, by omega⟩
  have := z_mk1 (b / 128) (by omega) (b % 128) (by omega)
  rw [show 128 * (b / 128) + b % 128 = b by omega] at this
  rw [this]
  unfold y_un
  split <;> split <;> omega
theorem z_orm {t : Int} (h0 : 0 ≤ t) (h : t < 16384) : z_or t 16384 = t + 16384 := by
  obtain ⟨b, rfl⟩ : ∃ b : Nat, t = (b : Int) := ⟨t.toNat, by omega⟩
  have := (z_mk2 (b / 128) (by omega) (b % 128) (by omega)).1
  rw [show 128 * (b / 128) + b % 128 = b by omega] at this
  rw [this]
  omega
theorem z_an8 {t : Int} (h0 : 0 ≤ t) (h : t < 16384) : z_and t 8192 = if 8192 ≤ t then 8192 else 0 := by
  obtain ⟨b, rfl⟩ : ∃ b : Nat, t = (b : Int) := ⟨t.toNat, by omega⟩
  have := (z_mk2 (b / 128) (by omega) (b % 128) (by omega)).2
  rw [show 128 * (b / 128) + b % 128 = b by omega] at this
  rw [this]
  split <;> split <;> omega
/-- by how much a token goes deeper -/
def y_bs (t : Int) : Int := if t / 256 = 1 then 1 else if t / 256 = 2 then -1 else 0
def y_isch (m : Int) : Bool := decide (18 < m ∧ m < 4096)
def y_isex (m : Int) : Bool := decide (4096 ≤ m ∨ (8 ≤ m ∧ m ≤ 18 ∧ m ≠ 11))
def y_sp (c : Int) : Int := if c = 32 then 2592 else c + 3072
def y_dg (t : Int) : Int := if 3120 ≤ t ∧ t ≤ 3129 then t - 3120 else -1
def y_code (c : Int) : Bool := decide (c = 10 ∨ (32 ≤ c ∧ c ≤ 126))
theorem y_dF {p : Prop} {i : Decidable p} {K : Bool → z_D → Prop} {D : z_D} (h : K (@decide p i) D) (q : ¬ p) : K false D := by rw [decide_eq_false q] at h; exact h
theorem y_dT {p : Prop} {i : Decidable p} {K : Bool → z_D → Prop} {D : z_D} (h : K (@decide p i) D) (q : p) : K true D := by rw [decide_eq_true q] at h; exact h
section ST
variable {n d : Nat} {D : z_D} {T : Nat → z_D → Prop} {t c : Int} {K : Int → z_D → Prop} {B : Bool → z_D → Prop}
theorem c_tUnmarked (h0 : 0 ≤ t) (h : t < 32768) (hK : K (y_un t) D) : z_c n (d + 1) 52 [.int (z_i t)] D (z_qI K T) := r_tUnmarked (by unfold w_tUnmarked_0; rw [z_unm h0 h]; exact hK)
theorem c_tCategoryOf (h : z_r t) (hK : K (t / 256) D) : z_c n (d + 1) 53 [.int (z_i t)] D (z_qI K T) := r_tCategoryOf (by unfold w_tCategoryOf_0; rw [z_shr8 h]; exact hK)
theorem c_tBraceStep (h : z_r t) (hK : K (y_bs t) D) : z_c n (d + 1) 54 [.int (z_i t)] D (z_qI K T) := r_tBraceStep (by
  unfold w_tBraceStep_0
  rw [z_shr8 h]
  unfold y_bs at hK
  refine ⟨fun c => ⟨fun c1 => ?_, fun c1 => ?_⟩, fun c => ?_⟩
  · rw [if_neg c, if_neg c1] at hK; exact hK
  · rw [if_neg c, if_pos c1] at hK; exact hK
  · rw [if_pos c] at hK; exact hK)
theorem c_tIsCharacter (h : z_r t) (hK : B (y_isch t) D) : z_c n (d + 1) 56 [.int (z_i t)] D (z_qZ B T) := r_tIsCharacter ⟨h, fun c => y_dF hK (by omega), fun c => ⟨fun c1 => y_dF hK (by omega), fun c1 => y_dT hK (by omega)⟩⟩
theorem c_tIsExpandable (h : z_r t) (hK : B (y_isex t) D) : z_c n (d + 1) 57 [.int (z_i t)] D (z_qZ B T) := r_tIsExpandable ⟨h, fun c => ⟨fun c1 => y_dF hK (by omega), fun c1 => ⟨fun c2 => y_dF hK (by omega), fun c2 => y_dT hK (by omega)⟩⟩, fun c => ⟨fun c1 => y_dF hK (by omega), fun c1 => y_dT hK (by omega)⟩⟩
theorem c_tSpelled (h0 : 0 ≤ t) (h : t ≤ 2147483647) (hK : K (y_sp (t % 256)) D) : z_c n (d + 1) 87 [.int (z_i t)] D (z_qI K T) := r_tSpelled (by
  unfold w_tSpelled_0
  rw [z_and255 h0 h]
  unfold y_sp at hK
  exact ⟨fun c => by rw [if_neg c] at hK; exact hK, fun c => by rw [if_pos c] at hK; exact hK⟩)
theorem c_tDigitOf (h0 : -1 ≤ t) (h : t < 32768) (hK : K (y_dg t) D) : z_c n (d + 1) 73 [.int (z_i t)] D (z_qI K T) := r_tDigitOf (by
  unfold y_dg at hK
  refine ⟨⟨by omega, by omega⟩, fun c => ?_, fun c => ⟨fun c1 => ?_, fun c1 => ?_⟩⟩
  · rw [if_neg (by omega)] at hK; exact hK
  · rw [if_neg (by omega)] at hK; exact hK
  · rw [if_pos (by omega)] at hK; exact hK)
theorem c_tIsOfText (h : z_r t) (hK : B (y_code t) D) : z_c n (d + 1) 49 [.int (z_i t)] D (z_qZ B T) := r_tIsOfText ⟨h, fun c => y_dT hK (by omega), fun c => ⟨fun c1 => y_dF hK (by omega), fun c1 => ⟨fun c2 => y_dF hK (by omega), fun c2 => y_dT hK (by omega)⟩⟩⟩
theorem c_mIsCode (h : z_r t) (hK : B (y_code t) D) : z_c n (d + 1) 94 [.int (z_i t)] D (z_qZ B T) := r_mIsCode ⟨h, fun c => y_dT hK (by omega), fun c => ⟨fun c1 => y_dF hK (by omega), fun c1 => ⟨fun c2 => y_dF hK (by omega), fun c2 => y_dT hK (by omega)⟩⟩⟩
theorem c_mIsName (h : z_r t) (hK : B (decide (4096 ≤ t ∧ t < 16384)) D) : z_c n (d + 1) 107 [.int (z_i t)] D (z_qZ B T) := r_mIsName ⟨h, fun c => y_dF hK (by omega), fun c => ⟨fun c1 => y_dF hK (by omega), fun c1 => y_dT hK (by omega)⟩⟩
theorem c_mIsMarked (h : z_r t) (hK : B (decide (8192 ≤ t ∧ t < 16384)) D) : z_c n (d + 2) 108 [.int (z_i t)] D (z_qZ B T) := r_mIsMarked (c_mIsName h ⟨fun c => y_dF hK (fun q => of_decide_eq_false c (by omega)), fun c => by
  have c' := of_decide_eq_true c
  rw [z_an8 (by omega) c'.2]
  split
  · next e => exact ⟨fun q => by omega, fun _ => y_dT hK ⟨e, c'.2⟩⟩
  · next e => exact ⟨fun _ => y_dF hK (by omega), fun q => absurd rfl q⟩⟩)
/-- the reference's plain token -/
def y_pl (t : Int) : Int := if 8192 ≤ t ∧ t < 16384 then t - 8192 else t
theorem c_mPlain (h : z_r t) (hK : K (y_pl t) D) : z_c n (d + 3) 109 [.int (z_i t)] D (z_qI K T) := r_mPlain (c_mIsMarked h (by
  unfold y_pl at hK
  exact ⟨fun c => by rw [if_neg (of_decide_eq_false c)] at hK; exact hK, fun c => by rw [if_pos (of_decide_eq_true c)] at hK; exact hK⟩))
theorem c_mIsCharacter (h : z_r t) (hc : z_r c) (hK : B (decide (0 ≤ t ∧ t < 4096 ∧ t / 256 = c)) D) : z_c n (d + 1) 110 [.int (z_i t), .int (z_i c)] D (z_qZ B T) := r_mIsCharacter ⟨h, fun c => y_dF hK (by omega), fun c => ⟨fun c1 => y_dF hK (by omega), fun c1 => by rw [z_shr8 h]; exact ⟨hc, fun c2 => y_dF hK (by omega), fun c2 => y_dT hK (by omega)⟩⟩⟩
theorem c_mOther (h : z_r t) (hK : K (y_sp t) D) : z_c n (d + 1) 125 [.int (z_i t)] D (z_qI K T) := r_mOther (by
  unfold y_sp at hK
  exact ⟨h, fun c => by rw [if_neg c] at hK; exact hK, fun c => by rw [if_pos c] at hK; exact hK⟩)
theorem c_mDigit (h0 : -1 ≤ t) (h : t < 32768) (hK : K (y_dg t) D) : z_c n (d + 2) 140 [.int (z_i t)] D (z_qI K T) := r_mDigit (c_mIsCharacter ⟨by omega, by omega⟩ (z_rk rfl) (by
  unfold y_dg at hK
  refine ⟨fun c => ?_, fun c => ?_⟩
  · have := of_decide_eq_false c
    rw [if_neg (by omega)] at hK; exact hK
  · have c' := of_decide_eq_true c
    rw [z_and255 c'.1 (by omega)]
    refine ⟨fun c1 => ?_, fun c1 => ⟨fun c2 => ?_, fun c2 => ?_⟩⟩
    · rw [if_neg (by omega)] at hK; exact hK
    · rw [if_neg (by omega)] at hK; exact hK
    · rw [if_pos (by omega)] at hK
      rw [show t % 256 - 48 = t - 3120 by omega]; exact hK))
end ST
