/-! acts of their own: a throw of a new exception, a copy, the text of the commands, calls under handlers -/
def am_thr (M : am_M) : am_M := (M.1, M.2.1, M.2.2.1, M.2.2.2.1, none, am_cn M + 1, am_sn M + 6)
/-- new E(..), its text, the throw: five instructions -/
def ac_throw (kd : Nat) : am_A := fun _ st M => match st with
  | [] => some (.inr (.inr (.inr (.inr (.inr (True, .inr kd, am_thr M))))))
  | _ => none
def ac_copy (n : Nat) : am_A := fun ls st M => match st with
  | .int len :: .int dp :: .ref kb :: .int sp :: .ref ka :: r => match am_sh M ka, am_sh M kb with
    | some (.inr (0, n0)), some (.inr (0, n1)) => if (r.map fun v => v.category).sum ≤ 8 then some (.inr (.inl (¬ sp < 0 ∧ ¬ dp < 0 ∧ ¬ len < 0 ∧ sp.toNatClampNeg + len.toNatClampNeg ≤ n0 ∧ dp.toNatClampNeg + len.toNatClampNeg ≤ n1, (n, ls, r, (am_u1 M.1 kb (va_cpy (M.1 ka) (M.1 kb) sp.toNatClampNeg dp.toNatClampNeg len.toNatClampNeg), M.2))))) else none
    | _, _ => none
  | _ => none
/-- the text of the commands' names, a blank behind each -/
def am_txt : List Nat := [112, 97, 114, 32, 114, 101, 108, 97, 120, 32, 100, 101, 102, 32, 103, 100, 101, 102, 32, 101, 100, 101, 102, 32, 108, 101, 116, 32, 99, 97, 116, 99, 111, 100, 101, 32, 101, 120, 112, 97, 110, 100, 97, 102, 116, 101, 114, 32, 110, 111, 101, 120, 112, 97, 110, 100, 32, 99, 115, 110, 97, 109, 101, 32, 101, 110, 100, 99, 115, 110, 97, 109, 101, 32, 115, 116, 114, 105, 110, 103, 32, 105, 102, 32, 105, 102, 120, 32, 105, 102, 116, 114, 117, 101, 32, 105, 102, 102, 97, 108, 115, 101, 32, 101, 108, 115, 101, 32, 102, 105, 32]
