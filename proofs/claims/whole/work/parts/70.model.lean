/-! THE MODEL: one state for the class and the reference, and what each method does to it -/
/-- lists (0 text, 1 pending, 2 outs, 3 conditionals, 4 starts, 5 keys, 6 values); numbers (0 place, 1 state, 2 steps, 3 fault, 4 expansions, 5 those that are not ended); categories; meanings; names; macros; arguments 0 to 3 and the draft's text 4 and body 5, where known; the draft's parameters, where known -/
abbrev y_S : Type := (Nat → List Int) × (Nat → Int) × (Nat → Int) × (Nat → Int) × List (List Int × Bool) × List (List Int × List Int × Int) × (Nat → Option (List Int)) × Option Int
abbrev y_l (S : y_S) : Nat → List Int := S.1
abbrev y_s (S : y_S) : Nat → Int := S.2.1
abbrev y_cat (S : y_S) : Nat → Int := S.2.2.1
abbrev y_mean (S : y_S) : Nat → Int := S.2.2.2.1
abbrev y_nm (S : y_S) : List (List Int × Bool) := S.2.2.2.2.1
abbrev y_mac (S : y_S) : List (List Int × List Int × Int) := S.2.2.2.2.2.1
abbrev y_a (S : y_S) : Nat → Option (List Int) := S.2.2.2.2.2.2.1
abbrev y_dp (S : y_S) : Option Int := S.2.2.2.2.2.2.2
def y_sl (S : y_S) (i : Nat) (v : List Int) : y_S := (am_u1 S.1 i v, S.2)
def y_ss (S : y_S) (i : Nat) (v : Int) : y_S := (S.1, am_u1 S.2.1 i v, S.2.2)
def y_scat (S : y_S) (i : Nat) (v : Int) : y_S := (S.1, S.2.1, am_u1 S.2.2.1 i v, S.2.2.2)
def y_smean (S : y_S) (i : Nat) (v : Int) : y_S := (S.1, S.2.1, S.2.2.1, am_u1 S.2.2.2.1 i v, S.2.2.2.2)
def y_snm (S : y_S) (v : List (List Int × Bool)) : y_S := (S.1, S.2.1, S.2.2.1, S.2.2.2.1, v, S.2.2.2.2.2)
def y_smac (S : y_S) (v : List (List Int × List Int × Int)) : y_S := (S.1, S.2.1, S.2.2.1, S.2.2.2.1, S.2.2.2.2.1, v, S.2.2.2.2.2.2)
def y_sa (S : y_S) (i : Nat) (v : Option (List Int)) : y_S := (S.1, S.2.1, S.2.2.1, S.2.2.2.1, S.2.2.2.2.1, S.2.2.2.2.2.1, am_u1 S.2.2.2.2.2.2.1 i v, S.2.2.2.2.2.2.2)
def y_sdp (S : y_S) (v : Option Int) : y_S := (S.1, S.2.1, S.2.2.1, S.2.2.2.1, S.2.2.2.2.1, S.2.2.2.2.2.1, S.2.2.2.2.2.2.1, v)
/-- a value and the state behind it, or the state behind a fault -/
abbrev y_Re (α : Type) : Type := (α × y_S) ⊕ y_S
def y_bd {α β : Type} (x : y_Re α) (f : α → y_S → y_Re β) : y_Re β := match x with
  | .inl q => f q.1 q.2
  | .inr S => .inr S
def y_ft {α : Type} (S : y_S) (k : Int) : y_Re α := .inr (y_ss S 3 k)
-- reading
def y_txt (S : y_S) (i : Int) : Int := (y_l S 0)[i.toNat]?.getD 0
def y_ct (S : y_S) (c : Int) : Int := y_cat S c.toNat
def y_idx (q : List Int × Bool) : List (List Int × Bool) → Nat → Option Nat
  | [], _ => none
  | x :: t, k => if x = q then some k else y_idx q t (k + 1)
def y_find (ls : List Int) (b : Bool) (S : y_S) : y_Re Int := match y_idx (ls, b) (y_nm S) 0 with
  | some k => .inl (4096 + (k : Int), S)
  | none => if 118 ≤ (y_nm S).length then y_ft S 5 else .inl (4096 + ((y_nm S).length : Int), y_snm S (y_nm S ++ [(ls, b)]))
/-- the letters of a name behind its first ones -/
def y_let : Nat → List Int → y_S → y_Re Int
  | 0, ls, S => y_find ls false S
  | f + 1, ls, S => if y_s S 0 < (y_l S 0).length then
      (if y_ct S (y_txt S (y_s S 0)) = 11 then
        (if ls.length = 11 then y_ft (y_ss S 0 (y_s S 0 + 1)) 5 else y_let f (ls ++ [y_txt S (y_s S 0)]) (y_ss S 0 (y_s S 0 + 1)))
      else y_find ls false S) else y_find ls false S
def y_rdn (S : y_S) : y_Re Int := if y_s S 0 < (y_l S 0).length then
    (let c := y_txt S (y_s S 0)
     let S1 := y_ss (y_ss S 0 (y_s S 0 + 1)) 1 (if y_ct S c = 11 ∨ y_ct S c = 10 then 2 else 1)
     if y_ct S c = 11 then y_let 160 [c] S1 else y_find [c] false S1)
  else y_ft S 3
/-- past the end of a line -/
def y_line : Nat → Int → y_S → y_S
  | 0, _, S => S
  | f + 1, c, S => if c = 10 then S else if y_s S 0 < (y_l S 0).length then y_line f (y_txt S (y_s S 0)) (y_ss S 0 (y_s S 0 + 1)) else S
def y_read : Nat → y_S → y_Re Int
  | 0, S => .inl (-1, S)
  | f + 1, S => if y_s S 0 < (y_l S 0).length then
      (let c := y_txt S (y_s S 0)
       let k := y_ct S c
       let S1 := y_ss S 0 (y_s S 0 + 1)
       if k = 0 then y_rdn S1
       else if k = 5 ∨ k = 14 then
         (let S2 := y_ss (y_line 160 c S1) 1 0
          if k = 5 ∧ y_s S 1 ≠ 2 then .inl (if y_s S 1 = 0 then 4096 else 2592, S2) else y_read f S2)
       else if k = 9 then y_read f S1
       else if k = 10 then (if y_s S 1 = 1 then .inl (2592, y_ss S1 1 2) else y_read f S1)
       else if k = 13 then y_find [c] true (y_ss S1 1 1)
       else if k = 15 then y_ft S1 8
       else .inl (c + 256 * k, y_ss S1 1 1))
    else .inl (-1, S)
def y_get (needed : Bool) (S : y_S) : y_Re Int := match (y_l S 1).getLast? with
  | some t => .inl (t, y_sl S 1 (y_l S 1).dropLast)
  | none => y_bd (y_read 161 S) (fun t S1 => if t = -1 ∧ needed = true then y_ft S1 3 else .inl (t, S1))
def y_put (t : Int) (S : y_S) : y_Re Unit := if 300 ≤ (y_l S 1).length then y_ft S 5 else .inl ((), y_sl S 1 (y_l S 1 ++ [t]))
-- meanings
def y_mo (S : y_S) (t : Int) : Int := if t < 4096 then t else if 16384 ≤ t then 2 else y_mean S (t - 4096).toNat
def y_set (key v : Int) (S : y_S) : y_S := if 4096 ≤ key then y_smean S (key - 4096).toNat v else y_scat S key.toNat v
def y_old (key : Int) (S : y_S) : Int := if 4096 ≤ key then y_mean S (key - 4096).toNat else y_cat S key.toNat
/-- is nothing to be kept for this key -/
def y_kp (key : Int) (S : y_S) : Bool := match (y_l S 4).getLast? with
  | none => true
  | some st => decide (key ∈ (y_l S 5).drop st.toNat)
def y_chg (key v : Int) (S : y_S) : y_Re Unit := if y_kp key S then .inl ((), y_set key v S)
  else if 60 ≤ (y_l S 5).length then y_ft S 5
  else .inl ((), y_set key v (y_sl (y_sl S 5 (y_l S 5 ++ [key])) 6 (y_l S 6 ++ [y_old key S])))
/-- values come back, from the last on -/
def y_undo : Nat → y_S → y_S
  | 0, S => S
  | k + 1, S => y_undo k (y_set ((y_l S 5).getLast?.getD 0) ((y_l S 6).getLast?.getD 0) (y_sl (y_sl S 5 (y_l S 5).dropLast) 6 (y_l S 6).dropLast))
def y_close (S : y_S) : y_Re Unit := match (y_l S 4).getLast? with
  | none => y_ft S 1
  | some st => .inl ((), y_undo ((y_l S 5).length - st.toNat) (y_sl S 4 (y_l S 4).dropLast))
def y_group (S : y_S) : y_Re Unit := if 30 ≤ (y_l S 4).length then y_ft S 5 else .inl ((), y_sl S 4 (y_l S 4 ++ [((y_l S 5).length : Int)]))
def y_send (t : Int) (S : y_S) : y_Re Unit := if 200 ≤ (y_l S 2).length then y_ft S 5 else .inl ((), y_sl S 2 (y_l S 2 ++ [t]))
-- let, catcode
def y_name (S : y_S) : y_Re Int := y_bd (y_get true S) (fun t S1 => if y_un t < 4096 then y_ft S1 4 else .inl (y_un t, S1))
def y_letc (S : y_S) : y_Re Unit := y_bd (y_name S) (fun nm S1 => y_bd (y_get true S1) (fun t S2 =>
  if t = 3133 then y_bd (y_get true S2) (fun t S3 => y_chg nm (y_mo S3 t) S3) else y_chg nm (y_mo S2 t) S2))
def y_only (S : y_S) (k : Int) : Int := match (y_nm S)[k.toNat]? with
  | some ([c], _) => c
  | _ => -1
def y_catc (S : y_S) : y_Re Unit := y_bd (y_get true S) (fun t0 S1 =>
  let t := y_un t0
  let c := if t < 4096 then t % 256 else y_only S1 (t - 4096)
  if c = -1 then y_ft S1 4 else y_bd (y_get true S1) (fun u S2 =>
    if y_dg u = -1 then y_ft S2 4 else y_bd (y_get false S2) (fun e S3 =>
      if y_dg e ≠ -1 then (if 15 < 10 * y_dg u + y_dg e then y_ft S3 4 else y_chg c (10 * y_dg u + y_dg e) S3)
      else if e ≠ -1 then y_bd (y_put e S3) (fun _ S4 => y_chg c (y_dg u) S4)
      else y_chg c (y_dg u) S3)))
-- definitions
def y_dtx (S : y_S) : List Int := (y_a S 4).getD []
def y_dbd (S : y_S) : List Int := (y_a S 5).getD []
def y_dpr (S : y_S) : Int := (y_dp S).getD 0
def y_par (S : y_S) : y_Re Int := y_bd (y_get true S) (fun g S1 =>
  if 4 < y_dpr S1 + 1 ∨ 4096 ≤ g ∨ g % 256 ≠ 48 + (y_dpr S1 + 1) then y_ft S1 4 else .inl (8192 + (y_dpr S1 + 1), y_sdp S1 (some (y_dpr S1 + 1))))
def y_addt (t : Int) (S : y_S) : y_Re Unit := if 12 ≤ (y_dtx S).length then y_ft S 5 else .inl ((), y_sa S 4 (some (y_dtx S ++ [t])))
def y_addb (t : Int) (S : y_S) : y_Re Unit := if 40 ≤ (y_dbd S).length then y_ft S 5 else .inl ((), y_sa S 5 (some (y_dbd S ++ [t])))
def y_rtx : Nat → y_S → y_Re Unit
  | 0, S => .inl ((), S)
  | f + 1, S => y_bd (y_get true S) (fun t0 S1 =>
      let t := y_un t0
      if t / 256 = 1 then .inl ((), S1) else if t / 256 = 2 then y_ft S1 1
      else y_bd (if t / 256 = 6 then y_par S1 else .inl (t, S1)) (fun t S2 => y_bd (y_addt t S2) (fun _ S3 => y_rtx f S3)))
def y_hash (t : Int) (S : y_S) : y_Re Int := if t / 256 = 6 then .inl (t, S)
  else if 4096 ≤ t ∨ t % 256 - 48 < 1 ∨ y_dpr S < t % 256 - 48 then y_ft S 4 else .inl (8192 + (t % 256 - 48), S)
/-- the body; g gets a token, expanded or not -/
def y_rbd (g : y_S → y_Re Int) : Nat → Int → y_S → y_Re Unit
  | 0, _, S => .inl ((), S)
  | f + 1, dp, S => y_bd (g S) (fun t0 S1 =>
      let t := y_un t0
      if dp + y_bs t < 0 then .inl ((), S1)
      else y_bd (if t / 256 = 6 then y_bd (g S1) y_hash else .inl (t, S1)) (fun t' S2 => y_bd (y_addb t' S2) (fun _ S3 => y_rbd g f (dp + y_bs t) S3)))
def y_defn (nm : Int) (all : Bool) (S : y_S) : y_Re Unit := if 60 ≤ (y_mac S).length then y_ft S 5 else
  (let v := 4096 + ((y_mac S).length : Int)
   let S1 := y_sdp (y_sa (y_sa (y_smac S (y_mac S ++ [(y_dtx S, y_dbd S, y_dpr S)])) 4 none) 5 none) none
   if all then .inl ((), y_set nm v (y_sl S1 6 (List.zipWith (fun k x => if k = nm then v else x) (y_l S1 5) (y_l S1 6))))
   else y_chg nm v S1)
def y_def (ex : Int → y_S → y_Re Unit) (gx : y_S → y_Re Int) (m : Int) (S : y_S) : y_Re Unit := y_bd (y_name S) (fun nm S1 =>
  y_bd (y_rtx 13 (y_sdp (y_sa (y_sa S1 4 (some [])) 5 (some [])) (some 0))) (fun _ S2 =>
  y_bd (y_rbd (if m = 5 then gx else y_get true) 41 0 S2) (fun _ S3 => y_defn nm (m = 4) S3)))
-- expansions
def y_getx (ex : Int → y_S → y_Re Unit) : Nat → y_S → y_Re Int
  | 0, S => y_ft S 5
  | f + 1, S => y_bd (y_get true S) (fun t S1 => if y_isex (y_mo S1 t) then y_bd (ex (y_mo S1 t) S1) (fun _ S2 => y_getx ex f S2) else .inl (t, S1))
def y_after (ex : Int → y_S → y_Re Unit) (S : y_S) : y_Re Unit := y_bd (y_get true S) (fun a S1 => y_bd (y_get true S1) (fun b S2 =>
  y_bd (if y_isex (y_mo S2 b) then ex (y_mo S2 b) S2 else y_put b S2) (fun _ S3 => y_put a S3)))
def y_mark (S : y_S) : y_Re Unit := y_bd (y_get true S) (fun t S1 => y_put (if y_isex (y_mo S1 t) then t + 16384 else t) S1)
/-- the characters of a name in the making -/
def y_csn (ex : Int → y_S → y_Re Unit) : Nat → List Int → y_S → y_Re (List Int)
  | 0, ls, S => .inl (ls, S)
  | f + 1, ls, S => y_bd (y_getx ex 201 S) (fun t S1 => if y_mo S1 t = 11 then .inl (ls, S1)
      else if 4096 ≤ t then y_ft S1 4 else if ls.length = 11 then y_ft S1 5 else y_csn ex f (ls ++ [t % 256]) S1)
def y_cs (ex : Int → y_S → y_Re Unit) (S : y_S) : y_Re Unit := y_bd (y_csn ex 12 [] S) (fun ls S1 => if ls = [] then y_ft S1 4 else
  y_bd (y_find ls false S1) (fun t S2 => y_bd (if y_mo S2 t = 0 then y_chg t 2 S2 else .inl ((), S2)) (fun _ S3 => y_put t S3)))
def y_puts : List Int → y_S → y_Re Unit
  | [], S => .inl ((), S)
  | t :: r, S => y_bd (y_put t S) (fun _ S1 => y_puts r S1)
def y_str (S : y_S) : y_Re Unit := y_bd (y_get true S) (fun t0 S1 =>
  let t := y_un t0
  if t < 4096 then y_put (y_sp (t % 256)) S1
  else match (y_nm S1)[(t - 4096).toNat]? with
    | some (ls, b) => y_puts (ls.reverse.map y_sp ++ (if b then [] else [y_sp 92])) S1
    | none => .inl ((), S1))
/-- past tokens, up to the end of a conditional or its else -/
def y_pass (els : Bool) : Nat → Int → y_S → y_Re Unit
  | 0, _, S => .inl ((), S)
  | f + 1, dp, S => y_bd (y_get true S) (fun t S1 =>
      let m := y_mo S1 t
      let dq := if 13 ≤ m ∧ m ≤ 16 then dp + 1 else if m = 18 then dp - 1 else dp
      if dq < 0 then .inl ((), y_sl S1 3 (y_l S1 3).dropLast)
      else if m = 17 ∧ dq = 0 ∧ els = true then .inl ((), y_sl S1 3 ((y_l S1 3).set ((y_l S1 3).length - 1) 2))
      else y_pass els f dq S1)
def y_cod (S : y_S) (t : Int) : Int := if y_isch (y_mo S t) then y_mo S t % 256 else 256
def y_mcr (S : y_S) (m : Int) : Option (List Int × List Int × Int) := if 4096 ≤ m then (y_mac S)[(m - 4096).toNat]? else none
def y_alike (S : y_S) (a b : Int) : Bool := match y_mcr S a, y_mcr S b with
  | some x, some y => decide (x.1 = y.1 ∧ x.2.1 = y.2.1)
  | _, _ => decide (a = b)
def y_cond (ex : Int → y_S → y_Re Unit) (m : Int) (S : y_S) : y_Re Unit :=
  if 12 ≤ (y_l S 3).length then y_ft S 5 else
  (let lv := (y_l S 3).length
   let S0 := y_sl S 3 (y_l S 3 ++ [0])
   y_bd (if m = 13 then y_bd (y_getx ex 201 S0) (fun a S1 => y_bd (y_getx ex 201 S1) (fun b S2 => .inl (decide (y_cod S1 a = y_cod S2 b), S2)))
     else if m = 14 then y_bd (y_get true S0) (fun a S1 => y_bd (y_get true S1) (fun b S2 => .inl (y_alike S2 (y_mo S1 a) (y_mo S2 b), S2)))
     else .inl (decide (m = 15), S0)) (fun h S3 =>
   let S4 := y_sl S3 3 ((y_l S3 3).take (lv + 1))
   if h then .inl ((), y_sl S4 3 ((y_l S4 3).set lv 1)) else y_pass true 1000 0 S4))
-- a macro's call
def y_np (l : List Int) : Nat → Nat → Nat
  | 0, k => k
  | f + 1, k => match l[k]? with
    | some t => if 8192 ≤ t then k else y_np l f (k + 1)
    | none => k
/-- the place of the first parameter from k on, or the size -/
def y_nxt (l : List Int) (k : Nat) : Nat := y_np l l.length k
def y_match : List Int → y_S → y_Re Unit
  | [], S => .inl ((), S)
  | x :: r, S => y_bd (y_get true S) (fun t S1 => if y_un t = x then y_match r S1 else y_ft S1 6)
def y_blank : Nat → Int → y_S → y_Re Int
  | 0, t, S => .inl (t, S)
  | f + 1, t, S => if t = 2592 then y_bd (y_get true S) (fun u S1 => y_blank f u S1) else .inl (t, S)
def y_clos : List Int → Int → Option Nat
  | [], _ => none
  | t :: r, dp => if dp + y_bs t = 0 then some 0 else (y_clos r (dp + y_bs t)).map (· + 1)
/-- without the outer braces, if they belong together -/
def y_peel (l : List Int) : List Int := match l with
  | t :: r => if 2 ≤ l.length ∧ y_bs t = 1 ∧ y_clos r 1 = some (r.length - 1) then r.dropLast else l
  | [] => l
def y_arg (dl : List Int) (par : Bool) : Nat → List Int → Int → Int → y_S → y_Re (List Int)
  | 0, _, _, _, S => y_ft S 5
  | f + 1, acc, dp, t0, S =>
      (let t := y_un t0
       if t = 4096 ∧ par = false then y_ft S 7
       else if dp + y_bs t < 0 then y_ft S 1
       else if dp + y_bs t = 0 ∧ dl.isSuffixOf (acc ++ [t]) then .inl (y_peel ((acc ++ [t]).take ((acc ++ [t]).length - dl.length)), S)
       else y_bd (y_get true S) (fun u S1 => y_arg dl par f (acc ++ [t]) (dp + y_bs t) u S1))
def y_take (dl : List Int) (S : y_S) : y_Re (List Int) := y_bd (y_get true S) (fun t S1 =>
  y_bd (if dl = [] then y_blank 1000 t S1 else .inl (t, S1)) (fun t S2 => y_arg dl (decide ((4096 : Int) ∈ dl)) 40 [] 0 t S2))
def y_args (tx : List Int) : Nat → Nat → Nat → y_S → y_Re Unit
  | 0, _, _, S => .inl ((), S)
  | f + 1, p, k, S => y_bd (y_take ((tx.take (y_nxt tx (k + 1))).drop (k + 1)) S) (fun l S1 => y_args tx f (p + 1) (y_nxt tx (k + 1)) (y_sa S1 p (some l)))
def y_body (S : y_S) : List Int → List Int
  | [] => []
  | t :: r => (if 8193 ≤ t ∧ t < 8197 then ((y_a S (t - 8193).toNat).getD []) else [t]) ++ y_body S r
def y_call (q : List Int × List Int × Int) (S : y_S) : y_Re Unit := y_bd (y_match (q.1.take (y_nxt q.1 0)) S) (fun _ S1 =>
  y_bd (y_args q.1 q.2.2.toNat 0 (y_nxt q.1 0) S1) (fun _ S2 => y_puts (y_body S2 q.2.1).reverse S2))
def y_exb (ex : Int → y_S → y_Re Unit) (m : Int) (S : y_S) : y_Re Unit :=
  if m = 8 then y_after ex S else if m = 9 then y_mark S else if m = 10 then y_cs ex S else if m = 12 then y_str S
  else if 13 ≤ m ∧ m ≤ 16 then y_cond ex m S
  else if m = 17 then (if (y_l S 3).getLast? = some 1 then y_pass false 1000 0 S else y_ft S 1)
  else if m = 18 then (if (y_l S 3).getLast?.getD 0 ≤ 0 then y_ft S 1 else .inl ((), y_sl S 3 (y_l S 3).dropLast))
  else match y_mcr S m with
    | some q => y_call q S
    | none => .inl ((), S)
def y_ex : Nat → Int → y_S → y_Re Unit
  | 0, _, S => y_ft S 5
  | f + 1, m, S => if 200 ≤ y_s S 4 ∨ 30 ≤ y_s S 5 then y_ft S 5
    else y_bd (y_exb (y_ex f) m (y_ss (y_ss S 4 (y_s S 4 + 1)) 5 (y_s S 5 + 1))) (fun _ S1 => .inl ((), y_ss S1 5 (y_s S1 5 - 1)))
-- steps
def y_exc (m : Int) (S : y_S) : y_Re Unit :=
  if y_isex m then y_ex 31 m S
  else if y_isch m then (if m / 256 = 1 then y_group S else if m / 256 = 2 then y_close S else y_send m S)
  else if m = 1 then y_send 4096 S else if m = 2 then .inl ((), S)
  else if 3 ≤ m ∧ m ≤ 5 then y_def (y_ex 31) (y_getx (y_ex 31) 201) m S
  else if m = 6 then y_letc S else if m = 7 then y_catc S else if m = 11 then y_ft S 1 else y_ft S 2
/-- steps; whether the text has ended -/
def y_run : Nat → y_S → y_Re Bool
  | 0, S => .inl (false, S)
  | k + 1, S => y_bd (y_get false (y_ss (y_ss (y_ss S 2 (y_s S 2 + 1)) 4 0) 5 0)) (fun t S1 =>
      if t = -1 then .inl (true, y_ss S1 2 (y_s S1 2 - 1)) else y_bd (y_exc (y_mo S1 t) S1) (fun _ S2 => y_run k S2))
-- the start
def y_cat0 (c : Nat) : Int := if c = 92 then 0 else if c = 123 then 1 else if c = 125 then 2 else if c = 36 then 3 else if c = 38 then 4 else if c = 10 then 5 else if c = 35 then 6 else if c = 94 then 7 else if c = 95 then 8 else if c = 32 then 10 else if c = 126 then 13 else if c = 37 then 14 else if (97 ≤ c ∧ c ≤ 122) ∨ (65 ≤ c ∧ c ≤ 90) then 11 else 12
def y_cmds : List (List Int × Bool) := [([112, 97, 114], false), ([114, 101, 108, 97, 120], false), ([100, 101, 102], false), ([103, 100, 101, 102], false), ([101, 100, 101, 102], false), ([108, 101, 116], false), ([99, 97, 116, 99, 111, 100, 101], false), ([101, 120, 112, 97, 110, 100, 97, 102, 116, 101, 114], false), ([110, 111, 101, 120, 112, 97, 110, 100], false), ([99, 115, 110, 97, 109, 101], false), ([101, 110, 100, 99, 115, 110, 97, 109, 101], false), ([115, 116, 114, 105, 110, 103], false), ([105, 102], false), ([105, 102, 120], false), ([105, 102, 116, 114, 117, 101], false), ([105, 102, 102, 97, 108, 115, 101], false), ([101, 108, 115, 101], false), ([102, 105], false)]
def y_new (tx : List Int) : y_S := (fun i => if i = 0 then tx else [], fun _ => 0, y_cat0, fun k => if k < 18 then (k : Int) + 1 else 0, y_cmds, [], fun _ => none, none)
