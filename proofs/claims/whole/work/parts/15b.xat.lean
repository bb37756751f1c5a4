/-! an instruction of method j at pc, with what the tables tell of it; nothing where they don't tell enough -/
def sm_isw (i : Instr) : Bool := match i with
  | .tableswitch _ _ _ _ | .lookupswitch _ _ => true
  | _ => false
def sm_kd (n : Int) : Nat × Nat := if 0 ≤ n then (n.toNat, 0) else ((-n).toNat, 1)
def xlk (t : List (List (Nat × Nat × Nat))) (o x : Nat) : Option (Nat × Nat) := ((t.getD o []).find? (fun e => e.1 == x)).map (fun e => e.2)
def xfin (ci k : Nat) : Bool := match xcl[ci]? with
  | some q => (q.2.1 k).2.2.2
  | none => true
def xtg (pc : Nat) (o : Int) : Option (Nat × Nat) := if (pc : Int) + o = ((((pc : Int) + o).toNat : Nat) : Int) then some (((pc : Int) + o).toNat, 0) else none
def xif (c : Bool) (d : Option (Nat × Nat)) : Option (Nat × Nat) := if c = true then d else none
def xroom (j k : Nat) : Bool := decide (xrk k + 1 ≤ xrk j) && decide (8 + (xml k + 11) + xrl k ≤ xrl j)
def xrs (j pc : Nat) (i : Instr) : Option (Nat × Nat) := match i with
  | .iconst n => xif (decide (Int32.ofInt n = sm_k (sm_kd n))) (some (sm_kd n))
  | .bipush n => xif (decide ((Int8.ofInt n).toInt32 = sm_k (sm_kd n))) (some (sm_kd n))
  | .sipush n => xif (decide ((Int16.ofInt n).toInt32 = sm_k (sm_kd n))) (some (sm_kd n))
  | .iinc _ n => xif (decide (Int32.ofInt n = sm_k (sm_kd n))) (some (sm_kd n))
  | .goto o => xtg pc o
  | .if_icmp _ o => xtg pc o
  | .ifCond _ o => xtg pc o
  | .ifnull o => xtg pc o
  | .ifnonnull o => xtg pc o
  | .if_acmp _ o => xtg pc o
  | .getfield x => xlk xlF (xow j) x
  | .putfield x => match xlk xlF (xow j) x with
    | some d => xif (!(xfin d.1 (d.2 / 2)) || (decide (xkd j = 2) && decide (d.2 % 2 = 0) && decide (d.1 = xow j))) (some d)
    | none => none
  | .new x => match xlk xlC (xow j) x with
    | some d => xif (decide (d.2 = 0) || (xtf j pc).isSome) (some d)
    | none => none
  | .newarray t => xif (decide (sm_nt t ≠ 0)) (some (0, 0))
  | .checkcast x => xlk xlC (xow j) x
  | .anewarray x => xlk xlA (xow j) x
  | .ldc x => xlk xlN (xow j) x
  | .ldc2_w x => xlk xlJ (xow j) x
  | .getstatic x => xlk xlS (xow j) x
  | .invokevirtual x => match xlk xlM (xow j) x with
    | some d => xif (decide (d.2 < 2) && decide (xkd d.1 = 0) && xroom j d.1) (some d)
    | none => none
  | .invokestatic x => match xlk xlM (xow j) x with
    | some d => xif ((decide (d.2 < 2) && decide (xkd d.1 = 1) && xroom j d.1) || (decide (d.2 = 3) && decide (xkd d.1 = 4) && xroom j d.1) || ((decide (d.2 = 4) || decide (d.2 = 5)) && decide (1 ≤ xrk j) && decide (21 ≤ xrl j)) || (decide (d.2 = 6) && decide (3 ≤ xrk j) && decide (85 ≤ xrl j))) (some d)
    | none => none
  | .invokespecial x => match xlk xlM (xow j) x with
    | some d => xif ((decide (d.2 = 2) && decide (1 ≤ xrk j) && decide (20 ≤ xrl j)) || (decide (d.2 < 2) && decide (xkd d.1 = 2) && xroom j d.1)) (some d)
    | none => none
  | _ => some (0, 0)
def xat (j pc : Nat) : Option (Instr × Nat × Nat) := match decode (xcc j) pc with
  | .ok (i, len) => if sm_isw i = true ∨ len = sm_len i then (match xrs j pc i with
    | some d => some (i, d)
    | none => none) else none
  | _ => none
