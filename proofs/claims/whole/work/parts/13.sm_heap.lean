/-! THE HEAP of the small machine: where the next cell comes; how many slots; of an address its kind (0 nothing, 1 .. 15 an array, 16 + ci an object of class ci), its length, fields (number 128 * ci + k), elements; where the JDK's empty array lies -/
abbrev sm_H : Type := Nat × Nat × (Nat → Nat) × (Nat → Nat) × (Nat → Nat → Value) × (Nat → Nat → Value) × Nat
def hT (h : sm_H) : Nat := h.1
def hU (h : sm_H) : Nat := h.2.1
def hC (h : sm_H) (a : Nat) : Nat := h.2.2.1 a
def hL (h : sm_H) (a : Nat) : Nat := h.2.2.2.1 a
def hF (h : sm_H) (f a : Nat) : Value := h.2.2.2.2.1 f a
def hA (h : sm_H) (a i : Nat) : Value := h.2.2.2.2.2.1 a i
def hZ (h : sm_H) : Nat := h.2.2.2.2.2.2
def putF (h : sm_H) (f a : Nat) (v : Value) : sm_H := (hT h, hU h, hC h, hL h, fun g b => if g = f ∧ b = a then v else hF h g b, hA h, hZ h)
def putA (h : sm_H) (a i : Nat) (v : Value) : sm_H := (hT h, hU h, hC h, hL h, hF h, fun b j => if b = a ∧ j = i then v else hA h b j, hZ h)
def newO (h : sm_H) (ci n : Nat) (dv : Nat → Value) : sm_H := (hT h + 1, hU h + n, fun b => if b = hT h then 16 + ci else hC h b, hL h, fun g b => if b = hT h then dv g else hF h g b, hA h, hZ h)
def newA (h : sm_H) (t n : Nat) (dv : Value) : sm_H := (hT h + 1, hU h + n, fun b => if b = hT h then t else hC h b, fun b => if b = hT h then n else hL h b, hF h, fun b j => if b = hT h then dv else hA h b j, hZ h)
abbrev sm_in (i : Int32) (n : Nat) : Prop := ¬ i < 0 ∧ i.toNatClampNeg < n
/-- the component type of an array's kind -/
def sm_ty (t : Nat) : Option FieldType := match t with
  | 1 => some .int
  | 2 => some .long
  | 3 => some .char
  | 4 => some .byte
  | 5 => some .boolean
  | 7 => some (.object "java/lang/Object")
  | 14 => some (.object "java/lang/Object")
  | 15 => some .int
  | _ => none
def sm_nt (t : ArrayType) : Nat := match t with
  | .int => 1
  | .long => 2
  | .char => 3
  | .byte => 4
  | .boolean => 5
  | _ => 0
def sm_gf (ci k : Nat) (S : List Value) (h : sm_H) : Option (List Value × sm_H) := match S with
  | .ref a :: r => if hC h a = 16 + ci then some (hF h (128 * ci + k) a :: r, h) else none
  | _ => none
def sm_pf (ci k : Nat) (S : List Value) (h : sm_H) : Option (List Value × sm_H) := match S with
  | v :: .ref a :: r => if hC h a = 16 + ci ∧ narrow (xty ci k) v = v ∧ fits (xty ci k) v = true then some (r, putF h (128 * ci + k) a v) else none
  | _ => none
def sm_nw (ci : Nat) (S : List Value) (h : sm_H) : Option (List Value × sm_H) := match xcl[ci]? with
  | some q => some (.ref (hT h) :: S, newO h ci q.2.2 (fun g => defaultValue (xty ci (g - 128 * ci))))
  | none => none
def sm_na (t : ArrayType) (S : List Value) (h : sm_H) : Option (List Value × sm_H) := match S with
  | .int n :: r => if ¬ n < 0 ∧ n.toNatClampNeg * componentBytes (newarray.typeOf t) ≤ 536870912 ∧ sm_nt t ≠ 0 then some (.ref (hT h) :: r, newA h (sm_nt t) n.toNatClampNeg (defaultValue (newarray.typeOf t))) else none
  | _ => none
def sm_an (S : List Value) (h : sm_H) : Option (List Value × sm_H) := match S with
  | .int n :: r => if ¬ n < 0 ∧ n.toNatClampNeg * 4 ≤ 536870912 then some (.ref (hT h) :: r, newA h 7 n.toNatClampNeg .null) else none
  | _ => none
def sm_le (S : List Value) (h : sm_H) : Option (List Value × sm_H) := match S with
  | .ref a :: r => if (sm_ty (hC h a)).isSome = true then some (.int (nI (hL h a)) :: r, h) else none
  | _ => none
/-- a load out of an array whose component type is ty -/
def sm_al (ty : FieldType) (S : List Value) (h : sm_H) : Option (List Value × sm_H) := match S with
  | .int i :: .ref a :: r => if sm_ty (hC h a) = some ty ∧ sm_in i (hL h a) then some (hA h a i.toNatClampNeg :: r, h) else none
  | _ => none
def sm_ai (S : List Value) (h : sm_H) : Option (List Value × sm_H) := match S with
  | .int x :: .int i :: .ref a :: r => if hC h a = 1 ∧ sm_in i (hL h a) then some (r, putA h a i.toNatClampNeg (.int x)) else none
  | _ => none
def sm_aj (S : List Value) (h : sm_H) : Option (List Value × sm_H) := match S with
  | .long x :: .int i :: .ref a :: r => if hC h a = 2 ∧ sm_in i (hL h a) then some (r, putA h a i.toNatClampNeg (.long x)) else none
  | _ => none
def sm_ac (S : List Value) (h : sm_H) : Option (List Value × sm_H) := match S with
  | .int x :: .int i :: .ref a :: r => if hC h a = 3 ∧ sm_in i (hL h a) then some (r, putA h a i.toNatClampNeg (narrow .char (.int x))) else none
  | _ => none
def sm_ab (S : List Value) (h : sm_H) : Option (List Value × sm_H) := match S with
  | .int x :: .int i :: .ref a :: r => if hC h a = 4 ∧ sm_in i (hL h a) then some (r, putA h a i.toNatClampNeg (narrow .byte (.int x))) else (if hC h a = 5 ∧ sm_in i (hL h a) then some (r, putA h a i.toNatClampNeg (narrow .boolean (.int x))) else none)
  | _ => none
def sm_bl2 (S : List Value) (h : sm_H) : Option (List Value × sm_H) := match S with
  | .int i :: .ref a :: r => if (hC h a = 4 ∨ hC h a = 5) ∧ sm_in i (hL h a) then some (hA h a i.toNatClampNeg :: r, h) else none
  | _ => none
def sm_aa (S : List Value) (h : sm_H) : Option (List Value × sm_H) := match S with
  | .ref v :: .int i :: .ref a :: r => if hC h a = 7 ∧ sm_in i (hL h a) ∧ 16 ≤ hC h v ∧ hC h v < 16 + xob then some (r, putA h a i.toNatClampNeg (.ref v)) else none
  | .null :: .int i :: .ref a :: r => if hC h a = 7 ∧ sm_in i (hL h a) then some (r, putA h a i.toNatClampNeg .null) else none
  | _ => none
def sm_cc (ci : Nat) (S : List Value) (h : sm_H) : Option (List Value × sm_H) := match S with
  | .null :: r => some (.null :: r, h)
  | .ref a :: r => if hC h a = 16 + ci then some (.ref a :: r, h) else none
  | _ => none
/-- the instructions that read or write the heap -/
noncomputable def sm_hp (i : Instr) (d : Nat × Nat) (S : List Value) (h : sm_H) : Option (List Value × sm_H) := match i with
  | .getfield _ => sm_gf d.1 (d.2 / 2) S h
  | .putfield _ => sm_pf d.1 (d.2 / 2) S h
  | .new _ => if d.2 = 0 then sm_nw d.1 S h else none
  | .newarray t => sm_na t S h
  | .arraylength => sm_le S h
  | .iaload => sm_al .int S h
  | .laload => sm_al .long S h
  | .caload => sm_al .char S h
  | .baload => sm_bl2 S h
  | .iastore => sm_ai S h
  | .lastore => sm_aj S h
  | .castore => sm_ac S h
  | .bastore => sm_ab S h
  | .checkcast _ => sm_cc d.1 S h
  | .anewarray _ => sm_an S h
  | .aaload => sm_al (.object "java/lang/Object") S h
  | .aastore => sm_aa S h
  | .ldc _ => some (.int (sm_k d) :: S, h)
  | .ldc2_w _ => some (.long (lN d.1) :: S, h)
  | .getstatic _ => some (.ref (hZ h) :: S, h)
  | _ => none
