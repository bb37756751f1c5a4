/-! the words: which lie in the table, where -/
def Tg : List Cond := lw_tbl.filter goodWord
def sm_isnw (w : Cond) : Bool := match w with
  | .fieldLinkNest .. | .methodLinkNest .. | .castable .. | .declares _ | .arrayOver (.object _) => true
  | _ => false
def NW : List Cond := lw_tbl.filter sm_isnw
theorem tg {w : Cond} (i : Nat) (h : tables_1[i]? = some w) (g : goodWord w = true) : w ∈ Tg := List.mem_filter.mpr ⟨List.mem_append_right _ (List.mem_of_getElem? h), g⟩
theorem tn {w : Cond} (i : Nat) (h : tables_1[i]? = some w) (g : sm_isnw w = true) : w ∈ NW := List.mem_filter.mpr ⟨List.mem_append_right _ (List.mem_of_getElem? h), g⟩
theorem tp {y : MethodName} {n : Nat} (i : Nat) (h : lw_privs[i]? = some (y, n)) (g : goodWord (Cond.selects y.cls y y) = true) : Cond.selects y.cls y y ∈ Tg := List.mem_filter.mpr ⟨List.mem_append_left _ (List.mem_map.mpr ⟨(y, n), List.mem_of_getElem? h, rfl⟩), g⟩
