def lw_g : List Cond := lw_tbl.filter goodWord
theorem lw_g_in {w : Cond} (h : w ∈ lw_g) : w ∈ lw_tbl := (List.mem_filter.mp h).1
def jplain (t : FieldType) : Bool := match t with
  | .float => false | .double => false | _ => true
theorem lw_g_good {w : Cond} (h : w ∈ lw_g) : goodWord w = true := (List.mem_filter.mp h).2
/-- what a callee's own words are: its code, that its class is ready, how many parameters it has -/
def jCal (y2 : MethodName) (cc2 : ByteArray) (nL2 : Nat) (rT2 : Option FieldType) (n : Nat) : Prop := Cond.code y2 cc2 nL2 rT2 ∈ lw_g ∧ Cond.initialized y2.cls ∈ lw_g ∧ (y2.cls ≠ "java/lang/invoke/MethodHandle" ∧ y2.cls ≠ "java/lang/invoke/VarHandle" ∧ (parseMethodDescriptor y2.desc).map (fun d => d.parameters.length) = some n) ∧ nL2 ≤ 45
