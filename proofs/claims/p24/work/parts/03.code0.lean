/-! the words that hold at every state: the good ones of the law's tables; the links to nest mates' members -/
def cw_T : List Cond := lw_tbl.filter goodWord
def cw_isN (w : Cond) : Bool := match w with
  | .fieldLinkNest _ _ _ _ _ _ => true
  | .methodLinkNest _ _ _ _ => true
  | _ => false
def cw_N : List Cond := lw_tbl.filter cw_isN
theorem cw_in1 {w : Cond} (i : Nat) (h : tables_1_1[i]? = some w) (g : goodWord w = true) : w ∈ cw_T := List.mem_filter.mpr ⟨List.mem_append_right _ (List.mem_append_left _ (List.mem_of_getElem? h)), g⟩
theorem cw_in2 {w : Cond} (i : Nat) (h : tables_1_2[i]? = some w) (g : goodWord w = true) : w ∈ cw_T := List.mem_filter.mpr ⟨List.mem_append_right _ (List.mem_append_right _ (List.mem_of_getElem? h)), g⟩
theorem cw_ins {w : Cond} (i : Nat) (h : (k2_sels lw_privs)[i]? = some w) (g : goodWord w = true) : w ∈ cw_T := List.mem_filter.mpr ⟨List.mem_append_left _ (List.mem_of_getElem? h), g⟩
theorem cw_nn1 {w : Cond} (i : Nat) (h : tables_1_1[i]? = some w) (g : cw_isN w = true) : w ∈ cw_N := List.mem_filter.mpr ⟨List.mem_append_right _ (List.mem_append_left _ (List.mem_of_getElem? h)), g⟩
theorem cw_nn2 {w : Cond} (i : Nat) (h : tables_1_2[i]? = some w) (g : cw_isN w = true) : w ∈ cw_N := List.mem_filter.mpr ⟨List.mem_append_right _ (List.mem_append_right _ (List.mem_of_getElem? h)), g⟩
theorem cw_TT : GoodIn cw_T cw_T := fun w h => ⟨h, good_of_word (List.mem_filter.mp h).2⟩
/-- a small number as the machine holds it -/
def cw_n (k : Int) : Int32 := match k with
  | .ofNat n => nI n
  | .negSucc n => -nI (n + 1)
/-- a pushed constant fits its instruction -/
def cw_lit (i : ClassFile.Instr) : Bool := match i with
  | .iconst k => Int32.ofInt k == cw_n k
  | .bipush k => (Int8.ofInt k).toInt32 == cw_n k
  | .sipush k => (Int16.ofInt k).toInt32 == cw_n k
  | .iinc _ k => Int32.ofInt k == cw_n k
  | _ => true
/-- a method: name, code, locals, answer, class, arguments, frames, its instructions -/
abbrev cw_I : Type := MethodName × ByteArray × Nat × Option FieldType × Nat × Nat × Nat × List (Nat × (ClassFile.Instr × Nat))
def cw_own : Nat → String
  | 0 => RX0
  | 1 => RX1
  | 2 => RX2
  | 3 => RJ9
  | 4 => RL
  | 5 => RJ6
  | _ => RJ9
def cw_okI (i : cw_I) : Prop := (∀ q ∈ i.2.2.2.2.2.2.2, decode i.2.1 q.1 = .ok q.2) ∧ (∀ q ∈ i.2.2.2.2.2.2.2, cw_lit q.2.1 = true) ∧ Cond.code i.1 i.2.1 i.2.2.1 i.2.2.2.1 ∈ cw_T ∧ Cond.initialized i.1.cls ∈ cw_T ∧ i.1.cls = cw_own i.2.2.2.2.1 ∧ plainName i.1.cls = true ∧ i.1.cls ≠ "java/lang/invoke/MethodHandle" ∧ i.1.cls ≠ "java/lang/invoke/VarHandle" ∧ (parseMethodDescriptor i.1.desc).map (fun d => d.parameters.length) = some i.2.2.2.2.2.1 ∧ i.2.2.1 ≤ 16
/-- its instructions are what its bytes say -/
def cw_okD (i : cw_I) : Prop := (∀ q ∈ i.2.2.2.2.2.2.2, decode i.2.1 q.1 = .ok q.2) ∧ (∀ q ∈ i.2.2.2.2.2.2.2, cw_lit q.2.1 = true) ∧ True
