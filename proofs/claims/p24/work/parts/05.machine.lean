/-! THE ABSTRACT MACHINE: objects and rows in a list, a reference is a place in it; what it does, the machine does -/
abbrev cw_E : Type := (Nat × vp_A) ⊕ (Nat × List Value)
abbrev cw_H : Type := List cw_E
abbrev cw_LV : Type := List (Nat × Value)
abbrev cw_b (i : cw_I) : ByteArray := i.2.1
abbrev cw_nL (i : cw_I) : Nat := i.2.2.1
abbrev cw_r (i : cw_I) : Option FieldType := i.2.2.2.1
abbrev cw_c (i : cw_I) : Nat := i.2.2.2.2.1
abbrev cw_na (i : cw_I) : Nat := i.2.2.2.2.2.1
abbrev cw_f (i : cw_I) : Nat := i.2.2.2.2.2.2.1
abbrev cw_tb (i : cw_I) : List (Nat × (ClassFile.Instr × Nat)) := i.2.2.2.2.2.2.2
def cw_v (ad : Nat → Nat) (v : Value) : Value := match v with
  | .ref k => .ref (ad k)
  | v => v
def cw_a (ad : Nat → Nat) (x : vp_A) : vp_A := match x with
  | (n, .inr (.inr (.inr (.inr f)))) => (n, .inr (.inr (.inr (.inr (fun j => (f j).map ad)))))
  | y => y
def cw_e (cA : Nat → ClassId) (ad : Nat → Nat) (q : cw_E) : va_E := match q with
  | .inl a => .inl (cA a.1, cw_a ad a.2)
  | .inr o => .inr (o.1, o.2.map (cw_v ad))
def cw_w (cA : Nat → ClassId) (ad : Nat → Nat) (h : cw_H) : va_W := h.mapIdx (fun k q => (ad k, cw_e cA ad q))
def cw_tys (cA : Nat → ClassId) : List (ClassId × FieldType) := [(cA 0, .int), (cA 1, .char), (cA 2, .object RX1)]
def cw_K (D : va_G) (cA : Nat → ClassId) (U : State) : Prop := va_K D vwCl (cw_tys cA) U ∧ va_AO RX1 U ∧ ∀ w ∈ cw_N, va_Nw w U
def cw_L (ad : Nat → Nat) (lv : cw_LV) : cw_LV := lv.map (fun q => (q.1, cw_v ad q.2))
theorem cw_cat (ad : Nat → Nat) (v : Value) : (cw_v ad v).category = v.category := by cases v <;> rfl
theorem cw_cats (ad : Nat → Nat) (l : List Value) : ((l.map (cw_v ad)).map fun v => v.category) = l.map fun v => v.category := by
  induction l with
  | nil => rfl
  | cons a l ih => simp only [List.map_cons, cw_cat, ih]
theorem cw_w_get {cA : Nat → ClassId} {ad : Nat → Nat} {h : cw_H} {k : Nat} {q : cw_E} (e : h[k]? = some q) : (cw_w cA ad h)[k]? = some (ad k, cw_e cA ad q) := by
  simp [cw_w, List.getElem?_mapIdx, e]
theorem cw_w_inv {cA : Nat → ClassId} {ad : Nat → Nat} {h : cw_H} {k : Nat} {x : Nat × va_E} (e : (cw_w cA ad h)[k]? = some x) : ∃ q, h[k]? = some q ∧ x = (ad k, cw_e cA ad q) := by
  simp only [cw_w, List.getElem?_mapIdx, Option.map_eq_some_iff] at e
  obtain ⟨q, h1, h2⟩ := e
  exact ⟨q, h1, h2.symm⟩
theorem cw_w_set (cA : Nat → ClassId) (ad : Nat → Nat) (h : cw_H) (k : Nat) (q : cw_E) : cw_w cA ad (h.set k q) = (cw_w cA ad h).set k (ad k, cw_e cA ad q) := by
  apply List.ext_getElem?
  intro j
  simp only [cw_w, List.getElem?_mapIdx, List.getElem?_set, List.length_mapIdx]
  by_cases hj : k = j
  · subst hj
    by_cases hl : k < h.length <;> simp [hl]
  · simp [hj]
theorem cw_K.warm {D : va_G} {cA : Nat → ClassId} {s U : State} (hW : s.WarmedH U.vm) (h : cw_K D cA s) : cw_K D cA U := by
  refine ⟨va_K.moved hW.alike h.1, va_AO.moved hW.alike h.2.1, fun w hw => ?_⟩
  have h1 := h.2.2 w hw
  have h2 := (List.mem_filter.mp hw).2
  unfold cw_isN at h2
  split at h2
  · exact va_Nw.warmF hW h1
  · exact va_Nw.warmM hW h1
  · cases h2
theorem cw_K.calling {D : va_G} {cA : Nat → ClassId} {U : State} (h : cw_K D cA U) (g : JFrame) (mk : MethodId) (a : Array Value) : cw_K D cA (U.calling g mk a) := by
  refine ⟨va_K.moved (u := U) (U := U.calling g mk a) (Vm.Alike.refl U.vm) h.1, va_AO.moved (u := U) (U := U.calling g mk a) (Vm.Alike.refl U.vm) h.2.1, fun w hw => ?_⟩
  have h1 := h.2.2 w hw
  have h2 := (List.mem_filter.mp hw).2
  unfold cw_isN at h2
  split at h2
  · exact va_Nw.same rfl rfl h1
  · exact va_Nw.same rfl rfl h1
  · cases h2
def cw_put1 (lv : cw_LV) (i : Nat) (v : Value) : cw_LV := (i, v) :: lv.filter (fun q => !(q.1 == i) && !(q.1 + 1 == i && q.2.category == 2))
def cw_put2 (lv : cw_LV) (i : Nat) (v : Value) : cw_LV := (i, v) :: lv.filter (fun q => !(q.1 == i) && (!(q.1 == i + 1) && !(q.1 + 1 == i && q.2.category == 2)))
theorem cw_put1_map (ad : Nat → Nat) (lv : cw_LV) (i : Nat) (v : Value) : (i, cw_v ad v) :: (cw_L ad lv).filter (fun q => !(q.1 == i) && !(q.1 + 1 == i && q.2.category == 2)) = cw_L ad (cw_put1 lv i v) := by
  simp only [cw_L, cw_put1, List.map_cons, List.filter_map]
  congr 2
  apply List.filter_congr
  intro q _
  simp only [Function.comp, cw_cat]
theorem cw_put2_map (ad : Nat → Nat) (lv : cw_LV) (i : Nat) (v : Value) : (i, cw_v ad v) :: (cw_L ad lv).filter (fun q => !(q.1 == i) && (!(q.1 == i + 1) && !(q.1 + 1 == i && q.2.category == 2))) = cw_L ad (cw_put2 lv i v) := by
  simp only [cw_L, cw_put2, List.map_cons, List.filter_map]
  congr 2
  apply List.filter_congr
  intro q _
  simp only [Function.comp, cw_cat]
theorem cw_L_at {ls : Array Slot} {nL : Nat} {ad : Nat → Nat} {lv : cw_LV} {i : Nat} {v : Value} (hl : lv_has ls nL (cw_L ad lv)) (h : cw_look lv i = some v) : ls[i]? = some (.val (cw_v ad v)) :=
  hl.2.2 (i, cw_v ad v) (List.mem_map.mpr ⟨(i, v), cw_look_mem h, rfl⟩)
/-- the instructions that touch neither heap nor other methods: their length, the locals, the stack behind them -/
def cw_pure (c nL : Nat) (i : ClassFile.Instr) (lv : cw_LV) (st : List Value) : Option (Nat × cw_LV × List Value) := match i with
  | .iconst k => some (1, lv, .int (cw_n k) :: st)
  | .bipush k => some (2, lv, .int (cw_n k) :: st)
  | .sipush k => some (3, lv, .int (cw_n k) :: st)
  | .lconst k => some (1, lv, .long (Int64.ofNat k.val) :: st)
  | .ldc idx => match cw_look (cw_csts c) idx with
    | some v => some (2, lv, .int v :: st)
    | none => none
  | .ldc_w idx => match cw_look (cw_csts c) idx with
    | some v => some (3, lv, .int v :: st)
    | none => none
  | .ldc2_w idx => match cw_look (cw_cstL c) idx with
    | some v => some (3, lv, .long v :: st)
    | none => none
  | .iload_n k => match cw_look lv k.val with
    | some (.int x) => some (1, lv, .int x :: st)
    | _ => none
  | .iload k => match cw_look lv k with
    | some (.int x) => some (2, lv, .int x :: st)
    | _ => none
  | .lload_n k => match cw_look lv k.val with
    | some (.long x) => some (1, lv, .long x :: st)
    | _ => none
  | .lload k => match cw_look lv k with
    | some (.long x) => some (2, lv, .long x :: st)
    | _ => none
  | .aload_n k => match cw_look lv k.val with
    | some (.ref x) => some (1, lv, .ref x :: st)
    | _ => none
  | .aload k => match cw_look lv k with
    | some (.ref x) => some (2, lv, .ref x :: st)
    | _ => none
  | .istore_n k => match Nat.blt k.val nL, st with
    | true, .int x :: r => some (1, cw_put1 lv k.val (.int x), r)
    | _, _ => none
  | .istore k => match Nat.blt k nL, st with
    | true, .int x :: r => some (2, cw_put1 lv k (.int x), r)
    | _, _ => none
  | .lstore_n k => match Nat.blt (k.val + 1) nL, st with
    | true, .long x :: r => some (1, cw_put2 lv k.val (.long x), r)
    | _, _ => none
  | .lstore k => match Nat.blt (k + 1) nL, st with
    | true, .long x :: r => some (2, cw_put2 lv k (.long x), r)
    | _, _ => none
  | .astore_n k => match Nat.blt k.val nL, st with
    | true, .ref x :: r => some (1, cw_put1 lv k.val (.ref x), r)
    | true, .null :: r => some (1, cw_put1 lv k.val .null, r)
    | _, _ => none
  | .astore k => match Nat.blt k nL, st with
    | true, .ref x :: r => some (2, cw_put1 lv k (.ref x), r)
    | _, _ => none
  | .iinc k n => match Nat.blt k nL, cw_look lv k with
    | true, some (.int x) => some (3, cw_put1 lv k (.int (x + cw_n n)), st)
    | _, _ => none
  | .iadd => match st with
    | .int y :: .int x :: r => some (1, lv, .int (x + y) :: r)
    | _ => none
  | .isub => match st with
    | .int y :: .int x :: r => some (1, lv, .int (x - y) :: r)
    | _ => none
  | .imul => match st with
    | .int y :: .int x :: r => some (1, lv, .int (x * y) :: r)
    | _ => none
  | .iand => match st with
    | .int y :: .int x :: r => some (1, lv, .int (x &&& y) :: r)
    | _ => none
  | .ior => match st with
    | .int y :: .int x :: r => some (1, lv, .int (x ||| y) :: r)
    | _ => none
  | .ixor => match st with
    | .int y :: .int x :: r => some (1, lv, .int (x ^^^ y) :: r)
    | _ => none
  | .ishl => match st with
    | .int y :: .int x :: r => some (1, lv, .int (x <<< (y &&& 31)) :: r)
    | _ => none
  | .ishr => match st with
    | .int y :: .int x :: r => some (1, lv, .int (x >>> (y &&& 31)) :: r)
    | _ => none
  | .iushr => match st with
    | .int y :: .int x :: r => some (1, lv, .int (x.toUInt32 >>> (y.toUInt32 &&& Int32.toUInt32 31)).toInt32 :: r)
    | _ => none
  | .land => match st with
    | .long y :: .long x :: r => some (1, lv, .long (x &&& y) :: r)
    | _ => none
  | .lor => match st with
    | .long y :: .long x :: r => some (1, lv, .long (x ||| y) :: r)
    | _ => none
  | .lshl => match st with
    | .int y :: .long x :: r => some (1, lv, .long (x <<< (y.toInt64 &&& 63)) :: r)
    | _ => none
  | .lushr => match st with
    | .int y :: .long x :: r => some (1, lv, .long (x.toUInt64 >>> (y.toInt64.toUInt64 &&& Int64.toUInt64 63)).toInt64 :: r)
    | _ => none
  | .lcmp => match st with
    | .long y :: .long x :: r => some (1, lv, .int (lg_cmp x y) :: r)
    | _ => none
  | .i2l => match st with
    | .int x :: r => some (1, lv, .long x.toInt64 :: r)
    | _ => none
  | .l2i => match st with
    | .long x :: r => some (1, lv, .int x.toInt32 :: r)
    | _ => none
  | .i2c => match st with
    | .int x :: r => some (1, lv, .int (x.toUInt32 % 65536).toInt32 :: r)
    | _ => none
  | .dup => match st with
    | v :: r => match Nat.beq v.category 1 with
      | true => some (1, lv, v :: v :: r)
      | false => none
    | _ => none
  | .pop => match st with
    | v :: r => match Nat.beq v.category 1 with
      | true => some (1, lv, r)
      | false => none
    | _ => none
  | .dup_x2 => match st with
    | v :: w :: u :: r => match Nat.beq v.category 1, Nat.beq w.category 1, Nat.beq u.category 1 with
      | true, true, true => some (1, lv, v :: w :: u :: v :: r)
      | _, _, _ => none
    | _ => none
  | .dup2 => match st with
    | v :: w :: r => match Nat.beq v.category 1, Nat.beq w.category 1 with
      | true, true => some (1, lv, v :: w :: v :: w :: r)
      | _, _ => none
    | _ => none
  | _ => none
section CWP
variable {p : Program} {l : Launch} {e : Env} {R : Room} {s : State} {m : MethodId} {args : Array Value} {below : List Frame} {meth : Method} {c : Code} {H : Heap} {locs : List Loc} {cells slots : Nat} {Q : State → Prop}
set_option maxHeartbeats 4000000 in
theorem cw_pure_ok {cc : ByteArray} {cn nL pc n : Nat} {ad : Nat → Nat} {ls : Array Slot} {lv lv' : cw_LV} {st st' : List Value} {i : ClassFile.Instr} (hx : p.tables.exec = Jvm.exec) (hb : c.code = cc) (hts : ∀ w ∈ cw_T, w.before args s = true) (hown : s.vm.findClass (cw_own cn) = some m.cls)
    (hd : decode cc pc = .ok (i, n)) (hlit : cw_lit i = true) (hp : cw_pure cn nL i lv st = some (n, lv', st')) (hl : lv_has ls nL (cw_L ad lv))
    (kk : ∀ ls' : Array Slot, lv_has ls' nL (cw_L ad lv') → W p l e R s m args below meth c H locs cells slots Q (F0 m (pc + n) ls' (st'.map (cw_v ad)))) : W p l e R s m args below meth c H locs cells slots Q (F0 m pc ls (st.map (cw_v ad))) := by
  unfold cw_pure at hp
  split at hp
  · cases hp; exact lv_iconst hx hb hd (by simpa [cw_lit] using hlit) (kk _ hl)
  · cases hp; exact lv_bipush hx hb hd (by simpa [cw_lit] using hlit) (kk _ hl)
  · cases hp; exact lv_sipush hx hb hd (by simpa [cw_lit] using hlit) (kk _ hl)
  · cases hp; exact lv_lconst hx hb hd rfl (kk _ hl)
  · split at hp
    · rename_i e1; cases hp; exact lv_ldc hx hb hown (hts _ (cw_cok _ _ (cw_look_mem e1))) hd (kk _ hl)
    · cases hp
  · split at hp
    · rename_i e1; cases hp; exact lv_ldcw hx hb hown (hts _ (cw_cok _ _ (cw_look_mem e1))) hd (kk _ hl)
    · cases hp
  · split at hp
    · rename_i e1; cases hp; exact lv_ldc2 hx hb hown (hts _ (cw_cokL _ _ (cw_look_mem e1))) hd (kk _ hl)
    · cases hp
  · split at hp
    · rename_i e1; cases hp; exact lv_iload_n hx hb hd rfl (cw_L_at hl e1) (kk _ hl)
    · cases hp
  · split at hp
    · rename_i e1; cases hp; exact lv_iload hx hb hd (cw_L_at hl e1) (kk _ hl)
    · cases hp
  · split at hp
    · rename_i e1; cases hp; exact lv_lload_n hx hb hd rfl (cw_L_at hl e1) (kk _ hl)
    · cases hp
  · split at hp
    · rename_i e1; cases hp; exact lv_lload hx hb hd (cw_L_at hl e1) (kk _ hl)
    · cases hp
  · split at hp
    · rename_i e1; cases hp; exact lv_aload_n hx hb hd rfl (cw_L_at hl e1) (kk _ hl)
    · cases hp
  · split at hp
    · rename_i e1; cases hp; exact lv_aload hx hb hd (cw_L_at hl e1) (kk _ hl)
    · cases hp
  · split at hp
    · rename_i e1; cases hp; exact lv_istore_n hx hb hd rfl hl (Nat.le_of_ble_eq_true e1) (cw_put1_map ad lv _ (.int _)) kk
    · cases hp
  · split at hp
    · rename_i e1; cases hp; exact lv_istore hx hb hd hl (Nat.le_of_ble_eq_true e1) (cw_put1_map ad lv _ (.int _)) kk
    · cases hp
  · split at hp
    · rename_i e1; cases hp; exact lv_lstore_n hx hb hd rfl hl (Nat.le_of_ble_eq_true e1) (cw_put2_map ad lv _ (.long _)) kk
    · cases hp
  · split at hp
    · rename_i e1; cases hp; exact lv_lstore hx hb hd hl (Nat.le_of_ble_eq_true e1) (cw_put2_map ad lv _ (.long _)) kk
    · cases hp
  · split at hp
    · rename_i e1; cases hp; exact lv_astore_n hx hb hd rfl hl (Nat.le_of_ble_eq_true e1) (cw_put1_map ad lv _ (.ref _)) kk
    · rename_i e1; cases hp; exact lv_astore_nN hx hb hd rfl hl (Nat.le_of_ble_eq_true e1) (cw_put1_map ad lv _ .null) kk
    · cases hp
  · split at hp
    · rename_i e1; cases hp; exact lv_astore hx hb hd hl (Nat.le_of_ble_eq_true e1) (cw_put1_map ad lv _ (.ref _)) kk
    · cases hp
  · split at hp
    · rename_i k' n' _ _ x' e1 e2
      cases hp
      have hm : (k', Value.int x') ∈ cw_L ad lv := List.mem_map.mpr ⟨(k', .int x'), cw_look_mem e2, rfl⟩
      obtain ⟨j, hj⟩ := List.mem_iff_getElem?.mp hm
      exact lv_iinc hx hb hd hl hj (by rw [show Int32.ofInt n' = cw_n n' by simpa [cw_lit] using hlit]) (Nat.le_of_ble_eq_true e1) (cw_put1_map ad lv _ (.int _)) kk
    · cases hp
  · split at hp
    · cases hp; exact lv_iadd hx hb hd (kk _ hl)
    · cases hp
  · split at hp
    · cases hp; exact lv_isub hx hb hd (kk _ hl)
    · cases hp
  · split at hp
    · cases hp; exact lv_imul hx hb hd (kk _ hl)
    · cases hp
  · split at hp
    · cases hp; exact lv_iand hx hb hd (kk _ hl)
    · cases hp
  · split at hp
    · cases hp; exact lv_ior hx hb hd (kk _ hl)
    · cases hp
  · split at hp
    · cases hp; exact lv_ixor hx hb hd (kk _ hl)
    · cases hp
  · split at hp
    · cases hp; exact lv_ishl hx hb hd (kk _ hl)
    · cases hp
  · split at hp
    · cases hp; exact lv_ishr hx hb hd (kk _ hl)
    · cases hp
  · split at hp
    · cases hp; exact lv_iushr hx hb hd rfl (kk _ hl)
    · cases hp
  · split at hp
    · cases hp; exact lv_land hx hb hd (kk _ hl)
    · cases hp
  · split at hp
    · cases hp; exact lv_lor hx hb hd (kk _ hl)
    · cases hp
  · split at hp
    · cases hp; exact lv_lshl hx hb hd rfl (kk _ hl)
    · cases hp
  · split at hp
    · cases hp; exact lv_lushr hx hb hd rfl (kk _ hl)
    · cases hp
  · split at hp
    · cases hp; exact W.lcmp hx hb hd (kk _ hl)
    · cases hp
  · split at hp
    · cases hp; exact lv_i2l hx hb hd rfl (kk _ hl)
    · cases hp
  · split at hp
    · cases hp; exact lv_l2i hx hb hd rfl (kk _ hl)
    · cases hp
  · split at hp
    · cases hp; exact lv_i2c hx hb hd rfl (kk _ hl)
    · cases hp
  · split at hp
    · split at hp
      · rename_i e1; cases hp; exact lv_dup hx hb hd (by rw [cw_cat]; exact Nat.eq_of_beq_eq_true e1) (kk _ hl)
      · cases hp
    · cases hp
  · split at hp
    · split at hp
      · rename_i e1; cases hp; exact lv_pop hx hb hd (by rw [cw_cat]; exact Nat.eq_of_beq_eq_true e1) (kk _ hl)
      · cases hp
    · cases hp
  · split at hp
    · split at hp
      · rename_i e1 e2 e3; cases hp; exact lv_dup_x2 hx hb hd (by rw [cw_cat]; exact Nat.eq_of_beq_eq_true e1) (by rw [cw_cat]; exact Nat.eq_of_beq_eq_true e2) (by rw [cw_cat]; exact Nat.eq_of_beq_eq_true e3) (kk _ hl)
      · cases hp
    · cases hp
  · split at hp
    · split at hp
      · rename_i e1 e2; cases hp; exact lv_dup2_11 hx hb hd (by rw [cw_cat]; exact Nat.eq_of_beq_eq_true e1) (by rw [cw_cat]; exact Nat.eq_of_beq_eq_true e2) (kk _ hl)
      · cases hp
    · cases hp
  · cases hp
end CWP
