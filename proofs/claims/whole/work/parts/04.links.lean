def cw_cn : Nat → Nat
  | 0 => 2
  | 1 => 14
  | 2 => 6
  | _ => 10
def cw_FT : Nat → u_T
  | 0 => TX0
  | 1 => TX1
  | 2 => TX2
  | _ => TX3
def cw_ty : Nat → Nat → FieldType
  | 0 => tyX0
  | 1 => tyX1
  | 2 => tyX2
  | _ => tyX3
theorem cw_cl : ∀ ci, ci < 4 → vwCl[ci]? = some (cw_own ci, cw_FT ci, cw_cn ci)
  | 0, _ => rfl
  | 1, _ => rfl
  | 2, _ => rfl
  | 3, _ => rfl
  | _ + 4, h => absurd h (by omega)
theorem cw_tyok : ∀ ci, ci < 4 → ∀ k, k < cw_cn ci → parseFieldDescriptor (cw_FT ci k).2.2.1 = some (cw_ty ci k)
  | 0, _ => tyX0_ok
  | 1, _ => tyX1_ok
  | 2, _ => tyX2_ok
  | 3, _ => tyX3_ok
  | _ + 4, h => absurd h (by omega)
theorem cw_nm : ∀ ci, ci < 4 → ∀ a, a < cw_cn ci → ∀ b, b < cw_cn ci → a ≠ b → (cw_FT ci a).2.1 ≠ (cw_FT ci b).2.1
  | 0, _ => nmX0
  | 1, _ => nmX1
  | 2, _ => nmX2
  | 3, _ => nmX3
  | _ + 4, h => absurd h (by omega)
theorem cw_in_u0 : ∀ w ∈ u_ws RX0 TX0 2, w ∈ cw_T := by decide +kernel
theorem cw_in_u1 : ∀ w ∈ u_ws RX1 TX1 14, w ∈ cw_T := by decide +kernel
theorem cw_in_u2 : ∀ w ∈ u_ws RX2 TX2 6, w ∈ cw_T := by decide +kernel
theorem cw_in_u3 : ∀ w ∈ u_ws RX3 TX3 10, w ∈ cw_T := by decide +kernel
theorem cw_in_u : ∀ ci, ci < 4 → ∀ w ∈ u_ws (cw_own ci) (cw_FT ci) (cw_cn ci), w ∈ cw_T
  | 0, _ => cw_in_u0
  | 1, _ => cw_in_u1
  | 2, _ => cw_in_u2
  | 3, _ => cw_in_u3
  | _ + 4, h => absurd h (by omega)
/-- a list of numbered things, read by number -/
def cw_look {α : Type} : List (Nat × α) → Nat → Option α
  | [], _ => none
  | (k, a) :: l, n => match Nat.beq k n with
    | true => some a
    | false => cw_look l n
theorem cw_look_mem {α : Type} : ∀ {l : List (Nat × α)} {n : Nat} {a : α}, cw_look l n = some a → (n, a) ∈ l
  | [], _, _, h => by cases h
  | (k, b) :: l, n, a, h => by
    unfold cw_look at h
    split at h
    · rename_i e
      cases h
      rw [Nat.eq_of_beq_eq_true e]
      exact List.mem_cons_self
    · exact List.mem_cons_of_mem _ (cw_look_mem h)
/-- a link to a field: (0 own, 1 nest mate's; the class, the slot) -/
def cw_okF (c idx : Nat) (e : Nat × Nat × Nat) : Prop := e.2.1 < 4 ∧ e.2.2 < cw_cn e.2.1 ∧ (cw_FT e.2.1 e.2.2).1 = cw_own e.2.1 ∧ ((e.1 = 0 ∧ Cond.fieldLink (cw_own c) idx (cw_own e.2.1) (cw_FT e.2.1 e.2.2).2.1 (cw_FT e.2.1 e.2.2).2.2.1 ∈ cw_T) ∨ (e.1 = 1 ∧ ∃ host, Cond.fieldLinkNest (cw_own c) idx (cw_own e.2.1) (cw_FT e.2.1 e.2.2).2.1 (cw_FT e.2.1 e.2.2).2.2.1 host ∈ cw_N))
def cw_flds0 : List (Nat × (Nat × Nat × Nat)) := [(11, 0, 0, 0), (15, 0, 0, 1)]
theorem cw_fok0 : ∀ q ∈ cw_flds0, cw_okF 0 q.1 q.2 := List.forall_mem_cons.mpr ⟨⟨by decide, by decide, rfl, Or.inl ⟨rfl, cw_in1 82 rfl rfl⟩⟩, List.forall_mem_cons.mpr ⟨⟨by decide, by decide, rfl, Or.inl ⟨rfl, cw_in1 83 rfl rfl⟩⟩, fun _ h => absurd h List.not_mem_nil⟩⟩
def cw_flds1 : List (Nat × (Nat × Nat × Nat)) := [(9, 0, 1, 0), (15, 0, 1, 1), (18, 0, 1, 2), (21, 0, 1, 3), (24, 0, 1, 4), (27, 0, 1, 5), (31, 0, 1, 6), (34, 0, 1, 7), (37, 0, 1, 8), (40, 0, 1, 9), (43, 0, 1, 10), (46, 0, 1, 11), (49, 0, 1, 12), (52, 0, 1, 13)]
theorem cw_fok1 : ∀ q ∈ cw_flds1, cw_okF 1 q.1 q.2 := List.forall_mem_cons.mpr ⟨⟨by decide, by decide, rfl, Or.inl ⟨rfl, cw_in1 22 rfl rfl⟩⟩, List.forall_mem_cons.mpr ⟨⟨by decide, by decide, rfl, Or.inl ⟨rfl, cw_in1 24 rfl rfl⟩⟩, List.forall_mem_cons.mpr ⟨⟨by decide, by decide, rfl, Or.inl ⟨rfl, cw_in1 26 rfl rfl⟩⟩, List.forall_mem_cons.mpr ⟨⟨by decide, by decide, rfl, Or.inl ⟨rfl, cw_in1 28 rfl rfl⟩⟩, List.forall_mem_cons.mpr ⟨⟨by decide, by decide, rfl, Or.inl ⟨rfl, cw_in1 30 rfl rfl⟩⟩, List.forall_mem_cons.mpr ⟨⟨by decide, by decide, rfl, Or.inl ⟨rfl, cw_in1 32 rfl rfl⟩⟩, List.forall_mem_cons.mpr ⟨⟨by decide, by decide, rfl, Or.inl ⟨rfl, cw_in1 33 rfl rfl⟩⟩, List.forall_mem_cons.mpr ⟨⟨by decide, by decide, rfl, Or.inl ⟨rfl, cw_in1 35 rfl rfl⟩⟩, List.forall_mem_cons.mpr ⟨⟨by decide, by decide, rfl, Or.inl ⟨rfl, cw_in1 36 rfl rfl⟩⟩, List.forall_mem_cons.mpr ⟨⟨by decide, by decide, rfl, Or.inl ⟨rfl, cw_in1 37 rfl rfl⟩⟩, List.forall_mem_cons.mpr ⟨⟨by decide, by decide, rfl, Or.inl ⟨rfl, cw_in1 38 rfl rfl⟩⟩, List.forall_mem_cons.mpr ⟨⟨by decide, by decide, rfl, Or.inl ⟨rfl, cw_in1 39 rfl rfl⟩⟩, List.forall_mem_cons.mpr ⟨⟨by decide, by decide, rfl, Or.inl ⟨rfl, cw_in1 41 rfl rfl⟩⟩, List.forall_mem_cons.mpr ⟨⟨by decide, by decide, rfl, Or.inl ⟨rfl, cw_in1 43 rfl rfl⟩⟩, fun _ h => absurd h List.not_mem_nil⟩⟩⟩⟩⟩⟩⟩⟩⟩⟩⟩⟩⟩⟩
def cw_flds2 : List (Nat × (Nat × Nat × Nat)) := [(12, 0, 2, 0), (16, 0, 2, 1), (19, 0, 2, 2), (23, 0, 2, 3), (27, 0, 2, 4), (33, 0, 2, 5), (54, 1, 1, 0), (60, 1, 1, 1), (63, 1, 1, 2), (72, 1, 1, 3), (92, 1, 1, 11), (101, 1, 1, 6), (144, 1, 1, 4), (147, 1, 1, 12), (150, 1, 1, 13), (153, 1, 0, 1)]
theorem cw_fok2 : ∀ q ∈ cw_flds2, cw_okF 2 q.1 q.2 := List.forall_mem_cons.mpr ⟨⟨by decide, by decide, rfl, Or.inl ⟨rfl, cw_in1 91 rfl rfl⟩⟩, List.forall_mem_cons.mpr ⟨⟨by decide, by decide, rfl, Or.inl ⟨rfl, cw_in1 92 rfl rfl⟩⟩, List.forall_mem_cons.mpr ⟨⟨by decide, by decide, rfl, Or.inl ⟨rfl, cw_in1 93 rfl rfl⟩⟩, List.forall_mem_cons.mpr ⟨⟨by decide, by decide, rfl, Or.inl ⟨rfl, cw_in1 94 rfl rfl⟩⟩, List.forall_mem_cons.mpr ⟨⟨by decide, by decide, rfl, Or.inl ⟨rfl, cw_in1 95 rfl rfl⟩⟩, List.forall_mem_cons.mpr ⟨⟨by decide, by decide, rfl, Or.inl ⟨rfl, cw_in1 96 rfl rfl⟩⟩, List.forall_mem_cons.mpr ⟨⟨by decide, by decide, rfl, Or.inr ⟨rfl, _, cw_nn1 23 rfl rfl⟩⟩, List.forall_mem_cons.mpr ⟨⟨by decide, by decide, rfl, Or.inr ⟨rfl, _, cw_nn1 25 rfl rfl⟩⟩, List.forall_mem_cons.mpr ⟨⟨by decide, by decide, rfl, Or.inr ⟨rfl, _, cw_nn1 27 rfl rfl⟩⟩, List.forall_mem_cons.mpr ⟨⟨by decide, by decide, rfl, Or.inr ⟨rfl, _, cw_nn1 29 rfl rfl⟩⟩, List.forall_mem_cons.mpr ⟨⟨by decide, by decide, rfl, Or.inr ⟨rfl, _, cw_nn1 40 rfl rfl⟩⟩, List.forall_mem_cons.mpr ⟨⟨by decide, by decide, rfl, Or.inr ⟨rfl, _, cw_nn1 34 rfl rfl⟩⟩, List.forall_mem_cons.mpr ⟨⟨by decide, by decide, rfl, Or.inr ⟨rfl, _, cw_nn1 31 rfl rfl⟩⟩, List.forall_mem_cons.mpr ⟨⟨by decide, by decide, rfl, Or.inr ⟨rfl, _, cw_nn1 42 rfl rfl⟩⟩, List.forall_mem_cons.mpr ⟨⟨by decide, by decide, rfl, Or.inr ⟨rfl, _, cw_nn1 44 rfl rfl⟩⟩, List.forall_mem_cons.mpr ⟨⟨by decide, by decide, rfl, Or.inr ⟨rfl, _, cw_nn1 84 rfl rfl⟩⟩, fun _ h => absurd h List.not_mem_nil⟩⟩⟩⟩⟩⟩⟩⟩⟩⟩⟩⟩⟩⟩⟩⟩
def cw_flds3 : List (Nat × (Nat × Nat × Nat)) := [(7, 0, 3, 0), (13, 0, 3, 1), (16, 0, 3, 2), (19, 0, 3, 4), (22, 0, 3, 5), (25, 0, 3, 6), (28, 0, 3, 8), (34, 0, 3, 3), (143, 0, 3, 9), (146, 0, 3, 7)]
theorem cw_fok3 : ∀ q ∈ cw_flds3, cw_okF 3 q.1 q.2 := List.forall_mem_cons.mpr ⟨⟨by decide, by decide, rfl, Or.inl ⟨rfl, cw_in2 215 rfl rfl⟩⟩, List.forall_mem_cons.mpr ⟨⟨by decide, by decide, rfl, Or.inl ⟨rfl, cw_in2 216 rfl rfl⟩⟩, List.forall_mem_cons.mpr ⟨⟨by decide, by decide, rfl, Or.inl ⟨rfl, cw_in2 217 rfl rfl⟩⟩, List.forall_mem_cons.mpr ⟨⟨by decide, by decide, rfl, Or.inl ⟨rfl, cw_in2 219 rfl rfl⟩⟩, List.forall_mem_cons.mpr ⟨⟨by decide, by decide, rfl, Or.inl ⟨rfl, cw_in2 220 rfl rfl⟩⟩, List.forall_mem_cons.mpr ⟨⟨by decide, by decide, rfl, Or.inl ⟨rfl, cw_in2 221 rfl rfl⟩⟩, List.forall_mem_cons.mpr ⟨⟨by decide, by decide, rfl, Or.inl ⟨rfl, cw_in2 223 rfl rfl⟩⟩, List.forall_mem_cons.mpr ⟨⟨by decide, by decide, rfl, Or.inl ⟨rfl, cw_in2 218 rfl rfl⟩⟩, List.forall_mem_cons.mpr ⟨⟨by decide, by decide, rfl, Or.inl ⟨rfl, cw_in2 224 rfl rfl⟩⟩, List.forall_mem_cons.mpr ⟨⟨by decide, by decide, rfl, Or.inl ⟨rfl, cw_in2 222 rfl rfl⟩⟩, fun _ h => absurd h List.not_mem_nil⟩⟩⟩⟩⟩⟩⟩⟩⟩⟩
def cw_flds : Nat → List (Nat × (Nat × Nat × Nat))
  | 0 => cw_flds0
  | 1 => cw_flds1
  | 2 => cw_flds2
  | 3 => cw_flds3
  | _ => []
theorem cw_fok : ∀ c, ∀ q ∈ cw_flds c, cw_okF c q.1 q.2
  | 0 => cw_fok0
  | 1 => cw_fok1
  | 2 => cw_fok2
  | 3 => cw_fok3
  | _ + 4 => fun _ h => absurd h List.not_mem_nil
def cw_csts : Nat → List (Nat × Int32)
  | 2 => [(195, 1047550)]
  | 5 => [(265, 1431655765), (266, 858993459), (267, 252645135)]
  | _ => []
theorem cw_cok : ∀ c, ∀ q ∈ cw_csts c, Cond.constant (cw_own c) q.1 q.2 ∈ cw_T
  | 0 => fun _ h => absurd h List.not_mem_nil
  | 1 => fun _ h => absurd h List.not_mem_nil
  | 2 => List.forall_mem_cons.mpr ⟨cw_in1 129 rfl rfl, fun _ h => absurd h List.not_mem_nil⟩
  | 3 => fun _ h => absurd h List.not_mem_nil
  | 4 => fun _ h => absurd h List.not_mem_nil
  | 5 => List.forall_mem_cons.mpr ⟨cw_in2 0 rfl rfl, List.forall_mem_cons.mpr ⟨cw_in2 1 rfl rfl, List.forall_mem_cons.mpr ⟨cw_in2 2 rfl rfl, fun _ h => absurd h List.not_mem_nil⟩⟩⟩
  | _ + 6 => fun _ h => absurd h List.not_mem_nil
def cw_cstL : Nat → List (Nat × Int64)
  | 0 => [(23, 255)]
  | 3 => [(179, 255)]
  | 4 => [(76, 4294967295)]
  | _ => []
theorem cw_cokL : ∀ c, ∀ q ∈ cw_cstL c, Cond.constantLong (cw_own c) q.1 q.2 ∈ cw_T
  | 0 => List.forall_mem_cons.mpr ⟨cw_in2 172 rfl rfl, fun _ h => absurd h List.not_mem_nil⟩
  | 1 => fun _ h => absurd h List.not_mem_nil
  | 2 => fun _ h => absurd h List.not_mem_nil
  | 3 => List.forall_mem_cons.mpr ⟨cw_in3 223 rfl rfl, fun _ h => absurd h List.not_mem_nil⟩
  | 4 => List.forall_mem_cons.mpr ⟨cw_in4 4 rfl rfl, fun _ h => absurd h List.not_mem_nil⟩
  | 5 => fun _ h => absurd h List.not_mem_nil
  | _ + 6 => fun _ h => absurd h List.not_mem_nil
/-- a link to a method: 0 virtual, 1 static, 2 constructor; 3 to 5 the same of a nest mate; 6 Object(), 7 arraycopy, 8 max -/
def cw_okC (c idx k : Nat) (i : cw_I) : Prop := (k = 0 ∧ Cond.methodLink (cw_own c) idx i.1 ∈ cw_T ∧ Cond.instanceMethod i.1 ∈ cw_T ∧ Cond.selects i.1.cls i.1 i.1 ∈ cw_T ∧ cw_okI i) ∨ (k = 1 ∧ Cond.methodLink (cw_own c) idx i.1 ∈ cw_T ∧ Cond.static i.1 ∈ cw_T ∧ cw_okI i) ∨ (k = 2 ∧ Cond.methodLink (cw_own c) idx i.1 ∈ cw_T ∧ Cond.instanceMethod i.1 ∈ cw_T ∧ i.1.name = "<init>" ∧ i.2.2.2.1 = none ∧ cw_okI i) ∨ (k = 3 ∧ (∃ host, Cond.methodLinkNest (cw_own c) idx i.1 host ∈ cw_N) ∧ Cond.instanceMethod i.1 ∈ cw_T ∧ Cond.selects i.1.cls i.1 i.1 ∈ cw_T ∧ cw_okI i) ∨ (k = 4 ∧ (∃ host, Cond.methodLinkNest (cw_own c) idx i.1 host ∈ cw_N) ∧ Cond.static i.1 ∈ cw_T ∧ cw_okI i) ∨ (k = 5 ∧ (∃ host, Cond.methodLinkNest (cw_own c) idx i.1 host ∈ cw_N) ∧ Cond.instanceMethod i.1 ∈ cw_T ∧ i.1.name = "<init>" ∧ i.2.2.2.1 = none ∧ cw_okI i) ∨ (k = 6 ∧ Cond.methodLink (cw_own c) idx objectInit ∈ cw_T) ∨ (k = 7 ∧ Cond.methodLink (cw_own c) idx arraycopyName ∈ cw_T) ∨ (k = 8 ∧ Cond.methodLink (cw_own c) idx Lib.Math.max.name ∈ cw_T)
def cw_cls0 : List (Nat × (Nat × cw_I)) := [(3, 6, mm_J6_bitCount_0f7a4), (19, 1, mm_X0_codeIn), (25, 0, mm_X0_characterAt), (29, 1, mm_X0_isDigit), (33, 8, mm_J6_bitCount_0f7a4), (39, 4, mm_X2_opposite), (43, 4, mm_X2_setOf), (46, 3, mm_X1_tell)]
theorem cw_c0_3 : cw_okC 0 3 6 mm_J6_bitCount_0f7a4 := Or.inr (Or.inr (Or.inr (Or.inr (Or.inr (Or.inr (Or.inl ⟨rfl, cw_in1 81 rfl rfl⟩))))))
theorem cw_c0_19 : cw_okC 0 19 1 mm_X0_codeIn := Or.inr (Or.inl ⟨rfl, cw_in2 169 rfl rfl, cw_in2 170 rfl rfl, cw_kX0_codeIn⟩)
theorem cw_c0_25 : cw_okC 0 25 0 mm_X0_characterAt := Or.inl ⟨rfl, cw_in1 171 rfl rfl, cw_in1 173 rfl rfl, cw_ins 10 rfl rfl, cw_kX0_characterAt⟩
theorem cw_c0_29 : cw_okC 0 29 1 mm_X0_isDigit := Or.inr (Or.inl ⟨rfl, cw_in1 179 rfl rfl, cw_in1 180 rfl rfl, cw_kX0_isDigit⟩)
theorem cw_c0_33 : cw_okC 0 33 8 mm_J6_bitCount_0f7a4 := Or.inr (Or.inr (Or.inr (Or.inr (Or.inr (Or.inr (Or.inr (Or.inr (⟨rfl, cw_in1 182 rfl rfl⟩))))))))
theorem cw_c0_39 : cw_okC 0 39 4 mm_X2_opposite := Or.inr (Or.inr (Or.inr (Or.inr (Or.inl ⟨rfl, ⟨_, cw_nn1 193 rfl rfl⟩, cw_in1 194 rfl rfl, cw_kX2_opposite⟩))))
theorem cw_c0_43 : cw_okC 0 43 4 mm_X2_setOf := Or.inr (Or.inr (Or.inr (Or.inr (Or.inl ⟨rfl, ⟨_, cw_nn1 196 rfl rfl⟩, cw_in1 134 rfl rfl, cw_kX2_setOf⟩))))
theorem cw_c0_46 : cw_okC 0 46 3 mm_X1_tell := Or.inr (Or.inr (Or.inr (Or.inl ⟨rfl, ⟨_, cw_nn1 197 rfl rfl⟩, cw_in1 199 rfl rfl, cw_ins 14 rfl rfl, cw_kX1_tell⟩)))
theorem cw_clok0 : ∀ q ∈ cw_cls0, cw_okC 0 q.1 q.2.1 q.2.2 := List.forall_mem_cons.mpr ⟨cw_c0_3, List.forall_mem_cons.mpr ⟨cw_c0_19, List.forall_mem_cons.mpr ⟨cw_c0_25, List.forall_mem_cons.mpr ⟨cw_c0_29, List.forall_mem_cons.mpr ⟨cw_c0_33, List.forall_mem_cons.mpr ⟨cw_c0_39, List.forall_mem_cons.mpr ⟨cw_c0_43, List.forall_mem_cons.mpr ⟨cw_c0_46, fun _ h => absurd h List.not_mem_nil⟩⟩⟩⟩⟩⟩⟩⟩
def cw_cls1 : List (Nat × (Nat × cw_I)) := [(3, 6, mm_J6_bitCount_0f7a4), (55, 7, mm_J6_bitCount_0f7a4), (61, 0, mm_X1_clauseAt), (65, 4, mm_X2_opposites), (68, 4, mm_X2_has), (72, 0, mm_X1_isTrue), (76, 0, mm_X1_openSigns), (79, 1, mm_J6_bitCount_0f7a4), (84, 0, mm_X1_choices), (88, 0, mm_X1_levelAt), (91, 0, mm_X1_signAt), (94, 4, mm_X2_thingOf), (97, 4, mm_X2_setOf), (100, 0, mm_X1_reasonAt), (103, 0, mm_X1_doOneStep), (106, 0, mm_X1_firstUntrue), (109, 0, mm_X1_meetConflict), (113, 4, mm_X2_signInOrder), (117, 0, mm_X1_presentLevel), (120, 0, mm_X1_give), (124, 0, mm_X1_lowestOpenThing), (127, 4, mm_X2_opposite), (130, 0, mm_X1_clauseOutOf), (133, 0, mm_X1_levelBelowPresent), (136, 0, mm_X1_goBackTo), (139, 0, mm_X1_forgetEarliestWithoutUse), (142, 0, mm_X1_learn), (145, 0, mm_X1_signsOfPresentLevel), (148, 8, mm_J6_bitCount_0f7a4), (153, 0, mm_X1_isReason), (156, 0, mm_X1_removeClause), (159, 0, mm_X1_lowerReasonsAbove)]
theorem cw_c1_3 : cw_okC 1 3 6 mm_J6_bitCount_0f7a4 := Or.inr (Or.inr (Or.inr (Or.inr (Or.inr (Or.inr (Or.inl ⟨rfl, cw_in1 21 rfl rfl⟩))))))
theorem cw_c1_55 : cw_okC 1 55 7 mm_J6_bitCount_0f7a4 := Or.inr (Or.inr (Or.inr (Or.inr (Or.inr (Or.inr (Or.inr (Or.inl ⟨rfl, cw_in1 148 rfl rfl⟩)))))))
theorem cw_c1_61 : cw_okC 1 61 0 mm_X1_clauseAt := Or.inl ⟨rfl, cw_in1 122 rfl rfl, cw_in1 124 rfl rfl, cw_ins 2 rfl rfl, cw_kX1_clauseAt⟩
theorem cw_c1_65 : cw_okC 1 65 4 mm_X2_opposites := Or.inr (Or.inr (Or.inr (Or.inr (Or.inl ⟨rfl, ⟨_, cw_nn1 126 rfl rfl⟩, cw_in1 127 rfl rfl, cw_kX2_opposites⟩))))
theorem cw_c1_68 : cw_okC 1 68 4 mm_X2_has := Or.inr (Or.inr (Or.inr (Or.inr (Or.inl ⟨rfl, ⟨_, cw_nn1 130 rfl rfl⟩, cw_in1 131 rfl rfl, cw_kX2_has⟩))))
theorem cw_c1_72 : cw_okC 1 72 0 mm_X1_isTrue := Or.inl ⟨rfl, cw_in1 229 rfl rfl, cw_in1 231 rfl rfl, cw_ins 20 rfl rfl, cw_kX1_isTrue⟩
theorem cw_c1_76 : cw_okC 1 76 0 mm_X1_openSigns := Or.inl ⟨rfl, cw_in1 233 rfl rfl, cw_in1 235 rfl rfl, cw_ins 21 rfl rfl, cw_kX1_openSigns⟩
theorem cw_c1_79 : cw_okC 1 79 1 mm_J6_bitCount_0f7a4 := Or.inr (Or.inl ⟨rfl, cw_in1 237 rfl rfl, cw_in1 238 rfl rfl, cw_kJ6_bitCount_0f7a4⟩)
theorem cw_c1_84 : cw_okC 1 84 0 mm_X1_choices := Or.inl ⟨rfl, cw_in2 131 rfl rfl, cw_in2 125 rfl rfl, cw_ins 40 rfl rfl, cw_kX1_choices⟩
theorem cw_c1_88 : cw_okC 1 88 0 mm_X1_levelAt := Or.inl ⟨rfl, cw_in2 11 rfl rfl, cw_in2 13 rfl rfl, cw_ins 24 rfl rfl, cw_kX1_levelAt⟩
theorem cw_c1_91 : cw_okC 1 91 0 mm_X1_signAt := Or.inl ⟨rfl, cw_in2 23 rfl rfl, cw_in2 25 rfl rfl, cw_ins 27 rfl rfl, cw_kX1_signAt⟩
theorem cw_c1_94 : cw_okC 1 94 4 mm_X2_thingOf := Or.inr (Or.inr (Or.inr (Or.inr (Or.inl ⟨rfl, ⟨_, cw_nn2 91 rfl rfl⟩, cw_in2 92 rfl rfl, cw_kX2_thingOf⟩))))
theorem cw_c1_97 : cw_okC 1 97 4 mm_X2_setOf := Or.inr (Or.inr (Or.inr (Or.inr (Or.inl ⟨rfl, ⟨_, cw_nn2 27 rfl rfl⟩, cw_in1 134 rfl rfl, cw_kX2_setOf⟩))))
theorem cw_c1_100 : cw_okC 1 100 0 mm_X1_reasonAt := Or.inl ⟨rfl, cw_in2 29 rfl rfl, cw_in2 31 rfl rfl, cw_ins 28 rfl rfl, cw_kX1_reasonAt⟩
theorem cw_c1_103 : cw_okC 1 103 0 mm_X1_doOneStep := Or.inl ⟨rfl, cw_in1 221 rfl rfl, cw_in1 223 rfl rfl, cw_ins 18 rfl rfl, cw_kX1_doOneStep⟩
theorem cw_c1_106 : cw_okC 1 106 0 mm_X1_firstUntrue := Or.inl ⟨rfl, cw_in1 225 rfl rfl, cw_in1 227 rfl rfl, cw_ins 19 rfl rfl, cw_kX1_firstUntrue⟩
theorem cw_c1_109 : cw_okC 1 109 0 mm_X1_meetConflict := Or.inl ⟨rfl, cw_in2 3 rfl rfl, cw_in2 5 rfl rfl, cw_ins 22 rfl rfl, cw_kX1_meetConflict⟩
theorem cw_c1_113 : cw_okC 1 113 4 mm_X2_signInOrder := Or.inr (Or.inr (Or.inr (Or.inr (Or.inl ⟨rfl, ⟨_, cw_nn2 59 rfl rfl⟩, cw_in2 60 rfl rfl, cw_kX2_signInOrder⟩))))
theorem cw_c1_117 : cw_okC 1 117 0 mm_X1_presentLevel := Or.inl ⟨rfl, cw_in2 7 rfl rfl, cw_in2 9 rfl rfl, cw_ins 23 rfl rfl, cw_kX1_presentLevel⟩
theorem cw_c1_120 : cw_okC 1 120 0 mm_X1_give := Or.inl ⟨rfl, cw_in2 65 rfl rfl, cw_in2 67 rfl rfl, cw_ins 35 rfl rfl, cw_kX1_give⟩
theorem cw_c1_124 : cw_okC 1 124 0 mm_X1_lowestOpenThing := Or.inl ⟨rfl, cw_in2 69 rfl rfl, cw_in2 71 rfl rfl, cw_ins 36 rfl rfl, cw_kX1_lowestOpenThing⟩
theorem cw_c1_127 : cw_okC 1 127 4 mm_X2_opposite := Or.inr (Or.inr (Or.inr (Or.inr (Or.inl ⟨rfl, ⟨_, cw_nn2 28 rfl rfl⟩, cw_in1 194 rfl rfl, cw_kX2_opposite⟩))))
theorem cw_c1_130 : cw_okC 1 130 0 mm_X1_clauseOutOf := Or.inl ⟨rfl, cw_in2 15 rfl rfl, cw_in2 17 rfl rfl, cw_ins 25 rfl rfl, cw_kX1_clauseOutOf⟩
theorem cw_c1_133 : cw_okC 1 133 0 mm_X1_levelBelowPresent := Or.inl ⟨rfl, cw_in2 33 rfl rfl, cw_in2 35 rfl rfl, cw_ins 29 rfl rfl, cw_kX1_levelBelowPresent⟩
theorem cw_c1_136 : cw_okC 1 136 0 mm_X1_goBackTo := Or.inl ⟨rfl, cw_in2 38 rfl rfl, cw_in2 40 rfl rfl, cw_ins 30 rfl rfl, cw_kX1_goBackTo⟩
theorem cw_c1_139 : cw_okC 1 139 0 mm_X1_forgetEarliestWithoutUse := Or.inl ⟨rfl, cw_in2 42 rfl rfl, cw_in2 44 rfl rfl, cw_ins 31 rfl rfl, cw_kX1_forgetEarliestWithoutUse⟩
theorem cw_c1_142 : cw_okC 1 142 0 mm_X1_learn := Or.inl ⟨rfl, cw_in2 55 rfl rfl, cw_in2 57 rfl rfl, cw_ins 34 rfl rfl, cw_kX1_learn⟩
theorem cw_c1_145 : cw_okC 1 145 0 mm_X1_signsOfPresentLevel := Or.inl ⟨rfl, cw_in2 19 rfl rfl, cw_in2 21 rfl rfl, cw_ins 26 rfl rfl, cw_kX1_signsOfPresentLevel⟩
theorem cw_c1_148 : cw_okC 1 148 8 mm_J6_bitCount_0f7a4 := Or.inr (Or.inr (Or.inr (Or.inr (Or.inr (Or.inr (Or.inr (Or.inr (⟨rfl, cw_in2 37 rfl rfl⟩))))))))
theorem cw_c1_153 : cw_okC 1 153 0 mm_X1_isReason := Or.inl ⟨rfl, cw_in2 46 rfl rfl, cw_in2 48 rfl rfl, cw_ins 32 rfl rfl, cw_kX1_isReason⟩
theorem cw_c1_156 : cw_okC 1 156 0 mm_X1_removeClause := Or.inl ⟨rfl, cw_in2 50 rfl rfl, cw_in1 211 rfl rfl, cw_ins 16 rfl rfl, cw_kX1_removeClause⟩
theorem cw_c1_159 : cw_okC 1 159 0 mm_X1_lowerReasonsAbove := Or.inl ⟨rfl, cw_in2 51 rfl rfl, cw_in2 53 rfl rfl, cw_ins 33 rfl rfl, cw_kX1_lowerReasonsAbove⟩
theorem cw_clok1 : ∀ q ∈ cw_cls1, cw_okC 1 q.1 q.2.1 q.2.2 := List.forall_mem_cons.mpr ⟨cw_c1_3, List.forall_mem_cons.mpr ⟨cw_c1_55, List.forall_mem_cons.mpr ⟨cw_c1_61, List.forall_mem_cons.mpr ⟨cw_c1_65, List.forall_mem_cons.mpr ⟨cw_c1_68, List.forall_mem_cons.mpr ⟨cw_c1_72, List.forall_mem_cons.mpr ⟨cw_c1_76, List.forall_mem_cons.mpr ⟨cw_c1_79, List.forall_mem_cons.mpr ⟨cw_c1_84, List.forall_mem_cons.mpr ⟨cw_c1_88, List.forall_mem_cons.mpr ⟨cw_c1_91, List.forall_mem_cons.mpr ⟨cw_c1_94, List.forall_mem_cons.mpr ⟨cw_c1_97, List.forall_mem_cons.mpr ⟨cw_c1_100, List.forall_mem_cons.mpr ⟨cw_c1_103, List.forall_mem_cons.mpr ⟨cw_c1_106, List.forall_mem_cons.mpr ⟨cw_c1_109, List.forall_mem_cons.mpr ⟨cw_c1_113, List.forall_mem_cons.mpr ⟨cw_c1_117, List.forall_mem_cons.mpr ⟨cw_c1_120, List.forall_mem_cons.mpr ⟨cw_c1_124, List.forall_mem_cons.mpr ⟨cw_c1_127, List.forall_mem_cons.mpr ⟨cw_c1_130, List.forall_mem_cons.mpr ⟨cw_c1_133, List.forall_mem_cons.mpr ⟨cw_c1_136, List.forall_mem_cons.mpr ⟨cw_c1_139, List.forall_mem_cons.mpr ⟨cw_c1_142, List.forall_mem_cons.mpr ⟨cw_c1_145, List.forall_mem_cons.mpr ⟨cw_c1_148, List.forall_mem_cons.mpr ⟨cw_c1_153, List.forall_mem_cons.mpr ⟨cw_c1_156, List.forall_mem_cons.mpr ⟨cw_c1_159, fun _ h => absurd h List.not_mem_nil⟩⟩⟩⟩⟩⟩⟩⟩⟩⟩⟩⟩⟩⟩⟩⟩⟩⟩⟩⟩⟩⟩⟩⟩⟩⟩⟩⟩⟩⟩⟩⟩
def cw_cls2 : List (Nat × (Nat × cw_I)) := [(3, 6, mm_J6_bitCount_0f7a4), (11, 5, mm_X1_init), (32, 5, mm_X0_init), (37, 0, mm_X2_setThings), (41, 0, mm_X2_setRestart), (44, 0, mm_X2_setFirst), (47, 3, mm_X1_toldNeeds), (51, 0, mm_X2_record), (57, 3, mm_X1_beginAnew), (66, 3, mm_X0_firstFault), (69, 3, mm_X0_greatestThing), (75, 3, mm_X0_howManyClauses), (78, 3, mm_X0_tellClausesTo), (82, 3, mm_X0_empty), (85, 3, mm_X1_removeClause), (89, 3, mm_X1_doSteps), (95, 3, mm_X1_presentLevel), (98, 3, mm_X1_goBackTo), (104, 0, mm_X2_isNoThing), (108, 3, mm_X1_placeOf), (111, 3, mm_X1_signAt), (114, 3, mm_X1_levelAt), (117, 3, mm_X1_reasonAt), (120, 1, mm_X2_thingOf), (123, 0, mm_X2_isNoClause), (126, 3, mm_X1_clauseAt), (129, 1, mm_J6_bitCount_0f7a4), (134, 3, mm_X1_isTrue), (137, 3, mm_X1_openSigns), (140, 1, mm_X2_signInOrder), (156, 3, mm_X1_choices), (159, 3, mm_X1_chosenSigns), (162, 3, mm_X1_toldBrokenBy), (165, 0, mm_X2_answersWith), (168, 0, mm_X2_answers), (171, 1, mm_X2_has), (175, 3, mm_X1_copyFrom), (178, 1, mm_X2_setOf), (181, 3, mm_X1_tell), (184, 4, mm_X0_charactersIn), (188, 3, mm_X0_append), (192, 0, mm_X2_moveOldestToEnd), (196, 1, mm_X2_opposites), (199, 1, mm_X2_opposite)]
theorem cw_c2_3 : cw_okC 2 3 6 mm_J6_bitCount_0f7a4 := Or.inr (Or.inr (Or.inr (Or.inr (Or.inr (Or.inr (Or.inl ⟨rfl, cw_in1 13 rfl rfl⟩))))))
theorem cw_c2_11 : cw_okC 2 11 5 mm_X1_init := Or.inr (Or.inr (Or.inr (Or.inr (Or.inr (Or.inl ⟨rfl, ⟨_, cw_nn1 18 rfl rfl⟩, cw_in1 19 rfl rfl, rfl, rfl, cw_kX1_init⟩)))))
theorem cw_c2_32 : cw_okC 2 32 5 mm_X0_init := Or.inr (Or.inr (Or.inr (Or.inr (Or.inr (Or.inl ⟨rfl, ⟨_, cw_nn1 78 rfl rfl⟩, cw_in1 79 rfl rfl, rfl, rfl, cw_kX0_init⟩)))))
theorem cw_c2_37 : cw_okC 2 37 0 mm_X2_setThings := Or.inl ⟨rfl, cw_in1 114 rfl rfl, cw_in1 116 rfl rfl, cw_ins 0 rfl rfl, cw_kX2_setThings⟩
theorem cw_c2_41 : cw_okC 2 41 0 mm_X2_setRestart := Or.inl ⟨rfl, cw_in1 155 rfl rfl, cw_in1 157 rfl rfl, cw_ins 7 rfl rfl, cw_kX2_setRestart⟩
theorem cw_c2_44 : cw_okC 2 44 0 mm_X2_setFirst := Or.inl ⟨rfl, cw_in1 159 rfl rfl, cw_in1 161 rfl rfl, cw_ins 8 rfl rfl, cw_kX2_setFirst⟩
theorem cw_c2_47 : cw_okC 2 47 3 mm_X1_toldNeeds := Or.inr (Or.inr (Or.inr (Or.inl ⟨rfl, ⟨_, cw_nn1 118 rfl rfl⟩, cw_in1 120 rfl rfl, cw_ins 1 rfl rfl, cw_kX1_toldNeeds⟩)))
theorem cw_c2_51 : cw_okC 2 51 0 mm_X2_record := Or.inl ⟨rfl, cw_in1 136 rfl rfl, cw_in1 138 rfl rfl, cw_ins 3 rfl rfl, cw_kX2_record⟩
theorem cw_c2_57 : cw_okC 2 57 3 mm_X1_beginAnew := Or.inr (Or.inr (Or.inr (Or.inl ⟨rfl, ⟨_, cw_nn1 151 rfl rfl⟩, cw_in1 153 rfl rfl, cw_ins 6 rfl rfl, cw_kX1_beginAnew⟩)))
theorem cw_c2_66 : cw_okC 2 66 3 mm_X0_firstFault := Or.inr (Or.inr (Or.inr (Or.inl ⟨rfl, ⟨_, cw_nn1 167 rfl rfl⟩, cw_in1 169 rfl rfl, cw_ins 9 rfl rfl, cw_kX0_firstFault⟩)))
theorem cw_c2_69 : cw_okC 2 69 3 mm_X0_greatestThing := Or.inr (Or.inr (Or.inr (Or.inl ⟨rfl, ⟨_, cw_nn1 175 rfl rfl⟩, cw_in1 177 rfl rfl, cw_ins 11 rfl rfl, cw_kX0_greatestThing⟩)))
theorem cw_c2_75 : cw_okC 2 75 3 mm_X0_howManyClauses := Or.inr (Or.inr (Or.inr (Or.inl ⟨rfl, ⟨_, cw_nn1 185 rfl rfl⟩, cw_in1 187 rfl rfl, cw_ins 12 rfl rfl, cw_kX0_howManyClauses⟩)))
theorem cw_c2_78 : cw_okC 2 78 3 mm_X0_tellClausesTo := Or.inr (Or.inr (Or.inr (Or.inl ⟨rfl, ⟨_, cw_nn1 189 rfl rfl⟩, cw_in1 191 rfl rfl, cw_ins 13 rfl rfl, cw_kX0_tellClausesTo⟩)))
theorem cw_c2_82 : cw_okC 2 82 3 mm_X0_empty := Or.inr (Or.inr (Or.inr (Or.inl ⟨rfl, ⟨_, cw_nn1 201 rfl rfl⟩, cw_in1 203 rfl rfl, cw_ins 15 rfl rfl, cw_kX0_empty⟩)))
theorem cw_c2_85 : cw_okC 2 85 3 mm_X1_removeClause := Or.inr (Or.inr (Or.inr (Or.inl ⟨rfl, ⟨_, cw_nn1 209 rfl rfl⟩, cw_in1 211 rfl rfl, cw_ins 16 rfl rfl, cw_kX1_removeClause⟩)))
theorem cw_c2_89 : cw_okC 2 89 3 mm_X1_doSteps := Or.inr (Or.inr (Or.inr (Or.inl ⟨rfl, ⟨_, cw_nn1 217 rfl rfl⟩, cw_in1 219 rfl rfl, cw_ins 17 rfl rfl, cw_kX1_doSteps⟩)))
theorem cw_c2_95 : cw_okC 2 95 3 mm_X1_presentLevel := Or.inr (Or.inr (Or.inr (Or.inl ⟨rfl, ⟨_, cw_nn2 77 rfl rfl⟩, cw_in2 9 rfl rfl, cw_ins 23 rfl rfl, cw_kX1_presentLevel⟩)))
theorem cw_c2_98 : cw_okC 2 98 3 mm_X1_goBackTo := Or.inr (Or.inr (Or.inr (Or.inl ⟨rfl, ⟨_, cw_nn2 78 rfl rfl⟩, cw_in2 40 rfl rfl, cw_ins 30 rfl rfl, cw_kX1_goBackTo⟩)))
theorem cw_c2_104 : cw_okC 2 104 0 mm_X2_isNoThing := Or.inl ⟨rfl, cw_in2 83 rfl rfl, cw_in2 85 rfl rfl, cw_ins 37 rfl rfl, cw_kX2_isNoThing⟩
theorem cw_c2_108 : cw_okC 2 108 3 mm_X1_placeOf := Or.inr (Or.inr (Or.inr (Or.inl ⟨rfl, ⟨_, cw_nn2 87 rfl rfl⟩, cw_in2 89 rfl rfl, cw_ins 38 rfl rfl, cw_kX1_placeOf⟩)))
theorem cw_c2_111 : cw_okC 2 111 3 mm_X1_signAt := Or.inr (Or.inr (Or.inr (Or.inl ⟨rfl, ⟨_, cw_nn2 94 rfl rfl⟩, cw_in2 25 rfl rfl, cw_ins 27 rfl rfl, cw_kX1_signAt⟩)))
theorem cw_c2_114 : cw_okC 2 114 3 mm_X1_levelAt := Or.inr (Or.inr (Or.inr (Or.inl ⟨rfl, ⟨_, cw_nn2 95 rfl rfl⟩, cw_in2 13 rfl rfl, cw_ins 24 rfl rfl, cw_kX1_levelAt⟩)))
theorem cw_c2_117 : cw_okC 2 117 3 mm_X1_reasonAt := Or.inr (Or.inr (Or.inr (Or.inl ⟨rfl, ⟨_, cw_nn2 96 rfl rfl⟩, cw_in2 31 rfl rfl, cw_ins 28 rfl rfl, cw_kX1_reasonAt⟩)))
theorem cw_c2_120 : cw_okC 2 120 1 mm_X2_thingOf := Or.inr (Or.inl ⟨rfl, cw_in2 101 rfl rfl, cw_in2 92 rfl rfl, cw_kX2_thingOf⟩)
theorem cw_c2_123 : cw_okC 2 123 0 mm_X2_isNoClause := Or.inl ⟨rfl, cw_in2 106 rfl rfl, cw_in2 108 rfl rfl, cw_ins 39 rfl rfl, cw_kX2_isNoClause⟩
theorem cw_c2_126 : cw_okC 2 126 3 mm_X1_clauseAt := Or.inr (Or.inr (Or.inr (Or.inl ⟨rfl, ⟨_, cw_nn2 110 rfl rfl⟩, cw_in1 124 rfl rfl, cw_ins 2 rfl rfl, cw_kX1_clauseAt⟩)))
theorem cw_c2_129 : cw_okC 2 129 1 mm_J6_bitCount_0f7a4 := Or.inr (Or.inl ⟨rfl, cw_in2 111 rfl rfl, cw_in1 238 rfl rfl, cw_kJ6_bitCount_0f7a4⟩)
theorem cw_c2_134 : cw_okC 2 134 3 mm_X1_isTrue := Or.inr (Or.inr (Or.inr (Or.inl ⟨rfl, ⟨_, cw_nn2 112 rfl rfl⟩, cw_in1 231 rfl rfl, cw_ins 20 rfl rfl, cw_kX1_isTrue⟩)))
theorem cw_c2_137 : cw_okC 2 137 3 mm_X1_openSigns := Or.inr (Or.inr (Or.inr (Or.inl ⟨rfl, ⟨_, cw_nn2 113 rfl rfl⟩, cw_in1 235 rfl rfl, cw_ins 21 rfl rfl, cw_kX1_openSigns⟩)))
theorem cw_c2_140 : cw_okC 2 140 1 mm_X2_signInOrder := Or.inr (Or.inl ⟨rfl, cw_in2 114 rfl rfl, cw_in2 60 rfl rfl, cw_kX2_signInOrder⟩)
theorem cw_c2_156 : cw_okC 2 156 3 mm_X1_choices := Or.inr (Or.inr (Or.inr (Or.inl ⟨rfl, ⟨_, cw_nn2 123 rfl rfl⟩, cw_in2 125 rfl rfl, cw_ins 40 rfl rfl, cw_kX1_choices⟩)))
theorem cw_c2_159 : cw_okC 2 159 3 mm_X1_chosenSigns := Or.inr (Or.inr (Or.inr (Or.inl ⟨rfl, ⟨_, cw_nn2 127 rfl rfl⟩, cw_in2 129 rfl rfl, cw_ins 41 rfl rfl, cw_kX1_chosenSigns⟩)))
theorem cw_c2_162 : cw_okC 2 162 3 mm_X1_toldBrokenBy := Or.inr (Or.inr (Or.inr (Or.inl ⟨rfl, ⟨_, cw_nn2 132 rfl rfl⟩, cw_in2 134 rfl rfl, cw_ins 42 rfl rfl, cw_kX1_toldBrokenBy⟩)))
theorem cw_c2_165 : cw_okC 2 165 0 mm_X2_answersWith := Or.inl ⟨rfl, cw_in2 140 rfl rfl, cw_in2 142 rfl rfl, cw_ins 43 rfl rfl, cw_kX2_answersWith⟩
theorem cw_c2_168 : cw_okC 2 168 0 mm_X2_answers := Or.inl ⟨rfl, cw_in2 144 rfl rfl, cw_in2 120 rfl rfl, cw_in2 121 rfl rfl, cw_kX2_answers⟩
theorem cw_c2_171 : cw_okC 2 171 1 mm_X2_has := Or.inr (Or.inl ⟨rfl, cw_in2 63 rfl rfl, cw_in1 131 rfl rfl, cw_kX2_has⟩)
theorem cw_c2_175 : cw_okC 2 175 3 mm_X1_copyFrom := Or.inr (Or.inr (Or.inr (Or.inl ⟨rfl, ⟨_, cw_nn1 144 rfl rfl⟩, cw_in1 146 rfl rfl, cw_ins 5 rfl rfl, cw_kX1_copyFrom⟩)))
theorem cw_c2_178 : cw_okC 2 178 1 mm_X2_setOf := Or.inr (Or.inl ⟨rfl, cw_in1 133 rfl rfl, cw_in1 134 rfl rfl, cw_kX2_setOf⟩)
theorem cw_c2_181 : cw_okC 2 181 3 mm_X1_tell := Or.inr (Or.inr (Or.inr (Or.inl ⟨rfl, ⟨_, cw_nn2 161 rfl rfl⟩, cw_in1 199 rfl rfl, cw_ins 14 rfl rfl, cw_kX1_tell⟩)))
theorem cw_c2_184 : cw_okC 2 184 4 mm_X0_charactersIn := Or.inr (Or.inr (Or.inr (Or.inr (Or.inl ⟨rfl, ⟨_, cw_nn2 166 rfl rfl⟩, cw_in2 167 rfl rfl, cw_kX0_charactersIn⟩))))
theorem cw_c2_188 : cw_okC 2 188 3 mm_X0_append := Or.inr (Or.inr (Or.inr (Or.inl ⟨rfl, ⟨_, cw_nn2 173 rfl rfl⟩, cw_in2 175 rfl rfl, cw_ins 44 rfl rfl, cw_kX0_append⟩)))
theorem cw_c2_192 : cw_okC 2 192 0 mm_X2_moveOldestToEnd := Or.inl ⟨rfl, cw_in1 140 rfl rfl, cw_in1 142 rfl rfl, cw_ins 4 rfl rfl, cw_kX2_moveOldestToEnd⟩
theorem cw_c2_196 : cw_okC 2 196 1 mm_X2_opposites := Or.inr (Or.inl ⟨rfl, cw_in2 62 rfl rfl, cw_in1 127 rfl rfl, cw_kX2_opposites⟩)
theorem cw_c2_199 : cw_okC 2 199 1 mm_X2_opposite := Or.inr (Or.inl ⟨rfl, cw_in2 64 rfl rfl, cw_in1 194 rfl rfl, cw_kX2_opposite⟩)
theorem cw_clok2 : ∀ q ∈ cw_cls2, cw_okC 2 q.1 q.2.1 q.2.2 := List.forall_mem_cons.mpr ⟨cw_c2_3, List.forall_mem_cons.mpr ⟨cw_c2_11, List.forall_mem_cons.mpr ⟨cw_c2_32, List.forall_mem_cons.mpr ⟨cw_c2_37, List.forall_mem_cons.mpr ⟨cw_c2_41, List.forall_mem_cons.mpr ⟨cw_c2_44, List.forall_mem_cons.mpr ⟨cw_c2_47, List.forall_mem_cons.mpr ⟨cw_c2_51, List.forall_mem_cons.mpr ⟨cw_c2_57, List.forall_mem_cons.mpr ⟨cw_c2_66, List.forall_mem_cons.mpr ⟨cw_c2_69, List.forall_mem_cons.mpr ⟨cw_c2_75, List.forall_mem_cons.mpr ⟨cw_c2_78, List.forall_mem_cons.mpr ⟨cw_c2_82, List.forall_mem_cons.mpr ⟨cw_c2_85, List.forall_mem_cons.mpr ⟨cw_c2_89, List.forall_mem_cons.mpr ⟨cw_c2_95, List.forall_mem_cons.mpr ⟨cw_c2_98, List.forall_mem_cons.mpr ⟨cw_c2_104, List.forall_mem_cons.mpr ⟨cw_c2_108, List.forall_mem_cons.mpr ⟨cw_c2_111, List.forall_mem_cons.mpr ⟨cw_c2_114, List.forall_mem_cons.mpr ⟨cw_c2_117, List.forall_mem_cons.mpr ⟨cw_c2_120, List.forall_mem_cons.mpr ⟨cw_c2_123, List.forall_mem_cons.mpr ⟨cw_c2_126, List.forall_mem_cons.mpr ⟨cw_c2_129, List.forall_mem_cons.mpr ⟨cw_c2_134, List.forall_mem_cons.mpr ⟨cw_c2_137, List.forall_mem_cons.mpr ⟨cw_c2_140, List.forall_mem_cons.mpr ⟨cw_c2_156, List.forall_mem_cons.mpr ⟨cw_c2_159, List.forall_mem_cons.mpr ⟨cw_c2_162, List.forall_mem_cons.mpr ⟨cw_c2_165, List.forall_mem_cons.mpr ⟨cw_c2_168, List.forall_mem_cons.mpr ⟨cw_c2_171, List.forall_mem_cons.mpr ⟨cw_c2_175, List.forall_mem_cons.mpr ⟨cw_c2_178, List.forall_mem_cons.mpr ⟨cw_c2_181, List.forall_mem_cons.mpr ⟨cw_c2_184, List.forall_mem_cons.mpr ⟨cw_c2_188, List.forall_mem_cons.mpr ⟨cw_c2_192, List.forall_mem_cons.mpr ⟨cw_c2_196, List.forall_mem_cons.mpr ⟨cw_c2_199, fun _ h => absurd h List.not_mem_nil⟩⟩⟩⟩⟩⟩⟩⟩⟩⟩⟩⟩⟩⟩⟩⟩⟩⟩⟩⟩⟩⟩⟩⟩⟩⟩⟩⟩⟩⟩⟩⟩⟩⟩⟩⟩⟩⟩⟩⟩⟩⟩⟩⟩
def cw_cls3 : List (Nat × (Nat × cw_I)) := [(1, 6, mm_J6_bitCount_0f7a4), (31, 0, mm_X3_beginsAnew), (38, 1, mm_X3_moves), (42, 1, mm_X3_has), (46, 0, mm_X3_valueOf), (50, 1, mm_X3_wanted), (53, 0, mm_X3_openIn), (56, 0, mm_X3_isTrue), (60, 0, mm_X3_forget), (64, 0, mm_X3_goBack), (67, 0, mm_X3_clauses), (71, 0, mm_X3_isFalse), (74, 1, mm_X3_signOf), (78, 0, mm_X3_presentIn), (81, 0, mm_X3_lastIn), (84, 1, mm_X3_without), (87, 0, mm_X3_isReason), (90, 0, mm_X3_dropLearned), (93, 0, mm_X3_learnt), (96, 0, mm_X3_levelBelow), (99, 0, mm_X3_makeRoom), (102, 0, mm_X3_gives), (106, 0, mm_X3_falseOne), (109, 0, mm_X3_learns), (112, 0, mm_X3_followingOne), (115, 0, mm_X3_follow), (118, 0, mm_X3_lowestOpen), (121, 0, mm_X3_goes), (124, 1, mm_X3_greatestIn), (127, 1, mm_X3_within), (131, 1, mm_X3_isValue), (134, 0, mm_X3_greatestTold), (137, 0, mm_X3_record), (140, 0, mm_X3_findFault), (149, 0, mm_X3_isTold), (152, 0, mm_X3_takeAway), (155, 0, mm_X3_goOn), (158, 0, mm_X3_isThing), (161, 0, mm_X3_placeOf), (164, 1, mm_X3_signsIn), (167, 1, mm_X3_signAt), (170, 1, mm_X3_fits), (173, 0, mm_X3_isAnswer), (176, 0, mm_X3_answersBut), (181, 0, mm_X3_character)]
theorem cw_c3_1 : cw_okC 3 1 6 mm_J6_bitCount_0f7a4 := Or.inr (Or.inr (Or.inr (Or.inr (Or.inr (Or.inr (Or.inl ⟨rfl, cw_in2 202 rfl rfl⟩))))))
theorem cw_c3_31 : cw_okC 3 31 0 mm_X3_beginsAnew := Or.inl ⟨rfl, cw_in2 203 rfl rfl, cw_in2 205 rfl rfl, cw_ins 45 rfl rfl, cw_kX3_beginsAnew⟩
theorem cw_c3_38 : cw_okC 3 38 1 mm_X3_moves := Or.inr (Or.inl ⟨rfl, cw_in3 33 rfl rfl, cw_in3 34 rfl rfl, cw_kX3_moves⟩)
theorem cw_c3_42 : cw_okC 3 42 1 mm_X3_has := Or.inr (Or.inl ⟨rfl, cw_in3 26 rfl rfl, cw_in3 27 rfl rfl, cw_kX3_has⟩)
theorem cw_c3_46 : cw_okC 3 46 0 mm_X3_valueOf := Or.inl ⟨rfl, cw_in3 88 rfl rfl, cw_in3 90 rfl rfl, cw_ins 60 rfl rfl, cw_kX3_valueOf⟩
theorem cw_c3_50 : cw_okC 3 50 1 mm_X3_wanted := Or.inr (Or.inl ⟨rfl, cw_in3 96 rfl rfl, cw_in3 97 rfl rfl, cw_kX3_wanted⟩)
theorem cw_c3_53 : cw_okC 3 53 0 mm_X3_openIn := Or.inl ⟨rfl, cw_in3 84 rfl rfl, cw_in3 86 rfl rfl, cw_ins 59 rfl rfl, cw_kX3_openIn⟩
theorem cw_c3_56 : cw_okC 3 56 0 mm_X3_isTrue := Or.inl ⟨rfl, cw_in3 92 rfl rfl, cw_in3 94 rfl rfl, cw_ins 61 rfl rfl, cw_kX3_isTrue⟩
theorem cw_c3_60 : cw_okC 3 60 0 mm_X3_forget := Or.inl ⟨rfl, cw_in2 207 rfl rfl, cw_in2 209 rfl rfl, cw_ins 46 rfl rfl, cw_kX3_forget⟩
theorem cw_c3_64 : cw_okC 3 64 0 mm_X3_goBack := Or.inl ⟨rfl, cw_in2 211 rfl rfl, cw_in2 213 rfl rfl, cw_ins 47 rfl rfl, cw_kX3_goBack⟩
theorem cw_c3_67 : cw_okC 3 67 0 mm_X3_clauses := Or.inl ⟨rfl, cw_in3 76 rfl rfl, cw_in3 78 rfl rfl, cw_ins 57 rfl rfl, cw_kX3_clauses⟩
theorem cw_c3_71 : cw_okC 3 71 0 mm_X3_isFalse := Or.inl ⟨rfl, cw_in3 80 rfl rfl, cw_in3 82 rfl rfl, cw_ins 58 rfl rfl, cw_kX3_isFalse⟩
theorem cw_c3_74 : cw_okC 3 74 1 mm_X3_signOf := Or.inr (Or.inl ⟨rfl, cw_in3 23 rfl rfl, cw_in3 24 rfl rfl, cw_kX3_signOf⟩)
theorem cw_c3_78 : cw_okC 3 78 0 mm_X3_presentIn := Or.inl ⟨rfl, cw_in3 107 rfl rfl, cw_in3 109 rfl rfl, cw_ins 64 rfl rfl, cw_kX3_presentIn⟩
theorem cw_c3_81 : cw_okC 3 81 0 mm_X3_lastIn := Or.inl ⟨rfl, cw_in3 111 rfl rfl, cw_in3 113 rfl rfl, cw_ins 65 rfl rfl, cw_kX3_lastIn⟩
theorem cw_c3_84 : cw_okC 3 84 1 mm_X3_without := Or.inr (Or.inl ⟨rfl, cw_in3 115 rfl rfl, cw_in3 116 rfl rfl, cw_kX3_without⟩)
theorem cw_c3_87 : cw_okC 3 87 0 mm_X3_isReason := Or.inl ⟨rfl, cw_in3 126 rfl rfl, cw_in3 128 rfl rfl, cw_ins 68 rfl rfl, cw_kX3_isReason⟩
theorem cw_c3_90 : cw_okC 3 90 0 mm_X3_dropLearned := Or.inl ⟨rfl, cw_in3 130 rfl rfl, cw_in3 132 rfl rfl, cw_ins 69 rfl rfl, cw_kX3_dropLearned⟩
theorem cw_c3_93 : cw_okC 3 93 0 mm_X3_learnt := Or.inl ⟨rfl, cw_in3 103 rfl rfl, cw_in3 105 rfl rfl, cw_ins 63 rfl rfl, cw_kX3_learnt⟩
theorem cw_c3_96 : cw_okC 3 96 0 mm_X3_levelBelow := Or.inl ⟨rfl, cw_in3 118 rfl rfl, cw_in3 120 rfl rfl, cw_ins 66 rfl rfl, cw_kX3_levelBelow⟩
theorem cw_c3_99 : cw_okC 3 99 0 mm_X3_makeRoom := Or.inl ⟨rfl, cw_in3 122 rfl rfl, cw_in3 124 rfl rfl, cw_ins 67 rfl rfl, cw_kX3_makeRoom⟩
theorem cw_c3_102 : cw_okC 3 102 0 mm_X3_gives := Or.inl ⟨rfl, cw_in3 142 rfl rfl, cw_in3 144 rfl rfl, cw_ins 72 rfl rfl, cw_kX3_gives⟩
theorem cw_c3_106 : cw_okC 3 106 0 mm_X3_falseOne := Or.inl ⟨rfl, cw_in3 72 rfl rfl, cw_in3 74 rfl rfl, cw_ins 56 rfl rfl, cw_kX3_falseOne⟩
theorem cw_c3_109 : cw_okC 3 109 0 mm_X3_learns := Or.inl ⟨rfl, cw_in3 99 rfl rfl, cw_in3 101 rfl rfl, cw_ins 62 rfl rfl, cw_kX3_learns⟩
theorem cw_c3_112 : cw_okC 3 112 0 mm_X3_followingOne := Or.inl ⟨rfl, cw_in3 134 rfl rfl, cw_in3 136 rfl rfl, cw_ins 70 rfl rfl, cw_kX3_followingOne⟩
theorem cw_c3_115 : cw_okC 3 115 0 mm_X3_follow := Or.inl ⟨rfl, cw_in3 138 rfl rfl, cw_in3 140 rfl rfl, cw_ins 71 rfl rfl, cw_kX3_follow⟩
theorem cw_c3_118 : cw_okC 3 118 0 mm_X3_lowestOpen := Or.inl ⟨rfl, cw_in3 146 rfl rfl, cw_in3 148 rfl rfl, cw_ins 73 rfl rfl, cw_kX3_lowestOpen⟩
theorem cw_c3_121 : cw_okC 3 121 0 mm_X3_goes := Or.inl ⟨rfl, cw_in3 68 rfl rfl, cw_in3 70 rfl rfl, cw_ins 55 rfl rfl, cw_kX3_goes⟩
theorem cw_c3_124 : cw_okC 3 124 1 mm_X3_greatestIn := Or.inr (Or.inl ⟨rfl, cw_in3 20 rfl rfl, cw_in3 21 rfl rfl, cw_kX3_greatestIn⟩)
theorem cw_c3_127 : cw_okC 3 127 1 mm_X3_within := Or.inr (Or.inl ⟨rfl, cw_in3 13 rfl rfl, cw_in3 14 rfl rfl, cw_kX3_within⟩)
theorem cw_c3_131 : cw_okC 3 131 1 mm_X3_isValue := Or.inr (Or.inl ⟨rfl, cw_in3 10 rfl rfl, cw_in3 11 rfl rfl, cw_kX3_isValue⟩)
theorem cw_c3_134 : cw_okC 3 134 0 mm_X3_greatestTold := Or.inl ⟨rfl, cw_in3 16 rfl rfl, cw_in3 18 rfl rfl, cw_ins 48 rfl rfl, cw_kX3_greatestTold⟩
theorem cw_c3_137 : cw_okC 3 137 0 mm_X3_record := Or.inl ⟨rfl, cw_in3 29 rfl rfl, cw_in3 31 rfl rfl, cw_ins 49 rfl rfl, cw_kX3_record⟩
theorem cw_c3_140 : cw_okC 3 140 0 mm_X3_findFault := Or.inl ⟨rfl, cw_in3 40 rfl rfl, cw_in3 42 rfl rfl, cw_ins 50 rfl rfl, cw_kX3_findFault⟩
theorem cw_c3_149 : cw_okC 3 149 0 mm_X3_isTold := Or.inl ⟨rfl, cw_in3 52 rfl rfl, cw_in3 54 rfl rfl, cw_ins 52 rfl rfl, cw_kX3_isTold⟩
theorem cw_c3_152 : cw_okC 3 152 0 mm_X3_takeAway := Or.inl ⟨rfl, cw_in3 56 rfl rfl, cw_in3 58 rfl rfl, cw_ins 53 rfl rfl, cw_kX3_takeAway⟩
theorem cw_c3_155 : cw_okC 3 155 0 mm_X3_goOn := Or.inl ⟨rfl, cw_in3 64 rfl rfl, cw_in3 66 rfl rfl, cw_ins 54 rfl rfl, cw_kX3_goOn⟩
theorem cw_c3_158 : cw_okC 3 158 0 mm_X3_isThing := Or.inl ⟨rfl, cw_in3 158 rfl rfl, cw_in3 160 rfl rfl, cw_ins 74 rfl rfl, cw_kX3_isThing⟩
theorem cw_c3_161 : cw_okC 3 161 0 mm_X3_placeOf := Or.inl ⟨rfl, cw_in3 162 rfl rfl, cw_in3 164 rfl rfl, cw_ins 75 rfl rfl, cw_kX3_placeOf⟩
theorem cw_c3_164 : cw_okC 3 164 1 mm_X3_signsIn := Or.inr (Or.inl ⟨rfl, cw_in3 174 rfl rfl, cw_in3 175 rfl rfl, cw_kX3_signsIn⟩)
theorem cw_c3_167 : cw_okC 3 167 1 mm_X3_signAt := Or.inr (Or.inl ⟨rfl, cw_in3 177 rfl rfl, cw_in3 178 rfl rfl, cw_kX3_signAt⟩)
theorem cw_c3_170 : cw_okC 3 170 1 mm_X3_fits := Or.inr (Or.inl ⟨rfl, cw_in3 196 rfl rfl, cw_in3 197 rfl rfl, cw_kX3_fits⟩)
theorem cw_c3_173 : cw_okC 3 173 0 mm_X3_isAnswer := Or.inl ⟨rfl, cw_in3 192 rfl rfl, cw_in3 194 rfl rfl, cw_ins 77 rfl rfl, cw_kX3_isAnswer⟩
theorem cw_c3_176 : cw_okC 3 176 0 mm_X3_answersBut := Or.inl ⟨rfl, cw_in3 188 rfl rfl, cw_in3 190 rfl rfl, cw_ins 76 rfl rfl, cw_kX3_answersBut⟩
theorem cw_c3_181 : cw_okC 3 181 0 mm_X3_character := Or.inl ⟨rfl, cw_in3 44 rfl rfl, cw_in3 46 rfl rfl, cw_ins 51 rfl rfl, cw_kX3_character⟩
theorem cw_clok3 : ∀ q ∈ cw_cls3, cw_okC 3 q.1 q.2.1 q.2.2 := List.forall_mem_cons.mpr ⟨cw_c3_1, List.forall_mem_cons.mpr ⟨cw_c3_31, List.forall_mem_cons.mpr ⟨cw_c3_38, List.forall_mem_cons.mpr ⟨cw_c3_42, List.forall_mem_cons.mpr ⟨cw_c3_46, List.forall_mem_cons.mpr ⟨cw_c3_50, List.forall_mem_cons.mpr ⟨cw_c3_53, List.forall_mem_cons.mpr ⟨cw_c3_56, List.forall_mem_cons.mpr ⟨cw_c3_60, List.forall_mem_cons.mpr ⟨cw_c3_64, List.forall_mem_cons.mpr ⟨cw_c3_67, List.forall_mem_cons.mpr ⟨cw_c3_71, List.forall_mem_cons.mpr ⟨cw_c3_74, List.forall_mem_cons.mpr ⟨cw_c3_78, List.forall_mem_cons.mpr ⟨cw_c3_81, List.forall_mem_cons.mpr ⟨cw_c3_84, List.forall_mem_cons.mpr ⟨cw_c3_87, List.forall_mem_cons.mpr ⟨cw_c3_90, List.forall_mem_cons.mpr ⟨cw_c3_93, List.forall_mem_cons.mpr ⟨cw_c3_96, List.forall_mem_cons.mpr ⟨cw_c3_99, List.forall_mem_cons.mpr ⟨cw_c3_102, List.forall_mem_cons.mpr ⟨cw_c3_106, List.forall_mem_cons.mpr ⟨cw_c3_109, List.forall_mem_cons.mpr ⟨cw_c3_112, List.forall_mem_cons.mpr ⟨cw_c3_115, List.forall_mem_cons.mpr ⟨cw_c3_118, List.forall_mem_cons.mpr ⟨cw_c3_121, List.forall_mem_cons.mpr ⟨cw_c3_124, List.forall_mem_cons.mpr ⟨cw_c3_127, List.forall_mem_cons.mpr ⟨cw_c3_131, List.forall_mem_cons.mpr ⟨cw_c3_134, List.forall_mem_cons.mpr ⟨cw_c3_137, List.forall_mem_cons.mpr ⟨cw_c3_140, List.forall_mem_cons.mpr ⟨cw_c3_149, List.forall_mem_cons.mpr ⟨cw_c3_152, List.forall_mem_cons.mpr ⟨cw_c3_155, List.forall_mem_cons.mpr ⟨cw_c3_158, List.forall_mem_cons.mpr ⟨cw_c3_161, List.forall_mem_cons.mpr ⟨cw_c3_164, List.forall_mem_cons.mpr ⟨cw_c3_167, List.forall_mem_cons.mpr ⟨cw_c3_170, List.forall_mem_cons.mpr ⟨cw_c3_173, List.forall_mem_cons.mpr ⟨cw_c3_176, List.forall_mem_cons.mpr ⟨cw_c3_181, fun _ h => absurd h List.not_mem_nil⟩⟩⟩⟩⟩⟩⟩⟩⟩⟩⟩⟩⟩⟩⟩⟩⟩⟩⟩⟩⟩⟩⟩⟩⟩⟩⟩⟩⟩⟩⟩⟩⟩⟩⟩⟩⟩⟩⟩⟩⟩⟩⟩⟩⟩
def cw_cls4 : List (Nat × (Nat × cw_I)) := [(9, 2, mm_X2_init), (12, 2, mm_X3_init), (13, 0, mm_X2_set), (17, 0, mm_X3_set), (18, 0, mm_X2_read), (22, 0, mm_X3_read), (23, 0, mm_X2_drop), (27, 0, mm_X3_drop), (28, 0, mm_X2_step), (31, 0, mm_X3_step), (32, 0, mm_X2_back), (35, 0, mm_X3_back), (36, 0, mm_X2_of), (39, 0, mm_X3_of), (40, 0, mm_X2_trail), (43, 0, mm_X3_trail), (44, 0, mm_X2_clause), (47, 0, mm_X3_clause), (48, 0, mm_X2_count), (51, 0, mm_X3_count), (52, 0, mm_X2_answers), (55, 0, mm_X3_answers), (56, 0, mm_X2_inAnswers), (59, 0, mm_X3_inAnswers), (60, 0, mm_X2_follows), (63, 0, mm_X3_follows), (64, 0, mm_X2_needless), (67, 0, mm_X3_needless), (68, 0, mm_X2_searched), (71, 0, mm_X3_searched), (72, 0, mm_X2_ifTold), (75, 0, mm_X3_ifTold), (78, 0, mm_X2_put), (82, 0, mm_X3_put), (83, 0, mm_X2_wipe), (86, 0, mm_X3_wipe), (87, 0, mm_X2_fault), (90, 0, mm_X3_fault), (91, 0, mm_X2_undo), (94, 0, mm_X3_undo), (95, 0, mm_X2_save), (98, 0, mm_X3_save), (99, 0, mm_X2_restore), (102, 0, mm_X3_restore)]
theorem cw_c4_9 : cw_okC 4 9 2 mm_X2_init := Or.inr (Or.inr (Or.inl ⟨rfl, cw_in1 10 rfl rfl, cw_in1 11 rfl rfl, rfl, rfl, cw_kX2_init⟩))
theorem cw_c4_12 : cw_okC 4 12 2 mm_X3_init := Or.inr (Or.inr (Or.inl ⟨rfl, cw_in2 199 rfl rfl, cw_in2 200 rfl rfl, rfl, rfl, cw_kX3_init⟩))
theorem cw_c4_13 : cw_okC 4 13 0 mm_X2_set := Or.inl ⟨rfl, cw_in1 110 rfl rfl, cw_in1 111 rfl rfl, cw_in1 112 rfl rfl, cw_kX2_set⟩
theorem cw_c4_17 : cw_okC 4 17 0 mm_X3_set := Or.inl ⟨rfl, cw_in3 6 rfl rfl, cw_in3 7 rfl rfl, cw_in3 8 rfl rfl, cw_kX3_set⟩
theorem cw_c4_18 : cw_okC 4 18 0 mm_X2_read := Or.inl ⟨rfl, cw_in1 163 rfl rfl, cw_in1 164 rfl rfl, cw_in1 165 rfl rfl, cw_kX2_read⟩
theorem cw_c4_22 : cw_okC 4 22 0 mm_X3_read := Or.inl ⟨rfl, cw_in3 36 rfl rfl, cw_in3 37 rfl rfl, cw_in3 38 rfl rfl, cw_kX3_read⟩
theorem cw_c4_23 : cw_okC 4 23 0 mm_X2_drop := Or.inl ⟨rfl, cw_in1 205 rfl rfl, cw_in1 206 rfl rfl, cw_in1 207 rfl rfl, cw_kX2_drop⟩
theorem cw_c4_27 : cw_okC 4 27 0 mm_X3_drop := Or.inl ⟨rfl, cw_in3 48 rfl rfl, cw_in3 49 rfl rfl, cw_in3 50 rfl rfl, cw_kX3_drop⟩
theorem cw_c4_28 : cw_okC 4 28 0 mm_X2_step := Or.inl ⟨rfl, cw_in1 213 rfl rfl, cw_in1 214 rfl rfl, cw_in1 215 rfl rfl, cw_kX2_step⟩
theorem cw_c4_31 : cw_okC 4 31 0 mm_X3_step := Or.inl ⟨rfl, cw_in3 60 rfl rfl, cw_in3 61 rfl rfl, cw_in3 62 rfl rfl, cw_kX3_step⟩
theorem cw_c4_32 : cw_okC 4 32 0 mm_X2_back := Or.inl ⟨rfl, cw_in2 73 rfl rfl, cw_in2 74 rfl rfl, cw_in2 75 rfl rfl, cw_kX2_back⟩
theorem cw_c4_35 : cw_okC 4 35 0 mm_X3_back := Or.inl ⟨rfl, cw_in3 150 rfl rfl, cw_in3 151 rfl rfl, cw_in3 152 rfl rfl, cw_kX3_back⟩
theorem cw_c4_36 : cw_okC 4 36 0 mm_X2_of := Or.inl ⟨rfl, cw_in2 79 rfl rfl, cw_in2 80 rfl rfl, cw_in2 81 rfl rfl, cw_kX2_of⟩
theorem cw_c4_39 : cw_okC 4 39 0 mm_X3_of := Or.inl ⟨rfl, cw_in3 154 rfl rfl, cw_in3 155 rfl rfl, cw_in3 156 rfl rfl, cw_kX3_of⟩
theorem cw_c4_40 : cw_okC 4 40 0 mm_X2_trail := Or.inl ⟨rfl, cw_in2 97 rfl rfl, cw_in2 98 rfl rfl, cw_in2 99 rfl rfl, cw_kX2_trail⟩
theorem cw_c4_43 : cw_okC 4 43 0 mm_X3_trail := Or.inl ⟨rfl, cw_in3 166 rfl rfl, cw_in3 167 rfl rfl, cw_in3 168 rfl rfl, cw_kX3_trail⟩
theorem cw_c4_44 : cw_okC 4 44 0 mm_X2_clause := Or.inl ⟨rfl, cw_in2 102 rfl rfl, cw_in2 103 rfl rfl, cw_in2 104 rfl rfl, cw_kX2_clause⟩
theorem cw_c4_47 : cw_okC 4 47 0 mm_X3_clause := Or.inl ⟨rfl, cw_in3 170 rfl rfl, cw_in3 171 rfl rfl, cw_in3 172 rfl rfl, cw_kX3_clause⟩
theorem cw_c4_48 : cw_okC 4 48 0 mm_X2_count := Or.inl ⟨rfl, cw_in2 115 rfl rfl, cw_in2 116 rfl rfl, cw_in2 117 rfl rfl, cw_kX2_count⟩
theorem cw_c4_51 : cw_okC 4 51 0 mm_X3_count := Or.inl ⟨rfl, cw_in3 180 rfl rfl, cw_in3 181 rfl rfl, cw_in3 182 rfl rfl, cw_kX3_count⟩
theorem cw_c4_52 : cw_okC 4 52 0 mm_X2_answers := Or.inl ⟨rfl, cw_in2 119 rfl rfl, cw_in2 120 rfl rfl, cw_in2 121 rfl rfl, cw_kX2_answers⟩
theorem cw_c4_55 : cw_okC 4 55 0 mm_X3_answers := Or.inl ⟨rfl, cw_in3 184 rfl rfl, cw_in3 185 rfl rfl, cw_in3 186 rfl rfl, cw_kX3_answers⟩
theorem cw_c4_56 : cw_okC 4 56 0 mm_X2_inAnswers := Or.inl ⟨rfl, cw_in2 136 rfl rfl, cw_in2 137 rfl rfl, cw_in2 138 rfl rfl, cw_kX2_inAnswers⟩
theorem cw_c4_59 : cw_okC 4 59 0 mm_X3_inAnswers := Or.inl ⟨rfl, cw_in3 199 rfl rfl, cw_in3 200 rfl rfl, cw_in3 201 rfl rfl, cw_kX3_inAnswers⟩
theorem cw_c4_60 : cw_okC 4 60 0 mm_X2_follows := Or.inl ⟨rfl, cw_in2 145 rfl rfl, cw_in2 146 rfl rfl, cw_in2 147 rfl rfl, cw_kX2_follows⟩
theorem cw_c4_63 : cw_okC 4 63 0 mm_X3_follows := Or.inl ⟨rfl, cw_in3 203 rfl rfl, cw_in3 204 rfl rfl, cw_in3 205 rfl rfl, cw_kX3_follows⟩
theorem cw_c4_64 : cw_okC 4 64 0 mm_X2_needless := Or.inl ⟨rfl, cw_in2 149 rfl rfl, cw_in2 150 rfl rfl, cw_in2 151 rfl rfl, cw_kX2_needless⟩
theorem cw_c4_67 : cw_okC 4 67 0 mm_X3_needless := Or.inl ⟨rfl, cw_in3 207 rfl rfl, cw_in3 208 rfl rfl, cw_in3 209 rfl rfl, cw_kX3_needless⟩
theorem cw_c4_68 : cw_okC 4 68 0 mm_X2_searched := Or.inl ⟨rfl, cw_in2 153 rfl rfl, cw_in2 154 rfl rfl, cw_in2 155 rfl rfl, cw_kX2_searched⟩
theorem cw_c4_71 : cw_okC 4 71 0 mm_X3_searched := Or.inl ⟨rfl, cw_in3 211 rfl rfl, cw_in3 212 rfl rfl, cw_in3 213 rfl rfl, cw_kX3_searched⟩
theorem cw_c4_72 : cw_okC 4 72 0 mm_X2_ifTold := Or.inl ⟨rfl, cw_in2 157 rfl rfl, cw_in2 158 rfl rfl, cw_in2 159 rfl rfl, cw_kX2_ifTold⟩
theorem cw_c4_75 : cw_okC 4 75 0 mm_X3_ifTold := Or.inl ⟨rfl, cw_in3 215 rfl rfl, cw_in3 216 rfl rfl, cw_in3 217 rfl rfl, cw_kX3_ifTold⟩
theorem cw_c4_78 : cw_okC 4 78 0 mm_X2_put := Or.inl ⟨rfl, cw_in2 162 rfl rfl, cw_in2 163 rfl rfl, cw_in2 164 rfl rfl, cw_kX2_put⟩
theorem cw_c4_82 : cw_okC 4 82 0 mm_X3_put := Or.inl ⟨rfl, cw_in3 219 rfl rfl, cw_in3 220 rfl rfl, cw_in3 221 rfl rfl, cw_kX3_put⟩
theorem cw_c4_83 : cw_okC 4 83 0 mm_X2_wipe := Or.inl ⟨rfl, cw_in2 177 rfl rfl, cw_in2 178 rfl rfl, cw_in2 179 rfl rfl, cw_kX2_wipe⟩
theorem cw_c4_86 : cw_okC 4 86 0 mm_X3_wipe := Or.inl ⟨rfl, cw_in3 224 rfl rfl, cw_in3 225 rfl rfl, cw_in3 226 rfl rfl, cw_kX3_wipe⟩
theorem cw_c4_87 : cw_okC 4 87 0 mm_X2_fault := Or.inl ⟨rfl, cw_in2 181 rfl rfl, cw_in2 182 rfl rfl, cw_in2 183 rfl rfl, cw_kX2_fault⟩
theorem cw_c4_90 : cw_okC 4 90 0 mm_X3_fault := Or.inl ⟨rfl, cw_in3 228 rfl rfl, cw_in3 229 rfl rfl, cw_in3 230 rfl rfl, cw_kX3_fault⟩
theorem cw_c4_91 : cw_okC 4 91 0 mm_X2_undo := Or.inl ⟨rfl, cw_in2 185 rfl rfl, cw_in2 186 rfl rfl, cw_in2 187 rfl rfl, cw_kX2_undo⟩
theorem cw_c4_94 : cw_okC 4 94 0 mm_X3_undo := Or.inl ⟨rfl, cw_in3 232 rfl rfl, cw_in3 233 rfl rfl, cw_in3 234 rfl rfl, cw_kX3_undo⟩
theorem cw_c4_95 : cw_okC 4 95 0 mm_X2_save := Or.inl ⟨rfl, cw_in2 189 rfl rfl, cw_in2 190 rfl rfl, cw_in2 191 rfl rfl, cw_kX2_save⟩
theorem cw_c4_98 : cw_okC 4 98 0 mm_X3_save := Or.inl ⟨rfl, cw_in3 236 rfl rfl, cw_in3 237 rfl rfl, cw_in3 238 rfl rfl, cw_kX3_save⟩
theorem cw_c4_99 : cw_okC 4 99 0 mm_X2_restore := Or.inl ⟨rfl, cw_in2 193 rfl rfl, cw_in2 194 rfl rfl, cw_in2 195 rfl rfl, cw_kX2_restore⟩
theorem cw_c4_102 : cw_okC 4 102 0 mm_X3_restore := Or.inl ⟨rfl, cw_in4 0 rfl rfl, cw_in4 1 rfl rfl, cw_in4 2 rfl rfl, cw_kX3_restore⟩
theorem cw_clok4 : ∀ q ∈ cw_cls4, cw_okC 4 q.1 q.2.1 q.2.2 := List.forall_mem_cons.mpr ⟨cw_c4_9, List.forall_mem_cons.mpr ⟨cw_c4_12, List.forall_mem_cons.mpr ⟨cw_c4_13, List.forall_mem_cons.mpr ⟨cw_c4_17, List.forall_mem_cons.mpr ⟨cw_c4_18, List.forall_mem_cons.mpr ⟨cw_c4_22, List.forall_mem_cons.mpr ⟨cw_c4_23, List.forall_mem_cons.mpr ⟨cw_c4_27, List.forall_mem_cons.mpr ⟨cw_c4_28, List.forall_mem_cons.mpr ⟨cw_c4_31, List.forall_mem_cons.mpr ⟨cw_c4_32, List.forall_mem_cons.mpr ⟨cw_c4_35, List.forall_mem_cons.mpr ⟨cw_c4_36, List.forall_mem_cons.mpr ⟨cw_c4_39, List.forall_mem_cons.mpr ⟨cw_c4_40, List.forall_mem_cons.mpr ⟨cw_c4_43, List.forall_mem_cons.mpr ⟨cw_c4_44, List.forall_mem_cons.mpr ⟨cw_c4_47, List.forall_mem_cons.mpr ⟨cw_c4_48, List.forall_mem_cons.mpr ⟨cw_c4_51, List.forall_mem_cons.mpr ⟨cw_c4_52, List.forall_mem_cons.mpr ⟨cw_c4_55, List.forall_mem_cons.mpr ⟨cw_c4_56, List.forall_mem_cons.mpr ⟨cw_c4_59, List.forall_mem_cons.mpr ⟨cw_c4_60, List.forall_mem_cons.mpr ⟨cw_c4_63, List.forall_mem_cons.mpr ⟨cw_c4_64, List.forall_mem_cons.mpr ⟨cw_c4_67, List.forall_mem_cons.mpr ⟨cw_c4_68, List.forall_mem_cons.mpr ⟨cw_c4_71, List.forall_mem_cons.mpr ⟨cw_c4_72, List.forall_mem_cons.mpr ⟨cw_c4_75, List.forall_mem_cons.mpr ⟨cw_c4_78, List.forall_mem_cons.mpr ⟨cw_c4_82, List.forall_mem_cons.mpr ⟨cw_c4_83, List.forall_mem_cons.mpr ⟨cw_c4_86, List.forall_mem_cons.mpr ⟨cw_c4_87, List.forall_mem_cons.mpr ⟨cw_c4_90, List.forall_mem_cons.mpr ⟨cw_c4_91, List.forall_mem_cons.mpr ⟨cw_c4_94, List.forall_mem_cons.mpr ⟨cw_c4_95, List.forall_mem_cons.mpr ⟨cw_c4_98, List.forall_mem_cons.mpr ⟨cw_c4_99, List.forall_mem_cons.mpr ⟨cw_c4_102, fun _ h => absurd h List.not_mem_nil⟩⟩⟩⟩⟩⟩⟩⟩⟩⟩⟩⟩⟩⟩⟩⟩⟩⟩⟩⟩⟩⟩⟩⟩⟩⟩⟩⟩⟩⟩⟩⟩⟩⟩⟩⟩⟩⟩⟩⟩⟩⟩⟩⟩
def cw_cls5 : List (Nat × (Nat × cw_I)) := []
theorem cw_clok5 : ∀ q ∈ cw_cls5, cw_okC 5 q.1 q.2.1 q.2.2 := fun _ h => absurd h List.not_mem_nil
def cw_cls : Nat → List (Nat × (Nat × cw_I))
  | 0 => cw_cls0
  | 1 => cw_cls1
  | 2 => cw_cls2
  | 3 => cw_cls3
  | 4 => cw_cls4
  | 5 => cw_cls5
  | _ => []
theorem cw_clok : ∀ c, ∀ q ∈ cw_cls c, cw_okC c q.1 q.2.1 q.2.2
  | 0 => cw_clok0
  | 1 => cw_clok1
  | 2 => cw_clok2
  | 3 => cw_clok3
  | 4 => cw_clok4
  | 5 => cw_clok5
  | _ + 6 => fun _ h => absurd h List.not_mem_nil
def cw_news : Nat → List (Nat × Nat)
  | 2 => [(9, 1), (30, 0)]
  | 4 => [(7, 2), (10, 3)]
  | _ => []
theorem cw_nok : ∀ c, ∀ q ∈ cw_news c, q.2 < 4 ∧ Cond.classLink (cw_own c) q.1 (cw_own q.2) ∈ cw_T ∧ Cond.instantiable (cw_own q.2) (cw_cn q.2) ∈ cw_T ∧ Cond.initialized (cw_own q.2) ∈ cw_T
  | 0 => fun _ h => absurd h List.not_mem_nil
  | 1 => fun _ h => absurd h List.not_mem_nil
  | 2 => List.forall_mem_cons.mpr ⟨⟨by decide, cw_in1 16 rfl rfl, cw_in1 17 rfl rfl, cw_in1 2 rfl rfl⟩, List.forall_mem_cons.mpr ⟨⟨by decide, cw_in1 76 rfl rfl, cw_in1 77 rfl rfl, cw_in1 3 rfl rfl⟩, fun _ h => absurd h List.not_mem_nil⟩⟩
  | 3 => fun _ h => absurd h List.not_mem_nil
  | 4 => List.forall_mem_cons.mpr ⟨⟨by decide, cw_in1 8 rfl rfl, cw_in1 9 rfl rfl, cw_in1 1 rfl rfl⟩, List.forall_mem_cons.mpr ⟨⟨by decide, cw_in2 197 rfl rfl, cw_in2 198 rfl rfl, cw_in1 4 rfl rfl⟩, fun _ h => absurd h List.not_mem_nil⟩⟩
  | 5 => fun _ h => absurd h List.not_mem_nil
  | _ + 6 => fun _ h => absurd h List.not_mem_nil
theorem cw_g_oi1 : Cond.instanceMethod objectInit ∈ cw_T := cw_in1 14 rfl rfl
theorem cw_g_sys : Cond.initialized "java/lang/System" ∈ cw_T := cw_in1 5 rfl rfl
theorem cw_g_math : Cond.initialized "java/lang/Math" ∈ cw_T := cw_in1 6 rfl rfl
theorem cw_g_cpn : Cond.native arraycopyName ∈ cw_T := cw_in1 150 rfl rfl
theorem cw_g_cps : Cond.static arraycopyName ∈ cw_T := cw_in1 149 rfl rfl
theorem cw_g_ms : Cond.static Lib.Math.max.name ∈ cw_T := cw_in1 183 rfl rfl
theorem cw_g_ai : Cond.arrayClass .int ∈ cw_T := cw_in1 74 rfl rfl
theorem cw_g_ac : Cond.arrayClass .char ∈ cw_T := cw_in1 90 rfl rfl
theorem cw_g_oi2 : Cond.code objectInit ⟨#[0xb1]⟩ 1 none ∈ cw_T := cw_in1 15 rfl rfl
theorem cw_g_mc : Cond.code Lib.Math.max.name Lib.Math.max.code 2 (some .int) ∈ cw_T := cw_in1 184 rfl rfl
