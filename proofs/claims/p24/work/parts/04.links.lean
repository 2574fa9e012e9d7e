def cw_cn : Nat → Nat
  | 0 => 2
  | 1 => 14
  | _ => 6
def cw_FT : Nat → u_T
  | 0 => TX0
  | 1 => TX1
  | _ => TX2
def cw_ty : Nat → Nat → FieldType
  | 0 => tyX0
  | 1 => tyX1
  | _ => tyX2
theorem cw_cl : ∀ ci, ci < 3 → vwCl[ci]? = some (cw_own ci, cw_FT ci, cw_cn ci)
  | 0, _ => rfl
  | 1, _ => rfl
  | 2, _ => rfl
  | _ + 3, h => absurd h (by omega)
theorem cw_tyok : ∀ ci, ci < 3 → ∀ k, k < cw_cn ci → parseFieldDescriptor (cw_FT ci k).2.2.1 = some (cw_ty ci k)
  | 0, _ => tyX0_ok
  | 1, _ => tyX1_ok
  | 2, _ => tyX2_ok
  | _ + 3, h => absurd h (by omega)
theorem cw_nm : ∀ ci, ci < 3 → ∀ a, a < cw_cn ci → ∀ b, b < cw_cn ci → a ≠ b → (cw_FT ci a).2.1 ≠ (cw_FT ci b).2.1
  | 0, _ => nmX0
  | 1, _ => nmX1
  | 2, _ => nmX2
  | _ + 3, h => absurd h (by omega)
theorem cw_in_u0 : ∀ w ∈ u_ws RX0 TX0 2, w ∈ cw_T := by decide +kernel
theorem cw_in_u1 : ∀ w ∈ u_ws RX1 TX1 14, w ∈ cw_T := by decide +kernel
theorem cw_in_u2 : ∀ w ∈ u_ws RX2 TX2 6, w ∈ cw_T := by decide +kernel
theorem cw_in_u : ∀ ci, ci < 3 → ∀ w ∈ u_ws (cw_own ci) (cw_FT ci) (cw_cn ci), w ∈ cw_T
  | 0, _ => cw_in_u0
  | 1, _ => cw_in_u1
  | 2, _ => cw_in_u2
  | _ + 3, h => absurd h (by omega)
/-- a list of numbered things, read by number -/
def cw_look {α : Type} : List (Nat × α) → Nat → Option α
  | [], _ => none
  | (k, a) :: l, n => match Nat.beq k n with
    | true => some a
    | false => cw_look l n
theorem cw_look_mem {α : Type} : ∀ {l : List (Nat × α)} {n : Nat} {a : α}, cw_look l n = some a → (n, a) ∈ l
  | [], _, _, h => by cases h
  | (k, b) :: l, n, a, h => by
    unfold cw_look at h
    split at h
    · rename_i e
      cases h
      rw [Nat.eq_of_beq_eq_true e]
      exact List.mem_cons_self
    · exact List.mem_cons_of_mem _ (cw_look_mem h)
/-- a link to a field: (0 own, 1 nest mate's; the class, the slot) -/
def cw_okF (c idx : Nat) (e : Nat × Nat × Nat) : Prop := e.2.1 < 3 ∧ e.2.2 < cw_cn e.2.1 ∧ (cw_FT e.2.1 e.2.2).1 = cw_own e.2.1 ∧ ((e.1 = 0 ∧ Cond.fieldLink (cw_own c) idx (cw_own e.2.1) (cw_FT e.2.1 e.2.2).2.1 (cw_FT e.2.1 e.2.2).2.2.1 ∈ cw_T) ∨ (e.1 = 1 ∧ ∃ host, Cond.fieldLinkNest (cw_own c) idx (cw_own e.2.1) (cw_FT e.2.1 e.2.2).2.1 (cw_FT e.2.1 e.2.2).2.2.1 host ∈ cw_N))
def cw_flds0 : List (Nat × (Nat × Nat × Nat)) := [(11, 0, 0, 0), (15, 0, 0, 1)]
theorem cw_fok0 : ∀ q ∈ cw_flds0, cw_okF 0 q.1 q.2 := List.forall_mem_cons.mpr ⟨⟨by decide, by decide, rfl, Or.inl ⟨rfl, cw_in1 81 rfl rfl⟩⟩, List.forall_mem_cons.mpr ⟨⟨by decide, by decide, rfl, Or.inl ⟨rfl, cw_in1 82 rfl rfl⟩⟩, fun _ h => absurd h List.not_mem_nil⟩⟩
def cw_flds1 : List (Nat × (Nat × Nat × Nat)) := [(9, 0, 1, 0), (15, 0, 1, 1), (18, 0, 1, 2), (21, 0, 1, 3), (24, 0, 1, 4), (27, 0, 1, 5), (31, 0, 1, 6), (34, 0, 1, 7), (37, 0, 1, 8), (40, 0, 1, 9), (43, 0, 1, 10), (46, 0, 1, 11), (49, 0, 1, 12), (52, 0, 1, 13)]
theorem cw_fok1 : ∀ q ∈ cw_flds1, cw_okF 1 q.1 q.2 := List.forall_mem_cons.mpr ⟨⟨by decide, by decide, rfl, Or.inl ⟨rfl, cw_in1 21 rfl rfl⟩⟩, List.forall_mem_cons.mpr ⟨⟨by decide, by decide, rfl, Or.inl ⟨rfl, cw_in1 23 rfl rfl⟩⟩, List.forall_mem_cons.mpr ⟨⟨by decide, by decide, rfl, Or.inl ⟨rfl, cw_in1 25 rfl rfl⟩⟩, List.forall_mem_cons.mpr ⟨⟨by decide, by decide, rfl, Or.inl ⟨rfl, cw_in1 27 rfl rfl⟩⟩, List.forall_mem_cons.mpr ⟨⟨by decide, by decide, rfl, Or.inl ⟨rfl, cw_in1 29 rfl rfl⟩⟩, List.forall_mem_cons.mpr ⟨⟨by decide, by decide, rfl, Or.inl ⟨rfl, cw_in1 31 rfl rfl⟩⟩, List.forall_mem_cons.mpr ⟨⟨by decide, by decide, rfl, Or.inl ⟨rfl, cw_in1 32 rfl rfl⟩⟩, List.forall_mem_cons.mpr ⟨⟨by decide, by decide, rfl, Or.inl ⟨rfl, cw_in1 34 rfl rfl⟩⟩, List.forall_mem_cons.mpr ⟨⟨by decide, by decide, rfl, Or.inl ⟨rfl, cw_in1 35 rfl rfl⟩⟩, List.forall_mem_cons.mpr ⟨⟨by decide, by decide, rfl, Or.inl ⟨rfl, cw_in1 36 rfl rfl⟩⟩, List.forall_mem_cons.mpr ⟨⟨by decide, by decide, rfl, Or.inl ⟨rfl, cw_in1 37 rfl rfl⟩⟩, List.forall_mem_cons.mpr ⟨⟨by decide, by decide, rfl, Or.inl ⟨rfl, cw_in1 38 rfl rfl⟩⟩, List.forall_mem_cons.mpr ⟨⟨by decide, by decide, rfl, Or.inl ⟨rfl, cw_in1 40 rfl rfl⟩⟩, List.forall_mem_cons.mpr ⟨⟨by decide, by decide, rfl, Or.inl ⟨rfl, cw_in1 42 rfl rfl⟩⟩, fun _ h => absurd h List.not_mem_nil⟩⟩⟩⟩⟩⟩⟩⟩⟩⟩⟩⟩⟩⟩
def cw_flds2 : List (Nat × (Nat × Nat × Nat)) := [(12, 0, 2, 0), (16, 0, 2, 1), (19, 0, 2, 2), (23, 0, 2, 3), (27, 0, 2, 4), (33, 0, 2, 5), (54, 1, 1, 0), (60, 1, 1, 1), (63, 1, 1, 2), (72, 1, 1, 3), (92, 1, 1, 11), (101, 1, 1, 6), (144, 1, 1, 4), (147, 1, 1, 12), (150, 1, 1, 13), (153, 1, 0, 1)]
theorem cw_fok2 : ∀ q ∈ cw_flds2, cw_okF 2 q.1 q.2 := List.forall_mem_cons.mpr ⟨⟨by decide, by decide, rfl, Or.inl ⟨rfl, cw_in1 90 rfl rfl⟩⟩, List.forall_mem_cons.mpr ⟨⟨by decide, by decide, rfl, Or.inl ⟨rfl, cw_in1 91 rfl rfl⟩⟩, List.forall_mem_cons.mpr ⟨⟨by decide, by decide, rfl, Or.inl ⟨rfl, cw_in1 92 rfl rfl⟩⟩, List.forall_mem_cons.mpr ⟨⟨by decide, by decide, rfl, Or.inl ⟨rfl, cw_in1 93 rfl rfl⟩⟩, List.forall_mem_cons.mpr ⟨⟨by decide, by decide, rfl, Or.inl ⟨rfl, cw_in1 94 rfl rfl⟩⟩, List.forall_mem_cons.mpr ⟨⟨by decide, by decide, rfl, Or.inl ⟨rfl, cw_in1 95 rfl rfl⟩⟩, List.forall_mem_cons.mpr ⟨⟨by decide, by decide, rfl, Or.inr ⟨rfl, _, cw_nn1 22 rfl rfl⟩⟩, List.forall_mem_cons.mpr ⟨⟨by decide, by decide, rfl, Or.inr ⟨rfl, _, cw_nn1 24 rfl rfl⟩⟩, List.forall_mem_cons.mpr ⟨⟨by decide, by decide, rfl, Or.inr ⟨rfl, _, cw_nn1 26 rfl rfl⟩⟩, List.forall_mem_cons.mpr ⟨⟨by decide, by decide, rfl, Or.inr ⟨rfl, _, cw_nn1 28 rfl rfl⟩⟩, List.forall_mem_cons.mpr ⟨⟨by decide, by decide, rfl, Or.inr ⟨rfl, _, cw_nn1 39 rfl rfl⟩⟩, List.forall_mem_cons.mpr ⟨⟨by decide, by decide, rfl, Or.inr ⟨rfl, _, cw_nn1 33 rfl rfl⟩⟩, List.forall_mem_cons.mpr ⟨⟨by decide, by decide, rfl, Or.inr ⟨rfl, _, cw_nn1 30 rfl rfl⟩⟩, List.forall_mem_cons.mpr ⟨⟨by decide, by decide, rfl, Or.inr ⟨rfl, _, cw_nn1 41 rfl rfl⟩⟩, List.forall_mem_cons.mpr ⟨⟨by decide, by decide, rfl, Or.inr ⟨rfl, _, cw_nn1 43 rfl rfl⟩⟩, List.forall_mem_cons.mpr ⟨⟨by decide, by decide, rfl, Or.inr ⟨rfl, _, cw_nn1 83 rfl rfl⟩⟩, fun _ h => absurd h List.not_mem_nil⟩⟩⟩⟩⟩⟩⟩⟩⟩⟩⟩⟩⟩⟩⟩⟩
def cw_flds : Nat → List (Nat × (Nat × Nat × Nat))
  | 0 => cw_flds0
  | 1 => cw_flds1
  | 2 => cw_flds2
  | _ => []
theorem cw_fok : ∀ c, ∀ q ∈ cw_flds c, cw_okF c q.1 q.2
  | 0 => cw_fok0
  | 1 => cw_fok1
  | 2 => cw_fok2
  | _ + 3 => fun _ h => absurd h List.not_mem_nil
def cw_csts : Nat → List (Nat × Int32)
  | 2 => [(195, 1047550)]
  | 4 => [(7, 905037529), (8, 1316629347), (9, 2147483647)]
  | 5 => [(265, 1431655765), (266, 858993459), (267, 252645135)]
  | _ => []
theorem cw_cok : ∀ c, ∀ q ∈ cw_csts c, Cond.constant (cw_own c) q.1 q.2 ∈ cw_T
  | 0 => fun _ h => absurd h List.not_mem_nil
  | 1 => fun _ h => absurd h List.not_mem_nil
  | 2 => List.forall_mem_cons.mpr ⟨cw_in1 128 rfl rfl, fun _ h => absurd h List.not_mem_nil⟩
  | 3 => fun _ h => absurd h List.not_mem_nil
  | 4 => List.forall_mem_cons.mpr ⟨cw_in2 38 rfl rfl, List.forall_mem_cons.mpr ⟨cw_in2 39 rfl rfl, List.forall_mem_cons.mpr ⟨cw_in2 43 rfl rfl, fun _ h => absurd h List.not_mem_nil⟩⟩⟩
  | 5 => List.forall_mem_cons.mpr ⟨cw_in1 189 rfl rfl, List.forall_mem_cons.mpr ⟨cw_in1 190 rfl rfl, List.forall_mem_cons.mpr ⟨cw_in1 191 rfl rfl, fun _ h => absurd h List.not_mem_nil⟩⟩⟩
  | _ + 6 => fun _ h => absurd h List.not_mem_nil
def cw_cstL : Nat → List (Nat × Int64)
  | 0 => [(23, 255)]
  | 4 => [(58, 59), (64, 44), (66, 45)]
  | _ => []
theorem cw_cokL : ∀ c, ∀ q ∈ cw_cstL c, Cond.constantLong (cw_own c) q.1 q.2 ∈ cw_T
  | 0 => List.forall_mem_cons.mpr ⟨cw_in2 130 rfl rfl, fun _ h => absurd h List.not_mem_nil⟩
  | 1 => fun _ h => absurd h List.not_mem_nil
  | 2 => fun _ h => absurd h List.not_mem_nil
  | 3 => fun _ h => absurd h List.not_mem_nil
  | 4 => List.forall_mem_cons.mpr ⟨cw_in2 119 rfl rfl, List.forall_mem_cons.mpr ⟨cw_in2 135 rfl rfl, List.forall_mem_cons.mpr ⟨cw_in2 136 rfl rfl, fun _ h => absurd h List.not_mem_nil⟩⟩⟩
  | 5 => fun _ h => absurd h List.not_mem_nil
  | _ + 6 => fun _ h => absurd h List.not_mem_nil
/-- a link to a method: 0 virtual, 1 static, 2 constructor; 3 to 5 the same of a nest mate; 6 Object(), 7 arraycopy, 8 max -/
def cw_okC (c idx k : Nat) (i : cw_I) : Prop := (k = 0 ∧ Cond.methodLink (cw_own c) idx i.1 ∈ cw_T ∧ Cond.instanceMethod i.1 ∈ cw_T ∧ Cond.selects i.1.cls i.1 i.1 ∈ cw_T ∧ cw_okI i) ∨ (k = 1 ∧ Cond.methodLink (cw_own c) idx i.1 ∈ cw_T ∧ Cond.static i.1 ∈ cw_T ∧ cw_okI i) ∨ (k = 2 ∧ Cond.methodLink (cw_own c) idx i.1 ∈ cw_T ∧ Cond.instanceMethod i.1 ∈ cw_T ∧ i.1.name = "<init>" ∧ i.2.2.2.1 = none ∧ cw_okI i) ∨ (k = 3 ∧ (∃ host, Cond.methodLinkNest (cw_own c) idx i.1 host ∈ cw_N) ∧ Cond.instanceMethod i.1 ∈ cw_T ∧ Cond.selects i.1.cls i.1 i.1 ∈ cw_T ∧ cw_okI i) ∨ (k = 4 ∧ (∃ host, Cond.methodLinkNest (cw_own c) idx i.1 host ∈ cw_N) ∧ Cond.static i.1 ∈ cw_T ∧ cw_okI i) ∨ (k = 5 ∧ (∃ host, Cond.methodLinkNest (cw_own c) idx i.1 host ∈ cw_N) ∧ Cond.instanceMethod i.1 ∈ cw_T ∧ i.1.name = "<init>" ∧ i.2.2.2.1 = none ∧ cw_okI i) ∨ (k = 6 ∧ Cond.methodLink (cw_own c) idx objectInit ∈ cw_T) ∨ (k = 7 ∧ Cond.methodLink (cw_own c) idx arraycopyName ∈ cw_T) ∨ (k = 8 ∧ Cond.methodLink (cw_own c) idx Lib.Math.max.name ∈ cw_T)
def cw_cls0 : List (Nat × (Nat × cw_I)) := [(3, 6, mm_J6_bitCount_0f7a4), (19, 1, mm_X0_codeIn), (25, 0, mm_X0_characterAt), (29, 1, mm_X0_isDigit), (33, 8, mm_J6_bitCount_0f7a4), (39, 4, mm_X2_opposite), (43, 4, mm_X2_setOf), (46, 3, mm_X1_tell)]
theorem cw_c0_3 : cw_okC 0 3 6 mm_J6_bitCount_0f7a4 := Or.inr (Or.inr (Or.inr (Or.inr (Or.inr (Or.inr (Or.inl ⟨rfl, cw_in1 80 rfl rfl⟩))))))
theorem cw_c0_19 : cw_okC 0 19 1 mm_X0_codeIn := Or.inr (Or.inl ⟨rfl, cw_in2 127 rfl rfl, cw_in2 128 rfl rfl, cw_KX0_codeIn⟩)
theorem cw_c0_25 : cw_okC 0 25 0 mm_X0_characterAt := Or.inl ⟨rfl, cw_in2 148 rfl rfl, cw_in2 150 rfl rfl, cw_ins 36 rfl rfl, cw_KX0_characterAt⟩
theorem cw_c0_29 : cw_okC 0 29 1 mm_X0_isDigit := Or.inr (Or.inl ⟨rfl, cw_in2 156 rfl rfl, cw_in2 157 rfl rfl, cw_KX0_isDigit⟩)
theorem cw_c0_33 : cw_okC 0 33 8 mm_J6_bitCount_0f7a4 := Or.inr (Or.inr (Or.inr (Or.inr (Or.inr (Or.inr (Or.inr (Or.inr (⟨rfl, cw_in2 159 rfl rfl⟩))))))))
theorem cw_c0_39 : cw_okC 0 39 4 mm_X2_opposite := Or.inr (Or.inr (Or.inr (Or.inr (Or.inl ⟨rfl, ⟨_, cw_nn2 168 rfl rfl⟩, cw_in1 218 rfl rfl, cw_KX2_opposite⟩))))
theorem cw_c0_43 : cw_okC 0 43 4 mm_X2_setOf := Or.inr (Or.inr (Or.inr (Or.inr (Or.inl ⟨rfl, ⟨_, cw_nn2 169 rfl rfl⟩, cw_in1 133 rfl rfl, cw_KX2_setOf⟩))))
theorem cw_c0_46 : cw_okC 0 46 3 mm_X1_tell := Or.inr (Or.inr (Or.inr (Or.inl ⟨rfl, ⟨_, cw_nn2 170 rfl rfl⟩, cw_in2 172 rfl rfl, cw_ins 40 rfl rfl, cw_KX1_tell⟩)))
theorem cw_clok0 : ∀ q ∈ cw_cls0, cw_okC 0 q.1 q.2.1 q.2.2 := List.forall_mem_cons.mpr ⟨cw_c0_3, List.forall_mem_cons.mpr ⟨cw_c0_19, List.forall_mem_cons.mpr ⟨cw_c0_25, List.forall_mem_cons.mpr ⟨cw_c0_29, List.forall_mem_cons.mpr ⟨cw_c0_33, List.forall_mem_cons.mpr ⟨cw_c0_39, List.forall_mem_cons.mpr ⟨cw_c0_43, List.forall_mem_cons.mpr ⟨cw_c0_46, fun _ h => absurd h List.not_mem_nil⟩⟩⟩⟩⟩⟩⟩⟩
def cw_cls1 : List (Nat × (Nat × cw_I)) := [(3, 6, mm_J6_bitCount_0f7a4), (55, 7, mm_J6_bitCount_0f7a4), (61, 0, mm_X1_clauseAt), (65, 4, mm_X2_opposites), (68, 4, mm_X2_has), (72, 0, mm_X1_isTrue), (76, 0, mm_X1_openSigns), (79, 1, mm_J6_bitCount_0f7a4), (88, 0, mm_X1_levelAt), (91, 0, mm_X1_signAt), (94, 4, mm_X2_thingOf), (97, 4, mm_X2_setOf), (100, 0, mm_X1_reasonAt), (103, 0, mm_X1_doOneStep), (106, 0, mm_X1_firstUntrue), (109, 0, mm_X1_meetConflict), (113, 4, mm_X2_signInOrder), (117, 0, mm_X1_presentLevel), (120, 0, mm_X1_give), (124, 0, mm_X1_lowestOpenThing), (127, 4, mm_X2_opposite), (130, 0, mm_X1_clauseOutOf), (133, 0, mm_X1_levelBelowPresent), (136, 0, mm_X1_goBackTo), (139, 0, mm_X1_forgetEarliestWithoutUse), (142, 0, mm_X1_learn), (145, 0, mm_X1_signsOfPresentLevel), (148, 8, mm_J6_bitCount_0f7a4), (153, 0, mm_X1_isReason), (156, 0, mm_X1_removeClause), (159, 0, mm_X1_lowerReasonsAbove)]
theorem cw_c1_3 : cw_okC 1 3 6 mm_J6_bitCount_0f7a4 := Or.inr (Or.inr (Or.inr (Or.inr (Or.inr (Or.inr (Or.inl ⟨rfl, cw_in1 20 rfl rfl⟩))))))
theorem cw_c1_55 : cw_okC 1 55 7 mm_J6_bitCount_0f7a4 := Or.inr (Or.inr (Or.inr (Or.inr (Or.inr (Or.inr (Or.inr (Or.inl ⟨rfl, cw_in1 147 rfl rfl⟩)))))))
theorem cw_c1_61 : cw_okC 1 61 0 mm_X1_clauseAt := Or.inl ⟨rfl, cw_in1 121 rfl rfl, cw_in1 123 rfl rfl, cw_ins 2 rfl rfl, cw_KX1_clauseAt⟩
theorem cw_c1_65 : cw_okC 1 65 4 mm_X2_opposites := Or.inr (Or.inr (Or.inr (Or.inr (Or.inl ⟨rfl, ⟨_, cw_nn1 125 rfl rfl⟩, cw_in1 126 rfl rfl, cw_KX2_opposites⟩))))
theorem cw_c1_68 : cw_okC 1 68 4 mm_X2_has := Or.inr (Or.inr (Or.inr (Or.inr (Or.inl ⟨rfl, ⟨_, cw_nn1 129 rfl rfl⟩, cw_in1 130 rfl rfl, cw_KX2_has⟩))))
theorem cw_c1_72 : cw_okC 1 72 0 mm_X1_isTrue := Or.inl ⟨rfl, cw_in1 178 rfl rfl, cw_in1 180 rfl rfl, cw_ins 12 rfl rfl, cw_KX1_isTrue⟩
theorem cw_c1_76 : cw_okC 1 76 0 mm_X1_openSigns := Or.inl ⟨rfl, cw_in1 182 rfl rfl, cw_in1 184 rfl rfl, cw_ins 13 rfl rfl, cw_KX1_openSigns⟩
theorem cw_c1_79 : cw_okC 1 79 1 mm_J6_bitCount_0f7a4 := Or.inr (Or.inl ⟨rfl, cw_in1 186 rfl rfl, cw_in1 187 rfl rfl, cw_KJ6_bitCount_0f7a4⟩)
theorem cw_c1_88 : cw_okC 1 88 0 mm_X1_levelAt := Or.inl ⟨rfl, cw_in1 200 rfl rfl, cw_in1 202 rfl rfl, cw_ins 16 rfl rfl, cw_KX1_levelAt⟩
theorem cw_c1_91 : cw_okC 1 91 0 mm_X1_signAt := Or.inl ⟨rfl, cw_in1 212 rfl rfl, cw_in1 214 rfl rfl, cw_ins 19 rfl rfl, cw_KX1_signAt⟩
theorem cw_c1_94 : cw_okC 1 94 4 mm_X2_thingOf := Or.inr (Or.inr (Or.inr (Or.inr (Or.inl ⟨rfl, ⟨_, cw_nn2 80 rfl rfl⟩, cw_in2 81 rfl rfl, cw_KX2_thingOf⟩))))
theorem cw_c1_97 : cw_okC 1 97 4 mm_X2_setOf := Or.inr (Or.inr (Or.inr (Or.inr (Or.inl ⟨rfl, ⟨_, cw_nn1 216 rfl rfl⟩, cw_in1 133 rfl rfl, cw_KX2_setOf⟩))))
theorem cw_c1_100 : cw_okC 1 100 0 mm_X1_reasonAt := Or.inl ⟨rfl, cw_in1 220 rfl rfl, cw_in1 222 rfl rfl, cw_ins 20 rfl rfl, cw_KX1_reasonAt⟩
theorem cw_c1_103 : cw_okC 1 103 0 mm_X1_doOneStep := Or.inl ⟨rfl, cw_in1 170 rfl rfl, cw_in1 172 rfl rfl, cw_ins 10 rfl rfl, cw_KX1_doOneStep⟩
theorem cw_c1_106 : cw_okC 1 106 0 mm_X1_firstUntrue := Or.inl ⟨rfl, cw_in1 174 rfl rfl, cw_in1 176 rfl rfl, cw_ins 11 rfl rfl, cw_KX1_firstUntrue⟩
theorem cw_c1_109 : cw_okC 1 109 0 mm_X1_meetConflict := Or.inl ⟨rfl, cw_in1 192 rfl rfl, cw_in1 194 rfl rfl, cw_ins 14 rfl rfl, cw_KX1_meetConflict⟩
theorem cw_c1_113 : cw_okC 1 113 4 mm_X2_signInOrder := Or.inr (Or.inr (Or.inr (Or.inr (Or.inl ⟨rfl, ⟨_, cw_nn2 15 rfl rfl⟩, cw_in2 16 rfl rfl, cw_KX2_signInOrder⟩))))
theorem cw_c1_117 : cw_okC 1 117 0 mm_X1_presentLevel := Or.inl ⟨rfl, cw_in1 196 rfl rfl, cw_in1 198 rfl rfl, cw_ins 15 rfl rfl, cw_KX1_presentLevel⟩
theorem cw_c1_120 : cw_okC 1 120 0 mm_X1_give := Or.inl ⟨rfl, cw_in2 21 rfl rfl, cw_in2 23 rfl rfl, cw_ins 28 rfl rfl, cw_KX1_give⟩
theorem cw_c1_124 : cw_okC 1 124 0 mm_X1_lowestOpenThing := Or.inl ⟨rfl, cw_in2 25 rfl rfl, cw_in2 27 rfl rfl, cw_ins 29 rfl rfl, cw_KX1_lowestOpenThing⟩
theorem cw_c1_127 : cw_okC 1 127 4 mm_X2_opposite := Or.inr (Or.inr (Or.inr (Or.inr (Or.inl ⟨rfl, ⟨_, cw_nn1 217 rfl rfl⟩, cw_in1 218 rfl rfl, cw_KX2_opposite⟩))))
theorem cw_c1_130 : cw_okC 1 130 0 mm_X1_clauseOutOf := Or.inl ⟨rfl, cw_in1 204 rfl rfl, cw_in1 206 rfl rfl, cw_ins 17 rfl rfl, cw_KX1_clauseOutOf⟩
theorem cw_c1_133 : cw_okC 1 133 0 mm_X1_levelBelowPresent := Or.inl ⟨rfl, cw_in1 224 rfl rfl, cw_in1 226 rfl rfl, cw_ins 21 rfl rfl, cw_KX1_levelBelowPresent⟩
theorem cw_c1_136 : cw_okC 1 136 0 mm_X1_goBackTo := Or.inl ⟨rfl, cw_in1 231 rfl rfl, cw_in1 233 rfl rfl, cw_ins 22 rfl rfl, cw_KX1_goBackTo⟩
theorem cw_c1_139 : cw_okC 1 139 0 mm_X1_forgetEarliestWithoutUse := Or.inl ⟨rfl, cw_in1 235 rfl rfl, cw_in1 237 rfl rfl, cw_ins 23 rfl rfl, cw_KX1_forgetEarliestWithoutUse⟩
theorem cw_c1_142 : cw_okC 1 142 0 mm_X1_learn := Or.inl ⟨rfl, cw_in2 11 rfl rfl, cw_in2 13 rfl rfl, cw_ins 27 rfl rfl, cw_KX1_learn⟩
theorem cw_c1_145 : cw_okC 1 145 0 mm_X1_signsOfPresentLevel := Or.inl ⟨rfl, cw_in1 208 rfl rfl, cw_in1 210 rfl rfl, cw_ins 18 rfl rfl, cw_KX1_signsOfPresentLevel⟩
theorem cw_c1_148 : cw_okC 1 148 8 mm_J6_bitCount_0f7a4 := Or.inr (Or.inr (Or.inr (Or.inr (Or.inr (Or.inr (Or.inr (Or.inr (⟨rfl, cw_in1 228 rfl rfl⟩))))))))
theorem cw_c1_153 : cw_okC 1 153 0 mm_X1_isReason := Or.inl ⟨rfl, cw_in1 239 rfl rfl, cw_in2 1 rfl rfl, cw_ins 24 rfl rfl, cw_KX1_isReason⟩
theorem cw_c1_156 : cw_okC 1 156 0 mm_X1_removeClause := Or.inl ⟨rfl, cw_in2 3 rfl rfl, cw_in2 5 rfl rfl, cw_ins 25 rfl rfl, cw_KX1_removeClause⟩
theorem cw_c1_159 : cw_okC 1 159 0 mm_X1_lowerReasonsAbove := Or.inl ⟨rfl, cw_in2 7 rfl rfl, cw_in2 9 rfl rfl, cw_ins 26 rfl rfl, cw_KX1_lowerReasonsAbove⟩
theorem cw_clok1 : ∀ q ∈ cw_cls1, cw_okC 1 q.1 q.2.1 q.2.2 := List.forall_mem_cons.mpr ⟨cw_c1_3, List.forall_mem_cons.mpr ⟨cw_c1_55, List.forall_mem_cons.mpr ⟨cw_c1_61, List.forall_mem_cons.mpr ⟨cw_c1_65, List.forall_mem_cons.mpr ⟨cw_c1_68, List.forall_mem_cons.mpr ⟨cw_c1_72, List.forall_mem_cons.mpr ⟨cw_c1_76, List.forall_mem_cons.mpr ⟨cw_c1_79, List.forall_mem_cons.mpr ⟨cw_c1_88, List.forall_mem_cons.mpr ⟨cw_c1_91, List.forall_mem_cons.mpr ⟨cw_c1_94, List.forall_mem_cons.mpr ⟨cw_c1_97, List.forall_mem_cons.mpr ⟨cw_c1_100, List.forall_mem_cons.mpr ⟨cw_c1_103, List.forall_mem_cons.mpr ⟨cw_c1_106, List.forall_mem_cons.mpr ⟨cw_c1_109, List.forall_mem_cons.mpr ⟨cw_c1_113, List.forall_mem_cons.mpr ⟨cw_c1_117, List.forall_mem_cons.mpr ⟨cw_c1_120, List.forall_mem_cons.mpr ⟨cw_c1_124, List.forall_mem_cons.mpr ⟨cw_c1_127, List.forall_mem_cons.mpr ⟨cw_c1_130, List.forall_mem_cons.mpr ⟨cw_c1_133, List.forall_mem_cons.mpr ⟨cw_c1_136, List.forall_mem_cons.mpr ⟨cw_c1_139, List.forall_mem_cons.mpr ⟨cw_c1_142, List.forall_mem_cons.mpr ⟨cw_c1_145, List.forall_mem_cons.mpr ⟨cw_c1_148, List.forall_mem_cons.mpr ⟨cw_c1_153, List.forall_mem_cons.mpr ⟨cw_c1_156, List.forall_mem_cons.mpr ⟨cw_c1_159, fun _ h => absurd h List.not_mem_nil⟩⟩⟩⟩⟩⟩⟩⟩⟩⟩⟩⟩⟩⟩⟩⟩⟩⟩⟩⟩⟩⟩⟩⟩⟩⟩⟩⟩⟩⟩⟩
def cw_cls2 : List (Nat × (Nat × cw_I)) := [(3, 6, mm_J6_bitCount_0f7a4), (11, 5, mm_X1_init), (32, 5, mm_X0_init), (37, 0, mm_X2_setThings), (41, 0, mm_X2_setRestart), (44, 0, mm_X2_setFirst), (47, 3, mm_X1_toldNeeds), (51, 0, mm_X2_record), (57, 3, mm_X1_beginAnew), (66, 3, mm_X0_firstFault), (69, 3, mm_X0_greatestThing), (75, 3, mm_X0_howManyClauses), (78, 3, mm_X0_tellClausesTo), (82, 3, mm_X0_empty), (89, 3, mm_X1_doSteps), (95, 3, mm_X1_presentLevel), (98, 3, mm_X1_goBackTo), (104, 0, mm_X2_isNoThing), (108, 3, mm_X1_placeOf), (111, 3, mm_X1_signAt), (114, 3, mm_X1_levelAt), (117, 3, mm_X1_reasonAt), (120, 1, mm_X2_thingOf), (123, 0, mm_X2_isNoClause), (126, 3, mm_X1_clauseAt), (129, 1, mm_J6_bitCount_0f7a4), (134, 3, mm_X1_isTrue), (137, 3, mm_X1_openSigns), (140, 1, mm_X2_signInOrder), (171, 1, mm_X2_has), (175, 3, mm_X1_copyFrom), (178, 1, mm_X2_setOf), (184, 4, mm_X0_charactersIn), (188, 3, mm_X0_append), (192, 0, mm_X2_moveOldestToEnd), (196, 1, mm_X2_opposites), (199, 1, mm_X2_opposite)]
theorem cw_c2_3 : cw_okC 2 3 6 mm_J6_bitCount_0f7a4 := Or.inr (Or.inr (Or.inr (Or.inr (Or.inr (Or.inr (Or.inl ⟨rfl, cw_in1 12 rfl rfl⟩))))))
theorem cw_c2_11 : cw_okC 2 11 5 mm_X1_init := Or.inr (Or.inr (Or.inr (Or.inr (Or.inr (Or.inl ⟨rfl, ⟨_, cw_nn1 17 rfl rfl⟩, cw_in1 18 rfl rfl, rfl, rfl, cw_KX1_init⟩)))))
theorem cw_c2_32 : cw_okC 2 32 5 mm_X0_init := Or.inr (Or.inr (Or.inr (Or.inr (Or.inr (Or.inl ⟨rfl, ⟨_, cw_nn1 77 rfl rfl⟩, cw_in1 78 rfl rfl, rfl, rfl, cw_KX0_init⟩)))))
theorem cw_c2_37 : cw_okC 2 37 0 mm_X2_setThings := Or.inl ⟨rfl, cw_in1 113 rfl rfl, cw_in1 115 rfl rfl, cw_ins 0 rfl rfl, cw_KX2_setThings⟩
theorem cw_c2_41 : cw_okC 2 41 0 mm_X2_setRestart := Or.inl ⟨rfl, cw_in1 154 rfl rfl, cw_in1 156 rfl rfl, cw_ins 7 rfl rfl, cw_KX2_setRestart⟩
theorem cw_c2_44 : cw_okC 2 44 0 mm_X2_setFirst := Or.inl ⟨rfl, cw_in1 158 rfl rfl, cw_in1 160 rfl rfl, cw_ins 8 rfl rfl, cw_KX2_setFirst⟩
theorem cw_c2_47 : cw_okC 2 47 3 mm_X1_toldNeeds := Or.inr (Or.inr (Or.inr (Or.inl ⟨rfl, ⟨_, cw_nn1 117 rfl rfl⟩, cw_in1 119 rfl rfl, cw_ins 1 rfl rfl, cw_KX1_toldNeeds⟩)))
theorem cw_c2_51 : cw_okC 2 51 0 mm_X2_record := Or.inl ⟨rfl, cw_in1 135 rfl rfl, cw_in1 137 rfl rfl, cw_ins 3 rfl rfl, cw_KX2_record⟩
theorem cw_c2_57 : cw_okC 2 57 3 mm_X1_beginAnew := Or.inr (Or.inr (Or.inr (Or.inl ⟨rfl, ⟨_, cw_nn1 150 rfl rfl⟩, cw_in1 152 rfl rfl, cw_ins 6 rfl rfl, cw_KX1_beginAnew⟩)))
theorem cw_c2_66 : cw_okC 2 66 3 mm_X0_firstFault := Or.inr (Or.inr (Or.inr (Or.inl ⟨rfl, ⟨_, cw_nn2 144 rfl rfl⟩, cw_in2 146 rfl rfl, cw_ins 35 rfl rfl, cw_KX0_firstFault⟩)))
theorem cw_c2_69 : cw_okC 2 69 3 mm_X0_greatestThing := Or.inr (Or.inr (Or.inr (Or.inl ⟨rfl, ⟨_, cw_nn2 152 rfl rfl⟩, cw_in2 154 rfl rfl, cw_ins 37 rfl rfl, cw_KX0_greatestThing⟩)))
theorem cw_c2_75 : cw_okC 2 75 3 mm_X0_howManyClauses := Or.inr (Or.inr (Or.inr (Or.inl ⟨rfl, ⟨_, cw_nn2 160 rfl rfl⟩, cw_in2 162 rfl rfl, cw_ins 38 rfl rfl, cw_KX0_howManyClauses⟩)))
theorem cw_c2_78 : cw_okC 2 78 3 mm_X0_tellClausesTo := Or.inr (Or.inr (Or.inr (Or.inl ⟨rfl, ⟨_, cw_nn2 164 rfl rfl⟩, cw_in2 166 rfl rfl, cw_ins 39 rfl rfl, cw_KX0_tellClausesTo⟩)))
theorem cw_c2_82 : cw_okC 2 82 3 mm_X0_empty := Or.inr (Or.inr (Or.inr (Or.inl ⟨rfl, ⟨_, cw_nn2 115 rfl rfl⟩, cw_in2 117 rfl rfl, cw_ins 33 rfl rfl, cw_KX0_empty⟩)))
theorem cw_c2_89 : cw_okC 2 89 3 mm_X1_doSteps := Or.inr (Or.inr (Or.inr (Or.inl ⟨rfl, ⟨_, cw_nn1 166 rfl rfl⟩, cw_in1 168 rfl rfl, cw_ins 9 rfl rfl, cw_KX1_doSteps⟩)))
theorem cw_c2_95 : cw_okC 2 95 3 mm_X1_presentLevel := Or.inr (Or.inr (Or.inr (Or.inl ⟨rfl, ⟨_, cw_nn2 33 rfl rfl⟩, cw_in1 198 rfl rfl, cw_ins 15 rfl rfl, cw_KX1_presentLevel⟩)))
theorem cw_c2_98 : cw_okC 2 98 3 mm_X1_goBackTo := Or.inr (Or.inr (Or.inr (Or.inl ⟨rfl, ⟨_, cw_nn2 34 rfl rfl⟩, cw_in1 233 rfl rfl, cw_ins 22 rfl rfl, cw_KX1_goBackTo⟩)))
theorem cw_c2_104 : cw_okC 2 104 0 mm_X2_isNoThing := Or.inl ⟨rfl, cw_in2 72 rfl rfl, cw_in2 74 rfl rfl, cw_ins 30 rfl rfl, cw_KX2_isNoThing⟩
theorem cw_c2_108 : cw_okC 2 108 3 mm_X1_placeOf := Or.inr (Or.inr (Or.inr (Or.inl ⟨rfl, ⟨_, cw_nn2 76 rfl rfl⟩, cw_in2 78 rfl rfl, cw_ins 31 rfl rfl, cw_KX1_placeOf⟩)))
theorem cw_c2_111 : cw_okC 2 111 3 mm_X1_signAt := Or.inr (Or.inr (Or.inr (Or.inl ⟨rfl, ⟨_, cw_nn2 83 rfl rfl⟩, cw_in1 214 rfl rfl, cw_ins 19 rfl rfl, cw_KX1_signAt⟩)))
theorem cw_c2_114 : cw_okC 2 114 3 mm_X1_levelAt := Or.inr (Or.inr (Or.inr (Or.inl ⟨rfl, ⟨_, cw_nn2 84 rfl rfl⟩, cw_in1 202 rfl rfl, cw_ins 16 rfl rfl, cw_KX1_levelAt⟩)))
theorem cw_c2_117 : cw_okC 2 117 3 mm_X1_reasonAt := Or.inr (Or.inr (Or.inr (Or.inl ⟨rfl, ⟨_, cw_nn2 85 rfl rfl⟩, cw_in1 222 rfl rfl, cw_ins 20 rfl rfl, cw_KX1_reasonAt⟩)))
theorem cw_c2_120 : cw_okC 2 120 1 mm_X2_thingOf := Or.inr (Or.inl ⟨rfl, cw_in2 90 rfl rfl, cw_in2 81 rfl rfl, cw_KX2_thingOf⟩)
theorem cw_c2_123 : cw_okC 2 123 0 mm_X2_isNoClause := Or.inl ⟨rfl, cw_in2 95 rfl rfl, cw_in2 97 rfl rfl, cw_ins 32 rfl rfl, cw_KX2_isNoClause⟩
theorem cw_c2_126 : cw_okC 2 126 3 mm_X1_clauseAt := Or.inr (Or.inr (Or.inr (Or.inl ⟨rfl, ⟨_, cw_nn2 99 rfl rfl⟩, cw_in1 123 rfl rfl, cw_ins 2 rfl rfl, cw_KX1_clauseAt⟩)))
theorem cw_c2_129 : cw_okC 2 129 1 mm_J6_bitCount_0f7a4 := Or.inr (Or.inl ⟨rfl, cw_in2 100 rfl rfl, cw_in1 187 rfl rfl, cw_KJ6_bitCount_0f7a4⟩)
theorem cw_c2_134 : cw_okC 2 134 3 mm_X1_isTrue := Or.inr (Or.inr (Or.inr (Or.inl ⟨rfl, ⟨_, cw_nn2 101 rfl rfl⟩, cw_in1 180 rfl rfl, cw_ins 12 rfl rfl, cw_KX1_isTrue⟩)))
theorem cw_c2_137 : cw_okC 2 137 3 mm_X1_openSigns := Or.inr (Or.inr (Or.inr (Or.inl ⟨rfl, ⟨_, cw_nn2 102 rfl rfl⟩, cw_in1 184 rfl rfl, cw_ins 13 rfl rfl, cw_KX1_openSigns⟩)))
theorem cw_c2_140 : cw_okC 2 140 1 mm_X2_signInOrder := Or.inr (Or.inl ⟨rfl, cw_in2 103 rfl rfl, cw_in2 16 rfl rfl, cw_KX2_signInOrder⟩)
theorem cw_c2_171 : cw_okC 2 171 1 mm_X2_has := Or.inr (Or.inl ⟨rfl, cw_in2 19 rfl rfl, cw_in1 130 rfl rfl, cw_KX2_has⟩)
theorem cw_c2_175 : cw_okC 2 175 3 mm_X1_copyFrom := Or.inr (Or.inr (Or.inr (Or.inl ⟨rfl, ⟨_, cw_nn1 143 rfl rfl⟩, cw_in1 145 rfl rfl, cw_ins 5 rfl rfl, cw_KX1_copyFrom⟩)))
theorem cw_c2_178 : cw_okC 2 178 1 mm_X2_setOf := Or.inr (Or.inl ⟨rfl, cw_in1 132 rfl rfl, cw_in1 133 rfl rfl, cw_KX2_setOf⟩)
theorem cw_c2_184 : cw_okC 2 184 4 mm_X0_charactersIn := Or.inr (Or.inr (Or.inr (Or.inr (Or.inl ⟨rfl, ⟨_, cw_nn2 124 rfl rfl⟩, cw_in2 125 rfl rfl, cw_KX0_charactersIn⟩))))
theorem cw_c2_188 : cw_okC 2 188 3 mm_X0_append := Or.inr (Or.inr (Or.inr (Or.inl ⟨rfl, ⟨_, cw_nn2 131 rfl rfl⟩, cw_in2 133 rfl rfl, cw_ins 34 rfl rfl, cw_KX0_append⟩)))
theorem cw_c2_192 : cw_okC 2 192 0 mm_X2_moveOldestToEnd := Or.inl ⟨rfl, cw_in1 139 rfl rfl, cw_in1 141 rfl rfl, cw_ins 4 rfl rfl, cw_KX2_moveOldestToEnd⟩
theorem cw_c2_196 : cw_okC 2 196 1 mm_X2_opposites := Or.inr (Or.inl ⟨rfl, cw_in2 18 rfl rfl, cw_in1 126 rfl rfl, cw_KX2_opposites⟩)
theorem cw_c2_199 : cw_okC 2 199 1 mm_X2_opposite := Or.inr (Or.inl ⟨rfl, cw_in2 20 rfl rfl, cw_in1 218 rfl rfl, cw_KX2_opposite⟩)
theorem cw_clok2 : ∀ q ∈ cw_cls2, cw_okC 2 q.1 q.2.1 q.2.2 := List.forall_mem_cons.mpr ⟨cw_c2_3, List.forall_mem_cons.mpr ⟨cw_c2_11, List.forall_mem_cons.mpr ⟨cw_c2_32, List.forall_mem_cons.mpr ⟨cw_c2_37, List.forall_mem_cons.mpr ⟨cw_c2_41, List.forall_mem_cons.mpr ⟨cw_c2_44, List.forall_mem_cons.mpr ⟨cw_c2_47, List.forall_mem_cons.mpr ⟨cw_c2_51, List.forall_mem_cons.mpr ⟨cw_c2_57, List.forall_mem_cons.mpr ⟨cw_c2_66, List.forall_mem_cons.mpr ⟨cw_c2_69, List.forall_mem_cons.mpr ⟨cw_c2_75, List.forall_mem_cons.mpr ⟨cw_c2_78, List.forall_mem_cons.mpr ⟨cw_c2_82, List.forall_mem_cons.mpr ⟨cw_c2_89, List.forall_mem_cons.mpr ⟨cw_c2_95, List.forall_mem_cons.mpr ⟨cw_c2_98, List.forall_mem_cons.mpr ⟨cw_c2_104, List.forall_mem_cons.mpr ⟨cw_c2_108, List.forall_mem_cons.mpr ⟨cw_c2_111, List.forall_mem_cons.mpr ⟨cw_c2_114, List.forall_mem_cons.mpr ⟨cw_c2_117, List.forall_mem_cons.mpr ⟨cw_c2_120, List.forall_mem_cons.mpr ⟨cw_c2_123, List.forall_mem_cons.mpr ⟨cw_c2_126, List.forall_mem_cons.mpr ⟨cw_c2_129, List.forall_mem_cons.mpr ⟨cw_c2_134, List.forall_mem_cons.mpr ⟨cw_c2_137, List.forall_mem_cons.mpr ⟨cw_c2_140, List.forall_mem_cons.mpr ⟨cw_c2_171, List.forall_mem_cons.mpr ⟨cw_c2_175, List.forall_mem_cons.mpr ⟨cw_c2_178, List.forall_mem_cons.mpr ⟨cw_c2_184, List.forall_mem_cons.mpr ⟨cw_c2_188, List.forall_mem_cons.mpr ⟨cw_c2_192, List.forall_mem_cons.mpr ⟨cw_c2_196, List.forall_mem_cons.mpr ⟨cw_c2_199, fun _ h => absurd h List.not_mem_nil⟩⟩⟩⟩⟩⟩⟩⟩⟩⟩⟩⟩⟩⟩⟩⟩⟩⟩⟩⟩⟩⟩⟩⟩⟩⟩⟩⟩⟩⟩⟩⟩⟩⟩⟩⟩⟩
def cw_cls3 : List (Nat × (Nat × cw_I)) := []
theorem cw_clok3 : ∀ q ∈ cw_cls3, cw_okC 3 q.1 q.2.1 q.2.2 := fun _ h => absurd h List.not_mem_nil
def cw_cls4 : List (Nat × (Nat × cw_I)) := [(10, 1, mm_L_back), (16, 1, mm_L_isTrue), (20, 1, mm_L_open), (24, 1, mm_L_learn), (28, 1, mm_L_bits), (32, 1, mm_L_give), (36, 0, mm_X2_of), (42, 0, mm_X2_trail), (45, 0, mm_X2_clause), (48, 0, mm_X2_count), (51, 0, mm_X2_wipe), (55, 1, mm_L_low), (60, 0, mm_X2_put), (68, 1, mm_L_anew), (72, 0, mm_X2_read), (75, 2, mm_X2_init), (76, 1, mm_L_cell), (80, 0, mm_X2_set), (83, 1, mm_L_reads), (87, 1, mm_L_step), (91, 0, mm_X2_step), (93, 0, mm_X2_back), (95, 1, mm_L_same)]
theorem cw_c4_10 : cw_okC 4 10 1 mm_L_back := Or.inr (Or.inl ⟨rfl, cw_in2 44 rfl rfl, cw_in2 45 rfl rfl, cw_KL_back⟩)
theorem cw_c4_16 : cw_okC 4 16 1 mm_L_isTrue := Or.inr (Or.inl ⟨rfl, cw_in2 50 rfl rfl, cw_in2 51 rfl rfl, cw_KL_isTrue⟩)
theorem cw_c4_20 : cw_okC 4 20 1 mm_L_open := Or.inr (Or.inl ⟨rfl, cw_in2 53 rfl rfl, cw_in2 54 rfl rfl, cw_KL_open⟩)
theorem cw_c4_24 : cw_okC 4 24 1 mm_L_learn := Or.inr (Or.inl ⟨rfl, cw_in2 56 rfl rfl, cw_in2 57 rfl rfl, cw_KL_learn⟩)
theorem cw_c4_28 : cw_okC 4 28 1 mm_L_bits := Or.inr (Or.inl ⟨rfl, cw_in2 59 rfl rfl, cw_in2 60 rfl rfl, cw_KL_bits⟩)
theorem cw_c4_32 : cw_okC 4 32 1 mm_L_give := Or.inr (Or.inl ⟨rfl, cw_in2 62 rfl rfl, cw_in2 63 rfl rfl, cw_KL_give⟩)
theorem cw_c4_36 : cw_okC 4 36 0 mm_X2_of := Or.inl ⟨rfl, cw_in2 68 rfl rfl, cw_in2 69 rfl rfl, cw_in2 70 rfl rfl, cw_KX2_of⟩
theorem cw_c4_42 : cw_okC 4 42 0 mm_X2_trail := Or.inl ⟨rfl, cw_in2 86 rfl rfl, cw_in2 87 rfl rfl, cw_in2 88 rfl rfl, cw_KX2_trail⟩
theorem cw_c4_45 : cw_okC 4 45 0 mm_X2_clause := Or.inl ⟨rfl, cw_in2 91 rfl rfl, cw_in2 92 rfl rfl, cw_in2 93 rfl rfl, cw_KX2_clause⟩
theorem cw_c4_48 : cw_okC 4 48 0 mm_X2_count := Or.inl ⟨rfl, cw_in2 104 rfl rfl, cw_in2 105 rfl rfl, cw_in2 106 rfl rfl, cw_KX2_count⟩
theorem cw_c4_51 : cw_okC 4 51 0 mm_X2_wipe := Or.inl ⟨rfl, cw_in2 111 rfl rfl, cw_in2 112 rfl rfl, cw_in2 113 rfl rfl, cw_KX2_wipe⟩
theorem cw_c4_55 : cw_okC 4 55 1 mm_L_low := Or.inr (Or.inl ⟨rfl, cw_in2 40 rfl rfl, cw_in2 41 rfl rfl, cw_KL_low⟩)
theorem cw_c4_60 : cw_okC 4 60 0 mm_X2_put := Or.inl ⟨rfl, cw_in2 120 rfl rfl, cw_in2 121 rfl rfl, cw_in2 122 rfl rfl, cw_KX2_put⟩
theorem cw_c4_68 : cw_okC 4 68 1 mm_L_anew := Or.inr (Or.inl ⟨rfl, cw_in2 137 rfl rfl, cw_in2 138 rfl rfl, cw_KL_anew⟩)
theorem cw_c4_72 : cw_okC 4 72 0 mm_X2_read := Or.inl ⟨rfl, cw_in2 140 rfl rfl, cw_in2 141 rfl rfl, cw_in2 142 rfl rfl, cw_KX2_read⟩
theorem cw_c4_75 : cw_okC 4 75 2 mm_X2_init := Or.inr (Or.inr (Or.inl ⟨rfl, cw_in1 9 rfl rfl, cw_in1 10 rfl rfl, rfl, rfl, cw_KX2_init⟩))
theorem cw_c4_76 : cw_okC 4 76 1 mm_L_cell := Or.inr (Or.inl ⟨rfl, cw_in2 35 rfl rfl, cw_in2 36 rfl rfl, cw_KL_cell⟩)
theorem cw_c4_80 : cw_okC 4 80 0 mm_X2_set := Or.inl ⟨rfl, cw_in1 109 rfl rfl, cw_in1 110 rfl rfl, cw_in1 111 rfl rfl, cw_KX2_set⟩
theorem cw_c4_83 : cw_okC 4 83 1 mm_L_reads := Or.inr (Or.inl ⟨rfl, cw_in2 108 rfl rfl, cw_in2 109 rfl rfl, cw_KL_reads⟩)
theorem cw_c4_87 : cw_okC 4 87 1 mm_L_step := Or.inr (Or.inl ⟨rfl, cw_in2 47 rfl rfl, cw_in2 48 rfl rfl, cw_KL_step⟩)
theorem cw_c4_91 : cw_okC 4 91 0 mm_X2_step := Or.inl ⟨rfl, cw_in1 162 rfl rfl, cw_in1 163 rfl rfl, cw_in1 164 rfl rfl, cw_KX2_step⟩
theorem cw_c4_93 : cw_okC 4 93 0 mm_X2_back := Or.inl ⟨rfl, cw_in2 29 rfl rfl, cw_in2 30 rfl rfl, cw_in2 31 rfl rfl, cw_KX2_back⟩
theorem cw_c4_95 : cw_okC 4 95 1 mm_L_same := Or.inr (Or.inl ⟨rfl, cw_in2 65 rfl rfl, cw_in2 66 rfl rfl, cw_KL_same⟩)
theorem cw_clok4 : ∀ q ∈ cw_cls4, cw_okC 4 q.1 q.2.1 q.2.2 := List.forall_mem_cons.mpr ⟨cw_c4_10, List.forall_mem_cons.mpr ⟨cw_c4_16, List.forall_mem_cons.mpr ⟨cw_c4_20, List.forall_mem_cons.mpr ⟨cw_c4_24, List.forall_mem_cons.mpr ⟨cw_c4_28, List.forall_mem_cons.mpr ⟨cw_c4_32, List.forall_mem_cons.mpr ⟨cw_c4_36, List.forall_mem_cons.mpr ⟨cw_c4_42, List.forall_mem_cons.mpr ⟨cw_c4_45, List.forall_mem_cons.mpr ⟨cw_c4_48, List.forall_mem_cons.mpr ⟨cw_c4_51, List.forall_mem_cons.mpr ⟨cw_c4_55, List.forall_mem_cons.mpr ⟨cw_c4_60, List.forall_mem_cons.mpr ⟨cw_c4_68, List.forall_mem_cons.mpr ⟨cw_c4_72, List.forall_mem_cons.mpr ⟨cw_c4_75, List.forall_mem_cons.mpr ⟨cw_c4_76, List.forall_mem_cons.mpr ⟨cw_c4_80, List.forall_mem_cons.mpr ⟨cw_c4_83, List.forall_mem_cons.mpr ⟨cw_c4_87, List.forall_mem_cons.mpr ⟨cw_c4_91, List.forall_mem_cons.mpr ⟨cw_c4_93, List.forall_mem_cons.mpr ⟨cw_c4_95, fun _ h => absurd h List.not_mem_nil⟩⟩⟩⟩⟩⟩⟩⟩⟩⟩⟩⟩⟩⟩⟩⟩⟩⟩⟩⟩⟩⟩⟩
def cw_cls5 : List (Nat × (Nat × cw_I)) := []
theorem cw_clok5 : ∀ q ∈ cw_cls5, cw_okC 5 q.1 q.2.1 q.2.2 := fun _ h => absurd h List.not_mem_nil
def cw_cls : Nat → List (Nat × (Nat × cw_I))
  | 0 => cw_cls0
  | 1 => cw_cls1
  | 2 => cw_cls2
  | 3 => cw_cls3
  | 4 => cw_cls4
  | 5 => cw_cls5
  | _ => []
theorem cw_clok : ∀ c, ∀ q ∈ cw_cls c, cw_okC c q.1 q.2.1 q.2.2
  | 0 => cw_clok0
  | 1 => cw_clok1
  | 2 => cw_clok2
  | 3 => cw_clok3
  | 4 => cw_clok4
  | 5 => cw_clok5
  | _ + 6 => fun _ h => absurd h List.not_mem_nil
def cw_news : Nat → List (Nat × Nat)
  | 2 => [(9, 1), (30, 0)]
  | 4 => [(37, 2)]
  | _ => []
theorem cw_nok : ∀ c, ∀ q ∈ cw_news c, q.2 < 3 ∧ Cond.classLink (cw_own c) q.1 (cw_own q.2) ∈ cw_T ∧ Cond.instantiable (cw_own q.2) (cw_cn q.2) ∈ cw_T ∧ Cond.initialized (cw_own q.2) ∈ cw_T
  | 0 => fun _ h => absurd h List.not_mem_nil
  | 1 => fun _ h => absurd h List.not_mem_nil
  | 2 => List.forall_mem_cons.mpr ⟨⟨by decide, cw_in1 15 rfl rfl, cw_in1 16 rfl rfl, cw_in1 2 rfl rfl⟩, List.forall_mem_cons.mpr ⟨⟨by decide, cw_in1 75 rfl rfl, cw_in1 76 rfl rfl, cw_in1 3 rfl rfl⟩, fun _ h => absurd h List.not_mem_nil⟩⟩
  | 3 => fun _ h => absurd h List.not_mem_nil
  | 4 => List.forall_mem_cons.mpr ⟨⟨by decide, cw_in1 7 rfl rfl, cw_in1 8 rfl rfl, cw_in1 1 rfl rfl⟩, fun _ h => absurd h List.not_mem_nil⟩
  | 5 => fun _ h => absurd h List.not_mem_nil
  | _ + 6 => fun _ h => absurd h List.not_mem_nil
theorem cw_g_oi1 : Cond.instanceMethod objectInit ∈ cw_T := cw_in1 13 rfl rfl
theorem cw_g_sys : Cond.initialized "java/lang/System" ∈ cw_T := cw_in1 4 rfl rfl
theorem cw_g_math : Cond.initialized "java/lang/Math" ∈ cw_T := cw_in1 5 rfl rfl
theorem cw_g_cpn : Cond.native arraycopyName ∈ cw_T := cw_in1 149 rfl rfl
theorem cw_g_cps : Cond.static arraycopyName ∈ cw_T := cw_in1 148 rfl rfl
theorem cw_g_ms : Cond.static Lib.Math.max.name ∈ cw_T := cw_in1 229 rfl rfl
theorem cw_g_ai : Cond.arrayClass .int ∈ cw_T := cw_in1 73 rfl rfl
theorem cw_g_ac : Cond.arrayClass .char ∈ cw_T := cw_in1 89 rfl rfl
theorem cw_g_oi2 : Cond.code objectInit ⟨#[0xb1]⟩ 1 none ∈ cw_T := cw_in1 14 rfl rfl
theorem cw_g_mc : Cond.code Lib.Math.max.name Lib.Math.max.code 2 (some .int) ∈ cw_T := cw_in1 230 rfl rfl
