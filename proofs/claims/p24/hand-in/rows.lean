section
-- ===== PART A: goes FIRST, ahead of the names: the tables' words, and 'selects' of the private methods out of them =====
/-- a private method of a class that the tables say can be made, by its rows of tables_1 -/
def lw_okq (q : MethodName × Nat) : Prop := (q.1.cls ≠ "java/lang/invoke/MethodHandle" ∧ q.1.cls ≠ "java/lang/invoke/VarHandle") ∧ Cond.instantiable q.1.cls q.2 ∈ tables_1 ∧ Cond.privateMethod q.1 ∈ tables_1 ∧ Cond.instanceMethod q.1 ∈ tables_1
theorem lw_p0 : lw_okq (⟨"ClauseWatch", "setThings", "(I)I"⟩, 6) := ⟨⟨by decide +kernel, by decide +kernel⟩, List.mem_of_getElem? (i := 8) (by decide +kernel), List.mem_of_getElem? (i := 114) (by decide +kernel), List.mem_of_getElem? (i := 115) (by decide +kernel)⟩
theorem lw_p1 : lw_okq (⟨"ClauseWatch$Search", "toldNeeds", "()I"⟩, 14) := ⟨⟨by decide +kernel, by decide +kernel⟩, List.mem_of_getElem? (i := 16) (by decide +kernel), List.mem_of_getElem? (i := 118) (by decide +kernel), List.mem_of_getElem? (i := 119) (by decide +kernel)⟩
theorem lw_p2 : lw_okq (⟨"ClauseWatch$Search", "clauseAt", "(I)I"⟩, 14) := ⟨⟨by decide +kernel, by decide +kernel⟩, List.mem_of_getElem? (i := 16) (by decide +kernel), List.mem_of_getElem? (i := 122) (by decide +kernel), List.mem_of_getElem? (i := 123) (by decide +kernel)⟩
theorem lw_p3 : lw_okq (⟨"ClauseWatch", "record", "()V"⟩, 6) := ⟨⟨by decide +kernel, by decide +kernel⟩, List.mem_of_getElem? (i := 8) (by decide +kernel), List.mem_of_getElem? (i := 136) (by decide +kernel), List.mem_of_getElem? (i := 137) (by decide +kernel)⟩
theorem lw_p4 : lw_okq (⟨"ClauseWatch", "moveOldestToEnd", "()V"⟩, 6) := ⟨⟨by decide +kernel, by decide +kernel⟩, List.mem_of_getElem? (i := 8) (by decide +kernel), List.mem_of_getElem? (i := 140) (by decide +kernel), List.mem_of_getElem? (i := 141) (by decide +kernel)⟩
theorem lw_p5 : lw_okq (⟨"ClauseWatch$Search", "copyFrom", "(LClauseWatch$Search;)V"⟩, 14) := ⟨⟨by decide +kernel, by decide +kernel⟩, List.mem_of_getElem? (i := 16) (by decide +kernel), List.mem_of_getElem? (i := 144) (by decide +kernel), List.mem_of_getElem? (i := 145) (by decide +kernel)⟩
theorem lw_p6 : lw_okq (⟨"ClauseWatch$Search", "beginAnew", "()V"⟩, 14) := ⟨⟨by decide +kernel, by decide +kernel⟩, List.mem_of_getElem? (i := 16) (by decide +kernel), List.mem_of_getElem? (i := 151) (by decide +kernel), List.mem_of_getElem? (i := 152) (by decide +kernel)⟩
theorem lw_p7 : lw_okq (⟨"ClauseWatch", "setRestart", "(I)I"⟩, 6) := ⟨⟨by decide +kernel, by decide +kernel⟩, List.mem_of_getElem? (i := 8) (by decide +kernel), List.mem_of_getElem? (i := 155) (by decide +kernel), List.mem_of_getElem? (i := 156) (by decide +kernel)⟩
theorem lw_p8 : lw_okq (⟨"ClauseWatch", "setFirst", "(I)I"⟩, 6) := ⟨⟨by decide +kernel, by decide +kernel⟩, List.mem_of_getElem? (i := 8) (by decide +kernel), List.mem_of_getElem? (i := 159) (by decide +kernel), List.mem_of_getElem? (i := 160) (by decide +kernel)⟩
theorem lw_p9 : lw_okq (⟨"ClauseWatch$Search", "doSteps", "(I)V"⟩, 14) := ⟨⟨by decide +kernel, by decide +kernel⟩, List.mem_of_getElem? (i := 16) (by decide +kernel), List.mem_of_getElem? (i := 167) (by decide +kernel), List.mem_of_getElem? (i := 168) (by decide +kernel)⟩
theorem lw_p10 : lw_okq (⟨"ClauseWatch$Search", "doOneStep", "()V"⟩, 14) := ⟨⟨by decide +kernel, by decide +kernel⟩, List.mem_of_getElem? (i := 16) (by decide +kernel), List.mem_of_getElem? (i := 171) (by decide +kernel), List.mem_of_getElem? (i := 172) (by decide +kernel)⟩
theorem lw_p11 : lw_okq (⟨"ClauseWatch$Search", "firstUntrue", "(I)I"⟩, 14) := ⟨⟨by decide +kernel, by decide +kernel⟩, List.mem_of_getElem? (i := 16) (by decide +kernel), List.mem_of_getElem? (i := 175) (by decide +kernel), List.mem_of_getElem? (i := 176) (by decide +kernel)⟩
theorem lw_p12 : lw_okq (⟨"ClauseWatch$Search", "isTrue", "(I)Z"⟩, 14) := ⟨⟨by decide +kernel, by decide +kernel⟩, List.mem_of_getElem? (i := 16) (by decide +kernel), List.mem_of_getElem? (i := 179) (by decide +kernel), List.mem_of_getElem? (i := 180) (by decide +kernel)⟩
theorem lw_p13 : lw_okq (⟨"ClauseWatch$Search", "openSigns", "(I)I"⟩, 14) := ⟨⟨by decide +kernel, by decide +kernel⟩, List.mem_of_getElem? (i := 16) (by decide +kernel), List.mem_of_getElem? (i := 183) (by decide +kernel), List.mem_of_getElem? (i := 184) (by decide +kernel)⟩
theorem lw_p14 : lw_okq (⟨"ClauseWatch$Search", "meetConflict", "(I)V"⟩, 14) := ⟨⟨by decide +kernel, by decide +kernel⟩, List.mem_of_getElem? (i := 16) (by decide +kernel), List.mem_of_getElem? (i := 193) (by decide +kernel), List.mem_of_getElem? (i := 194) (by decide +kernel)⟩
theorem lw_p15 : lw_okq (⟨"ClauseWatch$Search", "presentLevel", "()I"⟩, 14) := ⟨⟨by decide +kernel, by decide +kernel⟩, List.mem_of_getElem? (i := 16) (by decide +kernel), List.mem_of_getElem? (i := 197) (by decide +kernel), List.mem_of_getElem? (i := 198) (by decide +kernel)⟩
def lw_privs_1 : List (MethodName × Nat) := [(⟨"ClauseWatch", "setThings", "(I)I"⟩, 6), (⟨"ClauseWatch$Search", "toldNeeds", "()I"⟩, 14), (⟨"ClauseWatch$Search", "clauseAt", "(I)I"⟩, 14), (⟨"ClauseWatch", "record", "()V"⟩, 6), (⟨"ClauseWatch", "moveOldestToEnd", "()V"⟩, 6), (⟨"ClauseWatch$Search", "copyFrom", "(LClauseWatch$Search;)V"⟩, 14), (⟨"ClauseWatch$Search", "beginAnew", "()V"⟩, 14), (⟨"ClauseWatch", "setRestart", "(I)I"⟩, 6), (⟨"ClauseWatch", "setFirst", "(I)I"⟩, 6), (⟨"ClauseWatch$Search", "doSteps", "(I)V"⟩, 14), (⟨"ClauseWatch$Search", "doOneStep", "()V"⟩, 14), (⟨"ClauseWatch$Search", "firstUntrue", "(I)I"⟩, 14), (⟨"ClauseWatch$Search", "isTrue", "(I)Z"⟩, 14), (⟨"ClauseWatch$Search", "openSigns", "(I)I"⟩, 14), (⟨"ClauseWatch$Search", "meetConflict", "(I)V"⟩, 14), (⟨"ClauseWatch$Search", "presentLevel", "()I"⟩, 14)]
theorem lw_r1 : ∀ q ∈ lw_privs_1, lw_okq q := List.forall_mem_cons.mpr ⟨lw_p0, List.forall_mem_cons.mpr ⟨lw_p1, List.forall_mem_cons.mpr ⟨lw_p2, List.forall_mem_cons.mpr ⟨lw_p3, List.forall_mem_cons.mpr ⟨lw_p4, List.forall_mem_cons.mpr ⟨lw_p5, List.forall_mem_cons.mpr ⟨lw_p6, List.forall_mem_cons.mpr ⟨lw_p7, List.forall_mem_cons.mpr ⟨lw_p8, List.forall_mem_cons.mpr ⟨lw_p9, List.forall_mem_cons.mpr ⟨lw_p10, List.forall_mem_cons.mpr ⟨lw_p11, List.forall_mem_cons.mpr ⟨lw_p12, List.forall_mem_cons.mpr ⟨lw_p13, List.forall_mem_cons.mpr ⟨lw_p14, List.forall_mem_cons.mpr ⟨lw_p15, fun _ h => absurd h List.not_mem_nil⟩⟩⟩⟩⟩⟩⟩⟩⟩⟩⟩⟩⟩⟩⟩⟩
theorem lw_p16 : lw_okq (⟨"ClauseWatch$Search", "levelAt", "(I)I"⟩, 14) := ⟨⟨by decide +kernel, by decide +kernel⟩, List.mem_of_getElem? (i := 16) (by decide +kernel), List.mem_of_getElem? (i := 201) (by decide +kernel), List.mem_of_getElem? (i := 202) (by decide +kernel)⟩
theorem lw_p17 : lw_okq (⟨"ClauseWatch$Search", "clauseOutOf", "(I)I"⟩, 14) := ⟨⟨by decide +kernel, by decide +kernel⟩, List.mem_of_getElem? (i := 16) (by decide +kernel), List.mem_of_getElem? (i := 205) (by decide +kernel), List.mem_of_getElem? (i := 206) (by decide +kernel)⟩
theorem lw_p18 : lw_okq (⟨"ClauseWatch$Search", "signsOfPresentLevel", "()I"⟩, 14) := ⟨⟨by decide +kernel, by decide +kernel⟩, List.mem_of_getElem? (i := 16) (by decide +kernel), List.mem_of_getElem? (i := 209) (by decide +kernel), List.mem_of_getElem? (i := 210) (by decide +kernel)⟩
theorem lw_p19 : lw_okq (⟨"ClauseWatch$Search", "signAt", "(I)I"⟩, 14) := ⟨⟨by decide +kernel, by decide +kernel⟩, List.mem_of_getElem? (i := 16) (by decide +kernel), List.mem_of_getElem? (i := 213) (by decide +kernel), List.mem_of_getElem? (i := 214) (by decide +kernel)⟩
theorem lw_p20 : lw_okq (⟨"ClauseWatch$Search", "reasonAt", "(I)I"⟩, 14) := ⟨⟨by decide +kernel, by decide +kernel⟩, List.mem_of_getElem? (i := 16) (by decide +kernel), List.mem_of_getElem? (i := 221) (by decide +kernel), List.mem_of_getElem? (i := 222) (by decide +kernel)⟩
theorem lw_p21 : lw_okq (⟨"ClauseWatch$Search", "levelBelowPresent", "(I)I"⟩, 14) := ⟨⟨by decide +kernel, by decide +kernel⟩, List.mem_of_getElem? (i := 16) (by decide +kernel), List.mem_of_getElem? (i := 225) (by decide +kernel), List.mem_of_getElem? (i := 226) (by decide +kernel)⟩
theorem lw_p22 : lw_okq (⟨"ClauseWatch$Search", "goBackTo", "(I)V"⟩, 14) := ⟨⟨by decide +kernel, by decide +kernel⟩, List.mem_of_getElem? (i := 16) (by decide +kernel), List.mem_of_getElem? (i := 232) (by decide +kernel), List.mem_of_getElem? (i := 233) (by decide +kernel)⟩
theorem lw_p23 : lw_okq (⟨"ClauseWatch$Search", "forgetEarliestWithoutUse", "()V"⟩, 14) := ⟨⟨by decide +kernel, by decide +kernel⟩, List.mem_of_getElem? (i := 16) (by decide +kernel), List.mem_of_getElem? (i := 236) (by decide +kernel), List.mem_of_getElem? (i := 237) (by decide +kernel)⟩
theorem lw_p24 : lw_okq (⟨"ClauseWatch$Search", "isReason", "(I)Z"⟩, 14) := ⟨⟨by decide +kernel, by decide +kernel⟩, List.mem_of_getElem? (i := 16) (by decide +kernel), List.mem_of_getElem? (i := 240) (by decide +kernel), List.mem_of_getElem? (i := 241) (by decide +kernel)⟩
theorem lw_p25 : lw_okq (⟨"ClauseWatch$Search", "removeClause", "(I)V"⟩, 14) := ⟨⟨by decide +kernel, by decide +kernel⟩, List.mem_of_getElem? (i := 16) (by decide +kernel), List.mem_of_getElem? (i := 244) (by decide +kernel), List.mem_of_getElem? (i := 245) (by decide +kernel)⟩
theorem lw_p26 : lw_okq (⟨"ClauseWatch$Search", "lowerReasonsAbove", "(I)V"⟩, 14) := ⟨⟨by decide +kernel, by decide +kernel⟩, List.mem_of_getElem? (i := 16) (by decide +kernel), List.mem_of_getElem? (i := 248) (by decide +kernel), List.mem_of_getElem? (i := 249) (by decide +kernel)⟩
theorem lw_p27 : lw_okq (⟨"ClauseWatch$Search", "learn", "(I)V"⟩, 14) := ⟨⟨by decide +kernel, by decide +kernel⟩, List.mem_of_getElem? (i := 16) (by decide +kernel), List.mem_of_getElem? (i := 252) (by decide +kernel), List.mem_of_getElem? (i := 253) (by decide +kernel)⟩
theorem lw_p28 : lw_okq (⟨"ClauseWatch$Search", "give", "(III)V"⟩, 14) := ⟨⟨by decide +kernel, by decide +kernel⟩, List.mem_of_getElem? (i := 16) (by decide +kernel), List.mem_of_getElem? (i := 262) (by decide +kernel), List.mem_of_getElem? (i := 263) (by decide +kernel)⟩
theorem lw_p29 : lw_okq (⟨"ClauseWatch$Search", "lowestOpenThing", "()I"⟩, 14) := ⟨⟨by decide +kernel, by decide +kernel⟩, List.mem_of_getElem? (i := 16) (by decide +kernel), List.mem_of_getElem? (i := 266) (by decide +kernel), List.mem_of_getElem? (i := 267) (by decide +kernel)⟩
theorem lw_p30 : lw_okq (⟨"ClauseWatch", "isNoThing", "(I)Z"⟩, 6) := ⟨⟨by decide +kernel, by decide +kernel⟩, List.mem_of_getElem? (i := 8) (by decide +kernel), List.mem_of_getElem? (i := 313) (by decide +kernel), List.mem_of_getElem? (i := 314) (by decide +kernel)⟩
theorem lw_p31 : lw_okq (⟨"ClauseWatch$Search", "placeOf", "(I)I"⟩, 14) := ⟨⟨by decide +kernel, by decide +kernel⟩, List.mem_of_getElem? (i := 16) (by decide +kernel), List.mem_of_getElem? (i := 317) (by decide +kernel), List.mem_of_getElem? (i := 318) (by decide +kernel)⟩
def lw_privs_2 : List (MethodName × Nat) := [(⟨"ClauseWatch$Search", "levelAt", "(I)I"⟩, 14), (⟨"ClauseWatch$Search", "clauseOutOf", "(I)I"⟩, 14), (⟨"ClauseWatch$Search", "signsOfPresentLevel", "()I"⟩, 14), (⟨"ClauseWatch$Search", "signAt", "(I)I"⟩, 14), (⟨"ClauseWatch$Search", "reasonAt", "(I)I"⟩, 14), (⟨"ClauseWatch$Search", "levelBelowPresent", "(I)I"⟩, 14), (⟨"ClauseWatch$Search", "goBackTo", "(I)V"⟩, 14), (⟨"ClauseWatch$Search", "forgetEarliestWithoutUse", "()V"⟩, 14), (⟨"ClauseWatch$Search", "isReason", "(I)Z"⟩, 14), (⟨"ClauseWatch$Search", "removeClause", "(I)V"⟩, 14), (⟨"ClauseWatch$Search", "lowerReasonsAbove", "(I)V"⟩, 14), (⟨"ClauseWatch$Search", "learn", "(I)V"⟩, 14), (⟨"ClauseWatch$Search", "give", "(III)V"⟩, 14), (⟨"ClauseWatch$Search", "lowestOpenThing", "()I"⟩, 14), (⟨"ClauseWatch", "isNoThing", "(I)Z"⟩, 6), (⟨"ClauseWatch$Search", "placeOf", "(I)I"⟩, 14)]
theorem lw_r2 : ∀ q ∈ lw_privs_2, lw_okq q := List.forall_mem_cons.mpr ⟨lw_p16, List.forall_mem_cons.mpr ⟨lw_p17, List.forall_mem_cons.mpr ⟨lw_p18, List.forall_mem_cons.mpr ⟨lw_p19, List.forall_mem_cons.mpr ⟨lw_p20, List.forall_mem_cons.mpr ⟨lw_p21, List.forall_mem_cons.mpr ⟨lw_p22, List.forall_mem_cons.mpr ⟨lw_p23, List.forall_mem_cons.mpr ⟨lw_p24, List.forall_mem_cons.mpr ⟨lw_p25, List.forall_mem_cons.mpr ⟨lw_p26, List.forall_mem_cons.mpr ⟨lw_p27, List.forall_mem_cons.mpr ⟨lw_p28, List.forall_mem_cons.mpr ⟨lw_p29, List.forall_mem_cons.mpr ⟨lw_p30, List.forall_mem_cons.mpr ⟨lw_p31, fun _ h => absurd h List.not_mem_nil⟩⟩⟩⟩⟩⟩⟩⟩⟩⟩⟩⟩⟩⟩⟩⟩
theorem lw_p32 : lw_okq (⟨"ClauseWatch", "isNoClause", "(I)Z"⟩, 6) := ⟨⟨by decide +kernel, by decide +kernel⟩, List.mem_of_getElem? (i := 8) (by decide +kernel), List.mem_of_getElem? (i := 336) (by decide +kernel), List.mem_of_getElem? (i := 337) (by decide +kernel)⟩
theorem lw_p33 : lw_okq (⟨"ClauseWatch$Pad", "empty", "()V"⟩, 2) := ⟨⟨by decide +kernel, by decide +kernel⟩, List.mem_of_getElem? (i := 76) (by decide +kernel), List.mem_of_getElem? (i := 356) (by decide +kernel), List.mem_of_getElem? (i := 357) (by decide +kernel)⟩
theorem lw_p34 : lw_okq (⟨"ClauseWatch$Pad", "append", "(JI)V"⟩, 2) := ⟨⟨by decide +kernel, by decide +kernel⟩, List.mem_of_getElem? (i := 76) (by decide +kernel), List.mem_of_getElem? (i := 372) (by decide +kernel), List.mem_of_getElem? (i := 373) (by decide +kernel)⟩
theorem lw_p35 : lw_okq (⟨"ClauseWatch$Pad", "firstFault", "()I"⟩, 2) := ⟨⟨by decide +kernel, by decide +kernel⟩, List.mem_of_getElem? (i := 76) (by decide +kernel), List.mem_of_getElem? (i := 385) (by decide +kernel), List.mem_of_getElem? (i := 386) (by decide +kernel)⟩
theorem lw_p36 : lw_okq (⟨"ClauseWatch$Pad", "characterAt", "(I)C"⟩, 2) := ⟨⟨by decide +kernel, by decide +kernel⟩, List.mem_of_getElem? (i := 76) (by decide +kernel), List.mem_of_getElem? (i := 389) (by decide +kernel), List.mem_of_getElem? (i := 390) (by decide +kernel)⟩
theorem lw_p37 : lw_okq (⟨"ClauseWatch$Pad", "greatestThing", "()I"⟩, 2) := ⟨⟨by decide +kernel, by decide +kernel⟩, List.mem_of_getElem? (i := 76) (by decide +kernel), List.mem_of_getElem? (i := 393) (by decide +kernel), List.mem_of_getElem? (i := 394) (by decide +kernel)⟩
theorem lw_p38 : lw_okq (⟨"ClauseWatch$Pad", "howManyClauses", "()I"⟩, 2) := ⟨⟨by decide +kernel, by decide +kernel⟩, List.mem_of_getElem? (i := 76) (by decide +kernel), List.mem_of_getElem? (i := 401) (by decide +kernel), List.mem_of_getElem? (i := 402) (by decide +kernel)⟩
theorem lw_p39 : lw_okq (⟨"ClauseWatch$Pad", "tellClausesTo", "(LClauseWatch$Search;)V"⟩, 2) := ⟨⟨by decide +kernel, by decide +kernel⟩, List.mem_of_getElem? (i := 76) (by decide +kernel), List.mem_of_getElem? (i := 405) (by decide +kernel), List.mem_of_getElem? (i := 406) (by decide +kernel)⟩
theorem lw_p40 : lw_okq (⟨"ClauseWatch$Search", "tell", "(I)V"⟩, 14) := ⟨⟨by decide +kernel, by decide +kernel⟩, List.mem_of_getElem? (i := 16) (by decide +kernel), List.mem_of_getElem? (i := 411) (by decide +kernel), List.mem_of_getElem? (i := 412) (by decide +kernel)⟩
def lw_privs_3 : List (MethodName × Nat) := [(⟨"ClauseWatch", "isNoClause", "(I)Z"⟩, 6), (⟨"ClauseWatch$Pad", "empty", "()V"⟩, 2), (⟨"ClauseWatch$Pad", "append", "(JI)V"⟩, 2), (⟨"ClauseWatch$Pad", "firstFault", "()I"⟩, 2), (⟨"ClauseWatch$Pad", "characterAt", "(I)C"⟩, 2), (⟨"ClauseWatch$Pad", "greatestThing", "()I"⟩, 2), (⟨"ClauseWatch$Pad", "howManyClauses", "()I"⟩, 2), (⟨"ClauseWatch$Pad", "tellClausesTo", "(LClauseWatch$Search;)V"⟩, 2), (⟨"ClauseWatch$Search", "tell", "(I)V"⟩, 14)]
theorem lw_r3 : ∀ q ∈ lw_privs_3, lw_okq q := List.forall_mem_cons.mpr ⟨lw_p32, List.forall_mem_cons.mpr ⟨lw_p33, List.forall_mem_cons.mpr ⟨lw_p34, List.forall_mem_cons.mpr ⟨lw_p35, List.forall_mem_cons.mpr ⟨lw_p36, List.forall_mem_cons.mpr ⟨lw_p37, List.forall_mem_cons.mpr ⟨lw_p38, List.forall_mem_cons.mpr ⟨lw_p39, List.forall_mem_cons.mpr ⟨lw_p40, fun _ h => absurd h List.not_mem_nil⟩⟩⟩⟩⟩⟩⟩⟩⟩
def lw_privs : List (MethodName × Nat) := lw_privs_1 ++ (lw_privs_2 ++ (lw_privs_3))
def lw_tbl : List Cond := k2_sels lw_privs ++ tables_1
theorem lw_privs_ok : ∀ q ∈ lw_privs, lw_okq q := by
  show ∀ q ∈ lw_privs_1 ++ (lw_privs_2 ++ (lw_privs_3)), lw_okq q
  exact List.forall_mem_append.mpr ⟨lw_r1, List.forall_mem_append.mpr ⟨lw_r2, lw_r3⟩⟩
end
section
/-! ===== BEGIN printed: names, fields, word lists, decode rows ===== -/
def RX0 : String := "ClauseWatch$Pad"
def TX0 : u_T := fun k => match k with
  | 0 => ("ClauseWatch$Pad", "characters", "[C", true)
  | _ => ("ClauseWatch$Pad", "length", "I", false)
def tyX0 : Nat → FieldType := fun k => match k with
  | 0 => .array .char
  | _ => .int
abbrev wsX00 : List Cond := u_ws RX0 TX0 2
theorem nmX0 : ∀ a, a < 2 → ∀ b, b < 2 → a ≠ b → (TX0 a).2.1 ≠ (TX0 b).2.1 := by decide +kernel
theorem tyX0_ok : ∀ k, k < 2 → parseFieldDescriptor (TX0 k).2.2.1 = some (tyX0 k) := by decide +kernel
abbrev cX0_init : ByteArray := prog_2_method_1_code
def yX0_init : MethodName := ⟨RX0, "<init>", "()V"⟩
abbrev cX0_empty : ByteArray := prog_2_method_2_code
def yX0_empty : MethodName := ⟨RX0, "empty", "()V"⟩
abbrev cX0_charactersIn : ByteArray := prog_2_method_3_code
def yX0_charactersIn : MethodName := ⟨RX0, "charactersIn", "(J)I"⟩
abbrev cX0_codeIn : ByteArray := prog_2_method_4_code
def yX0_codeIn : MethodName := ⟨RX0, "codeIn", "(JI)I"⟩
abbrev cX0_append : ByteArray := prog_2_method_5_code
def yX0_append : MethodName := ⟨RX0, "append", "(JI)V"⟩
abbrev cX0_characterAt : ByteArray := prog_2_method_6_code
def yX0_characterAt : MethodName := ⟨RX0, "characterAt", "(I)C"⟩
abbrev cX0_firstFault : ByteArray := prog_2_method_7_code
def yX0_firstFault : MethodName := ⟨RX0, "firstFault", "()I"⟩
abbrev cX0_isDigit : ByteArray := prog_2_method_8_code
def yX0_isDigit : MethodName := ⟨RX0, "isDigit", "(C)Z"⟩
abbrev cX0_greatestThing : ByteArray := prog_2_method_9_code
def yX0_greatestThing : MethodName := ⟨RX0, "greatestThing", "()I"⟩
abbrev cX0_howManyClauses : ByteArray := prog_2_method_10_code
def yX0_howManyClauses : MethodName := ⟨RX0, "howManyClauses", "()I"⟩
abbrev cX0_tellClausesTo : ByteArray := prog_2_method_11_code
def yX0_tellClausesTo : MethodName := ⟨RX0, "tellClausesTo", "(LClauseWatch$Search;)V"⟩
def RX1 : String := "ClauseWatch$Search"
def TX1 : u_T := fun k => match k with
  | 0 => ("ClauseWatch$Search", "things", "I", false)
  | 1 => ("ClauseWatch$Search", "restart", "I", false)
  | 2 => ("ClauseWatch$Search", "first", "I", false)
  | 3 => ("ClauseWatch$Search", "told", "I", false)
  | 4 => ("ClauseWatch$Search", "learned", "I", false)
  | 5 => ("ClauseWatch$Search", "clauses", "[I", true)
  | 6 => ("ClauseWatch$Search", "given", "I", false)
  | 7 => ("ClauseWatch$Search", "signs", "[I", true)
  | 8 => ("ClauseWatch$Search", "levels", "[I", true)
  | 9 => ("ClauseWatch$Search", "reasons", "[I", true)
  | 10 => ("ClauseWatch$Search", "values", "I", false)
  | 11 => ("ClauseWatch$Search", "stands", "I", false)
  | 12 => ("ClauseWatch$Search", "conflicts", "I", false)
  | _ => ("ClauseWatch$Search", "steps", "I", false)
def tyX1 : Nat → FieldType := fun k => match k with
  | 0 => .int
  | 1 => .int
  | 2 => .int
  | 3 => .int
  | 4 => .int
  | 5 => .array .int
  | 6 => .int
  | 7 => .array .int
  | 8 => .array .int
  | 9 => .array .int
  | 10 => .int
  | 11 => .int
  | 12 => .int
  | _ => .int
abbrev wsX10 : List Cond := u_ws RX1 TX1 14
theorem nmX1 : ∀ a, a < 14 → ∀ b, b < 14 → a ≠ b → (TX1 a).2.1 ≠ (TX1 b).2.1 := by decide +kernel
theorem tyX1_ok : ∀ k, k < 14 → parseFieldDescriptor (TX1 k).2.2.1 = some (tyX1 k) := by decide +kernel
abbrev cX1_init : ByteArray := prog_3_method_1_code
def yX1_init : MethodName := ⟨RX1, "<init>", "()V"⟩
abbrev cX1_copyFrom : ByteArray := prog_3_method_2_code
def yX1_copyFrom : MethodName := ⟨RX1, "copyFrom", "(LClauseWatch$Search;)V"⟩
abbrev cX1_beginAnew : ByteArray := prog_3_method_3_code
def yX1_beginAnew : MethodName := ⟨RX1, "beginAnew", "()V"⟩
abbrev cX1_clauseAt : ByteArray := prog_3_method_4_code
def yX1_clauseAt : MethodName := ⟨RX1, "clauseAt", "(I)I"⟩
abbrev cX1_tell : ByteArray := prog_3_method_5_code
def yX1_tell : MethodName := ⟨RX1, "tell", "(I)V"⟩
abbrev cX1_removeClause : ByteArray := prog_3_method_6_code
def yX1_removeClause : MethodName := ⟨RX1, "removeClause", "(I)V"⟩
abbrev cX1_toldNeeds : ByteArray := prog_3_method_7_code
def yX1_toldNeeds : MethodName := ⟨RX1, "toldNeeds", "()I"⟩
abbrev cX1_isTrue : ByteArray := prog_3_method_8_code
def yX1_isTrue : MethodName := ⟨RX1, "isTrue", "(I)Z"⟩
abbrev cX1_openSigns : ByteArray := prog_3_method_9_code
def yX1_openSigns : MethodName := ⟨RX1, "openSigns", "(I)I"⟩
abbrev cX1_firstUntrue : ByteArray := prog_3_method_10_code
def yX1_firstUntrue : MethodName := ⟨RX1, "firstUntrue", "(I)I"⟩
abbrev cX1_signAt : ByteArray := prog_3_method_14_code
def yX1_signAt : MethodName := ⟨RX1, "signAt", "(I)I"⟩
abbrev cX1_levelAt : ByteArray := prog_3_method_15_code
def yX1_levelAt : MethodName := ⟨RX1, "levelAt", "(I)I"⟩
abbrev cX1_reasonAt : ByteArray := prog_3_method_16_code
def yX1_reasonAt : MethodName := ⟨RX1, "reasonAt", "(I)I"⟩
abbrev cX1_presentLevel : ByteArray := prog_3_method_17_code
def yX1_presentLevel : MethodName := ⟨RX1, "presentLevel", "()I"⟩
abbrev cX1_placeOf : ByteArray := prog_3_method_18_code
def yX1_placeOf : MethodName := ⟨RX1, "placeOf", "(I)I"⟩
abbrev cX1_give : ByteArray := prog_3_method_19_code
def yX1_give : MethodName := ⟨RX1, "give", "(III)V"⟩
abbrev cX1_goBackTo : ByteArray := prog_3_method_20_code
def yX1_goBackTo : MethodName := ⟨RX1, "goBackTo", "(I)V"⟩
abbrev cX1_isReason : ByteArray := prog_3_method_21_code
def yX1_isReason : MethodName := ⟨RX1, "isReason", "(I)Z"⟩
abbrev cX1_lowestOpenThing : ByteArray := prog_3_method_22_code
def yX1_lowestOpenThing : MethodName := ⟨RX1, "lowestOpenThing", "()I"⟩
abbrev cX1_doSteps : ByteArray := prog_3_method_23_code
def yX1_doSteps : MethodName := ⟨RX1, "doSteps", "(I)V"⟩
abbrev cX1_doOneStep : ByteArray := prog_3_method_24_code
def yX1_doOneStep : MethodName := ⟨RX1, "doOneStep", "()V"⟩
abbrev cX1_meetConflict : ByteArray := prog_3_method_25_code
def yX1_meetConflict : MethodName := ⟨RX1, "meetConflict", "(I)V"⟩
abbrev cX1_clauseOutOf : ByteArray := prog_3_method_26_code
def yX1_clauseOutOf : MethodName := ⟨RX1, "clauseOutOf", "(I)I"⟩
abbrev cX1_signsOfPresentLevel : ByteArray := prog_3_method_27_code
def yX1_signsOfPresentLevel : MethodName := ⟨RX1, "signsOfPresentLevel", "()I"⟩
abbrev cX1_levelBelowPresent : ByteArray := prog_3_method_28_code
def yX1_levelBelowPresent : MethodName := ⟨RX1, "levelBelowPresent", "(I)I"⟩
abbrev cX1_learn : ByteArray := prog_3_method_29_code
def yX1_learn : MethodName := ⟨RX1, "learn", "(I)V"⟩
abbrev cX1_forgetEarliestWithoutUse : ByteArray := prog_3_method_30_code
def yX1_forgetEarliestWithoutUse : MethodName := ⟨RX1, "forgetEarliestWithoutUse", "()V"⟩
abbrev cX1_lowerReasonsAbove : ByteArray := prog_3_method_31_code
def yX1_lowerReasonsAbove : MethodName := ⟨RX1, "lowerReasonsAbove", "(I)V"⟩
def RX2 : String := "ClauseWatch"
def TX2 : u_T := fun k => match k with
  | 0 => ("ClauseWatch", "now", "LClauseWatch$Search;", true)
  | 1 => ("ClauseWatch", "trial", "LClauseWatch$Search;", true)
  | 2 => ("ClauseWatch", "history", "[LClauseWatch$Search;", true)
  | 3 => ("ClauseWatch", "undoable", "I", false)
  | 4 => ("ClauseWatch", "slots", "[LClauseWatch$Search;", true)
  | _ => ("ClauseWatch", "pad", "LClauseWatch$Pad;", true)
def tyX2 : Nat → FieldType := fun k => match k with
  | 0 => .object "ClauseWatch$Search"
  | 1 => .object "ClauseWatch$Search"
  | 2 => .array (.object "ClauseWatch$Search")
  | 3 => .int
  | 4 => .array (.object "ClauseWatch$Search")
  | _ => .object "ClauseWatch$Pad"
abbrev wsX20 : List Cond := u_ws RX2 TX2 6
theorem nmX2 : ∀ a, a < 6 → ∀ b, b < 6 → a ≠ b → (TX2 a).2.1 ≠ (TX2 b).2.1 := by decide +kernel
theorem tyX2_ok : ∀ k, k < 6 → parseFieldDescriptor (TX2 k).2.2.1 = some (tyX2 k) := by decide +kernel
abbrev cX2_init : ByteArray := prog_1_method_1_code
def yX2_init : MethodName := ⟨RX2, "<init>", "()V"⟩
abbrev cX2_set : ByteArray := prog_1_method_2_code
def yX2_set : MethodName := ⟨RX2, "set", "(II)I"⟩
abbrev cX2_setThings : ByteArray := prog_1_method_3_code
def yX2_setThings : MethodName := ⟨RX2, "setThings", "(I)I"⟩
abbrev cX2_setRestart : ByteArray := prog_1_method_4_code
def yX2_setRestart : MethodName := ⟨RX2, "setRestart", "(I)I"⟩
abbrev cX2_setFirst : ByteArray := prog_1_method_5_code
def yX2_setFirst : MethodName := ⟨RX2, "setFirst", "(I)I"⟩
abbrev cX2_read : ByteArray := prog_1_method_6_code
def yX2_read : MethodName := ⟨RX2, "read", "()I"⟩
abbrev cX2_step : ByteArray := prog_1_method_8_code
def yX2_step : MethodName := ⟨RX2, "step", "(I)I"⟩
abbrev cX2_back : ByteArray := prog_1_method_9_code
def yX2_back : MethodName := ⟨RX2, "back", "(I)I"⟩
abbrev cX2_of : ByteArray := prog_1_method_10_code
def yX2_of : MethodName := ⟨RX2, "of", "(II)I"⟩
abbrev cX2_trail : ByteArray := prog_1_method_11_code
def yX2_trail : MethodName := ⟨RX2, "trail", "(I)I"⟩
abbrev cX2_clause : ByteArray := prog_1_method_12_code
def yX2_clause : MethodName := ⟨RX2, "clause", "(II)I"⟩
abbrev cX2_count : ByteArray := prog_1_method_13_code
def yX2_count : MethodName := ⟨RX2, "count", "(I)I"⟩
abbrev cX2_put : ByteArray := prog_1_method_21_code
def yX2_put : MethodName := ⟨RX2, "put", "(J)I"⟩
abbrev cX2_wipe : ByteArray := prog_1_method_22_code
def yX2_wipe : MethodName := ⟨RX2, "wipe", "()I"⟩
abbrev cX2_record : ByteArray := prog_1_method_27_code
def yX2_record : MethodName := ⟨RX2, "record", "()V"⟩
abbrev cX2_moveOldestToEnd : ByteArray := prog_1_method_28_code
def yX2_moveOldestToEnd : MethodName := ⟨RX2, "moveOldestToEnd", "()V"⟩
abbrev cX2_isNoThing : ByteArray := prog_1_method_29_code
def yX2_isNoThing : MethodName := ⟨RX2, "isNoThing", "(I)Z"⟩
abbrev cX2_isNoClause : ByteArray := prog_1_method_30_code
def yX2_isNoClause : MethodName := ⟨RX2, "isNoClause", "(I)Z"⟩
abbrev cX2_thingOf : ByteArray := prog_1_method_31_code
def yX2_thingOf : MethodName := ⟨RX2, "thingOf", "(I)I"⟩
abbrev cX2_opposite : ByteArray := prog_1_method_32_code
def yX2_opposite : MethodName := ⟨RX2, "opposite", "(I)I"⟩
abbrev cX2_setOf : ByteArray := prog_1_method_33_code
def yX2_setOf : MethodName := ⟨RX2, "setOf", "(I)I"⟩
abbrev cX2_has : ByteArray := prog_1_method_34_code
def yX2_has : MethodName := ⟨RX2, "has", "(II)Z"⟩
abbrev cX2_opposites : ByteArray := prog_1_method_35_code
def yX2_opposites : MethodName := ⟨RX2, "opposites", "(I)I"⟩
abbrev cX2_signInOrder : ByteArray := prog_1_method_36_code
def yX2_signInOrder : MethodName := ⟨RX2, "signInOrder", "(II)I"⟩
def RX3 : String := "ClauseWatchModel"
def TX3 : u_T := fun k => match k with
  | _ => ("", "", "", false)
def tyX3 : Nat → FieldType := fun k => match k with
  | _ => .int
abbrev wsX30 : List Cond := u_ws RX3 TX3 0
theorem nmX3 : ∀ a, a < 0 → ∀ b, b < 0 → a ≠ b → (TX3 a).2.1 ≠ (TX3 b).2.1 := by decide +kernel
theorem tyX3_ok : ∀ k, k < 0 → parseFieldDescriptor (TX3 k).2.2.1 = some (tyX3 k) := by decide +kernel
def RJ6 : String := "java/lang/Integer"
def TJ6 : u_T := fun k => match k with
  | _ => ("", "", "", false)
def tyJ6 : Nat → FieldType := fun k => match k with
  | _ => .int
abbrev wsJ60 : List Cond := u_ws RJ6 TJ6 0
theorem nmJ6 : ∀ a, a < 0 → ∀ b, b < 0 → a ≠ b → (TJ6 a).2.1 ≠ (TJ6 b).2.1 := by decide +kernel
theorem tyJ6_ok : ∀ k, k < 0 → parseFieldDescriptor (TJ6 k).2.2.1 = some (tyJ6 k) := by decide +kernel
abbrev cJ6_bitCount_0f7a4 : ByteArray := prog_6_method_49_code
def yJ6_bitCount_0f7a4 : MethodName := ⟨RJ6, "bitCount", "(I)I"⟩
def RJ9 : String := "java/lang/Math"
def TJ9 : u_T := fun k => match k with
  | _ => ("", "", "", false)
def tyJ9 : Nat → FieldType := fun k => match k with
  | _ => .int
abbrev wsJ90 : List Cond := u_ws RJ9 TJ9 0
theorem nmJ9 : ∀ a, a < 0 → ∀ b, b < 0 → a ≠ b → (TJ9 a).2.1 ≠ (TJ9 b).2.1 := by decide +kernel
theorem tyJ9_ok : ∀ k, k < 0 → parseFieldDescriptor (TJ9 k).2.2.1 = some (tyJ9 k) := by decide +kernel
abbrev cJ9_max_7cf53 : ByteArray := prog_7_method_65_code
def yJ9_max_7cf53 : MethodName := ⟨RJ9, "max", "(II)I"⟩
def RJ10 : String := "java/lang/System"
def TJ10 : u_T := fun k => match k with
  | _ => ("", "", "", false)
def tyJ10 : Nat → FieldType := fun k => match k with
  | _ => .int
abbrev wsJ100 : List Cond := u_ws RJ10 TJ10 0
theorem nmJ10 : ∀ a, a < 0 → ∀ b, b < 0 → a ≠ b → (TJ10 a).2.1 ≠ (TJ10 b).2.1 := by decide +kernel
theorem tyJ10_ok : ∀ k, k < 0 → parseFieldDescriptor (TJ10 k).2.2.1 = some (tyJ10 k) := by decide +kernel
def RL : String := "ClauseWatchLaw"
abbrev cL_cell : ByteArray := method_2_code
def yL_cell : MethodName := ⟨RL, "cell", "([II)I"⟩
abbrev cL_low : ByteArray := method_3_code
def yL_low : MethodName := ⟨RL, "low", "(II)I"⟩
abbrev cL_bits : ByteArray := method_4_code
def yL_bits : MethodName := ⟨RL, "bits", "(I)I"⟩
abbrev cL_isTrue : ByteArray := method_5_code
def yL_isTrue : MethodName := ⟨RL, "isTrue", "(I[I[I[I)Z"⟩
abbrev cL_open : ByteArray := method_6_code
def yL_open : MethodName := ⟨RL, "open", "(I[I[I[I)I"⟩
abbrev cL_back : ByteArray := method_7_code
def yL_back : MethodName := ⟨RL, "back", "(I[I[I[I[I)V"⟩
abbrev cL_give : ByteArray := method_8_code
def yL_give : MethodName := ⟨RL, "give", "(IZI[I[I[I[I)V"⟩
abbrev cL_learn : ByteArray := method_9_code
def yL_learn : MethodName := ⟨RL, "learn", "(I[I[I[I[I[I[I)V"⟩
abbrev cL_step : ByteArray := method_10_code
def yL_step : MethodName := ⟨RL, "step", "([I[I[I[I[I[I)V"⟩
abbrev cL_anew : ByteArray := method_11_code
def yL_anew : MethodName := ⟨RL, "anew", "([I[I[I[I)V"⟩
abbrev cL_same : ByteArray := method_12_code
def yL_same : MethodName := ⟨RL, "same", "(LClauseWatch;[I[I[I[I[I[I)Z"⟩
abbrev cL_reads : ByteArray := method_13_code
def yL_reads : MethodName := ⟨RL, "reads", "(LClauseWatch;II[I[I[I[I[I[I)Z"⟩
abbrev cL_law : ByteArray := code
def yL_law : MethodName := ⟨RL, "law", "([I)Z"⟩
abbrev vwCl : List vw_C := [(RX0, TX0, 2), (RX1, TX1, 14), (RX2, TX2, 6)]
/-! ===== END printed: names ===== -/
end
section
/-! the words that hold at every state: the good ones of the law's tables; the links to nest mates' members -/
def cw_T : List Cond := lw_tbl.filter goodWord
def cw_isN (w : Cond) : Bool := match w with
  | .fieldLinkNest _ _ _ _ _ _ => true
  | .methodLinkNest _ _ _ _ => true
  | _ => false
def cw_N : List Cond := lw_tbl.filter cw_isN
theorem cw_in1 {w : Cond} (i : Nat) (h : tables_1_1[i]? = some w) (g : goodWord w = true) : w ∈ cw_T := List.mem_filter.mpr ⟨List.mem_append_right _ (List.mem_append_left _ (List.mem_of_getElem? h)), g⟩
theorem cw_in2 {w : Cond} (i : Nat) (h : tables_1_2[i]? = some w) (g : goodWord w = true) : w ∈ cw_T := List.mem_filter.mpr ⟨List.mem_append_right _ (List.mem_append_right _ (List.mem_of_getElem? h)), g⟩
theorem cw_ins {w : Cond} (i : Nat) (h : (k2_sels lw_privs)[i]? = some w) (g : goodWord w = true) : w ∈ cw_T := List.mem_filter.mpr ⟨List.mem_append_left _ (List.mem_of_getElem? h), g⟩
theorem cw_nn1 {w : Cond} (i : Nat) (h : tables_1_1[i]? = some w) (g : cw_isN w = true) : w ∈ cw_N := List.mem_filter.mpr ⟨List.mem_append_right _ (List.mem_append_left _ (List.mem_of_getElem? h)), g⟩
theorem cw_nn2 {w : Cond} (i : Nat) (h : tables_1_2[i]? = some w) (g : cw_isN w = true) : w ∈ cw_N := List.mem_filter.mpr ⟨List.mem_append_right _ (List.mem_append_right _ (List.mem_of_getElem? h)), g⟩
theorem cw_TT : GoodIn cw_T cw_T := fun w h => ⟨h, good_of_word (List.mem_filter.mp h).2⟩
/-- a small number as the machine holds it -/
def cw_n (k : Int) : Int32 := match k with
  | .ofNat n => nI n
  | .negSucc n => -nI (n + 1)
/-- a pushed constant fits its instruction -/
def cw_lit (i : ClassFile.Instr) : Bool := match i with
  | .iconst k => Int32.ofInt k == cw_n k
  | .bipush k => (Int8.ofInt k).toInt32 == cw_n k
  | .sipush k => (Int16.ofInt k).toInt32 == cw_n k
  | .iinc _ k => Int32.ofInt k == cw_n k
  | _ => true
/-- a method: name, code, locals, answer, class, arguments, frames, its instructions -/
abbrev cw_I : Type := MethodName × ByteArray × Nat × Option FieldType × Nat × Nat × Nat × List (Nat × (ClassFile.Instr × Nat))
def cw_own : Nat → String
  | 0 => RX0
  | 1 => RX1
  | 2 => RX2
  | 3 => RJ9
  | 4 => RL
  | 5 => RJ6
  | _ => RJ9
def cw_okI (i : cw_I) : Prop := (∀ q ∈ i.2.2.2.2.2.2.2, decode i.2.1 q.1 = .ok q.2) ∧ (∀ q ∈ i.2.2.2.2.2.2.2, cw_lit q.2.1 = true) ∧ Cond.code i.1 i.2.1 i.2.2.1 i.2.2.2.1 ∈ cw_T ∧ Cond.initialized i.1.cls ∈ cw_T ∧ i.1.cls = cw_own i.2.2.2.2.1 ∧ plainName i.1.cls = true ∧ i.1.cls ≠ "java/lang/invoke/MethodHandle" ∧ i.1.cls ≠ "java/lang/invoke/VarHandle" ∧ (parseMethodDescriptor i.1.desc).map (fun d => d.parameters.length) = some i.2.2.2.2.2.1 ∧ i.2.2.1 ≤ 16
/-- its instructions are what its bytes say -/
def cw_okD (i : cw_I) : Prop := (∀ q ∈ i.2.2.2.2.2.2.2, decode i.2.1 q.1 = .ok q.2) ∧ (∀ q ∈ i.2.2.2.2.2.2.2, cw_lit q.2.1 = true) ∧ True
end
section
def cw_tJ6_bitCount_0f7a4 : List (Nat × (ClassFile.Instr × Nat)) := [(0, .iload_n 0, 1), (1, .iload_n 0, 1), (2, .iconst 1, 1), (3, .iushr, 1), (4, .ldc_w 265, 3), (7, .iand, 1), (8, .isub, 1), (9, .istore_n 0, 1), (10, .iload_n 0, 1), (11, .ldc_w 266, 3), (14, .iand, 1), (15, .iload_n 0, 1), (16, .iconst 2, 1), (17, .iushr, 1), (18, .ldc_w 266, 3), (21, .iand, 1), (22, .iadd, 1), (23, .istore_n 0, 1), (24, .iload_n 0, 1), (25, .iload_n 0, 1), (26, .iconst 4, 1), (27, .iushr, 1), (28, .iadd, 1), (29, .ldc_w 267, 3), (32, .iand, 1), (33, .istore_n 0, 1), (34, .iload_n 0, 1), (35, .iload_n 0, 1), (36, .bipush 8, 2), (38, .iushr, 1), (39, .iadd, 1), (40, .istore_n 0, 1), (41, .iload_n 0, 1), (42, .iload_n 0, 1), (43, .bipush 16, 2), (45, .iushr, 1), (46, .iadd, 1), (47, .istore_n 0, 1), (48, .iload_n 0, 1), (49, .bipush 63, 2), (51, .iand, 1), (52, .ireturn, 1)]
theorem cw_dJ6_bitCount_0f7a4 : ∀ q ∈ cw_tJ6_bitCount_0f7a4, decode cJ6_bitCount_0f7a4 q.1 = .ok q.2 := by decide +kernel
def mm_J6_bitCount_0f7a4 : cw_I := (yJ6_bitCount_0f7a4, cJ6_bitCount_0f7a4, 1, (some .int), 5, 1, 1, cw_tJ6_bitCount_0f7a4)
theorem cw_KJ6_bitCount_0f7a4 : cw_okI mm_J6_bitCount_0f7a4 := ⟨cw_dJ6_bitCount_0f7a4, by decide +kernel, cw_in1 188 rfl rfl, cw_in1 6 rfl rfl, rfl, by decide +kernel, by decide +kernel, by decide +kernel, by decide +kernel, by decide⟩
theorem cw_kJ6_bitCount_0f7a4 : cw_okD mm_J6_bitCount_0f7a4 := ⟨cw_dJ6_bitCount_0f7a4, by decide +kernel, trivial⟩
def cw_tX0_greatestThing : List (Nat × (ClassFile.Instr × Nat)) := [(0, .iconst 0, 1), (1, .istore_n 1, 1), (2, .iconst 0, 1), (3, .istore_n 2, 1), (4, .iload_n 2, 1), (5, .aload_n 0, 1), (6, .getfield 15, 3), (9, .if_icmp .ge 33, 3), (12, .aload_n 0, 1), (13, .iload_n 2, 1), (14, .invokevirtual 25, 3), (17, .invokestatic 29, 3), (20, .ifCond .eq 16, 3), (23, .iload_n 1, 1), (24, .aload_n 0, 1), (25, .iload_n 2, 1), (26, .invokevirtual 25, 3), (29, .bipush 48, 2), (31, .isub, 1), (32, .invokestatic 33, 3), (35, .istore_n 1, 1), (36, .iinc 2 1, 3), (39, .goto (-35), 3), (42, .iload_n 1, 1), (43, .ireturn, 1)]
theorem cw_dX0_greatestThing : ∀ q ∈ cw_tX0_greatestThing, decode cX0_greatestThing q.1 = .ok q.2 := by decide +kernel
def mm_X0_greatestThing : cw_I := (yX0_greatestThing, cX0_greatestThing, 3, (some .int), 0, 0, 2, cw_tX0_greatestThing)
theorem cw_KX0_greatestThing : cw_okI mm_X0_greatestThing := ⟨cw_dX0_greatestThing, by decide +kernel, cw_in2 155 rfl rfl, cw_in1 3 rfl rfl, rfl, by decide +kernel, by decide +kernel, by decide +kernel, by decide +kernel, by decide⟩
theorem cw_kX0_greatestThing : cw_okD mm_X0_greatestThing := ⟨cw_dX0_greatestThing, by decide +kernel, trivial⟩
def cw_tX0_isDigit : List (Nat × (ClassFile.Instr × Nat)) := [(0, .iload_n 0, 1), (1, .bipush 49, 2), (3, .if_icmp .lt 13, 3), (6, .iload_n 0, 1), (7, .bipush 57, 2), (9, .if_icmp .gt 7, 3), (12, .iconst 1, 1), (13, .goto 4, 3), (16, .iconst 0, 1), (17, .ireturn, 1)]
theorem cw_dX0_isDigit : ∀ q ∈ cw_tX0_isDigit, decode cX0_isDigit q.1 = .ok q.2 := by decide +kernel
def mm_X0_isDigit : cw_I := (yX0_isDigit, cX0_isDigit, 1, (some .boolean), 0, 1, 1, cw_tX0_isDigit)
theorem cw_KX0_isDigit : cw_okI mm_X0_isDigit := ⟨cw_dX0_isDigit, by decide +kernel, cw_in2 158 rfl rfl, cw_in1 3 rfl rfl, rfl, by decide +kernel, by decide +kernel, by decide +kernel, by decide +kernel, by decide⟩
theorem cw_kX0_isDigit : cw_okD mm_X0_isDigit := ⟨cw_dX0_isDigit, by decide +kernel, trivial⟩
def cw_tX1_beginAnew : List (Nat × (ClassFile.Instr × Nat)) := [(0, .aload_n 0, 1), (1, .iconst 0, 1), (2, .putfield 24, 3), (5, .aload_n 0, 1), (6, .iconst 0, 1), (7, .putfield 31, 3), (10, .aload_n 0, 1), (11, .iconst 0, 1), (12, .putfield 43, 3), (15, .aload_n 0, 1), (16, .iconst 0, 1), (17, .putfield 46, 3), (20, .aload_n 0, 1), (21, .iconst 0, 1), (22, .putfield 49, 3), (25, .aload_n 0, 1), (26, .iconst 0, 1), (27, .putfield 52, 3), (30, .return_, 1)]
theorem cw_dX1_beginAnew : ∀ q ∈ cw_tX1_beginAnew, decode cX1_beginAnew q.1 = .ok q.2 := by decide +kernel
def mm_X1_beginAnew : cw_I := (yX1_beginAnew, cX1_beginAnew, 1, none, 1, 0, 1, cw_tX1_beginAnew)
theorem cw_KX1_beginAnew : cw_okI mm_X1_beginAnew := ⟨cw_dX1_beginAnew, by decide +kernel, cw_in1 153 rfl rfl, cw_in1 2 rfl rfl, rfl, by decide +kernel, by decide +kernel, by decide +kernel, by decide +kernel, by decide⟩
theorem cw_kX1_beginAnew : cw_okD mm_X1_beginAnew := ⟨cw_dX1_beginAnew, by decide +kernel, trivial⟩
def cw_tX1_clauseAt : List (Nat × (ClassFile.Instr × Nat)) := [(0, .iload_n 1, 1), (1, .ifCond .lt 21, 3), (4, .iload_n 1, 1), (5, .aload_n 0, 1), (6, .getfield 27, 3), (9, .arraylength, 1), (10, .if_icmp .ge 12, 3), (13, .aload_n 0, 1), (14, .getfield 27, 3), (17, .iload_n 1, 1), (18, .iaload, 1), (19, .goto 4, 3), (22, .iconst 0, 1), (23, .ireturn, 1)]
theorem cw_dX1_clauseAt : ∀ q ∈ cw_tX1_clauseAt, decode cX1_clauseAt q.1 = .ok q.2 := by decide +kernel
def mm_X1_clauseAt : cw_I := (yX1_clauseAt, cX1_clauseAt, 2, (some .int), 1, 1, 1, cw_tX1_clauseAt)
theorem cw_KX1_clauseAt : cw_okI mm_X1_clauseAt := ⟨cw_dX1_clauseAt, by decide +kernel, cw_in1 124 rfl rfl, cw_in1 2 rfl rfl, rfl, by decide +kernel, by decide +kernel, by decide +kernel, by decide +kernel, by decide⟩
theorem cw_kX1_clauseAt : cw_okD mm_X1_clauseAt := ⟨cw_dX1_clauseAt, by decide +kernel, trivial⟩
def cw_tX1_clauseOutOf : List (Nat × (ClassFile.Instr × Nat)) := [(0, .aload_n 0, 1), (1, .invokevirtual 145, 3), (4, .invokestatic 65, 3), (7, .istore_n 2, 1), (8, .iload_n 1, 1), (9, .istore_n 3, 1), (10, .aload_n 0, 1), (11, .getfield 31, 3), (14, .iconst 1, 1), (15, .isub, 1), (16, .istore 4, 2), (18, .iload 4, 2), (20, .ifCond .lt 73, 3), (23, .iload_n 3, 1), (24, .iload_n 2, 1), (25, .iand, 1), (26, .invokestatic 79, 3), (29, .iconst 1, 1), (30, .if_icmp .le 63, 3), (33, .aload_n 0, 1), (34, .iload 4, 2), (36, .invokevirtual 91, 3), (39, .istore 5, 2), (41, .iload_n 3, 1), (42, .iload 5, 2), (44, .invokestatic 127, 3), (47, .invokestatic 68, 3), (50, .ifCond .eq 37, 3), (53, .iload_n 3, 1), (54, .iload 5, 2), (56, .invokestatic 127, 3), (59, .invokestatic 97, 3), (62, .iconst (-1), 1), (63, .ixor, 1), (64, .iand, 1), (65, .istore_n 3, 1), (66, .iload_n 3, 1), (67, .aload_n 0, 1), (68, .aload_n 0, 1), (69, .iload 4, 2), (71, .invokevirtual 100, 3), (74, .invokevirtual 61, 3), (77, .iload 5, 2), (79, .invokestatic 97, 3), (82, .iconst (-1), 1), (83, .ixor, 1), (84, .iand, 1), (85, .ior, 1), (86, .istore_n 3, 1), (87, .iinc 4 (-1), 3), (90, .goto (-72), 3), (93, .iload_n 3, 1), (94, .ireturn, 1)]
theorem cw_dX1_clauseOutOf : ∀ q ∈ cw_tX1_clauseOutOf, decode cX1_clauseOutOf q.1 = .ok q.2 := by decide +kernel
def mm_X1_clauseOutOf : cw_I := (yX1_clauseOutOf, cX1_clauseOutOf, 6, (some .int), 1, 1, 4, cw_tX1_clauseOutOf)
theorem cw_KX1_clauseOutOf : cw_okI mm_X1_clauseOutOf := ⟨cw_dX1_clauseOutOf, by decide +kernel, cw_in1 207 rfl rfl, cw_in1 2 rfl rfl, rfl, by decide +kernel, by decide +kernel, by decide +kernel, by decide +kernel, by decide⟩
theorem cw_kX1_clauseOutOf : cw_okD mm_X1_clauseOutOf := ⟨cw_dX1_clauseOutOf, by decide +kernel, trivial⟩
def cw_tX1_doSteps : List (Nat × (ClassFile.Instr × Nat)) := [(0, .iconst 0, 1), (1, .istore_n 2, 1), (2, .iload_n 2, 1), (3, .iload_n 1, 1), (4, .if_icmp .ge 30, 3), (7, .aload_n 0, 1), (8, .getfield 46, 3), (11, .ifCond .ne 23, 3), (14, .aload_n 0, 1), (15, .invokevirtual 103, 3), (18, .aload_n 0, 1), (19, .dup, 1), (20, .getfield 52, 3), (23, .iconst 1, 1), (24, .iadd, 1), (25, .putfield 52, 3), (28, .iinc 2 1, 3), (31, .goto (-29), 3), (34, .return_, 1)]
theorem cw_dX1_doSteps : ∀ q ∈ cw_tX1_doSteps, decode cX1_doSteps q.1 = .ok q.2 := by decide +kernel
def mm_X1_doSteps : cw_I := (yX1_doSteps, cX1_doSteps, 3, none, 1, 1, 7, cw_tX1_doSteps)
theorem cw_KX1_doSteps : cw_okI mm_X1_doSteps := ⟨cw_dX1_doSteps, by decide +kernel, cw_in1 169 rfl rfl, cw_in1 2 rfl rfl, rfl, by decide +kernel, by decide +kernel, by decide +kernel, by decide +kernel, by decide⟩
theorem cw_kX1_doSteps : cw_okD mm_X1_doSteps := ⟨cw_dX1_doSteps, by decide +kernel, trivial⟩
def cw_tX1_forgetEarliestWithoutUse : List (Nat × (ClassFile.Instr × Nat)) := [(0, .aload_n 0, 1), (1, .getfield 21, 3), (4, .istore_n 1, 1), (5, .iload_n 1, 1), (6, .aload_n 0, 1), (7, .getfield 21, 3), (10, .aload_n 0, 1), (11, .getfield 24, 3), (14, .iadd, 1), (15, .if_icmp .ge 38, 3), (18, .aload_n 0, 1), (19, .iload_n 1, 1), (20, .invokevirtual 153, 3), (23, .ifCond .ne 24, 3), (26, .aload_n 0, 1), (27, .iload_n 1, 1), (28, .invokevirtual 156, 3), (31, .aload_n 0, 1), (32, .dup, 1), (33, .getfield 24, 3), (36, .iconst 1, 1), (37, .isub, 1), (38, .putfield 24, 3), (41, .aload_n 0, 1), (42, .iload_n 1, 1), (43, .invokevirtual 159, 3), (46, .return_, 1), (47, .iinc 1 1, 3), (50, .goto (-45), 3), (53, .return_, 1)]
theorem cw_dX1_forgetEarliestWithoutUse : ∀ q ∈ cw_tX1_forgetEarliestWithoutUse, decode cX1_forgetEarliestWithoutUse q.1 = .ok q.2 := by decide +kernel
def mm_X1_forgetEarliestWithoutUse : cw_I := (yX1_forgetEarliestWithoutUse, cX1_forgetEarliestWithoutUse, 2, none, 1, 0, 3, cw_tX1_forgetEarliestWithoutUse)
theorem cw_KX1_forgetEarliestWithoutUse : cw_okI mm_X1_forgetEarliestWithoutUse := ⟨cw_dX1_forgetEarliestWithoutUse, by decide +kernel, cw_in1 238 rfl rfl, cw_in1 2 rfl rfl, rfl, by decide +kernel, by decide +kernel, by decide +kernel, by decide +kernel, by decide⟩
theorem cw_kX1_forgetEarliestWithoutUse : cw_okD mm_X1_forgetEarliestWithoutUse := ⟨cw_dX1_forgetEarliestWithoutUse, by decide +kernel, trivial⟩
def cw_tX1_init : List (Nat × (ClassFile.Instr × Nat)) := [(0, .aload_n 0, 1), (1, .invokespecial 3, 3), (4, .aload_n 0, 1), (5, .iconst 4, 1), (6, .putfield 9, 3), (9, .aload_n 0, 1), (10, .bipush 10, 2), (12, .putfield 15, 3), (15, .aload_n 0, 1), (16, .iconst 0, 1), (17, .putfield 18, 3), (20, .aload_n 0, 1), (21, .iconst 0, 1), (22, .putfield 21, 3), (25, .aload_n 0, 1), (26, .iconst 0, 1), (27, .putfield 24, 3), (30, .aload_n 0, 1), (31, .bipush 60, 2), (33, .newarray .int, 2), (35, .putfield 27, 3), (38, .aload_n 0, 1), (39, .iconst 0, 1), (40, .putfield 31, 3), (43, .aload_n 0, 1), (44, .bipush 9, 2), (46, .newarray .int, 2), (48, .putfield 34, 3), (51, .aload_n 0, 1), (52, .bipush 9, 2), (54, .newarray .int, 2), (56, .putfield 37, 3), (59, .aload_n 0, 1), (60, .bipush 9, 2), (62, .newarray .int, 2), (64, .putfield 40, 3), (67, .aload_n 0, 1), (68, .iconst 0, 1), (69, .putfield 43, 3), (72, .aload_n 0, 1), (73, .iconst 0, 1), (74, .putfield 46, 3), (77, .aload_n 0, 1), (78, .iconst 0, 1), (79, .putfield 49, 3), (82, .aload_n 0, 1), (83, .iconst 0, 1), (84, .putfield 52, 3), (87, .return_, 1)]
theorem cw_dX1_init : ∀ q ∈ cw_tX1_init, decode cX1_init q.1 = .ok q.2 := by decide +kernel
def mm_X1_init : cw_I := (yX1_init, cX1_init, 1, none, 1, 0, 1, cw_tX1_init)
theorem cw_KX1_init : cw_okI mm_X1_init := ⟨cw_dX1_init, by decide +kernel, cw_in1 19 rfl rfl, cw_in1 2 rfl rfl, rfl, by decide +kernel, by decide +kernel, by decide +kernel, by decide +kernel, by decide⟩
theorem cw_kX1_init : cw_okD mm_X1_init := ⟨cw_dX1_init, by decide +kernel, trivial⟩
def cw_tX1_lowerReasonsAbove : List (Nat × (ClassFile.Instr × Nat)) := [(0, .iconst 0, 1), (1, .istore_n 2, 1), (2, .iload_n 2, 1), (3, .aload_n 0, 1), (4, .getfield 31, 3), (7, .if_icmp .ge 35, 3), (10, .iload_n 2, 1), (11, .bipush 9, 2), (13, .if_icmp .ge 29, 3), (16, .aload_n 0, 1), (17, .getfield 40, 3), (20, .iload_n 2, 1), (21, .iaload, 1), (22, .iload_n 1, 1), (23, .if_icmp .le 13, 3), (26, .aload_n 0, 1), (27, .getfield 40, 3), (30, .iload_n 2, 1), (31, .dup2, 1), (32, .iaload, 1), (33, .iconst 1, 1), (34, .isub, 1), (35, .iastore, 1), (36, .iinc 2 1, 3), (39, .goto (-37), 3), (42, .return_, 1)]
theorem cw_dX1_lowerReasonsAbove : ∀ q ∈ cw_tX1_lowerReasonsAbove, decode cX1_lowerReasonsAbove q.1 = .ok q.2 := by decide +kernel
def mm_X1_lowerReasonsAbove : cw_I := (yX1_lowerReasonsAbove, cX1_lowerReasonsAbove, 3, none, 1, 1, 1, cw_tX1_lowerReasonsAbove)
theorem cw_KX1_lowerReasonsAbove : cw_okI mm_X1_lowerReasonsAbove := ⟨cw_dX1_lowerReasonsAbove, by decide +kernel, cw_in2 10 rfl rfl, cw_in1 2 rfl rfl, rfl, by decide +kernel, by decide +kernel, by decide +kernel, by decide +kernel, by decide⟩
theorem cw_kX1_lowerReasonsAbove : cw_okD mm_X1_lowerReasonsAbove := ⟨cw_dX1_lowerReasonsAbove, by decide +kernel, trivial⟩
def cw_tX1_meetConflict : List (Nat × (ClassFile.Instr × Nat)) := [(0, .aload_n 0, 1), (1, .invokevirtual 117, 3), (4, .ifCond .ne 9, 3), (7, .aload_n 0, 1), (8, .iconst 2, 1), (9, .putfield 46, 3), (12, .return_, 1), (13, .aload_n 0, 1), (14, .aload_n 0, 1), (15, .iload_n 1, 1), (16, .invokevirtual 61, 3), (19, .invokevirtual 130, 3), (22, .istore_n 2, 1), (23, .aload_n 0, 1), (24, .aload_n 0, 1), (25, .iload_n 2, 1), (26, .invokevirtual 133, 3), (29, .invokevirtual 136, 3), (32, .aload_n 0, 1), (33, .getfield 24, 3), (36, .bipush 40, 2), (38, .if_icmp .lt 7, 3), (41, .aload_n 0, 1), (42, .invokevirtual 139, 3), (45, .aload_n 0, 1), (46, .iload_n 2, 1), (47, .invokevirtual 142, 3), (50, .aload_n 0, 1), (51, .dup, 1), (52, .getfield 49, 3), (55, .iconst 1, 1), (56, .iadd, 1), (57, .putfield 49, 3), (60, .aload_n 0, 1), (61, .getfield 15, 3), (64, .ifCond .le 20, 3), (67, .aload_n 0, 1), (68, .getfield 49, 3), (71, .aload_n 0, 1), (72, .getfield 15, 3), (75, .irem, 1), (76, .ifCond .ne 8, 3), (79, .aload_n 0, 1), (80, .iconst 0, 1), (81, .invokevirtual 136, 3), (84, .return_, 1)]
theorem cw_dX1_meetConflict : ∀ q ∈ cw_tX1_meetConflict, decode cX1_meetConflict q.1 = .ok q.2 := by decide +kernel
def mm_X1_meetConflict : cw_I := (yX1_meetConflict, cX1_meetConflict, 3, none, 1, 1, 5, cw_tX1_meetConflict)
theorem cw_KX1_meetConflict : cw_okI mm_X1_meetConflict := ⟨cw_dX1_meetConflict, by decide +kernel, cw_in1 195 rfl rfl, cw_in1 2 rfl rfl, rfl, by decide +kernel, by decide +kernel, by decide +kernel, by decide +kernel, by decide⟩
theorem cw_kX1_meetConflict : cw_okD mm_X1_meetConflict := ⟨cw_dX1_meetConflict, by decide +kernel, trivial⟩
def cw_tX1_signsOfPresentLevel : List (Nat × (ClassFile.Instr × Nat)) := [(0, .iconst 0, 1), (1, .istore_n 1, 1), (2, .iconst 0, 1), (3, .istore_n 2, 1), (4, .iload_n 2, 1), (5, .aload_n 0, 1), (6, .getfield 31, 3), (9, .if_icmp .ge 32, 3), (12, .aload_n 0, 1), (13, .iload_n 2, 1), (14, .invokevirtual 88, 3), (17, .aload_n 0, 1), (18, .invokevirtual 117, 3), (21, .if_icmp .ne 14, 3), (24, .iload_n 1, 1), (25, .aload_n 0, 1), (26, .iload_n 2, 1), (27, .invokevirtual 91, 3), (30, .invokestatic 97, 3), (33, .ior, 1), (34, .istore_n 1, 1), (35, .iinc 2 1, 3), (38, .goto (-34), 3), (41, .iload_n 1, 1), (42, .ireturn, 1)]
theorem cw_dX1_signsOfPresentLevel : ∀ q ∈ cw_tX1_signsOfPresentLevel, decode cX1_signsOfPresentLevel q.1 = .ok q.2 := by decide +kernel
def mm_X1_signsOfPresentLevel : cw_I := (yX1_signsOfPresentLevel, cX1_signsOfPresentLevel, 3, (some .int), 1, 0, 3, cw_tX1_signsOfPresentLevel)
theorem cw_KX1_signsOfPresentLevel : cw_okI mm_X1_signsOfPresentLevel := ⟨cw_dX1_signsOfPresentLevel, by decide +kernel, cw_in1 211 rfl rfl, cw_in1 2 rfl rfl, rfl, by decide +kernel, by decide +kernel, by decide +kernel, by decide +kernel, by decide⟩
theorem cw_kX1_signsOfPresentLevel : cw_okD mm_X1_signsOfPresentLevel := ⟨cw_dX1_signsOfPresentLevel, by decide +kernel, trivial⟩
def cw_tX2_clause : List (Nat × (ClassFile.Instr × Nat)) := [(0, .aload_n 0, 1), (1, .iload_n 1, 1), (2, .invokevirtual 123, 3), (5, .ifCond .eq 5, 3), (8, .iconst (-1), 1), (9, .ireturn, 1), (10, .iload_n 2, 1), (11, .ifCond .lt 9, 3), (14, .iload_n 2, 1), (15, .bipush 12, 2), (17, .if_icmp .le 6, 3), (20, .bipush (-2), 2), (22, .ireturn, 1), (23, .aload_n 0, 1), (24, .getfield 12, 3), (27, .iload_n 1, 1), (28, .invokevirtual 126, 3), (31, .istore_n 3, 1), (32, .iload_n 2, 1), (33, .lookupswitch 105 #[(0, 43), (10, 48), (11, 65), (12, 93)], 43), (76, .iload_n 3, 1), (77, .invokestatic 129, 3), (80, .ireturn, 1), (81, .aload_n 0, 1), (82, .getfield 12, 3), (85, .iload_n 3, 1), (86, .invokevirtual 134, 3), (89, .ifCond .eq 7, 3), (92, .iconst 1, 1), (93, .goto 4, 3), (96, .iconst 0, 1), (97, .ireturn, 1), (98, .aload_n 0, 1), (99, .getfield 12, 3), (102, .iload_n 3, 1), (103, .invokevirtual 134, 3), (106, .ifCond .ne 18, 3), (109, .aload_n 0, 1), (110, .getfield 12, 3), (113, .iload_n 3, 1), (114, .invokevirtual 137, 3), (117, .ifCond .ne 7, 3), (120, .iconst 1, 1), (121, .goto 4, 3), (124, .iconst 0, 1), (125, .ireturn, 1), (126, .aload_n 0, 1), (127, .getfield 12, 3), (130, .iload_n 3, 1), (131, .invokevirtual 137, 3), (134, .invokestatic 129, 3), (137, .ireturn, 1), (138, .iload_n 3, 1), (139, .iload_n 2, 1), (140, .invokestatic 140, 3), (143, .ireturn, 1)]
theorem cw_dX2_clause : ∀ q ∈ cw_tX2_clause, decode cX2_clause q.1 = .ok q.2 := by decide +kernel
def mm_X2_clause : cw_I := (yX2_clause, cX2_clause, 4, (some .int), 2, 2, 4, cw_tX2_clause)
theorem cw_KX2_clause : cw_okI mm_X2_clause := ⟨cw_dX2_clause, by decide +kernel, cw_in2 94 rfl rfl, cw_in1 1 rfl rfl, rfl, by decide +kernel, by decide +kernel, by decide +kernel, by decide +kernel, by decide⟩
theorem cw_kX2_clause : cw_okD mm_X2_clause := ⟨cw_dX2_clause, by decide +kernel, trivial⟩
def cw_tX2_isNoClause : List (Nat × (ClassFile.Instr × Nat)) := [(0, .iload_n 1, 1), (1, .ifCond .lt 22, 3), (4, .iload_n 1, 1), (5, .aload_n 0, 1), (6, .getfield 12, 3), (9, .getfield 72, 3), (12, .aload_n 0, 1), (13, .getfield 12, 3), (16, .getfield 144, 3), (19, .iadd, 1), (20, .if_icmp .lt 7, 3), (23, .iconst 1, 1), (24, .goto 4, 3), (27, .iconst 0, 1), (28, .ireturn, 1)]
theorem cw_dX2_isNoClause : ∀ q ∈ cw_tX2_isNoClause, decode cX2_isNoClause q.1 = .ok q.2 := by decide +kernel
def mm_X2_isNoClause : cw_I := (yX2_isNoClause, cX2_isNoClause, 2, (some .boolean), 2, 1, 1, cw_tX2_isNoClause)
theorem cw_KX2_isNoClause : cw_okI mm_X2_isNoClause := ⟨cw_dX2_isNoClause, by decide +kernel, cw_in2 98 rfl rfl, cw_in1 1 rfl rfl, rfl, by decide +kernel, by decide +kernel, by decide +kernel, by decide +kernel, by decide⟩
theorem cw_kX2_isNoClause : cw_okD mm_X2_isNoClause := ⟨cw_dX2_isNoClause, by decide +kernel, trivial⟩
def cw_tX2_of : List (Nat × (ClassFile.Instr × Nat)) := [(0, .aload_n 0, 1), (1, .iload_n 1, 1), (2, .invokevirtual 104, 3), (5, .ifCond .eq 5, 3), (8, .iconst (-1), 1), (9, .ireturn, 1), (10, .iload_n 2, 1), (11, .ifCond .lt 8, 3), (14, .iload_n 2, 1), (15, .iconst 3, 1), (16, .if_icmp .le 6, 3), (19, .bipush (-2), 2), (21, .ireturn, 1), (22, .aload_n 0, 1), (23, .getfield 12, 3), (26, .iload_n 1, 1), (27, .invokevirtual 108, 3), (30, .istore_n 3, 1), (31, .iload_n 3, 1), (32, .ifCond .ge 6, 3), (35, .bipush (-6), 2), (37, .ireturn, 1), (38, .iload_n 2, 1), (39, .tableswitch 61 0 2 #[25, 43, 52], 25), (64, .aload_n 0, 1), (65, .getfield 12, 3), (68, .iload_n 3, 1), (69, .invokevirtual 111, 3), (72, .iload_n 1, 1), (73, .if_icmp .ne 7, 3), (76, .iconst 1, 1), (77, .goto 4, 3), (80, .iconst 0, 1), (81, .ireturn, 1), (82, .aload_n 0, 1), (83, .getfield 12, 3), (86, .iload_n 3, 1), (87, .invokevirtual 114, 3), (90, .ireturn, 1), (91, .aload_n 0, 1), (92, .getfield 12, 3), (95, .iload_n 3, 1), (96, .invokevirtual 117, 3), (99, .ireturn, 1), (100, .iload_n 3, 1), (101, .ireturn, 1)]
theorem cw_dX2_of : ∀ q ∈ cw_tX2_of, decode cX2_of q.1 = .ok q.2 := by decide +kernel
def mm_X2_of : cw_I := (yX2_of, cX2_of, 4, (some .int), 2, 2, 3, cw_tX2_of)
theorem cw_KX2_of : cw_okI mm_X2_of := ⟨cw_dX2_of, by decide +kernel, cw_in2 71 rfl rfl, cw_in1 1 rfl rfl, rfl, by decide +kernel, by decide +kernel, by decide +kernel, by decide +kernel, by decide⟩
theorem cw_kX2_of : cw_okD mm_X2_of := ⟨cw_dX2_of, by decide +kernel, trivial⟩
def cw_tX2_record : List (Nat × (ClassFile.Instr × Nat)) := [(0, .aload_n 0, 1), (1, .getfield 23, 3), (4, .bipush 6, 2), (6, .if_icmp .lt 12, 3), (9, .aload_n 0, 1), (10, .invokevirtual 192, 3), (13, .aload_n 0, 1), (14, .iconst 5, 1), (15, .putfield 23, 3), (18, .aload_n 0, 1), (19, .getfield 23, 3), (22, .ifCond .lt 66, 3), (25, .aload_n 0, 1), (26, .getfield 23, 3), (29, .bipush 6, 2), (31, .if_icmp .ge 57, 3), (34, .aload_n 0, 1), (35, .getfield 19, 3), (38, .aload_n 0, 1), (39, .getfield 23, 3), (42, .aaload, 1), (43, .ifnonnull 19, 3), (46, .aload_n 0, 1), (47, .getfield 19, 3), (50, .aload_n 0, 1), (51, .getfield 23, 3), (54, .new 9, 3), (57, .dup, 1), (58, .invokespecial 11, 3), (61, .aastore, 1), (62, .aload_n 0, 1), (63, .getfield 19, 3), (66, .aload_n 0, 1), (67, .getfield 23, 3), (70, .aaload, 1), (71, .aload_n 0, 1), (72, .getfield 12, 3), (75, .invokevirtual 175, 3), (78, .aload_n 0, 1), (79, .dup, 1), (80, .getfield 23, 3), (83, .iconst 1, 1), (84, .iadd, 1), (85, .putfield 23, 3), (88, .return_, 1)]
theorem cw_dX2_record : ∀ q ∈ cw_tX2_record, decode cX2_record q.1 = .ok q.2 := by decide +kernel
def mm_X2_record : cw_I := (yX2_record, cX2_record, 1, none, 2, 0, 2, cw_tX2_record)
theorem cw_KX2_record : cw_okI mm_X2_record := ⟨cw_dX2_record, by decide +kernel, cw_in1 138 rfl rfl, cw_in1 1 rfl rfl, rfl, by decide +kernel, by decide +kernel, by decide +kernel, by decide +kernel, by decide⟩
theorem cw_kX2_record : cw_okD mm_X2_record := ⟨cw_dX2_record, by decide +kernel, trivial⟩
def cw_tX2_signInOrder : List (Nat × (ClassFile.Instr × Nat)) := [(0, .iconst 0, 1), (1, .istore_n 2, 1), (2, .iconst 1, 1), (3, .istore_n 3, 1), (4, .iload_n 3, 1), (5, .bipush 9, 2), (7, .if_icmp .gt 47, 3), (10, .iload_n 0, 1), (11, .iload_n 0, 1), (12, .invokestatic 196, 3), (15, .ior, 1), (16, .iload_n 3, 1), (17, .invokestatic 171, 3), (20, .ifCond .eq 28, 3), (23, .iinc 2 1, 3), (26, .iload_n 2, 1), (27, .iload_n 1, 1), (28, .if_icmp .ne 20, 3), (31, .iload_n 0, 1), (32, .iload_n 3, 1), (33, .invokestatic 171, 3), (36, .ifCond .eq 7, 3), (39, .iload_n 3, 1), (40, .goto 7, 3), (43, .iload_n 3, 1), (44, .invokestatic 199, 3), (47, .ireturn, 1), (48, .iinc 3 1, 3), (51, .goto (-47), 3), (54, .bipush (-6), 2), (56, .ireturn, 1)]
theorem cw_dX2_signInOrder : ∀ q ∈ cw_tX2_signInOrder, decode cX2_signInOrder q.1 = .ok q.2 := by decide +kernel
def mm_X2_signInOrder : cw_I := (yX2_signInOrder, cX2_signInOrder, 4, (some .int), 2, 2, 3, cw_tX2_signInOrder)
theorem cw_KX2_signInOrder : cw_okI mm_X2_signInOrder := ⟨cw_dX2_signInOrder, by decide +kernel, cw_in2 17 rfl rfl, cw_in1 1 rfl rfl, rfl, by decide +kernel, by decide +kernel, by decide +kernel, by decide +kernel, by decide⟩
theorem cw_kX2_signInOrder : cw_okD mm_X2_signInOrder := ⟨cw_dX2_signInOrder, by decide +kernel, trivial⟩
def cw_tL_anew : List (Nat × (ClassFile.Instr × Nat)) := [(0, .iconst (-1), 1), (1, .aload_n 0, 1), (2, .aload_n 1, 1), (3, .aload_n 2, 1), (4, .aload_n 3, 1), (5, .invokestatic 10, 3), (8, .aload_n 0, 1), (9, .iconst 4, 1), (10, .iconst 0, 1), (11, .iastore, 1), (12, .aload_n 0, 1), (13, .iconst 5, 1), (14, .iconst 0, 1), (15, .iastore, 1), (16, .aload_n 0, 1), (17, .bipush 6, 2), (19, .iconst 0, 1), (20, .iastore, 1), (21, .aload_n 0, 1), (22, .bipush 8, 2), (24, .iconst 0, 1), (25, .iastore, 1), (26, .aload_n 0, 1), (27, .bipush 9, 2), (29, .iconst 0, 1), (30, .iastore, 1), (31, .return_, 1)]
theorem cw_dL_anew : ∀ q ∈ cw_tL_anew, decode cL_anew q.1 = .ok q.2 := by decide +kernel
def mm_L_anew : cw_I := (yL_anew, cL_anew, 4, none, 4, 4, 2, cw_tL_anew)
theorem cw_KL_anew : cw_okI mm_L_anew := ⟨cw_dL_anew, by decide +kernel, cw_in2 139 rfl rfl, cw_in1 0 rfl rfl, rfl, by decide +kernel, by decide +kernel, by decide +kernel, by decide +kernel, by decide⟩
theorem cw_kL_anew : cw_okD mm_L_anew := ⟨cw_dL_anew, by decide +kernel, trivial⟩
def cw_tL_give : List (Nat × (ClassFile.Instr × Nat)) := [(0, .aload 6, 2), (2, .aload_n 3, 1), (3, .bipush 7, 2), (5, .dup2, 1), (6, .iaload, 1), (7, .dup_x2, 1), (8, .iconst 1, 1), (9, .iadd, 1), (10, .iastore, 1), (11, .iload_n 0, 1), (12, .iastore, 1), (13, .aload 4, 2), (15, .iload_n 0, 1), (16, .aload_n 3, 1), (17, .bipush 6, 2), (19, .iaload, 1), (20, .iastore, 1), (21, .aload 5, 2), (23, .iload_n 0, 1), (24, .iload_n 2, 1), (25, .iastore, 1), (26, .aload_n 3, 1), (27, .iload_n 1, 1), (28, .ifCond .eq 8, 3), (31, .bipush 10, 2), (33, .goto 5, 3), (36, .bipush 11, 2), (38, .dup2, 1), (39, .iaload, 1), (40, .iconst 1, 1), (41, .iload_n 0, 1), (42, .ishl, 1), (43, .ior, 1), (44, .iastore, 1), (45, .return_, 1)]
theorem cw_dL_give : ∀ q ∈ cw_tL_give, decode cL_give q.1 = .ok q.2 := by decide +kernel
def mm_L_give : cw_I := (yL_give, cL_give, 7, none, 4, 7, 1, cw_tL_give)
theorem cw_KL_give : cw_okI mm_L_give := ⟨cw_dL_give, by decide +kernel, cw_in2 64 rfl rfl, cw_in1 0 rfl rfl, rfl, by decide +kernel, by decide +kernel, by decide +kernel, by decide +kernel, by decide⟩
theorem cw_kL_give : cw_okD mm_L_give := ⟨cw_dL_give, by decide +kernel, trivial⟩
def cw_tL_learn : List (Nat × (ClassFile.Instr × Nat)) := [(0, .aload_n 2, 1), (1, .iload_n 0, 1), (2, .iaload, 1), (3, .istore 7, 2), (5, .aload_n 3, 1), (6, .iload_n 0, 1), (7, .iaload, 1), (8, .istore 8, 2), (10, .aload_n 1, 1), (11, .bipush 7, 2), (13, .iaload, 1), (14, .iconst 1, 1), (15, .isub, 1), (16, .istore 9, 2), (18, .iconst 0, 1), (19, .istore 10, 2), (21, .iconst 0, 1), (22, .istore 11, 2), (24, .iload 11, 2), (26, .aload_n 1, 1), (27, .bipush 7, 2), (29, .iaload, 1), (30, .if_icmp .ge 51, 3), (33, .iload 10, 2), (35, .aload 4, 2), (37, .aload 6, 2), (39, .iload 11, 2), (41, .iaload, 1), (42, .iaload, 1), (43, .aload_n 1, 1), (44, .bipush 6, 2), (46, .iaload, 1), (47, .if_icmp .ne 24, 3), (50, .iload 7, 2), (52, .iload 8, 2), (54, .ior, 1), (55, .aload 6, 2), (57, .iload 11, 2), (59, .iaload, 1), (60, .ishr, 1), (61, .iconst 1, 1), (62, .iand, 1), (63, .iconst 1, 1), (64, .if_icmp .ne 7, 3), (67, .iconst 1, 1), (68, .goto 4, 3), (71, .iconst 0, 1), (72, .iadd, 1), (73, .istore 10, 2), (75, .iinc 11 1, 3), (78, .goto (-54), 3), (81, .iload 10, 2), (83, .iconst 1, 1), (84, .if_icmp .gt 6, 3), (87, .goto 77, 3), (90, .iload 7, 2), (92, .iload 8, 2), (94, .ior, 1), (95, .aload 6, 2), (97, .iload 9, 2), (99, .iaload, 1), (100, .ishr, 1), (101, .iconst 1, 1), (102, .iand, 1), (103, .ifCond .ne 9, 3), (106, .iinc 9 (-1), 3), (109, .goto (-19), 3), (112, .iconst 1, 1), (113, .aload 6, 2), (115, .iload 9, 2), (117, .iaload, 1), (118, .ishl, 1), (119, .istore 11, 2), (121, .iload 7, 2), (123, .aload_n 2, 1), (124, .aload 5, 2), (126, .aload 6, 2), (128, .iload 9, 2), (130, .iaload, 1), (131, .iaload, 1), (132, .iaload, 1), (133, .ior, 1), (134, .iload 11, 2), (136, .iconst (-1), 1), (137, .ixor, 1), (138, .iand, 1), (139, .istore 7, 2), (141, .iload 8, 2), (143, .aload_n 3, 1), (144, .aload 5, 2), (146, .aload 6, 2), (148, .iload 9, 2), (150, .iaload, 1), (151, .iaload, 1), (152, .iaload, 1), (153, .ior, 1), (154, .iload 11, 2), (156, .iconst (-1), 1), (157, .ixor, 1), (158, .iand, 1), (159, .istore 8, 2), (161, .goto (-143), 3), (164, .iconst 0, 1), (165, .istore 10, 2), (167, .iconst 0, 1), (168, .istore 11, 2), (170, .iload 11, 2), (172, .aload_n 1, 1), (173, .bipush 7, 2), (175, .iaload, 1), (176, .if_icmp .ge 69, 3), (179, .iload 7, 2), (181, .iload 8, 2), (183, .ior, 1), (184, .aload 6, 2), (186, .iload 11, 2), (188, .iaload, 1), (189, .ishr, 1), (190, .iconst 1, 1), (191, .iand, 1), (192, .iconst 1, 1), (193, .if_icmp .ne 42, 3), (196, .aload 4, 2), (198, .aload 6, 2), (200, .iload 11, 2), (202, .iaload, 1), (203, .iaload, 1), (204, .aload_n 1, 1), (205, .bipush 6, 2), (207, .iaload, 1), (208, .if_icmp .ge 27, 3), (211, .aload 4, 2), (213, .aload 6, 2), (215, .iload 11, 2), (217, .iaload, 1), (218, .iaload, 1), (219, .iload 10, 2), (221, .if_icmp .le 14, 3), (224, .aload 4, 2), (226, .aload 6, 2), (228, .iload 11, 2), (230, .iaload, 1), (231, .iaload, 1), (232, .goto 5, 3), (235, .iload 10, 2), (237, .istore 10, 2), (239, .iinc 11 1, 3), (242, .goto (-72), 3), (245, .iload 10, 2), (247, .aload_n 1, 1), (248, .aload 4, 2), (250, .aload 5, 2), (252, .aload 6, 2), (254, .invokestatic 10, 3), (257, .aload_n 1, 1), (258, .iconst 3, 1), (259, .iaload, 1), (260, .aload_n 1, 1), (261, .iconst 4, 1), (262, .iaload, 1), (263, .iadd, 1), (264, .istore 11, 2), (266, .aload_n 1, 1), (267, .iconst 4, 1), (268, .iaload, 1), (269, .bipush 40, 2), (271, .if_icmp .ne 172, 3), (274, .aload_n 1, 1), (275, .iconst 3, 1), (276, .iaload, 1), (277, .istore 12, 2), (279, .iconst 1, 1), (280, .istore 13, 2), (282, .iload 13, 2), (284, .ifCond .eq 67, 3), (287, .iconst 0, 1), (288, .istore 13, 2), (290, .iconst 0, 1), (291, .istore 14, 2), (293, .iload 14, 2), (295, .aload_n 1, 1), (296, .bipush 7, 2), (298, .iaload, 1), (299, .if_icmp .ge 34, 3), (302, .iload 13, 2), (304, .ifCond .ne 16, 3), (307, .aload 5, 2), (309, .aload 6, 2), (311, .iload 14, 2), (313, .iaload, 1), (314, .iaload, 1), (315, .iload 12, 2), (317, .if_icmp .ne 7, 3), (320, .iconst 1, 1), (321, .goto 4, 3), (324, .iconst 0, 1), (325, .istore 13, 2), (327, .iinc 14 1, 3), (330, .goto (-37), 3), (333, .iload 12, 2), (335, .iload 13, 2), (337, .ifCond .eq 7, 3), (340, .iconst 1, 1), (341, .goto 4, 3), (344, .iconst 0, 1), (345, .iadd, 1), (346, .istore 12, 2), (348, .goto (-66), 3), (351, .iload 12, 2), (353, .istore 13, 2), (355, .iload 13, 2), (357, .iconst 1, 1), (358, .iadd, 1), (359, .iload 11, 2), (361, .if_icmp .ge 29, 3), (364, .aload_n 2, 1), (365, .iload 13, 2), (367, .aload_n 2, 1), (368, .iload 13, 2), (370, .iconst 1, 1), (371, .iadd, 1), (372, .iaload, 1), (373, .iastore, 1), (374, .aload_n 3, 1), (375, .iload 13, 2), (377, .aload_n 3, 1), (378, .iload 13, 2), (380, .iconst 1, 1), (381, .iadd, 1), (382, .iaload, 1), (383, .iastore, 1), (384, .iinc 13 1, 3), (387, .goto (-32), 3), (390, .iconst 0, 1), (391, .istore 13, 2), (393, .iload 13, 2), (395, .aload_n 1, 1), (396, .bipush 7, 2), (398, .iaload, 1), (399, .if_icmp .ge 34, 3), (402, .aload 5, 2), (404, .aload 6, 2), (406, .iload 13, 2), (408, .iaload, 1), (409, .iaload, 1), (410, .iload 12, 2), (412, .if_icmp .le 15, 3), (415, .aload 5, 2), (417, .aload 6, 2), (419, .iload 13, 2), (421, .iaload, 1), (422, .dup2, 1), (423, .iaload, 1), (424, .iconst 1, 1), (425, .isub, 1), (426, .iastore, 1), (427, .iinc 13 1, 3), (430, .goto (-37), 3), (433, .aload_n 1, 1), (434, .iconst 4, 1), (435, .dup2, 1), (436, .iaload, 1), (437, .iconst 1, 1), (438, .isub, 1), (439, .iastore, 1), (440, .iinc 11 (-1), 3), (443, .aload_n 2, 1), (444, .iload 11, 2), (446, .iload 7, 2), (448, .iastore, 1), (449, .aload_n 3, 1), (450, .iload 11, 2), (452, .iload 8, 2), (454, .iastore, 1), (455, .aload_n 1, 1), (456, .iconst 4, 1), (457, .dup2, 1), (458, .iaload, 1), (459, .iconst 1, 1), (460, .iadd, 1), (461, .iastore, 1), (462, .aload_n 1, 1), (463, .bipush 8, 2), (465, .dup2, 1), (466, .iaload, 1), (467, .iconst 1, 1), (468, .iadd, 1), (469, .iastore, 1), (470, .aload_n 1, 1), (471, .bipush 8, 2), (473, .iaload, 1), (474, .aload_n 1, 1), (475, .iconst 1, 1), (476, .iaload, 1), (477, .irem, 1), (478, .ifCond .ne 14, 3), (481, .iconst 0, 1), (482, .aload_n 1, 1), (483, .aload 4, 2), (485, .aload 5, 2), (487, .aload 6, 2), (489, .invokestatic 10, 3), (492, .return_, 1)]
theorem cw_dL_learn : ∀ q ∈ cw_tL_learn, decode cL_learn q.1 = .ok q.2 := by decide +kernel
def mm_L_learn : cw_I := (yL_learn, cL_learn, 15, none, 4, 7, 2, cw_tL_learn)
theorem cw_KL_learn : cw_okI mm_L_learn := ⟨cw_dL_learn, by decide +kernel, cw_in2 58 rfl rfl, cw_in1 0 rfl rfl, rfl, by decide +kernel, by decide +kernel, by decide +kernel, by decide +kernel, by decide⟩
theorem cw_kL_learn : cw_okD mm_L_learn := ⟨cw_dL_learn, by decide +kernel, trivial⟩
end
section
def cw_tX0_append : List (Nat × (ClassFile.Instr × Nat)) := [(0, .iload_n 3, 1), (1, .iconst 1, 1), (2, .isub, 1), (3, .istore 4, 2), (5, .iload 4, 2), (7, .ifCond .lt 51, 3), (10, .aload_n 0, 1), (11, .getfield 15, 3), (14, .ifCond .lt 38, 3), (17, .aload_n 0, 1), (18, .getfield 15, 3), (21, .bipush 60, 2), (23, .if_icmp .ge 29, 3), (26, .aload_n 0, 1), (27, .getfield 11, 3), (30, .aload_n 0, 1), (31, .getfield 15, 3), (34, .lload_n 1, 1), (35, .iload 4, 2), (37, .invokestatic 19, 3), (40, .i2c, 1), (41, .castore, 1), (42, .aload_n 0, 1), (43, .dup, 1), (44, .getfield 15, 3), (47, .iconst 1, 1), (48, .iadd, 1), (49, .putfield 15, 3), (52, .iinc 4 (-1), 3), (55, .goto (-50), 3), (58, .return_, 1)]
theorem cw_dX0_append : ∀ q ∈ cw_tX0_append, decode cX0_append q.1 = .ok q.2 := by decide +kernel
def mm_X0_append : cw_I := (yX0_append, cX0_append, 5, none, 0, 2, 2, cw_tX0_append)
theorem cw_KX0_append : cw_okI mm_X0_append := ⟨cw_dX0_append, by decide +kernel, cw_in2 134 rfl rfl, cw_in1 3 rfl rfl, rfl, by decide +kernel, by decide +kernel, by decide +kernel, by decide +kernel, by decide⟩
theorem cw_kX0_append : cw_okD mm_X0_append := ⟨cw_dX0_append, by decide +kernel, trivial⟩
def cw_tX0_codeIn : List (Nat × (ClassFile.Instr × Nat)) := [(0, .lload_n 0, 1), (1, .bipush 8, 2), (3, .iload_n 2, 1), (4, .imul, 1), (5, .lushr, 1), (6, .ldc2_w 23, 3), (9, .land, 1), (10, .l2i, 1), (11, .ireturn, 1)]
theorem cw_dX0_codeIn : ∀ q ∈ cw_tX0_codeIn, decode cX0_codeIn q.1 = .ok q.2 := by decide +kernel
def mm_X0_codeIn : cw_I := (yX0_codeIn, cX0_codeIn, 3, (some .int), 0, 2, 1, cw_tX0_codeIn)
theorem cw_KX0_codeIn : cw_okI mm_X0_codeIn := ⟨cw_dX0_codeIn, by decide +kernel, cw_in2 129 rfl rfl, cw_in1 3 rfl rfl, rfl, by decide +kernel, by decide +kernel, by decide +kernel, by decide +kernel, by decide⟩
theorem cw_kX0_codeIn : cw_okD mm_X0_codeIn := ⟨cw_dX0_codeIn, by decide +kernel, trivial⟩
def cw_tX0_empty : List (Nat × (ClassFile.Instr × Nat)) := [(0, .aload_n 0, 1), (1, .iconst 0, 1), (2, .putfield 15, 3), (5, .return_, 1)]
theorem cw_dX0_empty : ∀ q ∈ cw_tX0_empty, decode cX0_empty q.1 = .ok q.2 := by decide +kernel
def mm_X0_empty : cw_I := (yX0_empty, cX0_empty, 1, none, 0, 0, 1, cw_tX0_empty)
theorem cw_KX0_empty : cw_okI mm_X0_empty := ⟨cw_dX0_empty, by decide +kernel, cw_in2 118 rfl rfl, cw_in1 3 rfl rfl, rfl, by decide +kernel, by decide +kernel, by decide +kernel, by decide +kernel, by decide⟩
theorem cw_kX0_empty : cw_okD mm_X0_empty := ⟨cw_dX0_empty, by decide +kernel, trivial⟩
def cw_tX0_howManyClauses : List (Nat × (ClassFile.Instr × Nat)) := [(0, .iconst 1, 1), (1, .istore_n 1, 1), (2, .iconst 0, 1), (3, .istore_n 2, 1), (4, .iload_n 2, 1), (5, .aload_n 0, 1), (6, .getfield 15, 3), (9, .if_icmp .ge 22, 3), (12, .aload_n 0, 1), (13, .iload_n 2, 1), (14, .invokevirtual 25, 3), (17, .bipush 59, 2), (19, .if_icmp .ne 6, 3), (22, .iinc 1 1, 3), (25, .iinc 2 1, 3), (28, .goto (-24), 3), (31, .iload_n 1, 1), (32, .ireturn, 1)]
theorem cw_dX0_howManyClauses : ∀ q ∈ cw_tX0_howManyClauses, decode cX0_howManyClauses q.1 = .ok q.2 := by decide +kernel
def mm_X0_howManyClauses : cw_I := (yX0_howManyClauses, cX0_howManyClauses, 3, (some .int), 0, 0, 2, cw_tX0_howManyClauses)
theorem cw_KX0_howManyClauses : cw_okI mm_X0_howManyClauses := ⟨cw_dX0_howManyClauses, by decide +kernel, cw_in2 163 rfl rfl, cw_in1 3 rfl rfl, rfl, by decide +kernel, by decide +kernel, by decide +kernel, by decide +kernel, by decide⟩
theorem cw_kX0_howManyClauses : cw_okD mm_X0_howManyClauses := ⟨cw_dX0_howManyClauses, by decide +kernel, trivial⟩
def cw_tX0_init : List (Nat × (ClassFile.Instr × Nat)) := [(0, .aload_n 0, 1), (1, .invokespecial 3, 3), (4, .aload_n 0, 1), (5, .bipush 60, 2), (7, .newarray .char, 2), (9, .putfield 11, 3), (12, .aload_n 0, 1), (13, .iconst 0, 1), (14, .putfield 15, 3), (17, .return_, 1)]
theorem cw_dX0_init : ∀ q ∈ cw_tX0_init, decode cX0_init q.1 = .ok q.2 := by decide +kernel
def mm_X0_init : cw_I := (yX0_init, cX0_init, 1, none, 0, 0, 1, cw_tX0_init)
theorem cw_KX0_init : cw_okI mm_X0_init := ⟨cw_dX0_init, by decide +kernel, cw_in1 79 rfl rfl, cw_in1 3 rfl rfl, rfl, by decide +kernel, by decide +kernel, by decide +kernel, by decide +kernel, by decide⟩
theorem cw_kX0_init : cw_okD mm_X0_init := ⟨cw_dX0_init, by decide +kernel, trivial⟩
def cw_tX0_tellClausesTo : List (Nat × (ClassFile.Instr × Nat)) := [(0, .iconst 0, 1), (1, .istore_n 2, 1), (2, .iconst 0, 1), (3, .istore_n 3, 1), (4, .iconst 0, 1), (5, .istore 4, 2), (7, .iload 4, 2), (9, .aload_n 0, 1), (10, .getfield 15, 3), (13, .if_icmp .ge 82, 3), (16, .aload_n 0, 1), (17, .iload 4, 2), (19, .invokevirtual 25, 3), (22, .istore 5, 2), (24, .iload 5, 2), (26, .invokestatic 29, 3), (29, .ifCond .eq 33, 3), (32, .iload 5, 2), (34, .bipush 48, 2), (36, .isub, 1), (37, .istore 6, 2), (39, .iload_n 2, 1), (40, .iload_n 3, 1), (41, .ifCond .eq 11, 3), (44, .iload 6, 2), (46, .invokestatic 39, 3), (49, .goto 5, 3), (52, .iload 6, 2), (54, .invokestatic 43, 3), (57, .ior, 1), (58, .istore_n 2, 1), (59, .goto 17, 3), (62, .iload 5, 2), (64, .bipush 59, 2), (66, .if_icmp .ne 10, 3), (69, .aload_n 1, 1), (70, .iload_n 2, 1), (71, .invokevirtual 46, 3), (74, .iconst 0, 1), (75, .istore_n 2, 1), (76, .iload 5, 2), (78, .bipush 45, 2), (80, .if_icmp .ne 7, 3), (83, .iconst 1, 1), (84, .goto 4, 3), (87, .iconst 0, 1), (88, .istore_n 3, 1), (89, .iinc 4 1, 3), (92, .goto (-85), 3), (95, .aload_n 1, 1), (96, .iload_n 2, 1), (97, .invokevirtual 46, 3), (100, .return_, 1)]
theorem cw_dX0_tellClausesTo : ∀ q ∈ cw_tX0_tellClausesTo, decode cX0_tellClausesTo q.1 = .ok q.2 := by decide +kernel
def mm_X0_tellClausesTo : cw_I := (yX0_tellClausesTo, cX0_tellClausesTo, 7, none, 0, 1, 2, cw_tX0_tellClausesTo)
theorem cw_KX0_tellClausesTo : cw_okI mm_X0_tellClausesTo := ⟨cw_dX0_tellClausesTo, by decide +kernel, cw_in2 167 rfl rfl, cw_in1 3 rfl rfl, rfl, by decide +kernel, by decide +kernel, by decide +kernel, by decide +kernel, by decide⟩
theorem cw_kX0_tellClausesTo : cw_okD mm_X0_tellClausesTo := ⟨cw_dX0_tellClausesTo, by decide +kernel, trivial⟩
def cw_tX1_doOneStep : List (Nat × (ClassFile.Instr × Nat)) := [(0, .aload_n 0, 1), (1, .iconst 0, 1), (2, .invokevirtual 106, 3), (5, .istore_n 1, 1), (6, .iload_n 1, 1), (7, .ifCond .lt 9, 3), (10, .aload_n 0, 1), (11, .iload_n 1, 1), (12, .invokevirtual 109, 3), (15, .return_, 1), (16, .aload_n 0, 1), (17, .iconst 1, 1), (18, .invokevirtual 106, 3), (21, .istore_n 2, 1), (22, .iload_n 2, 1), (23, .ifCond .lt 26, 3), (26, .aload_n 0, 1), (27, .aload_n 0, 1), (28, .aload_n 0, 1), (29, .iload_n 2, 1), (30, .invokevirtual 61, 3), (33, .invokevirtual 76, 3), (36, .iconst 1, 1), (37, .invokestatic 113, 3), (40, .aload_n 0, 1), (41, .invokevirtual 117, 3), (44, .iload_n 2, 1), (45, .invokevirtual 120, 3), (48, .return_, 1), (49, .aload_n 0, 1), (50, .invokevirtual 124, 3), (53, .istore_n 3, 1), (54, .iload_n 3, 1), (55, .ifCond .le 32, 3), (58, .aload_n 0, 1), (59, .aload_n 0, 1), (60, .getfield 18, 3), (63, .iconst 1, 1), (64, .if_icmp .ne 7, 3), (67, .iload_n 3, 1), (68, .goto 7, 3), (71, .iload_n 3, 1), (72, .invokestatic 127, 3), (75, .aload_n 0, 1), (76, .invokevirtual 117, 3), (79, .iconst 1, 1), (80, .iadd, 1), (81, .bipush (-6), 2), (83, .invokevirtual 120, 3), (86, .return_, 1), (87, .aload_n 0, 1), (88, .iconst 1, 1), (89, .putfield 46, 3), (92, .return_, 1)]
theorem cw_dX1_doOneStep : ∀ q ∈ cw_tX1_doOneStep, decode cX1_doOneStep q.1 = .ok q.2 := by decide +kernel
def mm_X1_doOneStep : cw_I := (yX1_doOneStep, cX1_doOneStep, 4, none, 1, 0, 6, cw_tX1_doOneStep)
theorem cw_KX1_doOneStep : cw_okI mm_X1_doOneStep := ⟨cw_dX1_doOneStep, by decide +kernel, cw_in1 173 rfl rfl, cw_in1 2 rfl rfl, rfl, by decide +kernel, by decide +kernel, by decide +kernel, by decide +kernel, by decide⟩
theorem cw_kX1_doOneStep : cw_okD mm_X1_doOneStep := ⟨cw_dX1_doOneStep, by decide +kernel, trivial⟩
def cw_tX1_firstUntrue : List (Nat × (ClassFile.Instr × Nat)) := [(0, .iconst 0, 1), (1, .istore_n 2, 1), (2, .iload_n 2, 1), (3, .aload_n 0, 1), (4, .getfield 21, 3), (7, .aload_n 0, 1), (8, .getfield 24, 3), (11, .iadd, 1), (12, .if_icmp .ge 37, 3), (15, .aload_n 0, 1), (16, .iload_n 2, 1), (17, .invokevirtual 61, 3), (20, .istore_n 3, 1), (21, .aload_n 0, 1), (22, .iload_n 3, 1), (23, .invokevirtual 72, 3), (26, .ifCond .ne 17, 3), (29, .aload_n 0, 1), (30, .iload_n 3, 1), (31, .invokevirtual 76, 3), (34, .invokestatic 79, 3), (37, .iload_n 1, 1), (38, .if_icmp .ne 5, 3), (41, .iload_n 2, 1), (42, .ireturn, 1), (43, .iinc 2 1, 3), (46, .goto (-44), 3), (49, .bipush (-6), 2), (51, .ireturn, 1)]
theorem cw_dX1_firstUntrue : ∀ q ∈ cw_tX1_firstUntrue, decode cX1_firstUntrue q.1 = .ok q.2 := by decide +kernel
def mm_X1_firstUntrue : cw_I := (yX1_firstUntrue, cX1_firstUntrue, 4, (some .int), 1, 1, 3, cw_tX1_firstUntrue)
theorem cw_KX1_firstUntrue : cw_okI mm_X1_firstUntrue := ⟨cw_dX1_firstUntrue, by decide +kernel, cw_in1 177 rfl rfl, cw_in1 2 rfl rfl, rfl, by decide +kernel, by decide +kernel, by decide +kernel, by decide +kernel, by decide⟩
theorem cw_kX1_firstUntrue : cw_okD mm_X1_firstUntrue := ⟨cw_dX1_firstUntrue, by decide +kernel, trivial⟩
def cw_tX1_goBackTo : List (Nat × (ClassFile.Instr × Nat)) := [(0, .aload_n 0, 1), (1, .getfield 31, 3), (4, .ifCond .le 52, 3), (7, .aload_n 0, 1), (8, .aload_n 0, 1), (9, .getfield 31, 3), (12, .iconst 1, 1), (13, .isub, 1), (14, .invokevirtual 88, 3), (17, .iload_n 1, 1), (18, .if_icmp .le 38, 3), (21, .aload_n 0, 1), (22, .dup, 1), (23, .getfield 31, 3), (26, .iconst 1, 1), (27, .isub, 1), (28, .putfield 31, 3), (31, .aload_n 0, 1), (32, .dup, 1), (33, .getfield 43, 3), (36, .aload_n 0, 1), (37, .aload_n 0, 1), (38, .getfield 31, 3), (41, .invokevirtual 91, 3), (44, .invokestatic 97, 3), (47, .iconst (-1), 1), (48, .ixor, 1), (49, .iand, 1), (50, .putfield 43, 3), (53, .goto (-53), 3), (56, .return_, 1)]
theorem cw_dX1_goBackTo : ∀ q ∈ cw_tX1_goBackTo, decode cX1_goBackTo q.1 = .ok q.2 := by decide +kernel
def mm_X1_goBackTo : cw_I := (yX1_goBackTo, cX1_goBackTo, 2, none, 1, 1, 2, cw_tX1_goBackTo)
theorem cw_KX1_goBackTo : cw_okI mm_X1_goBackTo := ⟨cw_dX1_goBackTo, by decide +kernel, cw_in1 234 rfl rfl, cw_in1 2 rfl rfl, rfl, by decide +kernel, by decide +kernel, by decide +kernel, by decide +kernel, by decide⟩
theorem cw_kX1_goBackTo : cw_okD mm_X1_goBackTo := ⟨cw_dX1_goBackTo, by decide +kernel, trivial⟩
def cw_tX1_isTrue : List (Nat × (ClassFile.Instr × Nat)) := [(0, .iload_n 1, 1), (1, .aload_n 0, 1), (2, .getfield 43, 3), (5, .iand, 1), (6, .ifCond .eq 7, 3), (9, .iconst 1, 1), (10, .goto 4, 3), (13, .iconst 0, 1), (14, .ireturn, 1)]
theorem cw_dX1_isTrue : ∀ q ∈ cw_tX1_isTrue, decode cX1_isTrue q.1 = .ok q.2 := by decide +kernel
def mm_X1_isTrue : cw_I := (yX1_isTrue, cX1_isTrue, 2, (some .boolean), 1, 1, 1, cw_tX1_isTrue)
theorem cw_KX1_isTrue : cw_okI mm_X1_isTrue := ⟨cw_dX1_isTrue, by decide +kernel, cw_in1 181 rfl rfl, cw_in1 2 rfl rfl, rfl, by decide +kernel, by decide +kernel, by decide +kernel, by decide +kernel, by decide⟩
theorem cw_kX1_isTrue : cw_okD mm_X1_isTrue := ⟨cw_dX1_isTrue, by decide +kernel, trivial⟩
def cw_tX1_levelAt : List (Nat × (ClassFile.Instr × Nat)) := [(0, .iload_n 1, 1), (1, .ifCond .lt 18, 3), (4, .iload_n 1, 1), (5, .bipush 9, 2), (7, .if_icmp .ge 12, 3), (10, .aload_n 0, 1), (11, .getfield 37, 3), (14, .iload_n 1, 1), (15, .iaload, 1), (16, .goto 4, 3), (19, .iconst 0, 1), (20, .ireturn, 1)]
theorem cw_dX1_levelAt : ∀ q ∈ cw_tX1_levelAt, decode cX1_levelAt q.1 = .ok q.2 := by decide +kernel
def mm_X1_levelAt : cw_I := (yX1_levelAt, cX1_levelAt, 2, (some .int), 1, 1, 1, cw_tX1_levelAt)
theorem cw_KX1_levelAt : cw_okI mm_X1_levelAt := ⟨cw_dX1_levelAt, by decide +kernel, cw_in1 203 rfl rfl, cw_in1 2 rfl rfl, rfl, by decide +kernel, by decide +kernel, by decide +kernel, by decide +kernel, by decide⟩
theorem cw_kX1_levelAt : cw_okD mm_X1_levelAt := ⟨cw_dX1_levelAt, by decide +kernel, trivial⟩
def cw_tX1_levelBelowPresent : List (Nat × (ClassFile.Instr × Nat)) := [(0, .iconst 0, 1), (1, .istore_n 2, 1), (2, .iconst 0, 1), (3, .istore_n 3, 1), (4, .iload_n 3, 1), (5, .aload_n 0, 1), (6, .getfield 31, 3), (9, .if_icmp .ge 46, 3), (12, .iload_n 1, 1), (13, .aload_n 0, 1), (14, .iload_n 3, 1), (15, .invokevirtual 91, 3), (18, .invokestatic 127, 3), (21, .invokestatic 68, 3), (24, .ifCond .eq 25, 3), (27, .aload_n 0, 1), (28, .iload_n 3, 1), (29, .invokevirtual 88, 3), (32, .aload_n 0, 1), (33, .invokevirtual 117, 3), (36, .if_icmp .ge 13, 3), (39, .iload_n 2, 1), (40, .aload_n 0, 1), (41, .iload_n 3, 1), (42, .invokevirtual 88, 3), (45, .invokestatic 148, 3), (48, .istore_n 2, 1), (49, .iinc 3 1, 3), (52, .goto (-48), 3), (55, .iload_n 2, 1), (56, .ireturn, 1)]
theorem cw_dX1_levelBelowPresent : ∀ q ∈ cw_tX1_levelBelowPresent, decode cX1_levelBelowPresent q.1 = .ok q.2 := by decide +kernel
def mm_X1_levelBelowPresent : cw_I := (yX1_levelBelowPresent, cX1_levelBelowPresent, 4, (some .int), 1, 1, 3, cw_tX1_levelBelowPresent)
theorem cw_KX1_levelBelowPresent : cw_okI mm_X1_levelBelowPresent := ⟨cw_dX1_levelBelowPresent, by decide +kernel, cw_in1 227 rfl rfl, cw_in1 2 rfl rfl, rfl, by decide +kernel, by decide +kernel, by decide +kernel, by decide +kernel, by decide⟩
theorem cw_kX1_levelBelowPresent : cw_okD mm_X1_levelBelowPresent := ⟨cw_dX1_levelBelowPresent, by decide +kernel, trivial⟩
def cw_tX1_placeOf : List (Nat × (ClassFile.Instr × Nat)) := [(0, .iconst 0, 1), (1, .istore_n 2, 1), (2, .iload_n 2, 1), (3, .aload_n 0, 1), (4, .getfield 31, 3), (7, .if_icmp .ge 23, 3), (10, .aload_n 0, 1), (11, .iload_n 2, 1), (12, .invokevirtual 91, 3), (15, .invokestatic 94, 3), (18, .iload_n 1, 1), (19, .if_icmp .ne 5, 3), (22, .iload_n 2, 1), (23, .ireturn, 1), (24, .iinc 2 1, 3), (27, .goto (-25), 3), (30, .bipush (-6), 2), (32, .ireturn, 1)]
theorem cw_dX1_placeOf : ∀ q ∈ cw_tX1_placeOf, decode cX1_placeOf q.1 = .ok q.2 := by decide +kernel
def mm_X1_placeOf : cw_I := (yX1_placeOf, cX1_placeOf, 3, (some .int), 1, 1, 2, cw_tX1_placeOf)
theorem cw_KX1_placeOf : cw_okI mm_X1_placeOf := ⟨cw_dX1_placeOf, by decide +kernel, cw_in2 79 rfl rfl, cw_in1 2 rfl rfl, rfl, by decide +kernel, by decide +kernel, by decide +kernel, by decide +kernel, by decide⟩
theorem cw_kX1_placeOf : cw_okD mm_X1_placeOf := ⟨cw_dX1_placeOf, by decide +kernel, trivial⟩
def cw_tX1_reasonAt : List (Nat × (ClassFile.Instr × Nat)) := [(0, .iload_n 1, 1), (1, .ifCond .lt 18, 3), (4, .iload_n 1, 1), (5, .bipush 9, 2), (7, .if_icmp .ge 12, 3), (10, .aload_n 0, 1), (11, .getfield 40, 3), (14, .iload_n 1, 1), (15, .iaload, 1), (16, .goto 5, 3), (19, .bipush (-6), 2), (21, .ireturn, 1)]
theorem cw_dX1_reasonAt : ∀ q ∈ cw_tX1_reasonAt, decode cX1_reasonAt q.1 = .ok q.2 := by decide +kernel
def mm_X1_reasonAt : cw_I := (yX1_reasonAt, cX1_reasonAt, 2, (some .int), 1, 1, 1, cw_tX1_reasonAt)
theorem cw_KX1_reasonAt : cw_okI mm_X1_reasonAt := ⟨cw_dX1_reasonAt, by decide +kernel, cw_in1 223 rfl rfl, cw_in1 2 rfl rfl, rfl, by decide +kernel, by decide +kernel, by decide +kernel, by decide +kernel, by decide⟩
theorem cw_kX1_reasonAt : cw_okD mm_X1_reasonAt := ⟨cw_dX1_reasonAt, by decide +kernel, trivial⟩
def cw_tX1_signAt : List (Nat × (ClassFile.Instr × Nat)) := [(0, .iload_n 1, 1), (1, .ifCond .lt 18, 3), (4, .iload_n 1, 1), (5, .bipush 9, 2), (7, .if_icmp .ge 12, 3), (10, .aload_n 0, 1), (11, .getfield 34, 3), (14, .iload_n 1, 1), (15, .iaload, 1), (16, .goto 4, 3), (19, .iconst 0, 1), (20, .ireturn, 1)]
theorem cw_dX1_signAt : ∀ q ∈ cw_tX1_signAt, decode cX1_signAt q.1 = .ok q.2 := by decide +kernel
def mm_X1_signAt : cw_I := (yX1_signAt, cX1_signAt, 2, (some .int), 1, 1, 1, cw_tX1_signAt)
theorem cw_KX1_signAt : cw_okI mm_X1_signAt := ⟨cw_dX1_signAt, by decide +kernel, cw_in1 215 rfl rfl, cw_in1 2 rfl rfl, rfl, by decide +kernel, by decide +kernel, by decide +kernel, by decide +kernel, by decide⟩
theorem cw_kX1_signAt : cw_okD mm_X1_signAt := ⟨cw_dX1_signAt, by decide +kernel, trivial⟩
def cw_tX1_tell : List (Nat × (ClassFile.Instr × Nat)) := [(0, .aload_n 0, 1), (1, .getfield 21, 3), (4, .ifCond .lt 32, 3), (7, .aload_n 0, 1), (8, .getfield 21, 3), (11, .bipush 20, 2), (13, .if_icmp .ge 23, 3), (16, .aload_n 0, 1), (17, .getfield 27, 3), (20, .aload_n 0, 1), (21, .getfield 21, 3), (24, .iload_n 1, 1), (25, .iastore, 1), (26, .aload_n 0, 1), (27, .dup, 1), (28, .getfield 21, 3), (31, .iconst 1, 1), (32, .iadd, 1), (33, .putfield 21, 3), (36, .return_, 1)]
theorem cw_dX1_tell : ∀ q ∈ cw_tX1_tell, decode cX1_tell q.1 = .ok q.2 := by decide +kernel
def mm_X1_tell : cw_I := (yX1_tell, cX1_tell, 2, none, 1, 1, 1, cw_tX1_tell)
theorem cw_KX1_tell : cw_okI mm_X1_tell := ⟨cw_dX1_tell, by decide +kernel, cw_in2 173 rfl rfl, cw_in1 2 rfl rfl, rfl, by decide +kernel, by decide +kernel, by decide +kernel, by decide +kernel, by decide⟩
theorem cw_kX1_tell : cw_okD mm_X1_tell := ⟨cw_dX1_tell, by decide +kernel, trivial⟩
def cw_tX2_back : List (Nat × (ClassFile.Instr × Nat)) := [(0, .iload_n 1, 1), (1, .ifCond .lt 14, 3), (4, .iload_n 1, 1), (5, .aload_n 0, 1), (6, .getfield 12, 3), (9, .invokevirtual 95, 3), (12, .if_icmp .le 6, 3), (15, .bipush (-2), 2), (17, .ireturn, 1), (18, .aload_n 0, 1), (19, .getfield 12, 3), (22, .getfield 92, 3), (25, .iconst 2, 1), (26, .if_icmp .ne 6, 3), (29, .bipush (-5), 2), (31, .ireturn, 1), (32, .aload_n 0, 1), (33, .invokevirtual 51, 3), (36, .aload_n 0, 1), (37, .getfield 12, 3), (40, .iload_n 1, 1), (41, .invokevirtual 98, 3), (44, .aload_n 0, 1), (45, .getfield 12, 3), (48, .iconst 0, 1), (49, .putfield 92, 3), (52, .aload_n 0, 1), (53, .getfield 12, 3), (56, .getfield 101, 3), (59, .ireturn, 1)]
theorem cw_dX2_back : ∀ q ∈ cw_tX2_back, decode cX2_back q.1 = .ok q.2 := by decide +kernel
def mm_X2_back : cw_I := (yX2_back, cX2_back, 2, (some .int), 2, 1, 3, cw_tX2_back)
theorem cw_KX2_back : cw_okI mm_X2_back := ⟨cw_dX2_back, by decide +kernel, cw_in2 32 rfl rfl, cw_in1 1 rfl rfl, rfl, by decide +kernel, by decide +kernel, by decide +kernel, by decide +kernel, by decide⟩
theorem cw_kX2_back : cw_okD mm_X2_back := ⟨cw_dX2_back, by decide +kernel, trivial⟩
def cw_tX2_has : List (Nat × (ClassFile.Instr × Nat)) := [(0, .iload_n 0, 1), (1, .iload_n 1, 1), (2, .invokestatic 178, 3), (5, .iand, 1), (6, .ifCond .eq 7, 3), (9, .iconst 1, 1), (10, .goto 4, 3), (13, .iconst 0, 1), (14, .ireturn, 1)]
theorem cw_dX2_has : ∀ q ∈ cw_tX2_has, decode cX2_has q.1 = .ok q.2 := by decide +kernel
def mm_X2_has : cw_I := (yX2_has, cX2_has, 2, (some .boolean), 2, 2, 2, cw_tX2_has)
theorem cw_KX2_has : cw_okI mm_X2_has := ⟨cw_dX2_has, by decide +kernel, cw_in1 131 rfl rfl, cw_in1 1 rfl rfl, rfl, by decide +kernel, by decide +kernel, by decide +kernel, by decide +kernel, by decide⟩
theorem cw_kX2_has : cw_okD mm_X2_has := ⟨cw_dX2_has, by decide +kernel, trivial⟩
def cw_tX2_init : List (Nat × (ClassFile.Instr × Nat)) := [(0, .aload_n 0, 1), (1, .invokespecial 3, 3), (4, .aload_n 0, 1), (5, .new 9, 3), (8, .dup, 1), (9, .invokespecial 11, 3), (12, .putfield 12, 3), (15, .aload_n 0, 1), (16, .new 9, 3), (19, .dup, 1), (20, .invokespecial 11, 3), (23, .putfield 16, 3), (26, .aload_n 0, 1), (27, .bipush 6, 2), (29, .anewarray 9, 3), (32, .putfield 19, 3), (35, .aload_n 0, 1), (36, .iconst 0, 1), (37, .putfield 23, 3), (40, .aload_n 0, 1), (41, .iconst 2, 1), (42, .anewarray 9, 3), (45, .putfield 27, 3), (48, .aload_n 0, 1), (49, .new 30, 3), (52, .dup, 1), (53, .invokespecial 32, 3), (56, .putfield 33, 3), (59, .return_, 1)]
theorem cw_dX2_init : ∀ q ∈ cw_tX2_init, decode cX2_init q.1 = .ok q.2 := by decide +kernel
def mm_X2_init : cw_I := (yX2_init, cX2_init, 1, none, 2, 0, 2, cw_tX2_init)
theorem cw_KX2_init : cw_okI mm_X2_init := ⟨cw_dX2_init, by decide +kernel, cw_in1 11 rfl rfl, cw_in1 1 rfl rfl, rfl, by decide +kernel, by decide +kernel, by decide +kernel, by decide +kernel, by decide⟩
theorem cw_kX2_init : cw_okD mm_X2_init := ⟨cw_dX2_init, by decide +kernel, trivial⟩
def cw_tX2_isNoThing : List (Nat × (ClassFile.Instr × Nat)) := [(0, .iload_n 1, 1), (1, .iconst 1, 1), (2, .if_icmp .lt 14, 3), (5, .iload_n 1, 1), (6, .aload_n 0, 1), (7, .getfield 12, 3), (10, .getfield 54, 3), (13, .if_icmp .le 7, 3), (16, .iconst 1, 1), (17, .goto 4, 3), (20, .iconst 0, 1), (21, .ireturn, 1)]
theorem cw_dX2_isNoThing : ∀ q ∈ cw_tX2_isNoThing, decode cX2_isNoThing q.1 = .ok q.2 := by decide +kernel
def mm_X2_isNoThing : cw_I := (yX2_isNoThing, cX2_isNoThing, 2, (some .boolean), 2, 1, 1, cw_tX2_isNoThing)
theorem cw_KX2_isNoThing : cw_okI mm_X2_isNoThing := ⟨cw_dX2_isNoThing, by decide +kernel, cw_in2 75 rfl rfl, cw_in1 1 rfl rfl, rfl, by decide +kernel, by decide +kernel, by decide +kernel, by decide +kernel, by decide⟩
theorem cw_kX2_isNoThing : cw_okD mm_X2_isNoThing := ⟨cw_dX2_isNoThing, by decide +kernel, trivial⟩
def cw_tX2_opposite : List (Nat × (ClassFile.Instr × Nat)) := [(0, .iload_n 0, 1), (1, .bipush 10, 2), (3, .if_icmp .lt 10, 3), (6, .iload_n 0, 1), (7, .bipush 10, 2), (9, .isub, 1), (10, .goto 7, 3), (13, .iload_n 0, 1), (14, .bipush 10, 2), (16, .iadd, 1), (17, .ireturn, 1)]
theorem cw_dX2_opposite : ∀ q ∈ cw_tX2_opposite, decode cX2_opposite q.1 = .ok q.2 := by decide +kernel
def mm_X2_opposite : cw_I := (yX2_opposite, cX2_opposite, 1, (some .int), 2, 1, 1, cw_tX2_opposite)
theorem cw_KX2_opposite : cw_okI mm_X2_opposite := ⟨cw_dX2_opposite, by decide +kernel, cw_in1 219 rfl rfl, cw_in1 1 rfl rfl, rfl, by decide +kernel, by decide +kernel, by decide +kernel, by decide +kernel, by decide⟩
theorem cw_kX2_opposite : cw_okD mm_X2_opposite := ⟨cw_dX2_opposite, by decide +kernel, trivial⟩
def cw_tX2_opposites : List (Nat × (ClassFile.Instr × Nat)) := [(0, .iload_n 0, 1), (1, .bipush 10, 2), (3, .ishl, 1), (4, .iload_n 0, 1), (5, .bipush 10, 2), (7, .ishr, 1), (8, .ior, 1), (9, .ldc 195, 2), (11, .iand, 1), (12, .ireturn, 1)]
theorem cw_dX2_opposites : ∀ q ∈ cw_tX2_opposites, decode cX2_opposites q.1 = .ok q.2 := by decide +kernel
def mm_X2_opposites : cw_I := (yX2_opposites, cX2_opposites, 1, (some .int), 2, 1, 1, cw_tX2_opposites)
theorem cw_KX2_opposites : cw_okI mm_X2_opposites := ⟨cw_dX2_opposites, by decide +kernel, cw_in1 127 rfl rfl, cw_in1 1 rfl rfl, rfl, by decide +kernel, by decide +kernel, by decide +kernel, by decide +kernel, by decide⟩
theorem cw_kX2_opposites : cw_okD mm_X2_opposites := ⟨cw_dX2_opposites, by decide +kernel, trivial⟩
def cw_tX2_read : List (Nat × (ClassFile.Instr × Nat)) := [(0, .aload_n 0, 1), (1, .getfield 33, 3), (4, .invokevirtual 66, 3), (7, .bipush (-6), 2), (9, .if_icmp .eq 6, 3), (12, .bipush (-3), 2), (14, .ireturn, 1), (15, .aload_n 0, 1), (16, .getfield 33, 3), (19, .invokevirtual 69, 3), (22, .aload_n 0, 1), (23, .getfield 12, 3), (26, .getfield 54, 3), (29, .if_icmp .le 6, 3), (32, .bipush (-2), 2), (34, .ireturn, 1), (35, .aload_n 0, 1), (36, .getfield 12, 3), (39, .getfield 72, 3), (42, .aload_n 0, 1), (43, .getfield 33, 3), (46, .invokevirtual 75, 3), (49, .iadd, 1), (50, .bipush 20, 2), (52, .if_icmp .le 6, 3), (55, .bipush (-4), 2), (57, .ireturn, 1), (58, .aload_n 0, 1), (59, .invokevirtual 51, 3), (62, .aload_n 0, 1), (63, .getfield 12, 3), (66, .invokevirtual 57, 3), (69, .aload_n 0, 1), (70, .getfield 33, 3), (73, .aload_n 0, 1), (74, .getfield 12, 3), (77, .invokevirtual 78, 3), (80, .aload_n 0, 1), (81, .getfield 33, 3), (84, .invokevirtual 82, 3), (87, .aload_n 0, 1), (88, .getfield 12, 3), (91, .getfield 72, 3), (94, .ireturn, 1)]
theorem cw_dX2_read : ∀ q ∈ cw_tX2_read, decode cX2_read q.1 = .ok q.2 := by decide +kernel
def mm_X2_read : cw_I := (yX2_read, cX2_read, 1, (some .int), 2, 0, 3, cw_tX2_read)
theorem cw_KX2_read : cw_okI mm_X2_read := ⟨cw_dX2_read, by decide +kernel, cw_in2 143 rfl rfl, cw_in1 1 rfl rfl, rfl, by decide +kernel, by decide +kernel, by decide +kernel, by decide +kernel, by decide⟩
theorem cw_kX2_read : cw_okD mm_X2_read := ⟨cw_dX2_read, by decide +kernel, trivial⟩
def cw_tX2_setOf : List (Nat × (ClassFile.Instr × Nat)) := [(0, .iconst 1, 1), (1, .iload_n 0, 1), (2, .ishl, 1), (3, .ireturn, 1)]
theorem cw_dX2_setOf : ∀ q ∈ cw_tX2_setOf, decode cX2_setOf q.1 = .ok q.2 := by decide +kernel
def mm_X2_setOf : cw_I := (yX2_setOf, cX2_setOf, 1, (some .int), 2, 1, 1, cw_tX2_setOf)
theorem cw_KX2_setOf : cw_okI mm_X2_setOf := ⟨cw_dX2_setOf, by decide +kernel, cw_in1 134 rfl rfl, cw_in1 1 rfl rfl, rfl, by decide +kernel, by decide +kernel, by decide +kernel, by decide +kernel, by decide⟩
theorem cw_kX2_setOf : cw_okD mm_X2_setOf := ⟨cw_dX2_setOf, by decide +kernel, trivial⟩
def cw_tX2_setRestart : List (Nat × (ClassFile.Instr × Nat)) := [(0, .iload_n 1, 1), (1, .iconst 1, 1), (2, .if_icmp .lt 9, 3), (5, .iload_n 1, 1), (6, .bipush 20, 2), (8, .if_icmp .le 6, 3), (11, .bipush (-2), 2), (13, .ireturn, 1), (14, .aload_n 0, 1), (15, .invokevirtual 51, 3), (18, .aload_n 0, 1), (19, .getfield 12, 3), (22, .getfield 60, 3), (25, .istore_n 2, 1), (26, .aload_n 0, 1), (27, .getfield 12, 3), (30, .iload_n 1, 1), (31, .putfield 60, 3), (34, .iload_n 2, 1), (35, .ireturn, 1)]
theorem cw_dX2_setRestart : ∀ q ∈ cw_tX2_setRestart, decode cX2_setRestart q.1 = .ok q.2 := by decide +kernel
def mm_X2_setRestart : cw_I := (yX2_setRestart, cX2_setRestart, 3, (some .int), 2, 1, 3, cw_tX2_setRestart)
theorem cw_KX2_setRestart : cw_okI mm_X2_setRestart := ⟨cw_dX2_setRestart, by decide +kernel, cw_in1 157 rfl rfl, cw_in1 1 rfl rfl, rfl, by decide +kernel, by decide +kernel, by decide +kernel, by decide +kernel, by decide⟩
theorem cw_kX2_setRestart : cw_okD mm_X2_setRestart := ⟨cw_dX2_setRestart, by decide +kernel, trivial⟩
def cw_tX2_step : List (Nat × (ClassFile.Instr × Nat)) := [(0, .iload_n 1, 1), (1, .iconst 1, 1), (2, .if_icmp .lt 10, 3), (5, .iload_n 1, 1), (6, .sipush 500, 3), (9, .if_icmp .le 6, 3), (12, .bipush (-2), 2), (14, .ireturn, 1), (15, .aload_n 0, 1), (16, .invokevirtual 51, 3), (19, .aload_n 0, 1), (20, .getfield 12, 3), (23, .iload_n 1, 1), (24, .invokevirtual 89, 3), (27, .aload_n 0, 1), (28, .getfield 12, 3), (31, .getfield 92, 3), (34, .ireturn, 1)]
theorem cw_dX2_step : ∀ q ∈ cw_tX2_step, decode cX2_step q.1 = .ok q.2 := by decide +kernel
def mm_X2_step : cw_I := (yX2_step, cX2_step, 2, (some .int), 2, 1, 8, cw_tX2_step)
theorem cw_KX2_step : cw_okI mm_X2_step := ⟨cw_dX2_step, by decide +kernel, cw_in1 165 rfl rfl, cw_in1 1 rfl rfl, rfl, by decide +kernel, by decide +kernel, by decide +kernel, by decide +kernel, by decide⟩
theorem cw_kX2_step : cw_okD mm_X2_step := ⟨cw_dX2_step, by decide +kernel, trivial⟩
def cw_tX2_thingOf : List (Nat × (ClassFile.Instr × Nat)) := [(0, .iload_n 0, 1), (1, .bipush 10, 2), (3, .if_icmp .lt 10, 3), (6, .iload_n 0, 1), (7, .bipush 10, 2), (9, .isub, 1), (10, .goto 4, 3), (13, .iload_n 0, 1), (14, .ireturn, 1)]
theorem cw_dX2_thingOf : ∀ q ∈ cw_tX2_thingOf, decode cX2_thingOf q.1 = .ok q.2 := by decide +kernel
def mm_X2_thingOf : cw_I := (yX2_thingOf, cX2_thingOf, 1, (some .int), 2, 1, 1, cw_tX2_thingOf)
theorem cw_KX2_thingOf : cw_okI mm_X2_thingOf := ⟨cw_dX2_thingOf, by decide +kernel, cw_in2 82 rfl rfl, cw_in1 1 rfl rfl, rfl, by decide +kernel, by decide +kernel, by decide +kernel, by decide +kernel, by decide⟩
theorem cw_kX2_thingOf : cw_okD mm_X2_thingOf := ⟨cw_dX2_thingOf, by decide +kernel, trivial⟩
def cw_tX2_wipe : List (Nat × (ClassFile.Instr × Nat)) := [(0, .aload_n 0, 1), (1, .getfield 33, 3), (4, .getfield 153, 3), (7, .istore_n 1, 1), (8, .aload_n 0, 1), (9, .getfield 33, 3), (12, .invokevirtual 82, 3), (15, .iload_n 1, 1), (16, .ireturn, 1)]
theorem cw_dX2_wipe : ∀ q ∈ cw_tX2_wipe, decode cX2_wipe q.1 = .ok q.2 := by decide +kernel
def mm_X2_wipe : cw_I := (yX2_wipe, cX2_wipe, 2, (some .int), 2, 0, 2, cw_tX2_wipe)
theorem cw_KX2_wipe : cw_okI mm_X2_wipe := ⟨cw_dX2_wipe, by decide +kernel, cw_in2 114 rfl rfl, cw_in1 1 rfl rfl, rfl, by decide +kernel, by decide +kernel, by decide +kernel, by decide +kernel, by decide⟩
theorem cw_kX2_wipe : cw_okD mm_X2_wipe := ⟨cw_dX2_wipe, by decide +kernel, trivial⟩
def cw_tL_bits : List (Nat × (ClassFile.Instr × Nat)) := [(0, .iconst 0, 1), (1, .istore_n 1, 1), (2, .iload_n 0, 1), (3, .istore_n 2, 1), (4, .iload_n 2, 1), (5, .ifCond .eq 15, 3), (8, .iinc 1 1, 3), (11, .iload_n 2, 1), (12, .iload_n 2, 1), (13, .iconst 1, 1), (14, .isub, 1), (15, .iand, 1), (16, .istore_n 2, 1), (17, .goto (-13), 3), (20, .iload_n 1, 1), (21, .ireturn, 1)]
theorem cw_dL_bits : ∀ q ∈ cw_tL_bits, decode cL_bits q.1 = .ok q.2 := by decide +kernel
def mm_L_bits : cw_I := (yL_bits, cL_bits, 3, (some .int), 4, 1, 1, cw_tL_bits)
theorem cw_KL_bits : cw_okI mm_L_bits := ⟨cw_dL_bits, by decide +kernel, cw_in2 61 rfl rfl, cw_in1 0 rfl rfl, rfl, by decide +kernel, by decide +kernel, by decide +kernel, by decide +kernel, by decide⟩
theorem cw_kL_bits : cw_okD mm_L_bits := ⟨cw_dL_bits, by decide +kernel, trivial⟩
def cw_tL_cell : List (Nat × (ClassFile.Instr × Nat)) := [(0, .iload_n 1, 1), (1, .aload_n 0, 1), (2, .arraylength, 1), (3, .if_icmp .ge 9, 3), (6, .aload_n 0, 1), (7, .iload_n 1, 1), (8, .iaload, 1), (9, .goto 12, 3), (12, .ldc 7, 2), (14, .iload_n 1, 1), (15, .iconst 1, 1), (16, .iadd, 1), (17, .imul, 1), (18, .ldc 8, 2), (20, .iadd, 1), (21, .ireturn, 1)]
theorem cw_dL_cell : ∀ q ∈ cw_tL_cell, decode cL_cell q.1 = .ok q.2 := by decide +kernel
def mm_L_cell : cw_I := (yL_cell, cL_cell, 2, (some .int), 4, 2, 1, cw_tL_cell)
theorem cw_KL_cell : cw_okI mm_L_cell := ⟨cw_dL_cell, by decide +kernel, cw_in2 37 rfl rfl, cw_in1 0 rfl rfl, rfl, by decide +kernel, by decide +kernel, by decide +kernel, by decide +kernel, by decide⟩
theorem cw_kL_cell : cw_okD mm_L_cell := ⟨cw_dL_cell, by decide +kernel, trivial⟩
def cw_tL_isTrue : List (Nat × (ClassFile.Instr × Nat)) := [(0, .aload_n 2, 1), (1, .iload_n 0, 1), (2, .iaload, 1), (3, .aload_n 1, 1), (4, .bipush 10, 2), (6, .iaload, 1), (7, .iand, 1), (8, .aload_n 3, 1), (9, .iload_n 0, 1), (10, .iaload, 1), (11, .aload_n 1, 1), (12, .bipush 11, 2), (14, .iaload, 1), (15, .iand, 1), (16, .ior, 1), (17, .ifCond .eq 7, 3), (20, .iconst 1, 1), (21, .goto 4, 3), (24, .iconst 0, 1), (25, .ireturn, 1)]
theorem cw_dL_isTrue : ∀ q ∈ cw_tL_isTrue, decode cL_isTrue q.1 = .ok q.2 := by decide +kernel
def mm_L_isTrue : cw_I := (yL_isTrue, cL_isTrue, 4, (some .boolean), 4, 4, 1, cw_tL_isTrue)
theorem cw_KL_isTrue : cw_okI mm_L_isTrue := ⟨cw_dL_isTrue, by decide +kernel, cw_in2 52 rfl rfl, cw_in1 0 rfl rfl, rfl, by decide +kernel, by decide +kernel, by decide +kernel, by decide +kernel, by decide⟩
theorem cw_kL_isTrue : cw_okD mm_L_isTrue := ⟨cw_dL_isTrue, by decide +kernel, trivial⟩
def cw_tL_law : List (Nat × (ClassFile.Instr × Nat)) := [(0, .new 37, 3), (3, .dup, 1), (4, .invokespecial 75, 3), (7, .astore_n 1, 1), (8, .bipush 12, 2), (10, .newarray .int, 2), (12, .astore_n 2, 1), (13, .bipush 61, 2), (15, .newarray .int, 2), (17, .astore_n 3, 1), (18, .bipush 61, 2), (20, .newarray .int, 2), (22, .astore 4, 2), (24, .bipush 10, 2), (26, .newarray .int, 2), (28, .astore 5, 2), (30, .bipush 10, 2), (32, .newarray .int, 2), (34, .astore 6, 2), (36, .bipush 10, 2), (38, .newarray .int, 2), (40, .astore 7, 2), (42, .iconst 0, 1), (43, .istore 8, 2), (45, .iload 8, 2), (47, .bipush 10, 2), (49, .if_icmp .ge 16, 3), (52, .aload 6, 2), (54, .iload 8, 2), (56, .bipush (-6), 2), (58, .iastore, 1), (59, .iinc 8 1, 3), (62, .goto (-17), 3), (65, .aload_n 2, 1), (66, .iconst 0, 1), (67, .iconst 4, 1), (68, .aload_n 0, 1), (69, .iconst 0, 1), (70, .invokestatic 76, 3), (73, .bipush 6, 2), (75, .invokestatic 55, 3), (78, .iadd, 1), (79, .iastore, 1), (80, .aload_n 2, 1), (81, .iconst 1, 1), (82, .bipush 10, 2), (84, .iastore, 1), (85, .aload_n 1, 1), (86, .iconst 0, 1), (87, .aload_n 2, 1), (88, .iconst 0, 1), (89, .iaload, 1), (90, .invokevirtual 80, 3), (93, .iconst 4, 1), (94, .if_icmp .eq 5, 3), (97, .iconst 0, 1), (98, .ireturn, 1), (99, .iconst 0, 1), (100, .istore 8, 2), (102, .iload 8, 2), (104, .bipush 22, 2), (106, .if_icmp .ge 346, 3), (109, .aload_n 0, 1), (110, .iconst 1, 1), (111, .iconst 2, 1), (112, .iload 8, 2), (114, .imul, 1), (115, .iadd, 1), (116, .invokestatic 76, 3), (119, .istore 9, 2), (121, .aload_n 0, 1), (122, .iconst 2, 1), (123, .iconst 2, 1), (124, .iload 8, 2), (126, .imul, 1), (127, .iadd, 1), (128, .invokestatic 76, 3), (131, .istore 10, 2), (133, .iload 8, 2), (135, .bipush 6, 2), (137, .if_icmp .ge 7, 3), (140, .iconst 0, 1), (141, .goto 10, 3), (144, .iload 9, 2), (146, .bipush 8, 2), (148, .invokestatic 55, 3), (151, .istore 11, 2), (153, .iload 11, 2), (155, .iconst 2, 1), (156, .if_icmp .ge 28, 3), (159, .aload_n 1, 1), (160, .iload 9, 2), (162, .iconst 3, 1), (163, .ishr, 1), (164, .iload 10, 2), (166, .aload_n 2, 1), (167, .aload_n 3, 1), (168, .aload 4, 2), (170, .aload 5, 2), (172, .aload 6, 2), (174, .aload 7, 2), (176, .invokestatic 83, 3), (179, .ifCond .ne 248, 3), (182, .iconst 0, 1), (183, .ireturn, 1), (184, .iload 11, 2), (186, .bipush 6, 2), (188, .if_icmp .ge 80, 3), (191, .iconst 1, 1), (192, .iload 9, 2), (194, .iconst 3, 1), (195, .ishr, 1), (196, .iload 11, 2), (198, .iconst 5, 1), (199, .if_icmp .ge 8, 3), (202, .bipush 9, 2), (204, .goto 6, 3), (207, .sipush 200, 3), (210, .invokestatic 55, 3), (213, .iadd, 1), (214, .istore 12, 2), (216, .iconst 0, 1), (217, .istore 13, 2), (219, .iload 13, 2), (221, .iload 12, 2), (223, .if_icmp .ge 28, 3), (226, .aload_n 2, 1), (227, .iconst 5, 1), (228, .iaload, 1), (229, .ifCond .ne 22, 3), (232, .aload_n 2, 1), (233, .aload_n 3, 1), (234, .aload 4, 2), (236, .aload 5, 2), (238, .aload 6, 2), (240, .aload 7, 2), (242, .invokestatic 87, 3), (245, .iinc 13 1, 3), (248, .goto (-29), 3), (251, .aload_n 1, 1), (252, .iload 12, 2), (254, .invokevirtual 91, 3), (257, .aload_n 2, 1), (258, .iconst 5, 1), (259, .iaload, 1), (260, .if_icmp .eq 5, 3), (263, .iconst 0, 1), (264, .ireturn, 1), (265, .goto 162, 3), (268, .iload 11, 2), (270, .bipush 6, 2), (272, .if_icmp .ne 90, 3), (275, .iload 9, 2), (277, .iconst 3, 1), (278, .ishr, 1), (279, .aload_n 2, 1), (280, .bipush 6, 2), (282, .iaload, 1), (283, .iconst 1, 1), (284, .iadd, 1), (285, .invokestatic 55, 3), (288, .istore 12, 2), (290, .aload_n 2, 1), (291, .iconst 5, 1), (292, .iaload, 1), (293, .iconst 2, 1), (294, .if_icmp .eq 7, 3), (297, .iconst 1, 1), (298, .goto 4, 3), (301, .iconst 0, 1), (302, .istore 13, 2), (304, .iload 13, 2), (306, .ifCond .eq 15, 3), (309, .iload 12, 2), (311, .aload_n 2, 1), (312, .aload 5, 2), (314, .aload 6, 2), (316, .aload 7, 2), (318, .invokestatic 10, 3), (321, .aload_n 1, 1), (322, .iload 12, 2), (324, .invokevirtual 93, 3), (327, .iload 13, 2), (329, .ifCond .eq 10, 3), (332, .aload_n 2, 1), (333, .bipush 7, 2), (335, .iaload, 1), (336, .goto 5, 3), (339, .bipush (-5), 2), (341, .if_icmp .eq 5, 3), (344, .iconst 0, 1), (345, .ireturn, 1), (346, .aload_n 2, 1), (347, .iconst 5, 1), (348, .iload 13, 2), (350, .ifCond .eq 7, 3), (353, .iconst 0, 1), (354, .goto 4, 3), (357, .iconst 2, 1), (358, .iastore, 1), (359, .goto 68, 3), (362, .iconst 1, 1), (363, .iload 9, 2), (365, .iconst 3, 1), (366, .ishr, 1), (367, .iconst 2, 1), (368, .invokestatic 55, 3), (371, .iadd, 1), (372, .istore 12, 2), (374, .iload 12, 2), (376, .iconst 1, 1), (377, .if_icmp .ne 17, 3), (380, .iconst 1, 1), (381, .iload 9, 2), (383, .iconst 5, 1), (384, .ishr, 1), (385, .bipush 20, 2), (387, .invokestatic 55, 3), (390, .iadd, 1), (391, .goto 11, 3), (394, .iload 9, 2), (396, .iconst 5, 1), (397, .ishr, 1), (398, .iconst 2, 1), (399, .invokestatic 55, 3), (402, .istore 13, 2), (404, .aload_n 1, 1), (405, .iload 12, 2), (407, .iload 13, 2), (409, .invokevirtual 80, 3), (412, .aload_n 2, 1), (413, .iload 12, 2), (415, .iaload, 1), (416, .if_icmp .eq 5, 3), (419, .iconst 0, 1), (420, .ireturn, 1), (421, .aload_n 2, 1), (422, .iload 12, 2), (424, .iload 13, 2), (426, .iastore, 1), (427, .aload_n 1, 1), (428, .aload_n 2, 1), (429, .aload_n 3, 1), (430, .aload 4, 2), (432, .aload 5, 2), (434, .aload 6, 2), (436, .aload 7, 2), (438, .invokestatic 95, 3), (441, .ifCond .ne 5, 3), (444, .iconst 0, 1), (445, .ireturn, 1), (446, .iinc 8 1, 3), (449, .goto (-347), 3), (452, .iconst 1, 1), (453, .ireturn, 1)]
theorem cw_dL_law : ∀ q ∈ cw_tL_law, decode cL_law q.1 = .ok q.2 := by decide +kernel
def mm_L_law : cw_I := (yL_law, cL_law, 14, (some .boolean), 4, 1, 9, cw_tL_law)
theorem cw_kL_law : cw_okD mm_L_law := ⟨cw_dL_law, by decide +kernel, trivial⟩
def cw_tL_step : List (Nat × (ClassFile.Instr × Nat)) := [(0, .aload_n 0, 1), (1, .bipush 9, 2), (3, .dup2, 1), (4, .iaload, 1), (5, .iconst 1, 1), (6, .iadd, 1), (7, .iastore, 1), (8, .aload_n 0, 1), (9, .iconst 3, 1), (10, .iaload, 1), (11, .aload_n 0, 1), (12, .iconst 4, 1), (13, .iaload, 1), (14, .iadd, 1), (15, .istore 6, 2), (17, .iconst 0, 1), (18, .istore 7, 2), (20, .iload 7, 2), (22, .iload 6, 2), (24, .if_icmp .ge 62, 3), (27, .iload 7, 2), (29, .aload_n 0, 1), (30, .aload_n 1, 1), (31, .aload_n 2, 1), (32, .invokestatic 16, 3), (35, .ifCond .ne 45, 3), (38, .iload 7, 2), (40, .aload_n 0, 1), (41, .aload_n 1, 1), (42, .aload_n 2, 1), (43, .invokestatic 20, 3), (46, .ifCond .eq 6, 3), (49, .goto 31, 3), (52, .aload_n 0, 1), (53, .bipush 6, 2), (55, .iaload, 1), (56, .ifCond .ne 10, 3), (59, .aload_n 0, 1), (60, .iconst 5, 1), (61, .iconst 2, 1), (62, .iastore, 1), (63, .goto 16, 3), (66, .iload 7, 2), (68, .aload_n 0, 1), (69, .aload_n 1, 1), (70, .aload_n 2, 1), (71, .aload_n 3, 1), (72, .aload 4, 2), (74, .aload 5, 2), (76, .invokestatic 24, 3), (79, .return_, 1), (80, .iinc 7 1, 3), (83, .goto (-63), 3), (86, .iconst 0, 1), (87, .istore 7, 2), (89, .iload 7, 2), (91, .iload 6, 2), (93, .if_icmp .ge 89, 3), (96, .iload 7, 2), (98, .aload_n 0, 1), (99, .aload_n 1, 1), (100, .aload_n 2, 1), (101, .invokestatic 20, 3), (104, .istore 8, 2), (106, .iload 7, 2), (108, .aload_n 0, 1), (109, .aload_n 1, 1), (110, .aload_n 2, 1), (111, .invokestatic 16, 3), (114, .ifCond .ne 62, 3), (117, .iload 8, 2), (119, .invokestatic 28, 3), (122, .iconst 1, 1), (123, .if_icmp .eq 6, 3), (126, .goto 50, 3), (129, .iconst 1, 1), (130, .istore 9, 2), (132, .iload 8, 2), (134, .iconst 1, 1), (135, .iload 9, 2), (137, .ishl, 1), (138, .if_icmp .eq 9, 3), (141, .iinc 9 1, 3), (144, .goto (-12), 3), (147, .iload 9, 2), (149, .aload_n 1, 1), (150, .iload 7, 2), (152, .iaload, 1), (153, .iload 8, 2), (155, .iand, 1), (156, .ifCond .eq 7, 3), (159, .iconst 1, 1), (160, .goto 4, 3), (163, .iconst 0, 1), (164, .iload 7, 2), (166, .aload_n 0, 1), (167, .aload_n 3, 1), (168, .aload 4, 2), (170, .aload 5, 2), (172, .invokestatic 32, 3), (175, .return_, 1), (176, .iinc 7 1, 3), (179, .goto (-90), 3), (182, .iconst 1, 1), (183, .istore 7, 2), (185, .iload 7, 2), (187, .aload_n 0, 1), (188, .iconst 0, 1), (189, .iaload, 1), (190, .if_icmp .gt 64, 3), (193, .aload_n 0, 1), (194, .bipush 10, 2), (196, .iaload, 1), (197, .aload_n 0, 1), (198, .bipush 11, 2), (200, .iaload, 1), (201, .ior, 1), (202, .iload 7, 2), (204, .ishr, 1), (205, .iconst 1, 1), (206, .iand, 1), (207, .iconst 1, 1), (208, .if_icmp .ne 6, 3), (211, .goto 37, 3), (214, .aload_n 0, 1), (215, .bipush 6, 2), (217, .dup2, 1), (218, .iaload, 1), (219, .iconst 1, 1), (220, .iadd, 1), (221, .iastore, 1), (222, .iload 7, 2), (224, .aload_n 0, 1), (225, .iconst 2, 1), (226, .iaload, 1), (227, .iconst 1, 1), (228, .if_icmp .ne 7, 3), (231, .iconst 1, 1), (232, .goto 4, 3), (235, .iconst 0, 1), (236, .bipush (-6), 2), (238, .aload_n 0, 1), (239, .aload_n 3, 1), (240, .aload 4, 2), (242, .aload 5, 2), (244, .invokestatic 32, 3), (247, .return_, 1), (248, .iinc 7 1, 3), (251, .goto (-66), 3), (254, .aload_n 0, 1), (255, .iconst 5, 1), (256, .iconst 1, 1), (257, .iastore, 1), (258, .return_, 1)]
theorem cw_dL_step : ∀ q ∈ cw_tL_step, decode cL_step q.1 = .ok q.2 := by decide +kernel
def mm_L_step : cw_I := (yL_step, cL_step, 10, none, 4, 6, 3, cw_tL_step)
theorem cw_KL_step : cw_okI mm_L_step := ⟨cw_dL_step, by decide +kernel, cw_in2 49 rfl rfl, cw_in1 0 rfl rfl, rfl, by decide +kernel, by decide +kernel, by decide +kernel, by decide +kernel, by decide⟩
theorem cw_kL_step : cw_okD mm_L_step := ⟨cw_dL_step, by decide +kernel, trivial⟩
end
section
def cw_tX0_characterAt : List (Nat × (ClassFile.Instr × Nat)) := [(0, .iload_n 1, 1), (1, .ifCond .lt 18, 3), (4, .iload_n 1, 1), (5, .bipush 60, 2), (7, .if_icmp .ge 12, 3), (10, .aload_n 0, 1), (11, .getfield 11, 3), (14, .iload_n 1, 1), (15, .caload, 1), (16, .goto 5, 3), (19, .bipush 32, 2), (21, .ireturn, 1)]
theorem cw_dX0_characterAt : ∀ q ∈ cw_tX0_characterAt, decode cX0_characterAt q.1 = .ok q.2 := by decide +kernel
def mm_X0_characterAt : cw_I := (yX0_characterAt, cX0_characterAt, 2, (some .char), 0, 1, 1, cw_tX0_characterAt)
theorem cw_KX0_characterAt : cw_okI mm_X0_characterAt := ⟨cw_dX0_characterAt, by decide +kernel, cw_in2 151 rfl rfl, cw_in1 3 rfl rfl, rfl, by decide +kernel, by decide +kernel, by decide +kernel, by decide +kernel, by decide⟩
theorem cw_kX0_characterAt : cw_okD mm_X0_characterAt := ⟨cw_dX0_characterAt, by decide +kernel, trivial⟩
def cw_tX0_charactersIn : List (Nat × (ClassFile.Instr × Nat)) := [(0, .iconst 0, 1), (1, .istore_n 2, 1), (2, .iload_n 2, 1), (3, .bipush 8, 2), (5, .if_icmp .ge 40, 3), (8, .lload_n 0, 1), (9, .bipush 8, 2), (11, .iload_n 2, 1), (12, .imul, 1), (13, .lushr, 1), (14, .lconst 0, 1), (15, .lcmp, 1), (16, .ifCond .eq 29, 3), (19, .lload_n 0, 1), (20, .iload_n 2, 1), (21, .invokestatic 19, 3), (24, .istore_n 3, 1), (25, .iload_n 3, 1), (26, .bipush 33, 2), (28, .if_icmp .lt 9, 3), (31, .iload_n 3, 1), (32, .bipush 126, 2), (34, .if_icmp .le 5, 3), (37, .iconst 0, 1), (38, .ireturn, 1), (39, .iinc 2 1, 3), (42, .goto (-40), 3), (45, .iload_n 2, 1), (46, .ireturn, 1)]
theorem cw_dX0_charactersIn : ∀ q ∈ cw_tX0_charactersIn, decode cX0_charactersIn q.1 = .ok q.2 := by decide +kernel
def mm_X0_charactersIn : cw_I := (yX0_charactersIn, cX0_charactersIn, 4, (some .int), 0, 1, 2, cw_tX0_charactersIn)
theorem cw_KX0_charactersIn : cw_okI mm_X0_charactersIn := ⟨cw_dX0_charactersIn, by decide +kernel, cw_in2 126 rfl rfl, cw_in1 3 rfl rfl, rfl, by decide +kernel, by decide +kernel, by decide +kernel, by decide +kernel, by decide⟩
theorem cw_kX0_charactersIn : cw_okD mm_X0_charactersIn := ⟨cw_dX0_charactersIn, by decide +kernel, trivial⟩
def cw_tX0_firstFault : List (Nat × (ClassFile.Instr × Nat)) := [(0, .iconst 0, 1), (1, .istore_n 1, 1), (2, .iconst 0, 1), (3, .istore_n 2, 1), (4, .iconst 0, 1), (5, .istore_n 3, 1), (6, .iconst 0, 1), (7, .istore 4, 2), (9, .iload 4, 2), (11, .aload_n 0, 1), (12, .getfield 15, 3), (15, .if_icmp .ge 108, 3), (18, .aload_n 0, 1), (19, .iload 4, 2), (21, .invokevirtual 25, 3), (24, .istore 5, 2), (26, .iload_n 2, 1), (27, .ifCond .eq 44, 3), (30, .iload 5, 2), (32, .bipush 59, 2), (34, .if_icmp .eq 19, 3), (37, .iload 5, 2), (39, .bipush 44, 2), (41, .if_icmp .ne 9, 3), (44, .iload_n 1, 1), (45, .bipush 9, 2), (47, .if_icmp .ne 6, 3), (50, .iload 4, 2), (52, .ireturn, 1), (53, .iload 5, 2), (55, .bipush 59, 2), (57, .if_icmp .ne 7, 3), (60, .iconst 0, 1), (61, .goto 4, 3), (64, .iload_n 1, 1), (65, .istore_n 1, 1), (66, .iconst 0, 1), (67, .istore_n 2, 1), (68, .goto 49, 3), (71, .iload 5, 2), (73, .bipush 45, 2), (75, .if_icmp .ne 12, 3), (78, .iload_n 3, 1), (79, .ifCond .ne 8, 3), (82, .iconst 1, 1), (83, .istore_n 3, 1), (84, .goto 33, 3), (87, .iload 5, 2), (89, .bipush 48, 2), (91, .isub, 1), (92, .istore 6, 2), (94, .iload 6, 2), (96, .iload_n 1, 1), (97, .if_icmp .le 10, 3), (100, .iload 6, 2), (102, .bipush 9, 2), (104, .if_icmp .le 6, 3), (107, .iload 4, 2), (109, .ireturn, 1), (110, .iload 6, 2), (112, .istore_n 1, 1), (113, .iconst 1, 1), (114, .istore_n 2, 1), (115, .iconst 0, 1), (116, .istore_n 3, 1), (117, .iinc 4 1, 3), (120, .goto (-111), 3), (123, .iload_n 2, 1), (124, .ifCond .eq 8, 3), (127, .bipush (-6), 2), (129, .goto 7, 3), (132, .aload_n 0, 1), (133, .getfield 15, 3), (136, .ireturn, 1)]
theorem cw_dX0_firstFault : ∀ q ∈ cw_tX0_firstFault, decode cX0_firstFault q.1 = .ok q.2 := by decide +kernel
def mm_X0_firstFault : cw_I := (yX0_firstFault, cX0_firstFault, 7, (some .int), 0, 0, 2, cw_tX0_firstFault)
theorem cw_KX0_firstFault : cw_okI mm_X0_firstFault := ⟨cw_dX0_firstFault, by decide +kernel, cw_in2 147 rfl rfl, cw_in1 3 rfl rfl, rfl, by decide +kernel, by decide +kernel, by decide +kernel, by decide +kernel, by decide⟩
theorem cw_kX0_firstFault : cw_okD mm_X0_firstFault := ⟨cw_dX0_firstFault, by decide +kernel, trivial⟩
def cw_tX1_copyFrom : List (Nat × (ClassFile.Instr × Nat)) := [(0, .aload_n 0, 1), (1, .aload_n 1, 1), (2, .getfield 9, 3), (5, .putfield 9, 3), (8, .aload_n 0, 1), (9, .aload_n 1, 1), (10, .getfield 15, 3), (13, .putfield 15, 3), (16, .aload_n 0, 1), (17, .aload_n 1, 1), (18, .getfield 18, 3), (21, .putfield 18, 3), (24, .aload_n 0, 1), (25, .aload_n 1, 1), (26, .getfield 21, 3), (29, .putfield 21, 3), (32, .aload_n 0, 1), (33, .aload_n 1, 1), (34, .getfield 24, 3), (37, .putfield 24, 3), (40, .aload_n 0, 1), (41, .aload_n 1, 1), (42, .getfield 31, 3), (45, .putfield 31, 3), (48, .aload_n 0, 1), (49, .aload_n 1, 1), (50, .getfield 43, 3), (53, .putfield 43, 3), (56, .aload_n 0, 1), (57, .aload_n 1, 1), (58, .getfield 46, 3), (61, .putfield 46, 3), (64, .aload_n 0, 1), (65, .aload_n 1, 1), (66, .getfield 49, 3), (69, .putfield 49, 3), (72, .aload_n 0, 1), (73, .aload_n 1, 1), (74, .getfield 52, 3), (77, .putfield 52, 3), (80, .aload_n 1, 1), (81, .getfield 27, 3), (84, .iconst 0, 1), (85, .aload_n 0, 1), (86, .getfield 27, 3), (89, .iconst 0, 1), (90, .bipush 60, 2), (92, .invokestatic 55, 3), (95, .aload_n 1, 1), (96, .getfield 34, 3), (99, .iconst 0, 1), (100, .aload_n 0, 1), (101, .getfield 34, 3), (104, .iconst 0, 1), (105, .bipush 9, 2), (107, .invokestatic 55, 3), (110, .aload_n 1, 1), (111, .getfield 37, 3), (114, .iconst 0, 1), (115, .aload_n 0, 1), (116, .getfield 37, 3), (119, .iconst 0, 1), (120, .bipush 9, 2), (122, .invokestatic 55, 3), (125, .aload_n 1, 1), (126, .getfield 40, 3), (129, .iconst 0, 1), (130, .aload_n 0, 1), (131, .getfield 40, 3), (134, .iconst 0, 1), (135, .bipush 9, 2), (137, .invokestatic 55, 3), (140, .return_, 1)]
theorem cw_dX1_copyFrom : ∀ q ∈ cw_tX1_copyFrom, decode cX1_copyFrom q.1 = .ok q.2 := by decide +kernel
def mm_X1_copyFrom : cw_I := (yX1_copyFrom, cX1_copyFrom, 2, none, 1, 1, 1, cw_tX1_copyFrom)
theorem cw_KX1_copyFrom : cw_okI mm_X1_copyFrom := ⟨cw_dX1_copyFrom, by decide +kernel, cw_in1 146 rfl rfl, cw_in1 2 rfl rfl, rfl, by decide +kernel, by decide +kernel, by decide +kernel, by decide +kernel, by decide⟩
theorem cw_kX1_copyFrom : cw_okD mm_X1_copyFrom := ⟨cw_dX1_copyFrom, by decide +kernel, trivial⟩
def cw_tX1_give : List (Nat × (ClassFile.Instr × Nat)) := [(0, .aload_n 0, 1), (1, .getfield 31, 3), (4, .ifCond .lt 65, 3), (7, .aload_n 0, 1), (8, .getfield 31, 3), (11, .bipush 9, 2), (13, .if_icmp .ge 56, 3), (16, .aload_n 0, 1), (17, .getfield 34, 3), (20, .aload_n 0, 1), (21, .getfield 31, 3), (24, .iload_n 1, 1), (25, .iastore, 1), (26, .aload_n 0, 1), (27, .getfield 37, 3), (30, .aload_n 0, 1), (31, .getfield 31, 3), (34, .iload_n 2, 1), (35, .iastore, 1), (36, .aload_n 0, 1), (37, .getfield 40, 3), (40, .aload_n 0, 1), (41, .getfield 31, 3), (44, .iload_n 3, 1), (45, .iastore, 1), (46, .aload_n 0, 1), (47, .dup, 1), (48, .getfield 43, 3), (51, .iload_n 1, 1), (52, .invokestatic 97, 3), (55, .ior, 1), (56, .putfield 43, 3), (59, .aload_n 0, 1), (60, .dup, 1), (61, .getfield 31, 3), (64, .iconst 1, 1), (65, .iadd, 1), (66, .putfield 31, 3), (69, .return_, 1)]
theorem cw_dX1_give : ∀ q ∈ cw_tX1_give, decode cX1_give q.1 = .ok q.2 := by decide +kernel
def mm_X1_give : cw_I := (yX1_give, cX1_give, 4, none, 1, 3, 2, cw_tX1_give)
theorem cw_KX1_give : cw_okI mm_X1_give := ⟨cw_dX1_give, by decide +kernel, cw_in2 24 rfl rfl, cw_in1 2 rfl rfl, rfl, by decide +kernel, by decide +kernel, by decide +kernel, by decide +kernel, by decide⟩
theorem cw_kX1_give : cw_okD mm_X1_give := ⟨cw_dX1_give, by decide +kernel, trivial⟩
def cw_tX1_isReason : List (Nat × (ClassFile.Instr × Nat)) := [(0, .iconst 0, 1), (1, .istore_n 2, 1), (2, .iload_n 2, 1), (3, .aload_n 0, 1), (4, .getfield 31, 3), (7, .if_icmp .ge 20, 3), (10, .aload_n 0, 1), (11, .iload_n 2, 1), (12, .invokevirtual 100, 3), (15, .iload_n 1, 1), (16, .if_icmp .ne 5, 3), (19, .iconst 1, 1), (20, .ireturn, 1), (21, .iinc 2 1, 3), (24, .goto (-22), 3), (27, .iconst 0, 1), (28, .ireturn, 1)]
theorem cw_dX1_isReason : ∀ q ∈ cw_tX1_isReason, decode cX1_isReason q.1 = .ok q.2 := by decide +kernel
def mm_X1_isReason : cw_I := (yX1_isReason, cX1_isReason, 3, (some .boolean), 1, 1, 2, cw_tX1_isReason)
theorem cw_KX1_isReason : cw_okI mm_X1_isReason := ⟨cw_dX1_isReason, by decide +kernel, cw_in2 2 rfl rfl, cw_in1 2 rfl rfl, rfl, by decide +kernel, by decide +kernel, by decide +kernel, by decide +kernel, by decide⟩
theorem cw_kX1_isReason : cw_okD mm_X1_isReason := ⟨cw_dX1_isReason, by decide +kernel, trivial⟩
def cw_tX1_learn : List (Nat × (ClassFile.Instr × Nat)) := [(0, .aload_n 0, 1), (1, .getfield 21, 3), (4, .aload_n 0, 1), (5, .getfield 24, 3), (8, .iadd, 1), (9, .istore_n 2, 1), (10, .aload_n 0, 1), (11, .getfield 24, 3), (14, .bipush 40, 2), (16, .if_icmp .ge 33, 3), (19, .iload_n 2, 1), (20, .ifCond .lt 29, 3), (23, .iload_n 2, 1), (24, .aload_n 0, 1), (25, .getfield 27, 3), (28, .arraylength, 1), (29, .if_icmp .ge 20, 3), (32, .aload_n 0, 1), (33, .getfield 27, 3), (36, .iload_n 2, 1), (37, .iload_n 1, 1), (38, .iastore, 1), (39, .aload_n 0, 1), (40, .dup, 1), (41, .getfield 24, 3), (44, .iconst 1, 1), (45, .iadd, 1), (46, .putfield 24, 3), (49, .return_, 1)]
theorem cw_dX1_learn : ∀ q ∈ cw_tX1_learn, decode cX1_learn q.1 = .ok q.2 := by decide +kernel
def mm_X1_learn : cw_I := (yX1_learn, cX1_learn, 3, none, 1, 1, 1, cw_tX1_learn)
theorem cw_KX1_learn : cw_okI mm_X1_learn := ⟨cw_dX1_learn, by decide +kernel, cw_in2 14 rfl rfl, cw_in1 2 rfl rfl, rfl, by decide +kernel, by decide +kernel, by decide +kernel, by decide +kernel, by decide⟩
theorem cw_kX1_learn : cw_okD mm_X1_learn := ⟨cw_dX1_learn, by decide +kernel, trivial⟩
def cw_tX1_lowestOpenThing : List (Nat × (ClassFile.Instr × Nat)) := [(0, .iconst 1, 1), (1, .istore_n 1, 1), (2, .iload_n 1, 1), (3, .aload_n 0, 1), (4, .getfield 9, 3), (7, .if_icmp .gt 22, 3), (10, .aload_n 0, 1), (11, .iload_n 1, 1), (12, .invokestatic 97, 3), (15, .invokevirtual 76, 3), (18, .ifCond .eq 5, 3), (21, .iload_n 1, 1), (22, .ireturn, 1), (23, .iinc 1 1, 3), (26, .goto (-24), 3), (29, .bipush (-6), 2), (31, .ireturn, 1)]
theorem cw_dX1_lowestOpenThing : ∀ q ∈ cw_tX1_lowestOpenThing, decode cX1_lowestOpenThing q.1 = .ok q.2 := by decide +kernel
def mm_X1_lowestOpenThing : cw_I := (yX1_lowestOpenThing, cX1_lowestOpenThing, 2, (some .int), 1, 0, 3, cw_tX1_lowestOpenThing)
theorem cw_KX1_lowestOpenThing : cw_okI mm_X1_lowestOpenThing := ⟨cw_dX1_lowestOpenThing, by decide +kernel, cw_in2 28 rfl rfl, cw_in1 2 rfl rfl, rfl, by decide +kernel, by decide +kernel, by decide +kernel, by decide +kernel, by decide⟩
theorem cw_kX1_lowestOpenThing : cw_okD mm_X1_lowestOpenThing := ⟨cw_dX1_lowestOpenThing, by decide +kernel, trivial⟩
def cw_tX1_openSigns : List (Nat × (ClassFile.Instr × Nat)) := [(0, .iload_n 1, 1), (1, .aload_n 0, 1), (2, .getfield 43, 3), (5, .aload_n 0, 1), (6, .getfield 43, 3), (9, .invokestatic 65, 3), (12, .ior, 1), (13, .iconst (-1), 1), (14, .ixor, 1), (15, .iand, 1), (16, .ireturn, 1)]
theorem cw_dX1_openSigns : ∀ q ∈ cw_tX1_openSigns, decode cX1_openSigns q.1 = .ok q.2 := by decide +kernel
def mm_X1_openSigns : cw_I := (yX1_openSigns, cX1_openSigns, 2, (some .int), 1, 1, 2, cw_tX1_openSigns)
theorem cw_KX1_openSigns : cw_okI mm_X1_openSigns := ⟨cw_dX1_openSigns, by decide +kernel, cw_in1 185 rfl rfl, cw_in1 2 rfl rfl, rfl, by decide +kernel, by decide +kernel, by decide +kernel, by decide +kernel, by decide⟩
theorem cw_kX1_openSigns : cw_okD mm_X1_openSigns := ⟨cw_dX1_openSigns, by decide +kernel, trivial⟩
def cw_tX1_presentLevel : List (Nat × (ClassFile.Instr × Nat)) := [(0, .aload_n 0, 1), (1, .getfield 31, 3), (4, .ifCond .le 16, 3), (7, .aload_n 0, 1), (8, .aload_n 0, 1), (9, .getfield 31, 3), (12, .iconst 1, 1), (13, .isub, 1), (14, .invokevirtual 88, 3), (17, .goto 4, 3), (20, .iconst 0, 1), (21, .ireturn, 1)]
theorem cw_dX1_presentLevel : ∀ q ∈ cw_tX1_presentLevel, decode cX1_presentLevel q.1 = .ok q.2 := by decide +kernel
def mm_X1_presentLevel : cw_I := (yX1_presentLevel, cX1_presentLevel, 1, (some .int), 1, 0, 2, cw_tX1_presentLevel)
theorem cw_KX1_presentLevel : cw_okI mm_X1_presentLevel := ⟨cw_dX1_presentLevel, by decide +kernel, cw_in1 199 rfl rfl, cw_in1 2 rfl rfl, rfl, by decide +kernel, by decide +kernel, by decide +kernel, by decide +kernel, by decide⟩
theorem cw_kX1_presentLevel : cw_okD mm_X1_presentLevel := ⟨cw_dX1_presentLevel, by decide +kernel, trivial⟩
def cw_tX1_removeClause : List (Nat × (ClassFile.Instr × Nat)) := [(0, .iload_n 1, 1), (1, .istore_n 2, 1), (2, .iload_n 2, 1), (3, .ifCond .lt 34, 3), (6, .iload_n 2, 1), (7, .iconst 1, 1), (8, .iadd, 1), (9, .aload_n 0, 1), (10, .getfield 27, 3), (13, .arraylength, 1), (14, .if_icmp .ge 23, 3), (17, .aload_n 0, 1), (18, .getfield 27, 3), (21, .iload_n 2, 1), (22, .aload_n 0, 1), (23, .getfield 27, 3), (26, .iload_n 2, 1), (27, .iconst 1, 1), (28, .iadd, 1), (29, .iaload, 1), (30, .iastore, 1), (31, .iinc 2 1, 3), (34, .goto (-32), 3), (37, .return_, 1)]
theorem cw_dX1_removeClause : ∀ q ∈ cw_tX1_removeClause, decode cX1_removeClause q.1 = .ok q.2 := by decide +kernel
def mm_X1_removeClause : cw_I := (yX1_removeClause, cX1_removeClause, 3, none, 1, 1, 1, cw_tX1_removeClause)
theorem cw_KX1_removeClause : cw_okI mm_X1_removeClause := ⟨cw_dX1_removeClause, by decide +kernel, cw_in2 6 rfl rfl, cw_in1 2 rfl rfl, rfl, by decide +kernel, by decide +kernel, by decide +kernel, by decide +kernel, by decide⟩
theorem cw_kX1_removeClause : cw_okD mm_X1_removeClause := ⟨cw_dX1_removeClause, by decide +kernel, trivial⟩
def cw_tX1_toldNeeds : List (Nat × (ClassFile.Instr × Nat)) := [(0, .iconst 0, 1), (1, .istore_n 1, 1), (2, .iconst 0, 1), (3, .istore_n 2, 1), (4, .iload_n 2, 1), (5, .aload_n 0, 1), (6, .getfield 21, 3), (9, .if_icmp .ge 17, 3), (12, .iload_n 1, 1), (13, .aload_n 0, 1), (14, .iload_n 2, 1), (15, .invokevirtual 61, 3), (18, .ior, 1), (19, .istore_n 1, 1), (20, .iinc 2 1, 3), (23, .goto (-19), 3), (26, .iconst 0, 1), (27, .istore_n 2, 1), (28, .iconst 1, 1), (29, .istore_n 3, 1), (30, .iload_n 3, 1), (31, .bipush 9, 2), (33, .if_icmp .gt 24, 3), (36, .iload_n 1, 1), (37, .iload_n 1, 1), (38, .invokestatic 65, 3), (41, .ior, 1), (42, .iload_n 3, 1), (43, .invokestatic 68, 3), (46, .ifCond .eq 5, 3), (49, .iload_n 3, 1), (50, .istore_n 2, 1), (51, .iinc 3 1, 3), (54, .goto (-24), 3), (57, .iload_n 2, 1), (58, .ireturn, 1)]
theorem cw_dX1_toldNeeds : ∀ q ∈ cw_tX1_toldNeeds, decode cX1_toldNeeds q.1 = .ok q.2 := by decide +kernel
def mm_X1_toldNeeds : cw_I := (yX1_toldNeeds, cX1_toldNeeds, 4, (some .int), 1, 0, 3, cw_tX1_toldNeeds)
theorem cw_KX1_toldNeeds : cw_okI mm_X1_toldNeeds := ⟨cw_dX1_toldNeeds, by decide +kernel, cw_in1 120 rfl rfl, cw_in1 2 rfl rfl, rfl, by decide +kernel, by decide +kernel, by decide +kernel, by decide +kernel, by decide⟩
theorem cw_kX1_toldNeeds : cw_okD mm_X1_toldNeeds := ⟨cw_dX1_toldNeeds, by decide +kernel, trivial⟩
def cw_tX2_count : List (Nat × (ClassFile.Instr × Nat)) := [(0, .iload_n 1, 1), (1, .tableswitch 156 0 11 #[63, 71, 79, 87, 95, 103, 111, 119, 127, 135, 143, 151], 63), (64, .aload_n 0, 1), (65, .getfield 12, 3), (68, .getfield 72, 3), (71, .ireturn, 1), (72, .aload_n 0, 1), (73, .getfield 12, 3), (76, .getfield 144, 3), (79, .ireturn, 1), (80, .aload_n 0, 1), (81, .getfield 12, 3), (84, .getfield 92, 3), (87, .ireturn, 1), (88, .aload_n 0, 1), (89, .getfield 12, 3), (92, .invokevirtual 95, 3), (95, .ireturn, 1), (96, .aload_n 0, 1), (97, .getfield 12, 3), (100, .getfield 101, 3), (103, .ireturn, 1), (104, .aload_n 0, 1), (105, .getfield 12, 3), (108, .getfield 147, 3), (111, .ireturn, 1), (112, .aload_n 0, 1), (113, .getfield 12, 3), (116, .getfield 150, 3), (119, .ireturn, 1), (120, .aload_n 0, 1), (121, .getfield 12, 3), (124, .getfield 54, 3), (127, .ireturn, 1), (128, .aload_n 0, 1), (129, .getfield 12, 3), (132, .getfield 60, 3), (135, .ireturn, 1), (136, .aload_n 0, 1), (137, .getfield 12, 3), (140, .getfield 63, 3), (143, .ireturn, 1), (144, .aload_n 0, 1), (145, .getfield 33, 3), (148, .getfield 153, 3), (151, .ireturn, 1), (152, .aload_n 0, 1), (153, .getfield 23, 3), (156, .ireturn, 1), (157, .bipush (-2), 2), (159, .ireturn, 1)]
theorem cw_dX2_count : ∀ q ∈ cw_tX2_count, decode cX2_count q.1 = .ok q.2 := by decide +kernel
def mm_X2_count : cw_I := (yX2_count, cX2_count, 2, (some .int), 2, 1, 3, cw_tX2_count)
theorem cw_KX2_count : cw_okI mm_X2_count := ⟨cw_dX2_count, by decide +kernel, cw_in2 107 rfl rfl, cw_in1 1 rfl rfl, rfl, by decide +kernel, by decide +kernel, by decide +kernel, by decide +kernel, by decide⟩
theorem cw_kX2_count : cw_okD mm_X2_count := ⟨cw_dX2_count, by decide +kernel, trivial⟩
def cw_tX2_moveOldestToEnd : List (Nat × (ClassFile.Instr × Nat)) := [(0, .aload_n 0, 1), (1, .getfield 19, 3), (4, .iconst 0, 1), (5, .aaload, 1), (6, .astore_n 1, 1), (7, .iconst 1, 1), (8, .istore_n 2, 1), (9, .iload_n 2, 1), (10, .bipush 6, 2), (12, .if_icmp .ge 23, 3), (15, .aload_n 0, 1), (16, .getfield 19, 3), (19, .iload_n 2, 1), (20, .iconst 1, 1), (21, .isub, 1), (22, .aload_n 0, 1), (23, .getfield 19, 3), (26, .iload_n 2, 1), (27, .aaload, 1), (28, .aastore, 1), (29, .iinc 2 1, 3), (32, .goto (-23), 3), (35, .aload_n 0, 1), (36, .getfield 19, 3), (39, .iconst 5, 1), (40, .aload_n 1, 1), (41, .aastore, 1), (42, .return_, 1)]
theorem cw_dX2_moveOldestToEnd : ∀ q ∈ cw_tX2_moveOldestToEnd, decode cX2_moveOldestToEnd q.1 = .ok q.2 := by decide +kernel
def mm_X2_moveOldestToEnd : cw_I := (yX2_moveOldestToEnd, cX2_moveOldestToEnd, 3, none, 2, 0, 1, cw_tX2_moveOldestToEnd)
theorem cw_KX2_moveOldestToEnd : cw_okI mm_X2_moveOldestToEnd := ⟨cw_dX2_moveOldestToEnd, by decide +kernel, cw_in1 142 rfl rfl, cw_in1 1 rfl rfl, rfl, by decide +kernel, by decide +kernel, by decide +kernel, by decide +kernel, by decide⟩
theorem cw_kX2_moveOldestToEnd : cw_okD mm_X2_moveOldestToEnd := ⟨cw_dX2_moveOldestToEnd, by decide +kernel, trivial⟩
def cw_tX2_put : List (Nat × (ClassFile.Instr × Nat)) := [(0, .lload_n 1, 1), (1, .invokestatic 184, 3), (4, .istore_n 3, 1), (5, .iload_n 3, 1), (6, .ifCond .ne 6, 3), (9, .bipush (-2), 2), (11, .ireturn, 1), (12, .aload_n 0, 1), (13, .getfield 33, 3), (16, .getfield 153, 3), (19, .iload_n 3, 1), (20, .iadd, 1), (21, .bipush 60, 2), (23, .if_icmp .le 6, 3), (26, .bipush (-4), 2), (28, .ireturn, 1), (29, .aload_n 0, 1), (30, .getfield 33, 3), (33, .lload_n 1, 1), (34, .iload_n 3, 1), (35, .invokevirtual 188, 3), (38, .aload_n 0, 1), (39, .getfield 33, 3), (42, .getfield 153, 3), (45, .ireturn, 1)]
theorem cw_dX2_put : ∀ q ∈ cw_tX2_put, decode cX2_put q.1 = .ok q.2 := by decide +kernel
def mm_X2_put : cw_I := (yX2_put, cX2_put, 4, (some .int), 2, 1, 3, cw_tX2_put)
theorem cw_KX2_put : cw_okI mm_X2_put := ⟨cw_dX2_put, by decide +kernel, cw_in2 123 rfl rfl, cw_in1 1 rfl rfl, rfl, by decide +kernel, by decide +kernel, by decide +kernel, by decide +kernel, by decide⟩
theorem cw_kX2_put : cw_okD mm_X2_put := ⟨cw_dX2_put, by decide +kernel, trivial⟩
def cw_tX2_set : List (Nat × (ClassFile.Instr × Nat)) := [(0, .iload_n 1, 1), (1, .tableswitch 45 0 2 #[27, 33, 39], 27), (28, .aload_n 0, 1), (29, .iload_n 2, 1), (30, .invokevirtual 37, 3), (33, .ireturn, 1), (34, .aload_n 0, 1), (35, .iload_n 2, 1), (36, .invokevirtual 41, 3), (39, .ireturn, 1), (40, .aload_n 0, 1), (41, .iload_n 2, 1), (42, .invokevirtual 44, 3), (45, .ireturn, 1), (46, .bipush (-2), 2), (48, .ireturn, 1)]
theorem cw_dX2_set : ∀ q ∈ cw_tX2_set, decode cX2_set q.1 = .ok q.2 := by decide +kernel
def mm_X2_set : cw_I := (yX2_set, cX2_set, 3, (some .int), 2, 2, 5, cw_tX2_set)
theorem cw_KX2_set : cw_okI mm_X2_set := ⟨cw_dX2_set, by decide +kernel, cw_in1 112 rfl rfl, cw_in1 1 rfl rfl, rfl, by decide +kernel, by decide +kernel, by decide +kernel, by decide +kernel, by decide⟩
theorem cw_kX2_set : cw_okD mm_X2_set := ⟨cw_dX2_set, by decide +kernel, trivial⟩
def cw_tX2_setFirst : List (Nat × (ClassFile.Instr × Nat)) := [(0, .iload_n 1, 1), (1, .ifCond .eq 11, 3), (4, .iload_n 1, 1), (5, .iconst 1, 1), (6, .if_icmp .eq 6, 3), (9, .bipush (-2), 2), (11, .ireturn, 1), (12, .aload_n 0, 1), (13, .invokevirtual 51, 3), (16, .aload_n 0, 1), (17, .getfield 12, 3), (20, .getfield 63, 3), (23, .istore_n 2, 1), (24, .aload_n 0, 1), (25, .getfield 12, 3), (28, .iload_n 1, 1), (29, .putfield 63, 3), (32, .iload_n 2, 1), (33, .ireturn, 1)]
theorem cw_dX2_setFirst : ∀ q ∈ cw_tX2_setFirst, decode cX2_setFirst q.1 = .ok q.2 := by decide +kernel
def mm_X2_setFirst : cw_I := (yX2_setFirst, cX2_setFirst, 3, (some .int), 2, 1, 3, cw_tX2_setFirst)
theorem cw_KX2_setFirst : cw_okI mm_X2_setFirst := ⟨cw_dX2_setFirst, by decide +kernel, cw_in1 161 rfl rfl, cw_in1 1 rfl rfl, rfl, by decide +kernel, by decide +kernel, by decide +kernel, by decide +kernel, by decide⟩
theorem cw_kX2_setFirst : cw_okD mm_X2_setFirst := ⟨cw_dX2_setFirst, by decide +kernel, trivial⟩
def cw_tX2_setThings : List (Nat × (ClassFile.Instr × Nat)) := [(0, .iload_n 1, 1), (1, .iconst 1, 1), (2, .if_icmp .lt 9, 3), (5, .iload_n 1, 1), (6, .bipush 9, 2), (8, .if_icmp .le 6, 3), (11, .bipush (-2), 2), (13, .ireturn, 1), (14, .aload_n 0, 1), (15, .getfield 12, 3), (18, .invokevirtual 47, 3), (21, .iload_n 1, 1), (22, .if_icmp .le 6, 3), (25, .bipush (-5), 2), (27, .ireturn, 1), (28, .aload_n 0, 1), (29, .invokevirtual 51, 3), (32, .aload_n 0, 1), (33, .getfield 12, 3), (36, .getfield 54, 3), (39, .istore_n 2, 1), (40, .aload_n 0, 1), (41, .getfield 12, 3), (44, .iload_n 1, 1), (45, .putfield 54, 3), (48, .aload_n 0, 1), (49, .getfield 12, 3), (52, .invokevirtual 57, 3), (55, .iload_n 2, 1), (56, .ireturn, 1)]
theorem cw_dX2_setThings : ∀ q ∈ cw_tX2_setThings, decode cX2_setThings q.1 = .ok q.2 := by decide +kernel
def mm_X2_setThings : cw_I := (yX2_setThings, cX2_setThings, 3, (some .int), 2, 1, 4, cw_tX2_setThings)
theorem cw_KX2_setThings : cw_okI mm_X2_setThings := ⟨cw_dX2_setThings, by decide +kernel, cw_in1 116 rfl rfl, cw_in1 1 rfl rfl, rfl, by decide +kernel, by decide +kernel, by decide +kernel, by decide +kernel, by decide⟩
theorem cw_kX2_setThings : cw_okD mm_X2_setThings := ⟨cw_dX2_setThings, by decide +kernel, trivial⟩
def cw_tX2_trail : List (Nat × (ClassFile.Instr × Nat)) := [(0, .iload_n 1, 1), (1, .ifCond .lt 14, 3), (4, .iload_n 1, 1), (5, .aload_n 0, 1), (6, .getfield 12, 3), (9, .getfield 101, 3), (12, .if_icmp .lt 5, 3), (15, .iconst (-1), 1), (16, .ireturn, 1), (17, .aload_n 0, 1), (18, .getfield 12, 3), (21, .iload_n 1, 1), (22, .invokevirtual 111, 3), (25, .invokestatic 120, 3), (28, .ireturn, 1)]
theorem cw_dX2_trail : ∀ q ∈ cw_tX2_trail, decode cX2_trail q.1 = .ok q.2 := by decide +kernel
def mm_X2_trail : cw_I := (yX2_trail, cX2_trail, 2, (some .int), 2, 1, 2, cw_tX2_trail)
theorem cw_KX2_trail : cw_okI mm_X2_trail := ⟨cw_dX2_trail, by decide +kernel, cw_in2 89 rfl rfl, cw_in1 1 rfl rfl, rfl, by decide +kernel, by decide +kernel, by decide +kernel, by decide +kernel, by decide⟩
theorem cw_kX2_trail : cw_okD mm_X2_trail := ⟨cw_dX2_trail, by decide +kernel, trivial⟩
def cw_tL_back : List (Nat × (ClassFile.Instr × Nat)) := [(0, .aload_n 1, 1), (1, .bipush 7, 2), (3, .iaload, 1), (4, .ifCond .le 67, 3), (7, .aload_n 2, 1), (8, .aload 4, 2), (10, .aload_n 1, 1), (11, .bipush 7, 2), (13, .iaload, 1), (14, .iconst 1, 1), (15, .isub, 1), (16, .iaload, 1), (17, .iaload, 1), (18, .iload_n 0, 1), (19, .if_icmp .le 52, 3), (22, .aload 4, 2), (24, .aload_n 1, 1), (25, .bipush 7, 2), (27, .dup2, 1), (28, .iaload, 1), (29, .iconst 1, 1), (30, .isub, 1), (31, .dup_x2, 1), (32, .iastore, 1), (33, .iaload, 1), (34, .istore 5, 2), (36, .aload_n 1, 1), (37, .bipush 10, 2), (39, .dup2, 1), (40, .iaload, 1), (41, .iconst 1, 1), (42, .iload 5, 2), (44, .ishl, 1), (45, .iconst (-1), 1), (46, .ixor, 1), (47, .iand, 1), (48, .iastore, 1), (49, .aload_n 1, 1), (50, .bipush 11, 2), (52, .dup2, 1), (53, .iaload, 1), (54, .iconst 1, 1), (55, .iload 5, 2), (57, .ishl, 1), (58, .iconst (-1), 1), (59, .ixor, 1), (60, .iand, 1), (61, .iastore, 1), (62, .aload_n 3, 1), (63, .iload 5, 2), (65, .bipush (-6), 2), (67, .iastore, 1), (68, .goto (-68), 3), (71, .aload_n 1, 1), (72, .bipush 6, 2), (74, .iload_n 0, 1), (75, .iastore, 1), (76, .return_, 1)]
theorem cw_dL_back : ∀ q ∈ cw_tL_back, decode cL_back q.1 = .ok q.2 := by decide +kernel
def mm_L_back : cw_I := (yL_back, cL_back, 6, none, 4, 5, 1, cw_tL_back)
theorem cw_KL_back : cw_okI mm_L_back := ⟨cw_dL_back, by decide +kernel, cw_in2 46 rfl rfl, cw_in1 0 rfl rfl, rfl, by decide +kernel, by decide +kernel, by decide +kernel, by decide +kernel, by decide⟩
theorem cw_kL_back : cw_okD mm_L_back := ⟨cw_dL_back, by decide +kernel, trivial⟩
def cw_tL_low : List (Nat × (ClassFile.Instr × Nat)) := [(0, .iload_n 0, 1), (1, .ldc 9, 2), (3, .iand, 1), (4, .iload_n 1, 1), (5, .irem, 1), (6, .ireturn, 1)]
theorem cw_dL_low : ∀ q ∈ cw_tL_low, decode cL_low q.1 = .ok q.2 := by decide +kernel
def mm_L_low : cw_I := (yL_low, cL_low, 2, (some .int), 4, 2, 1, cw_tL_low)
theorem cw_KL_low : cw_okI mm_L_low := ⟨cw_dL_low, by decide +kernel, cw_in2 42 rfl rfl, cw_in1 0 rfl rfl, rfl, by decide +kernel, by decide +kernel, by decide +kernel, by decide +kernel, by decide⟩
theorem cw_kL_low : cw_okD mm_L_low := ⟨cw_dL_low, by decide +kernel, trivial⟩
def cw_tL_open : List (Nat × (ClassFile.Instr × Nat)) := [(0, .aload_n 2, 1), (1, .iload_n 0, 1), (2, .iaload, 1), (3, .aload_n 3, 1), (4, .iload_n 0, 1), (5, .iaload, 1), (6, .ior, 1), (7, .aload_n 1, 1), (8, .bipush 10, 2), (10, .iaload, 1), (11, .aload_n 1, 1), (12, .bipush 11, 2), (14, .iaload, 1), (15, .ior, 1), (16, .iconst (-1), 1), (17, .ixor, 1), (18, .iand, 1), (19, .ireturn, 1)]
theorem cw_dL_open : ∀ q ∈ cw_tL_open, decode cL_open q.1 = .ok q.2 := by decide +kernel
def mm_L_open : cw_I := (yL_open, cL_open, 4, (some .int), 4, 4, 1, cw_tL_open)
theorem cw_KL_open : cw_okI mm_L_open := ⟨cw_dL_open, by decide +kernel, cw_in2 55 rfl rfl, cw_in1 0 rfl rfl, rfl, by decide +kernel, by decide +kernel, by decide +kernel, by decide +kernel, by decide⟩
theorem cw_kL_open : cw_okD mm_L_open := ⟨cw_dL_open, by decide +kernel, trivial⟩
def cw_tL_reads : List (Nat × (ClassFile.Instr × Nat)) := [(0, .aload_n 0, 1), (1, .invokevirtual 51, 3), (4, .pop, 1), (5, .iconst 1, 1), (6, .iload_n 1, 1), (7, .iconst 3, 1), (8, .invokestatic 55, 3), (11, .iadd, 1), (12, .istore 9, 2), (14, .aload_n 3, 1), (15, .iconst 3, 1), (16, .iaload, 1), (17, .iload 9, 2), (19, .iadd, 1), (20, .bipush 20, 2), (22, .if_icmp .le 5, 3), (25, .iconst 1, 1), (26, .ireturn, 1), (27, .iconst 0, 1), (28, .istore 10, 2), (30, .iload 10, 2), (32, .iload 9, 2), (34, .if_icmp .ge 235, 3), (37, .iload 10, 2), (39, .iconst 1, 1), (40, .if_icmp .ne 7, 3), (43, .iload_n 2, 1), (44, .goto 9, 3), (47, .iload_n 1, 1), (48, .iconst 4, 1), (49, .iload 10, 2), (51, .imul, 1), (52, .ishr, 1), (53, .istore 11, 2), (55, .iconst 0, 1), (56, .istore 12, 2), (58, .iconst 0, 1), (59, .istore 13, 2), (61, .iload 10, 2), (63, .ifCond .le 16, 3), (66, .aload_n 0, 1), (67, .ldc2_w 58, 3), (70, .invokevirtual 60, 3), (73, .iconst 1, 1), (74, .if_icmp .ge 5, 3), (77, .iconst 0, 1), (78, .ireturn, 1), (79, .iconst 1, 1), (80, .istore 14, 2), (82, .iload 14, 2), (84, .aload_n 3, 1), (85, .iconst 0, 1), (86, .iaload, 1), (87, .if_icmp .gt 154, 3), (90, .iload 11, 2), (92, .iload 14, 2), (94, .ishr, 1), (95, .iconst 5, 1), (96, .invokestatic 55, 3), (99, .istore 15, 2), (101, .iload 14, 2), (103, .aload_n 3, 1), (104, .iconst 0, 1), (105, .iaload, 1), (106, .if_icmp .ne 19, 3), (109, .iload 12, 2), (111, .iload 13, 2), (113, .ior, 1), (114, .ifCond .ne 11, 3), (117, .iload 11, 2), (119, .iconst 2, 1), (120, .invokestatic 55, 3), (123, .istore 15, 2), (125, .iload 15, 2), (127, .iconst 1, 1), (128, .if_icmp .gt 107, 3), (131, .iload 12, 2), (133, .iload 13, 2), (135, .ior, 1), (136, .invokestatic 28, 3), (139, .iconst 4, 1), (140, .if_icmp .ne 6, 3), (143, .goto 92, 3), (146, .iload 12, 2), (148, .iload 13, 2), (150, .ior, 1), (151, .ifCond .eq 14, 3), (154, .aload_n 0, 1), (155, .ldc2_w 64, 3), (158, .invokevirtual 60, 3), (161, .iconst 1, 1), (162, .if_icmp .lt 34, 3), (165, .iload 15, 2), (167, .iconst 1, 1), (168, .if_icmp .ne 14, 3), (171, .aload_n 0, 1), (172, .ldc2_w 66, 3), (175, .invokevirtual 60, 3), (178, .iconst 1, 1), (179, .if_icmp .lt 17, 3), (182, .aload_n 0, 1), (183, .bipush 48, 2), (185, .iload 14, 2), (187, .iadd, 1), (188, .i2l, 1), (189, .invokevirtual 60, 3), (192, .iconst 1, 1), (193, .if_icmp .ge 5, 3), (196, .iconst 0, 1), (197, .ireturn, 1), (198, .iload 12, 2), (200, .iload 15, 2), (202, .ifCond .ne 10, 3), (205, .iconst 1, 1), (206, .iload 14, 2), (208, .ishl, 1), (209, .goto 4, 3), (212, .iconst 0, 1), (213, .ior, 1), (214, .istore 12, 2), (216, .iload 13, 2), (218, .iload 15, 2), (220, .iconst 1, 1), (221, .if_icmp .ne 10, 3), (224, .iconst 1, 1), (225, .iload 14, 2), (227, .ishl, 1), (228, .goto 4, 3), (231, .iconst 0, 1), (232, .ior, 1), (233, .istore 13, 2), (235, .iinc 14 1, 3), (238, .goto (-156), 3), (241, .aload 4, 2), (243, .aload_n 3, 1), (244, .iconst 3, 1), (245, .iaload, 1), (246, .iload 10, 2), (248, .iadd, 1), (249, .iload 12, 2), (251, .iastore, 1), (252, .aload 5, 2), (254, .aload_n 3, 1), (255, .iconst 3, 1), (256, .iaload, 1), (257, .iload 10, 2), (259, .iadd, 1), (260, .iload 13, 2), (262, .iastore, 1), (263, .iinc 10 1, 3), (266, .goto (-236), 3), (269, .aload_n 3, 1), (270, .iconst 3, 1), (271, .dup2, 1), (272, .iaload, 1), (273, .iload 9, 2), (275, .iadd, 1), (276, .iastore, 1), (277, .aload_n 3, 1), (278, .aload 6, 2), (280, .aload 7, 2), (282, .aload 8, 2), (284, .invokestatic 68, 3), (287, .aload_n 0, 1), (288, .invokevirtual 72, 3), (291, .aload_n 3, 1), (292, .iconst 3, 1), (293, .iaload, 1), (294, .if_icmp .ne 7, 3), (297, .iconst 1, 1), (298, .goto 4, 3), (301, .iconst 0, 1), (302, .ireturn, 1)]
theorem cw_dL_reads : ∀ q ∈ cw_tL_reads, decode cL_reads q.1 = .ok q.2 := by decide +kernel
def mm_L_reads : cw_I := (yL_reads, cL_reads, 16, (some .boolean), 4, 9, 4, cw_tL_reads)
theorem cw_KL_reads : cw_okI mm_L_reads := ⟨cw_dL_reads, by decide +kernel, cw_in2 110 rfl rfl, cw_in1 0 rfl rfl, rfl, by decide +kernel, by decide +kernel, by decide +kernel, by decide +kernel, by decide⟩
theorem cw_kL_reads : cw_okD mm_L_reads := ⟨cw_dL_reads, by decide +kernel, trivial⟩
def cw_tL_same : List (Nat × (ClassFile.Instr × Nat)) := [(0, .iconst 1, 1), (1, .istore 7, 2), (3, .iload 7, 2), (5, .aload_n 1, 1), (6, .iconst 0, 1), (7, .iaload, 1), (8, .if_icmp .gt 168, 3), (11, .aload_n 1, 1), (12, .bipush 10, 2), (14, .iaload, 1), (15, .aload_n 1, 1), (16, .bipush 11, 2), (18, .iaload, 1), (19, .ior, 1), (20, .iload 7, 2), (22, .ishr, 1), (23, .iconst 1, 1), (24, .iand, 1), (25, .iconst 1, 1), (26, .if_icmp .ne 7, 3), (29, .iconst 1, 1), (30, .goto 4, 3), (33, .iconst 0, 1), (34, .istore 8, 2), (36, .bipush (-6), 2), (38, .istore 9, 2), (40, .iconst 0, 1), (41, .istore 10, 2), (43, .iload 10, 2), (45, .aload_n 1, 1), (46, .bipush 7, 2), (48, .iaload, 1), (49, .if_icmp .ge 28, 3), (52, .aload 6, 2), (54, .iload 10, 2), (56, .iaload, 1), (57, .iload 7, 2), (59, .if_icmp .ne 8, 3), (62, .iload 10, 2), (64, .goto 5, 3), (67, .iload 9, 2), (69, .istore 9, 2), (71, .iinc 10 1, 3), (74, .goto (-31), 3), (77, .aload_n 0, 1), (78, .iload 7, 2), (80, .iconst 0, 1), (81, .invokevirtual 36, 3), (84, .iload 8, 2), (86, .ifCond .eq 15, 3), (89, .aload_n 1, 1), (90, .bipush 10, 2), (92, .iaload, 1), (93, .iload 7, 2), (95, .ishr, 1), (96, .iconst 1, 1), (97, .iand, 1), (98, .goto 5, 3), (101, .bipush (-6), 2), (103, .if_icmp .ne 65, 3), (106, .aload_n 0, 1), (107, .iload 7, 2), (109, .iconst 1, 1), (110, .invokevirtual 36, 3), (113, .iload 8, 2), (115, .ifCond .eq 11, 3), (118, .aload 4, 2), (120, .iload 7, 2), (122, .iaload, 1), (123, .goto 5, 3), (126, .bipush (-6), 2), (128, .if_icmp .ne 40, 3), (131, .aload_n 0, 1), (132, .iload 7, 2), (134, .iconst 2, 1), (135, .invokevirtual 36, 3), (138, .iload 8, 2), (140, .ifCond .eq 11, 3), (143, .aload 5, 2), (145, .iload 7, 2), (147, .iaload, 1), (148, .goto 5, 3), (151, .bipush (-6), 2), (153, .if_icmp .ne 15, 3), (156, .aload_n 0, 1), (157, .iload 7, 2), (159, .iconst 3, 1), (160, .invokevirtual 36, 3), (163, .iload 9, 2), (165, .if_icmp .eq 5, 3), (168, .iconst 0, 1), (169, .ireturn, 1), (170, .iinc 7 1, 3), (173, .goto (-170), 3), (176, .iconst 0, 1), (177, .istore 7, 2), (179, .iload 7, 2), (181, .aload_n 1, 1), (182, .bipush 7, 2), (184, .iaload, 1), (185, .if_icmp .ge 25, 3), (188, .aload_n 0, 1), (189, .iload 7, 2), (191, .invokevirtual 42, 3), (194, .aload 6, 2), (196, .iload 7, 2), (198, .iaload, 1), (199, .if_icmp .eq 5, 3), (202, .iconst 0, 1), (203, .ireturn, 1), (204, .iinc 7 1, 3), (207, .goto (-28), 3), (210, .iconst 0, 1), (211, .istore 7, 2), (213, .iload 7, 2), (215, .aload_n 1, 1), (216, .iconst 3, 1), (217, .iaload, 1), (218, .aload_n 1, 1), (219, .iconst 4, 1), (220, .iaload, 1), (221, .iadd, 1), (222, .if_icmp .ge 213, 3), (225, .iconst 0, 1), (226, .istore 8, 2), (228, .iconst 1, 1), (229, .istore 9, 2), (231, .iload 9, 2), (233, .bipush 10, 2), (235, .if_icmp .ge 75, 3), (238, .aload_n 2, 1), (239, .iload 7, 2), (241, .iaload, 1), (242, .iload 9, 2), (244, .ishr, 1), (245, .iconst 1, 1), (246, .iand, 1), (247, .iconst 1, 1), (248, .if_icmp .ne 8, 3), (251, .iload 9, 2), (253, .goto 26, 3), (256, .aload_n 3, 1), (257, .iload 7, 2), (259, .iaload, 1), (260, .iload 9, 2), (262, .ishr, 1), (263, .iconst 1, 1), (264, .iand, 1), (265, .iconst 1, 1), (266, .if_icmp .ne 11, 3), (269, .bipush 10, 2), (271, .iload 9, 2), (273, .iadd, 1), (274, .goto 5, 3), (277, .bipush (-6), 2), (279, .istore 10, 2), (281, .iload 10, 2), (283, .ifCond .le 21, 3), (286, .aload_n 0, 1), (287, .iload 7, 2), (289, .iinc 8 1, 3), (292, .iload 8, 2), (294, .invokevirtual 45, 3), (297, .iload 10, 2), (299, .if_icmp .eq 5, 3), (302, .iconst 0, 1), (303, .ireturn, 1), (304, .iinc 9 1, 3), (307, .goto (-76), 3), (310, .iload 7, 2), (312, .aload_n 1, 1), (313, .aload_n 2, 1), (314, .aload_n 3, 1), (315, .invokestatic 16, 3), (318, .istore 9, 2), (320, .iload 7, 2), (322, .aload_n 1, 1), (323, .aload_n 2, 1), (324, .aload_n 3, 1), (325, .invokestatic 20, 3), (328, .invokestatic 28, 3), (331, .istore 10, 2), (333, .aload_n 0, 1), (334, .iload 7, 2), (336, .iconst 0, 1), (337, .invokevirtual 45, 3), (340, .iload 8, 2), (342, .if_icmp .ne 85, 3), (345, .iload 8, 2), (347, .bipush 9, 2), (349, .if_icmp .ge 18, 3), (352, .aload_n 0, 1), (353, .iload 7, 2), (355, .iload 8, 2), (357, .iconst 1, 1), (358, .iadd, 1), (359, .invokevirtual 45, 3), (362, .bipush (-6), 2), (364, .if_icmp .ne 63, 3), (367, .aload_n 0, 1), (368, .iload 7, 2), (370, .bipush 10, 2), (372, .invokevirtual 45, 3), (375, .iload 9, 2), (377, .ifCond .eq 7, 3), (380, .iconst 1, 1), (381, .goto 4, 3), (384, .iconst 0, 1), (385, .if_icmp .ne 42, 3), (388, .aload_n 0, 1), (389, .iload 7, 2), (391, .bipush 11, 2), (393, .invokevirtual 45, 3), (396, .iload 9, 2), (398, .ifCond .ne 12, 3), (401, .iload 10, 2), (403, .ifCond .ne 7, 3), (406, .iconst 1, 1), (407, .goto 4, 3), (410, .iconst 0, 1), (411, .if_icmp .ne 16, 3), (414, .aload_n 0, 1), (415, .iload 7, 2), (417, .bipush 12, 2), (419, .invokevirtual 45, 3), (422, .iload 10, 2), (424, .if_icmp .eq 5, 3), (427, .iconst 0, 1), (428, .ireturn, 1), (429, .iinc 7 1, 3), (432, .goto (-219), 3), (435, .aload_n 0, 1), (436, .iconst 0, 1), (437, .invokevirtual 48, 3), (440, .aload_n 1, 1), (441, .iconst 3, 1), (442, .iaload, 1), (443, .if_icmp .ne 114, 3), (446, .aload_n 0, 1), (447, .iconst 1, 1), (448, .invokevirtual 48, 3), (451, .aload_n 1, 1), (452, .iconst 4, 1), (453, .iaload, 1), (454, .if_icmp .ne 103, 3), (457, .aload_n 0, 1), (458, .iconst 2, 1), (459, .invokevirtual 48, 3), (462, .aload_n 1, 1), (463, .iconst 5, 1), (464, .iaload, 1), (465, .if_icmp .ne 92, 3), (468, .aload_n 0, 1), (469, .iconst 3, 1), (470, .invokevirtual 48, 3), (473, .aload_n 1, 1), (474, .bipush 6, 2), (476, .iaload, 1), (477, .if_icmp .ne 80, 3), (480, .aload_n 0, 1), (481, .iconst 4, 1), (482, .invokevirtual 48, 3), (485, .aload_n 1, 1), (486, .bipush 7, 2), (488, .iaload, 1), (489, .if_icmp .ne 68, 3), (492, .aload_n 0, 1), (493, .iconst 5, 1), (494, .invokevirtual 48, 3), (497, .aload_n 1, 1), (498, .bipush 8, 2), (500, .iaload, 1), (501, .if_icmp .ne 56, 3), (504, .aload_n 0, 1), (505, .bipush 6, 2), (507, .invokevirtual 48, 3), (510, .aload_n 1, 1), (511, .bipush 9, 2), (513, .iaload, 1), (514, .if_icmp .ne 43, 3), (517, .aload_n 0, 1), (518, .bipush 7, 2), (520, .invokevirtual 48, 3), (523, .aload_n 1, 1), (524, .iconst 0, 1), (525, .iaload, 1), (526, .if_icmp .ne 31, 3), (529, .aload_n 0, 1), (530, .bipush 8, 2), (532, .invokevirtual 48, 3), (535, .aload_n 1, 1), (536, .iconst 1, 1), (537, .iaload, 1), (538, .if_icmp .ne 19, 3), (541, .aload_n 0, 1), (542, .bipush 9, 2), (544, .invokevirtual 48, 3), (547, .aload_n 1, 1), (548, .iconst 2, 1), (549, .iaload, 1), (550, .if_icmp .ne 7, 3), (553, .iconst 1, 1), (554, .goto 4, 3), (557, .iconst 0, 1), (558, .ireturn, 1)]
theorem cw_dL_same : ∀ q ∈ cw_tL_same, decode cL_same q.1 = .ok q.2 := by decide +kernel
def mm_L_same : cw_I := (yL_same, cL_same, 11, (some .boolean), 4, 7, 5, cw_tL_same)
theorem cw_KL_same : cw_okI mm_L_same := ⟨cw_dL_same, by decide +kernel, cw_in2 67 rfl rfl, cw_in1 0 rfl rfl, rfl, by decide +kernel, by decide +kernel, by decide +kernel, by decide +kernel, by decide⟩
theorem cw_kL_same : cw_okD mm_L_same := ⟨cw_dL_same, by decide +kernel, trivial⟩
end
section
def cw_cn : Nat → Nat
  | 0 => 2
  | 1 => 14
  | _ => 6
def cw_FT : Nat → u_T
  | 0 => TX0
  | 1 => TX1
  | _ => TX2
def cw_ty : Nat → Nat → FieldType
  | 0 => tyX0
  | 1 => tyX1
  | _ => tyX2
theorem cw_cl : ∀ ci, ci < 3 → vwCl[ci]? = some (cw_own ci, cw_FT ci, cw_cn ci)
  | 0, _ => rfl
  | 1, _ => rfl
  | 2, _ => rfl
  | _ + 3, h => absurd h (by omega)
theorem cw_tyok : ∀ ci, ci < 3 → ∀ k, k < cw_cn ci → parseFieldDescriptor (cw_FT ci k).2.2.1 = some (cw_ty ci k)
  | 0, _ => tyX0_ok
  | 1, _ => tyX1_ok
  | 2, _ => tyX2_ok
  | _ + 3, h => absurd h (by omega)
theorem cw_nm : ∀ ci, ci < 3 → ∀ a, a < cw_cn ci → ∀ b, b < cw_cn ci → a ≠ b → (cw_FT ci a).2.1 ≠ (cw_FT ci b).2.1
  | 0, _ => nmX0
  | 1, _ => nmX1
  | 2, _ => nmX2
  | _ + 3, h => absurd h (by omega)
theorem cw_in_u0 : ∀ w ∈ u_ws RX0 TX0 2, w ∈ cw_T := by decide +kernel
theorem cw_in_u1 : ∀ w ∈ u_ws RX1 TX1 14, w ∈ cw_T := by decide +kernel
theorem cw_in_u2 : ∀ w ∈ u_ws RX2 TX2 6, w ∈ cw_T := by decide +kernel
theorem cw_in_u : ∀ ci, ci < 3 → ∀ w ∈ u_ws (cw_own ci) (cw_FT ci) (cw_cn ci), w ∈ cw_T
  | 0, _ => cw_in_u0
  | 1, _ => cw_in_u1
  | 2, _ => cw_in_u2
  | _ + 3, h => absurd h (by omega)
/-- a list of numbered things, read by number -/
def cw_look {α : Type} : List (Nat × α) → Nat → Option α
  | [], _ => none
  | (k, a) :: l, n => match Nat.beq k n with
    | true => some a
    | false => cw_look l n
theorem cw_look_mem {α : Type} : ∀ {l : List (Nat × α)} {n : Nat} {a : α}, cw_look l n = some a → (n, a) ∈ l
  | [], _, _, h => by cases h
  | (k, b) :: l, n, a, h => by
    unfold cw_look at h
    split at h
    · rename_i e
      cases h
      rw [Nat.eq_of_beq_eq_true e]
      exact List.mem_cons_self
    · exact List.mem_cons_of_mem _ (cw_look_mem h)
/-- a link to a field: (0 own, 1 nest mate's; the class, the slot) -/
def cw_okF (c idx : Nat) (e : Nat × Nat × Nat) : Prop := e.2.1 < 3 ∧ e.2.2 < cw_cn e.2.1 ∧ (cw_FT e.2.1 e.2.2).1 = cw_own e.2.1 ∧ ((e.1 = 0 ∧ Cond.fieldLink (cw_own c) idx (cw_own e.2.1) (cw_FT e.2.1 e.2.2).2.1 (cw_FT e.2.1 e.2.2).2.2.1 ∈ cw_T) ∨ (e.1 = 1 ∧ ∃ host, Cond.fieldLinkNest (cw_own c) idx (cw_own e.2.1) (cw_FT e.2.1 e.2.2).2.1 (cw_FT e.2.1 e.2.2).2.2.1 host ∈ cw_N))
def cw_flds0 : List (Nat × (Nat × Nat × Nat)) := [(11, 0, 0, 0), (15, 0, 0, 1)]
theorem cw_fok0 : ∀ q ∈ cw_flds0, cw_okF 0 q.1 q.2 := List.forall_mem_cons.mpr ⟨⟨by decide, by decide, rfl, Or.inl ⟨rfl, cw_in1 81 rfl rfl⟩⟩, List.forall_mem_cons.mpr ⟨⟨by decide, by decide, rfl, Or.inl ⟨rfl, cw_in1 82 rfl rfl⟩⟩, fun _ h => absurd h List.not_mem_nil⟩⟩
def cw_flds1 : List (Nat × (Nat × Nat × Nat)) := [(9, 0, 1, 0), (15, 0, 1, 1), (18, 0, 1, 2), (21, 0, 1, 3), (24, 0, 1, 4), (27, 0, 1, 5), (31, 0, 1, 6), (34, 0, 1, 7), (37, 0, 1, 8), (40, 0, 1, 9), (43, 0, 1, 10), (46, 0, 1, 11), (49, 0, 1, 12), (52, 0, 1, 13)]
theorem cw_fok1 : ∀ q ∈ cw_flds1, cw_okF 1 q.1 q.2 := List.forall_mem_cons.mpr ⟨⟨by decide, by decide, rfl, Or.inl ⟨rfl, cw_in1 21 rfl rfl⟩⟩, List.forall_mem_cons.mpr ⟨⟨by decide, by decide, rfl, Or.inl ⟨rfl, cw_in1 23 rfl rfl⟩⟩, List.forall_mem_cons.mpr ⟨⟨by decide, by decide, rfl, Or.inl ⟨rfl, cw_in1 25 rfl rfl⟩⟩, List.forall_mem_cons.mpr ⟨⟨by decide, by decide, rfl, Or.inl ⟨rfl, cw_in1 27 rfl rfl⟩⟩, List.forall_mem_cons.mpr ⟨⟨by decide, by decide, rfl, Or.inl ⟨rfl, cw_in1 29 rfl rfl⟩⟩, List.forall_mem_cons.mpr ⟨⟨by decide, by decide, rfl, Or.inl ⟨rfl, cw_in1 31 rfl rfl⟩⟩, List.forall_mem_cons.mpr ⟨⟨by decide, by decide, rfl, Or.inl ⟨rfl, cw_in1 32 rfl rfl⟩⟩, List.forall_mem_cons.mpr ⟨⟨by decide, by decide, rfl, Or.inl ⟨rfl, cw_in1 34 rfl rfl⟩⟩, List.forall_mem_cons.mpr ⟨⟨by decide, by decide, rfl, Or.inl ⟨rfl, cw_in1 35 rfl rfl⟩⟩, List.forall_mem_cons.mpr ⟨⟨by decide, by decide, rfl, Or.inl ⟨rfl, cw_in1 36 rfl rfl⟩⟩, List.forall_mem_cons.mpr ⟨⟨by decide, by decide, rfl, Or.inl ⟨rfl, cw_in1 37 rfl rfl⟩⟩, List.forall_mem_cons.mpr ⟨⟨by decide, by decide, rfl, Or.inl ⟨rfl, cw_in1 38 rfl rfl⟩⟩, List.forall_mem_cons.mpr ⟨⟨by decide, by decide, rfl, Or.inl ⟨rfl, cw_in1 40 rfl rfl⟩⟩, List.forall_mem_cons.mpr ⟨⟨by decide, by decide, rfl, Or.inl ⟨rfl, cw_in1 42 rfl rfl⟩⟩, fun _ h => absurd h List.not_mem_nil⟩⟩⟩⟩⟩⟩⟩⟩⟩⟩⟩⟩⟩⟩
def cw_flds2 : List (Nat × (Nat × Nat × Nat)) := [(12, 0, 2, 0), (16, 0, 2, 1), (19, 0, 2, 2), (23, 0, 2, 3), (27, 0, 2, 4), (33, 0, 2, 5), (54, 1, 1, 0), (60, 1, 1, 1), (63, 1, 1, 2), (72, 1, 1, 3), (92, 1, 1, 11), (101, 1, 1, 6), (144, 1, 1, 4), (147, 1, 1, 12), (150, 1, 1, 13), (153, 1, 0, 1)]
theorem cw_fok2 : ∀ q ∈ cw_flds2, cw_okF 2 q.1 q.2 := List.forall_mem_cons.mpr ⟨⟨by decide, by decide, rfl, Or.inl ⟨rfl, cw_in1 90 rfl rfl⟩⟩, List.forall_mem_cons.mpr ⟨⟨by decide, by decide, rfl, Or.inl ⟨rfl, cw_in1 91 rfl rfl⟩⟩, List.forall_mem_cons.mpr ⟨⟨by decide, by decide, rfl, Or.inl ⟨rfl, cw_in1 92 rfl rfl⟩⟩, List.forall_mem_cons.mpr ⟨⟨by decide, by decide, rfl, Or.inl ⟨rfl, cw_in1 93 rfl rfl⟩⟩, List.forall_mem_cons.mpr ⟨⟨by decide, by decide, rfl, Or.inl ⟨rfl, cw_in1 94 rfl rfl⟩⟩, List.forall_mem_cons.mpr ⟨⟨by decide, by decide, rfl, Or.inl ⟨rfl, cw_in1 95 rfl rfl⟩⟩, List.forall_mem_cons.mpr ⟨⟨by decide, by decide, rfl, Or.inr ⟨rfl, _, cw_nn1 22 rfl rfl⟩⟩, List.forall_mem_cons.mpr ⟨⟨by decide, by decide, rfl, Or.inr ⟨rfl, _, cw_nn1 24 rfl rfl⟩⟩, List.forall_mem_cons.mpr ⟨⟨by decide, by decide, rfl, Or.inr ⟨rfl, _, cw_nn1 26 rfl rfl⟩⟩, List.forall_mem_cons.mpr ⟨⟨by decide, by decide, rfl, Or.inr ⟨rfl, _, cw_nn1 28 rfl rfl⟩⟩, List.forall_mem_cons.mpr ⟨⟨by decide, by decide, rfl, Or.inr ⟨rfl, _, cw_nn1 39 rfl rfl⟩⟩, List.forall_mem_cons.mpr ⟨⟨by decide, by decide, rfl, Or.inr ⟨rfl, _, cw_nn1 33 rfl rfl⟩⟩, List.forall_mem_cons.mpr ⟨⟨by decide, by decide, rfl, Or.inr ⟨rfl, _, cw_nn1 30 rfl rfl⟩⟩, List.forall_mem_cons.mpr ⟨⟨by decide, by decide, rfl, Or.inr ⟨rfl, _, cw_nn1 41 rfl rfl⟩⟩, List.forall_mem_cons.mpr ⟨⟨by decide, by decide, rfl, Or.inr ⟨rfl, _, cw_nn1 43 rfl rfl⟩⟩, List.forall_mem_cons.mpr ⟨⟨by decide, by decide, rfl, Or.inr ⟨rfl, _, cw_nn1 83 rfl rfl⟩⟩, fun _ h => absurd h List.not_mem_nil⟩⟩⟩⟩⟩⟩⟩⟩⟩⟩⟩⟩⟩⟩⟩⟩
def cw_flds : Nat → List (Nat × (Nat × Nat × Nat))
  | 0 => cw_flds0
  | 1 => cw_flds1
  | 2 => cw_flds2
  | _ => []
theorem cw_fok : ∀ c, ∀ q ∈ cw_flds c, cw_okF c q.1 q.2
  | 0 => cw_fok0
  | 1 => cw_fok1
  | 2 => cw_fok2
  | _ + 3 => fun _ h => absurd h List.not_mem_nil
def cw_csts : Nat → List (Nat × Int32)
  | 2 => [(195, 1047550)]
  | 4 => [(7, 905037529), (8, 1316629347), (9, 2147483647)]
  | 5 => [(265, 1431655765), (266, 858993459), (267, 252645135)]
  | _ => []
theorem cw_cok : ∀ c, ∀ q ∈ cw_csts c, Cond.constant (cw_own c) q.1 q.2 ∈ cw_T
  | 0 => fun _ h => absurd h List.not_mem_nil
  | 1 => fun _ h => absurd h List.not_mem_nil
  | 2 => List.forall_mem_cons.mpr ⟨cw_in1 128 rfl rfl, fun _ h => absurd h List.not_mem_nil⟩
  | 3 => fun _ h => absurd h List.not_mem_nil
  | 4 => List.forall_mem_cons.mpr ⟨cw_in2 38 rfl rfl, List.forall_mem_cons.mpr ⟨cw_in2 39 rfl rfl, List.forall_mem_cons.mpr ⟨cw_in2 43 rfl rfl, fun _ h => absurd h List.not_mem_nil⟩⟩⟩
  | 5 => List.forall_mem_cons.mpr ⟨cw_in1 189 rfl rfl, List.forall_mem_cons.mpr ⟨cw_in1 190 rfl rfl, List.forall_mem_cons.mpr ⟨cw_in1 191 rfl rfl, fun _ h => absurd h List.not_mem_nil⟩⟩⟩
  | _ + 6 => fun _ h => absurd h List.not_mem_nil
def cw_cstL : Nat → List (Nat × Int64)
  | 0 => [(23, 255)]
  | 4 => [(58, 59), (64, 44), (66, 45)]
  | _ => []
theorem cw_cokL : ∀ c, ∀ q ∈ cw_cstL c, Cond.constantLong (cw_own c) q.1 q.2 ∈ cw_T
  | 0 => List.forall_mem_cons.mpr ⟨cw_in2 130 rfl rfl, fun _ h => absurd h List.not_mem_nil⟩
  | 1 => fun _ h => absurd h List.not_mem_nil
  | 2 => fun _ h => absurd h List.not_mem_nil
  | 3 => fun _ h => absurd h List.not_mem_nil
  | 4 => List.forall_mem_cons.mpr ⟨cw_in2 119 rfl rfl, List.forall_mem_cons.mpr ⟨cw_in2 135 rfl rfl, List.forall_mem_cons.mpr ⟨cw_in2 136 rfl rfl, fun _ h => absurd h List.not_mem_nil⟩⟩⟩
  | 5 => fun _ h => absurd h List.not_mem_nil
  | _ + 6 => fun _ h => absurd h List.not_mem_nil
/-- a link to a method: 0 virtual, 1 static, 2 constructor; 3 to 5 the same of a nest mate; 6 Object(), 7 arraycopy, 8 max -/
def cw_okC (c idx k : Nat) (i : cw_I) : Prop := (k = 0 ∧ Cond.methodLink (cw_own c) idx i.1 ∈ cw_T ∧ Cond.instanceMethod i.1 ∈ cw_T ∧ Cond.selects i.1.cls i.1 i.1 ∈ cw_T ∧ cw_okI i) ∨ (k = 1 ∧ Cond.methodLink (cw_own c) idx i.1 ∈ cw_T ∧ Cond.static i.1 ∈ cw_T ∧ cw_okI i) ∨ (k = 2 ∧ Cond.methodLink (cw_own c) idx i.1 ∈ cw_T ∧ Cond.instanceMethod i.1 ∈ cw_T ∧ i.1.name = "<init>" ∧ i.2.2.2.1 = none ∧ cw_okI i) ∨ (k = 3 ∧ (∃ host, Cond.methodLinkNest (cw_own c) idx i.1 host ∈ cw_N) ∧ Cond.instanceMethod i.1 ∈ cw_T ∧ Cond.selects i.1.cls i.1 i.1 ∈ cw_T ∧ cw_okI i) ∨ (k = 4 ∧ (∃ host, Cond.methodLinkNest (cw_own c) idx i.1 host ∈ cw_N) ∧ Cond.static i.1 ∈ cw_T ∧ cw_okI i) ∨ (k = 5 ∧ (∃ host, Cond.methodLinkNest (cw_own c) idx i.1 host ∈ cw_N) ∧ Cond.instanceMethod i.1 ∈ cw_T ∧ i.1.name = "<init>" ∧ i.2.2.2.1 = none ∧ cw_okI i) ∨ (k = 6 ∧ Cond.methodLink (cw_own c) idx objectInit ∈ cw_T) ∨ (k = 7 ∧ Cond.methodLink (cw_own c) idx arraycopyName ∈ cw_T) ∨ (k = 8 ∧ Cond.methodLink (cw_own c) idx Lib.Math.max.name ∈ cw_T)
def cw_cls0 : List (Nat × (Nat × cw_I)) := [(3, 6, mm_J6_bitCount_0f7a4), (19, 1, mm_X0_codeIn), (25, 0, mm_X0_characterAt), (29, 1, mm_X0_isDigit), (33, 8, mm_J6_bitCount_0f7a4), (39, 4, mm_X2_opposite), (43, 4, mm_X2_setOf), (46, 3, mm_X1_tell)]
theorem cw_c0_3 : cw_okC 0 3 6 mm_J6_bitCount_0f7a4 := Or.inr (Or.inr (Or.inr (Or.inr (Or.inr (Or.inr (Or.inl ⟨rfl, cw_in1 80 rfl rfl⟩))))))
theorem cw_c0_19 : cw_okC 0 19 1 mm_X0_codeIn := Or.inr (Or.inl ⟨rfl, cw_in2 127 rfl rfl, cw_in2 128 rfl rfl, cw_KX0_codeIn⟩)
theorem cw_c0_25 : cw_okC 0 25 0 mm_X0_characterAt := Or.inl ⟨rfl, cw_in2 148 rfl rfl, cw_in2 150 rfl rfl, cw_ins 36 rfl rfl, cw_KX0_characterAt⟩
theorem cw_c0_29 : cw_okC 0 29 1 mm_X0_isDigit := Or.inr (Or.inl ⟨rfl, cw_in2 156 rfl rfl, cw_in2 157 rfl rfl, cw_KX0_isDigit⟩)
theorem cw_c0_33 : cw_okC 0 33 8 mm_J6_bitCount_0f7a4 := Or.inr (Or.inr (Or.inr (Or.inr (Or.inr (Or.inr (Or.inr (Or.inr (⟨rfl, cw_in2 159 rfl rfl⟩))))))))
theorem cw_c0_39 : cw_okC 0 39 4 mm_X2_opposite := Or.inr (Or.inr (Or.inr (Or.inr (Or.inl ⟨rfl, ⟨_, cw_nn2 168 rfl rfl⟩, cw_in1 218 rfl rfl, cw_KX2_opposite⟩))))
theorem cw_c0_43 : cw_okC 0 43 4 mm_X2_setOf := Or.inr (Or.inr (Or.inr (Or.inr (Or.inl ⟨rfl, ⟨_, cw_nn2 169 rfl rfl⟩, cw_in1 133 rfl rfl, cw_KX2_setOf⟩))))
theorem cw_c0_46 : cw_okC 0 46 3 mm_X1_tell := Or.inr (Or.inr (Or.inr (Or.inl ⟨rfl, ⟨_, cw_nn2 170 rfl rfl⟩, cw_in2 172 rfl rfl, cw_ins 40 rfl rfl, cw_KX1_tell⟩)))
theorem cw_clok0 : ∀ q ∈ cw_cls0, cw_okC 0 q.1 q.2.1 q.2.2 := List.forall_mem_cons.mpr ⟨cw_c0_3, List.forall_mem_cons.mpr ⟨cw_c0_19, List.forall_mem_cons.mpr ⟨cw_c0_25, List.forall_mem_cons.mpr ⟨cw_c0_29, List.forall_mem_cons.mpr ⟨cw_c0_33, List.forall_mem_cons.mpr ⟨cw_c0_39, List.forall_mem_cons.mpr ⟨cw_c0_43, List.forall_mem_cons.mpr ⟨cw_c0_46, fun _ h => absurd h List.not_mem_nil⟩⟩⟩⟩⟩⟩⟩⟩
def cw_cls1 : List (Nat × (Nat × cw_I)) := [(3, 6, mm_J6_bitCount_0f7a4), (55, 7, mm_J6_bitCount_0f7a4), (61, 0, mm_X1_clauseAt), (65, 4, mm_X2_opposites), (68, 4, mm_X2_has), (72, 0, mm_X1_isTrue), (76, 0, mm_X1_openSigns), (79, 1, mm_J6_bitCount_0f7a4), (88, 0, mm_X1_levelAt), (91, 0, mm_X1_signAt), (94, 4, mm_X2_thingOf), (97, 4, mm_X2_setOf), (100, 0, mm_X1_reasonAt), (103, 0, mm_X1_doOneStep), (106, 0, mm_X1_firstUntrue), (109, 0, mm_X1_meetConflict), (113, 4, mm_X2_signInOrder), (117, 0, mm_X1_presentLevel), (120, 0, mm_X1_give), (124, 0, mm_X1_lowestOpenThing), (127, 4, mm_X2_opposite), (130, 0, mm_X1_clauseOutOf), (133, 0, mm_X1_levelBelowPresent), (136, 0, mm_X1_goBackTo), (139, 0, mm_X1_forgetEarliestWithoutUse), (142, 0, mm_X1_learn), (145, 0, mm_X1_signsOfPresentLevel), (148, 8, mm_J6_bitCount_0f7a4), (153, 0, mm_X1_isReason), (156, 0, mm_X1_removeClause), (159, 0, mm_X1_lowerReasonsAbove)]
theorem cw_c1_3 : cw_okC 1 3 6 mm_J6_bitCount_0f7a4 := Or.inr (Or.inr (Or.inr (Or.inr (Or.inr (Or.inr (Or.inl ⟨rfl, cw_in1 20 rfl rfl⟩))))))
theorem cw_c1_55 : cw_okC 1 55 7 mm_J6_bitCount_0f7a4 := Or.inr (Or.inr (Or.inr (Or.inr (Or.inr (Or.inr (Or.inr (Or.inl ⟨rfl, cw_in1 147 rfl rfl⟩)))))))
theorem cw_c1_61 : cw_okC 1 61 0 mm_X1_clauseAt := Or.inl ⟨rfl, cw_in1 121 rfl rfl, cw_in1 123 rfl rfl, cw_ins 2 rfl rfl, cw_KX1_clauseAt⟩
theorem cw_c1_65 : cw_okC 1 65 4 mm_X2_opposites := Or.inr (Or.inr (Or.inr (Or.inr (Or.inl ⟨rfl, ⟨_, cw_nn1 125 rfl rfl⟩, cw_in1 126 rfl rfl, cw_KX2_opposites⟩))))
theorem cw_c1_68 : cw_okC 1 68 4 mm_X2_has := Or.inr (Or.inr (Or.inr (Or.inr (Or.inl ⟨rfl, ⟨_, cw_nn1 129 rfl rfl⟩, cw_in1 130 rfl rfl, cw_KX2_has⟩))))
theorem cw_c1_72 : cw_okC 1 72 0 mm_X1_isTrue := Or.inl ⟨rfl, cw_in1 178 rfl rfl, cw_in1 180 rfl rfl, cw_ins 12 rfl rfl, cw_KX1_isTrue⟩
theorem cw_c1_76 : cw_okC 1 76 0 mm_X1_openSigns := Or.inl ⟨rfl, cw_in1 182 rfl rfl, cw_in1 184 rfl rfl, cw_ins 13 rfl rfl, cw_KX1_openSigns⟩
theorem cw_c1_79 : cw_okC 1 79 1 mm_J6_bitCount_0f7a4 := Or.inr (Or.inl ⟨rfl, cw_in1 186 rfl rfl, cw_in1 187 rfl rfl, cw_KJ6_bitCount_0f7a4⟩)
theorem cw_c1_88 : cw_okC 1 88 0 mm_X1_levelAt := Or.inl ⟨rfl, cw_in1 200 rfl rfl, cw_in1 202 rfl rfl, cw_ins 16 rfl rfl, cw_KX1_levelAt⟩
theorem cw_c1_91 : cw_okC 1 91 0 mm_X1_signAt := Or.inl ⟨rfl, cw_in1 212 rfl rfl, cw_in1 214 rfl rfl, cw_ins 19 rfl rfl, cw_KX1_signAt⟩
theorem cw_c1_94 : cw_okC 1 94 4 mm_X2_thingOf := Or.inr (Or.inr (Or.inr (Or.inr (Or.inl ⟨rfl, ⟨_, cw_nn2 80 rfl rfl⟩, cw_in2 81 rfl rfl, cw_KX2_thingOf⟩))))
theorem cw_c1_97 : cw_okC 1 97 4 mm_X2_setOf := Or.inr (Or.inr (Or.inr (Or.inr (Or.inl ⟨rfl, ⟨_, cw_nn1 216 rfl rfl⟩, cw_in1 133 rfl rfl, cw_KX2_setOf⟩))))
theorem cw_c1_100 : cw_okC 1 100 0 mm_X1_reasonAt := Or.inl ⟨rfl, cw_in1 220 rfl rfl, cw_in1 222 rfl rfl, cw_ins 20 rfl rfl, cw_KX1_reasonAt⟩
theorem cw_c1_103 : cw_okC 1 103 0 mm_X1_doOneStep := Or.inl ⟨rfl, cw_in1 170 rfl rfl, cw_in1 172 rfl rfl, cw_ins 10 rfl rfl, cw_KX1_doOneStep⟩
theorem cw_c1_106 : cw_okC 1 106 0 mm_X1_firstUntrue := Or.inl ⟨rfl, cw_in1 174 rfl rfl, cw_in1 176 rfl rfl, cw_ins 11 rfl rfl, cw_KX1_firstUntrue⟩
theorem cw_c1_109 : cw_okC 1 109 0 mm_X1_meetConflict := Or.inl ⟨rfl, cw_in1 192 rfl rfl, cw_in1 194 rfl rfl, cw_ins 14 rfl rfl, cw_KX1_meetConflict⟩
theorem cw_c1_113 : cw_okC 1 113 4 mm_X2_signInOrder := Or.inr (Or.inr (Or.inr (Or.inr (Or.inl ⟨rfl, ⟨_, cw_nn2 15 rfl rfl⟩, cw_in2 16 rfl rfl, cw_KX2_signInOrder⟩))))
theorem cw_c1_117 : cw_okC 1 117 0 mm_X1_presentLevel := Or.inl ⟨rfl, cw_in1 196 rfl rfl, cw_in1 198 rfl rfl, cw_ins 15 rfl rfl, cw_KX1_presentLevel⟩
theorem cw_c1_120 : cw_okC 1 120 0 mm_X1_give := Or.inl ⟨rfl, cw_in2 21 rfl rfl, cw_in2 23 rfl rfl, cw_ins 28 rfl rfl, cw_KX1_give⟩
theorem cw_c1_124 : cw_okC 1 124 0 mm_X1_lowestOpenThing := Or.inl ⟨rfl, cw_in2 25 rfl rfl, cw_in2 27 rfl rfl, cw_ins 29 rfl rfl, cw_KX1_lowestOpenThing⟩
theorem cw_c1_127 : cw_okC 1 127 4 mm_X2_opposite := Or.inr (Or.inr (Or.inr (Or.inr (Or.inl ⟨rfl, ⟨_, cw_nn1 217 rfl rfl⟩, cw_in1 218 rfl rfl, cw_KX2_opposite⟩))))
theorem cw_c1_130 : cw_okC 1 130 0 mm_X1_clauseOutOf := Or.inl ⟨rfl, cw_in1 204 rfl rfl, cw_in1 206 rfl rfl, cw_ins 17 rfl rfl, cw_KX1_clauseOutOf⟩
theorem cw_c1_133 : cw_okC 1 133 0 mm_X1_levelBelowPresent := Or.inl ⟨rfl, cw_in1 224 rfl rfl, cw_in1 226 rfl rfl, cw_ins 21 rfl rfl, cw_KX1_levelBelowPresent⟩
theorem cw_c1_136 : cw_okC 1 136 0 mm_X1_goBackTo := Or.inl ⟨rfl, cw_in1 231 rfl rfl, cw_in1 233 rfl rfl, cw_ins 22 rfl rfl, cw_KX1_goBackTo⟩
theorem cw_c1_139 : cw_okC 1 139 0 mm_X1_forgetEarliestWithoutUse := Or.inl ⟨rfl, cw_in1 235 rfl rfl, cw_in1 237 rfl rfl, cw_ins 23 rfl rfl, cw_KX1_forgetEarliestWithoutUse⟩
theorem cw_c1_142 : cw_okC 1 142 0 mm_X1_learn := Or.inl ⟨rfl, cw_in2 11 rfl rfl, cw_in2 13 rfl rfl, cw_ins 27 rfl rfl, cw_KX1_learn⟩
theorem cw_c1_145 : cw_okC 1 145 0 mm_X1_signsOfPresentLevel := Or.inl ⟨rfl, cw_in1 208 rfl rfl, cw_in1 210 rfl rfl, cw_ins 18 rfl rfl, cw_KX1_signsOfPresentLevel⟩
theorem cw_c1_148 : cw_okC 1 148 8 mm_J6_bitCount_0f7a4 := Or.inr (Or.inr (Or.inr (Or.inr (Or.inr (Or.inr (Or.inr (Or.inr (⟨rfl, cw_in1 228 rfl rfl⟩))))))))
theorem cw_c1_153 : cw_okC 1 153 0 mm_X1_isReason := Or.inl ⟨rfl, cw_in1 239 rfl rfl, cw_in2 1 rfl rfl, cw_ins 24 rfl rfl, cw_KX1_isReason⟩
theorem cw_c1_156 : cw_okC 1 156 0 mm_X1_removeClause := Or.inl ⟨rfl, cw_in2 3 rfl rfl, cw_in2 5 rfl rfl, cw_ins 25 rfl rfl, cw_KX1_removeClause⟩
theorem cw_c1_159 : cw_okC 1 159 0 mm_X1_lowerReasonsAbove := Or.inl ⟨rfl, cw_in2 7 rfl rfl, cw_in2 9 rfl rfl, cw_ins 26 rfl rfl, cw_KX1_lowerReasonsAbove⟩
theorem cw_clok1 : ∀ q ∈ cw_cls1, cw_okC 1 q.1 q.2.1 q.2.2 := List.forall_mem_cons.mpr ⟨cw_c1_3, List.forall_mem_cons.mpr ⟨cw_c1_55, List.forall_mem_cons.mpr ⟨cw_c1_61, List.forall_mem_cons.mpr ⟨cw_c1_65, List.forall_mem_cons.mpr ⟨cw_c1_68, List.forall_mem_cons.mpr ⟨cw_c1_72, List.forall_mem_cons.mpr ⟨cw_c1_76, List.forall_mem_cons.mpr ⟨cw_c1_79, List.forall_mem_cons.mpr ⟨cw_c1_88, List.forall_mem_cons.mpr ⟨cw_c1_91, List.forall_mem_cons.mpr ⟨cw_c1_94, List.forall_mem_cons.mpr ⟨cw_c1_97, List.forall_mem_cons.mpr ⟨cw_c1_100, List.forall_mem_cons.mpr ⟨cw_c1_103, List.forall_mem_cons.mpr ⟨cw_c1_106, List.forall_mem_cons.mpr ⟨cw_c1_109, List.forall_mem_cons.mpr ⟨cw_c1_113, List.forall_mem_cons.mpr ⟨cw_c1_117, List.forall_mem_cons.mpr ⟨cw_c1_120, List.forall_mem_cons.mpr ⟨cw_c1_124, List.forall_mem_cons.mpr ⟨cw_c1_127, List.forall_mem_cons.mpr ⟨cw_c1_130, List.forall_mem_cons.mpr ⟨cw_c1_133, List.forall_mem_cons.mpr ⟨cw_c1_136, List.forall_mem_cons.mpr ⟨cw_c1_139, List.forall_mem_cons.mpr ⟨cw_c1_142, List.forall_mem_cons.mpr ⟨cw_c1_145, List.forall_mem_cons.mpr ⟨cw_c1_148, List.forall_mem_cons.mpr ⟨cw_c1_153, List.forall_mem_cons.mpr ⟨cw_c1_156, List.forall_mem_cons.mpr ⟨cw_c1_159, fun _ h => absurd h List.not_mem_nil⟩⟩⟩⟩⟩⟩⟩⟩⟩⟩⟩⟩⟩⟩⟩⟩⟩⟩⟩⟩⟩⟩⟩⟩⟩⟩⟩⟩⟩⟩⟩
def cw_cls2 : List (Nat × (Nat × cw_I)) := [(3, 6, mm_J6_bitCount_0f7a4), (11, 5, mm_X1_init), (32, 5, mm_X0_init), (37, 0, mm_X2_setThings), (41, 0, mm_X2_setRestart), (44, 0, mm_X2_setFirst), (47, 3, mm_X1_toldNeeds), (51, 0, mm_X2_record), (57, 3, mm_X1_beginAnew), (66, 3, mm_X0_firstFault), (69, 3, mm_X0_greatestThing), (75, 3, mm_X0_howManyClauses), (78, 3, mm_X0_tellClausesTo), (82, 3, mm_X0_empty), (89, 3, mm_X1_doSteps), (95, 3, mm_X1_presentLevel), (98, 3, mm_X1_goBackTo), (104, 0, mm_X2_isNoThing), (108, 3, mm_X1_placeOf), (111, 3, mm_X1_signAt), (114, 3, mm_X1_levelAt), (117, 3, mm_X1_reasonAt), (120, 1, mm_X2_thingOf), (123, 0, mm_X2_isNoClause), (126, 3, mm_X1_clauseAt), (129, 1, mm_J6_bitCount_0f7a4), (134, 3, mm_X1_isTrue), (137, 3, mm_X1_openSigns), (140, 1, mm_X2_signInOrder), (171, 1, mm_X2_has), (175, 3, mm_X1_copyFrom), (178, 1, mm_X2_setOf), (184, 4, mm_X0_charactersIn), (188, 3, mm_X0_append), (192, 0, mm_X2_moveOldestToEnd), (196, 1, mm_X2_opposites), (199, 1, mm_X2_opposite)]
theorem cw_c2_3 : cw_okC 2 3 6 mm_J6_bitCount_0f7a4 := Or.inr (Or.inr (Or.inr (Or.inr (Or.inr (Or.inr (Or.inl ⟨rfl, cw_in1 12 rfl rfl⟩))))))
theorem cw_c2_11 : cw_okC 2 11 5 mm_X1_init := Or.inr (Or.inr (Or.inr (Or.inr (Or.inr (Or.inl ⟨rfl, ⟨_, cw_nn1 17 rfl rfl⟩, cw_in1 18 rfl rfl, rfl, rfl, cw_KX1_init⟩)))))
theorem cw_c2_32 : cw_okC 2 32 5 mm_X0_init := Or.inr (Or.inr (Or.inr (Or.inr (Or.inr (Or.inl ⟨rfl, ⟨_, cw_nn1 77 rfl rfl⟩, cw_in1 78 rfl rfl, rfl, rfl, cw_KX0_init⟩)))))
theorem cw_c2_37 : cw_okC 2 37 0 mm_X2_setThings := Or.inl ⟨rfl, cw_in1 113 rfl rfl, cw_in1 115 rfl rfl, cw_ins 0 rfl rfl, cw_KX2_setThings⟩
theorem cw_c2_41 : cw_okC 2 41 0 mm_X2_setRestart := Or.inl ⟨rfl, cw_in1 154 rfl rfl, cw_in1 156 rfl rfl, cw_ins 7 rfl rfl, cw_KX2_setRestart⟩
theorem cw_c2_44 : cw_okC 2 44 0 mm_X2_setFirst := Or.inl ⟨rfl, cw_in1 158 rfl rfl, cw_in1 160 rfl rfl, cw_ins 8 rfl rfl, cw_KX2_setFirst⟩
theorem cw_c2_47 : cw_okC 2 47 3 mm_X1_toldNeeds := Or.inr (Or.inr (Or.inr (Or.inl ⟨rfl, ⟨_, cw_nn1 117 rfl rfl⟩, cw_in1 119 rfl rfl, cw_ins 1 rfl rfl, cw_KX1_toldNeeds⟩)))
theorem cw_c2_51 : cw_okC 2 51 0 mm_X2_record := Or.inl ⟨rfl, cw_in1 135 rfl rfl, cw_in1 137 rfl rfl, cw_ins 3 rfl rfl, cw_KX2_record⟩
theorem cw_c2_57 : cw_okC 2 57 3 mm_X1_beginAnew := Or.inr (Or.inr (Or.inr (Or.inl ⟨rfl, ⟨_, cw_nn1 150 rfl rfl⟩, cw_in1 152 rfl rfl, cw_ins 6 rfl rfl, cw_KX1_beginAnew⟩)))
theorem cw_c2_66 : cw_okC 2 66 3 mm_X0_firstFault := Or.inr (Or.inr (Or.inr (Or.inl ⟨rfl, ⟨_, cw_nn2 144 rfl rfl⟩, cw_in2 146 rfl rfl, cw_ins 35 rfl rfl, cw_KX0_firstFault⟩)))
theorem cw_c2_69 : cw_okC 2 69 3 mm_X0_greatestThing := Or.inr (Or.inr (Or.inr (Or.inl ⟨rfl, ⟨_, cw_nn2 152 rfl rfl⟩, cw_in2 154 rfl rfl, cw_ins 37 rfl rfl, cw_KX0_greatestThing⟩)))
theorem cw_c2_75 : cw_okC 2 75 3 mm_X0_howManyClauses := Or.inr (Or.inr (Or.inr (Or.inl ⟨rfl, ⟨_, cw_nn2 160 rfl rfl⟩, cw_in2 162 rfl rfl, cw_ins 38 rfl rfl, cw_KX0_howManyClauses⟩)))
theorem cw_c2_78 : cw_okC 2 78 3 mm_X0_tellClausesTo := Or.inr (Or.inr (Or.inr (Or.inl ⟨rfl, ⟨_, cw_nn2 164 rfl rfl⟩, cw_in2 166 rfl rfl, cw_ins 39 rfl rfl, cw_KX0_tellClausesTo⟩)))
theorem cw_c2_82 : cw_okC 2 82 3 mm_X0_empty := Or.inr (Or.inr (Or.inr (Or.inl ⟨rfl, ⟨_, cw_nn2 115 rfl rfl⟩, cw_in2 117 rfl rfl, cw_ins 33 rfl rfl, cw_KX0_empty⟩)))
theorem cw_c2_89 : cw_okC 2 89 3 mm_X1_doSteps := Or.inr (Or.inr (Or.inr (Or.inl ⟨rfl, ⟨_, cw_nn1 166 rfl rfl⟩, cw_in1 168 rfl rfl, cw_ins 9 rfl rfl, cw_KX1_doSteps⟩)))
theorem cw_c2_95 : cw_okC 2 95 3 mm_X1_presentLevel := Or.inr (Or.inr (Or.inr (Or.inl ⟨rfl, ⟨_, cw_nn2 33 rfl rfl⟩, cw_in1 198 rfl rfl, cw_ins 15 rfl rfl, cw_KX1_presentLevel⟩)))
theorem cw_c2_98 : cw_okC 2 98 3 mm_X1_goBackTo := Or.inr (Or.inr (Or.inr (Or.inl ⟨rfl, ⟨_, cw_nn2 34 rfl rfl⟩, cw_in1 233 rfl rfl, cw_ins 22 rfl rfl, cw_KX1_goBackTo⟩)))
theorem cw_c2_104 : cw_okC 2 104 0 mm_X2_isNoThing := Or.inl ⟨rfl, cw_in2 72 rfl rfl, cw_in2 74 rfl rfl, cw_ins 30 rfl rfl, cw_KX2_isNoThing⟩
theorem cw_c2_108 : cw_okC 2 108 3 mm_X1_placeOf := Or.inr (Or.inr (Or.inr (Or.inl ⟨rfl, ⟨_, cw_nn2 76 rfl rfl⟩, cw_in2 78 rfl rfl, cw_ins 31 rfl rfl, cw_KX1_placeOf⟩)))
theorem cw_c2_111 : cw_okC 2 111 3 mm_X1_signAt := Or.inr (Or.inr (Or.inr (Or.inl ⟨rfl, ⟨_, cw_nn2 83 rfl rfl⟩, cw_in1 214 rfl rfl, cw_ins 19 rfl rfl, cw_KX1_signAt⟩)))
theorem cw_c2_114 : cw_okC 2 114 3 mm_X1_levelAt := Or.inr (Or.inr (Or.inr (Or.inl ⟨rfl, ⟨_, cw_nn2 84 rfl rfl⟩, cw_in1 202 rfl rfl, cw_ins 16 rfl rfl, cw_KX1_levelAt⟩)))
theorem cw_c2_117 : cw_okC 2 117 3 mm_X1_reasonAt := Or.inr (Or.inr (Or.inr (Or.inl ⟨rfl, ⟨_, cw_nn2 85 rfl rfl⟩, cw_in1 222 rfl rfl, cw_ins 20 rfl rfl, cw_KX1_reasonAt⟩)))
theorem cw_c2_120 : cw_okC 2 120 1 mm_X2_thingOf := Or.inr (Or.inl ⟨rfl, cw_in2 90 rfl rfl, cw_in2 81 rfl rfl, cw_KX2_thingOf⟩)
theorem cw_c2_123 : cw_okC 2 123 0 mm_X2_isNoClause := Or.inl ⟨rfl, cw_in2 95 rfl rfl, cw_in2 97 rfl rfl, cw_ins 32 rfl rfl, cw_KX2_isNoClause⟩
theorem cw_c2_126 : cw_okC 2 126 3 mm_X1_clauseAt := Or.inr (Or.inr (Or.inr (Or.inl ⟨rfl, ⟨_, cw_nn2 99 rfl rfl⟩, cw_in1 123 rfl rfl, cw_ins 2 rfl rfl, cw_KX1_clauseAt⟩)))
theorem cw_c2_129 : cw_okC 2 129 1 mm_J6_bitCount_0f7a4 := Or.inr (Or.inl ⟨rfl, cw_in2 100 rfl rfl, cw_in1 187 rfl rfl, cw_KJ6_bitCount_0f7a4⟩)
theorem cw_c2_134 : cw_okC 2 134 3 mm_X1_isTrue := Or.inr (Or.inr (Or.inr (Or.inl ⟨rfl, ⟨_, cw_nn2 101 rfl rfl⟩, cw_in1 180 rfl rfl, cw_ins 12 rfl rfl, cw_KX1_isTrue⟩)))
theorem cw_c2_137 : cw_okC 2 137 3 mm_X1_openSigns := Or.inr (Or.inr (Or.inr (Or.inl ⟨rfl, ⟨_, cw_nn2 102 rfl rfl⟩, cw_in1 184 rfl rfl, cw_ins 13 rfl rfl, cw_KX1_openSigns⟩)))
theorem cw_c2_140 : cw_okC 2 140 1 mm_X2_signInOrder := Or.inr (Or.inl ⟨rfl, cw_in2 103 rfl rfl, cw_in2 16 rfl rfl, cw_KX2_signInOrder⟩)
theorem cw_c2_171 : cw_okC 2 171 1 mm_X2_has := Or.inr (Or.inl ⟨rfl, cw_in2 19 rfl rfl, cw_in1 130 rfl rfl, cw_KX2_has⟩)
theorem cw_c2_175 : cw_okC 2 175 3 mm_X1_copyFrom := Or.inr (Or.inr (Or.inr (Or.inl ⟨rfl, ⟨_, cw_nn1 143 rfl rfl⟩, cw_in1 145 rfl rfl, cw_ins 5 rfl rfl, cw_KX1_copyFrom⟩)))
theorem cw_c2_178 : cw_okC 2 178 1 mm_X2_setOf := Or.inr (Or.inl ⟨rfl, cw_in1 132 rfl rfl, cw_in1 133 rfl rfl, cw_KX2_setOf⟩)
theorem cw_c2_184 : cw_okC 2 184 4 mm_X0_charactersIn := Or.inr (Or.inr (Or.inr (Or.inr (Or.inl ⟨rfl, ⟨_, cw_nn2 124 rfl rfl⟩, cw_in2 125 rfl rfl, cw_KX0_charactersIn⟩))))
theorem cw_c2_188 : cw_okC 2 188 3 mm_X0_append := Or.inr (Or.inr (Or.inr (Or.inl ⟨rfl, ⟨_, cw_nn2 131 rfl rfl⟩, cw_in2 133 rfl rfl, cw_ins 34 rfl rfl, cw_KX0_append⟩)))
theorem cw_c2_192 : cw_okC 2 192 0 mm_X2_moveOldestToEnd := Or.inl ⟨rfl, cw_in1 139 rfl rfl, cw_in1 141 rfl rfl, cw_ins 4 rfl rfl, cw_KX2_moveOldestToEnd⟩
theorem cw_c2_196 : cw_okC 2 196 1 mm_X2_opposites := Or.inr (Or.inl ⟨rfl, cw_in2 18 rfl rfl, cw_in1 126 rfl rfl, cw_KX2_opposites⟩)
theorem cw_c2_199 : cw_okC 2 199 1 mm_X2_opposite := Or.inr (Or.inl ⟨rfl, cw_in2 20 rfl rfl, cw_in1 218 rfl rfl, cw_KX2_opposite⟩)
theorem cw_clok2 : ∀ q ∈ cw_cls2, cw_okC 2 q.1 q.2.1 q.2.2 := List.forall_mem_cons.mpr ⟨cw_c2_3, List.forall_mem_cons.mpr ⟨cw_c2_11, List.forall_mem_cons.mpr ⟨cw_c2_32, List.forall_mem_cons.mpr ⟨cw_c2_37, List.forall_mem_cons.mpr ⟨cw_c2_41, List.forall_mem_cons.mpr ⟨cw_c2_44, List.forall_mem_cons.mpr ⟨cw_c2_47, List.forall_mem_cons.mpr ⟨cw_c2_51, List.forall_mem_cons.mpr ⟨cw_c2_57, List.forall_mem_cons.mpr ⟨cw_c2_66, List.forall_mem_cons.mpr ⟨cw_c2_69, List.forall_mem_cons.mpr ⟨cw_c2_75, List.forall_mem_cons.mpr ⟨cw_c2_78, List.forall_mem_cons.mpr ⟨cw_c2_82, List.forall_mem_cons.mpr ⟨cw_c2_89, List.forall_mem_cons.mpr ⟨cw_c2_95, List.forall_mem_cons.mpr ⟨cw_c2_98, List.forall_mem_cons.mpr ⟨cw_c2_104, List.forall_mem_cons.mpr ⟨cw_c2_108, List.forall_mem_cons.mpr ⟨cw_c2_111, List.forall_mem_cons.mpr ⟨cw_c2_114, List.forall_mem_cons.mpr ⟨cw_c2_117, List.forall_mem_cons.mpr ⟨cw_c2_120, List.forall_mem_cons.mpr ⟨cw_c2_123, List.forall_mem_cons.mpr ⟨cw_c2_126, List.forall_mem_cons.mpr ⟨cw_c2_129, List.forall_mem_cons.mpr ⟨cw_c2_134, List.forall_mem_cons.mpr ⟨cw_c2_137, List.forall_mem_cons.mpr ⟨cw_c2_140, List.forall_mem_cons.mpr ⟨cw_c2_171, List.forall_mem_cons.mpr ⟨cw_c2_175, List.forall_mem_cons.mpr ⟨cw_c2_178, List.forall_mem_cons.mpr ⟨cw_c2_184, List.forall_mem_cons.mpr ⟨cw_c2_188, List.forall_mem_cons.mpr ⟨cw_c2_192, List.forall_mem_cons.mpr ⟨cw_c2_196, List.forall_mem_cons.mpr ⟨cw_c2_199, fun _ h => absurd h List.not_mem_nil⟩⟩⟩⟩⟩⟩⟩⟩⟩⟩⟩⟩⟩⟩⟩⟩⟩⟩⟩⟩⟩⟩⟩⟩⟩⟩⟩⟩⟩⟩⟩⟩⟩⟩⟩⟩⟩
def cw_cls3 : List (Nat × (Nat × cw_I)) := []
theorem cw_clok3 : ∀ q ∈ cw_cls3, cw_okC 3 q.1 q.2.1 q.2.2 := fun _ h => absurd h List.not_mem_nil
def cw_cls4 : List (Nat × (Nat × cw_I)) := [(10, 1, mm_L_back), (16, 1, mm_L_isTrue), (20, 1, mm_L_open), (24, 1, mm_L_learn), (28, 1, mm_L_bits), (32, 1, mm_L_give), (36, 0, mm_X2_of), (42, 0, mm_X2_trail), (45, 0, mm_X2_clause), (48, 0, mm_X2_count), (51, 0, mm_X2_wipe), (55, 1, mm_L_low), (60, 0, mm_X2_put), (68, 1, mm_L_anew), (72, 0, mm_X2_read), (75, 2, mm_X2_init), (76, 1, mm_L_cell), (80, 0, mm_X2_set), (83, 1, mm_L_reads), (87, 1, mm_L_step), (91, 0, mm_X2_step), (93, 0, mm_X2_back), (95, 1, mm_L_same)]
theorem cw_c4_10 : cw_okC 4 10 1 mm_L_back := Or.inr (Or.inl ⟨rfl, cw_in2 44 rfl rfl, cw_in2 45 rfl rfl, cw_KL_back⟩)
theorem cw_c4_16 : cw_okC 4 16 1 mm_L_isTrue := Or.inr (Or.inl ⟨rfl, cw_in2 50 rfl rfl, cw_in2 51 rfl rfl, cw_KL_isTrue⟩)
theorem cw_c4_20 : cw_okC 4 20 1 mm_L_open := Or.inr (Or.inl ⟨rfl, cw_in2 53 rfl rfl, cw_in2 54 rfl rfl, cw_KL_open⟩)
theorem cw_c4_24 : cw_okC 4 24 1 mm_L_learn := Or.inr (Or.inl ⟨rfl, cw_in2 56 rfl rfl, cw_in2 57 rfl rfl, cw_KL_learn⟩)
theorem cw_c4_28 : cw_okC 4 28 1 mm_L_bits := Or.inr (Or.inl ⟨rfl, cw_in2 59 rfl rfl, cw_in2 60 rfl rfl, cw_KL_bits⟩)
theorem cw_c4_32 : cw_okC 4 32 1 mm_L_give := Or.inr (Or.inl ⟨rfl, cw_in2 62 rfl rfl, cw_in2 63 rfl rfl, cw_KL_give⟩)
theorem cw_c4_36 : cw_okC 4 36 0 mm_X2_of := Or.inl ⟨rfl, cw_in2 68 rfl rfl, cw_in2 69 rfl rfl, cw_in2 70 rfl rfl, cw_KX2_of⟩
theorem cw_c4_42 : cw_okC 4 42 0 mm_X2_trail := Or.inl ⟨rfl, cw_in2 86 rfl rfl, cw_in2 87 rfl rfl, cw_in2 88 rfl rfl, cw_KX2_trail⟩
theorem cw_c4_45 : cw_okC 4 45 0 mm_X2_clause := Or.inl ⟨rfl, cw_in2 91 rfl rfl, cw_in2 92 rfl rfl, cw_in2 93 rfl rfl, cw_KX2_clause⟩
theorem cw_c4_48 : cw_okC 4 48 0 mm_X2_count := Or.inl ⟨rfl, cw_in2 104 rfl rfl, cw_in2 105 rfl rfl, cw_in2 106 rfl rfl, cw_KX2_count⟩
theorem cw_c4_51 : cw_okC 4 51 0 mm_X2_wipe := Or.inl ⟨rfl, cw_in2 111 rfl rfl, cw_in2 112 rfl rfl, cw_in2 113 rfl rfl, cw_KX2_wipe⟩
theorem cw_c4_55 : cw_okC 4 55 1 mm_L_low := Or.inr (Or.inl ⟨rfl, cw_in2 40 rfl rfl, cw_in2 41 rfl rfl, cw_KL_low⟩)
theorem cw_c4_60 : cw_okC 4 60 0 mm_X2_put := Or.inl ⟨rfl, cw_in2 120 rfl rfl, cw_in2 121 rfl rfl, cw_in2 122 rfl rfl, cw_KX2_put⟩
theorem cw_c4_68 : cw_okC 4 68 1 mm_L_anew := Or.inr (Or.inl ⟨rfl, cw_in2 137 rfl rfl, cw_in2 138 rfl rfl, cw_KL_anew⟩)
theorem cw_c4_72 : cw_okC 4 72 0 mm_X2_read := Or.inl ⟨rfl, cw_in2 140 rfl rfl, cw_in2 141 rfl rfl, cw_in2 142 rfl rfl, cw_KX2_read⟩
theorem cw_c4_75 : cw_okC 4 75 2 mm_X2_init := Or.inr (Or.inr (Or.inl ⟨rfl, cw_in1 9 rfl rfl, cw_in1 10 rfl rfl, rfl, rfl, cw_KX2_init⟩))
theorem cw_c4_76 : cw_okC 4 76 1 mm_L_cell := Or.inr (Or.inl ⟨rfl, cw_in2 35 rfl rfl, cw_in2 36 rfl rfl, cw_KL_cell⟩)
theorem cw_c4_80 : cw_okC 4 80 0 mm_X2_set := Or.inl ⟨rfl, cw_in1 109 rfl rfl, cw_in1 110 rfl rfl, cw_in1 111 rfl rfl, cw_KX2_set⟩
theorem cw_c4_83 : cw_okC 4 83 1 mm_L_reads := Or.inr (Or.inl ⟨rfl, cw_in2 108 rfl rfl, cw_in2 109 rfl rfl, cw_KL_reads⟩)
theorem cw_c4_87 : cw_okC 4 87 1 mm_L_step := Or.inr (Or.inl ⟨rfl, cw_in2 47 rfl rfl, cw_in2 48 rfl rfl, cw_KL_step⟩)
theorem cw_c4_91 : cw_okC 4 91 0 mm_X2_step := Or.inl ⟨rfl, cw_in1 162 rfl rfl, cw_in1 163 rfl rfl, cw_in1 164 rfl rfl, cw_KX2_step⟩
theorem cw_c4_93 : cw_okC 4 93 0 mm_X2_back := Or.inl ⟨rfl, cw_in2 29 rfl rfl, cw_in2 30 rfl rfl, cw_in2 31 rfl rfl, cw_KX2_back⟩
theorem cw_c4_95 : cw_okC 4 95 1 mm_L_same := Or.inr (Or.inl ⟨rfl, cw_in2 65 rfl rfl, cw_in2 66 rfl rfl, cw_KL_same⟩)
theorem cw_clok4 : ∀ q ∈ cw_cls4, cw_okC 4 q.1 q.2.1 q.2.2 := List.forall_mem_cons.mpr ⟨cw_c4_10, List.forall_mem_cons.mpr ⟨cw_c4_16, List.forall_mem_cons.mpr ⟨cw_c4_20, List.forall_mem_cons.mpr ⟨cw_c4_24, List.forall_mem_cons.mpr ⟨cw_c4_28, List.forall_mem_cons.mpr ⟨cw_c4_32, List.forall_mem_cons.mpr ⟨cw_c4_36, List.forall_mem_cons.mpr ⟨cw_c4_42, List.forall_mem_cons.mpr ⟨cw_c4_45, List.forall_mem_cons.mpr ⟨cw_c4_48, List.forall_mem_cons.mpr ⟨cw_c4_51, List.forall_mem_cons.mpr ⟨cw_c4_55, List.forall_mem_cons.mpr ⟨cw_c4_60, List.forall_mem_cons.mpr ⟨cw_c4_68, List.forall_mem_cons.mpr ⟨cw_c4_72, List.forall_mem_cons.mpr ⟨cw_c4_75, List.forall_mem_cons.mpr ⟨cw_c4_76, List.forall_mem_cons.mpr ⟨cw_c4_80, List.forall_mem_cons.mpr ⟨cw_c4_83, List.forall_mem_cons.mpr ⟨cw_c4_87, List.forall_mem_cons.mpr ⟨cw_c4_91, List.forall_mem_cons.mpr ⟨cw_c4_93, List.forall_mem_cons.mpr ⟨cw_c4_95, fun _ h => absurd h List.not_mem_nil⟩⟩⟩⟩⟩⟩⟩⟩⟩⟩⟩⟩⟩⟩⟩⟩⟩⟩⟩⟩⟩⟩⟩
def cw_cls5 : List (Nat × (Nat × cw_I)) := []
theorem cw_clok5 : ∀ q ∈ cw_cls5, cw_okC 5 q.1 q.2.1 q.2.2 := fun _ h => absurd h List.not_mem_nil
def cw_cls : Nat → List (Nat × (Nat × cw_I))
  | 0 => cw_cls0
  | 1 => cw_cls1
  | 2 => cw_cls2
  | 3 => cw_cls3
  | 4 => cw_cls4
  | 5 => cw_cls5
  | _ => []
theorem cw_clok : ∀ c, ∀ q ∈ cw_cls c, cw_okC c q.1 q.2.1 q.2.2
  | 0 => cw_clok0
  | 1 => cw_clok1
  | 2 => cw_clok2
  | 3 => cw_clok3
  | 4 => cw_clok4
  | 5 => cw_clok5
  | _ + 6 => fun _ h => absurd h List.not_mem_nil
def cw_news : Nat → List (Nat × Nat)
  | 2 => [(9, 1), (30, 0)]
  | 4 => [(37, 2)]
  | _ => []
theorem cw_nok : ∀ c, ∀ q ∈ cw_news c, q.2 < 3 ∧ Cond.classLink (cw_own c) q.1 (cw_own q.2) ∈ cw_T ∧ Cond.instantiable (cw_own q.2) (cw_cn q.2) ∈ cw_T ∧ Cond.initialized (cw_own q.2) ∈ cw_T
  | 0 => fun _ h => absurd h List.not_mem_nil
  | 1 => fun _ h => absurd h List.not_mem_nil
  | 2 => List.forall_mem_cons.mpr ⟨⟨by decide, cw_in1 15 rfl rfl, cw_in1 16 rfl rfl, cw_in1 2 rfl rfl⟩, List.forall_mem_cons.mpr ⟨⟨by decide, cw_in1 75 rfl rfl, cw_in1 76 rfl rfl, cw_in1 3 rfl rfl⟩, fun _ h => absurd h List.not_mem_nil⟩⟩
  | 3 => fun _ h => absurd h List.not_mem_nil
  | 4 => List.forall_mem_cons.mpr ⟨⟨by decide, cw_in1 7 rfl rfl, cw_in1 8 rfl rfl, cw_in1 1 rfl rfl⟩, fun _ h => absurd h List.not_mem_nil⟩
  | 5 => fun _ h => absurd h List.not_mem_nil
  | _ + 6 => fun _ h => absurd h List.not_mem_nil
theorem cw_g_oi1 : Cond.instanceMethod objectInit ∈ cw_T := cw_in1 13 rfl rfl
theorem cw_g_sys : Cond.initialized "java/lang/System" ∈ cw_T := cw_in1 4 rfl rfl
theorem cw_g_math : Cond.initialized "java/lang/Math" ∈ cw_T := cw_in1 5 rfl rfl
theorem cw_g_cpn : Cond.native arraycopyName ∈ cw_T := cw_in1 149 rfl rfl
theorem cw_g_cps : Cond.static arraycopyName ∈ cw_T := cw_in1 148 rfl rfl
theorem cw_g_ms : Cond.static Lib.Math.max.name ∈ cw_T := cw_in1 229 rfl rfl
theorem cw_g_ai : Cond.arrayClass .int ∈ cw_T := cw_in1 73 rfl rfl
theorem cw_g_ac : Cond.arrayClass .char ∈ cw_T := cw_in1 89 rfl rfl
theorem cw_g_oi2 : Cond.code objectInit ⟨#[0xb1]⟩ 1 none ∈ cw_T := cw_in1 14 rfl rfl
theorem cw_g_mc : Cond.code Lib.Math.max.name Lib.Math.max.code 2 (some .int) ∈ cw_T := cw_in1 230 rfl rfl
end
section
/-! THE ABSTRACT MACHINE: objects and rows in a list, a reference is a place in it; what it does, the machine does -/
abbrev cw_E : Type := (Nat × vp_A) ⊕ (Nat × List Value)
abbrev cw_H : Type := List cw_E
abbrev cw_LV : Type := List (Nat × Value)
abbrev cw_b (i : cw_I) : ByteArray := i.2.1
abbrev cw_nL (i : cw_I) : Nat := i.2.2.1
abbrev cw_r (i : cw_I) : Option FieldType := i.2.2.2.1
abbrev cw_c (i : cw_I) : Nat := i.2.2.2.2.1
abbrev cw_na (i : cw_I) : Nat := i.2.2.2.2.2.1
abbrev cw_f (i : cw_I) : Nat := i.2.2.2.2.2.2.1
abbrev cw_tb (i : cw_I) : List (Nat × (ClassFile.Instr × Nat)) := i.2.2.2.2.2.2.2
def cw_v (ad : Nat → Nat) (v : Value) : Value := match v with
  | .ref k => .ref (ad k)
  | v => v
def cw_a (ad : Nat → Nat) (x : vp_A) : vp_A := match x with
  | (n, .inr (.inr (.inr (.inr f)))) => (n, .inr (.inr (.inr (.inr (fun j => (f j).map ad)))))
  | y => y
def cw_e (cA : Nat → ClassId) (ad : Nat → Nat) (q : cw_E) : va_E := match q with
  | .inl a => .inl (cA a.1, cw_a ad a.2)
  | .inr o => .inr (o.1, o.2.map (cw_v ad))
def cw_w (cA : Nat → ClassId) (ad : Nat → Nat) (h : cw_H) : va_W := h.mapIdx (fun k q => (ad k, cw_e cA ad q))
def cw_tys (cA : Nat → ClassId) : List (ClassId × FieldType) := [(cA 0, .int), (cA 1, .char), (cA 2, .object RX1)]
def cw_K (D : va_G) (cA : Nat → ClassId) (U : State) : Prop := va_K D vwCl (cw_tys cA) U ∧ va_AO RX1 U ∧ ∀ w ∈ cw_N, va_Nw w U
def cw_L (ad : Nat → Nat) (lv : cw_LV) : cw_LV := lv.map (fun q => (q.1, cw_v ad q.2))
theorem cw_cat (ad : Nat → Nat) (v : Value) : (cw_v ad v).category = v.category := by cases v <;> rfl
theorem cw_cats (ad : Nat → Nat) (l : List Value) : ((l.map (cw_v ad)).map fun v => v.category) = l.map fun v => v.category := by
  induction l with
  | nil => rfl
  | cons a l ih => simp only [List.map_cons, cw_cat, ih]
theorem cw_w_get {cA : Nat → ClassId} {ad : Nat → Nat} {h : cw_H} {k : Nat} {q : cw_E} (e : h[k]? = some q) : (cw_w cA ad h)[k]? = some (ad k, cw_e cA ad q) := by
  simp [cw_w, List.getElem?_mapIdx, e]
theorem cw_w_inv {cA : Nat → ClassId} {ad : Nat → Nat} {h : cw_H} {k : Nat} {x : Nat × va_E} (e : (cw_w cA ad h)[k]? = some x) : ∃ q, h[k]? = some q ∧ x = (ad k, cw_e cA ad q) := by
  simp only [cw_w, List.getElem?_mapIdx, Option.map_eq_some_iff] at e
  obtain ⟨q, h1, h2⟩ := e
  exact ⟨q, h1, h2.symm⟩
theorem cw_w_set (cA : Nat → ClassId) (ad : Nat → Nat) (h : cw_H) (k : Nat) (q : cw_E) : cw_w cA ad (h.set k q) = (cw_w cA ad h).set k (ad k, cw_e cA ad q) := by
  apply List.ext_getElem?
  intro j
  simp only [cw_w, List.getElem?_mapIdx, List.getElem?_set, List.length_mapIdx]
  by_cases hj : k = j
  · subst hj
    by_cases hl : k < h.length <;> simp [hl]
  · simp [hj]
theorem cw_K.warm {D : va_G} {cA : Nat → ClassId} {s U : State} (hW : s.WarmedH U.vm) (h : cw_K D cA s) : cw_K D cA U := by
  refine ⟨va_K.moved hW.alike h.1, va_AO.moved hW.alike h.2.1, fun w hw => ?_⟩
  have h1 := h.2.2 w hw
  have h2 := (List.mem_filter.mp hw).2
  unfold cw_isN at h2
  split at h2
  · exact va_Nw.warmF hW h1
  · exact va_Nw.warmM hW h1
  · cases h2
theorem cw_K.calling {D : va_G} {cA : Nat → ClassId} {U : State} (h : cw_K D cA U) (g : JFrame) (mk : MethodId) (a : Array Value) : cw_K D cA (U.calling g mk a) := by
  refine ⟨va_K.moved (u := U) (U := U.calling g mk a) (Vm.Alike.refl U.vm) h.1, va_AO.moved (u := U) (U := U.calling g mk a) (Vm.Alike.refl U.vm) h.2.1, fun w hw => ?_⟩
  have h1 := h.2.2 w hw
  have h2 := (List.mem_filter.mp hw).2
  unfold cw_isN at h2
  split at h2
  · exact va_Nw.same rfl rfl h1
  · exact va_Nw.same rfl rfl h1
  · cases h2
def cw_put1 (lv : cw_LV) (i : Nat) (v : Value) : cw_LV := (i, v) :: lv.filter (fun q => !(q.1 == i) && !(q.1 + 1 == i && q.2.category == 2))
def cw_put2 (lv : cw_LV) (i : Nat) (v : Value) : cw_LV := (i, v) :: lv.filter (fun q => !(q.1 == i) && (!(q.1 == i + 1) && !(q.1 + 1 == i && q.2.category == 2)))
theorem cw_put1_map (ad : Nat → Nat) (lv : cw_LV) (i : Nat) (v : Value) : (i, cw_v ad v) :: (cw_L ad lv).filter (fun q => !(q.1 == i) && !(q.1 + 1 == i && q.2.category == 2)) = cw_L ad (cw_put1 lv i v) := by
  simp only [cw_L, cw_put1, List.map_cons, List.filter_map]
  congr 2
  apply List.filter_congr
  intro q _
  simp only [Function.comp, cw_cat]
theorem cw_put2_map (ad : Nat → Nat) (lv : cw_LV) (i : Nat) (v : Value) : (i, cw_v ad v) :: (cw_L ad lv).filter (fun q => !(q.1 == i) && (!(q.1 == i + 1) && !(q.1 + 1 == i && q.2.category == 2))) = cw_L ad (cw_put2 lv i v) := by
  simp only [cw_L, cw_put2, List.map_cons, List.filter_map]
  congr 2
  apply List.filter_congr
  intro q _
  simp only [Function.comp, cw_cat]
theorem cw_L_at {ls : Array Slot} {nL : Nat} {ad : Nat → Nat} {lv : cw_LV} {i : Nat} {v : Value} (hl : lv_has ls nL (cw_L ad lv)) (h : cw_look lv i = some v) : ls[i]? = some (.val (cw_v ad v)) :=
  hl.2.2 (i, cw_v ad v) (List.mem_map.mpr ⟨(i, v), cw_look_mem h, rfl⟩)
/-- the instructions that touch neither heap nor other methods: their length, the locals, the stack behind them -/
def cw_pure (c nL : Nat) (i : ClassFile.Instr) (lv : cw_LV) (st : List Value) : Option (Nat × cw_LV × List Value) := match i with
  | .iconst k => some (1, lv, .int (cw_n k) :: st)
  | .bipush k => some (2, lv, .int (cw_n k) :: st)
  | .sipush k => some (3, lv, .int (cw_n k) :: st)
  | .lconst k => some (1, lv, .long (Int64.ofNat k.val) :: st)
  | .ldc idx => match cw_look (cw_csts c) idx with
    | some v => some (2, lv, .int v :: st)
    | none => none
  | .ldc_w idx => match cw_look (cw_csts c) idx with
    | some v => some (3, lv, .int v :: st)
    | none => none
  | .ldc2_w idx => match cw_look (cw_cstL c) idx with
    | some v => some (3, lv, .long v :: st)
    | none => none
  | .iload_n k => match cw_look lv k.val with
    | some (.int x) => some (1, lv, .int x :: st)
    | _ => none
  | .iload k => match cw_look lv k with
    | some (.int x) => some (2, lv, .int x :: st)
    | _ => none
  | .lload_n k => match cw_look lv k.val with
    | some (.long x) => some (1, lv, .long x :: st)
    | _ => none
  | .lload k => match cw_look lv k with
    | some (.long x) => some (2, lv, .long x :: st)
    | _ => none
  | .aload_n k => match cw_look lv k.val with
    | some (.ref x) => some (1, lv, .ref x :: st)
    | _ => none
  | .aload k => match cw_look lv k with
    | some (.ref x) => some (2, lv, .ref x :: st)
    | _ => none
  | .istore_n k => match Nat.blt k.val nL, st with
    | true, .int x :: r => some (1, cw_put1 lv k.val (.int x), r)
    | _, _ => none
  | .istore k => match Nat.blt k nL, st with
    | true, .int x :: r => some (2, cw_put1 lv k (.int x), r)
    | _, _ => none
  | .lstore_n k => match Nat.blt (k.val + 1) nL, st with
    | true, .long x :: r => some (1, cw_put2 lv k.val (.long x), r)
    | _, _ => none
  | .lstore k => match Nat.blt (k + 1) nL, st with
    | true, .long x :: r => some (2, cw_put2 lv k (.long x), r)
    | _, _ => none
  | .astore_n k => match Nat.blt k.val nL, st with
    | true, .ref x :: r => some (1, cw_put1 lv k.val (.ref x), r)
    | true, .null :: r => some (1, cw_put1 lv k.val .null, r)
    | _, _ => none
  | .astore k => match Nat.blt k nL, st with
    | true, .ref x :: r => some (2, cw_put1 lv k (.ref x), r)
    | _, _ => none
  | .iinc k n => match Nat.blt k nL, cw_look lv k with
    | true, some (.int x) => some (3, cw_put1 lv k (.int (x + cw_n n)), st)
    | _, _ => none
  | .iadd => match st with
    | .int y :: .int x :: r => some (1, lv, .int (x + y) :: r)
    | _ => none
  | .isub => match st with
    | .int y :: .int x :: r => some (1, lv, .int (x - y) :: r)
    | _ => none
  | .imul => match st with
    | .int y :: .int x :: r => some (1, lv, .int (x * y) :: r)
    | _ => none
  | .iand => match st with
    | .int y :: .int x :: r => some (1, lv, .int (x &&& y) :: r)
    | _ => none
  | .ior => match st with
    | .int y :: .int x :: r => some (1, lv, .int (x ||| y) :: r)
    | _ => none
  | .ixor => match st with
    | .int y :: .int x :: r => some (1, lv, .int (x ^^^ y) :: r)
    | _ => none
  | .ishl => match st with
    | .int y :: .int x :: r => some (1, lv, .int (x <<< (y &&& 31)) :: r)
    | _ => none
  | .ishr => match st with
    | .int y :: .int x :: r => some (1, lv, .int (x >>> (y &&& 31)) :: r)
    | _ => none
  | .iushr => match st with
    | .int y :: .int x :: r => some (1, lv, .int (x.toUInt32 >>> (y.toUInt32 &&& Int32.toUInt32 31)).toInt32 :: r)
    | _ => none
  | .land => match st with
    | .long y :: .long x :: r => some (1, lv, .long (x &&& y) :: r)
    | _ => none
  | .lor => match st with
    | .long y :: .long x :: r => some (1, lv, .long (x ||| y) :: r)
    | _ => none
  | .lshl => match st with
    | .int y :: .long x :: r => some (1, lv, .long (x <<< (y.toInt64 &&& 63)) :: r)
    | _ => none
  | .lushr => match st with
    | .int y :: .long x :: r => some (1, lv, .long (x.toUInt64 >>> (y.toInt64.toUInt64 &&& Int64.toUInt64 63)).toInt64 :: r)
    | _ => none
  | .lcmp => match st with
    | .long y :: .long x :: r => some (1, lv, .int (lg_cmp x y) :: r)
    | _ => none
  | .i2l => match st with
    | .int x :: r => some (1, lv, .long x.toInt64 :: r)
    | _ => none
  | .l2i => match st with
    | .long x :: r => some (1, lv, .int x.toInt32 :: r)
    | _ => none
  | .i2c => match st with
    | .int x :: r => some (1, lv, .int (x.toUInt32 % 65536).toInt32 :: r)
    | _ => none
  | .dup => match st with
    | v :: r => match Nat.beq v.category 1 with
      | true => some (1, lv, v :: v :: r)
      | false => none
    | _ => none
  | .pop => match st with
    | v :: r => match Nat.beq v.category 1 with
      | true => some (1, lv, r)
      | false => none
    | _ => none
  | .dup_x2 => match st with
    | v :: w :: u :: r => match Nat.beq v.category 1, Nat.beq w.category 1, Nat.beq u.category 1 with
      | true, true, true => some (1, lv, v :: w :: u :: v :: r)
      | _, _, _ => none
    | _ => none
  | .dup2 => match st with
    | v :: w :: r => match Nat.beq v.category 1, Nat.beq w.category 1 with
      | true, true => some (1, lv, v :: w :: v :: w :: r)
      | _, _ => none
    | _ => none
  | _ => none
section CWP
variable {p : Program} {l : Launch} {e : Env} {R : Room} {s : State} {m : MethodId} {args : Array Value} {below : List Frame} {meth : Method} {c : Code} {H : Heap} {locs : List Loc} {cells slots : Nat} {Q : State → Prop}
set_option maxHeartbeats 4000000 in
theorem cw_pure_ok {cc : ByteArray} {cn nL pc n : Nat} {ad : Nat → Nat} {ls : Array Slot} {lv lv' : cw_LV} {st st' : List Value} {i : ClassFile.Instr} (hx : p.tables.exec = Jvm.exec) (hb : c.code = cc) (hts : ∀ w ∈ cw_T, w.before args s = true) (hown : s.vm.findClass (cw_own cn) = some m.cls)
    (hd : decode cc pc = .ok (i, n)) (hlit : cw_lit i = true) (hp : cw_pure cn nL i lv st = some (n, lv', st')) (hl : lv_has ls nL (cw_L ad lv))
    (kk : ∀ ls' : Array Slot, lv_has ls' nL (cw_L ad lv') → W p l e R s m args below meth c H locs cells slots Q (F0 m (pc + n) ls' (st'.map (cw_v ad)))) : W p l e R s m args below meth c H locs cells slots Q (F0 m pc ls (st.map (cw_v ad))) := by
  unfold cw_pure at hp
  split at hp
  · cases hp; exact lv_iconst hx hb hd (by simpa [cw_lit] using hlit) (kk _ hl)
  · cases hp; exact lv_bipush hx hb hd (by simpa [cw_lit] using hlit) (kk _ hl)
  · cases hp; exact lv_sipush hx hb hd (by simpa [cw_lit] using hlit) (kk _ hl)
  · cases hp; exact lv_lconst hx hb hd rfl (kk _ hl)
  · split at hp
    · rename_i e1; cases hp; exact lv_ldc hx hb hown (hts _ (cw_cok _ _ (cw_look_mem e1))) hd (kk _ hl)
    · cases hp
  · split at hp
    · rename_i e1; cases hp; exact lv_ldcw hx hb hown (hts _ (cw_cok _ _ (cw_look_mem e1))) hd (kk _ hl)
    · cases hp
  · split at hp
    · rename_i e1; cases hp; exact lv_ldc2 hx hb hown (hts _ (cw_cokL _ _ (cw_look_mem e1))) hd (kk _ hl)
    · cases hp
  · split at hp
    · rename_i e1; cases hp; exact lv_iload_n hx hb hd rfl (cw_L_at hl e1) (kk _ hl)
    · cases hp
  · split at hp
    · rename_i e1; cases hp; exact lv_iload hx hb hd (cw_L_at hl e1) (kk _ hl)
    · cases hp
  · split at hp
    · rename_i e1; cases hp; exact lv_lload_n hx hb hd rfl (cw_L_at hl e1) (kk _ hl)
    · cases hp
  · split at hp
    · rename_i e1; cases hp; exact lv_lload hx hb hd (cw_L_at hl e1) (kk _ hl)
    · cases hp
  · split at hp
    · rename_i e1; cases hp; exact lv_aload_n hx hb hd rfl (cw_L_at hl e1) (kk _ hl)
    · cases hp
  · split at hp
    · rename_i e1; cases hp; exact lv_aload hx hb hd (cw_L_at hl e1) (kk _ hl)
    · cases hp
  · split at hp
    · rename_i e1; cases hp; exact lv_istore_n hx hb hd rfl hl (Nat.le_of_ble_eq_true e1) (cw_put1_map ad lv _ (.int _)) kk
    · cases hp
  · split at hp
    · rename_i e1; cases hp; exact lv_istore hx hb hd hl (Nat.le_of_ble_eq_true e1) (cw_put1_map ad lv _ (.int _)) kk
    · cases hp
  · split at hp
    · rename_i e1; cases hp; exact lv_lstore_n hx hb hd rfl hl (Nat.le_of_ble_eq_true e1) (cw_put2_map ad lv _ (.long _)) kk
    · cases hp
  · split at hp
    · rename_i e1; cases hp; exact lv_lstore hx hb hd hl (Nat.le_of_ble_eq_true e1) (cw_put2_map ad lv _ (.long _)) kk
    · cases hp
  · split at hp
    · rename_i e1; cases hp; exact lv_astore_n hx hb hd rfl hl (Nat.le_of_ble_eq_true e1) (cw_put1_map ad lv _ (.ref _)) kk
    · rename_i e1; cases hp; exact lv_astore_nN hx hb hd rfl hl (Nat.le_of_ble_eq_true e1) (cw_put1_map ad lv _ .null) kk
    · cases hp
  · split at hp
    · rename_i e1; cases hp; exact lv_astore hx hb hd hl (Nat.le_of_ble_eq_true e1) (cw_put1_map ad lv _ (.ref _)) kk
    · cases hp
  · split at hp
    · rename_i k' n' _ _ x' e1 e2
      cases hp
      have hm : (k', Value.int x') ∈ cw_L ad lv := List.mem_map.mpr ⟨(k', .int x'), cw_look_mem e2, rfl⟩
      obtain ⟨j, hj⟩ := List.mem_iff_getElem?.mp hm
      exact lv_iinc hx hb hd hl hj (by rw [show Int32.ofInt n' = cw_n n' by simpa [cw_lit] using hlit]) (Nat.le_of_ble_eq_true e1) (cw_put1_map ad lv _ (.int _)) kk
    · cases hp
  · split at hp
    · cases hp; exact lv_iadd hx hb hd (kk _ hl)
    · cases hp
  · split at hp
    · cases hp; exact lv_isub hx hb hd (kk _ hl)
    · cases hp
  · split at hp
    · cases hp; exact lv_imul hx hb hd (kk _ hl)
    · cases hp
  · split at hp
    · cases hp; exact lv_iand hx hb hd (kk _ hl)
    · cases hp
  · split at hp
    · cases hp; exact lv_ior hx hb hd (kk _ hl)
    · cases hp
  · split at hp
    · cases hp; exact lv_ixor hx hb hd (kk _ hl)
    · cases hp
  · split at hp
    · cases hp; exact lv_ishl hx hb hd (kk _ hl)
    · cases hp
  · split at hp
    · cases hp; exact lv_ishr hx hb hd (kk _ hl)
    · cases hp
  · split at hp
    · cases hp; exact lv_iushr hx hb hd rfl (kk _ hl)
    · cases hp
  · split at hp
    · cases hp; exact lv_land hx hb hd (kk _ hl)
    · cases hp
  · split at hp
    · cases hp; exact lv_lor hx hb hd (kk _ hl)
    · cases hp
  · split at hp
    · cases hp; exact lv_lshl hx hb hd rfl (kk _ hl)
    · cases hp
  · split at hp
    · cases hp; exact lv_lushr hx hb hd rfl (kk _ hl)
    · cases hp
  · split at hp
    · cases hp; exact W.lcmp hx hb hd (kk _ hl)
    · cases hp
  · split at hp
    · cases hp; exact lv_i2l hx hb hd rfl (kk _ hl)
    · cases hp
  · split at hp
    · cases hp; exact lv_l2i hx hb hd rfl (kk _ hl)
    · cases hp
  · split at hp
    · cases hp; exact lv_i2c hx hb hd rfl (kk _ hl)
    · cases hp
  · split at hp
    · split at hp
      · rename_i e1; cases hp; exact lv_dup hx hb hd (by rw [cw_cat]; exact Nat.eq_of_beq_eq_true e1) (kk _ hl)
      · cases hp
    · cases hp
  · split at hp
    · split at hp
      · rename_i e1; cases hp; exact lv_pop hx hb hd (by rw [cw_cat]; exact Nat.eq_of_beq_eq_true e1) (kk _ hl)
      · cases hp
    · cases hp
  · split at hp
    · split at hp
      · rename_i e1 e2 e3; cases hp; exact lv_dup_x2 hx hb hd (by rw [cw_cat]; exact Nat.eq_of_beq_eq_true e1) (by rw [cw_cat]; exact Nat.eq_of_beq_eq_true e2) (by rw [cw_cat]; exact Nat.eq_of_beq_eq_true e3) (kk _ hl)
      · cases hp
    · cases hp
  · split at hp
    · split at hp
      · rename_i e1 e2; cases hp; exact lv_dup2_11 hx hb hd (by rw [cw_cat]; exact Nat.eq_of_beq_eq_true e1) (by rw [cw_cat]; exact Nat.eq_of_beq_eq_true e2) (kk _ hl)
      · cases hp
    · cases hp
  · cases hp
end CWP
end
section
/-! contracts over the abstract heap, and the steps that touch heap, branches and calls -/
def cw_Q (D : va_G) (cA : Nat → ClassId) (ad : Nat → Nat) (h : cw_H) (r : Option Value) (h' : cw_H) (A : Nat → Prop) : Array Value → State → Outcome → State → Prop := fun _ st oc t => (∃ ad' : Nat → Nat, (∀ k, k < h.length ∨ h'.length ≤ k → ad' k = ad k) ∧ oc = .returned (r.map (cw_v ad')) ∧ va_P D vwCl (cw_w cA ad' h') t.heap ∧ va_D A (cw_w cA ad' h')) ∧ va_F A st t
/-- the contract of one call: from the arguments av and the heap h the method answers r, and the heap is h' -/
def cw_M (l : Launch) (i : cw_I) (mc ms : Nat) (av : List Value) (h : cw_H) (r : Option Value) (h' : cw_H) : Prop :=
  ∀ (D : va_G) (cA : Nat → ClassId) (ad : Nat → Nat) (sz : Nat), Met l i.1 (Cond.code i.1 (cw_b i) (cw_nL i) (cw_r i) :: cw_T) ({ frames := cw_f i, cells := mc, slots := ms, locals := 35 * cw_f i }) (va_Pc (av.map (cw_v ad)) (fun U => U.heap.size = sz ∧ va_P D vwCl (cw_w cA ad h) U.heap ∧ cw_K D cA U ∧ va_D (fun _ => True) (cw_w cA ad h))) (cw_Q D cA ad h r h' (va_A (cw_w cA ad h) sz)) mc ms (va_A (cw_w cA ad h) sz)
def cw_tgt (pc : Nat) (off : Int) (K : Nat → Prop) : Prop := match (pc : Int) + off with
  | .ofNat t => K t
  | .negSucc _ => False
theorem cw_tgt_of {pc : Nat} {off : Int} {K : Nat → Prop} (h : cw_tgt pc off K) : ∃ t : Nat, (pc : Int) + off = (t : Int) ∧ K t := by
  unfold cw_tgt at h
  split at h
  · rename_i t e; exact ⟨t, e, h⟩
  · exact h.elim
def cw_if (cd : ClassFile.Cond) (x y : Int32) : Prop := match cd with
  | .eq => x = y
  | .ne => ¬ x = y
  | .lt => x < y
  | .ge => y ≤ x
  | .gt => y < x
  | .le => x ≤ y
/-- may a value be put into a field of the class ci, slot sl? -/
def cw_fits (ci sl : Nat) (v : Value) : Bool := match cw_ty ci sl, v with
  | .int, .int _ => true
  | .object _, .ref _ => true
  | .array _, .ref _ => true
  | _, _ => false
theorem cw_fits_ok {ci sl : Nat} {v : Value} (h : cw_fits ci sl v = true) (ad : Nat → Nat) : narrow (cw_ty ci sl) (cw_v ad v) = cw_v ad v ∧ fits (cw_ty ci sl) (cw_v ad v) = true := by
  unfold cw_fits at h
  split at h
  · rename_i e; rw [e]; exact ⟨vp_nar_int _, rfl⟩
  · rename_i e; rw [e]; exact ⟨rfl, rfl⟩
  · rename_i e; rw [e]; exact ⟨rfl, rfl⟩
  · cases h
/-- one step; K: it goes on; Kb behind a branch, Kj behind a row's place or a switch, Kc behind a call -/
def cw_stp (l : Launch) (c fr : Nat) (nL : Nat) (ini : Bool) (i : ClassFile.Instr) (n : Nat) (d : Bool) (j : Nat) (cr : Option Value × cw_H) (pc : Nat) (lv : cw_LV) (st : List Value) (h : cw_H) (K Kb Kj Kc : Nat → cw_LV → List Value → cw_H → Prop) : Prop := match i with
  | .getfield idx => match n, st with
    | 3, .ref a :: r => match cw_look (cw_flds c) idx, h[a]? with
      | some (_, ci, sl), some (.inr (ci', fs)) => match Nat.beq ci' ci, fs[sl]? with
        | true, some v => K (pc + 3) lv (v :: r) h
        | _, _ => False
      | _, _ => False
    | _, _ => False
  | .putfield idx => match n, st with
    | 3, v :: .ref a :: r => match cw_look (cw_flds c) idx, h[a]? with
      | some (nest, ci, sl), some (.inr (ci', fs)) => match Nat.beq ci' ci, cw_fits ci sl v, Nat.blt sl fs.length, (cw_FT ci sl).2.2.2, ini, Nat.beq nest 0, Nat.beq c ci with
        | true, true, true, false, _, _, _ => K (pc + 3) lv r (h.set a (.inr (ci, fs.set sl v)))
        | true, true, true, true, true, true, true => K (pc + 3) lv r (h.set a (.inr (ci, fs.set sl v)))
        | _, _, _, _, _, _, _ => False
      | _, _ => False
    | _, _ => False
  | .arraylength => match n, st with
    | 1, .ref a :: r => match h[a]? with
      | some (.inl (k, x)) => match Nat.blt k 3 with
        | true => K (pc + 1) lv (.int (nI x.1) :: r) h
        | false => False
      | _ => False
    | _, _ => False
  | .iaload => match n, st with
    | 1, .int x :: .ref a :: r => match h[a]? with
      | some (.inl (0, sz, .inl f)) => match Nat.ble sz 65536 with
        | true => x = nI j ∧ j < sz ∧ Kj (pc + 1) lv (.int (f j) :: r) h
        | false => False
      | _ => False
    | _, _ => False
  | .caload => match n, st with
    | 1, .int x :: .ref a :: r => match h[a]? with
      | some (.inl (1, sz, .inl f)) => match Nat.ble sz 65536 with
        | true => x = nI j ∧ j < sz ∧ Kj (pc + 1) lv (.int (f j) :: r) h
        | false => False
      | _ => False
    | _, _ => False
  | .aaload => match n, st with
    | 1, .int x :: .ref a :: r => match h[a]? with
      | some (.inl (2, sz, .inr (.inr (.inr (.inr f))))) => match Nat.ble sz 65536 with
        | true => x = nI j ∧ j < sz ∧ Kj (pc + 1) lv (va_rf (f j) :: r) h
        | false => False
      | _ => False
    | _, _ => False
  | .iastore => match n, st with
    | 1, .int y :: .int x :: .ref a :: r => match h[a]? with
      | some (.inl (0, sz, .inl f)) => match Nat.ble sz 65536 with
        | true => x = nI j ∧ j < sz ∧ Kj (pc + 1) lv r (h.set a (.inl (0, sz, .inl (upd f j y))))
        | false => False
      | _ => False
    | _, _ => False
  | .castore => match n, st with
    | 1, .int y :: .int x :: .ref a :: r => match h[a]? with
      | some (.inl (1, sz, .inl f)) => match Nat.ble sz 65536 with
        | true => x = nI j ∧ j < sz ∧ Kj (pc + 1) lv r (h.set a (.inl (1, sz, .inl (upd f j (vp_nar .char y)))))
        | false => False
      | _ => False
    | _, _ => False
  | .aastore => match n, st with
    | 1, .ref q :: .int x :: .ref a :: r => match h[a]?, h[q]? with
      | some (.inl (2, sz, .inr (.inr (.inr (.inr f))))), some (.inr (1, _)) => match Nat.ble sz 65536 with
        | true => x = nI j ∧ j < sz ∧ Kj (pc + 1) lv r (h.set a (.inl (2, sz, .inr (.inr (.inr (.inr (va_up f j (some q))))))))
        | false => False
      | _, _ => False
    | _, _ => False
  | .irem => match n, st with
    | 1, .int y :: .int x :: r => ¬ y = 0 ∧ K (pc + 1) lv (.int (x - x / y * y) :: r) h
    | _, _ => False
  | .ifCond cd off => match n, st with
    | 3, .int x :: r => match d with
      | true => cw_if cd x 0 ∧ cw_tgt pc off (fun t => Kb t lv r h)
      | false => ¬ cw_if cd x 0 ∧ cw_tgt pc off (fun _ => Kb (pc + 3) lv r h)
    | _, _ => False
  | .if_icmp cd off => match n, st with
    | 3, .int y :: .int x :: r => match d with
      | true => cw_if cd x y ∧ cw_tgt pc off (fun t => Kb t lv r h)
      | false => ¬ cw_if cd x y ∧ cw_tgt pc off (fun _ => Kb (pc + 3) lv r h)
    | _, _ => False
  | .goto off => match n with
    | 3 => cw_tgt pc off (fun t => K t lv st h)
    | _ => False
  | .ifnonnull off => match n, st with
    | 3, .ref _ :: r => cw_tgt pc off (fun t => K t lv r h)
    | 3, .null :: r => K (pc + 3) lv r h
    | _, _ => False
  | .tableswitch dflt lo hi offs => match st with
    | .int x :: r => match offs[j]? with
      | some off => x.toInt = lo + (j : Int) ∧ ¬ hi < x.toInt ∧ cw_tgt pc off (fun t => Kj t lv r h)
      | none => (x.toInt < lo ∨ hi < x.toInt) ∧ cw_tgt pc dflt (fun t => Kj t lv r h)
    | _ => False
  | .lookupswitch dflt ps => match st with
    | .int x :: r => (ps.toList.zip (ps.toList.drop 1)).all (fun (a, next) => a.1 < next.1) = true ∧ match ps[j]? with
      | some q => Op.lookupswitch.offset ps.toList dflt x.toInt = q.2 ∧ cw_tgt pc q.2 (fun t => Kj t lv r h)
      | none => Op.lookupswitch.offset ps.toList dflt x.toInt = dflt ∧ cw_tgt pc dflt (fun t => Kj t lv r h)
    | _ => False
  | .invokestatic idx => match n, cw_look (cw_cls c) idx with
    | 3, some (8, _) => match st with
      | .int y :: .int x :: r => match Nat.ble ((r.map fun v => v.category).sum) 8 with
        | true => K (pc + 3) lv (.int (if x < y then y else x) :: r) h
        | false => False
      | _ => False
    | 3, some (7, _) => match st with
      | .int z :: .int y :: .ref b :: .int x :: .ref a :: r => match h[a]?, h[b]?, Nat.ble ((r.map fun v => v.category).sum) 8 with
        | some (.inl (0, n0, .inl f)), some (.inl (0, n1, .inl g)), true => x = nI 0 ∧ y = nI 0 ∧ z = nI j ∧ j ≤ n0 ∧ j ≤ n1 ∧ j < 65536 ∧ Kj (pc + 3) lv r (h.set b (.inl (0, n1, .inl (va_cpy f g 0 0 j))))
        | _, _, _ => False
      | _ => False
    | 3, some (kd, ic) => match Nat.beq kd 1 || Nat.beq kd 4, Nat.ble (cw_na ic) st.length, Nat.blt (cw_f ic) fr, Nat.ble (((st.drop (cw_na ic)).map fun v => v.category).sum) 8 with
      | true, true, true, true => cw_M l ic 0 0 (st.take (cw_na ic)).reverse h cr.1 cr.2 ∧ cr.2.length ≤ h.length ∧ Kc (pc + 3) lv (cr.1.toList ++ st.drop (cw_na ic)) cr.2
      | _, _, _, _ => False
    | _, _ => False
  | .invokevirtual idx => match n, cw_look (cw_cls c) idx with
    | 3, some (kd, ic) => match st.drop (cw_na ic) with
      | .ref a :: r => match h[a]? with
        | some (.inr (ci, _)) => match Nat.beq kd 0 || Nat.beq kd 3, Nat.ble (cw_na ic) st.length, Nat.blt (cw_f ic) fr, Nat.ble ((r.map fun v => v.category).sum) 8, Nat.beq ci (cw_c ic), Nat.blt ci 3 with
          | true, true, true, true, true, true => cw_M l ic 0 0 (.ref a :: (st.take (cw_na ic)).reverse) h cr.1 cr.2 ∧ cr.2.length ≤ h.length ∧ Kc (pc + 3) lv (cr.1.toList ++ r) cr.2
          | _, _, _, _, _, _ => False
        | _ => False
      | _ => False
    | _, _ => False
  | .invokespecial idx => match n, cw_look (cw_cls c) idx, st with
    | 3, some (6, _), .ref _ :: r => match Nat.ble ((r.map fun v => v.category).sum) 8 with
      | true => K (pc + 3) lv r h
      | false => False
    | _, _, _ => False
  | i => match cw_pure c nL i lv st with
    | some (n', lv', st') => match Nat.beq n' n with
      | true => K (pc + n) lv' st' h
      | false => False
    | none => False
end
section
/-! what the abstract machine does, the machine does -/
def cw_X (i : cw_I) (p : Program) (R : Room) (s : State) (m : MethodId) (args : Array Value) (meth : Method) (c : Code) (D : va_G) (cA : Nat → ClassId) : Prop :=
  p.tables.exec = Jvm.exec ∧ c.code = cw_b i ∧ c.maxLocals = cw_nL i ∧ s.vm.findClass (cw_own (cw_c i)) = some m.cls ∧ (∀ w ∈ cw_T, w.before args s = true) ∧ cw_K D cA s ∧ (1 ≤ cw_f i ∧ cw_f i ≤ R.frames) ∧ 35 * cw_f i ≤ R.locals ∧ (i.1.name = "<init>" → meth.name = "<init>") ∧ meth.sig.returnType = cw_r i ∧ meth.locks = false
def cw_G (p : Program) (l : Launch) (e : Env) (R : Room) (s : State) (m : MethodId) (args : Array Value) (below : List Frame) (meth : Method) (c : Code) (D : va_G) (cA : Nat → ClassId) (A : Nat → Prop) (keep : Nat → Prop) (ad0 : Nat → Nat) (Q : State → Prop) (nL kc ks pc : Nat) (lv : cw_LV) (st : List Value) (h : cw_H) : Prop :=
  ∀ (ad : Nat → Nat) (H : Heap) (locs : List Loc) (ls : Array Slot), (∀ k, keep k → ad k = ad0 k) → va_P D vwCl (cw_w cA ad h) H → va_D A (cw_w cA ad h) → va_S A s.heap H locs → lv_has ls nL (cw_L ad lv) → W p l e R s m args below meth c H locs kc ks Q (F0 m pc ls (st.map (cw_v ad)))
theorem cw_good2 {i : cw_I} (h : cw_okI i) : GoodIn cw_T (Cond.code i.1 (cw_b i) (cw_nL i) (cw_r i) :: cw_T) := fun w hw => (List.mem_cons.mp hw).elim (fun q => q ▸ cw_TT _ h.2.2.1) (cw_TT w)
section CWS
variable {p : Program} {l : Launch} {e : Env} {R : Room} {s : State} {m : MethodId} {args : Array Value} {below : List Frame} {meth : Method} {c : Code} {D : va_G} {cA : Nat → ClassId} {A : Nat → Prop} {keep : Nat → Prop} {ad0 : Nat → Nat} {Q : State → Prop}
theorem cw_callG {H : Heap} {locs : List Loc} {cells slots mc ms pc : Nat} {ls : Array Slot} {st0 rest : List Value} {ad : Nat → Nat} {h h' : cw_H} {r : Option Value} {A0 A1 : Nat → Prop} {a : Array Value} {free : Addr → Prop}
    (hr : va_Run p l e R s m args below meth c H locs cells slots mc ms (F0 m pc ls st0) rest (cw_Q D cA ad h r h' A1 a) free) (hS : va_S A0 s.heap H locs) (hA : ∀ q, q < H.size → A1 q → A0 q) (hf : ∀ q, free q → A0 q)
    (kk : ∀ (ad' : Nat → Nat) (H1 : Heap) (locs1 : List Loc), (∀ k, k < h.length ∨ h'.length ≤ k → ad' k = ad k) → va_P D vwCl (cw_w cA ad' h') H1 → va_D A1 (cw_w cA ad' h') → H.size ≤ H1.size → (∀ q : Nat, q < H.size → ¬ A1 q → H1[q]? = H[q]?) → va_S A0 s.heap H1 locs1 → W p l e R s m args below meth c H1 locs1 (cells + mc) (slots + ms) Q (F0 m (pc + 3) ls ((r.map (cw_v ad')).toList ++ rest))) : W p l e R s m args below meth c H locs cells slots Q (F0 m pc ls st0) := by
  intro T hT X
  obtain ⟨v, st₀, t, T', L, h0, X', hL, e1, e2, ⟨⟨ad', hv, hq, hp, hb⟩, hz, hk⟩, st⟩ := hr T hT X
  cases hq
  rw [h0] at hz hk
  obtain ⟨t2, a1, b1⟩ := kk ad' T'.heap (locs ++ L) hv (by rw [e1]; exact hp) hb (by rw [e1]; exact hz) (fun q h1 h2 => by rw [e1]; exact hk q h1 h2)
    ⟨Nat.le_trans hS.1 (by rw [e1]; exact hz), fun q h1 h2 => by rw [e1, hk q (Nat.lt_of_lt_of_le h1 hS.1) (fun z => h2 (hA q (Nat.lt_of_lt_of_le h1 hS.1) z))]; exact hS.2.1 q h1 h2, fun q hq => by
      rcases List.mem_append.mp hq with h | h
      · exact hS.2.2 q h
      · exact hf _ (hL q h)⟩ T' rfl X'
  exact ⟨t2, st t2 a1, b1⟩
theorem cw_pre {i : cw_I} {ad : Nat → Nat} {h : cw_H} {H : Heap} {av : List Value} (hK : cw_K D cA s) (hP : va_P D vwCl (cw_w cA ad h) H) (hD : va_D A (cw_w cA ad h)) :
    FrameBlind (va_Pc (av.map (cw_v ad)) (fun U => U.heap.size = H.size ∧ va_P D vwCl (cw_w cA ad h) U.heap ∧ cw_K D cA U ∧ va_D (fun _ => True) (cw_w cA ad h))) ∧ ∀ U : State, U.heap = H → s.WarmedH U.vm → va_Pc (av.map (cw_v ad)) (fun U => U.heap.size = H.size ∧ va_P D vwCl (cw_w cA ad h) U.heap ∧ cw_K D cA U ∧ va_D (fun _ => True) (cw_w cA ad h)) (av.map (cw_v ad)).toArray U :=
  ⟨fun a U g mk q => ⟨q.1, q.2.1, q.2.2.1, q.2.2.2.1.calling g mk a, q.2.2.2.2⟩, fun U hU hW => ⟨rfl, by rw [hU], by rw [hU]; exact hP, hK.warm hW, hD.weaken (fun _ _ _ _ => trivial)⟩⟩
theorem cw_A1 {ad : Nat → Nat} {h : cw_H} {H : Heap} {locs : List Loc} (hD : va_D A (cw_w cA ad h)) (hS : va_S A s.heap H locs) (hAs : ∀ q, s.heap.size ≤ q → A q) : ∀ q, va_A (cw_w cA ad h) H.size q → A q := by
  intro q hq
  rcases hq with ⟨k, x, hx⟩ | hq
  · exact hD.2 k _ hx
  · exact hAs q (Nat.le_trans hS.1 hq)
/-- a call on the heap as it is, that makes nothing: of a static method -/
theorem cw_callS {ii ic : cw_I} {idx kd pc : Nat} {ad : Nat → Nat} {h h' : cw_H} {r : Option Value} {st : List Value} {H : Heap} {locs : List Loc} {kc ks : Nat} {ls : Array Slot}
    (hX : cw_X ii p R s m args meth c D cA) (hk : kc ≤ R.cells ∧ ks ≤ R.slots) (hAs : ∀ q, s.heap.size ≤ q → A q) (hd : decode (cw_b ii) pc = .ok (.invokestatic idx, 3)) (hlk : cw_okC (cw_c ii) idx kd ic) (hkd : kd = 1 ∨ kd = 4) (hn : cw_na ic ≤ st.length) (hf : cw_f ic < cw_f ii) (hW : ((st.drop (cw_na ic)).map fun v => v.category).sum ≤ 8) (hlen : h'.length ≤ h.length)
    (hM : cw_M l ic 0 0 (st.take (cw_na ic)).reverse h r h') (hP : va_P D vwCl (cw_w cA ad h) H) (hD : va_D A (cw_w cA ad h)) (hS : va_S A s.heap H locs) (hls : ls.size = cw_nL ii)
    (kk : ∀ (H1 : Heap) (locs1 : List Loc), va_P D vwCl (cw_w cA ad h') H1 → va_D A (cw_w cA ad h') → va_S A s.heap H1 locs1 → W p l e R s m args below meth c H1 locs1 kc ks Q (F0 m (pc + 3) ls ((r.toList ++ st.drop (cw_na ic)).map (cw_v ad)))) : W p l e R s m args below meth c H locs kc ks Q (F0 m pc ls (st.map (cw_v ad))) := by
  obtain ⟨hx, hb, hml, hown, hts, hK, hfr, hlo, -⟩ := hX
  have hA1 := cw_A1 hD hS hAs
  have hkk : ∀ (ad' : Nat → Nat) (H1 : Heap) (locs1 : List Loc), (∀ k, k < h.length ∨ h'.length ≤ k → ad' k = ad k) → va_P D vwCl (cw_w cA ad' h') H1 → va_D (va_A (cw_w cA ad h) H.size) (cw_w cA ad' h') → H.size ≤ H1.size → (∀ q : Nat, q < H.size → ¬ va_A (cw_w cA ad h) H.size q → H1[q]? = H[q]?) → va_S A s.heap H1 locs1 → W p l e R s m args below meth c H1 locs1 (kc + 0) (ks + 0) Q (F0 m (pc + 3) ls ((r.map (cw_v ad')).toList ++ (st.drop (cw_na ic)).map (cw_v ad))) := by
    intro ad' H1 locs1 e1 hP1 hD1 _ _ hS1
    have e2 : ad' = ad := funext fun k => e1 k (by omega)
    subst e2
    have := kk H1 locs1 hP1 (hD1.weaken (fun _ _ _ h => hA1 _ h)) hS1
    rw [List.map_append] at this
    cases r <;> exact this
  have hst : st.map (cw_v ad) = (((st.take (cw_na ic)).reverse.map (cw_v ad))).reverse ++ (st.drop (cw_na ic)).map (cw_v ad) := by
    rw [List.map_reverse, List.reverse_reverse, ← List.map_append, List.take_append_drop]
  have hWW : 2 * (F0 m pc ls (st.map (cw_v ad))).monitorRoom + (((st.drop (cw_na ic)).map (cw_v ad)).map fun v => v.category).sum ≤ 8 := lv_room (by rw [cw_cats]; exact hW)
  have hln : ((st.take (cw_na ic)).reverse.map (cw_v ad)).length = cw_na ic := by simp; omega
  have hR : cw_f ic + 1 ≤ R.frames ∧ 8 + (cw_nL ic + 11) + 35 * cw_f ic ≤ R.locals ∨ ¬ cw_nL ic ≤ 16 := by
    by_cases h15 : cw_nL ic ≤ 16
    · left; constructor <;> omega
    · right; exact h15
  rcases hkd with rfl | rfl
  · have hlk' : Cond.methodLink (cw_own (cw_c ii)) idx ic.1 ∈ cw_T ∧ Cond.static ic.1 ∈ cw_T ∧ cw_okI ic := by
      rcases hlk with ⟨h, _⟩ | ⟨_, h⟩ | ⟨h, _⟩ | ⟨h, _⟩ | ⟨h, _⟩ | ⟨h, _⟩ | ⟨h, _⟩ | ⟨h, _⟩ | ⟨h, _⟩ <;> first | exact h | exact absurd h (by decide)
    obtain ⟨h1, h2, h3⟩ := hlk'
    have h3' := h3
    obtain ⟨-, -, k3, k4, k5, k6, k7, k8, k9, k10⟩ := h3
    have hR2 := hR.resolve_right (fun q => q k10)
    refine cw_callG (va_runS (As := (st.take (cw_na ic)).reverse.map (cw_v ad)) ⟨hx, hb, hml, hown, hts⟩ (hM D cA ad H.size) (n := cw_na ic) ⟨⟨rfl, rfl, hR2.1, hR2.2, pay_in hts (cw_good2 h3'), List.mem_cons_self, hts _ k3, hts _ k4, ⟨k7, k8⟩, fun sig hsig => ?_, hts _ h1⟩, hts _ h2⟩ (cw_pre (i := ic) hK hP hD) rfl hln hls hst hWW hd ⟨hk.1, hk.2⟩) hS (fun q _ h => hA1 q h) hA1 hkk
    rw [hsig] at k9; exact (Option.some.inj k9).symm
  · have hlk' : (∃ host, Cond.methodLinkNest (cw_own (cw_c ii)) idx ic.1 host ∈ cw_N) ∧ Cond.static ic.1 ∈ cw_T ∧ cw_okI ic := by
      rcases hlk with ⟨h, _⟩ | ⟨h, _⟩ | ⟨h, _⟩ | ⟨h, _⟩ | ⟨_, h⟩ | ⟨h, _⟩ | ⟨h, _⟩ | ⟨h, _⟩ | ⟨h, _⟩ <;> first | exact h | exact absurd h (by decide)
    obtain ⟨⟨host, h1⟩, h2, h3⟩ := hlk'
    have h3' := h3
    obtain ⟨-, -, k3, k4, k5, k6, k7, k8, k9, k10⟩ := h3
    have hR2 := hR.resolve_right (fun q => q k10)
    refine cw_callG (va_runSN (As := (st.take (cw_na ic)).reverse.map (cw_v ad)) ⟨hx, hb, hml, hown, hts⟩ (hM D cA ad H.size) (n := cw_na ic) (host := host) ⟨⟨⟨rfl, rfl, hR2.1, hR2.2, pay_in hts (cw_good2 h3'), List.mem_cons_self⟩, hts _ k3, hts _ k4, ⟨k7, k8⟩, fun sig hsig => ?_, va_Nw.use rfl (hK.2.2 _ h1)⟩, hts _ h2, trivial⟩ (cw_pre (i := ic) hK hP hD) rfl hln hls hst hWW hd ⟨hk.1, hk.2⟩) hS (fun q _ h => hA1 q h) hA1 hkk
    rw [hsig] at k9; exact (Option.some.inj k9).symm
/-- the same of an instance method -/
theorem cw_callV {ii ic : cw_I} {idx kd pc a ci : Nat} {fs : List Value} {ad : Nat → Nat} {h h' : cw_H} {r : Option Value} {st rs : List Value} {H : Heap} {locs : List Loc} {kc ks : Nat} {ls : Array Slot}
    (hX : cw_X ii p R s m args meth c D cA) (hk : kc ≤ R.cells ∧ ks ≤ R.slots) (hAs : ∀ q, s.heap.size ≤ q → A q) (hd : decode (cw_b ii) pc = .ok (.invokevirtual idx, 3)) (hlk : cw_okC (cw_c ii) idx kd ic) (hkd : kd = 0 ∨ kd = 3) (hn : cw_na ic ≤ st.length) (hf : cw_f ic < cw_f ii) (hdr : st.drop (cw_na ic) = .ref a :: rs) (hW : (rs.map fun v => v.category).sum ≤ 8) (hlen : h'.length ≤ h.length) (hcell : h[a]? = some (.inr (ci, fs))) (hci : ci = cw_c ic) (hci4 : ci < 3)
    (hM : cw_M l ic 0 0 (.ref a :: (st.take (cw_na ic)).reverse) h r h') (hP : va_P D vwCl (cw_w cA ad h) H) (hD : va_D A (cw_w cA ad h)) (hS : va_S A s.heap H locs) (hls : ls.size = cw_nL ii)
    (kk : ∀ (H1 : Heap) (locs1 : List Loc), va_P D vwCl (cw_w cA ad h') H1 → va_D A (cw_w cA ad h') → va_S A s.heap H1 locs1 → W p l e R s m args below meth c H1 locs1 kc ks Q (F0 m (pc + 3) ls ((r.toList ++ rs).map (cw_v ad)))) : W p l e R s m args below meth c H locs kc ks Q (F0 m pc ls (st.map (cw_v ad))) := by
  subst hci
  obtain ⟨hx, hb, hml, hown, hts, hK, hfr, hlo, -⟩ := hX
  have hA1 := cw_A1 hD hS hAs
  have hkk : ∀ (ad' : Nat → Nat) (H1 : Heap) (locs1 : List Loc), (∀ k, k < h.length ∨ h'.length ≤ k → ad' k = ad k) → va_P D vwCl (cw_w cA ad' h') H1 → va_D (va_A (cw_w cA ad h) H.size) (cw_w cA ad' h') → H.size ≤ H1.size → (∀ q : Nat, q < H.size → ¬ va_A (cw_w cA ad h) H.size q → H1[q]? = H[q]?) → va_S A s.heap H1 locs1 → W p l e R s m args below meth c H1 locs1 (kc + 0) (ks + 0) Q (F0 m (pc + 3) ls ((r.map (cw_v ad')).toList ++ rs.map (cw_v ad))) := by
    intro ad' H1 locs1 e1 hP1 hD1 _ _ hS1
    have e2 : ad' = ad := funext fun k => e1 k (by omega)
    subst e2
    have := kk H1 locs1 hP1 (hD1.weaken (fun _ _ _ h => hA1 _ h)) hS1
    rw [List.map_append] at this
    cases r <;> exact this
  have hst : st.map (cw_v ad) = (((st.take (cw_na ic)).reverse.map (cw_v ad))).reverse ++ .ref (ad a) :: rs.map (cw_v ad) := by
    have e0 : st.map (cw_v ad) = (st.take (cw_na ic)).map (cw_v ad) ++ (st.drop (cw_na ic)).map (cw_v ad) := by rw [← List.map_append, List.take_append_drop]
    rw [e0, hdr, List.map_reverse, List.reverse_reverse]
    rfl
  have hWW : 2 * (F0 m pc ls (st.map (cw_v ad))).monitorRoom + ((rs.map (cw_v ad)).map fun v => v.category).sum ≤ 8 := lv_room (by rw [cw_cats]; exact hW)
  have hln : ((st.take (cw_na ic)).reverse.map (cw_v ad)).length = cw_na ic := by simp; omega
  have hR : cw_f ic + 1 ≤ R.frames ∧ 8 + (cw_nL ic + 11) + 35 * cw_f ic ≤ R.locals ∨ ¬ cw_nL ic ≤ 16 := by
    by_cases h15 : cw_nL ic ≤ 16
    · left; constructor <;> omega
    · right; exact h15
  have hpre := cw_pre (i := ic) (av := .ref a :: (st.take (cw_na ic)).reverse) hK hP hD
  have hrecv := va_recv (ci := cw_c ic) (q0 := a) hK.1 hP (cw_cl (cw_c ic) hci4) (cw_w_get hcell)
  rcases hkd with rfl | rfl
  · have hlk' : Cond.methodLink (cw_own (cw_c ii)) idx ic.1 ∈ cw_T ∧ Cond.instanceMethod ic.1 ∈ cw_T ∧ Cond.selects ic.1.cls ic.1 ic.1 ∈ cw_T ∧ cw_okI ic := by
      rcases hlk with ⟨_, h⟩ | ⟨h, _⟩ | ⟨h, _⟩ | ⟨h, _⟩ | ⟨h, _⟩ | ⟨h, _⟩ | ⟨h, _⟩ | ⟨h, _⟩ | ⟨h, _⟩ <;> first | exact h | exact absurd h (by decide)
    obtain ⟨h1, h2, h2s, h3⟩ := hlk'
    have h3' := h3
    obtain ⟨-, -, k3, k4, k5, k6, k7, k8, k9, k10⟩ := h3
    have hR2 := hR.resolve_right (fun q => q k10)
    rw [k5] at h2s
    refine cw_callG (va_runV (C := cw_own (cw_c ic)) (b := ad a) (As := (st.take (cw_na ic)).reverse.map (cw_v ad)) ⟨hx, hb, hml, hown, hts⟩ (hM D cA ad H.size) (n := cw_na ic) ⟨⟨rfl, rfl, hR2.1, hR2.2, pay_in hts (cw_good2 h3'), List.mem_cons_self, hts _ k3, hts _ k4, ⟨k7, k8⟩, fun sig hsig => ?_, hts _ h1⟩, hts _ h2, hts _ h2s⟩ ⟨hpre.1, hrecv, hpre.2⟩ rfl hln hls hst hWW hd ⟨hk.1, hk.2⟩) hS (fun q _ h => hA1 q h) hA1 hkk
    rw [hsig] at k9; exact (Option.some.inj k9).symm
  · have hlk' : (∃ host, Cond.methodLinkNest (cw_own (cw_c ii)) idx ic.1 host ∈ cw_N) ∧ Cond.instanceMethod ic.1 ∈ cw_T ∧ Cond.selects ic.1.cls ic.1 ic.1 ∈ cw_T ∧ cw_okI ic := by
      rcases hlk with ⟨h, _⟩ | ⟨h, _⟩ | ⟨h, _⟩ | ⟨_, h⟩ | ⟨h, _⟩ | ⟨h, _⟩ | ⟨h, _⟩ | ⟨h, _⟩ | ⟨h, _⟩ <;> first | exact h | exact absurd h (by decide)
    obtain ⟨⟨host, h1⟩, h2, h2s, h3⟩ := hlk'
    have h3' := h3
    obtain ⟨-, -, k3, k4, k5, k6, k7, k8, k9, k10⟩ := h3
    have hR2 := hR.resolve_right (fun q => q k10)
    rw [k5] at h2s
    refine cw_callG (va_runVN (C := cw_own (cw_c ic)) (b := ad a) (As := (st.take (cw_na ic)).reverse.map (cw_v ad)) ⟨hx, hb, hml, hown, hts⟩ (hM D cA ad H.size) (n := cw_na ic) (host := host) ⟨⟨⟨rfl, rfl, hR2.1, hR2.2, pay_in hts (cw_good2 h3'), List.mem_cons_self⟩, hts _ k3, hts _ k4, ⟨k7, k8⟩, fun sig hsig => ?_, va_Nw.use rfl (hK.2.2 _ h1)⟩, hts _ h2, hts _ h2s⟩ ⟨hpre.1, hrecv, hpre.2⟩ rfl hln hls hst hWW hd ⟨hk.1, hk.2⟩) hS (fun q _ h => hA1 q h) hA1 hkk
    rw [hsig] at k9; exact (Option.some.inj k9).symm
end CWS
end
section
/-! one step of the abstract machine is a step of the machine -/
theorem cw_rf (ad : Nat → Nat) (x : Option Nat) : va_rf (x.map ad) = cw_v ad (va_rf x) := by cases x <;> rfl
section CWT
variable {p : Program} {l : Launch} {e : Env} {R : Room} {s : State} {m : MethodId} {args : Array Value} {below : List Frame} {meth : Method} {c : Code} {D : va_G} {cA : Nat → ClassId} {A : Nat → Prop} {keep : Nat → Prop} {ad0 : Nat → Nat} {Q : State → Prop} {kc ks : Nat}
set_option maxHeartbeats 4000000 in
theorem cw_stp_ok {ii : cw_I} {ins : ClassFile.Instr} {n j pc : Nat} {d : Bool} {nm : String} (hini : nm = "<init>" → meth.name = "<init>") {cr : Option Value × cw_H} {lv : cw_LV} {st : List Value} {h : cw_H} {K Kb Kj Kc : Nat → cw_LV → List Value → cw_H → Prop}
    (hX : cw_X ii p R s m args meth c D cA) (hk : kc ≤ R.cells ∧ ks ≤ R.slots) (hAs : ∀ q, s.heap.size ≤ q → A q) (hd : decode (cw_b ii) pc = .ok (ins, n)) (hlit : cw_lit ins = true)
    (hK : ∀ pc lv st h, K pc lv st h → cw_G p l e R s m args below meth c D cA A keep ad0 Q (cw_nL ii) kc ks pc lv st h)
    (hKb : ∀ pc lv st h, Kb pc lv st h → cw_G p l e R s m args below meth c D cA A keep ad0 Q (cw_nL ii) kc ks pc lv st h)
    (hKj : ∀ pc lv st h, Kj pc lv st h → cw_G p l e R s m args below meth c D cA A keep ad0 Q (cw_nL ii) kc ks pc lv st h)
    (hKc : ∀ pc lv st h, Kc pc lv st h → cw_G p l e R s m args below meth c D cA A keep ad0 Q (cw_nL ii) kc ks pc lv st h)
    (hs : cw_stp l (cw_c ii) (cw_f ii) (cw_nL ii) (decide (nm = "<init>")) ins n d j cr pc lv st h K Kb Kj Kc) : cw_G p l e R s m args below meth c D cA A keep ad0 Q (cw_nL ii) kc ks pc lv st h := by
  intro ad H locs ls hkp hP hD hS hl
  have hX0 := hX
  obtain ⟨hx, hb, hml, hown, hts, hKs, hfr, hlo, hnm, hret, hlocks⟩ := hX
  have hls : ls.size = cw_nL ii := hl.1
  unfold cw_stp at hs
  split at hs
  -- getfield
  · split at hs
    · split at hs
      · rename_i nest ci sl ci' fs e1 e2
        split at hs
        · rename_i v e3 e4
          cases Nat.eq_of_beq_eq_true e3
          obtain ⟨h4, hsl, hdc, hlk⟩ := cw_fok _ _ (cw_look_mem e1)
          dsimp only at h4 hsl hdc hlk
          have hv : (fs.map (cw_v ad))[sl]? = some (cw_v ad v) := by rw [List.getElem?_map, e4]; rfl
          rcases hlk with ⟨_, hlk⟩ | ⟨_, host, hlk⟩
          · exact va_get (ref := cw_own ci) hx hb hts (cw_in_u ci h4) hown hKs.1 hP _ (cw_w_get e2) (cw_cl ci h4) sl hsl (hts _ hlk) (fun x hx9 => by rw [hdc] at hx9; exact hx9) hv hd (hK _ _ _ _ hs ad H locs ls hkp hP hD hS hl)
          · exact va_getN (ref := cw_own ci) (host := host) hx hb hts (cw_in_u ci h4) hown hKs.1 hP _ (cw_w_get e2) (cw_cl ci h4) sl hsl (va_Nw.use rfl (hKs.2.2 _ hlk)) (fun x hx9 => by rw [hdc] at hx9; exact hx9) hv hd (hK _ _ _ _ hs ad H locs ls hkp hP hD hS hl)
        · exact hs.elim
      · exact hs.elim
    · exact hs.elim
  -- putfield
  · split at hs
    · split at hs
      · rename_i v a r _ _ nest ci sl ci' fs e1 e2
        obtain ⟨h4, hsl, hdc, hlk⟩ := cw_fok _ _ (cw_look_mem e1)
        dsimp only at h4 hsl hdc hlk
        have hset : (cw_w cA ad h).set a (ad a, .inr (ci, (fs.map (cw_v ad)).set sl (cw_v ad v))) = cw_w cA ad (h.set a (.inr (ci, fs.set sl v))) := by
          rw [cw_w_set]
          show _ = (cw_w cA ad h).set a (ad a, .inr (ci, (fs.set sl v).map (cw_v ad)))
          rw [List.map_set]
        split at hs
        · rename_i e3 e4 e5 e6
          cases Nat.eq_of_beq_eq_true e3
          have hfit := cw_fits_ok e4 ad
          have hlen : sl < (fs.map (cw_v ad)).length := by rw [List.length_map]; exact Nat.le_of_ble_eq_true e5
          have kk : ∀ (H1 : Heap) (locs1 : List Loc), va_P D vwCl ((cw_w cA ad h).set a (ad a, .inr (ci, (fs.map (cw_v ad)).set sl (cw_v ad v)))) H1 → va_D A ((cw_w cA ad h).set a (ad a, .inr (ci, (fs.map (cw_v ad)).set sl (cw_v ad v)))) → va_S A s.heap H1 locs1 → W p l e R s m args below meth c H1 locs1 kc ks Q (F0 m (pc + 3) ls (r.map (cw_v ad))) := by
            intro H1 locs1 hP1 hD1 hS1
            rw [hset] at hP1 hD1
            exact hK _ _ _ _ hs ad H1 locs1 ls hkp hP1 hD1 hS1 hl
          rcases hlk with ⟨_, hlk⟩ | ⟨_, host, hlk⟩
          · exact va_put (ref := cw_own ci) hx hb hts (cw_in_u ci h4) (cw_ty ci) (cw_tyok ci h4) (cw_nm ci h4) hown hKs.1 hP hD hS a (cw_w_get e2) (cw_cl ci h4) sl hsl (hts _ hlk) (fun x hx9 => by rw [hdc] at hx9; exact hx9) e6 (cw_tyok ci h4 sl hsl) hfit.1 hfit.2 hlen hd kk
          · exact va_putN (ref := cw_own ci) (host := host) hx hb hts (cw_in_u ci h4) (cw_ty ci) (cw_tyok ci h4) (cw_nm ci h4) hown hKs.1 hP hD hS a (cw_w_get e2) (cw_cl ci h4) sl hsl (va_Nw.use rfl (hKs.2.2 _ hlk)) (fun x hx9 => by rw [hdc] at hx9; exact hx9) e6 (cw_tyok ci h4 sl hsl) hfit.1 hfit.2 hlen hd kk
        · rename_i e3 e4 e5 e6 e7 e8 e9
          cases Nat.eq_of_beq_eq_true e3
          have hfit := cw_fits_ok e4 ad
          have hlen : sl < (fs.map (cw_v ad)).length := by rw [List.length_map]; exact Nat.le_of_ble_eq_true e5
          have kk : ∀ (H1 : Heap) (locs1 : List Loc), va_P D vwCl ((cw_w cA ad h).set a (ad a, .inr (ci, (fs.map (cw_v ad)).set sl (cw_v ad v)))) H1 → va_D A ((cw_w cA ad h).set a (ad a, .inr (ci, (fs.map (cw_v ad)).set sl (cw_v ad v)))) → va_S A s.heap H1 locs1 → W p l e R s m args below meth c H1 locs1 kc ks Q (F0 m (pc + 3) ls (r.map (cw_v ad))) := by
            intro H1 locs1 hP1 hD1 hS1
            rw [hset] at hP1 hD1
            exact hK _ _ _ _ hs ad H1 locs1 ls hkp hP1 hD1 hS1 hl
          have hnest : nest = 0 := Nat.eq_of_beq_eq_true e8
          have hcc : cw_c ii = ci := Nat.eq_of_beq_eq_true e9
          rcases hlk with ⟨_, hlk⟩ | ⟨h0, _⟩
          · exact va_putF (ref := cw_own ci) hx hb hts (cw_in_u ci h4) (cw_ty ci) (cw_tyok ci h4) (cw_nm ci h4) hown hKs.1 hP hD hS a (cw_w_get e2) (cw_cl ci h4) sl hsl (hts _ hlk) (fun x hx9 => by rw [hdc] at hx9; exact hx9) e6 (hini (of_decide_eq_true e7)) (by rw [hdc, hcc]) (cw_tyok ci h4 sl hsl) hfit.1 hfit.2 hlen hd kk
          · exact absurd (hnest.symm.trans h0) (by decide)
        · exact hs.elim
      · exact hs.elim
    · exact hs.elim
  -- arraylength
  · split at hs
    · split at hs
      · rename_i k x e1
        split at hs
        · rename_i e2
          have hk3 : k < 3 := Nat.le_of_ble_eq_true e2
          have hv : Int32.ofNat (cw_a ad x).1 = nI x.1 := by
            unfold cw_a; split <;> rfl
          have kk := hK _ _ _ _ hs ad H locs ls hkp hP hD hS hl
          match k, hk3, e1 with
          | 0, _, e1 => exact va_alen hx hb hKs.1 hP _ 0 (cw_w_get e1) (ty := .int) rfl hv hd kk
          | 1, _, e1 => exact va_alen hx hb hKs.1 hP _ 1 (cw_w_get e1) (ty := .char) rfl hv hd kk
          | 2, _, e1 => exact va_alen hx hb hKs.1 hP _ 2 (cw_w_get e1) (ty := .object RX1) rfl hv hd kk
        · exact hs.elim
      · exact hs.elim
    · exact hs.elim
  -- iaload
  · split at hs
    · split at hs
      · rename_i sz f e1
        split at hs
        · rename_i e2
          have h6 : sz ≤ 65536 := Nat.le_of_ble_eq_true e2
          obtain ⟨rfl, hj, hs⟩ := hs
          refine va_iald hx hb hKs.1 hP _ 0 (cw_w_get e1) rfl (vp_in_nI hj (by omega)) hd ?_
          rw [nI_clamp (by omega)]
          exact hKj _ _ _ _ hs ad H locs ls hkp hP hD hS hl
        · exact hs.elim
      · exact hs.elim
    · exact hs.elim
  -- caload
  · split at hs
    · split at hs
      · rename_i sz f e1
        split at hs
        · rename_i e2
          have h6 : sz ≤ 65536 := Nat.le_of_ble_eq_true e2
          obtain ⟨rfl, hj, hs⟩ := hs
          refine va_cald hx hb hKs.1 hP _ 1 (cw_w_get e1) rfl (vp_in_nI hj (by omega)) hd ?_
          rw [nI_clamp (by omega)]
          exact hKj _ _ _ _ hs ad H locs ls hkp hP hD hS hl
        · exact hs.elim
      · exact hs.elim
    · exact hs.elim
  -- aaload
  · split at hs
    · split at hs
      · rename_i sz f e1
        split at hs
        · rename_i e2
          have h6 : sz ≤ 65536 := Nat.le_of_ble_eq_true e2
          obtain ⟨rfl, hj, hs⟩ := hs
          refine va_aldq (C := RX1) (f := fun j => (f j).map ad) hx hb hKs.1 hP _ 2 (cw_w_get e1) rfl (vp_in_nI hj (by omega)) hd ?_
          rw [nI_clamp (by omega), cw_rf]
          exact hKj _ _ _ _ hs ad H locs ls hkp hP hD hS hl
        · exact hs.elim
      · exact hs.elim
    · exact hs.elim
  -- iastore
  · split at hs
    · split at hs
      · rename_i sz f e1
        split at hs
        · rename_i e2
          have h6 : sz ≤ 65536 := Nat.le_of_ble_eq_true e2
          obtain ⟨rfl, hj, hs⟩ := hs
          refine va_iast hx hb hKs.1 hP hD hS _ 0 (cw_w_get e1) rfl (vp_in_nI hj (by omega)) hd (fun H1 locs1 hP1 hD1 hS1 => ?_)
          rw [nI_clamp (by omega)] at hP1 hD1
          exact hKj _ _ _ _ hs ad H1 locs1 ls hkp (by rw [cw_w_set]; exact hP1) (by rw [cw_w_set]; exact hD1) hS1 hl
        · exact hs.elim
      · exact hs.elim
    · exact hs.elim
  -- castore
  · split at hs
    · split at hs
      · rename_i sz f e1
        split at hs
        · rename_i e2
          have h6 : sz ≤ 65536 := Nat.le_of_ble_eq_true e2
          obtain ⟨rfl, hj, hs⟩ := hs
          refine va_cast hx hb hKs.1 hP hD hS _ 1 (cw_w_get e1) rfl (vp_in_nI hj (by omega)) hd (fun H1 locs1 hP1 hD1 hS1 => ?_)
          rw [nI_clamp (by omega)] at hP1 hD1
          exact hKj _ _ _ _ hs ad H1 locs1 ls hkp (by rw [cw_w_set]; exact hP1) (by rw [cw_w_set]; exact hD1) hS1 hl
        · exact hs.elim
      · exact hs.elim
    · exact hs.elim
  -- aastore
  · split at hs
    · split at hs
      · rename_i q x a r _ _ sz f fs e1 e3
        split at hs
        · rename_i e2
          have h6 : sz ≤ 65536 := Nat.le_of_ble_eq_true e2
          obtain ⟨rfl, hj, hs⟩ := hs
          refine va_astq (ci := 1) (r := (RX1, TX1, 14)) (f := fun j => (f j).map ad) hx hb hKs.1 hP hD hS _ 2 q (cw_w_get e1) rfl (cw_w_get e3) rfl (vp_in_nI hj (by omega)) hd (fun H1 locs1 hP1 hD1 hS1 => ?_)
          rw [nI_clamp (by omega)] at hP1 hD1
          have hup : (va_up (fun j => (f j).map ad) j (some (ad q))) = fun i => (va_up f j (some q) i).map ad := by
            funext i
            unfold va_up
            by_cases hi : i = j
            · rw [if_pos hi, if_pos hi]; rfl
            · rw [if_neg hi, if_neg hi]
          rw [hup] at hP1 hD1
          exact hKj _ _ _ _ hs ad H1 locs1 ls hkp (by rw [cw_w_set]; exact hP1) (by rw [cw_w_set]; exact hD1) hS1 hl
        · exact hs.elim
      · exact hs.elim
    · exact hs.elim
  -- irem
  · split at hs
    · exact lv_irem hx hb hd hs.1 (hK _ _ _ _ hs.2 ad H locs ls hkp hP hD hS hl)
    · exact hs.elim
  -- ifCond
  · rename_i cd off
    split at hs
    · split at hs
      · obtain ⟨h1, h2⟩ := hs
        obtain ⟨t, ht, h3⟩ := cw_tgt_of h2
        have kk := hKb _ _ _ _ h3 ad H locs ls hkp hP hD hS hl
        cases cd
        · exact lv_if_eq hx hb hd ht (fun _ => kk) (fun q => absurd h1 q)
        · exact lv_if_ne hx hb hd ht (fun _ => kk) (fun q => absurd q h1)
        · exact lv_if_lt hx hb hd ht (fun _ => kk) (fun q => absurd h1 q)
        · exact lv_if_ge hx hb hd ht (fun _ => kk) (fun q => absurd h1 q)
        · exact lv_if_gt hx hb hd ht (fun _ => kk) (fun q => absurd h1 q)
        · exact lv_if_le hx hb hd ht (fun _ => kk) (fun q => absurd h1 q)
      · obtain ⟨h1, h2⟩ := hs
        obtain ⟨t, ht, h3⟩ := cw_tgt_of h2
        have kk := hKb _ _ _ _ h3 ad H locs ls hkp hP hD hS hl
        cases cd
        · exact lv_if_eq hx hb hd ht (fun q => absurd q h1) (fun _ => kk)
        · exact lv_if_ne hx hb hd ht (fun q => absurd q h1) (fun _ => kk)
        · exact lv_if_lt hx hb hd ht (fun q => absurd q h1) (fun _ => kk)
        · exact lv_if_ge hx hb hd ht (fun q => absurd q h1) (fun _ => kk)
        · exact lv_if_gt hx hb hd ht (fun q => absurd q h1) (fun _ => kk)
        · exact lv_if_le hx hb hd ht (fun q => absurd q h1) (fun _ => kk)
    · exact hs.elim
  -- if_icmp
  · rename_i cd off
    split at hs
    · split at hs
      · obtain ⟨h1, h2⟩ := hs
        obtain ⟨t, ht, h3⟩ := cw_tgt_of h2
        have kk := hKb _ _ _ _ h3 ad H locs ls hkp hP hD hS hl
        cases cd
        · exact lv_icmp_eq hx hb hd ht (fun _ => kk) (fun q => absurd h1 q)
        · exact lv_icmp_ne hx hb hd ht (fun _ => kk) (fun q => absurd q h1)
        · exact lv_icmp_lt hx hb hd ht (fun _ => kk) (fun q => absurd h1 q)
        · exact lv_icmp_ge hx hb hd ht (fun _ => kk) (fun q => absurd h1 q)
        · exact lv_icmp_gt hx hb hd ht (fun _ => kk) (fun q => absurd h1 q)
        · exact lv_icmp_le hx hb hd ht (fun _ => kk) (fun q => absurd h1 q)
      · obtain ⟨h1, h2⟩ := hs
        obtain ⟨t, ht, h3⟩ := cw_tgt_of h2
        have kk := hKb _ _ _ _ h3 ad H locs ls hkp hP hD hS hl
        cases cd
        · exact lv_icmp_eq hx hb hd ht (fun q => absurd q h1) (fun _ => kk)
        · exact lv_icmp_ne hx hb hd ht (fun q => absurd q h1) (fun _ => kk)
        · exact lv_icmp_lt hx hb hd ht (fun q => absurd q h1) (fun _ => kk)
        · exact lv_icmp_ge hx hb hd ht (fun q => absurd q h1) (fun _ => kk)
        · exact lv_icmp_gt hx hb hd ht (fun q => absurd q h1) (fun _ => kk)
        · exact lv_icmp_le hx hb hd ht (fun q => absurd q h1) (fun _ => kk)
    · exact hs.elim
  -- goto
  · split at hs
    · obtain ⟨t, ht, h3⟩ := cw_tgt_of hs
      exact lv_goto hx hb hd ht (hK _ _ _ _ h3 ad H locs ls hkp hP hD hS hl)
    · exact hs.elim
  -- ifnonnull
  · split at hs
    · obtain ⟨t, ht, h3⟩ := cw_tgt_of hs
      exact lv_ifnonnull hx hb hd ht (hK _ _ _ _ h3 ad H locs ls hkp hP hD hS hl)
    · exact lv_ifnonnullN hx hb hd (hK _ _ _ _ hs ad H locs ls hkp hP hD hS hl)
    · exact hs.elim
  -- tableswitch
  · rename_i dflt lo hi offs
    split at hs
    · rename_i x r
      split at hs
      · rename_i off e1
        obtain ⟨h1, h2, h3⟩ := hs
        obtain ⟨t, ht, h4⟩ := cw_tgt_of h3
        exact lv_tableIn hx hb hd (by omega) h2 (by rw [show (x.toInt - lo).toNat = j by omega]; exact e1) ht (hKj _ _ _ _ h4 ad H locs ls hkp hP hD hS hl)
      · obtain ⟨h1, h3⟩ := hs
        obtain ⟨t, ht, h4⟩ := cw_tgt_of h3
        exact lv_tableOut hx hb hd h1 ht (hKj _ _ _ _ h4 ad H locs ls hkp hP hD hS hl)
    · exact hs.elim
  -- lookupswitch
  · rename_i dflt ps
    split at hs
    · rename_i x r
      obtain ⟨hp, hs⟩ := hs
      split at hs
      · rename_i q e1
        obtain ⟨h1, h3⟩ := hs
        obtain ⟨t, ht, h4⟩ := cw_tgt_of h3
        exact lv_lookup hx hb hd hp h1 ht (hKj _ _ _ _ h4 ad H locs ls hkp hP hD hS hl)
      · obtain ⟨h1, h3⟩ := hs
        obtain ⟨t, ht, h4⟩ := cw_tgt_of h3
        exact lv_lookup hx hb hd hp h1 ht (hKj _ _ _ _ h4 ad H locs ls hkp hP hD hS hl)
    · exact hs.elim
  -- invokestatic
  · rename_i idx
    split at hs
    · rename_i _ _ ic e1
      have hlk := cw_clok _ _ (cw_look_mem e1)
      dsimp only at hlk
      split at hs
      · rename_i y x r
        split at hs
        · rename_i e2
          have h8 : (r.map fun v => v.category).sum ≤ 8 := Nat.le_of_ble_eq_true e2
          have hlk' : Cond.methodLink (cw_own (cw_c ii)) idx Lib.Math.max.name ∈ cw_T := by
            rcases hlk with ⟨h, _⟩ | ⟨h, _⟩ | ⟨h, _⟩ | ⟨h, _⟩ | ⟨h, _⟩ | ⟨h, _⟩ | ⟨h, _⟩ | ⟨h, _⟩ | ⟨_, h⟩ <;> first | exact h | exact absurd h (by decide)
          exact va_mmax hx hb (by rw [hml, hls]) hown (hts _ hlk') (hts _ cw_g_ms) (hts _ cw_g_math) (hts _ cw_g_mc) (by omega) (by rw [cw_cats]; omega) hk.1 hk.2 hd (hK _ _ _ _ hs ad H locs ls hkp hP hD hS hl)
        · exact hs.elim
      · exact hs.elim
    · rename_i _ _ ic e1
      have hlk := cw_clok _ _ (cw_look_mem e1)
      dsimp only at hlk
      split at hs
      · rename_i z y b x a r
        split at hs
        · rename_i n0 f n1 g e2 e3 e4
          have h8 : (r.map fun v => v.category).sum ≤ 8 := Nat.le_of_ble_eq_true e4
          have hlk' : Cond.methodLink (cw_own (cw_c ii)) idx arraycopyName ∈ cw_T := by
            rcases hlk with ⟨h, _⟩ | ⟨h, _⟩ | ⟨h, _⟩ | ⟨h, _⟩ | ⟨h, _⟩ | ⟨h, _⟩ | ⟨h, _⟩ | ⟨_, h⟩ | ⟨h, _⟩ <;> first | exact h | exact absurd h (by decide)
          obtain ⟨rfl, rfl, rfl, q1, q2, q3, hs⟩ := hs
          have hnw : nativeFrameWords "java/lang/System" "arraycopy" 5 ≤ 12 := by decide +kernel
          have c0 : (nI 0).toNatClampNeg = 0 := nI_clamp (by omega)
          have cj : (nI j).toNatClampNeg = j := nI_clamp (by omega)
          refine va_copyi hx hb (by rw [hml, hls]) hown (hts _ hlk') (hts _ cw_g_cpn) (hts _ cw_g_cps) (hts _ cw_g_sys) hKs.1 hP hD hS _ _ 0 0 (cw_w_get e2) (cw_w_get e3) rfl rfl rfl (nI_pos (by omega)) (nI_pos (by omega)) (nI_pos (by omega)) (by rw [c0, cj]; omega) (by rw [c0, cj]; omega) (fun i _ => rfl) (by omega) (by rw [cw_cats]; omega) hd (fun H1 locs1 hP1 hD1 hS1 => ?_)
          rw [c0, cj] at hP1 hD1
          exact hKj _ _ _ _ hs ad H1 locs1 ls hkp (by rw [cw_w_set]; exact hP1) (by rw [cw_w_set]; exact hD1) hS1 hl
        · exact hs.elim
      · exact hs.elim
    · rename_i _ _ kd ic _ _ e1
      have hlk := cw_clok _ _ (cw_look_mem e1)
      dsimp only at hlk
      split at hs
      · rename_i e2 e3 e4 e5
        have hkd : kd = 1 ∨ kd = 4 := by
          rcases Bool.or_eq_true _ _ ▸ e2 with h | h
          · exact Or.inl (Nat.eq_of_beq_eq_true h)
          · exact Or.inr (Nat.eq_of_beq_eq_true h)
        exact cw_callS hX0 hk hAs hd hlk hkd (Nat.le_of_ble_eq_true e3) (Nat.le_of_ble_eq_true e4) (Nat.le_of_ble_eq_true e5) hs.2.1 hs.1 hP hD hS hls (fun H1 locs1 hP1 hD1 hS1 => hKc _ _ _ _ hs.2.2 ad H1 locs1 ls hkp hP1 hD1 hS1 hl)
      · exact hs.elim
    · exact hs.elim
  -- invokevirtual
  · split at hs
    · rename_i _ _ kd ic e1
      have hlk := cw_clok _ _ (cw_look_mem e1)
      dsimp only at hlk
      split at hs
      · rename_i a r e0
        split at hs
        · rename_i ci fs e9
          split at hs
          · rename_i e2 e3 e4 e5 e7 e8
            have hkd : kd = 0 ∨ kd = 3 := by
              rcases Bool.or_eq_true _ _ ▸ e2 with h | h
              · exact Or.inl (Nat.eq_of_beq_eq_true h)
              · exact Or.inr (Nat.eq_of_beq_eq_true h)
            exact cw_callV hX0 hk hAs hd hlk hkd (Nat.le_of_ble_eq_true e3) (Nat.le_of_ble_eq_true e4) e0 (Nat.le_of_ble_eq_true e5) hs.2.1 e9 (Nat.eq_of_beq_eq_true e7) (Nat.le_of_ble_eq_true e8) hs.1 hP hD hS hls (fun H1 locs1 hP1 hD1 hS1 => hKc _ _ _ _ hs.2.2 ad H1 locs1 ls hkp hP1 hD1 hS1 hl)
          · exact hs.elim
        · exact hs.elim
      · exact hs.elim
    · exact hs.elim
  -- invokespecial
  · rename_i idx
    split at hs
    · rename_i _ _ _ ic a r e1
      have hlk := cw_clok _ _ (cw_look_mem e1)
      dsimp only at hlk
      split at hs
      · rename_i e2
        have h8 : (r.map fun v => v.category).sum ≤ 8 := Nat.le_of_ble_eq_true e2
        have hlk' : Cond.methodLink (cw_own (cw_c ii)) idx objectInit ∈ cw_T := by
          rcases hlk with ⟨h, _⟩ | ⟨h, _⟩ | ⟨h, _⟩ | ⟨h, _⟩ | ⟨h, _⟩ | ⟨h, _⟩ | ⟨_, h⟩ | ⟨h, _⟩ | ⟨h, _⟩ <;> first | exact h | exact absurd h (by decide)
        refine W.objInit hx hb hown (hts _ hlk') (hts _ cw_g_oi1) (hts _ cw_g_oi2) rfl (by rw [hml]; exact hls) rfl hd (by omega) (by rw [cw_cats]; show 2 * 0 + _ + 12 ≤ _; omega) ?_
        exact hK _ _ _ _ hs ad H locs ls hkp hP hD hS hl
      · exact hs.elim
    · exact hs.elim
  -- the others
  · split at hs
    · rename_i n' lv' st' e1
      split at hs
      · rename_i e2
        cases Nat.eq_of_beq_eq_true e2
        exact cw_pure_ok hx hb hts hown hd hlit e1 hl (fun ls' hl' => hK _ _ _ _ hs ad H locs ls' hkp hP hD hS hl')
      · exact hs.elim
    · exact hs.elim
end CWT
end
section
/-! runs, beginnings and ends of a method -/
def cw_go (l : Launch) (ii : cw_I) : Nat → List Bool → List Nat → List (Option Value × cw_H) → Nat → cw_LV → List Value → cw_H → (Nat → cw_LV → List Value → cw_H → Prop) → Prop
  | 0, _, _, _, pc, lv, st, h, K => K pc lv st h
  | n + 1, ds, js, cs, pc, lv, st, h, K => match cw_look (cw_tb ii) pc with
    | some (i, len) => cw_stp l (cw_c ii) (cw_f ii) (cw_nL ii) (decide (ii.1.name = "<init>")) i len (ds.headD false) (js.headD 0) (cs.headD (none, [])) pc lv st h
        (fun pc lv st h => cw_go l ii n ds js cs pc lv st h K) (fun pc lv st h => cw_go l ii n ds.tail js cs pc lv st h K) (fun pc lv st h => cw_go l ii n ds js.tail cs pc lv st h K) (fun pc lv st h => cw_go l ii n ds js cs.tail pc lv st h K)
    | none => False
section CWR
variable {p : Program} {l : Launch} {e : Env} {R : Room} {s : State} {m : MethodId} {args : Array Value} {below : List Frame} {meth : Method} {c : Code} {D : va_G} {cA : Nat → ClassId} {A : Nat → Prop} {keep : Nat → Prop} {ad0 : Nat → Nat} {Q : State → Prop} {kc ks : Nat}
theorem cw_go_ok {ii : cw_I} (hi : cw_okD ii) (hX : cw_X ii p R s m args meth c D cA) (hk : kc ≤ R.cells ∧ ks ≤ R.slots) (hAs : ∀ q, s.heap.size ≤ q → A q) {K : Nat → cw_LV → List Value → cw_H → Prop}
    (hK : ∀ pc lv st h, K pc lv st h → cw_G p l e R s m args below meth c D cA A keep ad0 Q (cw_nL ii) kc ks pc lv st h) :
    ∀ (n : Nat) (ds : List Bool) (js : List Nat) (cs : List (Option Value × cw_H)) (pc : Nat) (lv : cw_LV) (st : List Value) (h : cw_H), cw_go l ii n ds js cs pc lv st h K → cw_G p l e R s m args below meth c D cA A keep ad0 Q (cw_nL ii) kc ks pc lv st h := by
  intro n
  induction n with
  | zero => intro ds js cs pc lv st h hg; exact hK _ _ _ _ hg
  | succ n ih =>
    intro ds js cs pc lv st h hg
    unfold cw_go at hg
    split at hg
    · rename_i i len e1
      have hm := cw_look_mem e1
      exact cw_stp_ok hX.2.2.2.2.2.2.2.2.1 (K := fun pc lv st h => cw_go l ii n ds js cs pc lv st h K) (Kb := fun pc lv st h => cw_go l ii n ds.tail js cs pc lv st h K) (Kj := fun pc lv st h => cw_go l ii n ds js.tail cs pc lv st h K) (Kc := fun pc lv st h => cw_go l ii n ds js cs.tail pc lv st h K) hX hk hAs (hi.1 (pc, i, len) hm) (hi.2.1 (pc, i, len) hm) (fun pc lv st h q => ih ds js cs pc lv st h q) (fun pc lv st h q => ih ds.tail js cs pc lv st h q) (fun pc lv st h q => ih ds js.tail cs pc lv st h q) (fun pc lv st h q => ih ds js cs.tail pc lv st h q) hg
    · exact hg.elim
end CWR
/-- at a place of the method ii, that began on the heap h0, and is to answer r on the heap h1 -/
def cw_W (l : Launch) (ii : cw_I) (mc ms : Nat) (h0 : cw_H) (r : Option Value) (h1 : cw_H) (kc ks pc : Nat) (lv : cw_LV) (st : List Value) (h : cw_H) : Prop :=
  ∀ (p : Program) (e : Env) (R : Room) (s : State) (m : MethodId) (args : Array Value) (below : List Frame) (meth : Method) (c : Code) (D : va_G) (cA : Nat → ClassId) (ad0 : Nat → Nat), cw_X ii p R s m args meth c D cA → R.cells = mc → R.slots = ms →
    cw_G p l e R s m args below meth c D cA (va_A (cw_w cA ad0 h0) s.heap.size) (fun k => k < h0.length ∨ h1.length ≤ k) ad0 (MQ below (cw_Q D cA ad0 h0 r h1 (va_A (cw_w cA ad0 h0) s.heap.size)) args s mc ms (va_A (cw_w cA ad0 h0) s.heap.size)) (cw_nL ii) kc ks pc lv st h
theorem cw_run {l : Launch} {ii : cw_I} {mc ms : Nat} {h0 : cw_H} {r : Option Value} {h1 : cw_H} {kc ks pc : Nat} {lv : cw_LV} {st : List Value} {h : cw_H} (hi : cw_okD ii) (hk : kc ≤ mc ∧ ks ≤ ms) (n : Nat) (ds : List Bool) (js : List Nat) (cs : List (Option Value × cw_H))
    (hg : cw_go l ii n ds js cs pc lv st h (cw_W l ii mc ms h0 r h1 kc ks)) : cw_W l ii mc ms h0 r h1 kc ks pc lv st h := by
  intro p e R s m args below meth c D cA ad0 hX hR1 hR2
  subst hR1; subst hR2
  exact cw_go_ok hi hX hk (fun q hq => Or.inr hq) (fun pc lv st h q => q p e R s m args below meth c D cA ad0 hX rfl rfl) n ds js cs pc lv st h hg
theorem cw_args_L (ad : Nat → Nat) : ∀ (av : List Value) (i : Nat), lv_args i (av.map (cw_v ad)) = cw_L ad (lv_args i av)
  | [], _ => rfl
  | v :: vs, i => by
    simp only [List.map_cons, lv_args, cw_cat, cw_L]
    rw [cw_args_L ad vs]
    rfl
theorem cw_sl (ad : Nat → Nat) (av : List Value) : (lg_sl (av.map (cw_v ad))).length = (lg_sl av).length := by
  induction av with
  | nil => rfl
  | cons v vs ih =>
    simp only [lg_sl, List.map_cons, List.flatMap_cons, List.length_append, cw_cat] at ih ⊢
    rw [ih]
    by_cases h : v.category = 2 <;> simp [h]
theorem cw_enter {l : Launch} {ii : cw_I} {mc ms : Nat} {av : List Value} {h0 : cw_H} {r : Option Value} {h1 : cw_H} (hi : cw_okI ii) (hf : 1 ≤ cw_f ii) (hn : (lg_sl av).length ≤ cw_nL ii)
    (hW : cw_W l ii mc ms h0 r h1 0 0 0 (lv_args 0 av) [] h0) : cw_M l ii mc ms av h0 r h1 := by
  intro D cA ad sz
  refine Met.ofW (cc := cw_b ii) (maxL := cw_nL ii) (ret := cw_r ii) hi.2.2.2.2.2.1 rfl ?_
  intro p e s m args below meth c s₁ B hml hv
  obtain ⟨rfl, hsz, hP, hK, hD0⟩ := hv
  have hts0 := atoms_spec (ws := Cond.code ii.1 (cw_b ii) (cw_nL ii) (cw_r ii) :: cw_T) B.pre
  have hown : s.vm.findClass ii.1.cls = some m.cls := findClass_of_methodNamed B.named
  subst hsz
  have hl := lv_entry (av.map (cw_v ad)) (n := cw_nL ii) (by rw [cw_sl]; exact hn)
  rw [lg_entry_eq]
  rw [cw_args_L] at hl
  exact hW p e _ s m _ below meth c D cA ad ⟨B.exec, B.bytes, hml, by rw [← hi.2.2.2.2.1]; exact hown, fun w hw => hts0 w (List.mem_cons_of_mem _ hw), hK, ⟨hf, Nat.le_refl _⟩, Nat.le_refl _, (fun z => (name_of_methodNamed B.named B.method).1.trans z), B.returns, B.notSynchronized⟩ rfl rfl ad s.heap [] _ (fun _ _ => rfl) hP hD0.self va_S.rf hl
theorem cw_retv {l : Launch} {ii : cw_I} {mc ms : Nat} {h0 : cw_H} {h1 : cw_H} {kc ks pc : Nat} {lv : cw_LV} (hi : cw_okD ii) (hk : kc ≤ mc ∧ ks ≤ ms) (hd : cw_look (cw_tb ii) pc = some (.return_, 1)) (hr : cw_r ii = none) : cw_W l ii mc ms h0 none h1 kc ks pc lv [] h1 := by
  intro p e R s m args below meth c D cA ad0 hX hR1 hR2
  intro ad H locs ls hkp hP hD hS hl
  obtain ⟨hx, hb, hml, hown, hts, hKs, hfr, hlo, hnm, hret, hlocks⟩ := hX
  have hdg := hi.1 _ (cw_look_mem hd)
  refine W.widen hk.1 hk.2 ?_
  exact W.vret hx hb (hret.trans hr) (fun t ht hW => ⟨⟨ad, hkp, rfl, by rw [ht]; exact hP, hD⟩, hS.F ht⟩) hS.2.2 hdg hlocks
theorem cw_reti {l : Launch} {ii : cw_I} {mc ms : Nat} {h0 : cw_H} {h1 : cw_H} {v : Int32} {kc ks pc : Nat} {lv : cw_LV} (hi : cw_okD ii) (hk : kc ≤ mc ∧ ks ≤ ms) (hd : cw_look (cw_tb ii) pc = some (.ireturn, 1)) (hr : cw_r ii = some .int) : cw_W l ii mc ms h0 (some (.int v)) h1 kc ks pc lv [.int v] h1 := by
  intro p e R s m args below meth c D cA ad0 hX hR1 hR2
  intro ad H locs ls hkp hP hD hS hl
  obtain ⟨hx, hb, hml, hown, hts, hKs, hfr, hlo, hnm, hret, hlocks⟩ := hX
  have hdg := hi.1 _ (cw_look_mem hd)
  refine W.widen hk.1 hk.2 ?_
  exact W.iret hx hb (hret.trans hr) (fun t ht hW => ⟨⟨ad, hkp, rfl, by rw [ht]; exact hP, hD⟩, hS.F ht⟩) hS.2.2 hdg hlocks
theorem cw_retz {l : Launch} {ii : cw_I} {mc ms : Nat} {h0 : cw_H} {h1 : cw_H} {v : Int32} {kc ks pc : Nat} {lv : cw_LV} (hi : cw_okD ii) (hk : kc ≤ mc ∧ ks ≤ ms) (hd : cw_look (cw_tb ii) pc = some (.ireturn, 1)) (hr : cw_r ii = some .boolean) (hv : v = nI 0 ∨ v = nI 1) : cw_W l ii mc ms h0 (some (.int v)) h1 kc ks pc lv [.int v] h1 := by
  intro p e R s m args below meth c D cA ad0 hX hR1 hR2
  intro ad H locs ls hkp hP hD hS hl
  obtain ⟨hx, hb, hml, hown, hts, hKs, hfr, hlo, hnm, hret, hlocks⟩ := hX
  have hdg := hi.1 _ (cw_look_mem hd)
  refine W.widen hk.1 hk.2 ?_
  exact W.zret hx hb (hret.trans hr) (by rcases hv with rfl | rfl <;> decide +kernel) (fun t ht hW => ⟨⟨ad, hkp, rfl, by rw [ht]; exact hP, hD⟩, hS.F ht⟩) hS.2.2 hdg hlocks
theorem cw_z {mc ms : Nat} : 0 ≤ mc ∧ 0 ≤ ms := ⟨Nat.zero_le _, Nat.zero_le _⟩
/-- fewer locals, by their places -/
theorem cw_less {l : Launch} {ii : cw_I} {mc ms : Nat} {h0 : cw_H} {r : Option Value} {h1 : cw_H} {kc ks pc : Nat} {lv lv' : cw_LV} {st : List Value} {h : cw_H} (is : List Nat) (e : lv_pick lv is = lv') (k : cw_W l ii mc ms h0 r h1 kc ks pc lv' st h) : cw_W l ii mc ms h0 r h1 kc ks pc lv st h := by
  intro p e' R s m args below meth c D cA ad0 hX hR1 hR2 ad H locs ls hkp hP hD hS hl
  refine k p e' R s m args below meth c D cA ad0 hX hR1 hR2 ad H locs ls hkp hP hD hS (lv_sub hl is ?_)
  rw [← e]
  simp only [lv_pick, cw_L, List.getElem?_map, List.map_filterMap]
/-- another way to write what the method is to answer, or where it stands -/
theorem cw_eq {l : Launch} {ii : cw_I} {mc ms : Nat} {h0 : cw_H} {r r' : Option Value} {h1 h1' : cw_H} {kc ks pc : Nat} {lv lv' : cw_LV} {st st' : List Value} {h h' : cw_H} (er : r = r') (e1 : h1 = h1') (el : lv = lv') (es : st = st') (eh : h = h') (k : cw_W l ii mc ms h0 r' h1' kc ks pc lv' st' h') : cw_W l ii mc ms h0 r h1 kc ks pc lv st h := by
  subst er; subst e1; subst el; subst es; subst eh
  exact k
end
section
/-! a contract on a small heap holds on a larger one: the frame -/
def cw_re (io : Nat → Nat) (q : cw_E) : cw_E := match q with
  | .inl a => .inl (a.1, cw_a io a.2)
  | .inr o => .inr (o.1, o.2.map (cw_v io))
theorem cw_v_comp (ad io : Nat → Nat) (v : Value) : cw_v ad (cw_v io v) = cw_v (fun k => ad (io k)) v := by cases v <;> rfl
theorem cw_a_comp (ad io : Nat → Nat) (x : vp_A) : cw_a ad (cw_a io x) = cw_a (fun k => ad (io k)) x := by
  obtain ⟨n, f | f | f | f | f⟩ := x
  · rfl
  · rfl
  · rfl
  · rfl
  · show ((n, Sum.inr (Sum.inr (Sum.inr (Sum.inr (fun j => ((f j).map io).map ad))))) : vp_A) = (n, Sum.inr (Sum.inr (Sum.inr (Sum.inr (fun j => (f j).map (fun k => ad (io k)))))))
    congr 5
    funext j
    cases f j <;> rfl
theorem cw_e_comp (cA : Nat → ClassId) (ad io : Nat → Nat) (q : cw_E) : cw_e cA ad (cw_re io q) = cw_e cA (fun k => ad (io k)) q := by
  obtain a | o := q
  · show Sum.inl (cA a.1, cw_a ad (cw_a io a.2)) = Sum.inl (cA a.1, cw_a (fun k => ad (io k)) a.2)
    rw [cw_a_comp]
  · show Sum.inr (o.1, (o.2.map (cw_v io)).map (cw_v ad)) = Sum.inr (o.1, o.2.map (cw_v (fun k => ad (io k))))
    rw [List.map_map]
    congr 2
    apply List.map_congr_left
    intro v _
    exact cw_v_comp ad io v
theorem cw_M_mono {l : Launch} {y : MethodName} {ws : List Cond} {rm : Room} {Pc Pc' : Array Value → State → Prop} {Qc Qc' : Array Value → State → Outcome → State → Prop} {mc ms : Nat} {free free' : Addr → Prop}
    (h : Met l y ws rm Pc Qc mc ms free) (hP : ∀ a s, Pc' a s → Pc a s) (hQ : ∀ a s o t, Pc' a s → Qc a s o t → Qc' a s o t) (hf : ∀ q, free q → free' q) : Met l y ws rm Pc' Qc' mc ms free' := by
  intro p e ha hc hk s m args below hfr happ hp hK
  obtain ⟨n, o, h1, h2, h3, h4, L, h5, h6⟩ := h p e ha hc hk s m args below hfr happ (hP _ _ hp) hK
  exact ⟨n, o, h1, h2, h3, hQ _ _ _ _ hp h4, L, h5, fun q hq => hf _ (h6 q hq)⟩
theorem cw_w_len (cA : Nat → ClassId) (ad : Nat → Nat) (h : cw_H) : (cw_w cA ad h).length = h.length := by simp [cw_w]
theorem cw_lt {h : cw_H} {k : Nat} {q : cw_E} (e : h[k]? = some q) : k < h.length := (List.getElem?_eq_some_iff.mp e).1
theorem cw_frame0 {l : Launch} {i : cw_I} {mc ms : Nat} {av : List Value} {hc : cw_H} {r : Option Value} {hc' : cw_H} (hM : cw_M l i mc ms av hc r hc') (io : Nat → Nat) {h h' : cw_H}
    (hl : hc'.length = hc.length) (hL : h'.length = h.length) (hsub : ∀ k q, hc[k]? = some q → h[io k]? = some (cw_re io q)) (hinj : ∀ j k, j < hc.length → k < hc.length → io j = io k → j = k)
    (hnew : ∀ k q, hc'[k]? = some q → h'[io k]? = some (cw_re io q)) (hold : ∀ j, j < h.length → (∀ k, k < hc.length → io k ≠ j) → h'[j]? = h[j]?) : cw_M l i mc ms (av.map (cw_v io)) h (r.map (cw_v io)) h' := by
  intro D cA ad sz
  have hsm : ∀ (k : Nat) (x : Nat × va_E), (cw_w cA (fun k => ad (io k)) hc)[k]? = some x → (cw_w cA ad h)[io k]? = some x := by
    intro k x hx
    obtain ⟨q, h1, h2⟩ := cw_w_inv hx
    rw [cw_w_get (hsub k q h1), h2, cw_e_comp]
  have hA : ∀ q, va_A (cw_w cA (fun k => ad (io k)) hc) sz q → va_A (cw_w cA ad h) sz q := by
    intro q hq
    rcases hq with ⟨k, x, hx⟩ | hq
    · exact Or.inl ⟨io k, x, hsm k _ hx⟩
    · exact Or.inr hq
  refine cw_M_mono (hM D cA (fun k => ad (io k)) sz) ?_ ?_ hA
  · rintro a s ⟨ha, hs, hP, hK, hD⟩
    refine ⟨?_, hs, fun k x hx => hP (io k) x (hsm k x hx), hK, ⟨fun j k x y hx hy hxy => ?_, fun _ _ _ => trivial⟩⟩
    · rw [ha, List.map_map]
      congr 1
      apply List.map_congr_left
      intro v _
      exact cw_v_comp ad io v
    · obtain ⟨q1, g1, -⟩ := cw_w_inv hx
      obtain ⟨q2, g2, -⟩ := cw_w_inv hy
      exact hinj j k (cw_lt g1) (cw_lt g2) (hD.1 (io j) (io k) x y (hsm j x hx) (hsm k y hy) hxy)
  · rintro a s o t ⟨ha, hs, hP, hK, hD⟩ ⟨⟨ad', hk, ho, hP1, hD1⟩, hF⟩
    have e2 : ad' = fun k => ad (io k) := funext fun k => hk k (by omega)
    subst e2
    have hlt : ∀ (j : Nat) (x : Nat × va_E), (cw_w cA ad h')[j]? = some x → ∃ y : Nat × va_E, (cw_w cA ad h)[j]? = some y ∧ y.1 = x.1 := by
      intro j x hx
      obtain ⟨q, g1, g2⟩ := cw_w_inv hx
      have hj : j < h.length := by rw [← hL]; exact cw_lt g1
      exact ⟨_, cw_w_get (List.getElem?_eq_getElem hj), by rw [g2]⟩
    refine ⟨⟨ad, fun _ _ => rfl, ?_, ?_, ?_⟩, hF.1, fun q h1 h2 => hF.2 q h1 (fun z => h2 (hA q z))⟩
    · rw [ho]
      cases r with
      | none => rfl
      | some v => simp only [Option.map_some, cw_v_comp]
    · intro j x hx
      obtain ⟨q, g1, g2⟩ := cw_w_inv hx
      by_cases hex : ∃ k, k < hc.length ∧ io k = j
      · obtain ⟨k, hk2, rfl⟩ := hex
        have g3 : hc'[k]? = some (hc'[k]'(by omega)) := List.getElem?_eq_getElem (by omega)
        have g4 := hnew k _ g3
        rw [g1] at g4
        cases g4
        have g5 := hP1 k _ (cw_w_get g3)
        rw [g2, cw_e_comp]
        exact g5
      · have hj : j < h.length := by rw [← hL]; exact cw_lt g1
        have g3 := hold j hj (fun k hk2 e => hex ⟨k, hk2, e⟩)
        rw [g1] at g3
        have g4 := hP j _ (cw_w_get g3.symm)
        rw [g2]
        refine g4.kept (hF.2 _ g4.lt (fun z => ?_))
        rcases z with ⟨k, y, hy⟩ | z
        · obtain ⟨q2, g6, g7⟩ := cw_w_inv hy
          exact hex ⟨k, cw_lt g6, hD.1 (io k) j _ _ (hsm k _ hy) (cw_w_get g3.symm) rfl⟩
        · exact absurd g4.lt (by rw [hs]; exact Nat.not_lt.mpr z)
    · refine ⟨fun j k x y hx hy hxy => ?_, fun k x hx => ?_⟩
      · obtain ⟨x', hx', ex⟩ := hlt j x hx
        obtain ⟨y', hy', ey⟩ := hlt k y hy
        exact hD.1 j k x' y' hx' hy' (by rw [ex, ey, hxy])
      · obtain ⟨x', hx', ex⟩ := hlt k x hx
        exact Or.inl ⟨k, x'.2, by rw [← ex]; exact hx'⟩
/-- a value, a cell that speaks of places below n alone -/
def cw_wfv (n : Nat) (v : Value) : Prop := match v with
  | .ref k => k < n
  | _ => True
def cw_wfe (n : Nat) (q : cw_E) : Prop := match q with
  | .inl (_, (_, .inr (.inr (.inr (.inr f))))) => ∀ j k, f j = some k → k < n
  | .inl _ => True
  | .inr o => ∀ v ∈ o.2, cw_wfv n v
theorem cw_wfv_eq {n : Nat} {v : Value} (h : cw_wfv n v) {ad ad' : Nat → Nat} (e : ∀ k, k < n → ad' k = ad k) : cw_v ad' v = cw_v ad v := by
  cases v with
  | ref k => exact congrArg Value.ref (e k h)
  | _ => rfl
theorem cw_wfe_eq {n : Nat} {q : cw_E} (h : cw_wfe n q) {ad ad' : Nat → Nat} (e : ∀ k, k < n → ad' k = ad k) (cA : Nat → ClassId) : cw_e cA ad' q = cw_e cA ad q := by
  obtain ⟨a, n2, f | f | f | f | f⟩ | o := q
  · rfl
  · rfl
  · rfl
  · rfl
  · show (Sum.inl (cA a, n2, Sum.inr (Sum.inr (Sum.inr (Sum.inr (fun j => (f j).map ad'))))) : va_E) = Sum.inl (cA a, n2, Sum.inr (Sum.inr (Sum.inr (Sum.inr (fun j => (f j).map ad)))))
    have : (fun j => (f j).map ad') = fun j => (f j).map ad := by
      funext j
      cases hf : f j with
      | none => rfl
      | some k => exact congrArg some (e k (h j k hf))
    rw [this]
  · show (Sum.inr (o.1, o.2.map (cw_v ad')) : va_E) = Sum.inr (o.1, o.2.map (cw_v ad))
    congr 2
    apply List.map_congr_left
    intro v hv
    exact cw_wfv_eq (h v hv) e
/-- the same, where the method makes cells: they come behind the larger heap's -/
theorem cw_frameA {l : Launch} {i : cw_I} {mc ms : Nat} {av : List Value} {hc : cw_H} {r : Option Value} {hc' : cw_H} (hM : cw_M l i mc ms av hc r hc') (io : Nat → Nat) {h h' : cw_H}
    (hl : hc.length ≤ hc'.length) (hL : h'.length = h.length + (hc'.length - hc.length)) (hsub : ∀ k q, hc[k]? = some q → h[io k]? = some (cw_re io q)) (hinj : ∀ j k, j < hc.length → k < hc.length → io j = io k → j = k)
    (hio : ∀ k, hc.length ≤ k → k < hc'.length → io k = h.length + (k - hc.length))
    (hnew : ∀ k q, hc'[k]? = some q → h'[io k]? = some (cw_re io q)) (hold : ∀ j, j < h.length → (∀ k, k < hc.length → io k ≠ j) → h'[j]? = h[j]?)
    (hwc : ∀ q ∈ hc', cw_wfe hc'.length q) (hwh : ∀ q ∈ h, cw_wfe h.length q) (hwr : ∀ v, r = some v → cw_wfv hc'.length v) : cw_M l i mc ms (av.map (cw_v io)) h (r.map (cw_v io)) h' := by
  intro D cA ad sz
  have hsm : ∀ (k : Nat) (x : Nat × va_E), (cw_w cA (fun k => ad (io k)) hc)[k]? = some x → (cw_w cA ad h)[io k]? = some x := by
    intro k x hx
    obtain ⟨q, h1, h2⟩ := cw_w_inv hx
    rw [cw_w_get (hsub k q h1), h2, cw_e_comp]
  have hA : ∀ q, va_A (cw_w cA (fun k => ad (io k)) hc) sz q → va_A (cw_w cA ad h) sz q := by
    intro q hq
    rcases hq with ⟨k, x, hx⟩ | hq
    · exact Or.inl ⟨io k, x, hsm k _ hx⟩
    · exact Or.inr hq
  refine cw_M_mono (hM D cA (fun k => ad (io k)) sz) ?_ ?_ hA
  · rintro a s ⟨ha, hs, hP, hK, hD⟩
    refine ⟨?_, hs, fun k x hx => hP (io k) x (hsm k x hx), hK, ⟨fun j k x y hx hy hxy => ?_, fun _ _ _ => trivial⟩⟩
    · rw [ha, List.map_map]
      congr 1
      apply List.map_congr_left
      intro v _
      exact cw_v_comp ad io v
    · obtain ⟨q1, g1, -⟩ := cw_w_inv hx
      obtain ⟨q2, g2, -⟩ := cw_w_inv hy
      exact hinj j k (cw_lt g1) (cw_lt g2) (hD.1 (io j) (io k) x y (hsm j x hx) (hsm k y hy) hxy)
  · rintro a s o t ⟨ha, hs, hP, hK, hD⟩ ⟨⟨adc, hk, ho, hP1, hD1⟩, hF⟩
    -- the larger heap's addresses behind the call
    obtain ⟨ad', had⟩ : ∃ ad' : Nat → Nat, ad' = fun j => if h.length ≤ j ∧ j < h'.length then adc (hc.length + (j - h.length)) else ad j := ⟨_, rfl⟩
    have had1 : ∀ j, j < h.length ∨ h'.length ≤ j → ad' j = ad j := by
      intro j hj
      rw [had]
      exact if_neg (by omega)
    have iolt : ∀ k, k < hc.length → io k < h.length := fun k hk2 => cw_lt (hsub k _ (List.getElem?_eq_getElem hk2))
    have had2 : ∀ k, k < hc'.length → ad' (io k) = adc k := by
      intro k hk2
      by_cases c : k < hc.length
      · rw [had1 _ (Or.inl (iolt k c)), hk k (Or.inl c)]
      · rw [had, hio k (by omega) hk2]
        show (if h.length ≤ h.length + (k - hc.length) ∧ h.length + (k - hc.length) < h'.length then adc (hc.length + (h.length + (k - hc.length) - h.length)) else _) = _
        rw [if_pos (by omega), show hc.length + (h.length + (k - hc.length) - h.length) = k by omega]
    have ecell : ∀ q, cw_wfe hc'.length q → cw_e cA ad' (cw_re io q) = cw_e cA adc q := by
      intro q hq
      rw [cw_e_comp]
      exact cw_wfe_eq hq had2 cA
    -- a place of the new heap: an untouched one, or one of the callee's
    have hsplit : ∀ (j : Nat) (x : Nat × va_E), (cw_w cA ad' h')[j]? = some x → (∃ k, k < hc'.length ∧ io k = j ∧ (cw_w cA adc hc')[k]? = some x) ∨ (j < h.length ∧ (∀ k, k < hc.length → io k ≠ j) ∧ (cw_w cA ad h)[j]? = some x) := by
      intro j x hx
      obtain ⟨q, g1, g2⟩ := cw_w_inv hx
      by_cases hex : ∃ k, k < hc'.length ∧ io k = j
      · obtain ⟨k, hk2, rfl⟩ := hex
        left
        refine ⟨k, hk2, rfl, ?_⟩
        have g3 : hc'[k]? = some hc'[k] := List.getElem?_eq_getElem hk2
        have g4 := hnew k _ g3
        rw [g1] at g4
        cases g4
        rw [cw_w_get g3, g2, ecell _ (hwc _ (List.mem_of_getElem? g3)), had2 k hk2]
      · right
        have hj2 := cw_lt g1
        have hj : j < h.length := by
          rcases Nat.lt_or_ge j h.length with z | z
          · exact z
          · exact absurd ⟨hc.length + (j - h.length), by omega, by rw [hio _ (by omega) (by omega)]; omega⟩ hex
        have g3 := hold j hj (fun k hk2 e => hex ⟨k, by omega, e⟩)
        rw [g1] at g3
        refine ⟨hj, fun k hk2 e => hex ⟨k, by omega, e⟩, ?_⟩
        rw [cw_w_get g3.symm, g2, had1 j (Or.inl hj), cw_wfe_eq (hwh _ (List.mem_of_getElem? g3.symm)) (fun k hk2 => had1 k (Or.inl hk2)) cA]
    have hout : ∀ (j : Nat) (x : Nat × va_E), j < h.length → (∀ k, k < hc.length → io k ≠ j) → (cw_w cA ad h)[j]? = some x → x.1 < s.heap.size ∧ ¬ va_A (cw_w cA (fun k => ad (io k)) hc) sz x.1 := by
      intro j x hj hn hx
      have g4 := (hP j _ hx).lt
      refine ⟨g4, fun z => ?_⟩
      rcases z with ⟨k, y, hy⟩ | z
      · obtain ⟨q2, g6, -⟩ := cw_w_inv hy
        exact hn k (cw_lt g6) (hD.1 (io k) j _ _ (hsm k _ hy) hx rfl)
      · omega
    refine ⟨⟨ad', had1, ?_, ?_, ?_⟩, hF.1, fun q h1 h2 => hF.2 q h1 (fun z => h2 (hA q z))⟩
    · rw [ho]
      cases r with
      | none => rfl
      | some v =>
        simp only [Option.map_some, cw_v_comp]
        rw [cw_wfv_eq (hwr v rfl) had2]
    · intro j x hx
      rcases hsplit j x hx with ⟨k, hk2, rfl, g⟩ | ⟨hj, hn, g⟩
      · exact hP1 k x g
      · obtain ⟨q1, q2⟩ := hout j x hj hn g
        exact (hP j x g).kept (hF.2 _ q1 q2)
    · refine ⟨fun j k x y hx hy hxy => ?_, fun k x hx => ?_⟩
      · rcases hsplit j x hx with ⟨k1, hk1, rfl, g⟩ | ⟨hj, hn, g⟩
        · rcases hsplit k y hy with ⟨k2, hk2, rfl, g2⟩ | ⟨hj2, hn2, g2⟩
          · rw [hD1.1 k1 k2 x y g g2 hxy]
          · exact absurd (by rw [← hxy]; exact hD1.2 k1 x g) (hout k y hj2 hn2 g2).2
        · rcases hsplit k y hy with ⟨k2, hk2, rfl, g2⟩ | ⟨hj2, hn2, g2⟩
          · exact absurd (by rw [hxy]; exact hD1.2 k2 y g2) (hout j x hj hn g).2
          · exact hD.1 j k x y g g2 hxy
      · rcases hsplit k x hx with ⟨k1, hk1, rfl, g⟩ | ⟨hj, hn, g⟩
        · exact hA _ (hD1.2 k1 x g)
        · exact Or.inl ⟨k, x.2, g⟩
/-- .. where the small heap lies as a block of the larger one -/
theorem cw_lift {l : Launch} {i : cw_I} {mc ms : Nat} {av : List Value} {hc : cw_H} {r : Option Value} {hc' : cw_H} (hM : cw_M l i mc ms av hc r hc') (hl : hc'.length = hc.length) (A B : cw_H) {b : Nat} (hb : A.length = b) :
    cw_M l i mc ms (av.map (cw_v (fun k => b + k))) (A ++ hc.map (cw_re (fun k => b + k)) ++ B) (r.map (cw_v (fun k => b + k))) (A ++ hc'.map (cw_re (fun k => b + k)) ++ B) := by
  have hg : ∀ (X : cw_H) (k : Nat) (q : cw_E), X[k]? = some q → (A ++ X.map (cw_re (fun k => b + k)) ++ B)[b + k]? = some (cw_re (fun k => b + k) q) := by
    intro X k q e
    have := cw_lt e
    rw [List.append_assoc, List.getElem?_append_right (by omega), show b + k - A.length = k by omega, List.getElem?_append_left (by rw [List.length_map]; exact this), List.getElem?_map, e]
    rfl
  refine cw_frame0 hM (fun k => b + k) hl (by simp [hl]) (hg hc) (fun j k _ _ e => by simpa using e) (hg hc') (fun j hj hn => ?_)
  by_cases h1 : j < b
  · rw [List.append_assoc, List.append_assoc, List.getElem?_append_left (by omega), List.getElem?_append_left (by omega)]
  · have h2 : b + hc.length ≤ j := by
      rcases Nat.lt_or_ge j (b + hc.length) with z | z
      · exact absurd (by omega : b + (j - b) = j) (hn (j - b) (by omega))
      · exact z
    rw [List.getElem?_append_right (by simp; omega), List.getElem?_append_right (by simp; omega)]
    simp [hl]
end
section
/-! new cells, and calls that make some -/
def cw_up (ad : Nat → Nat) (n a : Nat) : Nat → Nat := fun k => if k = n then a else ad k
theorem cw_up_lt {ad : Nat → Nat} {n a : Nat} : ∀ k, k < n → cw_up ad n a k = ad k := fun k hk => if_neg (by omega)
def cw_wf (n : Nat) (lv : cw_LV) (st : List Value) (h : cw_H) : Prop := (∀ q ∈ lv, cw_wfv n q.2) ∧ (∀ v ∈ st, cw_wfv n v) ∧ ∀ q ∈ h, cw_wfe n q
theorem cw_w_eq {n : Nat} {h : cw_H} (hw : ∀ q ∈ h, cw_wfe n q) (hn : h.length ≤ n) {ad ad' : Nat → Nat} (e : ∀ k, k < n → ad' k = ad k) (cA : Nat → ClassId) : cw_w cA ad' h = cw_w cA ad h := by
  apply List.ext_getElem?
  intro j
  simp only [cw_w, List.getElem?_mapIdx]
  cases hj : h[j]? with
  | none => rfl
  | some q =>
    have := cw_lt hj
    simp only [Option.map_some]
    rw [e j (by omega), cw_wfe_eq (hw _ (List.mem_of_getElem? hj)) e cA]
theorem cw_L_eq {n : Nat} {lv : cw_LV} (hw : ∀ q ∈ lv, cw_wfv n q.2) {ad ad' : Nat → Nat} (e : ∀ k, k < n → ad' k = ad k) : cw_L ad' lv = cw_L ad lv := by
  apply List.map_congr_left
  intro q hq
  rw [cw_wfv_eq (hw q hq) e]
theorem cw_st_eq {n : Nat} {st : List Value} (hw : ∀ q ∈ st, cw_wfv n q) {ad ad' : Nat → Nat} (e : ∀ k, k < n → ad' k = ad k) : st.map (cw_v ad') = st.map (cw_v ad) := by
  apply List.map_congr_left
  intro q hq
  exact cw_wfv_eq (hw q hq) e
theorem cw_w_push (cA : Nat → ClassId) (ad : Nat → Nat) (h : cw_H) (q : cw_E) : cw_w cA ad (h ++ [q]) = cw_w cA ad h ++ [(ad h.length, cw_e cA ad q)] := by
  simp only [cw_w, List.mapIdx_append, List.mapIdx_cons, List.mapIdx_nil, Nat.zero_add]
theorem cw_new {l : Launch} {ii : cw_I} {mc ms : Nat} {h0 : cw_H} {r : Option Value} {h1 : cw_H} {kc ks pc idx ci : Nat} {lv : cw_LV} {st : List Value} {h : cw_H} (fs : List Value) (hi : cw_okD ii) (hk : kc + 1 ≤ mc ∧ ks + cw_cn ci ≤ ms) (hd : cw_look (cw_tb ii) pc = some (.new idx, 3)) (hn : cw_look (cw_news (cw_c ii)) idx = some ci)
    (hfs : ∀ j, j < cw_cn ci → defaultValue (cw_ty ci j) = vp_V fs j) (hfv : ∀ ad, fs.map (cw_v ad) = fs) (w : cw_wf h.length lv st h) (h0l : h0.length ≤ h.length) (h1l : h.length < h1.length)
    (kk : cw_W l ii mc ms h0 r h1 (kc + 1) (ks + cw_cn ci) (pc + 3) lv (.ref h.length :: st) (h ++ [.inr (ci, fs)])) : cw_W l ii mc ms h0 r h1 kc ks pc lv st h := by
  intro p e R s m args below meth c D cA ad0 hX hR1 hR2 ad H locs ls hkp hP hD hS hl
  have hX0 := hX
  obtain ⟨hx, hb, hml, hown, hts, hKs, hfr, hlo, hnm, hret, hlocks⟩ := hX
  have hdg := hi.1 _ (cw_look_mem hd)
  obtain ⟨h4, n1, n2, n3⟩ := cw_nok _ _ (cw_look_mem hn)
  refine va_new (ci := ci) (fs := fs) (C := cw_own ci) (T := cw_FT ci) (N := cw_cn ci) hx hb hts (cw_in_u ci h4) (cw_ty ci) (cw_tyok ci h4) hown (hts _ n1) (hts _ n2) (hts _ n3) hKs.1 hP hD hS (fun q hq => Or.inr hq) (cw_cl ci h4) hfs (by omega) (by omega) hdg (fun q H1 hP1 hD1 hS1 => ?_)
  have e1 : ∀ k, k < h.length → cw_up ad h.length q k = ad k := cw_up_lt
  have ew : cw_w cA (cw_up ad h.length q) (h ++ [.inr (ci, fs)]) = cw_w cA ad h ++ [(q, .inr (ci, fs))] := by
    rw [cw_w_push, cw_w_eq w.2.2 (Nat.le_refl _) e1]
    show cw_w cA ad h ++ [(cw_up ad h.length q h.length, Sum.inr (ci, fs.map (cw_v (cw_up ad h.length q))))] = _
    rw [hfv, show cw_up ad h.length q h.length = q from if_pos rfl]
  have := kk p e R s m args below meth c D cA ad0 hX0 hR1 hR2 (cw_up ad h.length q) H1 locs ls (fun k hk2 => by rw [← hkp k hk2]; exact if_neg (by omega)) (by rw [ew]; exact hP1) (by rw [ew]; exact hD1) hS1 (by rw [cw_L_eq w.1 e1]; exact hl)
  rw [List.map_cons, cw_st_eq w.2.1 e1] at this
  have e2 : cw_v (cw_up ad h.length q) (.ref h.length) = .ref q := congrArg Value.ref (if_pos rfl)
  rw [e2] at this
  exact this
theorem cw_newa {l : Launch} {ii : cw_I} {mc ms : Nat} {h0 : cw_H} {r : Option Value} {h1 : cw_H} {kc ks pc N : Nat} {lv : cw_LV} {st : List Value} {h : cw_H} (kd : Nat) (ty : ClassFile.ArrayType) (hkd : (kd = 0 ∧ ty = .int) ∨ (kd = 1 ∧ ty = .char)) (hi : cw_okD ii) (hk : kc + 1 ≤ mc ∧ ks + N ≤ ms) (hd : cw_look (cw_tb ii) pc = some (.newarray ty, 2)) (hN : N ≤ 65536)
    (w : cw_wf h.length lv st h) (h0l : h0.length ≤ h.length) (h1l : h.length < h1.length)
    (kk : cw_W l ii mc ms h0 r h1 (kc + 1) (ks + N) (pc + 2) lv (.ref h.length :: st) (h ++ [.inl (kd, N, .inl (fun _ => 0))])) : cw_W l ii mc ms h0 r h1 kc ks pc lv (.int (nI N) :: st) h := by
  intro p e R s m args below meth c D cA ad0 hX hR1 hR2 ad H locs ls hkp hP hD hS hl
  have hX0 := hX
  obtain ⟨hx, hb, hml, hown, hts, hKs, hfr, hlo, hnm, hret, hlocks⟩ := hX
  have hdg := hi.1 _ (cw_look_mem hd)
  have fin : ∀ (q : Nat) (H1 : Heap), va_P D vwCl (cw_w cA ad h ++ [(q, .inl (cA kd, N, .inl (fun _ => 0)))]) H1 → va_D (va_A (cw_w cA ad0 h0) s.heap.size) (cw_w cA ad h ++ [(q, .inl (cA kd, N, .inl (fun _ => 0)))]) → va_S (va_A (cw_w cA ad0 h0) s.heap.size) s.heap H1 locs → W p l e R s m args below meth c H1 locs (kc + 1) (ks + N) (MQ below (cw_Q D cA ad0 h0 r h1 (va_A (cw_w cA ad0 h0) s.heap.size)) args s mc ms (va_A (cw_w cA ad0 h0) s.heap.size)) (F0 m (pc + 2) ls (.ref q :: st.map (cw_v ad))) := by
    intro q H1 hP1 hD1 hS1
    have e1 : ∀ k, k < h.length → cw_up ad h.length q k = ad k := cw_up_lt
    have ew : cw_w cA (cw_up ad h.length q) (h ++ [.inl (kd, N, .inl (fun _ => 0))]) = cw_w cA ad h ++ [(q, .inl (cA kd, N, .inl (fun _ => 0)))] := by
      rw [cw_w_push, cw_w_eq w.2.2 (Nat.le_refl _) e1]
      show cw_w cA ad h ++ [(cw_up ad h.length q h.length, _)] = _
      rw [show cw_up ad h.length q h.length = q from if_pos rfl]
      rfl
    have := kk p e R s m args below meth c D cA ad0 hX0 hR1 hR2 (cw_up ad h.length q) H1 locs ls (fun k hk2 => by rw [← hkp k hk2]; exact if_neg (by omega)) (by rw [ew]; exact hP1) (by rw [ew]; exact hD1) hS1 (by rw [cw_L_eq w.1 e1]; exact hl)
    rw [List.map_cons, cw_st_eq w.2.1 e1] at this
    have e2 : cw_v (cw_up ad h.length q) (.ref h.length) = .ref q := congrArg Value.ref (if_pos rfl)
    rw [e2] at this
    exact this
  have hN0 : ¬ nI N < 0 := nI_pos (by omega)
  have hN1 : (nI N).toNatClampNeg = N := nI_clamp (by omega)
  rcases hkd with ⟨rfl, rfl⟩ | ⟨rfl, rfl⟩
  · refine va_newa (atype := .int) (ty := .int) (a0 := (N, .inl (fun _ => 0))) hx hb (hts _ cw_g_ai) rfl hKs.1 hP hD hS (fun q hq => Or.inr hq) (fun _ => rfl) hN0 hN1 (by show N * 4 ≤ _; omega) (by omega) (by omega) hdg (fun q cA' H1 hK1 hP1 hD1 hS1 => ?_)
    have ec : cA' = cA 0 := by
      have g1 : s.vm.findClass ("[" ++ FieldType.int.toString) = some cA' := (hK1.2 3 (cA', .int) rfl).2
      have g2 : s.vm.findClass ("[" ++ FieldType.int.toString) = some (cA 0) := (hKs.1.2 0 (cA 0, .int) rfl).2
      exact Option.some.inj (g1.symm.trans g2)
    subst ec
    exact fin q H1 hP1 hD1 hS1
  · refine va_newa (atype := .char) (ty := .char) (a0 := (N, .inl (fun _ => 0))) hx hb (hts _ cw_g_ac) rfl hKs.1 hP hD hS (fun q hq => Or.inr hq) (fun _ => rfl) hN0 hN1 (by show N * 2 ≤ _; omega) (by omega) (by omega) hdg (fun q cA' H1 hK1 hP1 hD1 hS1 => ?_)
    have ec : cA' = cA 1 := by
      have g1 : s.vm.findClass ("[" ++ FieldType.char.toString) = some cA' := (hK1.2 3 (cA', .char) rfl).2
      have g2 : s.vm.findClass ("[" ++ FieldType.char.toString) = some (cA 1) := (hKs.1.2 1 (cA 1, .char) rfl).2
      exact Option.some.inj (g1.symm.trans g2)
    subst ec
    exact fin q H1 hP1 hD1 hS1
theorem cw_newq {l : Launch} {ii : cw_I} {mc ms : Nat} {h0 : cw_H} {r : Option Value} {h1 : cw_H} {kc ks pc N idx : Nat} {lv : cw_LV} {st : List Value} {h : cw_H} (hi : cw_okD ii) (hk : kc + 1 ≤ mc ∧ ks + N ≤ ms) (hd : cw_look (cw_tb ii) pc = some (.anewarray idx, 3)) (hn : cw_look (cw_news (cw_c ii)) idx = some 1) (hN : N ≤ 65536)
    (w : cw_wf h.length lv st h) (h0l : h0.length ≤ h.length) (h1l : h.length < h1.length)
    (kk : cw_W l ii mc ms h0 r h1 (kc + 1) (ks + N) (pc + 3) lv (.ref h.length :: st) (h ++ [.inl (2, N, .inr (.inr (.inr (.inr (fun _ => none)))))])) : cw_W l ii mc ms h0 r h1 kc ks pc lv (.int (nI N) :: st) h := by
  intro p e R s m args below meth c D cA ad0 hX hR1 hR2 ad H locs ls hkp hP hD hS hl
  have hX0 := hX
  obtain ⟨hx, hb, hml, hown, hts, hKs, hfr, hlo, hnm, hret, hlocks⟩ := hX
  have hdg := hi.1 _ (cw_look_mem hd)
  have hN0 : ¬ nI N < 0 := nI_pos (by omega)
  have hN1 : (nI N).toNatClampNeg = N := nI_clamp (by omega)
  obtain ⟨h4, n1, n2, n3⟩ := cw_nok _ _ (cw_look_mem hn)
  refine va_newq (C := RX1) hx hb hown (hts _ n1) hKs.2.1 hKs.1 hP hD hS (fun q hq => Or.inr hq) hN0 hN1 (by omega) (by omega) (by omega) hdg (fun q cA' H1 hK1 hP1 hD1 hS1 => ?_)
  have ec : cA' = cA 2 := by
    obtain ⟨_, _, _, _, _, g1⟩ := (hK1.2 3 (cA', .object RX1) rfl).2
    obtain ⟨_, _, _, _, _, g2⟩ := (hKs.1.2 2 (cA 2, .object RX1) rfl).2
    exact Option.some.inj (g1.symm.trans g2)
  subst ec
  have e1 : ∀ k, k < h.length → cw_up ad h.length q k = ad k := cw_up_lt
  have ew : cw_w cA (cw_up ad h.length q) (h ++ [.inl (2, N, .inr (.inr (.inr (.inr (fun _ => none)))))]) = cw_w cA ad h ++ [(q, .inl (cA 2, N, .inr (.inr (.inr (.inr (fun _ => none))))))] := by
    rw [cw_w_push, cw_w_eq w.2.2 (Nat.le_refl _) e1]
    show cw_w cA ad h ++ [(cw_up ad h.length q h.length, _)] = _
    rw [show cw_up ad h.length q h.length = q from if_pos rfl]
    rfl
  have := kk p e R s m args below meth c D cA ad0 hX0 hR1 hR2 (cw_up ad h.length q) H1 locs ls (fun k hk2 => by rw [← hkp k hk2]; exact if_neg (by omega)) (by rw [ew]; exact hP1) (by rw [ew]; exact hD1) hS1 (by rw [cw_L_eq w.1 e1]; exact hl)
  rw [List.map_cons, cw_st_eq w.2.1 e1] at this
  have e2 : cw_v (cw_up ad h.length q) (.ref h.length) = .ref q := congrArg Value.ref (if_pos rfl)
  rw [e2] at this
  exact this
/-- an instance method that may make cells -/
theorem cw_callAV {l : Launch} {ii ic : cw_I} {mc ms mc' ms' : Nat} {h0 : cw_H} {r rr : Option Value} {h1 : cw_H} {kc ks pc idx kd a ci : Nat} {fs : List Value} {lv : cw_LV} {st rs : List Value} {h h' : cw_H} (hi : cw_okD ii) (hk : kc + mc' ≤ mc ∧ ks + ms' ≤ ms) (hd : cw_look (cw_tb ii) pc = some (.invokevirtual idx, 3)) (hc : cw_look (cw_cls (cw_c ii)) idx = some (kd, ic))
    (hkd : kd = 0 ∨ kd = 3) (hn : cw_na ic ≤ st.length) (hf : cw_f ic < cw_f ii) (hdr : st.drop (cw_na ic) = .ref a :: rs) (hW : (rs.map fun v => v.category).sum ≤ 8) (hcell : h[a]? = some (.inr (ci, fs))) (hci : ci = cw_c ic) (hci4 : ci < 3)
    (hM : cw_M l ic mc' ms' (.ref a :: (st.take (cw_na ic)).reverse) h r h') (hle : h.length ≤ h'.length) (h0l : h0.length ≤ h.length) (h1l : h'.length ≤ h1.length) (wl : ∀ q ∈ lv, cw_wfv h.length q.2) (wr : ∀ v ∈ rs, cw_wfv h.length v)
    (kk : cw_W l ii mc ms h0 rr h1 (kc + mc') (ks + ms') (pc + 3) lv (r.toList ++ rs) h') : cw_W l ii mc ms h0 rr h1 kc ks pc lv st h := by
  intro p e R s m args below meth c D cA ad0 hX hR1 hR2 ad H locs ls hkp hP hD hS hl
  have hX0 := hX
  obtain ⟨hx, hb, hml, hown, hts, hK, hfr, hlo, -⟩ := hX
  have hdg : decode (cw_b ii) pc = .ok (.invokevirtual idx, 3) := hi.1 (pc, .invokevirtual idx, 3) (cw_look_mem hd)
  have hlk : cw_okC (cw_c ii) idx kd ic := cw_clok (cw_c ii) (idx, kd, ic) (cw_look_mem hc)
  have hls : ls.size = cw_nL ii := hl.1
  subst hci
  have hA1 := cw_A1 hD hS (fun q hq => Or.inr hq)
  have hkk : ∀ (ad' : Nat → Nat) (H1 : Heap) (locs1 : List Loc), (∀ k, k < h.length ∨ h'.length ≤ k → ad' k = ad k) → va_P D vwCl (cw_w cA ad' h') H1 → va_D (va_A (cw_w cA ad h) H.size) (cw_w cA ad' h') → H.size ≤ H1.size → (∀ q : Nat, q < H.size → ¬ va_A (cw_w cA ad h) H.size q → H1[q]? = H[q]?) → va_S (va_A (cw_w cA ad0 h0) s.heap.size) s.heap H1 locs1 → W p l e R s m args below meth c H1 locs1 (kc + mc') (ks + ms') (MQ below (cw_Q D cA ad0 h0 rr h1 (va_A (cw_w cA ad0 h0) s.heap.size)) args s mc ms (va_A (cw_w cA ad0 h0) s.heap.size)) (F0 m (pc + 3) ls ((r.map (cw_v ad')).toList ++ rs.map (cw_v ad))) := by
    intro ad' H1 locs1 e1 hP1 hD1 _ _ hS1
    have e2 : ∀ k, k < h.length → ad' k = ad k := fun k hk2 => e1 k (Or.inl hk2)
    have := kk p e R s m args below meth c D cA ad0 hX0 hR1 hR2 ad' H1 locs1 ls (fun k hk2 => by rw [← hkp k hk2]; exact e1 k (by omega)) hP1 (hD1.weaken (fun _ _ _ h => hA1 _ h)) hS1 (by rw [cw_L_eq wl e2]; exact hl)
    rw [List.map_append, cw_st_eq wr e2] at this
    cases r <;> exact this
  have hst : st.map (cw_v ad) = (((st.take (cw_na ic)).reverse.map (cw_v ad))).reverse ++ .ref (ad a) :: rs.map (cw_v ad) := by
    have e0 : st.map (cw_v ad) = (st.take (cw_na ic)).map (cw_v ad) ++ (st.drop (cw_na ic)).map (cw_v ad) := by rw [← List.map_append, List.take_append_drop]
    rw [e0, hdr, List.map_reverse, List.reverse_reverse]
    rfl
  have hWW : 2 * (F0 m pc ls (st.map (cw_v ad))).monitorRoom + ((rs.map (cw_v ad)).map fun v => v.category).sum ≤ 8 := lv_room (by rw [cw_cats]; exact hW)
  have hln : ((st.take (cw_na ic)).reverse.map (cw_v ad)).length = cw_na ic := by simp; omega
  have hR : cw_f ic + 1 ≤ R.frames ∧ 8 + (cw_nL ic + 11) + 35 * cw_f ic ≤ R.locals ∨ ¬ cw_nL ic ≤ 16 := by
    by_cases h15 : cw_nL ic ≤ 16
    · left; constructor <;> omega
    · right; exact h15
  have hpre := cw_pre (i := ic) (av := .ref a :: (st.take (cw_na ic)).reverse) hK hP hD
  have hrecv := va_recv (ci := cw_c ic) (q0 := a) hK.1 hP (cw_cl (cw_c ic) hci4) (cw_w_get hcell)
  rcases hkd with rfl | rfl
  · have hlk' : Cond.methodLink (cw_own (cw_c ii)) idx ic.1 ∈ cw_T ∧ Cond.instanceMethod ic.1 ∈ cw_T ∧ Cond.selects ic.1.cls ic.1 ic.1 ∈ cw_T ∧ cw_okI ic := by
      rcases hlk with ⟨_, h⟩ | ⟨h, _⟩ | ⟨h, _⟩ | ⟨h, _⟩ | ⟨h, _⟩ | ⟨h, _⟩ | ⟨h, _⟩ | ⟨h, _⟩ | ⟨h, _⟩ <;> first | exact h | exact absurd h (by decide)
    obtain ⟨g1, g2, h2s, h3⟩ := hlk'
    have h3' := h3
    obtain ⟨-, -, k3, k4, k5, k6, k7, k8, k9, k10⟩ := h3
    have hR2 := hR.resolve_right (fun q => q k10)
    rw [k5] at h2s
    refine cw_callG (va_runV (C := cw_own (cw_c ic)) (b := ad a) (As := (st.take (cw_na ic)).reverse.map (cw_v ad)) ⟨hx, hb, hml, hown, hts⟩ (hM D cA ad H.size) (n := cw_na ic) ⟨⟨rfl, rfl, hR2.1, hR2.2, pay_in hts (cw_good2 h3'), List.mem_cons_self, hts _ k3, hts _ k4, ⟨k7, k8⟩, fun sig hsig => ?_, hts _ g1⟩, hts _ g2, hts _ h2s⟩ ⟨hpre.1, hrecv, hpre.2⟩ rfl hln hls hst hWW hdg ⟨by omega, by omega⟩) hS (fun q _ h => hA1 q h) hA1 hkk
    rw [hsig] at k9; exact (Option.some.inj k9).symm
  · have hlk' : (∃ host, Cond.methodLinkNest (cw_own (cw_c ii)) idx ic.1 host ∈ cw_N) ∧ Cond.instanceMethod ic.1 ∈ cw_T ∧ Cond.selects ic.1.cls ic.1 ic.1 ∈ cw_T ∧ cw_okI ic := by
      rcases hlk with ⟨h, _⟩ | ⟨h, _⟩ | ⟨h, _⟩ | ⟨_, h⟩ | ⟨h, _⟩ | ⟨h, _⟩ | ⟨h, _⟩ | ⟨h, _⟩ | ⟨h, _⟩ <;> first | exact h | exact absurd h (by decide)
    obtain ⟨⟨host, g1⟩, g2, h2s, h3⟩ := hlk'
    have h3' := h3
    obtain ⟨-, -, k3, k4, k5, k6, k7, k8, k9, k10⟩ := h3
    have hR2 := hR.resolve_right (fun q => q k10)
    rw [k5] at h2s
    refine cw_callG (va_runVN (C := cw_own (cw_c ic)) (b := ad a) (As := (st.take (cw_na ic)).reverse.map (cw_v ad)) ⟨hx, hb, hml, hown, hts⟩ (hM D cA ad H.size) (n := cw_na ic) (host := host) ⟨⟨⟨rfl, rfl, hR2.1, hR2.2, pay_in hts (cw_good2 h3'), List.mem_cons_self⟩, hts _ k3, hts _ k4, ⟨k7, k8⟩, fun sig hsig => ?_, va_Nw.use rfl (hK.2.2 _ g1)⟩, hts _ g2, hts _ h2s⟩ ⟨hpre.1, hrecv, hpre.2⟩ rfl hln hls hst hWW hdg ⟨by omega, by omega⟩) hS (fun q _ h => hA1 q h) hA1 hkk
    rw [hsig] at k9; exact (Option.some.inj k9).symm
/-- a constructor -/
theorem cw_callAI {l : Launch} {ii ic : cw_I} {mc ms mc' ms' : Nat} {h0 : cw_H} {rr : Option Value} {h1 : cw_H} {kc ks pc idx kd a : Nat} {lv : cw_LV} {rs : List Value} {h h' : cw_H} (hi : cw_okD ii) (hk : kc + mc' ≤ mc ∧ ks + ms' ≤ ms) (hd : cw_look (cw_tb ii) pc = some (.invokespecial idx, 3)) (hc : cw_look (cw_cls (cw_c ii)) idx = some (kd, ic))
    (hkd : kd = 2 ∨ kd = 5) (hn : cw_na ic = 0) (hf : cw_f ic < cw_f ii) (hW : (rs.map fun v => v.category).sum ≤ 8)
    (hM : cw_M l ic mc' ms' [.ref a] h none h') (hle : h.length ≤ h'.length) (h0l : h0.length ≤ h.length) (h1l : h'.length ≤ h1.length) (wl : ∀ q ∈ lv, cw_wfv h.length q.2) (wr : ∀ v ∈ rs, cw_wfv h.length v)
    (kk : cw_W l ii mc ms h0 rr h1 (kc + mc') (ks + ms') (pc + 3) lv rs h') : cw_W l ii mc ms h0 rr h1 kc ks pc lv (.ref a :: rs) h := by
  intro p e R s m args below meth c D cA ad0 hX hR1 hR2 ad H locs ls hkp hP hD hS hl
  have hX0 := hX
  obtain ⟨hx, hb, hml, hown, hts, hK, hfr, hlo, -⟩ := hX
  have hdg : decode (cw_b ii) pc = .ok (.invokespecial idx, 3) := hi.1 (pc, .invokespecial idx, 3) (cw_look_mem hd)
  have hlk : cw_okC (cw_c ii) idx kd ic := cw_clok (cw_c ii) (idx, kd, ic) (cw_look_mem hc)
  have hls : ls.size = cw_nL ii := hl.1
  have hA1 := cw_A1 hD hS (fun q hq => Or.inr hq)
  have hkk : ∀ (ad' : Nat → Nat) (H1 : Heap) (locs1 : List Loc), (∀ k, k < h.length ∨ h'.length ≤ k → ad' k = ad k) → va_P D vwCl (cw_w cA ad' h') H1 → va_D (va_A (cw_w cA ad h) H.size) (cw_w cA ad' h') → H.size ≤ H1.size → (∀ q : Nat, q < H.size → ¬ va_A (cw_w cA ad h) H.size q → H1[q]? = H[q]?) → va_S (va_A (cw_w cA ad0 h0) s.heap.size) s.heap H1 locs1 → W p l e R s m args below meth c H1 locs1 (kc + mc') (ks + ms') (MQ below (cw_Q D cA ad0 h0 rr h1 (va_A (cw_w cA ad0 h0) s.heap.size)) args s mc ms (va_A (cw_w cA ad0 h0) s.heap.size)) (F0 m (pc + 3) ls (((none : Option Value).map (cw_v ad')).toList ++ rs.map (cw_v ad))) := by
    intro ad' H1 locs1 e1 hP1 hD1 _ _ hS1
    have e2 : ∀ k, k < h.length → ad' k = ad k := fun k hk2 => e1 k (Or.inl hk2)
    have := kk p e R s m args below meth c D cA ad0 hX0 hR1 hR2 ad' H1 locs1 ls (fun k hk2 => by rw [← hkp k hk2]; exact e1 k (by omega)) hP1 (hD1.weaken (fun _ _ _ h => hA1 _ h)) hS1 (by rw [cw_L_eq wl e2]; exact hl)
    rw [cw_st_eq wr e2] at this
    exact this
  have hWW : 2 * (F0 m pc ls ((Value.ref a :: rs).map (cw_v ad))).monitorRoom + ((rs.map (cw_v ad)).map fun v => v.category).sum ≤ 8 := lv_room (by rw [cw_cats]; exact hW)
  have hR : cw_f ic + 1 ≤ R.frames ∧ 8 + (cw_nL ic + 11) + 35 * cw_f ic ≤ R.locals ∨ ¬ cw_nL ic ≤ 16 := by
    by_cases h15 : cw_nL ic ≤ 16
    · left; constructor <;> omega
    · right; exact h15
  have hpre := cw_pre (i := ic) (av := [.ref a]) hK hP hD
  rcases hkd with rfl | rfl
  · have hlk' : Cond.methodLink (cw_own (cw_c ii)) idx ic.1 ∈ cw_T ∧ Cond.instanceMethod ic.1 ∈ cw_T ∧ ic.1.name = "<init>" ∧ ic.2.2.2.1 = none ∧ cw_okI ic := by
      rcases hlk with ⟨h, _⟩ | ⟨h, _⟩ | ⟨_, h⟩ | ⟨h, _⟩ | ⟨h, _⟩ | ⟨h, _⟩ | ⟨h, _⟩ | ⟨h, _⟩ | ⟨h, _⟩ <;> first | exact h | exact absurd h (by decide)
    obtain ⟨g1, g2, g3, g4, h3⟩ := hlk'
    have h3' := h3
    obtain ⟨-, -, k3, k4, k5, k6, k7, k8, k9, k10⟩ := h3
    have hR2 := hR.resolve_right (fun q => q k10)
    have hgood := cw_good2 h3'
    have hMM := hM D cA ad H.size
    rw [show cw_r ic = none from g4] at hgood hMM
    rw [g4] at k3
    refine cw_callG (va_runI (b := ad a) (As := []) ⟨hx, hb, hml, hown, hts⟩ hMM (n := 0) ⟨⟨rfl, rfl, hR2.1, hR2.2, pay_in hts hgood, List.mem_cons_self, hts _ k3, hts _ k4, ⟨k7, k8⟩, fun sig hsig => ?_, hts _ g1⟩, g3, hts _ g2⟩ hpre rfl rfl hls rfl hWW hdg ⟨by omega, by omega⟩) hS (fun q _ h => hA1 q h) hA1 hkk
    rw [hsig] at k9; exact hn.symm.trans (Option.some.inj k9).symm
  · have hlk' : (∃ host, Cond.methodLinkNest (cw_own (cw_c ii)) idx ic.1 host ∈ cw_N) ∧ Cond.instanceMethod ic.1 ∈ cw_T ∧ ic.1.name = "<init>" ∧ ic.2.2.2.1 = none ∧ cw_okI ic := by
      rcases hlk with ⟨h, _⟩ | ⟨h, _⟩ | ⟨h, _⟩ | ⟨h, _⟩ | ⟨h, _⟩ | ⟨_, h⟩ | ⟨h, _⟩ | ⟨h, _⟩ | ⟨h, _⟩ <;> first | exact h | exact absurd h (by decide)
    obtain ⟨⟨host, g1⟩, g2, g3, g4, h3⟩ := hlk'
    have h3' := h3
    obtain ⟨-, -, k3, k4, k5, k6, k7, k8, k9, k10⟩ := h3
    have hR2 := hR.resolve_right (fun q => q k10)
    have hgood := cw_good2 h3'
    have hMM := hM D cA ad H.size
    rw [show cw_r ic = none from g4] at hgood hMM
    rw [g4] at k3
    refine cw_callG (va_runIN (b := ad a) (As := []) ⟨hx, hb, hml, hown, hts⟩ hMM (n := 0) (host := host) ⟨⟨⟨rfl, rfl, hR2.1, hR2.2, pay_in hts hgood, List.mem_cons_self⟩, hts _ k3, hts _ k4, ⟨k7, k8⟩, fun sig hsig => ?_, va_Nw.use rfl (hK.2.2 _ g1)⟩, g3, hts _ g2⟩ hpre rfl rfl hls rfl hWW hdg ⟨by omega, by omega⟩) hS (fun q _ h => hA1 q h) hA1 hkk
    rw [hsig] at k9; exact hn.symm.trans (Option.some.inj k9).symm
/-- places below n, by program (rows of references aside) -/
def cw_wfvb (n : Nat) (v : Value) : Bool := match v with
  | .ref k => Nat.blt k n
  | _ => true
def cw_wfeb (n : Nat) (q : cw_E) : Bool := match q with
  | .inl (_, (_, .inr (.inr (.inr (.inr _))))) => false
  | .inl _ => true
  | .inr o => o.2.all (cw_wfvb n)
theorem cw_wfvb_ok {n : Nat} {v : Value} (h : cw_wfvb n v = true) : cw_wfv n v := by
  cases v with
  | ref k => exact Nat.le_of_ble_eq_true h
  | _ => trivial
theorem cw_wfeb_ok {n : Nat} {q : cw_E} (h : cw_wfeb n q = true) : cw_wfe n q := by
  obtain ⟨a, n2, f | f | f | f | f⟩ | o := q
  · trivial
  · trivial
  · trivial
  · trivial
  · cases h
  · exact fun v hv => cw_wfvb_ok (List.all_eq_true.mp h v hv)
theorem cw_wfb_ok {n : Nat} {lv : cw_LV} {st : List Value} {h : cw_H} (e : (lv.all (fun q => cw_wfvb n q.2) && (st.all (cw_wfvb n) && h.all (cw_wfeb n))) = true) : cw_wf n lv st h := by
  simp only [Bool.and_eq_true] at e
  exact ⟨fun q hq => cw_wfvb_ok (List.all_eq_true.mp e.1 q hq), fun v hv => cw_wfvb_ok (List.all_eq_true.mp e.2.1 v hv), fun q hq => cw_wfeb_ok (List.all_eq_true.mp e.2.2 q hq)⟩
theorem cw_re_wf {n b : Nat} {q : cw_E} (h : cw_wfe n q) : cw_wfe (b + n) (cw_re (fun k => b + k) q) := by
  obtain ⟨a, n2, f | f | f | f | f⟩ | o := q
  · trivial
  · trivial
  · trivial
  · trivial
  · intro j k hj
    obtain ⟨k2, h1, h2⟩ := Option.map_eq_some_iff.mp (show (f j).map (fun k => b + k) = some k from hj)
    have := h j k2 h1
    omega
  · intro v hv
    obtain ⟨w, h1, rfl⟩ := List.mem_map.mp hv
    have := h w h1
    cases w with
    | ref k => exact Nat.add_lt_add_left this b
    | _ => trivial
/-- a contract that makes cells, where the small heap is the end of the larger one -/
theorem cw_liftA {l : Launch} {i : cw_I} {mc ms : Nat} {av : List Value} {hc : cw_H} {r : Option Value} {hc' : cw_H} (hM : cw_M l i mc ms av hc r hc') (hl : hc.length ≤ hc'.length) (A : cw_H) {b : Nat} (hb : A.length = b)
    (hwc : ∀ q ∈ hc', cw_wfe hc'.length q) (hwh : ∀ q ∈ hc, cw_wfe hc.length q) (hwA : ∀ q ∈ A, cw_wfe (b + hc.length) q) (hwr : ∀ v, r = some v → cw_wfv hc'.length v) :
    cw_M l i mc ms (av.map (cw_v (fun k => b + k))) (A ++ hc.map (cw_re (fun k => b + k))) (r.map (cw_v (fun k => b + k))) (A ++ hc'.map (cw_re (fun k => b + k))) := by
  have hg : ∀ (X : cw_H) (k : Nat) (q : cw_E), X[k]? = some q → (A ++ X.map (cw_re (fun k => b + k)))[b + k]? = some (cw_re (fun k => b + k) q) := by
    intro X k q e
    rw [List.getElem?_append_right (by omega), show b + k - A.length = k by omega, List.getElem?_map, e]
    rfl
  refine cw_frameA hM (fun k => b + k) hl (by simp; omega) (hg hc) (fun j k _ _ e => by simpa using e) (fun k h1 h2 => by simp; omega) (hg hc') (fun j hj hn => ?_) hwc ?_ hwr
  · have h1 : j < b := by
      rcases Nat.lt_or_ge j b with z | z
      · exact z
      · simp at hj
        exact absurd (by omega : b + (j - b) = j) (hn (j - b) (by omega))
    rw [List.getElem?_append_left (by omega), List.getElem?_append_left (by omega)]
  · intro q hq
    have e : (A ++ hc.map (cw_re (fun k => b + k))).length = b + hc.length := by simp [hb]
    rw [e]
    rcases List.mem_append.mp hq with h1 | h1
    · exact hwA q h1
    · obtain ⟨q2, h2, rfl⟩ := List.mem_map.mp h1
      exact cw_re_wf (hwh q2 h2)
end
section
/-! ===== Int32 by its bits: bt x i ===== -/
def bt (x : Int32) (i : Nat) : Bool := x.toBitVec.getLsbD i
theorem b_ext {x y : Int32} (h : ∀ i, i < 32 → bt x i = bt y i) : x = y := Int32.toBitVec_inj.mp (BitVec.eq_of_getLsbD_eq (fun i hi => h i hi))
theorem b_or (x y : Int32) (i : Nat) : bt (x ||| y) i = (bt x i || bt y i) := by unfold bt; rw [Int32.toBitVec_or, BitVec.getLsbD_or]
theorem b_and (x y : Int32) (i : Nat) : bt (x &&& y) i = (bt x i && bt y i) := by unfold bt; rw [Int32.toBitVec_and, BitVec.getLsbD_and]
theorem b_xor (x y : Int32) (i : Nat) : bt (x ^^^ y) i = (bt x i ^^ bt y i) := by unfold bt; rw [Int32.toBitVec_xor, BitVec.getLsbD_xor]
theorem b_big {x : Int32} {i : Nat} (h : 32 ≤ i) : bt x i = false := BitVec.getLsbD_of_ge _ _ h
theorem b_255 (i : Nat) : bt 255 i = decide (i < 8) := by
  rcases Nat.lt_or_ge i 32 with h | h
  · exact (by decide +kernel : ∀ i, i < 32 → bt 255 i = decide (i < 8)) i h
  · rw [b_big h, decide_eq_false (by omega)]
theorem b_65535 (i : Nat) : bt 65535 i = decide (i < 16) := by
  rcases Nat.lt_or_ge i 32 with h | h
  · exact (by decide +kernel : ∀ i, i < 32 → bt 65535 i = decide (i < 16)) i h
  · rw [b_big h, decide_eq_false (by omega)]
theorem b_m1 : ∀ i, i < 32 → bt (-1) i = true := by decide +kernel
theorem b_0 (i : Nat) : bt 0 i = false := BitVec.getLsbD_zero
theorem s_l : ∀ n, n < 32 → ((nI n &&& 31).toBitVec.smod 32).toNat = n := by decide +kernel
theorem s_u : ∀ n, n < 32 → (((nI n).toUInt32 &&& Int32.toUInt32 31).toBitVec % 32).toNat = n := by decide +kernel
theorem b_shl (n : Nat) (hn : n < 32) (x : Int32) {i : Nat} (hi : i < 32) : bt (x <<< (nI n &&& 31)) i = (decide (n ≤ i) && bt x (i - n)) := by
  unfold bt
  rw [Int32.toBitVec_shiftLeft]
  show (x.toBitVec <<< ((nI n &&& 31).toBitVec.smod 32).toNat).getLsbD i = _
  rw [s_l n hn, BitVec.getLsbD_shiftLeft]
  rcases Nat.lt_or_ge i n with h | h
  · simp [h, Nat.not_le.mpr h]
  · simp [hi, h, Nat.not_lt.mpr h]
theorem b_ushr (n : Nat) (hn : n < 32) (x : Int32) (i : Nat) : bt ((x.toUInt32 >>> ((nI n).toUInt32 &&& Int32.toUInt32 31)).toInt32) i = bt x (n + i) := by
  show (x.toUInt32 >>> ((nI n).toUInt32 &&& Int32.toUInt32 31)).toBitVec.getLsbD i = x.toUInt32.toBitVec.getLsbD (n + i)
  rw [UInt32.toBitVec_shiftRight]
  show (x.toUInt32.toBitVec >>> (((nI n).toUInt32 &&& Int32.toUInt32 31).toBitVec % 32).toNat).getLsbD i = _
  rw [s_u n hn, BitVec.getLsbD_ushiftRight]
theorem b_sshr (n : Nat) (hn : n < 32) (x : Int32) {i : Nat} (hi : i < 32) : bt (x >>> (nI n &&& 31)) i = if n + i < 32 then bt x (n + i) else bt x 31 := by
  unfold bt
  rw [Int32.toBitVec_shiftRight]
  show (x.toBitVec.sshiftRight ((nI n &&& 31).toBitVec.smod 32).toNat).getLsbD i = _
  rw [s_l n hn, BitVec.getLsbD_sshiftRight, BitVec.msb_eq_getLsbD_last]
  simp [hi]
theorem b_shl8 (x : Int32) {i : Nat} (hi : i < 32) : bt (x <<< ((8 : Int32) &&& 31)) i = (decide (8 ≤ i) && bt x (i - 8)) := b_shl 8 (by omega) x hi
theorem b_shl16 (x : Int32) {i : Nat} (hi : i < 32) : bt (x <<< ((16 : Int32) &&& 31)) i = (decide (16 ≤ i) && bt x (i - 16)) := b_shl 16 (by omega) x hi
theorem b_shl24 (x : Int32) {i : Nat} (hi : i < 32) : bt (x <<< ((24 : Int32) &&& 31)) i = (decide (24 ≤ i) && bt x (i - 24)) := b_shl 24 (by omega) x hi
theorem b_sshr8 (x : Int32) {i : Nat} (hi : i < 32) : bt (x >>> ((8 : Int32) &&& 31)) i = if 8 + i < 32 then bt x (8 + i) else bt x 31 := b_sshr 8 (by omega) x hi
/-! ===== how many places have a property ===== -/
def fb_ct (p : Nat → Bool) : Nat → Nat
  | 0 => 0
  | n + 1 => fb_ct p n + (if p n then 1 else 0)
theorem fb_ct_succ (p : Nat → Bool) (n : Nat) : fb_ct p (n + 1) = fb_ct p n + (if p n then 1 else 0) := rfl
theorem fb_ct_le (p : Nat → Bool) : ∀ n, fb_ct p n ≤ n
  | 0 => Nat.le_refl _
  | n + 1 => by
    have h := fb_ct_le p n
    rw [fb_ct_succ]
    split <;> omega
theorem fb_ct_step (p : Nat → Bool) (m : Nat) : ∀ n, fb_ct p m ≤ fb_ct p (m + n)
  | 0 => Nat.le_refl _
  | n + 1 => by
    have h := fb_ct_step p m n
    show fb_ct p m ≤ fb_ct p (m + n + 1)
    rw [fb_ct_succ]
    omega
theorem fb_ct_mono (p : Nat → Bool) {m n : Nat} (h : m ≤ n) : fb_ct p m ≤ fb_ct p n := by
  have := fb_ct_step p m (n - m)
  rwa [Nat.add_sub_cancel' h] at this
theorem fb_ct_cong {p q : Nat → Bool} : ∀ {n : Nat}, (∀ k, k < n → p k = q k) → fb_ct p n = fb_ct q n
  | 0, _ => rfl
  | n + 1, h => by
    rw [fb_ct_succ, fb_ct_succ, fb_ct_cong (fun k hk => h k (by omega)), h n (by omega)]
/-- one place changed -/
theorem fb_ct_out (p : Nat → Bool) (b : Bool) {i n : Nat} (h : n ≤ i) : fb_ct (fun k => if k = i then b else p k) n = fb_ct p n :=
  fb_ct_cong fun k hk => if_neg (by omega)
theorem fb_ct_upd (p : Nat → Bool) (b : Bool) {i : Nat} : ∀ {n : Nat}, i < n → fb_ct (fun k => if k = i then b else p k) n + (if p i then 1 else 0) = fb_ct p n + (if b then 1 else 0)
  | 0, h => absurd h (Nat.not_lt_zero i)
  | n + 1, h => by
    rw [fb_ct_succ, fb_ct_succ]
    rcases Nat.lt_or_ge i n with q | q
    · have := fb_ct_upd p b q
      have e : (if n = i then b else p n) = p n := if_neg (by omega)
      rw [e]
      omega
    · have e : i = n := by omega
      subst e
      rw [fb_ct_out p b (Nat.le_refl _)]
      simp only [if_true]
      omega
theorem fb_ct_sub {p q : Nat → Bool} : ∀ {n : Nat}, (∀ k, k < n → p k = true → q k = true) → fb_ct p n ≤ fb_ct q n
  | 0, _ => Nat.le_refl _
  | n + 1, h => by
    have h1 := fb_ct_sub (n := n) (p := p) (q := q) (fun k hk => h k (by omega))
    have h2 := h n (by omega)
    rw [fb_ct_succ, fb_ct_succ]
    cases hp : p n <;> cases hq : q n <;> simp_all <;> omega
theorem fb_ct_or {p q : Nat → Bool} : ∀ {n : Nat}, (∀ k, k < n → ¬ (p k = true ∧ q k = true)) → fb_ct (fun k => p k || q k) n = fb_ct p n + fb_ct q n
  | 0, _ => rfl
  | n + 1, h => by
    have h1 := fb_ct_or (n := n) (p := p) (q := q) (fun k hk => h k (by omega))
    have h2 := h n (by omega)
    rw [fb_ct_succ, fb_ct_succ, fb_ct_succ, h1]
    cases hp : p n <;> cases hq : q n <;> simp_all <;> omega
theorem fb_ct_not (p : Nat → Bool) : ∀ n, fb_ct p n + fb_ct (fun k => !p k) n = n
  | 0 => rfl
  | n + 1 => by
    have h := fb_ct_not p n
    rw [fb_ct_succ, fb_ct_succ]
    cases p n <;> simp <;> omega
theorem fb_ct_split (p : Nat → Bool) (m : Nat) : ∀ n, fb_ct p (m + n) = fb_ct p m + fb_ct (fun k => p (m + k)) n
  | 0 => rfl
  | n + 1 => by
    have h := fb_ct_split p m n
    show fb_ct p (m + n + 1) = _
    rw [fb_ct_succ, fb_ct_succ, h, Nat.add_assoc]
theorem fb_ct_zero {p : Nat → Bool} : ∀ {n : Nat}, fb_ct p n = 0 ↔ ∀ k, k < n → p k = false
  | 0 => ⟨fun _ k hk => absurd hk (Nat.not_lt_zero k), fun _ => rfl⟩
  | n + 1 => by
    have h := fb_ct_zero (p := p) (n := n)
    rw [fb_ct_succ]
    constructor
    · intro e k hk
      have e1 : fb_ct p n = 0 := by omega
      rcases Nat.lt_or_ge k n with q | q
      · exact h.mp e1 k q
      · have ek : k = n := by omega
        subst ek
        cases hp : p k
        · rfl
        · simp [hp] at e
    · intro a
      rw [h.mpr (fun k hk => a k (by omega)), a n (by omega)]
      rfl
theorem fb_ct_pos {p : Nat → Bool} {n : Nat} : 0 < fb_ct p n ↔ ∃ k, k < n ∧ p k = true := by
  constructor
  · intro h
    refine Classical.byContradiction fun hx => ?_
    have := fb_ct_zero.mpr (fun k hk => by
      cases hp : p k
      · rfl
      · exact absurd ⟨k, hk, hp⟩ hx : ∀ k, k < n → p k = false)
    omega
  · rintro ⟨k, hk, hp⟩
    rcases Nat.eq_zero_or_pos (fb_ct p n) with e | e
    · have := fb_ct_zero.mp e k hk
      rw [this] at hp
      cases hp
    · exact e
theorem fb_ct_all {p : Nat → Bool} {n : Nat} : fb_ct p n = n ↔ ∀ k, k < n → p k = true := by
  have h := fb_ct_not p n
  constructor
  · intro e k hk
    have z : fb_ct (fun k => !p k) n = 0 := by omega
    have := fb_ct_zero.mp z k hk
    cases hp : p k
    · simp [hp] at this
    · rfl
  · intro a
    have z : fb_ct (fun k => !p k) n = 0 := fb_ct_zero.mpr (fun k hk => by simp [a k hk])
    omega
/-- the k-th place with the property -/
theorem fb_ct_kth {p : Nat → Bool} {k : Nat} : ∀ {n : Nat}, k < fb_ct p n → ∃ i, i < n ∧ p i = true ∧ fb_ct p i = k
  | 0, h => absurd h (Nat.not_lt_zero k)
  | n + 1, h => by
    rcases Nat.lt_or_ge k (fb_ct p n) with q | q
    · obtain ⟨i, h1, h2⟩ := fb_ct_kth q
      exact ⟨i, by omega, h2⟩
    · rw [fb_ct_succ] at h
      cases hp : p n
      · simp [hp] at h; omega
      · simp [hp] at h
        exact ⟨n, by omega, hp, by omega⟩
theorem fb_ct_kth_one {p : Nat → Bool} {i j : Nat} (hi : p i = true) (hj : p j = true) (e : fb_ct p i = fb_ct p j) : i = j := by
  have key : ∀ a b : Nat, a < b → p a = true → fb_ct p a < fb_ct p b := by
    intro a b hab ha
    have h := fb_ct_mono p (show a + 1 ≤ b from hab)
    rw [fb_ct_succ, ha] at h
    simp at h
    omega
  rcases Nat.lt_trichotomy i j with q | q | q
  · have := key i j q hi; omega
  · exact q
  · have := key j i q hj; omega
/-! bits of signs -/
theorem cb_one {k : Nat} (hk : k < 32) {i : Nat} (hi : i < 32) : bt (nI 1 <<< (nI k &&& 31)) i = decide (i = k) := by
  rw [b_shl k hk _ hi]
  have h1 : ∀ j, j < 32 → bt (nI 1) j = decide (j = 0) := by decide +kernel
  rw [h1 (i - k) (by omega)]
  by_cases h : i = k
  · subst h; simp
  · rcases Nat.lt_or_ge k i with h2 | h2
    · rw [decide_eq_false (show ¬ i - k = 0 by omega), decide_eq_false h, Bool.and_false]
    · rw [decide_eq_false (show ¬ k ≤ i by omega), decide_eq_false h, Bool.false_and]
theorem cb_zero {x : Int32} : x = 0 ↔ ∀ i, i < 32 → bt x i = false := by
  constructor
  · intro h i _; rw [h]; exact b_0 i
  · intro h; exact b_ext (fun i hi => by rw [h i hi, b_0])
/-- does the set x hold the sign k? -/
theorem cb_has {x : Int32} {k : Nat} (hk : k < 32) : (x &&& (nI 1 <<< (nI k &&& 31))) = 0 ↔ bt x k = false := by
  rw [cb_zero]
  constructor
  · intro h
    have := h k hk
    rw [b_and, cb_one hk hk, decide_eq_true rfl, Bool.and_true] at this
    exact this
  · intro h i hi
    rw [b_and, cb_one hk hi]
    by_cases e : i = k
    · subst e; rw [h, Bool.false_and]
    · rw [decide_eq_false e, Bool.and_false]
/-- a truth as a number -/
def cb_n (b : Bool) : Int32 := if b then nI 1 else nI 0
theorem cb_n01 (b : Bool) : cb_n b = nI 0 ∨ cb_n b = nI 1 := by cases b <;> simp [cb_n]
theorem cb_n0 {b : Bool} : cb_n b = 0 ↔ b = false := by cases b <;> decide +kernel
theorem cb_nt {b : Bool} : ¬ cb_n b = 0 ↔ b = true := by cases b <;> decide +kernel
end
section
/-! static methods of the class -/
theorem cs_setOf (l : Launch) (h : cw_H) (x : Int32) : cw_M l mm_X2_setOf 0 0 [.int x] h (some (.int (nI 1 <<< (x &&& 31)))) h := by
  refine cw_enter cw_KX2_setOf (by decide) (Nat.le_of_ble_eq_true rfl) ?_
  exact cw_run cw_kX2_setOf cw_z 3 [] [] [] (cw_reti cw_kX2_setOf cw_z rfl rfl)
theorem cs_thingOf (l : Launch) (h : cw_H) (x : Int32) : cw_M l mm_X2_thingOf 0 0 [.int x] h (some (.int (if x < nI 10 then x else x - nI 10))) h := by
  refine cw_enter cw_KX2_thingOf (by decide) (Nat.le_of_ble_eq_true rfl) ?_
  by_cases c : x < nI 10
  · rw [if_pos c]
    exact cw_run cw_kX2_thingOf cw_z 4 [true] [] [] (And.intro (c) (cw_reti cw_kX2_thingOf cw_z rfl rfl))
  · rw [if_neg c]
    exact cw_run cw_kX2_thingOf cw_z 7 [false] [] [] (And.intro (c) (cw_reti cw_kX2_thingOf cw_z rfl rfl))
theorem cs_opposite (l : Launch) (h : cw_H) (x : Int32) : cw_M l mm_X2_opposite 0 0 [.int x] h (some (.int (if x < nI 10 then x + nI 10 else x - nI 10))) h := by
  refine cw_enter cw_KX2_opposite (by decide) (Nat.le_of_ble_eq_true rfl) ?_
  by_cases c : x < nI 10
  · rw [if_pos c]
    exact cw_run cw_kX2_opposite cw_z 6 [true] [] [] (And.intro (c) (cw_reti cw_kX2_opposite cw_z rfl rfl))
  · rw [if_neg c]
    exact cw_run cw_kX2_opposite cw_z 7 [false] [] [] (And.intro (c) (cw_reti cw_kX2_opposite cw_z rfl rfl))
theorem cs_has (l : Launch) (h : cw_H) (x : Int32) {k : Nat} (hk : k < 32) : cw_M l mm_X2_has 0 0 [.int x, .int (nI k)] h (some (.int (cb_n (bt x k)))) h := by
  refine cw_enter cw_KX2_has (by decide) (Nat.le_of_ble_eq_true rfl) ?_
  cases b : bt x k with
  | false => exact cw_run cw_kX2_has cw_z 6 [true] [] [(_, _)] (And.intro (cs_setOf l h (nI k)) (And.intro (Nat.le_refl _) (And.intro ((cb_has hk).mpr b) (cw_retz cw_kX2_has cw_z rfl rfl (Or.inl rfl)))))
  | true => exact cw_run cw_kX2_has cw_z 7 [false] [] [(_, _)] (And.intro (cs_setOf l h (nI k)) (And.intro (Nat.le_refl _) (And.intro (fun q => by rw [(cb_has hk).mp q] at b; cases b) (cw_retz cw_kX2_has cw_z rfl rfl (Or.inr rfl)))))
/-- the opposite signs of a set -/
def cb_op (x : Int32) : Int32 := ((x <<< (nI 10 &&& 31)) ||| (x >>> (nI 10 &&& 31))) &&& 1047550
theorem cs_opposites (l : Launch) (h : cw_H) (x : Int32) : cw_M l mm_X2_opposites 0 0 [.int x] h (some (.int (cb_op x))) h := by
  refine cw_enter cw_KX2_opposites (by decide) (Nat.le_of_ble_eq_true rfl) ?_
  exact cw_run cw_kX2_opposites cw_z 9 [] [] [] (cw_reti cw_kX2_opposites cw_z rfl rfl)
/-- the sign at a place, by the things from t on, n of them, behind ps passed ones -/
def cb_sio (x p : Int32) : Nat → Nat → Int32 → Int32
  | 0, _, _ => -nI 6
  | n + 1, t, ps => if bt (x ||| cb_op x) t then (if ps + nI 1 = p then (if bt x t then nI t else nI (t + 10)) else cb_sio x p n (t + 1) (ps + nI 1)) else cb_sio x p n (t + 1) ps
theorem cs_oppLo (l : Launch) (h : cw_H) {t : Nat} (ht : t < 10) : cw_M l mm_X2_opposite 0 0 [.int (nI t)] h (some (.int (nI (t + 10)))) h := by
  have := cs_opposite l h (nI t)
  rw [if_pos (nI_lt ht (by omega)), nI_add] at this
  exact this
theorem cs_sio_loop (l : Launch) (h : cw_H) (x p : Int32) : ∀ (n t : Nat) (ps : Int32), t + n = 10 → cw_W l mm_X2_signInOrder 0 0 h (some (.int (cb_sio x p n t ps))) h 0 0 4 [(3, .int (nI t)), (2, .int ps), (0, .int x), (1, .int p)] [] h := by
  intro n
  induction n with
  | zero =>
    intro t ps ht
    obtain rfl : t = 10 := by omega
    exact cw_run cw_kX2_signInOrder cw_z 4 [true] [] [] (And.intro ((show nI 9 < nI 10 from nI_lt (by omega) (by omega))) (cw_reti cw_kX2_signInOrder cw_z rfl rfl))
  | succ n ih =>
    intro t ps ht
    have hg : ¬ nI 9 < nI t := nI_nlt (by omega) (by omega)
    have ih1 := ih (t + 1) ps (by omega)
    have ih2 := ih (t + 1) (ps + nI 1) (by omega)
    rw [← nI_add t 1] at ih1 ih2
    cases b : bt (x ||| cb_op x) t with
    | false =>
      rw [show cb_sio x p (n + 1) t ps = cb_sio x p n (t + 1) ps by simp [cb_sio, b]]
      exact cw_run cw_kX2_signInOrder cw_z 12 [false, true] [] [(_, _), (_, _)] (And.intro (hg) (And.intro (cs_opposites l h x) (And.intro (Nat.le_refl _) (And.intro (cs_has l h _ (by omega)) (And.intro (Nat.le_refl _) (And.intro (cb_n0.mpr b) (ih1)))))))
    | true =>
      by_cases c : ps + nI 1 = p
      · cases b2 : bt x t with
        | true =>
          rw [show cb_sio x p (n + 1) t ps = nI t by simp [cb_sio, b, c, b2]]
          exact cw_run cw_kX2_signInOrder cw_z 20 [false, false, false, false] [] [(_, _), (_, _), (_, _)] (And.intro (hg) (And.intro (cs_opposites l h x) (And.intro (Nat.le_refl _) (And.intro (cs_has l h _ (by omega)) (And.intro (Nat.le_refl _) (And.intro (cb_nt.mpr b) (And.intro (fun q => q c) (And.intro (cs_has l h _ (by omega)) (And.intro (Nat.le_refl _) (And.intro (cb_nt.mpr b2) (cw_reti cw_kX2_signInOrder cw_z rfl rfl)))))))))))
        | false =>
          rw [show cb_sio x p (n + 1) t ps = nI (t + 10) by simp [cb_sio, b, c, b2]]
          exact cw_run cw_kX2_signInOrder cw_z 20 [false, false, false, true] [] [(_, _), (_, _), (_, _), (_, _)] (And.intro (hg) (And.intro (cs_opposites l h x) (And.intro (Nat.le_refl _) (And.intro (cs_has l h _ (by omega)) (And.intro (Nat.le_refl _) (And.intro (cb_nt.mpr b) (And.intro (fun q => q c) (And.intro (cs_has l h _ (by omega)) (And.intro (Nat.le_refl _) (And.intro (cb_n0.mpr b2) (And.intro (cs_oppLo l h (by omega)) (And.intro (Nat.le_refl _) (cw_reti cw_kX2_signInOrder cw_z rfl rfl)))))))))))))
      · rw [show cb_sio x p (n + 1) t ps = cb_sio x p n (t + 1) (ps + nI 1) by simp [cb_sio, b, c]]
        exact cw_run cw_kX2_signInOrder cw_z 16 [false, false, true] [] [(_, _), (_, _)] (And.intro (hg) (And.intro (cs_opposites l h x) (And.intro (Nat.le_refl _) (And.intro (cs_has l h _ (by omega)) (And.intro (Nat.le_refl _) (And.intro (cb_nt.mpr b) (And.intro (c) (ih2))))))))
theorem cs_signInOrder (l : Launch) (h : cw_H) (x p : Int32) : cw_M l mm_X2_signInOrder 0 0 [.int x, .int p] h (some (.int (cb_sio x p 9 1 (nI 0)))) h := by
  refine cw_enter cw_KX2_signInOrder (by decide) (Nat.le_of_ble_eq_true rfl) ?_
  exact cw_run cw_kX2_signInOrder cw_z 4 [] [] [] (cs_sio_loop l h x p 9 1 (nI 0) (by omega))
theorem cb_m (n : Nat) : nI n + -nI 1 = nI n - nI 1 := by rw [Int32.sub_eq_add_neg]
end
section
/-! the class's search: its heap, and the methods that read it -/
abbrev cs_S : Type := Int32 × Int32 × Int32 × Int32 × Int32 × (Nat → Int32) × Int32 × (Nat → Int32) × (Nat → Int32) × (Nat → Int32) × Int32 × Int32 × Int32 × Int32
abbrev cs_th (S : cs_S) : Int32 := S.1
abbrev cs_re (S : cs_S) : Int32 := S.2.1
abbrev cs_fi (S : cs_S) : Int32 := S.2.2.1
abbrev cs_to (S : cs_S) : Int32 := S.2.2.2.1
abbrev cs_le (S : cs_S) : Int32 := S.2.2.2.2.1
abbrev cs_cl (S : cs_S) : Nat → Int32 := S.2.2.2.2.2.1
abbrev cs_gi (S : cs_S) : Int32 := S.2.2.2.2.2.2.1
abbrev cs_sg (S : cs_S) : Nat → Int32 := S.2.2.2.2.2.2.2.1
abbrev cs_lv (S : cs_S) : Nat → Int32 := S.2.2.2.2.2.2.2.2.1
abbrev cs_rs (S : cs_S) : Nat → Int32 := S.2.2.2.2.2.2.2.2.2.1
abbrev cs_va (S : cs_S) : Int32 := S.2.2.2.2.2.2.2.2.2.2.1
abbrev cs_sd (S : cs_S) : Int32 := S.2.2.2.2.2.2.2.2.2.2.2.1
abbrev cs_co (S : cs_S) : Int32 := S.2.2.2.2.2.2.2.2.2.2.2.2.1
abbrev cs_sp (S : cs_S) : Int32 := S.2.2.2.2.2.2.2.2.2.2.2.2.2
def cs_h (S : cs_S) : cw_H := [.inr (1, [.int (cs_th S), .int (cs_re S), .int (cs_fi S), .int (cs_to S), .int (cs_le S), .ref 1, .int (cs_gi S), .ref 2, .ref 3, .ref 4, .int (cs_va S), .int (cs_sd S), .int (cs_co S), .int (cs_sp S)]), .inl (0, 60, .inl (cs_cl S)), .inl (0, 9, .inl (cs_sg S)), .inl (0, 9, .inl (cs_lv S)), .inl (0, 9, .inl (cs_rs S))]
theorem cs_clauseAt (l : Launch) (S : cs_S) {k : Nat} (hk : k < 60) : cw_M l mm_X1_clauseAt 0 0 [.ref 0, .int (nI k)] (cs_h S) (some (.int (cs_cl S k))) (cs_h S) := by
  refine cw_enter cw_KX1_clauseAt (by decide) (Nat.le_of_ble_eq_true rfl) ?_
  exact cw_run cw_kX1_clauseAt cw_z 12 [false, false] [_] [] (And.intro (nI_pos (by omega)) (And.intro ((show ¬ nI 60 ≤ nI k from nI_ge hk (by omega))) (And.intro (rfl) (And.intro (hk) (cw_reti cw_kX1_clauseAt cw_z rfl rfl)))))
/-- is a clause true? -/
def cs_tr (S : cs_S) (c : Int32) : Bool := decide (¬ (c &&& cs_va S) = 0)
/-- the open signs of a clause -/
def cs_op (S : cs_S) (c : Int32) : Int32 := c &&& ((cs_va S ||| cb_op (cs_va S)) ^^^ (-nI 1))
theorem cs_isTrue (l : Launch) (S : cs_S) (c : Int32) : cw_M l mm_X1_isTrue 0 0 [.ref 0, .int c] (cs_h S) (some (.int (cb_n (cs_tr S c)))) (cs_h S) := by
  refine cw_enter cw_KX1_isTrue (by decide) (Nat.le_of_ble_eq_true rfl) ?_
  by_cases h : (c &&& cs_va S) = 0
  · rw [show cs_tr S c = false by simp [cs_tr, h]]
    exact cw_run cw_kX1_isTrue cw_z 6 [true] [] [] (And.intro (h) (cw_retz cw_kX1_isTrue cw_z rfl rfl (Or.inl rfl)))
  · rw [show cs_tr S c = true by simp [cs_tr, h]]
    exact cw_run cw_kX1_isTrue cw_z 7 [false] [] [] (And.intro (h) (cw_retz cw_kX1_isTrue cw_z rfl rfl (Or.inr rfl)))
theorem cs_openSigns (l : Launch) (S : cs_S) (c : Int32) : cw_M l mm_X1_openSigns 0 0 [.ref 0, .int c] (cs_h S) (some (.int (cs_op S c))) (cs_h S) := by
  refine cw_enter cw_KX1_openSigns (by decide) (Nat.le_of_ble_eq_true rfl) ?_
  exact cw_run cw_kX1_openSigns cw_z 10 [] [] [(_, _)] (And.intro (cs_opposites l _ _) (And.intro (Nat.le_refl _) (cw_reti cw_kX1_openSigns cw_z rfl rfl)))
/-- the signs of a choice -/
def cs_ch (S : cs_S) (x : Int32) : Int32 := (x <<< (nI 1 &&& 31)) ||| (((nI 1 <<< (cs_th S &&& 31)) - nI 1 - x) <<< (nI 1 &&& 31)) <<< (nI 10 &&& 31)
/-- a place of the trail, looked at -/
theorem cs_signAt (l : Launch) (S : cs_S) {x : Int32} {k : Nat} (e : x = nI k) (hk : k < 9) : cw_M l mm_X1_signAt 0 0 [.ref 0, .int x] (cs_h S) (some (.int (cs_sg S k))) (cs_h S) := by
  subst e
  refine cw_enter cw_KX1_signAt (by decide) (Nat.le_of_ble_eq_true rfl) ?_
  exact cw_run cw_kX1_signAt cw_z 10 [false, false] [_] [] (And.intro (nI_pos (by omega)) (And.intro ((show ¬ nI 9 ≤ nI k from nI_ge hk (by omega))) (And.intro (rfl) (And.intro (hk) (cw_reti cw_kX1_signAt cw_z rfl rfl)))))
theorem cs_levelAt (l : Launch) (S : cs_S) {x : Int32} {k : Nat} (e : x = nI k) (hk : k < 9) : cw_M l mm_X1_levelAt 0 0 [.ref 0, .int x] (cs_h S) (some (.int (cs_lv S k))) (cs_h S) := by
  subst e
  refine cw_enter cw_KX1_levelAt (by decide) (Nat.le_of_ble_eq_true rfl) ?_
  exact cw_run cw_kX1_levelAt cw_z 10 [false, false] [_] [] (And.intro (nI_pos (by omega)) (And.intro ((show ¬ nI 9 ≤ nI k from nI_ge hk (by omega))) (And.intro (rfl) (And.intro (hk) (cw_reti cw_kX1_levelAt cw_z rfl rfl)))))
theorem cs_reasonAt (l : Launch) (S : cs_S) {x : Int32} {k : Nat} (e : x = nI k) (hk : k < 9) : cw_M l mm_X1_reasonAt 0 0 [.ref 0, .int x] (cs_h S) (some (.int (cs_rs S k))) (cs_h S) := by
  subst e
  refine cw_enter cw_KX1_reasonAt (by decide) (Nat.le_of_ble_eq_true rfl) ?_
  exact cw_run cw_kX1_reasonAt cw_z 10 [false, false] [_] [] (And.intro (nI_pos (by omega)) (And.intro ((show ¬ nI 9 ≤ nI k from nI_ge hk (by omega))) (And.intro (rfl) (And.intro (hk) (cw_reti cw_kX1_reasonAt cw_z rfl rfl)))))
/-- the present level, where g values are given -/
def cs_pl (S : cs_S) (g : Nat) : Int32 := if g = 0 then nI 0 else cs_lv S (g - 1)
theorem cs_presentLevel (l : Launch) (S : cs_S) {g : Nat} (hg : cs_gi S = nI g) (h9 : g ≤ 9) : cw_M l mm_X1_presentLevel 0 0 [.ref 0] (cs_h S) (some (.int (cs_pl S g))) (cs_h S) := by
  refine cw_enter cw_KX1_presentLevel (by decide) (Nat.le_of_ble_eq_true rfl) ?_
  by_cases h : g = 0
  · subst h
    rw [show cs_pl S 0 = nI 0 from rfl]
    exact cw_run cw_kX1_presentLevel cw_z 4 [true] [] [] (And.intro ((show cs_gi S ≤ 0 by rw [hg]; decide)) (cw_reti cw_kX1_presentLevel cw_z rfl rfl))
  · rw [show cs_pl S g = cs_lv S (g - 1) by simp [cs_pl, h]]
    exact cw_run cw_kX1_presentLevel cw_z 10 [false] [] [(_, _)] (And.intro ((show ¬ cs_gi S ≤ 0 by rw [hg]; exact nI_nle (by omega) (by omega))) (And.intro (cs_levelAt l S (show cs_gi S - nI 1 = nI (g - 1) by rw [hg, pk_sub (by omega)]) (show g - 1 < 9 by omega)) (And.intro (Nat.le_refl _) (cw_reti cw_kX1_presentLevel cw_z rfl rfl))))
/-- the place of a thing in the trail, looked for from place k on, n more places -/
def cs_pof (S : cs_S) (x : Int32) : Nat → Nat → Int32
  | 0, _ => -nI 6
  | n + 1, k => if (if cs_sg S k < nI 10 then cs_sg S k else cs_sg S k - nI 10) = x then nI k else cs_pof S x n (k + 1)
theorem cs_pof_loop (l : Launch) (S : cs_S) {g : Nat} (hg : cs_gi S = nI g) (h9 : g ≤ 9) (x : Int32) : ∀ n k, k + n = g → cw_W l mm_X1_placeOf 0 0 (cs_h S) (some (.int (cs_pof S x n k))) (cs_h S) 0 0 2 [(2, .int (nI k)), (0, .ref 0), (1, .int x)] [] (cs_h S) := by
  intro n
  induction n with
  | zero =>
    intro k hk
    exact cw_run cw_kX1_placeOf cw_z 5 [true] [] [] (And.intro ((show cs_gi S ≤ nI k by rw [hg]; exact nI_le (by omega) (by omega))) (cw_reti cw_kX1_placeOf cw_z rfl rfl))
  | succ n ih =>
    intro k hk
    have h0 : ¬ cs_gi S ≤ nI k := by rw [hg]; exact nI_ge (by omega) (by omega)
    by_cases c : (if cs_sg S k < nI 10 then cs_sg S k else cs_sg S k - nI 10) = x
    · rw [show cs_pof S x (n + 1) k = nI k by rw [cs_pof, if_pos c]]
      exact cw_run cw_kX1_placeOf cw_z 11 [false, false] [] [(_, _), (_, _)] (And.intro (h0) (And.intro (cs_signAt l S rfl (show k < 9 by omega)) (And.intro (Nat.le_refl _) (And.intro (cs_thingOf l _ _) (And.intro (Nat.le_refl _) (And.intro (fun q => q c) (cw_reti cw_kX1_placeOf cw_z rfl rfl)))))))
    · rw [show cs_pof S x (n + 1) k = cs_pof S x n (k + 1) by rw [cs_pof, if_neg c]]
      have ih1 := ih (k + 1) (by omega)
      rw [← nI_add k 1] at ih1
      exact cw_run cw_kX1_placeOf cw_z 12 [false, true] [] [(_, _), (_, _)] (And.intro (h0) (And.intro (cs_signAt l S rfl (show k < 9 by omega)) (And.intro (Nat.le_refl _) (And.intro (cs_thingOf l _ _) (And.intro (Nat.le_refl _) (And.intro (c) (ih1)))))))
theorem cs_placeOf (l : Launch) (S : cs_S) {g : Nat} (hg : cs_gi S = nI g) (h9 : g ≤ 9) (x : Int32) : cw_M l mm_X1_placeOf 0 0 [.ref 0, .int x] (cs_h S) (some (.int (cs_pof S x g 0))) (cs_h S) := by
  refine cw_enter cw_KX1_placeOf (by decide) (Nat.le_of_ble_eq_true rfl) ?_
  exact cw_run cw_kX1_placeOf cw_z 2 [] [] [] (cs_pof_loop l S hg h9 x g 0 (by omega))
/-- is a clause's number among the reasons from place k on? -/
def cs_isr (S : cs_S) (x : Int32) : Nat → Nat → Bool
  | 0, _ => false
  | n + 1, k => if cs_rs S k = x then true else cs_isr S x n (k + 1)
theorem cs_isr_loop (l : Launch) (S : cs_S) {g : Nat} (hg : cs_gi S = nI g) (h9 : g ≤ 9) (x : Int32) : ∀ n k, k + n = g → cw_W l mm_X1_isReason 0 0 (cs_h S) (some (.int (cb_n (cs_isr S x n k)))) (cs_h S) 0 0 2 [(2, .int (nI k)), (0, .ref 0), (1, .int x)] [] (cs_h S) := by
  intro n
  induction n with
  | zero =>
    intro k hk
    exact cw_run cw_kX1_isReason cw_z 5 [true] [] [] (And.intro ((show cs_gi S ≤ nI k by rw [hg]; exact nI_le (by omega) (by omega))) (cw_retz cw_kX1_isReason cw_z rfl rfl (Or.inl rfl)))
  | succ n ih =>
    intro k hk
    have h0 : ¬ cs_gi S ≤ nI k := by rw [hg]; exact nI_ge (by omega) (by omega)
    by_cases c : cs_rs S k = x
    · rw [show cs_isr S x (n + 1) k = true by rw [cs_isr, if_pos c]]
      exact cw_run cw_kX1_isReason cw_z 10 [false, false] [] [(_, _)] (And.intro (h0) (And.intro (cs_reasonAt l S rfl (show k < 9 by omega)) (And.intro (Nat.le_refl _) (And.intro (fun q => q c) (cw_retz cw_kX1_isReason cw_z rfl rfl (Or.inr rfl))))))
    · rw [show cs_isr S x (n + 1) k = cs_isr S x n (k + 1) by rw [cs_isr, if_neg c]]
      have ih1 := ih (k + 1) (by omega)
      rw [← nI_add k 1] at ih1
      exact cw_run cw_kX1_isReason cw_z 11 [false, true] [] [(_, _)] (And.intro (h0) (And.intro (cs_reasonAt l S rfl (show k < 9 by omega)) (And.intro (Nat.le_refl _) (And.intro (c) (ih1)))))
theorem cs_isReason (l : Launch) (S : cs_S) {g : Nat} (hg : cs_gi S = nI g) (h9 : g ≤ 9) (x : Int32) : cw_M l mm_X1_isReason 0 0 [.ref 0, .int x] (cs_h S) (some (.int (cb_n (cs_isr S x g 0)))) (cs_h S) := by
  refine cw_enter cw_KX1_isReason (by decide) (Nat.le_of_ble_eq_true rfl) ?_
  exact cw_run cw_kX1_isReason cw_z 2 [] [] [] (cs_isr_loop l S hg h9 x g 0 (by omega))
/-- the lowest thing that is open, from t on, n more -/
def cs_low (S : cs_S) : Nat → Nat → Int32
  | 0, _ => -nI 6
  | n + 1, t => if cs_op S (nI 1 <<< (nI t &&& 31)) = 0 then cs_low S n (t + 1) else nI t
theorem cs_low_loop (l : Launch) (S : cs_S) {th : Nat} (ht : cs_th S = nI th) (h9 : th ≤ 9) : ∀ n t, t + n = th + 1 → cw_W l mm_X1_lowestOpenThing 0 0 (cs_h S) (some (.int (cs_low S n t))) (cs_h S) 0 0 2 [(1, .int (nI t)), (0, .ref 0)] [] (cs_h S) := by
  intro n
  induction n with
  | zero =>
    intro t hk
    exact cw_run cw_kX1_lowestOpenThing cw_z 5 [true] [] [] (And.intro ((show cs_th S < nI t by rw [ht]; exact nI_lt (by omega) (by omega))) (cw_reti cw_kX1_lowestOpenThing cw_z rfl rfl))
  | succ n ih =>
    intro t hk
    have h0 : ¬ cs_th S < nI t := by rw [ht]; exact nI_nlt (by omega) (by omega)
    by_cases c : cs_op S (nI 1 <<< (nI t &&& 31)) = 0
    · rw [show cs_low S (n + 1) t = cs_low S n (t + 1) by rw [cs_low, if_pos c]]
      have ih1 := ih (t + 1) (by omega)
      rw [← nI_add t 1] at ih1
      exact cw_run cw_kX1_lowestOpenThing cw_z 11 [false, true] [] [(_, _), (_, _)] (And.intro (h0) (And.intro (cs_setOf l _ _) (And.intro (Nat.le_refl _) (And.intro (cs_openSigns l S _) (And.intro (Nat.le_refl _) (And.intro (c) (ih1)))))))
    · rw [show cs_low S (n + 1) t = nI t by rw [cs_low, if_neg c]]
      exact cw_run cw_kX1_lowestOpenThing cw_z 10 [false, false] [] [(_, _), (_, _)] (And.intro (h0) (And.intro (cs_setOf l _ _) (And.intro (Nat.le_refl _) (And.intro (cs_openSigns l S _) (And.intro (Nat.le_refl _) (And.intro (c) (cw_reti cw_kX1_lowestOpenThing cw_z rfl rfl)))))))
theorem cs_lowestOpenThing (l : Launch) (S : cs_S) {th : Nat} (ht : cs_th S = nI th) (h9 : th ≤ 9) : cw_M l mm_X1_lowestOpenThing 0 0 [.ref 0] (cs_h S) (some (.int (cs_low S th 1))) (cs_h S) := by
  refine cw_enter cw_KX1_lowestOpenThing (by decide) (Nat.le_of_ble_eq_true rfl) ?_
  exact cw_run cw_kX1_lowestOpenThing cw_z 2 [] [] [] (cs_low_loop l S ht h9 th 1 (by omega))
end
section
/-! the search's other reads: counts of bits, first untrue clause, sets of signs, the way out of a conflict -/
def cb_us (x : Int32) (k : Nat) : Int32 := (x.toUInt32 >>> ((nI k).toUInt32 &&& Int32.toUInt32 31)).toInt32
def cb_b1 (x : Int32) : Int32 := x - (cb_us x 1 &&& 1431655765)
def cb_b2 (x : Int32) : Int32 := (x &&& 858993459) + (cb_us x 2 &&& 858993459)
def cb_b3 (x : Int32) : Int32 := (x + cb_us x 4) &&& 252645135
def cb_b4 (x : Int32) : Int32 := x + cb_us x 8
def cb_b5 (x : Int32) : Int32 := x + cb_us x 16
def cb_bc (x : Int32) : Int32 := cb_b5 (cb_b4 (cb_b3 (cb_b2 (cb_b1 x)))) &&& nI 63
theorem cs_bitCount (l : Launch) (h : cw_H) (x : Int32) : cw_M l mm_J6_bitCount_0f7a4 0 0 [.int x] h (some (.int (cb_bc x))) h := by
  refine cw_enter cw_KJ6_bitCount_0f7a4 (by decide) (Nat.le_of_ble_eq_true rfl) ?_
  refine cw_run cw_kJ6_bitCount_0f7a4 cw_z 8 [] [] [] (show cw_W l mm_J6_bitCount_0f7a4 0 0 h (some (.int (cb_bc x))) h 0 0 10 [(0, .int (cb_b1 x))] [] h from ?_)
  refine cw_run cw_kJ6_bitCount_0f7a4 cw_z 10 [] [] [] (show cw_W l mm_J6_bitCount_0f7a4 0 0 h (some (.int (cb_bc x))) h 0 0 24 [(0, .int (cb_b2 (cb_b1 x)))] [] h from ?_)
  refine cw_run cw_kJ6_bitCount_0f7a4 cw_z 8 [] [] [] (show cw_W l mm_J6_bitCount_0f7a4 0 0 h (some (.int (cb_bc x))) h 0 0 34 [(0, .int (cb_b3 (cb_b2 (cb_b1 x))))] [] h from ?_)
  refine cw_run cw_kJ6_bitCount_0f7a4 cw_z 6 [] [] [] (show cw_W l mm_J6_bitCount_0f7a4 0 0 h (some (.int (cb_bc x))) h 0 0 41 [(0, .int (cb_b4 (cb_b3 (cb_b2 (cb_b1 x)))))] [] h from ?_)
  refine cw_run cw_kJ6_bitCount_0f7a4 cw_z 6 [] [] [] (show cw_W l mm_J6_bitCount_0f7a4 0 0 h (some (.int (cb_bc x))) h 0 0 48 [(0, .int (cb_b5 (cb_b4 (cb_b3 (cb_b2 (cb_b1 x))))))] [] h from ?_)
  exact cw_run cw_kJ6_bitCount_0f7a4 cw_z 3 [] [] [] (cw_reti cw_kJ6_bitCount_0f7a4 cw_z rfl rfl)
/-- does a set hold a sign (told as an int)? -/
def cb_hs (x s : Int32) : Bool := decide (¬ (x &&& (nI 1 <<< (s &&& 31))) = 0)
def cb_opp (s : Int32) : Int32 := if s < nI 10 then s + nI 10 else s - nI 10
def cb_set (s : Int32) : Int32 := nI 1 <<< (s &&& 31)
theorem cs_has0 (l : Launch) (h : cw_H) (x s : Int32) : cw_M l mm_X2_has 0 0 [.int x, .int s] h (some (.int (cb_n (cb_hs x s)))) h := by
  refine cw_enter cw_KX2_has (by decide) (Nat.le_of_ble_eq_true rfl) ?_
  by_cases b : (x &&& (nI 1 <<< (s &&& 31))) = 0
  · rw [show cb_hs x s = false by simp [cb_hs, b]]
    exact cw_run cw_kX2_has cw_z 6 [true] [] [(_, _)] (And.intro (cs_setOf l h s) (And.intro (Nat.le_refl _) (And.intro (b) (cw_retz cw_kX2_has cw_z rfl rfl (Or.inl rfl)))))
  · rw [show cb_hs x s = true by simp [cb_hs, b]]
    exact cw_run cw_kX2_has cw_z 7 [false] [] [(_, _)] (And.intro (cs_setOf l h s) (And.intro (Nat.le_refl _) (And.intro (b) (cw_retz cw_kX2_has cw_z rfl rfl (Or.inr rfl)))))
/-- the numbers that bound the rows -/
def cs_g (S : cs_S) : Nat := (cs_gi S).toNatClampNeg
def cs_t (S : cs_S) : Nat := (cs_to S).toNatClampNeg
def cs_n (S : cs_S) : Nat := (cs_le S).toNatClampNeg
def cs_k (S : cs_S) : Nat := (cs_th S).toNatClampNeg
def cs_Bd (S : cs_S) : Prop := (cs_gi S = nI (cs_g S) ∧ cs_g S ≤ 9) ∧ (cs_to S = nI (cs_t S) ∧ cs_t S ≤ 20) ∧ (cs_le S = nI (cs_n S) ∧ cs_n S ≤ 40) ∧ (cs_th S = nI (cs_k S) ∧ cs_k S ≤ 9)
/-- a clause by any number: 0 outside -/
def cs_ca (S : cs_S) (x : Int32) : Int32 := if x < 0 then nI 0 else if nI 60 ≤ x then nI 0 else cs_cl S x.toNatClampNeg
theorem cs_clauseAt0 (l : Launch) (S : cs_S) (x : Int32) : cw_M l mm_X1_clauseAt 0 0 [.ref 0, .int x] (cs_h S) (some (.int (cs_ca S x))) (cs_h S) := by
  refine cw_enter cw_KX1_clauseAt (by decide) (Nat.le_of_ble_eq_true rfl) ?_
  by_cases c : x < 0
  · rw [show cs_ca S x = nI 0 by simp only [cs_ca, if_pos c]]
    exact cw_run cw_kX1_clauseAt cw_z 3 [true] [] [] (And.intro (c) (cw_reti cw_kX1_clauseAt cw_z rfl rfl))
  · by_cases c2 : nI 60 ≤ x
    · rw [show cs_ca S x = nI 0 by simp only [cs_ca, if_neg c, if_pos c2]]
      exact cw_run cw_kX1_clauseAt cw_z 8 [false, true] [] [] (And.intro (c) (And.intro (c2) (cw_reti cw_kX1_clauseAt cw_z rfl rfl)))
    · rw [show cs_ca S x = cs_cl S x.toNatClampNeg by simp only [cs_ca, if_neg c, if_neg c2]]
      obtain ⟨k, hk, rfl⟩ := nI_of c
      have hk2 : k < 60 := by
        rcases Nat.lt_or_ge k 60 with h | h
        · exact h
        · exact absurd (nI_le h hk) c2
      rw [nI_clamp hk]
      exact cw_run cw_kX1_clauseAt cw_z 12 [false, false] [_] [] (And.intro (c) (And.intro (c2) (And.intro (rfl) (And.intro (hk2) (cw_reti cw_kX1_clauseAt cw_z rfl rfl)))))
/-- the first clause from k on, n more, that isn't true and has o open signs -/
def cs_fu (S : cs_S) (o : Int32) : Nat → Nat → Int32
  | 0, _ => -nI 6
  | n + 1, k => if cs_tr S (cs_cl S k) then cs_fu S o n (k + 1) else if cb_bc (cs_op S (cs_cl S k)) = o then nI k else cs_fu S o n (k + 1)
theorem cs_fu_loop (l : Launch) (S : cs_S) (hB : cs_Bd S) (o : Int32) : ∀ n k, k + n = cs_t S + cs_n S → cw_W l mm_X1_firstUntrue 0 0 (cs_h S) (some (.int (cs_fu S o n k))) (cs_h S) 0 0 2 [(2, .int (nI k)), (0, .ref 0), (1, .int o)] [] (cs_h S) := by
  obtain ⟨-, ⟨ht, ht2⟩, ⟨hn, hn2⟩, -⟩ := hB
  have hs : cs_to S + cs_le S = nI (cs_t S + cs_n S) := by rw [ht, hn, nI_add]
  intro n
  induction n with
  | zero =>
    intro k hk
    exact cw_run cw_kX1_firstUntrue cw_z 8 [true] [] [] (And.intro ((show cs_to S + cs_le S ≤ nI k by rw [hs]; exact nI_le (by omega) (by omega))) (cw_reti cw_kX1_firstUntrue cw_z rfl rfl))
  | succ n ih =>
    intro k hk
    have h0 : ¬ cs_to S + cs_le S ≤ nI k := by rw [hs]; exact nI_ge (by omega) (by omega)
    have ih1 := ih (k + 1) (by omega)
    rw [← nI_add k 1] at ih1
    cases b : cs_tr S (cs_cl S k) with
    | true =>
      rw [show cs_fu S o (n + 1) k = cs_fu S o n (k + 1) by rw [cs_fu, if_pos b]]
      exact cw_run cw_kX1_firstUntrue cw_z 17 [false, true] [] [(_, _), (_, _)] (And.intro (h0) (And.intro (cs_clauseAt l S (by omega)) (And.intro (Nat.le_refl _) (And.intro (cs_isTrue l S _) (And.intro (Nat.le_refl _) (And.intro (cb_nt.mpr b) (cw_less [0, 2, 3] rfl ih1)))))))
    | false =>
      by_cases c : cb_bc (cs_op S (cs_cl S k)) = o
      · rw [show cs_fu S o (n + 1) k = nI k by rw [cs_fu, if_neg (by rw [b]; decide), if_pos c]]
        exact cw_run cw_kX1_firstUntrue cw_z 22 [false, false, false] [] [(_, _), (_, _), (_, _), (_, _)] (And.intro (h0) (And.intro (cs_clauseAt l S (by omega)) (And.intro (Nat.le_refl _) (And.intro (cs_isTrue l S _) (And.intro (Nat.le_refl _) (And.intro ((fun q => q (cb_n0.mpr b))) (And.intro (cs_openSigns l S _) (And.intro (Nat.le_refl _) (And.intro (cs_bitCount l _ _) (And.intro (Nat.le_refl _) (And.intro ((fun q => q c)) (cw_reti cw_kX1_firstUntrue cw_z rfl rfl))))))))))))
      · rw [show cs_fu S o (n + 1) k = cs_fu S o n (k + 1) by rw [cs_fu, if_neg (by rw [b]; decide), if_neg c]]
        exact cw_run cw_kX1_firstUntrue cw_z 23 [false, false, true] [] [(_, _), (_, _), (_, _), (_, _)] (And.intro (h0) (And.intro (cs_clauseAt l S (by omega)) (And.intro (Nat.le_refl _) (And.intro (cs_isTrue l S _) (And.intro (Nat.le_refl _) (And.intro ((fun q => q (cb_n0.mpr b))) (And.intro (cs_openSigns l S _) (And.intro (Nat.le_refl _) (And.intro (cs_bitCount l _ _) (And.intro (Nat.le_refl _) (And.intro (c) (cw_less [0, 2, 3] rfl ih1))))))))))))
theorem cs_firstUntrue (l : Launch) (S : cs_S) (hB : cs_Bd S) (o : Int32) : cw_M l mm_X1_firstUntrue 0 0 [.ref 0, .int o] (cs_h S) (some (.int (cs_fu S o (cs_t S + cs_n S) 0))) (cs_h S) := by
  refine cw_enter cw_KX1_firstUntrue (by decide) (Nat.le_of_ble_eq_true rfl) ?_
  exact cw_run cw_kX1_firstUntrue cw_z 2 [] [] [] (cs_fu_loop l S hB o _ 0 (by omega))
/-- the told clauses that are not true with the chosen signs, from k on, n more -/
def cs_tbb (S : cs_S) (x : Int32) : Nat → Nat → Int32 → Int32
  | 0, _, a => a
  | n + 1, k, a => cs_tbb S x n (k + 1) (if (cs_cl S k &&& x) = 0 then a ||| (nI 1 <<< (nI k &&& 31)) else a)
/-- all signs of the told clauses; the greatest thing that a set of signs has -/
def cs_all (S : cs_S) : Nat → Nat → Int32 → Int32
  | 0, _, a => a
  | n + 1, k, a => cs_all S n (k + 1) (a ||| cs_cl S k)
def cb_gr (x : Int32) : Nat → Nat → Int32 → Int32
  | 0, _, g => g
  | n + 1, t, g => cb_gr x n (t + 1) (if bt (x ||| cb_op x) t then nI t else g)
theorem cs_tn_loop2 (l : Launch) (S : cs_S) (x : Int32) : ∀ n t g, t + n = 10 → cw_W l mm_X1_toldNeeds 0 0 (cs_h S) (some (.int (cb_gr x n t g))) (cs_h S) 0 0 30 [(3, .int (nI t)), (2, .int g), (1, .int x), (0, .ref 0)] [] (cs_h S) := by
  intro n
  induction n with
  | zero =>
    intro t g hk
    obtain rfl : t = 10 := by omega
    exact cw_run cw_kX1_toldNeeds cw_z 4 [true] [] [] (And.intro ((show nI 9 < nI 10 from nI_lt (by omega) (by omega))) (cw_reti cw_kX1_toldNeeds cw_z rfl rfl))
  | succ n ih =>
    intro t g hk
    have h0 : ¬ nI 9 < nI t := nI_nlt (by omega) (by omega)
    cases b : bt (x ||| cb_op x) t with
    | true =>
      rw [show cb_gr x (n + 1) t g = cb_gr x n (t + 1) (nI t) by rw [cb_gr, if_pos b]]
      have ih1 := ih (t + 1) (nI t) (by omega)
      rw [← nI_add t 1] at ih1
      exact cw_run cw_kX1_toldNeeds cw_z 14 [false, false] [] [(_, _), (_, _)] (And.intro (h0) (And.intro (cs_opposites l _ _) (And.intro (Nat.le_refl _) (And.intro (cs_has l _ _ (by omega)) (And.intro (Nat.le_refl _) (And.intro (cb_nt.mpr b) (ih1)))))))
    | false =>
      rw [show cb_gr x (n + 1) t g = cb_gr x n (t + 1) g by rw [cb_gr, if_neg (by rw [b]; decide)]]
      have ih1 := ih (t + 1) g (by omega)
      rw [← nI_add t 1] at ih1
      exact cw_run cw_kX1_toldNeeds cw_z 12 [false, true] [] [(_, _), (_, _)] (And.intro (h0) (And.intro (cs_opposites l _ _) (And.intro (Nat.le_refl _) (And.intro (cs_has l _ _ (by omega)) (And.intro (Nat.le_refl _) (And.intro (cb_n0.mpr b) (ih1)))))))
theorem cs_tn_loop1 (l : Launch) (S : cs_S) (hB : cs_Bd S) : ∀ n k a, k + n = cs_t S → cw_W l mm_X1_toldNeeds 0 0 (cs_h S) (some (.int (cb_gr (cs_all S n k a) 9 1 (nI 0)))) (cs_h S) 0 0 4 [(2, .int (nI k)), (1, .int a), (0, .ref 0)] [] (cs_h S) := by
  obtain ⟨-, ⟨ht, ht2⟩, -, -⟩ := hB
  intro n
  induction n with
  | zero =>
    intro k a hk
    exact cw_run cw_kX1_toldNeeds cw_z 8 [true] [] [] (And.intro ((show cs_to S ≤ nI k by rw [ht]; exact nI_le (by omega) (by omega))) (cs_tn_loop2 l S _ 9 1 _ (by omega)))
  | succ n ih =>
    intro k a hk
    have h0 : ¬ cs_to S ≤ nI k := by rw [ht]; exact nI_ge (by omega) (by omega)
    have ih1 := ih (k + 1) (a ||| cs_cl S k) (by omega)
    rw [← nI_add k 1] at ih1
    exact cw_run cw_kX1_toldNeeds cw_z 12 [false] [] [(_, _)] (And.intro (h0) (And.intro (cs_clauseAt l S (by omega)) (And.intro (Nat.le_refl _) (ih1))))
theorem cs_toldNeeds (l : Launch) (S : cs_S) (hB : cs_Bd S) : cw_M l mm_X1_toldNeeds 0 0 [.ref 0] (cs_h S) (some (.int (cb_gr (cs_all S (cs_t S) 0 (nI 0)) 9 1 (nI 0)))) (cs_h S) := by
  refine cw_enter cw_KX1_toldNeeds (by decide) (Nat.le_of_ble_eq_true rfl) ?_
  exact cw_run cw_kX1_toldNeeds cw_z 4 [] [] [] (cs_tn_loop1 l S hB _ 0 _ (by omega))
/-- the signs of the present level -/
def cs_spl (S : cs_S) : Nat → Nat → Int32 → Int32
  | 0, _, a => a
  | n + 1, k, a => cs_spl S n (k + 1) (if cs_lv S k = cs_pl S (cs_g S) then a ||| cb_set (cs_sg S k) else a)
theorem cs_spl_loop (l : Launch) (S : cs_S) (hB : cs_Bd S) : ∀ n k a, k + n = cs_g S → cw_W l mm_X1_signsOfPresentLevel 0 0 (cs_h S) (some (.int (cs_spl S n k a))) (cs_h S) 0 0 4 [(2, .int (nI k)), (1, .int a), (0, .ref 0)] [] (cs_h S) := by
  obtain ⟨⟨hg, hg2⟩, -, -, -⟩ := hB
  intro n
  induction n with
  | zero =>
    intro k a hk
    exact cw_run cw_kX1_signsOfPresentLevel cw_z 5 [true] [] [] (And.intro ((show cs_gi S ≤ nI k by rw [hg]; exact nI_le (by omega) (by omega))) (cw_reti cw_kX1_signsOfPresentLevel cw_z rfl rfl))
  | succ n ih =>
    intro k a hk
    have h0 : ¬ cs_gi S ≤ nI k := by rw [hg]; exact nI_ge (by omega) (by omega)
    by_cases c : cs_lv S k = cs_pl S (cs_g S)
    · rw [show cs_spl S (n + 1) k a = cs_spl S n (k + 1) (a ||| cb_set (cs_sg S k)) by rw [cs_spl, if_pos c]]
      have ih1 := ih (k + 1) (a ||| cb_set (cs_sg S k)) (by omega)
      rw [← nI_add k 1] at ih1
      exact cw_run cw_kX1_signsOfPresentLevel cw_z 19 [false, false] [] [(_, _), (_, _), (_, _), (_, _)] (And.intro (h0) (And.intro (cs_levelAt l S rfl (show k < 9 by omega)) (And.intro (Nat.le_refl _) (And.intro (cs_presentLevel l S hg hg2) (And.intro (Nat.le_refl _) (And.intro ((fun q => q c)) (And.intro (cs_signAt l S rfl (show k < 9 by omega)) (And.intro (Nat.le_refl _) (And.intro (cs_setOf l _ _) (And.intro (Nat.le_refl _) (ih1)))))))))))
    · rw [show cs_spl S (n + 1) k a = cs_spl S n (k + 1) a by rw [cs_spl, if_neg c]]
      have ih1 := ih (k + 1) a (by omega)
      rw [← nI_add k 1] at ih1
      exact cw_run cw_kX1_signsOfPresentLevel cw_z 12 [false, true] [] [(_, _), (_, _)] (And.intro (h0) (And.intro (cs_levelAt l S rfl (show k < 9 by omega)) (And.intro (Nat.le_refl _) (And.intro (cs_presentLevel l S hg hg2) (And.intro (Nat.le_refl _) (And.intro (c) (ih1)))))))
theorem cs_signsOfPresentLevel (l : Launch) (S : cs_S) (hB : cs_Bd S) : cw_M l mm_X1_signsOfPresentLevel 0 0 [.ref 0] (cs_h S) (some (.int (cs_spl S (cs_g S) 0 (nI 0)))) (cs_h S) := by
  refine cw_enter cw_KX1_signsOfPresentLevel (by decide) (Nat.le_of_ble_eq_true rfl) ?_
  exact cw_run cw_kX1_signsOfPresentLevel cw_z 4 [] [] [] (cs_spl_loop l S hB _ 0 _ (by omega))
/-- the greatest level below the present one that a thing of the clause has -/
def cs_lbp (S : cs_S) (c : Int32) : Nat → Nat → Int32 → Int32
  | 0, _, a => a
  | n + 1, k, a => cs_lbp S c n (k + 1) (if cb_hs c (cb_opp (cs_sg S k)) then (if cs_pl S (cs_g S) ≤ cs_lv S k then a else (if a < cs_lv S k then cs_lv S k else a)) else a)
theorem cs_lbp_loop (l : Launch) (S : cs_S) (hB : cs_Bd S) (c : Int32) : ∀ n k a, k + n = cs_g S → cw_W l mm_X1_levelBelowPresent 0 0 (cs_h S) (some (.int (cs_lbp S c n k a))) (cs_h S) 0 0 4 [(3, .int (nI k)), (2, .int a), (0, .ref 0), (1, .int c)] [] (cs_h S) := by
  obtain ⟨⟨hg, hg2⟩, -, -, -⟩ := hB
  intro n
  induction n with
  | zero =>
    intro k a hk
    exact cw_run cw_kX1_levelBelowPresent cw_z 5 [true] [] [] (And.intro ((show cs_gi S ≤ nI k by rw [hg]; exact nI_le (by omega) (by omega))) (cw_reti cw_kX1_levelBelowPresent cw_z rfl rfl))
  | succ n ih =>
    intro k a hk
    have h0 : ¬ cs_gi S ≤ nI k := by rw [hg]; exact nI_ge (by omega) (by omega)
    have h9 : k < 9 := by omega
    cases b : cb_hs c (cb_opp (cs_sg S k)) with
    | false =>
      rw [show cs_lbp S c (n + 1) k a = cs_lbp S c n (k + 1) a by rw [cs_lbp, if_neg (by rw [b]; decide)]]
      have ih1 := ih (k + 1) a (by omega)
      rw [← nI_add k 1] at ih1
      exact cw_run cw_kX1_levelBelowPresent cw_z 13 [false, true] [] [(_, _), (_, _), (_, _)] (And.intro (h0) (And.intro (cs_signAt l S rfl h9) (And.intro (Nat.le_refl _) (And.intro (cs_opposite l _ _) (And.intro (Nat.le_refl _) (And.intro (cs_has0 l _ _ _) (And.intro (Nat.le_refl _) (And.intro (cb_n0.mpr b) (ih1)))))))))
    | true =>
      by_cases d : cs_pl S (cs_g S) ≤ cs_lv S k
      · rw [show cs_lbp S c (n + 1) k a = cs_lbp S c n (k + 1) a by rw [cs_lbp, if_pos b, if_pos d]]
        have ih1 := ih (k + 1) a (by omega)
        rw [← nI_add k 1] at ih1
        exact cw_run cw_kX1_levelBelowPresent cw_z 19 [false, false, true] [] [(_, _), (_, _), (_, _), (_, _), (_, _)] (And.intro (h0) (And.intro (cs_signAt l S rfl h9) (And.intro (Nat.le_refl _) (And.intro (cs_opposite l _ _) (And.intro (Nat.le_refl _) (And.intro (cs_has0 l _ _ _) (And.intro (Nat.le_refl _) (And.intro (cb_nt.mpr b) (And.intro (cs_levelAt l S rfl h9) (And.intro (Nat.le_refl _) (And.intro (cs_presentLevel l S hg hg2) (And.intro (Nat.le_refl _) (And.intro (d) (ih1))))))))))))))
      · rw [show cs_lbp S c (n + 1) k a = cs_lbp S c n (k + 1) (if a < cs_lv S k then cs_lv S k else a) by rw [cs_lbp, if_pos b, if_neg d]]
        have ih1 := ih (k + 1) (if a < cs_lv S k then cs_lv S k else a) (by omega)
        rw [← nI_add k 1] at ih1
        exact cw_run cw_kX1_levelBelowPresent cw_z 25 [false, false, false] [] [(_, _), (_, _), (_, _), (_, _), (_, _), (_, _)] (And.intro (h0) (And.intro (cs_signAt l S rfl h9) (And.intro (Nat.le_refl _) (And.intro (cs_opposite l _ _) (And.intro (Nat.le_refl _) (And.intro (cs_has0 l _ _ _) (And.intro (Nat.le_refl _) (And.intro (cb_nt.mpr b) (And.intro (cs_levelAt l S rfl h9) (And.intro (Nat.le_refl _) (And.intro (cs_presentLevel l S hg hg2) (And.intro (Nat.le_refl _) (And.intro (d) (And.intro (cs_levelAt l S rfl h9) (And.intro (Nat.le_refl _) (ih1))))))))))))))))
theorem cs_levelBelowPresent (l : Launch) (S : cs_S) (hB : cs_Bd S) (c : Int32) : cw_M l mm_X1_levelBelowPresent 0 0 [.ref 0, .int c] (cs_h S) (some (.int (cs_lbp S c (cs_g S) 0 (nI 0)))) (cs_h S) := by
  refine cw_enter cw_KX1_levelBelowPresent (by decide) (Nat.le_of_ble_eq_true rfl) ?_
  exact cw_run cw_kX1_levelBelowPresent cw_z 4 [] [] [] (cs_lbp_loop l S hB c _ 0 _ (by omega))
/-- the clause out of a conflict, from place n - 1 down -/
def cs_coo (S : cs_S) (op : Int32) : Nat → Int32 → Int32
  | 0, c => c
  | n + 1, c => if cb_bc (c &&& op) ≤ nI 1 then c else cs_coo S op n (if cb_hs c (cb_opp (cs_sg S n)) then (c &&& (cb_set (cb_opp (cs_sg S n)) ^^^ (-nI 1))) ||| (cs_ca S (cs_rs S n) &&& (cb_set (cs_sg S n) ^^^ (-nI 1))) else c)
theorem cs_coo_loop (l : Launch) (S : cs_S) (hB : cs_Bd S) (c0 op : Int32) : ∀ n c, n ≤ cs_g S → cw_W l mm_X1_clauseOutOf 0 0 (cs_h S) (some (.int (cs_coo S op n c))) (cs_h S) 0 0 18 [(4, .int (nI n - nI 1)), (3, .int c), (2, .int op), (0, .ref 0)] [] (cs_h S) := by
  obtain ⟨⟨hg, hg2⟩, -, -, -⟩ := hB
  intro n
  induction n with
  | zero =>
    intro c hk
    exact cw_run cw_kX1_clauseOutOf cw_z 3 [true] [] [] (And.intro ((show nI 0 - nI 1 < 0 by decide)) (cw_reti cw_kX1_clauseOutOf cw_z rfl rfl))
  | succ n ih =>
    intro c hk
    have e0 : nI (n + 1) - nI 1 = nI n := by rw [pk_sub (by omega)]; rfl
    rw [e0]
    have h0 : ¬ nI n < 0 := nI_pos (by omega)
    have h9 : n < 9 := by omega
    by_cases d : cb_bc (c &&& op) ≤ nI 1
    · rw [show cs_coo S op (n + 1) c = c by rw [cs_coo, if_pos d]]
      exact cw_run cw_kX1_clauseOutOf cw_z 9 [false, true] [] [(_, _)] (And.intro (h0) (And.intro (cs_bitCount l _ _) (And.intro (Nat.le_refl _) (And.intro (d) (cw_reti cw_kX1_clauseOutOf cw_z rfl rfl)))))
    · cases b : cb_hs c (cb_opp (cs_sg S n)) with
      | false =>
        rw [show cs_coo S op (n + 1) c = cs_coo S op n c by rw [cs_coo, if_neg d, if_neg (by rw [b]; decide)]]
        have ih1 := ih c (by omega)
        rw [← cb_m] at ih1
        exact cw_run cw_kX1_clauseOutOf cw_z 19 [false, false, true] [] [(_, _), (_, _), (_, _), (_, _)] (And.intro (h0) (And.intro (cs_bitCount l _ _) (And.intro (Nat.le_refl _) (And.intro (d) (And.intro (cs_signAt l S rfl h9) (And.intro (Nat.le_refl _) (And.intro (cs_opposite l _ _) (And.intro (Nat.le_refl _) (And.intro (cs_has0 l _ _ _) (And.intro (Nat.le_refl _) (And.intro (cb_n0.mpr b) (cw_less [0, 2, 3, 4] rfl ih1))))))))))))
      | true =>
        rw [show cs_coo S op (n + 1) c = cs_coo S op n ((c &&& (cb_set (cb_opp (cs_sg S n)) ^^^ (-nI 1))) ||| (cs_ca S (cs_rs S n) &&& (cb_set (cs_sg S n) ^^^ (-nI 1)))) by rw [cs_coo, if_neg d, if_pos b]]
        have ih1 := ih ((c &&& (cb_set (cb_opp (cs_sg S n)) ^^^ (-nI 1))) ||| (cs_ca S (cs_rs S n) &&& (cb_set (cs_sg S n) ^^^ (-nI 1)))) (by omega)
        rw [← cb_m] at ih1
        exact cw_run cw_kX1_clauseOutOf cw_z 40 [false, false, false] [] [(_, _), (_, _), (_, _), (_, _), (_, _), (_, _), (_, _), (_, _), (_, _)] (And.intro (h0) (And.intro (cs_bitCount l _ _) (And.intro (Nat.le_refl _) (And.intro (d) (And.intro (cs_signAt l S rfl h9) (And.intro (Nat.le_refl _) (And.intro (cs_opposite l _ _) (And.intro (Nat.le_refl _) (And.intro (cs_has0 l _ _ _) (And.intro (Nat.le_refl _) (And.intro (cb_nt.mpr b) (And.intro (cs_opposite l _ _) (And.intro (Nat.le_refl _) (And.intro (cs_setOf l _ _) (And.intro (Nat.le_refl _) (And.intro (cs_reasonAt l S rfl h9) (And.intro (Nat.le_refl _) (And.intro (cs_clauseAt0 l S _) (And.intro (Nat.le_refl _) (And.intro (cs_setOf l _ _) (And.intro (Nat.le_refl _) (cw_less [0, 1, 3, 4] rfl ih1))))))))))))))))))))))
theorem cs_clauseOutOf (l : Launch) (S : cs_S) (hB : cs_Bd S) (c : Int32) : cw_M l mm_X1_clauseOutOf 0 0 [.ref 0, .int c] (cs_h S) (some (.int (cs_coo S (cb_op (cs_spl S (cs_g S) 0 (nI 0))) (cs_g S) c))) (cs_h S) := by
  refine cw_enter cw_KX1_clauseOutOf (by decide) (Nat.le_of_ble_eq_true rfl) ?_
  have h1 := cs_coo_loop l S hB c (cb_op (cs_spl S (cs_g S) 0 (nI 0))) (cs_g S) c (Nat.le_refl _)
  rw [← hB.1.1] at h1
  exact cw_run cw_kX1_clauseOutOf cw_z 11 [] [] [(_, _), (_, _)] (And.intro (cs_signsOfPresentLevel l S hB) (And.intro (Nat.le_refl _) (And.intro (cs_opposites l _ _) (And.intro (Nat.le_refl _) (cw_less [0, 1, 2, 3] rfl h1)))))
end
section
/-! the search's changes -/
abbrev cs_wle (S : cs_S) (x : Int32) : cs_S := (S.1, S.2.1, S.2.2.1, S.2.2.2.1, x, S.2.2.2.2.2)
abbrev cs_wcl (S : cs_S) (x : Nat → Int32) : cs_S := (S.1, S.2.1, S.2.2.1, S.2.2.2.1, S.2.2.2.2.1, x, S.2.2.2.2.2.2)
abbrev cs_wgv (S : cs_S) (g va : Int32) : cs_S := (S.1, S.2.1, S.2.2.1, S.2.2.2.1, S.2.2.2.2.1, S.2.2.2.2.2.1, g, S.2.2.2.2.2.2.2.1, S.2.2.2.2.2.2.2.2.1, S.2.2.2.2.2.2.2.2.2.1, va, S.2.2.2.2.2.2.2.2.2.2.2)
abbrev cs_wrs (S : cs_S) (x : Nat → Int32) : cs_S := (S.1, S.2.1, S.2.2.1, S.2.2.2.1, S.2.2.2.2.1, S.2.2.2.2.2.1, S.2.2.2.2.2.2.1, S.2.2.2.2.2.2.2.1, S.2.2.2.2.2.2.2.2.1, x, S.2.2.2.2.2.2.2.2.2.2)
abbrev cs_wsd (S : cs_S) (x : Int32) : cs_S := (S.1, S.2.1, S.2.2.1, S.2.2.2.1, S.2.2.2.2.1, S.2.2.2.2.2.1, S.2.2.2.2.2.2.1, S.2.2.2.2.2.2.2.1, S.2.2.2.2.2.2.2.2.1, S.2.2.2.2.2.2.2.2.2.1, S.2.2.2.2.2.2.2.2.2.2.1, x, S.2.2.2.2.2.2.2.2.2.2.2.2)
abbrev cs_wco (S : cs_S) (x : Int32) : cs_S := (S.1, S.2.1, S.2.2.1, S.2.2.2.1, S.2.2.2.2.1, S.2.2.2.2.2.1, S.2.2.2.2.2.2.1, S.2.2.2.2.2.2.2.1, S.2.2.2.2.2.2.2.2.1, S.2.2.2.2.2.2.2.2.2.1, S.2.2.2.2.2.2.2.2.2.2.1, S.2.2.2.2.2.2.2.2.2.2.2.1, x, S.2.2.2.2.2.2.2.2.2.2.2.2.2)
abbrev cs_wsp (S : cs_S) (x : Int32) : cs_S := (S.1, S.2.1, S.2.2.1, S.2.2.2.1, S.2.2.2.2.1, S.2.2.2.2.2.1, S.2.2.2.2.2.2.1, S.2.2.2.2.2.2.2.1, S.2.2.2.2.2.2.2.2.1, S.2.2.2.2.2.2.2.2.2.1, S.2.2.2.2.2.2.2.2.2.2.1, S.2.2.2.2.2.2.2.2.2.2.2.1, S.2.2.2.2.2.2.2.2.2.2.2.2.1, x)
/-- a clause told -/
def cs_tell (S : cs_S) (c : Int32) : cs_S := (S.1, S.2.1, S.2.2.1, cs_to S + nI 1, S.2.2.2.2.1, upd (cs_cl S) (cs_t S) c, S.2.2.2.2.2.2)
theorem cs_tell_ok (l : Launch) (S : cs_S) (ht : cs_to S = nI (cs_t S)) (h20 : cs_t S < 20) (c : Int32) : cw_M l mm_X1_tell 0 0 [.ref 0, .int c] (cs_h S) none (cs_h (cs_tell S c)) := by
  refine cw_enter cw_KX1_tell (by decide) (Nat.le_of_ble_eq_true rfl) ?_
  exact cw_run cw_kX1_tell cw_z 19 [false, false] [_] [] (And.intro ((show ¬ cs_to S < 0 by rw [ht]; exact nI_pos (by omega))) (And.intro ((show ¬ nI 20 ≤ cs_to S by rw [ht]; exact nI_ge h20 (by omega))) (And.intro (ht) (And.intro ((show cs_t S < 60 by omega)) (cw_retv cw_kX1_tell cw_z rfl rfl)))))
/-- a clause taken away: the gap closes -/
def cs_rm (f : Nat → Int32) (k i : Nat) : Nat → Int32 := fun j => if k ≤ j ∧ j < i then f (j + 1) else f j
theorem cs_rm_k (f : Nat → Int32) (k : Nat) : cs_rm f k k = f := by
  funext j
  unfold cs_rm
  rw [if_neg (by omega)]
theorem cs_rm_s (f : Nat → Int32) {k i : Nat} (h : k ≤ i) : upd (cs_rm f k i) i (cs_rm f k i (i + 1)) = cs_rm f k (i + 1) := by
  funext j
  unfold upd cs_rm
  by_cases e : j = i
  · subst e
    rw [if_pos rfl, if_neg (by omega), if_pos (by omega)]
  · rw [if_neg e]
    by_cases q : k ≤ j ∧ j < i
    · rw [if_pos q, if_pos (by omega)]
    · rw [if_neg q, if_neg (by omega)]
theorem cs_rm_loop (l : Launch) (S : cs_S) (k : Nat) (x : Int32) : ∀ n i, i + n = 59 → k ≤ i → cw_W l mm_X1_removeClause 0 0 (cs_h S) none (cs_h (cs_wcl S (cs_rm (cs_cl S) k 59))) 0 0 2 [(2, .int (nI i)), (0, .ref 0), (1, .int x)] [] (cs_h (cs_wcl S (cs_rm (cs_cl S) k i))) := by
  intro n
  induction n with
  | zero =>
    intro i hi hk
    obtain rfl : i = 59 := by omega
    exact cw_run cw_kX1_removeClause cw_z 9 [false, true] [] [] (And.intro ((show ¬ nI 59 < 0 by decide)) (And.intro ((show nI 60 ≤ nI 59 + nI 1 by decide)) (cw_retv cw_kX1_removeClause cw_z rfl rfl)))
  | succ n ih =>
    intro i hi hk
    have ih1 := ih (i + 1) (by omega) (by omega)
    rw [← nI_add i 1, ← cs_rm_s (cs_cl S) hk] at ih1
    exact cw_run cw_kX1_removeClause cw_z 21 [false, false] [_, _] [] (And.intro (nI_pos (by omega)) (And.intro ((show ¬ nI 60 ≤ nI i + nI 1 by rw [nI_add]; exact nI_ge (by omega) (by omega))) (And.intro (nI_add i 1) (And.intro ((show i + 1 < 60 by omega)) (And.intro (rfl) (And.intro ((show i < 60 by omega)) (ih1)))))))
theorem cs_removeClause (l : Launch) (S : cs_S) {k : Nat} (hk : k ≤ 59) : cw_M l mm_X1_removeClause 0 0 [.ref 0, .int (nI k)] (cs_h S) none (cs_h (cs_wcl S (cs_rm (cs_cl S) k 59))) := by
  refine cw_enter cw_KX1_removeClause (by decide) (Nat.le_of_ble_eq_true rfl) ?_
  have h1 := cs_rm_loop l S k (nI k) (59 - k) k (by omega) (Nat.le_refl _)
  rw [cs_rm_k] at h1
  exact cw_run cw_kX1_removeClause cw_z 2 [] [] [] h1
/-- a value given -/
def cs_give (S : cs_S) (s lv r : Int32) : cs_S := if cs_g S < 9 then (S.1, S.2.1, S.2.2.1, S.2.2.2.1, S.2.2.2.2.1, S.2.2.2.2.2.1, cs_gi S + nI 1, upd (cs_sg S) (cs_g S) s, upd (cs_lv S) (cs_g S) lv, upd (cs_rs S) (cs_g S) r, cs_va S ||| cb_set s, S.2.2.2.2.2.2.2.2.2.2.2) else S
theorem cs_give_ok (l : Launch) (S : cs_S) (hB : cs_Bd S) (s lv r : Int32) : cw_M l mm_X1_give 0 0 [.ref 0, .int s, .int lv, .int r] (cs_h S) none (cs_h (cs_give S s lv r)) := by
  obtain ⟨⟨hg, hg2⟩, -, -, -⟩ := hB
  refine cw_enter cw_KX1_give (by decide) (Nat.le_of_ble_eq_true rfl) ?_
  by_cases h : cs_g S < 9
  · rw [cs_give, if_pos h]
    exact cw_run cw_kX1_give cw_z 38 [false, false] [_, _, _] [(_, _)] (And.intro ((show ¬ cs_gi S < 0 by rw [hg]; exact nI_pos (by omega))) (And.intro ((show ¬ nI 9 ≤ cs_gi S by rw [hg]; exact nI_ge h (by omega))) (And.intro (hg) (And.intro (h) (And.intro (hg) (And.intro (h) (And.intro (hg) (And.intro (h) (And.intro (cs_setOf l _ _) (And.intro (Nat.le_refl _) (cw_retv cw_kX1_give cw_z rfl rfl)))))))))))
  · rw [cs_give, if_neg h]
    exact cw_run cw_kX1_give cw_z 7 [false, true] [] [] (And.intro ((show ¬ cs_gi S < 0 by rw [hg]; exact nI_pos (by omega))) (And.intro ((show nI 9 ≤ cs_gi S by rw [hg]; exact nI_le (by omega) (by omega))) (cw_retv cw_kX1_give cw_z rfl rfl)))
/-- how many values stay, and which ones as a set, where all with a greater level go -/
def cs_gbn (S : cs_S) (L : Int32) : Nat → Nat
  | 0 => 0
  | g + 1 => if cs_lv S g ≤ L then g + 1 else cs_gbn S L g
def cs_gbv (S : cs_S) (L : Int32) : Nat → Int32 → Int32
  | 0, va => va
  | g + 1, va => if cs_lv S g ≤ L then va else cs_gbv S L g (va &&& (cb_set (cs_sg S g) ^^^ (-nI 1)))
def cs_gb (S : cs_S) (L : Int32) : cs_S := cs_wgv S (nI (cs_gbn S L (cs_g S))) (cs_gbv S L (cs_g S) (cs_va S))
theorem cs_gb_loop (l : Launch) (S : cs_S) (L : Int32) : ∀ g va, g ≤ 9 → cw_W l mm_X1_goBackTo 0 0 (cs_h S) none (cs_h (cs_wgv S (nI (cs_gbn S L g)) (cs_gbv S L g va))) 0 0 0 [(0, .ref 0), (1, .int L)] [] (cs_h (cs_wgv S (nI g) va)) := by
  intro g
  induction g with
  | zero =>
    intro va _
    exact cw_run cw_kX1_goBackTo cw_z 3 [true] [] [] (And.intro ((show nI 0 ≤ 0 by decide)) (cw_retv cw_kX1_goBackTo cw_z rfl rfl))
  | succ g ih =>
    intro va h9
    have h0 : ¬ nI (g + 1) ≤ 0 := nI_nle (by omega) (by omega)
    have e0 : nI (g + 1) - nI 1 = nI g := by rw [pk_sub (by omega)]; rfl
    by_cases c : cs_lv S g ≤ L
    · rw [show cs_gbn S L (g + 1) = g + 1 by rw [cs_gbn, if_pos c], show cs_gbv S L (g + 1) va = va by rw [cs_gbv, if_pos c]]
      exact cw_run cw_kX1_goBackTo cw_z 11 [false, true] [] [(_, _)] (And.intro (h0) (And.intro (cs_levelAt l (cs_wgv S (nI (g + 1)) va) e0 (show g < 9 by omega)) (And.intro (Nat.le_refl _) (And.intro (c) (cw_retv cw_kX1_goBackTo cw_z rfl rfl)))))
    · rw [show cs_gbn S L (g + 1) = cs_gbn S L g by rw [cs_gbn, if_neg c], show cs_gbv S L (g + 1) va = cs_gbv S L g (va &&& (cb_set (cs_sg S g) ^^^ (-nI 1))) by rw [cs_gbv, if_neg c]]
      have ih1 := ih (va &&& (cb_set (cs_sg S g) ^^^ (-nI 1))) (by omega)
      have e1 : cs_wgv S (nI g) (va &&& (cb_set (cs_sg S g) ^^^ (-nI 1))) = cs_wgv S (nI (g + 1) - nI 1) (va &&& (cb_set (cs_sg S g) ^^^ (-nI 1))) := by rw [e0]
      rw [e1] at ih1
      exact cw_run cw_kX1_goBackTo cw_z 30 [false, false] [] [(_, _), (_, _), (_, _)] (And.intro (h0) (And.intro (cs_levelAt l (cs_wgv S (nI (g + 1)) va) e0 (show g < 9 by omega)) (And.intro (Nat.le_refl _) (And.intro (c) (And.intro (cs_signAt l (cs_wgv S (nI (g + 1) - nI 1) va) e0 (show g < 9 by omega)) (And.intro (Nat.le_refl _) (And.intro (cs_setOf l _ _) (And.intro (Nat.le_refl _) (ih1)))))))))
theorem cs_goBackTo (l : Launch) (S : cs_S) (hB : cs_Bd S) (L : Int32) : cw_M l mm_X1_goBackTo 0 0 [.ref 0, .int L] (cs_h S) none (cs_h (cs_gb S L)) := by
  refine cw_enter cw_KX1_goBackTo (by decide) (Nat.le_of_ble_eq_true rfl) ?_
  have h1 := cs_gb_loop l S L (cs_g S) (cs_va S) hB.1.2
  rw [← hB.1.1] at h1
  exact h1
/-- reasons above a number become less by 1 -/
def cs_lr (S : cs_S) (x : Int32) (i : Nat) : Nat → Int32 := fun j => if j < i ∧ x < cs_rs S j then cs_rs S j - nI 1 else cs_rs S j
theorem cs_lr_0 (S : cs_S) (x : Int32) : cs_lr S x 0 = cs_rs S := by
  funext j; unfold cs_lr; rw [if_neg (by omega)]
theorem cs_lr_y (S : cs_S) {x : Int32} {i : Nat} (h : x < cs_rs S i) : upd (cs_lr S x i) i (cs_lr S x i i - nI 1) = cs_lr S x (i + 1) := by
  funext j
  unfold upd cs_lr
  by_cases e : j = i
  · subst e
    rw [if_pos rfl, if_neg (by omega), if_pos ⟨by omega, h⟩]
  · rw [if_neg e]
    by_cases q : j < i ∧ x < cs_rs S j
    · rw [if_pos q, if_pos ⟨by omega, q.2⟩]
    · rw [if_neg q, if_neg (fun q2 => q ⟨by omega, q2.2⟩)]
theorem cs_lr_n (S : cs_S) {x : Int32} {i : Nat} (h : ¬ x < cs_rs S i) : cs_lr S x i = cs_lr S x (i + 1) := by
  funext j
  unfold cs_lr
  by_cases e : j = i
  · subst e
    rw [if_neg (by omega), if_neg (fun q => h q.2)]
  · by_cases q : j < i ∧ x < cs_rs S j
    · rw [if_pos q, if_pos ⟨by omega, q.2⟩]
    · rw [if_neg q, if_neg (fun q2 => q ⟨by omega, q2.2⟩)]
theorem cs_lr_at (S : cs_S) (x : Int32) (i : Nat) : cs_lr S x i i = cs_rs S i := by
  unfold cs_lr; rw [if_neg (by omega)]
theorem cs_lr_loop (l : Launch) (S : cs_S) (hB : cs_Bd S) (x : Int32) : ∀ n i, i + n = cs_g S → cw_W l mm_X1_lowerReasonsAbove 0 0 (cs_h S) none (cs_h (cs_wrs S (cs_lr S x (cs_g S)))) 0 0 2 [(2, .int (nI i)), (0, .ref 0), (1, .int x)] [] (cs_h (cs_wrs S (cs_lr S x i))) := by
  obtain ⟨⟨hg, hg2⟩, -, -, -⟩ := hB
  intro n
  induction n with
  | zero =>
    intro i hi
    obtain rfl : i = cs_g S := by omega
    exact cw_run cw_kX1_lowerReasonsAbove cw_z 4 [true] [] [] (And.intro ((show cs_gi S ≤ nI (cs_g S) by rw [← hg]; exact Int32.le_refl _)) (cw_retv cw_kX1_lowerReasonsAbove cw_z rfl rfl))
  | succ n ih =>
    intro i hi
    have h0 : ¬ cs_gi S ≤ nI i := by rw [hg]; exact nI_ge (by omega) (by omega)
    have h9 : i < 9 := by omega
    have ih1 := ih (i + 1) (by omega)
    rw [← nI_add i 1] at ih1
    by_cases c : x < cs_rs S i
    · rw [← cs_lr_y S c] at ih1
      have c2 : ¬ cs_lr S x i i ≤ x := by rw [cs_lr_at]; exact Int32.not_le.mpr c
      exact cw_run cw_kX1_lowerReasonsAbove cw_z 23 [false, false, false] [_, _, _] [] (And.intro (h0) (And.intro ((show ¬ nI 9 ≤ nI i from nI_ge h9 (by omega))) (And.intro (rfl) (And.intro (h9) (And.intro (c2) (And.intro (rfl) (And.intro (h9) (And.intro (rfl) (And.intro (h9) (ih1))))))))))
    · rw [← cs_lr_n S c] at ih1
      have c2 : cs_lr S x i i ≤ x := by rw [cs_lr_at]; exact Int32.not_lt.mp c
      exact cw_run cw_kX1_lowerReasonsAbove cw_z 15 [false, false, true] [_] [] (And.intro (h0) (And.intro ((show ¬ nI 9 ≤ nI i from nI_ge h9 (by omega))) (And.intro (rfl) (And.intro (h9) (And.intro (c2) (ih1))))))
theorem cs_lowerReasonsAbove (l : Launch) (S : cs_S) (hB : cs_Bd S) (x : Int32) : cw_M l mm_X1_lowerReasonsAbove 0 0 [.ref 0, .int x] (cs_h S) none (cs_h (cs_wrs S (cs_lr S x (cs_g S)))) := by
  refine cw_enter cw_KX1_lowerReasonsAbove (by decide) (Nat.le_of_ble_eq_true rfl) ?_
  have h1 := cs_lr_loop l S hB x (cs_g S) 0 (by omega)
  rw [cs_lr_0] at h1
  exact cw_run cw_kX1_lowerReasonsAbove cw_z 2 [] [] [] h1
/-- the first learned clause without use, from number k on -/
def cs_fgk (S : cs_S) : Nat → Nat → Option Nat
  | 0, _ => none
  | n + 1, k => if cs_isr S (nI k) (cs_g S) 0 then cs_fgk S n (k + 1) else some k
def cs_drop (S : cs_S) (k : Nat) : cs_S := cs_wrs (cs_wle (cs_wcl S (cs_rm (cs_cl S) k 59)) (cs_le S - nI 1)) (cs_lr S (nI k) (cs_g S))
def cs_fgt (S : cs_S) : cs_S := match cs_fgk S (cs_n S) (cs_t S) with
  | none => S
  | some k => cs_drop S k
theorem cs_fgt_loop (l : Launch) (S : cs_S) (hB : cs_Bd S) : ∀ n k, k + n = cs_t S + cs_n S → 1 ≤ cs_n S → cw_W l mm_X1_forgetEarliestWithoutUse 0 0 (cs_h S) none (cs_h (match cs_fgk S n k with | none => S | some k => cs_drop S k)) 0 0 5 [(1, .int (nI k)), (0, .ref 0)] [] (cs_h S) := by
  have hB0 := hB
  obtain ⟨⟨hg, hg2⟩, ⟨ht, ht2⟩, ⟨hn, hn2⟩, hth⟩ := hB
  have hs : cs_to S + cs_le S = nI (cs_t S + cs_n S) := by rw [ht, hn, nI_add]
  intro n
  induction n with
  | zero =>
    intro k hk _
    exact cw_run cw_kX1_forgetEarliestWithoutUse cw_z 7 [true] [] [] (And.intro ((show cs_to S + cs_le S ≤ nI k by rw [hs]; exact nI_le (by omega) (by omega))) (cw_retv cw_kX1_forgetEarliestWithoutUse cw_z rfl rfl))
  | succ n ih =>
    intro k hk h1
    have h0 : ¬ cs_to S + cs_le S ≤ nI k := by rw [hs]; exact nI_ge (by omega) (by omega)
    cases b : cs_isr S (nI k) (cs_g S) 0 with
    | true =>
      rw [show cs_fgk S (n + 1) k = cs_fgk S n (k + 1) by rw [cs_fgk, if_pos b]]
      have ih1 := ih (k + 1) (by omega) h1
      rw [← nI_add k 1] at ih1
      exact cw_run cw_kX1_forgetEarliestWithoutUse cw_z 13 [false, true] [] [(_, _)] (And.intro (h0) (And.intro (cs_isReason l S hg hg2 _) (And.intro (Nat.le_refl _) (And.intro (cb_nt.mpr b) (ih1)))))
    | false =>
      rw [show cs_fgk S (n + 1) k = some k by rw [cs_fgk, if_neg (by rw [b]; decide)]]
      have hle : cs_le S - nI 1 = nI (cs_n S - 1) := by rw [hn, pk_sub h1]
      have hc : cs_n (cs_wle (cs_wcl S (cs_rm (cs_cl S) k 59)) (cs_le S - nI 1)) = cs_n S - 1 := by
        show (cs_le S - nI 1).toNatClampNeg = _
        rw [hle, nI_clamp (by omega)]
      have hB2 : cs_Bd (cs_wle (cs_wcl S (cs_rm (cs_cl S) k 59)) (cs_le S - nI 1)) := by
        refine ⟨⟨hg, hg2⟩, ⟨ht, ht2⟩, ⟨?_, by rw [hc]; omega⟩, hth⟩
        rw [hc]; exact hle
      exact cw_run cw_kX1_forgetEarliestWithoutUse cw_z 23 [false, false] [] [(_, _), (_, _), (_, _)] (And.intro (h0) (And.intro (cs_isReason l S hg hg2 _) (And.intro (Nat.le_refl _) (And.intro ((fun q => q (cb_n0.mpr b))) (And.intro (cs_removeClause l S (by omega)) (And.intro (Nat.le_refl _) (And.intro (cs_lowerReasonsAbove l _ hB2 _) (And.intro (Nat.le_refl _) (cw_retv cw_kX1_forgetEarliestWithoutUse cw_z rfl rfl)))))))))
theorem cs_forget (l : Launch) (S : cs_S) (hB : cs_Bd S) (h1 : 1 ≤ cs_n S) : cw_M l mm_X1_forgetEarliestWithoutUse 0 0 [.ref 0] (cs_h S) none (cs_h (cs_fgt S)) := by
  refine cw_enter cw_KX1_forgetEarliestWithoutUse (by decide) (Nat.le_of_ble_eq_true rfl) ?_
  have h2 := cs_fgt_loop l S hB (cs_n S) (cs_t S) (by omega) h1
  rw [← hB.2.1.1] at h2
  exact cw_run cw_kX1_forgetEarliestWithoutUse cw_z 3 [] [] [] h2
end
section
/-! learning, one step, many steps; beginning anew, copying -/
theorem cs_g_nI {S : cs_S} {k : Nat} (h : cs_gi S = nI k) (hk : k < 2 ^ 31) : cs_g S = k := by unfold cs_g; rw [h, nI_clamp hk]
theorem cs_n_nI {S : cs_S} {k : Nat} (h : cs_le S = nI k) (hk : k < 2 ^ 31) : cs_n S = k := by unfold cs_n; rw [h, nI_clamp hk]
theorem cs_t_nI {S : cs_S} {k : Nat} (h : cs_to S = nI k) (hk : k < 2 ^ 31) : cs_t S = k := by unfold cs_t; rw [h, nI_clamp hk]
theorem cs_k_nI {S : cs_S} {k : Nat} (h : cs_th S = nI k) (hk : k < 2 ^ 31) : cs_k S = k := by unfold cs_k; rw [h, nI_clamp hk]
theorem cs_gbn_le (S : cs_S) (L : Int32) : ∀ g, cs_gbn S L g ≤ g
  | 0 => Nat.le_refl _
  | g + 1 => by
    unfold cs_gbn
    by_cases c : cs_lv S g ≤ L
    · rw [if_pos c]; exact Nat.le_refl _
    · rw [if_neg c]; exact Nat.le_succ_of_le (cs_gbn_le S L g)
theorem cs_Bd_gb {S : cs_S} (hB : cs_Bd S) (L : Int32) : cs_Bd (cs_gb S L) := by
  obtain ⟨⟨hg, hg2⟩, hr⟩ := hB
  have h1 := cs_gbn_le S L (cs_g S)
  have h2 : cs_g (cs_gb S L) = cs_gbn S L (cs_g S) := cs_g_nI (S := cs_gb S L) rfl (by omega)
  exact ⟨⟨by rw [h2]; rfl, by rw [h2]; omega⟩, hr⟩
theorem cs_Bd_drop {S : cs_S} (hB : cs_Bd S) (h1 : 1 ≤ cs_n S) (k : Nat) : cs_Bd (cs_drop S k) ∧ cs_n (cs_drop S k) = cs_n S - 1 := by
  obtain ⟨hg, ht, ⟨hn, hn2⟩, hth⟩ := hB
  have hle : cs_le S - nI 1 = nI (cs_n S - 1) := by rw [hn, pk_sub h1]
  have hc : cs_n (cs_drop S k) = cs_n S - 1 := cs_n_nI (S := cs_drop S k) hle (by omega)
  exact ⟨⟨hg, ht, ⟨by rw [hc]; exact hle, by rw [hc]; omega⟩, hth⟩, hc⟩
theorem cs_Bd_fgt {S : cs_S} (hB : cs_Bd S) (h1 : 1 ≤ cs_n S) : cs_Bd (cs_fgt S) ∧ cs_n (cs_fgt S) ≤ cs_n S := by
  unfold cs_fgt
  split
  · exact ⟨hB, Nat.le_refl _⟩
  · rename_i k _
    obtain ⟨a, b⟩ := cs_Bd_drop hB h1 k
    exact ⟨a, by omega⟩
def cs_push (S : cs_S) (c : Int32) : cs_S := (S.1, S.2.1, S.2.2.1, S.2.2.2.1, cs_le S + nI 1, upd (cs_cl S) (cs_t S + cs_n S) c, S.2.2.2.2.2.2)
def cs_mr (S : cs_S) : cs_S := if cs_n S < 40 then S else cs_fgt S
def cs_learn (S : cs_S) (c : Int32) : cs_S := if cs_n (cs_mr S) < 40 then cs_push (cs_mr S) c else cs_mr S
theorem cs_Bd_mr {S : cs_S} (hB : cs_Bd S) : cs_Bd (cs_mr S) := by
  unfold cs_mr
  by_cases h : cs_n S < 40
  · rw [if_pos h]; exact hB
  · rw [if_neg h]; exact (cs_Bd_fgt hB (by omega)).1
theorem cs_Bd_learn {S : cs_S} (hB : cs_Bd S) (c : Int32) : cs_Bd (cs_learn S c) := by
  have hB2 := cs_Bd_mr hB
  unfold cs_learn
  by_cases h : cs_n (cs_mr S) < 40
  · rw [if_pos h]
    obtain ⟨hg, ht, ⟨hn, hn2⟩, hth⟩ := hB2
    have hle : cs_le (cs_mr S) + nI 1 = nI (cs_n (cs_mr S) + 1) := by rw [hn, nI_add]
    have hc : cs_n (cs_push (cs_mr S) c) = cs_n (cs_mr S) + 1 := cs_n_nI (S := cs_push (cs_mr S) c) hle (by omega)
    exact ⟨hg, ht, ⟨by rw [hc]; exact hle, by rw [hc]; omega⟩, hth⟩
  · rw [if_neg h]; exact hB2
theorem cs_learn_ok (l : Launch) (S : cs_S) (hB : cs_Bd S) (c : Int32) : cw_M l mm_X1_learn 0 0 [.ref 0, .int c] (cs_h S) none (cs_h (if cs_n S < 40 then cs_push S c else S)) := by
  obtain ⟨hg, ⟨ht, ht2⟩, ⟨hn, hn2⟩, hth⟩ := hB
  have hs : cs_to S + cs_le S = nI (cs_t S + cs_n S) := by rw [ht, hn, nI_add]
  refine cw_enter cw_KX1_learn (by decide) (Nat.le_of_ble_eq_true rfl) ?_
  by_cases h : cs_n S < 40
  · rw [if_pos h]
    exact cw_run cw_kX1_learn cw_z 28 [false, false, false] [_] [] (And.intro ((show ¬ nI 40 ≤ cs_le S by rw [hn]; exact nI_ge h (by omega))) (And.intro ((show ¬ cs_to S + cs_le S < 0 by rw [hs]; exact nI_pos (by omega))) (And.intro ((show ¬ nI 60 ≤ cs_to S + cs_le S by rw [hs]; exact nI_ge (by omega) (by omega))) (And.intro (hs) (And.intro ((show cs_t S + cs_n S < 60 by omega)) (cw_retv cw_kX1_learn cw_z rfl rfl))))))
  · rw [if_neg h]
    exact cw_run cw_kX1_learn cw_z 10 [true] [] [] (And.intro ((show nI 40 ≤ cs_le S by rw [hn]; exact nI_le (by omega) (by omega))) (cw_retv cw_kX1_learn cw_z rfl rfl))
/-- the clause out of the conflict x -/
def cs_out (S : cs_S) (x : Int32) : Int32 := cs_coo S (cb_op (cs_spl S (cs_g S) 0 (nI 0))) (cs_g S) (cs_ca S x)
def cs_m1 (S : cs_S) (x : Int32) : cs_S := cs_gb S (cs_lbp S (cs_out S x) (cs_g S) 0 (nI 0))
def cs_m2 (S : cs_S) (x : Int32) : cs_S := cs_learn (cs_m1 S x) (cs_out S x)
def cs_mf (S : cs_S) : cs_S := if cs_re S ≤ 0 then cs_wco S (cs_co S + nI 1) else if (cs_co S + nI 1) - (cs_co S + nI 1) / cs_re S * cs_re S = 0 then cs_gb (cs_wco S (cs_co S + nI 1)) (nI 0) else cs_wco S (cs_co S + nI 1)
def cs_meet (S : cs_S) (x : Int32) : cs_S := if cs_pl S (cs_g S) = 0 then cs_wsd S (nI 2) else cs_mf (cs_m2 S x)
theorem cs_Bd_wco {S : cs_S} (hB : cs_Bd S) (x : Int32) : cs_Bd (cs_wco S x) := hB
theorem cs_Bd_wsd {S : cs_S} (hB : cs_Bd S) (x : Int32) : cs_Bd (cs_wsd S x) := hB
theorem cs_Bd_wsp {S : cs_S} (hB : cs_Bd S) (x : Int32) : cs_Bd (cs_wsp S x) := hB
theorem cs_Bd_m2 {S : cs_S} (hB : cs_Bd S) (x : Int32) : cs_Bd (cs_m2 S x) := cs_Bd_learn (cs_Bd_gb hB _) _
theorem cs_Bd_mf {S : cs_S} (hB : cs_Bd S) : cs_Bd (cs_mf S) := by
  unfold cs_mf
  split
  · exact cs_Bd_wco hB _
  · split
    · exact cs_Bd_gb (cs_Bd_wco hB _) _
    · exact cs_Bd_wco hB _
theorem cs_Bd_meet {S : cs_S} (hB : cs_Bd S) (x : Int32) : cs_Bd (cs_meet S x) := by
  unfold cs_meet
  split
  · exact cs_Bd_wsd hB _
  · exact cs_Bd_mf (cs_Bd_m2 hB x)
theorem cs_meet_2 (l : Launch) (S0 S : cs_S) (hB : cs_Bd S) {lv : cw_LV} (hl : lv_pick lv [1] = [(0, .ref 0)]) : cw_W l mm_X1_meetConflict 0 0 (cs_h S0) none (cs_h (cs_mf S)) 0 0 50 lv [] (cs_h S) := by
  refine cw_less [1] hl ?_
  by_cases d : cs_re S ≤ 0
  · rw [cs_mf, if_pos d]
    exact cw_run cw_kX1_meetConflict cw_z 9 [true] [] [] (And.intro (d) (cw_retv cw_kX1_meetConflict cw_z rfl rfl))
  · have d0 : ¬ cs_re S = 0 := fun q => d (by rw [q]; exact Int32.le_refl _)
    by_cases f : (cs_co S + nI 1) - (cs_co S + nI 1) / cs_re S * cs_re S = 0
    · rw [cs_mf, if_neg d, if_pos f]
      exact cw_run cw_kX1_meetConflict cw_z 18 [false, false] [] [(_, _)] (And.intro (d) (And.intro (d0) (And.intro ((fun q => q f)) (And.intro (cs_goBackTo l (cs_wco S (cs_co S + nI 1)) (cs_Bd_wco hB _) (nI 0)) (And.intro (Nat.le_refl _) (cw_retv cw_kX1_meetConflict cw_z rfl rfl))))))
    · rw [cs_mf, if_neg d, if_neg f]
      exact cw_run cw_kX1_meetConflict cw_z 15 [false, true] [] [] (And.intro (d) (And.intro (d0) (And.intro (f) (cw_retv cw_kX1_meetConflict cw_z rfl rfl))))
theorem cs_meet_ok (l : Launch) (S : cs_S) (hB : cs_Bd S) (x : Int32) : cw_M l mm_X1_meetConflict 0 0 [.ref 0, .int x] (cs_h S) none (cs_h (cs_meet S x)) := by
  refine cw_enter cw_KX1_meetConflict (by decide) (Nat.le_of_ble_eq_true rfl) ?_
  have hp := cs_presentLevel l S hB.1.1 hB.1.2
  by_cases c : cs_pl S (cs_g S) = 0
  · rw [cs_meet, if_pos c]
    exact cw_run cw_kX1_meetConflict cw_z 6 [false] [] [(_, _)] (And.intro (hp) (And.intro (Nat.le_refl _) (And.intro ((fun q => q c)) (cw_retv cw_kX1_meetConflict cw_z rfl rfl))))
  · rw [cs_meet, if_neg c]
    have hB1 : cs_Bd (cs_m1 S x) := cs_Bd_gb hB _
    have a1 := cs_clauseAt0 l S x
    have a2 : cw_M l mm_X1_clauseOutOf 0 0 [.ref 0, .int (cs_ca S x)] (cs_h S) (some (.int (cs_out S x))) (cs_h S) := cs_clauseOutOf l S hB (cs_ca S x)
    have a3 := cs_levelBelowPresent l S hB (cs_out S x)
    have a4 : cw_M l mm_X1_goBackTo 0 0 [.ref 0, .int (cs_lbp S (cs_out S x) (cs_g S) 0 (nI 0))] (cs_h S) none (cs_h (cs_m1 S x)) := cs_goBackTo l S hB (cs_lbp S (cs_out S x) (cs_g S) 0 (nI 0))
    have a5 : cw_M l mm_X1_learn 0 0 [.ref 0, .int (cs_out S x)] (cs_h (cs_mr (cs_m1 S x))) none (cs_h (cs_m2 S x)) := cs_learn_ok l (cs_mr (cs_m1 S x)) (cs_Bd_mr hB1) (cs_out S x)
    have hB2 := cs_Bd_m2 hB x
    generalize cs_m2 S x = S2 at a5 hB2 ⊢
    generalize cs_m1 S x = S1 at a4 a5 hB1
    generalize cs_lbp S (cs_out S x) (cs_g S) 0 (nI 0) = L at a3 a4
    generalize cs_out S x = c2 at a2 a3 a4 a5
    obtain ⟨hn, hn2⟩ := hB1.2.2.1
    by_cases h : cs_n S1 < 40
    · rw [show cs_mr S1 = S1 by rw [cs_mr, if_pos h]] at a5
      exact cw_run cw_kX1_meetConflict cw_z 21 [true, true] [] [(_, _), (_, _), (_, _), (_, _), (_, _), (_, _)] (And.intro (hp) (And.intro (Nat.le_refl _) (And.intro (c) (And.intro (a1) (And.intro (Nat.le_refl _) (And.intro (a2) (And.intro (Nat.le_refl _) (And.intro (a3) (And.intro (Nat.le_refl _) (And.intro (a4) (And.intro (Nat.le_refl _) (And.intro ((show cs_le S1 < nI 40 by rw [hn]; exact nI_lt h (by omega))) (And.intro (a5) (And.intro (Nat.le_refl _) (cs_meet_2 l S S2 hB2 rfl)))))))))))))))
    · rw [show cs_mr S1 = cs_fgt S1 by rw [cs_mr, if_neg h]] at a5
      exact cw_run cw_kX1_meetConflict cw_z 23 [true, false] [] [(_, _), (_, _), (_, _), (_, _), (_, _), (_, _), (_, _)] (And.intro (hp) (And.intro (Nat.le_refl _) (And.intro (c) (And.intro (a1) (And.intro (Nat.le_refl _) (And.intro (a2) (And.intro (Nat.le_refl _) (And.intro (a3) (And.intro (Nat.le_refl _) (And.intro (a4) (And.intro (Nat.le_refl _) (And.intro ((show ¬ cs_le S1 < nI 40 by rw [hn]; exact nI_nlt (by omega) (by omega))) (And.intro (cs_forget l S1 hB1 (by omega)) (And.intro (Nat.le_refl _) (And.intro (a5) (And.intro (Nat.le_refl _) (cs_meet_2 l S S2 hB2 rfl)))))))))))))))))
def cs_fu0 (S : cs_S) : Int32 := cs_fu S (nI 0) (cs_t S + cs_n S) 0
def cs_fu1 (S : cs_S) : Int32 := cs_fu S (nI 1) (cs_t S + cs_n S) 0
def cs_lo (S : cs_S) : Int32 := cs_low S (cs_k S) 1
/-- one step -/
def cs_one (S : cs_S) : cs_S := if cs_fu0 S < 0 then (if cs_fu1 S < 0 then (if cs_lo S ≤ 0 then cs_wsd S (nI 1) else cs_give S (if cs_fi S = nI 1 then cs_lo S else cb_opp (cs_lo S)) (cs_pl S (cs_g S) + nI 1) (-nI 6)) else cs_give S (cb_sio (cs_op S (cs_ca S (cs_fu1 S))) (nI 1) 9 1 (nI 0)) (cs_pl S (cs_g S)) (cs_fu1 S)) else cs_meet S (cs_fu0 S)
theorem cs_Bd_give {S : cs_S} (hB : cs_Bd S) (s lv r : Int32) : cs_Bd (cs_give S s lv r) := by
  unfold cs_give
  by_cases h : cs_g S < 9
  · rw [if_pos h]
    obtain ⟨⟨hg, hg2⟩, hr⟩ := hB
    have hle : cs_gi S + nI 1 = nI (cs_g S + 1) := by rw [hg, nI_add]
    refine ⟨⟨?_, ?_⟩, hr⟩
    · show cs_gi S + nI 1 = nI (cs_gi S + nI 1).toNatClampNeg
      rw [hle, nI_clamp (by omega)]
    · show (cs_gi S + nI 1).toNatClampNeg ≤ 9
      rw [hle, nI_clamp (by omega)]; omega
  · rw [if_neg h]; exact hB
theorem cs_Bd_one {S : cs_S} (hB : cs_Bd S) : cs_Bd (cs_one S) := by
  unfold cs_one
  split
  · split
    · split
      · exact cs_Bd_wsd hB _
      · exact cs_Bd_give hB _ _ _
    · exact cs_Bd_give hB _ _ _
  · exact cs_Bd_meet hB _
theorem cs_one_ok (l : Launch) (S : cs_S) (hB : cs_Bd S) : cw_M l mm_X1_doOneStep 0 0 [.ref 0] (cs_h S) none (cs_h (cs_one S)) := by
  refine cw_enter cw_KX1_doOneStep (by decide) (Nat.le_of_ble_eq_true rfl) ?_
  have a0 : cw_M l mm_X1_firstUntrue 0 0 [.ref 0, .int (nI 0)] (cs_h S) (some (.int (cs_fu0 S))) (cs_h S) := cs_firstUntrue l S hB (nI 0)
  have a1 : cw_M l mm_X1_firstUntrue 0 0 [.ref 0, .int (nI 1)] (cs_h S) (some (.int (cs_fu1 S))) (cs_h S) := cs_firstUntrue l S hB (nI 1)
  have hp := cs_presentLevel l S hB.1.1 hB.1.2
  have hlo : cw_M l mm_X1_lowestOpenThing 0 0 [.ref 0] (cs_h S) (some (.int (cs_lo S))) (cs_h S) := cs_lowestOpenThing l S hB.2.2.2.1 hB.2.2.2.2
  have am := cs_meet_ok l S hB (cs_fu0 S)
  by_cases c : cs_fu0 S < 0
  · by_cases d : cs_fu1 S < 0
    · by_cases f : cs_lo S ≤ 0
      · rw [cs_one, if_pos c, if_pos d, if_pos f]
        exact cw_run cw_kX1_doOneStep cw_z 20 [true, true, true] [] [(_, _), (_, _), (_, _)] (And.intro (a0) (And.intro (Nat.le_refl _) (And.intro (c) (And.intro (a1) (And.intro (Nat.le_refl _) (And.intro (d) (And.intro (hlo) (And.intro (Nat.le_refl _) (And.intro (f) (cw_retv cw_kX1_doOneStep cw_z rfl rfl))))))))))
      · by_cases i : cs_fi S = nI 1
        · rw [cs_one, if_pos c, if_pos d, if_neg f, if_pos i]
          exact cw_run cw_kX1_doOneStep cw_z 30 [true, true, false, false] [] [(_, _), (_, _), (_, _), (_, _), (_, _)] (And.intro (a0) (And.intro (Nat.le_refl _) (And.intro (c) (And.intro (a1) (And.intro (Nat.le_refl _) (And.intro (d) (And.intro (hlo) (And.intro (Nat.le_refl _) (And.intro (f) (And.intro ((fun q => q i)) (And.intro (hp) (And.intro (Nat.le_refl _) (And.intro (cs_give_ok l S hB _ _ _) (And.intro (Nat.le_refl _) (cw_retv cw_kX1_doOneStep cw_z rfl rfl)))))))))))))))
        · rw [cs_one, if_pos c, if_pos d, if_neg f, if_neg i]
          exact cw_run cw_kX1_doOneStep cw_z 30 [true, true, false, true] [] [(_, _), (_, _), (_, _), (_, _), (_, _), (_, _)] (And.intro (a0) (And.intro (Nat.le_refl _) (And.intro (c) (And.intro (a1) (And.intro (Nat.le_refl _) (And.intro (d) (And.intro (hlo) (And.intro (Nat.le_refl _) (And.intro (f) (And.intro (i) (And.intro (cs_opposite l _ _) (And.intro (Nat.le_refl _) (And.intro (hp) (And.intro (Nat.le_refl _) (And.intro (cs_give_ok l S hB _ _ _) (And.intro (Nat.le_refl _) (cw_retv cw_kX1_doOneStep cw_z rfl rfl)))))))))))))))))
    · rw [cs_one, if_pos c, if_neg d]
      exact cw_run cw_kX1_doOneStep cw_z 24 [true, false] [] [(_, _), (_, _), (_, _), (_, _), (_, _), (_, _), (_, _)] (And.intro (a0) (And.intro (Nat.le_refl _) (And.intro (c) (And.intro (a1) (And.intro (Nat.le_refl _) (And.intro (d) (And.intro (cs_clauseAt0 l S _) (And.intro (Nat.le_refl _) (And.intro (cs_openSigns l S _) (And.intro (Nat.le_refl _) (And.intro (cs_signInOrder l _ _ _) (And.intro (Nat.le_refl _) (And.intro (hp) (And.intro (Nat.le_refl _) (And.intro (cs_give_ok l S hB _ _ _) (And.intro (Nat.le_refl _) (cw_retv cw_kX1_doOneStep cw_z rfl rfl)))))))))))))))))
  · rw [cs_one, if_neg c]
    exact cw_run cw_kX1_doOneStep cw_z 9 [false] [] [(_, _), (_, _)] (And.intro (a0) (And.intro (Nat.le_refl _) (And.intro (c) (And.intro (am) (And.intro (Nat.le_refl _) (cw_retv cw_kX1_doOneStep cw_z rfl rfl))))))
/-- many steps -/
def cs_stp1 (S : cs_S) : cs_S := cs_wsp (cs_one S) (cs_sp (cs_one S) + nI 1)
def cs_runs : Nat → cs_S → cs_S
  | 0, S => S
  | n + 1, S => if cs_sd S = 0 then cs_runs n (cs_stp1 S) else S
theorem cs_Bd_stp1 {S : cs_S} (hB : cs_Bd S) : cs_Bd (cs_stp1 S) := cs_Bd_wsp (cs_Bd_one hB) _
theorem cs_Bd_runs : ∀ n {S : cs_S}, cs_Bd S → cs_Bd (cs_runs n S)
  | 0, _, h => h
  | n + 1, S, h => by
    unfold cs_runs
    split
    · exact cs_Bd_runs n (cs_Bd_stp1 h)
    · exact h
theorem cs_runs_loop (l : Launch) (S0 : cs_S) {N : Nat} (hN : N < 2 ^ 31) : ∀ n i S, i + n = N → cs_Bd S → cw_W l mm_X1_doSteps 0 0 (cs_h S0) none (cs_h (cs_runs n S)) 0 0 2 [(2, .int (nI i)), (0, .ref 0), (1, .int (nI N))] [] (cs_h S) := by
  intro n
  induction n with
  | zero =>
    intro i S hi hB
    obtain rfl : i = N := by omega
    exact cw_run cw_kX1_doSteps cw_z 3 [true] [] [] (And.intro ((show nI i ≤ nI i from Int32.le_refl _)) (cw_retv cw_kX1_doSteps cw_z rfl rfl))
  | succ n ih =>
    intro i S hi hB
    have h0 : ¬ nI N ≤ nI i := nI_ge (by omega) hN
    by_cases c : cs_sd S = 0
    · rw [show cs_runs (n + 1) S = cs_runs n (cs_stp1 S) by rw [cs_runs, if_pos c]]
      have ih1 := ih (i + 1) (cs_stp1 S) (by omega) (cs_Bd_stp1 hB)
      rw [← nI_add i 1] at ih1
      have a1 := cs_one_ok l S hB
      unfold cs_stp1 at ih1 ⊢
      generalize cs_one S = S1 at a1 ih1 ⊢
      exact cw_run cw_kX1_doSteps cw_z 16 [false, false] [] [(_, _)] (And.intro (h0) (And.intro ((fun q => q c)) (And.intro (a1) (And.intro (Nat.le_refl _) (ih1)))))
    · rw [show cs_runs (n + 1) S = S by rw [cs_runs, if_neg c]]
      exact cw_run cw_kX1_doSteps cw_z 6 [false, true] [] [] (And.intro (h0) (And.intro (c) (cw_retv cw_kX1_doSteps cw_z rfl rfl)))
theorem cs_doSteps (l : Launch) (S : cs_S) (hB : cs_Bd S) {N : Nat} (hN : N < 2 ^ 31) : cw_M l mm_X1_doSteps 0 0 [.ref 0, .int (nI N)] (cs_h S) none (cs_h (cs_runs N S)) := by
  refine cw_enter cw_KX1_doSteps (by decide) (Nat.le_of_ble_eq_true rfl) ?_
  exact cw_run cw_kX1_doSteps cw_z 2 [] [] [] (cs_runs_loop l S hN N 0 S (by omega) hB)
def cs_anew (S : cs_S) : cs_S := (S.1, S.2.1, S.2.2.1, S.2.2.2.1, nI 0, S.2.2.2.2.2.1, nI 0, S.2.2.2.2.2.2.2.1, S.2.2.2.2.2.2.2.2.1, S.2.2.2.2.2.2.2.2.2.1, nI 0, nI 0, nI 0, nI 0)
theorem cs_anew_ok (l : Launch) (S : cs_S) : cw_M l mm_X1_beginAnew 0 0 [.ref 0] (cs_h S) none (cs_h (cs_anew S)) := by
  refine cw_enter cw_KX1_beginAnew (by decide) (Nat.le_of_ble_eq_true rfl) ?_
  exact cw_run cw_kX1_beginAnew cw_z 18 [] [] [] (cw_retv cw_kX1_beginAnew cw_z rfl rfl)
theorem cs_Bd_anew {S : cs_S} (hB : cs_Bd S) : cs_Bd (cs_anew S) := by
  obtain ⟨-, ht, -, hth⟩ := hB
  have hg : cs_g (cs_anew S) = 0 := cs_g_nI (S := cs_anew S) rfl (by omega)
  have hn : cs_n (cs_anew S) = 0 := cs_n_nI (S := cs_anew S) rfl (by omega)
  exact ⟨⟨by rw [hg]; rfl, by rw [hg]; omega⟩, ht, ⟨by rw [hn]; rfl, by rw [hn]; omega⟩, hth⟩
/-- two searches beside each other: the first takes all of the second -/
def cs_h2 (S T : cs_S) : cw_H := [.inr (1, [.int (cs_th S), .int (cs_re S), .int (cs_fi S), .int (cs_to S), .int (cs_le S), .ref 1, .int (cs_gi S), .ref 2, .ref 3, .ref 4, .int (cs_va S), .int (cs_sd S), .int (cs_co S), .int (cs_sp S)]), .inl (0, 60, .inl (cs_cl S)), .inl (0, 9, .inl (cs_sg S)), .inl (0, 9, .inl (cs_lv S)), .inl (0, 9, .inl (cs_rs S)),
  .inr (1, [.int (cs_th T), .int (cs_re T), .int (cs_fi T), .int (cs_to T), .int (cs_le T), .ref 6, .int (cs_gi T), .ref 7, .ref 8, .ref 9, .int (cs_va T), .int (cs_sd T), .int (cs_co T), .int (cs_sp T)]), .inl (0, 60, .inl (cs_cl T)), .inl (0, 9, .inl (cs_sg T)), .inl (0, 9, .inl (cs_lv T)), .inl (0, 9, .inl (cs_rs T))]
def cs_copy (S T : cs_S) : cs_S := (T.1, T.2.1, T.2.2.1, T.2.2.2.1, T.2.2.2.2.1, va_cpy (cs_cl T) (cs_cl S) 0 0 60, T.2.2.2.2.2.2.1, va_cpy (cs_sg T) (cs_sg S) 0 0 9, va_cpy (cs_lv T) (cs_lv S) 0 0 9, va_cpy (cs_rs T) (cs_rs S) 0 0 9, T.2.2.2.2.2.2.2.2.2.2)
theorem cs_copyFrom (l : Launch) (S T : cs_S) : cw_M l mm_X1_copyFrom 0 0 [.ref 0, .ref 5] (cs_h2 S T) none (cs_h2 (cs_copy S T) T) := by
  refine cw_enter cw_KX1_copyFrom (by decide) (Nat.le_of_ble_eq_true rfl) ?_
  refine cw_run cw_kX1_copyFrom cw_z 40 [] [] [] (show cw_W l mm_X1_copyFrom 0 0 (cs_h2 S T) none (cs_h2 (cs_copy S T) T) 0 0 80 [(0, .ref 0), (1, .ref 5)] [] (cs_h2 (T.1, T.2.1, T.2.2.1, T.2.2.2.1, T.2.2.2.2.1, cs_cl S, T.2.2.2.2.2.2.1, cs_sg S, cs_lv S, cs_rs S, T.2.2.2.2.2.2.2.2.2.2) T) from ?_)
  exact cw_run cw_kX1_copyFrom cw_z 32 [] [_, _, _, _] [] (And.intro (rfl) (And.intro (rfl) (And.intro (rfl) (And.intro (Nat.le_refl _) (And.intro (Nat.le_refl _) (And.intro ((by decide)) (And.intro (rfl) (And.intro (rfl) (And.intro (rfl) (And.intro (Nat.le_refl _) (And.intro (Nat.le_refl _) (And.intro ((by decide)) (And.intro (rfl) (And.intro (rfl) (And.intro (rfl) (And.intro (Nat.le_refl _) (And.intro (Nat.le_refl _) (And.intro ((by decide)) (And.intro (rfl) (And.intro (rfl) (And.intro (rfl) (And.intro (Nat.le_refl _) (And.intro (Nat.le_refl _) (And.intro ((by decide)) (cw_retv cw_kX1_copyFrom cw_z rfl rfl)))))))))))))))))))))))))
end
section
/-! the pad -/
/-- a number that a char can be; a method that answers one -/
def cp_c1 (v : Int32) : Prop := v.toUInt32.toUInt16.toUInt32.toInt32 = v
theorem cw_retc {l : Launch} {ii : cw_I} {mc ms : Nat} {h0 : cw_H} {h1 : cw_H} {v : Int32} {kc ks pc : Nat} {lv : cw_LV} (hi : cw_okD ii) (hk : kc ≤ mc ∧ ks ≤ ms) (hd : cw_look (cw_tb ii) pc = some (.ireturn, 1)) (hr : cw_r ii = some .char) (hv : cp_c1 v) : cw_W l ii mc ms h0 (some (.int v)) h1 kc ks pc lv [.int v] h1 := by
  intro p e R s m args below meth c D cA ad0 hX hR1 hR2
  intro ad H locs ls hkp hP hD hS hl
  obtain ⟨hx, hb, hml, hown, hts, hKs, hfr, hlo, hnm, hret, hlocks⟩ := hX
  have hdg := hi.1 _ (cw_look_mem hd)
  refine W.widen hk.1 hk.2 ?_
  exact W.zret hx hb (hret.trans hr) (congrArg Value.int hv) (fun t ht hW => ⟨⟨ad, hkp, rfl, by rw [ht]; exact hP, hD⟩, hS.F ht⟩) hS.2.2 hdg hlocks
def cp_h (f : Nat → Int32) (len : Int32) : cw_H := [.inr (0, [.ref 1, .int len]), .inl (1, 60, .inl f)]
/-- a character of the pad -/
theorem cp_characterAt (l : Launch) (f : Nat → Int32) {N x : Int32} {k : Nat} (e : x = nI k) (hk : k < 60) (hc : cp_c1 (f k)) : cw_M l mm_X0_characterAt 0 0 [.ref 0, .int x] (cp_h f N) (some (.int (f k))) (cp_h f N) := by
  subst e
  refine cw_enter cw_KX0_characterAt (by decide) (Nat.le_of_ble_eq_true rfl) ?_
  exact cw_run cw_kX0_characterAt cw_z 10 [false, false] [_] [] (And.intro (nI_pos (by omega)) (And.intro ((show ¬ nI 60 ≤ nI k from nI_ge hk (by omega))) (And.intro (rfl) (And.intro (hk) (cw_retc cw_kX0_characterAt cw_z rfl rfl hc)))))
theorem cp_empty (l : Launch) (f : Nat → Int32) (len : Int32) : cw_M l mm_X0_empty 0 0 [.ref 0] (cp_h f len) none (cp_h f (nI 0)) := by
  refine cw_enter cw_KX0_empty (by decide) (Nat.le_of_ble_eq_true rfl) ?_
  exact cw_run cw_kX0_empty cw_z 3 [] [] [] (cw_retv cw_kX0_empty cw_z rfl rfl)
/-- what is left of a number without its last m characters; the character there -/
def cp_sh (x : Int64) (m : Nat) : Int64 := (x.toUInt64 >>> ((nI 8 * nI m).toInt64.toUInt64 &&& Int64.toUInt64 63)).toInt64
def cp_cd (x : Int64) (m : Nat) : Int32 := (cp_sh x m &&& 255).toInt32
theorem cp_codeIn (l : Launch) (h : cw_H) (x : Int64) (m : Nat) : cw_M l mm_X0_codeIn 0 0 [.long x, .int (nI m)] h (some (.int (cp_cd x m))) h := by
  refine cw_enter cw_KX0_codeIn (by decide) (Nat.le_of_ble_eq_true rfl) ?_
  exact cw_run cw_kX0_codeIn cw_z 8 [] [] [] (cw_reti cw_kX0_codeIn cw_z rfl rfl)
def cp_ci (x : Int64) : Nat → Nat → Int32
  | 0, m => nI m
  | n + 1, m => if lg_cmp (cp_sh x m) (Int64.ofNat 0) = 0 then nI m else if cp_cd x m < nI 33 then nI 0 else if cp_cd x m ≤ nI 126 then cp_ci x n (m + 1) else nI 0
theorem cp_ci_loop (l : Launch) (h : cw_H) (x : Int64) : ∀ n m, m + n = 8 → cw_W l mm_X0_charactersIn 0 0 h (some (.int (cp_ci x n m))) h 0 0 2 [(2, .int (nI m)), (0, .long x)] [] h := by
  intro n
  induction n with
  | zero =>
    intro m hm
    obtain rfl : m = 8 := by omega
    exact cw_run cw_kX0_charactersIn cw_z 4 [true] [] [] (And.intro ((show nI 8 ≤ nI 8 from Int32.le_refl _)) (cw_reti cw_kX0_charactersIn cw_z rfl rfl))
  | succ n ih =>
    intro m hm
    have h0 : ¬ nI 8 ≤ nI m := nI_ge (by omega) (by omega)
    by_cases c : lg_cmp (cp_sh x m) (Int64.ofNat 0) = 0
    · rw [show cp_ci x (n + 1) m = nI m by rw [cp_ci, if_pos c]]
      exact cw_run cw_kX0_charactersIn cw_z 12 [false, true] [] [] (And.intro (h0) (And.intro (c) (cw_reti cw_kX0_charactersIn cw_z rfl rfl)))
    · by_cases d : cp_cd x m < nI 33
      · rw [show cp_ci x (n + 1) m = nI 0 by rw [cp_ci, if_neg c, if_pos d]]
        exact cw_run cw_kX0_charactersIn cw_z 19 [false, false, true] [] [(_, _)] (And.intro (h0) (And.intro (c) (And.intro (cp_codeIn l _ _ _) (And.intro (Nat.le_refl _) (And.intro (d) (cw_reti cw_kX0_charactersIn cw_z rfl rfl))))))
      · by_cases f : cp_cd x m ≤ nI 126
        · rw [show cp_ci x (n + 1) m = cp_ci x n (m + 1) by rw [cp_ci, if_neg c, if_neg d, if_pos f]]
          have ih1 := ih (m + 1) (by omega)
          rw [← nI_add m 1] at ih1
          exact cw_run cw_kX0_charactersIn cw_z 23 [false, false, false, true] [] [(_, _)] (And.intro (h0) (And.intro (c) (And.intro (cp_codeIn l _ _ _) (And.intro (Nat.le_refl _) (And.intro (d) (And.intro (f) (cw_less [0, 2] rfl ih1)))))))
        · rw [show cp_ci x (n + 1) m = nI 0 by rw [cp_ci, if_neg c, if_neg d, if_neg f]]
          exact cw_run cw_kX0_charactersIn cw_z 22 [false, false, false, false] [] [(_, _)] (And.intro (h0) (And.intro (c) (And.intro (cp_codeIn l _ _ _) (And.intro (Nat.le_refl _) (And.intro (d) (And.intro (f) (cw_reti cw_kX0_charactersIn cw_z rfl rfl)))))))
theorem cp_charactersIn (l : Launch) (h : cw_H) (x : Int64) : cw_M l mm_X0_charactersIn 0 0 [.long x] h (some (.int (cp_ci x 8 0))) h := by
  refine cw_enter cw_KX0_charactersIn (by decide) (Nat.le_of_ble_eq_true rfl) ?_
  exact cw_run cw_kX0_charactersIn cw_z 2 [] [] [] (cp_ci_loop l h x 8 0 (by omega))
def cp_ch (x : Int64) (m : Nat) : Int32 := vp_nar .char ((cp_cd x m).toUInt32 % 65536).toInt32
def cp_ap (x : Int64) : Nat → Nat → (Nat → Int32) → Nat → Int32
  | 0, _, f => f
  | m + 1, n, f => cp_ap x m (n + 1) (upd f n (cp_ch x m))
theorem cp_ap_loop (l : Launch) (f0 : Nat → Int32) (len0 : Int32) (x : Int64) (y : Int32) : ∀ m n f, n + m ≤ 60 → cw_W l mm_X0_append 0 0 (cp_h f0 len0) none (cp_h (cp_ap x m n f) (nI (n + m))) 0 0 5 [(4, .int (nI m - nI 1)), (0, .ref 0), (1, .long x), (3, .int y)] [] (cp_h f (nI n)) := by
  intro m
  induction m with
  | zero =>
    intro n f hm
    exact cw_run cw_kX0_append cw_z 2 [true] [] [] (And.intro ((show nI 0 - nI 1 < 0 by decide)) (cw_retv cw_kX0_append cw_z rfl rfl))
  | succ m ih =>
    intro n f hm
    have e0 : nI (m + 1) - nI 1 = nI m := by rw [pk_sub (by omega)]; rfl
    rw [e0, show n + (m + 1) = (n + 1) + m by omega]
    have ih1 := ih (n + 1) (upd f n (cp_ch x m)) (by omega)
    have e1 : cp_h (upd f n (cp_ch x m)) (nI (n + 1)) = cp_h (upd f n (cp_ch x m)) (nI n + nI 1) := by rw [nI_add]
    rw [← cb_m, e1] at ih1
    exact cw_run cw_kX0_append cw_z 26 [false, false, false] [_] [(_, _)] (And.intro (nI_pos (by omega)) (And.intro ((show ¬ nI n < 0 from nI_pos (by omega))) (And.intro ((show ¬ nI 60 ≤ nI n from nI_ge (by omega) (by omega))) (And.intro (cp_codeIn l _ _ _) (And.intro (Nat.le_refl _) (And.intro (rfl) (And.intro ((show n < 60 by omega)) (ih1))))))))
theorem cp_append (l : Launch) (f : Nat → Int32) (x : Int64) {m n : Nat} (h : n + m ≤ 60) : cw_M l mm_X0_append 0 0 [.ref 0, .long x, .int (nI m)] (cp_h f (nI n)) none (cp_h (cp_ap x m n f) (nI (n + m))) := by
  refine cw_enter cw_KX0_append (by decide) (Nat.le_of_ble_eq_true rfl) ?_
  exact cw_run cw_kX0_append cw_z 4 [] [] [] (cp_ap_loop l f (nI n) x (nI m) m n f h)
def cp_dg (c : Int32) : Bool := decide (¬ c < nI 49 ∧ ¬ nI 57 < c)
theorem cp_isDigit (l : Launch) (h : cw_H) (c : Int32) : cw_M l mm_X0_isDigit 0 0 [.int c] h (some (.int (cb_n (cp_dg c)))) h := by
  refine cw_enter cw_KX0_isDigit (by decide) (Nat.le_of_ble_eq_true rfl) ?_
  by_cases a : c < nI 49
  · rw [show cp_dg c = false by simp [cp_dg, a]]
    exact cw_run cw_kX0_isDigit cw_z 4 [true] [] [] (And.intro (a) (cw_retz cw_kX0_isDigit cw_z rfl rfl (Or.inl rfl)))
  · by_cases b : nI 57 < c
    · rw [show cp_dg c = false by simp [cp_dg, b]]
      exact cw_run cw_kX0_isDigit cw_z 7 [false, true] [] [] (And.intro (a) (And.intro (b) (cw_retz cw_kX0_isDigit cw_z rfl rfl (Or.inl rfl))))
    · rw [show cp_dg c = true by simp [cp_dg, a, b]]
      exact cw_run cw_kX0_isDigit cw_z 8 [false, false] [] [] (And.intro (a) (And.intro (b) (cw_retz cw_kX0_isDigit cw_z rfl rfl (Or.inr rfl))))
/-- the greatest thing; how many clauses -/
def cp_gt (f : Nat → Int32) : Nat → Nat → Int32 → Int32
  | 0, _, g => g
  | n + 1, i, g => cp_gt f n (i + 1) (if cp_dg (f i) then (if g < f i - nI 48 then f i - nI 48 else g) else g)
theorem cp_gt_loop (l : Launch) (f : Nat → Int32) {N : Nat} (hN : N ≤ 60) (hc : ∀ k, k < N → cp_c1 (f k)) : ∀ n i g, i + n = N → cw_W l mm_X0_greatestThing 0 0 (cp_h f (nI N)) (some (.int (cp_gt f n i g))) (cp_h f (nI N)) 0 0 4 [(2, .int (nI i)), (1, .int g), (0, .ref 0)] [] (cp_h f (nI N)) := by
  intro n
  induction n with
  | zero =>
    intro i g hi
    exact cw_run cw_kX0_greatestThing cw_z 5 [true] [] [] (And.intro ((show nI N ≤ nI i from nI_le (by omega) (by omega))) (cw_reti cw_kX0_greatestThing cw_z rfl rfl))
  | succ n ih =>
    intro i g hi
    have h0 : ¬ nI N ≤ nI i := nI_ge (by omega) (by omega)
    have h6 : i < 60 := by omega
    cases b : cp_dg (f i) with
    | true =>
      rw [show cp_gt f (n + 1) i g = cp_gt f n (i + 1) (if g < f i - nI 48 then f i - nI 48 else g) by rw [cp_gt, if_pos b]]
      have ih1 := ih (i + 1) (if g < f i - nI 48 then f i - nI 48 else g) (by omega)
      rw [← nI_add i 1] at ih1
      exact cw_run cw_kX0_greatestThing cw_z 19 [false, false] [] [(_, _), (_, _), (_, _)] (And.intro (h0) (And.intro (cp_characterAt l f rfl h6 (hc i (by omega))) (And.intro (Nat.le_refl _) (And.intro (cp_isDigit l _ _) (And.intro (Nat.le_refl _) (And.intro (cb_nt.mpr b) (And.intro (cp_characterAt l f rfl h6 (hc i (by omega))) (And.intro (Nat.le_refl _) (ih1)))))))))
    | false =>
      rw [show cp_gt f (n + 1) i g = cp_gt f n (i + 1) g by rw [cp_gt, if_neg (by rw [b]; decide)]]
      have ih1 := ih (i + 1) g (by omega)
      rw [← nI_add i 1] at ih1
      exact cw_run cw_kX0_greatestThing cw_z 11 [false, true] [] [(_, _), (_, _)] (And.intro (h0) (And.intro (cp_characterAt l f rfl h6 (hc i (by omega))) (And.intro (Nat.le_refl _) (And.intro (cp_isDigit l _ _) (And.intro (Nat.le_refl _) (And.intro (cb_n0.mpr b) (ih1)))))))
theorem cp_greatestThing (l : Launch) (f : Nat → Int32) {N : Nat} (hN : N ≤ 60) (hc : ∀ k, k < N → cp_c1 (f k)) : cw_M l mm_X0_greatestThing 0 0 [.ref 0] (cp_h f (nI N)) (some (.int (cp_gt f N 0 (nI 0)))) (cp_h f (nI N)) := by
  refine cw_enter cw_KX0_greatestThing (by decide) (Nat.le_of_ble_eq_true rfl) ?_
  exact cw_run cw_kX0_greatestThing cw_z 4 [] [] [] (cp_gt_loop l f hN hc N 0 _ (by omega))
def cp_hm (f : Nat → Int32) : Nat → Nat → Nat → Nat
  | 0, _, c => c
  | n + 1, i, c => cp_hm f n (i + 1) (if f i = nI 59 then c + 1 else c)
theorem cp_hm_loop (l : Launch) (f : Nat → Int32) {N : Nat} (hN : N ≤ 60) (hc : ∀ k, k < N → cp_c1 (f k)) : ∀ n i c, i + n = N → cw_W l mm_X0_howManyClauses 0 0 (cp_h f (nI N)) (some (.int (nI (cp_hm f n i c)))) (cp_h f (nI N)) 0 0 4 [(2, .int (nI i)), (1, .int (nI c)), (0, .ref 0)] [] (cp_h f (nI N)) := by
  intro n
  induction n with
  | zero =>
    intro i c hi
    exact cw_run cw_kX0_howManyClauses cw_z 5 [true] [] [] (And.intro ((show nI N ≤ nI i from nI_le (by omega) (by omega))) (cw_reti cw_kX0_howManyClauses cw_z rfl rfl))
  | succ n ih =>
    intro i c hi
    have h0 : ¬ nI N ≤ nI i := nI_ge (by omega) (by omega)
    have h6 : i < 60 := by omega
    by_cases b : f i = nI 59
    · rw [show cp_hm f (n + 1) i c = cp_hm f n (i + 1) (c + 1) by rw [cp_hm, if_pos b]]
      have ih1 := ih (i + 1) (c + 1) (by omega)
      rw [← nI_add i 1, ← nI_add c 1] at ih1
      exact cw_run cw_kX0_howManyClauses cw_z 12 [false, false] [] [(_, _)] (And.intro (h0) (And.intro (cp_characterAt l f rfl h6 (hc i (by omega))) (And.intro (Nat.le_refl _) (And.intro ((fun q => q b)) (ih1)))))
    · rw [show cp_hm f (n + 1) i c = cp_hm f n (i + 1) c by rw [cp_hm, if_neg b]]
      have ih1 := ih (i + 1) c (by omega)
      rw [← nI_add i 1] at ih1
      exact cw_run cw_kX0_howManyClauses cw_z 11 [false, true] [] [(_, _)] (And.intro (h0) (And.intro (cp_characterAt l f rfl h6 (hc i (by omega))) (And.intro (Nat.le_refl _) (And.intro (b) (ih1)))))
theorem cp_howMany (l : Launch) (f : Nat → Int32) {N : Nat} (hN : N ≤ 60) (hc : ∀ k, k < N → cp_c1 (f k)) : cw_M l mm_X0_howManyClauses 0 0 [.ref 0] (cp_h f (nI N)) (some (.int (nI (cp_hm f N 0 1)))) (cp_h f (nI N)) := by
  refine cw_enter cw_KX0_howManyClauses (by decide) (Nat.le_of_ble_eq_true rfl) ?_
  exact cw_run cw_kX0_howManyClauses cw_z 4 [] [] [] (cp_hm_loop l f hN hc N 0 1 (by omega))
/-- the fault: from character i on, n more; the last digit, behind a digit?, behind a minus? -/
def cp_ff (f : Nat → Int32) : Nat → Nat → Int32 → Bool → Bool → Int32
  | 0, i, _, bd, _ => if bd then -nI 6 else nI i
  | n + 1, i, L, true, bm => if f i = nI 59 then cp_ff f n (i + 1) (nI 0) false bm else if f i = nI 44 then (if L = nI 9 then nI i else cp_ff f n (i + 1) L false bm) else nI i
  | n + 1, i, L, false, bm => if f i = nI 45 ∧ bm = false then cp_ff f n (i + 1) L false true else if f i - nI 48 ≤ L then nI i else if f i - nI 48 ≤ nI 9 then cp_ff f n (i + 1) (f i - nI 48) true false else nI i
theorem cp_ff_loop (l : Launch) (f : Nat → Int32) {N : Nat} (hN : N ≤ 60) (hc : ∀ k, k < N → cp_c1 (f k)) : ∀ n i L bd bm, i + n = N → cw_W l mm_X0_firstFault 0 0 (cp_h f (nI N)) (some (.int (cp_ff f n i L bd bm))) (cp_h f (nI N)) 0 0 9 [(4, .int (nI i)), (3, .int (cb_n bm)), (2, .int (cb_n bd)), (1, .int L), (0, .ref 0)] [] (cp_h f (nI N)) := by
  intro n
  induction n with
  | zero =>
    intro i L bd bm hi
    obtain rfl : i = N := by omega
    have h0 : nI i ≤ nI i := Int32.le_refl _
    cases bd with
    | true => exact cw_run cw_kX0_firstFault cw_z 8 [true, false] [] [] (And.intro (h0) (And.intro (cb_nt.mpr rfl) (cw_reti cw_kX0_firstFault cw_z rfl rfl)))
    | false => exact cw_run cw_kX0_firstFault cw_z 8 [true, true] [] [] (And.intro (h0) (And.intro (cb_n0.mpr rfl) (cw_reti cw_kX0_firstFault cw_z rfl rfl)))
  | succ n ih =>
    intro i L bd bm hi
    have h0 : ¬ nI N ≤ nI i := nI_ge (by omega) (by omega)
    have h6 : i < 60 := by omega
    cases bd with
    | true =>
      have c1 : ¬ cb_n true = 0 := cb_nt.mpr rfl
      by_cases a : f i = nI 59
      · rw [show cp_ff f (n + 1) i L true bm = cp_ff f n (i + 1) (nI 0) false bm by rw [cp_ff, if_pos a]]
        have ih1 := ih (i + 1) (nI 0) false bm (by omega)
        rw [← nI_add i 1] at ih1
        exact cw_run cw_kX0_firstFault cw_z 24 [false, false, true, false] [] [(_, _)] (And.intro (h0) (And.intro (cp_characterAt l f rfl h6 (hc i (by omega))) (And.intro (Nat.le_refl _) (And.intro (c1) (And.intro (a) (And.intro ((fun q => q a)) (cw_less [0, 4, 1, 2, 5] rfl ih1)))))))
      · by_cases b : f i = nI 44
        · by_cases d : L = nI 9
          · rw [show cp_ff f (n + 1) i L true bm = nI i by rw [cp_ff, if_neg a, if_pos b, if_pos d]]
            exact cw_run cw_kX0_firstFault cw_z 20 [false, false, false, false, false] [] [(_, _)] (And.intro (h0) (And.intro (cp_characterAt l f rfl h6 (hc i (by omega))) (And.intro (Nat.le_refl _) (And.intro (c1) (And.intro (a) (And.intro ((fun q => q b)) (And.intro ((fun q => q d)) (cw_reti cw_kX0_firstFault cw_z rfl rfl))))))))
          · rw [show cp_ff f (n + 1) i L true bm = cp_ff f n (i + 1) L false bm by rw [cp_ff, if_neg a, if_pos b, if_neg d]]
            have ih1 := ih (i + 1) L false bm (by omega)
            rw [← nI_add i 1] at ih1
            exact cw_run cw_kX0_firstFault cw_z 29 [false, false, false, false, true, true] [] [(_, _)] (And.intro (h0) (And.intro (cp_characterAt l f rfl h6 (hc i (by omega))) (And.intro (Nat.le_refl _) (And.intro (c1) (And.intro (a) (And.intro ((fun q => q b)) (And.intro (d) (And.intro (a) (cw_less [0, 4, 1, 2, 5] rfl ih1)))))))))
        · rw [show cp_ff f (n + 1) i L true bm = nI i by rw [cp_ff, if_neg a, if_neg b]]
          exact cw_run cw_kX0_firstFault cw_z 17 [false, false, false, true] [] [(_, _)] (And.intro (h0) (And.intro (cp_characterAt l f rfl h6 (hc i (by omega))) (And.intro (Nat.le_refl _) (And.intro (c1) (And.intro (a) (And.intro (b) (cw_reti cw_kX0_firstFault cw_z rfl rfl)))))))
    | false =>
      have c1 : cb_n false = 0 := cb_n0.mpr rfl
      by_cases a : f i = nI 45 ∧ bm = false
      · rw [show cp_ff f (n + 1) i L false bm = cp_ff f n (i + 1) L false true by rw [cp_ff, if_pos a]]
        have ih1 := ih (i + 1) L false true (by omega)
        rw [← nI_add i 1] at ih1
        exact cw_run cw_kX0_firstFault cw_z 20 [false, true, false, false] [] [(_, _)] (And.intro (h0) (And.intro (cp_characterAt l f rfl h6 (hc i (by omega))) (And.intro (Nat.le_refl _) (And.intro (c1) (And.intro ((fun q => q a.1)) (And.intro ((fun q => q (cb_n0.mpr a.2))) (cw_less [0, 1, 3, 4, 5] rfl ih1)))))))
      · by_cases b : f i - nI 48 ≤ L
        · rw [show cp_ff f (n + 1) i L false bm = nI i by rw [cp_ff, if_neg a, if_pos b]]
          by_cases a1 : f i = nI 45
          · have a2 : ¬ cb_n bm = 0 := fun q => a ⟨a1, cb_n0.mp q⟩
            exact cw_run cw_kX0_firstFault cw_z 23 [false, true, false, true, true] [] [(_, _)] (And.intro (h0) (And.intro (cp_characterAt l f rfl h6 (hc i (by omega))) (And.intro (Nat.le_refl _) (And.intro (c1) (And.intro ((fun q => q a1)) (And.intro (a2) (And.intro (b) (cw_reti cw_kX0_firstFault cw_z rfl rfl))))))))
          · exact cw_run cw_kX0_firstFault cw_z 21 [false, true, true, true] [] [(_, _)] (And.intro (h0) (And.intro (cp_characterAt l f rfl h6 (hc i (by omega))) (And.intro (Nat.le_refl _) (And.intro (c1) (And.intro (a1) (And.intro (b) (cw_reti cw_kX0_firstFault cw_z rfl rfl)))))))
        · by_cases d : f i - nI 48 ≤ nI 9
          · rw [show cp_ff f (n + 1) i L false bm = cp_ff f n (i + 1) (f i - nI 48) true false by rw [cp_ff, if_neg a, if_neg b, if_pos d]]
            have ih1 := ih (i + 1) (f i - nI 48) true false (by omega)
            rw [← nI_add i 1] at ih1
            by_cases a1 : f i = nI 45
            · have a2 : ¬ cb_n bm = 0 := fun q => a ⟨a1, cb_n0.mp q⟩
              exact cw_run cw_kX0_firstFault cw_z 33 [false, true, false, true, false, true] [] [(_, _)] (And.intro (h0) (And.intro (cp_characterAt l f rfl h6 (hc i (by omega))) (And.intro (Nat.le_refl _) (And.intro (c1) (And.intro ((fun q => q a1)) (And.intro (a2) (And.intro (b) (And.intro (d) (cw_less [0, 1, 2, 3, 6] rfl ih1)))))))))
            · exact cw_run cw_kX0_firstFault cw_z 31 [false, true, true, false, true] [] [(_, _)] (And.intro (h0) (And.intro (cp_characterAt l f rfl h6 (hc i (by omega))) (And.intro (Nat.le_refl _) (And.intro (c1) (And.intro (a1) (And.intro (b) (And.intro (d) (cw_less [0, 1, 2, 3, 6] rfl ih1))))))))
          · rw [show cp_ff f (n + 1) i L false bm = nI i by rw [cp_ff, if_neg a, if_neg b, if_neg d]]
            by_cases a1 : f i = nI 45
            · have a2 : ¬ cb_n bm = 0 := fun q => a ⟨a1, cb_n0.mp q⟩
              exact cw_run cw_kX0_firstFault cw_z 26 [false, true, false, true, false, false] [] [(_, _)] (And.intro (h0) (And.intro (cp_characterAt l f rfl h6 (hc i (by omega))) (And.intro (Nat.le_refl _) (And.intro (c1) (And.intro ((fun q => q a1)) (And.intro (a2) (And.intro (b) (And.intro (d) (cw_reti cw_kX0_firstFault cw_z rfl rfl)))))))))
            · exact cw_run cw_kX0_firstFault cw_z 24 [false, true, true, false, false] [] [(_, _)] (And.intro (h0) (And.intro (cp_characterAt l f rfl h6 (hc i (by omega))) (And.intro (Nat.le_refl _) (And.intro (c1) (And.intro (a1) (And.intro (b) (And.intro (d) (cw_reti cw_kX0_firstFault cw_z rfl rfl))))))))
theorem cp_firstFault (l : Launch) (f : Nat → Int32) {N : Nat} (hN : N ≤ 60) (hc : ∀ k, k < N → cp_c1 (f k)) : cw_M l mm_X0_firstFault 0 0 [.ref 0] (cp_h f (nI N)) (some (.int (cp_ff f N 0 (nI 0) false false))) (cp_h f (nI N)) := by
  refine cw_enter cw_KX0_firstFault (by decide) (Nat.le_of_ble_eq_true rfl) ?_
  exact cw_run cw_kX0_firstFault cw_z 8 [] [] [] (cp_ff_loop l f hN hc N 0 (nI 0) false false (by omega))
end
section
/-! clauses of the pad told; constructors of the search and the pad -/
def cp_h2 (f : Nat → Int32) (len : Int32) (S : cs_S) : cw_H := cp_h f len ++ (cs_h S).map (cw_re (fun k => 2 + k)) ++ []
theorem cp_tell (l : Launch) (f : Nat → Int32) (len : Int32) (S : cs_S) (ht : cs_to S = nI (cs_t S)) (h20 : cs_t S < 20) (c : Int32) : cw_M l mm_X1_tell 0 0 [.ref 2, .int c] (cp_h2 f len S) none (cp_h2 f len (cs_tell S c)) :=
  cw_lift (cs_tell_ok l S ht h20 c) rfl (cp_h f len) [] (b := 2) rfl
theorem cp_characterAt2 (l : Launch) (f : Nat → Int32) (S : cs_S) {N x : Int32} {k : Nat} (e : x = nI k) (hk : k < 60) (hc : cp_c1 (f k)) : cw_M l mm_X0_characterAt 0 0 [.ref 0, .int x] (cp_h2 f N S) (some (.int (f k))) (cp_h2 f N S) := by
  subst e
  refine cw_enter cw_KX0_characterAt (by decide) (Nat.le_of_ble_eq_true rfl) ?_
  exact cw_run cw_kX0_characterAt cw_z 10 [false, false] [_] [] (And.intro (nI_pos (by omega)) (And.intro ((show ¬ nI 60 ≤ nI k from nI_ge hk (by omega))) (And.intro (rfl) (And.intro (hk) (cw_retc cw_kX0_characterAt cw_z rfl rfl hc)))))
/-- the pad's clauses told, from character i on, n more -/
def cp_tl (f : Nat → Int32) : Nat → Nat → Int32 → Bool → cs_S → cs_S
  | 0, _, c, _, S => cs_tell S c
  | n + 1, i, c, z, S => if cp_dg (f i) then cp_tl f n (i + 1) (c ||| cb_set (if z then cb_opp (f i - nI 48) else f i - nI 48)) (decide (f i = nI 45)) S else if f i = nI 59 then cp_tl f n (i + 1) (nI 0) (decide (f i = nI 45)) (cs_tell S c) else cp_tl f n (i + 1) c (decide (f i = nI 45)) S
/-- how many clauses come, from character i on, n more -/
def cp_sc (f : Nat → Int32) : Nat → Nat → Nat
  | 0, _ => 1
  | n + 1, i => cp_sc f n (i + 1) + (if f i = nI 59 then 1 else 0)
theorem cs_t_tell {S : cs_S} (ht : cs_to S = nI (cs_t S)) (h : cs_t S < 20) (c : Int32) : cs_t (cs_tell S c) = cs_t S + 1 ∧ cs_to (cs_tell S c) = nI (cs_t (cs_tell S c)) := by
  have e : cs_to (cs_tell S c) = nI (cs_t S + 1) := by
    show cs_to S + nI 1 = _
    rw [ht, nI_add]
  have e2 := cs_t_nI e (by omega)
  exact ⟨e2, by rw [e2]; exact e⟩
theorem cp_sc_pos (f : Nat → Int32) : ∀ n i, 1 ≤ cp_sc f n i
  | 0, _ => Nat.le_refl _
  | n + 1, i => Nat.le_trans (cp_sc_pos f n (i + 1)) (Nat.le_add_right _ _)
theorem cp_dg59 {c : Int32} (h : cp_dg c = true) : ¬ c = nI 59 := by
  rintro rfl
  revert h
  decide +kernel
theorem cp_dg45 {c : Int32} (h : cp_dg c = true) : ¬ c = nI 45 := by
  rintro rfl
  revert h
  decide +kernel
set_option maxHeartbeats 4000000 in
theorem cp_tl_loop (l : Launch) (f : Nat → Int32) (S0 : cs_S) {N : Nat} (hN : N ≤ 60) (hc : ∀ k, k < N → cp_c1 (f k)) : ∀ n i c z S, i + n = N → cs_to S = nI (cs_t S) → cs_t S + cp_sc f n i ≤ 20 → cw_W l mm_X0_tellClausesTo 0 0 (cp_h2 f (nI N) S0) none (cp_h2 f (nI N) (cp_tl f n i c z S)) 0 0 7 [(4, .int (nI i)), (3, .int (cb_n z)), (2, .int c), (0, .ref 0), (1, .ref 2)] [] (cp_h2 f (nI N) S) := by
  intro n
  induction n with
  | zero =>
    intro i c z S hi ht h20
    have h20' : cs_t S < 20 := by unfold cp_sc at h20; omega
    exact cw_run cw_kX0_tellClausesTo cw_z 7 [true] [] [(_, _)] (And.intro ((show nI N ≤ nI i from nI_le (by omega) (by omega))) (And.intro (cp_tell l f (nI N) S ht h20' c) (And.intro (Nat.le_refl _) (cw_retv cw_kX0_tellClausesTo cw_z rfl rfl))))
  | succ n ih =>
    intro i c z S hi ht h20
    have h0 : ¬ nI N ≤ nI i := nI_ge (by omega) (by omega)
    have h6 : i < 60 := by omega
    unfold cp_sc at h20
    cases b : cp_dg (f i) with
    | true =>
      have n59 := cp_dg59 b
      have n45 := cp_dg45 b
      rw [if_neg n59] at h20
      rw [show cp_tl f (n + 1) i c z S = cp_tl f n (i + 1) (c ||| cb_set (if z then cb_opp (f i - nI 48) else f i - nI 48)) false S by rw [cp_tl, if_pos b, decide_eq_false n45]]
      have ih1 := ih (i + 1) (c ||| cb_set (if z then cb_opp (f i - nI 48) else f i - nI 48)) false S (by omega) ht (by omega)
      rw [← nI_add i 1] at ih1
      cases z with
      | true => exact cw_run cw_kX0_tellClausesTo cw_z 32 [false, false, false, true] [] [(_, _), (_, _), (_, _), (_, _)] (And.intro (h0) (And.intro (cp_characterAt2 l f S rfl h6 (hc i (by omega))) (And.intro (Nat.le_refl _) (And.intro (cp_isDigit l _ _) (And.intro (Nat.le_refl _) (And.intro (cb_nt.mpr b) (And.intro (cb_nt.mpr rfl) (And.intro (cs_opposite l _ _) (And.intro (Nat.le_refl _) (And.intro (cs_setOf l _ _) (And.intro (Nat.le_refl _) (And.intro (n45) (cw_less [0, 1, 2, 5, 6] rfl ih1)))))))))))))
      | false => exact cw_run cw_kX0_tellClausesTo cw_z 30 [false, false, true, true] [] [(_, _), (_, _), (_, _)] (And.intro (h0) (And.intro (cp_characterAt2 l f S rfl h6 (hc i (by omega))) (And.intro (Nat.le_refl _) (And.intro (cp_isDigit l _ _) (And.intro (Nat.le_refl _) (And.intro (cb_nt.mpr b) (And.intro (cb_n0.mpr rfl) (And.intro (cs_setOf l _ _) (And.intro (Nat.le_refl _) (And.intro (n45) (cw_less [0, 1, 2, 5, 6] rfl ih1)))))))))))
    | false =>
      by_cases a : f i = nI 59
      · have n45 : ¬ f i = nI 45 := by rw [a]; decide
        rw [if_pos a] at h20
        have hp := cp_sc_pos f n (i + 1)
        obtain ⟨t1, t2⟩ := cs_t_tell ht (by omega) c
        rw [show cp_tl f (n + 1) i c z S = cp_tl f n (i + 1) (nI 0) false (cs_tell S c) by rw [cp_tl, if_neg (by rw [b]; decide), if_pos a, decide_eq_false n45]]
        have ih1 := ih (i + 1) (nI 0) false (cs_tell S c) (by omega) t2 (by omega)
        rw [← nI_add i 1] at ih1
        have at1 := cp_tell l f (nI N) S ht (by omega) c
        generalize cs_tell S c = S1 at at1 ih1 ⊢
        exact cw_run cw_kX0_tellClausesTo cw_z 26 [false, true, false, true] [] [(_, _), (_, _), (_, _)] (And.intro (h0) (And.intro (cp_characterAt2 l f S rfl h6 (hc i (by omega))) (And.intro (Nat.le_refl _) (And.intro (cp_isDigit l _ _) (And.intro (Nat.le_refl _) (And.intro (cb_n0.mpr b) (And.intro ((fun q => q a)) (And.intro (at1) (And.intro (Nat.le_refl _) (And.intro (n45) (cw_less [0, 1, 2, 4, 5] rfl ih1)))))))))))
      · rw [if_neg a] at h20
        rw [show cp_tl f (n + 1) i c z S = cp_tl f n (i + 1) c (decide (f i = nI 45)) S by rw [cp_tl, if_neg (by rw [b]; decide), if_neg a]]
        have ih1 := ih (i + 1) c (decide (f i = nI 45)) S (by omega) ht (by omega)
        rw [← nI_add i 1] at ih1
        by_cases d : f i = nI 45
        · rw [decide_eq_true d] at ih1 ⊢
          exact cw_run cw_kX0_tellClausesTo cw_z 22 [false, true, true, false] [] [(_, _), (_, _)] (And.intro (h0) (And.intro (cp_characterAt2 l f S rfl h6 (hc i (by omega))) (And.intro (Nat.le_refl _) (And.intro (cp_isDigit l _ _) (And.intro (Nat.le_refl _) (And.intro (cb_n0.mpr b) (And.intro (a) (And.intro ((fun q => q d)) (cw_less [0, 1, 3, 4, 5] rfl ih1)))))))))
        · rw [decide_eq_false d] at ih1 ⊢
          exact cw_run cw_kX0_tellClausesTo cw_z 21 [false, true, true, true] [] [(_, _), (_, _)] (And.intro (h0) (And.intro (cp_characterAt2 l f S rfl h6 (hc i (by omega))) (And.intro (Nat.le_refl _) (And.intro (cp_isDigit l _ _) (And.intro (Nat.le_refl _) (And.intro (cb_n0.mpr b) (And.intro (a) (And.intro (d) (cw_less [0, 1, 3, 4, 5] rfl ih1)))))))))
theorem cp_tellClausesTo (l : Launch) (f : Nat → Int32) (S : cs_S) {N : Nat} (hN : N ≤ 60) (hc : ∀ k, k < N → cp_c1 (f k)) (ht : cs_to S = nI (cs_t S)) (h20 : cs_t S + cp_sc f N 0 ≤ 20) : cw_M l mm_X0_tellClausesTo 0 0 [.ref 0, .ref 2] (cp_h2 f (nI N) S) none (cp_h2 f (nI N) (cp_tl f N 0 (nI 0) false S)) := by
  refine cw_enter cw_KX0_tellClausesTo (by decide) (Nat.le_of_ble_eq_true rfl) ?_
  exact cw_run cw_kX0_tellClausesTo cw_z 6 [] [] [] (cp_tl_loop l f S hN hc N 0 (nI 0) false S (by omega) ht h20)
/-- what a new object is: a search, a pad -/
def cs_z : cs_S := (nI 4, nI 10, nI 0, nI 0, nI 0, fun _ => 0, nI 0, fun _ => 0, fun _ => 0, fun _ => 0, nI 0, nI 0, nI 0, nI 0)
def cs_blank : cw_H := [.inr (1, [.int 0, .int 0, .int 0, .int 0, .int 0, .null, .int 0, .null, .null, .null, .int 0, .int 0, .int 0, .int 0])]
theorem cs_init (l : Launch) : cw_M l mm_X1_init 4 87 [.ref 0] cs_blank none (cs_h cs_z) := by
  refine cw_enter cw_KX1_init (by decide) (Nat.le_of_ble_eq_true rfl) ?_
  refine cw_run cw_kX1_init (by decide) 19 [] [] [] (cw_newa 0 .int (Or.inl ⟨rfl, rfl⟩) cw_kX1_init (by decide) rfl (by decide) (cw_wfb_ok rfl) (by decide) (by decide) ?_)
  refine cw_run cw_kX1_init (by decide) 6 [] [] [] (cw_newa 0 .int (Or.inl ⟨rfl, rfl⟩) cw_kX1_init (by decide) rfl (by decide) (cw_wfb_ok rfl) (by decide) (by decide) ?_)
  refine cw_run cw_kX1_init (by decide) 3 [] [] [] (cw_newa 0 .int (Or.inl ⟨rfl, rfl⟩) cw_kX1_init (by decide) rfl (by decide) (cw_wfb_ok rfl) (by decide) (by decide) ?_)
  refine cw_run cw_kX1_init (by decide) 3 [] [] [] (cw_newa 0 .int (Or.inl ⟨rfl, rfl⟩) cw_kX1_init (by decide) rfl (by decide) (cw_wfb_ok rfl) (by decide) (by decide) ?_)
  exact cw_run cw_kX1_init (by decide) 13 [] [] [] (cw_retv cw_kX1_init (by decide) rfl rfl)
theorem cp_init (l : Launch) : cw_M l mm_X0_init 1 60 [.ref 0] [.inr (0, [.null, .int 0])] none (cp_h (fun _ => 0) (nI 0)) := by
  refine cw_enter cw_KX0_init (by decide) (Nat.le_of_ble_eq_true rfl) ?_
  refine cw_run cw_kX0_init (by decide) 4 [] [] [] (cw_newa 1 .char (Or.inr ⟨rfl, rfl⟩) cw_kX0_init (by decide) rfl (by decide) (cw_wfb_ok rfl) (by decide) (by decide) ?_)
  exact cw_run cw_kX0_init (by decide) 4 [] [] [] (cw_retv cw_kX0_init (by decide) rfl rfl)
end
section
/-! the reference: its heap, its small methods -/
abbrev cm_S : Type := (Nat → Int32) × (Nat → Int32) × (Nat → Int32) × Int32 × (Nat → Int32) × (Nat → Int32) × (Nat → Int32) × Int32 × (Nat → Int32) × Int32
abbrev cm_st (M : cm_S) : Nat → Int32 := M.1
def cm_h (M : cm_S) : cw_H := [.inr (3, [.ref 1, .ref 2, .ref 3, .int M.2.2.2.1, .ref 4, .ref 5, .ref 6, .int M.2.2.2.2.2.2.2.1, .ref 7, .int M.2.2.2.2.2.2.2.2.2]), .inl (0, 109, .inl M.1), .inl (0, 109, .inl M.2.1), .inl (0, 654, .inl M.2.2.1), .inl (0, 218, .inl M.2.2.2.2.1), .inl (0, 2, .inl M.2.2.2.2.2.1), .inl (0, 60, .inl M.2.2.2.2.2.2.1), .inl (0, 32, .inl M.2.2.2.2.2.2.2.2.1)]
abbrev cm_wst (M : cm_S) (f : Nat → Int32) : cm_S := (f, M.2)
/-- within bounds -/
def cb_wi (v a b : Int32) : Bool := decide (¬ v < a ∧ ¬ b < v)
theorem cb_shb (x : Int32) {k : Nat} (hk : k < 32) : (x >>> (nI k &&& 31)) &&& nI 1 = cb_n (bt x k) := by
  have h1 : ∀ i, i < 32 → bt (nI 1) i = decide (i = 0) := by decide +kernel
  have h2 : ∀ i, i < 32 → bt (nI 0) i = false := by decide +kernel
  apply b_ext
  intro i hi
  rw [b_and, b_sshr k hk x hi, h1 i hi]
  by_cases e : i = 0
  · subst e
    rw [if_pos (by omega), Nat.add_zero]
    cases bt x k <;> simp [cb_n, h1 0 (by omega), h2 0 (by omega)]
  · rw [decide_eq_false e, Bool.and_false]
    cases bt x k <;> simp [cb_n, h1 i hi, h2 i hi, e]
theorem cb_n1 {b : Bool} : cb_n b = nI 1 ↔ b = true := by cases b <;> decide +kernel
/-- the value that a sign wants -/
def cb_wa (k : Nat) : Int32 := if k < 10 then nI 1 else nI 0
theorem cb_r10 {s : Nat} (h : s < 32) : nI s - nI s / nI 10 * nI 10 = nI (s % 10) := pk_rem (by omega) (by omega) (by omega)
/-- is a clause true (from sign s on, n more)? how many of its signs are open? -/
def cm_tr (f : Nat → Int32) (c : Int32) : Nat → Nat → Bool → Bool
  | 0, _, a => a
  | n + 1, s, a => cm_tr f c n (s + 1) (a || (bt c s && decide (f (19 + s % 10) = cb_wa s)))
def cm_op (f : Nat → Int32) (c : Int32) : Nat → Nat → Nat → Nat
  | 0, _, a => a
  | n + 1, s, a => cm_op f c n (s + 1) (a + (if bt c s = true ∧ f (19 + s % 10) = -nI 6 then 1 else 0))
theorem cm_op_le (f : Nat → Int32) (c : Int32) : ∀ n s a, cm_op f c n s a ≤ a + n
  | 0, _, _ => Nat.le_refl _
  | n + 1, s, a => by
    have := cm_op_le f c n (s + 1) (a + (if bt c s = true ∧ f (19 + s % 10) = -nI 6 then 1 else 0))
    have h2 : (if bt c s = true ∧ f (19 + s % 10) = -nI 6 then 1 else 0) ≤ 1 := by split <;> omega
    unfold cm_op
    omega
def cm_opn (f : Nat → Int32) (c : Int32) : Nat := cm_op f c 19 1 0
def cm_tru (f : Nat → Int32) (c : Int32) : Bool := cm_tr f c 19 1 false
def cm_fa (f : Nat → Int32) (c : Int32) : Bool := decide (cm_opn f c = 0) && !cm_tru f c
/-- the sign of a clause that has a thing -/
def cm_so (c : Int32) (k : Nat) : Int32 := if bt c k then nI k else if bt c (k + 10) then nI (k + 10) else -nI 6
def cm_wo (c : Int32) (x : Int32) : Int32 := c &&& (((nI 1 <<< (x &&& 31)) ||| (nI 1 <<< ((x + nI 10) &&& 31))) ^^^ (-nI 1))
/-- a thing forgotten -/
def cm_fg (f : Nat → Int32) (x : Nat) : Nat → Int32 := upd (upd (upd f (19 + x) (-nI 6)) (29 + x) (-nI 6)) (39 + x) (-nI 6)
end
section
/-! the reference: the trail, the clauses, what a conflict gives -/
/-- what bounds the rows: t told clauses, n learned ones, g values; the things of the trail -/
def cm_B (f : Nat → Int32) (t n g : Nat) : Prop := (f 3 = nI t ∧ t ≤ 20) ∧ (f 4 = nI n ∧ n ≤ 40) ∧ (f 7 = nI g ∧ g ≤ 9) ∧ ∀ k, k < g → ∃ x, x ≤ 9 ∧ f (10 + k) = nI x
def cm_x (f : Nat → Int32) (k : Nat) : Nat := (f (10 + k)).toNatClampNeg
theorem cm_B_x {f : Nat → Int32} {t n g : Nat} (h : cm_B f t n g) {k : Nat} (hk : k < g) : cm_x f k ≤ 9 ∧ f (10 + k) = nI (cm_x f k) := by
  obtain ⟨x, h1, h2⟩ := h.2.2.2 k hk
  have : cm_x f k = x := by unfold cm_x; rw [h2, nI_clamp (by omega)]
  rw [this]
  exact ⟨h1, h2⟩
/-- the first half of going back: from place k on, n more; so many are left -/
def cm_gb (L : Int32) : Nat → Nat → Nat → (Nat → Int32) → Nat × (Nat → Int32)
  | 0, _, left, f => (left, f)
  | n + 1, k, left, f => if f (29 + cm_x f k) ≤ L then cm_gb L n (k + 1) (left + 1) (upd f (10 + left) (f (10 + k))) else cm_gb L n (k + 1) left (cm_fg f (cm_x f k))
/-- zeros behind the trail -/
def cm_zt (f : Nat → Int32) (a : Nat) : Nat → Nat → Int32 := fun i j => if 10 + a ≤ j ∧ j < 10 + i then nI 0 else f j
def cm_gbk (L : Int32) (g : Nat) (f : Nat → Int32) : Nat → Int32 := upd (upd (cm_zt (cm_gb L g 0 0 f).2 (cm_gb L g 0 0 f).1 9) 7 (nI (cm_gb L g 0 0 f).1)) 6 L
theorem cm_zt_0 (f : Nat → Int32) (a : Nat) : cm_zt f a a = f := by funext j; unfold cm_zt; rw [if_neg (by omega)]
theorem cm_zt_s (f : Nat → Int32) {a i : Nat} (h : a ≤ i) : upd (cm_zt f a i) (10 + i) (nI 0) = cm_zt f a (i + 1) := by
  funext j
  unfold upd cm_zt
  by_cases e : j = 10 + i
  · subst e; rw [if_pos rfl, if_pos (by omega)]
  · rw [if_neg e]
    by_cases q : 10 + a ≤ j ∧ j < 10 + i
    · rw [if_pos q, if_pos (by omega)]
    · rw [if_neg q, if_neg (by omega)]
theorem cm_gb_le (L : Int32) : ∀ n k left f, (cm_gb L n k left f).1 ≤ left + n
  | 0, _, _, _ => Nat.le_refl _
  | n + 1, k, left, f => by
    unfold cm_gb
    split
    · have := cm_gb_le L n (k + 1) (left + 1) (upd f (10 + left) (f (10 + k))); omega
    · have := cm_gb_le L n (k + 1) left (cm_fg f (cm_x f k)); omega
/-- along the first half: places from k on are as they were, and have things -/
def cm_go (g k left : Nat) (f : Nat → Int32) : Prop := left ≤ k ∧ f 7 = nI g ∧ ∀ j, k ≤ j → j < g → ∃ x, x ≤ 9 ∧ f (10 + j) = nI x
/-- a value given -/
def cm_gv (f : Nat → Int32) (g x : Nat) (v r : Int32) : Nat → Int32 := upd (upd (upd (upd (upd f (10 + g) (nI x)) 7 (nI (g + 1))) (19 + x) v) (29 + x) (f 6)) (39 + x) r
/-- the false clause, the following one with the lowest number: from number n - 1 down -/
def cm_fo (f : Nat → Int32) : Nat → Int32 → Int32
  | 0, a => a
  | n + 1, a => cm_fo f n (if cm_fa f (f (49 + n)) then nI n else a)
def cm_fw (f : Nat → Int32) : Nat → Int32 → Int32
  | 0, a => a
  | n + 1, a => cm_fw f n (if cm_opn f (f (49 + n)) = 1 ∧ cm_tru f (f (49 + n)) = false then nI n else a)
/-- the lowest open thing, from thing n down -/
def cm_lw (f : Nat → Int32) : Nat → Int32 → Int32
  | 0, a => a
  | n + 1, a => cm_lw f n (if f (19 + (n + 1)) = -nI 6 then nI (n + 1) else a)
end
section
/-! the reference: what a conflict gives, room for it -/
/-- has the thing at a place of the trail the present level, and a sign in the clause? -/
def cm_at (f : Nat → Int32) (c : Int32) (k : Nat) : Bool := decide (f (29 + cm_x f k) = f 6) && !decide (cm_so c (cm_x f k) = -nI 6)
def cm_pi (f : Nat → Int32) (c : Int32) : Nat → Nat → Nat → Nat
  | 0, _, a => a
  | n + 1, k, a => cm_pi f c n (k + 1) (a + (if cm_at f c k then 1 else 0))
def cm_li (f : Nat → Int32) (c : Int32) : Nat → Nat → Int32 → Int32
  | 0, _, a => a
  | n + 1, k, a => cm_li f c n (k + 1) (if cm_at f c k then nI (cm_x f k) else a)
theorem cm_pi_ge (f : Nat → Int32) (c : Int32) : ∀ n k a, a ≤ cm_pi f c n k a
  | 0, _, _ => Nat.le_refl _
  | n + 1, k, a => by
    unfold cm_pi
    exact Nat.le_trans (Nat.le_add_right _ _) (cm_pi_ge f c n (k + 1) _)
theorem cm_pi_le (f : Nat → Int32) (c : Int32) : ∀ n k a, cm_pi f c n k a ≤ a + n
  | 0, _, _ => Nat.le_refl _
  | n + 1, k, a => by
    have h2 : (if cm_at f c k then 1 else 0) ≤ 1 := by split <;> omega
    have := cm_pi_le f c n (k + 1) (a + (if cm_at f c k then 1 else 0))
    unfold cm_pi
    omega
/-- the last one is a thing, where there is one -/
theorem cm_li_ok {f : Nat → Int32} {t nn g : Nat} (hB : cm_B f t nn g) (c : Int32) : ∀ n k a b, k + n = g → (b = 0 ∨ ∃ x, x ≤ 9 ∧ a = nI x) → 0 < cm_pi f c n k b → ∃ x, x ≤ 9 ∧ cm_li f c n k a = nI x
  | 0, k, a, b, hk, h, hp => by
    rcases h with h | h
    · unfold cm_pi at hp; omega
    · exact h
  | n + 1, k, a, b, hk, h, hp => by
    unfold cm_pi at hp
    unfold cm_li
    cases e : cm_at f c k with
    | true =>
      rw [if_pos rfl]
      rw [e, if_pos rfl] at hp
      exact cm_li_ok hB c n (k + 1) _ _ (by omega) (Or.inr ⟨_, (cm_B_x hB (by omega)).1, rfl⟩) hp
    | false =>
      rw [if_neg (by decide)]
      rw [e, if_neg (by decide)] at hp
      exact cm_li_ok hB c n (k + 1) _ _ (by omega) h hp
/-- a reason's clause lies in the row -/
def cm_R (f : Nat → Int32) : Prop := ∀ x, x ≤ 9 → ∃ j, j < 109 ∧ nI 49 + f (39 + x) = nI j
def cm_rc (f : Nat → Int32) (x : Int32) : Int32 := f (nI 49 + f (nI 39 + x).toNatClampNeg).toNatClampNeg
/-- the clause learnt out of a clause, in at most so many turns -/
def cm_ln (f : Nat → Int32) (g : Nat) : Nat → Int32 → Option Int32
  | 0, _ => none
  | N + 1, c => if cm_pi f c g 0 0 ≤ 1 then some c else cm_ln f g N (cm_wo c (cm_li f c g 0 (-nI 6)) ||| cm_wo (cm_rc f (cm_li f c g 0 (-nI 6))) (cm_li f c g 0 (-nI 6)))
/-- the greatest level below the present one -/
def cm_lb (f : Nat → Int32) (c : Int32) : Nat → Nat → Int32 → Int32
  | 0, _, a => a
  | n + 1, k, a => cm_lb f c n (k + 1) (if f 6 ≤ f (29 + cm_x f k) then a else if f (29 + cm_x f k) ≤ a then a else if cm_so c (cm_x f k) = -nI 6 then a else f (29 + cm_x f k))
def cm_ir (f : Nat → Int32) (c : Int32) : Nat → Nat → Bool → Bool
  | 0, _, a => a
  | n + 1, x, a => cm_ir f c n (x + 1) (a || decide (f (39 + x) = c))
/-- a learned clause dropped -/
def cm_sf (f : Nat → Int32) (k i : Nat) : Nat → Int32 := fun j => if 49 + k ≤ j ∧ j < 49 + i then f (j + 1) else f j
theorem cm_sf_k (f : Nat → Int32) (k : Nat) : cm_sf f k k = f := by funext j; unfold cm_sf; rw [if_neg (by omega)]
theorem cm_sf_s (f : Nat → Int32) {k i : Nat} (h : k ≤ i) : upd (cm_sf f k i) (49 + i) (cm_sf f k i (49 + i + 1)) = cm_sf f k (i + 1) := by
  funext j
  unfold upd cm_sf
  by_cases e : j = 49 + i
  · subst e; rw [if_pos rfl, if_neg (by omega), if_pos (by omega)]
  · rw [if_neg e]
    by_cases q : 49 + k ≤ j ∧ j < 49 + i
    · rw [if_pos q, if_pos (by omega)]
    · rw [if_neg q, if_neg (by omega)]
def cm_lr (f : Nat → Int32) (x : Int32) (i : Nat) : Nat → Int32 := fun j => if 40 ≤ j ∧ j < 39 + i ∧ x < f j then f j - nI 1 else f j
theorem cm_lr_1 (f : Nat → Int32) (x : Int32) : cm_lr f x 1 = f := by funext j; unfold cm_lr; rw [if_neg (by omega)]
theorem cm_lr_at (f : Nat → Int32) (x : Int32) (i : Nat) : cm_lr f x i (39 + i) = f (39 + i) := by unfold cm_lr; rw [if_neg (by omega)]
theorem cm_lr_s (f : Nat → Int32) (x : Int32) {i : Nat} (h : 1 ≤ i) : upd (cm_lr f x i) (39 + i) (f (39 + i) - (if x < f (39 + i) then nI 1 else nI 0)) = cm_lr f x (i + 1) := by
  funext j
  unfold upd cm_lr
  by_cases e : j = 39 + i
  · subst e
    rw [if_pos rfl]
    by_cases c : x < f (39 + i)
    · rw [if_pos c, if_pos ⟨by omega, by omega, c⟩]
    · rw [if_neg c, if_neg (fun q => c q.2.2)]
      exact Int32.sub_zero _
  · rw [if_neg e]
    by_cases q : 40 ≤ j ∧ j < 39 + i ∧ x < f j
    · rw [if_pos q, if_pos ⟨q.1, by omega, q.2.2⟩]
    · rw [if_neg q, if_neg (fun q2 => q ⟨q2.1, by omega, q2.2.2⟩)]
def cm_dr (f : Nat → Int32) (t n k : Nat) : Nat → Int32 := cm_lr (upd (upd (cm_sf f k (t + n - 1)) (49 + (t + n) - 1) (nI 0)) 4 (nI (n - 1))) (nI k) 10
/-- the learned clause that is to go: from number t + m - 1 down to t -/
def cm_mk (f : Nat → Int32) (t : Nat) : Nat → Int32 → Int32
  | 0, a => a
  | m + 1, a => cm_mk f t m (if cm_ir f (nI (t + m)) 9 1 false then a else nI (t + m))
end
section
/-! the reference: learning, following, one step, many; beginning anew -/
def cm_rm (f : Nat → Int32) (t n : Nat) : Nat → Int32 := if n = 40 then cm_dr f t n (cm_mk f t n (-nI 6)).toNatClampNeg else f
def cm_n2 (n : Nat) : Nat := if n = 40 then 39 else n
def cm_ps (f : Nat → Int32) (t n : Nat) (c : Int32) : Nat → Int32 := upd (upd (upd f (49 + (t + n)) c) 4 (nI (n + 1))) 8 (f 8 + nI 1)
def cm_le (f : Nat → Int32) (g : Nat) : Nat → Int32 := if f 8 - f 8 / f 1 * f 1 = 0 then cm_gbk (nI 0) g f else f
/-- what learning the clause c makes of the state -/
def cm_lf (f : Nat → Int32) (t n g : Nat) (c : Int32) : Nat → Int32 := cm_le (cm_ps (cm_rm (cm_gbk (cm_lb f c g 0 (nI 0)) g f) t n) t (cm_n2 n) c) (cm_gb (cm_lb f c g 0 (nI 0)) g 0 0 f).1
/-- the sign that follows out of a clause -/
def cm_fs (f : Nat → Int32) (c : Int32) : Nat → Nat → Int32 → Int32
  | 0, _, a => a
  | n + 1, s, a => cm_fs f c n (s + 1) (if bt c s = true ∧ f (19 + s % 10) = -nI 6 then nI s else a)
/-- one step, in its five forms -/
def cm_s0 (f : Nat → Int32) : Nat → Int32 := upd f 9 (f 9 + nI 1)
theorem cm_n6 {k : Nat} (hk : k < 2 ^ 31) : ¬ nI k = -nI 6 := by
  have : -nI 6 < nI 0 := by decide
  intro q; rw [← q] at this; exact nI_nlt (by omega) (by omega) this
end
section
/-! the reference: beginning anew, states moved and kept, what is asked of a clause -/
def cm_zc (f : Nat → Int32) (t i : Nat) : Nat → Int32 := fun j => if 49 + t ≤ j ∧ j < 49 + i then nI 0 else f j
theorem cm_zc_t (f : Nat → Int32) (t : Nat) : cm_zc f t t = f := by funext j; unfold cm_zc; rw [if_neg (by omega)]
theorem cm_zc_s (f : Nat → Int32) {t i : Nat} (h : t ≤ i) : upd (cm_zc f t i) (49 + i) (nI 0) = cm_zc f t (i + 1) := by
  funext j
  unfold upd cm_zc
  by_cases e : j = 49 + i
  · subst e; rw [if_pos rfl, if_pos (by omega)]
  · rw [if_neg e]
    by_cases q : 49 + t ≤ j ∧ j < 49 + i
    · rw [if_pos q, if_pos (by omega)]
    · rw [if_neg q, if_neg (by omega)]
def cm_an0 (f : Nat → Int32) (t : Nat) : Nat → Int32 := upd (upd (upd (upd (cm_zc (upd f 4 (nI 0)) t 60) 8 (nI 0)) 9 (nI 0)) 5 (nI 0)) 7 (nI 0)
def cm_fgs (f : Nat → Int32) : Nat → Nat → Int32
  | 0 => f
  | n + 1 => cm_fg (cm_fgs f n) n
def cm_an (f : Nat → Int32) (t : Nat) : Nat → Int32 := cm_gbk (nI 0) 0 (cm_fgs (cm_an0 f t) 10)
theorem cm_fgs_lo (f : Nat → Int32) {j : Nat} (h : j < 19) : ∀ n, cm_fgs f n j = f j
  | 0 => rfl
  | n + 1 => by
    unfold cm_fgs cm_fg
    rw [pk_un (by omega), pk_un (by omega), pk_un (by omega)]
    exact cm_fgs_lo f h n
theorem cm_an_B {f : Nat → Int32} {t : Nat} (ht : f 3 = nI t) (h20 : t ≤ 20) : cm_B (cm_fgs (cm_an0 f t) 10) t 0 0 := by
  have e : ∀ j, j < 19 → cm_fgs (cm_an0 f t) 10 j = cm_an0 f t j := fun j hj => cm_fgs_lo _ hj 10
  have z : ∀ j, j < 49 → cm_zc (upd f 4 (nI 0)) t 60 j = upd f 4 (nI 0) j := fun j hj => by unfold cm_zc; rw [if_neg (by omega)]
  refine ⟨⟨?_, h20⟩, ⟨?_, by omega⟩, ⟨?_, by omega⟩, fun k hk => absurd hk (by omega)⟩
  · rw [e 3 (by omega)]; unfold cm_an0; rw [pk_un (by omega), pk_un (by omega), pk_un (by omega), pk_un (by omega), z 3 (by omega), pk_un (by omega)]; exact ht
  · rw [e 4 (by omega)]; unfold cm_an0; rw [pk_un (by omega), pk_un (by omega), pk_un (by omega), pk_un (by omega), z 4 (by omega), pk_us]
  · rw [e 7 (by omega)]; unfold cm_an0; rw [pk_us]
/-- a state moved from row to row -/
def cm_2 (na nb : Nat) (F G : Nat → Int32) : cw_H := [.inl (0, na, .inl F), .inl (0, nb, .inl G)]
def cm_cp (F G : Nat → Int32) (a b i : Nat) : Nat → Int32 := fun j => if b ≤ j ∧ j < b + i then F (a + (j - b)) else G j
theorem cm_cp_0 (F G : Nat → Int32) (a b : Nat) : cm_cp F G a b 0 = G := by funext j; unfold cm_cp; rw [if_neg (by omega)]
theorem cm_cp_s (F G : Nat → Int32) (a b i : Nat) : upd (cm_cp F G a b i) (b + i) (F (a + i)) = cm_cp F G a b (i + 1) := by
  funext j
  unfold upd cm_cp
  by_cases e : j = b + i
  · subst e; rw [if_pos rfl, if_pos (by omega), show b + i - b = i by omega]
  · rw [if_neg e]
    by_cases q : b ≤ j ∧ j < b + i
    · rw [if_pos q, if_pos (by omega)]
    · rw [if_neg q, if_neg (by omega)]
def cm_io (p q : Nat) : Nat → Nat := fun k => if k = 0 then p else q
/-- what a change keeps: the state goes into the history -/
def cm_sh (h : Nat → Int32) (i : Nat) : Nat → Int32 := fun j => if j < i then h (j + 109) else h j
theorem cm_sh_0 (h : Nat → Int32) : cm_sh h 0 = h := by funext j; unfold cm_sh; rw [if_neg (by omega)]
theorem cm_sh_s (h : Nat → Int32) (i : Nat) : upd (cm_sh h i) i (cm_sh h i (i + 109)) = cm_sh h (i + 1) := by
  funext j
  unfold upd cm_sh
  by_cases e : j = i
  · subst e; rw [if_pos rfl, if_neg (by omega), if_pos (by omega)]
  · rw [if_neg e]
    by_cases q : j < i
    · rw [if_pos q, if_pos (by omega)]
    · rw [if_neg q, if_neg (by omega)]
def cm_ru (u : Nat) : Nat := if u = 6 then 5 else u
def cm_rh (h : Nat → Int32) (u : Nat) : Nat → Int32 := if u = 6 then cm_sh h 545 else h
def cm_rec (M : cm_S) (u : Nat) : cm_S := (M.1, M.2.1, cm_cp M.1 (cm_rh M.2.2.1 u) 0 (cm_ru u * 109) 109, nI (cm_ru u + 1), M.2.2.2.2)
/-- the greatest thing of a clause; of the told ones -/
def cm_gi (c : Int32) : Nat → Nat → Int32 → Int32
  | 0, _, a => a
  | n + 1, x, a => cm_gi c n (x + 1) (if cm_so c x = -nI 6 then a else nI x)
def cm_gt (f : Nat → Int32) : Nat → Nat → Int32 → Int32
  | 0, _, a => a
  | n + 1, k, a => cm_gt f n (k + 1) (if a < cm_gi (f (49 + k)) 9 1 (nI 0) then cm_gi (f (49 + k)) 9 1 (nI 0) else a)
/-- settings, told clauses, things -/
def cb_iv (s v : Int32) : Bool := if s = 0 then cb_wi v (nI 1) (nI 9) else if s = nI 1 then cb_wi v (nI 1) (nI 20) else if s = nI 2 then cb_wi v (nI 0) (nI 1) else false
/-- a told clause taken away -/
def cm_tk (f : Nat → Int32) (t k : Nat) : Nat → Int32 := cm_an (upd (cm_sf f k (t - 1)) 3 (nI (t - 1))) (t - 1)
/-- the place of a thing in the trail -/
def cm_pf (f : Nat → Int32) (x : Int32) : Nat → Nat → Int32 → Int32
  | 0, _, a => a
  | n + 1, k, a => cm_pf f x n (k + 1) (if f (10 + k) = x then nI k else a)
/-- how many signs a clause has; the one at a place -/
def cm_si (c : Int32) : Nat → Nat → Nat → Nat
  | 0, _, a => a
  | n + 1, s, a => cm_si c n (s + 1) (a + (if bt c s then 1 else 0))
theorem cb_nn (b : Bool) : cb_n b = nI (if b then 1 else 0) := by cases b <;> rfl
def cm_sa (c : Int32) : Nat → Nat → Int32 → Int32 → Int32
  | 0, _, _, a => a
  | n + 1, x, lf, a => cm_sa c n (x + 1) (lf - (if cm_so c x = -nI 6 then nI 0 else nI 1)) (if ¬ cm_so c x = -nI 6 ∧ lf = 0 then cm_so c x else a)
/-- does an answer make a clause true? -/
def cm_fi (c : Int32) (A : Nat) : Nat → Nat → Bool → Bool
  | 0, _, a => a
  | n + 1, s, a => cm_fi c A n (s + 1) (a || (bt c s && (decide (¬ s = 10) && decide (cb_n (bt (nI A) (s % 10 - 1)) = cb_wa s))))
/-- is it an answer, but for a clause? how many are there? -/
def cm_ia (f : Nat → Int32) (A : Nat) (but : Int32) : Nat → Nat → Bool
  | 0, _ => true
  | n + 1, k => (decide (nI k = but) || cm_fi (f (49 + k)) A 19 1 false) && cm_ia f A but n (k + 1)
def cm_isa (f : Nat → Int32) (t A : Nat) (but : Int32) : Bool := cm_ia f A but t 0
theorem cb_pow : ∀ th, th ≤ 9 → nI 1 <<< (nI th &&& 31) = nI (2 ^ th) := by decide +kernel
theorem cb_pow9 {th : Nat} (h : th ≤ 9) : 2 ^ th ≤ 512 := by
  calc 2 ^ th ≤ 2 ^ 9 := Nat.pow_le_pow_right (by omega) h
    _ = 512 := rfl
def cm_ab (f : Nat → Int32) (t : Nat) (but : Int32) : Nat → Nat → Nat → Nat
  | 0, _, m => m
  | n + 1, A, m => cm_ab f t but n (A + 1) (m + (if cm_isa f t A but then 1 else 0))
end
section
/-! the reference: the pad, the fault, the constructor -/
abbrev cm_w2 (M : cm_S) (td : Nat → Int32) (m : Int32) : cm_S := (M.1, M.2.1, M.2.2.1, M.2.2.2.1, M.2.2.2.2.1, M.2.2.2.2.2.1, M.2.2.2.2.2.2.1, M.2.2.2.2.2.2.2.1, td, m)
abbrev cm_pd (M : cm_S) : Nat → Int32 := M.2.2.2.2.2.2.1
def cm_ch (f : Nat → Int32) (N k : Nat) : Int32 := if k < N then f k else -nI 1
/-- the fault from character a on: the last thing, the clause so far, the clauses before -/
def cm_cc (c d : Int32) (z : Bool) : Int32 := c ||| (nI 1 <<< ((d + (if z then nI 10 else nI 0)) &&& 31))
def cm_ff (ch : Nat → Int32) (N : Nat) : Nat → Nat → Int32 → Int32 → Nat → (Nat → Int32) → Int32 × (Nat → Int32) × Nat
  | 0, _, _, _, m, td => (-nI 6, td, m)
  | n + 1, a, L, c, m, td => if cb_wi (ch (a + (if ch a = nI 45 then 1 else 0)) - nI 48) (L + nI 1) (nI 9) then (
      if ch (a + (if ch a = nI 45 then 1 else 0) + 1) = nI 44 ∧ ch (a + (if ch a = nI 45 then 1 else 0)) - nI 48 < nI 9 then cm_ff ch N n (a + (if ch a = nI 45 then 1 else 0) + 2) (ch (a + (if ch a = nI 45 then 1 else 0)) - nI 48) (cm_cc c (ch (a + (if ch a = nI 45 then 1 else 0)) - nI 48) (decide (ch a = nI 45))) m td
      else if a + (if ch a = nI 45 then 1 else 0) + 1 = N then (-nI 6, upd td m (cm_cc c (ch (a + (if ch a = nI 45 then 1 else 0)) - nI 48) (decide (ch a = nI 45))), m + 1)
      else if ch (a + (if ch a = nI 45 then 1 else 0) + 1) = nI 59 then cm_ff ch N n (a + (if ch a = nI 45 then 1 else 0) + 2) (nI 0) (nI 0) (m + 1) (upd td m (cm_cc c (ch (a + (if ch a = nI 45 then 1 else 0)) - nI 48) (decide (ch a = nI 45))))
      else (nI (a + (if ch a = nI 45 then 1 else 0) + 1), upd td m (cm_cc c (ch (a + (if ch a = nI 45 then 1 else 0)) - nI 48) (decide (ch a = nI 45))), m + 1))
    else (nI (a + (if ch a = nI 45 then 1 else 0)), td, m)
theorem cm_ch_lt {f : Nat → Int32} {N k : Nat} (h : ¬ cm_ch f N k = -nI 1) : k < N := by
  rcases Nat.lt_or_ge k N with q | q
  · exact q
  · exact absurd (if_neg (by omega)) h
theorem cm_wi_lt {f : Nat → Int32} {N k : Nat} {L : Int32} (hL : ¬ L < 0 ∧ L ≤ nI 9) (h : cb_wi (cm_ch f N k - nI 48) (L + nI 1) (nI 9) = true) : k < N := by
  refine cm_ch_lt (f := f) (fun q => ?_)
  rw [q] at h
  obtain ⟨j, hj, rfl⟩ := nI_of hL.1
  have hj9 : j ≤ 9 := by
    rcases Nat.lt_or_ge 9 j with z | z
    · exact absurd hL.2 (nI_ge z hj)
    · exact z
  revert h
  exact (by decide +kernel : ∀ j, j ≤ 9 → ¬ cb_wi (-nI 1 - nI 48) (nI j + nI 1) (nI 9) = true) j hj9
def cm_fr (f : Nat → Int32) (N : Nat) (td : Nat → Int32) : Int32 × (Nat → Int32) × Nat := cm_ff (cm_ch f N) N 31 0 (nI 0) (nI 0) 0 td
def cm_blank : cw_H := [.inr (3, [.null, .null, .null, .int 0, .null, .null, .null, .int 0, .null, .int 0])]
def cm_z0 : Nat → Int32 := upd (upd (fun _ => 0) 0 (nI 4)) 1 (nI 10)
def cm_z : cm_S := (cm_an cm_z0 0, fun _ => 0, fun _ => 0, nI 0, fun _ => 0, fun _ => 0, fun _ => 0, nI 0, fun _ => 0, nI 0)
end
section
/-! the reference: its public methods -/
abbrev cm_wrc (M : cm_S) (u : Int32) : cm_S := (M.1, M.2.1, M.2.2.1, u, M.2.2.2.2)
abbrev cm_wpl (M : cm_S) (n : Int32) : cm_S := (M.1, M.2.1, M.2.2.1, M.2.2.2.1, M.2.2.2.2.1, M.2.2.2.2.2.1, M.2.2.2.2.2.2.1, n, M.2.2.2.2.2.2.2.2)
abbrev cm_wpp (M : cm_S) (f : Nat → Int32) (n : Int32) : cm_S := (M.1, M.2.1, M.2.2.1, M.2.2.2.1, M.2.2.2.2.1, M.2.2.2.2.2.1, f, n, M.2.2.2.2.2.2.2.2)
/-- clauses of the pad told -/
def cm_add (f td : Nat → Int32) (t i : Nat) : Nat → Int32 := fun j => if 49 + t ≤ j ∧ j < 49 + t + i then td (j - 49 - t) else if j = 3 then nI (t + i) else f j
theorem cm_add_0 {f : Nat → Int32} {t : Nat} (ht : f 3 = nI t) (td : Nat → Int32) : cm_add f td t 0 = f := by
  funext j
  unfold cm_add
  rw [if_neg (by omega)]
  by_cases e : j = 3
  · subst e; rw [if_pos rfl]; exact ht.symm
  · rw [if_neg e]
theorem cm_add_3 (f td : Nat → Int32) (t i : Nat) : cm_add f td t i 3 = nI (t + i) := by
  unfold cm_add; rw [if_neg (by omega), if_pos rfl]
theorem cm_add_s (f td : Nat → Int32) (t i : Nat) : upd (upd (cm_add f td t i) (49 + (t + i)) (td i)) 3 (nI (t + (i + 1))) = cm_add f td t (i + 1) := by
  funext j
  unfold upd cm_add
  by_cases e3 : j = 3
  · subst e3; rw [if_pos rfl, if_neg (by omega), if_pos rfl]
  · rw [if_neg e3, if_neg e3, if_neg e3]
    by_cases e : j = 49 + (t + i)
    · subst e; rw [if_pos rfl, if_pos (by omega), show 49 + (t + i) - 49 - t = i by omega]
    · rw [if_neg e]
      by_cases q : 49 + t ≤ j ∧ j < 49 + t + i
      · rw [if_pos q, if_pos (by omega)]
      · rw [if_neg q, if_neg (by omega)]
/-- is a thing of the clauses from k on, n of them, too great? -/
def cm_big (td : Nat → Int32) (th : Int32) : Nat → Nat → Bool
  | 0, _ => false
  | n + 1, k => if th < cm_gi (td k) 9 1 (nI 0) then true else cm_big td th n (k + 1)
abbrev cm_td (M : cm_S) : Nat → Int32 := M.2.2.2.2.2.2.2.2.1
abbrev cm_tm (M : cm_S) : Int32 := M.2.2.2.2.2.2.2.2.2
end
section
/-! the reference: what is asked of it, answers, searches -/
theorem cb_sw (x : Int32) (n : Nat) (hn : n < 2 ^ 31) : (∃ j, j ≤ n ∧ x = nI j) ∨ (x.toInt < 0 ∨ (n : Int) < x.toInt) := by
  by_cases c : x < 0
  · right; left
    exact Int32.lt_iff_toInt_lt.mp c
  · obtain ⟨j, hj, rfl⟩ := nI_of c
    rcases Nat.lt_or_ge n j with q | q
    · right; right
      rw [nI_toInt hj]; omega
    · exact Or.inl ⟨j, q, rfl⟩
def cm_ofa (f : Nat → Int32) (k g : Nat) : Nat → Int32
  | 0 => f (19 + k)
  | 1 => f (29 + k)
  | 2 => f (39 + k)
  | _ => cm_pf f (nI k) g 0 (-nI 6)
abbrev cb_cl (f : Nat → Int32) (x : Int32) : Bool := cb_wi x (nI 0) (f 3 + f 4 - nI 1)
def cm_cla (f : Nat → Int32) (c : Int32) (j : Nat) : Int32 := if j = 0 then nI (cm_si c 19 1 0) else if j = 10 then cb_n (cm_tru f c) else if j = 11 then cb_n (cm_fa f c) else if j = 12 then nI (cm_opn f c) else cm_sa c 9 1 (nI j - nI 1) (-nI 6)
theorem cm_clause_sw : ∀ j, j ≤ 12 → j ≠ 0 → j ≠ 10 → j ≠ 11 → j ≠ 12 → Op.lookupswitch.offset [(0, 44), (10, 49), (11, 63), (12, 77)] 83 (nI j).toInt = 83 := by decide +kernel
def cm_cnt (M : cm_S) : Nat → Int32
  | 0 => cm_st M 3
  | 1 => cm_st M 4
  | 2 => cm_st M 5
  | 3 => cm_st M 6
  | 4 => cm_st M 7
  | 5 => cm_st M 8
  | 6 => cm_st M 9
  | 7 => cm_st M 0
  | 8 => cm_st M 1
  | 9 => cm_st M 2
  | 10 => M.2.2.2.2.2.2.2.1
  | _ => M.2.2.2.1
/-- how many answers there are, and how many with a thing at 1 -/
def cm_io2 (f : Nat → Int32) (t x : Nat) : Nat → Nat → Nat → Nat → Nat × Nat
  | 0, _, a, b => (a, b)
  | n + 1, A, a, b => cm_io2 f t x n (A + 1) (a + (if cm_isa f t A (-nI 6) = true ∧ bt (nI A) (x - 1) = true then 1 else 0)) (b + (if cm_isa f t A (-nI 6) then 1 else 0))
theorem cm_io2_le (f : Nat → Int32) (t x : Nat) : ∀ n A a b, (cm_io2 f t x n A a b).1 ≤ a + n ∧ (cm_io2 f t x n A a b).2 ≤ b + n
  | 0, _, _, _ => ⟨Nat.le_refl _, Nat.le_refl _⟩
  | n + 1, A, a, b => by
    have h := cm_io2_le f t x n (A + 1) (a + (if cm_isa f t A (-nI 6) = true ∧ bt (nI A) (x - 1) = true then 1 else 0)) (b + (if cm_isa f t A (-nI 6) then 1 else 0))
    have h2 : (if cm_isa f t A (-nI 6) = true ∧ bt (nI A) (x - 1) = true then 1 else 0) ≤ 1 := by split <;> omega
    have h3 : (if cm_isa f t A (-nI 6) then 1 else 0) ≤ 1 := by split <;> omega
    unfold cm_io2
    omega
def cm_ina (p : Nat × Nat) (w : Int32) : Int32 := if w = 0 then nI p.1 else if p.1 = 0 then nI 1 else if p.1 = p.2 then nI 1 else nI 0
/-- does a clause follow? -/
def cm_fl (f : Nat → Int32) (t : Nat) (c : Int32) : Nat → Nat → Bool → Bool
  | 0, _, b => b
  | n + 1, A, b => cm_fl f t c n (A + 1) (b && (!cm_isa f t A (-nI 6) || cm_fi c A 19 1 false))
/-- the needless ones -/
def cm_nd (f : Nat → Int32) (t th : Nat) : Nat → Nat → Int32 → Int32
  | 0, _, a => a
  | n + 1, k, a => cm_nd f t th n (k + 1) (a ||| (if cm_ab f t (nI k) (2 ^ th) 0 0 = cm_ab f t (-nI 6) (2 ^ th) 0 0 then nI 1 <<< (nI k &&& 31) else nI 0))
theorem cm_ab_le (f : Nat → Int32) (t : Nat) (but : Int32) : ∀ n A m, cm_ab f t but n A m ≤ m + n
  | 0, _, _ => Nat.le_refl _
  | n + 1, A, m => by
    have h := cm_ab_le f t but n (A + 1) (m + (if cm_isa f t A but then 1 else 0))
    have h3 : (if cm_isa f t A but then 1 else 0) ≤ 1 := by split <;> omega
    unfold cm_ab
    omega
/-- searches beside the state: it is kept, and comes back -/
abbrev cm_kp (M : cm_S) : Nat → Int32 := cm_cp M.1 M.2.1 0 0 109
def cm_sra (f : Nat → Int32) (w : Int32) : Int32 := if f 5 = 0 then -nI 6 else if w = 0 then f 9 else if w = nI 1 then f 8 else f 5
def cm_ita (f : Nat → Int32) : Int32 := if f 5 = 0 then -nI 6 else f 5
def cm_itf (f : Nat → Int32) (t s : Nat) : Nat → Int32 := upd (upd f (49 + t) (nI 1 <<< (nI s &&& 31))) 3 (nI (t + 1))
end
section
/-! the reference: texts, undo, saving -/
def cm_rs (x : Int64) : Nat → Int64
  | 0 => x
  | m + 1 => ((cm_rs x m).toUInt64 >>> ((nI 8).toInt64.toUInt64 &&& Int64.toUInt64 63)).toInt64
/-- how many characters, are all of them such -/
def cm_pl (x : Int64) : Nat → Nat → Bool → Nat × Bool
  | 0, m, b => (m, b)
  | n + 1, m, b => if lg_cmp (cm_rs x m &&& 255) (Int64.ofNat 0) = 0 then (m, b) else cm_pl x n (m + 1) (b && cb_wi (cm_rs x m &&& 255).toInt32 (nI 33) (nI 126))
theorem cm_pl_le (x : Int64) : ∀ n m b, (cm_pl x n m b).1 ≤ m + n
  | 0, _, _ => Nat.le_refl _
  | n + 1, m, b => by
    unfold cm_pl
    split
    · show m ≤ _; omega
    · have := cm_pl_le x n (m + 1) (b && cb_wi (cm_rs x m &&& 255).toInt32 (nI 33) (nI 126)); omega
def cm_pa (x : Int64) : Nat → Nat → (Nat → Int32) → Nat → Int32
  | 0, _, f => f
  | m + 1, n, f => cm_pa x m (n + 1) (upd f n (cp_cd x m))
abbrev cm_wsl (M : cm_S) (sl sv : Nat → Int32) : cm_S := (M.1, M.2.1, M.2.2.1, M.2.2.2.1, sl, sv, M.2.2.2.2.2.2)
end
section
/-! the class: its heap; contracts of its searches and its pad, there -/
def cc_s (a b c d : Nat) (S : cs_S) (r : cw_H) : cw_H := .inr (1, [.int (cs_th S), .int (cs_re S), .int (cs_fi S), .int (cs_to S), .int (cs_le S), .ref a, .int (cs_gi S), .ref b, .ref c, .ref d, .int (cs_va S), .int (cs_sd S), .int (cs_co S), .int (cs_sp S)]) :: .inl (0, 60, .inl (cs_cl S)) :: .inl (0, 9, .inl (cs_sg S)) :: .inl (0, 9, .inl (cs_lv S)) :: .inl (0, 9, .inl (cs_rs S)) :: r
def cc_L : Nat → List cs_S → cw_H
  | _, [] => []
  | b, S :: r => cc_s (b + 1) (b + 2) (b + 3) (b + 4) S (cc_L (b + 5) r)
def cc_g (H : Nat → Option Nat) : Nat → Option Nat := fun i => (H i).map (fun j => 15 + 5 * j)
def cc_h (u : Int32) (N T : cs_S) (H G : Nat → Option Nat) (f : Nat → Int32) (pl : Int32) (L : List cs_S) : cw_H :=
  .inr (2, [.ref 1, .ref 6, .ref 11, .int u, .ref 12, .ref 13]) :: cc_s 2 3 4 5 N (cc_s 7 8 9 10 T (.inl (2, 6, .inr (.inr (.inr (.inr (cc_g H))))) :: .inl (2, 2, .inr (.inr (.inr (.inr (cc_g G))))) :: .inr (0, [.ref 14, .int pl]) :: .inl (1, 60, .inl f) :: cc_L 15 L))
theorem cc_L_len : ∀ (b : Nat) (L : List cs_S), (cc_L b L).length = 5 * L.length
  | _, [] => rfl
  | b, S :: r => by
    have := cc_L_len (b + 5) r
    simp only [cc_L, cc_s, List.length_cons, this]
    omega
theorem cc_len (u : Int32) (N T : cs_S) (H G : Nat → Option Nat) (f : Nat → Int32) (pl : Int32) (L : List cs_S) : (cc_h u N T H G f pl L).length = 15 + 5 * L.length := by
  have := cc_L_len 15 L
  simp only [cc_h, cc_s, List.length_cons, this]
  omega
section CCX
variable {l : Launch} {u : Int32} {N T : cs_S} {H G : Nat → Option Nat} {f : Nat → Int32} {pl : Int32} {L : List cs_S}
theorem cc_now {i : cw_I} {av : List Value} {r : Option Value} {N' : cs_S} (hM : cw_M l i 0 0 av (cs_h N) r (cs_h N')) : cw_M l i 0 0 (av.map (cw_v (fun k => 1 + k))) (cc_h u N T H G f pl L) (r.map (cw_v (fun k => 1 + k))) (cc_h u N' T H G f pl L) :=
  cw_lift hM rfl [.inr (2, [.ref 1, .ref 6, .ref 11, .int u, .ref 12, .ref 13])] (cc_s 7 8 9 10 T (.inl (2, 6, .inr (.inr (.inr (.inr (cc_g H))))) :: .inl (2, 2, .inr (.inr (.inr (.inr (cc_g G))))) :: .inr (0, [.ref 14, .int pl]) :: .inl (1, 60, .inl f) :: cc_L 15 L)) rfl
theorem cc_tri {i : cw_I} {av : List Value} {r : Option Value} {T' : cs_S} (hM : cw_M l i 0 0 av (cs_h T) r (cs_h T')) : cw_M l i 0 0 (av.map (cw_v (fun k => 6 + k))) (cc_h u N T H G f pl L) (r.map (cw_v (fun k => 6 + k))) (cc_h u N T' H G f pl L) :=
  cw_lift hM rfl (.inr (2, [.ref 1, .ref 6, .ref 11, .int u, .ref 12, .ref 13]) :: cc_s 2 3 4 5 N []) (.inl (2, 6, .inr (.inr (.inr (.inr (cc_g H))))) :: .inl (2, 2, .inr (.inr (.inr (.inr (cc_g G))))) :: .inr (0, [.ref 14, .int pl]) :: .inl (1, 60, .inl f) :: cc_L 15 L) rfl
theorem cc_pad {i : cw_I} {av : List Value} {r : Option Value} {f' : Nat → Int32} {pl' : Int32} (hM : cw_M l i 0 0 av (cp_h f pl) r (cp_h f' pl')) : cw_M l i 0 0 (av.map (cw_v (fun k => 13 + k))) (cc_h u N T H G f pl L) (r.map (cw_v (fun k => 13 + k))) (cc_h u N T H G f' pl' L) :=
  cw_lift hM rfl (.inr (2, [.ref 1, .ref 6, .ref 11, .int u, .ref 12, .ref 13]) :: cc_s 2 3 4 5 N (cc_s 7 8 9 10 T (.inl (2, 6, .inr (.inr (.inr (.inr (cc_g H))))) :: .inl (2, 2, .inr (.inr (.inr (.inr (cc_g G))))) :: []))) (cc_L 15 L) rfl
end CCX
/-- a search lies in the heap from place a on -/
def cc_at (h : cw_H) (a : Nat) (S : cs_S) : Prop := h[a]? = some (.inr (1, [.int (cs_th S), .int (cs_re S), .int (cs_fi S), .int (cs_to S), .int (cs_le S), .ref (a + 1), .int (cs_gi S), .ref (a + 2), .ref (a + 3), .ref (a + 4), .int (cs_va S), .int (cs_sd S), .int (cs_co S), .int (cs_sp S)])) ∧ h[a + 1]? = some (.inl (0, 60, .inl (cs_cl S))) ∧ h[a + 2]? = some (.inl (0, 9, .inl (cs_sg S))) ∧ h[a + 3]? = some (.inl (0, 9, .inl (cs_lv S))) ∧ h[a + 4]? = some (.inl (0, 9, .inl (cs_rs S)))
def cc_io (a b : Nat) : Nat → Nat := fun k => if k < 5 then a + k else b + (k - 5)
theorem cc_lt10 {S T : cs_S} {k : Nat} {q : cw_E} (h : (cs_h2 S T)[k]? = some q) : k < 10 := cw_lt h
set_option maxHeartbeats 1000000 in
theorem cc_copy {l : Launch} {h h' : cw_H} {a b : Nat} {S T : cs_S} (h1 : cc_at h a S) (h2 : cc_at h b T) (hd : a + 5 ≤ b ∨ b + 5 ≤ a) (hL : h'.length = h.length) (h3 : cc_at h' a (cs_copy S T)) (hold : ∀ j, j < a ∨ a + 5 ≤ j → h'[j]? = h[j]?) : cw_M l mm_X1_copyFrom 0 0 [.ref a, .ref b] h none h' := by
  have h4 : cc_at h' b T := by
    obtain ⟨p0, p1, p2, p3, p4⟩ := h2
    refine ⟨?_, ?_, ?_, ?_, ?_⟩
    · rw [hold _ (by omega)]; exact p0
    · rw [hold _ (by omega)]; exact p1
    · rw [hold _ (by omega)]; exact p2
    · rw [hold _ (by omega)]; exact p3
    · rw [hold _ (by omega)]; exact p4
  have key : ∀ (hh : cw_H) (S' : cs_S), cc_at hh a S' → cc_at hh b T → ∀ k q, (cs_h2 S' T)[k]? = some q → hh[cc_io a b k]? = some (cw_re (cc_io a b) q) := by
    intro hh S' q1 q2 k q hk
    obtain ⟨p0, p1, p2, p3, p4⟩ := q1
    obtain ⟨r0, r1, r2, r3, r4⟩ := q2
    match k with
    | 0 => cases hk; exact p0
    | 1 => cases hk; exact p1
    | 2 => cases hk; exact p2
    | 3 => cases hk; exact p3
    | 4 => cases hk; exact p4
    | 5 => cases hk; exact r0
    | 6 => cases hk; exact r1
    | 7 => cases hk; exact r2
    | 8 => cases hk; exact r3
    | 9 => cases hk; exact r4
    | k + 10 => exact absurd (cc_lt10 hk) (by omega)
  have := cw_frame0 (cs_copyFrom l S T) (cc_io a b) (h := h) (h' := h') rfl hL (key h S h1 h2) ?_ (key h' (cs_copy S T) h3 h4) ?_
  · exact this
  · intro j k hj hk e
    have hj2 : j < 10 := hj
    have hk2 : k < 10 := hk
    unfold cc_io at e
    split at e <;> split at e <;> omega
  · intro j hj hn
    refine hold j ?_
    rcases Nat.lt_or_ge j a with z | z
    · exact Or.inl z
    · rcases Nat.lt_or_ge j (a + 5) with z2 | z2
      · refine absurd ?_ (hn (j - a) (show j - a < 10 by omega))
        unfold cc_io
        rw [if_pos (by omega)]
        omega
      · exact Or.inr z2
/-- the saved searches lie one behind the other -/
theorem cc_s_get (a b c d : Nat) (S : cs_S) (r : cw_H) (k : Nat) : (cc_s a b c d S r)[k + 5]? = r[k]? := rfl
/-- .. told with the offset of the places -/
def cc_ao (h : cw_H) (o a : Nat) (S : cs_S) : Prop := h[a]? = some (.inr (1, [.int (cs_th S), .int (cs_re S), .int (cs_fi S), .int (cs_to S), .int (cs_le S), .ref (o + a + 1), .int (cs_gi S), .ref (o + a + 2), .ref (o + a + 3), .ref (o + a + 4), .int (cs_va S), .int (cs_sd S), .int (cs_co S), .int (cs_sp S)])) ∧ h[a + 1]? = some (.inl (0, 60, .inl (cs_cl S))) ∧ h[a + 2]? = some (.inl (0, 9, .inl (cs_sg S))) ∧ h[a + 3]? = some (.inl (0, 9, .inl (cs_lv S))) ∧ h[a + 4]? = some (.inl (0, 9, .inl (cs_rs S)))
theorem cc_L_ao : ∀ (j : Nat) (b : Nat) (L : List cs_S) (S : cs_S), L[j]? = some S → cc_ao (cc_L b L) b (5 * j) S
  | 0, b, S0 :: r, S, h => by
    cases h
    exact ⟨rfl, rfl, rfl, rfl, rfl⟩
  | j + 1, b, S0 :: r, S, h => by
    have ih := cc_L_ao j (b + 5) r S h
    unfold cc_ao at ih ⊢
    have e : b + 5 + 5 * j = b + (5 * j + 5) := by omega
    rw [e] at ih
    exact ih
  | _, _, [], _, h => by cases h
theorem cc_L_set : ∀ (j : Nat) (b : Nat) (L : List cs_S) (S : cs_S) (k : Nat), k < 5 * j ∨ 5 * j + 5 ≤ k → (cc_L b (L.set j S))[k]? = (cc_L b L)[k]?
  | _, _, [], _, _, _ => rfl
  | 0, b, S0 :: r, S, k, h => by
    obtain ⟨k', rfl⟩ : ∃ k', k = k' + 5 := ⟨k - 5, by omega⟩
    rfl
  | j + 1, b, S0 :: r, S, k, h => by
    rcases Nat.lt_or_ge k 5 with z | z
    · match k, z with
      | 0, _ => rfl
      | 1, _ => rfl
      | 2, _ => rfl
      | 3, _ => rfl
      | 4, _ => rfl
    · obtain ⟨k', rfl⟩ : ∃ k', k = k' + 5 := ⟨k - 5, by omega⟩
      exact cc_L_set j (b + 5) r S k' (by omega)
theorem cc_L_app : ∀ (b : Nat) (L : List cs_S) (S : cs_S), cc_L b (L ++ [S]) = cc_L b L ++ cc_L (b + 5 * L.length) [S]
  | _, [], _ => rfl
  | b, S0 :: r, S => by
    have ih := cc_L_app (b + 5) r S
    have e : b + 5 + 5 * r.length = b + 5 * (S0 :: r).length := by simp only [List.length_cons]; omega
    rw [e] at ih
    show cc_s (b + 1) (b + 2) (b + 3) (b + 4) S0 (cc_L (b + 5) (r ++ [S])) = cc_s (b + 1) (b + 2) (b + 3) (b + 4) S0 (cc_L (b + 5) r) ++ _
    rw [ih]
    rfl
section CCY
variable {l : Launch} {u : Int32} {N T : cs_S} {H G : Nat → Option Nat} {f : Nat → Int32} {pl : Int32} {L : List cs_S}
theorem cc_h_15 (k : Nat) : (cc_h u N T H G f pl L)[15 + k]? = (cc_L 15 L)[k]? := by
  rw [Nat.add_comm]; rfl
theorem cc_at_L {j : Nat} {S : cs_S} (h : L[j]? = some S) : cc_at (cc_h u N T H G f pl L) (15 + 5 * j) S := by
  obtain ⟨h0, h1, h2, h3, h4⟩ := cc_L_ao j 15 L S h
  refine ⟨(cc_h_15 _).trans h0, ?_, ?_, ?_, ?_⟩
  · exact (cc_h_15 (5 * j + 1)).trans h1
  · exact (cc_h_15 (5 * j + 2)).trans h2
  · exact (cc_h_15 (5 * j + 3)).trans h3
  · exact (cc_h_15 (5 * j + 4)).trans h4
theorem cc_at_N : cc_at (cc_h u N T H G f pl L) 1 N := ⟨rfl, rfl, rfl, rfl, rfl⟩
theorem cc_at_T : cc_at (cc_h u N T H G f pl L) 6 T := ⟨rfl, rfl, rfl, rfl, rfl⟩
/-- now into a saved one, a saved one into now, now into the trial -/
theorem cc_copyL {j : Nat} {S : cs_S} (h : L[j]? = some S) : cw_M l mm_X1_copyFrom 0 0 [.ref (15 + 5 * j), .ref 1] (cc_h u N T H G f pl L) none (cc_h u N T H G f pl (L.set j (cs_copy S N))) := by
  have hl : j < L.length := (List.getElem?_eq_some_iff.mp h).1
  refine cc_copy (cc_at_L h) cc_at_N (by omega) (by rw [cc_len, cc_len, List.length_set]) (cc_at_L (by rw [List.getElem?_set_self hl])) (fun k hk => ?_)
  rcases Nat.lt_or_ge k 15 with z | z
  · have key : ∀ k, k < 15 → (cc_h u N T H G f pl (L.set j (cs_copy S N)))[k]? = (cc_h u N T H G f pl L)[k]? := by
      intro k hk
      match k, hk with
      | 0, _ => rfl
      | 1, _ => rfl
      | 2, _ => rfl
      | 3, _ => rfl
      | 4, _ => rfl
      | 5, _ => rfl
      | 6, _ => rfl
      | 7, _ => rfl
      | 8, _ => rfl
      | 9, _ => rfl
      | 10, _ => rfl
      | 11, _ => rfl
      | 12, _ => rfl
      | 13, _ => rfl
      | 14, _ => rfl
      | k + 15, h => exact absurd h (by omega)
    exact key k z
  · obtain ⟨k', rfl⟩ : ∃ k', k = 15 + k' := ⟨k - 15, by omega⟩
    rw [cc_h_15, cc_h_15]
    exact cc_L_set j 15 L _ k' (by omega)
theorem cc_copyN {j : Nat} {S : cs_S} (h : L[j]? = some S) : cw_M l mm_X1_copyFrom 0 0 [.ref 1, .ref (15 + 5 * j)] (cc_h u N T H G f pl L) none (cc_h u (cs_copy N S) T H G f pl L) := by
  refine cc_copy cc_at_N (cc_at_L h) (by omega) (by rw [cc_len, cc_len]) cc_at_N (fun k hk => ?_)
  rcases hk with z | z
  · match k, z with
    | 0, _ => rfl
  · obtain ⟨k', rfl⟩ : ∃ k', k = k' + 6 := ⟨k - 6, by omega⟩
    rfl
theorem cc_copyT : cw_M l mm_X1_copyFrom 0 0 [.ref 6, .ref 1] (cc_h u N T H G f pl L) none (cc_h u N (cs_copy T N) H G f pl L) := by
  refine cc_copy cc_at_T cc_at_N (by omega) (by rw [cc_len, cc_len]) cc_at_T (fun k hk => ?_)
  rcases hk with z | z
  · match k, z with
    | 0, _ => rfl
    | 1, _ => rfl
    | 2, _ => rfl
    | 3, _ => rfl
    | 4, _ => rfl
    | 5, _ => rfl
    | k + 6, h => exact absurd h (by omega)
  · obtain ⟨k', rfl⟩ : ∃ k', k = k' + 11 := ⟨k - 11, by omega⟩
    rfl
/-- the pad's clauses told to now -/
def cc_ip : Nat → Nat := fun k => if k < 2 then 13 + k else k - 1
theorem cc_tellAll {n : Nat} (hn : n ≤ 60) (hc : ∀ k, k < n → cp_c1 (f k)) (ht : cs_to N = nI (cs_t N)) (h20 : cs_t N + cp_sc f n 0 ≤ 20) : cw_M l mm_X0_tellClausesTo 0 0 [.ref 13, .ref 1] (cc_h u N T H G f (nI n) L) none (cc_h u (cp_tl f n 0 (nI 0) false N) T H G f (nI n) L) := by
  have key : ∀ (S : cs_S) (k : Nat) (q : cw_E), (cp_h2 f (nI n) S)[k]? = some q → (cc_h u S T H G f (nI n) L)[cc_ip k]? = some (cw_re cc_ip q) := by
    intro S k q hk
    match k with
    | 0 => cases hk; rfl
    | 1 => cases hk; rfl
    | 2 => cases hk; rfl
    | 3 => cases hk; rfl
    | 4 => cases hk; rfl
    | 5 => cases hk; rfl
    | 6 => cases hk; rfl
    | k + 7 => exact absurd (show k + 7 < 7 from cw_lt hk) (by omega)
  have := cw_frame0 (cp_tellClausesTo l f N hn hc ht h20) cc_ip (h := cc_h u N T H G f (nI n) L) (h' := cc_h u (cp_tl f n 0 (nI 0) false N) T H G f (nI n) L) rfl (by rw [cc_len, cc_len]) (key N) ?_ (key _) ?_
  · exact this
  · intro j k hj hk e
    have hj2 : j < 7 := hj
    have hk2 : k < 7 := hk
    unfold cc_ip at e
    split at e <;> split at e <;> omega
  · intro j hj hn2
    match j with
    | 0 => rfl
    | 1 => exact absurd rfl (hn2 2 (show 2 < 7 by omega))
    | 2 => exact absurd rfl (hn2 3 (show 3 < 7 by omega))
    | 3 => exact absurd rfl (hn2 4 (show 4 < 7 by omega))
    | 4 => exact absurd rfl (hn2 5 (show 5 < 7 by omega))
    | 5 => exact absurd rfl (hn2 6 (show 6 < 7 by omega))
    | j + 6 => rfl
end CCY
end
section
/-! the class: steps with places that are not written out; what it records; its constructor -/
theorem cw_aald {l : Launch} {ii : cw_I} {mc ms : Nat} {h0 : cw_H} {r : Option Value} {h1 : cw_H} {kc ks pc a sz j q : Nat} {x : Int32} {lv : cw_LV} {st : List Value} {h : cw_H} {f : Nat → Option Nat} (hi : cw_okD ii) (hk : kc ≤ mc ∧ ks ≤ ms) (hd : cw_look (cw_tb ii) pc = some (.aaload, 1)) (ha : h[a]? = some (.inl (2, sz, .inr (.inr (.inr (.inr f)))))) (hs : Nat.ble sz 65536 = true) (hx : x = nI j) (hj : j < sz) (hf : f j = some q)
    (kk : cw_W l ii mc ms h0 r h1 kc ks (pc + 1) lv (.ref q :: st) h) : cw_W l ii mc ms h0 r h1 kc ks pc lv (.int x :: .ref a :: st) h := by
  refine cw_run hi hk 1 [] [j] [] ?_
  unfold cw_go
  simp only [hd]
  unfold cw_stp
  simp only [ha, hs]
  refine ⟨hx, hj, ?_⟩
  show cw_W l ii mc ms h0 r h1 kc ks (pc + 1) lv (va_rf (f j) :: st) h
  rw [hf]
  exact kk
theorem cw_aaln {l : Launch} {ii : cw_I} {mc ms : Nat} {h0 : cw_H} {r : Option Value} {h1 : cw_H} {kc ks pc a sz j : Nat} {x : Int32} {lv : cw_LV} {st : List Value} {h : cw_H} {f : Nat → Option Nat} (hi : cw_okD ii) (hk : kc ≤ mc ∧ ks ≤ ms) (hd : cw_look (cw_tb ii) pc = some (.aaload, 1)) (ha : h[a]? = some (.inl (2, sz, .inr (.inr (.inr (.inr f)))))) (hs : Nat.ble sz 65536 = true) (hx : x = nI j) (hj : j < sz) (hf : f j = none)
    (kk : cw_W l ii mc ms h0 r h1 kc ks (pc + 1) lv (.null :: st) h) : cw_W l ii mc ms h0 r h1 kc ks pc lv (.int x :: .ref a :: st) h := by
  refine cw_run hi hk 1 [] [j] [] ?_
  unfold cw_go
  simp only [hd]
  unfold cw_stp
  simp only [ha, hs]
  refine ⟨hx, hj, ?_⟩
  show cw_W l ii mc ms h0 r h1 kc ks (pc + 1) lv (va_rf (f j) :: st) h
  rw [hf]
  exact kk
theorem cw_aast {l : Launch} {ii : cw_I} {mc ms : Nat} {h0 : cw_H} {r : Option Value} {h1 : cw_H} {kc ks pc a sz j q : Nat} {x : Int32} {lv : cw_LV} {st : List Value} {h : cw_H} {f : Nat → Option Nat} {fs : List Value} (hi : cw_okD ii) (hk : kc ≤ mc ∧ ks ≤ ms) (hd : cw_look (cw_tb ii) pc = some (.aastore, 1)) (ha : h[a]? = some (.inl (2, sz, .inr (.inr (.inr (.inr f)))))) (hq : h[q]? = some (.inr (1, fs))) (hs : Nat.ble sz 65536 = true) (hx : x = nI j) (hj : j < sz)
    (kk : cw_W l ii mc ms h0 r h1 kc ks (pc + 1) lv st (h.set a (.inl (2, sz, .inr (.inr (.inr (.inr (va_up f j (some q)))))))))  : cw_W l ii mc ms h0 r h1 kc ks pc lv (.ref q :: .int x :: .ref a :: st) h := by
  refine cw_run hi hk 1 [] [j] [] ?_
  unfold cw_go
  simp only [hd]
  unfold cw_stp
  simp only [ha, hq, hs]
  exact ⟨hx, hj, kk⟩
theorem cc_g_up (R : Nat → Option Nat) (v j : Nat) : va_up (cc_g R) v (some (15 + 5 * j)) = cc_g (va_up R v (some j)) := by
  funext k
  show (if k = v then some (15 + 5 * j) else (R k).map (fun j => 15 + 5 * j)) = Option.map (fun j => 15 + 5 * j) (if k = v then some j else R k)
  by_cases e : k = v
  · rw [if_pos e, if_pos e]; rfl
  · rw [if_neg e, if_neg e]
theorem cc_g_s {R : Nat → Option Nat} {i j : Nat} (h : R i = some j) : cc_g R i = some (15 + 5 * j) := by unfold cc_g; rw [h]; rfl
theorem cc_g_n {R : Nat → Option Nat} {i : Nat} (h : R i = none) : cc_g R i = none := by unfold cc_g; rw [h]; rfl
theorem cc_s_wf {n a b c d : Nat} {S : cs_S} {r : cw_H} (ha : a < n) (hb : b < n) (hc : c < n) (hd : d < n) (hr : ∀ q ∈ r, cw_wfe n q) : ∀ q ∈ cc_s a b c d S r, cw_wfe n q := by
  intro q hq
  unfold cc_s at hq
  simp only [List.mem_cons] at hq
  rcases hq with rfl | rfl | rfl | rfl | rfl | hq
  · intro v hv
    simp only [List.mem_cons, List.not_mem_nil, or_false] at hv
    rcases hv with rfl | rfl | rfl | rfl | rfl | rfl | rfl | rfl | rfl | rfl | rfl | rfl | rfl | rfl <;> first | trivial | assumption
  · trivial
  · trivial
  · trivial
  · trivial
  · exact hr q hq
theorem cc_L_wf : ∀ (b : Nat) (L : List cs_S) (n : Nat), b + 5 * L.length ≤ n → ∀ q ∈ cc_L b L, cw_wfe n q
  | _, [], _, _ => fun q hq => by cases hq
  | b, S :: r, n, h => by
    simp only [List.length_cons] at h
    exact cc_s_wf (by omega) (by omega) (by omega) (by omega) (cc_L_wf (b + 5) r n (by omega))
theorem cc_wf {u : Int32} {N T : cs_S} {H G : Nat → Option Nat} {f : Nat → Int32} {pl : Int32} {L : List cs_S} {n : Nat} (hn : 15 + 5 * L.length ≤ n) (hH : ∀ i j, H i = some j → j < L.length) (hG : ∀ i j, G i = some j → j < L.length) : ∀ q ∈ cc_h u N T H G f pl L, cw_wfe n q := by
  intro q hq
  unfold cc_h at hq
  rw [List.mem_cons] at hq
  have hg : ∀ R : Nat → Option Nat, (∀ i j, R i = some j → j < L.length) → ∀ i k, cc_g R i = some k → k < n := by
    intro R hR i k hk
    obtain ⟨j, h1, h2⟩ := Option.map_eq_some_iff.mp (show (R i).map (fun j => 15 + 5 * j) = some k from hk)
    have := hR i j h1
    omega
  rcases hq with rfl | hq
  · intro v hv
    simp only [List.mem_cons, List.not_mem_nil, or_false] at hv
    rcases hv with rfl | rfl | rfl | rfl | rfl | rfl <;> first | trivial | (show _ < n; omega)
  · refine cc_s_wf (by omega) (by omega) (by omega) (by omega) (cc_s_wf (by omega) (by omega) (by omega) (by omega) ?_) q hq
    intro q hq
    simp only [List.mem_cons] at hq
    rcases hq with rfl | rfl | rfl | rfl | hq
    · exact hg H hH
    · exact hg G hG
    · intro v hv
      simp only [List.mem_cons, List.not_mem_nil, or_false] at hv
      rcases hv with rfl | rfl
      · show 14 < n; omega
      · trivial
    · trivial
    · exact cc_L_wf 15 L n hn q hq
theorem cc_wl {u : Int32} {N T : cs_S} {H G : Nat → Option Nat} {f : Nat → Int32} {pl : Int32} {L : List cs_S} {lv : cw_LV} (e : lv.all (fun q => cw_wfvb 15 q.2) = true) : ∀ q ∈ lv, cw_wfv (cc_h u N T H G f pl L).length q.2 := by
  intro q hq
  have h1 := cw_wfvb_ok (List.all_eq_true.mp e q hq)
  rw [cc_len]
  revert h1
  cases q.2 with
  | ref k => exact fun h => Nat.lt_of_lt_of_le h (Nat.le_add_right _ _)
  | _ => exact fun _ => trivial
theorem cc_ws {u : Int32} {N T : cs_S} {H G : Nat → Option Nat} {f : Nat → Int32} {pl : Int32} {L : List cs_S} {st : List Value} (e : st.all (cw_wfvb 15) = true) : ∀ v ∈ st, cw_wfv (cc_h u N T H G f pl L).length v := by
  intro q hq
  have h1 := cw_wfvb_ok (List.all_eq_true.mp e q hq)
  rw [cc_len]
  revert h1
  cases q with
  | ref k => exact fun h => Nat.lt_of_lt_of_le h (Nat.le_add_right _ _)
  | _ => exact fun _ => trivial
theorem cc_lel {u u' : Int32} {N T N' T' : cs_S} {H G H' G' : Nat → Option Nat} {f f' : Nat → Int32} {pl pl' : Int32} {L L' : List cs_S} (h : L.length ≤ L'.length) : (cc_h u N T H G f pl L).length ≤ (cc_h u' N' T' H' G' f' pl' L').length := by
  rw [cc_len, cc_len]; omega
theorem cc_app {u : Int32} {N T : cs_S} {H G : Nat → Option Nat} {f : Nat → Int32} {pl : Int32} {L : List cs_S} (S : cs_S) : cc_h u N T H G f pl L ++ (cs_h S).map (cw_re (fun k => (15 + 5 * L.length) + k)) = cc_h u N T H G f pl (L ++ [S]) := by
  unfold cc_h
  rw [cc_L_app]
  rfl
/-- the oldest one to the end -/
def cc_rt (H : Nat → Option Nat) (i : Nat) : Nat → Option Nat := fun k => if k + 1 < i then H (k + 1) else H k
def cc_rot (H : Nat → Option Nat) : Nat → Option Nat := va_up (cc_rt H 6) 5 (H 0)
theorem cc_rt_1 (H : Nat → Option Nat) : cc_rt H 1 = H := by funext k; unfold cc_rt; rw [if_neg (by omega)]
theorem cc_rt_s (H : Nat → Option Nat) {i : Nat} (h : 1 ≤ i) : va_up (cc_rt H i) (i - 1) (cc_rt H i i) = cc_rt H (i + 1) := by
  funext k
  unfold va_up cc_rt
  by_cases e : k = i - 1
  · subst e; rw [if_pos rfl, if_neg (by omega), if_pos (by omega), show i - 1 + 1 = i by omega]
  · rw [if_neg e]
    by_cases q : k + 1 < i
    · rw [if_pos q, if_pos (by omega)]
    · rw [if_neg q, if_neg (by omega)]
section CCR
variable {l : Launch} {u : Int32} {N T : cs_S} {H G : Nat → Option Nat} {f : Nat → Int32} {pl : Int32} {L : List cs_S}
theorem cc_mv_loop {j0 : Nat} (h0 : H 0 = some j0) (hH : ∀ i j, H i = some j → j < L.length) (h6 : ∀ i, i < 6 → ∃ j, H i = some j) {hb : cw_H} : ∀ n i lv', i + n = 6 → 1 ≤ i → cw_W l mm_X2_moveOldestToEnd 0 0 hb none (cc_h u N T (cc_rot H) G f pl L) 0 0 9 ([(2, .int (nI i)), (1, .ref (15 + 5 * j0)), (0, .ref 0)] ++ lv') [] (cc_h u N T (cc_rt H i) G f pl L) := by
  have hcell : ∀ (R : Nat → Option Nat) (j : Nat), j < L.length → ∃ fs, (cc_h u N T R G f pl L)[15 + 5 * j]? = some (.inr (1, fs)) := fun R j hj => ⟨_, (cc_at_L (List.getElem?_eq_getElem hj)).1⟩
  intro n
  induction n with
  | zero =>
    intro i lv' hi h1
    obtain rfl : i = 6 := by omega
    refine cw_less [0, 1, 2] rfl ?_
    obtain ⟨fs, hq⟩ := hcell (cc_rt H 6) j0 (hH 0 j0 h0)
    refine cw_run cw_kX2_moveOldestToEnd cw_z 7 [true] [] [] (And.intro ((show nI 6 ≤ nI 6 from Int32.le_refl _)) (?_))
    refine cw_aast (j := 5) cw_kX2_moveOldestToEnd cw_z rfl rfl hq rfl rfl (by omega) ?_
    have e : (cc_h u N T (cc_rt H 6) G f pl L).set 11 (.inl (2, 6, .inr (.inr (.inr (.inr (va_up (cc_g (cc_rt H 6)) 5 (some (15 + 5 * j0)))))))) = cc_h u N T (cc_rot H) G f pl L := by
      rw [cc_g_up]; unfold cc_rot; rw [h0]; rfl
    rw [e]
    exact cw_run cw_kX2_moveOldestToEnd cw_z 0 [] [] [] (cw_retv cw_kX2_moveOldestToEnd cw_z rfl rfl)
  | succ n ih =>
    intro i lv' hi h1
    refine cw_less [0, 1, 2] rfl ?_
    have hge : ¬ nI 6 ≤ nI i := nI_ge (by omega) (by omega)
    obtain ⟨j, hj⟩ := h6 i (by omega)
    have ei : cc_rt H i i = some j := by unfold cc_rt; rw [if_neg (by omega)]; exact hj
    obtain ⟨fs, hq⟩ := hcell (cc_rt H i) j (hH i j hj)
    refine cw_run cw_kX2_moveOldestToEnd cw_z 11 [false] [] [] (And.intro (hge) (?_))
    refine cw_aald (j := i) cw_kX2_moveOldestToEnd cw_z rfl rfl rfl rfl (by omega) (cc_g_s ei) ?_
    refine cw_aast (j := i - 1) cw_kX2_moveOldestToEnd cw_z rfl rfl hq rfl (pk_sub h1) (by omega) ?_
    have e : (cc_h u N T (cc_rt H i) G f pl L).set 11 (.inl (2, 6, .inr (.inr (.inr (.inr (va_up (cc_g (cc_rt H i)) (i - 1) (some (15 + 5 * j)))))))) = cc_h u N T (cc_rt H (i + 1)) G f pl L := by
      rw [cc_g_up, ← ei, cc_rt_s H h1]; rfl
    rw [e]
    have ih1 := ih (i + 1) [] (by omega) (by omega)
    rw [← nI_add i 1] at ih1
    exact cw_run cw_kX2_moveOldestToEnd cw_z 2 [] [] [] ih1
theorem cc_move (hH : ∀ i j, H i = some j → j < L.length) (h6 : ∀ i, i < 6 → ∃ j, H i = some j) : cw_M l mm_X2_moveOldestToEnd 0 0 [.ref 0] (cc_h u N T H G f pl L) none (cc_h u N T (cc_rot H) G f pl L) := by
  refine cw_enter cw_KX2_moveOldestToEnd (by decide) (Nat.le_of_ble_eq_true rfl) ?_
  obtain ⟨j0, h0⟩ := h6 0 (by omega)
  refine cw_run cw_kX2_moveOldestToEnd cw_z 3 [] [] [] ?_
  refine cw_aald (j := 0) cw_kX2_moveOldestToEnd cw_z rfl rfl rfl rfl (by omega) (cc_g_s h0) ?_
  have q := cc_mv_loop (l := l) (u := u) (N := N) (T := T) (G := G) (f := f) (pl := pl) (hb := cc_h u N T H G f pl L) h0 hH h6 5 1 [] (by omega) (by omega)
  rw [cc_rt_1] at q
  exact cw_run cw_kX2_moveOldestToEnd cw_z 3 [] [] [] q
/-- recorded: behind the room for it -/
theorem cc_rec3 {hb : cw_H} (hbl : hb.length ≤ (cc_h u N T H G f pl L).length) {v j kc ks : Nat} {S : cs_S} (hk : kc ≤ 5 ∧ ks ≤ 101) (hv : v ≤ 5) (hj : H v = some j) (hS : L[j]? = some S) : cw_W l mm_X2_record 5 101 hb none (cc_h (nI (v + 1)) N T H G f pl (L.set j (cs_copy S N))) kc ks 62 [(0, .ref 0)] [] (cc_h (nI v) N T H G f pl L) := by
  refine cw_run cw_kX2_record hk 4 [] [] [] (show cw_W l mm_X2_record 5 101 hb none (cc_h (nI (v + 1)) N T H G f pl (L.set j (cs_copy S N))) kc ks 70 [(0, .ref 0)] [.int (nI v), .ref 11] (cc_h (nI v) N T H G f pl L) from ?_)
  refine cw_aald (j := v) cw_kX2_record hk rfl rfl rfl rfl (by omega) (cc_g_s hj) ?_
  refine cw_run cw_kX2_record hk 2 [] [] [] (show cw_W l mm_X2_record 5 101 hb none (cc_h (nI (v + 1)) N T H G f pl (L.set j (cs_copy S N))) kc ks 75 [(0, .ref 0)] [.ref 1, .ref (15 + 5 * j)] (cc_h (nI v) N T H G f pl L) from ?_)
  refine cw_callAV (mc' := 0) (ms' := 0) cw_kX2_record hk rfl rfl (Or.inr rfl) (show 1 ≤ 2 by decide) (by decide) rfl (by decide) (cc_at_L hS).1 rfl (by decide) (cc_copyL hS) (by rw [cc_len, cc_len, List.length_set]; exact Nat.le_refl _) (by rw [cc_len] at hbl ⊢; exact hbl) (by rw [cc_len, cc_len]; exact Nat.le_refl _) (cc_wl rfl) (cc_ws rfl) ?_
  rw [← nI_add v 1]
  exact cw_run cw_kX2_record hk 6 [] [] [] (cw_retv cw_kX2_record hk rfl rfl)
def cc_blank : List Value := [.int 0, .int 0, .int 0, .int 0, .int 0, .null, .int 0, .null, .null, .null, .int 0, .int 0, .int 0, .int 0]
/-- a new search at the end of the heap, where a method of the class stands with what it holds -/
theorem cc_newS {ii : cw_I} {hb : cw_H} {rr : Option Value} {he : cw_H} {pc : Nat} {lv : cw_LV} {st : List Value} (hi : cw_okD ii) (hc2 : cw_c ii = 2) (hf : 1 < cw_f ii) (hd1 : cw_look (cw_tb ii) pc = some (.new 9, 3)) (hd2 : cw_look (cw_tb ii) (pc + 3) = some (.dup, 1)) (hd3 : cw_look (cw_tb ii) (pc + 4) = some (.invokespecial 11, 3))
    (hH : ∀ i j, H i = some j → j < L.length) (hG : ∀ i j, G i = some j → j < L.length) (hw : (st.map fun v => v.category).sum ≤ 7) (wl : ∀ q ∈ lv, cw_wfv 15 q.2) (ws : ∀ v ∈ st, cw_wfv 15 v) (hbl : hb.length ≤ 15 + 5 * L.length) (hel : 15 + 5 * (L.length + 1) ≤ he.length)
    (kk : cw_W l ii 5 101 hb rr he 5 101 (pc + 7) lv (.ref (15 + 5 * L.length) :: st) (cc_h u N T H G f pl (L ++ [cs_z]))) : cw_W l ii 5 101 hb rr he 0 0 pc lv st (cc_h u N T H G f pl L) := by
  have up : ∀ {n : Nat}, 15 ≤ n → ∀ v, cw_wfv 15 v → cw_wfv n v := by
    intro n hn v hv
    cases v with
    | ref k => exact Nat.lt_of_lt_of_le hv hn
    | _ => trivial
  have hl := cc_len u N T H G f pl L
  refine cw_new cc_blank hi (show 0 + 1 ≤ 5 ∧ 0 + cw_cn 1 ≤ 101 by decide) hd1 (by rw [hc2]; rfl) (by decide) (fun _ => rfl) ⟨fun q hq => up (by omega) _ (wl q hq), fun v hv => up (by omega) _ (ws v hv), by rw [hl]; exact cc_wf (Nat.le_refl _) hH hG⟩ (by rw [hl]; exact hbl) (by rw [hl]; omega) ?_
  rw [hl]
  refine cw_run hi (show 0 + 1 ≤ 5 ∧ 0 + cw_cn 1 ≤ 101 by decide) 1 [] [] [] ?_
  unfold cw_go
  simp only [hd2]
  show cw_W l ii 5 101 hb rr he (0 + 1) (0 + cw_cn 1) (pc + 3 + 1) lv (.ref (15 + 5 * L.length) :: .ref (15 + 5 * L.length) :: st) _
  have hM := cw_liftA (cs_init l) (by decide) (cc_h u N T H G f pl L) (b := 15 + 5 * L.length) hl (by
      intro q hq
      exact cw_wfeb_ok (List.all_eq_true.mp (show (cs_h cs_z).all (cw_wfeb (cs_h cs_z).length) = true from rfl) q hq)) (by
      intro q hq
      exact cw_wfeb_ok (List.all_eq_true.mp (show cs_blank.all (cw_wfeb cs_blank.length) = true from rfl) q hq)) (cc_wf (by omega) hH hG) (fun v hv => by cases hv)
  rw [cc_app] at hM
  refine cw_callAI (mc' := 4) (ms' := 87) hi (show 0 + 1 + 4 ≤ 5 ∧ 0 + cw_cn 1 + 87 ≤ 101 by decide) hd3 (by rw [hc2]; rfl) (Or.inr rfl) rfl hf (by simp only [List.map_cons, List.sum_cons]; show 1 + _ ≤ 8; omega) hM (by rw [cc_len, List.length_append, hl, List.length_append]; show _ + 1 ≤ 15 + 5 * (_ + 1); omega) (by rw [List.length_append, hl]; omega) (by rw [cc_len, List.length_append]; exact hel) (fun q hq => up (by rw [List.length_append, hl]; omega) _ (wl q hq)) (fun v hv => ?_) kk
  rcases List.mem_cons.mp hv with rfl | hv
  · show 15 + 5 * L.length < _
    rw [List.length_append, hl]
    exact Nat.lt_succ_self _
  · exact up (by rw [List.length_append, hl]; omega) _ (ws v hv)
def cc_rHf (R : Nat → Option Nat) (v : Nat) (L : List cs_S) : Nat → Option Nat := match R v with
  | some _ => R
  | none => va_up R v (some L.length)
def cc_rL (R : Nat → Option Nat) (v : Nat) (L : List cs_S) (N : cs_S) : List cs_S := match R v with
  | some j => L.set j (cs_copy (L.getD j cs_z) N)
  | none => L ++ [cs_copy cs_z N]
theorem cc_rL_len (R : Nat → Option Nat) (v : Nat) (L : List cs_S) (N : cs_S) : L.length ≤ (cc_rL R v L N).length := by
  unfold cc_rL
  split
  · rw [List.length_set]; exact Nat.le_refl _
  · rw [List.length_append]; exact Nat.le_add_right _ _
theorem cc_rec2 {hb : cw_H} (hbl : hb.length ≤ 15 + 5 * L.length) {v : Nat} (hv : v ≤ 5) (hH : ∀ i j, H i = some j → j < L.length) (hG : ∀ i j, G i = some j → j < L.length) {lv : cw_LV} {is : List Nat} (hlv : lv_pick lv is = [(0, .ref 0)]) : cw_W l mm_X2_record 5 101 hb none (cc_h (nI (v + 1)) N T (cc_rHf H v L) G f pl (cc_rL H v L N)) 0 0 18 lv [] (cc_h (nI v) N T H G f pl L) := by
  refine cw_less is hlv ?_
  refine cw_run cw_kX2_record cw_z 11 [false, false] [] [] (And.intro (nI_pos (by omega)) (And.intro ((show ¬ nI 6 ≤ nI v from nI_ge (by omega) (by omega))) (?_)))
  unfold cc_rHf cc_rL
  cases hj : H v with
  | some j =>
    have hl := hH v j hj
    refine cw_aald (j := v) cw_kX2_record cw_z rfl rfl rfl rfl (by omega) (cc_g_s hj) ?_
    have q := cc_rec3 (l := l) (N := N) (T := T) (G := G) (f := f) (pl := pl) (u := nI v) (hb := hb) (kc := 0) (ks := 0) (by rw [cc_len]; exact hbl) (by decide) hv hj (List.getElem?_eq_getElem hl)
    have e : L.getD j cs_z = L[j] := by rw [List.getD_eq_getElem?_getD, List.getElem?_eq_getElem hl]; rfl
    rw [← e] at q
    exact cw_run cw_kX2_record cw_z 1 [] [] [] q
  | none =>
    refine cw_aaln (j := v) cw_kX2_record cw_z rfl rfl rfl rfl (by omega) (cc_g_n hj) ?_
    refine cw_run cw_kX2_record cw_z 5 [] [] [] ?_
    refine cc_newS (l := l) (pc := 54) cw_kX2_record rfl (by decide) rfl rfl rfl hH hG (Nat.le_of_ble_eq_true rfl) (lv := [(0, .ref 0)]) (st := [.int (nI v), .ref 11]) (fun q hq => cw_wfvb_ok (List.all_eq_true.mp (show [(0, Value.ref 0)].all (fun q => cw_wfvb 15 q.2) = true from rfl) q hq)) (fun q hq => cw_wfvb_ok (List.all_eq_true.mp (show [Value.int (nI v), .ref 11].all (cw_wfvb 15) = true from rfl) q hq)) hbl (by rw [cc_len, List.length_append]; exact Nat.le_refl _) ?_
    have hz : (L ++ [cs_z])[L.length]? = some cs_z := by simp
    refine cw_aast (j := v) cw_kX2_record (by decide) rfl rfl (cc_at_L hz).1 rfl rfl (by omega) ?_
    have e : (cc_h (nI v) N T H G f pl (L ++ [cs_z])).set 11 (.inl (2, 6, .inr (.inr (.inr (.inr (va_up (cc_g H) v (some (15 + 5 * L.length)))))))) = cc_h (nI v) N T (va_up H v (some L.length)) G f pl (L ++ [cs_z]) := by
      rw [cc_g_up]; rfl
    rw [e]
    have q := cc_rec3 (l := l) (N := N) (T := T) (G := G) (f := f) (pl := pl) (u := nI v) (hb := hb) (kc := 5) (ks := 101) (H := va_up H v (some L.length)) (L := L ++ [cs_z]) (by rw [cc_len, List.length_append]; omega) (by decide) hv (j := L.length) (if_pos rfl) hz
    have e2 : (L ++ [cs_z]).set L.length (cs_copy cs_z N) = L ++ [cs_copy cs_z N] := by simp
    rw [e2] at q
    exact q
def cc_rH (u : Nat) (H : Nat → Option Nat) : Nat → Option Nat := if u = 6 then cc_rot H else H
/-- what bounds the class's heap -/
def cc_ok (u : Nat) (H G : Nat → Option Nat) (L : List cs_S) : Prop := u ≤ 6 ∧ (∀ i j, H i = some j → j < L.length) ∧ (∀ i j, G i = some j → j < L.length) ∧ (∀ i, i < u → ∃ j, H i = some j) ∧ (∀ i k j, H i = some j → H k = some j → i = k) ∧ (∀ i k j, G i = some j → G k = some j → i = k) ∧ ∀ i k j, H i = some j → G k = some j → False
def cc_Hr (u : Nat) (H : Nat → Option Nat) (L : List cs_S) : Nat → Option Nat := cc_rHf (cc_rH u H) (cm_ru u) L
def cc_Lr (u : Nat) (H : Nat → Option Nat) (L : List cs_S) (N : cs_S) : List cs_S := cc_rL (cc_rH u H) (cm_ru u) L N
theorem cc_rot_at (H : Nat → Option Nat) (k : Nat) : cc_rot H k = if k < 5 then H (k + 1) else if k = 5 then H 0 else H k := by
  unfold cc_rot va_up cc_rt
  by_cases e : k = 5
  · rw [if_pos e, if_neg (by omega), if_pos e]
  · rw [if_neg e]
    by_cases q : k < 5
    · rw [if_pos q, if_pos (by omega)]
    · rw [if_neg q, if_neg (by omega), if_neg e]
theorem cc_record {u : Nat} (hok : cc_ok u H G L) : cw_M l mm_X2_record 5 101 [.ref 0] (cc_h (nI u) N T H G f pl L) none (cc_h (nI (cm_ru u + 1)) N T (cc_Hr u H L) G f pl (cc_Lr u H L N)) := by
  obtain ⟨hu, hH, hG, hun, -⟩ := hok
  refine cw_enter cw_KX2_record (by decide) (Nat.le_of_ble_eq_true rfl) ?_
  unfold cc_Hr cc_Lr cc_rH cm_ru
  by_cases c : u = 6
  · subst c
    rw [if_pos rfl, if_pos rfl]
    have hrot : ∀ i j, cc_rot H i = some j → j < L.length := by
      intro i j h
      rw [cc_rot_at] at h
      split at h
      · exact hH _ _ h
      · split at h
        · exact hH _ _ h
        · exact hH _ _ h
    refine cw_run cw_kX2_record cw_z 9 [false] [] [(_, _)] (And.intro ((show ¬ nI 6 < nI 6 from nI_nlt (Nat.le_refl _) (by omega))) (And.intro (cc_move hH hun) (And.intro (cc_lel (Nat.le_refl _)) (cc_rec2 (by rw [cc_len]; exact Nat.le_refl _) (v := 5) (by omega) hrot hG (is := [0]) rfl))))
  · rw [if_neg c, if_neg c]
    exact cw_run cw_kX2_record cw_z 4 [true] [] [] (And.intro ((show nI u < nI 6 from nI_lt (by omega) (by omega))) (cc_rec2 (by rw [cc_len]; exact Nat.le_refl _) (by omega) hH hG (is := [0]) rfl))
/-- the call of record, from another method of the class -/
theorem cc_callrec {ii : cw_I} {rr : Option Value} {he : cw_H} {u pc : Nat} {lv : cw_LV} (hi : cw_okD ii) (hc2 : cw_c ii = 2) (hf : 2 < cw_f ii) (hd : cw_look (cw_tb ii) pc = some (.invokevirtual 51, 3)) (hok : cc_ok u H G L) (wl : lv.all (fun q => cw_wfvb 15 q.2) = true) (hel : 15 + 5 * (cc_Lr u H L N).length ≤ he.length)
    (kk : cw_W l ii 5 101 (cc_h (nI u) N T H G f pl L) rr he 5 101 (pc + 3) lv [] (cc_h (nI (cm_ru u + 1)) N T (cc_Hr u H L) G f pl (cc_Lr u H L N))) : cw_W l ii 5 101 (cc_h (nI u) N T H G f pl L) rr he 0 0 pc lv [.ref 0] (cc_h (nI u) N T H G f pl L) := by
  have hle := cc_rL_len (cc_rH u H) (cm_ru u) L N
  exact cw_callAV (ic := mm_X2_record) (mc' := 5) (ms' := 101) hi (by decide) hd (by rw [hc2]; rfl) (Or.inl rfl) (show 0 ≤ 1 by decide) hf rfl (by decide) (show (cc_h (nI u) N T H G f pl L)[0]? = some _ from rfl) rfl (by decide) (cc_record hok) (by rw [cc_len, cc_len]; unfold cc_Lr; omega) (Nat.le_refl _) (by rw [cc_len]; exact hel) (cc_wl wl) (cc_ws rfl) kk
end CCR
/-! the constructor -/
def cc_blk : cw_H := [.inr (2, [.null, .null, .null, .int 0, .null, .null])]
theorem cw_wfq {n N : Nat} : cw_wfe n (.inl (2, N, .inr (.inr (.inr (.inr (fun _ => none)))))) := fun _ _ h => by cases h
theorem cc_init (l : Launch) : cw_M l mm_X2_init 14 272 [.ref 0] cc_blk none (cc_h (nI 0) cs_z cs_z (fun _ => none) (fun _ => none) (fun _ => 0) (nI 0) []) := by
  have wz : ∀ q ∈ cs_h cs_z, cw_wfe (cs_h cs_z).length q := fun q hq => cw_wfeb_ok (List.all_eq_true.mp (show (cs_h cs_z).all (cw_wfeb (cs_h cs_z).length) = true from rfl) q hq)
  have wb : ∀ q ∈ cs_blank, cw_wfe cs_blank.length q := fun q hq => cw_wfeb_ok (List.all_eq_true.mp (show cs_blank.all (cw_wfeb cs_blank.length) = true from rfl) q hq)
  have wp : ∀ q ∈ cp_h (fun _ => 0) (nI 0), cw_wfe (cp_h (fun _ => 0) (nI 0)).length q := fun q hq => cw_wfeb_ok (List.all_eq_true.mp (show (cp_h (fun _ => 0) (nI 0)).all (cw_wfeb (cp_h (fun _ => 0) (nI 0)).length) = true from rfl) q hq)
  have wq : ∀ q ∈ ([.inr (0, [.null, .int 0])] : cw_H), cw_wfe 1 q := fun q hq => cw_wfeb_ok (List.all_eq_true.mp (show ([.inr (0, [.null, .int 0])] : cw_H).all (cw_wfeb 1) = true from rfl) q hq)
  refine cw_enter cw_KX2_init (by decide) (Nat.le_of_ble_eq_true rfl) ?_
  have w1 : ∀ (n : Nat) (q : cw_E), q ∈ ([.inr (2, [.ref 1, .ref 6, .ref 11, .int (nI 0), .ref 12, .null])] : cw_H) → 12 < n → cw_wfe n q := by
    intro n q hq hn
    obtain rfl : q = .inr (2, [.ref 1, .ref 6, .ref 11, .int (nI 0), .ref 12, .null]) := by simpa using hq
    intro v hv
    simp only [List.mem_cons, List.not_mem_nil, or_false] at hv
    rcases hv with rfl | rfl | rfl | rfl | rfl | rfl <;> first | trivial | (show _ < n; omega)
  have w2 : ∀ n, 12 < n → ∀ (q : cw_E), q ∈ (.inr (2, [.ref 1, .ref 6, .ref 11, .int (nI 0), .ref 12, .null]) :: cc_s 2 3 4 5 cs_z (cc_s 7 8 9 10 cs_z [.inl (2, 6, .inr (.inr (.inr (.inr (fun _ => none))))), .inl (2, 2, .inr (.inr (.inr (.inr (fun _ => none)))))]) : cw_H) → cw_wfe n q := by
    intro n hn q hq
    rcases List.mem_cons.mp hq with h | h
    · exact w1 n q (by simpa using h) hn
    · refine cc_s_wf (by omega) (by omega) (by omega) (by omega) (cc_s_wf (by omega) (by omega) (by omega) (by omega) ?_) q h
      intro q hq
      simp only [List.mem_cons, List.not_mem_nil, or_false] at hq
      rcases hq with rfl | rfl <;> exact cw_wfq
  refine cw_run cw_kX2_init (by decide) 3 [] [] [] (cw_new cc_blank cw_kX2_init (by decide) rfl rfl (by decide) (fun _ => rfl) (cw_wfb_ok rfl) (by decide) (by decide) ?_)
  refine cw_run cw_kX2_init (by decide) 1 [] [] [] ?_
  refine cw_callAI (mc' := 4) (ms' := 87) cw_kX2_init (by decide) rfl rfl (Or.inr rfl) rfl (by decide) (by decide) (cw_liftA (cs_init l) (by decide) cc_blk (b := 1) rfl wz wb (fun q hq => cw_wfeb_ok (List.all_eq_true.mp (show cc_blk.all (cw_wfeb 2) = true from rfl) q hq)) (fun v hv => by cases hv)) (by decide) (by decide) (by decide) (fun q hq => cw_wfvb_ok (List.all_eq_true.mp (show [(0, Value.ref 0)].all (fun q => cw_wfvb 2 q.2) = true from rfl) q hq)) (fun q hq => cw_wfvb_ok (List.all_eq_true.mp (show [Value.ref 1, .ref 0].all (cw_wfvb 2) = true from rfl) q hq)) ?_
  refine cw_run cw_kX2_init (by decide) 2 [] [] [] (cw_new cc_blank cw_kX2_init (by decide) rfl rfl (by decide) (fun _ => rfl) (cw_wfb_ok rfl) (by decide) (by decide) ?_)
  refine cw_run cw_kX2_init (by decide) 1 [] [] [] ?_
  refine cw_callAI (mc' := 4) (ms' := 87) cw_kX2_init (by decide) rfl rfl (Or.inr rfl) rfl (by decide) (by decide) (cw_liftA (cs_init l) (by decide) (.inr (2, [.ref 1, .null, .null, .int 0, .null, .null]) :: cc_s 2 3 4 5 cs_z []) (b := 6) rfl wz wb (fun q hq => cw_wfeb_ok (List.all_eq_true.mp (show (.inr (2, [.ref 1, .null, .null, .int 0, .null, .null]) :: cc_s 2 3 4 5 cs_z [] : cw_H).all (cw_wfeb 7) = true from rfl) q hq)) (fun v hv => by cases hv)) (by decide) (by decide) (by decide) (fun q hq => cw_wfvb_ok (List.all_eq_true.mp (show [(0, Value.ref 0)].all (fun q => cw_wfvb 7 q.2) = true from rfl) q hq)) (fun q hq => cw_wfvb_ok (List.all_eq_true.mp (show [Value.ref 6, .ref 0].all (cw_wfvb 7) = true from rfl) q hq)) ?_
  refine cw_run cw_kX2_init (by decide) 3 [] [] [] (cw_newq (N := 6) cw_kX2_init (by decide) rfl rfl (by decide) (cw_wfb_ok rfl) (by decide) (by decide) ?_)
  refine cw_run cw_kX2_init (by decide) 6 [] [] [] (cw_newq (N := 2) cw_kX2_init (by decide) rfl rfl (by decide) ⟨fun q hq => cw_wfvb_ok (List.all_eq_true.mp (show [(0, Value.ref 0)].all (fun q => cw_wfvb 12 q.2) = true from rfl) q hq), fun q hq => cw_wfvb_ok (List.all_eq_true.mp (show [Value.ref 0].all (cw_wfvb 12) = true from rfl) q hq), ?_⟩ (by decide) (by decide) ?_)
  · intro q hq
    have hq2 : q ∈ (.inr (2, [.ref 1, .ref 6, .ref 11, .int (nI 0), .null, .null]) :: cc_s 2 3 4 5 cs_z (cc_s 7 8 9 10 cs_z [.inl (2, 6, .inr (.inr (.inr (.inr (fun _ => none)))))]) : cw_H) := hq
    show cw_wfe 12 q
    rcases List.mem_cons.mp hq2 with rfl | h
    · intro v hv
      simp only [List.mem_cons, List.not_mem_nil, or_false] at hv
      rcases hv with rfl | rfl | rfl | rfl | rfl | rfl <;> first | trivial | exact Nat.le_of_ble_eq_true rfl
    · refine cc_s_wf (by omega) (by omega) (by omega) (by omega) (cc_s_wf (by omega) (by omega) (by omega) (by omega) ?_) q h
      intro q hq
      simp only [List.mem_cons, List.not_mem_nil, or_false] at hq
      rcases hq with rfl
      exact cw_wfq
  refine cw_run cw_kX2_init (by decide) 2 [] [] [] (cw_new [.null, .int 0] cw_kX2_init (by decide) rfl rfl (by decide) (fun _ => rfl) ⟨fun q hq => cw_wfvb_ok (List.all_eq_true.mp (show [(0, Value.ref 0)].all (fun q => cw_wfvb 13 q.2) = true from rfl) q hq), fun q hq => cw_wfvb_ok (List.all_eq_true.mp (show [Value.ref 0].all (cw_wfvb 13) = true from rfl) q hq), w2 13 (by decide)⟩ (by decide) (by decide) ?_)
  refine cw_run cw_kX2_init (by decide) 1 [] [] [] ?_
  refine cw_callAI (mc' := 1) (ms' := 60) cw_kX2_init (by decide) rfl rfl (Or.inr rfl) rfl (by decide) (by decide) (cw_liftA (cp_init l) (by decide) (.inr (2, [.ref 1, .ref 6, .ref 11, .int (nI 0), .ref 12, .null]) :: cc_s 2 3 4 5 cs_z (cc_s 7 8 9 10 cs_z [.inl (2, 6, .inr (.inr (.inr (.inr (fun _ => none))))), .inl (2, 2, .inr (.inr (.inr (.inr (fun _ => none)))))])) (b := 13) rfl wp wq (w2 14 (by decide)) (fun v hv => by cases hv)) (by decide) (by decide) (by decide) (fun q hq => cw_wfvb_ok (List.all_eq_true.mp (show [(0, Value.ref 0)].all (fun q => cw_wfvb 14 q.2) = true from rfl) q hq)) (fun q hq => cw_wfvb_ok (List.all_eq_true.mp (show [Value.ref 13, .ref 0].all (cw_wfvb 14) = true from rfl) q hq)) ?_
  exact cw_run cw_kX2_init (by decide) 1 [] [] [] (cw_retv cw_kX2_init (by decide) rfl rfl)
end
section
/-! the class: its public methods -/
section CCP
variable {l : Launch} {u : Int32} {N T : cs_S} {H G : Nat → Option Nat} {f : Nat → Int32} {pl : Int32} {L : List cs_S}
theorem cc_isNoThing (x : Int32) : cw_M l mm_X2_isNoThing 0 0 [.ref 0, .int x] (cc_h u N T H G f pl L) (some (.int (cb_n (!cb_wi x (nI 1) (cs_th N))))) (cc_h u N T H G f pl L) := by
  refine cw_enter cw_KX2_isNoThing (by decide) (Nat.le_of_ble_eq_true rfl) ?_
  by_cases c : x < nI 1
  · rw [show cb_wi x (nI 1) (cs_th N) = false by simp [cb_wi, c]]
    exact cw_run cw_kX2_isNoThing cw_z 5 [true] [] [] (And.intro (c) (cw_retz cw_kX2_isNoThing cw_z rfl rfl (Or.inr rfl)))
  · by_cases d : cs_th N < x
    · rw [show cb_wi x (nI 1) (cs_th N) = false by simp [cb_wi, d]]
      exact cw_run cw_kX2_isNoThing cw_z 10 [false, false] [] [] (And.intro (c) (And.intro (Int32.not_le.mpr d) (cw_retz cw_kX2_isNoThing cw_z rfl rfl (Or.inr rfl))))
    · rw [show cb_wi x (nI 1) (cs_th N) = true by simp [cb_wi, c, d]]
      exact cw_run cw_kX2_isNoThing cw_z 9 [false, true] [] [] (And.intro (c) (And.intro (Int32.not_lt.mp d) (cw_retz cw_kX2_isNoThing cw_z rfl rfl (Or.inl rfl))))
/-- from 0 to below a number -/
def cb_be (x m : Int32) : Bool := decide (¬ x < 0 ∧ x < m)
theorem cc_isNoClause (x : Int32) : cw_M l mm_X2_isNoClause 0 0 [.ref 0, .int x] (cc_h u N T H G f pl L) (some (.int (cb_n (!cb_be x (cs_to N + cs_le N))))) (cc_h u N T H G f pl L) := by
  refine cw_enter cw_KX2_isNoClause (by decide) (Nat.le_of_ble_eq_true rfl) ?_
  by_cases c : x < 0
  · rw [show cb_be x (cs_to N + cs_le N) = false by simp [cb_be, c]]
    exact cw_run cw_kX2_isNoClause cw_z 4 [true] [] [] (And.intro (c) (cw_retz cw_kX2_isNoClause cw_z rfl rfl (Or.inr rfl)))
  · by_cases d : x < cs_to N + cs_le N
    · rw [show cb_be x (cs_to N + cs_le N) = true by simp [cb_be, c, d]]
      exact cw_run cw_kX2_isNoClause cw_z 12 [false, true] [] [] (And.intro (c) (And.intro (d) (cw_retz cw_kX2_isNoClause cw_z rfl rfl (Or.inl rfl))))
    · rw [show cb_be x (cs_to N + cs_le N) = false by simp [cb_be, d]]
      exact cw_run cw_kX2_isNoClause cw_z 13 [false, false] [] [] (And.intro (c) (And.intro (d) (cw_retz cw_kX2_isNoClause cw_z rfl rfl (Or.inr rfl))))
abbrev cs_wth (S : cs_S) (x : Int32) : cs_S := (x, S.2)
abbrev cs_wre (S : cs_S) (x : Int32) : cs_S := (S.1, x, S.2.2)
abbrev cs_wfi (S : cs_S) (x : Int32) : cs_S := (S.1, S.2.1, x, S.2.2.2)
abbrev cs_wto (S : cs_S) (x : Int32) : cs_S := (S.1, S.2.1, S.2.2.1, x, S.2.2.2.2)
theorem cc_set_bad {s v : Int32} (h : s.toInt < 0 ∨ 2 < s.toInt) : cw_M l mm_X2_set 5 101 [.ref 0, .int s, .int v] (cc_h u N T H G f pl L) (some (.int (-nI 2))) (cc_h u N T H G f pl L) := by
  refine cw_enter cw_KX2_set (by decide) (Nat.le_of_ble_eq_true rfl) ?_
  exact cw_run cw_kX2_set cw_z 3 [] [35] [] (And.intro (h) (cw_reti cw_kX2_set cw_z rfl rfl))
/-- a call of set's own part, that may make cells -/
theorem cc_sub {ic : cw_I} {pc idx : Nat} {v : Int32} {lv : cw_LV} {u' : Int32} {N' T' : cs_S} {H' G' : Nat → Option Nat} {f' : Nat → Int32} {pl' : Int32} {L' : List cs_S} {rr : Int32} (hd : cw_look (cw_tb mm_X2_set) pc = some (.invokevirtual idx, 3)) (hc : cw_look cw_cls2 idx = some (0, ic)) (hc2 : cw_c ic = 2) (hf : cw_f ic < cw_f mm_X2_set) (hna : cw_na ic = 1) (hr : cw_look (cw_tb mm_X2_set) (pc + 3) = some (.ireturn, 1)) (hL : L.length ≤ L'.length) (wl : lv.all (fun q => cw_wfvb 15 q.2) = true)
    (hM : cw_M l ic 5 101 [.ref 0, .int v] (cc_h u N T H G f pl L) (some (.int rr)) (cc_h u' N' T' H' G' f' pl' L')) : cw_W l mm_X2_set 5 101 (cc_h u N T H G f pl L) (some (.int rr)) (cc_h u' N' T' H' G' f' pl' L') 0 0 pc lv [.int v, .ref 0] (cc_h u N T H G f pl L) := by
  refine cw_callAV (ic := ic) (mc' := 5) (ms' := 101) cw_kX2_set (by decide) hd hc (Or.inl rfl) (by rw [hna]; exact Nat.le_of_ble_eq_true rfl) hf (by rw [hna]; rfl) (by decide) (show (cc_h u N T H G f pl L)[0]? = some _ from rfl) hc2.symm (by decide) (by rw [hna]; exact hM) (cc_lel hL) (Nat.le_refl _) (Nat.le_refl _) (cc_wl wl) (cc_ws rfl) ?_
  exact cw_reti cw_kX2_set (by decide) hr rfl
theorem cc_set0_bad {v : Int32} (h : cb_wi v (nI 1) (nI 9) = false) : cw_M l mm_X2_setThings 5 101 [.ref 0, .int v] (cc_h u N T H G f pl L) (some (.int (-nI 2))) (cc_h u N T H G f pl L) := by
  refine cw_enter cw_KX2_setThings (by decide) (Nat.le_of_ble_eq_true rfl) ?_
  by_cases c : v < nI 1
  · exact cw_run cw_kX2_setThings cw_z 4 [true] [] [] (And.intro (c) (cw_reti cw_kX2_setThings cw_z rfl rfl))
  · have d : nI 9 < v := by
      unfold cb_wi at h
      have := of_decide_eq_false h
      rcases Int32.lt_or_le (nI 9) v with q | q
      · exact q
      · exact absurd ⟨c, Int32.not_lt.mpr q⟩ this
    exact cw_run cw_kX2_setThings cw_z 7 [false, false] [] [] (And.intro (c) (And.intro (Int32.not_le.mpr d) (cw_reti cw_kX2_setThings cw_z rfl rfl)))
theorem cb_wi_t {v a b : Int32} (h : cb_wi v a b = true) : ¬ v < a ∧ v ≤ b := ⟨(of_decide_eq_true h).1, Int32.not_lt.mp (of_decide_eq_true h).2⟩
theorem cc_set0_need {v : Int32} (h : cb_wi v (nI 1) (nI 9) = true) (hB : cs_Bd N) (hg : v < cb_gr (cs_all N (cs_t N) 0 (nI 0)) 9 1 (nI 0)) : cw_M l mm_X2_setThings 5 101 [.ref 0, .int v] (cc_h u N T H G f pl L) (some (.int (-nI 5))) (cc_h u N T H G f pl L) := by
  refine cw_enter cw_KX2_setThings (by decide) (Nat.le_of_ble_eq_true rfl) ?_
  exact cw_run cw_kX2_setThings cw_z 12 [false, true, false] [] [(_, _)] (And.intro ((cb_wi_t h).1) (And.intro ((cb_wi_t h).2) (And.intro (cc_now (cs_toldNeeds l N hB)) (And.intro (Nat.le_refl _) (And.intro (Int32.not_le.mpr hg) (cw_reti cw_kX2_setThings cw_z rfl rfl))))))
theorem cc_set0_ok {v : Int32} {n : Nat} (h : cb_wi v (nI 1) (nI 9) = true) (hB : cs_Bd N) (hg : ¬ v < cb_gr (cs_all N (cs_t N) 0 (nI 0)) 9 1 (nI 0)) (hok : cc_ok n H G L) : cw_M l mm_X2_setThings 5 101 [.ref 0, .int v] (cc_h (nI n) N T H G f pl L) (some (.int (cs_th N))) (cc_h (nI (cm_ru n + 1)) (cs_anew (cs_wth N v)) T (cc_Hr n H L) G f pl (cc_Lr n H L N)) := by
  refine cw_enter cw_KX2_setThings (by decide) (Nat.le_of_ble_eq_true rfl) ?_
  refine cw_run cw_kX2_setThings cw_z 12 [false, true, true] [] [(_, _)] (And.intro ((cb_wi_t h).1) (And.intro ((cb_wi_t h).2) (And.intro (cc_now (cs_toldNeeds l N hB)) (And.intro (Nat.le_refl _) (And.intro (Int32.not_lt.mp hg) (?_))))))
  refine cc_callrec cw_kX2_setThings rfl (by decide) rfl hok rfl (by rw [cc_len]; exact Nat.le_refl _) ?_
  exact cw_run cw_kX2_setThings (by decide) 12 [] [] [(_, _)] (And.intro (cc_now (cs_anew_ok l (cs_wth N v))) (And.intro (Nat.le_refl _) ((cw_reti cw_kX2_setThings (by decide) rfl rfl))))
theorem cc_set1_bad {v : Int32} (h : cb_wi v (nI 1) (nI 20) = false) : cw_M l mm_X2_setRestart 5 101 [.ref 0, .int v] (cc_h u N T H G f pl L) (some (.int (-nI 2))) (cc_h u N T H G f pl L) := by
  refine cw_enter cw_KX2_setRestart (by decide) (Nat.le_of_ble_eq_true rfl) ?_
  by_cases c : v < nI 1
  · exact cw_run cw_kX2_setRestart cw_z 4 [true] [] [] (And.intro (c) (cw_reti cw_kX2_setRestart cw_z rfl rfl))
  · have d : nI 20 < v := by
      unfold cb_wi at h
      have := of_decide_eq_false h
      rcases Int32.lt_or_le (nI 20) v with q | q
      · exact q
      · exact absurd ⟨c, Int32.not_lt.mpr q⟩ this
    exact cw_run cw_kX2_setRestart cw_z 7 [false, false] [] [] (And.intro (c) (And.intro (Int32.not_le.mpr d) (cw_reti cw_kX2_setRestart cw_z rfl rfl)))
theorem cc_set1_ok {v : Int32} {n : Nat} (h : cb_wi v (nI 1) (nI 20) = true) (hok : cc_ok n H G L) : cw_M l mm_X2_setRestart 5 101 [.ref 0, .int v] (cc_h (nI n) N T H G f pl L) (some (.int (cs_re N))) (cc_h (nI (cm_ru n + 1)) (cs_wre N v) T (cc_Hr n H L) G f pl (cc_Lr n H L N)) := by
  refine cw_enter cw_KX2_setRestart (by decide) (Nat.le_of_ble_eq_true rfl) ?_
  refine cw_run cw_kX2_setRestart cw_z 7 [false, true] [] [] (And.intro ((cb_wi_t h).1) (And.intro ((cb_wi_t h).2) (?_)))
  refine cc_callrec cw_kX2_setRestart rfl (by decide) rfl hok rfl (by rw [cc_len]; exact Nat.le_refl _) ?_
  exact cw_run cw_kX2_setRestart (by decide) 9 [] [] [] (cw_reti cw_kX2_setRestart (by decide) rfl rfl)
theorem cc_set2_bad {v : Int32} (h : ¬ v = nI 0) (h1 : ¬ v = nI 1) : cw_M l mm_X2_setFirst 5 101 [.ref 0, .int v] (cc_h u N T H G f pl L) (some (.int (-nI 2))) (cc_h u N T H G f pl L) := by
  refine cw_enter cw_KX2_setFirst (by decide) (Nat.le_of_ble_eq_true rfl) ?_
  exact cw_run cw_kX2_setFirst cw_z 6 [false, false] [] [] (And.intro (h) (And.intro (h1) (cw_reti cw_kX2_setFirst cw_z rfl rfl)))
theorem cc_set2_ok {v : Int32} {n : Nat} (h : v = nI 0 ∨ v = nI 1) (hok : cc_ok n H G L) : cw_M l mm_X2_setFirst 5 101 [.ref 0, .int v] (cc_h (nI n) N T H G f pl L) (some (.int (cs_fi N))) (cc_h (nI (cm_ru n + 1)) (cs_wfi N v) T (cc_Hr n H L) G f pl (cc_Lr n H L N)) := by
  refine cw_enter cw_KX2_setFirst (by decide) (Nat.le_of_ble_eq_true rfl) ?_
  have k : cw_W l mm_X2_setFirst 5 101 (cc_h (nI n) N T H G f pl L) (some (.int (cs_fi N))) (cc_h (nI (cm_ru n + 1)) (cs_wfi N v) T (cc_Hr n H L) G f pl (cc_Lr n H L N)) 0 0 13 [(0, .ref 0), (1, .int v)] [.ref 0] (cc_h (nI n) N T H G f pl L) := by
    refine cc_callrec cw_kX2_setFirst rfl (by decide) rfl hok rfl (by rw [cc_len]; exact Nat.le_refl _) ?_
    exact cw_run cw_kX2_setFirst (by decide) 9 [] [] [] (cw_reti cw_kX2_setFirst (by decide) rfl rfl)
  rcases h with rfl | rfl
  · exact cw_run cw_kX2_setFirst cw_z 3 [true] [] [] (And.intro ((rfl : nI 0 = 0)) (k))
  · exact cw_run cw_kX2_setFirst cw_z 6 [false, true] [] [] (And.intro ((show ¬ nI 1 = 0 by decide)) (And.intro (rfl) (k)))
theorem cc_set_0 {v rr : Int32} {u' : Int32} {N' T' : cs_S} {H' G' : Nat → Option Nat} {f' : Nat → Int32} {pl' : Int32} {L' : List cs_S} (hL : L.length ≤ L'.length) (hM : cw_M l mm_X2_setThings 5 101 [.ref 0, .int v] (cc_h u N T H G f pl L) (some (.int rr)) (cc_h u' N' T' H' G' f' pl' L')) : cw_M l mm_X2_set 5 101 [.ref 0, .int (nI 0), .int v] (cc_h u N T H G f pl L) (some (.int rr)) (cc_h u' N' T' H' G' f' pl' L') := by
  refine cw_enter cw_KX2_set (by decide) (Nat.le_of_ble_eq_true rfl) ?_
  exact cw_run cw_kX2_set cw_z 4 [] [0] [] (And.intro ((by decide)) (And.intro ((by decide)) (cc_sub rfl rfl rfl (by decide) rfl rfl hL rfl hM)))
theorem cc_set_1 {v rr : Int32} {u' : Int32} {N' T' : cs_S} {H' G' : Nat → Option Nat} {f' : Nat → Int32} {pl' : Int32} {L' : List cs_S} (hL : L.length ≤ L'.length) (hM : cw_M l mm_X2_setRestart 5 101 [.ref 0, .int v] (cc_h u N T H G f pl L) (some (.int rr)) (cc_h u' N' T' H' G' f' pl' L')) : cw_M l mm_X2_set 5 101 [.ref 0, .int (nI 1), .int v] (cc_h u N T H G f pl L) (some (.int rr)) (cc_h u' N' T' H' G' f' pl' L') := by
  refine cw_enter cw_KX2_set (by decide) (Nat.le_of_ble_eq_true rfl) ?_
  exact cw_run cw_kX2_set cw_z 4 [] [1] [] (And.intro ((by decide)) (And.intro ((by decide)) (cc_sub rfl rfl rfl (by decide) rfl rfl hL rfl hM)))
theorem cc_set_2 {v rr : Int32} {u' : Int32} {N' T' : cs_S} {H' G' : Nat → Option Nat} {f' : Nat → Int32} {pl' : Int32} {L' : List cs_S} (hL : L.length ≤ L'.length) (hM : cw_M l mm_X2_setFirst 5 101 [.ref 0, .int v] (cc_h u N T H G f pl L) (some (.int rr)) (cc_h u' N' T' H' G' f' pl' L')) : cw_M l mm_X2_set 5 101 [.ref 0, .int (nI 2), .int v] (cc_h u N T H G f pl L) (some (.int rr)) (cc_h u' N' T' H' G' f' pl' L') := by
  refine cw_enter cw_KX2_set (by decide) (Nat.le_of_ble_eq_true rfl) ?_
  exact cw_run cw_kX2_set cw_z 4 [] [2] [] (And.intro ((by decide)) (And.intro ((by decide)) (cc_sub rfl rfl rfl (by decide) rfl rfl hL rfl hM)))
theorem cc_rd_fault {n : Nat} (hn : n ≤ 60) (hc : ∀ k, k < n → cp_c1 (f k)) (h : ¬ cp_ff f n 0 (nI 0) false false = -nI 6) : cw_M l mm_X2_read 5 101 [.ref 0] (cc_h u N T H G f (nI n) L) (some (.int (-nI 3))) (cc_h u N T H G f (nI n) L) := by
  refine cw_enter cw_KX2_read (by decide) (Nat.le_of_ble_eq_true rfl) ?_
  exact cw_run cw_kX2_read cw_z 6 [false] [] [(_, _)] (And.intro (cc_pad (cp_firstFault l f hn hc)) (And.intro (Nat.le_refl _) (And.intro (h) (cw_reti cw_kX2_read cw_z rfl rfl))))
theorem cc_rd_big {n : Nat} (hn : n ≤ 60) (hc : ∀ k, k < n → cp_c1 (f k)) (h : cp_ff f n 0 (nI 0) false false = -nI 6) (hg : cs_th N < cp_gt f n 0 (nI 0)) : cw_M l mm_X2_read 5 101 [.ref 0] (cc_h u N T H G f (nI n) L) (some (.int (-nI 2))) (cc_h u N T H G f (nI n) L) := by
  refine cw_enter cw_KX2_read (by decide) (Nat.le_of_ble_eq_true rfl) ?_
  exact cw_run cw_kX2_read cw_z 13 [true, false] [] [(_, _), (_, _)] (And.intro (cc_pad (cp_firstFault l f hn hc)) (And.intro (Nat.le_refl _) (And.intro (h) (And.intro (cc_pad (cp_greatestThing l f hn hc)) (And.intro (Nat.le_refl _) (And.intro (Int32.not_le.mpr hg) (cw_reti cw_kX2_read cw_z rfl rfl)))))))
theorem cc_rd_many {n : Nat} (hn : n ≤ 60) (hc : ∀ k, k < n → cp_c1 (f k)) (h : cp_ff f n 0 (nI 0) false false = -nI 6) (hg : ¬ cs_th N < cp_gt f n 0 (nI 0)) (hm : nI 20 < cs_to N + nI (cp_hm f n 0 1)) : cw_M l mm_X2_read 5 101 [.ref 0] (cc_h u N T H G f (nI n) L) (some (.int (-nI 4))) (cc_h u N T H G f (nI n) L) := by
  refine cw_enter cw_KX2_read (by decide) (Nat.le_of_ble_eq_true rfl) ?_
  exact cw_run cw_kX2_read cw_z 22 [true, true, false] [] [(_, _), (_, _), (_, _)] (And.intro (cc_pad (cp_firstFault l f hn hc)) (And.intro (Nat.le_refl _) (And.intro (h) (And.intro (cc_pad (cp_greatestThing l f hn hc)) (And.intro (Nat.le_refl _) (And.intro (Int32.not_lt.mp hg) (And.intro (cc_pad (cp_howMany l f hn hc)) (And.intro (Nat.le_refl _) (And.intro (Int32.not_le.mpr hm) (cw_reti cw_kX2_read cw_z rfl rfl))))))))))
theorem cc_rd_ok {n k : Nat} (hn : n ≤ 60) (hc : ∀ k, k < n → cp_c1 (f k)) (h : cp_ff f n 0 (nI 0) false false = -nI 6) (hg : ¬ cs_th N < cp_gt f n 0 (nI 0)) (hm : ¬ nI 20 < cs_to N + nI (cp_hm f n 0 1)) (hok : cc_ok k H G L) (ht : cs_to N = nI (cs_t N)) (h20 : cs_t N + cp_sc f n 0 ≤ 20) : cw_M l mm_X2_read 5 101 [.ref 0] (cc_h (nI k) N T H G f (nI n) L) (some (.int (cs_to (cp_tl f n 0 (nI 0) false (cs_anew N))))) (cc_h (nI (cm_ru k + 1)) (cp_tl f n 0 (nI 0) false (cs_anew N)) T (cc_Hr k H L) G f (nI 0) (cc_Lr k H L N)) := by
  refine cw_enter cw_KX2_read (by decide) (Nat.le_of_ble_eq_true rfl) ?_
  refine cw_run cw_kX2_read cw_z 22 [true, true, true] [] [(_, _), (_, _), (_, _)] (And.intro (cc_pad (cp_firstFault l f hn hc)) (And.intro (Nat.le_refl _) (And.intro (h) (And.intro (cc_pad (cp_greatestThing l f hn hc)) (And.intro (Nat.le_refl _) (And.intro (Int32.not_lt.mp hg) (And.intro (cc_pad (cp_howMany l f hn hc)) (And.intro (Nat.le_refl _) (And.intro (Int32.not_lt.mp hm) (?_))))))))))
  refine cc_callrec cw_kX2_read rfl (by decide) rfl hok rfl (by rw [cc_len]; exact Nat.le_refl _) ?_
  have at1 := cc_tellAll (l := l) (u := nI (cm_ru k + 1)) (N := cs_anew N) (T := T) (H := cc_Hr k H L) (G := G) (f := f) (L := cc_Lr k H L N) hn hc ht h20
  generalize cp_tl f n 0 (nI 0) false (cs_anew N) = N2 at at1 ⊢
  exact cw_run cw_kX2_read (by decide) 14 [] [] [(_, _), (_, _), (_, _)] (And.intro (cc_now (cs_anew_ok l N)) (And.intro (Nat.le_refl _) (And.intro (at1) (And.intro (cc_lel (Nat.le_refl _)) (And.intro (cc_pad (cp_empty l f (nI n))) (And.intro (Nat.le_refl _) ((cw_reti cw_kX2_read (by decide) rfl rfl))))))))
def cc_dr (N : cs_S) (k : Nat) : cs_S := cs_wto (cs_wcl (cs_anew N) (cs_rm (cs_cl N) k 59)) (cs_to N - nI 1)
theorem cc_step_no {x : Int32} (h : cb_wi x (nI 1) (nI 500) = false) : cw_M l mm_X2_step 5 101 [.ref 0, .int x] (cc_h u N T H G f pl L) (some (.int (-nI 2))) (cc_h u N T H G f pl L) := by
  refine cw_enter cw_KX2_step (by decide) (Nat.le_of_ble_eq_true rfl) ?_
  by_cases c : x < nI 1
  · exact cw_run cw_kX2_step cw_z 4 [true] [] [] (And.intro (c) (cw_reti cw_kX2_step cw_z rfl rfl))
  · have d : ¬ x ≤ nI 500 := fun q => of_decide_eq_false h ⟨c, Int32.not_lt.mpr q⟩
    exact cw_run cw_kX2_step cw_z 7 [false, false] [] [] (And.intro (c) (And.intro (d) (cw_reti cw_kX2_step cw_z rfl rfl)))
theorem cc_step_ok {k n : Nat} (h : cb_wi (nI k) (nI 1) (nI 500) = true) (hk : k < 2 ^ 31) (hB : cs_Bd N) (hok : cc_ok n H G L) : cw_M l mm_X2_step 5 101 [.ref 0, .int (nI k)] (cc_h (nI n) N T H G f pl L) (some (.int (cs_sd (cs_runs k N)))) (cc_h (nI (cm_ru n + 1)) (cs_runs k N) T (cc_Hr n H L) G f pl (cc_Lr n H L N)) := by
  refine cw_enter cw_KX2_step (by decide) (Nat.le_of_ble_eq_true rfl) ?_
  refine cw_run cw_kX2_step cw_z 7 [false, true] [] [] (And.intro ((cb_wi_t h).1) (And.intro ((cb_wi_t h).2) (?_)))
  refine cc_callrec cw_kX2_step rfl (by decide) rfl hok rfl (by rw [cc_len]; exact Nat.le_refl _) ?_
  have ad := cs_doSteps l N hB hk
  generalize cs_runs k N = N2 at ad ⊢
  exact cw_run cw_kX2_step (by decide) 7 [] [] [(_, _)] (And.intro (cc_now ad) (And.intro (Nat.le_refl _) ((cw_reti cw_kX2_step (by decide) rfl rfl))))
theorem cc_back_no {x : Int32} (hB : cs_Bd N) (h : cb_wi x (nI 0) (cs_pl N (cs_g N)) = false) : cw_M l mm_X2_back 5 101 [.ref 0, .int x] (cc_h u N T H G f pl L) (some (.int (-nI 2))) (cc_h u N T H G f pl L) := by
  refine cw_enter cw_KX2_back (by decide) (Nat.le_of_ble_eq_true rfl) ?_
  by_cases c : x < 0
  · exact cw_run cw_kX2_back cw_z 3 [true] [] [] (And.intro (c) (cw_reti cw_kX2_back cw_z rfl rfl))
  · have d : ¬ x ≤ cs_pl N (cs_g N) := fun q => of_decide_eq_false h ⟨c, Int32.not_lt.mpr q⟩
    exact cw_run cw_kX2_back cw_z 8 [false, false] [] [(_, _)] (And.intro (c) (And.intro (cc_now (cs_presentLevel l N hB.1.1 hB.1.2)) (And.intro (Nat.le_refl _) (And.intro (d) (cw_reti cw_kX2_back cw_z rfl rfl)))))
theorem cc_back_never {x : Int32} (hB : cs_Bd N) (h : cb_wi x (nI 0) (cs_pl N (cs_g N)) = true) (h5 : cs_sd N = nI 2) : cw_M l mm_X2_back 5 101 [.ref 0, .int x] (cc_h u N T H G f pl L) (some (.int (-nI 5))) (cc_h u N T H G f pl L) := by
  refine cw_enter cw_KX2_back (by decide) (Nat.le_of_ble_eq_true rfl) ?_
  exact cw_run cw_kX2_back cw_z 13 [false, true, false] [] [(_, _)] (And.intro ((cb_wi_t h).1) (And.intro (cc_now (cs_presentLevel l N hB.1.1 hB.1.2)) (And.intro (Nat.le_refl _) (And.intro ((cb_wi_t h).2) (And.intro ((fun q => q h5)) (cw_reti cw_kX2_back cw_z rfl rfl))))))
theorem cc_back_ok {x : Int32} {n : Nat} (hB : cs_Bd N) (h : cb_wi x (nI 0) (cs_pl N (cs_g N)) = true) (h5 : ¬ cs_sd N = nI 2) (hok : cc_ok n H G L) : cw_M l mm_X2_back 5 101 [.ref 0, .int x] (cc_h (nI n) N T H G f pl L) (some (.int (cs_gi (cs_gb N x)))) (cc_h (nI (cm_ru n + 1)) (cs_wsd (cs_gb N x) (nI 0)) T (cc_Hr n H L) G f pl (cc_Lr n H L N)) := by
  refine cw_enter cw_KX2_back (by decide) (Nat.le_of_ble_eq_true rfl) ?_
  refine cw_run cw_kX2_back cw_z 13 [false, true, true] [] [(_, _)] (And.intro ((cb_wi_t h).1) (And.intro (cc_now (cs_presentLevel l N hB.1.1 hB.1.2)) (And.intro (Nat.le_refl _) (And.intro ((cb_wi_t h).2) (And.intro (h5) (?_))))))
  refine cc_callrec cw_kX2_back rfl (by decide) rfl hok rfl (by rw [cc_len]; exact Nat.le_refl _) ?_
  have ag := cs_goBackTo l N hB x
  generalize cs_gb N x = N2 at ag ⊢
  exact cw_run cw_kX2_back (by decide) 11 [] [] [(_, _)] (And.intro (cc_now ag) (And.intro (Nat.le_refl _) ((cw_reti cw_kX2_back (by decide) rfl rfl))))
end CCP
end
section
/-! the class: what is asked of it -/
section CCQ
variable {l : Launch} {u : Int32} {N T : cs_S} {H G : Nat → Option Nat} {f : Nat → Int32} {pl : Int32} {L : List cs_S}
theorem cb_nn0 {b : Bool} (h : b = true) : cb_n (!b) = 0 := by rw [h]; rfl
theorem cb_nnt {b : Bool} (h : b = false) : ¬ cb_n (!b) = 0 := by rw [h]; decide
theorem cc_of_no {x y : Int32} (h : cb_wi x (nI 1) (cs_th N) = false) : cw_M l mm_X2_of 0 0 [.ref 0, .int x, .int y] (cc_h u N T H G f pl L) (some (.int (-nI 1))) (cc_h u N T H G f pl L) := by
  refine cw_enter cw_KX2_of (by decide) (Nat.le_of_ble_eq_true rfl) ?_
  exact cw_run cw_kX2_of cw_z 5 [false] [] [(_, _)] (And.intro (cc_isNoThing x) (And.intro (Nat.le_refl _) (And.intro (cb_nnt h) (cw_reti cw_kX2_of cw_z rfl rfl))))
theorem cc_of_bad {x y : Int32} (h : cb_wi x (nI 1) (cs_th N) = true) (hy : y < 0 ∨ nI 3 < y) : cw_M l mm_X2_of 0 0 [.ref 0, .int x, .int y] (cc_h u N T H G f pl L) (some (.int (-nI 2))) (cc_h u N T H G f pl L) := by
  refine cw_enter cw_KX2_of (by decide) (Nat.le_of_ble_eq_true rfl) ?_
  by_cases c : y < 0
  · exact cw_run cw_kX2_of cw_z 7 [true, true] [] [(_, _)] (And.intro (cc_isNoThing x) (And.intro (Nat.le_refl _) (And.intro (cb_nn0 h) (And.intro (c) (cw_reti cw_kX2_of cw_z rfl rfl)))))
  · exact cw_run cw_kX2_of cw_z 10 [true, false, false] [] [(_, _)] (And.intro (cc_isNoThing x) (And.intro (Nat.le_refl _) (And.intro (cb_nn0 h) (And.intro (c) (And.intro (Int32.not_le.mpr (hy.resolve_left c)) (cw_reti cw_kX2_of cw_z rfl rfl))))))
theorem cc_of_none {x : Int32} {j : Nat} (hB : cs_Bd N) (h : cb_wi x (nI 1) (cs_th N) = true) (hj : j ≤ 3) (hp : cs_pof N x (cs_g N) 0 = -nI 6) : cw_M l mm_X2_of 0 0 [.ref 0, .int x, .int (nI j)] (cc_h u N T H G f pl L) (some (.int (-nI 6))) (cc_h u N T H G f pl L) := by
  refine cw_enter cw_KX2_of (by decide) (Nat.le_of_ble_eq_true rfl) ?_
  have ap := cs_placeOf l N hB.1.1 hB.1.2 x
  rw [hp] at ap
  have q3 : nI j ≤ nI 3 := nI_le hj (by omega)
  exact cw_run cw_kX2_of cw_z 17 [true, false, true, false] [] [(_, _), (_, _)] (And.intro (cc_isNoThing x) (And.intro (Nat.le_refl _) (And.intro (cb_nn0 h) (And.intro (nI_pos (by omega)) (And.intro (q3) (And.intro (cc_now ap) (And.intro (Nat.le_refl _) (And.intro ((show ¬ 0 ≤ -nI 6 by decide)) (cw_reti cw_kX2_of cw_z rfl rfl)))))))))
def cc_ofa (N : cs_S) (x : Int32) (p : Nat) : Nat → Int32
  | 0 => if cs_sg N p = x then nI 1 else nI 0
  | 1 => cs_lv N p
  | 2 => cs_rs N p
  | _ => nI p
theorem cc_of_ok {x : Int32} {p : Nat} (hB : cs_Bd N) (h : cb_wi x (nI 1) (cs_th N) = true) (hp : cs_pof N x (cs_g N) 0 = nI p) (h9 : p < 9) : ∀ j, j ≤ 3 → cw_M l mm_X2_of 0 0 [.ref 0, .int x, .int (nI j)] (cc_h u N T H G f pl L) (some (.int (cc_ofa N x p j))) (cc_h u N T H G f pl L) := by
  have ap := cs_placeOf l N hB.1.1 hB.1.2 x
  rw [hp] at ap
  intro j hj
  match j, hj with
  | 0, _ =>
    refine cw_enter cw_KX2_of (by decide) (Nat.le_of_ble_eq_true rfl) ?_
    by_cases c : cs_sg N p = x
    · rw [show cc_ofa N x p 0 = nI 1 from if_pos c]
      exact cw_run cw_kX2_of cw_z 26 [true, false, true, true, false] [0] [(_, _), (_, _), (_, _)] (And.intro (cc_isNoThing x) (And.intro (Nat.le_refl _) (And.intro (cb_nn0 h) (And.intro ((show ¬ nI 0 < 0 by decide)) (And.intro ((show nI 0 ≤ nI 3 by decide)) (And.intro (cc_now ap) (And.intro (Nat.le_refl _) (And.intro (nI_pos' (by omega)) (And.intro ((show (nI 0).toInt = 0 + ((0 : Nat) : Int) by decide)) (And.intro ((by decide)) (And.intro (cc_now (cs_signAt l N rfl h9)) (And.intro (Nat.le_refl _) (And.intro ((fun q => q c)) (cw_reti cw_kX2_of cw_z rfl rfl))))))))))))))
    · rw [show cc_ofa N x p 0 = nI 0 from if_neg c]
      exact cw_run cw_kX2_of cw_z 25 [true, false, true, true, true] [0] [(_, _), (_, _), (_, _)] (And.intro (cc_isNoThing x) (And.intro (Nat.le_refl _) (And.intro (cb_nn0 h) (And.intro ((show ¬ nI 0 < 0 by decide)) (And.intro ((show nI 0 ≤ nI 3 by decide)) (And.intro (cc_now ap) (And.intro (Nat.le_refl _) (And.intro (nI_pos' (by omega)) (And.intro ((show (nI 0).toInt = 0 + ((0 : Nat) : Int) by decide)) (And.intro ((by decide)) (And.intro (cc_now (cs_signAt l N rfl h9)) (And.intro (Nat.le_refl _) (And.intro (c) (cw_reti cw_kX2_of cw_z rfl rfl))))))))))))))
  | 1, _ =>
    refine cw_enter cw_KX2_of (by decide) (Nat.le_of_ble_eq_true rfl) ?_
    exact cw_run cw_kX2_of cw_z 22 [true, false, true, true] [1] [(_, _), (_, _), (_, _)] (And.intro (cc_isNoThing x) (And.intro (Nat.le_refl _) (And.intro (cb_nn0 h) (And.intro ((show ¬ nI 1 < 0 by decide)) (And.intro ((show nI 1 ≤ nI 3 by decide)) (And.intro (cc_now ap) (And.intro (Nat.le_refl _) (And.intro (nI_pos' (by omega)) (And.intro ((show (nI 1).toInt = 0 + ((1 : Nat) : Int) by decide)) (And.intro ((by decide)) (And.intro (cc_now (cs_levelAt l N rfl h9)) (And.intro (Nat.le_refl _) (cw_reti cw_kX2_of cw_z rfl rfl)))))))))))))
  | 2, _ =>
    refine cw_enter cw_KX2_of (by decide) (Nat.le_of_ble_eq_true rfl) ?_
    exact cw_run cw_kX2_of cw_z 22 [true, false, true, true] [2] [(_, _), (_, _), (_, _)] (And.intro (cc_isNoThing x) (And.intro (Nat.le_refl _) (And.intro (cb_nn0 h) (And.intro ((show ¬ nI 2 < 0 by decide)) (And.intro ((show nI 2 ≤ nI 3 by decide)) (And.intro (cc_now ap) (And.intro (Nat.le_refl _) (And.intro (nI_pos' (by omega)) (And.intro ((show (nI 2).toInt = 0 + ((2 : Nat) : Int) by decide)) (And.intro ((by decide)) (And.intro (cc_now (cs_reasonAt l N rfl h9)) (And.intro (Nat.le_refl _) (cw_reti cw_kX2_of cw_z rfl rfl)))))))))))))
  | 3, _ =>
    refine cw_enter cw_KX2_of (by decide) (Nat.le_of_ble_eq_true rfl) ?_
    exact cw_run cw_kX2_of cw_z 19 [true, false, true, true] [35] [(_, _), (_, _)] (And.intro (cc_isNoThing x) (And.intro (Nat.le_refl _) (And.intro (cb_nn0 h) (And.intro ((show ¬ nI 3 < 0 by decide)) (And.intro ((show nI 3 ≤ nI 3 by decide)) (And.intro (cc_now ap) (And.intro (Nat.le_refl _) (And.intro (nI_pos' (by omega)) (And.intro ((show (nI 3).toInt < 0 ∨ 2 < (nI 3).toInt by decide)) (cw_reti cw_kX2_of cw_z rfl rfl))))))))))
  | j + 4, hj => exact absurd hj (by omega)
theorem cc_trail_no {x : Int32} (h : cb_be x (cs_gi N) = false) : cw_M l mm_X2_trail 0 0 [.ref 0, .int x] (cc_h u N T H G f pl L) (some (.int (-nI 1))) (cc_h u N T H G f pl L) := by
  refine cw_enter cw_KX2_trail (by decide) (Nat.le_of_ble_eq_true rfl) ?_
  by_cases c : x < 0
  · exact cw_run cw_kX2_trail cw_z 3 [true] [] [] (And.intro (c) (cw_reti cw_kX2_trail cw_z rfl rfl))
  · have d : ¬ x < cs_gi N := fun q => of_decide_eq_false h ⟨c, q⟩
    exact cw_run cw_kX2_trail cw_z 8 [false, false] [] [] (And.intro (c) (And.intro (d) (cw_reti cw_kX2_trail cw_z rfl rfl)))
theorem cc_trail_ok {k : Nat} (h : cb_be (nI k) (cs_gi N) = true) (hk : k < 9) : cw_M l mm_X2_trail 0 0 [.ref 0, .int (nI k)] (cc_h u N T H G f pl L) (some (.int (if cs_sg N k < nI 10 then cs_sg N k else cs_sg N k - nI 10))) (cc_h u N T H G f pl L) := by
  refine cw_enter cw_KX2_trail (by decide) (Nat.le_of_ble_eq_true rfl) ?_
  have h2 := of_decide_eq_true h
  exact cw_run cw_kX2_trail cw_z 12 [false, true] [] [(_, _), (_, _)] (And.intro (h2.1) (And.intro (h2.2) (And.intro (cc_now (cs_signAt l N rfl hk)) (And.intro (Nat.le_refl _) (And.intro (cs_thingOf l _ _) (And.intro (Nat.le_refl _) (cw_reti cw_kX2_trail cw_z rfl rfl)))))))
theorem cc_clause_no {x y : Int32} (h : cb_be x (cs_to N + cs_le N) = false) : cw_M l mm_X2_clause 0 0 [.ref 0, .int x, .int y] (cc_h u N T H G f pl L) (some (.int (-nI 1))) (cc_h u N T H G f pl L) := by
  refine cw_enter cw_KX2_clause (by decide) (Nat.le_of_ble_eq_true rfl) ?_
  exact cw_run cw_kX2_clause cw_z 5 [false] [] [(_, _)] (And.intro (cc_isNoClause x) (And.intro (Nat.le_refl _) (And.intro (cb_nnt h) (cw_reti cw_kX2_clause cw_z rfl rfl))))
theorem cc_clause_bad {x y : Int32} (h : cb_be x (cs_to N + cs_le N) = true) (hy : y < 0 ∨ nI 12 < y) : cw_M l mm_X2_clause 0 0 [.ref 0, .int x, .int y] (cc_h u N T H G f pl L) (some (.int (-nI 2))) (cc_h u N T H G f pl L) := by
  refine cw_enter cw_KX2_clause (by decide) (Nat.le_of_ble_eq_true rfl) ?_
  by_cases c : y < 0
  · exact cw_run cw_kX2_clause cw_z 7 [true, true] [] [(_, _)] (And.intro (cc_isNoClause x) (And.intro (Nat.le_refl _) (And.intro (cb_nn0 h) (And.intro (c) (cw_reti cw_kX2_clause cw_z rfl rfl)))))
  · exact cw_run cw_kX2_clause cw_z 10 [true, false, false] [] [(_, _)] (And.intro (cc_isNoClause x) (And.intro (Nat.le_refl _) (And.intro (cb_nn0 h) (And.intro (c) (And.intro (Int32.not_le.mpr (hy.resolve_left c)) (cw_reti cw_kX2_clause cw_z rfl rfl))))))
def cc_cla (N : cs_S) (c : Int32) (j : Nat) : Int32 := if j = 0 then cb_bc c else if j = 10 then cb_n (cs_tr N c) else if j = 11 then cb_n (!cs_tr N c && decide (cs_op N c = 0)) else if j = 12 then cb_bc (cs_op N c) else cb_sio c (nI j) 9 1 (nI 0)
theorem cc_clause_sw : ∀ j, j ≤ 12 → j ≠ 0 → j ≠ 10 → j ≠ 11 → j ≠ 12 → Op.lookupswitch.offset [(0, 43), (10, 48), (11, 65), (12, 93)] 105 (nI j).toInt = 105 := by decide +kernel
theorem cc_clause_ok {k j : Nat} (h : cb_be (nI k) (cs_to N + cs_le N) = true) (hk : k < 60) (hj : j ≤ 12) : cw_M l mm_X2_clause 0 0 [.ref 0, .int (nI k), .int (nI j)] (cc_h u N T H G f pl L) (some (.int (cc_cla N (cs_cl N k) j))) (cc_h u N T H G f pl L) := by
  refine cw_enter cw_KX2_clause (by decide) (Nat.le_of_ble_eq_true rfl) ?_
  have ac := cc_now (u := u) (T := T) (H := H) (G := G) (f := f) (pl := pl) (L := L) (cs_clauseAt l N hk)
  have hall : ((#[((0 : Int), (43 : Int)), (10, 48), (11, 65), (12, 93)]).toList.zip ((#[((0 : Int), (43 : Int)), (10, 48), (11, 65), (12, 93)]).toList.drop 1)).all (fun (a, next) => a.1 < next.1) = true := rfl
  have p0 : ¬ nI j < 0 := nI_pos (by omega)
  have p1 : nI j ≤ nI 12 := nI_le hj (by omega)
  generalize cs_cl N k = c at ac ⊢
  have ai := cc_now (u := u) (T := T) (H := H) (G := G) (f := f) (pl := pl) (L := L) (cs_isTrue l N c)
  have ao := cc_now (u := u) (T := T) (H := H) (G := G) (f := f) (pl := pl) (L := L) (cs_openSigns l N c)
  unfold cc_cla
  by_cases a : j = 0
  · subst a
    rw [if_pos rfl]
    exact cw_run cw_kX2_clause cw_z 18 [true, false, true] [0] [(_, _), (_, _), (_, _)] (And.intro (cc_isNoClause _) (And.intro (Nat.le_refl _) (And.intro (cb_nn0 h) (And.intro (p0) (And.intro (p1) (And.intro (ac) (And.intro (Nat.le_refl _) (And.intro (hall) (And.intro (rfl) (And.intro (cs_bitCount l _ _) (And.intro (Nat.le_refl _) (cw_reti cw_kX2_clause cw_z rfl rfl))))))))))))
  · rw [if_neg a]
    by_cases b : j = 10
    · subst b
      rw [if_pos rfl]
      cases e : cs_tr N c with
      | true =>
        rw [e] at ai
        exact cw_run cw_kX2_clause cw_z 23 [true, false, true, false] [1] [(_, _), (_, _), (_, _)] (And.intro (cc_isNoClause _) (And.intro (Nat.le_refl _) (And.intro (cb_nn0 h) (And.intro (p0) (And.intro (p1) (And.intro (ac) (And.intro (Nat.le_refl _) (And.intro (hall) (And.intro (rfl) (And.intro (ai) (And.intro (Nat.le_refl _) (And.intro (cb_nt.mpr rfl) (cw_reti cw_kX2_clause cw_z rfl rfl)))))))))))))
      | false =>
        rw [e] at ai
        exact cw_run cw_kX2_clause cw_z 22 [true, false, true, true] [1] [(_, _), (_, _), (_, _)] (And.intro (cc_isNoClause _) (And.intro (Nat.le_refl _) (And.intro (cb_nn0 h) (And.intro (p0) (And.intro (p1) (And.intro (ac) (And.intro (Nat.le_refl _) (And.intro (hall) (And.intro (rfl) (And.intro (ai) (And.intro (Nat.le_refl _) (And.intro (cb_n0.mpr rfl) (cw_reti cw_kX2_clause cw_z rfl rfl)))))))))))))
    · rw [if_neg b]
      by_cases d : j = 11
      · subst d
        rw [if_pos rfl]
        cases e : cs_tr N c with
        | true =>
          rw [e] at ai
          exact cw_run cw_kX2_clause cw_z 22 [true, false, true, true] [2] [(_, _), (_, _), (_, _)] (And.intro (cc_isNoClause _) (And.intro (Nat.le_refl _) (And.intro (cb_nn0 h) (And.intro (p0) (And.intro (p1) (And.intro (ac) (And.intro (Nat.le_refl _) (And.intro (hall) (And.intro (rfl) (And.intro (ai) (And.intro (Nat.le_refl _) (And.intro (cb_nt.mpr rfl) (cw_reti cw_kX2_clause cw_z rfl rfl)))))))))))))
        | false =>
          rw [e] at ai
          by_cases g : cs_op N c = 0
          · rw [decide_eq_true g]
            exact cw_run cw_kX2_clause cw_z 28 [true, false, true, false, false] [2] [(_, _), (_, _), (_, _), (_, _)] (And.intro (cc_isNoClause _) (And.intro (Nat.le_refl _) (And.intro (cb_nn0 h) (And.intro (p0) (And.intro (p1) (And.intro (ac) (And.intro (Nat.le_refl _) (And.intro (hall) (And.intro (rfl) (And.intro (ai) (And.intro (Nat.le_refl _) (And.intro ((fun q => q (cb_n0.mpr rfl))) (And.intro (ao) (And.intro (Nat.le_refl _) (And.intro ((fun q => q g)) (cw_reti cw_kX2_clause cw_z rfl rfl))))))))))))))))
          · rw [decide_eq_false g]
            exact cw_run cw_kX2_clause cw_z 27 [true, false, true, false, true] [2] [(_, _), (_, _), (_, _), (_, _)] (And.intro (cc_isNoClause _) (And.intro (Nat.le_refl _) (And.intro (cb_nn0 h) (And.intro (p0) (And.intro (p1) (And.intro (ac) (And.intro (Nat.le_refl _) (And.intro (hall) (And.intro (rfl) (And.intro (ai) (And.intro (Nat.le_refl _) (And.intro ((fun q => q (cb_n0.mpr rfl))) (And.intro (ao) (And.intro (Nat.le_refl _) (And.intro (g) (cw_reti cw_kX2_clause cw_z rfl rfl))))))))))))))))
      · rw [if_neg d]
        by_cases e : j = 12
        · subst e
          rw [if_pos rfl]
          exact cw_run cw_kX2_clause cw_z 21 [true, false, true] [3] [(_, _), (_, _), (_, _), (_, _)] (And.intro (cc_isNoClause _) (And.intro (Nat.le_refl _) (And.intro (cb_nn0 h) (And.intro (p0) (And.intro (p1) (And.intro (ac) (And.intro (Nat.le_refl _) (And.intro (hall) (And.intro (rfl) (And.intro (ao) (And.intro (Nat.le_refl _) (And.intro (cs_bitCount l _ _) (And.intro (Nat.le_refl _) (cw_reti cw_kX2_clause cw_z rfl rfl))))))))))))))
        · rw [if_neg e]
          exact cw_run cw_kX2_clause cw_z 19 [true, false, true] [35] [(_, _), (_, _), (_, _)] (And.intro (cc_isNoClause _) (And.intro (Nat.le_refl _) (And.intro (cb_nn0 h) (And.intro (p0) (And.intro (p1) (And.intro (ac) (And.intro (Nat.le_refl _) (And.intro (hall) (And.intro (cc_clause_sw j hj a b d e) (And.intro (cs_signInOrder l _ _ _) (And.intro (Nat.le_refl _) (cw_reti cw_kX2_clause cw_z rfl rfl))))))))))))
def cc_cnt (u : Int32) (N : cs_S) (pl : Int32) : Nat → Int32
  | 0 => cs_to N
  | 1 => cs_le N
  | 2 => cs_sd N
  | 3 => cs_pl N (cs_g N)
  | 4 => cs_gi N
  | 5 => cs_co N
  | 6 => cs_sp N
  | 7 => cs_th N
  | 8 => cs_re N
  | 9 => cs_fi N
  | 10 => pl
  | _ => u
theorem cc_count (hB : cs_Bd N) : ∀ j, j ≤ 11 → cw_M l mm_X2_count 0 0 [.ref 0, .int (nI j)] (cc_h u N T H G f pl L) (some (.int (cc_cnt u N pl j))) (cc_h u N T H G f pl L)
  | 0, _ => by
    refine cw_enter cw_KX2_count (by decide) (Nat.le_of_ble_eq_true rfl) ?_
    exact cw_run cw_kX2_count cw_z 5 [] [0] [] (And.intro ((by decide)) (And.intro ((by decide)) (cw_reti cw_kX2_count cw_z rfl rfl)))
  | 1, _ => by
    refine cw_enter cw_KX2_count (by decide) (Nat.le_of_ble_eq_true rfl) ?_
    exact cw_run cw_kX2_count cw_z 5 [] [1] [] (And.intro ((by decide)) (And.intro ((by decide)) (cw_reti cw_kX2_count cw_z rfl rfl)))
  | 2, _ => by
    refine cw_enter cw_KX2_count (by decide) (Nat.le_of_ble_eq_true rfl) ?_
    exact cw_run cw_kX2_count cw_z 5 [] [2] [] (And.intro ((by decide)) (And.intro ((by decide)) (cw_reti cw_kX2_count cw_z rfl rfl)))
  | 3, _ => by
    refine cw_enter cw_KX2_count (by decide) (Nat.le_of_ble_eq_true rfl) ?_
    exact cw_run cw_kX2_count cw_z 5 [] [3] [(_, _)] (And.intro ((by decide)) (And.intro ((by decide)) (And.intro (cc_now (cs_presentLevel l N hB.1.1 hB.1.2)) (And.intro (Nat.le_refl _) (cw_reti cw_kX2_count cw_z rfl rfl)))))
  | 4, _ => by
    refine cw_enter cw_KX2_count (by decide) (Nat.le_of_ble_eq_true rfl) ?_
    exact cw_run cw_kX2_count cw_z 5 [] [4] [] (And.intro ((by decide)) (And.intro ((by decide)) (cw_reti cw_kX2_count cw_z rfl rfl)))
  | 5, _ => by
    refine cw_enter cw_KX2_count (by decide) (Nat.le_of_ble_eq_true rfl) ?_
    exact cw_run cw_kX2_count cw_z 5 [] [5] [] (And.intro ((by decide)) (And.intro ((by decide)) (cw_reti cw_kX2_count cw_z rfl rfl)))
  | 6, _ => by
    refine cw_enter cw_KX2_count (by decide) (Nat.le_of_ble_eq_true rfl) ?_
    exact cw_run cw_kX2_count cw_z 5 [] [6] [] (And.intro ((by decide)) (And.intro ((by decide)) (cw_reti cw_kX2_count cw_z rfl rfl)))
  | 7, _ => by
    refine cw_enter cw_KX2_count (by decide) (Nat.le_of_ble_eq_true rfl) ?_
    exact cw_run cw_kX2_count cw_z 5 [] [7] [] (And.intro ((by decide)) (And.intro ((by decide)) (cw_reti cw_kX2_count cw_z rfl rfl)))
  | 8, _ => by
    refine cw_enter cw_KX2_count (by decide) (Nat.le_of_ble_eq_true rfl) ?_
    exact cw_run cw_kX2_count cw_z 5 [] [8] [] (And.intro ((by decide)) (And.intro ((by decide)) (cw_reti cw_kX2_count cw_z rfl rfl)))
  | 9, _ => by
    refine cw_enter cw_KX2_count (by decide) (Nat.le_of_ble_eq_true rfl) ?_
    exact cw_run cw_kX2_count cw_z 5 [] [9] [] (And.intro ((by decide)) (And.intro ((by decide)) (cw_reti cw_kX2_count cw_z rfl rfl)))
  | 10, _ => by
    refine cw_enter cw_KX2_count (by decide) (Nat.le_of_ble_eq_true rfl) ?_
    exact cw_run cw_kX2_count cw_z 5 [] [10] [] (And.intro ((by decide)) (And.intro ((by decide)) (cw_reti cw_kX2_count cw_z rfl rfl)))
  | 11, _ => by
    refine cw_enter cw_KX2_count (by decide) (Nat.le_of_ble_eq_true rfl) ?_
    exact cw_run cw_kX2_count cw_z 4 [] [11] [] (And.intro ((by decide)) (And.intro ((by decide)) (cw_reti cw_kX2_count cw_z rfl rfl)))
  | j + 12, hj => absurd hj (by omega)
theorem cc_count_bad {x : Int32} (hy : x.toInt < 0 ∨ 11 < x.toInt) : cw_M l mm_X2_count 0 0 [.ref 0, .int x] (cc_h u N T H G f pl L) (some (.int (-nI 2))) (cc_h u N T H G f pl L) := by
  refine cw_enter cw_KX2_count (by decide) (Nat.le_of_ble_eq_true rfl) ?_
  exact cw_run cw_kX2_count cw_z 3 [] [35] [] (And.intro (hy) (cw_reti cw_kX2_count cw_z rfl rfl))
/-- what a choice breaks of the told clauses -/
def cs_brk (N : cs_S) (A : Nat) : Int32 := cs_tbb N (cs_ch N (nI A)) (cs_t N) 0 (nI 0)
theorem cs_chs (hB : cs_Bd N) : nI 1 <<< (cs_th N &&& 31) = nI (2 ^ cs_k N) := by
  rw [hB.2.2.2.1]; exact cb_pow _ hB.2.2.2.2
def cs_an (N : cs_S) : Nat → Nat → Nat → Nat
  | 0, _, m => m
  | n + 1, A, m => cs_an N n (A + 1) (m + (if cs_brk N A = 0 then 1 else 0))
def cs_aw (N : cs_S) (x : Int32) : Nat → Nat → Nat → Nat
  | 0, _, m => m
  | n + 1, A, m => cs_aw N x n (A + 1) (m + (if cb_hs (cs_ch N (nI A)) x = true ∧ cs_brk N A = 0 then 1 else 0))
theorem cs_an_le (N : cs_S) : ∀ n A m, cs_an N n A m ≤ m + n
  | 0, _, _ => Nat.le_refl _
  | n + 1, A, m => by
    have h := cs_an_le N n (A + 1) (m + (if cs_brk N A = 0 then 1 else 0))
    have h3 : (if cs_brk N A = 0 then 1 else 0) ≤ 1 := by split <;> omega
    unfold cs_an
    omega
theorem cs_aw_le (N : cs_S) (x : Int32) : ∀ n A m, cs_aw N x n A m ≤ m + n
  | 0, _, _ => Nat.le_refl _
  | n + 1, A, m => by
    have h := cs_aw_le N x n (A + 1) (m + (if cb_hs (cs_ch N (nI A)) x = true ∧ cs_brk N A = 0 then 1 else 0))
    have h3 : (if cb_hs (cs_ch N (nI A)) x = true ∧ cs_brk N A = 0 then 1 else 0) ≤ 1 := by split <;> omega
    unfold cs_aw
    omega
def cs_fl (N : cs_S) (c : Int32) : Nat → Nat → Bool
  | 0, _ => true
  | n + 1, A => if (c &&& cs_ch N (nI A)) = 0 ∧ cs_brk N A = 0 then false else cs_fl N c n (A + 1)
def cs_nd (N : cs_S) : Nat → Nat → Int32 → Int32
  | 0, _, a => a
  | n + 1, A, a => cs_nd N n (A + 1) (if cb_bc (cs_brk N A) = nI 1 then a ||| cs_brk N A else a)
end CCQ
end
section
/-! the class: searches beside it, texts, undo, saving -/
section CCS
variable {l : Launch} {u : Int32} {N T : cs_S} {H G : Nat → Option Nat} {f : Nat → Int32} {pl : Int32} {L : List cs_S}
def cc_sra (S : cs_S) (w : Int32) : Int32 := if cs_sd S = 0 then -nI 6 else if w = nI 0 then cs_sp S else if w = nI 1 then cs_co S else cs_sd S
theorem cc_sr_sw : ∀ j, j ≤ 2 → j ≠ 0 → j ≠ 1 → Op.lookupswitch.offset [(0, 25), (1, 33)] 41 (nI j).toInt = 41 := by decide +kernel
/-- the trial behind a search for it -/
def cc_t0 (T N : cs_S) (x : Int32) : cs_S := cs_wfi (cs_anew (cs_copy T N)) x
def cc_ts (T N : cs_S) (x : Int32) : cs_S := cs_runs 2000 (cc_t0 T N x)
theorem cs_Bd_copy {S N : cs_S} (hB : cs_Bd N) : cs_Bd (cs_copy S N) := hB
def cc_ita (S : cs_S) : Int32 := if cs_sd S = 0 then -nI 6 else cs_sd S
abbrev cb_th (x : Int32) : Int32 := if x < nI 10 then x else x - nI 10
def cc_i0 (T N : cs_S) (x : Int32) : cs_S := cs_tell (cs_anew (cs_copy T N)) (cb_set x)
def cc_is (T N : cs_S) (x : Int32) : cs_S := cs_runs 2000 (cc_i0 T N x)
theorem cs_Bd_tell {S : cs_S} (hB : cs_Bd S) (h : cs_t S < 20) (c : Int32) : cs_Bd (cs_tell S c) := by
  obtain ⟨h1, h2⟩ := cs_t_tell hB.2.1.1 h c
  exact ⟨hB.1, ⟨h2, by rw [h1]; omega⟩, hB.2.2.1, hB.2.2.2⟩
theorem cc_put_bad {x : Int64} (h : cp_ci x 8 0 = nI 0) : cw_M l mm_X2_put 0 0 [.ref 0, .long x] (cc_h u N T H G f pl L) (some (.int (-nI 2))) (cc_h u N T H G f pl L) := by
  refine cw_enter cw_KX2_put (by decide) (Nat.le_of_ble_eq_true rfl) ?_
  have a := cp_charactersIn l (cc_h u N T H G f pl L) x
  rw [h] at a
  exact cw_run cw_kX2_put cw_z 6 [false] [] [(_, _)] (And.intro (a) (And.intro (Nat.le_refl _) (And.intro ((fun q => q rfl)) (cw_reti cw_kX2_put cw_z rfl rfl))))
theorem cc_put_many {x : Int64} {n m : Nat} (h : cp_ci x 8 0 = nI m) (hm : 0 < m) (h8 : m ≤ 8) (hn : n ≤ 60) (hx : 60 < n + m) : cw_M l mm_X2_put 0 0 [.ref 0, .long x] (cc_h u N T H G f (nI n) L) (some (.int (-nI 4))) (cc_h u N T H G f (nI n) L) := by
  refine cw_enter cw_KX2_put (by decide) (Nat.le_of_ble_eq_true rfl) ?_
  have a := cp_charactersIn l (cc_h u N T H G f (nI n) L) x
  rw [h] at a
  exact cw_run cw_kX2_put cw_z 13 [true, false] [] [(_, _)] (And.intro (a) (And.intro (Nat.le_refl _) (And.intro (nI_ne0 hm (by omega)) (And.intro ((show ¬ nI n + nI m ≤ nI 60 by rw [nI_add]; exact nI_ge hx (by omega))) (cw_reti cw_kX2_put cw_z rfl rfl)))))
theorem cc_put_ok {x : Int64} {n m : Nat} (h : cp_ci x 8 0 = nI m) (hm : 0 < m) (hx : n + m ≤ 60) : cw_M l mm_X2_put 0 0 [.ref 0, .long x] (cc_h u N T H G f (nI n) L) (some (.int (nI (n + m)))) (cc_h u N T H G (cp_ap x m n f) (nI (n + m)) L) := by
  refine cw_enter cw_KX2_put (by decide) (Nat.le_of_ble_eq_true rfl) ?_
  have a := cp_charactersIn l (cc_h u N T H G f (nI n) L) x
  rw [h] at a
  exact cw_run cw_kX2_put cw_z 20 [true, true] [] [(_, _), (_, _)] (And.intro (a) (And.intro (Nat.le_refl _) (And.intro (nI_ne0 hm (by omega)) (And.intro ((show nI n + nI m ≤ nI 60 by rw [nI_add]; exact nI_le hx (by omega))) (And.intro (cc_pad (cp_append l f x hx)) (And.intro (Nat.le_refl _) (cw_reti cw_kX2_put cw_z rfl rfl)))))))
theorem cc_wipe : cw_M l mm_X2_wipe 0 0 [.ref 0] (cc_h u N T H G f pl L) (some (.int pl)) (cc_h u N T H G f (nI 0) L) := by
  refine cw_enter cw_KX2_wipe (by decide) (Nat.le_of_ble_eq_true rfl) ?_
  exact cw_run cw_kX2_wipe cw_z 8 [] [] [(_, _)] (And.intro (cc_pad (cp_empty l f pl)) (And.intro (Nat.le_refl _) (cw_reti cw_kX2_wipe cw_z rfl rfl)))
theorem cw_aldN {ii : cw_I} {mc ms : Nat} {h0 : cw_H} {r : Option Value} {h1 : cw_H} {kc ks pc : Nat} {lv : cw_LV} {st : List Value} {h : cw_H} {k : Fin 4} (hi : cw_okD ii) (hd : cw_look (cw_tb ii) pc = some (.aload_n k, 1)) (hv : cw_look lv k.val = some .null) (kk : cw_W l ii mc ms h0 r h1 kc ks (pc + 1) lv (.null :: st) h) : cw_W l ii mc ms h0 r h1 kc ks pc lv st h := by
  intro p e R s m args below meth c D cA ad0 hX hR1 hR2 ad H locs ls hkp hP hD hS hl
  have hX0 := hX
  obtain ⟨hx, hb, hml, hown, hts, hKs, hfr, hlo, hnm, hret, hlocks⟩ := hX
  have hdg : decode (cw_b ii) pc = .ok (.aload_n k, 1) := hi.1 (pc, .aload_n k, 1) (cw_look_mem hd)
  have hv2 := cw_L_at hl hv
  have q := kk p e R s m args below meth c D cA ad0 hX0 hR1 hR2 ad H locs ls hkp hP hD hS hl
  exact lv_aload_nN hx hb hdg rfl hv2 q
end CCS
end
section
/-! counts of bits -/
theorem cn_land {u v p q : Nat} (hu : u < 256) (hp : p < 256) : (256 * v + u) &&& (256 * q + p) = 256 * (v &&& q) + (u &&& p) := by
  apply Nat.eq_of_testBit_eq
  intro i
  have hup : u &&& p < 2 ^ 8 := Nat.and_lt_two_pow _ hp
  have h1 := Nat.testBit_two_pow_mul_add v (i := 8) hu i
  have h2 := Nat.testBit_two_pow_mul_add q (i := 8) hp i
  have h3 := Nat.testBit_two_pow_mul_add (v &&& q) (i := 8) hup i
  rw [show (2 : Nat) ^ 8 = 256 from rfl] at h1 h2 h3
  rw [Nat.testBit_and, h1, h2, h3]
  split
  · rw [Nat.testBit_and]
  · rw [Nat.testBit_and]
def cn_1 (M n : Nat) : Nat := n - ((n / 2) &&& M)
def cn_2 (M n : Nat) : Nat := (n &&& M) + ((n / 4) &&& M)
def cn_3 (M n : Nat) : Nat := (n + n / 16) &&& M
theorem cn_1s (M a b : Nat) (ha : a < 256) : cn_1 (256 * M + 0x55) (256 * b + a) = 256 * cn_1 M b + cn_1 0x55 a := by
  unfold cn_1
  have e1 : (256 * b + a) / 2 = 256 * (b / 2) + (a / 2 + 128 * (b % 2)) := by omega
  have e2 : (a / 2 + 128 * (b % 2)) &&& 0x55 = (a / 2) &&& 0x55 := (by decide +kernel : ∀ a, a < 128 → ∀ c, c < 2 → (a + 128 * c) &&& 0x55 = a &&& 0x55) (a / 2) (by omega) (b % 2) (by omega)
  rw [e1, cn_land (by omega) (by omega), e2]
  have h1 : (b / 2) &&& M ≤ b / 2 := Nat.and_le_left
  have h2 : (a / 2) &&& 0x55 ≤ a / 2 := Nat.and_le_left
  omega
theorem cn_2s (M a b : Nat) (ha : a < 256) : cn_2 (256 * M + 0x33) (256 * b + a) = 256 * cn_2 M b + cn_2 0x33 a := by
  unfold cn_2
  have e1 : (256 * b + a) / 4 = 256 * (b / 4) + (a / 4 + 64 * (b % 4)) := by omega
  have e2 : (a / 4 + 64 * (b % 4)) &&& 0x33 = (a / 4) &&& 0x33 := (by decide +kernel : ∀ a, a < 64 → ∀ c, c < 4 → (a + 64 * c) &&& 0x33 = a &&& 0x33) (a / 4) (by omega) (b % 4) (by omega)
  rw [e1, cn_land ha (by omega), cn_land (by omega) (by omega), e2]
  omega
theorem cn_3s (M a b : Nat) (ha : a ≤ 0x44) (hb : b % 16 ≤ 4) : cn_3 (256 * M + 0xf) (256 * b + a) = 256 * cn_3 M b + cn_3 0xf a := by
  unfold cn_3
  have e1 : 256 * b + a + (256 * b + a) / 16 = 256 * (b + b / 16) + (a + a / 16 + 16 * (b % 16)) := by omega
  have e2 : (a + a / 16 + 16 * (b % 16)) &&& 0xf = (a + a / 16) &&& 0xf := (by decide +kernel : ∀ a, a < 256 → ∀ c, c < 5 → (a + 16 * c) &&& 0xf = a &&& 0xf) (a + a / 16) (by omega) (b % 16) (by omega)
  rw [e1, cn_land (by omega) (by omega), e2]
theorem cn_byte : ∀ a, a < 256 → cn_3 0xf (cn_2 0x33 (cn_1 0x55 a)) = fb_ct (fun i => a.testBit i) 8 ∧ cn_2 0x33 (cn_1 0x55 a) ≤ 0x44 ∧ cn_2 0x33 (cn_1 0x55 a) % 16 ≤ 4 ∧ cn_1 0x55 a < 256 := by decide +kernel
theorem cn_pop {a b c : Nat} (ha : a < 256) (hb : b < 256) (hc : c < 256) : cn_3 0x0f0f0f (cn_2 0x333333 (cn_1 0x555555 (256 * (256 * c + b) + a))) = 256 * (256 * fb_ct (fun i => c.testBit i) 8 + fb_ct (fun i => b.testBit i) 8) + fb_ct (fun i => a.testBit i) 8 := by
  obtain ⟨a1, a2, a3, a4⟩ := cn_byte a ha
  obtain ⟨b1, b2, b3, b4⟩ := cn_byte b hb
  obtain ⟨c1, c2, c3, c4⟩ := cn_byte c hc
  rw [show (0x555555 : Nat) = 256 * (256 * 0x55 + 0x55) + 0x55 from rfl, cn_1s _ _ _ ha, cn_1s _ _ _ hb]
  rw [show (0x333333 : Nat) = 256 * (256 * 0x33 + 0x33) + 0x33 from rfl, cn_2s _ _ _ a4, cn_2s _ _ _ b4]
  rw [show (0x0f0f0f : Nat) = 256 * (256 * 0xf + 0xf) + 0xf from rfl, cn_3s _ _ _ a2 (by omega), cn_3s _ _ _ b2 c3, a1, b1, c1]

theorem cn_nI {n : Nat} (h : n < 2 ^ 32) : (nI n).toBitVec.toNat = n := Nat.mod_eq_of_lt h
theorem cn_of (x : Int32) : x = nI x.toBitVec.toNat := by
  apply Int32.toBitVec_inj.mp
  apply BitVec.eq_of_toNat_eq
  rw [cn_nI x.toBitVec.isLt]
theorem cn_us {n k : Nat} (h : n < 2 ^ 32) (hk : k < 32) : cb_us (nI n) k = nI (n / 2 ^ k) := by
  apply Int32.toBitVec_inj.mp
  apply BitVec.eq_of_toNat_eq
  have h1 : n / 2 ^ k < 2 ^ 32 := Nat.lt_of_le_of_lt (Nat.div_le_self _ _) h
  rw [cn_nI h1]
  unfold cb_us
  show ((nI n).toUInt32 >>> ((nI k).toUInt32 &&& Int32.toUInt32 31)).toBitVec.toNat = _
  rw [UInt32.toBitVec_shiftRight]
  show ((nI n).toUInt32.toBitVec >>> (((nI k).toUInt32 &&& Int32.toUInt32 31).toBitVec % 32).toNat).toNat = _
  rw [s_u k hk, BitVec.toNat_ushiftRight, Nat.shiftRight_eq_div_pow]
  congr 1
  exact cn_nI h
theorem cn_and {a b : Nat} (ha : a < 2 ^ 32) (hb : b < 2 ^ 32) : nI a &&& nI b = nI (a &&& b) := by
  apply Int32.toBitVec_inj.mp
  apply BitVec.eq_of_toNat_eq
  rw [cn_nI (Nat.and_lt_two_pow _ hb), Int32.toBitVec_and, BitVec.toNat_and, cn_nI ha, cn_nI hb]
theorem cn_1_le (M n : Nat) : cn_1 M n ≤ n := Nat.sub_le _ _
theorem cn_bc {n : Nat} (h : n < 2 ^ 24) : cb_bc (nI n) = nI ((cn_3 0x0f0f0f (cn_2 0x333333 (cn_1 0x555555 n)) + cn_3 0x0f0f0f (cn_2 0x333333 (cn_1 0x555555 n)) / 256 + (cn_3 0x0f0f0f (cn_2 0x333333 (cn_1 0x555555 n)) + cn_3 0x0f0f0f (cn_2 0x333333 (cn_1 0x555555 n)) / 256) / 65536) % 64) := by
  have low : ∀ (n : Nat) (M M' : Nat), n < 2 ^ 24 → M % 2 ^ 24 = M' → n &&& M = n &&& M' := by
    intro n M M' hn hM
    subst hM
    apply Nat.eq_of_testBit_eq
    intro i
    rw [Nat.testBit_and, Nat.testBit_and, Nat.testBit_mod_two_pow]
    by_cases hi : i < 24
    · simp [hi]
    · rw [Nat.testBit_lt_two_pow (Nat.lt_of_lt_of_le hn (Nat.pow_le_pow_right (by omega) (by omega)))]
      simp
  have e1 : cb_b1 (nI n) = nI (cn_1 0x555555 n) := by
    unfold cb_b1 cn_1
    rw [cn_us (by omega) (by omega), show (1431655765 : Int32) = nI 1431655765 from rfl, cn_and (by omega) (by omega), low (n / 2 ^ 1) 1431655765 0x555555 (by omega) rfl, pk_sub (Nat.le_trans Nat.and_le_left (Nat.div_le_self _ _))]
  have l1 : cn_1 0x555555 n < 2 ^ 24 := Nat.lt_of_le_of_lt (cn_1_le _ _) h
  generalize cn_1 0x555555 n = m at e1 l1 ⊢
  have e2 : cb_b2 (nI m) = nI (cn_2 0x333333 m) := by
    unfold cb_b2 cn_2
    rw [cn_us (by omega) (by omega), show (858993459 : Int32) = nI 858993459 from rfl, cn_and (by omega) (by omega), cn_and (by omega) (by omega), low (m / 2 ^ 2) 858993459 0x333333 (by omega) rfl, low m 858993459 0x333333 l1 rfl, nI_add]
  have l2 : cn_2 0x333333 m ≤ 0x666666 := by
    unfold cn_2
    have h1 : m &&& 0x333333 ≤ 0x333333 := Nat.and_le_right
    have h2 : (m / 4) &&& 0x333333 ≤ 0x333333 := Nat.and_le_right
    omega
  generalize cn_2 0x333333 m = q at e2 l2 ⊢
  have e3 : cb_b3 (nI q) = nI (cn_3 0x0f0f0f q) := by
    unfold cb_b3 cn_3
    have hq : q + q / 2 ^ 4 < 2 ^ 24 := by omega
    rw [cn_us (by omega) (by omega), nI_add, show (252645135 : Int32) = nI 252645135 from rfl, cn_and (by omega) (by omega), low _ 252645135 0x0f0f0f hq rfl]
  have l3 : cn_3 0x0f0f0f q ≤ 0x0f0f0f := Nat.and_le_right
  generalize cn_3 0x0f0f0f q = r at e3 l3 ⊢
  have e4 : cb_b4 (nI r) = nI (r + r / 256) := by
    unfold cb_b4
    rw [cn_us (by omega) (by omega), nI_add]
  have l4 : r + r / 256 < 2 ^ 25 := by omega
  generalize r + r / 256 = w at e4 l4 ⊢
  have e5 : cb_b5 (nI w) = nI (w + w / 65536) := by
    unfold cb_b5
    rw [cn_us (by omega) (by omega), nI_add]
  unfold cb_bc
  rw [e1, e2, e3, e4, e5]
  exact pk_andN (by omega) 6 rfl
theorem cn_ct {n : Nat} (h : n < 2 ^ 24) : cb_bc (nI n) = nI (fb_ct (fun i => n.testBit i) 24) := by
  have e : n = 256 * (256 * (n / 65536) + n / 256 % 256) + n % 256 := by omega
  have ha : n % 256 < 256 := Nat.mod_lt _ (by omega)
  have hb : n / 256 % 256 < 256 := Nat.mod_lt _ (by omega)
  have hc : n / 65536 < 256 := by omega
  have hp := cn_pop ha hb hc
  rw [← e] at hp
  rw [cn_bc h, hp]
  have ea : fb_ct (fun i => n.testBit i) 8 = fb_ct (fun i => (n % 256).testBit i) 8 := fb_ct_cong (fun k hk => by
    show n.testBit k = (n % 2 ^ 8).testBit k
    rw [Nat.testBit_mod_two_pow]; simp [hk])
  have eb : fb_ct (fun i => n.testBit (8 + i)) 8 = fb_ct (fun i => (n / 256 % 256).testBit i) 8 := fb_ct_cong (fun k hk => by
    show n.testBit (8 + k) = (n / 2 ^ 8 % 2 ^ 8).testBit k
    rw [Nat.testBit_mod_two_pow, Nat.testBit_div_two_pow]; simp [hk, Nat.add_comm])
  have ec : fb_ct (fun i => n.testBit (8 + (8 + i))) 8 = fb_ct (fun i => (n / 65536).testBit i) 8 := fb_ct_cong (fun k hk => by
    show n.testBit (8 + (8 + k)) = (n / 2 ^ 16).testBit k
    rw [Nat.testBit_div_two_pow, show 8 + (8 + k) = k + 16 by omega])
  have e24 : fb_ct (fun i => n.testBit i) 24 = fb_ct (fun i => (n % 256).testBit i) 8 + (fb_ct (fun i => (n / 256 % 256).testBit i) 8 + fb_ct (fun i => (n / 65536).testBit i) 8) := by
    rw [show 24 = 8 + 16 from rfl, fb_ct_split, ea, show 16 = 8 + 8 from rfl, fb_ct_split, eb, ec]
  rw [e24]
  have pa := fb_ct_le (fun i => (n % 256).testBit i) 8
  have pb := fb_ct_le (fun i => (n / 256 % 256).testBit i) 8
  have pc := fb_ct_le (fun i => (n / 65536).testBit i) 8
  generalize fb_ct (fun i => (n % 256).testBit i) 8 = A at pa ⊢
  generalize fb_ct (fun i => (n / 256 % 256).testBit i) 8 = B at pb ⊢
  generalize fb_ct (fun i => (n / 65536).testBit i) 8 = C at pc ⊢
  have h1 : (256 * (256 * C + B) + A) / 256 = 256 * C + B := by omega
  rw [h1]
  have h2 : (256 * (256 * C + B) + A + (256 * C + B)) / 65536 = C := by omega
  rw [h2]
  congr 1
  omega
/-- how many bits a set below 20 has -/
def cn_lo (x : Int32) : Prop := ∀ i, 20 ≤ i → i < 32 → bt x i = false
theorem cb_pop {x : Int32} (h : cn_lo x) : cb_bc x = nI (fb_ct (bt x) 20) := by
  have hb : ∀ i, 20 ≤ i → x.toBitVec.toNat.testBit i = false := by
    intro i hi
    rcases Nat.lt_or_ge i 32 with q | q
    · exact h i hi q
    · exact Nat.testBit_lt_two_pow (Nat.lt_of_lt_of_le x.toBitVec.isLt (Nat.pow_le_pow_right (by omega) q))
  have hn : x.toBitVec.toNat < 2 ^ 20 := Nat.lt_pow_two_of_testBit _ (fun i hi => hb i hi)
  have e := cn_ct (n := x.toBitVec.toNat) (by omega)
  rw [← cn_of x] at e
  rw [e, show 24 = 20 + 4 from rfl, fb_ct_split]
  have z : fb_ct (fun k => (fun i => x.toBitVec.toNat.testBit i) (20 + k)) 4 = 0 := fb_ct_zero.mpr (fun k _ => hb (20 + k) (by omega))
  rw [z]
  rfl
/-! pigeons -/
theorem pg_ct (r : Nat → Nat) (N : Nat) : ∀ m, fb_ct (fun k => (List.range m).any (fun j => decide (r j = k))) N ≤ m
  | 0 => by
    have z : fb_ct (fun k => (List.range 0).any (fun j => decide (r j = k))) N = 0 := fb_ct_zero.mpr (fun k _ => rfl)
    omega
  | m + 1 => by
    have ih := pg_ct r N m
    have hs : fb_ct (fun k => (List.range (m + 1)).any (fun j => decide (r j = k))) N ≤ fb_ct (fun k => if k = r m then true else (List.range m).any (fun j => decide (r j = k))) N := fb_ct_sub (fun k _ hk => by
      rw [List.range_succ, List.any_append] at hk
      by_cases c : k = r m
      · rw [if_pos c]
      · rw [if_neg c]
        simp only [List.any_cons, List.any_nil, Bool.or_false, Bool.or_eq_true, decide_eq_true_eq] at hk
        exact hk.resolve_right (fun q => c q.symm))
    rcases Nat.lt_or_ge (r m) N with q | q
    · have := fb_ct_upd (fun k => (List.range m).any (fun j => decide (r j = k))) true q
      simp only [reduceIte] at this
      omega
    · have := fb_ct_out (fun k => (List.range m).any (fun j => decide (r j = k))) true q
      omega
/-- m pigeons leave one of m + 1 holes empty -/
theorem pg_free (r : Nat → Nat) (m : Nat) : ∃ k, k ≤ m ∧ ∀ j, j < m → r j ≠ k := by
  refine Classical.byContradiction fun hx => ?_
  have h1 := pg_ct r (m + 1) m
  have h2 : fb_ct (fun k => (List.range m).any (fun j => decide (r j = k))) (m + 1) = m + 1 := fb_ct_all.mpr (fun k hk => by
    refine Classical.byContradiction fun hn => hx ⟨k, by omega, fun j hj e => hn ?_⟩
    exact List.any_eq_true.mpr ⟨j, List.mem_range.mpr hj, decide_eq_true e⟩)
  omega
/-- things that are unlike each other and unlike x, among 1 to 9, are at most 8 -/
theorem pg_inj {r : Nat → Nat} {x : Nat} (hx : 1 ≤ x ∧ x ≤ 9) : ∀ g, (∀ j, j < g → 1 ≤ r j ∧ r j ≤ 9 ∧ r j ≠ x) → (∀ j k, j < k → k < g → r j ≠ r k) → g ≤ 8 := by
  intro g h1 h2
  refine Classical.byContradiction fun hg => ?_
  have hle : 9 ≤ g := by omega
  -- the holes: each thing's place; a thing of 1 to 9 that is not x, for each of nine places
  have hct : ∀ m, m ≤ 9 → fb_ct (fun k => (List.range m).any (fun j => decide (r j = k))) 10 = m := by
    intro m
    induction m with
    | zero => intro _; exact fb_ct_zero.mpr (fun k _ => rfl)
    | succ m ih =>
      intro hm
      have ih1 := ih (by omega)
      obtain ⟨q1, q2, -⟩ := h1 m (by omega)
      have hu := fb_ct_upd (fun k => (List.range m).any (fun j => decide (r j = k))) true (i := r m) (n := 10) (by omega)
      have hf : (List.range m).any (fun j => decide (r j = r m)) = false := by
        rw [List.any_eq_false]
        intro j hj
        have := h2 j m (List.mem_range.mp hj) (by omega)
        simp [this]
      rw [show (fun k => (List.range (m + 1)).any (fun j => decide (r j = k))) = fun k => if k = r m then true else (List.range m).any (fun j => decide (r j = k)) by
        funext k
        rw [List.range_succ, List.any_append]
        by_cases c : k = r m
        · rw [if_pos c]; simp [c]
        · rw [if_neg c]
          have : ¬ r m = k := fun q => c q.symm
          simp [this]]
      rw [hf] at hu
      simp only [reduceIte] at hu
      have z : (if false = true then 1 else 0) = 0 := rfl
      omega
  have e9 := hct 9 (by omega)
  have hs : fb_ct (fun k => (List.range 9).any (fun j => decide (r j = k))) 10 ≤ fb_ct (fun k => if k = x then false else if k = 0 then false else true) 10 := fb_ct_sub (fun k _ hk => by
    obtain ⟨j, hj, e⟩ := List.any_eq_true.mp hk
    have e2 := of_decide_eq_true e
    obtain ⟨q1, q2, q3⟩ := h1 j (by have := List.mem_range.mp hj; omega)
    rw [if_neg (by omega), if_neg (by omega)])
  have h8 : fb_ct (fun k => if k = x then false else if k = 0 then false else true) 10 ≤ 8 :=
    (by decide : ∀ x, x < 10 → 1 ≤ x → fb_ct (fun k => if k = x then false else if k = 0 then false else true) 10 ≤ 8) x (by omega) hx.1
  omega
end
section
/-! what holds between the class's search and the reference's state -/
def cr_op (i : Nat) : Nat := if i < 10 then i + 10 else i - 10
def cr_sg (th i : Nat) : Prop := (1 ≤ i ∧ i ≤ th) ∨ (11 ≤ i ∧ i ≤ 10 + th)
def cs_s (S : cs_S) (k : Nat) : Nat := (cs_sg S k).toNatClampNeg
def cs_l (S : cs_S) (k : Nat) : Nat := (cs_lv S k).toNatClampNeg
def cs_pv (S : cs_S) (k : Nat) : Nat := if k = 0 then 0 else cs_l S (k - 1)
def cr_c (th : Nat) (c : Int32) : Prop := (∀ i, i < 32 → bt c i = true → cr_sg th i) ∧ ∀ i, 1 ≤ i → i ≤ 9 → ¬ (bt c i = true ∧ bt c (i + 10) = true)
/-- the settings and how it stands -/
def cr_Is (S : cs_S) : Prop := cs_Bd S ∧ 1 ≤ cs_k S ∧ (∃ r, 1 ≤ r ∧ r ≤ 20 ∧ cs_re S = nI r) ∧ (cs_fi S = nI 0 ∨ cs_fi S = nI 1) ∧ (cs_sd S = nI 0 ∨ cs_sd S = nI 1 ∨ cs_sd S = nI 2)
/-- the clauses -/
def cr_Ic (S : cs_S) : Prop := ∀ k, k < cs_t S + cs_n S → cr_c (cs_k S) (cs_cl S k)
/-- the trail -/
def cr_It (S : cs_S) : Prop := (∀ k, k < cs_g S → cs_sg S k = nI (cs_s S k) ∧ cr_sg (cs_k S) (cs_s S k) ∧ cs_lv S k = nI (cs_l S k) ∧ cs_l S k ≤ k + 1) ∧ (∀ j k, j < k → k < cs_g S → cs_s S j % 10 ≠ cs_s S k % 10) ∧ (∀ i, i < 32 → (bt (cs_va S) i = true ↔ ∃ k, k < cs_g S ∧ cs_s S k = i))
/-- one reason: of the sign s, at place k -/
def cr_r (S : cs_S) (k : Nat) : Prop := (cs_l S k = cs_pv S k ∧ ∃ c, c < cs_t S + cs_n S ∧ cs_rs S k = nI c ∧ bt (cs_cl S c) (cs_s S k) = true ∧ ∀ i, i < 32 → bt (cs_cl S c) i = true → i = cs_s S k ∨ ∃ j, j < k ∧ cs_s S j = cr_op i) ∨ (cs_l S k = cs_pv S k + 1 ∧ cs_rs S k = -nI 6)
def cr_I (S : cs_S) : Prop := cr_Is S ∧ cr_Ic S ∧ cr_It S ∧ ∀ k, k < cs_g S → cr_r S k
def cr_F (y : Int32) (S : cs_S) (f : Nat → Int32) : Prop := (f 0 = cs_th S ∧ f 1 = cs_re S ∧ f 2 = cs_fi S ∧ f 3 = cs_to S ∧ f 4 = cs_le S ∧ f 5 = cs_sd S ∧ f 6 = cs_pl S (cs_g S) ∧ f 7 = cs_gi S ∧ f 8 = cs_co S ∧ f 9 = y) ∧ (∀ k, k < cs_t S + cs_n S → f (49 + k) = cs_cl S k) ∧ (∀ k, k < cs_g S → f (10 + k) = nI (cs_s S k % 10) ∧ f (19 + cs_s S k % 10) = cb_wa (cs_s S k) ∧ f (29 + cs_s S k % 10) = cs_lv S k ∧ f (39 + cs_s S k % 10) = cs_rs S k) ∧ ∀ x, x ≤ 9 → (∀ k, k < cs_g S → cs_s S k % 10 ≠ x) → f (19 + x) = -nI 6 ∧ f (29 + x) = -nI 6 ∧ f (39 + x) = -nI 6
/-- the steps in the state are y; alike -/
def crp (y : Int32) (S : cs_S) (f : Nat → Int32) : Prop := cr_I S ∧ cr_F y S f
def cr (S : cs_S) (f : Nat → Int32) : Prop := crp (cs_sp S) S f
theorem cr_sg9 {th i : Nat} (h9 : th ≤ 9) (h : cr_sg th i) : 1 ≤ i ∧ i ≤ 19 ∧ i ≠ 10 ∧ 1 ≤ i % 10 ∧ i % 10 ≤ th := by
  rcases h with h | h <;> omega
theorem cr_sg_op {th i : Nat} (h9 : th ≤ 9) (h : cr_sg th i) : cr_sg th (cr_op i) := by
  unfold cr_op
  rcases h with h | h
  · rw [if_pos (by omega)]; right; omega
  · rw [if_neg (by omega)]; left; omega
theorem cr_op_op {th i : Nat} (h9 : th ≤ 9) (h : cr_sg th i) : cr_op (cr_op i) = i := by
  unfold cr_op
  rcases h with h | h
  · rw [if_pos (show i < 10 by omega), if_neg (by omega)]; omega
  · rw [if_neg (show ¬ i < 10 by omega), if_pos (by omega)]; omega
theorem cr_op_mod {i : Nat} (h : i < 20) : cr_op i % 10 = i % 10 := by
  unfold cr_op
  split <;> omega
theorem cr_two {th i j : Nat} (h9 : th ≤ 9) (hi : cr_sg th i) (hj : cr_sg th j) (e : i % 10 = j % 10) : i = j ∨ i = cr_op j := by
  have a := cr_sg9 h9 hi
  have b := cr_sg9 h9 hj
  unfold cr_op
  split <;> omega
theorem cr_sg_mono {a b i : Nat} (h : a ≤ b) (hi : cr_sg a i) : cr_sg b i := by
  rcases hi with q | q
  · left; omega
  · right; omega
theorem cr_c_lo {th : Nat} (h9 : th ≤ 9) {c : Int32} (h : cr_c th c) : cn_lo c := by
  intro i h1 h2
  cases b : bt c i with
  | false => rfl
  | true =>
    have := cr_sg9 h9 (h.1 i h2 b)
    omega
/-- the opposite set -/
theorem cb_op_mask : ∀ i, i < 32 → bt 1047550 i = (decide (1 ≤ i ∧ i ≤ 9) || decide (11 ≤ i ∧ i ≤ 19)) := by decide +kernel
theorem cb_op_bt {x : Int32} (h : ∀ i, i < 32 → bt x i = true → cr_sg 9 i) {i : Nat} (hi : i < 32) : bt (cb_op x) i = true ↔ cr_sg 9 i ∧ bt x (cr_op i) = true := by
  unfold cb_op
  rw [b_and, b_or, b_shl 10 (by omega) _ hi, b_sshr 10 (by omega) _ hi, cb_op_mask i hi]
  have hz : ∀ j, j < 32 → ¬ cr_sg 9 j → bt x j = false := by
    intro j hj hn
    cases b : bt x j with
    | false => rfl
    | true => exact absurd (h j hj b) hn
  unfold cr_sg cr_op at *
  by_cases a : 1 ≤ i ∧ i ≤ 9
  · rw [decide_eq_true a, Bool.true_or, Bool.and_true, decide_eq_false (by omega), Bool.false_and, Bool.false_or, if_pos (by omega), if_pos (by omega), Nat.add_comm 10 i]
    exact ⟨fun q => ⟨Or.inl a, q⟩, fun q => q.2⟩
  · rw [decide_eq_false a, Bool.false_or]
    by_cases b : 11 ≤ i ∧ i ≤ 19
    · rw [decide_eq_true b, Bool.and_true, decide_eq_true (by omega), Bool.true_and, if_pos (show 10 + i < 32 by omega), hz (10 + i) (by omega) (by omega), Bool.or_false, if_neg (by omega)]
      exact ⟨fun q => ⟨Or.inr (by omega), q⟩, fun q => q.2⟩
    · rw [decide_eq_false b, Bool.and_false]
      exact ⟨fun q => (by cases q), fun q => (by rcases q.1 with z | z <;> omega)⟩
theorem cb_m1bt (i : Nat) (hi : i < 32) : bt (-nI 1) i = true := b_m1 i hi
section CR
variable {y : Int32} {S : cs_S} {f : Nat → Int32}
theorem cr_g9 (h : cr_I S) : cs_g S ≤ 9 := h.1.1.1.2
theorem cr_k9 (h : cr_I S) : cs_k S ≤ 9 := h.1.1.2.2.2.2
theorem cr_va_sg (h : cr_I S) {i : Nat} (hi : i < 32) (hb : bt (cs_va S) i = true) : cr_sg (cs_k S) i := by
  obtain ⟨k, hk, rfl⟩ := (h.2.2.1.2.2 i hi).mp hb
  exact (h.2.2.1.1 k hk).2.1
theorem cr_va_op (h : cr_I S) {i : Nat} (hi : i < 32) : bt (cb_op (cs_va S)) i = true ↔ cr_sg 9 i ∧ bt (cs_va S) (cr_op i) = true :=
  cb_op_bt (fun i hi hb => cr_sg_mono (cr_k9 h) (cr_va_sg h hi hb)) hi
/-- is a sign, or its opposite, in the trail? -/
theorem cr_x (h : cr_I S) {i : Nat} (hi : cr_sg (cs_k S) i) : (bt (cs_va S) i = true ∧ bt (cs_va S) (cr_op i) = false ∧ ∃ k, k < cs_g S ∧ cs_s S k = i) ∨ (bt (cs_va S) i = false ∧ bt (cs_va S) (cr_op i) = true ∧ ∃ k, k < cs_g S ∧ cs_s S k = cr_op i) ∨ (bt (cs_va S) i = false ∧ bt (cs_va S) (cr_op i) = false ∧ ∀ k, k < cs_g S → cs_s S k % 10 ≠ i % 10) := by
  have h9 := cr_k9 h
  have hi2 := cr_sg9 h9 hi
  have ho := cr_sg_op h9 hi
  have ho2 := cr_sg9 h9 ho
  have hm := cr_op_mod (i := i) (by omega)
  have hne : cr_op i ≠ i := by unfold cr_op; split <;> omega
  have v1 := h.2.2.1.2.2 i (by omega)
  have v2 := h.2.2.1.2.2 (cr_op i) (by omega)
  have hd := h.2.2.1.2.1
  have uni : ∀ j k, j < cs_g S → k < cs_g S → cs_s S j % 10 = cs_s S k % 10 → j = k := by
    intro j k hj hk e
    rcases Nat.lt_trichotomy j k with q | q | q
    · exact absurd e (hd j k q hk)
    · exact q
    · exact absurd e.symm (hd k j q hj)
  by_cases a : ∃ k, k < cs_g S ∧ cs_s S k = i
  · left
    obtain ⟨k, hk, e⟩ := a
    refine ⟨v1.mpr ⟨k, hk, e⟩, ?_, k, hk, e⟩
    cases b : bt (cs_va S) (cr_op i) with
    | false => rfl
    | true =>
      obtain ⟨j, hj, e2⟩ := v2.mp b
      have := uni j k hj hk (by rw [e, e2, hm])
      subst this
      exact absurd (e2.symm.trans e) hne
  · have b1 : bt (cs_va S) i = false := by
      cases b : bt (cs_va S) i with
      | false => rfl
      | true => exact absurd (v1.mp b) a
    right
    by_cases c : ∃ k, k < cs_g S ∧ cs_s S k = cr_op i
    · left; exact ⟨b1, v2.mpr c, c⟩
    · right
      refine ⟨b1, ?_, fun k hk e => ?_⟩
      · cases b : bt (cs_va S) (cr_op i) with
        | false => rfl
        | true => exact absurd (v2.mp b) c
      · rcases cr_two h9 (h.2.2.1.1 k hk).2.1 hi e with q | q
        · exact a ⟨k, hk, q⟩
        · exact c ⟨k, hk, q⟩
theorem cb_wa_op {i : Nat} (h : 1 ≤ i ∧ i ≤ 19 ∧ i ≠ 10) : cb_wa (cr_op i) ≠ cb_wa i ∧ cb_wa i ≠ -nI 6 ∧ cb_wa (cr_op i) ≠ -nI 6 := by
  unfold cb_wa cr_op
  by_cases c : i < 10
  · rw [if_pos c, if_neg (show ¬ i + 10 < 10 by omega), if_pos c]; decide
  · rw [if_neg c, if_pos (show i - 10 < 10 by omega), if_neg c]; decide
theorem cr_val (h : crp y S f) {i : Nat} (hi : cr_sg (cs_k S) i) : (f (19 + i % 10) = cb_wa i ↔ bt (cs_va S) i = true) ∧ (f (19 + i % 10) = -nI 6 ↔ bt (cs_va S) i = false ∧ bt (cs_va S) (cr_op i) = false) := by
  have h9 := cr_k9 h.1
  have hi2 := cr_sg9 h9 hi
  have hm := cr_op_mod (i := i) (by omega)
  obtain ⟨w1, w2, w3⟩ := cb_wa_op (i := i) ⟨hi2.1, hi2.2.1, hi2.2.2.1⟩
  rcases cr_x h.1 hi with ⟨a, b, k, hk, e⟩ | ⟨a, b, k, hk, e⟩ | ⟨a, b, c⟩
  · have q := (h.2.2.2.1 k hk).2.1
    rw [e] at q
    rw [q, a, b]
    exact ⟨by simp, by simp [w2]⟩
  · have q := (h.2.2.2.1 k hk).2.1
    rw [e, hm] at q
    rw [q, a, b]
    exact ⟨by simp [w1], by simp [w3]⟩
  · have q := (h.2.2.2.2 (i % 10) (by omega) c).1
    rw [q, a, b]
    exact ⟨by simp [w2.symm], by simp⟩
/-- true, open, alike -/
theorem cm_tr_iff (f : Nat → Int32) (c : Int32) : ∀ n s a, cm_tr f c n s a = true ↔ a = true ∨ ∃ j, s ≤ j ∧ j < s + n ∧ bt c j = true ∧ f (19 + j % 10) = cb_wa j
  | 0, s, a => by
    unfold cm_tr
    exact ⟨Or.inl, fun h => h.elim id (fun ⟨j, h1, h2, _⟩ => by omega)⟩
  | n + 1, s, a => by
    unfold cm_tr
    rw [cm_tr_iff f c n (s + 1), Bool.or_eq_true, Bool.and_eq_true, decide_eq_true_eq]
    constructor
    · rintro ((h | ⟨h1, h2⟩) | ⟨j, h1, h2, h3⟩)
      · exact Or.inl h
      · exact Or.inr ⟨s, by omega, by omega, h1, h2⟩
      · exact Or.inr ⟨j, by omega, by omega, h3⟩
    · rintro (h | ⟨j, h1, h2, h3, h4⟩)
      · exact Or.inl (Or.inl h)
      · by_cases e : j = s
        · subst e; exact Or.inl (Or.inr ⟨h3, h4⟩)
        · exact Or.inr ⟨j, by omega, by omega, h3, h4⟩
theorem cb_meet {x y : Int32} : (¬ (x &&& y) = 0) ↔ ∃ i, i < 32 ∧ bt x i = true ∧ bt y i = true := by
  rw [cb_zero]
  constructor
  · intro h
    refine Classical.byContradiction fun hn => h (fun i hi => ?_)
    rw [b_and]
    cases a : bt x i with
    | false => rfl
    | true =>
      cases b : bt y i with
      | false => rfl
      | true => exact absurd ⟨i, hi, a, b⟩ hn
  · rintro ⟨i, hi, a, b⟩ h
    have := h i hi
    rw [b_and, a, b] at this
    cases this
theorem cr_tru (h : crp y S f) {c : Int32} (hc : cr_c (cs_k S) c) : cm_tru f c = cs_tr S c := by
  have h9 := cr_k9 h.1
  have e : cm_tru f c = true ↔ cs_tr S c = true := by
    unfold cm_tru cs_tr
    rw [cm_tr_iff, decide_eq_true_eq, cb_meet]
    constructor
    · rintro (q | ⟨j, h1, h2, h3, h4⟩)
      · cases q
      · exact ⟨j, by omega, h3, ((cr_val h (hc.1 j (by omega) h3)).1).mp h4⟩
    · rintro ⟨i, hi, a, b⟩
      have hs := hc.1 i hi a
      have := cr_sg9 h9 hs
      exact Or.inr ⟨i, by omega, by omega, a, ((cr_val h hs).1).mpr b⟩
  cases a : cm_tru f c <;> cases b : cs_tr S c <;> simp_all
/-- the open signs of a clause -/
theorem cr_op_bt (h : cr_I S) {c : Int32} (hc : cr_c (cs_k S) c) {i : Nat} (hi : i < 32) : bt (cs_op S c) i = true ↔ bt c i = true ∧ bt (cs_va S) i = false ∧ bt (cs_va S) (cr_op i) = false := by
  have h9 := cr_k9 h
  unfold cs_op
  rw [b_and, b_xor, b_or, cb_m1bt i hi]
  have q := cr_va_op h hi
  cases a : bt c i with
  | false => simp
  | true =>
    have hs := cr_sg_mono h9 (hc.1 i hi a)
    cases b : bt (cs_va S) i with
    | true => simp
    | false =>
      cases d : bt (cs_va S) (cr_op i) with
      | true => rw [q.mpr ⟨hs, d⟩]; simp
      | false =>
        have : bt (cb_op (cs_va S)) i = false := by
          cases e : bt (cb_op (cs_va S)) i with
          | false => rfl
          | true => have := (q.mp e).2; rw [d] at this; cases this
        rw [this]; simp
theorem cm_op_ct (f : Nat → Int32) (c : Int32) : ∀ n s a, cm_op f c n s a + fb_ct (fun j => bt c j && decide (f (19 + j % 10) = -nI 6)) s = a + fb_ct (fun j => bt c j && decide (f (19 + j % 10) = -nI 6)) (s + n)
  | 0, s, a => rfl
  | n + 1, s, a => by
    have ih := cm_op_ct f c n (s + 1) (a + (if bt c s = true ∧ f (19 + s % 10) = -nI 6 then 1 else 0))
    unfold cm_op
    rw [fb_ct_succ, show s + 1 + n = s + (n + 1) by omega] at ih
    have e : (if (bt c s && decide (f (19 + s % 10) = -nI 6)) = true then 1 else 0) = (if bt c s = true ∧ f (19 + s % 10) = -nI 6 then 1 else 0) := by
      by_cases q : bt c s = true ∧ f (19 + s % 10) = -nI 6
      · rw [if_pos q, if_pos (by rw [q.1, decide_eq_true q.2]; rfl)]
      · rw [if_neg q, if_neg (fun z => q (by rw [Bool.and_eq_true, decide_eq_true_eq] at z; exact z))]
    rw [e] at ih
    omega
theorem cr_opn (h : crp y S f) {c : Int32} (hc : cr_c (cs_k S) c) : cb_bc (cs_op S c) = nI (cm_opn f c) ∧ cm_opn f c = fb_ct (bt (cs_op S c)) 20 := by
  have h9 := cr_k9 h.1
  have hlo : cn_lo (cs_op S c) := by
    intro i h1 h2
    cases b : bt (cs_op S c) i with
    | false => rfl
    | true =>
      have := cr_sg9 h9 (hc.1 i h2 ((cr_op_bt h.1 hc h2).mp b).1)
      omega
  have e1 := cm_op_ct f c 19 1 0
  have e0 : fb_ct (fun j => bt c j && decide (f (19 + j % 10) = -nI 6)) 1 = 0 := fb_ct_zero.mpr (fun k hk => by
    have hk0 : k = 0 := by omega
    subst hk0
    cases b : bt c 0 with
    | false => rfl
    | true => have := cr_sg9 h9 (hc.1 0 (by omega) b); omega)
  have e2 : fb_ct (fun j => bt c j && decide (f (19 + j % 10) = -nI 6)) 20 = fb_ct (bt (cs_op S c)) 20 := fb_ct_cong (fun k hk => by
    have q := cr_op_bt h.1 hc (i := k) (by omega)
    cases a : bt c k with
    | false =>
      cases b : bt (cs_op S c) k with
      | false => rfl
      | true => have := (q.mp b).1; rw [a] at this; cases this
    | true =>
      have v := (cr_val h (hc.1 k (by omega) a)).2
      rw [Bool.true_and]
      cases b : bt (cs_op S c) k with
      | true => exact decide_eq_true (v.mpr (q.mp b).2)
      | false => exact decide_eq_false (fun z => by rw [q.mpr ⟨a, v.mp z⟩] at b; cases b))
  have e3 : cm_opn f c = fb_ct (bt (cs_op S c)) 20 := by unfold cm_opn; rw [show 1 + 19 = 20 from rfl] at e1; omega
  rw [cb_pop hlo, e3]
  exact ⟨rfl, rfl⟩
end CR
end
section
/-! the pieces of a step: the first clause of a kind, the lowest open thing, a value given -/
section CR3
variable {y : Int32} {S : cs_S} {f : Nat → Int32}
theorem cm_fo_first {P : Nat → Bool} (hP : ∀ k, k < cs_t S + cs_n S → cm_fa f (f (49 + k)) = P k) {o : Int32} (hQ : ∀ k, k < cs_t S + cs_n S → (P k = true ↔ cs_tr S (cs_cl S k) = false ∧ cb_bc (cs_op S (cs_cl S k)) = o)) : ∀ n k, k + n ≤ cs_t S + cs_n S → (cs_fu S o n k = -nI 6 ∧ ∀ a, cm_fo f (k + n) a = cm_fo f k a) ∨ ∃ j, j < k + n ∧ P j = true ∧ cs_fu S o n k = nI j ∧ ∀ a, cm_fo f (k + n) a = cm_fo f k (nI j)
  | 0, k, _ => Or.inl ⟨rfl, fun _ => rfl⟩
  | n + 1, k, h => by
    have ih := cm_fo_first hP hQ n (k + 1) (by omega)
    rw [show k + 1 + n = k + (n + 1) by omega] at ih
    have e : ∀ a, cm_fo f (k + 1) a = cm_fo f k (if P k then nI k else a) := fun a => by
      show cm_fo f k (if cm_fa f (f (49 + k)) then nI k else a) = _
      rw [hP k (by omega)]
    cases p : P k with
    | true =>
      right
      have q := (hQ k (by omega)).mp p
      refine ⟨k, by omega, p, ?_, fun a => ?_⟩
      · unfold cs_fu
        rw [if_neg (by rw [q.1]; decide), if_pos q.2]
      · rcases ih with ⟨-, h2⟩ | ⟨j, -, -, -, h2⟩
        · rw [h2, e, p]; rfl
        · rw [h2, e, p]; rfl
    | false =>
      have e2 : cs_fu S o (n + 1) k = cs_fu S o n (k + 1) := by
        conv => lhs; unfold cs_fu
        cases b : cs_tr S (cs_cl S k) with
        | true => rw [if_pos rfl]
        | false =>
          rw [if_neg (by decide), if_neg (fun z => by rw [(hQ k (by omega)).mpr ⟨b, z⟩] at p; cases p)]
      rw [e2]
      rcases ih with ⟨h1, h2⟩ | ⟨j, h0, hp, h1, h2⟩
      · exact Or.inl ⟨h1, fun a => by rw [h2, e, p]; rfl⟩
      · exact Or.inr ⟨j, h0, hp, h1, fun a => by rw [h2, e, p]; rfl⟩
theorem cm_fw_first {P : Nat → Bool} (hP : ∀ k, k < cs_t S + cs_n S → ((cm_opn f (f (49 + k)) = 1 ∧ cm_tru f (f (49 + k)) = false) ↔ P k = true)) {o : Int32} (hQ : ∀ k, k < cs_t S + cs_n S → (P k = true ↔ cs_tr S (cs_cl S k) = false ∧ cb_bc (cs_op S (cs_cl S k)) = o)) : ∀ n k, k + n ≤ cs_t S + cs_n S → (cs_fu S o n k = -nI 6 ∧ ∀ a, cm_fw f (k + n) a = cm_fw f k a) ∨ ∃ j, j < k + n ∧ P j = true ∧ cs_fu S o n k = nI j ∧ ∀ a, cm_fw f (k + n) a = cm_fw f k (nI j)
  | 0, k, _ => Or.inl ⟨rfl, fun _ => rfl⟩
  | n + 1, k, h => by
    have ih := cm_fw_first hP hQ n (k + 1) (by omega)
    rw [show k + 1 + n = k + (n + 1) by omega] at ih
    have e : ∀ a, cm_fw f (k + 1) a = cm_fw f k (if P k = true then nI k else a) := fun a => by
      show cm_fw f k (if cm_opn f (f (49 + k)) = 1 ∧ cm_tru f (f (49 + k)) = false then nI k else a) = _
      by_cases c : P k = true
      · rw [if_pos c, if_pos ((hP k (by omega)).mpr c)]
      · rw [if_neg c, if_neg (fun z => c ((hP k (by omega)).mp z))]
    cases p : P k with
    | true =>
      right
      have q := (hQ k (by omega)).mp p
      refine ⟨k, by omega, p, ?_, fun a => ?_⟩
      · unfold cs_fu
        rw [if_neg (by rw [q.1]; decide), if_pos q.2]
      · rcases ih with ⟨-, h2⟩ | ⟨j, -, -, -, h2⟩
        · rw [h2, e, p]; rfl
        · rw [h2, e, p]; rfl
    | false =>
      have e2 : cs_fu S o (n + 1) k = cs_fu S o n (k + 1) := by
        conv => lhs; unfold cs_fu
        cases b : cs_tr S (cs_cl S k) with
        | true => rw [if_pos rfl]
        | false =>
          rw [if_neg (by decide), if_neg (fun z => by rw [(hQ k (by omega)).mpr ⟨b, z⟩] at p; cases p)]
      rw [e2]
      rcases ih with ⟨h1, h2⟩ | ⟨j, h0, hp, h1, h2⟩
      · exact Or.inl ⟨h1, fun a => by rw [h2, e, p]; rfl⟩
      · exact Or.inr ⟨j, h0, hp, h1, fun a => by rw [h2, e, p]; rfl⟩
/-- the clause with o open signs that is not true -/
def cr_P (S : cs_S) (o k : Nat) : Bool := !cs_tr S (cs_cl S k) && decide (fb_ct (bt (cs_op S (cs_cl S k))) 20 = o)
theorem cr_fu0 (h : crp y S f) : (cs_fu0 S = -nI 6 ∧ cm_fo f (cs_t S + cs_n S) (-nI 6) = -nI 6) ∨ ∃ j, j < cs_t S + cs_n S ∧ cr_P S 0 j = true ∧ cs_fu0 S = nI j ∧ cm_fo f (cs_t S + cs_n S) (-nI 6) = nI j := by
  have hb := fun k => fb_ct_le (bt (cs_op S (cs_cl S k))) 20
  have hP : ∀ k, k < cs_t S + cs_n S → cm_fa f (f (49 + k)) = cr_P S 0 k := fun k hk => by
    have hc := h.1.2.1 k hk
    unfold cm_fa cr_P
    rw [h.2.2.1 k hk, cr_tru h hc, (cr_opn h hc).2, Bool.and_comm]
  have hQ : ∀ k, k < cs_t S + cs_n S → (cr_P S 0 k = true ↔ cs_tr S (cs_cl S k) = false ∧ cb_bc (cs_op S (cs_cl S k)) = nI 0) := fun k hk => by
    have hc := h.1.2.1 k hk
    have e := cr_opn h hc
    unfold cr_P
    rw [Bool.and_eq_true, Bool.not_eq_true', decide_eq_true_eq, e.1, e.2, nI_eq (by have := hb k; omega) (by omega)]
  rcases cm_fo_first hP hQ (cs_t S + cs_n S) 0 (by omega) with ⟨h1, h2⟩ | ⟨j, h0, hp, h1, h2⟩
  · rw [Nat.zero_add] at h2
    exact Or.inl ⟨h1, h2 _⟩
  · rw [Nat.zero_add] at h2 h0
    exact Or.inr ⟨j, h0, hp, h1, h2 _⟩
theorem cr_fu1 (h : crp y S f) : (cs_fu1 S = -nI 6 ∧ cm_fw f (cs_t S + cs_n S) (-nI 6) = -nI 6) ∨ ∃ j, j < cs_t S + cs_n S ∧ cr_P S 1 j = true ∧ cs_fu1 S = nI j ∧ cm_fw f (cs_t S + cs_n S) (-nI 6) = nI j := by
  have hb := fun k => fb_ct_le (bt (cs_op S (cs_cl S k))) 20
  have hP : ∀ k, k < cs_t S + cs_n S → ((cm_opn f (f (49 + k)) = 1 ∧ cm_tru f (f (49 + k)) = false) ↔ cr_P S 1 k = true) := fun k hk => by
    have hc := h.1.2.1 k hk
    unfold cr_P
    rw [h.2.2.1 k hk, cr_tru h hc, (cr_opn h hc).2, Bool.and_eq_true, Bool.not_eq_true', decide_eq_true_eq, and_comm]
  have hQ : ∀ k, k < cs_t S + cs_n S → (cr_P S 1 k = true ↔ cs_tr S (cs_cl S k) = false ∧ cb_bc (cs_op S (cs_cl S k)) = nI 1) := fun k hk => by
    have hc := h.1.2.1 k hk
    have e := cr_opn h hc
    unfold cr_P
    rw [Bool.and_eq_true, Bool.not_eq_true', decide_eq_true_eq, e.1, e.2, nI_eq (by have := hb k; omega) (by omega)]
  rcases cm_fw_first hP hQ (cs_t S + cs_n S) 0 (by omega) with ⟨h1, h2⟩ | ⟨j, h0, hp, h1, h2⟩
  · rw [Nat.zero_add] at h2
    exact Or.inl ⟨h1, h2 _⟩
  · rw [Nat.zero_add] at h2 h0
    exact Or.inr ⟨j, h0, hp, h1, h2 _⟩
/-- one sign as a set -/
theorem cb_set_bt {k : Nat} (hk : k < 32) {i : Nat} (hi : i < 32) : bt (cb_set (nI k)) i = decide (i = k) := cb_one hk hi
theorem cr_c_set {th x : Nat} (h9 : th ≤ 9) (hx : cr_sg th x) : cr_c th (cb_set (nI x)) := by
  have q := cr_sg9 h9 hx
  refine ⟨fun i hi hb => ?_, fun i h1 h2 hb => ?_⟩
  · rw [cb_set_bt (by omega) hi, decide_eq_true_eq] at hb
    subst hb; exact hx
  · rw [cb_set_bt (by omega) (by omega), cb_set_bt (by omega) (by omega), decide_eq_true_eq, decide_eq_true_eq] at hb
    omega
theorem cr_open_thing (h : crp y S f) {x : Nat} (h1 : 1 ≤ x) (hx : x ≤ cs_k S) : (cs_op S (nI 1 <<< (nI x &&& 31)) = 0 ↔ ¬ f (19 + x) = -nI 6) ∧ (f (19 + x) = -nI 6 → ∀ i, cr_sg (cs_k S) i → i % 10 = x → bt (cs_va S) i = false ∧ bt (cs_va S) (cr_op i) = false) := by
  have h9 := cr_k9 h.1
  have hs : cr_sg (cs_k S) x := Or.inl ⟨h1, hx⟩
  have hv := (cr_val h hs).2
  rw [Nat.mod_eq_of_lt (show x < 10 by omega)] at hv
  have hc := cr_c_set h9 hs
  refine ⟨?_, fun e i hi hm => ?_⟩
  · show cs_op S (cb_set (nI x)) = 0 ↔ _
    rw [cb_zero]
    constructor
    · intro hz e
      have q := (cr_op_bt h.1 hc (i := x) (by omega)).mpr ⟨by rw [cb_set_bt (by omega) (by omega)]; exact decide_eq_true rfl, hv.mp e⟩
      rw [hz x (by omega)] at q
      cases q
    · intro hn i hi
      cases b : bt (cs_op S (cb_set (nI x))) i with
      | false => rfl
      | true =>
        have q := (cr_op_bt h.1 hc hi).mp b
        rw [cb_set_bt (by omega) hi, decide_eq_true_eq] at q
        obtain ⟨rfl, q2⟩ := q
        exact absurd (hv.mpr q2) hn
  · have q := hv.mp e
    rcases cr_two h9 hi hs (by rw [hm]; exact (Nat.mod_eq_of_lt (by omega)).symm) with rfl | rfl
    · exact q
    · rw [cr_op_op h9 hs]; exact ⟨q.2, q.1⟩
theorem cr_low_loop (h : crp y S f) : ∀ n t, t + n = cs_k S + 1 → 1 ≤ t → (cs_low S n t = -nI 6 ∧ ∀ a, cm_lw f (cs_k S) a = cm_lw f (t - 1) a) ∨ ∃ x, t ≤ x ∧ x ≤ cs_k S ∧ cs_low S n t = nI x ∧ f (19 + x) = -nI 6 ∧ ∀ a, cm_lw f (cs_k S) a = cm_lw f (t - 1) (nI x)
  | 0, t, h1, h2 => by
    left
    exact ⟨rfl, fun a => by rw [show t - 1 = cs_k S by omega]⟩
  | n + 1, t, h1, h2 => by
    have ih := cr_low_loop h n (t + 1) (by omega) (by omega)
    have q := (cr_open_thing h h2 (show t ≤ cs_k S by omega)).1
    obtain ⟨m, rfl⟩ : ∃ m, t = m + 1 := ⟨t - 1, by omega⟩
    have e : ∀ a, cm_lw f (m + 1) a = cm_lw f m (if f (19 + (m + 1)) = -nI 6 then nI (m + 1) else a) := fun a => rfl
    rw [show m + 1 + 1 - 1 = m + 1 by omega] at ih
    rw [show m + 1 - 1 = m by omega]
    unfold cs_low
    by_cases c : f (19 + (m + 1)) = -nI 6
    · rw [if_neg (fun z => (q.mp z) c)]
      right
      refine ⟨m + 1, by omega, by omega, rfl, c, fun a => ?_⟩
      rcases ih with ⟨-, h3⟩ | ⟨x, -, -, -, -, h3⟩
      · rw [h3, e, if_pos c]
      · rw [h3, e, if_pos c]
    · rw [if_pos (q.mpr c)]
      rcases ih with ⟨h4, h3⟩ | ⟨x, h5, h6, h4, h7, h3⟩
      · exact Or.inl ⟨h4, fun a => by rw [h3, e, if_neg c]⟩
      · exact Or.inr ⟨x, by omega, h6, h4, h7, fun a => by rw [h3, e, if_neg c]⟩
theorem cr_low (h : crp y S f) : (cs_lo S = -nI 6 ∧ cm_lw f (cs_k S) (-nI 6) = -nI 6) ∨ ∃ x, 1 ≤ x ∧ x ≤ cs_k S ∧ cs_lo S = nI x ∧ f (19 + x) = -nI 6 ∧ cm_lw f (cs_k S) (-nI 6) = nI x := by
  rcases cr_low_loop h (cs_k S) 1 (by omega) (by omega) with ⟨h1, h2⟩ | ⟨x, h5, h6, h4, h7, h3⟩
  · exact Or.inl ⟨h1, h2 _⟩
  · exact Or.inr ⟨x, h5, h6, h4, h7, h3 _⟩
/-- levels -/
theorem cr_pl (h : cr_I S) : cs_pl S (cs_g S) = nI (cs_pv S (cs_g S)) := by
  unfold cs_pl cs_pv
  by_cases c : cs_g S = 0
  · rw [if_pos c, if_pos c]
  · rw [if_neg c, if_neg c]
    exact (h.2.2.1.1 (cs_g S - 1) (by omega)).2.2.1
theorem cr_mono1 (h : cr_I S) {k : Nat} (hk : k < cs_g S) : cs_pv S k ≤ cs_l S k ∧ cs_l S k ≤ cs_pv S k + 1 := by
  rcases h.2.2.2 k hk with ⟨e, -⟩ | ⟨e, -⟩ <;> omega
theorem cr_mono (h : cr_I S) {j : Nat} : ∀ k, j ≤ k → k < cs_g S → cs_l S j ≤ cs_l S k := by
  intro k
  induction k with
  | zero => intro h1 h2; rw [show j = 0 by omega]; exact Nat.le_refl _
  | succ k ih =>
    intro h1 h2
    by_cases e : j = k + 1
    · subst e; exact Nat.le_refl _
    · have i1 := ih (by omega) (by omega)
      have i2 := (cr_mono1 h h2).1
      have i3 : cs_pv S (k + 1) = cs_l S k := by unfold cs_pv; rw [if_neg (by omega)]; rfl
      omega
theorem cr_pv_le (h : cr_I S) : cs_pv S (cs_g S) ≤ cs_g S := by
  unfold cs_pv
  split
  · omega
  · rename_i c
    have := (h.2.2.1.1 (cs_g S - 1) (by omega)).2.2.2
    omega
/-- a value given -/
theorem cr_g8 (h : cr_I S) {i : Nat} (hi : cr_sg (cs_k S) i) (v1 : bt (cs_va S) i = false) (v2 : bt (cs_va S) (cr_op i) = false) : cs_g S ≤ 8 ∧ ∀ k, k < cs_g S → cs_s S k % 10 ≠ i % 10 := by
  have h9 := cr_k9 h
  have hx : ∀ k, k < cs_g S → cs_s S k % 10 ≠ i % 10 := by
    rcases cr_x h hi with ⟨a, -⟩ | ⟨-, a, -⟩ | ⟨-, -, a⟩
    · rw [v1] at a; cases a
    · rw [v2] at a; cases a
    · exact a
  have q := cr_sg9 h9 hi
  refine ⟨pg_inj (r := fun k => cs_s S k % 10) (x := i % 10) ⟨q.2.2.2.1, by omega⟩ (cs_g S) (fun k hk => ?_) (fun j k hjk hk => h.2.2.1.2.1 j k hjk hk), hx⟩
  have := cr_sg9 h9 (h.2.2.1.1 k hk).2.1
  exact ⟨this.2.2.2.1, by omega, hx k hk⟩
theorem cr_give (h : crp y S f) {i m : Nat} {r : Int32} (hi : cr_sg (cs_k S) i) (v1 : bt (cs_va S) i = false) (v2 : bt (cs_va S) (cr_op i) = false) (hm : m ≤ cs_g S + 1)
    (hr : (m = cs_pv S (cs_g S) ∧ ∃ c, c < cs_t S + cs_n S ∧ r = nI c ∧ bt (cs_cl S c) i = true ∧ ∀ j, j < 32 → bt (cs_cl S c) j = true → j = i ∨ ∃ k, k < cs_g S ∧ cs_s S k = cr_op j) ∨ (m = cs_pv S (cs_g S) + 1 ∧ r = -nI 6)) :
    crp y (cs_give S (nI i) (nI m) r) (cm_gv (upd f 6 (nI m)) (cs_g S) (i % 10) (cb_wa i) r) := by
  have h9 := cr_k9 h.1
  obtain ⟨g8, hx⟩ := cr_g8 h.1 hi v1 v2
  have qi := cr_sg9 h9 hi
  obtain ⟨⟨hIs, hIc, hIt, hIr⟩, hF0, hFc, hFt, hFx⟩ := h
  have hB := hIs.1
  have e0 : cs_give S (nI i) (nI m) r = (S.1, S.2.1, S.2.2.1, S.2.2.2.1, S.2.2.2.2.1, S.2.2.2.2.2.1, cs_gi S + nI 1, upd (cs_sg S) (cs_g S) (nI i), upd (cs_lv S) (cs_g S) (nI m), upd (cs_rs S) (cs_g S) r, cs_va S ||| cb_set (nI i), S.2.2.2.2.2.2.2.2.2.2.2) := if_pos (by omega)
  have hB2 := cs_Bd_give hB (nI i) (nI m) r
  have eg : cs_gi S + nI 1 = nI (cs_g S + 1) := by rw [hB.1.1, nI_add]
  rw [e0] at hB2 ⊢
  obtain ⟨S', hS'⟩ : ∃ S', S' = ((S.1, S.2.1, S.2.2.1, S.2.2.2.1, S.2.2.2.2.1, S.2.2.2.2.2.1, cs_gi S + nI 1, upd (cs_sg S) (cs_g S) (nI i), upd (cs_lv S) (cs_g S) (nI m), upd (cs_rs S) (cs_g S) r, cs_va S ||| cb_set (nI i), S.2.2.2.2.2.2.2.2.2.2.2) : cs_S) := ⟨_, rfl⟩
  rw [← hS'] at hB2 ⊢
  have fg : cs_g S' = cs_g S + 1 := cs_g_nI (by rw [hS']; exact eg) (by omega)
  have ft : cs_t S' = cs_t S := by rw [hS']; rfl
  have fn : cs_n S' = cs_n S := by rw [hS']; rfl
  have fk : cs_k S' = cs_k S := by rw [hS']; rfl
  have fcl : cs_cl S' = cs_cl S := by rw [hS']
  have fsg : cs_sg S' = upd (cs_sg S) (cs_g S) (nI i) := by rw [hS']
  have flv : cs_lv S' = upd (cs_lv S) (cs_g S) (nI m) := by rw [hS']
  have frs : cs_rs S' = upd (cs_rs S) (cs_g S) r := by rw [hS']
  have fva : cs_va S' = cs_va S ||| cb_set (nI i) := by rw [hS']
  have s1 : ∀ k, k < cs_g S → cs_s S' k = cs_s S k := fun k hk => by unfold cs_s; rw [fsg, pk_un (by omega)]
  have s2 : cs_s S' (cs_g S) = i := by unfold cs_s; rw [fsg, pk_us, nI_clamp (by omega)]
  have l1 : ∀ k, k < cs_g S → cs_l S' k = cs_l S k := fun k hk => by unfold cs_l; rw [flv, pk_un (by omega)]
  have l2 : cs_l S' (cs_g S) = m := by unfold cs_l; rw [flv, pk_us, nI_clamp (by omega)]
  have p1 : ∀ k, k ≤ cs_g S → cs_pv S' k = cs_pv S k := fun k hk => by
    unfold cs_pv
    by_cases c : k = 0
    · rw [if_pos c, if_pos c]
    · rw [if_neg c, if_neg c, l1 (k - 1) (by omega)]
  have sp : ∀ k, k < cs_g S + 1 → k < cs_g S ∨ k = cs_g S := fun k hk => by omega
  refine ⟨⟨⟨hB2, by rw [fk]; exact hIs.2.1, by rw [hS']; exact hIs.2.2.1, by rw [hS']; exact hIs.2.2.2.1, by rw [hS']; exact hIs.2.2.2.2⟩, fun k hk => ?_, ⟨fun k hk => ?_, fun j k hjk hk => ?_, fun j hj => ?_⟩, fun k hk => ?_⟩, ⟨?_, ?_, ?_, ?_, ?_, ?_, ?_, ?_, ?_, ?_⟩, fun k hk => ?_, fun k hk => ?_, fun x hx9 hxk => ?_⟩
  · rw [ft, fn] at hk; rw [fk, fcl]; exact hIc k hk
  · rw [fg] at hk
    rcases sp k hk with q | rfl
    · rw [s1 k q, l1 k q, fk, fsg, flv, pk_un (by omega), pk_un (by omega)]; exact hIt.1 k q
    · rw [s2, l2, fk, fsg, flv, pk_us, pk_us]; exact ⟨rfl, hi, rfl, hm⟩
  · rw [fg] at hk
    rcases sp k hk with q | rfl
    · rw [s1 k q, s1 j (by omega)]; exact hIt.2.1 j k hjk q
    · rw [s2, s1 j hjk]; exact hx j hjk
  · rw [fg, fva, b_or, cb_set_bt (by omega) hj, Bool.or_eq_true, decide_eq_true_eq, hIt.2.2 j hj]
    constructor
    · rintro (⟨k, hk, e⟩ | rfl)
      · exact ⟨k, by omega, by rw [s1 k hk]; exact e⟩
      · exact ⟨cs_g S, by omega, s2⟩
    · rintro ⟨k, hk, e⟩
      rcases sp k hk with q | rfl
      · exact Or.inl ⟨k, q, by rw [← s1 k q]; exact e⟩
      · right; rw [← e, s2]
  · rw [fg] at hk
    unfold cr_r
    rcases sp k hk with q | rfl
    · rw [l1 k q, p1 k (by omega), frs, pk_un (by omega), fcl, s1 k q, ft, fn]
      rcases hIr k q with ⟨a, c, hc, b1, b2, b3⟩ | a
      · left
        refine ⟨a, c, hc, b1, b2, fun j hj hb => ?_⟩
        rcases b3 j hj hb with z | ⟨y, hy, z⟩
        · exact Or.inl z
        · exact Or.inr ⟨y, hy, by rw [s1 y (by omega)]; exact z⟩
      · exact Or.inr a
    · rw [l2, p1 _ (Nat.le_refl _), frs, pk_us, fcl, s2, ft, fn]
      rcases hr with ⟨a, c, hc, b1, b2, b3⟩ | a
      · left
        refine ⟨a, c, hc, b1, b2, fun j hj hb => ?_⟩
        rcases b3 j hj hb with z | ⟨y, hy, z⟩
        · exact Or.inl z
        · exact Or.inr ⟨y, hy, by rw [s1 y hy]; exact z⟩
      · exact Or.inr a
  all_goals unfold cm_gv
  · rw [pk_un (by omega), pk_un (by omega), pk_un (by omega), pk_un (by omega), pk_un (by omega), pk_un (by omega), hS']; exact hF0.1
  · rw [pk_un (by omega), pk_un (by omega), pk_un (by omega), pk_un (by omega), pk_un (by omega), pk_un (by omega), hS']; exact hF0.2.1
  · rw [pk_un (by omega), pk_un (by omega), pk_un (by omega), pk_un (by omega), pk_un (by omega), pk_un (by omega), hS']; exact hF0.2.2.1
  · rw [pk_un (by omega), pk_un (by omega), pk_un (by omega), pk_un (by omega), pk_un (by omega), pk_un (by omega), hS']; exact hF0.2.2.2.1
  · rw [pk_un (by omega), pk_un (by omega), pk_un (by omega), pk_un (by omega), pk_un (by omega), pk_un (by omega), hS']; exact hF0.2.2.2.2.1
  · rw [pk_un (by omega), pk_un (by omega), pk_un (by omega), pk_un (by omega), pk_un (by omega), pk_un (by omega), hS']; exact hF0.2.2.2.2.2.1
  · rw [pk_un (by omega), pk_un (by omega), pk_un (by omega), pk_un (by omega), pk_un (by omega), pk_us, fg]
    unfold cs_pl
    rw [if_neg (by omega), flv, Nat.add_sub_cancel, pk_us]
  · rw [pk_un (by omega), pk_un (by omega), pk_un (by omega), pk_us, hS']; exact eg.symm
  · rw [pk_un (by omega), pk_un (by omega), pk_un (by omega), pk_un (by omega), pk_un (by omega), pk_un (by omega), hS']; exact hF0.2.2.2.2.2.2.2.2.1
  · rw [pk_un (by omega), pk_un (by omega), pk_un (by omega), pk_un (by omega), pk_un (by omega), pk_un (by omega)]; exact hF0.2.2.2.2.2.2.2.2.2
  · rw [ft, fn] at hk
    rw [pk_un (by omega), pk_un (by omega), pk_un (by omega), pk_un (by omega), pk_un (by omega), pk_un (by omega), fcl]; exact hFc k hk
  · rw [fg] at hk
    rcases sp k hk with q | rfl
    · have hs := cr_sg9 h9 (hIt.1 k q).2.1
      have hne := hx k q
      obtain ⟨a1, a2, a3, a4⟩ := hFt k q
      rw [s1 k q, flv, frs, pk_un (show k ≠ cs_g S by omega), pk_un (show k ≠ cs_g S by omega)]
      refine ⟨?_, ?_, ?_, ?_⟩
      · rw [pk_un (by omega), pk_un (by omega), pk_un (by omega), pk_un (by omega), pk_un (by omega), pk_un (by omega)]; exact a1
      · rw [pk_un (by omega), pk_un (by omega), pk_un (by omega), pk_un (by omega), pk_un (by omega), pk_un (by omega)]; exact a2
      · rw [pk_un (by omega), pk_un (by omega), pk_un (by omega), pk_un (by omega), pk_un (by omega), pk_un (by omega)]; exact a3
      · rw [pk_un (by omega), pk_un (by omega), pk_un (by omega), pk_un (by omega), pk_un (by omega), pk_un (by omega)]; exact a4
    · rw [s2, flv, frs, pk_us, pk_us]
      refine ⟨?_, ?_, ?_, ?_⟩
      · rw [pk_un (by omega), pk_un (by omega), pk_un (by omega), pk_un (by omega), pk_us]
      · rw [pk_un (by omega), pk_un (by omega), pk_us]
      · rw [pk_un (by omega), pk_us]
      · rw [pk_us, pk_us]
  · rw [fg] at hxk
    have hne : i % 10 ≠ x := by rw [← s2]; exact hxk (cs_g S) (by omega)
    obtain ⟨a1, a2, a3⟩ := hFx x hx9 (fun k hk => by rw [← s1 k hk]; exact hxk k (by omega))
    refine ⟨?_, ?_, ?_⟩
    · rw [pk_un (by omega), pk_un (by omega), pk_un (by omega), pk_un (by omega), pk_un (by omega), pk_un (by omega)]; exact a1
    · rw [pk_un (by omega), pk_un (by omega), pk_un (by omega), pk_un (by omega), pk_un (by omega), pk_un (by omega)]; exact a2
    · rw [pk_un (by omega), pk_un (by omega), pk_un (by omega), pk_un (by omega), pk_un (by omega), pk_un (by omega)]; exact a3
end CR3
end
section
/-! going back -/
section CR4
variable {y : Int32} {S : cs_S} {f : Nat → Int32}
theorem cs_gbn_spec (h : cr_I S) {m : Nat} (hm : m ≤ 9) : ∀ g, g ≤ cs_g S → cs_gbn S (nI m) g ≤ g ∧ (∀ k, k < cs_gbn S (nI m) g → cs_l S k ≤ m) ∧ ∀ k, cs_gbn S (nI m) g ≤ k → k < g → m < cs_l S k
  | 0, _ => ⟨Nat.le_refl _, fun k hk => absurd hk (Nat.not_lt_zero k), fun k _ hk => absurd hk (Nat.not_lt_zero k)⟩
  | g + 1, hg => by
    have e := (h.2.2.1.1 g (by omega)).2.2
    have hle9 : cs_l S g < 2 ^ 31 := by have := cr_g9 h; omega
    unfold cs_gbn
    by_cases c : cs_lv S g ≤ nI m
    · rw [if_pos c]
      rw [e.1, nI_leI hle9 (by omega)] at c
      exact ⟨Nat.le_refl _, fun k hk => Nat.le_trans (cr_mono h g (by omega) (by omega)) c, fun k h1 h2 => by omega⟩
    · rw [if_neg c]
      rw [e.1, nI_leI hle9 (by omega)] at c
      obtain ⟨i1, i2, i3⟩ := cs_gbn_spec h hm g (by omega)
      refine ⟨by omega, i2, fun k h1 h2 => ?_⟩
      by_cases q : k = g
      · subst q; omega
      · exact i3 k h1 (by omega)
theorem cs_gbv_bt (h : cr_I S) (L : Int32) {i : Nat} (hi : i < 32) : ∀ g va, g ≤ cs_g S → (bt (cs_gbv S L g va) i = true ↔ bt va i = true ∧ ∀ k, cs_gbn S L g ≤ k → k < g → cs_s S k ≠ i)
  | 0, va, _ => ⟨fun q => ⟨q, fun k _ hk => absurd hk (Nat.not_lt_zero k)⟩, fun q => q.1⟩
  | g + 1, va, hg => by
    have h9 := cr_k9 h
    obtain ⟨e1, e2, -⟩ := h.2.2.1.1 g (by omega)
    have e3 := cr_sg9 h9 e2
    unfold cs_gbv cs_gbn
    by_cases c : cs_lv S g ≤ L
    · rw [if_pos c, if_pos c]
      exact ⟨fun q => ⟨q, fun k h1 h2 => by omega⟩, fun q => q.1⟩
    · rw [if_neg c, if_neg c, cs_gbv_bt h L hi g _ (by omega), b_and, b_xor, e1, cb_set_bt (by omega) hi, cb_m1bt i hi, Bool.and_eq_true]
      have hle := cs_gbn_le S L g
      constructor
      · rintro ⟨⟨a, b⟩, d⟩
        refine ⟨a, fun k h1 h2 => ?_⟩
        by_cases q : k = g
        · subst q; intro z; rw [decide_eq_true z.symm] at b; cases b
        · exact d k h1 (by omega)
      · rintro ⟨a, d⟩
        refine ⟨⟨a, ?_⟩, fun k h1 h2 => d k h1 (by omega)⟩
        rw [decide_eq_false (fun z => d g hle (by omega) z.symm)]; rfl
/-- the reference's first half, on the values that stay -/
theorem cm_gb_stay (h : crp y S f) (L : Int32) {a : Nat} (ha : a ≤ cs_g S) (hs : ∀ k, k < a → cs_lv S k ≤ L) : ∀ n k, k + n = a → cm_gb L (cs_g S - k) k k f = cm_gb L (cs_g S - a) a a f
  | 0, k, hk => by rw [show k = a by omega]
  | n + 1, k, hk => by
    have h9 := cr_k9 h.1
    obtain ⟨b1, b2, b3, b4⟩ := h.2.2.2.1 k (by omega)
    have hx := cr_sg9 h9 (h.1.2.2.1.1 k (by omega)).2.1
    have ex : cm_x f k = cs_s S k % 10 := by unfold cm_x; rw [b1, nI_clamp (by omega)]
    obtain ⟨m, hm⟩ : ∃ m, cs_g S - k = m + 1 := ⟨cs_g S - k - 1, by omega⟩
    rw [hm]
    conv => lhs; unfold cm_gb
    rw [ex, b3, if_pos (hs k (by omega))]
    have eu : upd f (10 + k) (f (10 + k)) = f := by
      funext j; unfold upd; by_cases c : j = 10 + k
      · rw [if_pos c, c]
      · rw [if_neg c]
    rw [eu, show m = cs_g S - (k + 1) by omega]
    exact cm_gb_stay h L ha hs n (k + 1) (by omega)
/-- things forgotten: those of places from a on, below k -/
def cr_gone (S : cs_S) (f f' : Nat → Int32) (a k : Nat) : Prop := (∀ j, j < 19 → f' j = f j) ∧ (∀ j, 49 ≤ j → f' j = f j) ∧ (∀ x, x ≤ 9 → (∀ m, a ≤ m → m < k → cs_s S m % 10 ≠ x) → f' (19 + x) = f (19 + x) ∧ f' (29 + x) = f (29 + x) ∧ f' (39 + x) = f (39 + x)) ∧ ∀ x, x ≤ 9 → (∃ m, a ≤ m ∧ m < k ∧ cs_s S m % 10 = x) → f' (19 + x) = -nI 6 ∧ f' (29 + x) = -nI 6 ∧ f' (39 + x) = -nI 6
theorem cm_gb_go (h : crp y S f) (L : Int32) {a : Nat} (hs : ∀ k, a ≤ k → k < cs_g S → ¬ cs_lv S k ≤ L) : ∀ n k f', k + n = cs_g S → a ≤ k → cr_gone S f f' a k → (cm_gb L n k a f').1 = a ∧ cr_gone S f (cm_gb L n k a f').2 a (cs_g S)
  | 0, k, f', hk, hak, hg => by
    rw [Nat.add_zero] at hk
    subst hk
    exact ⟨rfl, hg⟩
  | n + 1, k, f', hk, hak, hg => by
    have h9 := cr_k9 h.1
    have g9 := cr_g9 h.1
    obtain ⟨g1, g2, g3, g4⟩ := hg
    obtain ⟨b1, b2, b3, b4⟩ := h.2.2.2.1 k (by omega)
    have hx := cr_sg9 h9 (h.1.2.2.1.1 k (by omega)).2.1
    have ex : cm_x f' k = cs_s S k % 10 := by unfold cm_x; rw [g1 _ (by omega), b1, nI_clamp (by omega)]
    have hun := g3 (cs_s S k % 10) (by omega) (fun m h1 h2 => h.1.2.2.1.2.1 m k h2 (by omega))
    unfold cm_gb
    rw [ex, hun.2.1, b3, if_neg (hs k hak (by omega))]
    refine cm_gb_go h L hs n (k + 1) _ (by omega) (by omega) ⟨fun j hj => ?_, fun j hj => ?_, fun x hx9 hm => ?_, fun x hx9 hm => ?_⟩
    · unfold cm_fg
      rw [pk_un (by omega), pk_un (by omega), pk_un (by omega)]; exact g1 j hj
    · unfold cm_fg
      rw [pk_un (by omega), pk_un (by omega), pk_un (by omega)]; exact g2 j hj
    · have hne := hm k hak (by omega)
      obtain ⟨q1, q2, q3⟩ := g3 x hx9 (fun m h1 h2 => hm m h1 (by omega))
      unfold cm_fg
      refine ⟨?_, ?_, ?_⟩
      · rw [pk_un (by omega), pk_un (by omega), pk_un (by omega)]; exact q1
      · rw [pk_un (by omega), pk_un (by omega), pk_un (by omega)]; exact q2
      · rw [pk_un (by omega), pk_un (by omega), pk_un (by omega)]; exact q3
    · unfold cm_fg
      by_cases e : cs_s S k % 10 = x
      · subst e
        refine ⟨?_, ?_, ?_⟩
        · rw [pk_un (by omega), pk_un (by omega), pk_us]
        · rw [pk_un (by omega), pk_us]
        · rw [pk_us]
      · obtain ⟨m, h1, h2, h3⟩ := hm
        have hmk : m ≠ k := fun z => e (by rw [← z]; exact h3)
        obtain ⟨q1, q2, q3⟩ := g4 x hx9 ⟨m, h1, by omega, h3⟩
        refine ⟨?_, ?_, ?_⟩
        · rw [pk_un (by omega), pk_un (by omega), pk_un (by omega)]; exact q1
        · rw [pk_un (by omega), pk_un (by omega), pk_un (by omega)]; exact q2
        · rw [pk_un (by omega), pk_un (by omega), pk_un (by omega)]; exact q3
theorem cr_gb (h : crp y S f) {m : Nat} (hm : m ≤ cs_pv S (cs_g S)) : crp y (cs_gb S (nI m)) (cm_gbk (nI m) (cs_g S) f) ∧ (cm_gb (nI m) (cs_g S) 0 0 f).1 = cs_gbn S (nI m) (cs_g S) := by
  have h9 := cr_k9 h.1
  have g9 := cr_g9 h.1
  have hpv := cr_pv_le h.1
  obtain ⟨a1, a2, a3⟩ := cs_gbn_spec h.1 (m := m) (by omega) (cs_g S) (Nat.le_refl _)
  have hbv := fun i (hi : i < 32) => cs_gbv_bt h.1 (nI m) hi (cs_g S) (cs_va S) (Nat.le_refl _)
  have hll : ∀ k, k < cs_g S → cs_l S k < 2 ^ 31 := fun k hk => by have := (h.1.2.2.1.1 k hk).2.2.2; omega
  have hst : ∀ k, k < cs_gbn S (nI m) (cs_g S) → cs_lv S k ≤ nI m := fun k hk => by
    rw [(h.1.2.2.1.1 k (by omega)).2.2.1]; exact nI_le (a2 k hk) (by omega)
  have hgo : ∀ k, cs_gbn S (nI m) (cs_g S) ≤ k → k < cs_g S → ¬ cs_lv S k ≤ nI m := fun k h1 h2 => by
    rw [(h.1.2.2.1.1 k h2).2.2.1]; exact nI_ge (a3 k h1 h2) (hll k h2)
  have e1 := cm_gb_stay h (nI m) a1 hst (cs_gbn S (nI m) (cs_g S)) 0 (by omega)
  rw [Nat.sub_zero] at e1
  obtain ⟨e2, e3⟩ := cm_gb_go h (nI m) hgo (cs_g S - cs_gbn S (nI m) (cs_g S)) (cs_gbn S (nI m) (cs_g S)) f (by omega) (Nat.le_refl _) ⟨fun _ _ => rfl, fun _ _ => rfl, fun _ _ _ => ⟨rfl, rfl, rfl⟩, fun x _ ⟨k, h1, h2, _⟩ => by omega⟩
  rw [← e1] at e2 e3
  refine ⟨?_, e2⟩
  have hB2 := cs_Bd_gb h.1.1.1 (nI m)
  -- the level that is left is m
  have hlast : cs_gbn S (nI m) (cs_g S) = 0 → m = 0 := fun z => by
    by_cases c : cs_g S = 0
    · unfold cs_pv at hm; rw [if_pos c] at hm; omega
    · have := a3 0 (by omega) (by omega)
      have := (h.1.2.2.1.1 0 (by omega)).2.2.2
      omega
  have hlast2 : cs_gbn S (nI m) (cs_g S) ≠ 0 → cs_l S (cs_gbn S (nI m) (cs_g S) - 1) = m := fun z => by
    have q := a2 (cs_gbn S (nI m) (cs_g S) - 1) (by omega)
    by_cases c : cs_gbn S (nI m) (cs_g S) = cs_g S
    · rw [c] at q ⊢
      unfold cs_pv at hm
      rw [if_neg (by omega)] at hm
      omega
    · have q2 := a3 (cs_gbn S (nI m) (cs_g S)) (Nat.le_refl _) (by omega)
      have q3 := (cr_mono1 h.1 (k := cs_gbn S (nI m) (cs_g S)) (by omega)).2
      unfold cs_pv at q3
      rw [if_neg z] at q3
      omega
  have e0 : cs_gb S (nI m) = cs_wgv S (nI (cs_gbn S (nI m) (cs_g S))) (cs_gbv S (nI m) (cs_g S) (cs_va S)) := rfl
  have ef : cm_gbk (nI m) (cs_g S) f = upd (upd (cm_zt (cm_gb (nI m) (cs_g S) 0 0 f).2 (cm_gb (nI m) (cs_g S) 0 0 f).1 9) 7 (nI (cm_gb (nI m) (cs_g S) 0 0 f).1)) 6 (nI m) := rfl
  rw [ef, e2]
  rw [e0] at hB2 ⊢
  generalize cs_gbn S (nI m) (cs_g S) = a at *
  generalize (cm_gb (nI m) (cs_g S) 0 0 f).2 = f2 at e3 ⊢
  generalize cs_gbv S (nI m) (cs_g S) (cs_va S) = va2 at *
  clear e1 e2 ef hst hgo
  obtain ⟨⟨hIs, hIc, hIt, hIr⟩, hF0, hFc, hFt, hFx⟩ := h
  obtain ⟨S', hS'⟩ : ∃ S', S' = cs_wgv S (nI a) va2 := ⟨_, rfl⟩
  rw [← hS'] at hB2 ⊢
  have fg : cs_g S' = a := cs_g_nI (by rw [hS']) (by omega)
  have ft : cs_t S' = cs_t S := by rw [hS']; rfl
  have fn : cs_n S' = cs_n S := by rw [hS']; rfl
  have fk : cs_k S' = cs_k S := by rw [hS']; rfl
  have fcl : cs_cl S' = cs_cl S := by rw [hS']
  have fsg : cs_sg S' = cs_sg S := by rw [hS']
  have flv : cs_lv S' = cs_lv S := by rw [hS']
  have frs : cs_rs S' = cs_rs S := by rw [hS']
  have fva : cs_va S' = va2 := by rw [hS']
  have s1 : cs_s S' = cs_s S := by funext k; unfold cs_s; rw [fsg]
  have l1 : cs_l S' = cs_l S := by funext k; unfold cs_l; rw [flv]
  have p1 : cs_pv S' = cs_pv S := by funext k; unfold cs_pv; rw [l1]
  have uni : ∀ j k, j < cs_g S → k < cs_g S → cs_s S j % 10 = cs_s S k % 10 → j = k := by
    intro j k hj hk e
    rcases Nat.lt_trichotomy j k with q | q | q
    · exact absurd e (hIt.2.1 j k q hk)
    · exact q
    · exact absurd e.symm (hIt.2.1 k j q hj)
  obtain ⟨g1, g2, g3, g4⟩ := e3
  have zt : ∀ j, j < 10 ∨ 19 ≤ j → j ≠ 7 → j ≠ 6 → upd (upd (cm_zt f2 a 9) 7 (nI a)) 6 (nI m) j = f2 j := fun j hj h7 h6 => by
    rw [pk_un h6, pk_un h7]; unfold cm_zt; rw [if_neg (by omega)]
  refine ⟨⟨⟨hB2, by rw [fk]; exact hIs.2.1, by rw [hS']; exact hIs.2.2.1, by rw [hS']; exact hIs.2.2.2.1, by rw [hS']; exact hIs.2.2.2.2⟩, fun k hk => ?_, ⟨fun k hk => ?_, fun j k hjk hk => ?_, fun j hj => ?_⟩, fun k hk => ?_⟩, ⟨?_, ?_, ?_, ?_, ?_, ?_, ?_, ?_, ?_, ?_⟩, fun k hk => ?_, fun k hk => ?_, fun x hx9 hxk => ?_⟩
  · rw [ft, fn] at hk; rw [fk, fcl]; exact hIc k hk
  · rw [fg] at hk; rw [s1, l1, fk, fsg, flv]; exact hIt.1 k (by omega)
  · rw [fg] at hk; rw [s1]; exact hIt.2.1 j k hjk (by omega)
  · rw [fg, fva, hbv j hj, hIt.2.2 j hj, s1]
    constructor
    · rintro ⟨⟨k, hk, e⟩, b⟩
      refine ⟨k, ?_, e⟩
      rcases Nat.lt_or_ge k a with q | q
      · exact q
      · exact absurd e (b k q hk)
    · rintro ⟨k, hk, e⟩
      refine ⟨⟨k, by omega, e⟩, fun j h1 h2 z => ?_⟩
      have := uni j k h2 (by omega) (by rw [z, e])
      omega
  · rw [fg] at hk
    unfold cr_r
    rw [l1, p1, frs, fcl, s1, ft, fn]
    exact hIr k (by omega)
  · rw [zt 0 (by omega) (by omega) (by omega), g1 0 (by omega), hS']; exact hF0.1
  · rw [zt 1 (by omega) (by omega) (by omega), g1 1 (by omega), hS']; exact hF0.2.1
  · rw [zt 2 (by omega) (by omega) (by omega), g1 2 (by omega), hS']; exact hF0.2.2.1
  · rw [zt 3 (by omega) (by omega) (by omega), g1 3 (by omega), hS']; exact hF0.2.2.2.1
  · rw [zt 4 (by omega) (by omega) (by omega), g1 4 (by omega), hS']; exact hF0.2.2.2.2.1
  · rw [zt 5 (by omega) (by omega) (by omega), g1 5 (by omega), hS']; exact hF0.2.2.2.2.2.1
  · rw [pk_us, fg]
    unfold cs_pl
    by_cases z : a = 0
    · rw [if_pos z, hlast z]
    · rw [if_neg z, flv, (hIt.1 (a - 1) (by omega)).2.2.1, hlast2 z]
  · rw [pk_un (by omega), pk_us, hS']
  · rw [zt 8 (by omega) (by omega) (by omega), g1 8 (by omega), hS']; exact hF0.2.2.2.2.2.2.2.2.1
  · rw [zt 9 (by omega) (by omega) (by omega), g1 9 (by omega)]; exact hF0.2.2.2.2.2.2.2.2.2
  · rw [ft, fn] at hk
    rw [zt _ (by omega) (by omega) (by omega), g2 _ (by omega), fcl]; exact hFc k hk
  · rw [fg] at hk
    have hs := cr_sg9 h9 (hIt.1 k (by omega)).2.1
    obtain ⟨b1, b2, b3, b4⟩ := hFt k (by omega)
    obtain ⟨q1, q2, q3⟩ := g3 (cs_s S k % 10) (by omega) (fun j h1 h2 z => by have := uni j k h2 (by omega) z; omega)
    rw [s1, flv, frs]
    refine ⟨?_, ?_, ?_, ?_⟩
    · rw [pk_un (by omega), pk_un (by omega)]; unfold cm_zt; rw [if_neg (by omega), g1 _ (by omega)]; exact b1
    · rw [zt _ (by omega) (by omega) (by omega), q1]; exact b2
    · rw [zt _ (by omega) (by omega) (by omega), q2]; exact b3
    · rw [zt _ (by omega) (by omega) (by omega), q3]; exact b4
  · rw [fg, s1] at hxk
    rw [zt _ (by omega) (by omega) (by omega), zt _ (by omega) (by omega) (by omega), zt _ (by omega) (by omega) (by omega)]
    by_cases c : ∃ j, a ≤ j ∧ j < cs_g S ∧ cs_s S j % 10 = x
    · exact g4 x hx9 c
    · obtain ⟨q1, q2, q3⟩ := g3 x hx9 (fun j h1 h2 z => c ⟨j, h1, h2, z⟩)
      rw [q1, q2, q3]
      refine hFx x hx9 (fun k hk z => ?_)
      rcases Nat.lt_or_ge k a with q | q
      · exact hxk k q z
      · exact c ⟨k, q, hk, z⟩
end CR4
end
section
/-! what a conflict gives -/
theorem fb_two {p : Nat → Bool} : ∀ {n : Nat}, fb_ct p n ≤ 1 ↔ ∀ i j, i < j → j < n → ¬ (p i = true ∧ p j = true)
  | 0 => ⟨fun _ i j _ h => absurd h (Nat.not_lt_zero j), fun _ => Nat.zero_le _⟩
  | n + 1 => by
    have ih := fb_two (p := p) (n := n)
    rw [fb_ct_succ]
    constructor
    · intro h i j hij hj ⟨a, b⟩
      by_cases e : j = n
      · subst e
        rw [if_pos b] at h
        have := fb_ct_zero.mp (show fb_ct p j = 0 by omega) i hij
        rw [a] at this; cases this
      · exact ih.mp (by omega) i j hij (by omega) ⟨a, b⟩
    · intro h
      have h1 := ih.mpr (fun i j hij hj => h i j hij (by omega))
      cases b : p n with
      | false => rw [if_neg (by decide)]; exact h1
      | true =>
        have h0 : fb_ct p n = 0 := fb_ct_zero.mpr (fun k hk => by
          cases a : p k with
          | false => rfl
          | true => exact absurd ⟨a, b⟩ (h k n hk (by omega)))
        rw [h0]; exact Nat.le_refl _
theorem cm_pi_ct (f : Nat → Int32) (c : Int32) : ∀ n k a, cm_pi f c n k a + fb_ct (cm_at f c) k = a + fb_ct (cm_at f c) (k + n)
  | 0, k, a => rfl
  | n + 1, k, a => by
    have ih := cm_pi_ct f c n (k + 1) (a + (if cm_at f c k then 1 else 0))
    unfold cm_pi
    rw [fb_ct_succ, show k + 1 + n = k + (n + 1) by omega] at ih
    omega
/-- the last place with a property -/
theorem cm_li_last (f : Nat → Int32) (c : Int32) {p : Nat} (hp : cm_at f c p = true) : ∀ n k a, k ≤ p → p < k + n → (∀ j, p < j → j < k + n → cm_at f c j = false) → cm_li f c n k a = nI (cm_x f p)
  | 0, k, a, h1, h2, _ => by omega
  | n + 1, k, a, h1, h2, h3 => by
    unfold cm_li
    by_cases e : k = p
    · subst e
      rw [if_pos hp]
      have none : ∀ m j a, (∀ i, j ≤ i → i < j + m → cm_at f c i = false) → cm_li f c m j a = a := by
        intro m
        induction m with
        | zero => intro j a _; rfl
        | succ m ih =>
          intro j a hj
          unfold cm_li
          rw [if_neg (by rw [hj j (Nat.le_refl _) (by omega)]; decide)]
          exact ih (j + 1) a (fun i h4 h5 => hj i (by omega) (by omega))
      exact none n (k + 1) _ (fun i h4 h5 => h3 i (by omega) (by omega))
    · exact cm_li_last f c hp n (k + 1) _ (by omega) (by omega) (fun j h4 h5 => h3 j h4 (by omega))
section CR5
variable {y : Int32} {S : cs_S} {f : Nat → Int32}
/-- all signs of the clause are against the trail -/
def cr_fl (S : cs_S) (c : Int32) : Prop := ∀ i, i < 32 → bt c i = true → cr_sg (cs_k S) i ∧ ∃ k, k < cs_g S ∧ cs_s S k = cr_op i
theorem cr_uni (h : cr_I S) {j k : Nat} (hj : j < cs_g S) (hk : k < cs_g S) (e : cs_s S j % 10 = cs_s S k % 10) : j = k := by
  rcases Nat.lt_trichotomy j k with q | q | q
  · exact absurd e (h.2.2.1.2.1 j k q hk)
  · exact q
  · exact absurd e.symm (h.2.2.1.2.1 k j q hj)
theorem cr_fl_not (h : cr_I S) {c : Int32} (hc : cr_fl S c) {k : Nat} (hk : k < cs_g S) : bt c (cs_s S k) = false := by
  have h9 := cr_k9 h
  have hs := (h.2.2.1.1 k hk).2.1
  have q := cr_sg9 h9 hs
  cases b : bt c (cs_s S k) with
  | false => rfl
  | true =>
    obtain ⟨-, j, hj, e⟩ := hc _ (by omega) b
    have := cr_uni h hj hk (by rw [e]; exact cr_op_mod (by omega))
    subst this
    unfold cr_op at e
    split at e <;> omega
theorem cr_fl_c (h : cr_I S) {c : Int32} (hc : cr_fl S c) : cr_c (cs_k S) c := by
  have h9 := cr_k9 h
  refine ⟨fun i hi hb => (hc i hi hb).1, fun i h1 h2 ⟨a, b⟩ => ?_⟩
  obtain ⟨-, k, hk, e⟩ := hc i (by omega) a
  have := cr_fl_not h hc hk
  rw [e] at this
  unfold cr_op at this
  rw [if_pos (by omega), b] at this
  cases this
theorem cr_fl_of (h : cr_I S) {k : Nat} (hk : k < cs_t S + cs_n S) (hp : cr_P S 0 k = true) : cr_fl S (cs_cl S k) := by
  have hc := h.2.1 k hk
  have h9 := cr_k9 h
  unfold cr_P at hp
  rw [Bool.and_eq_true, Bool.not_eq_true', decide_eq_true_eq] at hp
  intro i hi hb
  have hs := hc.1 i hi hb
  have q := cr_sg9 h9 hs
  refine ⟨hs, ?_⟩
  have hv : bt (cs_va S) i = false := by
    cases b : bt (cs_va S) i with
    | false => rfl
    | true =>
      have : cs_tr S (cs_cl S k) = true := decide_eq_true (cb_meet.mpr ⟨i, hi, hb, b⟩)
      rw [hp.1] at this; cases this
  have ho := fb_ct_zero.mp hp.2 i (by omega)
  have hv2 : bt (cs_va S) (cr_op i) = true := by
    cases b : bt (cs_va S) (cr_op i) with
    | true => rfl
    | false => rw [(cr_op_bt h hc hi).mpr ⟨hb, hv, b⟩] at ho; cases ho
  have := cr_sg9 h9 (cr_sg_op h9 hs)
  exact (h.2.2.1.2.2 (cr_op i) (by omega)).mp hv2
theorem cm_x_s (h : crp y S f) {k : Nat} (hk : k < cs_g S) : cm_x f k = cs_s S k % 10 := by
  unfold cm_x; rw [(h.2.2.2.1 k hk).1, nI_clamp (by omega)]
theorem cm_so_none {c : Int32} {k : Nat} (hk : k ≤ 9) : cm_so c k = -nI 6 ↔ bt c k = false ∧ bt c (k + 10) = false := by
  unfold cm_so
  cases a : bt c k with
  | true =>
    rw [if_pos rfl]
    exact ⟨fun q => absurd q (cm_n6 (by omega)), fun q => by cases q.1⟩
  | false =>
    rw [if_neg (by decide)]
    cases b : bt c (k + 10) with
    | true =>
      rw [if_pos rfl]
      exact ⟨fun q => absurd q (cm_n6 (by omega)), fun q => by cases q.2⟩
    | false => rw [if_neg (by decide)]; exact ⟨fun _ => ⟨rfl, rfl⟩, fun _ => rfl⟩
/-- a thing of the trail has a sign in the clause just where the sign's opposite is there -/
theorem cr_so (h : crp y S f) {c : Int32} (hc : cr_fl S c) {k : Nat} (hk : k < cs_g S) : (cm_so c (cs_s S k % 10) = -nI 6) ↔ bt c (cr_op (cs_s S k)) = false := by
  have h9 := cr_k9 h.1
  have hs := (h.1.2.2.1.1 k hk).2.1
  have q := cr_sg9 h9 hs
  have hn := cr_fl_not h.1 hc hk
  rw [cm_so_none (by omega)]
  unfold cr_op
  rcases hs with e | e
  · rw [if_pos (by omega), Nat.mod_eq_of_lt (by omega)]
    exact ⟨fun q => q.2, fun q => ⟨hn, q⟩⟩
  · rw [if_neg (by omega), show cs_s S k % 10 = cs_s S k - 10 by omega, show cs_s S k - 10 + 10 = cs_s S k by omega]
    exact ⟨fun q => q.1, fun q => ⟨q, hn⟩⟩
theorem cr_at (h : crp y S f) {c : Int32} (hc : cr_fl S c) {k : Nat} (hk : k < cs_g S) : cm_at f c k = true ↔ cs_lv S k = cs_pl S (cs_g S) ∧ bt c (cr_op (cs_s S k)) = true := by
  unfold cm_at
  rw [cm_x_s h hk, (h.2.2.2.1 k hk).2.2.1, h.2.1.2.2.2.2.2.2.1, Bool.and_eq_true, decide_eq_true_eq, Bool.not_eq_true', decide_eq_false_iff_not, cr_so h hc hk, Bool.not_eq_false]
/-- the signs of the present level -/
theorem cs_spl_bt (h : cr_I S) {i : Nat} (hi : i < 32) : ∀ n k a, k + n = cs_g S → (bt (cs_spl S n k a) i = true ↔ bt a i = true ∨ ∃ j, k ≤ j ∧ j < cs_g S ∧ cs_lv S j = cs_pl S (cs_g S) ∧ cs_s S j = i)
  | 0, k, a, hk => by
    unfold cs_spl
    exact ⟨Or.inl, fun q => q.elim id (fun ⟨j, h1, h2, _⟩ => by omega)⟩
  | n + 1, k, a, hk => by
    have h9 := cr_k9 h
    obtain ⟨e1, e2, -⟩ := h.2.2.1.1 k (by omega)
    have e3 := cr_sg9 h9 e2
    unfold cs_spl
    rw [cs_spl_bt h hi n (k + 1) _ (by omega)]
    by_cases c : cs_lv S k = cs_pl S (cs_g S)
    · rw [if_pos c, b_or, e1, cb_set_bt (by omega) hi, Bool.or_eq_true, decide_eq_true_eq]
      constructor
      · rintro ((q | q) | ⟨j, h1, h2, h3⟩)
        · exact Or.inl q
        · exact Or.inr ⟨k, by omega, by omega, c, q.symm⟩
        · exact Or.inr ⟨j, by omega, h2, h3⟩
      · rintro (q | ⟨j, h1, h2, h3, h4⟩)
        · exact Or.inl (Or.inl q)
        · by_cases e : j = k
          · subst e; exact Or.inl (Or.inr h4.symm)
          · exact Or.inr ⟨j, by omega, h2, h3, h4⟩
    · rw [if_neg c]
      constructor
      · rintro (q | ⟨j, h1, h2, h3⟩)
        · exact Or.inl q
        · exact Or.inr ⟨j, by omega, h2, h3⟩
      · rintro (q | ⟨j, h1, h2, h3, h4⟩)
        · exact Or.inl q
        · by_cases e : j = k
          · subst e; exact absurd h3 c
          · exact Or.inr ⟨j, by omega, h2, h3, h4⟩
def cr_ps (S : cs_S) : Int32 := cb_op (cs_spl S (cs_g S) 0 (nI 0))
theorem cr_ps_bt (h : cr_I S) {i : Nat} (hi : i < 32) : bt (cr_ps S) i = true ↔ cr_sg 9 i ∧ ∃ j, j < cs_g S ∧ cs_lv S j = cs_pl S (cs_g S) ∧ cs_s S j = cr_op i := by
  have h9 := cr_k9 h
  have key : ∀ i, i < 32 → (bt (cs_spl S (cs_g S) 0 (nI 0)) i = true ↔ ∃ j, j < cs_g S ∧ cs_lv S j = cs_pl S (cs_g S) ∧ cs_s S j = i) := fun i hi => by
    rw [cs_spl_bt h hi (cs_g S) 0 (nI 0) (by omega)]
    constructor
    · rintro (q | ⟨j, -, h2, h3⟩)
      · rw [show nI 0 = 0 from rfl, b_0] at q; cases q
      · exact ⟨j, h2, h3⟩
    · rintro ⟨j, h2, h3⟩
      exact Or.inr ⟨j, Nat.zero_le _, h2, h3⟩
  unfold cr_ps
  rw [cb_op_bt (fun i hi hb => by
    obtain ⟨j, hj, -, rfl⟩ := (key i hi).mp hb
    exact cr_sg_mono h9 (h.2.2.1.1 j hj).2.1) hi]
  constructor
  · rintro ⟨a, b⟩
    have := cr_sg9 (Nat.le_refl 9) (cr_sg_op (Nat.le_refl 9) a)
    exact ⟨a, (key _ (by omega)).mp b⟩
  · rintro ⟨a, b⟩
    have := cr_sg9 (Nat.le_refl 9) (cr_sg_op (Nat.le_refl 9) a)
    exact ⟨a, (key _ (by omega)).mpr b⟩
/-- at most one sign of the present level, counted both ways -/
theorem cr_cnt (h : crp y S f) {c : Int32} (hc : cr_fl S c) : cb_bc (c &&& cr_ps S) ≤ nI 1 ↔ cm_pi f c (cs_g S) 0 0 ≤ 1 := by
  have h9 := cr_k9 h.1
  have hlo : cn_lo (c &&& cr_ps S) := by
    intro i h1 h2
    rw [b_and]
    cases b : bt c i with
    | false => rfl
    | true => have := cr_sg9 h9 (hc i h2 b).1; omega
  have hle := fb_ct_le (bt (c &&& cr_ps S)) 20
  have e1 := cm_pi_ct f c (cs_g S) 0 0
  rw [Nat.zero_add, Nat.zero_add, show fb_ct (cm_at f c) 0 = 0 from rfl, Nat.add_zero] at e1
  rw [cb_pop hlo, nI_leI (by omega) (by omega), e1, fb_two, fb_two]
  have bits : ∀ i, i < 20 → (bt (c &&& cr_ps S) i = true ↔ ∃ k, k < cs_g S ∧ cm_at f c k = true ∧ cs_s S k = cr_op i ∧ cr_sg (cs_k S) i) := by
    intro i hi
    rw [b_and, Bool.and_eq_true, cr_ps_bt h.1 (by omega)]
    constructor
    · rintro ⟨a, b, k, hk, e1, e2⟩
      have hs := (hc i (by omega) a).1
      refine ⟨k, hk, (cr_at h hc hk).mpr ⟨e1, ?_⟩, e2, hs⟩
      rw [e2, cr_op_op h9 hs]; exact a
    · rintro ⟨k, hk, a, e, hs⟩
      obtain ⟨a1, a2⟩ := (cr_at h hc hk).mp a
      rw [e, cr_op_op h9 hs] at a2
      exact ⟨a2, cr_sg_mono h9 hs, k, hk, a1, e⟩
  constructor
  · intro hn i j hij hj ⟨a, b⟩
    have q1 := (cr_at h hc (show i < cs_g S by omega)).mp a
    have q2 := (cr_at h hc hj).mp b
    have s1 := cr_sg9 h9 (cr_sg_op h9 (h.1.2.2.1.1 i (by omega)).2.1)
    have s2 := cr_sg9 h9 (cr_sg_op h9 (h.1.2.2.1.1 j hj).2.1)
    have b1 := (bits (cr_op (cs_s S i)) (by omega)).mpr ⟨i, by omega, a, (cr_op_op h9 (h.1.2.2.1.1 i (by omega)).2.1).symm, cr_sg_op h9 (h.1.2.2.1.1 i (by omega)).2.1⟩
    have b2 := (bits (cr_op (cs_s S j)) (by omega)).mpr ⟨j, hj, b, (cr_op_op h9 (h.1.2.2.1.1 j hj).2.1).symm, cr_sg_op h9 (h.1.2.2.1.1 j hj).2.1⟩
    have hne : cr_op (cs_s S i) ≠ cr_op (cs_s S j) := by
      intro e
      have e2 := congrArg cr_op e
      rw [cr_op_op h9 (h.1.2.2.1.1 i (by omega)).2.1, cr_op_op h9 (h.1.2.2.1.1 j hj).2.1] at e2
      have := cr_uni h.1 (j := i) (k := j) (by omega) hj (by rw [e2])
      omega
    rcases Nat.lt_or_ge (cr_op (cs_s S i)) (cr_op (cs_s S j)) with z | z
    · exact hn _ _ z (by omega) ⟨b1, b2⟩
    · exact hn _ _ (show cr_op (cs_s S j) < cr_op (cs_s S i) by omega) (by omega) ⟨b2, b1⟩
  · intro hn i j hij hj ⟨a, b⟩
    obtain ⟨k1, hk1, a1, e1, s1⟩ := (bits i (by omega)).mp a
    obtain ⟨k2, hk2, a2, e2, s2⟩ := (bits j hj).mp b
    have hne : k1 ≠ k2 := by
      rintro rfl
      have := congrArg cr_op (e1.symm.trans e2)
      rw [cr_op_op h9 s1, cr_op_op h9 s2] at this
      omega
    rcases Nat.lt_or_ge k1 k2 with z | z
    · exact hn _ _ z hk2 ⟨a1, a2⟩
    · exact hn _ _ (show k2 < k1 by omega) hk1 ⟨a2, a1⟩
theorem cb_hs_bt {x : Int32} {k : Nat} (hk : k < 32) : cb_hs x (nI k) = bt x k := by
  unfold cb_hs
  cases b : bt x k with
  | false => exact decide_eq_false (fun q => q ((cb_has hk).mpr b))
  | true => exact decide_eq_true (fun q => by rw [(cb_has hk).mp q] at b; cases b)
theorem cb_opp_nI {i : Nat} (h : i < 20) : cb_opp (nI i) = nI (cr_op i) := by
  unfold cb_opp cr_op
  by_cases c : i < 10
  · rw [if_pos c, if_pos (nI_lt c (by omega)), nI_add]
  · rw [if_neg c, if_neg (nI_nlt (by omega) (by omega)), pk_sub (by omega)]
theorem cm_wo_bt {c : Int32} {x i : Nat} (hx : x ≤ 9) (hi : i < 32) : bt (cm_wo c (nI x)) i = (bt c i && (decide (i ≠ x) && decide (i ≠ x + 10))) := by
  unfold cm_wo
  rw [nI_add, b_and, b_xor, b_or, cb_one (by omega) hi, cb_one (by omega) hi, cb_m1bt i hi]
  by_cases a : i = x
  · simp [a]
  · by_cases b : i = x + 10
    · simp [b]
    · simp [a, b]
/-- the clause that is learnt, both ways -/
theorem cr_coo (h : crp y S f) : ∀ n c, n ≤ cs_g S → cr_fl S c → (∀ k, n ≤ k → k < cs_g S → cs_lv S k = cs_pl S (cs_g S) → bt c (cr_op (cs_s S k)) = false) → ∀ N, n < N → cm_ln f (cs_g S) N c = some (cs_coo S (cr_ps S) n c) ∧ cr_fl S (cs_coo S (cr_ps S) n c)
  | 0, c, hn, hc, hk, N, hN => by
    obtain ⟨M, rfl⟩ : ∃ M, N = M + 1 := ⟨N - 1, by omega⟩
    have e1 := cm_pi_ct f c (cs_g S) 0 0
    rw [Nat.zero_add, Nat.zero_add, show fb_ct (cm_at f c) 0 = 0 from rfl, Nat.add_zero] at e1
    have z : fb_ct (cm_at f c) (cs_g S) = 0 := fb_ct_zero.mpr (fun k hk2 => by
      cases b : cm_at f c k with
      | false => rfl
      | true =>
        obtain ⟨a1, a2⟩ := (cr_at h hc hk2).mp b
        rw [hk k (Nat.zero_le _) hk2 a1] at a2
        cases a2)
    unfold cm_ln cs_coo
    rw [if_pos (by omega)]
    exact ⟨rfl, hc⟩
  | n + 1, c, hn, hc, hk, N, hN => by
    have h9 := cr_k9 h.1
    obtain ⟨M, rfl⟩ : ∃ M, N = M + 1 := ⟨N - 1, by omega⟩
    obtain ⟨es, hs, el, -⟩ := h.1.2.2.1.1 n (by omega)
    have hs9 := cr_sg9 h9 hs
    have ho := cr_sg_op h9 hs
    have ho9 := cr_sg9 h9 ho
    unfold cs_coo
    by_cases d : cb_bc (c &&& cr_ps S) ≤ nI 1
    · rw [if_pos d]
      unfold cm_ln
      rw [if_pos ((cr_cnt h hc).mp d)]
      exact ⟨rfl, hc⟩
    · rw [if_neg d, es, cb_opp_nI (by omega), cb_hs_bt (by omega)]
      cases b : bt c (cr_op (cs_s S n)) with
      | false =>
        rw [if_neg (by decide)]
        refine cr_coo h n c (by omega) hc (fun k h1 h2 h3 => ?_) (M + 1) (by omega)
        by_cases e : k = n
        · subst e; exact b
        · exact hk k (by omega) h2 h3
      | true =>
        rw [if_pos rfl]
        have hpi : ¬ cm_pi f c (cs_g S) 0 0 ≤ 1 := fun q => d ((cr_cnt h hc).mpr q)
        have e1 := cm_pi_ct f c (cs_g S) 0 0
        rw [Nat.zero_add, Nat.zero_add, show fb_ct (cm_at f c) 0 = 0 from rfl, Nat.add_zero] at e1
        -- two places of the present level: the last one is n
        have htwo : ∃ i j, i < j ∧ j < cs_g S ∧ cm_at f c i = true ∧ cm_at f c j = true := by
          refine Classical.byContradiction fun q => hpi ?_
          rw [e1, fb_two]
          exact fun i j h1 h2 h3 => q ⟨i, j, h1, h2, h3⟩
        obtain ⟨i, j, hij, hj, ai, aj⟩ := htwo
        have qi := (cr_at h hc (show i < cs_g S by omega)).mp ai
        have qj := (cr_at h hc hj).mp aj
        have below : ∀ k, k < cs_g S → cm_at f c k = true → k ≤ n := fun k hk2 a => by
          refine Classical.byContradiction fun q => ?_
          obtain ⟨a1, a2⟩ := (cr_at h hc hk2).mp a
          rw [hk k (by omega) hk2 a1] at a2
          cases a2
        have hjn := below j hj aj
        have hin : i < n := by omega
        -- levels
        have hpl := cr_pl h.1
        have li : cs_l S i = cs_pv S (cs_g S) := by
          have := (h.1.2.2.1.1 i (by omega)).2.2
          have hpv := cr_pv_le h.1
          have g9 := cr_g9 h.1
          exact (nI_eq (by omega) (by omega)).mp (by rw [← this.1, qi.1, hpl])
        have lgn : cs_l S n ≤ cs_pv S (cs_g S) := by
          unfold cs_pv
          rw [if_neg (by omega)]
          exact cr_mono h.1 _ (by omega) (by omega)
        have lin := cr_mono h.1 (j := i) n (by omega) (by omega)
        have eln : cs_l S n = cs_pv S (cs_g S) := by omega
        have an : cm_at f c n = true := (cr_at h hc (by omega)).mpr ⟨by rw [el, hpl, eln], b⟩
        have hli : cm_li f c (cs_g S) 0 (-nI 6) = nI (cs_s S n % 10) := by
          rw [cm_li_last f c an (cs_g S) 0 (-nI 6) (by omega) (by omega) (fun k h1 h2 => ?_), cm_x_s h (by omega)]
          cases z : cm_at f c k with
          | false => rfl
          | true => have := below k (by omega) z; omega
        -- the reason
        have hpvn : cs_l S i ≤ cs_pv S n := by
          unfold cs_pv
          rw [if_neg (by omega)]
          exact cr_mono h.1 (n - 1) (by omega) (by omega)
        obtain ⟨-, cc, hcc, er, br, orr⟩ : cs_l S n = cs_pv S n ∧ ∃ c, c < cs_t S + cs_n S ∧ cs_rs S n = nI c ∧ bt (cs_cl S c) (cs_s S n) = true ∧ ∀ i, i < 32 → bt (cs_cl S c) i = true → i = cs_s S n ∨ ∃ j, j < n ∧ cs_s S j = cr_op i := by
          rcases h.1.2.2.2 n (by omega) with z | z
          · exact z
          · omega
        have hB := h.1.1.1
        have hcc60 : cc < 60 := by have := hB.2.1.2; have := hB.2.2.1.2; omega
        have eca : cs_ca S (cs_rs S n) = cs_cl S cc := by
          unfold cs_ca
          rw [er, if_neg (nI_pos (by omega)), if_neg (nI_ge hcc60 (by omega)), nI_clamp (by omega)]
        have erc : cm_rc f (nI (cs_s S n % 10)) = cs_cl S cc := by
          unfold cm_rc
          rw [nI_add, nI_clamp (by omega), (h.2.2.2.1 n (by omega)).2.2.2, er, nI_add, nI_clamp (by omega)]
          exact h.2.2.1 cc hcc
        have hrc := h.1.2.1 cc hcc
        have nboth : bt (cs_cl S cc) (cr_op (cs_s S n)) = false := by
          cases z : bt (cs_cl S cc) (cr_op (cs_s S n)) with
          | false => rfl
          | true =>
            exfalso
            rcases hs with e | e
            · refine hrc.2 (cs_s S n) (by omega) (by omega) ⟨br, ?_⟩
              unfold cr_op at z
              rw [if_pos (by omega)] at z; exact z
            · refine hrc.2 (cs_s S n - 10) (by omega) (by omega) ⟨?_, ?_⟩
              · unfold cr_op at z
                rw [if_neg (by omega)] at z; exact z
              · rw [show cs_s S n - 10 + 10 = cs_s S n by omega]; exact br
        have nown := cr_fl_not h.1 hc (show n < cs_g S by omega)
        have hxx : ∀ i, i < 32 → ((i = cs_s S n % 10 ∨ i = cs_s S n % 10 + 10) ↔ (i = cs_s S n ∨ i = cr_op (cs_s S n))) := by
          intro i hi
          unfold cr_op
          rcases hs with e | e
          · rw [if_pos (by omega), Nat.mod_eq_of_lt (show cs_s S n < 10 by omega)]
          · rw [if_neg (by omega), show cs_s S n % 10 = cs_s S n - 10 by omega, show cs_s S n - 10 + 10 = cs_s S n by omega]
            exact or_comm
        -- the same new clause
        have enew : cm_wo c (nI (cs_s S n % 10)) ||| cm_wo (cs_cl S cc) (nI (cs_s S n % 10)) = (c &&& (cb_set (nI (cr_op (cs_s S n))) ^^^ (-nI 1))) ||| (cs_ca S (cs_rs S n) &&& (cb_set (nI (cs_s S n)) ^^^ (-nI 1))) := by
          rw [eca]
          apply b_ext
          intro i hi
          rw [b_or, b_or, cm_wo_bt (by omega) hi, cm_wo_bt (by omega) hi, b_and, b_and, b_xor, b_xor, cb_set_bt (by omega) hi, cb_set_bt (by omega) hi, cb_m1bt i hi]
          have := hxx i hi
          by_cases z1 : i = cs_s S n
          · rw [z1, nown]
            have : ¬ (cs_s S n ≠ cs_s S n % 10 ∧ cs_s S n ≠ cs_s S n % 10 + 10) := fun q => by
              rcases (hxx (cs_s S n) (by omega)).mpr (Or.inl rfl) with e | e
              · exact q.1 e
              · exact q.2 e
            have t : (decide (cs_s S n ≠ cs_s S n % 10) && decide (cs_s S n ≠ cs_s S n % 10 + 10)) = false := by
              cases w : (decide (cs_s S n ≠ cs_s S n % 10) && decide (cs_s S n ≠ cs_s S n % 10 + 10)) with
              | false => rfl
              | true => rw [Bool.and_eq_true, decide_eq_true_eq, decide_eq_true_eq] at w; exact absurd w this
            rw [t]; simp
          · by_cases z2 : i = cr_op (cs_s S n)
            · rw [z2, nboth]
              have : ¬ (cr_op (cs_s S n) ≠ cs_s S n % 10 ∧ cr_op (cs_s S n) ≠ cs_s S n % 10 + 10) := fun q => by
                rcases (hxx (cr_op (cs_s S n)) (by omega)).mpr (Or.inr rfl) with e | e
                · exact q.1 e
                · exact q.2 e
              have t : (decide (cr_op (cs_s S n) ≠ cs_s S n % 10) && decide (cr_op (cs_s S n) ≠ cs_s S n % 10 + 10)) = false := by
                cases w : (decide (cr_op (cs_s S n) ≠ cs_s S n % 10) && decide (cr_op (cs_s S n) ≠ cs_s S n % 10 + 10)) with
                | false => rfl
                | true => rw [Bool.and_eq_true, decide_eq_true_eq, decide_eq_true_eq] at w; exact absurd w this
              rw [t]; simp
            · have n1 : i ≠ cs_s S n % 10 := fun q => (this.mp (Or.inl q)).elim z1 z2
              have n2 : i ≠ cs_s S n % 10 + 10 := fun q => (this.mp (Or.inr q)).elim z1 z2
              rw [decide_eq_true n1, decide_eq_true n2, decide_eq_false z1, decide_eq_false z2]; simp
        have hbn : ∀ i, i < 32 → bt ((c &&& (cb_set (nI (cr_op (cs_s S n))) ^^^ (-nI 1))) ||| (cs_ca S (cs_rs S n) &&& (cb_set (nI (cs_s S n)) ^^^ (-nI 1)))) i = true → (bt c i = true ∧ i ≠ cr_op (cs_s S n)) ∨ (bt (cs_cl S cc) i = true ∧ i ≠ cs_s S n) := by
          intro i hi q
          rw [eca, b_or, b_and, b_and, b_xor, b_xor, cb_set_bt (by omega) hi, cb_set_bt (by omega) hi, cb_m1bt i hi, Bool.or_eq_true, Bool.and_eq_true, Bool.and_eq_true] at q
          rcases q with ⟨q1, q2⟩ | ⟨q1, q2⟩
          · left; refine ⟨q1, fun e => ?_⟩; rw [decide_eq_true e] at q2; cases q2
          · right; refine ⟨q1, fun e => ?_⟩; rw [decide_eq_true e] at q2; cases q2
        have hc2 : cr_fl S ((c &&& (cb_set (nI (cr_op (cs_s S n))) ^^^ (-nI 1))) ||| (cs_ca S (cs_rs S n) &&& (cb_set (nI (cs_s S n)) ^^^ (-nI 1)))) := by
          intro i hi q
          rcases hbn i hi q with ⟨q1, -⟩ | ⟨q1, q2⟩
          · exact hc i hi q1
          · refine ⟨hrc.1 i hi q1, ?_⟩
            rcases orr i hi q1 with e | ⟨j, hj, e⟩
            · exact absurd e q2
            · exact ⟨j, by omega, e⟩
        have hk2 : ∀ k, n ≤ k → k < cs_g S → cs_lv S k = cs_pl S (cs_g S) → bt ((c &&& (cb_set (nI (cr_op (cs_s S n))) ^^^ (-nI 1))) ||| (cs_ca S (cs_rs S n) &&& (cb_set (nI (cs_s S n)) ^^^ (-nI 1)))) (cr_op (cs_s S k)) = false := by
          intro k h1 h2 h3
          have hsk := (h.1.2.2.1.1 k h2).2.1
          have hok := cr_sg9 h9 (cr_sg_op h9 hsk)
          cases z : bt ((c &&& (cb_set (nI (cr_op (cs_s S n))) ^^^ (-nI 1))) ||| (cs_ca S (cs_rs S n) &&& (cb_set (nI (cs_s S n)) ^^^ (-nI 1)))) (cr_op (cs_s S k)) with
          | false => rfl
          | true =>
            exfalso
            rcases hbn _ (by omega) z with ⟨q1, q2⟩ | ⟨q1, q2⟩
            · by_cases e : k = n
              · subst e; exact q2 rfl
              · rw [hk k (by omega) h2 h3] at q1; cases q1
            · rcases orr _ (by omega) q1 with e | ⟨j, hj, e⟩
              · exact q2 e
              · rw [cr_op_op h9 hsk] at e
                have := cr_uni h.1 (show j < cs_g S by omega) h2 (by rw [e])
                omega
        have ih := cr_coo h n _ (by omega) hc2 hk2 M (by omega)
        refine ⟨?_, ih.2⟩
        conv => lhs; unfold cm_ln
        rw [if_neg hpi, hli, erc, enew]
        exact ih.1
end CR5
end
section
/-! the level to go to, room for a clause, the new clause -/
section CR6
variable {y : Int32} {S : cs_S} {f : Nat → Int32}
theorem cr_lbp (h : crp y S f) {c : Int32} (hc : cr_fl S c) : ∀ n k m, k + n = cs_g S → m ≤ cs_pv S (cs_g S) → cs_lbp S c n k (nI m) = cm_lb f c n k (nI m) ∧ ∃ q, q ≤ cs_pv S (cs_g S) ∧ cs_lbp S c n k (nI m) = nI q
  | 0, k, m, _, hm => ⟨rfl, m, hm, rfl⟩
  | n + 1, k, m, hk, hm => by
    have h9 := cr_k9 h.1
    have g9 := cr_g9 h.1
    have hkg : k < cs_g S := by omega
    obtain ⟨es, hs, el, hl⟩ := h.1.2.2.1.1 k hkg
    have hs9 := cr_sg9 h9 hs
    have ho9 := cr_sg9 h9 (cr_sg_op h9 hs)
    have hpl := cr_pl h.1
    have hpv := cr_pv_le h.1
    have hlv : cs_l S k ≤ cs_pv S (cs_g S) := by
      unfold cs_pv; rw [if_neg (by omega)]; exact cr_mono h.1 _ (by omega) (by omega)
    unfold cs_lbp cm_lb
    rw [es, cb_opp_nI (by omega), cb_hs_bt (by omega), cm_x_s h hkg, (h.2.2.2.1 k hkg).2.2.1, h.2.1.2.2.2.2.2.2.1]
    have ih1 := cr_lbp h hc n (k + 1) m (by omega) hm
    have ih2 := cr_lbp h hc n (k + 1) (cs_l S k) (by omega) hlv
    rw [← el] at ih2
    have so := cr_so h hc hkg
    cases b : bt c (cr_op (cs_s S k)) with
    | false =>
      rw [if_neg (by decide)]
      have e : (if cs_pl S (cs_g S) ≤ cs_lv S k then nI m else if cs_lv S k ≤ nI m then nI m else if cm_so c (cs_s S k % 10) = -nI 6 then nI m else cs_lv S k) = nI m := by
        rw [if_pos (so.mpr b), ite_self, ite_self]
      rw [e]; exact ih1
    | true =>
      rw [if_pos rfl]
      have n6 : ¬ cm_so c (cs_s S k % 10) = -nI 6 := fun q => by rw [so.mp q] at b; cases b
      rw [if_neg n6]
      by_cases d : cs_pl S (cs_g S) ≤ cs_lv S k
      · rw [if_pos d, if_pos d]; exact ih1
      · rw [if_neg d, if_neg d]
        by_cases e : nI m < cs_lv S k
        · rw [if_pos e, if_neg (Int32.not_le.mpr e)]; exact ih2
        · rw [if_neg e, if_pos (Int32.not_lt.mp e)]; exact ih1
/-- reasons, both ways -/
theorem cs_isr_iff (S : cs_S) (x : Int32) : ∀ n k, cs_isr S x n k = true ↔ ∃ j, k ≤ j ∧ j < k + n ∧ cs_rs S j = x
  | 0, k => by
    unfold cs_isr
    exact ⟨fun q => (by cases q), fun ⟨j, h1, h2, _⟩ => (by omega)⟩
  | n + 1, k => by
    have ih := cs_isr_iff S x n (k + 1)
    unfold cs_isr
    by_cases c : cs_rs S k = x
    · rw [if_pos c]
      exact ⟨fun _ => ⟨k, by omega, by omega, c⟩, fun _ => rfl⟩
    · rw [if_neg c, ih]
      constructor
      · rintro ⟨j, h1, h2, h3⟩; exact ⟨j, by omega, by omega, h3⟩
      · rintro ⟨j, h1, h2, h3⟩
        by_cases e : j = k
        · subst e; exact absurd h3 c
        · exact ⟨j, by omega, by omega, h3⟩
theorem cm_ir_iff (f : Nat → Int32) (c : Int32) : ∀ n x a, cm_ir f c n x a = true ↔ a = true ∨ ∃ j, x ≤ j ∧ j < x + n ∧ f (39 + j) = c
  | 0, x, a => by
    unfold cm_ir
    exact ⟨Or.inl, fun q => q.elim id (fun ⟨j, h1, h2, _⟩ => by omega)⟩
  | n + 1, x, a => by
    unfold cm_ir
    rw [cm_ir_iff f c n (x + 1), Bool.or_eq_true, decide_eq_true_eq]
    constructor
    · rintro ((q | q) | ⟨j, h1, h2, h3⟩)
      · exact Or.inl q
      · exact Or.inr ⟨x, by omega, by omega, q⟩
      · exact Or.inr ⟨j, by omega, by omega, h3⟩
    · rintro (q | ⟨j, h1, h2, h3⟩)
      · exact Or.inl (Or.inl q)
      · by_cases e : j = x
        · subst e; exact Or.inl (Or.inr h3)
        · exact Or.inr ⟨j, by omega, by omega, h3⟩
theorem cr_isr (h : crp y S f) {k : Nat} (hk : k < 2 ^ 31) : cm_ir f (nI k) 9 1 false = cs_isr S (nI k) (cs_g S) 0 := by
  have h9 := cr_k9 h.1
  have e : cm_ir f (nI k) 9 1 false = true ↔ cs_isr S (nI k) (cs_g S) 0 = true := by
    rw [cm_ir_iff, cs_isr_iff]
    constructor
    · rintro (q | ⟨j, h1, h2, h3⟩)
      · cases q
      · by_cases c : ∃ m, m < cs_g S ∧ cs_s S m % 10 = j
        · obtain ⟨m, hm, rfl⟩ := c
          exact ⟨m, by omega, by omega, by rw [← (h.2.2.2.1 m hm).2.2.2]; exact h3⟩
        · have := (h.2.2.2.2 j (by omega) (fun m hm e => c ⟨m, hm, e⟩)).2.2
          rw [h3] at this
          exact absurd this (cm_n6 hk)
    · rintro ⟨m, h1, h2, h3⟩
      have hs9 := cr_sg9 h9 (h.1.2.2.1.1 m (by omega)).2.1
      exact Or.inr ⟨cs_s S m % 10, by omega, by omega, by rw [(h.2.2.2.1 m (by omega)).2.2.2]; exact h3⟩
  cases a : cm_ir f (nI k) 9 1 false <;> cases b : cs_isr S (nI k) (cs_g S) 0 <;> simp_all
theorem cr_fgk (h : crp y S f) (t : Nat) : ∀ m k, k + m < 2 ^ 31 → t ≤ k → (cs_fgk S m k = none ∧ (∀ j, k ≤ j → j < k + m → cs_isr S (nI j) (cs_g S) 0 = true) ∧ ∀ a, cm_mk f t (k - t + m) a = cm_mk f t (k - t) a) ∨ ∃ j, k ≤ j ∧ j < k + m ∧ cs_fgk S m k = some j ∧ cs_isr S (nI j) (cs_g S) 0 = false ∧ ∀ a, cm_mk f t (k - t + m) a = cm_mk f t (k - t) (nI j)
  | 0, k, _, _ => Or.inl ⟨rfl, fun j h1 h2 => by omega, fun _ => rfl⟩
  | m + 1, k, hk, ht => by
    have ih := cr_fgk h t m (k + 1) (by omega) (by omega)
    rw [show k + 1 - t + m = k - t + (m + 1) by omega, show k + 1 - t = (k - t) + 1 by omega] at ih
    have e : ∀ a, cm_mk f t (k - t + 1) a = cm_mk f t (k - t) (if cs_isr S (nI k) (cs_g S) 0 then a else nI k) := fun a => by
      show cm_mk f t (k - t) (if cm_ir f (nI (t + (k - t))) 9 1 false then a else nI (t + (k - t))) = _
      rw [show t + (k - t) = k by omega, cr_isr h (by omega)]
    unfold cs_fgk
    cases b : cs_isr S (nI k) (cs_g S) 0 with
    | false =>
      rw [if_neg (by decide)]
      right
      refine ⟨k, by omega, by omega, rfl, b, fun a => ?_⟩
      rcases ih with ⟨-, -, h2⟩ | ⟨j, -, -, -, -, h2⟩
      · rw [h2, e, b]; rfl
      · rw [h2, e, b]; rfl
    | true =>
      rw [if_pos rfl]
      rcases ih with ⟨h1, h3, h2⟩ | ⟨j, h4, h5, h1, h3, h2⟩
      · left
        refine ⟨h1, fun j h4 h5 => ?_, fun a => by rw [h2, e, b]; rfl⟩
        by_cases z : j = k
        · subst z; exact b
        · exact h3 j (by omega) (by omega)
      · right
        exact ⟨j, by omega, by omega, h1, h3, fun a => by rw [h2, e, b]; rfl⟩
/-- with 40 learned clauses one is without use -/
theorem cr_room (h : crp y S f) (hn : cs_n S = 40) : ∃ j, cs_t S ≤ j ∧ j < cs_t S + 40 ∧ cs_fgt S = cs_drop S j ∧ cm_mk f (cs_t S) 40 (-nI 6) = nI j ∧ ∀ k, k < cs_g S → cs_rs S k ≠ nI j := by
  have hB := h.1.1.1
  have h20 := hB.2.1.2
  rcases cr_fgk h (cs_t S) 40 (cs_t S) (by omega) (Nat.le_refl _) with ⟨-, h1, -⟩ | ⟨j, h1, h2, h3, h4, h5⟩
  · exfalso
    obtain ⟨k, hk, hk2⟩ := pg_free (fun j => (cs_rs S j).toNatClampNeg - cs_t S) 9
    obtain ⟨j, h2, h3, h4⟩ := (cs_isr_iff S (nI (cs_t S + k)) (cs_g S) 0).mp (h1 (cs_t S + k) (by omega) (by omega))
    have := hB.1.2
    refine hk2 j (by omega) ?_
    show (cs_rs S j).toNatClampNeg - cs_t S = k
    rw [h4, nI_clamp (by omega)]; omega
  · refine ⟨j, h1, h2, ?_, ?_, fun k hk e => ?_⟩
    · unfold cs_fgt
      rw [hn, h3]
    · have := h5 (-nI 6)
      rw [Nat.sub_self, Nat.zero_add] at this
      exact this
    · have : cs_isr S (nI j) (cs_g S) 0 = true := (cs_isr_iff S (nI j) (cs_g S) 0).mpr ⟨k, by omega, by omega, e⟩
      rw [h4] at this; cases this
theorem cr_drop (h : crp y S f) (hn : cs_n S = 40) {j : Nat} (h1 : cs_t S ≤ j) (h2 : j < cs_t S + 40) (hr : ∀ k, k < cs_g S → cs_rs S k ≠ nI j) : crp y (cs_drop S j) (cm_dr f (cs_t S) 40 j) ∧ cs_n (cs_drop S j) = 39 := by
  have h9 := cr_k9 h.1
  have g9 := cr_g9 h.1
  have hB := h.1.1.1
  have h20 := hB.2.1.2
  obtain ⟨hB2, hn2⟩ := cs_Bd_drop hB (show 1 ≤ cs_n S by omega) j
  have hn3 : cs_n (cs_drop S j) = 39 := by omega
  refine ⟨?_, hn3⟩
  obtain ⟨⟨hIs, hIc, hIt, hIr⟩, hF0, hFc, hFt, hFx⟩ := h
  have e0 : cs_drop S j = cs_wrs (cs_wle (cs_wcl S (cs_rm (cs_cl S) j 59)) (cs_le S - nI 1)) (cs_lr S (nI j) (cs_g S)) := rfl
  rw [e0] at hB2 hn2 hn3 ⊢
  obtain ⟨S', hS'⟩ : ∃ S', S' = cs_wrs (cs_wle (cs_wcl S (cs_rm (cs_cl S) j 59)) (cs_le S - nI 1)) (cs_lr S (nI j) (cs_g S)) := ⟨_, rfl⟩
  rw [← hS'] at hB2 hn2 hn3 ⊢
  have fg : cs_g S' = cs_g S := by rw [hS']; rfl
  have ft : cs_t S' = cs_t S := by rw [hS']; rfl
  have fk : cs_k S' = cs_k S := by rw [hS']; rfl
  have fcl : cs_cl S' = cs_rm (cs_cl S) j 59 := by rw [hS']
  have frs : cs_rs S' = cs_lr S (nI j) (cs_g S) := by rw [hS']
  have s1 : cs_s S' = cs_s S := by rw [hS']; rfl
  have l1 : cs_l S' = cs_l S := by rw [hS']; rfl
  have p1 : cs_pv S' = cs_pv S := by rw [hS']; rfl
  -- clauses behind the gap
  have cl1 : ∀ k, k < cs_t S + 39 → cs_rm (cs_cl S) j 59 k = if j ≤ k then cs_cl S (k + 1) else cs_cl S k := fun k hk => by
    unfold cs_rm
    by_cases c : j ≤ k
    · rw [if_pos ⟨c, by omega⟩, if_pos c]
    · rw [if_neg (fun q => c q.1), if_neg c]
  have dr : ∀ i, (i < 40 ∨ 49 ≤ i) → cm_dr f (cs_t S) 40 j i = upd (upd (cm_sf f j (cs_t S + 40 - 1)) (49 + (cs_t S + 40) - 1) (nI 0)) 4 (nI (40 - 1)) i := fun i hi => by
    unfold cm_dr cm_lr
    rw [if_neg (by omega)]
  have dlo : ∀ i, i < 40 → i ≠ 4 → cm_dr f (cs_t S) 40 j i = f i := fun i hi h4 => by
    rw [dr i (Or.inl hi), pk_un h4, pk_un (by omega)]
    unfold cm_sf
    rw [if_neg (by omega)]
  have drs : ∀ x, 1 ≤ x → x ≤ 9 → cm_dr f (cs_t S) 40 j (39 + x) = if nI j < f (39 + x) then f (39 + x) - nI 1 else f (39 + x) := fun x hx1 hx => by
    have e : upd (upd (cm_sf f j (cs_t S + 40 - 1)) (49 + (cs_t S + 40) - 1) (nI 0)) 4 (nI (40 - 1)) (39 + x) = f (39 + x) := by
      rw [pk_un (by omega), pk_un (by omega)]
      unfold cm_sf
      rw [if_neg (by omega)]
    unfold cm_dr cm_lr
    rw [e]
    by_cases c : nI j < f (39 + x)
    · rw [if_pos c, if_pos ⟨by omega, by omega, c⟩]
    · rw [if_neg c, if_neg (fun q => c q.2.2)]
  have dcl : ∀ k, k < cs_t S + 39 → cm_dr f (cs_t S) 40 j (49 + k) = if j ≤ k then f (49 + (k + 1)) else f (49 + k) := fun k hk => by
    rw [dr _ (Or.inr (by omega)), pk_un (by omega), pk_un (by omega)]
    unfold cm_sf
    by_cases c : j ≤ k
    · rw [if_pos ⟨by omega, by omega⟩, if_pos c]; rfl
    · rw [if_neg (by omega), if_neg c]
  have dt : ∀ x, x ≤ 9 → cm_dr f (cs_t S) 40 j (10 + x) = f (10 + x) := fun x hx => dlo _ (by omega) (by omega)
  -- a reason's number
  have rn : ∀ k, k < cs_g S → ∀ c, c < cs_t S + cs_n S → cs_rs S k = nI c → ∃ c', c' < cs_t S + 39 ∧ (if nI j < cs_rs S k then cs_rs S k - nI 1 else cs_rs S k) = nI c' ∧ cs_rm (cs_cl S) j 59 c' = cs_cl S c := by
    intro k hk c hc e
    have hne : c ≠ j := fun z => hr k hk (by rw [e, z])
    rw [e]
    by_cases q : nI j < nI c
    · have q2 := (nI_ltI (by omega) (by omega)).mp q
      refine ⟨c - 1, by omega, by rw [if_pos q, pk_sub (by omega)], ?_⟩
      rw [cl1 _ (by omega), if_pos (by omega), show c - 1 + 1 = c by omega]
    · have q2 : ¬ j < c := fun z => q (nI_lt z (by omega))
      refine ⟨c, by omega, by rw [if_neg q], ?_⟩
      rw [cl1 _ (by omega), if_neg (by omega)]
  have lrk : ∀ k, k < cs_g S → cs_lr S (nI j) (cs_g S) k = if nI j < cs_rs S k then cs_rs S k - nI 1 else cs_rs S k := fun k hk => by
    unfold cs_lr
    by_cases c : nI j < cs_rs S k
    · rw [if_pos c, if_pos ⟨hk, c⟩]
    · rw [if_neg c, if_neg (fun q => c q.2)]
  have n6j : ¬ nI j < -nI 6 := fun q => by
    have a : -nI 6 < nI 0 := by decide
    have b := Int32.lt_trans q a
    exact absurd b (nI_nlt (by omega) (by omega))
  refine ⟨⟨⟨hB2, by rw [fk]; exact hIs.2.1, by rw [hS']; exact hIs.2.2.1, by rw [hS']; exact hIs.2.2.2.1, by rw [hS']; exact hIs.2.2.2.2⟩, fun k hk => ?_, by rw [hS']; exact hIt, fun k hk => ?_⟩, ⟨?_, ?_, ?_, ?_, ?_, ?_, ?_, ?_, ?_, ?_⟩, fun k hk => ?_, fun k hk => ?_, fun x hx9 hxk => ?_⟩
  · rw [ft, hn3] at hk
    rw [fk, fcl, cl1 k hk]
    split
    · exact hIc _ (by omega)
    · exact hIc _ (by omega)
  · rw [fg] at hk
    unfold cr_r
    rw [l1, p1, frs, fcl, s1, ft, hn3, lrk k hk]
    rcases hIr k hk with ⟨a, c, hc, b1, b2, b3⟩ | ⟨a, b⟩
    · left
      obtain ⟨c', q1, q2, q3⟩ := rn k hk c hc b1
      exact ⟨a, c', q1, q2, by rw [q3]; exact b2, fun i hi hb => b3 i hi (by rw [← q3]; exact hb)⟩
    · right
      exact ⟨a, by rw [b, if_neg n6j]⟩
  · rw [dlo 0 (by omega) (by omega), hS']; exact hF0.1
  · rw [dlo 1 (by omega) (by omega), hS']; exact hF0.2.1
  · rw [dlo 2 (by omega) (by omega), hS']; exact hF0.2.2.1
  · rw [dlo 3 (by omega) (by omega), hS']; exact hF0.2.2.2.1
  · rw [dr 4 (Or.inl (by omega)), pk_us, hB2.2.2.1.1, hn3]
  · rw [dlo 5 (by omega) (by omega), hS']; exact hF0.2.2.2.2.2.1
  · rw [dlo 6 (by omega) (by omega), hS']; exact hF0.2.2.2.2.2.2.1
  · rw [dlo 7 (by omega) (by omega), hS']; exact hF0.2.2.2.2.2.2.2.1
  · rw [dlo 8 (by omega) (by omega), hS']; exact hF0.2.2.2.2.2.2.2.2.1
  · rw [dlo 9 (by omega) (by omega)]; exact hF0.2.2.2.2.2.2.2.2.2
  · rw [ft, hn3] at hk
    rw [dcl k hk, fcl, cl1 k hk]
    split
    · exact hFc _ (by omega)
    · exact hFc _ (by omega)
  · rw [fg] at hk
    have hs9 := cr_sg9 h9 (hIt.1 k hk).2.1
    obtain ⟨b1, b2, b3, b4⟩ := hFt k hk
    rw [s1, frs, lrk k hk, drs _ hs9.2.2.2.1 (by omega), b4]
    refine ⟨?_, ?_, ?_, rfl⟩
    · rw [dt k (by omega)]; exact b1
    · rw [dlo _ (by omega) (by omega)]; exact b2
    · rw [dlo _ (by omega) (by omega), hS']; exact b3
  · rw [fg, s1] at hxk
    obtain ⟨b1, b2, b3⟩ := hFx x hx9 hxk
    refine ⟨?_, ?_, ?_⟩
    · rw [dlo _ (by omega) (by omega)]; exact b1
    · rw [dlo _ (by omega) (by omega)]; exact b2
    · by_cases c : x = 0
      · subst c; rw [dlo _ (by omega) (by omega)]; exact b3
      · rw [drs x (by omega) hx9, b3, if_neg n6j]
/-- a learned clause more, and a conflict -/
theorem cr_push (h : crp y S f) (hn : cs_n S ≤ 39) {c : Int32} (hc : cr_c (cs_k S) c) : crp y (cs_wco (cs_push S c) (cs_co S + nI 1)) (cm_ps f (cs_t S) (cs_n S) c) ∧ cs_n (cs_wco (cs_push S c) (cs_co S + nI 1)) = cs_n S + 1 := by
  have h9 := cr_k9 h.1
  have g9 := cr_g9 h.1
  have hB := h.1.1.1
  have h20 := hB.2.1.2
  have eg : cs_le S + nI 1 = nI (cs_n S + 1) := by rw [hB.2.2.1.1, nI_add]
  obtain ⟨⟨hIs, hIc, hIt, hIr⟩, hF0, hFc, hFt, hFx⟩ := h
  obtain ⟨S', hS'⟩ : ∃ S', S' = cs_wco (cs_push S c) (cs_co S + nI 1) := ⟨_, rfl⟩
  rw [← hS']
  have fn : cs_n S' = cs_n S + 1 := cs_n_nI (by rw [hS']; exact eg) (by omega)
  have fg : cs_g S' = cs_g S := by rw [hS']; rfl
  have ft : cs_t S' = cs_t S := by rw [hS']; rfl
  have fk : cs_k S' = cs_k S := by rw [hS']; rfl
  have fcl : cs_cl S' = upd (cs_cl S) (cs_t S + cs_n S) c := by rw [hS']; rfl
  have s1 : cs_s S' = cs_s S := by rw [hS']; rfl
  have l1 : cs_l S' = cs_l S := by rw [hS']; rfl
  have p1 : cs_pv S' = cs_pv S := by rw [hS']; rfl
  have frs : cs_rs S' = cs_rs S := by rw [hS']; rfl
  have hB2 : cs_Bd S' := ⟨by rw [fg, hS']; exact hB.1, by rw [ft, hS']; exact hB.2.1, ⟨by rw [fn, hS']; exact eg, by rw [fn]; omega⟩, by rw [fk, hS']; exact hB.2.2.2⟩
  have ps : ∀ i, i ≠ 49 + (cs_t S + cs_n S) → i ≠ 4 → i ≠ 8 → cm_ps f (cs_t S) (cs_n S) c i = f i := fun i h1 h2 h3 => by
    unfold cm_ps
    rw [pk_un h3, pk_un h2, pk_un h1]
  refine ⟨⟨⟨⟨hB2, by rw [fk]; exact hIs.2.1, by rw [hS']; exact hIs.2.2.1, by rw [hS']; exact hIs.2.2.2.1, by rw [hS']; exact hIs.2.2.2.2⟩, fun k hk => ?_, by rw [hS']; exact hIt, fun k hk => ?_⟩, ⟨?_, ?_, ?_, ?_, ?_, ?_, ?_, ?_, ?_, ?_⟩, fun k hk => ?_, fun k hk => ?_, fun x hx9 hxk => ?_⟩, fn⟩
  · rw [ft, fn] at hk
    rw [fk, fcl]
    by_cases e : k = cs_t S + cs_n S
    · rw [e, pk_us]; exact hc
    · rw [pk_un e]; exact hIc k (by omega)
  · rw [fg] at hk
    unfold cr_r
    rw [l1, p1, frs, fcl, s1, ft, fn]
    rcases hIr k hk with ⟨a, c, hc, b1, b2, b3⟩ | a
    · left
      exact ⟨a, c, by omega, b1, by rw [pk_un (by omega)]; exact b2, fun i hi hb => b3 i hi (by rw [pk_un (by omega)] at hb; exact hb)⟩
    · exact Or.inr a
  · rw [ps 0 (by omega) (by omega) (by omega), hS']; exact hF0.1
  · rw [ps 1 (by omega) (by omega) (by omega), hS']; exact hF0.2.1
  · rw [ps 2 (by omega) (by omega) (by omega), hS']; exact hF0.2.2.1
  · rw [ps 3 (by omega) (by omega) (by omega), hS']; exact hF0.2.2.2.1
  · rw [hB2.2.2.1.1, fn]
    unfold cm_ps
    rw [pk_un (by omega), pk_us]
  · rw [ps 5 (by omega) (by omega) (by omega), hS']; exact hF0.2.2.2.2.2.1
  · rw [ps 6 (by omega) (by omega) (by omega), hS']; exact hF0.2.2.2.2.2.2.1
  · rw [ps 7 (by omega) (by omega) (by omega), hS']; exact hF0.2.2.2.2.2.2.2.1
  · unfold cm_ps
    rw [pk_us, hF0.2.2.2.2.2.2.2.2.1, hS']
  · rw [ps 9 (by omega) (by omega) (by omega)]; exact hF0.2.2.2.2.2.2.2.2.2
  · rw [ft, fn] at hk
    rw [fcl]
    by_cases e : k = cs_t S + cs_n S
    · rw [e, pk_us]; unfold cm_ps; rw [pk_un (by omega), pk_un (by omega), pk_us]
    · rw [pk_un e, ps _ (by omega) (by omega) (by omega)]; exact hFc k (by omega)
  · rw [fg] at hk
    have hs9 := cr_sg9 h9 (hIt.1 k hk).2.1
    rw [s1, ps _ (by omega) (by omega) (by omega), ps _ (by omega) (by omega) (by omega), ps _ (by omega) (by omega) (by omega), ps _ (by omega) (by omega) (by omega), hS']
    exact hFt k hk
  · rw [fg, s1] at hxk
    rw [ps _ (by omega) (by omega) (by omega), ps _ (by omega) (by omega) (by omega), ps _ (by omega) (by omega) (by omega)]
    exact hFx x hx9 hxk
/-- what the model's rows hold -/
theorem cr_B (h : crp y S f) : cm_B f (cs_t S) (cs_n S) (cs_g S) := by
  have hB := h.1.1.1
  refine ⟨⟨?_, hB.2.1.2⟩, ⟨?_, hB.2.2.1.2⟩, ⟨?_, hB.1.2⟩, fun k hk => ?_⟩
  · rw [h.2.1.2.2.2.1]; exact hB.2.1.1
  · rw [h.2.1.2.2.2.2.1]; exact hB.2.2.1.1
  · rw [h.2.1.2.2.2.2.2.2.2.1]; exact hB.1.1
  · exact ⟨cs_s S k % 10, by omega, (h.2.2.2.1 k hk).1⟩
theorem cr_R (h : crp y S f) : cm_R f := by
  intro x hx
  have hB := h.1.1.1
  have h9 := cr_k9 h.1
  by_cases c : ∃ k, k < cs_g S ∧ cs_s S k % 10 = x
  · obtain ⟨k, hk, rfl⟩ := c
    rw [(h.2.2.2.1 k hk).2.2.2]
    rcases h.1.2.2.2 k hk with ⟨-, c, hc, e, -⟩ | ⟨-, e⟩
    · refine ⟨49 + c, ?_, by rw [e, nI_add]⟩
      have := hB.2.1.2; have := hB.2.2.1.2; omega
    · exact ⟨43, by omega, by rw [e]; decide⟩
  · rw [(h.2.2.2.2 x hx (fun k hk e => c ⟨k, hk, e⟩)).2.2]
    exact ⟨43, by omega, by decide⟩
end CR6
end
section
/-! one step, both ways -/
theorem cs_sp_gb (S : cs_S) (L : Int32) : cs_sp (cs_gb S L) = cs_sp S := rfl
theorem cs_sp_give (S : cs_S) (a b c : Int32) : cs_sp (cs_give S a b c) = cs_sp S := by
  unfold cs_give; split <;> rfl
theorem cs_sp_learn (S : cs_S) (c : Int32) : cs_sp (cs_learn S c) = cs_sp S := by
  have h1 : cs_sp (cs_mr S) = cs_sp S := by
    unfold cs_mr
    split
    · rfl
    · unfold cs_fgt
      split <;> rfl
  unfold cs_learn
  split
  · exact h1
  · exact h1
theorem cs_sp_one (S : cs_S) : cs_sp (cs_one S) = cs_sp S := by
  unfold cs_one
  split
  · split
    · split
      · rfl
      · exact cs_sp_give _ _ _ _
    · exact cs_sp_give _ _ _ _
  · unfold cs_meet
    split
    · rfl
    · have h1 : cs_sp (cs_m2 S (cs_fu0 S)) = cs_sp S := cs_sp_learn _ _
      unfold cs_mf
      split
      · exact h1
      · split
        · exact h1
        · exact h1
section CR7
variable {y : Int32} {S : cs_S} {f : Nat → Int32}
theorem crp_s0 (h : crp y S f) (z : Int32) : crp z S (upd f 9 z) := by
  obtain ⟨hI, hF0, hFc, hFt, hFx⟩ := h
  have h9 := cr_k9 hI
  have g9 := cr_g9 hI
  refine ⟨hI, ⟨?_, ?_, ?_, ?_, ?_, ?_, ?_, ?_, ?_, ?_⟩, fun k hk => ?_, fun k hk => ?_, fun x hx9 hxk => ?_⟩
  · rw [pk_un (by omega)]; exact hF0.1
  · rw [pk_un (by omega)]; exact hF0.2.1
  · rw [pk_un (by omega)]; exact hF0.2.2.1
  · rw [pk_un (by omega)]; exact hF0.2.2.2.1
  · rw [pk_un (by omega)]; exact hF0.2.2.2.2.1
  · rw [pk_un (by omega)]; exact hF0.2.2.2.2.2.1
  · rw [pk_un (by omega)]; exact hF0.2.2.2.2.2.2.1
  · rw [pk_un (by omega)]; exact hF0.2.2.2.2.2.2.2.1
  · rw [pk_un (by omega)]; exact hF0.2.2.2.2.2.2.2.2.1
  · exact pk_us
  · rw [pk_un (by omega)]; exact hFc k hk
  · rw [pk_un (by omega), pk_un (by omega), pk_un (by omega), pk_un (by omega)]; exact hFt k hk
  · rw [pk_un (by omega), pk_un (by omega), pk_un (by omega)]; exact hFx x hx9 hxk
theorem crp_sd (h : crp y S f) {v : Int32} (hv : v = nI 0 ∨ v = nI 1 ∨ v = nI 2) : crp y (cs_wsd S v) (upd f 5 v) := by
  obtain ⟨⟨hIs, hIc, hIt, hIr⟩, hF0, hFc, hFt, hFx⟩ := h
  refine ⟨⟨⟨hIs.1, hIs.2.1, hIs.2.2.1, hIs.2.2.2.1, hv⟩, hIc, hIt, hIr⟩, ⟨?_, ?_, ?_, ?_, ?_, ?_, ?_, ?_, ?_, ?_⟩, fun k hk => ?_, fun k hk => ?_, fun x hx9 hxk => ?_⟩
  · rw [pk_un (by omega)]; exact hF0.1
  · rw [pk_un (by omega)]; exact hF0.2.1
  · rw [pk_un (by omega)]; exact hF0.2.2.1
  · rw [pk_un (by omega)]; exact hF0.2.2.2.1
  · rw [pk_un (by omega)]; exact hF0.2.2.2.2.1
  · exact pk_us
  · rw [pk_un (by omega)]; exact hF0.2.2.2.2.2.2.1
  · rw [pk_un (by omega)]; exact hF0.2.2.2.2.2.2.2.1
  · rw [pk_un (by omega)]; exact hF0.2.2.2.2.2.2.2.2.1
  · rw [pk_un (by omega)]; exact hF0.2.2.2.2.2.2.2.2.2
  · rw [pk_un (by omega)]; exact hFc k hk
  · rw [pk_un (by omega), pk_un (by omega), pk_un (by omega), pk_un (by omega)]; exact hFt k hk
  · rw [pk_un (by omega), pk_un (by omega), pk_un (by omega)]; exact hFx x hx9 hxk
theorem crp_sp (h : crp y S f) : cr (cs_wsp S y) f := h
/-- a set of one sign -/
theorem cb_sio_one {o : Int32} {i : Nat} (hi : cr_sg 9 i) (ho : ∀ j, j < 32 → (bt o j = true ↔ j = i)) : ∀ n t, t + n = 10 → 1 ≤ t → t ≤ i % 10 → cb_sio o (nI 1) n t (nI 0) = nI i
  | 0, t, h1, h2, h3 => by omega
  | n + 1, t, h1, h2, h3 => by
    have q := cr_sg9 (Nat.le_refl 9) hi
    have hsg : ∀ j, j < 32 → bt o j = true → cr_sg 9 j := fun j hj hb => by rw [(ho j hj).mp hb]; exact hi
    unfold cb_sio
    have hb : bt (o ||| cb_op o) t = true ↔ t = i % 10 := by
      rw [b_or, Bool.or_eq_true, ho t (by omega), cb_op_bt hsg (by omega), ho (cr_op t) (by unfold cr_op; split <;> omega)]
      unfold cr_op
      rw [if_pos (by omega)]
      rcases hi with e | e
      · constructor
        · rintro (z | z) <;> omega
        · intro z; left; omega
      · constructor
        · rintro (z | z) <;> omega
        · intro z; right; exact ⟨Or.inl ⟨h2, by omega⟩, by omega⟩
    by_cases c : t = i % 10
    · rw [if_pos (hb.mpr c), if_pos (show nI 0 + nI 1 = nI 1 by decide)]
      cases b : bt o t with
      | true =>
        have := (ho t (by omega)).mp b
        rw [if_pos rfl, this]
      | false =>
        rw [if_neg (by decide)]
        have : t ≠ i := fun z => by rw [(ho t (by omega)).mpr z] at b; cases b
        rw [show t + 10 = i by omega]
    · rw [if_neg (fun z => c (hb.mp z))]
      exact cb_sio_one hi ho n (t + 1) (by omega) (by omega) (by omega)
theorem cm_fs_one (f : Nat → Int32) (c : Int32) {i : Nat} (ho : ∀ j, j < 20 → 1 ≤ j → ((bt c j = true ∧ f (19 + j % 10) = -nI 6) ↔ j = i)) : ∀ n s a, s + n = 20 → 1 ≤ s → (i < s → a = nI i) → i < 20 → cm_fs f c n s a = nI i
  | 0, s, a, h1, h2, h3, h4 => h3 (by omega)
  | n + 1, s, a, h1, h2, h3, h4 => by
    unfold cm_fs
    have q := ho s (by omega) h2
    by_cases c2 : s = i
    · rw [if_pos (q.mpr c2)]
      exact cm_fs_one f c ho n (s + 1) _ (by omega) (by omega) (fun _ => by rw [c2]) h4
    · rw [if_neg (fun z => c2 (q.mp z))]
      exact cm_fs_one f c ho n (s + 1) _ (by omega) (by omega) (fun z => h3 (by omega)) h4
/-- the only open sign of a clause -/
theorem cr_one_open (h : crp y S f) {k : Nat} (hk : k < cs_t S + cs_n S) (hp : cr_P S 1 k = true) : ∃ i, cr_sg (cs_k S) i ∧ bt (cs_cl S k) i = true ∧ bt (cs_va S) i = false ∧ bt (cs_va S) (cr_op i) = false ∧ (∀ j, j < 32 → (bt (cs_op S (cs_cl S k)) j = true ↔ j = i)) ∧ ∀ j, j < 32 → bt (cs_cl S k) j = true → j = i ∨ ∃ m, m < cs_g S ∧ cs_s S m = cr_op j := by
  have h9 := cr_k9 h.1
  have hc := h.1.2.1 k hk
  unfold cr_P at hp
  rw [Bool.and_eq_true, Bool.not_eq_true', decide_eq_true_eq] at hp
  obtain ⟨i, hi, hb⟩ := fb_ct_pos.mp (show 0 < fb_ct (bt (cs_op S (cs_cl S k))) 20 by omega)
  have h2 := fb_two.mp (show fb_ct (bt (cs_op S (cs_cl S k))) 20 ≤ 1 by omega)
  obtain ⟨b1, b2, b3⟩ := (cr_op_bt h.1 hc (by omega)).mp hb
  have hs := hc.1 i (by omega) b1
  have huni : ∀ j, j < 32 → (bt (cs_op S (cs_cl S k)) j = true ↔ j = i) := by
    intro j hj
    constructor
    · intro q
      have hj2 := cr_sg9 h9 (hc.1 j hj ((cr_op_bt h.1 hc hj).mp q).1)
      rcases Nat.lt_trichotomy i j with z | z | z
      · exact absurd ⟨hb, q⟩ (h2 i j z (by omega))
      · exact z.symm
      · exact absurd ⟨q, hb⟩ (h2 j i z hi)
    · rintro rfl; exact hb
  refine ⟨i, hs, b1, b2, b3, huni, fun j hj q => ?_⟩
  by_cases e : j = i
  · exact Or.inl e
  · right
    have hsj := hc.1 j hj q
    have v1 : bt (cs_va S) j = false := by
      cases b : bt (cs_va S) j with
      | false => rfl
      | true =>
        have : cs_tr S (cs_cl S k) = true := decide_eq_true (cb_meet.mpr ⟨j, hj, q, b⟩)
        rw [hp.1] at this; cases this
    have v2 : bt (cs_va S) (cr_op j) = true := by
      cases b : bt (cs_va S) (cr_op j) with
      | true => rfl
      | false => exact absurd ((huni j hj).mp ((cr_op_bt h.1 hc hj).mpr ⟨q, v1, b⟩)) e
    have := cr_sg9 h9 (cr_sg_op h9 hsj)
    exact (h.1.2.2.1.2.2 (cr_op j) (by omega)).mp v2
theorem cs_ca_nI {k : Nat} (hk : k < 60) : cs_ca S (nI k) = cs_cl S k := by
  unfold cs_ca
  rw [if_neg (nI_pos (by omega)), if_neg (nI_ge hk (by omega)), nI_clamp (by omega)]
theorem cr_t60 (h : crp y S f) {k : Nat} (hk : k < cs_t S + cs_n S) : k < 60 := by
  have hB := h.1.1.1
  have := hB.2.1.2; have := hB.2.2.1.2; omega
theorem cr_n60 (h : crp y S f) : cs_t S + cs_n S ≤ 60 := by
  have hB := h.1.1.1
  have := hB.2.1.2; have := hB.2.2.1.2; omega
theorem cr_th (h : crp y S f) : f 0 = nI (cs_k S) := by rw [h.2.1.1]; exact h.1.1.1.2.2.2.1
end CR7
end
section
/-! beginning anew, copying; what holds between the whole class and the reference -/
theorem cr_congr {y : Int32} {S : cs_S} {f f' : Nat → Int32} (h : crp y S f) (e : ∀ j, j < 109 → f' j = f j) : crp y S f' := by
  have h9 := cr_k9 h.1
  have g9 := cr_g9 h.1
  have n60 : cs_t S + cs_n S ≤ 60 := cr_n60 h
  obtain ⟨hI, hF0, hFc, hFt, hFx⟩ := h
  refine ⟨hI, ⟨?_, ?_, ?_, ?_, ?_, ?_, ?_, ?_, ?_, ?_⟩, fun k hk => ?_, fun k hk => ?_, fun x hx9 hxk => ?_⟩
  · rw [e 0 (by omega)]; exact hF0.1
  · rw [e 1 (by omega)]; exact hF0.2.1
  · rw [e 2 (by omega)]; exact hF0.2.2.1
  · rw [e 3 (by omega)]; exact hF0.2.2.2.1
  · rw [e 4 (by omega)]; exact hF0.2.2.2.2.1
  · rw [e 5 (by omega)]; exact hF0.2.2.2.2.2.1
  · rw [e 6 (by omega)]; exact hF0.2.2.2.2.2.2.1
  · rw [e 7 (by omega)]; exact hF0.2.2.2.2.2.2.2.1
  · rw [e 8 (by omega)]; exact hF0.2.2.2.2.2.2.2.2.1
  · rw [e 9 (by omega)]; exact hF0.2.2.2.2.2.2.2.2.2
  · rw [e _ (by omega)]; exact hFc k hk
  · rw [e _ (by omega), e _ (by omega), e _ (by omega), e _ (by omega)]; exact hFt k hk
  · rw [e _ (by omega), e _ (by omega), e _ (by omega)]; exact hFx x hx9 hxk
theorem cr_copy {S N : cs_S} {f : Nat → Int32} (h : cr N f) : cr (cs_copy S N) f := by
  have h9 := cr_k9 h.1
  have g9 := cr_g9 h.1
  have n60 : cs_t N + cs_n N ≤ 60 := cr_n60 h
  obtain ⟨⟨hIs, hIc, hIt, hIr⟩, hF0, hFc, hFt, hFx⟩ := h
  obtain ⟨S', hS'⟩ : ∃ S', S' = cs_copy S N := ⟨_, rfl⟩
  rw [← hS']
  have fg : cs_g S' = cs_g N := by rw [hS']; rfl
  have ft : cs_t S' = cs_t N := by rw [hS']; rfl
  have fn : cs_n S' = cs_n N := by rw [hS']; rfl
  have fk : cs_k S' = cs_k N := by rw [hS']; rfl
  have cp : ∀ (a b : Nat → Int32) (n k : Nat), k < n → va_cpy a b 0 0 n k = a k := fun a b n k hk => by
    rw [pk_cpy_in (Nat.zero_le _) (by omega)]
    congr 1
    omega
  have fcl : ∀ k, k < 60 → cs_cl S' k = cs_cl N k := fun k hk => by rw [hS']; exact cp _ _ 60 k hk
  have fsg : ∀ k, k < 9 → cs_sg S' k = cs_sg N k := fun k hk => by rw [hS']; exact cp _ _ 9 k hk
  have flv : ∀ k, k < 9 → cs_lv S' k = cs_lv N k := fun k hk => by rw [hS']; exact cp _ _ 9 k hk
  have frs : ∀ k, k < 9 → cs_rs S' k = cs_rs N k := fun k hk => by rw [hS']; exact cp _ _ 9 k hk
  have s1 : ∀ k, k < 9 → cs_s S' k = cs_s N k := fun k hk => by unfold cs_s; rw [fsg k hk]
  have l1 : ∀ k, k < 9 → cs_l S' k = cs_l N k := fun k hk => by unfold cs_l; rw [flv k hk]
  have p1 : ∀ k, k ≤ 9 → cs_pv S' k = cs_pv N k := fun k hk => by
    unfold cs_pv
    by_cases c : k = 0
    · rw [if_pos c, if_pos c]
    · rw [if_neg c, if_neg c, l1 (k - 1) (by omega)]
  refine ⟨⟨⟨by rw [hS']; exact hIs.1, by rw [fk]; exact hIs.2.1, by rw [hS']; exact hIs.2.2.1, by rw [hS']; exact hIs.2.2.2.1, by rw [hS']; exact hIs.2.2.2.2⟩, fun k hk => ?_, ⟨fun k hk => ?_, fun j k hjk hk => ?_, fun j hj => ?_⟩, fun k hk => ?_⟩, ⟨?_, ?_, ?_, ?_, ?_, ?_, ?_, ?_, ?_, ?_⟩, fun k hk => ?_, fun k hk => ?_, fun x hx9 hxk => ?_⟩
  · rw [ft, fn] at hk; rw [fk, fcl k (by omega)]; exact hIc k hk
  · rw [fg] at hk; rw [s1 k (by omega), l1 k (by omega), fk, fsg k (by omega), flv k (by omega)]; exact hIt.1 k hk
  · rw [fg] at hk; rw [s1 k (by omega), s1 j (by omega)]; exact hIt.2.1 j k hjk hk
  · rw [fg, show cs_va S' = cs_va N by rw [hS']; rfl, hIt.2.2 j hj]
    constructor
    · rintro ⟨k, hk, e⟩; exact ⟨k, hk, by rw [s1 k (by omega)]; exact e⟩
    · rintro ⟨k, hk, e⟩; exact ⟨k, hk, by rw [← s1 k (by omega)]; exact e⟩
  · rw [fg] at hk
    unfold cr_r
    rw [l1 k (by omega), p1 k (by omega), frs k (by omega), s1 k (by omega), ft, fn]
    rcases hIr k hk with ⟨a, c, hc, b1, b2, b3⟩ | a
    · left
      refine ⟨a, c, hc, b1, by rw [fcl c (by omega)]; exact b2, fun i hi hb => ?_⟩
      rw [fcl c (by omega)] at hb
      rcases b3 i hi hb with z | ⟨j, hj, z⟩
      · exact Or.inl z
      · exact Or.inr ⟨j, hj, by rw [s1 j (by omega)]; exact z⟩
    · exact Or.inr a
  · rw [hS']; exact hF0.1
  · rw [hS']; exact hF0.2.1
  · rw [hS']; exact hF0.2.2.1
  · rw [hS']; exact hF0.2.2.2.1
  · rw [hS']; exact hF0.2.2.2.2.1
  · rw [hS']; exact hF0.2.2.2.2.2.1
  · rw [fg, hF0.2.2.2.2.2.2.1]
    unfold cs_pl
    by_cases c : cs_g N = 0
    · rw [if_pos c, if_pos c]
    · rw [if_neg c, if_neg c, flv _ (by omega)]
  · rw [hS']; exact hF0.2.2.2.2.2.2.2.1
  · rw [hS']; exact hF0.2.2.2.2.2.2.2.2.1
  · rw [hS']; exact hF0.2.2.2.2.2.2.2.2.2
  · rw [ft, fn] at hk; rw [fcl k (by omega)]; exact hFc k hk
  · rw [fg] at hk; rw [s1 k (by omega), flv k (by omega), frs k (by omega)]; exact hFt k hk
  · rw [fg] at hxk
    exact hFx x hx9 (fun k hk => by rw [← s1 k (by omega)]; exact hxk k hk)
/-- a search that begins anew -/
theorem cm_fgs_hi (f : Nat → Int32) : ∀ n j, 49 ≤ j → n ≤ 10 → cm_fgs f n j = f j
  | 0, _, _, _ => rfl
  | n + 1, j, h, hn => by
    unfold cm_fgs cm_fg
    rw [pk_un (by omega), pk_un (by omega), pk_un (by omega)]
    exact cm_fgs_hi f n j h (by omega)
theorem cm_fgs_at (f : Nat → Int32) {x : Nat} (hx : x ≤ 9) : ∀ n, x < n → n ≤ 10 → cm_fgs f n (19 + x) = -nI 6 ∧ cm_fgs f n (29 + x) = -nI 6 ∧ cm_fgs f n (39 + x) = -nI 6
  | 0, h, _ => absurd h (Nat.not_lt_zero _)
  | n + 1, h, hn => by
    unfold cm_fgs cm_fg
    by_cases e : x = n
    · subst e
      refine ⟨?_, ?_, ?_⟩
      · rw [pk_un (by omega), pk_un (by omega), pk_us]
      · rw [pk_un (by omega), pk_us]
      · rw [pk_us]
    · obtain ⟨a, b, c⟩ := cm_fgs_at f hx n (by omega) (by omega)
      refine ⟨?_, ?_, ?_⟩
      · rw [pk_un (by omega), pk_un (by omega), pk_un (by omega)]; exact a
      · rw [pk_un (by omega), pk_un (by omega), pk_un (by omega)]; exact b
      · rw [pk_un (by omega), pk_un (by omega), pk_un (by omega)]; exact c
/-- what a search's settings and told clauses need -/
def cr_S0 (S : cs_S) (f : Nat → Int32) : Prop := (cs_to S = nI (cs_t S) ∧ cs_t S ≤ 20) ∧ (cs_th S = nI (cs_k S) ∧ 1 ≤ cs_k S ∧ cs_k S ≤ 9) ∧ (∃ r, 1 ≤ r ∧ r ≤ 20 ∧ cs_re S = nI r) ∧ (cs_fi S = nI 0 ∨ cs_fi S = nI 1) ∧ (f 0 = cs_th S ∧ f 1 = cs_re S ∧ f 2 = cs_fi S ∧ f 3 = cs_to S) ∧ ∀ k, k < cs_t S → cr_c (cs_k S) (cs_cl S k) ∧ f (49 + k) = cs_cl S k
theorem cr_S0_of {S : cs_S} {f : Nat → Int32} (h : cr S f) : cr_S0 S f := by
  have hB := h.1.1.1
  exact ⟨hB.2.1, ⟨hB.2.2.2.1, h.1.1.2.1, hB.2.2.2.2⟩, h.1.1.2.2.1, h.1.1.2.2.2.1, ⟨h.2.1.1, h.2.1.2.1, h.2.1.2.2.1, h.2.1.2.2.2.1⟩, fun k hk => ⟨h.1.2.1 k (by omega), h.2.2.1 k (by omega)⟩⟩
theorem cr_anew {S : cs_S} {f : Nat → Int32} (h : cr_S0 S f) : cr (cs_anew S) (cm_an f (cs_t S)) := by
  obtain ⟨ht, hk, hre, hfi, ⟨f0, f1, f2, f3⟩, hc⟩ := h
  obtain ⟨S', hS'⟩ : ∃ S', S' = cs_anew S := ⟨_, rfl⟩
  rw [← hS']
  have fg : cs_g S' = 0 := cs_g_nI (by rw [hS']; rfl) (by omega)
  have fn : cs_n S' = 0 := cs_n_nI (by rw [hS']; rfl) (by omega)
  have ft : cs_t S' = cs_t S := by rw [hS']; rfl
  have fk : cs_k S' = cs_k S := by rw [hS']; rfl
  have fcl : cs_cl S' = cs_cl S := by rw [hS']; rfl
  have an : ∀ j, j ≠ 6 → j ≠ 7 → (j < 10 ∨ 19 ≤ j) → cm_an f (cs_t S) j = cm_fgs (cm_an0 f (cs_t S)) 10 j := fun j h6 h7 hj => by
    unfold cm_an cm_gbk
    rw [pk_un h6, pk_un h7]
    unfold cm_zt
    rw [if_neg (by omega)]
    rfl
  have a0 : ∀ j, j ≠ 8 → j ≠ 9 → j ≠ 5 → j ≠ 7 → j ≠ 4 → (j < 49 ∨ j < 49 + cs_t S) → cm_an0 f (cs_t S) j = f j := fun j h8 h9 h5 h7 h4 hj => by
    unfold cm_an0
    rw [pk_un h7, pk_un h5, pk_un h9, pk_un h8]
    unfold cm_zc
    rw [if_neg (by omega), pk_un h4]
  have alo : ∀ j, j < 4 → cm_an f (cs_t S) j = f j := fun j hj => by
    rw [an j (by omega) (by omega) (Or.inl (by omega)), cm_fgs_lo _ (by omega), a0 j (by omega) (by omega) (by omega) (by omega) (by omega) (Or.inl (by omega))]
  have hz : ∀ k : Nat, ¬ k < 0 := fun k => Nat.not_lt_zero k
  refine ⟨⟨⟨⟨⟨by rw [fg, hS']; rfl, by omega⟩, ⟨by rw [ft, hS']; exact ht.1, by omega⟩, ⟨by rw [fn, hS']; rfl, by omega⟩, ⟨by rw [fk, hS']; exact hk.1, by omega⟩⟩, by rw [fk]; exact hk.2.1, by rw [hS']; exact hre, by rw [hS']; exact hfi, Or.inl (by rw [hS']; rfl)⟩, fun k hk2 => ?_, ⟨fun k hk2 => ?_, fun j k _ hk2 => ?_, fun j hj => ?_⟩, fun k hk2 => ?_⟩, ⟨?_, ?_, ?_, ?_, ?_, ?_, ?_, ?_, ?_, ?_⟩, fun k hk2 => ?_, fun k hk2 => ?_, fun x hx9 hxk => ?_⟩
  · rw [ft, fn, Nat.add_zero] at hk2; rw [fk, fcl]; exact (hc k hk2).1
  · rw [fg] at hk2; exact absurd hk2 (hz k)
  · rw [fg] at hk2; exact absurd hk2 (hz k)
  · rw [fg, show cs_va S' = 0 by rw [hS']; rfl, b_0]
    exact ⟨fun q => (by cases q), fun ⟨k, hk2, _⟩ => absurd hk2 (hz k)⟩
  · rw [fg] at hk2; exact absurd hk2 (hz k)
  · rw [alo 0 (by omega), hS']; exact f0
  · rw [alo 1 (by omega), hS']; exact f1
  · rw [alo 2 (by omega), hS']; exact f2
  · rw [alo 3 (by omega), hS']; exact f3
  · rw [an 4 (by omega) (by omega) (Or.inl (by omega)), cm_fgs_lo _ (by omega), hS']
    unfold cm_an0
    rw [pk_un (by omega), pk_un (by omega), pk_un (by omega), pk_un (by omega)]
    unfold cm_zc
    rw [if_neg (by omega), pk_us]
    rfl
  · rw [an 5 (by omega) (by omega) (Or.inl (by omega)), cm_fgs_lo _ (by omega), hS']
    unfold cm_an0
    rw [pk_un (by omega), pk_us]
    rfl
  · unfold cm_an cm_gbk cs_pl
    rw [pk_us, fg, if_pos rfl]
  · unfold cm_an cm_gbk
    rw [pk_un (by omega), pk_us, hS']
    rfl
  · rw [an 8 (by omega) (by omega) (Or.inl (by omega)), cm_fgs_lo _ (by omega), hS']
    unfold cm_an0
    rw [pk_un (by omega), pk_un (by omega), pk_un (by omega), pk_us]
    rfl
  · rw [an 9 (by omega) (by omega) (Or.inl (by omega)), cm_fgs_lo _ (by omega), hS']
    unfold cm_an0
    rw [pk_un (by omega), pk_un (by omega), pk_us]
    rfl
  · rw [ft, fn, Nat.add_zero] at hk2
    rw [an _ (by omega) (by omega) (Or.inr (by omega)), cm_fgs_hi _ 10 _ (by omega) (by omega), a0 _ (by omega) (by omega) (by omega) (by omega) (by omega) (Or.inr (by omega)), fcl]
    exact (hc k hk2).2
  · rw [fg] at hk2; exact absurd hk2 (hz k)
  · rw [an _ (by omega) (by omega) (Or.inr (by omega)), an _ (by omega) (by omega) (Or.inr (by omega)), an _ (by omega) (by omega) (Or.inr (by omega))]
    exact cm_fgs_at _ hx9 10 (by omega) (Nat.le_refl _)
/-! the relation -/
abbrev cm_hi (M : cm_S) : Nat → Int32 := M.2.2.1
abbrev cm_rc1 (M : cm_S) : Int32 := M.2.2.2.1
abbrev cm_sl (M : cm_S) : Nat → Int32 := M.2.2.2.2.1
abbrev cm_sv (M : cm_S) : Nat → Int32 := M.2.2.2.2.2.1
abbrev cm_pn (M : cm_S) : Int32 := M.2.2.2.2.2.2.2.1
/-- the kept states -/
def cc_Rh (u : Nat) (H : Nat → Option Nat) (L : List cs_S) (hi : Nat → Int32) : Prop := ∀ i, i < u → ∃ j S, H i = some j ∧ L[j]? = some S ∧ cr S (fun k => hi (i * 109 + k))
def cc_Rs (G : Nat → Option Nat) (L : List cs_S) (sl sv : Nat → Int32) : Prop := ∀ s, s < 2 → (G s = none ∧ sv s = 0) ∨ ∃ j S, G s = some j ∧ L[j]? = some S ∧ cr S (fun k => sl (109 * s + k)) ∧ sv s = nI 1
def cc_Rp (f : Nat → Int32) (n : Nat) (pd : Nat → Int32) : Prop := n ≤ 60 ∧ ∀ k, k < n → f k = pd k ∧ nI 33 ≤ f k ∧ f k ≤ nI 126
def cc_R (u : Nat) (N : cs_S) (H G : Nat → Option Nat) (f : Nat → Int32) (n : Nat) (L : List cs_S) (M : cm_S) : Prop := cc_ok u H G L ∧ cr N (cm_st M) ∧ cm_rc1 M = nI u ∧ cc_Rh u H L (cm_hi M) ∧ cc_Rs G L (cm_sl M) (cm_sv M) ∧ cc_Rp f n (cm_pd M) ∧ cm_pn M = nI n
theorem cm_rh_at {u : Nat} (hu : u ≤ 6) (hi : Nat → Int32) {i k : Nat} (hi5 : i < cm_ru u) (hk : k < 109) : cm_rh hi u (i * 109 + k) = if u = 6 then hi ((i + 1) * 109 + k) else hi (i * 109 + k) := by
  unfold cm_rh
  unfold cm_ru at hi5
  by_cases c : u = 6
  · rw [if_pos c] at hi5
    rw [if_pos c, if_pos c]
    unfold cm_sh
    rw [if_pos (by omega), show i * 109 + k + 109 = (i + 1) * 109 + k by omega]
  · rw [if_neg c, if_neg c]
section REL
variable {u : Nat} {N T : cs_S} {H G : Nat → Option Nat} {f : Nat → Int32} {n : Nat} {L : List cs_S} {M : cm_S}
theorem cc_rH_ok (h : cc_ok u H G L) : (∀ i j, cc_rH u H i = some j → j < L.length) ∧ (∀ i, i < cm_ru u → ∃ j, cc_rH u H i = some j) ∧ (∀ i k j, cc_rH u H i = some j → cc_rH u H k = some j → i = k) ∧ (∀ i k j, cc_rH u H i = some j → G k = some j → False) ∧ cm_ru u ≤ 5 := by
  obtain ⟨hu, hH, hG, hun, hi, hg, hd⟩ := h
  have hur : cm_ru u ≤ 5 := by unfold cm_ru; split <;> omega
  by_cases c : u = 6
  · subst c
    have e : ∀ i, cc_rH 6 H i = H (if i < 5 then i + 1 else if i = 5 then 0 else i) := fun i => by
      unfold cc_rH
      rw [if_pos rfl, cc_rot_at]
      split
      · rfl
      · split <;> rfl
    refine ⟨fun i j q => hH _ j (by rw [← e]; exact q), fun i h1 => ?_, fun i k j q1 q2 => ?_, fun i k j q1 q2 => hd _ k j (by rw [← e]; exact q1) q2, hur⟩
    · have h5 : i < 5 := h1
      rw [e, if_pos h5]; exact hun (i + 1) (by omega)
    · rw [e] at q1 q2
      have := hi _ _ j q1 q2
      split at this <;> split at this <;> (try split at this) <;> (try split at this) <;> omega
  · have e : cc_rH u H = H := if_neg c
    have e2 : cm_ru u = u := if_neg c
    rw [e, e2]
    exact ⟨hH, hun, hi, hd, by omega⟩
theorem cc_R_rec (h : cc_R u N H G f n L M) : cc_R (cm_ru u + 1) N (cc_Hr u H L) G f n (cc_Lr u H L N) (cm_rec M u) := by
  obtain ⟨hok, hN, hrc, hRh, hRs, hRp, hpn⟩ := h
  obtain ⟨r1, r2, r3, r4, r5⟩ := cc_rH_ok hok
  obtain ⟨hu, hH, hG, hun, hi, hg, hd⟩ := hok
  -- the kept ones, behind the shift
  have hRR : ∀ i, i < cm_ru u → ∃ j S, cc_rH u H i = some j ∧ L[j]? = some S ∧ cr S (fun k => cm_rh (cm_hi M) u (i * 109 + k)) := by
    intro i hiu
    by_cases c : u = 6
    · subst c
      have hiu5 : i < 5 := hiu
      obtain ⟨j, S, q1, q2, q3⟩ := hRh (i + 1) (by omega)
      refine ⟨j, S, ?_, q2, cr_congr q3 (fun k hk => ?_)⟩
      · unfold cc_rH; rw [if_pos rfl, cc_rot_at, if_pos hiu5]; exact q1
      · show cm_rh (cm_hi M) 6 (i * 109 + k) = cm_hi M ((i + 1) * 109 + k)
        rw [cm_rh_at (by omega) _ hiu hk, if_pos rfl]
    · have e2 : cm_ru u = u := if_neg c
      obtain ⟨j, S, q1, q2, q3⟩ := hRh i (by omega)
      refine ⟨j, S, ?_, q2, cr_congr q3 (fun k hk => ?_)⟩
      · unfold cc_rH; rw [if_neg c]; exact q1
      · show cm_rh (cm_hi M) u (i * 109 + k) = cm_hi M (i * 109 + k)
        rw [cm_rh_at hu _ hiu hk, if_neg c]
  have hcp1 : ∀ i k, i < cm_ru u → k < 109 → cm_cp (cm_st M) (cm_rh (cm_hi M) u) 0 (cm_ru u * 109) 109 (i * 109 + k) = cm_rh (cm_hi M) u (i * 109 + k) := fun i k h1 h2 => by
    unfold cm_cp
    rw [if_neg (fun q => by have := q.1; omega)]
  have hcp2 : ∀ k, k < 109 → cm_cp (cm_st M) (cm_rh (cm_hi M) u) 0 (cm_ru u * 109) 109 (cm_ru u * 109 + k) = cm_st M k := fun k h2 => by
    unfold cm_cp
    rw [if_pos ⟨by omega, by omega⟩, show 0 + (cm_ru u * 109 + k - cm_ru u * 109) = k by omega]
  have e1 : cm_st (cm_rec M u) = cm_st M := rfl
  have e2 : cm_rc1 (cm_rec M u) = nI (cm_ru u + 1) := rfl
  have e3 : cm_hi (cm_rec M u) = cm_cp (cm_st M) (cm_rh (cm_hi M) u) 0 (cm_ru u * 109) 109 := rfl
  have e4 : cm_sl (cm_rec M u) = cm_sl M := rfl
  have e5 : cm_sv (cm_rec M u) = cm_sv M := rfl
  have e6 : cm_pd (cm_rec M u) = cm_pd M := rfl
  have e7 : cm_pn (cm_rec M u) = cm_pn M := rfl
  unfold cc_Hr cc_Lr cc_rHf cc_rL
  generalize cm_rec M u = X at *
  unfold cc_R
  rw [e1, e2, e3, e4, e5, e6, e7]
  generalize hR : cc_rH u H = R at *
  generalize cm_ru u = v at *
  cases hv : R v with
  | some j =>
    have hjl := r1 v j hv
    have hset : ∀ j', j' ≠ j → (L.set j (cs_copy (L.getD j cs_z) N))[j']? = L[j']? := fun j' q => List.getElem?_set_ne (fun z => q z.symm)
    refine ⟨⟨by omega, fun i j' q => ?_, fun i j' q => ?_, fun i q => ?_, r3, hg, r4⟩, hN, rfl, fun i hiv => ?_, fun s hs => ?_, hRp, hpn⟩
    · rw [List.length_set]; exact r1 i j' q
    · rw [List.length_set]; exact hG i j' q
    · by_cases e : i = v
      · exact ⟨j, by rw [e]; exact hv⟩
      · exact r2 i (by omega)
    · by_cases e : i = v
      · subst e
        refine ⟨j, _, hv, List.getElem?_set_self hjl, cr_copy (cr_congr hN (fun k hk => hcp2 k hk))⟩
      · obtain ⟨j', S, q1, q2, q3⟩ := hRR i (by omega)
        refine ⟨j', S, q1, ?_, cr_congr q3 (fun k hk => hcp1 i k (by omega) hk)⟩
        rw [hset j' (fun z => e (r3 i v j (by rw [← z]; exact q1) hv))]
        exact q2
    · rcases hRs s hs with q | ⟨j', S, q1, q2, q3⟩
      · exact Or.inl q
      · exact Or.inr ⟨j', S, q1, by rw [hset j' (fun z => r4 v s j hv (by rw [← z]; exact q1))]; exact q2, q3⟩
  | none =>
    have happ : ∀ j', j' < L.length → (L ++ [cs_copy cs_z N])[j']? = L[j']? := fun j' q => List.getElem?_append_left q
    have hup : ∀ i, i ≠ v → va_up R v (some L.length) i = R i := fun i q => if_neg q
    have hupv : va_up R v (some L.length) v = some L.length := if_pos rfl
    dsimp only
    refine ⟨⟨by omega, fun i j' q => ?_, fun i j' q => ?_, fun i q => ?_, fun i k j' q1 q2 => ?_, hg, fun i k j' q1 q2 => ?_⟩, hN, rfl, fun i hiv => ?_, fun s hs => ?_, hRp, hpn⟩
    · rw [List.length_append]
      by_cases e : i = v
      · rw [e, hupv] at q; cases q; exact Nat.lt_succ_self _
      · rw [hup i e] at q
        exact Nat.lt_of_lt_of_le (r1 i j' q) (Nat.le_add_right _ _)
    · rw [List.length_append]
      exact Nat.lt_of_lt_of_le (hG i j' q) (Nat.le_add_right _ _)
    · by_cases e : i = v
      · exact ⟨_, by rw [e]; exact hupv⟩
      · rw [hup i e]; exact r2 i (by omega)
    · by_cases e1 : i = v
      · by_cases e2 : k = v
        · rw [e1, e2]
        · rw [e1, hupv] at q1
          rw [hup k e2] at q2
          cases q1
          exact absurd (r1 k _ q2) (Nat.lt_irrefl _)
      · by_cases e2 : k = v
        · rw [e2, hupv] at q2
          rw [hup i e1] at q1
          cases q2
          exact absurd (r1 i _ q1) (Nat.lt_irrefl _)
        · rw [hup i e1] at q1
          rw [hup k e2] at q2
          exact r3 i k j' q1 q2
    · by_cases e : i = v
      · rw [e, hupv] at q1
        cases q1
        exact absurd (hG k _ q2) (Nat.lt_irrefl _)
      · rw [hup i e] at q1
        exact r4 i k j' q1 q2
    · by_cases e : i = v
      · subst e
        refine ⟨L.length, cs_copy cs_z N, hupv, by simp, cr_copy (cr_congr hN (fun k hk => hcp2 k hk))⟩
      · obtain ⟨j', S, q1, q2, q3⟩ := hRR i (by omega)
        exact ⟨j', S, by rw [hup i e]; exact q1, by rw [happ j' (r1 i j' q1)]; exact q2, cr_congr q3 (fun k hk => hcp1 i k (by omega) hk)⟩
    · rcases hRs s hs with q | ⟨j', S, q1, q2, q3⟩
      · exact Or.inl q
      · exact Or.inr ⟨j', S, q1, by rw [happ j' (hG s j' q1)]; exact q2, q3⟩
theorem cc_R_st (h : cc_R u N H G f n L M) {N' : cs_S} {f' : Nat → Int32} (q : cr N' f') : cc_R u N' H G f n L (cm_wst M f') := by
  obtain ⟨hok, hN, hrc, hRh, hRs, hRp, hpn⟩ := h
  exact ⟨hok, q, hrc, hRh, hRs, hRp, hpn⟩
theorem cc_R_w2 (h : cc_R u N H G f n L M) (td : Nat → Int32) (m : Int32) : cc_R u N H G f n L (cm_w2 M td m) := h
theorem cc_R_kp (h : cc_R u N H G f n L M) (kp : Nat → Int32) : cc_R u N H G f n L (M.1, kp, M.2.2) := h
end REL
end
section
/-! what a call answers, and that the relation holds again: counts, the trail, places, steps, ways back, undo, saving -/
theorem cb_wi_nat {x : Int32} {a b : Nat} (ha : a < 2 ^ 31) (hb : b < 2 ^ 31) (h : cb_wi x (nI a) (nI b) = true) : ∃ k, a ≤ k ∧ k ≤ b ∧ x = nI k := by
  obtain ⟨h1, h2⟩ := cb_wi_t h
  have h0 : ¬ x < 0 := fun q => h1 (by
    rw [Int32.lt_iff_toInt_lt] at q ⊢
    rw [nI_toInt ha]
    have e : (0 : Int32).toInt = 0 := rfl
    omega)
  obtain ⟨k, hk, rfl⟩ := nI_of h0
  have h3 := (nI_leI hk hb).mp h2
  exact ⟨k, Nat.not_lt.mp (fun q => h1 (nI_lt q ha)), h3, rfl⟩
theorem cb_nI_wi {k a b : Nat} (ha : a ≤ k) (hb : k ≤ b) (h : b < 2 ^ 31) : cb_wi (nI k) (nI a) (nI b) = true := decide_eq_true ⟨nI_nlt ha (by omega), nI_nlt hb h⟩
theorem cb_sub1 : ∀ t, t ≤ 100 → (nI t - nI 1).toInt = (t : Int) - 1 := by decide +kernel
theorem cb_bewi {x : Int32} {t : Nat} (h : t ≤ 100) : cb_be x (nI t) = cb_wi x (nI 0) (nI t - nI 1) := by
  refine decide_eq_decide.mpr ?_
  have e := cb_sub1 t h
  have e2 := nI_toInt (n := t) (by omega)
  have e3 : (nI 0) = (0 : Int32) := rfl
  rw [e3, Int32.lt_iff_toInt_lt, Int32.lt_iff_toInt_lt, Int32.lt_iff_toInt_lt, e, e2]
  omega
theorem cb_be_nat {x : Int32} {t : Nat} (ht : t ≤ 100) (h : cb_be x (nI t) = true) : ∃ k, k < t ∧ x = nI k := by
  obtain ⟨h1, h2⟩ := of_decide_eq_true h
  obtain ⟨k, hk, rfl⟩ := nI_of h1
  exact ⟨k, (nI_ltI hk (by omega)).mp h2, rfl⟩
theorem cb_mod10 : ∀ s, s < 20 → cb_th (nI s) = nI (s % 10) := by decide +kernel
section SIM
variable {l : Launch} {u : Nat} {N T : cs_S} {H G : Nat → Option Nat} {f : Nat → Int32} {n : Nat} {L : List cs_S} {M : cm_S}
/-- one call on both sides: the same answer, and the relation again -/
def cc_G (l : Launch) (mc mm : cw_I) (av : List Value) (u : Nat) (N T : cs_S) (H G : Nat → Option Nat) (f : Nat → Int32) (n : Nat) (L : List cs_S) (M : cm_S) : Prop := ∃ (r : Int32) (u' : Nat) (N' T' : cs_S) (H' G' : Nat → Option Nat) (f' : Nat → Int32) (n' : Nat) (L' : List cs_S) (M' : cm_S), cw_M l mc 5 101 (.ref 0 :: av) (cc_h (nI u) N T H G f (nI n) L) (some (.int r)) (cc_h (nI u') N' T' H' G' f' (nI n') L') ∧ cw_M l mm 0 0 (.ref 0 :: av) (cm_h M) (some (.int r)) (cm_h M') ∧ cc_R u' N' H' G' f' n' L' M' ∧ L.length ≤ L'.length
theorem cc_same {mc mm : cw_I} {av : List Value} {r : Int32} (hR : cc_R u N H G f n L M) (hc : cw_M l mc 5 101 (.ref 0 :: av) (cc_h (nI u) N T H G f (nI n) L) (some (.int r)) (cc_h (nI u) N T H G f (nI n) L)) (hm : cw_M l mm 0 0 (.ref 0 :: av) (cm_h M) (some (.int r)) (cm_h M)) : cc_G l mc mm av u N T H G f n L M :=
  ⟨r, u, N, T, H, G, f, n, L, M, hc, hm, hR, Nat.le_refl _⟩
theorem cc_Lr_len (u : Nat) (H : Nat → Option Nat) (L : List cs_S) (N : cs_S) : L.length ≤ (cc_Lr u H L N).length := cc_rL_len _ _ _ _
theorem cR_u (hR : cc_R u N H G f n L M) : M.2.2.2.1 = nI u := hR.2.2.1
theorem cR_6 (hR : cc_R u N H G f n L M) : u ≤ 6 := hR.1.1
theorem cR_B (hR : cc_R u N H G f n L M) : cs_Bd N := hR.2.1.1.1.1
theorem cR_3 (hR : cc_R u N H G f n L M) : cm_st M 3 = nI (cs_t N) := hR.2.1.2.1.2.2.2.1.trans (cR_B hR).2.1.1
theorem cR_4 (hR : cc_R u N H G f n L M) : cm_st M 4 = nI (cs_n N) := hR.2.1.2.1.2.2.2.2.1.trans (cR_B hR).2.2.1.1
theorem cR_7 (hR : cc_R u N H G f n L M) : cm_st M 7 = nI (cs_g N) := hR.2.1.2.1.2.2.2.2.2.2.2.1.trans (cR_B hR).1.1
theorem cR_0 (hR : cc_R u N H G f n L M) : cm_st M 0 = nI (cs_k N) := hR.2.1.2.1.1.trans (cR_B hR).2.2.2.1
theorem cR_th (hR : cc_R u N H G f n L M) : cs_th N = nI (cs_k N) := (cR_B hR).2.2.2.1
theorem cR_k9 (hR : cc_R u N H G f n L M) : cs_k N ≤ 9 := (cR_B hR).2.2.2.2
theorem cR_t20 (hR : cc_R u N H G f n L M) : cs_t N ≤ 20 := (cR_B hR).2.1.2
theorem cR_g9 (hR : cc_R u N H G f n L M) : cs_g N ≤ 9 := (cR_B hR).1.2
theorem cR_pn (hR : cc_R u N H G f n L M) : M.2.2.2.2.2.2.2.1 = nI n := hR.2.2.2.2.2.2
theorem cR_n60 (hR : cc_R u N H G f n L M) : n ≤ 60 := hR.2.2.2.2.2.1.1
/-- a thing's place -/
theorem cr_pof {S : cs_S} (h : cr_I S) {x : Nat} (hx : x < 10) : ∀ n k, k + n = cs_g S → (cs_pof S (nI x) n k = -nI 6 ∧ ∀ j, k ≤ j → j < cs_g S → cs_s S j % 10 ≠ x) ∨ ∃ p, k ≤ p ∧ p < cs_g S ∧ cs_s S p % 10 = x ∧ cs_pof S (nI x) n k = nI p
  | 0, k, e => Or.inl ⟨rfl, fun j h1 h2 => absurd h2 (by omega)⟩
  | n + 1, k, e => by
    have hs := h.2.2.1.1 k (by omega)
    have s9 := cr_sg9 (cr_k9 h) hs.2.1
    have et : (if cs_sg S k < nI 10 then cs_sg S k else cs_sg S k - nI 10) = nI (cs_s S k % 10) := by rw [hs.1]; exact cb_mod10 _ (by omega)
    have ep : cs_pof S (nI x) (n + 1) k = if nI (cs_s S k % 10) = nI x then nI k else cs_pof S (nI x) n (k + 1) := by
      conv => lhs; unfold cs_pof
      rw [et]
    rw [ep]
    by_cases c : cs_s S k % 10 = x
    · right
      exact ⟨k, Nat.le_refl _, by omega, c, by rw [if_pos (by rw [c])]⟩
    · rw [if_neg (fun q => c ((nI_eq (by omega) (by omega)).mp q))]
      rcases cr_pof h hx n (k + 1) (by omega) with ⟨a, b⟩ | ⟨p, a, b, c2, d⟩
      · left
        refine ⟨a, fun j h1 h2 => ?_⟩
        by_cases q : j = k
        · rw [q]; exact c
        · exact b j (by omega) h2
      · exact Or.inr ⟨p, by omega, b, c2, d⟩
theorem cm_pf_no {f : Nat → Int32} {x : Int32} : ∀ n k a, (∀ j, k ≤ j → j < k + n → f (10 + j) ≠ x) → cm_pf f x n k a = a
  | 0, _, _, _ => rfl
  | n + 1, k, a, h => by
    unfold cm_pf
    rw [if_neg (h k (Nat.le_refl _) (by omega))]
    exact cm_pf_no n (k + 1) a (fun j h1 h2 => h j (by omega) (by omega))
theorem cm_pf_at {f : Nat → Int32} {x : Int32} {p : Nat} (hp : f (10 + p) = x) : ∀ n k a, k ≤ p → p < k + n → (∀ j, k ≤ j → j < k + n → f (10 + j) = x → j = p) → cm_pf f x n k a = nI p
  | 0, _, _, h1, h2, _ => absurd h2 (by omega)
  | n + 1, k, a, h1, h2, hu => by
    unfold cm_pf
    by_cases c : k = p
    · subst c
      rw [if_pos hp]
      exact cm_pf_no n (k + 1) _ (fun j h3 h4 q => absurd (hu j (by omega) (by omega) q) (by omega))
    · exact cm_pf_at hp n (k + 1) _ (by omega) (by omega) (fun j h3 h4 q => hu j (by omega) (by omega) q)
end SIM
end
section
/-! settings, clauses that go, searches that are only tried -/
def fg_gr (P : Nat → Bool) : Nat → Nat → Nat → Nat
  | 0, _, g => g
  | n + 1, t, g => fg_gr P n (t + 1) (if P t then t else g)
theorem fg_le (P : Nat → Bool) (m : Nat) : ∀ n t g, g ≤ t → (fg_gr P n t g ≤ m ↔ g ≤ m ∧ ∀ x, t ≤ x → x < t + n → P x = true → x ≤ m)
  | 0, t, g, _ => ⟨fun h => ⟨h, fun x h1 h2 => absurd h2 (by omega)⟩, fun h => h.1⟩
  | n + 1, t, g, h => by
    unfold fg_gr
    rw [fg_le P m n (t + 1) _ (by split <;> omega)]
    constructor
    · rintro ⟨a, b⟩
      cases c : P t with
      | true =>
        rw [c, if_pos rfl] at a
        refine ⟨by omega, fun x h1 h2 h3 => ?_⟩
        by_cases q : x = t
        · rw [q]; exact a
        · exact b x (by omega) (by omega) h3
      | false =>
        rw [c, if_neg (fun q => by cases q)] at a
        refine ⟨a, fun x h1 h2 h3 => ?_⟩
        by_cases q : x = t
        · rw [q, c] at h3; cases h3
        · exact b x (by omega) (by omega) h3
    · rintro ⟨a, b⟩
      refine ⟨?_, fun x h1 h2 h3 => b x (by omega) (by omega) h3⟩
      split
      · rename_i c; exact b t (Nat.le_refl _) (by omega) c
      · exact a
theorem cm_gi_gr (c : Int32) : ∀ n x a, x + n = 10 → cm_gi c n x (nI a) = nI (fg_gr (fun x => bt c x || bt c (x + 10)) n x a)
  | 0, _, _, _ => rfl
  | n + 1, x, a, h => by
    unfold cm_gi fg_gr
    by_cases q : cm_so c x = -nI 6
    · have q2 := (cm_so_none (by omega)).mp q
      rw [if_pos q, if_neg (by rw [q2.1, q2.2]; exact Bool.false_ne_true)]
      exact cm_gi_gr c n (x + 1) a (by omega)
    · rw [if_neg q, if_pos (by
        cases e1 : bt c x with
        | true => rfl
        | false =>
          cases e2 : bt c (x + 10) with
          | true => rfl
          | false => exact absurd ((cm_so_none (by omega)).mpr ⟨e1, e2⟩) q)]
      exact cm_gi_gr c n (x + 1) x (by omega)
theorem cb_gr_gr (X : Int32) : ∀ n t g, cb_gr X n t (nI g) = nI (fg_gr (fun t => bt (X ||| cb_op X) t) n t g)
  | 0, _, _ => rfl
  | n + 1, t, g => by
    unfold cb_gr fg_gr
    split
    · exact cb_gr_gr X n (t + 1) t
    · exact cb_gr_gr X n (t + 1) g
def cm_g1 (c : Int32) : Nat := fg_gr (fun x => bt c x || bt c (x + 10)) 9 1 0
theorem cm_g1_le {c : Int32} {m : Nat} : cm_g1 c ≤ m ↔ ∀ x, 1 ≤ x → x ≤ 9 → (bt c x = true ∨ bt c (x + 10) = true) → x ≤ m := by
  unfold cm_g1
  rw [fg_le _ _ _ _ _ (by omega)]
  constructor
  · intro h x h1 h2 h3
    exact h.2 x h1 (by omega) (by rw [Bool.or_eq_true]; exact h3)
  · intro h
    refine ⟨Nat.zero_le _, fun x h1 h2 h3 => h x h1 (by omega) ?_⟩
    rw [Bool.or_eq_true] at h3
    exact h3
theorem cm_g1_9 (c : Int32) : cm_g1 c ≤ 9 := cm_g1_le.mpr (fun x _ h _ => h)
theorem cm_gi_1 (c : Int32) : cm_gi c 9 1 (nI 0) = nI (cm_g1 c) := cm_gi_gr c 9 1 0 rfl
theorem cm_gt_mx (f : Nat → Int32) : ∀ n k a, a ≤ 9 → ∃ r, r ≤ 9 ∧ cm_gt f n k (nI a) = nI r ∧ ∀ m, r ≤ m ↔ a ≤ m ∧ ∀ j, k ≤ j → j < k + n → cm_g1 (f (49 + j)) ≤ m
  | 0, k, a, h => ⟨a, h, rfl, fun m => ⟨fun q => ⟨q, fun j h1 h2 => absurd h2 (by omega)⟩, fun q => q.1⟩⟩
  | n + 1, k, a, h => by
    have g9 := cm_g1_9 (f (49 + k))
    unfold cm_gt
    rw [cm_gi_1]
    by_cases c : a < cm_g1 (f (49 + k))
    · rw [if_pos (nI_lt c (by omega))]
      obtain ⟨r, r9, e, q⟩ := cm_gt_mx f n (k + 1) _ g9
      refine ⟨r, r9, e, fun m => (q m).trans ⟨fun ⟨a1, a2⟩ => ⟨by omega, fun j h1 h2 => ?_⟩, fun ⟨a1, a2⟩ => ⟨a2 k (Nat.le_refl _) (by omega), fun j h1 h2 => a2 j (by omega) (by omega)⟩⟩⟩
      by_cases z : j = k
      · rw [z]; exact a1
      · exact a2 j (by omega) (by omega)
    · rw [if_neg (nI_nlt (by omega) (by omega))]
      obtain ⟨r, r9, e, q⟩ := cm_gt_mx f n (k + 1) a h
      refine ⟨r, r9, e, fun m => (q m).trans ⟨fun ⟨a1, a2⟩ => ⟨a1, fun j h1 h2 => ?_⟩, fun ⟨a1, a2⟩ => ⟨a1, fun j h1 h2 => a2 j (by omega) (by omega)⟩⟩⟩
      by_cases z : j = k
      · rw [z]; omega
      · exact a2 j (by omega) (by omega)
theorem cs_all_bt (S : cs_S) (i : Nat) : ∀ n k a, bt (cs_all S n k a) i = true ↔ bt a i = true ∨ ∃ j, k ≤ j ∧ j < k + n ∧ bt (cs_cl S j) i = true
  | 0, k, a => ⟨Or.inl, fun h => h.elim id (fun ⟨j, h1, h2, _⟩ => absurd h2 (by omega))⟩
  | n + 1, k, a => by
    unfold cs_all
    rw [cs_all_bt S i n (k + 1), b_or, Bool.or_eq_true]
    constructor
    · rintro ((h | h) | ⟨j, h1, h2, h3⟩)
      · exact Or.inl h
      · exact Or.inr ⟨k, Nat.le_refl _, by omega, h⟩
      · exact Or.inr ⟨j, by omega, by omega, h3⟩
    · rintro (h | ⟨j, h1, h2, h3⟩)
      · exact Or.inl (Or.inl h)
      · by_cases q : j = k
        · rw [q] at h3; exact Or.inl (Or.inr h3)
        · exact Or.inr ⟨j, by omega, by omega, h3⟩
theorem cr_gt {S : cs_S} {f : Nat → Int32} (h : cr_S0 S f) : ∃ r, r ≤ 9 ∧ cm_gt f (cs_t S) 0 (nI 0) = nI r ∧ cb_gr (cs_all S (cs_t S) 0 (nI 0)) 9 1 (nI 0) = nI r ∧ ∀ m, r ≤ m ↔ ∀ k, k < cs_t S → cm_g1 (cs_cl S k) ≤ m := by
  obtain ⟨ht, hk, -, -, -, hc⟩ := h
  obtain ⟨r, r9, e, q⟩ := cm_gt_mx f (cs_t S) 0 0 (by omega)
  have q2 : ∀ m, r ≤ m ↔ ∀ k, k < cs_t S → cm_g1 (cs_cl S k) ≤ m := fun m => by
    rw [q m]
    constructor
    · rintro ⟨-, a⟩ k hk
      rw [← (hc k hk).2]
      exact a k (Nat.zero_le _) (by omega)
    · intro a
      refine ⟨Nat.zero_le _, fun k _ hk => ?_⟩
      rw [(hc k (by omega)).2]
      exact a k (by omega)
  refine ⟨r, r9, e, ?_, q2⟩
  rw [cb_gr_gr]
  congr 1
  have sg : ∀ i, i < 32 → bt (cs_all S (cs_t S) 0 (nI 0)) i = true → cr_sg 9 i := fun i hi hb => by
    rcases (cs_all_bt S i _ _ _).mp hb with z | ⟨j, _, hj, z⟩
    · rw [show nI 0 = (0 : Int32) from rfl, b_0] at z; cases z
    · exact cr_sg_mono hk.2.2 ((hc j (by omega)).1.1 i hi z)
  have key : ∀ m, fg_gr (fun t => bt (cs_all S (cs_t S) 0 (nI 0) ||| cb_op (cs_all S (cs_t S) 0 (nI 0))) t) 9 1 0 ≤ m ↔ r ≤ m := fun m => by
    rw [fg_le _ _ _ _ _ (by omega), q2]
    have P : ∀ x, 1 ≤ x → x ≤ 9 → (bt (cs_all S (cs_t S) 0 (nI 0) ||| cb_op (cs_all S (cs_t S) 0 (nI 0))) x = true ↔ ∃ k, k < cs_t S ∧ (bt (cs_cl S k) x = true ∨ bt (cs_cl S k) (x + 10) = true)) := fun x h1 h9 => by
      rw [b_or, Bool.or_eq_true, cb_op_bt sg (by omega), show cr_op x = x + 10 from if_pos (by omega), cs_all_bt, cs_all_bt]
      constructor
      · rintro ((z | ⟨j, _, hj, z⟩) | ⟨_, z | ⟨j, _, hj, z⟩⟩)
        · rw [show nI 0 = (0 : Int32) from rfl, b_0] at z; cases z
        · exact ⟨j, by omega, Or.inl z⟩
        · rw [show nI 0 = (0 : Int32) from rfl, b_0] at z; cases z
        · exact ⟨j, by omega, Or.inr z⟩
      · rintro ⟨j, hj, z | z⟩
        · exact Or.inl (Or.inr ⟨j, Nat.zero_le _, by omega, z⟩)
        · exact Or.inr ⟨Or.inl ⟨h1, h9⟩, Or.inr ⟨j, Nat.zero_le _, by omega, z⟩⟩
    constructor
    · rintro ⟨-, a⟩ k hk
      exact cm_g1_le.mpr (fun x h1 h9 hb => a x h1 (by omega) ((P x h1 h9).mpr ⟨k, hk, hb⟩))
    · intro a
      refine ⟨Nat.zero_le _, fun x h1 h2 hb => ?_⟩
      obtain ⟨k, hk, hb⟩ := (P x h1 (by omega)).mp hb
      exact cm_g1_le.mp (a k hk) x h1 (by omega) hb
  exact Nat.le_antisymm ((key r).mpr (Nat.le_refl _)) ((key _).mp (Nat.le_refl _))
theorem cr_c_g1 {a b : Nat} {c : Int32} (h9 : a ≤ 9) (h : cr_c a c) (hg : cm_g1 c ≤ b) : cr_c b c := by
  refine ⟨fun i hi hb => ?_, h.2⟩
  have q := h.1 i hi hb
  rcases q with q | q
  · exact Or.inl ⟨q.1, cm_g1_le.mp hg i q.1 (by omega) (Or.inl hb)⟩
  · have := cm_g1_le.mp hg (i - 10) (by omega) (by omega) (Or.inr (by rw [show i - 10 + 10 = i by omega]; exact hb))
    exact Or.inr ⟨q.1, by omega⟩
theorem crp_re {y : Int32} {S : cs_S} {f : Nat → Int32} (h : crp y S f) {r : Nat} (h1 : 1 ≤ r) (h2 : r ≤ 20) : crp y (cs_wre S (nI r)) (upd f 1 (nI r)) := by
  have g9 := cr_g9 h.1
  have k9 := cr_k9 h.1
  obtain ⟨⟨hIs, hIc, hIt, hIr⟩, hF0, hFc, hFt, hFx⟩ := h
  refine ⟨⟨⟨hIs.1, hIs.2.1, ⟨r, h1, h2, rfl⟩, hIs.2.2.2.1, hIs.2.2.2.2⟩, hIc, hIt, hIr⟩, ⟨(pk_un (by omega)).trans hF0.1, pk_us, (pk_un (by omega)).trans hF0.2.2.1, (pk_un (by omega)).trans hF0.2.2.2.1, (pk_un (by omega)).trans hF0.2.2.2.2.1, (pk_un (by omega)).trans hF0.2.2.2.2.2.1, (pk_un (by omega)).trans hF0.2.2.2.2.2.2.1, (pk_un (by omega)).trans hF0.2.2.2.2.2.2.2.1, (pk_un (by omega)).trans hF0.2.2.2.2.2.2.2.2.1, (pk_un (by omega)).trans hF0.2.2.2.2.2.2.2.2.2⟩, fun k hk => (pk_un (by omega)).trans (hFc k hk), fun k hk => ?_, fun x hx9 hxk => ?_⟩
  · have q := hFt k hk
    exact ⟨(pk_un (by omega)).trans q.1, (pk_un (by omega)).trans q.2.1, (pk_un (by omega)).trans q.2.2.1, (pk_un (by omega)).trans q.2.2.2⟩
  · have q := hFx x hx9 hxk
    exact ⟨(pk_un (by omega)).trans q.1, (pk_un (by omega)).trans q.2.1, (pk_un (by omega)).trans q.2.2⟩
theorem crp_fi {y : Int32} {S : cs_S} {f : Nat → Int32} (h : crp y S f) {v : Int32} (hv : v = nI 0 ∨ v = nI 1) : crp y (cs_wfi S v) (upd f 2 v) := by
  have g9 := cr_g9 h.1
  have k9 := cr_k9 h.1
  obtain ⟨⟨hIs, hIc, hIt, hIr⟩, hF0, hFc, hFt, hFx⟩ := h
  refine ⟨⟨⟨hIs.1, hIs.2.1, hIs.2.2.1, hv, hIs.2.2.2.2⟩, hIc, hIt, hIr⟩, ⟨(pk_un (by omega)).trans hF0.1, (pk_un (by omega)).trans hF0.2.1, pk_us, (pk_un (by omega)).trans hF0.2.2.2.1, (pk_un (by omega)).trans hF0.2.2.2.2.1, (pk_un (by omega)).trans hF0.2.2.2.2.2.1, (pk_un (by omega)).trans hF0.2.2.2.2.2.2.1, (pk_un (by omega)).trans hF0.2.2.2.2.2.2.2.1, (pk_un (by omega)).trans hF0.2.2.2.2.2.2.2.2.1, (pk_un (by omega)).trans hF0.2.2.2.2.2.2.2.2.2⟩, fun k hk => (pk_un (by omega)).trans (hFc k hk), fun k hk => ?_, fun x hx9 hxk => ?_⟩
  · have q := hFt k hk
    exact ⟨(pk_un (by omega)).trans q.1, (pk_un (by omega)).trans q.2.1, (pk_un (by omega)).trans q.2.2.1, (pk_un (by omega)).trans q.2.2.2⟩
  · have q := hFx x hx9 hxk
    exact ⟨(pk_un (by omega)).trans q.1, (pk_un (by omega)).trans q.2.1, (pk_un (by omega)).trans q.2.2⟩
theorem cb_wi01 {x : Int32} : cb_wi x (nI 0) (nI 1) = true ↔ x = nI 0 ∨ x = nI 1 := by
  constructor
  · intro h
    obtain ⟨k, _, hk, rfl⟩ := cb_wi_nat (by omega) (by omega) h
    rcases (show k = 0 ∨ k = 1 by omega) with rfl | rfl
    · exact Or.inl rfl
    · exact Or.inr rfl
  · rintro (rfl | rfl) <;> decide
section SIM
variable {l : Launch} {u : Nat} {N T : cs_S} {H G : Nat → Option Nat} {f : Nat → Int32} {n : Nat} {L : List cs_S} {M : cm_S}
theorem cm_kp_at (M : cm_S) (f2 : Nat → Int32) {k : Nat} (hk : k < 109) : cm_cp (cm_kp M) f2 0 0 109 k = cm_st M k := by
  unfold cm_cp
  rw [if_pos ⟨by omega, by omega⟩]
  show cm_cp M.1 M.2.1 0 0 109 (0 + (k - 0)) = _
  unfold cm_cp
  rw [if_pos ⟨by omega, by omega⟩, show 0 + (0 + (k - 0) - 0) = k by omega]
theorem cc_R_back (hR : cc_R u N H G f n L M) (f2 : Nat → Int32) : cc_R u N H G f n L (cm_cp (cm_kp M) f2 0 0 109, cm_kp M, M.2.2) := by
  obtain ⟨hok, hN, hrc, hRh, hRs, hRp, hpn⟩ := hR
  exact ⟨hok, cr_congr hN (fun k hk => cm_kp_at M f2 hk), hrc, hRh, hRs, hRp, hpn⟩
theorem cb_th_big {s : Nat} (h : 10 ≤ s) (hs : s < 2 ^ 31) : cb_th (nI s) = nI (s - 10) := by
  unfold cb_th
  rw [if_neg (nI_nlt h hs)]
  obtain ⟨r, rfl⟩ : ∃ r, s = r + 10 := ⟨s - 10, by omega⟩
  rw [Nat.add_sub_cancel, ← nI_add, Int32.add_sub_cancel]
end SIM
end
section
/-! clauses, and answers counted by hand -/
theorem cm_si_ct (c : Int32) : ∀ n s a, cm_si c n s a + fb_ct (bt c) s = a + fb_ct (bt c) (s + n)
  | 0, _, _ => rfl
  | n + 1, s, a => by
    have ih := cm_si_ct c n (s + 1) (a + (if bt c s then 1 else 0))
    rw [fb_ct_succ, show s + 1 + n = s + (n + 1) by omega] at ih
    unfold cm_si
    generalize (if bt c s then 1 else 0) = z at *
    omega
theorem cb_neg1 : ∀ r, r ≤ 30 → -nI r - nI 1 = -nI (r + 1) := by decide +kernel
theorem cb_negn : ∀ r, r ≤ 30 → 1 ≤ r → ¬ -nI r = 0 := by decide +kernel
theorem cm_sa_done (c : Int32) : ∀ n x r a, 1 ≤ r → r + n ≤ 30 → cm_sa c n x (-nI r) a = a
  | 0, _, _, _, _, _ => rfl
  | n + 1, x, r, a, h1, h2 => by
    unfold cm_sa
    rw [show (if ¬ cm_so c x = -nI 6 ∧ -nI r = 0 then cm_so c x else a) = a from if_neg (fun q => cb_negn r (by omega) h1 q.2)]
    split
    · rw [show -nI r - nI 0 = -nI r from Int32.sub_zero _]
      exact cm_sa_done c n (x + 1) r a h1 (by omega)
    · rw [cb_neg1 r (by omega)]
      exact cm_sa_done c n (x + 1) (r + 1) a (by omega) (by omega)
theorem cm_sa_sio {c : Int32} (hc : ∀ i, i < 32 → bt c i = true → cr_sg 9 i) : ∀ n x ps q, x + n = 10 → 1 ≤ x → ps + q ≤ 20 → cm_sa c n x (nI q) (-nI 6) = cb_sio c (nI (ps + q + 1)) n x (nI ps)
  | 0, _, _, _, _, _, _ => rfl
  | n + 1, x, ps, q, h, h1, h2 => by
    have P : bt (c ||| cb_op c) x = true ↔ (bt c x = true ∨ bt c (x + 10) = true) := by
      rw [b_or, Bool.or_eq_true, cb_op_bt hc (by omega), show cr_op x = x + 10 from if_pos (by omega)]
      exact ⟨fun z => z.elim Or.inl (fun z => Or.inr z.2), fun z => z.elim Or.inl (fun z => Or.inr ⟨Or.inl ⟨h1, by omega⟩, z⟩)⟩
    unfold cm_sa cb_sio
    by_cases so : cm_so c x = -nI 6
    · have z := (cm_so_none (by omega)).mp so
      rw [if_pos so, if_neg (fun w => w.1 so), if_neg (fun w => by have := P.mp w; rw [z.1, z.2] at this; rcases this with e | e <;> cases e), show nI q - nI 0 = nI q from Int32.sub_zero _]
      exact cm_sa_sio hc n (x + 1) ps q (by omega) (by omega) h2
    · have z : bt c x = true ∨ bt c (x + 10) = true := by
        cases e1 : bt c x with
        | true => exact Or.inl rfl
        | false =>
          cases e2 : bt c (x + 10) with
          | true => exact Or.inr rfl
          | false => exact absurd ((cm_so_none (by omega)).mpr ⟨e1, e2⟩) so
      rw [if_neg so, if_pos (P.mpr z), nI_add]
      match q with
      | 0 =>
        rw [if_pos ⟨so, rfl⟩, if_pos rfl, show nI 0 - nI 1 = -nI 1 by decide, cm_sa_done c n (x + 1) 1 _ (by omega) (by omega)]
        unfold cm_so
        by_cases e1 : bt c x = true
        · rw [if_pos e1, if_pos e1]
        · rw [if_neg e1, if_neg e1, if_pos (z.resolve_left e1)]
      | q + 1 =>
        rw [if_neg (fun w => nI_ne0 (n := q + 1) (by omega) (by omega) w.2), if_neg (fun w => by have := (nI_eq (by omega) (by omega)).mp w; omega), show nI (q + 1) - nI 1 = nI q from nI_pred q, show ps + (q + 1) + 1 = (ps + 1) + q + 1 by omega]
        exact cm_sa_sio hc n (x + 1) (ps + 1) q (by omega) (by omega) (by omega)
theorem cr_cla {y : Int32} {S : cs_S} {f : Nat → Int32} (h : crp y S f) {c : Int32} (hc : cr_c (cs_k S) c) {j : Nat} (hj : j ≤ 12) : cc_cla S c j = cm_cla f c j := by
  have k9 := cr_k9 h.1
  have lo := cr_c_lo k9 hc
  unfold cc_cla cm_cla
  by_cases j0 : j = 0
  · rw [if_pos j0, if_pos j0, cb_pop lo]
    have e : cm_si c 19 1 0 + fb_ct (bt c) 1 = 0 + fb_ct (bt c) 20 := cm_si_ct c 19 1 0
    have z : fb_ct (bt c) 1 = 0 := fb_ct_zero.mpr (fun k hk => by
      cases q : bt c k with
      | false => rfl
      | true =>
        have := hc.1 k (by omega) q
        unfold cr_sg at this
        omega)
    rw [z] at e
    congr 1
    omega
  · rw [if_neg j0, if_neg j0]
    by_cases j1 : j = 10
    · rw [if_pos j1, if_pos j1, show cm_tru f c = cs_tr S c from cr_tru h hc]
    · rw [if_neg j1, if_neg j1]
      have op := cr_opn h hc
      by_cases j2 : j = 11
      · rw [if_pos j2, if_pos j2]
        unfold cm_fa
        rw [show cm_tru f c = cs_tr S c from cr_tru h hc, Bool.and_comm]
        congr 2
        refine decide_eq_decide.mpr ?_
        rw [op.2]
        constructor
        · intro q
          rw [q]
          exact fb_ct_zero.mpr (fun k _ => b_0 k)
        · intro q
          refine b_ext (fun i hi => ?_)
          rw [b_0]
          by_cases i20 : i < 20
          · exact fb_ct_zero.mp q i i20
          · cases z : bt (cs_op S c) i with
            | false => rfl
            | true =>
              have := ((cr_op_bt h.1 hc hi).mp z).1
              rw [lo i (by omega) hi] at this
              cases this
      · rw [if_neg j2, if_neg j2]
        by_cases j3 : j = 12
        · rw [if_pos j3, if_pos j3, op.1]
        · rw [if_neg j3, if_neg j3]
          obtain ⟨q, rfl⟩ : ∃ q, j = q + 1 := ⟨j - 1, by omega⟩
          rw [show nI (q + 1) - nI 1 = nI q from nI_pred q]
          have := cm_sa_sio (c := c) (fun i hi hb => cr_sg_mono k9 (hc.1 i hi hb)) 9 1 0 q rfl (by omega) (by omega)
          rw [Nat.zero_add] at this
          exact this.symm
section SIM
variable {l : Launch} {u : Nat} {N T : cs_S} {H G : Nat → Option Nat} {f : Nat → Int32} {n : Nat} {L : List cs_S} {M : cm_S}
theorem cR_tn (hR : cc_R u N H G f n L M) : cs_to N + cs_le N = nI (cs_t N + cs_n N) ∧ cm_st M 3 + cm_st M 4 = nI (cs_t N + cs_n N) ∧ cs_t N + cs_n N ≤ 60 := by
  refine ⟨?_, ?_, cr_n60 hR.2.1⟩
  · have e1 := (cR_B hR).2.1.1
    have e2 := (cR_B hR).2.2.1.1
    rw [← nI_add, ← e1, ← e2]
  · rw [cR_3 hR, cR_4 hR, nI_add]
end SIM
/-! the ways to choose values -/
theorem bt_nI {A i : Nat} (h : A < 2 ^ 32) : bt (nI A) i = A.testBit i := by
  show (nI A).toBitVec.toNat.testBit i = _
  rw [cn_nI h]
section CHO
variable {N : cs_S} {f : Nat → Int32} {A : Nat}
theorem cs_ch_bt (h : cr_S0 N f) (hA : A < 2 ^ cs_k N) {i : Nat} (hi : i < 32) : bt (cs_ch N (nI A)) i = ((decide (1 ≤ i) && A.testBit (i - 1)) || (decide (11 ≤ i) && (decide (i - 11 < cs_k N) && !A.testBit (i - 11)))) := by
  have k9 := h.2.1.2.2
  have p9 := cb_pow9 k9
  have e : nI (2 ^ cs_k N) - nI 1 - nI A = nI (2 ^ cs_k N - (A + 1)) := by
    have e1 : nI (2 ^ cs_k N) = nI (2 ^ cs_k N - (A + 1)) + nI A + nI 1 := by
      rw [nI_add, nI_add]
      congr 1
      omega
    rw [e1, Int32.add_sub_cancel, Int32.add_sub_cancel]
  unfold cs_ch
  rw [h.2.1.1, cb_pow _ k9, e, b_or, b_shl 1 (by omega) _ hi, b_shl 10 (by omega) _ hi, b_shl 1 (by omega) _ (by omega), bt_nI (by omega), bt_nI (by omega), Nat.testBit_two_pow_sub_succ hA]
  congr 1
  by_cases c : 11 ≤ i
  · rw [decide_eq_true (show 10 ≤ i by omega), decide_eq_true (show 1 ≤ i - 10 by omega), decide_eq_true c, show i - 10 - 1 = i - 11 by omega]
    rfl
  · rw [decide_eq_false c]
    by_cases c2 : 10 ≤ i
    · rw [decide_eq_false (show ¬ 1 ≤ i - 10 by omega), decide_eq_true c2]; rfl
    · rw [decide_eq_false c2]; rfl
theorem cs_ch_lo (h : cr_S0 N f) (hA : A < 2 ^ cs_k N) {i : Nat} (h1 : 1 ≤ i) (hi : i ≤ cs_k N) : bt (cs_ch N (nI A)) i = A.testBit (i - 1) := by
  have k9 := h.2.1.2.2
  rw [cs_ch_bt h hA (by omega), decide_eq_true h1, decide_eq_false (show ¬ 11 ≤ i by omega)]
  cases A.testBit (i - 1) <;> rfl
theorem cs_ch_hi (h : cr_S0 N f) (hA : A < 2 ^ cs_k N) {i : Nat} (h1 : 11 ≤ i) (hi : i ≤ 10 + cs_k N) : bt (cs_ch N (nI A)) i = !A.testBit (i - 11) := by
  have k9 := h.2.1.2.2
  have z : A.testBit (i - 1) = false := Nat.testBit_lt_two_pow (Nat.lt_of_lt_of_le hA (Nat.pow_le_pow_right (by omega) (by omega)))
  rw [cs_ch_bt h hA (by omega), z, decide_eq_true h1, decide_eq_true (show i - 11 < cs_k N by omega), Bool.and_false]
  cases A.testBit (i - 11) <;> rfl
theorem cm_fi_iff (c : Int32) (A : Nat) : ∀ n s a, cm_fi c A n s a = true ↔ a = true ∨ ∃ j, s ≤ j ∧ j < s + n ∧ bt c j = true ∧ j ≠ 10 ∧ cb_n (bt (nI A) (j % 10 - 1)) = cb_wa j
  | 0, s, a => ⟨Or.inl, fun h => h.elim id (fun ⟨j, h1, h2, _⟩ => absurd h2 (by omega))⟩
  | n + 1, s, a => by
    unfold cm_fi
    rw [cm_fi_iff c A n (s + 1), Bool.or_eq_true, Bool.and_eq_true, Bool.and_eq_true, decide_eq_true_iff, decide_eq_true_iff]
    constructor
    · rintro ((h | h) | ⟨j, h1, h2, h3⟩)
      · exact Or.inl h
      · exact Or.inr ⟨s, Nat.le_refl _, by omega, h⟩
      · exact Or.inr ⟨j, by omega, by omega, h3⟩
    · rintro (h | ⟨j, h1, h2, h3⟩)
      · exact Or.inl (Or.inl h)
      · by_cases q : j = s
        · rw [q] at h3; exact Or.inl (Or.inr h3)
        · exact Or.inr ⟨j, by omega, by omega, h3⟩
theorem cr_fit (h : cr_S0 N f) (hA : A < 2 ^ cs_k N) {c : Int32} (hc : cr_c (cs_k N) c) : cm_fi c A 19 1 false = true ↔ ¬ (c &&& cs_ch N (nI A)) = 0 := by
  have k9 := h.2.1.2.2
  have p9 := cb_pow9 k9
  rw [cm_fi_iff, cb_meet]
  constructor
  · rintro (q | ⟨j, h1, h2, hb, h10, he⟩)
    · cases q
    · refine ⟨j, by omega, hb, ?_⟩
      rcases hc.1 j (by omega) hb with q | q
      · rw [cs_ch_lo h hA q.1 q.2]
        rw [bt_nI (by omega), show j % 10 - 1 = j - 1 by omega, show cb_wa j = nI 1 from if_pos (by omega)] at he
        cases z : A.testBit (j - 1) with
        | true => rfl
        | false => rw [z] at he; exact absurd he (by decide)
      · rw [cs_ch_hi h hA q.1 q.2]
        rw [bt_nI (by omega), show j % 10 - 1 = j - 11 by omega, show cb_wa j = nI 0 from if_neg (by omega)] at he
        cases z : A.testBit (j - 11) with
        | false => rfl
        | true => rw [z] at he; exact absurd he (by decide)
  · rintro ⟨j, hj, hb, he⟩
    right
    rcases hc.1 j hj hb with q | q
    · refine ⟨j, q.1, by omega, hb, by omega, ?_⟩
      rw [cs_ch_lo h hA q.1 q.2] at he
      rw [bt_nI (by omega), show j % 10 - 1 = j - 1 by omega, show cb_wa j = nI 1 from if_pos (by omega), he]
      rfl
    · refine ⟨j, by omega, by omega, hb, by omega, ?_⟩
      rw [cs_ch_hi h hA q.1 q.2] at he
      rw [bt_nI (by omega), show j % 10 - 1 = j - 11 by omega, show cb_wa j = nI 0 from if_neg (by omega)]
      cases z : A.testBit (j - 11) with
      | false => rfl
      | true => rw [z] at he; cases he
theorem cs_tbb_bt (S : cs_S) (x : Int32) {i : Nat} (hi : i < 32) : ∀ n k a, k + n ≤ 32 → (bt (cs_tbb S x n k a) i = true ↔ bt a i = true ∨ (k ≤ i ∧ i < k + n ∧ (cs_cl S i &&& x) = 0))
  | 0, k, a, _ => ⟨Or.inl, fun h => h.elim id (fun ⟨h1, h2, _⟩ => absurd h2 (by omega))⟩
  | n + 1, k, a, hk => by
    unfold cs_tbb
    rw [cs_tbb_bt S x hi n (k + 1) _ (by omega)]
    by_cases c : (cs_cl S k &&& x) = 0
    · rw [if_pos c, b_or, cb_one (by omega) hi, Bool.or_eq_true, decide_eq_true_iff]
      constructor
      · rintro ((h | h) | ⟨h1, h2, h3⟩)
        · exact Or.inl h
        · rw [h]; exact Or.inr ⟨Nat.le_refl _, by omega, c⟩
        · exact Or.inr ⟨by omega, by omega, h3⟩
      · rintro (h | ⟨h1, h2, h3⟩)
        · exact Or.inl (Or.inl h)
        · by_cases q : i = k
          · exact Or.inl (Or.inr q)
          · exact Or.inr ⟨by omega, by omega, h3⟩
    · rw [if_neg c]
      constructor
      · rintro (h | ⟨h1, h2, h3⟩)
        · exact Or.inl h
        · exact Or.inr ⟨by omega, by omega, h3⟩
      · rintro (h | ⟨h1, h2, h3⟩)
        · exact Or.inl h
        · by_cases q : i = k
          · rw [q] at h3; exact absurd h3 c
          · exact Or.inr ⟨by omega, by omega, h3⟩
theorem cs_brk_bt (h : cr_S0 N f) {i : Nat} (hi : i < 32) : bt (cs_brk N A) i = true ↔ i < cs_t N ∧ (cs_cl N i &&& cs_ch N (nI A)) = 0 := by
  have t20 := h.1.2
  unfold cs_brk
  rw [cs_tbb_bt N _ hi _ _ _ (by omega), show nI 0 = (0 : Int32) from rfl, b_0]
  constructor
  · rintro (q | ⟨_, h2, h3⟩)
    · cases q
    · exact ⟨by omega, h3⟩
  · rintro ⟨h2, h3⟩
    exact Or.inr ⟨Nat.zero_le _, by omega, h3⟩
theorem cs_brk_lo (h : cr_S0 N f) {i : Nat} (ht : cs_t N ≤ i) (hi : i < 32) : bt (cs_brk N A) i = false := by
  cases q : bt (cs_brk N A) i with
  | false => rfl
  | true => exact absurd ((cs_brk_bt h hi).mp q).1 (by omega)
theorem cm_ia_iff (f : Nat → Int32) (A : Nat) (but : Int32) : ∀ n k, cm_ia f A but n k = true ↔ ∀ j, k ≤ j → j < k + n → nI j = but ∨ cm_fi (f (49 + j)) A 19 1 false = true
  | 0, k => ⟨fun _ j h1 h2 => absurd h2 (by omega), fun _ => rfl⟩
  | n + 1, k => by
    unfold cm_ia
    rw [Bool.and_eq_true, Bool.or_eq_true, decide_eq_true_iff, cm_ia_iff f A but n (k + 1)]
    constructor
    · rintro ⟨a, b⟩ j h1 h2
      by_cases q : j = k
      · rw [q]; exact a
      · exact b j (by omega) (by omega)
    · intro a
      exact ⟨a k (Nat.le_refl _) (by omega), fun j h1 h2 => a j (by omega) (by omega)⟩
theorem cr_isa (h : cr_S0 N f) (hA : A < 2 ^ cs_k N) (but : Int32) : cm_isa f (cs_t N) A but = true ↔ ∀ j, j < cs_t N → nI j = but ∨ bt (cs_brk N A) j = false := by
  have t20 := h.1.2
  have e : ∀ j, j < cs_t N → (cm_fi (f (49 + j)) A 19 1 false = true ↔ bt (cs_brk N A) j = false) := fun j hj => by
    rw [(h.2.2.2.2.2 j hj).2, cr_fit h hA (h.2.2.2.2.2 j hj).1]
    have q := cs_brk_bt (A := A) h (i := j) (by omega)
    constructor
    · intro a
      cases z : bt (cs_brk N A) j with
      | false => rfl
      | true => exact absurd (q.mp z).2 a
    · intro a b
      rw [q.mpr ⟨hj, b⟩] at a
      cases a
  unfold cm_isa
  rw [cm_ia_iff]
  constructor
  · intro a j hj
    rcases a j (Nat.zero_le _) (by omega) with q | q
    · exact Or.inl q
    · exact Or.inr ((e j hj).mp q)
  · intro a j _ hj
    rcases a j (by omega) with q | q
    · exact Or.inl q
    · exact Or.inr ((e j (by omega)).mpr q)
theorem cb_nI6 : ∀ j, j ≤ 60 → nI j ≠ -nI 6 := by decide +kernel
theorem cr_isn (h : cr_S0 N f) (hA : A < 2 ^ cs_k N) : cm_isa f (cs_t N) A (-nI 6) = true ↔ cs_brk N A = 0 := by
  have t20 := h.1.2
  rw [cr_isa h hA]
  constructor
  · intro a
    refine b_ext (fun i hi => ?_)
    rw [b_0]
    by_cases q : i < cs_t N
    · exact (a i q).resolve_left (cb_nI6 i (by omega))
    · exact cs_brk_lo h (by omega) hi
  · intro a j hj
    right
    rw [a, b_0]
theorem cr_an (h : cr_S0 N f) : ∀ n A m, A + n ≤ 2 ^ cs_k N → cs_an N n A m = cm_ab f (cs_t N) (-nI 6) n A m
  | 0, _, _, _ => rfl
  | n + 1, A, m, e => by
    unfold cs_an cm_ab
    have q := cr_isn (A := A) h (by omega)
    by_cases c : cs_brk N A = 0
    · rw [if_pos c, if_pos (q.mpr c)]; exact cr_an h n (A + 1) _ (by omega)
    · rw [if_neg c, if_neg (fun z => c (q.mp z))]; exact cr_an h n (A + 1) _ (by omega)
theorem cr_aw (h : cr_S0 N f) {x : Nat} (h1 : 1 ≤ x) (hx : x ≤ cs_k N) : ∀ n A a b, A + n ≤ 2 ^ cs_k N → cm_io2 f (cs_t N) x n A a b = (cs_aw N (nI x) n A a, cs_an N n A b)
  | 0, _, _, _, _ => rfl
  | n + 1, A, a, b, e => by
    have k9 := h.2.1.2.2
    have p9 := cb_pow9 k9
    have q := cr_isn (A := A) h (by omega)
    have hb : cb_hs (cs_ch N (nI A)) (nI x) = bt (nI A) (x - 1) := by
      rw [cb_hs_bt (by omega), cs_ch_lo h (by omega) h1 hx, bt_nI (by omega)]
    unfold cm_io2 cs_aw cs_an
    rw [cr_aw h h1 hx n (A + 1) _ _ (by omega), hb]
    by_cases c : cs_brk N A = 0
    · rw [if_pos c, if_pos (q.mpr c)]
      by_cases d : bt (nI A) (x - 1) = true
      · rw [if_pos ⟨q.mpr c, d⟩, if_pos ⟨d, c⟩]
      · rw [if_neg (fun z => d z.2), if_neg (fun z => d z.1)]
    · rw [if_neg c, if_neg (fun z => c (q.mp z)), if_neg (fun z => c (q.mp z.1)), if_neg (fun z => c z.2)]
theorem cr_fl2 (h : cr_S0 N f) {c : Int32} (hc : cr_c (cs_k N) c) : ∀ n A b, A + n ≤ 2 ^ cs_k N → cm_fl f (cs_t N) c n A b = (b && cs_fl N c n A)
  | 0, _, b, _ => (Bool.and_true b).symm
  | n + 1, A, b, e => by
    have q := cr_isn (A := A) h (by omega)
    have q2 := cr_fit (A := A) h (by omega) hc
    unfold cm_fl cs_fl
    rw [cr_fl2 h hc n (A + 1) _ (by omega)]
    by_cases d : (c &&& cs_ch N (nI A)) = 0 ∧ cs_brk N A = 0
    · rw [if_pos d, q.mpr d.2, Bool.eq_false_iff.mpr (fun z => q2.mp z d.1)]
      simp
    · rw [if_neg d]
      have z : (!cm_isa f (cs_t N) A (-nI 6) || cm_fi c A 19 1 false) = true := by
        by_cases d2 : cs_brk N A = 0
        · rw [q2.mpr (fun w => d ⟨w, d2⟩), Bool.or_true]
        · rw [Bool.eq_false_iff.mpr (fun w => d2 (q.mp w))]; rfl
      rw [z, Bool.and_true]
theorem cm_ab_cmp (f : Nat → Int32) (t : Nat) {p q : Int32} (hpq : ∀ B, cm_isa f t B p = true → cm_isa f t B q = true) : ∀ n A m m', m ≤ m' → (cm_ab f t q n A m' = cm_ab f t p n A m ↔ m = m' ∧ ∀ B, A ≤ B → B < A + n → cm_isa f t B q = true → cm_isa f t B p = true)
  | 0, A, m, m', _ => ⟨fun e => ⟨Eq.symm e, fun B h1 h2 => absurd h2 (by omega)⟩, fun e => e.1.symm⟩
  | n + 1, A, m, m', hm => by
    have hA := hpq A
    unfold cm_ab
    by_cases c : cm_isa f t A q = true
    · rw [if_pos c]
      by_cases d : cm_isa f t A p = true
      · rw [if_pos d, cm_ab_cmp f t hpq n (A + 1) _ _ (by omega)]
        constructor
        · rintro ⟨a, b⟩
          refine ⟨by omega, fun B h1 h2 h3 => ?_⟩
          by_cases z : B = A
          · rw [z]; exact d
          · exact b B (by omega) (by omega) h3
        · rintro ⟨a, b⟩
          exact ⟨by omega, fun B h1 h2 h3 => b B (by omega) (by omega) h3⟩
      · rw [if_neg d, cm_ab_cmp f t hpq n (A + 1) _ _ (by omega)]
        constructor
        · rintro ⟨a, b⟩
          exact absurd a (by omega)
        · rintro ⟨a, b⟩
          exact absurd (b A (Nat.le_refl _) (by omega) c) d
    · rw [if_neg c, if_neg (fun z => c (hA z)), cm_ab_cmp f t hpq n (A + 1) _ _ (by omega)]
      constructor
      · rintro ⟨a, b⟩
        refine ⟨by omega, fun B h1 h2 h3 => ?_⟩
        by_cases z : B = A
        · rw [z] at h3; exact absurd h3 c
        · exact b B (by omega) (by omega) h3
      · rintro ⟨a, b⟩
        exact ⟨by omega, fun B h1 h2 h3 => b B (by omega) (by omega) h3⟩
theorem cm_nd_bt (f : Nat → Int32) (t th : Nat) {i : Nat} (hi : i < 32) : ∀ n k a, k + n ≤ 32 → (bt (cm_nd f t th n k a) i = true ↔ bt a i = true ∨ (k ≤ i ∧ i < k + n ∧ cm_ab f t (nI i) (2 ^ th) 0 0 = cm_ab f t (-nI 6) (2 ^ th) 0 0))
  | 0, k, a, _ => ⟨Or.inl, fun h => h.elim id (fun ⟨h1, h2, _⟩ => absurd h2 (by omega))⟩
  | n + 1, k, a, hk => by
    unfold cm_nd
    rw [cm_nd_bt f t th hi n (k + 1) _ (by omega), b_or, Bool.or_eq_true]
    by_cases c : cm_ab f t (nI k) (2 ^ th) 0 0 = cm_ab f t (-nI 6) (2 ^ th) 0 0
    · rw [if_pos c, cb_one (by omega) hi, decide_eq_true_iff]
      constructor
      · rintro ((h | h) | ⟨h1, h2, h3⟩)
        · exact Or.inl h
        · rw [h]; exact Or.inr ⟨Nat.le_refl _, by omega, c⟩
        · exact Or.inr ⟨by omega, by omega, h3⟩
      · rintro (h | ⟨h1, h2, h3⟩)
        · exact Or.inl (Or.inl h)
        · by_cases q : i = k
          · exact Or.inl (Or.inr q)
          · exact Or.inr ⟨by omega, by omega, h3⟩
    · rw [if_neg c, show nI 0 = (0 : Int32) from rfl, b_0]
      constructor
      · rintro ((h | h) | ⟨h1, h2, h3⟩)
        · exact Or.inl h
        · cases h
        · exact Or.inr ⟨by omega, by omega, h3⟩
      · rintro (h | ⟨h1, h2, h3⟩)
        · exact Or.inl (Or.inl h)
        · by_cases q : i = k
          · rw [q] at h3; exact absurd h3 c
          · exact Or.inr ⟨by omega, by omega, h3⟩
theorem cs_nd_bt (N : cs_S) (i : Nat) : ∀ n A a, (bt (cs_nd N n A a) i = true ↔ bt a i = true ∨ ∃ B, A ≤ B ∧ B < A + n ∧ cb_bc (cs_brk N B) = nI 1 ∧ bt (cs_brk N B) i = true)
  | 0, A, a => ⟨Or.inl, fun h => h.elim id (fun ⟨B, h1, h2, _⟩ => absurd h2 (by omega))⟩
  | n + 1, A, a => by
    unfold cs_nd
    rw [cs_nd_bt N i n (A + 1)]
    by_cases c : cb_bc (cs_brk N A) = nI 1
    · rw [if_pos c, b_or, Bool.or_eq_true]
      constructor
      · rintro ((h | h) | ⟨B, h1, h2, h3⟩)
        · exact Or.inl h
        · exact Or.inr ⟨A, Nat.le_refl _, by omega, c, h⟩
        · exact Or.inr ⟨B, by omega, by omega, h3⟩
      · rintro (h | ⟨B, h1, h2, h3⟩)
        · exact Or.inl (Or.inl h)
        · by_cases q : B = A
          · rw [q] at h3; exact Or.inl (Or.inr h3.2)
          · exact Or.inr ⟨B, by omega, by omega, h3⟩
    · rw [if_neg c]
      constructor
      · rintro (h | ⟨B, h1, h2, h3⟩)
        · exact Or.inl h
        · exact Or.inr ⟨B, by omega, by omega, h3⟩
      · rintro (h | ⟨B, h1, h2, h3⟩)
        · exact Or.inl h
        · by_cases q : B = A
          · rw [q] at h3; exact absurd h3.1 c
          · exact Or.inr ⟨B, by omega, by omega, h3⟩
theorem cb_all1 : ∀ t, t ≤ 20 → (nI 1 <<< (nI t &&& 31)) - nI 1 = nI (2 ^ t - 1) := by decide +kernel
theorem cs_brk_1 (h : cr_S0 N f) {i : Nat} (hi : i < cs_t N) : (cb_bc (cs_brk N A) = nI 1 ∧ bt (cs_brk N A) i = true) ↔ bt (cs_brk N A) i = true ∧ ∀ j, j < cs_t N → j ≠ i → bt (cs_brk N A) j = false := by
  have t20 := h.1.2
  have lo : cn_lo (cs_brk N A) := fun j h1 h2 => cs_brk_lo h (by omega) h2
  have le := fb_ct_le (bt (cs_brk N A)) 20
  rw [cb_pop lo]
  constructor
  · rintro ⟨a, b⟩
    have e := (nI_eq (by omega) (by omega)).mp a
    refine ⟨b, fun j hj hji => ?_⟩
    cases q : bt (cs_brk N A) j with
    | false => rfl
    | true =>
      have two := fb_two.mp (Nat.le_of_eq e)
      rcases Nat.lt_or_ge i j with z | z
      · exact absurd ⟨b, q⟩ (two i j z (by omega))
      · exact absurd ⟨q, b⟩ (two j i (by omega) (by omega))
  · rintro ⟨a, b⟩
    refine ⟨congrArg nI ?_, a⟩
    have p : 0 < fb_ct (bt (cs_brk N A)) 20 := fb_ct_pos.mpr ⟨i, by omega, a⟩
    have q : fb_ct (bt (cs_brk N A)) 20 ≤ 1 := fb_two.mpr (fun x y hxy hy z => by
      have hx : x = i := Classical.byContradiction (fun w => by
        by_cases xt : x < cs_t N
        · rw [b x xt w] at z; cases z.1
        · rw [cs_brk_lo h (by omega) (by omega)] at z; cases z.1)
      have hy2 : y = i := Classical.byContradiction (fun w => by
        by_cases xt : y < cs_t N
        · rw [b y xt w] at z; cases z.2
        · rw [cs_brk_lo (i := y) h (by omega) (by omega)] at z; cases z.2)
      omega)
    omega
theorem cr_nd (h : cr_S0 N f) : ((nI 1 <<< (cs_to N &&& 31)) - nI 1) &&& (cs_nd N (2 ^ cs_k N) 0 (nI 0) ^^^ (-nI 1)) = cm_nd f (cs_t N) (cs_k N) (cs_t N) 0 (nI 0) := by
  have t20 := h.1.2
  refine b_ext (fun i hi => ?_)
  have p20 : 2 ^ cs_t N ≤ 2 ^ 20 := Nat.pow_le_pow_right (by omega) t20
  have key : i < cs_t N → ((¬ ∃ B, 0 ≤ B ∧ B < 0 + 2 ^ cs_k N ∧ cb_bc (cs_brk N B) = nI 1 ∧ bt (cs_brk N B) i = true) ↔ cm_ab f (cs_t N) (nI i) (2 ^ cs_k N) 0 0 = cm_ab f (cs_t N) (-nI 6) (2 ^ cs_k N) 0 0) := fun hit => by
    have hpq : ∀ B, cm_isa f (cs_t N) B (-nI 6) = true → cm_isa f (cs_t N) B (nI i) = true := fun B z => by
      unfold cm_isa at z ⊢
      rw [cm_ia_iff] at z ⊢
      intro j h1 h2
      exact Or.inr ((z j h1 h2).resolve_left (cb_nI6 j (by omega)))
    rw [cm_ab_cmp f (cs_t N) hpq _ _ _ _ (Nat.le_refl 0)]
    constructor
    · intro a
      refine ⟨rfl, fun B _ hB z => ?_⟩
      rw [cr_isa h (by omega)] at z ⊢
      intro j hj
      right
      by_cases q : j = i
      · rw [q]
        cases w : bt (cs_brk N B) i with
        | false => rfl
        | true =>
          exact absurd ⟨B, Nat.zero_le _, hB, (cs_brk_1 h hit).mpr ⟨w, fun j' hj' hne => (z j' hj').resolve_left (fun e => hne ((nI_eq (by omega) (by omega)).mp e))⟩⟩ a
      · exact (z j hj).resolve_left (fun e => q ((nI_eq (by omega) (by omega)).mp e))
    · rintro ⟨-, a⟩ ⟨B, _, hB, w⟩
      have w2 := (cs_brk_1 h hit).mp w
      have z := a B (Nat.zero_le _) hB ((cr_isa h (by omega) _).mpr (fun j hj => by
        by_cases q : j = i
        · exact Or.inl (by rw [q])
        · exact Or.inr (w2.2 j hj q)))
      have z2 := ((cr_isa h (by omega) _).mp z i hit).resolve_left (cb_nI6 i (by omega))
      rw [w2.1] at z2
      cases z2
  have b1 : bt ((nI 1 <<< (cs_to N &&& 31)) - nI 1) i = decide (i < cs_t N) := by
    rw [h.1.1, cb_all1 _ t20, bt_nI (by omega), Nat.testBit_two_pow_sub_one]
  have b2 : bt (cs_nd N (2 ^ cs_k N) 0 (nI 0) ^^^ (-nI 1)) i = !bt (cs_nd N (2 ^ cs_k N) 0 (nI 0)) i := by
    rw [b_xor, cb_m1bt i hi]
    exact Bool.xor_true _
  have b3 := cs_nd_bt N i (2 ^ cs_k N) 0 (nI 0)
  have b4 := cm_nd_bt f (cs_t N) (cs_k N) hi (cs_t N) 0 (nI 0) (by omega)
  rw [show nI 0 = (0 : Int32) from rfl, b_0] at b3 b4
  rw [b_and, b1, show nI 0 = (0 : Int32) from rfl]
  rw [show nI 0 = (0 : Int32) from rfl] at b2
  rw [b2]
  rw [Bool.eq_iff_iff, Bool.and_eq_true, decide_eq_true_iff, b4, Bool.not_eq_true', Bool.eq_false_iff]
  constructor
  · rintro ⟨hit, a⟩
    exact Or.inr ⟨Nat.zero_le _, by omega, (key hit).mp (fun z => a (b3.mpr (Or.inr z)))⟩
  · rintro (q | ⟨_, hit, a⟩)
    · cases q
    · refine ⟨by omega, fun z => ?_⟩
      rcases b3.mp z with z | z
      · cases z
      · exact (key (by omega)).mpr a z
end CHO
end
section
/-! what is put on the pad -/
theorem cm_rs_nat (x : Int64) : ∀ m, (cm_rs x m).toUInt64.toNat = x.toUInt64.toNat / 2 ^ (8 * m)
  | 0 => (Nat.div_one _).symm
  | m + 1 => by
    have ih := cm_rs_nat x m
    have e : (cm_rs x (m + 1)).toUInt64 = (cm_rs x m).toUInt64 >>> ((nI 8).toInt64.toUInt64 &&& Int64.toUInt64 63) := UInt64.toUInt64_toInt64 _
    rw [e, UInt64.toNat_shiftRight, show ((nI 8).toInt64.toUInt64 &&& Int64.toUInt64 63).toNat % 64 = 8 by decide +kernel, ih, Nat.shiftRight_eq_div_pow, Nat.div_div_eq_div_mul, ← Nat.pow_add, show 8 * m + 8 = 8 * (m + 1) by omega]
theorem cp_sh_s : ∀ m, m < 8 → ((nI 8 * nI m).toInt64.toUInt64 &&& Int64.toUInt64 63).toNat % 64 = 8 * m := by decide +kernel
theorem cp_sh_nat (x : Int64) {m : Nat} (h : m < 8) : (cp_sh x m).toUInt64.toNat = x.toUInt64.toNat / 2 ^ (8 * m) := by
  have e : (cp_sh x m).toUInt64 = x.toUInt64 >>> ((nI 8 * nI m).toInt64.toUInt64 &&& Int64.toUInt64 63) := UInt64.toUInt64_toInt64 _
  rw [e, UInt64.toNat_shiftRight, cp_sh_s m h, Nat.shiftRight_eq_div_pow]
theorem i64_inj {a b : Int64} (h : a.toUInt64 = b.toUInt64) : a = b := by
  rcases a with ⟨x⟩
  rcases b with ⟨y⟩
  exact congrArg Int64.ofUInt64 h
theorem cp_sh_rs (x : Int64) {m : Nat} (h : m < 8) : cm_rs x m = cp_sh x m := by
  apply i64_inj
  apply UInt64.toNat_inj.mp
  rw [cm_rs_nat, cp_sh_nat x h]
theorem cm_rs_8 (x : Int64) : cm_rs x 8 = 0 := by
  apply i64_inj
  apply UInt64.toNat_inj.mp
  rw [cm_rs_nat, Nat.div_eq_of_lt (show x.toUInt64.toNat < 2 ^ (8 * 8) from UInt64.toNat_lt _)]
  rfl
theorem cm_pl_false (x : Int64) : ∀ n m, (cm_pl x n m false).2 = false
  | 0, _ => rfl
  | n + 1, m => by
    unfold cm_pl
    split
    · rfl
    · exact cm_pl_false x n (m + 1)
theorem cp_pl (x : Int64) : ∀ n m, m + n = 8 → ((cm_pl x n m true).2 = false ∧ cp_ci x n m = nI 0) ∨ ((cm_pl x n m true).2 = true ∧ m ≤ (cm_pl x n m true).1 ∧ (cm_pl x n m true).1 ≤ 8 ∧ (∀ j, m ≤ j → j < (cm_pl x n m true).1 → cb_wi (cp_cd x j) (nI 33) (nI 126) = true) ∧ ((cm_rs x (cm_pl x n m true).1 = 0 ∧ cp_ci x n m = nI (cm_pl x n m true).1) ∨ (cm_rs x (cm_pl x n m true).1 ≠ 0 ∧ cp_ci x n m = nI 0)))
  | 0, m, h => by
    obtain rfl : m = 8 := by omega
    exact Or.inr ⟨rfl, Nat.le_refl _, Nat.le_refl _, fun j h1 h2 => absurd h2 (Nat.not_lt.mpr h1), Or.inl ⟨cm_rs_8 x, rfl⟩⟩
  | n + 1, m, h => by
    have er := cp_sh_rs x (m := m) (by omega)
    by_cases c : lg_cmp (cm_rs x m &&& 255) (Int64.ofNat 0) = 0
    · have e : cm_pl x (n + 1) m true = (m, true) := by unfold cm_pl; rw [if_pos c]
      rw [e]
      refine Or.inr ⟨rfl, Nat.le_refl _, by show m ≤ 8; omega, fun j h1 h2 => absurd h2 (Nat.not_lt.mpr h1), ?_⟩
      have c1 : (cm_rs x m &&& 255) = 0 := (lg_cmp_eq _ _).mp c
      by_cases z : cm_rs x m = 0
      · refine Or.inl ⟨z, ?_⟩
        unfold cp_ci
        rw [if_pos ((lg_cmp_eq _ _).mpr (by rw [← er, z]; rfl))]
      · refine Or.inr ⟨z, ?_⟩
        unfold cp_ci
        rw [if_neg (fun q => z (by rw [er, (lg_cmp_eq _ _).mp q]; rfl)), if_pos]
        unfold cp_cd
        rw [← er, c1]
        decide
    · have z : ¬ lg_cmp (cp_sh x m) (Int64.ofNat 0) = 0 := fun q => c (by
        rw [er, (lg_cmp_eq _ _).mp q]
        decide)
      have ecd : (cm_rs x m &&& 255).toInt32 = cp_cd x m := by unfold cp_cd; rw [er]
      have e : cm_pl x (n + 1) m true = cm_pl x n (m + 1) (true && cb_wi (cp_cd x m) (nI 33) (nI 126)) := by
        conv => lhs; unfold cm_pl
        rw [if_neg c, ecd]
      cases w : cb_wi (cp_cd x m) (nI 33) (nI 126) with
      | false =>
        rw [w] at e
        refine Or.inl ⟨by rw [e]; exact cm_pl_false x n (m + 1), ?_⟩
        unfold cp_ci
        rw [if_neg z]
        by_cases d : cp_cd x m < nI 33
        · rw [if_pos d]
        · rw [if_neg d, if_neg (fun q => of_decide_eq_false w ⟨d, Int32.not_lt.mpr q⟩)]
      | true =>
        rw [w] at e
        have w2 := cb_wi_t w
        have e2 : cp_ci x (n + 1) m = cp_ci x n (m + 1) := by
          conv => lhs; unfold cp_ci
          rw [if_neg z, if_neg w2.1, if_pos w2.2]
        rw [e, e2]
        rcases cp_pl x n (m + 1) (by omega) with q | ⟨q1, q2, q3, q4, q5⟩
        · exact Or.inl q
        · refine Or.inr ⟨q1, by show m ≤ (cm_pl x n (m + 1) true).1; omega, q3, fun j h1 h2 => ?_, q5⟩
          by_cases jm : j = m
          · rw [jm]; exact w
          · exact q4 j (by omega) h2
theorem cp_chr : ∀ k, k < 127 → vp_nar .char ((nI k).toUInt32 % 65536).toInt32 = nI k := by decide +kernel
theorem cp_ch_cd {x : Int64} {j : Nat} (h : cb_wi (cp_cd x j) (nI 33) (nI 126) = true) : cp_ch x j = cp_cd x j := by
  obtain ⟨k, _, hk, e⟩ := cb_wi_nat (by omega) (by omega) h
  unfold cp_ch
  rw [e]
  exact cp_chr k (by omega)
theorem cc_Rp_put (x : Int64) : ∀ m n f pd, cc_Rp f n pd → n + m ≤ 60 → (∀ j, j < m → cb_wi (cp_cd x j) (nI 33) (nI 126) = true) → cc_Rp (cp_ap x m n f) (n + m) (cm_pa x m n pd)
  | 0, _, _, _, h, _, _ => h
  | m + 1, n, f, pd, h, hm, hj => by
    have q := hj m (Nat.lt_succ_self _)
    have ih := cc_Rp_put x m (n + 1) (upd f n (cp_ch x m)) (upd pd n (cp_cd x m)) ⟨by omega, fun k hk => by
      by_cases e : k = n
      · subst e
        rw [pk_us, pk_us, cp_ch_cd q]
        exact ⟨rfl, Int32.not_lt.mp (cb_wi_t q).1, (cb_wi_t q).2⟩
      · rw [pk_un e, pk_un e]
        exact h.2 k (by omega)⟩ (by omega) (fun j h2 => hj j (by omega))
    rw [show n + (m + 1) = n + 1 + m by omega]
    exact ih
end
section
/-! clauses that are read from the pad -/
theorem rd_ch {f pd : Nat → Int32} {N : Nat} (hp : cc_Rp f N pd) {k : Nat} (hk : k < N) : ∃ v, 33 ≤ v ∧ v ≤ 126 ∧ f k = nI v ∧ cm_ch pd N k = nI v := by
  obtain ⟨e, h1, h2⟩ := hp.2 k hk
  obtain ⟨v, a, b, c⟩ := cb_wi_nat (by omega) (by omega) (show cb_wi (f k) (nI 33) (nI 126) = true from decide_eq_true ⟨Int32.not_lt.mpr h1, Int32.not_lt.mpr h2⟩)
  refine ⟨v, a, b, c, ?_⟩
  unfold cm_ch
  rw [if_pos hk, ← e, c]
theorem rd_end (pd : Nat → Int32) {N k : Nat} (hk : ¬ k < N) : cm_ch pd N k = -nI 1 := if_neg hk
theorem rd_v : ∀ L, L < 10 → ∀ v, v < 127 → 33 ≤ v → ((nI v - nI 48 ≤ nI L ↔ v ≤ 48 + L) ∧ (nI v - nI 48 ≤ nI 9 ↔ v ≤ 57) ∧ cb_wi (nI v - nI 48) (nI L + nI 1) (nI 9) = decide (48 + L < v ∧ v ≤ 57)) := by decide +kernel
theorem rd_v2 : ∀ v, v < 127 → cp_dg (nI v) = decide (49 ≤ v ∧ v ≤ 57) := by decide +kernel
theorem rd_v1 : ∀ L, L < 10 → cb_wi (-nI 1 - nI 48) (nI L + nI 1) (nI 9) = false := by decide +kernel
theorem rd_d : ∀ d, d < 10 → nI (48 + d) - nI 48 = nI d := by decide +kernel
/-- one digit, with or without a minus before it, and what comes behind it -/
def cm_f1 (ch : Nat → Int32) (N n a1 : Nat) (zb : Bool) (L c : Int32) (m : Nat) (td : Nat → Int32) : Int32 × (Nat → Int32) × Nat := if cb_wi (ch a1 - nI 48) (L + nI 1) (nI 9) then (
      if ch (a1 + 1) = nI 44 ∧ ch a1 - nI 48 < nI 9 then cm_ff ch N n (a1 + 2) (ch a1 - nI 48) (cm_cc c (ch a1 - nI 48) zb) m td
      else if a1 + 1 = N then (-nI 6, upd td m (cm_cc c (ch a1 - nI 48) zb), m + 1)
      else if ch (a1 + 1) = nI 59 then cm_ff ch N n (a1 + 2) (nI 0) (nI 0) (m + 1) (upd td m (cm_cc c (ch a1 - nI 48) zb))
      else (nI (a1 + 1), upd td m (cm_cc c (ch a1 - nI 48) zb), m + 1))
    else (nI a1, td, m)
theorem cm_ff_1 (ch : Nat → Int32) (N n a : Nat) (L c : Int32) (m : Nat) (td : Nat → Int32) : cm_ff ch N (n + 1) a L c m td = cm_f1 ch N n (a + (if ch a = nI 45 then 1 else 0)) (decide (ch a = nI 45)) L c m td := rfl
def rd_tl (td : Nat → Int32) : Nat → Nat → cs_S → cs_S
  | 0, _, S => S
  | n + 1, m, S => rd_tl td n (m + 1) (cs_tell S (td m))
def rd_P (L m r : Nat) (td : Nat → Int32) (X : Int32) (tl : cs_S → cs_S) (sc : Nat) (gt : Nat → Int32) (Y : Int32 × (Nat → Int32) × Nat) : Prop := Y.1 = X ∧ (X = -nI 6 → Y.2.2 = m + sc ∧ 1 ≤ sc ∧ 2 * sc ≤ r + 1 ∧ (∀ k, k < m → Y.2.1 k = td k) ∧ (∀ S, tl S = rd_tl Y.2.1 sc m S) ∧ (∀ k, m ≤ k → k < m + sc → cr_c 9 (Y.2.1 k)) ∧ L ≤ cm_g1 (Y.2.1 m) ∧ ∀ g, L ≤ g → g ≤ 9 → ∃ G, G ≤ 9 ∧ gt g = nI G ∧ ∀ q, G ≤ q ↔ g ≤ q ∧ ∀ k, m ≤ k → k < m + sc → cm_g1 (Y.2.1 k) ≤ q)
def rd_main (f pd : Nat → Int32) (N fuel : Nat) : Prop := ∀ a L c m td r, a + r = N → N < a + 2 * fuel → L ≤ 9 → cr_c L c → rd_P L m r td (cp_ff f r a (nI L) false false) (fun S => cp_tl f r a c false S) (cp_sc f r a) (fun g => cp_gt f r a (nI g)) (cm_ff (cm_ch pd N) N fuel a (nI L) c m td)
theorem cm_cc_eq (c : Int32) {d : Nat} (hd : d < 10) (z : Bool) : cm_cc c (nI d) z = c ||| cb_set (nI (d + (if z then 10 else 0))) ∧ (c ||| cb_set (if z then cb_opp (nI d) else nI d)) = c ||| cb_set (nI (d + (if z then 10 else 0))) := by
  unfold cm_cc cb_set
  cases z
  · exact ⟨by rw [if_neg (fun q => by cases q), if_neg (fun q => by cases q), nI_add], by rw [if_neg (fun q => by cases q), if_neg (fun q => by cases q)]; rfl⟩
  · refine ⟨by rw [if_pos rfl, if_pos rfl, nI_add], ?_⟩
    rw [if_pos rfl, if_pos rfl, cb_opp_nI (by omega), show cr_op d = d + 10 from if_pos hd]
theorem cr_c_dig {L d : Nat} {c : Int32} (h : cr_c L c) (hd : L < d) (h9 : d ≤ 9) (z : Bool) : cr_c d (c ||| cb_set (nI (d + (if z then 10 else 0)))) ∧ cm_g1 (c ||| cb_set (nI (d + (if z then 10 else 0)))) = d := by
  obtain ⟨e, he, hz⟩ : ∃ e, e = d + (if z then 10 else 0) ∧ (e = d ∨ e = d + 10) := ⟨_, rfl, by cases z; exact Or.inl rfl; exact Or.inr rfl⟩
  rw [← he]
  have B : ∀ i, i < 32 → (bt (c ||| cb_set (nI e)) i = true ↔ bt c i = true ∨ i = e) := fun i hi => by
    rw [b_or, Bool.or_eq_true, cb_set_bt (by omega) hi, decide_eq_true_iff]
  refine ⟨⟨fun i hi hb => ?_, fun i h1 hi9 hb => ?_⟩, Nat.le_antisymm (cm_g1_le.mpr (fun x h1 hx9 hb => ?_)) ?_⟩
  · rcases (B i hi).mp hb with q | q
    · exact cr_sg_mono (by omega) (h.1 i hi q)
    · unfold cr_sg; omega
  · have b1 := (B i (by omega)).mp hb.1
    have b2 := (B (i + 10) (by omega)).mp hb.2
    rcases b1 with b1 | b1
    · rcases b2 with b2 | b2
      · exact h.2 i h1 hi9 ⟨b1, b2⟩
      · have := h.1 i (by omega) b1
        unfold cr_sg at this
        omega
    · rcases b2 with b2 | b2
      · have := h.1 (i + 10) (by omega) b2
        unfold cr_sg at this
        omega
      · omega
  · rcases hb with hb | hb
    · rcases (B x (by omega)).mp hb with q | q
      · have := h.1 x (by omega) q
        unfold cr_sg at this
        omega
      · omega
    · rcases (B (x + 10) (by omega)).mp hb with q | q
      · have := h.1 (x + 10) (by omega) q
        unfold cr_sg at this
        omega
      · omega
  · have := cm_g1_le.mp (Nat.le_refl (cm_g1 (c ||| cb_set (nI e)))) d (by omega) h9 (by
      rcases hz with q | q
      · exact Or.inl ((B d (by omega)).mpr (Or.inr q.symm))
      · exact Or.inr ((B (d + 10) (by omega)).mpr (Or.inr q.symm)))
    exact this
theorem cr_c0 : cr_c 0 (nI 0) := by
  have z : ∀ i, bt (nI 0) i = false := fun i => b_0 i
  exact ⟨fun i _ hb => (by rw [z i] at hb; cases hb), fun i _ _ hb => (by rw [z i] at hb; cases hb.1)⟩
theorem rd_fault {L m r : Nat} {td : Nat → Int32} {x : Nat} (hx : x ≤ 60) {X : Int32} (hX : X = nI x) {tl : cs_S → cs_S} {sc : Nat} {gt : Nat → Int32} {Y : Int32 × (Nat → Int32) × Nat} (hY : Y.1 = nI x) : rd_P L m r td X tl sc gt Y :=
  ⟨hY.trans hX.symm, fun q => absurd (hX.symm.trans q) (cb_nI6 x hx)⟩
theorem rd_dig {f pd : Nat → Int32} {N n : Nat} (hp : cc_Rp f N pd) (ih : rd_main f pd N n) {a1 r1 L m : Nat} {c : Int32} {td : Nat → Int32} {zb bm : Bool} (e : a1 + (r1 + 1) = N) (hf : N < a1 + 2 * (n + 1)) (hL : L ≤ 9) (hc : cr_c L c) (hb : bm = true ∨ f a1 ≠ nI 45) : rd_P L m (r1 + 1) td (cp_ff f (r1 + 1) a1 (nI L) false bm) (fun S => cp_tl f (r1 + 1) a1 c zb S) (cp_sc f (r1 + 1) a1) (fun g => cp_gt f (r1 + 1) a1 (nI g)) (cm_f1 (cm_ch pd N) N n a1 zb (nI L) c m td) := by
  have N60 := hp.1
  obtain ⟨w, w1, w2, ew, ec⟩ := rd_ch hp (k := a1) (by omega)
  have v := rd_v L (by omega) w (by omega) w1
  have X1 : cp_ff f (r1 + 1) a1 (nI L) false bm = if nI w - nI 48 ≤ nI L then nI a1 else if nI w - nI 48 ≤ nI 9 then cp_ff f r1 (a1 + 1) (nI w - nI 48) true false else nI a1 := by
    conv => lhs; unfold cp_ff
    rw [if_neg (fun q => hb.elim (fun z => by rw [z] at q; cases q.2) (fun z => z q.1)), ew]
  by_cases d : 48 + L < w ∧ w ≤ 57
  · obtain ⟨d0, rfl⟩ : ∃ d0, w = 48 + d0 := ⟨w - 48, by omega⟩
    have hd9 : d0 ≤ 9 := by omega
    have ed := rd_d d0 (by omega)
    rw [if_neg (fun q => by have := v.1.mp q; omega), if_pos (v.2.1.mpr d.2), ed] at X1
    have cc := cm_cc_eq c (d := d0) (by omega) zb
    obtain ⟨c', hc'⟩ : ∃ c', c' = c ||| cb_set (nI (d0 + (if zb then 10 else 0))) := ⟨_, rfl⟩
    rw [← hc'] at cc
    obtain ⟨cv, cg⟩ := cr_c_dig hc (show L < d0 by omega) hd9 zb
    rw [← hc'] at cv cg
    have T1 : ∀ S, cp_tl f (r1 + 1) a1 c zb S = cp_tl f r1 (a1 + 1) c' false S := fun S => by
      conv => lhs; unfold cp_tl
      rw [ew, rd_v2 _ (by omega), if_pos (decide_eq_true (by omega)), ed, cc.2, decide_eq_false (fun q => by have := (nI_eq (by omega) (by omega)).mp q; omega)]
    have S1 : cp_sc f (r1 + 1) a1 = cp_sc f r1 (a1 + 1) := by
      conv => lhs; unfold cp_sc
      rw [ew, if_neg (fun q => by have := (nI_eq (by omega) (by omega)).mp q; omega)]
      rfl
    have G1 : ∀ g, g ≤ 9 → cp_gt f (r1 + 1) a1 (nI g) = cp_gt f r1 (a1 + 1) (nI (max g d0)) := fun g hg => by
      conv => lhs; unfold cp_gt
      rw [ew, rd_v2 _ (by omega), if_pos (decide_eq_true (by omega)), ed]
      by_cases q : g < d0
      · rw [if_pos (nI_lt q (by omega)), Nat.max_eq_right (by omega)]
      · rw [if_neg (nI_nlt (by omega) (by omega)), Nat.max_eq_left (by omega)]
    have Y1 : cm_f1 (cm_ch pd N) N n a1 zb (nI L) c m td = if cm_ch pd N (a1 + 1) = nI 44 ∧ nI d0 < nI 9 then cm_ff (cm_ch pd N) N n (a1 + 2) (nI d0) c' m td else if a1 + 1 = N then (-nI 6, upd td m c', m + 1) else if cm_ch pd N (a1 + 1) = nI 59 then cm_ff (cm_ch pd N) N n (a1 + 2) (nI 0) (nI 0) (m + 1) (upd td m c') else (nI (a1 + 1), upd td m c', m + 1) := by
      unfold cm_f1
      rw [ec, v.2.2, if_pos (decide_eq_true d), ed, cc.1]
    match r1, e, X1, T1, S1, G1 with
    | 0, e, X1, T1, S1, G1 =>
      rw [rd_end pd (k := a1 + 1) (by omega), if_neg (fun q => by have := q.1; revert this; decide), if_pos (by omega)] at Y1
      rw [X1, Y1, S1]
      refine ⟨rfl, fun _ => ⟨rfl, Nat.le_refl _, by show 2 * 1 ≤ 0 + 1 + 1; omega, fun k hk => pk_un (by omega), fun S => ?_, fun k h1 h2 => ?_, ?_, fun g h1 h9 => ⟨max g d0, by omega, G1 g h9, fun q => ?_⟩⟩⟩
      · refine (T1 S).trans ?_
        show cs_tell S c' = cs_tell S (upd td m c' m)
        rw [pk_us]
      · obtain rfl : k = m := by have : k < m + 1 := h2; omega
        show cr_c 9 (upd td k c' k)
        rw [pk_us]
        exact ⟨fun i hi hb => cr_sg_mono hd9 (cv.1 i hi hb), cv.2⟩
      · show L ≤ cm_g1 (upd td m c' m)
        rw [pk_us, cg]
        omega
      · constructor
        · intro a
          refine ⟨by omega, fun k h1 h2 => ?_⟩
          obtain rfl : k = m := by have : k < m + 1 := h2; omega
          show cm_g1 (upd td k c' k) ≤ q
          rw [pk_us, cg]
          omega
        · rintro ⟨a1, a2⟩
          have := a2 m (Nat.le_refl _) (Nat.lt_succ_self m)
          rw [show (-nI 6, upd td m c', m + 1).2.1 m = c' from pk_us, cg] at this
          omega
    | r2 + 1, e, X1, T1, S1, G1 =>
      obtain ⟨x, x1, x2, ex, exc⟩ := rd_ch hp (k := a1 + 1) (by omega)
      have nd : ¬ (49 ≤ x ∧ x ≤ 57) → cp_dg (f (a1 + 1)) = false := fun q => by rw [ex, rd_v2 x (by omega)]; exact decide_eq_false q
      rw [exc, if_neg (show ¬ a1 + 1 = N by omega)] at Y1
      by_cases x44 : x = 44
      · subst x44
        have X2 : cp_ff f (r2 + 1) (a1 + 1) (nI d0) true false = if nI d0 = nI 9 then nI (a1 + 1) else cp_ff f r2 (a1 + 1 + 1) (nI d0) false false := by
          conv => lhs; unfold cp_ff
          rw [ex, if_neg (by decide), if_pos rfl]
        rw [X2] at X1
        by_cases d9 : d0 = 9
        · rw [if_pos (by rw [d9])] at X1
          rw [if_neg (fun q => by have := (nI_ltI (by omega) (by omega)).mp q.2; omega), if_neg (by decide)] at Y1
          exact rd_fault (x := a1 + 1) (by omega) X1 (by rw [Y1])
        · rw [if_neg (fun q => d9 ((nI_eq (by omega) (by omega)).mp q))] at X1
          rw [if_pos ⟨rfl, nI_lt (by omega) (by omega)⟩] at Y1
          have I := ih (a1 + 2) d0 c' m td r2 (by omega) (by omega) hd9 cv
          rw [X1, Y1, S1]
          have S2 : cp_sc f (r2 + 1) (a1 + 1) = cp_sc f r2 (a1 + 2) := by
            conv => lhs; unfold cp_sc
            rw [ex, if_neg (by decide)]
            rfl
          rw [S2]
          refine ⟨I.1, fun q => ?_⟩
          obtain ⟨i1, i2, i3, i4, i5, i6, i7, i8⟩ := I.2 q
          refine ⟨i1, i2, by omega, i4, fun S => ?_, i6, by omega, fun g h1 h9 => ?_⟩
          · refine (T1 S).trans (Eq.trans ?_ (i5 S))
            show cp_tl f (r2 + 1) (a1 + 1) c' false S = cp_tl f r2 (a1 + 2) c' false S
            conv => lhs; unfold cp_tl
            rw [nd (by omega), if_neg (fun q => by cases q), ex, if_neg (by decide)]
            rfl
          · obtain ⟨G', g1, g2, g3⟩ := i8 (max g d0) (by omega) (by omega)
            refine ⟨G', g1, ?_, fun q => (g3 q).trans ⟨fun z => ⟨by omega, z.2⟩, fun z => ⟨?_, z.2⟩⟩⟩
            · show cp_gt f (r2 + 1 + 1) a1 (nI g) = _
              rw [G1 g h9, ← g2]
              conv => lhs; unfold cp_gt
              rw [nd (by omega), if_neg (fun q => by cases q)]
            · have := z.2 m (Nat.le_refl _) (by omega)
              omega
      · rw [if_neg (fun q => x44 ((nI_eq (by omega) (by omega)).mp q.1))] at Y1
        by_cases x59 : x = 59
        · subst x59
          have X2 : cp_ff f (r2 + 1) (a1 + 1) (nI d0) true false = cp_ff f r2 (a1 + 1 + 1) (nI 0) false false := by
            conv => lhs; unfold cp_ff
            rw [ex, if_pos rfl]
          rw [X2] at X1
          rw [if_pos rfl] at Y1
          have I := ih (a1 + 2) 0 (nI 0) (m + 1) (upd td m c') r2 (by omega) (by omega) (by omega) cr_c0
          rw [X1, Y1, S1]
          have S2 : cp_sc f (r2 + 1) (a1 + 1) = cp_sc f r2 (a1 + 2) + 1 := by
            conv => lhs; unfold cp_sc
            rw [ex, if_pos rfl]
          rw [S2]
          refine ⟨I.1, fun q => ?_⟩
          obtain ⟨i1, i2, i3, i4, i5, i6, i7, i8⟩ := I.2 q
          have em := i4 m (Nat.lt_succ_self m)
          rw [pk_us] at em
          refine ⟨by omega, by omega, by omega, fun k hk => (i4 k (by omega)).trans (pk_un (by omega)), fun S => ?_, fun k h1 h2 => ?_, by rw [em, cg]; omega, fun g h1 h9 => ?_⟩
          · refine (T1 S).trans ?_
            conv => rhs; unfold rd_tl
            rw [em]
            refine Eq.trans ?_ (i5 (cs_tell S c'))
            show cp_tl f (r2 + 1) (a1 + 1) c' false S = cp_tl f r2 (a1 + 2) (nI 0) false (cs_tell S c')
            conv => lhs; unfold cp_tl
            rw [nd (by omega), if_neg (fun q => by cases q), ex, if_pos rfl]
            rfl
          · by_cases km : k = m
            · rw [km, em]
              exact ⟨fun i hi hb => cr_sg_mono hd9 (cv.1 i hi hb), cv.2⟩
            · exact i6 k (by omega) (by omega)
          · obtain ⟨G', g1, g2, g3⟩ := i8 (max g d0) (by omega) (by omega)
            refine ⟨G', g1, ?_, fun q => (g3 q).trans ⟨fun z => ⟨by omega, fun k h1 h2 => ?_⟩, fun z => ⟨?_, fun k h1 h2 => z.2 k (by omega) (by omega)⟩⟩⟩
            · show cp_gt f (r2 + 1 + 1) a1 (nI g) = _
              rw [G1 g h9, ← g2]
              conv => lhs; unfold cp_gt
              rw [nd (by omega), if_neg (fun q => by cases q)]
            · by_cases km : k = m
              · rw [km, em, cg]; omega
              · exact z.2 k (by omega) (by omega)
            · have := z.2 m (Nat.le_refl _) (by omega)
              rw [em, cg] at this
              omega
        · rw [if_neg (fun q => x59 ((nI_eq (by omega) (by omega)).mp q))] at Y1
          have X2 : cp_ff f (r2 + 1) (a1 + 1) (nI d0) true false = nI (a1 + 1) := by
            conv => lhs; unfold cp_ff
            rw [ex, if_neg (fun q => x59 ((nI_eq (by omega) (by omega)).mp q)), if_neg (fun q => x44 ((nI_eq (by omega) (by omega)).mp q))]
          exact rd_fault (x := a1 + 1) (by omega) (X1.trans X2) (by rw [Y1])
  · have X2 : cp_ff f (r1 + 1) a1 (nI L) false bm = nI a1 := by
      rw [X1]
      split
      · rfl
      · rename_i q
        rw [if_neg (fun z => d ⟨Nat.not_le.mp (fun y => q (v.1.mpr y)), v.2.1.mp z⟩)]
    refine rd_fault (x := a1) (by omega) X2 ?_
    unfold cm_f1
    rw [ec, v.2.2, decide_eq_false d]
    rfl
theorem rd_all {f pd : Nat → Int32} {N : Nat} (hp : cc_Rp f N pd) : ∀ fuel, rd_main f pd N fuel
  | 0 => fun a L c m td r e hf _ _ => absurd hf (by omega)
  | n + 1 => fun a L c m td r e hf hL hc => by
    have N60 := hp.1
    have ih := rd_all hp n
    rw [cm_ff_1]
    match r, e with
    | 0, e =>
      rw [rd_end pd (k := a) (by omega), if_neg (by decide)]
      refine rd_fault (x := a) (by omega) rfl ?_
      unfold cm_f1
      rw [rd_end pd (k := a + 0) (by omega), rd_v1 L (by omega)]
      rfl
    | r1 + 1, e =>
      obtain ⟨w, w1, w2, ew, ec⟩ := rd_ch hp (k := a) (by omega)
      by_cases q : w = 45
      · subst q
        rw [ec, if_pos rfl, decide_eq_true rfl]
        have X1 : cp_ff f (r1 + 1) a (nI L) false false = cp_ff f r1 (a + 1) (nI L) false true := by
          conv => lhs; unfold cp_ff
          rw [if_pos ⟨ew, rfl⟩]
        have T1 : (fun S => cp_tl f (r1 + 1) a c false S) = fun S => cp_tl f r1 (a + 1) c true S := funext fun S => by
          conv => lhs; unfold cp_tl
          rw [ew, rd_v2 45 (by omega), if_neg (by decide), if_neg (by decide)]
          rfl
        have S1 : cp_sc f (r1 + 1) a = cp_sc f r1 (a + 1) := by
          conv => lhs; unfold cp_sc
          rw [ew, if_neg (by decide)]
          rfl
        have G1 : (fun g => cp_gt f (r1 + 1) a (nI g)) = fun g => cp_gt f r1 (a + 1) (nI g) := funext fun g => by
          conv => lhs; unfold cp_gt
          rw [ew, rd_v2 45 (by omega), if_neg (by decide)]
        rw [X1, T1, S1, G1]
        match r1, e with
        | 0, e =>
          refine rd_fault (x := a + 1) (by omega) rfl ?_
          unfold cm_f1
          rw [rd_end pd (k := a + 1) (by omega), rd_v1 L (by omega)]
          rfl
        | r2 + 1, e =>
          have D := rd_dig hp ih (a1 := a + 1) (r1 := r2) (L := L) (m := m) (c := c) (td := td) (zb := true) (bm := true) (by omega) (by omega) hL hc (Or.inl rfl)
          refine ⟨D.1, fun z => ?_⟩
          obtain ⟨i1, i2, i3, i4⟩ := D.2 z
          exact ⟨i1, i2, by omega, i4⟩
      · have n45 : ¬ nI w = nI 45 := fun z => q ((nI_eq (by omega) (by omega)).mp z)
        rw [ec, if_neg n45, decide_eq_false n45]
        exact rd_dig hp ih (a1 := a) (r1 := r1) (L := L) (m := m) (c := c) (td := td) (zb := false) (bm := false) e (by omega) hL hc (Or.inr (by rw [ew]; exact n45))
theorem cp_hm_sc (f : Nat → Int32) : ∀ n i c, cp_hm f n i c + 1 = c + cp_sc f n i
  | 0, _, _ => rfl
  | n + 1, i, c => by
    unfold cp_hm cp_sc
    rw [cp_hm_sc f n (i + 1)]
    by_cases q : f i = nI 59
    · rw [if_pos q, if_pos q]; omega
    · rw [if_neg q, if_neg q]; omega
theorem cm_big_iff (td : Nat → Int32) {th : Nat} (h9 : th ≤ 9) : ∀ n k, cm_big td (nI th) n k = false ↔ ∀ j, k ≤ j → j < k + n → cm_g1 (td j) ≤ th
  | 0, k => ⟨fun _ j h1 h2 => absurd h2 (by omega), fun _ => rfl⟩
  | n + 1, k => by
    have g9 := cm_g1_9 (td k)
    unfold cm_big
    rw [cm_gi_1]
    by_cases q : th < cm_g1 (td k)
    · rw [if_pos (nI_lt q (by omega))]
      exact ⟨fun z => (by cases z), fun z => absurd (z k (Nat.le_refl _) (by omega)) (by omega)⟩
    · rw [if_neg (nI_nlt (by omega) (by omega)), cm_big_iff td h9 n (k + 1)]
      constructor
      · intro a j h1 h2
        by_cases e : j = k
        · rw [e]; omega
        · exact a j (by omega) (by omega)
      · intro a j h1 h2
        exact a j (by omega) (by omega)
theorem rd_tl_anew (td : Nat → Int32) : ∀ n m S, rd_tl td n m (cs_anew S) = cs_anew (rd_tl td n m S)
  | 0, _, _ => rfl
  | n + 1, m, S => rd_tl_anew td n (m + 1) (cs_tell S (td m))
theorem rd_tl_spec (td : Nat → Int32) : ∀ n m S, cs_to S = nI (cs_t S) → cs_t S + n ≤ 100 → (cs_to (rd_tl td n m S) = nI (cs_t S + n) ∧ cs_t (rd_tl td n m S) = cs_t S + n) ∧ (cs_th (rd_tl td n m S) = cs_th S ∧ cs_re (rd_tl td n m S) = cs_re S ∧ cs_fi (rd_tl td n m S) = cs_fi S) ∧ ∀ j, j < cs_t S + n → cs_cl (rd_tl td n m S) j = if j < cs_t S then cs_cl S j else td (m + (j - cs_t S))
  | 0, m, S, h, _ => ⟨⟨h, rfl⟩, ⟨rfl, rfl, rfl⟩, fun j hj => (if_pos hj).symm⟩
  | n + 1, m, S, h, h1 => by
    have eto : cs_to (cs_tell S (td m)) = nI (cs_t S + 1) := by
      show cs_to S + nI 1 = _
      rw [h, nI_add]
    have et : cs_t (cs_tell S (td m)) = cs_t S + 1 := by
      unfold cs_t
      rw [eto]
      exact nI_clamp (by have : cs_t S ≤ 100 := by omega
                         unfold cs_t at this
                         omega)
    obtain ⟨⟨a1, a2⟩, ⟨b1, b2, b3⟩, c⟩ := rd_tl_spec td n (m + 1) (cs_tell S (td m)) (by rw [et]; exact eto) (by omega)
    rw [et] at a1 a2 c
    unfold rd_tl
    refine ⟨⟨by rw [a1]; congr 1; omega, by omega⟩, ⟨b1, b2, b3⟩, fun j hj => ?_⟩
    rw [c j (by omega)]
    by_cases q : j < cs_t S
    · rw [if_pos (by omega), if_pos q]
      exact pk_un (show j ≠ cs_t S by omega)
    · rw [if_neg q]
      by_cases q2 : j = cs_t S
      · rw [if_pos (by omega), q2, Nat.sub_self]
        exact pk_us
      · rw [if_neg (by omega)]
        congr 1
        omega
section SIM
variable {l : Launch} {u : Nat} {N T : cs_S} {H G : Nat → Option Nat} {f : Nat → Int32} {n : Nat} {L : List cs_S} {M : cm_S}
theorem cp_c1_nI : ∀ k, k < 127 → cp_c1 (nI k) := by
  unfold cp_c1
  decide +kernel
theorem cR_c1 (hR : cc_R u N H G f n L M) : ∀ k, k < n → cp_c1 (f k) := by
  intro k hk
  obtain ⟨-, h1, h2⟩ := hR.2.2.2.2.2.1.2 k hk
  have h0 : ¬ f k < 0 := fun q => absurd (Int32.lt_of_le_of_lt h1 q) (by decide)
  obtain ⟨j, hj, e⟩ := nI_of h0
  rw [e] at h2 ⊢
  refine cp_c1_nI j ?_
  rcases Nat.lt_or_ge j 127 with q | q
  · exact q
  · exact absurd h2 (nI_ge (by omega) hj)
theorem cR_rd (hR : cc_R u N H G f n L M) : rd_P 0 0 n M.2.2.2.2.2.2.2.2.1 (cp_ff f n 0 (nI 0) false false) (fun S => cp_tl f n 0 (nI 0) false S) (cp_sc f n 0) (fun g => cp_gt f n 0 (nI g)) (cm_fr (cm_pd M) n M.2.2.2.2.2.2.2.2.1) := by
  have n60 := cR_n60 hR
  exact rd_all hR.2.2.2.2.2.1 31 0 0 (nI 0) 0 _ n (Nat.zero_add n) (by omega) (by omega) cr_c0
theorem cc_R_pl0 (hR : cc_R u N H G f n L M) : cc_R u N H G f 0 L (cm_wpl M (nI 0)) := by
  obtain ⟨hok, hN, hrc, hRh, hRs, hRp, hpn⟩ := hR
  exact ⟨hok, hN, hrc, hRh, hRs, ⟨Nat.zero_le _, fun k hk => absurd hk (Nat.not_lt_zero k)⟩, rfl⟩
end SIM
end
section
/-! p24's law: its small methods, over its six rows -/
def pl_h (q on ze le re tr : Nat → Int32) : cw_H := [.inl (0, 12, .inl q), .inl (0, 61, .inl on), .inl (0, 61, .inl ze), .inl (0, 10, .inl le), .inl (0, 10, .inl re), .inl (0, 10, .inl tr)]
def pl_low (v n : Int32) : Int32 := (v &&& 2147483647) - (v &&& 2147483647) / n * n
theorem pl_low_ok (l : Launch) (h : cw_H) (v : Int32) {n : Nat} (h0 : 0 < n) (hn : n < 2 ^ 31) : cw_M l mm_L_low 0 0 [.int v, .int (nI n)] h (some (.int (pl_low v (nI n)))) h := by
  refine cw_enter cw_KL_low (by decide) (Nat.le_of_ble_eq_true rfl) ?_
  exact cw_run cw_kL_low cw_z 5 [] [] [] (And.intro (nI_ne0 h0 hn) (cw_reti cw_kL_low cw_z rfl rfl))
theorem b_m1' (i : Nat) (hi : i < 32) : bt (-nI 1) i = true := b_m1 i hi
theorem pl_low_nI (v : Int32) {n : Nat} (h0 : 0 < n) (hn : n < 2 ^ 31) : ∃ r, r < n ∧ pl_low v (nI n) = nI r := by
  obtain ⟨w, hw, e⟩ : ∃ w, w < 2 ^ 31 ∧ v &&& 2147483647 = nI w := by
    refine ⟨v.toBitVec.toNat &&& 2147483647, ?_, ?_⟩
    · have : v.toBitVec.toNat &&& 2147483647 ≤ 2147483647 := Nat.and_le_right
      omega
    · rw [← cn_and v.toBitVec.isLt (by decide), ← cn_of]
      rfl
  refine ⟨w % n, Nat.mod_lt _ h0, ?_⟩
  have hd : w / n * n ≤ w := Nat.div_mul_le_self w n
  unfold pl_low
  rw [e, pk_div hw h0 hn, pk_mul, pk_sub hd]
  congr 1
  have := Nat.div_add_mod w n
  rw [Nat.mul_comm] at this
  omega
/-- how many bits a set has -/
def pl_ct (m : Nat) : Nat := fb_ct (fun i => m.testBit i) 10
theorem pl_ct_s : ∀ m, m < 1024 → m ≠ 0 → nI m &&& (nI m - nI 1) = nI (m &&& (m - 1)) ∧ pl_ct m = pl_ct (m &&& (m - 1)) + 1 := by decide +kernel
theorem pl_ct_0 : ∀ m, m < 1024 → pl_ct m = 0 → m = 0 := by decide +kernel
theorem pl_bits_loop (l : Launch) (h : cw_H) (x : Int32) : ∀ n m a, m < 1024 → pl_ct m = n → cw_W l mm_L_bits 0 0 h (some (.int (nI (a + n)))) h 0 0 4 [(2, .int (nI m)), (1, .int (nI a)), (0, .int x)] [] h := by
  intro n
  induction n with
  | zero =>
    intro m a hm hc
    obtain rfl := pl_ct_0 m hm hc
    exact cw_run cw_kL_bits cw_z 3 [true] [] [] (And.intro ((rfl : nI 0 = 0)) (cw_reti cw_kL_bits cw_z rfl rfl))
  | succ n ih =>
    intro m a hm hc
    have h0 : m ≠ 0 := fun z => by
      subst z
      have e : pl_ct 0 = 0 := by decide
      omega
    obtain ⟨e1, e2⟩ := pl_ct_s m hm h0
    have ih1 := ih (m &&& (m - 1)) (a + 1) (Nat.lt_of_le_of_lt Nat.and_le_left hm) (by omega)
    rw [← e1, ← nI_add a 1, show a + 1 + n = a + (n + 1) by omega] at ih1
    exact cw_run cw_kL_bits cw_z 10 [false] [] [] (And.intro (nI_ne0 (by omega) (by omega)) (ih1))
theorem pl_bits (l : Launch) (h : cw_H) {x : Int32} (hx : ∀ i, 10 ≤ i → i < 32 → bt x i = false) : cw_M l mm_L_bits 0 0 [.int x] h (some (.int (nI (fb_ct (bt x) 10)))) h := by
  have hm : x.toBitVec.toNat < 2 ^ 10 := Nat.lt_pow_two_of_testBit _ (fun i hi => by
    rcases Nat.lt_or_ge i 32 with q | q
    · exact hx i hi q
    · exact Nat.testBit_lt_two_pow (Nat.lt_of_lt_of_le x.toBitVec.isLt (Nat.pow_le_pow_right (by omega) q)))
  have k := pl_bits_loop l h x (fb_ct (bt x) 10) x.toBitVec.toNat 0 hm rfl
  rw [← cn_of x, Nat.zero_add] at k
  refine cw_enter cw_KL_bits (by decide) (Nat.le_of_ble_eq_true rfl) ?_
  exact cw_run cw_kL_bits cw_z 4 [] [] [] k
section PLA
variable {l : Launch} {q on ze le re tr : Nat → Int32}
/-- is a clause true? its open things -/
def pl_tr (q on ze : Nat → Int32) (k : Nat) : Bool := decide (¬ ((on k &&& q 10) ||| (ze k &&& q 11)) = 0)
def pl_op (q on ze : Nat → Int32) (k : Nat) : Int32 := (on k ||| ze k) &&& ((q 10 ||| q 11) ^^^ (-nI 1))
theorem pl_isTrue {k : Nat} (hk : k < 61) : cw_M l mm_L_isTrue 0 0 [.int (nI k), .ref 0, .ref 1, .ref 2] (pl_h q on ze le re tr) (some (.int (cb_n (pl_tr q on ze k)))) (pl_h q on ze le re tr) := by
  refine cw_enter cw_KL_isTrue (by decide) (Nat.le_of_ble_eq_true rfl) ?_
  by_cases c : ((on k &&& q 10) ||| (ze k &&& q 11)) = 0
  · rw [show pl_tr q on ze k = false from decide_eq_false (fun z => z c)]
    exact cw_run cw_kL_isTrue cw_z 17 [true] [_, _, _, _] [] (And.intro (rfl) (And.intro (hk) (And.intro (rfl) (And.intro (Nat.le_of_ble_eq_true rfl) (And.intro (rfl) (And.intro (hk) (And.intro (rfl) (And.intro (Nat.le_of_ble_eq_true rfl) (And.intro (c) (cw_retz cw_kL_isTrue cw_z rfl rfl (Or.inl rfl)))))))))))
  · rw [show pl_tr q on ze k = true from decide_eq_true c]
    exact cw_run cw_kL_isTrue cw_z 18 [false] [_, _, _, _] [] (And.intro (rfl) (And.intro (hk) (And.intro (rfl) (And.intro (Nat.le_of_ble_eq_true rfl) (And.intro (rfl) (And.intro (hk) (And.intro (rfl) (And.intro (Nat.le_of_ble_eq_true rfl) (And.intro (c) (cw_retz cw_kL_isTrue cw_z rfl rfl (Or.inr rfl)))))))))))
theorem pl_open {k : Nat} (hk : k < 61) : cw_M l mm_L_open 0 0 [.int (nI k), .ref 0, .ref 1, .ref 2] (pl_h q on ze le re tr) (some (.int (pl_op q on ze k))) (pl_h q on ze le re tr) := by
  refine cw_enter cw_KL_open (by decide) (Nat.le_of_ble_eq_true rfl) ?_
  exact cw_run cw_kL_open cw_z 17 [] [_, _, _, _] [] (And.intro (rfl) (And.intro (hk) (And.intro (rfl) (And.intro (hk) (And.intro (rfl) (And.intro (Nat.le_of_ble_eq_true rfl) (And.intro (rfl) (And.intro (Nat.le_of_ble_eq_true rfl) (cw_reti cw_kL_open cw_z rfl rfl)))))))))
/-- how many of g values stay: things x, levels out of le -/
def pb_n (le : Nat → Int32) (x : Nat → Nat) (L : Int32) : Nat → Nat
  | 0 => 0
  | g + 1 => if le (x g) ≤ L then g + 1 else pb_n le x L g
theorem pb_n_le (le : Nat → Int32) (x : Nat → Nat) (L : Int32) : ∀ g, pb_n le x L g ≤ g
  | 0 => Nat.le_refl _
  | g + 1 => by
    unfold pb_n
    by_cases c : le (x g) ≤ L
    · rw [if_pos c]; exact Nat.le_refl _
    · rw [if_neg c]; exact Nat.le_succ_of_le (pb_n_le le x L g)
/-- what going back does to the rows -/
def pb_F (L : Int32) (a g : Nat) (x : Nat → Nat) (q re q' re' : Nat → Int32) : Prop := q' 7 = nI a ∧ q' 6 = L ∧ (∀ j, j ≠ 6 → j ≠ 7 → j ≠ 10 → j ≠ 11 → q' j = q j) ∧ (∀ i, i < 32 → (bt (q' 10) i = true ↔ bt (q 10) i = true ∧ ∀ k, a ≤ k → k < g → x k ≠ i) ∧ (bt (q' 11) i = true ↔ bt (q 11) i = true ∧ ∀ k, a ≤ k → k < g → x k ≠ i)) ∧ ∀ t, (∀ k, a ≤ k → k < g → x k ≠ t) → re' t = re t
theorem pl_back_loop (l : Launch) (h0 : cw_H) (L : Int32) (x : Nat → Nat) : ∀ g, g ≤ 9 → (∀ k, k < g → tr k = nI (x k) ∧ x k ≤ 9) → ∀ q re, q 7 = nI g → ∃ q' re', pb_F L (pb_n le x L g) g x q re q' re' ∧ cw_W l mm_L_back 0 0 h0 none (pl_h q' on ze le re' tr) 0 0 0 [(0, .int L), (1, .ref 0), (2, .ref 3), (3, .ref 4), (4, .ref 5)] [] (pl_h q on ze le re tr) := by
  intro g
  induction g with
  | zero =>
    intro _ _ q re h7
    refine ⟨upd q 6 L, re, ⟨h7, rfl, fun j h6 _ _ _ => if_neg h6, fun i _ => ⟨⟨fun z => ⟨z, fun k _ hk => absurd hk (Nat.not_lt_zero k)⟩, fun z => z.1⟩, ⟨fun z => ⟨z, fun k _ hk => absurd hk (Nat.not_lt_zero k)⟩, fun z => z.1⟩⟩, fun _ _ => rfl⟩, ?_⟩
    exact cw_run cw_kL_back cw_z 8 [true] [_, _] [] (And.intro (rfl) (And.intro (Nat.le_of_ble_eq_true rfl) (And.intro ((show q 7 ≤ 0 by rw [h7]; decide)) (And.intro (rfl) (And.intro (Nat.le_of_ble_eq_true rfl) (cw_retv cw_kL_back cw_z rfl rfl))))))
  | succ g ih =>
    intro h9 hx q re h7
    obtain ⟨x1, x2⟩ := hx g (by omega)
    have n0 : ¬ q 7 ≤ 0 := by rw [h7]; exact nI_nle (by omega) (by omega)
    have e0 : q 7 - nI 1 = nI g := by rw [h7, pk_sub (by omega)]; rfl
    unfold pb_n
    by_cases c : le (x g) ≤ L
    · rw [if_pos c]
      refine ⟨upd q 6 L, re, ⟨h7, rfl, fun j h6 _ _ _ => if_neg h6, fun i _ => ⟨⟨fun z => ⟨z, fun k h1 h2 => by omega⟩, fun z => z.1⟩, ⟨fun z => ⟨z, fun k h1 h2 => by omega⟩, fun z => z.1⟩⟩, fun _ _ => rfl⟩, ?_⟩
      exact cw_run cw_kL_back cw_z 19 [false, true] [_, _, _, _, _] [] (And.intro (rfl) (And.intro (Nat.le_of_ble_eq_true rfl) (And.intro (n0) (And.intro (rfl) (And.intro (Nat.le_of_ble_eq_true rfl) (And.intro (e0) (And.intro ((show g < 10 by omega)) (And.intro (x1) (And.intro ((show x g < 10 by omega)) (And.intro (c) (And.intro (rfl) (And.intro (Nat.le_of_ble_eq_true rfl) (cw_retv cw_kL_back cw_z rfl rfl)))))))))))))
    · rw [if_neg c]
      obtain ⟨q', re', ⟨f7, f6, fj, fb, fr⟩, w⟩ := ih (by omega) (fun k hk => hx k (by omega)) (upd (upd (upd q 7 (q 7 - nI 1)) 10 (q 10 &&& ((nI 1 <<< (tr g &&& 31)) ^^^ (-nI 1)))) 11 (q 11 &&& ((nI 1 <<< (tr g &&& 31)) ^^^ (-nI 1)))) (upd re (x g) (-nI 6)) e0
      have hle := pb_n_le le x L g
      have hbit : ∀ (b : Int32) (i : Nat), i < 32 → (bt (b &&& ((nI 1 <<< (tr g &&& 31)) ^^^ (-nI 1))) i = true ↔ bt b i = true ∧ x g ≠ i) := by
        intro b i hi
        rw [x1, b_and, b_xor, cb_one (by omega) hi, b_m1' i hi, Bool.and_eq_true]
        by_cases e : i = x g
        · rw [decide_eq_true e]; simp [e]
        · rw [decide_eq_false e]; exact ⟨fun z => ⟨z.1, fun w => e w.symm⟩, fun z => ⟨z.1, rfl⟩⟩
      have hspl : ∀ (P : Nat → Prop), ((∀ k, pb_n le x L g ≤ k → k < g + 1 → P k) ↔ P g ∧ ∀ k, pb_n le x L g ≤ k → k < g → P k) := by
        intro P
        constructor
        · intro z; exact ⟨z g hle (by omega), fun k h1 h2 => z k h1 (by omega)⟩
        · rintro ⟨z1, z2⟩ k h1 h2
          by_cases e : k = g
          · subst e; exact z1
          · exact z2 k h1 (by omega)
      refine ⟨q', re', ⟨f7, f6, fun j h6 h7' h10 h11 => ?_, fun i hi => ⟨?_, ?_⟩, fun t ht => ?_⟩, ?_⟩
      · rw [fj j h6 h7' h10 h11]
        exact (if_neg h11).trans ((if_neg h10).trans (if_neg h7'))
      · rw [(fb i hi).1, hspl]
        show (bt (q 10 &&& ((nI 1 <<< (tr g &&& 31)) ^^^ (-nI 1))) i = true ∧ _) ↔ _
        rw [hbit _ i hi, and_assoc]
      · rw [(fb i hi).2, hspl]
        show (bt (q 11 &&& ((nI 1 <<< (tr g &&& 31)) ^^^ (-nI 1))) i = true ∧ _) ↔ _
        rw [hbit _ i hi, and_assoc]
      · rw [hspl] at ht
        rw [fr t ht.2]
        exact if_neg (fun z => ht.1 z.symm)
      · exact cw_run cw_kL_back cw_z 53 [false, false] [_, _, _, _, _, _, _, _, _, _, _, _] [] (And.intro (rfl) (And.intro (Nat.le_of_ble_eq_true rfl) (And.intro (n0) (And.intro (rfl) (And.intro (Nat.le_of_ble_eq_true rfl) (And.intro (e0) (And.intro ((show g < 10 by omega)) (And.intro (x1) (And.intro ((show x g < 10 by omega)) (And.intro (c) (And.intro (rfl) (And.intro (Nat.le_of_ble_eq_true rfl) (And.intro (rfl) (And.intro (Nat.le_of_ble_eq_true rfl) (And.intro (e0) (And.intro ((show g < 10 by omega)) (And.intro (rfl) (And.intro (Nat.le_of_ble_eq_true rfl) (And.intro (rfl) (And.intro (Nat.le_of_ble_eq_true rfl) (And.intro (rfl) (And.intro (Nat.le_of_ble_eq_true rfl) (And.intro (rfl) (And.intro (Nat.le_of_ble_eq_true rfl) (And.intro (x1) (And.intro ((show x g < 10 by omega)) (cw_less [1, 2, 3, 4, 5] rfl w)))))))))))))))))))))))))))
theorem pl_back {L : Int32} {x : Nat → Nat} {g : Nat} (h9 : g ≤ 9) (hx : ∀ k, k < g → tr k = nI (x k) ∧ x k ≤ 9) (h7 : q 7 = nI g) : ∃ q' re', pb_F L (pb_n le x L g) g x q re q' re' ∧ cw_M l mm_L_back 0 0 [.int L, .ref 0, .ref 3, .ref 4, .ref 5] (pl_h q on ze le re tr) none (pl_h q' on ze le re' tr) := by
  obtain ⟨q', re', f, w⟩ := pl_back_loop l (pl_h q on ze le re tr) L x g h9 hx q re h7
  exact ⟨q', re', f, cw_enter cw_KL_back (by decide) (Nat.le_of_ble_eq_true rfl) w⟩
/-- a value given -/
def pg_w (one : Bool) : Nat := if one then 10 else 11
def pg_q (q : Nat → Int32) (t : Nat) (one : Bool) : Nat → Int32 := upd (upd q 7 (q 7 + nI 1)) (pg_w one) (q (pg_w one) ||| (nI 1 <<< (nI t &&& 31)))
theorem pl_give {g t : Nat} (one : Bool) {r : Int32} (hg : q 7 = nI g) (h9 : g < 10) (ht : t < 10) : cw_M l mm_L_give 0 0 [.int (nI t), .int (cb_n one), .int r, .ref 0, .ref 3, .ref 4, .ref 5] (pl_h q on ze le re tr) none (pl_h (pg_q q t one) on ze (upd le t (q 6)) (upd re t r) (upd tr g (nI t))) := by
  refine cw_enter cw_KL_give (by decide) (Nat.le_of_ble_eq_true rfl) ?_
  cases one with
  | true => exact cw_run cw_kL_give cw_z 33 [false] [_, _, _, _, _, _, _, _] [] (And.intro (rfl) (And.intro (Nat.le_of_ble_eq_true rfl) (And.intro (rfl) (And.intro (Nat.le_of_ble_eq_true rfl) (And.intro (hg) (And.intro (h9) (And.intro (rfl) (And.intro (Nat.le_of_ble_eq_true rfl) (And.intro (rfl) (And.intro (ht) (And.intro (rfl) (And.intro (ht) (And.intro (cb_nt.mpr rfl) (And.intro (rfl) (And.intro (Nat.le_of_ble_eq_true rfl) (And.intro (rfl) (And.intro (Nat.le_of_ble_eq_true rfl) (cw_retv cw_kL_give cw_z rfl rfl))))))))))))))))))
  | false => exact cw_run cw_kL_give cw_z 32 [true] [_, _, _, _, _, _, _, _] [] (And.intro (rfl) (And.intro (Nat.le_of_ble_eq_true rfl) (And.intro (rfl) (And.intro (Nat.le_of_ble_eq_true rfl) (And.intro (hg) (And.intro (h9) (And.intro (rfl) (And.intro (Nat.le_of_ble_eq_true rfl) (And.intro (rfl) (And.intro (ht) (And.intro (rfl) (And.intro (ht) (And.intro (cb_n0.mpr rfl) (And.intro (rfl) (And.intro (Nat.le_of_ble_eq_true rfl) (And.intro (rfl) (And.intro (Nat.le_of_ble_eq_true rfl) (cw_retv cw_kL_give cw_z rfl rfl))))))))))))))))))
/-- all anew -/
def pa_q (q : Nat → Int32) : Nat → Int32 := upd (upd (upd (upd (upd q 4 (nI 0)) 5 (nI 0)) 6 (nI 0)) 8 (nI 0)) 9 (nI 0)
theorem pl_anew {x : Nat → Nat} {g : Nat} (h9 : g ≤ 9) (hx : ∀ k, k < g → tr k = nI (x k) ∧ x k ≤ 9) (h7 : q 7 = nI g) : ∃ q' re', pb_F (-nI 1) (pb_n le x (-nI 1) g) g x q re q' re' ∧ cw_M l mm_L_anew 0 0 [.ref 0, .ref 3, .ref 4, .ref 5] (pl_h q on ze le re tr) none (pl_h (pa_q q') on ze le re' tr) := by
  obtain ⟨q', re', f, w⟩ := pl_back (l := l) (on := on) (ze := ze) (le := le) (re := re) (L := -nI 1) h9 hx h7
  refine ⟨q', re', f, cw_enter cw_KL_anew (by decide) (Nat.le_of_ble_eq_true rfl) ?_⟩
  exact cw_run cw_kL_anew cw_z 26 [] [_, _, _, _, _] [(_, _)] (And.intro (w) (And.intro (Nat.le_refl _) (And.intro (rfl) (And.intro (Nat.le_of_ble_eq_true rfl) (And.intro (rfl) (And.intro (Nat.le_of_ble_eq_true rfl) (And.intro (rfl) (And.intro (Nat.le_of_ble_eq_true rfl) (And.intro (rfl) (And.intro (Nat.le_of_ble_eq_true rfl) (And.intro (rfl) (And.intro (Nat.le_of_ble_eq_true rfl) (cw_retv cw_kL_anew cw_z rfl rfl)))))))))))))
end PLA
end
section
/-! p24: what holds between the class's search and the law's rows -/
def pr_c (c o z : Int32) : Prop := ∀ i, i < 32 → (bt o i = true ↔ i < 10 ∧ bt c i = true) ∧ (bt z i = true ↔ bt c (i + 10) = true)
def pr_q (y : Int32) (S : cs_S) (q : Nat → Int32) : Prop := q 0 = cs_th S ∧ q 1 = cs_re S ∧ q 2 = cs_fi S ∧ q 3 = cs_to S ∧ q 4 = cs_le S ∧ q 5 = cs_sd S ∧ q 6 = cs_pl S (cs_g S) ∧ q 7 = cs_gi S ∧ q 8 = cs_co S ∧ q 9 = y
def pr_k (S : cs_S) (on ze : Nat → Int32) : Prop := ∀ k, k < cs_t S + cs_n S → pr_c (cs_cl S k) (on k) (ze k)
def pr_t (S : cs_S) (le re tr : Nat → Int32) : Prop := ∀ k, k < cs_g S → tr k = nI (cs_s S k % 10) ∧ le (cs_s S k % 10) = cs_lv S k ∧ re (cs_s S k % 10) = cs_rs S k
def pr (y : Int32) (S : cs_S) (q on ze le re tr : Nat → Int32) : Prop := pr_q y S q ∧ pr_c (cs_va S) (q 10) (q 11) ∧ pr_k S on ze ∧ pr_t S le re tr
theorem pr_meet {c v o z a b : Int32} (h1 : pr_c c o z) (h2 : pr_c v a b) (hc : ∀ i, i < 32 → bt c i = true → cr_sg 9 i) : ((o &&& a) ||| (z &&& b)) = 0 ↔ (c &&& v) = 0 := by
  rw [cb_zero, cb_zero]
  constructor
  · intro h i hi
    cases w : bt (c &&& v) i with
    | false => rfl
    | true =>
      rw [b_and, Bool.and_eq_true] at w
      have hs := cr_sg9 (Nat.le_refl 9) (hc i hi w.1)
      exfalso
      by_cases q : i < 10
      · have := h i hi
        rw [b_or, b_and, b_and, ((h1 i hi).1).mpr ⟨q, w.1⟩, ((h2 i hi).1).mpr ⟨q, w.2⟩] at this
        cases this
      · obtain ⟨j, rfl⟩ : ∃ j, i = j + 10 := ⟨i - 10, by omega⟩
        have := h j (by omega)
        rw [b_or, b_and, b_and, ((h1 j (by omega)).2).mpr w.1, ((h2 j (by omega)).2).mpr w.2, Bool.and_self, Bool.or_true] at this
        cases this
  · intro h i hi
    rw [b_or, b_and, b_and]
    have e1 : (bt o i && bt a i) = false := by
      cases w : (bt o i && bt a i) with
      | false => rfl
      | true =>
        rw [Bool.and_eq_true] at w
        have := h i hi
        rw [b_and, (((h1 i hi).1).mp w.1).2, (((h2 i hi).1).mp w.2).2] at this
        cases this
    have e2 : (bt z i && bt b i) = false := by
      cases w : (bt z i && bt b i) with
      | false => rfl
      | true =>
        rw [Bool.and_eq_true] at w
        have u1 := ((h1 i hi).2).mp w.1
        have u2 := ((h2 i hi).2).mp w.2
        have h32 : i + 10 < 32 := by
          rcases Nat.lt_or_ge (i + 10) 32 with q | q
          · exact q
          · rw [b_big q] at u1; cases u1
        have := h (i + 10) h32
        rw [b_and, u1, u2] at this
        cases this
    rw [e1, e2]; rfl
theorem bt_1 : ∀ i, i < 32 → bt (nI 1) i = decide (i = 0) := by decide +kernel
/-- the bit at a place, as the law asks for it -/
theorem pl_b1 {t : Nat} (ht : t < 32) (x : Int32) : (x >>> (nI t &&& 31)) &&& nI 1 = cb_n (bt x t) := by
  apply b_ext
  intro i hi
  rw [b_and, b_sshr t ht _ hi, bt_1 i hi]
  by_cases e : i = 0
  · subst e
    rw [Nat.add_zero, if_pos ht, decide_eq_true rfl, Bool.and_true]
    cases bt x t with
    | true => exact (bt_1 0 (by omega)).symm
    | false => exact (b_0 0).symm
  · rw [decide_eq_false e, Bool.and_false]
    cases bt x t with
    | true => exact ((bt_1 i hi).trans (decide_eq_false e)).symm
    | false => exact (b_0 i).symm
section PRR
variable {y : Int32} {S : cs_S} {q on ze le re tr : Nat → Int32}
theorem pr_sg (h : cr_I S) {c : Int32} (hc : cr_c (cs_k S) c) : ∀ i, i < 32 → bt c i = true → cr_sg 9 i := fun i hi b => cr_sg_mono (cr_k9 h) (hc.1 i hi b)
theorem pr_tr (h : cr_I S) (hr : pr y S q on ze le re tr) {k : Nat} (hk : k < cs_t S + cs_n S) : pl_tr q on ze k = cs_tr S (cs_cl S k) := by
  unfold pl_tr cs_tr
  have e := pr_meet (hr.2.2.1 k hk) hr.2.1 (pr_sg h (h.2.1 k hk))
  by_cases c : (cs_cl S k &&& cs_va S) = 0
  · exact (decide_eq_false (fun z => z (e.mpr c))).trans (decide_eq_false (fun z => z c)).symm
  · exact (decide_eq_true (show ¬ ((on k &&& q 10) ||| (ze k &&& q 11)) = 0 from fun z => c (e.mp z))).trans (decide_eq_true c).symm
/-- open things -/
theorem pr_op_bt (h : cr_I S) {c o z a b : Int32} (hc : cr_c (cs_k S) c) (h1 : pr_c c o z) (h2 : pr_c (cs_va S) a b) {t : Nat} (ht : t < 32) : bt ((o ||| z) &&& ((a ||| b) ^^^ (-nI 1))) t = true ↔ t < 10 ∧ (bt (cs_op S c) t = true ∨ bt (cs_op S c) (t + 10) = true) := by
  have hsg := pr_sg h hc
  rw [b_and, b_or, b_xor, b_or, b_m1' t ht, Bool.and_eq_true, Bool.or_eq_true, (h1 t ht).1, (h1 t ht).2]
  have nv : ((bt a t || bt b t) ^^ true) = true ↔ ¬ (t < 10 ∧ bt (cs_va S) t = true) ∧ ¬ bt (cs_va S) (t + 10) = true := by
    rw [← (h2 t ht).1, ← (h2 t ht).2]
    cases bt a t <;> cases bt b t <;> simp
  rw [nv]
  constructor
  · rintro ⟨hcl, hv1, hv2⟩
    have t10 : t < 10 := by
      rcases hcl with q | q
      · exact q.1
      · rcases Nat.lt_or_ge (t + 10) 32 with z | z
        · have := cr_sg9 (Nat.le_refl 9) (hsg _ z q)
          omega
        · rw [b_big z] at q; cases q
    have v1 : bt (cs_va S) t = false := by
      cases w : bt (cs_va S) t with
      | false => rfl
      | true => exact absurd ⟨t10, w⟩ hv1
    have v2 : bt (cs_va S) (t + 10) = false := by
      cases w : bt (cs_va S) (t + 10) with
      | false => rfl
      | true => exact absurd w hv2
    refine ⟨t10, ?_⟩
    rcases hcl with q | q
    · left
      refine (cr_op_bt h hc ht).mpr ⟨q.2, v1, ?_⟩
      unfold cr_op
      rw [if_pos t10]; exact v2
    · right
      refine (cr_op_bt h hc (by omega)).mpr ⟨q, v2, ?_⟩
      unfold cr_op
      rw [if_neg (by omega), Nat.add_sub_cancel]; exact v1
  · rintro ⟨t10, q⟩
    rcases q with q | q
    · obtain ⟨q1, q2, q3⟩ := (cr_op_bt h hc ht).mp q
      unfold cr_op at q3
      rw [if_pos t10] at q3
      exact ⟨Or.inl ⟨t10, q1⟩, (fun z => absurd z.2 (by rw [q2]; decide)), (fun z => absurd z (by rw [q3]; decide))⟩
    · obtain ⟨q1, q2, q3⟩ := (cr_op_bt h hc (by omega)).mp q
      unfold cr_op at q3
      rw [if_neg (by omega), Nat.add_sub_cancel] at q3
      exact ⟨Or.inr q1, (fun z => absurd z.2 (by rw [q3]; decide)), (fun z => absurd z (by rw [q2]; decide))⟩
theorem pr_op_ct (h : cr_I S) {c o z a b : Int32} (hc : cr_c (cs_k S) c) (h1 : pr_c c o z) (h2 : pr_c (cs_va S) a b) : fb_ct (bt ((o ||| z) &&& ((a ||| b) ^^^ (-nI 1)))) 10 = fb_ct (bt (cs_op S c)) 20 := by
  have e : fb_ct (bt ((o ||| z) &&& ((a ||| b) ^^^ (-nI 1)))) 10 = fb_ct (fun k => bt (cs_op S c) k || bt (cs_op S c) (10 + k)) 10 := fb_ct_cong (fun k hk => by
    have e1 := pr_op_bt h hc h1 h2 (t := k) (by omega)
    rw [Nat.add_comm k 10] at e1
    cases w : bt ((o ||| z) &&& ((a ||| b) ^^^ (-nI 1))) k with
    | true =>
      rcases (e1.mp w).2 with q | q
      · rw [q]; rfl
      · rw [q, Bool.or_true]
    | false =>
      cases w2 : (bt (cs_op S c) k || bt (cs_op S c) (10 + k)) with
      | false => rfl
      | true =>
        rw [Bool.or_eq_true] at w2
        rw [e1.mpr ⟨hk, w2⟩] at w
        cases w)
  rw [e, show 20 = 10 + 10 from rfl, fb_ct_split]
  refine fb_ct_or (fun k hk => ?_)
  rintro ⟨a1, a2⟩
  have c1 := ((cr_op_bt h hc (i := k) (by omega)).mp a1).1
  have c2 := ((cr_op_bt h hc (i := 10 + k) (by omega)).mp a2).1
  have hs := cr_sg9 (Nat.le_refl 9) (pr_sg h hc k (by omega) c1)
  exact hc.2 k (by omega) (by omega) ⟨c1, by rw [Nat.add_comm]; exact c2⟩
theorem pr_opx (h : cr_I S) (hr : pr y S q on ze le re tr) {k : Nat} (hk : k < cs_t S + cs_n S) : (∀ i, 10 ≤ i → i < 32 → bt (pl_op q on ze k) i = false) ∧ fb_ct (bt (pl_op q on ze k)) 10 = fb_ct (bt (cs_op S (cs_cl S k))) 20 ∧ cb_bc (cs_op S (cs_cl S k)) = nI (fb_ct (bt (cs_op S (cs_cl S k))) 20) := by
  have hc := h.2.1 k hk
  refine ⟨fun i h1 h2 => ?_, pr_op_ct h hc (hr.2.2.1 k hk) hr.2.1, cb_pop (fun i h1 h2 => ?_)⟩
  · cases w : bt (pl_op q on ze k) i with
    | false => rfl
    | true => have := ((pr_op_bt h hc (hr.2.2.1 k hk) hr.2.1 h2).mp w).1; omega
  · cases w : bt (cs_op S (cs_cl S k)) i with
    | false => rfl
    | true =>
      have := cr_sg9 (Nat.le_refl 9) (pr_sg h hc i h2 ((cr_op_bt h hc h2).mp w).1)
      omega
/-- no open thing -/
theorem pr_op0 (h : cr_I S) (hr : pr y S q on ze le re tr) {k : Nat} (hk : k < cs_t S + cs_n S) : pl_op q on ze k = 0 ↔ cb_bc (cs_op S (cs_cl S k)) = nI 0 := by
  obtain ⟨e1, e2, e3⟩ := pr_opx h hr hk
  have hle := fb_ct_le (bt (cs_op S (cs_cl S k))) 20
  rw [e3, nI_eq (by omega) (by omega), ← e2, fb_ct_zero, cb_zero]
  constructor
  · intro z i hi; exact z i (by omega)
  · intro z i hi
    rcases Nat.lt_or_ge i 10 with w | w
    · exact z i w
    · exact e1 i w hi
theorem pr_x (h : cr_I S) (hr : pr y S q on ze le re tr) : ∀ k, k < cs_g S → tr k = nI (cs_s S k % 10) ∧ cs_s S k % 10 ≤ 9 := fun k hk => ⟨(hr.2.2.2 k hk).1, by omega⟩
theorem pr_g7 (h : cr_I S) (hr : pr y S q on ze le re tr) : q 7 = nI (cs_g S) := hr.1.2.2.2.2.2.2.2.1.trans h.1.1.1.1
/-- is a thing valued? -/
theorem pr_val (h : cr_I S) (hr : pr y S q on ze le re tr) {t : Nat} (h1 : 1 ≤ t) (ht : t ≤ 9) : bt (q 10 ||| q 11) t = true ↔ ∃ k, k < cs_g S ∧ cs_s S k % 10 = t := by
  have h9 := cr_k9 h
  rw [b_or, Bool.or_eq_true, (hr.2.1 t (by omega)).1, (hr.2.1 t (by omega)).2, h.2.2.1.2.2 t (by omega), h.2.2.1.2.2 (t + 10) (by omega)]
  constructor
  · rintro (⟨-, k, hk, e⟩ | ⟨k, hk, e⟩)
    · exact ⟨k, hk, by omega⟩
    · exact ⟨k, hk, by omega⟩
  · rintro ⟨k, hk, e⟩
    have hs := cr_sg9 h9 (h.2.2.1.1 k hk).2.1
    by_cases q : cs_s S k < 10
    · exact Or.inl ⟨by omega, k, hk, by omega⟩
    · exact Or.inr ⟨k, hk, by omega⟩
/-- going back, on the law's side -/
theorem pb_gbn (h : cr_I S) (hr : pr y S q on ze le re tr) (L : Int32) : ∀ g, g ≤ cs_g S → pb_n le (fun k => cs_s S k % 10) L g = cs_gbn S L g
  | 0, _ => rfl
  | g + 1, hg => by
    unfold pb_n cs_gbn
    rw [(hr.2.2.2 g (by omega)).2.1, pb_gbn h hr L g (by omega)]
theorem pr_gb (h : cr_I S) (hr : pr y S q on ze le re tr) {m : Nat} (hm : m ≤ cs_pv S (cs_g S)) (hl : cs_pl (cs_gb S (nI m)) (cs_g (cs_gb S (nI m))) = nI m) {q' re' : Nat → Int32} (hF : pb_F (nI m) (pb_n le (fun k => cs_s S k % 10) (nI m) (cs_g S)) (cs_g S) (fun k => cs_s S k % 10) q re q' re') : pr y (cs_gb S (nI m)) q' on ze le re' tr := by
  have h9 := cr_k9 h
  have g9 := cr_g9 h
  have hpv := cr_pv_le h
  rw [pb_gbn h hr _ _ (Nat.le_refl _)] at hF
  obtain ⟨f7, f6, fj, fb, fr⟩ := hF
  obtain ⟨⟨r0, r1, r2, r3, r4, r5, r6, r7, r8, r9⟩, rv, rk, rt⟩ := hr
  obtain ⟨a1, a2, a3⟩ := cs_gbn_spec h (m := m) (by omega) (cs_g S) (Nat.le_refl _)
  have fg : cs_g (cs_gb S (nI m)) = cs_gbn S (nI m) (cs_g S) := cs_g_nI (S := cs_gb S (nI m)) rfl (by omega)
  have hbv := fun i (hi : i < 32) => cs_gbv_bt h (nI m) hi (cs_g S) (cs_va S) (Nat.le_refl _)
  refine ⟨⟨(fj 0 (by omega) (by omega) (by omega) (by omega)).trans r0, (fj 1 (by omega) (by omega) (by omega) (by omega)).trans r1, (fj 2 (by omega) (by omega) (by omega) (by omega)).trans r2, (fj 3 (by omega) (by omega) (by omega) (by omega)).trans r3, (fj 4 (by omega) (by omega) (by omega) (by omega)).trans r4, (fj 5 (by omega) (by omega) (by omega) (by omega)).trans r5, f6.trans hl.symm, f7, (fj 8 (by omega) (by omega) (by omega) (by omega)).trans r8, (fj 9 (by omega) (by omega) (by omega) (by omega)).trans r9⟩, fun i hi => ⟨?_, ?_⟩, rk, fun k hk => ?_⟩
  · rw [(fb i hi).1, (rv i hi).1]
    show _ ↔ i < 10 ∧ bt (cs_gbv S (nI m) (cs_g S) (cs_va S)) i = true
    rw [hbv i hi]
    constructor
    · rintro ⟨⟨z1, z2⟩, z3⟩
      refine ⟨z1, z2, fun k h1 h2 e => z3 k h1 h2 ?_⟩
      show cs_s S k % 10 = i
      omega
    · rintro ⟨z1, z2, z3⟩
      refine ⟨⟨z1, z2⟩, fun k h1 h2 e => ?_⟩
      have e : cs_s S k % 10 = i := e
      obtain ⟨j, hj, ej⟩ := (h.2.2.1.2.2 i hi).mp z2
      have := cr_uni h hj h2 (by omega)
      subst this
      exact z3 j h1 h2 ej
  · rw [(fb i hi).2, (rv i hi).2]
    show _ ↔ bt (cs_gbv S (nI m) (cs_g S) (cs_va S)) (i + 10) = true
    rcases Nat.lt_or_ge (i + 10) 32 with w | w
    · rw [hbv (i + 10) w]
      constructor
      · rintro ⟨z2, z3⟩
        have := cr_sg9 h9 (cr_va_sg h w z2)
        refine ⟨z2, fun k h1 h2 e => z3 k h1 h2 ?_⟩
        show cs_s S k % 10 = i
        omega
      · rintro ⟨z2, z3⟩
        have := cr_sg9 h9 (cr_va_sg h w z2)
        refine ⟨z2, fun k h1 h2 e => ?_⟩
        have e : cs_s S k % 10 = i := e
        obtain ⟨j, hj, ej⟩ := (h.2.2.1.2.2 (i + 10) w).mp z2
        have := cr_uni h hj h2 (by omega)
        subst this
        exact z3 j h1 h2 ej
    · rw [b_big w, b_big w]; simp
  · rw [fg] at hk
    obtain ⟨t1, t2, t3⟩ := rt k (by omega)
    refine ⟨t1, t2, (fr _ (fun j h1 h2 e => ?_)).trans t3⟩
    have e : cs_s S j % 10 = cs_s S k % 10 := e
    have := cr_uni h h2 (show k < cs_g S by omega) e
    omega
/-- a value given, on the law's side; its level stands already -/
theorem pr_give (h : cr_I S) (hr : pr y S q on ze le re tr) {i m : Nat} {r : Int32} (hi : cr_sg (cs_k S) i) (hx : ∀ k, k < cs_g S → cs_s S k % 10 ≠ i % 10) (g8 : cs_g S ≤ 8) : pr y (cs_give S (nI i) (nI m) r) (pg_q (upd q 6 (nI m)) (i % 10) (decide (i < 10))) on ze (upd le (i % 10) (nI m)) (upd re (i % 10) r) (upd tr (cs_g S) (nI (i % 10))) := by
  have h9 := cr_k9 h
  have qi := cr_sg9 h9 hi
  have g7 := pr_g7 h hr
  obtain ⟨⟨r0, r1, r2, r3, r4, r5, r6, r7, r8, r9⟩, rv, rk, rt⟩ := hr
  have eg : cs_gi S + nI 1 = nI (cs_g S + 1) := by rw [h.1.1.1.1, nI_add]
  have e0 : cs_give S (nI i) (nI m) r = (S.1, S.2.1, S.2.2.1, S.2.2.2.1, S.2.2.2.2.1, S.2.2.2.2.2.1, cs_gi S + nI 1, upd (cs_sg S) (cs_g S) (nI i), upd (cs_lv S) (cs_g S) (nI m), upd (cs_rs S) (cs_g S) r, cs_va S ||| cb_set (nI i), S.2.2.2.2.2.2.2.2.2.2.2) := if_pos (by omega)
  rw [e0]
  obtain ⟨S', hS'⟩ : ∃ S', S' = ((S.1, S.2.1, S.2.2.1, S.2.2.2.1, S.2.2.2.2.1, S.2.2.2.2.2.1, cs_gi S + nI 1, upd (cs_sg S) (cs_g S) (nI i), upd (cs_lv S) (cs_g S) (nI m), upd (cs_rs S) (cs_g S) r, cs_va S ||| cb_set (nI i), S.2.2.2.2.2.2.2.2.2.2.2) : cs_S) := ⟨_, rfl⟩
  rw [← hS']
  have fg : cs_g S' = cs_g S + 1 := cs_g_nI (by rw [hS']; exact eg) (by omega)
  have ft : cs_t S' = cs_t S := by rw [hS']; rfl
  have fn : cs_n S' = cs_n S := by rw [hS']; rfl
  have fcl : cs_cl S' = cs_cl S := by rw [hS']
  have fsg : cs_sg S' = upd (cs_sg S) (cs_g S) (nI i) := by rw [hS']
  have flv : cs_lv S' = upd (cs_lv S) (cs_g S) (nI m) := by rw [hS']
  have frs : cs_rs S' = upd (cs_rs S) (cs_g S) r := by rw [hS']
  have fva : cs_va S' = cs_va S ||| cb_set (nI i) := by rw [hS']
  have s1 : ∀ k, k < cs_g S → cs_s S' k = cs_s S k := fun k hk => by unfold cs_s; rw [fsg, pk_un (by omega)]
  have s2 : cs_s S' (cs_g S) = i := by unfold cs_s; rw [fsg, pk_us, nI_clamp (by omega)]
  have hw : pg_w (decide (i < 10)) = 10 ∨ pg_w (decide (i < 10)) = 11 := by unfold pg_w; split <;> omega
  have qj : ∀ j, j ≠ 6 → j ≠ 7 → j ≠ 10 → j ≠ 11 → pg_q (upd q 6 (nI m)) (i % 10) (decide (i < 10)) j = q j := by
    intro j h6 h7 h10 h11
    unfold pg_q
    rw [pk_un (by omega), pk_un h7, pk_un h6]
  refine ⟨⟨?_, ?_, ?_, ?_, ?_, ?_, ?_, ?_, ?_, ?_⟩, fun j hj => ?_, fun k hk => ?_, fun k hk => ?_⟩
  · rw [qj 0 (by omega) (by omega) (by omega) (by omega), hS']; exact r0
  · rw [qj 1 (by omega) (by omega) (by omega) (by omega), hS']; exact r1
  · rw [qj 2 (by omega) (by omega) (by omega) (by omega), hS']; exact r2
  · rw [qj 3 (by omega) (by omega) (by omega) (by omega), hS']; exact r3
  · rw [qj 4 (by omega) (by omega) (by omega) (by omega), hS']; exact r4
  · rw [qj 5 (by omega) (by omega) (by omega) (by omega), hS']; exact r5
  · unfold pg_q cs_pl
    rw [pk_un (by omega), pk_un (by omega), pk_us, fg, if_neg (by omega), flv, Nat.add_sub_cancel, pk_us]
  · unfold pg_q
    rw [pk_un (by omega), pk_us, pk_un (by omega), g7, nI_add, hS']; exact eg.symm
  · rw [qj 8 (by omega) (by omega) (by omega) (by omega), hS']; exact r8
  · rw [qj 9 (by omega) (by omega) (by omega) (by omega)]; exact r9
  · have hset : ∀ {a : Nat}, a < 32 → bt (cb_set (nI i)) a = decide (a = i) := fun ha => cb_set_bt (by omega) ha
    have hx10 : bt (nI 1 <<< (nI (i % 10) &&& 31)) j = decide (j = i % 10) := cb_one (by omega) hj
    have big : ∀ _ : Nat, bt (cs_va S ||| cb_set (nI i)) (j + 10) = true ↔ bt (cs_va S) (j + 10) = true ∨ j + 10 = i := by
      intro _
      rw [b_or, Bool.or_eq_true]
      rcases Nat.lt_or_ge (j + 10) 32 with w | w
      · rw [hset w, decide_eq_true_eq]
      · rw [b_big w, b_big w]
        constructor
        · rintro (z | z) <;> cases z
        · rintro (z | z)
          · cases z
          · omega
    rw [fva]
    by_cases c : i < 10
    · have e10 : pg_q (upd q 6 (nI m)) (i % 10) (decide (i < 10)) 10 = q 10 ||| (nI 1 <<< (nI (i % 10) &&& 31)) := by
        unfold pg_q pg_w; rw [decide_eq_true c, if_pos rfl, pk_us, pk_un (by omega)]
      have e11 : pg_q (upd q 6 (nI m)) (i % 10) (decide (i < 10)) 11 = q 11 := by
        unfold pg_q pg_w; rw [decide_eq_true c, if_pos rfl, pk_un (by omega), pk_un (by omega), pk_un (by omega)]
      rw [e10, e11, big 0, b_or, b_or, hx10, hset hj, Bool.or_eq_true, Bool.or_eq_true, decide_eq_true_eq, decide_eq_true_eq, (rv j hj).1, (rv j hj).2, Nat.mod_eq_of_lt c]
      constructor
      · constructor
        · rintro (z | z)
          · exact ⟨z.1, Or.inl z.2⟩
          · exact ⟨by omega, Or.inr z⟩
        · rintro ⟨z1, z2 | z2⟩
          · exact Or.inl ⟨z1, z2⟩
          · exact Or.inr z2
      · constructor
        · exact Or.inl
        · rintro (z | z)
          · exact z
          · omega
    · have e10 : pg_q (upd q 6 (nI m)) (i % 10) (decide (i < 10)) 10 = q 10 := by
        unfold pg_q pg_w; rw [decide_eq_false c, if_neg (by decide), pk_un (by omega), pk_un (by omega), pk_un (by omega)]
      have e11 : pg_q (upd q 6 (nI m)) (i % 10) (decide (i < 10)) 11 = q 11 ||| (nI 1 <<< (nI (i % 10) &&& 31)) := by
        unfold pg_q pg_w; rw [decide_eq_false c, if_neg (by decide), pk_us, pk_un (by omega)]
      rw [e10, e11, big 0, b_or, b_or, hx10, hset hj, Bool.or_eq_true, Bool.or_eq_true, decide_eq_true_eq, decide_eq_true_eq, (rv j hj).1, (rv j hj).2]
      constructor
      · constructor
        · exact fun z => ⟨z.1, Or.inl z.2⟩
        · rintro ⟨z1, z2 | z2⟩
          · exact ⟨z1, z2⟩
          · omega
      · constructor
        · rintro (z | z)
          · exact Or.inl z
          · exact Or.inr (by omega)
        · rintro (z | z)
          · exact Or.inl z
          · exact Or.inr (by omega)
  · rw [ft, fn] at hk; rw [fcl]; exact rk k hk
  · rw [fg] at hk
    by_cases e : k = cs_g S
    · subst e
      rw [s2, flv, frs, pk_us, pk_us, pk_us, pk_us, pk_us]
      exact ⟨rfl, rfl, rfl⟩
    · have hkg : k < cs_g S := by omega
      obtain ⟨t1, t2, t3⟩ := rt k hkg
      have hne := hx k hkg
      rw [s1 k hkg, flv, frs, pk_un e, pk_un e, pk_un e, pk_un hne, pk_un hne]
      exact ⟨t1, t2, t3⟩
end PRR
end
section
/-! p24: the law learns: the new clause -/
section PL1
variable {y : Int32} {S : cs_S} {f : Nat → Int32}
/-- one clause more on the way out of a conflict -/
theorem cr_coo1 (h : crp y S f) {n : Nat} {c : Int32} (hn : n < cs_g S) (hc : cr_fl S c) (hk : ∀ k, n < k → k < cs_g S → cs_lv S k = cs_pl S (cs_g S) → bt c (cr_op (cs_s S k)) = false) (d : ¬ cb_bc (c &&& cr_ps S) ≤ nI 1) (b : bt c (cr_op (cs_s S n)) = true) :
    ∃ cc c', cc < cs_t S + cs_n S ∧ cs_rs S n = nI cc ∧ c' = (c &&& (cb_set (cb_opp (cs_sg S n)) ^^^ (-nI 1))) ||| (cs_ca S (cs_rs S n) &&& (cb_set (cs_sg S n) ^^^ (-nI 1))) ∧ cr_fl S c' ∧ (∀ k, n ≤ k → k < cs_g S → cs_lv S k = cs_pl S (cs_g S) → bt c' (cr_op (cs_s S k)) = false) ∧ (∀ i, i < 32 → (bt c' i = true ↔ (bt c i = true ∧ i ≠ cr_op (cs_s S n)) ∨ (bt (cs_cl S cc) i = true ∧ i ≠ cs_s S n))) ∧ bt c (cs_s S n) = false ∧ bt (cs_cl S cc) (cr_op (cs_s S n)) = false := by
  have h9 := cr_k9 h.1
  obtain ⟨es, hs, el, -⟩ := h.1.2.2.1.1 n hn
  have hs9 := cr_sg9 h9 hs
  have ho := cr_sg_op h9 hs
  have ho9 := cr_sg9 h9 ho
  have hpi : ¬ cm_pi f c (cs_g S) 0 0 ≤ 1 := fun q => d ((cr_cnt h hc).mpr q)
  have e1 := cm_pi_ct f c (cs_g S) 0 0
  rw [Nat.zero_add, Nat.zero_add, show fb_ct (cm_at f c) 0 = 0 from rfl, Nat.add_zero] at e1
  have htwo : ∃ i j, i < j ∧ j < cs_g S ∧ cm_at f c i = true ∧ cm_at f c j = true := by
    refine Classical.byContradiction fun q => hpi ?_
    rw [e1, fb_two]
    exact fun i j h1 h2 h3 => q ⟨i, j, h1, h2, h3⟩
  obtain ⟨i, j, hij, hj, ai, aj⟩ := htwo
  have qi := (cr_at h hc (show i < cs_g S by omega)).mp ai
  have below : ∀ k, k < cs_g S → cm_at f c k = true → k ≤ n := fun k hk2 a => by
    refine Classical.byContradiction fun q => ?_
    obtain ⟨a1, a2⟩ := (cr_at h hc hk2).mp a
    rw [hk k (by omega) hk2 a1] at a2
    cases a2
  have hjn := below j hj aj
  have hin : i < n := by omega
  have hpl := cr_pl h.1
  have li : cs_l S i = cs_pv S (cs_g S) := by
    have := (h.1.2.2.1.1 i (by omega)).2.2
    have hpv := cr_pv_le h.1
    have g9 := cr_g9 h.1
    exact (nI_eq (by omega) (by omega)).mp (by rw [← this.1, qi.1, hpl])
  have lgn : cs_l S n ≤ cs_pv S (cs_g S) := by
    unfold cs_pv
    rw [if_neg (by omega)]
    exact cr_mono h.1 _ (by omega) (by omega)
  have lin := cr_mono h.1 (j := i) n (by omega) (by omega)
  have hpvn : cs_l S i ≤ cs_pv S n := by
    unfold cs_pv
    rw [if_neg (by omega)]
    exact cr_mono h.1 (n - 1) (by omega) (by omega)
  obtain ⟨-, cc, hcc, er, br, orr⟩ : cs_l S n = cs_pv S n ∧ ∃ c, c < cs_t S + cs_n S ∧ cs_rs S n = nI c ∧ bt (cs_cl S c) (cs_s S n) = true ∧ ∀ i, i < 32 → bt (cs_cl S c) i = true → i = cs_s S n ∨ ∃ j, j < n ∧ cs_s S j = cr_op i := by
    rcases h.1.2.2.2 n (by omega) with z | z
    · exact z
    · omega
  have hB := h.1.1.1
  have hcc60 : cc < 60 := by have := hB.2.1.2; have := hB.2.2.1.2; omega
  have eca : cs_ca S (cs_rs S n) = cs_cl S cc := by
    unfold cs_ca
    rw [er, if_neg (nI_pos (by omega)), if_neg (nI_ge hcc60 (by omega)), nI_clamp (by omega)]
  have hrc := h.1.2.1 cc hcc
  have nboth : bt (cs_cl S cc) (cr_op (cs_s S n)) = false := by
    cases z : bt (cs_cl S cc) (cr_op (cs_s S n)) with
    | false => rfl
    | true =>
      exfalso
      rcases hs with e | e
      · refine hrc.2 (cs_s S n) (by omega) (by omega) ⟨br, ?_⟩
        unfold cr_op at z
        rw [if_pos (by omega)] at z; exact z
      · refine hrc.2 (cs_s S n - 10) (by omega) (by omega) ⟨?_, ?_⟩
        · unfold cr_op at z
          rw [if_neg (by omega)] at z; exact z
        · rw [show cs_s S n - 10 + 10 = cs_s S n by omega]; exact br
  have nown := cr_fl_not h.1 hc hn
  obtain ⟨c', ec'⟩ : ∃ c', c' = (c &&& (cb_set (cb_opp (cs_sg S n)) ^^^ (-nI 1))) ||| (cs_ca S (cs_rs S n) &&& (cb_set (cs_sg S n) ^^^ (-nI 1))) := ⟨_, rfl⟩
  have hbn : ∀ i, i < 32 → (bt c' i = true ↔ (bt c i = true ∧ i ≠ cr_op (cs_s S n)) ∨ (bt (cs_cl S cc) i = true ∧ i ≠ cs_s S n)) := by
    intro i hi
    rw [ec', eca, es, cb_opp_nI (by omega), b_or, b_and, b_and, b_xor, b_xor, cb_set_bt (by omega) hi, cb_set_bt (by omega) hi, cb_m1bt i hi, Bool.or_eq_true, Bool.and_eq_true, Bool.and_eq_true]
    have t : ∀ (P : Prop) [Decidable P], ((decide P ^^ true) = true ↔ ¬ P) := fun P _ => by
      by_cases z : P
      · rw [decide_eq_true z]; exact ⟨fun q => (by cases q), fun q => absurd z q⟩
      · rw [decide_eq_false z]; exact ⟨fun _ => z, fun _ => rfl⟩
    rw [t, t]
  have hc2 : cr_fl S c' := by
    intro i hi q
    rcases (hbn i hi).mp q with ⟨q1, -⟩ | ⟨q1, q2⟩
    · exact hc i hi q1
    · refine ⟨hrc.1 i hi q1, ?_⟩
      rcases orr i hi q1 with e | ⟨j, hj, e⟩
      · exact absurd e q2
      · exact ⟨j, by omega, e⟩
  refine ⟨cc, c', hcc, er, ec', hc2, fun k h1 h2 h3 => ?_, hbn, nown, nboth⟩
  have hsk := (h.1.2.2.1.1 k h2).2.1
  have hok := cr_sg9 h9 (cr_sg_op h9 hsk)
  cases z : bt c' (cr_op (cs_s S k)) with
  | false => rfl
  | true =>
    exfalso
    rcases (hbn _ (by omega)).mp z with ⟨q1, q2⟩ | ⟨q1, q2⟩
    · by_cases e : k = n
      · subst e; exact q2 rfl
      · rw [hk k (by omega) h2 h3] at q1; cases q1
    · rcases orr _ (by omega) q1 with e | ⟨j, hj, e⟩
      · exact q2 e
      · rw [cr_op_op h9 hsk] at e
        have := cr_uni h.1 (show j < cs_g S by omega) h2 (by rw [e])
        omega
end PL1
section PL2
variable {l : Launch} {y : Int32} {S : cs_S} {f q on ze le re tr : Nat → Int32} {h0 h1 : cw_H} {c0 : Int32}
abbrev pl_L (c0 : Int32) : cw_LV := [(0, .int c0), (1, .ref 0), (2, .ref 1), (3, .ref 2), (4, .ref 3), (5, .ref 4), (6, .ref 5)]
/-- a thing of the trail is in the clause -/
theorem pr_has (h : crp y S f) {c up down : Int32} (hc : cr_fl S c) (hp : pr_c c up down) {k : Nat} (hk : k < cs_g S) : bt (up ||| down) (cs_s S k % 10) = true ↔ bt c (cr_op (cs_s S k)) = true := by
  have e := cr_so h hc hk
  rw [cm_so_none (by omega)] at e
  rw [b_or, Bool.or_eq_true, (hp _ (by omega)).1, (hp _ (by omega)).2]
  constructor
  · intro z
    cases w : bt c (cr_op (cs_s S k)) with
    | true => rfl
    | false =>
      obtain ⟨w1, w2⟩ := e.mpr w
      rcases z with z | z
      · rw [w1] at z; cases z.2
      · rw [w2] at z; cases z
  · intro z
    cases w1 : bt c (cs_s S k % 10) with
    | true => exact Or.inl ⟨by omega, rfl⟩
    | false =>
      cases w2 : bt c (cs_s S k % 10 + 10) with
      | true => exact Or.inr rfl
      | false => rw [e.mp ⟨w1, w2⟩] at z; cases z
/-- how many signs of the present level -/
theorem pl_cnt_loop (h : crp y S f) (hr : pr y S q on ze le re tr) {c up down kk : Int32} (hc : cr_fl S c) (hp : pr_c c up down) (K : cw_W l mm_L_learn 0 0 h0 none h1 0 0 81 ((11, .int (nI (cs_g S))) :: (10, .int (nI (cm_pi f c (cs_g S) 0 0))) :: (9, .int kk) :: (8, .int down) :: (7, .int up) :: pl_L c0) [] (pl_h q on ze le re tr)) : ∀ n i a, i + n = cs_g S → cm_pi f c n i a = cm_pi f c (cs_g S) 0 0 → cw_W l mm_L_learn 0 0 h0 none h1 0 0 24 ((11, .int (nI i)) :: (10, .int (nI a)) :: (9, .int kk) :: (8, .int down) :: (7, .int up) :: pl_L c0) [] (pl_h q on ze le re tr) := by
  have g9 := cr_g9 h.1
  have g7 := pr_g7 h.1 hr
  intro n
  induction n with
  | zero =>
    intro i a hi e
    obtain rfl : i = cs_g S := by omega
    rw [← e] at K
    exact cw_run cw_kL_learn cw_z 5 [true] [_] [] (And.intro (rfl) (And.intro (Nat.le_of_ble_eq_true rfl) (And.intro ((show q 7 ≤ nI (cs_g S) by rw [g7]; exact Int32.le_refl _)) (K))))
  | succ n ih =>
    intro i a hi e
    have hig : i < cs_g S := by omega
    obtain ⟨t1, t2, t3⟩ := hr.2.2.2 i hig
    have m0 : ¬ q 7 ≤ nI i := by rw [g7]; exact nI_ge hig (by omega)
    have at1 := cr_at h hc hig
    have hh := pr_has h hc hp hig
    have ih1 := ih (i + 1) (a + (if cm_at f c i then 1 else 0)) (by omega) (by rw [← e]; rfl)
    have i10 : i < 10 := by omega
    have x10 : cs_s S i % 10 < 10 := by omega
    by_cases d : le (cs_s S i % 10) = q 6
    · have d' : cs_lv S i = cs_pl S (cs_g S) := by rw [← t2, d]; exact hr.1.2.2.2.2.2.2.1
      cases b : bt (up ||| down) (cs_s S i % 10) with
      | true =>
        rw [if_pos (at1.mpr ⟨d', hh.mp b⟩), ← nI_add a 1, ← nI_add i 1] at ih1
        exact cw_run cw_kL_learn cw_z 32 [false, false, false] [_, _, _, _, _] [] (And.intro (rfl) (And.intro (Nat.le_of_ble_eq_true rfl) (And.intro (m0) (And.intro (rfl) (And.intro (i10) (And.intro (t1) (And.intro (x10) (And.intro (rfl) (And.intro (Nat.le_of_ble_eq_true rfl) (And.intro ((fun z => z d)) (And.intro (rfl) (And.intro (i10) (And.intro ((show ¬ ¬ ((up ||| down) >>> (tr i &&& 31)) &&& nI 1 = nI 1 by rw [t1, pl_b1 (by omega), b]; exact fun z => z rfl)) (ih1))))))))))))))
      | false =>
        rw [if_neg (fun z => by rw [hh.mpr (at1.mp z).2] at b; cases b), ← nI_add a 0, ← nI_add i 1] at ih1
        exact cw_run cw_kL_learn cw_z 31 [false, false, true] [_, _, _, _, _] [] (And.intro (rfl) (And.intro (Nat.le_of_ble_eq_true rfl) (And.intro (m0) (And.intro (rfl) (And.intro (i10) (And.intro (t1) (And.intro (x10) (And.intro (rfl) (And.intro (Nat.le_of_ble_eq_true rfl) (And.intro ((fun z => z d)) (And.intro (rfl) (And.intro (i10) (And.intro ((show ¬ ((up ||| down) >>> (tr i &&& 31)) &&& nI 1 = nI 1 by rw [t1, pl_b1 (by omega), b]; decide)) (ih1))))))))))))))
    · rw [if_neg (fun z => d (by rw [t2, (at1.mp z).1]; exact hr.1.2.2.2.2.2.2.1.symm)), ← nI_add a 0, ← nI_add i 1] at ih1
      exact cw_run cw_kL_learn cw_z 20 [false, true] [_, _, _, _] [] (And.intro (rfl) (And.intro (Nat.le_of_ble_eq_true rfl) (And.intro (m0) (And.intro (rfl) (And.intro (i10) (And.intro (t1) (And.intro (x10) (And.intro (rfl) (And.intro (Nat.le_of_ble_eq_true rfl) (And.intro (d) (ih1)))))))))))
theorem pl_cnt (h : crp y S f) (hr : pr y S q on ze le re tr) {c up down kk : Int32} (hc : cr_fl S c) (hp : pr_c c up down)
    (K1 : cb_bc (c &&& cr_ps S) ≤ nI 1 → cw_W l mm_L_learn 0 0 h0 none h1 0 0 164 ((8, .int down) :: (7, .int up) :: pl_L c0) [] (pl_h q on ze le re tr))
    (K2 : ¬ cb_bc (c &&& cr_ps S) ≤ nI 1 → cw_W l mm_L_learn 0 0 h0 none h1 0 0 90 ((9, .int kk) :: (8, .int down) :: (7, .int up) :: pl_L c0) [] (pl_h q on ze le re tr)) : cw_W l mm_L_learn 0 0 h0 none h1 0 0 18 ((9, .int kk) :: (8, .int down) :: (7, .int up) :: pl_L c0) [] (pl_h q on ze le re tr) := by
  have g9 := cr_g9 h.1
  have e1 := cm_pi_ct f c (cs_g S) 0 0
  rw [Nat.zero_add, Nat.zero_add, show fb_ct (cm_at f c) 0 = 0 from rfl, Nat.add_zero] at e1
  have hle := fb_ct_le (cm_at f c) (cs_g S)
  have cnt := cr_cnt h hc
  refine cw_run cw_kL_learn cw_z 4 [] [] [] (pl_cnt_loop h hr hc hp ?_ (cs_g S) 0 0 (by omega) rfl)
  by_cases d : cm_pi f c (cs_g S) 0 0 ≤ 1
  · exact cw_run cw_kL_learn cw_z 4 [false] [] [] (And.intro ((show ¬ nI 1 < nI (cm_pi f c (cs_g S) 0 0) from nI_nlt d (by omega))) (cw_less [3, 4, 5, 6, 7, 8, 9, 10, 11] rfl (K1 (cnt.mpr d))))
  · exact cw_run cw_kL_learn cw_z 3 [true] [] [] (And.intro (nI_lt (show 1 < cm_pi f c (cs_g S) 0 0 by omega) (by omega)) (cw_less [2, 3, 4, 5, 6, 7, 8, 9, 10, 11] rfl (K2 (fun z => d (cnt.mp z)))))
/-- the new clause, out of the conflict -/
theorem pl_out (h : crp y S f) (hr : pr y S q on ze le re tr) {cx : Int32} (K : ∀ up down, pr_c cx up down → cw_W l mm_L_learn 0 0 h0 none h1 0 0 164 ((8, .int down) :: (7, .int up) :: pl_L c0) [] (pl_h q on ze le re tr)) : ∀ n c up down, n ≤ cs_g S → cs_coo S (cr_ps S) n c = cx → cr_fl S c → (∀ k, n ≤ k → k < cs_g S → cs_lv S k = cs_pl S (cs_g S) → bt c (cr_op (cs_s S k)) = false) → ¬ cb_bc (c &&& cr_ps S) ≤ nI 1 → pr_c c up down → cw_W l mm_L_learn 0 0 h0 none h1 0 0 90 ((9, .int (nI n - nI 1)) :: (8, .int down) :: (7, .int up) :: pl_L c0) [] (pl_h q on ze le re tr) := by
  have g9 := cr_g9 h.1
  have h9 := cr_k9 h.1
  intro n
  induction n with
  | zero =>
    intro c up down hn e hc hk d hp
    exfalso
    have e1 := cm_pi_ct f c (cs_g S) 0 0
    rw [Nat.zero_add, Nat.zero_add, show fb_ct (cm_at f c) 0 = 0 from rfl, Nat.add_zero] at e1
    have z : fb_ct (cm_at f c) (cs_g S) = 0 := fb_ct_zero.mpr (fun k hk2 => by
      cases b : cm_at f c k with
      | false => rfl
      | true =>
        obtain ⟨a1, a2⟩ := (cr_at h hc hk2).mp b
        rw [hk k (Nat.zero_le _) hk2 a1] at a2
        cases a2)
    exact d ((cr_cnt h hc).mpr (by omega))
  | succ n ih =>
    intro c up down hn e hc hk d hp
    have hng : n < cs_g S := by omega
    obtain ⟨t1, t2, t3⟩ := hr.2.2.2 n hng
    obtain ⟨es, hs, -⟩ := h.1.2.2.1.1 n hng
    have hs9 := cr_sg9 h9 hs
    have e0 : nI (n + 1) - nI 1 = nI n := by rw [pk_sub (by omega)]; rfl
    have n10 : n < 10 := by omega
    have x10 : cs_s S n % 10 < 10 := by omega
    have hh := pr_has h hc hp hng
    have ecoo : ∀ {c2 : Int32}, cs_coo S (cr_ps S) (n + 1) c2 = if cb_bc (c2 &&& cr_ps S) ≤ nI 1 then c2 else cs_coo S (cr_ps S) n (if bt c2 (cr_op (cs_s S n)) then (c2 &&& (cb_set (cb_opp (cs_sg S n)) ^^^ (-nI 1))) ||| (cs_ca S (cs_rs S n) &&& (cb_set (cs_sg S n) ^^^ (-nI 1))) else c2) := by
      intro c2
      conv => lhs; unfold cs_coo
      rw [es, cb_opp_nI (by omega), cb_hs_bt (by have := cr_sg9 h9 (cr_sg_op h9 hs); omega)]
    rw [ecoo, if_neg d] at e
    rw [e0]
    cases b : bt c (cr_op (cs_s S n)) with
    | false =>
      rw [b, if_neg (by decide)] at e
      have ih1 := ih c up down (by omega) e hc (fun k h1 h2 h3 => by
        by_cases w : k = n
        · subst w; exact b
        · exact hk k (by omega) h2 h3) d hp
      rw [← cb_m] at ih1
      have nb : bt (up ||| down) (cs_s S n % 10) = false := by
        cases w : bt (up ||| down) (cs_s S n % 10) with
        | false => rfl
        | true => rw [hh.mp w] at b; cases b
      exact cw_run cw_kL_learn cw_z 12 [false] [_] [] (And.intro (rfl) (And.intro (n10) (And.intro ((show ¬ ¬ ((up ||| down) >>> (tr n &&& 31)) &&& nI 1 = 0 by rw [t1, pl_b1 (by omega), nb]; exact fun z => z rfl)) (ih1))))
    | true =>
      obtain ⟨cc, c', hcc, er, ec', hc2, hk2, hbn, nown, nboth⟩ := cr_coo1 h hng hc (fun k h1 h2 h3 => hk k (by omega) h2 h3) d b
      rw [b, if_pos rfl, ← ec'] at e
      have hcc61 : cc < 61 := by have := cr_n60 h; omega
      have e3 : re (cs_s S n % 10) = nI cc := t3.trans er
      have hb : ∀ (u v : Int32) (i : Nat), i < 32 → (bt ((u ||| v) &&& ((nI 1 <<< (tr n &&& 31)) ^^^ (-nI 1))) i = true ↔ (bt u i = true ∨ bt v i = true) ∧ i ≠ cs_s S n % 10) := by
        intro u v i hi
        rw [t1, b_and, b_or, b_xor, cb_one (by omega) hi, b_m1' i hi, Bool.and_eq_true, Bool.or_eq_true]
        by_cases w : i = cs_s S n % 10
        · rw [decide_eq_true w]; exact ⟨fun z => (by cases z.2), fun z => absurd w z.2⟩
        · rw [decide_eq_false w]; exact ⟨fun z => ⟨z.1, w⟩, fun z => ⟨z.1, rfl⟩⟩
      have opx : cr_op (cs_s S n) % 10 = cs_s S n % 10 := cr_op_mod (by omega)
      have ho9 := cr_sg9 h9 (cr_sg_op h9 hs)
      have two : ∀ i, i % 10 = cs_s S n % 10 → i < 20 → i = cs_s S n ∨ i = cr_op (cs_s S n) := by
        intro i h1 h2
        unfold cr_op
        split <;> omega
      -- no sign of that thing is left
      have none : ∀ i, i % 10 = cs_s S n % 10 → i < 20 → bt c' i = false := by
        intro i h1 h2
        cases w : bt c' i with
        | false => rfl
        | true =>
          exfalso
          rcases two i h1 h2 with rfl | rfl
          · rcases (hbn _ (by omega)).mp w with z | z
            · rw [nown] at z; cases z.1
            · exact z.2 rfl
          · rcases (hbn _ (by omega)).mp w with z | z
            · exact z.2 rfl
            · rw [nboth] at z; cases z.1
      have any : ∀ i, i < 32 → i % 10 ≠ cs_s S n % 10 → (bt c' i = true ↔ bt c i = true ∨ bt (cs_cl S cc) i = true) := by
        intro i hi hx
        rw [hbn i hi]
        have z1 : i ≠ cr_op (cs_s S n) := fun z => hx (by rw [z]; exact opx)
        have z2 : i ≠ cs_s S n := fun z => hx (by rw [z])
        constructor
        · rintro (z | z)
          · exact Or.inl z.1
          · exact Or.inr z.1
        · rintro (z | z)
          · exact Or.inl ⟨z, z1⟩
          · exact Or.inr ⟨z, z2⟩
      have hcl := hr.2.2.1 cc hcc
      have hlo : ∀ i, 20 ≤ i → i < 32 → bt c' i = false := by
        intro i h1 h2
        cases w : bt c' i with
        | false => rfl
        | true => have := cr_sg9 h9 (hc2 i h2 w).1; omega
      have hp2 : pr_c c' ((up ||| on cc) &&& ((nI 1 <<< (tr n &&& 31)) ^^^ (-nI 1))) ((down ||| ze cc) &&& ((nI 1 <<< (tr n &&& 31)) ^^^ (-nI 1))) := by
        intro i hi
        refine ⟨?_, ?_⟩
        · rw [hb _ _ i hi, (hp i hi).1, (hcl i hi).1]
          constructor
          · rintro ⟨z1, z2⟩
            have i10 : i < 10 := by rcases z1 with z | z <;> exact z.1
            refine ⟨i10, (any i hi (by omega)).mpr ?_⟩
            rcases z1 with z | z
            · exact Or.inl z.2
            · exact Or.inr z.2
          · rintro ⟨z1, z2⟩
            have hne : i ≠ cs_s S n % 10 := fun z => by rw [none i (by omega) (by omega)] at z2; cases z2
            refine ⟨?_, hne⟩
            rcases (any i hi (by omega)).mp z2 with z | z
            · exact Or.inl ⟨z1, z⟩
            · exact Or.inr ⟨z1, z⟩
        · rw [hb _ _ i hi, (hp i hi).2, (hcl i hi).2]
          rcases Nat.lt_or_ge (i + 10) 32 with w | w
          · rcases Nat.lt_or_ge i 10 with w2 | w2
            · constructor
              · rintro ⟨z1, z2⟩
                exact (any (i + 10) w (by omega)).mpr z1
              · intro z2
                have hne : i ≠ cs_s S n % 10 := fun z => by rw [none (i + 10) (by omega) (by omega)] at z2; cases z2
                exact ⟨(any (i + 10) w (by omega)).mp z2, hne⟩
            · have n1 : bt c' (i + 10) = false := hlo _ (by omega) w
              have n2 : bt c (i + 10) = false := by
                cases u : bt c (i + 10) with
                | false => rfl
                | true => have := cr_sg9 h9 (hc _ w u).1; omega
              have n3 : bt (cs_cl S cc) (i + 10) = false := by
                cases u : bt (cs_cl S cc) (i + 10) with
                | false => rfl
                | true => have := cr_sg9 h9 ((h.1.2.1 cc hcc).1 _ w u); omega
              rw [n1, n2, n3]
              constructor
              · rintro ⟨z | z, -⟩ <;> cases z
              · intro z; cases z
          · rw [b_big w, b_big w, b_big w]
            constructor
            · rintro ⟨z | z, -⟩ <;> cases z
            · intro z; cases z
      have bb : bt (up ||| down) (cs_s S n % 10) = true := hh.mpr b
      have nc : bt c' (cr_op (cs_s S n)) = false := none _ opx (by omega)
      refine cw_run cw_kL_learn cw_z 45 [true] [_, _, _, _, _, _, _, _] [] (And.intro (rfl) (And.intro (n10) (And.intro ((show ¬ ((up ||| down) >>> (tr n &&& 31)) &&& nI 1 = 0 by rw [t1, pl_b1 (by omega), bb]; decide)) (And.intro (rfl) (And.intro (n10) (And.intro (rfl) (And.intro (n10) (And.intro (t1) (And.intro (x10) (And.intro (e3) (And.intro (hcc61) (And.intro (rfl) (And.intro (n10) (And.intro (t1) (And.intro (x10) (And.intro (e3) (And.intro (hcc61) (cw_less [3, 0, 1, 4, 5, 6, 7, 8, 9, 10] rfl (pl_cnt h hr hc2 hp2 (fun d2 => ?_) (fun d2 => ?_))))))))))))))))))))
      · refine K _ _ ?_
        rw [show cx = c' by
          rw [← e]
          cases n with
          | zero => rfl
          | succ m => unfold cs_coo; rw [if_pos d2]]
        exact hp2
      · have w := ih c' _ _ (by omega) e hc2 hk2 d2 hp2
        have nb : bt (((up ||| on cc) &&& ((nI 1 <<< (tr n &&& 31)) ^^^ (-nI 1))) ||| ((down ||| ze cc) &&& ((nI 1 <<< (tr n &&& 31)) ^^^ (-nI 1)))) (cs_s S n % 10) = false := by
          cases u : bt (((up ||| on cc) &&& ((nI 1 <<< (tr n &&& 31)) ^^^ (-nI 1))) ||| ((down ||| ze cc) &&& ((nI 1 <<< (tr n &&& 31)) ^^^ (-nI 1)))) (cs_s S n % 10) with
          | false => rfl
          | true => rw [(pr_has h hc2 hp2 hng).mp u] at nc; cases nc
        rw [← cb_m] at w
        exact cw_run cw_kL_learn cw_z 12 [false] [_] [] (And.intro (rfl) (And.intro (n10) (And.intro ((show ¬ ¬ ((((up ||| on cc) &&& ((nI 1 <<< (tr n &&& 31)) ^^^ (-nI 1))) ||| ((down ||| ze cc) &&& ((nI 1 <<< (tr n &&& 31)) ^^^ (-nI 1)))) >>> (tr n &&& 31)) &&& nI 1 = 0 by rw [t1] at nb ⊢; rw [pl_b1 (by omega), nb]; exact fun z => z rfl)) (w))))
/-- the level to go to -/
theorem pl_lev (h : crp y S f) (hr : pr y S q on ze le re tr) {c up down : Int32} (hc : cr_fl S c) (hp : pr_c c up down) (K : cw_W l mm_L_learn 0 0 h0 none h1 0 0 245 ((10, .int (cs_lbp S c (cs_g S) 0 (nI 0))) :: (8, .int down) :: (7, .int up) :: pl_L c0) [] (pl_h q on ze le re tr)) : ∀ n i a, i + n = cs_g S → cs_lbp S c n i a = cs_lbp S c (cs_g S) 0 (nI 0) → cw_W l mm_L_learn 0 0 h0 none h1 0 0 170 ((11, .int (nI i)) :: (10, .int a) :: (8, .int down) :: (7, .int up) :: pl_L c0) [] (pl_h q on ze le re tr) := by
  have g9 := cr_g9 h.1
  have h9 := cr_k9 h.1
  have g7 := pr_g7 h.1 hr
  intro n
  induction n with
  | zero =>
    intro i a hi e
    obtain rfl : i = cs_g S := by omega
    rw [← e] at K
    exact cw_run cw_kL_learn cw_z 5 [true] [_] [] (And.intro (rfl) (And.intro (Nat.le_of_ble_eq_true rfl) (And.intro ((show q 7 ≤ nI (cs_g S) by rw [g7]; exact Int32.le_refl _)) (cw_less [1, 2, 3, 4, 5, 6, 7, 8, 9, 10] rfl K))))
  | succ n ih =>
    intro i a hi e
    have hig : i < cs_g S := by omega
    obtain ⟨t1, t2, t3⟩ := hr.2.2.2 i hig
    obtain ⟨es, hs, -⟩ := h.1.2.2.1.1 i hig
    have hs9 := cr_sg9 h9 hs
    have m0 : ¬ q 7 ≤ nI i := by rw [g7]; exact nI_ge hig (by omega)
    have hh := pr_has h hc hp hig
    have i10 : i < 10 := by omega
    have x10 : cs_s S i % 10 < 10 := by omega
    have q6 : q 6 = cs_pl S (cs_g S) := hr.1.2.2.2.2.2.2.1
    have el : cs_lbp S c (n + 1) i a = cs_lbp S c n (i + 1) (if bt c (cr_op (cs_s S i)) then (if cs_pl S (cs_g S) ≤ cs_lv S i then a else (if a < cs_lv S i then cs_lv S i else a)) else a) := by
      conv => lhs; unfold cs_lbp
      rw [es, cb_opp_nI (by omega), cb_hs_bt (by have := cr_sg9 h9 (cr_sg_op h9 hs); omega)]
    rw [el] at e
    have ih1 := ih (i + 1) _ (by omega) e
    rw [← nI_add i 1] at ih1
    cases b : bt c (cr_op (cs_s S i)) with
    | false =>
      rw [b, if_neg (by decide)] at ih1
      have nb : bt (up ||| down) (cs_s S i % 10) = false := by
        cases w : bt (up ||| down) (cs_s S i % 10) with
        | false => rfl
        | true => rw [hh.mp w] at b; cases b
      exact cw_run cw_kL_learn cw_z 20 [false, true] [_, _] [] (And.intro (rfl) (And.intro (Nat.le_of_ble_eq_true rfl) (And.intro (m0) (And.intro (rfl) (And.intro (i10) (And.intro ((show ¬ ((up ||| down) >>> (tr i &&& 31)) &&& nI 1 = nI 1 by rw [t1, pl_b1 (by omega), nb]; decide)) (ih1)))))))
    | true =>
      have nb : ¬ ¬ ((up ||| down) >>> (tr i &&& 31)) &&& nI 1 = nI 1 := by rw [t1, pl_b1 (by omega), hh.mpr b]; exact fun z => z rfl
      rw [b, if_pos rfl] at ih1
      by_cases d : cs_pl S (cs_g S) ≤ cs_lv S i
      · rw [if_pos d] at ih1
        exact cw_run cw_kL_learn cw_z 29 [false, false, true] [_, _, _, _, _] [] (And.intro (rfl) (And.intro (Nat.le_of_ble_eq_true rfl) (And.intro (m0) (And.intro (rfl) (And.intro (i10) (And.intro (nb) (And.intro (rfl) (And.intro (i10) (And.intro (t1) (And.intro (x10) (And.intro (rfl) (And.intro (Nat.le_of_ble_eq_true rfl) (And.intro ((show q 6 ≤ le (cs_s S i % 10) by rw [q6, t2]; exact d)) (ih1))))))))))))))
      · rw [if_neg d] at ih1
        have d2 : ¬ q 6 ≤ le (cs_s S i % 10) := by rw [q6, t2]; exact d
        by_cases w : a < cs_lv S i
        · rw [if_pos w, ← t2] at ih1
          exact cw_run cw_kL_learn cw_z 41 [false, false, false, false] [_, _, _, _, _, _, _, _, _] [] (And.intro (rfl) (And.intro (Nat.le_of_ble_eq_true rfl) (And.intro (m0) (And.intro (rfl) (And.intro (i10) (And.intro (nb) (And.intro (rfl) (And.intro (i10) (And.intro (t1) (And.intro (x10) (And.intro (rfl) (And.intro (Nat.le_of_ble_eq_true rfl) (And.intro (d2) (And.intro (rfl) (And.intro (i10) (And.intro (t1) (And.intro (x10) (And.intro ((show ¬ le (cs_s S i % 10) ≤ a by rw [t2]; exact Int32.not_le.mpr w)) (And.intro (rfl) (And.intro (i10) (And.intro (t1) (And.intro (x10) (ih1)))))))))))))))))))))))
        · rw [if_neg w] at ih1
          exact cw_run cw_kL_learn cw_z 36 [false, false, false, true] [_, _, _, _, _, _, _] [] (And.intro (rfl) (And.intro (Nat.le_of_ble_eq_true rfl) (And.intro (m0) (And.intro (rfl) (And.intro (i10) (And.intro (nb) (And.intro (rfl) (And.intro (i10) (And.intro (t1) (And.intro (x10) (And.intro (rfl) (And.intro (Nat.le_of_ble_eq_true rfl) (And.intro (d2) (And.intro (rfl) (And.intro (i10) (And.intro (t1) (And.intro (x10) (And.intro ((show le (cs_s S i % 10) ≤ a by rw [t2]; exact Int32.not_lt.mp w)) (ih1)))))))))))))))))))
end PL2
end
section
/-! p24: the law learns: room, the clause kept, back at a restart -/
def pl_lo (c : Int32) : Int32 := c &&& nI 1023
def pl_hi (c : Int32) : Int32 := cb_us c 10
theorem pl_1023 : ∀ i, i < 32 → bt (nI 1023) i = decide (i < 10) := by decide +kernel
theorem pr_c_lh (c : Int32) : pr_c c (pl_lo c) (pl_hi c) := by
  intro i hi
  refine ⟨?_, ?_⟩
  · unfold pl_lo
    rw [b_and, pl_1023 i hi, Bool.and_eq_true, decide_eq_true_eq, and_comm]
  · unfold pl_hi cb_us
    rw [b_ushr 10 (by omega), Nat.add_comm]
theorem pr_c_uni {c o z o2 z2 : Int32} (h1 : pr_c c o z) (h2 : pr_c c o2 z2) : o = o2 ∧ z = z2 := by
  refine ⟨b_ext (fun i hi => ?_), b_ext (fun i hi => ?_)⟩
  · have a := (h1 i hi).1
    have b := (h2 i hi).1
    cases u : bt o i <;> cases v : bt o2 i <;> simp_all
  · have a := (h1 i hi).2
    have b := (h2 i hi).2
    cases u : bt z i <;> cases v : bt z2 i <;> simp_all
section PL3
variable {l : Launch} {y : Int32} {S : cs_S} {f q on ze le re tr : Nat → Int32} {h0 h1 : cw_H} {c0 up down : Int32}
/-- is a clause a reason? -/
theorem pl_used (h : crp y S f) (hr : pr y S q on ze le re tr) {go al : Int32} (K : cw_W l mm_L_learn 0 0 h0 none h1 0 0 333 ((14, .int (nI (cs_g S))) :: (13, .int (cb_n (cs_isr S go (cs_g S) 0))) :: (12, .int go) :: (11, .int al) :: (8, .int down) :: (7, .int up) :: pl_L c0) [] (pl_h q on ze le re tr)) : ∀ n i u, i + n = cs_g S → (u || cs_isr S go n i) = cs_isr S go (cs_g S) 0 → cw_W l mm_L_learn 0 0 h0 none h1 0 0 293 ((14, .int (nI i)) :: (13, .int (cb_n u)) :: (12, .int go) :: (11, .int al) :: (8, .int down) :: (7, .int up) :: pl_L c0) [] (pl_h q on ze le re tr) := by
  have g9 := cr_g9 h.1
  have g7 := pr_g7 h.1 hr
  intro n
  induction n with
  | zero =>
    intro i u hi e
    obtain rfl : i = cs_g S := by omega
    have e : u = cs_isr S go (cs_g S) 0 := by rw [← e]; exact (Bool.or_false u).symm
    rw [← e] at K
    exact cw_run cw_kL_learn cw_z 5 [true] [_] [] (And.intro (rfl) (And.intro (Nat.le_of_ble_eq_true rfl) (And.intro ((show q 7 ≤ nI (cs_g S) by rw [g7]; exact Int32.le_refl _)) (K))))
  | succ n ih =>
    intro i u hi e
    have hig : i < cs_g S := by omega
    obtain ⟨t1, t2, t3⟩ := hr.2.2.2 i hig
    have m0 : ¬ q 7 ≤ nI i := by rw [g7]; exact nI_ge hig (by omega)
    have i10 : i < 10 := by omega
    have x10 : cs_s S i % 10 < 10 := by omega
    rw [show cs_isr S go (n + 1) i = if cs_rs S i = go then true else cs_isr S go n (i + 1) from rfl] at e
    cases u with
    | true =>
      have ih1 := ih (i + 1) true (by omega) (by rw [Bool.true_or] at e ⊢; exact e)
      rw [← nI_add i 1] at ih1
      exact cw_run cw_kL_learn cw_z 12 [false, true] [_] [] (And.intro (rfl) (And.intro (Nat.le_of_ble_eq_true rfl) (And.intro (m0) (And.intro ((show ¬ cb_n true = 0 from cb_nt.mpr rfl)) (ih1)))))
    | false =>
      by_cases d : cs_rs S i = go
      · have ih1 := ih (i + 1) true (by omega) (by rw [if_pos d] at e; rw [Bool.true_or]; exact e)
        rw [← nI_add i 1] at ih1
        exact cw_run cw_kL_learn cw_z 19 [false, false, false] [_, _, _] [] (And.intro (rfl) (And.intro (Nat.le_of_ble_eq_true rfl) (And.intro (m0) (And.intro ((show ¬ ¬ cb_n false = 0 from fun z => z (cb_n0.mpr rfl))) (And.intro (rfl) (And.intro (i10) (And.intro (t1) (And.intro (x10) (And.intro ((show ¬ ¬ re (cs_s S i % 10) = go from fun z => z (t3.trans d))) (ih1))))))))))
      · have ih1 := ih (i + 1) false (by omega) (by rw [if_neg d] at e; exact e)
        rw [← nI_add i 1] at ih1
        exact cw_run cw_kL_learn cw_z 18 [false, false, true] [_, _, _] [] (And.intro (rfl) (And.intro (Nat.le_of_ble_eq_true rfl) (And.intro (m0) (And.intro ((show ¬ ¬ cb_n false = 0 from fun z => z (cb_n0.mpr rfl))) (And.intro (rfl) (And.intro (i10) (And.intro (t1) (And.intro (x10) (And.intro ((show ¬ re (cs_s S i % 10) = go from fun z => d (t3.symm.trans z))) (ih1))))))))))
/-- the earliest learned clause without use -/
theorem pl_gone (h : crp y S f) (hr : pr y S q on ze le re tr) {al : Int32} {j : Nat} (K : cw_W l mm_L_learn 0 0 h0 none h1 0 0 351 ((13, .int (nI 0)) :: (12, .int (nI j)) :: (11, .int al) :: (8, .int down) :: (7, .int up) :: pl_L c0) [] (pl_h q on ze le re tr)) : ∀ m k, cs_fgk S m k = some j → cw_W l mm_L_learn 0 0 h0 none h1 0 0 282 ((13, .int (nI 1)) :: (12, .int (nI k)) :: (11, .int al) :: (8, .int down) :: (7, .int up) :: pl_L c0) [] (pl_h q on ze le re tr) := by
  intro m
  induction m with
  | zero => intro k e; cases e
  | succ m ih =>
    intro k e
    unfold cs_fgk at e
    refine cw_run cw_kL_learn cw_z 6 [false] [] [] (And.intro ((show ¬ nI 1 = 0 by decide)) (pl_used h hr (go := nI k) ?_ (cs_g S) 0 false (by omega) rfl))
    cases b : cs_isr S (nI k) (cs_g S) 0 with
    | true =>
      rw [b, if_pos rfl] at e
      have ih1 := ih (k + 1) e
      rw [← nI_add k 1] at ih1
      exact cw_run cw_kL_learn cw_z 8 [false] [] [] (And.intro ((show ¬ cb_n true = 0 from cb_nt.mpr rfl)) (cw_less [2, 0, 3, 4, 5, 6, 7, 8, 9, 10, 11, 12] rfl ih1))
    | false =>
      rw [b, if_neg (by decide)] at e
      have e0 : nI k + nI 0 = nI j := by rw [nI_add, Nat.add_zero, Option.some.inj e]
      rw [← e0] at K
      exact cw_run cw_kL_learn cw_z 9 [true, true] [] [] (And.intro (cb_n0.mpr rfl) (And.intro (cb_n0.mpr rfl) (cw_less [2, 0, 3, 4, 5, 6, 7, 8, 9, 10, 11, 12] rfl K)))
/-- the gap closes -/
theorem pl_shift {al j : Nat} (h60 : al ≤ 60) (K : cw_W l mm_L_learn 0 0 h0 none h1 0 0 390 ((13, .int (nI (al - 1))) :: (12, .int (nI j)) :: (11, .int (nI al)) :: (8, .int down) :: (7, .int up) :: pl_L c0) [] (pl_h q (cs_rm on j (al - 1)) (cs_rm ze j (al - 1)) le re tr)) : ∀ n i, i + 1 + n = al → j ≤ i → cw_W l mm_L_learn 0 0 h0 none h1 0 0 355 ((13, .int (nI i)) :: (12, .int (nI j)) :: (11, .int (nI al)) :: (8, .int down) :: (7, .int up) :: pl_L c0) [] (pl_h q (cs_rm on j i) (cs_rm ze j i) le re tr) := by
  intro n
  induction n with
  | zero =>
    intro i hi hj
    obtain rfl : i = al - 1 := by omega
    exact cw_run cw_kL_learn cw_z 5 [true] [] [] (And.intro ((show nI al ≤ nI (al - 1) + nI 1 by rw [nI_add]; exact nI_le (by omega) (by omega))) (K))
  | succ n ih =>
    intro i hi hj
    have ih1 := ih (i + 1) (by omega) (by omega)
    rw [← nI_add i 1, ← cs_rm_s on hj, ← cs_rm_s ze hj] at ih1
    exact cw_run cw_kL_learn cw_z 23 [false] [_, _, _, _] [] (And.intro ((show ¬ nI al ≤ nI i + nI 1 by rw [nI_add]; exact nI_ge (by omega) (by omega))) (And.intro (nI_add i 1) (And.intro ((show i + 1 < 61 by omega)) (And.intro (rfl) (And.intro ((show i < 61 by omega)) (And.intro (nI_add i 1) (And.intro ((show i + 1 < 61 by omega)) (And.intro (rfl) (And.intro ((show i < 61 by omega)) (ih1))))))))))
/-- reasons behind the gap -/
def pl_low1 (S : cs_S) (j k : Nat) : Int32 := if nI j < cs_rs S k then cs_rs S k - nI 1 else cs_rs S k
theorem pl_lower (h : cr_I S) (h7 : q 7 = nI (cs_g S)) (ht : ∀ k, k < cs_g S → tr k = nI (cs_s S k % 10)) {al : Int32} {j : Nat} : ∀ n i re, i + n = cs_g S → (∀ k, k < i → re (cs_s S k % 10) = pl_low1 S j k) → (∀ k, i ≤ k → k < cs_g S → re (cs_s S k % 10) = cs_rs S k) → ∃ re', (∀ k, k < cs_g S → re' (cs_s S k % 10) = pl_low1 S j k) ∧ (∀ {h0 h1 : cw_H}, cw_W l mm_L_learn 0 0 h0 none h1 0 0 433 ((13, .int (nI (cs_g S))) :: (12, .int (nI j)) :: (11, .int al) :: (8, .int down) :: (7, .int up) :: pl_L c0) [] (pl_h q on ze le re' tr) → cw_W l mm_L_learn 0 0 h0 none h1 0 0 393 ((13, .int (nI i)) :: (12, .int (nI j)) :: (11, .int al) :: (8, .int down) :: (7, .int up) :: pl_L c0) [] (pl_h q on ze le re tr)) := by
  have g9 := cr_g9 h
  intro n
  induction n with
  | zero =>
    intro i re hi h1 h2
    obtain rfl : i = cs_g S := by omega
    refine ⟨re, h1, fun K => ?_⟩
    exact cw_run cw_kL_learn cw_z 5 [true] [_] [] (And.intro (rfl) (And.intro (Nat.le_of_ble_eq_true rfl) (And.intro ((show q 7 ≤ nI (cs_g S) by rw [h7]; exact Int32.le_refl _)) (K))))
  | succ n ih =>
    intro i re hi h1 h2
    have hig : i < cs_g S := by omega
    have t1 := ht i hig
    have t3 := h2 i (Nat.le_refl _) hig
    have m0 : ¬ q 7 ≤ nI i := by rw [h7]; exact nI_ge hig (by omega)
    have i10 : i < 10 := by omega
    have x10 : cs_s S i % 10 < 10 := by omega
    by_cases d : nI j < cs_rs S i
    · obtain ⟨re', a1, a2⟩ := ih (i + 1) (upd re (cs_s S i % 10) (re (cs_s S i % 10) - nI 1)) (by omega) (fun k hk => by
        by_cases e : k = i
        · subst e
          rw [pk_us, t3]; unfold pl_low1; rw [if_pos d]
        · rw [pk_un (fun z => e (cr_uni h (by omega) hig z))]; exact h1 k (by omega)) (fun k hk hk2 => by
        rw [pk_un (fun z => by have := cr_uni h hk2 hig z; omega)]; exact h2 k (by omega) hk2)
      refine ⟨re', a1, fun K => ?_⟩
      have w := a2 K
      rw [← nI_add i 1] at w
      exact cw_run cw_kL_learn cw_z 23 [false, false] [_, _, _, _, _, _] [] (And.intro (rfl) (And.intro (Nat.le_of_ble_eq_true rfl) (And.intro (m0) (And.intro (rfl) (And.intro (i10) (And.intro (t1) (And.intro (x10) (And.intro ((show ¬ re (cs_s S i % 10) ≤ nI j by rw [t3]; exact Int32.not_le.mpr d)) (And.intro (rfl) (And.intro (i10) (And.intro (t1) (And.intro (x10) (And.intro (t1) (And.intro (x10) (w)))))))))))))))
    · obtain ⟨re', a1, a2⟩ := ih (i + 1) re (by omega) (fun k hk => by
        by_cases e : k = i
        · subst e
          rw [t3]; unfold pl_low1; rw [if_neg d]
        · exact h1 k (by omega)) (fun k hk hk2 => h2 k (by omega) hk2)
      refine ⟨re', a1, fun K => ?_⟩
      have w := a2 K
      rw [← nI_add i 1] at w
      exact cw_run cw_kL_learn cw_z 14 [false, true] [_, _, _] [] (And.intro (rfl) (And.intro (Nat.le_of_ble_eq_true rfl) (And.intro (m0) (And.intro (rfl) (And.intro (i10) (And.intro (t1) (And.intro (x10) (And.intro ((show re (cs_s S i % 10) ≤ nI j by rw [t3]; exact Int32.not_lt.mp d)) (w)))))))))
theorem pr_drop (h : cr_I S) (hr : pr y S q on ze le re tr) (hn : cs_n S = 40) {j : Nat} (j1 : cs_t S ≤ j) (j2 : j < cs_t S + 40) {re' : Nat → Int32} (hre : ∀ k, k < cs_g S → re' (cs_s S k % 10) = pl_low1 S j k) : pr y (cs_drop S j) (upd q 4 (q 4 - nI 1)) (cs_rm on j (cs_t S + 40 - 1)) (cs_rm ze j (cs_t S + 40 - 1)) le re' tr := by
  have hB := h.1.1
  have h20 := hB.2.1.2
  obtain ⟨hB2, hn2⟩ := cs_Bd_drop hB (show 1 ≤ cs_n S by omega) j
  have hn3 : cs_n (cs_drop S j) = 39 := by omega
  obtain ⟨⟨r0, r1, r2, r3, r4, r5, r6, r7, r8, r9⟩, rv, rk, rt⟩ := hr
  have ft : cs_t (cs_drop S j) = cs_t S := rfl
  refine ⟨⟨r0, r1, r2, r3, ?_, r5, r6, r7, r8, r9⟩, rv, fun k hk => ?_, fun k hk => ?_⟩
  · rw [pk_us, r4]; rfl
  · rw [ft, hn3] at hk
    show pr_c (cs_rm (cs_cl S) j 59 k) (cs_rm on j (cs_t S + 40 - 1) k) (cs_rm ze j (cs_t S + 40 - 1) k)
    unfold cs_rm
    by_cases c : j ≤ k
    · rw [if_pos ⟨c, by omega⟩, if_pos ⟨c, by omega⟩, if_pos ⟨c, by omega⟩]; exact rk (k + 1) (by omega)
    · rw [if_neg (fun z => c z.1), if_neg (fun z => c z.1), if_neg (fun z => c z.1)]; exact rk k (by omega)
  · have hk2 : k < cs_g S := hk
    obtain ⟨t1, t2, t3⟩ := rt k hk2
    refine ⟨t1, t2, ?_⟩
    refine (hre k hk2).trans ?_
    show pl_low1 S j k = cs_lr S (nI j) (cs_g S) k
    unfold pl_low1 cs_lr
    by_cases c : nI j < cs_rs S k
    · rw [if_pos c, if_pos ⟨hk2, c⟩]
    · rw [if_neg c, if_neg (fun z => c z.2)]
/-- room for a learned clause -/
theorem pl_room (h : crp y S f) (hr : pr y S q on ze le re tr) {x10 : Int32} : ∃ f2 q2 on2 ze2 re2, crp y (cs_mr S) f2 ∧ pr y (cs_mr S) q2 on2 ze2 le re2 tr ∧ cs_n (cs_mr S) ≤ 39 ∧ cs_t (cs_mr S) = cs_t S ∧ cs_k (cs_mr S) = cs_k S ∧ (∀ {h0 h1 : cw_H}, cw_W l mm_L_learn 0 0 h0 none h1 0 0 443 ((11, .int (nI (cs_t S + cs_n (cs_mr S)))) :: (8, .int down) :: (7, .int up) :: pl_L c0) [] (pl_h q2 on2 ze2 le re2 tr) → cw_W l mm_L_learn 0 0 h0 none h1 0 0 257 ((10, .int x10) :: (8, .int down) :: (7, .int up) :: pl_L c0) [] (pl_h q on ze le re tr)) := by
  have hB := h.1.1.1
  have e3 : q 3 + q 4 = nI (cs_t S + cs_n S) := by rw [hr.1.2.2.2.1, hr.1.2.2.2.2.1, hB.2.1.1, hB.2.2.1.1, nI_add]
  have e4 : q 4 = nI (cs_n S) := by rw [hr.1.2.2.2.2.1, hB.2.2.1.1]
  have e3' : q 3 = nI (cs_t S) := by rw [hr.1.2.2.2.1, hB.2.1.1]
  have t20 := hB.2.1.2
  have n40 := hB.2.2.1.2
  by_cases c40 : cs_n S = 40
  · obtain ⟨j, j1, j2, j3, j4, j5⟩ := cr_room h c40
    obtain ⟨d1, d2⟩ := cr_drop h c40 j1 j2 j5
    have emr : cs_mr S = cs_drop S j := by unfold cs_mr; rw [if_neg (by omega), j3]
    rw [emr]
    have efg : cs_fgk S 40 (cs_t S) = some j := by
      have z := j3
      unfold cs_fgt at z
      rw [c40] at z
      cases w : cs_fgk S 40 (cs_t S) with
      | none =>
        rw [w] at z
        have hn := congrArg cs_n z
        rw [d2, c40] at hn
        omega
      | some k =>
        obtain ⟨k1, hk1, hk2, hk3, -⟩ : ∃ k1, cs_t S ≤ k1 ∧ k1 < cs_t S + 40 ∧ cs_fgk S 40 (cs_t S) = some k1 ∧ ∀ a, cm_mk f (cs_t S) (cs_t S - cs_t S + 40) a = cm_mk f (cs_t S) (cs_t S - cs_t S) (nI k1) := by
          rcases cr_fgk h (cs_t S) 40 (cs_t S) (by omega) (Nat.le_refl _) with ⟨w2, -⟩ | ⟨k1, a1, a2, a3, a4, a5⟩
          · rw [w] at w2; cases w2
          · exact ⟨k1, a1, a2, a3, a5⟩
        rcases cr_fgk h (cs_t S) 40 (cs_t S) (by omega) (Nat.le_refl _) with ⟨w2, -⟩ | ⟨k2, a1, a2, a3, a4, a5⟩
        · rw [w] at w2; cases w2
        · have z2 := a5 (-nI 6)
          rw [Nat.sub_self, Nat.zero_add] at z2
          have z3 : nI k2 = nI j := by rw [← j4]; exact z2.symm
          have z4 := (nI_eq (by omega) (by omega)).mp z3
          rw [w] at a3
          cases a3
          rw [z4]
    obtain ⟨re', a1, a2⟩ := pl_lower (l := l) (on := cs_rm on j (cs_t S + 40 - 1)) (ze := cs_rm ze j (cs_t S + 40 - 1)) (le := le) (c0 := c0) (up := up) (down := down) (al := nI (cs_t S + 40)) (j := j) h.1 (pr_g7 h.1 hr) (fun k hk => (hr.2.2.2 k hk).1) (cs_g S) 0 re (by omega) (fun k hk => absurd hk (Nat.not_lt_zero k)) (fun k _ hk => (hr.2.2.2 k hk).2.2)
    refine ⟨_, _, _, _, _, d1, pr_drop h.1 hr c40 j1 j2 a1, by omega, rfl, rfl, fun K => ?_⟩
    rw [d2, show cs_t S + 39 = cs_t S + 40 - 1 by omega, ← pk_sub (show 1 ≤ cs_t S + 40 by omega), ← cb_m] at K
    rw [c40] at e3 e4
    have K2 := a2 (h0 := _) (h1 := _) (cw_run cw_kL_learn cw_z 8 [] [_, _] [] (And.intro (rfl) (And.intro (Nat.le_of_ble_eq_true rfl) (And.intro (rfl) (And.intro (Nat.le_of_ble_eq_true rfl) (cw_less [0, 3, 4, 5, 6, 7, 8, 9, 10, 11] rfl K))))))
    have K3 := pl_shift (l := l) (q := q) (on := on) (ze := ze) (le := le) (re := re) (tr := tr) (up := up) (down := down) (c0 := c0) (al := cs_t S + 40) (j := j) (by omega) (cw_run cw_kL_learn cw_z 2 [] [] [] K2) (cs_t S + 40 - 1 - j) j (by omega) (Nat.le_refl _)
    rw [cs_rm_k, cs_rm_k] at K3
    have K4 := pl_gone h hr (al := nI (cs_t S + 40)) (up := up) (down := down) (c0 := c0) (j := j) (cw_run cw_kL_learn cw_z 2 [] [] [] K3) 40 (cs_t S) efg
    rw [← e3, ← e3'] at K4
    exact cw_run cw_kL_learn cw_z 19 [false] [_, _, _, _] [] (And.intro (rfl) (And.intro (Nat.le_of_ble_eq_true rfl) (And.intro (rfl) (And.intro (Nat.le_of_ble_eq_true rfl) (And.intro (rfl) (And.intro (Nat.le_of_ble_eq_true rfl) (And.intro ((show ¬ ¬ q 4 = nI 40 from fun z => z e4)) (And.intro (rfl) (And.intro (Nat.le_of_ble_eq_true rfl) (cw_less [0, 1, 2, 4, 5, 6, 7, 8, 9, 10, 11, 12] rfl K4))))))))))
  · have emr : cs_mr S = S := by unfold cs_mr; rw [if_pos (by omega)]
    rw [emr]
    refine ⟨f, q, on, ze, re, h, hr, by omega, rfl, rfl, fun K => ?_⟩
    rw [← e3] at K
    exact cw_run cw_kL_learn cw_z 13 [true] [_, _, _] [] (And.intro (rfl) (And.intro (Nat.le_of_ble_eq_true rfl) (And.intro (rfl) (And.intro (Nat.le_of_ble_eq_true rfl) (And.intro (rfl) (And.intro (Nat.le_of_ble_eq_true rfl) (And.intro ((show ¬ q 4 = nI 40 from fun z => c40 ((nI_eq (by omega) (by omega)).mp (e4.symm.trans z)))) (cw_less [0, 2, 3, 4, 5, 6, 7, 8, 9, 10] rfl K))))))))
/-- the clause kept -/
theorem pr_push (h : cr_I S) (hr : pr y S q on ze le re tr) (hn : cs_n S ≤ 39) {c up down : Int32} (hp : pr_c c up down) : pr y (cs_wco (cs_push S c) (cs_co S + nI 1)) (upd (upd q 4 (q 4 + nI 1)) 8 (q 8 + nI 1)) (upd on (cs_t S + cs_n S) up) (upd ze (cs_t S + cs_n S) down) le re tr := by
  have hB := h.1.1
  have eg : cs_le S + nI 1 = nI (cs_n S + 1) := by rw [hB.2.2.1.1, nI_add]
  have fn : cs_n (cs_wco (cs_push S c) (cs_co S + nI 1)) = cs_n S + 1 := cs_n_nI eg (by omega)
  obtain ⟨⟨r0, r1, r2, r3, r4, r5, r6, r7, r8, r9⟩, rv, rk, rt⟩ := hr
  refine ⟨⟨r0, r1, r2, r3, ?_, r5, r6, r7, ?_, r9⟩, rv, fun k hk => ?_, rt⟩
  · show q 4 + nI 1 = cs_le S + nI 1
    rw [r4]
  · show q 8 + nI 1 = cs_co S + nI 1
    rw [r8]
  · rw [fn] at hk
    have hk : k < cs_t S + (cs_n S + 1) := hk
    show pr_c (upd (cs_cl S) (cs_t S + cs_n S) c k) _ _
    by_cases e : k = cs_t S + cs_n S
    · subst e
      rw [pk_us, pk_us, pk_us]; exact hp
    · rw [pk_un e, pk_un e, pk_un e]; exact rk k (by omega)
set_option maxRecDepth 10000 in
theorem pl_keep (h : crp y S f) (hr : pr y S q on ze le re tr) (hn : cs_n S ≤ 39) {c : Int32} (hc : cr_c (cs_k S) c) (hp : pr_c c up down) : ∃ f' q' on' ze' re', crp y (cs_mf (cs_push S c)) f' ∧ pr y (cs_mf (cs_push S c)) q' on' ze' le re' tr ∧ ∀ {h0 : cw_H}, cw_W l mm_L_learn 0 0 h0 none (pl_h q' on' ze' le re' tr) 0 0 443 ((11, .int (nI (cs_t S + cs_n S))) :: (8, .int down) :: (7, .int up) :: pl_L c0) [] (pl_h q on ze le re tr) := by
  have hB := h.1.1.1
  have t20 := hB.2.1.2
  have hr3 := pr_push h.1 hr hn hp
  obtain ⟨h3, en3⟩ := cr_push h hn hc
  obtain ⟨r, r1, r2, r3⟩ := h.1.1.2.2.1
  have emf : cs_mf (cs_push S c) = if (cs_co S + nI 1) - (cs_co S + nI 1) / cs_re S * cs_re S = 0 then cs_gb (cs_wco (cs_push S c) (cs_co S + nI 1)) (nI 0) else cs_wco (cs_push S c) (cs_co S + nI 1) := by
    have : ¬ cs_re (cs_push S c) ≤ 0 := by
      show ¬ cs_re S ≤ 0
      rw [r3]; exact nI_nle (by omega) (by omega)
    unfold cs_mf
    rw [if_neg this]
    rfl
  rw [emf]
  have q8 : q 8 = cs_co S := hr.1.2.2.2.2.2.2.2.2.1
  have q1 : q 1 = cs_re S := hr.1.2.1
  have hq1 : ¬ q 1 = 0 := by rw [q1, r3]; exact nI_ne0 (by omega) (by omega)
  have k61 : cs_t S + cs_n S < 61 := by omega
  by_cases d : (cs_co S + nI 1) - (cs_co S + nI 1) / cs_re S * cs_re S = 0
  · rw [if_pos d]
    have eg : cs_g (cs_wco (cs_push S c) (cs_co S + nI 1)) = cs_g S := rfl
    obtain ⟨g1, g2⟩ := cr_gb h3 (m := 0) (Nat.zero_le _)
    have hl : cs_pl (cs_gb (cs_wco (cs_push S c) (cs_co S + nI 1)) (nI 0)) (cs_g (cs_gb (cs_wco (cs_push S c) (cs_co S + nI 1)) (nI 0))) = nI 0 := (g1.2.1.2.2.2.2.2.2.1).symm
    obtain ⟨q', re', F, w⟩ := pl_back (l := l) (q := upd (upd q 4 (q 4 + nI 1)) 8 (q 8 + nI 1)) (on := upd on (cs_t S + cs_n S) up) (ze := upd ze (cs_t S + cs_n S) down) (le := le) (re := re) (tr := tr) (L := nI 0) (x := fun k => cs_s S k % 10) (g := cs_g S) (cr_g9 h.1) (fun k hk => pr_x h.1 hr k hk) (show q 7 = nI (cs_g S) from pr_g7 h.1 hr)
    refine ⟨_, q', _, _, re', g1, pr_gb h3.1 hr3 (Nat.zero_le _) hl F, ?_⟩
    intro h0
    exact cw_run cw_kL_learn cw_z 36 [false] [_, _, _, _, _, _, _, _] [(_, _)] (And.intro (rfl) (And.intro (k61) (And.intro (rfl) (And.intro (k61) (And.intro (rfl) (And.intro (Nat.le_of_ble_eq_true rfl) (And.intro (rfl) (And.intro (Nat.le_of_ble_eq_true rfl) (And.intro (rfl) (And.intro (Nat.le_of_ble_eq_true rfl) (And.intro (rfl) (And.intro (Nat.le_of_ble_eq_true rfl) (And.intro (rfl) (And.intro (Nat.le_of_ble_eq_true rfl) (And.intro (rfl) (And.intro (Nat.le_of_ble_eq_true rfl) (And.intro (hq1) (And.intro ((show ¬ ¬ (q 8 + nI 1) - (q 8 + nI 1) / q 1 * q 1 = 0 by rw [q8, q1]; exact fun z => z d)) (And.intro (w) (And.intro (Nat.le_refl _) (cw_retv cw_kL_learn cw_z rfl rfl)))))))))))))))))))))
  · rw [if_neg d]
    refine ⟨_, _, _, _, _, h3, hr3, ?_⟩
    intro h0
    exact cw_run cw_kL_learn cw_z 30 [true] [_, _, _, _, _, _, _, _] [] (And.intro (rfl) (And.intro (k61) (And.intro (rfl) (And.intro (k61) (And.intro (rfl) (And.intro (Nat.le_of_ble_eq_true rfl) (And.intro (rfl) (And.intro (Nat.le_of_ble_eq_true rfl) (And.intro (rfl) (And.intro (Nat.le_of_ble_eq_true rfl) (And.intro (rfl) (And.intro (Nat.le_of_ble_eq_true rfl) (And.intro (rfl) (And.intro (Nat.le_of_ble_eq_true rfl) (And.intro (rfl) (And.intro (Nat.le_of_ble_eq_true rfl) (And.intro (hq1) (And.intro ((show ¬ (q 8 + nI 1) - (q 8 + nI 1) / q 1 * q 1 = 0 by rw [q8, q1]; exact d)) (cw_retv cw_kL_learn cw_z rfl rfl)))))))))))))))))))
/-- the law learns what the class learns -/
theorem pl_learn (h : crp y S f) (hr : pr y S q on ze le re tr) {k : Nat} (hk : k < cs_t S + cs_n S) (hp : cr_P S 0 k = true) (h6 : ¬ cs_pl S (cs_g S) = 0) : ∃ f' q' on' ze' re', crp y (cs_meet S (nI k)) f' ∧ pr y (cs_meet S (nI k)) q' on' ze' le re' tr ∧ cw_M l mm_L_learn 0 0 [.int (nI k), .ref 0, .ref 1, .ref 2, .ref 3, .ref 4, .ref 5] (pl_h q on ze le re tr) none (pl_h q' on' ze' le re' tr) := by
  have hk60 := cr_t60 h hk
  have hfl := cr_fl_of h.1 hk hp
  obtain ⟨hln, hc⟩ := cr_coo h (cs_g S) (cs_cl S k) (Nat.le_refl _) hfl (fun j h1 h2 => by omega) 11 (by have := cr_g9 h.1; omega)
  have eout : cs_out S (nI k) = cs_coo S (cr_ps S) (cs_g S) (cs_cl S k) := by unfold cs_out; rw [cs_ca_nI hk60]; rfl
  obtain ⟨e1, m, hm, e2⟩ := cr_lbp h hc (cs_g S) 0 0 (by omega) (Nat.zero_le _)
  have em : cs_meet S (nI k) = cs_mf (cs_learn (cs_gb S (nI m)) (cs_coo S (cr_ps S) (cs_g S) (cs_cl S k))) := by
    unfold cs_meet cs_m2 cs_m1
    rw [if_neg h6, eout, e2]
  obtain ⟨g1, eg1⟩ := cr_gb h hm
  have hcc := cr_fl_c h.1 hc
  rw [em]
  have W18 : ∀ {h0 h1 : cw_H}, (∀ up down, pr_c (cs_coo S (cr_ps S) (cs_g S) (cs_cl S k)) up down → cw_W l mm_L_learn 0 0 h0 none h1 0 0 164 ((8, .int down) :: (7, .int up) :: pl_L (nI k)) [] (pl_h q on ze le re tr)) → cw_W l mm_L_learn 0 0 h0 none h1 0 0 0 (pl_L (nI k)) [] (pl_h q on ze le re tr) := by
    intro h0 h1 K
    have g7 := pr_g7 h.1 hr
    have hpk := hr.2.2.1 k hk
    have w := pl_cnt h hr (kk := nI (cs_g S) - nI 1) (c0 := nI k) (h0 := h0) (h1 := h1) (l := l) hfl hpk (fun d => K _ _ (by
      have : cs_coo S (cr_ps S) (cs_g S) (cs_cl S k) = cs_cl S k := by
        cases cs_g S with
        | zero => rfl
        | succ g => unfold cs_coo; rw [if_pos d]
      rw [this]; exact hpk)) (fun d => pl_out h hr K (cs_g S) (cs_cl S k) _ _ (Nat.le_refl _) rfl hfl (fun j h1 h2 => by omega) d hpk)
    rw [← g7] at w
    exact cw_run cw_kL_learn cw_z 14 [] [_, _, _] [] (And.intro (rfl) (And.intro ((show k < 61 by omega)) (And.intro (rfl) (And.intro ((show k < 61 by omega)) (And.intro (rfl) (And.intro (Nat.le_of_ble_eq_true rfl) (w)))))))
  generalize cs_coo S (cr_ps S) (cs_g S) (cs_cl S k) = c at *
  have hpc := pr_c_lh c
  have hl : cs_pl (cs_gb S (nI m)) (cs_g (cs_gb S (nI m))) = nI m := (g1.2.1.2.2.2.2.2.2.1).symm
  obtain ⟨q', re', F, wb⟩ := pl_back (l := l) (q := q) (on := on) (ze := ze) (le := le) (re := re) (tr := tr) (L := nI m) (x := fun k => cs_s S k % 10) (g := cs_g S) (cr_g9 h.1) (fun k hk => pr_x h.1 hr k hk) (pr_g7 h.1 hr)
  have hr1 := pr_gb h.1 hr hm hl F
  obtain ⟨f2, q2, on2, ze2, re2, h2, hr2, n39, et2, ek2, w2⟩ := pl_room (l := l) (c0 := nI k) (up := pl_lo c) (down := pl_hi c) (x10 := cs_lbp S c (cs_g S) 0 (nI 0)) g1 hr1
  have ek1 : cs_k (cs_gb S (nI m)) = cs_k S := rfl
  obtain ⟨f3, q3, on3, ze3, re3, h3, hr3, w3⟩ := pl_keep (l := l) (c0 := nI k) (up := pl_lo c) (down := pl_hi c) h2 hr2 n39 (c := c) (by rw [ek2, ek1]; exact hcc) hpc
  have el : cs_learn (cs_gb S (nI m)) c = cs_push (cs_mr (cs_gb S (nI m))) c := by
    unfold cs_learn
    rw [if_pos (by omega)]
  rw [el]
  refine ⟨f3, q3, on3, ze3, re3, h3, hr3, cw_enter cw_KL_learn (by decide) (Nat.le_of_ble_eq_true rfl) (W18 (fun up down hp2 => ?_))⟩
  obtain ⟨rfl, rfl⟩ := pr_c_uni hp2 hpc
  rw [et2] at w3
  have w4 := w2 (w3 (h0 := pl_h q on ze le re tr))
  refine cw_run cw_kL_learn cw_z 4 [] [] [] (pl_lev h hr hc hp2 ?_ (cs_g S) 0 (nI 0) (by omega) rfl)
  rw [e2] at w4 ⊢
  exact cw_run cw_kL_learn cw_z 6 [] [] [(_, _)] (And.intro (wb) (And.intro (Nat.le_refl _) (w4)))
end PL3
end
section
/-! p24: one step of the law's search -/
abbrev pl_M : cw_LV := [(0, .ref 0), (1, .ref 1), (2, .ref 2), (3, .ref 3), (4, .ref 4), (5, .ref 5)]
section PL4
variable {l : Launch} {y : Int32} {S : cs_S} {f q on ze le re tr : Nat → Int32} {h0 h1 : cw_H}
theorem pr_sp (hr : pr y S q on ze le re tr) (z : Int32) : pr z S (upd q 9 z) on ze le re tr :=
  ⟨⟨hr.1.1, hr.1.2.1, hr.1.2.2.1, hr.1.2.2.2.1, hr.1.2.2.2.2.1, hr.1.2.2.2.2.2.1, hr.1.2.2.2.2.2.2.1, hr.1.2.2.2.2.2.2.2.1, hr.1.2.2.2.2.2.2.2.2.1, rfl⟩, hr.2.1, hr.2.2.1, hr.2.2.2⟩
theorem pr_sd (hr : pr y S q on ze le re tr) (z : Int32) : pr y (cs_wsd S z) (upd q 5 z) on ze le re tr :=
  ⟨⟨hr.1.1, hr.1.2.1, hr.1.2.2.1, hr.1.2.2.2.1, hr.1.2.2.2.2.1, rfl, hr.1.2.2.2.2.2.2.1, hr.1.2.2.2.2.2.2.2.1, hr.1.2.2.2.2.2.2.2.2.1, hr.1.2.2.2.2.2.2.2.2.2⟩, hr.2.1, hr.2.2.1, hr.2.2.2⟩
/-- the first false clause -/
theorem pl_s1 (h : crp y S f) (hr : pr y S q on ze le re tr) (K0 : cs_fu0 S = -nI 6 → cw_W l mm_L_step 0 0 h0 none h1 0 0 86 ((7, .int (nI (cs_t S + cs_n S))) :: (6, .int (nI (cs_t S + cs_n S))) :: pl_M) [] (pl_h q on ze le re tr)) (K1 : ∀ j, j < cs_t S + cs_n S → cs_fu0 S = nI j → cw_W l mm_L_step 0 0 h0 none h1 0 0 52 ((7, .int (nI j)) :: (6, .int (nI (cs_t S + cs_n S))) :: pl_M) [] (pl_h q on ze le re tr)) : ∀ n k, k + n = cs_t S + cs_n S → cs_fu S (nI 0) n k = cs_fu0 S → cw_W l mm_L_step 0 0 h0 none h1 0 0 20 ((7, .int (nI k)) :: (6, .int (nI (cs_t S + cs_n S))) :: pl_M) [] (pl_h q on ze le re tr) := by
  have n60 := cr_n60 h
  intro n
  induction n with
  | zero =>
    intro k hk e
    obtain rfl : k = cs_t S + cs_n S := by omega
    exact cw_run cw_kL_step cw_z 3 [true] [] [] (And.intro (Int32.le_refl _) (K0 e.symm))
  | succ n ih =>
    intro k hk e
    have hkk : k < cs_t S + cs_n S := by omega
    have k61 : k < 61 := by omega
    have m0 : ¬ nI (cs_t S + cs_n S) ≤ nI k := nI_ge hkk (by omega)
    have et := pr_tr h.1 hr hkk
    have eo := pr_op0 h.1 hr hkk
    rw [show cs_fu S (nI 0) (n + 1) k = if cs_tr S (cs_cl S k) then cs_fu S (nI 0) n (k + 1) else if cb_bc (cs_op S (cs_cl S k)) = nI 0 then nI k else cs_fu S (nI 0) n (k + 1) from rfl] at e
    cases b : cs_tr S (cs_cl S k) with
    | true =>
      rw [b, if_pos rfl] at e
      have ih1 := ih (k + 1) (by omega) e
      rw [← nI_add k 1] at ih1
      exact cw_run cw_kL_step cw_z 11 [false, true] [] [(_, _)] (And.intro (m0) (And.intro (pl_isTrue k61) (And.intro (Nat.le_refl _) (And.intro (cb_nt.mpr (et.trans b)) (ih1)))))
    | false =>
      rw [b, if_neg (by decide)] at e
      by_cases d : cb_bc (cs_op S (cs_cl S k)) = nI 0
      · rw [if_pos d] at e
        exact cw_run cw_kL_step cw_z 15 [false, false, true] [] [(_, _), (_, _)] (And.intro (m0) (And.intro (pl_isTrue k61) (And.intro (Nat.le_refl _) (And.intro ((fun z => z (cb_n0.mpr (et.trans b)))) (And.intro (pl_open k61) (And.intro (Nat.le_refl _) (And.intro (eo.mpr d) (K1 k hkk e.symm))))))))
      · rw [if_neg d] at e
        have ih1 := ih (k + 1) (by omega) e
        rw [← nI_add k 1] at ih1
        exact cw_run cw_kL_step cw_z 18 [false, false, false] [] [(_, _), (_, _)] (And.intro (m0) (And.intro (pl_isTrue k61) (And.intro (Nat.le_refl _) (And.intro ((fun z => z (cb_n0.mpr (et.trans b)))) (And.intro (pl_open k61) (And.intro (Nat.le_refl _) (And.intro ((fun z => d (eo.mp z))) (ih1))))))))
/-- the first clause that tells -/
theorem pl_s2 (h : crp y S f) (hr : pr y S q on ze le re tr) (K0 : cs_fu1 S = -nI 6 → cw_W l mm_L_step 0 0 h0 none h1 0 0 182 ((7, .int (nI (cs_t S + cs_n S))) :: (6, .int (nI (cs_t S + cs_n S))) :: pl_M) [] (pl_h q on ze le re tr)) (K1 : ∀ j, j < cs_t S + cs_n S → cs_fu1 S = nI j → cw_W l mm_L_step 0 0 h0 none h1 0 0 129 ((8, .int (pl_op q on ze j)) :: (7, .int (nI j)) :: (6, .int (nI (cs_t S + cs_n S))) :: pl_M) [] (pl_h q on ze le re tr)) : ∀ n k, k + n = cs_t S + cs_n S → cs_fu S (nI 1) n k = cs_fu1 S → cw_W l mm_L_step 0 0 h0 none h1 0 0 89 ((7, .int (nI k)) :: (6, .int (nI (cs_t S + cs_n S))) :: pl_M) [] (pl_h q on ze le re tr) := by
  have n60 := cr_n60 h
  intro n
  induction n with
  | zero =>
    intro k hk e
    obtain rfl : k = cs_t S + cs_n S := by omega
    exact cw_run cw_kL_step cw_z 3 [true] [] [] (And.intro (Int32.le_refl _) (K0 e.symm))
  | succ n ih =>
    intro k hk e
    have hkk : k < cs_t S + cs_n S := by omega
    have k61 : k < 61 := by omega
    have m0 : ¬ nI (cs_t S + cs_n S) ≤ nI k := nI_ge hkk (by omega)
    have et := pr_tr h.1 hr hkk
    obtain ⟨x1, x2, x3⟩ := pr_opx h.1 hr hkk
    have hle := fb_ct_le (bt (cs_op S (cs_cl S k))) 20
    have eb := pl_bits l (pl_h q on ze le re tr) x1
    rw [x2, ← x3] at eb
    rw [show cs_fu S (nI 1) (n + 1) k = if cs_tr S (cs_cl S k) then cs_fu S (nI 1) n (k + 1) else if cb_bc (cs_op S (cs_cl S k)) = nI 1 then nI k else cs_fu S (nI 1) n (k + 1) from rfl] at e
    cases b : cs_tr S (cs_cl S k) with
    | true =>
      rw [b, if_pos rfl] at e
      have ih1 := ih (k + 1) (by omega) e
      rw [← nI_add k 1] at ih1
      exact cw_run cw_kL_step cw_z 17 [false, true] [] [(_, _), (_, _)] (And.intro (m0) (And.intro (pl_open k61) (And.intro (Nat.le_refl _) (And.intro (pl_isTrue k61) (And.intro (Nat.le_refl _) (And.intro (cb_nt.mpr (et.trans b)) (cw_less [0, 2, 3, 4, 5, 6, 7, 8] rfl ih1)))))))
    | false =>
      rw [b, if_neg (by decide)] at e
      by_cases d : cb_bc (cs_op S (cs_cl S k)) = nI 1
      · rw [if_pos d] at e
        exact cw_run cw_kL_step cw_z 19 [false, false, true] [] [(_, _), (_, _), (_, _)] (And.intro (m0) (And.intro (pl_open k61) (And.intro (Nat.le_refl _) (And.intro (pl_isTrue k61) (And.intro (Nat.le_refl _) (And.intro ((fun z => z (cb_n0.mpr (et.trans b)))) (And.intro (eb) (And.intro (Nat.le_refl _) (And.intro (d) (K1 k hkk e.symm))))))))))
      · rw [if_neg d] at e
        have ih1 := ih (k + 1) (by omega) e
        rw [← nI_add k 1] at ih1
        exact cw_run cw_kL_step cw_z 22 [false, false, false] [] [(_, _), (_, _), (_, _)] (And.intro (m0) (And.intro (pl_open k61) (And.intro (Nat.le_refl _) (And.intro (pl_isTrue k61) (And.intro (Nat.le_refl _) (And.intro ((fun z => z (cb_n0.mpr (et.trans b)))) (And.intro (eb) (And.intro (Nat.le_refl _) (And.intro (d) (cw_less [0, 2, 3, 4, 5, 6, 7, 8] rfl ih1))))))))))
/-- the thing of a set of one -/
theorem pl_s3 {x : Nat} (hx : x ≤ 9) {kk NN : Int32} (K : cw_W l mm_L_step 0 0 h0 none h1 0 0 147 ((9, .int (nI x)) :: (8, .int (nI 1 <<< (nI x &&& 31))) :: (7, .int kk) :: (6, .int NN) :: pl_M) [] (pl_h q on ze le re tr)) : ∀ n t, t + n = x → cw_W l mm_L_step 0 0 h0 none h1 0 0 132 ((9, .int (nI t)) :: (8, .int (nI 1 <<< (nI x &&& 31))) :: (7, .int kk) :: (6, .int NN) :: pl_M) [] (pl_h q on ze le re tr) := by
  intro n
  induction n with
  | zero =>
    intro t ht
    obtain rfl : t = x := by omega
    exact cw_run cw_kL_step cw_z 5 [true] [] [] (And.intro (rfl) (K))
  | succ n ih =>
    intro t ht
    have ih1 := ih (t + 1) (by omega)
    rw [← nI_add t 1] at ih1
    refine cw_run cw_kL_step cw_z 7 [false] [] [] (And.intro ((fun z => ?_)) (ih1))
    have z2 := congrArg (fun w => bt w x) z
    have z3 : bt (nI 1 <<< (nI x &&& 31)) x = bt (nI 1 <<< (nI t &&& 31)) x := z2
    rw [cb_one (by omega) (by omega), cb_one (by omega) (by omega), decide_eq_true rfl, decide_eq_false (show ¬ x = t by omega)] at z3
    cases z3
/-- is a thing without value? -/
theorem pr_free (h : cr_I S) (hr : pr y S q on ze le re tr) {t : Nat} (h1 : 1 ≤ t) (ht : t ≤ cs_k S) : cs_op S (nI 1 <<< (nI t &&& 31)) = 0 ↔ bt (q 10 ||| q 11) t = true := by
  have h9 := cr_k9 h
  have hs : cr_sg (cs_k S) t := Or.inl ⟨h1, ht⟩
  have hc := cr_c_set h9 hs
  have op : cr_op t = t + 10 := by unfold cr_op; rw [if_pos (by omega)]
  show cs_op S (cb_set (nI t)) = 0 ↔ _
  rw [b_or, Bool.or_eq_true, (hr.2.1 t (by omega)).1, (hr.2.1 t (by omega)).2, cb_zero]
  constructor
  · intro z
    have z1 := z t (by omega)
    cases v1 : bt (cs_va S) t with
    | true => exact Or.inl ⟨by omega, rfl⟩
    | false =>
      cases v2 : bt (cs_va S) (t + 10) with
      | true => exact Or.inr rfl
      | false =>
        rw [(cr_op_bt h hc (i := t) (by omega)).mpr ⟨by rw [cb_set_bt (by omega) (by omega)]; exact decide_eq_true rfl, v1, by rw [op]; exact v2⟩] at z1
        cases z1
  · intro z i hi
    cases b : bt (cs_op S (cb_set (nI t))) i with
    | false => rfl
    | true =>
      obtain ⟨a1, a2, a3⟩ := (cr_op_bt h hc hi).mp b
      rw [cb_set_bt (by omega) hi, decide_eq_true_eq] at a1
      subst a1
      rw [op] at a3
      rcases z with z | z
      · rw [a2] at z; cases z.2
      · rw [a3] at z; cases z
/-- the lowest thing without value -/
theorem pl_s4 (h : crp y S f) (hr : pr y S q on ze le re tr) (K0 : cs_lo S = -nI 6 → cw_W l mm_L_step 0 0 h0 none h1 0 0 254 pl_M [] (pl_h q on ze le re tr)) (K1 : ∀ x, 1 ≤ x → x ≤ cs_k S → cs_lo S = nI x → cw_W l mm_L_step 0 0 h0 none h1 0 0 214 ((7, .int (nI x)) :: pl_M) [] (pl_h q on ze le re tr)) : ∀ n t, t + n = cs_k S + 1 → 1 ≤ t → cs_low S n t = cs_lo S → cw_W l mm_L_step 0 0 h0 none h1 0 0 185 ((7, .int (nI t)) :: pl_M) [] (pl_h q on ze le re tr) := by
  have h9 := cr_k9 h.1
  have q0 : q 0 = nI (cs_k S) := hr.1.1.trans h.1.1.1.2.2.2.1
  intro n
  induction n with
  | zero =>
    intro t ht h1 e
    exact cw_run cw_kL_step cw_z 5 [true] [_] [] (And.intro (rfl) (And.intro (Nat.le_of_ble_eq_true rfl) (And.intro ((show q 0 < nI t by rw [q0]; exact nI_lt (by omega) (by omega))) (cw_less [1, 2, 3, 4, 5, 6] rfl (K0 e.symm)))))
  | succ n ih =>
    intro t ht h1 e
    have m0 : ¬ q 0 < nI t := by rw [q0]; exact nI_nlt (by omega) (by omega)
    have ef := pr_free h.1 hr h1 (show t ≤ cs_k S by omega)
    rw [show cs_low S (n + 1) t = if cs_op S (nI 1 <<< (nI t &&& 31)) = 0 then cs_low S n (t + 1) else nI t from rfl] at e
    cases b : bt (q 10 ||| q 11) t with
    | true =>
      rw [if_pos (ef.mpr b)] at e
      have ih1 := ih (t + 1) (by omega) (by omega) e
      rw [← nI_add t 1] at ih1
      exact cw_run cw_kL_step cw_z 21 [false, false] [_, _, _] [] (And.intro (rfl) (And.intro (Nat.le_of_ble_eq_true rfl) (And.intro (m0) (And.intro (rfl) (And.intro (Nat.le_of_ble_eq_true rfl) (And.intro (rfl) (And.intro (Nat.le_of_ble_eq_true rfl) (And.intro ((show ¬ ¬ ((q 10 ||| q 11) >>> (nI t &&& 31)) &&& nI 1 = nI 1 by rw [pl_b1 (by omega), b]; exact fun z => z rfl)) (ih1)))))))))
    | false =>
      rw [if_neg (fun z => by rw [ef.mp z] at b; cases b)] at e
      exact cw_run cw_kL_step cw_z 18 [false, true] [_, _, _] [] (And.intro (rfl) (And.intro (Nat.le_of_ble_eq_true rfl) (And.intro (m0) (And.intro (rfl) (And.intro (Nat.le_of_ble_eq_true rfl) (And.intro (rfl) (And.intro (Nat.le_of_ble_eq_true rfl) (And.intro ((show ¬ ((q 10 ||| q 11) >>> (nI t &&& 31)) &&& nI 1 = nI 1 by rw [pl_b1 (by omega), b]; decide)) (K1 t h1 (by omega) e.symm)))))))))
end PL4
end
section
/-! p24: one step, both ways -/
section PL5
variable {l : Launch} {S : cs_S} {f q on ze le re tr : Nat → Int32}
theorem pl_q6 {q : Nat → Int32} {v : Int32} (e : q 6 = v) : upd q 6 v = q := by
  funext j
  unfold upd
  by_cases c : j = 6
  · rw [if_pos c, c, e]
  · rw [if_neg c]
theorem pr_wsp {y : Int32} (h : pr y S q on ze le re tr) : pr (cs_sp (cs_wsp S y)) (cs_wsp S y) q on ze le re tr := h
set_option maxRecDepth 10000 in
set_option maxHeartbeats 4000000 in
theorem pl_step (h : cr S f) (hr : pr (cs_sp S) S q on ze le re tr) : ∃ f' q' on' ze' le' re' tr', cr (cs_stp1 S) f' ∧ pr (cs_sp (cs_stp1 S)) (cs_stp1 S) q' on' ze' le' re' tr' ∧ cw_M l mm_L_step 0 0 [.ref 0, .ref 1, .ref 2, .ref 3, .ref 4, .ref 5] (pl_h q on ze le re tr) none (pl_h q' on' ze' le' re' tr') := by
  have e9 : f 9 = cs_sp S := h.2.1.2.2.2.2.2.2.2.2.2
  have hc0 : crp (cs_sp S + nI 1) S (cm_s0 f) := by
    unfold cm_s0
    rw [e9]
    exact crp_s0 h _
  have q9 : q 9 = cs_sp S := hr.1.2.2.2.2.2.2.2.2.2
  have hr0 := pr_sp hr (q 9 + nI 1)
  have hB := hc0.1.1.1
  have e3 : q 3 + q 4 = nI (cs_t S + cs_n S) := by rw [hr.1.2.2.2.1, hr.1.2.2.2.2.1, hB.2.1.1, hB.2.2.1.1, nI_add]
  have ent : ∀ {h0 h1 : cw_H}, cw_W l mm_L_step 0 0 h0 none h1 0 0 20 ((7, .int (nI 0)) :: (6, .int (nI (cs_t S + cs_n S))) :: pl_M) [] (pl_h (upd q 9 (q 9 + nI 1)) on ze le re tr) → cw_W l mm_L_step 0 0 h0 none h1 0 0 0 pl_M [] (pl_h q on ze le re tr) := by
    intro h0 h1 K
    rw [← e3] at K
    exact cw_run cw_kL_step cw_z 17 [] [_, _, _, _] [] (And.intro (rfl) (And.intro (Nat.le_of_ble_eq_true rfl) (And.intro (rfl) (And.intro (Nat.le_of_ble_eq_true rfl) (And.intro (rfl) (And.intro (Nat.le_of_ble_eq_true rfl) (And.intro (rfl) (And.intro (Nat.le_of_ble_eq_true rfl) (K)))))))))
  rw [show q 9 + nI 1 = cs_sp S + nI 1 by rw [q9]] at hr0 ent
  obtain ⟨q1, hq1⟩ : ∃ q1, q1 = upd q 9 (cs_sp S + nI 1) := ⟨_, rfl⟩
  rw [← hq1] at hr0 ent
  have fin : ∀ {f' q' on' ze' le' re' tr' : Nat → Int32}, crp (cs_sp S + nI 1) (cs_one S) f' → pr (cs_sp S + nI 1) (cs_one S) q' on' ze' le' re' tr' → cr (cs_stp1 S) f' ∧ pr (cs_sp (cs_stp1 S)) (cs_stp1 S) q' on' ze' le' re' tr' := by
    intro f' q' on' ze' le' re' tr' a b
    have e : cs_stp1 S = cs_wsp (cs_one S) (cs_sp S + nI 1) := by unfold cs_stp1; rw [cs_sp_one]
    rw [e]
    exact ⟨crp_sp a, pr_wsp b⟩
  have h9 := cr_k9 hc0.1
  have n60 := cr_n60 hc0
  have lt0 : (-nI 6 : Int32) < 0 := by decide
  have q6 : q1 6 = cs_pl S (cs_g S) := hr0.1.2.2.2.2.2.2.1
  have hpl := cr_pl hc0.1
  have hpv := cr_pv_le hc0.1
  have g7 := pr_g7 hc0.1 hr0
  rcases cr_fu0 hc0 with ⟨c1, -⟩ | ⟨k, hk, hp, c1, -⟩
  · have s1 : ∀ {h0 h1 : cw_H}, cw_W l mm_L_step 0 0 h0 none h1 0 0 89 ((7, .int (nI 0)) :: (6, .int (nI (cs_t S + cs_n S))) :: pl_M) [] (pl_h q1 on ze le re tr) → cw_W l mm_L_step 0 0 h0 none h1 0 0 0 pl_M [] (pl_h q on ze le re tr) := by
      intro h0 h1 K
      refine ent (pl_s1 hc0 hr0 (fun _ => cw_run cw_kL_step cw_z 2 [] [] [] K) (fun j hj e => ?_) (cs_t S + cs_n S) 0 (by omega) rfl)
      rw [c1] at e
      exact absurd e.symm (cm_n6 (by omega))
    rcases cr_fu1 hc0 with ⟨d1, -⟩ | ⟨k, hk, hp, d1, -⟩
    · have s2 : ∀ {h0 h1 : cw_H}, cw_W l mm_L_step 0 0 h0 none h1 0 0 185 ((7, .int (nI 1)) :: pl_M) [] (pl_h q1 on ze le re tr) → cw_W l mm_L_step 0 0 h0 none h1 0 0 0 pl_M [] (pl_h q on ze le re tr) := by
        intro h0 h1 K
        refine s1 (pl_s2 hc0 hr0 (fun _ => cw_run cw_kL_step cw_z 2 [] [] [] (cw_less [0, 2, 3, 4, 5, 6, 7] rfl K)) (fun j hj e => ?_) (cs_t S + cs_n S) 0 (by omega) rfl)
        rw [d1] at e
        exact absurd e.symm (cm_n6 (by omega))
      rcases cr_low hc0 with ⟨x1, -⟩ | ⟨x, hx1, hx2, x1, x3, -⟩
      · -- it fits
        have ec : cs_one S = cs_wsd S (nI 1) := by
          unfold cs_one
          rw [c1, if_pos lt0, d1, if_pos lt0, x1, if_pos (by decide)]
        obtain ⟨a, b⟩ := fin (f' := upd (cm_s0 f) 5 (nI 1)) (q' := upd q1 5 (nI 1)) (by rw [ec]; exact crp_sd hc0 (Or.inr (Or.inl rfl))) (by rw [ec]; exact pr_sd hr0 (nI 1))
        refine ⟨_, _, _, _, _, _, _, a, b, cw_enter cw_KL_step (by decide) (Nat.le_of_ble_eq_true rfl) (s2 (pl_s4 hc0 hr0 (fun _ => ?_) (fun j hj1 hj2 e => ?_) (cs_k S) 1 (by omega) (by omega) rfl))⟩
        · exact cw_run cw_kL_step cw_z 4 [] [_] [] (And.intro (rfl) (And.intro (Nat.le_of_ble_eq_true rfl) (cw_retv cw_kL_step cw_z rfl rfl)))
        · rw [x1] at e
          exact absurd e.symm (cm_n6 (by omega))
      · -- a thing is decided
        have hsx : cr_sg (cs_k S) x := Or.inl ⟨hx1, hx2⟩
        have hfi := hc0.1.1.2.2.2.1
        obtain ⟨i, hi, him, hone, his⟩ : ∃ i, cr_sg (cs_k S) i ∧ i % 10 = x ∧ decide (i < 10) = decide (cs_fi S = nI 1) ∧ (if cs_fi S = nI 1 then nI x else cb_opp (nI x)) = nI i := by
          rcases hfi with e | e
          · refine ⟨x + 10, Or.inr ⟨by omega, by omega⟩, by omega, ?_, ?_⟩
            · rw [e, decide_eq_false (by omega), decide_eq_false (by decide)]
            · rw [e, if_neg (by decide), cb_opp_nI (by omega)]
              unfold cr_op; rw [if_pos (by omega)]
          · refine ⟨x, hsx, by omega, ?_, ?_⟩
            · rw [e, decide_eq_true (by omega), decide_eq_true rfl]
            · rw [e, if_pos rfl]
        obtain ⟨v1, v2⟩ := (cr_open_thing hc0 hx1 hx2).2 x3 i hi him
        obtain ⟨g8, hxx⟩ := cr_g8 hc0.1 hi v1 v2
        have gi := cr_give hc0 (i := i) (m := cs_pv S (cs_g S) + 1) (r := -nI 6) hi v1 v2 (by omega) (Or.inr ⟨rfl, rfl⟩)
        have gr := pr_give hc0.1 hr0 (i := i) (m := cs_pv S (cs_g S) + 1) (r := -nI 6) hi hxx g8
        have ec : cs_one S = cs_give S (nI i) (nI (cs_pv S (cs_g S) + 1)) (-nI 6) := by
          unfold cs_one
          rw [c1, if_pos lt0, d1, if_pos lt0, x1, if_neg (nI_nle (by omega) (by omega)), his, hpl, nI_add]
        obtain ⟨a, b⟩ := fin (by rw [ec]; exact gi) (by rw [ec]; exact gr)
        rw [him, hone] at b
        refine ⟨_, _, _, _, _, _, _, a, b, cw_enter cw_KL_step (by decide) (Nat.le_of_ble_eq_true rfl) (s2 (pl_s4 hc0 hr0 (fun e => ?_) (fun j hj1 hj2 e => ?_) (cs_k S) 1 (by omega) (by omega) rfl))⟩
        · rw [x1] at e
          exact absurd e (cm_n6 (by omega))
        · rw [x1] at e
          obtain rfl := (nI_eq (by omega) (by omega)).mp e
          have e6 : q1 6 + nI 1 = nI (cs_pv S (cs_g S) + 1) := by rw [q6, hpl, nI_add]
          have q2 : q1 2 = cs_fi S := hr0.1.2.2.1
          have gv := pl_give (l := l) (q := upd q1 6 (q1 6 + nI 1)) (on := on) (ze := ze) (le := le) (re := re) (tr := tr) (g := cs_g S) (t := x) (decide (cs_fi S = nI 1)) (r := -nI 6) g7 (by omega) (by omega)
          rw [show (upd q1 6 (q1 6 + nI 1)) 6 = nI (cs_pv S (cs_g S) + 1) from e6] at gv
          rw [← e6] at gv ⊢
          by_cases w : cs_fi S = nI 1
          · rw [decide_eq_true w] at gv ⊢
            exact cw_run cw_kL_step cw_z 21 [false] [_, _, _] [(_, _)] (And.intro (rfl) (And.intro (Nat.le_of_ble_eq_true rfl) (And.intro (rfl) (And.intro (Nat.le_of_ble_eq_true rfl) (And.intro (rfl) (And.intro (Nat.le_of_ble_eq_true rfl) (And.intro ((fun z => z (q2.trans w))) (And.intro (gv) (And.intro (Nat.le_refl _) (cw_retv cw_kL_step cw_z rfl rfl))))))))))
          · rw [decide_eq_false w] at gv ⊢
            exact cw_run cw_kL_step cw_z 20 [true] [_, _, _] [(_, _)] (And.intro (rfl) (And.intro (Nat.le_of_ble_eq_true rfl) (And.intro (rfl) (And.intro (Nat.le_of_ble_eq_true rfl) (And.intro (rfl) (And.intro (Nat.le_of_ble_eq_true rfl) (And.intro ((fun z => w (q2.symm.trans z))) (And.intro (gv) (And.intro (Nat.le_refl _) (cw_retv cw_kL_step cw_z rfl rfl))))))))))
    · -- a clause tells
      obtain ⟨i, hi, b1, v1, v2, ho, hrs⟩ := cr_one_open hc0 hk hp
      have hk60 := cr_t60 hc0 hk
      have hi9 := cr_sg9 h9 hi
      obtain ⟨g8, hxx⟩ := cr_g8 hc0.1 hi v1 v2
      have hc := hc0.1.2.1 k hk
      have gi := cr_give hc0 (i := i) (m := cs_pv S (cs_g S)) (r := nI k) hi v1 v2 (by omega) (Or.inl ⟨rfl, k, hk, rfl, b1, hrs⟩)
      have gr := pr_give hc0.1 hr0 (i := i) (m := cs_pv S (cs_g S)) (r := nI k) hi hxx g8
      have q6' : q1 6 = nI (cs_pv S (cs_g S)) := q6.trans hpl
      have ec : cs_one S = cs_give S (nI i) (nI (cs_pv S (cs_g S))) (nI k) := by
        unfold cs_one
        rw [c1, if_pos lt0, d1, if_neg (nI_pos (by omega)), cs_ca_nI hk60, hpl, cb_sio_one (cr_sg_mono h9 hi) ho 9 1 (by omega) (by omega) (by omega)]
      obtain ⟨a, b⟩ := fin (by rw [ec]; exact gi) (by rw [ec]; exact gr)
      rw [pl_q6 q6'] at b
      refine ⟨_, _, _, _, _, _, _, a, b, cw_enter cw_KL_step (by decide) (Nat.le_of_ble_eq_true rfl) (s1 (pl_s2 hc0 hr0 (fun e => ?_) (fun j hj e => ?_) (cs_t S + cs_n S) 0 (by omega) rfl))⟩
      · rw [d1] at e
        exact absurd e (cm_n6 (by omega))
      · rw [d1] at e
        obtain rfl := (nI_eq (by omega) (by omega)).mp e
        have eop : pl_op q1 on ze k = nI 1 <<< (nI (i % 10) &&& 31) := by
          apply b_ext
          intro t ht
          have e1 := pr_op_bt hc0.1 hc (hr0.2.2.1 k hk) hr0.2.1 ht
          rw [cb_one (by omega) ht]
          have e2 : bt (pl_op q1 on ze k) t = true ↔ t = i % 10 := by
            refine e1.trans ?_
            constructor
            · rintro ⟨t10, z | z⟩
              · have := (ho t ht).mp z; omega
              · have := (ho (t + 10) (by omega)).mp z; omega
            · intro z
              refine ⟨by omega, ?_⟩
              by_cases w : i < 10
              · exact Or.inl ((ho t ht).mpr (by omega))
              · exact Or.inr ((ho (t + 10) (by omega)).mpr (by omega))
          by_cases w : t = i % 10
          · rw [decide_eq_true w]; exact e2.mpr w
          · rw [decide_eq_false w]
            cases u : bt (pl_op q1 on ze k) t with
            | false => rfl
            | true => exact absurd (e2.mp u) w
        have gv := pl_give (l := l) (q := q1) (on := on) (ze := ze) (le := le) (re := re) (tr := tr) (g := cs_g S) (t := i % 10) (decide (i < 10)) (r := nI k) g7 (by omega) (by omega)
        rw [q6'] at gv
        rw [eop]
        have eon : bt (on k) (i % 10) = true ↔ i < 10 := by
          rw [((hr0.2.2.1 k hk) (i % 10) (by omega)).1]
          constructor
          · rintro ⟨-, z⟩
            refine Classical.byContradiction fun w => ?_
            exact hc.2 (i % 10) (by omega) (by omega) ⟨z, by rw [show i % 10 + 10 = i by omega]; exact b1⟩
          · intro z
            exact ⟨by omega, by rw [Nat.mod_eq_of_lt z]; exact b1⟩
        have k61 : k < 61 := by omega
        refine cw_run cw_kL_step cw_z 2 [] [] [] (pl_s3 (x := i % 10) (by omega) ?_ (i % 10 - 1) 1 (by omega))
        by_cases w : i < 10
        · rw [decide_eq_true w] at gv ⊢
          exact cw_run cw_kL_step cw_z 15 [false] [_] [(_, _)] (And.intro (rfl) (And.intro (k61) (And.intro ((show ¬ on k &&& (nI 1 <<< (nI (i % 10) &&& 31)) = 0 from fun z => absurd (eon.mpr w) (by rw [(cb_has (by omega)).mp z]; decide))) (And.intro (gv) (And.intro (Nat.le_refl _) (cw_retv cw_kL_step cw_z rfl rfl))))))
        · rw [decide_eq_false w] at gv ⊢
          exact cw_run cw_kL_step cw_z 14 [true] [_] [(_, _)] (And.intro (rfl) (And.intro (k61) (And.intro ((show on k &&& (nI 1 <<< (nI (i % 10) &&& 31)) = 0 from (cb_has (by omega)).mpr (by
            cases u : bt (on k) (i % 10) with
            | false => rfl
            | true => exact absurd (eon.mp u) w))) (And.intro (gv) (And.intro (Nat.le_refl _) (cw_retv cw_kL_step cw_z rfl rfl))))))
  · have hk60 := cr_t60 hc0 hk
    have ec : cs_one S = cs_meet S (nI k) := by
      unfold cs_one
      rw [c1, if_neg (nI_pos (by omega))]
    have s1 : ∀ {h0 h1 : cw_H}, cw_W l mm_L_step 0 0 h0 none h1 0 0 52 ((7, .int (nI k)) :: (6, .int (nI (cs_t S + cs_n S))) :: pl_M) [] (pl_h q1 on ze le re tr) → cw_W l mm_L_step 0 0 h0 none h1 0 0 0 pl_M [] (pl_h q on ze le re tr) := by
      intro h0 h1 K
      refine ent (pl_s1 hc0 hr0 (fun e => ?_) (fun j hj e => ?_) (cs_t S + cs_n S) 0 (by omega) rfl)
      · rw [c1] at e
        exact absurd e (cm_n6 (by omega))
      · rw [c1] at e
        obtain rfl := (nI_eq (by omega) (by omega)).mp e
        exact K
    by_cases z : cs_pl S (cs_g S) = 0
    · have em : cs_meet S (nI k) = cs_wsd S (nI 2) := by unfold cs_meet; rw [if_pos z]
      obtain ⟨a, b⟩ := fin (f' := upd (cm_s0 f) 5 (nI 2)) (q' := upd q1 5 (nI 2)) (by rw [ec, em]; exact crp_sd hc0 (Or.inr (Or.inr rfl))) (by rw [ec, em]; exact pr_sd hr0 (nI 2))
      refine ⟨_, _, _, _, _, _, _, a, b, cw_enter cw_KL_step (by decide) (Nat.le_of_ble_eq_true rfl) (s1 ?_)⟩
      exact cw_run cw_kL_step cw_z 9 [false] [_, _] [] (And.intro (rfl) (And.intro (Nat.le_of_ble_eq_true rfl) (And.intro ((fun w => w (q6.trans z))) (And.intro (rfl) (And.intro (Nat.le_of_ble_eq_true rfl) (cw_retv cw_kL_step cw_z rfl rfl))))))
    · obtain ⟨f', q', on', ze', re', a1, a2, a3⟩ := pl_learn (l := l) hc0 hr0 hk hp z
      obtain ⟨a, b⟩ := fin (by rw [ec]; exact a1) (by rw [ec]; exact a2)
      refine ⟨_, _, _, _, _, _, _, a, b, cw_enter cw_KL_step (by decide) (Nat.le_of_ble_eq_true rfl) (s1 ?_)⟩
      exact cw_run cw_kL_step cw_z 12 [true] [_] [(_, _)] (And.intro (rfl) (And.intro (Nat.le_of_ble_eq_true rfl) (And.intro ((fun w => z (q6.symm.trans w))) (And.intro (a3) (And.intro (Nat.le_refl _) (cw_retv cw_kL_step cw_z rfl rfl))))))
end PL5
end
section
/-! p24: the law's rows and the class beside each other; all that is asked of the class -/
def px_h (q on ze le re tr : Nat → Int32) (C : cw_H) : cw_H := pl_h q on ze le re tr ++ C.map (cw_re (fun k => 6 + k))
section PX
variable {l : Launch} {q on ze le re tr q' on' ze' le' re' tr' : Nat → Int32} {C C' : cw_H} {i : cw_I} {av : List Value} {r : Option Value}
theorem px_cls (hM : cw_M l i 0 0 av C r C') (hl : C'.length = C.length) : cw_M l i 0 0 (av.map (cw_v (fun k => 6 + k))) (px_h q on ze le re tr C) (r.map (cw_v (fun k => 6 + k))) (px_h q on ze le re tr C') := by
  have := cw_lift hM hl (pl_h q on ze le re tr) [] (b := 6) rfl
  rw [List.append_nil, List.append_nil] at this
  exact this
theorem px_arr (hM : cw_M l i 0 0 av (pl_h q on ze le re tr) r (pl_h q' on' ze' le' re' tr')) : cw_M l i 0 0 (av.map (cw_v (fun k => 0 + k))) (px_h q on ze le re tr C) (r.map (cw_v (fun k => 0 + k))) (px_h q' on' ze' le' re' tr' C) :=
  cw_lift hM rfl [] (C.map (cw_re (fun k => 6 + k))) (b := 0) rfl
end PX
abbrev pl_N : cw_LV := [(0, .ref 6), (1, .ref 0), (2, .ref 1), (3, .ref 2), (4, .ref 3), (5, .ref 4), (6, .ref 5)]
/-- a thing's place by the law's row -/
def pl_pl (tr : Nat → Int32) (t : Int32) : Nat → Nat → Int32 → Int32
  | 0, _, a => a
  | n + 1, i, a => pl_pl tr t n (i + 1) (if tr i = t then nI i else a)
theorem pl_pl_no {tr : Nat → Int32} {t : Int32} : ∀ n i a, (∀ j, i ≤ j → j < i + n → tr j ≠ t) → pl_pl tr t n i a = a
  | 0, _, _, _ => rfl
  | n + 1, i, a, h => by
    unfold pl_pl
    rw [if_neg (h i (Nat.le_refl _) (by omega))]
    exact pl_pl_no n (i + 1) a (fun j h1 h2 => h j (by omega) (by omega))
theorem pl_pl_at {tr : Nat → Int32} {t : Int32} {p : Nat} (hp : tr p = t) : ∀ n i a, i ≤ p → p < i + n → (∀ j, i ≤ j → j < i + n → tr j = t → j = p) → pl_pl tr t n i a = nI p
  | 0, _, _, h1, h2, _ => absurd h2 (by omega)
  | n + 1, i, a, h1, h2, hu => by
    unfold pl_pl
    by_cases c : i = p
    · subst c
      rw [if_pos hp]
      exact pl_pl_no n (i + 1) _ (fun j h3 h4 z => absurd (hu j (by omega) (by omega) z) (by omega))
    · exact pl_pl_at hp n (i + 1) _ (by omega) (by omega) (fun j h3 h4 z => hu j (by omega) (by omega) z)
/-- the things of a clause, below a thing -/
def cb_tc (c : Int32) (t : Nat) : Nat := fb_ct (fun j => bt (c ||| cb_op c) (j + 1)) (t - 1)
theorem cb_tc_s (c : Int32) {t : Nat} (ht : 1 ≤ t) : cb_tc c (t + 1) = cb_tc c t + (if bt (c ||| cb_op c) t then 1 else 0) := by
  unfold cb_tc
  obtain ⟨m, rfl⟩ : ∃ m, t = m + 1 := ⟨t - 1, by omega⟩
  rw [show m + 1 + 1 - 1 = m + 1 by omega, show m + 1 - 1 = m by omega, fb_ct_succ]
theorem cb_sio_skip (c : Int32) {p : Nat} (hp : p ≤ 20) : ∀ n t, t = n + 1 → t ≤ 10 → cb_tc c t < p → cb_sio c (nI p) 9 1 (nI 0) = cb_sio c (nI p) (10 - t) t (nI (cb_tc c t))
  | 0, t, e, _, _ => by subst e; rfl
  | n + 1, t, e, h10, hc => by
    obtain rfl : t = (n + 1) + 1 := e
    have es := cb_tc_s c (t := n + 1) (by omega)
    have ih := cb_sio_skip c hp n (n + 1) rfl (by omega) (by
      split at es <;> omega)
    rw [ih, show 10 - (n + 1) = (10 - (n + 1 + 1)) + 1 by omega]
    conv => lhs; unfold cb_sio
    cases b : bt (c ||| cb_op c) (n + 1) with
    | true =>
      rw [b, if_pos rfl] at es
      rw [if_pos rfl, nI_add, if_neg (fun z => by have := (nI_eq (by omega) (by omega)).mp z; omega), es]
    | false =>
      rw [b, if_neg (by decide)] at es
      have es2 : cb_tc c (n + 1 + 1) = cb_tc c (n + 1) := es
      rw [if_neg (by decide), es2]
section PS
variable {l : Launch} {u : Int32} {S T : cs_S} {H G : Nat → Option Nat} {g : Nat → Int32} {pl : Int32} {L : List cs_S} {f q on ze le re tr : Nat → Int32} {h0 h1 : cw_H}
/-- the things -/
theorem ps_place (h : cr_I S) (hr : pr (cs_sp S) S q on ze le re tr) {C : cw_H} {is tt v : Int32} (K : cw_W l mm_L_same 0 0 h0 (some (.int (nI 1))) h1 0 0 77 ((10, .int (nI (cs_g S))) :: (9, .int v) :: (8, .int is) :: (7, .int tt) :: pl_N) [] (px_h q on ze le re tr C)) : ∀ n i a, i + n = cs_g S → pl_pl tr tt n i a = v → cw_W l mm_L_same 0 0 h0 (some (.int (nI 1))) h1 0 0 43 ((10, .int (nI i)) :: (9, .int a) :: (8, .int is) :: (7, .int tt) :: pl_N) [] (px_h q on ze le re tr C) := by
  have g9 := cr_g9 h
  have g7 := pr_g7 h hr
  intro n
  induction n with
  | zero =>
    intro i a hi e
    obtain rfl : i = cs_g S := by omega
    rw [← e] at K
    exact cw_run cw_kL_same cw_z 5 [true] [_] [] (And.intro (rfl) (And.intro (Nat.le_of_ble_eq_true rfl) (And.intro ((show q 7 ≤ nI (cs_g S) by rw [g7]; exact Int32.le_refl _)) (K))))
  | succ n ih =>
    intro i a hi e
    have i10 : i < 10 := by omega
    have m0 : ¬ q 7 ≤ nI i := by rw [g7]; exact nI_ge (by omega) (by omega)
    rw [show pl_pl tr tt (n + 1) i a = pl_pl tr tt n (i + 1) (if tr i = tt then nI i else a) from rfl] at e
    have ih1 := ih (i + 1) _ (by omega) e
    rw [← nI_add i 1] at ih1
    by_cases d : tr i = tt
    · rw [if_pos d] at ih1
      exact cw_run cw_kL_same cw_z 15 [false, false] [_, _] [] (And.intro (rfl) (And.intro (Nat.le_of_ble_eq_true rfl) (And.intro (m0) (And.intro (rfl) (And.intro (i10) (And.intro ((show ¬ ¬ tr i = tt from fun z => z d)) (ih1)))))))
    · rw [if_neg d] at ih1
      exact cw_run cw_kL_same cw_z 14 [false, true] [_, _] [] (And.intro (rfl) (And.intro (Nat.le_of_ble_eq_true rfl) (And.intro (m0) (And.intro (rfl) (And.intro (i10) (And.intro ((show ¬ tr i = tt from d)) (ih1)))))))
theorem ps_things (h : cr_I S) (hr : pr (cs_sp S) S q on ze le re tr) (K : cw_W l mm_L_same 0 0 h0 (some (.int (nI 1))) h1 0 0 176 pl_N [] (px_h q on ze le re tr (cc_h u S T H G g pl L))) : ∀ n t, t + n = cs_k S + 1 → 1 ≤ t → cw_W l mm_L_same 0 0 h0 (some (.int (nI 1))) h1 0 0 3 ((7, .int (nI t)) :: pl_N) [] (px_h q on ze le re tr (cc_h u S T H G g pl L)) := by
  have h9 := cr_k9 h
  have g9 := cr_g9 h
  have hB := h.1.1
  have q0 : q 0 = nI (cs_k S) := hr.1.1.trans h.1.1.2.2.2.1
  have eth := hB.2.2.2.1
  intro n
  induction n with
  | zero =>
    intro t ht h1
    exact cw_run cw_kL_same cw_z 5 [true] [_] [] (And.intro (rfl) (And.intro (Nat.le_of_ble_eq_true rfl) (And.intro ((show q 0 < nI t by rw [q0]; exact nI_lt (by omega) (by omega))) (cw_less [1, 2, 3, 4, 5, 6, 7] rfl K))))
  | succ n ih =>
    intro t ht h1
    have tk : t ≤ cs_k S := by omega
    have t10 : t < 10 := by omega
    have m0 : ¬ q 0 < nI t := by rw [q0]; exact nI_nlt (by omega) (by omega)
    have ih1 := ih (t + 1) (by omega) (by omega)
    rw [← nI_add t 1] at ih1
    have hxc : cb_wi (nI t) (nI 1) (cs_th S) = true := by rw [eth]; exact cb_nI_wi h1 tk (by omega)
    have ev := pr_val h hr h1 (show t ≤ 9 by omega)
    rcases cr_pof h (x := t) t10 (cs_g S) 0 (Nat.zero_add _) with ⟨a, b⟩ | ⟨p, -, hp, hpx, a⟩
    · have nb : bt (q 10 ||| q 11) t = false := by
        cases w : bt (q 10 ||| q 11) t with
        | false => rfl
        | true => obtain ⟨k, hk, e⟩ := ev.mp w; exact absurd e (b k (Nat.zero_le _) hk)
      have o := fun j (hj : j ≤ 3) => px_cls (q := q) (on := on) (ze := ze) (le := le) (re := re) (tr := tr) (cc_of_none (l := l) (u := u) (T := T) (H := H) (G := G) (f := g) (pl := pl) (L := L) hB hxc hj a) rfl
      have ep : pl_pl tr (nI t) (cs_g S) 0 (-nI 6) = -nI 6 := pl_pl_no _ _ _ (fun j _ hj z => by
        rw [(pr_x h hr j (by omega)).1] at z
        exact b j (Nat.zero_le _) (by omega) ((nI_eq (by omega) (by omega)).mp z))
      refine cw_run cw_kL_same cw_z 24 [false, true] [_, _, _] [] (And.intro (rfl) (And.intro (Nat.le_of_ble_eq_true rfl) (And.intro (m0) (And.intro (rfl) (And.intro (Nat.le_of_ble_eq_true rfl) (And.intro (rfl) (And.intro (Nat.le_of_ble_eq_true rfl) (And.intro ((show ¬ ((q 10 ||| q 11) >>> (nI t &&& 31)) &&& nI 1 = nI 1 by rw [pl_b1 (by omega), nb]; decide)) (ps_place h hr ?_ (cs_g S) 0 (-nI 6) (by omega) ep)))))))))
      exact cw_run cw_kL_same cw_z 32 [true, false, true, false, true, false, true] [] [(_, _), (_, _), (_, _), (_, _)] (And.intro (o 0 (by omega)) (And.intro (Nat.le_refl _) (And.intro ((show nI 0 = 0 from rfl)) (And.intro ((show ¬ ¬ -nI 6 = -nI 6 from fun z => z rfl)) (And.intro (o 1 (by omega)) (And.intro (Nat.le_refl _) (And.intro ((show nI 0 = 0 from rfl)) (And.intro ((show ¬ ¬ -nI 6 = -nI 6 from fun z => z rfl)) (And.intro (o 2 (by omega)) (And.intro (Nat.le_refl _) (And.intro ((show nI 0 = 0 from rfl)) (And.intro ((show ¬ ¬ -nI 6 = -nI 6 from fun z => z rfl)) (And.intro (o 3 (by omega)) (And.intro (Nat.le_refl _) (And.intro (rfl) (cw_less [0, 4, 5, 6, 7, 8, 9, 10] rfl ih1))))))))))))))))
    · have nb : bt (q 10 ||| q 11) t = true := ev.mpr ⟨p, hp, hpx⟩
      obtain ⟨t1, t2, t3⟩ := hr.2.2.2 p hp
      rw [hpx] at t1 t2 t3
      have hs := h.2.2.1.1 p hp
      have s9 := cr_sg9 h9 hs.2.1
      have o := fun j (hj : j ≤ 3) => px_cls (q := q) (on := on) (ze := ze) (le := le) (re := re) (tr := tr) (cc_of_ok (l := l) (u := u) (T := T) (H := H) (G := G) (f := g) (pl := pl) (L := L) hB hxc a (by omega) j hj) rfl
      have ep : pl_pl tr (nI t) (cs_g S) 0 (-nI 6) = nI p := pl_pl_at t1 _ _ _ (Nat.zero_le _) (by omega) (fun j _ hj z => by
        rw [(pr_x h hr j (by omega)).1] at z
        exact cr_uni h (by omega) hp (((nI_eq (by omega) (by omega)).mp z).trans hpx.symm))
      have e0 : cc_ofa S (nI t) p 0 = (q 10 >>> (nI t &&& 31)) &&& nI 1 := by
        rw [pl_b1 (by omega)]
        show (if cs_sg S p = nI t then nI 1 else nI 0) = _
        rw [hs.1]
        have eb := (hr.2.1 t (by omega)).1
        rw [h.2.2.1.2.2 t (by omega)] at eb
        by_cases c : cs_s S p = t
        · rw [if_pos (congrArg nI c), eb.mpr ⟨t10, p, hp, c⟩]; rfl
        · rw [if_neg (fun z => c ((nI_eq (by omega) (by omega)).mp z))]
          cases w : bt (q 10) t with
          | false => rfl
          | true =>
            obtain ⟨-, k, hk, e⟩ := eb.mp w
            have := cr_uni h hk hp (by omega)
            subst this
            exact absurd e c
      have o0 := o 0 (by omega)
      have o1 := o 1 (by omega)
      have o2 := o 2 (by omega)
      rw [e0] at o0
      rw [show cc_ofa S (nI t) p 1 = le t from t2.symm] at o1
      rw [show cc_ofa S (nI t) p 2 = re t from t3.symm] at o2
      refine cw_run cw_kL_same cw_z 25 [false, false] [_, _, _] [] (And.intro (rfl) (And.intro (Nat.le_of_ble_eq_true rfl) (And.intro (m0) (And.intro (rfl) (And.intro (Nat.le_of_ble_eq_true rfl) (And.intro (rfl) (And.intro (Nat.le_of_ble_eq_true rfl) (And.intro ((show ¬ ¬ ((q 10 ||| q 11) >>> (nI t &&& 31)) &&& nI 1 = nI 1 by rw [pl_b1 (by omega), nb]; exact fun z => z rfl)) (ps_place h hr ?_ (cs_g S) 0 (-nI 6) (by omega) ep)))))))))
      exact cw_run cw_kL_same cw_z 45 [false, false, false, false, false, false, true] [_, _, _] [(_, _), (_, _), (_, _), (_, _)] (And.intro (o0) (And.intro (Nat.le_refl _) (And.intro ((show ¬ nI 1 = 0 by decide)) (And.intro (rfl) (And.intro (Nat.le_of_ble_eq_true rfl) (And.intro ((fun z => z rfl)) (And.intro (o1) (And.intro (Nat.le_refl _) (And.intro ((show ¬ nI 1 = 0 by decide)) (And.intro (rfl) (And.intro (t10) (And.intro ((fun z => z rfl)) (And.intro (o2) (And.intro (Nat.le_refl _) (And.intro ((show ¬ nI 1 = 0 by decide)) (And.intro (rfl) (And.intro (t10) (And.intro ((fun z => z rfl)) (And.intro (o 3 (by omega)) (And.intro (Nat.le_refl _) (And.intro (rfl) (cw_less [0, 4, 5, 6, 7, 8, 9, 10] rfl ih1))))))))))))))))))))))
/-- the trail -/
theorem ps_trail (h : cr_I S) (hr : pr (cs_sp S) S q on ze le re tr) (K : cw_W l mm_L_same 0 0 h0 (some (.int (nI 1))) h1 0 0 210 pl_N [] (px_h q on ze le re tr (cc_h u S T H G g pl L))) : ∀ n i, i + n = cs_g S → cw_W l mm_L_same 0 0 h0 (some (.int (nI 1))) h1 0 0 179 ((7, .int (nI i)) :: pl_N) [] (px_h q on ze le re tr (cc_h u S T H G g pl L)) := by
  have h9 := cr_k9 h
  have g9 := cr_g9 h
  have g7 := pr_g7 h hr
  have eg := h.1.1.1.1
  intro n
  induction n with
  | zero =>
    intro i hi
    obtain rfl : i = cs_g S := by omega
    exact cw_run cw_kL_same cw_z 5 [true] [_] [] (And.intro (rfl) (And.intro (Nat.le_of_ble_eq_true rfl) (And.intro ((show q 7 ≤ nI (cs_g S) by rw [g7]; exact Int32.le_refl _)) (cw_less [1, 2, 3, 4, 5, 6, 7] rfl K))))
  | succ n ih =>
    intro i hi
    have hig : i < cs_g S := by omega
    have m0 : ¬ q 7 ≤ nI i := by rw [g7]; exact nI_ge (by omega) (by omega)
    have ih1 := ih (i + 1) (by omega)
    rw [← nI_add i 1] at ih1
    have hs := h.2.2.1.1 i hig
    have s9 := cr_sg9 h9 hs.2.1
    have hc := cc_trail_ok (l := l) (u := u) (N := S) (T := T) (H := H) (G := G) (f := g) (pl := pl) (L := L) (k := i) (by rw [eg]; exact decide_eq_true ⟨nI_pos (by omega), nI_lt hig (by omega)⟩) (by omega)
    rw [hs.1, show (if nI (cs_s S i) < nI 10 then nI (cs_s S i) else nI (cs_s S i) - nI 10) = nI (cs_s S i % 10) from cb_mod10 _ (by omega)] at hc
    have o := px_cls (q := q) (on := on) (ze := ze) (le := le) (re := re) (tr := tr) hc rfl
    exact cw_run cw_kL_same cw_z 14 [false, true] [_, _] [(_, _)] (And.intro (rfl) (And.intro (Nat.le_of_ble_eq_true rfl) (And.intro (m0) (And.intro (o) (And.intro (Nat.le_refl _) (And.intro (rfl) (And.intro ((show i < 10 by omega)) (And.intro ((show nI (cs_s S i % 10) = tr i from (pr_x h hr i hig).1.symm)) (ih1)))))))))
end PS
end
section
/-! p24: all clauses, all counts -/
section PS2
variable {l : Launch} {u : Int32} {S T : cs_S} {H G : Nat → Option Nat} {g : Nat → Int32} {pl : Int32} {L : List cs_S} {f q on ze le re tr : Nat → Int32} {h0 h1 : cw_H}
/-- a thing has a sign in a clause -/
theorem pr_thing (h : cr_I S) {c o z : Int32} (hc : cr_c (cs_k S) c) (hp : pr_c c o z) {t : Nat} (h1 : 1 ≤ t) (ht : t ≤ 9) : (bt (c ||| cb_op c) t = true ↔ bt o t = true ∨ bt z t = true) ∧ (bt c t = true ↔ bt o t = true) := by
  have e := cb_op_bt (pr_sg h hc) (i := t) (by omega)
  have op : cr_op t = t + 10 := by unfold cr_op; rw [if_pos (by omega)]
  rw [b_or, Bool.or_eq_true, e, op, (hp t (by omega)).1, (hp t (by omega)).2]
  refine ⟨⟨?_, ?_⟩, fun w => ⟨by omega, w⟩, fun w => w.2⟩
  · rintro (w | w)
    · exact Or.inl ⟨by omega, w⟩
    · exact Or.inr w.2
  · rintro (w | w)
    · exact Or.inl w.2
    · exact Or.inr ⟨Or.inl ⟨h1, ht⟩, w⟩
theorem cb_tc_le (c : Int32) (t : Nat) : cb_tc c t ≤ t - 1 := fb_ct_le _ _
/-- all signs of a clause: as many as its things -/
theorem cb_tc_all (h : cr_I S) {c : Int32} (hc : cr_c (cs_k S) c) : cb_bc c = nI (cb_tc c 10) := by
  have hsg := pr_sg h hc
  have hlo := cr_c_lo (cr_k9 h) hc
  rw [cb_pop hlo]
  congr 1
  have b0 : bt c 0 = false := by
    cases w : bt c 0 with
    | false => rfl
    | true => have := cr_sg9 (Nat.le_refl 9) (hsg 0 (by omega) w); omega
  have b10 : bt c 10 = false := by
    cases w : bt c 10 with
    | false => rfl
    | true => have := cr_sg9 (Nat.le_refl 9) (hsg 10 (by omega) w); omega
  have e1 := fb_ct_split (bt c) 1 19
  have e2 := fb_ct_split (fun k => bt c (1 + k)) 9 10
  have e3 := fb_ct_split (fun k => bt c (1 + (9 + k))) 1 9
  have z1 : fb_ct (bt c) 1 = 0 := fb_ct_zero.mpr (fun k hk => by rw [show k = 0 by omega]; exact b0)
  have z2 : fb_ct (fun k => bt c (1 + (9 + k))) 1 = 0 := fb_ct_zero.mpr (fun k hk => by rw [show k = 0 by omega]; exact b10)
  have e4 : fb_ct (fun j => bt c (1 + j) || bt c (1 + (9 + (1 + j)))) 9 = fb_ct (fun j => bt c (1 + j)) 9 + fb_ct (fun j => bt c (1 + (9 + (1 + j)))) 9 := fb_ct_or (fun k hk => by
    rintro ⟨w1, w2⟩
    exact hc.2 (1 + k) (by omega) (by omega) ⟨w1, by rw [show 1 + k + 10 = 1 + (9 + (1 + k)) by omega]; exact w2⟩)
  have e5 : fb_ct (fun j => bt (c ||| cb_op c) (j + 1)) 9 = fb_ct (fun j => bt c (1 + j) || bt c (1 + (9 + (1 + j)))) 9 := fb_ct_cong (fun k hk => by
    have op : cr_op (k + 1) = k + 1 + 10 := by unfold cr_op; rw [if_pos (by omega)]
    have e := cb_op_bt hsg (i := k + 1) (by omega)
    rw [op] at e
    rw [b_or, show 1 + k = k + 1 by omega, show 1 + (9 + (k + 1)) = k + 1 + 10 by omega]
    cases w : bt c (k + 1 + 10) with
    | true => rw [e.mpr ⟨Or.inl ⟨by omega, by omega⟩, w⟩]
    | false =>
      cases w2 : bt (cb_op c) (k + 1) with
      | false => rfl
      | true => rw [(e.mp w2).2] at w; cases w)
  show fb_ct (bt c) 20 = fb_ct (fun j => bt (c ||| cb_op c) (j + 1)) 9
  rw [e5, e4, show 20 = 1 + 19 from rfl, e1, z1, show 19 = 9 + 10 from rfl, e2, show 10 = 1 + 9 from rfl, e3, z2]
  omega
/-- a clause's signs, one after the other -/
theorem ps_signs (h : cr_I S) (hr : pr (cs_sp S) S q on ze le re tr) {k : Nat} (hk : k < cs_t S + cs_n S) (K : cw_W l mm_L_same 0 0 h0 (some (.int (nI 1))) h1 0 0 310 ((9, .int (nI 10)) :: (8, .int (nI (cb_tc (cs_cl S k) 10))) :: (7, .int (nI k)) :: pl_N) [] (px_h q on ze le re tr (cc_h u S T H G g pl L))) : ∀ n t, t + n = 10 → 1 ≤ t → cw_W l mm_L_same 0 0 h0 (some (.int (nI 1))) h1 0 0 231 ((9, .int (nI t)) :: (8, .int (nI (cb_tc (cs_cl S k) t))) :: (7, .int (nI k)) :: pl_N) [] (px_h q on ze le re tr (cc_h u S T H G g pl L)) := by
  have hB := h.1.1
  have n60 : cs_t S + cs_n S ≤ 60 := by have := hB.2.1.2; have := hB.2.2.1.2; omega
  have hc := h.2.1 k hk
  have hp := hr.2.2.1 k hk
  have hbe : cb_be (nI k) (cs_to S + cs_le S) = true := by
    rw [hB.2.1.1, hB.2.2.1.1, nI_add]
    exact decide_eq_true ⟨nI_pos (by omega), nI_lt hk (by omega)⟩
  have k61 : k < 61 := by omega
  intro n
  induction n with
  | zero =>
    intro t ht h1
    obtain rfl : t = 10 := by omega
    exact cw_run cw_kL_same cw_z 3 [true] [] [] (And.intro ((show nI 10 ≤ nI 10 from Int32.le_refl _)) (K))
  | succ n ih =>
    intro t ht h1
    have t9 : t ≤ 9 := by omega
    have m0 : ¬ nI 10 ≤ nI t := nI_ge (by omega) (by omega)
    have ih1 := ih (t + 1) (by omega) (by omega)
    rw [← nI_add t 1] at ih1
    have es := cb_tc_s (cs_cl S k) h1
    have ⟨th1, th2⟩ := pr_thing h hc hp h1 t9
    have hle := cb_tc_le (cs_cl S k) t
    -- the class's answer at the next sign
    have ans : bt (cs_cl S k ||| cb_op (cs_cl S k)) t = true → cw_M l mm_X2_clause 0 0 [.ref 6, .int (nI k), .int (nI (cb_tc (cs_cl S k) t + 1))] (px_h q on ze le re tr (cc_h u S T H G g pl L)) (some (.int (if bt (cs_cl S k) t then nI t else nI (t + 10)))) (px_h q on ze le re tr (cc_h u S T H G g pl L)) := by
      intro b
      have o := px_cls (q := q) (on := on) (ze := ze) (le := le) (re := re) (tr := tr) (cc_clause_ok (l := l) (u := u) (N := S) (T := T) (H := H) (G := G) (f := g) (pl := pl) (L := L) (k := k) (j := cb_tc (cs_cl S k) t + 1) hbe (by omega) (by omega)) rfl
      have e : cc_cla S (cs_cl S k) (cb_tc (cs_cl S k) t + 1) = if bt (cs_cl S k) t then nI t else nI (t + 10) := by
        unfold cc_cla
        rw [if_neg (by omega), if_neg (by omega), if_neg (by omega), if_neg (by omega), cb_sio_skip _ (by omega) (t - 1) t (by omega) (by omega) (Nat.lt_succ_self _), show 10 - t = (10 - (t + 1)) + 1 by omega]
        unfold cb_sio
        rw [if_pos b, if_pos (nI_add _ 1)]
      rw [e] at o
      exact o
    cases bo : bt (on k) t with
    | true =>
      have a := ans (th1.mpr (Or.inl bo))
      rw [if_pos (th1.mpr (Or.inl bo))] at es
      rw [if_pos (th2.mpr bo)] at a
      rw [es, ← nI_add (cb_tc (cs_cl S k) t) 1] at ih1
      rw [← nI_add (cb_tc (cs_cl S k) t) 1] at a
      exact cw_run cw_kL_same cw_z 26 [false, false, false, true] [_] [(_, _)] (And.intro (m0) (And.intro (rfl) (And.intro (k61) (And.intro ((show ¬ ¬ (on k >>> (nI t &&& 31)) &&& nI 1 = nI 1 by rw [pl_b1 (by omega), bo]; exact fun z => z rfl)) (And.intro ((show ¬ nI t ≤ 0 from nI_nle (by omega) (by omega))) (And.intro (a) (And.intro (Nat.le_refl _) (And.intro (rfl) (cw_less [0, 1, 3, 4, 5, 6, 7, 8, 9, 10] rfl ih1)))))))))
    | false =>
      have no : ¬ (on k >>> (nI t &&& 31)) &&& nI 1 = nI 1 := by rw [pl_b1 (by omega), bo]; decide
      cases bz : bt (ze k) t with
      | true =>
        have a := ans (th1.mpr (Or.inr bz))
        rw [if_pos (th1.mpr (Or.inr bz))] at es
        rw [if_neg (fun z => by rw [th2.mp z] at bo; cases bo)] at a
        rw [es, ← nI_add (cb_tc (cs_cl S k) t) 1] at ih1
        rw [← nI_add (cb_tc (cs_cl S k) t) 1, show t + 10 = 10 + t by omega, ← nI_add 10 t] at a
        exact cw_run cw_kL_same cw_z 37 [false, true, false, false, true] [_, _] [(_, _)] (And.intro (m0) (And.intro (rfl) (And.intro (k61) (And.intro (no) (And.intro (rfl) (And.intro (k61) (And.intro ((show ¬ ¬ (ze k >>> (nI t &&& 31)) &&& nI 1 = nI 1 by rw [pl_b1 (by omega), bz]; exact fun z => z rfl)) (And.intro ((show ¬ nI 10 + nI t ≤ 0 by rw [nI_add]; exact nI_nle (by omega) (by omega))) (And.intro (a) (And.intro (Nat.le_refl _) (And.intro (rfl) (cw_less [0, 1, 3, 4, 5, 6, 7, 8, 9, 10] rfl ih1))))))))))))
      | false =>
        rw [if_neg (fun z => by rcases th1.mp z with w | w; · rw [bo] at w; cases w
                                · rw [bz] at w; cases w), Nat.add_zero] at es
        rw [es] at ih1
        exact cw_run cw_kL_same cw_z 27 [false, true, true, true] [_, _] [] (And.intro (m0) (And.intro (rfl) (And.intro (k61) (And.intro (no) (And.intro (rfl) (And.intro (k61) (And.intro ((show ¬ (ze k >>> (nI t &&& 31)) &&& nI 1 = nI 1 by rw [pl_b1 (by omega), bz]; decide)) (And.intro ((show -nI 6 ≤ 0 by decide)) (cw_less [0, 2, 3, 4, 5, 6, 7, 8, 9, 10] rfl ih1)))))))))
/-- a clause's other answers -/
theorem ps_clause (h : cr_I S) (hr : pr (cs_sp S) S q on ze le re tr) {k : Nat} (hk : k < cs_t S + cs_n S) (K : cw_W l mm_L_same 0 0 h0 (some (.int (nI 1))) h1 0 0 213 ((7, .int (nI (k + 1))) :: pl_N) [] (px_h q on ze le re tr (cc_h u S T H G g pl L))) : cw_W l mm_L_same 0 0 h0 (some (.int (nI 1))) h1 0 0 310 ((9, .int (nI 10)) :: (8, .int (nI (cb_tc (cs_cl S k) 10))) :: (7, .int (nI k)) :: pl_N) [] (px_h q on ze le re tr (cc_h u S T H G g pl L)) := by
  have hB := h.1.1
  have n60 : cs_t S + cs_n S ≤ 60 := by have := hB.2.1.2; have := hB.2.2.1.2; omega
  have hc := h.2.1 k hk
  have hbe : cb_be (nI k) (cs_to S + cs_le S) = true := by
    rw [hB.2.1.1, hB.2.2.1.1, nI_add]
    exact decide_eq_true ⟨nI_pos (by omega), nI_lt hk (by omega)⟩
  have k61 : k < 61 := by omega
  have hle := cb_tc_le (cs_cl S k) 10
  have ft := fb_ct_le (bt (cs_op S (cs_cl S k))) 20
  obtain ⟨x1, x2, x3⟩ := pr_opx h hr hk
  have et := pr_tr h hr hk
  have o := fun j (hj : j ≤ 12) => px_cls (q := q) (on := on) (ze := ze) (le := le) (re := re) (tr := tr) (cc_clause_ok (l := l) (u := u) (N := S) (T := T) (H := H) (G := G) (f := g) (pl := pl) (L := L) (k := k) (j := j) hbe (by omega) hj) rfl
  have o0 := o 0 (by omega)
  rw [show cc_cla S (cs_cl S k) 0 = nI (cb_tc (cs_cl S k) 10) from cb_tc_all h hc] at o0
  have o10 := o 10 (by omega)
  rw [show cc_cla S (cs_cl S k) 10 = cb_n (cs_tr S (cs_cl S k)) from rfl] at o10
  have o11 := o 11 (by omega)
  rw [show cc_cla S (cs_cl S k) 11 = cb_n (!cs_tr S (cs_cl S k) && decide (cs_op S (cs_cl S k) = 0)) from rfl] at o11
  have o12 := o 12 (by omega)
  rw [show cc_cla S (cs_cl S k) 12 = cb_bc (cs_op S (cs_cl S k)) from rfl, x3] at o12
  have ai := px_arr (C := cc_h u S T H G g pl L) (pl_isTrue (l := l) (q := q) (on := on) (ze := ze) (le := le) (re := re) (tr := tr) k61)
  rw [et] at ai
  have ao := px_arr (C := cc_h u S T H G g pl L) (pl_open (l := l) (q := q) (on := on) (ze := ze) (le := le) (re := re) (tr := tr) k61)
  have ab := pl_bits l (px_h q on ze le re tr (cc_h u S T H G g pl L)) x1
  rw [x2] at ab
  have eop : cs_op S (cs_cl S k) = 0 ↔ fb_ct (bt (cs_op S (cs_cl S k))) 20 = 0 := by
    rw [fb_ct_zero, cb_zero]
    constructor
    · intro z i hi; exact z i (by omega)
    · intro z i hi
      cases w : bt (cs_op S (cs_cl S k)) i with
      | false => rfl
      | true =>
        have := cr_sg9 (Nat.le_refl 9) (pr_sg h hc i hi ((cr_op_bt h hc hi).mp w).1)
        rw [z i (by omega)] at w
        cases w
  generalize fb_ct (bt (cs_op S (cs_cl S k))) 20 = m at *
  have K2 := K
  rw [← nI_add k 1] at K2
  -- behind the signs
  have tail : ∀ {x9 : Bool}, cs_tr S (cs_cl S k) = x9 → cw_W l mm_L_same 0 0 h0 (some (.int (nI 1))) h1 0 0 367 ((10, .int (nI m)) :: (9, .int (cb_n x9)) :: (8, .int (nI (cb_tc (cs_cl S k) 10))) :: (7, .int (nI k)) :: pl_N) [] (px_h q on ze le re tr (cc_h u S T H G g pl L)) := by
    intro x9 e
    rw [e] at o10 o11
    cases x9 with
    | true =>
      exact cw_run cw_kL_same cw_z 25 [false, false, true, false, true] [] [(_, _), (_, _), (_, _)] (And.intro (o10) (And.intro (Nat.le_refl _) (And.intro (cb_nt.mpr rfl) (And.intro ((show ¬ ¬ cb_n true = nI 1 from fun z => z rfl)) (And.intro (o11) (And.intro (Nat.le_refl _) (And.intro (cb_nt.mpr rfl) (And.intro ((show ¬ ¬ cb_n (!true && decide (cs_op S (cs_cl S k) = 0)) = nI 0 from fun z => z rfl)) (And.intro (o12) (And.intro (Nat.le_refl _) (And.intro (rfl) (cw_less [0, 4, 5, 6, 7, 8, 9, 10] rfl K2))))))))))))
    | false =>
      by_cases d : m = 0
      · rw [decide_eq_true (eop.mpr d)] at o11
        exact cw_run cw_kL_same cw_z 27 [true, false, false, false, false, true] [] [(_, _), (_, _), (_, _)] (And.intro (o10) (And.intro (Nat.le_refl _) (And.intro (cb_n0.mpr rfl) (And.intro ((show ¬ ¬ cb_n false = nI 0 from fun z => z rfl)) (And.intro (o11) (And.intro (Nat.le_refl _) (And.intro ((fun z => z (cb_n0.mpr rfl))) (And.intro ((show ¬ ¬ nI m = 0 from fun z => z (by rw [d]; rfl))) (And.intro ((show ¬ ¬ cb_n (!false && true) = nI 1 from fun z => z rfl)) (And.intro (o12) (And.intro (Nat.le_refl _) (And.intro (rfl) (cw_less [0, 4, 5, 6, 7, 8, 9, 10] rfl K2)))))))))))))
      · rw [decide_eq_false (fun z => d (eop.mp z))] at o11
        exact cw_run cw_kL_same cw_z 26 [true, false, false, true, false, true] [] [(_, _), (_, _), (_, _)] (And.intro (o10) (And.intro (Nat.le_refl _) (And.intro (cb_n0.mpr rfl) (And.intro ((show ¬ ¬ cb_n false = nI 0 from fun z => z rfl)) (And.intro (o11) (And.intro (Nat.le_refl _) (And.intro ((fun z => z (cb_n0.mpr rfl))) (And.intro ((show ¬ nI m = 0 from nI_ne0 (by omega) (by omega))) (And.intro ((show ¬ ¬ cb_n (!false && false) = nI 0 from fun z => z rfl)) (And.intro (o12) (And.intro (Nat.le_refl _) (And.intro (rfl) (cw_less [0, 4, 5, 6, 7, 8, 9, 10] rfl K2)))))))))))))
  have t0 := tail rfl
  by_cases d : cb_tc (cs_cl S k) 10 < 9
  · have o1 := o (cb_tc (cs_cl S k) 10 + 1) (by omega)
    have e1 : cc_cla S (cs_cl S k) (cb_tc (cs_cl S k) 10 + 1) = -nI 6 := by
      unfold cc_cla
      rw [if_neg (by omega), if_neg (by omega), if_neg (by omega), if_neg (by omega), cb_sio_skip _ (by omega) 9 10 rfl (by omega) (Nat.lt_succ_self _)]
      rfl
    rw [e1, ← nI_add (cb_tc (cs_cl S k) 10) 1] at o1
    exact cw_run cw_kL_same cw_z 30 [false, false, false] [] [(_, _), (_, _), (_, _), (_, _), (_, _)] (And.intro (ai) (And.intro (Nat.le_refl _) (And.intro (ao) (And.intro (Nat.le_refl _) (And.intro (ab) (And.intro (Nat.le_refl _) (And.intro (o0) (And.intro (Nat.le_refl _) (And.intro ((fun z => z rfl)) (And.intro ((show ¬ nI 9 ≤ nI (cb_tc (cs_cl S k) 10) from nI_ge d (by omega))) (And.intro (o1) (And.intro (Nat.le_refl _) (And.intro ((show ¬ ¬ -nI 6 = -nI 6 from fun z => z rfl)) (t0))))))))))))))
  · exact cw_run cw_kL_same cw_z 22 [false, true] [] [(_, _), (_, _), (_, _), (_, _)] (And.intro (ai) (And.intro (Nat.le_refl _) (And.intro (ao) (And.intro (Nat.le_refl _) (And.intro (ab) (And.intro (Nat.le_refl _) (And.intro (o0) (And.intro (Nat.le_refl _) (And.intro ((fun z => z rfl)) (And.intro ((show nI 9 ≤ nI (cb_tc (cs_cl S k) 10) from nI_le (by omega) (by omega))) (t0)))))))))))
theorem ps_clauses (h : cr_I S) (hr : pr (cs_sp S) S q on ze le re tr) (K : cw_W l mm_L_same 0 0 h0 (some (.int (nI 1))) h1 0 0 435 pl_N [] (px_h q on ze le re tr (cc_h u S T H G g pl L))) : ∀ n k, k + n = cs_t S + cs_n S → cw_W l mm_L_same 0 0 h0 (some (.int (nI 1))) h1 0 0 213 ((7, .int (nI k)) :: pl_N) [] (px_h q on ze le re tr (cc_h u S T H G g pl L)) := by
  have hB := h.1.1
  have n60 : cs_t S + cs_n S ≤ 60 := by have := hB.2.1.2; have := hB.2.2.1.2; omega
  have e3 : q 3 + q 4 = nI (cs_t S + cs_n S) := by rw [hr.1.2.2.2.1, hr.1.2.2.2.2.1, hB.2.1.1, hB.2.2.1.1, nI_add]
  intro n
  induction n with
  | zero =>
    intro k hk
    obtain rfl : k = cs_t S + cs_n S := by omega
    exact cw_run cw_kL_same cw_z 9 [true] [_, _] [] (And.intro (rfl) (And.intro (Nat.le_of_ble_eq_true rfl) (And.intro (rfl) (And.intro (Nat.le_of_ble_eq_true rfl) (And.intro ((show q 3 + q 4 ≤ nI (cs_t S + cs_n S) by rw [e3]; exact Int32.le_refl _)) (cw_less [1, 2, 3, 4, 5, 6, 7] rfl K))))))
  | succ n ih =>
    intro k hk
    have w := ps_signs h hr (show k < cs_t S + cs_n S by omega) (ps_clause h hr (by omega) (ih (k + 1) (by omega))) 9 1 (by omega) (Nat.le_refl _)
    exact cw_run cw_kL_same cw_z 13 [false] [_, _] [] (And.intro (rfl) (And.intro (Nat.le_of_ble_eq_true rfl) (And.intro (rfl) (And.intro (Nat.le_of_ble_eq_true rfl) (And.intro ((show ¬ q 3 + q 4 ≤ nI k by rw [e3]; exact nI_ge (by omega) (by omega))) (w))))))

set_option maxRecDepth 10000 in
theorem pl_same (h : cr_I S) (hr : pr (cs_sp S) S q on ze le re tr) : cw_M l mm_L_same 0 0 [.ref 6, .ref 0, .ref 1, .ref 2, .ref 3, .ref 4, .ref 5] (px_h q on ze le re tr (cc_h u S T H G g pl L)) (some (.int (nI 1))) (px_h q on ze le re tr (cc_h u S T H G g pl L)) := by
  have hB := h.1.1
  refine cw_enter cw_KL_same (by decide) (Nat.le_of_ble_eq_true rfl) ?_
  refine cw_run cw_kL_same cw_z 2 [] [] [] (ps_things h hr ?_ (cs_k S) 1 (by omega) (Nat.le_refl _))
  refine cw_run cw_kL_same cw_z 2 [] [] [] (ps_trail h hr ?_ (cs_g S) 0 (by omega))
  refine cw_run cw_kL_same cw_z 2 [] [] [] (ps_clauses h hr ?_ (cs_t S + cs_n S) 0 (by omega))
  obtain ⟨r0, r1, r2, r3, r4, r5, r6, r7, r8, r9⟩ := hr.1
  have o := fun j (hj : j ≤ 11) => px_cls (q := q) (on := on) (ze := ze) (le := le) (re := re) (tr := tr) (cc_count (l := l) (u := u) (N := S) (T := T) (H := H) (G := G) (f := g) (pl := pl) (L := L) hB j hj) rfl
  have nn : ∀ {a b : Int32}, a = b → ¬ ¬ b = a := fun e z => z e.symm
  exact cw_run cw_kL_same cw_z 72 [false, false, false, false, false, false, false, false, false, false] [_, _, _, _, _, _, _, _, _, _] [(_, _), (_, _), (_, _), (_, _), (_, _), (_, _), (_, _), (_, _), (_, _), (_, _)] (And.intro (o 0 (by omega)) (And.intro (Nat.le_refl _) (And.intro (rfl) (And.intro (Nat.le_of_ble_eq_true rfl) (And.intro (nn r3) (And.intro (o 1 (by omega)) (And.intro (Nat.le_refl _) (And.intro (rfl) (And.intro (Nat.le_of_ble_eq_true rfl) (And.intro (nn r4) (And.intro (o 2 (by omega)) (And.intro (Nat.le_refl _) (And.intro (rfl) (And.intro (Nat.le_of_ble_eq_true rfl) (And.intro (nn r5) (And.intro (o 3 (by omega)) (And.intro (Nat.le_refl _) (And.intro (rfl) (And.intro (Nat.le_of_ble_eq_true rfl) (And.intro (nn r6) (And.intro (o 4 (by omega)) (And.intro (Nat.le_refl _) (And.intro (rfl) (And.intro (Nat.le_of_ble_eq_true rfl) (And.intro (nn r7) (And.intro (o 5 (by omega)) (And.intro (Nat.le_refl _) (And.intro (rfl) (And.intro (Nat.le_of_ble_eq_true rfl) (And.intro (nn r8) (And.intro (o 6 (by omega)) (And.intro (Nat.le_refl _) (And.intro (rfl) (And.intro (Nat.le_of_ble_eq_true rfl) (And.intro (nn r9) (And.intro (o 7 (by omega)) (And.intro (Nat.le_refl _) (And.intro (rfl) (And.intro (Nat.le_of_ble_eq_true rfl) (And.intro (nn r0) (And.intro (o 8 (by omega)) (And.intro (Nat.le_refl _) (And.intro (rfl) (And.intro (Nat.le_of_ble_eq_true rfl) (And.intro (nn r1) (And.intro (o 9 (by omega)) (And.intro (Nat.le_refl _) (And.intro (rfl) (And.intro (Nat.le_of_ble_eq_true rfl) (And.intro (nn r2) (cw_retz cw_kL_same cw_z rfl rfl (Or.inr rfl))))))))))))))))))))))))))))))))))))))))))))))))))))
end PS2
end
section
/-! p24: texts, character by character -/
/-- where reading stands behind j characters: last digit, behind a digit, behind a minus; the clause, to zero?, the greatest thing, the clauses told, how many are begun -/
def pt_S (f : Nat → Int32) (j L : Nat) (bd bm : Bool) (c : Int32) (z : Bool) (g : Nat) (tl : cs_S → cs_S) (m : Nat) : Prop :=
  ∀ f' : Nat → Int32, (∀ k, k < j → f' k = f k) → (∀ n, cp_ff f' (j + n) 0 (nI 0) false false = cp_ff f' n j (nI L) bd bm) ∧ (∀ n S, cp_tl f' (j + n) 0 (nI 0) false S = cp_tl f' n j c z (tl S)) ∧ (∀ n, cp_gt f' (j + n) 0 (nI 0) = cp_gt f' n j (nI g)) ∧ ∀ n, cp_hm f' (j + n) 0 1 = cp_hm f' n j m
theorem pt_0 (f : Nat → Int32) : pt_S f 0 0 false false (nI 0) false 0 (fun S => S) 1 := by
  intro f' _
  refine ⟨fun n => ?_, fun n S => ?_, fun n => ?_, fun n => ?_⟩ <;> rw [Nat.zero_add]
theorem pt_step {f : Nat → Int32} {j L L' g g' m m' : Nat} {bd bd' bm bm' z z' : Bool} {c c' v : Int32} {tl tl' : cs_S → cs_S} (h : pt_S f j L bd bm c z g tl m)
    (e1 : ∀ f' n, f' j = v → cp_ff f' (n + 1) j (nI L) bd bm = cp_ff f' n (j + 1) (nI L') bd' bm') (e2 : ∀ f' n S, f' j = v → cp_tl f' (n + 1) j c z (tl S) = cp_tl f' n (j + 1) c' z' (tl' S)) (e3 : ∀ f' n, f' j = v → cp_gt f' (n + 1) j (nI g) = cp_gt f' n (j + 1) (nI g')) (e4 : ∀ f' n, f' j = v → cp_hm f' (n + 1) j m = cp_hm f' n (j + 1) m') : pt_S (upd f j v) (j + 1) L' bd' bm' c' z' g' tl' m' := by
  intro f' hf
  have hj : f' j = v := (hf j (by omega)).trans (if_pos rfl)
  obtain ⟨a1, a2, a3, a4⟩ := h f' (fun k hk => (hf k (by omega)).trans (if_neg (by omega)))
  refine ⟨fun n => ?_, fun n S => ?_, fun n => ?_, fun n => ?_⟩
  · rw [show j + 1 + n = j + (n + 1) by omega, a1, e1 f' n hj]
  · rw [show j + 1 + n = j + (n + 1) by omega, a2, e2 f' n S hj]
  · rw [show j + 1 + n = j + (n + 1) by omega, a3, e3 f' n hj]
  · rw [show j + 1 + n = j + (n + 1) by omega, a4, e4 f' n hj]
theorem pt_dg : ∀ c, c < 127 → cp_dg (nI c) = decide (49 ≤ c ∧ c ≤ 57) := by decide +kernel
section PT
variable {f : Nat → Int32} {j L g m : Nat} {bm z : Bool} {c : Int32} {tl : cs_S → cs_S}
theorem pt_comma (h : pt_S f j L true bm c z g tl m) (hL : L < 9) : pt_S (upd f j (nI 44)) (j + 1) L false bm c false g tl m := by
  refine pt_step h (fun f' n e => ?_) (fun f' n S e => ?_) (fun f' n e => ?_) (fun f' n e => ?_)
  · conv => lhs; unfold cp_ff
    rw [e, if_neg (by decide), if_pos rfl, if_neg (fun w => by have := (nI_eq (by omega) (by omega)).mp w; omega)]
  · conv => lhs; unfold cp_tl
    rw [e, pt_dg 44 (by omega), if_neg (by decide), if_neg (by decide)]
    rfl
  · conv => lhs; unfold cp_gt
    rw [e, pt_dg 44 (by omega), if_neg (by decide)]
  · conv => lhs; unfold cp_hm
    rw [e, if_neg (by decide)]
theorem pt_minus (h : pt_S f j L false false c z g tl m) : pt_S (upd f j (nI 45)) (j + 1) L false true c true g tl m := by
  refine pt_step h (fun f' n e => ?_) (fun f' n S e => ?_) (fun f' n e => ?_) (fun f' n e => ?_)
  · conv => lhs; unfold cp_ff
    rw [e, if_pos ⟨rfl, rfl⟩]
  · conv => lhs; unfold cp_tl
    rw [e, pt_dg 45 (by omega), if_neg (by decide), if_neg (by decide)]
    rfl
  · conv => lhs; unfold cp_gt
    rw [e, pt_dg 45 (by omega), if_neg (by decide)]
  · conv => lhs; unfold cp_hm
    rw [e, if_neg (by decide)]
theorem pt_semi (h : pt_S f j L true bm c z g tl m) : pt_S (upd f j (nI 59)) (j + 1) 0 false bm (nI 0) false g (fun S => cs_tell (tl S) c) (m + 1) := by
  refine pt_step h (fun f' n e => ?_) (fun f' n S e => ?_) (fun f' n e => ?_) (fun f' n e => ?_)
  · conv => lhs; unfold cp_ff
    rw [e, if_pos rfl]
  · conv => lhs; unfold cp_tl
    rw [e, pt_dg 59 (by omega), if_neg (by decide), if_pos rfl]
    rfl
  · conv => lhs; unfold cp_gt
    rw [e, pt_dg 59 (by omega), if_neg (by decide)]
  · conv => lhs; unfold cp_hm
    rw [e, if_pos rfl]
theorem pt_digit (h : pt_S f j L false bm c z g tl m) {t : Nat} (h1 : 1 ≤ t) (ht : t ≤ 9) (hL : L < t) (hg : g ≤ 9) : pt_S (upd f j (nI (48 + t))) (j + 1) t true false (c ||| cb_set (nI (if z then t + 10 else t))) false (max g t) tl m := by
  have e48 : nI (48 + t) - nI 48 = nI t := by rw [pk_sub (by omega)]; congr 1; omega
  have n45 : ¬ nI (48 + t) = nI 45 := fun w => by have := (nI_eq (by omega) (by omega)).mp w; omega
  have dg : cp_dg (nI (48 + t)) = true := by rw [pt_dg _ (by omega)]; exact decide_eq_true ⟨by omega, by omega⟩
  refine pt_step h (fun f' n e => ?_) (fun f' n S e => ?_) (fun f' n e => ?_) (fun f' n e => ?_)
  · conv => lhs; unfold cp_ff
    rw [e, e48, if_neg (fun w => n45 w.1), if_neg (nI_ge hL (by omega)), if_pos (nI_le ht (by omega))]
  · conv => lhs; unfold cp_tl
    rw [e, if_pos dg, e48, decide_eq_false n45]
    cases z with
    | true => rw [if_pos rfl, if_pos rfl, cb_opp_nI (by omega)]; unfold cr_op; rw [if_pos (by omega)]
    | false => rw [if_neg (by decide), if_neg (by decide)]
  · conv => lhs; unfold cp_gt
    rw [e, if_pos dg, e48]
    by_cases w : g < t
    · rw [if_pos (nI_lt w (by omega)), Nat.max_eq_right (by omega)]
    · rw [if_neg (nI_nlt (by omega) (by omega)), Nat.max_eq_left (by omega)]
  · conv => lhs; unfold cp_hm
    rw [e, if_neg (fun w => by have := (nI_eq (by omega) (by omega)).mp w; omega)]
/-- a whole text -/
theorem pt_end (h : pt_S f j L true bm c z g tl m) : cp_ff f j 0 (nI 0) false false = -nI 6 ∧ (∀ S, cp_tl f j 0 (nI 0) false S = cs_tell (tl S) c) ∧ cp_gt f j 0 (nI 0) = nI g ∧ cp_hm f j 0 1 = m := by
  obtain ⟨a1, a2, a3, a4⟩ := h f (fun _ _ => rfl)
  have b1 := a1 0
  have b2 := a2 0
  have b3 := a3 0
  have b4 := a4 0
  rw [Nat.add_zero] at b1 b2 b3 b4
  exact ⟨b1, b2, b3, b4⟩
end PT
/-- one character put -/
theorem pt_ch : ∀ c, c < 127 → 33 ≤ c → cp_ci (lN c) 8 0 = nI 1 ∧ cp_ch (lN c) 0 = nI c := by decide +kernel
section PTP
variable {l : Launch} {u : Int32} {N T : cs_S} {H G : Nat → Option Nat} {f : Nat → Int32} {L : List cs_S} {q on ze le re tr : Nat → Int32}
theorem px_put {ch n : Nat} (h1 : 33 ≤ ch) (h2 : ch < 127) (hn : n < 60) : cw_M l mm_X2_put 0 0 [.ref 6, .long (lN ch)] (px_h q on ze le re tr (cc_h u N T H G f (nI n) L)) (some (.int (nI (n + 1)))) (px_h q on ze le re tr (cc_h u N T H G (upd f n (nI ch)) (nI (n + 1)) L)) := by
  obtain ⟨a, b⟩ := pt_ch ch h2 h1
  have o := cc_put_ok (l := l) (u := u) (N := N) (T := T) (H := H) (G := G) (f := f) (L := L) (x := lN ch) (n := n) (m := 1) a (by omega) (by omega)
  have e : cp_ap (lN ch) 1 n f = upd f n (nI ch) := by
    show upd f n (cp_ch (lN ch) 0) = _
    rw [b]
  rw [e] at o
  exact px_cls o rfl
theorem px_wipe {pl : Int32} : cw_M l mm_X2_wipe 0 0 [.ref 6] (px_h q on ze le re tr (cc_h u N T H G f pl L)) (some (.int pl)) (px_h q on ze le re tr (cc_h u N T H G f (nI 0) L)) := px_cls cc_wipe rfl
end PTP
end
section
/-! p24: clauses come -/
section OKR
variable {u : Nat} {N : cs_S} {H G : Nat → Option Nat} {L : List cs_S}
/-- the class's heap behind a recorded state -/
theorem cc_ok_rec (hok : cc_ok u H G L) : cc_ok (cm_ru u + 1) (cc_Hr u H L) G (cc_Lr u H L N) ∧ (cc_Lr u H L N).length ≤ L.length + 1 := by
  obtain ⟨r1, r2, r3, r4, r5⟩ := cc_rH_ok hok
  obtain ⟨hu, hH, hG, hun, hi, hg, hd⟩ := hok
  unfold cc_Hr cc_Lr cc_rHf cc_rL
  generalize hR : cc_rH u H = R at *
  generalize cm_ru u = v at *
  cases hv : R v with
  | some j =>
    refine ⟨⟨by omega, fun i j' q => ?_, fun i j' q => ?_, fun i q => ?_, r3, hg, r4⟩, by rw [List.length_set]; omega⟩
    · rw [List.length_set]; exact r1 i j' q
    · rw [List.length_set]; exact hG i j' q
    · by_cases e : i = v
      · exact ⟨j, by rw [e]; exact hv⟩
      · exact r2 i (by omega)
  | none =>
    have hup : ∀ i, i ≠ v → va_up R v (some L.length) i = R i := fun i q => if_neg q
    have hupv : va_up R v (some L.length) v = some L.length := if_pos rfl
    dsimp only
    refine ⟨⟨by omega, fun i j' q => ?_, fun i j' q => ?_, fun i q => ?_, fun i k j' q1 q2 => ?_, hg, fun i k j' q1 q2 => ?_⟩, by rw [List.length_append]; exact Nat.le_refl _⟩
    · rw [List.length_append]
      by_cases e : i = v
      · rw [e, hupv] at q; cases q; exact Nat.lt_succ_self _
      · rw [hup i e] at q
        exact Nat.lt_of_lt_of_le (r1 i j' q) (Nat.le_add_right _ _)
    · rw [List.length_append]
      exact Nat.lt_of_lt_of_le (hG i j' q) (Nat.le_add_right _ _)
    · by_cases e : i = v
      · exact ⟨_, by rw [e]; exact hupv⟩
      · rw [hup i e]; exact r2 i (by omega)
    · by_cases e1 : i = v
      · by_cases e2 : k = v
        · rw [e1, e2]
        · rw [e1, hupv] at q1
          rw [hup k e2] at q2
          cases q1
          exact absurd (r1 k _ q2) (Nat.lt_irrefl _)
      · by_cases e2 : k = v
        · rw [e2, hupv] at q2
          rw [hup i e1] at q1
          cases q2
          exact absurd (r1 i _ q1) (Nat.lt_irrefl _)
        · rw [hup i e1] at q1
          rw [hup k e2] at q2
          exact r3 i k j' q1 q2
    · by_cases e : i = v
      · rw [e, hupv] at q1
        cases q1
        exact absurd (hG k _ q2) (Nat.lt_irrefl _)
      · rw [hup i e] at q1
        exact r4 i k j' q1 q2
end OKR
section PXA
variable {l : Launch} {q on ze le re tr : Nat → Int32} {u u' : Int32} {N T N' T' : cs_S} {H G H' G' : Nat → Option Nat} {f f' : Nat → Int32} {pl pl' : Int32} {L L' : List cs_S}
theorem px_len {C : cw_H} : (px_h q on ze le re tr C).length = 6 + C.length := by
  unfold px_h
  rw [List.length_append, List.length_map]
  rfl
theorem px_wl {lv : cw_LV} (e : lv.all (fun q => cw_wfvb 15 q.2) = true) : ∀ x ∈ lv, cw_wfv (px_h q on ze le re tr (cc_h u N T H G f pl L)).length x.2 := by
  intro x hx
  have h1 := cw_wfvb_ok (List.all_eq_true.mp e x hx)
  rw [px_len, cc_len]
  cases hv : x.2 with
  | ref k => rw [hv] at h1; exact Nat.lt_of_lt_of_le h1 (by omega)
  | _ => trivial
theorem px_clsA {i : cw_I} {mc ms : Nat} {av : List Value} {r : Int32} (hM : cw_M l i mc ms av (cc_h u N T H G f pl L) (some (.int r)) (cc_h u' N' T' H' G' f' pl' L')) (hl : L.length ≤ L'.length) (hH : ∀ i j, H i = some j → j < L.length) (hG : ∀ i j, G i = some j → j < L.length) (hH' : ∀ i j, H' i = some j → j < L'.length) (hG' : ∀ i j, G' i = some j → j < L'.length) : cw_M l i mc ms (av.map (cw_v (fun k => 6 + k))) (px_h q on ze le re tr (cc_h u N T H G f pl L)) (some (.int r)) (px_h q on ze le re tr (cc_h u' N' T' H' G' f' pl' L')) :=
  cw_liftA hM (cc_lel hl) (pl_h q on ze le re tr) (b := 6) rfl (cc_wf (by rw [cc_len]; exact Nat.le_refl _) hH' hG') (cc_wf (by rw [cc_len]; exact Nat.le_refl _) hH hG) (fun x hx => cw_wfeb_ok (List.all_eq_true.mp (show (pl_h q on ze le re tr).all (cw_wfeb _) = true from rfl) x hx)) (fun v hv => by cases hv; trivial)
end PXA
/-- one sign more in a clause, both ways -/
theorem pd_sets {th t : Nat} {cur up down : Int32} (h9 : th ≤ 9) (h1 : 1 ≤ t) (ht : t ≤ th) (hp : pr_c cur up down) (hc : cr_c th cur) (hf : ∀ i, i < 32 → bt cur i = true → i % 10 < t) (z : Bool) :
    pr_c (cur ||| cb_set (nI (if z then t + 10 else t))) (up ||| (if z then nI 0 else nI 1 <<< (nI t &&& 31))) (down ||| (if z then nI 1 <<< (nI t &&& 31) else nI 0)) ∧ cr_c th (cur ||| cb_set (nI (if z then t + 10 else t))) ∧ (∀ i, i < 32 → bt (cur ||| cb_set (nI (if z then t + 10 else t))) i = true → i % 10 < t + 1) ∧ fb_ct (bt ((up ||| (if z then nI 0 else nI 1 <<< (nI t &&& 31))) ||| (down ||| (if z then nI 1 <<< (nI t &&& 31) else nI 0)))) 10 = fb_ct (bt (up ||| down)) 10 + 1 ∧ ¬ (cur ||| cb_set (nI (if z then t + 10 else t))) = 0 := by
  obtain ⟨s, hs, hs10, hsz⟩ : ∃ s, (if z then t + 10 else t) = s ∧ s % 10 = t ∧ (z = true ∧ s = t + 10 ∨ z = false ∧ s = t) := by
    cases z with
    | true => exact ⟨_, rfl, by show (t + 10) % 10 = t; omega, Or.inl ⟨rfl, rfl⟩⟩
    | false => exact ⟨_, rfl, by show t % 10 = t; omega, Or.inr ⟨rfl, rfl⟩⟩
  rw [hs]
  have s32 : s < 32 := by rcases hsz with ⟨-, e⟩ | ⟨-, e⟩ <;> omega
  have hset : ∀ i, i < 32 → bt (cb_set (nI s)) i = decide (i = s) := fun i hi => cb_set_bt s32 hi
  have hssg : cr_sg th s := by
    unfold cr_sg
    rcases hsz with ⟨-, e⟩ | ⟨-, e⟩ <;> omega
  have z0 : ∀ i, bt (nI 0) i = false := fun i => b_0 i
  have hone : ∀ i, i < 32 → bt (nI 1 <<< (nI t &&& 31)) i = decide (i = t) := fun i hi => cb_one (by omega) hi
  have hbt : ∀ i, i < 32 → (bt (cur ||| cb_set (nI s)) i = true ↔ bt cur i = true ∨ i = s) := fun i hi => by
    rw [b_or, Bool.or_eq_true, hset i hi, decide_eq_true_eq]
  have cbig : ∀ i, 20 ≤ i → i < 32 → bt cur i = false := fun i h1 h2 => by
    cases w : bt cur i with
    | false => rfl
    | true => have := cr_sg9 h9 (hc.1 i h2 w); omega
  have nob : ∀ i, i < 32 → i % 10 = t → bt cur i = false := fun i hi e => by
    cases w : bt cur i with
    | false => rfl
    | true => have := hf i hi w; omega
  refine ⟨fun i hi => ⟨?_, ?_⟩, ⟨fun i hi w => ?_, fun i i1 i9 => ?_⟩, fun i hi w => ?_, ?_, fun w => ?_⟩
  · rw [hbt i hi, b_or, Bool.or_eq_true, (hp i hi).1]
    rcases hsz with ⟨rfl, e⟩ | ⟨rfl, e⟩
    · rw [if_pos rfl, z0]
      constructor
      · rintro (w | w)
        · exact ⟨w.1, Or.inl w.2⟩
        · cases w
      · rintro ⟨w1, w2 | w2⟩
        · exact Or.inl ⟨w1, w2⟩
        · omega
    · rw [if_neg (by decide), hone i hi, decide_eq_true_eq]
      constructor
      · rintro (w | w)
        · exact ⟨w.1, Or.inl w.2⟩
        · exact ⟨by omega, Or.inr (by omega)⟩
      · rintro ⟨w1, w2 | w2⟩
        · exact Or.inl ⟨w1, w2⟩
        · exact Or.inr (by omega)
  · rw [b_or, Bool.or_eq_true, (hp i hi).2]
    have hb2 : bt (cur ||| cb_set (nI s)) (i + 10) = true ↔ bt cur (i + 10) = true ∨ i + 10 = s := by
      rcases Nat.lt_or_ge (i + 10) 32 with w | w
      · exact hbt _ w
      · rw [b_big w, b_big w]
        constructor
        · intro x; cases x
        · rintro (x | x)
          · cases x
          · omega
    rw [hb2]
    rcases hsz with ⟨rfl, e⟩ | ⟨rfl, e⟩
    · rw [if_pos rfl, hone i hi, decide_eq_true_eq]
      constructor
      · rintro (w | w)
        · exact Or.inl w
        · exact Or.inr (by omega)
      · rintro (w | w)
        · exact Or.inl w
        · exact Or.inr (by omega)
    · rw [if_neg (by decide), z0]
      constructor
      · rintro (w | w)
        · exact Or.inl w
        · cases w
      · rintro (w | w)
        · exact Or.inl w
        · omega
  · rcases (hbt i hi).mp w with x | x
    · exact hc.1 i hi x
    · rw [x]; exact hssg
  · rintro ⟨w1, w2⟩
    rcases (hbt i (by omega)).mp w1 with x | x
    · rcases (hbt (i + 10) (by omega)).mp w2 with y | y
      · exact hc.2 i i1 i9 ⟨x, y⟩
      · rw [nob i (by omega) (by omega)] at x; cases x
    · rcases (hbt (i + 10) (by omega)).mp w2 with y | y
      · rw [nob (i + 10) (by omega) (by omega)] at y; cases y
      · omega
  · rcases (hbt i hi).mp w with x | x
    · have := hf i hi x; omega
    · omega
  · have hud : ∀ i, i < 32 → bt (up ||| down) i = true → i = t → False := fun i hi w e => by
      rw [b_or, Bool.or_eq_true, (hp i hi).1, (hp i hi).2] at w
      rcases w with w | w
      · rw [nob i hi (by omega)] at w; cases w.2
      · rw [nob (i + 10) (by omega) (by omega)] at w; cases w
    have pt : bt (up ||| down) t = false := by
      cases w : bt (up ||| down) t with
      | false => rfl
      | true => exact (hud t (by omega) w rfl).elim
    have e := fb_ct_upd (bt (up ||| down)) true (i := t) (n := 10) (by omega)
    rw [pt] at e
    have e2 : fb_ct (bt ((up ||| (if z then nI 0 else nI 1 <<< (nI t &&& 31))) ||| (down ||| (if z then nI 1 <<< (nI t &&& 31) else nI 0)))) 10 = fb_ct (fun k => if k = t then true else bt (up ||| down) k) 10 := fb_ct_cong (fun k hk => by
      rw [b_or, b_or, b_or, b_or]
      rcases hsz with ⟨rfl, -⟩ | ⟨rfl, -⟩
      · rw [if_pos rfl, if_pos rfl, z0, hone k (by omega)]
        by_cases w : k = t
        · rw [if_pos w, decide_eq_true w, Bool.or_true, Bool.or_true]
        · rw [if_neg w, decide_eq_false w, Bool.or_false, Bool.or_false]
      · rw [if_neg (by decide), if_neg (by decide), z0, hone k (by omega)]
        by_cases w : k = t
        · rw [if_pos w, decide_eq_true w, Bool.or_true, Bool.true_or]
        · rw [if_neg w, decide_eq_false w, Bool.or_false, Bool.or_false])
    rw [e2]
    simp only [reduceIte] at e
    have zz : (if false = true then 1 else 0) = 0 := rfl
    omega
  · have := (hbt s s32).mpr (Or.inr rfl)
    rw [w, b_0] at this
    cases this
end
section
/-! p24: the law writes clauses, and reads them -/
abbrev pl_P (x y : Int32) : cw_LV := [(0, .ref 6), (1, .int x), (2, .int y), (3, .ref 0), (4, .ref 1), (5, .ref 2), (6, .ref 3), (7, .ref 4), (8, .ref 5)]
/-- from here the law's writing comes to a good end -/
def pq_W (l : Launch) (h0 : cw_H) (Good : cw_H → Prop) (pc : Nat) (lv : cw_LV) (h : cw_H) : Prop := ∃ hf, Good hf ∧ cw_W l mm_L_reads 5 101 h0 (some (.int (nI 1))) hf 0 0 pc lv [] h
def pd_I (th c t len : Nat) (f : Nat → Int32) (cur up down : Int32) (tl : cs_S → cs_S) : Prop := pr_c cur up down ∧ cr_c th cur ∧ (∀ i, i < 32 → bt cur i = true → i % 10 < t) ∧ fb_ct (bt (up ||| down)) 10 ≤ 4 ∧ len ≤ 13 * c + 1 + 3 * fb_ct (bt (up ||| down)) 10 ∧ (∀ k, k < len → cp_c1 (f k)) ∧ ∃ g L, g ≤ th ∧ L < t ∧ pt_S f len L (decide (¬ cur = 0)) false cur false g tl (c + 1)
theorem pd_chr {f : Nat → Int32} {len c : Nat} (h : ∀ k, k < len → cp_c1 (f k)) (hc : c < 127) : ∀ k, k < len + 1 → cp_c1 (upd f len (nI c) k) := by
  intro k hk
  by_cases e : k = len
  · rw [e, pk_us]; exact cp_c1_nI c hc
  · rw [pk_un e]; exact h k (by omega)
theorem pd_mono {th c t len : Nat} {f : Nat → Int32} {cur up down : Int32} {tl : cs_S → cs_S} (h : pd_I th c t len f cur up down tl) : pd_I th c (t + 1) len f cur up down tl := by
  obtain ⟨a1, a2, a3, a4, a5, a6, g, L, b1, b2, b3⟩ := h
  exact ⟨a1, a2, fun i hi w => by have := a3 i hi w; omega, a4, a5, a6, g, L, b1, by omega, b3⟩
theorem pd_zero {th : Nat} (h9 : th ≤ 9) {cur up down : Int32} (hp : pr_c cur up down) (hc : cr_c th cur) : (up ||| down) = 0 ↔ cur = 0 := by
  rw [cb_zero, cb_zero]
  constructor
  · intro h i hi
    cases w : bt cur i with
    | false => rfl
    | true =>
      have hs := cr_sg9 h9 (hc.1 i hi w)
      by_cases e : i < 10
      · have := h i hi
        rw [b_or, ((hp i hi).1).mpr ⟨e, w⟩, Bool.true_or] at this
        cases this
      · have := h (i - 10) (by omega)
        rw [b_or, ((hp (i - 10) (by omega)).2).mpr (by rw [show i - 10 + 10 = i by omega]; exact w), Bool.or_true] at this
        cases this
  · intro h i hi
    cases w : bt (up ||| down) i with
    | false => rfl
    | true =>
      rw [b_or, Bool.or_eq_true, (hp i hi).1, (hp i hi).2] at w
      rcases w with w | w
      · rw [h i hi] at w; cases w.2
      · rcases Nat.lt_or_ge (i + 10) 32 with q | q
        · rw [h _ q] at w; cases w
        · rw [b_big q] at w; cases w
theorem pd_hi {th : Nat} (h9 : th ≤ 9) {cur up down : Int32} (hp : pr_c cur up down) (hc : cr_c th cur) : ∀ i, 10 ≤ i → i < 32 → bt (up ||| down) i = false := by
  intro i h1 hi
  cases w : bt (up ||| down) i with
  | false => rfl
  | true =>
    rw [b_or, Bool.or_eq_true, (hp i hi).1, (hp i hi).2] at w
    rcases w with w | w
    · omega
    · rcases Nat.lt_or_ge (i + 10) 32 with q | q
      · have := cr_sg9 h9 (hc.1 _ q w); omega
      · rw [b_big q] at w; cases w
theorem pd_new {th c t len len3 g : Nat} {f3 : Nat → Int32} {cur up down : Int32} {tl : cs_S → cs_S} (h9 : th ≤ 9) (h1 : 1 ≤ t) (ht : t ≤ th) (a1 : pr_c cur up down) (a2 : cr_c th cur) (a3 : ∀ i, i < 32 → bt cur i = true → i % 10 < t) (a4 : fb_ct (bt (up ||| down)) 10 ≤ 4) (a4' : ¬ fb_ct (bt (up ||| down)) 10 = 4) (a5 : len ≤ 13 * c + 1 + 3 * fb_ct (bt (up ||| down)) 10) (z : Bool) (hl : len3 ≤ len + 3) (hch : ∀ k, k < len3 → cp_c1 (f3 k)) (hg : g ≤ th) (hS : pt_S f3 len3 t true false (cur ||| cb_set (nI (if z then t + 10 else t))) false (max g t) tl (c + 1)) : pd_I th c (t + 1) len3 f3 (cur ||| cb_set (nI (if z then t + 10 else t))) (up ||| (if z then nI 0 else nI 1 <<< (nI t &&& 31))) (down ||| (if z then nI 1 <<< (nI t &&& 31) else nI 0)) tl := by
  obtain ⟨b1, b2, b3, b4, b5⟩ := pd_sets h9 h1 ht a1 a2 a3 z
  exact ⟨b1, b2, b3, by omega, by omega, hch, max g t, t, by omega, by omega, by rw [decide_eq_true b5]; exact hS⟩
section PD
variable {l : Launch} {q on ze le re tr : Nat → Int32} {u : Int32} {S T : cs_S} {H G : Nat → Option Nat} {L : List cs_S} {h0 : cw_H} {Good : cw_H → Prop}
abbrev pd_X (q on ze le re tr : Nat → Int32) (u : Int32) (S T : cs_S) (H G : Nat → Option Nat) (L : List cs_S) (f : Nat → Int32) (len : Nat) : cw_H := px_h q on ze le re tr (cc_h u S T H G f (nI len) L)
theorem i64_59 : (59 : Int64) = lN 59 := by decide
theorem i64_44 : (44 : Int64) = lN 44 := by decide
theorem i64_45 : (45 : Int64) = lN 45 := by decide
theorem pd_w1z {f : Nat → Int32} {len t : Nat} {up down zz cc mm x y : Int32} {hf : cw_H} (hl : len + 3 < 60) (h1 : 1 ≤ t) (ht : t ≤ 9) (eud : (up ||| down) = 0) (w : cw_W l mm_L_reads 5 101 h0 (some (.int (nI 1))) hf 0 0 82 ((14, .int (nI t + nI 1)) :: (13, .int (down ||| (nI 1 <<< (nI t &&& 31)))) :: (12, .int (up ||| nI 0)) :: (11, .int zz) :: (10, .int cc) :: (9, .int mm) :: pl_P x y) [] (pd_X q on ze le re tr u S T H G L (upd (upd f len (nI 45)) (len + 1) (nI (48 + t))) (len + 1 + 1))) : cw_W l mm_L_reads 5 101 h0 (some (.int (nI 1))) hf 0 0 146 ((15, .int (nI 1)) :: (14, .int (nI t)) :: (13, .int down) :: (12, .int up) :: (11, .int zz) :: (10, .int cc) :: (9, .int mm) :: pl_P x y) [] (pd_X q on ze le re tr u S T H G L f len) := by
  have e48 : (nI 48 + nI t).toInt64 = lN (48 + t) := by rw [nI_add, nI_l (by omega)]
  have u1 := px_put (l := l) (u := u) (N := S) (T := T) (H := H) (G := G) (f := f) (L := L) (q := q) (on := on) (ze := ze) (le := le) (re := re) (tr := tr) (ch := 45) (n := len) (by omega) (by omega) (by omega)
  rw [← i64_45] at u1
  have u2 := px_put (l := l) (u := u) (N := S) (T := T) (H := H) (G := G) (f := (upd f len (nI 45))) (L := L) (q := q) (on := on) (ze := ze) (le := le) (re := re) (tr := tr) (ch := 48 + t) (n := len + 1) (by omega) (by omega) (by omega)
  rw [← e48] at u2
  exact cw_run cw_kL_reads cw_z 38 [true, false, false, true, true, false] [] [(_, _), (_, _)] (And.intro (eud) (And.intro ((show ¬ ¬ nI 1 = nI 1 from fun z => z rfl)) (And.intro (u1) (And.intro (Nat.le_refl _) (And.intro ((show ¬ nI (len + 1) < nI 1 from nI_nlt (by omega) (by omega))) (And.intro (u2) (And.intro (Nat.le_refl _) (And.intro ((show nI 1 ≤ nI (len + 1 + 1) from nI_le (by omega) (by omega))) (And.intro ((show ¬ nI 1 = 0 by decide)) (And.intro ((show ¬ ¬ nI 1 = nI 1 from fun z => z rfl)) (cw_less [0, 1, 2, 4, 5, 6, 7, 8, 9, 10, 11, 12, 13, 14, 15] rfl w)))))))))))
theorem pd_w0z {f : Nat → Int32} {len t : Nat} {up down zz cc mm x y : Int32} {hf : cw_H} (hl : len + 3 < 60) (h1 : 1 ≤ t) (ht : t ≤ 9) (eud : (up ||| down) = 0) (w : cw_W l mm_L_reads 5 101 h0 (some (.int (nI 1))) hf 0 0 82 ((14, .int (nI t + nI 1)) :: (13, .int (down ||| nI 0)) :: (12, .int (up ||| (nI 1 <<< (nI t &&& 31)))) :: (11, .int zz) :: (10, .int cc) :: (9, .int mm) :: pl_P x y) [] (pd_X q on ze le re tr u S T H G L (upd f len (nI (48 + t))) (len + 1))) : cw_W l mm_L_reads 5 101 h0 (some (.int (nI 1))) hf 0 0 146 ((15, .int (nI 0)) :: (14, .int (nI t)) :: (13, .int down) :: (12, .int up) :: (11, .int zz) :: (10, .int cc) :: (9, .int mm) :: pl_P x y) [] (pd_X q on ze le re tr u S T H G L f len) := by
  have e48 : (nI 48 + nI t).toInt64 = lN (48 + t) := by rw [nI_add, nI_l (by omega)]
  have u1 := px_put (l := l) (u := u) (N := S) (T := T) (H := H) (G := G) (f := f) (L := L) (q := q) (on := on) (ze := ze) (le := le) (re := re) (tr := tr) (ch := 48 + t) (n := len) (by omega) (by omega) (by omega)
  rw [← e48] at u1
  exact cw_run cw_kL_reads cw_z 33 [true, true, true, false, true] [] [(_, _)] (And.intro (eud) (And.intro ((show ¬ nI 0 = nI 1 by decide)) (And.intro (u1) (And.intro (Nat.le_refl _) (And.intro ((show nI 1 ≤ nI (len + 1) from nI_le (by omega) (by omega))) (And.intro ((show ¬ ¬ nI 0 = 0 from fun z => z rfl)) (And.intro ((show ¬ nI 0 = nI 1 by decide)) (cw_less [0, 1, 2, 4, 5, 6, 7, 8, 9, 10, 11, 12, 13, 14, 15] rfl w))))))))
theorem pd_w1n {f : Nat → Int32} {len t : Nat} {up down zz cc mm x y : Int32} {hf : cw_H} (hl : len + 3 < 60) (h1 : 1 ≤ t) (ht : t ≤ 9) (eud : ¬ (up ||| down) = 0) (w : cw_W l mm_L_reads 5 101 h0 (some (.int (nI 1))) hf 0 0 82 ((14, .int (nI t + nI 1)) :: (13, .int (down ||| (nI 1 <<< (nI t &&& 31)))) :: (12, .int (up ||| nI 0)) :: (11, .int zz) :: (10, .int cc) :: (9, .int mm) :: pl_P x y) [] (pd_X q on ze le re tr u S T H G L (upd (upd (upd f len (nI 44)) (len + 1) (nI 45)) (len + 1 + 1) (nI (48 + t))) (len + 1 + 1 + 1))) : cw_W l mm_L_reads 5 101 h0 (some (.int (nI 1))) hf 0 0 146 ((15, .int (nI 1)) :: (14, .int (nI t)) :: (13, .int down) :: (12, .int up) :: (11, .int zz) :: (10, .int cc) :: (9, .int mm) :: pl_P x y) [] (pd_X q on ze le re tr u S T H G L f len) := by
  have e48 : (nI 48 + nI t).toInt64 = lN (48 + t) := by rw [nI_add, nI_l (by omega)]
  have u1 := px_put (l := l) (u := u) (N := S) (T := T) (H := H) (G := G) (f := f) (L := L) (q := q) (on := on) (ze := ze) (le := le) (re := re) (tr := tr) (ch := 44) (n := len) (by omega) (by omega) (by omega)
  rw [← i64_44] at u1
  have u2 := px_put (l := l) (u := u) (N := S) (T := T) (H := H) (G := G) (f := (upd f len (nI 44))) (L := L) (q := q) (on := on) (ze := ze) (le := le) (re := re) (tr := tr) (ch := 45) (n := len + 1) (by omega) (by omega) (by omega)
  rw [← i64_45] at u2
  have u3 := px_put (l := l) (u := u) (N := S) (T := T) (H := H) (G := G) (f := (upd (upd f len (nI 44)) (len + 1) (nI 45))) (L := L) (q := q) (on := on) (ze := ze) (le := le) (re := re) (tr := tr) (ch := 48 + t) (n := len + 1 + 1) (by omega) (by omega) (by omega)
  rw [← e48] at u3
  exact cw_run cw_kL_reads cw_z 43 [false, false, false, false, true, true, false] [] [(_, _), (_, _), (_, _)] (And.intro (eud) (And.intro (u1) (And.intro (Nat.le_refl _) (And.intro ((show ¬ nI (len + 1) < nI 1 from nI_nlt (by omega) (by omega))) (And.intro ((show ¬ ¬ nI 1 = nI 1 from fun z => z rfl)) (And.intro (u2) (And.intro (Nat.le_refl _) (And.intro ((show ¬ nI (len + 1 + 1) < nI 1 from nI_nlt (by omega) (by omega))) (And.intro (u3) (And.intro (Nat.le_refl _) (And.intro ((show nI 1 ≤ nI (len + 1 + 1 + 1) from nI_le (by omega) (by omega))) (And.intro ((show ¬ nI 1 = 0 by decide)) (And.intro ((show ¬ ¬ nI 1 = nI 1 from fun z => z rfl)) (cw_less [0, 1, 2, 4, 5, 6, 7, 8, 9, 10, 11, 12, 13, 14, 15] rfl w))))))))))))))
theorem pd_w0n {f : Nat → Int32} {len t : Nat} {up down zz cc mm x y : Int32} {hf : cw_H} (hl : len + 3 < 60) (h1 : 1 ≤ t) (ht : t ≤ 9) (eud : ¬ (up ||| down) = 0) (w : cw_W l mm_L_reads 5 101 h0 (some (.int (nI 1))) hf 0 0 82 ((14, .int (nI t + nI 1)) :: (13, .int (down ||| nI 0)) :: (12, .int (up ||| (nI 1 <<< (nI t &&& 31)))) :: (11, .int zz) :: (10, .int cc) :: (9, .int mm) :: pl_P x y) [] (pd_X q on ze le re tr u S T H G L (upd (upd f len (nI 44)) (len + 1) (nI (48 + t))) (len + 1 + 1))) : cw_W l mm_L_reads 5 101 h0 (some (.int (nI 1))) hf 0 0 146 ((15, .int (nI 0)) :: (14, .int (nI t)) :: (13, .int down) :: (12, .int up) :: (11, .int zz) :: (10, .int cc) :: (9, .int mm) :: pl_P x y) [] (pd_X q on ze le re tr u S T H G L f len) := by
  have e48 : (nI 48 + nI t).toInt64 = lN (48 + t) := by rw [nI_add, nI_l (by omega)]
  have u1 := px_put (l := l) (u := u) (N := S) (T := T) (H := H) (G := G) (f := f) (L := L) (q := q) (on := on) (ze := ze) (le := le) (re := re) (tr := tr) (ch := 44) (n := len) (by omega) (by omega) (by omega)
  rw [← i64_44] at u1
  have u2 := px_put (l := l) (u := u) (N := S) (T := T) (H := H) (G := G) (f := (upd f len (nI 44))) (L := L) (q := q) (on := on) (ze := ze) (le := le) (re := re) (tr := tr) (ch := 48 + t) (n := len + 1) (by omega) (by omega) (by omega)
  rw [← e48] at u2
  exact cw_run cw_kL_reads cw_z 38 [false, false, true, true, false, true] [] [(_, _), (_, _)] (And.intro (eud) (And.intro (u1) (And.intro (Nat.le_refl _) (And.intro ((show ¬ nI (len + 1) < nI 1 from nI_nlt (by omega) (by omega))) (And.intro ((show ¬ nI 0 = nI 1 by decide)) (And.intro (u2) (And.intro (Nat.le_refl _) (And.intro ((show nI 1 ≤ nI (len + 1 + 1) from nI_le (by omega) (by omega))) (And.intro ((show ¬ ¬ nI 0 = 0 from fun z => z rfl)) (And.intro ((show ¬ nI 0 = nI 1 by decide)) (cw_less [0, 1, 2, 4, 5, 6, 7, 8, 9, 10, 11, 12, 13, 14, 15] rfl w)))))))))))
end PD
end
section
/-! p24: one clause written, and all of them -/
section PD
variable {l : Launch} {q on ze le re tr : Nat → Int32} {u : Int32} {S T : cs_S} {H G : Nat → Option Nat} {L : List cs_S} {h0 : cw_H} {Good : cw_H → Prop}
theorem pd_loop {th c : Nat} (hth : q 0 = nI th) (h9 : th ≤ 9) (hc2 : c ≤ 2) {zz x y mm : Int32} {tl : cs_S → cs_S} (K : ∀ f len cur up down, pd_I th c (th + 1) len f cur up down tl → ¬ cur = 0 → pq_W l h0 Good 241 ((14, .int (nI (th + 1))) :: (13, .int down) :: (12, .int up) :: (11, .int zz) :: (10, .int (nI c)) :: (9, .int mm) :: pl_P x y) (pd_X q on ze le re tr u S T H G L f len)) : ∀ n t f len cur up down, t + n = th + 1 → 1 ≤ t → pd_I th c t len f cur up down tl → (t = th + 1 → ¬ cur = 0) → pq_W l h0 Good 82 ((14, .int (nI t)) :: (13, .int down) :: (12, .int up) :: (11, .int zz) :: (10, .int (nI c)) :: (9, .int mm) :: pl_P x y) (pd_X q on ze le re tr u S T H G L f len) := by
  intro n
  induction n with
  | zero =>
    intro t f len cur up down ht h1 hI hz
    obtain rfl : t = th + 1 := by omega
    obtain ⟨hf, hg, w⟩ := K f len cur up down hI (hz rfl)
    exact ⟨hf, hg, cw_run cw_kL_reads cw_z 5 [true] [_] [] (And.intro (rfl) (And.intro (Nat.le_of_ble_eq_true rfl) (And.intro ((show q 0 < nI (th + 1) by rw [hth]; exact nI_lt (by omega) (by omega))) (w))))⟩
  | succ n ih =>
    intro t f len cur up down ht h1 hI hz
    have tk : t ≤ th := by omega
    have m0 : ¬ q 0 < nI t := by rw [hth]; exact nI_nlt (by omega) (by omega)
    have hI0 := hI
    obtain ⟨a1, a2, a3, a4, a5, a6, g, Ld, b1, b2, b3⟩ := hI
    have ez := pd_zero h9 a1 a2
    have ehi := pd_hi h9 a1 a2
    obtain ⟨r1, hr1, er1⟩ := pl_low_nI (zz >>> (nI t &&& 31)) (n := 5) (by omega) (by omega)
    obtain ⟨r2, hr2, er2⟩ := pl_low_nI zz (n := 2) (by omega) (by omega)
    have w5 := pl_low_ok l (pd_X q on ze le re tr u S T H G L f len) (zz >>> (nI t &&& 31)) (n := 5) (by omega) (by omega)
    have w2 := pl_low_ok l (pd_X q on ze le re tr u S T H G L f len) zz (n := 2) (by omega) (by omega)
    rw [er1] at w5
    rw [er2] at w2
    obtain ⟨kd, hk5, hkd, s125⟩ : ∃ kd, kd < 5 ∧ (t = th → cur = 0 → kd ≤ 1) ∧ ∀ hf : cw_H, cw_W l mm_L_reads 5 101 h0 (some (.int (nI 1))) hf 0 0 125 ((15, .int (nI kd)) :: (14, .int (nI t)) :: (13, .int down) :: (12, .int up) :: (11, .int zz) :: (10, .int (nI c)) :: (9, .int mm) :: pl_P x y) [] (pd_X q on ze le re tr u S T H G L f len) → cw_W l mm_L_reads 5 101 h0 (some (.int (nI 1))) hf 0 0 82 ((14, .int (nI t)) :: (13, .int down) :: (12, .int up) :: (11, .int zz) :: (10, .int (nI c)) :: (9, .int mm) :: pl_P x y) [] (pd_X q on ze le re tr u S T H G L f len) := by
      by_cases e1 : t = th
      · by_cases e2 : cur = 0
        · exact ⟨r2, by omega, fun _ _ => by omega, fun hf w => cw_run cw_kL_reads cw_z 24 [false, false, false] [_, _] [(_, _), (_, _)] (And.intro (rfl) (And.intro (Nat.le_of_ble_eq_true rfl) (And.intro (m0) (And.intro (w5) (And.intro (Nat.le_refl _) (And.intro (rfl) (And.intro (Nat.le_of_ble_eq_true rfl) (And.intro ((show ¬ ¬ nI t = q 0 from fun z => z (by rw [hth, e1]))) (And.intro ((show ¬ ¬ (up ||| down) = 0 from fun z => z (ez.mpr e2))) (And.intro (w2) (And.intro (Nat.le_refl _) (w))))))))))))⟩
        · exact ⟨r1, hr1, fun _ z => absurd z e2, fun hf w => cw_run cw_kL_reads cw_z 20 [false, false, true] [_, _] [(_, _)] (And.intro (rfl) (And.intro (Nat.le_of_ble_eq_true rfl) (And.intro (m0) (And.intro (w5) (And.intro (Nat.le_refl _) (And.intro (rfl) (And.intro (Nat.le_of_ble_eq_true rfl) (And.intro ((show ¬ ¬ nI t = q 0 from fun z => z (by rw [hth, e1]))) (And.intro ((show ¬ (up ||| down) = 0 from fun z => e2 (ez.mp z))) (w))))))))))⟩
      · exact ⟨r1, hr1, fun z => absurd z e1, fun hf w => cw_run cw_kL_reads cw_z 16 [false, true] [_, _] [(_, _)] (And.intro (rfl) (And.intro (Nat.le_of_ble_eq_true rfl) (And.intro (m0) (And.intro (w5) (And.intro (Nat.le_refl _) (And.intro (rfl) (And.intro (Nat.le_of_ble_eq_true rfl) (And.intro ((show ¬ nI t = q 0 from fun z => e1 ((nI_eq (by omega) (by omega)).mp (z.trans hth)))) (w)))))))))⟩
    by_cases k1 : 1 < kd
    · -- not taken
      obtain ⟨hf, hg, w⟩ := ih (t + 1) f len cur up down (by omega) (by omega) (pd_mono hI0) (fun e z => by have := hkd (by omega) z; omega)
      rw [← nI_add t 1] at w
      exact ⟨hf, hg, s125 hf (cw_run cw_kL_reads cw_z 5 [true] [] [] (And.intro (nI_lt k1 (by omega)) (cw_less [0, 2, 3, 4, 5, 6, 7, 8, 9, 10, 11, 12, 13, 14, 15] rfl w)))⟩
    · have k0 : ¬ nI 1 < nI kd := nI_nlt (by omega) (by omega)
      have wb := pl_bits l (pd_X q on ze le re tr u S T H G L f len) ehi
      by_cases k4 : fb_ct (bt (up ||| down)) 10 = 4
      · -- enough signs
        obtain ⟨hf, hg, w⟩ := ih (t + 1) f len cur up down (by omega) (by omega) (pd_mono hI0) (fun e z => by
          have e0 := ez.mpr z
          rw [e0, fb_ct_zero.mpr (fun k _ => b_0 k)] at k4
          omega)
        rw [← nI_add t 1] at w
        rw [k4] at wb
        exact ⟨hf, hg, s125 hf (cw_run cw_kL_reads cw_z 12 [false, false] [] [(_, _)] (And.intro (k0) (And.intro (wb) (And.intro (Nat.le_refl _) (And.intro ((show ¬ ¬ nI 4 = nI 4 from fun z => z rfl)) (cw_less [0, 2, 3, 4, 5, 6, 7, 8, 9, 10, 11, 12, 13, 14, 15] rfl w))))))⟩
      · have n4 : ¬ nI (fb_ct (bt (up ||| down)) 10) = nI 4 := fun z => k4 ((nI_eq (by omega) (by omega)).mp z)
        have g9 : g ≤ 9 := by omega
        have s146 : ∀ hf : cw_H, cw_W l mm_L_reads 5 101 h0 (some (.int (nI 1))) hf 0 0 146 ((15, .int (nI kd)) :: (14, .int (nI t)) :: (13, .int down) :: (12, .int up) :: (11, .int zz) :: (10, .int (nI c)) :: (9, .int mm) :: pl_P x y) [] (pd_X q on ze le re tr u S T H G L f len) → cw_W l mm_L_reads 5 101 h0 (some (.int (nI 1))) hf 0 0 82 ((14, .int (nI t)) :: (13, .int down) :: (12, .int up) :: (11, .int zz) :: (10, .int (nI c)) :: (9, .int mm) :: pl_P x y) [] (pd_X q on ze le re tr u S T H G L f len) := fun hf w => s125 hf (cw_run cw_kL_reads cw_z 9 [false, true] [] [(_, _)] (And.intro (k0) (And.intro (wb) (And.intro (Nat.le_refl _) (And.intro (n4) (w))))))
        by_cases e2 : cur = 0
        · have eud := ez.mpr e2
          rw [decide_eq_false (fun z => z e2)] at b3
          by_cases kk : kd = 1
          · have p2 := pt_digit (pt_minus b3) h1 (show t ≤ 9 by omega) b2 g9
            have hI2 := pd_new h9 h1 tk a1 a2 a3 a4 k4 a5 true (show len + 1 + 1 ≤ len + 3 by omega) (pd_chr (pd_chr a6 (by omega)) (by omega)) b1 p2
            obtain ⟨hf, hg, w⟩ := ih (t + 1) _ _ _ _ _ (by omega) (by omega) hI2 (fun _ => (pd_sets h9 h1 tk a1 a2 a3 true).2.2.2.2)
            rw [← nI_add t 1] at w
            subst kk
            exact ⟨hf, hg, s146 hf (pd_w1z (by omega) h1 (by omega) eud w)⟩
          · obtain rfl : kd = 0 := by omega
            have p2 := pt_digit b3 h1 (show t ≤ 9 by omega) b2 g9
            have hI2 := pd_new h9 h1 tk a1 a2 a3 a4 k4 a5 false (show len + 1 ≤ len + 3 by omega) (pd_chr a6 (by omega)) b1 p2
            obtain ⟨hf, hg, w⟩ := ih (t + 1) _ _ _ _ _ (by omega) (by omega) hI2 (fun _ => (pd_sets h9 h1 tk a1 a2 a3 false).2.2.2.2)
            rw [← nI_add t 1] at w
            exact ⟨hf, hg, s146 hf (pd_w0z (by omega) h1 (by omega) eud w)⟩
        · have eud : ¬ (up ||| down) = 0 := fun z => e2 (ez.mp z)
          rw [decide_eq_true e2] at b3
          have p1 := pt_comma b3 (show Ld < 9 by omega)
          by_cases kk : kd = 1
          · have p2 := pt_digit (pt_minus p1) h1 (show t ≤ 9 by omega) b2 g9
            have hI2 := pd_new h9 h1 tk a1 a2 a3 a4 k4 a5 true (show len + 1 + 1 + 1 ≤ len + 3 by omega) (pd_chr (pd_chr (pd_chr a6 (by omega)) (by omega)) (by omega)) b1 p2
            obtain ⟨hf, hg, w⟩ := ih (t + 1) _ _ _ _ _ (by omega) (by omega) hI2 (fun _ => (pd_sets h9 h1 tk a1 a2 a3 true).2.2.2.2)
            rw [← nI_add t 1] at w
            subst kk
            exact ⟨hf, hg, s146 hf (pd_w1n (by omega) h1 (by omega) eud w)⟩
          · obtain rfl : kd = 0 := by omega
            have p2 := pt_digit p1 h1 (show t ≤ 9 by omega) b2 g9
            have hI2 := pd_new h9 h1 tk a1 a2 a3 a4 k4 a5 false (show len + 1 + 1 ≤ len + 3 by omega) (pd_chr (pd_chr a6 (by omega)) (by omega)) b1 p2
            obtain ⟨hf, hg, w⟩ := ih (t + 1) _ _ _ _ _ (by omega) (by omega) hI2 (fun _ => (pd_sets h9 h1 tk a1 a2 a3 false).2.2.2.2)
            rw [← nI_add t 1] at w
            exact ⟨hf, hg, s146 hf (pd_w0n (by omega) h1 (by omega) eud w)⟩
end PD
theorem rd_tl_snoc (td : Nat → Int32) : ∀ n m S, rd_tl td (n + 1) m S = cs_tell (rd_tl td n m S) (td (m + n))
  | 0, m, S => rfl
  | n + 1, m, S => by
    show rd_tl td (n + 1) (m + 1) (cs_tell S (td m)) = _
    rw [rd_tl_snoc td n (m + 1), show m + 1 + n = m + (n + 1) by omega]
    rfl
theorem rd_tl_cong {td td' : Nat → Int32} : ∀ n m S, (∀ i, m ≤ i → i < m + n → td' i = td i) → rd_tl td' n m S = rd_tl td n m S
  | 0, _, _, _ => rfl
  | n + 1, m, S, h => by
    show rd_tl td' n (m + 1) (cs_tell S (td' m)) = rd_tl td n (m + 1) (cs_tell S (td m))
    rw [h m (Nat.le_refl _) (by omega)]
    exact rd_tl_cong n (m + 1) _ (fun i h1 h2 => h i (by omega) (by omega))
/-- c clauses are written: their text, the law's rows -/
def pe_I (th t0 c len : Nat) (f on ze on' ze' : Nat → Int32) (cls : Nat → Int32) : Prop := len ≤ 13 * c ∧ (∀ k, k < len → cp_c1 (f k)) ∧ (∀ k, k < t0 → on' k = on k ∧ ze' k = ze k) ∧ (∀ i, i < c → pr_c (cls i) (on' (t0 + i)) (ze' (t0 + i)) ∧ cr_c th (cls i)) ∧ (c = 0 → len = 0) ∧ ∀ d, c = d + 1 → ∃ g L, g ≤ th ∧ L ≤ 9 ∧ pt_S f len L true false (cls d) false g (rd_tl cls d 0) c
section PE
variable {l : Launch} {q on ze le re tr : Nat → Int32} {u : Int32} {S T : cs_S} {H G : Nat → Option Nat} {L : List cs_S} {h0 : cw_H} {Good : cw_H → Prop}
theorem pe_step {th t0 c len len2 : Nat} {f f2 on' ze' : Nat → Int32} {cls : Nat → Int32} {cur up down : Int32} (h9 : th ≤ 9) (hI : pe_I th t0 c len f on ze on' ze' cls) {tl : cs_S → cs_S} (htl : ∀ S, tl S = rd_tl cls c 0 S) (hD : pd_I th c (th + 1) len2 f2 cur up down tl) (hn : ¬ cur = 0) : pe_I th t0 (c + 1) len2 f2 on ze (upd on' (t0 + c) up) (upd ze' (t0 + c) down) (fun i => if i = c then cur else cls i) := by
  obtain ⟨b1, b2, b3, b4, b5, b6, g, Ld, c1, c2, c3⟩ := hD
  obtain ⟨a1, a2, a3, a4, a5, a6⟩ := hI
  rw [decide_eq_true hn] at c3
  refine ⟨by omega, b6, fun k hk => ?_, fun i hi => ?_, fun z => by omega, fun d hd => ⟨g, Ld, c1, by omega, ?_⟩⟩
  · rw [pk_un (by omega), pk_un (by omega)]; exact a3 k hk
  · by_cases e : i = c
    · subst e
      dsimp only
      rw [pk_us, pk_us, if_pos rfl]; exact ⟨b1, b2⟩
    · dsimp only
      rw [pk_un (by omega), pk_un (by omega), if_neg e]; exact a4 i (by omega)
  · obtain rfl : d = c := by omega
    dsimp only
    rw [if_pos rfl]
    have e : (rd_tl (fun i => if i = d then cur else cls i) d 0) = tl := by
      funext S
      rw [htl, rd_tl_cong d 0 S (fun i h1 h2 => if_neg (by omega))]
    rw [e]
    exact c3
set_option maxRecDepth 10000 in
theorem pe_loop {th t0 many : Nat} (hth : q 0 = nI th) (h9 : th ≤ 9) (th1 : 1 ≤ th) (hm : many ≤ 3) (h3 : q 3 = nI t0) (ht0 : t0 ≤ 20) {x y : Int32} (K : ∀ f len on' ze' cls, pe_I th t0 many len f on ze on' ze' cls → pq_W l h0 Good 269 ((10, .int (nI many)) :: (9, .int (nI many)) :: pl_P x y) (pd_X q on' ze' le re tr u S T H G L f len)) : ∀ n c f len on' ze' cls, c + n = many → pe_I th t0 c len f on ze on' ze' cls → pq_W l h0 Good 30 ((10, .int (nI c)) :: (9, .int (nI many)) :: pl_P x y) (pd_X q on' ze' le re tr u S T H G L f len) := by
  intro n
  induction n with
  | zero =>
    intro c f len on' ze' cls hc hI
    obtain rfl : c = many := by omega
    obtain ⟨hf, hg, w⟩ := K f len on' ze' cls hI
    exact ⟨hf, hg, cw_run cw_kL_reads cw_z 3 [true] [] [] (And.intro (Int32.le_refl _) (w))⟩
  | succ n ih =>
    intro c f len on' ze' cls hc hI
    have m0 : ¬ nI many ≤ nI c := nI_ge (by omega) (by omega)
    have hI0 := hI
    obtain ⟨a1, a2, a3, a4, a5, a6⟩ := hI
    obtain ⟨zz, s61⟩ : ∃ zz : Int32, ∀ hf : cw_H, cw_W l mm_L_reads 5 101 h0 (some (.int (nI 1))) hf 0 0 61 ((13, .int (nI 0)) :: (12, .int (nI 0)) :: (11, .int zz) :: (10, .int (nI c)) :: (9, .int (nI many)) :: pl_P x y) [] (pd_X q on' ze' le re tr u S T H G L f len) → cw_W l mm_L_reads 5 101 h0 (some (.int (nI 1))) hf 0 0 30 ((10, .int (nI c)) :: (9, .int (nI many)) :: pl_P x y) [] (pd_X q on' ze' le re tr u S T H G L f len) := by
      by_cases e : c = 1
      · exact ⟨y, fun hf w => cw_run cw_kL_reads cw_z 13 [false, false] [] [] (And.intro (m0) (And.intro ((show ¬ ¬ nI c = nI 1 from fun z => z (by rw [e]))) (w)))⟩
      · exact ⟨x >>> ((nI 4 * nI c) &&& 31), fun hf w => cw_run cw_kL_reads cw_z 16 [false, true] [] [] (And.intro (m0) (And.intro ((show ¬ nI c = nI 1 from fun z => e ((nI_eq (by omega) (by omega)).mp z))) (w)))⟩
    -- behind a clause
    have tail : ∀ {tl : cs_S → cs_S}, (∀ S, tl S = rd_tl cls c 0 S) → ∀ f2 len2 cur up down, pd_I th c (th + 1) len2 f2 cur up down tl → ¬ cur = 0 → pq_W l h0 Good 241 ((14, .int (nI (th + 1))) :: (13, .int down) :: (12, .int up) :: (11, .int zz) :: (10, .int (nI c)) :: (9, .int (nI many)) :: pl_P x y) (pd_X q on' ze' le re tr u S T H G L f2 len2) := by
      intro tl htl f2 len2 cur up down hD hn
      obtain ⟨hf, hg, w⟩ := ih (c + 1) f2 len2 _ _ _ (by omega) (pe_step h9 hI0 htl hD hn)
      rw [← nI_add c 1] at w
      have ei : q 3 + nI c = nI (t0 + c) := by rw [h3, nI_add]
      exact ⟨hf, hg, cw_run cw_kL_reads cw_z 18 [] [_, _, _, _] [] (And.intro (rfl) (And.intro (Nat.le_of_ble_eq_true rfl) (And.intro (ei) (And.intro ((show t0 + c < 61 by omega)) (And.intro (rfl) (And.intro (Nat.le_of_ble_eq_true rfl) (And.intro (ei) (And.intro ((show t0 + c < 61 by omega)) (cw_less [0, 5, 6, 7, 8, 9, 10, 11, 12, 13, 14] rfl w)))))))))⟩
    have zb : ∀ i, ¬ bt (nI 0) i = true := fun i w => by
      rw [show nI 0 = (0 : Int32) from rfl, b_0] at w
      cases w
    have pz : pr_c (nI 0) (nI 0) (nI 0) := fun i hi => ⟨⟨fun w => absurd w (zb _), fun w => absurd w.2 (zb _)⟩, ⟨fun w => absurd w (zb _), fun w => absurd w (zb _)⟩⟩
    have cz : cr_c th (nI 0) := ⟨fun i hi w => absurd w (zb _), fun i _ _ w => absurd w.1 (zb _)⟩
    have lz : ∀ i, i < 32 → bt (nI 0) i = true → i % 10 < 1 := fun i hi w => absurd w (zb _)
    have fz : fb_ct (bt (nI 0 ||| nI 0)) 10 = 0 := fb_ct_zero.mpr (fun k _ => b_0 k)
    match c, a5, a6 with
    | 0, a5, a6 =>
      have l0 := a5 rfl
      subst l0
      have hD : pd_I th 0 1 0 f (nI 0) (nI 0) (nI 0) (fun S => S) := by
        refine ⟨pz, cz, lz, by omega, by omega, a2, 0, 0, by omega, by omega, ?_⟩
        rw [decide_eq_false (show ¬ ¬ nI 0 = (0 : Int32) from fun z => z rfl)]
        exact pt_0 f
      obtain ⟨hf, hg, w⟩ := pd_loop (l := l) (on := on') (ze := ze') (le := le) (re := re) (tr := tr) (u := u) (S := S) (T := T) (H := H) (G := G) (L := L) (x := x) (y := y) (zz := zz) (mm := nI many) hth h9 (by omega) (tail (tl := fun S => S) (fun _ => rfl)) th 1 f 0 (nI 0) (nI 0) (nI 0) (by omega) (by omega) hD (fun z => by omega)
      exact ⟨hf, hg, s61 hf (cw_run cw_kL_reads cw_z 4 [true] [] [] (And.intro ((show nI 0 ≤ 0 by decide)) (w)))⟩
    | d + 1, a5, a6 =>
      obtain ⟨g, Lg, g1, g2, g3⟩ := a6 d rfl
      have p := pt_semi g3
      have hD : pd_I th (d + 1) 1 (len + 1) (upd f len (nI 59)) (nI 0) (nI 0) (nI 0) (fun S => cs_tell (rd_tl cls d 0 S) (cls d)) := by
        refine ⟨pz, cz, lz, by omega, by omega, pd_chr a2 (by omega), g, 0, g1, by omega, ?_⟩
        rw [decide_eq_false (show ¬ ¬ nI 0 = (0 : Int32) from fun z => z rfl)]
        exact p
      obtain ⟨hf, hg, w⟩ := pd_loop (l := l) (on := on') (ze := ze') (le := le) (re := re) (tr := tr) (u := u) (S := S) (T := T) (H := H) (G := G) (L := L) (x := x) (y := y) (zz := zz) (mm := nI many) hth h9 (by omega) (tail (fun S => by rw [rd_tl_snoc, Nat.zero_add])) th 1 _ _ (nI 0) (nI 0) (nI 0) (by omega) (by omega) hD (fun z => by omega)
      have u1 := px_put (l := l) (u := u) (N := S) (T := T) (H := H) (G := G) (f := f) (L := L) (q := q) (on := on') (ze := ze') (le := le) (re := re) (tr := tr) (ch := 59) (n := len) (by omega) (by omega) (by omega)
      rw [← i64_59] at u1
      exact ⟨hf, hg, s61 hf (cw_run cw_kL_reads cw_z 9 [false, true] [] [(_, _)] (And.intro ((show ¬ nI (d + 1) ≤ 0 from nI_nle (by omega) (by omega))) (And.intro (u1) (And.intro (Nat.le_refl _) (And.intro ((show nI 1 ≤ nI (len + 1) from nI_le (by omega) (by omega))) (w))))))⟩
end PE
end
section
/-! p24: the law's reads -/
def pz_f (S : cs_S) : Nat → Int32 := fun j => if j = 0 then cs_th S else if j = 1 then cs_re S else if j = 2 then cs_fi S else if j = 3 then cs_to S else cs_cl S (j - 49)
/-- what is behind clauses that came -/
def rd_Good (T : cs_S) (G : Nat → Option Nat) (L : List cs_S) (le tr : Nat → Int32) (hf : cw_H) : Prop := ∃ (u' : Nat) (S' : cs_S) (H' : Nat → Option Nat) (f' : Nat → Int32) (L' : List cs_S) (q' on' ze' re' fx : Nat → Int32), hf = px_h q' on' ze' le re' tr (cc_h (nI u') S' T H' G f' (nI 0) L') ∧ cc_ok u' H' G L' ∧ L.length ≤ L'.length ∧ L'.length ≤ L.length + 1 ∧ cr S' fx ∧ pr (cs_sp S') S' q' on' ze' le re' tr
section PRD
variable {l : Launch} {q on ze le re tr f : Nat → Int32} {u : Nat} {S T : cs_S} {H G : Nat → Option Nat} {L : List cs_S} {fx : Nat → Int32}
theorem pb_anew (h : cr_I S) (hr : pr (cs_sp S) S q on ze le re tr) : ∀ g, g ≤ cs_g S → pb_n le (fun k => cs_s S k % 10) (-nI 1) g = 0
  | 0, _ => rfl
  | g + 1, hg => by
    have hl := (h.2.2.1.1 g (by omega)).2.2
    have g9 := cr_g9 h
    unfold pb_n
    rw [(hr.2.2.2 g (by omega)).2.1, hl.1, if_neg (fun z => ?_), pb_anew h hr g (by omega)]
    have a : (-nI 1 : Int32) < 0 := by decide
    have b : ¬ nI (cs_l S g) < 0 := nI_pos (by omega)
    exact b (Int32.lt_of_le_of_lt z a)
theorem pr_tell (h : cr S fx) (hr : pr (cs_sp S) S q on ze le re tr) {many : Nat} (hm : cs_t S + many ≤ 20) {cls on' ze' q2 re2 : Nat → Int32} (a3 : ∀ k, k < cs_t S → on' k = on k ∧ ze' k = ze k) (a4 : ∀ i, i < many → pr_c (cls i) (on' (cs_t S + i)) (ze' (cs_t S + i)) ∧ cr_c (cs_k S) (cls i)) (F : pb_F (-nI 1) (pb_n le (fun k => cs_s S k % 10) (-nI 1) (cs_g S)) (cs_g S) (fun k => cs_s S k % 10) (upd q 3 (q 3 + nI many)) re q2 re2) : (∃ fx', cr (cs_anew (rd_tl cls many 0 S)) fx') ∧ pr (cs_sp (cs_anew (rd_tl cls many 0 S))) (cs_anew (rd_tl cls many 0 S)) (pa_q q2) on' ze' le re2 tr := by
  have hI := h.1
  have hB := hI.1.1
  have h9 := cr_k9 hI
  obtain ⟨⟨s1, s2⟩, ⟨s3, s4, s5⟩, s6⟩ := rd_tl_spec cls many 0 S hB.2.1.1 (by omega)
  obtain ⟨S', hS'⟩ : ∃ S', S' = rd_tl cls many 0 S := ⟨_, rfl⟩
  rw [← hS'] at s1 s2 s3 s4 s5 s6 ⊢
  have fk : cs_k S' = cs_k S := by unfold cs_k; rw [s3]
  have hcl : ∀ j, j < cs_t S' → cr_c (cs_k S') (cs_cl S' j) ∧ pr_c (cs_cl S' j) (on' j) (ze' j) := by
    intro j hj
    rw [s2] at hj
    rw [fk, s6 j hj]
    by_cases c : j < cs_t S
    · rw [if_pos c, (a3 j c).1, (a3 j c).2]
      exact ⟨hI.2.1 j (by omega), hr.2.2.1 j (by omega)⟩
    · rw [if_neg c, Nat.zero_add]
      have := a4 (j - cs_t S) (by omega)
      rw [show cs_t S + (j - cs_t S) = j by omega] at this
      exact ⟨this.2, this.1⟩
  have pz : ∀ j, pz_f S' j = if j = 0 then cs_th S' else if j = 1 then cs_re S' else if j = 2 then cs_fi S' else if j = 3 then cs_to S' else cs_cl S' (j - 49) := fun _ => rfl
  refine ⟨⟨_, cr_anew (S := S') (f := pz_f S') ⟨⟨by rw [s2]; exact s1, by omega⟩, ⟨by rw [fk, s3]; exact hB.2.2.2.1, by rw [fk]; exact hI.1.2.1, by omega⟩, by rw [s4]; exact hI.1.2.2.1, by rw [s5]; exact hI.1.2.2.2.1, ⟨rfl, rfl, rfl, rfl⟩, fun k hk => ⟨(hcl k hk).1, ?_⟩⟩⟩, ?_⟩
  · rw [pz, if_neg (by omega), if_neg (by omega), if_neg (by omega), if_neg (by omega), show 49 + k - 49 = k by omega]
  · have fg : cs_g (cs_anew S') = 0 := cs_g_nI (S := cs_anew S') rfl (by omega)
    have fn : cs_n (cs_anew S') = 0 := cs_n_nI (S := cs_anew S') rfl (by omega)
    have ft : cs_t (cs_anew S') = cs_t S' := rfl
    rw [pb_anew hI hr _ (Nat.le_refl _)] at F
    obtain ⟨f7, f6, fj, fb, fr⟩ := F
    obtain ⟨⟨r0, r1, r2, r3, r4, r5, r6, r7, r8, r9⟩, rv, rk, rt⟩ := hr
    have qj : ∀ j, j ≠ 3 → j ≠ 4 → j ≠ 5 → j ≠ 6 → j ≠ 7 → j ≠ 8 → j ≠ 9 → j ≠ 10 → j ≠ 11 → pa_q q2 j = q j := by
      intro j h3 h4 h5 h6 h7 h8 h9 h10 h11
      unfold pa_q
      rw [pk_un h9, pk_un h8, pk_un h6, pk_un h5, pk_un h4, fj j h6 h7 h10 h11, pk_un h3]
    have q3 : pa_q q2 3 = nI (cs_t S + many) := by
      unfold pa_q
      rw [pk_un (by omega), pk_un (by omega), pk_un (by omega), pk_un (by omega), pk_un (by omega), fj 3 (by omega) (by omega) (by omega) (by omega), pk_us, r3, hB.2.1.1, nI_add]
    refine ⟨⟨?_, ?_, ?_, ?_, rfl, rfl, ?_, ?_, rfl, rfl⟩, fun i hi => ⟨?_, ?_⟩, fun k hk => ?_, fun k hk => ?_⟩
    · rw [qj 0 (by omega) (by omega) (by omega) (by omega) (by omega) (by omega) (by omega) (by omega) (by omega), r0]; exact s3.symm
    · rw [qj 1 (by omega) (by omega) (by omega) (by omega) (by omega) (by omega) (by omega) (by omega) (by omega), r1]; exact s4.symm
    · rw [qj 2 (by omega) (by omega) (by omega) (by omega) (by omega) (by omega) (by omega) (by omega) (by omega), r2]; exact s5.symm
    · rw [q3]; exact s1.symm
    · show nI 0 = cs_pl (cs_anew S') (cs_g (cs_anew S'))
      rw [fg]; rfl
    · exact f7
    · show (bt (q2 10) i = true ↔ i < 10 ∧ bt (nI 0) i = true)
      rw [(fb i hi).1, show bt (nI 0) i = false from b_0 i]
      constructor
      · rintro ⟨z1, z2⟩
        obtain ⟨z3, z4⟩ := ((rv i hi).1).mp z1
        obtain ⟨k, hk, e⟩ := (hI.2.2.1.2.2 i hi).mp z4
        exact absurd (show cs_s S k % 10 = i by omega) (z2 k (Nat.zero_le _) hk)
      · rintro ⟨-, z⟩; cases z
    · show (bt (q2 11) i = true ↔ bt (nI 0) (i + 10) = true)
      rw [(fb i hi).2, show bt (nI 0) (i + 10) = false from b_0 _]
      constructor
      · rintro ⟨z1, z2⟩
        have z4 := ((rv i hi).2).mp z1
        rcases Nat.lt_or_ge (i + 10) 32 with w | w
        · obtain ⟨k, hk, e⟩ := (hI.2.2.1.2.2 (i + 10) w).mp z4
          have := cr_sg9 h9 (hI.2.2.1.1 k hk).2.1
          exact absurd (show cs_s S k % 10 = i by omega) (z2 k (Nat.zero_le _) hk)
        · rw [b_big w] at z4; cases z4
      · intro z; cases z
    · rw [ft, fn] at hk
      exact (hcl k hk).2
    · rw [fg] at hk; exact absurd hk (Nat.not_lt_zero k)
theorem pl_reads (hok : cc_ok u H G L) (h : cr S fx) (hr : pr (cs_sp S) S q on ze le re tr) (x y : Int32) : ∃ hf, rd_Good T G L le tr hf ∧ cw_M l mm_L_reads 5 101 [.ref 6, .int x, .int y, .ref 0, .ref 1, .ref 2, .ref 3, .ref 4, .ref 5] (px_h q on ze le re tr (cc_h (nI u) S T H G f (nI 0) L)) (some (.int (nI 1))) hf := by
  have hI := h.1
  have hB := hI.1.1
  have h9 := cr_k9 hI
  obtain ⟨r, hr3, er⟩ := pl_low_nI x (n := 3) (by omega) (by omega)
  have w3 := pl_low_ok l (pd_X q on ze le re tr (nI u) S T H G L f 0) x (n := 3) (by omega) (by omega)
  rw [er] at w3
  have e3 : q 3 = nI (cs_t S) := by rw [hr.1.2.2.2.1]; exact hB.2.1.1
  have e0 : q 0 = nI (cs_k S) := by rw [hr.1.1]; exact hB.2.2.2.1
  have t20 := hB.2.1.2
  have ww := px_wipe (l := l) (u := nI u) (N := S) (T := T) (H := H) (G := G) (f := f) (L := L) (q := q) (on := on) (ze := ze) (le := le) (re := re) (tr := tr) (pl := nI 0)
  by_cases c : cs_t S + (1 + r) ≤ 20
  · obtain ⟨hf, hg, w⟩ := pe_loop (l := l) (q := q) (on := on) (ze := ze) (le := le) (re := re) (tr := tr) (u := nI u) (S := S) (T := T) (H := H) (G := G) (L := L) (h0 := px_h q on ze le re tr (cc_h (nI u) S T H G f (nI 0) L)) (Good := rd_Good T G L le tr) (th := cs_k S) (t0 := cs_t S) (many := 1 + r) (x := x) (y := y) e0 h9 hI.1.2.1 (by omega) e3 t20 (by
      intro f2 len on' ze' cls hE
      obtain ⟨a1, a2, a3, a4, a5, a6⟩ := hE
      obtain ⟨g, Lg, g1, g2, g3⟩ := a6 r (by omega)
      obtain ⟨p1, p2, p3, p4⟩ := pt_end g3
      have esc : cp_sc f2 len 0 = 1 + r := by have := cp_hm_sc f2 len 0 1; omega
      have etl : cp_tl f2 len 0 (nI 0) false (cs_anew S) = cs_anew (rd_tl cls (1 + r) 0 S) := by
        rw [p2, ← rd_tl_anew, Nat.add_comm 1 r, rd_tl_snoc, Nat.zero_add]
      obtain ⟨q2, re2, F, wa⟩ := pl_anew (l := l) (q := upd q 3 (q 3 + nI (1 + r))) (on := on') (ze := ze') (le := le) (re := re) (tr := tr) (x := fun k => cs_s S k % 10) (g := cs_g S) (cr_g9 hI) (fun k hk => pr_x hI hr k hk) (show q 7 = nI (cs_g S) from pr_g7 hI hr)
      obtain ⟨⟨fx', hc'⟩, hr'⟩ := pr_tell h hr c a3 a4 F
      have rd := cc_rd_ok (l := l) (N := S) (T := T) (H := H) (G := G) (f := f2) (L := L) (n := len) (k := u) (by omega) a2 p1 (by rw [p3, hB.2.2.2.1]; exact nI_nlt g1 (by omega)) (by rw [p4, hB.2.1.1, nI_add]; exact nI_nlt c (by omega)) hok hB.2.1.1 (by omega)
      rw [etl] at rd
      obtain ⟨hok', hlen⟩ := cc_ok_rec (N := S) hok
      obtain ⟨hu, hH, hG, -⟩ := hok
      have hok2 := hok'
      obtain ⟨-, hH', hG', -⟩ := hok'
      have eto : cs_to (cs_anew (rd_tl cls (1 + r) 0 S)) = nI (cs_t S + (1 + r)) := (rd_tl_spec cls (1 + r) 0 S hB.2.1.1 (by omega)).1.1
      rw [eto] at rd
      have rdx := px_clsA (q := pa_q q2) (on := on') (ze := ze') (le := le) (re := re2) (tr := tr) rd (cc_rL_len _ _ _ _) hH hG hH' hG'
      refine ⟨_, ⟨cm_ru u + 1, cs_anew (rd_tl cls (1 + r) 0 S), cc_Hr u H L, f2, cc_Lr u H L S, pa_q q2, on', ze', re2, fx', rfl, hok2, cc_rL_len _ _ _ _, hlen, hc', hr'⟩, ?_⟩
      have wx := px_arr (C := cc_h (nI u) S T H G f2 (nI len) L) wa
      have q3 : pa_q q2 3 = nI (cs_t S + (1 + r)) := hr'.1.2.2.2.1.trans eto
      have w288 : cw_W l mm_L_reads 5 101 (px_h q on ze le re tr (cc_h (nI u) S T H G f (nI 0) L)) (some (.int (nI 1))) (px_h (pa_q q2) on' ze' le re2 tr (cc_h (nI (cm_ru u + 1)) (cs_anew (rd_tl cls (1 + r) 0 S)) T (cc_Hr u H L) G f2 (nI 0) (cc_Lr u H L S))) 0 0 288 ((10, .int (nI (1 + r))) :: (9, .int (nI (1 + r))) :: pl_P x y) [.ref 6] (px_h (pa_q q2) on' ze' le re2 tr (cc_h (nI u) S T H G f2 (nI len) L)) := by
        refine cw_callAV (ic := mm_X2_read) (mc' := 5) (ms' := 101) cw_kL_reads (by decide) rfl rfl (Or.inl rfl) (show 0 ≤ 1 by decide) (by decide) rfl (by decide) (show (px_h (pa_q q2) on' ze' le re2 tr (cc_h (nI u) S T H G f2 (nI len) L))[6]? = some _ from rfl) rfl (show 2 < 3 by decide) rdx (by rw [px_len, px_len]; exact Nat.add_le_add_left (cc_lel (cc_rL_len _ _ _ _)) 6) (by rw [px_len, px_len]; exact Nat.add_le_add_left (cc_lel (Nat.le_refl _)) 6) (Nat.le_refl _) (px_wl rfl) (fun v hv => by cases hv) ?_
        exact cw_run cw_kL_reads (by decide) 6 [false] [_] [] (And.intro (rfl) (And.intro (Nat.le_of_ble_eq_true rfl) (And.intro ((fun z => z q3.symm)) (cw_retz cw_kL_reads (by decide) rfl rfl (Or.inr rfl)))))
      exact cw_run cw_kL_reads cw_z 13 [] [_, _] [(_, _)] (And.intro (rfl) (And.intro (Nat.le_of_ble_eq_true rfl) (And.intro (rfl) (And.intro (Nat.le_of_ble_eq_true rfl) (And.intro (wx) (And.intro ((show (px_h (pa_q q2) on' ze' le re2 tr (cc_h (nI u) S T H G f2 (nI len) L)).length ≤ (px_h (upd q 3 (q 3 + nI (1 + r))) on' ze' le re tr (cc_h (nI u) S T H G f2 (nI len) L)).length by rw [px_len, px_len]; exact Nat.le_refl _)) (w288)))))))) (1 + r) 0 f 0 on ze (fun _ => 0) (by omega) ⟨by omega, fun k hk => absurd hk (Nat.not_lt_zero k), fun k _ => ⟨rfl, rfl⟩, fun i hi => absurd hi (Nat.not_lt_zero i), fun _ => rfl, fun d hd => by omega⟩
    refine ⟨hf, hg, cw_enter cw_KL_reads (by decide) (Nat.le_of_ble_eq_true rfl) ?_⟩
    rw [← nI_add 1 r] at w
    exact cw_run cw_kL_reads cw_z 18 [true] [_] [(_, _), (_, _)] (And.intro (ww) (And.intro (Nat.le_refl _) (And.intro (w3) (And.intro (Nat.le_refl _) (And.intro (rfl) (And.intro (Nat.le_of_ble_eq_true rfl) (And.intro ((show q 3 + (nI 1 + nI r) ≤ nI 20 by rw [e3, nI_add, nI_add]; exact nI_le c (by omega))) (w))))))))
  · refine ⟨_, ⟨u, S, H, f, L, q, on, ze, re, fx, rfl, hok, Nat.le_refl _, Nat.le_succ _, h, hr⟩, cw_enter cw_KL_reads (by decide) (Nat.le_of_ble_eq_true rfl) ?_⟩
    exact cw_run cw_kL_reads cw_z 17 [false] [_] [(_, _), (_, _)] (And.intro (ww) (And.intro (Nat.le_refl _) (And.intro (w3) (And.intro (Nat.le_refl _) (And.intro (rfl) (And.intro (Nat.le_of_ble_eq_true rfl) (And.intro ((show ¬ q 3 + (nI 1 + nI r) ≤ nI 20 by rw [e3, nI_add, nI_add]; exact nI_ge (by omega) (by omega))) (cw_retz cw_kL_reads cw_z rfl rfl (Or.inr rfl)))))))))
end PRD
end
section
/-! p24: the law itself over the abstract machine: its script is a place far away, which no cell takes -/
def lw_SC : Nat := 1000000000
def lw_C (p : Program) (s : State) (m : MethodId) (meth : Method) (c : Code) (D : va_G) (cA : Nat → ClassId) (b : Nat) : Prop := cw_X mm_L_law p room_1 s m #[Value.ref b] meth c D cA ∧ (∃ (Ln : Nat) (xs : Nat → Int32), Ln ≤ 260 ∧ va_X b Ln xs s s.heap) ∧ b < s.heap.size
def lw_G (p : Program) (l : Launch) (e : Env) (s : State) (m : MethodId) (below : List Frame) (meth : Method) (c : Code) (D : va_G) (cA : Nat → ClassId) (b : Nat) (Q : State → Prop) (kc ks pc : Nat) (lv : cw_LV) (st : List Value) (h : cw_H) : Prop := cw_G p l e room_1 s m #[Value.ref b] below meth c D cA (fun q => s.heap.size ≤ q) (fun k => k = lw_SC) (fun _ => b) Q 14 kc ks pc lv st h
def lg_wfk (n : Nat) (v : Value) : Prop := match v with
  | .ref k => k < n ∨ k = lw_SC
  | _ => True
theorem lg_L_eq {n : Nat} {lv : cw_LV} (hw : ∀ q ∈ lv, lg_wfk n q.2) {ad ad' : Nat → Nat} (e : ∀ k, k < n ∨ k = lw_SC → ad' k = ad k) : cw_L ad' lv = cw_L ad lv := by
  apply List.map_congr_left
  intro q hq
  have h1 := hw q hq
  have h2 : cw_v ad' q.2 = cw_v ad q.2 := by
    cases hv : q.2 with
    | ref k => rw [hv] at h1; exact congrArg Value.ref (e k h1)
    | _ => rfl
  rw [h2]
def lg_wfkb (n : Nat) (v : Value) : Bool := match v with
  | .ref k => Nat.blt k n || Nat.beq k lw_SC
  | _ => true
theorem lg_wl {n : Nat} {lv : cw_LV} (e : lv.all (fun q => lg_wfkb n q.2) = true) {n' : Nat} (hn : n ≤ n') : ∀ q ∈ lv, lg_wfk n' q.2 := by
  intro q hq
  have h1 := List.all_eq_true.mp e q hq
  cases hv : q.2 with
  | ref k =>
    rw [hv] at h1
    rcases Bool.or_eq_true _ _ ▸ h1 with z | z
    · exact Or.inl (Nat.lt_of_lt_of_le (Nat.le_of_ble_eq_true z) hn)
    · exact Or.inr (Nat.eq_of_beq_eq_true z)
  | _ => trivial
section LG
variable {p : Program} {l : Launch} {e : Env} {s : State} {m : MethodId} {below : List Frame} {meth : Method} {c : Code} {D : va_G} {cA : Nat → ClassId} {b : Nat} {Q : State → Prop}
theorem lw_run {kc ks pc : Nat} {lv : cw_LV} {st : List Value} {h : cw_H} (hC : lw_C p s m meth c D cA b) (hk : kc ≤ 600000 ∧ ks ≤ 7302250) (n : Nat) (ds : List Bool) (js : List Nat) (cs : List (Option Value × cw_H)) (hg : cw_go l mm_L_law n ds js cs pc lv st h (lw_G p l e s m below meth c D cA b Q kc ks)) : lw_G p l e s m below meth c D cA b Q kc ks pc lv st h :=
  cw_go_ok cw_kL_law hC.1 hk (fun q hq => hq) (fun pc lv st h q => q) n ds js cs pc lv st h hg
theorem lg_less {kc ks pc : Nat} {lv lv' : cw_LV} {st : List Value} {h : cw_H} (is : List Nat) (e1 : lv_pick lv is = lv') (k : lw_G p l e s m below meth c D cA b Q kc ks pc lv' st h) : lw_G p l e s m below meth c D cA b Q kc ks pc lv st h := by
  intro ad H locs ls hkp hP hD hS hl
  refine k ad H locs ls hkp hP hD hS (lv_sub hl is ?_)
  rw [← e1]
  simp only [lv_pick, cw_L, List.getElem?_map, List.map_filterMap]
theorem lg_widen {kc ks kc' ks' pc : Nat} {lv : cw_LV} {st : List Value} {h : cw_H} (h1 : kc ≤ kc') (h2 : ks ≤ ks') (k : lw_G p l e s m below meth c D cA b Q kc' ks' pc lv st h) : lw_G p l e s m below meth c D cA b Q kc ks pc lv st h := by
  intro ad H locs ls hkp hP hD hS hl
  exact W.widen h1 h2 (k ad H locs ls hkp hP hD hS hl)
/-- a static method's call, with what it makes -/
theorem lg_callS {ic : cw_I} {mc' ms' kc ks pc idx : Nat} {r : Option Value} {lv : cw_LV} {st : List Value} {h h' : cw_H} (hC : lw_C p s m meth c D cA b) (hk : kc + mc' ≤ 600000 ∧ ks + ms' ≤ 7302250) (hd : cw_look (cw_tb mm_L_law) pc = some (.invokestatic idx, 3)) (hc : cw_look (cw_cls 4) idx = some (1, ic)) (hn : st.length = cw_na ic) (hf : cw_f ic < cw_f mm_L_law)
    (hM : cw_M l ic mc' ms' st.reverse h r h') (hle : h.length ≤ h'.length) (hsc : h'.length ≤ lw_SC) (wl : ∀ q ∈ lv, lg_wfk h.length q.2)
    (kk : lw_G p l e s m below meth c D cA b Q (kc + mc') (ks + ms') (pc + 3) lv r.toList h') : lw_G p l e s m below meth c D cA b Q kc ks pc lv st h := by
  intro ad H locs ls hkp hP hD hS hl
  obtain ⟨hX, -, -⟩ := hC
  obtain ⟨hx, hb, hml, hown, hts, hK, hfr, hlo, -⟩ := hX
  have hdg : decode (cw_b mm_L_law) pc = .ok (.invokestatic idx, 3) := cw_kL_law.1 (pc, .invokestatic idx, 3) (cw_look_mem hd)
  have hlk : cw_okC 4 idx 1 ic := cw_clok 4 (idx, 1, ic) (cw_look_mem hc)
  have hls : ls.size = 14 := hl.1
  have hA1 := cw_A1 hD hS (fun q hq => hq)
  have hkk : ∀ (ad' : Nat → Nat) (H1 : Heap) (locs1 : List Loc), (∀ k, k < h.length ∨ h'.length ≤ k → ad' k = ad k) → va_P D vwCl (cw_w cA ad' h') H1 → va_D (va_A (cw_w cA ad h) H.size) (cw_w cA ad' h') → H.size ≤ H1.size → (∀ q : Nat, q < H.size → ¬ va_A (cw_w cA ad h) H.size q → H1[q]? = H[q]?) → va_S (fun q => s.heap.size ≤ q) s.heap H1 locs1 → W p l e room_1 s m #[Value.ref b] below meth c H1 locs1 (kc + mc') (ks + ms') Q (F0 m (pc + 3) ls ((r.map (cw_v ad')).toList ++ [])) := by
    intro ad' H1 locs1 e1 hP1 hD1 _ _ hS1
    have esc : ad' lw_SC = ad lw_SC := e1 lw_SC (Or.inr hsc)
    have := kk ad' H1 locs1 ls (fun k hk2 => by rw [hk2, esc]; exact hkp lw_SC rfl) hP1 (hD1.weaken (fun _ _ _ h => hA1 _ h)) hS1 (by
      rw [lg_L_eq wl (fun k hk2 => by
        rcases hk2 with z | z
        · exact e1 k (Or.inl z)
        · rw [z]; exact esc)]
      exact hl)
    cases r <;> exact this
  have hst : st.map (cw_v ad) = ((st.reverse.map (cw_v ad))).reverse ++ [] := by
    rw [List.map_reverse, List.reverse_reverse, List.append_nil]
  have hWW : 2 * (F0 m pc ls (st.map (cw_v ad))).monitorRoom + (([] : List Value).map fun v => v.category).sum ≤ 8 := lv_room (Nat.zero_le _)
  have hln : (st.reverse.map (cw_v ad)).length = cw_na ic := by rw [List.length_map, List.length_reverse]; exact hn
  have hR : cw_f ic + 1 ≤ room_1.frames ∧ 8 + (cw_nL ic + 11) + 35 * cw_f ic ≤ room_1.locals ∨ ¬ cw_nL ic ≤ 16 := by
    by_cases h15 : cw_nL ic ≤ 16
    · left; constructor <;> omega
    · right; exact h15
  have hlk' : Cond.methodLink (cw_own 4) idx ic.1 ∈ cw_T ∧ Cond.static ic.1 ∈ cw_T ∧ cw_okI ic := by
    rcases hlk with ⟨h, _⟩ | ⟨_, h⟩ | ⟨h, _⟩ | ⟨h, _⟩ | ⟨h, _⟩ | ⟨h, _⟩ | ⟨h, _⟩ | ⟨h, _⟩ | ⟨h, _⟩ <;> first | exact h | exact absurd h (by decide)
  obtain ⟨h1, h2, h3⟩ := hlk'
  have h3' := h3
  obtain ⟨-, -, k3, k4, k5, k6, k7, k8, k9, k10⟩ := h3
  have hR2 := hR.resolve_right (fun q => q k10)
  refine cw_callG (va_runS (As := st.reverse.map (cw_v ad)) ⟨hx, hb, hml, hown, hts⟩ (hM D cA ad H.size) (n := cw_na ic) ⟨⟨rfl, rfl, hR2.1, hR2.2, pay_in hts (cw_good2 h3'), List.mem_cons_self, hts _ k3, hts _ k4, ⟨k7, k8⟩, fun sig hsig => ?_, hts _ h1⟩, hts _ h2⟩ (cw_pre (i := ic) hK hP hD) rfl hln hls hst hWW hdg hk) hS (fun q _ h => hA1 q h) hA1 hkk
  rw [hsig] at k9; exact (Option.some.inj k9).symm
/-- an instance method's call, with what it makes -/
theorem lg_callV {ic : cw_I} {mc' ms' kc ks pc idx a ci : Nat} {fs : List Value} {r : Option Value} {lv : cw_LV} {st : List Value} {h h' : cw_H} (hC : lw_C p s m meth c D cA b) (hk : kc + mc' ≤ 600000 ∧ ks + ms' ≤ 7302250) (hd : cw_look (cw_tb mm_L_law) pc = some (.invokevirtual idx, 3)) (hc : cw_look (cw_cls 4) idx = some (0, ic)) (hn : st.length = cw_na ic) (hf : cw_f ic < cw_f mm_L_law) (hcell : h[a]? = some (.inr (ci, fs))) (hci : ci = cw_c ic) (hci4 : ci < 3)
    (hM : cw_M l ic mc' ms' (.ref a :: st.reverse) h r h') (hle : h.length ≤ h'.length) (hsc : h'.length ≤ lw_SC) (wl : ∀ q ∈ lv, lg_wfk h.length q.2)
    (kk : lw_G p l e s m below meth c D cA b Q (kc + mc') (ks + ms') (pc + 3) lv r.toList h') : lw_G p l e s m below meth c D cA b Q kc ks pc lv (st ++ [.ref a]) h := by
  intro ad H locs ls hkp hP hD hS hl
  subst hci
  obtain ⟨hX, -, -⟩ := hC
  obtain ⟨hx, hb, hml, hown, hts, hK, hfr, hlo, -⟩ := hX
  have hdg : decode (cw_b mm_L_law) pc = .ok (.invokevirtual idx, 3) := cw_kL_law.1 (pc, .invokevirtual idx, 3) (cw_look_mem hd)
  have hlk : cw_okC 4 idx 0 ic := cw_clok 4 (idx, 0, ic) (cw_look_mem hc)
  have hls : ls.size = 14 := hl.1
  have hA1 := cw_A1 hD hS (fun q hq => hq)
  have hkk : ∀ (ad' : Nat → Nat) (H1 : Heap) (locs1 : List Loc), (∀ k, k < h.length ∨ h'.length ≤ k → ad' k = ad k) → va_P D vwCl (cw_w cA ad' h') H1 → va_D (va_A (cw_w cA ad h) H.size) (cw_w cA ad' h') → H.size ≤ H1.size → (∀ q : Nat, q < H.size → ¬ va_A (cw_w cA ad h) H.size q → H1[q]? = H[q]?) → va_S (fun q => s.heap.size ≤ q) s.heap H1 locs1 → W p l e room_1 s m #[Value.ref b] below meth c H1 locs1 (kc + mc') (ks + ms') Q (F0 m (pc + 3) ls ((r.map (cw_v ad')).toList ++ [])) := by
    intro ad' H1 locs1 e1 hP1 hD1 _ _ hS1
    have esc : ad' lw_SC = ad lw_SC := e1 lw_SC (Or.inr hsc)
    have := kk ad' H1 locs1 ls (fun k hk2 => by rw [hk2, esc]; exact hkp lw_SC rfl) hP1 (hD1.weaken (fun _ _ _ h => hA1 _ h)) hS1 (by
      rw [lg_L_eq wl (fun k hk2 => by
        rcases hk2 with z | z
        · exact e1 k (Or.inl z)
        · rw [z]; exact esc)]
      exact hl)
    cases r <;> exact this
  have hst : (st ++ [Value.ref a]).map (cw_v ad) = ((st.reverse.map (cw_v ad))).reverse ++ .ref (ad a) :: [] := by
    rw [List.map_append, List.map_reverse, List.reverse_reverse]
    rfl
  have hWW : 2 * (F0 m pc ls ((st ++ [Value.ref a]).map (cw_v ad))).monitorRoom + (([] : List Value).map fun v => v.category).sum ≤ 8 := lv_room (Nat.zero_le _)
  have hln : (st.reverse.map (cw_v ad)).length = cw_na ic := by rw [List.length_map, List.length_reverse]; exact hn
  have hR : cw_f ic + 1 ≤ room_1.frames ∧ 8 + (cw_nL ic + 11) + 35 * cw_f ic ≤ room_1.locals ∨ ¬ cw_nL ic ≤ 16 := by
    by_cases h15 : cw_nL ic ≤ 16
    · left; constructor <;> omega
    · right; exact h15
  have hpre := cw_pre (i := ic) (av := .ref a :: st.reverse) hK hP hD
  have hrecv := va_recv (ci := cw_c ic) (q0 := a) hK.1 hP (cw_cl (cw_c ic) hci4) (cw_w_get hcell)
  have hlk' : Cond.methodLink (cw_own 4) idx ic.1 ∈ cw_T ∧ Cond.instanceMethod ic.1 ∈ cw_T ∧ Cond.selects ic.1.cls ic.1 ic.1 ∈ cw_T ∧ cw_okI ic := by
    rcases hlk with ⟨_, h⟩ | ⟨h, _⟩ | ⟨h, _⟩ | ⟨h, _⟩ | ⟨h, _⟩ | ⟨h, _⟩ | ⟨h, _⟩ | ⟨h, _⟩ | ⟨h, _⟩ <;> first | exact h | exact absurd h (by decide)
  obtain ⟨g1, g2, h2s, h3⟩ := hlk'
  have h3' := h3
  obtain ⟨-, -, k3, k4, k5, k6, k7, k8, k9, k10⟩ := h3
  have hR2 := hR.resolve_right (fun q => q k10)
  rw [k5] at h2s
  refine cw_callG (va_runV (C := cw_own (cw_c ic)) (b := ad a) (As := st.reverse.map (cw_v ad)) ⟨hx, hb, hml, hown, hts⟩ (hM D cA ad H.size) (n := cw_na ic) ⟨⟨rfl, rfl, hR2.1, hR2.2, pay_in hts (cw_good2 h3'), List.mem_cons_self, hts _ k3, hts _ k4, ⟨k7, k8⟩, fun sig hsig => ?_, hts _ g1⟩, hts _ g2, hts _ h2s⟩ ⟨hpre.1, hrecv, hpre.2⟩ rfl hln hls hst hWW hdg hk) hS (fun q _ h => hA1 q h) hA1 hkk
  rw [hsig] at k9; exact (Option.some.inj k9).symm
/-- a constructor's call, of what lies alone -/
theorem lg_callI {ic : cw_I} {mc' ms' kc ks pc idx a : Nat} {lv : cw_LV} {rs : List Value} {h h' : cw_H} (hC : lw_C p s m meth c D cA b) (hk : kc + mc' ≤ 600000 ∧ ks + ms' ≤ 7302250) (hd : cw_look (cw_tb mm_L_law) pc = some (.invokespecial idx, 3)) (hc : cw_look (cw_cls 4) idx = some (2, ic)) (hn : cw_na ic = 0) (hf : cw_f ic < cw_f mm_L_law) (hW : (rs.map fun v => v.category).sum ≤ 8)
    (hM : cw_M l ic mc' ms' [.ref a] h none h') (hle : h.length ≤ h'.length) (hsc : h'.length ≤ lw_SC) (wl : ∀ q ∈ lv, lg_wfk h.length q.2) (wr : ∀ v ∈ rs, cw_wfv h.length v)
    (kk : lw_G p l e s m below meth c D cA b Q (kc + mc') (ks + ms') (pc + 3) lv rs h') : lw_G p l e s m below meth c D cA b Q kc ks pc lv (.ref a :: rs) h := by
  intro ad H locs ls hkp hP hD hS hl
  obtain ⟨hX, -, -⟩ := hC
  obtain ⟨hx, hb, hml, hown, hts, hK, hfr, hlo, -⟩ := hX
  have hdg : decode (cw_b mm_L_law) pc = .ok (.invokespecial idx, 3) := cw_kL_law.1 (pc, .invokespecial idx, 3) (cw_look_mem hd)
  have hlk : cw_okC 4 idx 2 ic := cw_clok 4 (idx, 2, ic) (cw_look_mem hc)
  have hls : ls.size = 14 := hl.1
  have hA1 := cw_A1 hD hS (fun q hq => hq)
  have hkk : ∀ (ad' : Nat → Nat) (H1 : Heap) (locs1 : List Loc), (∀ k, k < h.length ∨ h'.length ≤ k → ad' k = ad k) → va_P D vwCl (cw_w cA ad' h') H1 → va_D (va_A (cw_w cA ad h) H.size) (cw_w cA ad' h') → H.size ≤ H1.size → (∀ q : Nat, q < H.size → ¬ va_A (cw_w cA ad h) H.size q → H1[q]? = H[q]?) → va_S (fun q => s.heap.size ≤ q) s.heap H1 locs1 → W p l e room_1 s m #[Value.ref b] below meth c H1 locs1 (kc + mc') (ks + ms') Q (F0 m (pc + 3) ls (((none : Option Value).map (cw_v ad')).toList ++ rs.map (cw_v ad))) := by
    intro ad' H1 locs1 e1 hP1 hD1 _ _ hS1
    have esc : ad' lw_SC = ad lw_SC := e1 lw_SC (Or.inr hsc)
    have e2 : ∀ k, k < h.length → ad' k = ad k := fun k hk2 => e1 k (Or.inl hk2)
    have := kk ad' H1 locs1 ls (fun k hk2 => by rw [hk2, esc]; exact hkp lw_SC rfl) hP1 (hD1.weaken (fun _ _ _ h => hA1 _ h)) hS1 (by
      rw [lg_L_eq wl (fun k hk2 => by
        rcases hk2 with z | z
        · exact e1 k (Or.inl z)
        · rw [z]; exact esc)]
      exact hl)
    rw [cw_st_eq wr e2] at this
    exact this
  have hWW : 2 * (F0 m pc ls ((Value.ref a :: rs).map (cw_v ad))).monitorRoom + ((rs.map (cw_v ad)).map fun v => v.category).sum ≤ 8 := lv_room (by rw [cw_cats]; exact hW)
  have hR : cw_f ic + 1 ≤ room_1.frames ∧ 8 + (cw_nL ic + 11) + 35 * cw_f ic ≤ room_1.locals ∨ ¬ cw_nL ic ≤ 16 := by
    by_cases h15 : cw_nL ic ≤ 16
    · left; constructor <;> omega
    · right; exact h15
  have hpre := cw_pre (i := ic) (av := [.ref a]) hK hP hD
  have hlk' : Cond.methodLink (cw_own 4) idx ic.1 ∈ cw_T ∧ Cond.instanceMethod ic.1 ∈ cw_T ∧ ic.1.name = "<init>" ∧ ic.2.2.2.1 = none ∧ cw_okI ic := by
    rcases hlk with ⟨h, _⟩ | ⟨h, _⟩ | ⟨_, h⟩ | ⟨h, _⟩ | ⟨h, _⟩ | ⟨h, _⟩ | ⟨h, _⟩ | ⟨h, _⟩ | ⟨h, _⟩ <;> first | exact h | exact absurd h (by decide)
  obtain ⟨g1, g2, g3, g4, h3⟩ := hlk'
  have h3' := h3
  obtain ⟨-, -, k3, k4, k5, k6, k7, k8, k9, k10⟩ := h3
  have hR2 := hR.resolve_right (fun q => q k10)
  have hgood := cw_good2 h3'
  have hMM := hM D cA ad H.size
  rw [show cw_r ic = none from g4] at hgood hMM
  rw [g4] at k3
  refine cw_callG (va_runI (b := ad a) (As := []) ⟨hx, hb, hml, hown, hts⟩ hMM (n := 0) ⟨⟨rfl, rfl, hR2.1, hR2.2, pay_in hts hgood, List.mem_cons_self, hts _ k3, hts _ k4, ⟨k7, k8⟩, fun sig hsig => ?_, hts _ g1⟩, g3, hts _ g2⟩ hpre rfl rfl hls rfl hWW hdg hk) hS (fun q _ h => hA1 q h) hA1 hkk
  rw [hsig] at k9; exact hn.symm.trans (Option.some.inj k9).symm
end LG
end
section
/-! p24: what the law makes; its script read; places renamed -/
section LG2
variable {p : Program} {l : Launch} {e : Env} {s : State} {m : MethodId} {below : List Frame} {meth : Method} {c : Code} {D : va_G} {cA : Nat → ClassId} {b : Nat} {Q : State → Prop}
theorem lg_new {kc ks pc idx ci : Nat} {lv : cw_LV} {h : cw_H} (fs : List Value) (hC : lw_C p s m meth c D cA b) (hk : kc + 1 ≤ 600000 ∧ ks + cw_cn ci ≤ 7302250) (hd : cw_look (cw_tb mm_L_law) pc = some (.new idx, 3)) (hn : cw_look (cw_news 4) idx = some ci) (hfs : ∀ j, j < cw_cn ci → defaultValue (cw_ty ci j) = vp_V fs j) (hfv : ∀ ad, fs.map (cw_v ad) = fs) (wl : ∀ q ∈ lv, lg_wfk h.length q.2) (wh : ∀ q ∈ h, cw_wfe h.length q) (hsc : h.length < lw_SC)
    (kk : lw_G p l e s m below meth c D cA b Q (kc + 1) (ks + cw_cn ci) (pc + 3) lv [.ref h.length] (h ++ [.inr (ci, fs)])) : lw_G p l e s m below meth c D cA b Q kc ks pc lv [] h := by
  intro ad H locs ls hkp hP hD hS hl
  obtain ⟨hX, -, -⟩ := hC
  obtain ⟨hx, hb, hml, hown, hts, hKs, hfr, hlo, -⟩ := hX
  have hdg : decode (cw_b mm_L_law) pc = .ok (.new idx, 3) := cw_kL_law.1 (pc, .new idx, 3) (cw_look_mem hd)
  obtain ⟨h4, n1, n2, n3⟩ := cw_nok _ _ (cw_look_mem hn)
  refine va_new (ci := ci) (fs := fs) (C := cw_own ci) (T := cw_FT ci) (N := cw_cn ci) hx hb hts (cw_in_u ci h4) (cw_ty ci) (cw_tyok ci h4) hown (hts _ n1) (hts _ n2) (hts _ n3) hKs.1 hP hD hS (fun q hq => hq) (cw_cl ci h4) hfs hk.1 hk.2 hdg (fun q H1 hP1 hD1 hS1 => ?_)
  have e1 : ∀ k, k < h.length ∨ k = lw_SC → cw_up ad h.length q k = ad k := fun k hk2 => if_neg (by rcases hk2 with z | z <;> omega)
  have ew : cw_w cA (cw_up ad h.length q) (h ++ [.inr (ci, fs)]) = cw_w cA ad h ++ [(q, .inr (ci, fs))] := by
    rw [cw_w_push, cw_w_eq wh (Nat.le_refl _) (fun k hk2 => e1 k (Or.inl hk2))]
    show cw_w cA ad h ++ [(cw_up ad h.length q h.length, Sum.inr (ci, fs.map (cw_v (cw_up ad h.length q))))] = _
    rw [hfv, show cw_up ad h.length q h.length = q from if_pos rfl]
  have := kk (cw_up ad h.length q) H1 locs ls (fun k hk2 => by rw [← hkp k hk2]; exact e1 k (Or.inr hk2)) (by rw [ew]; exact hP1) (by rw [ew]; exact hD1) hS1 (by rw [lg_L_eq wl e1]; exact hl)
  have e2 : cw_v (cw_up ad h.length q) (.ref h.length) = .ref q := congrArg Value.ref (if_pos rfl)
  rw [List.map_cons, List.map_nil, e2] at this
  exact this
theorem lg_newa {kc ks pc N : Nat} {lv : cw_LV} {h : cw_H} (hC : lw_C p s m meth c D cA b) (hk : kc + 1 ≤ 600000 ∧ ks + N ≤ 7302250) (hd : cw_look (cw_tb mm_L_law) pc = some (.newarray .int, 2)) (hN : N ≤ 65536) (wl : ∀ q ∈ lv, lg_wfk h.length q.2) (wh : ∀ q ∈ h, cw_wfe h.length q) (hsc : h.length < lw_SC)
    (kk : lw_G p l e s m below meth c D cA b Q (kc + 1) (ks + N) (pc + 2) lv [.ref h.length] (h ++ [.inl (0, N, .inl (fun _ => 0))])) : lw_G p l e s m below meth c D cA b Q kc ks pc lv [.int (nI N)] h := by
  intro ad H locs ls hkp hP hD hS hl
  obtain ⟨hX, -, -⟩ := hC
  obtain ⟨hx, hb, hml, hown, hts, hKs, hfr, hlo, -⟩ := hX
  have hdg : decode (cw_b mm_L_law) pc = .ok (.newarray .int, 2) := cw_kL_law.1 (pc, .newarray .int, 2) (cw_look_mem hd)
  have hN0 : ¬ nI N < 0 := nI_pos (by omega)
  have hN1 : (nI N).toNatClampNeg = N := nI_clamp (by omega)
  refine va_newa (atype := .int) (ty := .int) (a0 := (N, .inl (fun _ => 0))) hx hb (hts _ cw_g_ai) rfl hKs.1 hP hD hS (fun q hq => hq) (fun _ => rfl) hN0 hN1 (by show N * 4 ≤ _; omega) hk.1 hk.2 hdg (fun q cA' H1 hK1 hP1 hD1 hS1 => ?_)
  have ec : cA' = cA 0 := by
    have g1 : s.vm.findClass ("[" ++ FieldType.int.toString) = some cA' := (hK1.2 3 (cA', .int) rfl).2
    have g2 : s.vm.findClass ("[" ++ FieldType.int.toString) = some (cA 0) := (hKs.1.2 0 (cA 0, .int) rfl).2
    exact Option.some.inj (g1.symm.trans g2)
  subst ec
  have e1 : ∀ k, k < h.length ∨ k = lw_SC → cw_up ad h.length q k = ad k := fun k hk2 => if_neg (by rcases hk2 with z | z <;> omega)
  have ew : cw_w cA (cw_up ad h.length q) (h ++ [.inl (0, N, .inl (fun _ => 0))]) = cw_w cA ad h ++ [(q, .inl (cA 0, N, .inl (fun _ => 0)))] := by
    rw [cw_w_push, cw_w_eq wh (Nat.le_refl _) (fun k hk2 => e1 k (Or.inl hk2))]
    show cw_w cA ad h ++ [(cw_up ad h.length q h.length, _)] = _
    rw [show cw_up ad h.length q h.length = q from if_pos rfl]
    rfl
  have := kk (cw_up ad h.length q) H1 locs ls (fun k hk2 => by rw [← hkp k hk2]; exact e1 k (Or.inr hk2)) (by rw [ew]; exact hP1) (by rw [ew]; exact hD1) hS1 (by rw [lg_L_eq wl e1]; exact hl)
  have e2 : cw_v (cw_up ad h.length q) (.ref h.length) = .ref q := congrArg Value.ref (if_pos rfl)
  rw [List.map_cons, List.map_nil, e2] at this
  exact this
/-- places renamed, one to one -/
theorem lg_perm {kc ks pc : Nat} {lv : cw_LV} {h h2 : cw_H} (π σ : Nat → Nat) (hl2 : h2.length = h.length) (h1 : ∀ k, k < h.length → π k < h.length ∧ σ (π k) = k) (h1' : ∀ k, k < h.length → σ k < h.length ∧ π (σ k) = k) (hsc : σ (π lw_SC) = lw_SC ∧ σ lw_SC = lw_SC) (hm : ∀ k q, h[k]? = some q → h2[π k]? = some (cw_re π q)) (wl : ∀ q ∈ lv, lg_wfk h.length q.2) (wh : ∀ q ∈ h, cw_wfe h.length q)
    (kk : lw_G p l e s m below meth c D cA b Q kc ks pc (lv.map (fun q => (q.1, cw_v π q.2))) [] h2) : lw_G p l e s m below meth c D cA b Q kc ks pc lv [] h := by
  intro ad H locs ls hkp hP hD hS hl
  have e1 : ∀ k, k < h.length → (fun k => ad (σ k)) (π k) = ad k := fun k hk => congrArg ad (h1 k hk).2
  have at2 : ∀ (j : Nat) (x : Nat × va_E), (cw_w cA (fun k => ad (σ k)) h2)[j]? = some x → j < h.length ∧ (cw_w cA ad h)[σ j]? = some x := by
    intro j x hx
    obtain ⟨q2, g1, g2⟩ := cw_w_inv hx
    have hj : j < h.length := by rw [← hl2]; exact cw_lt g1
    obtain ⟨a1, a2⟩ := h1' j hj
    have g3 : h[σ j]? = some (h[σ j]'a1) := List.getElem?_eq_getElem a1
    have g4 := hm _ _ g3
    rw [a2, g1] at g4
    cases g4
    refine ⟨hj, ?_⟩
    rw [cw_w_get g3, g2, cw_e_comp, cw_wfe_eq (wh _ (List.mem_of_getElem? g3)) e1]
  refine kk (fun k => ad (σ k)) H locs ls (fun k hk2 => ?_) (fun j x hx => ?_) ⟨fun i j x y hx hy hxy => ?_, fun j x hx => ?_⟩ hS ?_
  · rw [hk2]
    show ad (σ lw_SC) = b
    rw [hsc.2]; exact hkp lw_SC rfl
  · exact hP _ _ (at2 j x hx).2
  · obtain ⟨i1, i2⟩ := at2 i x hx
    obtain ⟨j1, j2⟩ := at2 j y hy
    have := hD.1 _ _ _ _ i2 j2 hxy
    have := congrArg π this
    rw [(h1' i i1).2, (h1' j j1).2] at this
    exact this
  · exact hD.2 _ _ (at2 j x hx).2
  · have el : cw_L (fun k => ad (σ k)) (lv.map (fun q => (q.1, cw_v π q.2))) = cw_L ad lv := by
      unfold cw_L
      rw [List.map_map]
      apply List.map_congr_left
      intro q hq
      have w := wl q hq
      show (q.1, cw_v (fun k => ad (σ k)) (cw_v π q.2)) = (q.1, cw_v ad q.2)
      rw [cw_v_comp]
      cases hv : q.2 with
      | ref k =>
        rw [hv] at w
        have : ad (σ (π k)) = ad k := by
          rcases w with z | z
          · exact congrArg ad (h1 k z).2
          · rw [z, hsc.1]
        exact congrArg (fun z => (q.1, Value.ref z)) this
      | _ => rfl
    rw [el]; exact hl
theorem pc_d {pc n : Nat} {i : ClassFile.Instr} (h : cw_look (cw_tb mm_L_cell) pc = some (i, n)) : decode (cw_b mm_L_cell) pc = .ok (i, n) := cw_kL_cell.1 (pc, i, n) (cw_look_mem h)
/-- the script is read, whatever it holds -/
theorem pc_cell (l : Launch) {b Ln : Nat} {xs : Nat → Int32} (hL : Ln ≤ 260) {j : Nat} (hj : j < 2 ^ 31) : Met l mm_L_cell.1 (Cond.code mm_L_cell.1 (cw_b mm_L_cell) (cw_nL mm_L_cell) (cw_r mm_L_cell) :: cw_T) ({ frames := cw_f mm_L_cell, cells := 0, slots := 0, locals := 35 * cw_f mm_L_cell }) (va_Pc [.ref b, .int (nI j)] (fun U => va_X b Ln xs U U.heap ∧ b < U.heap.size)) (va_Qi (fun (_ : Int32) (_ : Unit) => True) (fun _ _ => True) (fun _ => False)) 0 0 (fun _ => False) := by
  have hi := cw_KL_cell
  refine Met.ofW (cc := cw_b mm_L_cell) (maxL := cw_nL mm_L_cell) (ret := cw_r mm_L_cell) hi.2.2.2.2.2.1 rfl ?_
  intro p e s m args below meth c s₁ B hml hv
  obtain ⟨rfl, hX, hbl⟩ := hv
  have hts0 := atoms_spec (ws := Cond.code mm_L_cell.1 (cw_b mm_L_cell) (cw_nL mm_L_cell) (cw_r mm_L_cell) :: cw_T) B.pre
  have hts : ∀ w ∈ cw_T, w.before ([Value.ref b, .int (nI j)] : List Value).toArray s = true := fun w hw => hts0 w (List.mem_cons_of_mem _ hw)
  have hown : s.vm.findClass (cw_own 4) = some m.cls := findClass_of_methodNamed B.named
  have hx := B.exec
  have hb := B.bytes
  have hr : meth.sig.returnType = some .int := B.returns
  have hl := lv_entry ([.ref b, .int (nI j)]) (n := cw_nL mm_L_cell) (Nat.le_of_ble_eq_true rfl)
  rw [lg_entry_eq]
  generalize (lg_sl ([Value.ref b, .int (nI j)]) ++ List.replicate (cw_nL mm_L_cell - (lg_sl ([Value.ref b, .int (nI j)])).length) Slot.unset).toArray = ls at hl ⊢
  have hl : lv_has ls (cw_nL mm_L_cell) [(0, .ref b), (1, .int (nI j))] := hl
  have fin : ∀ (v : Int32), W p l e { frames := cw_f mm_L_cell, cells := 0, slots := 0, locals := 35 * cw_f mm_L_cell } s m ([Value.ref b, .int (nI j)] : List Value).toArray below meth c s.heap [] 0 0 (MQ below (va_Qi (fun (_ : Int32) (_ : Unit) => True) (fun _ _ => True) (fun _ => False)) ([Value.ref b, .int (nI j)] : List Value).toArray s 0 0 (fun _ => False)) (F0 m 21 ls [.int v]) := fun v =>
    W.iret hx hb hr (fun t ht hW => ⟨⟨v, (), rfl, trivial, trivial⟩, va_S.rf.F ht⟩) (fun q hq => by cases hq) (pc_d (pc := 21) rfl) B.notSynchronized
  refine lv_iload_n hx hb (pc_d (pc := 0) (n := 1) rfl) rfl (lv_at hl 1 rfl) ?_
  refine lv_aload_n hx hb (pc_d (pc := 1) (n := 1) rfl) rfl (lv_at hl 0 rfl) ?_
  refine va_slen (A := fun _ => False) hx hb hX hbl (fun z => z) va_S.rf (pc_d (pc := 2) (n := 1) rfl) ?_
  refine lv_icmp_ge (tgt := 12) (off := 9) hx hb (pc_d (pc := 3) (n := 3) rfl) (by decide) (fun _ => ?_) (fun hlt => ?_)
  · refine lv_ldc (v := 905037529) hx hb hown (hts _ (cw_cok 4 (7, 905037529) (cw_look_mem rfl))) (pc_d (pc := 12) (n := 2) rfl) ?_
    refine lv_iload_n hx hb (pc_d (pc := 14) (n := 1) rfl) rfl (lv_at hl 1 rfl) ?_
    refine lv_iconst (v := nI 1) hx hb (pc_d (pc := 15) (n := 1) rfl) (by decide) ?_
    refine lv_iadd hx hb (pc_d (pc := 16) (n := 1) rfl) ?_
    refine lv_imul hx hb (pc_d (pc := 17) (n := 1) rfl) ?_
    refine lv_ldc (v := 1316629347) hx hb hown (hts _ (cw_cok 4 (8, 1316629347) (cw_look_mem rfl))) (pc_d (pc := 18) (n := 2) rfl) ?_
    refine lv_iadd hx hb (pc_d (pc := 20) (n := 1) rfl) ?_
    exact fin _
  · have hjL : j < Ln := by
      rcases Nat.lt_or_ge j Ln with z | z
      · exact z
      · exact absurd (nI_le z hj) hlt
    refine lv_aload_n hx hb (pc_d (pc := 6) (n := 1) rfl) rfl (lv_at hl 0 rfl) ?_
    refine lv_iload_n hx hb (pc_d (pc := 7) (n := 1) rfl) rfl (lv_at hl 1 rfl) ?_
    refine va_sld (A := fun _ => False) hx hb hX hbl (fun z => z) va_S.rf (vp_in_nI hjL (by omega)) (pc_d (pc := 8) (n := 1) rfl) ?_
    refine lv_goto (tgt := 21) hx hb (pc_d (pc := 9) (n := 3) rfl) (by decide) ?_
    exact fin _
/-- the law reads its script: any number may come -/
theorem lg_cell {kc ks pc j : Nat} {lv : cw_LV} {h : cw_H} {rest : List Value} (hC : lw_C p s m meth c D cA b) (hk : kc ≤ 600000 ∧ ks ≤ 7302250) (hd : cw_look (cw_tb mm_L_law) pc = some (.invokestatic 76, 3)) (hj : j < 2 ^ 31) (hW : (rest.map fun v => v.category).sum ≤ 8) (kk : ∀ v : Int32, lw_G p l e s m below meth c D cA b Q kc ks (pc + 3) lv (.int v :: rest) h) : lw_G p l e s m below meth c D cA b Q kc ks pc lv (.int (nI j) :: .ref lw_SC :: rest) h := by
  intro ad H locs ls hkp hP hD hS hl
  obtain ⟨hX, ⟨Ln, xs, hL, hscr⟩, hbl⟩ := hC
  obtain ⟨hx, hb, hml, hown, hts, hK, hfr, hlo, -⟩ := hX
  have hdg : decode (cw_b mm_L_law) pc = .ok (.invokestatic 76, 3) := cw_kL_law.1 (pc, .invokestatic 76, 3) (cw_look_mem hd)
  have hlk : cw_okC 4 76 1 mm_L_cell := cw_c4_76
  have hls : ls.size = 14 := hl.1
  have hlk' : Cond.methodLink (cw_own 4) 76 mm_L_cell.1 ∈ cw_T ∧ Cond.static mm_L_cell.1 ∈ cw_T ∧ cw_okI mm_L_cell := by
    rcases hlk with ⟨h, _⟩ | ⟨_, h⟩ | ⟨h, _⟩ | ⟨h, _⟩ | ⟨h, _⟩ | ⟨h, _⟩ | ⟨h, _⟩ | ⟨h, _⟩ | ⟨h, _⟩ <;> first | exact h | exact absurd h (by decide)
  obtain ⟨h1, h2, h3⟩ := hlk'
  have h3' := h3
  obtain ⟨-, -, k3, k4, k5, k6, k7, k8, k9, k10⟩ := h3
  have hbH : H[b]? = s.heap[b]? := hS.2.1 b hbl (Nat.not_le.mpr hbl)
  have hbs : b < H.size := Nat.lt_of_lt_of_le hbl hS.1
  have hpre : FrameBlind (va_Pc [.ref b, .int (nI j)] (fun U => va_X b Ln xs U U.heap ∧ b < U.heap.size)) ∧ ∀ U : State, U.heap = H → s.WarmedH U.vm → va_Pc [.ref b, .int (nI j)] (fun U => va_X b Ln xs U U.heap ∧ b < U.heap.size) ([Value.ref b, .int (nI j)] : List Value).toArray U :=
    ⟨fun a U g mk q => ⟨q.1, va_X.moved (u := U) (U := U.calling g mk a) (Vm.Alike.refl U.vm) q.2.1, q.2.2⟩, fun U hU hW2 => ⟨rfl, by rw [hU]; exact (hscr.kept hbH).moved hW2.alike, by rw [hU]; exact hbs⟩⟩
  have hadb : ad lw_SC = b := hkp lw_SC rfl
  have hst : (Value.int (nI j) :: .ref lw_SC :: rest).map (cw_v ad) = ([Value.ref b, .int (nI j)] : List Value).reverse ++ rest.map (cw_v ad) := by
    show Value.int (nI j) :: Value.ref (ad lw_SC) :: rest.map (cw_v ad) = _
    rw [hadb]; rfl
  have hWW : 2 * (F0 m pc ls ((Value.int (nI j) :: .ref lw_SC :: rest).map (cw_v ad))).monitorRoom + ((rest.map (cw_v ad)).map fun v => v.category).sum ≤ 8 := lv_room (by rw [cw_cats]; exact hW)
  have hR2 : cw_f mm_L_cell + 1 ≤ room_1.frames ∧ 8 + (cw_nL mm_L_cell + 11) + 35 * cw_f mm_L_cell ≤ room_1.locals := by decide
  refine va_calli (va_runS (As := [Value.ref b, .int (nI j)]) ⟨hx, hb, hml, hown, hts⟩ (pc_cell l (xs := xs) hL hj) (n := 2) ⟨⟨rfl, rfl, hR2.1, hR2.2, pay_in hts (cw_good2 h3'), List.mem_cons_self, hts _ k3, hts _ k4, ⟨k7, k8⟩, fun sig hsig => ?_, hts _ h1⟩, hts _ h2⟩ hpre rfl rfl hls hst hWW hdg hk) hS (fun _ _ z => z.elim) (fun _ z => z.elim) (fun r _ t H1 locs1 _ _ _ _ hz hk1 hS1 => ?_)
  · rw [hsig] at k9; exact (Option.some.inj k9).symm
  · have hP1 : va_P D vwCl (cw_w cA ad h) H1 := hP.kept (fun k x hx => hk1 _ (hP k x hx).lt (fun z => z))
    exact kk r ad H1 locs1 ls hkp hP1 hD hS1 hl
end LG2
end
section
/-! p24: the law's walk: the beginning -/
abbrev lw_B : cw_LV := [(7, .ref 5), (6, .ref 4), (5, .ref 3), (4, .ref 2), (3, .ref 1), (2, .ref 0), (1, .ref 6), (0, .ref lw_SC)]
abbrev lw_c0 : cw_H := cc_h (nI 0) cs_z cs_z (fun _ => none) (fun _ => none) (fun _ => 0) (nI 0) []
abbrev lw_r (N : Nat) : cw_E := .inl (0, N, .inl (fun _ => 0))
def lw_pi (k : Nat) : Nat := if k < 15 then k + 6 else if k < 21 then k - 15 else k
def lw_si (k : Nat) : Nat := if k < 6 then k + 15 else if k < 21 then k - 6 else k
theorem lw_pi_ok : ∀ k, k < 21 → (lw_pi k < 21 ∧ lw_si (lw_pi k) = k) ∧ lw_si k < 21 ∧ lw_pi (lw_si k) = k := by decide
theorem lg_wfa {h : cw_H} {N n : Nat} {f : Nat → Int32} (wh : ∀ q ∈ h, cw_wfe n q) : ∀ q ∈ h ++ [.inl (0, N, .inl f)], cw_wfe n q := by
  intro q hq
  rcases List.mem_append.mp hq with z | z
  · exact wh q z
  · rw [List.mem_singleton.mp z]; trivial
abbrev lw_h6 : cw_H := lw_c0 ++ [lw_r 12] ++ [lw_r 61] ++ [lw_r 61] ++ [lw_r 10] ++ [lw_r 10] ++ [lw_r 10]
theorem lw_hm : ∀ k, k < 21 → (px_h (fun _ => 0) (fun _ => 0) (fun _ => 0) (fun _ => 0) (fun _ => 0) (fun _ => 0) lw_c0)[lw_pi k]? = (lw_h6[k]?).map (cw_re lw_pi) := by
  intro k hk
  match k, hk with
  | 0, _ => rfl
  | 1, _ => rfl
  | 2, _ => rfl
  | 3, _ => rfl
  | 4, _ => rfl
  | 5, _ => rfl
  | 6, _ => rfl
  | 7, _ => rfl
  | 8, _ => rfl
  | 9, _ => rfl
  | 10, _ => rfl
  | 11, _ => rfl
  | 12, _ => rfl
  | 13, _ => rfl
  | 14, _ => rfl
  | 15, _ => rfl
  | 16, _ => rfl
  | 17, _ => rfl
  | 18, _ => rfl
  | 19, _ => rfl
  | 20, _ => rfl
  | k + 21, h => exact absurd h (by omega)
section LW
variable {p : Program} {l : Launch} {e : Env} {s : State} {m : MethodId} {below : List Frame} {meth : Method} {c : Code} {D : va_G} {cA : Nat → ClassId} {b : Nat} {Q : State → Prop}
/-- what is made, in the order that the law's text names it -/
theorem lw_make (hC : lw_C p s m meth c D cA b) (K : lw_G p l e s m below meth c D cA b Q 21 442 42 lw_B [] (px_h (fun _ => 0) (fun _ => 0) (fun _ => 0) (fun _ => 0) (fun _ => 0) (fun _ => 0) lw_c0)) : lw_G p l e s m below meth c D cA b Q 0 0 0 [(0, .ref lw_SC)] [] [] := by
  have wf0 : ∀ n, 15 ≤ n → ∀ q ∈ lw_c0, cw_wfe n q := fun n hn => cc_wf hn (fun _ _ h => by cases h) (fun _ _ h => by cases h)
  have k42 : lw_G p l e s m below meth c D cA b Q 21 442 42 [(7, .ref 20), (6, .ref 19), (5, .ref 18), (4, .ref 17), (3, .ref 16), (2, .ref 15), (1, .ref 0), (0, .ref lw_SC)] [] lw_h6 :=
    lg_perm (h2 := px_h (fun _ => 0) (fun _ => 0) (fun _ => 0) (fun _ => 0) (fun _ => 0) (fun _ => 0) lw_c0) lw_pi lw_si rfl (fun k hk => (lw_pi_ok k hk).1) (fun k hk => (lw_pi_ok k hk).2) ⟨rfl, rfl⟩ (fun k q hq => by
      rw [lw_hm k (cw_lt hq), hq]; rfl) (lg_wl (n := 21) rfl (Nat.le_refl _)) (lg_wfa (lg_wfa (lg_wfa (lg_wfa (lg_wfa (lg_wfa (wf0 21 (by omega)))))))) K
  have k38 : lw_G p l e s m below meth c D cA b Q 20 432 38 [(6, .ref 19), (5, .ref 18), (4, .ref 17), (3, .ref 16), (2, .ref 15), (1, .ref 0), (0, .ref lw_SC)] [.int (nI 10)] (lw_c0 ++ [lw_r 12] ++ [lw_r 61] ++ [lw_r 61] ++ [lw_r 10] ++ [lw_r 10]) :=
    lg_newa hC ⟨Nat.le_of_ble_eq_true rfl, Nat.le_of_ble_eq_true rfl⟩ rfl (Nat.le_of_ble_eq_true rfl) (lg_wl (n := 20) rfl (Nat.le_refl _)) (lg_wfa (lg_wfa (lg_wfa (lg_wfa (lg_wfa (wf0 20 (by omega))))))) (Nat.le_of_ble_eq_true rfl) (show lw_G p l e s m below meth c D cA b Q 21 442 40 [(6, .ref 19), (5, .ref 18), (4, .ref 17), (3, .ref 16), (2, .ref 15), (1, .ref 0), (0, .ref lw_SC)] [.ref 20] lw_h6 from (lw_run hC ⟨Nat.le_of_ble_eq_true rfl, Nat.le_of_ble_eq_true rfl⟩ 1 [] [] [] k42))
  have k32 : lw_G p l e s m below meth c D cA b Q 19 422 32 [(5, .ref 18), (4, .ref 17), (3, .ref 16), (2, .ref 15), (1, .ref 0), (0, .ref lw_SC)] [.int (nI 10)] (lw_c0 ++ [lw_r 12] ++ [lw_r 61] ++ [lw_r 61] ++ [lw_r 10]) :=
    lg_newa hC ⟨Nat.le_of_ble_eq_true rfl, Nat.le_of_ble_eq_true rfl⟩ rfl (Nat.le_of_ble_eq_true rfl) (lg_wl (n := 19) rfl (Nat.le_refl _)) (lg_wfa (lg_wfa (lg_wfa (lg_wfa (wf0 19 (by omega)))))) (Nat.le_of_ble_eq_true rfl) (show lw_G p l e s m below meth c D cA b Q 20 432 34 [(5, .ref 18), (4, .ref 17), (3, .ref 16), (2, .ref 15), (1, .ref 0), (0, .ref lw_SC)] [.ref 19] (lw_c0 ++ [lw_r 12] ++ [lw_r 61] ++ [lw_r 61] ++ [lw_r 10] ++ [lw_r 10]) from (lw_run hC ⟨Nat.le_of_ble_eq_true rfl, Nat.le_of_ble_eq_true rfl⟩ 2 [] [] [] k38))
  have k26 : lw_G p l e s m below meth c D cA b Q 18 412 26 [(4, .ref 17), (3, .ref 16), (2, .ref 15), (1, .ref 0), (0, .ref lw_SC)] [.int (nI 10)] (lw_c0 ++ [lw_r 12] ++ [lw_r 61] ++ [lw_r 61]) :=
    lg_newa hC ⟨Nat.le_of_ble_eq_true rfl, Nat.le_of_ble_eq_true rfl⟩ rfl (Nat.le_of_ble_eq_true rfl) (lg_wl (n := 18) rfl (Nat.le_refl _)) (lg_wfa (lg_wfa (lg_wfa (wf0 18 (by omega))))) (Nat.le_of_ble_eq_true rfl) (show lw_G p l e s m below meth c D cA b Q 19 422 28 [(4, .ref 17), (3, .ref 16), (2, .ref 15), (1, .ref 0), (0, .ref lw_SC)] [.ref 18] (lw_c0 ++ [lw_r 12] ++ [lw_r 61] ++ [lw_r 61] ++ [lw_r 10]) from (lw_run hC ⟨Nat.le_of_ble_eq_true rfl, Nat.le_of_ble_eq_true rfl⟩ 2 [] [] [] k32))
  have k20 : lw_G p l e s m below meth c D cA b Q 17 351 20 [(3, .ref 16), (2, .ref 15), (1, .ref 0), (0, .ref lw_SC)] [.int (nI 61)] (lw_c0 ++ [lw_r 12] ++ [lw_r 61]) :=
    lg_newa hC ⟨Nat.le_of_ble_eq_true rfl, Nat.le_of_ble_eq_true rfl⟩ rfl (Nat.le_of_ble_eq_true rfl) (lg_wl (n := 17) rfl (Nat.le_refl _)) (lg_wfa (lg_wfa (wf0 17 (by omega)))) (Nat.le_of_ble_eq_true rfl) (show lw_G p l e s m below meth c D cA b Q 18 412 22 [(3, .ref 16), (2, .ref 15), (1, .ref 0), (0, .ref lw_SC)] [.ref 17] (lw_c0 ++ [lw_r 12] ++ [lw_r 61] ++ [lw_r 61]) from (lw_run hC ⟨Nat.le_of_ble_eq_true rfl, Nat.le_of_ble_eq_true rfl⟩ 2 [] [] [] k26))
  have k15 : lw_G p l e s m below meth c D cA b Q 16 290 15 [(2, .ref 15), (1, .ref 0), (0, .ref lw_SC)] [.int (nI 61)] (lw_c0 ++ [lw_r 12]) :=
    lg_newa hC ⟨Nat.le_of_ble_eq_true rfl, Nat.le_of_ble_eq_true rfl⟩ rfl (Nat.le_of_ble_eq_true rfl) (lg_wl (n := 16) rfl (Nat.le_refl _)) (lg_wfa (wf0 16 (by omega))) (Nat.le_of_ble_eq_true rfl) (show lw_G p l e s m below meth c D cA b Q 17 351 17 [(2, .ref 15), (1, .ref 0), (0, .ref lw_SC)] [.ref 16] (lw_c0 ++ [lw_r 12] ++ [lw_r 61]) from (lw_run hC ⟨Nat.le_of_ble_eq_true rfl, Nat.le_of_ble_eq_true rfl⟩ 2 [] [] [] k20))
  have k10 : lw_G p l e s m below meth c D cA b Q 15 278 10 [(1, .ref 0), (0, .ref lw_SC)] [.int (nI 12)] lw_c0 :=
    lg_newa hC ⟨Nat.le_of_ble_eq_true rfl, Nat.le_of_ble_eq_true rfl⟩ rfl (Nat.le_of_ble_eq_true rfl) (lg_wl (n := 15) rfl (Nat.le_refl _)) (wf0 15 (Nat.le_refl _)) (Nat.le_of_ble_eq_true rfl) (show lw_G p l e s m below meth c D cA b Q 16 290 12 [(1, .ref 0), (0, .ref lw_SC)] [.ref 15] (lw_c0 ++ [lw_r 12]) from (lw_run hC ⟨Nat.le_of_ble_eq_true rfl, Nat.le_of_ble_eq_true rfl⟩ 2 [] [] [] k15))
  have k4 : lw_G p l e s m below meth c D cA b Q 1 6 4 [(0, .ref lw_SC)] [.ref 0, .ref 0] cc_blk :=
    lg_callI (ic := mm_X2_init) (mc' := 14) (ms' := 272) (rs := [.ref 0]) hC ⟨Nat.le_of_ble_eq_true rfl, Nat.le_of_ble_eq_true rfl⟩ rfl rfl rfl (by decide) (Nat.le_of_ble_eq_true rfl) (cc_init l) (Nat.le_of_ble_eq_true rfl) (Nat.le_of_ble_eq_true rfl) (lg_wl (n := 1) rfl (Nat.le_refl _)) (fun v hv => by rw [List.mem_singleton.mp hv]; exact Nat.zero_lt_one) (show lw_G p l e s m below meth c D cA b Q 15 278 7 [(0, .ref lw_SC)] [.ref 0] lw_c0 from (lw_run hC ⟨Nat.le_of_ble_eq_true rfl, Nat.le_of_ble_eq_true rfl⟩ 2 [] [] [] k10))
  refine lg_new (idx := 37) (ci := 2) [.null, .null, .null, .int 0, .null, .null] hC ⟨Nat.le_of_ble_eq_true rfl, Nat.le_of_ble_eq_true rfl⟩ rfl rfl (fun j hj => ?_) (fun _ => rfl) (lg_wl (n := 0) rfl (Nat.le_refl _)) (fun q hq => by cases hq) (Nat.le_of_ble_eq_true rfl) (show lw_G p l e s m below meth c D cA b Q 1 6 3 [(0, .ref lw_SC)] [.ref 0] cc_blk from (lw_run hC ⟨Nat.le_of_ble_eq_true rfl, Nat.le_of_ble_eq_true rfl⟩ 1 [] [] [] k4))
  have hj : j < 6 := hj
  match j, hj with
  | 0, _ => rfl
  | 1, _ => rfl
  | 2, _ => rfl
  | 3, _ => rfl
  | 4, _ => rfl
  | 5, _ => rfl
  | j + 6, h => exact absurd h (by omega)
end LW
end
section
/-! p24: the law's walk: the first setting; the end of a turn; steps -/
section LW
variable {p : Program} {l : Launch} {e : Env} {s : State} {m : MethodId} {below : List Frame} {meth : Method} {c : Code} {D : va_G} {cA : Nat → ClassId} {b : Nat} {Q : State → Prop}
variable {kc ks : Nat} {q on ze le re tr : Nat → Int32}
/-- a row is filled -/
theorem lw_fill (hC : lw_C p s m meth c D cA b) (hk : kc ≤ 600000 ∧ ks ≤ 7302250) {C : cw_H} (K : ∀ re v, lw_G p l e s m below meth c D cA b Q kc ks 65 ((8, .int v) :: lw_B) [] (px_h q on ze le re tr C)) : ∀ n i re, i + n = 10 → lw_G p l e s m below meth c D cA b Q kc ks 45 ((8, .int (nI i)) :: lw_B) [] (px_h q on ze le re tr C) := by
  intro n
  induction n with
  | zero =>
    intro i re hi
    obtain rfl : i = 10 := by omega
    exact lw_run hC hk 3 [true] [] [] (And.intro (Int32.le_refl _) (K re _))
  | succ n ih =>
    intro i re hi
    have w : lw_G p l e s m below meth c D cA b Q kc ks 45 ((8, .int (nI i + nI 1)) :: lw_B) [] (px_h q on ze le (upd re i (-nI 6)) tr C) := by
      rw [nI_add]; exact ih (i + 1) _ (by omega)
    have h0 : ¬ nI 10 ≤ nI i := nI_ge (by omega) (by omega)
    exact lw_run hC hk 9 [false] [_] [] (And.intro (h0) (And.intro (rfl) (And.intro ((show i < 10 by omega)) (w))))
/-- a turn begins here -/
def lw_N (p : Program) (l : Launch) (e : Env) (s : State) (m : MethodId) (below : List Frame) (meth : Method) (c : Code) (D : va_G) (cA : Nat → ClassId) (b : Nat) (Q : State → Prop) (turn : Nat) : Prop := ∀ (u : Nat) (S T : cs_S) (H G : Nat → Option Nat) (f : Nat → Int32) (L : List cs_S) (q on ze le re tr fx : Nat → Int32), cc_ok u H G L → cr S fx → pr (cs_sp S) S q on ze le re tr → L.length ≤ turn + 1 → lw_G p l e s m below meth c D cA b Q (100 + 5 * turn) (2000 + 101 * turn) 102 ((8, .int (nI turn)) :: lw_B) [] (px_h q on ze le re tr (cc_h (nI u) S T H G f (nI 0) L))
theorem lw_first (hC : lw_C p s m meth c D cA b) (hN : lw_N p l e s m below meth c D cA b Q 0) : lw_G p l e s m below meth c D cA b Q 21 442 42 lw_B [] (px_h (fun _ => 0) (fun _ => 0) (fun _ => 0) (fun _ => 0) (fun _ => 0) (fun _ => 0) lw_c0) := by
  refine lw_run hC ⟨Nat.le_of_ble_eq_true rfl, Nat.le_of_ble_eq_true rfl⟩ 2 [] [] [] (lw_fill hC ⟨Nat.le_of_ble_eq_true rfl, Nat.le_of_ble_eq_true rfl⟩ (fun re v => ?_) 10 0 (fun _ => 0) rfl)
  refine lw_run hC ⟨Nat.le_of_ble_eq_true rfl, Nat.le_of_ble_eq_true rfl⟩ 5 [] [] [] (lg_cell (j := 0) (rest := [.int (nI 4), .int (nI 0), .ref 0]) hC ⟨Nat.le_of_ble_eq_true rfl, Nat.le_of_ble_eq_true rfl⟩ rfl (by omega) (Nat.le_of_ble_eq_true rfl) (fun x => ?_))
  obtain ⟨r, hr, er⟩ := pl_low_nI x (n := 6) (by omega) (by omega)
  have wl6 := pl_low_ok l (px_h (fun _ => 0) (fun _ => 0) (fun _ => 0) (fun _ => 0) re (fun _ => 0) lw_c0) x (n := 6) (by omega) (by omega)
  rw [er] at wl6
  -- the class's answer
  obtain ⟨Z, hZ⟩ : ∃ Z, Z = cs_wth cs_z (nI (4 + r)) := ⟨_, rfl⟩
  have ft : cs_t cs_z = 0 := cs_t_nI (k := 0) rfl (by omega)
  have fk : cs_k cs_z = 4 := cs_k_nI (k := 4) rfl (by omega)
  have fg : cs_g cs_z = 0 := cs_g_nI (k := 0) rfl (by omega)
  have fn : cs_n cs_z = 0 := cs_n_nI (k := 0) rfl (by omega)
  have hBz : cs_Bd cs_z := ⟨⟨by rw [fg]; rfl, by omega⟩, ⟨by rw [ft]; rfl, by omega⟩, ⟨by rw [fn]; rfl, by omega⟩, ⟨by rw [fk]; rfl, by omega⟩⟩
  have hok0 : cc_ok 0 (fun _ => none) (fun _ => none) [] := ⟨by omega, fun _ _ q => (by cases q), fun _ _ q => (by cases q), fun i hi => absurd hi (Nat.not_lt_zero i), fun _ _ _ q => (by cases q), fun _ _ _ q => (by cases q), fun _ _ _ q => (by cases q)⟩
  have egr : cb_gr (cs_all cs_z (cs_t cs_z) 0 (nI 0)) 9 1 (nI 0) = nI 0 := by rw [ft]; decide +kernel
  have cset := cc_set_0 (l := l) (cc_rL_len _ _ _ _) (cc_set0_ok (l := l) (v := nI (4 + r)) (n := 0) (N := cs_z) (T := cs_z) (H := fun _ => none) (G := fun _ => none) (f := fun _ => 0) (pl := nI 0) (L := []) (decide_eq_true ⟨nI_nlt (by omega) (by omega), nI_nlt (by omega) (by omega)⟩) hBz (by rw [egr]; exact nI_nlt (by omega) (by omega)) hok0)
  rw [← hZ] at cset
  obtain ⟨hok', hlen⟩ := cc_ok_rec (N := cs_z) hok0
  have hok2 := hok'
  obtain ⟨-, hH', hG', -⟩ := hok'
  have rdx := px_clsA (q := upd (upd (fun _ => 0) 0 (nI (4 + r))) 1 (nI 10)) (on := fun _ => 0) (ze := fun _ => 0) (le := fun _ => 0) (re := re) (tr := fun _ => 0) cset (cc_rL_len _ _ _ _) (fun _ _ h => by cases h) (fun _ _ h => by cases h) hH' hG'
  -- behind it, both sides stand alike
  have gt : cs_t Z = 0 := cs_t_nI (k := 0) (by rw [hZ]; rfl) (by omega)
  have gk : cs_k Z = 4 + r := cs_k_nI (by rw [hZ]) (by omega)
  have hcr := cr_anew (S := Z) (f := pz_f Z) ⟨⟨by rw [gt, hZ]; rfl, by omega⟩, ⟨by rw [gk, hZ], by omega, by omega⟩, ⟨10, by omega, by omega, by rw [hZ]; rfl⟩, Or.inl (by rw [hZ]; rfl), ⟨rfl, rfl, rfl, rfl⟩, fun k hk => absurd hk (by omega)⟩
  have gg : cs_g (cs_anew Z) = 0 := cs_g_nI (S := cs_anew Z) rfl (by omega)
  have gn : cs_n (cs_anew Z) = 0 := cs_n_nI (S := cs_anew Z) rfl (by omega)
  have gt2 : cs_t (cs_anew Z) = 0 := gt
  have hpr : pr (cs_sp (cs_anew Z)) (cs_anew Z) (upd (upd (fun _ => 0) 0 (nI (4 + r))) 1 (nI 10)) (fun _ => 0) (fun _ => 0) (fun _ => 0) re (fun _ => 0) := by
    refine ⟨⟨by rw [hZ]; rfl, by rw [hZ]; rfl, by rw [hZ]; rfl, by rw [hZ]; rfl, rfl, rfl, ?_, rfl, rfl, rfl⟩, fun i hi => ⟨?_, ?_⟩, fun k hk => ?_, fun k hk => ?_⟩
    · unfold cs_pl; rw [if_pos gg]; rfl
    · show (bt (0 : Int32) i = true ↔ i < 10 ∧ bt (0 : Int32) i = true)
      rw [b_0]
      exact ⟨fun z => (by cases z), fun z => (by cases z.2)⟩
    · show (bt (0 : Int32) i = true ↔ bt (0 : Int32) (i + 10) = true)
      rw [b_0, b_0]
    · rw [gt2, gn] at hk; exact absurd hk (Nat.not_lt_zero k)
    · rw [gg] at hk; exact absurd hk (Nat.not_lt_zero k)
  have k102 := hN _ _ cs_z _ _ (fun _ => 0) _ _ _ _ _ _ _ _ hok2 hcr hpr hlen
  have k93 : lw_G p l e s m below meth c D cA b Q 26 543 93 ((8, .int v) :: lw_B) [.int (nI 4)] (px_h (upd (upd (fun _ => 0) 0 (nI (4 + r))) 1 (nI 10)) (fun _ => 0) (fun _ => 0) (fun _ => 0) re (fun _ => 0) (cc_h (nI (cm_ru 0 + 1)) (cs_anew Z) cs_z (cc_Hr 0 (fun _ => none) []) (fun _ => none) (fun _ => 0) (nI 0) (cc_Lr 0 (fun _ => none) [] cs_z))) :=
    lw_run hC ⟨Nat.le_of_ble_eq_true rfl, Nat.le_of_ble_eq_true rfl⟩ 4 [true] [] [] (And.intro (rfl) (lg_widen (Nat.le_of_ble_eq_true rfl) (Nat.le_of_ble_eq_true rfl) k102))
  have k90 : lw_G p l e s m below meth c D cA b Q 21 442 90 ((8, .int v) :: lw_B) ([.int (nI (4 + r)), .int (nI 0)] ++ [.ref 6]) (px_h (upd (upd (fun _ => 0) 0 (nI (4 + r))) 1 (nI 10)) (fun _ => 0) (fun _ => 0) (fun _ => 0) re (fun _ => 0) lw_c0) :=
    lg_callV (ic := mm_X2_set) (mc' := 5) (ms' := 101) hC ⟨Nat.le_of_ble_eq_true rfl, Nat.le_of_ble_eq_true rfl⟩ rfl rfl rfl (by decide) (show (px_h (upd (upd (fun _ => 0) 0 (nI (4 + r))) 1 (nI 10)) (fun _ => 0) (fun _ => 0) (fun _ => 0) re (fun _ => 0) lw_c0)[6]? = some _ from rfl) rfl (show 2 < 3 by decide) rdx (by rw [px_len, px_len]; exact Nat.add_le_add_left (cc_lel (cc_rL_len _ _ _ _)) 6) (by rw [px_len, cc_len]; exact (show 6 + (15 + 5 * (cc_Lr 0 (fun _ => none) [] cs_z).length) ≤ lw_SC by have hx : (cc_Lr 0 (fun _ => none) [] cs_z).length ≤ 1 := hlen; unfold lw_SC; omega)) (lg_wl (n := 21) rfl (Nat.le_of_ble_eq_true rfl)) k93
  rw [← nI_add 4 r] at k90
  exact lw_run hC ⟨Nat.le_of_ble_eq_true rfl, Nat.le_of_ble_eq_true rfl⟩ 13 [] [_, _, _] [(_, _)] (And.intro (wl6) (And.intro (Nat.le_refl _) (And.intro (rfl) (And.intro (Nat.le_of_ble_eq_true rfl) (And.intro (rfl) (And.intro (Nat.le_of_ble_eq_true rfl) (And.intro (rfl) (And.intro (Nat.le_of_ble_eq_true rfl) (k90)))))))))
section TURN
variable {turn : Nat} {u : Nat} {S T : cs_S} {H G : Nat → Option Nat} {f : Nat → Int32} {L : List cs_S} {fx : Nat → Int32}
/-- the end of a turn: all is asked -/
theorem lw_427 (hC : lw_C p s m meth c D cA b) (hk : kc ≤ 600000 ∧ ks ≤ 7302250) (ec : kc ≤ 100 + 5 * (turn + 1)) (es : ks ≤ 2000 + 101 * (turn + 1)) (hN : lw_N p l e s m below meth c D cA b Q (turn + 1)) (hok : cc_ok u H G L) (h : cr S fx) (hr : pr (cs_sp S) S q on ze le re tr) (hl : L.length ≤ turn + 2) : lw_G p l e s m below meth c D cA b Q kc ks 427 ((8, .int (nI turn)) :: lw_B) [] (px_h q on ze le re tr (cc_h (nI u) S T H G f (nI 0) L)) := by
  have w := hN u S T H G f L q on ze le re tr fx hok h hr hl
  rw [← nI_add turn 1] at w
  exact lw_run hC hk 11 [true] [] [(_, _)] (And.intro (pl_same h.1 hr) (And.intro (Nat.le_refl _) (And.intro ((show ¬ nI 1 = 0 by decide)) (lg_widen ec es w))))
end TURN
/-- many steps of the law's own -/
theorem lw_steps (hC : lw_C p s m meth c D cA b) (hk : kc ≤ 600000 ∧ ks ≤ 7302250) {N : Nat} (hN : N < 2 ^ 31) {C : cw_H} {z : Int32} {S0 : cs_S} (K : ∀ (S : cs_S) (q on ze le re tr fx : Nat → Int32), S = cs_runs N S0 → cr S fx → pr (cs_sp S) S q on ze le re tr → lw_G p l e s m below meth c D cA b Q kc ks 251 ((12, .int (nI N)) :: (8, .int z) :: lw_B) [] (px_h q on ze le re tr C)) : ∀ (n i : Nat) (S : cs_S) (q on ze le re tr fx : Nat → Int32), i + n = N → cs_runs n S = cs_runs N S0 → cr S fx → pr (cs_sp S) S q on ze le re tr → lw_G p l e s m below meth c D cA b Q kc ks 219 ((13, .int (nI i)) :: (12, .int (nI N)) :: (8, .int z) :: lw_B) [] (px_h q on ze le re tr C) := by
  intro n
  induction n with
  | zero =>
    intro i S q on ze le re tr fx hi hS h hr
    obtain rfl : i = N := by omega
    exact lw_run hC hk 3 [true] [] [] (And.intro (Int32.le_refl _) (lg_less [1, 2, 3, 4, 5, 6, 7, 8, 9, 10] rfl (K S q on ze le re tr fx hS h hr)))
  | succ n ih =>
    intro i S q on ze le re tr fx hi hS h hr
    have h0 : ¬ nI N ≤ nI i := nI_ge (by omega) hN
    have q5 : q 5 = cs_sd S := hr.1.2.2.2.2.2.1
    by_cases d : cs_sd S = 0
    · obtain ⟨f', q', on', ze', le', re', tr', h', hr', w⟩ := pl_step (l := l) h hr
      have wx := px_arr (C := C) w
      have k := ih (i + 1) _ q' on' ze' le' re' tr' f' (by omega) (by rw [← hS]; unfold cs_runs; rw [if_pos d]; cases n <;> rfl) h' hr'
      rw [← nI_add i 1] at k
      exact lw_run hC hk 16 [false, false] [_] [(_, _)] (And.intro (h0) (And.intro (rfl) (And.intro (Nat.le_of_ble_eq_true rfl) (And.intro ((show ¬ ¬ q 5 = 0 from fun z => z (q5.trans d))) (And.intro (wx) (And.intro ((show (px_h q' on' ze' le' re' tr' C).length ≤ (px_h q on ze le re tr C).length by rw [px_len, px_len]; exact Nat.le_refl _)) (k)))))))
    · have k := K S q on ze le re tr fx (by rw [← hS]; unfold cs_runs; rw [if_neg d]) h hr
      exact lw_run hC hk 7 [false, true] [_] [] (And.intro (h0) (And.intro (rfl) (And.intro (Nat.le_of_ble_eq_true rfl) (And.intro ((show ¬ q 5 = 0 by rw [q5]; exact d)) (lg_less [1, 2, 3, 4, 5, 6, 7, 8, 9, 10] rfl k)))))
end LW
end
section
/-! p24: the law's walk: the turns, each by its kind -/
theorem nI_2m : ∀ t, t ≤ 22 → nI 2 * nI t = nI (2 * t) := by decide +kernel
section LW
variable {p : Program} {l : Launch} {e : Env} {s : State} {m : MethodId} {below : List Frame} {meth : Method} {c : Code} {D : va_G} {cA : Nat → ClassId} {b : Nat} {Q : State → Prop}
variable {turn : Nat} {u : Nat} {S T : cs_S} {H G : Nat → Option Nat} {f : Nat → Int32} {L : List cs_S} {q on ze le re tr fx : Nat → Int32} {y : Int32}
theorem pr_re (hr : pr y S q on ze le re tr) (z : Int32) : pr y (cs_wre S z) (upd q 1 z) on ze le re tr :=
  ⟨⟨hr.1.1, rfl, hr.1.2.2.1, hr.1.2.2.2.1, hr.1.2.2.2.2.1, hr.1.2.2.2.2.2.1, hr.1.2.2.2.2.2.2.1, hr.1.2.2.2.2.2.2.2.1, hr.1.2.2.2.2.2.2.2.2.1, hr.1.2.2.2.2.2.2.2.2.2⟩, hr.2.1, hr.2.2.1, hr.2.2.2⟩
theorem pr_fi (hr : pr y S q on ze le re tr) (z : Int32) : pr y (cs_wfi S z) (upd q 2 z) on ze le re tr :=
  ⟨⟨hr.1.1, hr.1.2.1, rfl, hr.1.2.2.2.1, hr.1.2.2.2.2.1, hr.1.2.2.2.2.2.1, hr.1.2.2.2.2.2.2.1, hr.1.2.2.2.2.2.2.2.1, hr.1.2.2.2.2.2.2.2.2.1, hr.1.2.2.2.2.2.2.2.2.2⟩, hr.2.1, hr.2.2.1, hr.2.2.2⟩
/-- clauses -/
theorem lw_k0 (hC : lw_C p s m meth c D cA b) (ht : turn < 22) (hN : lw_N p l e s m below meth c D cA b Q (turn + 1)) (hok : cc_ok u H G L) (h : cr S fx) (hr : pr (cs_sp S) S q on ze le re tr) (hl : L.length ≤ turn + 1) {r : Nat} (hr2 : r < 2) (x y : Int32) : lw_G p l e s m below meth c D cA b Q (100 + 5 * turn) (2000 + 101 * turn) 153 ((11, .int (nI r)) :: (10, .int y) :: (9, .int x) :: (8, .int (nI turn)) :: lw_B) [] (px_h q on ze le re tr (cc_h (nI u) S T H G f (nI 0) L)) := by
  have hk : 100 + 5 * turn ≤ 600000 ∧ 2000 + 101 * turn ≤ 7302250 := ⟨by omega, by omega⟩
  have hk2 : 100 + 5 * turn + 5 ≤ 600000 ∧ 2000 + 101 * turn + 101 ≤ 7302250 := ⟨by omega, by omega⟩
  have h0 : ¬ nI 2 ≤ nI r := nI_ge (by omega) (by omega)
  obtain ⟨hf, hg, w⟩ := pl_reads (l := l) (T := T) (G := G) (f := f) hok h hr (x >>> (nI 3 &&& 31)) y
  have k179 : lw_G p l e s m below meth c D cA b Q (100 + 5 * turn + 5) (2000 + 101 * turn + 101) 179 ((11, .int (nI r)) :: (10, .int y) :: (9, .int x) :: (8, .int (nI turn)) :: lw_B) [.int (nI 1)] hf := by
    obtain ⟨u', S', H', f', L', q', on', ze', re', fx', rfl, o1, o2, o3, o4, o5⟩ := hg
    have hk := hk2
    exact lw_run hC hk 1 [true] [] [] (And.intro ((show ¬ nI 1 = 0 by decide)) (lg_less [3, 4, 5, 6, 7, 8, 9, 10, 11] rfl (lw_427 hC hk2 (by omega) (by omega) hN o1 o4 o5 (by omega))))
  have hlen : (px_h q on ze le re tr (cc_h (nI u) S T H G f (nI 0) L)).length ≤ hf.length ∧ hf.length ≤ lw_SC := by
    obtain ⟨u', S', H', f', L', q', on', ze', re', fx', rfl, o1, o2, o3, o4, o5⟩ := hg
    rw [px_len, px_len, cc_len, cc_len]
    unfold lw_SC
    omega
  exact lw_run hC hk 14 [false] [] [] (And.intro (h0) (lg_callS (ic := mm_L_reads) (mc' := 5) (ms' := 101) hC hk2 rfl rfl rfl (by decide) w hlen.1 hlen.2 (lg_wl (n := 21) rfl (by rw [px_len, cc_len]; omega)) k179))
/-- steps -/
theorem lw_k1 (hC : lw_C p s m meth c D cA b) (ht : turn < 22) (hN : lw_N p l e s m below meth c D cA b Q (turn + 1)) (hok : cc_ok u H G L) (h : cr S fx) (hr : pr (cs_sp S) S q on ze le re tr) (hl : L.length ≤ turn + 1) {r : Nat} (h2 : 2 ≤ r) (h6 : r < 6) (x y : Int32) : lw_G p l e s m below meth c D cA b Q (100 + 5 * turn) (2000 + 101 * turn) 153 ((11, .int (nI r)) :: (10, .int y) :: (9, .int x) :: (8, .int (nI turn)) :: lw_B) [] (px_h q on ze le re tr (cc_h (nI u) S T H G f (nI 0) L)) := by
  have hk : 100 + 5 * turn ≤ 600000 ∧ 2000 + 101 * turn ≤ 7302250 := ⟨by omega, by omega⟩
  have hk2 : 100 + 5 * turn + 5 ≤ 600000 ∧ 2000 + 101 * turn + 101 ≤ 7302250 := ⟨by omega, by omega⟩
  have a0 : nI 2 ≤ nI r := nI_le (by omega) (by omega)
  have a1 : ¬ nI 6 ≤ nI r := nI_ge (by omega) (by omega)
  have main : ∀ N, 1 ≤ N → N ≤ 500 → lw_G p l e s m below meth c D cA b Q (100 + 5 * turn) (2000 + 101 * turn) 219 ((13, .int (nI 0)) :: (12, .int (nI N)) :: (8, .int (nI turn)) :: lw_B) [] (px_h q on ze le re tr (cc_h (nI u) S T H G f (nI 0) L)) := by
    intro N n1 n5
    refine lw_steps hC hk (by omega) (S0 := S) (fun S' q' on' ze' le' re' tr' fx' eS h' hr' => ?_) N 0 S q on ze le re tr fx (by omega) rfl h hr
    subst eS
    obtain ⟨hok', hlen⟩ := cc_ok_rec (N := S) hok
    have hok2 := hok'
    obtain ⟨-, hH', hG', -⟩ := hok'
    have hoka := hok
    obtain ⟨-, hH, hG, -⟩ := hoka
    have cst := cc_step_ok (l := l) (T := T) (f := f) (pl := nI 0) (k := N) (decide_eq_true ⟨nI_nlt (by omega) (by omega), nI_nlt (by omega) (by omega)⟩) (by omega) h.1.1.1 hok
    have rdx := px_clsA (q := q') (on := on') (ze := ze') (le := le') (re := re') (tr := tr') cst (cc_rL_len _ _ _ _) hH hG hH' hG'
    have q5 : cs_sd (cs_runs N S) = q' 5 := hr'.1.2.2.2.2.2.1.symm
    have k257 : lw_G p l e s m below meth c D cA b Q (100 + 5 * turn + 5) (2000 + 101 * turn + 101) 257 ((12, .int (nI N)) :: (8, .int (nI turn)) :: lw_B) [.int (cs_sd (cs_runs N S))] (px_h q' on' ze' le' re' tr' (cc_h (nI (cm_ru u + 1)) (cs_runs N S) T (cc_Hr u H L) G f (nI 0) (cc_Lr u H L S))) := by
      have hk := hk2
      exact lw_run hC hk 5 [true] [_] [] (And.intro (rfl) (And.intro (Nat.le_of_ble_eq_true rfl) (And.intro (q5) (lg_less [1, 2, 3, 4, 5, 6, 7, 8, 9] rfl (lw_427 hC hk2 (by omega) (by omega) hN hok2 h' hr' (by omega))))))
    exact lw_run hC hk 2 [] [] [] (lg_callV (st := [.int (nI N)]) (a := 6) (ic := mm_X2_step) (mc' := 5) (ms' := 101) hC hk2 rfl rfl rfl (by decide) (show (px_h q' on' ze' le' re' tr' (cc_h (nI u) S T H G f (nI 0) L))[6]? = some _ from rfl) rfl (show 2 < 3 by decide) rdx (by rw [px_len, px_len]; exact Nat.add_le_add_left (cc_lel (cc_rL_len _ _ _ _)) 6) (by rw [px_len, cc_len]; exact (show 6 + (15 + 5 * (cc_Lr u H L S).length) ≤ lw_SC by unfold lw_SC; omega)) (lg_wl (n := 21) rfl (by rw [px_len, cc_len]; omega)) k257)
  by_cases c5 : r < 5
  · have a5 : ¬ nI 5 ≤ nI r := nI_ge (by omega) (by omega)
    obtain ⟨r9, hr9, er9⟩ := pl_low_nI (x >>> (nI 3 &&& 31)) (n := 9) (by omega) (by omega)
    have wl := pl_low_ok l (px_h q on ze le re tr (cc_h (nI u) S T H G f (nI 0) L)) (x >>> (nI 3 &&& 31)) (n := 9) (by omega) (by omega)
    rw [er9] at wl
    have k := main (1 + r9) (by omega) (by omega)
    rw [← nI_add 1 r9] at k
    exact lw_run hC hk 20 [true, false, false] [] [(_, _)] (And.intro (a0) (And.intro (a1) (And.intro (a5) (And.intro (wl) (And.intro (Nat.le_refl _) (lg_less [0, 1, 5, 6, 7, 8, 9, 10, 11, 12, 13] rfl k))))))
  · have a5 : nI 5 ≤ nI r := nI_le (by omega) (by omega)
    obtain ⟨r9, hr9, er9⟩ := pl_low_nI (x >>> (nI 3 &&& 31)) (n := 200) (by omega) (by omega)
    have wl := pl_low_ok l (px_h q on ze le re tr (cc_h (nI u) S T H G f (nI 0) L)) (x >>> (nI 3 &&& 31)) (n := 200) (by omega) (by omega)
    rw [er9] at wl
    have k := main (1 + r9) (by omega) (by omega)
    rw [← nI_add 1 r9] at k
    exact lw_run hC hk 19 [true, false, true] [] [(_, _)] (And.intro (a0) (And.intro (a1) (And.intro (a5) (And.intro (wl) (And.intro (Nat.le_refl _) (lg_less [0, 1, 5, 6, 7, 8, 9, 10, 11, 12, 13] rfl k))))))
/-- back -/
theorem lw_k2 (hC : lw_C p s m meth c D cA b) (ht : turn < 22) (hN : lw_N p l e s m below meth c D cA b Q (turn + 1)) (hok : cc_ok u H G L) (h : cr S fx) (hr : pr (cs_sp S) S q on ze le re tr) (hl : L.length ≤ turn + 1) (x y : Int32) : lw_G p l e s m below meth c D cA b Q (100 + 5 * turn) (2000 + 101 * turn) 153 ((11, .int (nI 6)) :: (10, .int y) :: (9, .int x) :: (8, .int (nI turn)) :: lw_B) [] (px_h q on ze le re tr (cc_h (nI u) S T H G f (nI 0) L)) := by
  have hk : 100 + 5 * turn ≤ 600000 ∧ 2000 + 101 * turn ≤ 7302250 := ⟨by omega, by omega⟩
  have hk2 : 100 + 5 * turn + 5 ≤ 600000 ∧ 2000 + 101 * turn + 101 ≤ 7302250 := ⟨by omega, by omega⟩
  have a0 : nI 2 ≤ nI 6 := by decide
  have a1 : nI 6 ≤ nI 6 := by decide
  have g9 := cr_g9 h.1
  have hpl := cr_pl h.1
  have hpv := cr_pv_le h.1
  have q6 : q 6 = nI (cs_pv S (cs_g S)) := hr.1.2.2.2.2.2.2.1.trans hpl
  have q5 : q 5 = cs_sd S := hr.1.2.2.2.2.2.1
  obtain ⟨pv, epv⟩ : ∃ pv, pv = cs_pv S (cs_g S) := ⟨_, rfl⟩
  have e7 : q 6 + nI 1 = nI (pv + 1) := by rw [q6, nI_add, epv]
  obtain ⟨v, hv, ev⟩ := pl_low_nI (x >>> (nI 3 &&& 31)) (n := pv + 1) (by omega) (by omega)
  have wl := pl_low_ok l (px_h q on ze le re tr (cc_h (nI u) S T H G f (nI 0) L)) (x >>> (nI 3 &&& 31)) (n := pv + 1) (by omega) (by omega)
  rw [ev, ← e7] at wl
  have hm : v ≤ cs_pv S (cs_g S) := by omega
  have cb : cb_wi (nI v) (nI 0) (cs_pl S (cs_g S)) = true := by rw [hpl]; exact decide_eq_true ⟨nI_nlt (by omega) (by omega), nI_nlt hm (by omega)⟩
  obtain ⟨hok', hlen⟩ := cc_ok_rec (N := S) hok
  have hok2 := hok'
  obtain ⟨-, hH', hG', -⟩ := hok'
  have hoka := hok
  obtain ⟨-, hH, hG, -⟩ := hoka
  by_cases d : cs_sd S = nI 2
  · have rdx := px_clsA (q := q) (on := on) (ze := ze) (le := le) (re := re) (tr := tr) (cc_back_never (l := l) (u := nI u) (T := T) (H := H) (G := G) (f := f) (pl := nI 0) (L := L) h.1.1.1 cb d) (Nat.le_refl _) hH hG hH hG
    have e5 : upd q 5 (nI 2) = q := by
      funext j
      by_cases ej : j = 5
      · rw [ej, pk_us, q5, d]
      · exact pk_un ej
    have k := lw_427 (T := T) (f := f) hC hk2 (by omega) (by omega) hN hok h hr (by omega)
    rw [← e5] at k
    have k327 : lw_G p l e s m below meth c D cA b Q (100 + 5 * turn + 5) (2000 + 101 * turn + 101) 327 ((13, .int (nI 0)) :: (12, .int (nI v)) :: (11, .int (nI 6)) :: (10, .int y) :: (9, .int x) :: (8, .int (nI turn)) :: lw_B) [.int (-nI 5)] (px_h q on ze le re tr (cc_h (nI u) S T H G f (nI 0) L)) := by
      have hk := hk2
      exact lw_run hC hk 11 [true, true, true] [_] [] (And.intro (rfl) (And.intro (rfl) (And.intro (rfl) (And.intro (rfl) (And.intro (Nat.le_of_ble_eq_true rfl) (lg_less [5, 6, 7, 8, 9, 10, 11, 12, 13] rfl k))))))
    have k324 : lw_G p l e s m below meth c D cA b Q (100 + 5 * turn) (2000 + 101 * turn) 324 ((13, .int (nI 0)) :: (12, .int (nI v)) :: (11, .int (nI 6)) :: (10, .int y) :: (9, .int x) :: (8, .int (nI turn)) :: lw_B) ([.int (nI v)] ++ [.ref 6]) (px_h q on ze le re tr (cc_h (nI u) S T H G f (nI 0) L)) :=
      lg_callV (st := [.int (nI v)]) (a := 6) (ic := mm_X2_back) (mc' := 5) (ms' := 101) hC hk2 rfl rfl rfl (by decide) (show (px_h q on ze le re tr (cc_h (nI u) S T H G f (nI 0) L))[6]? = some _ from rfl) rfl (show 2 < 3 by decide) rdx (Nat.le_refl _) (by rw [px_len, cc_len]; unfold lw_SC; omega) (lg_wl (n := 21) rfl (by rw [px_len, cc_len]; omega)) k327
    exact lw_run hC hk 30 [true, true, false, true, true] [_, _] [(_, _)] (And.intro (a0) (And.intro (a1) (And.intro ((show ¬ ¬ nI 6 = nI 6 from fun z => z rfl)) (And.intro (rfl) (And.intro (Nat.le_of_ble_eq_true rfl) (And.intro (wl) (And.intro (Nat.le_refl _) (And.intro (rfl) (And.intro (Nat.le_of_ble_eq_true rfl) (And.intro ((show q 5 = nI 2 by rw [q5]; exact d)) (And.intro (rfl) (k324))))))))))))
  · obtain ⟨q', re', F, w⟩ := pl_back (l := l) (q := q) (on := on) (ze := ze) (le := le) (re := re) (tr := tr) (L := nI v) (x := fun k => cs_s S k % 10) (g := cs_g S) g9 (fun k hk => pr_x h.1 hr k hk) (pr_g7 h.1 hr)
    have wx := px_arr (C := cc_h (nI u) S T H G f (nI 0) L) w
    obtain ⟨g1, -⟩ := cr_gb h hm
    have hr1 := pr_gb h.1 hr hm (g1.2.1.2.2.2.2.2.2.1).symm F
    have e7' : cs_gi (cs_gb S (nI v)) = q' 7 := hr1.1.2.2.2.2.2.2.2.1.symm
    have rdx := px_clsA (q := q') (on := on) (ze := ze) (le := le) (re := re') (tr := tr) (cc_back_ok (l := l) (T := T) (f := f) (pl := nI 0) h.1.1.1 cb d hok) (cc_rL_len _ _ _ _) hH hG hH' hG'
    have k := lw_427 (T := T) (f := f) (S := cs_wsd (cs_gb S (nI v)) (nI 0)) hC hk2 (by omega) (by omega) hN hok2 (show cr _ _ from crp_sd g1 (Or.inl rfl)) (pr_sd hr1 (nI 0)) (by omega)
    have k327 : lw_G p l e s m below meth c D cA b Q (100 + 5 * turn + 5) (2000 + 101 * turn + 101) 327 ((13, .int (nI 1)) :: (12, .int (nI v)) :: (11, .int (nI 6)) :: (10, .int y) :: (9, .int x) :: (8, .int (nI turn)) :: lw_B) [.int (cs_gi (cs_gb S (nI v)))] (px_h q' on ze le re' tr (cc_h (nI (cm_ru u + 1)) (cs_wsd (cs_gb S (nI v)) (nI 0)) T (cc_Hr u H L) G f (nI 0) (cc_Lr u H L S))) := by
      have hk := hk2
      exact lw_run hC hk 15 [false, true, false] [_, _] [] (And.intro ((show ¬ nI 1 = 0 by decide)) (And.intro (rfl) (And.intro (Nat.le_of_ble_eq_true rfl) (And.intro (e7') (And.intro ((show ¬ nI 1 = 0 by decide)) (And.intro (rfl) (And.intro (Nat.le_of_ble_eq_true rfl) (lg_less [5, 6, 7, 8, 9, 10, 11, 12, 13] rfl k))))))))
    have k324 : lw_G p l e s m below meth c D cA b Q (100 + 5 * turn) (2000 + 101 * turn) 324 ((13, .int (nI 1)) :: (12, .int (nI v)) :: (11, .int (nI 6)) :: (10, .int y) :: (9, .int x) :: (8, .int (nI turn)) :: lw_B) ([.int (nI v)] ++ [.ref 6]) (px_h q' on ze le re' tr (cc_h (nI u) S T H G f (nI 0) L)) :=
      lg_callV (st := [.int (nI v)]) (a := 6) (ic := mm_X2_back) (mc' := 5) (ms' := 101) hC hk2 rfl rfl rfl (by decide) (show (px_h q' on ze le re' tr (cc_h (nI u) S T H G f (nI 0) L))[6]? = some _ from rfl) rfl (show 2 < 3 by decide) rdx (by rw [px_len, px_len]; exact Nat.add_le_add_left (cc_lel (cc_rL_len _ _ _ _)) 6) (by rw [px_len, cc_len]; exact (show 6 + (15 + 5 * (cc_Lr u H L S).length) ≤ lw_SC by unfold lw_SC; omega)) (lg_wl (n := 21) rfl (by rw [px_len, cc_len]; omega)) k327
    exact lw_run hC hk 37 [true, true, false, false, false] [_, _] [(_, _), (_, _)] (And.intro (a0) (And.intro (a1) (And.intro ((show ¬ ¬ nI 6 = nI 6 from fun z => z rfl)) (And.intro (rfl) (And.intro (Nat.le_of_ble_eq_true rfl) (And.intro (wl) (And.intro (Nat.le_refl _) (And.intro (rfl) (And.intro (Nat.le_of_ble_eq_true rfl) (And.intro ((show ¬ q 5 = nI 2 by rw [q5]; exact d)) (And.intro ((show ¬ nI 1 = 0 by decide)) (And.intro (wx) (And.intro ((show (px_h q' on ze le re' tr (cc_h (nI u) S T H G f (nI 0) L)).length ≤ (px_h q on ze le re tr (cc_h (nI u) S T H G f (nI 0) L)).length by rw [px_len, px_len]; exact Nat.le_refl _)) (k324))))))))))))))
/-- settings -/
theorem lw_k3 (hC : lw_C p s m meth c D cA b) (ht : turn < 22) (hN : lw_N p l e s m below meth c D cA b Q (turn + 1)) (hok : cc_ok u H G L) (h : cr S fx) (hr : pr (cs_sp S) S q on ze le re tr) (hl : L.length ≤ turn + 1) (x y : Int32) : lw_G p l e s m below meth c D cA b Q (100 + 5 * turn) (2000 + 101 * turn) 153 ((11, .int (nI 7)) :: (10, .int y) :: (9, .int x) :: (8, .int (nI turn)) :: lw_B) [] (px_h q on ze le re tr (cc_h (nI u) S T H G f (nI 0) L)) := by
  have hk : 100 + 5 * turn ≤ 600000 ∧ 2000 + 101 * turn ≤ 7302250 := ⟨by omega, by omega⟩
  have hk2 : 100 + 5 * turn + 5 ≤ 600000 ∧ 2000 + 101 * turn + 101 ≤ 7302250 := ⟨by omega, by omega⟩
  have a0 : nI 2 ≤ nI 7 := by decide
  have a1 : nI 6 ≤ nI 7 := by decide
  have a2 : ¬ nI 7 = nI 6 := by decide
  obtain ⟨hok', hlen⟩ := cc_ok_rec (N := S) hok
  have hok2 := hok'
  obtain ⟨-, hH', hG', -⟩ := hok'
  have hoka := hok
  obtain ⟨-, hH, hG, -⟩ := hoka
  obtain ⟨r1, hr1, er1⟩ := pl_low_nI (x >>> (nI 3 &&& 31)) (n := 2) (by omega) (by omega)
  have wl1 := pl_low_ok l (px_h q on ze le re tr (cc_h (nI u) S T H G f (nI 0) L)) (x >>> (nI 3 &&& 31)) (n := 2) (by omega) (by omega)
  rw [er1] at wl1
  rcases (show r1 = 0 ∨ r1 = 1 by omega) with rfl | rfl
  · obtain ⟨r2, hr2, er2⟩ := pl_low_nI (x >>> (nI 5 &&& 31)) (n := 20) (by omega) (by omega)
    have wl2 := pl_low_ok l (px_h q on ze le re tr (cc_h (nI u) S T H G f (nI 0) L)) (x >>> (nI 5 &&& 31)) (n := 20) (by omega) (by omega)
    rw [er2] at wl2
    have cst := cc_set_1 (cc_rL_len _ _ _ _) (cc_set1_ok (l := l) (N := S) (T := T) (f := f) (pl := nI 0) (v := nI (1 + r2)) (decide_eq_true ⟨nI_nlt (by omega) (by omega), nI_nlt (by omega) (by omega)⟩) hok)
    have rdx := px_clsA (q := q) (on := on) (ze := ze) (le := le) (re := re) (tr := tr) cst (cc_rL_len _ _ _ _) hH hG hH' hG'
    have k := lw_427 (T := T) (f := f) (S := cs_wre S (nI (1 + r2))) hC hk2 (by omega) (by omega) hN hok2 (show cr _ _ from crp_re h (r := 1 + r2) (by omega) (by omega)) (pr_re hr (nI (1 + r2))) (by omega)
    have q1 : cs_re S = q 1 := hr.1.2.1.symm
    have k409 : ∀ w, w = nI 1 → lw_G p l e s m below meth c D cA b Q (100 + 5 * turn) (2000 + 101 * turn) 409 ((13, .int (nI (1 + r2))) :: (12, .int w) :: (11, .int (nI 7)) :: (10, .int y) :: (9, .int x) :: (8, .int (nI turn)) :: lw_B) ([.int (nI (1 + r2)), .int w] ++ [.ref 6]) (px_h q on ze le re tr (cc_h (nI u) S T H G f (nI 0) L)) := by
      intro w hw
      subst hw
      have k412 : lw_G p l e s m below meth c D cA b Q (100 + 5 * turn + 5) (2000 + 101 * turn + 101) 412 ((13, .int (nI (1 + r2))) :: (12, .int (nI 1)) :: (11, .int (nI 7)) :: (10, .int y) :: (9, .int x) :: (8, .int (nI turn)) :: lw_B) [.int (cs_re S)] (px_h q on ze le re tr (cc_h (nI (cm_ru u + 1)) (cs_wre S (nI (1 + r2))) T (cc_Hr u H L) G f (nI 0) (cc_Lr u H L S))) := by
        have hk := hk2
        exact lw_run hC hk 8 [true] [_, _] [] (And.intro (rfl) (And.intro (Nat.le_of_ble_eq_true rfl) (And.intro (q1) (And.intro (rfl) (And.intro (Nat.le_of_ble_eq_true rfl) (lg_less [5, 6, 7, 8, 9, 10, 11, 12, 13] rfl k))))))
      exact lg_callV (ic := mm_X2_set) (mc' := 5) (ms' := 101) hC hk2 rfl rfl rfl (by decide) (show (px_h q on ze le re tr (cc_h (nI u) S T H G f (nI 0) L))[6]? = some _ from rfl) rfl (show 2 < 3 by decide) rdx (by rw [px_len, px_len]; exact Nat.add_le_add_left (cc_lel (cc_rL_len _ _ _ _)) 6) (by rw [px_len, cc_len]; exact (show 6 + (15 + 5 * (cc_Lr u H L S).length) ≤ lw_SC by unfold lw_SC; omega)) (lg_wl (n := 21) rfl (by rw [px_len, cc_len]; omega)) k412
    have k2 := k409 (nI 1 + nI 0) (by decide)
    rw [← nI_add 1 r2] at k2
    exact lw_run hC hk 32 [true, true, true, false] [] [(_, _), (_, _)] (And.intro (a0) (And.intro (a1) (And.intro (a2) (And.intro (wl1) (And.intro (Nat.le_refl _) (And.intro ((show ¬ ¬ nI 1 + nI 0 = nI 1 from fun z => z (by decide))) (And.intro (wl2) (And.intro (Nat.le_refl _) (k2)))))))))
  · obtain ⟨r2, hr2, er2⟩ := pl_low_nI (x >>> (nI 5 &&& 31)) (n := 2) (by omega) (by omega)
    have wl2 := pl_low_ok l (px_h q on ze le re tr (cc_h (nI u) S T H G f (nI 0) L)) (x >>> (nI 5 &&& 31)) (n := 2) (by omega) (by omega)
    rw [er2] at wl2
    have hv : nI r2 = nI 0 ∨ nI r2 = nI 1 := by
      rcases (show r2 = 0 ∨ r2 = 1 by omega) with rfl | rfl
      · exact Or.inl rfl
      · exact Or.inr rfl
    have cst := cc_set_2 (cc_rL_len _ _ _ _) (cc_set2_ok (l := l) (N := S) (T := T) (f := f) (pl := nI 0) (v := nI r2) hv hok)
    have rdx := px_clsA (q := q) (on := on) (ze := ze) (le := le) (re := re) (tr := tr) cst (cc_rL_len _ _ _ _) hH hG hH' hG'
    have k := lw_427 (T := T) (f := f) (S := cs_wfi S (nI r2)) hC hk2 (by omega) (by omega) hN hok2 (show cr _ _ from crp_fi h hv) (pr_fi hr (nI r2)) (by omega)
    have q2 : cs_fi S = q 2 := hr.1.2.2.1.symm
    have k409 : ∀ w, w = nI 2 → lw_G p l e s m below meth c D cA b Q (100 + 5 * turn) (2000 + 101 * turn) 409 ((13, .int (nI r2)) :: (12, .int w) :: (11, .int (nI 7)) :: (10, .int y) :: (9, .int x) :: (8, .int (nI turn)) :: lw_B) ([.int (nI r2), .int w] ++ [.ref 6]) (px_h q on ze le re tr (cc_h (nI u) S T H G f (nI 0) L)) := by
      intro w hw
      subst hw
      have k412 : lw_G p l e s m below meth c D cA b Q (100 + 5 * turn + 5) (2000 + 101 * turn + 101) 412 ((13, .int (nI r2)) :: (12, .int (nI 2)) :: (11, .int (nI 7)) :: (10, .int y) :: (9, .int x) :: (8, .int (nI turn)) :: lw_B) [.int (cs_fi S)] (px_h q on ze le re tr (cc_h (nI (cm_ru u + 1)) (cs_wfi S (nI r2)) T (cc_Hr u H L) G f (nI 0) (cc_Lr u H L S))) := by
        have hk := hk2
        exact lw_run hC hk 8 [true] [_, _] [] (And.intro (rfl) (And.intro (Nat.le_of_ble_eq_true rfl) (And.intro (q2) (And.intro (rfl) (And.intro (Nat.le_of_ble_eq_true rfl) (lg_less [5, 6, 7, 8, 9, 10, 11, 12, 13] rfl k))))))
      exact lg_callV (ic := mm_X2_set) (mc' := 5) (ms' := 101) hC hk2 rfl rfl rfl (by decide) (show (px_h q on ze le re tr (cc_h (nI u) S T H G f (nI 0) L))[6]? = some _ from rfl) rfl (show 2 < 3 by decide) rdx (by rw [px_len, px_len]; exact Nat.add_le_add_left (cc_lel (cc_rL_len _ _ _ _)) 6) (by rw [px_len, cc_len]; exact (show 6 + (15 + 5 * (cc_Lr u H L S).length) ≤ lw_SC by unfold lw_SC; omega)) (lg_wl (n := 21) rfl (by rw [px_len, cc_len]; omega)) k412
    have k2 := k409 (nI 1 + nI 1) (by decide)
    exact lw_run hC hk 29 [true, true, true, true] [] [(_, _), (_, _)] (And.intro (a0) (And.intro (a1) (And.intro (a2) (And.intro (wl1) (And.intro (Nat.le_refl _) (And.intro ((show ¬ nI 1 + nI 1 = nI 1 by decide)) (And.intro (wl2) (And.intro (Nat.le_refl _) (k2)))))))))
end LW
end
section
/-! p24: the law's walk: all turns, from the beginning to the end -/
section LW
variable {p : Program} {l : Launch} {e : Env} {s : State} {m : MethodId} {below : List Frame} {meth : Method} {c : Code} {D : va_G} {cA : Nat → ClassId} {b : Nat} {Q : State → Prop}
theorem lw_end (hQ : ∀ H ls, W p l e room_1 s m #[Value.ref b] below meth c H [] 600000 7302250 Q (F0 m 453 ls [.int 1])) {kc ks : Nat} (hk : kc ≤ 600000 ∧ ks ≤ 7302250) {lv : cw_LV} {h : cw_H} : lw_G p l e s m below meth c D cA b Q kc ks 453 lv [.int (nI 1)] h := by
  intro ad H locs ls hkp hP hD hS hl
  refine va_forget (fun q hq => hS.2.2 q hq) ?_
  exact W.widen hk.1 hk.2 (hQ H ls)
theorem lw_turns (hC : lw_C p s m meth c D cA b) (hQ : ∀ H ls, W p l e room_1 s m #[Value.ref b] below meth c H [] 600000 7302250 Q (F0 m 453 ls [.int 1])) : ∀ n turn, turn + n = 22 → lw_N p l e s m below meth c D cA b Q turn := by
  intro n
  induction n with
  | zero =>
    intro turn ht u S T H G f L q on ze le re tr fx hok h hr hl
    obtain rfl : turn = 22 := by omega
    have hk : 100 + 5 * 22 ≤ 600000 ∧ 2000 + 101 * 22 ≤ 7302250 := ⟨Nat.le_of_ble_eq_true rfl, Nat.le_of_ble_eq_true rfl⟩
    exact lw_run hC hk 4 [true] [] [] (And.intro (Int32.le_refl _) (lw_end hQ hk))
  | succ n ih =>
    intro turn ht u S T H G f L q on ze le re tr fx hok h hr hl
    have hN := ih (turn + 1) (by omega)
    have h22 : turn < 22 := by omega
    have hk : 100 + 5 * turn ≤ 600000 ∧ 2000 + 101 * turn ≤ 7302250 := ⟨by omega, by omega⟩
    have h0 : ¬ nI 22 ≤ nI turn := nI_ge (by omega) (by omega)
    have kind : ∀ (r : Nat) (x y : Int32), r < 8 → lw_G p l e s m below meth c D cA b Q (100 + 5 * turn) (2000 + 101 * turn) 153 ((11, .int (nI r)) :: (10, .int y) :: (9, .int x) :: (8, .int (nI turn)) :: lw_B) [] (px_h q on ze le re tr (cc_h (nI u) S T H G f (nI 0) L)) := by
      intro r x y hr8
      by_cases c2 : r < 2
      · exact lw_k0 hC h22 hN hok h hr hl c2 x y
      · by_cases c6 : r < 6
        · exact lw_k1 hC h22 hN hok h hr hl (by omega) c6 x y
        · rcases (show r = 6 ∨ r = 7 by omega) with rfl | rfl
          · exact lw_k2 hC h22 hN hok h hr hl x y
          · exact lw_k3 hC h22 hN hok h hr hl x y
    have k131 : ∀ x y : Int32, lw_G p l e s m below meth c D cA b Q (100 + 5 * turn) (2000 + 101 * turn) 131 ((9, .int x) :: (8, .int (nI turn)) :: lw_B) [.int y] (px_h q on ze le re tr (cc_h (nI u) S T H G f (nI 0) L)) := by
      intro x y
      by_cases c6 : turn < 6
      · have a6 : ¬ nI 6 ≤ nI turn := nI_ge (by omega) (by omega)
        exact lw_run hC hk 7 [false] [] [] (And.intro (a6) (kind 0 x y (by omega)))
      · have a6 : nI 6 ≤ nI turn := nI_le (by omega) (by omega)
        obtain ⟨r, hr8, er⟩ := pl_low_nI x (n := 8) (by omega) (by omega)
        have wl := pl_low_ok l (px_h q on ze le re tr (cc_h (nI u) S T H G f (nI 0) L)) x (n := 8) (by omega) (by omega)
        rw [er] at wl
        exact lw_run hC hk 8 [true] [] [(_, _)] (And.intro (a6) (And.intro (wl) (And.intro (Nat.le_refl _) (kind r x y hr8))))
    have k128 : ∀ x : Int32, lw_G p l e s m below meth c D cA b Q (100 + 5 * turn) (2000 + 101 * turn) 128 ((9, .int x) :: (8, .int (nI turn)) :: lw_B) [.int (nI 2 + nI 2 * nI turn), .ref lw_SC] (px_h q on ze le re tr (cc_h (nI u) S T H G f (nI 0) L)) := by
      intro x
      rw [nI_2m turn (by omega), nI_add]
      exact lg_cell (rest := []) hC hk rfl (by omega) (Nat.zero_le _) (fun y => k131 x y)
    have k116 : lw_G p l e s m below meth c D cA b Q (100 + 5 * turn) (2000 + 101 * turn) 116 ((8, .int (nI turn)) :: lw_B) [.int (nI 1 + nI 2 * nI turn), .ref lw_SC] (px_h q on ze le re tr (cc_h (nI u) S T H G f (nI 0) L)) := by
      rw [nI_2m turn (by omega), nI_add]
      exact lg_cell (rest := []) hC hk rfl (by omega) (Nat.zero_le _) (fun x => lw_run hC hk 7 [] [] [] (k128 x))
    exact lw_run hC hk 9 [false] [] [] (And.intro (h0) (k116))
theorem lw_all (hC : lw_C p s m meth c D cA b) (hQ : ∀ H ls, W p l e room_1 s m #[Value.ref b] below meth c H [] 600000 7302250 Q (F0 m 453 ls [.int 1])) : lw_G p l e s m below meth c D cA b Q 0 0 0 [(0, .ref lw_SC)] [] [] :=
  lw_make hC (lw_first hC (lw_turns hC hQ 22 0 rfl))
end LW
end
section
/-! THE CLAIM OUT OF ONE WALK OF THE LAW'S BODY. Your part is whole_start (and what it stands on); all else here is the same for every law, but numbers. -/
def R_law : String := "ClauseWatchLaw"
def lw_P (b : Addr) (xs : List Int32) (args : Array Value) (s : State) : Prop := args = #[.ref b] ∧ s.IntsAt b xs ∧ xs.length ≤ 260 ∧ (Jvm.Cond.and given_1 narrow_1).before args s = true
def lw_Q (_ : Array Value) (s : State) (o : Outcome) (t : State) : Prop := o = .returned (some (.int 1)) ∧ Framed s o t [] 600000 7302250
def lw_Z (below : List Frame) (a : Array Value) (s : State) : State → Prop := fun t => ∃ o, t.status = .running ∧ Ended t below o ∧ lw_Q a s o t
/-- the law's own end, with 1 on the stack, nothing written that was there before, its room as the claim has it -/
theorem lw_ret {p : Program} {l : Launch} {e : Env} {s : State} {m : MethodId} {below : List Frame} {meth : Method} {c : Code} {b : Nat} (hx : p.tables.exec = Jvm.exec) (hb : c.code = code) (hr : meth.sig.returnType = ret) (hlocks : meth.locks = false) {pc : Nat} {H : Heap} {ls : Array Slot} (hdg : decode code pc = .ok (.ireturn, 1)) : W p l e room_1 s m #[Value.ref b] below meth c H [] 600000 7302250 (lw_Z below #[Value.ref b] s) (F0 m pc ls [.int 1]) := by
  intro T hT X
  obtain ⟨fs, hret, hrun, hended, hW, hframe⟩ := X.leave (v := some (.int 1)) (hlocks := hlocks) (fun h => by rw [hr] at h; cases h)
  have hmeth' : T.vm.method? m = some meth := X.method'
  refine ⟨T.setFrames fs, ?_, .returned (some (.int 1)), hrun, hended, rfl, ⟨_, rfl⟩, hW, hframe⟩
  jvm_step X.here [X.here.top, hx, hb, hdg, hmeth', hr, ret, narrow_b1]
  (try refine ⟨rfl, ?_⟩); (try refine ⟨rfl, ?_⟩)
  first | (intro acts; rw [hret _ acts rfl rfl rfl]) | rw [hret _ _ rfl rfl rfl]
  exact Steps.refl _
/-- what holds at the law's entry: the machine, the code, the tables' words (any of lw_tbl by 'hts w (by decide +kernel)'), the script of L ints xs at the cell b, what the Statement gives of the start (any of its parts by flat_of_before) -/
def lw_At (p : Program) (s : State) (m : MethodId) (meth : Method) (c : Code) (b L : Nat) (xs : Nat → Int32) : Prop :=
  p.tables.exec = Jvm.exec ∧ c.code = code ∧ meth.sig.returnType = ret ∧ c.maxLocals = 14 ∧ s.vm.findClass R_law = some m.cls ∧ (∀ w ∈ lw_tbl, w.before #[Value.ref b] s = true) ∧ va_X b L xs s s.heap ∧ b < s.heap.size ∧ meth.locks = false ∧ (Jvm.Cond.and given_1 narrow_1).before #[Value.ref b] s = true
theorem lw_Ks {s : State} {b : Nat} (hts : ∀ w ∈ lw_tbl, w.before #[Value.ref b] s = true) : ∃ (D : va_G) (cA : Nat → ClassId), cw_K D cA s := by
  have hT : ∀ w ∈ cw_T, w.before #[Value.ref b] s = true := fun w hw => hts w (List.mem_filter.mp hw).1
  have n0 := cw_nok 2 (30, 0) (cw_look_mem rfl)
  have n1 := cw_nok 2 (9, 1) (cw_look_mem rfl)
  have n2 := cw_nok 4 (37, 2) (cw_look_mem rfl)
  obtain ⟨c0, i0, k0⟩ := u_known (C := RX0) (T := TX0) (N := 2) (n := 2) hT (cw_in_u 0 (by omega)) (hT _ n0.2.2.1)
  obtain ⟨c1, i1, k1⟩ := u_known (C := RX1) (T := TX1) (N := 14) (n := 14) hT (cw_in_u 1 (by omega)) (hT _ n1.2.2.1)
  obtain ⟨c2, i2, k2⟩ := u_known (C := RX2) (T := TX2) (N := 6) (n := 6) hT (cw_in_u 2 (by omega)) (hT _ n2.2.2.1)
  obtain ⟨ci, ki, mi, f1, f2, f3⟩ := Cond.arrayClass_spec (hT _ cw_g_ai)
  obtain ⟨cc, kc, mc, g1, g2, g3⟩ := Cond.arrayClass_spec (hT _ cw_g_ac)
  have ho := hts (.arrayOver (.object RX1)) (List.mem_append_right _ (List.mem_append_left _ (List.mem_of_getElem? (i := 74) rfl)))
  obtain ⟨mo, co, ko, h1, -, h3, h4, h5⟩ := Cond.arrayOver_spec ho
  refine ⟨(fun k => match k with | 0 => c0 | 1 => c1 | _ => c2, fun k => match k with | 0 => i0 | 1 => i1 | _ => i2), fun k => match k with | 0 => ci | 1 => cc | _ => co, ⟨fun k q hq => ?_, fun k q hq => ?_⟩, va_AO.of ho, fun w hw => ?_⟩
  · match k, hq with
    | 0, hq => cases hq; exact k0
    | 1, hq => cases hq; exact k1
    | 2, hq => cases hq; exact k2
    | k + 3, hq => cases hq
  · match k, hq with
    | 0, hq => cases hq; exact ⟨fun N z => ⟨(fun k h => by cases h), ki, f2, mi, f3⟩, f1⟩
    | 1, hq => cases hq; exact ⟨fun N z => ⟨(fun k h => by cases h), kc, g2, mc, g3⟩, g1⟩
    | 2, hq => cases hq; exact ⟨fun N z => ⟨(fun k h => by cases h), ko, h3, mo, h4⟩, ko, mo, h3, h4, h1, h5⟩
    | k + 3, hq => cases hq
  · have h1 := hts w (List.mem_filter.mp hw).1
    have h2 := (List.mem_filter.mp hw).2
    unfold cw_isN at h2
    split at h2
    · exact va_Nw.of rfl h1
    · exact va_Nw.of rfl h1
    · cases h2
theorem lw_code_eq : code = cw_b mm_L_law := rfl

theorem whole_start {p : Program} {e : Env} {s : State} {m : MethodId} {below : List Frame} {meth : Method} {c : Code} (l : Launch) (hflags : l.flags = flags0) {b L : Nat} {xs : Nat → Int32} (hL : L ≤ 260) (C0 : lw_At p s m meth c b L xs) : W p l e room_1 s m #[Value.ref b] below meth c s.heap [] 0 0 (lw_Z below #[Value.ref b] s) (entryFrame m ([Value.ref b] : List Value).toArray 14) := by
  obtain ⟨hx, hb, hr, hml, hown, hts, hXs, hbl, hlocks, hgv⟩ := C0
  obtain ⟨D, cA, hK⟩ := lw_Ks hts
  have hC : lw_C p s m meth c D cA b := ⟨⟨hx, hb.trans lw_code_eq, hml, hown, fun w hw => hts w (List.mem_filter.mp hw).1, hK, ⟨Nat.le_of_ble_eq_true rfl, Nat.le_of_ble_eq_true rfl⟩, Nat.le_of_ble_eq_true rfl, fun z => absurd z (by decide), hr, hlocks⟩, ⟨L, xs, hL, hXs⟩, hbl⟩
  have hl := lv_entry ([.ref b]) (n := 14) (Nat.le_of_ble_eq_true rfl)
  rw [lg_entry_eq]
  generalize (lg_sl ([.ref b]) ++ List.replicate (14 - (lg_sl ([.ref b])).length) Slot.unset).toArray = ls at hl ⊢
  have hl : lv_has ls 14 [(0, .ref b)] := hl
  exact lw_all hC (fun H ls => lw_ret hx hb hr hlocks (by decide +kernel)) (fun _ => b) s.heap [] ls (fun _ _ => rfl) (fun k q h => (by cases h)) ⟨fun i j p q h => (by cases h), fun k q h => (by cases h)⟩ va_S.rf hl
set_option maxHeartbeats 4000000 in
theorem lw_walk (l : Launch) (hflags : l.flags = flags0) (b : Addr) (xs : List Int32) : MetFree l x (headSpec (Jvm.Cond.code x code maxLocals ret :: tables_1) room_1) (lw_P b xs) (fun _ _ _ _ _ => True) lw_Q := by
  refine MetFree.of_bodyS (code := code) (maxLocals := maxLocals) (ret := ret) (by decide) ?_ ?_
  · intro args s m h hn
    obtain ⟨meth, c, h1, h2, h3, h4, h5, h6, -, -⟩ := Cond.code_spec hn (atoms_spec (ws := Jvm.Cond.code x code maxLocals ret :: tables_1) h _ List.mem_cons_self)
    exact ⟨meth, c, h1, h2, h3, h4, h5, h6⟩
  · intro p e s m args below meth c s₁ B hml0 hP _
    obtain ⟨rfl, hx, hbd, hgv⟩ := hP
    obtain ⟨scr, harrAt, hlist, hof, hsmall⟩ := hx
    obtain ⟨hcb, hkn, -, -⟩ := State.arrayAt?_spec harrAt
    have hown : s.vm.findClass R_law = some m.cls := findClass_of_methodNamed B.named
    have hts0 : ∀ c ∈ (Jvm.Cond.code x code maxLocals ret :: tables_1), c.before #[Value.ref b] s = true := atoms_spec (ws := Jvm.Cond.code x code maxLocals ret :: tables_1) B.pre
    have hts : ∀ w ∈ lw_tbl, w.before #[Value.ref b] s = true := k2_hts_sels lw_privs (fun w hw => hts0 w (List.mem_cons_of_mem _ hw)) lw_privs_ok
    have hml : c.maxLocals = 14 := B.maxLocals_eq (hts0 _ List.mem_cons_self)
    have X₀ : Stand p l e room_1 s m #[Value.ref b] below meth c s₁ [] 0 0 := Stand.of_body B
    have hh0 : s₁.heap = s.heap := by rw [B.state]; rfl
    have hsz : scr.slots.size = xs.length := by rw [← Array.length_toList, hlist, List.length_map]
    have hval : ∀ j : Nat, j < xs.length → scr.slots[j]? = some (.int (xs.getD j 0)) := fun j hj => by
      rw [← Array.getElem?_toList, hlist]
      simp [hj]
    have hbl : b < s.heap.size := (Array.getElem?_eq_some_iff.mp hcb).1
    have hX : va_X b xs.length (fun j => xs.getD j 0) s s.heap := ⟨scr, hcb, hof, hkn, hsz, hval⟩
    have K : W p l e room_1 s m #[Value.ref b] below meth c s₁.heap [] 0 0 (lw_Z below #[Value.ref b] s) (entryFrame m ([Value.ref b] : List Value).toArray 14) := by
      rw [hh0]
      exact whole_start l hflags hbd ⟨B.exec, B.bytes, B.returns, hml, hown, hts, hX, hbl, B.notSynchronized, hgv⟩
    obtain ⟨t, a1, o, b1, b2, b3⟩ := K s₁ rfl X₀
    exact ⟨t, o, a1, b1, b2, b3⟩
theorem lw_pre_spec {args : Array Value} {s : State} (h : (Jvm.Cond.and given_1 narrow_1).before args s = true) (hr : rest_1_c.before args s = true) : ∃ (b : Addr) (xs : List Int32), lw_P b xs args s := by
  have hs := flat_of_before _ h
  have hq := flat_of_before _ hr
  have hc : (Cond.count 1).before args s = true := hs _ (by decide +kernel)
  have harr : (Cond.arrayOf (.arg 0) .int).before args s = true := hs _ (by decide +kernel)
  have hle : (Cond.le (.length (.arg 0)) (.int 260)).before args s = true := hs _ (by decide +kernel)
  have hlen : (Cond.isInt (.length (.arg 0))).before args s = true := hq _ (by decide +kernel)
  have hall : (Cond.all (.arg 0) (.isInt (.elem (.arg 0) (.index 0)))).before args s = true := hq _ (by decide +kernel)
  obtain ⟨b, xs, hb, hx⟩ := State.ints_of_pre rfl harr hlen hall
  have hsm : xs.length < 2 ^ 31 := hx.choose_spec.2.2.2
  have hev : (Term.length (.arg 0)).eval args s none [] s = some (.int xs.length.toInt32) := hx.length_eval hb
  have hv := Cond.le_ints hev (show (Term.int 260).eval args s none [] s = some (.int 260) from rfl)
  have hd : xs.length.toInt32 ≤ 260 := by
    simpa [Cond.before, Cond.holds, hv] using hle
  have hN : xs.length ≤ 260 := (Int32.ofNat_le_ofNat hsm (by decide)).mp (show Int32.ofNat xs.length ≤ Int32.ofNat 260 from hd)
  exact ⟨b, xs, Cond.one_arg hc (show args[0]? = some (.ref b) from hb), hx, hN, h⟩
theorem lw_comes (l : Launch) (hflags : l.flags = flags0) : Comes l x (Jvm.Cond.code x code maxLocals ret :: tables_1) room_1 (fun tb e args s => Calls_1 tb e args s ∧ rest_1 tb e args s ∧ Pre_1 tb e args s)
    (fun _ _ args s o t => lw_Q args s o t) := by
  intro p e ha hc hk s m args below hf hfit hheap happ hpre
  obtain ⟨b, xs, hP⟩ := lw_pre_spec hpre.2.2 hpre.2.1
  obtain ⟨k, o, h1, h2, h3, hQ⟩ := lw_walk l hflags b xs p e ha hc hk s m args below hf ((Spec.applies_iff_loose hf).mp happ).1 hP trivial
  exact ⟨k, o, h1, h2, h3, hQ⟩
theorem lw_frame {s t : State} {o : Outcome} {args : Array Value} (h : Framed s o t [] 600000 7302250) :
    Framed s o t (fieldLocs frame_1_writes args s ++ arrayLocs frame_1_arrays args s ++ staticLocs frame_1_statics s) 600000 7302250 := h
theorem lw_limb (L : Cond) (hL : ∀ (args : Array Value) (s t : State), L.after args s (.returned (some (.int 1))) t = true) :
    ArmFor flags0 classFile x code maxLocals ret World_1 tables_1 room_1 Calls_1 rest_1 Pre_1
      (fun tb e a s o t => postC L tb e a s o t ∧ Framed s o t (fieldLocs frame_1_writes a s ++ arrayLocs frame_1_arrays a s ++ staticLocs frame_1_statics s) 600000 7302250) := by
  intro l hflags _ _ p e ha hc hk s m args below hf hfit hheap happ hpre
  obtain ⟨k, o, h1, h2, h3, rfl, hF⟩ := lw_comes l hflags p e ha hc hk s m args below hf hfit hheap happ hpre
  exact ⟨k, _, h1, h2, h3, hL args s _, lw_frame hF⟩
theorem i_vc : Claimed_1_1 ∧ Claimed_1_2 := ⟨lw_limb limb_1_1 (fun args s t => by simp [limb_1_1, Cond.after, Cond.holds, Cond.value]), lw_limb limb_1_2 (fun args s t => Cond.after_iff.mpr (by
  first | (rw [show limb_1_2 = Cond.eq .result (.int 1) from rfl, Cond.eq_ints (x := 1) (y := 1) rfl rfl]; simp; done) | (simp [limb_1_2, Cond.value, Term.eval]; done)))⟩
end
