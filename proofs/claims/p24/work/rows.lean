section
-- ===== PART A: goes FIRST, ahead of the names: the tables' words, and 'selects' of the private methods out of them =====
/-- a private method of a class that the tables say can be made, by its rows of tables_1 -/
def lw_okq (q : MethodName × Nat) : Prop := (q.1.cls ≠ "java/lang/invoke/MethodHandle" ∧ q.1.cls ≠ "java/lang/invoke/VarHandle") ∧ Cond.instantiable q.1.cls q.2 ∈ tables_1 ∧ Cond.privateMethod q.1 ∈ tables_1 ∧ Cond.instanceMethod q.1 ∈ tables_1
theorem lw_p0 : lw_okq (⟨"ClauseWatch", "setThings", "(I)I"⟩, 6) := ⟨⟨by decide +kernel, by decide +kernel⟩, List.mem_of_getElem? (i := 8) (by decide +kernel), List.mem_of_getElem? (i := 114) (by decide +kernel), List.mem_of_getElem? (i := 115) (by decide +kernel)⟩
theorem lw_p1 : lw_okq (⟨"ClauseWatch$Search", "toldNeeds", "()I"⟩, 14) := ⟨⟨by decide +kernel, by decide +kernel⟩, List.mem_of_getElem? (i := 16) (by decide +kernel), List.mem_of_getElem? (i := 118) (by decide +kernel), List.mem_of_getElem? (i := 119) (by decide +kernel)⟩
theorem lw_p2 : lw_okq (⟨"ClauseWatch$Search", "clauseAt", "(I)I"⟩, 14) := ⟨⟨by decide +kernel, by decide +kernel⟩, List.mem_of_getElem? (i := 16) (by decide +kernel), List.mem_of_getElem? (i := 122) (by decide +kernel), List.mem_of_getElem? (i := 123) (by decide +kernel)⟩
theorem lw_p3 : lw_okq (⟨"ClauseWatch", "record", "()V"⟩, 6) := ⟨⟨by decide +kernel, by decide +kernel⟩, List.mem_of_getElem? (i := 8) (by decide +kernel), List.mem_of_getElem? (i := 136) (by decide +kernel), List.mem_of_getElem? (i := 137) (by decide +kernel)⟩
theorem lw_p4 : lw_okq (⟨"ClauseWatch", "moveOldestToEnd", "()V"⟩, 6) := ⟨⟨by decide +kernel, by decide +kernel⟩, List.mem_of_getElem? (i := 8) (by decide +kernel), List.mem_of_getElem? (i := 140) (by decide +kernel), List.mem_of_getElem? (i := 141) (by decide +kernel)⟩
theorem lw_p5 : lw_okq (⟨"ClauseWatch$Search", "copyFrom", "(LClauseWatch$Search;)V"⟩, 14) := ⟨⟨by decide +kernel, by decide +kernel⟩, List.mem_of_getElem? (i := 16) (by decide +kernel), List.mem_of_getElem? (i := 144) (by decide +kernel), List.mem_of_getElem? (i := 145) (by decide +kernel)⟩
theorem lw_p6 : lw_okq (⟨"ClauseWatch$Search", "beginAnew", "()V"⟩, 14) := ⟨⟨by decide +kernel, by decide +kernel⟩, List.mem_of_getElem? (i := 16) (by decide +kernel), List.mem_of_getElem? (i := 151) (by decide +kernel), List.mem_of_getElem? (i := 152) (by decide +kernel)⟩
theorem lw_p7 : lw_okq (⟨"ClauseWatch", "setRestart", "(I)I"⟩, 6) := ⟨⟨by decide +kernel, by decide +kernel⟩, List.mem_of_getElem? (i := 8) (by decide +kernel), List.mem_of_getElem? (i := 155) (by decide +kernel), List.mem_of_getElem? (i := 156) (by decide +kernel)⟩
theorem lw_p8 : lw_okq (⟨"ClauseWatch", "setFirst", "(I)I"⟩, 6) := ⟨⟨by decide +kernel, by decide +kernel⟩, List.mem_of_getElem? (i := 8) (by decide +kernel), List.mem_of_getElem? (i := 159) (by decide +kernel), List.mem_of_getElem? (i := 160) (by decide +kernel)⟩
theorem lw_p9 : lw_okq (⟨"ClauseWatch$Search", "doSteps", "(I)V"⟩, 14) := ⟨⟨by decide +kernel, by decide +kernel⟩, List.mem_of_getElem? (i := 16) (by decide +kernel), List.mem_of_getElem? (i := 167) (by decide +kernel), List.mem_of_getElem? (i := 168) (by decide +kernel)⟩
theorem lw_p10 : lw_okq (⟨"ClauseWatch$Search", "doOneStep", "()V"⟩, 14) := ⟨⟨by decide +kernel, by decide +kernel⟩, List.mem_of_getElem? (i := 16) (by decide +kernel), List.mem_of_getElem? (i := 171) (by decide +kernel), List.mem_of_getElem? (i := 172) (by decide +kernel)⟩
theorem lw_p11 : lw_okq (⟨"ClauseWatch$Search", "firstUntrue", "(I)I"⟩, 14) := ⟨⟨by decide +kernel, by decide +kernel⟩, List.mem_of_getElem? (i := 16) (by decide +kernel), List.mem_of_getElem? (i := 175) (by decide +kernel), List.mem_of_getElem? (i := 176) (by decide +kernel)⟩
theorem lw_p12 : lw_okq (⟨"ClauseWatch$Search", "isTrue", "(I)Z"⟩, 14) := ⟨⟨by decide +kernel, by decide +kernel⟩, List.mem_of_getElem? (i := 16) (by decide +kernel), List.mem_of_getElem? (i := 179) (by decide +kernel), List.mem_of_getElem? (i := 180) (by decide +kernel)⟩
theorem lw_p13 : lw_okq (⟨"ClauseWatch$Search", "openSigns", "(I)I"⟩, 14) := ⟨⟨by decide +kernel, by decide +kernel⟩, List.mem_of_getElem? (i := 16) (by decide +kernel), List.mem_of_getElem? (i := 183) (by decide +kernel), List.mem_of_getElem? (i := 184) (by decide +kernel)⟩
theorem lw_p14 : lw_okq (⟨"ClauseWatch$Search", "meetConflict", "(I)V"⟩, 14) := ⟨⟨by decide +kernel, by decide +kernel⟩, List.mem_of_getElem? (i := 16) (by decide +kernel), List.mem_of_getElem? (i := 193) (by decide +kernel), List.mem_of_getElem? (i := 194) (by decide +kernel)⟩
theorem lw_p15 : lw_okq (⟨"ClauseWatch$Search", "presentLevel", "()I"⟩, 14) := ⟨⟨by decide +kernel, by decide +kernel⟩, List.mem_of_getElem? (i := 16) (by decide +kernel), List.mem_of_getElem? (i := 197) (by decide +kernel), List.mem_of_getElem? (i := 198) (by decide +kernel)⟩
def lw_privs_1 : List (MethodName × Nat) := [(⟨"ClauseWatch", "setThings", "(I)I"⟩, 6), (⟨"ClauseWatch$Search", "toldNeeds", "()I"⟩, 14), (⟨"ClauseWatch$Search", "clauseAt", "(I)I"⟩, 14), (⟨"ClauseWatch", "record", "()V"⟩, 6), (⟨"ClauseWatch", "moveOldestToEnd", "()V"⟩, 6), (⟨"ClauseWatch$Search", "copyFrom", "(LClauseWatch$Search;)V"⟩, 14), (⟨"ClauseWatch$Search", "beginAnew", "()V"⟩, 14), (⟨"ClauseWatch", "setRestart", "(I)I"⟩, 6), (⟨"ClauseWatch", "setFirst", "(I)I"⟩, 6), (⟨"ClauseWatch$Search", "doSteps", "(I)V"⟩, 14), (⟨"ClauseWatch$Search", "doOneStep", "()V"⟩, 14), (⟨"ClauseWatch$Search", "firstUntrue", "(I)I"⟩, 14), (⟨"ClauseWatch$Search", "isTrue", "(I)Z"⟩, 14), (⟨"ClauseWatch$Search", "openSigns", "(I)I"⟩, 14), (⟨"ClauseWatch$Search", "meetConflict", "(I)V"⟩, 14), (⟨"ClauseWatch$Search", "presentLevel", "()I"⟩, 14)]
theorem lw_r1 : ∀ q ∈ lw_privs_1, lw_okq q := List.forall_mem_cons.mpr ⟨lw_p0, List.forall_mem_cons.mpr ⟨lw_p1, List.forall_mem_cons.mpr ⟨lw_p2, List.forall_mem_cons.mpr ⟨lw_p3, List.forall_mem_cons.mpr ⟨lw_p4, List.forall_mem_cons.mpr ⟨lw_p5, List.forall_mem_cons.mpr ⟨lw_p6, List.forall_mem_cons.mpr ⟨lw_p7, List.forall_mem_cons.mpr ⟨lw_p8, List.forall_mem_cons.mpr ⟨lw_p9, List.forall_mem_cons.mpr ⟨lw_p10, List.forall_mem_cons.mpr ⟨lw_p11, List.forall_mem_cons.mpr ⟨lw_p12, List.forall_mem_cons.mpr ⟨lw_p13, List.forall_mem_cons.mpr ⟨lw_p14, List.forall_mem_cons.mpr ⟨lw_p15, fun _ h => absurd h List.not_mem_nil⟩⟩⟩⟩⟩⟩⟩⟩⟩⟩⟩⟩⟩⟩⟩⟩
theorem lw_p16 : lw_okq (⟨"ClauseWatch$Search", "levelAt", "(I)I"⟩, 14) := ⟨⟨by decide +kernel, by decide +kernel⟩, List.mem_of_getElem? (i := 16) (by decide +kernel), List.mem_of_getElem? (i := 201) (by decide +kernel), List.mem_of_getElem? (i := 202) (by decide +kernel)⟩
theorem lw_p17 : lw_okq (⟨"ClauseWatch$Search", "clauseOutOf", "(I)I"⟩, 14) := ⟨⟨by decide +kernel, by decide +kernel⟩, List.mem_of_getElem? (i := 16) (by decide +kernel), List.mem_of_getElem? (i := 205) (by decide +kernel), List.mem_of_getElem? (i := 206) (by decide +kernel)⟩
theorem lw_p18 : lw_okq (⟨"ClauseWatch$Search", "signsOfPresentLevel", "()I"⟩, 14) := ⟨⟨by decide +kernel, by decide +kernel⟩, List.mem_of_getElem? (i := 16) (by decide +kernel), List.mem_of_getElem? (i := 209) (by decide +kernel), List.mem_of_getElem? (i := 210) (by decide +kernel)⟩
theorem lw_p19 : lw_okq (⟨"ClauseWatch$Search", "signAt", "(I)I"⟩, 14) := ⟨⟨by decide +kernel, by decide +kernel⟩, List.mem_of_getElem? (i := 16) (by decide +kernel), List.mem_of_getElem? (i := 213) (by decide +kernel), List.mem_of_getElem? (i := 214) (by decide +kernel)⟩
theorem lw_p20 : lw_okq (⟨"ClauseWatch$Search", "reasonAt", "(I)I"⟩, 14) := ⟨⟨by decide +kernel, by decide +kernel⟩, List.mem_of_getElem? (i := 16) (by decide +kernel), List.mem_of_getElem? (i := 221) (by decide +kernel), List.mem_of_getElem? (i := 222) (by decide +kernel)⟩
theorem lw_p21 : lw_okq (⟨"ClauseWatch$Search", "levelBelowPresent", "(I)I"⟩, 14) := ⟨⟨by decide +kernel, by decide +kernel⟩, List.mem_of_getElem? (i := 16) (by decide +kernel), List.mem_of_getElem? (i := 225) (by decide +kernel), List.mem_of_getElem? (i := 226) (by decide +kernel)⟩
theorem lw_p22 : lw_okq (⟨"ClauseWatch$Search", "goBackTo", "(I)V"⟩, 14) := ⟨⟨by decide +kernel, by decide +kernel⟩, List.mem_of_getElem? (i := 16) (by decide +kernel), List.mem_of_getElem? (i := 232) (by decide +kernel), List.mem_of_getElem? (i := 233) (by decide +kernel)⟩
theorem lw_p23 : lw_okq (⟨"ClauseWatch$Search", "forgetEarliestWithoutUse", "()V"⟩, 14) := ⟨⟨by decide +kernel, by decide +kernel⟩, List.mem_of_getElem? (i := 16) (by decide +kernel), List.mem_of_getElem? (i := 236) (by decide +kernel), List.mem_of_getElem? (i := 237) (by decide +kernel)⟩
theorem lw_p24 : lw_okq (⟨"ClauseWatch$Search", "isReason", "(I)Z"⟩, 14) := ⟨⟨by decide +kernel, by decide +kernel⟩, List.mem_of_getElem? (i := 16) (by decide +kernel), List.mem_of_getElem? (i := 240) (by decide +kernel), List.mem_of_getElem? (i := 241) (by decide +kernel)⟩
theorem lw_p25 : lw_okq (⟨"ClauseWatch$Search", "removeClause", "(I)V"⟩, 14) := ⟨⟨by decide +kernel, by decide +kernel⟩, List.mem_of_getElem? (i := 16) (by decide +kernel), List.mem_of_getElem? (i := 244) (by decide +kernel), List.mem_of_getElem? (i := 245) (by decide +kernel)⟩
theorem lw_p26 : lw_okq (⟨"ClauseWatch$Search", "lowerReasonsAbove", "(I)V"⟩, 14) := ⟨⟨by decide +kernel, by decide +kernel⟩, List.mem_of_getElem? (i := 16) (by decide +kernel), List.mem_of_getElem? (i := 248) (by decide +kernel), List.mem_of_getElem? (i := 249) (by decide +kernel)⟩
theorem lw_p27 : lw_okq (⟨"ClauseWatch$Search", "learn", "(I)V"⟩, 14) := ⟨⟨by decide +kernel, by decide +kernel⟩, List.mem_of_getElem? (i := 16) (by decide +kernel), List.mem_of_getElem? (i := 252) (by decide +kernel), List.mem_of_getElem? (i := 253) (by decide +kernel)⟩
theorem lw_p28 : lw_okq (⟨"ClauseWatch$Search", "give", "(III)V"⟩, 14) := ⟨⟨by decide +kernel, by decide +kernel⟩, List.mem_of_getElem? (i := 16) (by decide +kernel), List.mem_of_getElem? (i := 262) (by decide +kernel), List.mem_of_getElem? (i := 263) (by decide +kernel)⟩
theorem lw_p29 : lw_okq (⟨"ClauseWatch$Search", "lowestOpenThing", "()I"⟩, 14) := ⟨⟨by decide +kernel, by decide +kernel⟩, List.mem_of_getElem? (i := 16) (by decide +kernel), List.mem_of_getElem? (i := 266) (by decide +kernel), List.mem_of_getElem? (i := 267) (by decide +kernel)⟩
theorem lw_p30 : lw_okq (⟨"ClauseWatch", "isNoThing", "(I)Z"⟩, 6) := ⟨⟨by decide +kernel, by decide +kernel⟩, List.mem_of_getElem? (i := 8) (by decide +kernel), List.mem_of_getElem? (i := 313) (by decide +kernel), List.mem_of_getElem? (i := 314) (by decide +kernel)⟩
theorem lw_p31 : lw_okq (⟨"ClauseWatch$Search", "placeOf", "(I)I"⟩, 14) := ⟨⟨by decide +kernel, by decide +kernel⟩, List.mem_of_getElem? (i := 16) (by decide +kernel), List.mem_of_getElem? (i := 317) (by decide +kernel), List.mem_of_getElem? (i := 318) (by decide +kernel)⟩
def lw_privs_2 : List (MethodName × Nat) := [(⟨"ClauseWatch$Search", "levelAt", "(I)I"⟩, 14), (⟨"ClauseWatch$Search", "clauseOutOf", "(I)I"⟩, 14), (⟨"ClauseWatch$Search", "signsOfPresentLevel", "()I"⟩, 14), (⟨"ClauseWatch$Search", "signAt", "(I)I"⟩, 14), (⟨"ClauseWatch$Search", "reasonAt", "(I)I"⟩, 14), (⟨"ClauseWatch$Search", "levelBelowPresent", "(I)I"⟩, 14), (⟨"ClauseWatch$Search", "goBackTo", "(I)V"⟩, 14), (⟨"ClauseWatch$Search", "forgetEarliestWithoutUse", "()V"⟩, 14), (⟨"ClauseWatch$Search", "isReason", "(I)Z"⟩, 14), (⟨"ClauseWatch$Search", "removeClause", "(I)V"⟩, 14), (⟨"ClauseWatch$Search", "lowerReasonsAbove", "(I)V"⟩, 14), (⟨"ClauseWatch$Search", "learn", "(I)V"⟩, 14), (⟨"ClauseWatch$Search", "give", "(III)V"⟩, 14), (⟨"ClauseWatch$Search", "lowestOpenThing", "()I"⟩, 14), (⟨"ClauseWatch", "isNoThing", "(I)Z"⟩, 6), (⟨"ClauseWatch$Search", "placeOf", "(I)I"⟩, 14)]
theorem lw_r2 : ∀ q ∈ lw_privs_2, lw_okq q := List.forall_mem_cons.mpr ⟨lw_p16, List.forall_mem_cons.mpr ⟨lw_p17, List.forall_mem_cons.mpr ⟨lw_p18, List.forall_mem_cons.mpr ⟨lw_p19, List.forall_mem_cons.mpr ⟨lw_p20, List.forall_mem_cons.mpr ⟨lw_p21, List.forall_mem_cons.mpr ⟨lw_p22, List.forall_mem_cons.mpr ⟨lw_p23, List.forall_mem_cons.mpr ⟨lw_p24, List.forall_mem_cons.mpr ⟨lw_p25, List.forall_mem_cons.mpr ⟨lw_p26, List.forall_mem_cons.mpr ⟨lw_p27, List.forall_mem_cons.mpr ⟨lw_p28, List.forall_mem_cons.mpr ⟨lw_p29, List.forall_mem_cons.mpr ⟨lw_p30, List.forall_mem_cons.mpr ⟨lw_p31, fun _ h => absurd h List.not_mem_nil⟩⟩⟩⟩⟩⟩⟩⟩⟩⟩⟩⟩⟩⟩⟩⟩
theorem lw_p32 : lw_okq (⟨"ClauseWatch", "isNoClause", "(I)Z"⟩, 6) := ⟨⟨by decide +kernel, by decide +kernel⟩, List.mem_of_getElem? (i := 8) (by decide +kernel), List.mem_of_getElem? (i := 336) (by decide +kernel), List.mem_of_getElem? (i := 337) (by decide +kernel)⟩
theorem lw_p33 : lw_okq (⟨"ClauseWatch$Pad", "empty", "()V"⟩, 2) := ⟨⟨by decide +kernel, by decide +kernel⟩, List.mem_of_getElem? (i := 76) (by decide +kernel), List.mem_of_getElem? (i := 356) (by decide +kernel), List.mem_of_getElem? (i := 357) (by decide +kernel)⟩
theorem lw_p34 : lw_okq (⟨"ClauseWatch$Pad", "append", "(JI)V"⟩, 2) := ⟨⟨by decide +kernel, by decide +kernel⟩, List.mem_of_getElem? (i := 76) (by decide +kernel), List.mem_of_getElem? (i := 372) (by decide +kernel), List.mem_of_getElem? (i := 373) (by decide +kernel)⟩
theorem lw_p35 : lw_okq (⟨"ClauseWatch$Pad", "firstFault", "()I"⟩, 2) := ⟨⟨by decide +kernel, by decide +kernel⟩, List.mem_of_getElem? (i := 76) (by decide +kernel), List.mem_of_getElem? (i := 385) (by decide +kernel), List.mem_of_getElem? (i := 386) (by decide +kernel)⟩
theorem lw_p36 : lw_okq (⟨"ClauseWatch$Pad", "characterAt", "(I)C"⟩, 2) := ⟨⟨by decide +kernel, by decide +kernel⟩, List.mem_of_getElem? (i := 76) (by decide +kernel), List.mem_of_getElem? (i := 389) (by decide +kernel), List.mem_of_getElem? (i := 390) (by decide +kernel)⟩
theorem lw_p37 : lw_okq (⟨"ClauseWatch$Pad", "greatestThing", "()I"⟩, 2) := ⟨⟨by decide +kernel, by decide +kernel⟩, List.mem_of_getElem? (i := 76) (by decide +kernel), List.mem_of_getElem? (i := 393) (by decide +kernel), List.mem_of_getElem? (i := 394) (by decide +kernel)⟩
theorem lw_p38 : lw_okq (⟨"ClauseWatch$Pad", "howManyClauses", "()I"⟩, 2) := ⟨⟨by decide +kernel, by decide +kernel⟩, List.mem_of_getElem? (i := 76) (by decide +kernel), List.mem_of_getElem? (i := 401) (by decide +kernel), List.mem_of_getElem? (i := 402) (by decide +kernel)⟩
theorem lw_p39 : lw_okq (⟨"ClauseWatch$Pad", "tellClausesTo", "(LClauseWatch$Search;)V"⟩, 2) := ⟨⟨by decide +kernel, by decide +kernel⟩, List.mem_of_getElem? (i := 76) (by decide +kernel), List.mem_of_getElem? (i := 405) (by decide +kernel), List.mem_of_getElem? (i := 406) (by decide +kernel)⟩
theorem lw_p40 : lw_okq (⟨"ClauseWatch$Search", "tell", "(I)V"⟩, 14) := ⟨⟨by decide +kernel, by decide +kernel⟩, List.mem_of_getElem? (i := 16) (by decide +kernel), List.mem_of_getElem? (i := 411) (by decide +kernel), List.mem_of_getElem? (i := 412) (by decide +kernel)⟩
def lw_privs_3 : List (MethodName × Nat) := [(⟨"ClauseWatch", "isNoClause", "(I)Z"⟩, 6), (⟨"ClauseWatch$Pad", "empty", "()V"⟩, 2), (⟨"ClauseWatch$Pad", "append", "(JI)V"⟩, 2), (⟨"ClauseWatch$Pad", "firstFault", "()I"⟩, 2), (⟨"ClauseWatch$Pad", "characterAt", "(I)C"⟩, 2), (⟨"ClauseWatch$Pad", "greatestThing", "()I"⟩, 2), (⟨"ClauseWatch$Pad", "howManyClauses", "()I"⟩, 2), (⟨"ClauseWatch$Pad", "tellClausesTo", "(LClauseWatch$Search;)V"⟩, 2), (⟨"ClauseWatch$Search", "tell", "(I)V"⟩, 14)]
theorem lw_r3 : ∀ q ∈ lw_privs_3, lw_okq q := List.forall_mem_cons.mpr ⟨lw_p32, List.forall_mem_cons.mpr ⟨lw_p33, List.forall_mem_cons.mpr ⟨lw_p34, List.forall_mem_cons.mpr ⟨lw_p35, List.forall_mem_cons.mpr ⟨lw_p36, List.forall_mem_cons.mpr ⟨lw_p37, List.forall_mem_cons.mpr ⟨lw_p38, List.forall_mem_cons.mpr ⟨lw_p39, List.forall_mem_cons.mpr ⟨lw_p40, fun _ h => absurd h List.not_mem_nil⟩⟩⟩⟩⟩⟩⟩⟩⟩
def lw_privs : List (MethodName × Nat) := lw_privs_1 ++ (lw_privs_2 ++ (lw_privs_3))
def lw_tbl : List Cond := k2_sels lw_privs ++ tables_1
theorem lw_privs_ok : ∀ q ∈ lw_privs, lw_okq q := by
  show ∀ q ∈ lw_privs_1 ++ (lw_privs_2 ++ (lw_privs_3)), lw_okq q
  exact List.forall_mem_append.mpr ⟨lw_r1, List.forall_mem_append.mpr ⟨lw_r2, lw_r3⟩⟩
end
section
/-! ===== BEGIN printed: names, fields, word lists, decode rows ===== -/
def RX0 : String := "ClauseWatch$Pad"
def TX0 : u_T := fun k => match k with
  | 0 => ("ClauseWatch$Pad", "characters", "[C", true)
  | _ => ("ClauseWatch$Pad", "length", "I", false)
def tyX0 : Nat → FieldType := fun k => match k with
  | 0 => .array .char
  | _ => .int
abbrev wsX00 : List Cond := u_ws RX0 TX0 2
theorem nmX0 : ∀ a, a < 2 → ∀ b, b < 2 → a ≠ b → (TX0 a).2.1 ≠ (TX0 b).2.1 := by decide +kernel
theorem tyX0_ok : ∀ k, k < 2 → parseFieldDescriptor (TX0 k).2.2.1 = some (tyX0 k) := by decide +kernel
abbrev cX0_init : ByteArray := prog_2_method_1_code
def yX0_init : MethodName := ⟨RX0, "<init>", "()V"⟩
abbrev cX0_empty : ByteArray := prog_2_method_2_code
def yX0_empty : MethodName := ⟨RX0, "empty", "()V"⟩
abbrev cX0_charactersIn : ByteArray := prog_2_method_3_code
def yX0_charactersIn : MethodName := ⟨RX0, "charactersIn", "(J)I"⟩
abbrev cX0_codeIn : ByteArray := prog_2_method_4_code
def yX0_codeIn : MethodName := ⟨RX0, "codeIn", "(JI)I"⟩
abbrev cX0_append : ByteArray := prog_2_method_5_code
def yX0_append : MethodName := ⟨RX0, "append", "(JI)V"⟩
abbrev cX0_characterAt : ByteArray := prog_2_method_6_code
def yX0_characterAt : MethodName := ⟨RX0, "characterAt", "(I)C"⟩
abbrev cX0_firstFault : ByteArray := prog_2_method_7_code
def yX0_firstFault : MethodName := ⟨RX0, "firstFault", "()I"⟩
abbrev cX0_isDigit : ByteArray := prog_2_method_8_code
def yX0_isDigit : MethodName := ⟨RX0, "isDigit", "(C)Z"⟩
abbrev cX0_greatestThing : ByteArray := prog_2_method_9_code
def yX0_greatestThing : MethodName := ⟨RX0, "greatestThing", "()I"⟩
abbrev cX0_howManyClauses : ByteArray := prog_2_method_10_code
def yX0_howManyClauses : MethodName := ⟨RX0, "howManyClauses", "()I"⟩
abbrev cX0_tellClausesTo : ByteArray := prog_2_method_11_code
def yX0_tellClausesTo : MethodName := ⟨RX0, "tellClausesTo", "(LClauseWatch$Search;)V"⟩
def RX1 : String := "ClauseWatch$Search"
def TX1 : u_T := fun k => match k with
  | 0 => ("ClauseWatch$Search", "things", "I", false)
  | 1 => ("ClauseWatch$Search", "restart", "I", false)
  | 2 => ("ClauseWatch$Search", "first", "I", false)
  | 3 => ("ClauseWatch$Search", "told", "I", false)
  | 4 => ("ClauseWatch$Search", "learned", "I", false)
  | 5 => ("ClauseWatch$Search", "clauses", "[I", true)
  | 6 => ("ClauseWatch$Search", "given", "I", false)
  | 7 => ("ClauseWatch$Search", "signs", "[I", true)
  | 8 => ("ClauseWatch$Search", "levels", "[I", true)
  | 9 => ("ClauseWatch$Search", "reasons", "[I", true)
  | 10 => ("ClauseWatch$Search", "values", "I", false)
  | 11 => ("ClauseWatch$Search", "stands", "I", false)
  | 12 => ("ClauseWatch$Search", "conflicts", "I", false)
  | _ => ("ClauseWatch$Search", "steps", "I", false)
def tyX1 : Nat → FieldType := fun k => match k with
  | 0 => .int
  | 1 => .int
  | 2 => .int
  | 3 => .int
  | 4 => .int
  | 5 => .array .int
  | 6 => .int
  | 7 => .array .int
  | 8 => .array .int
  | 9 => .array .int
  | 10 => .int
  | 11 => .int
  | 12 => .int
  | _ => .int
abbrev wsX10 : List Cond := u_ws RX1 TX1 14
theorem nmX1 : ∀ a, a < 14 → ∀ b, b < 14 → a ≠ b → (TX1 a).2.1 ≠ (TX1 b).2.1 := by decide +kernel
theorem tyX1_ok : ∀ k, k < 14 → parseFieldDescriptor (TX1 k).2.2.1 = some (tyX1 k) := by decide +kernel
abbrev cX1_init : ByteArray := prog_3_method_1_code
def yX1_init : MethodName := ⟨RX1, "<init>", "()V"⟩
abbrev cX1_copyFrom : ByteArray := prog_3_method_2_code
def yX1_copyFrom : MethodName := ⟨RX1, "copyFrom", "(LClauseWatch$Search;)V"⟩
abbrev cX1_beginAnew : ByteArray := prog_3_method_3_code
def yX1_beginAnew : MethodName := ⟨RX1, "beginAnew", "()V"⟩
abbrev cX1_clauseAt : ByteArray := prog_3_method_4_code
def yX1_clauseAt : MethodName := ⟨RX1, "clauseAt", "(I)I"⟩
abbrev cX1_tell : ByteArray := prog_3_method_5_code
def yX1_tell : MethodName := ⟨RX1, "tell", "(I)V"⟩
abbrev cX1_removeClause : ByteArray := prog_3_method_6_code
def yX1_removeClause : MethodName := ⟨RX1, "removeClause", "(I)V"⟩
abbrev cX1_toldNeeds : ByteArray := prog_3_method_7_code
def yX1_toldNeeds : MethodName := ⟨RX1, "toldNeeds", "()I"⟩
abbrev cX1_isTrue : ByteArray := prog_3_method_8_code
def yX1_isTrue : MethodName := ⟨RX1, "isTrue", "(I)Z"⟩
abbrev cX1_openSigns : ByteArray := prog_3_method_9_code
def yX1_openSigns : MethodName := ⟨RX1, "openSigns", "(I)I"⟩
abbrev cX1_firstUntrue : ByteArray := prog_3_method_10_code
def yX1_firstUntrue : MethodName := ⟨RX1, "firstUntrue", "(I)I"⟩
abbrev cX1_signAt : ByteArray := prog_3_method_14_code
def yX1_signAt : MethodName := ⟨RX1, "signAt", "(I)I"⟩
abbrev cX1_levelAt : ByteArray := prog_3_method_15_code
def yX1_levelAt : MethodName := ⟨RX1, "levelAt", "(I)I"⟩
abbrev cX1_reasonAt : ByteArray := prog_3_method_16_code
def yX1_reasonAt : MethodName := ⟨RX1, "reasonAt", "(I)I"⟩
abbrev cX1_presentLevel : ByteArray := prog_3_method_17_code
def yX1_presentLevel : MethodName := ⟨RX1, "presentLevel", "()I"⟩
abbrev cX1_placeOf : ByteArray := prog_3_method_18_code
def yX1_placeOf : MethodName := ⟨RX1, "placeOf", "(I)I"⟩
abbrev cX1_give : ByteArray := prog_3_method_19_code
def yX1_give : MethodName := ⟨RX1, "give", "(III)V"⟩
abbrev cX1_goBackTo : ByteArray := prog_3_method_20_code
def yX1_goBackTo : MethodName := ⟨RX1, "goBackTo", "(I)V"⟩
abbrev cX1_isReason : ByteArray := prog_3_method_21_code
def yX1_isReason : MethodName := ⟨RX1, "isReason", "(I)Z"⟩
abbrev cX1_lowestOpenThing : ByteArray := prog_3_method_22_code
def yX1_lowestOpenThing : MethodName := ⟨RX1, "lowestOpenThing", "()I"⟩
abbrev cX1_doSteps : ByteArray := prog_3_method_23_code
def yX1_doSteps : MethodName := ⟨RX1, "doSteps", "(I)V"⟩
abbrev cX1_doOneStep : ByteArray := prog_3_method_24_code
def yX1_doOneStep : MethodName := ⟨RX1, "doOneStep", "()V"⟩
abbrev cX1_meetConflict : ByteArray := prog_3_method_25_code
def yX1_meetConflict : MethodName := ⟨RX1, "meetConflict", "(I)V"⟩
abbrev cX1_clauseOutOf : ByteArray := prog_3_method_26_code
def yX1_clauseOutOf : MethodName := ⟨RX1, "clauseOutOf", "(I)I"⟩
abbrev cX1_signsOfPresentLevel : ByteArray := prog_3_method_27_code
def yX1_signsOfPresentLevel : MethodName := ⟨RX1, "signsOfPresentLevel", "()I"⟩
abbrev cX1_levelBelowPresent : ByteArray := prog_3_method_28_code
def yX1_levelBelowPresent : MethodName := ⟨RX1, "levelBelowPresent", "(I)I"⟩
abbrev cX1_learn : ByteArray := prog_3_method_29_code
def yX1_learn : MethodName := ⟨RX1, "learn", "(I)V"⟩
abbrev cX1_forgetEarliestWithoutUse : ByteArray := prog_3_method_30_code
def yX1_forgetEarliestWithoutUse : MethodName := ⟨RX1, "forgetEarliestWithoutUse", "()V"⟩
abbrev cX1_lowerReasonsAbove : ByteArray := prog_3_method_31_code
def yX1_lowerReasonsAbove : MethodName := ⟨RX1, "lowerReasonsAbove", "(I)V"⟩
def RX2 : String := "ClauseWatch"
def TX2 : u_T := fun k => match k with
  | 0 => ("ClauseWatch", "now", "LClauseWatch$Search;", true)
  | 1 => ("ClauseWatch", "trial", "LClauseWatch$Search;", true)
  | 2 => ("ClauseWatch", "history", "[LClauseWatch$Search;", true)
  | 3 => ("ClauseWatch", "undoable", "I", false)
  | 4 => ("ClauseWatch", "slots", "[LClauseWatch$Search;", true)
  | _ => ("ClauseWatch", "pad", "LClauseWatch$Pad;", true)
def tyX2 : Nat → FieldType := fun k => match k with
  | 0 => .object "ClauseWatch$Search"
  | 1 => .object "ClauseWatch$Search"
  | 2 => .array (.object "ClauseWatch$Search")
  | 3 => .int
  | 4 => .array (.object "ClauseWatch$Search")
  | _ => .object "ClauseWatch$Pad"
abbrev wsX20 : List Cond := u_ws RX2 TX2 6
theorem nmX2 : ∀ a, a < 6 → ∀ b, b < 6 → a ≠ b → (TX2 a).2.1 ≠ (TX2 b).2.1 := by decide +kernel
theorem tyX2_ok : ∀ k, k < 6 → parseFieldDescriptor (TX2 k).2.2.1 = some (tyX2 k) := by decide +kernel
abbrev cX2_init : ByteArray := prog_1_method_1_code
def yX2_init : MethodName := ⟨RX2, "<init>", "()V"⟩
abbrev cX2_set : ByteArray := prog_1_method_2_code
def yX2_set : MethodName := ⟨RX2, "set", "(II)I"⟩
abbrev cX2_setThings : ByteArray := prog_1_method_3_code
def yX2_setThings : MethodName := ⟨RX2, "setThings", "(I)I"⟩
abbrev cX2_setRestart : ByteArray := prog_1_method_4_code
def yX2_setRestart : MethodName := ⟨RX2, "setRestart", "(I)I"⟩
abbrev cX2_setFirst : ByteArray := prog_1_method_5_code
def yX2_setFirst : MethodName := ⟨RX2, "setFirst", "(I)I"⟩
abbrev cX2_read : ByteArray := prog_1_method_6_code
def yX2_read : MethodName := ⟨RX2, "read", "()I"⟩
abbrev cX2_step : ByteArray := prog_1_method_8_code
def yX2_step : MethodName := ⟨RX2, "step", "(I)I"⟩
abbrev cX2_back : ByteArray := prog_1_method_9_code
def yX2_back : MethodName := ⟨RX2, "back", "(I)I"⟩
abbrev cX2_of : ByteArray := prog_1_method_10_code
def yX2_of : MethodName := ⟨RX2, "of", "(II)I"⟩
abbrev cX2_trail : ByteArray := prog_1_method_11_code
def yX2_trail : MethodName := ⟨RX2, "trail", "(I)I"⟩
abbrev cX2_clause : ByteArray := prog_1_method_12_code
def yX2_clause : MethodName := ⟨RX2, "clause", "(II)I"⟩
abbrev cX2_count : ByteArray := prog_1_method_13_code
def yX2_count : MethodName := ⟨RX2, "count", "(I)I"⟩
abbrev cX2_put : ByteArray := prog_1_method_21_code
def yX2_put : MethodName := ⟨RX2, "put", "(J)I"⟩
abbrev cX2_wipe : ByteArray := prog_1_method_22_code
def yX2_wipe : MethodName := ⟨RX2, "wipe", "()I"⟩
abbrev cX2_record : ByteArray := prog_1_method_27_code
def yX2_record : MethodName := ⟨RX2, "record", "()V"⟩
abbrev cX2_moveOldestToEnd : ByteArray := prog_1_method_28_code
def yX2_moveOldestToEnd : MethodName := ⟨RX2, "moveOldestToEnd", "()V"⟩
abbrev cX2_isNoThing : ByteArray := prog_1_method_29_code
def yX2_isNoThing : MethodName := ⟨RX2, "isNoThing", "(I)Z"⟩
abbrev cX2_isNoClause : ByteArray := prog_1_method_30_code
def yX2_isNoClause : MethodName := ⟨RX2, "isNoClause", "(I)Z"⟩
abbrev cX2_thingOf : ByteArray := prog_1_method_31_code
def yX2_thingOf : MethodName := ⟨RX2, "thingOf", "(I)I"⟩
abbrev cX2_opposite : ByteArray := prog_1_method_32_code
def yX2_opposite : MethodName := ⟨RX2, "opposite", "(I)I"⟩
abbrev cX2_setOf : ByteArray := prog_1_method_33_code
def yX2_setOf : MethodName := ⟨RX2, "setOf", "(I)I"⟩
abbrev cX2_has : ByteArray := prog_1_method_34_code
def yX2_has : MethodName := ⟨RX2, "has", "(II)Z"⟩
abbrev cX2_opposites : ByteArray := prog_1_method_35_code
def yX2_opposites : MethodName := ⟨RX2, "opposites", "(I)I"⟩
abbrev cX2_signInOrder : ByteArray := prog_1_method_36_code
def yX2_signInOrder : MethodName := ⟨RX2, "signInOrder", "(II)I"⟩
def RX3 : String := "ClauseWatchModel"
def TX3 : u_T := fun k => match k with
  | _ => ("", "", "", false)
def tyX3 : Nat → FieldType := fun k => match k with
  | _ => .int
abbrev wsX30 : List Cond := u_ws RX3 TX3 0
theorem nmX3 : ∀ a, a < 0 → ∀ b, b < 0 → a ≠ b → (TX3 a).2.1 ≠ (TX3 b).2.1 := by decide +kernel
theorem tyX3_ok : ∀ k, k < 0 → parseFieldDescriptor (TX3 k).2.2.1 = some (tyX3 k) := by decide +kernel
def RJ6 : String := "java/lang/Integer"
def TJ6 : u_T := fun k => match k with
  | _ => ("", "", "", false)
def tyJ6 : Nat → FieldType := fun k => match k with
  | _ => .int
abbrev wsJ60 : List Cond := u_ws RJ6 TJ6 0
theorem nmJ6 : ∀ a, a < 0 → ∀ b, b < 0 → a ≠ b → (TJ6 a).2.1 ≠ (TJ6 b).2.1 := by decide +kernel
theorem tyJ6_ok : ∀ k, k < 0 → parseFieldDescriptor (TJ6 k).2.2.1 = some (tyJ6 k) := by decide +kernel
abbrev cJ6_bitCount_0f7a4 : ByteArray := prog_6_method_49_code
def yJ6_bitCount_0f7a4 : MethodName := ⟨RJ6, "bitCount", "(I)I"⟩
def RJ9 : String := "java/lang/Math"
def TJ9 : u_T := fun k => match k with
  | _ => ("", "", "", false)
def tyJ9 : Nat → FieldType := fun k => match k with
  | _ => .int
abbrev wsJ90 : List Cond := u_ws RJ9 TJ9 0
theorem nmJ9 : ∀ a, a < 0 → ∀ b, b < 0 → a ≠ b → (TJ9 a).2.1 ≠ (TJ9 b).2.1 := by decide +kernel
theorem tyJ9_ok : ∀ k, k < 0 → parseFieldDescriptor (TJ9 k).2.2.1 = some (tyJ9 k) := by decide +kernel
abbrev cJ9_max_7cf53 : ByteArray := prog_7_method_65_code
def yJ9_max_7cf53 : MethodName := ⟨RJ9, "max", "(II)I"⟩
def RJ10 : String := "java/lang/System"
def TJ10 : u_T := fun k => match k with
  | _ => ("", "", "", false)
def tyJ10 : Nat → FieldType := fun k => match k with
  | _ => .int
abbrev wsJ100 : List Cond := u_ws RJ10 TJ10 0
theorem nmJ10 : ∀ a, a < 0 → ∀ b, b < 0 → a ≠ b → (TJ10 a).2.1 ≠ (TJ10 b).2.1 := by decide +kernel
theorem tyJ10_ok : ∀ k, k < 0 → parseFieldDescriptor (TJ10 k).2.2.1 = some (tyJ10 k) := by decide +kernel
def RL : String := "ClauseWatchLaw"
abbrev cL_cell : ByteArray := method_2_code
def yL_cell : MethodName := ⟨RL, "cell", "([II)I"⟩
abbrev cL_low : ByteArray := method_3_code
def yL_low : MethodName := ⟨RL, "low", "(II)I"⟩
abbrev cL_bits : ByteArray := method_4_code
def yL_bits : MethodName := ⟨RL, "bits", "(I)I"⟩
abbrev cL_isTrue : ByteArray := method_5_code
def yL_isTrue : MethodName := ⟨RL, "isTrue", "(I[I[I[I)Z"⟩
abbrev cL_open : ByteArray := method_6_code
def yL_open : MethodName := ⟨RL, "open", "(I[I[I[I)I"⟩
abbrev cL_back : ByteArray := method_7_code
def yL_back : MethodName := ⟨RL, "back", "(I[I[I[I[I)V"⟩
abbrev cL_give : ByteArray := method_8_code
def yL_give : MethodName := ⟨RL, "give", "(IZI[I[I[I[I)V"⟩
abbrev cL_learn : ByteArray := method_9_code
def yL_learn : MethodName := ⟨RL, "learn", "(I[I[I[I[I[I[I)V"⟩
abbrev cL_step : ByteArray := method_10_code
def yL_step : MethodName := ⟨RL, "step", "([I[I[I[I[I[I)V"⟩
abbrev cL_anew : ByteArray := method_11_code
def yL_anew : MethodName := ⟨RL, "anew", "([I[I[I[I)V"⟩
abbrev cL_same : ByteArray := method_12_code
def yL_same : MethodName := ⟨RL, "same", "(LClauseWatch;[I[I[I[I[I[I)Z"⟩
abbrev cL_reads : ByteArray := method_13_code
def yL_reads : MethodName := ⟨RL, "reads", "(LClauseWatch;II[I[I[I[I[I[I)Z"⟩
abbrev cL_law : ByteArray := code
def yL_law : MethodName := ⟨RL, "law", "([I)Z"⟩
abbrev vwCl : List vw_C := [(RX0, TX0, 2), (RX1, TX1, 14), (RX2, TX2, 6)]
/-! ===== END printed: names ===== -/
end
section
/-! the words that hold at every state: the good ones of the law's tables; the links to nest mates' members -/
def cw_T : List Cond := lw_tbl.filter goodWord
def cw_isN (w : Cond) : Bool := match w with
  | .fieldLinkNest _ _ _ _ _ _ => true
  | .methodLinkNest _ _ _ _ => true
  | _ => false
def cw_N : List Cond := lw_tbl.filter cw_isN
theorem cw_in1 {w : Cond} (i : Nat) (h : tables_1_1[i]? = some w) (g : goodWord w = true) : w ∈ cw_T := List.mem_filter.mpr ⟨List.mem_append_right _ (List.mem_append_left _ (List.mem_of_getElem? h)), g⟩
theorem cw_in2 {w : Cond} (i : Nat) (h : tables_1_2[i]? = some w) (g : goodWord w = true) : w ∈ cw_T := List.mem_filter.mpr ⟨List.mem_append_right _ (List.mem_append_right _ (List.mem_of_getElem? h)), g⟩
theorem cw_ins {w : Cond} (i : Nat) (h : (k2_sels lw_privs)[i]? = some w) (g : goodWord w = true) : w ∈ cw_T := List.mem_filter.mpr ⟨List.mem_append_left _ (List.mem_of_getElem? h), g⟩
theorem cw_nn1 {w : Cond} (i : Nat) (h : tables_1_1[i]? = some w) (g : cw_isN w = true) : w ∈ cw_N := List.mem_filter.mpr ⟨List.mem_append_right _ (List.mem_append_left _ (List.mem_of_getElem? h)), g⟩
theorem cw_nn2 {w : Cond} (i : Nat) (h : tables_1_2[i]? = some w) (g : cw_isN w = true) : w ∈ cw_N := List.mem_filter.mpr ⟨List.mem_append_right _ (List.mem_append_right _ (List.mem_of_getElem? h)), g⟩
theorem cw_TT : GoodIn cw_T cw_T := fun w h => ⟨h, good_of_word (List.mem_filter.mp h).2⟩
/-- a small number as the machine holds it -/
def cw_n (k : Int) : Int32 := match k with
  | .ofNat n => nI n
  | .negSucc n => -nI (n + 1)
/-- a pushed constant fits its instruction -/
def cw_lit (i : ClassFile.Instr) : Bool := match i with
  | .iconst k => Int32.ofInt k == cw_n k
  | .bipush k => (Int8.ofInt k).toInt32 == cw_n k
  | .sipush k => (Int16.ofInt k).toInt32 == cw_n k
  | .iinc _ k => Int32.ofInt k == cw_n k
  | _ => true
/-- a method: name, code, locals, answer, class, arguments, frames, its instructions -/
abbrev cw_I : Type := MethodName × ByteArray × Nat × Option FieldType × Nat × Nat × Nat × List (Nat × (ClassFile.Instr × Nat))
def cw_own : Nat → String
  | 0 => RX0
  | 1 => RX1
  | 2 => RX2
  | 3 => RJ9
  | 4 => RL
  | 5 => RJ6
  | _ => RJ9
def cw_okI (i : cw_I) : Prop := (∀ q ∈ i.2.2.2.2.2.2.2, decode i.2.1 q.1 = .ok q.2) ∧ (∀ q ∈ i.2.2.2.2.2.2.2, cw_lit q.2.1 = true) ∧ Cond.code i.1 i.2.1 i.2.2.1 i.2.2.2.1 ∈ cw_T ∧ Cond.initialized i.1.cls ∈ cw_T ∧ i.1.cls = cw_own i.2.2.2.2.1 ∧ plainName i.1.cls = true ∧ i.1.cls ≠ "java/lang/invoke/MethodHandle" ∧ i.1.cls ≠ "java/lang/invoke/VarHandle" ∧ (parseMethodDescriptor i.1.desc).map (fun d => d.parameters.length) = some i.2.2.2.2.2.1 ∧ i.2.2.1 ≤ 15
/-- its instructions are what its bytes say -/
def cw_okD (i : cw_I) : Prop := (∀ q ∈ i.2.2.2.2.2.2.2, decode i.2.1 q.1 = .ok q.2) ∧ (∀ q ∈ i.2.2.2.2.2.2.2, cw_lit q.2.1 = true) ∧ True
end
section
def cw_tJ6_bitCount_0f7a4 : List (Nat × (ClassFile.Instr × Nat)) := [(0, .iload_n 0, 1), (1, .iload_n 0, 1), (2, .iconst 1, 1), (3, .iushr, 1), (4, .ldc_w 265, 3), (7, .iand, 1), (8, .isub, 1), (9, .istore_n 0, 1), (10, .iload_n 0, 1), (11, .ldc_w 266, 3), (14, .iand, 1), (15, .iload_n 0, 1), (16, .iconst 2, 1), (17, .iushr, 1), (18, .ldc_w 266, 3), (21, .iand, 1), (22, .iadd, 1), (23, .istore_n 0, 1), (24, .iload_n 0, 1), (25, .iload_n 0, 1), (26, .iconst 4, 1), (27, .iushr, 1), (28, .iadd, 1), (29, .ldc_w 267, 3), (32, .iand, 1), (33, .istore_n 0, 1), (34, .iload_n 0, 1), (35, .iload_n 0, 1), (36, .bipush 8, 2), (38, .iushr, 1), (39, .iadd, 1), (40, .istore_n 0, 1), (41, .iload_n 0, 1), (42, .iload_n 0, 1), (43, .bipush 16, 2), (45, .iushr, 1), (46, .iadd, 1), (47, .istore_n 0, 1), (48, .iload_n 0, 1), (49, .bipush 63, 2), (51, .iand, 1), (52, .ireturn, 1)]
theorem cw_dJ6_bitCount_0f7a4 : ∀ q ∈ cw_tJ6_bitCount_0f7a4, decode cJ6_bitCount_0f7a4 q.1 = .ok q.2 := by decide +kernel
def mm_J6_bitCount_0f7a4 : cw_I := (yJ6_bitCount_0f7a4, cJ6_bitCount_0f7a4, 1, (some .int), 5, 1, 1, cw_tJ6_bitCount_0f7a4)
theorem cw_KJ6_bitCount_0f7a4 : cw_okI mm_J6_bitCount_0f7a4 := ⟨cw_dJ6_bitCount_0f7a4, by decide +kernel, cw_in1 188 rfl rfl, cw_in1 6 rfl rfl, rfl, by decide +kernel, by decide +kernel, by decide +kernel, by decide +kernel, by decide⟩
theorem cw_kJ6_bitCount_0f7a4 : cw_okD mm_J6_bitCount_0f7a4 := ⟨cw_dJ6_bitCount_0f7a4, by decide +kernel, trivial⟩
def cw_tX0_greatestThing : List (Nat × (ClassFile.Instr × Nat)) := [(0, .iconst 0, 1), (1, .istore_n 1, 1), (2, .iconst 0, 1), (3, .istore_n 2, 1), (4, .iload_n 2, 1), (5, .aload_n 0, 1), (6, .getfield 15, 3), (9, .if_icmp .ge 33, 3), (12, .aload_n 0, 1), (13, .iload_n 2, 1), (14, .invokevirtual 25, 3), (17, .invokestatic 29, 3), (20, .ifCond .eq 16, 3), (23, .iload_n 1, 1), (24, .aload_n 0, 1), (25, .iload_n 2, 1), (26, .invokevirtual 25, 3), (29, .bipush 48, 2), (31, .isub, 1), (32, .invokestatic 33, 3), (35, .istore_n 1, 1), (36, .iinc 2 1, 3), (39, .goto (-35), 3), (42, .iload_n 1, 1), (43, .ireturn, 1)]
theorem cw_dX0_greatestThing : ∀ q ∈ cw_tX0_greatestThing, decode cX0_greatestThing q.1 = .ok q.2 := by decide +kernel
def mm_X0_greatestThing : cw_I := (yX0_greatestThing, cX0_greatestThing, 3, (some .int), 0, 0, 2, cw_tX0_greatestThing)
theorem cw_KX0_greatestThing : cw_okI mm_X0_greatestThing := ⟨cw_dX0_greatestThing, by decide +kernel, cw_in2 155 rfl rfl, cw_in1 3 rfl rfl, rfl, by decide +kernel, by decide +kernel, by decide +kernel, by decide +kernel, by decide⟩
theorem cw_kX0_greatestThing : cw_okD mm_X0_greatestThing := ⟨cw_dX0_greatestThing, by decide +kernel, trivial⟩
def cw_tX0_isDigit : List (Nat × (ClassFile.Instr × Nat)) := [(0, .iload_n 0, 1), (1, .bipush 49, 2), (3, .if_icmp .lt 13, 3), (6, .iload_n 0, 1), (7, .bipush 57, 2), (9, .if_icmp .gt 7, 3), (12, .iconst 1, 1), (13, .goto 4, 3), (16, .iconst 0, 1), (17, .ireturn, 1)]
theorem cw_dX0_isDigit : ∀ q ∈ cw_tX0_isDigit, decode cX0_isDigit q.1 = .ok q.2 := by decide +kernel
def mm_X0_isDigit : cw_I := (yX0_isDigit, cX0_isDigit, 1, (some .boolean), 0, 1, 1, cw_tX0_isDigit)
theorem cw_KX0_isDigit : cw_okI mm_X0_isDigit := ⟨cw_dX0_isDigit, by decide +kernel, cw_in2 158 rfl rfl, cw_in1 3 rfl rfl, rfl, by decide +kernel, by decide +kernel, by decide +kernel, by decide +kernel, by decide⟩
theorem cw_kX0_isDigit : cw_okD mm_X0_isDigit := ⟨cw_dX0_isDigit, by decide +kernel, trivial⟩
def cw_tX1_beginAnew : List (Nat × (ClassFile.Instr × Nat)) := [(0, .aload_n 0, 1), (1, .iconst 0, 1), (2, .putfield 24, 3), (5, .aload_n 0, 1), (6, .iconst 0, 1), (7, .putfield 31, 3), (10, .aload_n 0, 1), (11, .iconst 0, 1), (12, .putfield 43, 3), (15, .aload_n 0, 1), (16, .iconst 0, 1), (17, .putfield 46, 3), (20, .aload_n 0, 1), (21, .iconst 0, 1), (22, .putfield 49, 3), (25, .aload_n 0, 1), (26, .iconst 0, 1), (27, .putfield 52, 3), (30, .return_, 1)]
theorem cw_dX1_beginAnew : ∀ q ∈ cw_tX1_beginAnew, decode cX1_beginAnew q.1 = .ok q.2 := by decide +kernel
def mm_X1_beginAnew : cw_I := (yX1_beginAnew, cX1_beginAnew, 1, none, 1, 0, 1, cw_tX1_beginAnew)
theorem cw_KX1_beginAnew : cw_okI mm_X1_beginAnew := ⟨cw_dX1_beginAnew, by decide +kernel, cw_in1 153 rfl rfl, cw_in1 2 rfl rfl, rfl, by decide +kernel, by decide +kernel, by decide +kernel, by decide +kernel, by decide⟩
theorem cw_kX1_beginAnew : cw_okD mm_X1_beginAnew := ⟨cw_dX1_beginAnew, by decide +kernel, trivial⟩
def cw_tX1_clauseAt : List (Nat × (ClassFile.Instr × Nat)) := [(0, .iload_n 1, 1), (1, .ifCond .lt 21, 3), (4, .iload_n 1, 1), (5, .aload_n 0, 1), (6, .getfield 27, 3), (9, .arraylength, 1), (10, .if_icmp .ge 12, 3), (13, .aload_n 0, 1), (14, .getfield 27, 3), (17, .iload_n 1, 1), (18, .iaload, 1), (19, .goto 4, 3), (22, .iconst 0, 1), (23, .ireturn, 1)]
theorem cw_dX1_clauseAt : ∀ q ∈ cw_tX1_clauseAt, decode cX1_clauseAt q.1 = .ok q.2 := by decide +kernel
def mm_X1_clauseAt : cw_I := (yX1_clauseAt, cX1_clauseAt, 2, (some .int), 1, 1, 1, cw_tX1_clauseAt)
theorem cw_KX1_clauseAt : cw_okI mm_X1_clauseAt := ⟨cw_dX1_clauseAt, by decide +kernel, cw_in1 124 rfl rfl, cw_in1 2 rfl rfl, rfl, by decide +kernel, by decide +kernel, by decide +kernel, by decide +kernel, by decide⟩
theorem cw_kX1_clauseAt : cw_okD mm_X1_clauseAt := ⟨cw_dX1_clauseAt, by decide +kernel, trivial⟩
def cw_tX1_clauseOutOf : List (Nat × (ClassFile.Instr × Nat)) := [(0, .aload_n 0, 1), (1, .invokevirtual 145, 3), (4, .invokestatic 65, 3), (7, .istore_n 2, 1), (8, .iload_n 1, 1), (9, .istore_n 3, 1), (10, .aload_n 0, 1), (11, .getfield 31, 3), (14, .iconst 1, 1), (15, .isub, 1), (16, .istore 4, 2), (18, .iload 4, 2), (20, .ifCond .lt 73, 3), (23, .iload_n 3, 1), (24, .iload_n 2, 1), (25, .iand, 1), (26, .invokestatic 79, 3), (29, .iconst 1, 1), (30, .if_icmp .le 63, 3), (33, .aload_n 0, 1), (34, .iload 4, 2), (36, .invokevirtual 91, 3), (39, .istore 5, 2), (41, .iload_n 3, 1), (42, .iload 5, 2), (44, .invokestatic 127, 3), (47, .invokestatic 68, 3), (50, .ifCond .eq 37, 3), (53, .iload_n 3, 1), (54, .iload 5, 2), (56, .invokestatic 127, 3), (59, .invokestatic 97, 3), (62, .iconst (-1), 1), (63, .ixor, 1), (64, .iand, 1), (65, .istore_n 3, 1), (66, .iload_n 3, 1), (67, .aload_n 0, 1), (68, .aload_n 0, 1), (69, .iload 4, 2), (71, .invokevirtual 100, 3), (74, .invokevirtual 61, 3), (77, .iload 5, 2), (79, .invokestatic 97, 3), (82, .iconst (-1), 1), (83, .ixor, 1), (84, .iand, 1), (85, .ior, 1), (86, .istore_n 3, 1), (87, .iinc 4 (-1), 3), (90, .goto (-72), 3), (93, .iload_n 3, 1), (94, .ireturn, 1)]
theorem cw_dX1_clauseOutOf : ∀ q ∈ cw_tX1_clauseOutOf, decode cX1_clauseOutOf q.1 = .ok q.2 := by decide +kernel
def mm_X1_clauseOutOf : cw_I := (yX1_clauseOutOf, cX1_clauseOutOf, 6, (some .int), 1, 1, 4, cw_tX1_clauseOutOf)
theorem cw_KX1_clauseOutOf : cw_okI mm_X1_clauseOutOf := ⟨cw_dX1_clauseOutOf, by decide +kernel, cw_in1 207 rfl rfl, cw_in1 2 rfl rfl, rfl, by decide +kernel, by decide +kernel, by decide +kernel, by decide +kernel, by decide⟩
theorem cw_kX1_clauseOutOf : cw_okD mm_X1_clauseOutOf := ⟨cw_dX1_clauseOutOf, by decide +kernel, trivial⟩
def cw_tX1_doSteps : List (Nat × (ClassFile.Instr × Nat)) := [(0, .iconst 0, 1), (1, .istore_n 2, 1), (2, .iload_n 2, 1), (3, .iload_n 1, 1), (4, .if_icmp .ge 30, 3), (7, .aload_n 0, 1), (8, .getfield 46, 3), (11, .ifCond .ne 23, 3), (14, .aload_n 0, 1), (15, .invokevirtual 103, 3), (18, .aload_n 0, 1), (19, .dup, 1), (20, .getfield 52, 3), (23, .iconst 1, 1), (24, .iadd, 1), (25, .putfield 52, 3), (28, .iinc 2 1, 3), (31, .goto (-29), 3), (34, .return_, 1)]
theorem cw_dX1_doSteps : ∀ q ∈ cw_tX1_doSteps, decode cX1_doSteps q.1 = .ok q.2 := by decide +kernel
def mm_X1_doSteps : cw_I := (yX1_doSteps, cX1_doSteps, 3, none, 1, 1, 7, cw_tX1_doSteps)
theorem cw_KX1_doSteps : cw_okI mm_X1_doSteps := ⟨cw_dX1_doSteps, by decide +kernel, cw_in1 169 rfl rfl, cw_in1 2 rfl rfl, rfl, by decide +kernel, by decide +kernel, by decide +kernel, by decide +kernel, by decide⟩
theorem cw_kX1_doSteps : cw_okD mm_X1_doSteps := ⟨cw_dX1_doSteps, by decide +kernel, trivial⟩
def cw_tX1_forgetEarliestWithoutUse : List (Nat × (ClassFile.Instr × Nat)) := [(0, .aload_n 0, 1), (1, .getfield 21, 3), (4, .istore_n 1, 1), (5, .iload_n 1, 1), (6, .aload_n 0, 1), (7, .getfield 21, 3), (10, .aload_n 0, 1), (11, .getfield 24, 3), (14, .iadd, 1), (15, .if_icmp .ge 38, 3), (18, .aload_n 0, 1), (19, .iload_n 1, 1), (20, .invokevirtual 153, 3), (23, .ifCond .ne 24, 3), (26, .aload_n 0, 1), (27, .iload_n 1, 1), (28, .invokevirtual 156, 3), (31, .aload_n 0, 1), (32, .dup, 1), (33, .getfield 24, 3), (36, .iconst 1, 1), (37, .isub, 1), (38, .putfield 24, 3), (41, .aload_n 0, 1), (42, .iload_n 1, 1), (43, .invokevirtual 159, 3), (46, .return_, 1), (47, .iinc 1 1, 3), (50, .goto (-45), 3), (53, .return_, 1)]
theorem cw_dX1_forgetEarliestWithoutUse : ∀ q ∈ cw_tX1_forgetEarliestWithoutUse, decode cX1_forgetEarliestWithoutUse q.1 = .ok q.2 := by decide +kernel
def mm_X1_forgetEarliestWithoutUse : cw_I := (yX1_forgetEarliestWithoutUse, cX1_forgetEarliestWithoutUse, 2, none, 1, 0, 3, cw_tX1_forgetEarliestWithoutUse)
theorem cw_KX1_forgetEarliestWithoutUse : cw_okI mm_X1_forgetEarliestWithoutUse := ⟨cw_dX1_forgetEarliestWithoutUse, by decide +kernel, cw_in1 238 rfl rfl, cw_in1 2 rfl rfl, rfl, by decide +kernel, by decide +kernel, by decide +kernel, by decide +kernel, by decide⟩
theorem cw_kX1_forgetEarliestWithoutUse : cw_okD mm_X1_forgetEarliestWithoutUse := ⟨cw_dX1_forgetEarliestWithoutUse, by decide +kernel, trivial⟩
def cw_tX1_init : List (Nat × (ClassFile.Instr × Nat)) := [(0, .aload_n 0, 1), (1, .invokespecial 3, 3), (4, .aload_n 0, 1), (5, .iconst 4, 1), (6, .putfield 9, 3), (9, .aload_n 0, 1), (10, .bipush 10, 2), (12, .putfield 15, 3), (15, .aload_n 0, 1), (16, .iconst 0, 1), (17, .putfield 18, 3), (20, .aload_n 0, 1), (21, .iconst 0, 1), (22, .putfield 21, 3), (25, .aload_n 0, 1), (26, .iconst 0, 1), (27, .putfield 24, 3), (30, .aload_n 0, 1), (31, .bipush 60, 2), (33, .newarray .int, 2), (35, .putfield 27, 3), (38, .aload_n 0, 1), (39, .iconst 0, 1), (40, .putfield 31, 3), (43, .aload_n 0, 1), (44, .bipush 9, 2), (46, .newarray .int, 2), (48, .putfield 34, 3), (51, .aload_n 0, 1), (52, .bipush 9, 2), (54, .newarray .int, 2), (56, .putfield 37, 3), (59, .aload_n 0, 1), (60, .bipush 9, 2), (62, .newarray .int, 2), (64, .putfield 40, 3), (67, .aload_n 0, 1), (68, .iconst 0, 1), (69, .putfield 43, 3), (72, .aload_n 0, 1), (73, .iconst 0, 1), (74, .putfield 46, 3), (77, .aload_n 0, 1), (78, .iconst 0, 1), (79, .putfield 49, 3), (82, .aload_n 0, 1), (83, .iconst 0, 1), (84, .putfield 52, 3), (87, .return_, 1)]
theorem cw_dX1_init : ∀ q ∈ cw_tX1_init, decode cX1_init q.1 = .ok q.2 := by decide +kernel
def mm_X1_init : cw_I := (yX1_init, cX1_init, 1, none, 1, 0, 1, cw_tX1_init)
theorem cw_KX1_init : cw_okI mm_X1_init := ⟨cw_dX1_init, by decide +kernel, cw_in1 19 rfl rfl, cw_in1 2 rfl rfl, rfl, by decide +kernel, by decide +kernel, by decide +kernel, by decide +kernel, by decide⟩
theorem cw_kX1_init : cw_okD mm_X1_init := ⟨cw_dX1_init, by decide +kernel, trivial⟩
def cw_tX1_lowerReasonsAbove : List (Nat × (ClassFile.Instr × Nat)) := [(0, .iconst 0, 1), (1, .istore_n 2, 1), (2, .iload_n 2, 1), (3, .aload_n 0, 1), (4, .getfield 31, 3), (7, .if_icmp .ge 35, 3), (10, .iload_n 2, 1), (11, .bipush 9, 2), (13, .if_icmp .ge 29, 3), (16, .aload_n 0, 1), (17, .getfield 40, 3), (20, .iload_n 2, 1), (21, .iaload, 1), (22, .iload_n 1, 1), (23, .if_icmp .le 13, 3), (26, .aload_n 0, 1), (27, .getfield 40, 3), (30, .iload_n 2, 1), (31, .dup2, 1), (32, .iaload, 1), (33, .iconst 1, 1), (34, .isub, 1), (35, .iastore, 1), (36, .iinc 2 1, 3), (39, .goto (-37), 3), (42, .return_, 1)]
theorem cw_dX1_lowerReasonsAbove : ∀ q ∈ cw_tX1_lowerReasonsAbove, decode cX1_lowerReasonsAbove q.1 = .ok q.2 := by decide +kernel
def mm_X1_lowerReasonsAbove : cw_I := (yX1_lowerReasonsAbove, cX1_lowerReasonsAbove, 3, none, 1, 1, 1, cw_tX1_lowerReasonsAbove)
theorem cw_KX1_lowerReasonsAbove : cw_okI mm_X1_lowerReasonsAbove := ⟨cw_dX1_lowerReasonsAbove, by decide +kernel, cw_in2 10 rfl rfl, cw_in1 2 rfl rfl, rfl, by decide +kernel, by decide +kernel, by decide +kernel, by decide +kernel, by decide⟩
theorem cw_kX1_lowerReasonsAbove : cw_okD mm_X1_lowerReasonsAbove := ⟨cw_dX1_lowerReasonsAbove, by decide +kernel, trivial⟩
def cw_tX1_meetConflict : List (Nat × (ClassFile.Instr × Nat)) := [(0, .aload_n 0, 1), (1, .invokevirtual 117, 3), (4, .ifCond .ne 9, 3), (7, .aload_n 0, 1), (8, .iconst 2, 1), (9, .putfield 46, 3), (12, .return_, 1), (13, .aload_n 0, 1), (14, .aload_n 0, 1), (15, .iload_n 1, 1), (16, .invokevirtual 61, 3), (19, .invokevirtual 130, 3), (22, .istore_n 2, 1), (23, .aload_n 0, 1), (24, .aload_n 0, 1), (25, .iload_n 2, 1), (26, .invokevirtual 133, 3), (29, .invokevirtual 136, 3), (32, .aload_n 0, 1), (33, .getfield 24, 3), (36, .bipush 40, 2), (38, .if_icmp .lt 7, 3), (41, .aload_n 0, 1), (42, .invokevirtual 139, 3), (45, .aload_n 0, 1), (46, .iload_n 2, 1), (47, .invokevirtual 142, 3), (50, .aload_n 0, 1), (51, .dup, 1), (52, .getfield 49, 3), (55, .iconst 1, 1), (56, .iadd, 1), (57, .putfield 49, 3), (60, .aload_n 0, 1), (61, .getfield 15, 3), (64, .ifCond .le 20, 3), (67, .aload_n 0, 1), (68, .getfield 49, 3), (71, .aload_n 0, 1), (72, .getfield 15, 3), (75, .irem, 1), (76, .ifCond .ne 8, 3), (79, .aload_n 0, 1), (80, .iconst 0, 1), (81, .invokevirtual 136, 3), (84, .return_, 1)]
theorem cw_dX1_meetConflict : ∀ q ∈ cw_tX1_meetConflict, decode cX1_meetConflict q.1 = .ok q.2 := by decide +kernel
def mm_X1_meetConflict : cw_I := (yX1_meetConflict, cX1_meetConflict, 3, none, 1, 1, 5, cw_tX1_meetConflict)
theorem cw_KX1_meetConflict : cw_okI mm_X1_meetConflict := ⟨cw_dX1_meetConflict, by decide +kernel, cw_in1 195 rfl rfl, cw_in1 2 rfl rfl, rfl, by decide +kernel, by decide +kernel, by decide +kernel, by decide +kernel, by decide⟩
theorem cw_kX1_meetConflict : cw_okD mm_X1_meetConflict := ⟨cw_dX1_meetConflict, by decide +kernel, trivial⟩
def cw_tX1_signsOfPresentLevel : List (Nat × (ClassFile.Instr × Nat)) := [(0, .iconst 0, 1), (1, .istore_n 1, 1), (2, .iconst 0, 1), (3, .istore_n 2, 1), (4, .iload_n 2, 1), (5, .aload_n 0, 1), (6, .getfield 31, 3), (9, .if_icmp .ge 32, 3), (12, .aload_n 0, 1), (13, .iload_n 2, 1), (14, .invokevirtual 88, 3), (17, .aload_n 0, 1), (18, .invokevirtual 117, 3), (21, .if_icmp .ne 14, 3), (24, .iload_n 1, 1), (25, .aload_n 0, 1), (26, .iload_n 2, 1), (27, .invokevirtual 91, 3), (30, .invokestatic 97, 3), (33, .ior, 1), (34, .istore_n 1, 1), (35, .iinc 2 1, 3), (38, .goto (-34), 3), (41, .iload_n 1, 1), (42, .ireturn, 1)]
theorem cw_dX1_signsOfPresentLevel : ∀ q ∈ cw_tX1_signsOfPresentLevel, decode cX1_signsOfPresentLevel q.1 = .ok q.2 := by decide +kernel
def mm_X1_signsOfPresentLevel : cw_I := (yX1_signsOfPresentLevel, cX1_signsOfPresentLevel, 3, (some .int), 1, 0, 3, cw_tX1_signsOfPresentLevel)
theorem cw_KX1_signsOfPresentLevel : cw_okI mm_X1_signsOfPresentLevel := ⟨cw_dX1_signsOfPresentLevel, by decide +kernel, cw_in1 211 rfl rfl, cw_in1 2 rfl rfl, rfl, by decide +kernel, by decide +kernel, by decide +kernel, by decide +kernel, by decide⟩
theorem cw_kX1_signsOfPresentLevel : cw_okD mm_X1_signsOfPresentLevel := ⟨cw_dX1_signsOfPresentLevel, by decide +kernel, trivial⟩
def cw_tX2_clause : List (Nat × (ClassFile.Instr × Nat)) := [(0, .aload_n 0, 1), (1, .iload_n 1, 1), (2, .invokevirtual 123, 3), (5, .ifCond .eq 5, 3), (8, .iconst (-1), 1), (9, .ireturn, 1), (10, .iload_n 2, 1), (11, .ifCond .lt 9, 3), (14, .iload_n 2, 1), (15, .bipush 12, 2), (17, .if_icmp .le 6, 3), (20, .bipush (-2), 2), (22, .ireturn, 1), (23, .aload_n 0, 1), (24, .getfield 12, 3), (27, .iload_n 1, 1), (28, .invokevirtual 126, 3), (31, .istore_n 3, 1), (32, .iload_n 2, 1), (33, .lookupswitch 105 #[(0, 43), (10, 48), (11, 65), (12, 93)], 43), (76, .iload_n 3, 1), (77, .invokestatic 129, 3), (80, .ireturn, 1), (81, .aload_n 0, 1), (82, .getfield 12, 3), (85, .iload_n 3, 1), (86, .invokevirtual 134, 3), (89, .ifCond .eq 7, 3), (92, .iconst 1, 1), (93, .goto 4, 3), (96, .iconst 0, 1), (97, .ireturn, 1), (98, .aload_n 0, 1), (99, .getfield 12, 3), (102, .iload_n 3, 1), (103, .invokevirtual 134, 3), (106, .ifCond .ne 18, 3), (109, .aload_n 0, 1), (110, .getfield 12, 3), (113, .iload_n 3, 1), (114, .invokevirtual 137, 3), (117, .ifCond .ne 7, 3), (120, .iconst 1, 1), (121, .goto 4, 3), (124, .iconst 0, 1), (125, .ireturn, 1), (126, .aload_n 0, 1), (127, .getfield 12, 3), (130, .iload_n 3, 1), (131, .invokevirtual 137, 3), (134, .invokestatic 129, 3), (137, .ireturn, 1), (138, .iload_n 3, 1), (139, .iload_n 2, 1), (140, .invokestatic 140, 3), (143, .ireturn, 1)]
theorem cw_dX2_clause : ∀ q ∈ cw_tX2_clause, decode cX2_clause q.1 = .ok q.2 := by decide +kernel
def mm_X2_clause : cw_I := (yX2_clause, cX2_clause, 4, (some .int), 2, 2, 4, cw_tX2_clause)
theorem cw_KX2_clause : cw_okI mm_X2_clause := ⟨cw_dX2_clause, by decide +kernel, cw_in2 94 rfl rfl, cw_in1 1 rfl rfl, rfl, by decide +kernel, by decide +kernel, by decide +kernel, by decide +kernel, by decide⟩
theorem cw_kX2_clause : cw_okD mm_X2_clause := ⟨cw_dX2_clause, by decide +kernel, trivial⟩
def cw_tX2_isNoClause : List (Nat × (ClassFile.Instr × Nat)) := [(0, .iload_n 1, 1), (1, .ifCond .lt 22, 3), (4, .iload_n 1, 1), (5, .aload_n 0, 1), (6, .getfield 12, 3), (9, .getfield 72, 3), (12, .aload_n 0, 1), (13, .getfield 12, 3), (16, .getfield 144, 3), (19, .iadd, 1), (20, .if_icmp .lt 7, 3), (23, .iconst 1, 1), (24, .goto 4, 3), (27, .iconst 0, 1), (28, .ireturn, 1)]
theorem cw_dX2_isNoClause : ∀ q ∈ cw_tX2_isNoClause, decode cX2_isNoClause q.1 = .ok q.2 := by decide +kernel
def mm_X2_isNoClause : cw_I := (yX2_isNoClause, cX2_isNoClause, 2, (some .boolean), 2, 1, 1, cw_tX2_isNoClause)
theorem cw_KX2_isNoClause : cw_okI mm_X2_isNoClause := ⟨cw_dX2_isNoClause, by decide +kernel, cw_in2 98 rfl rfl, cw_in1 1 rfl rfl, rfl, by decide +kernel, by decide +kernel, by decide +kernel, by decide +kernel, by decide⟩
theorem cw_kX2_isNoClause : cw_okD mm_X2_isNoClause := ⟨cw_dX2_isNoClause, by decide +kernel, trivial⟩
def cw_tX2_of : List (Nat × (ClassFile.Instr × Nat)) := [(0, .aload_n 0, 1), (1, .iload_n 1, 1), (2, .invokevirtual 104, 3), (5, .ifCond .eq 5, 3), (8, .iconst (-1), 1), (9, .ireturn, 1), (10, .iload_n 2, 1), (11, .ifCond .lt 8, 3), (14, .iload_n 2, 1), (15, .iconst 3, 1), (16, .if_icmp .le 6, 3), (19, .bipush (-2), 2), (21, .ireturn, 1), (22, .aload_n 0, 1), (23, .getfield 12, 3), (26, .iload_n 1, 1), (27, .invokevirtual 108, 3), (30, .istore_n 3, 1), (31, .iload_n 3, 1), (32, .ifCond .ge 6, 3), (35, .bipush (-6), 2), (37, .ireturn, 1), (38, .iload_n 2, 1), (39, .tableswitch 61 0 2 #[25, 43, 52], 25), (64, .aload_n 0, 1), (65, .getfield 12, 3), (68, .iload_n 3, 1), (69, .invokevirtual 111, 3), (72, .iload_n 1, 1), (73, .if_icmp .ne 7, 3), (76, .iconst 1, 1), (77, .goto 4, 3), (80, .iconst 0, 1), (81, .ireturn, 1), (82, .aload_n 0, 1), (83, .getfield 12, 3), (86, .iload_n 3, 1), (87, .invokevirtual 114, 3), (90, .ireturn, 1), (91, .aload_n 0, 1), (92, .getfield 12, 3), (95, .iload_n 3, 1), (96, .invokevirtual 117, 3), (99, .ireturn, 1), (100, .iload_n 3, 1), (101, .ireturn, 1)]
theorem cw_dX2_of : ∀ q ∈ cw_tX2_of, decode cX2_of q.1 = .ok q.2 := by decide +kernel
def mm_X2_of : cw_I := (yX2_of, cX2_of, 4, (some .int), 2, 2, 3, cw_tX2_of)
theorem cw_KX2_of : cw_okI mm_X2_of := ⟨cw_dX2_of, by decide +kernel, cw_in2 71 rfl rfl, cw_in1 1 rfl rfl, rfl, by decide +kernel, by decide +kernel, by decide +kernel, by decide +kernel, by decide⟩
theorem cw_kX2_of : cw_okD mm_X2_of := ⟨cw_dX2_of, by decide +kernel, trivial⟩
def cw_tX2_record : List (Nat × (ClassFile.Instr × Nat)) := [(0, .aload_n 0, 1), (1, .getfield 23, 3), (4, .bipush 6, 2), (6, .if_icmp .lt 12, 3), (9, .aload_n 0, 1), (10, .invokevirtual 192, 3), (13, .aload_n 0, 1), (14, .iconst 5, 1), (15, .putfield 23, 3), (18, .aload_n 0, 1), (19, .getfield 23, 3), (22, .ifCond .lt 66, 3), (25, .aload_n 0, 1), (26, .getfield 23, 3), (29, .bipush 6, 2), (31, .if_icmp .ge 57, 3), (34, .aload_n 0, 1), (35, .getfield 19, 3), (38, .aload_n 0, 1), (39, .getfield 23, 3), (42, .aaload, 1), (43, .ifnonnull 19, 3), (46, .aload_n 0, 1), (47, .getfield 19, 3), (50, .aload_n 0, 1), (51, .getfield 23, 3), (54, .new 9, 3), (57, .dup, 1), (58, .invokespecial 11, 3), (61, .aastore, 1), (62, .aload_n 0, 1), (63, .getfield 19, 3), (66, .aload_n 0, 1), (67, .getfield 23, 3), (70, .aaload, 1), (71, .aload_n 0, 1), (72, .getfield 12, 3), (75, .invokevirtual 175, 3), (78, .aload_n 0, 1), (79, .dup, 1), (80, .getfield 23, 3), (83, .iconst 1, 1), (84, .iadd, 1), (85, .putfield 23, 3), (88, .return_, 1)]
theorem cw_dX2_record : ∀ q ∈ cw_tX2_record, decode cX2_record q.1 = .ok q.2 := by decide +kernel
def mm_X2_record : cw_I := (yX2_record, cX2_record, 1, none, 2, 0, 2, cw_tX2_record)
theorem cw_KX2_record : cw_okI mm_X2_record := ⟨cw_dX2_record, by decide +kernel, cw_in1 138 rfl rfl, cw_in1 1 rfl rfl, rfl, by decide +kernel, by decide +kernel, by decide +kernel, by decide +kernel, by decide⟩
theorem cw_kX2_record : cw_okD mm_X2_record := ⟨cw_dX2_record, by decide +kernel, trivial⟩
def cw_tX2_signInOrder : List (Nat × (ClassFile.Instr × Nat)) := [(0, .iconst 0, 1), (1, .istore_n 2, 1), (2, .iconst 1, 1), (3, .istore_n 3, 1), (4, .iload_n 3, 1), (5, .bipush 9, 2), (7, .if_icmp .gt 47, 3), (10, .iload_n 0, 1), (11, .iload_n 0, 1), (12, .invokestatic 196, 3), (15, .ior, 1), (16, .iload_n 3, 1), (17, .invokestatic 171, 3), (20, .ifCond .eq 28, 3), (23, .iinc 2 1, 3), (26, .iload_n 2, 1), (27, .iload_n 1, 1), (28, .if_icmp .ne 20, 3), (31, .iload_n 0, 1), (32, .iload_n 3, 1), (33, .invokestatic 171, 3), (36, .ifCond .eq 7, 3), (39, .iload_n 3, 1), (40, .goto 7, 3), (43, .iload_n 3, 1), (44, .invokestatic 199, 3), (47, .ireturn, 1), (48, .iinc 3 1, 3), (51, .goto (-47), 3), (54, .bipush (-6), 2), (56, .ireturn, 1)]
theorem cw_dX2_signInOrder : ∀ q ∈ cw_tX2_signInOrder, decode cX2_signInOrder q.1 = .ok q.2 := by decide +kernel
def mm_X2_signInOrder : cw_I := (yX2_signInOrder, cX2_signInOrder, 4, (some .int), 2, 2, 3, cw_tX2_signInOrder)
theorem cw_KX2_signInOrder : cw_okI mm_X2_signInOrder := ⟨cw_dX2_signInOrder, by decide +kernel, cw_in2 17 rfl rfl, cw_in1 1 rfl rfl, rfl, by decide +kernel, by decide +kernel, by decide +kernel, by decide +kernel, by decide⟩
theorem cw_kX2_signInOrder : cw_okD mm_X2_signInOrder := ⟨cw_dX2_signInOrder, by decide +kernel, trivial⟩
def cw_tL_anew : List (Nat × (ClassFile.Instr × Nat)) := [(0, .iconst (-1), 1), (1, .aload_n 0, 1), (2, .aload_n 1, 1), (3, .aload_n 2, 1), (4, .aload_n 3, 1), (5, .invokestatic 10, 3), (8, .aload_n 0, 1), (9, .iconst 4, 1), (10, .iconst 0, 1), (11, .iastore, 1), (12, .aload_n 0, 1), (13, .iconst 5, 1), (14, .iconst 0, 1), (15, .iastore, 1), (16, .aload_n 0, 1), (17, .bipush 6, 2), (19, .iconst 0, 1), (20, .iastore, 1), (21, .aload_n 0, 1), (22, .bipush 8, 2), (24, .iconst 0, 1), (25, .iastore, 1), (26, .aload_n 0, 1), (27, .bipush 9, 2), (29, .iconst 0, 1), (30, .iastore, 1), (31, .return_, 1)]
theorem cw_dL_anew : ∀ q ∈ cw_tL_anew, decode cL_anew q.1 = .ok q.2 := by decide +kernel
def mm_L_anew : cw_I := (yL_anew, cL_anew, 4, none, 4, 4, 2, cw_tL_anew)
theorem cw_KL_anew : cw_okI mm_L_anew := ⟨cw_dL_anew, by decide +kernel, cw_in2 139 rfl rfl, cw_in1 0 rfl rfl, rfl, by decide +kernel, by decide +kernel, by decide +kernel, by decide +kernel, by decide⟩
theorem cw_kL_anew : cw_okD mm_L_anew := ⟨cw_dL_anew, by decide +kernel, trivial⟩
def cw_tL_give : List (Nat × (ClassFile.Instr × Nat)) := [(0, .aload 6, 2), (2, .aload_n 3, 1), (3, .bipush 7, 2), (5, .dup2, 1), (6, .iaload, 1), (7, .dup_x2, 1), (8, .iconst 1, 1), (9, .iadd, 1), (10, .iastore, 1), (11, .iload_n 0, 1), (12, .iastore, 1), (13, .aload 4, 2), (15, .iload_n 0, 1), (16, .aload_n 3, 1), (17, .bipush 6, 2), (19, .iaload, 1), (20, .iastore, 1), (21, .aload 5, 2), (23, .iload_n 0, 1), (24, .iload_n 2, 1), (25, .iastore, 1), (26, .aload_n 3, 1), (27, .iload_n 1, 1), (28, .ifCond .eq 8, 3), (31, .bipush 10, 2), (33, .goto 5, 3), (36, .bipush 11, 2), (38, .dup2, 1), (39, .iaload, 1), (40, .iconst 1, 1), (41, .iload_n 0, 1), (42, .ishl, 1), (43, .ior, 1), (44, .iastore, 1), (45, .return_, 1)]
theorem cw_dL_give : ∀ q ∈ cw_tL_give, decode cL_give q.1 = .ok q.2 := by decide +kernel
def mm_L_give : cw_I := (yL_give, cL_give, 7, none, 4, 7, 1, cw_tL_give)
theorem cw_KL_give : cw_okI mm_L_give := ⟨cw_dL_give, by decide +kernel, cw_in2 64 rfl rfl, cw_in1 0 rfl rfl, rfl, by decide +kernel, by decide +kernel, by decide +kernel, by decide +kernel, by decide⟩
theorem cw_kL_give : cw_okD mm_L_give := ⟨cw_dL_give, by decide +kernel, trivial⟩
def cw_tL_learn : List (Nat × (ClassFile.Instr × Nat)) := [(0, .aload_n 2, 1), (1, .iload_n 0, 1), (2, .iaload, 1), (3, .istore 7, 2), (5, .aload_n 3, 1), (6, .iload_n 0, 1), (7, .iaload, 1), (8, .istore 8, 2), (10, .aload_n 1, 1), (11, .bipush 7, 2), (13, .iaload, 1), (14, .iconst 1, 1), (15, .isub, 1), (16, .istore 9, 2), (18, .iconst 0, 1), (19, .istore 10, 2), (21, .iconst 0, 1), (22, .istore 11, 2), (24, .iload 11, 2), (26, .aload_n 1, 1), (27, .bipush 7, 2), (29, .iaload, 1), (30, .if_icmp .ge 51, 3), (33, .iload 10, 2), (35, .aload 4, 2), (37, .aload 6, 2), (39, .iload 11, 2), (41, .iaload, 1), (42, .iaload, 1), (43, .aload_n 1, 1), (44, .bipush 6, 2), (46, .iaload, 1), (47, .if_icmp .ne 24, 3), (50, .iload 7, 2), (52, .iload 8, 2), (54, .ior, 1), (55, .aload 6, 2), (57, .iload 11, 2), (59, .iaload, 1), (60, .ishr, 1), (61, .iconst 1, 1), (62, .iand, 1), (63, .iconst 1, 1), (64, .if_icmp .ne 7, 3), (67, .iconst 1, 1), (68, .goto 4, 3), (71, .iconst 0, 1), (72, .iadd, 1), (73, .istore 10, 2), (75, .iinc 11 1, 3), (78, .goto (-54), 3), (81, .iload 10, 2), (83, .iconst 1, 1), (84, .if_icmp .gt 6, 3), (87, .goto 77, 3), (90, .iload 7, 2), (92, .iload 8, 2), (94, .ior, 1), (95, .aload 6, 2), (97, .iload 9, 2), (99, .iaload, 1), (100, .ishr, 1), (101, .iconst 1, 1), (102, .iand, 1), (103, .ifCond .ne 9, 3), (106, .iinc 9 (-1), 3), (109, .goto (-19), 3), (112, .iconst 1, 1), (113, .aload 6, 2), (115, .iload 9, 2), (117, .iaload, 1), (118, .ishl, 1), (119, .istore 11, 2), (121, .iload 7, 2), (123, .aload_n 2, 1), (124, .aload 5, 2), (126, .aload 6, 2), (128, .iload 9, 2), (130, .iaload, 1), (131, .iaload, 1), (132, .iaload, 1), (133, .ior, 1), (134, .iload 11, 2), (136, .iconst (-1), 1), (137, .ixor, 1), (138, .iand, 1), (139, .istore 7, 2), (141, .iload 8, 2), (143, .aload_n 3, 1), (144, .aload 5, 2), (146, .aload 6, 2), (148, .iload 9, 2), (150, .iaload, 1), (151, .iaload, 1), (152, .iaload, 1), (153, .ior, 1), (154, .iload 11, 2), (156, .iconst (-1), 1), (157, .ixor, 1), (158, .iand, 1), (159, .istore 8, 2), (161, .goto (-143), 3), (164, .iconst 0, 1), (165, .istore 10, 2), (167, .iconst 0, 1), (168, .istore 11, 2), (170, .iload 11, 2), (172, .aload_n 1, 1), (173, .bipush 7, 2), (175, .iaload, 1), (176, .if_icmp .ge 69, 3), (179, .iload 7, 2), (181, .iload 8, 2), (183, .ior, 1), (184, .aload 6, 2), (186, .iload 11, 2), (188, .iaload, 1), (189, .ishr, 1), (190, .iconst 1, 1), (191, .iand, 1), (192, .iconst 1, 1), (193, .if_icmp .ne 42, 3), (196, .aload 4, 2), (198, .aload 6, 2), (200, .iload 11, 2), (202, .iaload, 1), (203, .iaload, 1), (204, .aload_n 1, 1), (205, .bipush 6, 2), (207, .iaload, 1), (208, .if_icmp .ge 27, 3), (211, .aload 4, 2), (213, .aload 6, 2), (215, .iload 11, 2), (217, .iaload, 1), (218, .iaload, 1), (219, .iload 10, 2), (221, .if_icmp .le 14, 3), (224, .aload 4, 2), (226, .aload 6, 2), (228, .iload 11, 2), (230, .iaload, 1), (231, .iaload, 1), (232, .goto 5, 3), (235, .iload 10, 2), (237, .istore 10, 2), (239, .iinc 11 1, 3), (242, .goto (-72), 3), (245, .iload 10, 2), (247, .aload_n 1, 1), (248, .aload 4, 2), (250, .aload 5, 2), (252, .aload 6, 2), (254, .invokestatic 10, 3), (257, .aload_n 1, 1), (258, .iconst 3, 1), (259, .iaload, 1), (260, .aload_n 1, 1), (261, .iconst 4, 1), (262, .iaload, 1), (263, .iadd, 1), (264, .istore 11, 2), (266, .aload_n 1, 1), (267, .iconst 4, 1), (268, .iaload, 1), (269, .bipush 40, 2), (271, .if_icmp .ne 172, 3), (274, .aload_n 1, 1), (275, .iconst 3, 1), (276, .iaload, 1), (277, .istore 12, 2), (279, .iconst 1, 1), (280, .istore 13, 2), (282, .iload 13, 2), (284, .ifCond .eq 67, 3), (287, .iconst 0, 1), (288, .istore 13, 2), (290, .iconst 0, 1), (291, .istore 14, 2), (293, .iload 14, 2), (295, .aload_n 1, 1), (296, .bipush 7, 2), (298, .iaload, 1), (299, .if_icmp .ge 34, 3), (302, .iload 13, 2), (304, .ifCond .ne 16, 3), (307, .aload 5, 2), (309, .aload 6, 2), (311, .iload 14, 2), (313, .iaload, 1), (314, .iaload, 1), (315, .iload 12, 2), (317, .if_icmp .ne 7, 3), (320, .iconst 1, 1), (321, .goto 4, 3), (324, .iconst 0, 1), (325, .istore 13, 2), (327, .iinc 14 1, 3), (330, .goto (-37), 3), (333, .iload 12, 2), (335, .iload 13, 2), (337, .ifCond .eq 7, 3), (340, .iconst 1, 1), (341, .goto 4, 3), (344, .iconst 0, 1), (345, .iadd, 1), (346, .istore 12, 2), (348, .goto (-66), 3), (351, .iload 12, 2), (353, .istore 13, 2), (355, .iload 13, 2), (357, .iconst 1, 1), (358, .iadd, 1), (359, .iload 11, 2), (361, .if_icmp .ge 29, 3), (364, .aload_n 2, 1), (365, .iload 13, 2), (367, .aload_n 2, 1), (368, .iload 13, 2), (370, .iconst 1, 1), (371, .iadd, 1), (372, .iaload, 1), (373, .iastore, 1), (374, .aload_n 3, 1), (375, .iload 13, 2), (377, .aload_n 3, 1), (378, .iload 13, 2), (380, .iconst 1, 1), (381, .iadd, 1), (382, .iaload, 1), (383, .iastore, 1), (384, .iinc 13 1, 3), (387, .goto (-32), 3), (390, .iconst 0, 1), (391, .istore 13, 2), (393, .iload 13, 2), (395, .aload_n 1, 1), (396, .bipush 7, 2), (398, .iaload, 1), (399, .if_icmp .ge 34, 3), (402, .aload 5, 2), (404, .aload 6, 2), (406, .iload 13, 2), (408, .iaload, 1), (409, .iaload, 1), (410, .iload 12, 2), (412, .if_icmp .le 15, 3), (415, .aload 5, 2), (417, .aload 6, 2), (419, .iload 13, 2), (421, .iaload, 1), (422, .dup2, 1), (423, .iaload, 1), (424, .iconst 1, 1), (425, .isub, 1), (426, .iastore, 1), (427, .iinc 13 1, 3), (430, .goto (-37), 3), (433, .aload_n 1, 1), (434, .iconst 4, 1), (435, .dup2, 1), (436, .iaload, 1), (437, .iconst 1, 1), (438, .isub, 1), (439, .iastore, 1), (440, .iinc 11 (-1), 3), (443, .aload_n 2, 1), (444, .iload 11, 2), (446, .iload 7, 2), (448, .iastore, 1), (449, .aload_n 3, 1), (450, .iload 11, 2), (452, .iload 8, 2), (454, .iastore, 1), (455, .aload_n 1, 1), (456, .iconst 4, 1), (457, .dup2, 1), (458, .iaload, 1), (459, .iconst 1, 1), (460, .iadd, 1), (461, .iastore, 1), (462, .aload_n 1, 1), (463, .bipush 8, 2), (465, .dup2, 1), (466, .iaload, 1), (467, .iconst 1, 1), (468, .iadd, 1), (469, .iastore, 1), (470, .aload_n 1, 1), (471, .bipush 8, 2), (473, .iaload, 1), (474, .aload_n 1, 1), (475, .iconst 1, 1), (476, .iaload, 1), (477, .irem, 1), (478, .ifCond .ne 14, 3), (481, .iconst 0, 1), (482, .aload_n 1, 1), (483, .aload 4, 2), (485, .aload 5, 2), (487, .aload 6, 2), (489, .invokestatic 10, 3), (492, .return_, 1)]
theorem cw_dL_learn : ∀ q ∈ cw_tL_learn, decode cL_learn q.1 = .ok q.2 := by decide +kernel
def mm_L_learn : cw_I := (yL_learn, cL_learn, 15, none, 4, 7, 2, cw_tL_learn)
theorem cw_KL_learn : cw_okI mm_L_learn := ⟨cw_dL_learn, by decide +kernel, cw_in2 58 rfl rfl, cw_in1 0 rfl rfl, rfl, by decide +kernel, by decide +kernel, by decide +kernel, by decide +kernel, by decide⟩
theorem cw_kL_learn : cw_okD mm_L_learn := ⟨cw_dL_learn, by decide +kernel, trivial⟩
end
section
def cw_tX0_append : List (Nat × (ClassFile.Instr × Nat)) := [(0, .iload_n 3, 1), (1, .iconst 1, 1), (2, .isub, 1), (3, .istore 4, 2), (5, .iload 4, 2), (7, .ifCond .lt 51, 3), (10, .aload_n 0, 1), (11, .getfield 15, 3), (14, .ifCond .lt 38, 3), (17, .aload_n 0, 1), (18, .getfield 15, 3), (21, .bipush 60, 2), (23, .if_icmp .ge 29, 3), (26, .aload_n 0, 1), (27, .getfield 11, 3), (30, .aload_n 0, 1), (31, .getfield 15, 3), (34, .lload_n 1, 1), (35, .iload 4, 2), (37, .invokestatic 19, 3), (40, .i2c, 1), (41, .castore, 1), (42, .aload_n 0, 1), (43, .dup, 1), (44, .getfield 15, 3), (47, .iconst 1, 1), (48, .iadd, 1), (49, .putfield 15, 3), (52, .iinc 4 (-1), 3), (55, .goto (-50), 3), (58, .return_, 1)]
theorem cw_dX0_append : ∀ q ∈ cw_tX0_append, decode cX0_append q.1 = .ok q.2 := by decide +kernel
def mm_X0_append : cw_I := (yX0_append, cX0_append, 5, none, 0, 2, 2, cw_tX0_append)
theorem cw_KX0_append : cw_okI mm_X0_append := ⟨cw_dX0_append, by decide +kernel, cw_in2 134 rfl rfl, cw_in1 3 rfl rfl, rfl, by decide +kernel, by decide +kernel, by decide +kernel, by decide +kernel, by decide⟩
theorem cw_kX0_append : cw_okD mm_X0_append := ⟨cw_dX0_append, by decide +kernel, trivial⟩
def cw_tX0_codeIn : List (Nat × (ClassFile.Instr × Nat)) := [(0, .lload_n 0, 1), (1, .bipush 8, 2), (3, .iload_n 2, 1), (4, .imul, 1), (5, .lushr, 1), (6, .ldc2_w 23, 3), (9, .land, 1), (10, .l2i, 1), (11, .ireturn, 1)]
theorem cw_dX0_codeIn : ∀ q ∈ cw_tX0_codeIn, decode cX0_codeIn q.1 = .ok q.2 := by decide +kernel
def mm_X0_codeIn : cw_I := (yX0_codeIn, cX0_codeIn, 3, (some .int), 0, 2, 1, cw_tX0_codeIn)
theorem cw_KX0_codeIn : cw_okI mm_X0_codeIn := ⟨cw_dX0_codeIn, by decide +kernel, cw_in2 129 rfl rfl, cw_in1 3 rfl rfl, rfl, by decide +kernel, by decide +kernel, by decide +kernel, by decide +kernel, by decide⟩
theorem cw_kX0_codeIn : cw_okD mm_X0_codeIn := ⟨cw_dX0_codeIn, by decide +kernel, trivial⟩
def cw_tX0_empty : List (Nat × (ClassFile.Instr × Nat)) := [(0, .aload_n 0, 1), (1, .iconst 0, 1), (2, .putfield 15, 3), (5, .return_, 1)]
theorem cw_dX0_empty : ∀ q ∈ cw_tX0_empty, decode cX0_empty q.1 = .ok q.2 := by decide +kernel
def mm_X0_empty : cw_I := (yX0_empty, cX0_empty, 1, none, 0, 0, 1, cw_tX0_empty)
theorem cw_KX0_empty : cw_okI mm_X0_empty := ⟨cw_dX0_empty, by decide +kernel, cw_in2 118 rfl rfl, cw_in1 3 rfl rfl, rfl, by decide +kernel, by decide +kernel, by decide +kernel, by decide +kernel, by decide⟩
theorem cw_kX0_empty : cw_okD mm_X0_empty := ⟨cw_dX0_empty, by decide +kernel, trivial⟩
def cw_tX0_howManyClauses : List (Nat × (ClassFile.Instr × Nat)) := [(0, .iconst 1, 1), (1, .istore_n 1, 1), (2, .iconst 0, 1), (3, .istore_n 2, 1), (4, .iload_n 2, 1), (5, .aload_n 0, 1), (6, .getfield 15, 3), (9, .if_icmp .ge 22, 3), (12, .aload_n 0, 1), (13, .iload_n 2, 1), (14, .invokevirtual 25, 3), (17, .bipush 59, 2), (19, .if_icmp .ne 6, 3), (22, .iinc 1 1, 3), (25, .iinc 2 1, 3), (28, .goto (-24), 3), (31, .iload_n 1, 1), (32, .ireturn, 1)]
theorem cw_dX0_howManyClauses : ∀ q ∈ cw_tX0_howManyClauses, decode cX0_howManyClauses q.1 = .ok q.2 := by decide +kernel
def mm_X0_howManyClauses : cw_I := (yX0_howManyClauses, cX0_howManyClauses, 3, (some .int), 0, 0, 2, cw_tX0_howManyClauses)
theorem cw_KX0_howManyClauses : cw_okI mm_X0_howManyClauses := ⟨cw_dX0_howManyClauses, by decide +kernel, cw_in2 163 rfl rfl, cw_in1 3 rfl rfl, rfl, by decide +kernel, by decide +kernel, by decide +kernel, by decide +kernel, by decide⟩
theorem cw_kX0_howManyClauses : cw_okD mm_X0_howManyClauses := ⟨cw_dX0_howManyClauses, by decide +kernel, trivial⟩
def cw_tX0_init : List (Nat × (ClassFile.Instr × Nat)) := [(0, .aload_n 0, 1), (1, .invokespecial 3, 3), (4, .aload_n 0, 1), (5, .bipush 60, 2), (7, .newarray .char, 2), (9, .putfield 11, 3), (12, .aload_n 0, 1), (13, .iconst 0, 1), (14, .putfield 15, 3), (17, .return_, 1)]
theorem cw_dX0_init : ∀ q ∈ cw_tX0_init, decode cX0_init q.1 = .ok q.2 := by decide +kernel
def mm_X0_init : cw_I := (yX0_init, cX0_init, 1, none, 0, 0, 1, cw_tX0_init)
theorem cw_KX0_init : cw_okI mm_X0_init := ⟨cw_dX0_init, by decide +kernel, cw_in1 79 rfl rfl, cw_in1 3 rfl rfl, rfl, by decide +kernel, by decide +kernel, by decide +kernel, by decide +kernel, by decide⟩
theorem cw_kX0_init : cw_okD mm_X0_init := ⟨cw_dX0_init, by decide +kernel, trivial⟩
def cw_tX0_tellClausesTo : List (Nat × (ClassFile.Instr × Nat)) := [(0, .iconst 0, 1), (1, .istore_n 2, 1), (2, .iconst 0, 1), (3, .istore_n 3, 1), (4, .iconst 0, 1), (5, .istore 4, 2), (7, .iload 4, 2), (9, .aload_n 0, 1), (10, .getfield 15, 3), (13, .if_icmp .ge 82, 3), (16, .aload_n 0, 1), (17, .iload 4, 2), (19, .invokevirtual 25, 3), (22, .istore 5, 2), (24, .iload 5, 2), (26, .invokestatic 29, 3), (29, .ifCond .eq 33, 3), (32, .iload 5, 2), (34, .bipush 48, 2), (36, .isub, 1), (37, .istore 6, 2), (39, .iload_n 2, 1), (40, .iload_n 3, 1), (41, .ifCond .eq 11, 3), (44, .iload 6, 2), (46, .invokestatic 39, 3), (49, .goto 5, 3), (52, .iload 6, 2), (54, .invokestatic 43, 3), (57, .ior, 1), (58, .istore_n 2, 1), (59, .goto 17, 3), (62, .iload 5, 2), (64, .bipush 59, 2), (66, .if_icmp .ne 10, 3), (69, .aload_n 1, 1), (70, .iload_n 2, 1), (71, .invokevirtual 46, 3), (74, .iconst 0, 1), (75, .istore_n 2, 1), (76, .iload 5, 2), (78, .bipush 45, 2), (80, .if_icmp .ne 7, 3), (83, .iconst 1, 1), (84, .goto 4, 3), (87, .iconst 0, 1), (88, .istore_n 3, 1), (89, .iinc 4 1, 3), (92, .goto (-85), 3), (95, .aload_n 1, 1), (96, .iload_n 2, 1), (97, .invokevirtual 46, 3), (100, .return_, 1)]
theorem cw_dX0_tellClausesTo : ∀ q ∈ cw_tX0_tellClausesTo, decode cX0_tellClausesTo q.1 = .ok q.2 := by decide +kernel
def mm_X0_tellClausesTo : cw_I := (yX0_tellClausesTo, cX0_tellClausesTo, 7, none, 0, 1, 2, cw_tX0_tellClausesTo)
theorem cw_KX0_tellClausesTo : cw_okI mm_X0_tellClausesTo := ⟨cw_dX0_tellClausesTo, by decide +kernel, cw_in2 167 rfl rfl, cw_in1 3 rfl rfl, rfl, by decide +kernel, by decide +kernel, by decide +kernel, by decide +kernel, by decide⟩
theorem cw_kX0_tellClausesTo : cw_okD mm_X0_tellClausesTo := ⟨cw_dX0_tellClausesTo, by decide +kernel, trivial⟩
def cw_tX1_doOneStep : List (Nat × (ClassFile.Instr × Nat)) := [(0, .aload_n 0, 1), (1, .iconst 0, 1), (2, .invokevirtual 106, 3), (5, .istore_n 1, 1), (6, .iload_n 1, 1), (7, .ifCond .lt 9, 3), (10, .aload_n 0, 1), (11, .iload_n 1, 1), (12, .invokevirtual 109, 3), (15, .return_, 1), (16, .aload_n 0, 1), (17, .iconst 1, 1), (18, .invokevirtual 106, 3), (21, .istore_n 2, 1), (22, .iload_n 2, 1), (23, .ifCond .lt 26, 3), (26, .aload_n 0, 1), (27, .aload_n 0, 1), (28, .aload_n 0, 1), (29, .iload_n 2, 1), (30, .invokevirtual 61, 3), (33, .invokevirtual 76, 3), (36, .iconst 1, 1), (37, .invokestatic 113, 3), (40, .aload_n 0, 1), (41, .invokevirtual 117, 3), (44, .iload_n 2, 1), (45, .invokevirtual 120, 3), (48, .return_, 1), (49, .aload_n 0, 1), (50, .invokevirtual 124, 3), (53, .istore_n 3, 1), (54, .iload_n 3, 1), (55, .ifCond .le 32, 3), (58, .aload_n 0, 1), (59, .aload_n 0, 1), (60, .getfield 18, 3), (63, .iconst 1, 1), (64, .if_icmp .ne 7, 3), (67, .iload_n 3, 1), (68, .goto 7, 3), (71, .iload_n 3, 1), (72, .invokestatic 127, 3), (75, .aload_n 0, 1), (76, .invokevirtual 117, 3), (79, .iconst 1, 1), (80, .iadd, 1), (81, .bipush (-6), 2), (83, .invokevirtual 120, 3), (86, .return_, 1), (87, .aload_n 0, 1), (88, .iconst 1, 1), (89, .putfield 46, 3), (92, .return_, 1)]
theorem cw_dX1_doOneStep : ∀ q ∈ cw_tX1_doOneStep, decode cX1_doOneStep q.1 = .ok q.2 := by decide +kernel
def mm_X1_doOneStep : cw_I := (yX1_doOneStep, cX1_doOneStep, 4, none, 1, 0, 6, cw_tX1_doOneStep)
theorem cw_KX1_doOneStep : cw_okI mm_X1_doOneStep := ⟨cw_dX1_doOneStep, by decide +kernel, cw_in1 173 rfl rfl, cw_in1 2 rfl rfl, rfl, by decide +kernel, by decide +kernel, by decide +kernel, by decide +kernel, by decide⟩
theorem cw_kX1_doOneStep : cw_okD mm_X1_doOneStep := ⟨cw_dX1_doOneStep, by decide +kernel, trivial⟩
def cw_tX1_firstUntrue : List (Nat × (ClassFile.Instr × Nat)) := [(0, .iconst 0, 1), (1, .istore_n 2, 1), (2, .iload_n 2, 1), (3, .aload_n 0, 1), (4, .getfield 21, 3), (7, .aload_n 0, 1), (8, .getfield 24, 3), (11, .iadd, 1), (12, .if_icmp .ge 37, 3), (15, .aload_n 0, 1), (16, .iload_n 2, 1), (17, .invokevirtual 61, 3), (20, .istore_n 3, 1), (21, .aload_n 0, 1), (22, .iload_n 3, 1), (23, .invokevirtual 72, 3), (26, .ifCond .ne 17, 3), (29, .aload_n 0, 1), (30, .iload_n 3, 1), (31, .invokevirtual 76, 3), (34, .invokestatic 79, 3), (37, .iload_n 1, 1), (38, .if_icmp .ne 5, 3), (41, .iload_n 2, 1), (42, .ireturn, 1), (43, .iinc 2 1, 3), (46, .goto (-44), 3), (49, .bipush (-6), 2), (51, .ireturn, 1)]
theorem cw_dX1_firstUntrue : ∀ q ∈ cw_tX1_firstUntrue, decode cX1_firstUntrue q.1 = .ok q.2 := by decide +kernel
def mm_X1_firstUntrue : cw_I := (yX1_firstUntrue, cX1_firstUntrue, 4, (some .int), 1, 1, 3, cw_tX1_firstUntrue)
theorem cw_KX1_firstUntrue : cw_okI mm_X1_firstUntrue := ⟨cw_dX1_firstUntrue, by decide +kernel, cw_in1 177 rfl rfl, cw_in1 2 rfl rfl, rfl, by decide +kernel, by decide +kernel, by decide +kernel, by decide +kernel, by decide⟩
theorem cw_kX1_firstUntrue : cw_okD mm_X1_firstUntrue := ⟨cw_dX1_firstUntrue, by decide +kernel, trivial⟩
def cw_tX1_goBackTo : List (Nat × (ClassFile.Instr × Nat)) := [(0, .aload_n 0, 1), (1, .getfield 31, 3), (4, .ifCond .le 52, 3), (7, .aload_n 0, 1), (8, .aload_n 0, 1), (9, .getfield 31, 3), (12, .iconst 1, 1), (13, .isub, 1), (14, .invokevirtual 88, 3), (17, .iload_n 1, 1), (18, .if_icmp .le 38, 3), (21, .aload_n 0, 1), (22, .dup, 1), (23, .getfield 31, 3), (26, .iconst 1, 1), (27, .isub, 1), (28, .putfield 31, 3), (31, .aload_n 0, 1), (32, .dup, 1), (33, .getfield 43, 3), (36, .aload_n 0, 1), (37, .aload_n 0, 1), (38, .getfield 31, 3), (41, .invokevirtual 91, 3), (44, .invokestatic 97, 3), (47, .iconst (-1), 1), (48, .ixor, 1), (49, .iand, 1), (50, .putfield 43, 3), (53, .goto (-53), 3), (56, .return_, 1)]
theorem cw_dX1_goBackTo : ∀ q ∈ cw_tX1_goBackTo, decode cX1_goBackTo q.1 = .ok q.2 := by decide +kernel
def mm_X1_goBackTo : cw_I := (yX1_goBackTo, cX1_goBackTo, 2, none, 1, 1, 2, cw_tX1_goBackTo)
theorem cw_KX1_goBackTo : cw_okI mm_X1_goBackTo := ⟨cw_dX1_goBackTo, by decide +kernel, cw_in1 234 rfl rfl, cw_in1 2 rfl rfl, rfl, by decide +kernel, by decide +kernel, by decide +kernel, by decide +kernel, by decide⟩
theorem cw_kX1_goBackTo : cw_okD mm_X1_goBackTo := ⟨cw_dX1_goBackTo, by decide +kernel, trivial⟩
def cw_tX1_isTrue : List (Nat × (ClassFile.Instr × Nat)) := [(0, .iload_n 1, 1), (1, .aload_n 0, 1), (2, .getfield 43, 3), (5, .iand, 1), (6, .ifCond .eq 7, 3), (9, .iconst 1, 1), (10, .goto 4, 3), (13, .iconst 0, 1), (14, .ireturn, 1)]
theorem cw_dX1_isTrue : ∀ q ∈ cw_tX1_isTrue, decode cX1_isTrue q.1 = .ok q.2 := by decide +kernel
def mm_X1_isTrue : cw_I := (yX1_isTrue, cX1_isTrue, 2, (some .boolean), 1, 1, 1, cw_tX1_isTrue)
theorem cw_KX1_isTrue : cw_okI mm_X1_isTrue := ⟨cw_dX1_isTrue, by decide +kernel, cw_in1 181 rfl rfl, cw_in1 2 rfl rfl, rfl, by decide +kernel, by decide +kernel, by decide +kernel, by decide +kernel, by decide⟩
theorem cw_kX1_isTrue : cw_okD mm_X1_isTrue := ⟨cw_dX1_isTrue, by decide +kernel, trivial⟩
def cw_tX1_levelAt : List (Nat × (ClassFile.Instr × Nat)) := [(0, .iload_n 1, 1), (1, .ifCond .lt 18, 3), (4, .iload_n 1, 1), (5, .bipush 9, 2), (7, .if_icmp .ge 12, 3), (10, .aload_n 0, 1), (11, .getfield 37, 3), (14, .iload_n 1, 1), (15, .iaload, 1), (16, .goto 4, 3), (19, .iconst 0, 1), (20, .ireturn, 1)]
theorem cw_dX1_levelAt : ∀ q ∈ cw_tX1_levelAt, decode cX1_levelAt q.1 = .ok q.2 := by decide +kernel
def mm_X1_levelAt : cw_I := (yX1_levelAt, cX1_levelAt, 2, (some .int), 1, 1, 1, cw_tX1_levelAt)
theorem cw_KX1_levelAt : cw_okI mm_X1_levelAt := ⟨cw_dX1_levelAt, by decide +kernel, cw_in1 203 rfl rfl, cw_in1 2 rfl rfl, rfl, by decide +kernel, by decide +kernel, by decide +kernel, by decide +kernel, by decide⟩
theorem cw_kX1_levelAt : cw_okD mm_X1_levelAt := ⟨cw_dX1_levelAt, by decide +kernel, trivial⟩
def cw_tX1_levelBelowPresent : List (Nat × (ClassFile.Instr × Nat)) := [(0, .iconst 0, 1), (1, .istore_n 2, 1), (2, .iconst 0, 1), (3, .istore_n 3, 1), (4, .iload_n 3, 1), (5, .aload_n 0, 1), (6, .getfield 31, 3), (9, .if_icmp .ge 46, 3), (12, .iload_n 1, 1), (13, .aload_n 0, 1), (14, .iload_n 3, 1), (15, .invokevirtual 91, 3), (18, .invokestatic 127, 3), (21, .invokestatic 68, 3), (24, .ifCond .eq 25, 3), (27, .aload_n 0, 1), (28, .iload_n 3, 1), (29, .invokevirtual 88, 3), (32, .aload_n 0, 1), (33, .invokevirtual 117, 3), (36, .if_icmp .ge 13, 3), (39, .iload_n 2, 1), (40, .aload_n 0, 1), (41, .iload_n 3, 1), (42, .invokevirtual 88, 3), (45, .invokestatic 148, 3), (48, .istore_n 2, 1), (49, .iinc 3 1, 3), (52, .goto (-48), 3), (55, .iload_n 2, 1), (56, .ireturn, 1)]
theorem cw_dX1_levelBelowPresent : ∀ q ∈ cw_tX1_levelBelowPresent, decode cX1_levelBelowPresent q.1 = .ok q.2 := by decide +kernel
def mm_X1_levelBelowPresent : cw_I := (yX1_levelBelowPresent, cX1_levelBelowPresent, 4, (some .int), 1, 1, 3, cw_tX1_levelBelowPresent)
theorem cw_KX1_levelBelowPresent : cw_okI mm_X1_levelBelowPresent := ⟨cw_dX1_levelBelowPresent, by decide +kernel, cw_in1 227 rfl rfl, cw_in1 2 rfl rfl, rfl, by decide +kernel, by decide +kernel, by decide +kernel, by decide +kernel, by decide⟩
theorem cw_kX1_levelBelowPresent : cw_okD mm_X1_levelBelowPresent := ⟨cw_dX1_levelBelowPresent, by decide +kernel, trivial⟩
def cw_tX1_placeOf : List (Nat × (ClassFile.Instr × Nat)) := [(0, .iconst 0, 1), (1, .istore_n 2, 1), (2, .iload_n 2, 1), (3, .aload_n 0, 1), (4, .getfield 31, 3), (7, .if_icmp .ge 23, 3), (10, .aload_n 0, 1), (11, .iload_n 2, 1), (12, .invokevirtual 91, 3), (15, .invokestatic 94, 3), (18, .iload_n 1, 1), (19, .if_icmp .ne 5, 3), (22, .iload_n 2, 1), (23, .ireturn, 1), (24, .iinc 2 1, 3), (27, .goto (-25), 3), (30, .bipush (-6), 2), (32, .ireturn, 1)]
theorem cw_dX1_placeOf : ∀ q ∈ cw_tX1_placeOf, decode cX1_placeOf q.1 = .ok q.2 := by decide +kernel
def mm_X1_placeOf : cw_I := (yX1_placeOf, cX1_placeOf, 3, (some .int), 1, 1, 2, cw_tX1_placeOf)
theorem cw_KX1_placeOf : cw_okI mm_X1_placeOf := ⟨cw_dX1_placeOf, by decide +kernel, cw_in2 79 rfl rfl, cw_in1 2 rfl rfl, rfl, by decide +kernel, by decide +kernel, by decide +kernel, by decide +kernel, by decide⟩
theorem cw_kX1_placeOf : cw_okD mm_X1_placeOf := ⟨cw_dX1_placeOf, by decide +kernel, trivial⟩
def cw_tX1_reasonAt : List (Nat × (ClassFile.Instr × Nat)) := [(0, .iload_n 1, 1), (1, .ifCond .lt 18, 3), (4, .iload_n 1, 1), (5, .bipush 9, 2), (7, .if_icmp .ge 12, 3), (10, .aload_n 0, 1), (11, .getfield 40, 3), (14, .iload_n 1, 1), (15, .iaload, 1), (16, .goto 5, 3), (19, .bipush (-6), 2), (21, .ireturn, 1)]
theorem cw_dX1_reasonAt : ∀ q ∈ cw_tX1_reasonAt, decode cX1_reasonAt q.1 = .ok q.2 := by decide +kernel
def mm_X1_reasonAt : cw_I := (yX1_reasonAt, cX1_reasonAt, 2, (some .int), 1, 1, 1, cw_tX1_reasonAt)
theorem cw_KX1_reasonAt : cw_okI mm_X1_reasonAt := ⟨cw_dX1_reasonAt, by decide +kernel, cw_in1 223 rfl rfl, cw_in1 2 rfl rfl, rfl, by decide +kernel, by decide +kernel, by decide +kernel, by decide +kernel, by decide⟩
theorem cw_kX1_reasonAt : cw_okD mm_X1_reasonAt := ⟨cw_dX1_reasonAt, by decide +kernel, trivial⟩
def cw_tX1_signAt : List (Nat × (ClassFile.Instr × Nat)) := [(0, .iload_n 1, 1), (1, .ifCond .lt 18, 3), (4, .iload_n 1, 1), (5, .bipush 9, 2), (7, .if_icmp .ge 12, 3), (10, .aload_n 0, 1), (11, .getfield 34, 3), (14, .iload_n 1, 1), (15, .iaload, 1), (16, .goto 4, 3), (19, .iconst 0, 1), (20, .ireturn, 1)]
theorem cw_dX1_signAt : ∀ q ∈ cw_tX1_signAt, decode cX1_signAt q.1 = .ok q.2 := by decide +kernel
def mm_X1_signAt : cw_I := (yX1_signAt, cX1_signAt, 2, (some .int), 1, 1, 1, cw_tX1_signAt)
theorem cw_KX1_signAt : cw_okI mm_X1_signAt := ⟨cw_dX1_signAt, by decide +kernel, cw_in1 215 rfl rfl, cw_in1 2 rfl rfl, rfl, by decide +kernel, by decide +kernel, by decide +kernel, by decide +kernel, by decide⟩
theorem cw_kX1_signAt : cw_okD mm_X1_signAt := ⟨cw_dX1_signAt, by decide +kernel, trivial⟩
def cw_tX1_tell : List (Nat × (ClassFile.Instr × Nat)) := [(0, .aload_n 0, 1), (1, .getfield 21, 3), (4, .ifCond .lt 32, 3), (7, .aload_n 0, 1), (8, .getfield 21, 3), (11, .bipush 20, 2), (13, .if_icmp .ge 23, 3), (16, .aload_n 0, 1), (17, .getfield 27, 3), (20, .aload_n 0, 1), (21, .getfield 21, 3), (24, .iload_n 1, 1), (25, .iastore, 1), (26, .aload_n 0, 1), (27, .dup, 1), (28, .getfield 21, 3), (31, .iconst 1, 1), (32, .iadd, 1), (33, .putfield 21, 3), (36, .return_, 1)]
theorem cw_dX1_tell : ∀ q ∈ cw_tX1_tell, decode cX1_tell q.1 = .ok q.2 := by decide +kernel
def mm_X1_tell : cw_I := (yX1_tell, cX1_tell, 2, none, 1, 1, 1, cw_tX1_tell)
theorem cw_KX1_tell : cw_okI mm_X1_tell := ⟨cw_dX1_tell, by decide +kernel, cw_in2 173 rfl rfl, cw_in1 2 rfl rfl, rfl, by decide +kernel, by decide +kernel, by decide +kernel, by decide +kernel, by decide⟩
theorem cw_kX1_tell : cw_okD mm_X1_tell := ⟨cw_dX1_tell, by decide +kernel, trivial⟩
def cw_tX2_back : List (Nat × (ClassFile.Instr × Nat)) := [(0, .iload_n 1, 1), (1, .ifCond .lt 14, 3), (4, .iload_n 1, 1), (5, .aload_n 0, 1), (6, .getfield 12, 3), (9, .invokevirtual 95, 3), (12, .if_icmp .le 6, 3), (15, .bipush (-2), 2), (17, .ireturn, 1), (18, .aload_n 0, 1), (19, .getfield 12, 3), (22, .getfield 92, 3), (25, .iconst 2, 1), (26, .if_icmp .ne 6, 3), (29, .bipush (-5), 2), (31, .ireturn, 1), (32, .aload_n 0, 1), (33, .invokevirtual 51, 3), (36, .aload_n 0, 1), (37, .getfield 12, 3), (40, .iload_n 1, 1), (41, .invokevirtual 98, 3), (44, .aload_n 0, 1), (45, .getfield 12, 3), (48, .iconst 0, 1), (49, .putfield 92, 3), (52, .aload_n 0, 1), (53, .getfield 12, 3), (56, .getfield 101, 3), (59, .ireturn, 1)]
theorem cw_dX2_back : ∀ q ∈ cw_tX2_back, decode cX2_back q.1 = .ok q.2 := by decide +kernel
def mm_X2_back : cw_I := (yX2_back, cX2_back, 2, (some .int), 2, 1, 3, cw_tX2_back)
theorem cw_KX2_back : cw_okI mm_X2_back := ⟨cw_dX2_back, by decide +kernel, cw_in2 32 rfl rfl, cw_in1 1 rfl rfl, rfl, by decide +kernel, by decide +kernel, by decide +kernel, by decide +kernel, by decide⟩
theorem cw_kX2_back : cw_okD mm_X2_back := ⟨cw_dX2_back, by decide +kernel, trivial⟩
def cw_tX2_has : List (Nat × (ClassFile.Instr × Nat)) := [(0, .iload_n 0, 1), (1, .iload_n 1, 1), (2, .invokestatic 178, 3), (5, .iand, 1), (6, .ifCond .eq 7, 3), (9, .iconst 1, 1), (10, .goto 4, 3), (13, .iconst 0, 1), (14, .ireturn, 1)]
theorem cw_dX2_has : ∀ q ∈ cw_tX2_has, decode cX2_has q.1 = .ok q.2 := by decide +kernel
def mm_X2_has : cw_I := (yX2_has, cX2_has, 2, (some .boolean), 2, 2, 2, cw_tX2_has)
theorem cw_KX2_has : cw_okI mm_X2_has := ⟨cw_dX2_has, by decide +kernel, cw_in1 131 rfl rfl, cw_in1 1 rfl rfl, rfl, by decide +kernel, by decide +kernel, by decide +kernel, by decide +kernel, by decide⟩
theorem cw_kX2_has : cw_okD mm_X2_has := ⟨cw_dX2_has, by decide +kernel, trivial⟩
def cw_tX2_init : List (Nat × (ClassFile.Instr × Nat)) := [(0, .aload_n 0, 1), (1, .invokespecial 3, 3), (4, .aload_n 0, 1), (5, .new 9, 3), (8, .dup, 1), (9, .invokespecial 11, 3), (12, .putfield 12, 3), (15, .aload_n 0, 1), (16, .new 9, 3), (19, .dup, 1), (20, .invokespecial 11, 3), (23, .putfield 16, 3), (26, .aload_n 0, 1), (27, .bipush 6, 2), (29, .anewarray 9, 3), (32, .putfield 19, 3), (35, .aload_n 0, 1), (36, .iconst 0, 1), (37, .putfield 23, 3), (40, .aload_n 0, 1), (41, .iconst 2, 1), (42, .anewarray 9, 3), (45, .putfield 27, 3), (48, .aload_n 0, 1), (49, .new 30, 3), (52, .dup, 1), (53, .invokespecial 32, 3), (56, .putfield 33, 3), (59, .return_, 1)]
theorem cw_dX2_init : ∀ q ∈ cw_tX2_init, decode cX2_init q.1 = .ok q.2 := by decide +kernel
def mm_X2_init : cw_I := (yX2_init, cX2_init, 1, none, 2, 0, 2, cw_tX2_init)
theorem cw_KX2_init : cw_okI mm_X2_init := ⟨cw_dX2_init, by decide +kernel, cw_in1 11 rfl rfl, cw_in1 1 rfl rfl, rfl, by decide +kernel, by decide +kernel, by decide +kernel, by decide +kernel, by decide⟩
theorem cw_kX2_init : cw_okD mm_X2_init := ⟨cw_dX2_init, by decide +kernel, trivial⟩
def cw_tX2_isNoThing : List (Nat × (ClassFile.Instr × Nat)) := [(0, .iload_n 1, 1), (1, .iconst 1, 1), (2, .if_icmp .lt 14, 3), (5, .iload_n 1, 1), (6, .aload_n 0, 1), (7, .getfield 12, 3), (10, .getfield 54, 3), (13, .if_icmp .le 7, 3), (16, .iconst 1, 1), (17, .goto 4, 3), (20, .iconst 0, 1), (21, .ireturn, 1)]
theorem cw_dX2_isNoThing : ∀ q ∈ cw_tX2_isNoThing, decode cX2_isNoThing q.1 = .ok q.2 := by decide +kernel
def mm_X2_isNoThing : cw_I := (yX2_isNoThing, cX2_isNoThing, 2, (some .boolean), 2, 1, 1, cw_tX2_isNoThing)
theorem cw_KX2_isNoThing : cw_okI mm_X2_isNoThing := ⟨cw_dX2_isNoThing, by decide +kernel, cw_in2 75 rfl rfl, cw_in1 1 rfl rfl, rfl, by decide +kernel, by decide +kernel, by decide +kernel, by decide +kernel, by decide⟩
theorem cw_kX2_isNoThing : cw_okD mm_X2_isNoThing := ⟨cw_dX2_isNoThing, by decide +kernel, trivial⟩
def cw_tX2_opposite : List (Nat × (ClassFile.Instr × Nat)) := [(0, .iload_n 0, 1), (1, .bipush 10, 2), (3, .if_icmp .lt 10, 3), (6, .iload_n 0, 1), (7, .bipush 10, 2), (9, .isub, 1), (10, .goto 7, 3), (13, .iload_n 0, 1), (14, .bipush 10, 2), (16, .iadd, 1), (17, .ireturn, 1)]
theorem cw_dX2_opposite : ∀ q ∈ cw_tX2_opposite, decode cX2_opposite q.1 = .ok q.2 := by decide +kernel
def mm_X2_opposite : cw_I := (yX2_opposite, cX2_opposite, 1, (some .int), 2, 1, 1, cw_tX2_opposite)
theorem cw_KX2_opposite : cw_okI mm_X2_opposite := ⟨cw_dX2_opposite, by decide +kernel, cw_in1 219 rfl rfl, cw_in1 1 rfl rfl, rfl, by decide +kernel, by decide +kernel, by decide +kernel, by decide +kernel, by decide⟩
theorem cw_kX2_opposite : cw_okD mm_X2_opposite := ⟨cw_dX2_opposite, by decide +kernel, trivial⟩
def cw_tX2_opposites : List (Nat × (ClassFile.Instr × Nat)) := [(0, .iload_n 0, 1), (1, .bipush 10, 2), (3, .ishl, 1), (4, .iload_n 0, 1), (5, .bipush 10, 2), (7, .ishr, 1), (8, .ior, 1), (9, .ldc 195, 2), (11, .iand, 1), (12, .ireturn, 1)]
theorem cw_dX2_opposites : ∀ q ∈ cw_tX2_opposites, decode cX2_opposites q.1 = .ok q.2 := by decide +kernel
def mm_X2_opposites : cw_I := (yX2_opposites, cX2_opposites, 1, (some .int), 2, 1, 1, cw_tX2_opposites)
theorem cw_KX2_opposites : cw_okI mm_X2_opposites := ⟨cw_dX2_opposites, by decide +kernel, cw_in1 127 rfl rfl, cw_in1 1 rfl rfl, rfl, by decide +kernel, by decide +kernel, by decide +kernel, by decide +kernel, by decide⟩
theorem cw_kX2_opposites : cw_okD mm_X2_opposites := ⟨cw_dX2_opposites, by decide +kernel, trivial⟩
def cw_tX2_read : List (Nat × (ClassFile.Instr × Nat)) := [(0, .aload_n 0, 1), (1, .getfield 33, 3), (4, .invokevirtual 66, 3), (7, .bipush (-6), 2), (9, .if_icmp .eq 6, 3), (12, .bipush (-3), 2), (14, .ireturn, 1), (15, .aload_n 0, 1), (16, .getfield 33, 3), (19, .invokevirtual 69, 3), (22, .aload_n 0, 1), (23, .getfield 12, 3), (26, .getfield 54, 3), (29, .if_icmp .le 6, 3), (32, .bipush (-2), 2), (34, .ireturn, 1), (35, .aload_n 0, 1), (36, .getfield 12, 3), (39, .getfield 72, 3), (42, .aload_n 0, 1), (43, .getfield 33, 3), (46, .invokevirtual 75, 3), (49, .iadd, 1), (50, .bipush 20, 2), (52, .if_icmp .le 6, 3), (55, .bipush (-4), 2), (57, .ireturn, 1), (58, .aload_n 0, 1), (59, .invokevirtual 51, 3), (62, .aload_n 0, 1), (63, .getfield 12, 3), (66, .invokevirtual 57, 3), (69, .aload_n 0, 1), (70, .getfield 33, 3), (73, .aload_n 0, 1), (74, .getfield 12, 3), (77, .invokevirtual 78, 3), (80, .aload_n 0, 1), (81, .getfield 33, 3), (84, .invokevirtual 82, 3), (87, .aload_n 0, 1), (88, .getfield 12, 3), (91, .getfield 72, 3), (94, .ireturn, 1)]
theorem cw_dX2_read : ∀ q ∈ cw_tX2_read, decode cX2_read q.1 = .ok q.2 := by decide +kernel
def mm_X2_read : cw_I := (yX2_read, cX2_read, 1, (some .int), 2, 0, 3, cw_tX2_read)
theorem cw_KX2_read : cw_okI mm_X2_read := ⟨cw_dX2_read, by decide +kernel, cw_in2 143 rfl rfl, cw_in1 1 rfl rfl, rfl, by decide +kernel, by decide +kernel, by decide +kernel, by decide +kernel, by decide⟩
theorem cw_kX2_read : cw_okD mm_X2_read := ⟨cw_dX2_read, by decide +kernel, trivial⟩
def cw_tX2_setOf : List (Nat × (ClassFile.Instr × Nat)) := [(0, .iconst 1, 1), (1, .iload_n 0, 1), (2, .ishl, 1), (3, .ireturn, 1)]
theorem cw_dX2_setOf : ∀ q ∈ cw_tX2_setOf, decode cX2_setOf q.1 = .ok q.2 := by decide +kernel
def mm_X2_setOf : cw_I := (yX2_setOf, cX2_setOf, 1, (some .int), 2, 1, 1, cw_tX2_setOf)
theorem cw_KX2_setOf : cw_okI mm_X2_setOf := ⟨cw_dX2_setOf, by decide +kernel, cw_in1 134 rfl rfl, cw_in1 1 rfl rfl, rfl, by decide +kernel, by decide +kernel, by decide +kernel, by decide +kernel, by decide⟩
theorem cw_kX2_setOf : cw_okD mm_X2_setOf := ⟨cw_dX2_setOf, by decide +kernel, trivial⟩
def cw_tX2_setRestart : List (Nat × (ClassFile.Instr × Nat)) := [(0, .iload_n 1, 1), (1, .iconst 1, 1), (2, .if_icmp .lt 9, 3), (5, .iload_n 1, 1), (6, .bipush 20, 2), (8, .if_icmp .le 6, 3), (11, .bipush (-2), 2), (13, .ireturn, 1), (14, .aload_n 0, 1), (15, .invokevirtual 51, 3), (18, .aload_n 0, 1), (19, .getfield 12, 3), (22, .getfield 60, 3), (25, .istore_n 2, 1), (26, .aload_n 0, 1), (27, .getfield 12, 3), (30, .iload_n 1, 1), (31, .putfield 60, 3), (34, .iload_n 2, 1), (35, .ireturn, 1)]
theorem cw_dX2_setRestart : ∀ q ∈ cw_tX2_setRestart, decode cX2_setRestart q.1 = .ok q.2 := by decide +kernel
def mm_X2_setRestart : cw_I := (yX2_setRestart, cX2_setRestart, 3, (some .int), 2, 1, 3, cw_tX2_setRestart)
theorem cw_KX2_setRestart : cw_okI mm_X2_setRestart := ⟨cw_dX2_setRestart, by decide +kernel, cw_in1 157 rfl rfl, cw_in1 1 rfl rfl, rfl, by decide +kernel, by decide +kernel, by decide +kernel, by decide +kernel, by decide⟩
theorem cw_kX2_setRestart : cw_okD mm_X2_setRestart := ⟨cw_dX2_setRestart, by decide +kernel, trivial⟩
def cw_tX2_step : List (Nat × (ClassFile.Instr × Nat)) := [(0, .iload_n 1, 1), (1, .iconst 1, 1), (2, .if_icmp .lt 10, 3), (5, .iload_n 1, 1), (6, .sipush 500, 3), (9, .if_icmp .le 6, 3), (12, .bipush (-2), 2), (14, .ireturn, 1), (15, .aload_n 0, 1), (16, .invokevirtual 51, 3), (19, .aload_n 0, 1), (20, .getfield 12, 3), (23, .iload_n 1, 1), (24, .invokevirtual 89, 3), (27, .aload_n 0, 1), (28, .getfield 12, 3), (31, .getfield 92, 3), (34, .ireturn, 1)]
theorem cw_dX2_step : ∀ q ∈ cw_tX2_step, decode cX2_step q.1 = .ok q.2 := by decide +kernel
def mm_X2_step : cw_I := (yX2_step, cX2_step, 2, (some .int), 2, 1, 8, cw_tX2_step)
theorem cw_KX2_step : cw_okI mm_X2_step := ⟨cw_dX2_step, by decide +kernel, cw_in1 165 rfl rfl, cw_in1 1 rfl rfl, rfl, by decide +kernel, by decide +kernel, by decide +kernel, by decide +kernel, by decide⟩
theorem cw_kX2_step : cw_okD mm_X2_step := ⟨cw_dX2_step, by decide +kernel, trivial⟩
def cw_tX2_thingOf : List (Nat × (ClassFile.Instr × Nat)) := [(0, .iload_n 0, 1), (1, .bipush 10, 2), (3, .if_icmp .lt 10, 3), (6, .iload_n 0, 1), (7, .bipush 10, 2), (9, .isub, 1), (10, .goto 4, 3), (13, .iload_n 0, 1), (14, .ireturn, 1)]
theorem cw_dX2_thingOf : ∀ q ∈ cw_tX2_thingOf, decode cX2_thingOf q.1 = .ok q.2 := by decide +kernel
def mm_X2_thingOf : cw_I := (yX2_thingOf, cX2_thingOf, 1, (some .int), 2, 1, 1, cw_tX2_thingOf)
theorem cw_KX2_thingOf : cw_okI mm_X2_thingOf := ⟨cw_dX2_thingOf, by decide +kernel, cw_in2 82 rfl rfl, cw_in1 1 rfl rfl, rfl, by decide +kernel, by decide +kernel, by decide +kernel, by decide +kernel, by decide⟩
theorem cw_kX2_thingOf : cw_okD mm_X2_thingOf := ⟨cw_dX2_thingOf, by decide +kernel, trivial⟩
def cw_tX2_wipe : List (Nat × (ClassFile.Instr × Nat)) := [(0, .aload_n 0, 1), (1, .getfield 33, 3), (4, .getfield 153, 3), (7, .istore_n 1, 1), (8, .aload_n 0, 1), (9, .getfield 33, 3), (12, .invokevirtual 82, 3), (15, .iload_n 1, 1), (16, .ireturn, 1)]
theorem cw_dX2_wipe : ∀ q ∈ cw_tX2_wipe, decode cX2_wipe q.1 = .ok q.2 := by decide +kernel
def mm_X2_wipe : cw_I := (yX2_wipe, cX2_wipe, 2, (some .int), 2, 0, 2, cw_tX2_wipe)
theorem cw_KX2_wipe : cw_okI mm_X2_wipe := ⟨cw_dX2_wipe, by decide +kernel, cw_in2 114 rfl rfl, cw_in1 1 rfl rfl, rfl, by decide +kernel, by decide +kernel, by decide +kernel, by decide +kernel, by decide⟩
theorem cw_kX2_wipe : cw_okD mm_X2_wipe := ⟨cw_dX2_wipe, by decide +kernel, trivial⟩
def cw_tL_bits : List (Nat × (ClassFile.Instr × Nat)) := [(0, .iconst 0, 1), (1, .istore_n 1, 1), (2, .iload_n 0, 1), (3, .istore_n 2, 1), (4, .iload_n 2, 1), (5, .ifCond .eq 15, 3), (8, .iinc 1 1, 3), (11, .iload_n 2, 1), (12, .iload_n 2, 1), (13, .iconst 1, 1), (14, .isub, 1), (15, .iand, 1), (16, .istore_n 2, 1), (17, .goto (-13), 3), (20, .iload_n 1, 1), (21, .ireturn, 1)]
theorem cw_dL_bits : ∀ q ∈ cw_tL_bits, decode cL_bits q.1 = .ok q.2 := by decide +kernel
def mm_L_bits : cw_I := (yL_bits, cL_bits, 3, (some .int), 4, 1, 1, cw_tL_bits)
theorem cw_KL_bits : cw_okI mm_L_bits := ⟨cw_dL_bits, by decide +kernel, cw_in2 61 rfl rfl, cw_in1 0 rfl rfl, rfl, by decide +kernel, by decide +kernel, by decide +kernel, by decide +kernel, by decide⟩
theorem cw_kL_bits : cw_okD mm_L_bits := ⟨cw_dL_bits, by decide +kernel, trivial⟩
def cw_tL_cell : List (Nat × (ClassFile.Instr × Nat)) := [(0, .iload_n 1, 1), (1, .aload_n 0, 1), (2, .arraylength, 1), (3, .if_icmp .ge 9, 3), (6, .aload_n 0, 1), (7, .iload_n 1, 1), (8, .iaload, 1), (9, .goto 12, 3), (12, .ldc 7, 2), (14, .iload_n 1, 1), (15, .iconst 1, 1), (16, .iadd, 1), (17, .imul, 1), (18, .ldc 8, 2), (20, .iadd, 1), (21, .ireturn, 1)]
theorem cw_dL_cell : ∀ q ∈ cw_tL_cell, decode cL_cell q.1 = .ok q.2 := by decide +kernel
def mm_L_cell : cw_I := (yL_cell, cL_cell, 2, (some .int), 4, 2, 1, cw_tL_cell)
theorem cw_KL_cell : cw_okI mm_L_cell := ⟨cw_dL_cell, by decide +kernel, cw_in2 37 rfl rfl, cw_in1 0 rfl rfl, rfl, by decide +kernel, by decide +kernel, by decide +kernel, by decide +kernel, by decide⟩
theorem cw_kL_cell : cw_okD mm_L_cell := ⟨cw_dL_cell, by decide +kernel, trivial⟩
def cw_tL_isTrue : List (Nat × (ClassFile.Instr × Nat)) := [(0, .aload_n 2, 1), (1, .iload_n 0, 1), (2, .iaload, 1), (3, .aload_n 1, 1), (4, .bipush 10, 2), (6, .iaload, 1), (7, .iand, 1), (8, .aload_n 3, 1), (9, .iload_n 0, 1), (10, .iaload, 1), (11, .aload_n 1, 1), (12, .bipush 11, 2), (14, .iaload, 1), (15, .iand, 1), (16, .ior, 1), (17, .ifCond .eq 7, 3), (20, .iconst 1, 1), (21, .goto 4, 3), (24, .iconst 0, 1), (25, .ireturn, 1)]
theorem cw_dL_isTrue : ∀ q ∈ cw_tL_isTrue, decode cL_isTrue q.1 = .ok q.2 := by decide +kernel
def mm_L_isTrue : cw_I := (yL_isTrue, cL_isTrue, 4, (some .boolean), 4, 4, 1, cw_tL_isTrue)
theorem cw_KL_isTrue : cw_okI mm_L_isTrue := ⟨cw_dL_isTrue, by decide +kernel, cw_in2 52 rfl rfl, cw_in1 0 rfl rfl, rfl, by decide +kernel, by decide +kernel, by decide +kernel, by decide +kernel, by decide⟩
theorem cw_kL_isTrue : cw_okD mm_L_isTrue := ⟨cw_dL_isTrue, by decide +kernel, trivial⟩
def cw_tL_law : List (Nat × (ClassFile.Instr × Nat)) := [(0, .new 37, 3), (3, .dup, 1), (4, .invokespecial 75, 3), (7, .astore_n 1, 1), (8, .bipush 12, 2), (10, .newarray .int, 2), (12, .astore_n 2, 1), (13, .bipush 61, 2), (15, .newarray .int, 2), (17, .astore_n 3, 1), (18, .bipush 61, 2), (20, .newarray .int, 2), (22, .astore 4, 2), (24, .bipush 10, 2), (26, .newarray .int, 2), (28, .astore 5, 2), (30, .bipush 10, 2), (32, .newarray .int, 2), (34, .astore 6, 2), (36, .bipush 10, 2), (38, .newarray .int, 2), (40, .astore 7, 2), (42, .iconst 0, 1), (43, .istore 8, 2), (45, .iload 8, 2), (47, .bipush 10, 2), (49, .if_icmp .ge 16, 3), (52, .aload 6, 2), (54, .iload 8, 2), (56, .bipush (-6), 2), (58, .iastore, 1), (59, .iinc 8 1, 3), (62, .goto (-17), 3), (65, .aload_n 2, 1), (66, .iconst 0, 1), (67, .iconst 4, 1), (68, .aload_n 0, 1), (69, .iconst 0, 1), (70, .invokestatic 76, 3), (73, .bipush 6, 2), (75, .invokestatic 55, 3), (78, .iadd, 1), (79, .iastore, 1), (80, .aload_n 2, 1), (81, .iconst 1, 1), (82, .bipush 10, 2), (84, .iastore, 1), (85, .aload_n 1, 1), (86, .iconst 0, 1), (87, .aload_n 2, 1), (88, .iconst 0, 1), (89, .iaload, 1), (90, .invokevirtual 80, 3), (93, .iconst 4, 1), (94, .if_icmp .eq 5, 3), (97, .iconst 0, 1), (98, .ireturn, 1), (99, .iconst 0, 1), (100, .istore 8, 2), (102, .iload 8, 2), (104, .bipush 22, 2), (106, .if_icmp .ge 346, 3), (109, .aload_n 0, 1), (110, .iconst 1, 1), (111, .iconst 2, 1), (112, .iload 8, 2), (114, .imul, 1), (115, .iadd, 1), (116, .invokestatic 76, 3), (119, .istore 9, 2), (121, .aload_n 0, 1), (122, .iconst 2, 1), (123, .iconst 2, 1), (124, .iload 8, 2), (126, .imul, 1), (127, .iadd, 1), (128, .invokestatic 76, 3), (131, .istore 10, 2), (133, .iload 8, 2), (135, .bipush 6, 2), (137, .if_icmp .ge 7, 3), (140, .iconst 0, 1), (141, .goto 10, 3), (144, .iload 9, 2), (146, .bipush 8, 2), (148, .invokestatic 55, 3), (151, .istore 11, 2), (153, .iload 11, 2), (155, .iconst 2, 1), (156, .if_icmp .ge 28, 3), (159, .aload_n 1, 1), (160, .iload 9, 2), (162, .iconst 3, 1), (163, .ishr, 1), (164, .iload 10, 2), (166, .aload_n 2, 1), (167, .aload_n 3, 1), (168, .aload 4, 2), (170, .aload 5, 2), (172, .aload 6, 2), (174, .aload 7, 2), (176, .invokestatic 83, 3), (179, .ifCond .ne 248, 3), (182, .iconst 0, 1), (183, .ireturn, 1), (184, .iload 11, 2), (186, .bipush 6, 2), (188, .if_icmp .ge 80, 3), (191, .iconst 1, 1), (192, .iload 9, 2), (194, .iconst 3, 1), (195, .ishr, 1), (196, .iload 11, 2), (198, .iconst 5, 1), (199, .if_icmp .ge 8, 3), (202, .bipush 9, 2), (204, .goto 6, 3), (207, .sipush 200, 3), (210, .invokestatic 55, 3), (213, .iadd, 1), (214, .istore 12, 2), (216, .iconst 0, 1), (217, .istore 13, 2), (219, .iload 13, 2), (221, .iload 12, 2), (223, .if_icmp .ge 28, 3), (226, .aload_n 2, 1), (227, .iconst 5, 1), (228, .iaload, 1), (229, .ifCond .ne 22, 3), (232, .aload_n 2, 1), (233, .aload_n 3, 1), (234, .aload 4, 2), (236, .aload 5, 2), (238, .aload 6, 2), (240, .aload 7, 2), (242, .invokestatic 87, 3), (245, .iinc 13 1, 3), (248, .goto (-29), 3), (251, .aload_n 1, 1), (252, .iload 12, 2), (254, .invokevirtual 91, 3), (257, .aload_n 2, 1), (258, .iconst 5, 1), (259, .iaload, 1), (260, .if_icmp .eq 5, 3), (263, .iconst 0, 1), (264, .ireturn, 1), (265, .goto 162, 3), (268, .iload 11, 2), (270, .bipush 6, 2), (272, .if_icmp .ne 90, 3), (275, .iload 9, 2), (277, .iconst 3, 1), (278, .ishr, 1), (279, .aload_n 2, 1), (280, .bipush 6, 2), (282, .iaload, 1), (283, .iconst 1, 1), (284, .iadd, 1), (285, .invokestatic 55, 3), (288, .istore 12, 2), (290, .aload_n 2, 1), (291, .iconst 5, 1), (292, .iaload, 1), (293, .iconst 2, 1), (294, .if_icmp .eq 7, 3), (297, .iconst 1, 1), (298, .goto 4, 3), (301, .iconst 0, 1), (302, .istore 13, 2), (304, .iload 13, 2), (306, .ifCond .eq 15, 3), (309, .iload 12, 2), (311, .aload_n 2, 1), (312, .aload 5, 2), (314, .aload 6, 2), (316, .aload 7, 2), (318, .invokestatic 10, 3), (321, .aload_n 1, 1), (322, .iload 12, 2), (324, .invokevirtual 93, 3), (327, .iload 13, 2), (329, .ifCond .eq 10, 3), (332, .aload_n 2, 1), (333, .bipush 7, 2), (335, .iaload, 1), (336, .goto 5, 3), (339, .bipush (-5), 2), (341, .if_icmp .eq 5, 3), (344, .iconst 0, 1), (345, .ireturn, 1), (346, .aload_n 2, 1), (347, .iconst 5, 1), (348, .iload 13, 2), (350, .ifCond .eq 7, 3), (353, .iconst 0, 1), (354, .goto 4, 3), (357, .iconst 2, 1), (358, .iastore, 1), (359, .goto 68, 3), (362, .iconst 1, 1), (363, .iload 9, 2), (365, .iconst 3, 1), (366, .ishr, 1), (367, .iconst 2, 1), (368, .invokestatic 55, 3), (371, .iadd, 1), (372, .istore 12, 2), (374, .iload 12, 2), (376, .iconst 1, 1), (377, .if_icmp .ne 17, 3), (380, .iconst 1, 1), (381, .iload 9, 2), (383, .iconst 5, 1), (384, .ishr, 1), (385, .bipush 20, 2), (387, .invokestatic 55, 3), (390, .iadd, 1), (391, .goto 11, 3), (394, .iload 9, 2), (396, .iconst 5, 1), (397, .ishr, 1), (398, .iconst 2, 1), (399, .invokestatic 55, 3), (402, .istore 13, 2), (404, .aload_n 1, 1), (405, .iload 12, 2), (407, .iload 13, 2), (409, .invokevirtual 80, 3), (412, .aload_n 2, 1), (413, .iload 12, 2), (415, .iaload, 1), (416, .if_icmp .eq 5, 3), (419, .iconst 0, 1), (420, .ireturn, 1), (421, .aload_n 2, 1), (422, .iload 12, 2), (424, .iload 13, 2), (426, .iastore, 1), (427, .aload_n 1, 1), (428, .aload_n 2, 1), (429, .aload_n 3, 1), (430, .aload 4, 2), (432, .aload 5, 2), (434, .aload 6, 2), (436, .aload 7, 2), (438, .invokestatic 95, 3), (441, .ifCond .ne 5, 3), (444, .iconst 0, 1), (445, .ireturn, 1), (446, .iinc 8 1, 3), (449, .goto (-347), 3), (452, .iconst 1, 1), (453, .ireturn, 1)]
theorem cw_dL_law : ∀ q ∈ cw_tL_law, decode cL_law q.1 = .ok q.2 := by decide +kernel
def mm_L_law : cw_I := (yL_law, cL_law, 14, (some .boolean), 4, 1, 9, cw_tL_law)
theorem cw_kL_law : cw_okD mm_L_law := ⟨cw_dL_law, by decide +kernel, trivial⟩
def cw_tL_step : List (Nat × (ClassFile.Instr × Nat)) := [(0, .aload_n 0, 1), (1, .bipush 9, 2), (3, .dup2, 1), (4, .iaload, 1), (5, .iconst 1, 1), (6, .iadd, 1), (7, .iastore, 1), (8, .aload_n 0, 1), (9, .iconst 3, 1), (10, .iaload, 1), (11, .aload_n 0, 1), (12, .iconst 4, 1), (13, .iaload, 1), (14, .iadd, 1), (15, .istore 6, 2), (17, .iconst 0, 1), (18, .istore 7, 2), (20, .iload 7, 2), (22, .iload 6, 2), (24, .if_icmp .ge 62, 3), (27, .iload 7, 2), (29, .aload_n 0, 1), (30, .aload_n 1, 1), (31, .aload_n 2, 1), (32, .invokestatic 16, 3), (35, .ifCond .ne 45, 3), (38, .iload 7, 2), (40, .aload_n 0, 1), (41, .aload_n 1, 1), (42, .aload_n 2, 1), (43, .invokestatic 20, 3), (46, .ifCond .eq 6, 3), (49, .goto 31, 3), (52, .aload_n 0, 1), (53, .bipush 6, 2), (55, .iaload, 1), (56, .ifCond .ne 10, 3), (59, .aload_n 0, 1), (60, .iconst 5, 1), (61, .iconst 2, 1), (62, .iastore, 1), (63, .goto 16, 3), (66, .iload 7, 2), (68, .aload_n 0, 1), (69, .aload_n 1, 1), (70, .aload_n 2, 1), (71, .aload_n 3, 1), (72, .aload 4, 2), (74, .aload 5, 2), (76, .invokestatic 24, 3), (79, .return_, 1), (80, .iinc 7 1, 3), (83, .goto (-63), 3), (86, .iconst 0, 1), (87, .istore 7, 2), (89, .iload 7, 2), (91, .iload 6, 2), (93, .if_icmp .ge 89, 3), (96, .iload 7, 2), (98, .aload_n 0, 1), (99, .aload_n 1, 1), (100, .aload_n 2, 1), (101, .invokestatic 20, 3), (104, .istore 8, 2), (106, .iload 7, 2), (108, .aload_n 0, 1), (109, .aload_n 1, 1), (110, .aload_n 2, 1), (111, .invokestatic 16, 3), (114, .ifCond .ne 62, 3), (117, .iload 8, 2), (119, .invokestatic 28, 3), (122, .iconst 1, 1), (123, .if_icmp .eq 6, 3), (126, .goto 50, 3), (129, .iconst 1, 1), (130, .istore 9, 2), (132, .iload 8, 2), (134, .iconst 1, 1), (135, .iload 9, 2), (137, .ishl, 1), (138, .if_icmp .eq 9, 3), (141, .iinc 9 1, 3), (144, .goto (-12), 3), (147, .iload 9, 2), (149, .aload_n 1, 1), (150, .iload 7, 2), (152, .iaload, 1), (153, .iload 8, 2), (155, .iand, 1), (156, .ifCond .eq 7, 3), (159, .iconst 1, 1), (160, .goto 4, 3), (163, .iconst 0, 1), (164, .iload 7, 2), (166, .aload_n 0, 1), (167, .aload_n 3, 1), (168, .aload 4, 2), (170, .aload 5, 2), (172, .invokestatic 32, 3), (175, .return_, 1), (176, .iinc 7 1, 3), (179, .goto (-90), 3), (182, .iconst 1, 1), (183, .istore 7, 2), (185, .iload 7, 2), (187, .aload_n 0, 1), (188, .iconst 0, 1), (189, .iaload, 1), (190, .if_icmp .gt 64, 3), (193, .aload_n 0, 1), (194, .bipush 10, 2), (196, .iaload, 1), (197, .aload_n 0, 1), (198, .bipush 11, 2), (200, .iaload, 1), (201, .ior, 1), (202, .iload 7, 2), (204, .ishr, 1), (205, .iconst 1, 1), (206, .iand, 1), (207, .iconst 1, 1), (208, .if_icmp .ne 6, 3), (211, .goto 37, 3), (214, .aload_n 0, 1), (215, .bipush 6, 2), (217, .dup2, 1), (218, .iaload, 1), (219, .iconst 1, 1), (220, .iadd, 1), (221, .iastore, 1), (222, .iload 7, 2), (224, .aload_n 0, 1), (225, .iconst 2, 1), (226, .iaload, 1), (227, .iconst 1, 1), (228, .if_icmp .ne 7, 3), (231, .iconst 1, 1), (232, .goto 4, 3), (235, .iconst 0, 1), (236, .bipush (-6), 2), (238, .aload_n 0, 1), (239, .aload_n 3, 1), (240, .aload 4, 2), (242, .aload 5, 2), (244, .invokestatic 32, 3), (247, .return_, 1), (248, .iinc 7 1, 3), (251, .goto (-66), 3), (254, .aload_n 0, 1), (255, .iconst 5, 1), (256, .iconst 1, 1), (257, .iastore, 1), (258, .return_, 1)]
theorem cw_dL_step : ∀ q ∈ cw_tL_step, decode cL_step q.1 = .ok q.2 := by decide +kernel
def mm_L_step : cw_I := (yL_step, cL_step, 10, none, 4, 6, 3, cw_tL_step)
theorem cw_KL_step : cw_okI mm_L_step := ⟨cw_dL_step, by decide +kernel, cw_in2 49 rfl rfl, cw_in1 0 rfl rfl, rfl, by decide +kernel, by decide +kernel, by decide +kernel, by decide +kernel, by decide⟩
theorem cw_kL_step : cw_okD mm_L_step := ⟨cw_dL_step, by decide +kernel, trivial⟩
end
section
def cw_tX0_characterAt : List (Nat × (ClassFile.Instr × Nat)) := [(0, .iload_n 1, 1), (1, .ifCond .lt 18, 3), (4, .iload_n 1, 1), (5, .bipush 60, 2), (7, .if_icmp .ge 12, 3), (10, .aload_n 0, 1), (11, .getfield 11, 3), (14, .iload_n 1, 1), (15, .caload, 1), (16, .goto 5, 3), (19, .bipush 32, 2), (21, .ireturn, 1)]
theorem cw_dX0_characterAt : ∀ q ∈ cw_tX0_characterAt, decode cX0_characterAt q.1 = .ok q.2 := by decide +kernel
def mm_X0_characterAt : cw_I := (yX0_characterAt, cX0_characterAt, 2, (some .char), 0, 1, 1, cw_tX0_characterAt)
theorem cw_KX0_characterAt : cw_okI mm_X0_characterAt := ⟨cw_dX0_characterAt, by decide +kernel, cw_in2 151 rfl rfl, cw_in1 3 rfl rfl, rfl, by decide +kernel, by decide +kernel, by decide +kernel, by decide +kernel, by decide⟩
theorem cw_kX0_characterAt : cw_okD mm_X0_characterAt := ⟨cw_dX0_characterAt, by decide +kernel, trivial⟩
def cw_tX0_charactersIn : List (Nat × (ClassFile.Instr × Nat)) := [(0, .iconst 0, 1), (1, .istore_n 2, 1), (2, .iload_n 2, 1), (3, .bipush 8, 2), (5, .if_icmp .ge 40, 3), (8, .lload_n 0, 1), (9, .bipush 8, 2), (11, .iload_n 2, 1), (12, .imul, 1), (13, .lushr, 1), (14, .lconst 0, 1), (15, .lcmp, 1), (16, .ifCond .eq 29, 3), (19, .lload_n 0, 1), (20, .iload_n 2, 1), (21, .invokestatic 19, 3), (24, .istore_n 3, 1), (25, .iload_n 3, 1), (26, .bipush 33, 2), (28, .if_icmp .lt 9, 3), (31, .iload_n 3, 1), (32, .bipush 126, 2), (34, .if_icmp .le 5, 3), (37, .iconst 0, 1), (38, .ireturn, 1), (39, .iinc 2 1, 3), (42, .goto (-40), 3), (45, .iload_n 2, 1), (46, .ireturn, 1)]
theorem cw_dX0_charactersIn : ∀ q ∈ cw_tX0_charactersIn, decode cX0_charactersIn q.1 = .ok q.2 := by decide +kernel
def mm_X0_charactersIn : cw_I := (yX0_charactersIn, cX0_charactersIn, 4, (some .int), 0, 1, 2, cw_tX0_charactersIn)
theorem cw_KX0_charactersIn : cw_okI mm_X0_charactersIn := ⟨cw_dX0_charactersIn, by decide +kernel, cw_in2 126 rfl rfl, cw_in1 3 rfl rfl, rfl, by decide +kernel, by decide +kernel, by decide +kernel, by decide +kernel, by decide⟩
theorem cw_kX0_charactersIn : cw_okD mm_X0_charactersIn := ⟨cw_dX0_charactersIn, by decide +kernel, trivial⟩
def cw_tX0_firstFault : List (Nat × (ClassFile.Instr × Nat)) := [(0, .iconst 0, 1), (1, .istore_n 1, 1), (2, .iconst 0, 1), (3, .istore_n 2, 1), (4, .iconst 0, 1), (5, .istore_n 3, 1), (6, .iconst 0, 1), (7, .istore 4, 2), (9, .iload 4, 2), (11, .aload_n 0, 1), (12, .getfield 15, 3), (15, .if_icmp .ge 108, 3), (18, .aload_n 0, 1), (19, .iload 4, 2), (21, .invokevirtual 25, 3), (24, .istore 5, 2), (26, .iload_n 2, 1), (27, .ifCond .eq 44, 3), (30, .iload 5, 2), (32, .bipush 59, 2), (34, .if_icmp .eq 19, 3), (37, .iload 5, 2), (39, .bipush 44, 2), (41, .if_icmp .ne 9, 3), (44, .iload_n 1, 1), (45, .bipush 9, 2), (47, .if_icmp .ne 6, 3), (50, .iload 4, 2), (52, .ireturn, 1), (53, .iload 5, 2), (55, .bipush 59, 2), (57, .if_icmp .ne 7, 3), (60, .iconst 0, 1), (61, .goto 4, 3), (64, .iload_n 1, 1), (65, .istore_n 1, 1), (66, .iconst 0, 1), (67, .istore_n 2, 1), (68, .goto 49, 3), (71, .iload 5, 2), (73, .bipush 45, 2), (75, .if_icmp .ne 12, 3), (78, .iload_n 3, 1), (79, .ifCond .ne 8, 3), (82, .iconst 1, 1), (83, .istore_n 3, 1), (84, .goto 33, 3), (87, .iload 5, 2), (89, .bipush 48, 2), (91, .isub, 1), (92, .istore 6, 2), (94, .iload 6, 2), (96, .iload_n 1, 1), (97, .if_icmp .le 10, 3), (100, .iload 6, 2), (102, .bipush 9, 2), (104, .if_icmp .le 6, 3), (107, .iload 4, 2), (109, .ireturn, 1), (110, .iload 6, 2), (112, .istore_n 1, 1), (113, .iconst 1, 1), (114, .istore_n 2, 1), (115, .iconst 0, 1), (116, .istore_n 3, 1), (117, .iinc 4 1, 3), (120, .goto (-111), 3), (123, .iload_n 2, 1), (124, .ifCond .eq 8, 3), (127, .bipush (-6), 2), (129, .goto 7, 3), (132, .aload_n 0, 1), (133, .getfield 15, 3), (136, .ireturn, 1)]
theorem cw_dX0_firstFault : ∀ q ∈ cw_tX0_firstFault, decode cX0_firstFault q.1 = .ok q.2 := by decide +kernel
def mm_X0_firstFault : cw_I := (yX0_firstFault, cX0_firstFault, 7, (some .int), 0, 0, 2, cw_tX0_firstFault)
theorem cw_KX0_firstFault : cw_okI mm_X0_firstFault := ⟨cw_dX0_firstFault, by decide +kernel, cw_in2 147 rfl rfl, cw_in1 3 rfl rfl, rfl, by decide +kernel, by decide +kernel, by decide +kernel, by decide +kernel, by decide⟩
theorem cw_kX0_firstFault : cw_okD mm_X0_firstFault := ⟨cw_dX0_firstFault, by decide +kernel, trivial⟩
def cw_tX1_copyFrom : List (Nat × (ClassFile.Instr × Nat)) := [(0, .aload_n 0, 1), (1, .aload_n 1, 1), (2, .getfield 9, 3), (5, .putfield 9, 3), (8, .aload_n 0, 1), (9, .aload_n 1, 1), (10, .getfield 15, 3), (13, .putfield 15, 3), (16, .aload_n 0, 1), (17, .aload_n 1, 1), (18, .getfield 18, 3), (21, .putfield 18, 3), (24, .aload_n 0, 1), (25, .aload_n 1, 1), (26, .getfield 21, 3), (29, .putfield 21, 3), (32, .aload_n 0, 1), (33, .aload_n 1, 1), (34, .getfield 24, 3), (37, .putfield 24, 3), (40, .aload_n 0, 1), (41, .aload_n 1, 1), (42, .getfield 31, 3), (45, .putfield 31, 3), (48, .aload_n 0, 1), (49, .aload_n 1, 1), (50, .getfield 43, 3), (53, .putfield 43, 3), (56, .aload_n 0, 1), (57, .aload_n 1, 1), (58, .getfield 46, 3), (61, .putfield 46, 3), (64, .aload_n 0, 1), (65, .aload_n 1, 1), (66, .getfield 49, 3), (69, .putfield 49, 3), (72, .aload_n 0, 1), (73, .aload_n 1, 1), (74, .getfield 52, 3), (77, .putfield 52, 3), (80, .aload_n 1, 1), (81, .getfield 27, 3), (84, .iconst 0, 1), (85, .aload_n 0, 1), (86, .getfield 27, 3), (89, .iconst 0, 1), (90, .bipush 60, 2), (92, .invokestatic 55, 3), (95, .aload_n 1, 1), (96, .getfield 34, 3), (99, .iconst 0, 1), (100, .aload_n 0, 1), (101, .getfield 34, 3), (104, .iconst 0, 1), (105, .bipush 9, 2), (107, .invokestatic 55, 3), (110, .aload_n 1, 1), (111, .getfield 37, 3), (114, .iconst 0, 1), (115, .aload_n 0, 1), (116, .getfield 37, 3), (119, .iconst 0, 1), (120, .bipush 9, 2), (122, .invokestatic 55, 3), (125, .aload_n 1, 1), (126, .getfield 40, 3), (129, .iconst 0, 1), (130, .aload_n 0, 1), (131, .getfield 40, 3), (134, .iconst 0, 1), (135, .bipush 9, 2), (137, .invokestatic 55, 3), (140, .return_, 1)]
theorem cw_dX1_copyFrom : ∀ q ∈ cw_tX1_copyFrom, decode cX1_copyFrom q.1 = .ok q.2 := by decide +kernel
def mm_X1_copyFrom : cw_I := (yX1_copyFrom, cX1_copyFrom, 2, none, 1, 1, 1, cw_tX1_copyFrom)
theorem cw_KX1_copyFrom : cw_okI mm_X1_copyFrom := ⟨cw_dX1_copyFrom, by decide +kernel, cw_in1 146 rfl rfl, cw_in1 2 rfl rfl, rfl, by decide +kernel, by decide +kernel, by decide +kernel, by decide +kernel, by decide⟩
theorem cw_kX1_copyFrom : cw_okD mm_X1_copyFrom := ⟨cw_dX1_copyFrom, by decide +kernel, trivial⟩
def cw_tX1_give : List (Nat × (ClassFile.Instr × Nat)) := [(0, .aload_n 0, 1), (1, .getfield 31, 3), (4, .ifCond .lt 65, 3), (7, .aload_n 0, 1), (8, .getfield 31, 3), (11, .bipush 9, 2), (13, .if_icmp .ge 56, 3), (16, .aload_n 0, 1), (17, .getfield 34, 3), (20, .aload_n 0, 1), (21, .getfield 31, 3), (24, .iload_n 1, 1), (25, .iastore, 1), (26, .aload_n 0, 1), (27, .getfield 37, 3), (30, .aload_n 0, 1), (31, .getfield 31, 3), (34, .iload_n 2, 1), (35, .iastore, 1), (36, .aload_n 0, 1), (37, .getfield 40, 3), (40, .aload_n 0, 1), (41, .getfield 31, 3), (44, .iload_n 3, 1), (45, .iastore, 1), (46, .aload_n 0, 1), (47, .dup, 1), (48, .getfield 43, 3), (51, .iload_n 1, 1), (52, .invokestatic 97, 3), (55, .ior, 1), (56, .putfield 43, 3), (59, .aload_n 0, 1), (60, .dup, 1), (61, .getfield 31, 3), (64, .iconst 1, 1), (65, .iadd, 1), (66, .putfield 31, 3), (69, .return_, 1)]
theorem cw_dX1_give : ∀ q ∈ cw_tX1_give, decode cX1_give q.1 = .ok q.2 := by decide +kernel
def mm_X1_give : cw_I := (yX1_give, cX1_give, 4, none, 1, 3, 2, cw_tX1_give)
theorem cw_KX1_give : cw_okI mm_X1_give := ⟨cw_dX1_give, by decide +kernel, cw_in2 24 rfl rfl, cw_in1 2 rfl rfl, rfl, by decide +kernel, by decide +kernel, by decide +kernel, by decide +kernel, by decide⟩
theorem cw_kX1_give : cw_okD mm_X1_give := ⟨cw_dX1_give, by decide +kernel, trivial⟩
def cw_tX1_isReason : List (Nat × (ClassFile.Instr × Nat)) := [(0, .iconst 0, 1), (1, .istore_n 2, 1), (2, .iload_n 2, 1), (3, .aload_n 0, 1), (4, .getfield 31, 3), (7, .if_icmp .ge 20, 3), (10, .aload_n 0, 1), (11, .iload_n 2, 1), (12, .invokevirtual 100, 3), (15, .iload_n 1, 1), (16, .if_icmp .ne 5, 3), (19, .iconst 1, 1), (20, .ireturn, 1), (21, .iinc 2 1, 3), (24, .goto (-22), 3), (27, .iconst 0, 1), (28, .ireturn, 1)]
theorem cw_dX1_isReason : ∀ q ∈ cw_tX1_isReason, decode cX1_isReason q.1 = .ok q.2 := by decide +kernel
def mm_X1_isReason : cw_I := (yX1_isReason, cX1_isReason, 3, (some .boolean), 1, 1, 2, cw_tX1_isReason)
theorem cw_KX1_isReason : cw_okI mm_X1_isReason := ⟨cw_dX1_isReason, by decide +kernel, cw_in2 2 rfl rfl, cw_in1 2 rfl rfl, rfl, by decide +kernel, by decide +kernel, by decide +kernel, by decide +kernel, by decide⟩
theorem cw_kX1_isReason : cw_okD mm_X1_isReason := ⟨cw_dX1_isReason, by decide +kernel, trivial⟩
def cw_tX1_learn : List (Nat × (ClassFile.Instr × Nat)) := [(0, .aload_n 0, 1), (1, .getfield 21, 3), (4, .aload_n 0, 1), (5, .getfield 24, 3), (8, .iadd, 1), (9, .istore_n 2, 1), (10, .aload_n 0, 1), (11, .getfield 24, 3), (14, .bipush 40, 2), (16, .if_icmp .ge 33, 3), (19, .iload_n 2, 1), (20, .ifCond .lt 29, 3), (23, .iload_n 2, 1), (24, .aload_n 0, 1), (25, .getfield 27, 3), (28, .arraylength, 1), (29, .if_icmp .ge 20, 3), (32, .aload_n 0, 1), (33, .getfield 27, 3), (36, .iload_n 2, 1), (37, .iload_n 1, 1), (38, .iastore, 1), (39, .aload_n 0, 1), (40, .dup, 1), (41, .getfield 24, 3), (44, .iconst 1, 1), (45, .iadd, 1), (46, .putfield 24, 3), (49, .return_, 1)]
theorem cw_dX1_learn : ∀ q ∈ cw_tX1_learn, decode cX1_learn q.1 = .ok q.2 := by decide +kernel
def mm_X1_learn : cw_I := (yX1_learn, cX1_learn, 3, none, 1, 1, 1, cw_tX1_learn)
theorem cw_KX1_learn : cw_okI mm_X1_learn := ⟨cw_dX1_learn, by decide +kernel, cw_in2 14 rfl rfl, cw_in1 2 rfl rfl, rfl, by decide +kernel, by decide +kernel, by decide +kernel, by decide +kernel, by decide⟩
theorem cw_kX1_learn : cw_okD mm_X1_learn := ⟨cw_dX1_learn, by decide +kernel, trivial⟩
def cw_tX1_lowestOpenThing : List (Nat × (ClassFile.Instr × Nat)) := [(0, .iconst 1, 1), (1, .istore_n 1, 1), (2, .iload_n 1, 1), (3, .aload_n 0, 1), (4, .getfield 9, 3), (7, .if_icmp .gt 22, 3), (10, .aload_n 0, 1), (11, .iload_n 1, 1), (12, .invokestatic 97, 3), (15, .invokevirtual 76, 3), (18, .ifCond .eq 5, 3), (21, .iload_n 1, 1), (22, .ireturn, 1), (23, .iinc 1 1, 3), (26, .goto (-24), 3), (29, .bipush (-6), 2), (31, .ireturn, 1)]
theorem cw_dX1_lowestOpenThing : ∀ q ∈ cw_tX1_lowestOpenThing, decode cX1_lowestOpenThing q.1 = .ok q.2 := by decide +kernel
def mm_X1_lowestOpenThing : cw_I := (yX1_lowestOpenThing, cX1_lowestOpenThing, 2, (some .int), 1, 0, 3, cw_tX1_lowestOpenThing)
theorem cw_KX1_lowestOpenThing : cw_okI mm_X1_lowestOpenThing := ⟨cw_dX1_lowestOpenThing, by decide +kernel, cw_in2 28 rfl rfl, cw_in1 2 rfl rfl, rfl, by decide +kernel, by decide +kernel, by decide +kernel, by decide +kernel, by decide⟩
theorem cw_kX1_lowestOpenThing : cw_okD mm_X1_lowestOpenThing := ⟨cw_dX1_lowestOpenThing, by decide +kernel, trivial⟩
def cw_tX1_openSigns : List (Nat × (ClassFile.Instr × Nat)) := [(0, .iload_n 1, 1), (1, .aload_n 0, 1), (2, .getfield 43, 3), (5, .aload_n 0, 1), (6, .getfield 43, 3), (9, .invokestatic 65, 3), (12, .ior, 1), (13, .iconst (-1), 1), (14, .ixor, 1), (15, .iand, 1), (16, .ireturn, 1)]
theorem cw_dX1_openSigns : ∀ q ∈ cw_tX1_openSigns, decode cX1_openSigns q.1 = .ok q.2 := by decide +kernel
def mm_X1_openSigns : cw_I := (yX1_openSigns, cX1_openSigns, 2, (some .int), 1, 1, 2, cw_tX1_openSigns)
theorem cw_KX1_openSigns : cw_okI mm_X1_openSigns := ⟨cw_dX1_openSigns, by decide +kernel, cw_in1 185 rfl rfl, cw_in1 2 rfl rfl, rfl, by decide +kernel, by decide +kernel, by decide +kernel, by decide +kernel, by decide⟩
theorem cw_kX1_openSigns : cw_okD mm_X1_openSigns := ⟨cw_dX1_openSigns, by decide +kernel, trivial⟩
def cw_tX1_presentLevel : List (Nat × (ClassFile.Instr × Nat)) := [(0, .aload_n 0, 1), (1, .getfield 31, 3), (4, .ifCond .le 16, 3), (7, .aload_n 0, 1), (8, .aload_n 0, 1), (9, .getfield 31, 3), (12, .iconst 1, 1), (13, .isub, 1), (14, .invokevirtual 88, 3), (17, .goto 4, 3), (20, .iconst 0, 1), (21, .ireturn, 1)]
theorem cw_dX1_presentLevel : ∀ q ∈ cw_tX1_presentLevel, decode cX1_presentLevel q.1 = .ok q.2 := by decide +kernel
def mm_X1_presentLevel : cw_I := (yX1_presentLevel, cX1_presentLevel, 1, (some .int), 1, 0, 2, cw_tX1_presentLevel)
theorem cw_KX1_presentLevel : cw_okI mm_X1_presentLevel := ⟨cw_dX1_presentLevel, by decide +kernel, cw_in1 199 rfl rfl, cw_in1 2 rfl rfl, rfl, by decide +kernel, by decide +kernel, by decide +kernel, by decide +kernel, by decide⟩
theorem cw_kX1_presentLevel : cw_okD mm_X1_presentLevel := ⟨cw_dX1_presentLevel, by decide +kernel, trivial⟩
def cw_tX1_removeClause : List (Nat × (ClassFile.Instr × Nat)) := [(0, .iload_n 1, 1), (1, .istore_n 2, 1), (2, .iload_n 2, 1), (3, .ifCond .lt 34, 3), (6, .iload_n 2, 1), (7, .iconst 1, 1), (8, .iadd, 1), (9, .aload_n 0, 1), (10, .getfield 27, 3), (13, .arraylength, 1), (14, .if_icmp .ge 23, 3), (17, .aload_n 0, 1), (18, .getfield 27, 3), (21, .iload_n 2, 1), (22, .aload_n 0, 1), (23, .getfield 27, 3), (26, .iload_n 2, 1), (27, .iconst 1, 1), (28, .iadd, 1), (29, .iaload, 1), (30, .iastore, 1), (31, .iinc 2 1, 3), (34, .goto (-32), 3), (37, .return_, 1)]
theorem cw_dX1_removeClause : ∀ q ∈ cw_tX1_removeClause, decode cX1_removeClause q.1 = .ok q.2 := by decide +kernel
def mm_X1_removeClause : cw_I := (yX1_removeClause, cX1_removeClause, 3, none, 1, 1, 1, cw_tX1_removeClause)
theorem cw_KX1_removeClause : cw_okI mm_X1_removeClause := ⟨cw_dX1_removeClause, by decide +kernel, cw_in2 6 rfl rfl, cw_in1 2 rfl rfl, rfl, by decide +kernel, by decide +kernel, by decide +kernel, by decide +kernel, by decide⟩
theorem cw_kX1_removeClause : cw_okD mm_X1_removeClause := ⟨cw_dX1_removeClause, by decide +kernel, trivial⟩
def cw_tX1_toldNeeds : List (Nat × (ClassFile.Instr × Nat)) := [(0, .iconst 0, 1), (1, .istore_n 1, 1), (2, .iconst 0, 1), (3, .istore_n 2, 1), (4, .iload_n 2, 1), (5, .aload_n 0, 1), (6, .getfield 21, 3), (9, .if_icmp .ge 17, 3), (12, .iload_n 1, 1), (13, .aload_n 0, 1), (14, .iload_n 2, 1), (15, .invokevirtual 61, 3), (18, .ior, 1), (19, .istore_n 1, 1), (20, .iinc 2 1, 3), (23, .goto (-19), 3), (26, .iconst 0, 1), (27, .istore_n 2, 1), (28, .iconst 1, 1), (29, .istore_n 3, 1), (30, .iload_n 3, 1), (31, .bipush 9, 2), (33, .if_icmp .gt 24, 3), (36, .iload_n 1, 1), (37, .iload_n 1, 1), (38, .invokestatic 65, 3), (41, .ior, 1), (42, .iload_n 3, 1), (43, .invokestatic 68, 3), (46, .ifCond .eq 5, 3), (49, .iload_n 3, 1), (50, .istore_n 2, 1), (51, .iinc 3 1, 3), (54, .goto (-24), 3), (57, .iload_n 2, 1), (58, .ireturn, 1)]
theorem cw_dX1_toldNeeds : ∀ q ∈ cw_tX1_toldNeeds, decode cX1_toldNeeds q.1 = .ok q.2 := by decide +kernel
def mm_X1_toldNeeds : cw_I := (yX1_toldNeeds, cX1_toldNeeds, 4, (some .int), 1, 0, 3, cw_tX1_toldNeeds)
theorem cw_KX1_toldNeeds : cw_okI mm_X1_toldNeeds := ⟨cw_dX1_toldNeeds, by decide +kernel, cw_in1 120 rfl rfl, cw_in1 2 rfl rfl, rfl, by decide +kernel, by decide +kernel, by decide +kernel, by decide +kernel, by decide⟩
theorem cw_kX1_toldNeeds : cw_okD mm_X1_toldNeeds := ⟨cw_dX1_toldNeeds, by decide +kernel, trivial⟩
def cw_tX2_count : List (Nat × (ClassFile.Instr × Nat)) := [(0, .iload_n 1, 1), (1, .tableswitch 156 0 11 #[63, 71, 79, 87, 95, 103, 111, 119, 127, 135, 143, 151], 63), (64, .aload_n 0, 1), (65, .getfield 12, 3), (68, .getfield 72, 3), (71, .ireturn, 1), (72, .aload_n 0, 1), (73, .getfield 12, 3), (76, .getfield 144, 3), (79, .ireturn, 1), (80, .aload_n 0, 1), (81, .getfield 12, 3), (84, .getfield 92, 3), (87, .ireturn, 1), (88, .aload_n 0, 1), (89, .getfield 12, 3), (92, .invokevirtual 95, 3), (95, .ireturn, 1), (96, .aload_n 0, 1), (97, .getfield 12, 3), (100, .getfield 101, 3), (103, .ireturn, 1), (104, .aload_n 0, 1), (105, .getfield 12, 3), (108, .getfield 147, 3), (111, .ireturn, 1), (112, .aload_n 0, 1), (113, .getfield 12, 3), (116, .getfield 150, 3), (119, .ireturn, 1), (120, .aload_n 0, 1), (121, .getfield 12, 3), (124, .getfield 54, 3), (127, .ireturn, 1), (128, .aload_n 0, 1), (129, .getfield 12, 3), (132, .getfield 60, 3), (135, .ireturn, 1), (136, .aload_n 0, 1), (137, .getfield 12, 3), (140, .getfield 63, 3), (143, .ireturn, 1), (144, .aload_n 0, 1), (145, .getfield 33, 3), (148, .getfield 153, 3), (151, .ireturn, 1), (152, .aload_n 0, 1), (153, .getfield 23, 3), (156, .ireturn, 1), (157, .bipush (-2), 2), (159, .ireturn, 1)]
theorem cw_dX2_count : ∀ q ∈ cw_tX2_count, decode cX2_count q.1 = .ok q.2 := by decide +kernel
def mm_X2_count : cw_I := (yX2_count, cX2_count, 2, (some .int), 2, 1, 3, cw_tX2_count)
theorem cw_KX2_count : cw_okI mm_X2_count := ⟨cw_dX2_count, by decide +kernel, cw_in2 107 rfl rfl, cw_in1 1 rfl rfl, rfl, by decide +kernel, by decide +kernel, by decide +kernel, by decide +kernel, by decide⟩
theorem cw_kX2_count : cw_okD mm_X2_count := ⟨cw_dX2_count, by decide +kernel, trivial⟩
def cw_tX2_moveOldestToEnd : List (Nat × (ClassFile.Instr × Nat)) := [(0, .aload_n 0, 1), (1, .getfield 19, 3), (4, .iconst 0, 1), (5, .aaload, 1), (6, .astore_n 1, 1), (7, .iconst 1, 1), (8, .istore_n 2, 1), (9, .iload_n 2, 1), (10, .bipush 6, 2), (12, .if_icmp .ge 23, 3), (15, .aload_n 0, 1), (16, .getfield 19, 3), (19, .iload_n 2, 1), (20, .iconst 1, 1), (21, .isub, 1), (22, .aload_n 0, 1), (23, .getfield 19, 3), (26, .iload_n 2, 1), (27, .aaload, 1), (28, .aastore, 1), (29, .iinc 2 1, 3), (32, .goto (-23), 3), (35, .aload_n 0, 1), (36, .getfield 19, 3), (39, .iconst 5, 1), (40, .aload_n 1, 1), (41, .aastore, 1), (42, .return_, 1)]
theorem cw_dX2_moveOldestToEnd : ∀ q ∈ cw_tX2_moveOldestToEnd, decode cX2_moveOldestToEnd q.1 = .ok q.2 := by decide +kernel
def mm_X2_moveOldestToEnd : cw_I := (yX2_moveOldestToEnd, cX2_moveOldestToEnd, 3, none, 2, 0, 1, cw_tX2_moveOldestToEnd)
theorem cw_KX2_moveOldestToEnd : cw_okI mm_X2_moveOldestToEnd := ⟨cw_dX2_moveOldestToEnd, by decide +kernel, cw_in1 142 rfl rfl, cw_in1 1 rfl rfl, rfl, by decide +kernel, by decide +kernel, by decide +kernel, by decide +kernel, by decide⟩
theorem cw_kX2_moveOldestToEnd : cw_okD mm_X2_moveOldestToEnd := ⟨cw_dX2_moveOldestToEnd, by decide +kernel, trivial⟩
def cw_tX2_put : List (Nat × (ClassFile.Instr × Nat)) := [(0, .lload_n 1, 1), (1, .invokestatic 184, 3), (4, .istore_n 3, 1), (5, .iload_n 3, 1), (6, .ifCond .ne 6, 3), (9, .bipush (-2), 2), (11, .ireturn, 1), (12, .aload_n 0, 1), (13, .getfield 33, 3), (16, .getfield 153, 3), (19, .iload_n 3, 1), (20, .iadd, 1), (21, .bipush 60, 2), (23, .if_icmp .le 6, 3), (26, .bipush (-4), 2), (28, .ireturn, 1), (29, .aload_n 0, 1), (30, .getfield 33, 3), (33, .lload_n 1, 1), (34, .iload_n 3, 1), (35, .invokevirtual 188, 3), (38, .aload_n 0, 1), (39, .getfield 33, 3), (42, .getfield 153, 3), (45, .ireturn, 1)]
theorem cw_dX2_put : ∀ q ∈ cw_tX2_put, decode cX2_put q.1 = .ok q.2 := by decide +kernel
def mm_X2_put : cw_I := (yX2_put, cX2_put, 4, (some .int), 2, 1, 3, cw_tX2_put)
theorem cw_KX2_put : cw_okI mm_X2_put := ⟨cw_dX2_put, by decide +kernel, cw_in2 123 rfl rfl, cw_in1 1 rfl rfl, rfl, by decide +kernel, by decide +kernel, by decide +kernel, by decide +kernel, by decide⟩
theorem cw_kX2_put : cw_okD mm_X2_put := ⟨cw_dX2_put, by decide +kernel, trivial⟩
def cw_tX2_set : List (Nat × (ClassFile.Instr × Nat)) := [(0, .iload_n 1, 1), (1, .tableswitch 45 0 2 #[27, 33, 39], 27), (28, .aload_n 0, 1), (29, .iload_n 2, 1), (30, .invokevirtual 37, 3), (33, .ireturn, 1), (34, .aload_n 0, 1), (35, .iload_n 2, 1), (36, .invokevirtual 41, 3), (39, .ireturn, 1), (40, .aload_n 0, 1), (41, .iload_n 2, 1), (42, .invokevirtual 44, 3), (45, .ireturn, 1), (46, .bipush (-2), 2), (48, .ireturn, 1)]
theorem cw_dX2_set : ∀ q ∈ cw_tX2_set, decode cX2_set q.1 = .ok q.2 := by decide +kernel
def mm_X2_set : cw_I := (yX2_set, cX2_set, 3, (some .int), 2, 2, 5, cw_tX2_set)
theorem cw_KX2_set : cw_okI mm_X2_set := ⟨cw_dX2_set, by decide +kernel, cw_in1 112 rfl rfl, cw_in1 1 rfl rfl, rfl, by decide +kernel, by decide +kernel, by decide +kernel, by decide +kernel, by decide⟩
theorem cw_kX2_set : cw_okD mm_X2_set := ⟨cw_dX2_set, by decide +kernel, trivial⟩
def cw_tX2_setFirst : List (Nat × (ClassFile.Instr × Nat)) := [(0, .iload_n 1, 1), (1, .ifCond .eq 11, 3), (4, .iload_n 1, 1), (5, .iconst 1, 1), (6, .if_icmp .eq 6, 3), (9, .bipush (-2), 2), (11, .ireturn, 1), (12, .aload_n 0, 1), (13, .invokevirtual 51, 3), (16, .aload_n 0, 1), (17, .getfield 12, 3), (20, .getfield 63, 3), (23, .istore_n 2, 1), (24, .aload_n 0, 1), (25, .getfield 12, 3), (28, .iload_n 1, 1), (29, .putfield 63, 3), (32, .iload_n 2, 1), (33, .ireturn, 1)]
theorem cw_dX2_setFirst : ∀ q ∈ cw_tX2_setFirst, decode cX2_setFirst q.1 = .ok q.2 := by decide +kernel
def mm_X2_setFirst : cw_I := (yX2_setFirst, cX2_setFirst, 3, (some .int), 2, 1, 3, cw_tX2_setFirst)
theorem cw_KX2_setFirst : cw_okI mm_X2_setFirst := ⟨cw_dX2_setFirst, by decide +kernel, cw_in1 161 rfl rfl, cw_in1 1 rfl rfl, rfl, by decide +kernel, by decide +kernel, by decide +kernel, by decide +kernel, by decide⟩
theorem cw_kX2_setFirst : cw_okD mm_X2_setFirst := ⟨cw_dX2_setFirst, by decide +kernel, trivial⟩
def cw_tX2_setThings : List (Nat × (ClassFile.Instr × Nat)) := [(0, .iload_n 1, 1), (1, .iconst 1, 1), (2, .if_icmp .lt 9, 3), (5, .iload_n 1, 1), (6, .bipush 9, 2), (8, .if_icmp .le 6, 3), (11, .bipush (-2), 2), (13, .ireturn, 1), (14, .aload_n 0, 1), (15, .getfield 12, 3), (18, .invokevirtual 47, 3), (21, .iload_n 1, 1), (22, .if_icmp .le 6, 3), (25, .bipush (-5), 2), (27, .ireturn, 1), (28, .aload_n 0, 1), (29, .invokevirtual 51, 3), (32, .aload_n 0, 1), (33, .getfield 12, 3), (36, .getfield 54, 3), (39, .istore_n 2, 1), (40, .aload_n 0, 1), (41, .getfield 12, 3), (44, .iload_n 1, 1), (45, .putfield 54, 3), (48, .aload_n 0, 1), (49, .getfield 12, 3), (52, .invokevirtual 57, 3), (55, .iload_n 2, 1), (56, .ireturn, 1)]
theorem cw_dX2_setThings : ∀ q ∈ cw_tX2_setThings, decode cX2_setThings q.1 = .ok q.2 := by decide +kernel
def mm_X2_setThings : cw_I := (yX2_setThings, cX2_setThings, 3, (some .int), 2, 1, 4, cw_tX2_setThings)
theorem cw_KX2_setThings : cw_okI mm_X2_setThings := ⟨cw_dX2_setThings, by decide +kernel, cw_in1 116 rfl rfl, cw_in1 1 rfl rfl, rfl, by decide +kernel, by decide +kernel, by decide +kernel, by decide +kernel, by decide⟩
theorem cw_kX2_setThings : cw_okD mm_X2_setThings := ⟨cw_dX2_setThings, by decide +kernel, trivial⟩
def cw_tX2_trail : List (Nat × (ClassFile.Instr × Nat)) := [(0, .iload_n 1, 1), (1, .ifCond .lt 14, 3), (4, .iload_n 1, 1), (5, .aload_n 0, 1), (6, .getfield 12, 3), (9, .getfield 101, 3), (12, .if_icmp .lt 5, 3), (15, .iconst (-1), 1), (16, .ireturn, 1), (17, .aload_n 0, 1), (18, .getfield 12, 3), (21, .iload_n 1, 1), (22, .invokevirtual 111, 3), (25, .invokestatic 120, 3), (28, .ireturn, 1)]
theorem cw_dX2_trail : ∀ q ∈ cw_tX2_trail, decode cX2_trail q.1 = .ok q.2 := by decide +kernel
def mm_X2_trail : cw_I := (yX2_trail, cX2_trail, 2, (some .int), 2, 1, 2, cw_tX2_trail)
theorem cw_KX2_trail : cw_okI mm_X2_trail := ⟨cw_dX2_trail, by decide +kernel, cw_in2 89 rfl rfl, cw_in1 1 rfl rfl, rfl, by decide +kernel, by decide +kernel, by decide +kernel, by decide +kernel, by decide⟩
theorem cw_kX2_trail : cw_okD mm_X2_trail := ⟨cw_dX2_trail, by decide +kernel, trivial⟩
def cw_tL_back : List (Nat × (ClassFile.Instr × Nat)) := [(0, .aload_n 1, 1), (1, .bipush 7, 2), (3, .iaload, 1), (4, .ifCond .le 67, 3), (7, .aload_n 2, 1), (8, .aload 4, 2), (10, .aload_n 1, 1), (11, .bipush 7, 2), (13, .iaload, 1), (14, .iconst 1, 1), (15, .isub, 1), (16, .iaload, 1), (17, .iaload, 1), (18, .iload_n 0, 1), (19, .if_icmp .le 52, 3), (22, .aload 4, 2), (24, .aload_n 1, 1), (25, .bipush 7, 2), (27, .dup2, 1), (28, .iaload, 1), (29, .iconst 1, 1), (30, .isub, 1), (31, .dup_x2, 1), (32, .iastore, 1), (33, .iaload, 1), (34, .istore 5, 2), (36, .aload_n 1, 1), (37, .bipush 10, 2), (39, .dup2, 1), (40, .iaload, 1), (41, .iconst 1, 1), (42, .iload 5, 2), (44, .ishl, 1), (45, .iconst (-1), 1), (46, .ixor, 1), (47, .iand, 1), (48, .iastore, 1), (49, .aload_n 1, 1), (50, .bipush 11, 2), (52, .dup2, 1), (53, .iaload, 1), (54, .iconst 1, 1), (55, .iload 5, 2), (57, .ishl, 1), (58, .iconst (-1), 1), (59, .ixor, 1), (60, .iand, 1), (61, .iastore, 1), (62, .aload_n 3, 1), (63, .iload 5, 2), (65, .bipush (-6), 2), (67, .iastore, 1), (68, .goto (-68), 3), (71, .aload_n 1, 1), (72, .bipush 6, 2), (74, .iload_n 0, 1), (75, .iastore, 1), (76, .return_, 1)]
theorem cw_dL_back : ∀ q ∈ cw_tL_back, decode cL_back q.1 = .ok q.2 := by decide +kernel
def mm_L_back : cw_I := (yL_back, cL_back, 6, none, 4, 5, 1, cw_tL_back)
theorem cw_KL_back : cw_okI mm_L_back := ⟨cw_dL_back, by decide +kernel, cw_in2 46 rfl rfl, cw_in1 0 rfl rfl, rfl, by decide +kernel, by decide +kernel, by decide +kernel, by decide +kernel, by decide⟩
theorem cw_kL_back : cw_okD mm_L_back := ⟨cw_dL_back, by decide +kernel, trivial⟩
def cw_tL_low : List (Nat × (ClassFile.Instr × Nat)) := [(0, .iload_n 0, 1), (1, .ldc 9, 2), (3, .iand, 1), (4, .iload_n 1, 1), (5, .irem, 1), (6, .ireturn, 1)]
theorem cw_dL_low : ∀ q ∈ cw_tL_low, decode cL_low q.1 = .ok q.2 := by decide +kernel
def mm_L_low : cw_I := (yL_low, cL_low, 2, (some .int), 4, 2, 1, cw_tL_low)
theorem cw_KL_low : cw_okI mm_L_low := ⟨cw_dL_low, by decide +kernel, cw_in2 42 rfl rfl, cw_in1 0 rfl rfl, rfl, by decide +kernel, by decide +kernel, by decide +kernel, by decide +kernel, by decide⟩
theorem cw_kL_low : cw_okD mm_L_low := ⟨cw_dL_low, by decide +kernel, trivial⟩
def cw_tL_open : List (Nat × (ClassFile.Instr × Nat)) := [(0, .aload_n 2, 1), (1, .iload_n 0, 1), (2, .iaload, 1), (3, .aload_n 3, 1), (4, .iload_n 0, 1), (5, .iaload, 1), (6, .ior, 1), (7, .aload_n 1, 1), (8, .bipush 10, 2), (10, .iaload, 1), (11, .aload_n 1, 1), (12, .bipush 11, 2), (14, .iaload, 1), (15, .ior, 1), (16, .iconst (-1), 1), (17, .ixor, 1), (18, .iand, 1), (19, .ireturn, 1)]
theorem cw_dL_open : ∀ q ∈ cw_tL_open, decode cL_open q.1 = .ok q.2 := by decide +kernel
def mm_L_open : cw_I := (yL_open, cL_open, 4, (some .int), 4, 4, 1, cw_tL_open)
theorem cw_KL_open : cw_okI mm_L_open := ⟨cw_dL_open, by decide +kernel, cw_in2 55 rfl rfl, cw_in1 0 rfl rfl, rfl, by decide +kernel, by decide +kernel, by decide +kernel, by decide +kernel, by decide⟩
theorem cw_kL_open : cw_okD mm_L_open := ⟨cw_dL_open, by decide +kernel, trivial⟩
def cw_tL_reads : List (Nat × (ClassFile.Instr × Nat)) := [(0, .aload_n 0, 1), (1, .invokevirtual 51, 3), (4, .pop, 1), (5, .iconst 1, 1), (6, .iload_n 1, 1), (7, .iconst 3, 1), (8, .invokestatic 55, 3), (11, .iadd, 1), (12, .istore 9, 2), (14, .aload_n 3, 1), (15, .iconst 3, 1), (16, .iaload, 1), (17, .iload 9, 2), (19, .iadd, 1), (20, .bipush 20, 2), (22, .if_icmp .le 5, 3), (25, .iconst 1, 1), (26, .ireturn, 1), (27, .iconst 0, 1), (28, .istore 10, 2), (30, .iload 10, 2), (32, .iload 9, 2), (34, .if_icmp .ge 235, 3), (37, .iload 10, 2), (39, .iconst 1, 1), (40, .if_icmp .ne 7, 3), (43, .iload_n 2, 1), (44, .goto 9, 3), (47, .iload_n 1, 1), (48, .iconst 4, 1), (49, .iload 10, 2), (51, .imul, 1), (52, .ishr, 1), (53, .istore 11, 2), (55, .iconst 0, 1), (56, .istore 12, 2), (58, .iconst 0, 1), (59, .istore 13, 2), (61, .iload 10, 2), (63, .ifCond .le 16, 3), (66, .aload_n 0, 1), (67, .ldc2_w 58, 3), (70, .invokevirtual 60, 3), (73, .iconst 1, 1), (74, .if_icmp .ge 5, 3), (77, .iconst 0, 1), (78, .ireturn, 1), (79, .iconst 1, 1), (80, .istore 14, 2), (82, .iload 14, 2), (84, .aload_n 3, 1), (85, .iconst 0, 1), (86, .iaload, 1), (87, .if_icmp .gt 154, 3), (90, .iload 11, 2), (92, .iload 14, 2), (94, .ishr, 1), (95, .iconst 5, 1), (96, .invokestatic 55, 3), (99, .istore 15, 2), (101, .iload 14, 2), (103, .aload_n 3, 1), (104, .iconst 0, 1), (105, .iaload, 1), (106, .if_icmp .ne 19, 3), (109, .iload 12, 2), (111, .iload 13, 2), (113, .ior, 1), (114, .ifCond .ne 11, 3), (117, .iload 11, 2), (119, .iconst 2, 1), (120, .invokestatic 55, 3), (123, .istore 15, 2), (125, .iload 15, 2), (127, .iconst 1, 1), (128, .if_icmp .gt 107, 3), (131, .iload 12, 2), (133, .iload 13, 2), (135, .ior, 1), (136, .invokestatic 28, 3), (139, .iconst 4, 1), (140, .if_icmp .ne 6, 3), (143, .goto 92, 3), (146, .iload 12, 2), (148, .iload 13, 2), (150, .ior, 1), (151, .ifCond .eq 14, 3), (154, .aload_n 0, 1), (155, .ldc2_w 64, 3), (158, .invokevirtual 60, 3), (161, .iconst 1, 1), (162, .if_icmp .lt 34, 3), (165, .iload 15, 2), (167, .iconst 1, 1), (168, .if_icmp .ne 14, 3), (171, .aload_n 0, 1), (172, .ldc2_w 66, 3), (175, .invokevirtual 60, 3), (178, .iconst 1, 1), (179, .if_icmp .lt 17, 3), (182, .aload_n 0, 1), (183, .bipush 48, 2), (185, .iload 14, 2), (187, .iadd, 1), (188, .i2l, 1), (189, .invokevirtual 60, 3), (192, .iconst 1, 1), (193, .if_icmp .ge 5, 3), (196, .iconst 0, 1), (197, .ireturn, 1), (198, .iload 12, 2), (200, .iload 15, 2), (202, .ifCond .ne 10, 3), (205, .iconst 1, 1), (206, .iload 14, 2), (208, .ishl, 1), (209, .goto 4, 3), (212, .iconst 0, 1), (213, .ior, 1), (214, .istore 12, 2), (216, .iload 13, 2), (218, .iload 15, 2), (220, .iconst 1, 1), (221, .if_icmp .ne 10, 3), (224, .iconst 1, 1), (225, .iload 14, 2), (227, .ishl, 1), (228, .goto 4, 3), (231, .iconst 0, 1), (232, .ior, 1), (233, .istore 13, 2), (235, .iinc 14 1, 3), (238, .goto (-156), 3), (241, .aload 4, 2), (243, .aload_n 3, 1), (244, .iconst 3, 1), (245, .iaload, 1), (246, .iload 10, 2), (248, .iadd, 1), (249, .iload 12, 2), (251, .iastore, 1), (252, .aload 5, 2), (254, .aload_n 3, 1), (255, .iconst 3, 1), (256, .iaload, 1), (257, .iload 10, 2), (259, .iadd, 1), (260, .iload 13, 2), (262, .iastore, 1), (263, .iinc 10 1, 3), (266, .goto (-236), 3), (269, .aload_n 3, 1), (270, .iconst 3, 1), (271, .dup2, 1), (272, .iaload, 1), (273, .iload 9, 2), (275, .iadd, 1), (276, .iastore, 1), (277, .aload_n 3, 1), (278, .aload 6, 2), (280, .aload 7, 2), (282, .aload 8, 2), (284, .invokestatic 68, 3), (287, .aload_n 0, 1), (288, .invokevirtual 72, 3), (291, .aload_n 3, 1), (292, .iconst 3, 1), (293, .iaload, 1), (294, .if_icmp .ne 7, 3), (297, .iconst 1, 1), (298, .goto 4, 3), (301, .iconst 0, 1), (302, .ireturn, 1)]
theorem cw_dL_reads : ∀ q ∈ cw_tL_reads, decode cL_reads q.1 = .ok q.2 := by decide +kernel
def mm_L_reads : cw_I := (yL_reads, cL_reads, 16, (some .boolean), 4, 9, 4, cw_tL_reads)
theorem cw_KL_reads : cw_okI mm_L_reads := ⟨cw_dL_reads, by decide +kernel, cw_in2 110 rfl rfl, cw_in1 0 rfl rfl, rfl, by decide +kernel, by decide +kernel, by decide +kernel, by decide +kernel, by decide⟩
theorem cw_kL_reads : cw_okD mm_L_reads := ⟨cw_dL_reads, by decide +kernel, trivial⟩
def cw_tL_same : List (Nat × (ClassFile.Instr × Nat)) := [(0, .iconst 1, 1), (1, .istore 7, 2), (3, .iload 7, 2), (5, .aload_n 1, 1), (6, .iconst 0, 1), (7, .iaload, 1), (8, .if_icmp .gt 168, 3), (11, .aload_n 1, 1), (12, .bipush 10, 2), (14, .iaload, 1), (15, .aload_n 1, 1), (16, .bipush 11, 2), (18, .iaload, 1), (19, .ior, 1), (20, .iload 7, 2), (22, .ishr, 1), (23, .iconst 1, 1), (24, .iand, 1), (25, .iconst 1, 1), (26, .if_icmp .ne 7, 3), (29, .iconst 1, 1), (30, .goto 4, 3), (33, .iconst 0, 1), (34, .istore 8, 2), (36, .bipush (-6), 2), (38, .istore 9, 2), (40, .iconst 0, 1), (41, .istore 10, 2), (43, .iload 10, 2), (45, .aload_n 1, 1), (46, .bipush 7, 2), (48, .iaload, 1), (49, .if_icmp .ge 28, 3), (52, .aload 6, 2), (54, .iload 10, 2), (56, .iaload, 1), (57, .iload 7, 2), (59, .if_icmp .ne 8, 3), (62, .iload 10, 2), (64, .goto 5, 3), (67, .iload 9, 2), (69, .istore 9, 2), (71, .iinc 10 1, 3), (74, .goto (-31), 3), (77, .aload_n 0, 1), (78, .iload 7, 2), (80, .iconst 0, 1), (81, .invokevirtual 36, 3), (84, .iload 8, 2), (86, .ifCond .eq 15, 3), (89, .aload_n 1, 1), (90, .bipush 10, 2), (92, .iaload, 1), (93, .iload 7, 2), (95, .ishr, 1), (96, .iconst 1, 1), (97, .iand, 1), (98, .goto 5, 3), (101, .bipush (-6), 2), (103, .if_icmp .ne 65, 3), (106, .aload_n 0, 1), (107, .iload 7, 2), (109, .iconst 1, 1), (110, .invokevirtual 36, 3), (113, .iload 8, 2), (115, .ifCond .eq 11, 3), (118, .aload 4, 2), (120, .iload 7, 2), (122, .iaload, 1), (123, .goto 5, 3), (126, .bipush (-6), 2), (128, .if_icmp .ne 40, 3), (131, .aload_n 0, 1), (132, .iload 7, 2), (134, .iconst 2, 1), (135, .invokevirtual 36, 3), (138, .iload 8, 2), (140, .ifCond .eq 11, 3), (143, .aload 5, 2), (145, .iload 7, 2), (147, .iaload, 1), (148, .goto 5, 3), (151, .bipush (-6), 2), (153, .if_icmp .ne 15, 3), (156, .aload_n 0, 1), (157, .iload 7, 2), (159, .iconst 3, 1), (160, .invokevirtual 36, 3), (163, .iload 9, 2), (165, .if_icmp .eq 5, 3), (168, .iconst 0, 1), (169, .ireturn, 1), (170, .iinc 7 1, 3), (173, .goto (-170), 3), (176, .iconst 0, 1), (177, .istore 7, 2), (179, .iload 7, 2), (181, .aload_n 1, 1), (182, .bipush 7, 2), (184, .iaload, 1), (185, .if_icmp .ge 25, 3), (188, .aload_n 0, 1), (189, .iload 7, 2), (191, .invokevirtual 42, 3), (194, .aload 6, 2), (196, .iload 7, 2), (198, .iaload, 1), (199, .if_icmp .eq 5, 3), (202, .iconst 0, 1), (203, .ireturn, 1), (204, .iinc 7 1, 3), (207, .goto (-28), 3), (210, .iconst 0, 1), (211, .istore 7, 2), (213, .iload 7, 2), (215, .aload_n 1, 1), (216, .iconst 3, 1), (217, .iaload, 1), (218, .aload_n 1, 1), (219, .iconst 4, 1), (220, .iaload, 1), (221, .iadd, 1), (222, .if_icmp .ge 213, 3), (225, .iconst 0, 1), (226, .istore 8, 2), (228, .iconst 1, 1), (229, .istore 9, 2), (231, .iload 9, 2), (233, .bipush 10, 2), (235, .if_icmp .ge 75, 3), (238, .aload_n 2, 1), (239, .iload 7, 2), (241, .iaload, 1), (242, .iload 9, 2), (244, .ishr, 1), (245, .iconst 1, 1), (246, .iand, 1), (247, .iconst 1, 1), (248, .if_icmp .ne 8, 3), (251, .iload 9, 2), (253, .goto 26, 3), (256, .aload_n 3, 1), (257, .iload 7, 2), (259, .iaload, 1), (260, .iload 9, 2), (262, .ishr, 1), (263, .iconst 1, 1), (264, .iand, 1), (265, .iconst 1, 1), (266, .if_icmp .ne 11, 3), (269, .bipush 10, 2), (271, .iload 9, 2), (273, .iadd, 1), (274, .goto 5, 3), (277, .bipush (-6), 2), (279, .istore 10, 2), (281, .iload 10, 2), (283, .ifCond .le 21, 3), (286, .aload_n 0, 1), (287, .iload 7, 2), (289, .iinc 8 1, 3), (292, .iload 8, 2), (294, .invokevirtual 45, 3), (297, .iload 10, 2), (299, .if_icmp .eq 5, 3), (302, .iconst 0, 1), (303, .ireturn, 1), (304, .iinc 9 1, 3), (307, .goto (-76), 3), (310, .iload 7, 2), (312, .aload_n 1, 1), (313, .aload_n 2, 1), (314, .aload_n 3, 1), (315, .invokestatic 16, 3), (318, .istore 9, 2), (320, .iload 7, 2), (322, .aload_n 1, 1), (323, .aload_n 2, 1), (324, .aload_n 3, 1), (325, .invokestatic 20, 3), (328, .invokestatic 28, 3), (331, .istore 10, 2), (333, .aload_n 0, 1), (334, .iload 7, 2), (336, .iconst 0, 1), (337, .invokevirtual 45, 3), (340, .iload 8, 2), (342, .if_icmp .ne 85, 3), (345, .iload 8, 2), (347, .bipush 9, 2), (349, .if_icmp .ge 18, 3), (352, .aload_n 0, 1), (353, .iload 7, 2), (355, .iload 8, 2), (357, .iconst 1, 1), (358, .iadd, 1), (359, .invokevirtual 45, 3), (362, .bipush (-6), 2), (364, .if_icmp .ne 63, 3), (367, .aload_n 0, 1), (368, .iload 7, 2), (370, .bipush 10, 2), (372, .invokevirtual 45, 3), (375, .iload 9, 2), (377, .ifCond .eq 7, 3), (380, .iconst 1, 1), (381, .goto 4, 3), (384, .iconst 0, 1), (385, .if_icmp .ne 42, 3), (388, .aload_n 0, 1), (389, .iload 7, 2), (391, .bipush 11, 2), (393, .invokevirtual 45, 3), (396, .iload 9, 2), (398, .ifCond .ne 12, 3), (401, .iload 10, 2), (403, .ifCond .ne 7, 3), (406, .iconst 1, 1), (407, .goto 4, 3), (410, .iconst 0, 1), (411, .if_icmp .ne 16, 3), (414, .aload_n 0, 1), (415, .iload 7, 2), (417, .bipush 12, 2), (419, .invokevirtual 45, 3), (422, .iload 10, 2), (424, .if_icmp .eq 5, 3), (427, .iconst 0, 1), (428, .ireturn, 1), (429, .iinc 7 1, 3), (432, .goto (-219), 3), (435, .aload_n 0, 1), (436, .iconst 0, 1), (437, .invokevirtual 48, 3), (440, .aload_n 1, 1), (441, .iconst 3, 1), (442, .iaload, 1), (443, .if_icmp .ne 114, 3), (446, .aload_n 0, 1), (447, .iconst 1, 1), (448, .invokevirtual 48, 3), (451, .aload_n 1, 1), (452, .iconst 4, 1), (453, .iaload, 1), (454, .if_icmp .ne 103, 3), (457, .aload_n 0, 1), (458, .iconst 2, 1), (459, .invokevirtual 48, 3), (462, .aload_n 1, 1), (463, .iconst 5, 1), (464, .iaload, 1), (465, .if_icmp .ne 92, 3), (468, .aload_n 0, 1), (469, .iconst 3, 1), (470, .invokevirtual 48, 3), (473, .aload_n 1, 1), (474, .bipush 6, 2), (476, .iaload, 1), (477, .if_icmp .ne 80, 3), (480, .aload_n 0, 1), (481, .iconst 4, 1), (482, .invokevirtual 48, 3), (485, .aload_n 1, 1), (486, .bipush 7, 2), (488, .iaload, 1), (489, .if_icmp .ne 68, 3), (492, .aload_n 0, 1), (493, .iconst 5, 1), (494, .invokevirtual 48, 3), (497, .aload_n 1, 1), (498, .bipush 8, 2), (500, .iaload, 1), (501, .if_icmp .ne 56, 3), (504, .aload_n 0, 1), (505, .bipush 6, 2), (507, .invokevirtual 48, 3), (510, .aload_n 1, 1), (511, .bipush 9, 2), (513, .iaload, 1), (514, .if_icmp .ne 43, 3), (517, .aload_n 0, 1), (518, .bipush 7, 2), (520, .invokevirtual 48, 3), (523, .aload_n 1, 1), (524, .iconst 0, 1), (525, .iaload, 1), (526, .if_icmp .ne 31, 3), (529, .aload_n 0, 1), (530, .bipush 8, 2), (532, .invokevirtual 48, 3), (535, .aload_n 1, 1), (536, .iconst 1, 1), (537, .iaload, 1), (538, .if_icmp .ne 19, 3), (541, .aload_n 0, 1), (542, .bipush 9, 2), (544, .invokevirtual 48, 3), (547, .aload_n 1, 1), (548, .iconst 2, 1), (549, .iaload, 1), (550, .if_icmp .ne 7, 3), (553, .iconst 1, 1), (554, .goto 4, 3), (557, .iconst 0, 1), (558, .ireturn, 1)]
theorem cw_dL_same : ∀ q ∈ cw_tL_same, decode cL_same q.1 = .ok q.2 := by decide +kernel
def mm_L_same : cw_I := (yL_same, cL_same, 11, (some .boolean), 4, 7, 5, cw_tL_same)
theorem cw_KL_same : cw_okI mm_L_same := ⟨cw_dL_same, by decide +kernel, cw_in2 67 rfl rfl, cw_in1 0 rfl rfl, rfl, by decide +kernel, by decide +kernel, by decide +kernel, by decide +kernel, by decide⟩
theorem cw_kL_same : cw_okD mm_L_same := ⟨cw_dL_same, by decide +kernel, trivial⟩
end
section
def cw_cn : Nat → Nat
  | 0 => 2
  | 1 => 14
  | _ => 6
def cw_FT : Nat → u_T
  | 0 => TX0
  | 1 => TX1
  | _ => TX2
def cw_ty : Nat → Nat → FieldType
  | 0 => tyX0
  | 1 => tyX1
  | _ => tyX2
theorem cw_cl : ∀ ci, ci < 3 → vwCl[ci]? = some (cw_own ci, cw_FT ci, cw_cn ci)
  | 0, _ => rfl
  | 1, _ => rfl
  | 2, _ => rfl
  | _ + 3, h => absurd h (by omega)
theorem cw_tyok : ∀ ci, ci < 3 → ∀ k, k < cw_cn ci → parseFieldDescriptor (cw_FT ci k).2.2.1 = some (cw_ty ci k)
  | 0, _ => tyX0_ok
  | 1, _ => tyX1_ok
  | 2, _ => tyX2_ok
  | _ + 3, h => absurd h (by omega)
theorem cw_nm : ∀ ci, ci < 3 → ∀ a, a < cw_cn ci → ∀ b, b < cw_cn ci → a ≠ b → (cw_FT ci a).2.1 ≠ (cw_FT ci b).2.1
  | 0, _ => nmX0
  | 1, _ => nmX1
  | 2, _ => nmX2
  | _ + 3, h => absurd h (by omega)
theorem cw_in_u0 : ∀ w ∈ u_ws RX0 TX0 2, w ∈ cw_T := by decide +kernel
theorem cw_in_u1 : ∀ w ∈ u_ws RX1 TX1 14, w ∈ cw_T := by decide +kernel
theorem cw_in_u2 : ∀ w ∈ u_ws RX2 TX2 6, w ∈ cw_T := by decide +kernel
theorem cw_in_u : ∀ ci, ci < 3 → ∀ w ∈ u_ws (cw_own ci) (cw_FT ci) (cw_cn ci), w ∈ cw_T
  | 0, _ => cw_in_u0
  | 1, _ => cw_in_u1
  | 2, _ => cw_in_u2
  | _ + 3, h => absurd h (by omega)
/-- a list of numbered things, read by number -/
def cw_look {α : Type} : List (Nat × α) → Nat → Option α
  | [], _ => none
  | (k, a) :: l, n => match Nat.beq k n with
    | true => some a
    | false => cw_look l n
theorem cw_look_mem {α : Type} : ∀ {l : List (Nat × α)} {n : Nat} {a : α}, cw_look l n = some a → (n, a) ∈ l
  | [], _, _, h => by cases h
  | (k, b) :: l, n, a, h => by
    unfold cw_look at h
    split at h
    · rename_i e
      cases h
      rw [Nat.eq_of_beq_eq_true e]
      exact List.mem_cons_self
    · exact List.mem_cons_of_mem _ (cw_look_mem h)
/-- a link to a field: (0 own, 1 nest mate's; the class, the slot) -/
def cw_okF (c idx : Nat) (e : Nat × Nat × Nat) : Prop := e.2.1 < 3 ∧ e.2.2 < cw_cn e.2.1 ∧ (cw_FT e.2.1 e.2.2).1 = cw_own e.2.1 ∧ ((e.1 = 0 ∧ Cond.fieldLink (cw_own c) idx (cw_own e.2.1) (cw_FT e.2.1 e.2.2).2.1 (cw_FT e.2.1 e.2.2).2.2.1 ∈ cw_T) ∨ (e.1 = 1 ∧ ∃ host, Cond.fieldLinkNest (cw_own c) idx (cw_own e.2.1) (cw_FT e.2.1 e.2.2).2.1 (cw_FT e.2.1 e.2.2).2.2.1 host ∈ cw_N))
def cw_flds0 : List (Nat × (Nat × Nat × Nat)) := [(11, 0, 0, 0), (15, 0, 0, 1)]
theorem cw_fok0 : ∀ q ∈ cw_flds0, cw_okF 0 q.1 q.2 := List.forall_mem_cons.mpr ⟨⟨by decide, by decide, rfl, Or.inl ⟨rfl, cw_in1 81 rfl rfl⟩⟩, List.forall_mem_cons.mpr ⟨⟨by decide, by decide, rfl, Or.inl ⟨rfl, cw_in1 82 rfl rfl⟩⟩, fun _ h => absurd h List.not_mem_nil⟩⟩
def cw_flds1 : List (Nat × (Nat × Nat × Nat)) := [(9, 0, 1, 0), (15, 0, 1, 1), (18, 0, 1, 2), (21, 0, 1, 3), (24, 0, 1, 4), (27, 0, 1, 5), (31, 0, 1, 6), (34, 0, 1, 7), (37, 0, 1, 8), (40, 0, 1, 9), (43, 0, 1, 10), (46, 0, 1, 11), (49, 0, 1, 12), (52, 0, 1, 13)]
theorem cw_fok1 : ∀ q ∈ cw_flds1, cw_okF 1 q.1 q.2 := List.forall_mem_cons.mpr ⟨⟨by decide, by decide, rfl, Or.inl ⟨rfl, cw_in1 21 rfl rfl⟩⟩, List.forall_mem_cons.mpr ⟨⟨by decide, by decide, rfl, Or.inl ⟨rfl, cw_in1 23 rfl rfl⟩⟩, List.forall_mem_cons.mpr ⟨⟨by decide, by decide, rfl, Or.inl ⟨rfl, cw_in1 25 rfl rfl⟩⟩, List.forall_mem_cons.mpr ⟨⟨by decide, by decide, rfl, Or.inl ⟨rfl, cw_in1 27 rfl rfl⟩⟩, List.forall_mem_cons.mpr ⟨⟨by decide, by decide, rfl, Or.inl ⟨rfl, cw_in1 29 rfl rfl⟩⟩, List.forall_mem_cons.mpr ⟨⟨by decide, by decide, rfl, Or.inl ⟨rfl, cw_in1 31 rfl rfl⟩⟩, List.forall_mem_cons.mpr ⟨⟨by decide, by decide, rfl, Or.inl ⟨rfl, cw_in1 32 rfl rfl⟩⟩, List.forall_mem_cons.mpr ⟨⟨by decide, by decide, rfl, Or.inl ⟨rfl, cw_in1 34 rfl rfl⟩⟩, List.forall_mem_cons.mpr ⟨⟨by decide, by decide, rfl, Or.inl ⟨rfl, cw_in1 35 rfl rfl⟩⟩, List.forall_mem_cons.mpr ⟨⟨by decide, by decide, rfl, Or.inl ⟨rfl, cw_in1 36 rfl rfl⟩⟩, List.forall_mem_cons.mpr ⟨⟨by decide, by decide, rfl, Or.inl ⟨rfl, cw_in1 37 rfl rfl⟩⟩, List.forall_mem_cons.mpr ⟨⟨by decide, by decide, rfl, Or.inl ⟨rfl, cw_in1 38 rfl rfl⟩⟩, List.forall_mem_cons.mpr ⟨⟨by decide, by decide, rfl, Or.inl ⟨rfl, cw_in1 40 rfl rfl⟩⟩, List.forall_mem_cons.mpr ⟨⟨by decide, by decide, rfl, Or.inl ⟨rfl, cw_in1 42 rfl rfl⟩⟩, fun _ h => absurd h List.not_mem_nil⟩⟩⟩⟩⟩⟩⟩⟩⟩⟩⟩⟩⟩⟩
def cw_flds2 : List (Nat × (Nat × Nat × Nat)) := [(12, 0, 2, 0), (16, 0, 2, 1), (19, 0, 2, 2), (23, 0, 2, 3), (27, 0, 2, 4), (33, 0, 2, 5), (54, 1, 1, 0), (60, 1, 1, 1), (63, 1, 1, 2), (72, 1, 1, 3), (92, 1, 1, 11), (101, 1, 1, 6), (144, 1, 1, 4), (147, 1, 1, 12), (150, 1, 1, 13), (153, 1, 0, 1)]
theorem cw_fok2 : ∀ q ∈ cw_flds2, cw_okF 2 q.1 q.2 := List.forall_mem_cons.mpr ⟨⟨by decide, by decide, rfl, Or.inl ⟨rfl, cw_in1 90 rfl rfl⟩⟩, List.forall_mem_cons.mpr ⟨⟨by decide, by decide, rfl, Or.inl ⟨rfl, cw_in1 91 rfl rfl⟩⟩, List.forall_mem_cons.mpr ⟨⟨by decide, by decide, rfl, Or.inl ⟨rfl, cw_in1 92 rfl rfl⟩⟩, List.forall_mem_cons.mpr ⟨⟨by decide, by decide, rfl, Or.inl ⟨rfl, cw_in1 93 rfl rfl⟩⟩, List.forall_mem_cons.mpr ⟨⟨by decide, by decide, rfl, Or.inl ⟨rfl, cw_in1 94 rfl rfl⟩⟩, List.forall_mem_cons.mpr ⟨⟨by decide, by decide, rfl, Or.inl ⟨rfl, cw_in1 95 rfl rfl⟩⟩, List.forall_mem_cons.mpr ⟨⟨by decide, by decide, rfl, Or.inr ⟨rfl, _, cw_nn1 22 rfl rfl⟩⟩, List.forall_mem_cons.mpr ⟨⟨by decide, by decide, rfl, Or.inr ⟨rfl, _, cw_nn1 24 rfl rfl⟩⟩, List.forall_mem_cons.mpr ⟨⟨by decide, by decide, rfl, Or.inr ⟨rfl, _, cw_nn1 26 rfl rfl⟩⟩, List.forall_mem_cons.mpr ⟨⟨by decide, by decide, rfl, Or.inr ⟨rfl, _, cw_nn1 28 rfl rfl⟩⟩, List.forall_mem_cons.mpr ⟨⟨by decide, by decide, rfl, Or.inr ⟨rfl, _, cw_nn1 39 rfl rfl⟩⟩, List.forall_mem_cons.mpr ⟨⟨by decide, by decide, rfl, Or.inr ⟨rfl, _, cw_nn1 33 rfl rfl⟩⟩, List.forall_mem_cons.mpr ⟨⟨by decide, by decide, rfl, Or.inr ⟨rfl, _, cw_nn1 30 rfl rfl⟩⟩, List.forall_mem_cons.mpr ⟨⟨by decide, by decide, rfl, Or.inr ⟨rfl, _, cw_nn1 41 rfl rfl⟩⟩, List.forall_mem_cons.mpr ⟨⟨by decide, by decide, rfl, Or.inr ⟨rfl, _, cw_nn1 43 rfl rfl⟩⟩, List.forall_mem_cons.mpr ⟨⟨by decide, by decide, rfl, Or.inr ⟨rfl, _, cw_nn1 83 rfl rfl⟩⟩, fun _ h => absurd h List.not_mem_nil⟩⟩⟩⟩⟩⟩⟩⟩⟩⟩⟩⟩⟩⟩⟩⟩
def cw_flds : Nat → List (Nat × (Nat × Nat × Nat))
  | 0 => cw_flds0
  | 1 => cw_flds1
  | 2 => cw_flds2
  | _ => []
theorem cw_fok : ∀ c, ∀ q ∈ cw_flds c, cw_okF c q.1 q.2
  | 0 => cw_fok0
  | 1 => cw_fok1
  | 2 => cw_fok2
  | _ + 3 => fun _ h => absurd h List.not_mem_nil
def cw_csts : Nat → List (Nat × Int32)
  | 2 => [(195, 1047550)]
  | 4 => [(7, 905037529), (8, 1316629347), (9, 2147483647)]
  | 5 => [(265, 1431655765), (266, 858993459), (267, 252645135)]
  | _ => []
theorem cw_cok : ∀ c, ∀ q ∈ cw_csts c, Cond.constant (cw_own c) q.1 q.2 ∈ cw_T
  | 0 => fun _ h => absurd h List.not_mem_nil
  | 1 => fun _ h => absurd h List.not_mem_nil
  | 2 => List.forall_mem_cons.mpr ⟨cw_in1 128 rfl rfl, fun _ h => absurd h List.not_mem_nil⟩
  | 3 => fun _ h => absurd h List.not_mem_nil
  | 4 => List.forall_mem_cons.mpr ⟨cw_in2 38 rfl rfl, List.forall_mem_cons.mpr ⟨cw_in2 39 rfl rfl, List.forall_mem_cons.mpr ⟨cw_in2 43 rfl rfl, fun _ h => absurd h List.not_mem_nil⟩⟩⟩
  | 5 => List.forall_mem_cons.mpr ⟨cw_in1 189 rfl rfl, List.forall_mem_cons.mpr ⟨cw_in1 190 rfl rfl, List.forall_mem_cons.mpr ⟨cw_in1 191 rfl rfl, fun _ h => absurd h List.not_mem_nil⟩⟩⟩
  | _ + 6 => fun _ h => absurd h List.not_mem_nil
def cw_cstL : Nat → List (Nat × Int64)
  | 0 => [(23, 255)]
  | 4 => [(58, 59), (64, 44), (66, 45)]
  | _ => []
theorem cw_cokL : ∀ c, ∀ q ∈ cw_cstL c, Cond.constantLong (cw_own c) q.1 q.2 ∈ cw_T
  | 0 => List.forall_mem_cons.mpr ⟨cw_in2 130 rfl rfl, fun _ h => absurd h List.not_mem_nil⟩
  | 1 => fun _ h => absurd h List.not_mem_nil
  | 2 => fun _ h => absurd h List.not_mem_nil
  | 3 => fun _ h => absurd h List.not_mem_nil
  | 4 => List.forall_mem_cons.mpr ⟨cw_in2 119 rfl rfl, List.forall_mem_cons.mpr ⟨cw_in2 135 rfl rfl, List.forall_mem_cons.mpr ⟨cw_in2 136 rfl rfl, fun _ h => absurd h List.not_mem_nil⟩⟩⟩
  | 5 => fun _ h => absurd h List.not_mem_nil
  | _ + 6 => fun _ h => absurd h List.not_mem_nil
/-- a link to a method: 0 virtual, 1 static, 2 constructor; 3 to 5 the same of a nest mate; 6 Object(), 7 arraycopy, 8 max -/
def cw_okC (c idx k : Nat) (i : cw_I) : Prop := (k = 0 ∧ Cond.methodLink (cw_own c) idx i.1 ∈ cw_T ∧ Cond.instanceMethod i.1 ∈ cw_T ∧ Cond.selects i.1.cls i.1 i.1 ∈ cw_T ∧ cw_okI i) ∨ (k = 1 ∧ Cond.methodLink (cw_own c) idx i.1 ∈ cw_T ∧ Cond.static i.1 ∈ cw_T ∧ cw_okI i) ∨ (k = 2 ∧ Cond.methodLink (cw_own c) idx i.1 ∈ cw_T ∧ Cond.instanceMethod i.1 ∈ cw_T ∧ i.1.name = "<init>" ∧ i.2.2.2.1 = none ∧ cw_okI i) ∨ (k = 3 ∧ (∃ host, Cond.methodLinkNest (cw_own c) idx i.1 host ∈ cw_N) ∧ Cond.instanceMethod i.1 ∈ cw_T ∧ Cond.selects i.1.cls i.1 i.1 ∈ cw_T ∧ cw_okI i) ∨ (k = 4 ∧ (∃ host, Cond.methodLinkNest (cw_own c) idx i.1 host ∈ cw_N) ∧ Cond.static i.1 ∈ cw_T ∧ cw_okI i) ∨ (k = 5 ∧ (∃ host, Cond.methodLinkNest (cw_own c) idx i.1 host ∈ cw_N) ∧ Cond.instanceMethod i.1 ∈ cw_T ∧ i.1.name = "<init>" ∧ i.2.2.2.1 = none ∧ cw_okI i) ∨ (k = 6 ∧ Cond.methodLink (cw_own c) idx objectInit ∈ cw_T) ∨ (k = 7 ∧ Cond.methodLink (cw_own c) idx arraycopyName ∈ cw_T) ∨ (k = 8 ∧ Cond.methodLink (cw_own c) idx Lib.Math.max.name ∈ cw_T)
def cw_cls0 : List (Nat × (Nat × cw_I)) := [(3, 6, mm_J6_bitCount_0f7a4), (19, 1, mm_X0_codeIn), (25, 0, mm_X0_characterAt), (29, 1, mm_X0_isDigit), (33, 8, mm_J6_bitCount_0f7a4), (39, 4, mm_X2_opposite), (43, 4, mm_X2_setOf), (46, 3, mm_X1_tell)]
theorem cw_c0_3 : cw_okC 0 3 6 mm_J6_bitCount_0f7a4 := Or.inr (Or.inr (Or.inr (Or.inr (Or.inr (Or.inr (Or.inl ⟨rfl, cw_in1 80 rfl rfl⟩))))))
theorem cw_c0_19 : cw_okC 0 19 1 mm_X0_codeIn := Or.inr (Or.inl ⟨rfl, cw_in2 127 rfl rfl, cw_in2 128 rfl rfl, cw_KX0_codeIn⟩)
theorem cw_c0_25 : cw_okC 0 25 0 mm_X0_characterAt := Or.inl ⟨rfl, cw_in2 148 rfl rfl, cw_in2 150 rfl rfl, cw_ins 36 rfl rfl, cw_KX0_characterAt⟩
theorem cw_c0_29 : cw_okC 0 29 1 mm_X0_isDigit := Or.inr (Or.inl ⟨rfl, cw_in2 156 rfl rfl, cw_in2 157 rfl rfl, cw_KX0_isDigit⟩)
theorem cw_c0_33 : cw_okC 0 33 8 mm_J6_bitCount_0f7a4 := Or.inr (Or.inr (Or.inr (Or.inr (Or.inr (Or.inr (Or.inr (Or.inr (⟨rfl, cw_in2 159 rfl rfl⟩))))))))
theorem cw_c0_39 : cw_okC 0 39 4 mm_X2_opposite := Or.inr (Or.inr (Or.inr (Or.inr (Or.inl ⟨rfl, ⟨_, cw_nn2 168 rfl rfl⟩, cw_in1 218 rfl rfl, cw_KX2_opposite⟩))))
theorem cw_c0_43 : cw_okC 0 43 4 mm_X2_setOf := Or.inr (Or.inr (Or.inr (Or.inr (Or.inl ⟨rfl, ⟨_, cw_nn2 169 rfl rfl⟩, cw_in1 133 rfl rfl, cw_KX2_setOf⟩))))
theorem cw_c0_46 : cw_okC 0 46 3 mm_X1_tell := Or.inr (Or.inr (Or.inr (Or.inl ⟨rfl, ⟨_, cw_nn2 170 rfl rfl⟩, cw_in2 172 rfl rfl, cw_ins 40 rfl rfl, cw_KX1_tell⟩)))
theorem cw_clok0 : ∀ q ∈ cw_cls0, cw_okC 0 q.1 q.2.1 q.2.2 := List.forall_mem_cons.mpr ⟨cw_c0_3, List.forall_mem_cons.mpr ⟨cw_c0_19, List.forall_mem_cons.mpr ⟨cw_c0_25, List.forall_mem_cons.mpr ⟨cw_c0_29, List.forall_mem_cons.mpr ⟨cw_c0_33, List.forall_mem_cons.mpr ⟨cw_c0_39, List.forall_mem_cons.mpr ⟨cw_c0_43, List.forall_mem_cons.mpr ⟨cw_c0_46, fun _ h => absurd h List.not_mem_nil⟩⟩⟩⟩⟩⟩⟩⟩
def cw_cls1 : List (Nat × (Nat × cw_I)) := [(3, 6, mm_J6_bitCount_0f7a4), (55, 7, mm_J6_bitCount_0f7a4), (61, 0, mm_X1_clauseAt), (65, 4, mm_X2_opposites), (68, 4, mm_X2_has), (72, 0, mm_X1_isTrue), (76, 0, mm_X1_openSigns), (79, 1, mm_J6_bitCount_0f7a4), (88, 0, mm_X1_levelAt), (91, 0, mm_X1_signAt), (94, 4, mm_X2_thingOf), (97, 4, mm_X2_setOf), (100, 0, mm_X1_reasonAt), (103, 0, mm_X1_doOneStep), (106, 0, mm_X1_firstUntrue), (109, 0, mm_X1_meetConflict), (113, 4, mm_X2_signInOrder), (117, 0, mm_X1_presentLevel), (120, 0, mm_X1_give), (124, 0, mm_X1_lowestOpenThing), (127, 4, mm_X2_opposite), (130, 0, mm_X1_clauseOutOf), (133, 0, mm_X1_levelBelowPresent), (136, 0, mm_X1_goBackTo), (139, 0, mm_X1_forgetEarliestWithoutUse), (142, 0, mm_X1_learn), (145, 0, mm_X1_signsOfPresentLevel), (148, 8, mm_J6_bitCount_0f7a4), (153, 0, mm_X1_isReason), (156, 0, mm_X1_removeClause), (159, 0, mm_X1_lowerReasonsAbove)]
theorem cw_c1_3 : cw_okC 1 3 6 mm_J6_bitCount_0f7a4 := Or.inr (Or.inr (Or.inr (Or.inr (Or.inr (Or.inr (Or.inl ⟨rfl, cw_in1 20 rfl rfl⟩))))))
theorem cw_c1_55 : cw_okC 1 55 7 mm_J6_bitCount_0f7a4 := Or.inr (Or.inr (Or.inr (Or.inr (Or.inr (Or.inr (Or.inr (Or.inl ⟨rfl, cw_in1 147 rfl rfl⟩)))))))
theorem cw_c1_61 : cw_okC 1 61 0 mm_X1_clauseAt := Or.inl ⟨rfl, cw_in1 121 rfl rfl, cw_in1 123 rfl rfl, cw_ins 2 rfl rfl, cw_KX1_clauseAt⟩
theorem cw_c1_65 : cw_okC 1 65 4 mm_X2_opposites := Or.inr (Or.inr (Or.inr (Or.inr (Or.inl ⟨rfl, ⟨_, cw_nn1 125 rfl rfl⟩, cw_in1 126 rfl rfl, cw_KX2_opposites⟩))))
theorem cw_c1_68 : cw_okC 1 68 4 mm_X2_has := Or.inr (Or.inr (Or.inr (Or.inr (Or.inl ⟨rfl, ⟨_, cw_nn1 129 rfl rfl⟩, cw_in1 130 rfl rfl, cw_KX2_has⟩))))
theorem cw_c1_72 : cw_okC 1 72 0 mm_X1_isTrue := Or.inl ⟨rfl, cw_in1 178 rfl rfl, cw_in1 180 rfl rfl, cw_ins 12 rfl rfl, cw_KX1_isTrue⟩
theorem cw_c1_76 : cw_okC 1 76 0 mm_X1_openSigns := Or.inl ⟨rfl, cw_in1 182 rfl rfl, cw_in1 184 rfl rfl, cw_ins 13 rfl rfl, cw_KX1_openSigns⟩
theorem cw_c1_79 : cw_okC 1 79 1 mm_J6_bitCount_0f7a4 := Or.inr (Or.inl ⟨rfl, cw_in1 186 rfl rfl, cw_in1 187 rfl rfl, cw_KJ6_bitCount_0f7a4⟩)
theorem cw_c1_88 : cw_okC 1 88 0 mm_X1_levelAt := Or.inl ⟨rfl, cw_in1 200 rfl rfl, cw_in1 202 rfl rfl, cw_ins 16 rfl rfl, cw_KX1_levelAt⟩
theorem cw_c1_91 : cw_okC 1 91 0 mm_X1_signAt := Or.inl ⟨rfl, cw_in1 212 rfl rfl, cw_in1 214 rfl rfl, cw_ins 19 rfl rfl, cw_KX1_signAt⟩
theorem cw_c1_94 : cw_okC 1 94 4 mm_X2_thingOf := Or.inr (Or.inr (Or.inr (Or.inr (Or.inl ⟨rfl, ⟨_, cw_nn2 80 rfl rfl⟩, cw_in2 81 rfl rfl, cw_KX2_thingOf⟩))))
theorem cw_c1_97 : cw_okC 1 97 4 mm_X2_setOf := Or.inr (Or.inr (Or.inr (Or.inr (Or.inl ⟨rfl, ⟨_, cw_nn1 216 rfl rfl⟩, cw_in1 133 rfl rfl, cw_KX2_setOf⟩))))
theorem cw_c1_100 : cw_okC 1 100 0 mm_X1_reasonAt := Or.inl ⟨rfl, cw_in1 220 rfl rfl, cw_in1 222 rfl rfl, cw_ins 20 rfl rfl, cw_KX1_reasonAt⟩
theorem cw_c1_103 : cw_okC 1 103 0 mm_X1_doOneStep := Or.inl ⟨rfl, cw_in1 170 rfl rfl, cw_in1 172 rfl rfl, cw_ins 10 rfl rfl, cw_KX1_doOneStep⟩
theorem cw_c1_106 : cw_okC 1 106 0 mm_X1_firstUntrue := Or.inl ⟨rfl, cw_in1 174 rfl rfl, cw_in1 176 rfl rfl, cw_ins 11 rfl rfl, cw_KX1_firstUntrue⟩
theorem cw_c1_109 : cw_okC 1 109 0 mm_X1_meetConflict := Or.inl ⟨rfl, cw_in1 192 rfl rfl, cw_in1 194 rfl rfl, cw_ins 14 rfl rfl, cw_KX1_meetConflict⟩
theorem cw_c1_113 : cw_okC 1 113 4 mm_X2_signInOrder := Or.inr (Or.inr (Or.inr (Or.inr (Or.inl ⟨rfl, ⟨_, cw_nn2 15 rfl rfl⟩, cw_in2 16 rfl rfl, cw_KX2_signInOrder⟩))))
theorem cw_c1_117 : cw_okC 1 117 0 mm_X1_presentLevel := Or.inl ⟨rfl, cw_in1 196 rfl rfl, cw_in1 198 rfl rfl, cw_ins 15 rfl rfl, cw_KX1_presentLevel⟩
theorem cw_c1_120 : cw_okC 1 120 0 mm_X1_give := Or.inl ⟨rfl, cw_in2 21 rfl rfl, cw_in2 23 rfl rfl, cw_ins 28 rfl rfl, cw_KX1_give⟩
theorem cw_c1_124 : cw_okC 1 124 0 mm_X1_lowestOpenThing := Or.inl ⟨rfl, cw_in2 25 rfl rfl, cw_in2 27 rfl rfl, cw_ins 29 rfl rfl, cw_KX1_lowestOpenThing⟩
theorem cw_c1_127 : cw_okC 1 127 4 mm_X2_opposite := Or.inr (Or.inr (Or.inr (Or.inr (Or.inl ⟨rfl, ⟨_, cw_nn1 217 rfl rfl⟩, cw_in1 218 rfl rfl, cw_KX2_opposite⟩))))
theorem cw_c1_130 : cw_okC 1 130 0 mm_X1_clauseOutOf := Or.inl ⟨rfl, cw_in1 204 rfl rfl, cw_in1 206 rfl rfl, cw_ins 17 rfl rfl, cw_KX1_clauseOutOf⟩
theorem cw_c1_133 : cw_okC 1 133 0 mm_X1_levelBelowPresent := Or.inl ⟨rfl, cw_in1 224 rfl rfl, cw_in1 226 rfl rfl, cw_ins 21 rfl rfl, cw_KX1_levelBelowPresent⟩
theorem cw_c1_136 : cw_okC 1 136 0 mm_X1_goBackTo := Or.inl ⟨rfl, cw_in1 231 rfl rfl, cw_in1 233 rfl rfl, cw_ins 22 rfl rfl, cw_KX1_goBackTo⟩
theorem cw_c1_139 : cw_okC 1 139 0 mm_X1_forgetEarliestWithoutUse := Or.inl ⟨rfl, cw_in1 235 rfl rfl, cw_in1 237 rfl rfl, cw_ins 23 rfl rfl, cw_KX1_forgetEarliestWithoutUse⟩
theorem cw_c1_142 : cw_okC 1 142 0 mm_X1_learn := Or.inl ⟨rfl, cw_in2 11 rfl rfl, cw_in2 13 rfl rfl, cw_ins 27 rfl rfl, cw_KX1_learn⟩
theorem cw_c1_145 : cw_okC 1 145 0 mm_X1_signsOfPresentLevel := Or.inl ⟨rfl, cw_in1 208 rfl rfl, cw_in1 210 rfl rfl, cw_ins 18 rfl rfl, cw_KX1_signsOfPresentLevel⟩
theorem cw_c1_148 : cw_okC 1 148 8 mm_J6_bitCount_0f7a4 := Or.inr (Or.inr (Or.inr (Or.inr (Or.inr (Or.inr (Or.inr (Or.inr (⟨rfl, cw_in1 228 rfl rfl⟩))))))))
theorem cw_c1_153 : cw_okC 1 153 0 mm_X1_isReason := Or.inl ⟨rfl, cw_in1 239 rfl rfl, cw_in2 1 rfl rfl, cw_ins 24 rfl rfl, cw_KX1_isReason⟩
theorem cw_c1_156 : cw_okC 1 156 0 mm_X1_removeClause := Or.inl ⟨rfl, cw_in2 3 rfl rfl, cw_in2 5 rfl rfl, cw_ins 25 rfl rfl, cw_KX1_removeClause⟩
theorem cw_c1_159 : cw_okC 1 159 0 mm_X1_lowerReasonsAbove := Or.inl ⟨rfl, cw_in2 7 rfl rfl, cw_in2 9 rfl rfl, cw_ins 26 rfl rfl, cw_KX1_lowerReasonsAbove⟩
theorem cw_clok1 : ∀ q ∈ cw_cls1, cw_okC 1 q.1 q.2.1 q.2.2 := List.forall_mem_cons.mpr ⟨cw_c1_3, List.forall_mem_cons.mpr ⟨cw_c1_55, List.forall_mem_cons.mpr ⟨cw_c1_61, List.forall_mem_cons.mpr ⟨cw_c1_65, List.forall_mem_cons.mpr ⟨cw_c1_68, List.forall_mem_cons.mpr ⟨cw_c1_72, List.forall_mem_cons.mpr ⟨cw_c1_76, List.forall_mem_cons.mpr ⟨cw_c1_79, List.forall_mem_cons.mpr ⟨cw_c1_88, List.forall_mem_cons.mpr ⟨cw_c1_91, List.forall_mem_cons.mpr ⟨cw_c1_94, List.forall_mem_cons.mpr ⟨cw_c1_97, List.forall_mem_cons.mpr ⟨cw_c1_100, List.forall_mem_cons.mpr ⟨cw_c1_103, List.forall_mem_cons.mpr ⟨cw_c1_106, List.forall_mem_cons.mpr ⟨cw_c1_109, List.forall_mem_cons.mpr ⟨cw_c1_113, List.forall_mem_cons.mpr ⟨cw_c1_117, List.forall_mem_cons.mpr ⟨cw_c1_120, List.forall_mem_cons.mpr ⟨cw_c1_124, List.forall_mem_cons.mpr ⟨cw_c1_127, List.forall_mem_cons.mpr ⟨cw_c1_130, List.forall_mem_cons.mpr ⟨cw_c1_133, List.forall_mem_cons.mpr ⟨cw_c1_136, List.forall_mem_cons.mpr ⟨cw_c1_139, List.forall_mem_cons.mpr ⟨cw_c1_142, List.forall_mem_cons.mpr ⟨cw_c1_145, List.forall_mem_cons.mpr ⟨cw_c1_148, List.forall_mem_cons.mpr ⟨cw_c1_153, List.forall_mem_cons.mpr ⟨cw_c1_156, List.forall_mem_cons.mpr ⟨cw_c1_159, fun _ h => absurd h List.not_mem_nil⟩⟩⟩⟩⟩⟩⟩⟩⟩⟩⟩⟩⟩⟩⟩⟩⟩⟩⟩⟩⟩⟩⟩⟩⟩⟩⟩⟩⟩⟩⟩
def cw_cls2 : List (Nat × (Nat × cw_I)) := [(3, 6, mm_J6_bitCount_0f7a4), (11, 5, mm_X1_init), (32, 5, mm_X0_init), (37, 0, mm_X2_setThings), (41, 0, mm_X2_setRestart), (44, 0, mm_X2_setFirst), (47, 3, mm_X1_toldNeeds), (51, 0, mm_X2_record), (57, 3, mm_X1_beginAnew), (66, 3, mm_X0_firstFault), (69, 3, mm_X0_greatestThing), (75, 3, mm_X0_howManyClauses), (78, 3, mm_X0_tellClausesTo), (82, 3, mm_X0_empty), (89, 3, mm_X1_doSteps), (95, 3, mm_X1_presentLevel), (98, 3, mm_X1_goBackTo), (104, 0, mm_X2_isNoThing), (108, 3, mm_X1_placeOf), (111, 3, mm_X1_signAt), (114, 3, mm_X1_levelAt), (117, 3, mm_X1_reasonAt), (120, 1, mm_X2_thingOf), (123, 0, mm_X2_isNoClause), (126, 3, mm_X1_clauseAt), (129, 1, mm_J6_bitCount_0f7a4), (134, 3, mm_X1_isTrue), (137, 3, mm_X1_openSigns), (140, 1, mm_X2_signInOrder), (171, 1, mm_X2_has), (175, 3, mm_X1_copyFrom), (178, 1, mm_X2_setOf), (184, 4, mm_X0_charactersIn), (188, 3, mm_X0_append), (192, 0, mm_X2_moveOldestToEnd), (196, 1, mm_X2_opposites), (199, 1, mm_X2_opposite)]
theorem cw_c2_3 : cw_okC 2 3 6 mm_J6_bitCount_0f7a4 := Or.inr (Or.inr (Or.inr (Or.inr (Or.inr (Or.inr (Or.inl ⟨rfl, cw_in1 12 rfl rfl⟩))))))
theorem cw_c2_11 : cw_okC 2 11 5 mm_X1_init := Or.inr (Or.inr (Or.inr (Or.inr (Or.inr (Or.inl ⟨rfl, ⟨_, cw_nn1 17 rfl rfl⟩, cw_in1 18 rfl rfl, rfl, rfl, cw_KX1_init⟩)))))
theorem cw_c2_32 : cw_okC 2 32 5 mm_X0_init := Or.inr (Or.inr (Or.inr (Or.inr (Or.inr (Or.inl ⟨rfl, ⟨_, cw_nn1 77 rfl rfl⟩, cw_in1 78 rfl rfl, rfl, rfl, cw_KX0_init⟩)))))
theorem cw_c2_37 : cw_okC 2 37 0 mm_X2_setThings := Or.inl ⟨rfl, cw_in1 113 rfl rfl, cw_in1 115 rfl rfl, cw_ins 0 rfl rfl, cw_KX2_setThings⟩
theorem cw_c2_41 : cw_okC 2 41 0 mm_X2_setRestart := Or.inl ⟨rfl, cw_in1 154 rfl rfl, cw_in1 156 rfl rfl, cw_ins 7 rfl rfl, cw_KX2_setRestart⟩
theorem cw_c2_44 : cw_okC 2 44 0 mm_X2_setFirst := Or.inl ⟨rfl, cw_in1 158 rfl rfl, cw_in1 160 rfl rfl, cw_ins 8 rfl rfl, cw_KX2_setFirst⟩
theorem cw_c2_47 : cw_okC 2 47 3 mm_X1_toldNeeds := Or.inr (Or.inr (Or.inr (Or.inl ⟨rfl, ⟨_, cw_nn1 117 rfl rfl⟩, cw_in1 119 rfl rfl, cw_ins 1 rfl rfl, cw_KX1_toldNeeds⟩)))
theorem cw_c2_51 : cw_okC 2 51 0 mm_X2_record := Or.inl ⟨rfl, cw_in1 135 rfl rfl, cw_in1 137 rfl rfl, cw_ins 3 rfl rfl, cw_KX2_record⟩
theorem cw_c2_57 : cw_okC 2 57 3 mm_X1_beginAnew := Or.inr (Or.inr (Or.inr (Or.inl ⟨rfl, ⟨_, cw_nn1 150 rfl rfl⟩, cw_in1 152 rfl rfl, cw_ins 6 rfl rfl, cw_KX1_beginAnew⟩)))
theorem cw_c2_66 : cw_okC 2 66 3 mm_X0_firstFault := Or.inr (Or.inr (Or.inr (Or.inl ⟨rfl, ⟨_, cw_nn2 144 rfl rfl⟩, cw_in2 146 rfl rfl, cw_ins 35 rfl rfl, cw_KX0_firstFault⟩)))
theorem cw_c2_69 : cw_okC 2 69 3 mm_X0_greatestThing := Or.inr (Or.inr (Or.inr (Or.inl ⟨rfl, ⟨_, cw_nn2 152 rfl rfl⟩, cw_in2 154 rfl rfl, cw_ins 37 rfl rfl, cw_KX0_greatestThing⟩)))
theorem cw_c2_75 : cw_okC 2 75 3 mm_X0_howManyClauses := Or.inr (Or.inr (Or.inr (Or.inl ⟨rfl, ⟨_, cw_nn2 160 rfl rfl⟩, cw_in2 162 rfl rfl, cw_ins 38 rfl rfl, cw_KX0_howManyClauses⟩)))
theorem cw_c2_78 : cw_okC 2 78 3 mm_X0_tellClausesTo := Or.inr (Or.inr (Or.inr (Or.inl ⟨rfl, ⟨_, cw_nn2 164 rfl rfl⟩, cw_in2 166 rfl rfl, cw_ins 39 rfl rfl, cw_KX0_tellClausesTo⟩)))
theorem cw_c2_82 : cw_okC 2 82 3 mm_X0_empty := Or.inr (Or.inr (Or.inr (Or.inl ⟨rfl, ⟨_, cw_nn2 115 rfl rfl⟩, cw_in2 117 rfl rfl, cw_ins 33 rfl rfl, cw_KX0_empty⟩)))
theorem cw_c2_89 : cw_okC 2 89 3 mm_X1_doSteps := Or.inr (Or.inr (Or.inr (Or.inl ⟨rfl, ⟨_, cw_nn1 166 rfl rfl⟩, cw_in1 168 rfl rfl, cw_ins 9 rfl rfl, cw_KX1_doSteps⟩)))
theorem cw_c2_95 : cw_okC 2 95 3 mm_X1_presentLevel := Or.inr (Or.inr (Or.inr (Or.inl ⟨rfl, ⟨_, cw_nn2 33 rfl rfl⟩, cw_in1 198 rfl rfl, cw_ins 15 rfl rfl, cw_KX1_presentLevel⟩)))
theorem cw_c2_98 : cw_okC 2 98 3 mm_X1_goBackTo := Or.inr (Or.inr (Or.inr (Or.inl ⟨rfl, ⟨_, cw_nn2 34 rfl rfl⟩, cw_in1 233 rfl rfl, cw_ins 22 rfl rfl, cw_KX1_goBackTo⟩)))
theorem cw_c2_104 : cw_okC 2 104 0 mm_X2_isNoThing := Or.inl ⟨rfl, cw_in2 72 rfl rfl, cw_in2 74 rfl rfl, cw_ins 30 rfl rfl, cw_KX2_isNoThing⟩
theorem cw_c2_108 : cw_okC 2 108 3 mm_X1_placeOf := Or.inr (Or.inr (Or.inr (Or.inl ⟨rfl, ⟨_, cw_nn2 76 rfl rfl⟩, cw_in2 78 rfl rfl, cw_ins 31 rfl rfl, cw_KX1_placeOf⟩)))
theorem cw_c2_111 : cw_okC 2 111 3 mm_X1_signAt := Or.inr (Or.inr (Or.inr (Or.inl ⟨rfl, ⟨_, cw_nn2 83 rfl rfl⟩, cw_in1 214 rfl rfl, cw_ins 19 rfl rfl, cw_KX1_signAt⟩)))
theorem cw_c2_114 : cw_okC 2 114 3 mm_X1_levelAt := Or.inr (Or.inr (Or.inr (Or.inl ⟨rfl, ⟨_, cw_nn2 84 rfl rfl⟩, cw_in1 202 rfl rfl, cw_ins 16 rfl rfl, cw_KX1_levelAt⟩)))
theorem cw_c2_117 : cw_okC 2 117 3 mm_X1_reasonAt := Or.inr (Or.inr (Or.inr (Or.inl ⟨rfl, ⟨_, cw_nn2 85 rfl rfl⟩, cw_in1 222 rfl rfl, cw_ins 20 rfl rfl, cw_KX1_reasonAt⟩)))
theorem cw_c2_120 : cw_okC 2 120 1 mm_X2_thingOf := Or.inr (Or.inl ⟨rfl, cw_in2 90 rfl rfl, cw_in2 81 rfl rfl, cw_KX2_thingOf⟩)
theorem cw_c2_123 : cw_okC 2 123 0 mm_X2_isNoClause := Or.inl ⟨rfl, cw_in2 95 rfl rfl, cw_in2 97 rfl rfl, cw_ins 32 rfl rfl, cw_KX2_isNoClause⟩
theorem cw_c2_126 : cw_okC 2 126 3 mm_X1_clauseAt := Or.inr (Or.inr (Or.inr (Or.inl ⟨rfl, ⟨_, cw_nn2 99 rfl rfl⟩, cw_in1 123 rfl rfl, cw_ins 2 rfl rfl, cw_KX1_clauseAt⟩)))
theorem cw_c2_129 : cw_okC 2 129 1 mm_J6_bitCount_0f7a4 := Or.inr (Or.inl ⟨rfl, cw_in2 100 rfl rfl, cw_in1 187 rfl rfl, cw_KJ6_bitCount_0f7a4⟩)
theorem cw_c2_134 : cw_okC 2 134 3 mm_X1_isTrue := Or.inr (Or.inr (Or.inr (Or.inl ⟨rfl, ⟨_, cw_nn2 101 rfl rfl⟩, cw_in1 180 rfl rfl, cw_ins 12 rfl rfl, cw_KX1_isTrue⟩)))
theorem cw_c2_137 : cw_okC 2 137 3 mm_X1_openSigns := Or.inr (Or.inr (Or.inr (Or.inl ⟨rfl, ⟨_, cw_nn2 102 rfl rfl⟩, cw_in1 184 rfl rfl, cw_ins 13 rfl rfl, cw_KX1_openSigns⟩)))
theorem cw_c2_140 : cw_okC 2 140 1 mm_X2_signInOrder := Or.inr (Or.inl ⟨rfl, cw_in2 103 rfl rfl, cw_in2 16 rfl rfl, cw_KX2_signInOrder⟩)
theorem cw_c2_171 : cw_okC 2 171 1 mm_X2_has := Or.inr (Or.inl ⟨rfl, cw_in2 19 rfl rfl, cw_in1 130 rfl rfl, cw_KX2_has⟩)
theorem cw_c2_175 : cw_okC 2 175 3 mm_X1_copyFrom := Or.inr (Or.inr (Or.inr (Or.inl ⟨rfl, ⟨_, cw_nn1 143 rfl rfl⟩, cw_in1 145 rfl rfl, cw_ins 5 rfl rfl, cw_KX1_copyFrom⟩)))
theorem cw_c2_178 : cw_okC 2 178 1 mm_X2_setOf := Or.inr (Or.inl ⟨rfl, cw_in1 132 rfl rfl, cw_in1 133 rfl rfl, cw_KX2_setOf⟩)
theorem cw_c2_184 : cw_okC 2 184 4 mm_X0_charactersIn := Or.inr (Or.inr (Or.inr (Or.inr (Or.inl ⟨rfl, ⟨_, cw_nn2 124 rfl rfl⟩, cw_in2 125 rfl rfl, cw_KX0_charactersIn⟩))))
theorem cw_c2_188 : cw_okC 2 188 3 mm_X0_append := Or.inr (Or.inr (Or.inr (Or.inl ⟨rfl, ⟨_, cw_nn2 131 rfl rfl⟩, cw_in2 133 rfl rfl, cw_ins 34 rfl rfl, cw_KX0_append⟩)))
theorem cw_c2_192 : cw_okC 2 192 0 mm_X2_moveOldestToEnd := Or.inl ⟨rfl, cw_in1 139 rfl rfl, cw_in1 141 rfl rfl, cw_ins 4 rfl rfl, cw_KX2_moveOldestToEnd⟩
theorem cw_c2_196 : cw_okC 2 196 1 mm_X2_opposites := Or.inr (Or.inl ⟨rfl, cw_in2 18 rfl rfl, cw_in1 126 rfl rfl, cw_KX2_opposites⟩)
theorem cw_c2_199 : cw_okC 2 199 1 mm_X2_opposite := Or.inr (Or.inl ⟨rfl, cw_in2 20 rfl rfl, cw_in1 218 rfl rfl, cw_KX2_opposite⟩)
theorem cw_clok2 : ∀ q ∈ cw_cls2, cw_okC 2 q.1 q.2.1 q.2.2 := List.forall_mem_cons.mpr ⟨cw_c2_3, List.forall_mem_cons.mpr ⟨cw_c2_11, List.forall_mem_cons.mpr ⟨cw_c2_32, List.forall_mem_cons.mpr ⟨cw_c2_37, List.forall_mem_cons.mpr ⟨cw_c2_41, List.forall_mem_cons.mpr ⟨cw_c2_44, List.forall_mem_cons.mpr ⟨cw_c2_47, List.forall_mem_cons.mpr ⟨cw_c2_51, List.forall_mem_cons.mpr ⟨cw_c2_57, List.forall_mem_cons.mpr ⟨cw_c2_66, List.forall_mem_cons.mpr ⟨cw_c2_69, List.forall_mem_cons.mpr ⟨cw_c2_75, List.forall_mem_cons.mpr ⟨cw_c2_78, List.forall_mem_cons.mpr ⟨cw_c2_82, List.forall_mem_cons.mpr ⟨cw_c2_89, List.forall_mem_cons.mpr ⟨cw_c2_95, List.forall_mem_cons.mpr ⟨cw_c2_98, List.forall_mem_cons.mpr ⟨cw_c2_104, List.forall_mem_cons.mpr ⟨cw_c2_108, List.forall_mem_cons.mpr ⟨cw_c2_111, List.forall_mem_cons.mpr ⟨cw_c2_114, List.forall_mem_cons.mpr ⟨cw_c2_117, List.forall_mem_cons.mpr ⟨cw_c2_120, List.forall_mem_cons.mpr ⟨cw_c2_123, List.forall_mem_cons.mpr ⟨cw_c2_126, List.forall_mem_cons.mpr ⟨cw_c2_129, List.forall_mem_cons.mpr ⟨cw_c2_134, List.forall_mem_cons.mpr ⟨cw_c2_137, List.forall_mem_cons.mpr ⟨cw_c2_140, List.forall_mem_cons.mpr ⟨cw_c2_171, List.forall_mem_cons.mpr ⟨cw_c2_175, List.forall_mem_cons.mpr ⟨cw_c2_178, List.forall_mem_cons.mpr ⟨cw_c2_184, List.forall_mem_cons.mpr ⟨cw_c2_188, List.forall_mem_cons.mpr ⟨cw_c2_192, List.forall_mem_cons.mpr ⟨cw_c2_196, List.forall_mem_cons.mpr ⟨cw_c2_199, fun _ h => absurd h List.not_mem_nil⟩⟩⟩⟩⟩⟩⟩⟩⟩⟩⟩⟩⟩⟩⟩⟩⟩⟩⟩⟩⟩⟩⟩⟩⟩⟩⟩⟩⟩⟩⟩⟩⟩⟩⟩⟩⟩
def cw_cls3 : List (Nat × (Nat × cw_I)) := []
theorem cw_clok3 : ∀ q ∈ cw_cls3, cw_okC 3 q.1 q.2.1 q.2.2 := fun _ h => absurd h List.not_mem_nil
def cw_cls4 : List (Nat × (Nat × cw_I)) := [(10, 1, mm_L_back), (16, 1, mm_L_isTrue), (20, 1, mm_L_open), (24, 1, mm_L_learn), (28, 1, mm_L_bits), (32, 1, mm_L_give), (36, 0, mm_X2_of), (42, 0, mm_X2_trail), (45, 0, mm_X2_clause), (48, 0, mm_X2_count), (51, 0, mm_X2_wipe), (55, 1, mm_L_low), (60, 0, mm_X2_put), (68, 1, mm_L_anew), (72, 0, mm_X2_read), (75, 2, mm_X2_init), (76, 1, mm_L_cell), (80, 0, mm_X2_set), (83, 1, mm_L_reads), (87, 1, mm_L_step), (91, 0, mm_X2_step), (93, 0, mm_X2_back), (95, 1, mm_L_same)]
theorem cw_c4_10 : cw_okC 4 10 1 mm_L_back := Or.inr (Or.inl ⟨rfl, cw_in2 44 rfl rfl, cw_in2 45 rfl rfl, cw_KL_back⟩)
theorem cw_c4_16 : cw_okC 4 16 1 mm_L_isTrue := Or.inr (Or.inl ⟨rfl, cw_in2 50 rfl rfl, cw_in2 51 rfl rfl, cw_KL_isTrue⟩)
theorem cw_c4_20 : cw_okC 4 20 1 mm_L_open := Or.inr (Or.inl ⟨rfl, cw_in2 53 rfl rfl, cw_in2 54 rfl rfl, cw_KL_open⟩)
theorem cw_c4_24 : cw_okC 4 24 1 mm_L_learn := Or.inr (Or.inl ⟨rfl, cw_in2 56 rfl rfl, cw_in2 57 rfl rfl, cw_KL_learn⟩)
theorem cw_c4_28 : cw_okC 4 28 1 mm_L_bits := Or.inr (Or.inl ⟨rfl, cw_in2 59 rfl rfl, cw_in2 60 rfl rfl, cw_KL_bits⟩)
theorem cw_c4_32 : cw_okC 4 32 1 mm_L_give := Or.inr (Or.inl ⟨rfl, cw_in2 62 rfl rfl, cw_in2 63 rfl rfl, cw_KL_give⟩)
theorem cw_c4_36 : cw_okC 4 36 0 mm_X2_of := Or.inl ⟨rfl, cw_in2 68 rfl rfl, cw_in2 69 rfl rfl, cw_in2 70 rfl rfl, cw_KX2_of⟩
theorem cw_c4_42 : cw_okC 4 42 0 mm_X2_trail := Or.inl ⟨rfl, cw_in2 86 rfl rfl, cw_in2 87 rfl rfl, cw_in2 88 rfl rfl, cw_KX2_trail⟩
theorem cw_c4_45 : cw_okC 4 45 0 mm_X2_clause := Or.inl ⟨rfl, cw_in2 91 rfl rfl, cw_in2 92 rfl rfl, cw_in2 93 rfl rfl, cw_KX2_clause⟩
theorem cw_c4_48 : cw_okC 4 48 0 mm_X2_count := Or.inl ⟨rfl, cw_in2 104 rfl rfl, cw_in2 105 rfl rfl, cw_in2 106 rfl rfl, cw_KX2_count⟩
theorem cw_c4_51 : cw_okC 4 51 0 mm_X2_wipe := Or.inl ⟨rfl, cw_in2 111 rfl rfl, cw_in2 112 rfl rfl, cw_in2 113 rfl rfl, cw_KX2_wipe⟩
theorem cw_c4_55 : cw_okC 4 55 1 mm_L_low := Or.inr (Or.inl ⟨rfl, cw_in2 40 rfl rfl, cw_in2 41 rfl rfl, cw_KL_low⟩)
theorem cw_c4_60 : cw_okC 4 60 0 mm_X2_put := Or.inl ⟨rfl, cw_in2 120 rfl rfl, cw_in2 121 rfl rfl, cw_in2 122 rfl rfl, cw_KX2_put⟩
theorem cw_c4_68 : cw_okC 4 68 1 mm_L_anew := Or.inr (Or.inl ⟨rfl, cw_in2 137 rfl rfl, cw_in2 138 rfl rfl, cw_KL_anew⟩)
theorem cw_c4_72 : cw_okC 4 72 0 mm_X2_read := Or.inl ⟨rfl, cw_in2 140 rfl rfl, cw_in2 141 rfl rfl, cw_in2 142 rfl rfl, cw_KX2_read⟩
theorem cw_c4_75 : cw_okC 4 75 2 mm_X2_init := Or.inr (Or.inr (Or.inl ⟨rfl, cw_in1 9 rfl rfl, cw_in1 10 rfl rfl, rfl, rfl, cw_KX2_init⟩))
theorem cw_c4_76 : cw_okC 4 76 1 mm_L_cell := Or.inr (Or.inl ⟨rfl, cw_in2 35 rfl rfl, cw_in2 36 rfl rfl, cw_KL_cell⟩)
theorem cw_c4_80 : cw_okC 4 80 0 mm_X2_set := Or.inl ⟨rfl, cw_in1 109 rfl rfl, cw_in1 110 rfl rfl, cw_in1 111 rfl rfl, cw_KX2_set⟩
theorem cw_c4_83 : cw_okC 4 83 1 mm_L_reads := Or.inr (Or.inl ⟨rfl, cw_in2 108 rfl rfl, cw_in2 109 rfl rfl, cw_KL_reads⟩)
theorem cw_c4_87 : cw_okC 4 87 1 mm_L_step := Or.inr (Or.inl ⟨rfl, cw_in2 47 rfl rfl, cw_in2 48 rfl rfl, cw_KL_step⟩)
theorem cw_c4_91 : cw_okC 4 91 0 mm_X2_step := Or.inl ⟨rfl, cw_in1 162 rfl rfl, cw_in1 163 rfl rfl, cw_in1 164 rfl rfl, cw_KX2_step⟩
theorem cw_c4_93 : cw_okC 4 93 0 mm_X2_back := Or.inl ⟨rfl, cw_in2 29 rfl rfl, cw_in2 30 rfl rfl, cw_in2 31 rfl rfl, cw_KX2_back⟩
theorem cw_c4_95 : cw_okC 4 95 1 mm_L_same := Or.inr (Or.inl ⟨rfl, cw_in2 65 rfl rfl, cw_in2 66 rfl rfl, cw_KL_same⟩)
theorem cw_clok4 : ∀ q ∈ cw_cls4, cw_okC 4 q.1 q.2.1 q.2.2 := List.forall_mem_cons.mpr ⟨cw_c4_10, List.forall_mem_cons.mpr ⟨cw_c4_16, List.forall_mem_cons.mpr ⟨cw_c4_20, List.forall_mem_cons.mpr ⟨cw_c4_24, List.forall_mem_cons.mpr ⟨cw_c4_28, List.forall_mem_cons.mpr ⟨cw_c4_32, List.forall_mem_cons.mpr ⟨cw_c4_36, List.forall_mem_cons.mpr ⟨cw_c4_42, List.forall_mem_cons.mpr ⟨cw_c4_45, List.forall_mem_cons.mpr ⟨cw_c4_48, List.forall_mem_cons.mpr ⟨cw_c4_51, List.forall_mem_cons.mpr ⟨cw_c4_55, List.forall_mem_cons.mpr ⟨cw_c4_60, List.forall_mem_cons.mpr ⟨cw_c4_68, List.forall_mem_cons.mpr ⟨cw_c4_72, List.forall_mem_cons.mpr ⟨cw_c4_75, List.forall_mem_cons.mpr ⟨cw_c4_76, List.forall_mem_cons.mpr ⟨cw_c4_80, List.forall_mem_cons.mpr ⟨cw_c4_83, List.forall_mem_cons.mpr ⟨cw_c4_87, List.forall_mem_cons.mpr ⟨cw_c4_91, List.forall_mem_cons.mpr ⟨cw_c4_93, List.forall_mem_cons.mpr ⟨cw_c4_95, fun _ h => absurd h List.not_mem_nil⟩⟩⟩⟩⟩⟩⟩⟩⟩⟩⟩⟩⟩⟩⟩⟩⟩⟩⟩⟩⟩⟩⟩
def cw_cls5 : List (Nat × (Nat × cw_I)) := []
theorem cw_clok5 : ∀ q ∈ cw_cls5, cw_okC 5 q.1 q.2.1 q.2.2 := fun _ h => absurd h List.not_mem_nil
def cw_cls : Nat → List (Nat × (Nat × cw_I))
  | 0 => cw_cls0
  | 1 => cw_cls1
  | 2 => cw_cls2
  | 3 => cw_cls3
  | 4 => cw_cls4
  | 5 => cw_cls5
  | _ => []
theorem cw_clok : ∀ c, ∀ q ∈ cw_cls c, cw_okC c q.1 q.2.1 q.2.2
  | 0 => cw_clok0
  | 1 => cw_clok1
  | 2 => cw_clok2
  | 3 => cw_clok3
  | 4 => cw_clok4
  | 5 => cw_clok5
  | _ + 6 => fun _ h => absurd h List.not_mem_nil
def cw_news : Nat → List (Nat × Nat)
  | 2 => [(9, 1), (30, 0)]
  | 4 => [(37, 2)]
  | _ => []
theorem cw_nok : ∀ c, ∀ q ∈ cw_news c, q.2 < 3 ∧ Cond.classLink (cw_own c) q.1 (cw_own q.2) ∈ cw_T ∧ Cond.instantiable (cw_own q.2) (cw_cn q.2) ∈ cw_T ∧ Cond.initialized (cw_own q.2) ∈ cw_T
  | 0 => fun _ h => absurd h List.not_mem_nil
  | 1 => fun _ h => absurd h List.not_mem_nil
  | 2 => List.forall_mem_cons.mpr ⟨⟨by decide, cw_in1 15 rfl rfl, cw_in1 16 rfl rfl, cw_in1 2 rfl rfl⟩, List.forall_mem_cons.mpr ⟨⟨by decide, cw_in1 75 rfl rfl, cw_in1 76 rfl rfl, cw_in1 3 rfl rfl⟩, fun _ h => absurd h List.not_mem_nil⟩⟩
  | 3 => fun _ h => absurd h List.not_mem_nil
  | 4 => List.forall_mem_cons.mpr ⟨⟨by decide, cw_in1 7 rfl rfl, cw_in1 8 rfl rfl, cw_in1 1 rfl rfl⟩, fun _ h => absurd h List.not_mem_nil⟩
  | 5 => fun _ h => absurd h List.not_mem_nil
  | _ + 6 => fun _ h => absurd h List.not_mem_nil
theorem cw_g_oi1 : Cond.instanceMethod objectInit ∈ cw_T := cw_in1 13 rfl rfl
theorem cw_g_sys : Cond.initialized "java/lang/System" ∈ cw_T := cw_in1 4 rfl rfl
theorem cw_g_math : Cond.initialized "java/lang/Math" ∈ cw_T := cw_in1 5 rfl rfl
theorem cw_g_cpn : Cond.native arraycopyName ∈ cw_T := cw_in1 149 rfl rfl
theorem cw_g_cps : Cond.static arraycopyName ∈ cw_T := cw_in1 148 rfl rfl
theorem cw_g_ms : Cond.static Lib.Math.max.name ∈ cw_T := cw_in1 229 rfl rfl
theorem cw_g_ai : Cond.arrayClass .int ∈ cw_T := cw_in1 73 rfl rfl
theorem cw_g_ac : Cond.arrayClass .char ∈ cw_T := cw_in1 89 rfl rfl
theorem cw_g_oi2 : Cond.code objectInit ⟨#[0xb1]⟩ 1 none ∈ cw_T := cw_in1 14 rfl rfl
theorem cw_g_mc : Cond.code Lib.Math.max.name Lib.Math.max.code 2 (some .int) ∈ cw_T := cw_in1 230 rfl rfl
end
section
/-! THE ABSTRACT MACHINE: objects and rows in a list, a reference is a place in it; what it does, the machine does -/
abbrev cw_E : Type := (Nat × vp_A) ⊕ (Nat × List Value)
abbrev cw_H : Type := List cw_E
abbrev cw_LV : Type := List (Nat × Value)
abbrev cw_b (i : cw_I) : ByteArray := i.2.1
abbrev cw_nL (i : cw_I) : Nat := i.2.2.1
abbrev cw_r (i : cw_I) : Option FieldType := i.2.2.2.1
abbrev cw_c (i : cw_I) : Nat := i.2.2.2.2.1
abbrev cw_na (i : cw_I) : Nat := i.2.2.2.2.2.1
abbrev cw_f (i : cw_I) : Nat := i.2.2.2.2.2.2.1
abbrev cw_tb (i : cw_I) : List (Nat × (ClassFile.Instr × Nat)) := i.2.2.2.2.2.2.2
def cw_v (ad : Nat → Nat) (v : Value) : Value := match v with
  | .ref k => .ref (ad k)
  | v => v
def cw_a (ad : Nat → Nat) (x : vp_A) : vp_A := match x with
  | (n, .inr (.inr (.inr (.inr f)))) => (n, .inr (.inr (.inr (.inr (fun j => (f j).map ad)))))
  | y => y
def cw_e (cA : Nat → ClassId) (ad : Nat → Nat) (q : cw_E) : va_E := match q with
  | .inl a => .inl (cA a.1, cw_a ad a.2)
  | .inr o => .inr (o.1, o.2.map (cw_v ad))
def cw_w (cA : Nat → ClassId) (ad : Nat → Nat) (h : cw_H) : va_W := h.mapIdx (fun k q => (ad k, cw_e cA ad q))
def cw_tys (cA : Nat → ClassId) : List (ClassId × FieldType) := [(cA 0, .int), (cA 1, .char), (cA 2, .object RX1)]
def cw_K (D : va_G) (cA : Nat → ClassId) (U : State) : Prop := va_K D vwCl (cw_tys cA) U ∧ va_AO RX1 U ∧ ∀ w ∈ cw_N, va_Nw w U
def cw_L (ad : Nat → Nat) (lv : cw_LV) : cw_LV := lv.map (fun q => (q.1, cw_v ad q.2))
theorem cw_cat (ad : Nat → Nat) (v : Value) : (cw_v ad v).category = v.category := by cases v <;> rfl
theorem cw_cats (ad : Nat → Nat) (l : List Value) : ((l.map (cw_v ad)).map fun v => v.category) = l.map fun v => v.category := by
  induction l with
  | nil => rfl
  | cons a l ih => simp only [List.map_cons, cw_cat, ih]
theorem cw_w_get {cA : Nat → ClassId} {ad : Nat → Nat} {h : cw_H} {k : Nat} {q : cw_E} (e : h[k]? = some q) : (cw_w cA ad h)[k]? = some (ad k, cw_e cA ad q) := by
  simp [cw_w, List.getElem?_mapIdx, e]
theorem cw_w_inv {cA : Nat → ClassId} {ad : Nat → Nat} {h : cw_H} {k : Nat} {x : Nat × va_E} (e : (cw_w cA ad h)[k]? = some x) : ∃ q, h[k]? = some q ∧ x = (ad k, cw_e cA ad q) := by
  simp only [cw_w, List.getElem?_mapIdx, Option.map_eq_some_iff] at e
  obtain ⟨q, h1, h2⟩ := e
  exact ⟨q, h1, h2.symm⟩
theorem cw_w_set (cA : Nat → ClassId) (ad : Nat → Nat) (h : cw_H) (k : Nat) (q : cw_E) : cw_w cA ad (h.set k q) = (cw_w cA ad h).set k (ad k, cw_e cA ad q) := by
  apply List.ext_getElem?
  intro j
  simp only [cw_w, List.getElem?_mapIdx, List.getElem?_set, List.length_mapIdx]
  by_cases hj : k = j
  · subst hj
    by_cases hl : k < h.length <;> simp [hl]
  · simp [hj]
theorem cw_K.warm {D : va_G} {cA : Nat → ClassId} {s U : State} (hW : s.WarmedH U.vm) (h : cw_K D cA s) : cw_K D cA U := by
  refine ⟨va_K.moved hW.alike h.1, va_AO.moved hW.alike h.2.1, fun w hw => ?_⟩
  have h1 := h.2.2 w hw
  have h2 := (List.mem_filter.mp hw).2
  unfold cw_isN at h2
  split at h2
  · exact va_Nw.warmF hW h1
  · exact va_Nw.warmM hW h1
  · cases h2
theorem cw_K.calling {D : va_G} {cA : Nat → ClassId} {U : State} (h : cw_K D cA U) (g : JFrame) (mk : MethodId) (a : Array Value) : cw_K D cA (U.calling g mk a) := by
  refine ⟨va_K.moved (u := U) (U := U.calling g mk a) (Vm.Alike.refl U.vm) h.1, va_AO.moved (u := U) (U := U.calling g mk a) (Vm.Alike.refl U.vm) h.2.1, fun w hw => ?_⟩
  have h1 := h.2.2 w hw
  have h2 := (List.mem_filter.mp hw).2
  unfold cw_isN at h2
  split at h2
  · exact va_Nw.same rfl rfl h1
  · exact va_Nw.same rfl rfl h1
  · cases h2
def cw_put1 (lv : cw_LV) (i : Nat) (v : Value) : cw_LV := (i, v) :: lv.filter (fun q => !(q.1 == i) && !(q.1 + 1 == i && q.2.category == 2))
def cw_put2 (lv : cw_LV) (i : Nat) (v : Value) : cw_LV := (i, v) :: lv.filter (fun q => !(q.1 == i) && (!(q.1 == i + 1) && !(q.1 + 1 == i && q.2.category == 2)))
theorem cw_put1_map (ad : Nat → Nat) (lv : cw_LV) (i : Nat) (v : Value) : (i, cw_v ad v) :: (cw_L ad lv).filter (fun q => !(q.1 == i) && !(q.1 + 1 == i && q.2.category == 2)) = cw_L ad (cw_put1 lv i v) := by
  simp only [cw_L, cw_put1, List.map_cons, List.filter_map]
  congr 2
  apply List.filter_congr
  intro q _
  simp only [Function.comp, cw_cat]
theorem cw_put2_map (ad : Nat → Nat) (lv : cw_LV) (i : Nat) (v : Value) : (i, cw_v ad v) :: (cw_L ad lv).filter (fun q => !(q.1 == i) && (!(q.1 == i + 1) && !(q.1 + 1 == i && q.2.category == 2))) = cw_L ad (cw_put2 lv i v) := by
  simp only [cw_L, cw_put2, List.map_cons, List.filter_map]
  congr 2
  apply List.filter_congr
  intro q _
  simp only [Function.comp, cw_cat]
theorem cw_L_at {ls : Array Slot} {nL : Nat} {ad : Nat → Nat} {lv : cw_LV} {i : Nat} {v : Value} (hl : lv_has ls nL (cw_L ad lv)) (h : cw_look lv i = some v) : ls[i]? = some (.val (cw_v ad v)) :=
  hl.2.2 (i, cw_v ad v) (List.mem_map.mpr ⟨(i, v), cw_look_mem h, rfl⟩)
/-- the instructions that touch neither heap nor other methods: their length, the locals, the stack behind them -/
def cw_pure (c nL : Nat) (i : ClassFile.Instr) (lv : cw_LV) (st : List Value) : Option (Nat × cw_LV × List Value) := match i with
  | .iconst k => some (1, lv, .int (cw_n k) :: st)
  | .bipush k => some (2, lv, .int (cw_n k) :: st)
  | .sipush k => some (3, lv, .int (cw_n k) :: st)
  | .lconst k => some (1, lv, .long (Int64.ofNat k.val) :: st)
  | .ldc idx => match cw_look (cw_csts c) idx with
    | some v => some (2, lv, .int v :: st)
    | none => none
  | .ldc_w idx => match cw_look (cw_csts c) idx with
    | some v => some (3, lv, .int v :: st)
    | none => none
  | .ldc2_w idx => match cw_look (cw_cstL c) idx with
    | some v => some (3, lv, .long v :: st)
    | none => none
  | .iload_n k => match cw_look lv k.val with
    | some (.int x) => some (1, lv, .int x :: st)
    | _ => none
  | .iload k => match cw_look lv k with
    | some (.int x) => some (2, lv, .int x :: st)
    | _ => none
  | .lload_n k => match cw_look lv k.val with
    | some (.long x) => some (1, lv, .long x :: st)
    | _ => none
  | .lload k => match cw_look lv k with
    | some (.long x) => some (2, lv, .long x :: st)
    | _ => none
  | .aload_n k => match cw_look lv k.val with
    | some (.ref x) => some (1, lv, .ref x :: st)
    | _ => none
  | .aload k => match cw_look lv k with
    | some (.ref x) => some (2, lv, .ref x :: st)
    | _ => none
  | .istore_n k => match Nat.blt k.val nL, st with
    | true, .int x :: r => some (1, cw_put1 lv k.val (.int x), r)
    | _, _ => none
  | .istore k => match Nat.blt k nL, st with
    | true, .int x :: r => some (2, cw_put1 lv k (.int x), r)
    | _, _ => none
  | .lstore_n k => match Nat.blt (k.val + 1) nL, st with
    | true, .long x :: r => some (1, cw_put2 lv k.val (.long x), r)
    | _, _ => none
  | .lstore k => match Nat.blt (k + 1) nL, st with
    | true, .long x :: r => some (2, cw_put2 lv k (.long x), r)
    | _, _ => none
  | .astore_n k => match Nat.blt k.val nL, st with
    | true, .ref x :: r => some (1, cw_put1 lv k.val (.ref x), r)
    | true, .null :: r => some (1, cw_put1 lv k.val .null, r)
    | _, _ => none
  | .astore k => match Nat.blt k nL, st with
    | true, .ref x :: r => some (2, cw_put1 lv k (.ref x), r)
    | _, _ => none
  | .iinc k n => match Nat.blt k nL, cw_look lv k with
    | true, some (.int x) => some (3, cw_put1 lv k (.int (x + cw_n n)), st)
    | _, _ => none
  | .iadd => match st with
    | .int y :: .int x :: r => some (1, lv, .int (x + y) :: r)
    | _ => none
  | .isub => match st with
    | .int y :: .int x :: r => some (1, lv, .int (x - y) :: r)
    | _ => none
  | .imul => match st with
    | .int y :: .int x :: r => some (1, lv, .int (x * y) :: r)
    | _ => none
  | .iand => match st with
    | .int y :: .int x :: r => some (1, lv, .int (x &&& y) :: r)
    | _ => none
  | .ior => match st with
    | .int y :: .int x :: r => some (1, lv, .int (x ||| y) :: r)
    | _ => none
  | .ixor => match st with
    | .int y :: .int x :: r => some (1, lv, .int (x ^^^ y) :: r)
    | _ => none
  | .ishl => match st with
    | .int y :: .int x :: r => some (1, lv, .int (x <<< (y &&& 31)) :: r)
    | _ => none
  | .ishr => match st with
    | .int y :: .int x :: r => some (1, lv, .int (x >>> (y &&& 31)) :: r)
    | _ => none
  | .iushr => match st with
    | .int y :: .int x :: r => some (1, lv, .int (x.toUInt32 >>> (y.toUInt32 &&& Int32.toUInt32 31)).toInt32 :: r)
    | _ => none
  | .land => match st with
    | .long y :: .long x :: r => some (1, lv, .long (x &&& y) :: r)
    | _ => none
  | .lor => match st with
    | .long y :: .long x :: r => some (1, lv, .long (x ||| y) :: r)
    | _ => none
  | .lshl => match st with
    | .int y :: .long x :: r => some (1, lv, .long (x <<< (y.toInt64 &&& 63)) :: r)
    | _ => none
  | .lushr => match st with
    | .int y :: .long x :: r => some (1, lv, .long (x.toUInt64 >>> (y.toInt64.toUInt64 &&& Int64.toUInt64 63)).toInt64 :: r)
    | _ => none
  | .lcmp => match st with
    | .long y :: .long x :: r => some (1, lv, .int (lg_cmp x y) :: r)
    | _ => none
  | .i2l => match st with
    | .int x :: r => some (1, lv, .long x.toInt64 :: r)
    | _ => none
  | .l2i => match st with
    | .long x :: r => some (1, lv, .int x.toInt32 :: r)
    | _ => none
  | .i2c => match st with
    | .int x :: r => some (1, lv, .int (x.toUInt32 % 65536).toInt32 :: r)
    | _ => none
  | .dup => match st with
    | v :: r => match Nat.beq v.category 1 with
      | true => some (1, lv, v :: v :: r)
      | false => none
    | _ => none
  | .pop => match st with
    | v :: r => match Nat.beq v.category 1 with
      | true => some (1, lv, r)
      | false => none
    | _ => none
  | .dup_x2 => match st with
    | v :: w :: u :: r => match Nat.beq v.category 1, Nat.beq w.category 1, Nat.beq u.category 1 with
      | true, true, true => some (1, lv, v :: w :: u :: v :: r)
      | _, _, _ => none
    | _ => none
  | .dup2 => match st with
    | v :: w :: r => match Nat.beq v.category 1, Nat.beq w.category 1 with
      | true, true => some (1, lv, v :: w :: v :: w :: r)
      | _, _ => none
    | _ => none
  | _ => none
section CWP
variable {p : Program} {l : Launch} {e : Env} {R : Room} {s : State} {m : MethodId} {args : Array Value} {below : List Frame} {meth : Method} {c : Code} {H : Heap} {locs : List Loc} {cells slots : Nat} {Q : State → Prop}
set_option maxHeartbeats 4000000 in
theorem cw_pure_ok {cc : ByteArray} {cn nL pc n : Nat} {ad : Nat → Nat} {ls : Array Slot} {lv lv' : cw_LV} {st st' : List Value} {i : ClassFile.Instr} (hx : p.tables.exec = Jvm.exec) (hb : c.code = cc) (hts : ∀ w ∈ cw_T, w.before args s = true) (hown : s.vm.findClass (cw_own cn) = some m.cls)
    (hd : decode cc pc = .ok (i, n)) (hlit : cw_lit i = true) (hp : cw_pure cn nL i lv st = some (n, lv', st')) (hl : lv_has ls nL (cw_L ad lv))
    (kk : ∀ ls' : Array Slot, lv_has ls' nL (cw_L ad lv') → W p l e R s m args below meth c H locs cells slots Q (F0 m (pc + n) ls' (st'.map (cw_v ad)))) : W p l e R s m args below meth c H locs cells slots Q (F0 m pc ls (st.map (cw_v ad))) := by
  unfold cw_pure at hp
  split at hp
  · cases hp; exact lv_iconst hx hb hd (by simpa [cw_lit] using hlit) (kk _ hl)
  · cases hp; exact lv_bipush hx hb hd (by simpa [cw_lit] using hlit) (kk _ hl)
  · cases hp; exact lv_sipush hx hb hd (by simpa [cw_lit] using hlit) (kk _ hl)
  · cases hp; exact lv_lconst hx hb hd rfl (kk _ hl)
  · split at hp
    · rename_i e1; cases hp; exact lv_ldc hx hb hown (hts _ (cw_cok _ _ (cw_look_mem e1))) hd (kk _ hl)
    · cases hp
  · split at hp
    · rename_i e1; cases hp; exact lv_ldcw hx hb hown (hts _ (cw_cok _ _ (cw_look_mem e1))) hd (kk _ hl)
    · cases hp
  · split at hp
    · rename_i e1; cases hp; exact lv_ldc2 hx hb hown (hts _ (cw_cokL _ _ (cw_look_mem e1))) hd (kk _ hl)
    · cases hp
  · split at hp
    · rename_i e1; cases hp; exact lv_iload_n hx hb hd rfl (cw_L_at hl e1) (kk _ hl)
    · cases hp
  · split at hp
    · rename_i e1; cases hp; exact lv_iload hx hb hd (cw_L_at hl e1) (kk _ hl)
    · cases hp
  · split at hp
    · rename_i e1; cases hp; exact lv_lload_n hx hb hd rfl (cw_L_at hl e1) (kk _ hl)
    · cases hp
  · split at hp
    · rename_i e1; cases hp; exact lv_lload hx hb hd (cw_L_at hl e1) (kk _ hl)
    · cases hp
  · split at hp
    · rename_i e1; cases hp; exact lv_aload_n hx hb hd rfl (cw_L_at hl e1) (kk _ hl)
    · cases hp
  · split at hp
    · rename_i e1; cases hp; exact lv_aload hx hb hd (cw_L_at hl e1) (kk _ hl)
    · cases hp
  · split at hp
    · rename_i e1; cases hp; exact lv_istore_n hx hb hd rfl hl (Nat.le_of_ble_eq_true e1) (cw_put1_map ad lv _ (.int _)) kk
    · cases hp
  · split at hp
    · rename_i e1; cases hp; exact lv_istore hx hb hd hl (Nat.le_of_ble_eq_true e1) (cw_put1_map ad lv _ (.int _)) kk
    · cases hp
  · split at hp
    · rename_i e1; cases hp; exact lv_lstore_n hx hb hd rfl hl (Nat.le_of_ble_eq_true e1) (cw_put2_map ad lv _ (.long _)) kk
    · cases hp
  · split at hp
    · rename_i e1; cases hp; exact lv_lstore hx hb hd hl (Nat.le_of_ble_eq_true e1) (cw_put2_map ad lv _ (.long _)) kk
    · cases hp
  · split at hp
    · rename_i e1; cases hp; exact lv_astore_n hx hb hd rfl hl (Nat.le_of_ble_eq_true e1) (cw_put1_map ad lv _ (.ref _)) kk
    · rename_i e1; cases hp; exact lv_astore_nN hx hb hd rfl hl (Nat.le_of_ble_eq_true e1) (cw_put1_map ad lv _ .null) kk
    · cases hp
  · split at hp
    · rename_i e1; cases hp; exact lv_astore hx hb hd hl (Nat.le_of_ble_eq_true e1) (cw_put1_map ad lv _ (.ref _)) kk
    · cases hp
  · split at hp
    · rename_i k' n' _ _ x' e1 e2
      cases hp
      have hm : (k', Value.int x') ∈ cw_L ad lv := List.mem_map.mpr ⟨(k', .int x'), cw_look_mem e2, rfl⟩
      obtain ⟨j, hj⟩ := List.mem_iff_getElem?.mp hm
      exact lv_iinc hx hb hd hl hj (by rw [show Int32.ofInt n' = cw_n n' by simpa [cw_lit] using hlit]) (Nat.le_of_ble_eq_true e1) (cw_put1_map ad lv _ (.int _)) kk
    · cases hp
  · split at hp
    · cases hp; exact lv_iadd hx hb hd (kk _ hl)
    · cases hp
  · split at hp
    · cases hp; exact lv_isub hx hb hd (kk _ hl)
    · cases hp
  · split at hp
    · cases hp; exact lv_imul hx hb hd (kk _ hl)
    · cases hp
  · split at hp
    · cases hp; exact lv_iand hx hb hd (kk _ hl)
    · cases hp
  · split at hp
    · cases hp; exact lv_ior hx hb hd (kk _ hl)
    · cases hp
  · split at hp
    · cases hp; exact lv_ixor hx hb hd (kk _ hl)
    · cases hp
  · split at hp
    · cases hp; exact lv_ishl hx hb hd (kk _ hl)
    · cases hp
  · split at hp
    · cases hp; exact lv_ishr hx hb hd (kk _ hl)
    · cases hp
  · split at hp
    · cases hp; exact lv_iushr hx hb hd rfl (kk _ hl)
    · cases hp
  · split at hp
    · cases hp; exact lv_land hx hb hd (kk _ hl)
    · cases hp
  · split at hp
    · cases hp; exact lv_lor hx hb hd (kk _ hl)
    · cases hp
  · split at hp
    · cases hp; exact lv_lshl hx hb hd rfl (kk _ hl)
    · cases hp
  · split at hp
    · cases hp; exact lv_lushr hx hb hd rfl (kk _ hl)
    · cases hp
  · split at hp
    · cases hp; exact W.lcmp hx hb hd (kk _ hl)
    · cases hp
  · split at hp
    · cases hp; exact lv_i2l hx hb hd rfl (kk _ hl)
    · cases hp
  · split at hp
    · cases hp; exact lv_l2i hx hb hd rfl (kk _ hl)
    · cases hp
  · split at hp
    · cases hp; exact lv_i2c hx hb hd rfl (kk _ hl)
    · cases hp
  · split at hp
    · split at hp
      · rename_i e1; cases hp; exact lv_dup hx hb hd (by rw [cw_cat]; exact Nat.eq_of_beq_eq_true e1) (kk _ hl)
      · cases hp
    · cases hp
  · split at hp
    · split at hp
      · rename_i e1; cases hp; exact lv_pop hx hb hd (by rw [cw_cat]; exact Nat.eq_of_beq_eq_true e1) (kk _ hl)
      · cases hp
    · cases hp
  · split at hp
    · split at hp
      · rename_i e1 e2 e3; cases hp; exact lv_dup_x2 hx hb hd (by rw [cw_cat]; exact Nat.eq_of_beq_eq_true e1) (by rw [cw_cat]; exact Nat.eq_of_beq_eq_true e2) (by rw [cw_cat]; exact Nat.eq_of_beq_eq_true e3) (kk _ hl)
      · cases hp
    · cases hp
  · split at hp
    · split at hp
      · rename_i e1 e2; cases hp; exact lv_dup2_11 hx hb hd (by rw [cw_cat]; exact Nat.eq_of_beq_eq_true e1) (by rw [cw_cat]; exact Nat.eq_of_beq_eq_true e2) (kk _ hl)
      · cases hp
    · cases hp
  · cases hp
end CWP
end
section
/-! contracts over the abstract heap, and the steps that touch heap, branches and calls -/
def cw_Q (D : va_G) (cA : Nat → ClassId) (ad : Nat → Nat) (h : cw_H) (r : Option Value) (h' : cw_H) (A : Nat → Prop) : Array Value → State → Outcome → State → Prop := fun _ st oc t => (∃ ad' : Nat → Nat, (∀ k, k < h.length ∨ h'.length ≤ k → ad' k = ad k) ∧ oc = .returned (r.map (cw_v ad')) ∧ va_P D vwCl (cw_w cA ad' h') t.heap ∧ va_D A (cw_w cA ad' h')) ∧ va_F A st t
/-- the contract of one call: from the arguments av and the heap h the method answers r, and the heap is h' -/
def cw_M (l : Launch) (i : cw_I) (mc ms : Nat) (av : List Value) (h : cw_H) (r : Option Value) (h' : cw_H) : Prop :=
  ∀ (D : va_G) (cA : Nat → ClassId) (ad : Nat → Nat) (sz : Nat), Met l i.1 (Cond.code i.1 (cw_b i) (cw_nL i) (cw_r i) :: cw_T) ({ frames := cw_f i, cells := mc, slots := ms, locals := 35 * cw_f i }) (va_Pc (av.map (cw_v ad)) (fun U => U.heap.size = sz ∧ va_P D vwCl (cw_w cA ad h) U.heap ∧ cw_K D cA U ∧ va_D (fun _ => True) (cw_w cA ad h))) (cw_Q D cA ad h r h' (va_A (cw_w cA ad h) sz)) mc ms (va_A (cw_w cA ad h) sz)
def cw_tgt (pc : Nat) (off : Int) (K : Nat → Prop) : Prop := match (pc : Int) + off with
  | .ofNat t => K t
  | .negSucc _ => False
theorem cw_tgt_of {pc : Nat} {off : Int} {K : Nat → Prop} (h : cw_tgt pc off K) : ∃ t : Nat, (pc : Int) + off = (t : Int) ∧ K t := by
  unfold cw_tgt at h
  split at h
  · rename_i t e; exact ⟨t, e, h⟩
  · exact h.elim
def cw_if (cd : ClassFile.Cond) (x y : Int32) : Prop := match cd with
  | .eq => x = y
  | .ne => ¬ x = y
  | .lt => x < y
  | .ge => y ≤ x
  | .gt => y < x
  | .le => x ≤ y
/-- may a value be put into a field of the class ci, slot sl? -/
def cw_fits (ci sl : Nat) (v : Value) : Bool := match cw_ty ci sl, v with
  | .int, .int _ => true
  | .object _, .ref _ => true
  | .array _, .ref _ => true
  | _, _ => false
theorem cw_fits_ok {ci sl : Nat} {v : Value} (h : cw_fits ci sl v = true) (ad : Nat → Nat) : narrow (cw_ty ci sl) (cw_v ad v) = cw_v ad v ∧ fits (cw_ty ci sl) (cw_v ad v) = true := by
  unfold cw_fits at h
  split at h
  · rename_i e; rw [e]; exact ⟨vp_nar_int _, rfl⟩
  · rename_i e; rw [e]; exact ⟨rfl, rfl⟩
  · rename_i e; rw [e]; exact ⟨rfl, rfl⟩
  · cases h
/-- one step; K: it goes on; Kb behind a branch, Kj behind a row's place or a switch, Kc behind a call -/
def cw_stp (l : Launch) (c fr : Nat) (nL : Nat) (ini : Bool) (i : ClassFile.Instr) (n : Nat) (d : Bool) (j : Nat) (cr : Option Value × cw_H) (pc : Nat) (lv : cw_LV) (st : List Value) (h : cw_H) (K Kb Kj Kc : Nat → cw_LV → List Value → cw_H → Prop) : Prop := match i with
  | .getfield idx => match n, st with
    | 3, .ref a :: r => match cw_look (cw_flds c) idx, h[a]? with
      | some (_, ci, sl), some (.inr (ci', fs)) => match Nat.beq ci' ci, fs[sl]? with
        | true, some v => K (pc + 3) lv (v :: r) h
        | _, _ => False
      | _, _ => False
    | _, _ => False
  | .putfield idx => match n, st with
    | 3, v :: .ref a :: r => match cw_look (cw_flds c) idx, h[a]? with
      | some (nest, ci, sl), some (.inr (ci', fs)) => match Nat.beq ci' ci, cw_fits ci sl v, Nat.blt sl fs.length, (cw_FT ci sl).2.2.2, ini, Nat.beq nest 0, Nat.beq c ci with
        | true, true, true, false, _, _, _ => K (pc + 3) lv r (h.set a (.inr (ci, fs.set sl v)))
        | true, true, true, true, true, true, true => K (pc + 3) lv r (h.set a (.inr (ci, fs.set sl v)))
        | _, _, _, _, _, _, _ => False
      | _, _ => False
    | _, _ => False
  | .arraylength => match n, st with
    | 1, .ref a :: r => match h[a]? with
      | some (.inl (k, x)) => match Nat.blt k 3 with
        | true => K (pc + 1) lv (.int (nI x.1) :: r) h
        | false => False
      | _ => False
    | _, _ => False
  | .iaload => match n, st with
    | 1, .int x :: .ref a :: r => match h[a]? with
      | some (.inl (0, sz, .inl f)) => match Nat.ble sz 65536 with
        | true => x = nI j ∧ j < sz ∧ Kj (pc + 1) lv (.int (f j) :: r) h
        | false => False
      | _ => False
    | _, _ => False
  | .caload => match n, st with
    | 1, .int x :: .ref a :: r => match h[a]? with
      | some (.inl (1, sz, .inl f)) => match Nat.ble sz 65536 with
        | true => x = nI j ∧ j < sz ∧ Kj (pc + 1) lv (.int (f j) :: r) h
        | false => False
      | _ => False
    | _, _ => False
  | .aaload => match n, st with
    | 1, .int x :: .ref a :: r => match h[a]? with
      | some (.inl (2, sz, .inr (.inr (.inr (.inr f))))) => match Nat.ble sz 65536 with
        | true => x = nI j ∧ j < sz ∧ Kj (pc + 1) lv (va_rf (f j) :: r) h
        | false => False
      | _ => False
    | _, _ => False
  | .iastore => match n, st with
    | 1, .int y :: .int x :: .ref a :: r => match h[a]? with
      | some (.inl (0, sz, .inl f)) => match Nat.ble sz 65536 with
        | true => x = nI j ∧ j < sz ∧ Kj (pc + 1) lv r (h.set a (.inl (0, sz, .inl (upd f j y))))
        | false => False
      | _ => False
    | _, _ => False
  | .castore => match n, st with
    | 1, .int y :: .int x :: .ref a :: r => match h[a]? with
      | some (.inl (1, sz, .inl f)) => match Nat.ble sz 65536 with
        | true => x = nI j ∧ j < sz ∧ Kj (pc + 1) lv r (h.set a (.inl (1, sz, .inl (upd f j (vp_nar .char y)))))
        | false => False
      | _ => False
    | _, _ => False
  | .aastore => match n, st with
    | 1, .ref q :: .int x :: .ref a :: r => match h[a]?, h[q]? with
      | some (.inl (2, sz, .inr (.inr (.inr (.inr f))))), some (.inr (1, _)) => match Nat.ble sz 65536 with
        | true => x = nI j ∧ j < sz ∧ Kj (pc + 1) lv r (h.set a (.inl (2, sz, .inr (.inr (.inr (.inr (va_up f j (some q))))))))
        | false => False
      | _, _ => False
    | _, _ => False
  | .irem => match n, st with
    | 1, .int y :: .int x :: r => ¬ y = 0 ∧ K (pc + 1) lv (.int (x - x / y * y) :: r) h
    | _, _ => False
  | .ifCond cd off => match n, st with
    | 3, .int x :: r => match d with
      | true => cw_if cd x 0 ∧ cw_tgt pc off (fun t => Kb t lv r h)
      | false => ¬ cw_if cd x 0 ∧ cw_tgt pc off (fun _ => Kb (pc + 3) lv r h)
    | _, _ => False
  | .if_icmp cd off => match n, st with
    | 3, .int y :: .int x :: r => match d with
      | true => cw_if cd x y ∧ cw_tgt pc off (fun t => Kb t lv r h)
      | false => ¬ cw_if cd x y ∧ cw_tgt pc off (fun _ => Kb (pc + 3) lv r h)
    | _, _ => False
  | .goto off => match n with
    | 3 => cw_tgt pc off (fun t => K t lv st h)
    | _ => False
  | .ifnonnull off => match n, st with
    | 3, .ref _ :: r => cw_tgt pc off (fun t => K t lv r h)
    | 3, .null :: r => K (pc + 3) lv r h
    | _, _ => False
  | .tableswitch dflt lo hi offs => match st with
    | .int x :: r => match offs[j]? with
      | some off => x.toInt = lo + (j : Int) ∧ ¬ hi < x.toInt ∧ cw_tgt pc off (fun t => Kj t lv r h)
      | none => (x.toInt < lo ∨ hi < x.toInt) ∧ cw_tgt pc dflt (fun t => Kj t lv r h)
    | _ => False
  | .lookupswitch dflt ps => match st with
    | .int x :: r => (ps.toList.zip (ps.toList.drop 1)).all (fun (a, next) => a.1 < next.1) = true ∧ match ps[j]? with
      | some q => Op.lookupswitch.offset ps.toList dflt x.toInt = q.2 ∧ cw_tgt pc q.2 (fun t => Kj t lv r h)
      | none => Op.lookupswitch.offset ps.toList dflt x.toInt = dflt ∧ cw_tgt pc dflt (fun t => Kj t lv r h)
    | _ => False
  | .invokestatic idx => match n, cw_look (cw_cls c) idx with
    | 3, some (8, _) => match st with
      | .int y :: .int x :: r => match Nat.ble ((r.map fun v => v.category).sum) 8 with
        | true => K (pc + 3) lv (.int (if x < y then y else x) :: r) h
        | false => False
      | _ => False
    | 3, some (7, _) => match st with
      | .int z :: .int y :: .ref b :: .int x :: .ref a :: r => match h[a]?, h[b]?, Nat.ble ((r.map fun v => v.category).sum) 8 with
        | some (.inl (0, n0, .inl f)), some (.inl (0, n1, .inl g)), true => x = nI 0 ∧ y = nI 0 ∧ z = nI j ∧ j ≤ n0 ∧ j ≤ n1 ∧ j < 65536 ∧ Kj (pc + 3) lv r (h.set b (.inl (0, n1, .inl (va_cpy f g 0 0 j))))
        | _, _, _ => False
      | _ => False
    | 3, some (kd, ic) => match Nat.beq kd 1 || Nat.beq kd 4, Nat.ble (cw_na ic) st.length, Nat.blt (cw_f ic) fr, Nat.ble (((st.drop (cw_na ic)).map fun v => v.category).sum) 8 with
      | true, true, true, true => cw_M l ic 0 0 (st.take (cw_na ic)).reverse h cr.1 cr.2 ∧ cr.2.length ≤ h.length ∧ Kc (pc + 3) lv (cr.1.toList ++ st.drop (cw_na ic)) cr.2
      | _, _, _, _ => False
    | _, _ => False
  | .invokevirtual idx => match n, cw_look (cw_cls c) idx with
    | 3, some (kd, ic) => match st.drop (cw_na ic) with
      | .ref a :: r => match h[a]? with
        | some (.inr (ci, _)) => match Nat.beq kd 0 || Nat.beq kd 3, Nat.ble (cw_na ic) st.length, Nat.blt (cw_f ic) fr, Nat.ble ((r.map fun v => v.category).sum) 8, Nat.beq ci (cw_c ic), Nat.blt ci 3 with
          | true, true, true, true, true, true => cw_M l ic 0 0 (.ref a :: (st.take (cw_na ic)).reverse) h cr.1 cr.2 ∧ cr.2.length ≤ h.length ∧ Kc (pc + 3) lv (cr.1.toList ++ r) cr.2
          | _, _, _, _, _, _ => False
        | _ => False
      | _ => False
    | _, _ => False
  | .invokespecial idx => match n, cw_look (cw_cls c) idx, st with
    | 3, some (6, _), .ref _ :: r => match Nat.ble ((r.map fun v => v.category).sum) 8 with
      | true => K (pc + 3) lv r h
      | false => False
    | _, _, _ => False
  | i => match cw_pure c nL i lv st with
    | some (n', lv', st') => match Nat.beq n' n with
      | true => K (pc + n) lv' st' h
      | false => False
    | none => False
end
section
/-! what the abstract machine does, the machine does -/
def cw_X (i : cw_I) (p : Program) (R : Room) (s : State) (m : MethodId) (args : Array Value) (meth : Method) (c : Code) (D : va_G) (cA : Nat → ClassId) : Prop :=
  p.tables.exec = Jvm.exec ∧ c.code = cw_b i ∧ c.maxLocals = cw_nL i ∧ s.vm.findClass (cw_own (cw_c i)) = some m.cls ∧ (∀ w ∈ cw_T, w.before args s = true) ∧ cw_K D cA s ∧ (1 ≤ cw_f i ∧ cw_f i ≤ R.frames) ∧ 35 * cw_f i ≤ R.locals ∧ (i.1.name = "<init>" → meth.name = "<init>") ∧ meth.sig.returnType = cw_r i ∧ meth.locks = false
def cw_G (p : Program) (l : Launch) (e : Env) (R : Room) (s : State) (m : MethodId) (args : Array Value) (below : List Frame) (meth : Method) (c : Code) (D : va_G) (cA : Nat → ClassId) (A : Nat → Prop) (keep : Nat → Prop) (ad0 : Nat → Nat) (Q : State → Prop) (nL kc ks pc : Nat) (lv : cw_LV) (st : List Value) (h : cw_H) : Prop :=
  ∀ (ad : Nat → Nat) (H : Heap) (locs : List Loc) (ls : Array Slot), (∀ k, keep k → ad k = ad0 k) → va_P D vwCl (cw_w cA ad h) H → va_D A (cw_w cA ad h) → va_S A s.heap H locs → lv_has ls nL (cw_L ad lv) → W p l e R s m args below meth c H locs kc ks Q (F0 m pc ls (st.map (cw_v ad)))
theorem cw_good2 {i : cw_I} (h : cw_okI i) : GoodIn cw_T (Cond.code i.1 (cw_b i) (cw_nL i) (cw_r i) :: cw_T) := fun w hw => (List.mem_cons.mp hw).elim (fun q => q ▸ cw_TT _ h.2.2.1) (cw_TT w)
section CWS
variable {p : Program} {l : Launch} {e : Env} {R : Room} {s : State} {m : MethodId} {args : Array Value} {below : List Frame} {meth : Method} {c : Code} {D : va_G} {cA : Nat → ClassId} {A : Nat → Prop} {keep : Nat → Prop} {ad0 : Nat → Nat} {Q : State → Prop}
theorem cw_callG {H : Heap} {locs : List Loc} {cells slots mc ms pc : Nat} {ls : Array Slot} {st0 rest : List Value} {ad : Nat → Nat} {h h' : cw_H} {r : Option Value} {A0 A1 : Nat → Prop} {a : Array Value} {free : Addr → Prop}
    (hr : va_Run p l e R s m args below meth c H locs cells slots mc ms (F0 m pc ls st0) rest (cw_Q D cA ad h r h' A1 a) free) (hS : va_S A0 s.heap H locs) (hA : ∀ q, q < H.size → A1 q → A0 q) (hf : ∀ q, free q → A0 q)
    (kk : ∀ (ad' : Nat → Nat) (H1 : Heap) (locs1 : List Loc), (∀ k, k < h.length ∨ h'.length ≤ k → ad' k = ad k) → va_P D vwCl (cw_w cA ad' h') H1 → va_D A1 (cw_w cA ad' h') → H.size ≤ H1.size → (∀ q : Nat, q < H.size → ¬ A1 q → H1[q]? = H[q]?) → va_S A0 s.heap H1 locs1 → W p l e R s m args below meth c H1 locs1 (cells + mc) (slots + ms) Q (F0 m (pc + 3) ls ((r.map (cw_v ad')).toList ++ rest))) : W p l e R s m args below meth c H locs cells slots Q (F0 m pc ls st0) := by
  intro T hT X
  obtain ⟨v, st₀, t, T', L, h0, X', hL, e1, e2, ⟨⟨ad', hv, hq, hp, hb⟩, hz, hk⟩, st⟩ := hr T hT X
  cases hq
  rw [h0] at hz hk
  obtain ⟨t2, a1, b1⟩ := kk ad' T'.heap (locs ++ L) hv (by rw [e1]; exact hp) hb (by rw [e1]; exact hz) (fun q h1 h2 => by rw [e1]; exact hk q h1 h2)
    ⟨Nat.le_trans hS.1 (by rw [e1]; exact hz), fun q h1 h2 => by rw [e1, hk q (Nat.lt_of_lt_of_le h1 hS.1) (fun z => h2 (hA q (Nat.lt_of_lt_of_le h1 hS.1) z))]; exact hS.2.1 q h1 h2, fun q hq => by
      rcases List.mem_append.mp hq with h | h
      · exact hS.2.2 q h
      · exact hf _ (hL q h)⟩ T' rfl X'
  exact ⟨t2, st t2 a1, b1⟩
theorem cw_pre {i : cw_I} {ad : Nat → Nat} {h : cw_H} {H : Heap} {av : List Value} (hK : cw_K D cA s) (hP : va_P D vwCl (cw_w cA ad h) H) (hD : va_D A (cw_w cA ad h)) :
    FrameBlind (va_Pc (av.map (cw_v ad)) (fun U => U.heap.size = H.size ∧ va_P D vwCl (cw_w cA ad h) U.heap ∧ cw_K D cA U ∧ va_D (fun _ => True) (cw_w cA ad h))) ∧ ∀ U : State, U.heap = H → s.WarmedH U.vm → va_Pc (av.map (cw_v ad)) (fun U => U.heap.size = H.size ∧ va_P D vwCl (cw_w cA ad h) U.heap ∧ cw_K D cA U ∧ va_D (fun _ => True) (cw_w cA ad h)) (av.map (cw_v ad)).toArray U :=
  ⟨fun a U g mk q => ⟨q.1, q.2.1, q.2.2.1, q.2.2.2.1.calling g mk a, q.2.2.2.2⟩, fun U hU hW => ⟨rfl, by rw [hU], by rw [hU]; exact hP, hK.warm hW, hD.weaken (fun _ _ _ _ => trivial)⟩⟩
theorem cw_A1 {ad : Nat → Nat} {h : cw_H} {H : Heap} {locs : List Loc} (hD : va_D A (cw_w cA ad h)) (hS : va_S A s.heap H locs) (hAs : ∀ q, s.heap.size ≤ q → A q) : ∀ q, va_A (cw_w cA ad h) H.size q → A q := by
  intro q hq
  rcases hq with ⟨k, x, hx⟩ | hq
  · exact hD.2 k _ hx
  · exact hAs q (Nat.le_trans hS.1 hq)
/-- a call on the heap as it is, that makes nothing: of a static method -/
theorem cw_callS {ii ic : cw_I} {idx kd pc : Nat} {ad : Nat → Nat} {h h' : cw_H} {r : Option Value} {st : List Value} {H : Heap} {locs : List Loc} {kc ks : Nat} {ls : Array Slot}
    (hX : cw_X ii p R s m args meth c D cA) (hk : kc ≤ R.cells ∧ ks ≤ R.slots) (hAs : ∀ q, s.heap.size ≤ q → A q) (hd : decode (cw_b ii) pc = .ok (.invokestatic idx, 3)) (hlk : cw_okC (cw_c ii) idx kd ic) (hkd : kd = 1 ∨ kd = 4) (hn : cw_na ic ≤ st.length) (hf : cw_f ic < cw_f ii) (hW : ((st.drop (cw_na ic)).map fun v => v.category).sum ≤ 8) (hlen : h'.length ≤ h.length)
    (hM : cw_M l ic 0 0 (st.take (cw_na ic)).reverse h r h') (hP : va_P D vwCl (cw_w cA ad h) H) (hD : va_D A (cw_w cA ad h)) (hS : va_S A s.heap H locs) (hls : ls.size = cw_nL ii)
    (kk : ∀ (H1 : Heap) (locs1 : List Loc), va_P D vwCl (cw_w cA ad h') H1 → va_D A (cw_w cA ad h') → va_S A s.heap H1 locs1 → W p l e R s m args below meth c H1 locs1 kc ks Q (F0 m (pc + 3) ls ((r.toList ++ st.drop (cw_na ic)).map (cw_v ad)))) : W p l e R s m args below meth c H locs kc ks Q (F0 m pc ls (st.map (cw_v ad))) := by
  obtain ⟨hx, hb, hml, hown, hts, hK, hfr, hlo, -⟩ := hX
  have hA1 := cw_A1 hD hS hAs
  have hkk : ∀ (ad' : Nat → Nat) (H1 : Heap) (locs1 : List Loc), (∀ k, k < h.length ∨ h'.length ≤ k → ad' k = ad k) → va_P D vwCl (cw_w cA ad' h') H1 → va_D (va_A (cw_w cA ad h) H.size) (cw_w cA ad' h') → H.size ≤ H1.size → (∀ q : Nat, q < H.size → ¬ va_A (cw_w cA ad h) H.size q → H1[q]? = H[q]?) → va_S A s.heap H1 locs1 → W p l e R s m args below meth c H1 locs1 (kc + 0) (ks + 0) Q (F0 m (pc + 3) ls ((r.map (cw_v ad')).toList ++ (st.drop (cw_na ic)).map (cw_v ad))) := by
    intro ad' H1 locs1 e1 hP1 hD1 _ _ hS1
    have e2 : ad' = ad := funext fun k => e1 k (by omega)
    subst e2
    have := kk H1 locs1 hP1 (hD1.weaken (fun _ _ _ h => hA1 _ h)) hS1
    rw [List.map_append] at this
    cases r <;> exact this
  have hst : st.map (cw_v ad) = (((st.take (cw_na ic)).reverse.map (cw_v ad))).reverse ++ (st.drop (cw_na ic)).map (cw_v ad) := by
    rw [List.map_reverse, List.reverse_reverse, ← List.map_append, List.take_append_drop]
  have hWW : 2 * (F0 m pc ls (st.map (cw_v ad))).monitorRoom + (((st.drop (cw_na ic)).map (cw_v ad)).map fun v => v.category).sum ≤ 8 := lv_room (by rw [cw_cats]; exact hW)
  have hln : ((st.take (cw_na ic)).reverse.map (cw_v ad)).length = cw_na ic := by simp; omega
  have hR : cw_f ic + 1 ≤ R.frames ∧ 8 + (cw_nL ic + 11) + 35 * cw_f ic ≤ R.locals ∨ ¬ cw_nL ic ≤ 16 := by
    by_cases h15 : cw_nL ic ≤ 16
    · left; constructor <;> omega
    · right; exact h15
  rcases hkd with rfl | rfl
  · have hlk' : Cond.methodLink (cw_own (cw_c ii)) idx ic.1 ∈ cw_T ∧ Cond.static ic.1 ∈ cw_T ∧ cw_okI ic := by
      rcases hlk with ⟨h, _⟩ | ⟨_, h⟩ | ⟨h, _⟩ | ⟨h, _⟩ | ⟨h, _⟩ | ⟨h, _⟩ | ⟨h, _⟩ | ⟨h, _⟩ | ⟨h, _⟩ <;> first | exact h | exact absurd h (by decide)
    obtain ⟨h1, h2, h3⟩ := hlk'
    have h3' := h3
    obtain ⟨-, -, k3, k4, k5, k6, k7, k8, k9, k10⟩ := h3
    have hR2 := hR.resolve_right (fun q => q k10)
    refine cw_callG (va_runS (As := (st.take (cw_na ic)).reverse.map (cw_v ad)) ⟨hx, hb, hml, hown, hts⟩ (hM D cA ad H.size) (n := cw_na ic) ⟨⟨rfl, rfl, hR2.1, hR2.2, pay_in hts (cw_good2 h3'), List.mem_cons_self, hts _ k3, hts _ k4, ⟨k7, k8⟩, fun sig hsig => ?_, hts _ h1⟩, hts _ h2⟩ (cw_pre (i := ic) hK hP hD) rfl hln hls hst hWW hd ⟨hk.1, hk.2⟩) hS (fun q _ h => hA1 q h) hA1 hkk
    rw [hsig] at k9; exact (Option.some.inj k9).symm
  · have hlk' : (∃ host, Cond.methodLinkNest (cw_own (cw_c ii)) idx ic.1 host ∈ cw_N) ∧ Cond.static ic.1 ∈ cw_T ∧ cw_okI ic := by
      rcases hlk with ⟨h, _⟩ | ⟨h, _⟩ | ⟨h, _⟩ | ⟨h, _⟩ | ⟨_, h⟩ | ⟨h, _⟩ | ⟨h, _⟩ | ⟨h, _⟩ | ⟨h, _⟩ <;> first | exact h | exact absurd h (by decide)
    obtain ⟨⟨host, h1⟩, h2, h3⟩ := hlk'
    have h3' := h3
    obtain ⟨-, -, k3, k4, k5, k6, k7, k8, k9, k10⟩ := h3
    have hR2 := hR.resolve_right (fun q => q k10)
    refine cw_callG (va_runSN (As := (st.take (cw_na ic)).reverse.map (cw_v ad)) ⟨hx, hb, hml, hown, hts⟩ (hM D cA ad H.size) (n := cw_na ic) (host := host) ⟨⟨⟨rfl, rfl, hR2.1, hR2.2, pay_in hts (cw_good2 h3'), List.mem_cons_self⟩, hts _ k3, hts _ k4, ⟨k7, k8⟩, fun sig hsig => ?_, va_Nw.use rfl (hK.2.2 _ h1)⟩, hts _ h2, trivial⟩ (cw_pre (i := ic) hK hP hD) rfl hln hls hst hWW hd ⟨hk.1, hk.2⟩) hS (fun q _ h => hA1 q h) hA1 hkk
    rw [hsig] at k9; exact (Option.some.inj k9).symm
/-- the same of an instance method -/
theorem cw_callV {ii ic : cw_I} {idx kd pc a ci : Nat} {fs : List Value} {ad : Nat → Nat} {h h' : cw_H} {r : Option Value} {st rs : List Value} {H : Heap} {locs : List Loc} {kc ks : Nat} {ls : Array Slot}
    (hX : cw_X ii p R s m args meth c D cA) (hk : kc ≤ R.cells ∧ ks ≤ R.slots) (hAs : ∀ q, s.heap.size ≤ q → A q) (hd : decode (cw_b ii) pc = .ok (.invokevirtual idx, 3)) (hlk : cw_okC (cw_c ii) idx kd ic) (hkd : kd = 0 ∨ kd = 3) (hn : cw_na ic ≤ st.length) (hf : cw_f ic < cw_f ii) (hdr : st.drop (cw_na ic) = .ref a :: rs) (hW : (rs.map fun v => v.category).sum ≤ 8) (hlen : h'.length ≤ h.length) (hcell : h[a]? = some (.inr (ci, fs))) (hci : ci = cw_c ic) (hci4 : ci < 3)
    (hM : cw_M l ic 0 0 (.ref a :: (st.take (cw_na ic)).reverse) h r h') (hP : va_P D vwCl (cw_w cA ad h) H) (hD : va_D A (cw_w cA ad h)) (hS : va_S A s.heap H locs) (hls : ls.size = cw_nL ii)
    (kk : ∀ (H1 : Heap) (locs1 : List Loc), va_P D vwCl (cw_w cA ad h') H1 → va_D A (cw_w cA ad h') → va_S A s.heap H1 locs1 → W p l e R s m args below meth c H1 locs1 kc ks Q (F0 m (pc + 3) ls ((r.toList ++ rs).map (cw_v ad)))) : W p l e R s m args below meth c H locs kc ks Q (F0 m pc ls (st.map (cw_v ad))) := by
  subst hci
  obtain ⟨hx, hb, hml, hown, hts, hK, hfr, hlo, -⟩ := hX
  have hA1 := cw_A1 hD hS hAs
  have hkk : ∀ (ad' : Nat → Nat) (H1 : Heap) (locs1 : List Loc), (∀ k, k < h.length ∨ h'.length ≤ k → ad' k = ad k) → va_P D vwCl (cw_w cA ad' h') H1 → va_D (va_A (cw_w cA ad h) H.size) (cw_w cA ad' h') → H.size ≤ H1.size → (∀ q : Nat, q < H.size → ¬ va_A (cw_w cA ad h) H.size q → H1[q]? = H[q]?) → va_S A s.heap H1 locs1 → W p l e R s m args below meth c H1 locs1 (kc + 0) (ks + 0) Q (F0 m (pc + 3) ls ((r.map (cw_v ad')).toList ++ rs.map (cw_v ad))) := by
    intro ad' H1 locs1 e1 hP1 hD1 _ _ hS1
    have e2 : ad' = ad := funext fun k => e1 k (by omega)
    subst e2
    have := kk H1 locs1 hP1 (hD1.weaken (fun _ _ _ h => hA1 _ h)) hS1
    rw [List.map_append] at this
    cases r <;> exact this
  have hst : st.map (cw_v ad) = (((st.take (cw_na ic)).reverse.map (cw_v ad))).reverse ++ .ref (ad a) :: rs.map (cw_v ad) := by
    have e0 : st.map (cw_v ad) = (st.take (cw_na ic)).map (cw_v ad) ++ (st.drop (cw_na ic)).map (cw_v ad) := by rw [← List.map_append, List.take_append_drop]
    rw [e0, hdr, List.map_reverse, List.reverse_reverse]
    rfl
  have hWW : 2 * (F0 m pc ls (st.map (cw_v ad))).monitorRoom + ((rs.map (cw_v ad)).map fun v => v.category).sum ≤ 8 := lv_room (by rw [cw_cats]; exact hW)
  have hln : ((st.take (cw_na ic)).reverse.map (cw_v ad)).length = cw_na ic := by simp; omega
  have hR : cw_f ic + 1 ≤ R.frames ∧ 8 + (cw_nL ic + 11) + 35 * cw_f ic ≤ R.locals ∨ ¬ cw_nL ic ≤ 16 := by
    by_cases h15 : cw_nL ic ≤ 16
    · left; constructor <;> omega
    · right; exact h15
  have hpre := cw_pre (i := ic) (av := .ref a :: (st.take (cw_na ic)).reverse) hK hP hD
  have hrecv := va_recv (ci := cw_c ic) (q0 := a) hK.1 hP (cw_cl (cw_c ic) hci4) (cw_w_get hcell)
  rcases hkd with rfl | rfl
  · have hlk' : Cond.methodLink (cw_own (cw_c ii)) idx ic.1 ∈ cw_T ∧ Cond.instanceMethod ic.1 ∈ cw_T ∧ Cond.selects ic.1.cls ic.1 ic.1 ∈ cw_T ∧ cw_okI ic := by
      rcases hlk with ⟨_, h⟩ | ⟨h, _⟩ | ⟨h, _⟩ | ⟨h, _⟩ | ⟨h, _⟩ | ⟨h, _⟩ | ⟨h, _⟩ | ⟨h, _⟩ | ⟨h, _⟩ <;> first | exact h | exact absurd h (by decide)
    obtain ⟨h1, h2, h2s, h3⟩ := hlk'
    have h3' := h3
    obtain ⟨-, -, k3, k4, k5, k6, k7, k8, k9, k10⟩ := h3
    have hR2 := hR.resolve_right (fun q => q k10)
    rw [k5] at h2s
    refine cw_callG (va_runV (C := cw_own (cw_c ic)) (b := ad a) (As := (st.take (cw_na ic)).reverse.map (cw_v ad)) ⟨hx, hb, hml, hown, hts⟩ (hM D cA ad H.size) (n := cw_na ic) ⟨⟨rfl, rfl, hR2.1, hR2.2, pay_in hts (cw_good2 h3'), List.mem_cons_self, hts _ k3, hts _ k4, ⟨k7, k8⟩, fun sig hsig => ?_, hts _ h1⟩, hts _ h2, hts _ h2s⟩ ⟨hpre.1, hrecv, hpre.2⟩ rfl hln hls hst hWW hd ⟨hk.1, hk.2⟩) hS (fun q _ h => hA1 q h) hA1 hkk
    rw [hsig] at k9; exact (Option.some.inj k9).symm
  · have hlk' : (∃ host, Cond.methodLinkNest (cw_own (cw_c ii)) idx ic.1 host ∈ cw_N) ∧ Cond.instanceMethod ic.1 ∈ cw_T ∧ Cond.selects ic.1.cls ic.1 ic.1 ∈ cw_T ∧ cw_okI ic := by
      rcases hlk with ⟨h, _⟩ | ⟨h, _⟩ | ⟨h, _⟩ | ⟨_, h⟩ | ⟨h, _⟩ | ⟨h, _⟩ | ⟨h, _⟩ | ⟨h, _⟩ | ⟨h, _⟩ <;> first | exact h | exact absurd h (by decide)
    obtain ⟨⟨host, h1⟩, h2, h2s, h3⟩ := hlk'
    have h3' := h3
    obtain ⟨-, -, k3, k4, k5, k6, k7, k8, k9, k10⟩ := h3
    have hR2 := hR.resolve_right (fun q => q k10)
    rw [k5] at h2s
    refine cw_callG (va_runVN (C := cw_own (cw_c ic)) (b := ad a) (As := (st.take (cw_na ic)).reverse.map (cw_v ad)) ⟨hx, hb, hml, hown, hts⟩ (hM D cA ad H.size) (n := cw_na ic) (host := host) ⟨⟨⟨rfl, rfl, hR2.1, hR2.2, pay_in hts (cw_good2 h3'), List.mem_cons_self⟩, hts _ k3, hts _ k4, ⟨k7, k8⟩, fun sig hsig => ?_, va_Nw.use rfl (hK.2.2 _ h1)⟩, hts _ h2, hts _ h2s⟩ ⟨hpre.1, hrecv, hpre.2⟩ rfl hln hls hst hWW hd ⟨hk.1, hk.2⟩) hS (fun q _ h => hA1 q h) hA1 hkk
    rw [hsig] at k9; exact (Option.some.inj k9).symm
end CWS
end
section
/-! one step of the abstract machine is a step of the machine -/
theorem cw_rf (ad : Nat → Nat) (x : Option Nat) : va_rf (x.map ad) = cw_v ad (va_rf x) := by cases x <;> rfl
section CWT
variable {p : Program} {l : Launch} {e : Env} {R : Room} {s : State} {m : MethodId} {args : Array Value} {below : List Frame} {meth : Method} {c : Code} {D : va_G} {cA : Nat → ClassId} {A : Nat → Prop} {keep : Nat → Prop} {ad0 : Nat → Nat} {Q : State → Prop} {kc ks : Nat}
set_option maxHeartbeats 4000000 in
theorem cw_stp_ok {ii : cw_I} {ins : ClassFile.Instr} {n j pc : Nat} {d ini : Bool} (hini : ini = true → meth.name = "<init>") {cr : Option Value × cw_H} {lv : cw_LV} {st : List Value} {h : cw_H} {K Kb Kj Kc : Nat → cw_LV → List Value → cw_H → Prop}
    (hX : cw_X ii p R s m args meth c D cA) (hk : kc ≤ R.cells ∧ ks ≤ R.slots) (hAs : ∀ q, s.heap.size ≤ q → A q) (hd : decode (cw_b ii) pc = .ok (ins, n)) (hlit : cw_lit ins = true)
    (hK : ∀ pc lv st h, K pc lv st h → cw_G p l e R s m args below meth c D cA A keep ad0 Q (cw_nL ii) kc ks pc lv st h)
    (hKb : ∀ pc lv st h, Kb pc lv st h → cw_G p l e R s m args below meth c D cA A keep ad0 Q (cw_nL ii) kc ks pc lv st h)
    (hKj : ∀ pc lv st h, Kj pc lv st h → cw_G p l e R s m args below meth c D cA A keep ad0 Q (cw_nL ii) kc ks pc lv st h)
    (hKc : ∀ pc lv st h, Kc pc lv st h → cw_G p l e R s m args below meth c D cA A keep ad0 Q (cw_nL ii) kc ks pc lv st h)
    (hs : cw_stp l (cw_c ii) (cw_f ii) (cw_nL ii) ini ins n d j cr pc lv st h K Kb Kj Kc) : cw_G p l e R s m args below meth c D cA A keep ad0 Q (cw_nL ii) kc ks pc lv st h := by
  intro ad H locs ls hkp hP hD hS hl
  have hX0 := hX
  obtain ⟨hx, hb, hml, hown, hts, hKs, hfr, hlo, hnm, hret, hlocks⟩ := hX
  have hls : ls.size = cw_nL ii := hl.1
  unfold cw_stp at hs
  split at hs
  -- getfield
  · split at hs
    · split at hs
      · rename_i nest ci sl ci' fs e1 e2
        split at hs
        · rename_i v e3 e4
          cases Nat.eq_of_beq_eq_true e3
          obtain ⟨h4, hsl, hdc, hlk⟩ := cw_fok _ _ (cw_look_mem e1)
          dsimp only at h4 hsl hdc hlk
          have hv : (fs.map (cw_v ad))[sl]? = some (cw_v ad v) := by rw [List.getElem?_map, e4]; rfl
          rcases hlk with ⟨_, hlk⟩ | ⟨_, host, hlk⟩
          · exact va_get (ref := cw_own ci) hx hb hts (cw_in_u ci h4) hown hKs.1 hP _ (cw_w_get e2) (cw_cl ci h4) sl hsl (hts _ hlk) (fun x hx9 => by rw [hdc] at hx9; exact hx9) hv hd (hK _ _ _ _ hs ad H locs ls hkp hP hD hS hl)
          · exact va_getN (ref := cw_own ci) (host := host) hx hb hts (cw_in_u ci h4) hown hKs.1 hP _ (cw_w_get e2) (cw_cl ci h4) sl hsl (va_Nw.use rfl (hKs.2.2 _ hlk)) (fun x hx9 => by rw [hdc] at hx9; exact hx9) hv hd (hK _ _ _ _ hs ad H locs ls hkp hP hD hS hl)
        · exact hs.elim
      · exact hs.elim
    · exact hs.elim
  -- putfield
  · split at hs
    · split at hs
      · rename_i v a r _ _ nest ci sl ci' fs e1 e2
        obtain ⟨h4, hsl, hdc, hlk⟩ := cw_fok _ _ (cw_look_mem e1)
        dsimp only at h4 hsl hdc hlk
        have hset : (cw_w cA ad h).set a (ad a, .inr (ci, (fs.map (cw_v ad)).set sl (cw_v ad v))) = cw_w cA ad (h.set a (.inr (ci, fs.set sl v))) := by
          rw [cw_w_set]
          show _ = (cw_w cA ad h).set a (ad a, .inr (ci, (fs.set sl v).map (cw_v ad)))
          rw [List.map_set]
        split at hs
        · rename_i e3 e4 e5 e6
          cases Nat.eq_of_beq_eq_true e3
          have hfit := cw_fits_ok e4 ad
          have hlen : sl < (fs.map (cw_v ad)).length := by rw [List.length_map]; exact Nat.le_of_ble_eq_true e5
          have kk : ∀ (H1 : Heap) (locs1 : List Loc), va_P D vwCl ((cw_w cA ad h).set a (ad a, .inr (ci, (fs.map (cw_v ad)).set sl (cw_v ad v)))) H1 → va_D A ((cw_w cA ad h).set a (ad a, .inr (ci, (fs.map (cw_v ad)).set sl (cw_v ad v)))) → va_S A s.heap H1 locs1 → W p l e R s m args below meth c H1 locs1 kc ks Q (F0 m (pc + 3) ls (r.map (cw_v ad))) := by
            intro H1 locs1 hP1 hD1 hS1
            rw [hset] at hP1 hD1
            exact hK _ _ _ _ hs ad H1 locs1 ls hkp hP1 hD1 hS1 hl
          rcases hlk with ⟨_, hlk⟩ | ⟨_, host, hlk⟩
          · exact va_put (ref := cw_own ci) hx hb hts (cw_in_u ci h4) (cw_ty ci) (cw_tyok ci h4) (cw_nm ci h4) hown hKs.1 hP hD hS a (cw_w_get e2) (cw_cl ci h4) sl hsl (hts _ hlk) (fun x hx9 => by rw [hdc] at hx9; exact hx9) e6 (cw_tyok ci h4 sl hsl) hfit.1 hfit.2 hlen hd kk
          · exact va_putN (ref := cw_own ci) (host := host) hx hb hts (cw_in_u ci h4) (cw_ty ci) (cw_tyok ci h4) (cw_nm ci h4) hown hKs.1 hP hD hS a (cw_w_get e2) (cw_cl ci h4) sl hsl (va_Nw.use rfl (hKs.2.2 _ hlk)) (fun x hx9 => by rw [hdc] at hx9; exact hx9) e6 (cw_tyok ci h4 sl hsl) hfit.1 hfit.2 hlen hd kk
        · rename_i e3 e4 e5 e6 e7 e8 e9
          cases Nat.eq_of_beq_eq_true e3
          have hfit := cw_fits_ok e4 ad
          have hlen : sl < (fs.map (cw_v ad)).length := by rw [List.length_map]; exact Nat.le_of_ble_eq_true e5
          have kk : ∀ (H1 : Heap) (locs1 : List Loc), va_P D vwCl ((cw_w cA ad h).set a (ad a, .inr (ci, (fs.map (cw_v ad)).set sl (cw_v ad v)))) H1 → va_D A ((cw_w cA ad h).set a (ad a, .inr (ci, (fs.map (cw_v ad)).set sl (cw_v ad v)))) → va_S A s.heap H1 locs1 → W p l e R s m args below meth c H1 locs1 kc ks Q (F0 m (pc + 3) ls (r.map (cw_v ad))) := by
            intro H1 locs1 hP1 hD1 hS1
            rw [hset] at hP1 hD1
            exact hK _ _ _ _ hs ad H1 locs1 ls hkp hP1 hD1 hS1 hl
          have hnest : nest = 0 := Nat.eq_of_beq_eq_true e8
          have hcc : cw_c ii = ci := Nat.eq_of_beq_eq_true e9
          rcases hlk with ⟨_, hlk⟩ | ⟨h0, _⟩
          · exact va_putF (ref := cw_own ci) hx hb hts (cw_in_u ci h4) (cw_ty ci) (cw_tyok ci h4) (cw_nm ci h4) hown hKs.1 hP hD hS a (cw_w_get e2) (cw_cl ci h4) sl hsl (hts _ hlk) (fun x hx9 => by rw [hdc] at hx9; exact hx9) e6 (hini e7) (by rw [hdc, hcc]) (cw_tyok ci h4 sl hsl) hfit.1 hfit.2 hlen hd kk
          · exact absurd (hnest.symm.trans h0) (by decide)
        · exact hs.elim
      · exact hs.elim
    · exact hs.elim
  -- arraylength
  · split at hs
    · split at hs
      · rename_i k x e1
        split at hs
        · rename_i e2
          have hk3 : k < 3 := Nat.le_of_ble_eq_true e2
          have hv : Int32.ofNat (cw_a ad x).1 = nI x.1 := by
            unfold cw_a; split <;> rfl
          have kk := hK _ _ _ _ hs ad H locs ls hkp hP hD hS hl
          match k, hk3, e1 with
          | 0, _, e1 => exact va_alen hx hb hKs.1 hP _ 0 (cw_w_get e1) (ty := .int) rfl hv hd kk
          | 1, _, e1 => exact va_alen hx hb hKs.1 hP _ 1 (cw_w_get e1) (ty := .char) rfl hv hd kk
          | 2, _, e1 => exact va_alen hx hb hKs.1 hP _ 2 (cw_w_get e1) (ty := .object RX1) rfl hv hd kk
        · exact hs.elim
      · exact hs.elim
    · exact hs.elim
  -- iaload
  · split at hs
    · split at hs
      · rename_i sz f e1
        split at hs
        · rename_i e2
          have h6 : sz ≤ 65536 := Nat.le_of_ble_eq_true e2
          obtain ⟨rfl, hj, hs⟩ := hs
          refine va_iald hx hb hKs.1 hP _ 0 (cw_w_get e1) rfl (vp_in_nI hj (by omega)) hd ?_
          rw [nI_clamp (by omega)]
          exact hKj _ _ _ _ hs ad H locs ls hkp hP hD hS hl
        · exact hs.elim
      · exact hs.elim
    · exact hs.elim
  -- caload
  · split at hs
    · split at hs
      · rename_i sz f e1
        split at hs
        · rename_i e2
          have h6 : sz ≤ 65536 := Nat.le_of_ble_eq_true e2
          obtain ⟨rfl, hj, hs⟩ := hs
          refine va_cald hx hb hKs.1 hP _ 1 (cw_w_get e1) rfl (vp_in_nI hj (by omega)) hd ?_
          rw [nI_clamp (by omega)]
          exact hKj _ _ _ _ hs ad H locs ls hkp hP hD hS hl
        · exact hs.elim
      · exact hs.elim
    · exact hs.elim
  -- aaload
  · split at hs
    · split at hs
      · rename_i sz f e1
        split at hs
        · rename_i e2
          have h6 : sz ≤ 65536 := Nat.le_of_ble_eq_true e2
          obtain ⟨rfl, hj, hs⟩ := hs
          refine va_aldq (C := RX1) (f := fun j => (f j).map ad) hx hb hKs.1 hP _ 2 (cw_w_get e1) rfl (vp_in_nI hj (by omega)) hd ?_
          rw [nI_clamp (by omega), cw_rf]
          exact hKj _ _ _ _ hs ad H locs ls hkp hP hD hS hl
        · exact hs.elim
      · exact hs.elim
    · exact hs.elim
  -- iastore
  · split at hs
    · split at hs
      · rename_i sz f e1
        split at hs
        · rename_i e2
          have h6 : sz ≤ 65536 := Nat.le_of_ble_eq_true e2
          obtain ⟨rfl, hj, hs⟩ := hs
          refine va_iast hx hb hKs.1 hP hD hS _ 0 (cw_w_get e1) rfl (vp_in_nI hj (by omega)) hd (fun H1 locs1 hP1 hD1 hS1 => ?_)
          rw [nI_clamp (by omega)] at hP1 hD1
          exact hKj _ _ _ _ hs ad H1 locs1 ls hkp (by rw [cw_w_set]; exact hP1) (by rw [cw_w_set]; exact hD1) hS1 hl
        · exact hs.elim
      · exact hs.elim
    · exact hs.elim
  -- castore
  · split at hs
    · split at hs
      · rename_i sz f e1
        split at hs
        · rename_i e2
          have h6 : sz ≤ 65536 := Nat.le_of_ble_eq_true e2
          obtain ⟨rfl, hj, hs⟩ := hs
          refine va_cast hx hb hKs.1 hP hD hS _ 1 (cw_w_get e1) rfl (vp_in_nI hj (by omega)) hd (fun H1 locs1 hP1 hD1 hS1 => ?_)
          rw [nI_clamp (by omega)] at hP1 hD1
          exact hKj _ _ _ _ hs ad H1 locs1 ls hkp (by rw [cw_w_set]; exact hP1) (by rw [cw_w_set]; exact hD1) hS1 hl
        · exact hs.elim
      · exact hs.elim
    · exact hs.elim
  -- aastore
  · split at hs
    · split at hs
      · rename_i q x a r _ _ sz f fs e1 e3
        split at hs
        · rename_i e2
          have h6 : sz ≤ 65536 := Nat.le_of_ble_eq_true e2
          obtain ⟨rfl, hj, hs⟩ := hs
          refine va_astq (ci := 1) (r := (RX1, TX1, 14)) (f := fun j => (f j).map ad) hx hb hKs.1 hP hD hS _ 2 q (cw_w_get e1) rfl (cw_w_get e3) rfl (vp_in_nI hj (by omega)) hd (fun H1 locs1 hP1 hD1 hS1 => ?_)
          rw [nI_clamp (by omega)] at hP1 hD1
          have hup : (va_up (fun j => (f j).map ad) j (some (ad q))) = fun i => (va_up f j (some q) i).map ad := by
            funext i
            unfold va_up
            by_cases hi : i = j
            · rw [if_pos hi, if_pos hi]; rfl
            · rw [if_neg hi, if_neg hi]
          rw [hup] at hP1 hD1
          exact hKj _ _ _ _ hs ad H1 locs1 ls hkp (by rw [cw_w_set]; exact hP1) (by rw [cw_w_set]; exact hD1) hS1 hl
        · exact hs.elim
      · exact hs.elim
    · exact hs.elim
  -- irem
  · split at hs
    · exact lv_irem hx hb hd hs.1 (hK _ _ _ _ hs.2 ad H locs ls hkp hP hD hS hl)
    · exact hs.elim
  -- ifCond
  · rename_i cd off
    split at hs
    · split at hs
      · obtain ⟨h1, h2⟩ := hs
        obtain ⟨t, ht, h3⟩ := cw_tgt_of h2
        have kk := hKb _ _ _ _ h3 ad H locs ls hkp hP hD hS hl
        cases cd
        · exact lv_if_eq hx hb hd ht (fun _ => kk) (fun q => absurd h1 q)
        · exact lv_if_ne hx hb hd ht (fun _ => kk) (fun q => absurd q h1)
        · exact lv_if_lt hx hb hd ht (fun _ => kk) (fun q => absurd h1 q)
        · exact lv_if_ge hx hb hd ht (fun _ => kk) (fun q => absurd h1 q)
        · exact lv_if_gt hx hb hd ht (fun _ => kk) (fun q => absurd h1 q)
        · exact lv_if_le hx hb hd ht (fun _ => kk) (fun q => absurd h1 q)
      · obtain ⟨h1, h2⟩ := hs
        obtain ⟨t, ht, h3⟩ := cw_tgt_of h2
        have kk := hKb _ _ _ _ h3 ad H locs ls hkp hP hD hS hl
        cases cd
        · exact lv_if_eq hx hb hd ht (fun q => absurd q h1) (fun _ => kk)
        · exact lv_if_ne hx hb hd ht (fun q => absurd q h1) (fun _ => kk)
        · exact lv_if_lt hx hb hd ht (fun q => absurd q h1) (fun _ => kk)
        · exact lv_if_ge hx hb hd ht (fun q => absurd q h1) (fun _ => kk)
        · exact lv_if_gt hx hb hd ht (fun q => absurd q h1) (fun _ => kk)
        · exact lv_if_le hx hb hd ht (fun q => absurd q h1) (fun _ => kk)
    · exact hs.elim
  -- if_icmp
  · rename_i cd off
    split at hs
    · split at hs
      · obtain ⟨h1, h2⟩ := hs
        obtain ⟨t, ht, h3⟩ := cw_tgt_of h2
        have kk := hKb _ _ _ _ h3 ad H locs ls hkp hP hD hS hl
        cases cd
        · exact lv_icmp_eq hx hb hd ht (fun _ => kk) (fun q => absurd h1 q)
        · exact lv_icmp_ne hx hb hd ht (fun _ => kk) (fun q => absurd q h1)
        · exact lv_icmp_lt hx hb hd ht (fun _ => kk) (fun q => absurd h1 q)
        · exact lv_icmp_ge hx hb hd ht (fun _ => kk) (fun q => absurd h1 q)
        · exact lv_icmp_gt hx hb hd ht (fun _ => kk) (fun q => absurd h1 q)
        · exact lv_icmp_le hx hb hd ht (fun _ => kk) (fun q => absurd h1 q)
      · obtain ⟨h1, h2⟩ := hs
        obtain ⟨t, ht, h3⟩ := cw_tgt_of h2
        have kk := hKb _ _ _ _ h3 ad H locs ls hkp hP hD hS hl
        cases cd
        · exact lv_icmp_eq hx hb hd ht (fun q => absurd q h1) (fun _ => kk)
        · exact lv_icmp_ne hx hb hd ht (fun q => absurd q h1) (fun _ => kk)
        · exact lv_icmp_lt hx hb hd ht (fun q => absurd q h1) (fun _ => kk)
        · exact lv_icmp_ge hx hb hd ht (fun q => absurd q h1) (fun _ => kk)
        · exact lv_icmp_gt hx hb hd ht (fun q => absurd q h1) (fun _ => kk)
        · exact lv_icmp_le hx hb hd ht (fun q => absurd q h1) (fun _ => kk)
    · exact hs.elim
  -- goto
  · split at hs
    · obtain ⟨t, ht, h3⟩ := cw_tgt_of hs
      exact lv_goto hx hb hd ht (hK _ _ _ _ h3 ad H locs ls hkp hP hD hS hl)
    · exact hs.elim
  -- ifnonnull
  · split at hs
    · obtain ⟨t, ht, h3⟩ := cw_tgt_of hs
      exact lv_ifnonnull hx hb hd ht (hK _ _ _ _ h3 ad H locs ls hkp hP hD hS hl)
    · exact lv_ifnonnullN hx hb hd (hK _ _ _ _ hs ad H locs ls hkp hP hD hS hl)
    · exact hs.elim
  -- tableswitch
  · rename_i dflt lo hi offs
    split at hs
    · rename_i x r
      split at hs
      · rename_i off e1
        obtain ⟨h1, h2, h3⟩ := hs
        obtain ⟨t, ht, h4⟩ := cw_tgt_of h3
        exact lv_tableIn hx hb hd (by omega) h2 (by rw [show (x.toInt - lo).toNat = j by omega]; exact e1) ht (hKj _ _ _ _ h4 ad H locs ls hkp hP hD hS hl)
      · obtain ⟨h1, h3⟩ := hs
        obtain ⟨t, ht, h4⟩ := cw_tgt_of h3
        exact lv_tableOut hx hb hd h1 ht (hKj _ _ _ _ h4 ad H locs ls hkp hP hD hS hl)
    · exact hs.elim
  -- lookupswitch
  · rename_i dflt ps
    split at hs
    · rename_i x r
      obtain ⟨hp, hs⟩ := hs
      split at hs
      · rename_i q e1
        obtain ⟨h1, h3⟩ := hs
        obtain ⟨t, ht, h4⟩ := cw_tgt_of h3
        exact lv_lookup hx hb hd hp h1 ht (hKj _ _ _ _ h4 ad H locs ls hkp hP hD hS hl)
      · obtain ⟨h1, h3⟩ := hs
        obtain ⟨t, ht, h4⟩ := cw_tgt_of h3
        exact lv_lookup hx hb hd hp h1 ht (hKj _ _ _ _ h4 ad H locs ls hkp hP hD hS hl)
    · exact hs.elim
  -- invokestatic
  · rename_i idx
    split at hs
    · rename_i _ _ ic e1
      have hlk := cw_clok _ _ (cw_look_mem e1)
      dsimp only at hlk
      split at hs
      · rename_i y x r
        split at hs
        · rename_i e2
          have h8 : (r.map fun v => v.category).sum ≤ 8 := Nat.le_of_ble_eq_true e2
          have hlk' : Cond.methodLink (cw_own (cw_c ii)) idx Lib.Math.max.name ∈ cw_T := by
            rcases hlk with ⟨h, _⟩ | ⟨h, _⟩ | ⟨h, _⟩ | ⟨h, _⟩ | ⟨h, _⟩ | ⟨h, _⟩ | ⟨h, _⟩ | ⟨h, _⟩ | ⟨_, h⟩ <;> first | exact h | exact absurd h (by decide)
          exact va_mmax hx hb (by rw [hml, hls]) hown (hts _ hlk') (hts _ cw_g_ms) (hts _ cw_g_math) (hts _ cw_g_mc) (by omega) (by rw [cw_cats]; omega) hk.1 hk.2 hd (hK _ _ _ _ hs ad H locs ls hkp hP hD hS hl)
        · exact hs.elim
      · exact hs.elim
    · rename_i _ _ ic e1
      have hlk := cw_clok _ _ (cw_look_mem e1)
      dsimp only at hlk
      split at hs
      · rename_i z y b x a r
        split at hs
        · rename_i n0 f n1 g e2 e3 e4
          have h8 : (r.map fun v => v.category).sum ≤ 8 := Nat.le_of_ble_eq_true e4
          have hlk' : Cond.methodLink (cw_own (cw_c ii)) idx arraycopyName ∈ cw_T := by
            rcases hlk with ⟨h, _⟩ | ⟨h, _⟩ | ⟨h, _⟩ | ⟨h, _⟩ | ⟨h, _⟩ | ⟨h, _⟩ | ⟨h, _⟩ | ⟨_, h⟩ | ⟨h, _⟩ <;> first | exact h | exact absurd h (by decide)
          obtain ⟨rfl, rfl, rfl, q1, q2, q3, hs⟩ := hs
          have hnw : nativeFrameWords "java/lang/System" "arraycopy" 5 ≤ 12 := by decide +kernel
          have c0 : (nI 0).toNatClampNeg = 0 := nI_clamp (by omega)
          have cj : (nI j).toNatClampNeg = j := nI_clamp (by omega)
          refine va_copyi hx hb (by rw [hml, hls]) hown (hts _ hlk') (hts _ cw_g_cpn) (hts _ cw_g_cps) (hts _ cw_g_sys) hKs.1 hP hD hS _ _ 0 0 (cw_w_get e2) (cw_w_get e3) rfl rfl rfl (nI_pos (by omega)) (nI_pos (by omega)) (nI_pos (by omega)) (by rw [c0, cj]; omega) (by rw [c0, cj]; omega) (fun i _ => rfl) (by omega) (by rw [cw_cats]; omega) hd (fun H1 locs1 hP1 hD1 hS1 => ?_)
          rw [c0, cj] at hP1 hD1
          exact hKj _ _ _ _ hs ad H1 locs1 ls hkp (by rw [cw_w_set]; exact hP1) (by rw [cw_w_set]; exact hD1) hS1 hl
        · exact hs.elim
      · exact hs.elim
    · rename_i _ _ kd ic _ _ e1
      have hlk := cw_clok _ _ (cw_look_mem e1)
      dsimp only at hlk
      split at hs
      · rename_i e2 e3 e4 e5
        have hkd : kd = 1 ∨ kd = 4 := by
          rcases Bool.or_eq_true _ _ ▸ e2 with h | h
          · exact Or.inl (Nat.eq_of_beq_eq_true h)
          · exact Or.inr (Nat.eq_of_beq_eq_true h)
        exact cw_callS hX0 hk hAs hd hlk hkd (Nat.le_of_ble_eq_true e3) (Nat.le_of_ble_eq_true e4) (Nat.le_of_ble_eq_true e5) hs.2.1 hs.1 hP hD hS hls (fun H1 locs1 hP1 hD1 hS1 => hKc _ _ _ _ hs.2.2 ad H1 locs1 ls hkp hP1 hD1 hS1 hl)
      · exact hs.elim
    · exact hs.elim
  -- invokevirtual
  · split at hs
    · rename_i _ _ kd ic e1
      have hlk := cw_clok _ _ (cw_look_mem e1)
      dsimp only at hlk
      split at hs
      · rename_i a r e0
        split at hs
        · rename_i ci fs e9
          split at hs
          · rename_i e2 e3 e4 e5 e7 e8
            have hkd : kd = 0 ∨ kd = 3 := by
              rcases Bool.or_eq_true _ _ ▸ e2 with h | h
              · exact Or.inl (Nat.eq_of_beq_eq_true h)
              · exact Or.inr (Nat.eq_of_beq_eq_true h)
            exact cw_callV hX0 hk hAs hd hlk hkd (Nat.le_of_ble_eq_true e3) (Nat.le_of_ble_eq_true e4) e0 (Nat.le_of_ble_eq_true e5) hs.2.1 e9 (Nat.eq_of_beq_eq_true e7) (Nat.le_of_ble_eq_true e8) hs.1 hP hD hS hls (fun H1 locs1 hP1 hD1 hS1 => hKc _ _ _ _ hs.2.2 ad H1 locs1 ls hkp hP1 hD1 hS1 hl)
          · exact hs.elim
        · exact hs.elim
      · exact hs.elim
    · exact hs.elim
  -- invokespecial
  · rename_i idx
    split at hs
    · rename_i _ _ _ ic a r e1
      have hlk := cw_clok _ _ (cw_look_mem e1)
      dsimp only at hlk
      split at hs
      · rename_i e2
        have h8 : (r.map fun v => v.category).sum ≤ 8 := Nat.le_of_ble_eq_true e2
        have hlk' : Cond.methodLink (cw_own (cw_c ii)) idx objectInit ∈ cw_T := by
          rcases hlk with ⟨h, _⟩ | ⟨h, _⟩ | ⟨h, _⟩ | ⟨h, _⟩ | ⟨h, _⟩ | ⟨h, _⟩ | ⟨_, h⟩ | ⟨h, _⟩ | ⟨h, _⟩ <;> first | exact h | exact absurd h (by decide)
        refine W.objInit hx hb hown (hts _ hlk') (hts _ cw_g_oi1) (hts _ cw_g_oi2) rfl (by rw [hml]; exact hls) rfl hd (by omega) (by rw [cw_cats]; show 2 * 0 + _ + 12 ≤ _; omega) ?_
        exact hK _ _ _ _ hs ad H locs ls hkp hP hD hS hl
      · exact hs.elim
    · exact hs.elim
  -- the others
  · split at hs
    · rename_i n' lv' st' e1
      split at hs
      · rename_i e2
        cases Nat.eq_of_beq_eq_true e2
        exact cw_pure_ok hx hb hts hown hd hlit e1 hl (fun ls' hl' => hK _ _ _ _ hs ad H locs ls' hkp hP hD hS hl')
      · exact hs.elim
    · exact hs.elim
end CWT
end
section
/-! runs, beginnings and ends of a method -/
def cw_go (l : Launch) (ii : cw_I) : Nat → List Bool → List Nat → List (Option Value × cw_H) → Nat → cw_LV → List Value → cw_H → (Nat → cw_LV → List Value → cw_H → Prop) → Prop
  | 0, _, _, _, pc, lv, st, h, K => K pc lv st h
  | n + 1, ds, js, cs, pc, lv, st, h, K => match cw_look (cw_tb ii) pc with
    | some (i, len) => cw_stp l (cw_c ii) (cw_f ii) (cw_nL ii) (decide (ii.1.name = "<init>")) i len (ds.headD false) (js.headD 0) (cs.headD (none, [])) pc lv st h
        (fun pc lv st h => cw_go l ii n ds js cs pc lv st h K) (fun pc lv st h => cw_go l ii n ds.tail js cs pc lv st h K) (fun pc lv st h => cw_go l ii n ds js.tail cs pc lv st h K) (fun pc lv st h => cw_go l ii n ds js cs.tail pc lv st h K)
    | none => False
section CWR
variable {p : Program} {l : Launch} {e : Env} {R : Room} {s : State} {m : MethodId} {args : Array Value} {below : List Frame} {meth : Method} {c : Code} {D : va_G} {cA : Nat → ClassId} {A : Nat → Prop} {keep : Nat → Prop} {ad0 : Nat → Nat} {Q : State → Prop} {kc ks : Nat}
theorem cw_go_ok {ii : cw_I} (hi : cw_okD ii) (hX : cw_X ii p R s m args meth c D cA) (hk : kc ≤ R.cells ∧ ks ≤ R.slots) (hAs : ∀ q, s.heap.size ≤ q → A q) {K : Nat → cw_LV → List Value → cw_H → Prop}
    (hK : ∀ pc lv st h, K pc lv st h → cw_G p l e R s m args below meth c D cA A keep ad0 Q (cw_nL ii) kc ks pc lv st h) :
    ∀ (n : Nat) (ds : List Bool) (js : List Nat) (cs : List (Option Value × cw_H)) (pc : Nat) (lv : cw_LV) (st : List Value) (h : cw_H), cw_go l ii n ds js cs pc lv st h K → cw_G p l e R s m args below meth c D cA A keep ad0 Q (cw_nL ii) kc ks pc lv st h := by
  intro n
  induction n with
  | zero => intro ds js cs pc lv st h hg; exact hK _ _ _ _ hg
  | succ n ih =>
    intro ds js cs pc lv st h hg
    unfold cw_go at hg
    split at hg
    · rename_i i len e1
      have hm := cw_look_mem e1
      exact cw_stp_ok (fun z => hX.2.2.2.2.2.2.2.2.1 (of_decide_eq_true z)) (K := fun pc lv st h => cw_go l ii n ds js cs pc lv st h K) (Kb := fun pc lv st h => cw_go l ii n ds.tail js cs pc lv st h K) (Kj := fun pc lv st h => cw_go l ii n ds js.tail cs pc lv st h K) (Kc := fun pc lv st h => cw_go l ii n ds js cs.tail pc lv st h K) hX hk hAs (hi.1 (pc, i, len) hm) (hi.2.1 (pc, i, len) hm) (fun pc lv st h q => ih ds js cs pc lv st h q) (fun pc lv st h q => ih ds.tail js cs pc lv st h q) (fun pc lv st h q => ih ds js.tail cs pc lv st h q) (fun pc lv st h q => ih ds js cs.tail pc lv st h q) hg
    · exact hg.elim
end CWR
/-- at a place of the method ii, that began on the heap h0, and is to answer r on the heap h1 -/
def cw_W (l : Launch) (ii : cw_I) (mc ms : Nat) (h0 : cw_H) (r : Option Value) (h1 : cw_H) (kc ks pc : Nat) (lv : cw_LV) (st : List Value) (h : cw_H) : Prop :=
  ∀ (p : Program) (e : Env) (R : Room) (s : State) (m : MethodId) (args : Array Value) (below : List Frame) (meth : Method) (c : Code) (D : va_G) (cA : Nat → ClassId) (ad0 : Nat → Nat), cw_X ii p R s m args meth c D cA → R.cells = mc → R.slots = ms →
    cw_G p l e R s m args below meth c D cA (va_A (cw_w cA ad0 h0) s.heap.size) (fun k => k < h0.length ∨ h1.length ≤ k) ad0 (MQ below (cw_Q D cA ad0 h0 r h1 (va_A (cw_w cA ad0 h0) s.heap.size)) args s mc ms (va_A (cw_w cA ad0 h0) s.heap.size)) (cw_nL ii) kc ks pc lv st h
theorem cw_run {l : Launch} {ii : cw_I} {mc ms : Nat} {h0 : cw_H} {r : Option Value} {h1 : cw_H} {kc ks pc : Nat} {lv : cw_LV} {st : List Value} {h : cw_H} (hi : cw_okD ii) (hk : kc ≤ mc ∧ ks ≤ ms) (n : Nat) (ds : List Bool) (js : List Nat) (cs : List (Option Value × cw_H))
    (hg : cw_go l ii n ds js cs pc lv st h (cw_W l ii mc ms h0 r h1 kc ks)) : cw_W l ii mc ms h0 r h1 kc ks pc lv st h := by
  intro p e R s m args below meth c D cA ad0 hX hR1 hR2
  subst hR1; subst hR2
  exact cw_go_ok hi hX hk (fun q hq => Or.inr hq) (fun pc lv st h q => q p e R s m args below meth c D cA ad0 hX rfl rfl) n ds js cs pc lv st h hg
theorem cw_args_L (ad : Nat → Nat) : ∀ (av : List Value) (i : Nat), lv_args i (av.map (cw_v ad)) = cw_L ad (lv_args i av)
  | [], _ => rfl
  | v :: vs, i => by
    simp only [List.map_cons, lv_args, cw_cat, cw_L]
    rw [cw_args_L ad vs]
    rfl
theorem cw_sl (ad : Nat → Nat) (av : List Value) : (lg_sl (av.map (cw_v ad))).length = (lg_sl av).length := by
  induction av with
  | nil => rfl
  | cons v vs ih =>
    simp only [lg_sl, List.map_cons, List.flatMap_cons, List.length_append, cw_cat] at ih ⊢
    rw [ih]
    by_cases h : v.category = 2 <;> simp [h]
theorem cw_enter {l : Launch} {ii : cw_I} {mc ms : Nat} {av : List Value} {h0 : cw_H} {r : Option Value} {h1 : cw_H} (hi : cw_okI ii) (hf : 1 ≤ cw_f ii) (hn : (lg_sl av).length ≤ cw_nL ii)
    (hW : cw_W l ii mc ms h0 r h1 0 0 0 (lv_args 0 av) [] h0) : cw_M l ii mc ms av h0 r h1 := by
  intro D cA ad sz
  refine Met.ofW (cc := cw_b ii) (maxL := cw_nL ii) (ret := cw_r ii) hi.2.2.2.2.2.1 rfl ?_
  intro p e s m args below meth c s₁ B hml hv
  obtain ⟨rfl, hsz, hP, hK, hD0⟩ := hv
  have hts0 := atoms_spec (ws := Cond.code ii.1 (cw_b ii) (cw_nL ii) (cw_r ii) :: cw_T) B.pre
  have hown : s.vm.findClass ii.1.cls = some m.cls := findClass_of_methodNamed B.named
  subst hsz
  have hl := lv_entry (av.map (cw_v ad)) (n := cw_nL ii) (by rw [cw_sl]; exact hn)
  rw [lg_entry_eq]
  rw [cw_args_L] at hl
  exact hW p e _ s m _ below meth c D cA ad ⟨B.exec, B.bytes, hml, by rw [← hi.2.2.2.2.1]; exact hown, fun w hw => hts0 w (List.mem_cons_of_mem _ hw), hK, ⟨hf, Nat.le_refl _⟩, Nat.le_refl _, (fun z => (name_of_methodNamed B.named B.method).1.trans z), B.returns, B.notSynchronized⟩ rfl rfl ad s.heap [] _ (fun _ _ => rfl) hP hD0.self va_S.rf hl
theorem cw_retv {l : Launch} {ii : cw_I} {mc ms : Nat} {h0 : cw_H} {h1 : cw_H} {kc ks pc : Nat} {lv : cw_LV} (hi : cw_okD ii) (hk : kc ≤ mc ∧ ks ≤ ms) (hd : cw_look (cw_tb ii) pc = some (.return_, 1)) (hr : cw_r ii = none) : cw_W l ii mc ms h0 none h1 kc ks pc lv [] h1 := by
  intro p e R s m args below meth c D cA ad0 hX hR1 hR2
  intro ad H locs ls hkp hP hD hS hl
  obtain ⟨hx, hb, hml, hown, hts, hKs, hfr, hlo, hnm, hret, hlocks⟩ := hX
  have hdg := hi.1 _ (cw_look_mem hd)
  refine W.widen hk.1 hk.2 ?_
  exact W.vret hx hb (hret.trans hr) (fun t ht hW => ⟨⟨ad, hkp, rfl, by rw [ht]; exact hP, hD⟩, hS.F ht⟩) hS.2.2 hdg hlocks
theorem cw_reti {l : Launch} {ii : cw_I} {mc ms : Nat} {h0 : cw_H} {h1 : cw_H} {v : Int32} {kc ks pc : Nat} {lv : cw_LV} (hi : cw_okD ii) (hk : kc ≤ mc ∧ ks ≤ ms) (hd : cw_look (cw_tb ii) pc = some (.ireturn, 1)) (hr : cw_r ii = some .int) : cw_W l ii mc ms h0 (some (.int v)) h1 kc ks pc lv [.int v] h1 := by
  intro p e R s m args below meth c D cA ad0 hX hR1 hR2
  intro ad H locs ls hkp hP hD hS hl
  obtain ⟨hx, hb, hml, hown, hts, hKs, hfr, hlo, hnm, hret, hlocks⟩ := hX
  have hdg := hi.1 _ (cw_look_mem hd)
  refine W.widen hk.1 hk.2 ?_
  exact W.iret hx hb (hret.trans hr) (fun t ht hW => ⟨⟨ad, hkp, rfl, by rw [ht]; exact hP, hD⟩, hS.F ht⟩) hS.2.2 hdg hlocks
theorem cw_retz {l : Launch} {ii : cw_I} {mc ms : Nat} {h0 : cw_H} {h1 : cw_H} {v : Int32} {kc ks pc : Nat} {lv : cw_LV} (hi : cw_okD ii) (hk : kc ≤ mc ∧ ks ≤ ms) (hd : cw_look (cw_tb ii) pc = some (.ireturn, 1)) (hr : cw_r ii = some .boolean) (hv : v = nI 0 ∨ v = nI 1) : cw_W l ii mc ms h0 (some (.int v)) h1 kc ks pc lv [.int v] h1 := by
  intro p e R s m args below meth c D cA ad0 hX hR1 hR2
  intro ad H locs ls hkp hP hD hS hl
  obtain ⟨hx, hb, hml, hown, hts, hKs, hfr, hlo, hnm, hret, hlocks⟩ := hX
  have hdg := hi.1 _ (cw_look_mem hd)
  refine W.widen hk.1 hk.2 ?_
  exact W.zret hx hb (hret.trans hr) (by rcases hv with rfl | rfl <;> decide +kernel) (fun t ht hW => ⟨⟨ad, hkp, rfl, by rw [ht]; exact hP, hD⟩, hS.F ht⟩) hS.2.2 hdg hlocks
theorem cw_z {mc ms : Nat} : 0 ≤ mc ∧ 0 ≤ ms := ⟨Nat.zero_le _, Nat.zero_le _⟩
/-- fewer locals, by their places -/
theorem cw_less {l : Launch} {ii : cw_I} {mc ms : Nat} {h0 : cw_H} {r : Option Value} {h1 : cw_H} {kc ks pc : Nat} {lv lv' : cw_LV} {st : List Value} {h : cw_H} (is : List Nat) (e : lv_pick lv is = lv') (k : cw_W l ii mc ms h0 r h1 kc ks pc lv' st h) : cw_W l ii mc ms h0 r h1 kc ks pc lv st h := by
  intro p e' R s m args below meth c D cA ad0 hX hR1 hR2 ad H locs ls hkp hP hD hS hl
  refine k p e' R s m args below meth c D cA ad0 hX hR1 hR2 ad H locs ls hkp hP hD hS (lv_sub hl is ?_)
  rw [← e]
  simp only [lv_pick, cw_L, List.getElem?_map, List.map_filterMap]
/-- another way to write what the method is to answer, or where it stands -/
theorem cw_eq {l : Launch} {ii : cw_I} {mc ms : Nat} {h0 : cw_H} {r r' : Option Value} {h1 h1' : cw_H} {kc ks pc : Nat} {lv lv' : cw_LV} {st st' : List Value} {h h' : cw_H} (er : r = r') (e1 : h1 = h1') (el : lv = lv') (es : st = st') (eh : h = h') (k : cw_W l ii mc ms h0 r' h1' kc ks pc lv' st' h') : cw_W l ii mc ms h0 r h1 kc ks pc lv st h := by
  subst er; subst e1; subst el; subst es; subst eh
  exact k
end
section
/-! a contract on a small heap holds on a larger one: the frame -/
def cw_re (io : Nat → Nat) (q : cw_E) : cw_E := match q with
  | .inl a => .inl (a.1, cw_a io a.2)
  | .inr o => .inr (o.1, o.2.map (cw_v io))
theorem cw_v_comp (ad io : Nat → Nat) (v : Value) : cw_v ad (cw_v io v) = cw_v (fun k => ad (io k)) v := by cases v <;> rfl
theorem cw_a_comp (ad io : Nat → Nat) (x : vp_A) : cw_a ad (cw_a io x) = cw_a (fun k => ad (io k)) x := by
  obtain ⟨n, f | f | f | f | f⟩ := x
  · rfl
  · rfl
  · rfl
  · rfl
  · show ((n, Sum.inr (Sum.inr (Sum.inr (Sum.inr (fun j => ((f j).map io).map ad))))) : vp_A) = (n, Sum.inr (Sum.inr (Sum.inr (Sum.inr (fun j => (f j).map (fun k => ad (io k)))))))
    congr 5
    funext j
    cases f j <;> rfl
theorem cw_e_comp (cA : Nat → ClassId) (ad io : Nat → Nat) (q : cw_E) : cw_e cA ad (cw_re io q) = cw_e cA (fun k => ad (io k)) q := by
  obtain a | o := q
  · show Sum.inl (cA a.1, cw_a ad (cw_a io a.2)) = Sum.inl (cA a.1, cw_a (fun k => ad (io k)) a.2)
    rw [cw_a_comp]
  · show Sum.inr (o.1, (o.2.map (cw_v io)).map (cw_v ad)) = Sum.inr (o.1, o.2.map (cw_v (fun k => ad (io k))))
    rw [List.map_map]
    congr 2
    apply List.map_congr_left
    intro v _
    exact cw_v_comp ad io v
theorem cw_M_mono {l : Launch} {y : MethodName} {ws : List Cond} {rm : Room} {Pc Pc' : Array Value → State → Prop} {Qc Qc' : Array Value → State → Outcome → State → Prop} {mc ms : Nat} {free free' : Addr → Prop}
    (h : Met l y ws rm Pc Qc mc ms free) (hP : ∀ a s, Pc' a s → Pc a s) (hQ : ∀ a s o t, Pc' a s → Qc a s o t → Qc' a s o t) (hf : ∀ q, free q → free' q) : Met l y ws rm Pc' Qc' mc ms free' := by
  intro p e ha hc hk s m args below hfr happ hp hK
  obtain ⟨n, o, h1, h2, h3, h4, L, h5, h6⟩ := h p e ha hc hk s m args below hfr happ (hP _ _ hp) hK
  exact ⟨n, o, h1, h2, h3, hQ _ _ _ _ hp h4, L, h5, fun q hq => hf _ (h6 q hq)⟩
theorem cw_w_len (cA : Nat → ClassId) (ad : Nat → Nat) (h : cw_H) : (cw_w cA ad h).length = h.length := by simp [cw_w]
theorem cw_lt {h : cw_H} {k : Nat} {q : cw_E} (e : h[k]? = some q) : k < h.length := (List.getElem?_eq_some_iff.mp e).1
theorem cw_frame0 {l : Launch} {i : cw_I} {mc ms : Nat} {av : List Value} {hc : cw_H} {r : Option Value} {hc' : cw_H} (hM : cw_M l i mc ms av hc r hc') (io : Nat → Nat) {h h' : cw_H}
    (hl : hc'.length = hc.length) (hL : h'.length = h.length) (hsub : ∀ k q, hc[k]? = some q → h[io k]? = some (cw_re io q)) (hinj : ∀ j k, j < hc.length → k < hc.length → io j = io k → j = k)
    (hnew : ∀ k q, hc'[k]? = some q → h'[io k]? = some (cw_re io q)) (hold : ∀ j, j < h.length → (∀ k, k < hc.length → io k ≠ j) → h'[j]? = h[j]?) : cw_M l i mc ms (av.map (cw_v io)) h (r.map (cw_v io)) h' := by
  intro D cA ad sz
  have hsm : ∀ (k : Nat) (x : Nat × va_E), (cw_w cA (fun k => ad (io k)) hc)[k]? = some x → (cw_w cA ad h)[io k]? = some x := by
    intro k x hx
    obtain ⟨q, h1, h2⟩ := cw_w_inv hx
    rw [cw_w_get (hsub k q h1), h2, cw_e_comp]
  have hA : ∀ q, va_A (cw_w cA (fun k => ad (io k)) hc) sz q → va_A (cw_w cA ad h) sz q := by
    intro q hq
    rcases hq with ⟨k, x, hx⟩ | hq
    · exact Or.inl ⟨io k, x, hsm k _ hx⟩
    · exact Or.inr hq
  refine cw_M_mono (hM D cA (fun k => ad (io k)) sz) ?_ ?_ hA
  · rintro a s ⟨ha, hs, hP, hK, hD⟩
    refine ⟨?_, hs, fun k x hx => hP (io k) x (hsm k x hx), hK, ⟨fun j k x y hx hy hxy => ?_, fun _ _ _ => trivial⟩⟩
    · rw [ha, List.map_map]
      congr 1
      apply List.map_congr_left
      intro v _
      exact cw_v_comp ad io v
    · obtain ⟨q1, g1, -⟩ := cw_w_inv hx
      obtain ⟨q2, g2, -⟩ := cw_w_inv hy
      exact hinj j k (cw_lt g1) (cw_lt g2) (hD.1 (io j) (io k) x y (hsm j x hx) (hsm k y hy) hxy)
  · rintro a s o t ⟨ha, hs, hP, hK, hD⟩ ⟨⟨ad', hk, ho, hP1, hD1⟩, hF⟩
    have e2 : ad' = fun k => ad (io k) := funext fun k => hk k (by omega)
    subst e2
    have hlt : ∀ (j : Nat) (x : Nat × va_E), (cw_w cA ad h')[j]? = some x → ∃ y : Nat × va_E, (cw_w cA ad h)[j]? = some y ∧ y.1 = x.1 := by
      intro j x hx
      obtain ⟨q, g1, g2⟩ := cw_w_inv hx
      have hj : j < h.length := by rw [← hL]; exact cw_lt g1
      exact ⟨_, cw_w_get (List.getElem?_eq_getElem hj), by rw [g2]⟩
    refine ⟨⟨ad, fun _ _ => rfl, ?_, ?_, ?_⟩, hF.1, fun q h1 h2 => hF.2 q h1 (fun z => h2 (hA q z))⟩
    · rw [ho]
      cases r with
      | none => rfl
      | some v => simp only [Option.map_some, cw_v_comp]
    · intro j x hx
      obtain ⟨q, g1, g2⟩ := cw_w_inv hx
      by_cases hex : ∃ k, k < hc.length ∧ io k = j
      · obtain ⟨k, hk2, rfl⟩ := hex
        have g3 : hc'[k]? = some (hc'[k]'(by omega)) := List.getElem?_eq_getElem (by omega)
        have g4 := hnew k _ g3
        rw [g1] at g4
        cases g4
        have g5 := hP1 k _ (cw_w_get g3)
        rw [g2, cw_e_comp]
        exact g5
      · have hj : j < h.length := by rw [← hL]; exact cw_lt g1
        have g3 := hold j hj (fun k hk2 e => hex ⟨k, hk2, e⟩)
        rw [g1] at g3
        have g4 := hP j _ (cw_w_get g3.symm)
        rw [g2]
        refine g4.kept (hF.2 _ g4.lt (fun z => ?_))
        rcases z with ⟨k, y, hy⟩ | z
        · obtain ⟨q2, g6, g7⟩ := cw_w_inv hy
          exact hex ⟨k, cw_lt g6, hD.1 (io k) j _ _ (hsm k _ hy) (cw_w_get g3.symm) rfl⟩
        · exact absurd g4.lt (by rw [hs]; exact Nat.not_lt.mpr z)
    · refine ⟨fun j k x y hx hy hxy => ?_, fun k x hx => ?_⟩
      · obtain ⟨x', hx', ex⟩ := hlt j x hx
        obtain ⟨y', hy', ey⟩ := hlt k y hy
        exact hD.1 j k x' y' hx' hy' (by rw [ex, ey, hxy])
      · obtain ⟨x', hx', ex⟩ := hlt k x hx
        exact Or.inl ⟨k, x'.2, by rw [← ex]; exact hx'⟩
/-- a value, a cell that speaks of places below n alone -/
def cw_wfv (n : Nat) (v : Value) : Prop := match v with
  | .ref k => k < n
  | _ => True
def cw_wfe (n : Nat) (q : cw_E) : Prop := match q with
  | .inl (_, (_, .inr (.inr (.inr (.inr f))))) => ∀ j k, f j = some k → k < n
  | .inl _ => True
  | .inr o => ∀ v ∈ o.2, cw_wfv n v
theorem cw_wfv_eq {n : Nat} {v : Value} (h : cw_wfv n v) {ad ad' : Nat → Nat} (e : ∀ k, k < n → ad' k = ad k) : cw_v ad' v = cw_v ad v := by
  cases v with
  | ref k => exact congrArg Value.ref (e k h)
  | _ => rfl
theorem cw_wfe_eq {n : Nat} {q : cw_E} (h : cw_wfe n q) {ad ad' : Nat → Nat} (e : ∀ k, k < n → ad' k = ad k) (cA : Nat → ClassId) : cw_e cA ad' q = cw_e cA ad q := by
  obtain ⟨a, n2, f | f | f | f | f⟩ | o := q
  · rfl
  · rfl
  · rfl
  · rfl
  · show (Sum.inl (cA a, n2, Sum.inr (Sum.inr (Sum.inr (Sum.inr (fun j => (f j).map ad'))))) : va_E) = Sum.inl (cA a, n2, Sum.inr (Sum.inr (Sum.inr (Sum.inr (fun j => (f j).map ad)))))
    have : (fun j => (f j).map ad') = fun j => (f j).map ad := by
      funext j
      cases hf : f j with
      | none => rfl
      | some k => exact congrArg some (e k (h j k hf))
    rw [this]
  · show (Sum.inr (o.1, o.2.map (cw_v ad')) : va_E) = Sum.inr (o.1, o.2.map (cw_v ad))
    congr 2
    apply List.map_congr_left
    intro v hv
    exact cw_wfv_eq (h v hv) e
/-- the same, where the method makes cells: they come behind the larger heap's -/
theorem cw_frameA {l : Launch} {i : cw_I} {mc ms : Nat} {av : List Value} {hc : cw_H} {r : Option Value} {hc' : cw_H} (hM : cw_M l i mc ms av hc r hc') (io : Nat → Nat) {h h' : cw_H}
    (hl : hc.length ≤ hc'.length) (hL : h'.length = h.length + (hc'.length - hc.length)) (hsub : ∀ k q, hc[k]? = some q → h[io k]? = some (cw_re io q)) (hinj : ∀ j k, j < hc.length → k < hc.length → io j = io k → j = k)
    (hio : ∀ k, hc.length ≤ k → k < hc'.length → io k = h.length + (k - hc.length))
    (hnew : ∀ k q, hc'[k]? = some q → h'[io k]? = some (cw_re io q)) (hold : ∀ j, j < h.length → (∀ k, k < hc.length → io k ≠ j) → h'[j]? = h[j]?)
    (hwc : ∀ q ∈ hc', cw_wfe hc'.length q) (hwh : ∀ q ∈ h, cw_wfe h.length q) (hwr : ∀ v, r = some v → cw_wfv hc'.length v) : cw_M l i mc ms (av.map (cw_v io)) h (r.map (cw_v io)) h' := by
  intro D cA ad sz
  have hsm : ∀ (k : Nat) (x : Nat × va_E), (cw_w cA (fun k => ad (io k)) hc)[k]? = some x → (cw_w cA ad h)[io k]? = some x := by
    intro k x hx
    obtain ⟨q, h1, h2⟩ := cw_w_inv hx
    rw [cw_w_get (hsub k q h1), h2, cw_e_comp]
  have hA : ∀ q, va_A (cw_w cA (fun k => ad (io k)) hc) sz q → va_A (cw_w cA ad h) sz q := by
    intro q hq
    rcases hq with ⟨k, x, hx⟩ | hq
    · exact Or.inl ⟨io k, x, hsm k _ hx⟩
    · exact Or.inr hq
  refine cw_M_mono (hM D cA (fun k => ad (io k)) sz) ?_ ?_ hA
  · rintro a s ⟨ha, hs, hP, hK, hD⟩
    refine ⟨?_, hs, fun k x hx => hP (io k) x (hsm k x hx), hK, ⟨fun j k x y hx hy hxy => ?_, fun _ _ _ => trivial⟩⟩
    · rw [ha, List.map_map]
      congr 1
      apply List.map_congr_left
      intro v _
      exact cw_v_comp ad io v
    · obtain ⟨q1, g1, -⟩ := cw_w_inv hx
      obtain ⟨q2, g2, -⟩ := cw_w_inv hy
      exact hinj j k (cw_lt g1) (cw_lt g2) (hD.1 (io j) (io k) x y (hsm j x hx) (hsm k y hy) hxy)
  · rintro a s o t ⟨ha, hs, hP, hK, hD⟩ ⟨⟨adc, hk, ho, hP1, hD1⟩, hF⟩
    -- the larger heap's addresses behind the call
    obtain ⟨ad', had⟩ : ∃ ad' : Nat → Nat, ad' = fun j => if h.length ≤ j ∧ j < h'.length then adc (hc.length + (j - h.length)) else ad j := ⟨_, rfl⟩
    have had1 : ∀ j, j < h.length ∨ h'.length ≤ j → ad' j = ad j := by
      intro j hj
      rw [had]
      exact if_neg (by omega)
    have iolt : ∀ k, k < hc.length → io k < h.length := fun k hk2 => cw_lt (hsub k _ (List.getElem?_eq_getElem hk2))
    have had2 : ∀ k, k < hc'.length → ad' (io k) = adc k := by
      intro k hk2
      by_cases c : k < hc.length
      · rw [had1 _ (Or.inl (iolt k c)), hk k (Or.inl c)]
      · rw [had, hio k (by omega) hk2]
        show (if h.length ≤ h.length + (k - hc.length) ∧ h.length + (k - hc.length) < h'.length then adc (hc.length + (h.length + (k - hc.length) - h.length)) else _) = _
        rw [if_pos (by omega), show hc.length + (h.length + (k - hc.length) - h.length) = k by omega]
    have ecell : ∀ q, cw_wfe hc'.length q → cw_e cA ad' (cw_re io q) = cw_e cA adc q := by
      intro q hq
      rw [cw_e_comp]
      exact cw_wfe_eq hq had2 cA
    -- a place of the new heap: an untouched one, or one of the callee's
    have hsplit : ∀ (j : Nat) (x : Nat × va_E), (cw_w cA ad' h')[j]? = some x → (∃ k, k < hc'.length ∧ io k = j ∧ (cw_w cA adc hc')[k]? = some x) ∨ (j < h.length ∧ (∀ k, k < hc.length → io k ≠ j) ∧ (cw_w cA ad h)[j]? = some x) := by
      intro j x hx
      obtain ⟨q, g1, g2⟩ := cw_w_inv hx
      by_cases hex : ∃ k, k < hc'.length ∧ io k = j
      · obtain ⟨k, hk2, rfl⟩ := hex
        left
        refine ⟨k, hk2, rfl, ?_⟩
        have g3 : hc'[k]? = some hc'[k] := List.getElem?_eq_getElem hk2
        have g4 := hnew k _ g3
        rw [g1] at g4
        cases g4
        rw [cw_w_get g3, g2, ecell _ (hwc _ (List.mem_of_getElem? g3)), had2 k hk2]
      · right
        have hj2 := cw_lt g1
        have hj : j < h.length := by
          rcases Nat.lt_or_ge j h.length with z | z
          · exact z
          · exact absurd ⟨hc.length + (j - h.length), by omega, by rw [hio _ (by omega) (by omega)]; omega⟩ hex
        have g3 := hold j hj (fun k hk2 e => hex ⟨k, by omega, e⟩)
        rw [g1] at g3
        refine ⟨hj, fun k hk2 e => hex ⟨k, by omega, e⟩, ?_⟩
        rw [cw_w_get g3.symm, g2, had1 j (Or.inl hj), cw_wfe_eq (hwh _ (List.mem_of_getElem? g3.symm)) (fun k hk2 => had1 k (Or.inl hk2)) cA]
    have hout : ∀ (j : Nat) (x : Nat × va_E), j < h.length → (∀ k, k < hc.length → io k ≠ j) → (cw_w cA ad h)[j]? = some x → x.1 < s.heap.size ∧ ¬ va_A (cw_w cA (fun k => ad (io k)) hc) sz x.1 := by
      intro j x hj hn hx
      have g4 := (hP j _ hx).lt
      refine ⟨g4, fun z => ?_⟩
      rcases z with ⟨k, y, hy⟩ | z
      · obtain ⟨q2, g6, -⟩ := cw_w_inv hy
        exact hn k (cw_lt g6) (hD.1 (io k) j _ _ (hsm k _ hy) hx rfl)
      · omega
    refine ⟨⟨ad', had1, ?_, ?_, ?_⟩, hF.1, fun q h1 h2 => hF.2 q h1 (fun z => h2 (hA q z))⟩
    · rw [ho]
      cases r with
      | none => rfl
      | some v =>
        simp only [Option.map_some, cw_v_comp]
        rw [cw_wfv_eq (hwr v rfl) had2]
    · intro j x hx
      rcases hsplit j x hx with ⟨k, hk2, rfl, g⟩ | ⟨hj, hn, g⟩
      · exact hP1 k x g
      · obtain ⟨q1, q2⟩ := hout j x hj hn g
        exact (hP j x g).kept (hF.2 _ q1 q2)
    · refine ⟨fun j k x y hx hy hxy => ?_, fun k x hx => ?_⟩
      · rcases hsplit j x hx with ⟨k1, hk1, rfl, g⟩ | ⟨hj, hn, g⟩
        · rcases hsplit k y hy with ⟨k2, hk2, rfl, g2⟩ | ⟨hj2, hn2, g2⟩
          · rw [hD1.1 k1 k2 x y g g2 hxy]
          · exact absurd (by rw [← hxy]; exact hD1.2 k1 x g) (hout k y hj2 hn2 g2).2
        · rcases hsplit k y hy with ⟨k2, hk2, rfl, g2⟩ | ⟨hj2, hn2, g2⟩
          · exact absurd (by rw [hxy]; exact hD1.2 k2 y g2) (hout j x hj hn g).2
          · exact hD.1 j k x y g g2 hxy
      · rcases hsplit k x hx with ⟨k1, hk1, rfl, g⟩ | ⟨hj, hn, g⟩
        · exact hA _ (hD1.2 k1 x g)
        · exact Or.inl ⟨k, x.2, g⟩
/-- .. where the small heap lies as a block of the larger one -/
theorem cw_lift {l : Launch} {i : cw_I} {mc ms : Nat} {av : List Value} {hc : cw_H} {r : Option Value} {hc' : cw_H} (hM : cw_M l i mc ms av hc r hc') (hl : hc'.length = hc.length) (A B : cw_H) {b : Nat} (hb : A.length = b) :
    cw_M l i mc ms (av.map (cw_v (fun k => b + k))) (A ++ hc.map (cw_re (fun k => b + k)) ++ B) (r.map (cw_v (fun k => b + k))) (A ++ hc'.map (cw_re (fun k => b + k)) ++ B) := by
  have hg : ∀ (X : cw_H) (k : Nat) (q : cw_E), X[k]? = some q → (A ++ X.map (cw_re (fun k => b + k)) ++ B)[b + k]? = some (cw_re (fun k => b + k) q) := by
    intro X k q e
    have := cw_lt e
    rw [List.append_assoc, List.getElem?_append_right (by omega), show b + k - A.length = k by omega, List.getElem?_append_left (by rw [List.length_map]; exact this), List.getElem?_map, e]
    rfl
  refine cw_frame0 hM (fun k => b + k) hl (by simp [hl]) (hg hc) (fun j k _ _ e => by simpa using e) (hg hc') (fun j hj hn => ?_)
  by_cases h1 : j < b
  · rw [List.append_assoc, List.append_assoc, List.getElem?_append_left (by omega), List.getElem?_append_left (by omega)]
  · have h2 : b + hc.length ≤ j := by
      rcases Nat.lt_or_ge j (b + hc.length) with z | z
      · exact absurd (by omega : b + (j - b) = j) (hn (j - b) (by omega))
      · exact z
    rw [List.getElem?_append_right (by simp; omega), List.getElem?_append_right (by simp; omega)]
    simp [hl]
end
section
/-! new cells, and calls that make some -/
def cw_up (ad : Nat → Nat) (n a : Nat) : Nat → Nat := fun k => if k = n then a else ad k
theorem cw_up_lt {ad : Nat → Nat} {n a : Nat} : ∀ k, k < n → cw_up ad n a k = ad k := fun k hk => if_neg (by omega)
def cw_wf (n : Nat) (lv : cw_LV) (st : List Value) (h : cw_H) : Prop := (∀ q ∈ lv, cw_wfv n q.2) ∧ (∀ v ∈ st, cw_wfv n v) ∧ ∀ q ∈ h, cw_wfe n q
theorem cw_w_eq {n : Nat} {h : cw_H} (hw : ∀ q ∈ h, cw_wfe n q) (hn : h.length ≤ n) {ad ad' : Nat → Nat} (e : ∀ k, k < n → ad' k = ad k) (cA : Nat → ClassId) : cw_w cA ad' h = cw_w cA ad h := by
  apply List.ext_getElem?
  intro j
  simp only [cw_w, List.getElem?_mapIdx]
  cases hj : h[j]? with
  | none => rfl
  | some q =>
    have := cw_lt hj
    simp only [Option.map_some]
    rw [e j (by omega), cw_wfe_eq (hw _ (List.mem_of_getElem? hj)) e cA]
theorem cw_L_eq {n : Nat} {lv : cw_LV} (hw : ∀ q ∈ lv, cw_wfv n q.2) {ad ad' : Nat → Nat} (e : ∀ k, k < n → ad' k = ad k) : cw_L ad' lv = cw_L ad lv := by
  apply List.map_congr_left
  intro q hq
  rw [cw_wfv_eq (hw q hq) e]
theorem cw_st_eq {n : Nat} {st : List Value} (hw : ∀ q ∈ st, cw_wfv n q) {ad ad' : Nat → Nat} (e : ∀ k, k < n → ad' k = ad k) : st.map (cw_v ad') = st.map (cw_v ad) := by
  apply List.map_congr_left
  intro q hq
  exact cw_wfv_eq (hw q hq) e
theorem cw_w_push (cA : Nat → ClassId) (ad : Nat → Nat) (h : cw_H) (q : cw_E) : cw_w cA ad (h ++ [q]) = cw_w cA ad h ++ [(ad h.length, cw_e cA ad q)] := by
  simp only [cw_w, List.mapIdx_append, List.mapIdx_cons, List.mapIdx_nil, Nat.zero_add]
theorem cw_new {l : Launch} {ii : cw_I} {mc ms : Nat} {h0 : cw_H} {r : Option Value} {h1 : cw_H} {kc ks pc idx ci : Nat} {lv : cw_LV} {st : List Value} {h : cw_H} (fs : List Value) (hi : cw_okD ii) (hk : kc + 1 ≤ mc ∧ ks + cw_cn ci ≤ ms) (hd : cw_look (cw_tb ii) pc = some (.new idx, 3)) (hn : cw_look (cw_news (cw_c ii)) idx = some ci)
    (hfs : ∀ j, j < cw_cn ci → defaultValue (cw_ty ci j) = vp_V fs j) (hfv : ∀ ad, fs.map (cw_v ad) = fs) (w : cw_wf h.length lv st h) (h0l : h0.length ≤ h.length) (h1l : h.length < h1.length)
    (kk : cw_W l ii mc ms h0 r h1 (kc + 1) (ks + cw_cn ci) (pc + 3) lv (.ref h.length :: st) (h ++ [.inr (ci, fs)])) : cw_W l ii mc ms h0 r h1 kc ks pc lv st h := by
  intro p e R s m args below meth c D cA ad0 hX hR1 hR2 ad H locs ls hkp hP hD hS hl
  have hX0 := hX
  obtain ⟨hx, hb, hml, hown, hts, hKs, hfr, hlo, hnm, hret, hlocks⟩ := hX
  have hdg := hi.1 _ (cw_look_mem hd)
  obtain ⟨h4, n1, n2, n3⟩ := cw_nok _ _ (cw_look_mem hn)
  refine va_new (ci := ci) (fs := fs) (C := cw_own ci) (T := cw_FT ci) (N := cw_cn ci) hx hb hts (cw_in_u ci h4) (cw_ty ci) (cw_tyok ci h4) hown (hts _ n1) (hts _ n2) (hts _ n3) hKs.1 hP hD hS (fun q hq => Or.inr hq) (cw_cl ci h4) hfs (by omega) (by omega) hdg (fun q H1 hP1 hD1 hS1 => ?_)
  have e1 : ∀ k, k < h.length → cw_up ad h.length q k = ad k := cw_up_lt
  have ew : cw_w cA (cw_up ad h.length q) (h ++ [.inr (ci, fs)]) = cw_w cA ad h ++ [(q, .inr (ci, fs))] := by
    rw [cw_w_push, cw_w_eq w.2.2 (Nat.le_refl _) e1]
    show cw_w cA ad h ++ [(cw_up ad h.length q h.length, Sum.inr (ci, fs.map (cw_v (cw_up ad h.length q))))] = _
    rw [hfv, show cw_up ad h.length q h.length = q from if_pos rfl]
  have := kk p e R s m args below meth c D cA ad0 hX0 hR1 hR2 (cw_up ad h.length q) H1 locs ls (fun k hk2 => by rw [← hkp k hk2]; exact if_neg (by omega)) (by rw [ew]; exact hP1) (by rw [ew]; exact hD1) hS1 (by rw [cw_L_eq w.1 e1]; exact hl)
  rw [List.map_cons, cw_st_eq w.2.1 e1] at this
  have e2 : cw_v (cw_up ad h.length q) (.ref h.length) = .ref q := congrArg Value.ref (if_pos rfl)
  rw [e2] at this
  exact this
theorem cw_newa {l : Launch} {ii : cw_I} {mc ms : Nat} {h0 : cw_H} {r : Option Value} {h1 : cw_H} {kc ks pc N : Nat} {lv : cw_LV} {st : List Value} {h : cw_H} (kd : Nat) (ty : ClassFile.ArrayType) (hkd : (kd = 0 ∧ ty = .int) ∨ (kd = 1 ∧ ty = .char)) (hi : cw_okD ii) (hk : kc + 1 ≤ mc ∧ ks + N ≤ ms) (hd : cw_look (cw_tb ii) pc = some (.newarray ty, 2)) (hN : N ≤ 65536)
    (w : cw_wf h.length lv st h) (h0l : h0.length ≤ h.length) (h1l : h.length < h1.length)
    (kk : cw_W l ii mc ms h0 r h1 (kc + 1) (ks + N) (pc + 2) lv (.ref h.length :: st) (h ++ [.inl (kd, N, .inl (fun _ => 0))])) : cw_W l ii mc ms h0 r h1 kc ks pc lv (.int (nI N) :: st) h := by
  intro p e R s m args below meth c D cA ad0 hX hR1 hR2 ad H locs ls hkp hP hD hS hl
  have hX0 := hX
  obtain ⟨hx, hb, hml, hown, hts, hKs, hfr, hlo, hnm, hret, hlocks⟩ := hX
  have hdg := hi.1 _ (cw_look_mem hd)
  have fin : ∀ (q : Nat) (H1 : Heap), va_P D vwCl (cw_w cA ad h ++ [(q, .inl (cA kd, N, .inl (fun _ => 0)))]) H1 → va_D (va_A (cw_w cA ad0 h0) s.heap.size) (cw_w cA ad h ++ [(q, .inl (cA kd, N, .inl (fun _ => 0)))]) → va_S (va_A (cw_w cA ad0 h0) s.heap.size) s.heap H1 locs → W p l e R s m args below meth c H1 locs (kc + 1) (ks + N) (MQ below (cw_Q D cA ad0 h0 r h1 (va_A (cw_w cA ad0 h0) s.heap.size)) args s mc ms (va_A (cw_w cA ad0 h0) s.heap.size)) (F0 m (pc + 2) ls (.ref q :: st.map (cw_v ad))) := by
    intro q H1 hP1 hD1 hS1
    have e1 : ∀ k, k < h.length → cw_up ad h.length q k = ad k := cw_up_lt
    have ew : cw_w cA (cw_up ad h.length q) (h ++ [.inl (kd, N, .inl (fun _ => 0))]) = cw_w cA ad h ++ [(q, .inl (cA kd, N, .inl (fun _ => 0)))] := by
      rw [cw_w_push, cw_w_eq w.2.2 (Nat.le_refl _) e1]
      show cw_w cA ad h ++ [(cw_up ad h.length q h.length, _)] = _
      rw [show cw_up ad h.length q h.length = q from if_pos rfl]
      rfl
    have := kk p e R s m args below meth c D cA ad0 hX0 hR1 hR2 (cw_up ad h.length q) H1 locs ls (fun k hk2 => by rw [← hkp k hk2]; exact if_neg (by omega)) (by rw [ew]; exact hP1) (by rw [ew]; exact hD1) hS1 (by rw [cw_L_eq w.1 e1]; exact hl)
    rw [List.map_cons, cw_st_eq w.2.1 e1] at this
    have e2 : cw_v (cw_up ad h.length q) (.ref h.length) = .ref q := congrArg Value.ref (if_pos rfl)
    rw [e2] at this
    exact this
  have hN0 : ¬ nI N < 0 := nI_pos (by omega)
  have hN1 : (nI N).toNatClampNeg = N := nI_clamp (by omega)
  rcases hkd with ⟨rfl, rfl⟩ | ⟨rfl, rfl⟩
  · refine va_newa (atype := .int) (ty := .int) (a0 := (N, .inl (fun _ => 0))) hx hb (hts _ cw_g_ai) rfl hKs.1 hP hD hS (fun q hq => Or.inr hq) (fun _ => rfl) hN0 hN1 (by show N * 4 ≤ _; omega) (by omega) (by omega) hdg (fun q cA' H1 hK1 hP1 hD1 hS1 => ?_)
    have ec : cA' = cA 0 := by
      have g1 : s.vm.findClass ("[" ++ FieldType.int.toString) = some cA' := (hK1.2 3 (cA', .int) rfl).2
      have g2 : s.vm.findClass ("[" ++ FieldType.int.toString) = some (cA 0) := (hKs.1.2 0 (cA 0, .int) rfl).2
      exact Option.some.inj (g1.symm.trans g2)
    subst ec
    exact fin q H1 hP1 hD1 hS1
  · refine va_newa (atype := .char) (ty := .char) (a0 := (N, .inl (fun _ => 0))) hx hb (hts _ cw_g_ac) rfl hKs.1 hP hD hS (fun q hq => Or.inr hq) (fun _ => rfl) hN0 hN1 (by show N * 2 ≤ _; omega) (by omega) (by omega) hdg (fun q cA' H1 hK1 hP1 hD1 hS1 => ?_)
    have ec : cA' = cA 1 := by
      have g1 : s.vm.findClass ("[" ++ FieldType.char.toString) = some cA' := (hK1.2 3 (cA', .char) rfl).2
      have g2 : s.vm.findClass ("[" ++ FieldType.char.toString) = some (cA 1) := (hKs.1.2 1 (cA 1, .char) rfl).2
      exact Option.some.inj (g1.symm.trans g2)
    subst ec
    exact fin q H1 hP1 hD1 hS1
theorem cw_newq {l : Launch} {ii : cw_I} {mc ms : Nat} {h0 : cw_H} {r : Option Value} {h1 : cw_H} {kc ks pc N idx : Nat} {lv : cw_LV} {st : List Value} {h : cw_H} (hi : cw_okD ii) (hk : kc + 1 ≤ mc ∧ ks + N ≤ ms) (hd : cw_look (cw_tb ii) pc = some (.anewarray idx, 3)) (hn : cw_look (cw_news (cw_c ii)) idx = some 1) (hN : N ≤ 65536)
    (w : cw_wf h.length lv st h) (h0l : h0.length ≤ h.length) (h1l : h.length < h1.length)
    (kk : cw_W l ii mc ms h0 r h1 (kc + 1) (ks + N) (pc + 3) lv (.ref h.length :: st) (h ++ [.inl (2, N, .inr (.inr (.inr (.inr (fun _ => none)))))])) : cw_W l ii mc ms h0 r h1 kc ks pc lv (.int (nI N) :: st) h := by
  intro p e R s m args below meth c D cA ad0 hX hR1 hR2 ad H locs ls hkp hP hD hS hl
  have hX0 := hX
  obtain ⟨hx, hb, hml, hown, hts, hKs, hfr, hlo, hnm, hret, hlocks⟩ := hX
  have hdg := hi.1 _ (cw_look_mem hd)
  have hN0 : ¬ nI N < 0 := nI_pos (by omega)
  have hN1 : (nI N).toNatClampNeg = N := nI_clamp (by omega)
  obtain ⟨h4, n1, n2, n3⟩ := cw_nok _ _ (cw_look_mem hn)
  refine va_newq (C := RX1) hx hb hown (hts _ n1) hKs.2.1 hKs.1 hP hD hS (fun q hq => Or.inr hq) hN0 hN1 (by omega) (by omega) (by omega) hdg (fun q cA' H1 hK1 hP1 hD1 hS1 => ?_)
  have ec : cA' = cA 2 := by
    obtain ⟨_, _, _, _, _, g1⟩ := (hK1.2 3 (cA', .object RX1) rfl).2
    obtain ⟨_, _, _, _, _, g2⟩ := (hKs.1.2 2 (cA 2, .object RX1) rfl).2
    exact Option.some.inj (g1.symm.trans g2)
  subst ec
  have e1 : ∀ k, k < h.length → cw_up ad h.length q k = ad k := cw_up_lt
  have ew : cw_w cA (cw_up ad h.length q) (h ++ [.inl (2, N, .inr (.inr (.inr (.inr (fun _ => none)))))]) = cw_w cA ad h ++ [(q, .inl (cA 2, N, .inr (.inr (.inr (.inr (fun _ => none))))))] := by
    rw [cw_w_push, cw_w_eq w.2.2 (Nat.le_refl _) e1]
    show cw_w cA ad h ++ [(cw_up ad h.length q h.length, _)] = _
    rw [show cw_up ad h.length q h.length = q from if_pos rfl]
    rfl
  have := kk p e R s m args below meth c D cA ad0 hX0 hR1 hR2 (cw_up ad h.length q) H1 locs ls (fun k hk2 => by rw [← hkp k hk2]; exact if_neg (by omega)) (by rw [ew]; exact hP1) (by rw [ew]; exact hD1) hS1 (by rw [cw_L_eq w.1 e1]; exact hl)
  rw [List.map_cons, cw_st_eq w.2.1 e1] at this
  have e2 : cw_v (cw_up ad h.length q) (.ref h.length) = .ref q := congrArg Value.ref (if_pos rfl)
  rw [e2] at this
  exact this
/-- an instance method that may make cells -/
theorem cw_callAV {l : Launch} {ii ic : cw_I} {mc ms mc' ms' : Nat} {h0 : cw_H} {r rr : Option Value} {h1 : cw_H} {kc ks pc idx kd a ci : Nat} {fs : List Value} {lv : cw_LV} {st rs : List Value} {h h' : cw_H} (hi : cw_okD ii) (hk : kc + mc' ≤ mc ∧ ks + ms' ≤ ms) (hd : cw_look (cw_tb ii) pc = some (.invokevirtual idx, 3)) (hc : cw_look (cw_cls (cw_c ii)) idx = some (kd, ic))
    (hkd : kd = 0 ∨ kd = 3) (hn : cw_na ic ≤ st.length) (hf : cw_f ic < cw_f ii) (hdr : st.drop (cw_na ic) = .ref a :: rs) (hW : (rs.map fun v => v.category).sum ≤ 8) (hcell : h[a]? = some (.inr (ci, fs))) (hci : ci = cw_c ic) (hci4 : ci < 3)
    (hM : cw_M l ic mc' ms' (.ref a :: (st.take (cw_na ic)).reverse) h r h') (hle : h.length ≤ h'.length) (h0l : h0.length ≤ h.length) (h1l : h'.length ≤ h1.length) (wl : ∀ q ∈ lv, cw_wfv h.length q.2) (wr : ∀ v ∈ rs, cw_wfv h.length v)
    (kk : cw_W l ii mc ms h0 rr h1 (kc + mc') (ks + ms') (pc + 3) lv (r.toList ++ rs) h') : cw_W l ii mc ms h0 rr h1 kc ks pc lv st h := by
  intro p e R s m args below meth c D cA ad0 hX hR1 hR2 ad H locs ls hkp hP hD hS hl
  have hX0 := hX
  obtain ⟨hx, hb, hml, hown, hts, hK, hfr, hlo, -⟩ := hX
  have hdg : decode (cw_b ii) pc = .ok (.invokevirtual idx, 3) := hi.1 (pc, .invokevirtual idx, 3) (cw_look_mem hd)
  have hlk : cw_okC (cw_c ii) idx kd ic := cw_clok (cw_c ii) (idx, kd, ic) (cw_look_mem hc)
  have hls : ls.size = cw_nL ii := hl.1
  subst hci
  have hA1 := cw_A1 hD hS (fun q hq => Or.inr hq)
  have hkk : ∀ (ad' : Nat → Nat) (H1 : Heap) (locs1 : List Loc), (∀ k, k < h.length ∨ h'.length ≤ k → ad' k = ad k) → va_P D vwCl (cw_w cA ad' h') H1 → va_D (va_A (cw_w cA ad h) H.size) (cw_w cA ad' h') → H.size ≤ H1.size → (∀ q : Nat, q < H.size → ¬ va_A (cw_w cA ad h) H.size q → H1[q]? = H[q]?) → va_S (va_A (cw_w cA ad0 h0) s.heap.size) s.heap H1 locs1 → W p l e R s m args below meth c H1 locs1 (kc + mc') (ks + ms') (MQ below (cw_Q D cA ad0 h0 rr h1 (va_A (cw_w cA ad0 h0) s.heap.size)) args s mc ms (va_A (cw_w cA ad0 h0) s.heap.size)) (F0 m (pc + 3) ls ((r.map (cw_v ad')).toList ++ rs.map (cw_v ad))) := by
    intro ad' H1 locs1 e1 hP1 hD1 _ _ hS1
    have e2 : ∀ k, k < h.length → ad' k = ad k := fun k hk2 => e1 k (Or.inl hk2)
    have := kk p e R s m args below meth c D cA ad0 hX0 hR1 hR2 ad' H1 locs1 ls (fun k hk2 => by rw [← hkp k hk2]; exact e1 k (by omega)) hP1 (hD1.weaken (fun _ _ _ h => hA1 _ h)) hS1 (by rw [cw_L_eq wl e2]; exact hl)
    rw [List.map_append, cw_st_eq wr e2] at this
    cases r <;> exact this
  have hst : st.map (cw_v ad) = (((st.take (cw_na ic)).reverse.map (cw_v ad))).reverse ++ .ref (ad a) :: rs.map (cw_v ad) := by
    have e0 : st.map (cw_v ad) = (st.take (cw_na ic)).map (cw_v ad) ++ (st.drop (cw_na ic)).map (cw_v ad) := by rw [← List.map_append, List.take_append_drop]
    rw [e0, hdr, List.map_reverse, List.reverse_reverse]
    rfl
  have hWW : 2 * (F0 m pc ls (st.map (cw_v ad))).monitorRoom + ((rs.map (cw_v ad)).map fun v => v.category).sum ≤ 8 := lv_room (by rw [cw_cats]; exact hW)
  have hln : ((st.take (cw_na ic)).reverse.map (cw_v ad)).length = cw_na ic := by simp; omega
  have hR : cw_f ic + 1 ≤ R.frames ∧ 8 + (cw_nL ic + 11) + 35 * cw_f ic ≤ R.locals ∨ ¬ cw_nL ic ≤ 16 := by
    by_cases h15 : cw_nL ic ≤ 16
    · left; constructor <;> omega
    · right; exact h15
  have hpre := cw_pre (i := ic) (av := .ref a :: (st.take (cw_na ic)).reverse) hK hP hD
  have hrecv := va_recv (ci := cw_c ic) (q0 := a) hK.1 hP (cw_cl (cw_c ic) hci4) (cw_w_get hcell)
  rcases hkd with rfl | rfl
  · have hlk' : Cond.methodLink (cw_own (cw_c ii)) idx ic.1 ∈ cw_T ∧ Cond.instanceMethod ic.1 ∈ cw_T ∧ Cond.selects ic.1.cls ic.1 ic.1 ∈ cw_T ∧ cw_okI ic := by
      rcases hlk with ⟨_, h⟩ | ⟨h, _⟩ | ⟨h, _⟩ | ⟨h, _⟩ | ⟨h, _⟩ | ⟨h, _⟩ | ⟨h, _⟩ | ⟨h, _⟩ | ⟨h, _⟩ <;> first | exact h | exact absurd h (by decide)
    obtain ⟨g1, g2, h2s, h3⟩ := hlk'
    have h3' := h3
    obtain ⟨-, -, k3, k4, k5, k6, k7, k8, k9, k10⟩ := h3
    have hR2 := hR.resolve_right (fun q => q k10)
    rw [k5] at h2s
    refine cw_callG (va_runV (C := cw_own (cw_c ic)) (b := ad a) (As := (st.take (cw_na ic)).reverse.map (cw_v ad)) ⟨hx, hb, hml, hown, hts⟩ (hM D cA ad H.size) (n := cw_na ic) ⟨⟨rfl, rfl, hR2.1, hR2.2, pay_in hts (cw_good2 h3'), List.mem_cons_self, hts _ k3, hts _ k4, ⟨k7, k8⟩, fun sig hsig => ?_, hts _ g1⟩, hts _ g2, hts _ h2s⟩ ⟨hpre.1, hrecv, hpre.2⟩ rfl hln hls hst hWW hdg ⟨by omega, by omega⟩) hS (fun q _ h => hA1 q h) hA1 hkk
    rw [hsig] at k9; exact (Option.some.inj k9).symm
  · have hlk' : (∃ host, Cond.methodLinkNest (cw_own (cw_c ii)) idx ic.1 host ∈ cw_N) ∧ Cond.instanceMethod ic.1 ∈ cw_T ∧ Cond.selects ic.1.cls ic.1 ic.1 ∈ cw_T ∧ cw_okI ic := by
      rcases hlk with ⟨h, _⟩ | ⟨h, _⟩ | ⟨h, _⟩ | ⟨_, h⟩ | ⟨h, _⟩ | ⟨h, _⟩ | ⟨h, _⟩ | ⟨h, _⟩ | ⟨h, _⟩ <;> first | exact h | exact absurd h (by decide)
    obtain ⟨⟨host, g1⟩, g2, h2s, h3⟩ := hlk'
    have h3' := h3
    obtain ⟨-, -, k3, k4, k5, k6, k7, k8, k9, k10⟩ := h3
    have hR2 := hR.resolve_right (fun q => q k10)
    rw [k5] at h2s
    refine cw_callG (va_runVN (C := cw_own (cw_c ic)) (b := ad a) (As := (st.take (cw_na ic)).reverse.map (cw_v ad)) ⟨hx, hb, hml, hown, hts⟩ (hM D cA ad H.size) (n := cw_na ic) (host := host) ⟨⟨⟨rfl, rfl, hR2.1, hR2.2, pay_in hts (cw_good2 h3'), List.mem_cons_self⟩, hts _ k3, hts _ k4, ⟨k7, k8⟩, fun sig hsig => ?_, va_Nw.use rfl (hK.2.2 _ g1)⟩, hts _ g2, hts _ h2s⟩ ⟨hpre.1, hrecv, hpre.2⟩ rfl hln hls hst hWW hdg ⟨by omega, by omega⟩) hS (fun q _ h => hA1 q h) hA1 hkk
    rw [hsig] at k9; exact (Option.some.inj k9).symm
/-- a constructor -/
theorem cw_callAI {l : Launch} {ii ic : cw_I} {mc ms mc' ms' : Nat} {h0 : cw_H} {rr : Option Value} {h1 : cw_H} {kc ks pc idx kd a : Nat} {lv : cw_LV} {rs : List Value} {h h' : cw_H} (hi : cw_okD ii) (hk : kc + mc' ≤ mc ∧ ks + ms' ≤ ms) (hd : cw_look (cw_tb ii) pc = some (.invokespecial idx, 3)) (hc : cw_look (cw_cls (cw_c ii)) idx = some (kd, ic))
    (hkd : kd = 2 ∨ kd = 5) (hn : cw_na ic = 0) (hf : cw_f ic < cw_f ii) (hW : (rs.map fun v => v.category).sum ≤ 8)
    (hM : cw_M l ic mc' ms' [.ref a] h none h') (hle : h.length ≤ h'.length) (h0l : h0.length ≤ h.length) (h1l : h'.length ≤ h1.length) (wl : ∀ q ∈ lv, cw_wfv h.length q.2) (wr : ∀ v ∈ rs, cw_wfv h.length v)
    (kk : cw_W l ii mc ms h0 rr h1 (kc + mc') (ks + ms') (pc + 3) lv rs h') : cw_W l ii mc ms h0 rr h1 kc ks pc lv (.ref a :: rs) h := by
  intro p e R s m args below meth c D cA ad0 hX hR1 hR2 ad H locs ls hkp hP hD hS hl
  have hX0 := hX
  obtain ⟨hx, hb, hml, hown, hts, hK, hfr, hlo, -⟩ := hX
  have hdg : decode (cw_b ii) pc = .ok (.invokespecial idx, 3) := hi.1 (pc, .invokespecial idx, 3) (cw_look_mem hd)
  have hlk : cw_okC (cw_c ii) idx kd ic := cw_clok (cw_c ii) (idx, kd, ic) (cw_look_mem hc)
  have hls : ls.size = cw_nL ii := hl.1
  have hA1 := cw_A1 hD hS (fun q hq => Or.inr hq)
  have hkk : ∀ (ad' : Nat → Nat) (H1 : Heap) (locs1 : List Loc), (∀ k, k < h.length ∨ h'.length ≤ k → ad' k = ad k) → va_P D vwCl (cw_w cA ad' h') H1 → va_D (va_A (cw_w cA ad h) H.size) (cw_w cA ad' h') → H.size ≤ H1.size → (∀ q : Nat, q < H.size → ¬ va_A (cw_w cA ad h) H.size q → H1[q]? = H[q]?) → va_S (va_A (cw_w cA ad0 h0) s.heap.size) s.heap H1 locs1 → W p l e R s m args below meth c H1 locs1 (kc + mc') (ks + ms') (MQ below (cw_Q D cA ad0 h0 rr h1 (va_A (cw_w cA ad0 h0) s.heap.size)) args s mc ms (va_A (cw_w cA ad0 h0) s.heap.size)) (F0 m (pc + 3) ls (((none : Option Value).map (cw_v ad')).toList ++ rs.map (cw_v ad))) := by
    intro ad' H1 locs1 e1 hP1 hD1 _ _ hS1
    have e2 : ∀ k, k < h.length → ad' k = ad k := fun k hk2 => e1 k (Or.inl hk2)
    have := kk p e R s m args below meth c D cA ad0 hX0 hR1 hR2 ad' H1 locs1 ls (fun k hk2 => by rw [← hkp k hk2]; exact e1 k (by omega)) hP1 (hD1.weaken (fun _ _ _ h => hA1 _ h)) hS1 (by rw [cw_L_eq wl e2]; exact hl)
    rw [cw_st_eq wr e2] at this
    exact this
  have hWW : 2 * (F0 m pc ls ((Value.ref a :: rs).map (cw_v ad))).monitorRoom + ((rs.map (cw_v ad)).map fun v => v.category).sum ≤ 8 := lv_room (by rw [cw_cats]; exact hW)
  have hR : cw_f ic + 1 ≤ R.frames ∧ 8 + (cw_nL ic + 11) + 35 * cw_f ic ≤ R.locals ∨ ¬ cw_nL ic ≤ 16 := by
    by_cases h15 : cw_nL ic ≤ 16
    · left; constructor <;> omega
    · right; exact h15
  have hpre := cw_pre (i := ic) (av := [.ref a]) hK hP hD
  rcases hkd with rfl | rfl
  · have hlk' : Cond.methodLink (cw_own (cw_c ii)) idx ic.1 ∈ cw_T ∧ Cond.instanceMethod ic.1 ∈ cw_T ∧ ic.1.name = "<init>" ∧ ic.2.2.2.1 = none ∧ cw_okI ic := by
      rcases hlk with ⟨h, _⟩ | ⟨h, _⟩ | ⟨_, h⟩ | ⟨h, _⟩ | ⟨h, _⟩ | ⟨h, _⟩ | ⟨h, _⟩ | ⟨h, _⟩ | ⟨h, _⟩ <;> first | exact h | exact absurd h (by decide)
    obtain ⟨g1, g2, g3, g4, h3⟩ := hlk'
    have h3' := h3
    obtain ⟨-, -, k3, k4, k5, k6, k7, k8, k9, k10⟩ := h3
    have hR2 := hR.resolve_right (fun q => q k10)
    have hgood := cw_good2 h3'
    have hMM := hM D cA ad H.size
    rw [show cw_r ic = none from g4] at hgood hMM
    rw [g4] at k3
    refine cw_callG (va_runI (b := ad a) (As := []) ⟨hx, hb, hml, hown, hts⟩ hMM (n := 0) ⟨⟨rfl, rfl, hR2.1, hR2.2, pay_in hts hgood, List.mem_cons_self, hts _ k3, hts _ k4, ⟨k7, k8⟩, fun sig hsig => ?_, hts _ g1⟩, g3, hts _ g2⟩ hpre rfl rfl hls rfl hWW hdg ⟨by omega, by omega⟩) hS (fun q _ h => hA1 q h) hA1 hkk
    rw [hsig] at k9; exact hn.symm.trans (Option.some.inj k9).symm
  · have hlk' : (∃ host, Cond.methodLinkNest (cw_own (cw_c ii)) idx ic.1 host ∈ cw_N) ∧ Cond.instanceMethod ic.1 ∈ cw_T ∧ ic.1.name = "<init>" ∧ ic.2.2.2.1 = none ∧ cw_okI ic := by
      rcases hlk with ⟨h, _⟩ | ⟨h, _⟩ | ⟨h, _⟩ | ⟨h, _⟩ | ⟨h, _⟩ | ⟨_, h⟩ | ⟨h, _⟩ | ⟨h, _⟩ | ⟨h, _⟩ <;> first | exact h | exact absurd h (by decide)
    obtain ⟨⟨host, g1⟩, g2, g3, g4, h3⟩ := hlk'
    have h3' := h3
    obtain ⟨-, -, k3, k4, k5, k6, k7, k8, k9, k10⟩ := h3
    have hR2 := hR.resolve_right (fun q => q k10)
    have hgood := cw_good2 h3'
    have hMM := hM D cA ad H.size
    rw [show cw_r ic = none from g4] at hgood hMM
    rw [g4] at k3
    refine cw_callG (va_runIN (b := ad a) (As := []) ⟨hx, hb, hml, hown, hts⟩ hMM (n := 0) (host := host) ⟨⟨⟨rfl, rfl, hR2.1, hR2.2, pay_in hts hgood, List.mem_cons_self⟩, hts _ k3, hts _ k4, ⟨k7, k8⟩, fun sig hsig => ?_, va_Nw.use rfl (hK.2.2 _ g1)⟩, g3, hts _ g2⟩ hpre rfl rfl hls rfl hWW hdg ⟨by omega, by omega⟩) hS (fun q _ h => hA1 q h) hA1 hkk
    rw [hsig] at k9; exact hn.symm.trans (Option.some.inj k9).symm
/-- places below n, by program (rows of references aside) -/
def cw_wfvb (n : Nat) (v : Value) : Bool := match v with
  | .ref k => Nat.blt k n
  | _ => true
def cw_wfeb (n : Nat) (q : cw_E) : Bool := match q with
  | .inl (_, (_, .inr (.inr (.inr (.inr _))))) => false
  | .inl _ => true
  | .inr o => o.2.all (cw_wfvb n)
theorem cw_wfvb_ok {n : Nat} {v : Value} (h : cw_wfvb n v = true) : cw_wfv n v := by
  cases v with
  | ref k => exact Nat.le_of_ble_eq_true h
  | _ => trivial
theorem cw_wfeb_ok {n : Nat} {q : cw_E} (h : cw_wfeb n q = true) : cw_wfe n q := by
  obtain ⟨a, n2, f | f | f | f | f⟩ | o := q
  · trivial
  · trivial
  · trivial
  · trivial
  · cases h
  · exact fun v hv => cw_wfvb_ok (List.all_eq_true.mp h v hv)
theorem cw_wfb_ok {n : Nat} {lv : cw_LV} {st : List Value} {h : cw_H} (e : (lv.all (fun q => cw_wfvb n q.2) && (st.all (cw_wfvb n) && h.all (cw_wfeb n))) = true) : cw_wf n lv st h := by
  simp only [Bool.and_eq_true] at e
  exact ⟨fun q hq => cw_wfvb_ok (List.all_eq_true.mp e.1 q hq), fun v hv => cw_wfvb_ok (List.all_eq_true.mp e.2.1 v hv), fun q hq => cw_wfeb_ok (List.all_eq_true.mp e.2.2 q hq)⟩
theorem cw_re_wf {n b : Nat} {q : cw_E} (h : cw_wfe n q) : cw_wfe (b + n) (cw_re (fun k => b + k) q) := by
  obtain ⟨a, n2, f | f | f | f | f⟩ | o := q
  · trivial
  · trivial
  · trivial
  · trivial
  · intro j k hj
    obtain ⟨k2, h1, h2⟩ := Option.map_eq_some_iff.mp (show (f j).map (fun k => b + k) = some k from hj)
    have := h j k2 h1
    omega
  · intro v hv
    obtain ⟨w, h1, rfl⟩ := List.mem_map.mp hv
    have := h w h1
    cases w with
    | ref k => exact Nat.add_lt_add_left this b
    | _ => trivial
/-- a contract that makes cells, where the small heap is the end of the larger one -/
theorem cw_liftA {l : Launch} {i : cw_I} {mc ms : Nat} {av : List Value} {hc : cw_H} {r : Option Value} {hc' : cw_H} (hM : cw_M l i mc ms av hc r hc') (hl : hc.length ≤ hc'.length) (A : cw_H) {b : Nat} (hb : A.length = b)
    (hwc : ∀ q ∈ hc', cw_wfe hc'.length q) (hwh : ∀ q ∈ hc, cw_wfe hc.length q) (hwA : ∀ q ∈ A, cw_wfe (b + hc.length) q) (hwr : ∀ v, r = some v → cw_wfv hc'.length v) :
    cw_M l i mc ms (av.map (cw_v (fun k => b + k))) (A ++ hc.map (cw_re (fun k => b + k))) (r.map (cw_v (fun k => b + k))) (A ++ hc'.map (cw_re (fun k => b + k))) := by
  have hg : ∀ (X : cw_H) (k : Nat) (q : cw_E), X[k]? = some q → (A ++ X.map (cw_re (fun k => b + k)))[b + k]? = some (cw_re (fun k => b + k) q) := by
    intro X k q e
    rw [List.getElem?_append_right (by omega), show b + k - A.length = k by omega, List.getElem?_map, e]
    rfl
  refine cw_frameA hM (fun k => b + k) hl (by simp; omega) (hg hc) (fun j k _ _ e => by simpa using e) (fun k h1 h2 => by simp; omega) (hg hc') (fun j hj hn => ?_) hwc ?_ hwr
  · have h1 : j < b := by
      rcases Nat.lt_or_ge j b with z | z
      · exact z
      · simp at hj
        exact absurd (by omega : b + (j - b) = j) (hn (j - b) (by omega))
    rw [List.getElem?_append_left (by omega), List.getElem?_append_left (by omega)]
  · intro q hq
    have e : (A ++ hc.map (cw_re (fun k => b + k))).length = b + hc.length := by simp [hb]
    rw [e]
    rcases List.mem_append.mp hq with h1 | h1
    · exact hwA q h1
    · obtain ⟨q2, h2, rfl⟩ := List.mem_map.mp h1
      exact cw_re_wf (hwh q2 h2)
end
section
/-! ===== Int32 by its bits: bt x i ===== -/
def bt (x : Int32) (i : Nat) : Bool := x.toBitVec.getLsbD i
theorem b_ext {x y : Int32} (h : ∀ i, i < 32 → bt x i = bt y i) : x = y := Int32.toBitVec_inj.mp (BitVec.eq_of_getLsbD_eq (fun i hi => h i hi))
theorem b_or (x y : Int32) (i : Nat) : bt (x ||| y) i = (bt x i || bt y i) := by unfold bt; rw [Int32.toBitVec_or, BitVec.getLsbD_or]
theorem b_and (x y : Int32) (i : Nat) : bt (x &&& y) i = (bt x i && bt y i) := by unfold bt; rw [Int32.toBitVec_and, BitVec.getLsbD_and]
theorem b_xor (x y : Int32) (i : Nat) : bt (x ^^^ y) i = (bt x i ^^ bt y i) := by unfold bt; rw [Int32.toBitVec_xor, BitVec.getLsbD_xor]
theorem b_big {x : Int32} {i : Nat} (h : 32 ≤ i) : bt x i = false := BitVec.getLsbD_of_ge _ _ h
theorem b_255 (i : Nat) : bt 255 i = decide (i < 8) := by
  rcases Nat.lt_or_ge i 32 with h | h
  · exact (by decide +kernel : ∀ i, i < 32 → bt 255 i = decide (i < 8)) i h
  · rw [b_big h, decide_eq_false (by omega)]
theorem b_65535 (i : Nat) : bt 65535 i = decide (i < 16) := by
  rcases Nat.lt_or_ge i 32 with h | h
  · exact (by decide +kernel : ∀ i, i < 32 → bt 65535 i = decide (i < 16)) i h
  · rw [b_big h, decide_eq_false (by omega)]
theorem b_m1 : ∀ i, i < 32 → bt (-1) i = true := by decide +kernel
theorem b_0 (i : Nat) : bt 0 i = false := BitVec.getLsbD_zero
theorem s_l : ∀ n, n < 32 → ((nI n &&& 31).toBitVec.smod 32).toNat = n := by decide +kernel
theorem s_u : ∀ n, n < 32 → (((nI n).toUInt32 &&& Int32.toUInt32 31).toBitVec % 32).toNat = n := by decide +kernel
theorem b_shl (n : Nat) (hn : n < 32) (x : Int32) {i : Nat} (hi : i < 32) : bt (x <<< (nI n &&& 31)) i = (decide (n ≤ i) && bt x (i - n)) := by
  unfold bt
  rw [Int32.toBitVec_shiftLeft]
  show (x.toBitVec <<< ((nI n &&& 31).toBitVec.smod 32).toNat).getLsbD i = _
  rw [s_l n hn, BitVec.getLsbD_shiftLeft]
  rcases Nat.lt_or_ge i n with h | h
  · simp [h, Nat.not_le.mpr h]
  · simp [hi, h, Nat.not_lt.mpr h]
theorem b_ushr (n : Nat) (hn : n < 32) (x : Int32) (i : Nat) : bt ((x.toUInt32 >>> ((nI n).toUInt32 &&& Int32.toUInt32 31)).toInt32) i = bt x (n + i) := by
  show (x.toUInt32 >>> ((nI n).toUInt32 &&& Int32.toUInt32 31)).toBitVec.getLsbD i = x.toUInt32.toBitVec.getLsbD (n + i)
  rw [UInt32.toBitVec_shiftRight]
  show (x.toUInt32.toBitVec >>> (((nI n).toUInt32 &&& Int32.toUInt32 31).toBitVec % 32).toNat).getLsbD i = _
  rw [s_u n hn, BitVec.getLsbD_ushiftRight]
theorem b_sshr (n : Nat) (hn : n < 32) (x : Int32) {i : Nat} (hi : i < 32) : bt (x >>> (nI n &&& 31)) i = if n + i < 32 then bt x (n + i) else bt x 31 := by
  unfold bt
  rw [Int32.toBitVec_shiftRight]
  show (x.toBitVec.sshiftRight ((nI n &&& 31).toBitVec.smod 32).toNat).getLsbD i = _
  rw [s_l n hn, BitVec.getLsbD_sshiftRight, BitVec.msb_eq_getLsbD_last]
  simp [hi]
theorem b_shl8 (x : Int32) {i : Nat} (hi : i < 32) : bt (x <<< ((8 : Int32) &&& 31)) i = (decide (8 ≤ i) && bt x (i - 8)) := b_shl 8 (by omega) x hi
theorem b_shl16 (x : Int32) {i : Nat} (hi : i < 32) : bt (x <<< ((16 : Int32) &&& 31)) i = (decide (16 ≤ i) && bt x (i - 16)) := b_shl 16 (by omega) x hi
theorem b_shl24 (x : Int32) {i : Nat} (hi : i < 32) : bt (x <<< ((24 : Int32) &&& 31)) i = (decide (24 ≤ i) && bt x (i - 24)) := b_shl 24 (by omega) x hi
theorem b_sshr8 (x : Int32) {i : Nat} (hi : i < 32) : bt (x >>> ((8 : Int32) &&& 31)) i = if 8 + i < 32 then bt x (8 + i) else bt x 31 := b_sshr 8 (by omega) x hi
/-! ===== how many places have a property ===== -/
def fb_ct (p : Nat → Bool) : Nat → Nat
  | 0 => 0
  | n + 1 => fb_ct p n + (if p n then 1 else 0)
theorem fb_ct_succ (p : Nat → Bool) (n : Nat) : fb_ct p (n + 1) = fb_ct p n + (if p n then 1 else 0) := rfl
theorem fb_ct_le (p : Nat → Bool) : ∀ n, fb_ct p n ≤ n
  | 0 => Nat.le_refl _
  | n + 1 => by
    have h := fb_ct_le p n
    rw [fb_ct_succ]
    split <;> omega
theorem fb_ct_step (p : Nat → Bool) (m : Nat) : ∀ n, fb_ct p m ≤ fb_ct p (m + n)
  | 0 => Nat.le_refl _
  | n + 1 => by
    have h := fb_ct_step p m n
    show fb_ct p m ≤ fb_ct p (m + n + 1)
    rw [fb_ct_succ]
    omega
theorem fb_ct_mono (p : Nat → Bool) {m n : Nat} (h : m ≤ n) : fb_ct p m ≤ fb_ct p n := by
  have := fb_ct_step p m (n - m)
  rwa [Nat.add_sub_cancel' h] at this
theorem fb_ct_cong {p q : Nat → Bool} : ∀ {n : Nat}, (∀ k, k < n → p k = q k) → fb_ct p n = fb_ct q n
  | 0, _ => rfl
  | n + 1, h => by
    rw [fb_ct_succ, fb_ct_succ, fb_ct_cong (fun k hk => h k (by omega)), h n (by omega)]
/-- one place changed -/
theorem fb_ct_out (p : Nat → Bool) (b : Bool) {i n : Nat} (h : n ≤ i) : fb_ct (fun k => if k = i then b else p k) n = fb_ct p n :=
  fb_ct_cong fun k hk => if_neg (by omega)
theorem fb_ct_upd (p : Nat → Bool) (b : Bool) {i : Nat} : ∀ {n : Nat}, i < n → fb_ct (fun k => if k = i then b else p k) n + (if p i then 1 else 0) = fb_ct p n + (if b then 1 else 0)
  | 0, h => absurd h (Nat.not_lt_zero i)
  | n + 1, h => by
    rw [fb_ct_succ, fb_ct_succ]
    rcases Nat.lt_or_ge i n with q | q
    · have := fb_ct_upd p b q
      have e : (if n = i then b else p n) = p n := if_neg (by omega)
      rw [e]
      omega
    · have e : i = n := by omega
      subst e
      rw [fb_ct_out p b (Nat.le_refl _)]
      simp only [if_true]
      omega
theorem fb_ct_sub {p q : Nat → Bool} : ∀ {n : Nat}, (∀ k, k < n → p k = true → q k = true) → fb_ct p n ≤ fb_ct q n
  | 0, _ => Nat.le_refl _
  | n + 1, h => by
    have h1 := fb_ct_sub (n := n) (p := p) (q := q) (fun k hk => h k (by omega))
    have h2 := h n (by omega)
    rw [fb_ct_succ, fb_ct_succ]
    cases hp : p n <;> cases hq : q n <;> simp_all <;> omega
theorem fb_ct_or {p q : Nat → Bool} : ∀ {n : Nat}, (∀ k, k < n → ¬ (p k = true ∧ q k = true)) → fb_ct (fun k => p k || q k) n = fb_ct p n + fb_ct q n
  | 0, _ => rfl
  | n + 1, h => by
    have h1 := fb_ct_or (n := n) (p := p) (q := q) (fun k hk => h k (by omega))
    have h2 := h n (by omega)
    rw [fb_ct_succ, fb_ct_succ, fb_ct_succ, h1]
    cases hp : p n <;> cases hq : q n <;> simp_all <;> omega
theorem fb_ct_not (p : Nat → Bool) : ∀ n, fb_ct p n + fb_ct (fun k => !p k) n = n
  | 0 => rfl
  | n + 1 => by
    have h := fb_ct_not p n
    rw [fb_ct_succ, fb_ct_succ]
    cases p n <;> simp <;> omega
theorem fb_ct_split (p : Nat → Bool) (m : Nat) : ∀ n, fb_ct p (m + n) = fb_ct p m + fb_ct (fun k => p (m + k)) n
  | 0 => rfl
  | n + 1 => by
    have h := fb_ct_split p m n
    show fb_ct p (m + n + 1) = _
    rw [fb_ct_succ, fb_ct_succ, h, Nat.add_assoc]
theorem fb_ct_zero {p : Nat → Bool} : ∀ {n : Nat}, fb_ct p n = 0 ↔ ∀ k, k < n → p k = false
  | 0 => ⟨fun _ k hk => absurd hk (Nat.not_lt_zero k), fun _ => rfl⟩
  | n + 1 => by
    have h := fb_ct_zero (p := p) (n := n)
    rw [fb_ct_succ]
    constructor
    · intro e k hk
      have e1 : fb_ct p n = 0 := by omega
      rcases Nat.lt_or_ge k n with q | q
      · exact h.mp e1 k q
      · have ek : k = n := by omega
        subst ek
        cases hp : p k
        · rfl
        · simp [hp] at e
    · intro a
      rw [h.mpr (fun k hk => a k (by omega)), a n (by omega)]
      rfl
theorem fb_ct_pos {p : Nat → Bool} {n : Nat} : 0 < fb_ct p n ↔ ∃ k, k < n ∧ p k = true := by
  constructor
  · intro h
    refine Classical.byContradiction fun hx => ?_
    have := fb_ct_zero.mpr (fun k hk => by
      cases hp : p k
      · rfl
      · exact absurd ⟨k, hk, hp⟩ hx : ∀ k, k < n → p k = false)
    omega
  · rintro ⟨k, hk, hp⟩
    rcases Nat.eq_zero_or_pos (fb_ct p n) with e | e
    · have := fb_ct_zero.mp e k hk
      rw [this] at hp
      cases hp
    · exact e
theorem fb_ct_all {p : Nat → Bool} {n : Nat} : fb_ct p n = n ↔ ∀ k, k < n → p k = true := by
  have h := fb_ct_not p n
  constructor
  · intro e k hk
    have z : fb_ct (fun k => !p k) n = 0 := by omega
    have := fb_ct_zero.mp z k hk
    cases hp : p k
    · simp [hp] at this
    · rfl
  · intro a
    have z : fb_ct (fun k => !p k) n = 0 := fb_ct_zero.mpr (fun k hk => by simp [a k hk])
    omega
/-- the k-th place with the property -/
theorem fb_ct_kth {p : Nat → Bool} {k : Nat} : ∀ {n : Nat}, k < fb_ct p n → ∃ i, i < n ∧ p i = true ∧ fb_ct p i = k
  | 0, h => absurd h (Nat.not_lt_zero k)
  | n + 1, h => by
    rcases Nat.lt_or_ge k (fb_ct p n) with q | q
    · obtain ⟨i, h1, h2⟩ := fb_ct_kth q
      exact ⟨i, by omega, h2⟩
    · rw [fb_ct_succ] at h
      cases hp : p n
      · simp [hp] at h; omega
      · simp [hp] at h
        exact ⟨n, by omega, hp, by omega⟩
theorem fb_ct_kth_one {p : Nat → Bool} {i j : Nat} (hi : p i = true) (hj : p j = true) (e : fb_ct p i = fb_ct p j) : i = j := by
  have key : ∀ a b : Nat, a < b → p a = true → fb_ct p a < fb_ct p b := by
    intro a b hab ha
    have h := fb_ct_mono p (show a + 1 ≤ b from hab)
    rw [fb_ct_succ, ha] at h
    simp at h
    omega
  rcases Nat.lt_trichotomy i j with q | q | q
  · have := key i j q hi; omega
  · exact q
  · have := key j i q hj; omega
/-! bits of signs -/
theorem cb_one {k : Nat} (hk : k < 32) {i : Nat} (hi : i < 32) : bt (nI 1 <<< (nI k &&& 31)) i = decide (i = k) := by
  rw [b_shl k hk _ hi]
  have h1 : ∀ j, j < 32 → bt (nI 1) j = decide (j = 0) := by decide +kernel
  rw [h1 (i - k) (by omega)]
  by_cases h : i = k
  · subst h; simp
  · rcases Nat.lt_or_ge k i with h2 | h2
    · rw [decide_eq_false (show ¬ i - k = 0 by omega), decide_eq_false h, Bool.and_false]
    · rw [decide_eq_false (show ¬ k ≤ i by omega), decide_eq_false h, Bool.false_and]
theorem cb_zero {x : Int32} : x = 0 ↔ ∀ i, i < 32 → bt x i = false := by
  constructor
  · intro h i _; rw [h]; exact b_0 i
  · intro h; exact b_ext (fun i hi => by rw [h i hi, b_0])
/-- does the set x hold the sign k? -/
theorem cb_has {x : Int32} {k : Nat} (hk : k < 32) : (x &&& (nI 1 <<< (nI k &&& 31))) = 0 ↔ bt x k = false := by
  rw [cb_zero]
  constructor
  · intro h
    have := h k hk
    rw [b_and, cb_one hk hk, decide_eq_true rfl, Bool.and_true] at this
    exact this
  · intro h i hi
    rw [b_and, cb_one hk hi]
    by_cases e : i = k
    · subst e; rw [h, Bool.false_and]
    · rw [decide_eq_false e, Bool.and_false]
/-- a truth as a number -/
def cb_n (b : Bool) : Int32 := if b then nI 1 else nI 0
theorem cb_n01 (b : Bool) : cb_n b = nI 0 ∨ cb_n b = nI 1 := by cases b <;> simp [cb_n]
theorem cb_n0 {b : Bool} : cb_n b = 0 ↔ b = false := by cases b <;> decide +kernel
theorem cb_nt {b : Bool} : ¬ cb_n b = 0 ↔ b = true := by cases b <;> decide +kernel
end
