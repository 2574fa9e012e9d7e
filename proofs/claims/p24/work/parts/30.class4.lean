/-! the class: what is asked of it -/
section CCQ
variable {l : Launch} {u : Int32} {N T : cs_S} {H G : Nat → Option Nat} {f : Nat → Int32} {pl : Int32} {L : List cs_S}
theorem cb_nn0 {b : Bool} (h : b = true) : cb_n (!b) = 0 := by rw [h]; rfl
theorem cb_nnt {b : Bool} (h : b = false) : ¬ cb_n (!b) = 0 := by rw [h]; decide
theorem cc_of_no {x y : Int32} (h : cb_wi x (nI 1) (cs_th N) = false) : cw_M l mm_X2_of 0 0 [.ref 0, .int x, .int y] (cc_h u N T H G f pl L) (some (.int (-nI 1))) (cc_h u N T H G f pl L) := by
  refine cw_enter cw_KX2_of (by decide) (Nat.le_of_ble_eq_true rfl) ?_
  exact cw_run cw_kX2_of cw_z 5 [false] [] [(_, _)] (And.intro (cc_isNoThing x) (And.intro (Nat.le_refl _) (And.intro (cb_nnt h) (cw_reti cw_kX2_of cw_z rfl rfl))))
theorem cc_of_bad {x y : Int32} (h : cb_wi x (nI 1) (cs_th N) = true) (hy : y < 0 ∨ nI 3 < y) : cw_M l mm_X2_of 0 0 [.ref 0, .int x, .int y] (cc_h u N T H G f pl L) (some (.int (-nI 2))) (cc_h u N T H G f pl L) := by
  refine cw_enter cw_KX2_of (by decide) (Nat.le_of_ble_eq_true rfl) ?_
  by_cases c : y < 0
  · exact cw_run cw_kX2_of cw_z 7 [true, true] [] [(_, _)] (And.intro (cc_isNoThing x) (And.intro (Nat.le_refl _) (And.intro (cb_nn0 h) (And.intro (c) (cw_reti cw_kX2_of cw_z rfl rfl)))))
  · exact cw_run cw_kX2_of cw_z 10 [true, false, false] [] [(_, _)] (And.intro (cc_isNoThing x) (And.intro (Nat.le_refl _) (And.intro (cb_nn0 h) (And.intro (c) (And.intro (Int32.not_le.mpr (hy.resolve_left c)) (cw_reti cw_kX2_of cw_z rfl rfl))))))
theorem cc_of_none {x : Int32} {j : Nat} (hB : cs_Bd N) (h : cb_wi x (nI 1) (cs_th N) = true) (hj : j ≤ 3) (hp : cs_pof N x (cs_g N) 0 = -nI 6) : cw_M l mm_X2_of 0 0 [.ref 0, .int x, .int (nI j)] (cc_h u N T H G f pl L) (some (.int (-nI 6))) (cc_h u N T H G f pl L) := by
  refine cw_enter cw_KX2_of (by decide) (Nat.le_of_ble_eq_true rfl) ?_
  have ap := cs_placeOf l N hB.1.1 hB.1.2 x
  rw [hp] at ap
  have q3 : nI j ≤ nI 3 := nI_le hj (by omega)
  exact cw_run cw_kX2_of cw_z 17 [true, false, true, false] [] [(_, _), (_, _)] (And.intro (cc_isNoThing x) (And.intro (Nat.le_refl _) (And.intro (cb_nn0 h) (And.intro (nI_pos (by omega)) (And.intro (q3) (And.intro (cc_now ap) (And.intro (Nat.le_refl _) (And.intro ((show ¬ 0 ≤ -nI 6 by decide)) (cw_reti cw_kX2_of cw_z rfl rfl)))))))))
def cc_ofa (N : cs_S) (x : Int32) (p : Nat) : Nat → Int32
  | 0 => if cs_sg N p = x then nI 1 else nI 0
  | 1 => cs_lv N p
  | 2 => cs_rs N p
  | _ => nI p
theorem cc_of_ok {x : Int32} {p : Nat} (hB : cs_Bd N) (h : cb_wi x (nI 1) (cs_th N) = true) (hp : cs_pof N x (cs_g N) 0 = nI p) (h9 : p < 9) : ∀ j, j ≤ 3 → cw_M l mm_X2_of 0 0 [.ref 0, .int x, .int (nI j)] (cc_h u N T H G f pl L) (some (.int (cc_ofa N x p j))) (cc_h u N T H G f pl L) := by
  have ap := cs_placeOf l N hB.1.1 hB.1.2 x
  rw [hp] at ap
  intro j hj
  match j, hj with
  | 0, _ =>
    refine cw_enter cw_KX2_of (by decide) (Nat.le_of_ble_eq_true rfl) ?_
    by_cases c : cs_sg N p = x
    · rw [show cc_ofa N x p 0 = nI 1 from if_pos c]
      exact cw_run cw_kX2_of cw_z 26 [true, false, true, true, false] [0] [(_, _), (_, _), (_, _)] (And.intro (cc_isNoThing x) (And.intro (Nat.le_refl _) (And.intro (cb_nn0 h) (And.intro ((show ¬ nI 0 < 0 by decide)) (And.intro ((show nI 0 ≤ nI 3 by decide)) (And.intro (cc_now ap) (And.intro (Nat.le_refl _) (And.intro (nI_pos' (by omega)) (And.intro ((show (nI 0).toInt = 0 + ((0 : Nat) : Int) by decide)) (And.intro ((by decide)) (And.intro (cc_now (cs_signAt l N rfl h9)) (And.intro (Nat.le_refl _) (And.intro ((fun q => q c)) (cw_reti cw_kX2_of cw_z rfl rfl))))))))))))))
    · rw [show cc_ofa N x p 0 = nI 0 from if_neg c]
      exact cw_run cw_kX2_of cw_z 25 [true, false, true, true, true] [0] [(_, _), (_, _), (_, _)] (And.intro (cc_isNoThing x) (And.intro (Nat.le_refl _) (And.intro (cb_nn0 h) (And.intro ((show ¬ nI 0 < 0 by decide)) (And.intro ((show nI 0 ≤ nI 3 by decide)) (And.intro (cc_now ap) (And.intro (Nat.le_refl _) (And.intro (nI_pos' (by omega)) (And.intro ((show (nI 0).toInt = 0 + ((0 : Nat) : Int) by decide)) (And.intro ((by decide)) (And.intro (cc_now (cs_signAt l N rfl h9)) (And.intro (Nat.le_refl _) (And.intro (c) (cw_reti cw_kX2_of cw_z rfl rfl))))))))))))))
  | 1, _ =>
    refine cw_enter cw_KX2_of (by decide) (Nat.le_of_ble_eq_true rfl) ?_
    exact cw_run cw_kX2_of cw_z 22 [true, false, true, true] [1] [(_, _), (_, _), (_, _)] (And.intro (cc_isNoThing x) (And.intro (Nat.le_refl _) (And.intro (cb_nn0 h) (And.intro ((show ¬ nI 1 < 0 by decide)) (And.intro ((show nI 1 ≤ nI 3 by decide)) (And.intro (cc_now ap) (And.intro (Nat.le_refl _) (And.intro (nI_pos' (by omega)) (And.intro ((show (nI 1).toInt = 0 + ((1 : Nat) : Int) by decide)) (And.intro ((by decide)) (And.intro (cc_now (cs_levelAt l N rfl h9)) (And.intro (Nat.le_refl _) (cw_reti cw_kX2_of cw_z rfl rfl)))))))))))))
  | 2, _ =>
    refine cw_enter cw_KX2_of (by decide) (Nat.le_of_ble_eq_true rfl) ?_
    exact cw_run cw_kX2_of cw_z 22 [true, false, true, true] [2] [(_, _), (_, _), (_, _)] (And.intro (cc_isNoThing x) (And.intro (Nat.le_refl _) (And.intro (cb_nn0 h) (And.intro ((show ¬ nI 2 < 0 by decide)) (And.intro ((show nI 2 ≤ nI 3 by decide)) (And.intro (cc_now ap) (And.intro (Nat.le_refl _) (And.intro (nI_pos' (by omega)) (And.intro ((show (nI 2).toInt = 0 + ((2 : Nat) : Int) by decide)) (And.intro ((by decide)) (And.intro (cc_now (cs_reasonAt l N rfl h9)) (And.intro (Nat.le_refl _) (cw_reti cw_kX2_of cw_z rfl rfl)))))))))))))
  | 3, _ =>
    refine cw_enter cw_KX2_of (by decide) (Nat.le_of_ble_eq_true rfl) ?_
    exact cw_run cw_kX2_of cw_z 19 [true, false, true, true] [35] [(_, _), (_, _)] (And.intro (cc_isNoThing x) (And.intro (Nat.le_refl _) (And.intro (cb_nn0 h) (And.intro ((show ¬ nI 3 < 0 by decide)) (And.intro ((show nI 3 ≤ nI 3 by decide)) (And.intro (cc_now ap) (And.intro (Nat.le_refl _) (And.intro (nI_pos' (by omega)) (And.intro ((show (nI 3).toInt < 0 ∨ 2 < (nI 3).toInt by decide)) (cw_reti cw_kX2_of cw_z rfl rfl))))))))))
  | j + 4, hj => exact absurd hj (by omega)
theorem cc_trail_no {x : Int32} (h : cb_be x (cs_gi N) = false) : cw_M l mm_X2_trail 0 0 [.ref 0, .int x] (cc_h u N T H G f pl L) (some (.int (-nI 1))) (cc_h u N T H G f pl L) := by
  refine cw_enter cw_KX2_trail (by decide) (Nat.le_of_ble_eq_true rfl) ?_
  by_cases c : x < 0
  · exact cw_run cw_kX2_trail cw_z 3 [true] [] [] (And.intro (c) (cw_reti cw_kX2_trail cw_z rfl rfl))
  · have d : ¬ x < cs_gi N := fun q => of_decide_eq_false h ⟨c, q⟩
    exact cw_run cw_kX2_trail cw_z 8 [false, false] [] [] (And.intro (c) (And.intro (d) (cw_reti cw_kX2_trail cw_z rfl rfl)))
theorem cc_trail_ok {k : Nat} (h : cb_be (nI k) (cs_gi N) = true) (hk : k < 9) : cw_M l mm_X2_trail 0 0 [.ref 0, .int (nI k)] (cc_h u N T H G f pl L) (some (.int (if cs_sg N k < nI 10 then cs_sg N k else cs_sg N k - nI 10))) (cc_h u N T H G f pl L) := by
  refine cw_enter cw_KX2_trail (by decide) (Nat.le_of_ble_eq_true rfl) ?_
  have h2 := of_decide_eq_true h
  exact cw_run cw_kX2_trail cw_z 12 [false, true] [] [(_, _), (_, _)] (And.intro (h2.1) (And.intro (h2.2) (And.intro (cc_now (cs_signAt l N rfl hk)) (And.intro (Nat.le_refl _) (And.intro (cs_thingOf l _ _) (And.intro (Nat.le_refl _) (cw_reti cw_kX2_trail cw_z rfl rfl)))))))
theorem cc_clause_no {x y : Int32} (h : cb_be x (cs_to N + cs_le N) = false) : cw_M l mm_X2_clause 0 0 [.ref 0, .int x, .int y] (cc_h u N T H G f pl L) (some (.int (-nI 1))) (cc_h u N T H G f pl L) := by
  refine cw_enter cw_KX2_clause (by decide) (Nat.le_of_ble_eq_true rfl) ?_
  exact cw_run cw_kX2_clause cw_z 5 [false] [] [(_, _)] (And.intro (cc_isNoClause x) (And.intro (Nat.le_refl _) (And.intro (cb_nnt h) (cw_reti cw_kX2_clause cw_z rfl rfl))))
theorem cc_clause_bad {x y : Int32} (h : cb_be x (cs_to N + cs_le N) = true) (hy : y < 0 ∨ nI 12 < y) : cw_M l mm_X2_clause 0 0 [.ref 0, .int x, .int y] (cc_h u N T H G f pl L) (some (.int (-nI 2))) (cc_h u N T H G f pl L) := by
  refine cw_enter cw_KX2_clause (by decide) (Nat.le_of_ble_eq_true rfl) ?_
  by_cases c : y < 0
  · exact cw_run cw_kX2_clause cw_z 7 [true, true] [] [(_, _)] (And.intro (cc_isNoClause x) (And.intro (Nat.le_refl _) (And.intro (cb_nn0 h) (And.intro (c) (cw_reti cw_kX2_clause cw_z rfl rfl)))))
  · exact cw_run cw_kX2_clause cw_z 10 [true, false, false] [] [(_, _)] (And.intro (cc_isNoClause x) (And.intro (Nat.le_refl _) (And.intro (cb_nn0 h) (And.intro (c) (And.intro (Int32.not_le.mpr (hy.resolve_left c)) (cw_reti cw_kX2_clause cw_z rfl rfl))))))
def cc_cla (N : cs_S) (c : Int32) (j : Nat) : Int32 := if j = 0 then cb_bc c else if j = 10 then cb_n (cs_tr N c) else if j = 11 then cb_n (!cs_tr N c && decide (cs_op N c = 0)) else if j = 12 then cb_bc (cs_op N c) else cb_sio c (nI j) 9 1 (nI 0)
theorem cc_clause_sw : ∀ j, j ≤ 12 → j ≠ 0 → j ≠ 10 → j ≠ 11 → j ≠ 12 → Op.lookupswitch.offset [(0, 43), (10, 48), (11, 65), (12, 93)] 105 (nI j).toInt = 105 := by decide +kernel
theorem cc_clause_ok {k j : Nat} (h : cb_be (nI k) (cs_to N + cs_le N) = true) (hk : k < 60) (hj : j ≤ 12) : cw_M l mm_X2_clause 0 0 [.ref 0, .int (nI k), .int (nI j)] (cc_h u N T H G f pl L) (some (.int (cc_cla N (cs_cl N k) j))) (cc_h u N T H G f pl L) := by
  refine cw_enter cw_KX2_clause (by decide) (Nat.le_of_ble_eq_true rfl) ?_
  have ac := cc_now (u := u) (T := T) (H := H) (G := G) (f := f) (pl := pl) (L := L) (cs_clauseAt l N hk)
  have hall : ((#[((0 : Int), (43 : Int)), (10, 48), (11, 65), (12, 93)]).toList.zip ((#[((0 : Int), (43 : Int)), (10, 48), (11, 65), (12, 93)]).toList.drop 1)).all (fun (a, next) => a.1 < next.1) = true := rfl
  have p0 : ¬ nI j < 0 := nI_pos (by omega)
  have p1 : nI j ≤ nI 12 := nI_le hj (by omega)
  generalize cs_cl N k = c at ac ⊢
  have ai := cc_now (u := u) (T := T) (H := H) (G := G) (f := f) (pl := pl) (L := L) (cs_isTrue l N c)
  have ao := cc_now (u := u) (T := T) (H := H) (G := G) (f := f) (pl := pl) (L := L) (cs_openSigns l N c)
  unfold cc_cla
  by_cases a : j = 0
  · subst a
    rw [if_pos rfl]
    exact cw_run cw_kX2_clause cw_z 18 [true, false, true] [0] [(_, _), (_, _), (_, _)] (And.intro (cc_isNoClause _) (And.intro (Nat.le_refl _) (And.intro (cb_nn0 h) (And.intro (p0) (And.intro (p1) (And.intro (ac) (And.intro (Nat.le_refl _) (And.intro (hall) (And.intro (rfl) (And.intro (cs_bitCount l _ _) (And.intro (Nat.le_refl _) (cw_reti cw_kX2_clause cw_z rfl rfl))))))))))))
  · rw [if_neg a]
    by_cases b : j = 10
    · subst b
      rw [if_pos rfl]
      cases e : cs_tr N c with
      | true =>
        rw [e] at ai
        exact cw_run cw_kX2_clause cw_z 23 [true, false, true, false] [1] [(_, _), (_, _), (_, _)] (And.intro (cc_isNoClause _) (And.intro (Nat.le_refl _) (And.intro (cb_nn0 h) (And.intro (p0) (And.intro (p1) (And.intro (ac) (And.intro (Nat.le_refl _) (And.intro (hall) (And.intro (rfl) (And.intro (ai) (And.intro (Nat.le_refl _) (And.intro (cb_nt.mpr rfl) (cw_reti cw_kX2_clause cw_z rfl rfl)))))))))))))
      | false =>
        rw [e] at ai
        exact cw_run cw_kX2_clause cw_z 22 [true, false, true, true] [1] [(_, _), (_, _), (_, _)] (And.intro (cc_isNoClause _) (And.intro (Nat.le_refl _) (And.intro (cb_nn0 h) (And.intro (p0) (And.intro (p1) (And.intro (ac) (And.intro (Nat.le_refl _) (And.intro (hall) (And.intro (rfl) (And.intro (ai) (And.intro (Nat.le_refl _) (And.intro (cb_n0.mpr rfl) (cw_reti cw_kX2_clause cw_z rfl rfl)))))))))))))
    · rw [if_neg b]
      by_cases d : j = 11
      · subst d
        rw [if_pos rfl]
        cases e : cs_tr N c with
        | true =>
          rw [e] at ai
          exact cw_run cw_kX2_clause cw_z 22 [true, false, true, true] [2] [(_, _), (_, _), (_, _)] (And.intro (cc_isNoClause _) (And.intro (Nat.le_refl _) (And.intro (cb_nn0 h) (And.intro (p0) (And.intro (p1) (And.intro (ac) (And.intro (Nat.le_refl _) (And.intro (hall) (And.intro (rfl) (And.intro (ai) (And.intro (Nat.le_refl _) (And.intro (cb_nt.mpr rfl) (cw_reti cw_kX2_clause cw_z rfl rfl)))))))))))))
        | false =>
          rw [e] at ai
          by_cases g : cs_op N c = 0
          · rw [decide_eq_true g]
            exact cw_run cw_kX2_clause cw_z 28 [true, false, true, false, false] [2] [(_, _), (_, _), (_, _), (_, _)] (And.intro (cc_isNoClause _) (And.intro (Nat.le_refl _) (And.intro (cb_nn0 h) (And.intro (p0) (And.intro (p1) (And.intro (ac) (And.intro (Nat.le_refl _) (And.intro (hall) (And.intro (rfl) (And.intro (ai) (And.intro (Nat.le_refl _) (And.intro ((fun q => q (cb_n0.mpr rfl))) (And.intro (ao) (And.intro (Nat.le_refl _) (And.intro ((fun q => q g)) (cw_reti cw_kX2_clause cw_z rfl rfl))))))))))))))))
          · rw [decide_eq_false g]
            exact cw_run cw_kX2_clause cw_z 27 [true, false, true, false, true] [2] [(_, _), (_, _), (_, _), (_, _)] (And.intro (cc_isNoClause _) (And.intro (Nat.le_refl _) (And.intro (cb_nn0 h) (And.intro (p0) (And.intro (p1) (And.intro (ac) (And.intro (Nat.le_refl _) (And.intro (hall) (And.intro (rfl) (And.intro (ai) (And.intro (Nat.le_refl _) (And.intro ((fun q => q (cb_n0.mpr rfl))) (And.intro (ao) (And.intro (Nat.le_refl _) (And.intro (g) (cw_reti cw_kX2_clause cw_z rfl rfl))))))))))))))))
      · rw [if_neg d]
        by_cases e : j = 12
        · subst e
          rw [if_pos rfl]
          exact cw_run cw_kX2_clause cw_z 21 [true, false, true] [3] [(_, _), (_, _), (_, _), (_, _)] (And.intro (cc_isNoClause _) (And.intro (Nat.le_refl _) (And.intro (cb_nn0 h) (And.intro (p0) (And.intro (p1) (And.intro (ac) (And.intro (Nat.le_refl _) (And.intro (hall) (And.intro (rfl) (And.intro (ao) (And.intro (Nat.le_refl _) (And.intro (cs_bitCount l _ _) (And.intro (Nat.le_refl _) (cw_reti cw_kX2_clause cw_z rfl rfl))))))))))))))
        · rw [if_neg e]
          exact cw_run cw_kX2_clause cw_z 19 [true, false, true] [35] [(_, _), (_, _), (_, _)] (And.intro (cc_isNoClause _) (And.intro (Nat.le_refl _) (And.intro (cb_nn0 h) (And.intro (p0) (And.intro (p1) (And.intro (ac) (And.intro (Nat.le_refl _) (And.intro (hall) (And.intro (cc_clause_sw j hj a b d e) (And.intro (cs_signInOrder l _ _ _) (And.intro (Nat.le_refl _) (cw_reti cw_kX2_clause cw_z rfl rfl))))))))))))
def cc_cnt (u : Int32) (N : cs_S) (pl : Int32) : Nat → Int32
  | 0 => cs_to N
  | 1 => cs_le N
  | 2 => cs_sd N
  | 3 => cs_pl N (cs_g N)
  | 4 => cs_gi N
  | 5 => cs_co N
  | 6 => cs_sp N
  | 7 => cs_th N
  | 8 => cs_re N
  | 9 => cs_fi N
  | 10 => pl
  | _ => u
theorem cc_count (hB : cs_Bd N) : ∀ j, j ≤ 11 → cw_M l mm_X2_count 0 0 [.ref 0, .int (nI j)] (cc_h u N T H G f pl L) (some (.int (cc_cnt u N pl j))) (cc_h u N T H G f pl L)
  | 0, _ => by
    refine cw_enter cw_KX2_count (by decide) (Nat.le_of_ble_eq_true rfl) ?_
    exact cw_run cw_kX2_count cw_z 5 [] [0] [] (And.intro ((by decide)) (And.intro ((by decide)) (cw_reti cw_kX2_count cw_z rfl rfl)))
  | 1, _ => by
    refine cw_enter cw_KX2_count (by decide) (Nat.le_of_ble_eq_true rfl) ?_
    exact cw_run cw_kX2_count cw_z 5 [] [1] [] (And.intro ((by decide)) (And.intro ((by decide)) (cw_reti cw_kX2_count cw_z rfl rfl)))
  | 2, _ => by
    refine cw_enter cw_KX2_count (by decide) (Nat.le_of_ble_eq_true rfl) ?_
    exact cw_run cw_kX2_count cw_z 5 [] [2] [] (And.intro ((by decide)) (And.intro ((by decide)) (cw_reti cw_kX2_count cw_z rfl rfl)))
  | 3, _ => by
    refine cw_enter cw_KX2_count (by decide) (Nat.le_of_ble_eq_true rfl) ?_
    exact cw_run cw_kX2_count cw_z 5 [] [3] [(_, _)] (And.intro ((by decide)) (And.intro ((by decide)) (And.intro (cc_now (cs_presentLevel l N hB.1.1 hB.1.2)) (And.intro (Nat.le_refl _) (cw_reti cw_kX2_count cw_z rfl rfl)))))
  | 4, _ => by
    refine cw_enter cw_KX2_count (by decide) (Nat.le_of_ble_eq_true rfl) ?_
    exact cw_run cw_kX2_count cw_z 5 [] [4] [] (And.intro ((by decide)) (And.intro ((by decide)) (cw_reti cw_kX2_count cw_z rfl rfl)))
  | 5, _ => by
    refine cw_enter cw_KX2_count (by decide) (Nat.le_of_ble_eq_true rfl) ?_
    exact cw_run cw_kX2_count cw_z 5 [] [5] [] (And.intro ((by decide)) (And.intro ((by decide)) (cw_reti cw_kX2_count cw_z rfl rfl)))
  | 6, _ => by
    refine cw_enter cw_KX2_count (by decide) (Nat.le_of_ble_eq_true rfl) ?_
    exact cw_run cw_kX2_count cw_z 5 [] [6] [] (And.intro ((by decide)) (And.intro ((by decide)) (cw_reti cw_kX2_count cw_z rfl rfl)))
  | 7, _ => by
    refine cw_enter cw_KX2_count (by decide) (Nat.le_of_ble_eq_true rfl) ?_
    exact cw_run cw_kX2_count cw_z 5 [] [7] [] (And.intro ((by decide)) (And.intro ((by decide)) (cw_reti cw_kX2_count cw_z rfl rfl)))
  | 8, _ => by
    refine cw_enter cw_KX2_count (by decide) (Nat.le_of_ble_eq_true rfl) ?_
    exact cw_run cw_kX2_count cw_z 5 [] [8] [] (And.intro ((by decide)) (And.intro ((by decide)) (cw_reti cw_kX2_count cw_z rfl rfl)))
  | 9, _ => by
    refine cw_enter cw_KX2_count (by decide) (Nat.le_of_ble_eq_true rfl) ?_
    exact cw_run cw_kX2_count cw_z 5 [] [9] [] (And.intro ((by decide)) (And.intro ((by decide)) (cw_reti cw_kX2_count cw_z rfl rfl)))
  | 10, _ => by
    refine cw_enter cw_KX2_count (by decide) (Nat.le_of_ble_eq_true rfl) ?_
    exact cw_run cw_kX2_count cw_z 5 [] [10] [] (And.intro ((by decide)) (And.intro ((by decide)) (cw_reti cw_kX2_count cw_z rfl rfl)))
  | 11, _ => by
    refine cw_enter cw_KX2_count (by decide) (Nat.le_of_ble_eq_true rfl) ?_
    exact cw_run cw_kX2_count cw_z 4 [] [11] [] (And.intro ((by decide)) (And.intro ((by decide)) (cw_reti cw_kX2_count cw_z rfl rfl)))
  | j + 12, hj => absurd hj (by omega)
theorem cc_count_bad {x : Int32} (hy : x.toInt < 0 ∨ 11 < x.toInt) : cw_M l mm_X2_count 0 0 [.ref 0, .int x] (cc_h u N T H G f pl L) (some (.int (-nI 2))) (cc_h u N T H G f pl L) := by
  refine cw_enter cw_KX2_count (by decide) (Nat.le_of_ble_eq_true rfl) ?_
  exact cw_run cw_kX2_count cw_z 3 [] [35] [] (And.intro (hy) (cw_reti cw_kX2_count cw_z rfl rfl))
/-- what a choice breaks of the told clauses -/
def cs_brk (N : cs_S) (A : Nat) : Int32 := cs_tbb N (cs_ch N (nI A)) (cs_t N) 0 (nI 0)
theorem cs_chs (hB : cs_Bd N) : nI 1 <<< (cs_th N &&& 31) = nI (2 ^ cs_k N) := by
  rw [hB.2.2.2.1]; exact cb_pow _ hB.2.2.2.2
def cs_an (N : cs_S) : Nat → Nat → Nat → Nat
  | 0, _, m => m
  | n + 1, A, m => cs_an N n (A + 1) (m + (if cs_brk N A = 0 then 1 else 0))
def cs_aw (N : cs_S) (x : Int32) : Nat → Nat → Nat → Nat
  | 0, _, m => m
  | n + 1, A, m => cs_aw N x n (A + 1) (m + (if cb_hs (cs_ch N (nI A)) x = true ∧ cs_brk N A = 0 then 1 else 0))
theorem cs_an_le (N : cs_S) : ∀ n A m, cs_an N n A m ≤ m + n
  | 0, _, _ => Nat.le_refl _
  | n + 1, A, m => by
    have h := cs_an_le N n (A + 1) (m + (if cs_brk N A = 0 then 1 else 0))
    have h3 : (if cs_brk N A = 0 then 1 else 0) ≤ 1 := by split <;> omega
    unfold cs_an
    omega
theorem cs_aw_le (N : cs_S) (x : Int32) : ∀ n A m, cs_aw N x n A m ≤ m + n
  | 0, _, _ => Nat.le_refl _
  | n + 1, A, m => by
    have h := cs_aw_le N x n (A + 1) (m + (if cb_hs (cs_ch N (nI A)) x = true ∧ cs_brk N A = 0 then 1 else 0))
    have h3 : (if cb_hs (cs_ch N (nI A)) x = true ∧ cs_brk N A = 0 then 1 else 0) ≤ 1 := by split <;> omega
    unfold cs_aw
    omega
def cs_fl (N : cs_S) (c : Int32) : Nat → Nat → Bool
  | 0, _ => true
  | n + 1, A => if (c &&& cs_ch N (nI A)) = 0 ∧ cs_brk N A = 0 then false else cs_fl N c n (A + 1)
def cs_nd (N : cs_S) : Nat → Nat → Int32 → Int32
  | 0, _, a => a
  | n + 1, A, a => cs_nd N n (A + 1) (if cb_bc (cs_brk N A) = nI 1 then a ||| cs_brk N A else a)
end CCQ
