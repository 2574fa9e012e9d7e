/-! the reference: what is asked of it, answers, searches -/
theorem cb_sw (x : Int32) (n : Nat) (hn : n < 2 ^ 31) : (∃ j, j ≤ n ∧ x = nI j) ∨ (x.toInt < 0 ∨ (n : Int) < x.toInt) := by
  by_cases c : x < 0
  · right; left
    exact Int32.lt_iff_toInt_lt.mp c
  · obtain ⟨j, hj, rfl⟩ := nI_of c
    rcases Nat.lt_or_ge n j with q | q
    · right; right
      rw [nI_toInt hj]; omega
    · exact Or.inl ⟨j, q, rfl⟩
theorem cm_of_no (l : Launch) (M : cm_S) {x y : Int32} (h : cb_wi x (nI 1) (cm_st M 0) = false) : cw_M l mm_X3_of 0 0 [.ref 0, .int x, .int y] (cm_h M) (some (.int (-nI 1))) (cm_h M) := by
  refine cw_enter cw_kX3_of (by decide) (Nat.le_of_ble_eq_true rfl) ?_
  exact cw_run cw_kX3_of cw_z 5 [false] [] [(_, _)] (And.intro (cm_isThing l M x) (And.intro (Nat.le_refl _) (And.intro ((fun q => q (cb_n0.mpr h))) (cw_reti cw_kX3_of cw_z rfl rfl))))
theorem cm_of_bad (l : Launch) (M : cm_S) {x y : Int32} (h : cb_wi x (nI 1) (cm_st M 0) = true) (hy : y.toInt < 0 ∨ 3 < y.toInt) : cw_M l mm_X3_of 0 0 [.ref 0, .int x, .int y] (cm_h M) (some (.int (-nI 2))) (cm_h M) := by
  refine cw_enter cw_kX3_of (by decide) (Nat.le_of_ble_eq_true rfl) ?_
  exact cw_run cw_kX3_of cw_z 7 [true] [35] [(_, _)] (And.intro (cm_isThing l M x) (And.intro (Nat.le_refl _) (And.intro (cb_nt.mpr h) (And.intro (hy) (cw_reti cw_kX3_of cw_z rfl rfl)))))
def cm_ofa (f : Nat → Int32) (k g : Nat) : Nat → Int32
  | 0 => f (19 + k)
  | 1 => f (29 + k)
  | 2 => f (39 + k)
  | _ => cm_pf f (nI k) g 0 (-nI 6)
theorem cm_of_ok (l : Launch) (M : cm_S) {k g : Nat} (h : cb_wi (nI k) (nI 1) (cm_st M 0) = true) (hk : k ≤ 9) (hg : cm_st M 7 = nI g) (h9 : g ≤ 9) : ∀ j, j ≤ 3 → cw_M l mm_X3_of 0 0 [.ref 0, .int (nI k), .int (nI j)] (cm_h M) (some (.int (cm_ofa (cm_st M) k g j))) (cm_h M)
  | 0, _ => by
    refine cw_enter cw_kX3_of (by decide) (Nat.le_of_ble_eq_true rfl) ?_
    exact cw_run cw_kX3_of cw_z 9 [true] [0] [(_, _), (_, _)] (And.intro (cm_isThing l M _) (And.intro (Nat.le_refl _) (And.intro (cb_nt.mpr h) (And.intro ((by decide)) (And.intro ((by decide)) (And.intro (cm_valueOf l M hk) (And.intro (Nat.le_refl _) (cw_reti cw_kX3_of cw_z rfl rfl))))))))
  | 1, _ => by
    refine cw_enter cw_kX3_of (by decide) (Nat.le_of_ble_eq_true rfl) ?_
    exact cw_run cw_kX3_of cw_z 12 [true] [1, _] [(_, _)] (And.intro (cm_isThing l M _) (And.intro (Nat.le_refl _) (And.intro (cb_nt.mpr h) (And.intro ((show (nI 1).toInt = 0 + ((1 : Nat) : Int) by decide)) (And.intro ((by decide)) (And.intro (nI_add 29 k) (And.intro ((show 29 + k < 109 by omega)) (cw_reti cw_kX3_of cw_z rfl rfl))))))))
  | 2, _ => by
    refine cw_enter cw_kX3_of (by decide) (Nat.le_of_ble_eq_true rfl) ?_
    exact cw_run cw_kX3_of cw_z 12 [true] [2, _] [(_, _)] (And.intro (cm_isThing l M _) (And.intro (Nat.le_refl _) (And.intro (cb_nt.mpr h) (And.intro ((show (nI 2).toInt = 0 + ((2 : Nat) : Int) by decide)) (And.intro ((by decide)) (And.intro (nI_add 39 k) (And.intro ((show 39 + k < 109 by omega)) (cw_reti cw_kX3_of cw_z rfl rfl))))))))
  | 3, _ => by
    refine cw_enter cw_kX3_of (by decide) (Nat.le_of_ble_eq_true rfl) ?_
    exact cw_run cw_kX3_of cw_z 9 [true] [3] [(_, _), (_, _)] (And.intro (cm_isThing l M _) (And.intro (Nat.le_refl _) (And.intro (cb_nt.mpr h) (And.intro ((by decide)) (And.intro ((by decide)) (And.intro (cm_placeOf l M _ hg h9) (And.intro (Nat.le_refl _) (cw_reti cw_kX3_of cw_z rfl rfl))))))))
  | j + 4, hj => absurd hj (by omega)
theorem cm_trail_no (l : Launch) (M : cm_S) {x : Int32} (h : cb_wi x (nI 0) (cm_st M 7 - nI 1) = false) : cw_M l mm_X3_trail 0 0 [.ref 0, .int x] (cm_h M) (some (.int (-nI 1))) (cm_h M) := by
  refine cw_enter cw_kX3_trail (by decide) (Nat.le_of_ble_eq_true rfl) ?_
  exact cw_run cw_kX3_trail cw_z 11 [true] [_] [(_, _)] (And.intro (rfl) (And.intro (Nat.le_of_ble_eq_true rfl) (And.intro (cm_within l _ _ _ _) (And.intro (Nat.le_refl _) (And.intro (cb_n0.mpr h) (cw_reti cw_kX3_trail cw_z rfl rfl))))))
theorem cm_trail_ok (l : Launch) (M : cm_S) {k : Nat} (h : cb_wi (nI k) (nI 0) (cm_st M 7 - nI 1) = true) (hk : k < 9) : cw_M l mm_X3_trail 0 0 [.ref 0, .int (nI k)] (cm_h M) (some (.int (cm_st M (10 + k)))) (cm_h M) := by
  refine cw_enter cw_kX3_trail (by decide) (Nat.le_of_ble_eq_true rfl) ?_
  exact cw_run cw_kX3_trail cw_z 17 [false] [_, _] [(_, _)] (And.intro (rfl) (And.intro (Nat.le_of_ble_eq_true rfl) (And.intro (cm_within l _ _ _ _) (And.intro (Nat.le_refl _) (And.intro (cb_nt.mpr h) (And.intro (nI_add 10 k) (And.intro ((show 10 + k < 109 by omega)) (cw_reti cw_kX3_trail cw_z rfl rfl))))))))
abbrev cb_cl (f : Nat → Int32) (x : Int32) : Bool := cb_wi x (nI 0) (f 3 + f 4 - nI 1)
theorem cm_clause_no (l : Launch) (M : cm_S) {x y : Int32} (h : cb_cl (cm_st M) x = false) : cw_M l mm_X3_clause 0 0 [.ref 0, .int x, .int y] (cm_h M) (some (.int (-nI 1))) (cm_h M) := by
  refine cw_enter cw_kX3_clause (by decide) (Nat.le_of_ble_eq_true rfl) ?_
  exact cw_run cw_kX3_clause cw_z 9 [false] [] [(_, _), (_, _)] (And.intro (cm_clauses l M) (And.intro (Nat.le_refl _) (And.intro (cm_within l _ _ _ _) (And.intro (Nat.le_refl _) (And.intro ((fun q => q (cb_n0.mpr h))) (cw_reti cw_kX3_clause cw_z rfl rfl))))))
theorem cm_clause_bad (l : Launch) (M : cm_S) {x y : Int32} (h : cb_cl (cm_st M) x = true) (hy : cb_wi y (nI 0) (nI 12) = false) : cw_M l mm_X3_clause 0 0 [.ref 0, .int x, .int y] (cm_h M) (some (.int (-nI 2))) (cm_h M) := by
  refine cw_enter cw_kX3_clause (by decide) (Nat.le_of_ble_eq_true rfl) ?_
  exact cw_run cw_kX3_clause cw_z 14 [true, false] [] [(_, _), (_, _), (_, _)] (And.intro (cm_clauses l M) (And.intro (Nat.le_refl _) (And.intro (cm_within l _ _ _ _) (And.intro (Nat.le_refl _) (And.intro (cb_nt.mpr h) (And.intro (cm_within l _ _ _ _) (And.intro (Nat.le_refl _) (And.intro ((fun q => q (cb_n0.mpr hy))) (cw_reti cw_kX3_clause cw_z rfl rfl)))))))))
def cm_cla (f : Nat → Int32) (c : Int32) (j : Nat) : Int32 := if j = 0 then nI (cm_si c 19 1 0) else if j = 10 then cb_n (cm_tru f c) else if j = 11 then cb_n (cm_fa f c) else if j = 12 then nI (cm_opn f c) else cm_sa c 9 1 (nI j - nI 1) (-nI 6)
theorem cm_clause_sw : ∀ j, j ≤ 12 → j ≠ 0 → j ≠ 10 → j ≠ 11 → j ≠ 12 → Op.lookupswitch.offset [(0, 44), (10, 49), (11, 63), (12, 77)] 83 (nI j).toInt = 83 := by decide +kernel
theorem cm_clause_ok (l : Launch) (M : cm_S) {k j : Nat} (h : cb_cl (cm_st M) (nI k) = true) (hk : k < 60) (hj : j ≤ 12) : cw_M l mm_X3_clause 0 0 [.ref 0, .int (nI k), .int (nI j)] (cm_h M) (some (.int (cm_cla (cm_st M) (cm_st M (49 + k)) j))) (cm_h M) := by
  refine cw_enter cw_kX3_clause (by decide) (Nat.le_of_ble_eq_true rfl) ?_
  have hw : cb_wi (nI j) (nI 0) (nI 12) = true := decide_eq_true ⟨nI_nlt (by omega) (by omega), nI_nlt (by omega) (by omega)⟩
  have h49 : 49 + k < 109 := by omega
  have hall : ((#[((0 : Int), (44 : Int)), (10, 49), (11, 63), (12, 77)]).toList.zip ((#[((0 : Int), (44 : Int)), (10, 49), (11, 63), (12, 77)]).toList.drop 1)).all (fun (a, next) => a.1 < next.1) = true := rfl
  unfold cm_cla
  by_cases a : j = 0
  · subst a
    rw [if_pos rfl]
    exact cw_run cw_kX3_clause cw_z 24 [true, true] [_, 0] [(_, _), (_, _), (_, _), (_, _)] (And.intro (cm_clauses l M) (And.intro (Nat.le_refl _) (And.intro (cm_within l _ _ _ _) (And.intro (Nat.le_refl _) (And.intro (cb_nt.mpr h) (And.intro (cm_within l _ _ _ _) (And.intro (Nat.le_refl _) (And.intro (cb_nt.mpr hw) (And.intro (nI_add 49 k) (And.intro (h49) (And.intro (hall) (And.intro (rfl) (And.intro (cm_signsIn l _ _) (And.intro (Nat.le_refl _) (cw_reti cw_kX3_clause cw_z rfl rfl)))))))))))))))
  · rw [if_neg a]
    by_cases b : j = 10
    · subst b
      rw [if_pos rfl]
      have ai := cm_isTrue l M (cm_st M (49 + k))
      show cw_W l mm_X3_clause 0 0 (cm_h M) (some (.int (cb_n (cm_tr (cm_st M) (cm_st M (49 + k)) 19 1 false)))) (cm_h M) 0 0 0 _ [] (cm_h M)
      cases hb : cm_tr (cm_st M) (cm_st M (49 + k)) 19 1 false with
      | true =>
        rw [hb] at ai
        exact cw_run cw_kX3_clause cw_z 28 [true, true, false] [_, 1] [(_, _), (_, _), (_, _), (_, _)] (And.intro (cm_clauses l M) (And.intro (Nat.le_refl _) (And.intro (cm_within l _ _ _ _) (And.intro (Nat.le_refl _) (And.intro (cb_nt.mpr h) (And.intro (cm_within l _ _ _ _) (And.intro (Nat.le_refl _) (And.intro (cb_nt.mpr hw) (And.intro (nI_add 49 k) (And.intro (h49) (And.intro (hall) (And.intro (rfl) (And.intro (ai) (And.intro (Nat.le_refl _) (And.intro (cb_nt.mpr rfl) (cw_reti cw_kX3_clause cw_z rfl rfl))))))))))))))))
      | false =>
        rw [hb] at ai
        exact cw_run cw_kX3_clause cw_z 27 [true, true, true] [_, 1] [(_, _), (_, _), (_, _), (_, _)] (And.intro (cm_clauses l M) (And.intro (Nat.le_refl _) (And.intro (cm_within l _ _ _ _) (And.intro (Nat.le_refl _) (And.intro (cb_nt.mpr h) (And.intro (cm_within l _ _ _ _) (And.intro (Nat.le_refl _) (And.intro (cb_nt.mpr hw) (And.intro (nI_add 49 k) (And.intro (h49) (And.intro (hall) (And.intro (rfl) (And.intro (ai) (And.intro (Nat.le_refl _) (And.intro (cb_n0.mpr rfl) (cw_reti cw_kX3_clause cw_z rfl rfl))))))))))))))))
    · rw [if_neg b]
      by_cases c : j = 11
      · subst c
        rw [if_pos rfl]
        have ai := cm_isFalse l M (cm_st M (49 + k))
        cases hb : cm_fa (cm_st M) (cm_st M (49 + k)) with
        | true =>
          rw [hb] at ai
          exact cw_run cw_kX3_clause cw_z 28 [true, true, false] [_, 2] [(_, _), (_, _), (_, _), (_, _)] (And.intro (cm_clauses l M) (And.intro (Nat.le_refl _) (And.intro (cm_within l _ _ _ _) (And.intro (Nat.le_refl _) (And.intro (cb_nt.mpr h) (And.intro (cm_within l _ _ _ _) (And.intro (Nat.le_refl _) (And.intro (cb_nt.mpr hw) (And.intro (nI_add 49 k) (And.intro (h49) (And.intro (hall) (And.intro (rfl) (And.intro (ai) (And.intro (Nat.le_refl _) (And.intro (cb_nt.mpr rfl) (cw_reti cw_kX3_clause cw_z rfl rfl))))))))))))))))
        | false =>
          rw [hb] at ai
          exact cw_run cw_kX3_clause cw_z 27 [true, true, true] [_, 2] [(_, _), (_, _), (_, _), (_, _)] (And.intro (cm_clauses l M) (And.intro (Nat.le_refl _) (And.intro (cm_within l _ _ _ _) (And.intro (Nat.le_refl _) (And.intro (cb_nt.mpr h) (And.intro (cm_within l _ _ _ _) (And.intro (Nat.le_refl _) (And.intro (cb_nt.mpr hw) (And.intro (nI_add 49 k) (And.intro (h49) (And.intro (hall) (And.intro (rfl) (And.intro (ai) (And.intro (Nat.le_refl _) (And.intro (cb_n0.mpr rfl) (cw_reti cw_kX3_clause cw_z rfl rfl))))))))))))))))
      · rw [if_neg c]
        by_cases d : j = 12
        · subst d
          rw [if_pos rfl]
          have ai := cm_openIn l M (cm_st M (49 + k))
          exact cw_run cw_kX3_clause cw_z 25 [true, true] [_, 3] [(_, _), (_, _), (_, _), (_, _)] (And.intro (cm_clauses l M) (And.intro (Nat.le_refl _) (And.intro (cm_within l _ _ _ _) (And.intro (Nat.le_refl _) (And.intro (cb_nt.mpr h) (And.intro (cm_within l _ _ _ _) (And.intro (Nat.le_refl _) (And.intro (cb_nt.mpr hw) (And.intro (nI_add 49 k) (And.intro (h49) (And.intro (hall) (And.intro (rfl) (And.intro (ai) (And.intro (Nat.le_refl _) (cw_reti cw_kX3_clause cw_z rfl rfl)))))))))))))))
        · rw [if_neg d]
          exact cw_run cw_kX3_clause cw_z 27 [true, true] [_, 35] [(_, _), (_, _), (_, _), (_, _)] (And.intro (cm_clauses l M) (And.intro (Nat.le_refl _) (And.intro (cm_within l _ _ _ _) (And.intro (Nat.le_refl _) (And.intro (cb_nt.mpr h) (And.intro (cm_within l _ _ _ _) (And.intro (Nat.le_refl _) (And.intro (cb_nt.mpr hw) (And.intro (nI_add 49 k) (And.intro (h49) (And.intro (hall) (And.intro (cm_clause_sw j hj a b c d) (And.intro (cm_signAt l _ _ _) (And.intro (Nat.le_refl _) (cw_reti cw_kX3_clause cw_z rfl rfl)))))))))))))))
def cm_cnt (M : cm_S) : Nat → Int32
  | 0 => cm_st M 3
  | 1 => cm_st M 4
  | 2 => cm_st M 5
  | 3 => cm_st M 6
  | 4 => cm_st M 7
  | 5 => cm_st M 8
  | 6 => cm_st M 9
  | 7 => cm_st M 0
  | 8 => cm_st M 1
  | 9 => cm_st M 2
  | 10 => M.2.2.2.2.2.2.2.1
  | _ => M.2.2.2.1
theorem cm_count (l : Launch) (M : cm_S) : ∀ j, j ≤ 11 → cw_M l mm_X3_count 0 0 [.ref 0, .int (nI j)] (cm_h M) (some (.int (cm_cnt M j))) (cm_h M)
  | 0, _ => by
    refine cw_enter cw_kX3_count (by decide) (Nat.le_of_ble_eq_true rfl) ?_
    exact cw_run cw_kX3_count cw_z 6 [] [0, _] [] (And.intro ((by decide)) (And.intro ((by decide)) (And.intro (rfl) (And.intro (Nat.le_of_ble_eq_true rfl) (cw_reti cw_kX3_count cw_z rfl rfl)))))
  | 1, _ => by
    refine cw_enter cw_kX3_count (by decide) (Nat.le_of_ble_eq_true rfl) ?_
    exact cw_run cw_kX3_count cw_z 6 [] [1, _] [] (And.intro ((by decide)) (And.intro ((by decide)) (And.intro (rfl) (And.intro (Nat.le_of_ble_eq_true rfl) (cw_reti cw_kX3_count cw_z rfl rfl)))))
  | 2, _ => by
    refine cw_enter cw_kX3_count (by decide) (Nat.le_of_ble_eq_true rfl) ?_
    exact cw_run cw_kX3_count cw_z 6 [] [2, _] [] (And.intro ((by decide)) (And.intro ((by decide)) (And.intro (rfl) (And.intro (Nat.le_of_ble_eq_true rfl) (cw_reti cw_kX3_count cw_z rfl rfl)))))
  | 3, _ => by
    refine cw_enter cw_kX3_count (by decide) (Nat.le_of_ble_eq_true rfl) ?_
    exact cw_run cw_kX3_count cw_z 6 [] [3, _] [] (And.intro ((by decide)) (And.intro ((by decide)) (And.intro (rfl) (And.intro (Nat.le_of_ble_eq_true rfl) (cw_reti cw_kX3_count cw_z rfl rfl)))))
  | 4, _ => by
    refine cw_enter cw_kX3_count (by decide) (Nat.le_of_ble_eq_true rfl) ?_
    exact cw_run cw_kX3_count cw_z 6 [] [4, _] [] (And.intro ((by decide)) (And.intro ((by decide)) (And.intro (rfl) (And.intro (Nat.le_of_ble_eq_true rfl) (cw_reti cw_kX3_count cw_z rfl rfl)))))
  | 5, _ => by
    refine cw_enter cw_kX3_count (by decide) (Nat.le_of_ble_eq_true rfl) ?_
    exact cw_run cw_kX3_count cw_z 6 [] [5, _] [] (And.intro ((by decide)) (And.intro ((by decide)) (And.intro (rfl) (And.intro (Nat.le_of_ble_eq_true rfl) (cw_reti cw_kX3_count cw_z rfl rfl)))))
  | 6, _ => by
    refine cw_enter cw_kX3_count (by decide) (Nat.le_of_ble_eq_true rfl) ?_
    exact cw_run cw_kX3_count cw_z 6 [] [6, _] [] (And.intro ((by decide)) (And.intro ((by decide)) (And.intro (rfl) (And.intro (Nat.le_of_ble_eq_true rfl) (cw_reti cw_kX3_count cw_z rfl rfl)))))
  | 7, _ => by
    refine cw_enter cw_kX3_count (by decide) (Nat.le_of_ble_eq_true rfl) ?_
    exact cw_run cw_kX3_count cw_z 8 [] [7, _] [] (And.intro ((by decide)) (And.intro ((by decide)) (And.intro ((show nI 7 - nI 7 = nI 0 by decide)) (And.intro (Nat.le_of_ble_eq_true rfl) (cw_reti cw_kX3_count cw_z rfl rfl)))))
  | 8, _ => by
    refine cw_enter cw_kX3_count (by decide) (Nat.le_of_ble_eq_true rfl) ?_
    exact cw_run cw_kX3_count cw_z 8 [] [8, _] [] (And.intro ((by decide)) (And.intro ((by decide)) (And.intro ((show nI 8 - nI 7 = nI 1 by decide)) (And.intro (Nat.le_of_ble_eq_true rfl) (cw_reti cw_kX3_count cw_z rfl rfl)))))
  | 9, _ => by
    refine cw_enter cw_kX3_count (by decide) (Nat.le_of_ble_eq_true rfl) ?_
    exact cw_run cw_kX3_count cw_z 8 [] [9, _] [] (And.intro ((by decide)) (And.intro ((by decide)) (And.intro ((show nI 9 - nI 7 = nI 2 by decide)) (And.intro (Nat.le_of_ble_eq_true rfl) (cw_reti cw_kX3_count cw_z rfl rfl)))))
  | 10, _ => by
    refine cw_enter cw_kX3_count (by decide) (Nat.le_of_ble_eq_true rfl) ?_
    exact cw_run cw_kX3_count cw_z 4 [] [10] [] (And.intro ((by decide)) (And.intro ((by decide)) (cw_reti cw_kX3_count cw_z rfl rfl)))
  | 11, _ => by
    refine cw_enter cw_kX3_count (by decide) (Nat.le_of_ble_eq_true rfl) ?_
    exact cw_run cw_kX3_count cw_z 4 [] [11] [] (And.intro ((by decide)) (And.intro ((by decide)) (cw_reti cw_kX3_count cw_z rfl rfl)))
  | j + 12, hj => absurd hj (by omega)
theorem cm_count_bad (l : Launch) (M : cm_S) {x : Int32} (hy : x.toInt < 0 ∨ 11 < x.toInt) : cw_M l mm_X3_count 0 0 [.ref 0, .int x] (cm_h M) (some (.int (-nI 2))) (cm_h M) := by
  refine cw_enter cw_kX3_count (by decide) (Nat.le_of_ble_eq_true rfl) ?_
  exact cw_run cw_kX3_count cw_z 3 [] [35] [] (And.intro (hy) (cw_reti cw_kX3_count cw_z rfl rfl))
theorem cm_answers (l : Launch) (M : cm_S) {t th : Nat} (ht : cm_st M 3 = nI t) (h20 : t ≤ 20) (hth : cm_st M 0 = nI th) (h9 : th ≤ 9) : cw_M l mm_X3_answers 0 0 [.ref 0] (cm_h M) (some (.int (nI (cm_ab (cm_st M) t (-nI 6) (2 ^ th) 0 0)))) (cm_h M) := by
  refine cw_enter cw_kX3_answers (by decide) (Nat.le_of_ble_eq_true rfl) ?_
  exact cw_run cw_kX3_answers cw_z 3 [] [] [(_, _)] (And.intro (cm_answersBut l M (-nI 6) ht h20 hth h9) (And.intro (Nat.le_refl _) (cw_reti cw_kX3_answers cw_z rfl rfl)))
/-- how many answers there are, and how many with a thing at 1 -/
def cm_io2 (f : Nat → Int32) (t x : Nat) : Nat → Nat → Nat → Nat → Nat × Nat
  | 0, _, a, b => (a, b)
  | n + 1, A, a, b => cm_io2 f t x n (A + 1) (a + (if cm_isa f t A (-nI 6) = true ∧ bt (nI A) (x - 1) = true then 1 else 0)) (b + (if cm_isa f t A (-nI 6) then 1 else 0))
theorem cm_io2_le (f : Nat → Int32) (t x : Nat) : ∀ n A a b, (cm_io2 f t x n A a b).1 ≤ a + n ∧ (cm_io2 f t x n A a b).2 ≤ b + n
  | 0, _, _, _ => ⟨Nat.le_refl _, Nat.le_refl _⟩
  | n + 1, A, a, b => by
    have h := cm_io2_le f t x n (A + 1) (a + (if cm_isa f t A (-nI 6) = true ∧ bt (nI A) (x - 1) = true then 1 else 0)) (b + (if cm_isa f t A (-nI 6) then 1 else 0))
    have h2 : (if cm_isa f t A (-nI 6) = true ∧ bt (nI A) (x - 1) = true then 1 else 0) ≤ 1 := by split <;> omega
    have h3 : (if cm_isa f t A (-nI 6) then 1 else 0) ≤ 1 := by split <;> omega
    unfold cm_io2
    omega
def cm_ina (p : Nat × Nat) (w : Int32) : Int32 := if w = 0 then nI p.1 else if p.1 = 0 then nI 1 else if p.1 = p.2 then nI 1 else nI 0
theorem cm_in_no (l : Launch) (M : cm_S) {x y : Int32} (h : cb_wi x (nI 1) (cm_st M 0) = false) : cw_M l mm_X3_inAnswers 0 0 [.ref 0, .int x, .int y] (cm_h M) (some (.int (-nI 1))) (cm_h M) := by
  refine cw_enter cw_kX3_inAnswers (by decide) (Nat.le_of_ble_eq_true rfl) ?_
  exact cw_run cw_kX3_inAnswers cw_z 9 [true, true] [] [(_, _), (_, _)] (And.intro (cm_isThing l M x) (And.intro (Nat.le_refl _) (And.intro (cb_n0.mpr h) (And.intro (cm_isThing l M x) (And.intro (Nat.le_refl _) (And.intro (cb_n0.mpr h) (cw_reti cw_kX3_inAnswers cw_z rfl rfl)))))))
theorem cm_in_bad (l : Launch) (M : cm_S) {x y : Int32} (h : cb_wi x (nI 1) (cm_st M 0) = true) (hy : cb_wi y (nI 0) (nI 1) = false) : cw_M l mm_X3_inAnswers 0 0 [.ref 0, .int x, .int y] (cm_h M) (some (.int (-nI 2))) (cm_h M) := by
  refine cw_enter cw_kX3_inAnswers (by decide) (Nat.le_of_ble_eq_true rfl) ?_
  exact cw_run cw_kX3_inAnswers cw_z 15 [false, false, false] [] [(_, _), (_, _), (_, _)] (And.intro (cm_isThing l M x) (And.intro (Nat.le_refl _) (And.intro (cb_nt.mpr h) (And.intro (cm_within l _ _ _ _) (And.intro (Nat.le_refl _) (And.intro ((fun q => q (cb_n0.mpr hy))) (And.intro (cm_isThing l M x) (And.intro (Nat.le_refl _) (And.intro (cb_nt.mpr h) (cw_reti cw_kX3_inAnswers cw_z rfl rfl))))))))))
theorem cm_in_end (l : Launch) (M0 M : cm_S) (a b : Nat) (ha : a ≤ 512) (hb : b ≤ 512) (w : Int32) {lv : cw_LV} {is : List Nat} (hl : lv_pick lv is = [(4, .int (nI b)), (3, .int (nI a)), (2, .int w)]) : cw_W l mm_X3_inAnswers 0 0 (cm_h M0) (some (.int (cm_ina (a, b) w))) (cm_h M) 0 0 104 lv [] (cm_h M) := by
  refine cw_less is hl ?_
  unfold cm_ina
  by_cases c : w = 0
  · rw [if_pos c]
    exact cw_run cw_kX3_inAnswers cw_z 4 [false] [] [] (And.intro ((fun q => q c)) (cw_reti cw_kX3_inAnswers cw_z rfl rfl))
  · rw [if_neg c]
    by_cases d : a = 0
    · rw [if_pos d]
      exact cw_run cw_kX3_inAnswers cw_z 6 [true, true] [] [] (And.intro (c) (And.intro ((show nI a = 0 by rw [d]; rfl)) (cw_reti cw_kX3_inAnswers cw_z rfl rfl)))
    · rw [if_neg d]
      have n0 : ¬ nI a = 0 := nI_ne0 (by omega) (by omega)
      by_cases e : a = b
      · rw [if_pos e]
        exact cw_run cw_kX3_inAnswers cw_z 9 [true, false, false] [] [] (And.intro (c) (And.intro (n0) (And.intro ((fun q => q (congrArg nI e))) (cw_reti cw_kX3_inAnswers cw_z rfl rfl))))
      · rw [if_neg e]
        exact cw_run cw_kX3_inAnswers cw_z 8 [true, false, true] [] [] (And.intro (c) (And.intro (n0) (And.intro ((fun q => e ((nI_eq (by omega) (by omega)).mp q))) (cw_reti cw_kX3_inAnswers cw_z rfl rfl))))
theorem cm_in_loop (l : Launch) (M : cm_S) {t th x : Nat} (w : Int32) (ht : cm_st M 3 = nI t) (h20 : t ≤ 20) (hth : cm_st M 0 = nI th) (h9 : th ≤ 9) (hx : 1 ≤ x ∧ x ≤ 9) : ∀ n A a b lv', A + n = 2 ^ th → a ≤ A → b ≤ A → cw_W l mm_X3_inAnswers 0 0 (cm_h M) (some (.int (cm_ina (cm_io2 (cm_st M) t x n A a b) w))) (cm_h M) 0 0 40 ([(5, .int (nI A)), (4, .int (nI b)), (3, .int (nI a)), (0, .ref 0), (1, .int (nI x)), (2, .int w)] ++ lv') [] (cm_h M) := by
  have h512 := cb_pow9 h9
  have ep : nI 1 <<< (cm_st M 0 &&& 31) = nI (2 ^ th) := by rw [hth]; exact cb_pow th h9
  intro n
  induction n with
  | zero =>
    intro A a b lv' hA ha hb
    exact cw_less [0, 1, 2, 3, 4, 5] rfl (cw_run cw_kX3_inAnswers cw_z 8 [true] [_] [] (And.intro (rfl) (And.intro (Nat.le_of_ble_eq_true rfl) (And.intro ((show nI 1 <<< (cm_st M 0 &&& 31) ≤ nI A by rw [ep]; exact nI_le (by omega) (by omega))) (cm_in_end l M M a b (by omega) (by omega) w (is := [1, 2, 5]) rfl)))))
  | succ n ih =>
    intro A a b lv' hA ha hb
    have h0 : ¬ nI 1 <<< (cm_st M 0 &&& 31) ≤ nI A := by rw [ep]; exact nI_ge (by omega) (by omega)
    have aa := cm_isAnswer l M A (-nI 6) ht h20
    refine cw_less [0, 1, 2, 3, 4, 5] rfl ?_
    unfold cm_io2
    cases c : cm_isa (cm_st M) t A (-nI 6) with
    | true =>
      rw [c] at aa
      rw [if_pos rfl]
      have er : (nI A >>> ((nI x - nI 1) &&& 31)) &&& nI 1 = nI (if true = true ∧ bt (nI A) (x - 1) = true then 1 else 0) := by
        rw [pk_sub hx.1, cb_shb _ (by omega), cb_nn]
        simp
      have ih1 := ih (A + 1) (a + (if true = true ∧ bt (nI A) (x - 1) = true then 1 else 0)) (b + 1) [(6, .int (cb_n true))] (by omega) (by split <;> omega) (by omega)
      rw [← nI_add A 1, ← nI_add b 1, ← nI_add a, ← er] at ih1
      exact cw_run cw_kX3_inAnswers cw_z 35 [false, false, false] [_] [(_, _)] (And.intro (rfl) (And.intro (Nat.le_of_ble_eq_true rfl) (And.intro (h0) (And.intro (aa) (And.intro (Nat.le_refl _) (And.intro (cb_nt.mpr rfl) (And.intro (cb_nt.mpr rfl) (cw_less [0, 2, 1, 4, 5, 6, 3] rfl ih1))))))))
    | false =>
      rw [c] at aa
      rw [if_neg (by simp), if_neg (by decide)]
      have ih1 := ih (A + 1) (a + 0) (b + 0) [(6, .int (cb_n false))] (by omega) (by omega) (by omega)
      rw [← nI_add A 1, ← nI_add b 0, ← nI_add a 0] at ih1
      exact cw_run cw_kX3_inAnswers cw_z 27 [false, true, true] [_] [(_, _)] (And.intro (rfl) (And.intro (Nat.le_of_ble_eq_true rfl) (And.intro (h0) (And.intro (aa) (And.intro (Nat.le_refl _) (And.intro (cb_n0.mpr rfl) (And.intro (cb_n0.mpr rfl) (cw_less [0, 2, 1, 4, 5, 6, 3] rfl ih1))))))))
theorem cm_in_ok (l : Launch) (M : cm_S) {t th x : Nat} {w : Int32} (h : cb_wi (nI x) (nI 1) (cm_st M 0) = true) (hy : cb_wi w (nI 0) (nI 1) = true) (ht : cm_st M 3 = nI t) (h20 : t ≤ 20) (hth : cm_st M 0 = nI th) (h9 : th ≤ 9) (hx : 1 ≤ x ∧ x ≤ 9) : cw_M l mm_X3_inAnswers 0 0 [.ref 0, .int (nI x), .int w] (cm_h M) (some (.int (cm_ina (cm_io2 (cm_st M) t x (2 ^ th) 0 0 0) w))) (cm_h M) := by
  refine cw_enter cw_kX3_inAnswers (by decide) (Nat.le_of_ble_eq_true rfl) ?_
  exact cw_run cw_kX3_inAnswers cw_z 15 [false, true] [] [(_, _), (_, _)] (And.intro (cm_isThing l M _) (And.intro (Nat.le_refl _) (And.intro (cb_nt.mpr h) (And.intro (cm_within l _ _ _ _) (And.intro (Nat.le_refl _) (And.intro (cb_nt.mpr hy) (cm_in_loop l M w ht h20 hth h9 hx (2 ^ th) 0 0 0 [] (by omega) (by omega) (by omega))))))))
/-- does a clause follow? -/
def cm_fl (f : Nat → Int32) (t : Nat) (c : Int32) : Nat → Nat → Bool → Bool
  | 0, _, b => b
  | n + 1, A, b => cm_fl f t c n (A + 1) (b && (!cm_isa f t A (-nI 6) || cm_fi c A 19 1 false))
theorem cm_fl_no (l : Launch) (M : cm_S) {x : Int32} (h : cb_cl (cm_st M) x = false) : cw_M l mm_X3_follows 0 0 [.ref 0, .int x] (cm_h M) (some (.int (-nI 1))) (cm_h M) := by
  refine cw_enter cw_kX3_follows (by decide) (Nat.le_of_ble_eq_true rfl) ?_
  exact cw_run cw_kX3_follows cw_z 9 [false] [] [(_, _), (_, _)] (And.intro (cm_clauses l M) (And.intro (Nat.le_refl _) (And.intro (cm_within l _ _ _ _) (And.intro (Nat.le_refl _) (And.intro ((fun q => q (cb_n0.mpr h))) (cw_reti cw_kX3_follows cw_z rfl rfl))))))
theorem cm_fl_loop (l : Launch) (M : cm_S) {t th k : Nat} (ht : cm_st M 3 = nI t) (h20 : t ≤ 20) (hth : cm_st M 0 = nI th) (h9 : th ≤ 9) (hk : k < 60) : ∀ n A b, A + n = 2 ^ th → cw_W l mm_X3_follows 0 0 (cm_h M) (some (.int (cb_n (cm_fl (cm_st M) t (cm_st M (49 + k)) n A b)))) (cm_h M) 0 0 20 [(3, .int (nI A)), (2, .int (cb_n b)), (0, .ref 0), (1, .int (nI k))] [] (cm_h M) := by
  have h512 := cb_pow9 h9
  have ep : nI 1 <<< (cm_st M 0 &&& 31) = nI (2 ^ th) := by rw [hth]; exact cb_pow th h9
  intro n
  induction n with
  | zero =>
    intro A b hA
    have hge : nI 1 <<< (cm_st M 0 &&& 31) ≤ nI A := by rw [ep]; exact nI_le (by omega) (by omega)
    cases b with
    | true => exact cw_run cw_kX3_follows cw_z 12 [true, false] [_] [] (And.intro (rfl) (And.intro (Nat.le_of_ble_eq_true rfl) (And.intro (hge) (And.intro (cb_nt.mpr rfl) (cw_reti cw_kX3_follows cw_z rfl rfl)))))
    | false => exact cw_run cw_kX3_follows cw_z 11 [true, true] [_] [] (And.intro (rfl) (And.intro (Nat.le_of_ble_eq_true rfl) (And.intro (hge) (And.intro (cb_n0.mpr rfl) (cw_reti cw_kX3_follows cw_z rfl rfl)))))
  | succ n ih =>
    intro A b hA
    have h0 : ¬ nI 1 <<< (cm_st M 0 &&& 31) ≤ nI A := by rw [ep]; exact nI_ge (by omega) (by omega)
    have aa := cm_isAnswer l M A (-nI 6) ht h20
    have af := cm_fits l (cm_h M) (cm_st M (49 + k)) A
    have ih1 := fun b => ih (A + 1) b (by omega)
    rw [← nI_add A 1] at ih1
    unfold cm_fl
    cases b with
    | false =>
      rw [Bool.false_and]
      exact cw_run cw_kX3_follows cw_z 14 [false, true] [_] [] (And.intro (rfl) (And.intro (Nat.le_of_ble_eq_true rfl) (And.intro (h0) (And.intro (cb_n0.mpr rfl) (ih1 false)))))
    | true =>
      rw [Bool.true_and]
      cases c : cm_isa (cm_st M) t A (-nI 6) with
      | false =>
        rw [c] at aa
        rw [Bool.not_false, Bool.true_or]
        exact cw_run cw_kX3_follows cw_z 20 [false, false, true] [_] [(_, _)] (And.intro (rfl) (And.intro (Nat.le_of_ble_eq_true rfl) (And.intro (h0) (And.intro (cb_nt.mpr rfl) (And.intro (aa) (And.intro (Nat.le_refl _) (And.intro (cb_n0.mpr rfl) (ih1 true))))))))
      | true =>
        rw [c] at aa
        rw [Bool.not_true, Bool.false_or]
        cases d : cm_fi (cm_st M (49 + k)) A 19 1 false with
        | true =>
          rw [d] at af
          exact cw_run cw_kX3_follows cw_z 29 [false, false, false, false] [_, _] [(_, _), (_, _)] (And.intro (rfl) (And.intro (Nat.le_of_ble_eq_true rfl) (And.intro (h0) (And.intro (cb_nt.mpr rfl) (And.intro (aa) (And.intro (Nat.le_refl _) (And.intro (cb_nt.mpr rfl) (And.intro (nI_add 49 k) (And.intro ((show 49 + k < 109 by omega)) (And.intro (af) (And.intro (Nat.le_refl _) (And.intro (cb_nt.mpr rfl) (ih1 true)))))))))))))
        | false =>
          rw [d] at af
          exact cw_run cw_kX3_follows cw_z 28 [false, false, false, true] [_, _] [(_, _), (_, _)] (And.intro (rfl) (And.intro (Nat.le_of_ble_eq_true rfl) (And.intro (h0) (And.intro (cb_nt.mpr rfl) (And.intro (aa) (And.intro (Nat.le_refl _) (And.intro (cb_nt.mpr rfl) (And.intro (nI_add 49 k) (And.intro ((show 49 + k < 109 by omega)) (And.intro (af) (And.intro (Nat.le_refl _) (And.intro (cb_n0.mpr rfl) (ih1 false)))))))))))))
theorem cm_fl_ok (l : Launch) (M : cm_S) {t th k : Nat} (h : cb_cl (cm_st M) (nI k) = true) (ht : cm_st M 3 = nI t) (h20 : t ≤ 20) (hth : cm_st M 0 = nI th) (h9 : th ≤ 9) (hk : k < 60) : cw_M l mm_X3_follows 0 0 [.ref 0, .int (nI k)] (cm_h M) (some (.int (cb_n (cm_fl (cm_st M) t (cm_st M (49 + k)) (2 ^ th) 0 true)))) (cm_h M) := by
  refine cw_enter cw_kX3_follows (by decide) (Nat.le_of_ble_eq_true rfl) ?_
  exact cw_run cw_kX3_follows cw_z 12 [true] [] [(_, _), (_, _)] (And.intro (cm_clauses l M) (And.intro (Nat.le_refl _) (And.intro (cm_within l _ _ _ _) (And.intro (Nat.le_refl _) (And.intro (cb_nt.mpr h) (cm_fl_loop l M ht h20 hth h9 hk (2 ^ th) 0 true (by omega)))))))
/-- the needless ones -/
def cm_nd (f : Nat → Int32) (t th : Nat) : Nat → Nat → Int32 → Int32
  | 0, _, a => a
  | n + 1, k, a => cm_nd f t th n (k + 1) (a ||| (if cm_ab f t (nI k) (2 ^ th) 0 0 = cm_ab f t (-nI 6) (2 ^ th) 0 0 then nI 1 <<< (nI k &&& 31) else nI 0))
theorem cm_ab_le (f : Nat → Int32) (t : Nat) (but : Int32) : ∀ n A m, cm_ab f t but n A m ≤ m + n
  | 0, _, _ => Nat.le_refl _
  | n + 1, A, m => by
    have h := cm_ab_le f t but n (A + 1) (m + (if cm_isa f t A but then 1 else 0))
    have h3 : (if cm_isa f t A but then 1 else 0) ≤ 1 := by split <;> omega
    unfold cm_ab
    omega
theorem cm_nd_loop (l : Launch) (M : cm_S) {t th : Nat} (ht : cm_st M 3 = nI t) (h20 : t ≤ 20) (hth : cm_st M 0 = nI th) (h9 : th ≤ 9) : ∀ n k a, k + n = t → cw_W l mm_X3_needless 0 0 (cm_h M) (some (.int (cm_nd (cm_st M) t th n k a))) (cm_h M) 0 0 11 [(3, .int (nI k)), (2, .int a), (1, .int (nI (cm_ab (cm_st M) t (-nI 6) (2 ^ th) 0 0))), (0, .ref 0)] [] (cm_h M) := by
  have h512 := cb_pow9 h9
  intro n
  induction n with
  | zero =>
    intro k a hk
    exact cw_run cw_kX3_needless cw_z 7 [true] [_] [] (And.intro (rfl) (And.intro (Nat.le_of_ble_eq_true rfl) (And.intro ((show cm_st M 3 ≤ nI k by rw [ht]; exact nI_le (by omega) (by omega))) (cw_reti cw_kX3_needless cw_z rfl rfl))))
  | succ n ih =>
    intro k a hk
    have h0 : ¬ cm_st M 3 ≤ nI k := by rw [ht]; exact nI_ge (by omega) (by omega)
    have ab := cm_answersBut l M (nI k) ht h20 hth h9
    have l1 := cm_ab_le (cm_st M) t (nI k) (2 ^ th) 0 0
    have l2 := cm_ab_le (cm_st M) t (-nI 6) (2 ^ th) 0 0
    unfold cm_nd
    by_cases c : cm_ab (cm_st M) t (nI k) (2 ^ th) 0 0 = cm_ab (cm_st M) t (-nI 6) (2 ^ th) 0 0
    · rw [if_pos c]
      have ih1 := ih (k + 1) (a ||| (nI 1 <<< (nI k &&& 31))) (by omega)
      rw [← nI_add k 1] at ih1
      exact cw_run cw_kX3_needless cw_z 20 [false, false] [_] [(_, _)] (And.intro (rfl) (And.intro (Nat.le_of_ble_eq_true rfl) (And.intro (h0) (And.intro (ab) (And.intro (Nat.le_refl _) (And.intro ((fun q => q (congrArg nI c))) (ih1)))))))
    · rw [if_neg c]
      have ih1 := ih (k + 1) (a ||| nI 0) (by omega)
      rw [← nI_add k 1] at ih1
      exact cw_run cw_kX3_needless cw_z 17 [false, true] [_] [(_, _)] (And.intro (rfl) (And.intro (Nat.le_of_ble_eq_true rfl) (And.intro (h0) (And.intro (ab) (And.intro (Nat.le_refl _) (And.intro ((fun q => c ((nI_eq (by omega) (by omega)).mp q))) (ih1)))))))
theorem cm_needless (l : Launch) (M : cm_S) {t th : Nat} (ht : cm_st M 3 = nI t) (h20 : t ≤ 20) (hth : cm_st M 0 = nI th) (h9 : th ≤ 9) : cw_M l mm_X3_needless 0 0 [.ref 0] (cm_h M) (some (.int (cm_nd (cm_st M) t th t 0 (nI 0)))) (cm_h M) := by
  refine cw_enter cw_kX3_needless (by decide) (Nat.le_of_ble_eq_true rfl) ?_
  exact cw_run cw_kX3_needless cw_z 8 [] [] [(_, _)] (And.intro (cm_answersBut l M (-nI 6) ht h20 hth h9) (And.intro (Nat.le_refl _) (cm_nd_loop l M ht h20 hth h9 t 0 (nI 0) (by omega))))
/-- searches beside the state: it is kept, and comes back -/
abbrev cm_kp (M : cm_S) : Nat → Int32 := cm_cp M.1 M.2.1 0 0 109
theorem cm_kst (l : Launch) (M : cm_S) : cw_M l mm_X3_moves 0 0 [.ref 1, .int (nI 0), .ref 2, .int (nI 0)] (cm_h M) none (cm_h (M.1, cm_kp M, M.2.2)) :=
  cm_moves l (na := 109) (nb := 109) (a := 0) (b := 0) (p := 1) (q := 2) (F := M.1) (G := M.2.1) (h := cm_h M) (by omega) (by omega) (Or.inl rfl) (Or.inl rfl) rfl rfl (by decide)
theorem cm_ukst (l : Launch) (M : cm_S) : cw_M l mm_X3_moves 0 0 [.ref 2, .int (nI 0), .ref 1, .int (nI 0)] (cm_h M) none (cm_h (cm_wst M (cm_cp M.2.1 M.1 0 0 109))) :=
  cm_moves l (na := 109) (nb := 109) (a := 0) (b := 0) (p := 2) (q := 1) (F := M.2.1) (G := M.1) (h := cm_h M) (by omega) (by omega) (Or.inl rfl) (Or.inl rfl) rfl rfl (by decide)
def cm_sra (f : Nat → Int32) (w : Int32) : Int32 := if f 5 = 0 then -nI 6 else if w = 0 then f 9 else if w = nI 1 then f 8 else f 5
theorem cm_sr_bad (l : Launch) (M : cm_S) {x w : Int32} (h : cb_wi x (nI 0) (nI 1) = false ∨ cb_wi w (nI 0) (nI 2) = false) : cw_M l mm_X3_searched 0 0 [.ref 0, .int x, .int w] (cm_h M) (some (.int (-nI 2))) (cm_h M) := by
  refine cw_enter cw_kX3_searched (by decide) (Nat.le_of_ble_eq_true rfl) ?_
  cases a : cb_wi x (nI 0) (nI 1) with
  | false => exact cw_run cw_kX3_searched cw_z 6 [true] [] [(_, _)] (And.intro (cm_within l _ _ _ _) (And.intro (Nat.le_refl _) (And.intro (cb_n0.mpr a) (cw_reti cw_kX3_searched cw_z rfl rfl))))
  | true =>
    have b := h.resolve_left (by rw [a]; decide)
    exact cw_run cw_kX3_searched cw_z 11 [false, false] [] [(_, _), (_, _)] (And.intro (cm_within l _ _ _ _) (And.intro (Nat.le_refl _) (And.intro (cb_nt.mpr a) (And.intro (cm_within l _ _ _ _) (And.intro (Nat.le_refl _) (And.intro ((fun q => q (cb_n0.mpr b))) (cw_reti cw_kX3_searched cw_z rfl rfl)))))))
theorem cm_sr_ok (l : Launch) (M : cm_S) {x w : Int32} {t : Nat} {f2 : Nat → Int32} (hx : cb_wi x (nI 0) (nI 1) = true) (hw : cb_wi w (nI 0) (nI 2) = true) (ht : cm_st M 3 = nI t) (h20 : t ≤ 20)
    (hg : cw_M l mm_X3_goOn 0 0 [.ref 0, .int (nI 2000)] (cm_h (cm_an (upd (cm_st M) 2 x) t, cm_kp M, M.2.2)) none (cm_h (f2, cm_kp M, M.2.2))) : cw_M l mm_X3_searched 0 0 [.ref 0, .int x, .int w] (cm_h M) (some (.int (cm_sra f2 w))) (cm_h (cm_cp (cm_kp M) f2 0 0 109, cm_kp M, M.2.2)) := by
  refine cw_enter cw_kX3_searched (by decide) (Nat.le_of_ble_eq_true rfl) ?_
  have ak := cm_kst l M
  have ab := cm_beginsAnew l (upd (cm_st M) 2 x, cm_kp M, M.2.2) (t := t) (show upd (cm_st M) 2 x 3 = nI t by rw [pk_un (by omega)]; exact ht) h20
  have au := cm_ukst l (f2, cm_kp M, M.2.2)
  refine cw_run cw_kX3_searched cw_z 27 [false, true] [_] [(_, _), (_, _), (_, _), (_, _), (_, _)] (And.intro (cm_within l _ _ _ _) (And.intro (Nat.le_refl _) (And.intro (cb_nt.mpr hx) (And.intro (cm_within l _ _ _ _) (And.intro (Nat.le_refl _) (And.intro (cb_nt.mpr hw) (And.intro (ak) (And.intro (Nat.le_refl _) (And.intro (rfl) (And.intro (Nat.le_of_ble_eq_true rfl) (And.intro (ab) (And.intro (Nat.le_refl _) (And.intro (hg) (And.intro (Nat.le_refl _) (?_)))))))))))))))
  unfold cm_sra
  by_cases a : f2 5 = 0
  · rw [if_pos a]
    exact cw_run cw_kX3_searched cw_z 16 [false] [_] [(_, _)] (And.intro (rfl) (And.intro (Nat.le_of_ble_eq_true rfl) (And.intro ((fun q => q a)) (And.intro (au) (And.intro (Nat.le_refl _) (cw_reti cw_kX3_searched cw_z rfl rfl))))))
  · rw [if_neg a]
    by_cases b : w = 0
    · rw [if_pos b]
      exact cw_run cw_kX3_searched cw_z 21 [true, false] [_, _] [(_, _)] (And.intro (rfl) (And.intro (Nat.le_of_ble_eq_true rfl) (And.intro (a) (And.intro ((fun q => q b)) (And.intro (rfl) (And.intro (Nat.le_of_ble_eq_true rfl) (And.intro (au) (And.intro (Nat.le_refl _) (cw_reti cw_kX3_searched cw_z rfl rfl)))))))))
    · rw [if_neg b]
      by_cases c : w = nI 1
      · rw [if_pos c]
        exact cw_run cw_kX3_searched cw_z 24 [true, true, false] [_, _] [(_, _)] (And.intro (rfl) (And.intro (Nat.le_of_ble_eq_true rfl) (And.intro (a) (And.intro (b) (And.intro ((fun q => q c)) (And.intro (rfl) (And.intro (Nat.le_of_ble_eq_true rfl) (And.intro (au) (And.intro (Nat.le_refl _) (cw_reti cw_kX3_searched cw_z rfl rfl))))))))))
      · rw [if_neg c]
        exact cw_run cw_kX3_searched cw_z 23 [true, true, true] [_, _] [(_, _)] (And.intro (rfl) (And.intro (Nat.le_of_ble_eq_true rfl) (And.intro (a) (And.intro (b) (And.intro (c) (And.intro (rfl) (And.intro (Nat.le_of_ble_eq_true rfl) (And.intro (au) (And.intro (Nat.le_refl _) (cw_reti cw_kX3_searched cw_z rfl rfl))))))))))
theorem cm_it_bad1 (l : Launch) (M : cm_S) {x : Int32} (h : cb_wi x (nI 1) (nI 19) = false) : cw_M l mm_X3_ifTold 0 0 [.ref 0, .int x] (cm_h M) (some (.int (-nI 2))) (cm_h M) := by
  refine cw_enter cw_kX3_ifTold (by decide) (Nat.le_of_ble_eq_true rfl) ?_
  exact cw_run cw_kX3_ifTold cw_z 6 [true] [] [(_, _)] (And.intro (cm_within l _ _ _ _) (And.intro (Nat.le_refl _) (And.intro (cb_n0.mpr h) (cw_reti cw_kX3_ifTold cw_z rfl rfl))))
theorem cm_it_bad2 (l : Launch) (M : cm_S) {s : Nat} (hs : s < 32) (h : cb_wi (nI s) (nI 1) (nI 19) = true) (h2 : cb_wi (nI (s % 10)) (nI 1) (cm_st M 0) = false) : cw_M l mm_X3_ifTold 0 0 [.ref 0, .int (nI s)] (cm_h M) (some (.int (-nI 2))) (cm_h M) := by
  refine cw_enter cw_kX3_ifTold (by decide) (Nat.le_of_ble_eq_true rfl) ?_
  have ai := cm_isThing l M (nI (s % 10))
  rw [← cb_r10 hs] at ai h2
  exact cw_run cw_kX3_ifTold cw_z 12 [false, false] [] [(_, _), (_, _)] (And.intro (cm_within l _ _ _ _) (And.intro (Nat.le_refl _) (And.intro (cb_nt.mpr h) (And.intro ((show ¬ nI 10 = 0 by decide)) (And.intro (ai) (And.intro (Nat.le_refl _) (And.intro ((fun q => q (cb_n0.mpr h2))) (cw_reti cw_kX3_ifTold cw_z rfl rfl))))))))
theorem cm_it_many (l : Launch) (M : cm_S) {s : Nat} (hs : s < 32) (h : cb_wi (nI s) (nI 1) (nI 19) = true) (h2 : cb_wi (nI (s % 10)) (nI 1) (cm_st M 0) = true) (h3 : cm_st M 3 = nI 20) : cw_M l mm_X3_ifTold 0 0 [.ref 0, .int (nI s)] (cm_h M) (some (.int (-nI 4))) (cm_h M) := by
  refine cw_enter cw_kX3_ifTold (by decide) (Nat.le_of_ble_eq_true rfl) ?_
  have ai := cm_isThing l M (nI (s % 10))
  rw [← cb_r10 hs] at ai h2
  exact cw_run cw_kX3_ifTold cw_z 18 [false, true, false] [_] [(_, _), (_, _)] (And.intro (cm_within l _ _ _ _) (And.intro (Nat.le_refl _) (And.intro (cb_nt.mpr h) (And.intro ((show ¬ nI 10 = 0 by decide)) (And.intro (ai) (And.intro (Nat.le_refl _) (And.intro (cb_nt.mpr h2) (And.intro (rfl) (And.intro (Nat.le_of_ble_eq_true rfl) (And.intro ((fun q => q h3)) (cw_reti cw_kX3_ifTold cw_z rfl rfl)))))))))))
def cm_ita (f : Nat → Int32) : Int32 := if f 5 = 0 then -nI 6 else f 5
def cm_itf (f : Nat → Int32) (t s : Nat) : Nat → Int32 := upd (upd f (49 + t) (nI 1 <<< (nI s &&& 31))) 3 (nI (t + 1))
theorem cm_it_ok (l : Launch) (M : cm_S) {s t : Nat} {f2 : Nat → Int32} (hs : s < 32) (h : cb_wi (nI s) (nI 1) (nI 19) = true) (h2 : cb_wi (nI (s % 10)) (nI 1) (cm_st M 0) = true) (ht : cm_st M 3 = nI t) (h20 : t ≤ 19)
    (hg : cw_M l mm_X3_goOn 0 0 [.ref 0, .int (nI 2000)] (cm_h (cm_an (cm_itf (cm_st M) t s) (t + 1), cm_kp M, M.2.2)) none (cm_h (f2, cm_kp M, M.2.2))) : cw_M l mm_X3_ifTold 0 0 [.ref 0, .int (nI s)] (cm_h M) (some (.int (cm_ita f2))) (cm_h (cm_cp (cm_kp M) f2 0 0 109, cm_kp M, M.2.2)) := by
  refine cw_enter cw_kX3_ifTold (by decide) (Nat.le_of_ble_eq_true rfl) ?_
  have ak := cm_kst l M
  have ab := cm_beginsAnew l (cm_itf (cm_st M) t s, cm_kp M, M.2.2) (t := t + 1) (show cm_itf (cm_st M) t s 3 = nI (t + 1) by unfold cm_itf; rw [pk_us]) (by omega)
  have au := cm_ukst l (f2, cm_kp M, M.2.2)
  have ai := cm_isThing l M (nI (s % 10))
  rw [← cb_r10 hs] at ai h2
  have n20 : ¬ cm_st M 3 = nI 20 := by rw [ht]; exact fun q => by have := (nI_eq (by omega) (by omega)).mp q; omega
  have e3 : upd (cm_st M) (49 + t) (nI 1 <<< (nI s &&& 31)) 3 + nI 1 = nI (t + 1) := by rw [pk_un (by omega), ht, nI_add]
  have e4 : (cm_itf (cm_st M) t s, cm_kp M, M.2.2) = (upd (upd (cm_st M) (49 + t) (nI 1 <<< (nI s &&& 31))) 3 (upd (cm_st M) (49 + t) (nI 1 <<< (nI s &&& 31)) 3 + nI 1), cm_kp M, M.2.2) := by rw [e3]; rfl
  have ab2 : cw_M l mm_X3_beginsAnew 0 0 [.ref 0] (cm_h (cm_itf (cm_st M) t s, cm_kp M, M.2.2)) none (cm_h (cm_an (cm_itf (cm_st M) t s) (t + 1), cm_kp M, M.2.2)) := ab
  rw [e4] at ab2
  refine cw_run cw_kX3_ifTold cw_z 49 [false, true, true] [_, _, _, _, _] [(_, _), (_, _), (_, _), (_, _), (_, _)] (And.intro (cm_within l _ _ _ _) (And.intro (Nat.le_refl _) (And.intro (cb_nt.mpr h) (And.intro ((show ¬ nI 10 = 0 by decide)) (And.intro (ai) (And.intro (Nat.le_refl _) (And.intro (cb_nt.mpr h2) (And.intro (rfl) (And.intro (Nat.le_of_ble_eq_true rfl) (And.intro (n20) (And.intro (ak) (And.intro (Nat.le_refl _) (And.intro (rfl) (And.intro (Nat.le_of_ble_eq_true rfl) (And.intro ((show nI 49 + cm_st M 3 = nI (49 + t) by rw [ht, nI_add])) (And.intro ((show 49 + t < 109 by omega)) (And.intro (rfl) (And.intro (Nat.le_of_ble_eq_true rfl) (And.intro (rfl) (And.intro (Nat.le_of_ble_eq_true rfl) (And.intro (ab2) (And.intro (Nat.le_refl _) (And.intro (hg) (And.intro (Nat.le_refl _) (?_)))))))))))))))))))))))))
  unfold cm_ita
  by_cases a : f2 5 = 0
  · rw [if_pos a]
    exact cw_run cw_kX3_ifTold cw_z 16 [false] [_] [(_, _)] (And.intro (rfl) (And.intro (Nat.le_of_ble_eq_true rfl) (And.intro ((fun q => q a)) (And.intro (au) (And.intro (Nat.le_refl _) (cw_reti cw_kX3_ifTold cw_z rfl rfl))))))
  · rw [if_neg a]
    exact cw_run cw_kX3_ifTold cw_z 18 [true] [_, _] [(_, _)] (And.intro (rfl) (And.intro (Nat.le_of_ble_eq_true rfl) (And.intro (a) (And.intro (rfl) (And.intro (Nat.le_of_ble_eq_true rfl) (And.intro (au) (And.intro (Nat.le_refl _) (cw_reti cw_kX3_ifTold cw_z rfl rfl))))))))
