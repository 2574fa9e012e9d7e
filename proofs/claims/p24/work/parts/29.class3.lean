/-! the class: its public methods -/
section CCP
variable {l : Launch} {u : Int32} {N T : cs_S} {H G : Nat → Option Nat} {f : Nat → Int32} {pl : Int32} {L : List cs_S}
theorem cc_isNoThing (x : Int32) : cw_M l mm_X2_isNoThing 0 0 [.ref 0, .int x] (cc_h u N T H G f pl L) (some (.int (cb_n (!cb_wi x (nI 1) (cs_th N))))) (cc_h u N T H G f pl L) := by
  refine cw_enter cw_KX2_isNoThing (by decide) (Nat.le_of_ble_eq_true rfl) ?_
  by_cases c : x < nI 1
  · rw [show cb_wi x (nI 1) (cs_th N) = false by simp [cb_wi, c]]
    exact cw_run cw_kX2_isNoThing cw_z 5 [true] [] [] (And.intro (c) (cw_retz cw_kX2_isNoThing cw_z rfl rfl (Or.inr rfl)))
  · by_cases d : cs_th N < x
    · rw [show cb_wi x (nI 1) (cs_th N) = false by simp [cb_wi, d]]
      exact cw_run cw_kX2_isNoThing cw_z 10 [false, false] [] [] (And.intro (c) (And.intro (Int32.not_le.mpr d) (cw_retz cw_kX2_isNoThing cw_z rfl rfl (Or.inr rfl))))
    · rw [show cb_wi x (nI 1) (cs_th N) = true by simp [cb_wi, c, d]]
      exact cw_run cw_kX2_isNoThing cw_z 9 [false, true] [] [] (And.intro (c) (And.intro (Int32.not_lt.mp d) (cw_retz cw_kX2_isNoThing cw_z rfl rfl (Or.inl rfl))))
/-- from 0 to below a number -/
def cb_be (x m : Int32) : Bool := decide (¬ x < 0 ∧ x < m)
theorem cc_isNoClause (x : Int32) : cw_M l mm_X2_isNoClause 0 0 [.ref 0, .int x] (cc_h u N T H G f pl L) (some (.int (cb_n (!cb_be x (cs_to N + cs_le N))))) (cc_h u N T H G f pl L) := by
  refine cw_enter cw_KX2_isNoClause (by decide) (Nat.le_of_ble_eq_true rfl) ?_
  by_cases c : x < 0
  · rw [show cb_be x (cs_to N + cs_le N) = false by simp [cb_be, c]]
    exact cw_run cw_kX2_isNoClause cw_z 4 [true] [] [] (And.intro (c) (cw_retz cw_kX2_isNoClause cw_z rfl rfl (Or.inr rfl)))
  · by_cases d : x < cs_to N + cs_le N
    · rw [show cb_be x (cs_to N + cs_le N) = true by simp [cb_be, c, d]]
      exact cw_run cw_kX2_isNoClause cw_z 12 [false, true] [] [] (And.intro (c) (And.intro (d) (cw_retz cw_kX2_isNoClause cw_z rfl rfl (Or.inl rfl))))
    · rw [show cb_be x (cs_to N + cs_le N) = false by simp [cb_be, d]]
      exact cw_run cw_kX2_isNoClause cw_z 13 [false, false] [] [] (And.intro (c) (And.intro (d) (cw_retz cw_kX2_isNoClause cw_z rfl rfl (Or.inr rfl))))
abbrev cs_wth (S : cs_S) (x : Int32) : cs_S := (x, S.2)
abbrev cs_wre (S : cs_S) (x : Int32) : cs_S := (S.1, x, S.2.2)
abbrev cs_wfi (S : cs_S) (x : Int32) : cs_S := (S.1, S.2.1, x, S.2.2.2)
abbrev cs_wto (S : cs_S) (x : Int32) : cs_S := (S.1, S.2.1, S.2.2.1, x, S.2.2.2.2)
theorem cc_set_bad {s v : Int32} (h : s.toInt < 0 ∨ 2 < s.toInt) : cw_M l mm_X2_set 5 101 [.ref 0, .int s, .int v] (cc_h u N T H G f pl L) (some (.int (-nI 2))) (cc_h u N T H G f pl L) := by
  refine cw_enter cw_KX2_set (by decide) (Nat.le_of_ble_eq_true rfl) ?_
  exact cw_run cw_kX2_set cw_z 3 [] [35] [] (And.intro (h) (cw_reti cw_kX2_set cw_z rfl rfl))
/-- a call of set's own part, that may make cells -/
theorem cc_sub {ic : cw_I} {pc idx : Nat} {v : Int32} {lv : cw_LV} {u' : Int32} {N' T' : cs_S} {H' G' : Nat → Option Nat} {f' : Nat → Int32} {pl' : Int32} {L' : List cs_S} {rr : Int32} (hd : cw_look (cw_tb mm_X2_set) pc = some (.invokevirtual idx, 3)) (hc : cw_look cw_cls2 idx = some (0, ic)) (hc2 : cw_c ic = 2) (hf : cw_f ic < cw_f mm_X2_set) (hna : cw_na ic = 1) (hr : cw_look (cw_tb mm_X2_set) (pc + 3) = some (.ireturn, 1)) (hL : L.length ≤ L'.length) (wl : lv.all (fun q => cw_wfvb 15 q.2) = true)
    (hM : cw_M l ic 5 101 [.ref 0, .int v] (cc_h u N T H G f pl L) (some (.int rr)) (cc_h u' N' T' H' G' f' pl' L')) : cw_W l mm_X2_set 5 101 (cc_h u N T H G f pl L) (some (.int rr)) (cc_h u' N' T' H' G' f' pl' L') 0 0 pc lv [.int v, .ref 0] (cc_h u N T H G f pl L) := by
  refine cw_callAV (ic := ic) (mc' := 5) (ms' := 101) cw_kX2_set (by decide) hd hc (Or.inl rfl) (by rw [hna]; exact Nat.le_of_ble_eq_true rfl) hf (by rw [hna]; rfl) (by decide) (show (cc_h u N T H G f pl L)[0]? = some _ from rfl) hc2.symm (by decide) (by rw [hna]; exact hM) (cc_lel hL) (Nat.le_refl _) (Nat.le_refl _) (cc_wl wl) (cc_ws rfl) ?_
  exact cw_reti cw_kX2_set (by decide) hr rfl
theorem cc_set0_bad {v : Int32} (h : cb_wi v (nI 1) (nI 9) = false) : cw_M l mm_X2_setThings 5 101 [.ref 0, .int v] (cc_h u N T H G f pl L) (some (.int (-nI 2))) (cc_h u N T H G f pl L) := by
  refine cw_enter cw_KX2_setThings (by decide) (Nat.le_of_ble_eq_true rfl) ?_
  by_cases c : v < nI 1
  · exact cw_run cw_kX2_setThings cw_z 4 [true] [] [] (And.intro (c) (cw_reti cw_kX2_setThings cw_z rfl rfl))
  · have d : nI 9 < v := by
      unfold cb_wi at h
      have := of_decide_eq_false h
      rcases Int32.lt_or_le (nI 9) v with q | q
      · exact q
      · exact absurd ⟨c, Int32.not_lt.mpr q⟩ this
    exact cw_run cw_kX2_setThings cw_z 7 [false, false] [] [] (And.intro (c) (And.intro (Int32.not_le.mpr d) (cw_reti cw_kX2_setThings cw_z rfl rfl)))
theorem cb_wi_t {v a b : Int32} (h : cb_wi v a b = true) : ¬ v < a ∧ v ≤ b := ⟨(of_decide_eq_true h).1, Int32.not_lt.mp (of_decide_eq_true h).2⟩
theorem cc_set0_need {v : Int32} (h : cb_wi v (nI 1) (nI 9) = true) (hB : cs_Bd N) (hg : v < cb_gr (cs_all N (cs_t N) 0 (nI 0)) 9 1 (nI 0)) : cw_M l mm_X2_setThings 5 101 [.ref 0, .int v] (cc_h u N T H G f pl L) (some (.int (-nI 5))) (cc_h u N T H G f pl L) := by
  refine cw_enter cw_KX2_setThings (by decide) (Nat.le_of_ble_eq_true rfl) ?_
  exact cw_run cw_kX2_setThings cw_z 12 [false, true, false] [] [(_, _)] (And.intro ((cb_wi_t h).1) (And.intro ((cb_wi_t h).2) (And.intro (cc_now (cs_toldNeeds l N hB)) (And.intro (Nat.le_refl _) (And.intro (Int32.not_le.mpr hg) (cw_reti cw_kX2_setThings cw_z rfl rfl))))))
theorem cc_set0_ok {v : Int32} {n : Nat} (h : cb_wi v (nI 1) (nI 9) = true) (hB : cs_Bd N) (hg : ¬ v < cb_gr (cs_all N (cs_t N) 0 (nI 0)) 9 1 (nI 0)) (hok : cc_ok n H G L) : cw_M l mm_X2_setThings 5 101 [.ref 0, .int v] (cc_h (nI n) N T H G f pl L) (some (.int (cs_th N))) (cc_h (nI (cm_ru n + 1)) (cs_anew (cs_wth N v)) T (cc_Hr n H L) G f pl (cc_Lr n H L N)) := by
  refine cw_enter cw_KX2_setThings (by decide) (Nat.le_of_ble_eq_true rfl) ?_
  refine cw_run cw_kX2_setThings cw_z 12 [false, true, true] [] [(_, _)] (And.intro ((cb_wi_t h).1) (And.intro ((cb_wi_t h).2) (And.intro (cc_now (cs_toldNeeds l N hB)) (And.intro (Nat.le_refl _) (And.intro (Int32.not_lt.mp hg) (?_))))))
  refine cc_callrec cw_kX2_setThings rfl (by decide) rfl hok rfl (by rw [cc_len]; exact Nat.le_refl _) ?_
  exact cw_run cw_kX2_setThings (by decide) 12 [] [] [(_, _)] (And.intro (cc_now (cs_anew_ok l (cs_wth N v))) (And.intro (Nat.le_refl _) ((cw_reti cw_kX2_setThings (by decide) rfl rfl))))
theorem cc_set1_bad {v : Int32} (h : cb_wi v (nI 1) (nI 20) = false) : cw_M l mm_X2_setRestart 5 101 [.ref 0, .int v] (cc_h u N T H G f pl L) (some (.int (-nI 2))) (cc_h u N T H G f pl L) := by
  refine cw_enter cw_KX2_setRestart (by decide) (Nat.le_of_ble_eq_true rfl) ?_
  by_cases c : v < nI 1
  · exact cw_run cw_kX2_setRestart cw_z 4 [true] [] [] (And.intro (c) (cw_reti cw_kX2_setRestart cw_z rfl rfl))
  · have d : nI 20 < v := by
      unfold cb_wi at h
      have := of_decide_eq_false h
      rcases Int32.lt_or_le (nI 20) v with q | q
      · exact q
      · exact absurd ⟨c, Int32.not_lt.mpr q⟩ this
    exact cw_run cw_kX2_setRestart cw_z 7 [false, false] [] [] (And.intro (c) (And.intro (Int32.not_le.mpr d) (cw_reti cw_kX2_setRestart cw_z rfl rfl)))
theorem cc_set1_ok {v : Int32} {n : Nat} (h : cb_wi v (nI 1) (nI 20) = true) (hok : cc_ok n H G L) : cw_M l mm_X2_setRestart 5 101 [.ref 0, .int v] (cc_h (nI n) N T H G f pl L) (some (.int (cs_re N))) (cc_h (nI (cm_ru n + 1)) (cs_wre N v) T (cc_Hr n H L) G f pl (cc_Lr n H L N)) := by
  refine cw_enter cw_KX2_setRestart (by decide) (Nat.le_of_ble_eq_true rfl) ?_
  refine cw_run cw_kX2_setRestart cw_z 7 [false, true] [] [] (And.intro ((cb_wi_t h).1) (And.intro ((cb_wi_t h).2) (?_)))
  refine cc_callrec cw_kX2_setRestart rfl (by decide) rfl hok rfl (by rw [cc_len]; exact Nat.le_refl _) ?_
  exact cw_run cw_kX2_setRestart (by decide) 9 [] [] [] (cw_reti cw_kX2_setRestart (by decide) rfl rfl)
theorem cc_set2_bad {v : Int32} (h : ¬ v = nI 0) (h1 : ¬ v = nI 1) : cw_M l mm_X2_setFirst 5 101 [.ref 0, .int v] (cc_h u N T H G f pl L) (some (.int (-nI 2))) (cc_h u N T H G f pl L) := by
  refine cw_enter cw_KX2_setFirst (by decide) (Nat.le_of_ble_eq_true rfl) ?_
  exact cw_run cw_kX2_setFirst cw_z 6 [false, false] [] [] (And.intro (h) (And.intro (h1) (cw_reti cw_kX2_setFirst cw_z rfl rfl)))
theorem cc_set2_ok {v : Int32} {n : Nat} (h : v = nI 0 ∨ v = nI 1) (hok : cc_ok n H G L) : cw_M l mm_X2_setFirst 5 101 [.ref 0, .int v] (cc_h (nI n) N T H G f pl L) (some (.int (cs_fi N))) (cc_h (nI (cm_ru n + 1)) (cs_wfi N v) T (cc_Hr n H L) G f pl (cc_Lr n H L N)) := by
  refine cw_enter cw_KX2_setFirst (by decide) (Nat.le_of_ble_eq_true rfl) ?_
  have k : cw_W l mm_X2_setFirst 5 101 (cc_h (nI n) N T H G f pl L) (some (.int (cs_fi N))) (cc_h (nI (cm_ru n + 1)) (cs_wfi N v) T (cc_Hr n H L) G f pl (cc_Lr n H L N)) 0 0 13 [(0, .ref 0), (1, .int v)] [.ref 0] (cc_h (nI n) N T H G f pl L) := by
    refine cc_callrec cw_kX2_setFirst rfl (by decide) rfl hok rfl (by rw [cc_len]; exact Nat.le_refl _) ?_
    exact cw_run cw_kX2_setFirst (by decide) 9 [] [] [] (cw_reti cw_kX2_setFirst (by decide) rfl rfl)
  rcases h with rfl | rfl
  · exact cw_run cw_kX2_setFirst cw_z 3 [true] [] [] (And.intro ((rfl : nI 0 = 0)) (k))
  · exact cw_run cw_kX2_setFirst cw_z 6 [false, true] [] [] (And.intro ((show ¬ nI 1 = 0 by decide)) (And.intro (rfl) (k)))
theorem cc_set_0 {v rr : Int32} {u' : Int32} {N' T' : cs_S} {H' G' : Nat → Option Nat} {f' : Nat → Int32} {pl' : Int32} {L' : List cs_S} (hL : L.length ≤ L'.length) (hM : cw_M l mm_X2_setThings 5 101 [.ref 0, .int v] (cc_h u N T H G f pl L) (some (.int rr)) (cc_h u' N' T' H' G' f' pl' L')) : cw_M l mm_X2_set 5 101 [.ref 0, .int (nI 0), .int v] (cc_h u N T H G f pl L) (some (.int rr)) (cc_h u' N' T' H' G' f' pl' L') := by
  refine cw_enter cw_KX2_set (by decide) (Nat.le_of_ble_eq_true rfl) ?_
  exact cw_run cw_kX2_set cw_z 4 [] [0] [] (And.intro ((by decide)) (And.intro ((by decide)) (cc_sub rfl rfl rfl (by decide) rfl rfl hL rfl hM)))
theorem cc_set_1 {v rr : Int32} {u' : Int32} {N' T' : cs_S} {H' G' : Nat → Option Nat} {f' : Nat → Int32} {pl' : Int32} {L' : List cs_S} (hL : L.length ≤ L'.length) (hM : cw_M l mm_X2_setRestart 5 101 [.ref 0, .int v] (cc_h u N T H G f pl L) (some (.int rr)) (cc_h u' N' T' H' G' f' pl' L')) : cw_M l mm_X2_set 5 101 [.ref 0, .int (nI 1), .int v] (cc_h u N T H G f pl L) (some (.int rr)) (cc_h u' N' T' H' G' f' pl' L') := by
  refine cw_enter cw_KX2_set (by decide) (Nat.le_of_ble_eq_true rfl) ?_
  exact cw_run cw_kX2_set cw_z 4 [] [1] [] (And.intro ((by decide)) (And.intro ((by decide)) (cc_sub rfl rfl rfl (by decide) rfl rfl hL rfl hM)))
theorem cc_set_2 {v rr : Int32} {u' : Int32} {N' T' : cs_S} {H' G' : Nat → Option Nat} {f' : Nat → Int32} {pl' : Int32} {L' : List cs_S} (hL : L.length ≤ L'.length) (hM : cw_M l mm_X2_setFirst 5 101 [.ref 0, .int v] (cc_h u N T H G f pl L) (some (.int rr)) (cc_h u' N' T' H' G' f' pl' L')) : cw_M l mm_X2_set 5 101 [.ref 0, .int (nI 2), .int v] (cc_h u N T H G f pl L) (some (.int rr)) (cc_h u' N' T' H' G' f' pl' L') := by
  refine cw_enter cw_KX2_set (by decide) (Nat.le_of_ble_eq_true rfl) ?_
  exact cw_run cw_kX2_set cw_z 4 [] [2] [] (And.intro ((by decide)) (And.intro ((by decide)) (cc_sub rfl rfl rfl (by decide) rfl rfl hL rfl hM)))
theorem cc_rd_fault {n : Nat} (hn : n ≤ 60) (hc : ∀ k, k < n → cp_c1 (f k)) (h : ¬ cp_ff f n 0 (nI 0) false false = -nI 6) : cw_M l mm_X2_read 5 101 [.ref 0] (cc_h u N T H G f (nI n) L) (some (.int (-nI 3))) (cc_h u N T H G f (nI n) L) := by
  refine cw_enter cw_KX2_read (by decide) (Nat.le_of_ble_eq_true rfl) ?_
  exact cw_run cw_kX2_read cw_z 6 [false] [] [(_, _)] (And.intro (cc_pad (cp_firstFault l f hn hc)) (And.intro (Nat.le_refl _) (And.intro (h) (cw_reti cw_kX2_read cw_z rfl rfl))))
theorem cc_rd_big {n : Nat} (hn : n ≤ 60) (hc : ∀ k, k < n → cp_c1 (f k)) (h : cp_ff f n 0 (nI 0) false false = -nI 6) (hg : cs_th N < cp_gt f n 0 (nI 0)) : cw_M l mm_X2_read 5 101 [.ref 0] (cc_h u N T H G f (nI n) L) (some (.int (-nI 2))) (cc_h u N T H G f (nI n) L) := by
  refine cw_enter cw_KX2_read (by decide) (Nat.le_of_ble_eq_true rfl) ?_
  exact cw_run cw_kX2_read cw_z 13 [true, false] [] [(_, _), (_, _)] (And.intro (cc_pad (cp_firstFault l f hn hc)) (And.intro (Nat.le_refl _) (And.intro (h) (And.intro (cc_pad (cp_greatestThing l f hn hc)) (And.intro (Nat.le_refl _) (And.intro (Int32.not_le.mpr hg) (cw_reti cw_kX2_read cw_z rfl rfl)))))))
theorem cc_rd_many {n : Nat} (hn : n ≤ 60) (hc : ∀ k, k < n → cp_c1 (f k)) (h : cp_ff f n 0 (nI 0) false false = -nI 6) (hg : ¬ cs_th N < cp_gt f n 0 (nI 0)) (hm : nI 20 < cs_to N + nI (cp_hm f n 0 1)) : cw_M l mm_X2_read 5 101 [.ref 0] (cc_h u N T H G f (nI n) L) (some (.int (-nI 4))) (cc_h u N T H G f (nI n) L) := by
  refine cw_enter cw_KX2_read (by decide) (Nat.le_of_ble_eq_true rfl) ?_
  exact cw_run cw_kX2_read cw_z 22 [true, true, false] [] [(_, _), (_, _), (_, _)] (And.intro (cc_pad (cp_firstFault l f hn hc)) (And.intro (Nat.le_refl _) (And.intro (h) (And.intro (cc_pad (cp_greatestThing l f hn hc)) (And.intro (Nat.le_refl _) (And.intro (Int32.not_lt.mp hg) (And.intro (cc_pad (cp_howMany l f hn hc)) (And.intro (Nat.le_refl _) (And.intro (Int32.not_le.mpr hm) (cw_reti cw_kX2_read cw_z rfl rfl))))))))))
theorem cc_rd_ok {n k : Nat} (hn : n ≤ 60) (hc : ∀ k, k < n → cp_c1 (f k)) (h : cp_ff f n 0 (nI 0) false false = -nI 6) (hg : ¬ cs_th N < cp_gt f n 0 (nI 0)) (hm : ¬ nI 20 < cs_to N + nI (cp_hm f n 0 1)) (hok : cc_ok k H G L) (ht : cs_to N = nI (cs_t N)) (h20 : cs_t N + cp_sc f n 0 ≤ 20) : cw_M l mm_X2_read 5 101 [.ref 0] (cc_h (nI k) N T H G f (nI n) L) (some (.int (cs_to (cp_tl f n 0 (nI 0) false (cs_anew N))))) (cc_h (nI (cm_ru k + 1)) (cp_tl f n 0 (nI 0) false (cs_anew N)) T (cc_Hr k H L) G f (nI 0) (cc_Lr k H L N)) := by
  refine cw_enter cw_KX2_read (by decide) (Nat.le_of_ble_eq_true rfl) ?_
  refine cw_run cw_kX2_read cw_z 22 [true, true, true] [] [(_, _), (_, _), (_, _)] (And.intro (cc_pad (cp_firstFault l f hn hc)) (And.intro (Nat.le_refl _) (And.intro (h) (And.intro (cc_pad (cp_greatestThing l f hn hc)) (And.intro (Nat.le_refl _) (And.intro (Int32.not_lt.mp hg) (And.intro (cc_pad (cp_howMany l f hn hc)) (And.intro (Nat.le_refl _) (And.intro (Int32.not_lt.mp hm) (?_))))))))))
  refine cc_callrec cw_kX2_read rfl (by decide) rfl hok rfl (by rw [cc_len]; exact Nat.le_refl _) ?_
  have at1 := cc_tellAll (l := l) (u := nI (cm_ru k + 1)) (N := cs_anew N) (T := T) (H := cc_Hr k H L) (G := G) (f := f) (L := cc_Lr k H L N) hn hc ht h20
  generalize cp_tl f n 0 (nI 0) false (cs_anew N) = N2 at at1 ⊢
  exact cw_run cw_kX2_read (by decide) 14 [] [] [(_, _), (_, _), (_, _)] (And.intro (cc_now (cs_anew_ok l N)) (And.intro (Nat.le_refl _) (And.intro (at1) (And.intro (cc_lel (Nat.le_refl _)) (And.intro (cc_pad (cp_empty l f (nI n))) (And.intro (Nat.le_refl _) ((cw_reti cw_kX2_read (by decide) rfl rfl))))))))
def cc_dr (N : cs_S) (k : Nat) : cs_S := cs_wto (cs_wcl (cs_anew N) (cs_rm (cs_cl N) k 59)) (cs_to N - nI 1)
theorem cc_step_no {x : Int32} (h : cb_wi x (nI 1) (nI 500) = false) : cw_M l mm_X2_step 5 101 [.ref 0, .int x] (cc_h u N T H G f pl L) (some (.int (-nI 2))) (cc_h u N T H G f pl L) := by
  refine cw_enter cw_KX2_step (by decide) (Nat.le_of_ble_eq_true rfl) ?_
  by_cases c : x < nI 1
  · exact cw_run cw_kX2_step cw_z 4 [true] [] [] (And.intro (c) (cw_reti cw_kX2_step cw_z rfl rfl))
  · have d : ¬ x ≤ nI 500 := fun q => of_decide_eq_false h ⟨c, Int32.not_lt.mpr q⟩
    exact cw_run cw_kX2_step cw_z 7 [false, false] [] [] (And.intro (c) (And.intro (d) (cw_reti cw_kX2_step cw_z rfl rfl)))
theorem cc_step_ok {k n : Nat} (h : cb_wi (nI k) (nI 1) (nI 500) = true) (hk : k < 2 ^ 31) (hB : cs_Bd N) (hok : cc_ok n H G L) : cw_M l mm_X2_step 5 101 [.ref 0, .int (nI k)] (cc_h (nI n) N T H G f pl L) (some (.int (cs_sd (cs_runs k N)))) (cc_h (nI (cm_ru n + 1)) (cs_runs k N) T (cc_Hr n H L) G f pl (cc_Lr n H L N)) := by
  refine cw_enter cw_KX2_step (by decide) (Nat.le_of_ble_eq_true rfl) ?_
  refine cw_run cw_kX2_step cw_z 7 [false, true] [] [] (And.intro ((cb_wi_t h).1) (And.intro ((cb_wi_t h).2) (?_)))
  refine cc_callrec cw_kX2_step rfl (by decide) rfl hok rfl (by rw [cc_len]; exact Nat.le_refl _) ?_
  have ad := cs_doSteps l N hB hk
  generalize cs_runs k N = N2 at ad ⊢
  exact cw_run cw_kX2_step (by decide) 7 [] [] [(_, _)] (And.intro (cc_now ad) (And.intro (Nat.le_refl _) ((cw_reti cw_kX2_step (by decide) rfl rfl))))
theorem cc_back_no {x : Int32} (hB : cs_Bd N) (h : cb_wi x (nI 0) (cs_pl N (cs_g N)) = false) : cw_M l mm_X2_back 5 101 [.ref 0, .int x] (cc_h u N T H G f pl L) (some (.int (-nI 2))) (cc_h u N T H G f pl L) := by
  refine cw_enter cw_KX2_back (by decide) (Nat.le_of_ble_eq_true rfl) ?_
  by_cases c : x < 0
  · exact cw_run cw_kX2_back cw_z 3 [true] [] [] (And.intro (c) (cw_reti cw_kX2_back cw_z rfl rfl))
  · have d : ¬ x ≤ cs_pl N (cs_g N) := fun q => of_decide_eq_false h ⟨c, Int32.not_lt.mpr q⟩
    exact cw_run cw_kX2_back cw_z 8 [false, false] [] [(_, _)] (And.intro (c) (And.intro (cc_now (cs_presentLevel l N hB.1.1 hB.1.2)) (And.intro (Nat.le_refl _) (And.intro (d) (cw_reti cw_kX2_back cw_z rfl rfl)))))
theorem cc_back_never {x : Int32} (hB : cs_Bd N) (h : cb_wi x (nI 0) (cs_pl N (cs_g N)) = true) (h5 : cs_sd N = nI 2) : cw_M l mm_X2_back 5 101 [.ref 0, .int x] (cc_h u N T H G f pl L) (some (.int (-nI 5))) (cc_h u N T H G f pl L) := by
  refine cw_enter cw_KX2_back (by decide) (Nat.le_of_ble_eq_true rfl) ?_
  exact cw_run cw_kX2_back cw_z 13 [false, true, false] [] [(_, _)] (And.intro ((cb_wi_t h).1) (And.intro (cc_now (cs_presentLevel l N hB.1.1 hB.1.2)) (And.intro (Nat.le_refl _) (And.intro ((cb_wi_t h).2) (And.intro ((fun q => q h5)) (cw_reti cw_kX2_back cw_z rfl rfl))))))
theorem cc_back_ok {x : Int32} {n : Nat} (hB : cs_Bd N) (h : cb_wi x (nI 0) (cs_pl N (cs_g N)) = true) (h5 : ¬ cs_sd N = nI 2) (hok : cc_ok n H G L) : cw_M l mm_X2_back 5 101 [.ref 0, .int x] (cc_h (nI n) N T H G f pl L) (some (.int (cs_gi (cs_gb N x)))) (cc_h (nI (cm_ru n + 1)) (cs_wsd (cs_gb N x) (nI 0)) T (cc_Hr n H L) G f pl (cc_Lr n H L N)) := by
  refine cw_enter cw_KX2_back (by decide) (Nat.le_of_ble_eq_true rfl) ?_
  refine cw_run cw_kX2_back cw_z 13 [false, true, true] [] [(_, _)] (And.intro ((cb_wi_t h).1) (And.intro (cc_now (cs_presentLevel l N hB.1.1 hB.1.2)) (And.intro (Nat.le_refl _) (And.intro ((cb_wi_t h).2) (And.intro (h5) (?_))))))
  refine cc_callrec cw_kX2_back rfl (by decide) rfl hok rfl (by rw [cc_len]; exact Nat.le_refl _) ?_
  have ag := cs_goBackTo l N hB x
  generalize cs_gb N x = N2 at ag ⊢
  exact cw_run cw_kX2_back (by decide) 11 [] [] [(_, _)] (And.intro (cc_now ag) (And.intro (Nat.le_refl _) ((cw_reti cw_kX2_back (by decide) rfl rfl))))
end CCP
