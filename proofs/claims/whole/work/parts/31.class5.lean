/-! the class: searches beside it, texts, undo, saving -/
section CCS
variable {l : Launch} {u : Int32} {N T : cs_S} {H G : Nat → Option Nat} {f : Nat → Int32} {pl : Int32} {L : List cs_S}
def cc_sra (S : cs_S) (w : Int32) : Int32 := if cs_sd S = 0 then -nI 6 else if w = nI 0 then cs_sp S else if w = nI 1 then cs_co S else cs_sd S
theorem cc_sr_bad {x w : Int32} (h : ¬ (x = nI 0 ∨ x = nI 1) ∨ w < 0 ∨ nI 2 < w) : cw_M l mm_X2_searched 5 101 [.ref 0, .int x, .int w] (cc_h u N T H G f pl L) (some (.int (-nI 2))) (cc_h u N T H G f pl L) := by
  refine cw_enter cw_kX2_searched (by decide) (Nat.le_of_ble_eq_true rfl) ?_
  have k : ∀ {lv}, lv = [(0, Value.ref 0), (1, Value.int x), (2, Value.int w)] → (w < 0 ∨ nI 2 < w) → cw_W l mm_X2_searched 5 101 (cc_h u N T H G f pl L) (some (.int (-nI 2))) (cc_h u N T H G f pl L) 0 0 9 lv [] (cc_h u N T H G f pl L) := by
    rintro lv rfl hw
    by_cases c : w < 0
    · exact cw_run cw_kX2_searched cw_z 3 [true] [] [] (And.intro (c) (cw_reti cw_kX2_searched cw_z rfl rfl))
    · exact cw_run cw_kX2_searched cw_z 6 [false, false] [] [] (And.intro (c) (And.intro (Int32.not_le.mpr (hw.resolve_left c)) (cw_reti cw_kX2_searched cw_z rfl rfl)))
  by_cases a : x = nI 0
  · exact cw_run cw_kX2_searched cw_z 2 [true] [] [] (And.intro (a) (k rfl (h.resolve_left (fun q => q (Or.inl a)))))
  · by_cases b : x = nI 1
    · exact cw_run cw_kX2_searched cw_z 5 [false, false] [] [] (And.intro (a) (And.intro ((fun q => q b)) (k rfl (h.resolve_left (fun q => q (Or.inr b))))))
    · exact cw_run cw_kX2_searched cw_z 6 [false, true] [] [] (And.intro (a) (And.intro (b) (cw_reti cw_kX2_searched cw_z rfl rfl)))
theorem cc_sr_sw : ∀ j, j ≤ 2 → j ≠ 0 → j ≠ 1 → Op.lookupswitch.offset [(0, 25), (1, 33)] 41 (nI j).toInt = 41 := by decide +kernel
theorem cc_sr_end (x : Int32) {j : Nat} (hj : j ≤ 2) (c : ¬ cs_sd T = 0) {hb : cw_H} : cw_W l mm_X2_searched 5 101 hb (some (.int (cc_sra T (nI j)))) (cc_h u N T H G f pl L) 0 0 70 [(0, .ref 0), (1, .int x), (2, .int (nI j))] [] (cc_h u N T H G f pl L) := by
  have hall : ((#[((0 : Int), (25 : Int)), (1, 33)]).toList.zip ((#[((0 : Int), (25 : Int)), (1, 33)]).toList.drop 1)).all (fun (a, next) => a.1 < next.1) = true := rfl
  unfold cc_sra
  rw [if_neg c]
  match j, hj with
  | 0, _ =>
    rw [if_pos rfl]
    exact cw_run cw_kX2_searched cw_z 5 [] [0] [] (And.intro (hall) (And.intro (rfl) (cw_reti cw_kX2_searched cw_z rfl rfl)))
  | 1, _ =>
    rw [if_neg (by decide), if_pos rfl]
    exact cw_run cw_kX2_searched cw_z 5 [] [1] [] (And.intro (hall) (And.intro (rfl) (cw_reti cw_kX2_searched cw_z rfl rfl)))
  | 2, _ =>
    rw [if_neg (by decide), if_neg (by decide)]
    exact cw_run cw_kX2_searched cw_z 5 [] [35] [] (And.intro (hall) (And.intro (cc_sr_sw 2 (by omega) (by omega) (by omega)) (cw_reti cw_kX2_searched cw_z rfl rfl)))
  | j + 3, hj => exact absurd hj (by omega)
/-- the trial behind a search for it -/
def cc_t0 (T N : cs_S) (x : Int32) : cs_S := cs_wfi (cs_anew (cs_copy T N)) x
def cc_ts (T N : cs_S) (x : Int32) : cs_S := cs_runs 2000 (cc_t0 T N x)
theorem cs_Bd_copy {S N : cs_S} (hB : cs_Bd N) : cs_Bd (cs_copy S N) := hB
theorem cc_sr_ok {x : Int32} {j : Nat} (hB : cs_Bd N) (hx : x = nI 0 ∨ x = nI 1) (hj : j ≤ 2) : cw_M l mm_X2_searched 5 101 [.ref 0, .int x, .int (nI j)] (cc_h u N T H G f pl L) (some (.int (cc_sra (cc_ts T N x) (nI j)))) (cc_h u N (cc_ts T N x) H G f pl L) := by
  refine cw_enter cw_kX2_searched (by decide) (Nat.le_of_ble_eq_true rfl) ?_
  have hB2 : cs_Bd (cc_t0 T N x) := cs_Bd_anew (cs_Bd_copy hB)
  have ac := cc_copyT (l := l) (u := u) (N := N) (T := T) (H := H) (G := G) (f := f) (pl := pl) (L := L)
  have aa := cc_tri (u := u) (N := N) (H := H) (G := G) (f := f) (pl := pl) (L := L) (cs_anew_ok l (cs_copy T N))
  have ad : cw_M l mm_X1_doSteps 0 0 [.ref 6, .int (nI 2000)] (cc_h u N (cc_t0 T N x) H G f pl L) none (cc_h u N (cc_ts T N x) H G f pl L) := cc_tri (cs_doSteps l (cc_t0 T N x) hB2 (N := 2000) (by omega))
  have k : cw_W l mm_X2_searched 5 101 (cc_h u N T H G f pl L) (some (.int (cc_sra (cc_ts T N x) (nI j)))) (cc_h u N (cc_ts T N x) H G f pl L) 0 0 9 [(0, .ref 0), (1, .int x), (2, .int (nI j))] [] (cc_h u N T H G f pl L) := by
    refine cw_run cw_kX2_searched cw_z 21 [false, true] [] [(_, _), (_, _), (_, _)] (And.intro (nI_pos (by omega)) (And.intro ((show nI j ≤ nI 2 from nI_le hj (by omega))) (And.intro (ac) (And.intro (cc_lel (Nat.le_refl _)) (And.intro (aa) (And.intro (Nat.le_refl _) (And.intro (ad) (And.intro ((show (cc_h u N (cc_ts T N x) H G f pl L).length ≤ (cc_h u N (cc_t0 T N x) H G f pl L).length from cc_lel (Nat.le_refl _))) (?_)))))))))
    generalize cc_ts T N x = T2
    by_cases c : cs_sd T2 = 0
    · rw [show cc_sra T2 (nI j) = -nI 6 from if_pos c]
      exact cw_run cw_kX2_searched cw_z 5 [false] [] [] (And.intro ((fun q => q c)) (cw_reti cw_kX2_searched cw_z rfl rfl))
    · exact cw_run cw_kX2_searched cw_z 4 [true] [] [] (And.intro (c) (cc_sr_end x hj c))
  rcases hx with rfl | rfl
  · exact cw_run cw_kX2_searched cw_z 2 [true] [] [] (And.intro ((rfl : nI 0 = 0)) (k))
  · exact cw_run cw_kX2_searched cw_z 5 [false, false] [] [] (And.intro ((show ¬ nI 1 = 0 by decide)) (And.intro ((fun q => q rfl)) (k)))
def cc_ita (S : cs_S) : Int32 := if cs_sd S = 0 then -nI 6 else cs_sd S
abbrev cb_th (x : Int32) : Int32 := if x < nI 10 then x else x - nI 10
theorem cc_it_bad {x : Int32} (h : cb_wi (cb_th x) (nI 1) (cs_th N) = false) : cw_M l mm_X2_ifTold 5 101 [.ref 0, .int x] (cc_h u N T H G f pl L) (some (.int (-nI 2))) (cc_h u N T H G f pl L) := by
  refine cw_enter cw_kX2_ifTold (by decide) (Nat.le_of_ble_eq_true rfl) ?_
  exact cw_run cw_kX2_ifTold cw_z 6 [false] [] [(_, _), (_, _)] (And.intro (cs_thingOf l _ _) (And.intro (Nat.le_refl _) (And.intro (cc_isNoThing _) (And.intro (Nat.le_refl _) (And.intro (cb_nnt h) (cw_reti cw_kX2_ifTold cw_z rfl rfl))))))
theorem cc_it_many {x : Int32} (h : cb_wi (cb_th x) (nI 1) (cs_th N) = true) (ht : ¬ cs_to N < nI 20) : cw_M l mm_X2_ifTold 5 101 [.ref 0, .int x] (cc_h u N T H G f pl L) (some (.int (-nI 4))) (cc_h u N T H G f pl L) := by
  refine cw_enter cw_kX2_ifTold (by decide) (Nat.le_of_ble_eq_true rfl) ?_
  exact cw_run cw_kX2_ifTold cw_z 11 [true, false] [] [(_, _), (_, _)] (And.intro (cs_thingOf l _ _) (And.intro (Nat.le_refl _) (And.intro (cc_isNoThing _) (And.intro (Nat.le_refl _) (And.intro (cb_nn0 h) (And.intro (ht) (cw_reti cw_kX2_ifTold cw_z rfl rfl)))))))
def cc_i0 (T N : cs_S) (x : Int32) : cs_S := cs_tell (cs_anew (cs_copy T N)) (cb_set x)
def cc_is (T N : cs_S) (x : Int32) : cs_S := cs_runs 2000 (cc_i0 T N x)
theorem cs_Bd_tell {S : cs_S} (hB : cs_Bd S) (h : cs_t S < 20) (c : Int32) : cs_Bd (cs_tell S c) := by
  obtain ⟨h1, h2⟩ := cs_t_tell hB.2.1.1 h c
  exact ⟨hB.1, ⟨h2, by rw [h1]; omega⟩, hB.2.2.1, hB.2.2.2⟩
theorem cc_it_ok {x : Int32} (hB : cs_Bd N) (h : cb_wi (cb_th x) (nI 1) (cs_th N) = true) (ht : cs_t N < 20) : cw_M l mm_X2_ifTold 5 101 [.ref 0, .int x] (cc_h u N T H G f pl L) (some (.int (cc_ita (cc_is T N x)))) (cc_h u N (cc_is T N x) H G f pl L) := by
  refine cw_enter cw_kX2_ifTold (by decide) (Nat.le_of_ble_eq_true rfl) ?_
  have ht2 : cs_to N < nI 20 := by rw [hB.2.1.1]; exact nI_lt ht (by omega)
  have hB1 : cs_Bd (cs_anew (cs_copy T N)) := cs_Bd_anew (cs_Bd_copy hB)
  have hB2 : cs_Bd (cc_i0 T N x) := cs_Bd_tell hB1 ht _
  have ac := cc_copyT (l := l) (u := u) (N := N) (T := T) (H := H) (G := G) (f := f) (pl := pl) (L := L)
  have aa := cc_tri (u := u) (N := N) (H := H) (G := G) (f := f) (pl := pl) (L := L) (cs_anew_ok l (cs_copy T N))
  have at1 : cw_M l mm_X1_tell 0 0 [.ref 6, .int (nI 1 <<< (x &&& 31))] (cc_h u N (cs_anew (cs_copy T N)) H G f pl L) none (cc_h u N (cc_i0 T N x) H G f pl L) := cc_tri (cs_tell_ok l (cs_anew (cs_copy T N)) hB1.2.1.1 ht (cb_set x))
  have ad : cw_M l mm_X1_doSteps 0 0 [.ref 6, .int (nI 2000)] (cc_h u N (cc_i0 T N x) H G f pl L) none (cc_h u N (cc_is T N x) H G f pl L) := cc_tri (cs_doSteps l (cc_i0 T N x) hB2 (N := 2000) (by omega))
  refine cw_run cw_kX2_ifTold cw_z 27 [true, true] [] [(_, _), (_, _), (_, _), (_, _), (_, _), (_, _), (_, _)] (And.intro (cs_thingOf l _ _) (And.intro (Nat.le_refl _) (And.intro (cc_isNoThing _) (And.intro (Nat.le_refl _) (And.intro (cb_nn0 h) (And.intro (ht2) (And.intro (ac) (And.intro (cc_lel (Nat.le_refl _)) (And.intro (aa) (And.intro (Nat.le_refl _) (And.intro (cs_setOf l _ _) (And.intro (Nat.le_refl _) (And.intro (at1) (And.intro (cc_lel (Nat.le_refl _)) (And.intro (ad) (And.intro (cc_lel (Nat.le_refl _)) (?_)))))))))))))))))
  generalize cc_is T N x = T2
  unfold cc_ita
  by_cases c : cs_sd T2 = 0
  · rw [if_pos c]
    exact cw_run cw_kX2_ifTold cw_z 6 [false] [] [] (And.intro ((fun q => q c)) (cw_reti cw_kX2_ifTold cw_z rfl rfl))
  · rw [if_neg c]
    exact cw_run cw_kX2_ifTold cw_z 7 [true] [] [] (And.intro (c) (cw_reti cw_kX2_ifTold cw_z rfl rfl))
theorem cc_put_bad {x : Int64} (h : cp_ci x 8 0 = nI 0) : cw_M l mm_X2_put 5 101 [.ref 0, .long x] (cc_h u N T H G f pl L) (some (.int (-nI 2))) (cc_h u N T H G f pl L) := by
  refine cw_enter cw_kX2_put (by decide) (Nat.le_of_ble_eq_true rfl) ?_
  have a := cp_charactersIn l (cc_h u N T H G f pl L) x
  rw [h] at a
  exact cw_run cw_kX2_put cw_z 6 [false] [] [(_, _)] (And.intro (a) (And.intro (Nat.le_refl _) (And.intro ((fun q => q rfl)) (cw_reti cw_kX2_put cw_z rfl rfl))))
theorem cc_put_many {x : Int64} {n m : Nat} (h : cp_ci x 8 0 = nI m) (hm : 0 < m) (h8 : m ≤ 8) (hn : n ≤ 60) (hx : 60 < n + m) : cw_M l mm_X2_put 5 101 [.ref 0, .long x] (cc_h u N T H G f (nI n) L) (some (.int (-nI 4))) (cc_h u N T H G f (nI n) L) := by
  refine cw_enter cw_kX2_put (by decide) (Nat.le_of_ble_eq_true rfl) ?_
  have a := cp_charactersIn l (cc_h u N T H G f (nI n) L) x
  rw [h] at a
  exact cw_run cw_kX2_put cw_z 13 [true, false] [] [(_, _)] (And.intro (a) (And.intro (Nat.le_refl _) (And.intro (nI_ne0 hm (by omega)) (And.intro ((show ¬ nI n + nI m ≤ nI 60 by rw [nI_add]; exact nI_ge hx (by omega))) (cw_reti cw_kX2_put cw_z rfl rfl)))))
theorem cc_put_ok {x : Int64} {n m : Nat} (h : cp_ci x 8 0 = nI m) (hm : 0 < m) (hx : n + m ≤ 60) : cw_M l mm_X2_put 5 101 [.ref 0, .long x] (cc_h u N T H G f (nI n) L) (some (.int (nI (n + m)))) (cc_h u N T H G (cp_ap x m n f) (nI (n + m)) L) := by
  refine cw_enter cw_kX2_put (by decide) (Nat.le_of_ble_eq_true rfl) ?_
  have a := cp_charactersIn l (cc_h u N T H G f (nI n) L) x
  rw [h] at a
  exact cw_run cw_kX2_put cw_z 20 [true, true] [] [(_, _), (_, _)] (And.intro (a) (And.intro (Nat.le_refl _) (And.intro (nI_ne0 hm (by omega)) (And.intro ((show nI n + nI m ≤ nI 60 by rw [nI_add]; exact nI_le hx (by omega))) (And.intro (cc_pad (cp_append l f x hx)) (And.intro (Nat.le_refl _) (cw_reti cw_kX2_put cw_z rfl rfl)))))))
theorem cc_wipe : cw_M l mm_X2_wipe 5 101 [.ref 0] (cc_h u N T H G f pl L) (some (.int pl)) (cc_h u N T H G f (nI 0) L) := by
  refine cw_enter cw_kX2_wipe (by decide) (Nat.le_of_ble_eq_true rfl) ?_
  exact cw_run cw_kX2_wipe cw_z 8 [] [] [(_, _)] (And.intro (cc_pad (cp_empty l f pl)) (And.intro (Nat.le_refl _) (cw_reti cw_kX2_wipe cw_z rfl rfl)))
theorem cc_fault {n : Nat} (hn : n ≤ 60) (hc : ∀ k, k < n → cp_c1 (f k)) : cw_M l mm_X2_fault 5 101 [.ref 0] (cc_h u N T H G f (nI n) L) (some (.int (cp_ff f n 0 (nI 0) false false))) (cc_h u N T H G f (nI n) L) := by
  refine cw_enter cw_kX2_fault (by decide) (Nat.le_of_ble_eq_true rfl) ?_
  exact cw_run cw_kX2_fault cw_z 3 [] [] [(_, _)] (And.intro (cc_pad (cp_firstFault l f hn hc)) (And.intro (Nat.le_refl _) (cw_reti cw_kX2_fault cw_z rfl rfl)))
theorem cc_undo_no : cw_M l mm_X2_undo 5 101 [.ref 0] (cc_h (nI 0) N T H G f pl L) (some (.int (-nI 5))) (cc_h (nI 0) N T H G f pl L) := by
  refine cw_enter cw_kX2_undo (by decide) (Nat.le_of_ble_eq_true rfl) ?_
  exact cw_run cw_kX2_undo cw_z 4 [true] [] [] (And.intro ((show nI 0 ≤ 0 by decide)) (cw_reti cw_kX2_undo cw_z rfl rfl))
theorem cc_undo_ok {n j : Nat} {S : cs_S} (h5 : n ≤ 5) (hj : H n = some j) (hS : L[j]? = some S) : cw_M l mm_X2_undo 5 101 [.ref 0] (cc_h (nI (n + 1)) N T H G f pl L) (some (.int (nI n))) (cc_h (nI n) (cs_copy N S) T H G f pl L) := by
  have hl : j < L.length := (List.getElem?_eq_some_iff.mp hS).1
  have e0 : nI (n + 1) - nI 1 = nI n := by rw [pk_sub (by omega)]; rfl
  refine cw_enter cw_kX2_undo (by decide) (Nat.le_of_ble_eq_true rfl) ?_
  refine cw_run cw_kX2_undo cw_z 13 [false, true] [] [] (And.intro (nI_nle (by omega) (by omega)) (And.intro ((show nI (n + 1) ≤ nI 6 from nI_le (by omega) (by omega))) (?_)))
  refine cw_aald (j := n) cw_kX2_undo cw_z rfl rfl rfl e0 (by omega) (cc_g_s hj) ?_
  refine cw_run cw_kX2_undo cw_z 6 [] [] [] (show cw_W l mm_X2_undo 5 101 _ _ _ 0 0 43 [(1, .ref (15 + 5 * j)), (0, .ref 0)] [.ref (15 + 5 * j), .ref 1] (cc_h (nI (n + 1)) N T H G f pl L) from ?_)
  refine cw_callAV (mc' := 0) (ms' := 0) cw_kX2_undo cw_z rfl rfl (Or.inr rfl) (show 1 ≤ 2 by decide) (by decide) rfl (by decide) (cc_at_N (u := nI (n + 1))).1 rfl (by decide) (cc_copyN hS) (cc_lel (Nat.le_refl _)) (Nat.le_refl _) (cc_lel (Nat.le_refl _)) ?_ (cc_ws rfl) ?_
  · intro q hq
    rw [cc_len]
    simp only [List.mem_cons, List.not_mem_nil, or_false] at hq
    rcases hq with rfl | rfl
    · show 15 + 5 * j < 15 + 5 * L.length; omega
    · show 0 < 15 + 5 * L.length; omega
  · rw [← e0]
    exact cw_run cw_kX2_undo cw_z 8 [] [] [] (cw_reti cw_kX2_undo cw_z rfl rfl)
theorem cc_save_no {x : Int32} (h : cb_wi x (nI 0) (nI 1) = false) : cw_M l mm_X2_save 5 101 [.ref 0, .int x] (cc_h u N T H G f pl L) (some (.int (-nI 2))) (cc_h u N T H G f pl L) := by
  refine cw_enter cw_kX2_save (by decide) (Nat.le_of_ble_eq_true rfl) ?_
  by_cases c : x < 0
  · exact cw_run cw_kX2_save cw_z 3 [true] [] [] (And.intro (c) (cw_reti cw_kX2_save cw_z rfl rfl))
  · have d : ¬ x < nI 2 := fun q => by
      obtain ⟨k, hk, rfl⟩ := nI_of c
      have k2 : k < 2 := by
        rcases Nat.lt_or_ge k 2 with z | z
        · exact z
        · exact absurd q (nI_nlt z (by omega))
      exact of_decide_eq_false h ⟨nI_nlt (by omega) (by omega), nI_nlt (by omega) (by omega)⟩
    exact cw_run cw_kX2_save cw_z 6 [false, false] [] [] (And.intro (c) (And.intro (d) (cw_reti cw_kX2_save cw_z rfl rfl)))
theorem cc_save3 {hb : cw_H} (hbl : hb.length ≤ 15 + 5 * L.length) {s j kc ks : Nat} {S : cs_S} (hk : kc ≤ 5 ∧ ks ≤ 101) (hs : s < 2) (hj : G s = some j) (hS : L[j]? = some S) : cw_W l mm_X2_save 5 101 hb (some (.int (cs_to N))) (cc_h u N T H G f pl (L.set j (cs_copy S N))) kc ks 34 [(0, .ref 0), (1, .int (nI s))] [] (cc_h u N T H G f pl L) := by
  refine cw_run cw_kX2_save hk 3 [] [] [] (show cw_W l mm_X2_save 5 101 hb (some (.int (cs_to N))) (cc_h u N T H G f pl (L.set j (cs_copy S N))) kc ks 39 [(0, .ref 0), (1, .int (nI s))] [.int (nI s), .ref 12] (cc_h u N T H G f pl L) from ?_)
  refine cw_aald (j := s) cw_kX2_save hk rfl rfl rfl rfl hs (cc_g_s hj) ?_
  refine cw_run cw_kX2_save hk 2 [] [] [] (show cw_W l mm_X2_save 5 101 hb (some (.int (cs_to N))) (cc_h u N T H G f pl (L.set j (cs_copy S N))) kc ks 44 [(0, .ref 0), (1, .int (nI s))] [.ref 1, .ref (15 + 5 * j)] (cc_h u N T H G f pl L) from ?_)
  refine cw_callAV (mc' := 0) (ms' := 0) cw_kX2_save hk rfl rfl (Or.inr rfl) (show 1 ≤ 2 by decide) (by decide) rfl (by decide) (cc_at_L hS).1 rfl (by decide) (cc_copyL hS) (cc_lel (by rw [List.length_set]; exact Nat.le_refl _)) (by rw [cc_len]; exact hbl) (cc_lel (Nat.le_refl _)) (cc_wl rfl) (cc_ws rfl) ?_
  exact cw_run cw_kX2_save hk 3 [] [] [] (cw_reti cw_kX2_save hk rfl rfl)
theorem cc_save_ok {s n : Nat} (hs : s < 2) (hok : cc_ok n H G L) : cw_M l mm_X2_save 5 101 [.ref 0, .int (nI s)] (cc_h u N T H G f pl L) (some (.int (cs_to N))) (cc_h u N T H (cc_rHf G s L) f pl (cc_rL G s L N)) := by
  obtain ⟨-, hH, hG, -⟩ := hok
  refine cw_enter cw_kX2_save (by decide) (Nat.le_of_ble_eq_true rfl) ?_
  refine cw_run cw_kX2_save cw_z 8 [false, true] [] [] (And.intro (nI_pos (by omega)) (And.intro ((show nI s < nI 2 from nI_lt hs (by omega))) (?_)))
  unfold cc_rHf cc_rL
  cases hj : G s with
  | some j =>
    have hl := hG s j hj
    refine cw_aald (j := s) cw_kX2_save cw_z rfl rfl rfl rfl hs (cc_g_s hj) ?_
    have q := cc_save3 (l := l) (u := u) (N := N) (T := T) (H := H) (f := f) (pl := pl) (hb := cc_h u N T H G f pl L) (kc := 0) (ks := 0) (by rw [cc_len]; exact Nat.le_refl _) (by decide) hs hj (List.getElem?_eq_getElem hl)
    have e : L.getD j cs_z = L[j] := by rw [List.getD_eq_getElem?_getD, List.getElem?_eq_getElem hl]; rfl
    rw [← e] at q
    exact cw_run cw_kX2_save cw_z 1 [] [] [] q
  | none =>
    refine cw_aaln (j := s) cw_kX2_save cw_z rfl rfl rfl rfl hs (cc_g_n hj) ?_
    refine cw_run cw_kX2_save cw_z 4 [] [] [] ?_
    refine cc_newS (l := l) (pc := 26) cw_kX2_save rfl (by decide) rfl rfl rfl hH hG (Nat.le_of_ble_eq_true rfl) (lv := [(0, .ref 0), (1, .int (nI s))]) (st := [.int (nI s), .ref 12]) (fun q hq => cw_wfvb_ok (List.all_eq_true.mp (show [(0, Value.ref 0), (1, Value.int (nI s))].all (fun q => cw_wfvb 15 q.2) = true from rfl) q hq)) (fun q hq => cw_wfvb_ok (List.all_eq_true.mp (show [Value.int (nI s), .ref 12].all (cw_wfvb 15) = true from rfl) q hq)) (by rw [cc_len]; exact Nat.le_refl _) (by rw [cc_len, List.length_append]; exact Nat.le_refl _) ?_
    have hz : (L ++ [cs_z])[L.length]? = some cs_z := by simp
    refine cw_aast (j := s) cw_kX2_save (by decide) rfl rfl (cc_at_L hz).1 rfl rfl hs ?_
    have e : (cc_h u N T H G f pl (L ++ [cs_z])).set 12 (.inl (2, 2, .inr (.inr (.inr (.inr (va_up (cc_g G) s (some (15 + 5 * L.length)))))))) = cc_h u N T H (va_up G s (some L.length)) f pl (L ++ [cs_z]) := by
      rw [cc_g_up]; rfl
    rw [e]
    have q := cc_save3 (l := l) (u := u) (N := N) (T := T) (H := H) (f := f) (pl := pl) (hb := cc_h u N T H G f pl L) (kc := 5) (ks := 101) (G := va_up G s (some L.length)) (L := L ++ [cs_z]) (by rw [cc_len, List.length_append]; omega) (by decide) hs (j := L.length) (if_pos rfl) hz
    have e2 : (L ++ [cs_z]).set L.length (cs_copy cs_z N) = L ++ [cs_copy cs_z N] := by simp
    rw [e2] at q
    exact q
theorem cc_rest_no {x : Int32} (h : cb_wi x (nI 0) (nI 1) = false) : cw_M l mm_X2_restore 5 101 [.ref 0, .int x] (cc_h u N T H G f pl L) (some (.int (-nI 2))) (cc_h u N T H G f pl L) := by
  refine cw_enter cw_kX2_restore (by decide) (Nat.le_of_ble_eq_true rfl) ?_
  by_cases c : x < 0
  · exact cw_run cw_kX2_restore cw_z 3 [true] [] [] (And.intro (c) (cw_reti cw_kX2_restore cw_z rfl rfl))
  · have d : ¬ x < nI 2 := fun q => by
      obtain ⟨k, hk, rfl⟩ := nI_of c
      have k2 : k < 2 := by
        rcases Nat.lt_or_ge k 2 with z | z
        · exact z
        · exact absurd q (nI_nlt z (by omega))
      exact of_decide_eq_false h ⟨nI_nlt (by omega) (by omega), nI_nlt (by omega) (by omega)⟩
    exact cw_run cw_kX2_restore cw_z 6 [false, false] [] [] (And.intro (c) (And.intro (d) (cw_reti cw_kX2_restore cw_z rfl rfl)))
theorem cw_aldN {ii : cw_I} {mc ms : Nat} {h0 : cw_H} {r : Option Value} {h1 : cw_H} {kc ks pc : Nat} {lv : cw_LV} {st : List Value} {h : cw_H} {k : Fin 4} (hi : cw_okI ii) (hd : cw_look (cw_tb ii) pc = some (.aload_n k, 1)) (hv : cw_look lv k.val = some .null) (kk : cw_W l ii mc ms h0 r h1 kc ks (pc + 1) lv (.null :: st) h) : cw_W l ii mc ms h0 r h1 kc ks pc lv st h := by
  intro p e R s m args below meth c D cA ad0 hX hR1 hR2 ad H locs ls hkp hP hD hS hl
  have hX0 := hX
  obtain ⟨hx, hb, hml, hown, hts, hKs, hfr, hlo, hnm, hret, hlocks⟩ := hX
  have hdg : decode (cw_b ii) pc = .ok (.aload_n k, 1) := hi.1 (pc, .aload_n k, 1) (cw_look_mem hd)
  have hv2 := cw_L_at hl hv
  have q := kk p e R s m args below meth c D cA ad0 hX0 hR1 hR2 ad H locs ls hkp hP hD hS hl
  exact lv_aload_nN hx hb hdg rfl hv2 q
theorem cc_rest_none {s : Nat} (hs : s < 2) (hj : G s = none) : cw_M l mm_X2_restore 5 101 [.ref 0, .int (nI s)] (cc_h u N T H G f pl L) (some (.int (-nI 5))) (cc_h u N T H G f pl L) := by
  refine cw_enter cw_kX2_restore (by decide) (Nat.le_of_ble_eq_true rfl) ?_
  refine cw_run cw_kX2_restore cw_z 8 [false, true] [] [] (And.intro (nI_pos (by omega)) (And.intro ((show nI s < nI 2 from nI_lt hs (by omega))) (?_)))
  refine cw_aaln (j := s) cw_kX2_restore cw_z rfl rfl rfl rfl hs (cc_g_n hj) ?_
  refine cw_run cw_kX2_restore cw_z 1 [] [] [] ?_
  refine cw_aldN (k := 2) cw_kX2_restore rfl rfl ?_
  exact cw_run cw_kX2_restore cw_z 2 [] [] [] (cw_reti cw_kX2_restore cw_z rfl rfl)
theorem cc_rest_ok {s j n : Nat} {S : cs_S} (hs : s < 2) (hj : G s = some j) (hok : cc_ok n H G L) (hS : (cc_Lr n H L N)[j]? = some S) : cw_M l mm_X2_restore 5 101 [.ref 0, .int (nI s)] (cc_h (nI n) N T H G f pl L) (some (.int (cs_to S))) (cc_h (nI (cm_ru n + 1)) (cs_copy N S) T (cc_Hr n H L) G f pl (cc_Lr n H L N)) := by
  have hl : j < L.length := hok.2.2.1 s j hj
  have hle : L.length ≤ (cc_Lr n H L N).length := cc_rL_len (cc_rH n H) (cm_ru n) L N
  refine cw_enter cw_kX2_restore (by decide) (Nat.le_of_ble_eq_true rfl) ?_
  refine cw_run cw_kX2_restore cw_z 8 [false, true] [] [] (And.intro (nI_pos (by omega)) (And.intro ((show nI s < nI 2 from nI_lt hs (by omega))) (?_)))
  refine cw_aald (j := s) cw_kX2_restore cw_z rfl rfl rfl rfl hs (cc_g_s hj) ?_
  refine cw_run cw_kX2_restore cw_z 4 [] [] [] (show cw_W l mm_X2_restore 5 101 _ _ _ 0 0 27 [(2, .ref (15 + 5 * j)), (0, .ref 0), (1, .int (nI s))] [.ref 0] (cc_h (nI n) N T H G f pl L) from ?_)
  have wl : ∀ {u' : Int32} {N' T' : cs_S} {H' G' : Nat → Option Nat} {f' : Nat → Int32} {pl' : Int32} {L' : List cs_S}, L.length ≤ L'.length → ∀ q ∈ [(2, Value.ref (15 + 5 * j)), (0, .ref 0), (1, .int (nI s))], cw_wfv (cc_h u' N' T' H' G' f' pl' L').length q.2 := by
    intro u' N' T' H' G' f' pl' L' h2 q hq
    rw [cc_len]
    simp only [List.mem_cons, List.not_mem_nil, or_false] at hq
    rcases hq with rfl | rfl | rfl
    · show 15 + 5 * j < 15 + 5 * L'.length; omega
    · show 0 < 15 + 5 * L'.length; omega
    · trivial
  refine cw_callAV (ic := mm_X2_record) (mc' := 5) (ms' := 101) cw_kX2_restore (by decide) rfl rfl (Or.inl rfl) (show 0 ≤ 1 by decide) (by decide) rfl (by decide) (show (cc_h (nI n) N T H G f pl L)[0]? = some _ from rfl) rfl (by decide) (cc_record hok) (cc_lel hle) (Nat.le_refl _) (cc_lel (Nat.le_refl _)) (wl (Nat.le_refl _)) (cc_ws rfl) ?_
  refine cw_run cw_kX2_restore (by decide) 3 [] [] [] (show cw_W l mm_X2_restore 5 101 _ _ _ (0 + 5) (0 + 101) 35 [(2, .ref (15 + 5 * j)), (0, .ref 0), (1, .int (nI s))] [.ref (15 + 5 * j), .ref 1] (cc_h (nI (cm_ru n + 1)) N T (cc_Hr n H L) G f pl (cc_Lr n H L N)) from ?_)
  refine cw_callAV (mc' := 0) (ms' := 0) cw_kX2_restore (by decide) rfl rfl (Or.inr rfl) (show 1 ≤ 2 by decide) (by decide) rfl (by decide) (cc_at_N (u := nI (cm_ru n + 1))).1 rfl (by decide) (cc_copyN hS) (cc_lel (Nat.le_refl _)) (cc_lel hle) (cc_lel (Nat.le_refl _)) (wl hle) (cc_ws rfl) ?_
  exact cw_run cw_kX2_restore (by decide) 3 [] [] [] (cw_reti cw_kX2_restore (by decide) rfl rfl)
end CCS
