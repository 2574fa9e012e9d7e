/-! learning, one step, many steps; beginning anew, copying -/
theorem cs_g_nI {S : cs_S} {k : Nat} (h : cs_gi S = nI k) (hk : k < 2 ^ 31) : cs_g S = k := by unfold cs_g; rw [h, nI_clamp hk]
theorem cs_n_nI {S : cs_S} {k : Nat} (h : cs_le S = nI k) (hk : k < 2 ^ 31) : cs_n S = k := by unfold cs_n; rw [h, nI_clamp hk]
theorem cs_t_nI {S : cs_S} {k : Nat} (h : cs_to S = nI k) (hk : k < 2 ^ 31) : cs_t S = k := by unfold cs_t; rw [h, nI_clamp hk]
theorem cs_k_nI {S : cs_S} {k : Nat} (h : cs_th S = nI k) (hk : k < 2 ^ 31) : cs_k S = k := by unfold cs_k; rw [h, nI_clamp hk]
theorem cs_gbn_le (S : cs_S) (L : Int32) : ∀ g, cs_gbn S L g ≤ g
  | 0 => Nat.le_refl _
  | g + 1 => by
    unfold cs_gbn
    by_cases c : cs_lv S g ≤ L
    · rw [if_pos c]; exact Nat.le_refl _
    · rw [if_neg c]; exact Nat.le_succ_of_le (cs_gbn_le S L g)
theorem cs_Bd_gb {S : cs_S} (hB : cs_Bd S) (L : Int32) : cs_Bd (cs_gb S L) := by
  obtain ⟨⟨hg, hg2⟩, hr⟩ := hB
  have h1 := cs_gbn_le S L (cs_g S)
  have h2 : cs_g (cs_gb S L) = cs_gbn S L (cs_g S) := cs_g_nI (S := cs_gb S L) rfl (by omega)
  exact ⟨⟨by rw [h2]; rfl, by rw [h2]; omega⟩, hr⟩
theorem cs_Bd_drop {S : cs_S} (hB : cs_Bd S) (h1 : 1 ≤ cs_n S) (k : Nat) : cs_Bd (cs_drop S k) ∧ cs_n (cs_drop S k) = cs_n S - 1 := by
  obtain ⟨hg, ht, ⟨hn, hn2⟩, hth⟩ := hB
  have hle : cs_le S - nI 1 = nI (cs_n S - 1) := by rw [hn, pk_sub h1]
  have hc : cs_n (cs_drop S k) = cs_n S - 1 := cs_n_nI (S := cs_drop S k) hle (by omega)
  exact ⟨⟨hg, ht, ⟨by rw [hc]; exact hle, by rw [hc]; omega⟩, hth⟩, hc⟩
theorem cs_Bd_fgt {S : cs_S} (hB : cs_Bd S) (h1 : 1 ≤ cs_n S) : cs_Bd (cs_fgt S) ∧ cs_n (cs_fgt S) ≤ cs_n S := by
  unfold cs_fgt
  split
  · exact ⟨hB, Nat.le_refl _⟩
  · rename_i k _
    obtain ⟨a, b⟩ := cs_Bd_drop hB h1 k
    exact ⟨a, by omega⟩
def cs_push (S : cs_S) (c : Int32) : cs_S := (S.1, S.2.1, S.2.2.1, S.2.2.2.1, cs_le S + nI 1, upd (cs_cl S) (cs_t S + cs_n S) c, S.2.2.2.2.2.2)
def cs_mr (S : cs_S) : cs_S := if cs_n S < 40 then S else cs_fgt S
def cs_learn (S : cs_S) (c : Int32) : cs_S := if cs_n (cs_mr S) < 40 then cs_push (cs_mr S) c else cs_mr S
theorem cs_Bd_mr {S : cs_S} (hB : cs_Bd S) : cs_Bd (cs_mr S) := by
  unfold cs_mr
  by_cases h : cs_n S < 40
  · rw [if_pos h]; exact hB
  · rw [if_neg h]; exact (cs_Bd_fgt hB (by omega)).1
theorem cs_Bd_learn {S : cs_S} (hB : cs_Bd S) (c : Int32) : cs_Bd (cs_learn S c) := by
  have hB2 := cs_Bd_mr hB
  unfold cs_learn
  by_cases h : cs_n (cs_mr S) < 40
  · rw [if_pos h]
    obtain ⟨hg, ht, ⟨hn, hn2⟩, hth⟩ := hB2
    have hle : cs_le (cs_mr S) + nI 1 = nI (cs_n (cs_mr S) + 1) := by rw [hn, nI_add]
    have hc : cs_n (cs_push (cs_mr S) c) = cs_n (cs_mr S) + 1 := cs_n_nI (S := cs_push (cs_mr S) c) hle (by omega)
    exact ⟨hg, ht, ⟨by rw [hc]; exact hle, by rw [hc]; omega⟩, hth⟩
  · rw [if_neg h]; exact hB2
theorem cs_learn_ok (l : Launch) (S : cs_S) (hB : cs_Bd S) (c : Int32) : cw_M l mm_X1_learn 0 0 [.ref 0, .int c] (cs_h S) none (cs_h (if cs_n S < 40 then cs_push S c else S)) := by
  obtain ⟨hg, ⟨ht, ht2⟩, ⟨hn, hn2⟩, hth⟩ := hB
  have hs : cs_to S + cs_le S = nI (cs_t S + cs_n S) := by rw [ht, hn, nI_add]
  refine cw_enter cw_KX1_learn (by decide) (Nat.le_of_ble_eq_true rfl) ?_
  by_cases h : cs_n S < 40
  · rw [if_pos h]
    exact cw_run cw_kX1_learn cw_z 28 [false, false, false] [_] [] (And.intro ((show ¬ nI 40 ≤ cs_le S by rw [hn]; exact nI_ge h (by omega))) (And.intro ((show ¬ cs_to S + cs_le S < 0 by rw [hs]; exact nI_pos (by omega))) (And.intro ((show ¬ nI 60 ≤ cs_to S + cs_le S by rw [hs]; exact nI_ge (by omega) (by omega))) (And.intro (hs) (And.intro ((show cs_t S + cs_n S < 60 by omega)) (cw_retv cw_kX1_learn cw_z rfl rfl))))))
  · rw [if_neg h]
    exact cw_run cw_kX1_learn cw_z 10 [true] [] [] (And.intro ((show nI 40 ≤ cs_le S by rw [hn]; exact nI_le (by omega) (by omega))) (cw_retv cw_kX1_learn cw_z rfl rfl))
/-- the clause out of the conflict x -/
def cs_out (S : cs_S) (x : Int32) : Int32 := cs_coo S (cb_op (cs_spl S (cs_g S) 0 (nI 0))) (cs_g S) (cs_ca S x)
def cs_m1 (S : cs_S) (x : Int32) : cs_S := cs_gb S (cs_lbp S (cs_out S x) (cs_g S) 0 (nI 0))
def cs_m2 (S : cs_S) (x : Int32) : cs_S := cs_learn (cs_m1 S x) (cs_out S x)
def cs_mf (S : cs_S) : cs_S := if cs_re S ≤ 0 then cs_wco S (cs_co S + nI 1) else if (cs_co S + nI 1) - (cs_co S + nI 1) / cs_re S * cs_re S = 0 then cs_gb (cs_wco S (cs_co S + nI 1)) (nI 0) else cs_wco S (cs_co S + nI 1)
def cs_meet (S : cs_S) (x : Int32) : cs_S := if cs_pl S (cs_g S) = 0 then cs_wsd S (nI 2) else cs_mf (cs_m2 S x)
theorem cs_Bd_wco {S : cs_S} (hB : cs_Bd S) (x : Int32) : cs_Bd (cs_wco S x) := hB
theorem cs_Bd_wsd {S : cs_S} (hB : cs_Bd S) (x : Int32) : cs_Bd (cs_wsd S x) := hB
theorem cs_Bd_wsp {S : cs_S} (hB : cs_Bd S) (x : Int32) : cs_Bd (cs_wsp S x) := hB
theorem cs_Bd_m2 {S : cs_S} (hB : cs_Bd S) (x : Int32) : cs_Bd (cs_m2 S x) := cs_Bd_learn (cs_Bd_gb hB _) _
theorem cs_Bd_mf {S : cs_S} (hB : cs_Bd S) : cs_Bd (cs_mf S) := by
  unfold cs_mf
  split
  · exact cs_Bd_wco hB _
  · split
    · exact cs_Bd_gb (cs_Bd_wco hB _) _
    · exact cs_Bd_wco hB _
theorem cs_Bd_meet {S : cs_S} (hB : cs_Bd S) (x : Int32) : cs_Bd (cs_meet S x) := by
  unfold cs_meet
  split
  · exact cs_Bd_wsd hB _
  · exact cs_Bd_mf (cs_Bd_m2 hB x)
theorem cs_meet_2 (l : Launch) (S0 S : cs_S) (hB : cs_Bd S) {lv : cw_LV} (hl : lv_pick lv [1] = [(0, .ref 0)]) : cw_W l mm_X1_meetConflict 0 0 (cs_h S0) none (cs_h (cs_mf S)) 0 0 50 lv [] (cs_h S) := by
  refine cw_less [1] hl ?_
  by_cases d : cs_re S ≤ 0
  · rw [cs_mf, if_pos d]
    exact cw_run cw_kX1_meetConflict cw_z 9 [true] [] [] (And.intro (d) (cw_retv cw_kX1_meetConflict cw_z rfl rfl))
  · have d0 : ¬ cs_re S = 0 := fun q => d (by rw [q]; exact Int32.le_refl _)
    by_cases f : (cs_co S + nI 1) - (cs_co S + nI 1) / cs_re S * cs_re S = 0
    · rw [cs_mf, if_neg d, if_pos f]
      exact cw_run cw_kX1_meetConflict cw_z 18 [false, false] [] [(_, _)] (And.intro (d) (And.intro (d0) (And.intro ((fun q => q f)) (And.intro (cs_goBackTo l (cs_wco S (cs_co S + nI 1)) (cs_Bd_wco hB _) (nI 0)) (And.intro (Nat.le_refl _) (cw_retv cw_kX1_meetConflict cw_z rfl rfl))))))
    · rw [cs_mf, if_neg d, if_neg f]
      exact cw_run cw_kX1_meetConflict cw_z 15 [false, true] [] [] (And.intro (d) (And.intro (d0) (And.intro (f) (cw_retv cw_kX1_meetConflict cw_z rfl rfl))))
theorem cs_meet_ok (l : Launch) (S : cs_S) (hB : cs_Bd S) (x : Int32) : cw_M l mm_X1_meetConflict 0 0 [.ref 0, .int x] (cs_h S) none (cs_h (cs_meet S x)) := by
  refine cw_enter cw_KX1_meetConflict (by decide) (Nat.le_of_ble_eq_true rfl) ?_
  have hp := cs_presentLevel l S hB.1.1 hB.1.2
  by_cases c : cs_pl S (cs_g S) = 0
  · rw [cs_meet, if_pos c]
    exact cw_run cw_kX1_meetConflict cw_z 6 [false] [] [(_, _)] (And.intro (hp) (And.intro (Nat.le_refl _) (And.intro ((fun q => q c)) (cw_retv cw_kX1_meetConflict cw_z rfl rfl))))
  · rw [cs_meet, if_neg c]
    have hB1 : cs_Bd (cs_m1 S x) := cs_Bd_gb hB _
    have a1 := cs_clauseAt0 l S x
    have a2 : cw_M l mm_X1_clauseOutOf 0 0 [.ref 0, .int (cs_ca S x)] (cs_h S) (some (.int (cs_out S x))) (cs_h S) := cs_clauseOutOf l S hB (cs_ca S x)
    have a3 := cs_levelBelowPresent l S hB (cs_out S x)
    have a4 : cw_M l mm_X1_goBackTo 0 0 [.ref 0, .int (cs_lbp S (cs_out S x) (cs_g S) 0 (nI 0))] (cs_h S) none (cs_h (cs_m1 S x)) := cs_goBackTo l S hB (cs_lbp S (cs_out S x) (cs_g S) 0 (nI 0))
    have a5 : cw_M l mm_X1_learn 0 0 [.ref 0, .int (cs_out S x)] (cs_h (cs_mr (cs_m1 S x))) none (cs_h (cs_m2 S x)) := cs_learn_ok l (cs_mr (cs_m1 S x)) (cs_Bd_mr hB1) (cs_out S x)
    have hB2 := cs_Bd_m2 hB x
    generalize cs_m2 S x = S2 at a5 hB2 ⊢
    generalize cs_m1 S x = S1 at a4 a5 hB1
    generalize cs_lbp S (cs_out S x) (cs_g S) 0 (nI 0) = L at a3 a4
    generalize cs_out S x = c2 at a2 a3 a4 a5
    obtain ⟨hn, hn2⟩ := hB1.2.2.1
    by_cases h : cs_n S1 < 40
    · rw [show cs_mr S1 = S1 by rw [cs_mr, if_pos h]] at a5
      exact cw_run cw_kX1_meetConflict cw_z 21 [true, true] [] [(_, _), (_, _), (_, _), (_, _), (_, _), (_, _)] (And.intro (hp) (And.intro (Nat.le_refl _) (And.intro (c) (And.intro (a1) (And.intro (Nat.le_refl _) (And.intro (a2) (And.intro (Nat.le_refl _) (And.intro (a3) (And.intro (Nat.le_refl _) (And.intro (a4) (And.intro (Nat.le_refl _) (And.intro ((show cs_le S1 < nI 40 by rw [hn]; exact nI_lt h (by omega))) (And.intro (a5) (And.intro (Nat.le_refl _) (cs_meet_2 l S S2 hB2 rfl)))))))))))))))
    · rw [show cs_mr S1 = cs_fgt S1 by rw [cs_mr, if_neg h]] at a5
      exact cw_run cw_kX1_meetConflict cw_z 23 [true, false] [] [(_, _), (_, _), (_, _), (_, _), (_, _), (_, _), (_, _)] (And.intro (hp) (And.intro (Nat.le_refl _) (And.intro (c) (And.intro (a1) (And.intro (Nat.le_refl _) (And.intro (a2) (And.intro (Nat.le_refl _) (And.intro (a3) (And.intro (Nat.le_refl _) (And.intro (a4) (And.intro (Nat.le_refl _) (And.intro ((show ¬ cs_le S1 < nI 40 by rw [hn]; exact nI_nlt (by omega) (by omega))) (And.intro (cs_forget l S1 hB1 (by omega)) (And.intro (Nat.le_refl _) (And.intro (a5) (And.intro (Nat.le_refl _) (cs_meet_2 l S S2 hB2 rfl)))))))))))))))))
def cs_fu0 (S : cs_S) : Int32 := cs_fu S (nI 0) (cs_t S + cs_n S) 0
def cs_fu1 (S : cs_S) : Int32 := cs_fu S (nI 1) (cs_t S + cs_n S) 0
def cs_lo (S : cs_S) : Int32 := cs_low S (cs_k S) 1
/-- one step -/
def cs_one (S : cs_S) : cs_S := if cs_fu0 S < 0 then (if cs_fu1 S < 0 then (if cs_lo S ≤ 0 then cs_wsd S (nI 1) else cs_give S (if cs_fi S = nI 1 then cs_lo S else cb_opp (cs_lo S)) (cs_pl S (cs_g S) + nI 1) (-nI 6)) else cs_give S (cb_sio (cs_op S (cs_ca S (cs_fu1 S))) (nI 1) 9 1 (nI 0)) (cs_pl S (cs_g S)) (cs_fu1 S)) else cs_meet S (cs_fu0 S)
theorem cs_Bd_give {S : cs_S} (hB : cs_Bd S) (s lv r : Int32) : cs_Bd (cs_give S s lv r) := by
  unfold cs_give
  by_cases h : cs_g S < 9
  · rw [if_pos h]
    obtain ⟨⟨hg, hg2⟩, hr⟩ := hB
    have hle : cs_gi S + nI 1 = nI (cs_g S + 1) := by rw [hg, nI_add]
    refine ⟨⟨?_, ?_⟩, hr⟩
    · show cs_gi S + nI 1 = nI (cs_gi S + nI 1).toNatClampNeg
      rw [hle, nI_clamp (by omega)]
    · show (cs_gi S + nI 1).toNatClampNeg ≤ 9
      rw [hle, nI_clamp (by omega)]; omega
  · rw [if_neg h]; exact hB
theorem cs_Bd_one {S : cs_S} (hB : cs_Bd S) : cs_Bd (cs_one S) := by
  unfold cs_one
  split
  · split
    · split
      · exact cs_Bd_wsd hB _
      · exact cs_Bd_give hB _ _ _
    · exact cs_Bd_give hB _ _ _
  · exact cs_Bd_meet hB _
theorem cs_one_ok (l : Launch) (S : cs_S) (hB : cs_Bd S) : cw_M l mm_X1_doOneStep 0 0 [.ref 0] (cs_h S) none (cs_h (cs_one S)) := by
  refine cw_enter cw_KX1_doOneStep (by decide) (Nat.le_of_ble_eq_true rfl) ?_
  have a0 : cw_M l mm_X1_firstUntrue 0 0 [.ref 0, .int (nI 0)] (cs_h S) (some (.int (cs_fu0 S))) (cs_h S) := cs_firstUntrue l S hB (nI 0)
  have a1 : cw_M l mm_X1_firstUntrue 0 0 [.ref 0, .int (nI 1)] (cs_h S) (some (.int (cs_fu1 S))) (cs_h S) := cs_firstUntrue l S hB (nI 1)
  have hp := cs_presentLevel l S hB.1.1 hB.1.2
  have hlo : cw_M l mm_X1_lowestOpenThing 0 0 [.ref 0] (cs_h S) (some (.int (cs_lo S))) (cs_h S) := cs_lowestOpenThing l S hB.2.2.2.1 hB.2.2.2.2
  have am := cs_meet_ok l S hB (cs_fu0 S)
  by_cases c : cs_fu0 S < 0
  · by_cases d : cs_fu1 S < 0
    · by_cases f : cs_lo S ≤ 0
      · rw [cs_one, if_pos c, if_pos d, if_pos f]
        exact cw_run cw_kX1_doOneStep cw_z 20 [true, true, true] [] [(_, _), (_, _), (_, _)] (And.intro (a0) (And.intro (Nat.le_refl _) (And.intro (c) (And.intro (a1) (And.intro (Nat.le_refl _) (And.intro (d) (And.intro (hlo) (And.intro (Nat.le_refl _) (And.intro (f) (cw_retv cw_kX1_doOneStep cw_z rfl rfl))))))))))
      · by_cases i : cs_fi S = nI 1
        · rw [cs_one, if_pos c, if_pos d, if_neg f, if_pos i]
          exact cw_run cw_kX1_doOneStep cw_z 30 [true, true, false, false] [] [(_, _), (_, _), (_, _), (_, _), (_, _)] (And.intro (a0) (And.intro (Nat.le_refl _) (And.intro (c) (And.intro (a1) (And.intro (Nat.le_refl _) (And.intro (d) (And.intro (hlo) (And.intro (Nat.le_refl _) (And.intro (f) (And.intro ((fun q => q i)) (And.intro (hp) (And.intro (Nat.le_refl _) (And.intro (cs_give_ok l S hB _ _ _) (And.intro (Nat.le_refl _) (cw_retv cw_kX1_doOneStep cw_z rfl rfl)))))))))))))))
        · rw [cs_one, if_pos c, if_pos d, if_neg f, if_neg i]
          exact cw_run cw_kX1_doOneStep cw_z 30 [true, true, false, true] [] [(_, _), (_, _), (_, _), (_, _), (_, _), (_, _)] (And.intro (a0) (And.intro (Nat.le_refl _) (And.intro (c) (And.intro (a1) (And.intro (Nat.le_refl _) (And.intro (d) (And.intro (hlo) (And.intro (Nat.le_refl _) (And.intro (f) (And.intro (i) (And.intro (cs_opposite l _ _) (And.intro (Nat.le_refl _) (And.intro (hp) (And.intro (Nat.le_refl _) (And.intro (cs_give_ok l S hB _ _ _) (And.intro (Nat.le_refl _) (cw_retv cw_kX1_doOneStep cw_z rfl rfl)))))))))))))))))
    · rw [cs_one, if_pos c, if_neg d]
      exact cw_run cw_kX1_doOneStep cw_z 24 [true, false] [] [(_, _), (_, _), (_, _), (_, _), (_, _), (_, _), (_, _)] (And.intro (a0) (And.intro (Nat.le_refl _) (And.intro (c) (And.intro (a1) (And.intro (Nat.le_refl _) (And.intro (d) (And.intro (cs_clauseAt0 l S _) (And.intro (Nat.le_refl _) (And.intro (cs_openSigns l S _) (And.intro (Nat.le_refl _) (And.intro (cs_signInOrder l _ _ _) (And.intro (Nat.le_refl _) (And.intro (hp) (And.intro (Nat.le_refl _) (And.intro (cs_give_ok l S hB _ _ _) (And.intro (Nat.le_refl _) (cw_retv cw_kX1_doOneStep cw_z rfl rfl)))))))))))))))))
  · rw [cs_one, if_neg c]
    exact cw_run cw_kX1_doOneStep cw_z 9 [false] [] [(_, _), (_, _)] (And.intro (a0) (And.intro (Nat.le_refl _) (And.intro (c) (And.intro (am) (And.intro (Nat.le_refl _) (cw_retv cw_kX1_doOneStep cw_z rfl rfl))))))
/-- many steps -/
def cs_stp1 (S : cs_S) : cs_S := cs_wsp (cs_one S) (cs_sp (cs_one S) + nI 1)
def cs_runs : Nat → cs_S → cs_S
  | 0, S => S
  | n + 1, S => if cs_sd S = 0 then cs_runs n (cs_stp1 S) else S
theorem cs_Bd_stp1 {S : cs_S} (hB : cs_Bd S) : cs_Bd (cs_stp1 S) := cs_Bd_wsp (cs_Bd_one hB) _
theorem cs_Bd_runs : ∀ n {S : cs_S}, cs_Bd S → cs_Bd (cs_runs n S)
  | 0, _, h => h
  | n + 1, S, h => by
    unfold cs_runs
    split
    · exact cs_Bd_runs n (cs_Bd_stp1 h)
    · exact h
theorem cs_runs_loop (l : Launch) (S0 : cs_S) {N : Nat} (hN : N < 2 ^ 31) : ∀ n i S, i + n = N → cs_Bd S → cw_W l mm_X1_doSteps 0 0 (cs_h S0) none (cs_h (cs_runs n S)) 0 0 2 [(2, .int (nI i)), (0, .ref 0), (1, .int (nI N))] [] (cs_h S) := by
  intro n
  induction n with
  | zero =>
    intro i S hi hB
    obtain rfl : i = N := by omega
    exact cw_run cw_kX1_doSteps cw_z 3 [true] [] [] (And.intro ((show nI i ≤ nI i from Int32.le_refl _)) (cw_retv cw_kX1_doSteps cw_z rfl rfl))
  | succ n ih =>
    intro i S hi hB
    have h0 : ¬ nI N ≤ nI i := nI_ge (by omega) hN
    by_cases c : cs_sd S = 0
    · rw [show cs_runs (n + 1) S = cs_runs n (cs_stp1 S) by rw [cs_runs, if_pos c]]
      have ih1 := ih (i + 1) (cs_stp1 S) (by omega) (cs_Bd_stp1 hB)
      rw [← nI_add i 1] at ih1
      have a1 := cs_one_ok l S hB
      unfold cs_stp1 at ih1 ⊢
      generalize cs_one S = S1 at a1 ih1 ⊢
      exact cw_run cw_kX1_doSteps cw_z 16 [false, false] [] [(_, _)] (And.intro (h0) (And.intro ((fun q => q c)) (And.intro (a1) (And.intro (Nat.le_refl _) (ih1)))))
    · rw [show cs_runs (n + 1) S = S by rw [cs_runs, if_neg c]]
      exact cw_run cw_kX1_doSteps cw_z 6 [false, true] [] [] (And.intro (h0) (And.intro (c) (cw_retv cw_kX1_doSteps cw_z rfl rfl)))
theorem cs_doSteps (l : Launch) (S : cs_S) (hB : cs_Bd S) {N : Nat} (hN : N < 2 ^ 31) : cw_M l mm_X1_doSteps 0 0 [.ref 0, .int (nI N)] (cs_h S) none (cs_h (cs_runs N S)) := by
  refine cw_enter cw_KX1_doSteps (by decide) (Nat.le_of_ble_eq_true rfl) ?_
  exact cw_run cw_kX1_doSteps cw_z 2 [] [] [] (cs_runs_loop l S hN N 0 S (by omega) hB)
def cs_anew (S : cs_S) : cs_S := (S.1, S.2.1, S.2.2.1, S.2.2.2.1, nI 0, S.2.2.2.2.2.1, nI 0, S.2.2.2.2.2.2.2.1, S.2.2.2.2.2.2.2.2.1, S.2.2.2.2.2.2.2.2.2.1, nI 0, nI 0, nI 0, nI 0)
theorem cs_anew_ok (l : Launch) (S : cs_S) : cw_M l mm_X1_beginAnew 0 0 [.ref 0] (cs_h S) none (cs_h (cs_anew S)) := by
  refine cw_enter cw_KX1_beginAnew (by decide) (Nat.le_of_ble_eq_true rfl) ?_
  exact cw_run cw_kX1_beginAnew cw_z 18 [] [] [] (cw_retv cw_kX1_beginAnew cw_z rfl rfl)
theorem cs_Bd_anew {S : cs_S} (hB : cs_Bd S) : cs_Bd (cs_anew S) := by
  obtain ⟨-, ht, -, hth⟩ := hB
  have hg : cs_g (cs_anew S) = 0 := cs_g_nI (S := cs_anew S) rfl (by omega)
  have hn : cs_n (cs_anew S) = 0 := cs_n_nI (S := cs_anew S) rfl (by omega)
  exact ⟨⟨by rw [hg]; rfl, by rw [hg]; omega⟩, ht, ⟨by rw [hn]; rfl, by rw [hn]; omega⟩, hth⟩
/-- two searches beside each other: the first takes all of the second -/
def cs_h2 (S T : cs_S) : cw_H := [.inr (1, [.int (cs_th S), .int (cs_re S), .int (cs_fi S), .int (cs_to S), .int (cs_le S), .ref 1, .int (cs_gi S), .ref 2, .ref 3, .ref 4, .int (cs_va S), .int (cs_sd S), .int (cs_co S), .int (cs_sp S)]), .inl (0, 60, .inl (cs_cl S)), .inl (0, 9, .inl (cs_sg S)), .inl (0, 9, .inl (cs_lv S)), .inl (0, 9, .inl (cs_rs S)),
  .inr (1, [.int (cs_th T), .int (cs_re T), .int (cs_fi T), .int (cs_to T), .int (cs_le T), .ref 6, .int (cs_gi T), .ref 7, .ref 8, .ref 9, .int (cs_va T), .int (cs_sd T), .int (cs_co T), .int (cs_sp T)]), .inl (0, 60, .inl (cs_cl T)), .inl (0, 9, .inl (cs_sg T)), .inl (0, 9, .inl (cs_lv T)), .inl (0, 9, .inl (cs_rs T))]
def cs_copy (S T : cs_S) : cs_S := (T.1, T.2.1, T.2.2.1, T.2.2.2.1, T.2.2.2.2.1, va_cpy (cs_cl T) (cs_cl S) 0 0 60, T.2.2.2.2.2.2.1, va_cpy (cs_sg T) (cs_sg S) 0 0 9, va_cpy (cs_lv T) (cs_lv S) 0 0 9, va_cpy (cs_rs T) (cs_rs S) 0 0 9, T.2.2.2.2.2.2.2.2.2.2)
theorem cs_copyFrom (l : Launch) (S T : cs_S) : cw_M l mm_X1_copyFrom 0 0 [.ref 0, .ref 5] (cs_h2 S T) none (cs_h2 (cs_copy S T) T) := by
  refine cw_enter cw_KX1_copyFrom (by decide) (Nat.le_of_ble_eq_true rfl) ?_
  refine cw_run cw_kX1_copyFrom cw_z 40 [] [] [] (show cw_W l mm_X1_copyFrom 0 0 (cs_h2 S T) none (cs_h2 (cs_copy S T) T) 0 0 80 [(0, .ref 0), (1, .ref 5)] [] (cs_h2 (T.1, T.2.1, T.2.2.1, T.2.2.2.1, T.2.2.2.2.1, cs_cl S, T.2.2.2.2.2.2.1, cs_sg S, cs_lv S, cs_rs S, T.2.2.2.2.2.2.2.2.2.2) T) from ?_)
  exact cw_run cw_kX1_copyFrom cw_z 32 [] [_, _, _, _] [] (And.intro (rfl) (And.intro (rfl) (And.intro (rfl) (And.intro (Nat.le_refl _) (And.intro (Nat.le_refl _) (And.intro ((by decide)) (And.intro (rfl) (And.intro (rfl) (And.intro (rfl) (And.intro (Nat.le_refl _) (And.intro (Nat.le_refl _) (And.intro ((by decide)) (And.intro (rfl) (And.intro (rfl) (And.intro (rfl) (And.intro (Nat.le_refl _) (And.intro (Nat.le_refl _) (And.intro ((by decide)) (And.intro (rfl) (And.intro (rfl) (And.intro (rfl) (And.intro (Nat.le_refl _) (And.intro (Nat.le_refl _) (And.intro ((by decide)) (cw_retv cw_kX1_copyFrom cw_z rfl rfl)))))))))))))))))))))))))

